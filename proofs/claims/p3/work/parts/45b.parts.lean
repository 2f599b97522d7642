theorem d_PartsReader_takePart_0 : decode b_PartsReader_takePart 0 = .ok (.aload_n 0, 1) := by decide +kernel
theorem d_PartsReader_takePart_1 : decode b_PartsReader_takePart 1 = .ok (.getfield 9, 3) := by decide +kernel
theorem d_PartsReader_takePart_4 : decode b_PartsReader_takePart 4 = .ok (.iload_n 1, 1) := by decide +kernel
theorem d_PartsReader_takePart_5 : decode b_PartsReader_takePart 5 = .ok (.invokevirtual 33, 3) := by decide +kernel
theorem d_PartsReader_takePart_8 : decode b_PartsReader_takePart 8 = .ok (.bipush 8, 2) := by decide +kernel
theorem d_PartsReader_takePart_10 : decode b_PartsReader_takePart 10 = .ok (.ishl, 1) := by decide +kernel
theorem d_PartsReader_takePart_11 : decode b_PartsReader_takePart 11 = .ok (.aload_n 0, 1) := by decide +kernel
theorem d_PartsReader_takePart_12 : decode b_PartsReader_takePart 12 = .ok (.getfield 9, 3) := by decide +kernel
theorem d_PartsReader_takePart_15 : decode b_PartsReader_takePart 15 = .ok (.iload_n 1, 1) := by decide +kernel
theorem d_PartsReader_takePart_16 : decode b_PartsReader_takePart 16 = .ok (.iconst 1, 1) := by decide +kernel
theorem d_PartsReader_takePart_17 : decode b_PartsReader_takePart 17 = .ok (.iadd, 1) := by decide +kernel
theorem d_PartsReader_takePart_18 : decode b_PartsReader_takePart 18 = .ok (.invokevirtual 33, 3) := by decide +kernel
theorem d_PartsReader_takePart_21 : decode b_PartsReader_takePart 21 = .ok (.ior, 1) := by decide +kernel
theorem d_PartsReader_takePart_22 : decode b_PartsReader_takePart 22 = .ok (.lookupswitch 70 #[(17221, 63), (20045, 42), (20568, 49), (21324, 56)], 42) := by decide +kernel
theorem d_PartsReader_takePart_64 : decode b_PartsReader_takePart 64 = .ok (.aload_n 0, 1) := by decide +kernel
theorem d_PartsReader_takePart_65 : decode b_PartsReader_takePart 65 = .ok (.iload_n 1, 1) := by decide +kernel
theorem d_PartsReader_takePart_66 : decode b_PartsReader_takePart 66 = .ok (.iload_n 2, 1) := by decide +kernel
theorem d_PartsReader_takePart_67 : decode b_PartsReader_takePart 67 = .ok (.invokevirtual 61, 3) := by decide +kernel
theorem d_PartsReader_takePart_70 : decode b_PartsReader_takePart 70 = .ok (.ireturn, 1) := by decide +kernel
theorem d_PartsReader_takePart_71 : decode b_PartsReader_takePart 71 = .ok (.aload_n 0, 1) := by decide +kernel
theorem d_PartsReader_takePart_72 : decode b_PartsReader_takePart 72 = .ok (.iload_n 1, 1) := by decide +kernel
theorem d_PartsReader_takePart_73 : decode b_PartsReader_takePart 73 = .ok (.iload_n 2, 1) := by decide +kernel
theorem d_PartsReader_takePart_74 : decode b_PartsReader_takePart 74 = .ok (.invokevirtual 64, 3) := by decide +kernel
theorem d_PartsReader_takePart_77 : decode b_PartsReader_takePart 77 = .ok (.ireturn, 1) := by decide +kernel
theorem d_PartsReader_takePart_78 : decode b_PartsReader_takePart 78 = .ok (.aload_n 0, 1) := by decide +kernel
theorem d_PartsReader_takePart_79 : decode b_PartsReader_takePart 79 = .ok (.iload_n 1, 1) := by decide +kernel
theorem d_PartsReader_takePart_80 : decode b_PartsReader_takePart 80 = .ok (.iload_n 2, 1) := by decide +kernel
theorem d_PartsReader_takePart_81 : decode b_PartsReader_takePart 81 = .ok (.invokevirtual 67, 3) := by decide +kernel
theorem d_PartsReader_takePart_84 : decode b_PartsReader_takePart 84 = .ok (.ireturn, 1) := by decide +kernel
theorem d_PartsReader_takePart_85 : decode b_PartsReader_takePart 85 = .ok (.aload_n 0, 1) := by decide +kernel
theorem d_PartsReader_takePart_86 : decode b_PartsReader_takePart 86 = .ok (.iload_n 1, 1) := by decide +kernel
theorem d_PartsReader_takePart_87 : decode b_PartsReader_takePart 87 = .ok (.iload_n 2, 1) := by decide +kernel
theorem d_PartsReader_takePart_88 : decode b_PartsReader_takePart 88 = .ok (.invokevirtual 70, 3) := by decide +kernel
theorem d_PartsReader_takePart_91 : decode b_PartsReader_takePart 91 = .ok (.ireturn, 1) := by decide +kernel
theorem d_PartsReader_takePart_92 : decode b_PartsReader_takePart 92 = .ok (.iconst 1, 1) := by decide +kernel
theorem d_PartsReader_takePart_93 : decode b_PartsReader_takePart 93 = .ok (.ireturn, 1) := by decide +kernel
set_option maxHeartbeats 4000000 in
set_option maxRecDepth 100000 in
theorem c3_takePart (l : Launch) (D : va_G) (cB cI cJ cZ cN cF : ClassId) (sz : Nat) (h0 : Nat) (fo : Nat) (im : Nat) (iq : Nat) (n : Nat) (L : Int32) (f : Nat → Int32) (nm : Int32) (co : Int32) (ta : Int32) (lc : Int32) (a1 : Nat) (a2 : Nat) (pa : Int32) (de : Int32) (so : Int32) (si : Int32) (se : Int32) (mo : Int32) (ow : Int32) (gr : Int32) (nl : Int32) (tl : Int32) (mk : Int32) (f1 : Nat → Int32) (f2 : Nat → Int32) (x : Int32) (y : Int32) (hL : 0 ≤ L.toInt ∧ L.toInt ≤ n) (hn : n ≤ 3000000) (hx : 0 ≤ x.toInt ∧ x.toInt ≤ 4000000) (hy : 4 ≤ y.toInt ∧ y.toInt ≤ 255) (hnl : 0 ≤ nl.toInt ∧ nl.toInt ≤ 60) (hc0 : co.toInt = 0 → tl.toInt = 0) (ht0 : ta.toInt ≠ 0 → tl.toInt = 0) (hta : 0 ≤ ta.toInt ∧ ta.toInt ≤ 1) (htl : 0 ≤ tl.toInt ∧ tl.toInt ≤ 400) (hco : 0 ≤ co.toInt ∧ co.toInt ≤ 1000000000) : Met l y_PartsReader_takePart w_PartsReader_takePart ({ frames := 2, cells := 0, slots := 0, locals := 63 }) (va_Pc [.ref h0, .int x, .int y] (fun U => U.heap.size = sz ∧ va_P D CL [(h0, .inr (6, [.ref im, .ref fo, .int nm, .int co, .int ta, .int lc])), (im, .inr (1, [.ref iq, .int L])), (iq, .inl (cB, n, .inl f)), (fo, .inr (2, [.ref a1, .ref a2, .int pa, .int de, .int so, .int si, .int se, .int mo, .int ow, .int gr, .int nl, .int tl, .int mk])), (a1, .inl (cB, 60, .inl f1)), (a2, .inl (cB, 400, .inl f2))] U.heap ∧ va_K D CL (TY cB cI cJ cZ cN cF) U ∧ NN U ∧ va_D (fun _ => True) [(h0, .inr (6, [.ref im, .ref fo, .int nm, .int co, .int ta, .int lc])), (im, .inr (1, [.ref iq, .int L])), (iq, .inl (cB, n, .inl f)), (fo, .inr (2, [.ref a1, .ref a2, .int pa, .int de, .int so, .int si, .int se, .int mo, .int ow, .int gr, .int nl, .int tl, .int mk])), (a1, .inl (cB, 60, .inl f1)), (a2, .inl (cB, 400, .inl f2))])) (va_Qi (fun (r : Int32) (u : Int32 × Int32 × Int32 × Int32 × Int32 × Int32 × Int32 × Int32 × Int32 × (Nat → Int32) × (Nat → Int32)) => match u with | (nm2, co2, ta2, lc2, mo2, ow2, gr2, nl2, tl2, g1, g2) => (0 ≤ r.toInt ∧ r.toInt ≤ 1) ∧ (r.toInt ≠ 0 → (0 ≤ nl2.toInt ∧ nl2.toInt ≤ 60)) ∧ (r.toInt ≠ 0 → (co2.toInt = 0 → tl2.toInt = 0)) ∧ (r.toInt ≠ 0 → (ta2.toInt ≠ 0 → tl2.toInt = 0)) ∧ (r.toInt ≠ 0 → (0 ≤ ta2.toInt ∧ ta2.toInt ≤ 1)) ∧ (r.toInt ≠ 0 → (0 ≤ tl2.toInt ∧ tl2.toInt ≤ 400)) ∧ (r.toInt ≠ 0 → (0 ≤ co2.toInt ∧ co2.toInt ≤ co.toInt + y.toInt)) ∧ (r.toInt ≠ 0 → (lc2 = lc ∨ (lc2 = x ∧ CEok f L x)))) (fun (u : Int32 × Int32 × Int32 × Int32 × Int32 × Int32 × Int32 × Int32 × Int32 × (Nat → Int32) × (Nat → Int32)) (t : State) => match u with | (nm2, co2, ta2, lc2, mo2, ow2, gr2, nl2, tl2, g1, g2) => va_P D CL [(h0, .inr (6, [.ref im, .ref fo, .int nm2, .int co2, .int ta2, .int lc2])), (im, .inr (1, [.ref iq, .int L])), (iq, .inl (cB, n, .inl f)), (fo, .inr (2, [.ref a1, .ref a2, .int pa, .int de, .int so, .int si, .int se, .int mo2, .int ow2, .int gr2, .int nl2, .int tl2, .int mk])), (a1, .inl (cB, 60, .inl g1)), (a2, .inl (cB, 400, .inl g2))] t.heap ∧ va_D (va_A [(h0, .inr (6, [.ref im, .ref fo, .int nm, .int co, .int ta, .int lc])), (im, .inr (1, [.ref iq, .int L])), (iq, .inl (cB, n, .inl f)), (fo, .inr (2, [.ref a1, .ref a2, .int pa, .int de, .int so, .int si, .int se, .int mo, .int ow, .int gr, .int nl, .int tl, .int mk])), (a1, .inl (cB, 60, .inl f1)), (a2, .inl (cB, 400, .inl f2))] sz) [(h0, .inr (6, [.ref im, .ref fo, .int nm2, .int co2, .int ta2, .int lc2])), (im, .inr (1, [.ref iq, .int L])), (iq, .inl (cB, n, .inl f)), (fo, .inr (2, [.ref a1, .ref a2, .int pa, .int de, .int so, .int si, .int se, .int mo2, .int ow2, .int gr2, .int nl2, .int tl2, .int mk])), (a1, .inl (cB, 60, .inl g1)), (a2, .inl (cB, 400, .inl g2))]) (va_A [(h0, .inr (6, [.ref im, .ref fo, .int nm, .int co, .int ta, .int lc])), (im, .inr (1, [.ref iq, .int L])), (iq, .inl (cB, n, .inl f)), (fo, .inr (2, [.ref a1, .ref a2, .int pa, .int de, .int so, .int si, .int se, .int mo, .int ow, .int gr, .int nl, .int tl, .int mk])), (a1, .inl (cB, 60, .inl f1)), (a2, .inl (cB, 400, .inl f2))] sz)) 0 0 (va_A [(h0, .inr (6, [.ref im, .ref fo, .int nm, .int co, .int ta, .int lc])), (im, .inr (1, [.ref iq, .int L])), (iq, .inl (cB, n, .inl f)), (fo, .inr (2, [.ref a1, .ref a2, .int pa, .int de, .int so, .int si, .int se, .int mo, .int ow, .int gr, .int nl, .int tl, .int mk])), (a1, .inl (cB, 60, .inl f1)), (a2, .inl (cB, 400, .inl f2))] sz) := by
  refine Met.ofW (cc := b_PartsReader_takePart) (maxL := 3) (ret := some .boolean) (by decide +kernel) rfl ?_
  intro p e s m args below meth c s₁ B hml hv
  obtain ⟨rfl, hsz, hP, hK, hN, hD0⟩ := hv
  have hx := B.exec
  have hb := B.bytes
  have hr := B.returns
  have hts := atoms_spec (ws := w_PartsReader_takePart) B.pre
  have ht9 := fun (w : Cond) (h : w ∈ lw_g) => hts w (List.mem_cons_of_mem _ h)
  have hown : s.vm.findClass "DiscMaker$PartsReader" = some m.cls := findClass_of_methodNamed B.named
  have hlocks := B.notSynchronized
  subst hsz
  have hD := hD0.self (sz := s.heap.size)
  generalize hAe : va_A [(h0, .inr (6, [.ref im, .ref fo, .int nm, .int co, .int ta, .int lc])), (im, .inr (1, [.ref iq, .int L])), (iq, .inl (cB, n, .inl f)), (fo, .inr (2, [.ref a1, .ref a2, .int pa, .int de, .int so, .int si, .int se, .int mo, .int ow, .int gr, .int nl, .int tl, .int mk])), (a1, .inl (cB, 60, .inl f1)), (a2, .inl (cB, 400, .inl f2))] s.heap.size = A at hD ⊢
  have hA : ∀ q : Nat, s.heap.size ≤ q → A q := fun q h => by rw [← hAe]; exact Or.inr h
  have hS : va_S A s.heap s.heap [] := va_S.rf
  have hP : va_P D CL [(h0, .inr (6, [.ref im, .ref fo, .int nm, .int co, .int ta, .int lc])), (im, .inr (1, [.ref iq, .int L])), (iq, .inl (cB, n, .inl f)), (fo, .inr (2, [.ref a1, .ref a2, .int pa, .int de, .int so, .int si, .int se, .int mo, .int ow, .int gr, .int nl, .int tl, .int mk])), (a1, .inl (cB, 60, .inl f1)), (a2, .inl (cB, 400, .inl f2))] s.heap := hP
  have hl := lv_entry [.ref h0, .int x, .int y] (n := 3) (Nat.le_of_ble_eq_true rfl)
  rw [lg_entry_eq]
  generalize (lg_sl [.ref h0, .int x, .int y] ++ List.replicate (3 - (lg_sl [.ref h0, .int x, .int y]).length) Slot.unset).toArray = ls at hl ⊢
  have hl : lv_has ls 3 [(0, .ref h0), (1, .int x), (2, .int y)] := hl
  have L_m1 : ((-1) : Int32).toInt = (-1) := by decide
  have L_0 : (0 : Int32).toInt = 0 := by decide
  have L_1 : (1 : Int32).toInt = 1 := by decide
  have L_8 : (8 : Int32).toInt = 8 := by decide
  refine lv_aload_n hx hb d_PartsReader_takePart_0 rfl (lv_at hl 0 rfl) ?_
  refine va_get (D := D) (ci := 6) (v := .ref im) (C := "DiscMaker$PartsReader") (T := F_PartsReader) (N := 6) hx hb ht9 in_PartsReader hown hK hP 0 rfl rfl 0 (by decide) (ht9 _ k392) (fun _ h9 => h9) rfl d_PartsReader_takePart_1 ?_
  refine lv_iload_n hx hb d_PartsReader_takePart_4 rfl (lv_at hl 1 rfl) ?_
  have hPc := hP.sub (ws' := [(im, .inr (1, [.ref iq, .int L])), (iq, .inl (cB, n, .inl f))]) [1, 2] rfl
  have hDc := hD.sub (ws' := [(im, .inr (1, [.ref iq, .int L])), (iq, .inl (cB, n, .inl f))]) [1, 2] (by decide +kernel) rfl
  have hFc := va_free (wc := [(im, .inr (1, [.ref iq, .int L])), (iq, .inl (cB, n, .inl f))]) hD hS hA [1, 2] rfl
  have hkc : 0 ≤ 0 := by decide
  have hks : 0 ≤ 0 := by decide
  refine va_calli (va_runV (C := "DiscMaker$Bytes") (As := [.int x]) (rest := []) ⟨hx, hb, hml, hown, hts⟩ (c3_at l D cB cI cJ cZ cN cF s.heap.size im iq n L f x (by (try dsimp only); first | assumption | omega | trivial) (by (try dsimp only); first | assumption | omega | trivial)) (cwV 1 hts (lg_goodV k1321 k1065 k1066 k119 kc_Bytes_at) rfl rfl rfl (by decide +kernel) ⟨Nat.le_of_ble_eq_true rfl, Nat.le_of_ble_eq_true rfl⟩) ⟨fun a U g mk q => by obtain ⟨q0, q1, qP, qK, qN, qD⟩ := q; exact ⟨q0, q1, qP, va_K.moved (u := U) (U := U.calling g mk a) (Vm.Alike.refl U.vm) qK, qN.calling, qD⟩, va_recv hK hP (ci := 1) (q0 := 1) rfl rfl, fun U hU hW => ⟨rfl, by rw [hU], by rw [hU]; exact hPc, va_K.moved hW.alike hK, NN.warm hW hN, hDc.weaken (fun _ _ _ _ => trivial)⟩⟩ rfl rfl hl.1 rfl (lv_room (Nat.le_of_ble_eq_true rfl)) d_PartsReader_takePart_5 ⟨hkc, hks⟩) hS (fun q _ h => hFc q h) hFc (fun r1 u t H1 locs ht hvm hp_r1 hB hz1 hk1 hS => ?_)
  obtain ⟨hP1, hD1⟩ := hB
  rw [ht] at hP1
  obtain ⟨hP, hD⟩ := va_join (wr := [(h0, .inr (6, [.ref im, .ref fo, .int nm, .int co, .int ta, .int lc])), (fo, .inr (2, [.ref a1, .ref a2, .int pa, .int de, .int so, .int si, .int se, .int mo, .int ow, .int gr, .int nl, .int tl, .int mk])), (a1, .inl (cB, 60, .inl f1)), (a2, .inl (cB, 400, .inl f2))]) (w1 := [(im, .inr (1, [.ref iq, .int L])), (iq, .inl (cB, n, .inl f))]) hP hD [1, 2] [0, 3, 4, 5] rfl rfl (by decide +kernel) (by decide +kernel) hk1 hFc hP1 hD1
  clear hPc hDc hFc hP1 hD1 hk1 hz1 hkc hks
  generalize H1 = H at hP hS ⊢
  have hP : va_P D CL [(h0, .inr (6, [.ref im, .ref fo, .int nm, .int co, .int ta, .int lc])), (fo, .inr (2, [.ref a1, .ref a2, .int pa, .int de, .int so, .int si, .int se, .int mo, .int ow, .int gr, .int nl, .int tl, .int mk])), (a1, .inl (cB, 60, .inl f1)), (a2, .inl (cB, 400, .inl f2)), (im, .inr (1, [.ref iq, .int L])), (iq, .inl (cB, n, .inl f))] H := hP
  have hD : va_D A [(h0, .inr (6, [.ref im, .ref fo, .int nm, .int co, .int ta, .int lc])), (fo, .inr (2, [.ref a1, .ref a2, .int pa, .int de, .int so, .int si, .int se, .int mo, .int ow, .int gr, .int nl, .int tl, .int mk])), (a1, .inl (cB, 60, .inl f1)), (a2, .inl (cB, 400, .inl f2)), (im, .inr (1, [.ref iq, .int L])), (iq, .inl (cB, n, .inl f))] := hD
  try dsimp only at hp_r1
  obtain ⟨hr_2, hv_3⟩ := hp_r1
  refine lv_bipush (v := 8) hx hb d_PartsReader_takePart_8 (by decide) ?_
  refine lv_ishl hx hb d_PartsReader_takePart_10 ?_
  refine lv_topi (fun v4 e_v4 => ?_)
  refine lv_aload_n hx hb d_PartsReader_takePart_11 rfl (lv_at hl 0 rfl) ?_
  refine va_get (D := D) (ci := 6) (v := .ref im) (C := "DiscMaker$PartsReader") (T := F_PartsReader) (N := 6) hx hb ht9 in_PartsReader hown hK hP 0 rfl rfl 0 (by decide) (ht9 _ k392) (fun _ h9 => h9) rfl d_PartsReader_takePart_12 ?_
  refine lv_iload_n hx hb d_PartsReader_takePart_15 rfl (lv_at hl 1 rfl) ?_
  refine lv_iconst (v := 1) hx hb d_PartsReader_takePart_16 (by decide) ?_
  refine lv_iadd hx hb d_PartsReader_takePart_17 ?_
  refine lv_topi (fun v5 e_v5 => ?_)
  have t_v5 : v5.toInt = x.toInt + 1 := by rw [e_v5]; exact i_add rfl (by decide) (by omega) (by omega)
  have hPc := hP.sub (ws' := [(im, .inr (1, [.ref iq, .int L])), (iq, .inl (cB, n, .inl f))]) [4, 5] rfl
  have hDc := hD.sub (ws' := [(im, .inr (1, [.ref iq, .int L])), (iq, .inl (cB, n, .inl f))]) [4, 5] (by decide +kernel) rfl
  have hFc := va_free (wc := [(im, .inr (1, [.ref iq, .int L])), (iq, .inl (cB, n, .inl f))]) hD hS hA [4, 5] rfl
  have hkc : 0 ≤ 0 := by decide
  have hks : 0 ≤ 0 := by decide
  refine va_calli (va_runV (C := "DiscMaker$Bytes") (As := [.int v5]) (rest := [.int v4]) ⟨hx, hb, hml, hown, hts⟩ (c3_at l D cB cI cJ cZ cN cF H.size im iq n L f v5 (by (try dsimp only); first | assumption | omega | trivial) (by (try dsimp only); first | assumption | omega | trivial)) (cwV 1 hts (lg_goodV k1321 k1065 k1066 k119 kc_Bytes_at) rfl rfl rfl (by decide +kernel) ⟨Nat.le_of_ble_eq_true rfl, Nat.le_of_ble_eq_true rfl⟩) ⟨fun a U g mk q => by obtain ⟨q0, q1, qP, qK, qN, qD⟩ := q; exact ⟨q0, q1, qP, va_K.moved (u := U) (U := U.calling g mk a) (Vm.Alike.refl U.vm) qK, qN.calling, qD⟩, va_recv hK hP (ci := 1) (q0 := 4) rfl rfl, fun U hU hW => ⟨rfl, by rw [hU], by rw [hU]; exact hPc, va_K.moved hW.alike hK, NN.warm hW hN, hDc.weaken (fun _ _ _ _ => trivial)⟩⟩ rfl rfl hl.1 rfl (lv_room (Nat.le_of_ble_eq_true rfl)) d_PartsReader_takePart_18 ⟨hkc, hks⟩) hS (fun q _ h => hFc q h) hFc (fun r6 u t H1 locs ht hvm hp_r6 hB hz1 hk1 hS => ?_)
  obtain ⟨hP1, hD1⟩ := hB
  rw [ht] at hP1
  obtain ⟨hP, hD⟩ := va_join (wr := [(h0, .inr (6, [.ref im, .ref fo, .int nm, .int co, .int ta, .int lc])), (fo, .inr (2, [.ref a1, .ref a2, .int pa, .int de, .int so, .int si, .int se, .int mo, .int ow, .int gr, .int nl, .int tl, .int mk])), (a1, .inl (cB, 60, .inl f1)), (a2, .inl (cB, 400, .inl f2))]) (w1 := [(im, .inr (1, [.ref iq, .int L])), (iq, .inl (cB, n, .inl f))]) hP hD [4, 5] [0, 1, 2, 3] rfl rfl (by decide +kernel) (by decide +kernel) hk1 hFc hP1 hD1
  clear hPc hDc hFc hP1 hD1 hk1 hz1 hkc hks
  generalize H1 = H at hP hS ⊢
  have hP : va_P D CL [(h0, .inr (6, [.ref im, .ref fo, .int nm, .int co, .int ta, .int lc])), (fo, .inr (2, [.ref a1, .ref a2, .int pa, .int de, .int so, .int si, .int se, .int mo, .int ow, .int gr, .int nl, .int tl, .int mk])), (a1, .inl (cB, 60, .inl f1)), (a2, .inl (cB, 400, .inl f2)), (im, .inr (1, [.ref iq, .int L])), (iq, .inl (cB, n, .inl f))] H := hP
  have hD : va_D A [(h0, .inr (6, [.ref im, .ref fo, .int nm, .int co, .int ta, .int lc])), (fo, .inr (2, [.ref a1, .ref a2, .int pa, .int de, .int so, .int si, .int se, .int mo, .int ow, .int gr, .int nl, .int tl, .int mk])), (a1, .inl (cB, 60, .inl f1)), (a2, .inl (cB, 400, .inl f2)), (im, .inr (1, [.ref iq, .int L])), (iq, .inl (cB, n, .inl f))] := hD
  try dsimp only at hp_r6
  obtain ⟨hr_7, hv_8⟩ := hp_r6
  refine lv_ior hx hb d_PartsReader_takePart_21 ?_
  refine lv_topi (fun v9 e_v9 => ?_)
  rcases (show v9.toInt = 17221 ∨ v9.toInt = 20045 ∨ v9.toInt = 20568 ∨ v9.toInt = 21324 ∨ (v9.toInt ≠ 17221 ∧ v9.toInt ≠ 20045 ∧ v9.toInt ≠ 20568 ∧ v9.toInt ≠ 21324) by omega) with h_9 | h_9 | h_9 | h_9 | h_9
  · skip
    have e_9 : v9 = 17221 := Int32.toInt_inj.mp (by rw [h_9]; decide)
    subst e_9
    refine lv_lookup (off := 63) (tgt := 85) hx hb d_PartsReader_takePart_22 (by decide) (by decide) (by decide) ?_
    refine lv_aload_n hx hb d_PartsReader_takePart_85 rfl (lv_at hl 0 rfl) ?_
    refine lv_iload_n hx hb d_PartsReader_takePart_86 rfl (lv_at hl 1 rfl) ?_
    refine lv_iload_n hx hb d_PartsReader_takePart_87 rfl (lv_at hl 2 rfl) ?_
    have hPc := hP.sub (ws' := [(h0, .inr (6, [.ref im, .ref fo, .int nm, .int co, .int ta, .int lc])), (im, .inr (1, [.ref iq, .int L])), (iq, .inl (cB, n, .inl f))]) [0, 4, 5] rfl
    have hDc := hD.sub (ws' := [(h0, .inr (6, [.ref im, .ref fo, .int nm, .int co, .int ta, .int lc])), (im, .inr (1, [.ref iq, .int L])), (iq, .inl (cB, n, .inl f))]) [0, 4, 5] (by decide +kernel) rfl
    have hFc := va_free (wc := [(h0, .inr (6, [.ref im, .ref fo, .int nm, .int co, .int ta, .int lc])), (im, .inr (1, [.ref iq, .int L])), (iq, .inl (cB, n, .inl f))]) hD hS hA [0, 4, 5] rfl
    have hkc : 0 ≤ 0 := by decide
    have hks : 0 ≤ 0 := by decide
    refine va_calli (va_runV (C := "DiscMaker$PartsReader") (As := [.int x, .int y]) (rest := []) ⟨hx, hb, hml, hown, hts⟩ (c3_takeContinuation l D cB cI cJ cZ cN cF H.size h0 fo im iq n L f nm co ta lc x y (by (try dsimp only); first | assumption | omega | trivial) (by (try dsimp only); first | assumption | omega | trivial) (by (try dsimp only); first | assumption | omega | trivial) (by (try dsimp only); first | assumption | omega | trivial)) (cwV 2 hts (lg_goodV k1356 k1358 k49 k124 kc_PartsReader_takeContinuation) rfl rfl rfl (by decide +kernel) ⟨Nat.le_of_ble_eq_true rfl, Nat.le_of_ble_eq_true rfl⟩) ⟨fun a U g mk q => by obtain ⟨q0, q1, qP, qK, qN, qD⟩ := q; exact ⟨q0, q1, qP, va_K.moved (u := U) (U := U.calling g mk a) (Vm.Alike.refl U.vm) qK, qN.calling, qD⟩, va_recv hK hP (ci := 6) (q0 := 0) rfl rfl, fun U hU hW => ⟨rfl, by rw [hU], by rw [hU]; exact hPc, va_K.moved hW.alike hK, NN.warm hW hN, hDc.weaken (fun _ _ _ _ => trivial)⟩⟩ rfl rfl hl.1 rfl (lv_room (Nat.le_of_ble_eq_true rfl)) d_PartsReader_takePart_88 ⟨hkc, hks⟩) hS (fun q _ h => hFc q h) hFc (fun r10 u t H1 locs ht hvm hp_r10 hB hz1 hk1 hS => ?_)
    obtain ⟨lc2_11, rfl⟩ : ∃ z, z = u := ⟨_, rfl⟩
    obtain ⟨hP1, hD1⟩ := hB
    rw [ht] at hP1
    obtain ⟨hP, hD⟩ := va_join (wr := [(fo, .inr (2, [.ref a1, .ref a2, .int pa, .int de, .int so, .int si, .int se, .int mo, .int ow, .int gr, .int nl, .int tl, .int mk])), (a1, .inl (cB, 60, .inl f1)), (a2, .inl (cB, 400, .inl f2))]) (w1 := [(h0, .inr (6, [.ref im, .ref fo, .int nm, .int co, .int ta, .int lc2_11])), (im, .inr (1, [.ref iq, .int L])), (iq, .inl (cB, n, .inl f))]) hP hD [0, 4, 5] [1, 2, 3] rfl rfl (by decide +kernel) (by decide +kernel) hk1 hFc hP1 hD1
    clear hPc hDc hFc hP1 hD1 hk1 hz1 hkc hks
    generalize H1 = H at hP hS ⊢
    have hP : va_P D CL [(fo, .inr (2, [.ref a1, .ref a2, .int pa, .int de, .int so, .int si, .int se, .int mo, .int ow, .int gr, .int nl, .int tl, .int mk])), (a1, .inl (cB, 60, .inl f1)), (a2, .inl (cB, 400, .inl f2)), (h0, .inr (6, [.ref im, .ref fo, .int nm, .int co, .int ta, .int lc2_11])), (im, .inr (1, [.ref iq, .int L])), (iq, .inl (cB, n, .inl f))] H := hP
    have hD : va_D A [(fo, .inr (2, [.ref a1, .ref a2, .int pa, .int de, .int so, .int si, .int se, .int mo, .int ow, .int gr, .int nl, .int tl, .int mk])), (a1, .inl (cB, 60, .inl f1)), (a2, .inl (cB, 400, .inl f2)), (h0, .inr (6, [.ref im, .ref fo, .int nm, .int co, .int ta, .int lc2_11])), (im, .inr (1, [.ref iq, .int L])), (iq, .inl (cB, n, .inl f))] := hD
    try dsimp only at hp_r10
    obtain ⟨hr_12, hc_13⟩ := hp_r10
    have hP9 := hP.sub (ws' := [(h0, .inr (6, [.ref im, .ref fo, .int nm, .int co, .int ta, .int lc2_11])), (im, .inr (1, [.ref iq, .int L])), (iq, .inl (cB, n, .inl f)), (fo, .inr (2, [.ref a1, .ref a2, .int pa, .int de, .int so, .int si, .int se, .int mo, .int ow, .int gr, .int nl, .int tl, .int mk])), (a1, .inl (cB, 60, .inl f1)), (a2, .inl (cB, 400, .inl f2))]) [3, 4, 5, 0, 1, 2] rfl
    have hD9 := hD.sub (ws' := [(h0, .inr (6, [.ref im, .ref fo, .int nm, .int co, .int ta, .int lc2_11])), (im, .inr (1, [.ref iq, .int L])), (iq, .inl (cB, n, .inl f)), (fo, .inr (2, [.ref a1, .ref a2, .int pa, .int de, .int so, .int si, .int se, .int mo, .int ow, .int gr, .int nl, .int tl, .int mk])), (a1, .inl (cB, 60, .inl f1)), (a2, .inl (cB, 400, .inl f2))]) [3, 4, 5, 0, 1, 2] (by decide +kernel) rfl
    exact W.zret (v := r10) hx hb hr (by first | rfl | decide | exact i_narZ (by omega)) (fun t ht hW => ⟨⟨r10, (nm, co, ta, lc2_11, mo, ow, gr, nl, tl, f1, f2), rfl, ⟨(by (try dsimp only); first | assumption | omega | trivial), (by (try dsimp only); intro h7; first | (exfalso; omega) | omega | assumption), (by (try dsimp only); intro h7; first | (exfalso; omega) | omega | assumption), (by (try dsimp only); intro h7; first | (exfalso; omega) | omega | assumption), (by (try dsimp only); intro h7; first | (exfalso; omega) | omega | assumption), (by (try dsimp only); intro h7; first | (exfalso; omega) | omega | assumption), (by (try dsimp only); intro h7; first | (exfalso; omega) | omega | assumption), (by (try dsimp only); intro h7; exact Or.inr (hc_13 h7))⟩, by rw [ht]; exact hP9, hD9⟩, hS.F ht⟩) hS.2.2 d_PartsReader_takePart_91
  · skip
    have e_9 : v9 = 20045 := Int32.toInt_inj.mp (by rw [h_9]; decide)
    subst e_9
    refine lv_lookup (off := 42) (tgt := 64) hx hb d_PartsReader_takePart_22 (by decide) (by decide) (by decide) ?_
    refine lv_aload_n hx hb d_PartsReader_takePart_64 rfl (lv_at hl 0 rfl) ?_
    refine lv_iload_n hx hb d_PartsReader_takePart_65 rfl (lv_at hl 1 rfl) ?_
    refine lv_iload_n hx hb d_PartsReader_takePart_66 rfl (lv_at hl 2 rfl) ?_
    have hPc := hP.sub (ws' := [(h0, .inr (6, [.ref im, .ref fo, .int nm, .int co, .int ta, .int lc])), (im, .inr (1, [.ref iq, .int L])), (iq, .inl (cB, n, .inl f)), (fo, .inr (2, [.ref a1, .ref a2, .int pa, .int de, .int so, .int si, .int se, .int mo, .int ow, .int gr, .int nl, .int tl, .int mk])), (a1, .inl (cB, 60, .inl f1))]) [0, 4, 5, 1, 2] rfl
    have hDc := hD.sub (ws' := [(h0, .inr (6, [.ref im, .ref fo, .int nm, .int co, .int ta, .int lc])), (im, .inr (1, [.ref iq, .int L])), (iq, .inl (cB, n, .inl f)), (fo, .inr (2, [.ref a1, .ref a2, .int pa, .int de, .int so, .int si, .int se, .int mo, .int ow, .int gr, .int nl, .int tl, .int mk])), (a1, .inl (cB, 60, .inl f1))]) [0, 4, 5, 1, 2] (by decide +kernel) rfl
    have hFc := va_free (wc := [(h0, .inr (6, [.ref im, .ref fo, .int nm, .int co, .int ta, .int lc])), (im, .inr (1, [.ref iq, .int L])), (iq, .inl (cB, n, .inl f)), (fo, .inr (2, [.ref a1, .ref a2, .int pa, .int de, .int so, .int si, .int se, .int mo, .int ow, .int gr, .int nl, .int tl, .int mk])), (a1, .inl (cB, 60, .inl f1))]) hD hS hA [0, 4, 5, 1, 2] rfl
    have hkc : 0 ≤ 0 := by decide
    have hks : 0 ≤ 0 := by decide
    refine va_calli (va_runV (C := "DiscMaker$PartsReader") (As := [.int x, .int y]) (rest := []) ⟨hx, hb, hml, hown, hts⟩ (c3_takeName l D cB cI cJ cZ cN cF H.size h0 fo im iq n L f nm co ta lc a1 a2 pa de so si se mo ow gr nl tl mk f1 x y (by (try dsimp only); first | assumption | omega | trivial) (by (try dsimp only); first | assumption | omega | trivial) (by (try dsimp only); first | assumption | omega | trivial) (by (try dsimp only); first | assumption | omega | trivial) (by (try dsimp only); first | assumption | omega | trivial)) (cwV 2 hts (lg_goodV k1326 k1328 k46 k124 kc_PartsReader_takeName) rfl rfl rfl (by decide +kernel) ⟨Nat.le_of_ble_eq_true rfl, Nat.le_of_ble_eq_true rfl⟩) ⟨fun a U g mk q => by obtain ⟨q0, q1, qP, qK, qN, qD⟩ := q; exact ⟨q0, q1, qP, va_K.moved (u := U) (U := U.calling g mk a) (Vm.Alike.refl U.vm) qK, qN.calling, qD⟩, va_recv hK hP (ci := 6) (q0 := 0) rfl rfl, fun U hU hW => ⟨rfl, by rw [hU], by rw [hU]; exact hPc, va_K.moved hW.alike hK, NN.warm hW hN, hDc.weaken (fun _ _ _ _ => trivial)⟩⟩ rfl rfl hl.1 rfl (lv_room (Nat.le_of_ble_eq_true rfl)) d_PartsReader_takePart_67 ⟨hkc, hks⟩) hS (fun q _ h => hFc q h) hFc (fun r14 u t H1 locs ht hvm hp_r14 hB hz1 hk1 hS => ?_)
    obtain ⟨nm2_15, nl2_16, g_17⟩ := u
    obtain ⟨hP1, hD1⟩ := hB
    rw [ht] at hP1
    obtain ⟨hP, hD⟩ := va_join (wr := [(a2, .inl (cB, 400, .inl f2))]) (w1 := [(h0, .inr (6, [.ref im, .ref fo, .int nm2_15, .int co, .int ta, .int lc])), (im, .inr (1, [.ref iq, .int L])), (iq, .inl (cB, n, .inl f)), (fo, .inr (2, [.ref a1, .ref a2, .int pa, .int de, .int so, .int si, .int se, .int mo, .int ow, .int gr, .int nl2_16, .int tl, .int mk])), (a1, .inl (cB, 60, .inl g_17))]) hP hD [0, 4, 5, 1, 2] [3] rfl rfl (by decide +kernel) (by decide +kernel) hk1 hFc hP1 hD1
    clear hPc hDc hFc hP1 hD1 hk1 hz1 hkc hks
    generalize H1 = H at hP hS ⊢
    have hP : va_P D CL [(a2, .inl (cB, 400, .inl f2)), (h0, .inr (6, [.ref im, .ref fo, .int nm2_15, .int co, .int ta, .int lc])), (im, .inr (1, [.ref iq, .int L])), (iq, .inl (cB, n, .inl f)), (fo, .inr (2, [.ref a1, .ref a2, .int pa, .int de, .int so, .int si, .int se, .int mo, .int ow, .int gr, .int nl2_16, .int tl, .int mk])), (a1, .inl (cB, 60, .inl g_17))] H := hP
    have hD : va_D A [(a2, .inl (cB, 400, .inl f2)), (h0, .inr (6, [.ref im, .ref fo, .int nm2_15, .int co, .int ta, .int lc])), (im, .inr (1, [.ref iq, .int L])), (iq, .inl (cB, n, .inl f)), (fo, .inr (2, [.ref a1, .ref a2, .int pa, .int de, .int so, .int si, .int se, .int mo, .int ow, .int gr, .int nl2_16, .int tl, .int mk])), (a1, .inl (cB, 60, .inl g_17))] := hD
    try dsimp only at hp_r14
    obtain ⟨hr_18, hnl2_19⟩ := hp_r14
    have hP9 := hP.sub (ws' := [(h0, .inr (6, [.ref im, .ref fo, .int nm2_15, .int co, .int ta, .int lc])), (im, .inr (1, [.ref iq, .int L])), (iq, .inl (cB, n, .inl f)), (fo, .inr (2, [.ref a1, .ref a2, .int pa, .int de, .int so, .int si, .int se, .int mo, .int ow, .int gr, .int nl2_16, .int tl, .int mk])), (a1, .inl (cB, 60, .inl g_17)), (a2, .inl (cB, 400, .inl f2))]) [1, 2, 3, 4, 5, 0] rfl
    have hD9 := hD.sub (ws' := [(h0, .inr (6, [.ref im, .ref fo, .int nm2_15, .int co, .int ta, .int lc])), (im, .inr (1, [.ref iq, .int L])), (iq, .inl (cB, n, .inl f)), (fo, .inr (2, [.ref a1, .ref a2, .int pa, .int de, .int so, .int si, .int se, .int mo, .int ow, .int gr, .int nl2_16, .int tl, .int mk])), (a1, .inl (cB, 60, .inl g_17)), (a2, .inl (cB, 400, .inl f2))]) [1, 2, 3, 4, 5, 0] (by decide +kernel) rfl
    exact W.zret (v := r14) hx hb hr (by first | rfl | decide | exact i_narZ (by omega)) (fun t ht hW => ⟨⟨r14, (nm2_15, co, ta, lc, mo, ow, gr, nl2_16, tl, g_17, f2), rfl, ⟨(by (try dsimp only); first | assumption | omega | trivial), (by (try dsimp only); intro h7; first | (exfalso; omega) | omega | assumption), (by (try dsimp only); intro h7; first | (exfalso; omega) | omega | assumption), (by (try dsimp only); intro h7; first | (exfalso; omega) | omega | assumption), (by (try dsimp only); intro h7; first | (exfalso; omega) | omega | assumption), (by (try dsimp only); intro h7; first | (exfalso; omega) | omega | assumption), (by (try dsimp only); intro h7; first | (exfalso; omega) | omega | assumption), (by (try dsimp only); intro h7; exact Or.inl rfl)⟩, by rw [ht]; exact hP9, hD9⟩, hS.F ht⟩) hS.2.2 d_PartsReader_takePart_70
  · skip
    have e_9 : v9 = 20568 := Int32.toInt_inj.mp (by rw [h_9]; decide)
    subst e_9
    refine lv_lookup (off := 49) (tgt := 71) hx hb d_PartsReader_takePart_22 (by decide) (by decide) (by decide) ?_
    refine lv_aload_n hx hb d_PartsReader_takePart_71 rfl (lv_at hl 0 rfl) ?_
    refine lv_iload_n hx hb d_PartsReader_takePart_72 rfl (lv_at hl 1 rfl) ?_
    refine lv_iload_n hx hb d_PartsReader_takePart_73 rfl (lv_at hl 2 rfl) ?_
    have hPc := hP.sub (ws' := [(h0, .inr (6, [.ref im, .ref fo, .int nm, .int co, .int ta, .int lc])), (im, .inr (1, [.ref iq, .int L])), (iq, .inl (cB, n, .inl f)), (fo, .inr (2, [.ref a1, .ref a2, .int pa, .int de, .int so, .int si, .int se, .int mo, .int ow, .int gr, .int nl, .int tl, .int mk]))]) [0, 4, 5, 1] rfl
    have hDc := hD.sub (ws' := [(h0, .inr (6, [.ref im, .ref fo, .int nm, .int co, .int ta, .int lc])), (im, .inr (1, [.ref iq, .int L])), (iq, .inl (cB, n, .inl f)), (fo, .inr (2, [.ref a1, .ref a2, .int pa, .int de, .int so, .int si, .int se, .int mo, .int ow, .int gr, .int nl, .int tl, .int mk]))]) [0, 4, 5, 1] (by decide +kernel) rfl
    have hFc := va_free (wc := [(h0, .inr (6, [.ref im, .ref fo, .int nm, .int co, .int ta, .int lc])), (im, .inr (1, [.ref iq, .int L])), (iq, .inl (cB, n, .inl f)), (fo, .inr (2, [.ref a1, .ref a2, .int pa, .int de, .int so, .int si, .int se, .int mo, .int ow, .int gr, .int nl, .int tl, .int mk]))]) hD hS hA [0, 4, 5, 1] rfl
    have hkc : 0 ≤ 0 := by decide
    have hks : 0 ≤ 0 := by decide
    refine va_calli (va_runV (C := "DiscMaker$PartsReader") (As := [.int x, .int y]) (rest := []) ⟨hx, hb, hml, hown, hts⟩ (c3_takeOwnership l D cB cI cJ cZ cN cF H.size h0 fo im iq n L f nm co ta lc a1 a2 pa de so si se mo ow gr nl tl mk x y (by (try dsimp only); first | assumption | omega | trivial) (by (try dsimp only); first | assumption | omega | trivial) (by (try dsimp only); first | assumption | omega | trivial) (by (try dsimp only); first | assumption | omega | trivial)) (cwV 2 hts (lg_goodV k1332 k1334 k47 k124 kc_PartsReader_takeOwnership) rfl rfl rfl (by decide +kernel) ⟨Nat.le_of_ble_eq_true rfl, Nat.le_of_ble_eq_true rfl⟩) ⟨fun a U g mk q => by obtain ⟨q0, q1, qP, qK, qN, qD⟩ := q; exact ⟨q0, q1, qP, va_K.moved (u := U) (U := U.calling g mk a) (Vm.Alike.refl U.vm) qK, qN.calling, qD⟩, va_recv hK hP (ci := 6) (q0 := 0) rfl rfl, fun U hU hW => ⟨rfl, by rw [hU], by rw [hU]; exact hPc, va_K.moved hW.alike hK, NN.warm hW hN, hDc.weaken (fun _ _ _ _ => trivial)⟩⟩ rfl rfl hl.1 rfl (lv_room (Nat.le_of_ble_eq_true rfl)) d_PartsReader_takePart_74 ⟨hkc, hks⟩) hS (fun q _ h => hFc q h) hFc (fun r20 u t H1 locs ht hvm hp_r20 hB hz1 hk1 hS => ?_)
    obtain ⟨mo2_21, ow2_22, gr2_23⟩ := u
    obtain ⟨hP1, hD1⟩ := hB
    rw [ht] at hP1
    obtain ⟨hP, hD⟩ := va_join (wr := [(a1, .inl (cB, 60, .inl f1)), (a2, .inl (cB, 400, .inl f2))]) (w1 := [(h0, .inr (6, [.ref im, .ref fo, .int nm, .int co, .int ta, .int lc])), (im, .inr (1, [.ref iq, .int L])), (iq, .inl (cB, n, .inl f)), (fo, .inr (2, [.ref a1, .ref a2, .int pa, .int de, .int so, .int si, .int se, .int mo2_21, .int ow2_22, .int gr2_23, .int nl, .int tl, .int mk]))]) hP hD [0, 4, 5, 1] [2, 3] rfl rfl (by decide +kernel) (by decide +kernel) hk1 hFc hP1 hD1
    clear hPc hDc hFc hP1 hD1 hk1 hz1 hkc hks
    generalize H1 = H at hP hS ⊢
    have hP : va_P D CL [(a1, .inl (cB, 60, .inl f1)), (a2, .inl (cB, 400, .inl f2)), (h0, .inr (6, [.ref im, .ref fo, .int nm, .int co, .int ta, .int lc])), (im, .inr (1, [.ref iq, .int L])), (iq, .inl (cB, n, .inl f)), (fo, .inr (2, [.ref a1, .ref a2, .int pa, .int de, .int so, .int si, .int se, .int mo2_21, .int ow2_22, .int gr2_23, .int nl, .int tl, .int mk]))] H := hP
    have hD : va_D A [(a1, .inl (cB, 60, .inl f1)), (a2, .inl (cB, 400, .inl f2)), (h0, .inr (6, [.ref im, .ref fo, .int nm, .int co, .int ta, .int lc])), (im, .inr (1, [.ref iq, .int L])), (iq, .inl (cB, n, .inl f)), (fo, .inr (2, [.ref a1, .ref a2, .int pa, .int de, .int so, .int si, .int se, .int mo2_21, .int ow2_22, .int gr2_23, .int nl, .int tl, .int mk]))] := hD
    try dsimp only at hp_r20
    have hr_24 := hp_r20
    have hP9 := hP.sub (ws' := [(h0, .inr (6, [.ref im, .ref fo, .int nm, .int co, .int ta, .int lc])), (im, .inr (1, [.ref iq, .int L])), (iq, .inl (cB, n, .inl f)), (fo, .inr (2, [.ref a1, .ref a2, .int pa, .int de, .int so, .int si, .int se, .int mo2_21, .int ow2_22, .int gr2_23, .int nl, .int tl, .int mk])), (a1, .inl (cB, 60, .inl f1)), (a2, .inl (cB, 400, .inl f2))]) [2, 3, 4, 5, 0, 1] rfl
    have hD9 := hD.sub (ws' := [(h0, .inr (6, [.ref im, .ref fo, .int nm, .int co, .int ta, .int lc])), (im, .inr (1, [.ref iq, .int L])), (iq, .inl (cB, n, .inl f)), (fo, .inr (2, [.ref a1, .ref a2, .int pa, .int de, .int so, .int si, .int se, .int mo2_21, .int ow2_22, .int gr2_23, .int nl, .int tl, .int mk])), (a1, .inl (cB, 60, .inl f1)), (a2, .inl (cB, 400, .inl f2))]) [2, 3, 4, 5, 0, 1] (by decide +kernel) rfl
    exact W.zret (v := r20) hx hb hr (by first | rfl | decide | exact i_narZ (by omega)) (fun t ht hW => ⟨⟨r20, (nm, co, ta, lc, mo2_21, ow2_22, gr2_23, nl, tl, f1, f2), rfl, ⟨(by (try dsimp only); first | assumption | omega | trivial), (by (try dsimp only); intro h7; first | (exfalso; omega) | omega | assumption), (by (try dsimp only); intro h7; first | (exfalso; omega) | omega | assumption), (by (try dsimp only); intro h7; first | (exfalso; omega) | omega | assumption), (by (try dsimp only); intro h7; first | (exfalso; omega) | omega | assumption), (by (try dsimp only); intro h7; first | (exfalso; omega) | omega | assumption), (by (try dsimp only); intro h7; first | (exfalso; omega) | omega | assumption), (by (try dsimp only); intro h7; exact Or.inl rfl)⟩, by rw [ht]; exact hP9, hD9⟩, hS.F ht⟩) hS.2.2 d_PartsReader_takePart_77
  · skip
    have e_9 : v9 = 21324 := Int32.toInt_inj.mp (by rw [h_9]; decide)
    subst e_9
    refine lv_lookup (off := 56) (tgt := 78) hx hb d_PartsReader_takePart_22 (by decide) (by decide) (by decide) ?_
    refine lv_aload_n hx hb d_PartsReader_takePart_78 rfl (lv_at hl 0 rfl) ?_
    refine lv_iload_n hx hb d_PartsReader_takePart_79 rfl (lv_at hl 1 rfl) ?_
    refine lv_iload_n hx hb d_PartsReader_takePart_80 rfl (lv_at hl 2 rfl) ?_
    have hPc := hP.sub (ws' := [(h0, .inr (6, [.ref im, .ref fo, .int nm, .int co, .int ta, .int lc])), (im, .inr (1, [.ref iq, .int L])), (iq, .inl (cB, n, .inl f)), (fo, .inr (2, [.ref a1, .ref a2, .int pa, .int de, .int so, .int si, .int se, .int mo, .int ow, .int gr, .int nl, .int tl, .int mk])), (a2, .inl (cB, 400, .inl f2))]) [0, 4, 5, 1, 3] rfl
    have hDc := hD.sub (ws' := [(h0, .inr (6, [.ref im, .ref fo, .int nm, .int co, .int ta, .int lc])), (im, .inr (1, [.ref iq, .int L])), (iq, .inl (cB, n, .inl f)), (fo, .inr (2, [.ref a1, .ref a2, .int pa, .int de, .int so, .int si, .int se, .int mo, .int ow, .int gr, .int nl, .int tl, .int mk])), (a2, .inl (cB, 400, .inl f2))]) [0, 4, 5, 1, 3] (by decide +kernel) rfl
    have hFc := va_free (wc := [(h0, .inr (6, [.ref im, .ref fo, .int nm, .int co, .int ta, .int lc])), (im, .inr (1, [.ref iq, .int L])), (iq, .inl (cB, n, .inl f)), (fo, .inr (2, [.ref a1, .ref a2, .int pa, .int de, .int so, .int si, .int se, .int mo, .int ow, .int gr, .int nl, .int tl, .int mk])), (a2, .inl (cB, 400, .inl f2))]) hD hS hA [0, 4, 5, 1, 3] rfl
    have hkc : 0 ≤ 0 := by decide
    have hks : 0 ≤ 0 := by decide
    refine va_calli (va_runV (C := "DiscMaker$PartsReader") (As := [.int x, .int y]) (rest := []) ⟨hx, hb, hml, hown, hts⟩ (c3_takeTarget l D cB cI cJ cZ cN cF H.size h0 fo im iq n L f nm co ta lc a1 a2 pa de so si se mo ow gr nl tl mk f2 x y (by (try dsimp only); first | assumption | omega | trivial) (by (try dsimp only); first | assumption | omega | trivial) (by (try dsimp only); first | assumption | omega | trivial) (by (try dsimp only); first | assumption | omega | trivial) (by (try dsimp only); first | assumption | omega | trivial) (by (try dsimp only); first | assumption | omega | trivial) (by (try dsimp only); first | assumption | omega | trivial) (by (try dsimp only); first | assumption | omega | trivial) (by (try dsimp only); first | assumption | omega | trivial)) (cwV 2 hts (lg_goodV k1338 k1340 k48 k124 kc_PartsReader_takeTarget) rfl rfl rfl (by decide +kernel) ⟨Nat.le_of_ble_eq_true rfl, Nat.le_of_ble_eq_true rfl⟩) ⟨fun a U g mk q => by obtain ⟨q0, q1, qP, qK, qN, qD⟩ := q; exact ⟨q0, q1, qP, va_K.moved (u := U) (U := U.calling g mk a) (Vm.Alike.refl U.vm) qK, qN.calling, qD⟩, va_recv hK hP (ci := 6) (q0 := 0) rfl rfl, fun U hU hW => ⟨rfl, by rw [hU], by rw [hU]; exact hPc, va_K.moved hW.alike hK, NN.warm hW hN, hDc.weaken (fun _ _ _ _ => trivial)⟩⟩ rfl rfl hl.1 rfl (lv_room (Nat.le_of_ble_eq_true rfl)) d_PartsReader_takePart_81 ⟨hkc, hks⟩) hS (fun q _ h => hFc q h) hFc (fun r25 u t H1 locs ht hvm hp_r25 hB hz1 hk1 hS => ?_)
    obtain ⟨co2_26, ta2_27, tl2_28, g_29⟩ := u
    obtain ⟨hP1, hD1⟩ := hB
    rw [ht] at hP1
    obtain ⟨hP, hD⟩ := va_join (wr := [(a1, .inl (cB, 60, .inl f1))]) (w1 := [(h0, .inr (6, [.ref im, .ref fo, .int nm, .int co2_26, .int ta2_27, .int lc])), (im, .inr (1, [.ref iq, .int L])), (iq, .inl (cB, n, .inl f)), (fo, .inr (2, [.ref a1, .ref a2, .int pa, .int de, .int so, .int si, .int se, .int mo, .int ow, .int gr, .int nl, .int tl2_28, .int mk])), (a2, .inl (cB, 400, .inl g_29))]) hP hD [0, 4, 5, 1, 3] [2] rfl rfl (by decide +kernel) (by decide +kernel) hk1 hFc hP1 hD1
    clear hPc hDc hFc hP1 hD1 hk1 hz1 hkc hks
    generalize H1 = H at hP hS ⊢
    have hP : va_P D CL [(a1, .inl (cB, 60, .inl f1)), (h0, .inr (6, [.ref im, .ref fo, .int nm, .int co2_26, .int ta2_27, .int lc])), (im, .inr (1, [.ref iq, .int L])), (iq, .inl (cB, n, .inl f)), (fo, .inr (2, [.ref a1, .ref a2, .int pa, .int de, .int so, .int si, .int se, .int mo, .int ow, .int gr, .int nl, .int tl2_28, .int mk])), (a2, .inl (cB, 400, .inl g_29))] H := hP
    have hD : va_D A [(a1, .inl (cB, 60, .inl f1)), (h0, .inr (6, [.ref im, .ref fo, .int nm, .int co2_26, .int ta2_27, .int lc])), (im, .inr (1, [.ref iq, .int L])), (iq, .inl (cB, n, .inl f)), (fo, .inr (2, [.ref a1, .ref a2, .int pa, .int de, .int so, .int si, .int se, .int mo, .int ow, .int gr, .int nl, .int tl2_28, .int mk])), (a2, .inl (cB, 400, .inl g_29))] := hD
    try dsimp only at hp_r25
    obtain ⟨hr_30, hc0_31, ht0_32, hta_33, htl_34, hco_35⟩ := hp_r25
    have hP9 := hP.sub (ws' := [(h0, .inr (6, [.ref im, .ref fo, .int nm, .int co2_26, .int ta2_27, .int lc])), (im, .inr (1, [.ref iq, .int L])), (iq, .inl (cB, n, .inl f)), (fo, .inr (2, [.ref a1, .ref a2, .int pa, .int de, .int so, .int si, .int se, .int mo, .int ow, .int gr, .int nl, .int tl2_28, .int mk])), (a1, .inl (cB, 60, .inl f1)), (a2, .inl (cB, 400, .inl g_29))]) [1, 2, 3, 4, 0, 5] rfl
    have hD9 := hD.sub (ws' := [(h0, .inr (6, [.ref im, .ref fo, .int nm, .int co2_26, .int ta2_27, .int lc])), (im, .inr (1, [.ref iq, .int L])), (iq, .inl (cB, n, .inl f)), (fo, .inr (2, [.ref a1, .ref a2, .int pa, .int de, .int so, .int si, .int se, .int mo, .int ow, .int gr, .int nl, .int tl2_28, .int mk])), (a1, .inl (cB, 60, .inl f1)), (a2, .inl (cB, 400, .inl g_29))]) [1, 2, 3, 4, 0, 5] (by decide +kernel) rfl
    exact W.zret (v := r25) hx hb hr (by first | rfl | decide | exact i_narZ (by omega)) (fun t ht hW => ⟨⟨r25, (nm, co2_26, ta2_27, lc, mo, ow, gr, nl, tl2_28, f1, g_29), rfl, ⟨(by (try dsimp only); first | assumption | omega | trivial), (by (try dsimp only); intro h7; first | (exfalso; omega) | omega | assumption), (by (try dsimp only); intro h7; first | (exfalso; omega) | omega | assumption), (by (try dsimp only); intro h7; first | (exfalso; omega) | omega | assumption), (by (try dsimp only); intro h7; first | (exfalso; omega) | omega | assumption), (by (try dsimp only); intro h7; first | (exfalso; omega) | omega | assumption), (by (try dsimp only); intro h7; first | (exfalso; omega) | omega | assumption), (by (try dsimp only); intro h7; exact Or.inl rfl)⟩, by rw [ht]; exact hP9, hD9⟩, hS.F ht⟩) hS.2.2 d_PartsReader_takePart_84
  · skip
    refine lv_lookup (off := 70) (tgt := 92) hx hb d_PartsReader_takePart_22 (by decide) (by obtain ⟨m_0, m_1, m_2, m_3⟩ := h_9; simp [Op.lookupswitch.offset, List.find?, m_0, Ne.symm m_0, m_1, Ne.symm m_1, m_2, Ne.symm m_2, m_3, Ne.symm m_3]) (by decide) ?_
    refine lv_iconst (v := 1) hx hb d_PartsReader_takePart_92 (by decide) ?_
    have hP9 := hP.sub (ws' := [(h0, .inr (6, [.ref im, .ref fo, .int nm, .int co, .int ta, .int lc])), (im, .inr (1, [.ref iq, .int L])), (iq, .inl (cB, n, .inl f)), (fo, .inr (2, [.ref a1, .ref a2, .int pa, .int de, .int so, .int si, .int se, .int mo, .int ow, .int gr, .int nl, .int tl, .int mk])), (a1, .inl (cB, 60, .inl f1)), (a2, .inl (cB, 400, .inl f2))]) [0, 4, 5, 1, 2, 3] rfl
    have hD9 := hD.sub (ws' := [(h0, .inr (6, [.ref im, .ref fo, .int nm, .int co, .int ta, .int lc])), (im, .inr (1, [.ref iq, .int L])), (iq, .inl (cB, n, .inl f)), (fo, .inr (2, [.ref a1, .ref a2, .int pa, .int de, .int so, .int si, .int se, .int mo, .int ow, .int gr, .int nl, .int tl, .int mk])), (a1, .inl (cB, 60, .inl f1)), (a2, .inl (cB, 400, .inl f2))]) [0, 4, 5, 1, 2, 3] (by decide +kernel) rfl
    exact W.zret (v := 1) hx hb hr (by first | rfl | decide | exact i_narZ (by omega)) (fun t ht hW => ⟨⟨1, (nm, co, ta, lc, mo, ow, gr, nl, tl, f1, f2), rfl, ⟨(by (try dsimp only); first | assumption | omega | trivial), (by (try dsimp only); intro h7; first | (exfalso; omega) | omega | assumption), (by (try dsimp only); intro h7; first | (exfalso; omega) | omega | assumption), (by (try dsimp only); intro h7; first | (exfalso; omega) | omega | assumption), (by (try dsimp only); intro h7; first | (exfalso; omega) | omega | assumption), (by (try dsimp only); intro h7; first | (exfalso; omega) | omega | assumption), (by (try dsimp only); intro h7; first | (exfalso; omega) | omega | assumption), (by (try dsimp only); intro h7; exact Or.inl rfl)⟩, by rw [ht]; exact hP9, hD9⟩, hS.F ht⟩) hS.2.2 d_PartsReader_takePart_93

theorem d_PartsReader_goThrough_0 : decode b_PartsReader_goThrough 0 = .ok (.aload_n 0, 1) := by decide +kernel
theorem d_PartsReader_goThrough_1 : decode b_PartsReader_goThrough 1 = .ok (.aload_n 1, 1) := by decide +kernel
theorem d_PartsReader_goThrough_2 : decode b_PartsReader_goThrough 2 = .ok (.putfield 15, 3) := by decide +kernel
theorem d_PartsReader_goThrough_5 : decode b_PartsReader_goThrough 5 = .ok (.aload_n 0, 1) := by decide +kernel
theorem d_PartsReader_goThrough_6 : decode b_PartsReader_goThrough 6 = .ok (.iconst 0, 1) := by decide +kernel
theorem d_PartsReader_goThrough_7 : decode b_PartsReader_goThrough 7 = .ok (.putfield 19, 3) := by decide +kernel
theorem d_PartsReader_goThrough_10 : decode b_PartsReader_goThrough 10 = .ok (.aload_n 0, 1) := by decide +kernel
theorem d_PartsReader_goThrough_11 : decode b_PartsReader_goThrough 11 = .ok (.iconst 0, 1) := by decide +kernel
theorem d_PartsReader_goThrough_12 : decode b_PartsReader_goThrough 12 = .ok (.putfield 23, 3) := by decide +kernel
theorem d_PartsReader_goThrough_15 : decode b_PartsReader_goThrough 15 = .ok (.aload_n 0, 1) := by decide +kernel
theorem d_PartsReader_goThrough_16 : decode b_PartsReader_goThrough 16 = .ok (.iconst 0, 1) := by decide +kernel
theorem d_PartsReader_goThrough_17 : decode b_PartsReader_goThrough 17 = .ok (.putfield 27, 3) := by decide +kernel
theorem d_PartsReader_goThrough_20 : decode b_PartsReader_goThrough 20 = .ok (.iload_n 2, 1) := by decide +kernel
theorem d_PartsReader_goThrough_21 : decode b_PartsReader_goThrough 21 = .ok (.istore 4, 2) := by decide +kernel
theorem d_PartsReader_goThrough_23 : decode b_PartsReader_goThrough 23 = .ok (.iload_n 3, 1) := by decide +kernel
theorem d_PartsReader_goThrough_24 : decode b_PartsReader_goThrough 24 = .ok (.istore 5, 2) := by decide +kernel
theorem d_PartsReader_goThrough_26 : decode b_PartsReader_goThrough 26 = .ok (.iconst 0, 1) := by decide +kernel
theorem d_PartsReader_goThrough_27 : decode b_PartsReader_goThrough 27 = .ok (.istore 6, 2) := by decide +kernel
theorem d_PartsReader_goThrough_29 : decode b_PartsReader_goThrough 29 = .ok (.iload 6, 2) := by decide +kernel
theorem d_PartsReader_goThrough_31 : decode b_PartsReader_goThrough 31 = .ok (.iconst 5, 1) := by decide +kernel
theorem d_PartsReader_goThrough_32 : decode b_PartsReader_goThrough 32 = .ok (.if_icmp .gt 158, 3) := by decide +kernel
theorem d_PartsReader_goThrough_35 : decode b_PartsReader_goThrough 35 = .ok (.aload_n 0, 1) := by decide +kernel
theorem d_PartsReader_goThrough_36 : decode b_PartsReader_goThrough 36 = .ok (.iconst (-1), 1) := by decide +kernel
theorem d_PartsReader_goThrough_37 : decode b_PartsReader_goThrough 37 = .ok (.putfield 30, 3) := by decide +kernel
theorem d_PartsReader_goThrough_40 : decode b_PartsReader_goThrough 40 = .ok (.iload 4, 2) := by decide +kernel
theorem d_PartsReader_goThrough_42 : decode b_PartsReader_goThrough 42 = .ok (.istore 7, 2) := by decide +kernel
theorem d_PartsReader_goThrough_44 : decode b_PartsReader_goThrough 44 = .ok (.iload 7, 2) := by decide +kernel
theorem d_PartsReader_goThrough_46 : decode b_PartsReader_goThrough 46 = .ok (.iconst 4, 1) := by decide +kernel
theorem d_PartsReader_goThrough_47 : decode b_PartsReader_goThrough 47 = .ok (.iadd, 1) := by decide +kernel
theorem d_PartsReader_goThrough_48 : decode b_PartsReader_goThrough 48 = .ok (.iload 5, 2) := by decide +kernel
theorem d_PartsReader_goThrough_50 : decode b_PartsReader_goThrough 50 = .ok (.if_icmp .gt 56, 3) := by decide +kernel
theorem d_PartsReader_goThrough_53 : decode b_PartsReader_goThrough 53 = .ok (.aload_n 0, 1) := by decide +kernel
theorem d_PartsReader_goThrough_54 : decode b_PartsReader_goThrough 54 = .ok (.getfield 9, 3) := by decide +kernel
theorem d_PartsReader_goThrough_57 : decode b_PartsReader_goThrough 57 = .ok (.iload 7, 2) := by decide +kernel
theorem d_PartsReader_goThrough_59 : decode b_PartsReader_goThrough 59 = .ok (.iconst 2, 1) := by decide +kernel
theorem d_PartsReader_goThrough_60 : decode b_PartsReader_goThrough 60 = .ok (.iadd, 1) := by decide +kernel
theorem d_PartsReader_goThrough_61 : decode b_PartsReader_goThrough 61 = .ok (.invokevirtual 33, 3) := by decide +kernel
theorem d_PartsReader_goThrough_64 : decode b_PartsReader_goThrough 64 = .ok (.istore 8, 2) := by decide +kernel
theorem d_PartsReader_goThrough_66 : decode b_PartsReader_goThrough 66 = .ok (.iload 8, 2) := by decide +kernel
theorem d_PartsReader_goThrough_68 : decode b_PartsReader_goThrough 68 = .ok (.iconst 4, 1) := by decide +kernel
theorem d_PartsReader_goThrough_69 : decode b_PartsReader_goThrough 69 = .ok (.if_icmp .lt 24, 3) := by decide +kernel
theorem d_PartsReader_goThrough_72 : decode b_PartsReader_goThrough 72 = .ok (.iload 7, 2) := by decide +kernel
theorem d_PartsReader_goThrough_74 : decode b_PartsReader_goThrough 74 = .ok (.iload 8, 2) := by decide +kernel
theorem d_PartsReader_goThrough_76 : decode b_PartsReader_goThrough 76 = .ok (.iadd, 1) := by decide +kernel
theorem d_PartsReader_goThrough_77 : decode b_PartsReader_goThrough 77 = .ok (.iload 5, 2) := by decide +kernel
theorem d_PartsReader_goThrough_79 : decode b_PartsReader_goThrough 79 = .ok (.if_icmp .gt 14, 3) := by decide +kernel
theorem d_PartsReader_goThrough_82 : decode b_PartsReader_goThrough 82 = .ok (.aload_n 0, 1) := by decide +kernel
theorem d_PartsReader_goThrough_83 : decode b_PartsReader_goThrough 83 = .ok (.iload 7, 2) := by decide +kernel
theorem d_PartsReader_goThrough_85 : decode b_PartsReader_goThrough 85 = .ok (.iload 8, 2) := by decide +kernel
theorem d_PartsReader_goThrough_87 : decode b_PartsReader_goThrough 87 = .ok (.invokevirtual 39, 3) := by decide +kernel
theorem d_PartsReader_goThrough_90 : decode b_PartsReader_goThrough 90 = .ok (.ifCond .ne 6, 3) := by decide +kernel
theorem d_PartsReader_goThrough_93 : decode b_PartsReader_goThrough 93 = .ok (.iload 7, 2) := by decide +kernel
theorem d_PartsReader_goThrough_95 : decode b_PartsReader_goThrough 95 = .ok (.ireturn, 1) := by decide +kernel
theorem d_PartsReader_goThrough_96 : decode b_PartsReader_goThrough 96 = .ok (.iload 7, 2) := by decide +kernel
theorem d_PartsReader_goThrough_98 : decode b_PartsReader_goThrough 98 = .ok (.iload 8, 2) := by decide +kernel
theorem d_PartsReader_goThrough_100 : decode b_PartsReader_goThrough 100 = .ok (.iadd, 1) := by decide +kernel
theorem d_PartsReader_goThrough_101 : decode b_PartsReader_goThrough 101 = .ok (.istore 7, 2) := by decide +kernel
theorem d_PartsReader_goThrough_103 : decode b_PartsReader_goThrough 103 = .ok (.goto (-59), 3) := by decide +kernel
theorem d_PartsReader_goThrough_106 : decode b_PartsReader_goThrough 106 = .ok (.aload_n 0, 1) := by decide +kernel
theorem d_PartsReader_goThrough_107 : decode b_PartsReader_goThrough 107 = .ok (.getfield 30, 3) := by decide +kernel
theorem d_PartsReader_goThrough_110 : decode b_PartsReader_goThrough 110 = .ok (.iconst (-1), 1) := by decide +kernel
theorem d_PartsReader_goThrough_111 : decode b_PartsReader_goThrough 111 = .ok (.if_icmp .ne 6, 3) := by decide +kernel
theorem d_PartsReader_goThrough_114 : decode b_PartsReader_goThrough 114 = .ok (.goto 76, 3) := by decide +kernel
theorem d_PartsReader_goThrough_117 : decode b_PartsReader_goThrough 117 = .ok (.iload 6, 2) := by decide +kernel
theorem d_PartsReader_goThrough_119 : decode b_PartsReader_goThrough 119 = .ok (.iconst 5, 1) := by decide +kernel
theorem d_PartsReader_goThrough_120 : decode b_PartsReader_goThrough 120 = .ok (.if_icmp .ne 8, 3) := by decide +kernel
theorem d_PartsReader_goThrough_123 : decode b_PartsReader_goThrough 123 = .ok (.aload_n 0, 1) := by decide +kernel
theorem d_PartsReader_goThrough_124 : decode b_PartsReader_goThrough 124 = .ok (.getfield 30, 3) := by decide +kernel
theorem d_PartsReader_goThrough_127 : decode b_PartsReader_goThrough 127 = .ok (.ireturn, 1) := by decide +kernel
theorem d_PartsReader_goThrough_128 : decode b_PartsReader_goThrough 128 = .ok (.aload_n 0, 1) := by decide +kernel
theorem d_PartsReader_goThrough_129 : decode b_PartsReader_goThrough 129 = .ok (.getfield 9, 3) := by decide +kernel
theorem d_PartsReader_goThrough_132 : decode b_PartsReader_goThrough 132 = .ok (.aload_n 0, 1) := by decide +kernel
theorem d_PartsReader_goThrough_133 : decode b_PartsReader_goThrough 133 = .ok (.getfield 30, 3) := by decide +kernel
theorem d_PartsReader_goThrough_136 : decode b_PartsReader_goThrough 136 = .ok (.iconst 4, 1) := by decide +kernel
theorem d_PartsReader_goThrough_137 : decode b_PartsReader_goThrough 137 = .ok (.iadd, 1) := by decide +kernel
theorem d_PartsReader_goThrough_138 : decode b_PartsReader_goThrough 138 = .ok (.iconst 4, 1) := by decide +kernel
theorem d_PartsReader_goThrough_139 : decode b_PartsReader_goThrough 139 = .ok (.invokevirtual 43, 3) := by decide +kernel
theorem d_PartsReader_goThrough_142 : decode b_PartsReader_goThrough 142 = .ok (.sipush 2048, 3) := by decide +kernel
theorem d_PartsReader_goThrough_145 : decode b_PartsReader_goThrough 145 = .ok (.imul, 1) := by decide +kernel
theorem d_PartsReader_goThrough_146 : decode b_PartsReader_goThrough 146 = .ok (.aload_n 0, 1) := by decide +kernel
theorem d_PartsReader_goThrough_147 : decode b_PartsReader_goThrough 147 = .ok (.getfield 9, 3) := by decide +kernel
theorem d_PartsReader_goThrough_150 : decode b_PartsReader_goThrough 150 = .ok (.aload_n 0, 1) := by decide +kernel
theorem d_PartsReader_goThrough_151 : decode b_PartsReader_goThrough 151 = .ok (.getfield 30, 3) := by decide +kernel
theorem d_PartsReader_goThrough_154 : decode b_PartsReader_goThrough 154 = .ok (.bipush 12, 2) := by decide +kernel
theorem d_PartsReader_goThrough_156 : decode b_PartsReader_goThrough 156 = .ok (.iadd, 1) := by decide +kernel
theorem d_PartsReader_goThrough_157 : decode b_PartsReader_goThrough 157 = .ok (.iconst 4, 1) := by decide +kernel
theorem d_PartsReader_goThrough_158 : decode b_PartsReader_goThrough 158 = .ok (.invokevirtual 43, 3) := by decide +kernel
theorem d_PartsReader_goThrough_161 : decode b_PartsReader_goThrough 161 = .ok (.iadd, 1) := by decide +kernel
theorem d_PartsReader_goThrough_162 : decode b_PartsReader_goThrough 162 = .ok (.istore 4, 2) := by decide +kernel
theorem d_PartsReader_goThrough_164 : decode b_PartsReader_goThrough 164 = .ok (.iload 4, 2) := by decide +kernel
theorem d_PartsReader_goThrough_166 : decode b_PartsReader_goThrough 166 = .ok (.aload_n 0, 1) := by decide +kernel
theorem d_PartsReader_goThrough_167 : decode b_PartsReader_goThrough 167 = .ok (.getfield 9, 3) := by decide +kernel
theorem d_PartsReader_goThrough_170 : decode b_PartsReader_goThrough 170 = .ok (.aload_n 0, 1) := by decide +kernel
theorem d_PartsReader_goThrough_171 : decode b_PartsReader_goThrough 171 = .ok (.getfield 30, 3) := by decide +kernel
theorem d_PartsReader_goThrough_174 : decode b_PartsReader_goThrough 174 = .ok (.bipush 20, 2) := by decide +kernel
theorem d_PartsReader_goThrough_176 : decode b_PartsReader_goThrough 176 = .ok (.iadd, 1) := by decide +kernel
theorem d_PartsReader_goThrough_177 : decode b_PartsReader_goThrough 177 = .ok (.iconst 4, 1) := by decide +kernel
theorem d_PartsReader_goThrough_178 : decode b_PartsReader_goThrough 178 = .ok (.invokevirtual 43, 3) := by decide +kernel
theorem d_PartsReader_goThrough_181 : decode b_PartsReader_goThrough 181 = .ok (.iadd, 1) := by decide +kernel
theorem d_PartsReader_goThrough_182 : decode b_PartsReader_goThrough 182 = .ok (.istore 5, 2) := by decide +kernel
theorem d_PartsReader_goThrough_184 : decode b_PartsReader_goThrough 184 = .ok (.iinc 6 1, 3) := by decide +kernel
theorem d_PartsReader_goThrough_187 : decode b_PartsReader_goThrough 187 = .ok (.goto (-158), 3) := by decide +kernel
theorem d_PartsReader_goThrough_190 : decode b_PartsReader_goThrough 190 = .ok (.aload_n 0, 1) := by decide +kernel
theorem d_PartsReader_goThrough_191 : decode b_PartsReader_goThrough 191 = .ok (.getfield 27, 3) := by decide +kernel
theorem d_PartsReader_goThrough_194 : decode b_PartsReader_goThrough 194 = .ok (.ifCond .eq 12, 3) := by decide +kernel
theorem d_PartsReader_goThrough_197 : decode b_PartsReader_goThrough 197 = .ok (.aload_n 0, 1) := by decide +kernel
theorem d_PartsReader_goThrough_198 : decode b_PartsReader_goThrough 198 = .ok (.getfield 15, 3) := by decide +kernel
theorem d_PartsReader_goThrough_201 : decode b_PartsReader_goThrough 201 = .ok (.bipush 47, 2) := by decide +kernel
theorem d_PartsReader_goThrough_203 : decode b_PartsReader_goThrough 203 = .ok (.invokevirtual 47, 3) := by decide +kernel
theorem d_PartsReader_goThrough_206 : decode b_PartsReader_goThrough 206 = .ok (.aload_n 0, 1) := by decide +kernel
theorem d_PartsReader_goThrough_207 : decode b_PartsReader_goThrough 207 = .ok (.getfield 15, 3) := by decide +kernel
theorem d_PartsReader_goThrough_210 : decode b_PartsReader_goThrough 210 = .ok (.getfield 53, 3) := by decide +kernel
theorem d_PartsReader_goThrough_213 : decode b_PartsReader_goThrough 213 = .ok (.ldc 56, 2) := by decide +kernel
theorem d_PartsReader_goThrough_215 : decode b_PartsReader_goThrough 215 = .ok (.iand, 1) := by decide +kernel
theorem d_PartsReader_goThrough_216 : decode b_PartsReader_goThrough 216 = .ok (.ldc 57, 2) := by decide +kernel
theorem d_PartsReader_goThrough_218 : decode b_PartsReader_goThrough 218 = .ok (.if_icmp .ne 11, 3) := by decide +kernel
theorem d_PartsReader_goThrough_221 : decode b_PartsReader_goThrough 221 = .ok (.aload_n 0, 1) := by decide +kernel
theorem d_PartsReader_goThrough_222 : decode b_PartsReader_goThrough 222 = .ok (.getfield 15, 3) := by decide +kernel
theorem d_PartsReader_goThrough_225 : decode b_PartsReader_goThrough 225 = .ok (.iconst 2, 1) := by decide +kernel
theorem d_PartsReader_goThrough_226 : decode b_PartsReader_goThrough 226 = .ok (.putfield 58, 3) := by decide +kernel
theorem d_PartsReader_goThrough_229 : decode b_PartsReader_goThrough 229 = .ok (.iconst (-1), 1) := by decide +kernel
theorem d_PartsReader_goThrough_230 : decode b_PartsReader_goThrough 230 = .ok (.ireturn, 1) := by decide +kernel
set_option maxHeartbeats 4000000 in
set_option maxRecDepth 100000 in
theorem c3_goThrough (l : Launch) (D : va_G) (cB cI cJ cZ cN cF : ClassId) (sz : Nat) (h0 : Nat) (fo : Nat) (im : Nat) (iq : Nat) (n : Nat) (L : Int32) (f : Nat → Int32) (nm : Int32) (co : Int32) (ta : Int32) (lc : Int32) (fw : Value) (a1 : Nat) (a2 : Nat) (pa : Int32) (de : Int32) (so : Int32) (si : Int32) (se : Int32) (mo : Int32) (ow : Int32) (gr : Int32) (nl : Int32) (tl : Int32) (mk : Int32) (f1 : Nat → Int32) (f2 : Nat → Int32) (x : Int32) (y : Int32) (hL : 0 ≤ L.toInt ∧ L.toInt ≤ n) (hn : n ≤ 3000000) (hx : 0 ≤ x.toInt ∧ x.toInt ≤ 4000000) (hy : 0 ≤ y.toInt ∧ y.toInt ≤ 4000000) (hnl : 0 ≤ nl.toInt ∧ nl.toInt ≤ 60) (htl : tl.toInt = 0) : Met l y_PartsReader_goThrough w_PartsReader_goThrough ({ frames := 3, cells := 0, slots := 0, locals := 91 }) (va_Pc [.ref h0, .ref fo, .int x, .int y] (fun U => U.heap.size = sz ∧ va_P D CL [(h0, .inr (6, [.ref im, fw, .int nm, .int co, .int ta, .int lc])), (im, .inr (1, [.ref iq, .int L])), (iq, .inl (cB, n, .inl f)), (fo, .inr (2, [.ref a1, .ref a2, .int pa, .int de, .int so, .int si, .int se, .int mo, .int ow, .int gr, .int nl, .int tl, .int mk])), (a1, .inl (cB, 60, .inl f1)), (a2, .inl (cB, 400, .inl f2))] U.heap ∧ va_K D CL (TY cB cI cJ cZ cN cF) U ∧ NN U ∧ va_D (fun _ => True) [(h0, .inr (6, [.ref im, fw, .int nm, .int co, .int ta, .int lc])), (im, .inr (1, [.ref iq, .int L])), (iq, .inl (cB, n, .inl f)), (fo, .inr (2, [.ref a1, .ref a2, .int pa, .int de, .int so, .int si, .int se, .int mo, .int ow, .int gr, .int nl, .int tl, .int mk])), (a1, .inl (cB, 60, .inl f1)), (a2, .inl (cB, 400, .inl f2))])) (va_Qi (fun (r : Int32) (u : Int32 × Int32 × Int32 × Int32 × Int32 × Int32 × Int32 × Int32 × Int32 × Int32 × (Nat → Int32) × (Nat → Int32)) => match u with | (nm2, co2, ta2, lc2, so2, mo2, ow2, gr2, nl2, tl2, g1, g2) => (r.toInt = -1 → (0 ≤ nl2.toInt ∧ nl2.toInt ≤ 60 ∧ 0 ≤ tl2.toInt ∧ tl2.toInt ≤ 400)) ∧ (so2.toInt = so.toInt ∨ so2.toInt = 2)) (fun (u : Int32 × Int32 × Int32 × Int32 × Int32 × Int32 × Int32 × Int32 × Int32 × Int32 × (Nat → Int32) × (Nat → Int32)) (t : State) => match u with | (nm2, co2, ta2, lc2, so2, mo2, ow2, gr2, nl2, tl2, g1, g2) => va_P D CL [(h0, .inr (6, [.ref im, .ref fo, .int nm2, .int co2, .int ta2, .int lc2])), (im, .inr (1, [.ref iq, .int L])), (iq, .inl (cB, n, .inl f)), (fo, .inr (2, [.ref a1, .ref a2, .int pa, .int de, .int so2, .int si, .int se, .int mo2, .int ow2, .int gr2, .int nl2, .int tl2, .int mk])), (a1, .inl (cB, 60, .inl g1)), (a2, .inl (cB, 400, .inl g2))] t.heap ∧ va_D (va_A [(h0, .inr (6, [.ref im, fw, .int nm, .int co, .int ta, .int lc])), (im, .inr (1, [.ref iq, .int L])), (iq, .inl (cB, n, .inl f)), (fo, .inr (2, [.ref a1, .ref a2, .int pa, .int de, .int so, .int si, .int se, .int mo, .int ow, .int gr, .int nl, .int tl, .int mk])), (a1, .inl (cB, 60, .inl f1)), (a2, .inl (cB, 400, .inl f2))] sz) [(h0, .inr (6, [.ref im, .ref fo, .int nm2, .int co2, .int ta2, .int lc2])), (im, .inr (1, [.ref iq, .int L])), (iq, .inl (cB, n, .inl f)), (fo, .inr (2, [.ref a1, .ref a2, .int pa, .int de, .int so2, .int si, .int se, .int mo2, .int ow2, .int gr2, .int nl2, .int tl2, .int mk])), (a1, .inl (cB, 60, .inl g1)), (a2, .inl (cB, 400, .inl g2))]) (va_A [(h0, .inr (6, [.ref im, fw, .int nm, .int co, .int ta, .int lc])), (im, .inr (1, [.ref iq, .int L])), (iq, .inl (cB, n, .inl f)), (fo, .inr (2, [.ref a1, .ref a2, .int pa, .int de, .int so, .int si, .int se, .int mo, .int ow, .int gr, .int nl, .int tl, .int mk])), (a1, .inl (cB, 60, .inl f1)), (a2, .inl (cB, 400, .inl f2))] sz)) 0 0 (va_A [(h0, .inr (6, [.ref im, fw, .int nm, .int co, .int ta, .int lc])), (im, .inr (1, [.ref iq, .int L])), (iq, .inl (cB, n, .inl f)), (fo, .inr (2, [.ref a1, .ref a2, .int pa, .int de, .int so, .int si, .int se, .int mo, .int ow, .int gr, .int nl, .int tl, .int mk])), (a1, .inl (cB, 60, .inl f1)), (a2, .inl (cB, 400, .inl f2))] sz) := by
  refine Met.ofW (cc := b_PartsReader_goThrough) (maxL := 9) (ret := some .int) (by decide +kernel) rfl ?_
  intro p e s m args below meth c s₁ B hml hv
  obtain ⟨rfl, hsz, hP, hK, hN, hD0⟩ := hv
  have hx := B.exec
  have hb := B.bytes
  have hr := B.returns
  have hts := atoms_spec (ws := w_PartsReader_goThrough) B.pre
  have ht9 := fun (w : Cond) (h : w ∈ lw_g) => hts w (List.mem_cons_of_mem _ h)
  have hown : s.vm.findClass "DiscMaker$PartsReader" = some m.cls := findClass_of_methodNamed B.named
  have hlocks := B.notSynchronized
  subst hsz
  have hD := hD0.self (sz := s.heap.size)
  generalize hAe : va_A [(h0, .inr (6, [.ref im, fw, .int nm, .int co, .int ta, .int lc])), (im, .inr (1, [.ref iq, .int L])), (iq, .inl (cB, n, .inl f)), (fo, .inr (2, [.ref a1, .ref a2, .int pa, .int de, .int so, .int si, .int se, .int mo, .int ow, .int gr, .int nl, .int tl, .int mk])), (a1, .inl (cB, 60, .inl f1)), (a2, .inl (cB, 400, .inl f2))] s.heap.size = A at hD ⊢
  have hA : ∀ q : Nat, s.heap.size ≤ q → A q := fun q h => by rw [← hAe]; exact Or.inr h
  have hS : va_S A s.heap s.heap [] := va_S.rf
  have hP : va_P D CL [(h0, .inr (6, [.ref im, fw, .int nm, .int co, .int ta, .int lc])), (im, .inr (1, [.ref iq, .int L])), (iq, .inl (cB, n, .inl f)), (fo, .inr (2, [.ref a1, .ref a2, .int pa, .int de, .int so, .int si, .int se, .int mo, .int ow, .int gr, .int nl, .int tl, .int mk])), (a1, .inl (cB, 60, .inl f1)), (a2, .inl (cB, 400, .inl f2))] s.heap := hP
  have hl := lv_entry [.ref h0, .ref fo, .int x, .int y] (n := 9) (Nat.le_of_ble_eq_true rfl)
  rw [lg_entry_eq]
  generalize (lg_sl [.ref h0, .ref fo, .int x, .int y] ++ List.replicate (9 - (lg_sl [.ref h0, .ref fo, .int x, .int y]).length) Slot.unset).toArray = ls at hl ⊢
  have hl : lv_has ls 9 [(0, .ref h0), (1, .ref fo), (2, .int x), (3, .int y)] := hl
  have L_m1 : ((-1) : Int32).toInt = (-1) := by decide
  have L_0 : (0 : Int32).toInt = 0 := by decide
  have L_1 : (1 : Int32).toInt = 1 := by decide
  have L_2 : (2 : Int32).toInt = 2 := by decide
  have L_4 : (4 : Int32).toInt = 4 := by decide
  have L_5 : (5 : Int32).toInt = 5 := by decide
  have L_12 : (12 : Int32).toInt = 12 := by decide
  have L_20 : (20 : Int32).toInt = 20 := by decide
  have L_47 : (47 : Int32).toInt = 47 := by decide
  have L_2048 : (2048 : Int32).toInt = 2048 := by decide
  have L_40960 : (40960 : Int32).toInt = 40960 := by decide
  have L_61440 : (61440 : Int32).toInt = 61440 := by decide
  refine lv_aload_n hx hb d_PartsReader_goThrough_0 rfl (lv_at hl 0 rfl) ?_
  refine lv_aload_n hx hb d_PartsReader_goThrough_1 rfl (lv_at hl 1 rfl) ?_
  refine va_put (D := D) (ci := 6) (v := .ref fo) (ty := .object "DiscMaker$Found") (C := "DiscMaker$PartsReader") (T := F_PartsReader) (N := 6) hx hb ht9 in_PartsReader t_PartsReader t_PartsReader_ok n_PartsReader hown hK hP hD hS 0 rfl rfl 1 (by decide) (ht9 _ k393) (fun _ h9 => h9) rfl (by decide +kernel) rfl rfl (Nat.le_of_ble_eq_true rfl) d_PartsReader_goThrough_2 (fun H locs hP hD hS => ?_)
  have hP : va_P D CL [(h0, .inr (6, [.ref im, .ref fo, .int nm, .int co, .int ta, .int lc])), (im, .inr (1, [.ref iq, .int L])), (iq, .inl (cB, n, .inl f)), (fo, .inr (2, [.ref a1, .ref a2, .int pa, .int de, .int so, .int si, .int se, .int mo, .int ow, .int gr, .int nl, .int tl, .int mk])), (a1, .inl (cB, 60, .inl f1)), (a2, .inl (cB, 400, .inl f2))] H := hP
  have hD : va_D A [(h0, .inr (6, [.ref im, .ref fo, .int nm, .int co, .int ta, .int lc])), (im, .inr (1, [.ref iq, .int L])), (iq, .inl (cB, n, .inl f)), (fo, .inr (2, [.ref a1, .ref a2, .int pa, .int de, .int so, .int si, .int se, .int mo, .int ow, .int gr, .int nl, .int tl, .int mk])), (a1, .inl (cB, 60, .inl f1)), (a2, .inl (cB, 400, .inl f2))] := hD
  refine lv_aload_n hx hb d_PartsReader_goThrough_5 rfl (lv_at hl 0 rfl) ?_
  refine lv_iconst (v := 0) hx hb d_PartsReader_goThrough_6 (by decide) ?_
  refine va_put (D := D) (ci := 6) (v := .int 0) (ty := .boolean) (C := "DiscMaker$PartsReader") (T := F_PartsReader) (N := 6) hx hb ht9 in_PartsReader t_PartsReader t_PartsReader_ok n_PartsReader hown hK hP hD hS 0 rfl rfl 2 (by decide) (ht9 _ k394) (fun _ h9 => h9) rfl (by decide +kernel) rfl rfl (Nat.le_of_ble_eq_true rfl) d_PartsReader_goThrough_7 (fun H locs hP hD hS => ?_)
  have hP : va_P D CL [(h0, .inr (6, [.ref im, .ref fo, .int 0, .int co, .int ta, .int lc])), (im, .inr (1, [.ref iq, .int L])), (iq, .inl (cB, n, .inl f)), (fo, .inr (2, [.ref a1, .ref a2, .int pa, .int de, .int so, .int si, .int se, .int mo, .int ow, .int gr, .int nl, .int tl, .int mk])), (a1, .inl (cB, 60, .inl f1)), (a2, .inl (cB, 400, .inl f2))] H := hP
  have hD : va_D A [(h0, .inr (6, [.ref im, .ref fo, .int 0, .int co, .int ta, .int lc])), (im, .inr (1, [.ref iq, .int L])), (iq, .inl (cB, n, .inl f)), (fo, .inr (2, [.ref a1, .ref a2, .int pa, .int de, .int so, .int si, .int se, .int mo, .int ow, .int gr, .int nl, .int tl, .int mk])), (a1, .inl (cB, 60, .inl f1)), (a2, .inl (cB, 400, .inl f2))] := hD
  refine lv_aload_n hx hb d_PartsReader_goThrough_10 rfl (lv_at hl 0 rfl) ?_
  refine lv_iconst (v := 0) hx hb d_PartsReader_goThrough_11 (by decide) ?_
  refine va_put (D := D) (ci := 6) (v := .int 0) (ty := .int) (C := "DiscMaker$PartsReader") (T := F_PartsReader) (N := 6) hx hb ht9 in_PartsReader t_PartsReader t_PartsReader_ok n_PartsReader hown hK hP hD hS 0 rfl rfl 3 (by decide) (ht9 _ k396) (fun _ h9 => h9) rfl (by decide +kernel) rfl rfl (Nat.le_of_ble_eq_true rfl) d_PartsReader_goThrough_12 (fun H locs hP hD hS => ?_)
  have hP : va_P D CL [(h0, .inr (6, [.ref im, .ref fo, .int 0, .int 0, .int ta, .int lc])), (im, .inr (1, [.ref iq, .int L])), (iq, .inl (cB, n, .inl f)), (fo, .inr (2, [.ref a1, .ref a2, .int pa, .int de, .int so, .int si, .int se, .int mo, .int ow, .int gr, .int nl, .int tl, .int mk])), (a1, .inl (cB, 60, .inl f1)), (a2, .inl (cB, 400, .inl f2))] H := hP
  have hD : va_D A [(h0, .inr (6, [.ref im, .ref fo, .int 0, .int 0, .int ta, .int lc])), (im, .inr (1, [.ref iq, .int L])), (iq, .inl (cB, n, .inl f)), (fo, .inr (2, [.ref a1, .ref a2, .int pa, .int de, .int so, .int si, .int se, .int mo, .int ow, .int gr, .int nl, .int tl, .int mk])), (a1, .inl (cB, 60, .inl f1)), (a2, .inl (cB, 400, .inl f2))] := hD
  refine lv_aload_n hx hb d_PartsReader_goThrough_15 rfl (lv_at hl 0 rfl) ?_
  refine lv_iconst (v := 0) hx hb d_PartsReader_goThrough_16 (by decide) ?_
  refine va_put (D := D) (ci := 6) (v := .int 0) (ty := .boolean) (C := "DiscMaker$PartsReader") (T := F_PartsReader) (N := 6) hx hb ht9 in_PartsReader t_PartsReader t_PartsReader_ok n_PartsReader hown hK hP hD hS 0 rfl rfl 4 (by decide) (ht9 _ k397) (fun _ h9 => h9) rfl (by decide +kernel) rfl rfl (Nat.le_of_ble_eq_true rfl) d_PartsReader_goThrough_17 (fun H locs hP hD hS => ?_)
  have hP : va_P D CL [(h0, .inr (6, [.ref im, .ref fo, .int 0, .int 0, .int 0, .int lc])), (im, .inr (1, [.ref iq, .int L])), (iq, .inl (cB, n, .inl f)), (fo, .inr (2, [.ref a1, .ref a2, .int pa, .int de, .int so, .int si, .int se, .int mo, .int ow, .int gr, .int nl, .int tl, .int mk])), (a1, .inl (cB, 60, .inl f1)), (a2, .inl (cB, 400, .inl f2))] H := hP
  have hD : va_D A [(h0, .inr (6, [.ref im, .ref fo, .int 0, .int 0, .int 0, .int lc])), (im, .inr (1, [.ref iq, .int L])), (iq, .inl (cB, n, .inl f)), (fo, .inr (2, [.ref a1, .ref a2, .int pa, .int de, .int so, .int si, .int se, .int mo, .int ow, .int gr, .int nl, .int tl, .int mk])), (a1, .inl (cB, 60, .inl f1)), (a2, .inl (cB, 400, .inl f2))] := hD
  refine lv_iload_n hx hb d_PartsReader_goThrough_20 rfl (lv_at hl 2 rfl) ?_
  refine lv_istore hx hb d_PartsReader_goThrough_21 hl (by decide) rfl (fun ls hl => ?_)
  have hl : lv_has ls 9 [(4, .int x), (0, .ref h0), (1, .ref fo), (2, .int x), (3, .int y)] := hl
  refine lv_iload_n hx hb d_PartsReader_goThrough_23 rfl (lv_at hl 4 rfl) ?_
  refine lv_istore hx hb d_PartsReader_goThrough_24 hl (by decide) rfl (fun ls hl => ?_)
  have hl : lv_has ls 9 [(5, .int y), (4, .int x), (0, .ref h0), (1, .ref fo), (2, .int x), (3, .int y)] := hl
  refine lv_iconst (v := 0) hx hb d_PartsReader_goThrough_26 (by decide) ?_
  refine lv_istore hx hb d_PartsReader_goThrough_27 hl (by decide) rfl (fun ls hl => ?_)
  have hl : lv_has ls 9 [(6, .int 0), (5, .int y), (4, .int x), (0, .ref h0), (1, .ref fo), (2, .int x), (3, .int y)] := hl
  refine zz_labM (B := fun (lk : Nat) (K : Heap → List Loc → Array Slot → List Value → Prop) => ∀ (fr : Int32) (to9 : Int32) (rn : Int32) (llc : Int32) (lnm : Int32) (lco : Int32) (lta : Int32) (lmo : Int32) (low : Int32) (lgr : Int32) (lnl : Int32) (ltl : Int32) (lf1 : Nat → Int32) (lf2 : Nat → Int32) (H : Heap) (locs : List Loc) (ls : Array Slot), lk = (6 - rn.toInt).toNat → (0 ≤ fr.toInt ∧ fr.toInt ≤ 4000000) → (0 ≤ to9.toInt ∧ to9.toInt ≤ 4000000) → (0 ≤ rn.toInt ∧ rn.toInt ≤ 5) → (0 ≤ lco.toInt ∧ lco.toInt ≤ 4000000 * rn.toInt) → (0 ≤ lnl.toInt ∧ lnl.toInt ≤ 60) → (lco.toInt = 0 → ltl.toInt = 0) → (lta.toInt ≠ 0 → ltl.toInt = 0) → (0 ≤ lta.toInt ∧ lta.toInt ≤ 1) → (0 ≤ ltl.toInt ∧ ltl.toInt ≤ 400) → va_P D CL [(h0, .inr (6, [.ref im, .ref fo, .int lnm, .int lco, .int lta, .int llc])), (im, .inr (1, [.ref iq, .int L])), (iq, .inl (cB, n, .inl f)), (fo, .inr (2, [.ref a1, .ref a2, .int pa, .int de, .int so, .int si, .int se, .int lmo, .int low, .int lgr, .int lnl, .int ltl, .int mk])), (a1, .inl (cB, 60, .inl lf1)), (a2, .inl (cB, 400, .inl lf2))] H → va_D A [(h0, .inr (6, [.ref im, .ref fo, .int lnm, .int lco, .int lta, .int llc])), (im, .inr (1, [.ref iq, .int L])), (iq, .inl (cB, n, .inl f)), (fo, .inr (2, [.ref a1, .ref a2, .int pa, .int de, .int so, .int si, .int se, .int lmo, .int low, .int lgr, .int lnl, .int ltl, .int mk])), (a1, .inl (cB, 60, .inl lf1)), (a2, .inl (cB, 400, .inl lf2))] → va_S A s.heap H locs → lv_has ls 9 [(0, .ref h0), (1, .ref fo), (2, .int x), (3, .int y), (4, .int fr), (5, .int to9), (6, .int rn)] → K H locs ls []) 29 ?_ ?_
  · skip
    intro lk ih29 fr to9 rn llc lnm lco lta lmo low lgr lnl ltl lf1 lf2 H locs ls hm29 e20 e21 e22 e23 le1 lhc0 lht0 lhta lhtl hP hD hS hl
    refine lv_iload hx hb d_PartsReader_goThrough_29 (lv_at hl 6 rfl) ?_
    refine lv_iconst (v := 5) hx hb d_PartsReader_goThrough_31 (by decide) ?_
    refine lv_icmp_gt (tgt := 190) hx hb d_PartsReader_goThrough_32 (by decide) (fun h_9 => ?_) (fun h_9 => ?_)
    · skip
      have g32_21 : 5 < rn.toInt := (i_lt (by decide) rfl).mp h_9
      refine lv_aload_n hx hb d_PartsReader_goThrough_190 rfl (lv_at hl 0 rfl) ?_
      refine va_get (D := D) (ci := 6) (v := .int lta) (C := "DiscMaker$PartsReader") (T := F_PartsReader) (N := 6) hx hb ht9 in_PartsReader hown hK hP 0 rfl rfl 4 (by decide) (ht9 _ k397) (fun _ h9 => h9) rfl d_PartsReader_goThrough_191 ?_
      refine lv_if_eq (tgt := 206) hx hb d_PartsReader_goThrough_194 (by decide) (fun h_9 => ?_) (fun h_9 => ?_)
      · skip
        have g194_24 : lta.toInt = 0 := (i_eq rfl (by decide)).mp h_9
        refine lv_aload_n hx hb d_PartsReader_goThrough_206 rfl (lv_at hl 0 rfl) ?_
        refine va_get (D := D) (ci := 6) (v := .ref fo) (C := "DiscMaker$PartsReader") (T := F_PartsReader) (N := 6) hx hb ht9 in_PartsReader hown hK hP 0 rfl rfl 1 (by decide) (ht9 _ k393) (fun _ h9 => h9) rfl d_PartsReader_goThrough_207 ?_
        refine va_getN (D := D) (ci := 2) (v := .int lmo) (C := "DiscMaker$Found") (T := F_Found) (N := 13) hx hb ht9 in_Found hown hK hP 3 rfl rfl 7 (by decide) (va_Nw.use rfl (hN _ k1241)) (fun _ h9 => h9) rfl d_PartsReader_goThrough_210 ?_
        refine lv_ldc (v := 61440) hx hb hown (ht9 _ k1361) d_PartsReader_goThrough_213 ?_
        refine lv_iand hx hb d_PartsReader_goThrough_215 ?_
        refine lv_topi (fun v1 e_v1 => ?_)
        have t_v1 : 0 ≤ v1.toInt ∧ v1.toInt ≤ 61440 := by rw [e_v1]; exact i_and (by decide) (by decide)
        refine lv_ldc (v := 40960) hx hb hown (ht9 _ k1362) d_PartsReader_goThrough_216 ?_
        refine lv_icmp_ne (tgt := 229) hx hb d_PartsReader_goThrough_218 (by decide) (fun h_9 => ?_) (fun h_9 => ?_)
        · skip
          have g218_31 : ¬ v1.toInt = 40960 := fun h8 => h_9 ((i_eq rfl (by decide)).mpr h8)
          refine lv_iconst (v := (-1)) hx hb d_PartsReader_goThrough_229 (by decide) ?_
          have hP9 := hP.sub (ws' := [(h0, .inr (6, [.ref im, .ref fo, .int lnm, .int lco, .int lta, .int llc])), (im, .inr (1, [.ref iq, .int L])), (iq, .inl (cB, n, .inl f)), (fo, .inr (2, [.ref a1, .ref a2, .int pa, .int de, .int so, .int si, .int se, .int lmo, .int low, .int lgr, .int lnl, .int ltl, .int mk])), (a1, .inl (cB, 60, .inl lf1)), (a2, .inl (cB, 400, .inl lf2))]) [0, 1, 2, 3, 4, 5] rfl
          have hD9 := hD.sub (ws' := [(h0, .inr (6, [.ref im, .ref fo, .int lnm, .int lco, .int lta, .int llc])), (im, .inr (1, [.ref iq, .int L])), (iq, .inl (cB, n, .inl f)), (fo, .inr (2, [.ref a1, .ref a2, .int pa, .int de, .int so, .int si, .int se, .int lmo, .int low, .int lgr, .int lnl, .int ltl, .int mk])), (a1, .inl (cB, 60, .inl lf1)), (a2, .inl (cB, 400, .inl lf2))]) [0, 1, 2, 3, 4, 5] (by decide +kernel) rfl
          exact W.iret (v := (-1)) hx hb hr (fun t ht hW => ⟨⟨(-1), (lnm, lco, lta, llc, so, lmo, low, lgr, lnl, ltl, lf1, lf2), rfl, ⟨(by (try dsimp only); first | (intro h7; exfalso; omega) | (intro h7; omega)), (by (try dsimp only); first | assumption | omega | trivial)⟩, by rw [ht]; exact hP9, hD9⟩, hS.F ht⟩) hS.2.2 d_PartsReader_goThrough_230
        · skip
          have g218_31 : v1.toInt = 40960 := (i_eq rfl (by decide)).mp h_9
          refine lv_aload_n hx hb d_PartsReader_goThrough_221 rfl (lv_at hl 0 rfl) ?_
          refine va_get (D := D) (ci := 6) (v := .ref fo) (C := "DiscMaker$PartsReader") (T := F_PartsReader) (N := 6) hx hb ht9 in_PartsReader hown hK hP 0 rfl rfl 1 (by decide) (ht9 _ k393) (fun _ h9 => h9) rfl d_PartsReader_goThrough_222 ?_
          refine lv_iconst (v := 2) hx hb d_PartsReader_goThrough_225 (by decide) ?_
          refine va_putN (D := D) (ci := 2) (v := .int 2) (ty := .int) (C := "DiscMaker$Found") (T := F_Found) (N := 13) hx hb ht9 in_Found t_Found t_Found_ok n_Found hown hK hP hD hS 3 rfl rfl 4 (by decide) (va_Nw.use rfl (hN _ k1231)) (fun _ h9 => h9) rfl (by decide +kernel) rfl rfl (Nat.le_of_ble_eq_true rfl) d_PartsReader_goThrough_226 (fun H locs hP hD hS => ?_)
          have hP : va_P D CL [(h0, .inr (6, [.ref im, .ref fo, .int lnm, .int lco, .int lta, .int llc])), (im, .inr (1, [.ref iq, .int L])), (iq, .inl (cB, n, .inl f)), (fo, .inr (2, [.ref a1, .ref a2, .int pa, .int de, .int 2, .int si, .int se, .int lmo, .int low, .int lgr, .int lnl, .int ltl, .int mk])), (a1, .inl (cB, 60, .inl lf1)), (a2, .inl (cB, 400, .inl lf2))] H := hP
          have hD : va_D A [(h0, .inr (6, [.ref im, .ref fo, .int lnm, .int lco, .int lta, .int llc])), (im, .inr (1, [.ref iq, .int L])), (iq, .inl (cB, n, .inl f)), (fo, .inr (2, [.ref a1, .ref a2, .int pa, .int de, .int 2, .int si, .int se, .int lmo, .int low, .int lgr, .int lnl, .int ltl, .int mk])), (a1, .inl (cB, 60, .inl lf1)), (a2, .inl (cB, 400, .inl lf2))] := hD
          refine lv_iconst (v := (-1)) hx hb d_PartsReader_goThrough_229 (by decide) ?_
          have hP9 := hP.sub (ws' := [(h0, .inr (6, [.ref im, .ref fo, .int lnm, .int lco, .int lta, .int llc])), (im, .inr (1, [.ref iq, .int L])), (iq, .inl (cB, n, .inl f)), (fo, .inr (2, [.ref a1, .ref a2, .int pa, .int de, .int 2, .int si, .int se, .int lmo, .int low, .int lgr, .int lnl, .int ltl, .int mk])), (a1, .inl (cB, 60, .inl lf1)), (a2, .inl (cB, 400, .inl lf2))]) [0, 1, 2, 3, 4, 5] rfl
          have hD9 := hD.sub (ws' := [(h0, .inr (6, [.ref im, .ref fo, .int lnm, .int lco, .int lta, .int llc])), (im, .inr (1, [.ref iq, .int L])), (iq, .inl (cB, n, .inl f)), (fo, .inr (2, [.ref a1, .ref a2, .int pa, .int de, .int 2, .int si, .int se, .int lmo, .int low, .int lgr, .int lnl, .int ltl, .int mk])), (a1, .inl (cB, 60, .inl lf1)), (a2, .inl (cB, 400, .inl lf2))]) [0, 1, 2, 3, 4, 5] (by decide +kernel) rfl
          exact W.iret (v := (-1)) hx hb hr (fun t ht hW => ⟨⟨(-1), (lnm, lco, lta, llc, 2, lmo, low, lgr, lnl, ltl, lf1, lf2), rfl, ⟨(by (try dsimp only); first | (intro h7; exfalso; omega) | (intro h7; omega)), (by (try dsimp only); first | assumption | omega | trivial)⟩, by rw [ht]; exact hP9, hD9⟩, hS.F ht⟩) hS.2.2 d_PartsReader_goThrough_230
      · skip
        have g194_24 : ¬ lta.toInt = 0 := fun h8 => h_9 ((i_eq rfl (by decide)).mpr h8)
        refine lv_aload_n hx hb d_PartsReader_goThrough_197 rfl (lv_at hl 0 rfl) ?_
        refine va_get (D := D) (ci := 6) (v := .ref fo) (C := "DiscMaker$PartsReader") (T := F_PartsReader) (N := 6) hx hb ht9 in_PartsReader hown hK hP 0 rfl rfl 1 (by decide) (ht9 _ k393) (fun _ h9 => h9) rfl d_PartsReader_goThrough_198 ?_
        refine lv_bipush (v := 47) hx hb d_PartsReader_goThrough_201 (by decide) ?_
        have hPc := hP.sub (ws' := [(fo, .inr (2, [.ref a1, .ref a2, .int pa, .int de, .int so, .int si, .int se, .int lmo, .int low, .int lgr, .int lnl, .int ltl, .int mk])), (a2, .inl (cB, 400, .inl lf2))]) [3, 5] rfl
        have hDc := hD.sub (ws' := [(fo, .inr (2, [.ref a1, .ref a2, .int pa, .int de, .int so, .int si, .int se, .int lmo, .int low, .int lgr, .int lnl, .int ltl, .int mk])), (a2, .inl (cB, 400, .inl lf2))]) [3, 5] (by decide +kernel) rfl
        have hFc := va_free (wc := [(fo, .inr (2, [.ref a1, .ref a2, .int pa, .int de, .int so, .int si, .int se, .int lmo, .int low, .int lgr, .int lnl, .int ltl, .int mk])), (a2, .inl (cB, 400, .inl lf2))]) hD hS hA [3, 5] rfl
        have hkc : 0 ≤ 0 := by decide
        have hks : 0 ≤ 0 := by decide
        refine va_callv (va_runV (C := "DiscMaker$Found") (As := [.int 47]) (rest := []) ⟨hx, hb, hml, hown, hts⟩ (c3_addToTarget l D cB cI cJ cZ cN cF H.size fo a1 a2 pa de so si se lmo low lgr lnl ltl mk lf2 47 (by (try dsimp only); first | assumption | omega | trivial)) (cwV 1 hts (lg_goodV k1345 k1346 k1347 k141 kc_Found_addToTarget) rfl rfl rfl (by decide +kernel) ⟨Nat.le_of_ble_eq_true rfl, Nat.le_of_ble_eq_true rfl⟩) ⟨fun a U g mk q => by obtain ⟨q0, q1, qP, qK, qN, qD⟩ := q; exact ⟨q0, q1, qP, va_K.moved (u := U) (U := U.calling g mk a) (Vm.Alike.refl U.vm) qK, qN.calling, qD⟩, va_recv hK hP (ci := 2) (q0 := 3) rfl rfl, fun U hU hW => ⟨rfl, by rw [hU], by rw [hU]; exact hPc, va_K.moved hW.alike hK, NN.warm hW hN, hDc.weaken (fun _ _ _ _ => trivial)⟩⟩ rfl rfl hl.1 rfl (lv_room (Nat.le_of_ble_eq_true rfl)) d_PartsReader_goThrough_203 ⟨hkc, hks⟩) hS (fun q _ h => hFc q h) hFc (fun u t H1 locs ht hvm hp_r2 hB hz1 hk1 hS => ?_)
        obtain ⟨l2_3, g_4⟩ := u
        obtain ⟨hP1, hD1⟩ := hB
        rw [ht] at hP1
        obtain ⟨hP, hD⟩ := va_join (wr := [(h0, .inr (6, [.ref im, .ref fo, .int lnm, .int lco, .int lta, .int llc])), (im, .inr (1, [.ref iq, .int L])), (iq, .inl (cB, n, .inl f)), (a1, .inl (cB, 60, .inl lf1))]) (w1 := [(fo, .inr (2, [.ref a1, .ref a2, .int pa, .int de, .int so, .int si, .int se, .int lmo, .int low, .int lgr, .int lnl, .int l2_3, .int mk])), (a2, .inl (cB, 400, .inl g_4))]) hP hD [3, 5] [0, 1, 2, 4] rfl rfl (by decide +kernel) (by decide +kernel) hk1 hFc hP1 hD1
        clear hPc hDc hFc hP1 hD1 hk1 hz1 hkc hks
        generalize H1 = H at hP hS ⊢
        have hP : va_P D CL [(h0, .inr (6, [.ref im, .ref fo, .int lnm, .int lco, .int lta, .int llc])), (im, .inr (1, [.ref iq, .int L])), (iq, .inl (cB, n, .inl f)), (a1, .inl (cB, 60, .inl lf1)), (fo, .inr (2, [.ref a1, .ref a2, .int pa, .int de, .int so, .int si, .int se, .int lmo, .int low, .int lgr, .int lnl, .int l2_3, .int mk])), (a2, .inl (cB, 400, .inl g_4))] H := hP
        have hD : va_D A [(h0, .inr (6, [.ref im, .ref fo, .int lnm, .int lco, .int lta, .int llc])), (im, .inr (1, [.ref iq, .int L])), (iq, .inl (cB, n, .inl f)), (a1, .inl (cB, 60, .inl lf1)), (fo, .inr (2, [.ref a1, .ref a2, .int pa, .int de, .int so, .int si, .int se, .int lmo, .int low, .int lgr, .int lnl, .int l2_3, .int mk])), (a2, .inl (cB, 400, .inl g_4))] := hD
        try dsimp only at hp_r2
        have hl2_5 := hp_r2
        refine lv_aload_n hx hb d_PartsReader_goThrough_206 rfl (lv_at hl 0 rfl) ?_
        refine va_get (D := D) (ci := 6) (v := .ref fo) (C := "DiscMaker$PartsReader") (T := F_PartsReader) (N := 6) hx hb ht9 in_PartsReader hown hK hP 0 rfl rfl 1 (by decide) (ht9 _ k393) (fun _ h9 => h9) rfl d_PartsReader_goThrough_207 ?_
        refine va_getN (D := D) (ci := 2) (v := .int lmo) (C := "DiscMaker$Found") (T := F_Found) (N := 13) hx hb ht9 in_Found hown hK hP 4 rfl rfl 7 (by decide) (va_Nw.use rfl (hN _ k1241)) (fun _ h9 => h9) rfl d_PartsReader_goThrough_210 ?_
        refine lv_ldc (v := 61440) hx hb hown (ht9 _ k1361) d_PartsReader_goThrough_213 ?_
        refine lv_iand hx hb d_PartsReader_goThrough_215 ?_
        refine lv_topi (fun v6 e_v6 => ?_)
        have t_v6 : 0 ≤ v6.toInt ∧ v6.toInt ≤ 61440 := by rw [e_v6]; exact i_and (by decide) (by decide)
        refine lv_ldc (v := 40960) hx hb hown (ht9 _ k1362) d_PartsReader_goThrough_216 ?_
        refine lv_icmp_ne (tgt := 229) hx hb d_PartsReader_goThrough_218 (by decide) (fun h_9 => ?_) (fun h_9 => ?_)
        · skip
          have g218_50 : ¬ v6.toInt = 40960 := fun h8 => h_9 ((i_eq rfl (by decide)).mpr h8)
          refine lv_iconst (v := (-1)) hx hb d_PartsReader_goThrough_229 (by decide) ?_
          have hP9 := hP.sub (ws' := [(h0, .inr (6, [.ref im, .ref fo, .int lnm, .int lco, .int lta, .int llc])), (im, .inr (1, [.ref iq, .int L])), (iq, .inl (cB, n, .inl f)), (fo, .inr (2, [.ref a1, .ref a2, .int pa, .int de, .int so, .int si, .int se, .int lmo, .int low, .int lgr, .int lnl, .int l2_3, .int mk])), (a1, .inl (cB, 60, .inl lf1)), (a2, .inl (cB, 400, .inl g_4))]) [0, 1, 2, 4, 3, 5] rfl
          have hD9 := hD.sub (ws' := [(h0, .inr (6, [.ref im, .ref fo, .int lnm, .int lco, .int lta, .int llc])), (im, .inr (1, [.ref iq, .int L])), (iq, .inl (cB, n, .inl f)), (fo, .inr (2, [.ref a1, .ref a2, .int pa, .int de, .int so, .int si, .int se, .int lmo, .int low, .int lgr, .int lnl, .int l2_3, .int mk])), (a1, .inl (cB, 60, .inl lf1)), (a2, .inl (cB, 400, .inl g_4))]) [0, 1, 2, 4, 3, 5] (by decide +kernel) rfl
          exact W.iret (v := (-1)) hx hb hr (fun t ht hW => ⟨⟨(-1), (lnm, lco, lta, llc, so, lmo, low, lgr, lnl, l2_3, lf1, g_4), rfl, ⟨(by (try dsimp only); first | (intro h7; exfalso; omega) | (intro h7; omega)), (by (try dsimp only); first | assumption | omega | trivial)⟩, by rw [ht]; exact hP9, hD9⟩, hS.F ht⟩) hS.2.2 d_PartsReader_goThrough_230
        · skip
          have g218_50 : v6.toInt = 40960 := (i_eq rfl (by decide)).mp h_9
          refine lv_aload_n hx hb d_PartsReader_goThrough_221 rfl (lv_at hl 0 rfl) ?_
          refine va_get (D := D) (ci := 6) (v := .ref fo) (C := "DiscMaker$PartsReader") (T := F_PartsReader) (N := 6) hx hb ht9 in_PartsReader hown hK hP 0 rfl rfl 1 (by decide) (ht9 _ k393) (fun _ h9 => h9) rfl d_PartsReader_goThrough_222 ?_
          refine lv_iconst (v := 2) hx hb d_PartsReader_goThrough_225 (by decide) ?_
          refine va_putN (D := D) (ci := 2) (v := .int 2) (ty := .int) (C := "DiscMaker$Found") (T := F_Found) (N := 13) hx hb ht9 in_Found t_Found t_Found_ok n_Found hown hK hP hD hS 4 rfl rfl 4 (by decide) (va_Nw.use rfl (hN _ k1231)) (fun _ h9 => h9) rfl (by decide +kernel) rfl rfl (Nat.le_of_ble_eq_true rfl) d_PartsReader_goThrough_226 (fun H locs hP hD hS => ?_)
          have hP : va_P D CL [(h0, .inr (6, [.ref im, .ref fo, .int lnm, .int lco, .int lta, .int llc])), (im, .inr (1, [.ref iq, .int L])), (iq, .inl (cB, n, .inl f)), (a1, .inl (cB, 60, .inl lf1)), (fo, .inr (2, [.ref a1, .ref a2, .int pa, .int de, .int 2, .int si, .int se, .int lmo, .int low, .int lgr, .int lnl, .int l2_3, .int mk])), (a2, .inl (cB, 400, .inl g_4))] H := hP
          have hD : va_D A [(h0, .inr (6, [.ref im, .ref fo, .int lnm, .int lco, .int lta, .int llc])), (im, .inr (1, [.ref iq, .int L])), (iq, .inl (cB, n, .inl f)), (a1, .inl (cB, 60, .inl lf1)), (fo, .inr (2, [.ref a1, .ref a2, .int pa, .int de, .int 2, .int si, .int se, .int lmo, .int low, .int lgr, .int lnl, .int l2_3, .int mk])), (a2, .inl (cB, 400, .inl g_4))] := hD
          refine lv_iconst (v := (-1)) hx hb d_PartsReader_goThrough_229 (by decide) ?_
          have hP9 := hP.sub (ws' := [(h0, .inr (6, [.ref im, .ref fo, .int lnm, .int lco, .int lta, .int llc])), (im, .inr (1, [.ref iq, .int L])), (iq, .inl (cB, n, .inl f)), (fo, .inr (2, [.ref a1, .ref a2, .int pa, .int de, .int 2, .int si, .int se, .int lmo, .int low, .int lgr, .int lnl, .int l2_3, .int mk])), (a1, .inl (cB, 60, .inl lf1)), (a2, .inl (cB, 400, .inl g_4))]) [0, 1, 2, 4, 3, 5] rfl
          have hD9 := hD.sub (ws' := [(h0, .inr (6, [.ref im, .ref fo, .int lnm, .int lco, .int lta, .int llc])), (im, .inr (1, [.ref iq, .int L])), (iq, .inl (cB, n, .inl f)), (fo, .inr (2, [.ref a1, .ref a2, .int pa, .int de, .int 2, .int si, .int se, .int lmo, .int low, .int lgr, .int lnl, .int l2_3, .int mk])), (a1, .inl (cB, 60, .inl lf1)), (a2, .inl (cB, 400, .inl g_4))]) [0, 1, 2, 4, 3, 5] (by decide +kernel) rfl
          exact W.iret (v := (-1)) hx hb hr (fun t ht hW => ⟨⟨(-1), (lnm, lco, lta, llc, 2, lmo, low, lgr, lnl, l2_3, lf1, g_4), rfl, ⟨(by (try dsimp only); first | (intro h7; exfalso; omega) | (intro h7; omega)), (by (try dsimp only); first | assumption | omega | trivial)⟩, by rw [ht]; exact hP9, hD9⟩, hS.F ht⟩) hS.2.2 d_PartsReader_goThrough_230
    · skip
      have g32_21 : ¬ 5 < rn.toInt := fun h8 => h_9 ((i_lt (by decide) rfl).mpr h8)
      refine lv_aload_n hx hb d_PartsReader_goThrough_35 rfl (lv_at hl 0 rfl) ?_
      refine lv_iconst (v := (-1)) hx hb d_PartsReader_goThrough_36 (by decide) ?_
      refine va_put (D := D) (ci := 6) (v := .int (-1)) (ty := .int) (C := "DiscMaker$PartsReader") (T := F_PartsReader) (N := 6) hx hb ht9 in_PartsReader t_PartsReader t_PartsReader_ok n_PartsReader hown hK hP hD hS 0 rfl rfl 5 (by decide) (ht9 _ k398) (fun _ h9 => h9) rfl (by decide +kernel) rfl rfl (Nat.le_of_ble_eq_true rfl) d_PartsReader_goThrough_37 (fun H locs hP hD hS => ?_)
      have hP : va_P D CL [(h0, .inr (6, [.ref im, .ref fo, .int lnm, .int lco, .int lta, .int (-1)])), (im, .inr (1, [.ref iq, .int L])), (iq, .inl (cB, n, .inl f)), (fo, .inr (2, [.ref a1, .ref a2, .int pa, .int de, .int so, .int si, .int se, .int lmo, .int low, .int lgr, .int lnl, .int ltl, .int mk])), (a1, .inl (cB, 60, .inl lf1)), (a2, .inl (cB, 400, .inl lf2))] H := hP
      have hD : va_D A [(h0, .inr (6, [.ref im, .ref fo, .int lnm, .int lco, .int lta, .int (-1)])), (im, .inr (1, [.ref iq, .int L])), (iq, .inl (cB, n, .inl f)), (fo, .inr (2, [.ref a1, .ref a2, .int pa, .int de, .int so, .int si, .int se, .int lmo, .int low, .int lgr, .int lnl, .int ltl, .int mk])), (a1, .inl (cB, 60, .inl lf1)), (a2, .inl (cB, 400, .inl lf2))] := hD
      refine lv_iload hx hb d_PartsReader_goThrough_40 (lv_at hl 4 rfl) ?_
      refine lv_istore hx hb d_PartsReader_goThrough_42 hl (by decide) rfl (fun ls hl => ?_)
      have hl : lv_has ls 9 [(7, .int fr), (0, .ref h0), (1, .ref fo), (2, .int x), (3, .int y), (4, .int fr), (5, .int to9), (6, .int rn)] := hl
      refine zz_labM (B := fun (lk : Nat) (K : Heap → List Loc → Array Slot → List Value → Prop) => ∀ (at9 : Int32) (blc : Int32) (bnm : Int32) (bco : Int32) (bta : Int32) (bmo : Int32) (bow : Int32) (bgr : Int32) (bnl : Int32) (btl : Int32) (bf1 : Nat → Int32) (bf2 : Nat → Int32) (H : Heap) (locs : List Loc) (ls : Array Slot), lk = (4000300 - at9.toInt).toNat → (fr.toInt ≤ at9.toInt ∧ at9.toInt ≤ 4000000) → (blc.toInt = -1 ∨ (0 ≤ blc.toInt ∧ blc.toInt ≤ 4000000 ∧ CEok f L blc)) → (0 ≤ bco.toInt ∧ bco.toInt ≤ 4000000 * rn.toInt + (at9.toInt - fr.toInt)) → (0 ≤ bnl.toInt ∧ bnl.toInt ≤ 60) → (bco.toInt = 0 → btl.toInt = 0) → (bta.toInt ≠ 0 → btl.toInt = 0) → (0 ≤ bta.toInt ∧ bta.toInt ≤ 1) → (0 ≤ btl.toInt ∧ btl.toInt ≤ 400) → va_P D CL [(h0, .inr (6, [.ref im, .ref fo, .int bnm, .int bco, .int bta, .int blc])), (im, .inr (1, [.ref iq, .int L])), (iq, .inl (cB, n, .inl f)), (fo, .inr (2, [.ref a1, .ref a2, .int pa, .int de, .int so, .int si, .int se, .int bmo, .int bow, .int bgr, .int bnl, .int btl, .int mk])), (a1, .inl (cB, 60, .inl bf1)), (a2, .inl (cB, 400, .inl bf2))] H → va_D A [(h0, .inr (6, [.ref im, .ref fo, .int bnm, .int bco, .int bta, .int blc])), (im, .inr (1, [.ref iq, .int L])), (iq, .inl (cB, n, .inl f)), (fo, .inr (2, [.ref a1, .ref a2, .int pa, .int de, .int so, .int si, .int se, .int bmo, .int bow, .int bgr, .int bnl, .int btl, .int mk])), (a1, .inl (cB, 60, .inl bf1)), (a2, .inl (cB, 400, .inl bf2))] → va_S A s.heap H locs → lv_has ls 9 [(0, .ref h0), (1, .ref fo), (2, .int x), (3, .int y), (4, .int fr), (5, .int to9), (6, .int rn), (7, .int at9)] → K H locs ls []) 44 ?_ ?_
      · skip
        intro lk ih44 at9 blc bnm bco bta bmo bow bgr bnl btl bf1 bf2 H locs ls hm44 e30 e31 e33 be1 bhc0 bht0 bhta bhtl hP hD hS hl
        refine lv_iload hx hb d_PartsReader_goThrough_44 (lv_at hl 7 rfl) ?_
        refine lv_iconst (v := 4) hx hb d_PartsReader_goThrough_46 (by decide) ?_
        refine lv_iadd hx hb d_PartsReader_goThrough_47 ?_
        refine lv_topi (fun v7 e_v7 => ?_)
        have t_v7 : v7.toInt = at9.toInt + 4 := by rw [e_v7]; exact i_add rfl (by decide) (by omega) (by omega)
        refine lv_iload hx hb d_PartsReader_goThrough_48 (lv_at hl 5 rfl) ?_
        refine lv_icmp_gt (tgt := 106) hx hb d_PartsReader_goThrough_50 (by decide) (fun h_9 => ?_) (fun h_9 => ?_)
        · skip
          have g50_68 : to9.toInt < v7.toInt := (i_lt rfl rfl).mp h_9
          refine lv_aload_n hx hb d_PartsReader_goThrough_106 rfl (lv_at hl 0 rfl) ?_
          refine va_get (D := D) (ci := 6) (v := .int blc) (C := "DiscMaker$PartsReader") (T := F_PartsReader) (N := 6) hx hb ht9 in_PartsReader hown hK hP 0 rfl rfl 5 (by decide) (ht9 _ k398) (fun _ h9 => h9) rfl d_PartsReader_goThrough_107 ?_
          refine lv_iconst (v := (-1)) hx hb d_PartsReader_goThrough_110 (by decide) ?_
          refine lv_icmp_ne (tgt := 117) hx hb d_PartsReader_goThrough_111 (by decide) (fun h_9 => ?_) (fun h_9 => ?_)
          · skip
            have g111_72 : ¬ blc.toInt = (-1) := fun h8 => h_9 ((i_eq rfl (by decide)).mpr h8)
            refine lv_iload hx hb d_PartsReader_goThrough_117 (lv_at hl 6 rfl) ?_
            refine lv_iconst (v := 5) hx hb d_PartsReader_goThrough_119 (by decide) ?_
            refine lv_icmp_ne (tgt := 128) hx hb d_PartsReader_goThrough_120 (by decide) (fun h_9 => ?_) (fun h_9 => ?_)
            · skip
              have g120_75 : ¬ rn.toInt = 5 := fun h8 => h_9 ((i_eq rfl (by decide)).mpr h8)
              refine lv_aload_n hx hb d_PartsReader_goThrough_128 rfl (lv_at hl 0 rfl) ?_
              have hce : CEok f L blc := e31.elim (fun h6 => by exfalso; omega) (fun h6 => h6.2.2)
              have hce9 := hce
              unfold CEok at hce9
              refine va_get (D := D) (ci := 6) (v := .ref im) (C := "DiscMaker$PartsReader") (T := F_PartsReader) (N := 6) hx hb ht9 in_PartsReader hown hK hP 0 rfl rfl 0 (by decide) (ht9 _ k392) (fun _ h9 => h9) rfl d_PartsReader_goThrough_129 ?_
              refine lv_aload_n hx hb d_PartsReader_goThrough_132 rfl (lv_at hl 0 rfl) ?_
              refine va_get (D := D) (ci := 6) (v := .int blc) (C := "DiscMaker$PartsReader") (T := F_PartsReader) (N := 6) hx hb ht9 in_PartsReader hown hK hP 0 rfl rfl 5 (by decide) (ht9 _ k398) (fun _ h9 => h9) rfl d_PartsReader_goThrough_133 ?_
              refine lv_iconst (v := 4) hx hb d_PartsReader_goThrough_136 (by decide) ?_
              refine lv_iadd hx hb d_PartsReader_goThrough_137 ?_
              refine lv_topi (fun v8 e_v8 => ?_)
              have t_v8 : v8.toInt = blc.toInt + 4 := by rw [e_v8]; exact i_add rfl (by decide) (by omega) (by omega)
              refine lv_iconst (v := 4) hx hb d_PartsReader_goThrough_138 (by decide) ?_
              have hPc := hP.sub (ws' := [(im, .inr (1, [.ref iq, .int L])), (iq, .inl (cB, n, .inl f))]) [1, 2] rfl
              have hDc := hD.sub (ws' := [(im, .inr (1, [.ref iq, .int L])), (iq, .inl (cB, n, .inl f))]) [1, 2] (by decide +kernel) rfl
              have hFc := va_free (wc := [(im, .inr (1, [.ref iq, .int L])), (iq, .inl (cB, n, .inl f))]) hD hS hA [1, 2] rfl
              have hkc : 0 ≤ 0 := by decide
              have hks : 0 ≤ 0 := by decide
              refine va_calli (va_runV (C := "DiscMaker$Bytes") (As := [.int v8, .int 4]) (rest := []) ⟨hx, hb, hml, hown, hts⟩ (c3_low4 l D cB cI cJ cZ cN cF H.size im iq n L f v8 (by (try dsimp only); first | assumption | omega | trivial) (by (try dsimp only); first | assumption | omega | trivial) (by (try dsimp only); first | assumption | omega | trivial)) (cwV 2 hts (lg_goodV k1337 k1190 k1191 k119 kc_Bytes_low) rfl rfl rfl (by decide +kernel) ⟨Nat.le_of_ble_eq_true rfl, Nat.le_of_ble_eq_true rfl⟩) ⟨fun a U g mk q => by obtain ⟨q0, q1, qP, qK, qN, qD⟩ := q; exact ⟨q0, q1, qP, va_K.moved (u := U) (U := U.calling g mk a) (Vm.Alike.refl U.vm) qK, qN.calling, qD⟩, va_recv hK hP (ci := 1) (q0 := 1) rfl rfl, fun U hU hW => ⟨rfl, by rw [hU], by rw [hU]; exact hPc, va_K.moved hW.alike hK, NN.warm hW hN, hDc.weaken (fun _ _ _ _ => trivial)⟩⟩ rfl rfl hl.1 rfl (lv_room (Nat.le_of_ble_eq_true rfl)) d_PartsReader_goThrough_139 ⟨hkc, hks⟩) hS (fun q _ h => hFc q h) hFc (fun r9 u t H1 locs ht hvm hp_r9 hB hz1 hk1 hS => ?_)
              obtain ⟨hP1, hD1⟩ := hB
              rw [ht] at hP1
              obtain ⟨hP, hD⟩ := va_join (wr := [(h0, .inr (6, [.ref im, .ref fo, .int bnm, .int bco, .int bta, .int blc])), (fo, .inr (2, [.ref a1, .ref a2, .int pa, .int de, .int so, .int si, .int se, .int bmo, .int bow, .int bgr, .int bnl, .int btl, .int mk])), (a1, .inl (cB, 60, .inl bf1)), (a2, .inl (cB, 400, .inl bf2))]) (w1 := [(im, .inr (1, [.ref iq, .int L])), (iq, .inl (cB, n, .inl f))]) hP hD [1, 2] [0, 3, 4, 5] rfl rfl (by decide +kernel) (by decide +kernel) hk1 hFc hP1 hD1
              clear hPc hDc hFc hP1 hD1 hk1 hz1 hkc hks
              generalize H1 = H at hP hS ⊢
              have hP : va_P D CL [(h0, .inr (6, [.ref im, .ref fo, .int bnm, .int bco, .int bta, .int blc])), (fo, .inr (2, [.ref a1, .ref a2, .int pa, .int de, .int so, .int si, .int se, .int bmo, .int bow, .int bgr, .int bnl, .int btl, .int mk])), (a1, .inl (cB, 60, .inl bf1)), (a2, .inl (cB, 400, .inl bf2)), (im, .inr (1, [.ref iq, .int L])), (iq, .inl (cB, n, .inl f))] H := hP
              have hD : va_D A [(h0, .inr (6, [.ref im, .ref fo, .int bnm, .int bco, .int bta, .int blc])), (fo, .inr (2, [.ref a1, .ref a2, .int pa, .int de, .int so, .int si, .int se, .int bmo, .int bow, .int bgr, .int bnl, .int btl, .int mk])), (a1, .inl (cB, 60, .inl bf1)), (a2, .inl (cB, 400, .inl bf2)), (im, .inr (1, [.ref iq, .int L])), (iq, .inl (cB, n, .inl f))] := hD
              try dsimp only at hp_r9
              have hv_10 := hp_r9
              have qr9 : r9.toInt = (low4B f L (blc + 4)).toInt := by subst_vars; rfl
              refine lv_sipush (v := 2048) hx hb d_PartsReader_goThrough_142 (by decide) ?_
              refine lv_imul hx hb d_PartsReader_goThrough_145 ?_
              refine lv_topi (fun v11 e_v11 => ?_)
              have t_v11 : v11.toInt = r9.toInt * 2048 := by rw [e_v11]; exact i_mul rfl (by decide) (by omega) (by omega)
              refine lv_aload_n hx hb d_PartsReader_goThrough_146 rfl (lv_at hl 0 rfl) ?_
              refine va_get (D := D) (ci := 6) (v := .ref im) (C := "DiscMaker$PartsReader") (T := F_PartsReader) (N := 6) hx hb ht9 in_PartsReader hown hK hP 0 rfl rfl 0 (by decide) (ht9 _ k392) (fun _ h9 => h9) rfl d_PartsReader_goThrough_147 ?_
              refine lv_aload_n hx hb d_PartsReader_goThrough_150 rfl (lv_at hl 0 rfl) ?_
              refine va_get (D := D) (ci := 6) (v := .int blc) (C := "DiscMaker$PartsReader") (T := F_PartsReader) (N := 6) hx hb ht9 in_PartsReader hown hK hP 0 rfl rfl 5 (by decide) (ht9 _ k398) (fun _ h9 => h9) rfl d_PartsReader_goThrough_151 ?_
              refine lv_bipush (v := 12) hx hb d_PartsReader_goThrough_154 (by decide) ?_
              refine lv_iadd hx hb d_PartsReader_goThrough_156 ?_
              refine lv_topi (fun v12 e_v12 => ?_)
              have t_v12 : v12.toInt = blc.toInt + 12 := by rw [e_v12]; exact i_add rfl (by decide) (by omega) (by omega)
              refine lv_iconst (v := 4) hx hb d_PartsReader_goThrough_157 (by decide) ?_
              have hPc := hP.sub (ws' := [(im, .inr (1, [.ref iq, .int L])), (iq, .inl (cB, n, .inl f))]) [4, 5] rfl
              have hDc := hD.sub (ws' := [(im, .inr (1, [.ref iq, .int L])), (iq, .inl (cB, n, .inl f))]) [4, 5] (by decide +kernel) rfl
              have hFc := va_free (wc := [(im, .inr (1, [.ref iq, .int L])), (iq, .inl (cB, n, .inl f))]) hD hS hA [4, 5] rfl
              have hkc : 0 ≤ 0 := by decide
              have hks : 0 ≤ 0 := by decide
              refine va_calli (va_runV (C := "DiscMaker$Bytes") (As := [.int v12, .int 4]) (rest := [.int v11]) ⟨hx, hb, hml, hown, hts⟩ (c3_low4 l D cB cI cJ cZ cN cF H.size im iq n L f v12 (by (try dsimp only); first | assumption | omega | trivial) (by (try dsimp only); first | assumption | omega | trivial) (by (try dsimp only); first | assumption | omega | trivial)) (cwV 2 hts (lg_goodV k1337 k1190 k1191 k119 kc_Bytes_low) rfl rfl rfl (by decide +kernel) ⟨Nat.le_of_ble_eq_true rfl, Nat.le_of_ble_eq_true rfl⟩) ⟨fun a U g mk q => by obtain ⟨q0, q1, qP, qK, qN, qD⟩ := q; exact ⟨q0, q1, qP, va_K.moved (u := U) (U := U.calling g mk a) (Vm.Alike.refl U.vm) qK, qN.calling, qD⟩, va_recv hK hP (ci := 1) (q0 := 4) rfl rfl, fun U hU hW => ⟨rfl, by rw [hU], by rw [hU]; exact hPc, va_K.moved hW.alike hK, NN.warm hW hN, hDc.weaken (fun _ _ _ _ => trivial)⟩⟩ rfl rfl hl.1 rfl (lv_room (Nat.le_of_ble_eq_true rfl)) d_PartsReader_goThrough_158 ⟨hkc, hks⟩) hS (fun q _ h => hFc q h) hFc (fun r13 u t H1 locs ht hvm hp_r13 hB hz1 hk1 hS => ?_)
              obtain ⟨hP1, hD1⟩ := hB
              rw [ht] at hP1
              obtain ⟨hP, hD⟩ := va_join (wr := [(h0, .inr (6, [.ref im, .ref fo, .int bnm, .int bco, .int bta, .int blc])), (fo, .inr (2, [.ref a1, .ref a2, .int pa, .int de, .int so, .int si, .int se, .int bmo, .int bow, .int bgr, .int bnl, .int btl, .int mk])), (a1, .inl (cB, 60, .inl bf1)), (a2, .inl (cB, 400, .inl bf2))]) (w1 := [(im, .inr (1, [.ref iq, .int L])), (iq, .inl (cB, n, .inl f))]) hP hD [4, 5] [0, 1, 2, 3] rfl rfl (by decide +kernel) (by decide +kernel) hk1 hFc hP1 hD1
              clear hPc hDc hFc hP1 hD1 hk1 hz1 hkc hks
              generalize H1 = H at hP hS ⊢
              have hP : va_P D CL [(h0, .inr (6, [.ref im, .ref fo, .int bnm, .int bco, .int bta, .int blc])), (fo, .inr (2, [.ref a1, .ref a2, .int pa, .int de, .int so, .int si, .int se, .int bmo, .int bow, .int bgr, .int bnl, .int btl, .int mk])), (a1, .inl (cB, 60, .inl bf1)), (a2, .inl (cB, 400, .inl bf2)), (im, .inr (1, [.ref iq, .int L])), (iq, .inl (cB, n, .inl f))] H := hP
              have hD : va_D A [(h0, .inr (6, [.ref im, .ref fo, .int bnm, .int bco, .int bta, .int blc])), (fo, .inr (2, [.ref a1, .ref a2, .int pa, .int de, .int so, .int si, .int se, .int bmo, .int bow, .int bgr, .int bnl, .int btl, .int mk])), (a1, .inl (cB, 60, .inl bf1)), (a2, .inl (cB, 400, .inl bf2)), (im, .inr (1, [.ref iq, .int L])), (iq, .inl (cB, n, .inl f))] := hD
              try dsimp only at hp_r13
              have hv_14 := hp_r13
              have qr13 : r13.toInt = (low4B f L (blc + 12)).toInt := by subst_vars; rfl
              refine lv_iadd hx hb d_PartsReader_goThrough_161 ?_
              refine lv_topi (fun v15 e_v15 => ?_)
              have t_v15 : v15.toInt = v11.toInt + r13.toInt := by rw [e_v15]; exact i_add rfl rfl (by omega) (by omega)
              refine lv_istore hx hb d_PartsReader_goThrough_162 hl (by decide) rfl (fun ls hl => ?_)
              have hl : lv_has ls 9 [(4, .int v15), (0, .ref h0), (1, .ref fo), (2, .int x), (3, .int y), (5, .int to9), (6, .int rn), (7, .int at9)] := hl
              refine lv_iload hx hb d_PartsReader_goThrough_164 (lv_at hl 0 rfl) ?_
              refine lv_aload_n hx hb d_PartsReader_goThrough_166 rfl (lv_at hl 1 rfl) ?_
              refine va_get (D := D) (ci := 6) (v := .ref im) (C := "DiscMaker$PartsReader") (T := F_PartsReader) (N := 6) hx hb ht9 in_PartsReader hown hK hP 0 rfl rfl 0 (by decide) (ht9 _ k392) (fun _ h9 => h9) rfl d_PartsReader_goThrough_167 ?_
              refine lv_aload_n hx hb d_PartsReader_goThrough_170 rfl (lv_at hl 1 rfl) ?_
              refine va_get (D := D) (ci := 6) (v := .int blc) (C := "DiscMaker$PartsReader") (T := F_PartsReader) (N := 6) hx hb ht9 in_PartsReader hown hK hP 0 rfl rfl 5 (by decide) (ht9 _ k398) (fun _ h9 => h9) rfl d_PartsReader_goThrough_171 ?_
              refine lv_bipush (v := 20) hx hb d_PartsReader_goThrough_174 (by decide) ?_
              refine lv_iadd hx hb d_PartsReader_goThrough_176 ?_
              refine lv_topi (fun v16 e_v16 => ?_)
              have t_v16 : v16.toInt = blc.toInt + 20 := by rw [e_v16]; exact i_add rfl (by decide) (by omega) (by omega)
              refine lv_iconst (v := 4) hx hb d_PartsReader_goThrough_177 (by decide) ?_
              have hPc := hP.sub (ws' := [(im, .inr (1, [.ref iq, .int L])), (iq, .inl (cB, n, .inl f))]) [4, 5] rfl
              have hDc := hD.sub (ws' := [(im, .inr (1, [.ref iq, .int L])), (iq, .inl (cB, n, .inl f))]) [4, 5] (by decide +kernel) rfl
              have hFc := va_free (wc := [(im, .inr (1, [.ref iq, .int L])), (iq, .inl (cB, n, .inl f))]) hD hS hA [4, 5] rfl
              have hkc : 0 ≤ 0 := by decide
              have hks : 0 ≤ 0 := by decide
              refine va_calli (va_runV (C := "DiscMaker$Bytes") (As := [.int v16, .int 4]) (rest := [.int v15]) ⟨hx, hb, hml, hown, hts⟩ (c3_low4 l D cB cI cJ cZ cN cF H.size im iq n L f v16 (by (try dsimp only); first | assumption | omega | trivial) (by (try dsimp only); first | assumption | omega | trivial) (by (try dsimp only); first | assumption | omega | trivial)) (cwV 2 hts (lg_goodV k1337 k1190 k1191 k119 kc_Bytes_low) rfl rfl rfl (by decide +kernel) ⟨Nat.le_of_ble_eq_true rfl, Nat.le_of_ble_eq_true rfl⟩) ⟨fun a U g mk q => by obtain ⟨q0, q1, qP, qK, qN, qD⟩ := q; exact ⟨q0, q1, qP, va_K.moved (u := U) (U := U.calling g mk a) (Vm.Alike.refl U.vm) qK, qN.calling, qD⟩, va_recv hK hP (ci := 1) (q0 := 4) rfl rfl, fun U hU hW => ⟨rfl, by rw [hU], by rw [hU]; exact hPc, va_K.moved hW.alike hK, NN.warm hW hN, hDc.weaken (fun _ _ _ _ => trivial)⟩⟩ rfl rfl hl.1 rfl (lv_room (Nat.le_of_ble_eq_true rfl)) d_PartsReader_goThrough_178 ⟨hkc, hks⟩) hS (fun q _ h => hFc q h) hFc (fun r17 u t H1 locs ht hvm hp_r17 hB hz1 hk1 hS => ?_)
              obtain ⟨hP1, hD1⟩ := hB
              rw [ht] at hP1
              obtain ⟨hP, hD⟩ := va_join (wr := [(h0, .inr (6, [.ref im, .ref fo, .int bnm, .int bco, .int bta, .int blc])), (fo, .inr (2, [.ref a1, .ref a2, .int pa, .int de, .int so, .int si, .int se, .int bmo, .int bow, .int bgr, .int bnl, .int btl, .int mk])), (a1, .inl (cB, 60, .inl bf1)), (a2, .inl (cB, 400, .inl bf2))]) (w1 := [(im, .inr (1, [.ref iq, .int L])), (iq, .inl (cB, n, .inl f))]) hP hD [4, 5] [0, 1, 2, 3] rfl rfl (by decide +kernel) (by decide +kernel) hk1 hFc hP1 hD1
              clear hPc hDc hFc hP1 hD1 hk1 hz1 hkc hks
              generalize H1 = H at hP hS ⊢
              have hP : va_P D CL [(h0, .inr (6, [.ref im, .ref fo, .int bnm, .int bco, .int bta, .int blc])), (fo, .inr (2, [.ref a1, .ref a2, .int pa, .int de, .int so, .int si, .int se, .int bmo, .int bow, .int bgr, .int bnl, .int btl, .int mk])), (a1, .inl (cB, 60, .inl bf1)), (a2, .inl (cB, 400, .inl bf2)), (im, .inr (1, [.ref iq, .int L])), (iq, .inl (cB, n, .inl f))] H := hP
              have hD : va_D A [(h0, .inr (6, [.ref im, .ref fo, .int bnm, .int bco, .int bta, .int blc])), (fo, .inr (2, [.ref a1, .ref a2, .int pa, .int de, .int so, .int si, .int se, .int bmo, .int bow, .int bgr, .int bnl, .int btl, .int mk])), (a1, .inl (cB, 60, .inl bf1)), (a2, .inl (cB, 400, .inl bf2)), (im, .inr (1, [.ref iq, .int L])), (iq, .inl (cB, n, .inl f))] := hD
              try dsimp only at hp_r17
              have hv_18 := hp_r17
              have qr17 : r17.toInt = (low4B f L (blc + 20)).toInt := by subst_vars; rfl
              refine lv_iadd hx hb d_PartsReader_goThrough_181 ?_
              refine lv_topi (fun v19 e_v19 => ?_)
              have t_v19 : v19.toInt = v15.toInt + r17.toInt := by rw [e_v19]; exact i_add rfl rfl (by omega) (by omega)
              refine lv_istore hx hb d_PartsReader_goThrough_182 hl (by decide) rfl (fun ls hl => ?_)
              have hl : lv_has ls 9 [(5, .int v19), (4, .int v15), (0, .ref h0), (1, .ref fo), (2, .int x), (3, .int y), (6, .int rn), (7, .int at9)] := hl
              obtain ⟨v20, e_v20⟩ : ∃ z : Int32, z = rn + 1 := ⟨_, rfl⟩
              refine lv_iinc (v := v20) hx hb d_PartsReader_goThrough_184 hl (k := 6) rfl e_v20.symm (by decide +kernel) rfl (fun ls hl => ?_)
              have t_v20 : v20.toInt = rn.toInt + 1 := by rw [e_v20]; exact i_add rfl (by decide) (by omega) (by omega)
              have hl : lv_has ls 9 [(6, .int v20), (5, .int v19), (4, .int v15), (0, .ref h0), (1, .ref fo), (2, .int x), (3, .int y), (7, .int at9)] := hl
              refine lv_goto (tgt := 29) hx hb d_PartsReader_goThrough_187 (by decide) ?_
              have hP := hP.sub (ws' := [(h0, .inr (6, [.ref im, .ref fo, .int bnm, .int bco, .int bta, .int blc])), (im, .inr (1, [.ref iq, .int L])), (iq, .inl (cB, n, .inl f)), (fo, .inr (2, [.ref a1, .ref a2, .int pa, .int de, .int so, .int si, .int se, .int bmo, .int bow, .int bgr, .int bnl, .int btl, .int mk])), (a1, .inl (cB, 60, .inl bf1)), (a2, .inl (cB, 400, .inl bf2))]) [0, 4, 5, 1, 2, 3] rfl
              have hD := hD.sub (ws' := [(h0, .inr (6, [.ref im, .ref fo, .int bnm, .int bco, .int bta, .int blc])), (im, .inr (1, [.ref iq, .int L])), (iq, .inl (cB, n, .inl f)), (fo, .inr (2, [.ref a1, .ref a2, .int pa, .int de, .int so, .int si, .int se, .int bmo, .int bow, .int bgr, .int bnl, .int btl, .int mk])), (a1, .inl (cB, 60, .inl bf1)), (a2, .inl (cB, 400, .inl bf2))]) [0, 4, 5, 1, 2, 3] (by decide +kernel) rfl
              have hl := lv_sub hl [3, 4, 5, 6, 2, 1, 0] rfl
              exact ih29 _ (by first | omega | (dsimp only; omega)) v15 v19 v20 blc bnm bco bta bmo bow bgr bnl btl bf1 bf2 _ _ _ rfl ((by (try dsimp only); first | assumption | omega | trivial)) ((by (try dsimp only); first | assumption | omega | trivial)) ((by (try dsimp only); first | assumption | omega | trivial)) ((by (try dsimp only); first | assumption | omega | trivial)) ((by (try dsimp only); first | assumption | omega | trivial)) ((by (try dsimp only); first | assumption | omega | trivial)) ((by (try dsimp only); first | assumption | omega | trivial)) ((by (try dsimp only); first | assumption | omega | trivial)) ((by (try dsimp only); first | assumption | omega | trivial)) hP hD hS hl
            · skip
              have g120_75 : rn.toInt = 5 := (i_eq rfl (by decide)).mp h_9
              refine lv_aload_n hx hb d_PartsReader_goThrough_123 rfl (lv_at hl 0 rfl) ?_
              refine va_get (D := D) (ci := 6) (v := .int blc) (C := "DiscMaker$PartsReader") (T := F_PartsReader) (N := 6) hx hb ht9 in_PartsReader hown hK hP 0 rfl rfl 5 (by decide) (ht9 _ k398) (fun _ h9 => h9) rfl d_PartsReader_goThrough_124 ?_
              have hP9 := hP.sub (ws' := [(h0, .inr (6, [.ref im, .ref fo, .int bnm, .int bco, .int bta, .int blc])), (im, .inr (1, [.ref iq, .int L])), (iq, .inl (cB, n, .inl f)), (fo, .inr (2, [.ref a1, .ref a2, .int pa, .int de, .int so, .int si, .int se, .int bmo, .int bow, .int bgr, .int bnl, .int btl, .int mk])), (a1, .inl (cB, 60, .inl bf1)), (a2, .inl (cB, 400, .inl bf2))]) [0, 1, 2, 3, 4, 5] rfl
              have hD9 := hD.sub (ws' := [(h0, .inr (6, [.ref im, .ref fo, .int bnm, .int bco, .int bta, .int blc])), (im, .inr (1, [.ref iq, .int L])), (iq, .inl (cB, n, .inl f)), (fo, .inr (2, [.ref a1, .ref a2, .int pa, .int de, .int so, .int si, .int se, .int bmo, .int bow, .int bgr, .int bnl, .int btl, .int mk])), (a1, .inl (cB, 60, .inl bf1)), (a2, .inl (cB, 400, .inl bf2))]) [0, 1, 2, 3, 4, 5] (by decide +kernel) rfl
              exact W.iret (v := blc) hx hb hr (fun t ht hW => ⟨⟨blc, (bnm, bco, bta, blc, so, bmo, bow, bgr, bnl, btl, bf1, bf2), rfl, ⟨(by (try dsimp only); first | (intro h7; exfalso; omega) | (intro h7; omega)), (by (try dsimp only); first | assumption | omega | trivial)⟩, by rw [ht]; exact hP9, hD9⟩, hS.F ht⟩) hS.2.2 d_PartsReader_goThrough_127
          · skip
            have g111_72 : blc.toInt = (-1) := (i_eq rfl (by decide)).mp h_9
            refine lv_goto (tgt := 190) hx hb d_PartsReader_goThrough_114 (by decide) ?_
            refine lv_aload_n hx hb d_PartsReader_goThrough_190 rfl (lv_at hl 0 rfl) ?_
            refine va_get (D := D) (ci := 6) (v := .int bta) (C := "DiscMaker$PartsReader") (T := F_PartsReader) (N := 6) hx hb ht9 in_PartsReader hown hK hP 0 rfl rfl 4 (by decide) (ht9 _ k397) (fun _ h9 => h9) rfl d_PartsReader_goThrough_191 ?_
            refine lv_if_eq (tgt := 206) hx hb d_PartsReader_goThrough_194 (by decide) (fun h_9 => ?_) (fun h_9 => ?_)
            · skip
              have g194_116 : bta.toInt = 0 := (i_eq rfl (by decide)).mp h_9
              refine lv_aload_n hx hb d_PartsReader_goThrough_206 rfl (lv_at hl 0 rfl) ?_
              refine va_get (D := D) (ci := 6) (v := .ref fo) (C := "DiscMaker$PartsReader") (T := F_PartsReader) (N := 6) hx hb ht9 in_PartsReader hown hK hP 0 rfl rfl 1 (by decide) (ht9 _ k393) (fun _ h9 => h9) rfl d_PartsReader_goThrough_207 ?_
              refine va_getN (D := D) (ci := 2) (v := .int bmo) (C := "DiscMaker$Found") (T := F_Found) (N := 13) hx hb ht9 in_Found hown hK hP 3 rfl rfl 7 (by decide) (va_Nw.use rfl (hN _ k1241)) (fun _ h9 => h9) rfl d_PartsReader_goThrough_210 ?_
              refine lv_ldc (v := 61440) hx hb hown (ht9 _ k1361) d_PartsReader_goThrough_213 ?_
              refine lv_iand hx hb d_PartsReader_goThrough_215 ?_
              refine lv_topi (fun v21 e_v21 => ?_)
              have t_v21 : 0 ≤ v21.toInt ∧ v21.toInt ≤ 61440 := by rw [e_v21]; exact i_and (by decide) (by decide)
              refine lv_ldc (v := 40960) hx hb hown (ht9 _ k1362) d_PartsReader_goThrough_216 ?_
              refine lv_icmp_ne (tgt := 229) hx hb d_PartsReader_goThrough_218 (by decide) (fun h_9 => ?_) (fun h_9 => ?_)
              · skip
                have g218_123 : ¬ v21.toInt = 40960 := fun h8 => h_9 ((i_eq rfl (by decide)).mpr h8)
                refine lv_iconst (v := (-1)) hx hb d_PartsReader_goThrough_229 (by decide) ?_
                have hP9 := hP.sub (ws' := [(h0, .inr (6, [.ref im, .ref fo, .int bnm, .int bco, .int bta, .int blc])), (im, .inr (1, [.ref iq, .int L])), (iq, .inl (cB, n, .inl f)), (fo, .inr (2, [.ref a1, .ref a2, .int pa, .int de, .int so, .int si, .int se, .int bmo, .int bow, .int bgr, .int bnl, .int btl, .int mk])), (a1, .inl (cB, 60, .inl bf1)), (a2, .inl (cB, 400, .inl bf2))]) [0, 1, 2, 3, 4, 5] rfl
                have hD9 := hD.sub (ws' := [(h0, .inr (6, [.ref im, .ref fo, .int bnm, .int bco, .int bta, .int blc])), (im, .inr (1, [.ref iq, .int L])), (iq, .inl (cB, n, .inl f)), (fo, .inr (2, [.ref a1, .ref a2, .int pa, .int de, .int so, .int si, .int se, .int bmo, .int bow, .int bgr, .int bnl, .int btl, .int mk])), (a1, .inl (cB, 60, .inl bf1)), (a2, .inl (cB, 400, .inl bf2))]) [0, 1, 2, 3, 4, 5] (by decide +kernel) rfl
                exact W.iret (v := (-1)) hx hb hr (fun t ht hW => ⟨⟨(-1), (bnm, bco, bta, blc, so, bmo, bow, bgr, bnl, btl, bf1, bf2), rfl, ⟨(by (try dsimp only); first | (intro h7; exfalso; omega) | (intro h7; omega)), (by (try dsimp only); first | assumption | omega | trivial)⟩, by rw [ht]; exact hP9, hD9⟩, hS.F ht⟩) hS.2.2 d_PartsReader_goThrough_230
              · skip
                have g218_123 : v21.toInt = 40960 := (i_eq rfl (by decide)).mp h_9
                refine lv_aload_n hx hb d_PartsReader_goThrough_221 rfl (lv_at hl 0 rfl) ?_
                refine va_get (D := D) (ci := 6) (v := .ref fo) (C := "DiscMaker$PartsReader") (T := F_PartsReader) (N := 6) hx hb ht9 in_PartsReader hown hK hP 0 rfl rfl 1 (by decide) (ht9 _ k393) (fun _ h9 => h9) rfl d_PartsReader_goThrough_222 ?_
                refine lv_iconst (v := 2) hx hb d_PartsReader_goThrough_225 (by decide) ?_
                refine va_putN (D := D) (ci := 2) (v := .int 2) (ty := .int) (C := "DiscMaker$Found") (T := F_Found) (N := 13) hx hb ht9 in_Found t_Found t_Found_ok n_Found hown hK hP hD hS 3 rfl rfl 4 (by decide) (va_Nw.use rfl (hN _ k1231)) (fun _ h9 => h9) rfl (by decide +kernel) rfl rfl (Nat.le_of_ble_eq_true rfl) d_PartsReader_goThrough_226 (fun H locs hP hD hS => ?_)
                have hP : va_P D CL [(h0, .inr (6, [.ref im, .ref fo, .int bnm, .int bco, .int bta, .int blc])), (im, .inr (1, [.ref iq, .int L])), (iq, .inl (cB, n, .inl f)), (fo, .inr (2, [.ref a1, .ref a2, .int pa, .int de, .int 2, .int si, .int se, .int bmo, .int bow, .int bgr, .int bnl, .int btl, .int mk])), (a1, .inl (cB, 60, .inl bf1)), (a2, .inl (cB, 400, .inl bf2))] H := hP
                have hD : va_D A [(h0, .inr (6, [.ref im, .ref fo, .int bnm, .int bco, .int bta, .int blc])), (im, .inr (1, [.ref iq, .int L])), (iq, .inl (cB, n, .inl f)), (fo, .inr (2, [.ref a1, .ref a2, .int pa, .int de, .int 2, .int si, .int se, .int bmo, .int bow, .int bgr, .int bnl, .int btl, .int mk])), (a1, .inl (cB, 60, .inl bf1)), (a2, .inl (cB, 400, .inl bf2))] := hD
                refine lv_iconst (v := (-1)) hx hb d_PartsReader_goThrough_229 (by decide) ?_
                have hP9 := hP.sub (ws' := [(h0, .inr (6, [.ref im, .ref fo, .int bnm, .int bco, .int bta, .int blc])), (im, .inr (1, [.ref iq, .int L])), (iq, .inl (cB, n, .inl f)), (fo, .inr (2, [.ref a1, .ref a2, .int pa, .int de, .int 2, .int si, .int se, .int bmo, .int bow, .int bgr, .int bnl, .int btl, .int mk])), (a1, .inl (cB, 60, .inl bf1)), (a2, .inl (cB, 400, .inl bf2))]) [0, 1, 2, 3, 4, 5] rfl
                have hD9 := hD.sub (ws' := [(h0, .inr (6, [.ref im, .ref fo, .int bnm, .int bco, .int bta, .int blc])), (im, .inr (1, [.ref iq, .int L])), (iq, .inl (cB, n, .inl f)), (fo, .inr (2, [.ref a1, .ref a2, .int pa, .int de, .int 2, .int si, .int se, .int bmo, .int bow, .int bgr, .int bnl, .int btl, .int mk])), (a1, .inl (cB, 60, .inl bf1)), (a2, .inl (cB, 400, .inl bf2))]) [0, 1, 2, 3, 4, 5] (by decide +kernel) rfl
                exact W.iret (v := (-1)) hx hb hr (fun t ht hW => ⟨⟨(-1), (bnm, bco, bta, blc, 2, bmo, bow, bgr, bnl, btl, bf1, bf2), rfl, ⟨(by (try dsimp only); first | (intro h7; exfalso; omega) | (intro h7; omega)), (by (try dsimp only); first | assumption | omega | trivial)⟩, by rw [ht]; exact hP9, hD9⟩, hS.F ht⟩) hS.2.2 d_PartsReader_goThrough_230
            · skip
              have g194_116 : ¬ bta.toInt = 0 := fun h8 => h_9 ((i_eq rfl (by decide)).mpr h8)
              refine lv_aload_n hx hb d_PartsReader_goThrough_197 rfl (lv_at hl 0 rfl) ?_
              refine va_get (D := D) (ci := 6) (v := .ref fo) (C := "DiscMaker$PartsReader") (T := F_PartsReader) (N := 6) hx hb ht9 in_PartsReader hown hK hP 0 rfl rfl 1 (by decide) (ht9 _ k393) (fun _ h9 => h9) rfl d_PartsReader_goThrough_198 ?_
              refine lv_bipush (v := 47) hx hb d_PartsReader_goThrough_201 (by decide) ?_
              have hPc := hP.sub (ws' := [(fo, .inr (2, [.ref a1, .ref a2, .int pa, .int de, .int so, .int si, .int se, .int bmo, .int bow, .int bgr, .int bnl, .int btl, .int mk])), (a2, .inl (cB, 400, .inl bf2))]) [3, 5] rfl
              have hDc := hD.sub (ws' := [(fo, .inr (2, [.ref a1, .ref a2, .int pa, .int de, .int so, .int si, .int se, .int bmo, .int bow, .int bgr, .int bnl, .int btl, .int mk])), (a2, .inl (cB, 400, .inl bf2))]) [3, 5] (by decide +kernel) rfl
              have hFc := va_free (wc := [(fo, .inr (2, [.ref a1, .ref a2, .int pa, .int de, .int so, .int si, .int se, .int bmo, .int bow, .int bgr, .int bnl, .int btl, .int mk])), (a2, .inl (cB, 400, .inl bf2))]) hD hS hA [3, 5] rfl
              have hkc : 0 ≤ 0 := by decide
              have hks : 0 ≤ 0 := by decide
              refine va_callv (va_runV (C := "DiscMaker$Found") (As := [.int 47]) (rest := []) ⟨hx, hb, hml, hown, hts⟩ (c3_addToTarget l D cB cI cJ cZ cN cF H.size fo a1 a2 pa de so si se bmo bow bgr bnl btl mk bf2 47 (by (try dsimp only); first | assumption | omega | trivial)) (cwV 1 hts (lg_goodV k1345 k1346 k1347 k141 kc_Found_addToTarget) rfl rfl rfl (by decide +kernel) ⟨Nat.le_of_ble_eq_true rfl, Nat.le_of_ble_eq_true rfl⟩) ⟨fun a U g mk q => by obtain ⟨q0, q1, qP, qK, qN, qD⟩ := q; exact ⟨q0, q1, qP, va_K.moved (u := U) (U := U.calling g mk a) (Vm.Alike.refl U.vm) qK, qN.calling, qD⟩, va_recv hK hP (ci := 2) (q0 := 3) rfl rfl, fun U hU hW => ⟨rfl, by rw [hU], by rw [hU]; exact hPc, va_K.moved hW.alike hK, NN.warm hW hN, hDc.weaken (fun _ _ _ _ => trivial)⟩⟩ rfl rfl hl.1 rfl (lv_room (Nat.le_of_ble_eq_true rfl)) d_PartsReader_goThrough_203 ⟨hkc, hks⟩) hS (fun q _ h => hFc q h) hFc (fun u t H1 locs ht hvm hp_r22 hB hz1 hk1 hS => ?_)
              obtain ⟨l2_23, g_24⟩ := u
              obtain ⟨hP1, hD1⟩ := hB
              rw [ht] at hP1
              obtain ⟨hP, hD⟩ := va_join (wr := [(h0, .inr (6, [.ref im, .ref fo, .int bnm, .int bco, .int bta, .int blc])), (im, .inr (1, [.ref iq, .int L])), (iq, .inl (cB, n, .inl f)), (a1, .inl (cB, 60, .inl bf1))]) (w1 := [(fo, .inr (2, [.ref a1, .ref a2, .int pa, .int de, .int so, .int si, .int se, .int bmo, .int bow, .int bgr, .int bnl, .int l2_23, .int mk])), (a2, .inl (cB, 400, .inl g_24))]) hP hD [3, 5] [0, 1, 2, 4] rfl rfl (by decide +kernel) (by decide +kernel) hk1 hFc hP1 hD1
              clear hPc hDc hFc hP1 hD1 hk1 hz1 hkc hks
              generalize H1 = H at hP hS ⊢
              have hP : va_P D CL [(h0, .inr (6, [.ref im, .ref fo, .int bnm, .int bco, .int bta, .int blc])), (im, .inr (1, [.ref iq, .int L])), (iq, .inl (cB, n, .inl f)), (a1, .inl (cB, 60, .inl bf1)), (fo, .inr (2, [.ref a1, .ref a2, .int pa, .int de, .int so, .int si, .int se, .int bmo, .int bow, .int bgr, .int bnl, .int l2_23, .int mk])), (a2, .inl (cB, 400, .inl g_24))] H := hP
              have hD : va_D A [(h0, .inr (6, [.ref im, .ref fo, .int bnm, .int bco, .int bta, .int blc])), (im, .inr (1, [.ref iq, .int L])), (iq, .inl (cB, n, .inl f)), (a1, .inl (cB, 60, .inl bf1)), (fo, .inr (2, [.ref a1, .ref a2, .int pa, .int de, .int so, .int si, .int se, .int bmo, .int bow, .int bgr, .int bnl, .int l2_23, .int mk])), (a2, .inl (cB, 400, .inl g_24))] := hD
              try dsimp only at hp_r22
              have hl2_25 := hp_r22
              refine lv_aload_n hx hb d_PartsReader_goThrough_206 rfl (lv_at hl 0 rfl) ?_
              refine va_get (D := D) (ci := 6) (v := .ref fo) (C := "DiscMaker$PartsReader") (T := F_PartsReader) (N := 6) hx hb ht9 in_PartsReader hown hK hP 0 rfl rfl 1 (by decide) (ht9 _ k393) (fun _ h9 => h9) rfl d_PartsReader_goThrough_207 ?_
              refine va_getN (D := D) (ci := 2) (v := .int bmo) (C := "DiscMaker$Found") (T := F_Found) (N := 13) hx hb ht9 in_Found hown hK hP 4 rfl rfl 7 (by decide) (va_Nw.use rfl (hN _ k1241)) (fun _ h9 => h9) rfl d_PartsReader_goThrough_210 ?_
              refine lv_ldc (v := 61440) hx hb hown (ht9 _ k1361) d_PartsReader_goThrough_213 ?_
              refine lv_iand hx hb d_PartsReader_goThrough_215 ?_
              refine lv_topi (fun v26 e_v26 => ?_)
              have t_v26 : 0 ≤ v26.toInt ∧ v26.toInt ≤ 61440 := by rw [e_v26]; exact i_and (by decide) (by decide)
              refine lv_ldc (v := 40960) hx hb hown (ht9 _ k1362) d_PartsReader_goThrough_216 ?_
              refine lv_icmp_ne (tgt := 229) hx hb d_PartsReader_goThrough_218 (by decide) (fun h_9 => ?_) (fun h_9 => ?_)
              · skip
                have g218_142 : ¬ v26.toInt = 40960 := fun h8 => h_9 ((i_eq rfl (by decide)).mpr h8)
                refine lv_iconst (v := (-1)) hx hb d_PartsReader_goThrough_229 (by decide) ?_
                have hP9 := hP.sub (ws' := [(h0, .inr (6, [.ref im, .ref fo, .int bnm, .int bco, .int bta, .int blc])), (im, .inr (1, [.ref iq, .int L])), (iq, .inl (cB, n, .inl f)), (fo, .inr (2, [.ref a1, .ref a2, .int pa, .int de, .int so, .int si, .int se, .int bmo, .int bow, .int bgr, .int bnl, .int l2_23, .int mk])), (a1, .inl (cB, 60, .inl bf1)), (a2, .inl (cB, 400, .inl g_24))]) [0, 1, 2, 4, 3, 5] rfl
                have hD9 := hD.sub (ws' := [(h0, .inr (6, [.ref im, .ref fo, .int bnm, .int bco, .int bta, .int blc])), (im, .inr (1, [.ref iq, .int L])), (iq, .inl (cB, n, .inl f)), (fo, .inr (2, [.ref a1, .ref a2, .int pa, .int de, .int so, .int si, .int se, .int bmo, .int bow, .int bgr, .int bnl, .int l2_23, .int mk])), (a1, .inl (cB, 60, .inl bf1)), (a2, .inl (cB, 400, .inl g_24))]) [0, 1, 2, 4, 3, 5] (by decide +kernel) rfl
                exact W.iret (v := (-1)) hx hb hr (fun t ht hW => ⟨⟨(-1), (bnm, bco, bta, blc, so, bmo, bow, bgr, bnl, l2_23, bf1, g_24), rfl, ⟨(by (try dsimp only); first | (intro h7; exfalso; omega) | (intro h7; omega)), (by (try dsimp only); first | assumption | omega | trivial)⟩, by rw [ht]; exact hP9, hD9⟩, hS.F ht⟩) hS.2.2 d_PartsReader_goThrough_230
              · skip
                have g218_142 : v26.toInt = 40960 := (i_eq rfl (by decide)).mp h_9
                refine lv_aload_n hx hb d_PartsReader_goThrough_221 rfl (lv_at hl 0 rfl) ?_
                refine va_get (D := D) (ci := 6) (v := .ref fo) (C := "DiscMaker$PartsReader") (T := F_PartsReader) (N := 6) hx hb ht9 in_PartsReader hown hK hP 0 rfl rfl 1 (by decide) (ht9 _ k393) (fun _ h9 => h9) rfl d_PartsReader_goThrough_222 ?_
                refine lv_iconst (v := 2) hx hb d_PartsReader_goThrough_225 (by decide) ?_
                refine va_putN (D := D) (ci := 2) (v := .int 2) (ty := .int) (C := "DiscMaker$Found") (T := F_Found) (N := 13) hx hb ht9 in_Found t_Found t_Found_ok n_Found hown hK hP hD hS 4 rfl rfl 4 (by decide) (va_Nw.use rfl (hN _ k1231)) (fun _ h9 => h9) rfl (by decide +kernel) rfl rfl (Nat.le_of_ble_eq_true rfl) d_PartsReader_goThrough_226 (fun H locs hP hD hS => ?_)
                have hP : va_P D CL [(h0, .inr (6, [.ref im, .ref fo, .int bnm, .int bco, .int bta, .int blc])), (im, .inr (1, [.ref iq, .int L])), (iq, .inl (cB, n, .inl f)), (a1, .inl (cB, 60, .inl bf1)), (fo, .inr (2, [.ref a1, .ref a2, .int pa, .int de, .int 2, .int si, .int se, .int bmo, .int bow, .int bgr, .int bnl, .int l2_23, .int mk])), (a2, .inl (cB, 400, .inl g_24))] H := hP
                have hD : va_D A [(h0, .inr (6, [.ref im, .ref fo, .int bnm, .int bco, .int bta, .int blc])), (im, .inr (1, [.ref iq, .int L])), (iq, .inl (cB, n, .inl f)), (a1, .inl (cB, 60, .inl bf1)), (fo, .inr (2, [.ref a1, .ref a2, .int pa, .int de, .int 2, .int si, .int se, .int bmo, .int bow, .int bgr, .int bnl, .int l2_23, .int mk])), (a2, .inl (cB, 400, .inl g_24))] := hD
                refine lv_iconst (v := (-1)) hx hb d_PartsReader_goThrough_229 (by decide) ?_
                have hP9 := hP.sub (ws' := [(h0, .inr (6, [.ref im, .ref fo, .int bnm, .int bco, .int bta, .int blc])), (im, .inr (1, [.ref iq, .int L])), (iq, .inl (cB, n, .inl f)), (fo, .inr (2, [.ref a1, .ref a2, .int pa, .int de, .int 2, .int si, .int se, .int bmo, .int bow, .int bgr, .int bnl, .int l2_23, .int mk])), (a1, .inl (cB, 60, .inl bf1)), (a2, .inl (cB, 400, .inl g_24))]) [0, 1, 2, 4, 3, 5] rfl
                have hD9 := hD.sub (ws' := [(h0, .inr (6, [.ref im, .ref fo, .int bnm, .int bco, .int bta, .int blc])), (im, .inr (1, [.ref iq, .int L])), (iq, .inl (cB, n, .inl f)), (fo, .inr (2, [.ref a1, .ref a2, .int pa, .int de, .int 2, .int si, .int se, .int bmo, .int bow, .int bgr, .int bnl, .int l2_23, .int mk])), (a1, .inl (cB, 60, .inl bf1)), (a2, .inl (cB, 400, .inl g_24))]) [0, 1, 2, 4, 3, 5] (by decide +kernel) rfl
                exact W.iret (v := (-1)) hx hb hr (fun t ht hW => ⟨⟨(-1), (bnm, bco, bta, blc, 2, bmo, bow, bgr, bnl, l2_23, bf1, g_24), rfl, ⟨(by (try dsimp only); first | (intro h7; exfalso; omega) | (intro h7; omega)), (by (try dsimp only); first | assumption | omega | trivial)⟩, by rw [ht]; exact hP9, hD9⟩, hS.F ht⟩) hS.2.2 d_PartsReader_goThrough_230
        · skip
          have g50_68 : ¬ to9.toInt < v7.toInt := fun h8 => h_9 ((i_lt rfl rfl).mpr h8)
          refine lv_aload_n hx hb d_PartsReader_goThrough_53 rfl (lv_at hl 0 rfl) ?_
          refine va_get (D := D) (ci := 6) (v := .ref im) (C := "DiscMaker$PartsReader") (T := F_PartsReader) (N := 6) hx hb ht9 in_PartsReader hown hK hP 0 rfl rfl 0 (by decide) (ht9 _ k392) (fun _ h9 => h9) rfl d_PartsReader_goThrough_54 ?_
          refine lv_iload hx hb d_PartsReader_goThrough_57 (lv_at hl 7 rfl) ?_
          refine lv_iconst (v := 2) hx hb d_PartsReader_goThrough_59 (by decide) ?_
          refine lv_iadd hx hb d_PartsReader_goThrough_60 ?_
          refine lv_topi (fun v27 e_v27 => ?_)
          have t_v27 : v27.toInt = at9.toInt + 2 := by rw [e_v27]; exact i_add rfl (by decide) (by omega) (by omega)
          have hPc := hP.sub (ws' := [(im, .inr (1, [.ref iq, .int L])), (iq, .inl (cB, n, .inl f))]) [1, 2] rfl
          have hDc := hD.sub (ws' := [(im, .inr (1, [.ref iq, .int L])), (iq, .inl (cB, n, .inl f))]) [1, 2] (by decide +kernel) rfl
          have hFc := va_free (wc := [(im, .inr (1, [.ref iq, .int L])), (iq, .inl (cB, n, .inl f))]) hD hS hA [1, 2] rfl
          have hkc : 0 ≤ 0 := by decide
          have hks : 0 ≤ 0 := by decide
          refine va_calli (va_runV (C := "DiscMaker$Bytes") (As := [.int v27]) (rest := []) ⟨hx, hb, hml, hown, hts⟩ (c3_at l D cB cI cJ cZ cN cF H.size im iq n L f v27 (by (try dsimp only); first | assumption | omega | trivial) (by (try dsimp only); first | assumption | omega | trivial)) (cwV 1 hts (lg_goodV k1321 k1065 k1066 k119 kc_Bytes_at) rfl rfl rfl (by decide +kernel) ⟨Nat.le_of_ble_eq_true rfl, Nat.le_of_ble_eq_true rfl⟩) ⟨fun a U g mk q => by obtain ⟨q0, q1, qP, qK, qN, qD⟩ := q; exact ⟨q0, q1, qP, va_K.moved (u := U) (U := U.calling g mk a) (Vm.Alike.refl U.vm) qK, qN.calling, qD⟩, va_recv hK hP (ci := 1) (q0 := 1) rfl rfl, fun U hU hW => ⟨rfl, by rw [hU], by rw [hU]; exact hPc, va_K.moved hW.alike hK, NN.warm hW hN, hDc.weaken (fun _ _ _ _ => trivial)⟩⟩ rfl rfl hl.1 rfl (lv_room (Nat.le_of_ble_eq_true rfl)) d_PartsReader_goThrough_61 ⟨hkc, hks⟩) hS (fun q _ h => hFc q h) hFc (fun r28 u t H1 locs ht hvm hp_r28 hB hz1 hk1 hS => ?_)
          obtain ⟨hP1, hD1⟩ := hB
          rw [ht] at hP1
          obtain ⟨hP, hD⟩ := va_join (wr := [(h0, .inr (6, [.ref im, .ref fo, .int bnm, .int bco, .int bta, .int blc])), (fo, .inr (2, [.ref a1, .ref a2, .int pa, .int de, .int so, .int si, .int se, .int bmo, .int bow, .int bgr, .int bnl, .int btl, .int mk])), (a1, .inl (cB, 60, .inl bf1)), (a2, .inl (cB, 400, .inl bf2))]) (w1 := [(im, .inr (1, [.ref iq, .int L])), (iq, .inl (cB, n, .inl f))]) hP hD [1, 2] [0, 3, 4, 5] rfl rfl (by decide +kernel) (by decide +kernel) hk1 hFc hP1 hD1
          clear hPc hDc hFc hP1 hD1 hk1 hz1 hkc hks
          generalize H1 = H at hP hS ⊢
          have hP : va_P D CL [(h0, .inr (6, [.ref im, .ref fo, .int bnm, .int bco, .int bta, .int blc])), (fo, .inr (2, [.ref a1, .ref a2, .int pa, .int de, .int so, .int si, .int se, .int bmo, .int bow, .int bgr, .int bnl, .int btl, .int mk])), (a1, .inl (cB, 60, .inl bf1)), (a2, .inl (cB, 400, .inl bf2)), (im, .inr (1, [.ref iq, .int L])), (iq, .inl (cB, n, .inl f))] H := hP
          have hD : va_D A [(h0, .inr (6, [.ref im, .ref fo, .int bnm, .int bco, .int bta, .int blc])), (fo, .inr (2, [.ref a1, .ref a2, .int pa, .int de, .int so, .int si, .int se, .int bmo, .int bow, .int bgr, .int bnl, .int btl, .int mk])), (a1, .inl (cB, 60, .inl bf1)), (a2, .inl (cB, 400, .inl bf2)), (im, .inr (1, [.ref iq, .int L])), (iq, .inl (cB, n, .inl f))] := hD
          try dsimp only at hp_r28
          obtain ⟨hr_29, hv_30⟩ := hp_r28
          refine lv_istore hx hb d_PartsReader_goThrough_64 hl (by decide) rfl (fun ls hl => ?_)
          have hl : lv_has ls 9 [(8, .int r28), (0, .ref h0), (1, .ref fo), (2, .int x), (3, .int y), (4, .int fr), (5, .int to9), (6, .int rn), (7, .int at9)] := hl
          refine lv_iload hx hb d_PartsReader_goThrough_66 (lv_at hl 0 rfl) ?_
          refine lv_iconst (v := 4) hx hb d_PartsReader_goThrough_68 (by decide) ?_
          refine lv_icmp_lt (tgt := 93) hx hb d_PartsReader_goThrough_69 (by decide) (fun h_9 => ?_) (fun h_9 => ?_)
          · skip
            have g69_160 : r28.toInt < 4 := (i_lt rfl (by decide)).mp h_9
            refine lv_iload hx hb d_PartsReader_goThrough_93 (lv_at hl 8 rfl) ?_
            have hP9 := hP.sub (ws' := [(h0, .inr (6, [.ref im, .ref fo, .int bnm, .int bco, .int bta, .int blc])), (im, .inr (1, [.ref iq, .int L])), (iq, .inl (cB, n, .inl f)), (fo, .inr (2, [.ref a1, .ref a2, .int pa, .int de, .int so, .int si, .int se, .int bmo, .int bow, .int bgr, .int bnl, .int btl, .int mk])), (a1, .inl (cB, 60, .inl bf1)), (a2, .inl (cB, 400, .inl bf2))]) [0, 4, 5, 1, 2, 3] rfl
            have hD9 := hD.sub (ws' := [(h0, .inr (6, [.ref im, .ref fo, .int bnm, .int bco, .int bta, .int blc])), (im, .inr (1, [.ref iq, .int L])), (iq, .inl (cB, n, .inl f)), (fo, .inr (2, [.ref a1, .ref a2, .int pa, .int de, .int so, .int si, .int se, .int bmo, .int bow, .int bgr, .int bnl, .int btl, .int mk])), (a1, .inl (cB, 60, .inl bf1)), (a2, .inl (cB, 400, .inl bf2))]) [0, 4, 5, 1, 2, 3] (by decide +kernel) rfl
            exact W.iret (v := at9) hx hb hr (fun t ht hW => ⟨⟨at9, (bnm, bco, bta, blc, so, bmo, bow, bgr, bnl, btl, bf1, bf2), rfl, ⟨(by (try dsimp only); first | (intro h7; exfalso; omega) | (intro h7; omega)), (by (try dsimp only); first | assumption | omega | trivial)⟩, by rw [ht]; exact hP9, hD9⟩, hS.F ht⟩) hS.2.2 d_PartsReader_goThrough_95
          · skip
            have g69_160 : ¬ r28.toInt < 4 := fun h8 => h_9 ((i_lt rfl (by decide)).mpr h8)
            refine lv_iload hx hb d_PartsReader_goThrough_72 (lv_at hl 8 rfl) ?_
            refine lv_iload hx hb d_PartsReader_goThrough_74 (lv_at hl 0 rfl) ?_
            refine lv_iadd hx hb d_PartsReader_goThrough_76 ?_
            refine lv_topi (fun v31 e_v31 => ?_)
            have t_v31 : v31.toInt = at9.toInt + r28.toInt := by rw [e_v31]; exact i_add rfl rfl (by omega) (by omega)
            refine lv_iload hx hb d_PartsReader_goThrough_77 (lv_at hl 6 rfl) ?_
            refine lv_icmp_gt (tgt := 93) hx hb d_PartsReader_goThrough_79 (by decide) (fun h_9 => ?_) (fun h_9 => ?_)
            · skip
              have g79_167 : to9.toInt < v31.toInt := (i_lt rfl rfl).mp h_9
              refine lv_iload hx hb d_PartsReader_goThrough_93 (lv_at hl 8 rfl) ?_
              have hP9 := hP.sub (ws' := [(h0, .inr (6, [.ref im, .ref fo, .int bnm, .int bco, .int bta, .int blc])), (im, .inr (1, [.ref iq, .int L])), (iq, .inl (cB, n, .inl f)), (fo, .inr (2, [.ref a1, .ref a2, .int pa, .int de, .int so, .int si, .int se, .int bmo, .int bow, .int bgr, .int bnl, .int btl, .int mk])), (a1, .inl (cB, 60, .inl bf1)), (a2, .inl (cB, 400, .inl bf2))]) [0, 4, 5, 1, 2, 3] rfl
              have hD9 := hD.sub (ws' := [(h0, .inr (6, [.ref im, .ref fo, .int bnm, .int bco, .int bta, .int blc])), (im, .inr (1, [.ref iq, .int L])), (iq, .inl (cB, n, .inl f)), (fo, .inr (2, [.ref a1, .ref a2, .int pa, .int de, .int so, .int si, .int se, .int bmo, .int bow, .int bgr, .int bnl, .int btl, .int mk])), (a1, .inl (cB, 60, .inl bf1)), (a2, .inl (cB, 400, .inl bf2))]) [0, 4, 5, 1, 2, 3] (by decide +kernel) rfl
              exact W.iret (v := at9) hx hb hr (fun t ht hW => ⟨⟨at9, (bnm, bco, bta, blc, so, bmo, bow, bgr, bnl, btl, bf1, bf2), rfl, ⟨(by (try dsimp only); first | (intro h7; exfalso; omega) | (intro h7; omega)), (by (try dsimp only); first | assumption | omega | trivial)⟩, by rw [ht]; exact hP9, hD9⟩, hS.F ht⟩) hS.2.2 d_PartsReader_goThrough_95
            · skip
              have g79_167 : ¬ to9.toInt < v31.toInt := fun h8 => h_9 ((i_lt rfl rfl).mpr h8)
              refine lv_aload_n hx hb d_PartsReader_goThrough_82 rfl (lv_at hl 1 rfl) ?_
              refine lv_iload hx hb d_PartsReader_goThrough_83 (lv_at hl 8 rfl) ?_
              refine lv_iload hx hb d_PartsReader_goThrough_85 (lv_at hl 0 rfl) ?_
              have hPc := hP.sub (ws' := [(h0, .inr (6, [.ref im, .ref fo, .int bnm, .int bco, .int bta, .int blc])), (im, .inr (1, [.ref iq, .int L])), (iq, .inl (cB, n, .inl f)), (fo, .inr (2, [.ref a1, .ref a2, .int pa, .int de, .int so, .int si, .int se, .int bmo, .int bow, .int bgr, .int bnl, .int btl, .int mk])), (a1, .inl (cB, 60, .inl bf1)), (a2, .inl (cB, 400, .inl bf2))]) [0, 4, 5, 1, 2, 3] rfl
              have hDc := hD.sub (ws' := [(h0, .inr (6, [.ref im, .ref fo, .int bnm, .int bco, .int bta, .int blc])), (im, .inr (1, [.ref iq, .int L])), (iq, .inl (cB, n, .inl f)), (fo, .inr (2, [.ref a1, .ref a2, .int pa, .int de, .int so, .int si, .int se, .int bmo, .int bow, .int bgr, .int bnl, .int btl, .int mk])), (a1, .inl (cB, 60, .inl bf1)), (a2, .inl (cB, 400, .inl bf2))]) [0, 4, 5, 1, 2, 3] (by decide +kernel) rfl
              have hFc := va_free (wc := [(h0, .inr (6, [.ref im, .ref fo, .int bnm, .int bco, .int bta, .int blc])), (im, .inr (1, [.ref iq, .int L])), (iq, .inl (cB, n, .inl f)), (fo, .inr (2, [.ref a1, .ref a2, .int pa, .int de, .int so, .int si, .int se, .int bmo, .int bow, .int bgr, .int bnl, .int btl, .int mk])), (a1, .inl (cB, 60, .inl bf1)), (a2, .inl (cB, 400, .inl bf2))]) hD hS hA [0, 4, 5, 1, 2, 3] rfl
              have hkc : 0 ≤ 0 := by decide
              have hks : 0 ≤ 0 := by decide
              refine va_calli (va_runV (C := "DiscMaker$PartsReader") (As := [.int at9, .int r28]) (rest := []) ⟨hx, hb, hml, hown, hts⟩ (c3_takePart l D cB cI cJ cZ cN cF H.size h0 fo im iq n L f bnm bco bta blc a1 a2 pa de so si se bmo bow bgr bnl btl mk bf1 bf2 at9 r28 (by (try dsimp only); first | assumption | omega | trivial) (by (try dsimp only); first | assumption | omega | trivial) (by (try dsimp only); first | assumption | omega | trivial) (by (try dsimp only); first | assumption | omega | trivial) (by (try dsimp only); first | assumption | omega | trivial) (by (try dsimp only); first | assumption | omega | trivial) (by (try dsimp only); first | assumption | omega | trivial) (by (try dsimp only); first | assumption | omega | trivial) (by (try dsimp only); first | assumption | omega | trivial) (by (try dsimp only); first | assumption | omega | trivial)) (cwV 2 hts (lg_goodV k1322 k1324 k45 k124 kc_PartsReader_takePart) rfl rfl rfl (by decide +kernel) ⟨Nat.le_of_ble_eq_true rfl, Nat.le_of_ble_eq_true rfl⟩) ⟨fun a U g mk q => by obtain ⟨q0, q1, qP, qK, qN, qD⟩ := q; exact ⟨q0, q1, qP, va_K.moved (u := U) (U := U.calling g mk a) (Vm.Alike.refl U.vm) qK, qN.calling, qD⟩, va_recv hK hP (ci := 6) (q0 := 0) rfl rfl, fun U hU hW => ⟨rfl, by rw [hU], by rw [hU]; exact hPc, va_K.moved hW.alike hK, NN.warm hW hN, hDc.weaken (fun _ _ _ _ => trivial)⟩⟩ rfl rfl hl.1 rfl (lv_room (Nat.le_of_ble_eq_true rfl)) d_PartsReader_goThrough_87 ⟨hkc, hks⟩) hS (fun q _ h => hFc q h) hFc (fun r32 u t H1 locs ht hvm hp_r32 hB hz1 hk1 hS => ?_)
              obtain ⟨nm2_33, co2_34, ta2_35, lc2_36, mo2_37, ow2_38, gr2_39, nl2_40, tl2_41, g1_42, g2_43⟩ := u
              obtain ⟨hP1, hD1⟩ := hB
              rw [ht] at hP1
              obtain ⟨hP, hD⟩ := va_join (wr := []) (w1 := [(h0, .inr (6, [.ref im, .ref fo, .int nm2_33, .int co2_34, .int ta2_35, .int lc2_36])), (im, .inr (1, [.ref iq, .int L])), (iq, .inl (cB, n, .inl f)), (fo, .inr (2, [.ref a1, .ref a2, .int pa, .int de, .int so, .int si, .int se, .int mo2_37, .int ow2_38, .int gr2_39, .int nl2_40, .int tl2_41, .int mk])), (a1, .inl (cB, 60, .inl g1_42)), (a2, .inl (cB, 400, .inl g2_43))]) hP hD [0, 4, 5, 1, 2, 3] [] rfl rfl (by decide +kernel) (by decide +kernel) hk1 hFc hP1 hD1
              clear hPc hDc hFc hP1 hD1 hk1 hz1 hkc hks
              generalize H1 = H at hP hS ⊢
              have hP : va_P D CL [(h0, .inr (6, [.ref im, .ref fo, .int nm2_33, .int co2_34, .int ta2_35, .int lc2_36])), (im, .inr (1, [.ref iq, .int L])), (iq, .inl (cB, n, .inl f)), (fo, .inr (2, [.ref a1, .ref a2, .int pa, .int de, .int so, .int si, .int se, .int mo2_37, .int ow2_38, .int gr2_39, .int nl2_40, .int tl2_41, .int mk])), (a1, .inl (cB, 60, .inl g1_42)), (a2, .inl (cB, 400, .inl g2_43))] H := hP
              have hD : va_D A [(h0, .inr (6, [.ref im, .ref fo, .int nm2_33, .int co2_34, .int ta2_35, .int lc2_36])), (im, .inr (1, [.ref iq, .int L])), (iq, .inl (cB, n, .inl f)), (fo, .inr (2, [.ref a1, .ref a2, .int pa, .int de, .int so, .int si, .int se, .int mo2_37, .int ow2_38, .int gr2_39, .int nl2_40, .int tl2_41, .int mk])), (a1, .inl (cB, 60, .inl g1_42)), (a2, .inl (cB, 400, .inl g2_43))] := hD
              try dsimp only at hp_r32
              obtain ⟨hr_44, hnl2_45, hc0_46, ht0_47, hta_48, htl_49, hco_50, hlc_51⟩ := hp_r32
              refine lv_if_ne (tgt := 96) hx hb d_PartsReader_goThrough_90 (by decide) (fun h_9 => ?_) (fun h_9 => ?_)
              · skip
                have g90_174 : ¬ r32.toInt = 0 := fun h8 => h_9 ((i_eq rfl (by decide)).mpr h8)
                refine lv_iload hx hb d_PartsReader_goThrough_96 (lv_at hl 8 rfl) ?_
                refine lv_iload hx hb d_PartsReader_goThrough_98 (lv_at hl 0 rfl) ?_
                refine lv_iadd hx hb d_PartsReader_goThrough_100 ?_
                refine lv_topi (fun v52 e_v52 => ?_)
                have t_v52 : v52.toInt = at9.toInt + r28.toInt := by rw [e_v52]; exact i_add rfl rfl (by omega) (by omega)
                refine lv_istore hx hb d_PartsReader_goThrough_101 hl (by decide) rfl (fun ls hl => ?_)
                have hl : lv_has ls 9 [(7, .int v52), (8, .int r28), (0, .ref h0), (1, .ref fo), (2, .int x), (3, .int y), (4, .int fr), (5, .int to9), (6, .int rn)] := hl
                refine lv_goto (tgt := 44) hx hb d_PartsReader_goThrough_103 (by decide) ?_
                have hP := hP.sub (ws' := [(h0, .inr (6, [.ref im, .ref fo, .int nm2_33, .int co2_34, .int ta2_35, .int lc2_36])), (im, .inr (1, [.ref iq, .int L])), (iq, .inl (cB, n, .inl f)), (fo, .inr (2, [.ref a1, .ref a2, .int pa, .int de, .int so, .int si, .int se, .int mo2_37, .int ow2_38, .int gr2_39, .int nl2_40, .int tl2_41, .int mk])), (a1, .inl (cB, 60, .inl g1_42)), (a2, .inl (cB, 400, .inl g2_43))]) [0, 1, 2, 3, 4, 5] rfl
                have hD := hD.sub (ws' := [(h0, .inr (6, [.ref im, .ref fo, .int nm2_33, .int co2_34, .int ta2_35, .int lc2_36])), (im, .inr (1, [.ref iq, .int L])), (iq, .inl (cB, n, .inl f)), (fo, .inr (2, [.ref a1, .ref a2, .int pa, .int de, .int so, .int si, .int se, .int mo2_37, .int ow2_38, .int gr2_39, .int nl2_40, .int tl2_41, .int mk])), (a1, .inl (cB, 60, .inl g1_42)), (a2, .inl (cB, 400, .inl g2_43))]) [0, 1, 2, 3, 4, 5] (by decide +kernel) rfl
                have hl := lv_sub hl [2, 3, 4, 5, 6, 7, 8, 0] rfl
                exact ih44 _ (by first | omega | (dsimp only; omega)) v52 lc2_36 nm2_33 co2_34 ta2_35 mo2_37 ow2_38 gr2_39 nl2_40 tl2_41 g1_42 g2_43 _ _ _ rfl ((by (try dsimp only); first | assumption | omega | trivial)) (((hlc_51 (by omega)).elim (fun h6 => by rw [h6]; exact e31) (fun h6 => by rw [h6.1]; exact Or.inr ⟨by omega, by omega, h6.2⟩))) ((by (try dsimp only); first | assumption | omega | trivial)) ((by (try dsimp only); first | assumption | omega | trivial)) ((by (try dsimp only); first | assumption | omega | trivial)) ((by (try dsimp only); first | assumption | omega | trivial)) ((by (try dsimp only); first | assumption | omega | trivial)) ((by (try dsimp only); first | assumption | omega | trivial)) hP hD hS hl
              · skip
                have g90_174 : r32.toInt = 0 := (i_eq rfl (by decide)).mp h_9
                refine lv_iload hx hb d_PartsReader_goThrough_93 (lv_at hl 8 rfl) ?_
                have hP9 := hP.sub (ws' := [(h0, .inr (6, [.ref im, .ref fo, .int nm2_33, .int co2_34, .int ta2_35, .int lc2_36])), (im, .inr (1, [.ref iq, .int L])), (iq, .inl (cB, n, .inl f)), (fo, .inr (2, [.ref a1, .ref a2, .int pa, .int de, .int so, .int si, .int se, .int mo2_37, .int ow2_38, .int gr2_39, .int nl2_40, .int tl2_41, .int mk])), (a1, .inl (cB, 60, .inl g1_42)), (a2, .inl (cB, 400, .inl g2_43))]) [0, 1, 2, 3, 4, 5] rfl
                have hD9 := hD.sub (ws' := [(h0, .inr (6, [.ref im, .ref fo, .int nm2_33, .int co2_34, .int ta2_35, .int lc2_36])), (im, .inr (1, [.ref iq, .int L])), (iq, .inl (cB, n, .inl f)), (fo, .inr (2, [.ref a1, .ref a2, .int pa, .int de, .int so, .int si, .int se, .int mo2_37, .int ow2_38, .int gr2_39, .int nl2_40, .int tl2_41, .int mk])), (a1, .inl (cB, 60, .inl g1_42)), (a2, .inl (cB, 400, .inl g2_43))]) [0, 1, 2, 3, 4, 5] (by decide +kernel) rfl
                exact W.iret (v := at9) hx hb hr (fun t ht hW => ⟨⟨at9, (nm2_33, co2_34, ta2_35, lc2_36, so, mo2_37, ow2_38, gr2_39, nl2_40, tl2_41, g1_42, g2_43), rfl, ⟨(by (try dsimp only); first | (intro h7; exfalso; omega) | (intro h7; omega)), (by (try dsimp only); first | assumption | omega | trivial)⟩, by rw [ht]; exact hP9, hD9⟩, hS.F ht⟩) hS.2.2 d_PartsReader_goThrough_95
      · skip
        intro kk44
        have hP := hP.sub (ws' := [(h0, .inr (6, [.ref im, .ref fo, .int lnm, .int lco, .int lta, .int (-1)])), (im, .inr (1, [.ref iq, .int L])), (iq, .inl (cB, n, .inl f)), (fo, .inr (2, [.ref a1, .ref a2, .int pa, .int de, .int so, .int si, .int se, .int lmo, .int low, .int lgr, .int lnl, .int ltl, .int mk])), (a1, .inl (cB, 60, .inl lf1)), (a2, .inl (cB, 400, .inl lf2))]) [0, 1, 2, 3, 4, 5] rfl
        have hD := hD.sub (ws' := [(h0, .inr (6, [.ref im, .ref fo, .int lnm, .int lco, .int lta, .int (-1)])), (im, .inr (1, [.ref iq, .int L])), (iq, .inl (cB, n, .inl f)), (fo, .inr (2, [.ref a1, .ref a2, .int pa, .int de, .int so, .int si, .int se, .int lmo, .int low, .int lgr, .int lnl, .int ltl, .int mk])), (a1, .inl (cB, 60, .inl lf1)), (a2, .inl (cB, 400, .inl lf2))]) [0, 1, 2, 3, 4, 5] (by decide +kernel) rfl
        have hl := lv_sub hl [1, 2, 3, 4, 5, 6, 7, 0] rfl
        exact kk44 _ fr (-1) lnm lco lta lmo low lgr lnl ltl lf1 lf2 _ _ _ rfl ((by (try dsimp only); first | assumption | omega | trivial)) ((by (try dsimp only); first | assumption | omega | trivial)) ((by (try dsimp only); first | assumption | omega | trivial)) ((by (try dsimp only); first | assumption | omega | trivial)) ((by (try dsimp only); first | assumption | omega | trivial)) ((by (try dsimp only); first | assumption | omega | trivial)) ((by (try dsimp only); first | assumption | omega | trivial)) ((by (try dsimp only); first | assumption | omega | trivial)) hP hD hS hl
  · skip
    intro kk29
    have hP := hP.sub (ws' := [(h0, .inr (6, [.ref im, .ref fo, .int 0, .int 0, .int 0, .int lc])), (im, .inr (1, [.ref iq, .int L])), (iq, .inl (cB, n, .inl f)), (fo, .inr (2, [.ref a1, .ref a2, .int pa, .int de, .int so, .int si, .int se, .int mo, .int ow, .int gr, .int nl, .int tl, .int mk])), (a1, .inl (cB, 60, .inl f1)), (a2, .inl (cB, 400, .inl f2))]) [0, 1, 2, 3, 4, 5] rfl
    have hD := hD.sub (ws' := [(h0, .inr (6, [.ref im, .ref fo, .int 0, .int 0, .int 0, .int lc])), (im, .inr (1, [.ref iq, .int L])), (iq, .inl (cB, n, .inl f)), (fo, .inr (2, [.ref a1, .ref a2, .int pa, .int de, .int so, .int si, .int se, .int mo, .int ow, .int gr, .int nl, .int tl, .int mk])), (a1, .inl (cB, 60, .inl f1)), (a2, .inl (cB, 400, .inl f2))]) [0, 1, 2, 3, 4, 5] (by decide +kernel) rfl
    have hl := lv_sub hl [3, 4, 5, 6, 2, 1, 0] rfl
    exact kk29 _ x y 0 lc 0 0 0 mo ow gr nl tl f1 f2 _ _ _ rfl ((by (try dsimp only); first | assumption | omega | trivial)) ((by (try dsimp only); first | assumption | omega | trivial)) ((by (try dsimp only); first | assumption | omega | trivial)) ((by (try dsimp only); first | assumption | omega | trivial)) ((by (try dsimp only); first | assumption | omega | trivial)) ((by (try dsimp only); first | assumption | omega | trivial)) ((by (try dsimp only); first | assumption | omega | trivial)) ((by (try dsimp only); first | assumption | omega | trivial)) ((by (try dsimp only); first | assumption | omega | trivial)) hP hD hS hl
