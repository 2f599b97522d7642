theorem d_Reader_takeShortName_0 : decode b_Reader_takeShortName 0 = .ok (.iload_n 2, 1) := by decide +kernel
theorem d_Reader_takeShortName_1 : decode b_Reader_takeShortName 1 = .ok (.bipush 33, 2) := by decide +kernel
theorem d_Reader_takeShortName_3 : decode b_Reader_takeShortName 3 = .ok (.iadd, 1) := by decide +kernel
theorem d_Reader_takeShortName_4 : decode b_Reader_takeShortName 4 = .ok (.aload_n 0, 1) := by decide +kernel
theorem d_Reader_takeShortName_5 : decode b_Reader_takeShortName 5 = .ok (.getfield 17, 3) := by decide +kernel
theorem d_Reader_takeShortName_8 : decode b_Reader_takeShortName 8 = .ok (.iload_n 2, 1) := by decide +kernel
theorem d_Reader_takeShortName_9 : decode b_Reader_takeShortName 9 = .ok (.bipush 32, 2) := by decide +kernel
theorem d_Reader_takeShortName_11 : decode b_Reader_takeShortName 11 = .ok (.iadd, 1) := by decide +kernel
theorem d_Reader_takeShortName_12 : decode b_Reader_takeShortName 12 = .ok (.invokevirtual 68, 3) := by decide +kernel
theorem d_Reader_takeShortName_15 : decode b_Reader_takeShortName 15 = .ok (.iadd, 1) := by decide +kernel
theorem d_Reader_takeShortName_16 : decode b_Reader_takeShortName 16 = .ok (.istore_n 3, 1) := by decide +kernel
theorem d_Reader_takeShortName_17 : decode b_Reader_takeShortName 17 = .ok (.aload_n 0, 1) := by decide +kernel
theorem d_Reader_takeShortName_18 : decode b_Reader_takeShortName 18 = .ok (.getfield 17, 3) := by decide +kernel
theorem d_Reader_takeShortName_21 : decode b_Reader_takeShortName 21 = .ok (.iload_n 2, 1) := by decide +kernel
theorem d_Reader_takeShortName_22 : decode b_Reader_takeShortName 22 = .ok (.bipush 32, 2) := by decide +kernel
theorem d_Reader_takeShortName_24 : decode b_Reader_takeShortName 24 = .ok (.iadd, 1) := by decide +kernel
theorem d_Reader_takeShortName_25 : decode b_Reader_takeShortName 25 = .ok (.invokevirtual 68, 3) := by decide +kernel
theorem d_Reader_takeShortName_28 : decode b_Reader_takeShortName 28 = .ok (.iconst 2, 1) := by decide +kernel
theorem d_Reader_takeShortName_29 : decode b_Reader_takeShortName 29 = .ok (.if_icmp .lt 36, 3) := by decide +kernel
theorem d_Reader_takeShortName_32 : decode b_Reader_takeShortName 32 = .ok (.aload_n 0, 1) := by decide +kernel
theorem d_Reader_takeShortName_33 : decode b_Reader_takeShortName 33 = .ok (.getfield 17, 3) := by decide +kernel
theorem d_Reader_takeShortName_36 : decode b_Reader_takeShortName 36 = .ok (.iload_n 3, 1) := by decide +kernel
theorem d_Reader_takeShortName_37 : decode b_Reader_takeShortName 37 = .ok (.iconst 2, 1) := by decide +kernel
theorem d_Reader_takeShortName_38 : decode b_Reader_takeShortName 38 = .ok (.isub, 1) := by decide +kernel
theorem d_Reader_takeShortName_39 : decode b_Reader_takeShortName 39 = .ok (.invokevirtual 68, 3) := by decide +kernel
theorem d_Reader_takeShortName_42 : decode b_Reader_takeShortName 42 = .ok (.bipush 59, 2) := by decide +kernel
theorem d_Reader_takeShortName_44 : decode b_Reader_takeShortName 44 = .ok (.if_icmp .ne 21, 3) := by decide +kernel
theorem d_Reader_takeShortName_47 : decode b_Reader_takeShortName 47 = .ok (.aload_n 0, 1) := by decide +kernel
theorem d_Reader_takeShortName_48 : decode b_Reader_takeShortName 48 = .ok (.getfield 17, 3) := by decide +kernel
theorem d_Reader_takeShortName_51 : decode b_Reader_takeShortName 51 = .ok (.iload_n 3, 1) := by decide +kernel
theorem d_Reader_takeShortName_52 : decode b_Reader_takeShortName 52 = .ok (.iconst 1, 1) := by decide +kernel
theorem d_Reader_takeShortName_53 : decode b_Reader_takeShortName 53 = .ok (.isub, 1) := by decide +kernel
theorem d_Reader_takeShortName_54 : decode b_Reader_takeShortName 54 = .ok (.invokevirtual 68, 3) := by decide +kernel
theorem d_Reader_takeShortName_57 : decode b_Reader_takeShortName 57 = .ok (.bipush 49, 2) := by decide +kernel
theorem d_Reader_takeShortName_59 : decode b_Reader_takeShortName 59 = .ok (.if_icmp .ne 6, 3) := by decide +kernel
theorem d_Reader_takeShortName_62 : decode b_Reader_takeShortName 62 = .ok (.iinc 3 (-2), 3) := by decide +kernel
theorem d_Reader_takeShortName_65 : decode b_Reader_takeShortName 65 = .ok (.iload_n 3, 1) := by decide +kernel
theorem d_Reader_takeShortName_66 : decode b_Reader_takeShortName 66 = .ok (.iload_n 2, 1) := by decide +kernel
theorem d_Reader_takeShortName_67 : decode b_Reader_takeShortName 67 = .ok (.bipush 33, 2) := by decide +kernel
theorem d_Reader_takeShortName_69 : decode b_Reader_takeShortName 69 = .ok (.iadd, 1) := by decide +kernel
theorem d_Reader_takeShortName_70 : decode b_Reader_takeShortName 70 = .ok (.if_icmp .le 21, 3) := by decide +kernel
theorem d_Reader_takeShortName_73 : decode b_Reader_takeShortName 73 = .ok (.aload_n 0, 1) := by decide +kernel
theorem d_Reader_takeShortName_74 : decode b_Reader_takeShortName 74 = .ok (.getfield 17, 3) := by decide +kernel
theorem d_Reader_takeShortName_77 : decode b_Reader_takeShortName 77 = .ok (.iload_n 3, 1) := by decide +kernel
theorem d_Reader_takeShortName_78 : decode b_Reader_takeShortName 78 = .ok (.iconst 1, 1) := by decide +kernel
theorem d_Reader_takeShortName_79 : decode b_Reader_takeShortName 79 = .ok (.isub, 1) := by decide +kernel
theorem d_Reader_takeShortName_80 : decode b_Reader_takeShortName 80 = .ok (.invokevirtual 68, 3) := by decide +kernel
theorem d_Reader_takeShortName_83 : decode b_Reader_takeShortName 83 = .ok (.bipush 46, 2) := by decide +kernel
theorem d_Reader_takeShortName_85 : decode b_Reader_takeShortName 85 = .ok (.if_icmp .ne 6, 3) := by decide +kernel
theorem d_Reader_takeShortName_88 : decode b_Reader_takeShortName 88 = .ok (.iinc 3 (-1), 3) := by decide +kernel
theorem d_Reader_takeShortName_91 : decode b_Reader_takeShortName 91 = .ok (.iload_n 2, 1) := by decide +kernel
theorem d_Reader_takeShortName_92 : decode b_Reader_takeShortName 92 = .ok (.bipush 33, 2) := by decide +kernel
theorem d_Reader_takeShortName_94 : decode b_Reader_takeShortName 94 = .ok (.iadd, 1) := by decide +kernel
theorem d_Reader_takeShortName_95 : decode b_Reader_takeShortName 95 = .ok (.istore 4, 2) := by decide +kernel
theorem d_Reader_takeShortName_97 : decode b_Reader_takeShortName 97 = .ok (.iload 4, 2) := by decide +kernel
theorem d_Reader_takeShortName_99 : decode b_Reader_takeShortName 99 = .ok (.iload_n 3, 1) := by decide +kernel
theorem d_Reader_takeShortName_100 : decode b_Reader_takeShortName 100 = .ok (.if_icmp .ge 22, 3) := by decide +kernel
theorem d_Reader_takeShortName_103 : decode b_Reader_takeShortName 103 = .ok (.aload_n 1, 1) := by decide +kernel
theorem d_Reader_takeShortName_104 : decode b_Reader_takeShortName 104 = .ok (.aload_n 0, 1) := by decide +kernel
theorem d_Reader_takeShortName_105 : decode b_Reader_takeShortName 105 = .ok (.getfield 17, 3) := by decide +kernel
theorem d_Reader_takeShortName_108 : decode b_Reader_takeShortName 108 = .ok (.iload 4, 2) := by decide +kernel
theorem d_Reader_takeShortName_110 : decode b_Reader_takeShortName 110 = .ok (.invokevirtual 68, 3) := by decide +kernel
theorem d_Reader_takeShortName_113 : decode b_Reader_takeShortName 113 = .ok (.invokevirtual 139, 3) := by decide +kernel
theorem d_Reader_takeShortName_116 : decode b_Reader_takeShortName 116 = .ok (.iinc 4 1, 3) := by decide +kernel
theorem d_Reader_takeShortName_119 : decode b_Reader_takeShortName 119 = .ok (.goto (-22), 3) := by decide +kernel
theorem d_Reader_takeShortName_122 : decode b_Reader_takeShortName 122 = .ok (.aload_n 1, 1) := by decide +kernel
theorem d_Reader_takeShortName_123 : decode b_Reader_takeShortName 123 = .ok (.invokevirtual 143, 3) := by decide +kernel
theorem d_Reader_takeShortName_126 : decode b_Reader_takeShortName 126 = .ok (.ifCond .ne 7, 3) := by decide +kernel
theorem d_Reader_takeShortName_129 : decode b_Reader_takeShortName 129 = .ok (.iconst 1, 1) := by decide +kernel
theorem d_Reader_takeShortName_130 : decode b_Reader_takeShortName 130 = .ok (.goto 4, 3) := by decide +kernel
theorem d_Reader_takeShortName_133 : decode b_Reader_takeShortName 133 = .ok (.iconst 0, 1) := by decide +kernel
theorem d_Reader_takeShortName_134 : decode b_Reader_takeShortName 134 = .ok (.ireturn, 1) := by decide +kernel
set_option maxHeartbeats 4000000 in
set_option maxRecDepth 100000 in
theorem c3_takeShortName (l : Launch) (D : va_G) (cB cI cJ cZ cN cF : ClassId) (sz : Nat) (h0 : Nat) (pr : Nat) (ra : Nat) (im : Nat) (iq : Nat) (n : Nat) (L : Int32) (f : Nat → Int32) (cn : Int32) (vw : Int32) (wr : Int32) (fo : Nat) (a1 : Nat) (a2 : Nat) (pa : Int32) (de : Int32) (so : Int32) (si : Int32) (se : Int32) (mo : Int32) (ow : Int32) (gr : Int32) (nl : Int32) (tl : Int32) (mk : Int32) (f1 : Nat → Int32) (x : Int32) (hL : 0 ≤ L.toInt ∧ L.toInt ≤ n) (hn : n ≤ 3000000) (hx : 0 ≤ x.toInt ∧ x.toInt ≤ 3000000) (hnl : 0 ≤ nl.toInt ∧ nl.toInt ≤ 60) : Met l y_Reader_takeShortName w_Reader_takeShortName ({ frames := 1, cells := 0, slots := 0, locals := 27 }) (va_Pc [.ref h0, .ref fo, .int x] (fun U => U.heap.size = sz ∧ va_P D CL [(h0, .inr (7, [.ref im, .ref pr, .ref ra, .int cn, .int vw, .int wr])), (im, .inr (1, [.ref iq, .int L])), (iq, .inl (cB, n, .inl f)), (fo, .inr (2, [.ref a1, .ref a2, .int pa, .int de, .int so, .int si, .int se, .int mo, .int ow, .int gr, .int nl, .int tl, .int mk])), (a1, .inl (cB, 60, .inl f1))] U.heap ∧ va_K D CL (TY cB cI cJ cZ cN cF) U ∧ NN U ∧ va_D (fun _ => True) [(h0, .inr (7, [.ref im, .ref pr, .ref ra, .int cn, .int vw, .int wr])), (im, .inr (1, [.ref iq, .int L])), (iq, .inl (cB, n, .inl f)), (fo, .inr (2, [.ref a1, .ref a2, .int pa, .int de, .int so, .int si, .int se, .int mo, .int ow, .int gr, .int nl, .int tl, .int mk])), (a1, .inl (cB, 60, .inl f1))])) (va_Qi (fun (r : Int32) (u : Int32 × (Nat → Int32)) => match u with | (nl2, g) => (0 ≤ r.toInt ∧ r.toInt ≤ 1) ∧ (r.toInt ≠ 0 → (0 ≤ nl2.toInt ∧ nl2.toInt ≤ 60))) (fun (u : Int32 × (Nat → Int32)) (t : State) => match u with | (nl2, g) => va_P D CL [(h0, .inr (7, [.ref im, .ref pr, .ref ra, .int cn, .int vw, .int wr])), (im, .inr (1, [.ref iq, .int L])), (iq, .inl (cB, n, .inl f)), (fo, .inr (2, [.ref a1, .ref a2, .int pa, .int de, .int so, .int si, .int se, .int mo, .int ow, .int gr, .int nl2, .int tl, .int mk])), (a1, .inl (cB, 60, .inl g))] t.heap ∧ va_D (va_A [(h0, .inr (7, [.ref im, .ref pr, .ref ra, .int cn, .int vw, .int wr])), (im, .inr (1, [.ref iq, .int L])), (iq, .inl (cB, n, .inl f)), (fo, .inr (2, [.ref a1, .ref a2, .int pa, .int de, .int so, .int si, .int se, .int mo, .int ow, .int gr, .int nl, .int tl, .int mk])), (a1, .inl (cB, 60, .inl f1))] sz) [(h0, .inr (7, [.ref im, .ref pr, .ref ra, .int cn, .int vw, .int wr])), (im, .inr (1, [.ref iq, .int L])), (iq, .inl (cB, n, .inl f)), (fo, .inr (2, [.ref a1, .ref a2, .int pa, .int de, .int so, .int si, .int se, .int mo, .int ow, .int gr, .int nl2, .int tl, .int mk])), (a1, .inl (cB, 60, .inl g))]) (va_A [(h0, .inr (7, [.ref im, .ref pr, .ref ra, .int cn, .int vw, .int wr])), (im, .inr (1, [.ref iq, .int L])), (iq, .inl (cB, n, .inl f)), (fo, .inr (2, [.ref a1, .ref a2, .int pa, .int de, .int so, .int si, .int se, .int mo, .int ow, .int gr, .int nl, .int tl, .int mk])), (a1, .inl (cB, 60, .inl f1))] sz)) 0 0 (va_A [(h0, .inr (7, [.ref im, .ref pr, .ref ra, .int cn, .int vw, .int wr])), (im, .inr (1, [.ref iq, .int L])), (iq, .inl (cB, n, .inl f)), (fo, .inr (2, [.ref a1, .ref a2, .int pa, .int de, .int so, .int si, .int se, .int mo, .int ow, .int gr, .int nl, .int tl, .int mk])), (a1, .inl (cB, 60, .inl f1))] sz) := by
  refine Met.ofW (cc := b_Reader_takeShortName) (maxL := 5) (ret := some .boolean) (by decide +kernel) rfl ?_
  intro p e s m args below meth c s₁ B hml hv
  obtain ⟨rfl, hsz, hP, hK, hN, hD0⟩ := hv
  have hx := B.exec
  have hb := B.bytes
  have hr := B.returns
  have hts := atoms_spec (ws := w_Reader_takeShortName) B.pre
  have ht9 := fun (w : Cond) (h : w ∈ lw_g) => hts w (List.mem_cons_of_mem _ h)
  have hown : s.vm.findClass "DiscMaker$Reader" = some m.cls := findClass_of_methodNamed B.named
  have hlocks := B.notSynchronized
  subst hsz
  have hD := hD0.self (sz := s.heap.size)
  generalize hAe : va_A [(h0, .inr (7, [.ref im, .ref pr, .ref ra, .int cn, .int vw, .int wr])), (im, .inr (1, [.ref iq, .int L])), (iq, .inl (cB, n, .inl f)), (fo, .inr (2, [.ref a1, .ref a2, .int pa, .int de, .int so, .int si, .int se, .int mo, .int ow, .int gr, .int nl, .int tl, .int mk])), (a1, .inl (cB, 60, .inl f1))] s.heap.size = A at hD ⊢
  have hA : ∀ q : Nat, s.heap.size ≤ q → A q := fun q h => by rw [← hAe]; exact Or.inr h
  have hS : va_S A s.heap s.heap [] := va_S.rf
  have hP : va_P D CL [(h0, .inr (7, [.ref im, .ref pr, .ref ra, .int cn, .int vw, .int wr])), (im, .inr (1, [.ref iq, .int L])), (iq, .inl (cB, n, .inl f)), (fo, .inr (2, [.ref a1, .ref a2, .int pa, .int de, .int so, .int si, .int se, .int mo, .int ow, .int gr, .int nl, .int tl, .int mk])), (a1, .inl (cB, 60, .inl f1))] s.heap := hP
  have hl := lv_entry [.ref h0, .ref fo, .int x] (n := 5) (Nat.le_of_ble_eq_true rfl)
  rw [lg_entry_eq]
  generalize (lg_sl [.ref h0, .ref fo, .int x] ++ List.replicate (5 - (lg_sl [.ref h0, .ref fo, .int x]).length) Slot.unset).toArray = ls at hl ⊢
  have hl : lv_has ls 5 [(0, .ref h0), (1, .ref fo), (2, .int x)] := hl
  have L_m2 : ((-2) : Int32).toInt = (-2) := by decide
  have L_m1 : ((-1) : Int32).toInt = (-1) := by decide
  have L_0 : (0 : Int32).toInt = 0 := by decide
  have L_1 : (1 : Int32).toInt = 1 := by decide
  have L_2 : (2 : Int32).toInt = 2 := by decide
  have L_32 : (32 : Int32).toInt = 32 := by decide
  have L_33 : (33 : Int32).toInt = 33 := by decide
  have L_46 : (46 : Int32).toInt = 46 := by decide
  have L_49 : (49 : Int32).toInt = 49 := by decide
  have L_59 : (59 : Int32).toInt = 59 := by decide
  refine lv_iload_n hx hb d_Reader_takeShortName_0 rfl (lv_at hl 2 rfl) ?_
  refine lv_bipush (v := 33) hx hb d_Reader_takeShortName_1 (by decide) ?_
  refine lv_iadd hx hb d_Reader_takeShortName_3 ?_
  refine lv_topi (fun v1 e_v1 => ?_)
  have t_v1 : v1.toInt = x.toInt + 33 := by rw [e_v1]; exact i_add rfl (by decide) (by omega) (by omega)
  refine lv_aload_n hx hb d_Reader_takeShortName_4 rfl (lv_at hl 0 rfl) ?_
  refine va_get (D := D) (ci := 7) (v := .ref im) (C := "DiscMaker$Reader") (T := F_Reader) (N := 6) hx hb ht9 in_Reader hown hK hP 0 rfl rfl 0 (by decide) (ht9 _ k412) (fun _ h9 => h9) rfl d_Reader_takeShortName_5 ?_
  refine lv_iload_n hx hb d_Reader_takeShortName_8 rfl (lv_at hl 2 rfl) ?_
  refine lv_bipush (v := 32) hx hb d_Reader_takeShortName_9 (by decide) ?_
  refine lv_iadd hx hb d_Reader_takeShortName_11 ?_
  refine lv_topi (fun v2 e_v2 => ?_)
  have t_v2 : v2.toInt = x.toInt + 32 := by rw [e_v2]; exact i_add rfl (by decide) (by omega) (by omega)
  have hPc := hP.sub (ws' := [(im, .inr (1, [.ref iq, .int L])), (iq, .inl (cB, n, .inl f))]) [1, 2] rfl
  have hDc := hD.sub (ws' := [(im, .inr (1, [.ref iq, .int L])), (iq, .inl (cB, n, .inl f))]) [1, 2] (by decide +kernel) rfl
  have hFc := va_free (wc := [(im, .inr (1, [.ref iq, .int L])), (iq, .inl (cB, n, .inl f))]) hD hS hA [1, 2] rfl
  have hkc : 0 ≤ 0 := by decide
  have hks : 0 ≤ 0 := by decide
  refine va_calli (va_runV (C := "DiscMaker$Bytes") (As := [.int v2]) (rest := [.int v1]) ⟨hx, hb, hml, hown, hts⟩ (c3_at l D cB cI cJ cZ cN cF s.heap.size im iq n L f v2 (by (try dsimp only); first | assumption | omega | trivial) (by (try dsimp only); first | assumption | omega | trivial)) (cwV 1 hts (lg_goodV k1179 k1065 k1066 k119 kc_Bytes_at) rfl rfl rfl (by decide +kernel) ⟨Nat.le_of_ble_eq_true rfl, Nat.le_of_ble_eq_true rfl⟩) ⟨fun a U g mk q => by obtain ⟨q0, q1, qP, qK, qN, qD⟩ := q; exact ⟨q0, q1, qP, va_K.moved (u := U) (U := U.calling g mk a) (Vm.Alike.refl U.vm) qK, qN.calling, qD⟩, va_recv hK hP (ci := 1) (q0 := 1) rfl rfl, fun U hU hW => ⟨rfl, by rw [hU], by rw [hU]; exact hPc, va_K.moved hW.alike hK, NN.warm hW hN, hDc.weaken (fun _ _ _ _ => trivial)⟩⟩ rfl rfl hl.1 rfl (lv_room (Nat.le_of_ble_eq_true rfl)) d_Reader_takeShortName_12 ⟨hkc, hks⟩) hS (fun q _ h => hFc q h) hFc (fun r3 u t H1 locs ht hvm hp_r3 hB hz1 hk1 hS => ?_)
  obtain ⟨hP1, hD1⟩ := hB
  rw [ht] at hP1
  obtain ⟨hP, hD⟩ := va_join (wr := [(h0, .inr (7, [.ref im, .ref pr, .ref ra, .int cn, .int vw, .int wr])), (fo, .inr (2, [.ref a1, .ref a2, .int pa, .int de, .int so, .int si, .int se, .int mo, .int ow, .int gr, .int nl, .int tl, .int mk])), (a1, .inl (cB, 60, .inl f1))]) (w1 := [(im, .inr (1, [.ref iq, .int L])), (iq, .inl (cB, n, .inl f))]) hP hD [1, 2] [0, 3, 4] rfl rfl (by decide +kernel) (by decide +kernel) hk1 hFc hP1 hD1
  clear hPc hDc hFc hP1 hD1 hk1 hz1 hkc hks
  generalize H1 = H at hP hS ⊢
  have hP : va_P D CL [(h0, .inr (7, [.ref im, .ref pr, .ref ra, .int cn, .int vw, .int wr])), (fo, .inr (2, [.ref a1, .ref a2, .int pa, .int de, .int so, .int si, .int se, .int mo, .int ow, .int gr, .int nl, .int tl, .int mk])), (a1, .inl (cB, 60, .inl f1)), (im, .inr (1, [.ref iq, .int L])), (iq, .inl (cB, n, .inl f))] H := hP
  have hD : va_D A [(h0, .inr (7, [.ref im, .ref pr, .ref ra, .int cn, .int vw, .int wr])), (fo, .inr (2, [.ref a1, .ref a2, .int pa, .int de, .int so, .int si, .int se, .int mo, .int ow, .int gr, .int nl, .int tl, .int mk])), (a1, .inl (cB, 60, .inl f1)), (im, .inr (1, [.ref iq, .int L])), (iq, .inl (cB, n, .inl f))] := hD
  try dsimp only at hp_r3
  obtain ⟨hr_4, hv_5⟩ := hp_r3
  refine lv_iadd hx hb d_Reader_takeShortName_15 ?_
  refine lv_topi (fun v6 e_v6 => ?_)
  have t_v6 : v6.toInt = v1.toInt + r3.toInt := by rw [e_v6]; exact i_add rfl rfl (by omega) (by omega)
  refine lv_istore_n hx hb d_Reader_takeShortName_16 rfl hl (by decide) rfl (fun ls hl => ?_)
  have hl : lv_has ls 5 [(3, .int v6), (0, .ref h0), (1, .ref fo), (2, .int x)] := hl
  refine zz_labM (B := fun (lk : Nat) (K : Heap → List Loc → Array Slot → List Value → Prop) => ∀ (en : Int32) (H : Heap) (locs : List Loc) (ls : Array Slot), lk = 0 → (x.toInt + 31 ≤ en.toInt ∧ en.toInt ≤ x.toInt + 288) → va_P D CL [(h0, .inr (7, [.ref im, .ref pr, .ref ra, .int cn, .int vw, .int wr])), (fo, .inr (2, [.ref a1, .ref a2, .int pa, .int de, .int so, .int si, .int se, .int mo, .int ow, .int gr, .int nl, .int tl, .int mk])), (a1, .inl (cB, 60, .inl f1)), (im, .inr (1, [.ref iq, .int L])), (iq, .inl (cB, n, .inl f))] H → va_D A [(h0, .inr (7, [.ref im, .ref pr, .ref ra, .int cn, .int vw, .int wr])), (fo, .inr (2, [.ref a1, .ref a2, .int pa, .int de, .int so, .int si, .int se, .int mo, .int ow, .int gr, .int nl, .int tl, .int mk])), (a1, .inl (cB, 60, .inl f1)), (im, .inr (1, [.ref iq, .int L])), (iq, .inl (cB, n, .inl f))] → va_S A s.heap H locs → lv_has ls 5 [(0, .ref h0), (1, .ref fo), (2, .int x), (3, .int en)] → K H locs ls []) 65 ?_ ?_
  · skip
    intro lk ih65 en H locs ls hm65 e1 hP hD hS hl
    refine lv_iload_n hx hb d_Reader_takeShortName_65 rfl (lv_at hl 3 rfl) ?_
    refine lv_iload_n hx hb d_Reader_takeShortName_66 rfl (lv_at hl 2 rfl) ?_
    refine lv_bipush (v := 33) hx hb d_Reader_takeShortName_67 (by decide) ?_
    refine lv_iadd hx hb d_Reader_takeShortName_69 ?_
    refine lv_topi (fun v7 e_v7 => ?_)
    have t_v7 : v7.toInt = x.toInt + 33 := by rw [e_v7]; exact i_add rfl (by decide) (by omega) (by omega)
    refine lv_icmp_le (tgt := 91) hx hb d_Reader_takeShortName_70 (by decide) (fun h_9 => ?_) (fun h_9 => ?_)
    · skip
      have g70_16 : en.toInt ≤ v7.toInt := (i_le rfl rfl).mp h_9
      refine lv_iload_n hx hb d_Reader_takeShortName_91 rfl (lv_at hl 2 rfl) ?_
      refine lv_bipush (v := 33) hx hb d_Reader_takeShortName_92 (by decide) ?_
      refine lv_iadd hx hb d_Reader_takeShortName_94 ?_
      refine lv_topi (fun v8 e_v8 => ?_)
      have t_v8 : v8.toInt = x.toInt + 33 := by rw [e_v8]; exact i_add rfl (by decide) (by omega) (by omega)
      refine lv_istore hx hb d_Reader_takeShortName_95 hl (by decide) rfl (fun ls hl => ?_)
      have hl : lv_has ls 5 [(4, .int v8), (0, .ref h0), (1, .ref fo), (2, .int x), (3, .int en)] := hl
      refine zz_labM (B := fun (lk : Nat) (K : Heap → List Loc → Array Slot → List Value → Prop) => ∀ (kx : Int32) (ln : Int32) (lf : Nat → Int32) (H : Heap) (locs : List Loc) (ls : Array Slot), lk = (x.toInt + 400 - kx.toInt).toNat → (x.toInt + 33 ≤ kx.toInt ∧ kx.toInt ≤ x.toInt + 400) → (0 ≤ ln.toInt ∧ ln.toInt ≤ 60 + (kx.toInt - x.toInt)) → va_P D CL [(h0, .inr (7, [.ref im, .ref pr, .ref ra, .int cn, .int vw, .int wr])), (fo, .inr (2, [.ref a1, .ref a2, .int pa, .int de, .int so, .int si, .int se, .int mo, .int ow, .int gr, .int ln, .int tl, .int mk])), (a1, .inl (cB, 60, .inl lf)), (im, .inr (1, [.ref iq, .int L])), (iq, .inl (cB, n, .inl f))] H → va_D A [(h0, .inr (7, [.ref im, .ref pr, .ref ra, .int cn, .int vw, .int wr])), (fo, .inr (2, [.ref a1, .ref a2, .int pa, .int de, .int so, .int si, .int se, .int mo, .int ow, .int gr, .int ln, .int tl, .int mk])), (a1, .inl (cB, 60, .inl lf)), (im, .inr (1, [.ref iq, .int L])), (iq, .inl (cB, n, .inl f))] → va_S A s.heap H locs → lv_has ls 5 [(0, .ref h0), (1, .ref fo), (2, .int x), (3, .int en), (4, .int kx)] → K H locs ls []) 97 ?_ ?_
      · skip
        intro lk ih97 kx ln lf H locs ls hm97 e3 e4 hP hD hS hl
        refine lv_iload hx hb d_Reader_takeShortName_97 (lv_at hl 4 rfl) ?_
        refine lv_iload_n hx hb d_Reader_takeShortName_99 rfl (lv_at hl 3 rfl) ?_
        refine lv_icmp_ge (tgt := 122) hx hb d_Reader_takeShortName_100 (by decide) (fun h_9 => ?_) (fun h_9 => ?_)
        · skip
          have g100_23 : en.toInt ≤ kx.toInt := (i_le rfl rfl).mp h_9
          refine lv_aload_n hx hb d_Reader_takeShortName_122 rfl (lv_at hl 1 rfl) ?_
          have hPc := hP.sub (ws' := [(fo, .inr (2, [.ref a1, .ref a2, .int pa, .int de, .int so, .int si, .int se, .int mo, .int ow, .int gr, .int ln, .int tl, .int mk])), (a1, .inl (cB, 60, .inl lf))]) [1, 2] rfl
          have hDc := hD.sub (ws' := [(fo, .inr (2, [.ref a1, .ref a2, .int pa, .int de, .int so, .int si, .int se, .int mo, .int ow, .int gr, .int ln, .int tl, .int mk])), (a1, .inl (cB, 60, .inl lf))]) [1, 2] (by decide +kernel) rfl
          have hFc := va_free (wc := [(fo, .inr (2, [.ref a1, .ref a2, .int pa, .int de, .int so, .int si, .int se, .int mo, .int ow, .int gr, .int ln, .int tl, .int mk])), (a1, .inl (cB, 60, .inl lf))]) hD hS hA [1, 2] rfl
          have hkc : 0 ≤ 0 := by decide
          have hks : 0 ≤ 0 := by decide
          refine va_calli (va_runV (C := "DiscMaker$Found") (As := []) (rest := []) ⟨hx, hb, hml, hown, hts⟩ (c3_isNameTooLong l D cB cI cJ cZ cN cF H.size fo a1 a2 pa de so si se mo ow gr ln tl mk lf) (cwV 0 hts (lg_goodV k1312 k1313 k1314 k141 kc_Found_isNameTooLong) rfl rfl rfl (by decide +kernel) ⟨Nat.le_of_ble_eq_true rfl, Nat.le_of_ble_eq_true rfl⟩) ⟨fun a U g mk q => by obtain ⟨q0, q1, qP, qK, qN, qD⟩ := q; exact ⟨q0, q1, qP, va_K.moved (u := U) (U := U.calling g mk a) (Vm.Alike.refl U.vm) qK, qN.calling, qD⟩, va_recv hK hP (ci := 2) (q0 := 1) rfl rfl, fun U hU hW => ⟨rfl, by rw [hU], by rw [hU]; exact hPc, va_K.moved hW.alike hK, NN.warm hW hN, hDc.weaken (fun _ _ _ _ => trivial)⟩⟩ rfl rfl hl.1 rfl (lv_room (Nat.le_of_ble_eq_true rfl)) d_Reader_takeShortName_123 ⟨hkc, hks⟩) hS (fun q _ h => hFc q h) hFc (fun r9 u t H1 locs ht hvm hp_r9 hB hz1 hk1 hS => ?_)
          obtain ⟨hP1, hD1⟩ := hB
          rw [ht] at hP1
          obtain ⟨hP, hD⟩ := va_join (wr := [(h0, .inr (7, [.ref im, .ref pr, .ref ra, .int cn, .int vw, .int wr])), (im, .inr (1, [.ref iq, .int L])), (iq, .inl (cB, n, .inl f))]) (w1 := [(fo, .inr (2, [.ref a1, .ref a2, .int pa, .int de, .int so, .int si, .int se, .int mo, .int ow, .int gr, .int ln, .int tl, .int mk])), (a1, .inl (cB, 60, .inl lf))]) hP hD [1, 2] [0, 3, 4] rfl rfl (by decide +kernel) (by decide +kernel) hk1 hFc hP1 hD1
          clear hPc hDc hFc hP1 hD1 hk1 hz1 hkc hks
          generalize H1 = H at hP hS ⊢
          have hP : va_P D CL [(h0, .inr (7, [.ref im, .ref pr, .ref ra, .int cn, .int vw, .int wr])), (im, .inr (1, [.ref iq, .int L])), (iq, .inl (cB, n, .inl f)), (fo, .inr (2, [.ref a1, .ref a2, .int pa, .int de, .int so, .int si, .int se, .int mo, .int ow, .int gr, .int ln, .int tl, .int mk])), (a1, .inl (cB, 60, .inl lf))] H := hP
          have hD : va_D A [(h0, .inr (7, [.ref im, .ref pr, .ref ra, .int cn, .int vw, .int wr])), (im, .inr (1, [.ref iq, .int L])), (iq, .inl (cB, n, .inl f)), (fo, .inr (2, [.ref a1, .ref a2, .int pa, .int de, .int so, .int si, .int se, .int mo, .int ow, .int gr, .int ln, .int tl, .int mk])), (a1, .inl (cB, 60, .inl lf))] := hD
          try dsimp only at hp_r9
          obtain ⟨hr_10, hv_11⟩ := hp_r9
          refine lv_if_ne (tgt := 133) hx hb d_Reader_takeShortName_126 (by decide) (fun h_9 => ?_) (fun h_9 => ?_)
          · skip
            have g126_26 : ¬ r9.toInt = 0 := fun h8 => h_9 ((i_eq rfl (by decide)).mpr h8)
            refine lv_iconst (v := 0) hx hb d_Reader_takeShortName_133 (by decide) ?_
            have hP9 := hP.sub (ws' := [(h0, .inr (7, [.ref im, .ref pr, .ref ra, .int cn, .int vw, .int wr])), (im, .inr (1, [.ref iq, .int L])), (iq, .inl (cB, n, .inl f)), (fo, .inr (2, [.ref a1, .ref a2, .int pa, .int de, .int so, .int si, .int se, .int mo, .int ow, .int gr, .int ln, .int tl, .int mk])), (a1, .inl (cB, 60, .inl lf))]) [0, 1, 2, 3, 4] rfl
            have hD9 := hD.sub (ws' := [(h0, .inr (7, [.ref im, .ref pr, .ref ra, .int cn, .int vw, .int wr])), (im, .inr (1, [.ref iq, .int L])), (iq, .inl (cB, n, .inl f)), (fo, .inr (2, [.ref a1, .ref a2, .int pa, .int de, .int so, .int si, .int se, .int mo, .int ow, .int gr, .int ln, .int tl, .int mk])), (a1, .inl (cB, 60, .inl lf))]) [0, 1, 2, 3, 4] (by decide +kernel) rfl
            exact W.zret (v := 0) hx hb hr (by first | rfl | decide | exact i_narZ (by omega)) (fun t ht hW => ⟨⟨0, (ln, lf), rfl, ⟨(by (try dsimp only); first | assumption | omega | trivial), (by (try dsimp only); intro h7; first | (exfalso; omega) | omega | assumption)⟩, by rw [ht]; exact hP9, hD9⟩, hS.F ht⟩) hS.2.2 d_Reader_takeShortName_134
          · skip
            have g126_26 : r9.toInt = 0 := (i_eq rfl (by decide)).mp h_9
            refine lv_iconst (v := 1) hx hb d_Reader_takeShortName_129 (by decide) ?_
            refine lv_goto (tgt := 134) hx hb d_Reader_takeShortName_130 (by decide) ?_
            have hP9 := hP.sub (ws' := [(h0, .inr (7, [.ref im, .ref pr, .ref ra, .int cn, .int vw, .int wr])), (im, .inr (1, [.ref iq, .int L])), (iq, .inl (cB, n, .inl f)), (fo, .inr (2, [.ref a1, .ref a2, .int pa, .int de, .int so, .int si, .int se, .int mo, .int ow, .int gr, .int ln, .int tl, .int mk])), (a1, .inl (cB, 60, .inl lf))]) [0, 1, 2, 3, 4] rfl
            have hD9 := hD.sub (ws' := [(h0, .inr (7, [.ref im, .ref pr, .ref ra, .int cn, .int vw, .int wr])), (im, .inr (1, [.ref iq, .int L])), (iq, .inl (cB, n, .inl f)), (fo, .inr (2, [.ref a1, .ref a2, .int pa, .int de, .int so, .int si, .int se, .int mo, .int ow, .int gr, .int ln, .int tl, .int mk])), (a1, .inl (cB, 60, .inl lf))]) [0, 1, 2, 3, 4] (by decide +kernel) rfl
            exact W.zret (v := 1) hx hb hr (by first | rfl | decide | exact i_narZ (by omega)) (fun t ht hW => ⟨⟨1, (ln, lf), rfl, ⟨(by (try dsimp only); first | assumption | omega | trivial), (by (try dsimp only); intro h7; first | (exfalso; omega) | omega | assumption)⟩, by rw [ht]; exact hP9, hD9⟩, hS.F ht⟩) hS.2.2 d_Reader_takeShortName_134
        · skip
          have g100_23 : ¬ en.toInt ≤ kx.toInt := fun h8 => h_9 ((i_le rfl rfl).mpr h8)
          refine lv_aload_n hx hb d_Reader_takeShortName_103 rfl (lv_at hl 1 rfl) ?_
          refine lv_aload_n hx hb d_Reader_takeShortName_104 rfl (lv_at hl 0 rfl) ?_
          refine va_get (D := D) (ci := 7) (v := .ref im) (C := "DiscMaker$Reader") (T := F_Reader) (N := 6) hx hb ht9 in_Reader hown hK hP 0 rfl rfl 0 (by decide) (ht9 _ k412) (fun _ h9 => h9) rfl d_Reader_takeShortName_105 ?_
          refine lv_iload hx hb d_Reader_takeShortName_108 (lv_at hl 4 rfl) ?_
          have hPc := hP.sub (ws' := [(im, .inr (1, [.ref iq, .int L])), (iq, .inl (cB, n, .inl f))]) [3, 4] rfl
          have hDc := hD.sub (ws' := [(im, .inr (1, [.ref iq, .int L])), (iq, .inl (cB, n, .inl f))]) [3, 4] (by decide +kernel) rfl
          have hFc := va_free (wc := [(im, .inr (1, [.ref iq, .int L])), (iq, .inl (cB, n, .inl f))]) hD hS hA [3, 4] rfl
          have hkc : 0 ≤ 0 := by decide
          have hks : 0 ≤ 0 := by decide
          refine va_calli (va_runV (C := "DiscMaker$Bytes") (As := [.int kx]) (rest := [.ref fo]) ⟨hx, hb, hml, hown, hts⟩ (c3_at l D cB cI cJ cZ cN cF H.size im iq n L f kx (by (try dsimp only); first | assumption | omega | trivial) (by (try dsimp only); first | assumption | omega | trivial)) (cwV 1 hts (lg_goodV k1179 k1065 k1066 k119 kc_Bytes_at) rfl rfl rfl (by decide +kernel) ⟨Nat.le_of_ble_eq_true rfl, Nat.le_of_ble_eq_true rfl⟩) ⟨fun a U g mk q => by obtain ⟨q0, q1, qP, qK, qN, qD⟩ := q; exact ⟨q0, q1, qP, va_K.moved (u := U) (U := U.calling g mk a) (Vm.Alike.refl U.vm) qK, qN.calling, qD⟩, va_recv hK hP (ci := 1) (q0 := 3) rfl rfl, fun U hU hW => ⟨rfl, by rw [hU], by rw [hU]; exact hPc, va_K.moved hW.alike hK, NN.warm hW hN, hDc.weaken (fun _ _ _ _ => trivial)⟩⟩ rfl rfl hl.1 rfl (lv_room (Nat.le_of_ble_eq_true rfl)) d_Reader_takeShortName_110 ⟨hkc, hks⟩) hS (fun q _ h => hFc q h) hFc (fun r12 u t H1 locs ht hvm hp_r12 hB hz1 hk1 hS => ?_)
          obtain ⟨hP1, hD1⟩ := hB
          rw [ht] at hP1
          obtain ⟨hP, hD⟩ := va_join (wr := [(h0, .inr (7, [.ref im, .ref pr, .ref ra, .int cn, .int vw, .int wr])), (fo, .inr (2, [.ref a1, .ref a2, .int pa, .int de, .int so, .int si, .int se, .int mo, .int ow, .int gr, .int ln, .int tl, .int mk])), (a1, .inl (cB, 60, .inl lf))]) (w1 := [(im, .inr (1, [.ref iq, .int L])), (iq, .inl (cB, n, .inl f))]) hP hD [3, 4] [0, 1, 2] rfl rfl (by decide +kernel) (by decide +kernel) hk1 hFc hP1 hD1
          clear hPc hDc hFc hP1 hD1 hk1 hz1 hkc hks
          generalize H1 = H at hP hS ⊢
          have hP : va_P D CL [(h0, .inr (7, [.ref im, .ref pr, .ref ra, .int cn, .int vw, .int wr])), (fo, .inr (2, [.ref a1, .ref a2, .int pa, .int de, .int so, .int si, .int se, .int mo, .int ow, .int gr, .int ln, .int tl, .int mk])), (a1, .inl (cB, 60, .inl lf)), (im, .inr (1, [.ref iq, .int L])), (iq, .inl (cB, n, .inl f))] H := hP
          have hD : va_D A [(h0, .inr (7, [.ref im, .ref pr, .ref ra, .int cn, .int vw, .int wr])), (fo, .inr (2, [.ref a1, .ref a2, .int pa, .int de, .int so, .int si, .int se, .int mo, .int ow, .int gr, .int ln, .int tl, .int mk])), (a1, .inl (cB, 60, .inl lf)), (im, .inr (1, [.ref iq, .int L])), (iq, .inl (cB, n, .inl f))] := hD
          try dsimp only at hp_r12
          obtain ⟨hr_13, hv_14⟩ := hp_r12
          have hPc := hP.sub (ws' := [(fo, .inr (2, [.ref a1, .ref a2, .int pa, .int de, .int so, .int si, .int se, .int mo, .int ow, .int gr, .int ln, .int tl, .int mk])), (a1, .inl (cB, 60, .inl lf))]) [1, 2] rfl
          have hDc := hD.sub (ws' := [(fo, .inr (2, [.ref a1, .ref a2, .int pa, .int de, .int so, .int si, .int se, .int mo, .int ow, .int gr, .int ln, .int tl, .int mk])), (a1, .inl (cB, 60, .inl lf))]) [1, 2] (by decide +kernel) rfl
          have hFc := va_free (wc := [(fo, .inr (2, [.ref a1, .ref a2, .int pa, .int de, .int so, .int si, .int se, .int mo, .int ow, .int gr, .int ln, .int tl, .int mk])), (a1, .inl (cB, 60, .inl lf))]) hD hS hA [1, 2] rfl
          have hkc : 0 ≤ 0 := by decide
          have hks : 0 ≤ 0 := by decide
          refine va_callv (va_runV (C := "DiscMaker$Found") (As := [.int r12]) (rest := []) ⟨hx, hb, hml, hown, hts⟩ (c3_addToName l D cB cI cJ cZ cN cF H.size fo a1 a2 pa de so si se mo ow gr ln tl mk lf r12 (by (try dsimp only); first | assumption | omega | trivial)) (cwV 1 hts (lg_goodV k1308 k1309 k1310 k141 kc_Found_addToName) rfl rfl rfl (by decide +kernel) ⟨Nat.le_of_ble_eq_true rfl, Nat.le_of_ble_eq_true rfl⟩) ⟨fun a U g mk q => by obtain ⟨q0, q1, qP, qK, qN, qD⟩ := q; exact ⟨q0, q1, qP, va_K.moved (u := U) (U := U.calling g mk a) (Vm.Alike.refl U.vm) qK, qN.calling, qD⟩, va_recv hK hP (ci := 2) (q0 := 1) rfl rfl, fun U hU hW => ⟨rfl, by rw [hU], by rw [hU]; exact hPc, va_K.moved hW.alike hK, NN.warm hW hN, hDc.weaken (fun _ _ _ _ => trivial)⟩⟩ rfl rfl hl.1 rfl (lv_room (Nat.le_of_ble_eq_true rfl)) d_Reader_takeShortName_113 ⟨hkc, hks⟩) hS (fun q _ h => hFc q h) hFc (fun u t H1 locs ht hvm hp_r15 hB hz1 hk1 hS => ?_)
          obtain ⟨l2_16, g_17⟩ := u
          obtain ⟨hP1, hD1⟩ := hB
          rw [ht] at hP1
          obtain ⟨hP, hD⟩ := va_join (wr := [(h0, .inr (7, [.ref im, .ref pr, .ref ra, .int cn, .int vw, .int wr])), (im, .inr (1, [.ref iq, .int L])), (iq, .inl (cB, n, .inl f))]) (w1 := [(fo, .inr (2, [.ref a1, .ref a2, .int pa, .int de, .int so, .int si, .int se, .int mo, .int ow, .int gr, .int l2_16, .int tl, .int mk])), (a1, .inl (cB, 60, .inl g_17))]) hP hD [1, 2] [0, 3, 4] rfl rfl (by decide +kernel) (by decide +kernel) hk1 hFc hP1 hD1
          clear hPc hDc hFc hP1 hD1 hk1 hz1 hkc hks
          generalize H1 = H at hP hS ⊢
          have hP : va_P D CL [(h0, .inr (7, [.ref im, .ref pr, .ref ra, .int cn, .int vw, .int wr])), (im, .inr (1, [.ref iq, .int L])), (iq, .inl (cB, n, .inl f)), (fo, .inr (2, [.ref a1, .ref a2, .int pa, .int de, .int so, .int si, .int se, .int mo, .int ow, .int gr, .int l2_16, .int tl, .int mk])), (a1, .inl (cB, 60, .inl g_17))] H := hP
          have hD : va_D A [(h0, .inr (7, [.ref im, .ref pr, .ref ra, .int cn, .int vw, .int wr])), (im, .inr (1, [.ref iq, .int L])), (iq, .inl (cB, n, .inl f)), (fo, .inr (2, [.ref a1, .ref a2, .int pa, .int de, .int so, .int si, .int se, .int mo, .int ow, .int gr, .int l2_16, .int tl, .int mk])), (a1, .inl (cB, 60, .inl g_17))] := hD
          try dsimp only at hp_r15
          have hl2_18 := hp_r15
          obtain ⟨v19, e_v19⟩ : ∃ z : Int32, z = kx + 1 := ⟨_, rfl⟩
          refine lv_iinc (v := v19) hx hb d_Reader_takeShortName_116 hl (k := 4) rfl e_v19.symm (by decide +kernel) rfl (fun ls hl => ?_)
          have t_v19 : v19.toInt = kx.toInt + 1 := by rw [e_v19]; exact i_add rfl (by decide) (by omega) (by omega)
          have hl : lv_has ls 5 [(4, .int v19), (0, .ref h0), (1, .ref fo), (2, .int x), (3, .int en)] := hl
          refine lv_goto (tgt := 97) hx hb d_Reader_takeShortName_119 (by decide) ?_
          have hP := hP.sub (ws' := [(h0, .inr (7, [.ref im, .ref pr, .ref ra, .int cn, .int vw, .int wr])), (fo, .inr (2, [.ref a1, .ref a2, .int pa, .int de, .int so, .int si, .int se, .int mo, .int ow, .int gr, .int l2_16, .int tl, .int mk])), (a1, .inl (cB, 60, .inl g_17)), (im, .inr (1, [.ref iq, .int L])), (iq, .inl (cB, n, .inl f))]) [0, 3, 4, 1, 2] rfl
          have hD := hD.sub (ws' := [(h0, .inr (7, [.ref im, .ref pr, .ref ra, .int cn, .int vw, .int wr])), (fo, .inr (2, [.ref a1, .ref a2, .int pa, .int de, .int so, .int si, .int se, .int mo, .int ow, .int gr, .int l2_16, .int tl, .int mk])), (a1, .inl (cB, 60, .inl g_17)), (im, .inr (1, [.ref iq, .int L])), (iq, .inl (cB, n, .inl f))]) [0, 3, 4, 1, 2] (by decide +kernel) rfl
          have hl := lv_sub hl [1, 2, 3, 4, 0] rfl
          exact ih97 _ (by first | omega | (dsimp only; omega)) v19 l2_16 g_17 _ _ _ rfl ((by (try dsimp only); first | assumption | omega | trivial)) ((by (try dsimp only); first | assumption | omega | trivial)) hP hD hS hl
      · skip
        intro kk97
        have hP := hP.sub (ws' := [(h0, .inr (7, [.ref im, .ref pr, .ref ra, .int cn, .int vw, .int wr])), (fo, .inr (2, [.ref a1, .ref a2, .int pa, .int de, .int so, .int si, .int se, .int mo, .int ow, .int gr, .int nl, .int tl, .int mk])), (a1, .inl (cB, 60, .inl f1)), (im, .inr (1, [.ref iq, .int L])), (iq, .inl (cB, n, .inl f))]) [0, 1, 2, 3, 4] rfl
        have hD := hD.sub (ws' := [(h0, .inr (7, [.ref im, .ref pr, .ref ra, .int cn, .int vw, .int wr])), (fo, .inr (2, [.ref a1, .ref a2, .int pa, .int de, .int so, .int si, .int se, .int mo, .int ow, .int gr, .int nl, .int tl, .int mk])), (a1, .inl (cB, 60, .inl f1)), (im, .inr (1, [.ref iq, .int L])), (iq, .inl (cB, n, .inl f))]) [0, 1, 2, 3, 4] (by decide +kernel) rfl
        have hl := lv_sub hl [1, 2, 3, 4, 0] rfl
        exact kk97 _ v8 nl f1 _ _ _ rfl ((by (try dsimp only); first | assumption | omega | trivial)) ((by (try dsimp only); first | assumption | omega | trivial)) hP hD hS hl
    · skip
      have g70_16 : ¬ en.toInt ≤ v7.toInt := fun h8 => h_9 ((i_le rfl rfl).mpr h8)
      refine lv_aload_n hx hb d_Reader_takeShortName_73 rfl (lv_at hl 0 rfl) ?_
      refine va_get (D := D) (ci := 7) (v := .ref im) (C := "DiscMaker$Reader") (T := F_Reader) (N := 6) hx hb ht9 in_Reader hown hK hP 0 rfl rfl 0 (by decide) (ht9 _ k412) (fun _ h9 => h9) rfl d_Reader_takeShortName_74 ?_
      refine lv_iload_n hx hb d_Reader_takeShortName_77 rfl (lv_at hl 3 rfl) ?_
      refine lv_iconst (v := 1) hx hb d_Reader_takeShortName_78 (by decide) ?_
      refine lv_isub hx hb d_Reader_takeShortName_79 ?_
      refine lv_topi (fun v20 e_v20 => ?_)
      have t_v20 : v20.toInt = en.toInt - 1 := by rw [e_v20]; exact i_sub rfl (by decide) (by omega) (by omega)
      have hPc := hP.sub (ws' := [(im, .inr (1, [.ref iq, .int L])), (iq, .inl (cB, n, .inl f))]) [3, 4] rfl
      have hDc := hD.sub (ws' := [(im, .inr (1, [.ref iq, .int L])), (iq, .inl (cB, n, .inl f))]) [3, 4] (by decide +kernel) rfl
      have hFc := va_free (wc := [(im, .inr (1, [.ref iq, .int L])), (iq, .inl (cB, n, .inl f))]) hD hS hA [3, 4] rfl
      have hkc : 0 ≤ 0 := by decide
      have hks : 0 ≤ 0 := by decide
      refine va_calli (va_runV (C := "DiscMaker$Bytes") (As := [.int v20]) (rest := []) ⟨hx, hb, hml, hown, hts⟩ (c3_at l D cB cI cJ cZ cN cF H.size im iq n L f v20 (by (try dsimp only); first | assumption | omega | trivial) (by (try dsimp only); first | assumption | omega | trivial)) (cwV 1 hts (lg_goodV k1179 k1065 k1066 k119 kc_Bytes_at) rfl rfl rfl (by decide +kernel) ⟨Nat.le_of_ble_eq_true rfl, Nat.le_of_ble_eq_true rfl⟩) ⟨fun a U g mk q => by obtain ⟨q0, q1, qP, qK, qN, qD⟩ := q; exact ⟨q0, q1, qP, va_K.moved (u := U) (U := U.calling g mk a) (Vm.Alike.refl U.vm) qK, qN.calling, qD⟩, va_recv hK hP (ci := 1) (q0 := 3) rfl rfl, fun U hU hW => ⟨rfl, by rw [hU], by rw [hU]; exact hPc, va_K.moved hW.alike hK, NN.warm hW hN, hDc.weaken (fun _ _ _ _ => trivial)⟩⟩ rfl rfl hl.1 rfl (lv_room (Nat.le_of_ble_eq_true rfl)) d_Reader_takeShortName_80 ⟨hkc, hks⟩) hS (fun q _ h => hFc q h) hFc (fun r21 u t H1 locs ht hvm hp_r21 hB hz1 hk1 hS => ?_)
      obtain ⟨hP1, hD1⟩ := hB
      rw [ht] at hP1
      obtain ⟨hP, hD⟩ := va_join (wr := [(h0, .inr (7, [.ref im, .ref pr, .ref ra, .int cn, .int vw, .int wr])), (fo, .inr (2, [.ref a1, .ref a2, .int pa, .int de, .int so, .int si, .int se, .int mo, .int ow, .int gr, .int nl, .int tl, .int mk])), (a1, .inl (cB, 60, .inl f1))]) (w1 := [(im, .inr (1, [.ref iq, .int L])), (iq, .inl (cB, n, .inl f))]) hP hD [3, 4] [0, 1, 2] rfl rfl (by decide +kernel) (by decide +kernel) hk1 hFc hP1 hD1
      clear hPc hDc hFc hP1 hD1 hk1 hz1 hkc hks
      generalize H1 = H at hP hS ⊢
      have hP : va_P D CL [(h0, .inr (7, [.ref im, .ref pr, .ref ra, .int cn, .int vw, .int wr])), (fo, .inr (2, [.ref a1, .ref a2, .int pa, .int de, .int so, .int si, .int se, .int mo, .int ow, .int gr, .int nl, .int tl, .int mk])), (a1, .inl (cB, 60, .inl f1)), (im, .inr (1, [.ref iq, .int L])), (iq, .inl (cB, n, .inl f))] H := hP
      have hD : va_D A [(h0, .inr (7, [.ref im, .ref pr, .ref ra, .int cn, .int vw, .int wr])), (fo, .inr (2, [.ref a1, .ref a2, .int pa, .int de, .int so, .int si, .int se, .int mo, .int ow, .int gr, .int nl, .int tl, .int mk])), (a1, .inl (cB, 60, .inl f1)), (im, .inr (1, [.ref iq, .int L])), (iq, .inl (cB, n, .inl f))] := hD
      try dsimp only at hp_r21
      obtain ⟨hr_22, hv_23⟩ := hp_r21
      refine lv_bipush (v := 46) hx hb d_Reader_takeShortName_83 (by decide) ?_
      refine lv_icmp_ne (tgt := 91) hx hb d_Reader_takeShortName_85 (by decide) (fun h_9 => ?_) (fun h_9 => ?_)
      · skip
        have g85_48 : ¬ r21.toInt = 46 := fun h8 => h_9 ((i_eq rfl (by decide)).mpr h8)
        refine lv_iload_n hx hb d_Reader_takeShortName_91 rfl (lv_at hl 2 rfl) ?_
        refine lv_bipush (v := 33) hx hb d_Reader_takeShortName_92 (by decide) ?_
        refine lv_iadd hx hb d_Reader_takeShortName_94 ?_
        refine lv_topi (fun v24 e_v24 => ?_)
        have t_v24 : v24.toInt = x.toInt + 33 := by rw [e_v24]; exact i_add rfl (by decide) (by omega) (by omega)
        refine lv_istore hx hb d_Reader_takeShortName_95 hl (by decide) rfl (fun ls hl => ?_)
        have hl : lv_has ls 5 [(4, .int v24), (0, .ref h0), (1, .ref fo), (2, .int x), (3, .int en)] := hl
        refine zz_labM (B := fun (lk : Nat) (K : Heap → List Loc → Array Slot → List Value → Prop) => ∀ (kx : Int32) (ln : Int32) (lf : Nat → Int32) (H : Heap) (locs : List Loc) (ls : Array Slot), lk = (x.toInt + 400 - kx.toInt).toNat → (x.toInt + 33 ≤ kx.toInt ∧ kx.toInt ≤ x.toInt + 400) → (0 ≤ ln.toInt ∧ ln.toInt ≤ 60 + (kx.toInt - x.toInt)) → va_P D CL [(h0, .inr (7, [.ref im, .ref pr, .ref ra, .int cn, .int vw, .int wr])), (fo, .inr (2, [.ref a1, .ref a2, .int pa, .int de, .int so, .int si, .int se, .int mo, .int ow, .int gr, .int ln, .int tl, .int mk])), (a1, .inl (cB, 60, .inl lf)), (im, .inr (1, [.ref iq, .int L])), (iq, .inl (cB, n, .inl f))] H → va_D A [(h0, .inr (7, [.ref im, .ref pr, .ref ra, .int cn, .int vw, .int wr])), (fo, .inr (2, [.ref a1, .ref a2, .int pa, .int de, .int so, .int si, .int se, .int mo, .int ow, .int gr, .int ln, .int tl, .int mk])), (a1, .inl (cB, 60, .inl lf)), (im, .inr (1, [.ref iq, .int L])), (iq, .inl (cB, n, .inl f))] → va_S A s.heap H locs → lv_has ls 5 [(0, .ref h0), (1, .ref fo), (2, .int x), (3, .int en), (4, .int kx)] → K H locs ls []) 97 ?_ ?_
        · skip
          intro lk ih97 kx ln lf H locs ls hm97 e3 e4 hP hD hS hl
          refine lv_iload hx hb d_Reader_takeShortName_97 (lv_at hl 4 rfl) ?_
          refine lv_iload_n hx hb d_Reader_takeShortName_99 rfl (lv_at hl 3 rfl) ?_
          refine lv_icmp_ge (tgt := 122) hx hb d_Reader_takeShortName_100 (by decide) (fun h_9 => ?_) (fun h_9 => ?_)
          · skip
            have g100_55 : en.toInt ≤ kx.toInt := (i_le rfl rfl).mp h_9
            refine lv_aload_n hx hb d_Reader_takeShortName_122 rfl (lv_at hl 1 rfl) ?_
            have hPc := hP.sub (ws' := [(fo, .inr (2, [.ref a1, .ref a2, .int pa, .int de, .int so, .int si, .int se, .int mo, .int ow, .int gr, .int ln, .int tl, .int mk])), (a1, .inl (cB, 60, .inl lf))]) [1, 2] rfl
            have hDc := hD.sub (ws' := [(fo, .inr (2, [.ref a1, .ref a2, .int pa, .int de, .int so, .int si, .int se, .int mo, .int ow, .int gr, .int ln, .int tl, .int mk])), (a1, .inl (cB, 60, .inl lf))]) [1, 2] (by decide +kernel) rfl
            have hFc := va_free (wc := [(fo, .inr (2, [.ref a1, .ref a2, .int pa, .int de, .int so, .int si, .int se, .int mo, .int ow, .int gr, .int ln, .int tl, .int mk])), (a1, .inl (cB, 60, .inl lf))]) hD hS hA [1, 2] rfl
            have hkc : 0 ≤ 0 := by decide
            have hks : 0 ≤ 0 := by decide
            refine va_calli (va_runV (C := "DiscMaker$Found") (As := []) (rest := []) ⟨hx, hb, hml, hown, hts⟩ (c3_isNameTooLong l D cB cI cJ cZ cN cF H.size fo a1 a2 pa de so si se mo ow gr ln tl mk lf) (cwV 0 hts (lg_goodV k1312 k1313 k1314 k141 kc_Found_isNameTooLong) rfl rfl rfl (by decide +kernel) ⟨Nat.le_of_ble_eq_true rfl, Nat.le_of_ble_eq_true rfl⟩) ⟨fun a U g mk q => by obtain ⟨q0, q1, qP, qK, qN, qD⟩ := q; exact ⟨q0, q1, qP, va_K.moved (u := U) (U := U.calling g mk a) (Vm.Alike.refl U.vm) qK, qN.calling, qD⟩, va_recv hK hP (ci := 2) (q0 := 1) rfl rfl, fun U hU hW => ⟨rfl, by rw [hU], by rw [hU]; exact hPc, va_K.moved hW.alike hK, NN.warm hW hN, hDc.weaken (fun _ _ _ _ => trivial)⟩⟩ rfl rfl hl.1 rfl (lv_room (Nat.le_of_ble_eq_true rfl)) d_Reader_takeShortName_123 ⟨hkc, hks⟩) hS (fun q _ h => hFc q h) hFc (fun r25 u t H1 locs ht hvm hp_r25 hB hz1 hk1 hS => ?_)
            obtain ⟨hP1, hD1⟩ := hB
            rw [ht] at hP1
            obtain ⟨hP, hD⟩ := va_join (wr := [(h0, .inr (7, [.ref im, .ref pr, .ref ra, .int cn, .int vw, .int wr])), (im, .inr (1, [.ref iq, .int L])), (iq, .inl (cB, n, .inl f))]) (w1 := [(fo, .inr (2, [.ref a1, .ref a2, .int pa, .int de, .int so, .int si, .int se, .int mo, .int ow, .int gr, .int ln, .int tl, .int mk])), (a1, .inl (cB, 60, .inl lf))]) hP hD [1, 2] [0, 3, 4] rfl rfl (by decide +kernel) (by decide +kernel) hk1 hFc hP1 hD1
            clear hPc hDc hFc hP1 hD1 hk1 hz1 hkc hks
            generalize H1 = H at hP hS ⊢
            have hP : va_P D CL [(h0, .inr (7, [.ref im, .ref pr, .ref ra, .int cn, .int vw, .int wr])), (im, .inr (1, [.ref iq, .int L])), (iq, .inl (cB, n, .inl f)), (fo, .inr (2, [.ref a1, .ref a2, .int pa, .int de, .int so, .int si, .int se, .int mo, .int ow, .int gr, .int ln, .int tl, .int mk])), (a1, .inl (cB, 60, .inl lf))] H := hP
            have hD : va_D A [(h0, .inr (7, [.ref im, .ref pr, .ref ra, .int cn, .int vw, .int wr])), (im, .inr (1, [.ref iq, .int L])), (iq, .inl (cB, n, .inl f)), (fo, .inr (2, [.ref a1, .ref a2, .int pa, .int de, .int so, .int si, .int se, .int mo, .int ow, .int gr, .int ln, .int tl, .int mk])), (a1, .inl (cB, 60, .inl lf))] := hD
            try dsimp only at hp_r25
            obtain ⟨hr_26, hv_27⟩ := hp_r25
            refine lv_if_ne (tgt := 133) hx hb d_Reader_takeShortName_126 (by decide) (fun h_9 => ?_) (fun h_9 => ?_)
            · skip
              have g126_58 : ¬ r25.toInt = 0 := fun h8 => h_9 ((i_eq rfl (by decide)).mpr h8)
              refine lv_iconst (v := 0) hx hb d_Reader_takeShortName_133 (by decide) ?_
              have hP9 := hP.sub (ws' := [(h0, .inr (7, [.ref im, .ref pr, .ref ra, .int cn, .int vw, .int wr])), (im, .inr (1, [.ref iq, .int L])), (iq, .inl (cB, n, .inl f)), (fo, .inr (2, [.ref a1, .ref a2, .int pa, .int de, .int so, .int si, .int se, .int mo, .int ow, .int gr, .int ln, .int tl, .int mk])), (a1, .inl (cB, 60, .inl lf))]) [0, 1, 2, 3, 4] rfl
              have hD9 := hD.sub (ws' := [(h0, .inr (7, [.ref im, .ref pr, .ref ra, .int cn, .int vw, .int wr])), (im, .inr (1, [.ref iq, .int L])), (iq, .inl (cB, n, .inl f)), (fo, .inr (2, [.ref a1, .ref a2, .int pa, .int de, .int so, .int si, .int se, .int mo, .int ow, .int gr, .int ln, .int tl, .int mk])), (a1, .inl (cB, 60, .inl lf))]) [0, 1, 2, 3, 4] (by decide +kernel) rfl
              exact W.zret (v := 0) hx hb hr (by first | rfl | decide | exact i_narZ (by omega)) (fun t ht hW => ⟨⟨0, (ln, lf), rfl, ⟨(by (try dsimp only); first | assumption | omega | trivial), (by (try dsimp only); intro h7; first | (exfalso; omega) | omega | assumption)⟩, by rw [ht]; exact hP9, hD9⟩, hS.F ht⟩) hS.2.2 d_Reader_takeShortName_134
            · skip
              have g126_58 : r25.toInt = 0 := (i_eq rfl (by decide)).mp h_9
              refine lv_iconst (v := 1) hx hb d_Reader_takeShortName_129 (by decide) ?_
              refine lv_goto (tgt := 134) hx hb d_Reader_takeShortName_130 (by decide) ?_
              have hP9 := hP.sub (ws' := [(h0, .inr (7, [.ref im, .ref pr, .ref ra, .int cn, .int vw, .int wr])), (im, .inr (1, [.ref iq, .int L])), (iq, .inl (cB, n, .inl f)), (fo, .inr (2, [.ref a1, .ref a2, .int pa, .int de, .int so, .int si, .int se, .int mo, .int ow, .int gr, .int ln, .int tl, .int mk])), (a1, .inl (cB, 60, .inl lf))]) [0, 1, 2, 3, 4] rfl
              have hD9 := hD.sub (ws' := [(h0, .inr (7, [.ref im, .ref pr, .ref ra, .int cn, .int vw, .int wr])), (im, .inr (1, [.ref iq, .int L])), (iq, .inl (cB, n, .inl f)), (fo, .inr (2, [.ref a1, .ref a2, .int pa, .int de, .int so, .int si, .int se, .int mo, .int ow, .int gr, .int ln, .int tl, .int mk])), (a1, .inl (cB, 60, .inl lf))]) [0, 1, 2, 3, 4] (by decide +kernel) rfl
              exact W.zret (v := 1) hx hb hr (by first | rfl | decide | exact i_narZ (by omega)) (fun t ht hW => ⟨⟨1, (ln, lf), rfl, ⟨(by (try dsimp only); first | assumption | omega | trivial), (by (try dsimp only); intro h7; first | (exfalso; omega) | omega | assumption)⟩, by rw [ht]; exact hP9, hD9⟩, hS.F ht⟩) hS.2.2 d_Reader_takeShortName_134
          · skip
            have g100_55 : ¬ en.toInt ≤ kx.toInt := fun h8 => h_9 ((i_le rfl rfl).mpr h8)
            refine lv_aload_n hx hb d_Reader_takeShortName_103 rfl (lv_at hl 1 rfl) ?_
            refine lv_aload_n hx hb d_Reader_takeShortName_104 rfl (lv_at hl 0 rfl) ?_
            refine va_get (D := D) (ci := 7) (v := .ref im) (C := "DiscMaker$Reader") (T := F_Reader) (N := 6) hx hb ht9 in_Reader hown hK hP 0 rfl rfl 0 (by decide) (ht9 _ k412) (fun _ h9 => h9) rfl d_Reader_takeShortName_105 ?_
            refine lv_iload hx hb d_Reader_takeShortName_108 (lv_at hl 4 rfl) ?_
            have hPc := hP.sub (ws' := [(im, .inr (1, [.ref iq, .int L])), (iq, .inl (cB, n, .inl f))]) [3, 4] rfl
            have hDc := hD.sub (ws' := [(im, .inr (1, [.ref iq, .int L])), (iq, .inl (cB, n, .inl f))]) [3, 4] (by decide +kernel) rfl
            have hFc := va_free (wc := [(im, .inr (1, [.ref iq, .int L])), (iq, .inl (cB, n, .inl f))]) hD hS hA [3, 4] rfl
            have hkc : 0 ≤ 0 := by decide
            have hks : 0 ≤ 0 := by decide
            refine va_calli (va_runV (C := "DiscMaker$Bytes") (As := [.int kx]) (rest := [.ref fo]) ⟨hx, hb, hml, hown, hts⟩ (c3_at l D cB cI cJ cZ cN cF H.size im iq n L f kx (by (try dsimp only); first | assumption | omega | trivial) (by (try dsimp only); first | assumption | omega | trivial)) (cwV 1 hts (lg_goodV k1179 k1065 k1066 k119 kc_Bytes_at) rfl rfl rfl (by decide +kernel) ⟨Nat.le_of_ble_eq_true rfl, Nat.le_of_ble_eq_true rfl⟩) ⟨fun a U g mk q => by obtain ⟨q0, q1, qP, qK, qN, qD⟩ := q; exact ⟨q0, q1, qP, va_K.moved (u := U) (U := U.calling g mk a) (Vm.Alike.refl U.vm) qK, qN.calling, qD⟩, va_recv hK hP (ci := 1) (q0 := 3) rfl rfl, fun U hU hW => ⟨rfl, by rw [hU], by rw [hU]; exact hPc, va_K.moved hW.alike hK, NN.warm hW hN, hDc.weaken (fun _ _ _ _ => trivial)⟩⟩ rfl rfl hl.1 rfl (lv_room (Nat.le_of_ble_eq_true rfl)) d_Reader_takeShortName_110 ⟨hkc, hks⟩) hS (fun q _ h => hFc q h) hFc (fun r28 u t H1 locs ht hvm hp_r28 hB hz1 hk1 hS => ?_)
            obtain ⟨hP1, hD1⟩ := hB
            rw [ht] at hP1
            obtain ⟨hP, hD⟩ := va_join (wr := [(h0, .inr (7, [.ref im, .ref pr, .ref ra, .int cn, .int vw, .int wr])), (fo, .inr (2, [.ref a1, .ref a2, .int pa, .int de, .int so, .int si, .int se, .int mo, .int ow, .int gr, .int ln, .int tl, .int mk])), (a1, .inl (cB, 60, .inl lf))]) (w1 := [(im, .inr (1, [.ref iq, .int L])), (iq, .inl (cB, n, .inl f))]) hP hD [3, 4] [0, 1, 2] rfl rfl (by decide +kernel) (by decide +kernel) hk1 hFc hP1 hD1
            clear hPc hDc hFc hP1 hD1 hk1 hz1 hkc hks
            generalize H1 = H at hP hS ⊢
            have hP : va_P D CL [(h0, .inr (7, [.ref im, .ref pr, .ref ra, .int cn, .int vw, .int wr])), (fo, .inr (2, [.ref a1, .ref a2, .int pa, .int de, .int so, .int si, .int se, .int mo, .int ow, .int gr, .int ln, .int tl, .int mk])), (a1, .inl (cB, 60, .inl lf)), (im, .inr (1, [.ref iq, .int L])), (iq, .inl (cB, n, .inl f))] H := hP
            have hD : va_D A [(h0, .inr (7, [.ref im, .ref pr, .ref ra, .int cn, .int vw, .int wr])), (fo, .inr (2, [.ref a1, .ref a2, .int pa, .int de, .int so, .int si, .int se, .int mo, .int ow, .int gr, .int ln, .int tl, .int mk])), (a1, .inl (cB, 60, .inl lf)), (im, .inr (1, [.ref iq, .int L])), (iq, .inl (cB, n, .inl f))] := hD
            try dsimp only at hp_r28
            obtain ⟨hr_29, hv_30⟩ := hp_r28
            have hPc := hP.sub (ws' := [(fo, .inr (2, [.ref a1, .ref a2, .int pa, .int de, .int so, .int si, .int se, .int mo, .int ow, .int gr, .int ln, .int tl, .int mk])), (a1, .inl (cB, 60, .inl lf))]) [1, 2] rfl
            have hDc := hD.sub (ws' := [(fo, .inr (2, [.ref a1, .ref a2, .int pa, .int de, .int so, .int si, .int se, .int mo, .int ow, .int gr, .int ln, .int tl, .int mk])), (a1, .inl (cB, 60, .inl lf))]) [1, 2] (by decide +kernel) rfl
            have hFc := va_free (wc := [(fo, .inr (2, [.ref a1, .ref a2, .int pa, .int de, .int so, .int si, .int se, .int mo, .int ow, .int gr, .int ln, .int tl, .int mk])), (a1, .inl (cB, 60, .inl lf))]) hD hS hA [1, 2] rfl
            have hkc : 0 ≤ 0 := by decide
            have hks : 0 ≤ 0 := by decide
            refine va_callv (va_runV (C := "DiscMaker$Found") (As := [.int r28]) (rest := []) ⟨hx, hb, hml, hown, hts⟩ (c3_addToName l D cB cI cJ cZ cN cF H.size fo a1 a2 pa de so si se mo ow gr ln tl mk lf r28 (by (try dsimp only); first | assumption | omega | trivial)) (cwV 1 hts (lg_goodV k1308 k1309 k1310 k141 kc_Found_addToName) rfl rfl rfl (by decide +kernel) ⟨Nat.le_of_ble_eq_true rfl, Nat.le_of_ble_eq_true rfl⟩) ⟨fun a U g mk q => by obtain ⟨q0, q1, qP, qK, qN, qD⟩ := q; exact ⟨q0, q1, qP, va_K.moved (u := U) (U := U.calling g mk a) (Vm.Alike.refl U.vm) qK, qN.calling, qD⟩, va_recv hK hP (ci := 2) (q0 := 1) rfl rfl, fun U hU hW => ⟨rfl, by rw [hU], by rw [hU]; exact hPc, va_K.moved hW.alike hK, NN.warm hW hN, hDc.weaken (fun _ _ _ _ => trivial)⟩⟩ rfl rfl hl.1 rfl (lv_room (Nat.le_of_ble_eq_true rfl)) d_Reader_takeShortName_113 ⟨hkc, hks⟩) hS (fun q _ h => hFc q h) hFc (fun u t H1 locs ht hvm hp_r31 hB hz1 hk1 hS => ?_)
            obtain ⟨l2_32, g_33⟩ := u
            obtain ⟨hP1, hD1⟩ := hB
            rw [ht] at hP1
            obtain ⟨hP, hD⟩ := va_join (wr := [(h0, .inr (7, [.ref im, .ref pr, .ref ra, .int cn, .int vw, .int wr])), (im, .inr (1, [.ref iq, .int L])), (iq, .inl (cB, n, .inl f))]) (w1 := [(fo, .inr (2, [.ref a1, .ref a2, .int pa, .int de, .int so, .int si, .int se, .int mo, .int ow, .int gr, .int l2_32, .int tl, .int mk])), (a1, .inl (cB, 60, .inl g_33))]) hP hD [1, 2] [0, 3, 4] rfl rfl (by decide +kernel) (by decide +kernel) hk1 hFc hP1 hD1
            clear hPc hDc hFc hP1 hD1 hk1 hz1 hkc hks
            generalize H1 = H at hP hS ⊢
            have hP : va_P D CL [(h0, .inr (7, [.ref im, .ref pr, .ref ra, .int cn, .int vw, .int wr])), (im, .inr (1, [.ref iq, .int L])), (iq, .inl (cB, n, .inl f)), (fo, .inr (2, [.ref a1, .ref a2, .int pa, .int de, .int so, .int si, .int se, .int mo, .int ow, .int gr, .int l2_32, .int tl, .int mk])), (a1, .inl (cB, 60, .inl g_33))] H := hP
            have hD : va_D A [(h0, .inr (7, [.ref im, .ref pr, .ref ra, .int cn, .int vw, .int wr])), (im, .inr (1, [.ref iq, .int L])), (iq, .inl (cB, n, .inl f)), (fo, .inr (2, [.ref a1, .ref a2, .int pa, .int de, .int so, .int si, .int se, .int mo, .int ow, .int gr, .int l2_32, .int tl, .int mk])), (a1, .inl (cB, 60, .inl g_33))] := hD
            try dsimp only at hp_r31
            have hl2_34 := hp_r31
            obtain ⟨v35, e_v35⟩ : ∃ z : Int32, z = kx + 1 := ⟨_, rfl⟩
            refine lv_iinc (v := v35) hx hb d_Reader_takeShortName_116 hl (k := 4) rfl e_v35.symm (by decide +kernel) rfl (fun ls hl => ?_)
            have t_v35 : v35.toInt = kx.toInt + 1 := by rw [e_v35]; exact i_add rfl (by decide) (by omega) (by omega)
            have hl : lv_has ls 5 [(4, .int v35), (0, .ref h0), (1, .ref fo), (2, .int x), (3, .int en)] := hl
            refine lv_goto (tgt := 97) hx hb d_Reader_takeShortName_119 (by decide) ?_
            have hP := hP.sub (ws' := [(h0, .inr (7, [.ref im, .ref pr, .ref ra, .int cn, .int vw, .int wr])), (fo, .inr (2, [.ref a1, .ref a2, .int pa, .int de, .int so, .int si, .int se, .int mo, .int ow, .int gr, .int l2_32, .int tl, .int mk])), (a1, .inl (cB, 60, .inl g_33)), (im, .inr (1, [.ref iq, .int L])), (iq, .inl (cB, n, .inl f))]) [0, 3, 4, 1, 2] rfl
            have hD := hD.sub (ws' := [(h0, .inr (7, [.ref im, .ref pr, .ref ra, .int cn, .int vw, .int wr])), (fo, .inr (2, [.ref a1, .ref a2, .int pa, .int de, .int so, .int si, .int se, .int mo, .int ow, .int gr, .int l2_32, .int tl, .int mk])), (a1, .inl (cB, 60, .inl g_33)), (im, .inr (1, [.ref iq, .int L])), (iq, .inl (cB, n, .inl f))]) [0, 3, 4, 1, 2] (by decide +kernel) rfl
            have hl := lv_sub hl [1, 2, 3, 4, 0] rfl
            exact ih97 _ (by first | omega | (dsimp only; omega)) v35 l2_32 g_33 _ _ _ rfl ((by (try dsimp only); first | assumption | omega | trivial)) ((by (try dsimp only); first | assumption | omega | trivial)) hP hD hS hl
        · skip
          intro kk97
          have hP := hP.sub (ws' := [(h0, .inr (7, [.ref im, .ref pr, .ref ra, .int cn, .int vw, .int wr])), (fo, .inr (2, [.ref a1, .ref a2, .int pa, .int de, .int so, .int si, .int se, .int mo, .int ow, .int gr, .int nl, .int tl, .int mk])), (a1, .inl (cB, 60, .inl f1)), (im, .inr (1, [.ref iq, .int L])), (iq, .inl (cB, n, .inl f))]) [0, 1, 2, 3, 4] rfl
          have hD := hD.sub (ws' := [(h0, .inr (7, [.ref im, .ref pr, .ref ra, .int cn, .int vw, .int wr])), (fo, .inr (2, [.ref a1, .ref a2, .int pa, .int de, .int so, .int si, .int se, .int mo, .int ow, .int gr, .int nl, .int tl, .int mk])), (a1, .inl (cB, 60, .inl f1)), (im, .inr (1, [.ref iq, .int L])), (iq, .inl (cB, n, .inl f))]) [0, 1, 2, 3, 4] (by decide +kernel) rfl
          have hl := lv_sub hl [1, 2, 3, 4, 0] rfl
          exact kk97 _ v24 nl f1 _ _ _ rfl ((by (try dsimp only); first | assumption | omega | trivial)) ((by (try dsimp only); first | assumption | omega | trivial)) hP hD hS hl
      · skip
        have g85_48 : r21.toInt = 46 := (i_eq rfl (by decide)).mp h_9
        obtain ⟨v36, e_v36⟩ : ∃ z : Int32, z = en + (-1) := ⟨_, rfl⟩
        refine lv_iinc (v := v36) hx hb d_Reader_takeShortName_88 hl (k := 3) rfl e_v36.symm (by decide +kernel) rfl (fun ls hl => ?_)
        have t_v36 : v36.toInt = en.toInt + (-1) := by rw [e_v36]; exact i_add rfl (by decide) (by omega) (by omega)
        have hl : lv_has ls 5 [(3, .int v36), (0, .ref h0), (1, .ref fo), (2, .int x)] := hl
        refine lv_iload_n hx hb d_Reader_takeShortName_91 rfl (lv_at hl 3 rfl) ?_
        refine lv_bipush (v := 33) hx hb d_Reader_takeShortName_92 (by decide) ?_
        refine lv_iadd hx hb d_Reader_takeShortName_94 ?_
        refine lv_topi (fun v37 e_v37 => ?_)
        have t_v37 : v37.toInt = x.toInt + 33 := by rw [e_v37]; exact i_add rfl (by decide) (by omega) (by omega)
        refine lv_istore hx hb d_Reader_takeShortName_95 hl (by decide) rfl (fun ls hl => ?_)
        have hl : lv_has ls 5 [(4, .int v37), (3, .int v36), (0, .ref h0), (1, .ref fo), (2, .int x)] := hl
        refine zz_labM (B := fun (lk : Nat) (K : Heap → List Loc → Array Slot → List Value → Prop) => ∀ (kx : Int32) (ln : Int32) (lf : Nat → Int32) (H : Heap) (locs : List Loc) (ls : Array Slot), lk = (x.toInt + 400 - kx.toInt).toNat → (x.toInt + 33 ≤ kx.toInt ∧ kx.toInt ≤ x.toInt + 400) → (0 ≤ ln.toInt ∧ ln.toInt ≤ 60 + (kx.toInt - x.toInt)) → va_P D CL [(h0, .inr (7, [.ref im, .ref pr, .ref ra, .int cn, .int vw, .int wr])), (fo, .inr (2, [.ref a1, .ref a2, .int pa, .int de, .int so, .int si, .int se, .int mo, .int ow, .int gr, .int ln, .int tl, .int mk])), (a1, .inl (cB, 60, .inl lf)), (im, .inr (1, [.ref iq, .int L])), (iq, .inl (cB, n, .inl f))] H → va_D A [(h0, .inr (7, [.ref im, .ref pr, .ref ra, .int cn, .int vw, .int wr])), (fo, .inr (2, [.ref a1, .ref a2, .int pa, .int de, .int so, .int si, .int se, .int mo, .int ow, .int gr, .int ln, .int tl, .int mk])), (a1, .inl (cB, 60, .inl lf)), (im, .inr (1, [.ref iq, .int L])), (iq, .inl (cB, n, .inl f))] → va_S A s.heap H locs → lv_has ls 5 [(0, .ref h0), (1, .ref fo), (2, .int x), (3, .int v36), (4, .int kx)] → K H locs ls []) 97 ?_ ?_
        · skip
          intro lk ih97 kx ln lf H locs ls hm97 e3 e4 hP hD hS hl
          refine lv_iload hx hb d_Reader_takeShortName_97 (lv_at hl 4 rfl) ?_
          refine lv_iload_n hx hb d_Reader_takeShortName_99 rfl (lv_at hl 3 rfl) ?_
          refine lv_icmp_ge (tgt := 122) hx hb d_Reader_takeShortName_100 (by decide) (fun h_9 => ?_) (fun h_9 => ?_)
          · skip
            have g100_80 : v36.toInt ≤ kx.toInt := (i_le rfl rfl).mp h_9
            refine lv_aload_n hx hb d_Reader_takeShortName_122 rfl (lv_at hl 1 rfl) ?_
            have hPc := hP.sub (ws' := [(fo, .inr (2, [.ref a1, .ref a2, .int pa, .int de, .int so, .int si, .int se, .int mo, .int ow, .int gr, .int ln, .int tl, .int mk])), (a1, .inl (cB, 60, .inl lf))]) [1, 2] rfl
            have hDc := hD.sub (ws' := [(fo, .inr (2, [.ref a1, .ref a2, .int pa, .int de, .int so, .int si, .int se, .int mo, .int ow, .int gr, .int ln, .int tl, .int mk])), (a1, .inl (cB, 60, .inl lf))]) [1, 2] (by decide +kernel) rfl
            have hFc := va_free (wc := [(fo, .inr (2, [.ref a1, .ref a2, .int pa, .int de, .int so, .int si, .int se, .int mo, .int ow, .int gr, .int ln, .int tl, .int mk])), (a1, .inl (cB, 60, .inl lf))]) hD hS hA [1, 2] rfl
            have hkc : 0 ≤ 0 := by decide
            have hks : 0 ≤ 0 := by decide
            refine va_calli (va_runV (C := "DiscMaker$Found") (As := []) (rest := []) ⟨hx, hb, hml, hown, hts⟩ (c3_isNameTooLong l D cB cI cJ cZ cN cF H.size fo a1 a2 pa de so si se mo ow gr ln tl mk lf) (cwV 0 hts (lg_goodV k1312 k1313 k1314 k141 kc_Found_isNameTooLong) rfl rfl rfl (by decide +kernel) ⟨Nat.le_of_ble_eq_true rfl, Nat.le_of_ble_eq_true rfl⟩) ⟨fun a U g mk q => by obtain ⟨q0, q1, qP, qK, qN, qD⟩ := q; exact ⟨q0, q1, qP, va_K.moved (u := U) (U := U.calling g mk a) (Vm.Alike.refl U.vm) qK, qN.calling, qD⟩, va_recv hK hP (ci := 2) (q0 := 1) rfl rfl, fun U hU hW => ⟨rfl, by rw [hU], by rw [hU]; exact hPc, va_K.moved hW.alike hK, NN.warm hW hN, hDc.weaken (fun _ _ _ _ => trivial)⟩⟩ rfl rfl hl.1 rfl (lv_room (Nat.le_of_ble_eq_true rfl)) d_Reader_takeShortName_123 ⟨hkc, hks⟩) hS (fun q _ h => hFc q h) hFc (fun r38 u t H1 locs ht hvm hp_r38 hB hz1 hk1 hS => ?_)
            obtain ⟨hP1, hD1⟩ := hB
            rw [ht] at hP1
            obtain ⟨hP, hD⟩ := va_join (wr := [(h0, .inr (7, [.ref im, .ref pr, .ref ra, .int cn, .int vw, .int wr])), (im, .inr (1, [.ref iq, .int L])), (iq, .inl (cB, n, .inl f))]) (w1 := [(fo, .inr (2, [.ref a1, .ref a2, .int pa, .int de, .int so, .int si, .int se, .int mo, .int ow, .int gr, .int ln, .int tl, .int mk])), (a1, .inl (cB, 60, .inl lf))]) hP hD [1, 2] [0, 3, 4] rfl rfl (by decide +kernel) (by decide +kernel) hk1 hFc hP1 hD1
            clear hPc hDc hFc hP1 hD1 hk1 hz1 hkc hks
            generalize H1 = H at hP hS ⊢
            have hP : va_P D CL [(h0, .inr (7, [.ref im, .ref pr, .ref ra, .int cn, .int vw, .int wr])), (im, .inr (1, [.ref iq, .int L])), (iq, .inl (cB, n, .inl f)), (fo, .inr (2, [.ref a1, .ref a2, .int pa, .int de, .int so, .int si, .int se, .int mo, .int ow, .int gr, .int ln, .int tl, .int mk])), (a1, .inl (cB, 60, .inl lf))] H := hP
            have hD : va_D A [(h0, .inr (7, [.ref im, .ref pr, .ref ra, .int cn, .int vw, .int wr])), (im, .inr (1, [.ref iq, .int L])), (iq, .inl (cB, n, .inl f)), (fo, .inr (2, [.ref a1, .ref a2, .int pa, .int de, .int so, .int si, .int se, .int mo, .int ow, .int gr, .int ln, .int tl, .int mk])), (a1, .inl (cB, 60, .inl lf))] := hD
            try dsimp only at hp_r38
            obtain ⟨hr_39, hv_40⟩ := hp_r38
            refine lv_if_ne (tgt := 133) hx hb d_Reader_takeShortName_126 (by decide) (fun h_9 => ?_) (fun h_9 => ?_)
            · skip
              have g126_83 : ¬ r38.toInt = 0 := fun h8 => h_9 ((i_eq rfl (by decide)).mpr h8)
              refine lv_iconst (v := 0) hx hb d_Reader_takeShortName_133 (by decide) ?_
              have hP9 := hP.sub (ws' := [(h0, .inr (7, [.ref im, .ref pr, .ref ra, .int cn, .int vw, .int wr])), (im, .inr (1, [.ref iq, .int L])), (iq, .inl (cB, n, .inl f)), (fo, .inr (2, [.ref a1, .ref a2, .int pa, .int de, .int so, .int si, .int se, .int mo, .int ow, .int gr, .int ln, .int tl, .int mk])), (a1, .inl (cB, 60, .inl lf))]) [0, 1, 2, 3, 4] rfl
              have hD9 := hD.sub (ws' := [(h0, .inr (7, [.ref im, .ref pr, .ref ra, .int cn, .int vw, .int wr])), (im, .inr (1, [.ref iq, .int L])), (iq, .inl (cB, n, .inl f)), (fo, .inr (2, [.ref a1, .ref a2, .int pa, .int de, .int so, .int si, .int se, .int mo, .int ow, .int gr, .int ln, .int tl, .int mk])), (a1, .inl (cB, 60, .inl lf))]) [0, 1, 2, 3, 4] (by decide +kernel) rfl
              exact W.zret (v := 0) hx hb hr (by first | rfl | decide | exact i_narZ (by omega)) (fun t ht hW => ⟨⟨0, (ln, lf), rfl, ⟨(by (try dsimp only); first | assumption | omega | trivial), (by (try dsimp only); intro h7; first | (exfalso; omega) | omega | assumption)⟩, by rw [ht]; exact hP9, hD9⟩, hS.F ht⟩) hS.2.2 d_Reader_takeShortName_134
            · skip
              have g126_83 : r38.toInt = 0 := (i_eq rfl (by decide)).mp h_9
              refine lv_iconst (v := 1) hx hb d_Reader_takeShortName_129 (by decide) ?_
              refine lv_goto (tgt := 134) hx hb d_Reader_takeShortName_130 (by decide) ?_
              have hP9 := hP.sub (ws' := [(h0, .inr (7, [.ref im, .ref pr, .ref ra, .int cn, .int vw, .int wr])), (im, .inr (1, [.ref iq, .int L])), (iq, .inl (cB, n, .inl f)), (fo, .inr (2, [.ref a1, .ref a2, .int pa, .int de, .int so, .int si, .int se, .int mo, .int ow, .int gr, .int ln, .int tl, .int mk])), (a1, .inl (cB, 60, .inl lf))]) [0, 1, 2, 3, 4] rfl
              have hD9 := hD.sub (ws' := [(h0, .inr (7, [.ref im, .ref pr, .ref ra, .int cn, .int vw, .int wr])), (im, .inr (1, [.ref iq, .int L])), (iq, .inl (cB, n, .inl f)), (fo, .inr (2, [.ref a1, .ref a2, .int pa, .int de, .int so, .int si, .int se, .int mo, .int ow, .int gr, .int ln, .int tl, .int mk])), (a1, .inl (cB, 60, .inl lf))]) [0, 1, 2, 3, 4] (by decide +kernel) rfl
              exact W.zret (v := 1) hx hb hr (by first | rfl | decide | exact i_narZ (by omega)) (fun t ht hW => ⟨⟨1, (ln, lf), rfl, ⟨(by (try dsimp only); first | assumption | omega | trivial), (by (try dsimp only); intro h7; first | (exfalso; omega) | omega | assumption)⟩, by rw [ht]; exact hP9, hD9⟩, hS.F ht⟩) hS.2.2 d_Reader_takeShortName_134
          · skip
            have g100_80 : ¬ v36.toInt ≤ kx.toInt := fun h8 => h_9 ((i_le rfl rfl).mpr h8)
            refine lv_aload_n hx hb d_Reader_takeShortName_103 rfl (lv_at hl 1 rfl) ?_
            refine lv_aload_n hx hb d_Reader_takeShortName_104 rfl (lv_at hl 0 rfl) ?_
            refine va_get (D := D) (ci := 7) (v := .ref im) (C := "DiscMaker$Reader") (T := F_Reader) (N := 6) hx hb ht9 in_Reader hown hK hP 0 rfl rfl 0 (by decide) (ht9 _ k412) (fun _ h9 => h9) rfl d_Reader_takeShortName_105 ?_
            refine lv_iload hx hb d_Reader_takeShortName_108 (lv_at hl 4 rfl) ?_
            have hPc := hP.sub (ws' := [(im, .inr (1, [.ref iq, .int L])), (iq, .inl (cB, n, .inl f))]) [3, 4] rfl
            have hDc := hD.sub (ws' := [(im, .inr (1, [.ref iq, .int L])), (iq, .inl (cB, n, .inl f))]) [3, 4] (by decide +kernel) rfl
            have hFc := va_free (wc := [(im, .inr (1, [.ref iq, .int L])), (iq, .inl (cB, n, .inl f))]) hD hS hA [3, 4] rfl
            have hkc : 0 ≤ 0 := by decide
            have hks : 0 ≤ 0 := by decide
            refine va_calli (va_runV (C := "DiscMaker$Bytes") (As := [.int kx]) (rest := [.ref fo]) ⟨hx, hb, hml, hown, hts⟩ (c3_at l D cB cI cJ cZ cN cF H.size im iq n L f kx (by (try dsimp only); first | assumption | omega | trivial) (by (try dsimp only); first | assumption | omega | trivial)) (cwV 1 hts (lg_goodV k1179 k1065 k1066 k119 kc_Bytes_at) rfl rfl rfl (by decide +kernel) ⟨Nat.le_of_ble_eq_true rfl, Nat.le_of_ble_eq_true rfl⟩) ⟨fun a U g mk q => by obtain ⟨q0, q1, qP, qK, qN, qD⟩ := q; exact ⟨q0, q1, qP, va_K.moved (u := U) (U := U.calling g mk a) (Vm.Alike.refl U.vm) qK, qN.calling, qD⟩, va_recv hK hP (ci := 1) (q0 := 3) rfl rfl, fun U hU hW => ⟨rfl, by rw [hU], by rw [hU]; exact hPc, va_K.moved hW.alike hK, NN.warm hW hN, hDc.weaken (fun _ _ _ _ => trivial)⟩⟩ rfl rfl hl.1 rfl (lv_room (Nat.le_of_ble_eq_true rfl)) d_Reader_takeShortName_110 ⟨hkc, hks⟩) hS (fun q _ h => hFc q h) hFc (fun r41 u t H1 locs ht hvm hp_r41 hB hz1 hk1 hS => ?_)
            obtain ⟨hP1, hD1⟩ := hB
            rw [ht] at hP1
            obtain ⟨hP, hD⟩ := va_join (wr := [(h0, .inr (7, [.ref im, .ref pr, .ref ra, .int cn, .int vw, .int wr])), (fo, .inr (2, [.ref a1, .ref a2, .int pa, .int de, .int so, .int si, .int se, .int mo, .int ow, .int gr, .int ln, .int tl, .int mk])), (a1, .inl (cB, 60, .inl lf))]) (w1 := [(im, .inr (1, [.ref iq, .int L])), (iq, .inl (cB, n, .inl f))]) hP hD [3, 4] [0, 1, 2] rfl rfl (by decide +kernel) (by decide +kernel) hk1 hFc hP1 hD1
            clear hPc hDc hFc hP1 hD1 hk1 hz1 hkc hks
            generalize H1 = H at hP hS ⊢
            have hP : va_P D CL [(h0, .inr (7, [.ref im, .ref pr, .ref ra, .int cn, .int vw, .int wr])), (fo, .inr (2, [.ref a1, .ref a2, .int pa, .int de, .int so, .int si, .int se, .int mo, .int ow, .int gr, .int ln, .int tl, .int mk])), (a1, .inl (cB, 60, .inl lf)), (im, .inr (1, [.ref iq, .int L])), (iq, .inl (cB, n, .inl f))] H := hP
            have hD : va_D A [(h0, .inr (7, [.ref im, .ref pr, .ref ra, .int cn, .int vw, .int wr])), (fo, .inr (2, [.ref a1, .ref a2, .int pa, .int de, .int so, .int si, .int se, .int mo, .int ow, .int gr, .int ln, .int tl, .int mk])), (a1, .inl (cB, 60, .inl lf)), (im, .inr (1, [.ref iq, .int L])), (iq, .inl (cB, n, .inl f))] := hD
            try dsimp only at hp_r41
            obtain ⟨hr_42, hv_43⟩ := hp_r41
            have hPc := hP.sub (ws' := [(fo, .inr (2, [.ref a1, .ref a2, .int pa, .int de, .int so, .int si, .int se, .int mo, .int ow, .int gr, .int ln, .int tl, .int mk])), (a1, .inl (cB, 60, .inl lf))]) [1, 2] rfl
            have hDc := hD.sub (ws' := [(fo, .inr (2, [.ref a1, .ref a2, .int pa, .int de, .int so, .int si, .int se, .int mo, .int ow, .int gr, .int ln, .int tl, .int mk])), (a1, .inl (cB, 60, .inl lf))]) [1, 2] (by decide +kernel) rfl
            have hFc := va_free (wc := [(fo, .inr (2, [.ref a1, .ref a2, .int pa, .int de, .int so, .int si, .int se, .int mo, .int ow, .int gr, .int ln, .int tl, .int mk])), (a1, .inl (cB, 60, .inl lf))]) hD hS hA [1, 2] rfl
            have hkc : 0 ≤ 0 := by decide
            have hks : 0 ≤ 0 := by decide
            refine va_callv (va_runV (C := "DiscMaker$Found") (As := [.int r41]) (rest := []) ⟨hx, hb, hml, hown, hts⟩ (c3_addToName l D cB cI cJ cZ cN cF H.size fo a1 a2 pa de so si se mo ow gr ln tl mk lf r41 (by (try dsimp only); first | assumption | omega | trivial)) (cwV 1 hts (lg_goodV k1308 k1309 k1310 k141 kc_Found_addToName) rfl rfl rfl (by decide +kernel) ⟨Nat.le_of_ble_eq_true rfl, Nat.le_of_ble_eq_true rfl⟩) ⟨fun a U g mk q => by obtain ⟨q0, q1, qP, qK, qN, qD⟩ := q; exact ⟨q0, q1, qP, va_K.moved (u := U) (U := U.calling g mk a) (Vm.Alike.refl U.vm) qK, qN.calling, qD⟩, va_recv hK hP (ci := 2) (q0 := 1) rfl rfl, fun U hU hW => ⟨rfl, by rw [hU], by rw [hU]; exact hPc, va_K.moved hW.alike hK, NN.warm hW hN, hDc.weaken (fun _ _ _ _ => trivial)⟩⟩ rfl rfl hl.1 rfl (lv_room (Nat.le_of_ble_eq_true rfl)) d_Reader_takeShortName_113 ⟨hkc, hks⟩) hS (fun q _ h => hFc q h) hFc (fun u t H1 locs ht hvm hp_r44 hB hz1 hk1 hS => ?_)
            obtain ⟨l2_45, g_46⟩ := u
            obtain ⟨hP1, hD1⟩ := hB
            rw [ht] at hP1
            obtain ⟨hP, hD⟩ := va_join (wr := [(h0, .inr (7, [.ref im, .ref pr, .ref ra, .int cn, .int vw, .int wr])), (im, .inr (1, [.ref iq, .int L])), (iq, .inl (cB, n, .inl f))]) (w1 := [(fo, .inr (2, [.ref a1, .ref a2, .int pa, .int de, .int so, .int si, .int se, .int mo, .int ow, .int gr, .int l2_45, .int tl, .int mk])), (a1, .inl (cB, 60, .inl g_46))]) hP hD [1, 2] [0, 3, 4] rfl rfl (by decide +kernel) (by decide +kernel) hk1 hFc hP1 hD1
            clear hPc hDc hFc hP1 hD1 hk1 hz1 hkc hks
            generalize H1 = H at hP hS ⊢
            have hP : va_P D CL [(h0, .inr (7, [.ref im, .ref pr, .ref ra, .int cn, .int vw, .int wr])), (im, .inr (1, [.ref iq, .int L])), (iq, .inl (cB, n, .inl f)), (fo, .inr (2, [.ref a1, .ref a2, .int pa, .int de, .int so, .int si, .int se, .int mo, .int ow, .int gr, .int l2_45, .int tl, .int mk])), (a1, .inl (cB, 60, .inl g_46))] H := hP
            have hD : va_D A [(h0, .inr (7, [.ref im, .ref pr, .ref ra, .int cn, .int vw, .int wr])), (im, .inr (1, [.ref iq, .int L])), (iq, .inl (cB, n, .inl f)), (fo, .inr (2, [.ref a1, .ref a2, .int pa, .int de, .int so, .int si, .int se, .int mo, .int ow, .int gr, .int l2_45, .int tl, .int mk])), (a1, .inl (cB, 60, .inl g_46))] := hD
            try dsimp only at hp_r44
            have hl2_47 := hp_r44
            obtain ⟨v48, e_v48⟩ : ∃ z : Int32, z = kx + 1 := ⟨_, rfl⟩
            refine lv_iinc (v := v48) hx hb d_Reader_takeShortName_116 hl (k := 4) rfl e_v48.symm (by decide +kernel) rfl (fun ls hl => ?_)
            have t_v48 : v48.toInt = kx.toInt + 1 := by rw [e_v48]; exact i_add rfl (by decide) (by omega) (by omega)
            have hl : lv_has ls 5 [(4, .int v48), (0, .ref h0), (1, .ref fo), (2, .int x), (3, .int v36)] := hl
            refine lv_goto (tgt := 97) hx hb d_Reader_takeShortName_119 (by decide) ?_
            have hP := hP.sub (ws' := [(h0, .inr (7, [.ref im, .ref pr, .ref ra, .int cn, .int vw, .int wr])), (fo, .inr (2, [.ref a1, .ref a2, .int pa, .int de, .int so, .int si, .int se, .int mo, .int ow, .int gr, .int l2_45, .int tl, .int mk])), (a1, .inl (cB, 60, .inl g_46)), (im, .inr (1, [.ref iq, .int L])), (iq, .inl (cB, n, .inl f))]) [0, 3, 4, 1, 2] rfl
            have hD := hD.sub (ws' := [(h0, .inr (7, [.ref im, .ref pr, .ref ra, .int cn, .int vw, .int wr])), (fo, .inr (2, [.ref a1, .ref a2, .int pa, .int de, .int so, .int si, .int se, .int mo, .int ow, .int gr, .int l2_45, .int tl, .int mk])), (a1, .inl (cB, 60, .inl g_46)), (im, .inr (1, [.ref iq, .int L])), (iq, .inl (cB, n, .inl f))]) [0, 3, 4, 1, 2] (by decide +kernel) rfl
            have hl := lv_sub hl [1, 2, 3, 4, 0] rfl
            exact ih97 _ (by first | omega | (dsimp only; omega)) v48 l2_45 g_46 _ _ _ rfl ((by (try dsimp only); first | assumption | omega | trivial)) ((by (try dsimp only); first | assumption | omega | trivial)) hP hD hS hl
        · skip
          intro kk97
          have hP := hP.sub (ws' := [(h0, .inr (7, [.ref im, .ref pr, .ref ra, .int cn, .int vw, .int wr])), (fo, .inr (2, [.ref a1, .ref a2, .int pa, .int de, .int so, .int si, .int se, .int mo, .int ow, .int gr, .int nl, .int tl, .int mk])), (a1, .inl (cB, 60, .inl f1)), (im, .inr (1, [.ref iq, .int L])), (iq, .inl (cB, n, .inl f))]) [0, 1, 2, 3, 4] rfl
          have hD := hD.sub (ws' := [(h0, .inr (7, [.ref im, .ref pr, .ref ra, .int cn, .int vw, .int wr])), (fo, .inr (2, [.ref a1, .ref a2, .int pa, .int de, .int so, .int si, .int se, .int mo, .int ow, .int gr, .int nl, .int tl, .int mk])), (a1, .inl (cB, 60, .inl f1)), (im, .inr (1, [.ref iq, .int L])), (iq, .inl (cB, n, .inl f))]) [0, 1, 2, 3, 4] (by decide +kernel) rfl
          have hl := lv_sub hl [2, 3, 4, 1, 0] rfl
          exact kk97 _ v37 nl f1 _ _ _ rfl ((by (try dsimp only); first | assumption | omega | trivial)) ((by (try dsimp only); first | assumption | omega | trivial)) hP hD hS hl
  · skip
    intro kk65
    refine lv_aload_n hx hb d_Reader_takeShortName_17 rfl (lv_at hl 1 rfl) ?_
    refine va_get (D := D) (ci := 7) (v := .ref im) (C := "DiscMaker$Reader") (T := F_Reader) (N := 6) hx hb ht9 in_Reader hown hK hP 0 rfl rfl 0 (by decide) (ht9 _ k412) (fun _ h9 => h9) rfl d_Reader_takeShortName_18 ?_
    refine lv_iload_n hx hb d_Reader_takeShortName_21 rfl (lv_at hl 3 rfl) ?_
    refine lv_bipush (v := 32) hx hb d_Reader_takeShortName_22 (by decide) ?_
    refine lv_iadd hx hb d_Reader_takeShortName_24 ?_
    refine lv_topi (fun v49 e_v49 => ?_)
    have t_v49 : v49.toInt = x.toInt + 32 := by rw [e_v49]; exact i_add rfl (by decide) (by omega) (by omega)
    have hPc := hP.sub (ws' := [(im, .inr (1, [.ref iq, .int L])), (iq, .inl (cB, n, .inl f))]) [3, 4] rfl
    have hDc := hD.sub (ws' := [(im, .inr (1, [.ref iq, .int L])), (iq, .inl (cB, n, .inl f))]) [3, 4] (by decide +kernel) rfl
    have hFc := va_free (wc := [(im, .inr (1, [.ref iq, .int L])), (iq, .inl (cB, n, .inl f))]) hD hS hA [3, 4] rfl
    have hkc : 0 ≤ 0 := by decide
    have hks : 0 ≤ 0 := by decide
    refine va_calli (va_runV (C := "DiscMaker$Bytes") (As := [.int v49]) (rest := []) ⟨hx, hb, hml, hown, hts⟩ (c3_at l D cB cI cJ cZ cN cF H.size im iq n L f v49 (by (try dsimp only); first | assumption | omega | trivial) (by (try dsimp only); first | assumption | omega | trivial)) (cwV 1 hts (lg_goodV k1179 k1065 k1066 k119 kc_Bytes_at) rfl rfl rfl (by decide +kernel) ⟨Nat.le_of_ble_eq_true rfl, Nat.le_of_ble_eq_true rfl⟩) ⟨fun a U g mk q => by obtain ⟨q0, q1, qP, qK, qN, qD⟩ := q; exact ⟨q0, q1, qP, va_K.moved (u := U) (U := U.calling g mk a) (Vm.Alike.refl U.vm) qK, qN.calling, qD⟩, va_recv hK hP (ci := 1) (q0 := 3) rfl rfl, fun U hU hW => ⟨rfl, by rw [hU], by rw [hU]; exact hPc, va_K.moved hW.alike hK, NN.warm hW hN, hDc.weaken (fun _ _ _ _ => trivial)⟩⟩ rfl rfl hl.1 rfl (lv_room (Nat.le_of_ble_eq_true rfl)) d_Reader_takeShortName_25 ⟨hkc, hks⟩) hS (fun q _ h => hFc q h) hFc (fun r50 u t H1 locs ht hvm hp_r50 hB hz1 hk1 hS => ?_)
    obtain ⟨hP1, hD1⟩ := hB
    rw [ht] at hP1
    obtain ⟨hP, hD⟩ := va_join (wr := [(h0, .inr (7, [.ref im, .ref pr, .ref ra, .int cn, .int vw, .int wr])), (fo, .inr (2, [.ref a1, .ref a2, .int pa, .int de, .int so, .int si, .int se, .int mo, .int ow, .int gr, .int nl, .int tl, .int mk])), (a1, .inl (cB, 60, .inl f1))]) (w1 := [(im, .inr (1, [.ref iq, .int L])), (iq, .inl (cB, n, .inl f))]) hP hD [3, 4] [0, 1, 2] rfl rfl (by decide +kernel) (by decide +kernel) hk1 hFc hP1 hD1
    clear hPc hDc hFc hP1 hD1 hk1 hz1 hkc hks
    generalize H1 = H at hP hS ⊢
    have hP : va_P D CL [(h0, .inr (7, [.ref im, .ref pr, .ref ra, .int cn, .int vw, .int wr])), (fo, .inr (2, [.ref a1, .ref a2, .int pa, .int de, .int so, .int si, .int se, .int mo, .int ow, .int gr, .int nl, .int tl, .int mk])), (a1, .inl (cB, 60, .inl f1)), (im, .inr (1, [.ref iq, .int L])), (iq, .inl (cB, n, .inl f))] H := hP
    have hD : va_D A [(h0, .inr (7, [.ref im, .ref pr, .ref ra, .int cn, .int vw, .int wr])), (fo, .inr (2, [.ref a1, .ref a2, .int pa, .int de, .int so, .int si, .int se, .int mo, .int ow, .int gr, .int nl, .int tl, .int mk])), (a1, .inl (cB, 60, .inl f1)), (im, .inr (1, [.ref iq, .int L])), (iq, .inl (cB, n, .inl f))] := hD
    try dsimp only at hp_r50
    obtain ⟨hr_51, hv_52⟩ := hp_r50
    refine lv_iconst (v := 2) hx hb d_Reader_takeShortName_28 (by decide) ?_
    refine lv_icmp_lt (tgt := 65) hx hb d_Reader_takeShortName_29 (by decide) (fun h_9 => ?_) (fun h_9 => ?_)
    · skip
      have g29_105 : r50.toInt < 2 := (i_lt rfl (by decide)).mp h_9
      have hP := hP.sub (ws' := [(h0, .inr (7, [.ref im, .ref pr, .ref ra, .int cn, .int vw, .int wr])), (fo, .inr (2, [.ref a1, .ref a2, .int pa, .int de, .int so, .int si, .int se, .int mo, .int ow, .int gr, .int nl, .int tl, .int mk])), (a1, .inl (cB, 60, .inl f1)), (im, .inr (1, [.ref iq, .int L])), (iq, .inl (cB, n, .inl f))]) [0, 1, 2, 3, 4] rfl
      have hD := hD.sub (ws' := [(h0, .inr (7, [.ref im, .ref pr, .ref ra, .int cn, .int vw, .int wr])), (fo, .inr (2, [.ref a1, .ref a2, .int pa, .int de, .int so, .int si, .int se, .int mo, .int ow, .int gr, .int nl, .int tl, .int mk])), (a1, .inl (cB, 60, .inl f1)), (im, .inr (1, [.ref iq, .int L])), (iq, .inl (cB, n, .inl f))]) [0, 1, 2, 3, 4] (by decide +kernel) rfl
      have hl := lv_sub hl [1, 2, 3, 0] rfl
      exact kk65 _ v6 _ _ _ rfl ((by (try dsimp only); first | assumption | omega | trivial)) hP hD hS hl
    · skip
      have g29_105 : ¬ r50.toInt < 2 := fun h8 => h_9 ((i_lt rfl (by decide)).mpr h8)
      refine lv_aload_n hx hb d_Reader_takeShortName_32 rfl (lv_at hl 1 rfl) ?_
      refine va_get (D := D) (ci := 7) (v := .ref im) (C := "DiscMaker$Reader") (T := F_Reader) (N := 6) hx hb ht9 in_Reader hown hK hP 0 rfl rfl 0 (by decide) (ht9 _ k412) (fun _ h9 => h9) rfl d_Reader_takeShortName_33 ?_
      refine lv_iload_n hx hb d_Reader_takeShortName_36 rfl (lv_at hl 0 rfl) ?_
      refine lv_iconst (v := 2) hx hb d_Reader_takeShortName_37 (by decide) ?_
      refine lv_isub hx hb d_Reader_takeShortName_38 ?_
      refine lv_topi (fun v53 e_v53 => ?_)
      have t_v53 : v53.toInt = v6.toInt - 2 := by rw [e_v53]; exact i_sub rfl (by decide) (by omega) (by omega)
      have hPc := hP.sub (ws' := [(im, .inr (1, [.ref iq, .int L])), (iq, .inl (cB, n, .inl f))]) [3, 4] rfl
      have hDc := hD.sub (ws' := [(im, .inr (1, [.ref iq, .int L])), (iq, .inl (cB, n, .inl f))]) [3, 4] (by decide +kernel) rfl
      have hFc := va_free (wc := [(im, .inr (1, [.ref iq, .int L])), (iq, .inl (cB, n, .inl f))]) hD hS hA [3, 4] rfl
      have hkc : 0 ≤ 0 := by decide
      have hks : 0 ≤ 0 := by decide
      refine va_calli (va_runV (C := "DiscMaker$Bytes") (As := [.int v53]) (rest := []) ⟨hx, hb, hml, hown, hts⟩ (c3_at l D cB cI cJ cZ cN cF H.size im iq n L f v53 (by (try dsimp only); first | assumption | omega | trivial) (by (try dsimp only); first | assumption | omega | trivial)) (cwV 1 hts (lg_goodV k1179 k1065 k1066 k119 kc_Bytes_at) rfl rfl rfl (by decide +kernel) ⟨Nat.le_of_ble_eq_true rfl, Nat.le_of_ble_eq_true rfl⟩) ⟨fun a U g mk q => by obtain ⟨q0, q1, qP, qK, qN, qD⟩ := q; exact ⟨q0, q1, qP, va_K.moved (u := U) (U := U.calling g mk a) (Vm.Alike.refl U.vm) qK, qN.calling, qD⟩, va_recv hK hP (ci := 1) (q0 := 3) rfl rfl, fun U hU hW => ⟨rfl, by rw [hU], by rw [hU]; exact hPc, va_K.moved hW.alike hK, NN.warm hW hN, hDc.weaken (fun _ _ _ _ => trivial)⟩⟩ rfl rfl hl.1 rfl (lv_room (Nat.le_of_ble_eq_true rfl)) d_Reader_takeShortName_39 ⟨hkc, hks⟩) hS (fun q _ h => hFc q h) hFc (fun r54 u t H1 locs ht hvm hp_r54 hB hz1 hk1 hS => ?_)
      obtain ⟨hP1, hD1⟩ := hB
      rw [ht] at hP1
      obtain ⟨hP, hD⟩ := va_join (wr := [(h0, .inr (7, [.ref im, .ref pr, .ref ra, .int cn, .int vw, .int wr])), (fo, .inr (2, [.ref a1, .ref a2, .int pa, .int de, .int so, .int si, .int se, .int mo, .int ow, .int gr, .int nl, .int tl, .int mk])), (a1, .inl (cB, 60, .inl f1))]) (w1 := [(im, .inr (1, [.ref iq, .int L])), (iq, .inl (cB, n, .inl f))]) hP hD [3, 4] [0, 1, 2] rfl rfl (by decide +kernel) (by decide +kernel) hk1 hFc hP1 hD1
      clear hPc hDc hFc hP1 hD1 hk1 hz1 hkc hks
      generalize H1 = H at hP hS ⊢
      have hP : va_P D CL [(h0, .inr (7, [.ref im, .ref pr, .ref ra, .int cn, .int vw, .int wr])), (fo, .inr (2, [.ref a1, .ref a2, .int pa, .int de, .int so, .int si, .int se, .int mo, .int ow, .int gr, .int nl, .int tl, .int mk])), (a1, .inl (cB, 60, .inl f1)), (im, .inr (1, [.ref iq, .int L])), (iq, .inl (cB, n, .inl f))] H := hP
      have hD : va_D A [(h0, .inr (7, [.ref im, .ref pr, .ref ra, .int cn, .int vw, .int wr])), (fo, .inr (2, [.ref a1, .ref a2, .int pa, .int de, .int so, .int si, .int se, .int mo, .int ow, .int gr, .int nl, .int tl, .int mk])), (a1, .inl (cB, 60, .inl f1)), (im, .inr (1, [.ref iq, .int L])), (iq, .inl (cB, n, .inl f))] := hD
      try dsimp only at hp_r54
      obtain ⟨hr_55, hv_56⟩ := hp_r54
      refine lv_bipush (v := 59) hx hb d_Reader_takeShortName_42 (by decide) ?_
      refine lv_icmp_ne (tgt := 65) hx hb d_Reader_takeShortName_44 (by decide) (fun h_9 => ?_) (fun h_9 => ?_)
      · skip
        have g44_114 : ¬ r54.toInt = 59 := fun h8 => h_9 ((i_eq rfl (by decide)).mpr h8)
        have hP := hP.sub (ws' := [(h0, .inr (7, [.ref im, .ref pr, .ref ra, .int cn, .int vw, .int wr])), (fo, .inr (2, [.ref a1, .ref a2, .int pa, .int de, .int so, .int si, .int se, .int mo, .int ow, .int gr, .int nl, .int tl, .int mk])), (a1, .inl (cB, 60, .inl f1)), (im, .inr (1, [.ref iq, .int L])), (iq, .inl (cB, n, .inl f))]) [0, 1, 2, 3, 4] rfl
        have hD := hD.sub (ws' := [(h0, .inr (7, [.ref im, .ref pr, .ref ra, .int cn, .int vw, .int wr])), (fo, .inr (2, [.ref a1, .ref a2, .int pa, .int de, .int so, .int si, .int se, .int mo, .int ow, .int gr, .int nl, .int tl, .int mk])), (a1, .inl (cB, 60, .inl f1)), (im, .inr (1, [.ref iq, .int L])), (iq, .inl (cB, n, .inl f))]) [0, 1, 2, 3, 4] (by decide +kernel) rfl
        have hl := lv_sub hl [1, 2, 3, 0] rfl
        exact kk65 _ v6 _ _ _ rfl ((by (try dsimp only); first | assumption | omega | trivial)) hP hD hS hl
      · skip
        have g44_114 : r54.toInt = 59 := (i_eq rfl (by decide)).mp h_9
        refine lv_aload_n hx hb d_Reader_takeShortName_47 rfl (lv_at hl 1 rfl) ?_
        refine va_get (D := D) (ci := 7) (v := .ref im) (C := "DiscMaker$Reader") (T := F_Reader) (N := 6) hx hb ht9 in_Reader hown hK hP 0 rfl rfl 0 (by decide) (ht9 _ k412) (fun _ h9 => h9) rfl d_Reader_takeShortName_48 ?_
        refine lv_iload_n hx hb d_Reader_takeShortName_51 rfl (lv_at hl 0 rfl) ?_
        refine lv_iconst (v := 1) hx hb d_Reader_takeShortName_52 (by decide) ?_
        refine lv_isub hx hb d_Reader_takeShortName_53 ?_
        refine lv_topi (fun v57 e_v57 => ?_)
        have t_v57 : v57.toInt = v6.toInt - 1 := by rw [e_v57]; exact i_sub rfl (by decide) (by omega) (by omega)
        have hPc := hP.sub (ws' := [(im, .inr (1, [.ref iq, .int L])), (iq, .inl (cB, n, .inl f))]) [3, 4] rfl
        have hDc := hD.sub (ws' := [(im, .inr (1, [.ref iq, .int L])), (iq, .inl (cB, n, .inl f))]) [3, 4] (by decide +kernel) rfl
        have hFc := va_free (wc := [(im, .inr (1, [.ref iq, .int L])), (iq, .inl (cB, n, .inl f))]) hD hS hA [3, 4] rfl
        have hkc : 0 ≤ 0 := by decide
        have hks : 0 ≤ 0 := by decide
        refine va_calli (va_runV (C := "DiscMaker$Bytes") (As := [.int v57]) (rest := []) ⟨hx, hb, hml, hown, hts⟩ (c3_at l D cB cI cJ cZ cN cF H.size im iq n L f v57 (by (try dsimp only); first | assumption | omega | trivial) (by (try dsimp only); first | assumption | omega | trivial)) (cwV 1 hts (lg_goodV k1179 k1065 k1066 k119 kc_Bytes_at) rfl rfl rfl (by decide +kernel) ⟨Nat.le_of_ble_eq_true rfl, Nat.le_of_ble_eq_true rfl⟩) ⟨fun a U g mk q => by obtain ⟨q0, q1, qP, qK, qN, qD⟩ := q; exact ⟨q0, q1, qP, va_K.moved (u := U) (U := U.calling g mk a) (Vm.Alike.refl U.vm) qK, qN.calling, qD⟩, va_recv hK hP (ci := 1) (q0 := 3) rfl rfl, fun U hU hW => ⟨rfl, by rw [hU], by rw [hU]; exact hPc, va_K.moved hW.alike hK, NN.warm hW hN, hDc.weaken (fun _ _ _ _ => trivial)⟩⟩ rfl rfl hl.1 rfl (lv_room (Nat.le_of_ble_eq_true rfl)) d_Reader_takeShortName_54 ⟨hkc, hks⟩) hS (fun q _ h => hFc q h) hFc (fun r58 u t H1 locs ht hvm hp_r58 hB hz1 hk1 hS => ?_)
        obtain ⟨hP1, hD1⟩ := hB
        rw [ht] at hP1
        obtain ⟨hP, hD⟩ := va_join (wr := [(h0, .inr (7, [.ref im, .ref pr, .ref ra, .int cn, .int vw, .int wr])), (fo, .inr (2, [.ref a1, .ref a2, .int pa, .int de, .int so, .int si, .int se, .int mo, .int ow, .int gr, .int nl, .int tl, .int mk])), (a1, .inl (cB, 60, .inl f1))]) (w1 := [(im, .inr (1, [.ref iq, .int L])), (iq, .inl (cB, n, .inl f))]) hP hD [3, 4] [0, 1, 2] rfl rfl (by decide +kernel) (by decide +kernel) hk1 hFc hP1 hD1
        clear hPc hDc hFc hP1 hD1 hk1 hz1 hkc hks
        generalize H1 = H at hP hS ⊢
        have hP : va_P D CL [(h0, .inr (7, [.ref im, .ref pr, .ref ra, .int cn, .int vw, .int wr])), (fo, .inr (2, [.ref a1, .ref a2, .int pa, .int de, .int so, .int si, .int se, .int mo, .int ow, .int gr, .int nl, .int tl, .int mk])), (a1, .inl (cB, 60, .inl f1)), (im, .inr (1, [.ref iq, .int L])), (iq, .inl (cB, n, .inl f))] H := hP
        have hD : va_D A [(h0, .inr (7, [.ref im, .ref pr, .ref ra, .int cn, .int vw, .int wr])), (fo, .inr (2, [.ref a1, .ref a2, .int pa, .int de, .int so, .int si, .int se, .int mo, .int ow, .int gr, .int nl, .int tl, .int mk])), (a1, .inl (cB, 60, .inl f1)), (im, .inr (1, [.ref iq, .int L])), (iq, .inl (cB, n, .inl f))] := hD
        try dsimp only at hp_r58
        obtain ⟨hr_59, hv_60⟩ := hp_r58
        refine lv_bipush (v := 49) hx hb d_Reader_takeShortName_57 (by decide) ?_
        refine lv_icmp_ne (tgt := 65) hx hb d_Reader_takeShortName_59 (by decide) (fun h_9 => ?_) (fun h_9 => ?_)
        · skip
          have g59_123 : ¬ r58.toInt = 49 := fun h8 => h_9 ((i_eq rfl (by decide)).mpr h8)
          have hP := hP.sub (ws' := [(h0, .inr (7, [.ref im, .ref pr, .ref ra, .int cn, .int vw, .int wr])), (fo, .inr (2, [.ref a1, .ref a2, .int pa, .int de, .int so, .int si, .int se, .int mo, .int ow, .int gr, .int nl, .int tl, .int mk])), (a1, .inl (cB, 60, .inl f1)), (im, .inr (1, [.ref iq, .int L])), (iq, .inl (cB, n, .inl f))]) [0, 1, 2, 3, 4] rfl
          have hD := hD.sub (ws' := [(h0, .inr (7, [.ref im, .ref pr, .ref ra, .int cn, .int vw, .int wr])), (fo, .inr (2, [.ref a1, .ref a2, .int pa, .int de, .int so, .int si, .int se, .int mo, .int ow, .int gr, .int nl, .int tl, .int mk])), (a1, .inl (cB, 60, .inl f1)), (im, .inr (1, [.ref iq, .int L])), (iq, .inl (cB, n, .inl f))]) [0, 1, 2, 3, 4] (by decide +kernel) rfl
          have hl := lv_sub hl [1, 2, 3, 0] rfl
          exact kk65 _ v6 _ _ _ rfl ((by (try dsimp only); first | assumption | omega | trivial)) hP hD hS hl
        · skip
          have g59_123 : r58.toInt = 49 := (i_eq rfl (by decide)).mp h_9
          obtain ⟨v61, e_v61⟩ : ∃ z : Int32, z = v6 + (-2) := ⟨_, rfl⟩
          refine lv_iinc (v := v61) hx hb d_Reader_takeShortName_62 hl (k := 0) rfl e_v61.symm (by decide +kernel) rfl (fun ls hl => ?_)
          have t_v61 : v61.toInt = v6.toInt + (-2) := by rw [e_v61]; exact i_add rfl (by decide) (by omega) (by omega)
          have hl : lv_has ls 5 [(3, .int v61), (0, .ref h0), (1, .ref fo), (2, .int x)] := hl
          have hP := hP.sub (ws' := [(h0, .inr (7, [.ref im, .ref pr, .ref ra, .int cn, .int vw, .int wr])), (fo, .inr (2, [.ref a1, .ref a2, .int pa, .int de, .int so, .int si, .int se, .int mo, .int ow, .int gr, .int nl, .int tl, .int mk])), (a1, .inl (cB, 60, .inl f1)), (im, .inr (1, [.ref iq, .int L])), (iq, .inl (cB, n, .inl f))]) [0, 1, 2, 3, 4] rfl
          have hD := hD.sub (ws' := [(h0, .inr (7, [.ref im, .ref pr, .ref ra, .int cn, .int vw, .int wr])), (fo, .inr (2, [.ref a1, .ref a2, .int pa, .int de, .int so, .int si, .int se, .int mo, .int ow, .int gr, .int nl, .int tl, .int mk])), (a1, .inl (cB, 60, .inl f1)), (im, .inr (1, [.ref iq, .int L])), (iq, .inl (cB, n, .inl f))]) [0, 1, 2, 3, 4] (by decide +kernel) rfl
          have hl := lv_sub hl [1, 2, 3, 0] rfl
          exact kk65 _ v61 _ _ _ rfl ((by (try dsimp only); first | assumption | omega | trivial)) hP hD hS hl

theorem d_Reader_takeLongName_0 : decode b_Reader_takeLongName 0 = .ok (.aload_n 0, 1) := by decide +kernel
theorem d_Reader_takeLongName_1 : decode b_Reader_takeLongName 1 = .ok (.getfield 17, 3) := by decide +kernel
theorem d_Reader_takeLongName_4 : decode b_Reader_takeLongName 4 = .ok (.iload_n 2, 1) := by decide +kernel
theorem d_Reader_takeLongName_5 : decode b_Reader_takeLongName 5 = .ok (.bipush 32, 2) := by decide +kernel
theorem d_Reader_takeLongName_7 : decode b_Reader_takeLongName 7 = .ok (.iadd, 1) := by decide +kernel
theorem d_Reader_takeLongName_8 : decode b_Reader_takeLongName 8 = .ok (.invokevirtual 68, 3) := by decide +kernel
theorem d_Reader_takeLongName_11 : decode b_Reader_takeLongName 11 = .ok (.istore_n 3, 1) := by decide +kernel
theorem d_Reader_takeLongName_12 : decode b_Reader_takeLongName 12 = .ok (.iconst 0, 1) := by decide +kernel
theorem d_Reader_takeLongName_13 : decode b_Reader_takeLongName 13 = .ok (.istore 4, 2) := by decide +kernel
theorem d_Reader_takeLongName_15 : decode b_Reader_takeLongName 15 = .ok (.iload 4, 2) := by decide +kernel
theorem d_Reader_takeLongName_17 : decode b_Reader_takeLongName 17 = .ok (.iload_n 3, 1) := by decide +kernel
theorem d_Reader_takeLongName_18 : decode b_Reader_takeLongName 18 = .ok (.if_icmp .ge 65, 3) := by decide +kernel
theorem d_Reader_takeLongName_21 : decode b_Reader_takeLongName 21 = .ok (.aload_n 0, 1) := by decide +kernel
theorem d_Reader_takeLongName_22 : decode b_Reader_takeLongName 22 = .ok (.getfield 17, 3) := by decide +kernel
theorem d_Reader_takeLongName_25 : decode b_Reader_takeLongName 25 = .ok (.iload_n 2, 1) := by decide +kernel
theorem d_Reader_takeLongName_26 : decode b_Reader_takeLongName 26 = .ok (.bipush 33, 2) := by decide +kernel
theorem d_Reader_takeLongName_28 : decode b_Reader_takeLongName 28 = .ok (.iadd, 1) := by decide +kernel
theorem d_Reader_takeLongName_29 : decode b_Reader_takeLongName 29 = .ok (.iload 4, 2) := by decide +kernel
theorem d_Reader_takeLongName_31 : decode b_Reader_takeLongName 31 = .ok (.iadd, 1) := by decide +kernel
theorem d_Reader_takeLongName_32 : decode b_Reader_takeLongName 32 = .ok (.invokevirtual 68, 3) := by decide +kernel
theorem d_Reader_takeLongName_35 : decode b_Reader_takeLongName 35 = .ok (.bipush 8, 2) := by decide +kernel
theorem d_Reader_takeLongName_37 : decode b_Reader_takeLongName 37 = .ok (.ishl, 1) := by decide +kernel
theorem d_Reader_takeLongName_38 : decode b_Reader_takeLongName 38 = .ok (.aload_n 0, 1) := by decide +kernel
theorem d_Reader_takeLongName_39 : decode b_Reader_takeLongName 39 = .ok (.getfield 17, 3) := by decide +kernel
theorem d_Reader_takeLongName_42 : decode b_Reader_takeLongName 42 = .ok (.iload_n 2, 1) := by decide +kernel
theorem d_Reader_takeLongName_43 : decode b_Reader_takeLongName 43 = .ok (.bipush 34, 2) := by decide +kernel
theorem d_Reader_takeLongName_45 : decode b_Reader_takeLongName 45 = .ok (.iadd, 1) := by decide +kernel
theorem d_Reader_takeLongName_46 : decode b_Reader_takeLongName 46 = .ok (.iload 4, 2) := by decide +kernel
theorem d_Reader_takeLongName_48 : decode b_Reader_takeLongName 48 = .ok (.iadd, 1) := by decide +kernel
theorem d_Reader_takeLongName_49 : decode b_Reader_takeLongName 49 = .ok (.invokevirtual 68, 3) := by decide +kernel
theorem d_Reader_takeLongName_52 : decode b_Reader_takeLongName 52 = .ok (.ior, 1) := by decide +kernel
theorem d_Reader_takeLongName_53 : decode b_Reader_takeLongName 53 = .ok (.istore 5, 2) := by decide +kernel
theorem d_Reader_takeLongName_55 : decode b_Reader_takeLongName 55 = .ok (.iload 5, 2) := by decide +kernel
theorem d_Reader_takeLongName_57 : decode b_Reader_takeLongName 57 = .ok (.bipush 33, 2) := by decide +kernel
theorem d_Reader_takeLongName_59 : decode b_Reader_takeLongName 59 = .ok (.if_icmp .lt 10, 3) := by decide +kernel
theorem d_Reader_takeLongName_62 : decode b_Reader_takeLongName 62 = .ok (.iload 5, 2) := by decide +kernel
theorem d_Reader_takeLongName_64 : decode b_Reader_takeLongName 64 = .ok (.bipush 126, 2) := by decide +kernel
theorem d_Reader_takeLongName_66 : decode b_Reader_takeLongName 66 = .ok (.if_icmp .le 5, 3) := by decide +kernel
theorem d_Reader_takeLongName_69 : decode b_Reader_takeLongName 69 = .ok (.iconst 0, 1) := by decide +kernel
theorem d_Reader_takeLongName_70 : decode b_Reader_takeLongName 70 = .ok (.ireturn, 1) := by decide +kernel
theorem d_Reader_takeLongName_71 : decode b_Reader_takeLongName 71 = .ok (.aload_n 1, 1) := by decide +kernel
theorem d_Reader_takeLongName_72 : decode b_Reader_takeLongName 72 = .ok (.iload 5, 2) := by decide +kernel
theorem d_Reader_takeLongName_74 : decode b_Reader_takeLongName 74 = .ok (.invokevirtual 139, 3) := by decide +kernel
theorem d_Reader_takeLongName_77 : decode b_Reader_takeLongName 77 = .ok (.iinc 4 2, 3) := by decide +kernel
theorem d_Reader_takeLongName_80 : decode b_Reader_takeLongName 80 = .ok (.goto (-65), 3) := by decide +kernel
theorem d_Reader_takeLongName_83 : decode b_Reader_takeLongName 83 = .ok (.iload_n 3, 1) := by decide +kernel
theorem d_Reader_takeLongName_84 : decode b_Reader_takeLongName 84 = .ok (.iconst 2, 1) := by decide +kernel
theorem d_Reader_takeLongName_85 : decode b_Reader_takeLongName 85 = .ok (.irem, 1) := by decide +kernel
theorem d_Reader_takeLongName_86 : decode b_Reader_takeLongName 86 = .ok (.ifCond .ne 14, 3) := by decide +kernel
theorem d_Reader_takeLongName_89 : decode b_Reader_takeLongName 89 = .ok (.aload_n 1, 1) := by decide +kernel
theorem d_Reader_takeLongName_90 : decode b_Reader_takeLongName 90 = .ok (.invokevirtual 143, 3) := by decide +kernel
theorem d_Reader_takeLongName_93 : decode b_Reader_takeLongName 93 = .ok (.ifCond .ne 7, 3) := by decide +kernel
theorem d_Reader_takeLongName_96 : decode b_Reader_takeLongName 96 = .ok (.iconst 1, 1) := by decide +kernel
theorem d_Reader_takeLongName_97 : decode b_Reader_takeLongName 97 = .ok (.goto 4, 3) := by decide +kernel
theorem d_Reader_takeLongName_100 : decode b_Reader_takeLongName 100 = .ok (.iconst 0, 1) := by decide +kernel
theorem d_Reader_takeLongName_101 : decode b_Reader_takeLongName 101 = .ok (.ireturn, 1) := by decide +kernel
set_option maxHeartbeats 4000000 in
set_option maxRecDepth 100000 in
theorem c3_takeLongName (l : Launch) (D : va_G) (cB cI cJ cZ cN cF : ClassId) (sz : Nat) (h0 : Nat) (pr : Nat) (ra : Nat) (im : Nat) (iq : Nat) (n : Nat) (L : Int32) (f : Nat → Int32) (cn : Int32) (vw : Int32) (wr : Int32) (fo : Nat) (a1 : Nat) (a2 : Nat) (pa : Int32) (de : Int32) (so : Int32) (si : Int32) (se : Int32) (mo : Int32) (ow : Int32) (gr : Int32) (nl : Int32) (tl : Int32) (mk : Int32) (f1 : Nat → Int32) (x : Int32) (hL : 0 ≤ L.toInt ∧ L.toInt ≤ n) (hn : n ≤ 3000000) (hx : 0 ≤ x.toInt ∧ x.toInt ≤ 3000000) (hnl : 0 ≤ nl.toInt ∧ nl.toInt ≤ 60) : Met l y_Reader_takeLongName w_Reader_takeLongName ({ frames := 1, cells := 0, slots := 0, locals := 27 }) (va_Pc [.ref h0, .ref fo, .int x] (fun U => U.heap.size = sz ∧ va_P D CL [(h0, .inr (7, [.ref im, .ref pr, .ref ra, .int cn, .int vw, .int wr])), (im, .inr (1, [.ref iq, .int L])), (iq, .inl (cB, n, .inl f)), (fo, .inr (2, [.ref a1, .ref a2, .int pa, .int de, .int so, .int si, .int se, .int mo, .int ow, .int gr, .int nl, .int tl, .int mk])), (a1, .inl (cB, 60, .inl f1))] U.heap ∧ va_K D CL (TY cB cI cJ cZ cN cF) U ∧ NN U ∧ va_D (fun _ => True) [(h0, .inr (7, [.ref im, .ref pr, .ref ra, .int cn, .int vw, .int wr])), (im, .inr (1, [.ref iq, .int L])), (iq, .inl (cB, n, .inl f)), (fo, .inr (2, [.ref a1, .ref a2, .int pa, .int de, .int so, .int si, .int se, .int mo, .int ow, .int gr, .int nl, .int tl, .int mk])), (a1, .inl (cB, 60, .inl f1))])) (va_Qi (fun (r : Int32) (u : Int32 × (Nat → Int32)) => match u with | (nl2, g) => (0 ≤ r.toInt ∧ r.toInt ≤ 1) ∧ (r.toInt ≠ 0 → (0 ≤ nl2.toInt ∧ nl2.toInt ≤ 60))) (fun (u : Int32 × (Nat → Int32)) (t : State) => match u with | (nl2, g) => va_P D CL [(h0, .inr (7, [.ref im, .ref pr, .ref ra, .int cn, .int vw, .int wr])), (im, .inr (1, [.ref iq, .int L])), (iq, .inl (cB, n, .inl f)), (fo, .inr (2, [.ref a1, .ref a2, .int pa, .int de, .int so, .int si, .int se, .int mo, .int ow, .int gr, .int nl2, .int tl, .int mk])), (a1, .inl (cB, 60, .inl g))] t.heap ∧ va_D (va_A [(h0, .inr (7, [.ref im, .ref pr, .ref ra, .int cn, .int vw, .int wr])), (im, .inr (1, [.ref iq, .int L])), (iq, .inl (cB, n, .inl f)), (fo, .inr (2, [.ref a1, .ref a2, .int pa, .int de, .int so, .int si, .int se, .int mo, .int ow, .int gr, .int nl, .int tl, .int mk])), (a1, .inl (cB, 60, .inl f1))] sz) [(h0, .inr (7, [.ref im, .ref pr, .ref ra, .int cn, .int vw, .int wr])), (im, .inr (1, [.ref iq, .int L])), (iq, .inl (cB, n, .inl f)), (fo, .inr (2, [.ref a1, .ref a2, .int pa, .int de, .int so, .int si, .int se, .int mo, .int ow, .int gr, .int nl2, .int tl, .int mk])), (a1, .inl (cB, 60, .inl g))]) (va_A [(h0, .inr (7, [.ref im, .ref pr, .ref ra, .int cn, .int vw, .int wr])), (im, .inr (1, [.ref iq, .int L])), (iq, .inl (cB, n, .inl f)), (fo, .inr (2, [.ref a1, .ref a2, .int pa, .int de, .int so, .int si, .int se, .int mo, .int ow, .int gr, .int nl, .int tl, .int mk])), (a1, .inl (cB, 60, .inl f1))] sz)) 0 0 (va_A [(h0, .inr (7, [.ref im, .ref pr, .ref ra, .int cn, .int vw, .int wr])), (im, .inr (1, [.ref iq, .int L])), (iq, .inl (cB, n, .inl f)), (fo, .inr (2, [.ref a1, .ref a2, .int pa, .int de, .int so, .int si, .int se, .int mo, .int ow, .int gr, .int nl, .int tl, .int mk])), (a1, .inl (cB, 60, .inl f1))] sz) := by
  refine Met.ofW (cc := b_Reader_takeLongName) (maxL := 6) (ret := some .boolean) (by decide +kernel) rfl ?_
  intro p e s m args below meth c s₁ B hml hv
  obtain ⟨rfl, hsz, hP, hK, hN, hD0⟩ := hv
  have hx := B.exec
  have hb := B.bytes
  have hr := B.returns
  have hts := atoms_spec (ws := w_Reader_takeLongName) B.pre
  have ht9 := fun (w : Cond) (h : w ∈ lw_g) => hts w (List.mem_cons_of_mem _ h)
  have hown : s.vm.findClass "DiscMaker$Reader" = some m.cls := findClass_of_methodNamed B.named
  have hlocks := B.notSynchronized
  subst hsz
  have hD := hD0.self (sz := s.heap.size)
  generalize hAe : va_A [(h0, .inr (7, [.ref im, .ref pr, .ref ra, .int cn, .int vw, .int wr])), (im, .inr (1, [.ref iq, .int L])), (iq, .inl (cB, n, .inl f)), (fo, .inr (2, [.ref a1, .ref a2, .int pa, .int de, .int so, .int si, .int se, .int mo, .int ow, .int gr, .int nl, .int tl, .int mk])), (a1, .inl (cB, 60, .inl f1))] s.heap.size = A at hD ⊢
  have hA : ∀ q : Nat, s.heap.size ≤ q → A q := fun q h => by rw [← hAe]; exact Or.inr h
  have hS : va_S A s.heap s.heap [] := va_S.rf
  have hP : va_P D CL [(h0, .inr (7, [.ref im, .ref pr, .ref ra, .int cn, .int vw, .int wr])), (im, .inr (1, [.ref iq, .int L])), (iq, .inl (cB, n, .inl f)), (fo, .inr (2, [.ref a1, .ref a2, .int pa, .int de, .int so, .int si, .int se, .int mo, .int ow, .int gr, .int nl, .int tl, .int mk])), (a1, .inl (cB, 60, .inl f1))] s.heap := hP
  have hl := lv_entry [.ref h0, .ref fo, .int x] (n := 6) (Nat.le_of_ble_eq_true rfl)
  rw [lg_entry_eq]
  generalize (lg_sl [.ref h0, .ref fo, .int x] ++ List.replicate (6 - (lg_sl [.ref h0, .ref fo, .int x]).length) Slot.unset).toArray = ls at hl ⊢
  have hl : lv_has ls 6 [(0, .ref h0), (1, .ref fo), (2, .int x)] := hl
  have L_m1 : ((-1) : Int32).toInt = (-1) := by decide
  have L_0 : (0 : Int32).toInt = 0 := by decide
  have L_1 : (1 : Int32).toInt = 1 := by decide
  have L_2 : (2 : Int32).toInt = 2 := by decide
  have L_8 : (8 : Int32).toInt = 8 := by decide
  have L_32 : (32 : Int32).toInt = 32 := by decide
  have L_33 : (33 : Int32).toInt = 33 := by decide
  have L_34 : (34 : Int32).toInt = 34 := by decide
  have L_126 : (126 : Int32).toInt = 126 := by decide
  refine lv_aload_n hx hb d_Reader_takeLongName_0 rfl (lv_at hl 0 rfl) ?_
  refine va_get (D := D) (ci := 7) (v := .ref im) (C := "DiscMaker$Reader") (T := F_Reader) (N := 6) hx hb ht9 in_Reader hown hK hP 0 rfl rfl 0 (by decide) (ht9 _ k412) (fun _ h9 => h9) rfl d_Reader_takeLongName_1 ?_
  refine lv_iload_n hx hb d_Reader_takeLongName_4 rfl (lv_at hl 2 rfl) ?_
  refine lv_bipush (v := 32) hx hb d_Reader_takeLongName_5 (by decide) ?_
  refine lv_iadd hx hb d_Reader_takeLongName_7 ?_
  refine lv_topi (fun v1 e_v1 => ?_)
  have t_v1 : v1.toInt = x.toInt + 32 := by rw [e_v1]; exact i_add rfl (by decide) (by omega) (by omega)
  have hPc := hP.sub (ws' := [(im, .inr (1, [.ref iq, .int L])), (iq, .inl (cB, n, .inl f))]) [1, 2] rfl
  have hDc := hD.sub (ws' := [(im, .inr (1, [.ref iq, .int L])), (iq, .inl (cB, n, .inl f))]) [1, 2] (by decide +kernel) rfl
  have hFc := va_free (wc := [(im, .inr (1, [.ref iq, .int L])), (iq, .inl (cB, n, .inl f))]) hD hS hA [1, 2] rfl
  have hkc : 0 ≤ 0 := by decide
  have hks : 0 ≤ 0 := by decide
  refine va_calli (va_runV (C := "DiscMaker$Bytes") (As := [.int v1]) (rest := []) ⟨hx, hb, hml, hown, hts⟩ (c3_at l D cB cI cJ cZ cN cF s.heap.size im iq n L f v1 (by (try dsimp only); first | assumption | omega | trivial) (by (try dsimp only); first | assumption | omega | trivial)) (cwV 1 hts (lg_goodV k1179 k1065 k1066 k119 kc_Bytes_at) rfl rfl rfl (by decide +kernel) ⟨Nat.le_of_ble_eq_true rfl, Nat.le_of_ble_eq_true rfl⟩) ⟨fun a U g mk q => by obtain ⟨q0, q1, qP, qK, qN, qD⟩ := q; exact ⟨q0, q1, qP, va_K.moved (u := U) (U := U.calling g mk a) (Vm.Alike.refl U.vm) qK, qN.calling, qD⟩, va_recv hK hP (ci := 1) (q0 := 1) rfl rfl, fun U hU hW => ⟨rfl, by rw [hU], by rw [hU]; exact hPc, va_K.moved hW.alike hK, NN.warm hW hN, hDc.weaken (fun _ _ _ _ => trivial)⟩⟩ rfl rfl hl.1 rfl (lv_room (Nat.le_of_ble_eq_true rfl)) d_Reader_takeLongName_8 ⟨hkc, hks⟩) hS (fun q _ h => hFc q h) hFc (fun r2 u t H1 locs ht hvm hp_r2 hB hz1 hk1 hS => ?_)
  obtain ⟨hP1, hD1⟩ := hB
  rw [ht] at hP1
  obtain ⟨hP, hD⟩ := va_join (wr := [(h0, .inr (7, [.ref im, .ref pr, .ref ra, .int cn, .int vw, .int wr])), (fo, .inr (2, [.ref a1, .ref a2, .int pa, .int de, .int so, .int si, .int se, .int mo, .int ow, .int gr, .int nl, .int tl, .int mk])), (a1, .inl (cB, 60, .inl f1))]) (w1 := [(im, .inr (1, [.ref iq, .int L])), (iq, .inl (cB, n, .inl f))]) hP hD [1, 2] [0, 3, 4] rfl rfl (by decide +kernel) (by decide +kernel) hk1 hFc hP1 hD1
  clear hPc hDc hFc hP1 hD1 hk1 hz1 hkc hks
  generalize H1 = H at hP hS ⊢
  have hP : va_P D CL [(h0, .inr (7, [.ref im, .ref pr, .ref ra, .int cn, .int vw, .int wr])), (fo, .inr (2, [.ref a1, .ref a2, .int pa, .int de, .int so, .int si, .int se, .int mo, .int ow, .int gr, .int nl, .int tl, .int mk])), (a1, .inl (cB, 60, .inl f1)), (im, .inr (1, [.ref iq, .int L])), (iq, .inl (cB, n, .inl f))] H := hP
  have hD : va_D A [(h0, .inr (7, [.ref im, .ref pr, .ref ra, .int cn, .int vw, .int wr])), (fo, .inr (2, [.ref a1, .ref a2, .int pa, .int de, .int so, .int si, .int se, .int mo, .int ow, .int gr, .int nl, .int tl, .int mk])), (a1, .inl (cB, 60, .inl f1)), (im, .inr (1, [.ref iq, .int L])), (iq, .inl (cB, n, .inl f))] := hD
  try dsimp only at hp_r2
  obtain ⟨hr_3, hv_4⟩ := hp_r2
  refine lv_istore_n hx hb d_Reader_takeLongName_11 rfl hl (by decide) rfl (fun ls hl => ?_)
  have hl : lv_has ls 6 [(3, .int r2), (0, .ref h0), (1, .ref fo), (2, .int x)] := hl
  refine lv_iconst (v := 0) hx hb d_Reader_takeLongName_12 (by decide) ?_
  refine lv_istore hx hb d_Reader_takeLongName_13 hl (by decide) rfl (fun ls hl => ?_)
  have hl : lv_has ls 6 [(4, .int 0), (3, .int r2), (0, .ref h0), (1, .ref fo), (2, .int x)] := hl
  refine zz_labM (B := fun (lk : Nat) (K : Heap → List Loc → Array Slot → List Value → Prop) => ∀ (by9 : Int32) (kx : Int32) (ln : Int32) (lf : Nat → Int32) (H : Heap) (locs : List Loc) (ls : Array Slot), lk = (300 - kx.toInt).toNat → (0 ≤ by9.toInt ∧ by9.toInt ≤ 255) → (0 ≤ kx.toInt ∧ kx.toInt ≤ 300) → (0 ≤ ln.toInt ∧ ln.toInt ≤ 60 + kx.toInt) → va_P D CL [(h0, .inr (7, [.ref im, .ref pr, .ref ra, .int cn, .int vw, .int wr])), (fo, .inr (2, [.ref a1, .ref a2, .int pa, .int de, .int so, .int si, .int se, .int mo, .int ow, .int gr, .int ln, .int tl, .int mk])), (a1, .inl (cB, 60, .inl lf)), (im, .inr (1, [.ref iq, .int L])), (iq, .inl (cB, n, .inl f))] H → va_D A [(h0, .inr (7, [.ref im, .ref pr, .ref ra, .int cn, .int vw, .int wr])), (fo, .inr (2, [.ref a1, .ref a2, .int pa, .int de, .int so, .int si, .int se, .int mo, .int ow, .int gr, .int ln, .int tl, .int mk])), (a1, .inl (cB, 60, .inl lf)), (im, .inr (1, [.ref iq, .int L])), (iq, .inl (cB, n, .inl f))] → va_S A s.heap H locs → lv_has ls 6 [(0, .ref h0), (1, .ref fo), (2, .int x), (3, .int by9), (4, .int kx)] → K H locs ls []) 15 ?_ ?_
  · skip
    intro lk ih15 by9 kx ln lf H locs ls hm15 e0 e3 e4 hP hD hS hl
    refine lv_iload hx hb d_Reader_takeLongName_15 (lv_at hl 4 rfl) ?_
    refine lv_iload_n hx hb d_Reader_takeLongName_17 rfl (lv_at hl 3 rfl) ?_
    refine lv_icmp_ge (tgt := 83) hx hb d_Reader_takeLongName_18 (by decide) (fun h_9 => ?_) (fun h_9 => ?_)
    · skip
      have g18_12 : by9.toInt ≤ kx.toInt := (i_le rfl rfl).mp h_9
      refine lv_iload_n hx hb d_Reader_takeLongName_83 rfl (lv_at hl 3 rfl) ?_
      refine lv_iconst (v := 2) hx hb d_Reader_takeLongName_84 (by decide) ?_
      refine lv_irem hx hb d_Reader_takeLongName_85 (by decide) ?_
      refine lv_topi (fun v5 e_v5 => ?_)
      have t_v5 : v5.toInt = by9.toInt % 2 := by rw [e_v5]; exact i_rem rfl (by decide) (by omega) (by omega)
      refine lv_if_ne (tgt := 100) hx hb d_Reader_takeLongName_86 (by decide) (fun h_9 => ?_) (fun h_9 => ?_)
      · skip
        have g86_16 : ¬ v5.toInt = 0 := fun h8 => h_9 ((i_eq rfl (by decide)).mpr h8)
        refine lv_iconst (v := 0) hx hb d_Reader_takeLongName_100 (by decide) ?_
        have hP9 := hP.sub (ws' := [(h0, .inr (7, [.ref im, .ref pr, .ref ra, .int cn, .int vw, .int wr])), (im, .inr (1, [.ref iq, .int L])), (iq, .inl (cB, n, .inl f)), (fo, .inr (2, [.ref a1, .ref a2, .int pa, .int de, .int so, .int si, .int se, .int mo, .int ow, .int gr, .int ln, .int tl, .int mk])), (a1, .inl (cB, 60, .inl lf))]) [0, 3, 4, 1, 2] rfl
        have hD9 := hD.sub (ws' := [(h0, .inr (7, [.ref im, .ref pr, .ref ra, .int cn, .int vw, .int wr])), (im, .inr (1, [.ref iq, .int L])), (iq, .inl (cB, n, .inl f)), (fo, .inr (2, [.ref a1, .ref a2, .int pa, .int de, .int so, .int si, .int se, .int mo, .int ow, .int gr, .int ln, .int tl, .int mk])), (a1, .inl (cB, 60, .inl lf))]) [0, 3, 4, 1, 2] (by decide +kernel) rfl
        exact W.zret (v := 0) hx hb hr (by first | rfl | decide | exact i_narZ (by omega)) (fun t ht hW => ⟨⟨0, (ln, lf), rfl, ⟨(by (try dsimp only); first | assumption | omega | trivial), (by (try dsimp only); intro h7; first | (exfalso; omega) | omega | assumption)⟩, by rw [ht]; exact hP9, hD9⟩, hS.F ht⟩) hS.2.2 d_Reader_takeLongName_101
      · skip
        have g86_16 : v5.toInt = 0 := (i_eq rfl (by decide)).mp h_9
        refine lv_aload_n hx hb d_Reader_takeLongName_89 rfl (lv_at hl 1 rfl) ?_
        have hPc := hP.sub (ws' := [(fo, .inr (2, [.ref a1, .ref a2, .int pa, .int de, .int so, .int si, .int se, .int mo, .int ow, .int gr, .int ln, .int tl, .int mk])), (a1, .inl (cB, 60, .inl lf))]) [1, 2] rfl
        have hDc := hD.sub (ws' := [(fo, .inr (2, [.ref a1, .ref a2, .int pa, .int de, .int so, .int si, .int se, .int mo, .int ow, .int gr, .int ln, .int tl, .int mk])), (a1, .inl (cB, 60, .inl lf))]) [1, 2] (by decide +kernel) rfl
        have hFc := va_free (wc := [(fo, .inr (2, [.ref a1, .ref a2, .int pa, .int de, .int so, .int si, .int se, .int mo, .int ow, .int gr, .int ln, .int tl, .int mk])), (a1, .inl (cB, 60, .inl lf))]) hD hS hA [1, 2] rfl
        have hkc : 0 ≤ 0 := by decide
        have hks : 0 ≤ 0 := by decide
        refine va_calli (va_runV (C := "DiscMaker$Found") (As := []) (rest := []) ⟨hx, hb, hml, hown, hts⟩ (c3_isNameTooLong l D cB cI cJ cZ cN cF H.size fo a1 a2 pa de so si se mo ow gr ln tl mk lf) (cwV 0 hts (lg_goodV k1312 k1313 k1314 k141 kc_Found_isNameTooLong) rfl rfl rfl (by decide +kernel) ⟨Nat.le_of_ble_eq_true rfl, Nat.le_of_ble_eq_true rfl⟩) ⟨fun a U g mk q => by obtain ⟨q0, q1, qP, qK, qN, qD⟩ := q; exact ⟨q0, q1, qP, va_K.moved (u := U) (U := U.calling g mk a) (Vm.Alike.refl U.vm) qK, qN.calling, qD⟩, va_recv hK hP (ci := 2) (q0 := 1) rfl rfl, fun U hU hW => ⟨rfl, by rw [hU], by rw [hU]; exact hPc, va_K.moved hW.alike hK, NN.warm hW hN, hDc.weaken (fun _ _ _ _ => trivial)⟩⟩ rfl rfl hl.1 rfl (lv_room (Nat.le_of_ble_eq_true rfl)) d_Reader_takeLongName_90 ⟨hkc, hks⟩) hS (fun q _ h => hFc q h) hFc (fun r6 u t H1 locs ht hvm hp_r6 hB hz1 hk1 hS => ?_)
        obtain ⟨hP1, hD1⟩ := hB
        rw [ht] at hP1
        obtain ⟨hP, hD⟩ := va_join (wr := [(h0, .inr (7, [.ref im, .ref pr, .ref ra, .int cn, .int vw, .int wr])), (im, .inr (1, [.ref iq, .int L])), (iq, .inl (cB, n, .inl f))]) (w1 := [(fo, .inr (2, [.ref a1, .ref a2, .int pa, .int de, .int so, .int si, .int se, .int mo, .int ow, .int gr, .int ln, .int tl, .int mk])), (a1, .inl (cB, 60, .inl lf))]) hP hD [1, 2] [0, 3, 4] rfl rfl (by decide +kernel) (by decide +kernel) hk1 hFc hP1 hD1
        clear hPc hDc hFc hP1 hD1 hk1 hz1 hkc hks
        generalize H1 = H at hP hS ⊢
        have hP : va_P D CL [(h0, .inr (7, [.ref im, .ref pr, .ref ra, .int cn, .int vw, .int wr])), (im, .inr (1, [.ref iq, .int L])), (iq, .inl (cB, n, .inl f)), (fo, .inr (2, [.ref a1, .ref a2, .int pa, .int de, .int so, .int si, .int se, .int mo, .int ow, .int gr, .int ln, .int tl, .int mk])), (a1, .inl (cB, 60, .inl lf))] H := hP
        have hD : va_D A [(h0, .inr (7, [.ref im, .ref pr, .ref ra, .int cn, .int vw, .int wr])), (im, .inr (1, [.ref iq, .int L])), (iq, .inl (cB, n, .inl f)), (fo, .inr (2, [.ref a1, .ref a2, .int pa, .int de, .int so, .int si, .int se, .int mo, .int ow, .int gr, .int ln, .int tl, .int mk])), (a1, .inl (cB, 60, .inl lf))] := hD
        try dsimp only at hp_r6
        obtain ⟨hr_7, hv_8⟩ := hp_r6
        refine lv_if_ne (tgt := 100) hx hb d_Reader_takeLongName_93 (by decide) (fun h_9 => ?_) (fun h_9 => ?_)
        · skip
          have g93_21 : ¬ r6.toInt = 0 := fun h8 => h_9 ((i_eq rfl (by decide)).mpr h8)
          refine lv_iconst (v := 0) hx hb d_Reader_takeLongName_100 (by decide) ?_
          have hP9 := hP.sub (ws' := [(h0, .inr (7, [.ref im, .ref pr, .ref ra, .int cn, .int vw, .int wr])), (im, .inr (1, [.ref iq, .int L])), (iq, .inl (cB, n, .inl f)), (fo, .inr (2, [.ref a1, .ref a2, .int pa, .int de, .int so, .int si, .int se, .int mo, .int ow, .int gr, .int ln, .int tl, .int mk])), (a1, .inl (cB, 60, .inl lf))]) [0, 1, 2, 3, 4] rfl
          have hD9 := hD.sub (ws' := [(h0, .inr (7, [.ref im, .ref pr, .ref ra, .int cn, .int vw, .int wr])), (im, .inr (1, [.ref iq, .int L])), (iq, .inl (cB, n, .inl f)), (fo, .inr (2, [.ref a1, .ref a2, .int pa, .int de, .int so, .int si, .int se, .int mo, .int ow, .int gr, .int ln, .int tl, .int mk])), (a1, .inl (cB, 60, .inl lf))]) [0, 1, 2, 3, 4] (by decide +kernel) rfl
          exact W.zret (v := 0) hx hb hr (by first | rfl | decide | exact i_narZ (by omega)) (fun t ht hW => ⟨⟨0, (ln, lf), rfl, ⟨(by (try dsimp only); first | assumption | omega | trivial), (by (try dsimp only); intro h7; first | (exfalso; omega) | omega | assumption)⟩, by rw [ht]; exact hP9, hD9⟩, hS.F ht⟩) hS.2.2 d_Reader_takeLongName_101
        · skip
          have g93_21 : r6.toInt = 0 := (i_eq rfl (by decide)).mp h_9
          refine lv_iconst (v := 1) hx hb d_Reader_takeLongName_96 (by decide) ?_
          refine lv_goto (tgt := 101) hx hb d_Reader_takeLongName_97 (by decide) ?_
          have hP9 := hP.sub (ws' := [(h0, .inr (7, [.ref im, .ref pr, .ref ra, .int cn, .int vw, .int wr])), (im, .inr (1, [.ref iq, .int L])), (iq, .inl (cB, n, .inl f)), (fo, .inr (2, [.ref a1, .ref a2, .int pa, .int de, .int so, .int si, .int se, .int mo, .int ow, .int gr, .int ln, .int tl, .int mk])), (a1, .inl (cB, 60, .inl lf))]) [0, 1, 2, 3, 4] rfl
          have hD9 := hD.sub (ws' := [(h0, .inr (7, [.ref im, .ref pr, .ref ra, .int cn, .int vw, .int wr])), (im, .inr (1, [.ref iq, .int L])), (iq, .inl (cB, n, .inl f)), (fo, .inr (2, [.ref a1, .ref a2, .int pa, .int de, .int so, .int si, .int se, .int mo, .int ow, .int gr, .int ln, .int tl, .int mk])), (a1, .inl (cB, 60, .inl lf))]) [0, 1, 2, 3, 4] (by decide +kernel) rfl
          exact W.zret (v := 1) hx hb hr (by first | rfl | decide | exact i_narZ (by omega)) (fun t ht hW => ⟨⟨1, (ln, lf), rfl, ⟨(by (try dsimp only); first | assumption | omega | trivial), (by (try dsimp only); intro h7; first | (exfalso; omega) | omega | assumption)⟩, by rw [ht]; exact hP9, hD9⟩, hS.F ht⟩) hS.2.2 d_Reader_takeLongName_101
    · skip
      have g18_12 : ¬ by9.toInt ≤ kx.toInt := fun h8 => h_9 ((i_le rfl rfl).mpr h8)
      refine lv_aload_n hx hb d_Reader_takeLongName_21 rfl (lv_at hl 0 rfl) ?_
      refine va_get (D := D) (ci := 7) (v := .ref im) (C := "DiscMaker$Reader") (T := F_Reader) (N := 6) hx hb ht9 in_Reader hown hK hP 0 rfl rfl 0 (by decide) (ht9 _ k412) (fun _ h9 => h9) rfl d_Reader_takeLongName_22 ?_
      refine lv_iload_n hx hb d_Reader_takeLongName_25 rfl (lv_at hl 2 rfl) ?_
      refine lv_bipush (v := 33) hx hb d_Reader_takeLongName_26 (by decide) ?_
      refine lv_iadd hx hb d_Reader_takeLongName_28 ?_
      refine lv_topi (fun v9 e_v9 => ?_)
      have t_v9 : v9.toInt = x.toInt + 33 := by rw [e_v9]; exact i_add rfl (by decide) (by omega) (by omega)
      refine lv_iload hx hb d_Reader_takeLongName_29 (lv_at hl 4 rfl) ?_
      refine lv_iadd hx hb d_Reader_takeLongName_31 ?_
      refine lv_topi (fun v10 e_v10 => ?_)
      have t_v10 : v10.toInt = v9.toInt + kx.toInt := by rw [e_v10]; exact i_add rfl rfl (by omega) (by omega)
      have hPc := hP.sub (ws' := [(im, .inr (1, [.ref iq, .int L])), (iq, .inl (cB, n, .inl f))]) [3, 4] rfl
      have hDc := hD.sub (ws' := [(im, .inr (1, [.ref iq, .int L])), (iq, .inl (cB, n, .inl f))]) [3, 4] (by decide +kernel) rfl
      have hFc := va_free (wc := [(im, .inr (1, [.ref iq, .int L])), (iq, .inl (cB, n, .inl f))]) hD hS hA [3, 4] rfl
      have hkc : 0 ≤ 0 := by decide
      have hks : 0 ≤ 0 := by decide
      refine va_calli (va_runV (C := "DiscMaker$Bytes") (As := [.int v10]) (rest := []) ⟨hx, hb, hml, hown, hts⟩ (c3_at l D cB cI cJ cZ cN cF H.size im iq n L f v10 (by (try dsimp only); first | assumption | omega | trivial) (by (try dsimp only); first | assumption | omega | trivial)) (cwV 1 hts (lg_goodV k1179 k1065 k1066 k119 kc_Bytes_at) rfl rfl rfl (by decide +kernel) ⟨Nat.le_of_ble_eq_true rfl, Nat.le_of_ble_eq_true rfl⟩) ⟨fun a U g mk q => by obtain ⟨q0, q1, qP, qK, qN, qD⟩ := q; exact ⟨q0, q1, qP, va_K.moved (u := U) (U := U.calling g mk a) (Vm.Alike.refl U.vm) qK, qN.calling, qD⟩, va_recv hK hP (ci := 1) (q0 := 3) rfl rfl, fun U hU hW => ⟨rfl, by rw [hU], by rw [hU]; exact hPc, va_K.moved hW.alike hK, NN.warm hW hN, hDc.weaken (fun _ _ _ _ => trivial)⟩⟩ rfl rfl hl.1 rfl (lv_room (Nat.le_of_ble_eq_true rfl)) d_Reader_takeLongName_32 ⟨hkc, hks⟩) hS (fun q _ h => hFc q h) hFc (fun r11 u t H1 locs ht hvm hp_r11 hB hz1 hk1 hS => ?_)
      obtain ⟨hP1, hD1⟩ := hB
      rw [ht] at hP1
      obtain ⟨hP, hD⟩ := va_join (wr := [(h0, .inr (7, [.ref im, .ref pr, .ref ra, .int cn, .int vw, .int wr])), (fo, .inr (2, [.ref a1, .ref a2, .int pa, .int de, .int so, .int si, .int se, .int mo, .int ow, .int gr, .int ln, .int tl, .int mk])), (a1, .inl (cB, 60, .inl lf))]) (w1 := [(im, .inr (1, [.ref iq, .int L])), (iq, .inl (cB, n, .inl f))]) hP hD [3, 4] [0, 1, 2] rfl rfl (by decide +kernel) (by decide +kernel) hk1 hFc hP1 hD1
      clear hPc hDc hFc hP1 hD1 hk1 hz1 hkc hks
      generalize H1 = H at hP hS ⊢
      have hP : va_P D CL [(h0, .inr (7, [.ref im, .ref pr, .ref ra, .int cn, .int vw, .int wr])), (fo, .inr (2, [.ref a1, .ref a2, .int pa, .int de, .int so, .int si, .int se, .int mo, .int ow, .int gr, .int ln, .int tl, .int mk])), (a1, .inl (cB, 60, .inl lf)), (im, .inr (1, [.ref iq, .int L])), (iq, .inl (cB, n, .inl f))] H := hP
      have hD : va_D A [(h0, .inr (7, [.ref im, .ref pr, .ref ra, .int cn, .int vw, .int wr])), (fo, .inr (2, [.ref a1, .ref a2, .int pa, .int de, .int so, .int si, .int se, .int mo, .int ow, .int gr, .int ln, .int tl, .int mk])), (a1, .inl (cB, 60, .inl lf)), (im, .inr (1, [.ref iq, .int L])), (iq, .inl (cB, n, .inl f))] := hD
      try dsimp only at hp_r11
      obtain ⟨hr_12, hv_13⟩ := hp_r11
      refine lv_bipush (v := 8) hx hb d_Reader_takeLongName_35 (by decide) ?_
      refine lv_ishl hx hb d_Reader_takeLongName_37 ?_
      refine lv_topi (fun v14 e_v14 => ?_)
      refine lv_aload_n hx hb d_Reader_takeLongName_38 rfl (lv_at hl 0 rfl) ?_
      refine va_get (D := D) (ci := 7) (v := .ref im) (C := "DiscMaker$Reader") (T := F_Reader) (N := 6) hx hb ht9 in_Reader hown hK hP 0 rfl rfl 0 (by decide) (ht9 _ k412) (fun _ h9 => h9) rfl d_Reader_takeLongName_39 ?_
      refine lv_iload_n hx hb d_Reader_takeLongName_42 rfl (lv_at hl 2 rfl) ?_
      refine lv_bipush (v := 34) hx hb d_Reader_takeLongName_43 (by decide) ?_
      refine lv_iadd hx hb d_Reader_takeLongName_45 ?_
      refine lv_topi (fun v15 e_v15 => ?_)
      have t_v15 : v15.toInt = x.toInt + 34 := by rw [e_v15]; exact i_add rfl (by decide) (by omega) (by omega)
      refine lv_iload hx hb d_Reader_takeLongName_46 (lv_at hl 4 rfl) ?_
      refine lv_iadd hx hb d_Reader_takeLongName_48 ?_
      refine lv_topi (fun v16 e_v16 => ?_)
      have t_v16 : v16.toInt = v15.toInt + kx.toInt := by rw [e_v16]; exact i_add rfl rfl (by omega) (by omega)
      have hPc := hP.sub (ws' := [(im, .inr (1, [.ref iq, .int L])), (iq, .inl (cB, n, .inl f))]) [3, 4] rfl
      have hDc := hD.sub (ws' := [(im, .inr (1, [.ref iq, .int L])), (iq, .inl (cB, n, .inl f))]) [3, 4] (by decide +kernel) rfl
      have hFc := va_free (wc := [(im, .inr (1, [.ref iq, .int L])), (iq, .inl (cB, n, .inl f))]) hD hS hA [3, 4] rfl
      have hkc : 0 ≤ 0 := by decide
      have hks : 0 ≤ 0 := by decide
      refine va_calli (va_runV (C := "DiscMaker$Bytes") (As := [.int v16]) (rest := [.int v14]) ⟨hx, hb, hml, hown, hts⟩ (c3_at l D cB cI cJ cZ cN cF H.size im iq n L f v16 (by (try dsimp only); first | assumption | omega | trivial) (by (try dsimp only); first | assumption | omega | trivial)) (cwV 1 hts (lg_goodV k1179 k1065 k1066 k119 kc_Bytes_at) rfl rfl rfl (by decide +kernel) ⟨Nat.le_of_ble_eq_true rfl, Nat.le_of_ble_eq_true rfl⟩) ⟨fun a U g mk q => by obtain ⟨q0, q1, qP, qK, qN, qD⟩ := q; exact ⟨q0, q1, qP, va_K.moved (u := U) (U := U.calling g mk a) (Vm.Alike.refl U.vm) qK, qN.calling, qD⟩, va_recv hK hP (ci := 1) (q0 := 3) rfl rfl, fun U hU hW => ⟨rfl, by rw [hU], by rw [hU]; exact hPc, va_K.moved hW.alike hK, NN.warm hW hN, hDc.weaken (fun _ _ _ _ => trivial)⟩⟩ rfl rfl hl.1 rfl (lv_room (Nat.le_of_ble_eq_true rfl)) d_Reader_takeLongName_49 ⟨hkc, hks⟩) hS (fun q _ h => hFc q h) hFc (fun r17 u t H1 locs ht hvm hp_r17 hB hz1 hk1 hS => ?_)
      obtain ⟨hP1, hD1⟩ := hB
      rw [ht] at hP1
      obtain ⟨hP, hD⟩ := va_join (wr := [(h0, .inr (7, [.ref im, .ref pr, .ref ra, .int cn, .int vw, .int wr])), (fo, .inr (2, [.ref a1, .ref a2, .int pa, .int de, .int so, .int si, .int se, .int mo, .int ow, .int gr, .int ln, .int tl, .int mk])), (a1, .inl (cB, 60, .inl lf))]) (w1 := [(im, .inr (1, [.ref iq, .int L])), (iq, .inl (cB, n, .inl f))]) hP hD [3, 4] [0, 1, 2] rfl rfl (by decide +kernel) (by decide +kernel) hk1 hFc hP1 hD1
      clear hPc hDc hFc hP1 hD1 hk1 hz1 hkc hks
      generalize H1 = H at hP hS ⊢
      have hP : va_P D CL [(h0, .inr (7, [.ref im, .ref pr, .ref ra, .int cn, .int vw, .int wr])), (fo, .inr (2, [.ref a1, .ref a2, .int pa, .int de, .int so, .int si, .int se, .int mo, .int ow, .int gr, .int ln, .int tl, .int mk])), (a1, .inl (cB, 60, .inl lf)), (im, .inr (1, [.ref iq, .int L])), (iq, .inl (cB, n, .inl f))] H := hP
      have hD : va_D A [(h0, .inr (7, [.ref im, .ref pr, .ref ra, .int cn, .int vw, .int wr])), (fo, .inr (2, [.ref a1, .ref a2, .int pa, .int de, .int so, .int si, .int se, .int mo, .int ow, .int gr, .int ln, .int tl, .int mk])), (a1, .inl (cB, 60, .inl lf)), (im, .inr (1, [.ref iq, .int L])), (iq, .inl (cB, n, .inl f))] := hD
      try dsimp only at hp_r17
      obtain ⟨hr_18, hv_19⟩ := hp_r17
      refine lv_ior hx hb d_Reader_takeLongName_52 ?_
      refine lv_topi (fun v20 e_v20 => ?_)
      refine lv_istore hx hb d_Reader_takeLongName_53 hl (by decide) rfl (fun ls hl => ?_)
      have hl : lv_has ls 6 [(5, .int v20), (0, .ref h0), (1, .ref fo), (2, .int x), (3, .int by9), (4, .int kx)] := hl
      refine lv_iload hx hb d_Reader_takeLongName_55 (lv_at hl 0 rfl) ?_
      refine lv_bipush (v := 33) hx hb d_Reader_takeLongName_57 (by decide) ?_
      refine lv_icmp_lt (tgt := 69) hx hb d_Reader_takeLongName_59 (by decide) (fun h_9 => ?_) (fun h_9 => ?_)
      · skip
        have g59_49 : v20.toInt < 33 := (i_lt rfl (by decide)).mp h_9
        refine lv_iconst (v := 0) hx hb d_Reader_takeLongName_69 (by decide) ?_
        have hP9 := hP.sub (ws' := [(h0, .inr (7, [.ref im, .ref pr, .ref ra, .int cn, .int vw, .int wr])), (im, .inr (1, [.ref iq, .int L])), (iq, .inl (cB, n, .inl f)), (fo, .inr (2, [.ref a1, .ref a2, .int pa, .int de, .int so, .int si, .int se, .int mo, .int ow, .int gr, .int ln, .int tl, .int mk])), (a1, .inl (cB, 60, .inl lf))]) [0, 3, 4, 1, 2] rfl
        have hD9 := hD.sub (ws' := [(h0, .inr (7, [.ref im, .ref pr, .ref ra, .int cn, .int vw, .int wr])), (im, .inr (1, [.ref iq, .int L])), (iq, .inl (cB, n, .inl f)), (fo, .inr (2, [.ref a1, .ref a2, .int pa, .int de, .int so, .int si, .int se, .int mo, .int ow, .int gr, .int ln, .int tl, .int mk])), (a1, .inl (cB, 60, .inl lf))]) [0, 3, 4, 1, 2] (by decide +kernel) rfl
        exact W.zret (v := 0) hx hb hr (by first | rfl | decide | exact i_narZ (by omega)) (fun t ht hW => ⟨⟨0, (ln, lf), rfl, ⟨(by (try dsimp only); first | assumption | omega | trivial), (by (try dsimp only); intro h7; first | (exfalso; omega) | omega | assumption)⟩, by rw [ht]; exact hP9, hD9⟩, hS.F ht⟩) hS.2.2 d_Reader_takeLongName_70
      · skip
        have g59_49 : ¬ v20.toInt < 33 := fun h8 => h_9 ((i_lt rfl (by decide)).mpr h8)
        refine lv_iload hx hb d_Reader_takeLongName_62 (lv_at hl 0 rfl) ?_
        refine lv_bipush (v := 126) hx hb d_Reader_takeLongName_64 (by decide) ?_
        refine lv_icmp_le (tgt := 71) hx hb d_Reader_takeLongName_66 (by decide) (fun h_9 => ?_) (fun h_9 => ?_)
        · skip
          have g66_54 : v20.toInt ≤ 126 := (i_le rfl (by decide)).mp h_9
          refine lv_aload_n hx hb d_Reader_takeLongName_71 rfl (lv_at hl 2 rfl) ?_
          refine lv_iload hx hb d_Reader_takeLongName_72 (lv_at hl 0 rfl) ?_
          have hPc := hP.sub (ws' := [(fo, .inr (2, [.ref a1, .ref a2, .int pa, .int de, .int so, .int si, .int se, .int mo, .int ow, .int gr, .int ln, .int tl, .int mk])), (a1, .inl (cB, 60, .inl lf))]) [1, 2] rfl
          have hDc := hD.sub (ws' := [(fo, .inr (2, [.ref a1, .ref a2, .int pa, .int de, .int so, .int si, .int se, .int mo, .int ow, .int gr, .int ln, .int tl, .int mk])), (a1, .inl (cB, 60, .inl lf))]) [1, 2] (by decide +kernel) rfl
          have hFc := va_free (wc := [(fo, .inr (2, [.ref a1, .ref a2, .int pa, .int de, .int so, .int si, .int se, .int mo, .int ow, .int gr, .int ln, .int tl, .int mk])), (a1, .inl (cB, 60, .inl lf))]) hD hS hA [1, 2] rfl
          have hkc : 0 ≤ 0 := by decide
          have hks : 0 ≤ 0 := by decide
          refine va_callv (va_runV (C := "DiscMaker$Found") (As := [.int v20]) (rest := []) ⟨hx, hb, hml, hown, hts⟩ (c3_addToName l D cB cI cJ cZ cN cF H.size fo a1 a2 pa de so si se mo ow gr ln tl mk lf v20 (by (try dsimp only); first | assumption | omega | trivial)) (cwV 1 hts (lg_goodV k1308 k1309 k1310 k141 kc_Found_addToName) rfl rfl rfl (by decide +kernel) ⟨Nat.le_of_ble_eq_true rfl, Nat.le_of_ble_eq_true rfl⟩) ⟨fun a U g mk q => by obtain ⟨q0, q1, qP, qK, qN, qD⟩ := q; exact ⟨q0, q1, qP, va_K.moved (u := U) (U := U.calling g mk a) (Vm.Alike.refl U.vm) qK, qN.calling, qD⟩, va_recv hK hP (ci := 2) (q0 := 1) rfl rfl, fun U hU hW => ⟨rfl, by rw [hU], by rw [hU]; exact hPc, va_K.moved hW.alike hK, NN.warm hW hN, hDc.weaken (fun _ _ _ _ => trivial)⟩⟩ rfl rfl hl.1 rfl (lv_room (Nat.le_of_ble_eq_true rfl)) d_Reader_takeLongName_74 ⟨hkc, hks⟩) hS (fun q _ h => hFc q h) hFc (fun u t H1 locs ht hvm hp_r21 hB hz1 hk1 hS => ?_)
          obtain ⟨l2_22, g_23⟩ := u
          obtain ⟨hP1, hD1⟩ := hB
          rw [ht] at hP1
          obtain ⟨hP, hD⟩ := va_join (wr := [(h0, .inr (7, [.ref im, .ref pr, .ref ra, .int cn, .int vw, .int wr])), (im, .inr (1, [.ref iq, .int L])), (iq, .inl (cB, n, .inl f))]) (w1 := [(fo, .inr (2, [.ref a1, .ref a2, .int pa, .int de, .int so, .int si, .int se, .int mo, .int ow, .int gr, .int l2_22, .int tl, .int mk])), (a1, .inl (cB, 60, .inl g_23))]) hP hD [1, 2] [0, 3, 4] rfl rfl (by decide +kernel) (by decide +kernel) hk1 hFc hP1 hD1
          clear hPc hDc hFc hP1 hD1 hk1 hz1 hkc hks
          generalize H1 = H at hP hS ⊢
          have hP : va_P D CL [(h0, .inr (7, [.ref im, .ref pr, .ref ra, .int cn, .int vw, .int wr])), (im, .inr (1, [.ref iq, .int L])), (iq, .inl (cB, n, .inl f)), (fo, .inr (2, [.ref a1, .ref a2, .int pa, .int de, .int so, .int si, .int se, .int mo, .int ow, .int gr, .int l2_22, .int tl, .int mk])), (a1, .inl (cB, 60, .inl g_23))] H := hP
          have hD : va_D A [(h0, .inr (7, [.ref im, .ref pr, .ref ra, .int cn, .int vw, .int wr])), (im, .inr (1, [.ref iq, .int L])), (iq, .inl (cB, n, .inl f)), (fo, .inr (2, [.ref a1, .ref a2, .int pa, .int de, .int so, .int si, .int se, .int mo, .int ow, .int gr, .int l2_22, .int tl, .int mk])), (a1, .inl (cB, 60, .inl g_23))] := hD
          try dsimp only at hp_r21
          have hl2_24 := hp_r21
          obtain ⟨v25, e_v25⟩ : ∃ z : Int32, z = kx + 2 := ⟨_, rfl⟩
          refine lv_iinc (v := v25) hx hb d_Reader_takeLongName_77 hl (k := 5) rfl e_v25.symm (by decide +kernel) rfl (fun ls hl => ?_)
          have t_v25 : v25.toInt = kx.toInt + 2 := by rw [e_v25]; exact i_add rfl (by decide) (by omega) (by omega)
          have hl : lv_has ls 6 [(4, .int v25), (5, .int v20), (0, .ref h0), (1, .ref fo), (2, .int x), (3, .int by9)] := hl
          refine lv_goto (tgt := 15) hx hb d_Reader_takeLongName_80 (by decide) ?_
          have hP := hP.sub (ws' := [(h0, .inr (7, [.ref im, .ref pr, .ref ra, .int cn, .int vw, .int wr])), (fo, .inr (2, [.ref a1, .ref a2, .int pa, .int de, .int so, .int si, .int se, .int mo, .int ow, .int gr, .int l2_22, .int tl, .int mk])), (a1, .inl (cB, 60, .inl g_23)), (im, .inr (1, [.ref iq, .int L])), (iq, .inl (cB, n, .inl f))]) [0, 3, 4, 1, 2] rfl
          have hD := hD.sub (ws' := [(h0, .inr (7, [.ref im, .ref pr, .ref ra, .int cn, .int vw, .int wr])), (fo, .inr (2, [.ref a1, .ref a2, .int pa, .int de, .int so, .int si, .int se, .int mo, .int ow, .int gr, .int l2_22, .int tl, .int mk])), (a1, .inl (cB, 60, .inl g_23)), (im, .inr (1, [.ref iq, .int L])), (iq, .inl (cB, n, .inl f))]) [0, 3, 4, 1, 2] (by decide +kernel) rfl
          have hl := lv_sub hl [2, 3, 4, 5, 0] rfl
          exact ih15 _ (by first | omega | (dsimp only; omega)) by9 v25 l2_22 g_23 _ _ _ rfl ((by (try dsimp only); first | assumption | omega | trivial)) ((by (try dsimp only); first | assumption | omega | trivial)) ((by (try dsimp only); first | assumption | omega | trivial)) hP hD hS hl
        · skip
          have g66_54 : ¬ v20.toInt ≤ 126 := fun h8 => h_9 ((i_le rfl (by decide)).mpr h8)
          refine lv_iconst (v := 0) hx hb d_Reader_takeLongName_69 (by decide) ?_
          have hP9 := hP.sub (ws' := [(h0, .inr (7, [.ref im, .ref pr, .ref ra, .int cn, .int vw, .int wr])), (im, .inr (1, [.ref iq, .int L])), (iq, .inl (cB, n, .inl f)), (fo, .inr (2, [.ref a1, .ref a2, .int pa, .int de, .int so, .int si, .int se, .int mo, .int ow, .int gr, .int ln, .int tl, .int mk])), (a1, .inl (cB, 60, .inl lf))]) [0, 3, 4, 1, 2] rfl
          have hD9 := hD.sub (ws' := [(h0, .inr (7, [.ref im, .ref pr, .ref ra, .int cn, .int vw, .int wr])), (im, .inr (1, [.ref iq, .int L])), (iq, .inl (cB, n, .inl f)), (fo, .inr (2, [.ref a1, .ref a2, .int pa, .int de, .int so, .int si, .int se, .int mo, .int ow, .int gr, .int ln, .int tl, .int mk])), (a1, .inl (cB, 60, .inl lf))]) [0, 3, 4, 1, 2] (by decide +kernel) rfl
          exact W.zret (v := 0) hx hb hr (by first | rfl | decide | exact i_narZ (by omega)) (fun t ht hW => ⟨⟨0, (ln, lf), rfl, ⟨(by (try dsimp only); first | assumption | omega | trivial), (by (try dsimp only); intro h7; first | (exfalso; omega) | omega | assumption)⟩, by rw [ht]; exact hP9, hD9⟩, hS.F ht⟩) hS.2.2 d_Reader_takeLongName_70
  · skip
    intro kk15
    have hP := hP.sub (ws' := [(h0, .inr (7, [.ref im, .ref pr, .ref ra, .int cn, .int vw, .int wr])), (fo, .inr (2, [.ref a1, .ref a2, .int pa, .int de, .int so, .int si, .int se, .int mo, .int ow, .int gr, .int nl, .int tl, .int mk])), (a1, .inl (cB, 60, .inl f1)), (im, .inr (1, [.ref iq, .int L])), (iq, .inl (cB, n, .inl f))]) [0, 1, 2, 3, 4] rfl
    have hD := hD.sub (ws' := [(h0, .inr (7, [.ref im, .ref pr, .ref ra, .int cn, .int vw, .int wr])), (fo, .inr (2, [.ref a1, .ref a2, .int pa, .int de, .int so, .int si, .int se, .int mo, .int ow, .int gr, .int nl, .int tl, .int mk])), (a1, .inl (cB, 60, .inl f1)), (im, .inr (1, [.ref iq, .int L])), (iq, .inl (cB, n, .inl f))]) [0, 1, 2, 3, 4] (by decide +kernel) rfl
    have hl := lv_sub hl [2, 3, 4, 1, 0] rfl
    exact kk15 _ r2 0 nl f1 _ _ _ rfl ((by (try dsimp only); first | assumption | omega | trivial)) ((by (try dsimp only); first | assumption | omega | trivial)) ((by (try dsimp only); first | assumption | omega | trivial)) hP hD hS hl

theorem d_Reader_describe_0 : decode b_Reader_describe 0 = .ok (.aload_n 0, 1) := by decide +kernel
theorem d_Reader_describe_1 : decode b_Reader_describe 1 = .ok (.getfield 34, 3) := by decide +kernel
theorem d_Reader_describe_4 : decode b_Reader_describe 4 = .ok (.iconst 1, 1) := by decide +kernel
theorem d_Reader_describe_5 : decode b_Reader_describe 5 = .ok (.if_icmp .ne 18, 3) := by decide +kernel
theorem d_Reader_describe_8 : decode b_Reader_describe 8 = .ok (.aload_n 0, 1) := by decide +kernel
theorem d_Reader_describe_9 : decode b_Reader_describe 9 = .ok (.aload_n 1, 1) := by decide +kernel
theorem d_Reader_describe_10 : decode b_Reader_describe 10 = .ok (.iload_n 2, 1) := by decide +kernel
theorem d_Reader_describe_11 : decode b_Reader_describe 11 = .ok (.invokevirtual 147, 3) := by decide +kernel
theorem d_Reader_describe_14 : decode b_Reader_describe 14 = .ok (.ifCond .eq 7, 3) := by decide +kernel
theorem d_Reader_describe_17 : decode b_Reader_describe 17 = .ok (.iconst (-1), 1) := by decide +kernel
theorem d_Reader_describe_18 : decode b_Reader_describe 18 = .ok (.goto 4, 3) := by decide +kernel
theorem d_Reader_describe_21 : decode b_Reader_describe 21 = .ok (.iload_n 2, 1) := by decide +kernel
theorem d_Reader_describe_22 : decode b_Reader_describe 22 = .ok (.ireturn, 1) := by decide +kernel
theorem d_Reader_describe_23 : decode b_Reader_describe 23 = .ok (.aload_n 0, 1) := by decide +kernel
theorem d_Reader_describe_24 : decode b_Reader_describe 24 = .ok (.getfield 34, 3) := by decide +kernel
theorem d_Reader_describe_27 : decode b_Reader_describe 27 = .ok (.iconst 2, 1) := by decide +kernel
theorem d_Reader_describe_28 : decode b_Reader_describe 28 = .ok (.if_icmp .ne 63, 3) := by decide +kernel
theorem d_Reader_describe_31 : decode b_Reader_describe 31 = .ok (.iload_n 2, 1) := by decide +kernel
theorem d_Reader_describe_32 : decode b_Reader_describe 32 = .ok (.bipush 33, 2) := by decide +kernel
theorem d_Reader_describe_34 : decode b_Reader_describe 34 = .ok (.aload_n 0, 1) := by decide +kernel
theorem d_Reader_describe_35 : decode b_Reader_describe 35 = .ok (.getfield 17, 3) := by decide +kernel
theorem d_Reader_describe_38 : decode b_Reader_describe 38 = .ok (.iload_n 2, 1) := by decide +kernel
theorem d_Reader_describe_39 : decode b_Reader_describe 39 = .ok (.bipush 32, 2) := by decide +kernel
theorem d_Reader_describe_41 : decode b_Reader_describe 41 = .ok (.iadd, 1) := by decide +kernel
theorem d_Reader_describe_42 : decode b_Reader_describe 42 = .ok (.invokevirtual 68, 3) := by decide +kernel
theorem d_Reader_describe_45 : decode b_Reader_describe 45 = .ok (.iadd, 1) := by decide +kernel
theorem d_Reader_describe_46 : decode b_Reader_describe 46 = .ok (.invokestatic 151, 3) := by decide +kernel
theorem d_Reader_describe_49 : decode b_Reader_describe 49 = .ok (.iadd, 1) := by decide +kernel
theorem d_Reader_describe_50 : decode b_Reader_describe 50 = .ok (.istore_n 3, 1) := by decide +kernel
theorem d_Reader_describe_51 : decode b_Reader_describe 51 = .ok (.aload_n 0, 1) := by decide +kernel
theorem d_Reader_describe_52 : decode b_Reader_describe 52 = .ok (.getfield 26, 3) := by decide +kernel
theorem d_Reader_describe_55 : decode b_Reader_describe 55 = .ok (.aload_n 1, 1) := by decide +kernel
theorem d_Reader_describe_56 : decode b_Reader_describe 56 = .ok (.iload_n 3, 1) := by decide +kernel
theorem d_Reader_describe_57 : decode b_Reader_describe 57 = .ok (.iload_n 2, 1) := by decide +kernel
theorem d_Reader_describe_58 : decode b_Reader_describe 58 = .ok (.aload_n 0, 1) := by decide +kernel
theorem d_Reader_describe_59 : decode b_Reader_describe 59 = .ok (.getfield 17, 3) := by decide +kernel
theorem d_Reader_describe_62 : decode b_Reader_describe 62 = .ok (.iload_n 2, 1) := by decide +kernel
theorem d_Reader_describe_63 : decode b_Reader_describe 63 = .ok (.invokevirtual 68, 3) := by decide +kernel
theorem d_Reader_describe_66 : decode b_Reader_describe 66 = .ok (.iadd, 1) := by decide +kernel
theorem d_Reader_describe_67 : decode b_Reader_describe 67 = .ok (.invokevirtual 154, 3) := by decide +kernel
theorem d_Reader_describe_70 : decode b_Reader_describe 70 = .ok (.istore 4, 2) := by decide +kernel
theorem d_Reader_describe_72 : decode b_Reader_describe 72 = .ok (.iload 4, 2) := by decide +kernel
theorem d_Reader_describe_74 : decode b_Reader_describe 74 = .ok (.iconst (-1), 1) := by decide +kernel
theorem d_Reader_describe_75 : decode b_Reader_describe 75 = .ok (.if_icmp .ne 13, 3) := by decide +kernel
theorem d_Reader_describe_78 : decode b_Reader_describe 78 = .ok (.aload_n 0, 1) := by decide +kernel
theorem d_Reader_describe_79 : decode b_Reader_describe 79 = .ok (.getfield 26, 3) := by decide +kernel
theorem d_Reader_describe_82 : decode b_Reader_describe 82 = .ok (.getfield 158, 3) := by decide +kernel
theorem d_Reader_describe_85 : decode b_Reader_describe 85 = .ok (.ifCond .eq 6, 3) := by decide +kernel
theorem d_Reader_describe_88 : decode b_Reader_describe 88 = .ok (.iload 4, 2) := by decide +kernel
theorem d_Reader_describe_90 : decode b_Reader_describe 90 = .ok (.ireturn, 1) := by decide +kernel
theorem d_Reader_describe_91 : decode b_Reader_describe 91 = .ok (.aload_n 0, 1) := by decide +kernel
theorem d_Reader_describe_92 : decode b_Reader_describe 92 = .ok (.aload_n 1, 1) := by decide +kernel
theorem d_Reader_describe_93 : decode b_Reader_describe 93 = .ok (.iload_n 2, 1) := by decide +kernel
theorem d_Reader_describe_94 : decode b_Reader_describe 94 = .ok (.invokevirtual 161, 3) := by decide +kernel
theorem d_Reader_describe_97 : decode b_Reader_describe 97 = .ok (.ifCond .eq 7, 3) := by decide +kernel
theorem d_Reader_describe_100 : decode b_Reader_describe 100 = .ok (.iconst (-1), 1) := by decide +kernel
theorem d_Reader_describe_101 : decode b_Reader_describe 101 = .ok (.goto 4, 3) := by decide +kernel
theorem d_Reader_describe_104 : decode b_Reader_describe 104 = .ok (.iload_n 2, 1) := by decide +kernel
theorem d_Reader_describe_105 : decode b_Reader_describe 105 = .ok (.ireturn, 1) := by decide +kernel
set_option maxHeartbeats 4000000 in
set_option maxRecDepth 100000 in
theorem c3_describe (l : Launch) (D : va_G) (cB cI cJ cZ cN cF : ClassId) (sz : Nat) (h0 : Nat) (pr : Nat) (ra : Nat) (im : Nat) (iq : Nat) (n : Nat) (L : Int32) (f : Nat → Int32) (cn : Int32) (vw : Int32) (wr : Int32) (fw : Value) (nm : Int32) (co : Int32) (ta : Int32) (lc : Int32) (fo : Nat) (a1 : Nat) (a2 : Nat) (pa : Int32) (de : Int32) (so : Int32) (si : Int32) (se : Int32) (mo : Int32) (ow : Int32) (gr : Int32) (nl : Int32) (tl : Int32) (mk : Int32) (f1 : Nat → Int32) (f2 : Nat → Int32) (x : Int32) (hL : 0 ≤ L.toInt ∧ L.toInt ≤ n) (hn : n ≤ 3000000) (hx : 0 ≤ x.toInt ∧ x.toInt ≤ 3000000) (hnl : 0 ≤ nl.toInt ∧ nl.toInt ≤ 60) (htl : tl.toInt = 0) : Met l y_Reader_describe w_Reader_describe ({ frames := 4, cells := 0, slots := 0, locals := 125 }) (va_Pc [.ref h0, .ref fo, .int x] (fun U => U.heap.size = sz ∧ va_P D CL [(h0, .inr (7, [.ref im, .ref pr, .ref ra, .int cn, .int vw, .int wr])), (pr, .inr (6, [.ref im, fw, .int nm, .int co, .int ta, .int lc])), (im, .inr (1, [.ref iq, .int L])), (iq, .inl (cB, n, .inl f)), (fo, .inr (2, [.ref a1, .ref a2, .int pa, .int de, .int so, .int si, .int se, .int mo, .int ow, .int gr, .int nl, .int tl, .int mk])), (a1, .inl (cB, 60, .inl f1)), (a2, .inl (cB, 400, .inl f2))] U.heap ∧ va_K D CL (TY cB cI cJ cZ cN cF) U ∧ NN U ∧ va_D (fun _ => True) [(h0, .inr (7, [.ref im, .ref pr, .ref ra, .int cn, .int vw, .int wr])), (pr, .inr (6, [.ref im, fw, .int nm, .int co, .int ta, .int lc])), (im, .inr (1, [.ref iq, .int L])), (iq, .inl (cB, n, .inl f)), (fo, .inr (2, [.ref a1, .ref a2, .int pa, .int de, .int so, .int si, .int se, .int mo, .int ow, .int gr, .int nl, .int tl, .int mk])), (a1, .inl (cB, 60, .inl f1)), (a2, .inl (cB, 400, .inl f2))])) (va_Qi (fun (r : Int32) (u : Value × Int32 × Int32 × Int32 × Int32 × Int32 × Int32 × Int32 × Int32 × Int32 × Int32 × (Nat → Int32) × (Nat → Int32)) => match u with | (fw2, nm2, co2, ta2, lc2, so2, mo2, ow2, gr2, nl2, tl2, g1, g2) => (r.toInt = -1 → (0 ≤ nl2.toInt ∧ nl2.toInt ≤ 60 ∧ 0 ≤ tl2.toInt ∧ tl2.toInt ≤ 400)) ∧ (so2.toInt = so.toInt ∨ so2.toInt = 2)) (fun (u : Value × Int32 × Int32 × Int32 × Int32 × Int32 × Int32 × Int32 × Int32 × Int32 × Int32 × (Nat → Int32) × (Nat → Int32)) (t : State) => match u with | (fw2, nm2, co2, ta2, lc2, so2, mo2, ow2, gr2, nl2, tl2, g1, g2) => va_P D CL [(h0, .inr (7, [.ref im, .ref pr, .ref ra, .int cn, .int vw, .int wr])), (pr, .inr (6, [.ref im, fw2, .int nm2, .int co2, .int ta2, .int lc2])), (im, .inr (1, [.ref iq, .int L])), (iq, .inl (cB, n, .inl f)), (fo, .inr (2, [.ref a1, .ref a2, .int pa, .int de, .int so2, .int si, .int se, .int mo2, .int ow2, .int gr2, .int nl2, .int tl2, .int mk])), (a1, .inl (cB, 60, .inl g1)), (a2, .inl (cB, 400, .inl g2))] t.heap ∧ va_D (va_A [(h0, .inr (7, [.ref im, .ref pr, .ref ra, .int cn, .int vw, .int wr])), (pr, .inr (6, [.ref im, fw, .int nm, .int co, .int ta, .int lc])), (im, .inr (1, [.ref iq, .int L])), (iq, .inl (cB, n, .inl f)), (fo, .inr (2, [.ref a1, .ref a2, .int pa, .int de, .int so, .int si, .int se, .int mo, .int ow, .int gr, .int nl, .int tl, .int mk])), (a1, .inl (cB, 60, .inl f1)), (a2, .inl (cB, 400, .inl f2))] sz) [(h0, .inr (7, [.ref im, .ref pr, .ref ra, .int cn, .int vw, .int wr])), (pr, .inr (6, [.ref im, fw2, .int nm2, .int co2, .int ta2, .int lc2])), (im, .inr (1, [.ref iq, .int L])), (iq, .inl (cB, n, .inl f)), (fo, .inr (2, [.ref a1, .ref a2, .int pa, .int de, .int so2, .int si, .int se, .int mo2, .int ow2, .int gr2, .int nl2, .int tl2, .int mk])), (a1, .inl (cB, 60, .inl g1)), (a2, .inl (cB, 400, .inl g2))]) (va_A [(h0, .inr (7, [.ref im, .ref pr, .ref ra, .int cn, .int vw, .int wr])), (pr, .inr (6, [.ref im, fw, .int nm, .int co, .int ta, .int lc])), (im, .inr (1, [.ref iq, .int L])), (iq, .inl (cB, n, .inl f)), (fo, .inr (2, [.ref a1, .ref a2, .int pa, .int de, .int so, .int si, .int se, .int mo, .int ow, .int gr, .int nl, .int tl, .int mk])), (a1, .inl (cB, 60, .inl f1)), (a2, .inl (cB, 400, .inl f2))] sz)) 0 0 (va_A [(h0, .inr (7, [.ref im, .ref pr, .ref ra, .int cn, .int vw, .int wr])), (pr, .inr (6, [.ref im, fw, .int nm, .int co, .int ta, .int lc])), (im, .inr (1, [.ref iq, .int L])), (iq, .inl (cB, n, .inl f)), (fo, .inr (2, [.ref a1, .ref a2, .int pa, .int de, .int so, .int si, .int se, .int mo, .int ow, .int gr, .int nl, .int tl, .int mk])), (a1, .inl (cB, 60, .inl f1)), (a2, .inl (cB, 400, .inl f2))] sz) := by
  refine Met.ofW (cc := b_Reader_describe) (maxL := 5) (ret := some .int) (by decide +kernel) rfl ?_
  intro p e s m args below meth c s₁ B hml hv
  obtain ⟨rfl, hsz, hP, hK, hN, hD0⟩ := hv
  have hx := B.exec
  have hb := B.bytes
  have hr := B.returns
  have hts := atoms_spec (ws := w_Reader_describe) B.pre
  have ht9 := fun (w : Cond) (h : w ∈ lw_g) => hts w (List.mem_cons_of_mem _ h)
  have hown : s.vm.findClass "DiscMaker$Reader" = some m.cls := findClass_of_methodNamed B.named
  have hlocks := B.notSynchronized
  subst hsz
  have hD := hD0.self (sz := s.heap.size)
  generalize hAe : va_A [(h0, .inr (7, [.ref im, .ref pr, .ref ra, .int cn, .int vw, .int wr])), (pr, .inr (6, [.ref im, fw, .int nm, .int co, .int ta, .int lc])), (im, .inr (1, [.ref iq, .int L])), (iq, .inl (cB, n, .inl f)), (fo, .inr (2, [.ref a1, .ref a2, .int pa, .int de, .int so, .int si, .int se, .int mo, .int ow, .int gr, .int nl, .int tl, .int mk])), (a1, .inl (cB, 60, .inl f1)), (a2, .inl (cB, 400, .inl f2))] s.heap.size = A at hD ⊢
  have hA : ∀ q : Nat, s.heap.size ≤ q → A q := fun q h => by rw [← hAe]; exact Or.inr h
  have hS : va_S A s.heap s.heap [] := va_S.rf
  have hP : va_P D CL [(h0, .inr (7, [.ref im, .ref pr, .ref ra, .int cn, .int vw, .int wr])), (pr, .inr (6, [.ref im, fw, .int nm, .int co, .int ta, .int lc])), (im, .inr (1, [.ref iq, .int L])), (iq, .inl (cB, n, .inl f)), (fo, .inr (2, [.ref a1, .ref a2, .int pa, .int de, .int so, .int si, .int se, .int mo, .int ow, .int gr, .int nl, .int tl, .int mk])), (a1, .inl (cB, 60, .inl f1)), (a2, .inl (cB, 400, .inl f2))] s.heap := hP
  have hl := lv_entry [.ref h0, .ref fo, .int x] (n := 5) (Nat.le_of_ble_eq_true rfl)
  rw [lg_entry_eq]
  generalize (lg_sl [.ref h0, .ref fo, .int x] ++ List.replicate (5 - (lg_sl [.ref h0, .ref fo, .int x]).length) Slot.unset).toArray = ls at hl ⊢
  have hl : lv_has ls 5 [(0, .ref h0), (1, .ref fo), (2, .int x)] := hl
  have L_m1 : ((-1) : Int32).toInt = (-1) := by decide
  have L_0 : (0 : Int32).toInt = 0 := by decide
  have L_1 : (1 : Int32).toInt = 1 := by decide
  have L_2 : (2 : Int32).toInt = 2 := by decide
  have L_32 : (32 : Int32).toInt = 32 := by decide
  have L_33 : (33 : Int32).toInt = 33 := by decide
  refine lv_aload_n hx hb d_Reader_describe_0 rfl (lv_at hl 0 rfl) ?_
  refine va_get (D := D) (ci := 7) (v := .int vw) (C := "DiscMaker$Reader") (T := F_Reader) (N := 6) hx hb ht9 in_Reader hown hK hP 0 rfl rfl 4 (by decide) (ht9 _ k416) (fun _ h9 => h9) rfl d_Reader_describe_1 ?_
  refine lv_iconst (v := 1) hx hb d_Reader_describe_4 (by decide) ?_
  refine lv_icmp_ne (tgt := 23) hx hb d_Reader_describe_5 (by decide) (fun h_9 => ?_) (fun h_9 => ?_)
  · skip
    have g5_4 : ¬ vw.toInt = 1 := fun h8 => h_9 ((i_eq rfl (by decide)).mpr h8)
    refine lv_aload_n hx hb d_Reader_describe_23 rfl (lv_at hl 0 rfl) ?_
    refine va_get (D := D) (ci := 7) (v := .int vw) (C := "DiscMaker$Reader") (T := F_Reader) (N := 6) hx hb ht9 in_Reader hown hK hP 0 rfl rfl 4 (by decide) (ht9 _ k416) (fun _ h9 => h9) rfl d_Reader_describe_24 ?_
    refine lv_iconst (v := 2) hx hb d_Reader_describe_27 (by decide) ?_
    refine lv_icmp_ne (tgt := 91) hx hb d_Reader_describe_28 (by decide) (fun h_9 => ?_) (fun h_9 => ?_)
    · skip
      have g28_8 : ¬ vw.toInt = 2 := fun h8 => h_9 ((i_eq rfl (by decide)).mpr h8)
      refine lv_aload_n hx hb d_Reader_describe_91 rfl (lv_at hl 0 rfl) ?_
      refine lv_aload_n hx hb d_Reader_describe_92 rfl (lv_at hl 1 rfl) ?_
      refine lv_iload_n hx hb d_Reader_describe_93 rfl (lv_at hl 2 rfl) ?_
      have hPc := hP.sub (ws' := [(h0, .inr (7, [.ref im, .ref pr, .ref ra, .int cn, .int vw, .int wr])), (im, .inr (1, [.ref iq, .int L])), (iq, .inl (cB, n, .inl f)), (fo, .inr (2, [.ref a1, .ref a2, .int pa, .int de, .int so, .int si, .int se, .int mo, .int ow, .int gr, .int nl, .int tl, .int mk])), (a1, .inl (cB, 60, .inl f1))]) [0, 2, 3, 4, 5] rfl
      have hDc := hD.sub (ws' := [(h0, .inr (7, [.ref im, .ref pr, .ref ra, .int cn, .int vw, .int wr])), (im, .inr (1, [.ref iq, .int L])), (iq, .inl (cB, n, .inl f)), (fo, .inr (2, [.ref a1, .ref a2, .int pa, .int de, .int so, .int si, .int se, .int mo, .int ow, .int gr, .int nl, .int tl, .int mk])), (a1, .inl (cB, 60, .inl f1))]) [0, 2, 3, 4, 5] (by decide +kernel) rfl
      have hFc := va_free (wc := [(h0, .inr (7, [.ref im, .ref pr, .ref ra, .int cn, .int vw, .int wr])), (im, .inr (1, [.ref iq, .int L])), (iq, .inl (cB, n, .inl f)), (fo, .inr (2, [.ref a1, .ref a2, .int pa, .int de, .int so, .int si, .int se, .int mo, .int ow, .int gr, .int nl, .int tl, .int mk])), (a1, .inl (cB, 60, .inl f1))]) hD hS hA [0, 2, 3, 4, 5] rfl
      have hkc : 0 ≤ 0 := by decide
      have hks : 0 ≤ 0 := by decide
      refine va_calli (va_runV (C := "DiscMaker$Reader") (As := [.ref fo, .int x]) (rest := []) ⟨hx, hb, hml, hown, hts⟩ (c3_takeShortName l D cB cI cJ cZ cN cF s.heap.size h0 pr ra im iq n L f cn vw wr fo a1 a2 pa de so si se mo ow gr nl tl mk f1 x (by (try dsimp only); first | assumption | omega | trivial) (by (try dsimp only); first | assumption | omega | trivial) (by (try dsimp only); first | assumption | omega | trivial) (by (try dsimp only); first | assumption | omega | trivial)) (cwV 2 hts (lg_goodV k1363 k1365 k50 k123 kc_Reader_takeShortName) rfl rfl rfl (by decide +kernel) ⟨Nat.le_of_ble_eq_true rfl, Nat.le_of_ble_eq_true rfl⟩) ⟨fun a U g mk q => by obtain ⟨q0, q1, qP, qK, qN, qD⟩ := q; exact ⟨q0, q1, qP, va_K.moved (u := U) (U := U.calling g mk a) (Vm.Alike.refl U.vm) qK, qN.calling, qD⟩, va_recv hK hP (ci := 7) (q0 := 0) rfl rfl, fun U hU hW => ⟨rfl, by rw [hU], by rw [hU]; exact hPc, va_K.moved hW.alike hK, NN.warm hW hN, hDc.weaken (fun _ _ _ _ => trivial)⟩⟩ rfl rfl hl.1 rfl (lv_room (Nat.le_of_ble_eq_true rfl)) d_Reader_describe_94 ⟨hkc, hks⟩) hS (fun q _ h => hFc q h) hFc (fun r1 u t H1 locs ht hvm hp_r1 hB hz1 hk1 hS => ?_)
      obtain ⟨nl2_2, g_3⟩ := u
      obtain ⟨hP1, hD1⟩ := hB
      rw [ht] at hP1
      obtain ⟨hP, hD⟩ := va_join (wr := [(pr, .inr (6, [.ref im, fw, .int nm, .int co, .int ta, .int lc])), (a2, .inl (cB, 400, .inl f2))]) (w1 := [(h0, .inr (7, [.ref im, .ref pr, .ref ra, .int cn, .int vw, .int wr])), (im, .inr (1, [.ref iq, .int L])), (iq, .inl (cB, n, .inl f)), (fo, .inr (2, [.ref a1, .ref a2, .int pa, .int de, .int so, .int si, .int se, .int mo, .int ow, .int gr, .int nl2_2, .int tl, .int mk])), (a1, .inl (cB, 60, .inl g_3))]) hP hD [0, 2, 3, 4, 5] [1, 6] rfl rfl (by decide +kernel) (by decide +kernel) hk1 hFc hP1 hD1
      clear hPc hDc hFc hP1 hD1 hk1 hz1 hkc hks
      generalize H1 = H at hP hS ⊢
      have hP : va_P D CL [(pr, .inr (6, [.ref im, fw, .int nm, .int co, .int ta, .int lc])), (a2, .inl (cB, 400, .inl f2)), (h0, .inr (7, [.ref im, .ref pr, .ref ra, .int cn, .int vw, .int wr])), (im, .inr (1, [.ref iq, .int L])), (iq, .inl (cB, n, .inl f)), (fo, .inr (2, [.ref a1, .ref a2, .int pa, .int de, .int so, .int si, .int se, .int mo, .int ow, .int gr, .int nl2_2, .int tl, .int mk])), (a1, .inl (cB, 60, .inl g_3))] H := hP
      have hD : va_D A [(pr, .inr (6, [.ref im, fw, .int nm, .int co, .int ta, .int lc])), (a2, .inl (cB, 400, .inl f2)), (h0, .inr (7, [.ref im, .ref pr, .ref ra, .int cn, .int vw, .int wr])), (im, .inr (1, [.ref iq, .int L])), (iq, .inl (cB, n, .inl f)), (fo, .inr (2, [.ref a1, .ref a2, .int pa, .int de, .int so, .int si, .int se, .int mo, .int ow, .int gr, .int nl2_2, .int tl, .int mk])), (a1, .inl (cB, 60, .inl g_3))] := hD
      try dsimp only at hp_r1
      obtain ⟨hr_4, hnl2_5⟩ := hp_r1
      refine lv_if_eq (tgt := 104) hx hb d_Reader_describe_97 (by decide) (fun h_9 => ?_) (fun h_9 => ?_)
      · skip
        have g97_13 : r1.toInt = 0 := (i_eq rfl (by decide)).mp h_9
        refine lv_iload_n hx hb d_Reader_describe_104 rfl (lv_at hl 2 rfl) ?_
        have hP9 := hP.sub (ws' := [(h0, .inr (7, [.ref im, .ref pr, .ref ra, .int cn, .int vw, .int wr])), (pr, .inr (6, [.ref im, fw, .int nm, .int co, .int ta, .int lc])), (im, .inr (1, [.ref iq, .int L])), (iq, .inl (cB, n, .inl f)), (fo, .inr (2, [.ref a1, .ref a2, .int pa, .int de, .int so, .int si, .int se, .int mo, .int ow, .int gr, .int nl2_2, .int tl, .int mk])), (a1, .inl (cB, 60, .inl g_3)), (a2, .inl (cB, 400, .inl f2))]) [2, 0, 3, 4, 5, 6, 1] rfl
        have hD9 := hD.sub (ws' := [(h0, .inr (7, [.ref im, .ref pr, .ref ra, .int cn, .int vw, .int wr])), (pr, .inr (6, [.ref im, fw, .int nm, .int co, .int ta, .int lc])), (im, .inr (1, [.ref iq, .int L])), (iq, .inl (cB, n, .inl f)), (fo, .inr (2, [.ref a1, .ref a2, .int pa, .int de, .int so, .int si, .int se, .int mo, .int ow, .int gr, .int nl2_2, .int tl, .int mk])), (a1, .inl (cB, 60, .inl g_3)), (a2, .inl (cB, 400, .inl f2))]) [2, 0, 3, 4, 5, 6, 1] (by decide +kernel) rfl
        exact W.iret (v := x) hx hb hr (fun t ht hW => ⟨⟨x, (fw, nm, co, ta, lc, so, mo, ow, gr, nl2_2, tl, g_3, f2), rfl, ⟨(by (try dsimp only); intro h7; first | (exfalso; omega) | omega), (by (try dsimp only); first | assumption | omega | trivial)⟩, by rw [ht]; exact hP9, hD9⟩, hS.F ht⟩) hS.2.2 d_Reader_describe_105
      · skip
        have g97_13 : ¬ r1.toInt = 0 := fun h8 => h_9 ((i_eq rfl (by decide)).mpr h8)
        refine lv_iconst (v := (-1)) hx hb d_Reader_describe_100 (by decide) ?_
        refine lv_goto (tgt := 105) hx hb d_Reader_describe_101 (by decide) ?_
        have hP9 := hP.sub (ws' := [(h0, .inr (7, [.ref im, .ref pr, .ref ra, .int cn, .int vw, .int wr])), (pr, .inr (6, [.ref im, fw, .int nm, .int co, .int ta, .int lc])), (im, .inr (1, [.ref iq, .int L])), (iq, .inl (cB, n, .inl f)), (fo, .inr (2, [.ref a1, .ref a2, .int pa, .int de, .int so, .int si, .int se, .int mo, .int ow, .int gr, .int nl2_2, .int tl, .int mk])), (a1, .inl (cB, 60, .inl g_3)), (a2, .inl (cB, 400, .inl f2))]) [2, 0, 3, 4, 5, 6, 1] rfl
        have hD9 := hD.sub (ws' := [(h0, .inr (7, [.ref im, .ref pr, .ref ra, .int cn, .int vw, .int wr])), (pr, .inr (6, [.ref im, fw, .int nm, .int co, .int ta, .int lc])), (im, .inr (1, [.ref iq, .int L])), (iq, .inl (cB, n, .inl f)), (fo, .inr (2, [.ref a1, .ref a2, .int pa, .int de, .int so, .int si, .int se, .int mo, .int ow, .int gr, .int nl2_2, .int tl, .int mk])), (a1, .inl (cB, 60, .inl g_3)), (a2, .inl (cB, 400, .inl f2))]) [2, 0, 3, 4, 5, 6, 1] (by decide +kernel) rfl
        exact W.iret (v := (-1)) hx hb hr (fun t ht hW => ⟨⟨(-1), (fw, nm, co, ta, lc, so, mo, ow, gr, nl2_2, tl, g_3, f2), rfl, ⟨(by (try dsimp only); intro h7; first | (exfalso; omega) | omega), (by (try dsimp only); first | assumption | omega | trivial)⟩, by rw [ht]; exact hP9, hD9⟩, hS.F ht⟩) hS.2.2 d_Reader_describe_105
    · skip
      have g28_8 : vw.toInt = 2 := (i_eq rfl (by decide)).mp h_9
      refine lv_iload_n hx hb d_Reader_describe_31 rfl (lv_at hl 2 rfl) ?_
      refine lv_bipush (v := 33) hx hb d_Reader_describe_32 (by decide) ?_
      refine lv_aload_n hx hb d_Reader_describe_34 rfl (lv_at hl 0 rfl) ?_
      refine va_get (D := D) (ci := 7) (v := .ref im) (C := "DiscMaker$Reader") (T := F_Reader) (N := 6) hx hb ht9 in_Reader hown hK hP 0 rfl rfl 0 (by decide) (ht9 _ k412) (fun _ h9 => h9) rfl d_Reader_describe_35 ?_
      refine lv_iload_n hx hb d_Reader_describe_38 rfl (lv_at hl 2 rfl) ?_
      refine lv_bipush (v := 32) hx hb d_Reader_describe_39 (by decide) ?_
      refine lv_iadd hx hb d_Reader_describe_41 ?_
      refine lv_topi (fun v6 e_v6 => ?_)
      have t_v6 : v6.toInt = x.toInt + 32 := by rw [e_v6]; exact i_add rfl (by decide) (by omega) (by omega)
      have hPc := hP.sub (ws' := [(im, .inr (1, [.ref iq, .int L])), (iq, .inl (cB, n, .inl f))]) [2, 3] rfl
      have hDc := hD.sub (ws' := [(im, .inr (1, [.ref iq, .int L])), (iq, .inl (cB, n, .inl f))]) [2, 3] (by decide +kernel) rfl
      have hFc := va_free (wc := [(im, .inr (1, [.ref iq, .int L])), (iq, .inl (cB, n, .inl f))]) hD hS hA [2, 3] rfl
      have hkc : 0 ≤ 0 := by decide
      have hks : 0 ≤ 0 := by decide
      refine va_calli (va_runV (C := "DiscMaker$Bytes") (As := [.int v6]) (rest := [.int 33, .int x]) ⟨hx, hb, hml, hown, hts⟩ (c3_at l D cB cI cJ cZ cN cF s.heap.size im iq n L f v6 (by (try dsimp only); first | assumption | omega | trivial) (by (try dsimp only); first | assumption | omega | trivial)) (cwV 1 hts (lg_goodV k1179 k1065 k1066 k119 kc_Bytes_at) rfl rfl rfl (by decide +kernel) ⟨Nat.le_of_ble_eq_true rfl, Nat.le_of_ble_eq_true rfl⟩) ⟨fun a U g mk q => by obtain ⟨q0, q1, qP, qK, qN, qD⟩ := q; exact ⟨q0, q1, qP, va_K.moved (u := U) (U := U.calling g mk a) (Vm.Alike.refl U.vm) qK, qN.calling, qD⟩, va_recv hK hP (ci := 1) (q0 := 2) rfl rfl, fun U hU hW => ⟨rfl, by rw [hU], by rw [hU]; exact hPc, va_K.moved hW.alike hK, NN.warm hW hN, hDc.weaken (fun _ _ _ _ => trivial)⟩⟩ rfl rfl hl.1 rfl (lv_room (Nat.le_of_ble_eq_true rfl)) d_Reader_describe_42 ⟨hkc, hks⟩) hS (fun q _ h => hFc q h) hFc (fun r7 u t H1 locs ht hvm hp_r7 hB hz1 hk1 hS => ?_)
      obtain ⟨hP1, hD1⟩ := hB
      rw [ht] at hP1
      obtain ⟨hP, hD⟩ := va_join (wr := [(h0, .inr (7, [.ref im, .ref pr, .ref ra, .int cn, .int vw, .int wr])), (pr, .inr (6, [.ref im, fw, .int nm, .int co, .int ta, .int lc])), (fo, .inr (2, [.ref a1, .ref a2, .int pa, .int de, .int so, .int si, .int se, .int mo, .int ow, .int gr, .int nl, .int tl, .int mk])), (a1, .inl (cB, 60, .inl f1)), (a2, .inl (cB, 400, .inl f2))]) (w1 := [(im, .inr (1, [.ref iq, .int L])), (iq, .inl (cB, n, .inl f))]) hP hD [2, 3] [0, 1, 4, 5, 6] rfl rfl (by decide +kernel) (by decide +kernel) hk1 hFc hP1 hD1
      clear hPc hDc hFc hP1 hD1 hk1 hz1 hkc hks
      generalize H1 = H at hP hS ⊢
      have hP : va_P D CL [(h0, .inr (7, [.ref im, .ref pr, .ref ra, .int cn, .int vw, .int wr])), (pr, .inr (6, [.ref im, fw, .int nm, .int co, .int ta, .int lc])), (fo, .inr (2, [.ref a1, .ref a2, .int pa, .int de, .int so, .int si, .int se, .int mo, .int ow, .int gr, .int nl, .int tl, .int mk])), (a1, .inl (cB, 60, .inl f1)), (a2, .inl (cB, 400, .inl f2)), (im, .inr (1, [.ref iq, .int L])), (iq, .inl (cB, n, .inl f))] H := hP
      have hD : va_D A [(h0, .inr (7, [.ref im, .ref pr, .ref ra, .int cn, .int vw, .int wr])), (pr, .inr (6, [.ref im, fw, .int nm, .int co, .int ta, .int lc])), (fo, .inr (2, [.ref a1, .ref a2, .int pa, .int de, .int so, .int si, .int se, .int mo, .int ow, .int gr, .int nl, .int tl, .int mk])), (a1, .inl (cB, 60, .inl f1)), (a2, .inl (cB, 400, .inl f2)), (im, .inr (1, [.ref iq, .int L])), (iq, .inl (cB, n, .inl f))] := hD
      try dsimp only at hp_r7
      obtain ⟨hr_8, hv_9⟩ := hp_r7
      refine lv_iadd hx hb d_Reader_describe_45 ?_
      refine lv_topi (fun v10 e_v10 => ?_)
      have t_v10 : v10.toInt = 33 + r7.toInt := by rw [e_v10]; exact i_add (by decide) rfl (by omega) (by omega)
      have hPc := hP.sub (ws' := []) [] rfl
      have hDc := hD.sub (ws' := []) [] (by decide +kernel) rfl
      have hFc := va_free (wc := []) hD hS hA [] rfl
      have hkc : 0 ≤ 0 := by decide
      have hks : 0 ≤ 0 := by decide
      refine va_calli (va_runSN (As := [.int v10]) (rest := [.int x]) ⟨hx, hb, hml, hown, hts⟩ (c3_even l D cB cI cJ cZ cN cF H.size v10 (by (try dsimp only); first | assumption | omega | trivial)) ⟨va_cnB 1 hts (lg_good kc_DiscMaker_even) rfl rfl rfl (hN _ k1316) (ht9 _ k115) (by decide +kernel) ⟨Nat.le_of_ble_eq_true rfl, Nat.le_of_ble_eq_true rfl⟩, ht9 _ k999, trivial⟩ ⟨fun a U g mk q => by obtain ⟨q0, q1, qP, qK, qN, qD⟩ := q; exact ⟨q0, q1, qP, va_K.moved (u := U) (U := U.calling g mk a) (Vm.Alike.refl U.vm) qK, qN.calling, qD⟩, fun U hU hW => ⟨rfl, by rw [hU], by rw [hU]; exact hPc, va_K.moved hW.alike hK, NN.warm hW hN, hDc.weaken (fun _ _ _ _ => trivial)⟩⟩ rfl rfl hl.1 rfl (lv_room (Nat.le_of_ble_eq_true rfl)) d_Reader_describe_46 ⟨hkc, hks⟩) hS (fun q _ h => hFc q h) hFc (fun r11 u t H1 locs ht hvm hp_r11 hB hz1 hk1 hS => ?_)
      obtain ⟨hP1, hD1⟩ := hB
      rw [ht] at hP1
      obtain ⟨hP, hD⟩ := va_join (wr := [(h0, .inr (7, [.ref im, .ref pr, .ref ra, .int cn, .int vw, .int wr])), (pr, .inr (6, [.ref im, fw, .int nm, .int co, .int ta, .int lc])), (fo, .inr (2, [.ref a1, .ref a2, .int pa, .int de, .int so, .int si, .int se, .int mo, .int ow, .int gr, .int nl, .int tl, .int mk])), (a1, .inl (cB, 60, .inl f1)), (a2, .inl (cB, 400, .inl f2)), (im, .inr (1, [.ref iq, .int L])), (iq, .inl (cB, n, .inl f))]) (w1 := []) hP hD [] [0, 1, 2, 3, 4, 5, 6] rfl rfl (by decide +kernel) (by decide +kernel) hk1 hFc hP1 hD1
      clear hPc hDc hFc hP1 hD1 hk1 hz1 hkc hks
      generalize H1 = H at hP hS ⊢
      have hP : va_P D CL [(h0, .inr (7, [.ref im, .ref pr, .ref ra, .int cn, .int vw, .int wr])), (pr, .inr (6, [.ref im, fw, .int nm, .int co, .int ta, .int lc])), (fo, .inr (2, [.ref a1, .ref a2, .int pa, .int de, .int so, .int si, .int se, .int mo, .int ow, .int gr, .int nl, .int tl, .int mk])), (a1, .inl (cB, 60, .inl f1)), (a2, .inl (cB, 400, .inl f2)), (im, .inr (1, [.ref iq, .int L])), (iq, .inl (cB, n, .inl f))] H := hP
      have hD : va_D A [(h0, .inr (7, [.ref im, .ref pr, .ref ra, .int cn, .int vw, .int wr])), (pr, .inr (6, [.ref im, fw, .int nm, .int co, .int ta, .int lc])), (fo, .inr (2, [.ref a1, .ref a2, .int pa, .int de, .int so, .int si, .int se, .int mo, .int ow, .int gr, .int nl, .int tl, .int mk])), (a1, .inl (cB, 60, .inl f1)), (a2, .inl (cB, 400, .inl f2)), (im, .inr (1, [.ref iq, .int L])), (iq, .inl (cB, n, .inl f))] := hD
      try dsimp only at hp_r11
      have hv_12 := hp_r11
      refine lv_iadd hx hb d_Reader_describe_49 ?_
      refine lv_topi (fun v13 e_v13 => ?_)
      have t_v13 : v13.toInt = x.toInt + r11.toInt := by rw [e_v13]; exact i_add rfl rfl (by omega) (by omega)
      refine lv_istore_n hx hb d_Reader_describe_50 rfl hl (by decide) rfl (fun ls hl => ?_)
      have hl : lv_has ls 5 [(3, .int v13), (0, .ref h0), (1, .ref fo), (2, .int x)] := hl
      refine lv_aload_n hx hb d_Reader_describe_51 rfl (lv_at hl 1 rfl) ?_
      refine va_get (D := D) (ci := 7) (v := .ref pr) (C := "DiscMaker$Reader") (T := F_Reader) (N := 6) hx hb ht9 in_Reader hown hK hP 0 rfl rfl 1 (by decide) (ht9 _ k413) (fun _ h9 => h9) rfl d_Reader_describe_52 ?_
      refine lv_aload_n hx hb d_Reader_describe_55 rfl (lv_at hl 2 rfl) ?_
      refine lv_iload_n hx hb d_Reader_describe_56 rfl (lv_at hl 0 rfl) ?_
      refine lv_iload_n hx hb d_Reader_describe_57 rfl (lv_at hl 3 rfl) ?_
      refine lv_aload_n hx hb d_Reader_describe_58 rfl (lv_at hl 1 rfl) ?_
      refine va_get (D := D) (ci := 7) (v := .ref im) (C := "DiscMaker$Reader") (T := F_Reader) (N := 6) hx hb ht9 in_Reader hown hK hP 0 rfl rfl 0 (by decide) (ht9 _ k412) (fun _ h9 => h9) rfl d_Reader_describe_59 ?_
      refine lv_iload_n hx hb d_Reader_describe_62 rfl (lv_at hl 3 rfl) ?_
      have hPc := hP.sub (ws' := [(im, .inr (1, [.ref iq, .int L])), (iq, .inl (cB, n, .inl f))]) [5, 6] rfl
      have hDc := hD.sub (ws' := [(im, .inr (1, [.ref iq, .int L])), (iq, .inl (cB, n, .inl f))]) [5, 6] (by decide +kernel) rfl
      have hFc := va_free (wc := [(im, .inr (1, [.ref iq, .int L])), (iq, .inl (cB, n, .inl f))]) hD hS hA [5, 6] rfl
      have hkc : 0 ≤ 0 := by decide
      have hks : 0 ≤ 0 := by decide
      refine va_calli (va_runV (C := "DiscMaker$Bytes") (As := [.int x]) (rest := [.int x, .int v13, .ref fo, .ref pr]) ⟨hx, hb, hml, hown, hts⟩ (c3_at l D cB cI cJ cZ cN cF H.size im iq n L f x (by (try dsimp only); first | assumption | omega | trivial) (by (try dsimp only); first | assumption | omega | trivial)) (cwV 1 hts (lg_goodV k1179 k1065 k1066 k119 kc_Bytes_at) rfl rfl rfl (by decide +kernel) ⟨Nat.le_of_ble_eq_true rfl, Nat.le_of_ble_eq_true rfl⟩) ⟨fun a U g mk q => by obtain ⟨q0, q1, qP, qK, qN, qD⟩ := q; exact ⟨q0, q1, qP, va_K.moved (u := U) (U := U.calling g mk a) (Vm.Alike.refl U.vm) qK, qN.calling, qD⟩, va_recv hK hP (ci := 1) (q0 := 5) rfl rfl, fun U hU hW => ⟨rfl, by rw [hU], by rw [hU]; exact hPc, va_K.moved hW.alike hK, NN.warm hW hN, hDc.weaken (fun _ _ _ _ => trivial)⟩⟩ rfl rfl hl.1 rfl (lv_room (Nat.le_of_ble_eq_true rfl)) d_Reader_describe_63 ⟨hkc, hks⟩) hS (fun q _ h => hFc q h) hFc (fun r14 u t H1 locs ht hvm hp_r14 hB hz1 hk1 hS => ?_)
      obtain ⟨hP1, hD1⟩ := hB
      rw [ht] at hP1
      obtain ⟨hP, hD⟩ := va_join (wr := [(h0, .inr (7, [.ref im, .ref pr, .ref ra, .int cn, .int vw, .int wr])), (pr, .inr (6, [.ref im, fw, .int nm, .int co, .int ta, .int lc])), (fo, .inr (2, [.ref a1, .ref a2, .int pa, .int de, .int so, .int si, .int se, .int mo, .int ow, .int gr, .int nl, .int tl, .int mk])), (a1, .inl (cB, 60, .inl f1)), (a2, .inl (cB, 400, .inl f2))]) (w1 := [(im, .inr (1, [.ref iq, .int L])), (iq, .inl (cB, n, .inl f))]) hP hD [5, 6] [0, 1, 2, 3, 4] rfl rfl (by decide +kernel) (by decide +kernel) hk1 hFc hP1 hD1
      clear hPc hDc hFc hP1 hD1 hk1 hz1 hkc hks
      generalize H1 = H at hP hS ⊢
      have hP : va_P D CL [(h0, .inr (7, [.ref im, .ref pr, .ref ra, .int cn, .int vw, .int wr])), (pr, .inr (6, [.ref im, fw, .int nm, .int co, .int ta, .int lc])), (fo, .inr (2, [.ref a1, .ref a2, .int pa, .int de, .int so, .int si, .int se, .int mo, .int ow, .int gr, .int nl, .int tl, .int mk])), (a1, .inl (cB, 60, .inl f1)), (a2, .inl (cB, 400, .inl f2)), (im, .inr (1, [.ref iq, .int L])), (iq, .inl (cB, n, .inl f))] H := hP
      have hD : va_D A [(h0, .inr (7, [.ref im, .ref pr, .ref ra, .int cn, .int vw, .int wr])), (pr, .inr (6, [.ref im, fw, .int nm, .int co, .int ta, .int lc])), (fo, .inr (2, [.ref a1, .ref a2, .int pa, .int de, .int so, .int si, .int se, .int mo, .int ow, .int gr, .int nl, .int tl, .int mk])), (a1, .inl (cB, 60, .inl f1)), (a2, .inl (cB, 400, .inl f2)), (im, .inr (1, [.ref iq, .int L])), (iq, .inl (cB, n, .inl f))] := hD
      try dsimp only at hp_r14
      obtain ⟨hr_15, hv_16⟩ := hp_r14
      refine lv_iadd hx hb d_Reader_describe_66 ?_
      refine lv_topi (fun v17 e_v17 => ?_)
      have t_v17 : v17.toInt = x.toInt + r14.toInt := by rw [e_v17]; exact i_add rfl rfl (by omega) (by omega)
      have hPc := hP.sub (ws' := [(pr, .inr (6, [.ref im, fw, .int nm, .int co, .int ta, .int lc])), (im, .inr (1, [.ref iq, .int L])), (iq, .inl (cB, n, .inl f)), (fo, .inr (2, [.ref a1, .ref a2, .int pa, .int de, .int so, .int si, .int se, .int mo, .int ow, .int gr, .int nl, .int tl, .int mk])), (a1, .inl (cB, 60, .inl f1)), (a2, .inl (cB, 400, .inl f2))]) [1, 5, 6, 2, 3, 4] rfl
      have hDc := hD.sub (ws' := [(pr, .inr (6, [.ref im, fw, .int nm, .int co, .int ta, .int lc])), (im, .inr (1, [.ref iq, .int L])), (iq, .inl (cB, n, .inl f)), (fo, .inr (2, [.ref a1, .ref a2, .int pa, .int de, .int so, .int si, .int se, .int mo, .int ow, .int gr, .int nl, .int tl, .int mk])), (a1, .inl (cB, 60, .inl f1)), (a2, .inl (cB, 400, .inl f2))]) [1, 5, 6, 2, 3, 4] (by decide +kernel) rfl
      have hFc := va_free (wc := [(pr, .inr (6, [.ref im, fw, .int nm, .int co, .int ta, .int lc])), (im, .inr (1, [.ref iq, .int L])), (iq, .inl (cB, n, .inl f)), (fo, .inr (2, [.ref a1, .ref a2, .int pa, .int de, .int so, .int si, .int se, .int mo, .int ow, .int gr, .int nl, .int tl, .int mk])), (a1, .inl (cB, 60, .inl f1)), (a2, .inl (cB, 400, .inl f2))]) hD hS hA [1, 5, 6, 2, 3, 4] rfl
      have hkc : 0 ≤ 0 := by decide
      have hks : 0 ≤ 0 := by decide
      refine va_calli (va_runV (C := "DiscMaker$PartsReader") (As := [.ref fo, .int v13, .int v17]) (rest := []) ⟨hx, hb, hml, hown, hts⟩ (c3_goThrough l D cB cI cJ cZ cN cF H.size pr fo im iq n L f nm co ta lc fw a1 a2 pa de so si se mo ow gr nl tl mk f1 f2 v13 v17 (by (try dsimp only); first | assumption | omega | trivial) (by (try dsimp only); first | assumption | omega | trivial) (by (try dsimp only); first | assumption | omega | trivial) (by (try dsimp only); first | assumption | omega | trivial) (by (try dsimp only); first | assumption | omega | trivial) (by (try dsimp only); first | assumption | omega | trivial)) (cwV 3 hts (lg_goodV k1317 k1318 k1319 k124 kc_PartsReader_goThrough) rfl rfl rfl (by decide +kernel) ⟨Nat.le_of_ble_eq_true rfl, Nat.le_of_ble_eq_true rfl⟩) ⟨fun a U g mk q => by obtain ⟨q0, q1, qP, qK, qN, qD⟩ := q; exact ⟨q0, q1, qP, va_K.moved (u := U) (U := U.calling g mk a) (Vm.Alike.refl U.vm) qK, qN.calling, qD⟩, va_recv hK hP (ci := 6) (q0 := 1) rfl rfl, fun U hU hW => ⟨rfl, by rw [hU], by rw [hU]; exact hPc, va_K.moved hW.alike hK, NN.warm hW hN, hDc.weaken (fun _ _ _ _ => trivial)⟩⟩ rfl rfl hl.1 rfl (lv_room (Nat.le_of_ble_eq_true rfl)) d_Reader_describe_67 ⟨hkc, hks⟩) hS (fun q _ h => hFc q h) hFc (fun r18 u t H1 locs ht hvm hp_r18 hB hz1 hk1 hS => ?_)
      obtain ⟨nm2_19, co2_20, ta2_21, lc2_22, so2_23, mo2_24, ow2_25, gr2_26, nl2_27, tl2_28, g1_29, g2_30⟩ := u
      obtain ⟨hP1, hD1⟩ := hB
      rw [ht] at hP1
      obtain ⟨hP, hD⟩ := va_join (wr := [(h0, .inr (7, [.ref im, .ref pr, .ref ra, .int cn, .int vw, .int wr]))]) (w1 := [(pr, .inr (6, [.ref im, .ref fo, .int nm2_19, .int co2_20, .int ta2_21, .int lc2_22])), (im, .inr (1, [.ref iq, .int L])), (iq, .inl (cB, n, .inl f)), (fo, .inr (2, [.ref a1, .ref a2, .int pa, .int de, .int so2_23, .int si, .int se, .int mo2_24, .int ow2_25, .int gr2_26, .int nl2_27, .int tl2_28, .int mk])), (a1, .inl (cB, 60, .inl g1_29)), (a2, .inl (cB, 400, .inl g2_30))]) hP hD [1, 5, 6, 2, 3, 4] [0] rfl rfl (by decide +kernel) (by decide +kernel) hk1 hFc hP1 hD1
      clear hPc hDc hFc hP1 hD1 hk1 hz1 hkc hks
      generalize H1 = H at hP hS ⊢
      have hP : va_P D CL [(h0, .inr (7, [.ref im, .ref pr, .ref ra, .int cn, .int vw, .int wr])), (pr, .inr (6, [.ref im, .ref fo, .int nm2_19, .int co2_20, .int ta2_21, .int lc2_22])), (im, .inr (1, [.ref iq, .int L])), (iq, .inl (cB, n, .inl f)), (fo, .inr (2, [.ref a1, .ref a2, .int pa, .int de, .int so2_23, .int si, .int se, .int mo2_24, .int ow2_25, .int gr2_26, .int nl2_27, .int tl2_28, .int mk])), (a1, .inl (cB, 60, .inl g1_29)), (a2, .inl (cB, 400, .inl g2_30))] H := hP
      have hD : va_D A [(h0, .inr (7, [.ref im, .ref pr, .ref ra, .int cn, .int vw, .int wr])), (pr, .inr (6, [.ref im, .ref fo, .int nm2_19, .int co2_20, .int ta2_21, .int lc2_22])), (im, .inr (1, [.ref iq, .int L])), (iq, .inl (cB, n, .inl f)), (fo, .inr (2, [.ref a1, .ref a2, .int pa, .int de, .int so2_23, .int si, .int se, .int mo2_24, .int ow2_25, .int gr2_26, .int nl2_27, .int tl2_28, .int mk])), (a1, .inl (cB, 60, .inl g1_29)), (a2, .inl (cB, 400, .inl g2_30))] := hD
      try dsimp only at hp_r18
      obtain ⟨hok_31, hso_32⟩ := hp_r18
      refine lv_istore hx hb d_Reader_describe_70 hl (by decide) rfl (fun ls hl => ?_)
      have hl : lv_has ls 5 [(4, .int r18), (3, .int v13), (0, .ref h0), (1, .ref fo), (2, .int x)] := hl
      refine lv_iload hx hb d_Reader_describe_72 (lv_at hl 0 rfl) ?_
      refine lv_iconst (v := (-1)) hx hb d_Reader_describe_74 (by decide) ?_
      refine lv_icmp_ne (tgt := 88) hx hb d_Reader_describe_75 (by decide) (fun h_9 => ?_) (fun h_9 => ?_)
      · skip
        have g75_45 : ¬ r18.toInt = (-1) := fun h8 => h_9 ((i_eq rfl (by decide)).mpr h8)
        refine lv_iload hx hb d_Reader_describe_88 (lv_at hl 0 rfl) ?_
        have hP9 := hP.sub (ws' := [(h0, .inr (7, [.ref im, .ref pr, .ref ra, .int cn, .int vw, .int wr])), (pr, .inr (6, [.ref im, .ref fo, .int nm2_19, .int co2_20, .int ta2_21, .int lc2_22])), (im, .inr (1, [.ref iq, .int L])), (iq, .inl (cB, n, .inl f)), (fo, .inr (2, [.ref a1, .ref a2, .int pa, .int de, .int so2_23, .int si, .int se, .int mo2_24, .int ow2_25, .int gr2_26, .int nl2_27, .int tl2_28, .int mk])), (a1, .inl (cB, 60, .inl g1_29)), (a2, .inl (cB, 400, .inl g2_30))]) [0, 1, 2, 3, 4, 5, 6] rfl
        have hD9 := hD.sub (ws' := [(h0, .inr (7, [.ref im, .ref pr, .ref ra, .int cn, .int vw, .int wr])), (pr, .inr (6, [.ref im, .ref fo, .int nm2_19, .int co2_20, .int ta2_21, .int lc2_22])), (im, .inr (1, [.ref iq, .int L])), (iq, .inl (cB, n, .inl f)), (fo, .inr (2, [.ref a1, .ref a2, .int pa, .int de, .int so2_23, .int si, .int se, .int mo2_24, .int ow2_25, .int gr2_26, .int nl2_27, .int tl2_28, .int mk])), (a1, .inl (cB, 60, .inl g1_29)), (a2, .inl (cB, 400, .inl g2_30))]) [0, 1, 2, 3, 4, 5, 6] (by decide +kernel) rfl
        exact W.iret (v := r18) hx hb hr (fun t ht hW => ⟨⟨r18, (.ref fo, nm2_19, co2_20, ta2_21, lc2_22, so2_23, mo2_24, ow2_25, gr2_26, nl2_27, tl2_28, g1_29, g2_30), rfl, ⟨(by (try dsimp only); intro h7; first | (exfalso; omega) | omega), (by (try dsimp only); first | assumption | omega | trivial)⟩, by rw [ht]; exact hP9, hD9⟩, hS.F ht⟩) hS.2.2 d_Reader_describe_90
      · skip
        have g75_45 : r18.toInt = (-1) := (i_eq rfl (by decide)).mp h_9
        refine lv_aload_n hx hb d_Reader_describe_78 rfl (lv_at hl 2 rfl) ?_
        refine va_get (D := D) (ci := 7) (v := .ref pr) (C := "DiscMaker$Reader") (T := F_Reader) (N := 6) hx hb ht9 in_Reader hown hK hP 0 rfl rfl 1 (by decide) (ht9 _ k413) (fun _ h9 => h9) rfl d_Reader_describe_79 ?_
        refine va_getN (D := D) (ci := 6) (v := .int nm2_19) (C := "DiscMaker$PartsReader") (T := F_PartsReader) (N := 6) hx hb ht9 in_PartsReader hown hK hP 1 rfl rfl 2 (by decide) (va_Nw.use rfl (hN _ k395)) (fun _ h9 => h9) rfl d_Reader_describe_82 ?_
        refine lv_if_eq (tgt := 91) hx hb d_Reader_describe_85 (by decide) (fun h_9 => ?_) (fun h_9 => ?_)
        · skip
          have g85_51 : nm2_19.toInt = 0 := (i_eq rfl (by decide)).mp h_9
          refine lv_aload_n hx hb d_Reader_describe_91 rfl (lv_at hl 2 rfl) ?_
          refine lv_aload_n hx hb d_Reader_describe_92 rfl (lv_at hl 3 rfl) ?_
          refine lv_iload_n hx hb d_Reader_describe_93 rfl (lv_at hl 4 rfl) ?_
          have hPc := hP.sub (ws' := [(h0, .inr (7, [.ref im, .ref pr, .ref ra, .int cn, .int vw, .int wr])), (im, .inr (1, [.ref iq, .int L])), (iq, .inl (cB, n, .inl f)), (fo, .inr (2, [.ref a1, .ref a2, .int pa, .int de, .int so2_23, .int si, .int se, .int mo2_24, .int ow2_25, .int gr2_26, .int nl2_27, .int tl2_28, .int mk])), (a1, .inl (cB, 60, .inl g1_29))]) [0, 2, 3, 4, 5] rfl
          have hDc := hD.sub (ws' := [(h0, .inr (7, [.ref im, .ref pr, .ref ra, .int cn, .int vw, .int wr])), (im, .inr (1, [.ref iq, .int L])), (iq, .inl (cB, n, .inl f)), (fo, .inr (2, [.ref a1, .ref a2, .int pa, .int de, .int so2_23, .int si, .int se, .int mo2_24, .int ow2_25, .int gr2_26, .int nl2_27, .int tl2_28, .int mk])), (a1, .inl (cB, 60, .inl g1_29))]) [0, 2, 3, 4, 5] (by decide +kernel) rfl
          have hFc := va_free (wc := [(h0, .inr (7, [.ref im, .ref pr, .ref ra, .int cn, .int vw, .int wr])), (im, .inr (1, [.ref iq, .int L])), (iq, .inl (cB, n, .inl f)), (fo, .inr (2, [.ref a1, .ref a2, .int pa, .int de, .int so2_23, .int si, .int se, .int mo2_24, .int ow2_25, .int gr2_26, .int nl2_27, .int tl2_28, .int mk])), (a1, .inl (cB, 60, .inl g1_29))]) hD hS hA [0, 2, 3, 4, 5] rfl
          have hkc : 0 ≤ 0 := by decide
          have hks : 0 ≤ 0 := by decide
          refine va_calli (va_runV (C := "DiscMaker$Reader") (As := [.ref fo, .int x]) (rest := []) ⟨hx, hb, hml, hown, hts⟩ (c3_takeShortName l D cB cI cJ cZ cN cF H.size h0 pr ra im iq n L f cn vw wr fo a1 a2 pa de so2_23 si se mo2_24 ow2_25 gr2_26 nl2_27 tl2_28 mk g1_29 x (by (try dsimp only); first | assumption | omega | trivial) (by (try dsimp only); first | assumption | omega | trivial) (by (try dsimp only); first | assumption | omega | trivial) (by (try dsimp only); first | assumption | omega | trivial)) (cwV 2 hts (lg_goodV k1363 k1365 k50 k123 kc_Reader_takeShortName) rfl rfl rfl (by decide +kernel) ⟨Nat.le_of_ble_eq_true rfl, Nat.le_of_ble_eq_true rfl⟩) ⟨fun a U g mk q => by obtain ⟨q0, q1, qP, qK, qN, qD⟩ := q; exact ⟨q0, q1, qP, va_K.moved (u := U) (U := U.calling g mk a) (Vm.Alike.refl U.vm) qK, qN.calling, qD⟩, va_recv hK hP (ci := 7) (q0 := 0) rfl rfl, fun U hU hW => ⟨rfl, by rw [hU], by rw [hU]; exact hPc, va_K.moved hW.alike hK, NN.warm hW hN, hDc.weaken (fun _ _ _ _ => trivial)⟩⟩ rfl rfl hl.1 rfl (lv_room (Nat.le_of_ble_eq_true rfl)) d_Reader_describe_94 ⟨hkc, hks⟩) hS (fun q _ h => hFc q h) hFc (fun r33 u t H1 locs ht hvm hp_r33 hB hz1 hk1 hS => ?_)
          obtain ⟨nl2_34, g_35⟩ := u
          obtain ⟨hP1, hD1⟩ := hB
          rw [ht] at hP1
          obtain ⟨hP, hD⟩ := va_join (wr := [(pr, .inr (6, [.ref im, .ref fo, .int nm2_19, .int co2_20, .int ta2_21, .int lc2_22])), (a2, .inl (cB, 400, .inl g2_30))]) (w1 := [(h0, .inr (7, [.ref im, .ref pr, .ref ra, .int cn, .int vw, .int wr])), (im, .inr (1, [.ref iq, .int L])), (iq, .inl (cB, n, .inl f)), (fo, .inr (2, [.ref a1, .ref a2, .int pa, .int de, .int so2_23, .int si, .int se, .int mo2_24, .int ow2_25, .int gr2_26, .int nl2_34, .int tl2_28, .int mk])), (a1, .inl (cB, 60, .inl g_35))]) hP hD [0, 2, 3, 4, 5] [1, 6] rfl rfl (by decide +kernel) (by decide +kernel) hk1 hFc hP1 hD1
          clear hPc hDc hFc hP1 hD1 hk1 hz1 hkc hks
          generalize H1 = H at hP hS ⊢
          have hP : va_P D CL [(pr, .inr (6, [.ref im, .ref fo, .int nm2_19, .int co2_20, .int ta2_21, .int lc2_22])), (a2, .inl (cB, 400, .inl g2_30)), (h0, .inr (7, [.ref im, .ref pr, .ref ra, .int cn, .int vw, .int wr])), (im, .inr (1, [.ref iq, .int L])), (iq, .inl (cB, n, .inl f)), (fo, .inr (2, [.ref a1, .ref a2, .int pa, .int de, .int so2_23, .int si, .int se, .int mo2_24, .int ow2_25, .int gr2_26, .int nl2_34, .int tl2_28, .int mk])), (a1, .inl (cB, 60, .inl g_35))] H := hP
          have hD : va_D A [(pr, .inr (6, [.ref im, .ref fo, .int nm2_19, .int co2_20, .int ta2_21, .int lc2_22])), (a2, .inl (cB, 400, .inl g2_30)), (h0, .inr (7, [.ref im, .ref pr, .ref ra, .int cn, .int vw, .int wr])), (im, .inr (1, [.ref iq, .int L])), (iq, .inl (cB, n, .inl f)), (fo, .inr (2, [.ref a1, .ref a2, .int pa, .int de, .int so2_23, .int si, .int se, .int mo2_24, .int ow2_25, .int gr2_26, .int nl2_34, .int tl2_28, .int mk])), (a1, .inl (cB, 60, .inl g_35))] := hD
          try dsimp only at hp_r33
          obtain ⟨hr_36, hnl2_37⟩ := hp_r33
          refine lv_if_eq (tgt := 104) hx hb d_Reader_describe_97 (by decide) (fun h_9 => ?_) (fun h_9 => ?_)
          · skip
            have g97_56 : r33.toInt = 0 := (i_eq rfl (by decide)).mp h_9
            refine lv_iload_n hx hb d_Reader_describe_104 rfl (lv_at hl 4 rfl) ?_
            have hP9 := hP.sub (ws' := [(h0, .inr (7, [.ref im, .ref pr, .ref ra, .int cn, .int vw, .int wr])), (pr, .inr (6, [.ref im, .ref fo, .int nm2_19, .int co2_20, .int ta2_21, .int lc2_22])), (im, .inr (1, [.ref iq, .int L])), (iq, .inl (cB, n, .inl f)), (fo, .inr (2, [.ref a1, .ref a2, .int pa, .int de, .int so2_23, .int si, .int se, .int mo2_24, .int ow2_25, .int gr2_26, .int nl2_34, .int tl2_28, .int mk])), (a1, .inl (cB, 60, .inl g_35)), (a2, .inl (cB, 400, .inl g2_30))]) [2, 0, 3, 4, 5, 6, 1] rfl
            have hD9 := hD.sub (ws' := [(h0, .inr (7, [.ref im, .ref pr, .ref ra, .int cn, .int vw, .int wr])), (pr, .inr (6, [.ref im, .ref fo, .int nm2_19, .int co2_20, .int ta2_21, .int lc2_22])), (im, .inr (1, [.ref iq, .int L])), (iq, .inl (cB, n, .inl f)), (fo, .inr (2, [.ref a1, .ref a2, .int pa, .int de, .int so2_23, .int si, .int se, .int mo2_24, .int ow2_25, .int gr2_26, .int nl2_34, .int tl2_28, .int mk])), (a1, .inl (cB, 60, .inl g_35)), (a2, .inl (cB, 400, .inl g2_30))]) [2, 0, 3, 4, 5, 6, 1] (by decide +kernel) rfl
            exact W.iret (v := x) hx hb hr (fun t ht hW => ⟨⟨x, (.ref fo, nm2_19, co2_20, ta2_21, lc2_22, so2_23, mo2_24, ow2_25, gr2_26, nl2_34, tl2_28, g_35, g2_30), rfl, ⟨(by (try dsimp only); intro h7; first | (exfalso; omega) | omega), (by (try dsimp only); first | assumption | omega | trivial)⟩, by rw [ht]; exact hP9, hD9⟩, hS.F ht⟩) hS.2.2 d_Reader_describe_105
          · skip
            have g97_56 : ¬ r33.toInt = 0 := fun h8 => h_9 ((i_eq rfl (by decide)).mpr h8)
            refine lv_iconst (v := (-1)) hx hb d_Reader_describe_100 (by decide) ?_
            refine lv_goto (tgt := 105) hx hb d_Reader_describe_101 (by decide) ?_
            have hP9 := hP.sub (ws' := [(h0, .inr (7, [.ref im, .ref pr, .ref ra, .int cn, .int vw, .int wr])), (pr, .inr (6, [.ref im, .ref fo, .int nm2_19, .int co2_20, .int ta2_21, .int lc2_22])), (im, .inr (1, [.ref iq, .int L])), (iq, .inl (cB, n, .inl f)), (fo, .inr (2, [.ref a1, .ref a2, .int pa, .int de, .int so2_23, .int si, .int se, .int mo2_24, .int ow2_25, .int gr2_26, .int nl2_34, .int tl2_28, .int mk])), (a1, .inl (cB, 60, .inl g_35)), (a2, .inl (cB, 400, .inl g2_30))]) [2, 0, 3, 4, 5, 6, 1] rfl
            have hD9 := hD.sub (ws' := [(h0, .inr (7, [.ref im, .ref pr, .ref ra, .int cn, .int vw, .int wr])), (pr, .inr (6, [.ref im, .ref fo, .int nm2_19, .int co2_20, .int ta2_21, .int lc2_22])), (im, .inr (1, [.ref iq, .int L])), (iq, .inl (cB, n, .inl f)), (fo, .inr (2, [.ref a1, .ref a2, .int pa, .int de, .int so2_23, .int si, .int se, .int mo2_24, .int ow2_25, .int gr2_26, .int nl2_34, .int tl2_28, .int mk])), (a1, .inl (cB, 60, .inl g_35)), (a2, .inl (cB, 400, .inl g2_30))]) [2, 0, 3, 4, 5, 6, 1] (by decide +kernel) rfl
            exact W.iret (v := (-1)) hx hb hr (fun t ht hW => ⟨⟨(-1), (.ref fo, nm2_19, co2_20, ta2_21, lc2_22, so2_23, mo2_24, ow2_25, gr2_26, nl2_34, tl2_28, g_35, g2_30), rfl, ⟨(by (try dsimp only); intro h7; first | (exfalso; omega) | omega), (by (try dsimp only); first | assumption | omega | trivial)⟩, by rw [ht]; exact hP9, hD9⟩, hS.F ht⟩) hS.2.2 d_Reader_describe_105
        · skip
          have g85_51 : ¬ nm2_19.toInt = 0 := fun h8 => h_9 ((i_eq rfl (by decide)).mpr h8)
          refine lv_iload hx hb d_Reader_describe_88 (lv_at hl 0 rfl) ?_
          have hP9 := hP.sub (ws' := [(h0, .inr (7, [.ref im, .ref pr, .ref ra, .int cn, .int vw, .int wr])), (pr, .inr (6, [.ref im, .ref fo, .int nm2_19, .int co2_20, .int ta2_21, .int lc2_22])), (im, .inr (1, [.ref iq, .int L])), (iq, .inl (cB, n, .inl f)), (fo, .inr (2, [.ref a1, .ref a2, .int pa, .int de, .int so2_23, .int si, .int se, .int mo2_24, .int ow2_25, .int gr2_26, .int nl2_27, .int tl2_28, .int mk])), (a1, .inl (cB, 60, .inl g1_29)), (a2, .inl (cB, 400, .inl g2_30))]) [0, 1, 2, 3, 4, 5, 6] rfl
          have hD9 := hD.sub (ws' := [(h0, .inr (7, [.ref im, .ref pr, .ref ra, .int cn, .int vw, .int wr])), (pr, .inr (6, [.ref im, .ref fo, .int nm2_19, .int co2_20, .int ta2_21, .int lc2_22])), (im, .inr (1, [.ref iq, .int L])), (iq, .inl (cB, n, .inl f)), (fo, .inr (2, [.ref a1, .ref a2, .int pa, .int de, .int so2_23, .int si, .int se, .int mo2_24, .int ow2_25, .int gr2_26, .int nl2_27, .int tl2_28, .int mk])), (a1, .inl (cB, 60, .inl g1_29)), (a2, .inl (cB, 400, .inl g2_30))]) [0, 1, 2, 3, 4, 5, 6] (by decide +kernel) rfl
          exact W.iret (v := r18) hx hb hr (fun t ht hW => ⟨⟨r18, (.ref fo, nm2_19, co2_20, ta2_21, lc2_22, so2_23, mo2_24, ow2_25, gr2_26, nl2_27, tl2_28, g1_29, g2_30), rfl, ⟨(by (try dsimp only); intro h7; first | (exfalso; omega) | omega), (by (try dsimp only); first | assumption | omega | trivial)⟩, by rw [ht]; exact hP9, hD9⟩, hS.F ht⟩) hS.2.2 d_Reader_describe_90
  · skip
    have g5_4 : vw.toInt = 1 := (i_eq rfl (by decide)).mp h_9
    refine lv_aload_n hx hb d_Reader_describe_8 rfl (lv_at hl 0 rfl) ?_
    refine lv_aload_n hx hb d_Reader_describe_9 rfl (lv_at hl 1 rfl) ?_
    refine lv_iload_n hx hb d_Reader_describe_10 rfl (lv_at hl 2 rfl) ?_
    have hPc := hP.sub (ws' := [(h0, .inr (7, [.ref im, .ref pr, .ref ra, .int cn, .int vw, .int wr])), (im, .inr (1, [.ref iq, .int L])), (iq, .inl (cB, n, .inl f)), (fo, .inr (2, [.ref a1, .ref a2, .int pa, .int de, .int so, .int si, .int se, .int mo, .int ow, .int gr, .int nl, .int tl, .int mk])), (a1, .inl (cB, 60, .inl f1))]) [0, 2, 3, 4, 5] rfl
    have hDc := hD.sub (ws' := [(h0, .inr (7, [.ref im, .ref pr, .ref ra, .int cn, .int vw, .int wr])), (im, .inr (1, [.ref iq, .int L])), (iq, .inl (cB, n, .inl f)), (fo, .inr (2, [.ref a1, .ref a2, .int pa, .int de, .int so, .int si, .int se, .int mo, .int ow, .int gr, .int nl, .int tl, .int mk])), (a1, .inl (cB, 60, .inl f1))]) [0, 2, 3, 4, 5] (by decide +kernel) rfl
    have hFc := va_free (wc := [(h0, .inr (7, [.ref im, .ref pr, .ref ra, .int cn, .int vw, .int wr])), (im, .inr (1, [.ref iq, .int L])), (iq, .inl (cB, n, .inl f)), (fo, .inr (2, [.ref a1, .ref a2, .int pa, .int de, .int so, .int si, .int se, .int mo, .int ow, .int gr, .int nl, .int tl, .int mk])), (a1, .inl (cB, 60, .inl f1))]) hD hS hA [0, 2, 3, 4, 5] rfl
    have hkc : 0 ≤ 0 := by decide
    have hks : 0 ≤ 0 := by decide
    refine va_calli (va_runV (C := "DiscMaker$Reader") (As := [.ref fo, .int x]) (rest := []) ⟨hx, hb, hml, hown, hts⟩ (c3_takeLongName l D cB cI cJ cZ cN cF s.heap.size h0 pr ra im iq n L f cn vw wr fo a1 a2 pa de so si se mo ow gr nl tl mk f1 x (by (try dsimp only); first | assumption | omega | trivial) (by (try dsimp only); first | assumption | omega | trivial) (by (try dsimp only); first | assumption | omega | trivial) (by (try dsimp only); first | assumption | omega | trivial)) (cwV 2 hts (lg_goodV k1304 k1306 k44 k123 kc_Reader_takeLongName) rfl rfl rfl (by decide +kernel) ⟨Nat.le_of_ble_eq_true rfl, Nat.le_of_ble_eq_true rfl⟩) ⟨fun a U g mk q => by obtain ⟨q0, q1, qP, qK, qN, qD⟩ := q; exact ⟨q0, q1, qP, va_K.moved (u := U) (U := U.calling g mk a) (Vm.Alike.refl U.vm) qK, qN.calling, qD⟩, va_recv hK hP (ci := 7) (q0 := 0) rfl rfl, fun U hU hW => ⟨rfl, by rw [hU], by rw [hU]; exact hPc, va_K.moved hW.alike hK, NN.warm hW hN, hDc.weaken (fun _ _ _ _ => trivial)⟩⟩ rfl rfl hl.1 rfl (lv_room (Nat.le_of_ble_eq_true rfl)) d_Reader_describe_11 ⟨hkc, hks⟩) hS (fun q _ h => hFc q h) hFc (fun r38 u t H1 locs ht hvm hp_r38 hB hz1 hk1 hS => ?_)
    obtain ⟨nl2_39, g_40⟩ := u
    obtain ⟨hP1, hD1⟩ := hB
    rw [ht] at hP1
    obtain ⟨hP, hD⟩ := va_join (wr := [(pr, .inr (6, [.ref im, fw, .int nm, .int co, .int ta, .int lc])), (a2, .inl (cB, 400, .inl f2))]) (w1 := [(h0, .inr (7, [.ref im, .ref pr, .ref ra, .int cn, .int vw, .int wr])), (im, .inr (1, [.ref iq, .int L])), (iq, .inl (cB, n, .inl f)), (fo, .inr (2, [.ref a1, .ref a2, .int pa, .int de, .int so, .int si, .int se, .int mo, .int ow, .int gr, .int nl2_39, .int tl, .int mk])), (a1, .inl (cB, 60, .inl g_40))]) hP hD [0, 2, 3, 4, 5] [1, 6] rfl rfl (by decide +kernel) (by decide +kernel) hk1 hFc hP1 hD1
    clear hPc hDc hFc hP1 hD1 hk1 hz1 hkc hks
    generalize H1 = H at hP hS ⊢
    have hP : va_P D CL [(pr, .inr (6, [.ref im, fw, .int nm, .int co, .int ta, .int lc])), (a2, .inl (cB, 400, .inl f2)), (h0, .inr (7, [.ref im, .ref pr, .ref ra, .int cn, .int vw, .int wr])), (im, .inr (1, [.ref iq, .int L])), (iq, .inl (cB, n, .inl f)), (fo, .inr (2, [.ref a1, .ref a2, .int pa, .int de, .int so, .int si, .int se, .int mo, .int ow, .int gr, .int nl2_39, .int tl, .int mk])), (a1, .inl (cB, 60, .inl g_40))] H := hP
    have hD : va_D A [(pr, .inr (6, [.ref im, fw, .int nm, .int co, .int ta, .int lc])), (a2, .inl (cB, 400, .inl f2)), (h0, .inr (7, [.ref im, .ref pr, .ref ra, .int cn, .int vw, .int wr])), (im, .inr (1, [.ref iq, .int L])), (iq, .inl (cB, n, .inl f)), (fo, .inr (2, [.ref a1, .ref a2, .int pa, .int de, .int so, .int si, .int se, .int mo, .int ow, .int gr, .int nl2_39, .int tl, .int mk])), (a1, .inl (cB, 60, .inl g_40))] := hD
    try dsimp only at hp_r38
    obtain ⟨hr_41, hnl2_42⟩ := hp_r38
    refine lv_if_eq (tgt := 21) hx hb d_Reader_describe_14 (by decide) (fun h_9 => ?_) (fun h_9 => ?_)
    · skip
      have g14_68 : r38.toInt = 0 := (i_eq rfl (by decide)).mp h_9
      refine lv_iload_n hx hb d_Reader_describe_21 rfl (lv_at hl 2 rfl) ?_
      have hP9 := hP.sub (ws' := [(h0, .inr (7, [.ref im, .ref pr, .ref ra, .int cn, .int vw, .int wr])), (pr, .inr (6, [.ref im, fw, .int nm, .int co, .int ta, .int lc])), (im, .inr (1, [.ref iq, .int L])), (iq, .inl (cB, n, .inl f)), (fo, .inr (2, [.ref a1, .ref a2, .int pa, .int de, .int so, .int si, .int se, .int mo, .int ow, .int gr, .int nl2_39, .int tl, .int mk])), (a1, .inl (cB, 60, .inl g_40)), (a2, .inl (cB, 400, .inl f2))]) [2, 0, 3, 4, 5, 6, 1] rfl
      have hD9 := hD.sub (ws' := [(h0, .inr (7, [.ref im, .ref pr, .ref ra, .int cn, .int vw, .int wr])), (pr, .inr (6, [.ref im, fw, .int nm, .int co, .int ta, .int lc])), (im, .inr (1, [.ref iq, .int L])), (iq, .inl (cB, n, .inl f)), (fo, .inr (2, [.ref a1, .ref a2, .int pa, .int de, .int so, .int si, .int se, .int mo, .int ow, .int gr, .int nl2_39, .int tl, .int mk])), (a1, .inl (cB, 60, .inl g_40)), (a2, .inl (cB, 400, .inl f2))]) [2, 0, 3, 4, 5, 6, 1] (by decide +kernel) rfl
      exact W.iret (v := x) hx hb hr (fun t ht hW => ⟨⟨x, (fw, nm, co, ta, lc, so, mo, ow, gr, nl2_39, tl, g_40, f2), rfl, ⟨(by (try dsimp only); intro h7; first | (exfalso; omega) | omega), (by (try dsimp only); first | assumption | omega | trivial)⟩, by rw [ht]; exact hP9, hD9⟩, hS.F ht⟩) hS.2.2 d_Reader_describe_22
    · skip
      have g14_68 : ¬ r38.toInt = 0 := fun h8 => h_9 ((i_eq rfl (by decide)).mpr h8)
      refine lv_iconst (v := (-1)) hx hb d_Reader_describe_17 (by decide) ?_
      refine lv_goto (tgt := 22) hx hb d_Reader_describe_18 (by decide) ?_
      have hP9 := hP.sub (ws' := [(h0, .inr (7, [.ref im, .ref pr, .ref ra, .int cn, .int vw, .int wr])), (pr, .inr (6, [.ref im, fw, .int nm, .int co, .int ta, .int lc])), (im, .inr (1, [.ref iq, .int L])), (iq, .inl (cB, n, .inl f)), (fo, .inr (2, [.ref a1, .ref a2, .int pa, .int de, .int so, .int si, .int se, .int mo, .int ow, .int gr, .int nl2_39, .int tl, .int mk])), (a1, .inl (cB, 60, .inl g_40)), (a2, .inl (cB, 400, .inl f2))]) [2, 0, 3, 4, 5, 6, 1] rfl
      have hD9 := hD.sub (ws' := [(h0, .inr (7, [.ref im, .ref pr, .ref ra, .int cn, .int vw, .int wr])), (pr, .inr (6, [.ref im, fw, .int nm, .int co, .int ta, .int lc])), (im, .inr (1, [.ref iq, .int L])), (iq, .inl (cB, n, .inl f)), (fo, .inr (2, [.ref a1, .ref a2, .int pa, .int de, .int so, .int si, .int se, .int mo, .int ow, .int gr, .int nl2_39, .int tl, .int mk])), (a1, .inl (cB, 60, .inl g_40)), (a2, .inl (cB, 400, .inl f2))]) [2, 0, 3, 4, 5, 6, 1] (by decide +kernel) rfl
      exact W.iret (v := (-1)) hx hb hr (fun t ht hW => ⟨⟨(-1), (fw, nm, co, ta, lc, so, mo, ow, gr, nl2_39, tl, g_40, f2), rfl, ⟨(by (try dsimp only); intro h7; first | (exfalso; omega) | omega), (by (try dsimp only); first | assumption | omega | trivial)⟩, by rw [ht]; exact hP9, hD9⟩, hS.F ht⟩) hS.2.2 d_Reader_describe_22

theorem d_Reader_describeRoot_0 : decode b_Reader_describeRoot 0 = .ok (.iconst (-1), 1) := by decide +kernel
theorem d_Reader_describeRoot_1 : decode b_Reader_describeRoot 1 = .ok (.istore_n 2, 1) := by decide +kernel
theorem d_Reader_describeRoot_2 : decode b_Reader_describeRoot 2 = .ok (.aload_n 0, 1) := by decide +kernel
theorem d_Reader_describeRoot_3 : decode b_Reader_describeRoot 3 = .ok (.getfield 34, 3) := by decide +kernel
theorem d_Reader_describeRoot_6 : decode b_Reader_describeRoot 6 = .ok (.iconst 2, 1) := by decide +kernel
theorem d_Reader_describeRoot_7 : decode b_Reader_describeRoot 7 = .ok (.if_icmp .ne 31, 3) := by decide +kernel
theorem d_Reader_describeRoot_10 : decode b_Reader_describeRoot 10 = .ok (.aload_n 0, 1) := by decide +kernel
theorem d_Reader_describeRoot_11 : decode b_Reader_describeRoot 11 = .ok (.getfield 26, 3) := by decide +kernel
theorem d_Reader_describeRoot_14 : decode b_Reader_describeRoot 14 = .ok (.aload_n 0, 1) := by decide +kernel
theorem d_Reader_describeRoot_15 : decode b_Reader_describeRoot 15 = .ok (.getfield 11, 3) := by decide +kernel
theorem d_Reader_describeRoot_18 : decode b_Reader_describeRoot 18 = .ok (.iconst 0, 1) := by decide +kernel
theorem d_Reader_describeRoot_19 : decode b_Reader_describeRoot 19 = .ok (.aaload, 1) := by decide +kernel
theorem d_Reader_describeRoot_20 : decode b_Reader_describeRoot 20 = .ok (.iload_n 1, 1) := by decide +kernel
theorem d_Reader_describeRoot_21 : decode b_Reader_describeRoot 21 = .ok (.bipush 34, 2) := by decide +kernel
theorem d_Reader_describeRoot_23 : decode b_Reader_describeRoot 23 = .ok (.iadd, 1) := by decide +kernel
theorem d_Reader_describeRoot_24 : decode b_Reader_describeRoot 24 = .ok (.iload_n 1, 1) := by decide +kernel
theorem d_Reader_describeRoot_25 : decode b_Reader_describeRoot 25 = .ok (.aload_n 0, 1) := by decide +kernel
theorem d_Reader_describeRoot_26 : decode b_Reader_describeRoot 26 = .ok (.getfield 17, 3) := by decide +kernel
theorem d_Reader_describeRoot_29 : decode b_Reader_describeRoot 29 = .ok (.iload_n 1, 1) := by decide +kernel
theorem d_Reader_describeRoot_30 : decode b_Reader_describeRoot 30 = .ok (.invokevirtual 68, 3) := by decide +kernel
theorem d_Reader_describeRoot_33 : decode b_Reader_describeRoot 33 = .ok (.iadd, 1) := by decide +kernel
theorem d_Reader_describeRoot_34 : decode b_Reader_describeRoot 34 = .ok (.invokevirtual 154, 3) := by decide +kernel
theorem d_Reader_describeRoot_37 : decode b_Reader_describeRoot 37 = .ok (.istore_n 2, 1) := by decide +kernel
theorem d_Reader_describeRoot_38 : decode b_Reader_describeRoot 38 = .ok (.aload_n 0, 1) := by decide +kernel
theorem d_Reader_describeRoot_39 : decode b_Reader_describeRoot 39 = .ok (.getfield 11, 3) := by decide +kernel
theorem d_Reader_describeRoot_42 : decode b_Reader_describeRoot 42 = .ok (.iconst 0, 1) := by decide +kernel
theorem d_Reader_describeRoot_43 : decode b_Reader_describeRoot 43 = .ok (.aaload, 1) := by decide +kernel
theorem d_Reader_describeRoot_44 : decode b_Reader_describeRoot 44 = .ok (.iconst 0, 1) := by decide +kernel
theorem d_Reader_describeRoot_45 : decode b_Reader_describeRoot 45 = .ok (.putfield 164, 3) := by decide +kernel
theorem d_Reader_describeRoot_48 : decode b_Reader_describeRoot 48 = .ok (.iload_n 2, 1) := by decide +kernel
theorem d_Reader_describeRoot_49 : decode b_Reader_describeRoot 49 = .ok (.ireturn, 1) := by decide +kernel
set_option maxHeartbeats 4000000 in
set_option maxRecDepth 100000 in
theorem c3_describeRoot (l : Launch) (D : va_G) (cB cI cJ cZ cN cF : ClassId) (sz : Nat) (h0 : Nat) (pr : Nat) (ra : Nat) (im : Nat) (iq : Nat) (n : Nat) (L : Int32) (f : Nat → Int32) (cn : Int32) (vw : Int32) (wr : Int32) (fw : Value) (nm : Int32) (co : Int32) (ta : Int32) (lc : Int32) (fa : Nat → Nat → Nat) (ga : Nat → Nat → Int32) (cf : Nat → Nat → Nat → Int32) (md : Nat) (x : Int32) (hL : 0 ≤ L.toInt ∧ L.toInt ≤ n) (hn : n ≤ 3000000) (hcn : 0 ≤ cn.toInt ∧ cn.toInt ≤ md) (hmd : md ≤ 99) (hx : 0 ≤ x.toInt ∧ x.toInt ≤ 3000000) (hc1 : 1 ≤ cn.toInt) (hrok : ROK L.toInt cn.toInt ga) (h00 : (ga 0 9).toInt = 0) : Met l y_Reader_describeRoot w_Reader_describeRoot ({ frames := 4, cells := 0, slots := 0, locals := 125 }) (va_Pc [.ref h0, .int x] (fun U => U.heap.size = sz ∧ va_P D CL (([(h0, .inr (7, [.ref im, .ref pr, .ref ra, .int cn, .int vw, .int wr])), (ra, .inl (cF, 99, .inr (.inr (.inr (.inr (rowF fa md)))))), (pr, .inr (6, [.ref im, fw, .int nm, .int co, .int ta, .int lc])), (im, .inr (1, [.ref iq, .int L])), (iq, .inl (cB, n, .inl f))] : va_W) ++ (PL (FC cB fa ga cf) md)) U.heap ∧ va_K D CL (TY cB cI cJ cZ cN cF) U ∧ NN U ∧ va_D (fun _ => True) (([(h0, .inr (7, [.ref im, .ref pr, .ref ra, .int cn, .int vw, .int wr])), (ra, .inl (cF, 99, .inr (.inr (.inr (.inr (rowF fa md)))))), (pr, .inr (6, [.ref im, fw, .int nm, .int co, .int ta, .int lc])), (im, .inr (1, [.ref iq, .int L])), (iq, .inl (cB, n, .inl f))] : va_W) ++ (PL (FC cB fa ga cf) md)))) (va_Qi (fun (r : Int32) (u : Value × Int32 × Int32 × Int32 × Int32 × (Nat → Nat → Int32) × (Nat → Nat → Nat → Int32)) => match u with | (fw2, nm2, co2, ta2, lc2, ga2, cf2) => (r.toInt = -1 → ROK L.toInt cn.toInt ga2)) (fun (u : Value × Int32 × Int32 × Int32 × Int32 × (Nat → Nat → Int32) × (Nat → Nat → Nat → Int32)) (t : State) => match u with | (fw2, nm2, co2, ta2, lc2, ga2, cf2) => va_P D CL (([(h0, .inr (7, [.ref im, .ref pr, .ref ra, .int cn, .int vw, .int wr])), (ra, .inl (cF, 99, .inr (.inr (.inr (.inr (rowF fa md)))))), (pr, .inr (6, [.ref im, fw2, .int nm2, .int co2, .int ta2, .int lc2])), (im, .inr (1, [.ref iq, .int L])), (iq, .inl (cB, n, .inl f))] : va_W) ++ (PL (FC cB fa ga2 cf2) md)) t.heap ∧ va_D (va_A (([(h0, .inr (7, [.ref im, .ref pr, .ref ra, .int cn, .int vw, .int wr])), (ra, .inl (cF, 99, .inr (.inr (.inr (.inr (rowF fa md)))))), (pr, .inr (6, [.ref im, fw, .int nm, .int co, .int ta, .int lc])), (im, .inr (1, [.ref iq, .int L])), (iq, .inl (cB, n, .inl f))] : va_W) ++ (PL (FC cB fa ga cf) md)) sz) (([(h0, .inr (7, [.ref im, .ref pr, .ref ra, .int cn, .int vw, .int wr])), (ra, .inl (cF, 99, .inr (.inr (.inr (.inr (rowF fa md)))))), (pr, .inr (6, [.ref im, fw2, .int nm2, .int co2, .int ta2, .int lc2])), (im, .inr (1, [.ref iq, .int L])), (iq, .inl (cB, n, .inl f))] : va_W) ++ (PL (FC cB fa ga2 cf2) md))) (va_A (([(h0, .inr (7, [.ref im, .ref pr, .ref ra, .int cn, .int vw, .int wr])), (ra, .inl (cF, 99, .inr (.inr (.inr (.inr (rowF fa md)))))), (pr, .inr (6, [.ref im, fw, .int nm, .int co, .int ta, .int lc])), (im, .inr (1, [.ref iq, .int L])), (iq, .inl (cB, n, .inl f))] : va_W) ++ (PL (FC cB fa ga cf) md)) sz)) 0 0 (va_A (([(h0, .inr (7, [.ref im, .ref pr, .ref ra, .int cn, .int vw, .int wr])), (ra, .inl (cF, 99, .inr (.inr (.inr (.inr (rowF fa md)))))), (pr, .inr (6, [.ref im, fw, .int nm, .int co, .int ta, .int lc])), (im, .inr (1, [.ref iq, .int L])), (iq, .inl (cB, n, .inl f))] : va_W) ++ (PL (FC cB fa ga cf) md)) sz) := by
  refine Met.ofW (cc := b_Reader_describeRoot) (maxL := 3) (ret := some .int) (by decide +kernel) rfl ?_
  intro p e s m args below meth c s₁ B hml hv
  obtain ⟨rfl, hsz, hP, hK, hN, hD0⟩ := hv
  have hx := B.exec
  have hb := B.bytes
  have hr := B.returns
  have hts := atoms_spec (ws := w_Reader_describeRoot) B.pre
  have ht9 := fun (w : Cond) (h : w ∈ lw_g) => hts w (List.mem_cons_of_mem _ h)
  have hown : s.vm.findClass "DiscMaker$Reader" = some m.cls := findClass_of_methodNamed B.named
  have hlocks := B.notSynchronized
  subst hsz
  have hD := hD0.self (sz := s.heap.size)
  generalize hAe : va_A (([(h0, .inr (7, [.ref im, .ref pr, .ref ra, .int cn, .int vw, .int wr])), (ra, .inl (cF, 99, .inr (.inr (.inr (.inr (rowF fa md)))))), (pr, .inr (6, [.ref im, fw, .int nm, .int co, .int ta, .int lc])), (im, .inr (1, [.ref iq, .int L])), (iq, .inl (cB, n, .inl f))] : va_W) ++ (PL (FC cB fa ga cf) md)) s.heap.size = A at hD ⊢
  have hA : ∀ q : Nat, s.heap.size ≤ q → A q := fun q h => by rw [← hAe]; exact Or.inr h
  have hS : va_S A s.heap s.heap [] := va_S.rf
  have hP : va_P D CL (([(h0, .inr (7, [.ref im, .ref pr, .ref ra, .int cn, .int vw, .int wr])), (ra, .inl (cF, 99, .inr (.inr (.inr (.inr (rowF fa md)))))), (pr, .inr (6, [.ref im, fw, .int nm, .int co, .int ta, .int lc])), (im, .inr (1, [.ref iq, .int L])), (iq, .inl (cB, n, .inl f))] : va_W) ++ (PL (FC cB fa ga cf) md)) s.heap := hP
  have hl := lv_entry [.ref h0, .int x] (n := 3) (Nat.le_of_ble_eq_true rfl)
  rw [lg_entry_eq]
  generalize (lg_sl [.ref h0, .int x] ++ List.replicate (3 - (lg_sl [.ref h0, .int x]).length) Slot.unset).toArray = ls at hl ⊢
  have hl : lv_has ls 3 [(0, .ref h0), (1, .int x)] := hl
  have L_m1 : ((-1) : Int32).toInt = (-1) := by decide
  have L_0 : (0 : Int32).toInt = 0 := by decide
  have L_1 : (1 : Int32).toInt = 1 := by decide
  have L_2 : (2 : Int32).toInt = 2 := by decide
  have L_34 : (34 : Int32).toInt = 34 := by decide
  have hm0 : 0 < md := by omega
  have hr0 := hrok 0 (by omega)
  obtain ⟨hP, hD⟩ := pl_take (X := [(h0, .inr (7, [.ref im, .ref pr, .ref ra, .int cn, .int vw, .int wr])), (ra, .inl (cF, 99, .inr (.inr (.inr (.inr (rowF fa md)))))), (pr, .inr (6, [.ref im, fw, .int nm, .int co, .int ta, .int lc])), (im, .inr (1, [.ref iq, .int L])), (iq, .inl (cB, n, .inl f))]) (C := FC cB fa ga cf) (m := md) (k := 0) hP hD hm0
  have hP : va_P D CL (([(h0, .inr (7, [.ref im, .ref pr, .ref ra, .int cn, .int vw, .int wr])), (ra, .inl (cF, 99, .inr (.inr (.inr (.inr (rowF fa md)))))), (pr, .inr (6, [.ref im, fw, .int nm, .int co, .int ta, .int lc])), (im, .inr (1, [.ref iq, .int L])), (iq, .inl (cB, n, .inl f)), ((fa 0 0), .inr (2, [.ref (fa 0 1), .ref (fa 0 2), .int (ga 0 0), .int (ga 0 1), .int (ga 0 2), .int (ga 0 3), .int (ga 0 4), .int (ga 0 5), .int (ga 0 6), .int (ga 0 7), .int (ga 0 8), .int (ga 0 9), .int (ga 0 10)])), ((fa 0 1), .inl (cB, 60, .inl (cf 0 1))), ((fa 0 2), .inl (cB, 400, .inl (cf 0 2)))] : va_W) ++ (PO (FC cB fa ga cf) md 0)) s.heap := hP
  have hD : va_D A (([(h0, .inr (7, [.ref im, .ref pr, .ref ra, .int cn, .int vw, .int wr])), (ra, .inl (cF, 99, .inr (.inr (.inr (.inr (rowF fa md)))))), (pr, .inr (6, [.ref im, fw, .int nm, .int co, .int ta, .int lc])), (im, .inr (1, [.ref iq, .int L])), (iq, .inl (cB, n, .inl f)), ((fa 0 0), .inr (2, [.ref (fa 0 1), .ref (fa 0 2), .int (ga 0 0), .int (ga 0 1), .int (ga 0 2), .int (ga 0 3), .int (ga 0 4), .int (ga 0 5), .int (ga 0 6), .int (ga 0 7), .int (ga 0 8), .int (ga 0 9), .int (ga 0 10)])), ((fa 0 1), .inl (cB, 60, .inl (cf 0 1))), ((fa 0 2), .inl (cB, 400, .inl (cf 0 2)))] : va_W) ++ (PO (FC cB fa ga cf) md 0)) := hD
  refine lv_iconst (v := (-1)) hx hb d_Reader_describeRoot_0 (by decide) ?_
  refine lv_istore_n hx hb d_Reader_describeRoot_1 rfl hl (by decide) rfl (fun ls hl => ?_)
  have hl : lv_has ls 3 [(2, .int (-1)), (0, .ref h0), (1, .int x)] := hl
  refine lv_aload_n hx hb d_Reader_describeRoot_2 rfl (lv_at hl 1 rfl) ?_
  refine va_get (D := D) (ci := 7) (v := .int vw) (C := "DiscMaker$Reader") (T := F_Reader) (N := 6) hx hb ht9 in_Reader hown hK hP 0 rfl rfl 4 (by decide) (ht9 _ k416) (fun _ h9 => h9) rfl d_Reader_describeRoot_3 ?_
  refine lv_iconst (v := 2) hx hb d_Reader_describeRoot_6 (by decide) ?_
  refine lv_icmp_ne (tgt := 38) hx hb d_Reader_describeRoot_7 (by decide) (fun h_9 => ?_) (fun h_9 => ?_)
  · skip
    have g7_6 : ¬ vw.toInt = 2 := fun h8 => h_9 ((i_eq rfl (by decide)).mpr h8)
    refine lv_aload_n hx hb d_Reader_describeRoot_38 rfl (lv_at hl 1 rfl) ?_
    refine va_get (D := D) (ci := 7) (v := .ref ra) (C := "DiscMaker$Reader") (T := F_Reader) (N := 6) hx hb ht9 in_Reader hown hK hP 0 rfl rfl 2 (by decide) (ht9 _ k414) (fun _ h9 => h9) rfl d_Reader_describeRoot_39 ?_
    refine lv_iconst (v := 0) hx hb d_Reader_describeRoot_42 (by decide) ?_
    refine va_aldq hx hb hK hP 1 5 rfl rfl (by unfold vp_in; decide) d_Reader_describeRoot_43 ?_
    have hk1 : 0 < md := by exact hm0
    refine W.eq (g2 := F0 m 44 ls [.ref (fa 0 0)]) (by rw [show rowF fa md (0 : Int32).toNatClampNeg = some (fa 0 0) from rowF_some hk1]; rfl) ?_
    refine lv_iconst (v := 0) hx hb d_Reader_describeRoot_44 (by decide) ?_
    refine va_putN (D := D) (ci := 2) (v := .int 0) (ty := .int) (C := "DiscMaker$Found") (T := F_Found) (N := 13) hx hb ht9 in_Found t_Found t_Found_ok n_Found hown hK hP hD hS 5 rfl rfl 10 (by decide) (va_Nw.use rfl (hN _ k1248)) (fun _ h9 => h9) rfl (by decide +kernel) rfl rfl (Nat.le_of_ble_eq_true rfl) d_Reader_describeRoot_45 (fun H locs hP hD hS => ?_)
    have hP : va_P D CL (([(h0, .inr (7, [.ref im, .ref pr, .ref ra, .int cn, .int vw, .int wr])), (ra, .inl (cF, 99, .inr (.inr (.inr (.inr (rowF fa md)))))), (pr, .inr (6, [.ref im, fw, .int nm, .int co, .int ta, .int lc])), (im, .inr (1, [.ref iq, .int L])), (iq, .inl (cB, n, .inl f)), ((fa 0 0), .inr (2, [.ref (fa 0 1), .ref (fa 0 2), .int (ga 0 0), .int (ga 0 1), .int (ga 0 2), .int (ga 0 3), .int (ga 0 4), .int (ga 0 5), .int (ga 0 6), .int (ga 0 7), .int 0, .int (ga 0 9), .int (ga 0 10)])), ((fa 0 1), .inl (cB, 60, .inl (cf 0 1))), ((fa 0 2), .inl (cB, 400, .inl (cf 0 2)))] : va_W) ++ (PO (FC cB fa ga cf) md 0)) H := hP
    have hD : va_D A (([(h0, .inr (7, [.ref im, .ref pr, .ref ra, .int cn, .int vw, .int wr])), (ra, .inl (cF, 99, .inr (.inr (.inr (.inr (rowF fa md)))))), (pr, .inr (6, [.ref im, fw, .int nm, .int co, .int ta, .int lc])), (im, .inr (1, [.ref iq, .int L])), (iq, .inl (cB, n, .inl f)), ((fa 0 0), .inr (2, [.ref (fa 0 1), .ref (fa 0 2), .int (ga 0 0), .int (ga 0 1), .int (ga 0 2), .int (ga 0 3), .int (ga 0 4), .int (ga 0 5), .int (ga 0 6), .int (ga 0 7), .int 0, .int (ga 0 9), .int (ga 0 10)])), ((fa 0 1), .inl (cB, 60, .inl (cf 0 1))), ((fa 0 2), .inl (cB, 400, .inl (cf 0 2)))] : va_W) ++ (PO (FC cB fa ga cf) md 0)) := hD
    refine lv_iload_n hx hb d_Reader_describeRoot_48 rfl (lv_at hl 0 rfl) ?_
    have hP := hP.part (X := [(h0, .inr (7, [.ref im, .ref pr, .ref ra, .int cn, .int vw, .int wr])), (ra, .inl (cF, 99, .inr (.inr (.inr (.inr (rowF fa md)))))), (pr, .inr (6, [.ref im, fw, .int nm, .int co, .int ta, .int lc])), (im, .inr (1, [.ref iq, .int L])), (iq, .inl (cB, n, .inl f)), ((fa 0 0), .inr (2, [.ref (fa 0 1), .ref (fa 0 2), .int (ga 0 0), .int (ga 0 1), .int (ga 0 2), .int (ga 0 3), .int (ga 0 4), .int (ga 0 5), .int (ga 0 6), .int (ga 0 7), .int 0, .int (ga 0 9), .int (ga 0 10)])), ((fa 0 1), .inl (cB, 60, .inl (cf 0 1))), ((fa 0 2), .inl (cB, 400, .inl (cf 0 2)))]) (cx := [(h0, .inr (7, [.ref im, .ref pr, .ref ra, .int cn, .int vw, .int wr])), (ra, .inl (cF, 99, .inr (.inr (.inr (.inr (rowF fa md)))))), (pr, .inr (6, [.ref im, fw, .int nm, .int co, .int ta, .int lc])), (im, .inr (1, [.ref iq, .int L])), (iq, .inl (cB, n, .inl f)), ((fa 0 0), .inr (2, [.ref (fa 0 1), .ref (fa 0 2), .int (ga 0 0), .int (ga 0 1), .int (ga 0 2), .int (ga 0 3), .int (ga 0 4), .int (ga 0 5), .int (ga 0 6), .int (ga 0 7), .int 0, .int (ga 0 9), .int (ga 0 10)])), ((fa 0 1), .inl (cB, 60, .inl (cf 0 1))), ((fa 0 2), .inl (cB, 400, .inl (cf 0 2)))]) [0, 1, 2, 3, 4, 5, 6, 7] rfl
    have hD := hD.part (X := [(h0, .inr (7, [.ref im, .ref pr, .ref ra, .int cn, .int vw, .int wr])), (ra, .inl (cF, 99, .inr (.inr (.inr (.inr (rowF fa md)))))), (pr, .inr (6, [.ref im, fw, .int nm, .int co, .int ta, .int lc])), (im, .inr (1, [.ref iq, .int L])), (iq, .inl (cB, n, .inl f)), ((fa 0 0), .inr (2, [.ref (fa 0 1), .ref (fa 0 2), .int (ga 0 0), .int (ga 0 1), .int (ga 0 2), .int (ga 0 3), .int (ga 0 4), .int (ga 0 5), .int (ga 0 6), .int (ga 0 7), .int 0, .int (ga 0 9), .int (ga 0 10)])), ((fa 0 1), .inl (cB, 60, .inl (cf 0 1))), ((fa 0 2), .inl (cB, 400, .inl (cf 0 2)))]) (cx := [(h0, .inr (7, [.ref im, .ref pr, .ref ra, .int cn, .int vw, .int wr])), (ra, .inl (cF, 99, .inr (.inr (.inr (.inr (rowF fa md)))))), (pr, .inr (6, [.ref im, fw, .int nm, .int co, .int ta, .int lc])), (im, .inr (1, [.ref iq, .int L])), (iq, .inl (cB, n, .inl f)), ((fa 0 0), .inr (2, [.ref (fa 0 1), .ref (fa 0 2), .int (ga 0 0), .int (ga 0 1), .int (ga 0 2), .int (ga 0 3), .int (ga 0 4), .int (ga 0 5), .int (ga 0 6), .int (ga 0 7), .int 0, .int (ga 0 9), .int (ga 0 10)])), ((fa 0 1), .inl (cB, 60, .inl (cf 0 1))), ((fa 0 2), .inl (cB, 400, .inl (cf 0 2)))]) [0, 1, 2, 3, 4, 5, 6, 7] (by decide +kernel) rfl
    obtain ⟨gg2, e_gg2⟩ : ∃ z : Nat → Nat → Int32, z = upK ga 0 (v11 (ga 0 0) (ga 0 1) (ga 0 2) (ga 0 3) (ga 0 4) (ga 0 5) (ga 0 6) (ga 0 7) 0 (ga 0 9) (ga 0 10)) := ⟨_, rfl⟩
    obtain ⟨cc3, e_cc3⟩ : ∃ z : Nat → Nat → Nat → Int32, z = upK cf 0 (c12 (cf 0 1) (cf 0 2)) := ⟨_, rfl⟩
    have hP : va_P D CL ((([(h0, .inr (7, [.ref im, .ref pr, .ref ra, .int cn, .int vw, .int wr])), (ra, .inl (cF, 99, .inr (.inr (.inr (.inr (rowF fa md)))))), (pr, .inr (6, [.ref im, fw, .int nm, .int co, .int ta, .int lc])), (im, .inr (1, [.ref iq, .int L])), (iq, .inl (cB, n, .inl f))] : va_W) ++ FC cB fa gg2 cc3 0) ++ (PO (FC cB fa ga cf) md 0)) H := by rw [show FC cB fa gg2 cc3 0 = [((fa 0 0), .inr (2, [.ref (fa 0 1), .ref (fa 0 2), .int (ga 0 0), .int (ga 0 1), .int (ga 0 2), .int (ga 0 3), .int (ga 0 4), .int (ga 0 5), .int (ga 0 6), .int (ga 0 7), .int 0, .int (ga 0 9), .int (ga 0 10)])), ((fa 0 1), .inl (cB, 60, .inl (cf 0 1))), ((fa 0 2), .inl (cB, 400, .inl (cf 0 2)))] from by unfold FC; rw [e_gg2, e_cc3, upK_at, upK_at]; rfl]; exact hP
    have hD : va_D A ((([(h0, .inr (7, [.ref im, .ref pr, .ref ra, .int cn, .int vw, .int wr])), (ra, .inl (cF, 99, .inr (.inr (.inr (.inr (rowF fa md)))))), (pr, .inr (6, [.ref im, fw, .int nm, .int co, .int ta, .int lc])), (im, .inr (1, [.ref iq, .int L])), (iq, .inl (cB, n, .inl f))] : va_W) ++ FC cB fa gg2 cc3 0) ++ (PO (FC cB fa ga cf) md 0)) := by rw [show FC cB fa gg2 cc3 0 = [((fa 0 0), .inr (2, [.ref (fa 0 1), .ref (fa 0 2), .int (ga 0 0), .int (ga 0 1), .int (ga 0 2), .int (ga 0 3), .int (ga 0 4), .int (ga 0 5), .int (ga 0 6), .int (ga 0 7), .int 0, .int (ga 0 9), .int (ga 0 10)])), ((fa 0 1), .inl (cB, 60, .inl (cf 0 1))), ((fa 0 2), .inl (cB, 400, .inl (cf 0 2)))] from by unfold FC; rw [e_gg2, e_cc3, upK_at, upK_at]; rfl]; exact hD
    obtain ⟨hP, hD⟩ := pl_give (X := [(h0, .inr (7, [.ref im, .ref pr, .ref ra, .int cn, .int vw, .int wr])), (ra, .inl (cF, 99, .inr (.inr (.inr (.inr (rowF fa md)))))), (pr, .inr (6, [.ref im, fw, .int nm, .int co, .int ta, .int lc])), (im, .inr (1, [.ref iq, .int L])), (iq, .inl (cB, n, .inl f))]) (C := FC cB fa ga cf) (C' := FC cB fa gg2 cc3) hP hD hm0 (fun j h1 _ => FC_off2 e_gg2 e_cc3 h1)
    have hP : va_P D CL (([(h0, .inr (7, [.ref im, .ref pr, .ref ra, .int cn, .int vw, .int wr])), (ra, .inl (cF, 99, .inr (.inr (.inr (.inr (rowF fa md)))))), (pr, .inr (6, [.ref im, fw, .int nm, .int co, .int ta, .int lc])), (im, .inr (1, [.ref iq, .int L])), (iq, .inl (cB, n, .inl f))] : va_W) ++ (PL (FC cB fa gg2 cc3) md)) H := hP
    have hD : va_D A (([(h0, .inr (7, [.ref im, .ref pr, .ref ra, .int cn, .int vw, .int wr])), (ra, .inl (cF, 99, .inr (.inr (.inr (.inr (rowF fa md)))))), (pr, .inr (6, [.ref im, fw, .int nm, .int co, .int ta, .int lc])), (im, .inr (1, [.ref iq, .int L])), (iq, .inl (cB, n, .inl f))] : va_W) ++ (PL (FC cB fa gg2 cc3) md)) := hD
    have hP9 := hP.part (X := [(h0, .inr (7, [.ref im, .ref pr, .ref ra, .int cn, .int vw, .int wr])), (ra, .inl (cF, 99, .inr (.inr (.inr (.inr (rowF fa md)))))), (pr, .inr (6, [.ref im, fw, .int nm, .int co, .int ta, .int lc])), (im, .inr (1, [.ref iq, .int L])), (iq, .inl (cB, n, .inl f))]) (cx := [(h0, .inr (7, [.ref im, .ref pr, .ref ra, .int cn, .int vw, .int wr])), (ra, .inl (cF, 99, .inr (.inr (.inr (.inr (rowF fa md)))))), (pr, .inr (6, [.ref im, fw, .int nm, .int co, .int ta, .int lc])), (im, .inr (1, [.ref iq, .int L])), (iq, .inl (cB, n, .inl f))]) [0, 1, 2, 3, 4] rfl
    have hD9 := hD.part (X := [(h0, .inr (7, [.ref im, .ref pr, .ref ra, .int cn, .int vw, .int wr])), (ra, .inl (cF, 99, .inr (.inr (.inr (.inr (rowF fa md)))))), (pr, .inr (6, [.ref im, fw, .int nm, .int co, .int ta, .int lc])), (im, .inr (1, [.ref iq, .int L])), (iq, .inl (cB, n, .inl f))]) (cx := [(h0, .inr (7, [.ref im, .ref pr, .ref ra, .int cn, .int vw, .int wr])), (ra, .inl (cF, 99, .inr (.inr (.inr (.inr (rowF fa md)))))), (pr, .inr (6, [.ref im, fw, .int nm, .int co, .int ta, .int lc])), (im, .inr (1, [.ref iq, .int L])), (iq, .inl (cB, n, .inl f))]) [0, 1, 2, 3, 4] (by decide +kernel) rfl
    exact W.iret (v := (-1)) hx hb hr (fun t ht hW => ⟨⟨(-1), (fw, nm, co, ta, lc, gg2, cc3), rfl, (by (try dsimp only); intro h7; refine ROK_upd hrok e_gg2 (fun _ => ⟨?_, ?_, ?_⟩) <;> (try simp only [v11_2, v11_3, v11_4, v11_8, v11_9]) <;> omega), by rw [ht]; exact hP9, hD9⟩, hS.F ht⟩) hS.2.2 d_Reader_describeRoot_49
  · skip
    have g7_6 : vw.toInt = 2 := (i_eq rfl (by decide)).mp h_9
    refine lv_aload_n hx hb d_Reader_describeRoot_10 rfl (lv_at hl 1 rfl) ?_
    refine va_get (D := D) (ci := 7) (v := .ref pr) (C := "DiscMaker$Reader") (T := F_Reader) (N := 6) hx hb ht9 in_Reader hown hK hP 0 rfl rfl 1 (by decide) (ht9 _ k413) (fun _ h9 => h9) rfl d_Reader_describeRoot_11 ?_
    refine lv_aload_n hx hb d_Reader_describeRoot_14 rfl (lv_at hl 1 rfl) ?_
    refine va_get (D := D) (ci := 7) (v := .ref ra) (C := "DiscMaker$Reader") (T := F_Reader) (N := 6) hx hb ht9 in_Reader hown hK hP 0 rfl rfl 2 (by decide) (ht9 _ k414) (fun _ h9 => h9) rfl d_Reader_describeRoot_15 ?_
    refine lv_iconst (v := 0) hx hb d_Reader_describeRoot_18 (by decide) ?_
    refine va_aldq hx hb hK hP 1 5 rfl rfl (by unfold vp_in; decide) d_Reader_describeRoot_19 ?_
    have hk4 : 0 < md := by exact hm0
    refine W.eq (g2 := F0 m 20 ls [.ref (fa 0 0), .ref pr]) (by rw [show rowF fa md (0 : Int32).toNatClampNeg = some (fa 0 0) from rowF_some hk4]; rfl) ?_
    refine lv_iload_n hx hb d_Reader_describeRoot_20 rfl (lv_at hl 2 rfl) ?_
    refine lv_bipush (v := 34) hx hb d_Reader_describeRoot_21 (by decide) ?_
    refine lv_iadd hx hb d_Reader_describeRoot_23 ?_
    refine lv_topi (fun v5 e_v5 => ?_)
    have t_v5 : v5.toInt = x.toInt + 34 := by rw [e_v5]; exact i_add rfl (by decide) (by omega) (by omega)
    refine lv_iload_n hx hb d_Reader_describeRoot_24 rfl (lv_at hl 2 rfl) ?_
    refine lv_aload_n hx hb d_Reader_describeRoot_25 rfl (lv_at hl 1 rfl) ?_
    refine va_get (D := D) (ci := 7) (v := .ref im) (C := "DiscMaker$Reader") (T := F_Reader) (N := 6) hx hb ht9 in_Reader hown hK hP 0 rfl rfl 0 (by decide) (ht9 _ k412) (fun _ h9 => h9) rfl d_Reader_describeRoot_26 ?_
    refine lv_iload_n hx hb d_Reader_describeRoot_29 rfl (lv_at hl 2 rfl) ?_
    have hPc := hP.sub (ws' := [(im, .inr (1, [.ref iq, .int L])), (iq, .inl (cB, n, .inl f))]) [3, 4] rfl
    have hDc := hD.sub (ws' := [(im, .inr (1, [.ref iq, .int L])), (iq, .inl (cB, n, .inl f))]) [3, 4] (by decide +kernel) rfl
    have hFc := va_free (wc := [(im, .inr (1, [.ref iq, .int L])), (iq, .inl (cB, n, .inl f))]) hD hS hA [3, 4] rfl
    have hkc : 0 ≤ 0 := by decide
    have hks : 0 ≤ 0 := by decide
    refine va_calli (va_runV (C := "DiscMaker$Bytes") (As := [.int x]) (rest := [.int x, .int v5, .ref (fa 0 0), .ref pr]) ⟨hx, hb, hml, hown, hts⟩ (c3_at l D cB cI cJ cZ cN cF s.heap.size im iq n L f x (by (try dsimp only); first | assumption | omega | trivial) (by (try dsimp only); first | assumption | omega | trivial)) (cwV 1 hts (lg_goodV k1179 k1065 k1066 k119 kc_Bytes_at) rfl rfl rfl (by decide +kernel) ⟨Nat.le_of_ble_eq_true rfl, Nat.le_of_ble_eq_true rfl⟩) ⟨fun a U g mk q => by obtain ⟨q0, q1, qP, qK, qN, qD⟩ := q; exact ⟨q0, q1, qP, va_K.moved (u := U) (U := U.calling g mk a) (Vm.Alike.refl U.vm) qK, qN.calling, qD⟩, va_recv hK hP (ci := 1) (q0 := 3) rfl rfl, fun U hU hW => ⟨rfl, by rw [hU], by rw [hU]; exact hPc, va_K.moved hW.alike hK, NN.warm hW hN, hDc.weaken (fun _ _ _ _ => trivial)⟩⟩ rfl rfl hl.1 rfl (lv_room (Nat.le_of_ble_eq_true rfl)) d_Reader_describeRoot_30 ⟨hkc, hks⟩) hS (fun q _ h => hFc q h) hFc (fun r6 u t H1 locs ht hvm hp_r6 hB hz1 hk1 hS => ?_)
    obtain ⟨hP1, hD1⟩ := hB
    rw [ht] at hP1
    obtain ⟨hP, hD⟩ := va_joinQ (X := [(h0, .inr (7, [.ref im, .ref pr, .ref ra, .int cn, .int vw, .int wr])), (ra, .inl (cF, 99, .inr (.inr (.inr (.inr (rowF fa md)))))), (pr, .inr (6, [.ref im, fw, .int nm, .int co, .int ta, .int lc])), (im, .inr (1, [.ref iq, .int L])), (iq, .inl (cB, n, .inl f)), ((fa 0 0), .inr (2, [.ref (fa 0 1), .ref (fa 0 2), .int (ga 0 0), .int (ga 0 1), .int (ga 0 2), .int (ga 0 3), .int (ga 0 4), .int (ga 0 5), .int (ga 0 6), .int (ga 0 7), .int (ga 0 8), .int (ga 0 9), .int (ga 0 10)])), ((fa 0 1), .inl (cB, 60, .inl (cf 0 1))), ((fa 0 2), .inl (cB, 400, .inl (cf 0 2)))]) (cx := [(im, .inr (1, [.ref iq, .int L])), (iq, .inl (cB, n, .inl f))]) (wr := [(h0, .inr (7, [.ref im, .ref pr, .ref ra, .int cn, .int vw, .int wr])), (ra, .inl (cF, 99, .inr (.inr (.inr (.inr (rowF fa md)))))), (pr, .inr (6, [.ref im, fw, .int nm, .int co, .int ta, .int lc])), ((fa 0 0), .inr (2, [.ref (fa 0 1), .ref (fa 0 2), .int (ga 0 0), .int (ga 0 1), .int (ga 0 2), .int (ga 0 3), .int (ga 0 4), .int (ga 0 5), .int (ga 0 6), .int (ga 0 7), .int (ga 0 8), .int (ga 0 9), .int (ga 0 10)])), ((fa 0 1), .inl (cB, 60, .inl (cf 0 1))), ((fa 0 2), .inl (cB, 400, .inl (cf 0 2)))]) (w1 := [(im, .inr (1, [.ref iq, .int L])), (iq, .inl (cB, n, .inl f))]) hP hD [3, 4] [0, 1, 2, 5, 6, 7] rfl rfl (by decide +kernel) (by decide +kernel) hk1 hFc hP1 hD1
    clear hPc hDc hFc hP1 hD1 hk1 hz1 hkc hks
    generalize H1 = H at hP hS ⊢
    have hP : va_P D CL (([(h0, .inr (7, [.ref im, .ref pr, .ref ra, .int cn, .int vw, .int wr])), (ra, .inl (cF, 99, .inr (.inr (.inr (.inr (rowF fa md)))))), (pr, .inr (6, [.ref im, fw, .int nm, .int co, .int ta, .int lc])), ((fa 0 0), .inr (2, [.ref (fa 0 1), .ref (fa 0 2), .int (ga 0 0), .int (ga 0 1), .int (ga 0 2), .int (ga 0 3), .int (ga 0 4), .int (ga 0 5), .int (ga 0 6), .int (ga 0 7), .int (ga 0 8), .int (ga 0 9), .int (ga 0 10)])), ((fa 0 1), .inl (cB, 60, .inl (cf 0 1))), ((fa 0 2), .inl (cB, 400, .inl (cf 0 2))), (im, .inr (1, [.ref iq, .int L])), (iq, .inl (cB, n, .inl f))] : va_W) ++ (PO (FC cB fa ga cf) md 0)) H := hP
    have hD : va_D A (([(h0, .inr (7, [.ref im, .ref pr, .ref ra, .int cn, .int vw, .int wr])), (ra, .inl (cF, 99, .inr (.inr (.inr (.inr (rowF fa md)))))), (pr, .inr (6, [.ref im, fw, .int nm, .int co, .int ta, .int lc])), ((fa 0 0), .inr (2, [.ref (fa 0 1), .ref (fa 0 2), .int (ga 0 0), .int (ga 0 1), .int (ga 0 2), .int (ga 0 3), .int (ga 0 4), .int (ga 0 5), .int (ga 0 6), .int (ga 0 7), .int (ga 0 8), .int (ga 0 9), .int (ga 0 10)])), ((fa 0 1), .inl (cB, 60, .inl (cf 0 1))), ((fa 0 2), .inl (cB, 400, .inl (cf 0 2))), (im, .inr (1, [.ref iq, .int L])), (iq, .inl (cB, n, .inl f))] : va_W) ++ (PO (FC cB fa ga cf) md 0)) := hD
    try dsimp only at hp_r6
    obtain ⟨hr_7, hv_8⟩ := hp_r6
    refine lv_iadd hx hb d_Reader_describeRoot_33 ?_
    refine lv_topi (fun v9 e_v9 => ?_)
    have t_v9 : v9.toInt = x.toInt + r6.toInt := by rw [e_v9]; exact i_add rfl rfl (by omega) (by omega)
    have hPc := hP.sub (ws' := [(pr, .inr (6, [.ref im, fw, .int nm, .int co, .int ta, .int lc])), (im, .inr (1, [.ref iq, .int L])), (iq, .inl (cB, n, .inl f)), ((fa 0 0), .inr (2, [.ref (fa 0 1), .ref (fa 0 2), .int (ga 0 0), .int (ga 0 1), .int (ga 0 2), .int (ga 0 3), .int (ga 0 4), .int (ga 0 5), .int (ga 0 6), .int (ga 0 7), .int (ga 0 8), .int (ga 0 9), .int (ga 0 10)])), ((fa 0 1), .inl (cB, 60, .inl (cf 0 1))), ((fa 0 2), .inl (cB, 400, .inl (cf 0 2)))]) [2, 6, 7, 3, 4, 5] rfl
    have hDc := hD.sub (ws' := [(pr, .inr (6, [.ref im, fw, .int nm, .int co, .int ta, .int lc])), (im, .inr (1, [.ref iq, .int L])), (iq, .inl (cB, n, .inl f)), ((fa 0 0), .inr (2, [.ref (fa 0 1), .ref (fa 0 2), .int (ga 0 0), .int (ga 0 1), .int (ga 0 2), .int (ga 0 3), .int (ga 0 4), .int (ga 0 5), .int (ga 0 6), .int (ga 0 7), .int (ga 0 8), .int (ga 0 9), .int (ga 0 10)])), ((fa 0 1), .inl (cB, 60, .inl (cf 0 1))), ((fa 0 2), .inl (cB, 400, .inl (cf 0 2)))]) [2, 6, 7, 3, 4, 5] (by decide +kernel) rfl
    have hFc := va_free (wc := [(pr, .inr (6, [.ref im, fw, .int nm, .int co, .int ta, .int lc])), (im, .inr (1, [.ref iq, .int L])), (iq, .inl (cB, n, .inl f)), ((fa 0 0), .inr (2, [.ref (fa 0 1), .ref (fa 0 2), .int (ga 0 0), .int (ga 0 1), .int (ga 0 2), .int (ga 0 3), .int (ga 0 4), .int (ga 0 5), .int (ga 0 6), .int (ga 0 7), .int (ga 0 8), .int (ga 0 9), .int (ga 0 10)])), ((fa 0 1), .inl (cB, 60, .inl (cf 0 1))), ((fa 0 2), .inl (cB, 400, .inl (cf 0 2)))]) hD hS hA [2, 6, 7, 3, 4, 5] rfl
    have hkc : 0 ≤ 0 := by decide
    have hks : 0 ≤ 0 := by decide
    refine va_calli (va_runV (C := "DiscMaker$PartsReader") (As := [.ref (fa 0 0), .int v5, .int v9]) (rest := []) ⟨hx, hb, hml, hown, hts⟩ (c3_goThrough l D cB cI cJ cZ cN cF H.size pr (fa 0 0) im iq n L f nm co ta lc fw (fa 0 1) (fa 0 2) (ga 0 0) (ga 0 1) (ga 0 2) (ga 0 3) (ga 0 4) (ga 0 5) (ga 0 6) (ga 0 7) (ga 0 8) (ga 0 9) (ga 0 10) (cf 0 1) (cf 0 2) v5 v9 (by (try dsimp only); first | assumption | omega | trivial) (by (try dsimp only); first | assumption | omega | trivial) (by (try dsimp only); first | assumption | omega | trivial) (by (try dsimp only); first | assumption | omega | trivial) (by (try dsimp only); first | assumption | omega | trivial) (by (try dsimp only); first | assumption | omega | trivial)) (cwV 3 hts (lg_goodV k1317 k1318 k1319 k124 kc_PartsReader_goThrough) rfl rfl rfl (by decide +kernel) ⟨Nat.le_of_ble_eq_true rfl, Nat.le_of_ble_eq_true rfl⟩) ⟨fun a U g mk q => by obtain ⟨q0, q1, qP, qK, qN, qD⟩ := q; exact ⟨q0, q1, qP, va_K.moved (u := U) (U := U.calling g mk a) (Vm.Alike.refl U.vm) qK, qN.calling, qD⟩, va_recv hK hP (ci := 6) (q0 := 2) rfl rfl, fun U hU hW => ⟨rfl, by rw [hU], by rw [hU]; exact hPc, va_K.moved hW.alike hK, NN.warm hW hN, hDc.weaken (fun _ _ _ _ => trivial)⟩⟩ rfl rfl hl.1 rfl (lv_room (Nat.le_of_ble_eq_true rfl)) d_Reader_describeRoot_34 ⟨hkc, hks⟩) hS (fun q _ h => hFc q h) hFc (fun r10 u t H1 locs ht hvm hp_r10 hB hz1 hk1 hS => ?_)
    obtain ⟨nm2_11, co2_12, ta2_13, lc2_14, so2_15, mo2_16, ow2_17, gr2_18, nl2_19, tl2_20, g1_21, g2_22⟩ := u
    obtain ⟨hP1, hD1⟩ := hB
    rw [ht] at hP1
    obtain ⟨hP, hD⟩ := va_joinQ (X := [(h0, .inr (7, [.ref im, .ref pr, .ref ra, .int cn, .int vw, .int wr])), (ra, .inl (cF, 99, .inr (.inr (.inr (.inr (rowF fa md)))))), (pr, .inr (6, [.ref im, fw, .int nm, .int co, .int ta, .int lc])), ((fa 0 0), .inr (2, [.ref (fa 0 1), .ref (fa 0 2), .int (ga 0 0), .int (ga 0 1), .int (ga 0 2), .int (ga 0 3), .int (ga 0 4), .int (ga 0 5), .int (ga 0 6), .int (ga 0 7), .int (ga 0 8), .int (ga 0 9), .int (ga 0 10)])), ((fa 0 1), .inl (cB, 60, .inl (cf 0 1))), ((fa 0 2), .inl (cB, 400, .inl (cf 0 2))), (im, .inr (1, [.ref iq, .int L])), (iq, .inl (cB, n, .inl f))]) (cx := [(pr, .inr (6, [.ref im, fw, .int nm, .int co, .int ta, .int lc])), (im, .inr (1, [.ref iq, .int L])), (iq, .inl (cB, n, .inl f)), ((fa 0 0), .inr (2, [.ref (fa 0 1), .ref (fa 0 2), .int (ga 0 0), .int (ga 0 1), .int (ga 0 2), .int (ga 0 3), .int (ga 0 4), .int (ga 0 5), .int (ga 0 6), .int (ga 0 7), .int (ga 0 8), .int (ga 0 9), .int (ga 0 10)])), ((fa 0 1), .inl (cB, 60, .inl (cf 0 1))), ((fa 0 2), .inl (cB, 400, .inl (cf 0 2)))]) (wr := [(h0, .inr (7, [.ref im, .ref pr, .ref ra, .int cn, .int vw, .int wr])), (ra, .inl (cF, 99, .inr (.inr (.inr (.inr (rowF fa md))))))]) (w1 := [(pr, .inr (6, [.ref im, .ref (fa 0 0), .int nm2_11, .int co2_12, .int ta2_13, .int lc2_14])), (im, .inr (1, [.ref iq, .int L])), (iq, .inl (cB, n, .inl f)), ((fa 0 0), .inr (2, [.ref (fa 0 1), .ref (fa 0 2), .int (ga 0 0), .int (ga 0 1), .int so2_15, .int (ga 0 3), .int (ga 0 4), .int mo2_16, .int ow2_17, .int gr2_18, .int nl2_19, .int tl2_20, .int (ga 0 10)])), ((fa 0 1), .inl (cB, 60, .inl g1_21)), ((fa 0 2), .inl (cB, 400, .inl g2_22))]) hP hD [2, 6, 7, 3, 4, 5] [0, 1] rfl rfl (by decide +kernel) (by decide +kernel) hk1 hFc hP1 hD1
    clear hPc hDc hFc hP1 hD1 hk1 hz1 hkc hks
    generalize H1 = H at hP hS ⊢
    have hP : va_P D CL (([(h0, .inr (7, [.ref im, .ref pr, .ref ra, .int cn, .int vw, .int wr])), (ra, .inl (cF, 99, .inr (.inr (.inr (.inr (rowF fa md)))))), (pr, .inr (6, [.ref im, .ref (fa 0 0), .int nm2_11, .int co2_12, .int ta2_13, .int lc2_14])), (im, .inr (1, [.ref iq, .int L])), (iq, .inl (cB, n, .inl f)), ((fa 0 0), .inr (2, [.ref (fa 0 1), .ref (fa 0 2), .int (ga 0 0), .int (ga 0 1), .int so2_15, .int (ga 0 3), .int (ga 0 4), .int mo2_16, .int ow2_17, .int gr2_18, .int nl2_19, .int tl2_20, .int (ga 0 10)])), ((fa 0 1), .inl (cB, 60, .inl g1_21)), ((fa 0 2), .inl (cB, 400, .inl g2_22))] : va_W) ++ (PO (FC cB fa ga cf) md 0)) H := hP
    have hD : va_D A (([(h0, .inr (7, [.ref im, .ref pr, .ref ra, .int cn, .int vw, .int wr])), (ra, .inl (cF, 99, .inr (.inr (.inr (.inr (rowF fa md)))))), (pr, .inr (6, [.ref im, .ref (fa 0 0), .int nm2_11, .int co2_12, .int ta2_13, .int lc2_14])), (im, .inr (1, [.ref iq, .int L])), (iq, .inl (cB, n, .inl f)), ((fa 0 0), .inr (2, [.ref (fa 0 1), .ref (fa 0 2), .int (ga 0 0), .int (ga 0 1), .int so2_15, .int (ga 0 3), .int (ga 0 4), .int mo2_16, .int ow2_17, .int gr2_18, .int nl2_19, .int tl2_20, .int (ga 0 10)])), ((fa 0 1), .inl (cB, 60, .inl g1_21)), ((fa 0 2), .inl (cB, 400, .inl g2_22))] : va_W) ++ (PO (FC cB fa ga cf) md 0)) := hD
    try dsimp only at hp_r10
    obtain ⟨hok_23, hso_24⟩ := hp_r10
    refine lv_istore_n hx hb d_Reader_describeRoot_37 rfl hl (by decide) rfl (fun ls hl => ?_)
    have hl : lv_has ls 3 [(2, .int r10), (0, .ref h0), (1, .int x)] := hl
    refine lv_aload_n hx hb d_Reader_describeRoot_38 rfl (lv_at hl 1 rfl) ?_
    refine va_get (D := D) (ci := 7) (v := .ref ra) (C := "DiscMaker$Reader") (T := F_Reader) (N := 6) hx hb ht9 in_Reader hown hK hP 0 rfl rfl 2 (by decide) (ht9 _ k414) (fun _ h9 => h9) rfl d_Reader_describeRoot_39 ?_
    refine lv_iconst (v := 0) hx hb d_Reader_describeRoot_42 (by decide) ?_
    refine va_aldq hx hb hK hP 1 5 rfl rfl (by unfold vp_in; decide) d_Reader_describeRoot_43 ?_
    have hk25 : 0 < md := by exact hm0
    refine W.eq (g2 := F0 m 44 ls [.ref (fa 0 0)]) (by rw [show rowF fa md (0 : Int32).toNatClampNeg = some (fa 0 0) from rowF_some hk25]; rfl) ?_
    refine lv_iconst (v := 0) hx hb d_Reader_describeRoot_44 (by decide) ?_
    refine va_putN (D := D) (ci := 2) (v := .int 0) (ty := .int) (C := "DiscMaker$Found") (T := F_Found) (N := 13) hx hb ht9 in_Found t_Found t_Found_ok n_Found hown hK hP hD hS 5 rfl rfl 10 (by decide) (va_Nw.use rfl (hN _ k1248)) (fun _ h9 => h9) rfl (by decide +kernel) rfl rfl (Nat.le_of_ble_eq_true rfl) d_Reader_describeRoot_45 (fun H locs hP hD hS => ?_)
    have hP : va_P D CL (([(h0, .inr (7, [.ref im, .ref pr, .ref ra, .int cn, .int vw, .int wr])), (ra, .inl (cF, 99, .inr (.inr (.inr (.inr (rowF fa md)))))), (pr, .inr (6, [.ref im, .ref (fa 0 0), .int nm2_11, .int co2_12, .int ta2_13, .int lc2_14])), (im, .inr (1, [.ref iq, .int L])), (iq, .inl (cB, n, .inl f)), ((fa 0 0), .inr (2, [.ref (fa 0 1), .ref (fa 0 2), .int (ga 0 0), .int (ga 0 1), .int so2_15, .int (ga 0 3), .int (ga 0 4), .int mo2_16, .int ow2_17, .int gr2_18, .int 0, .int tl2_20, .int (ga 0 10)])), ((fa 0 1), .inl (cB, 60, .inl g1_21)), ((fa 0 2), .inl (cB, 400, .inl g2_22))] : va_W) ++ (PO (FC cB fa ga cf) md 0)) H := hP
    have hD : va_D A (([(h0, .inr (7, [.ref im, .ref pr, .ref ra, .int cn, .int vw, .int wr])), (ra, .inl (cF, 99, .inr (.inr (.inr (.inr (rowF fa md)))))), (pr, .inr (6, [.ref im, .ref (fa 0 0), .int nm2_11, .int co2_12, .int ta2_13, .int lc2_14])), (im, .inr (1, [.ref iq, .int L])), (iq, .inl (cB, n, .inl f)), ((fa 0 0), .inr (2, [.ref (fa 0 1), .ref (fa 0 2), .int (ga 0 0), .int (ga 0 1), .int so2_15, .int (ga 0 3), .int (ga 0 4), .int mo2_16, .int ow2_17, .int gr2_18, .int 0, .int tl2_20, .int (ga 0 10)])), ((fa 0 1), .inl (cB, 60, .inl g1_21)), ((fa 0 2), .inl (cB, 400, .inl g2_22))] : va_W) ++ (PO (FC cB fa ga cf) md 0)) := hD
    refine lv_iload_n hx hb d_Reader_describeRoot_48 rfl (lv_at hl 0 rfl) ?_
    have hP := hP.part (X := [(h0, .inr (7, [.ref im, .ref pr, .ref ra, .int cn, .int vw, .int wr])), (ra, .inl (cF, 99, .inr (.inr (.inr (.inr (rowF fa md)))))), (pr, .inr (6, [.ref im, .ref (fa 0 0), .int nm2_11, .int co2_12, .int ta2_13, .int lc2_14])), (im, .inr (1, [.ref iq, .int L])), (iq, .inl (cB, n, .inl f)), ((fa 0 0), .inr (2, [.ref (fa 0 1), .ref (fa 0 2), .int (ga 0 0), .int (ga 0 1), .int so2_15, .int (ga 0 3), .int (ga 0 4), .int mo2_16, .int ow2_17, .int gr2_18, .int 0, .int tl2_20, .int (ga 0 10)])), ((fa 0 1), .inl (cB, 60, .inl g1_21)), ((fa 0 2), .inl (cB, 400, .inl g2_22))]) (cx := [(h0, .inr (7, [.ref im, .ref pr, .ref ra, .int cn, .int vw, .int wr])), (ra, .inl (cF, 99, .inr (.inr (.inr (.inr (rowF fa md)))))), (pr, .inr (6, [.ref im, .ref (fa 0 0), .int nm2_11, .int co2_12, .int ta2_13, .int lc2_14])), (im, .inr (1, [.ref iq, .int L])), (iq, .inl (cB, n, .inl f)), ((fa 0 0), .inr (2, [.ref (fa 0 1), .ref (fa 0 2), .int (ga 0 0), .int (ga 0 1), .int so2_15, .int (ga 0 3), .int (ga 0 4), .int mo2_16, .int ow2_17, .int gr2_18, .int 0, .int tl2_20, .int (ga 0 10)])), ((fa 0 1), .inl (cB, 60, .inl g1_21)), ((fa 0 2), .inl (cB, 400, .inl g2_22))]) [0, 1, 2, 3, 4, 5, 6, 7] rfl
    have hD := hD.part (X := [(h0, .inr (7, [.ref im, .ref pr, .ref ra, .int cn, .int vw, .int wr])), (ra, .inl (cF, 99, .inr (.inr (.inr (.inr (rowF fa md)))))), (pr, .inr (6, [.ref im, .ref (fa 0 0), .int nm2_11, .int co2_12, .int ta2_13, .int lc2_14])), (im, .inr (1, [.ref iq, .int L])), (iq, .inl (cB, n, .inl f)), ((fa 0 0), .inr (2, [.ref (fa 0 1), .ref (fa 0 2), .int (ga 0 0), .int (ga 0 1), .int so2_15, .int (ga 0 3), .int (ga 0 4), .int mo2_16, .int ow2_17, .int gr2_18, .int 0, .int tl2_20, .int (ga 0 10)])), ((fa 0 1), .inl (cB, 60, .inl g1_21)), ((fa 0 2), .inl (cB, 400, .inl g2_22))]) (cx := [(h0, .inr (7, [.ref im, .ref pr, .ref ra, .int cn, .int vw, .int wr])), (ra, .inl (cF, 99, .inr (.inr (.inr (.inr (rowF fa md)))))), (pr, .inr (6, [.ref im, .ref (fa 0 0), .int nm2_11, .int co2_12, .int ta2_13, .int lc2_14])), (im, .inr (1, [.ref iq, .int L])), (iq, .inl (cB, n, .inl f)), ((fa 0 0), .inr (2, [.ref (fa 0 1), .ref (fa 0 2), .int (ga 0 0), .int (ga 0 1), .int so2_15, .int (ga 0 3), .int (ga 0 4), .int mo2_16, .int ow2_17, .int gr2_18, .int 0, .int tl2_20, .int (ga 0 10)])), ((fa 0 1), .inl (cB, 60, .inl g1_21)), ((fa 0 2), .inl (cB, 400, .inl g2_22))]) [0, 1, 2, 3, 4, 5, 6, 7] (by decide +kernel) rfl
    obtain ⟨gg26, e_gg26⟩ : ∃ z : Nat → Nat → Int32, z = upK ga 0 (v11 (ga 0 0) (ga 0 1) so2_15 (ga 0 3) (ga 0 4) mo2_16 ow2_17 gr2_18 0 tl2_20 (ga 0 10)) := ⟨_, rfl⟩
    obtain ⟨cc27, e_cc27⟩ : ∃ z : Nat → Nat → Nat → Int32, z = upK cf 0 (c12 g1_21 g2_22) := ⟨_, rfl⟩
    have hP : va_P D CL ((([(h0, .inr (7, [.ref im, .ref pr, .ref ra, .int cn, .int vw, .int wr])), (ra, .inl (cF, 99, .inr (.inr (.inr (.inr (rowF fa md)))))), (pr, .inr (6, [.ref im, .ref (fa 0 0), .int nm2_11, .int co2_12, .int ta2_13, .int lc2_14])), (im, .inr (1, [.ref iq, .int L])), (iq, .inl (cB, n, .inl f))] : va_W) ++ FC cB fa gg26 cc27 0) ++ (PO (FC cB fa ga cf) md 0)) H := by rw [show FC cB fa gg26 cc27 0 = [((fa 0 0), .inr (2, [.ref (fa 0 1), .ref (fa 0 2), .int (ga 0 0), .int (ga 0 1), .int so2_15, .int (ga 0 3), .int (ga 0 4), .int mo2_16, .int ow2_17, .int gr2_18, .int 0, .int tl2_20, .int (ga 0 10)])), ((fa 0 1), .inl (cB, 60, .inl g1_21)), ((fa 0 2), .inl (cB, 400, .inl g2_22))] from by unfold FC; rw [e_gg26, e_cc27, upK_at, upK_at]; rfl]; exact hP
    have hD : va_D A ((([(h0, .inr (7, [.ref im, .ref pr, .ref ra, .int cn, .int vw, .int wr])), (ra, .inl (cF, 99, .inr (.inr (.inr (.inr (rowF fa md)))))), (pr, .inr (6, [.ref im, .ref (fa 0 0), .int nm2_11, .int co2_12, .int ta2_13, .int lc2_14])), (im, .inr (1, [.ref iq, .int L])), (iq, .inl (cB, n, .inl f))] : va_W) ++ FC cB fa gg26 cc27 0) ++ (PO (FC cB fa ga cf) md 0)) := by rw [show FC cB fa gg26 cc27 0 = [((fa 0 0), .inr (2, [.ref (fa 0 1), .ref (fa 0 2), .int (ga 0 0), .int (ga 0 1), .int so2_15, .int (ga 0 3), .int (ga 0 4), .int mo2_16, .int ow2_17, .int gr2_18, .int 0, .int tl2_20, .int (ga 0 10)])), ((fa 0 1), .inl (cB, 60, .inl g1_21)), ((fa 0 2), .inl (cB, 400, .inl g2_22))] from by unfold FC; rw [e_gg26, e_cc27, upK_at, upK_at]; rfl]; exact hD
    obtain ⟨hP, hD⟩ := pl_give (X := [(h0, .inr (7, [.ref im, .ref pr, .ref ra, .int cn, .int vw, .int wr])), (ra, .inl (cF, 99, .inr (.inr (.inr (.inr (rowF fa md)))))), (pr, .inr (6, [.ref im, .ref (fa 0 0), .int nm2_11, .int co2_12, .int ta2_13, .int lc2_14])), (im, .inr (1, [.ref iq, .int L])), (iq, .inl (cB, n, .inl f))]) (C := FC cB fa ga cf) (C' := FC cB fa gg26 cc27) hP hD hm0 (fun j h1 _ => FC_off2 e_gg26 e_cc27 h1)
    have hP : va_P D CL (([(h0, .inr (7, [.ref im, .ref pr, .ref ra, .int cn, .int vw, .int wr])), (ra, .inl (cF, 99, .inr (.inr (.inr (.inr (rowF fa md)))))), (pr, .inr (6, [.ref im, .ref (fa 0 0), .int nm2_11, .int co2_12, .int ta2_13, .int lc2_14])), (im, .inr (1, [.ref iq, .int L])), (iq, .inl (cB, n, .inl f))] : va_W) ++ (PL (FC cB fa gg26 cc27) md)) H := hP
    have hD : va_D A (([(h0, .inr (7, [.ref im, .ref pr, .ref ra, .int cn, .int vw, .int wr])), (ra, .inl (cF, 99, .inr (.inr (.inr (.inr (rowF fa md)))))), (pr, .inr (6, [.ref im, .ref (fa 0 0), .int nm2_11, .int co2_12, .int ta2_13, .int lc2_14])), (im, .inr (1, [.ref iq, .int L])), (iq, .inl (cB, n, .inl f))] : va_W) ++ (PL (FC cB fa gg26 cc27) md)) := hD
    have hP9 := hP.part (X := [(h0, .inr (7, [.ref im, .ref pr, .ref ra, .int cn, .int vw, .int wr])), (ra, .inl (cF, 99, .inr (.inr (.inr (.inr (rowF fa md)))))), (pr, .inr (6, [.ref im, .ref (fa 0 0), .int nm2_11, .int co2_12, .int ta2_13, .int lc2_14])), (im, .inr (1, [.ref iq, .int L])), (iq, .inl (cB, n, .inl f))]) (cx := [(h0, .inr (7, [.ref im, .ref pr, .ref ra, .int cn, .int vw, .int wr])), (ra, .inl (cF, 99, .inr (.inr (.inr (.inr (rowF fa md)))))), (pr, .inr (6, [.ref im, .ref (fa 0 0), .int nm2_11, .int co2_12, .int ta2_13, .int lc2_14])), (im, .inr (1, [.ref iq, .int L])), (iq, .inl (cB, n, .inl f))]) [0, 1, 2, 3, 4] rfl
    have hD9 := hD.part (X := [(h0, .inr (7, [.ref im, .ref pr, .ref ra, .int cn, .int vw, .int wr])), (ra, .inl (cF, 99, .inr (.inr (.inr (.inr (rowF fa md)))))), (pr, .inr (6, [.ref im, .ref (fa 0 0), .int nm2_11, .int co2_12, .int ta2_13, .int lc2_14])), (im, .inr (1, [.ref iq, .int L])), (iq, .inl (cB, n, .inl f))]) (cx := [(h0, .inr (7, [.ref im, .ref pr, .ref ra, .int cn, .int vw, .int wr])), (ra, .inl (cF, 99, .inr (.inr (.inr (.inr (rowF fa md)))))), (pr, .inr (6, [.ref im, .ref (fa 0 0), .int nm2_11, .int co2_12, .int ta2_13, .int lc2_14])), (im, .inr (1, [.ref iq, .int L])), (iq, .inl (cB, n, .inl f))]) [0, 1, 2, 3, 4] (by decide +kernel) rfl
    exact W.iret (v := r10) hx hb hr (fun t ht hW => ⟨⟨r10, (.ref (fa 0 0), nm2_11, co2_12, ta2_13, lc2_14, gg26, cc27), rfl, (by (try dsimp only); intro h7; refine ROK_upd hrok e_gg26 (fun _ => ⟨?_, ?_, ?_⟩) <;> (try simp only [v11_2, v11_3, v11_4, v11_8, v11_9]) <;> omega), by rw [ht]; exact hP9, hD9⟩, hS.F ht⟩) hS.2.2 d_Reader_describeRoot_49
