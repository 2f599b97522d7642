set_option maxHeartbeats 4000000 in
set_option maxRecDepth 100000 in
theorem c3_identifyF (l : Launch) (D : va_G) (cB cI cJ cZ cN cF : ClassId) (sz : Nat) (m0 : Nat) (tr : Nat) (im : Nat) (fi : Nat) (se : Nat) (u0 : Nat) (id : Nat) (ct : Nat) (ra : Int32) (ru : Int32) (wg : Int32) (l0 : Nat) (lo : Nat) (lp : Nat) (lt : Nat) (lb : Nat) (le : Nat) (ln : Int32) (lds : Int32) (ltb : Int32) (lc : Int32) (ld : Int32) (jq : Nat) (il : Int32) (jf : Nat → Int32) (h0 : Nat) (kna : Nat) (kke : Nat) (kta : Nat) (so : Int32) (nu : Int32) (pa : Int32) (ab : Int32) (mo : Int32) (ow : Int32) (gr : Int32) (si : Int32) (sd : Int32) (l1 : Nat) (c1 : Nat → Int32) (c2 : Nat → Int32) (dt : Nat → Nat → Int) (nf : Nat → Nat → Nat → Int32) (x : Int32) (hl1 : l1 ≤ 400) (hd0 : dt 0 nu.toNatClampNeg = so.toInt) (hd1 : dt 1 nu.toNatClampNeg = l1) (hd2 : LenP (fun j => (c2 j).toInt) 0 8 (dt 2 nu.toNatClampNeg)) (hd3 : LenP (fun j => (c2 j).toInt) 8 3 (dt 3 nu.toNatClampNeg)) (hb1 : l1 ≤ 30) (hx2 : 0 ≤ x.toInt ∧ x.toInt ≤ 2) (hln01 : ln.toInt = 0 ∨ ln.toInt = 1) (hf1 : c1 = nf nu.toNatClampNeg 1) (hf2 : c2 = nf nu.toNatClampNeg 2) : Met l y_Maker_identify w_Maker_identify ({ frames := 3, cells := 0, slots := 0, locals := 87 }) (va_Pc [.ref m0, .ref l0, .ref h0, .int x] (fun U => U.heap.size = sz ∧ va_P D CL [(m0, .inr (4, [.ref tr, .ref im, .ref fi, .ref se, .ref u0, .ref id, .ref ct, .int ra, .int ru, .int wg])), (l0, .inr (3, [.int ln, .int lds, .int ltb, .ref lo, .ref lp, .ref lt, .ref lb, .ref le, .int lc, .int ld])), (id, .inr (1, [.ref jq, .int il])), (jq, .inl (cB, 60, .inl jf))] U.heap ∧ va_K D CL (TY cB cI cJ cZ cN cF) U ∧ NN U ∧ va_D (fun _ => True) [(m0, .inr (4, [.ref tr, .ref im, .ref fi, .ref se, .ref u0, .ref id, .ref ct, .int ra, .int ru, .int wg])), (l0, .inr (3, [.int ln, .int lds, .int ltb, .ref lo, .ref lp, .ref lt, .ref lb, .ref le, .int lc, .int ld])), (id, .inr (1, [.ref jq, .int il])), (jq, .inl (cB, 60, .inl jf))] ∧ RO D [(h0, .inr (5, [.int so, .ref kna, .ref kke, .ref kta, .int nu, .int pa, .int ab, .int mo, .int ow, .int gr, .int si, .int sd])), (kna, .inl (cB, l1, .inl c1)), (kke, .inl (cB, 11, .inl c2))] (va_A [(m0, .inr (4, [.ref tr, .ref im, .ref fi, .ref se, .ref u0, .ref id, .ref ct, .int ra, .int ru, .int wg])), (l0, .inr (3, [.int ln, .int lds, .int ltb, .ref lo, .ref lp, .ref lt, .ref lb, .ref le, .int lc, .int ld])), (id, .inr (1, [.ref jq, .int il])), (jq, .inl (cB, 60, .inl jf))] sz) U U.heap)) (va_Qv (fun (u : Int32 × (Nat → Int32)) => match u with | (il2, g) => (0 ≤ il2.toInt ∧ il2.toInt ≤ 60) ∧ ((ln.toInt = 0 → il2.toInt = idS dt 0 x.toInt nu.toNatClampNeg) ∧ (ln.toInt = 1 → il2.toInt = idS dt 1 x.toInt nu.toNatClampNeg)) ∧ (Cn g il2.toInt (idL dt nf ln.toInt x.toInt nu.toNatClampNeg))) (fun (u : Int32 × (Nat → Int32)) (t : State) => match u with | (il2, g) => va_P D CL [(m0, .inr (4, [.ref tr, .ref im, .ref fi, .ref se, .ref u0, .ref id, .ref ct, .int ra, .int ru, .int wg])), (l0, .inr (3, [.int ln, .int lds, .int ltb, .ref lo, .ref lp, .ref lt, .ref lb, .ref le, .int lc, .int ld])), (id, .inr (1, [.ref jq, .int il2])), (jq, .inl (cB, 60, .inl g))] t.heap ∧ va_D (va_A [(m0, .inr (4, [.ref tr, .ref im, .ref fi, .ref se, .ref u0, .ref id, .ref ct, .int ra, .int ru, .int wg])), (l0, .inr (3, [.int ln, .int lds, .int ltb, .ref lo, .ref lp, .ref lt, .ref lb, .ref le, .int lc, .int ld])), (id, .inr (1, [.ref jq, .int il])), (jq, .inl (cB, 60, .inl jf))] sz) [(m0, .inr (4, [.ref tr, .ref im, .ref fi, .ref se, .ref u0, .ref id, .ref ct, .int ra, .int ru, .int wg])), (l0, .inr (3, [.int ln, .int lds, .int ltb, .ref lo, .ref lp, .ref lt, .ref lb, .ref le, .int lc, .int ld])), (id, .inr (1, [.ref jq, .int il2])), (jq, .inl (cB, 60, .inl g))]) (va_A [(m0, .inr (4, [.ref tr, .ref im, .ref fi, .ref se, .ref u0, .ref id, .ref ct, .int ra, .int ru, .int wg])), (l0, .inr (3, [.int ln, .int lds, .int ltb, .ref lo, .ref lp, .ref lt, .ref lb, .ref le, .int lc, .int ld])), (id, .inr (1, [.ref jq, .int il])), (jq, .inl (cB, 60, .inl jf))] sz)) 0 0 (va_A [(m0, .inr (4, [.ref tr, .ref im, .ref fi, .ref se, .ref u0, .ref id, .ref ct, .int ra, .int ru, .int wg])), (l0, .inr (3, [.int ln, .int lds, .int ltb, .ref lo, .ref lp, .ref lt, .ref lb, .ref le, .int lc, .int ld])), (id, .inr (1, [.ref jq, .int il])), (jq, .inl (cB, 60, .inl jf))] sz) := by
  refine Met.ofW (cc := b_Maker_identify) (maxL := 4) (ret := none) (by decide +kernel) rfl ?_
  intro p e s m args below meth c s₁ B hml hv
  obtain ⟨rfl, hsz, hP, hK, hN, hD0, hZr⟩ := hv
  have hx := B.exec
  have hb := B.bytes
  have hr := B.returns
  have hts := atoms_spec (ws := w_Maker_identify) B.pre
  have ht9 := fun (w : Cond) (h : w ∈ lw_g) => hts w (List.mem_cons_of_mem _ h)
  have hown : s.vm.findClass "DiscMaker$Maker" = some m.cls := findClass_of_methodNamed B.named
  have hlocks := B.notSynchronized
  subst hsz
  have hD := hD0.self (sz := s.heap.size)
  generalize hAe : va_A [(m0, .inr (4, [.ref tr, .ref im, .ref fi, .ref se, .ref u0, .ref id, .ref ct, .int ra, .int ru, .int wg])), (l0, .inr (3, [.int ln, .int lds, .int ltb, .ref lo, .ref lp, .ref lt, .ref lb, .ref le, .int lc, .int ld])), (id, .inr (1, [.ref jq, .int il])), (jq, .inl (cB, 60, .inl jf))] s.heap.size = A at hD hZr ⊢
  have hA : ∀ q : Nat, s.heap.size ≤ q → A q := fun q h => by rw [← hAe]; exact Or.inr h
  have hS : va_S A s.heap s.heap [] := va_S.rf
  have hP : va_P D CL [(m0, .inr (4, [.ref tr, .ref im, .ref fi, .ref se, .ref u0, .ref id, .ref ct, .int ra, .int ru, .int wg])), (l0, .inr (3, [.int ln, .int lds, .int ltb, .ref lo, .ref lp, .ref lt, .ref lb, .ref le, .int lc, .int ld])), (id, .inr (1, [.ref jq, .int il])), (jq, .inl (cB, 60, .inl jf))] s.heap := hP
  have hl := lv_entry [.ref m0, .ref l0, .ref h0, .int x] (n := 4) (Nat.le_of_ble_eq_true rfl)
  rw [lg_entry_eq]
  generalize (lg_sl [.ref m0, .ref l0, .ref h0, .int x] ++ List.replicate (4 - (lg_sl [.ref m0, .ref l0, .ref h0, .int x]).length) Slot.unset).toArray = ls at hl ⊢
  have hl : lv_has ls 4 [(0, .ref m0), (1, .ref l0), (2, .ref h0), (3, .int x)] := hl
  have L_m1 : ((-1) : Int32).toInt = (-1) := by decide
  have L_0 : (0 : Int32).toInt = 0 := by decide
  have L_1 : (1 : Int32).toInt = 1 := by decide
  have L_2 : (2 : Int32).toInt = 2 := by decide
  refine lv_aload_n hx hb d_Maker_identify_0 rfl (lv_at hl 0 rfl) ?_
  refine va_get (D := D) (ci := 4) (v := .ref id) (C := "DiscMaker$Maker") (T := F_Maker) (N := 10) hx hb ht9 in_Maker hown hK hP 0 rfl rfl 5 (by decide) (ht9 _ k352) (fun _ h9 => h9) rfl d_Maker_identify_1 ?_
  refine lv_iconst (v := 0) hx hb d_Maker_identify_4 (by decide) ?_
  have hPc := hP.sub (ws' := [(id, .inr (1, [.ref jq, .int il])), (jq, .inl (cB, 60, .inl jf))]) [2, 3] rfl
  have hDc := hD.sub (ws' := [(id, .inr (1, [.ref jq, .int il])), (jq, .inl (cB, 60, .inl jf))]) [2, 3] (by decide +kernel) rfl
  have hFc := va_free (wc := [(id, .inr (1, [.ref jq, .int il])), (jq, .inl (cB, 60, .inl jf))]) hD hS hA [2, 3] rfl
  have hkc : 0 ≤ 0 := by decide
  have hks : 0 ≤ 0 := by decide
  refine va_callv (va_runV (C := "DiscMaker$Bytes") (As := [.int 0]) (rest := []) ⟨hx, hb, hml, hown, hts⟩ (c3_shorten l D cB cI cJ cZ cN cF s.heap.size id jq 60 il jf 0) (cwV 1 hts (lg_goodV k976 k896 k897 k119 kc_Bytes_shorten) rfl rfl rfl (by decide +kernel) ⟨Nat.le_of_ble_eq_true rfl, Nat.le_of_ble_eq_true rfl⟩) ⟨fun a U g mk q => by obtain ⟨q0, q1, qP, qK, qN, qD⟩ := q; exact ⟨q0, q1, qP, va_K.moved (u := U) (U := U.calling g mk a) (Vm.Alike.refl U.vm) qK, qN.calling, qD⟩, va_recv hK hP (ci := 1) (q0 := 2) rfl rfl, fun U hU hW => ⟨rfl, by rw [hU], by rw [hU]; exact hPc, va_K.moved hW.alike hK, NN.warm hW hN, hDc.weaken (fun _ _ _ _ => trivial)⟩⟩ rfl rfl hl.1 rfl (lv_room (Nat.le_of_ble_eq_true rfl)) d_Maker_identify_5 ⟨hkc, hks⟩) hS (fun q _ h => hFc q h) hFc (fun u t H1 locs ht hvm hp_r1 hB hz1 hk1 hS => ?_)
  obtain ⟨hP1, hD1⟩ := hB
  rw [ht] at hP1
  obtain ⟨hP, hD⟩ := va_join (wr := [(m0, .inr (4, [.ref tr, .ref im, .ref fi, .ref se, .ref u0, .ref id, .ref ct, .int ra, .int ru, .int wg])), (l0, .inr (3, [.int ln, .int lds, .int ltb, .ref lo, .ref lp, .ref lt, .ref lb, .ref le, .int lc, .int ld]))]) (w1 := [(id, .inr (1, [.ref jq, .int 0])), (jq, .inl (cB, 60, .inl jf))]) hP hD [2, 3] [0, 1] rfl rfl (by decide +kernel) (by decide +kernel) hk1 hFc hP1 hD1
  clear hPc hDc hFc hP1 hD1 hk1 hz1 hkc hks
  generalize H1 = H at hP hS ⊢
  have hP : va_P D CL [(m0, .inr (4, [.ref tr, .ref im, .ref fi, .ref se, .ref u0, .ref id, .ref ct, .int ra, .int ru, .int wg])), (l0, .inr (3, [.int ln, .int lds, .int ltb, .ref lo, .ref lp, .ref lt, .ref lb, .ref le, .int lc, .int ld])), (id, .inr (1, [.ref jq, .int 0])), (jq, .inl (cB, 60, .inl jf))] H := hP
  have hD : va_D A [(m0, .inr (4, [.ref tr, .ref im, .ref fi, .ref se, .ref u0, .ref id, .ref ct, .int ra, .int ru, .int wg])), (l0, .inr (3, [.int ln, .int lds, .int ltb, .ref lo, .ref lp, .ref lt, .ref lb, .ref le, .int lc, .int ld])), (id, .inr (1, [.ref jq, .int 0])), (jq, .inl (cB, 60, .inl jf))] := hD
  refine lv_iload_n hx hb d_Maker_identify_8 rfl (lv_at hl 3 rfl) ?_
  refine lv_iconst (v := 2) hx hb d_Maker_identify_9 (by decide) ?_
  refine lv_icmp_eq (tgt := 32) hx hb d_Maker_identify_10 (by decide) (fun h_9 => ?_) (fun h_9 => ?_)
  · skip
    have g10_7 : x.toInt = 2 := (i_eq rfl (by decide)).mp h_9
    refine lv_aload_n hx hb d_Maker_identify_32 rfl (lv_at hl 1 rfl) ?_
    refine va_getN (D := D) (ci := 3) (v := .int ln) (C := "DiscMaker$Layout") (T := F_Layout) (N := 10) hx hb ht9 in_Layout hown hK hP 1 rfl rfl 0 (by decide) (va_Nw.use rfl (hN _ k281)) (fun _ h9 => h9) rfl d_Maker_identify_33 ?_
    refine lv_if_eq (tgt := 50) hx hb d_Maker_identify_36 (by decide) (fun h_9 => ?_) (fun h_9 => ?_)
    · skip
      have g36_10 : ln.toInt = 0 := (i_eq rfl (by decide)).mp h_9
      refine lv_aload_n hx hb d_Maker_identify_50 rfl (lv_at hl 2 rfl) ?_
      refine lv_aload_n hx hb d_Maker_identify_51 rfl (lv_at hl 0 rfl) ?_
      refine va_get (D := D) (ci := 4) (v := .ref id) (C := "DiscMaker$Maker") (T := F_Maker) (N := 10) hx hb ht9 in_Maker hown hK hP 0 rfl rfl 5 (by decide) (ht9 _ k352) (fun _ h9 => h9) rfl d_Maker_identify_52 ?_
      have hPc := hP.sub (ws' := [(id, .inr (1, [.ref jq, .int 0])), (jq, .inl (cB, 60, .inl jf))]) [2, 3] rfl
      have hDc := hD.sub (ws' := [(id, .inr (1, [.ref jq, .int 0])), (jq, .inl (cB, 60, .inl jf))]) [2, 3] (by decide +kernel) rfl
      have hFc := va_free (wc := [(id, .inr (1, [.ref jq, .int 0])), (jq, .inl (cB, 60, .inl jf))]) hD hS hA [2, 3] rfl
      have hPR := RO_at hZr hS
      have hkc : 0 ≤ 0 := by decide
      have hks : 0 ≤ 0 := by decide
      refine va_callv (va_runV (C := "DiscMaker$Node") (As := [.ref id]) (rest := []) ⟨hx, hb, hml, hown, hts⟩ (c3_addShortToF l D cB cI cJ cZ cN cF H.size h0 kna kke kta so nu pa ab mo ow gr si sd c2 id jq 60 0 jf (dt 2 nu.toNatClampNeg) (dt 3 nu.toNatClampNeg) (by (try dsimp only); first | assumption | omega | trivial) (by (try dsimp only); first | assumption | omega | trivial) (hd2) (hd3) (by (try dsimp only); first | assumption | omega | trivial)) (cwV 1 hts (lg_goodV k989 k990 k991 k118 kc_Node_addShortTo) rfl rfl rfl (by decide +kernel) ⟨Nat.le_of_ble_eq_true rfl, Nat.le_of_ble_eq_true rfl⟩) ⟨fun a U g mk q => by obtain ⟨q0, q1, qP, qK, qN, qD, qZ0⟩ := q; exact ⟨q0, q1, qP, va_K.moved (u := U) (U := U.calling g mk a) (Vm.Alike.refl U.vm) qK, qN.calling, qD, RO_blind qZ0⟩, va_recv hK hPR (ci := 5) (q0 := 0) rfl rfl, fun U hU hW => ⟨rfl, by rw [hU], by rw [hU]; exact hPc, va_K.moved hW.alike hK, NN.warm hW hN, hDc.weaken (fun _ _ _ _ => trivial), (RO_app (w1 := [(h0, .inr (5, [.int so, .ref kna, .ref kke, .ref kta, .int nu, .int pa, .int ab, .int mo, .int ow, .int gr, .int si, .int sd]))]) (w2 := [(kke, .inl (cB, 11, .inl c2))]) (RO_pass (RO_one hZr 0 rfl) hS hFc hU) (RO_pass (RO_one hZr 2 rfl) hS hFc hU))⟩⟩ rfl rfl hl.1 rfl (lv_room (Nat.le_of_ble_eq_true rfl)) d_Maker_identify_55 ⟨hkc, hks⟩) hS (fun q _ h => hFc q h) hFc (fun u t H1 locs ht hvm hp_r2 hB hz1 hk1 hS => ?_)
      obtain ⟨L2_3, g_4⟩ := u
      obtain ⟨hP1, hD1⟩ := hB
      rw [ht] at hP1
      obtain ⟨hP, hD⟩ := va_join (wr := [(m0, .inr (4, [.ref tr, .ref im, .ref fi, .ref se, .ref u0, .ref id, .ref ct, .int ra, .int ru, .int wg])), (l0, .inr (3, [.int ln, .int lds, .int ltb, .ref lo, .ref lp, .ref lt, .ref lb, .ref le, .int lc, .int ld]))]) (w1 := [(id, .inr (1, [.ref jq, .int L2_3])), (jq, .inl (cB, 60, .inl g_4))]) hP hD [2, 3] [0, 1] rfl rfl (by decide +kernel) (by decide +kernel) hk1 hFc hP1 hD1
      clear hPc hDc hFc hP1 hD1 hk1 hz1 hkc hks
      generalize H1 = H at hP hS ⊢
      have hP : va_P D CL [(m0, .inr (4, [.ref tr, .ref im, .ref fi, .ref se, .ref u0, .ref id, .ref ct, .int ra, .int ru, .int wg])), (l0, .inr (3, [.int ln, .int lds, .int ltb, .ref lo, .ref lp, .ref lt, .ref lb, .ref le, .int lc, .int ld])), (id, .inr (1, [.ref jq, .int L2_3])), (jq, .inl (cB, 60, .inl g_4))] H := hP
      have hD : va_D A [(m0, .inr (4, [.ref tr, .ref im, .ref fi, .ref se, .ref u0, .ref id, .ref ct, .int ra, .int ru, .int wg])), (l0, .inr (3, [.int ln, .int lds, .int ltb, .ref lo, .ref lp, .ref lt, .ref lb, .ref le, .int lc, .int ld])), (id, .inr (1, [.ref jq, .int L2_3])), (jq, .inl (cB, 60, .inl g_4))] := hD
      try dsimp only at hp_r2
      obtain ⟨hE_5, hw_6⟩ := hp_r2
      try rw [L_0] at hE_5
      try rw [L_0] at hw_6
      have h9s := hE_5
      have ha9 := hw_6
      have hq2r := hd2.1
      have hq3r := hd3.1
      have hP9 := hP.sub (ws' := [(m0, .inr (4, [.ref tr, .ref im, .ref fi, .ref se, .ref u0, .ref id, .ref ct, .int ra, .int ru, .int wg])), (l0, .inr (3, [.int ln, .int lds, .int ltb, .ref lo, .ref lp, .ref lt, .ref lb, .ref le, .int lc, .int ld])), (id, .inr (1, [.ref jq, .int L2_3])), (jq, .inl (cB, 60, .inl g_4))]) [0, 1, 2, 3] rfl
      have hD9 := hD.sub (ws' := [(m0, .inr (4, [.ref tr, .ref im, .ref fi, .ref se, .ref u0, .ref id, .ref ct, .int ra, .int ru, .int wg])), (l0, .inr (3, [.int ln, .int lds, .int ltb, .ref lo, .ref lp, .ref lt, .ref lb, .ref le, .int lc, .int ld])), (id, .inr (1, [.ref jq, .int L2_3])), (jq, .inl (cB, 60, .inl g_4))]) [0, 1, 2, 3] (by decide +kernel) rfl
      exact W.vret hx hb hr (fun t ht hW => ⟨⟨(L2_3, g_4), rfl, ⟨(by (try dsimp only); first | assumption | omega | trivial), ⟨fun h7 => by unfold idS; rw [if_neg (by omega), if_neg (by decide)]; by_cases h8 : dt 0 nu.toNatClampNeg = 0 <;> first | (rw [if_pos h8]; omega) | (rw [if_neg h8]; omega), fun h7 => absurd h7 (by omega)⟩, (by (try dsimp only); unfold idL; rw [if_neg (by omega), if_neg (by omega), ← hf2, hd0]; exact Cn_BL ha9 (by omega) (by rw [shL_len _ (by omega) (by omega)]; by_cases h8 : so.toInt = 0 <;> first | (rw [if_pos h8]; omega) | (rw [if_neg h8]; omega)))⟩, by rw [ht]; exact hP9, hD9⟩, hS.F ht⟩) hS.2.2 d_Maker_identify_58
    · skip
      have g36_10 : ¬ ln.toInt = 0 := fun h8 => h_9 ((i_eq rfl (by decide)).mpr h8)
      refine lv_aload_n hx hb d_Maker_identify_39 rfl (lv_at hl 2 rfl) ?_
      refine lv_aload_n hx hb d_Maker_identify_40 rfl (lv_at hl 0 rfl) ?_
      refine va_get (D := D) (ci := 4) (v := .ref id) (C := "DiscMaker$Maker") (T := F_Maker) (N := 10) hx hb ht9 in_Maker hown hK hP 0 rfl rfl 5 (by decide) (ht9 _ k352) (fun _ h9 => h9) rfl d_Maker_identify_41 ?_
      have hPc := hP.sub (ws' := [(id, .inr (1, [.ref jq, .int 0])), (jq, .inl (cB, 60, .inl jf))]) [2, 3] rfl
      have hDc := hD.sub (ws' := [(id, .inr (1, [.ref jq, .int 0])), (jq, .inl (cB, 60, .inl jf))]) [2, 3] (by decide +kernel) rfl
      have hFc := va_free (wc := [(id, .inr (1, [.ref jq, .int 0])), (jq, .inl (cB, 60, .inl jf))]) hD hS hA [2, 3] rfl
      have hPR := RO_at hZr hS
      have hkc : 0 ≤ 0 := by decide
      have hks : 0 ≤ 0 := by decide
      refine va_callv (va_runV (C := "DiscMaker$Node") (As := [.ref id]) (rest := []) ⟨hx, hb, hml, hown, hts⟩ (c3_addLongToF l D cB cI cJ cZ cN cF H.size h0 kna kke kta so nu pa ab mo ow gr si sd l1 c1 id jq 60 0 jf (by (try dsimp only); first | assumption | omega | trivial) (by (try dsimp only); first | assumption | omega | trivial) (by (try dsimp only); first | assumption | omega | trivial) (by (try dsimp only); first | assumption | omega | trivial)) (cwV 1 hts (lg_goodV k979 k980 k981 k118 kc_Node_addLongTo) rfl rfl rfl (by decide +kernel) ⟨Nat.le_of_ble_eq_true rfl, Nat.le_of_ble_eq_true rfl⟩) ⟨fun a U g mk q => by obtain ⟨q0, q1, qP, qK, qN, qD, qZ0⟩ := q; exact ⟨q0, q1, qP, va_K.moved (u := U) (U := U.calling g mk a) (Vm.Alike.refl U.vm) qK, qN.calling, qD, RO_blind qZ0⟩, va_recv hK hPR (ci := 5) (q0 := 0) rfl rfl, fun U hU hW => ⟨rfl, by rw [hU], by rw [hU]; exact hPc, va_K.moved hW.alike hK, NN.warm hW hN, hDc.weaken (fun _ _ _ _ => trivial), (RO_app (w1 := [(h0, .inr (5, [.int so, .ref kna, .ref kke, .ref kta, .int nu, .int pa, .int ab, .int mo, .int ow, .int gr, .int si, .int sd]))]) (w2 := [(kna, .inl (cB, l1, .inl c1))]) (RO_pass (RO_one hZr 0 rfl) hS hFc hU) (RO_pass (RO_one hZr 1 rfl) hS hFc hU))⟩⟩ rfl rfl hl.1 rfl (lv_room (Nat.le_of_ble_eq_true rfl)) d_Maker_identify_44 ⟨hkc, hks⟩) hS (fun q _ h => hFc q h) hFc (fun u t H1 locs ht hvm hp_r7 hB hz1 hk1 hS => ?_)
      obtain ⟨L2_8, g_9⟩ := u
      obtain ⟨hP1, hD1⟩ := hB
      rw [ht] at hP1
      obtain ⟨hP, hD⟩ := va_join (wr := [(m0, .inr (4, [.ref tr, .ref im, .ref fi, .ref se, .ref u0, .ref id, .ref ct, .int ra, .int ru, .int wg])), (l0, .inr (3, [.int ln, .int lds, .int ltb, .ref lo, .ref lp, .ref lt, .ref lb, .ref le, .int lc, .int ld]))]) (w1 := [(id, .inr (1, [.ref jq, .int L2_8])), (jq, .inl (cB, 60, .inl g_9))]) hP hD [2, 3] [0, 1] rfl rfl (by decide +kernel) (by decide +kernel) hk1 hFc hP1 hD1
      clear hPc hDc hFc hP1 hD1 hk1 hz1 hkc hks
      generalize H1 = H at hP hS ⊢
      have hP : va_P D CL [(m0, .inr (4, [.ref tr, .ref im, .ref fi, .ref se, .ref u0, .ref id, .ref ct, .int ra, .int ru, .int wg])), (l0, .inr (3, [.int ln, .int lds, .int ltb, .ref lo, .ref lp, .ref lt, .ref lb, .ref le, .int lc, .int ld])), (id, .inr (1, [.ref jq, .int L2_8])), (jq, .inl (cB, 60, .inl g_9))] H := hP
      have hD : va_D A [(m0, .inr (4, [.ref tr, .ref im, .ref fi, .ref se, .ref u0, .ref id, .ref ct, .int ra, .int ru, .int wg])), (l0, .inr (3, [.int ln, .int lds, .int ltb, .ref lo, .ref lp, .ref lt, .ref lb, .ref le, .int lc, .int ld])), (id, .inr (1, [.ref jq, .int L2_8])), (jq, .inl (cB, 60, .inl g_9))] := hD
      try dsimp only at hp_r7
      obtain ⟨hE_10, hw_11⟩ := hp_r7
      try rw [L_0] at hE_10
      try rw [L_0] at hw_11
      refine lv_goto (tgt := 58) hx hb d_Maker_identify_47 (by decide) ?_
      have h9s := hE_10
      have ha9 := hw_11
      have hP9 := hP.sub (ws' := [(m0, .inr (4, [.ref tr, .ref im, .ref fi, .ref se, .ref u0, .ref id, .ref ct, .int ra, .int ru, .int wg])), (l0, .inr (3, [.int ln, .int lds, .int ltb, .ref lo, .ref lp, .ref lt, .ref lb, .ref le, .int lc, .int ld])), (id, .inr (1, [.ref jq, .int L2_8])), (jq, .inl (cB, 60, .inl g_9))]) [0, 1, 2, 3] rfl
      have hD9 := hD.sub (ws' := [(m0, .inr (4, [.ref tr, .ref im, .ref fi, .ref se, .ref u0, .ref id, .ref ct, .int ra, .int ru, .int wg])), (l0, .inr (3, [.int ln, .int lds, .int ltb, .ref lo, .ref lp, .ref lt, .ref lb, .ref le, .int lc, .int ld])), (id, .inr (1, [.ref jq, .int L2_8])), (jq, .inl (cB, 60, .inl g_9))]) [0, 1, 2, 3] (by decide +kernel) rfl
      exact W.vret hx hb hr (fun t ht hW => ⟨⟨(L2_8, g_9), rfl, ⟨(by (try dsimp only); first | assumption | omega | trivial), ⟨fun h7 => absurd h7 (by omega), fun h7 => by unfold idS; rw [if_neg (by omega), if_pos rfl]; omega⟩, (by (try dsimp only); unfold idL; rw [if_neg (by omega), if_pos (by omega), ← hf1, show (dt 1 nu.toNatClampNeg).toNat = l1 by omega]; exact Cn_BL ha9 (by omega) (by rw [lnL_len]; omega))⟩, by rw [ht]; exact hP9, hD9⟩, hS.F ht⟩) hS.2.2 d_Maker_identify_58
  · skip
    have g10_7 : ¬ x.toInt = 2 := fun h8 => h_9 ((i_eq rfl (by decide)).mpr h8)
    refine lv_aload_n hx hb d_Maker_identify_13 rfl (lv_at hl 0 rfl) ?_
    refine va_get (D := D) (ci := 4) (v := .ref id) (C := "DiscMaker$Maker") (T := F_Maker) (N := 10) hx hb ht9 in_Maker hown hK hP 0 rfl rfl 5 (by decide) (ht9 _ k352) (fun _ h9 => h9) rfl d_Maker_identify_14 ?_
    refine lv_aload_n hx hb d_Maker_identify_17 rfl (lv_at hl 0 rfl) ?_
    refine va_get (D := D) (ci := 4) (v := .ref id) (C := "DiscMaker$Maker") (T := F_Maker) (N := 10) hx hb ht9 in_Maker hown hK hP 0 rfl rfl 5 (by decide) (ht9 _ k352) (fun _ h9 => h9) rfl d_Maker_identify_18 ?_
    refine lv_iconst (v := 1) hx hb d_Maker_identify_21 (by decide) ?_
    have hPc := hP.sub (ws' := [(id, .inr (1, [.ref jq, .int 0])), (jq, .inl (cB, 60, .inl jf))]) [2, 3] rfl
    have hDc := hD.sub (ws' := [(id, .inr (1, [.ref jq, .int 0])), (jq, .inl (cB, 60, .inl jf))]) [2, 3] (by decide +kernel) rfl
    have hFc := va_free (wc := [(id, .inr (1, [.ref jq, .int 0])), (jq, .inl (cB, 60, .inl jf))]) hD hS hA [2, 3] rfl
    have hkc : 0 ≤ 0 := by decide
    have hks : 0 ≤ 0 := by decide
    refine va_calli (va_runV (C := "DiscMaker$Bytes") (As := [.int 1]) (rest := [.ref id]) ⟨hx, hb, hml, hown, hts⟩ (c3_extendF l D cB cI cJ cZ cN cF H.size id jq 60 0 jf 1 (by (try dsimp only); first | assumption | omega | trivial) (by (try dsimp only); first | assumption | omega | trivial) (by (try dsimp only); first | assumption | omega | trivial)) (cwV 1 hts (lg_goodV k977 k908 k909 k119 kc_Bytes_extend) rfl rfl rfl (by decide +kernel) ⟨Nat.le_of_ble_eq_true rfl, Nat.le_of_ble_eq_true rfl⟩) ⟨fun a U g mk q => by obtain ⟨q0, q1, qP, qK, qN, qD⟩ := q; exact ⟨q0, q1, qP, va_K.moved (u := U) (U := U.calling g mk a) (Vm.Alike.refl U.vm) qK, qN.calling, qD⟩, va_recv hK hP (ci := 1) (q0 := 2) rfl rfl, fun U hU hW => ⟨rfl, by rw [hU], by rw [hU]; exact hPc, va_K.moved hW.alike hK, NN.warm hW hN, hDc.weaken (fun _ _ _ _ => trivial)⟩⟩ rfl rfl hl.1 rfl (lv_room (Nat.le_of_ble_eq_true rfl)) d_Maker_identify_22 ⟨hkc, hks⟩) hS (fun q _ h => hFc q h) hFc (fun r12 u t H1 locs ht hvm hp_r12 hB hz1 hk1 hS => ?_)
    obtain ⟨L2_13, g_14⟩ := u
    obtain ⟨hP1, hD1⟩ := hB
    rw [ht] at hP1
    obtain ⟨hP, hD⟩ := va_join (wr := [(m0, .inr (4, [.ref tr, .ref im, .ref fi, .ref se, .ref u0, .ref id, .ref ct, .int ra, .int ru, .int wg])), (l0, .inr (3, [.int ln, .int lds, .int ltb, .ref lo, .ref lp, .ref lt, .ref lb, .ref le, .int lc, .int ld]))]) (w1 := [(id, .inr (1, [.ref jq, .int L2_13])), (jq, .inl (cB, 60, .inl g_14))]) hP hD [2, 3] [0, 1] rfl rfl (by decide +kernel) (by decide +kernel) hk1 hFc hP1 hD1
    clear hPc hDc hFc hP1 hD1 hk1 hz1 hkc hks
    generalize H1 = H at hP hS ⊢
    have hP : va_P D CL [(m0, .inr (4, [.ref tr, .ref im, .ref fi, .ref se, .ref u0, .ref id, .ref ct, .int ra, .int ru, .int wg])), (l0, .inr (3, [.int ln, .int lds, .int ltb, .ref lo, .ref lp, .ref lt, .ref lb, .ref le, .int lc, .int ld])), (id, .inr (1, [.ref jq, .int L2_13])), (jq, .inl (cB, 60, .inl g_14))] H := hP
    have hD : va_D A [(m0, .inr (4, [.ref tr, .ref im, .ref fi, .ref se, .ref u0, .ref id, .ref ct, .int ra, .int ru, .int wg])), (l0, .inr (3, [.int ln, .int lds, .int ltb, .ref lo, .ref lp, .ref lt, .ref lb, .ref le, .int lc, .int ld])), (id, .inr (1, [.ref jq, .int L2_13])), (jq, .inl (cB, 60, .inl g_14))] := hD
    try dsimp only at hp_r12
    obtain ⟨hv_15, hE_16, hw_17⟩ := hp_r12
    try rw [L_0] at hv_15
    try rw [L_0] at hE_16
    try rw [L_1] at hE_16
    try rw [L_0] at hw_17
    try rw [L_1] at hw_17
    refine lv_iload_n hx hb d_Maker_identify_25 rfl (lv_at hl 3 rfl) ?_
    have hPc := hP.sub (ws' := [(id, .inr (1, [.ref jq, .int L2_13])), (jq, .inl (cB, 60, .inl g_14))]) [2, 3] rfl
    have hDc := hD.sub (ws' := [(id, .inr (1, [.ref jq, .int L2_13])), (jq, .inl (cB, 60, .inl g_14))]) [2, 3] (by decide +kernel) rfl
    have hFc := va_free (wc := [(id, .inr (1, [.ref jq, .int L2_13])), (jq, .inl (cB, 60, .inl g_14))]) hD hS hA [2, 3] rfl
    have hkc : 0 ≤ 0 := by decide
    have hks : 0 ≤ 0 := by decide
    refine va_callv (va_runV (C := "DiscMaker$Bytes") (As := [.int r12, .int x]) (rest := []) ⟨hx, hb, hml, hown, hts⟩ (c3_putF l D cB cI cJ cZ cN cF H.size id jq 60 L2_13 g_14 r12 x (by (try dsimp only); first | assumption | omega | trivial) (by (try dsimp only); first | assumption | omega | trivial) (by (try dsimp only); first | assumption | omega | trivial)) (cwV 2 hts (lg_goodV k978 k912 k913 k119 kc_Bytes_put) rfl rfl rfl (by decide +kernel) ⟨Nat.le_of_ble_eq_true rfl, Nat.le_of_ble_eq_true rfl⟩) ⟨fun a U g mk q => by obtain ⟨q0, q1, qP, qK, qN, qD⟩ := q; exact ⟨q0, q1, qP, va_K.moved (u := U) (U := U.calling g mk a) (Vm.Alike.refl U.vm) qK, qN.calling, qD⟩, va_recv hK hP (ci := 1) (q0 := 2) rfl rfl, fun U hU hW => ⟨rfl, by rw [hU], by rw [hU]; exact hPc, va_K.moved hW.alike hK, NN.warm hW hN, hDc.weaken (fun _ _ _ _ => trivial)⟩⟩ rfl rfl hl.1 rfl (lv_room (Nat.le_of_ble_eq_true rfl)) d_Maker_identify_26 ⟨hkc, hks⟩) hS (fun q _ h => hFc q h) hFc (fun u t H1 locs ht hvm hp_r18 hB hz1 hk1 hS => ?_)
    obtain ⟨g_19, rfl⟩ : ∃ z, z = u := ⟨_, rfl⟩
    obtain ⟨hP1, hD1⟩ := hB
    rw [ht] at hP1
    obtain ⟨hP, hD⟩ := va_join (wr := [(m0, .inr (4, [.ref tr, .ref im, .ref fi, .ref se, .ref u0, .ref id, .ref ct, .int ra, .int ru, .int wg])), (l0, .inr (3, [.int ln, .int lds, .int ltb, .ref lo, .ref lp, .ref lt, .ref lb, .ref le, .int lc, .int ld]))]) (w1 := [(id, .inr (1, [.ref jq, .int L2_13])), (jq, .inl (cB, 60, .inl g_19))]) hP hD [2, 3] [0, 1] rfl rfl (by decide +kernel) (by decide +kernel) hk1 hFc hP1 hD1
    clear hPc hDc hFc hP1 hD1 hk1 hz1 hkc hks
    generalize H1 = H at hP hS ⊢
    have hP : va_P D CL [(m0, .inr (4, [.ref tr, .ref im, .ref fi, .ref se, .ref u0, .ref id, .ref ct, .int ra, .int ru, .int wg])), (l0, .inr (3, [.int ln, .int lds, .int ltb, .ref lo, .ref lp, .ref lt, .ref lb, .ref le, .int lc, .int ld])), (id, .inr (1, [.ref jq, .int L2_13])), (jq, .inl (cB, 60, .inl g_19))] H := hP
    have hD : va_D A [(m0, .inr (4, [.ref tr, .ref im, .ref fi, .ref se, .ref u0, .ref id, .ref ct, .int ra, .int ru, .int wg])), (l0, .inr (3, [.int ln, .int lds, .int ltb, .ref lo, .ref lp, .ref lt, .ref lb, .ref le, .int lc, .int ld])), (id, .inr (1, [.ref jq, .int L2_13])), (jq, .inl (cB, 60, .inl g_19))] := hD
    try dsimp only at hp_r18
    have hw_20 := hp_r18
    refine lv_goto (tgt := 58) hx hb d_Maker_identify_29 (by decide) ?_
    have ha9 := BL_pt (Pt_ext hw_17 hw_20 (by decide) (by omega))
    rw [show x.toInt % 256 = x.toInt by omega] at ha9
    have hP9 := hP.sub (ws' := [(m0, .inr (4, [.ref tr, .ref im, .ref fi, .ref se, .ref u0, .ref id, .ref ct, .int ra, .int ru, .int wg])), (l0, .inr (3, [.int ln, .int lds, .int ltb, .ref lo, .ref lp, .ref lt, .ref lb, .ref le, .int lc, .int ld])), (id, .inr (1, [.ref jq, .int L2_13])), (jq, .inl (cB, 60, .inl g_19))]) [0, 1, 2, 3] rfl
    have hD9 := hD.sub (ws' := [(m0, .inr (4, [.ref tr, .ref im, .ref fi, .ref se, .ref u0, .ref id, .ref ct, .int ra, .int ru, .int wg])), (l0, .inr (3, [.int ln, .int lds, .int ltb, .ref lo, .ref lp, .ref lt, .ref lb, .ref le, .int lc, .int ld])), (id, .inr (1, [.ref jq, .int L2_13])), (jq, .inl (cB, 60, .inl g_19))]) [0, 1, 2, 3] (by decide +kernel) rfl
    exact W.vret hx hb hr (fun t ht hW => ⟨⟨(L2_13, g_19), rfl, ⟨(by (try dsimp only); first | assumption | omega | trivial), ⟨fun h7 => by unfold idS; rw [if_pos (by omega)]; omega, fun h7 => by unfold idS; rw [if_pos (by omega)]; omega⟩, (by (try dsimp only); unfold idL; rw [if_pos (by omega)]; exact Cn_BL ha9 (by omega) (by rw [List.length_singleton]; omega))⟩, by rw [ht]; exact hP9, hD9⟩, hS.F ht⟩) hS.2.2 d_Maker_identify_58

set_option maxHeartbeats 4000000 in
set_option maxRecDepth 100000 in
theorem c3_directoriesInF (l : Launch) (D : va_G) (cB cI cJ cZ cN cF : ClassId) (sz : Nat) (tr : Nat) (ta : Nat) (cn : Int32) (dr : Int32) (na : Nat → Nat → Nat) (ng : Nat → Nat → Int32) (nn : Nat → Nat → Nat) (nf : Nat → Nat → Nat → Int32) (cm : Nat) (dt : Nat → Nat → Int) (x : Int32) (hcn : cn.toInt = cm) (hcm : cm ≤ 40) (htok : TOK cm ng nn) (hdt : DtC dt cm ng nn nf) (hc1 : 1 ≤ cm) : Met l y_Tree_directoriesIn w_Tree_directoriesIn ({ frames := 0, cells := 0, slots := 0, locals := 0 }) (va_Pc [.ref tr, .int x] (fun U => U.heap.size = sz ∧ va_P D CL [] U.heap ∧ va_K D CL (TY cB cI cJ cZ cN cF) U ∧ NN U ∧ va_D (fun _ => True) [] ∧ RO D (([(tr, .inr (10, [.ref ta, .int cn, .int dr])), (ta, .inl (cN, 40, .inr (.inr (.inr (.inr (rowF na cm))))))] : va_W) ++ (PL (NC cB na ng nn nf) cm)) (va_A [] sz) U U.heap)) (va_Qi (fun (r : Int32) (u : Unit) => (r.toInt = dnF (dt 5) (dt 0) x.toInt cm) ∧ (0 ≤ r.toInt ∧ r.toInt ≤ 40)) (fun (u : Unit) (t : State) => match u with | () => va_P D CL [] t.heap ∧ va_D (va_A [] sz) []) (va_A [] sz)) 0 0 (va_A [] sz) := by
  refine Met.ofW (cc := b_Tree_directoriesIn) (maxL := 4) (ret := some .int) (by decide +kernel) rfl ?_
  intro p e s m args below meth c s₁ B hml hv
  obtain ⟨rfl, hsz, hP, hK, hN, hD0, hZr⟩ := hv
  have hx := B.exec
  have hb := B.bytes
  have hr := B.returns
  have hts := atoms_spec (ws := w_Tree_directoriesIn) B.pre
  have ht9 := fun (w : Cond) (h : w ∈ lw_g) => hts w (List.mem_cons_of_mem _ h)
  have hown : s.vm.findClass "DiscMaker$Tree" = some m.cls := findClass_of_methodNamed B.named
  have hlocks := B.notSynchronized
  subst hsz
  have hD := hD0.self (sz := s.heap.size)
  generalize hAe : va_A [] s.heap.size = A at hD hZr ⊢
  have hA : ∀ q : Nat, s.heap.size ≤ q → A q := fun q h => by rw [← hAe]; exact Or.inr h
  have hS : va_S A s.heap s.heap [] := va_S.rf
  have hP : va_P D CL [] s.heap := hP
  have hl := lv_entry [.ref tr, .int x] (n := 4) (Nat.le_of_ble_eq_true rfl)
  rw [lg_entry_eq]
  generalize (lg_sl [.ref tr, .int x] ++ List.replicate (4 - (lg_sl [.ref tr, .int x]).length) Slot.unset).toArray = ls at hl ⊢
  have hl : lv_has ls 4 [(0, .ref tr), (1, .int x)] := hl
  have L_m1 : ((-1) : Int32).toInt = (-1) := by decide
  have L_0 : (0 : Int32).toInt = 0 := by decide
  have L_1 : (1 : Int32).toInt = 1 := by decide
  refine lv_iconst (v := 0) hx hb d_Tree_directoriesIn_0 (by decide) ?_
  refine lv_istore_n hx hb d_Tree_directoriesIn_1 rfl hl (by decide) rfl (fun ls hl => ?_)
  have hl : lv_has ls 4 [(2, .int 0), (0, .ref tr), (1, .int x)] := hl
  refine lv_iconst (v := 1) hx hb d_Tree_directoriesIn_2 (by decide) ?_
  refine lv_istore_n hx hb d_Tree_directoriesIn_3 rfl hl (by decide) rfl (fun ls hl => ?_)
  have hl : lv_has ls 4 [(3, .int 1), (2, .int 0), (0, .ref tr), (1, .int x)] := hl
  refine zz_labM (B := fun (lk : Nat) (K : Heap → List Loc → Array Slot → List Value → Prop) => ∀ (fd : Int32) (kx : Int32) (H : Heap) (locs : List Loc) (ls : Array Slot), lk = (41 - kx.toInt).toNat → (1 ≤ kx.toInt ∧ kx.toInt ≤ cm) → (0 ≤ fd.toInt ∧ fd.toInt ≤ kx.toInt - 1) → (fd.toInt = dnF (dt 5) (dt 0) x.toInt kx.toNatClampNeg) → va_P D CL [] H → va_D A [] → va_S A s.heap H locs → lv_has ls 4 [(0, .ref tr), (1, .int x), (2, .int fd), (3, .int kx)] → K H locs ls []) 4 ?_ ?_
  · skip
    intro lk ih4 fd kx H locs ls hm4 e1 e2 e3 hP hD hS hl
    refine lv_iload_n hx hb d_Tree_directoriesIn_4 rfl (lv_at hl 3 rfl) ?_
    refine lv_aload_n hx hb d_Tree_directoriesIn_5 rfl (lv_at hl 0 rfl) ?_
    have hPR := RO_at hZr hS
    refine va_get (D := D) (ci := 10) (v := .int cn) (C := "DiscMaker$Tree") (T := F_Tree) (N := 3) hx hb ht9 in_Tree hown hK hPR 0 rfl rfl 1 (by decide) (ht9 _ k239) (fun _ h9 => h9) rfl d_Tree_directoriesIn_6 ?_
    refine lv_icmp_ge (tgt := 46) hx hb d_Tree_directoriesIn_9 (by decide) (fun h_9 => ?_) (fun h_9 => ?_)
    · skip
      have g9_8 : cn.toInt ≤ kx.toInt := (i_le rfl rfl).mp h_9
      refine lv_iload_n hx hb d_Tree_directoriesIn_46 rfl (lv_at hl 2 rfl) ?_
      have hP9 := hP.sub (ws' := []) [] rfl
      have hD9 := hD.sub (ws' := []) [] (by decide +kernel) rfl
      exact W.iret (v := fd) hx hb hr (fun t ht hW => ⟨⟨fd, (), rfl, ⟨(by (try dsimp only); have h7 := i_cl (a := kx) (by omega); rw [show cm = kx.toNatClampNeg by omega]; exact e3), (by (try dsimp only); first | assumption | omega | trivial)⟩, by rw [ht]; exact hP9, hD9⟩, hS.F ht⟩) hS.2.2 d_Tree_directoriesIn_47
    · skip
      have g9_8 : ¬ cn.toInt ≤ kx.toInt := fun h8 => h_9 ((i_le rfl rfl).mpr h8)
      refine lv_aload_n hx hb d_Tree_directoriesIn_12 rfl (lv_at hl 0 rfl) ?_
      have hPR := RO_at hZr hS
      refine va_get (D := D) (ci := 10) (v := .ref ta) (C := "DiscMaker$Tree") (T := F_Tree) (N := 3) hx hb ht9 in_Tree hown hK hPR 0 rfl rfl 0 (by decide) (ht9 _ k235) (fun _ h9 => h9) rfl d_Tree_directoriesIn_13 ?_
      refine lv_iload_n hx hb d_Tree_directoriesIn_16 rfl (lv_at hl 3 rfl) ?_
      have hPR := RO_at hZr hS
      refine va_aldq hx hb hK hPR 1 4 rfl rfl (vp_in_iff.mpr ⟨by omega, by omega⟩) d_Tree_directoriesIn_17 ?_
      have c_hk1 := i_cl (a := kx) (by omega)
      have hk1 : kx.toNatClampNeg < cm := by omega
      have o_hk1 := htok kx.toNatClampNeg hk1
      obtain ⟨i_hj2, hj2⟩ : ∃ j : Nat, (PL (NC cB na ng nn nf) cm)[j]? = some ((na kx.toNatClampNeg 0), .inr (5, [.int (ng kx.toNatClampNeg 0), .ref (na kx.toNatClampNeg 1), .ref (na kx.toNatClampNeg 2), .ref (na kx.toNatClampNeg 3), .int (ng kx.toNatClampNeg 1), .int (ng kx.toNatClampNeg 2), .int (ng kx.toNatClampNeg 3), .int (ng kx.toNatClampNeg 4), .int (ng kx.toNatClampNeg 5), .int (ng kx.toNatClampNeg 6), .int (ng kx.toNatClampNeg 7), .int (ng kx.toNatClampNeg 8)])) := PL_get (i := 0) hk1 rfl
      obtain ⟨i_hj3, hj3⟩ : ∃ j : Nat, (PL (NC cB na ng nn nf) cm)[j]? = some ((na kx.toNatClampNeg 1), .inl (cB, (nn kx.toNatClampNeg 1), .inl (nf kx.toNatClampNeg 1))) := PL_get (i := 1) hk1 rfl
      obtain ⟨i_hj4, hj4⟩ : ∃ j : Nat, (PL (NC cB na ng nn nf) cm)[j]? = some ((na kx.toNatClampNeg 2), .inl (cB, 11, .inl (nf kx.toNatClampNeg 2))) := PL_get (i := 2) hk1 rfl
      obtain ⟨i_hj5, hj5⟩ : ∃ j : Nat, (PL (NC cB na ng nn nf) cm)[j]? = some ((na kx.toNatClampNeg 3), .inl (cB, (nn kx.toNatClampNeg 3), .inl (nf kx.toNatClampNeg 3))) := PL_get (i := 3) hk1 rfl
      refine W.eq (g2 := F0 m 18 ls [.ref (na kx.toNatClampNeg 0)]) (by rw [show rowF na cm kx.toNatClampNeg = some (na kx.toNatClampNeg 0) from rowF_some hk1]; rfl) ?_
      have hPR := RO_at hZr hS
      refine va_getN (D := D) (ci := 5) (v := .int (ng kx.toNatClampNeg 2)) (C := "DiscMaker$Node") (T := F_Node) (N := 12) hx hb ht9 in_Node hown hK hPR _ (pix (X := [(tr, .inr (10, [.ref ta, .int cn, .int dr])), (ta, .inl (cN, 40, .inr (.inr (.inr (.inr (rowF na cm))))))]) hj2) rfl 5 (by decide) (va_Nw.use rfl (hN _ k196)) (fun _ h9 => h9) rfl d_Tree_directoriesIn_18 ?_
      refine lv_iload_n hx hb d_Tree_directoriesIn_21 rfl (lv_at hl 1 rfl) ?_
      refine lv_icmp_ne (tgt := 40) hx hb d_Tree_directoriesIn_22 (by decide) (fun h_9 => ?_) (fun h_9 => ?_)
      · skip
        have g22_17 : ¬ (ng kx.toNatClampNeg 2).toInt = x.toInt := fun h8 => h_9 ((i_eq rfl rfl).mpr h8)
        obtain ⟨v6, e_v6⟩ : ∃ z : Int32, z = kx + 1 := ⟨_, rfl⟩
        refine lv_iinc (v := v6) hx hb d_Tree_directoriesIn_40 hl (k := 3) rfl e_v6.symm (by decide +kernel) rfl (fun ls hl => ?_)
        have t_v6 : v6.toInt = kx.toInt + 1 := by rw [e_v6]; exact i_add rfl (by decide) (by omega) (by omega)
        have hl : lv_has ls 4 [(3, .int v6), (0, .ref tr), (1, .int x), (2, .int fd)] := hl
        refine lv_goto (tgt := 4) hx hb d_Tree_directoriesIn_43 (by decide) ?_
        have hP := hP.sub (ws' := []) [] rfl
        have hD := hD.sub (ws' := []) [] (by decide +kernel) rfl
        have hl := lv_sub hl [1, 2, 3, 0] rfl
        exact ih4 _ (by first | omega | (dsimp only; omega)) fd v6 _ _ _ rfl ((by (try dsimp only); first | assumption | omega | trivial)) ((by (try dsimp only); first | assumption | omega | trivial)) ((by have h7 := i_cl (a := kx) (by omega); have h6 := i_cl (a := v6) (by omega); have h5 := (hdt kx.toNatClampNeg (by omega)).1; have h4 := h5.1; have h3 := h5.2.2.2.1; rw [dnF_miss (k := kx.toNatClampNeg) (fun h8 => by have h9 := h8.2.1; have h10 := h8.2.2; rw [h3] at h9; rw [h4] at h10; omega) (by omega)]; omega)) hP hD hS hl
      · skip
        have g22_17 : (ng kx.toNatClampNeg 2).toInt = x.toInt := (i_eq rfl rfl).mp h_9
        refine lv_aload_n hx hb d_Tree_directoriesIn_25 rfl (lv_at hl 0 rfl) ?_
        have hPR := RO_at hZr hS
        refine va_get (D := D) (ci := 10) (v := .ref ta) (C := "DiscMaker$Tree") (T := F_Tree) (N := 3) hx hb ht9 in_Tree hown hK hPR 0 rfl rfl 0 (by decide) (ht9 _ k235) (fun _ h9 => h9) rfl d_Tree_directoriesIn_26 ?_
        refine lv_iload_n hx hb d_Tree_directoriesIn_29 rfl (lv_at hl 3 rfl) ?_
        have hPR := RO_at hZr hS
        refine va_aldq hx hb hK hPR 1 4 rfl rfl (vp_in_iff.mpr ⟨by omega, by omega⟩) d_Tree_directoriesIn_30 ?_
        have c_hk7 := i_cl (a := kx) (by omega)
        have hk7 : kx.toNatClampNeg < cm := by omega
        have o_hk7 := htok kx.toNatClampNeg hk7
        obtain ⟨i_hj8, hj8⟩ : ∃ j : Nat, (PL (NC cB na ng nn nf) cm)[j]? = some ((na kx.toNatClampNeg 0), .inr (5, [.int (ng kx.toNatClampNeg 0), .ref (na kx.toNatClampNeg 1), .ref (na kx.toNatClampNeg 2), .ref (na kx.toNatClampNeg 3), .int (ng kx.toNatClampNeg 1), .int (ng kx.toNatClampNeg 2), .int (ng kx.toNatClampNeg 3), .int (ng kx.toNatClampNeg 4), .int (ng kx.toNatClampNeg 5), .int (ng kx.toNatClampNeg 6), .int (ng kx.toNatClampNeg 7), .int (ng kx.toNatClampNeg 8)])) := PL_get (i := 0) hk7 rfl
        obtain ⟨i_hj9, hj9⟩ : ∃ j : Nat, (PL (NC cB na ng nn nf) cm)[j]? = some ((na kx.toNatClampNeg 1), .inl (cB, (nn kx.toNatClampNeg 1), .inl (nf kx.toNatClampNeg 1))) := PL_get (i := 1) hk7 rfl
        obtain ⟨i_hj10, hj10⟩ : ∃ j : Nat, (PL (NC cB na ng nn nf) cm)[j]? = some ((na kx.toNatClampNeg 2), .inl (cB, 11, .inl (nf kx.toNatClampNeg 2))) := PL_get (i := 2) hk7 rfl
        obtain ⟨i_hj11, hj11⟩ : ∃ j : Nat, (PL (NC cB na ng nn nf) cm)[j]? = some ((na kx.toNatClampNeg 3), .inl (cB, (nn kx.toNatClampNeg 3), .inl (nf kx.toNatClampNeg 3))) := PL_get (i := 3) hk7 rfl
        refine W.eq (g2 := F0 m 31 ls [.ref (na kx.toNatClampNeg 0)]) (by rw [show rowF na cm kx.toNatClampNeg = some (na kx.toNatClampNeg 0) from rowF_some hk7]; rfl) ?_
        have hPR := RO_at hZr hS
        refine va_getN (D := D) (ci := 5) (v := .int (ng kx.toNatClampNeg 0)) (C := "DiscMaker$Node") (T := F_Node) (N := 12) hx hb ht9 in_Node hown hK hPR _ (pix (X := [(tr, .inr (10, [.ref ta, .int cn, .int dr])), (ta, .inl (cN, 40, .inr (.inr (.inr (.inr (rowF na cm))))))]) hj8) rfl 0 (by decide) (va_Nw.use rfl (hN _ k180)) (fun _ h9 => h9) rfl d_Tree_directoriesIn_31 ?_
        refine lv_if_ne (tgt := 40) hx hb d_Tree_directoriesIn_34 (by decide) (fun h_9 => ?_) (fun h_9 => ?_)
        · skip
          have g34_26 : ¬ (ng kx.toNatClampNeg 0).toInt = 0 := fun h8 => h_9 ((i_eq rfl (by decide)).mpr h8)
          obtain ⟨v12, e_v12⟩ : ∃ z : Int32, z = kx + 1 := ⟨_, rfl⟩
          refine lv_iinc (v := v12) hx hb d_Tree_directoriesIn_40 hl (k := 3) rfl e_v12.symm (by decide +kernel) rfl (fun ls hl => ?_)
          have t_v12 : v12.toInt = kx.toInt + 1 := by rw [e_v12]; exact i_add rfl (by decide) (by omega) (by omega)
          have hl : lv_has ls 4 [(3, .int v12), (0, .ref tr), (1, .int x), (2, .int fd)] := hl
          refine lv_goto (tgt := 4) hx hb d_Tree_directoriesIn_43 (by decide) ?_
          have hP := hP.sub (ws' := []) [] rfl
          have hD := hD.sub (ws' := []) [] (by decide +kernel) rfl
          have hl := lv_sub hl [1, 2, 3, 0] rfl
          exact ih4 _ (by first | omega | (dsimp only; omega)) fd v12 _ _ _ rfl ((by (try dsimp only); first | assumption | omega | trivial)) ((by (try dsimp only); first | assumption | omega | trivial)) ((by have h7 := i_cl (a := kx) (by omega); have h6 := i_cl (a := v12) (by omega); have h5 := (hdt kx.toNatClampNeg (by omega)).1; have h4 := h5.1; have h3 := h5.2.2.2.1; rw [dnF_miss (k := kx.toNatClampNeg) (fun h8 => by have h9 := h8.2.1; have h10 := h8.2.2; rw [h3] at h9; rw [h4] at h10; omega) (by omega)]; omega)) hP hD hS hl
        · skip
          have g34_26 : (ng kx.toNatClampNeg 0).toInt = 0 := (i_eq rfl (by decide)).mp h_9
          obtain ⟨v13, e_v13⟩ : ∃ z : Int32, z = fd + 1 := ⟨_, rfl⟩
          refine lv_iinc (v := v13) hx hb d_Tree_directoriesIn_37 hl (k := 2) rfl e_v13.symm (by decide +kernel) rfl (fun ls hl => ?_)
          have t_v13 : v13.toInt = fd.toInt + 1 := by rw [e_v13]; exact i_add rfl (by decide) (by omega) (by omega)
          have hl : lv_has ls 4 [(2, .int v13), (0, .ref tr), (1, .int x), (3, .int kx)] := hl
          obtain ⟨v14, e_v14⟩ : ∃ z : Int32, z = kx + 1 := ⟨_, rfl⟩
          refine lv_iinc (v := v14) hx hb d_Tree_directoriesIn_40 hl (k := 3) rfl e_v14.symm (by decide +kernel) rfl (fun ls hl => ?_)
          have t_v14 : v14.toInt = kx.toInt + 1 := by rw [e_v14]; exact i_add rfl (by decide) (by omega) (by omega)
          have hl : lv_has ls 4 [(3, .int v14), (2, .int v13), (0, .ref tr), (1, .int x)] := hl
          refine lv_goto (tgt := 4) hx hb d_Tree_directoriesIn_43 (by decide) ?_
          have hP := hP.sub (ws' := []) [] rfl
          have hD := hD.sub (ws' := []) [] (by decide +kernel) rfl
          have hl := lv_sub hl [2, 3, 1, 0] rfl
          exact ih4 _ (by first | omega | (dsimp only; omega)) v13 v14 _ _ _ rfl ((by (try dsimp only); first | assumption | omega | trivial)) ((by (try dsimp only); first | assumption | omega | trivial)) ((by have h7 := i_cl (a := kx) (by omega); have h6 := i_cl (a := v14) (by omega); have h5 := (hdt kx.toNatClampNeg (by omega)).1; have h4 := h5.1; have h3 := h5.2.2.2.1; rw [dnF_hit (k := kx.toNatClampNeg) ⟨by omega, by rw [h3]; omega, by rw [h4]; omega⟩ (by omega)]; omega)) hP hD hS hl
  · skip
    intro kk4
    have hP := hP.sub (ws' := []) [] rfl
    have hD := hD.sub (ws' := []) [] (by decide +kernel) rfl
    have hl := lv_sub hl [2, 3, 1, 0] rfl
    exact kk4 _ 0 1 _ _ _ rfl ((by (try dsimp only); first | assumption | omega | trivial)) ((by (try dsimp only); first | assumption | omega | trivial)) ((by rw [show (1 : Int32).toNatClampNeg = 1 by decide, dnF_miss (k := 0) (fun h8 => absurd h8.1 (by decide)) rfl]; rfl)) hP hD hS hl

set_option maxHeartbeats 4000000 in
set_option maxRecDepth 100000 in
theorem c3_buildPartsF (l : Launch) (D : va_G) (cB cI cJ cZ cN cF : ClassId) (sz : Nat) (m0 : Nat) (tr : Nat) (im : Nat) (fi : Nat) (se : Nat) (u0 : Nat) (id : Nat) (ct : Nat) (ra : Int32) (ru : Int32) (wg : Int32) (pb : Nat) (pq : Nat) (en : Nat) (uc : Int32) (uk : Int32) (pL : Int32) (pf : Nat → Int32) (ef : Nat → Int32) (ta : Nat) (cn : Int32) (dr : Int32) (na : Nat → Nat → Nat) (ng : Nat → Nat → Int32) (nn : Nat → Nat → Nat) (nf : Nat → Nat → Nat → Int32) (cm : Nat) (h0 : Nat) (kna : Nat) (kke : Nat) (kta : Nat) (so : Int32) (nu : Int32) (pa : Int32) (ab : Int32) (mo : Int32) (ow : Int32) (gr : Int32) (si : Int32) (sd : Int32) (l1 : Nat) (c1 : Nat → Int32) (l3 : Nat) (c3 : Nat → Int32) (dt : Nat → Nat → Int) (dx : Nat → Nat → Int) (x : Int32) (hPL : 0 ≤ pL.toInt ∧ pL.toInt ≤ 400) (huc : 0 ≤ uc.toInt ∧ uc.toInt ≤ 4) (hen : EnOK uc.toInt pL.toInt ef) (hcn : cn.toInt = cm) (hcm : cm ≤ 40) (htok : TOK cm ng nn) (hl1 : l1 ≤ 400) (hl3 : l3 ≤ 400) (hd0 : dt 0 nu.toNatClampNeg = so.toInt) (hd1 : dt 1 nu.toNatClampNeg = l1) (hd4 : dt 4 nu.toNatClampNeg = compS c3 l3) (hb1 : l1 ≤ 30) (hb3 : l3 ≤ 200) (hx2 : 0 ≤ x.toInt ∧ x.toInt ≤ 2) (hrd : x.toInt < 2 → so.toInt = 0) (hnu0 : 0 ≤ nu.toInt) (hu0 : uc.toInt = 0 ∧ pL.toInt = 0) (hf1 : c1 = nf nu.toNatClampNeg 1) (hf3 : c3 = nf nu.toNatClampNeg 3) (hdx : DxN dt dx cm nu.toNatClampNeg so mo ow gr l3) (hdt : DtC dt cm ng nn nf) (hc1 : 1 ≤ cm) : Met l y_Maker_buildParts w_Maker_buildParts ({ frames := 3, cells := 0, slots := 0, locals := 92 }) (va_Pc [.ref m0, .ref h0, .int x] (fun U => U.heap.size = sz ∧ va_P D CL [(m0, .inr (4, [.ref tr, .ref im, .ref fi, .ref se, .ref u0, .ref id, .ref ct, .int ra, .int ru, .int wg])), (u0, .inr (8, [.ref pb, .ref en, .int uc, .int uk])), (pb, .inr (1, [.ref pq, .int pL])), (pq, .inl (cB, 400, .inl pf)), (en, .inl (cI, 4, .inl ef))] U.heap ∧ va_K D CL (TY cB cI cJ cZ cN cF) U ∧ NN U ∧ va_D (fun _ => True) [(m0, .inr (4, [.ref tr, .ref im, .ref fi, .ref se, .ref u0, .ref id, .ref ct, .int ra, .int ru, .int wg])), (u0, .inr (8, [.ref pb, .ref en, .int uc, .int uk])), (pb, .inr (1, [.ref pq, .int pL])), (pq, .inl (cB, 400, .inl pf)), (en, .inl (cI, 4, .inl ef))] ∧ RO D (([(tr, .inr (10, [.ref ta, .int cn, .int dr])), (ta, .inl (cN, 40, .inr (.inr (.inr (.inr (rowF na cm)))))), (h0, .inr (5, [.int so, .ref kna, .ref kke, .ref kta, .int nu, .int pa, .int ab, .int mo, .int ow, .int gr, .int si, .int sd])), (kna, .inl (cB, l1, .inl c1)), (kta, .inl (cB, l3, .inl c3))] : va_W) ++ (PL (NC cB na ng nn nf) cm)) (va_A [(m0, .inr (4, [.ref tr, .ref im, .ref fi, .ref se, .ref u0, .ref id, .ref ct, .int ra, .int ru, .int wg])), (u0, .inr (8, [.ref pb, .ref en, .int uc, .int uk])), (pb, .inr (1, [.ref pq, .int pL])), (pq, .inl (cB, 400, .inl pf)), (en, .inl (cI, 4, .inl ef))] sz) U U.heap)) (va_Qv (fun (u : Int32 × Int32 × (Nat → Int32) × (Nat → Int32)) => match u with | (uc2, L2, g, ef2) => (0 ≤ L2.toInt ∧ L2.toInt ≤ 400) ∧ (0 ≤ uc2.toInt ∧ uc2.toInt ≤ 4) ∧ (EnOK uc2.toInt L2.toInt ef2) ∧ (L2.toInt = alS dt x.toInt nu.toNatClampNeg) ∧ (EnL uc2.toInt ef2 (enS dt x.toInt nu.toNatClampNeg)) ∧ (Cn g L2.toInt (usL dt dx nf x.toInt nu.toNatClampNeg))) (fun (u : Int32 × Int32 × (Nat → Int32) × (Nat → Int32)) (t : State) => match u with | (uc2, L2, g, ef2) => va_P D CL [(m0, .inr (4, [.ref tr, .ref im, .ref fi, .ref se, .ref u0, .ref id, .ref ct, .int ra, .int ru, .int wg])), (u0, .inr (8, [.ref pb, .ref en, .int uc2, .int uk])), (pb, .inr (1, [.ref pq, .int L2])), (pq, .inl (cB, 400, .inl g)), (en, .inl (cI, 4, .inl ef2))] t.heap ∧ va_D (va_A [(m0, .inr (4, [.ref tr, .ref im, .ref fi, .ref se, .ref u0, .ref id, .ref ct, .int ra, .int ru, .int wg])), (u0, .inr (8, [.ref pb, .ref en, .int uc, .int uk])), (pb, .inr (1, [.ref pq, .int pL])), (pq, .inl (cB, 400, .inl pf)), (en, .inl (cI, 4, .inl ef))] sz) [(m0, .inr (4, [.ref tr, .ref im, .ref fi, .ref se, .ref u0, .ref id, .ref ct, .int ra, .int ru, .int wg])), (u0, .inr (8, [.ref pb, .ref en, .int uc2, .int uk])), (pb, .inr (1, [.ref pq, .int L2])), (pq, .inl (cB, 400, .inl g)), (en, .inl (cI, 4, .inl ef2))]) (va_A [(m0, .inr (4, [.ref tr, .ref im, .ref fi, .ref se, .ref u0, .ref id, .ref ct, .int ra, .int ru, .int wg])), (u0, .inr (8, [.ref pb, .ref en, .int uc, .int uk])), (pb, .inr (1, [.ref pq, .int pL])), (pq, .inl (cB, 400, .inl pf)), (en, .inl (cI, 4, .inl ef))] sz)) 0 0 (va_A [(m0, .inr (4, [.ref tr, .ref im, .ref fi, .ref se, .ref u0, .ref id, .ref ct, .int ra, .int ru, .int wg])), (u0, .inr (8, [.ref pb, .ref en, .int uc, .int uk])), (pb, .inr (1, [.ref pq, .int pL])), (pq, .inl (cB, 400, .inl pf)), (en, .inl (cI, 4, .inl ef))] sz) := by
  refine Met.ofW (cc := b_Maker_buildParts) (maxL := 3) (ret := none) (by decide +kernel) rfl ?_
  intro p e s m args below meth c s₁ B hml hv
  obtain ⟨rfl, hsz, hP, hK, hN, hD0, hZr⟩ := hv
  have hx := B.exec
  have hb := B.bytes
  have hr := B.returns
  have hts := atoms_spec (ws := w_Maker_buildParts) B.pre
  have ht9 := fun (w : Cond) (h : w ∈ lw_g) => hts w (List.mem_cons_of_mem _ h)
  have hown : s.vm.findClass "DiscMaker$Maker" = some m.cls := findClass_of_methodNamed B.named
  have hlocks := B.notSynchronized
  subst hsz
  have hD := hD0.self (sz := s.heap.size)
  generalize hAe : va_A [(m0, .inr (4, [.ref tr, .ref im, .ref fi, .ref se, .ref u0, .ref id, .ref ct, .int ra, .int ru, .int wg])), (u0, .inr (8, [.ref pb, .ref en, .int uc, .int uk])), (pb, .inr (1, [.ref pq, .int pL])), (pq, .inl (cB, 400, .inl pf)), (en, .inl (cI, 4, .inl ef))] s.heap.size = A at hD hZr ⊢
  have hA : ∀ q : Nat, s.heap.size ≤ q → A q := fun q h => by rw [← hAe]; exact Or.inr h
  have hS : va_S A s.heap s.heap [] := va_S.rf
  have hP : va_P D CL [(m0, .inr (4, [.ref tr, .ref im, .ref fi, .ref se, .ref u0, .ref id, .ref ct, .int ra, .int ru, .int wg])), (u0, .inr (8, [.ref pb, .ref en, .int uc, .int uk])), (pb, .inr (1, [.ref pq, .int pL])), (pq, .inl (cB, 400, .inl pf)), (en, .inl (cI, 4, .inl ef))] s.heap := hP
  have hl := lv_entry [.ref m0, .ref h0, .int x] (n := 3) (Nat.le_of_ble_eq_true rfl)
  rw [lg_entry_eq]
  generalize (lg_sl [.ref m0, .ref h0, .int x] ++ List.replicate (3 - (lg_sl [.ref m0, .ref h0, .int x]).length) Slot.unset).toArray = ls at hl ⊢
  have hl : lv_has ls 3 [(0, .ref m0), (1, .ref h0), (2, .int x)] := hl
  have L_m1 : ((-1) : Int32).toInt = (-1) := by decide
  have L_0 : (0 : Int32).toInt = 0 := by decide
  have L_1 : (1 : Int32).toInt = 1 := by decide
  have L_2 : (2 : Int32).toInt = 2 := by decide
  have hncc := i_cl (a := nu) (by omega)
  have hla0 := lA_rng x.toInt nu.toInt
  refine zz_labM (B := fun (lk : Nat) (K : Heap → List Loc → Array Slot → List Value → Prop) => ∀ (juc : Int32) (jpL : Int32) (jpf : Nat → Int32) (jef : Nat → Int32) (H : Heap) (locs : List Loc) (ls : Array Slot), lk = 0 → (0 ≤ jpL.toInt ∧ jpL.toInt ≤ 400) → (0 ≤ juc.toInt ∧ juc.toInt ≤ 4) → (EnOK juc.toInt jpL.toInt jef) → (jpL.toInt = lA x.toInt nu.toInt) → (EnL juc.toInt jef (sA x.toInt nu.toInt)) → (Cn jpf jpL.toInt (spL x.toInt nu.toNatClampNeg)) → va_P D CL [(m0, .inr (4, [.ref tr, .ref im, .ref fi, .ref se, .ref u0, .ref id, .ref ct, .int ra, .int ru, .int wg])), (u0, .inr (8, [.ref pb, .ref en, .int juc, .int uk])), (pb, .inr (1, [.ref pq, .int jpL])), (pq, .inl (cB, 400, .inl jpf)), (en, .inl (cI, 4, .inl jef))] H → va_D A [(m0, .inr (4, [.ref tr, .ref im, .ref fi, .ref se, .ref u0, .ref id, .ref ct, .int ra, .int ru, .int wg])), (u0, .inr (8, [.ref pb, .ref en, .int juc, .int uk])), (pb, .inr (1, [.ref pq, .int jpL])), (pq, .inl (cB, 400, .inl jpf)), (en, .inl (cI, 4, .inl jef))] → va_S A s.heap H locs → lv_has ls 3 [(0, .ref m0), (1, .ref h0), (2, .int x)] → K H locs ls []) 18 ?_ ?_
  · skip
    intro lk ih18 juc jpL jpf jef H locs ls hm18 je1 je2 je3 je5 je6 je7 hP hD hS hl
    refine lv_aload_n hx hb d_Maker_buildParts_18 rfl (lv_at hl 0 rfl) ?_
    refine va_get (D := D) (ci := 4) (v := .ref u0) (C := "DiscMaker$Maker") (T := F_Maker) (N := 10) hx hb ht9 in_Maker hown hK hP 0 rfl rfl 4 (by decide) (ht9 _ k351) (fun _ h9 => h9) rfl d_Maker_buildParts_19 ?_
    refine zz_labM (B := fun (lk : Nat) (K : Heap → List Loc → Array Slot → List Value → Prop) => ∀ (lk9 : Int32) (H : Heap) (locs : List Loc) (ls : Array Slot), lk = 0 → (lk9.toInt = dx 2 nu.toNatClampNeg) → va_P D CL [(m0, .inr (4, [.ref tr, .ref im, .ref fi, .ref se, .ref u0, .ref id, .ref ct, .int ra, .int ru, .int wg])), (u0, .inr (8, [.ref pb, .ref en, .int juc, .int uk])), (pb, .inr (1, [.ref pq, .int jpL])), (pq, .inl (cB, 400, .inl jpf)), (en, .inl (cI, 4, .inl jef))] H → va_D A [(m0, .inr (4, [.ref tr, .ref im, .ref fi, .ref se, .ref u0, .ref id, .ref ct, .int ra, .int ru, .int wg])), (u0, .inr (8, [.ref pb, .ref en, .int juc, .int uk])), (pb, .inr (1, [.ref pq, .int jpL])), (pq, .inl (cB, 400, .inl jpf)), (en, .inl (cI, 4, .inl jef))] → va_S A s.heap H locs → lv_has ls 3 [(0, .ref m0), (1, .ref h0), (2, .int x)] → K H locs ls [.int lk9, .ref h0, .ref u0]) 47 ?_ ?_
    · skip
      intro lk ih47 lk9 H locs ls hm47 elk hP hD hS hl
      have hPc := hP.sub (ws' := [(u0, .inr (8, [.ref pb, .ref en, .int juc, .int uk])), (pb, .inr (1, [.ref pq, .int jpL])), (pq, .inl (cB, 400, .inl jpf)), (en, .inl (cI, 4, .inl jef))]) [1, 2, 3, 4] rfl
      have hDc := hD.sub (ws' := [(u0, .inr (8, [.ref pb, .ref en, .int juc, .int uk])), (pb, .inr (1, [.ref pq, .int jpL])), (pq, .inl (cB, 400, .inl jpf)), (en, .inl (cI, 4, .inl jef))]) [1, 2, 3, 4] (by decide +kernel) rfl
      have hFc := va_free (wc := [(u0, .inr (8, [.ref pb, .ref en, .int juc, .int uk])), (pb, .inr (1, [.ref pq, .int jpL])), (pq, .inl (cB, 400, .inl jpf)), (en, .inl (cI, 4, .inl jef))]) hD hS hA [1, 2, 3, 4] rfl
      have hkc : 0 ≤ 0 := by decide
      have hks : 0 ≤ 0 := by decide
      refine va_callv (va_runV (C := "DiscMaker$SystemUse") (As := [.ref h0, .int lk9]) (rest := []) ⟨hx, hb, hml, hown, hts⟩ (c3_addOwnershipF l D cB cI cJ cZ cN cF H.size u0 pb pq en juc uk jpL jpf jef (sA x.toInt nu.toInt) h0 kna kke kta so nu pa ab mo ow gr si sd lk9 (by (try dsimp only); first | assumption | omega | trivial) (by (try dsimp only); first | assumption | omega | trivial) (je3) (je6) (by (try dsimp only); first | assumption | omega | trivial)) (cwV 2 hts (lg_goodV k1013 k1014 k1015 k122 kc_SystemUse_addOwnership) rfl rfl rfl (by decide +kernel) ⟨Nat.le_of_ble_eq_true rfl, Nat.le_of_ble_eq_true rfl⟩) ⟨fun a U g mk q => by obtain ⟨q0, q1, qP, qK, qN, qD, qZ0⟩ := q; exact ⟨q0, q1, qP, va_K.moved (u := U) (U := U.calling g mk a) (Vm.Alike.refl U.vm) qK, qN.calling, qD, RO_blind qZ0⟩, va_recv hK hP (ci := 8) (q0 := 1) rfl rfl, fun U hU hW => ⟨rfl, by rw [hU], by rw [hU]; exact hPc, va_K.moved hW.alike hK, NN.warm hW hN, hDc.weaken (fun _ _ _ _ => trivial), (RO_pass (RO_one hZr 2 rfl) hS hFc hU)⟩⟩ rfl rfl hl.1 rfl (lv_room (Nat.le_of_ble_eq_true rfl)) d_Maker_buildParts_47 ⟨hkc, hks⟩) hS (fun q _ h => hFc q h) hFc (fun u t H1 locs ht hvm hp_r1 hB hz1 hk1 hS => ?_)
      obtain ⟨uc2_2, L2_3, g_4, ef2_5⟩ := u
      obtain ⟨hP1, hD1⟩ := hB
      rw [ht] at hP1
      obtain ⟨hP, hD⟩ := va_join (wr := [(m0, .inr (4, [.ref tr, .ref im, .ref fi, .ref se, .ref u0, .ref id, .ref ct, .int ra, .int ru, .int wg]))]) (w1 := [(u0, .inr (8, [.ref pb, .ref en, .int uc2_2, .int uk])), (pb, .inr (1, [.ref pq, .int L2_3])), (pq, .inl (cB, 400, .inl g_4)), (en, .inl (cI, 4, .inl ef2_5))]) hP hD [1, 2, 3, 4] [0] rfl rfl (by decide +kernel) (by decide +kernel) hk1 hFc hP1 hD1
      clear hPc hDc hFc hP1 hD1 hk1 hz1 hkc hks
      generalize H1 = H at hP hS ⊢
      have hP : va_P D CL [(m0, .inr (4, [.ref tr, .ref im, .ref fi, .ref se, .ref u0, .ref id, .ref ct, .int ra, .int ru, .int wg])), (u0, .inr (8, [.ref pb, .ref en, .int uc2_2, .int uk])), (pb, .inr (1, [.ref pq, .int L2_3])), (pq, .inl (cB, 400, .inl g_4)), (en, .inl (cI, 4, .inl ef2_5))] H := hP
      have hD : va_D A [(m0, .inr (4, [.ref tr, .ref im, .ref fi, .ref se, .ref u0, .ref id, .ref ct, .int ra, .int ru, .int wg])), (u0, .inr (8, [.ref pb, .ref en, .int uc2_2, .int uk])), (pb, .inr (1, [.ref pq, .int L2_3])), (pq, .inl (cB, 400, .inl g_4)), (en, .inl (cI, 4, .inl ef2_5))] := hD
      try dsimp only at hp_r1
      obtain ⟨hE_6, huc2_7, hen2_8, hcs2_9, hw_10⟩ := hp_r1
      have oc_L2_3 : EnL uc2_2.toInt ef2_5 (sA x.toInt nu.toInt ++ [lA x.toInt nu.toInt + 36]) := by have hla := lA_rng x.toInt nu.toInt; have hsl := sA_len x.toInt nu.toInt; (have h7 := hcs2_9 (by have h6 := je6.1; omega)); rw [show L2_3.toInt = lA x.toInt nu.toInt + 36 by omega] at h7; exact h7
      have ob_L2_3 : Cn g_4 L2_3.toInt (spL x.toInt nu.toNatClampNeg ++ pxL (mdW so mo).toInt (dx 2 nu.toNatClampNeg) ow.toInt gr.toInt) := je7.bl (by have h7 := hw_10; rw [elk] at h7; exact h7) rfl (by rw [px_len]; rfl) (show L2_3.toInt = jpL.toInt + 36 by omega)
      refine zz_labM (B := fun (lk : Nat) (K : Heap → List Loc → Array Slot → List Value → Prop) => ∀ (wuc : Int32) (wpL : Int32) (wpf : Nat → Int32) (wef : Nat → Int32) (H : Heap) (locs : List Loc) (ls : Array Slot), lk = 0 → (0 ≤ wpL.toInt ∧ wpL.toInt ≤ 400) → (0 ≤ wuc.toInt ∧ wuc.toInt ≤ 4) → (EnOK wuc.toInt wpL.toInt wef) → (wpL.toInt = lB x.toInt nu.toInt l1) → (EnL wuc.toInt wef (sB x.toInt nu.toInt l1)) → (Cn wpf wpL.toInt (fpL dt dx nf x.toInt nu.toNatClampNeg)) → va_P D CL [(m0, .inr (4, [.ref tr, .ref im, .ref fi, .ref se, .ref u0, .ref id, .ref ct, .int ra, .int ru, .int wg])), (u0, .inr (8, [.ref pb, .ref en, .int wuc, .int uk])), (pb, .inr (1, [.ref pq, .int wpL])), (pq, .inl (cB, 400, .inl wpf)), (en, .inl (cI, 4, .inl wef))] H → va_D A [(m0, .inr (4, [.ref tr, .ref im, .ref fi, .ref se, .ref u0, .ref id, .ref ct, .int ra, .int ru, .int wg])), (u0, .inr (8, [.ref pb, .ref en, .int wuc, .int uk])), (pb, .inr (1, [.ref pq, .int wpL])), (pq, .inl (cB, 400, .inl wpf)), (en, .inl (cI, 4, .inl wef))] → va_S A s.heap H locs → lv_has ls 3 [(0, .ref m0), (1, .ref h0), (2, .int x)] → K H locs ls []) 66 ?_ ?_
      · skip
        intro lk ih66 wuc wpL wpf wef H locs ls hm66 we1 we2 we3 we5 we6 we7 hP hD hS hl
        refine lv_aload_n hx hb d_Maker_buildParts_66 rfl (lv_at hl 1 rfl) ?_
        have hPR := RO_at hZr hS
        refine va_getN (D := D) (ci := 5) (v := .int so) (C := "DiscMaker$Node") (T := F_Node) (N := 12) hx hb ht9 in_Node hown hK hPR 2 rfl rfl 0 (by decide) (va_Nw.use rfl (hN _ k181)) (fun _ h9 => h9) rfl d_Maker_buildParts_67 ?_
        refine lv_iconst (v := 2) hx hb d_Maker_buildParts_70 (by decide) ?_
        refine lv_icmp_ne (tgt := 85) hx hb d_Maker_buildParts_71 (by decide) (fun h_9 => ?_) (fun h_9 => ?_)
        · skip
          have g71_7 : ¬ so.toInt = 2 := fun h8 => h_9 ((i_eq rfl (by decide)).mpr h8)
          have hnc := i_cl (a := nu) (by omega)
          have hbn := bp_no (so := x.toInt) hnc hd1 (by omega) hx2
          have hP9 := hP.sub (ws' := [(m0, .inr (4, [.ref tr, .ref im, .ref fi, .ref se, .ref u0, .ref id, .ref ct, .int ra, .int ru, .int wg])), (u0, .inr (8, [.ref pb, .ref en, .int wuc, .int uk])), (pb, .inr (1, [.ref pq, .int wpL])), (pq, .inl (cB, 400, .inl wpf)), (en, .inl (cI, 4, .inl wef))]) [0, 1, 2, 3, 4] rfl
          have hD9 := hD.sub (ws' := [(m0, .inr (4, [.ref tr, .ref im, .ref fi, .ref se, .ref u0, .ref id, .ref ct, .int ra, .int ru, .int wg])), (u0, .inr (8, [.ref pb, .ref en, .int wuc, .int uk])), (pb, .inr (1, [.ref pq, .int wpL])), (pq, .inl (cB, 400, .inl wpf)), (en, .inl (cI, 4, .inl wef))]) [0, 1, 2, 3, 4] (by decide +kernel) rfl
          exact W.vret hx hb hr (fun t ht hW => ⟨⟨(wuc, wpL, wpf, wef), rfl, ⟨(by (try dsimp only); first | assumption | omega | trivial), (by (try dsimp only); first | assumption | omega | trivial), we3, (by (try dsimp only); rw [← hbn.2]; exact we5), (by (try dsimp only); rw [← hbn.1]; exact we6), (by (try dsimp only); unfold usL slL; by_cases h8 : x.toInt < 2 <;> first | (rw [if_pos h8, List.append_nil]; exact we7) | (rw [if_neg h8, if_neg (by omega), List.append_nil]; exact we7))⟩, by rw [ht]; exact hP9, hD9⟩, hS.F ht⟩) hS.2.2 d_Maker_buildParts_85
        · skip
          have g71_7 : so.toInt = 2 := (i_eq rfl (by decide)).mp h_9
          refine lv_aload_n hx hb d_Maker_buildParts_74 rfl (lv_at hl 0 rfl) ?_
          refine va_get (D := D) (ci := 4) (v := .ref u0) (C := "DiscMaker$Maker") (T := F_Maker) (N := 10) hx hb ht9 in_Maker hown hK hP 0 rfl rfl 4 (by decide) (ht9 _ k351) (fun _ h9 => h9) rfl d_Maker_buildParts_75 ?_
          refine lv_aload_n hx hb d_Maker_buildParts_78 rfl (lv_at hl 1 rfl) ?_
          have hPR := RO_at hZr hS
          refine va_getN (D := D) (ci := 5) (v := .ref kta) (C := "DiscMaker$Node") (T := F_Node) (N := 12) hx hb ht9 in_Node hown hK hPR 2 rfl rfl 3 (by decide) (va_Nw.use rfl (hN _ k192)) (fun _ h9 => h9) rfl d_Maker_buildParts_79 ?_
          have hla1 := lA_rng x.toInt nu.toInt
          have hlb1 : lB x.toInt nu.toInt l1 ≤ lA x.toInt nu.toInt + 41 + l1 := by unfold lB; split <;> omega
          have hPc := hP.sub (ws' := [(u0, .inr (8, [.ref pb, .ref en, .int wuc, .int uk])), (pb, .inr (1, [.ref pq, .int wpL])), (pq, .inl (cB, 400, .inl wpf)), (en, .inl (cI, 4, .inl wef))]) [1, 2, 3, 4] rfl
          have hDc := hD.sub (ws' := [(u0, .inr (8, [.ref pb, .ref en, .int wuc, .int uk])), (pb, .inr (1, [.ref pq, .int wpL])), (pq, .inl (cB, 400, .inl wpf)), (en, .inl (cI, 4, .inl wef))]) [1, 2, 3, 4] (by decide +kernel) rfl
          have hFc := va_free (wc := [(u0, .inr (8, [.ref pb, .ref en, .int wuc, .int uk])), (pb, .inr (1, [.ref pq, .int wpL])), (pq, .inl (cB, 400, .inl wpf)), (en, .inl (cI, 4, .inl wef))]) hD hS hA [1, 2, 3, 4] rfl
          have hkc : 0 ≤ 0 := by decide
          have hks : 0 ≤ 0 := by decide
          refine va_callv (va_runV (C := "DiscMaker$SystemUse") (As := [.ref kta]) (rest := []) ⟨hx, hb, hml, hown, hts⟩ (c3_addTargetF l D cB cI cJ cZ cN cF H.size u0 pb pq en wuc uk wpL wpf wef (sB x.toInt nu.toInt l1) kta l3 c3 (by (try dsimp only); first | assumption | omega | trivial) (by (try dsimp only); first | assumption | omega | trivial) (we3) (we6) (by (try dsimp only); first | assumption | omega | trivial) (by (try dsimp only); first | assumption | omega | trivial)) (cwV 1 hts (lg_goodV k899 k900 k901 k122 kc_SystemUse_addTarget) rfl rfl rfl (by decide +kernel) ⟨Nat.le_of_ble_eq_true rfl, Nat.le_of_ble_eq_true rfl⟩) ⟨fun a U g mk q => by obtain ⟨q0, q1, qP, qK, qN, qD, qZ0⟩ := q; exact ⟨q0, q1, qP, va_K.moved (u := U) (U := U.calling g mk a) (Vm.Alike.refl U.vm) qK, qN.calling, qD, RO_blind qZ0⟩, va_recv hK hP (ci := 8) (q0 := 1) rfl rfl, fun U hU hW => ⟨rfl, by rw [hU], by rw [hU]; exact hPc, va_K.moved hW.alike hK, NN.warm hW hN, hDc.weaken (fun _ _ _ _ => trivial), (RO_pass (RO_one hZr 4 rfl) hS hFc hU)⟩⟩ rfl rfl hl.1 rfl (lv_room (Nat.le_of_ble_eq_true rfl)) d_Maker_buildParts_82 ⟨hkc, hks⟩) hS (fun q _ h => hFc q h) hFc (fun u t H1 locs ht hvm hp_r11 hB hz1 hk1 hS => ?_)
          obtain ⟨uc2_12, L2_13, g_14, ef2_15⟩ := u
          obtain ⟨hP1, hD1⟩ := hB
          rw [ht] at hP1
          obtain ⟨hP, hD⟩ := va_join (wr := [(m0, .inr (4, [.ref tr, .ref im, .ref fi, .ref se, .ref u0, .ref id, .ref ct, .int ra, .int ru, .int wg]))]) (w1 := [(u0, .inr (8, [.ref pb, .ref en, .int uc2_12, .int uk])), (pb, .inr (1, [.ref pq, .int L2_13])), (pq, .inl (cB, 400, .inl g_14)), (en, .inl (cI, 4, .inl ef2_15))]) hP hD [1, 2, 3, 4] [0] rfl rfl (by decide +kernel) (by decide +kernel) hk1 hFc hP1 hD1
          clear hPc hDc hFc hP1 hD1 hk1 hz1 hkc hks
          generalize H1 = H at hP hS ⊢
          have hP : va_P D CL [(m0, .inr (4, [.ref tr, .ref im, .ref fi, .ref se, .ref u0, .ref id, .ref ct, .int ra, .int ru, .int wg])), (u0, .inr (8, [.ref pb, .ref en, .int uc2_12, .int uk])), (pb, .inr (1, [.ref pq, .int L2_13])), (pq, .inl (cB, 400, .inl g_14)), (en, .inl (cI, 4, .inl ef2_15))] H := hP
          have hD : va_D A [(m0, .inr (4, [.ref tr, .ref im, .ref fi, .ref se, .ref u0, .ref id, .ref ct, .int ra, .int ru, .int wg])), (u0, .inr (8, [.ref pb, .ref en, .int uc2_12, .int uk])), (pb, .inr (1, [.ref pq, .int L2_13])), (pq, .inl (cB, 400, .inl g_14)), (en, .inl (cI, 4, .inl ef2_15))] := hD
          try dsimp only at hp_r11
          obtain ⟨hE_16, huc2_17, hen2_18, hcs2_19, hw_20⟩ := hp_r11
          have hcr := compS_rng c3 hb3
          have hbr := lA_rng x.toInt nu.toInt
          have hx9 : x.toInt = 2 := by omega
          have hlb : lB x.toInt nu.toInt l1 = lA x.toInt nu.toInt + 41 + l1 := by unfold lB; rw [if_pos hx9]; omega
          have hnl9 : L2_13.toInt = lB x.toInt nu.toInt l1 + 5 + compS c3 l3 := by have z8 := we5; omega
          have hby := bp_yes (nu := nu.toInt) hd1 hd4 (by omega) hx9
          have hec := hcs2_19 (by have h6 := we6.1; have h5 := sB_len x.toInt nu.toInt l1; omega)
          rw [hnl9] at hec
          have hP9 := hP.sub (ws' := [(m0, .inr (4, [.ref tr, .ref im, .ref fi, .ref se, .ref u0, .ref id, .ref ct, .int ra, .int ru, .int wg])), (u0, .inr (8, [.ref pb, .ref en, .int uc2_12, .int uk])), (pb, .inr (1, [.ref pq, .int L2_13])), (pq, .inl (cB, 400, .inl g_14)), (en, .inl (cI, 4, .inl ef2_15))]) [0, 1, 2, 3, 4] rfl
          have hD9 := hD.sub (ws' := [(m0, .inr (4, [.ref tr, .ref im, .ref fi, .ref se, .ref u0, .ref id, .ref ct, .int ra, .int ru, .int wg])), (u0, .inr (8, [.ref pb, .ref en, .int uc2_12, .int uk])), (pb, .inr (1, [.ref pq, .int L2_13])), (pq, .inl (cB, 400, .inl g_14)), (en, .inl (cI, 4, .inl ef2_15))]) [0, 1, 2, 3, 4] (by decide +kernel) rfl
          exact W.vret hx hb hr (fun t ht hW => ⟨⟨(uc2_12, L2_13, g_14, ef2_15), rfl, ⟨(by (try dsimp only); first | assumption | omega | trivial), (by (try dsimp only); first | assumption | omega | trivial), hen2_18, (by (try dsimp only); rw [hnl9]; exact hby.2), (by (try dsimp only); rw [← hby.1]; exact hec), (by (try dsimp only); unfold usL slL; rw [if_neg (by omega), if_pos (by omega), hd4, hdx.1, ← hf3, Int.toNat_natCast]; exact we7.bl hw_20 rfl rfl (by rw [List.length_append]; (have h7 := coB_len c3 l3); show _ = _ + ((5 + _ : Nat) : Int); omega))⟩, by rw [ht]; exact hP9, hD9⟩, hS.F ht⟩) hS.2.2 d_Maker_buildParts_85
      · skip
        intro kk66
        refine lv_iload_n hx hb d_Maker_buildParts_50 rfl (lv_at hl 2 rfl) ?_
        refine lv_iconst (v := 2) hx hb d_Maker_buildParts_51 (by decide) ?_
        refine lv_icmp_ne (tgt := 66) hx hb d_Maker_buildParts_52 (by decide) (fun h_9 => ?_) (fun h_9 => ?_)
        · skip
          have g52_17 : ¬ x.toInt = 2 := fun h8 => h_9 ((i_eq rfl (by decide)).mpr h8)
          have hP := hP.sub (ws' := [(m0, .inr (4, [.ref tr, .ref im, .ref fi, .ref se, .ref u0, .ref id, .ref ct, .int ra, .int ru, .int wg])), (u0, .inr (8, [.ref pb, .ref en, .int uc2_2, .int uk])), (pb, .inr (1, [.ref pq, .int L2_3])), (pq, .inl (cB, 400, .inl g_4)), (en, .inl (cI, 4, .inl ef2_5))]) [0, 1, 2, 3, 4] rfl
          have hD := hD.sub (ws' := [(m0, .inr (4, [.ref tr, .ref im, .ref fi, .ref se, .ref u0, .ref id, .ref ct, .int ra, .int ru, .int wg])), (u0, .inr (8, [.ref pb, .ref en, .int uc2_2, .int uk])), (pb, .inr (1, [.ref pq, .int L2_3])), (pq, .inl (cB, 400, .inl g_4)), (en, .inl (cI, 4, .inl ef2_5))]) [0, 1, 2, 3, 4] (by decide +kernel) rfl
          have hl := lv_sub hl [0, 1, 2] rfl
          exact kk66 _ uc2_2 L2_3 g_4 ef2_5 _ _ _ rfl ((by (try dsimp only); first | assumption | omega | trivial)) ((by (try dsimp only); first | assumption | omega | trivial)) (hen2_8) ((by have hla := lA_rng x.toInt nu.toInt; have hsl := sA_len x.toInt nu.toInt; unfold lB; rw [if_neg (by omega)]; omega)) ((by have hla := lA_rng x.toInt nu.toInt; have hsl := sA_len x.toInt nu.toInt; unfold sB; rw [if_neg (by omega)]; exact oc_L2_3)) ((by unfold fpL nmL; rw [hdx.2.1, hdx.2.2.2.1, hdx.2.2.2.2, if_pos (by omega), List.append_nil]; exact ob_L2_3)) hP hD hS hl
        · skip
          have g52_17 : x.toInt = 2 := (i_eq rfl (by decide)).mp h_9
          refine lv_aload_n hx hb d_Maker_buildParts_55 rfl (lv_at hl 0 rfl) ?_
          refine va_get (D := D) (ci := 4) (v := .ref u0) (C := "DiscMaker$Maker") (T := F_Maker) (N := 10) hx hb ht9 in_Maker hown hK hP 0 rfl rfl 4 (by decide) (ht9 _ k351) (fun _ h9 => h9) rfl d_Maker_buildParts_56 ?_
          refine lv_aload_n hx hb d_Maker_buildParts_59 rfl (lv_at hl 1 rfl) ?_
          have hPR := RO_at hZr hS
          refine va_getN (D := D) (ci := 5) (v := .ref kna) (C := "DiscMaker$Node") (T := F_Node) (N := 12) hx hb ht9 in_Node hown hK hPR 2 rfl rfl 1 (by decide) (va_Nw.use rfl (hN _ k186)) (fun _ h9 => h9) rfl d_Maker_buildParts_60 ?_
          have hPc := hP.sub (ws' := [(u0, .inr (8, [.ref pb, .ref en, .int uc2_2, .int uk])), (pb, .inr (1, [.ref pq, .int L2_3])), (pq, .inl (cB, 400, .inl g_4)), (en, .inl (cI, 4, .inl ef2_5))]) [1, 2, 3, 4] rfl
          have hDc := hD.sub (ws' := [(u0, .inr (8, [.ref pb, .ref en, .int uc2_2, .int uk])), (pb, .inr (1, [.ref pq, .int L2_3])), (pq, .inl (cB, 400, .inl g_4)), (en, .inl (cI, 4, .inl ef2_5))]) [1, 2, 3, 4] (by decide +kernel) rfl
          have hFc := va_free (wc := [(u0, .inr (8, [.ref pb, .ref en, .int uc2_2, .int uk])), (pb, .inr (1, [.ref pq, .int L2_3])), (pq, .inl (cB, 400, .inl g_4)), (en, .inl (cI, 4, .inl ef2_5))]) hD hS hA [1, 2, 3, 4] rfl
          have hkc : 0 ≤ 0 := by decide
          have hks : 0 ≤ 0 := by decide
          refine va_callv (va_runV (C := "DiscMaker$SystemUse") (As := [.ref kna]) (rest := []) ⟨hx, hb, hml, hown, hts⟩ (c3_addNameF l D cB cI cJ cZ cN cF H.size u0 pb pq en uc2_2 uk L2_3 g_4 ef2_5 (sA x.toInt nu.toInt ++ [lA x.toInt nu.toInt + 36]) kna l1 c1 (by (try dsimp only); first | assumption | omega | trivial) (by (try dsimp only); first | assumption | omega | trivial) (hen2_8) (oc_L2_3) (by (try dsimp only); first | assumption | omega | trivial) (by (try dsimp only); first | assumption | omega | trivial)) (cwV 1 hts (lg_goodV k1026 k1027 k1028 k122 kc_SystemUse_addName) rfl rfl rfl (by decide +kernel) ⟨Nat.le_of_ble_eq_true rfl, Nat.le_of_ble_eq_true rfl⟩) ⟨fun a U g mk q => by obtain ⟨q0, q1, qP, qK, qN, qD, qZ0⟩ := q; exact ⟨q0, q1, qP, va_K.moved (u := U) (U := U.calling g mk a) (Vm.Alike.refl U.vm) qK, qN.calling, qD, RO_blind qZ0⟩, va_recv hK hP (ci := 8) (q0 := 1) rfl rfl, fun U hU hW => ⟨rfl, by rw [hU], by rw [hU]; exact hPc, va_K.moved hW.alike hK, NN.warm hW hN, hDc.weaken (fun _ _ _ _ => trivial), (RO_pass (RO_one hZr 3 rfl) hS hFc hU)⟩⟩ rfl rfl hl.1 rfl (lv_room (Nat.le_of_ble_eq_true rfl)) d_Maker_buildParts_63 ⟨hkc, hks⟩) hS (fun q _ h => hFc q h) hFc (fun u t H1 locs ht hvm hp_r21 hB hz1 hk1 hS => ?_)
          obtain ⟨uc2_22, L2_23, g_24, ef2_25⟩ := u
          obtain ⟨hP1, hD1⟩ := hB
          rw [ht] at hP1
          obtain ⟨hP, hD⟩ := va_join (wr := [(m0, .inr (4, [.ref tr, .ref im, .ref fi, .ref se, .ref u0, .ref id, .ref ct, .int ra, .int ru, .int wg]))]) (w1 := [(u0, .inr (8, [.ref pb, .ref en, .int uc2_22, .int uk])), (pb, .inr (1, [.ref pq, .int L2_23])), (pq, .inl (cB, 400, .inl g_24)), (en, .inl (cI, 4, .inl ef2_25))]) hP hD [1, 2, 3, 4] [0] rfl rfl (by decide +kernel) (by decide +kernel) hk1 hFc hP1 hD1
          clear hPc hDc hFc hP1 hD1 hk1 hz1 hkc hks
          generalize H1 = H at hP hS ⊢
          have hP : va_P D CL [(m0, .inr (4, [.ref tr, .ref im, .ref fi, .ref se, .ref u0, .ref id, .ref ct, .int ra, .int ru, .int wg])), (u0, .inr (8, [.ref pb, .ref en, .int uc2_22, .int uk])), (pb, .inr (1, [.ref pq, .int L2_23])), (pq, .inl (cB, 400, .inl g_24)), (en, .inl (cI, 4, .inl ef2_25))] H := hP
          have hD : va_D A [(m0, .inr (4, [.ref tr, .ref im, .ref fi, .ref se, .ref u0, .ref id, .ref ct, .int ra, .int ru, .int wg])), (u0, .inr (8, [.ref pb, .ref en, .int uc2_22, .int uk])), (pb, .inr (1, [.ref pq, .int L2_23])), (pq, .inl (cB, 400, .inl g_24)), (en, .inl (cI, 4, .inl ef2_25))] := hD
          try dsimp only at hp_r21
          obtain ⟨hE_26, huc2_27, hen2_28, hcs2_29, hw_30⟩ := hp_r21
          have hP := hP.sub (ws' := [(m0, .inr (4, [.ref tr, .ref im, .ref fi, .ref se, .ref u0, .ref id, .ref ct, .int ra, .int ru, .int wg])), (u0, .inr (8, [.ref pb, .ref en, .int uc2_22, .int uk])), (pb, .inr (1, [.ref pq, .int L2_23])), (pq, .inl (cB, 400, .inl g_24)), (en, .inl (cI, 4, .inl ef2_25))]) [0, 1, 2, 3, 4] rfl
          have hD := hD.sub (ws' := [(m0, .inr (4, [.ref tr, .ref im, .ref fi, .ref se, .ref u0, .ref id, .ref ct, .int ra, .int ru, .int wg])), (u0, .inr (8, [.ref pb, .ref en, .int uc2_22, .int uk])), (pb, .inr (1, [.ref pq, .int L2_23])), (pq, .inl (cB, 400, .inl g_24)), (en, .inl (cI, 4, .inl ef2_25))]) [0, 1, 2, 3, 4] (by decide +kernel) rfl
          have hl := lv_sub hl [0, 1, 2] rfl
          exact kk66 _ uc2_22 L2_23 g_24 ef2_25 _ _ _ rfl ((by (try dsimp only); first | assumption | omega | trivial)) ((by (try dsimp only); first | assumption | omega | trivial)) (hen2_28) ((by have hla := lA_rng x.toInt nu.toInt; have hsl := sA_len x.toInt nu.toInt; unfold lB; rw [if_pos (by omega)]; omega)) ((by have hla := lA_rng x.toInt nu.toInt; have hsl := sA_len x.toInt nu.toInt; (have h7 := hcs2_29 (by have h6 := oc_L2_3.1; rw [List.length_append] at h6; (have h5 : ([lA x.toInt nu.toInt + 36] : List Int).length = 1 := rfl); omega)); unfold sB; rw [if_pos (by omega)]; rw [show L2_23.toInt = lA x.toInt nu.toInt + 36 + 5 + l1 by omega] at h7; exact h7)) ((by unfold fpL nmL; rw [hdx.2.1, hdx.2.2.2.1, hdx.2.2.2.2, if_neg (by omega), hd1, ← hf1, Int.toNat_natCast]; exact ob_L2_3.bl hw_30 rfl rfl (by rw [List.length_append, byL_len]; show _ = _ + ((5 + l1 : Nat) : Int); omega))) hP hD hS hl
    · skip
      intro kk47
      refine lv_aload_n hx hb d_Maker_buildParts_22 rfl (lv_at hl 1 rfl) ?_
      refine lv_aload_n hx hb d_Maker_buildParts_23 rfl (lv_at hl 1 rfl) ?_
      have hPR := RO_at hZr hS
      refine va_getN (D := D) (ci := 5) (v := .int so) (C := "DiscMaker$Node") (T := F_Node) (N := 12) hx hb ht9 in_Node hown hK hPR 2 rfl rfl 0 (by decide) (va_Nw.use rfl (hN _ k181)) (fun _ h9 => h9) rfl d_Maker_buildParts_24 ?_
      refine lv_if_ne (tgt := 46) hx hb d_Maker_buildParts_27 (by decide) (fun h_9 => ?_) (fun h_9 => ?_)
      · skip
        have g27_28 : ¬ so.toInt = 0 := fun h8 => h_9 ((i_eq rfl (by decide)).mpr h8)
        refine lv_iconst (v := 1) hx hb d_Maker_buildParts_46 (by decide) ?_
        have hP := hP.sub (ws' := [(m0, .inr (4, [.ref tr, .ref im, .ref fi, .ref se, .ref u0, .ref id, .ref ct, .int ra, .int ru, .int wg])), (u0, .inr (8, [.ref pb, .ref en, .int juc, .int uk])), (pb, .inr (1, [.ref pq, .int jpL])), (pq, .inl (cB, 400, .inl jpf)), (en, .inl (cI, 4, .inl jef))]) [0, 1, 2, 3, 4] rfl
        have hD := hD.sub (ws' := [(m0, .inr (4, [.ref tr, .ref im, .ref fi, .ref se, .ref u0, .ref id, .ref ct, .int ra, .int ru, .int wg])), (u0, .inr (8, [.ref pb, .ref en, .int juc, .int uk])), (pb, .inr (1, [.ref pq, .int jpL])), (pq, .inl (cB, 400, .inl jpf)), (en, .inl (cI, 4, .inl jef))]) [0, 1, 2, 3, 4] (by decide +kernel) rfl
        have hl := lv_sub hl [0, 1, 2] rfl
        exact kk47 _ 1 _ _ _ rfl ((by rw [hdx.2.2.1, if_neg (by omega)]; first | rfl | decide)) hP hD hS hl
      · skip
        have g27_28 : so.toInt = 0 := (i_eq rfl (by decide)).mp h_9
        refine lv_aload_n hx hb d_Maker_buildParts_30 rfl (lv_at hl 0 rfl) ?_
        refine va_get (D := D) (ci := 4) (v := .ref tr) (C := "DiscMaker$Maker") (T := F_Maker) (N := 10) hx hb ht9 in_Maker hown hK hP 0 rfl rfl 0 (by decide) (ht9 _ k347) (fun _ h9 => h9) rfl d_Maker_buildParts_31 ?_
        refine lv_aload_n hx hb d_Maker_buildParts_34 rfl (lv_at hl 1 rfl) ?_
        have hPR := RO_at hZr hS
        refine va_getN (D := D) (ci := 5) (v := .int nu) (C := "DiscMaker$Node") (T := F_Node) (N := 12) hx hb ht9 in_Node hown hK hPR 2 rfl rfl 4 (by decide) (va_Nw.use rfl (hN _ k195)) (fun _ h9 => h9) rfl d_Maker_buildParts_35 ?_
        have hPc := hP.sub (ws' := []) [] rfl
        have hDc := hD.sub (ws' := []) [] (by decide +kernel) rfl
        have hFc := va_free (wc := []) hD hS hA [] rfl
        have hPR := RO_at hZr hS
        have hkc : 0 ≤ 0 := by decide
        have hks : 0 ≤ 0 := by decide
        refine va_calli (va_runV (C := "DiscMaker$Tree") (As := [.int nu]) (rest := [.ref h0, .ref u0]) ⟨hx, hb, hml, hown, hts⟩ (c3_directoriesInF l D cB cI cJ cZ cN cF H.size tr ta cn dr na ng nn nf cm dt nu (by (try dsimp only); first | assumption | omega | trivial) (by (try dsimp only); first | assumption | omega | trivial) (by (try dsimp only); first | assumption | omega | trivial) (hdt) (by (try dsimp only); first | assumption | omega | trivial)) (cwV 1 hts (lg_goodV k1009 k1010 k1011 k117 kc_Tree_directoriesIn) rfl rfl rfl (by decide +kernel) ⟨Nat.le_of_ble_eq_true rfl, Nat.le_of_ble_eq_true rfl⟩) ⟨fun a U g mk q => by obtain ⟨q0, q1, qP, qK, qN, qD, qZ0⟩ := q; exact ⟨q0, q1, qP, va_K.moved (u := U) (U := U.calling g mk a) (Vm.Alike.refl U.vm) qK, qN.calling, qD, RO_blind qZ0⟩, va_recv hK hPR (ci := 10) (q0 := 0) rfl rfl, fun U hU hW => ⟨rfl, by rw [hU], by rw [hU]; exact hPc, va_K.moved hW.alike hK, NN.warm hW hN, hDc.weaken (fun _ _ _ _ => trivial), (RO_app (w1 := [(tr, .inr (10, [.ref ta, .int cn, .int dr]))]) (w2 := (([(ta, .inl (cN, 40, .inr (.inr (.inr (.inr (rowF na cm))))))] : va_W) ++ (PL (NC cB na ng nn nf) cm))) (RO_pass (RO_one hZr 0 rfl) hS hFc hU) (RO_app (w1 := [(ta, .inl (cN, 40, .inr (.inr (.inr (.inr (rowF na cm))))))]) (w2 := (PL (NC cB na ng nn nf) cm)) (RO_pass (RO_one hZr 1 rfl) hS hFc hU) (RO_pass (RO_tail (X := [(tr, .inr (10, [.ref ta, .int cn, .int dr])), (ta, .inl (cN, 40, .inr (.inr (.inr (.inr (rowF na cm)))))), (h0, .inr (5, [.int so, .ref kna, .ref kke, .ref kta, .int nu, .int pa, .int ab, .int mo, .int ow, .int gr, .int si, .int sd])), (kna, .inl (cB, l1, .inl c1)), (kta, .inl (cB, l3, .inl c3))]) hZr) hS hFc hU)))⟩⟩ rfl rfl hl.1 rfl (lv_room (Nat.le_of_ble_eq_true rfl)) d_Maker_buildParts_38 ⟨hkc, hks⟩) hS (fun q _ h => hFc q h) hFc (fun r31 u t H1 locs ht hvm hp_r31 hB hz1 hk1 hS => ?_)
        obtain ⟨hP1, hD1⟩ := hB
        rw [ht] at hP1
        obtain ⟨hP, hD⟩ := va_join (wr := [(m0, .inr (4, [.ref tr, .ref im, .ref fi, .ref se, .ref u0, .ref id, .ref ct, .int ra, .int ru, .int wg])), (u0, .inr (8, [.ref pb, .ref en, .int juc, .int uk])), (pb, .inr (1, [.ref pq, .int jpL])), (pq, .inl (cB, 400, .inl jpf)), (en, .inl (cI, 4, .inl jef))]) (w1 := []) hP hD [] [0, 1, 2, 3, 4] rfl rfl (by decide +kernel) (by decide +kernel) hk1 hFc hP1 hD1
        clear hPc hDc hFc hP1 hD1 hk1 hz1 hkc hks
        generalize H1 = H at hP hS ⊢
        have hP : va_P D CL [(m0, .inr (4, [.ref tr, .ref im, .ref fi, .ref se, .ref u0, .ref id, .ref ct, .int ra, .int ru, .int wg])), (u0, .inr (8, [.ref pb, .ref en, .int juc, .int uk])), (pb, .inr (1, [.ref pq, .int jpL])), (pq, .inl (cB, 400, .inl jpf)), (en, .inl (cI, 4, .inl jef))] H := hP
        have hD : va_D A [(m0, .inr (4, [.ref tr, .ref im, .ref fi, .ref se, .ref u0, .ref id, .ref ct, .int ra, .int ru, .int wg])), (u0, .inr (8, [.ref pb, .ref en, .int juc, .int uk])), (pb, .inr (1, [.ref pq, .int jpL])), (pq, .inl (cB, 400, .inl jpf)), (en, .inl (cI, 4, .inl jef))] := hD
        try dsimp only at hp_r31
        obtain ⟨hv_32, hr_33⟩ := hp_r31
        refine lv_iconst (v := 2) hx hb d_Maker_buildParts_41 (by decide) ?_
        refine lv_iadd hx hb d_Maker_buildParts_42 ?_
        refine lv_topi (fun v34 e_v34 => ?_)
        have t_v34 : v34.toInt = r31.toInt + 2 := by rw [e_v34]; exact i_add rfl (by decide) (by omega) (by omega)
        refine lv_goto (tgt := 47) hx hb d_Maker_buildParts_43 (by decide) ?_
        have hP := hP.sub (ws' := [(m0, .inr (4, [.ref tr, .ref im, .ref fi, .ref se, .ref u0, .ref id, .ref ct, .int ra, .int ru, .int wg])), (u0, .inr (8, [.ref pb, .ref en, .int juc, .int uk])), (pb, .inr (1, [.ref pq, .int jpL])), (pq, .inl (cB, 400, .inl jpf)), (en, .inl (cI, 4, .inl jef))]) [0, 1, 2, 3, 4] rfl
        have hD := hD.sub (ws' := [(m0, .inr (4, [.ref tr, .ref im, .ref fi, .ref se, .ref u0, .ref id, .ref ct, .int ra, .int ru, .int wg])), (u0, .inr (8, [.ref pb, .ref en, .int juc, .int uk])), (pb, .inr (1, [.ref pq, .int jpL])), (pq, .inl (cB, 400, .inl jpf)), (en, .inl (cI, 4, .inl jef))]) [0, 1, 2, 3, 4] (by decide +kernel) rfl
        have hl := lv_sub hl [0, 1, 2] rfl
        exact kk47 _ v34 _ _ _ rfl ((by rw [hdx.2.2.1, if_pos (by omega), show ((nu.toNatClampNeg : Nat) : Int) = nu.toInt by (have h7 := i_cl (a := nu) (by omega); omega)]; have h6 := hv_32; omega)) hP hD hS hl
  · skip
    intro kk18
    refine lv_iload_n hx hb d_Maker_buildParts_0 rfl (lv_at hl 2 rfl) ?_
    refine lv_if_ne (tgt := 18) hx hb d_Maker_buildParts_1 (by decide) (fun h_9 => ?_) (fun h_9 => ?_)
    · skip
      have g1_41 : ¬ x.toInt = 0 := fun h8 => h_9 ((i_eq rfl (by decide)).mpr h8)
      have hP := hP.sub (ws' := [(m0, .inr (4, [.ref tr, .ref im, .ref fi, .ref se, .ref u0, .ref id, .ref ct, .int ra, .int ru, .int wg])), (u0, .inr (8, [.ref pb, .ref en, .int uc, .int uk])), (pb, .inr (1, [.ref pq, .int pL])), (pq, .inl (cB, 400, .inl pf)), (en, .inl (cI, 4, .inl ef))]) [0, 1, 2, 3, 4] rfl
      have hD := hD.sub (ws' := [(m0, .inr (4, [.ref tr, .ref im, .ref fi, .ref se, .ref u0, .ref id, .ref ct, .int ra, .int ru, .int wg])), (u0, .inr (8, [.ref pb, .ref en, .int uc, .int uk])), (pb, .inr (1, [.ref pq, .int pL])), (pq, .inl (cB, 400, .inl pf)), (en, .inl (cI, 4, .inl ef))]) [0, 1, 2, 3, 4] (by decide +kernel) rfl
      have hl := lv_sub hl [0, 1, 2] rfl
      exact kk18 _ uc pL pf ef _ _ _ rfl ((by (try dsimp only); first | assumption | omega | trivial)) ((by (try dsimp only); first | assumption | omega | trivial)) (hen) ((by unfold lA; rw [if_neg (by omega)]; omega)) ((by unfold sA; rw [if_neg (by omega)]; exact EnL_0 hu0.1)) ((by unfold spL; rw [if_neg (by omega)]; exact Cn_0 (by omega))) hP hD hS hl
    · skip
      have g1_41 : x.toInt = 0 := (i_eq rfl (by decide)).mp h_9
      refine lv_aload_n hx hb d_Maker_buildParts_4 rfl (lv_at hl 1 rfl) ?_
      have hPR := RO_at hZr hS
      refine va_getN (D := D) (ci := 5) (v := .int nu) (C := "DiscMaker$Node") (T := F_Node) (N := 12) hx hb ht9 in_Node hown hK hPR 2 rfl rfl 4 (by decide) (va_Nw.use rfl (hN _ k195)) (fun _ h9 => h9) rfl d_Maker_buildParts_5 ?_
      refine lv_if_ne (tgt := 18) hx hb d_Maker_buildParts_8 (by decide) (fun h_9 => ?_) (fun h_9 => ?_)
      · skip
        have g8_45 : ¬ nu.toInt = 0 := fun h8 => h_9 ((i_eq rfl (by decide)).mpr h8)
        have hP := hP.sub (ws' := [(m0, .inr (4, [.ref tr, .ref im, .ref fi, .ref se, .ref u0, .ref id, .ref ct, .int ra, .int ru, .int wg])), (u0, .inr (8, [.ref pb, .ref en, .int uc, .int uk])), (pb, .inr (1, [.ref pq, .int pL])), (pq, .inl (cB, 400, .inl pf)), (en, .inl (cI, 4, .inl ef))]) [0, 1, 2, 3, 4] rfl
        have hD := hD.sub (ws' := [(m0, .inr (4, [.ref tr, .ref im, .ref fi, .ref se, .ref u0, .ref id, .ref ct, .int ra, .int ru, .int wg])), (u0, .inr (8, [.ref pb, .ref en, .int uc, .int uk])), (pb, .inr (1, [.ref pq, .int pL])), (pq, .inl (cB, 400, .inl pf)), (en, .inl (cI, 4, .inl ef))]) [0, 1, 2, 3, 4] (by decide +kernel) rfl
        have hl := lv_sub hl [0, 1, 2] rfl
        exact kk18 _ uc pL pf ef _ _ _ rfl ((by (try dsimp only); first | assumption | omega | trivial)) ((by (try dsimp only); first | assumption | omega | trivial)) (hen) ((by unfold lA; rw [if_neg (by omega)]; omega)) ((by unfold sA; rw [if_neg (by omega)]; exact EnL_0 hu0.1)) ((by unfold spL; rw [if_neg (by omega)]; exact Cn_0 (by omega))) hP hD hS hl
      · skip
        have g8_45 : nu.toInt = 0 := (i_eq rfl (by decide)).mp h_9
        refine lv_aload_n hx hb d_Maker_buildParts_11 rfl (lv_at hl 0 rfl) ?_
        refine va_get (D := D) (ci := 4) (v := .ref u0) (C := "DiscMaker$Maker") (T := F_Maker) (N := 10) hx hb ht9 in_Maker hown hK hP 0 rfl rfl 4 (by decide) (ht9 _ k351) (fun _ h9 => h9) rfl d_Maker_buildParts_12 ?_
        have hPc := hP.sub (ws' := [(u0, .inr (8, [.ref pb, .ref en, .int uc, .int uk])), (pb, .inr (1, [.ref pq, .int pL])), (pq, .inl (cB, 400, .inl pf)), (en, .inl (cI, 4, .inl ef))]) [1, 2, 3, 4] rfl
        have hDc := hD.sub (ws' := [(u0, .inr (8, [.ref pb, .ref en, .int uc, .int uk])), (pb, .inr (1, [.ref pq, .int pL])), (pq, .inl (cB, 400, .inl pf)), (en, .inl (cI, 4, .inl ef))]) [1, 2, 3, 4] (by decide +kernel) rfl
        have hFc := va_free (wc := [(u0, .inr (8, [.ref pb, .ref en, .int uc, .int uk])), (pb, .inr (1, [.ref pq, .int pL])), (pq, .inl (cB, 400, .inl pf)), (en, .inl (cI, 4, .inl ef))]) hD hS hA [1, 2, 3, 4] rfl
        have hkc : 0 ≤ 0 := by decide
        have hks : 0 ≤ 0 := by decide
        refine va_callv (va_runV (C := "DiscMaker$SystemUse") (As := []) (rest := []) ⟨hx, hb, hml, hown, hts⟩ (c3_addRootsMarkF l D cB cI cJ cZ cN cF s.heap.size u0 pb pq en uc uk pL pf ef ([]) (by (try dsimp only); first | assumption | omega | trivial) (by (try dsimp only); first | assumption | omega | trivial) (hen) (EnL_0 hu0.1) (by (try dsimp only); first | assumption | omega | trivial)) (cwV 0 hts (lg_goodV k1005 k1006 k1007 k122 kc_SystemUse_addRootsMark) rfl rfl rfl (by decide +kernel) ⟨Nat.le_of_ble_eq_true rfl, Nat.le_of_ble_eq_true rfl⟩) ⟨fun a U g mk q => by obtain ⟨q0, q1, qP, qK, qN, qD⟩ := q; exact ⟨q0, q1, qP, va_K.moved (u := U) (U := U.calling g mk a) (Vm.Alike.refl U.vm) qK, qN.calling, qD⟩, va_recv hK hP (ci := 8) (q0 := 1) rfl rfl, fun U hU hW => ⟨rfl, by rw [hU], by rw [hU]; exact hPc, va_K.moved hW.alike hK, NN.warm hW hN, hDc.weaken (fun _ _ _ _ => trivial)⟩⟩ rfl rfl hl.1 rfl (lv_room (Nat.le_of_ble_eq_true rfl)) d_Maker_buildParts_15 ⟨hkc, hks⟩) hS (fun q _ h => hFc q h) hFc (fun u t H1 locs ht hvm hp_r35 hB hz1 hk1 hS => ?_)
        obtain ⟨uc2_36, L2_37, g_38, ef2_39⟩ := u
        obtain ⟨hP1, hD1⟩ := hB
        rw [ht] at hP1
        obtain ⟨hP, hD⟩ := va_join (wr := [(m0, .inr (4, [.ref tr, .ref im, .ref fi, .ref se, .ref u0, .ref id, .ref ct, .int ra, .int ru, .int wg]))]) (w1 := [(u0, .inr (8, [.ref pb, .ref en, .int uc2_36, .int uk])), (pb, .inr (1, [.ref pq, .int L2_37])), (pq, .inl (cB, 400, .inl g_38)), (en, .inl (cI, 4, .inl ef2_39))]) hP hD [1, 2, 3, 4] [0] rfl rfl (by decide +kernel) (by decide +kernel) hk1 hFc hP1 hD1
        clear hPc hDc hFc hP1 hD1 hk1 hz1 hkc hks
        generalize H1 = H at hP hS ⊢
        have hP : va_P D CL [(m0, .inr (4, [.ref tr, .ref im, .ref fi, .ref se, .ref u0, .ref id, .ref ct, .int ra, .int ru, .int wg])), (u0, .inr (8, [.ref pb, .ref en, .int uc2_36, .int uk])), (pb, .inr (1, [.ref pq, .int L2_37])), (pq, .inl (cB, 400, .inl g_38)), (en, .inl (cI, 4, .inl ef2_39))] H := hP
        have hD : va_D A [(m0, .inr (4, [.ref tr, .ref im, .ref fi, .ref se, .ref u0, .ref id, .ref ct, .int ra, .int ru, .int wg])), (u0, .inr (8, [.ref pb, .ref en, .int uc2_36, .int uk])), (pb, .inr (1, [.ref pq, .int L2_37])), (pq, .inl (cB, 400, .inl g_38)), (en, .inl (cI, 4, .inl ef2_39))] := hD
        try dsimp only at hp_r35
        obtain ⟨hE_40, huc2_41, hen2_42, hcs2_43, hw_44⟩ := hp_r35
        have hP := hP.sub (ws' := [(m0, .inr (4, [.ref tr, .ref im, .ref fi, .ref se, .ref u0, .ref id, .ref ct, .int ra, .int ru, .int wg])), (u0, .inr (8, [.ref pb, .ref en, .int uc2_36, .int uk])), (pb, .inr (1, [.ref pq, .int L2_37])), (pq, .inl (cB, 400, .inl g_38)), (en, .inl (cI, 4, .inl ef2_39))]) [0, 1, 2, 3, 4] rfl
        have hD := hD.sub (ws' := [(m0, .inr (4, [.ref tr, .ref im, .ref fi, .ref se, .ref u0, .ref id, .ref ct, .int ra, .int ru, .int wg])), (u0, .inr (8, [.ref pb, .ref en, .int uc2_36, .int uk])), (pb, .inr (1, [.ref pq, .int L2_37])), (pq, .inl (cB, 400, .inl g_38)), (en, .inl (cI, 4, .inl ef2_39))]) [0, 1, 2, 3, 4] (by decide +kernel) rfl
        have hl := lv_sub hl [0, 1, 2] rfl
        exact kk18 _ uc2_36 L2_37 g_38 ef2_39 _ _ _ rfl ((by (try dsimp only); first | assumption | omega | trivial)) ((by (try dsimp only); first | assumption | omega | trivial)) (hen2_42) ((by unfold lA; rw [if_pos ⟨by omega, by omega⟩]; omega)) ((by unfold sA; rw [if_pos ⟨by omega, by omega⟩]; (have h7 := hcs2_43 (by omega)); rw [show L2_37.toInt = 7 by omega] at h7; exact h7)) ((by unfold spL; rw [if_pos ⟨by omega, by omega⟩]; exact Cn_BL hw_44 (by omega) (by show (7 : Int) = _; omega))) hP hD hS hl

set_option maxHeartbeats 4000000 in
set_option maxRecDepth 100000 in
theorem c3_writeRecordF (l : Launch) (D : va_G) (cB cI cJ cZ cN cF : ClassId) (sz : Nat) (m0 : Nat) (tr : Nat) (im : Nat) (fi : Nat) (se : Nat) (u0 : Nat) (id : Nat) (ct : Nat) (ra : Int32) (ru : Int32) (wg : Int32) (l0 : Nat) (lo : Nat) (lp : Nat) (lt : Nat) (lb : Nat) (le : Nat) (ln : Int32) (lds : Int32) (ltb : Int32) (lc : Int32) (ld : Int32) (fb : Nat → Int32) (fe : Nat → Int32) (cc : Nat → Int32) (jq : Nat) (il : Int32) (jf : Nat → Int32) (iq : Nat) (n : Nat) (L : Int32) (f : Nat → Int32) (h0 : Nat) (kna : Nat) (kke : Nat) (kta : Nat) (so : Int32) (nu : Int32) (pa : Int32) (ab : Int32) (mo : Int32) (ow : Int32) (gr : Int32) (si : Int32) (sd : Int32) (td : Nat) (ts : Nat) (tl : Nat) (gd : Nat → Int32) (gs : Nat → Int32) (gl : Nat → Int32) (e9 : Int) (z9 : Int) (hi9 : Int) (J9 : List Int) (x : Int32) (y : Int32) (hL : 0 ≤ L.toInt ∧ L.toInt ≤ n) (hn : n ≤ 3000000) (hil : 0 ≤ il.toInt ∧ il.toInt ≤ 60) (hnu : 0 ≤ nu.toInt ∧ nu.toInt < 40) (hJ : Cn jf il.toInt J9) (hex : if so.toInt = 0 then (fb nu.toNatClampNeg).toInt = e9 else (cc nu.toNatClampNeg).toInt = e9) (hsz : if so.toInt = 0 then ((fe nu.toNatClampNeg).toInt * 2048 = z9 ∧ 0 ≤ (fe nu.toNatClampNeg).toInt ∧ (fe nu.toNatClampNeg).toInt ≤ 2000) else si.toInt = z9) (hz : ZA (imC f) x.toInt hi9) (hin : 0 ≤ x.toInt ∧ x.toInt + 33 + il.toInt ≤ L.toInt ∧ x.toInt + 33 ≤ hi9) (hgd : rdL gd) : Met l y_Maker_writeRecord w_Maker_writeRecord ({ frames := 2, cells := 0, slots := 0, locals := 59 }) (va_Pc [.ref m0, .ref l0, .ref h0, .int x, .int y] (fun U => U.heap.size = sz ∧ va_P D CL [(m0, .inr (4, [.ref tr, .ref im, .ref fi, .ref se, .ref u0, .ref id, .ref ct, .int ra, .int ru, .int wg])), (l0, .inr (3, [.int ln, .int lds, .int ltb, .ref lo, .ref lp, .ref lt, .ref lb, .ref le, .int lc, .int ld])), (lb, .inl (cI, 40, .inl fb)), (le, .inl (cI, 40, .inl fe)), (ct, .inl (cI, 40, .inl cc)), (id, .inr (1, [.ref jq, .int il])), (jq, .inl (cB, 60, .inl jf)), (im, .inr (1, [.ref iq, .int L])), (iq, .inl (cB, n, .inl f))] U.heap ∧ va_K D CL (TY cB cI cJ cZ cN cF) U ∧ NN U ∧ va_D (fun _ => True) [(m0, .inr (4, [.ref tr, .ref im, .ref fi, .ref se, .ref u0, .ref id, .ref ct, .int ra, .int ru, .int wg])), (l0, .inr (3, [.int ln, .int lds, .int ltb, .ref lo, .ref lp, .ref lt, .ref lb, .ref le, .int lc, .int ld])), (lb, .inl (cI, 40, .inl fb)), (le, .inl (cI, 40, .inl fe)), (ct, .inl (cI, 40, .inl cc)), (id, .inr (1, [.ref jq, .int il])), (jq, .inl (cB, 60, .inl jf)), (im, .inr (1, [.ref iq, .int L])), (iq, .inl (cB, n, .inl f))] ∧ SZ td ts tl gd gs gl (va_A [(m0, .inr (4, [.ref tr, .ref im, .ref fi, .ref se, .ref u0, .ref id, .ref ct, .int ra, .int ru, .int wg])), (l0, .inr (3, [.int ln, .int lds, .int ltb, .ref lo, .ref lp, .ref lt, .ref lb, .ref le, .int lc, .int ld])), (lb, .inl (cI, 40, .inl fb)), (le, .inl (cI, 40, .inl fe)), (ct, .inl (cI, 40, .inl cc)), (id, .inr (1, [.ref jq, .int il])), (jq, .inl (cB, 60, .inl jf)), (im, .inr (1, [.ref iq, .int L])), (iq, .inl (cB, n, .inl f))] sz) U U.heap ∧ RO D [(h0, .inr (5, [.int so, .ref kna, .ref kke, .ref kta, .int nu, .int pa, .int ab, .int mo, .int ow, .int gr, .int si, .int sd]))] (va_A [(m0, .inr (4, [.ref tr, .ref im, .ref fi, .ref se, .ref u0, .ref id, .ref ct, .int ra, .int ru, .int wg])), (l0, .inr (3, [.int ln, .int lds, .int ltb, .ref lo, .ref lp, .ref lt, .ref lb, .ref le, .int lc, .int ld])), (lb, .inl (cI, 40, .inl fb)), (le, .inl (cI, 40, .inl fe)), (ct, .inl (cI, 40, .inl cc)), (id, .inr (1, [.ref jq, .int il])), (jq, .inl (cB, 60, .inl jf)), (im, .inr (1, [.ref iq, .int L])), (iq, .inl (cB, n, .inl f))] sz) U U.heap)) (va_Qv (fun (u : (Nat → Int32)) => match u with | g => (Rn (imC f) (imC g) x.toInt (rhL y.toInt e9 z9 (if so.toInt = 0 then 2 else 0) J9) (33 + J9.length) hi9)) (fun (u : (Nat → Int32)) (t : State) => match u with | g => va_P D CL [(m0, .inr (4, [.ref tr, .ref im, .ref fi, .ref se, .ref u0, .ref id, .ref ct, .int ra, .int ru, .int wg])), (l0, .inr (3, [.int ln, .int lds, .int ltb, .ref lo, .ref lp, .ref lt, .ref lb, .ref le, .int lc, .int ld])), (lb, .inl (cI, 40, .inl fb)), (le, .inl (cI, 40, .inl fe)), (ct, .inl (cI, 40, .inl cc)), (id, .inr (1, [.ref jq, .int il])), (jq, .inl (cB, 60, .inl jf)), (im, .inr (1, [.ref iq, .int L])), (iq, .inl (cB, n, .inl g))] t.heap ∧ va_D (va_A [(m0, .inr (4, [.ref tr, .ref im, .ref fi, .ref se, .ref u0, .ref id, .ref ct, .int ra, .int ru, .int wg])), (l0, .inr (3, [.int ln, .int lds, .int ltb, .ref lo, .ref lp, .ref lt, .ref lb, .ref le, .int lc, .int ld])), (lb, .inl (cI, 40, .inl fb)), (le, .inl (cI, 40, .inl fe)), (ct, .inl (cI, 40, .inl cc)), (id, .inr (1, [.ref jq, .int il])), (jq, .inl (cB, 60, .inl jf)), (im, .inr (1, [.ref iq, .int L])), (iq, .inl (cB, n, .inl f))] sz) [(m0, .inr (4, [.ref tr, .ref im, .ref fi, .ref se, .ref u0, .ref id, .ref ct, .int ra, .int ru, .int wg])), (l0, .inr (3, [.int ln, .int lds, .int ltb, .ref lo, .ref lp, .ref lt, .ref lb, .ref le, .int lc, .int ld])), (lb, .inl (cI, 40, .inl fb)), (le, .inl (cI, 40, .inl fe)), (ct, .inl (cI, 40, .inl cc)), (id, .inr (1, [.ref jq, .int il])), (jq, .inl (cB, 60, .inl jf)), (im, .inr (1, [.ref iq, .int L])), (iq, .inl (cB, n, .inl g))]) (va_A [(m0, .inr (4, [.ref tr, .ref im, .ref fi, .ref se, .ref u0, .ref id, .ref ct, .int ra, .int ru, .int wg])), (l0, .inr (3, [.int ln, .int lds, .int ltb, .ref lo, .ref lp, .ref lt, .ref lb, .ref le, .int lc, .int ld])), (lb, .inl (cI, 40, .inl fb)), (le, .inl (cI, 40, .inl fe)), (ct, .inl (cI, 40, .inl cc)), (id, .inr (1, [.ref jq, .int il])), (jq, .inl (cB, 60, .inl jf)), (im, .inr (1, [.ref iq, .int L])), (iq, .inl (cB, n, .inl f))] sz)) 0 0 (va_A [(m0, .inr (4, [.ref tr, .ref im, .ref fi, .ref se, .ref u0, .ref id, .ref ct, .int ra, .int ru, .int wg])), (l0, .inr (3, [.int ln, .int lds, .int ltb, .ref lo, .ref lp, .ref lt, .ref lb, .ref le, .int lc, .int ld])), (lb, .inl (cI, 40, .inl fb)), (le, .inl (cI, 40, .inl fe)), (ct, .inl (cI, 40, .inl cc)), (id, .inr (1, [.ref jq, .int il])), (jq, .inl (cB, 60, .inl jf)), (im, .inr (1, [.ref iq, .int L])), (iq, .inl (cB, n, .inl f))] sz) := by
  refine Met.ofW (cc := b_Maker_writeRecord) (maxL := 6) (ret := none) (by decide +kernel) rfl ?_
  intro p e s m args below meth c s₁ B hml hv
  obtain ⟨rfl, hsz, hP, hK, hN, hD0, hZs, hZr⟩ := hv
  have hx := B.exec
  have hb := B.bytes
  have hr := B.returns
  have hts := atoms_spec (ws := w_Maker_writeRecord) B.pre
  have ht9 := fun (w : Cond) (h : w ∈ lw_g) => hts w (List.mem_cons_of_mem _ h)
  have hown : s.vm.findClass "DiscMaker$Maker" = some m.cls := findClass_of_methodNamed B.named
  have hlocks := B.notSynchronized
  subst hsz
  have hD := hD0.self (sz := s.heap.size)
  generalize hAe : va_A [(m0, .inr (4, [.ref tr, .ref im, .ref fi, .ref se, .ref u0, .ref id, .ref ct, .int ra, .int ru, .int wg])), (l0, .inr (3, [.int ln, .int lds, .int ltb, .ref lo, .ref lp, .ref lt, .ref lb, .ref le, .int lc, .int ld])), (lb, .inl (cI, 40, .inl fb)), (le, .inl (cI, 40, .inl fe)), (ct, .inl (cI, 40, .inl cc)), (id, .inr (1, [.ref jq, .int il])), (jq, .inl (cB, 60, .inl jf)), (im, .inr (1, [.ref iq, .int L])), (iq, .inl (cB, n, .inl f))] s.heap.size = A at hD hZs hZr ⊢
  have hA : ∀ q : Nat, s.heap.size ≤ q → A q := fun q h => by rw [← hAe]; exact Or.inr h
  have hS : va_S A s.heap s.heap [] := va_S.rf
  have hP : va_P D CL [(m0, .inr (4, [.ref tr, .ref im, .ref fi, .ref se, .ref u0, .ref id, .ref ct, .int ra, .int ru, .int wg])), (l0, .inr (3, [.int ln, .int lds, .int ltb, .ref lo, .ref lp, .ref lt, .ref lb, .ref le, .int lc, .int ld])), (lb, .inl (cI, 40, .inl fb)), (le, .inl (cI, 40, .inl fe)), (ct, .inl (cI, 40, .inl cc)), (id, .inr (1, [.ref jq, .int il])), (jq, .inl (cB, 60, .inl jf)), (im, .inr (1, [.ref iq, .int L])), (iq, .inl (cB, n, .inl f))] s.heap := hP
  have hl := lv_entry [.ref m0, .ref l0, .ref h0, .int x, .int y] (n := 6) (Nat.le_of_ble_eq_true rfl)
  rw [lg_entry_eq]
  generalize (lg_sl [.ref m0, .ref l0, .ref h0, .int x, .int y] ++ List.replicate (6 - (lg_sl [.ref m0, .ref l0, .ref h0, .int x, .int y]).length) Slot.unset).toArray = ls at hl ⊢
  have hl : lv_has ls 6 [(0, .ref m0), (1, .ref l0), (2, .ref h0), (3, .int x), (4, .int y)] := hl
  have L_m1 : ((-1) : Int32).toInt = (-1) := by decide
  have L_0 : (0 : Int32).toInt = 0 := by decide
  have L_1 : (1 : Int32).toInt = 1 := by decide
  have L_2 : (2 : Int32).toInt = 2 := by decide
  have L_4 : (4 : Int32).toInt = 4 := by decide
  have L_10 : (10 : Int32).toInt = 10 := by decide
  have L_18 : (18 : Int32).toInt = 18 := by decide
  have L_25 : (25 : Int32).toInt = 25 := by decide
  have L_28 : (28 : Int32).toInt = 28 := by decide
  have L_32 : (32 : Int32).toInt = 32 := by decide
  have L_33 : (33 : Int32).toInt = 33 := by decide
  have L_2048 : (2048 : Int32).toInt = 2048 := by decide
  refine zz_labM (B := fun (lk : Nat) (K : Heap → List Loc → Array Slot → List Value → Prop) => ∀ (di : Int32) (H : Heap) (locs : List Loc) (ls : Array Slot), lk = 0 → ((so.toInt = 0 ∧ di.toInt = 1) ∨ (so.toInt ≠ 0 ∧ di.toInt = 0)) → va_P D CL [(m0, .inr (4, [.ref tr, .ref im, .ref fi, .ref se, .ref u0, .ref id, .ref ct, .int ra, .int ru, .int wg])), (l0, .inr (3, [.int ln, .int lds, .int ltb, .ref lo, .ref lp, .ref lt, .ref lb, .ref le, .int lc, .int ld])), (lb, .inl (cI, 40, .inl fb)), (le, .inl (cI, 40, .inl fe)), (ct, .inl (cI, 40, .inl cc)), (id, .inr (1, [.ref jq, .int il])), (jq, .inl (cB, 60, .inl jf)), (im, .inr (1, [.ref iq, .int L])), (iq, .inl (cB, n, .inl f))] H → va_D A [(m0, .inr (4, [.ref tr, .ref im, .ref fi, .ref se, .ref u0, .ref id, .ref ct, .int ra, .int ru, .int wg])), (l0, .inr (3, [.int ln, .int lds, .int ltb, .ref lo, .ref lp, .ref lt, .ref lb, .ref le, .int lc, .int ld])), (lb, .inl (cI, 40, .inl fb)), (le, .inl (cI, 40, .inl fe)), (ct, .inl (cI, 40, .inl cc)), (id, .inr (1, [.ref jq, .int il])), (jq, .inl (cB, 60, .inl jf)), (im, .inr (1, [.ref iq, .int L])), (iq, .inl (cB, n, .inl f))] → va_S A s.heap H locs → lv_has ls 6 [(0, .ref m0), (1, .ref l0), (2, .ref h0), (3, .int x), (4, .int y)] → K H locs ls [.int di]) 12 ?_ ?_
  · skip
    intro lk ih12 di H locs ls hm12 e5 hP hD hS hl
    refine lv_istore hx hb d_Maker_writeRecord_12 hl (by decide) rfl (fun ls hl => ?_)
    have hl : lv_has ls 6 [(5, .int di), (0, .ref m0), (1, .ref l0), (2, .ref h0), (3, .int x), (4, .int y)] := hl
    refine lv_aload_n hx hb d_Maker_writeRecord_14 rfl (lv_at hl 1 rfl) ?_
    refine va_get (D := D) (ci := 4) (v := .ref im) (C := "DiscMaker$Maker") (T := F_Maker) (N := 10) hx hb ht9 in_Maker hown hK hP 0 rfl rfl 1 (by decide) (ht9 _ k348) (fun _ h9 => h9) rfl d_Maker_writeRecord_15 ?_
    refine lv_iload_n hx hb d_Maker_writeRecord_18 rfl (lv_at hl 4 rfl) ?_
    refine lv_iload hx hb d_Maker_writeRecord_19 (lv_at hl 5 rfl) ?_
    have hPc := hP.sub (ws' := [(im, .inr (1, [.ref iq, .int L])), (iq, .inl (cB, n, .inl f))]) [7, 8] rfl
    have hDc := hD.sub (ws' := [(im, .inr (1, [.ref iq, .int L])), (iq, .inl (cB, n, .inl f))]) [7, 8] (by decide +kernel) rfl
    have hFc := va_free (wc := [(im, .inr (1, [.ref iq, .int L])), (iq, .inl (cB, n, .inl f))]) hD hS hA [7, 8] rfl
    have hkc : 0 ≤ 0 := by decide
    have hks : 0 ≤ 0 := by decide
    refine va_callv (va_runV (C := "DiscMaker$Bytes") (As := [.int x, .int y]) (rest := []) ⟨hx, hb, hml, hown, hts⟩ (c3_putF l D cB cI cJ cZ cN cF H.size im iq n L f x y (by (try dsimp only); first | assumption | omega | trivial) (by (try dsimp only); first | assumption | omega | trivial) (by (try dsimp only); first | assumption | omega | trivial)) (cwV 2 hts (lg_goodV k978 k912 k913 k119 kc_Bytes_put) rfl rfl rfl (by decide +kernel) ⟨Nat.le_of_ble_eq_true rfl, Nat.le_of_ble_eq_true rfl⟩) ⟨fun a U g mk q => by obtain ⟨q0, q1, qP, qK, qN, qD⟩ := q; exact ⟨q0, q1, qP, va_K.moved (u := U) (U := U.calling g mk a) (Vm.Alike.refl U.vm) qK, qN.calling, qD⟩, va_recv hK hP (ci := 1) (q0 := 7) rfl rfl, fun U hU hW => ⟨rfl, by rw [hU], by rw [hU]; exact hPc, va_K.moved hW.alike hK, NN.warm hW hN, hDc.weaken (fun _ _ _ _ => trivial)⟩⟩ rfl rfl hl.1 rfl (lv_room (Nat.le_of_ble_eq_true rfl)) d_Maker_writeRecord_21 ⟨hkc, hks⟩) hS (fun q _ h => hFc q h) hFc (fun u t H1 locs ht hvm hp_r1 hB hz1 hk1 hS => ?_)
    obtain ⟨g_2, rfl⟩ : ∃ z, z = u := ⟨_, rfl⟩
    obtain ⟨hP1, hD1⟩ := hB
    rw [ht] at hP1
    obtain ⟨hP, hD⟩ := va_join (wr := [(m0, .inr (4, [.ref tr, .ref im, .ref fi, .ref se, .ref u0, .ref id, .ref ct, .int ra, .int ru, .int wg])), (l0, .inr (3, [.int ln, .int lds, .int ltb, .ref lo, .ref lp, .ref lt, .ref lb, .ref le, .int lc, .int ld])), (lb, .inl (cI, 40, .inl fb)), (le, .inl (cI, 40, .inl fe)), (ct, .inl (cI, 40, .inl cc)), (id, .inr (1, [.ref jq, .int il])), (jq, .inl (cB, 60, .inl jf))]) (w1 := [(im, .inr (1, [.ref iq, .int L])), (iq, .inl (cB, n, .inl g_2))]) hP hD [7, 8] [0, 1, 2, 3, 4, 5, 6] rfl rfl (by decide +kernel) (by decide +kernel) hk1 hFc hP1 hD1
    clear hPc hDc hFc hP1 hD1 hk1 hz1 hkc hks
    generalize H1 = H at hP hS ⊢
    have hP : va_P D CL [(m0, .inr (4, [.ref tr, .ref im, .ref fi, .ref se, .ref u0, .ref id, .ref ct, .int ra, .int ru, .int wg])), (l0, .inr (3, [.int ln, .int lds, .int ltb, .ref lo, .ref lp, .ref lt, .ref lb, .ref le, .int lc, .int ld])), (lb, .inl (cI, 40, .inl fb)), (le, .inl (cI, 40, .inl fe)), (ct, .inl (cI, 40, .inl cc)), (id, .inr (1, [.ref jq, .int il])), (jq, .inl (cB, 60, .inl jf)), (im, .inr (1, [.ref iq, .int L])), (iq, .inl (cB, n, .inl g_2))] H := hP
    have hD : va_D A [(m0, .inr (4, [.ref tr, .ref im, .ref fi, .ref se, .ref u0, .ref id, .ref ct, .int ra, .int ru, .int wg])), (l0, .inr (3, [.int ln, .int lds, .int ltb, .ref lo, .ref lp, .ref lt, .ref lb, .ref le, .int lc, .int ld])), (lb, .inl (cI, 40, .inl fb)), (le, .inl (cI, 40, .inl fe)), (ct, .inl (cI, 40, .inl cc)), (id, .inr (1, [.ref jq, .int il])), (jq, .inl (cB, 60, .inl jf)), (im, .inr (1, [.ref iq, .int L])), (iq, .inl (cB, n, .inl g_2))] := hD
    try dsimp only at hp_r1
    have hw_3 := hp_r1
    refine lv_aload_n hx hb d_Maker_writeRecord_24 rfl (lv_at hl 1 rfl) ?_
    refine va_get (D := D) (ci := 4) (v := .ref im) (C := "DiscMaker$Maker") (T := F_Maker) (N := 10) hx hb ht9 in_Maker hown hK hP 0 rfl rfl 1 (by decide) (ht9 _ k348) (fun _ h9 => h9) rfl d_Maker_writeRecord_25 ?_
    refine lv_iload_n hx hb d_Maker_writeRecord_28 rfl (lv_at hl 4 rfl) ?_
    refine lv_iconst (v := 2) hx hb d_Maker_writeRecord_29 (by decide) ?_
    refine lv_iadd hx hb d_Maker_writeRecord_30 ?_
    refine lv_topi (fun v4 e_v4 => ?_)
    have t_v4 : v4.toInt = x.toInt + 2 := by rw [e_v4]; exact i_add rfl (by decide) (by omega) (by omega)
    refine zz_labM (B := fun (lk : Nat) (K : Heap → List Loc → Array Slot → List Value → Prop) => ∀ (ev : Int32) (H : Heap) (locs : List Loc) (ls : Array Slot), lk = 0 → (ev.toInt = e9) → va_P D CL [(m0, .inr (4, [.ref tr, .ref im, .ref fi, .ref se, .ref u0, .ref id, .ref ct, .int ra, .int ru, .int wg])), (l0, .inr (3, [.int ln, .int lds, .int ltb, .ref lo, .ref lp, .ref lt, .ref lb, .ref le, .int lc, .int ld])), (lb, .inl (cI, 40, .inl fb)), (le, .inl (cI, 40, .inl fe)), (ct, .inl (cI, 40, .inl cc)), (id, .inr (1, [.ref jq, .int il])), (jq, .inl (cB, 60, .inl jf)), (im, .inr (1, [.ref iq, .int L])), (iq, .inl (cB, n, .inl g_2))] H → va_D A [(m0, .inr (4, [.ref tr, .ref im, .ref fi, .ref se, .ref u0, .ref id, .ref ct, .int ra, .int ru, .int wg])), (l0, .inr (3, [.int ln, .int lds, .int ltb, .ref lo, .ref lp, .ref lt, .ref lb, .ref le, .int lc, .int ld])), (lb, .inl (cI, 40, .inl fb)), (le, .inl (cI, 40, .inl fe)), (ct, .inl (cI, 40, .inl cc)), (id, .inr (1, [.ref jq, .int il])), (jq, .inl (cB, 60, .inl jf)), (im, .inr (1, [.ref iq, .int L])), (iq, .inl (cB, n, .inl g_2))] → va_S A s.heap H locs → lv_has ls 6 [(0, .ref m0), (1, .ref l0), (2, .ref h0), (3, .int x), (4, .int y), (5, .int di)] → K H locs ls [.int ev, .int v4, .ref im]) 57 ?_ ?_
    · skip
      intro lk ih57 ev H locs ls hm57 e6 hP hD hS hl
      refine lv_iconst (v := 4) hx hb d_Maker_writeRecord_57 (by decide) ?_
      have hPc := hP.sub (ws' := [(im, .inr (1, [.ref iq, .int L])), (iq, .inl (cB, n, .inl g_2))]) [7, 8] rfl
      have hDc := hD.sub (ws' := [(im, .inr (1, [.ref iq, .int L])), (iq, .inl (cB, n, .inl g_2))]) [7, 8] (by decide +kernel) rfl
      have hFc := va_free (wc := [(im, .inr (1, [.ref iq, .int L])), (iq, .inl (cB, n, .inl g_2))]) hD hS hA [7, 8] rfl
      have hkc : 0 ≤ 0 := by decide
      have hks : 0 ≤ 0 := by decide
      refine va_callv (va_runV (C := "DiscMaker$Bytes") (As := [.int v4, .int ev, .int 4]) (rest := []) ⟨hx, hb, hml, hown, hts⟩ (c3_putBoth4F l D cB cI cJ cZ cN cF H.size im iq n L g_2 v4 ev (by (try dsimp only); first | assumption | omega | trivial) (by (try dsimp only); first | assumption | omega | trivial) (by (try dsimp only); first | assumption | omega | trivial)) (cwV 3 hts (lg_goodV k1056 k1023 k1024 k119 kc_Bytes_putBoth) rfl rfl rfl (by decide +kernel) ⟨Nat.le_of_ble_eq_true rfl, Nat.le_of_ble_eq_true rfl⟩) ⟨fun a U g mk q => by obtain ⟨q0, q1, qP, qK, qN, qD⟩ := q; exact ⟨q0, q1, qP, va_K.moved (u := U) (U := U.calling g mk a) (Vm.Alike.refl U.vm) qK, qN.calling, qD⟩, va_recv hK hP (ci := 1) (q0 := 7) rfl rfl, fun U hU hW => ⟨rfl, by rw [hU], by rw [hU]; exact hPc, va_K.moved hW.alike hK, NN.warm hW hN, hDc.weaken (fun _ _ _ _ => trivial)⟩⟩ rfl rfl hl.1 rfl (lv_room (Nat.le_of_ble_eq_true rfl)) d_Maker_writeRecord_58 ⟨hkc, hks⟩) hS (fun q _ h => hFc q h) hFc (fun u t H1 locs ht hvm hp_r5 hB hz1 hk1 hS => ?_)
      obtain ⟨g_6, rfl⟩ : ∃ z, z = u := ⟨_, rfl⟩
      obtain ⟨hP1, hD1⟩ := hB
      rw [ht] at hP1
      obtain ⟨hP, hD⟩ := va_join (wr := [(m0, .inr (4, [.ref tr, .ref im, .ref fi, .ref se, .ref u0, .ref id, .ref ct, .int ra, .int ru, .int wg])), (l0, .inr (3, [.int ln, .int lds, .int ltb, .ref lo, .ref lp, .ref lt, .ref lb, .ref le, .int lc, .int ld])), (lb, .inl (cI, 40, .inl fb)), (le, .inl (cI, 40, .inl fe)), (ct, .inl (cI, 40, .inl cc)), (id, .inr (1, [.ref jq, .int il])), (jq, .inl (cB, 60, .inl jf))]) (w1 := [(im, .inr (1, [.ref iq, .int L])), (iq, .inl (cB, n, .inl g_6))]) hP hD [7, 8] [0, 1, 2, 3, 4, 5, 6] rfl rfl (by decide +kernel) (by decide +kernel) hk1 hFc hP1 hD1
      clear hPc hDc hFc hP1 hD1 hk1 hz1 hkc hks
      generalize H1 = H at hP hS ⊢
      have hP : va_P D CL [(m0, .inr (4, [.ref tr, .ref im, .ref fi, .ref se, .ref u0, .ref id, .ref ct, .int ra, .int ru, .int wg])), (l0, .inr (3, [.int ln, .int lds, .int ltb, .ref lo, .ref lp, .ref lt, .ref lb, .ref le, .int lc, .int ld])), (lb, .inl (cI, 40, .inl fb)), (le, .inl (cI, 40, .inl fe)), (ct, .inl (cI, 40, .inl cc)), (id, .inr (1, [.ref jq, .int il])), (jq, .inl (cB, 60, .inl jf)), (im, .inr (1, [.ref iq, .int L])), (iq, .inl (cB, n, .inl g_6))] H := hP
      have hD : va_D A [(m0, .inr (4, [.ref tr, .ref im, .ref fi, .ref se, .ref u0, .ref id, .ref ct, .int ra, .int ru, .int wg])), (l0, .inr (3, [.int ln, .int lds, .int ltb, .ref lo, .ref lp, .ref lt, .ref lb, .ref le, .int lc, .int ld])), (lb, .inl (cI, 40, .inl fb)), (le, .inl (cI, 40, .inl fe)), (ct, .inl (cI, 40, .inl cc)), (id, .inr (1, [.ref jq, .int il])), (jq, .inl (cB, 60, .inl jf)), (im, .inr (1, [.ref iq, .int L])), (iq, .inl (cB, n, .inl g_6))] := hD
      try dsimp only at hp_r5
      have hw_7 := hp_r5
      refine lv_aload_n hx hb d_Maker_writeRecord_61 rfl (lv_at hl 0 rfl) ?_
      refine va_get (D := D) (ci := 4) (v := .ref im) (C := "DiscMaker$Maker") (T := F_Maker) (N := 10) hx hb ht9 in_Maker hown hK hP 0 rfl rfl 1 (by decide) (ht9 _ k348) (fun _ h9 => h9) rfl d_Maker_writeRecord_62 ?_
      refine lv_iload_n hx hb d_Maker_writeRecord_65 rfl (lv_at hl 3 rfl) ?_
      refine lv_bipush (v := 10) hx hb d_Maker_writeRecord_66 (by decide) ?_
      refine lv_iadd hx hb d_Maker_writeRecord_68 ?_
      refine lv_topi (fun v8 e_v8 => ?_)
      have t_v8 : v8.toInt = x.toInt + 10 := by rw [e_v8]; exact i_add rfl (by decide) (by omega) (by omega)
      refine zz_labM (B := fun (lk : Nat) (K : Heap → List Loc → Array Slot → List Value → Prop) => ∀ (zv : Int32) (H : Heap) (locs : List Loc) (ls : Array Slot), lk = 0 → (zv.toInt = z9) → va_P D CL [(m0, .inr (4, [.ref tr, .ref im, .ref fi, .ref se, .ref u0, .ref id, .ref ct, .int ra, .int ru, .int wg])), (l0, .inr (3, [.int ln, .int lds, .int ltb, .ref lo, .ref lp, .ref lt, .ref lb, .ref le, .int lc, .int ld])), (lb, .inl (cI, 40, .inl fb)), (le, .inl (cI, 40, .inl fe)), (ct, .inl (cI, 40, .inl cc)), (id, .inr (1, [.ref jq, .int il])), (jq, .inl (cB, 60, .inl jf)), (im, .inr (1, [.ref iq, .int L])), (iq, .inl (cB, n, .inl g_6))] H → va_D A [(m0, .inr (4, [.ref tr, .ref im, .ref fi, .ref se, .ref u0, .ref id, .ref ct, .int ra, .int ru, .int wg])), (l0, .inr (3, [.int ln, .int lds, .int ltb, .ref lo, .ref lp, .ref lt, .ref lb, .ref le, .int lc, .int ld])), (lb, .inl (cI, 40, .inl fb)), (le, .inl (cI, 40, .inl fe)), (ct, .inl (cI, 40, .inl cc)), (id, .inr (1, [.ref jq, .int il])), (jq, .inl (cB, 60, .inl jf)), (im, .inr (1, [.ref iq, .int L])), (iq, .inl (cB, n, .inl g_6))] → va_S A s.heap H locs → lv_has ls 6 [(0, .ref m0), (1, .ref l0), (2, .ref h0), (3, .int x), (4, .int y), (5, .int di)] → K H locs ls [.int zv, .int v8, .ref im]) 94 ?_ ?_
      · skip
        intro lk ih94 zv H locs ls hm94 e7 hP hD hS hl
        refine lv_iconst (v := 4) hx hb d_Maker_writeRecord_94 (by decide) ?_
        have hPc := hP.sub (ws' := [(im, .inr (1, [.ref iq, .int L])), (iq, .inl (cB, n, .inl g_6))]) [7, 8] rfl
        have hDc := hD.sub (ws' := [(im, .inr (1, [.ref iq, .int L])), (iq, .inl (cB, n, .inl g_6))]) [7, 8] (by decide +kernel) rfl
        have hFc := va_free (wc := [(im, .inr (1, [.ref iq, .int L])), (iq, .inl (cB, n, .inl g_6))]) hD hS hA [7, 8] rfl
        have hkc : 0 ≤ 0 := by decide
        have hks : 0 ≤ 0 := by decide
        refine va_callv (va_runV (C := "DiscMaker$Bytes") (As := [.int v8, .int zv, .int 4]) (rest := []) ⟨hx, hb, hml, hown, hts⟩ (c3_putBoth4F l D cB cI cJ cZ cN cF H.size im iq n L g_6 v8 zv (by (try dsimp only); first | assumption | omega | trivial) (by (try dsimp only); first | assumption | omega | trivial) (by (try dsimp only); first | assumption | omega | trivial)) (cwV 3 hts (lg_goodV k1056 k1023 k1024 k119 kc_Bytes_putBoth) rfl rfl rfl (by decide +kernel) ⟨Nat.le_of_ble_eq_true rfl, Nat.le_of_ble_eq_true rfl⟩) ⟨fun a U g mk q => by obtain ⟨q0, q1, qP, qK, qN, qD⟩ := q; exact ⟨q0, q1, qP, va_K.moved (u := U) (U := U.calling g mk a) (Vm.Alike.refl U.vm) qK, qN.calling, qD⟩, va_recv hK hP (ci := 1) (q0 := 7) rfl rfl, fun U hU hW => ⟨rfl, by rw [hU], by rw [hU]; exact hPc, va_K.moved hW.alike hK, NN.warm hW hN, hDc.weaken (fun _ _ _ _ => trivial)⟩⟩ rfl rfl hl.1 rfl (lv_room (Nat.le_of_ble_eq_true rfl)) d_Maker_writeRecord_95 ⟨hkc, hks⟩) hS (fun q _ h => hFc q h) hFc (fun u t H1 locs ht hvm hp_r9 hB hz1 hk1 hS => ?_)
        obtain ⟨g_10, rfl⟩ : ∃ z, z = u := ⟨_, rfl⟩
        obtain ⟨hP1, hD1⟩ := hB
        rw [ht] at hP1
        obtain ⟨hP, hD⟩ := va_join (wr := [(m0, .inr (4, [.ref tr, .ref im, .ref fi, .ref se, .ref u0, .ref id, .ref ct, .int ra, .int ru, .int wg])), (l0, .inr (3, [.int ln, .int lds, .int ltb, .ref lo, .ref lp, .ref lt, .ref lb, .ref le, .int lc, .int ld])), (lb, .inl (cI, 40, .inl fb)), (le, .inl (cI, 40, .inl fe)), (ct, .inl (cI, 40, .inl cc)), (id, .inr (1, [.ref jq, .int il])), (jq, .inl (cB, 60, .inl jf))]) (w1 := [(im, .inr (1, [.ref iq, .int L])), (iq, .inl (cB, n, .inl g_10))]) hP hD [7, 8] [0, 1, 2, 3, 4, 5, 6] rfl rfl (by decide +kernel) (by decide +kernel) hk1 hFc hP1 hD1
        clear hPc hDc hFc hP1 hD1 hk1 hz1 hkc hks
        generalize H1 = H at hP hS ⊢
        have hP : va_P D CL [(m0, .inr (4, [.ref tr, .ref im, .ref fi, .ref se, .ref u0, .ref id, .ref ct, .int ra, .int ru, .int wg])), (l0, .inr (3, [.int ln, .int lds, .int ltb, .ref lo, .ref lp, .ref lt, .ref lb, .ref le, .int lc, .int ld])), (lb, .inl (cI, 40, .inl fb)), (le, .inl (cI, 40, .inl fe)), (ct, .inl (cI, 40, .inl cc)), (id, .inr (1, [.ref jq, .int il])), (jq, .inl (cB, 60, .inl jf)), (im, .inr (1, [.ref iq, .int L])), (iq, .inl (cB, n, .inl g_10))] H := hP
        have hD : va_D A [(m0, .inr (4, [.ref tr, .ref im, .ref fi, .ref se, .ref u0, .ref id, .ref ct, .int ra, .int ru, .int wg])), (l0, .inr (3, [.int ln, .int lds, .int ltb, .ref lo, .ref lp, .ref lt, .ref lb, .ref le, .int lc, .int ld])), (lb, .inl (cI, 40, .inl fb)), (le, .inl (cI, 40, .inl fe)), (ct, .inl (cI, 40, .inl cc)), (id, .inr (1, [.ref jq, .int il])), (jq, .inl (cB, 60, .inl jf)), (im, .inr (1, [.ref iq, .int L])), (iq, .inl (cB, n, .inl g_10))] := hD
        try dsimp only at hp_r9
        have hw_11 := hp_r9
        refine lv_aload_n hx hb d_Maker_writeRecord_98 rfl (lv_at hl 0 rfl) ?_
        refine va_get (D := D) (ci := 4) (v := .ref im) (C := "DiscMaker$Maker") (T := F_Maker) (N := 10) hx hb ht9 in_Maker hown hK hP 0 rfl rfl 1 (by decide) (ht9 _ k348) (fun _ h9 => h9) rfl d_Maker_writeRecord_99 ?_
        refine lv_iload_n hx hb d_Maker_writeRecord_102 rfl (lv_at hl 3 rfl) ?_
        refine lv_bipush (v := 18) hx hb d_Maker_writeRecord_103 (by decide) ?_
        refine lv_iadd hx hb d_Maker_writeRecord_105 ?_
        refine lv_topi (fun v12 e_v12 => ?_)
        have t_v12 : v12.toInt = x.toInt + 18 := by rw [e_v12]; exact i_add rfl (by decide) (by omega) (by omega)
        refine va_getsN (C := "DiscMaker") (n := "DAY") (d := "[B") (v := .ref td) hx hb (hZs.1.1) hS hown (va_Nw.use rfl (hN _ k1057)) (fun _ h9 => h9) d_Maker_writeRecord_106 ?_
        have hPc := hP.sub (ws' := [(im, .inr (1, [.ref iq, .int L])), (iq, .inl (cB, n, .inl g_10))]) [7, 8] rfl
        have hDc := hD.sub (ws' := [(im, .inr (1, [.ref iq, .int L])), (iq, .inl (cB, n, .inl g_10))]) [7, 8] (by decide +kernel) rfl
        have hFc := va_free (wc := [(im, .inr (1, [.ref iq, .int L])), (iq, .inl (cB, n, .inl g_10))]) hD hS hA [7, 8] rfl
        have hkc : 0 ≤ 0 := by decide
        have hks : 0 ≤ 0 := by decide
        refine va_callv (va_runV (C := "DiscMaker$Bytes") (As := [.int v12, .ref td]) (rest := []) ⟨hx, hb, hml, hown, hts⟩ (c3_putRowTF l D cB cI cJ cZ cN cF H.size im iq n L g_10 td 7 gd v12 (by (try dsimp only); first | assumption | omega | trivial) (by (try dsimp only); first | assumption | omega | trivial) (by (try dsimp only); first | assumption | omega | trivial) (by (try dsimp only); first | assumption | omega | trivial)) (cwV 2 hts (lg_goodV k1059 k1031 k1032 k119 kc_Bytes_putRow) rfl rfl rfl (by decide +kernel) ⟨Nat.le_of_ble_eq_true rfl, Nat.le_of_ble_eq_true rfl⟩) ⟨fun a U g mk q => by obtain ⟨q0, q1, qP, qK, qN, qD, qZ0⟩ := q; exact ⟨q0, q1, qP, va_K.moved (u := U) (U := U.calling g mk a) (Vm.Alike.refl U.vm) qK, qN.calling, qD, zT_blind qZ0⟩, va_recv hK hP (ci := 1) (q0 := 7) rfl rfl, fun U hU hW => ⟨rfl, by rw [hU], by rw [hU]; exact hPc, va_K.moved hW.alike hK, NN.warm hW hN, hDc.weaken (fun _ _ _ _ => trivial), zT_pass hZs.1.2 hS hFc hW.alike hU⟩⟩ rfl rfl hl.1 rfl (lv_room (Nat.le_of_ble_eq_true rfl)) d_Maker_writeRecord_109 ⟨hkc, hks⟩) hS (fun q _ h => hFc q h) hFc (fun u t H1 locs ht hvm hp_r13 hB hz1 hk1 hS => ?_)
        obtain ⟨g_14, rfl⟩ : ∃ z, z = u := ⟨_, rfl⟩
        obtain ⟨hP1, hD1⟩ := hB
        rw [ht] at hP1
        obtain ⟨hP, hD⟩ := va_join (wr := [(m0, .inr (4, [.ref tr, .ref im, .ref fi, .ref se, .ref u0, .ref id, .ref ct, .int ra, .int ru, .int wg])), (l0, .inr (3, [.int ln, .int lds, .int ltb, .ref lo, .ref lp, .ref lt, .ref lb, .ref le, .int lc, .int ld])), (lb, .inl (cI, 40, .inl fb)), (le, .inl (cI, 40, .inl fe)), (ct, .inl (cI, 40, .inl cc)), (id, .inr (1, [.ref jq, .int il])), (jq, .inl (cB, 60, .inl jf))]) (w1 := [(im, .inr (1, [.ref iq, .int L])), (iq, .inl (cB, n, .inl g_14))]) hP hD [7, 8] [0, 1, 2, 3, 4, 5, 6] rfl rfl (by decide +kernel) (by decide +kernel) hk1 hFc hP1 hD1
        clear hPc hDc hFc hP1 hD1 hk1 hz1 hkc hks
        generalize H1 = H at hP hS ⊢
        have hP : va_P D CL [(m0, .inr (4, [.ref tr, .ref im, .ref fi, .ref se, .ref u0, .ref id, .ref ct, .int ra, .int ru, .int wg])), (l0, .inr (3, [.int ln, .int lds, .int ltb, .ref lo, .ref lp, .ref lt, .ref lb, .ref le, .int lc, .int ld])), (lb, .inl (cI, 40, .inl fb)), (le, .inl (cI, 40, .inl fe)), (ct, .inl (cI, 40, .inl cc)), (id, .inr (1, [.ref jq, .int il])), (jq, .inl (cB, 60, .inl jf)), (im, .inr (1, [.ref iq, .int L])), (iq, .inl (cB, n, .inl g_14))] H := hP
        have hD : va_D A [(m0, .inr (4, [.ref tr, .ref im, .ref fi, .ref se, .ref u0, .ref id, .ref ct, .int ra, .int ru, .int wg])), (l0, .inr (3, [.int ln, .int lds, .int ltb, .ref lo, .ref lp, .ref lt, .ref lb, .ref le, .int lc, .int ld])), (lb, .inl (cI, 40, .inl fb)), (le, .inl (cI, 40, .inl fe)), (ct, .inl (cI, 40, .inl cc)), (id, .inr (1, [.ref jq, .int il])), (jq, .inl (cB, 60, .inl jf)), (im, .inr (1, [.ref iq, .int L])), (iq, .inl (cB, n, .inl g_14))] := hD
        try dsimp only at hp_r13
        have hw_15 := hp_r13
        refine lv_aload_n hx hb d_Maker_writeRecord_112 rfl (lv_at hl 0 rfl) ?_
        refine va_get (D := D) (ci := 4) (v := .ref im) (C := "DiscMaker$Maker") (T := F_Maker) (N := 10) hx hb ht9 in_Maker hown hK hP 0 rfl rfl 1 (by decide) (ht9 _ k348) (fun _ h9 => h9) rfl d_Maker_writeRecord_113 ?_
        refine lv_iload_n hx hb d_Maker_writeRecord_116 rfl (lv_at hl 3 rfl) ?_
        refine lv_bipush (v := 25) hx hb d_Maker_writeRecord_117 (by decide) ?_
        refine lv_iadd hx hb d_Maker_writeRecord_119 ?_
        refine lv_topi (fun v16 e_v16 => ?_)
        have t_v16 : v16.toInt = x.toInt + 25 := by rw [e_v16]; exact i_add rfl (by decide) (by omega) (by omega)
        refine zz_labM (B := fun (lk : Nat) (K : Heap → List Loc → Array Slot → List Value → Prop) => ∀ (fv : Int32) (H : Heap) (locs : List Loc) (ls : Array Slot), lk = 0 → (fv.toInt = (if so.toInt = 0 then 2 else 0)) → va_P D CL [(m0, .inr (4, [.ref tr, .ref im, .ref fi, .ref se, .ref u0, .ref id, .ref ct, .int ra, .int ru, .int wg])), (l0, .inr (3, [.int ln, .int lds, .int ltb, .ref lo, .ref lp, .ref lt, .ref lb, .ref le, .int lc, .int ld])), (lb, .inl (cI, 40, .inl fb)), (le, .inl (cI, 40, .inl fe)), (ct, .inl (cI, 40, .inl cc)), (id, .inr (1, [.ref jq, .int il])), (jq, .inl (cB, 60, .inl jf)), (im, .inr (1, [.ref iq, .int L])), (iq, .inl (cB, n, .inl g_14))] H → va_D A [(m0, .inr (4, [.ref tr, .ref im, .ref fi, .ref se, .ref u0, .ref id, .ref ct, .int ra, .int ru, .int wg])), (l0, .inr (3, [.int ln, .int lds, .int ltb, .ref lo, .ref lp, .ref lt, .ref lb, .ref le, .int lc, .int ld])), (lb, .inl (cI, 40, .inl fb)), (le, .inl (cI, 40, .inl fe)), (ct, .inl (cI, 40, .inl cc)), (id, .inr (1, [.ref jq, .int il])), (jq, .inl (cB, 60, .inl jf)), (im, .inr (1, [.ref iq, .int L])), (iq, .inl (cB, n, .inl g_14))] → va_S A s.heap H locs → lv_has ls 6 [(0, .ref m0), (1, .ref l0), (2, .ref h0), (3, .int x), (4, .int y), (5, .int di)] → K H locs ls [.int fv, .int v16, .ref im]) 130 ?_ ?_
        · skip
          intro lk ih130 fv H locs ls hm130 e8 hP hD hS hl
          have hPc := hP.sub (ws' := [(im, .inr (1, [.ref iq, .int L])), (iq, .inl (cB, n, .inl g_14))]) [7, 8] rfl
          have hDc := hD.sub (ws' := [(im, .inr (1, [.ref iq, .int L])), (iq, .inl (cB, n, .inl g_14))]) [7, 8] (by decide +kernel) rfl
          have hFc := va_free (wc := [(im, .inr (1, [.ref iq, .int L])), (iq, .inl (cB, n, .inl g_14))]) hD hS hA [7, 8] rfl
          have hkc : 0 ≤ 0 := by decide
          have hks : 0 ≤ 0 := by decide
          refine va_callv (va_runV (C := "DiscMaker$Bytes") (As := [.int v16, .int fv]) (rest := []) ⟨hx, hb, hml, hown, hts⟩ (c3_putF l D cB cI cJ cZ cN cF H.size im iq n L g_14 v16 fv (by (try dsimp only); first | assumption | omega | trivial) (by (try dsimp only); first | assumption | omega | trivial) (by (try dsimp only); first | assumption | omega | trivial)) (cwV 2 hts (lg_goodV k978 k912 k913 k119 kc_Bytes_put) rfl rfl rfl (by decide +kernel) ⟨Nat.le_of_ble_eq_true rfl, Nat.le_of_ble_eq_true rfl⟩) ⟨fun a U g mk q => by obtain ⟨q0, q1, qP, qK, qN, qD⟩ := q; exact ⟨q0, q1, qP, va_K.moved (u := U) (U := U.calling g mk a) (Vm.Alike.refl U.vm) qK, qN.calling, qD⟩, va_recv hK hP (ci := 1) (q0 := 7) rfl rfl, fun U hU hW => ⟨rfl, by rw [hU], by rw [hU]; exact hPc, va_K.moved hW.alike hK, NN.warm hW hN, hDc.weaken (fun _ _ _ _ => trivial)⟩⟩ rfl rfl hl.1 rfl (lv_room (Nat.le_of_ble_eq_true rfl)) d_Maker_writeRecord_130 ⟨hkc, hks⟩) hS (fun q _ h => hFc q h) hFc (fun u t H1 locs ht hvm hp_r17 hB hz1 hk1 hS => ?_)
          obtain ⟨g_18, rfl⟩ : ∃ z, z = u := ⟨_, rfl⟩
          obtain ⟨hP1, hD1⟩ := hB
          rw [ht] at hP1
          obtain ⟨hP, hD⟩ := va_join (wr := [(m0, .inr (4, [.ref tr, .ref im, .ref fi, .ref se, .ref u0, .ref id, .ref ct, .int ra, .int ru, .int wg])), (l0, .inr (3, [.int ln, .int lds, .int ltb, .ref lo, .ref lp, .ref lt, .ref lb, .ref le, .int lc, .int ld])), (lb, .inl (cI, 40, .inl fb)), (le, .inl (cI, 40, .inl fe)), (ct, .inl (cI, 40, .inl cc)), (id, .inr (1, [.ref jq, .int il])), (jq, .inl (cB, 60, .inl jf))]) (w1 := [(im, .inr (1, [.ref iq, .int L])), (iq, .inl (cB, n, .inl g_18))]) hP hD [7, 8] [0, 1, 2, 3, 4, 5, 6] rfl rfl (by decide +kernel) (by decide +kernel) hk1 hFc hP1 hD1
          clear hPc hDc hFc hP1 hD1 hk1 hz1 hkc hks
          generalize H1 = H at hP hS ⊢
          have hP : va_P D CL [(m0, .inr (4, [.ref tr, .ref im, .ref fi, .ref se, .ref u0, .ref id, .ref ct, .int ra, .int ru, .int wg])), (l0, .inr (3, [.int ln, .int lds, .int ltb, .ref lo, .ref lp, .ref lt, .ref lb, .ref le, .int lc, .int ld])), (lb, .inl (cI, 40, .inl fb)), (le, .inl (cI, 40, .inl fe)), (ct, .inl (cI, 40, .inl cc)), (id, .inr (1, [.ref jq, .int il])), (jq, .inl (cB, 60, .inl jf)), (im, .inr (1, [.ref iq, .int L])), (iq, .inl (cB, n, .inl g_18))] H := hP
          have hD : va_D A [(m0, .inr (4, [.ref tr, .ref im, .ref fi, .ref se, .ref u0, .ref id, .ref ct, .int ra, .int ru, .int wg])), (l0, .inr (3, [.int ln, .int lds, .int ltb, .ref lo, .ref lp, .ref lt, .ref lb, .ref le, .int lc, .int ld])), (lb, .inl (cI, 40, .inl fb)), (le, .inl (cI, 40, .inl fe)), (ct, .inl (cI, 40, .inl cc)), (id, .inr (1, [.ref jq, .int il])), (jq, .inl (cB, 60, .inl jf)), (im, .inr (1, [.ref iq, .int L])), (iq, .inl (cB, n, .inl g_18))] := hD
          try dsimp only at hp_r17
          have hw_19 := hp_r17
          refine lv_aload_n hx hb d_Maker_writeRecord_133 rfl (lv_at hl 0 rfl) ?_
          refine va_get (D := D) (ci := 4) (v := .ref im) (C := "DiscMaker$Maker") (T := F_Maker) (N := 10) hx hb ht9 in_Maker hown hK hP 0 rfl rfl 1 (by decide) (ht9 _ k348) (fun _ h9 => h9) rfl d_Maker_writeRecord_134 ?_
          refine lv_iload_n hx hb d_Maker_writeRecord_137 rfl (lv_at hl 3 rfl) ?_
          refine lv_bipush (v := 28) hx hb d_Maker_writeRecord_138 (by decide) ?_
          refine lv_iadd hx hb d_Maker_writeRecord_140 ?_
          refine lv_topi (fun v20 e_v20 => ?_)
          have t_v20 : v20.toInt = x.toInt + 28 := by rw [e_v20]; exact i_add rfl (by decide) (by omega) (by omega)
          refine lv_iconst (v := 1) hx hb d_Maker_writeRecord_141 (by decide) ?_
          refine lv_iconst (v := 2) hx hb d_Maker_writeRecord_142 (by decide) ?_
          have hPc := hP.sub (ws' := [(im, .inr (1, [.ref iq, .int L])), (iq, .inl (cB, n, .inl g_18))]) [7, 8] rfl
          have hDc := hD.sub (ws' := [(im, .inr (1, [.ref iq, .int L])), (iq, .inl (cB, n, .inl g_18))]) [7, 8] (by decide +kernel) rfl
          have hFc := va_free (wc := [(im, .inr (1, [.ref iq, .int L])), (iq, .inl (cB, n, .inl g_18))]) hD hS hA [7, 8] rfl
          have hkc : 0 ≤ 0 := by decide
          have hks : 0 ≤ 0 := by decide
          refine va_callv (va_runV (C := "DiscMaker$Bytes") (As := [.int v20, .int 1, .int 2]) (rest := []) ⟨hx, hb, hml, hown, hts⟩ (c3_putBoth2F l D cB cI cJ cZ cN cF H.size im iq n L g_18 v20 1 (by (try dsimp only); first | assumption | omega | trivial) (by (try dsimp only); first | assumption | omega | trivial) (by (try dsimp only); first | assumption | omega | trivial)) (cwV 3 hts (lg_goodV k1056 k1023 k1024 k119 kc_Bytes_putBoth) rfl rfl rfl (by decide +kernel) ⟨Nat.le_of_ble_eq_true rfl, Nat.le_of_ble_eq_true rfl⟩) ⟨fun a U g mk q => by obtain ⟨q0, q1, qP, qK, qN, qD⟩ := q; exact ⟨q0, q1, qP, va_K.moved (u := U) (U := U.calling g mk a) (Vm.Alike.refl U.vm) qK, qN.calling, qD⟩, va_recv hK hP (ci := 1) (q0 := 7) rfl rfl, fun U hU hW => ⟨rfl, by rw [hU], by rw [hU]; exact hPc, va_K.moved hW.alike hK, NN.warm hW hN, hDc.weaken (fun _ _ _ _ => trivial)⟩⟩ rfl rfl hl.1 rfl (lv_room (Nat.le_of_ble_eq_true rfl)) d_Maker_writeRecord_143 ⟨hkc, hks⟩) hS (fun q _ h => hFc q h) hFc (fun u t H1 locs ht hvm hp_r21 hB hz1 hk1 hS => ?_)
          obtain ⟨g_22, rfl⟩ : ∃ z, z = u := ⟨_, rfl⟩
          obtain ⟨hP1, hD1⟩ := hB
          rw [ht] at hP1
          obtain ⟨hP, hD⟩ := va_join (wr := [(m0, .inr (4, [.ref tr, .ref im, .ref fi, .ref se, .ref u0, .ref id, .ref ct, .int ra, .int ru, .int wg])), (l0, .inr (3, [.int ln, .int lds, .int ltb, .ref lo, .ref lp, .ref lt, .ref lb, .ref le, .int lc, .int ld])), (lb, .inl (cI, 40, .inl fb)), (le, .inl (cI, 40, .inl fe)), (ct, .inl (cI, 40, .inl cc)), (id, .inr (1, [.ref jq, .int il])), (jq, .inl (cB, 60, .inl jf))]) (w1 := [(im, .inr (1, [.ref iq, .int L])), (iq, .inl (cB, n, .inl g_22))]) hP hD [7, 8] [0, 1, 2, 3, 4, 5, 6] rfl rfl (by decide +kernel) (by decide +kernel) hk1 hFc hP1 hD1
          clear hPc hDc hFc hP1 hD1 hk1 hz1 hkc hks
          generalize H1 = H at hP hS ⊢
          have hP : va_P D CL [(m0, .inr (4, [.ref tr, .ref im, .ref fi, .ref se, .ref u0, .ref id, .ref ct, .int ra, .int ru, .int wg])), (l0, .inr (3, [.int ln, .int lds, .int ltb, .ref lo, .ref lp, .ref lt, .ref lb, .ref le, .int lc, .int ld])), (lb, .inl (cI, 40, .inl fb)), (le, .inl (cI, 40, .inl fe)), (ct, .inl (cI, 40, .inl cc)), (id, .inr (1, [.ref jq, .int il])), (jq, .inl (cB, 60, .inl jf)), (im, .inr (1, [.ref iq, .int L])), (iq, .inl (cB, n, .inl g_22))] H := hP
          have hD : va_D A [(m0, .inr (4, [.ref tr, .ref im, .ref fi, .ref se, .ref u0, .ref id, .ref ct, .int ra, .int ru, .int wg])), (l0, .inr (3, [.int ln, .int lds, .int ltb, .ref lo, .ref lp, .ref lt, .ref lb, .ref le, .int lc, .int ld])), (lb, .inl (cI, 40, .inl fb)), (le, .inl (cI, 40, .inl fe)), (ct, .inl (cI, 40, .inl cc)), (id, .inr (1, [.ref jq, .int il])), (jq, .inl (cB, 60, .inl jf)), (im, .inr (1, [.ref iq, .int L])), (iq, .inl (cB, n, .inl g_22))] := hD
          try dsimp only at hp_r21
          have hw_23 := hp_r21
          try rw [L_1] at hw_23
          refine lv_aload_n hx hb d_Maker_writeRecord_146 rfl (lv_at hl 0 rfl) ?_
          refine va_get (D := D) (ci := 4) (v := .ref im) (C := "DiscMaker$Maker") (T := F_Maker) (N := 10) hx hb ht9 in_Maker hown hK hP 0 rfl rfl 1 (by decide) (ht9 _ k348) (fun _ h9 => h9) rfl d_Maker_writeRecord_147 ?_
          refine lv_iload_n hx hb d_Maker_writeRecord_150 rfl (lv_at hl 3 rfl) ?_
          refine lv_bipush (v := 32) hx hb d_Maker_writeRecord_151 (by decide) ?_
          refine lv_iadd hx hb d_Maker_writeRecord_153 ?_
          refine lv_topi (fun v24 e_v24 => ?_)
          have t_v24 : v24.toInt = x.toInt + 32 := by rw [e_v24]; exact i_add rfl (by decide) (by omega) (by omega)
          refine lv_aload_n hx hb d_Maker_writeRecord_154 rfl (lv_at hl 0 rfl) ?_
          refine va_get (D := D) (ci := 4) (v := .ref id) (C := "DiscMaker$Maker") (T := F_Maker) (N := 10) hx hb ht9 in_Maker hown hK hP 0 rfl rfl 5 (by decide) (ht9 _ k352) (fun _ h9 => h9) rfl d_Maker_writeRecord_155 ?_
          refine va_getN (D := D) (ci := 1) (v := .int il) (C := "DiscMaker$Bytes") (T := F_Bytes) (N := 2) hx hb ht9 in_Bytes hown hK hP 5 rfl rfl 1 (by decide) (va_Nw.use rfl (hN _ k257)) (fun _ h9 => h9) rfl d_Maker_writeRecord_158 ?_
          have hPc := hP.sub (ws' := [(im, .inr (1, [.ref iq, .int L])), (iq, .inl (cB, n, .inl g_22))]) [7, 8] rfl
          have hDc := hD.sub (ws' := [(im, .inr (1, [.ref iq, .int L])), (iq, .inl (cB, n, .inl g_22))]) [7, 8] (by decide +kernel) rfl
          have hFc := va_free (wc := [(im, .inr (1, [.ref iq, .int L])), (iq, .inl (cB, n, .inl g_22))]) hD hS hA [7, 8] rfl
          have hkc : 0 ≤ 0 := by decide
          have hks : 0 ≤ 0 := by decide
          refine va_callv (va_runV (C := "DiscMaker$Bytes") (As := [.int v24, .int il]) (rest := []) ⟨hx, hb, hml, hown, hts⟩ (c3_putF l D cB cI cJ cZ cN cF H.size im iq n L g_22 v24 il (by (try dsimp only); first | assumption | omega | trivial) (by (try dsimp only); first | assumption | omega | trivial) (by (try dsimp only); first | assumption | omega | trivial)) (cwV 2 hts (lg_goodV k978 k912 k913 k119 kc_Bytes_put) rfl rfl rfl (by decide +kernel) ⟨Nat.le_of_ble_eq_true rfl, Nat.le_of_ble_eq_true rfl⟩) ⟨fun a U g mk q => by obtain ⟨q0, q1, qP, qK, qN, qD⟩ := q; exact ⟨q0, q1, qP, va_K.moved (u := U) (U := U.calling g mk a) (Vm.Alike.refl U.vm) qK, qN.calling, qD⟩, va_recv hK hP (ci := 1) (q0 := 7) rfl rfl, fun U hU hW => ⟨rfl, by rw [hU], by rw [hU]; exact hPc, va_K.moved hW.alike hK, NN.warm hW hN, hDc.weaken (fun _ _ _ _ => trivial)⟩⟩ rfl rfl hl.1 rfl (lv_room (Nat.le_of_ble_eq_true rfl)) d_Maker_writeRecord_161 ⟨hkc, hks⟩) hS (fun q _ h => hFc q h) hFc (fun u t H1 locs ht hvm hp_r25 hB hz1 hk1 hS => ?_)
          obtain ⟨g_26, rfl⟩ : ∃ z, z = u := ⟨_, rfl⟩
          obtain ⟨hP1, hD1⟩ := hB
          rw [ht] at hP1
          obtain ⟨hP, hD⟩ := va_join (wr := [(m0, .inr (4, [.ref tr, .ref im, .ref fi, .ref se, .ref u0, .ref id, .ref ct, .int ra, .int ru, .int wg])), (l0, .inr (3, [.int ln, .int lds, .int ltb, .ref lo, .ref lp, .ref lt, .ref lb, .ref le, .int lc, .int ld])), (lb, .inl (cI, 40, .inl fb)), (le, .inl (cI, 40, .inl fe)), (ct, .inl (cI, 40, .inl cc)), (id, .inr (1, [.ref jq, .int il])), (jq, .inl (cB, 60, .inl jf))]) (w1 := [(im, .inr (1, [.ref iq, .int L])), (iq, .inl (cB, n, .inl g_26))]) hP hD [7, 8] [0, 1, 2, 3, 4, 5, 6] rfl rfl (by decide +kernel) (by decide +kernel) hk1 hFc hP1 hD1
          clear hPc hDc hFc hP1 hD1 hk1 hz1 hkc hks
          generalize H1 = H at hP hS ⊢
          have hP : va_P D CL [(m0, .inr (4, [.ref tr, .ref im, .ref fi, .ref se, .ref u0, .ref id, .ref ct, .int ra, .int ru, .int wg])), (l0, .inr (3, [.int ln, .int lds, .int ltb, .ref lo, .ref lp, .ref lt, .ref lb, .ref le, .int lc, .int ld])), (lb, .inl (cI, 40, .inl fb)), (le, .inl (cI, 40, .inl fe)), (ct, .inl (cI, 40, .inl cc)), (id, .inr (1, [.ref jq, .int il])), (jq, .inl (cB, 60, .inl jf)), (im, .inr (1, [.ref iq, .int L])), (iq, .inl (cB, n, .inl g_26))] H := hP
          have hD : va_D A [(m0, .inr (4, [.ref tr, .ref im, .ref fi, .ref se, .ref u0, .ref id, .ref ct, .int ra, .int ru, .int wg])), (l0, .inr (3, [.int ln, .int lds, .int ltb, .ref lo, .ref lp, .ref lt, .ref lb, .ref le, .int lc, .int ld])), (lb, .inl (cI, 40, .inl fb)), (le, .inl (cI, 40, .inl fe)), (ct, .inl (cI, 40, .inl cc)), (id, .inr (1, [.ref jq, .int il])), (jq, .inl (cB, 60, .inl jf)), (im, .inr (1, [.ref iq, .int L])), (iq, .inl (cB, n, .inl g_26))] := hD
          try dsimp only at hp_r25
          have hw_27 := hp_r25
          refine lv_aload_n hx hb d_Maker_writeRecord_164 rfl (lv_at hl 0 rfl) ?_
          refine va_get (D := D) (ci := 4) (v := .ref id) (C := "DiscMaker$Maker") (T := F_Maker) (N := 10) hx hb ht9 in_Maker hown hK hP 0 rfl rfl 5 (by decide) (ht9 _ k352) (fun _ h9 => h9) rfl d_Maker_writeRecord_165 ?_
          refine lv_aload_n hx hb d_Maker_writeRecord_168 rfl (lv_at hl 0 rfl) ?_
          refine va_get (D := D) (ci := 4) (v := .ref im) (C := "DiscMaker$Maker") (T := F_Maker) (N := 10) hx hb ht9 in_Maker hown hK hP 0 rfl rfl 1 (by decide) (ht9 _ k348) (fun _ h9 => h9) rfl d_Maker_writeRecord_169 ?_
          refine lv_iconst (v := 0) hx hb d_Maker_writeRecord_172 (by decide) ?_
          refine lv_iload_n hx hb d_Maker_writeRecord_173 rfl (lv_at hl 3 rfl) ?_
          refine lv_bipush (v := 33) hx hb d_Maker_writeRecord_174 (by decide) ?_
          refine lv_iadd hx hb d_Maker_writeRecord_176 ?_
          refine lv_topi (fun v28 e_v28 => ?_)
          have t_v28 : v28.toInt = x.toInt + 33 := by rw [e_v28]; exact i_add rfl (by decide) (by omega) (by omega)
          refine lv_aload_n hx hb d_Maker_writeRecord_177 rfl (lv_at hl 0 rfl) ?_
          refine va_get (D := D) (ci := 4) (v := .ref id) (C := "DiscMaker$Maker") (T := F_Maker) (N := 10) hx hb ht9 in_Maker hown hK hP 0 rfl rfl 5 (by decide) (ht9 _ k352) (fun _ h9 => h9) rfl d_Maker_writeRecord_178 ?_
          refine va_getN (D := D) (ci := 1) (v := .int il) (C := "DiscMaker$Bytes") (T := F_Bytes) (N := 2) hx hb ht9 in_Bytes hown hK hP 5 rfl rfl 1 (by decide) (va_Nw.use rfl (hN _ k257)) (fun _ h9 => h9) rfl d_Maker_writeRecord_181 ?_
          have hPc := hP.sub (ws' := [(id, .inr (1, [.ref jq, .int il])), (jq, .inl (cB, 60, .inl jf)), (im, .inr (1, [.ref iq, .int L])), (iq, .inl (cB, n, .inl g_26))]) [5, 6, 7, 8] rfl
          have hDc := hD.sub (ws' := [(id, .inr (1, [.ref jq, .int il])), (jq, .inl (cB, 60, .inl jf)), (im, .inr (1, [.ref iq, .int L])), (iq, .inl (cB, n, .inl g_26))]) [5, 6, 7, 8] (by decide +kernel) rfl
          have hFc := va_free (wc := [(id, .inr (1, [.ref jq, .int il])), (jq, .inl (cB, 60, .inl jf)), (im, .inr (1, [.ref iq, .int L])), (iq, .inl (cB, n, .inl g_26))]) hD hS hA [5, 6, 7, 8] rfl
          have hkc : 0 ≤ 0 := by decide
          have hks : 0 ≤ 0 := by decide
          refine va_callv (va_runV (C := "DiscMaker$Bytes") (As := [.ref im, .int 0, .int v28, .int il]) (rest := []) ⟨hx, hb, hml, hown, hts⟩ (c3_copyToF l D cB cI cJ cZ cN cF H.size id jq 60 il jf im iq n L g_26 0 v28 il (by (try dsimp only); first | assumption | omega | trivial) (by (try dsimp only); first | assumption | omega | trivial) (by (try dsimp only); first | assumption | omega | trivial) (by (try dsimp only); first | assumption | omega | trivial) (by (try dsimp only); first | assumption | omega | trivial) (by (try dsimp only); first | assumption | omega | trivial)) (cwV 4 hts (lg_goodV k1060 k1061 k1062 k119 kc_Bytes_copyTo) rfl rfl rfl (by decide +kernel) ⟨Nat.le_of_ble_eq_true rfl, Nat.le_of_ble_eq_true rfl⟩) ⟨fun a U g mk q => by obtain ⟨q0, q1, qP, qK, qN, qD⟩ := q; exact ⟨q0, q1, qP, va_K.moved (u := U) (U := U.calling g mk a) (Vm.Alike.refl U.vm) qK, qN.calling, qD⟩, va_recv hK hP (ci := 1) (q0 := 5) rfl rfl, fun U hU hW => ⟨rfl, by rw [hU], by rw [hU]; exact hPc, va_K.moved hW.alike hK, NN.warm hW hN, hDc.weaken (fun _ _ _ _ => trivial)⟩⟩ rfl rfl hl.1 rfl (lv_room (Nat.le_of_ble_eq_true rfl)) d_Maker_writeRecord_184 ⟨hkc, hks⟩) hS (fun q _ h => hFc q h) hFc (fun u t H1 locs ht hvm hp_r29 hB hz1 hk1 hS => ?_)
          obtain ⟨g_30, rfl⟩ : ∃ z, z = u := ⟨_, rfl⟩
          obtain ⟨hP1, hD1⟩ := hB
          rw [ht] at hP1
          obtain ⟨hP, hD⟩ := va_join (wr := [(m0, .inr (4, [.ref tr, .ref im, .ref fi, .ref se, .ref u0, .ref id, .ref ct, .int ra, .int ru, .int wg])), (l0, .inr (3, [.int ln, .int lds, .int ltb, .ref lo, .ref lp, .ref lt, .ref lb, .ref le, .int lc, .int ld])), (lb, .inl (cI, 40, .inl fb)), (le, .inl (cI, 40, .inl fe)), (ct, .inl (cI, 40, .inl cc))]) (w1 := [(id, .inr (1, [.ref jq, .int il])), (jq, .inl (cB, 60, .inl jf)), (im, .inr (1, [.ref iq, .int L])), (iq, .inl (cB, n, .inl g_30))]) hP hD [5, 6, 7, 8] [0, 1, 2, 3, 4] rfl rfl (by decide +kernel) (by decide +kernel) hk1 hFc hP1 hD1
          clear hPc hDc hFc hP1 hD1 hk1 hz1 hkc hks
          generalize H1 = H at hP hS ⊢
          have hP : va_P D CL [(m0, .inr (4, [.ref tr, .ref im, .ref fi, .ref se, .ref u0, .ref id, .ref ct, .int ra, .int ru, .int wg])), (l0, .inr (3, [.int ln, .int lds, .int ltb, .ref lo, .ref lp, .ref lt, .ref lb, .ref le, .int lc, .int ld])), (lb, .inl (cI, 40, .inl fb)), (le, .inl (cI, 40, .inl fe)), (ct, .inl (cI, 40, .inl cc)), (id, .inr (1, [.ref jq, .int il])), (jq, .inl (cB, 60, .inl jf)), (im, .inr (1, [.ref iq, .int L])), (iq, .inl (cB, n, .inl g_30))] H := hP
          have hD : va_D A [(m0, .inr (4, [.ref tr, .ref im, .ref fi, .ref se, .ref u0, .ref id, .ref ct, .int ra, .int ru, .int wg])), (l0, .inr (3, [.int ln, .int lds, .int ltb, .ref lo, .ref lp, .ref lt, .ref lb, .ref le, .int lc, .int ld])), (lb, .inl (cI, 40, .inl fb)), (le, .inl (cI, 40, .inl fe)), (ct, .inl (cI, 40, .inl cc)), (id, .inr (1, [.ref jq, .int il])), (jq, .inl (cB, 60, .inl jf)), (im, .inr (1, [.ref iq, .int L])), (iq, .inl (cB, n, .inl g_30))] := hD
          try dsimp only at hp_r29
          have hw_31 := hp_r29
          have hc9 : tbL (fun i => imC jf ((0 : Int32).toNatClampNeg + i)) il.toInt.toNat = J9 := (tbL_congr (fun i _ => by rw [show (0 : Int32).toNatClampNeg = 0 by decide, Nat.zero_add])).trans hJ.tb
          have hcw := hw_31
          rw [hc9] at hcw
          have hjl := hJ.1
          have w1 := hw_7
          rw [e6] at w1
          have w2 := hw_11
          rw [e7] at w2
          have hP9 := hP.sub (ws' := [(m0, .inr (4, [.ref tr, .ref im, .ref fi, .ref se, .ref u0, .ref id, .ref ct, .int ra, .int ru, .int wg])), (l0, .inr (3, [.int ln, .int lds, .int ltb, .ref lo, .ref lp, .ref lt, .ref lb, .ref le, .int lc, .int ld])), (lb, .inl (cI, 40, .inl fb)), (le, .inl (cI, 40, .inl fe)), (ct, .inl (cI, 40, .inl cc)), (id, .inr (1, [.ref jq, .int il])), (jq, .inl (cB, 60, .inl jf)), (im, .inr (1, [.ref iq, .int L])), (iq, .inl (cB, n, .inl g_30))]) [0, 1, 2, 3, 4, 5, 6, 7, 8] rfl
          have hD9 := hD.sub (ws' := [(m0, .inr (4, [.ref tr, .ref im, .ref fi, .ref se, .ref u0, .ref id, .ref ct, .int ra, .int ru, .int wg])), (l0, .inr (3, [.int ln, .int lds, .int ltb, .ref lo, .ref lp, .ref lt, .ref lb, .ref le, .int lc, .int ld])), (lb, .inl (cI, 40, .inl fb)), (le, .inl (cI, 40, .inl fe)), (ct, .inl (cI, 40, .inl cc)), (id, .inr (1, [.ref jq, .int il])), (jq, .inl (cB, 60, .inl jf)), (im, .inr (1, [.ref iq, .int L])), (iq, .inl (cB, n, .inl g_30))]) [0, 1, 2, 3, 4, 5, 6, 7, 8] (by decide +kernel) rfl
          exact W.vret hx hb hr (fun t ht hW => ⟨⟨g_30, rfl, (rh_of hz hw_3 w1 w2 hw_15 hw_19 hw_23 hw_27 hcw (by omega) (by omega) (by omega) (by omega) (by omega) (by omega) (by omega) (by omega) rfl hgd (by rw [e8]; by_cases h8 : so.toInt = 0 <;> first | (rw [if_pos h8]; decide) | (rw [if_neg h8]; decide) | (rw [if_pos h8]) | (rw [if_neg h8])) (by omega) (by omega)), by rw [ht]; exact hP9, hD9⟩, hS.F ht⟩) hS.2.2 d_Maker_writeRecord_187
        · skip
          intro kk130
          refine lv_iload hx hb d_Maker_writeRecord_120 (lv_at hl 5 rfl) ?_
          refine lv_if_eq (tgt := 129) hx hb d_Maker_writeRecord_122 (by decide) (fun h_9 => ?_) (fun h_9 => ?_)
          · skip
            have g122_65 : di.toInt = 0 := (i_eq rfl (by decide)).mp h_9
            refine lv_iconst (v := 0) hx hb d_Maker_writeRecord_129 (by decide) ?_
            have hP := hP.sub (ws' := [(m0, .inr (4, [.ref tr, .ref im, .ref fi, .ref se, .ref u0, .ref id, .ref ct, .int ra, .int ru, .int wg])), (l0, .inr (3, [.int ln, .int lds, .int ltb, .ref lo, .ref lp, .ref lt, .ref lb, .ref le, .int lc, .int ld])), (lb, .inl (cI, 40, .inl fb)), (le, .inl (cI, 40, .inl fe)), (ct, .inl (cI, 40, .inl cc)), (id, .inr (1, [.ref jq, .int il])), (jq, .inl (cB, 60, .inl jf)), (im, .inr (1, [.ref iq, .int L])), (iq, .inl (cB, n, .inl g_14))]) [0, 1, 2, 3, 4, 5, 6, 7, 8] rfl
            have hD := hD.sub (ws' := [(m0, .inr (4, [.ref tr, .ref im, .ref fi, .ref se, .ref u0, .ref id, .ref ct, .int ra, .int ru, .int wg])), (l0, .inr (3, [.int ln, .int lds, .int ltb, .ref lo, .ref lp, .ref lt, .ref lb, .ref le, .int lc, .int ld])), (lb, .inl (cI, 40, .inl fb)), (le, .inl (cI, 40, .inl fe)), (ct, .inl (cI, 40, .inl cc)), (id, .inr (1, [.ref jq, .int il])), (jq, .inl (cB, 60, .inl jf)), (im, .inr (1, [.ref iq, .int L])), (iq, .inl (cB, n, .inl g_14))]) [0, 1, 2, 3, 4, 5, 6, 7, 8] (by decide +kernel) rfl
            have hl := lv_sub hl [0, 1, 2, 3, 4, 5] rfl
            exact kk130 _ 0 _ _ _ rfl ((by first | (rw [if_pos (by omega)]; decide) | (rw [if_neg (by omega)]; decide))) hP hD hS hl
          · skip
            have g122_65 : ¬ di.toInt = 0 := fun h8 => h_9 ((i_eq rfl (by decide)).mpr h8)
            refine lv_iconst (v := 2) hx hb d_Maker_writeRecord_125 (by decide) ?_
            refine lv_goto (tgt := 130) hx hb d_Maker_writeRecord_126 (by decide) ?_
            have hP := hP.sub (ws' := [(m0, .inr (4, [.ref tr, .ref im, .ref fi, .ref se, .ref u0, .ref id, .ref ct, .int ra, .int ru, .int wg])), (l0, .inr (3, [.int ln, .int lds, .int ltb, .ref lo, .ref lp, .ref lt, .ref lb, .ref le, .int lc, .int ld])), (lb, .inl (cI, 40, .inl fb)), (le, .inl (cI, 40, .inl fe)), (ct, .inl (cI, 40, .inl cc)), (id, .inr (1, [.ref jq, .int il])), (jq, .inl (cB, 60, .inl jf)), (im, .inr (1, [.ref iq, .int L])), (iq, .inl (cB, n, .inl g_14))]) [0, 1, 2, 3, 4, 5, 6, 7, 8] rfl
            have hD := hD.sub (ws' := [(m0, .inr (4, [.ref tr, .ref im, .ref fi, .ref se, .ref u0, .ref id, .ref ct, .int ra, .int ru, .int wg])), (l0, .inr (3, [.int ln, .int lds, .int ltb, .ref lo, .ref lp, .ref lt, .ref lb, .ref le, .int lc, .int ld])), (lb, .inl (cI, 40, .inl fb)), (le, .inl (cI, 40, .inl fe)), (ct, .inl (cI, 40, .inl cc)), (id, .inr (1, [.ref jq, .int il])), (jq, .inl (cB, 60, .inl jf)), (im, .inr (1, [.ref iq, .int L])), (iq, .inl (cB, n, .inl g_14))]) [0, 1, 2, 3, 4, 5, 6, 7, 8] (by decide +kernel) rfl
            have hl := lv_sub hl [0, 1, 2, 3, 4, 5] rfl
            exact kk130 _ 2 _ _ _ rfl ((by first | (rw [if_pos (by omega)]; decide) | (rw [if_neg (by omega)]; decide))) hP hD hS hl
      · skip
        intro kk94
        refine lv_iload hx hb d_Maker_writeRecord_69 (lv_at hl 5 rfl) ?_
        refine lv_if_eq (tgt := 90) hx hb d_Maker_writeRecord_71 (by decide) (fun h_9 => ?_) (fun h_9 => ?_)
        · skip
          have g71_72 : di.toInt = 0 := (i_eq rfl (by decide)).mp h_9
          refine lv_aload_n hx hb d_Maker_writeRecord_90 rfl (lv_at hl 2 rfl) ?_
          have hPR := RO_at hZr hS
          refine va_getN (D := D) (ci := 5) (v := .int si) (C := "DiscMaker$Node") (T := F_Node) (N := 12) hx hb ht9 in_Node hown hK hPR 0 rfl rfl 10 (by decide) (va_Nw.use rfl (hN _ k207)) (fun _ h9 => h9) rfl d_Maker_writeRecord_91 ?_
          have hP := hP.sub (ws' := [(m0, .inr (4, [.ref tr, .ref im, .ref fi, .ref se, .ref u0, .ref id, .ref ct, .int ra, .int ru, .int wg])), (l0, .inr (3, [.int ln, .int lds, .int ltb, .ref lo, .ref lp, .ref lt, .ref lb, .ref le, .int lc, .int ld])), (lb, .inl (cI, 40, .inl fb)), (le, .inl (cI, 40, .inl fe)), (ct, .inl (cI, 40, .inl cc)), (id, .inr (1, [.ref jq, .int il])), (jq, .inl (cB, 60, .inl jf)), (im, .inr (1, [.ref iq, .int L])), (iq, .inl (cB, n, .inl g_6))]) [0, 1, 2, 3, 4, 5, 6, 7, 8] rfl
          have hD := hD.sub (ws' := [(m0, .inr (4, [.ref tr, .ref im, .ref fi, .ref se, .ref u0, .ref id, .ref ct, .int ra, .int ru, .int wg])), (l0, .inr (3, [.int ln, .int lds, .int ltb, .ref lo, .ref lp, .ref lt, .ref lb, .ref le, .int lc, .int ld])), (lb, .inl (cI, 40, .inl fb)), (le, .inl (cI, 40, .inl fe)), (ct, .inl (cI, 40, .inl cc)), (id, .inr (1, [.ref jq, .int il])), (jq, .inl (cB, 60, .inl jf)), (im, .inr (1, [.ref iq, .int L])), (iq, .inl (cB, n, .inl g_6))]) [0, 1, 2, 3, 4, 5, 6, 7, 8] (by decide +kernel) rfl
          have hl := lv_sub hl [0, 1, 2, 3, 4, 5] rfl
          exact kk94 _ si _ _ _ rfl ((by have h7 := hsz; rw [if_neg (by omega)] at h7; exact h7)) hP hD hS hl
        · skip
          have g71_72 : ¬ di.toInt = 0 := fun h8 => h_9 ((i_eq rfl (by decide)).mpr h8)
          refine lv_aload_n hx hb d_Maker_writeRecord_74 rfl (lv_at hl 1 rfl) ?_
          refine va_getN (D := D) (ci := 3) (v := .ref le) (C := "DiscMaker$Layout") (T := F_Layout) (N := 10) hx hb ht9 in_Layout hown hK hP 1 rfl rfl 7 (by decide) (va_Nw.use rfl (hN _ k295)) (fun _ h9 => h9) rfl d_Maker_writeRecord_75 ?_
          refine lv_aload_n hx hb d_Maker_writeRecord_78 rfl (lv_at hl 2 rfl) ?_
          have hPR := RO_at hZr hS
          refine va_getN (D := D) (ci := 5) (v := .int nu) (C := "DiscMaker$Node") (T := F_Node) (N := 12) hx hb ht9 in_Node hown hK hPR 0 rfl rfl 4 (by decide) (va_Nw.use rfl (hN _ k195)) (fun _ h9 => h9) rfl d_Maker_writeRecord_79 ?_
          refine va_iald hx hb hK hP 3 1 rfl rfl (vp_in_iff.mpr ⟨by omega, by omega⟩) d_Maker_writeRecord_82 ?_
          refine lv_topi (fun v32 e_v32 => ?_)
          have qzv32 : 0 ≤ v32.toInt ∧ v32.toInt ≤ 2000 ∧ v32.toInt * 2048 = z9 := by have h7 := hsz; rw [if_pos (by omega)] at h7; rw [e_v32]; exact ⟨h7.2.1, h7.2.2, h7.1⟩
          refine lv_sipush (v := 2048) hx hb d_Maker_writeRecord_83 (by decide) ?_
          refine lv_imul hx hb d_Maker_writeRecord_86 ?_
          refine lv_topi (fun v33 e_v33 => ?_)
          have t_v33 : v33.toInt = v32.toInt * 2048 := by rw [e_v33]; exact i_mul rfl (by decide) (by omega) (by omega)
          refine lv_goto (tgt := 94) hx hb d_Maker_writeRecord_87 (by decide) ?_
          have hP := hP.sub (ws' := [(m0, .inr (4, [.ref tr, .ref im, .ref fi, .ref se, .ref u0, .ref id, .ref ct, .int ra, .int ru, .int wg])), (l0, .inr (3, [.int ln, .int lds, .int ltb, .ref lo, .ref lp, .ref lt, .ref lb, .ref le, .int lc, .int ld])), (lb, .inl (cI, 40, .inl fb)), (le, .inl (cI, 40, .inl fe)), (ct, .inl (cI, 40, .inl cc)), (id, .inr (1, [.ref jq, .int il])), (jq, .inl (cB, 60, .inl jf)), (im, .inr (1, [.ref iq, .int L])), (iq, .inl (cB, n, .inl g_6))]) [0, 1, 2, 3, 4, 5, 6, 7, 8] rfl
          have hD := hD.sub (ws' := [(m0, .inr (4, [.ref tr, .ref im, .ref fi, .ref se, .ref u0, .ref id, .ref ct, .int ra, .int ru, .int wg])), (l0, .inr (3, [.int ln, .int lds, .int ltb, .ref lo, .ref lp, .ref lt, .ref lb, .ref le, .int lc, .int ld])), (lb, .inl (cI, 40, .inl fb)), (le, .inl (cI, 40, .inl fe)), (ct, .inl (cI, 40, .inl cc)), (id, .inr (1, [.ref jq, .int il])), (jq, .inl (cB, 60, .inl jf)), (im, .inr (1, [.ref iq, .int L])), (iq, .inl (cB, n, .inl g_6))]) [0, 1, 2, 3, 4, 5, 6, 7, 8] (by decide +kernel) rfl
          have hl := lv_sub hl [0, 1, 2, 3, 4, 5] rfl
          exact kk94 _ v33 _ _ _ rfl ((by have h7 := hsz; rw [if_pos (by omega)] at h7; have h6 := h7.1; omega)) hP hD hS hl
    · skip
      intro kk57
      refine lv_iload hx hb d_Maker_writeRecord_31 (lv_at hl 0 rfl) ?_
      refine lv_if_eq (tgt := 48) hx hb d_Maker_writeRecord_33 (by decide) (fun h_9 => ?_) (fun h_9 => ?_)
      · skip
        have g33_86 : di.toInt = 0 := (i_eq rfl (by decide)).mp h_9
        refine lv_aload_n hx hb d_Maker_writeRecord_48 rfl (lv_at hl 1 rfl) ?_
        refine va_get (D := D) (ci := 4) (v := .ref ct) (C := "DiscMaker$Maker") (T := F_Maker) (N := 10) hx hb ht9 in_Maker hown hK hP 0 rfl rfl 6 (by decide) (ht9 _ k353) (fun _ h9 => h9) rfl d_Maker_writeRecord_49 ?_
        refine lv_aload_n hx hb d_Maker_writeRecord_52 rfl (lv_at hl 3 rfl) ?_
        have hPR := RO_at hZr hS
        refine va_getN (D := D) (ci := 5) (v := .int nu) (C := "DiscMaker$Node") (T := F_Node) (N := 12) hx hb ht9 in_Node hown hK hPR 0 rfl rfl 4 (by decide) (va_Nw.use rfl (hN _ k195)) (fun _ h9 => h9) rfl d_Maker_writeRecord_53 ?_
        refine va_iald hx hb hK hP 4 1 rfl rfl (vp_in_iff.mpr ⟨by omega, by omega⟩) d_Maker_writeRecord_56 ?_
        refine lv_topi (fun v34 e_v34 => ?_)
        have hP := hP.sub (ws' := [(m0, .inr (4, [.ref tr, .ref im, .ref fi, .ref se, .ref u0, .ref id, .ref ct, .int ra, .int ru, .int wg])), (l0, .inr (3, [.int ln, .int lds, .int ltb, .ref lo, .ref lp, .ref lt, .ref lb, .ref le, .int lc, .int ld])), (lb, .inl (cI, 40, .inl fb)), (le, .inl (cI, 40, .inl fe)), (ct, .inl (cI, 40, .inl cc)), (id, .inr (1, [.ref jq, .int il])), (jq, .inl (cB, 60, .inl jf)), (im, .inr (1, [.ref iq, .int L])), (iq, .inl (cB, n, .inl g_2))]) [0, 1, 2, 3, 4, 5, 6, 7, 8] rfl
        have hD := hD.sub (ws' := [(m0, .inr (4, [.ref tr, .ref im, .ref fi, .ref se, .ref u0, .ref id, .ref ct, .int ra, .int ru, .int wg])), (l0, .inr (3, [.int ln, .int lds, .int ltb, .ref lo, .ref lp, .ref lt, .ref lb, .ref le, .int lc, .int ld])), (lb, .inl (cI, 40, .inl fb)), (le, .inl (cI, 40, .inl fe)), (ct, .inl (cI, 40, .inl cc)), (id, .inr (1, [.ref jq, .int il])), (jq, .inl (cB, 60, .inl jf)), (im, .inr (1, [.ref iq, .int L])), (iq, .inl (cB, n, .inl g_2))]) [0, 1, 2, 3, 4, 5, 6, 7, 8] (by decide +kernel) rfl
        have hl := lv_sub hl [1, 2, 3, 4, 5, 0] rfl
        exact kk57 _ v34 _ _ _ rfl ((by have h7 := hex; first | (rw [if_pos (by omega)] at h7; rw [e_v34]; exact h7) | (rw [if_neg (by omega)] at h7; rw [e_v34]; exact h7))) hP hD hS hl
      · skip
        have g33_86 : ¬ di.toInt = 0 := fun h8 => h_9 ((i_eq rfl (by decide)).mpr h8)
        refine lv_aload_n hx hb d_Maker_writeRecord_36 rfl (lv_at hl 2 rfl) ?_
        refine va_getN (D := D) (ci := 3) (v := .ref lb) (C := "DiscMaker$Layout") (T := F_Layout) (N := 10) hx hb ht9 in_Layout hown hK hP 1 rfl rfl 6 (by decide) (va_Nw.use rfl (hN _ k293)) (fun _ h9 => h9) rfl d_Maker_writeRecord_37 ?_
        refine lv_aload_n hx hb d_Maker_writeRecord_40 rfl (lv_at hl 3 rfl) ?_
        have hPR := RO_at hZr hS
        refine va_getN (D := D) (ci := 5) (v := .int nu) (C := "DiscMaker$Node") (T := F_Node) (N := 12) hx hb ht9 in_Node hown hK hPR 0 rfl rfl 4 (by decide) (va_Nw.use rfl (hN _ k195)) (fun _ h9 => h9) rfl d_Maker_writeRecord_41 ?_
        refine va_iald hx hb hK hP 2 1 rfl rfl (vp_in_iff.mpr ⟨by omega, by omega⟩) d_Maker_writeRecord_44 ?_
        refine lv_topi (fun v35 e_v35 => ?_)
        refine lv_goto (tgt := 57) hx hb d_Maker_writeRecord_45 (by decide) ?_
        have hP := hP.sub (ws' := [(m0, .inr (4, [.ref tr, .ref im, .ref fi, .ref se, .ref u0, .ref id, .ref ct, .int ra, .int ru, .int wg])), (l0, .inr (3, [.int ln, .int lds, .int ltb, .ref lo, .ref lp, .ref lt, .ref lb, .ref le, .int lc, .int ld])), (lb, .inl (cI, 40, .inl fb)), (le, .inl (cI, 40, .inl fe)), (ct, .inl (cI, 40, .inl cc)), (id, .inr (1, [.ref jq, .int il])), (jq, .inl (cB, 60, .inl jf)), (im, .inr (1, [.ref iq, .int L])), (iq, .inl (cB, n, .inl g_2))]) [0, 1, 2, 3, 4, 5, 6, 7, 8] rfl
        have hD := hD.sub (ws' := [(m0, .inr (4, [.ref tr, .ref im, .ref fi, .ref se, .ref u0, .ref id, .ref ct, .int ra, .int ru, .int wg])), (l0, .inr (3, [.int ln, .int lds, .int ltb, .ref lo, .ref lp, .ref lt, .ref lb, .ref le, .int lc, .int ld])), (lb, .inl (cI, 40, .inl fb)), (le, .inl (cI, 40, .inl fe)), (ct, .inl (cI, 40, .inl cc)), (id, .inr (1, [.ref jq, .int il])), (jq, .inl (cB, 60, .inl jf)), (im, .inr (1, [.ref iq, .int L])), (iq, .inl (cB, n, .inl g_2))]) [0, 1, 2, 3, 4, 5, 6, 7, 8] (by decide +kernel) rfl
        have hl := lv_sub hl [1, 2, 3, 4, 5, 0] rfl
        exact kk57 _ v35 _ _ _ rfl ((by have h7 := hex; first | (rw [if_pos (by omega)] at h7; rw [e_v35]; exact h7) | (rw [if_neg (by omega)] at h7; rw [e_v35]; exact h7))) hP hD hS hl
  · skip
    intro kk12
    refine lv_aload_n hx hb d_Maker_writeRecord_0 rfl (lv_at hl 2 rfl) ?_
    have hPR := RO_at hZr hS
    refine va_getN (D := D) (ci := 5) (v := .int so) (C := "DiscMaker$Node") (T := F_Node) (N := 12) hx hb ht9 in_Node hown hK hPR 0 rfl rfl 0 (by decide) (va_Nw.use rfl (hN _ k181)) (fun _ h9 => h9) rfl d_Maker_writeRecord_1 ?_
    refine lv_if_ne (tgt := 11) hx hb d_Maker_writeRecord_4 (by decide) (fun h_9 => ?_) (fun h_9 => ?_)
    · skip
      have g4_102 : ¬ so.toInt = 0 := fun h8 => h_9 ((i_eq rfl (by decide)).mpr h8)
      refine lv_iconst (v := 0) hx hb d_Maker_writeRecord_11 (by decide) ?_
      have hP := hP.sub (ws' := [(m0, .inr (4, [.ref tr, .ref im, .ref fi, .ref se, .ref u0, .ref id, .ref ct, .int ra, .int ru, .int wg])), (l0, .inr (3, [.int ln, .int lds, .int ltb, .ref lo, .ref lp, .ref lt, .ref lb, .ref le, .int lc, .int ld])), (lb, .inl (cI, 40, .inl fb)), (le, .inl (cI, 40, .inl fe)), (ct, .inl (cI, 40, .inl cc)), (id, .inr (1, [.ref jq, .int il])), (jq, .inl (cB, 60, .inl jf)), (im, .inr (1, [.ref iq, .int L])), (iq, .inl (cB, n, .inl f))]) [0, 1, 2, 3, 4, 5, 6, 7, 8] rfl
      have hD := hD.sub (ws' := [(m0, .inr (4, [.ref tr, .ref im, .ref fi, .ref se, .ref u0, .ref id, .ref ct, .int ra, .int ru, .int wg])), (l0, .inr (3, [.int ln, .int lds, .int ltb, .ref lo, .ref lp, .ref lt, .ref lb, .ref le, .int lc, .int ld])), (lb, .inl (cI, 40, .inl fb)), (le, .inl (cI, 40, .inl fe)), (ct, .inl (cI, 40, .inl cc)), (id, .inr (1, [.ref jq, .int il])), (jq, .inl (cB, 60, .inl jf)), (im, .inr (1, [.ref iq, .int L])), (iq, .inl (cB, n, .inl f))]) [0, 1, 2, 3, 4, 5, 6, 7, 8] (by decide +kernel) rfl
      have hl := lv_sub hl [0, 1, 2, 3, 4] rfl
      exact kk12 _ 0 _ _ _ rfl ((by (try dsimp only); first | assumption | omega | trivial)) hP hD hS hl
    · skip
      have g4_102 : so.toInt = 0 := (i_eq rfl (by decide)).mp h_9
      refine lv_iconst (v := 1) hx hb d_Maker_writeRecord_7 (by decide) ?_
      refine lv_goto (tgt := 12) hx hb d_Maker_writeRecord_8 (by decide) ?_
      have hP := hP.sub (ws' := [(m0, .inr (4, [.ref tr, .ref im, .ref fi, .ref se, .ref u0, .ref id, .ref ct, .int ra, .int ru, .int wg])), (l0, .inr (3, [.int ln, .int lds, .int ltb, .ref lo, .ref lp, .ref lt, .ref lb, .ref le, .int lc, .int ld])), (lb, .inl (cI, 40, .inl fb)), (le, .inl (cI, 40, .inl fe)), (ct, .inl (cI, 40, .inl cc)), (id, .inr (1, [.ref jq, .int il])), (jq, .inl (cB, 60, .inl jf)), (im, .inr (1, [.ref iq, .int L])), (iq, .inl (cB, n, .inl f))]) [0, 1, 2, 3, 4, 5, 6, 7, 8] rfl
      have hD := hD.sub (ws' := [(m0, .inr (4, [.ref tr, .ref im, .ref fi, .ref se, .ref u0, .ref id, .ref ct, .int ra, .int ru, .int wg])), (l0, .inr (3, [.int ln, .int lds, .int ltb, .ref lo, .ref lp, .ref lt, .ref lb, .ref le, .int lc, .int ld])), (lb, .inl (cI, 40, .inl fb)), (le, .inl (cI, 40, .inl fe)), (ct, .inl (cI, 40, .inl cc)), (id, .inr (1, [.ref jq, .int il])), (jq, .inl (cB, 60, .inl jf)), (im, .inr (1, [.ref iq, .int L])), (iq, .inl (cB, n, .inl f))]) [0, 1, 2, 3, 4, 5, 6, 7, 8] (by decide +kernel) rfl
      have hl := lv_sub hl [0, 1, 2, 3, 4] rfl
      exact kk12 _ 1 _ _ _ rfl ((by (try dsimp only); first | assumption | omega | trivial)) hP hD hS hl

set_option maxHeartbeats 4000000 in
set_option maxRecDepth 100000 in
theorem c3_writePartsF (l : Launch) (D : va_G) (cB cI cJ cZ cN cF : ClassId) (sz : Nat) (m0 : Nat) (tr : Nat) (im : Nat) (fi : Nat) (se : Nat) (u0 : Nat) (id : Nat) (ct : Nat) (ra : Int32) (ru : Int32) (wg : Int32) (pb : Nat) (pq : Nat) (en : Nat) (uc : Int32) (uk : Int32) (pL : Int32) (pf : Nat → Int32) (iq : Nat) (n : Nat) (L : Int32) (f : Nat → Int32) (P9 : List Int) (Q9 : List Int) (x : Int32) (hL : 0 ≤ L.toInt ∧ L.toInt ≤ n) (hn : n ≤ 3000000) (hPL : 0 ≤ pL.toInt ∧ pL.toInt ≤ 400) (huk : 0 ≤ uk.toInt ∧ uk.toInt ≤ pL.toInt) (hPq9 : Cn pf pL.toInt (P9 ++ Q9)) (hPl : (P9.length : Int) = uk.toInt) (hin : 0 ≤ x.toInt ∧ x.toInt + uk.toInt ≤ L.toInt) (hin2 : uk.toInt < pL.toInt → x.toInt + uk.toInt + 28 ≤ L.toInt ∧ 0 ≤ ru.toInt ∧ ru.toInt + (pL.toInt - uk.toInt) ≤ L.toInt) : Met l y_Maker_writeParts w_Maker_writeParts ({ frames := 2, cells := 0, slots := 0, locals := 59 }) (va_Pc [.ref m0, .int x] (fun U => U.heap.size = sz ∧ va_P D CL [(m0, .inr (4, [.ref tr, .ref im, .ref fi, .ref se, .ref u0, .ref id, .ref ct, .int ra, .int ru, .int wg])), (u0, .inr (8, [.ref pb, .ref en, .int uc, .int uk])), (pb, .inr (1, [.ref pq, .int pL])), (pq, .inl (cB, 400, .inl pf)), (im, .inr (1, [.ref iq, .int L])), (iq, .inl (cB, n, .inl f))] U.heap ∧ va_K D CL (TY cB cI cJ cZ cN cF) U ∧ NN U ∧ va_D (fun _ => True) [(m0, .inr (4, [.ref tr, .ref im, .ref fi, .ref se, .ref u0, .ref id, .ref ct, .int ra, .int ru, .int wg])), (u0, .inr (8, [.ref pb, .ref en, .int uc, .int uk])), (pb, .inr (1, [.ref pq, .int pL])), (pq, .inl (cB, 400, .inl pf)), (im, .inr (1, [.ref iq, .int L])), (iq, .inl (cB, n, .inl f))])) (va_Qv (fun (u : (Nat → Int32)) => match u with | g => (WP (imC f) (imC g) x.toInt ru.toInt P9 Q9)) (fun (u : (Nat → Int32)) (t : State) => match u with | g => va_P D CL [(m0, .inr (4, [.ref tr, .ref im, .ref fi, .ref se, .ref u0, .ref id, .ref ct, .int ra, .int ru, .int wg])), (u0, .inr (8, [.ref pb, .ref en, .int uc, .int uk])), (pb, .inr (1, [.ref pq, .int pL])), (pq, .inl (cB, 400, .inl pf)), (im, .inr (1, [.ref iq, .int L])), (iq, .inl (cB, n, .inl g))] t.heap ∧ va_D (va_A [(m0, .inr (4, [.ref tr, .ref im, .ref fi, .ref se, .ref u0, .ref id, .ref ct, .int ra, .int ru, .int wg])), (u0, .inr (8, [.ref pb, .ref en, .int uc, .int uk])), (pb, .inr (1, [.ref pq, .int pL])), (pq, .inl (cB, 400, .inl pf)), (im, .inr (1, [.ref iq, .int L])), (iq, .inl (cB, n, .inl f))] sz) [(m0, .inr (4, [.ref tr, .ref im, .ref fi, .ref se, .ref u0, .ref id, .ref ct, .int ra, .int ru, .int wg])), (u0, .inr (8, [.ref pb, .ref en, .int uc, .int uk])), (pb, .inr (1, [.ref pq, .int pL])), (pq, .inl (cB, 400, .inl pf)), (im, .inr (1, [.ref iq, .int L])), (iq, .inl (cB, n, .inl g))]) (va_A [(m0, .inr (4, [.ref tr, .ref im, .ref fi, .ref se, .ref u0, .ref id, .ref ct, .int ra, .int ru, .int wg])), (u0, .inr (8, [.ref pb, .ref en, .int uc, .int uk])), (pb, .inr (1, [.ref pq, .int pL])), (pq, .inl (cB, 400, .inl pf)), (im, .inr (1, [.ref iq, .int L])), (iq, .inl (cB, n, .inl f))] sz)) 0 0 (va_A [(m0, .inr (4, [.ref tr, .ref im, .ref fi, .ref se, .ref u0, .ref id, .ref ct, .int ra, .int ru, .int wg])), (u0, .inr (8, [.ref pb, .ref en, .int uc, .int uk])), (pb, .inr (1, [.ref pq, .int pL])), (pq, .inl (cB, 400, .inl pf)), (im, .inr (1, [.ref iq, .int L])), (iq, .inl (cB, n, .inl f))] sz) := by
  refine Met.ofW (cc := b_Maker_writeParts) (maxL := 4) (ret := none) (by decide +kernel) rfl ?_
  intro p e s m args below meth c s₁ B hml hv
  obtain ⟨rfl, hsz, hP, hK, hN, hD0⟩ := hv
  have hx := B.exec
  have hb := B.bytes
  have hr := B.returns
  have hts := atoms_spec (ws := w_Maker_writeParts) B.pre
  have ht9 := fun (w : Cond) (h : w ∈ lw_g) => hts w (List.mem_cons_of_mem _ h)
  have hown : s.vm.findClass "DiscMaker$Maker" = some m.cls := findClass_of_methodNamed B.named
  have hlocks := B.notSynchronized
  subst hsz
  have hD := hD0.self (sz := s.heap.size)
  generalize hAe : va_A [(m0, .inr (4, [.ref tr, .ref im, .ref fi, .ref se, .ref u0, .ref id, .ref ct, .int ra, .int ru, .int wg])), (u0, .inr (8, [.ref pb, .ref en, .int uc, .int uk])), (pb, .inr (1, [.ref pq, .int pL])), (pq, .inl (cB, 400, .inl pf)), (im, .inr (1, [.ref iq, .int L])), (iq, .inl (cB, n, .inl f))] s.heap.size = A at hD ⊢
  have hA : ∀ q : Nat, s.heap.size ≤ q → A q := fun q h => by rw [← hAe]; exact Or.inr h
  have hS : va_S A s.heap s.heap [] := va_S.rf
  have hP : va_P D CL [(m0, .inr (4, [.ref tr, .ref im, .ref fi, .ref se, .ref u0, .ref id, .ref ct, .int ra, .int ru, .int wg])), (u0, .inr (8, [.ref pb, .ref en, .int uc, .int uk])), (pb, .inr (1, [.ref pq, .int pL])), (pq, .inl (cB, 400, .inl pf)), (im, .inr (1, [.ref iq, .int L])), (iq, .inl (cB, n, .inl f))] s.heap := hP
  have hl := lv_entry [.ref m0, .int x] (n := 4) (Nat.le_of_ble_eq_true rfl)
  rw [lg_entry_eq]
  generalize (lg_sl [.ref m0, .int x] ++ List.replicate (4 - (lg_sl [.ref m0, .int x]).length) Slot.unset).toArray = ls at hl ⊢
  have hl : lv_has ls 4 [(0, .ref m0), (1, .int x)] := hl
  have L_m1 : ((-1) : Int32).toInt = (-1) := by decide
  have L_0 : (0 : Int32).toInt = 0 := by decide
  have L_1 : (1 : Int32).toInt = 1 := by decide
  have L_2 : (2 : Int32).toInt = 2 := by decide
  have L_3 : (3 : Int32).toInt = 3 := by decide
  have L_4 : (4 : Int32).toInt = 4 := by decide
  have L_12 : (12 : Int32).toInt = 12 := by decide
  have L_20 : (20 : Int32).toInt = 20 := by decide
  have L_28 : (28 : Int32).toInt = 28 := by decide
  have L_2048 : (2048 : Int32).toInt = 2048 := by decide
  have L_17221 : (17221 : Int32).toInt = 17221 := by decide
  refine lv_aload_n hx hb d_Maker_writeParts_0 rfl (lv_at hl 0 rfl) ?_
  refine va_get (D := D) (ci := 4) (v := .ref u0) (C := "DiscMaker$Maker") (T := F_Maker) (N := 10) hx hb ht9 in_Maker hown hK hP 0 rfl rfl 4 (by decide) (ht9 _ k351) (fun _ h9 => h9) rfl d_Maker_writeParts_1 ?_
  refine va_getN (D := D) (ci := 8) (v := .ref pb) (C := "DiscMaker$SystemUse") (T := F_SystemUse) (N := 4) hx hb ht9 in_SystemUse hown hK hP 1 rfl rfl 0 (by decide) (va_Nw.use rfl (hN _ k331)) (fun _ h9 => h9) rfl d_Maker_writeParts_4 ?_
  refine lv_aload_n hx hb d_Maker_writeParts_7 rfl (lv_at hl 0 rfl) ?_
  refine va_get (D := D) (ci := 4) (v := .ref im) (C := "DiscMaker$Maker") (T := F_Maker) (N := 10) hx hb ht9 in_Maker hown hK hP 0 rfl rfl 1 (by decide) (ht9 _ k348) (fun _ h9 => h9) rfl d_Maker_writeParts_8 ?_
  refine lv_iconst (v := 0) hx hb d_Maker_writeParts_11 (by decide) ?_
  refine lv_iload_n hx hb d_Maker_writeParts_12 rfl (lv_at hl 1 rfl) ?_
  refine lv_aload_n hx hb d_Maker_writeParts_13 rfl (lv_at hl 0 rfl) ?_
  refine va_get (D := D) (ci := 4) (v := .ref u0) (C := "DiscMaker$Maker") (T := F_Maker) (N := 10) hx hb ht9 in_Maker hown hK hP 0 rfl rfl 4 (by decide) (ht9 _ k351) (fun _ h9 => h9) rfl d_Maker_writeParts_14 ?_
  refine va_getN (D := D) (ci := 8) (v := .int uk) (C := "DiscMaker$SystemUse") (T := F_SystemUse) (N := 4) hx hb ht9 in_SystemUse hown hK hP 1 rfl rfl 3 (by decide) (va_Nw.use rfl (hN _ k335)) (fun _ h9 => h9) rfl d_Maker_writeParts_17 ?_
  have hPc := hP.sub (ws' := [(pb, .inr (1, [.ref pq, .int pL])), (pq, .inl (cB, 400, .inl pf)), (im, .inr (1, [.ref iq, .int L])), (iq, .inl (cB, n, .inl f))]) [2, 3, 4, 5] rfl
  have hDc := hD.sub (ws' := [(pb, .inr (1, [.ref pq, .int pL])), (pq, .inl (cB, 400, .inl pf)), (im, .inr (1, [.ref iq, .int L])), (iq, .inl (cB, n, .inl f))]) [2, 3, 4, 5] (by decide +kernel) rfl
  have hFc := va_free (wc := [(pb, .inr (1, [.ref pq, .int pL])), (pq, .inl (cB, 400, .inl pf)), (im, .inr (1, [.ref iq, .int L])), (iq, .inl (cB, n, .inl f))]) hD hS hA [2, 3, 4, 5] rfl
  have hkc : 0 ≤ 0 := by decide
  have hks : 0 ≤ 0 := by decide
  refine va_callv (va_runV (C := "DiscMaker$Bytes") (As := [.ref im, .int 0, .int x, .int uk]) (rest := []) ⟨hx, hb, hml, hown, hts⟩ (c3_copyToF l D cB cI cJ cZ cN cF s.heap.size pb pq 400 pL pf im iq n L f 0 x uk (by (try dsimp only); first | assumption | omega | trivial) (by (try dsimp only); first | assumption | omega | trivial) (by (try dsimp only); first | assumption | omega | trivial) (by (try dsimp only); first | assumption | omega | trivial) (by (try dsimp only); first | assumption | omega | trivial) (by (try dsimp only); first | assumption | omega | trivial)) (cwV 4 hts (lg_goodV k1060 k1061 k1062 k119 kc_Bytes_copyTo) rfl rfl rfl (by decide +kernel) ⟨Nat.le_of_ble_eq_true rfl, Nat.le_of_ble_eq_true rfl⟩) ⟨fun a U g mk q => by obtain ⟨q0, q1, qP, qK, qN, qD⟩ := q; exact ⟨q0, q1, qP, va_K.moved (u := U) (U := U.calling g mk a) (Vm.Alike.refl U.vm) qK, qN.calling, qD⟩, va_recv hK hP (ci := 1) (q0 := 2) rfl rfl, fun U hU hW => ⟨rfl, by rw [hU], by rw [hU]; exact hPc, va_K.moved hW.alike hK, NN.warm hW hN, hDc.weaken (fun _ _ _ _ => trivial)⟩⟩ rfl rfl hl.1 rfl (lv_room (Nat.le_of_ble_eq_true rfl)) d_Maker_writeParts_20 ⟨hkc, hks⟩) hS (fun q _ h => hFc q h) hFc (fun u t H1 locs ht hvm hp_r1 hB hz1 hk1 hS => ?_)
  obtain ⟨g_2, rfl⟩ : ∃ z, z = u := ⟨_, rfl⟩
  obtain ⟨hP1, hD1⟩ := hB
  rw [ht] at hP1
  obtain ⟨hP, hD⟩ := va_join (wr := [(m0, .inr (4, [.ref tr, .ref im, .ref fi, .ref se, .ref u0, .ref id, .ref ct, .int ra, .int ru, .int wg])), (u0, .inr (8, [.ref pb, .ref en, .int uc, .int uk]))]) (w1 := [(pb, .inr (1, [.ref pq, .int pL])), (pq, .inl (cB, 400, .inl pf)), (im, .inr (1, [.ref iq, .int L])), (iq, .inl (cB, n, .inl g_2))]) hP hD [2, 3, 4, 5] [0, 1] rfl rfl (by decide +kernel) (by decide +kernel) hk1 hFc hP1 hD1
  clear hPc hDc hFc hP1 hD1 hk1 hz1 hkc hks
  generalize H1 = H at hP hS ⊢
  have hP : va_P D CL [(m0, .inr (4, [.ref tr, .ref im, .ref fi, .ref se, .ref u0, .ref id, .ref ct, .int ra, .int ru, .int wg])), (u0, .inr (8, [.ref pb, .ref en, .int uc, .int uk])), (pb, .inr (1, [.ref pq, .int pL])), (pq, .inl (cB, 400, .inl pf)), (im, .inr (1, [.ref iq, .int L])), (iq, .inl (cB, n, .inl g_2))] H := hP
  have hD : va_D A [(m0, .inr (4, [.ref tr, .ref im, .ref fi, .ref se, .ref u0, .ref id, .ref ct, .int ra, .int ru, .int wg])), (u0, .inr (8, [.ref pb, .ref en, .int uc, .int uk])), (pb, .inr (1, [.ref pq, .int pL])), (pq, .inl (cB, 400, .inl pf)), (im, .inr (1, [.ref iq, .int L])), (iq, .inl (cB, n, .inl g_2))] := hD
  try dsimp only at hp_r1
  have hw_3 := hp_r1
  refine lv_aload_n hx hb d_Maker_writeParts_23 rfl (lv_at hl 0 rfl) ?_
  refine va_get (D := D) (ci := 4) (v := .ref u0) (C := "DiscMaker$Maker") (T := F_Maker) (N := 10) hx hb ht9 in_Maker hown hK hP 0 rfl rfl 4 (by decide) (ht9 _ k351) (fun _ h9 => h9) rfl d_Maker_writeParts_24 ?_
  have hPc := hP.sub (ws' := [(u0, .inr (8, [.ref pb, .ref en, .int uc, .int uk])), (pb, .inr (1, [.ref pq, .int pL])), (pq, .inl (cB, 400, .inl pf))]) [1, 2, 3] rfl
  have hDc := hD.sub (ws' := [(u0, .inr (8, [.ref pb, .ref en, .int uc, .int uk])), (pb, .inr (1, [.ref pq, .int pL])), (pq, .inl (cB, 400, .inl pf))]) [1, 2, 3] (by decide +kernel) rfl
  have hFc := va_free (wc := [(u0, .inr (8, [.ref pb, .ref en, .int uc, .int uk])), (pb, .inr (1, [.ref pq, .int pL])), (pq, .inl (cB, 400, .inl pf))]) hD hS hA [1, 2, 3] rfl
  have hkc : 0 ≤ 0 := by decide
  have hks : 0 ≤ 0 := by decide
  refine va_calli (va_runV (C := "DiscMaker$SystemUse") (As := []) (rest := []) ⟨hx, hb, hml, hown, hts⟩ (c3_bytesBehind l D cB cI cJ cZ cN cF H.size u0 pb pq en uc uk pL pf (by (try dsimp only); first | assumption | omega | trivial) (by (try dsimp only); first | assumption | omega | trivial)) (cwV 0 hts (lg_goodV k1048 k1049 k1050 k122 kc_SystemUse_bytesBehind) rfl rfl rfl (by decide +kernel) ⟨Nat.le_of_ble_eq_true rfl, Nat.le_of_ble_eq_true rfl⟩) ⟨fun a U g mk q => by obtain ⟨q0, q1, qP, qK, qN, qD⟩ := q; exact ⟨q0, q1, qP, va_K.moved (u := U) (U := U.calling g mk a) (Vm.Alike.refl U.vm) qK, qN.calling, qD⟩, va_recv hK hP (ci := 8) (q0 := 1) rfl rfl, fun U hU hW => ⟨rfl, by rw [hU], by rw [hU]; exact hPc, va_K.moved hW.alike hK, NN.warm hW hN, hDc.weaken (fun _ _ _ _ => trivial)⟩⟩ rfl rfl hl.1 rfl (lv_room (Nat.le_of_ble_eq_true rfl)) d_Maker_writeParts_27 ⟨hkc, hks⟩) hS (fun q _ h => hFc q h) hFc (fun r4 u t H1 locs ht hvm hp_r4 hB hz1 hk1 hS => ?_)
  obtain ⟨hP1, hD1⟩ := hB
  rw [ht] at hP1
  obtain ⟨hP, hD⟩ := va_join (wr := [(m0, .inr (4, [.ref tr, .ref im, .ref fi, .ref se, .ref u0, .ref id, .ref ct, .int ra, .int ru, .int wg])), (im, .inr (1, [.ref iq, .int L])), (iq, .inl (cB, n, .inl g_2))]) (w1 := [(u0, .inr (8, [.ref pb, .ref en, .int uc, .int uk])), (pb, .inr (1, [.ref pq, .int pL])), (pq, .inl (cB, 400, .inl pf))]) hP hD [1, 2, 3] [0, 4, 5] rfl rfl (by decide +kernel) (by decide +kernel) hk1 hFc hP1 hD1
  clear hPc hDc hFc hP1 hD1 hk1 hz1 hkc hks
  generalize H1 = H at hP hS ⊢
  have hP : va_P D CL [(m0, .inr (4, [.ref tr, .ref im, .ref fi, .ref se, .ref u0, .ref id, .ref ct, .int ra, .int ru, .int wg])), (im, .inr (1, [.ref iq, .int L])), (iq, .inl (cB, n, .inl g_2)), (u0, .inr (8, [.ref pb, .ref en, .int uc, .int uk])), (pb, .inr (1, [.ref pq, .int pL])), (pq, .inl (cB, 400, .inl pf))] H := hP
  have hD : va_D A [(m0, .inr (4, [.ref tr, .ref im, .ref fi, .ref se, .ref u0, .ref id, .ref ct, .int ra, .int ru, .int wg])), (im, .inr (1, [.ref iq, .int L])), (iq, .inl (cB, n, .inl g_2)), (u0, .inr (8, [.ref pb, .ref en, .int uc, .int uk])), (pb, .inr (1, [.ref pq, .int pL])), (pq, .inl (cB, 400, .inl pf))] := hD
  try dsimp only at hp_r4
  have hr_5 := hp_r4
  refine lv_istore_n hx hb d_Maker_writeParts_30 rfl hl (by decide) rfl (fun ls hl => ?_)
  have hl : lv_has ls 4 [(2, .int r4), (0, .ref m0), (1, .int x)] := hl
  refine lv_iload_n hx hb d_Maker_writeParts_31 rfl (lv_at hl 0 rfl) ?_
  refine lv_if_le (tgt := 158) hx hb d_Maker_writeParts_32 (by decide) (fun h_9 => ?_) (fun h_9 => ?_)
  · skip
    have g32_17 : r4.toInt ≤ 0 := (i_le rfl (by decide)).mp h_9
    have hpq := hPq9.1
    rw [List.length_append] at hpq
    have hc1 : tbL (fun i => imC pf ((0 : Int32).toNatClampNeg + i)) uk.toInt.toNat = P9 := (tbL_congr (fun i _ => by rw [show (0 : Int32).toNatClampNeg = 0 by decide, Nat.zero_add])).trans (by rw [show uk.toInt.toNat = P9.length by omega]; exact hPq9.split.1)
    have hw1 := hw_3
    rw [hc1] at hw1
    have hP9 := hP.sub (ws' := [(m0, .inr (4, [.ref tr, .ref im, .ref fi, .ref se, .ref u0, .ref id, .ref ct, .int ra, .int ru, .int wg])), (u0, .inr (8, [.ref pb, .ref en, .int uc, .int uk])), (pb, .inr (1, [.ref pq, .int pL])), (pq, .inl (cB, 400, .inl pf)), (im, .inr (1, [.ref iq, .int L])), (iq, .inl (cB, n, .inl g_2))]) [0, 3, 4, 5, 1, 2] rfl
    have hD9 := hD.sub (ws' := [(m0, .inr (4, [.ref tr, .ref im, .ref fi, .ref se, .ref u0, .ref id, .ref ct, .int ra, .int ru, .int wg])), (u0, .inr (8, [.ref pb, .ref en, .int uc, .int uk])), (pb, .inr (1, [.ref pq, .int pL])), (pq, .inl (cB, 400, .inl pf)), (im, .inr (1, [.ref iq, .int L])), (iq, .inl (cB, n, .inl g_2))]) [0, 3, 4, 5, 1, 2] (by decide +kernel) rfl
    exact W.vret hx hb hr (fun t ht hW => ⟨⟨g_2, rfl, (WP_0 hw1 (by omega)), by rw [ht]; exact hP9, hD9⟩, hS.F ht⟩) hS.2.2 d_Maker_writeParts_158
  · skip
    have g32_17 : ¬ r4.toInt ≤ 0 := fun h8 => h_9 ((i_le rfl (by decide)).mpr h8)
    have hin3 := hin2 (by omega)
    refine lv_iload_n hx hb d_Maker_writeParts_35 rfl (lv_at hl 2 rfl) ?_
    refine lv_aload_n hx hb d_Maker_writeParts_36 rfl (lv_at hl 1 rfl) ?_
    refine va_get (D := D) (ci := 4) (v := .ref u0) (C := "DiscMaker$Maker") (T := F_Maker) (N := 10) hx hb ht9 in_Maker hown hK hP 0 rfl rfl 4 (by decide) (ht9 _ k351) (fun _ h9 => h9) rfl d_Maker_writeParts_37 ?_
    refine va_getN (D := D) (ci := 8) (v := .int uk) (C := "DiscMaker$SystemUse") (T := F_SystemUse) (N := 4) hx hb ht9 in_SystemUse hown hK hP 3 rfl rfl 3 (by decide) (va_Nw.use rfl (hN _ k335)) (fun _ h9 => h9) rfl d_Maker_writeParts_40 ?_
    refine lv_iadd hx hb d_Maker_writeParts_43 ?_
    refine lv_topi (fun v6 e_v6 => ?_)
    have t_v6 : v6.toInt = x.toInt + uk.toInt := by rw [e_v6]; exact i_add rfl rfl (by omega) (by omega)
    refine lv_istore_n hx hb d_Maker_writeParts_44 rfl hl (by decide) rfl (fun ls hl => ?_)
    have hl : lv_has ls 4 [(3, .int v6), (2, .int r4), (0, .ref m0), (1, .int x)] := hl
    refine lv_aload_n hx hb d_Maker_writeParts_45 rfl (lv_at hl 2 rfl) ?_
    refine va_get (D := D) (ci := 4) (v := .ref im) (C := "DiscMaker$Maker") (T := F_Maker) (N := 10) hx hb ht9 in_Maker hown hK hP 0 rfl rfl 1 (by decide) (ht9 _ k348) (fun _ h9 => h9) rfl d_Maker_writeParts_46 ?_
    refine lv_iload_n hx hb d_Maker_writeParts_49 rfl (lv_at hl 0 rfl) ?_
    refine lv_sipush (v := 17221) hx hb d_Maker_writeParts_50 (by decide) ?_
    refine lv_iconst (v := 2) hx hb d_Maker_writeParts_53 (by decide) ?_
    have hPc := hP.sub (ws' := [(im, .inr (1, [.ref iq, .int L])), (iq, .inl (cB, n, .inl g_2))]) [1, 2] rfl
    have hDc := hD.sub (ws' := [(im, .inr (1, [.ref iq, .int L])), (iq, .inl (cB, n, .inl g_2))]) [1, 2] (by decide +kernel) rfl
    have hFc := va_free (wc := [(im, .inr (1, [.ref iq, .int L])), (iq, .inl (cB, n, .inl g_2))]) hD hS hA [1, 2] rfl
    have hkc : 0 ≤ 0 := by decide
    have hks : 0 ≤ 0 := by decide
    refine va_callv (va_runV (C := "DiscMaker$Bytes") (As := [.int v6, .int 17221, .int 2]) (rest := []) ⟨hx, hb, hml, hown, hts⟩ (c3_putHigh2F l D cB cI cJ cZ cN cF H.size im iq n L g_2 v6 17221 (by (try dsimp only); first | assumption | omega | trivial) (by (try dsimp only); first | assumption | omega | trivial) (by (try dsimp only); first | assumption | omega | trivial)) (cwV 3 hts (lg_goodV k1072 k985 k986 k119 kc_Bytes_putHigh) rfl rfl rfl (by decide +kernel) ⟨Nat.le_of_ble_eq_true rfl, Nat.le_of_ble_eq_true rfl⟩) ⟨fun a U g mk q => by obtain ⟨q0, q1, qP, qK, qN, qD⟩ := q; exact ⟨q0, q1, qP, va_K.moved (u := U) (U := U.calling g mk a) (Vm.Alike.refl U.vm) qK, qN.calling, qD⟩, va_recv hK hP (ci := 1) (q0 := 1) rfl rfl, fun U hU hW => ⟨rfl, by rw [hU], by rw [hU]; exact hPc, va_K.moved hW.alike hK, NN.warm hW hN, hDc.weaken (fun _ _ _ _ => trivial)⟩⟩ rfl rfl hl.1 rfl (lv_room (Nat.le_of_ble_eq_true rfl)) d_Maker_writeParts_54 ⟨hkc, hks⟩) hS (fun q _ h => hFc q h) hFc (fun u t H1 locs ht hvm hp_r7 hB hz1 hk1 hS => ?_)
    obtain ⟨g_8, rfl⟩ : ∃ z, z = u := ⟨_, rfl⟩
    obtain ⟨hP1, hD1⟩ := hB
    rw [ht] at hP1
    obtain ⟨hP, hD⟩ := va_join (wr := [(m0, .inr (4, [.ref tr, .ref im, .ref fi, .ref se, .ref u0, .ref id, .ref ct, .int ra, .int ru, .int wg])), (u0, .inr (8, [.ref pb, .ref en, .int uc, .int uk])), (pb, .inr (1, [.ref pq, .int pL])), (pq, .inl (cB, 400, .inl pf))]) (w1 := [(im, .inr (1, [.ref iq, .int L])), (iq, .inl (cB, n, .inl g_8))]) hP hD [1, 2] [0, 3, 4, 5] rfl rfl (by decide +kernel) (by decide +kernel) hk1 hFc hP1 hD1
    clear hPc hDc hFc hP1 hD1 hk1 hz1 hkc hks
    generalize H1 = H at hP hS ⊢
    have hP : va_P D CL [(m0, .inr (4, [.ref tr, .ref im, .ref fi, .ref se, .ref u0, .ref id, .ref ct, .int ra, .int ru, .int wg])), (u0, .inr (8, [.ref pb, .ref en, .int uc, .int uk])), (pb, .inr (1, [.ref pq, .int pL])), (pq, .inl (cB, 400, .inl pf)), (im, .inr (1, [.ref iq, .int L])), (iq, .inl (cB, n, .inl g_8))] H := hP
    have hD : va_D A [(m0, .inr (4, [.ref tr, .ref im, .ref fi, .ref se, .ref u0, .ref id, .ref ct, .int ra, .int ru, .int wg])), (u0, .inr (8, [.ref pb, .ref en, .int uc, .int uk])), (pb, .inr (1, [.ref pq, .int pL])), (pq, .inl (cB, 400, .inl pf)), (im, .inr (1, [.ref iq, .int L])), (iq, .inl (cB, n, .inl g_8))] := hD
    try dsimp only at hp_r7
    have hw_9 := hp_r7
    try rw [L_17221] at hw_9
    refine lv_aload_n hx hb d_Maker_writeParts_57 rfl (lv_at hl 2 rfl) ?_
    refine va_get (D := D) (ci := 4) (v := .ref im) (C := "DiscMaker$Maker") (T := F_Maker) (N := 10) hx hb ht9 in_Maker hown hK hP 0 rfl rfl 1 (by decide) (ht9 _ k348) (fun _ h9 => h9) rfl d_Maker_writeParts_58 ?_
    refine lv_iload_n hx hb d_Maker_writeParts_61 rfl (lv_at hl 0 rfl) ?_
    refine lv_iconst (v := 2) hx hb d_Maker_writeParts_62 (by decide) ?_
    refine lv_iadd hx hb d_Maker_writeParts_63 ?_
    refine lv_topi (fun v10 e_v10 => ?_)
    have t_v10 : v10.toInt = v6.toInt + 2 := by rw [e_v10]; exact i_add rfl (by decide) (by omega) (by omega)
    refine lv_bipush (v := 28) hx hb d_Maker_writeParts_64 (by decide) ?_
    have hPc := hP.sub (ws' := [(im, .inr (1, [.ref iq, .int L])), (iq, .inl (cB, n, .inl g_8))]) [4, 5] rfl
    have hDc := hD.sub (ws' := [(im, .inr (1, [.ref iq, .int L])), (iq, .inl (cB, n, .inl g_8))]) [4, 5] (by decide +kernel) rfl
    have hFc := va_free (wc := [(im, .inr (1, [.ref iq, .int L])), (iq, .inl (cB, n, .inl g_8))]) hD hS hA [4, 5] rfl
    have hkc : 0 ≤ 0 := by decide
    have hks : 0 ≤ 0 := by decide
    refine va_callv (va_runV (C := "DiscMaker$Bytes") (As := [.int v10, .int 28]) (rest := []) ⟨hx, hb, hml, hown, hts⟩ (c3_putF l D cB cI cJ cZ cN cF H.size im iq n L g_8 v10 28 (by (try dsimp only); first | assumption | omega | trivial) (by (try dsimp only); first | assumption | omega | trivial) (by (try dsimp only); first | assumption | omega | trivial)) (cwV 2 hts (lg_goodV k978 k912 k913 k119 kc_Bytes_put) rfl rfl rfl (by decide +kernel) ⟨Nat.le_of_ble_eq_true rfl, Nat.le_of_ble_eq_true rfl⟩) ⟨fun a U g mk q => by obtain ⟨q0, q1, qP, qK, qN, qD⟩ := q; exact ⟨q0, q1, qP, va_K.moved (u := U) (U := U.calling g mk a) (Vm.Alike.refl U.vm) qK, qN.calling, qD⟩, va_recv hK hP (ci := 1) (q0 := 4) rfl rfl, fun U hU hW => ⟨rfl, by rw [hU], by rw [hU]; exact hPc, va_K.moved hW.alike hK, NN.warm hW hN, hDc.weaken (fun _ _ _ _ => trivial)⟩⟩ rfl rfl hl.1 rfl (lv_room (Nat.le_of_ble_eq_true rfl)) d_Maker_writeParts_66 ⟨hkc, hks⟩) hS (fun q _ h => hFc q h) hFc (fun u t H1 locs ht hvm hp_r11 hB hz1 hk1 hS => ?_)
    obtain ⟨g_12, rfl⟩ : ∃ z, z = u := ⟨_, rfl⟩
    obtain ⟨hP1, hD1⟩ := hB
    rw [ht] at hP1
    obtain ⟨hP, hD⟩ := va_join (wr := [(m0, .inr (4, [.ref tr, .ref im, .ref fi, .ref se, .ref u0, .ref id, .ref ct, .int ra, .int ru, .int wg])), (u0, .inr (8, [.ref pb, .ref en, .int uc, .int uk])), (pb, .inr (1, [.ref pq, .int pL])), (pq, .inl (cB, 400, .inl pf))]) (w1 := [(im, .inr (1, [.ref iq, .int L])), (iq, .inl (cB, n, .inl g_12))]) hP hD [4, 5] [0, 1, 2, 3] rfl rfl (by decide +kernel) (by decide +kernel) hk1 hFc hP1 hD1
    clear hPc hDc hFc hP1 hD1 hk1 hz1 hkc hks
    generalize H1 = H at hP hS ⊢
    have hP : va_P D CL [(m0, .inr (4, [.ref tr, .ref im, .ref fi, .ref se, .ref u0, .ref id, .ref ct, .int ra, .int ru, .int wg])), (u0, .inr (8, [.ref pb, .ref en, .int uc, .int uk])), (pb, .inr (1, [.ref pq, .int pL])), (pq, .inl (cB, 400, .inl pf)), (im, .inr (1, [.ref iq, .int L])), (iq, .inl (cB, n, .inl g_12))] H := hP
    have hD : va_D A [(m0, .inr (4, [.ref tr, .ref im, .ref fi, .ref se, .ref u0, .ref id, .ref ct, .int ra, .int ru, .int wg])), (u0, .inr (8, [.ref pb, .ref en, .int uc, .int uk])), (pb, .inr (1, [.ref pq, .int pL])), (pq, .inl (cB, 400, .inl pf)), (im, .inr (1, [.ref iq, .int L])), (iq, .inl (cB, n, .inl g_12))] := hD
    try dsimp only at hp_r11
    have hw_13 := hp_r11
    try rw [L_28] at hw_13
    refine lv_aload_n hx hb d_Maker_writeParts_69 rfl (lv_at hl 2 rfl) ?_
    refine va_get (D := D) (ci := 4) (v := .ref im) (C := "DiscMaker$Maker") (T := F_Maker) (N := 10) hx hb ht9 in_Maker hown hK hP 0 rfl rfl 1 (by decide) (ht9 _ k348) (fun _ h9 => h9) rfl d_Maker_writeParts_70 ?_
    refine lv_iload_n hx hb d_Maker_writeParts_73 rfl (lv_at hl 0 rfl) ?_
    refine lv_iconst (v := 3) hx hb d_Maker_writeParts_74 (by decide) ?_
    refine lv_iadd hx hb d_Maker_writeParts_75 ?_
    refine lv_topi (fun v14 e_v14 => ?_)
    have t_v14 : v14.toInt = v6.toInt + 3 := by rw [e_v14]; exact i_add rfl (by decide) (by omega) (by omega)
    refine lv_iconst (v := 1) hx hb d_Maker_writeParts_76 (by decide) ?_
    have hPc := hP.sub (ws' := [(im, .inr (1, [.ref iq, .int L])), (iq, .inl (cB, n, .inl g_12))]) [4, 5] rfl
    have hDc := hD.sub (ws' := [(im, .inr (1, [.ref iq, .int L])), (iq, .inl (cB, n, .inl g_12))]) [4, 5] (by decide +kernel) rfl
    have hFc := va_free (wc := [(im, .inr (1, [.ref iq, .int L])), (iq, .inl (cB, n, .inl g_12))]) hD hS hA [4, 5] rfl
    have hkc : 0 ≤ 0 := by decide
    have hks : 0 ≤ 0 := by decide
    refine va_callv (va_runV (C := "DiscMaker$Bytes") (As := [.int v14, .int 1]) (rest := []) ⟨hx, hb, hml, hown, hts⟩ (c3_putF l D cB cI cJ cZ cN cF H.size im iq n L g_12 v14 1 (by (try dsimp only); first | assumption | omega | trivial) (by (try dsimp only); first | assumption | omega | trivial) (by (try dsimp only); first | assumption | omega | trivial)) (cwV 2 hts (lg_goodV k978 k912 k913 k119 kc_Bytes_put) rfl rfl rfl (by decide +kernel) ⟨Nat.le_of_ble_eq_true rfl, Nat.le_of_ble_eq_true rfl⟩) ⟨fun a U g mk q => by obtain ⟨q0, q1, qP, qK, qN, qD⟩ := q; exact ⟨q0, q1, qP, va_K.moved (u := U) (U := U.calling g mk a) (Vm.Alike.refl U.vm) qK, qN.calling, qD⟩, va_recv hK hP (ci := 1) (q0 := 4) rfl rfl, fun U hU hW => ⟨rfl, by rw [hU], by rw [hU]; exact hPc, va_K.moved hW.alike hK, NN.warm hW hN, hDc.weaken (fun _ _ _ _ => trivial)⟩⟩ rfl rfl hl.1 rfl (lv_room (Nat.le_of_ble_eq_true rfl)) d_Maker_writeParts_77 ⟨hkc, hks⟩) hS (fun q _ h => hFc q h) hFc (fun u t H1 locs ht hvm hp_r15 hB hz1 hk1 hS => ?_)
    obtain ⟨g_16, rfl⟩ : ∃ z, z = u := ⟨_, rfl⟩
    obtain ⟨hP1, hD1⟩ := hB
    rw [ht] at hP1
    obtain ⟨hP, hD⟩ := va_join (wr := [(m0, .inr (4, [.ref tr, .ref im, .ref fi, .ref se, .ref u0, .ref id, .ref ct, .int ra, .int ru, .int wg])), (u0, .inr (8, [.ref pb, .ref en, .int uc, .int uk])), (pb, .inr (1, [.ref pq, .int pL])), (pq, .inl (cB, 400, .inl pf))]) (w1 := [(im, .inr (1, [.ref iq, .int L])), (iq, .inl (cB, n, .inl g_16))]) hP hD [4, 5] [0, 1, 2, 3] rfl rfl (by decide +kernel) (by decide +kernel) hk1 hFc hP1 hD1
    clear hPc hDc hFc hP1 hD1 hk1 hz1 hkc hks
    generalize H1 = H at hP hS ⊢
    have hP : va_P D CL [(m0, .inr (4, [.ref tr, .ref im, .ref fi, .ref se, .ref u0, .ref id, .ref ct, .int ra, .int ru, .int wg])), (u0, .inr (8, [.ref pb, .ref en, .int uc, .int uk])), (pb, .inr (1, [.ref pq, .int pL])), (pq, .inl (cB, 400, .inl pf)), (im, .inr (1, [.ref iq, .int L])), (iq, .inl (cB, n, .inl g_16))] H := hP
    have hD : va_D A [(m0, .inr (4, [.ref tr, .ref im, .ref fi, .ref se, .ref u0, .ref id, .ref ct, .int ra, .int ru, .int wg])), (u0, .inr (8, [.ref pb, .ref en, .int uc, .int uk])), (pb, .inr (1, [.ref pq, .int pL])), (pq, .inl (cB, 400, .inl pf)), (im, .inr (1, [.ref iq, .int L])), (iq, .inl (cB, n, .inl g_16))] := hD
    try dsimp only at hp_r15
    have hw_17 := hp_r15
    try rw [L_1] at hw_17
    refine lv_aload_n hx hb d_Maker_writeParts_80 rfl (lv_at hl 2 rfl) ?_
    refine va_get (D := D) (ci := 4) (v := .ref im) (C := "DiscMaker$Maker") (T := F_Maker) (N := 10) hx hb ht9 in_Maker hown hK hP 0 rfl rfl 1 (by decide) (ht9 _ k348) (fun _ h9 => h9) rfl d_Maker_writeParts_81 ?_
    refine lv_iload_n hx hb d_Maker_writeParts_84 rfl (lv_at hl 0 rfl) ?_
    refine lv_iconst (v := 4) hx hb d_Maker_writeParts_85 (by decide) ?_
    refine lv_iadd hx hb d_Maker_writeParts_86 ?_
    refine lv_topi (fun v18 e_v18 => ?_)
    have t_v18 : v18.toInt = v6.toInt + 4 := by rw [e_v18]; exact i_add rfl (by decide) (by omega) (by omega)
    refine lv_aload_n hx hb d_Maker_writeParts_87 rfl (lv_at hl 2 rfl) ?_
    refine va_get (D := D) (ci := 4) (v := .int ru) (C := "DiscMaker$Maker") (T := F_Maker) (N := 10) hx hb ht9 in_Maker hown hK hP 0 rfl rfl 8 (by decide) (ht9 _ k355) (fun _ h9 => h9) rfl d_Maker_writeParts_88 ?_
    refine lv_sipush (v := 2048) hx hb d_Maker_writeParts_91 (by decide) ?_
    refine lv_idiv hx hb d_Maker_writeParts_94 (by decide) ?_
    refine lv_topi (fun v19 e_v19 => ?_)
    have t_v19 : v19.toInt = ru.toInt / 2048 := by rw [e_v19]; exact i_div rfl (by decide) (by omega) (by omega)
    refine lv_iconst (v := 4) hx hb d_Maker_writeParts_95 (by decide) ?_
    have hPc := hP.sub (ws' := [(im, .inr (1, [.ref iq, .int L])), (iq, .inl (cB, n, .inl g_16))]) [4, 5] rfl
    have hDc := hD.sub (ws' := [(im, .inr (1, [.ref iq, .int L])), (iq, .inl (cB, n, .inl g_16))]) [4, 5] (by decide +kernel) rfl
    have hFc := va_free (wc := [(im, .inr (1, [.ref iq, .int L])), (iq, .inl (cB, n, .inl g_16))]) hD hS hA [4, 5] rfl
    have hkc : 0 ≤ 0 := by decide
    have hks : 0 ≤ 0 := by decide
    refine va_callv (va_runV (C := "DiscMaker$Bytes") (As := [.int v18, .int v19, .int 4]) (rest := []) ⟨hx, hb, hml, hown, hts⟩ (c3_putBoth4F l D cB cI cJ cZ cN cF H.size im iq n L g_16 v18 v19 (by (try dsimp only); first | assumption | omega | trivial) (by (try dsimp only); first | assumption | omega | trivial) (by (try dsimp only); first | assumption | omega | trivial)) (cwV 3 hts (lg_goodV k1056 k1023 k1024 k119 kc_Bytes_putBoth) rfl rfl rfl (by decide +kernel) ⟨Nat.le_of_ble_eq_true rfl, Nat.le_of_ble_eq_true rfl⟩) ⟨fun a U g mk q => by obtain ⟨q0, q1, qP, qK, qN, qD⟩ := q; exact ⟨q0, q1, qP, va_K.moved (u := U) (U := U.calling g mk a) (Vm.Alike.refl U.vm) qK, qN.calling, qD⟩, va_recv hK hP (ci := 1) (q0 := 4) rfl rfl, fun U hU hW => ⟨rfl, by rw [hU], by rw [hU]; exact hPc, va_K.moved hW.alike hK, NN.warm hW hN, hDc.weaken (fun _ _ _ _ => trivial)⟩⟩ rfl rfl hl.1 rfl (lv_room (Nat.le_of_ble_eq_true rfl)) d_Maker_writeParts_96 ⟨hkc, hks⟩) hS (fun q _ h => hFc q h) hFc (fun u t H1 locs ht hvm hp_r20 hB hz1 hk1 hS => ?_)
    obtain ⟨g_21, rfl⟩ : ∃ z, z = u := ⟨_, rfl⟩
    obtain ⟨hP1, hD1⟩ := hB
    rw [ht] at hP1
    obtain ⟨hP, hD⟩ := va_join (wr := [(m0, .inr (4, [.ref tr, .ref im, .ref fi, .ref se, .ref u0, .ref id, .ref ct, .int ra, .int ru, .int wg])), (u0, .inr (8, [.ref pb, .ref en, .int uc, .int uk])), (pb, .inr (1, [.ref pq, .int pL])), (pq, .inl (cB, 400, .inl pf))]) (w1 := [(im, .inr (1, [.ref iq, .int L])), (iq, .inl (cB, n, .inl g_21))]) hP hD [4, 5] [0, 1, 2, 3] rfl rfl (by decide +kernel) (by decide +kernel) hk1 hFc hP1 hD1
    clear hPc hDc hFc hP1 hD1 hk1 hz1 hkc hks
    generalize H1 = H at hP hS ⊢
    have hP : va_P D CL [(m0, .inr (4, [.ref tr, .ref im, .ref fi, .ref se, .ref u0, .ref id, .ref ct, .int ra, .int ru, .int wg])), (u0, .inr (8, [.ref pb, .ref en, .int uc, .int uk])), (pb, .inr (1, [.ref pq, .int pL])), (pq, .inl (cB, 400, .inl pf)), (im, .inr (1, [.ref iq, .int L])), (iq, .inl (cB, n, .inl g_21))] H := hP
    have hD : va_D A [(m0, .inr (4, [.ref tr, .ref im, .ref fi, .ref se, .ref u0, .ref id, .ref ct, .int ra, .int ru, .int wg])), (u0, .inr (8, [.ref pb, .ref en, .int uc, .int uk])), (pb, .inr (1, [.ref pq, .int pL])), (pq, .inl (cB, 400, .inl pf)), (im, .inr (1, [.ref iq, .int L])), (iq, .inl (cB, n, .inl g_21))] := hD
    try dsimp only at hp_r20
    have hw_22 := hp_r20
    refine lv_aload_n hx hb d_Maker_writeParts_99 rfl (lv_at hl 2 rfl) ?_
    refine va_get (D := D) (ci := 4) (v := .ref im) (C := "DiscMaker$Maker") (T := F_Maker) (N := 10) hx hb ht9 in_Maker hown hK hP 0 rfl rfl 1 (by decide) (ht9 _ k348) (fun _ h9 => h9) rfl d_Maker_writeParts_100 ?_
    refine lv_iload_n hx hb d_Maker_writeParts_103 rfl (lv_at hl 0 rfl) ?_
    refine lv_bipush (v := 12) hx hb d_Maker_writeParts_104 (by decide) ?_
    refine lv_iadd hx hb d_Maker_writeParts_106 ?_
    refine lv_topi (fun v23 e_v23 => ?_)
    have t_v23 : v23.toInt = v6.toInt + 12 := by rw [e_v23]; exact i_add rfl (by decide) (by omega) (by omega)
    refine lv_aload_n hx hb d_Maker_writeParts_107 rfl (lv_at hl 2 rfl) ?_
    refine va_get (D := D) (ci := 4) (v := .int ru) (C := "DiscMaker$Maker") (T := F_Maker) (N := 10) hx hb ht9 in_Maker hown hK hP 0 rfl rfl 8 (by decide) (ht9 _ k355) (fun _ h9 => h9) rfl d_Maker_writeParts_108 ?_
    refine lv_sipush (v := 2048) hx hb d_Maker_writeParts_111 (by decide) ?_
    refine lv_irem hx hb d_Maker_writeParts_114 (by decide) ?_
    refine lv_topi (fun v24 e_v24 => ?_)
    have t_v24 : v24.toInt = ru.toInt % 2048 := by rw [e_v24]; exact i_rem rfl (by decide) (by omega) (by omega)
    refine lv_iconst (v := 4) hx hb d_Maker_writeParts_115 (by decide) ?_
    have hPc := hP.sub (ws' := [(im, .inr (1, [.ref iq, .int L])), (iq, .inl (cB, n, .inl g_21))]) [4, 5] rfl
    have hDc := hD.sub (ws' := [(im, .inr (1, [.ref iq, .int L])), (iq, .inl (cB, n, .inl g_21))]) [4, 5] (by decide +kernel) rfl
    have hFc := va_free (wc := [(im, .inr (1, [.ref iq, .int L])), (iq, .inl (cB, n, .inl g_21))]) hD hS hA [4, 5] rfl
    have hkc : 0 ≤ 0 := by decide
    have hks : 0 ≤ 0 := by decide
    refine va_callv (va_runV (C := "DiscMaker$Bytes") (As := [.int v23, .int v24, .int 4]) (rest := []) ⟨hx, hb, hml, hown, hts⟩ (c3_putBoth4F l D cB cI cJ cZ cN cF H.size im iq n L g_21 v23 v24 (by (try dsimp only); first | assumption | omega | trivial) (by (try dsimp only); first | assumption | omega | trivial) (by (try dsimp only); first | assumption | omega | trivial)) (cwV 3 hts (lg_goodV k1056 k1023 k1024 k119 kc_Bytes_putBoth) rfl rfl rfl (by decide +kernel) ⟨Nat.le_of_ble_eq_true rfl, Nat.le_of_ble_eq_true rfl⟩) ⟨fun a U g mk q => by obtain ⟨q0, q1, qP, qK, qN, qD⟩ := q; exact ⟨q0, q1, qP, va_K.moved (u := U) (U := U.calling g mk a) (Vm.Alike.refl U.vm) qK, qN.calling, qD⟩, va_recv hK hP (ci := 1) (q0 := 4) rfl rfl, fun U hU hW => ⟨rfl, by rw [hU], by rw [hU]; exact hPc, va_K.moved hW.alike hK, NN.warm hW hN, hDc.weaken (fun _ _ _ _ => trivial)⟩⟩ rfl rfl hl.1 rfl (lv_room (Nat.le_of_ble_eq_true rfl)) d_Maker_writeParts_116 ⟨hkc, hks⟩) hS (fun q _ h => hFc q h) hFc (fun u t H1 locs ht hvm hp_r25 hB hz1 hk1 hS => ?_)
    obtain ⟨g_26, rfl⟩ : ∃ z, z = u := ⟨_, rfl⟩
    obtain ⟨hP1, hD1⟩ := hB
    rw [ht] at hP1
    obtain ⟨hP, hD⟩ := va_join (wr := [(m0, .inr (4, [.ref tr, .ref im, .ref fi, .ref se, .ref u0, .ref id, .ref ct, .int ra, .int ru, .int wg])), (u0, .inr (8, [.ref pb, .ref en, .int uc, .int uk])), (pb, .inr (1, [.ref pq, .int pL])), (pq, .inl (cB, 400, .inl pf))]) (w1 := [(im, .inr (1, [.ref iq, .int L])), (iq, .inl (cB, n, .inl g_26))]) hP hD [4, 5] [0, 1, 2, 3] rfl rfl (by decide +kernel) (by decide +kernel) hk1 hFc hP1 hD1
    clear hPc hDc hFc hP1 hD1 hk1 hz1 hkc hks
    generalize H1 = H at hP hS ⊢
    have hP : va_P D CL [(m0, .inr (4, [.ref tr, .ref im, .ref fi, .ref se, .ref u0, .ref id, .ref ct, .int ra, .int ru, .int wg])), (u0, .inr (8, [.ref pb, .ref en, .int uc, .int uk])), (pb, .inr (1, [.ref pq, .int pL])), (pq, .inl (cB, 400, .inl pf)), (im, .inr (1, [.ref iq, .int L])), (iq, .inl (cB, n, .inl g_26))] H := hP
    have hD : va_D A [(m0, .inr (4, [.ref tr, .ref im, .ref fi, .ref se, .ref u0, .ref id, .ref ct, .int ra, .int ru, .int wg])), (u0, .inr (8, [.ref pb, .ref en, .int uc, .int uk])), (pb, .inr (1, [.ref pq, .int pL])), (pq, .inl (cB, 400, .inl pf)), (im, .inr (1, [.ref iq, .int L])), (iq, .inl (cB, n, .inl g_26))] := hD
    try dsimp only at hp_r25
    have hw_27 := hp_r25
    refine lv_aload_n hx hb d_Maker_writeParts_119 rfl (lv_at hl 2 rfl) ?_
    refine va_get (D := D) (ci := 4) (v := .ref im) (C := "DiscMaker$Maker") (T := F_Maker) (N := 10) hx hb ht9 in_Maker hown hK hP 0 rfl rfl 1 (by decide) (ht9 _ k348) (fun _ h9 => h9) rfl d_Maker_writeParts_120 ?_
    refine lv_iload_n hx hb d_Maker_writeParts_123 rfl (lv_at hl 0 rfl) ?_
    refine lv_bipush (v := 20) hx hb d_Maker_writeParts_124 (by decide) ?_
    refine lv_iadd hx hb d_Maker_writeParts_126 ?_
    refine lv_topi (fun v28 e_v28 => ?_)
    have t_v28 : v28.toInt = v6.toInt + 20 := by rw [e_v28]; exact i_add rfl (by decide) (by omega) (by omega)
    refine lv_iload_n hx hb d_Maker_writeParts_127 rfl (lv_at hl 1 rfl) ?_
    refine lv_iconst (v := 4) hx hb d_Maker_writeParts_128 (by decide) ?_
    have hPc := hP.sub (ws' := [(im, .inr (1, [.ref iq, .int L])), (iq, .inl (cB, n, .inl g_26))]) [4, 5] rfl
    have hDc := hD.sub (ws' := [(im, .inr (1, [.ref iq, .int L])), (iq, .inl (cB, n, .inl g_26))]) [4, 5] (by decide +kernel) rfl
    have hFc := va_free (wc := [(im, .inr (1, [.ref iq, .int L])), (iq, .inl (cB, n, .inl g_26))]) hD hS hA [4, 5] rfl
    have hkc : 0 ≤ 0 := by decide
    have hks : 0 ≤ 0 := by decide
    refine va_callv (va_runV (C := "DiscMaker$Bytes") (As := [.int v28, .int r4, .int 4]) (rest := []) ⟨hx, hb, hml, hown, hts⟩ (c3_putBoth4F l D cB cI cJ cZ cN cF H.size im iq n L g_26 v28 r4 (by (try dsimp only); first | assumption | omega | trivial) (by (try dsimp only); first | assumption | omega | trivial) (by (try dsimp only); first | assumption | omega | trivial)) (cwV 3 hts (lg_goodV k1056 k1023 k1024 k119 kc_Bytes_putBoth) rfl rfl rfl (by decide +kernel) ⟨Nat.le_of_ble_eq_true rfl, Nat.le_of_ble_eq_true rfl⟩) ⟨fun a U g mk q => by obtain ⟨q0, q1, qP, qK, qN, qD⟩ := q; exact ⟨q0, q1, qP, va_K.moved (u := U) (U := U.calling g mk a) (Vm.Alike.refl U.vm) qK, qN.calling, qD⟩, va_recv hK hP (ci := 1) (q0 := 4) rfl rfl, fun U hU hW => ⟨rfl, by rw [hU], by rw [hU]; exact hPc, va_K.moved hW.alike hK, NN.warm hW hN, hDc.weaken (fun _ _ _ _ => trivial)⟩⟩ rfl rfl hl.1 rfl (lv_room (Nat.le_of_ble_eq_true rfl)) d_Maker_writeParts_129 ⟨hkc, hks⟩) hS (fun q _ h => hFc q h) hFc (fun u t H1 locs ht hvm hp_r29 hB hz1 hk1 hS => ?_)
    obtain ⟨g_30, rfl⟩ : ∃ z, z = u := ⟨_, rfl⟩
    obtain ⟨hP1, hD1⟩ := hB
    rw [ht] at hP1
    obtain ⟨hP, hD⟩ := va_join (wr := [(m0, .inr (4, [.ref tr, .ref im, .ref fi, .ref se, .ref u0, .ref id, .ref ct, .int ra, .int ru, .int wg])), (u0, .inr (8, [.ref pb, .ref en, .int uc, .int uk])), (pb, .inr (1, [.ref pq, .int pL])), (pq, .inl (cB, 400, .inl pf))]) (w1 := [(im, .inr (1, [.ref iq, .int L])), (iq, .inl (cB, n, .inl g_30))]) hP hD [4, 5] [0, 1, 2, 3] rfl rfl (by decide +kernel) (by decide +kernel) hk1 hFc hP1 hD1
    clear hPc hDc hFc hP1 hD1 hk1 hz1 hkc hks
    generalize H1 = H at hP hS ⊢
    have hP : va_P D CL [(m0, .inr (4, [.ref tr, .ref im, .ref fi, .ref se, .ref u0, .ref id, .ref ct, .int ra, .int ru, .int wg])), (u0, .inr (8, [.ref pb, .ref en, .int uc, .int uk])), (pb, .inr (1, [.ref pq, .int pL])), (pq, .inl (cB, 400, .inl pf)), (im, .inr (1, [.ref iq, .int L])), (iq, .inl (cB, n, .inl g_30))] H := hP
    have hD : va_D A [(m0, .inr (4, [.ref tr, .ref im, .ref fi, .ref se, .ref u0, .ref id, .ref ct, .int ra, .int ru, .int wg])), (u0, .inr (8, [.ref pb, .ref en, .int uc, .int uk])), (pb, .inr (1, [.ref pq, .int pL])), (pq, .inl (cB, 400, .inl pf)), (im, .inr (1, [.ref iq, .int L])), (iq, .inl (cB, n, .inl g_30))] := hD
    try dsimp only at hp_r29
    have hw_31 := hp_r29
    refine lv_aload_n hx hb d_Maker_writeParts_132 rfl (lv_at hl 2 rfl) ?_
    refine va_get (D := D) (ci := 4) (v := .ref u0) (C := "DiscMaker$Maker") (T := F_Maker) (N := 10) hx hb ht9 in_Maker hown hK hP 0 rfl rfl 4 (by decide) (ht9 _ k351) (fun _ h9 => h9) rfl d_Maker_writeParts_133 ?_
    refine va_getN (D := D) (ci := 8) (v := .ref pb) (C := "DiscMaker$SystemUse") (T := F_SystemUse) (N := 4) hx hb ht9 in_SystemUse hown hK hP 1 rfl rfl 0 (by decide) (va_Nw.use rfl (hN _ k331)) (fun _ h9 => h9) rfl d_Maker_writeParts_136 ?_
    refine lv_aload_n hx hb d_Maker_writeParts_139 rfl (lv_at hl 2 rfl) ?_
    refine va_get (D := D) (ci := 4) (v := .ref im) (C := "DiscMaker$Maker") (T := F_Maker) (N := 10) hx hb ht9 in_Maker hown hK hP 0 rfl rfl 1 (by decide) (ht9 _ k348) (fun _ h9 => h9) rfl d_Maker_writeParts_140 ?_
    refine lv_aload_n hx hb d_Maker_writeParts_143 rfl (lv_at hl 2 rfl) ?_
    refine va_get (D := D) (ci := 4) (v := .ref u0) (C := "DiscMaker$Maker") (T := F_Maker) (N := 10) hx hb ht9 in_Maker hown hK hP 0 rfl rfl 4 (by decide) (ht9 _ k351) (fun _ h9 => h9) rfl d_Maker_writeParts_144 ?_
    refine va_getN (D := D) (ci := 8) (v := .int uk) (C := "DiscMaker$SystemUse") (T := F_SystemUse) (N := 4) hx hb ht9 in_SystemUse hown hK hP 1 rfl rfl 3 (by decide) (va_Nw.use rfl (hN _ k335)) (fun _ h9 => h9) rfl d_Maker_writeParts_147 ?_
    refine lv_aload_n hx hb d_Maker_writeParts_150 rfl (lv_at hl 2 rfl) ?_
    refine va_get (D := D) (ci := 4) (v := .int ru) (C := "DiscMaker$Maker") (T := F_Maker) (N := 10) hx hb ht9 in_Maker hown hK hP 0 rfl rfl 8 (by decide) (ht9 _ k355) (fun _ h9 => h9) rfl d_Maker_writeParts_151 ?_
    refine lv_iload_n hx hb d_Maker_writeParts_154 rfl (lv_at hl 1 rfl) ?_
    have hPc := hP.sub (ws' := [(pb, .inr (1, [.ref pq, .int pL])), (pq, .inl (cB, 400, .inl pf)), (im, .inr (1, [.ref iq, .int L])), (iq, .inl (cB, n, .inl g_30))]) [2, 3, 4, 5] rfl
    have hDc := hD.sub (ws' := [(pb, .inr (1, [.ref pq, .int pL])), (pq, .inl (cB, 400, .inl pf)), (im, .inr (1, [.ref iq, .int L])), (iq, .inl (cB, n, .inl g_30))]) [2, 3, 4, 5] (by decide +kernel) rfl
    have hFc := va_free (wc := [(pb, .inr (1, [.ref pq, .int pL])), (pq, .inl (cB, 400, .inl pf)), (im, .inr (1, [.ref iq, .int L])), (iq, .inl (cB, n, .inl g_30))]) hD hS hA [2, 3, 4, 5] rfl
    have hkc : 0 ≤ 0 := by decide
    have hks : 0 ≤ 0 := by decide
    refine va_callv (va_runV (C := "DiscMaker$Bytes") (As := [.ref im, .int uk, .int ru, .int r4]) (rest := []) ⟨hx, hb, hml, hown, hts⟩ (c3_copyToF l D cB cI cJ cZ cN cF H.size pb pq 400 pL pf im iq n L g_30 uk ru r4 (by (try dsimp only); first | assumption | omega | trivial) (by (try dsimp only); first | assumption | omega | trivial) (by (try dsimp only); first | assumption | omega | trivial) (by (try dsimp only); first | assumption | omega | trivial) (by (try dsimp only); first | assumption | omega | trivial) (by (try dsimp only); first | assumption | omega | trivial)) (cwV 4 hts (lg_goodV k1060 k1061 k1062 k119 kc_Bytes_copyTo) rfl rfl rfl (by decide +kernel) ⟨Nat.le_of_ble_eq_true rfl, Nat.le_of_ble_eq_true rfl⟩) ⟨fun a U g mk q => by obtain ⟨q0, q1, qP, qK, qN, qD⟩ := q; exact ⟨q0, q1, qP, va_K.moved (u := U) (U := U.calling g mk a) (Vm.Alike.refl U.vm) qK, qN.calling, qD⟩, va_recv hK hP (ci := 1) (q0 := 2) rfl rfl, fun U hU hW => ⟨rfl, by rw [hU], by rw [hU]; exact hPc, va_K.moved hW.alike hK, NN.warm hW hN, hDc.weaken (fun _ _ _ _ => trivial)⟩⟩ rfl rfl hl.1 rfl (lv_room (Nat.le_of_ble_eq_true rfl)) d_Maker_writeParts_155 ⟨hkc, hks⟩) hS (fun q _ h => hFc q h) hFc (fun u t H1 locs ht hvm hp_r32 hB hz1 hk1 hS => ?_)
    obtain ⟨g_33, rfl⟩ : ∃ z, z = u := ⟨_, rfl⟩
    obtain ⟨hP1, hD1⟩ := hB
    rw [ht] at hP1
    obtain ⟨hP, hD⟩ := va_join (wr := [(m0, .inr (4, [.ref tr, .ref im, .ref fi, .ref se, .ref u0, .ref id, .ref ct, .int ra, .int ru, .int wg])), (u0, .inr (8, [.ref pb, .ref en, .int uc, .int uk]))]) (w1 := [(pb, .inr (1, [.ref pq, .int pL])), (pq, .inl (cB, 400, .inl pf)), (im, .inr (1, [.ref iq, .int L])), (iq, .inl (cB, n, .inl g_33))]) hP hD [2, 3, 4, 5] [0, 1] rfl rfl (by decide +kernel) (by decide +kernel) hk1 hFc hP1 hD1
    clear hPc hDc hFc hP1 hD1 hk1 hz1 hkc hks
    generalize H1 = H at hP hS ⊢
    have hP : va_P D CL [(m0, .inr (4, [.ref tr, .ref im, .ref fi, .ref se, .ref u0, .ref id, .ref ct, .int ra, .int ru, .int wg])), (u0, .inr (8, [.ref pb, .ref en, .int uc, .int uk])), (pb, .inr (1, [.ref pq, .int pL])), (pq, .inl (cB, 400, .inl pf)), (im, .inr (1, [.ref iq, .int L])), (iq, .inl (cB, n, .inl g_33))] H := hP
    have hD : va_D A [(m0, .inr (4, [.ref tr, .ref im, .ref fi, .ref se, .ref u0, .ref id, .ref ct, .int ra, .int ru, .int wg])), (u0, .inr (8, [.ref pb, .ref en, .int uc, .int uk])), (pb, .inr (1, [.ref pq, .int pL])), (pq, .inl (cB, 400, .inl pf)), (im, .inr (1, [.ref iq, .int L])), (iq, .inl (cB, n, .inl g_33))] := hD
    try dsimp only at hp_r32
    have hw_34 := hp_r32
    have hpq := hPq9.1
    rw [List.length_append] at hpq
    have hc1 : tbL (fun i => imC pf ((0 : Int32).toNatClampNeg + i)) uk.toInt.toNat = P9 := (tbL_congr (fun i _ => by rw [show (0 : Int32).toNatClampNeg = 0 by decide, Nat.zero_add])).trans (by rw [show uk.toInt.toNat = P9.length by omega]; exact hPq9.split.1)
    have hw1 := hw_3
    rw [hc1] at hw1
    have huc := i_cl (a := uk) (by omega)
    have hc2 : tbL (fun i => imC pf (uk.toNatClampNeg + i)) r4.toInt.toNat = Q9 := by rw [show uk.toNatClampNeg = P9.length by omega, show r4.toInt.toNat = Q9.length by omega]; exact hPq9.split.2
    have hw8 := hw_34
    rw [hc2] at hw8
    have hP9 := hP.sub (ws' := [(m0, .inr (4, [.ref tr, .ref im, .ref fi, .ref se, .ref u0, .ref id, .ref ct, .int ra, .int ru, .int wg])), (u0, .inr (8, [.ref pb, .ref en, .int uc, .int uk])), (pb, .inr (1, [.ref pq, .int pL])), (pq, .inl (cB, 400, .inl pf)), (im, .inr (1, [.ref iq, .int L])), (iq, .inl (cB, n, .inl g_33))]) [0, 1, 2, 3, 4, 5] rfl
    have hD9 := hD.sub (ws' := [(m0, .inr (4, [.ref tr, .ref im, .ref fi, .ref se, .ref u0, .ref id, .ref ct, .int ra, .int ru, .int wg])), (u0, .inr (8, [.ref pb, .ref en, .int uc, .int uk])), (pb, .inr (1, [.ref pq, .int pL])), (pq, .inl (cB, 400, .inl pf)), (im, .inr (1, [.ref iq, .int L])), (iq, .inl (cB, n, .inl g_33))]) [0, 1, 2, 3, 4, 5] (by decide +kernel) rfl
    exact W.vret hx hb hr (fun t ht hW => ⟨⟨g_33, rfl, (WP_1 hw1 hw_9 hw_13 hw_17 hw_22 hw_27 hw_31 hw8 hPl (by omega) (by omega) (by omega) (by omega) (by omega) (by omega) rfl (by omega) (by omega) (by omega) (by omega) (by omega) (by omega)), by rw [ht]; exact hP9, hD9⟩, hS.F ht⟩) hS.2.2 d_Maker_writeParts_158
