set_option maxHeartbeats 4000000 in
set_option maxRecDepth 100000 in
theorem c3_writeContentsF (l : Launch) (D : va_G) (cB cI cJ cZ cN cF : ClassId) (sz : Nat) (m0 : Nat) (tr : Nat) (im : Nat) (fi : Nat) (se : Nat) (u0 : Nat) (id : Nat) (ct : Nat) (ra : Int32) (ru : Int32) (wg : Int32) (cc : Nat → Int32) (iq : Nat) (n : Nat) (L : Int32) (f : Nat → Int32) (ta : Nat) (cn : Int32) (dr : Int32) (na : Nat → Nat → Nat) (ng : Nat → Nat → Int32) (nn : Nat → Nat → Nat) (nf : Nat → Nat → Nat → Int32) (cm : Nat) (dt : Nat → Nat → Int) (T9 : List (Int × List Int)) (Z9 : Int) (x9 : Int) (hL : 0 ≤ L.toInt ∧ L.toInt ≤ n) (hn : n ≤ 3000000) (hcn : cn.toInt = cm) (hcm : cm ≤ 40) (htok : TOK cm ng nn) (hdt : DtC dt cm ng nn nf) (hcp : CtP dt x9 cc cm) (h60 : ∀ k, k < cm → 0 ≤ dt 6 k ∧ dt 6 k ≤ 4100) (hx9 : 0 ≤ x9 ∧ (x9 + ctS dt cm) * 2048 ≤ L.toInt) (hI : Img Z9 (imC f) T9) (hT9 : ∀ c ∈ T9, c.1 + c.2.length ≤ x9 * 2048) : Met l y_Maker_writeContents w_Maker_writeContents ({ frames := 2, cells := 0, slots := 0, locals := 57 }) (va_Pc [.ref m0] (fun U => U.heap.size = sz ∧ va_P D CL [(m0, .inr (4, [.ref tr, .ref im, .ref fi, .ref se, .ref u0, .ref id, .ref ct, .int ra, .int ru, .int wg])), (ct, .inl (cI, 40, .inl cc)), (im, .inr (1, [.ref iq, .int L])), (iq, .inl (cB, n, .inl f))] U.heap ∧ va_K D CL (TY cB cI cJ cZ cN cF) U ∧ NN U ∧ va_D (fun _ => True) [(m0, .inr (4, [.ref tr, .ref im, .ref fi, .ref se, .ref u0, .ref id, .ref ct, .int ra, .int ru, .int wg])), (ct, .inl (cI, 40, .inl cc)), (im, .inr (1, [.ref iq, .int L])), (iq, .inl (cB, n, .inl f))] ∧ RO D (([(tr, .inr (10, [.ref ta, .int cn, .int dr])), (ta, .inl (cN, 40, .inr (.inr (.inr (.inr (rowF na cm))))))] : va_W) ++ (PL (NC cB na ng nn nf) cm)) (va_A [(m0, .inr (4, [.ref tr, .ref im, .ref fi, .ref se, .ref u0, .ref id, .ref ct, .int ra, .int ru, .int wg])), (ct, .inl (cI, 40, .inl cc)), (im, .inr (1, [.ref iq, .int L])), (iq, .inl (cB, n, .inl f))] sz) U U.heap)) (va_Qv (fun (u : (Nat → Int32)) => match u with | g => (Img Z9 (imC g) (ctT dt (fun k => ng k 8) cc cm ++ T9))) (fun (u : (Nat → Int32)) (t : State) => match u with | g => va_P D CL [(m0, .inr (4, [.ref tr, .ref im, .ref fi, .ref se, .ref u0, .ref id, .ref ct, .int ra, .int ru, .int wg])), (ct, .inl (cI, 40, .inl cc)), (im, .inr (1, [.ref iq, .int L])), (iq, .inl (cB, n, .inl g))] t.heap ∧ va_D (va_A [(m0, .inr (4, [.ref tr, .ref im, .ref fi, .ref se, .ref u0, .ref id, .ref ct, .int ra, .int ru, .int wg])), (ct, .inl (cI, 40, .inl cc)), (im, .inr (1, [.ref iq, .int L])), (iq, .inl (cB, n, .inl f))] sz) [(m0, .inr (4, [.ref tr, .ref im, .ref fi, .ref se, .ref u0, .ref id, .ref ct, .int ra, .int ru, .int wg])), (ct, .inl (cI, 40, .inl cc)), (im, .inr (1, [.ref iq, .int L])), (iq, .inl (cB, n, .inl g))]) (va_A [(m0, .inr (4, [.ref tr, .ref im, .ref fi, .ref se, .ref u0, .ref id, .ref ct, .int ra, .int ru, .int wg])), (ct, .inl (cI, 40, .inl cc)), (im, .inr (1, [.ref iq, .int L])), (iq, .inl (cB, n, .inl f))] sz)) 0 0 (va_A [(m0, .inr (4, [.ref tr, .ref im, .ref fi, .ref se, .ref u0, .ref id, .ref ct, .int ra, .int ru, .int wg])), (ct, .inl (cI, 40, .inl cc)), (im, .inr (1, [.ref iq, .int L])), (iq, .inl (cB, n, .inl f))] sz) := by
  refine Met.ofW (cc := b_Maker_writeContents) (maxL := 2) (ret := none) (by decide +kernel) rfl ?_
  intro p e s m args below meth c s₁ B hml hv
  obtain ⟨rfl, hsz, hP, hK, hN, hD0, hZr⟩ := hv
  have hx := B.exec
  have hb := B.bytes
  have hr := B.returns
  have hts := atoms_spec (ws := w_Maker_writeContents) B.pre
  have ht9 := fun (w : Cond) (h : w ∈ lw_g) => hts w (List.mem_cons_of_mem _ h)
  have hown : s.vm.findClass "DiscMaker$Maker" = some m.cls := findClass_of_methodNamed B.named
  have hlocks := B.notSynchronized
  subst hsz
  have hD := hD0.self (sz := s.heap.size)
  generalize hAe : va_A [(m0, .inr (4, [.ref tr, .ref im, .ref fi, .ref se, .ref u0, .ref id, .ref ct, .int ra, .int ru, .int wg])), (ct, .inl (cI, 40, .inl cc)), (im, .inr (1, [.ref iq, .int L])), (iq, .inl (cB, n, .inl f))] s.heap.size = A at hD hZr ⊢
  have hA : ∀ q : Nat, s.heap.size ≤ q → A q := fun q h => by rw [← hAe]; exact Or.inr h
  have hS : va_S A s.heap s.heap [] := va_S.rf
  have hP : va_P D CL [(m0, .inr (4, [.ref tr, .ref im, .ref fi, .ref se, .ref u0, .ref id, .ref ct, .int ra, .int ru, .int wg])), (ct, .inl (cI, 40, .inl cc)), (im, .inr (1, [.ref iq, .int L])), (iq, .inl (cB, n, .inl f))] s.heap := hP
  have hl := lv_entry [.ref m0] (n := 2) (Nat.le_of_ble_eq_true rfl)
  rw [lg_entry_eq]
  generalize (lg_sl [.ref m0] ++ List.replicate (2 - (lg_sl [.ref m0]).length) Slot.unset).toArray = ls at hl ⊢
  have hl : lv_has ls 2 [(0, .ref m0)] := hl
  have L_m1 : ((-1) : Int32).toInt = (-1) := by decide
  have L_0 : (0 : Int32).toInt = 0 := by decide
  have L_1 : (1 : Int32).toInt = 1 := by decide
  have L_2048 : (2048 : Int32).toInt = 2048 := by decide
  refine lv_iconst (v := 0) hx hb d_Maker_writeContents_0 (by decide) ?_
  refine lv_istore_n hx hb d_Maker_writeContents_1 rfl hl (by decide) rfl (fun ls hl => ?_)
  have hl : lv_has ls 2 [(1, .int 0), (0, .ref m0)] := hl
  refine zz_labM (B := fun (lk : Nat) (K : Heap → List Loc → Array Slot → List Value → Prop) => ∀ (kx : Int32) (lf : Nat → Int32) (H : Heap) (locs : List Loc) (ls : Array Slot), lk = (cn.toInt - kx.toInt).toNat → (0 ≤ kx.toInt ∧ kx.toInt ≤ cn.toInt) → (Img Z9 (imC lf) (ctT dt (fun k => ng k 8) cc kx.toNatClampNeg ++ T9)) → va_P D CL [(m0, .inr (4, [.ref tr, .ref im, .ref fi, .ref se, .ref u0, .ref id, .ref ct, .int ra, .int ru, .int wg])), (ct, .inl (cI, 40, .inl cc)), (im, .inr (1, [.ref iq, .int L])), (iq, .inl (cB, n, .inl lf))] H → va_D A [(m0, .inr (4, [.ref tr, .ref im, .ref fi, .ref se, .ref u0, .ref id, .ref ct, .int ra, .int ru, .int wg])), (ct, .inl (cI, 40, .inl cc)), (im, .inr (1, [.ref iq, .int L])), (iq, .inl (cB, n, .inl lf))] → va_S A s.heap H locs → lv_has ls 2 [(0, .ref m0), (1, .int kx)] → K H locs ls []) 2 ?_ ?_
  · skip
    intro lk ih2 kx lf H locs ls hm2 e1 e3 hP hD hS hl
    refine lv_iload_n hx hb d_Maker_writeContents_2 rfl (lv_at hl 1 rfl) ?_
    refine lv_aload_n hx hb d_Maker_writeContents_3 rfl (lv_at hl 0 rfl) ?_
    refine va_get (D := D) (ci := 4) (v := .ref tr) (C := "DiscMaker$Maker") (T := F_Maker) (N := 10) hx hb ht9 in_Maker hown hK hP 0 rfl rfl 0 (by decide) (ht9 _ k347) (fun _ h9 => h9) rfl d_Maker_writeContents_4 ?_
    have hPR := RO_at hZr hS
    refine va_getN (D := D) (ci := 10) (v := .int cn) (C := "DiscMaker$Tree") (T := F_Tree) (N := 3) hx hb ht9 in_Tree hown hK hPR 0 rfl rfl 1 (by decide) (va_Nw.use rfl (hN _ k241)) (fun _ h9 => h9) rfl d_Maker_writeContents_7 ?_
    refine lv_icmp_ge (tgt := 51) hx hb d_Maker_writeContents_10 (by decide) (fun h_9 => ?_) (fun h_9 => ?_)
    · skip
      have g10_7 : cn.toInt ≤ kx.toInt := (i_le rfl rfl).mp h_9
      have hP9 := hP.sub (ws' := [(m0, .inr (4, [.ref tr, .ref im, .ref fi, .ref se, .ref u0, .ref id, .ref ct, .int ra, .int ru, .int wg])), (ct, .inl (cI, 40, .inl cc)), (im, .inr (1, [.ref iq, .int L])), (iq, .inl (cB, n, .inl lf))]) [0, 1, 2, 3] rfl
      have hD9 := hD.sub (ws' := [(m0, .inr (4, [.ref tr, .ref im, .ref fi, .ref se, .ref u0, .ref id, .ref ct, .int ra, .int ru, .int wg])), (ct, .inl (cI, 40, .inl cc)), (im, .inr (1, [.ref iq, .int L])), (iq, .inl (cB, n, .inl lf))]) [0, 1, 2, 3] (by decide +kernel) rfl
      exact W.vret hx hb hr (fun t ht hW => ⟨⟨lf, rfl, (by (try dsimp only); (have h7 := i_cl (a := kx) (by omega)); rw [show cm = kx.toNatClampNeg by omega]; exact e3), by rw [ht]; exact hP9, hD9⟩, hS.F ht⟩) hS.2.2 d_Maker_writeContents_51
    · skip
      have g10_7 : ¬ cn.toInt ≤ kx.toInt := fun h8 => h_9 ((i_le rfl rfl).mpr h8)
      refine lv_aload_n hx hb d_Maker_writeContents_13 rfl (lv_at hl 0 rfl) ?_
      refine lv_iload_n hx hb d_Maker_writeContents_14 rfl (lv_at hl 1 rfl) ?_
      have hPc := hP.sub (ws' := [(m0, .inr (4, [.ref tr, .ref im, .ref fi, .ref se, .ref u0, .ref id, .ref ct, .int ra, .int ru, .int wg]))]) [0] rfl
      have hDc := hD.sub (ws' := [(m0, .inr (4, [.ref tr, .ref im, .ref fi, .ref se, .ref u0, .ref id, .ref ct, .int ra, .int ru, .int wg]))]) [0] (by decide +kernel) rfl
      have hFc := va_free (wc := [(m0, .inr (4, [.ref tr, .ref im, .ref fi, .ref se, .ref u0, .ref id, .ref ct, .int ra, .int ru, .int wg]))]) hD hS hA [0] rfl
      have hkc : 0 ≤ 0 := by decide
      have hks : 0 ≤ 0 := by decide
      refine va_calli (va_runV (C := "DiscMaker$Maker") (As := [.int kx]) (rest := []) ⟨hx, hb, hml, hown, hts⟩ (c3_firstWithContentsF l D cB cI cJ cZ cN cF H.size m0 tr im fi se u0 id ct ra ru wg ta cn dr na ng nn nf cm dt kx (by (try dsimp only); first | assumption | omega | trivial) (by (try dsimp only); first | assumption | omega | trivial) (by (try dsimp only); first | assumption | omega | trivial) (hdt) (by (try dsimp only); first | assumption | omega | trivial)) (cwV 1 hts (lg_goodV k1077 k1079 k24 k120 kc_Maker_firstWithContents) rfl rfl rfl (by decide +kernel) ⟨Nat.le_of_ble_eq_true rfl, Nat.le_of_ble_eq_true rfl⟩) ⟨fun a U g mk q => by obtain ⟨q0, q1, qP, qK, qN, qD, qZ0⟩ := q; exact ⟨q0, q1, qP, va_K.moved (u := U) (U := U.calling g mk a) (Vm.Alike.refl U.vm) qK, qN.calling, qD, RO_blind qZ0⟩, va_recv hK hP (ci := 4) (q0 := 0) rfl rfl, fun U hU hW => ⟨rfl, by rw [hU], by rw [hU]; exact hPc, va_K.moved hW.alike hK, NN.warm hW hN, hDc.weaken (fun _ _ _ _ => trivial), (RO_app (w1 := [(tr, .inr (10, [.ref ta, .int cn, .int dr]))]) (w2 := (([(ta, .inl (cN, 40, .inr (.inr (.inr (.inr (rowF na cm))))))] : va_W) ++ (PL (NC cB na ng nn nf) cm))) (RO_pass (RO_one hZr 0 rfl) hS hFc hU) (RO_app (w1 := [(ta, .inl (cN, 40, .inr (.inr (.inr (.inr (rowF na cm))))))]) (w2 := (PL (NC cB na ng nn nf) cm)) (RO_pass (RO_one hZr 1 rfl) hS hFc hU) (RO_pass (RO_tail (X := [(tr, .inr (10, [.ref ta, .int cn, .int dr])), (ta, .inl (cN, 40, .inr (.inr (.inr (.inr (rowF na cm))))))]) hZr) hS hFc hU)))⟩⟩ rfl rfl hl.1 rfl (lv_room (Nat.le_of_ble_eq_true rfl)) d_Maker_writeContents_15 ⟨hkc, hks⟩) hS (fun q _ h => hFc q h) hFc (fun r1 u t H1 locs ht hvm hp_r1 hB hz1 hk1 hS => ?_)
      obtain ⟨hP1, hD1⟩ := hB
      rw [ht] at hP1
      obtain ⟨hP, hD⟩ := va_join (wr := [(ct, .inl (cI, 40, .inl cc)), (im, .inr (1, [.ref iq, .int L])), (iq, .inl (cB, n, .inl lf))]) (w1 := [(m0, .inr (4, [.ref tr, .ref im, .ref fi, .ref se, .ref u0, .ref id, .ref ct, .int ra, .int ru, .int wg]))]) hP hD [0] [1, 2, 3] rfl rfl (by decide +kernel) (by decide +kernel) hk1 hFc hP1 hD1
      clear hPc hDc hFc hP1 hD1 hk1 hz1 hkc hks
      generalize H1 = H at hP hS ⊢
      have hP : va_P D CL [(ct, .inl (cI, 40, .inl cc)), (im, .inr (1, [.ref iq, .int L])), (iq, .inl (cB, n, .inl lf)), (m0, .inr (4, [.ref tr, .ref im, .ref fi, .ref se, .ref u0, .ref id, .ref ct, .int ra, .int ru, .int wg]))] H := hP
      have hD : va_D A [(ct, .inl (cI, 40, .inl cc)), (im, .inr (1, [.ref iq, .int L])), (iq, .inl (cB, n, .inl lf)), (m0, .inr (4, [.ref tr, .ref im, .ref fi, .ref se, .ref u0, .ref id, .ref ct, .int ra, .int ru, .int wg]))] := hD
      try dsimp only at hp_r1
      obtain ⟨hr_2, hn9_3, hf9_4⟩ := hp_r1
      refine lv_iload_n hx hb d_Maker_writeContents_18 rfl (lv_at hl 1 rfl) ?_
      refine lv_icmp_ne (tgt := 45) hx hb d_Maker_writeContents_19 (by decide) (fun h_9 => ?_) (fun h_9 => ?_)
      · skip
        have g19_13 : ¬ r1.toInt = kx.toInt := fun h8 => h_9 ((i_eq rfl rfl).mpr h8)
        obtain ⟨v5, e_v5⟩ : ∃ z : Int32, z = kx + 1 := ⟨_, rfl⟩
        refine lv_iinc (v := v5) hx hb d_Maker_writeContents_45 hl (k := 1) rfl e_v5.symm (by decide +kernel) rfl (fun ls hl => ?_)
        have t_v5 : v5.toInt = kx.toInt + 1 := by rw [e_v5]; exact i_add rfl (by decide) (by omega) (by omega)
        have hl : lv_has ls 2 [(1, .int v5), (0, .ref m0)] := hl
        refine lv_goto (tgt := 2) hx hb d_Maker_writeContents_48 (by decide) ?_
        have hP := hP.sub (ws' := [(m0, .inr (4, [.ref tr, .ref im, .ref fi, .ref se, .ref u0, .ref id, .ref ct, .int ra, .int ru, .int wg])), (ct, .inl (cI, 40, .inl cc)), (im, .inr (1, [.ref iq, .int L])), (iq, .inl (cB, n, .inl lf))]) [3, 0, 1, 2] rfl
        have hD := hD.sub (ws' := [(m0, .inr (4, [.ref tr, .ref im, .ref fi, .ref se, .ref u0, .ref id, .ref ct, .int ra, .int ru, .int wg])), (ct, .inl (cI, 40, .inl cc)), (im, .inr (1, [.ref iq, .int L])), (iq, .inl (cB, n, .inl lf))]) [3, 0, 1, 2] (by decide +kernel) rfl
        have hl := lv_sub hl [1, 0] rfl
        exact ih2 _ (by first | omega | (dsimp only; omega)) v5 lf _ _ _ rfl ((by (try dsimp only); first | assumption | omega | trivial)) ((by (have h7 := i_cl (a := kx) (by omega)); (have h6 := i_cl (a := v5) (by omega)); rw [show v5.toNatClampNeg = kx.toNatClampNeg + 1 by omega]; rw [ctT_miss (fun h8 => absurd (hn9_3.mpr h8) (by omega))]; exact e3)) hP hD hS hl
      · skip
        have g19_13 : r1.toInt = kx.toInt := (i_eq rfl rfl).mp h_9
        refine lv_aload_n hx hb d_Maker_writeContents_22 rfl (lv_at hl 0 rfl) ?_
        refine lv_aload_n hx hb d_Maker_writeContents_23 rfl (lv_at hl 0 rfl) ?_
        refine va_get (D := D) (ci := 4) (v := .ref tr) (C := "DiscMaker$Maker") (T := F_Maker) (N := 10) hx hb ht9 in_Maker hown hK hP 3 rfl rfl 0 (by decide) (ht9 _ k347) (fun _ h9 => h9) rfl d_Maker_writeContents_24 ?_
        have hPR := RO_at hZr hS
        refine va_getN (D := D) (ci := 10) (v := .ref ta) (C := "DiscMaker$Tree") (T := F_Tree) (N := 3) hx hb ht9 in_Tree hown hK hPR 0 rfl rfl 0 (by decide) (va_Nw.use rfl (hN _ k237)) (fun _ h9 => h9) rfl d_Maker_writeContents_27 ?_
        refine lv_iload_n hx hb d_Maker_writeContents_30 rfl (lv_at hl 1 rfl) ?_
        have hPR := RO_at hZr hS
        refine va_aldq hx hb hK hPR 1 4 rfl rfl (vp_in_iff.mpr ⟨by omega, by omega⟩) d_Maker_writeContents_31 ?_
        have c_hk6 := i_cl (a := kx) (by omega)
        have hk6 : kx.toNatClampNeg < cm := by omega
        have o_hk6 := htok kx.toNatClampNeg hk6
        obtain ⟨i_hj7, hj7⟩ : ∃ j : Nat, (PL (NC cB na ng nn nf) cm)[j]? = some ((na kx.toNatClampNeg 0), .inr (5, [.int (ng kx.toNatClampNeg 0), .ref (na kx.toNatClampNeg 1), .ref (na kx.toNatClampNeg 2), .ref (na kx.toNatClampNeg 3), .int (ng kx.toNatClampNeg 1), .int (ng kx.toNatClampNeg 2), .int (ng kx.toNatClampNeg 3), .int (ng kx.toNatClampNeg 4), .int (ng kx.toNatClampNeg 5), .int (ng kx.toNatClampNeg 6), .int (ng kx.toNatClampNeg 7), .int (ng kx.toNatClampNeg 8)])) := PL_get (i := 0) hk6 rfl
        obtain ⟨i_hj8, hj8⟩ : ∃ j : Nat, (PL (NC cB na ng nn nf) cm)[j]? = some ((na kx.toNatClampNeg 1), .inl (cB, (nn kx.toNatClampNeg 1), .inl (nf kx.toNatClampNeg 1))) := PL_get (i := 1) hk6 rfl
        obtain ⟨i_hj9, hj9⟩ : ∃ j : Nat, (PL (NC cB na ng nn nf) cm)[j]? = some ((na kx.toNatClampNeg 2), .inl (cB, 11, .inl (nf kx.toNatClampNeg 2))) := PL_get (i := 2) hk6 rfl
        obtain ⟨i_hj10, hj10⟩ : ∃ j : Nat, (PL (NC cB na ng nn nf) cm)[j]? = some ((na kx.toNatClampNeg 3), .inl (cB, (nn kx.toNatClampNeg 3), .inl (nf kx.toNatClampNeg 3))) := PL_get (i := 3) hk6 rfl
        refine W.eq (g2 := F0 m 32 ls [.ref (na kx.toNatClampNeg 0), .ref m0]) (by rw [show rowF na cm kx.toNatClampNeg = some (na kx.toNatClampNeg 0) from rowF_some hk6]; rfl) ?_
        refine lv_aload_n hx hb d_Maker_writeContents_32 rfl (lv_at hl 0 rfl) ?_
        refine va_get (D := D) (ci := 4) (v := .ref ct) (C := "DiscMaker$Maker") (T := F_Maker) (N := 10) hx hb ht9 in_Maker hown hK hP 3 rfl rfl 6 (by decide) (ht9 _ k353) (fun _ h9 => h9) rfl d_Maker_writeContents_33 ?_
        refine lv_iload_n hx hb d_Maker_writeContents_36 rfl (lv_at hl 1 rfl) ?_
        refine va_iald hx hb hK hP 0 1 rfl rfl (vp_in_iff.mpr ⟨by omega, by omega⟩) d_Maker_writeContents_37 ?_
        refine lv_topi (fun v11 e_v11 => ?_)
        have q9v11 : v11.toInt = (cc kx.toNatClampNeg).toInt := by rw [e_v11]
        have hn0 := hn9_3.mp (by omega)
        have hkc0 := i_cl (a := kx) (by omega)
        have ha0 := ct_at hcp (by omega) hn0
        have hb0 := ctS_mono (dt := dt) (i := kx.toNatClampNeg + 1) (j := cm) (by omega) (fun i hi => (h60 i hi).1)
        rw [ctS_hit hn0] at hb0
        have h6k := h60 kx.toNatClampNeg (by omega)
        have hb1 := ctS_mono (dt := dt) (i := 0) (j := kx.toNatClampNeg) (Nat.zero_le _) (fun i hi => (h60 i (by omega)).1)
        have z00 : ctS dt 0 = 0 := rfl
        have dd0 := (hdt kx.toNatClampNeg (by omega)).1
        refine lv_sipush (v := 2048) hx hb d_Maker_writeContents_38 (by decide) ?_
        refine lv_imul hx hb d_Maker_writeContents_41 ?_
        refine lv_topi (fun v12 e_v12 => ?_)
        have t_v12 : v12.toInt = v11.toInt * 2048 := by rw [e_v12]; exact i_mul rfl (by decide) (by omega) (by omega)
        have hPc := hP.sub (ws' := [(m0, .inr (4, [.ref tr, .ref im, .ref fi, .ref se, .ref u0, .ref id, .ref ct, .int ra, .int ru, .int wg])), (im, .inr (1, [.ref iq, .int L])), (iq, .inl (cB, n, .inl lf))]) [3, 1, 2] rfl
        have hDc := hD.sub (ws' := [(m0, .inr (4, [.ref tr, .ref im, .ref fi, .ref se, .ref u0, .ref id, .ref ct, .int ra, .int ru, .int wg])), (im, .inr (1, [.ref iq, .int L])), (iq, .inl (cB, n, .inl lf))]) [3, 1, 2] (by decide +kernel) rfl
        have hFc := va_free (wc := [(m0, .inr (4, [.ref tr, .ref im, .ref fi, .ref se, .ref u0, .ref id, .ref ct, .int ra, .int ru, .int wg])), (im, .inr (1, [.ref iq, .int L])), (iq, .inl (cB, n, .inl lf))]) hD hS hA [3, 1, 2] rfl
        have hkc : 0 ≤ 0 := by decide
        have hks : 0 ≤ 0 := by decide
        refine va_callv (va_runV (C := "DiscMaker$Maker") (As := [.ref (na kx.toNatClampNeg 0), .int v12]) (rest := []) ⟨hx, hb, hml, hown, hts⟩ (c3_writeBytesF l D cB cI cJ cZ cN cF H.size m0 tr im fi se u0 id ct ra ru wg iq n L lf (na kx.toNatClampNeg 0) (na kx.toNatClampNeg 1) (na kx.toNatClampNeg 2) (na kx.toNatClampNeg 3) (ng kx.toNatClampNeg 0) (ng kx.toNatClampNeg 1) (ng kx.toNatClampNeg 2) (ng kx.toNatClampNeg 3) (ng kx.toNatClampNeg 4) (ng kx.toNatClampNeg 5) (ng kx.toNatClampNeg 6) (ng kx.toNatClampNeg 7) (ng kx.toNatClampNeg 8) v12 (by (try dsimp only); first | assumption | omega | trivial) (by (try dsimp only); first | assumption | omega | trivial) (by (try dsimp only); first | assumption | omega | trivial) (by (try dsimp only); first | assumption | omega | trivial)) (cwV 2 hts (lg_goodV k1119 k1121 k30 k120 kc_Maker_writeBytes) rfl rfl rfl (by decide +kernel) ⟨Nat.le_of_ble_eq_true rfl, Nat.le_of_ble_eq_true rfl⟩) ⟨fun a U g mk q => by obtain ⟨q0, q1, qP, qK, qN, qD, qZ0⟩ := q; exact ⟨q0, q1, qP, va_K.moved (u := U) (U := U.calling g mk a) (Vm.Alike.refl U.vm) qK, qN.calling, qD, RO_blind qZ0⟩, va_recv hK hP (ci := 4) (q0 := 3) rfl rfl, fun U hU hW => ⟨rfl, by rw [hU], by rw [hU]; exact hPc, va_K.moved hW.alike hK, NN.warm hW hN, hDc.weaken (fun _ _ _ _ => trivial), (RO_pass (RO_one hZr _ (pix (X := [(tr, .inr (10, [.ref ta, .int cn, .int dr])), (ta, .inl (cN, 40, .inr (.inr (.inr (.inr (rowF na cm))))))]) hj7)) hS hFc hU)⟩⟩ rfl rfl hl.1 rfl (lv_room (Nat.le_of_ble_eq_true rfl)) d_Maker_writeContents_42 ⟨hkc, hks⟩) hS (fun q _ h => hFc q h) hFc (fun u t H1 locs ht hvm hp_r13 hB hz1 hk1 hS => ?_)
        obtain ⟨g_14, rfl⟩ : ∃ z, z = u := ⟨_, rfl⟩
        obtain ⟨hP1, hD1⟩ := hB
        rw [ht] at hP1
        obtain ⟨hP, hD⟩ := va_join (wr := [(ct, .inl (cI, 40, .inl cc))]) (w1 := [(m0, .inr (4, [.ref tr, .ref im, .ref fi, .ref se, .ref u0, .ref id, .ref ct, .int ra, .int ru, .int wg])), (im, .inr (1, [.ref iq, .int L])), (iq, .inl (cB, n, .inl g_14))]) hP hD [3, 1, 2] [0] rfl rfl (by decide +kernel) (by decide +kernel) hk1 hFc hP1 hD1
        clear hPc hDc hFc hP1 hD1 hk1 hz1 hkc hks
        generalize H1 = H at hP hS ⊢
        have hP : va_P D CL [(ct, .inl (cI, 40, .inl cc)), (m0, .inr (4, [.ref tr, .ref im, .ref fi, .ref se, .ref u0, .ref id, .ref ct, .int ra, .int ru, .int wg])), (im, .inr (1, [.ref iq, .int L])), (iq, .inl (cB, n, .inl g_14))] H := hP
        have hD : va_D A [(ct, .inl (cI, 40, .inl cc)), (m0, .inr (4, [.ref tr, .ref im, .ref fi, .ref se, .ref u0, .ref id, .ref ct, .int ra, .int ru, .int wg])), (im, .inr (1, [.ref iq, .int L])), (iq, .inl (cB, n, .inl g_14))] := hD
        try dsimp only at hp_r13
        have hw_15 := hp_r13
        obtain ⟨v16, e_v16⟩ : ∃ z : Int32, z = kx + 1 := ⟨_, rfl⟩
        refine lv_iinc (v := v16) hx hb d_Maker_writeContents_45 hl (k := 1) rfl e_v16.symm (by decide +kernel) rfl (fun ls hl => ?_)
        have t_v16 : v16.toInt = kx.toInt + 1 := by rw [e_v16]; exact i_add rfl (by decide) (by omega) (by omega)
        have hl : lv_has ls 2 [(1, .int v16), (0, .ref m0)] := hl
        refine lv_goto (tgt := 2) hx hb d_Maker_writeContents_48 (by decide) ?_
        have hP := hP.sub (ws' := [(m0, .inr (4, [.ref tr, .ref im, .ref fi, .ref se, .ref u0, .ref id, .ref ct, .int ra, .int ru, .int wg])), (ct, .inl (cI, 40, .inl cc)), (im, .inr (1, [.ref iq, .int L])), (iq, .inl (cB, n, .inl g_14))]) [1, 0, 2, 3] rfl
        have hD := hD.sub (ws' := [(m0, .inr (4, [.ref tr, .ref im, .ref fi, .ref se, .ref u0, .ref id, .ref ct, .int ra, .int ru, .int wg])), (ct, .inl (cI, 40, .inl cc)), (im, .inr (1, [.ref iq, .int L])), (iq, .inl (cB, n, .inl g_14))]) [1, 0, 2, 3] (by decide +kernel) rfl
        have hl := lv_sub hl [1, 0] rfl
        exact ih2 _ (by first | omega | (dsimp only; omega)) v16 g_14 _ _ _ rfl ((by (try dsimp only); first | assumption | omega | trivial)) ((by (have h7 := i_cl (a := kx) (by omega)); (have h6 := i_cl (a := v16) (by omega)); rw [show v16.toNatClampNeg = kx.toNatClampNeg + 1 by omega]; (have hn := hn9_3.mp (by omega)); rw [ctT_hit hn, List.cons_append]; (have ha := ct_at hcp (by omega) hn); (have h0 := h60 kx.toNatClampNeg (by omega)); (have dd := (hdt kx.toNatClampNeg (by omega)).1); refine e3.add ((hw_15).cast (by rw [← q9v11]; omega) (by rw [show (dt 6 kx.toNatClampNeg).toNat = (ng kx.toNatClampNeg 7).toInt.toNat by omega])) (fun c hc => ?_); rcases List.mem_append.mp hc with hc | hc <;> first | (have hm := ctT_mem hcp (fun k hk => (h60 k hk).1) (by omega) c hc; exact Or.inl (by omega)) | (have hm := hT9 c hc; (have hs := ctS_mono (dt := dt) (i := 0) (j := kx.toNatClampNeg) (Nat.zero_le _) (fun i hi => (h60 i (by omega)).1)); (have z0 : ctS dt 0 = 0 := rfl); exact Or.inl (by omega)))) hP hD hS hl
  · skip
    intro kk2
    have hP := hP.sub (ws' := [(m0, .inr (4, [.ref tr, .ref im, .ref fi, .ref se, .ref u0, .ref id, .ref ct, .int ra, .int ru, .int wg])), (ct, .inl (cI, 40, .inl cc)), (im, .inr (1, [.ref iq, .int L])), (iq, .inl (cB, n, .inl f))]) [0, 1, 2, 3] rfl
    have hD := hD.sub (ws' := [(m0, .inr (4, [.ref tr, .ref im, .ref fi, .ref se, .ref u0, .ref id, .ref ct, .int ra, .int ru, .int wg])), (ct, .inl (cI, 40, .inl cc)), (im, .inr (1, [.ref iq, .int L])), (iq, .inl (cB, n, .inl f))]) [0, 1, 2, 3] (by decide +kernel) rfl
    have hl := lv_sub hl [1, 0] rfl
    exact kk2 _ 0 f _ _ _ rfl ((by (try dsimp only); first | assumption | omega | trivial)) ((by rw [show (0 : Int32).toNatClampNeg = 0 by decide]; exact hI)) hP hD hS hl

set_option maxHeartbeats 4000000 in
set_option maxRecDepth 100000 in
theorem c3_writeDescriptorHeadF (l : Launch) (D : va_G) (cB cI cJ cZ cN cF : ClassId) (sz : Nat) (m0 : Nat) (tr : Nat) (im : Nat) (fi : Nat) (se : Nat) (u0 : Nat) (id : Nat) (ct : Nat) (ra : Int32) (ru : Int32) (wg : Int32) (iq : Nat) (n : Nat) (L : Int32) (f : Nat → Int32) (td : Nat) (ts : Nat) (tl : Nat) (gd : Nat → Int32) (gs : Nat → Int32) (gl : Nat → Int32) (x : Int32) (y : Int32) (hL : 0 ≤ L.toInt ∧ L.toInt ≤ n) (hn : n ≤ 3000000) (hgs : tbL (fun i => (gs i).toInt % 256) 6 = [67, 68, 48, 48, 49, 1]) (hin : 0 ≤ x.toInt ∧ x.toInt ≤ 100 ∧ x.toInt * 2048 + 7 ≤ L.toInt) : Met l y_Maker_writeDescriptorHead w_Maker_writeDescriptorHead ({ frames := 2, cells := 0, slots := 0, locals := 57 }) (va_Pc [.ref m0, .int x, .int y] (fun U => U.heap.size = sz ∧ va_P D CL [(m0, .inr (4, [.ref tr, .ref im, .ref fi, .ref se, .ref u0, .ref id, .ref ct, .int ra, .int ru, .int wg])), (im, .inr (1, [.ref iq, .int L])), (iq, .inl (cB, n, .inl f))] U.heap ∧ va_K D CL (TY cB cI cJ cZ cN cF) U ∧ NN U ∧ va_D (fun _ => True) [(m0, .inr (4, [.ref tr, .ref im, .ref fi, .ref se, .ref u0, .ref id, .ref ct, .int ra, .int ru, .int wg])), (im, .inr (1, [.ref iq, .int L])), (iq, .inl (cB, n, .inl f))] ∧ SZ td ts tl gd gs gl (va_A [(m0, .inr (4, [.ref tr, .ref im, .ref fi, .ref se, .ref u0, .ref id, .ref ct, .int ra, .int ru, .int wg])), (im, .inr (1, [.ref iq, .int L])), (iq, .inl (cB, n, .inl f))] sz) U U.heap)) (va_Qv (fun (u : (Nat → Int32)) => match u with | g => (BL (imC f) (imC g) (x.toInt * 2048) (dhL y.toInt))) (fun (u : (Nat → Int32)) (t : State) => match u with | g => va_P D CL [(m0, .inr (4, [.ref tr, .ref im, .ref fi, .ref se, .ref u0, .ref id, .ref ct, .int ra, .int ru, .int wg])), (im, .inr (1, [.ref iq, .int L])), (iq, .inl (cB, n, .inl g))] t.heap ∧ va_D (va_A [(m0, .inr (4, [.ref tr, .ref im, .ref fi, .ref se, .ref u0, .ref id, .ref ct, .int ra, .int ru, .int wg])), (im, .inr (1, [.ref iq, .int L])), (iq, .inl (cB, n, .inl f))] sz) [(m0, .inr (4, [.ref tr, .ref im, .ref fi, .ref se, .ref u0, .ref id, .ref ct, .int ra, .int ru, .int wg])), (im, .inr (1, [.ref iq, .int L])), (iq, .inl (cB, n, .inl g))]) (va_A [(m0, .inr (4, [.ref tr, .ref im, .ref fi, .ref se, .ref u0, .ref id, .ref ct, .int ra, .int ru, .int wg])), (im, .inr (1, [.ref iq, .int L])), (iq, .inl (cB, n, .inl f))] sz)) 0 0 (va_A [(m0, .inr (4, [.ref tr, .ref im, .ref fi, .ref se, .ref u0, .ref id, .ref ct, .int ra, .int ru, .int wg])), (im, .inr (1, [.ref iq, .int L])), (iq, .inl (cB, n, .inl f))] sz) := by
  refine Met.ofW (cc := b_Maker_writeDescriptorHead) (maxL := 3) (ret := none) (by decide +kernel) rfl ?_
  intro p e s m args below meth c s₁ B hml hv
  obtain ⟨rfl, hsz, hP, hK, hN, hD0, hZs⟩ := hv
  have hx := B.exec
  have hb := B.bytes
  have hr := B.returns
  have hts := atoms_spec (ws := w_Maker_writeDescriptorHead) B.pre
  have ht9 := fun (w : Cond) (h : w ∈ lw_g) => hts w (List.mem_cons_of_mem _ h)
  have hown : s.vm.findClass "DiscMaker$Maker" = some m.cls := findClass_of_methodNamed B.named
  have hlocks := B.notSynchronized
  subst hsz
  have hD := hD0.self (sz := s.heap.size)
  generalize hAe : va_A [(m0, .inr (4, [.ref tr, .ref im, .ref fi, .ref se, .ref u0, .ref id, .ref ct, .int ra, .int ru, .int wg])), (im, .inr (1, [.ref iq, .int L])), (iq, .inl (cB, n, .inl f))] s.heap.size = A at hD hZs ⊢
  have hA : ∀ q : Nat, s.heap.size ≤ q → A q := fun q h => by rw [← hAe]; exact Or.inr h
  have hS : va_S A s.heap s.heap [] := va_S.rf
  have hP : va_P D CL [(m0, .inr (4, [.ref tr, .ref im, .ref fi, .ref se, .ref u0, .ref id, .ref ct, .int ra, .int ru, .int wg])), (im, .inr (1, [.ref iq, .int L])), (iq, .inl (cB, n, .inl f))] s.heap := hP
  have hl := lv_entry [.ref m0, .int x, .int y] (n := 3) (Nat.le_of_ble_eq_true rfl)
  rw [lg_entry_eq]
  generalize (lg_sl [.ref m0, .int x, .int y] ++ List.replicate (3 - (lg_sl [.ref m0, .int x, .int y]).length) Slot.unset).toArray = ls at hl ⊢
  have hl : lv_has ls 3 [(0, .ref m0), (1, .int x), (2, .int y)] := hl
  have L_m1 : ((-1) : Int32).toInt = (-1) := by decide
  have L_0 : (0 : Int32).toInt = 0 := by decide
  have L_1 : (1 : Int32).toInt = 1 := by decide
  have L_2048 : (2048 : Int32).toInt = 2048 := by decide
  refine lv_aload_n hx hb d_Maker_writeDescriptorHead_0 rfl (lv_at hl 0 rfl) ?_
  refine va_get (D := D) (ci := 4) (v := .ref im) (C := "DiscMaker$Maker") (T := F_Maker) (N := 10) hx hb ht9 in_Maker hown hK hP 0 rfl rfl 1 (by decide) (ht9 _ k348) (fun _ h9 => h9) rfl d_Maker_writeDescriptorHead_1 ?_
  refine lv_iload_n hx hb d_Maker_writeDescriptorHead_4 rfl (lv_at hl 1 rfl) ?_
  refine lv_sipush (v := 2048) hx hb d_Maker_writeDescriptorHead_5 (by decide) ?_
  refine lv_imul hx hb d_Maker_writeDescriptorHead_8 ?_
  refine lv_topi (fun v1 e_v1 => ?_)
  have t_v1 : v1.toInt = x.toInt * 2048 := by rw [e_v1]; exact i_mul rfl (by decide) (by omega) (by omega)
  refine lv_iload_n hx hb d_Maker_writeDescriptorHead_9 rfl (lv_at hl 2 rfl) ?_
  have hPc := hP.sub (ws' := [(im, .inr (1, [.ref iq, .int L])), (iq, .inl (cB, n, .inl f))]) [1, 2] rfl
  have hDc := hD.sub (ws' := [(im, .inr (1, [.ref iq, .int L])), (iq, .inl (cB, n, .inl f))]) [1, 2] (by decide +kernel) rfl
  have hFc := va_free (wc := [(im, .inr (1, [.ref iq, .int L])), (iq, .inl (cB, n, .inl f))]) hD hS hA [1, 2] rfl
  have hkc : 0 ≤ 0 := by decide
  have hks : 0 ≤ 0 := by decide
  refine va_callv (va_runV (C := "DiscMaker$Bytes") (As := [.int v1, .int y]) (rest := []) ⟨hx, hb, hml, hown, hts⟩ (c3_putF l D cB cI cJ cZ cN cF s.heap.size im iq n L f v1 y (by (try dsimp only); first | assumption | omega | trivial) (by (try dsimp only); first | assumption | omega | trivial) (by (try dsimp only); first | assumption | omega | trivial)) (cwV 2 hts (lg_goodV k978 k912 k913 k119 kc_Bytes_put) rfl rfl rfl (by decide +kernel) ⟨Nat.le_of_ble_eq_true rfl, Nat.le_of_ble_eq_true rfl⟩) ⟨fun a U g mk q => by obtain ⟨q0, q1, qP, qK, qN, qD⟩ := q; exact ⟨q0, q1, qP, va_K.moved (u := U) (U := U.calling g mk a) (Vm.Alike.refl U.vm) qK, qN.calling, qD⟩, va_recv hK hP (ci := 1) (q0 := 1) rfl rfl, fun U hU hW => ⟨rfl, by rw [hU], by rw [hU]; exact hPc, va_K.moved hW.alike hK, NN.warm hW hN, hDc.weaken (fun _ _ _ _ => trivial)⟩⟩ rfl rfl hl.1 rfl (lv_room (Nat.le_of_ble_eq_true rfl)) d_Maker_writeDescriptorHead_10 ⟨hkc, hks⟩) hS (fun q _ h => hFc q h) hFc (fun u t H1 locs ht hvm hp_r2 hB hz1 hk1 hS => ?_)
  obtain ⟨g_3, rfl⟩ : ∃ z, z = u := ⟨_, rfl⟩
  obtain ⟨hP1, hD1⟩ := hB
  rw [ht] at hP1
  obtain ⟨hP, hD⟩ := va_join (wr := [(m0, .inr (4, [.ref tr, .ref im, .ref fi, .ref se, .ref u0, .ref id, .ref ct, .int ra, .int ru, .int wg]))]) (w1 := [(im, .inr (1, [.ref iq, .int L])), (iq, .inl (cB, n, .inl g_3))]) hP hD [1, 2] [0] rfl rfl (by decide +kernel) (by decide +kernel) hk1 hFc hP1 hD1
  clear hPc hDc hFc hP1 hD1 hk1 hz1 hkc hks
  generalize H1 = H at hP hS ⊢
  have hP : va_P D CL [(m0, .inr (4, [.ref tr, .ref im, .ref fi, .ref se, .ref u0, .ref id, .ref ct, .int ra, .int ru, .int wg])), (im, .inr (1, [.ref iq, .int L])), (iq, .inl (cB, n, .inl g_3))] H := hP
  have hD : va_D A [(m0, .inr (4, [.ref tr, .ref im, .ref fi, .ref se, .ref u0, .ref id, .ref ct, .int ra, .int ru, .int wg])), (im, .inr (1, [.ref iq, .int L])), (iq, .inl (cB, n, .inl g_3))] := hD
  try dsimp only at hp_r2
  have hw_4 := hp_r2
  refine lv_aload_n hx hb d_Maker_writeDescriptorHead_13 rfl (lv_at hl 0 rfl) ?_
  refine va_get (D := D) (ci := 4) (v := .ref im) (C := "DiscMaker$Maker") (T := F_Maker) (N := 10) hx hb ht9 in_Maker hown hK hP 0 rfl rfl 1 (by decide) (ht9 _ k348) (fun _ h9 => h9) rfl d_Maker_writeDescriptorHead_14 ?_
  refine lv_iload_n hx hb d_Maker_writeDescriptorHead_17 rfl (lv_at hl 1 rfl) ?_
  refine lv_sipush (v := 2048) hx hb d_Maker_writeDescriptorHead_18 (by decide) ?_
  refine lv_imul hx hb d_Maker_writeDescriptorHead_21 ?_
  refine lv_topi (fun v5 e_v5 => ?_)
  have t_v5 : v5.toInt = x.toInt * 2048 := by rw [e_v5]; exact i_mul rfl (by decide) (by omega) (by omega)
  refine lv_iconst (v := 1) hx hb d_Maker_writeDescriptorHead_22 (by decide) ?_
  refine lv_iadd hx hb d_Maker_writeDescriptorHead_23 ?_
  refine lv_topi (fun v6 e_v6 => ?_)
  have t_v6 : v6.toInt = v5.toInt + 1 := by rw [e_v6]; exact i_add rfl (by decide) (by omega) (by omega)
  refine va_getsN (C := "DiscMaker") (n := "STANDARD") (d := "[B") (v := .ref ts) hx hb (hZs.2.1.1) hS hown (va_Nw.use rfl (hN _ k1107)) (fun _ h9 => h9) d_Maker_writeDescriptorHead_24 ?_
  have hPc := hP.sub (ws' := [(im, .inr (1, [.ref iq, .int L])), (iq, .inl (cB, n, .inl g_3))]) [1, 2] rfl
  have hDc := hD.sub (ws' := [(im, .inr (1, [.ref iq, .int L])), (iq, .inl (cB, n, .inl g_3))]) [1, 2] (by decide +kernel) rfl
  have hFc := va_free (wc := [(im, .inr (1, [.ref iq, .int L])), (iq, .inl (cB, n, .inl g_3))]) hD hS hA [1, 2] rfl
  have hkc : 0 ≤ 0 := by decide
  have hks : 0 ≤ 0 := by decide
  refine va_callv (va_runV (C := "DiscMaker$Bytes") (As := [.int v6, .ref ts]) (rest := []) ⟨hx, hb, hml, hown, hts⟩ (c3_putRowTF l D cB cI cJ cZ cN cF H.size im iq n L g_3 ts 6 gs v6 (by (try dsimp only); first | assumption | omega | trivial) (by (try dsimp only); first | assumption | omega | trivial) (by (try dsimp only); first | assumption | omega | trivial) (by (try dsimp only); first | assumption | omega | trivial)) (cwV 2 hts (lg_goodV k1059 k1031 k1032 k119 kc_Bytes_putRow) rfl rfl rfl (by decide +kernel) ⟨Nat.le_of_ble_eq_true rfl, Nat.le_of_ble_eq_true rfl⟩) ⟨fun a U g mk q => by obtain ⟨q0, q1, qP, qK, qN, qD, qZ0⟩ := q; exact ⟨q0, q1, qP, va_K.moved (u := U) (U := U.calling g mk a) (Vm.Alike.refl U.vm) qK, qN.calling, qD, zT_blind qZ0⟩, va_recv hK hP (ci := 1) (q0 := 1) rfl rfl, fun U hU hW => ⟨rfl, by rw [hU], by rw [hU]; exact hPc, va_K.moved hW.alike hK, NN.warm hW hN, hDc.weaken (fun _ _ _ _ => trivial), zT_pass hZs.2.1.2 hS hFc hW.alike hU⟩⟩ rfl rfl hl.1 rfl (lv_room (Nat.le_of_ble_eq_true rfl)) d_Maker_writeDescriptorHead_27 ⟨hkc, hks⟩) hS (fun q _ h => hFc q h) hFc (fun u t H1 locs ht hvm hp_r7 hB hz1 hk1 hS => ?_)
  obtain ⟨g_8, rfl⟩ : ∃ z, z = u := ⟨_, rfl⟩
  obtain ⟨hP1, hD1⟩ := hB
  rw [ht] at hP1
  obtain ⟨hP, hD⟩ := va_join (wr := [(m0, .inr (4, [.ref tr, .ref im, .ref fi, .ref se, .ref u0, .ref id, .ref ct, .int ra, .int ru, .int wg]))]) (w1 := [(im, .inr (1, [.ref iq, .int L])), (iq, .inl (cB, n, .inl g_8))]) hP hD [1, 2] [0] rfl rfl (by decide +kernel) (by decide +kernel) hk1 hFc hP1 hD1
  clear hPc hDc hFc hP1 hD1 hk1 hz1 hkc hks
  generalize H1 = H at hP hS ⊢
  have hP : va_P D CL [(m0, .inr (4, [.ref tr, .ref im, .ref fi, .ref se, .ref u0, .ref id, .ref ct, .int ra, .int ru, .int wg])), (im, .inr (1, [.ref iq, .int L])), (iq, .inl (cB, n, .inl g_8))] H := hP
  have hD : va_D A [(m0, .inr (4, [.ref tr, .ref im, .ref fi, .ref se, .ref u0, .ref id, .ref ct, .int ra, .int ru, .int wg])), (im, .inr (1, [.ref iq, .int L])), (iq, .inl (cB, n, .inl g_8))] := hD
  try dsimp only at hp_r7
  have hw_9 := hp_r7
  have hrw := hw_9
  rw [hgs] at hrw
  have hP9 := hP.sub (ws' := [(m0, .inr (4, [.ref tr, .ref im, .ref fi, .ref se, .ref u0, .ref id, .ref ct, .int ra, .int ru, .int wg])), (im, .inr (1, [.ref iq, .int L])), (iq, .inl (cB, n, .inl g_8))]) [0, 1, 2] rfl
  have hD9 := hD.sub (ws' := [(m0, .inr (4, [.ref tr, .ref im, .ref fi, .ref se, .ref u0, .ref id, .ref ct, .int ra, .int ru, .int wg])), (im, .inr (1, [.ref iq, .int L])), (iq, .inl (cB, n, .inl g_8))]) [0, 1, 2] (by decide +kernel) rfl
  exact W.vret hx hb hr (fun t ht hW => ⟨⟨g_8, rfl, (BL.app ((BL_pt hw_4).cast (by omega) rfl) hrw (by show _ = x.toInt * 2048 + ((1 : Nat) : Int); omega)), by rw [ht]; exact hP9, hD9⟩, hS.F ht⟩) hS.2.2 d_Maker_writeDescriptorHead_30

set_option maxHeartbeats 4000000 in
set_option maxRecDepth 100000 in
theorem c3_writeDescriptorF (l : Launch) (D : va_G) (cB cI cJ cZ cN cF : ClassId) (sz : Nat) (m0 : Nat) (tr : Nat) (im : Nat) (fi : Nat) (se : Nat) (u0 : Nat) (id : Nat) (ct : Nat) (ra : Int32) (ru : Int32) (wg : Int32) (l0 : Nat) (lo : Nat) (lp : Nat) (lt : Nat) (lb : Nat) (le : Nat) (ln : Int32) (lds : Int32) (ltb : Int32) (lc : Int32) (ld : Int32) (fb : Nat → Int32) (fe : Nat → Int32) (cc : Nat → Int32) (jq : Nat) (il : Int32) (jf : Nat → Int32) (iq : Nat) (n : Nat) (L : Int32) (f : Nat → Int32) (ta : Nat) (cn : Int32) (dr : Int32) (na : Nat → Nat → Nat) (ng : Nat → Nat → Int32) (nn : Nat → Nat → Nat) (nf : Nat → Nat → Nat → Int32) (cm : Nat) (td : Nat) (ts : Nat) (tl : Nat) (gd : Nat → Int32) (gs : Nat → Int32) (gl : Nat → Int32) (dt : Nat → Nat → Int) (dx : Nat → Nat → Int) (x : Int32) (hL : 0 ≤ L.toInt ∧ L.toInt ≤ n) (hn : n ≤ 3000000) (hcn : cn.toInt = cm) (hcm : cm ≤ 40) (htok : TOK cm ng nn) (hdt : DtC dt cm ng nn nf) (hnm : NmOK cm nn nf) (hln01 : ln.toInt = 0 ∨ ln.toInt = 1) (hc1 : 1 ≤ cm) (hr0 : (ng 0 0).toInt = 0) (hgd : rdL gd) (hdl : DxL dt dx ln.toInt cm fb fe cc) (hlds : lds.toInt = 16 + ln.toInt ∧ ltb.toInt = 19 + 2 * ln.toInt) (hin : lds.toInt * 2048 + 2048 ≤ L.toInt) (hz : ZA (imC f) (lds.toInt * 2048) (lds.toInt * 2048 + 2048)) (hxr : 0 ≤ x.toInt) (hgs : tbL (fun i => (gs i).toInt % 256) 6 = [67, 68, 48, 48, 49, 1]) (hgl : tbL (fun i => (gl i).toInt % 256) 3 = [37, 47, 69]) : Met l y_Maker_writeDescriptor w_Maker_writeDescriptor ({ frames := 4, cells := 0, slots := 0, locals := 116 }) (va_Pc [.ref m0, .ref l0, .int x] (fun U => U.heap.size = sz ∧ va_P D CL [(m0, .inr (4, [.ref tr, .ref im, .ref fi, .ref se, .ref u0, .ref id, .ref ct, .int ra, .int ru, .int wg])), (l0, .inr (3, [.int ln, .int lds, .int ltb, .ref lo, .ref lp, .ref lt, .ref lb, .ref le, .int lc, .int ld])), (lb, .inl (cI, 40, .inl fb)), (le, .inl (cI, 40, .inl fe)), (ct, .inl (cI, 40, .inl cc)), (id, .inr (1, [.ref jq, .int il])), (jq, .inl (cB, 60, .inl jf)), (im, .inr (1, [.ref iq, .int L])), (iq, .inl (cB, n, .inl f))] U.heap ∧ va_K D CL (TY cB cI cJ cZ cN cF) U ∧ NN U ∧ va_D (fun _ => True) [(m0, .inr (4, [.ref tr, .ref im, .ref fi, .ref se, .ref u0, .ref id, .ref ct, .int ra, .int ru, .int wg])), (l0, .inr (3, [.int ln, .int lds, .int ltb, .ref lo, .ref lp, .ref lt, .ref lb, .ref le, .int lc, .int ld])), (lb, .inl (cI, 40, .inl fb)), (le, .inl (cI, 40, .inl fe)), (ct, .inl (cI, 40, .inl cc)), (id, .inr (1, [.ref jq, .int il])), (jq, .inl (cB, 60, .inl jf)), (im, .inr (1, [.ref iq, .int L])), (iq, .inl (cB, n, .inl f))] ∧ SZ td ts tl gd gs gl (va_A [(m0, .inr (4, [.ref tr, .ref im, .ref fi, .ref se, .ref u0, .ref id, .ref ct, .int ra, .int ru, .int wg])), (l0, .inr (3, [.int ln, .int lds, .int ltb, .ref lo, .ref lp, .ref lt, .ref lb, .ref le, .int lc, .int ld])), (lb, .inl (cI, 40, .inl fb)), (le, .inl (cI, 40, .inl fe)), (ct, .inl (cI, 40, .inl cc)), (id, .inr (1, [.ref jq, .int il])), (jq, .inl (cB, 60, .inl jf)), (im, .inr (1, [.ref iq, .int L])), (iq, .inl (cB, n, .inl f))] sz) U U.heap ∧ RO D (([(tr, .inr (10, [.ref ta, .int cn, .int dr])), (ta, .inl (cN, 40, .inr (.inr (.inr (.inr (rowF na cm))))))] : va_W) ++ (PL (NC cB na ng nn nf) cm)) (va_A [(m0, .inr (4, [.ref tr, .ref im, .ref fi, .ref se, .ref u0, .ref id, .ref ct, .int ra, .int ru, .int wg])), (l0, .inr (3, [.int ln, .int lds, .int ltb, .ref lo, .ref lp, .ref lt, .ref lb, .ref le, .int lc, .int ld])), (lb, .inl (cI, 40, .inl fb)), (le, .inl (cI, 40, .inl fe)), (ct, .inl (cI, 40, .inl cc)), (id, .inr (1, [.ref jq, .int il])), (jq, .inl (cB, 60, .inl jf)), (im, .inr (1, [.ref iq, .int L])), (iq, .inl (cB, n, .inl f))] sz) U U.heap)) (va_Qv (fun (u : Int32 × (Nat → Int32) × (Nat → Int32)) => match u with | (il2, jg, g) => (Rn (imC f) (imC g) (lds.toInt * 2048) (dsL ln.toInt (L.toInt / 2048) x.toInt (dxE dx ln.toInt 0) (dxZ dx ln.toInt 0)) 882 (lds.toInt * 2048 + 2048))) (fun (u : Int32 × (Nat → Int32) × (Nat → Int32)) (t : State) => match u with | (il2, jg, g) => va_P D CL [(m0, .inr (4, [.ref tr, .ref im, .ref fi, .ref se, .ref u0, .ref id, .ref ct, .int ra, .int ru, .int wg])), (l0, .inr (3, [.int ln, .int lds, .int ltb, .ref lo, .ref lp, .ref lt, .ref lb, .ref le, .int lc, .int ld])), (lb, .inl (cI, 40, .inl fb)), (le, .inl (cI, 40, .inl fe)), (ct, .inl (cI, 40, .inl cc)), (id, .inr (1, [.ref jq, .int il2])), (jq, .inl (cB, 60, .inl jg)), (im, .inr (1, [.ref iq, .int L])), (iq, .inl (cB, n, .inl g))] t.heap ∧ va_D (va_A [(m0, .inr (4, [.ref tr, .ref im, .ref fi, .ref se, .ref u0, .ref id, .ref ct, .int ra, .int ru, .int wg])), (l0, .inr (3, [.int ln, .int lds, .int ltb, .ref lo, .ref lp, .ref lt, .ref lb, .ref le, .int lc, .int ld])), (lb, .inl (cI, 40, .inl fb)), (le, .inl (cI, 40, .inl fe)), (ct, .inl (cI, 40, .inl cc)), (id, .inr (1, [.ref jq, .int il])), (jq, .inl (cB, 60, .inl jf)), (im, .inr (1, [.ref iq, .int L])), (iq, .inl (cB, n, .inl f))] sz) [(m0, .inr (4, [.ref tr, .ref im, .ref fi, .ref se, .ref u0, .ref id, .ref ct, .int ra, .int ru, .int wg])), (l0, .inr (3, [.int ln, .int lds, .int ltb, .ref lo, .ref lp, .ref lt, .ref lb, .ref le, .int lc, .int ld])), (lb, .inl (cI, 40, .inl fb)), (le, .inl (cI, 40, .inl fe)), (ct, .inl (cI, 40, .inl cc)), (id, .inr (1, [.ref jq, .int il2])), (jq, .inl (cB, 60, .inl jg)), (im, .inr (1, [.ref iq, .int L])), (iq, .inl (cB, n, .inl g))]) (va_A [(m0, .inr (4, [.ref tr, .ref im, .ref fi, .ref se, .ref u0, .ref id, .ref ct, .int ra, .int ru, .int wg])), (l0, .inr (3, [.int ln, .int lds, .int ltb, .ref lo, .ref lp, .ref lt, .ref lb, .ref le, .int lc, .int ld])), (lb, .inl (cI, 40, .inl fb)), (le, .inl (cI, 40, .inl fe)), (ct, .inl (cI, 40, .inl cc)), (id, .inr (1, [.ref jq, .int il])), (jq, .inl (cB, 60, .inl jf)), (im, .inr (1, [.ref iq, .int L])), (iq, .inl (cB, n, .inl f))] sz)) 0 0 (va_A [(m0, .inr (4, [.ref tr, .ref im, .ref fi, .ref se, .ref u0, .ref id, .ref ct, .int ra, .int ru, .int wg])), (l0, .inr (3, [.int ln, .int lds, .int ltb, .ref lo, .ref lp, .ref lt, .ref lb, .ref le, .int lc, .int ld])), (lb, .inl (cI, 40, .inl fb)), (le, .inl (cI, 40, .inl fe)), (ct, .inl (cI, 40, .inl cc)), (id, .inr (1, [.ref jq, .int il])), (jq, .inl (cB, 60, .inl jf)), (im, .inr (1, [.ref iq, .int L])), (iq, .inl (cB, n, .inl f))] sz) := by
  refine Met.ofW (cc := b_Maker_writeDescriptor) (maxL := 5) (ret := none) (by decide +kernel) rfl ?_
  intro p e s m args below meth c s₁ B hml hv
  obtain ⟨rfl, hsz, hP, hK, hN, hD0, hZs, hZr⟩ := hv
  have hx := B.exec
  have hb := B.bytes
  have hr := B.returns
  have hts := atoms_spec (ws := w_Maker_writeDescriptor) B.pre
  have ht9 := fun (w : Cond) (h : w ∈ lw_g) => hts w (List.mem_cons_of_mem _ h)
  have hown : s.vm.findClass "DiscMaker$Maker" = some m.cls := findClass_of_methodNamed B.named
  have hlocks := B.notSynchronized
  subst hsz
  have hD := hD0.self (sz := s.heap.size)
  generalize hAe : va_A [(m0, .inr (4, [.ref tr, .ref im, .ref fi, .ref se, .ref u0, .ref id, .ref ct, .int ra, .int ru, .int wg])), (l0, .inr (3, [.int ln, .int lds, .int ltb, .ref lo, .ref lp, .ref lt, .ref lb, .ref le, .int lc, .int ld])), (lb, .inl (cI, 40, .inl fb)), (le, .inl (cI, 40, .inl fe)), (ct, .inl (cI, 40, .inl cc)), (id, .inr (1, [.ref jq, .int il])), (jq, .inl (cB, 60, .inl jf)), (im, .inr (1, [.ref iq, .int L])), (iq, .inl (cB, n, .inl f))] s.heap.size = A at hD hZs hZr ⊢
  have hA : ∀ q : Nat, s.heap.size ≤ q → A q := fun q h => by rw [← hAe]; exact Or.inr h
  have hS : va_S A s.heap s.heap [] := va_S.rf
  have hP : va_P D CL [(m0, .inr (4, [.ref tr, .ref im, .ref fi, .ref se, .ref u0, .ref id, .ref ct, .int ra, .int ru, .int wg])), (l0, .inr (3, [.int ln, .int lds, .int ltb, .ref lo, .ref lp, .ref lt, .ref lb, .ref le, .int lc, .int ld])), (lb, .inl (cI, 40, .inl fb)), (le, .inl (cI, 40, .inl fe)), (ct, .inl (cI, 40, .inl cc)), (id, .inr (1, [.ref jq, .int il])), (jq, .inl (cB, 60, .inl jf)), (im, .inr (1, [.ref iq, .int L])), (iq, .inl (cB, n, .inl f))] s.heap := hP
  have hl := lv_entry [.ref m0, .ref l0, .int x] (n := 5) (Nat.le_of_ble_eq_true rfl)
  rw [lg_entry_eq]
  generalize (lg_sl [.ref m0, .ref l0, .int x] ++ List.replicate (5 - (lg_sl [.ref m0, .ref l0, .int x]).length) Slot.unset).toArray = ls at hl ⊢
  have hl : lv_has ls 5 [(0, .ref m0), (1, .ref l0), (2, .int x)] := hl
  have L_m1 : ((-1) : Int32).toInt = (-1) := by decide
  have L_0 : (0 : Int32).toInt = 0 := by decide
  have L_1 : (1 : Int32).toInt = 1 := by decide
  have L_2 : (2 : Int32).toInt = 2 := by decide
  have L_3 : (3 : Int32).toInt = 3 := by decide
  have L_4 : (4 : Int32).toInt = 4 := by decide
  have L_8 : (8 : Int32).toInt = 8 := by decide
  have L_17 : (17 : Int32).toInt = 17 := by decide
  have L_32 : (32 : Int32).toInt = 32 := by decide
  have L_34 : (34 : Int32).toInt = 34 := by decide
  have L_48 : (48 : Int32).toInt = 48 := by decide
  have L_72 : (72 : Int32).toInt = 72 := by decide
  have L_80 : (80 : Int32).toInt = 80 := by decide
  have L_88 : (88 : Int32).toInt = 88 := by decide
  have L_120 : (120 : Int32).toInt = 120 := by decide
  have L_124 : (124 : Int32).toInt = 124 := by decide
  have L_128 : (128 : Int32).toInt = 128 := by decide
  have L_132 : (132 : Int32).toInt = 132 := by decide
  have L_140 : (140 : Int32).toInt = 140 := by decide
  have L_148 : (148 : Int32).toInt = 148 := by decide
  have L_156 : (156 : Int32).toInt = 156 := by decide
  have L_190 : (190 : Int32).toInt = 190 := by decide
  have L_813 : (813 : Int32).toInt = 813 := by decide
  have L_829 : (829 : Int32).toInt = 829 := by decide
  have L_881 : (881 : Int32).toInt = 881 := by decide
  have L_2048 : (2048 : Int32).toInt = 2048 := by decide
  refine lv_aload_n hx hb d_Maker_writeDescriptor_0 rfl (lv_at hl 1 rfl) ?_
  refine va_getN (D := D) (ci := 3) (v := .int lds) (C := "DiscMaker$Layout") (T := F_Layout) (N := 10) hx hb ht9 in_Layout hown hK hP 1 rfl rfl 1 (by decide) (va_Nw.use rfl (hN _ k283)) (fun _ h9 => h9) rfl d_Maker_writeDescriptor_1 ?_
  refine lv_sipush (v := 2048) hx hb d_Maker_writeDescriptor_4 (by decide) ?_
  refine lv_imul hx hb d_Maker_writeDescriptor_7 ?_
  refine lv_topi (fun v1 e_v1 => ?_)
  have t_v1 : v1.toInt = lds.toInt * 2048 := by rw [e_v1]; exact i_mul rfl (by decide) (by omega) (by omega)
  refine lv_istore_n hx hb d_Maker_writeDescriptor_8 rfl hl (by decide) rfl (fun ls hl => ?_)
  have hl : lv_has ls 5 [(3, .int v1), (0, .ref m0), (1, .ref l0), (2, .int x)] := hl
  refine lv_aload_n hx hb d_Maker_writeDescriptor_9 rfl (lv_at hl 1 rfl) ?_
  refine lv_aload_n hx hb d_Maker_writeDescriptor_10 rfl (lv_at hl 2 rfl) ?_
  refine va_getN (D := D) (ci := 3) (v := .int lds) (C := "DiscMaker$Layout") (T := F_Layout) (N := 10) hx hb ht9 in_Layout hown hK hP 1 rfl rfl 1 (by decide) (va_Nw.use rfl (hN _ k283)) (fun _ h9 => h9) rfl d_Maker_writeDescriptor_11 ?_
  refine lv_aload_n hx hb d_Maker_writeDescriptor_14 rfl (lv_at hl 2 rfl) ?_
  refine zz_labM (B := fun (lk : Nat) (K : Heap → List Loc → Array Slot → List Value → Prop) => ∀ (so9 : Int32) (H : Heap) (locs : List Loc) (ls : Array Slot), lk = 0 → (so9.toInt = ln.toInt + 1) → va_P D CL [(m0, .inr (4, [.ref tr, .ref im, .ref fi, .ref se, .ref u0, .ref id, .ref ct, .int ra, .int ru, .int wg])), (l0, .inr (3, [.int ln, .int lds, .int ltb, .ref lo, .ref lp, .ref lt, .ref lb, .ref le, .int lc, .int ld])), (lb, .inl (cI, 40, .inl fb)), (le, .inl (cI, 40, .inl fe)), (ct, .inl (cI, 40, .inl cc)), (id, .inr (1, [.ref jq, .int il])), (jq, .inl (cB, 60, .inl jf)), (im, .inr (1, [.ref iq, .int L])), (iq, .inl (cB, n, .inl f))] H → va_D A [(m0, .inr (4, [.ref tr, .ref im, .ref fi, .ref se, .ref u0, .ref id, .ref ct, .int ra, .int ru, .int wg])), (l0, .inr (3, [.int ln, .int lds, .int ltb, .ref lo, .ref lp, .ref lt, .ref lb, .ref le, .int lc, .int ld])), (lb, .inl (cI, 40, .inl fb)), (le, .inl (cI, 40, .inl fe)), (ct, .inl (cI, 40, .inl cc)), (id, .inr (1, [.ref jq, .int il])), (jq, .inl (cB, 60, .inl jf)), (im, .inr (1, [.ref iq, .int L])), (iq, .inl (cB, n, .inl f))] → va_S A s.heap H locs → lv_has ls 5 [(0, .ref m0), (1, .ref l0), (2, .int x), (3, .int v1)] → K H locs ls [.int so9, .int lds, .ref m0]) 26 ?_ ?_
  · skip
    intro lk ih26 so9 H locs ls hm26 e3 hP hD hS hl
    have hPc := hP.sub (ws' := [(m0, .inr (4, [.ref tr, .ref im, .ref fi, .ref se, .ref u0, .ref id, .ref ct, .int ra, .int ru, .int wg])), (im, .inr (1, [.ref iq, .int L])), (iq, .inl (cB, n, .inl f))]) [0, 7, 8] rfl
    have hDc := hD.sub (ws' := [(m0, .inr (4, [.ref tr, .ref im, .ref fi, .ref se, .ref u0, .ref id, .ref ct, .int ra, .int ru, .int wg])), (im, .inr (1, [.ref iq, .int L])), (iq, .inl (cB, n, .inl f))]) [0, 7, 8] (by decide +kernel) rfl
    have hFc := va_free (wc := [(m0, .inr (4, [.ref tr, .ref im, .ref fi, .ref se, .ref u0, .ref id, .ref ct, .int ra, .int ru, .int wg])), (im, .inr (1, [.ref iq, .int L])), (iq, .inl (cB, n, .inl f))]) hD hS hA [0, 7, 8] rfl
    have hkc : 0 ≤ 0 := by decide
    have hks : 0 ≤ 0 := by decide
    refine va_callv (va_runV (C := "DiscMaker$Maker") (As := [.int lds, .int so9]) (rest := []) ⟨hx, hb, hml, hown, hts⟩ (c3_writeDescriptorHeadF l D cB cI cJ cZ cN cF H.size m0 tr im fi se u0 id ct ra ru wg iq n L f td ts tl gd gs gl lds so9 (by (try dsimp only); first | assumption | omega | trivial) (by (try dsimp only); first | assumption | omega | trivial) (hgs) (by (try dsimp only); first | assumption | omega | trivial)) (cwV 2 hts (lg_goodV k1103 k1105 k28 k120 kc_Maker_writeDescriptorHead) rfl rfl rfl (by decide +kernel) ⟨Nat.le_of_ble_eq_true rfl, Nat.le_of_ble_eq_true rfl⟩) ⟨fun a U g mk q => by obtain ⟨q0, q1, qP, qK, qN, qD, qZ0⟩ := q; exact ⟨q0, q1, qP, va_K.moved (u := U) (U := U.calling g mk a) (Vm.Alike.refl U.vm) qK, qN.calling, qD, SZ_blind qZ0⟩, va_recv hK hP (ci := 4) (q0 := 0) rfl rfl, fun U hU hW => ⟨rfl, by rw [hU], by rw [hU]; exact hPc, va_K.moved hW.alike hK, NN.warm hW hN, hDc.weaken (fun _ _ _ _ => trivial), SZ_pass hZs hS hFc hW.alike hU⟩⟩ rfl rfl hl.1 rfl (lv_room (Nat.le_of_ble_eq_true rfl)) d_Maker_writeDescriptor_26 ⟨hkc, hks⟩) hS (fun q _ h => hFc q h) hFc (fun u t H1 locs ht hvm hp_r2 hB hz1 hk1 hS => ?_)
    obtain ⟨g_3, rfl⟩ : ∃ z, z = u := ⟨_, rfl⟩
    obtain ⟨hP1, hD1⟩ := hB
    rw [ht] at hP1
    obtain ⟨hP, hD⟩ := va_join (wr := [(l0, .inr (3, [.int ln, .int lds, .int ltb, .ref lo, .ref lp, .ref lt, .ref lb, .ref le, .int lc, .int ld])), (lb, .inl (cI, 40, .inl fb)), (le, .inl (cI, 40, .inl fe)), (ct, .inl (cI, 40, .inl cc)), (id, .inr (1, [.ref jq, .int il])), (jq, .inl (cB, 60, .inl jf))]) (w1 := [(m0, .inr (4, [.ref tr, .ref im, .ref fi, .ref se, .ref u0, .ref id, .ref ct, .int ra, .int ru, .int wg])), (im, .inr (1, [.ref iq, .int L])), (iq, .inl (cB, n, .inl g_3))]) hP hD [0, 7, 8] [1, 2, 3, 4, 5, 6] rfl rfl (by decide +kernel) (by decide +kernel) hk1 hFc hP1 hD1
    clear hPc hDc hFc hP1 hD1 hk1 hz1 hkc hks
    generalize H1 = H at hP hS ⊢
    have hP : va_P D CL [(l0, .inr (3, [.int ln, .int lds, .int ltb, .ref lo, .ref lp, .ref lt, .ref lb, .ref le, .int lc, .int ld])), (lb, .inl (cI, 40, .inl fb)), (le, .inl (cI, 40, .inl fe)), (ct, .inl (cI, 40, .inl cc)), (id, .inr (1, [.ref jq, .int il])), (jq, .inl (cB, 60, .inl jf)), (m0, .inr (4, [.ref tr, .ref im, .ref fi, .ref se, .ref u0, .ref id, .ref ct, .int ra, .int ru, .int wg])), (im, .inr (1, [.ref iq, .int L])), (iq, .inl (cB, n, .inl g_3))] H := hP
    have hD : va_D A [(l0, .inr (3, [.int ln, .int lds, .int ltb, .ref lo, .ref lp, .ref lt, .ref lb, .ref le, .int lc, .int ld])), (lb, .inl (cI, 40, .inl fb)), (le, .inl (cI, 40, .inl fe)), (ct, .inl (cI, 40, .inl cc)), (id, .inr (1, [.ref jq, .int il])), (jq, .inl (cB, 60, .inl jf)), (m0, .inr (4, [.ref tr, .ref im, .ref fi, .ref se, .ref u0, .ref id, .ref ct, .int ra, .int ru, .int wg])), (im, .inr (1, [.ref iq, .int L])), (iq, .inl (cB, n, .inl g_3))] := hD
    try dsimp only at hp_r2
    have hw_4 := hp_r2
    refine lv_aload_n hx hb d_Maker_writeDescriptor_29 rfl (lv_at hl 0 rfl) ?_
    refine va_get (D := D) (ci := 4) (v := .ref im) (C := "DiscMaker$Maker") (T := F_Maker) (N := 10) hx hb ht9 in_Maker hown hK hP 6 rfl rfl 1 (by decide) (ht9 _ k348) (fun _ h9 => h9) rfl d_Maker_writeDescriptor_30 ?_
    refine lv_iload_n hx hb d_Maker_writeDescriptor_33 rfl (lv_at hl 3 rfl) ?_
    refine lv_bipush (v := 8) hx hb d_Maker_writeDescriptor_34 (by decide) ?_
    refine lv_iadd hx hb d_Maker_writeDescriptor_36 ?_
    refine lv_topi (fun v5 e_v5 => ?_)
    have t_v5 : v5.toInt = v1.toInt + 8 := by rw [e_v5]; exact i_add rfl (by decide) (by omega) (by omega)
    refine lv_iload_n hx hb d_Maker_writeDescriptor_37 rfl (lv_at hl 3 rfl) ?_
    refine lv_bipush (v := 72) hx hb d_Maker_writeDescriptor_38 (by decide) ?_
    refine lv_iadd hx hb d_Maker_writeDescriptor_40 ?_
    refine lv_topi (fun v6 e_v6 => ?_)
    have t_v6 : v6.toInt = v1.toInt + 72 := by rw [e_v6]; exact i_add rfl (by decide) (by omega) (by omega)
    refine lv_bipush (v := 32) hx hb d_Maker_writeDescriptor_41 (by decide) ?_
    have hPc := hP.sub (ws' := [(im, .inr (1, [.ref iq, .int L])), (iq, .inl (cB, n, .inl g_3))]) [7, 8] rfl
    have hDc := hD.sub (ws' := [(im, .inr (1, [.ref iq, .int L])), (iq, .inl (cB, n, .inl g_3))]) [7, 8] (by decide +kernel) rfl
    have hFc := va_free (wc := [(im, .inr (1, [.ref iq, .int L])), (iq, .inl (cB, n, .inl g_3))]) hD hS hA [7, 8] rfl
    have hkc : 0 ≤ 0 := by decide
    have hks : 0 ≤ 0 := by decide
    refine va_callv (va_runV (C := "DiscMaker$Bytes") (As := [.int v5, .int v6, .int 32]) (rest := []) ⟨hx, hb, hml, hown, hts⟩ (c3_fillF l D cB cI cJ cZ cN cF H.size im iq n L g_3 v5 v6 32 (by (try dsimp only); first | assumption | omega | trivial) (by (try dsimp only); first | assumption | omega | trivial) (by (try dsimp only); first | assumption | omega | trivial)) (cwV 3 hts (lg_goodV k1109 k1110 k1111 k119 kc_Bytes_fill) rfl rfl rfl (by decide +kernel) ⟨Nat.le_of_ble_eq_true rfl, Nat.le_of_ble_eq_true rfl⟩) ⟨fun a U g mk q => by obtain ⟨q0, q1, qP, qK, qN, qD⟩ := q; exact ⟨q0, q1, qP, va_K.moved (u := U) (U := U.calling g mk a) (Vm.Alike.refl U.vm) qK, qN.calling, qD⟩, va_recv hK hP (ci := 1) (q0 := 7) rfl rfl, fun U hU hW => ⟨rfl, by rw [hU], by rw [hU]; exact hPc, va_K.moved hW.alike hK, NN.warm hW hN, hDc.weaken (fun _ _ _ _ => trivial)⟩⟩ rfl rfl hl.1 rfl (lv_room (Nat.le_of_ble_eq_true rfl)) d_Maker_writeDescriptor_43 ⟨hkc, hks⟩) hS (fun q _ h => hFc q h) hFc (fun u t H1 locs ht hvm hp_r7 hB hz1 hk1 hS => ?_)
    obtain ⟨g_8, rfl⟩ : ∃ z, z = u := ⟨_, rfl⟩
    obtain ⟨hP1, hD1⟩ := hB
    rw [ht] at hP1
    obtain ⟨hP, hD⟩ := va_join (wr := [(l0, .inr (3, [.int ln, .int lds, .int ltb, .ref lo, .ref lp, .ref lt, .ref lb, .ref le, .int lc, .int ld])), (lb, .inl (cI, 40, .inl fb)), (le, .inl (cI, 40, .inl fe)), (ct, .inl (cI, 40, .inl cc)), (id, .inr (1, [.ref jq, .int il])), (jq, .inl (cB, 60, .inl jf)), (m0, .inr (4, [.ref tr, .ref im, .ref fi, .ref se, .ref u0, .ref id, .ref ct, .int ra, .int ru, .int wg]))]) (w1 := [(im, .inr (1, [.ref iq, .int L])), (iq, .inl (cB, n, .inl g_8))]) hP hD [7, 8] [0, 1, 2, 3, 4, 5, 6] rfl rfl (by decide +kernel) (by decide +kernel) hk1 hFc hP1 hD1
    clear hPc hDc hFc hP1 hD1 hk1 hz1 hkc hks
    generalize H1 = H at hP hS ⊢
    have hP : va_P D CL [(l0, .inr (3, [.int ln, .int lds, .int ltb, .ref lo, .ref lp, .ref lt, .ref lb, .ref le, .int lc, .int ld])), (lb, .inl (cI, 40, .inl fb)), (le, .inl (cI, 40, .inl fe)), (ct, .inl (cI, 40, .inl cc)), (id, .inr (1, [.ref jq, .int il])), (jq, .inl (cB, 60, .inl jf)), (m0, .inr (4, [.ref tr, .ref im, .ref fi, .ref se, .ref u0, .ref id, .ref ct, .int ra, .int ru, .int wg])), (im, .inr (1, [.ref iq, .int L])), (iq, .inl (cB, n, .inl g_8))] H := hP
    have hD : va_D A [(l0, .inr (3, [.int ln, .int lds, .int ltb, .ref lo, .ref lp, .ref lt, .ref lb, .ref le, .int lc, .int ld])), (lb, .inl (cI, 40, .inl fb)), (le, .inl (cI, 40, .inl fe)), (ct, .inl (cI, 40, .inl cc)), (id, .inr (1, [.ref jq, .int il])), (jq, .inl (cB, 60, .inl jf)), (m0, .inr (4, [.ref tr, .ref im, .ref fi, .ref se, .ref u0, .ref id, .ref ct, .int ra, .int ru, .int wg])), (im, .inr (1, [.ref iq, .int L])), (iq, .inl (cB, n, .inl g_8))] := hD
    try dsimp only at hp_r7
    have hw_9 := hp_r7
    try rw [L_32] at hw_9
    have hfl10 := hw_9
    rw [show (v6.toInt - v5.toInt).toNat = 64 by omega, show (32 : Int) % 256 = 32 by decide] at hfl10
    refine lv_aload_n hx hb d_Maker_writeDescriptor_46 rfl (lv_at hl 0 rfl) ?_
    refine va_get (D := D) (ci := 4) (v := .ref im) (C := "DiscMaker$Maker") (T := F_Maker) (N := 10) hx hb ht9 in_Maker hown hK hP 6 rfl rfl 1 (by decide) (ht9 _ k348) (fun _ h9 => h9) rfl d_Maker_writeDescriptor_47 ?_
    refine lv_iload_n hx hb d_Maker_writeDescriptor_50 rfl (lv_at hl 3 rfl) ?_
    refine lv_bipush (v := 80) hx hb d_Maker_writeDescriptor_51 (by decide) ?_
    refine lv_iadd hx hb d_Maker_writeDescriptor_53 ?_
    refine lv_topi (fun v11 e_v11 => ?_)
    have t_v11 : v11.toInt = v1.toInt + 80 := by rw [e_v11]; exact i_add rfl (by decide) (by omega) (by omega)
    refine lv_aload_n hx hb d_Maker_writeDescriptor_54 rfl (lv_at hl 0 rfl) ?_
    refine va_get (D := D) (ci := 4) (v := .ref im) (C := "DiscMaker$Maker") (T := F_Maker) (N := 10) hx hb ht9 in_Maker hown hK hP 6 rfl rfl 1 (by decide) (ht9 _ k348) (fun _ h9 => h9) rfl d_Maker_writeDescriptor_55 ?_
    refine va_getN (D := D) (ci := 1) (v := .int L) (C := "DiscMaker$Bytes") (T := F_Bytes) (N := 2) hx hb ht9 in_Bytes hown hK hP 7 rfl rfl 1 (by decide) (va_Nw.use rfl (hN _ k257)) (fun _ h9 => h9) rfl d_Maker_writeDescriptor_58 ?_
    refine lv_sipush (v := 2048) hx hb d_Maker_writeDescriptor_61 (by decide) ?_
    refine lv_idiv hx hb d_Maker_writeDescriptor_64 (by decide) ?_
    refine lv_topi (fun v12 e_v12 => ?_)
    have t_v12 : v12.toInt = L.toInt / 2048 := by rw [e_v12]; exact i_div rfl (by decide) (by omega) (by omega)
    refine lv_iconst (v := 4) hx hb d_Maker_writeDescriptor_65 (by decide) ?_
    have hPc := hP.sub (ws' := [(im, .inr (1, [.ref iq, .int L])), (iq, .inl (cB, n, .inl g_8))]) [7, 8] rfl
    have hDc := hD.sub (ws' := [(im, .inr (1, [.ref iq, .int L])), (iq, .inl (cB, n, .inl g_8))]) [7, 8] (by decide +kernel) rfl
    have hFc := va_free (wc := [(im, .inr (1, [.ref iq, .int L])), (iq, .inl (cB, n, .inl g_8))]) hD hS hA [7, 8] rfl
    have hkc : 0 ≤ 0 := by decide
    have hks : 0 ≤ 0 := by decide
    refine va_callv (va_runV (C := "DiscMaker$Bytes") (As := [.int v11, .int v12, .int 4]) (rest := []) ⟨hx, hb, hml, hown, hts⟩ (c3_putBoth4F l D cB cI cJ cZ cN cF H.size im iq n L g_8 v11 v12 (by (try dsimp only); first | assumption | omega | trivial) (by (try dsimp only); first | assumption | omega | trivial) (by (try dsimp only); first | assumption | omega | trivial)) (cwV 3 hts (lg_goodV k1056 k1023 k1024 k119 kc_Bytes_putBoth) rfl rfl rfl (by decide +kernel) ⟨Nat.le_of_ble_eq_true rfl, Nat.le_of_ble_eq_true rfl⟩) ⟨fun a U g mk q => by obtain ⟨q0, q1, qP, qK, qN, qD⟩ := q; exact ⟨q0, q1, qP, va_K.moved (u := U) (U := U.calling g mk a) (Vm.Alike.refl U.vm) qK, qN.calling, qD⟩, va_recv hK hP (ci := 1) (q0 := 7) rfl rfl, fun U hU hW => ⟨rfl, by rw [hU], by rw [hU]; exact hPc, va_K.moved hW.alike hK, NN.warm hW hN, hDc.weaken (fun _ _ _ _ => trivial)⟩⟩ rfl rfl hl.1 rfl (lv_room (Nat.le_of_ble_eq_true rfl)) d_Maker_writeDescriptor_66 ⟨hkc, hks⟩) hS (fun q _ h => hFc q h) hFc (fun u t H1 locs ht hvm hp_r13 hB hz1 hk1 hS => ?_)
    obtain ⟨g_14, rfl⟩ : ∃ z, z = u := ⟨_, rfl⟩
    obtain ⟨hP1, hD1⟩ := hB
    rw [ht] at hP1
    obtain ⟨hP, hD⟩ := va_join (wr := [(l0, .inr (3, [.int ln, .int lds, .int ltb, .ref lo, .ref lp, .ref lt, .ref lb, .ref le, .int lc, .int ld])), (lb, .inl (cI, 40, .inl fb)), (le, .inl (cI, 40, .inl fe)), (ct, .inl (cI, 40, .inl cc)), (id, .inr (1, [.ref jq, .int il])), (jq, .inl (cB, 60, .inl jf)), (m0, .inr (4, [.ref tr, .ref im, .ref fi, .ref se, .ref u0, .ref id, .ref ct, .int ra, .int ru, .int wg]))]) (w1 := [(im, .inr (1, [.ref iq, .int L])), (iq, .inl (cB, n, .inl g_14))]) hP hD [7, 8] [0, 1, 2, 3, 4, 5, 6] rfl rfl (by decide +kernel) (by decide +kernel) hk1 hFc hP1 hD1
    clear hPc hDc hFc hP1 hD1 hk1 hz1 hkc hks
    generalize H1 = H at hP hS ⊢
    have hP : va_P D CL [(l0, .inr (3, [.int ln, .int lds, .int ltb, .ref lo, .ref lp, .ref lt, .ref lb, .ref le, .int lc, .int ld])), (lb, .inl (cI, 40, .inl fb)), (le, .inl (cI, 40, .inl fe)), (ct, .inl (cI, 40, .inl cc)), (id, .inr (1, [.ref jq, .int il])), (jq, .inl (cB, 60, .inl jf)), (m0, .inr (4, [.ref tr, .ref im, .ref fi, .ref se, .ref u0, .ref id, .ref ct, .int ra, .int ru, .int wg])), (im, .inr (1, [.ref iq, .int L])), (iq, .inl (cB, n, .inl g_14))] H := hP
    have hD : va_D A [(l0, .inr (3, [.int ln, .int lds, .int ltb, .ref lo, .ref lp, .ref lt, .ref lb, .ref le, .int lc, .int ld])), (lb, .inl (cI, 40, .inl fb)), (le, .inl (cI, 40, .inl fe)), (ct, .inl (cI, 40, .inl cc)), (id, .inr (1, [.ref jq, .int il])), (jq, .inl (cB, 60, .inl jf)), (m0, .inr (4, [.ref tr, .ref im, .ref fi, .ref se, .ref u0, .ref id, .ref ct, .int ra, .int ru, .int wg])), (im, .inr (1, [.ref iq, .int L])), (iq, .inl (cB, n, .inl g_14))] := hD
    try dsimp only at hp_r13
    have hw_15 := hp_r13
    refine zz_labM (B := fun (lk : Nat) (K : Heap → List Loc → Array Slot → List Value → Prop) => ∀ (jm : Nat → Int32) (H : Heap) (locs : List Loc) (ls : Array Slot), lk = 0 → (BL (imC g_14) (imC jm) (lds.toInt * 2048 + 88) (if ln.toInt = 1 then [37, 47, 69] else [])) → va_P D CL [(l0, .inr (3, [.int ln, .int lds, .int ltb, .ref lo, .ref lp, .ref lt, .ref lb, .ref le, .int lc, .int ld])), (lb, .inl (cI, 40, .inl fb)), (le, .inl (cI, 40, .inl fe)), (ct, .inl (cI, 40, .inl cc)), (id, .inr (1, [.ref jq, .int il])), (jq, .inl (cB, 60, .inl jf)), (m0, .inr (4, [.ref tr, .ref im, .ref fi, .ref se, .ref u0, .ref id, .ref ct, .int ra, .int ru, .int wg])), (im, .inr (1, [.ref iq, .int L])), (iq, .inl (cB, n, .inl jm))] H → va_D A [(l0, .inr (3, [.int ln, .int lds, .int ltb, .ref lo, .ref lp, .ref lt, .ref lb, .ref le, .int lc, .int ld])), (lb, .inl (cI, 40, .inl fb)), (le, .inl (cI, 40, .inl fe)), (ct, .inl (cI, 40, .inl cc)), (id, .inr (1, [.ref jq, .int il])), (jq, .inl (cB, 60, .inl jf)), (m0, .inr (4, [.ref tr, .ref im, .ref fi, .ref se, .ref u0, .ref id, .ref ct, .int ra, .int ru, .int wg])), (im, .inr (1, [.ref iq, .int L])), (iq, .inl (cB, n, .inl jm))] → va_S A s.heap H locs → lv_has ls 5 [(0, .ref m0), (1, .ref l0), (2, .int x), (3, .int v1)] → K H locs ls []) 90 ?_ ?_
    · skip
      intro lk ih90 jm H locs ls hm90 e4 hP hD hS hl
      refine lv_aload_n hx hb d_Maker_writeDescriptor_90 rfl (lv_at hl 0 rfl) ?_
      refine va_get (D := D) (ci := 4) (v := .ref im) (C := "DiscMaker$Maker") (T := F_Maker) (N := 10) hx hb ht9 in_Maker hown hK hP 6 rfl rfl 1 (by decide) (ht9 _ k348) (fun _ h9 => h9) rfl d_Maker_writeDescriptor_91 ?_
      refine lv_iload_n hx hb d_Maker_writeDescriptor_94 rfl (lv_at hl 3 rfl) ?_
      refine lv_bipush (v := 120) hx hb d_Maker_writeDescriptor_95 (by decide) ?_
      refine lv_iadd hx hb d_Maker_writeDescriptor_97 ?_
      refine lv_topi (fun v16 e_v16 => ?_)
      have t_v16 : v16.toInt = v1.toInt + 120 := by rw [e_v16]; exact i_add rfl (by decide) (by omega) (by omega)
      refine lv_iconst (v := 1) hx hb d_Maker_writeDescriptor_98 (by decide) ?_
      refine lv_iconst (v := 2) hx hb d_Maker_writeDescriptor_99 (by decide) ?_
      have hPc := hP.sub (ws' := [(im, .inr (1, [.ref iq, .int L])), (iq, .inl (cB, n, .inl jm))]) [7, 8] rfl
      have hDc := hD.sub (ws' := [(im, .inr (1, [.ref iq, .int L])), (iq, .inl (cB, n, .inl jm))]) [7, 8] (by decide +kernel) rfl
      have hFc := va_free (wc := [(im, .inr (1, [.ref iq, .int L])), (iq, .inl (cB, n, .inl jm))]) hD hS hA [7, 8] rfl
      have hkc : 0 ≤ 0 := by decide
      have hks : 0 ≤ 0 := by decide
      refine va_callv (va_runV (C := "DiscMaker$Bytes") (As := [.int v16, .int 1, .int 2]) (rest := []) ⟨hx, hb, hml, hown, hts⟩ (c3_putBoth2F l D cB cI cJ cZ cN cF H.size im iq n L jm v16 1 (by (try dsimp only); first | assumption | omega | trivial) (by (try dsimp only); first | assumption | omega | trivial) (by (try dsimp only); first | assumption | omega | trivial)) (cwV 3 hts (lg_goodV k1056 k1023 k1024 k119 kc_Bytes_putBoth) rfl rfl rfl (by decide +kernel) ⟨Nat.le_of_ble_eq_true rfl, Nat.le_of_ble_eq_true rfl⟩) ⟨fun a U g mk q => by obtain ⟨q0, q1, qP, qK, qN, qD⟩ := q; exact ⟨q0, q1, qP, va_K.moved (u := U) (U := U.calling g mk a) (Vm.Alike.refl U.vm) qK, qN.calling, qD⟩, va_recv hK hP (ci := 1) (q0 := 7) rfl rfl, fun U hU hW => ⟨rfl, by rw [hU], by rw [hU]; exact hPc, va_K.moved hW.alike hK, NN.warm hW hN, hDc.weaken (fun _ _ _ _ => trivial)⟩⟩ rfl rfl hl.1 rfl (lv_room (Nat.le_of_ble_eq_true rfl)) d_Maker_writeDescriptor_100 ⟨hkc, hks⟩) hS (fun q _ h => hFc q h) hFc (fun u t H1 locs ht hvm hp_r17 hB hz1 hk1 hS => ?_)
      obtain ⟨g_18, rfl⟩ : ∃ z, z = u := ⟨_, rfl⟩
      obtain ⟨hP1, hD1⟩ := hB
      rw [ht] at hP1
      obtain ⟨hP, hD⟩ := va_join (wr := [(l0, .inr (3, [.int ln, .int lds, .int ltb, .ref lo, .ref lp, .ref lt, .ref lb, .ref le, .int lc, .int ld])), (lb, .inl (cI, 40, .inl fb)), (le, .inl (cI, 40, .inl fe)), (ct, .inl (cI, 40, .inl cc)), (id, .inr (1, [.ref jq, .int il])), (jq, .inl (cB, 60, .inl jf)), (m0, .inr (4, [.ref tr, .ref im, .ref fi, .ref se, .ref u0, .ref id, .ref ct, .int ra, .int ru, .int wg]))]) (w1 := [(im, .inr (1, [.ref iq, .int L])), (iq, .inl (cB, n, .inl g_18))]) hP hD [7, 8] [0, 1, 2, 3, 4, 5, 6] rfl rfl (by decide +kernel) (by decide +kernel) hk1 hFc hP1 hD1
      clear hPc hDc hFc hP1 hD1 hk1 hz1 hkc hks
      generalize H1 = H at hP hS ⊢
      have hP : va_P D CL [(l0, .inr (3, [.int ln, .int lds, .int ltb, .ref lo, .ref lp, .ref lt, .ref lb, .ref le, .int lc, .int ld])), (lb, .inl (cI, 40, .inl fb)), (le, .inl (cI, 40, .inl fe)), (ct, .inl (cI, 40, .inl cc)), (id, .inr (1, [.ref jq, .int il])), (jq, .inl (cB, 60, .inl jf)), (m0, .inr (4, [.ref tr, .ref im, .ref fi, .ref se, .ref u0, .ref id, .ref ct, .int ra, .int ru, .int wg])), (im, .inr (1, [.ref iq, .int L])), (iq, .inl (cB, n, .inl g_18))] H := hP
      have hD : va_D A [(l0, .inr (3, [.int ln, .int lds, .int ltb, .ref lo, .ref lp, .ref lt, .ref lb, .ref le, .int lc, .int ld])), (lb, .inl (cI, 40, .inl fb)), (le, .inl (cI, 40, .inl fe)), (ct, .inl (cI, 40, .inl cc)), (id, .inr (1, [.ref jq, .int il])), (jq, .inl (cB, 60, .inl jf)), (m0, .inr (4, [.ref tr, .ref im, .ref fi, .ref se, .ref u0, .ref id, .ref ct, .int ra, .int ru, .int wg])), (im, .inr (1, [.ref iq, .int L])), (iq, .inl (cB, n, .inl g_18))] := hD
      try dsimp only at hp_r17
      have hw_19 := hp_r17
      try rw [L_1] at hw_19
      refine lv_aload_n hx hb d_Maker_writeDescriptor_103 rfl (lv_at hl 0 rfl) ?_
      refine va_get (D := D) (ci := 4) (v := .ref im) (C := "DiscMaker$Maker") (T := F_Maker) (N := 10) hx hb ht9 in_Maker hown hK hP 6 rfl rfl 1 (by decide) (ht9 _ k348) (fun _ h9 => h9) rfl d_Maker_writeDescriptor_104 ?_
      refine lv_iload_n hx hb d_Maker_writeDescriptor_107 rfl (lv_at hl 3 rfl) ?_
      refine lv_bipush (v := 124) hx hb d_Maker_writeDescriptor_108 (by decide) ?_
      refine lv_iadd hx hb d_Maker_writeDescriptor_110 ?_
      refine lv_topi (fun v20 e_v20 => ?_)
      have t_v20 : v20.toInt = v1.toInt + 124 := by rw [e_v20]; exact i_add rfl (by decide) (by omega) (by omega)
      refine lv_iconst (v := 1) hx hb d_Maker_writeDescriptor_111 (by decide) ?_
      refine lv_iconst (v := 2) hx hb d_Maker_writeDescriptor_112 (by decide) ?_
      have hPc := hP.sub (ws' := [(im, .inr (1, [.ref iq, .int L])), (iq, .inl (cB, n, .inl g_18))]) [7, 8] rfl
      have hDc := hD.sub (ws' := [(im, .inr (1, [.ref iq, .int L])), (iq, .inl (cB, n, .inl g_18))]) [7, 8] (by decide +kernel) rfl
      have hFc := va_free (wc := [(im, .inr (1, [.ref iq, .int L])), (iq, .inl (cB, n, .inl g_18))]) hD hS hA [7, 8] rfl
      have hkc : 0 ≤ 0 := by decide
      have hks : 0 ≤ 0 := by decide
      refine va_callv (va_runV (C := "DiscMaker$Bytes") (As := [.int v20, .int 1, .int 2]) (rest := []) ⟨hx, hb, hml, hown, hts⟩ (c3_putBoth2F l D cB cI cJ cZ cN cF H.size im iq n L g_18 v20 1 (by (try dsimp only); first | assumption | omega | trivial) (by (try dsimp only); first | assumption | omega | trivial) (by (try dsimp only); first | assumption | omega | trivial)) (cwV 3 hts (lg_goodV k1056 k1023 k1024 k119 kc_Bytes_putBoth) rfl rfl rfl (by decide +kernel) ⟨Nat.le_of_ble_eq_true rfl, Nat.le_of_ble_eq_true rfl⟩) ⟨fun a U g mk q => by obtain ⟨q0, q1, qP, qK, qN, qD⟩ := q; exact ⟨q0, q1, qP, va_K.moved (u := U) (U := U.calling g mk a) (Vm.Alike.refl U.vm) qK, qN.calling, qD⟩, va_recv hK hP (ci := 1) (q0 := 7) rfl rfl, fun U hU hW => ⟨rfl, by rw [hU], by rw [hU]; exact hPc, va_K.moved hW.alike hK, NN.warm hW hN, hDc.weaken (fun _ _ _ _ => trivial)⟩⟩ rfl rfl hl.1 rfl (lv_room (Nat.le_of_ble_eq_true rfl)) d_Maker_writeDescriptor_113 ⟨hkc, hks⟩) hS (fun q _ h => hFc q h) hFc (fun u t H1 locs ht hvm hp_r21 hB hz1 hk1 hS => ?_)
      obtain ⟨g_22, rfl⟩ : ∃ z, z = u := ⟨_, rfl⟩
      obtain ⟨hP1, hD1⟩ := hB
      rw [ht] at hP1
      obtain ⟨hP, hD⟩ := va_join (wr := [(l0, .inr (3, [.int ln, .int lds, .int ltb, .ref lo, .ref lp, .ref lt, .ref lb, .ref le, .int lc, .int ld])), (lb, .inl (cI, 40, .inl fb)), (le, .inl (cI, 40, .inl fe)), (ct, .inl (cI, 40, .inl cc)), (id, .inr (1, [.ref jq, .int il])), (jq, .inl (cB, 60, .inl jf)), (m0, .inr (4, [.ref tr, .ref im, .ref fi, .ref se, .ref u0, .ref id, .ref ct, .int ra, .int ru, .int wg]))]) (w1 := [(im, .inr (1, [.ref iq, .int L])), (iq, .inl (cB, n, .inl g_22))]) hP hD [7, 8] [0, 1, 2, 3, 4, 5, 6] rfl rfl (by decide +kernel) (by decide +kernel) hk1 hFc hP1 hD1
      clear hPc hDc hFc hP1 hD1 hk1 hz1 hkc hks
      generalize H1 = H at hP hS ⊢
      have hP : va_P D CL [(l0, .inr (3, [.int ln, .int lds, .int ltb, .ref lo, .ref lp, .ref lt, .ref lb, .ref le, .int lc, .int ld])), (lb, .inl (cI, 40, .inl fb)), (le, .inl (cI, 40, .inl fe)), (ct, .inl (cI, 40, .inl cc)), (id, .inr (1, [.ref jq, .int il])), (jq, .inl (cB, 60, .inl jf)), (m0, .inr (4, [.ref tr, .ref im, .ref fi, .ref se, .ref u0, .ref id, .ref ct, .int ra, .int ru, .int wg])), (im, .inr (1, [.ref iq, .int L])), (iq, .inl (cB, n, .inl g_22))] H := hP
      have hD : va_D A [(l0, .inr (3, [.int ln, .int lds, .int ltb, .ref lo, .ref lp, .ref lt, .ref lb, .ref le, .int lc, .int ld])), (lb, .inl (cI, 40, .inl fb)), (le, .inl (cI, 40, .inl fe)), (ct, .inl (cI, 40, .inl cc)), (id, .inr (1, [.ref jq, .int il])), (jq, .inl (cB, 60, .inl jf)), (m0, .inr (4, [.ref tr, .ref im, .ref fi, .ref se, .ref u0, .ref id, .ref ct, .int ra, .int ru, .int wg])), (im, .inr (1, [.ref iq, .int L])), (iq, .inl (cB, n, .inl g_22))] := hD
      try dsimp only at hp_r21
      have hw_23 := hp_r21
      try rw [L_1] at hw_23
      refine lv_aload_n hx hb d_Maker_writeDescriptor_116 rfl (lv_at hl 0 rfl) ?_
      refine va_get (D := D) (ci := 4) (v := .ref im) (C := "DiscMaker$Maker") (T := F_Maker) (N := 10) hx hb ht9 in_Maker hown hK hP 6 rfl rfl 1 (by decide) (ht9 _ k348) (fun _ h9 => h9) rfl d_Maker_writeDescriptor_117 ?_
      refine lv_iload_n hx hb d_Maker_writeDescriptor_120 rfl (lv_at hl 3 rfl) ?_
      refine lv_sipush (v := 128) hx hb d_Maker_writeDescriptor_121 (by decide) ?_
      refine lv_iadd hx hb d_Maker_writeDescriptor_124 ?_
      refine lv_topi (fun v24 e_v24 => ?_)
      have t_v24 : v24.toInt = v1.toInt + 128 := by rw [e_v24]; exact i_add rfl (by decide) (by omega) (by omega)
      refine lv_sipush (v := 2048) hx hb d_Maker_writeDescriptor_125 (by decide) ?_
      refine lv_iconst (v := 2) hx hb d_Maker_writeDescriptor_128 (by decide) ?_
      have hPc := hP.sub (ws' := [(im, .inr (1, [.ref iq, .int L])), (iq, .inl (cB, n, .inl g_22))]) [7, 8] rfl
      have hDc := hD.sub (ws' := [(im, .inr (1, [.ref iq, .int L])), (iq, .inl (cB, n, .inl g_22))]) [7, 8] (by decide +kernel) rfl
      have hFc := va_free (wc := [(im, .inr (1, [.ref iq, .int L])), (iq, .inl (cB, n, .inl g_22))]) hD hS hA [7, 8] rfl
      have hkc : 0 ≤ 0 := by decide
      have hks : 0 ≤ 0 := by decide
      refine va_callv (va_runV (C := "DiscMaker$Bytes") (As := [.int v24, .int 2048, .int 2]) (rest := []) ⟨hx, hb, hml, hown, hts⟩ (c3_putBoth2F l D cB cI cJ cZ cN cF H.size im iq n L g_22 v24 2048 (by (try dsimp only); first | assumption | omega | trivial) (by (try dsimp only); first | assumption | omega | trivial) (by (try dsimp only); first | assumption | omega | trivial)) (cwV 3 hts (lg_goodV k1056 k1023 k1024 k119 kc_Bytes_putBoth) rfl rfl rfl (by decide +kernel) ⟨Nat.le_of_ble_eq_true rfl, Nat.le_of_ble_eq_true rfl⟩) ⟨fun a U g mk q => by obtain ⟨q0, q1, qP, qK, qN, qD⟩ := q; exact ⟨q0, q1, qP, va_K.moved (u := U) (U := U.calling g mk a) (Vm.Alike.refl U.vm) qK, qN.calling, qD⟩, va_recv hK hP (ci := 1) (q0 := 7) rfl rfl, fun U hU hW => ⟨rfl, by rw [hU], by rw [hU]; exact hPc, va_K.moved hW.alike hK, NN.warm hW hN, hDc.weaken (fun _ _ _ _ => trivial)⟩⟩ rfl rfl hl.1 rfl (lv_room (Nat.le_of_ble_eq_true rfl)) d_Maker_writeDescriptor_129 ⟨hkc, hks⟩) hS (fun q _ h => hFc q h) hFc (fun u t H1 locs ht hvm hp_r25 hB hz1 hk1 hS => ?_)
      obtain ⟨g_26, rfl⟩ : ∃ z, z = u := ⟨_, rfl⟩
      obtain ⟨hP1, hD1⟩ := hB
      rw [ht] at hP1
      obtain ⟨hP, hD⟩ := va_join (wr := [(l0, .inr (3, [.int ln, .int lds, .int ltb, .ref lo, .ref lp, .ref lt, .ref lb, .ref le, .int lc, .int ld])), (lb, .inl (cI, 40, .inl fb)), (le, .inl (cI, 40, .inl fe)), (ct, .inl (cI, 40, .inl cc)), (id, .inr (1, [.ref jq, .int il])), (jq, .inl (cB, 60, .inl jf)), (m0, .inr (4, [.ref tr, .ref im, .ref fi, .ref se, .ref u0, .ref id, .ref ct, .int ra, .int ru, .int wg]))]) (w1 := [(im, .inr (1, [.ref iq, .int L])), (iq, .inl (cB, n, .inl g_26))]) hP hD [7, 8] [0, 1, 2, 3, 4, 5, 6] rfl rfl (by decide +kernel) (by decide +kernel) hk1 hFc hP1 hD1
      clear hPc hDc hFc hP1 hD1 hk1 hz1 hkc hks
      generalize H1 = H at hP hS ⊢
      have hP : va_P D CL [(l0, .inr (3, [.int ln, .int lds, .int ltb, .ref lo, .ref lp, .ref lt, .ref lb, .ref le, .int lc, .int ld])), (lb, .inl (cI, 40, .inl fb)), (le, .inl (cI, 40, .inl fe)), (ct, .inl (cI, 40, .inl cc)), (id, .inr (1, [.ref jq, .int il])), (jq, .inl (cB, 60, .inl jf)), (m0, .inr (4, [.ref tr, .ref im, .ref fi, .ref se, .ref u0, .ref id, .ref ct, .int ra, .int ru, .int wg])), (im, .inr (1, [.ref iq, .int L])), (iq, .inl (cB, n, .inl g_26))] H := hP
      have hD : va_D A [(l0, .inr (3, [.int ln, .int lds, .int ltb, .ref lo, .ref lp, .ref lt, .ref lb, .ref le, .int lc, .int ld])), (lb, .inl (cI, 40, .inl fb)), (le, .inl (cI, 40, .inl fe)), (ct, .inl (cI, 40, .inl cc)), (id, .inr (1, [.ref jq, .int il])), (jq, .inl (cB, 60, .inl jf)), (m0, .inr (4, [.ref tr, .ref im, .ref fi, .ref se, .ref u0, .ref id, .ref ct, .int ra, .int ru, .int wg])), (im, .inr (1, [.ref iq, .int L])), (iq, .inl (cB, n, .inl g_26))] := hD
      try dsimp only at hp_r25
      have hw_27 := hp_r25
      try rw [L_2048] at hw_27
      refine lv_aload_n hx hb d_Maker_writeDescriptor_132 rfl (lv_at hl 0 rfl) ?_
      refine va_get (D := D) (ci := 4) (v := .ref im) (C := "DiscMaker$Maker") (T := F_Maker) (N := 10) hx hb ht9 in_Maker hown hK hP 6 rfl rfl 1 (by decide) (ht9 _ k348) (fun _ h9 => h9) rfl d_Maker_writeDescriptor_133 ?_
      refine lv_iload_n hx hb d_Maker_writeDescriptor_136 rfl (lv_at hl 3 rfl) ?_
      refine lv_sipush (v := 132) hx hb d_Maker_writeDescriptor_137 (by decide) ?_
      refine lv_iadd hx hb d_Maker_writeDescriptor_140 ?_
      refine lv_topi (fun v28 e_v28 => ?_)
      have t_v28 : v28.toInt = v1.toInt + 132 := by rw [e_v28]; exact i_add rfl (by decide) (by omega) (by omega)
      refine lv_iload_n hx hb d_Maker_writeDescriptor_141 rfl (lv_at hl 2 rfl) ?_
      refine lv_iconst (v := 4) hx hb d_Maker_writeDescriptor_142 (by decide) ?_
      have hPc := hP.sub (ws' := [(im, .inr (1, [.ref iq, .int L])), (iq, .inl (cB, n, .inl g_26))]) [7, 8] rfl
      have hDc := hD.sub (ws' := [(im, .inr (1, [.ref iq, .int L])), (iq, .inl (cB, n, .inl g_26))]) [7, 8] (by decide +kernel) rfl
      have hFc := va_free (wc := [(im, .inr (1, [.ref iq, .int L])), (iq, .inl (cB, n, .inl g_26))]) hD hS hA [7, 8] rfl
      have hkc : 0 ≤ 0 := by decide
      have hks : 0 ≤ 0 := by decide
      refine va_callv (va_runV (C := "DiscMaker$Bytes") (As := [.int v28, .int x, .int 4]) (rest := []) ⟨hx, hb, hml, hown, hts⟩ (c3_putBoth4F l D cB cI cJ cZ cN cF H.size im iq n L g_26 v28 x (by (try dsimp only); first | assumption | omega | trivial) (by (try dsimp only); first | assumption | omega | trivial) (by (try dsimp only); first | assumption | omega | trivial)) (cwV 3 hts (lg_goodV k1056 k1023 k1024 k119 kc_Bytes_putBoth) rfl rfl rfl (by decide +kernel) ⟨Nat.le_of_ble_eq_true rfl, Nat.le_of_ble_eq_true rfl⟩) ⟨fun a U g mk q => by obtain ⟨q0, q1, qP, qK, qN, qD⟩ := q; exact ⟨q0, q1, qP, va_K.moved (u := U) (U := U.calling g mk a) (Vm.Alike.refl U.vm) qK, qN.calling, qD⟩, va_recv hK hP (ci := 1) (q0 := 7) rfl rfl, fun U hU hW => ⟨rfl, by rw [hU], by rw [hU]; exact hPc, va_K.moved hW.alike hK, NN.warm hW hN, hDc.weaken (fun _ _ _ _ => trivial)⟩⟩ rfl rfl hl.1 rfl (lv_room (Nat.le_of_ble_eq_true rfl)) d_Maker_writeDescriptor_143 ⟨hkc, hks⟩) hS (fun q _ h => hFc q h) hFc (fun u t H1 locs ht hvm hp_r29 hB hz1 hk1 hS => ?_)
      obtain ⟨g_30, rfl⟩ : ∃ z, z = u := ⟨_, rfl⟩
      obtain ⟨hP1, hD1⟩ := hB
      rw [ht] at hP1
      obtain ⟨hP, hD⟩ := va_join (wr := [(l0, .inr (3, [.int ln, .int lds, .int ltb, .ref lo, .ref lp, .ref lt, .ref lb, .ref le, .int lc, .int ld])), (lb, .inl (cI, 40, .inl fb)), (le, .inl (cI, 40, .inl fe)), (ct, .inl (cI, 40, .inl cc)), (id, .inr (1, [.ref jq, .int il])), (jq, .inl (cB, 60, .inl jf)), (m0, .inr (4, [.ref tr, .ref im, .ref fi, .ref se, .ref u0, .ref id, .ref ct, .int ra, .int ru, .int wg]))]) (w1 := [(im, .inr (1, [.ref iq, .int L])), (iq, .inl (cB, n, .inl g_30))]) hP hD [7, 8] [0, 1, 2, 3, 4, 5, 6] rfl rfl (by decide +kernel) (by decide +kernel) hk1 hFc hP1 hD1
      clear hPc hDc hFc hP1 hD1 hk1 hz1 hkc hks
      generalize H1 = H at hP hS ⊢
      have hP : va_P D CL [(l0, .inr (3, [.int ln, .int lds, .int ltb, .ref lo, .ref lp, .ref lt, .ref lb, .ref le, .int lc, .int ld])), (lb, .inl (cI, 40, .inl fb)), (le, .inl (cI, 40, .inl fe)), (ct, .inl (cI, 40, .inl cc)), (id, .inr (1, [.ref jq, .int il])), (jq, .inl (cB, 60, .inl jf)), (m0, .inr (4, [.ref tr, .ref im, .ref fi, .ref se, .ref u0, .ref id, .ref ct, .int ra, .int ru, .int wg])), (im, .inr (1, [.ref iq, .int L])), (iq, .inl (cB, n, .inl g_30))] H := hP
      have hD : va_D A [(l0, .inr (3, [.int ln, .int lds, .int ltb, .ref lo, .ref lp, .ref lt, .ref lb, .ref le, .int lc, .int ld])), (lb, .inl (cI, 40, .inl fb)), (le, .inl (cI, 40, .inl fe)), (ct, .inl (cI, 40, .inl cc)), (id, .inr (1, [.ref jq, .int il])), (jq, .inl (cB, 60, .inl jf)), (m0, .inr (4, [.ref tr, .ref im, .ref fi, .ref se, .ref u0, .ref id, .ref ct, .int ra, .int ru, .int wg])), (im, .inr (1, [.ref iq, .int L])), (iq, .inl (cB, n, .inl g_30))] := hD
      try dsimp only at hp_r29
      have hw_31 := hp_r29
      refine lv_aload_n hx hb d_Maker_writeDescriptor_146 rfl (lv_at hl 0 rfl) ?_
      refine va_get (D := D) (ci := 4) (v := .ref im) (C := "DiscMaker$Maker") (T := F_Maker) (N := 10) hx hb ht9 in_Maker hown hK hP 6 rfl rfl 1 (by decide) (ht9 _ k348) (fun _ h9 => h9) rfl d_Maker_writeDescriptor_147 ?_
      refine lv_iload_n hx hb d_Maker_writeDescriptor_150 rfl (lv_at hl 3 rfl) ?_
      refine lv_sipush (v := 140) hx hb d_Maker_writeDescriptor_151 (by decide) ?_
      refine lv_iadd hx hb d_Maker_writeDescriptor_154 ?_
      refine lv_topi (fun v32 e_v32 => ?_)
      have t_v32 : v32.toInt = v1.toInt + 140 := by rw [e_v32]; exact i_add rfl (by decide) (by omega) (by omega)
      refine lv_aload_n hx hb d_Maker_writeDescriptor_155 rfl (lv_at hl 1 rfl) ?_
      refine va_getN (D := D) (ci := 3) (v := .int ltb) (C := "DiscMaker$Layout") (T := F_Layout) (N := 10) hx hb ht9 in_Layout hown hK hP 0 rfl rfl 2 (by decide) (va_Nw.use rfl (hN _ k285)) (fun _ h9 => h9) rfl d_Maker_writeDescriptor_156 ?_
      refine lv_iconst (v := 4) hx hb d_Maker_writeDescriptor_159 (by decide) ?_
      have hPc := hP.sub (ws' := [(im, .inr (1, [.ref iq, .int L])), (iq, .inl (cB, n, .inl g_30))]) [7, 8] rfl
      have hDc := hD.sub (ws' := [(im, .inr (1, [.ref iq, .int L])), (iq, .inl (cB, n, .inl g_30))]) [7, 8] (by decide +kernel) rfl
      have hFc := va_free (wc := [(im, .inr (1, [.ref iq, .int L])), (iq, .inl (cB, n, .inl g_30))]) hD hS hA [7, 8] rfl
      have hkc : 0 ≤ 0 := by decide
      have hks : 0 ≤ 0 := by decide
      refine va_callv (va_runV (C := "DiscMaker$Bytes") (As := [.int v32, .int ltb, .int 4]) (rest := []) ⟨hx, hb, hml, hown, hts⟩ (c3_putLow4F l D cB cI cJ cZ cN cF H.size im iq n L g_30 v32 ltb (by (try dsimp only); first | assumption | omega | trivial) (by (try dsimp only); first | assumption | omega | trivial) (by (try dsimp only); first | assumption | omega | trivial)) (cwV 3 hts (lg_goodV k1095 k1096 k1097 k119 kc_Bytes_putLow) rfl rfl rfl (by decide +kernel) ⟨Nat.le_of_ble_eq_true rfl, Nat.le_of_ble_eq_true rfl⟩) ⟨fun a U g mk q => by obtain ⟨q0, q1, qP, qK, qN, qD⟩ := q; exact ⟨q0, q1, qP, va_K.moved (u := U) (U := U.calling g mk a) (Vm.Alike.refl U.vm) qK, qN.calling, qD⟩, va_recv hK hP (ci := 1) (q0 := 7) rfl rfl, fun U hU hW => ⟨rfl, by rw [hU], by rw [hU]; exact hPc, va_K.moved hW.alike hK, NN.warm hW hN, hDc.weaken (fun _ _ _ _ => trivial)⟩⟩ rfl rfl hl.1 rfl (lv_room (Nat.le_of_ble_eq_true rfl)) d_Maker_writeDescriptor_160 ⟨hkc, hks⟩) hS (fun q _ h => hFc q h) hFc (fun u t H1 locs ht hvm hp_r33 hB hz1 hk1 hS => ?_)
      obtain ⟨g_34, rfl⟩ : ∃ z, z = u := ⟨_, rfl⟩
      obtain ⟨hP1, hD1⟩ := hB
      rw [ht] at hP1
      obtain ⟨hP, hD⟩ := va_join (wr := [(l0, .inr (3, [.int ln, .int lds, .int ltb, .ref lo, .ref lp, .ref lt, .ref lb, .ref le, .int lc, .int ld])), (lb, .inl (cI, 40, .inl fb)), (le, .inl (cI, 40, .inl fe)), (ct, .inl (cI, 40, .inl cc)), (id, .inr (1, [.ref jq, .int il])), (jq, .inl (cB, 60, .inl jf)), (m0, .inr (4, [.ref tr, .ref im, .ref fi, .ref se, .ref u0, .ref id, .ref ct, .int ra, .int ru, .int wg]))]) (w1 := [(im, .inr (1, [.ref iq, .int L])), (iq, .inl (cB, n, .inl g_34))]) hP hD [7, 8] [0, 1, 2, 3, 4, 5, 6] rfl rfl (by decide +kernel) (by decide +kernel) hk1 hFc hP1 hD1
      clear hPc hDc hFc hP1 hD1 hk1 hz1 hkc hks
      generalize H1 = H at hP hS ⊢
      have hP : va_P D CL [(l0, .inr (3, [.int ln, .int lds, .int ltb, .ref lo, .ref lp, .ref lt, .ref lb, .ref le, .int lc, .int ld])), (lb, .inl (cI, 40, .inl fb)), (le, .inl (cI, 40, .inl fe)), (ct, .inl (cI, 40, .inl cc)), (id, .inr (1, [.ref jq, .int il])), (jq, .inl (cB, 60, .inl jf)), (m0, .inr (4, [.ref tr, .ref im, .ref fi, .ref se, .ref u0, .ref id, .ref ct, .int ra, .int ru, .int wg])), (im, .inr (1, [.ref iq, .int L])), (iq, .inl (cB, n, .inl g_34))] H := hP
      have hD : va_D A [(l0, .inr (3, [.int ln, .int lds, .int ltb, .ref lo, .ref lp, .ref lt, .ref lb, .ref le, .int lc, .int ld])), (lb, .inl (cI, 40, .inl fb)), (le, .inl (cI, 40, .inl fe)), (ct, .inl (cI, 40, .inl cc)), (id, .inr (1, [.ref jq, .int il])), (jq, .inl (cB, 60, .inl jf)), (m0, .inr (4, [.ref tr, .ref im, .ref fi, .ref se, .ref u0, .ref id, .ref ct, .int ra, .int ru, .int wg])), (im, .inr (1, [.ref iq, .int L])), (iq, .inl (cB, n, .inl g_34))] := hD
      try dsimp only at hp_r33
      have hw_35 := hp_r33
      refine lv_aload_n hx hb d_Maker_writeDescriptor_163 rfl (lv_at hl 0 rfl) ?_
      refine va_get (D := D) (ci := 4) (v := .ref im) (C := "DiscMaker$Maker") (T := F_Maker) (N := 10) hx hb ht9 in_Maker hown hK hP 6 rfl rfl 1 (by decide) (ht9 _ k348) (fun _ h9 => h9) rfl d_Maker_writeDescriptor_164 ?_
      refine lv_iload_n hx hb d_Maker_writeDescriptor_167 rfl (lv_at hl 3 rfl) ?_
      refine lv_sipush (v := 148) hx hb d_Maker_writeDescriptor_168 (by decide) ?_
      refine lv_iadd hx hb d_Maker_writeDescriptor_171 ?_
      refine lv_topi (fun v36 e_v36 => ?_)
      have t_v36 : v36.toInt = v1.toInt + 148 := by rw [e_v36]; exact i_add rfl (by decide) (by omega) (by omega)
      refine lv_aload_n hx hb d_Maker_writeDescriptor_172 rfl (lv_at hl 1 rfl) ?_
      refine va_getN (D := D) (ci := 3) (v := .int ltb) (C := "DiscMaker$Layout") (T := F_Layout) (N := 10) hx hb ht9 in_Layout hown hK hP 0 rfl rfl 2 (by decide) (va_Nw.use rfl (hN _ k285)) (fun _ h9 => h9) rfl d_Maker_writeDescriptor_173 ?_
      refine lv_iconst (v := 1) hx hb d_Maker_writeDescriptor_176 (by decide) ?_
      refine lv_iadd hx hb d_Maker_writeDescriptor_177 ?_
      refine lv_topi (fun v37 e_v37 => ?_)
      have t_v37 : v37.toInt = ltb.toInt + 1 := by rw [e_v37]; exact i_add rfl (by decide) (by omega) (by omega)
      refine lv_iconst (v := 4) hx hb d_Maker_writeDescriptor_178 (by decide) ?_
      have hPc := hP.sub (ws' := [(im, .inr (1, [.ref iq, .int L])), (iq, .inl (cB, n, .inl g_34))]) [7, 8] rfl
      have hDc := hD.sub (ws' := [(im, .inr (1, [.ref iq, .int L])), (iq, .inl (cB, n, .inl g_34))]) [7, 8] (by decide +kernel) rfl
      have hFc := va_free (wc := [(im, .inr (1, [.ref iq, .int L])), (iq, .inl (cB, n, .inl g_34))]) hD hS hA [7, 8] rfl
      have hkc : 0 ≤ 0 := by decide
      have hks : 0 ≤ 0 := by decide
      refine va_callv (va_runV (C := "DiscMaker$Bytes") (As := [.int v36, .int v37, .int 4]) (rest := []) ⟨hx, hb, hml, hown, hts⟩ (c3_putHigh4F l D cB cI cJ cZ cN cF H.size im iq n L g_34 v36 v37 (by (try dsimp only); first | assumption | omega | trivial) (by (try dsimp only); first | assumption | omega | trivial) (by (try dsimp only); first | assumption | omega | trivial)) (cwV 3 hts (lg_goodV k1072 k985 k986 k119 kc_Bytes_putHigh) rfl rfl rfl (by decide +kernel) ⟨Nat.le_of_ble_eq_true rfl, Nat.le_of_ble_eq_true rfl⟩) ⟨fun a U g mk q => by obtain ⟨q0, q1, qP, qK, qN, qD⟩ := q; exact ⟨q0, q1, qP, va_K.moved (u := U) (U := U.calling g mk a) (Vm.Alike.refl U.vm) qK, qN.calling, qD⟩, va_recv hK hP (ci := 1) (q0 := 7) rfl rfl, fun U hU hW => ⟨rfl, by rw [hU], by rw [hU]; exact hPc, va_K.moved hW.alike hK, NN.warm hW hN, hDc.weaken (fun _ _ _ _ => trivial)⟩⟩ rfl rfl hl.1 rfl (lv_room (Nat.le_of_ble_eq_true rfl)) d_Maker_writeDescriptor_179 ⟨hkc, hks⟩) hS (fun q _ h => hFc q h) hFc (fun u t H1 locs ht hvm hp_r38 hB hz1 hk1 hS => ?_)
      obtain ⟨g_39, rfl⟩ : ∃ z, z = u := ⟨_, rfl⟩
      obtain ⟨hP1, hD1⟩ := hB
      rw [ht] at hP1
      obtain ⟨hP, hD⟩ := va_join (wr := [(l0, .inr (3, [.int ln, .int lds, .int ltb, .ref lo, .ref lp, .ref lt, .ref lb, .ref le, .int lc, .int ld])), (lb, .inl (cI, 40, .inl fb)), (le, .inl (cI, 40, .inl fe)), (ct, .inl (cI, 40, .inl cc)), (id, .inr (1, [.ref jq, .int il])), (jq, .inl (cB, 60, .inl jf)), (m0, .inr (4, [.ref tr, .ref im, .ref fi, .ref se, .ref u0, .ref id, .ref ct, .int ra, .int ru, .int wg]))]) (w1 := [(im, .inr (1, [.ref iq, .int L])), (iq, .inl (cB, n, .inl g_39))]) hP hD [7, 8] [0, 1, 2, 3, 4, 5, 6] rfl rfl (by decide +kernel) (by decide +kernel) hk1 hFc hP1 hD1
      clear hPc hDc hFc hP1 hD1 hk1 hz1 hkc hks
      generalize H1 = H at hP hS ⊢
      have hP : va_P D CL [(l0, .inr (3, [.int ln, .int lds, .int ltb, .ref lo, .ref lp, .ref lt, .ref lb, .ref le, .int lc, .int ld])), (lb, .inl (cI, 40, .inl fb)), (le, .inl (cI, 40, .inl fe)), (ct, .inl (cI, 40, .inl cc)), (id, .inr (1, [.ref jq, .int il])), (jq, .inl (cB, 60, .inl jf)), (m0, .inr (4, [.ref tr, .ref im, .ref fi, .ref se, .ref u0, .ref id, .ref ct, .int ra, .int ru, .int wg])), (im, .inr (1, [.ref iq, .int L])), (iq, .inl (cB, n, .inl g_39))] H := hP
      have hD : va_D A [(l0, .inr (3, [.int ln, .int lds, .int ltb, .ref lo, .ref lp, .ref lt, .ref lb, .ref le, .int lc, .int ld])), (lb, .inl (cI, 40, .inl fb)), (le, .inl (cI, 40, .inl fe)), (ct, .inl (cI, 40, .inl cc)), (id, .inr (1, [.ref jq, .int il])), (jq, .inl (cB, 60, .inl jf)), (m0, .inr (4, [.ref tr, .ref im, .ref fi, .ref se, .ref u0, .ref id, .ref ct, .int ra, .int ru, .int wg])), (im, .inr (1, [.ref iq, .int L])), (iq, .inl (cB, n, .inl g_39))] := hD
      try dsimp only at hp_r38
      have hw_40 := hp_r38
      refine lv_aload_n hx hb d_Maker_writeDescriptor_182 rfl (lv_at hl 0 rfl) ?_
      refine lv_aload_n hx hb d_Maker_writeDescriptor_183 rfl (lv_at hl 1 rfl) ?_
      refine lv_aload_n hx hb d_Maker_writeDescriptor_184 rfl (lv_at hl 0 rfl) ?_
      refine va_get (D := D) (ci := 4) (v := .ref tr) (C := "DiscMaker$Maker") (T := F_Maker) (N := 10) hx hb ht9 in_Maker hown hK hP 6 rfl rfl 0 (by decide) (ht9 _ k347) (fun _ h9 => h9) rfl d_Maker_writeDescriptor_185 ?_
      have hPR := RO_at hZr hS
      refine va_getN (D := D) (ci := 10) (v := .ref ta) (C := "DiscMaker$Tree") (T := F_Tree) (N := 3) hx hb ht9 in_Tree hown hK hPR 0 rfl rfl 0 (by decide) (va_Nw.use rfl (hN _ k237)) (fun _ h9 => h9) rfl d_Maker_writeDescriptor_188 ?_
      refine lv_iconst (v := 0) hx hb d_Maker_writeDescriptor_191 (by decide) ?_
      have hPR := RO_at hZr hS
      refine va_aldq hx hb hK hPR 1 4 rfl rfl (by unfold vp_in; decide) d_Maker_writeDescriptor_192 ?_
      have hk41 : 0 < cm := by omega
      have o_hk41 := htok 0 hk41
      obtain ⟨i_hj42, hj42⟩ : ∃ j : Nat, (PL (NC cB na ng nn nf) cm)[j]? = some ((na 0 0), .inr (5, [.int (ng 0 0), .ref (na 0 1), .ref (na 0 2), .ref (na 0 3), .int (ng 0 1), .int (ng 0 2), .int (ng 0 3), .int (ng 0 4), .int (ng 0 5), .int (ng 0 6), .int (ng 0 7), .int (ng 0 8)])) := PL_get (i := 0) hk41 rfl
      obtain ⟨i_hj43, hj43⟩ : ∃ j : Nat, (PL (NC cB na ng nn nf) cm)[j]? = some ((na 0 1), .inl (cB, (nn 0 1), .inl (nf 0 1))) := PL_get (i := 1) hk41 rfl
      obtain ⟨i_hj44, hj44⟩ : ∃ j : Nat, (PL (NC cB na ng nn nf) cm)[j]? = some ((na 0 2), .inl (cB, 11, .inl (nf 0 2))) := PL_get (i := 2) hk41 rfl
      obtain ⟨i_hj45, hj45⟩ : ∃ j : Nat, (PL (NC cB na ng nn nf) cm)[j]? = some ((na 0 3), .inl (cB, (nn 0 3), .inl (nf 0 3))) := PL_get (i := 3) hk41 rfl
      have dd_hk41 := hdt 0 hk41
      have mm_hk41 := hnm 0 hk41
      have nu_hk41 : (ng 0 1).toNatClampNeg = 0 := by have h7 := i_cl (a := ng 0 1) (by omega); omega
      refine W.eq (g2 := F0 m 193 ls [.ref (na 0 0), .ref l0, .ref m0]) (by rw [show rowF na cm (0 : Int32).toNatClampNeg = some (na 0 0) from rowF_some hk41]; rfl) ?_
      refine lv_iconst (v := 0) hx hb d_Maker_writeDescriptor_193 (by decide) ?_
      have hPc := hP.sub (ws' := [(m0, .inr (4, [.ref tr, .ref im, .ref fi, .ref se, .ref u0, .ref id, .ref ct, .int ra, .int ru, .int wg])), (l0, .inr (3, [.int ln, .int lds, .int ltb, .ref lo, .ref lp, .ref lt, .ref lb, .ref le, .int lc, .int ld])), (id, .inr (1, [.ref jq, .int il])), (jq, .inl (cB, 60, .inl jf))]) [6, 0, 4, 5] rfl
      have hDc := hD.sub (ws' := [(m0, .inr (4, [.ref tr, .ref im, .ref fi, .ref se, .ref u0, .ref id, .ref ct, .int ra, .int ru, .int wg])), (l0, .inr (3, [.int ln, .int lds, .int ltb, .ref lo, .ref lp, .ref lt, .ref lb, .ref le, .int lc, .int ld])), (id, .inr (1, [.ref jq, .int il])), (jq, .inl (cB, 60, .inl jf))]) [6, 0, 4, 5] (by decide +kernel) rfl
      have hFc := va_free (wc := [(m0, .inr (4, [.ref tr, .ref im, .ref fi, .ref se, .ref u0, .ref id, .ref ct, .int ra, .int ru, .int wg])), (l0, .inr (3, [.int ln, .int lds, .int ltb, .ref lo, .ref lp, .ref lt, .ref lb, .ref le, .int lc, .int ld])), (id, .inr (1, [.ref jq, .int il])), (jq, .inl (cB, 60, .inl jf))]) hD hS hA [6, 0, 4, 5] rfl
      have hkc : 0 ≤ 0 := by decide
      have hks : 0 ≤ 0 := by decide
      refine va_callv (va_runV (C := "DiscMaker$Maker") (As := [.ref l0, .ref (na 0 0), .int 0]) (rest := []) ⟨hx, hb, hml, hown, hts⟩ (c3_identifyF l D cB cI cJ cZ cN cF H.size m0 tr im fi se u0 id ct ra ru wg l0 lo lp lt lb le ln lds ltb lc ld jq il jf (na 0 0) (na 0 1) (na 0 2) (na 0 3) (ng 0 0) (ng 0 1) (ng 0 2) (ng 0 3) (ng 0 4) (ng 0 5) (ng 0 6) (ng 0 7) (ng 0 8) (nn 0 1) (nf 0 1) (nf 0 2) dt nf 0 (by (try dsimp only); first | assumption | omega | trivial) (by rw [nu_hk41]; exact dd_hk41.1.1) (by rw [nu_hk41]; exact dd_hk41.1.2.1) (by rw [nu_hk41]; exact dd_hk41.2.1) (by rw [nu_hk41]; exact dd_hk41.2.2) (mm_hk41.1.1) (by (try dsimp only); first | assumption | omega | trivial) (by (try dsimp only); first | assumption | omega | trivial) (by rw [nu_hk41] <;> rfl) (by rw [nu_hk41] <;> rfl)) (cwV 3 hts (lg_goodV k972 k974 k18 k120 kc_Maker_identify) rfl rfl rfl (by decide +kernel) ⟨Nat.le_of_ble_eq_true rfl, Nat.le_of_ble_eq_true rfl⟩) ⟨fun a U g mk q => by obtain ⟨q0, q1, qP, qK, qN, qD, qZ0⟩ := q; exact ⟨q0, q1, qP, va_K.moved (u := U) (U := U.calling g mk a) (Vm.Alike.refl U.vm) qK, qN.calling, qD, RO_blind qZ0⟩, va_recv hK hP (ci := 4) (q0 := 6) rfl rfl, fun U hU hW => ⟨rfl, by rw [hU], by rw [hU]; exact hPc, va_K.moved hW.alike hK, NN.warm hW hN, hDc.weaken (fun _ _ _ _ => trivial), (RO_app (w1 := [((na 0 0), .inr (5, [.int (ng 0 0), .ref (na 0 1), .ref (na 0 2), .ref (na 0 3), .int (ng 0 1), .int (ng 0 2), .int (ng 0 3), .int (ng 0 4), .int (ng 0 5), .int (ng 0 6), .int (ng 0 7), .int (ng 0 8)]))]) (w2 := [((na 0 1), .inl (cB, (nn 0 1), .inl (nf 0 1))), ((na 0 2), .inl (cB, 11, .inl (nf 0 2)))]) (RO_pass (RO_one hZr _ (pix (X := [(tr, .inr (10, [.ref ta, .int cn, .int dr])), (ta, .inl (cN, 40, .inr (.inr (.inr (.inr (rowF na cm))))))]) hj42)) hS hFc hU) (RO_app (w1 := [((na 0 1), .inl (cB, (nn 0 1), .inl (nf 0 1)))]) (w2 := [((na 0 2), .inl (cB, 11, .inl (nf 0 2)))]) (RO_pass (RO_one hZr _ (pix (X := [(tr, .inr (10, [.ref ta, .int cn, .int dr])), (ta, .inl (cN, 40, .inr (.inr (.inr (.inr (rowF na cm))))))]) hj43)) hS hFc hU) (RO_pass (RO_one hZr _ (pix (X := [(tr, .inr (10, [.ref ta, .int cn, .int dr])), (ta, .inl (cN, 40, .inr (.inr (.inr (.inr (rowF na cm))))))]) hj44)) hS hFc hU)))⟩⟩ rfl rfl hl.1 rfl (lv_room (Nat.le_of_ble_eq_true rfl)) d_Maker_writeDescriptor_194 ⟨hkc, hks⟩) hS (fun q _ h => hFc q h) hFc (fun u t H1 locs ht hvm hp_r46 hB hz1 hk1 hS => ?_)
      obtain ⟨il2_47, g_48⟩ := u
      obtain ⟨hP1, hD1⟩ := hB
      rw [ht] at hP1
      obtain ⟨hP, hD⟩ := va_join (wr := [(lb, .inl (cI, 40, .inl fb)), (le, .inl (cI, 40, .inl fe)), (ct, .inl (cI, 40, .inl cc)), (im, .inr (1, [.ref iq, .int L])), (iq, .inl (cB, n, .inl g_39))]) (w1 := [(m0, .inr (4, [.ref tr, .ref im, .ref fi, .ref se, .ref u0, .ref id, .ref ct, .int ra, .int ru, .int wg])), (l0, .inr (3, [.int ln, .int lds, .int ltb, .ref lo, .ref lp, .ref lt, .ref lb, .ref le, .int lc, .int ld])), (id, .inr (1, [.ref jq, .int il2_47])), (jq, .inl (cB, 60, .inl g_48))]) hP hD [6, 0, 4, 5] [1, 2, 3, 7, 8] rfl rfl (by decide +kernel) (by decide +kernel) hk1 hFc hP1 hD1
      clear hPc hDc hFc hP1 hD1 hk1 hz1 hkc hks
      generalize H1 = H at hP hS ⊢
      have hP : va_P D CL [(lb, .inl (cI, 40, .inl fb)), (le, .inl (cI, 40, .inl fe)), (ct, .inl (cI, 40, .inl cc)), (im, .inr (1, [.ref iq, .int L])), (iq, .inl (cB, n, .inl g_39)), (m0, .inr (4, [.ref tr, .ref im, .ref fi, .ref se, .ref u0, .ref id, .ref ct, .int ra, .int ru, .int wg])), (l0, .inr (3, [.int ln, .int lds, .int ltb, .ref lo, .ref lp, .ref lt, .ref lb, .ref le, .int lc, .int ld])), (id, .inr (1, [.ref jq, .int il2_47])), (jq, .inl (cB, 60, .inl g_48))] H := hP
      have hD : va_D A [(lb, .inl (cI, 40, .inl fb)), (le, .inl (cI, 40, .inl fe)), (ct, .inl (cI, 40, .inl cc)), (im, .inr (1, [.ref iq, .int L])), (iq, .inl (cB, n, .inl g_39)), (m0, .inr (4, [.ref tr, .ref im, .ref fi, .ref se, .ref u0, .ref id, .ref ct, .int ra, .int ru, .int wg])), (l0, .inr (3, [.int ln, .int lds, .int ltb, .ref lo, .ref lp, .ref lt, .ref lb, .ref le, .int lc, .int ld])), (id, .inr (1, [.ref jq, .int il2_47])), (jq, .inl (cB, 60, .inl g_48))] := hD
      try dsimp only at hp_r46
      obtain ⟨hil2_49, hid_50, hw_51⟩ := hp_r46
      try rw [L_0] at hid_50
      try rw [L_0] at hw_51
      have hJ9 := hw_51
      rw [nu_hk41] at hJ9
      have hJe : idL dt nf ln.toInt 0 0 = [0] := by unfold idL; rw [if_pos (by decide)]
      rw [hJe] at hJ9
      have hJl := hJ9.1
      have w1 := hw_4
      rw [e3] at w1
      have hlow := hw_35
      rw [show ltb.toInt = 19 + 2 * ln.toInt by omega] at hlow
      have hhig := hw_40
      rw [show v37.toInt = 20 + 2 * ln.toInt by omega] at hhig
      have hmny := hw_15
      rw [show v12.toInt = L.toInt / 2048 by omega] at hmny
      have r10 := ds_10 (t := ln.toInt) (hi := lds.toInt * 2048 + 2048) hz w1 hfl10 hmny e4 hw_19 hw_23 hw_27 hw_31 hlow hhig (by rcases hln01 with h7 | h7 <;> first | exact Or.inr ⟨h7, if_neg (by omega)⟩ | exact Or.inl ⟨h7, if_pos h7⟩) rfl (by omega) (by omega) rfl (by omega) (by omega) (by omega) (by omega) (by omega) (by omega) (by omega)
      refine lv_aload_n hx hb d_Maker_writeDescriptor_197 rfl (lv_at hl 0 rfl) ?_
      refine lv_aload_n hx hb d_Maker_writeDescriptor_198 rfl (lv_at hl 1 rfl) ?_
      refine lv_aload_n hx hb d_Maker_writeDescriptor_199 rfl (lv_at hl 0 rfl) ?_
      refine va_get (D := D) (ci := 4) (v := .ref tr) (C := "DiscMaker$Maker") (T := F_Maker) (N := 10) hx hb ht9 in_Maker hown hK hP 5 rfl rfl 0 (by decide) (ht9 _ k347) (fun _ h9 => h9) rfl d_Maker_writeDescriptor_200 ?_
      have hPR := RO_at hZr hS
      refine va_getN (D := D) (ci := 10) (v := .ref ta) (C := "DiscMaker$Tree") (T := F_Tree) (N := 3) hx hb ht9 in_Tree hown hK hPR 0 rfl rfl 0 (by decide) (va_Nw.use rfl (hN _ k237)) (fun _ h9 => h9) rfl d_Maker_writeDescriptor_203 ?_
      refine lv_iconst (v := 0) hx hb d_Maker_writeDescriptor_206 (by decide) ?_
      have hPR := RO_at hZr hS
      refine va_aldq hx hb hK hPR 1 4 rfl rfl (by unfold vp_in; decide) d_Maker_writeDescriptor_207 ?_
      have hk52 : 0 < cm := by omega
      have o_hk52 := htok 0 hk52
      obtain ⟨i_hj53, hj53⟩ : ∃ j : Nat, (PL (NC cB na ng nn nf) cm)[j]? = some ((na 0 0), .inr (5, [.int (ng 0 0), .ref (na 0 1), .ref (na 0 2), .ref (na 0 3), .int (ng 0 1), .int (ng 0 2), .int (ng 0 3), .int (ng 0 4), .int (ng 0 5), .int (ng 0 6), .int (ng 0 7), .int (ng 0 8)])) := PL_get (i := 0) hk52 rfl
      obtain ⟨i_hj54, hj54⟩ : ∃ j : Nat, (PL (NC cB na ng nn nf) cm)[j]? = some ((na 0 1), .inl (cB, (nn 0 1), .inl (nf 0 1))) := PL_get (i := 1) hk52 rfl
      obtain ⟨i_hj55, hj55⟩ : ∃ j : Nat, (PL (NC cB na ng nn nf) cm)[j]? = some ((na 0 2), .inl (cB, 11, .inl (nf 0 2))) := PL_get (i := 2) hk52 rfl
      obtain ⟨i_hj56, hj56⟩ : ∃ j : Nat, (PL (NC cB na ng nn nf) cm)[j]? = some ((na 0 3), .inl (cB, (nn 0 3), .inl (nf 0 3))) := PL_get (i := 3) hk52 rfl
      refine W.eq (g2 := F0 m 208 ls [.ref (na 0 0), .ref l0, .ref m0]) (by rw [show rowF na cm (0 : Int32).toNatClampNeg = some (na 0 0) from rowF_some hk52]; rfl) ?_
      refine lv_iload_n hx hb d_Maker_writeDescriptor_208 rfl (lv_at hl 3 rfl) ?_
      refine lv_sipush (v := 156) hx hb d_Maker_writeDescriptor_209 (by decide) ?_
      refine lv_iadd hx hb d_Maker_writeDescriptor_212 ?_
      refine lv_topi (fun v57 e_v57 => ?_)
      have t_v57 : v57.toInt = v1.toInt + 156 := by rw [e_v57]; exact i_add rfl (by decide) (by omega) (by omega)
      refine lv_bipush (v := 34) hx hb d_Maker_writeDescriptor_213 (by decide) ?_
      have hPc := hP.sub (ws' := [(m0, .inr (4, [.ref tr, .ref im, .ref fi, .ref se, .ref u0, .ref id, .ref ct, .int ra, .int ru, .int wg])), (l0, .inr (3, [.int ln, .int lds, .int ltb, .ref lo, .ref lp, .ref lt, .ref lb, .ref le, .int lc, .int ld])), (lb, .inl (cI, 40, .inl fb)), (le, .inl (cI, 40, .inl fe)), (ct, .inl (cI, 40, .inl cc)), (id, .inr (1, [.ref jq, .int il2_47])), (jq, .inl (cB, 60, .inl g_48)), (im, .inr (1, [.ref iq, .int L])), (iq, .inl (cB, n, .inl g_39))]) [5, 6, 0, 1, 2, 7, 8, 3, 4] rfl
      have hDc := hD.sub (ws' := [(m0, .inr (4, [.ref tr, .ref im, .ref fi, .ref se, .ref u0, .ref id, .ref ct, .int ra, .int ru, .int wg])), (l0, .inr (3, [.int ln, .int lds, .int ltb, .ref lo, .ref lp, .ref lt, .ref lb, .ref le, .int lc, .int ld])), (lb, .inl (cI, 40, .inl fb)), (le, .inl (cI, 40, .inl fe)), (ct, .inl (cI, 40, .inl cc)), (id, .inr (1, [.ref jq, .int il2_47])), (jq, .inl (cB, 60, .inl g_48)), (im, .inr (1, [.ref iq, .int L])), (iq, .inl (cB, n, .inl g_39))]) [5, 6, 0, 1, 2, 7, 8, 3, 4] (by decide +kernel) rfl
      have hFc := va_free (wc := [(m0, .inr (4, [.ref tr, .ref im, .ref fi, .ref se, .ref u0, .ref id, .ref ct, .int ra, .int ru, .int wg])), (l0, .inr (3, [.int ln, .int lds, .int ltb, .ref lo, .ref lp, .ref lt, .ref lb, .ref le, .int lc, .int ld])), (lb, .inl (cI, 40, .inl fb)), (le, .inl (cI, 40, .inl fe)), (ct, .inl (cI, 40, .inl cc)), (id, .inr (1, [.ref jq, .int il2_47])), (jq, .inl (cB, 60, .inl g_48)), (im, .inr (1, [.ref iq, .int L])), (iq, .inl (cB, n, .inl g_39))]) hD hS hA [5, 6, 0, 1, 2, 7, 8, 3, 4] rfl
      have hkc : 0 ≤ 0 := by decide
      have hks : 0 ≤ 0 := by decide
      refine va_callv (va_runV (C := "DiscMaker$Maker") (As := [.ref l0, .ref (na 0 0), .int v57, .int 34]) (rest := []) ⟨hx, hb, hml, hown, hts⟩ (c3_writeRecordF l D cB cI cJ cZ cN cF H.size m0 tr im fi se u0 id ct ra ru wg l0 lo lp lt lb le ln lds ltb lc ld fb fe cc jq il2_47 g_48 iq n L g_39 (na 0 0) (na 0 1) (na 0 2) (na 0 3) (ng 0 0) (ng 0 1) (ng 0 2) (ng 0 3) (ng 0 4) (ng 0 5) (ng 0 6) (ng 0 7) (ng 0 8) td ts tl gd gs gl (dxE dx ln.toInt 0) (dxZ dx ln.toInt 0) (lds.toInt * 2048 + 2048) ([0]) v57 34 (by (try dsimp only); first | assumption | omega | trivial) (by (try dsimp only); first | assumption | omega | trivial) (by (try dsimp only); first | assumption | omega | trivial) (by (try dsimp only); first | assumption | omega | trivial) (hJ9) (by rw [nu_hk41, ← dd_hk41.1.1]; exact (hdl 0 hk41).1) (by rw [nu_hk41, ← dd_hk41.1.1, ← dd_hk41.1.2.2.2.2.1]; exact (hdl 0 hk41).2) ((r10.2.2.sub (by omega) (Int.le_refl _))) (by (try dsimp only); first | assumption | omega | trivial) (hgd)) (cwV 4 hts (lg_goodV k1052 k1054 k21 k120 kc_Maker_writeRecord) rfl rfl rfl (by decide +kernel) ⟨Nat.le_of_ble_eq_true rfl, Nat.le_of_ble_eq_true rfl⟩) ⟨fun a U g mk q => by obtain ⟨q0, q1, qP, qK, qN, qD, qZ0, qZ1⟩ := q; exact ⟨q0, q1, qP, va_K.moved (u := U) (U := U.calling g mk a) (Vm.Alike.refl U.vm) qK, qN.calling, qD, SZ_blind qZ0, RO_blind qZ1⟩, va_recv hK hP (ci := 4) (q0 := 5) rfl rfl, fun U hU hW => ⟨rfl, by rw [hU], by rw [hU]; exact hPc, va_K.moved hW.alike hK, NN.warm hW hN, hDc.weaken (fun _ _ _ _ => trivial), SZ_pass hZs hS hFc hW.alike hU, (RO_pass (RO_one hZr _ (pix (X := [(tr, .inr (10, [.ref ta, .int cn, .int dr])), (ta, .inl (cN, 40, .inr (.inr (.inr (.inr (rowF na cm))))))]) hj53)) hS hFc hU)⟩⟩ rfl rfl hl.1 rfl (lv_room (Nat.le_of_ble_eq_true rfl)) d_Maker_writeDescriptor_215 ⟨hkc, hks⟩) hS (fun q _ h => hFc q h) hFc (fun u t H1 locs ht hvm hp_r58 hB hz1 hk1 hS => ?_)
      obtain ⟨g_59, rfl⟩ : ∃ z, z = u := ⟨_, rfl⟩
      obtain ⟨hP1, hD1⟩ := hB
      rw [ht] at hP1
      obtain ⟨hP, hD⟩ := va_join (wr := []) (w1 := [(m0, .inr (4, [.ref tr, .ref im, .ref fi, .ref se, .ref u0, .ref id, .ref ct, .int ra, .int ru, .int wg])), (l0, .inr (3, [.int ln, .int lds, .int ltb, .ref lo, .ref lp, .ref lt, .ref lb, .ref le, .int lc, .int ld])), (lb, .inl (cI, 40, .inl fb)), (le, .inl (cI, 40, .inl fe)), (ct, .inl (cI, 40, .inl cc)), (id, .inr (1, [.ref jq, .int il2_47])), (jq, .inl (cB, 60, .inl g_48)), (im, .inr (1, [.ref iq, .int L])), (iq, .inl (cB, n, .inl g_59))]) hP hD [5, 6, 0, 1, 2, 7, 8, 3, 4] [] rfl rfl (by decide +kernel) (by decide +kernel) hk1 hFc hP1 hD1
      clear hPc hDc hFc hP1 hD1 hk1 hz1 hkc hks
      generalize H1 = H at hP hS ⊢
      have hP : va_P D CL [(m0, .inr (4, [.ref tr, .ref im, .ref fi, .ref se, .ref u0, .ref id, .ref ct, .int ra, .int ru, .int wg])), (l0, .inr (3, [.int ln, .int lds, .int ltb, .ref lo, .ref lp, .ref lt, .ref lb, .ref le, .int lc, .int ld])), (lb, .inl (cI, 40, .inl fb)), (le, .inl (cI, 40, .inl fe)), (ct, .inl (cI, 40, .inl cc)), (id, .inr (1, [.ref jq, .int il2_47])), (jq, .inl (cB, 60, .inl g_48)), (im, .inr (1, [.ref iq, .int L])), (iq, .inl (cB, n, .inl g_59))] H := hP
      have hD : va_D A [(m0, .inr (4, [.ref tr, .ref im, .ref fi, .ref se, .ref u0, .ref id, .ref ct, .int ra, .int ru, .int wg])), (l0, .inr (3, [.int ln, .int lds, .int ltb, .ref lo, .ref lp, .ref lt, .ref lb, .ref le, .int lc, .int ld])), (lb, .inl (cI, 40, .inl fb)), (le, .inl (cI, 40, .inl fe)), (ct, .inl (cI, 40, .inl cc)), (id, .inr (1, [.ref jq, .int il2_47])), (jq, .inl (cB, 60, .inl g_48)), (im, .inr (1, [.ref iq, .int L])), (iq, .inl (cB, n, .inl g_59))] := hD
      try dsimp only at hp_r58
      have hw_60 := hp_r58
      try rw [L_34] at hw_60
      have hrr := (hw_60).1
      rw [if_pos hr0] at hrr
      refine lv_aload_n hx hb d_Maker_writeDescriptor_218 rfl (lv_at hl 0 rfl) ?_
      refine va_get (D := D) (ci := 4) (v := .ref im) (C := "DiscMaker$Maker") (T := F_Maker) (N := 10) hx hb ht9 in_Maker hown hK hP 0 rfl rfl 1 (by decide) (ht9 _ k348) (fun _ h9 => h9) rfl d_Maker_writeDescriptor_219 ?_
      refine lv_iload_n hx hb d_Maker_writeDescriptor_222 rfl (lv_at hl 3 rfl) ?_
      refine lv_sipush (v := 190) hx hb d_Maker_writeDescriptor_223 (by decide) ?_
      refine lv_iadd hx hb d_Maker_writeDescriptor_226 ?_
      refine lv_topi (fun v61 e_v61 => ?_)
      have t_v61 : v61.toInt = v1.toInt + 190 := by rw [e_v61]; exact i_add rfl (by decide) (by omega) (by omega)
      refine lv_iload_n hx hb d_Maker_writeDescriptor_227 rfl (lv_at hl 3 rfl) ?_
      refine lv_sipush (v := 813) hx hb d_Maker_writeDescriptor_228 (by decide) ?_
      refine lv_iadd hx hb d_Maker_writeDescriptor_231 ?_
      refine lv_topi (fun v62 e_v62 => ?_)
      have t_v62 : v62.toInt = v1.toInt + 813 := by rw [e_v62]; exact i_add rfl (by decide) (by omega) (by omega)
      refine lv_bipush (v := 32) hx hb d_Maker_writeDescriptor_232 (by decide) ?_
      have hPc := hP.sub (ws' := [(im, .inr (1, [.ref iq, .int L])), (iq, .inl (cB, n, .inl g_59))]) [7, 8] rfl
      have hDc := hD.sub (ws' := [(im, .inr (1, [.ref iq, .int L])), (iq, .inl (cB, n, .inl g_59))]) [7, 8] (by decide +kernel) rfl
      have hFc := va_free (wc := [(im, .inr (1, [.ref iq, .int L])), (iq, .inl (cB, n, .inl g_59))]) hD hS hA [7, 8] rfl
      have hkc : 0 ≤ 0 := by decide
      have hks : 0 ≤ 0 := by decide
      refine va_callv (va_runV (C := "DiscMaker$Bytes") (As := [.int v61, .int v62, .int 32]) (rest := []) ⟨hx, hb, hml, hown, hts⟩ (c3_fillF l D cB cI cJ cZ cN cF H.size im iq n L g_59 v61 v62 32 (by (try dsimp only); first | assumption | omega | trivial) (by (try dsimp only); first | assumption | omega | trivial) (by (try dsimp only); first | assumption | omega | trivial)) (cwV 3 hts (lg_goodV k1109 k1110 k1111 k119 kc_Bytes_fill) rfl rfl rfl (by decide +kernel) ⟨Nat.le_of_ble_eq_true rfl, Nat.le_of_ble_eq_true rfl⟩) ⟨fun a U g mk q => by obtain ⟨q0, q1, qP, qK, qN, qD⟩ := q; exact ⟨q0, q1, qP, va_K.moved (u := U) (U := U.calling g mk a) (Vm.Alike.refl U.vm) qK, qN.calling, qD⟩, va_recv hK hP (ci := 1) (q0 := 7) rfl rfl, fun U hU hW => ⟨rfl, by rw [hU], by rw [hU]; exact hPc, va_K.moved hW.alike hK, NN.warm hW hN, hDc.weaken (fun _ _ _ _ => trivial)⟩⟩ rfl rfl hl.1 rfl (lv_room (Nat.le_of_ble_eq_true rfl)) d_Maker_writeDescriptor_234 ⟨hkc, hks⟩) hS (fun q _ h => hFc q h) hFc (fun u t H1 locs ht hvm hp_r63 hB hz1 hk1 hS => ?_)
      obtain ⟨g_64, rfl⟩ : ∃ z, z = u := ⟨_, rfl⟩
      obtain ⟨hP1, hD1⟩ := hB
      rw [ht] at hP1
      obtain ⟨hP, hD⟩ := va_join (wr := [(m0, .inr (4, [.ref tr, .ref im, .ref fi, .ref se, .ref u0, .ref id, .ref ct, .int ra, .int ru, .int wg])), (l0, .inr (3, [.int ln, .int lds, .int ltb, .ref lo, .ref lp, .ref lt, .ref lb, .ref le, .int lc, .int ld])), (lb, .inl (cI, 40, .inl fb)), (le, .inl (cI, 40, .inl fe)), (ct, .inl (cI, 40, .inl cc)), (id, .inr (1, [.ref jq, .int il2_47])), (jq, .inl (cB, 60, .inl g_48))]) (w1 := [(im, .inr (1, [.ref iq, .int L])), (iq, .inl (cB, n, .inl g_64))]) hP hD [7, 8] [0, 1, 2, 3, 4, 5, 6] rfl rfl (by decide +kernel) (by decide +kernel) hk1 hFc hP1 hD1
      clear hPc hDc hFc hP1 hD1 hk1 hz1 hkc hks
      generalize H1 = H at hP hS ⊢
      have hP : va_P D CL [(m0, .inr (4, [.ref tr, .ref im, .ref fi, .ref se, .ref u0, .ref id, .ref ct, .int ra, .int ru, .int wg])), (l0, .inr (3, [.int ln, .int lds, .int ltb, .ref lo, .ref lp, .ref lt, .ref lb, .ref le, .int lc, .int ld])), (lb, .inl (cI, 40, .inl fb)), (le, .inl (cI, 40, .inl fe)), (ct, .inl (cI, 40, .inl cc)), (id, .inr (1, [.ref jq, .int il2_47])), (jq, .inl (cB, 60, .inl g_48)), (im, .inr (1, [.ref iq, .int L])), (iq, .inl (cB, n, .inl g_64))] H := hP
      have hD : va_D A [(m0, .inr (4, [.ref tr, .ref im, .ref fi, .ref se, .ref u0, .ref id, .ref ct, .int ra, .int ru, .int wg])), (l0, .inr (3, [.int ln, .int lds, .int ltb, .ref lo, .ref lp, .ref lt, .ref lb, .ref le, .int lc, .int ld])), (lb, .inl (cI, 40, .inl fb)), (le, .inl (cI, 40, .inl fe)), (ct, .inl (cI, 40, .inl cc)), (id, .inr (1, [.ref jq, .int il2_47])), (jq, .inl (cB, 60, .inl g_48)), (im, .inr (1, [.ref iq, .int L])), (iq, .inl (cB, n, .inl g_64))] := hD
      try dsimp only at hp_r63
      have hw_65 := hp_r63
      try rw [L_32] at hw_65
      have hfl66 := hw_65
      rw [show (v62.toInt - v61.toInt).toNat = 623 by omega, show (32 : Int) % 256 = 32 by decide] at hfl66
      refine lv_iconst (v := 0) hx hb d_Maker_writeDescriptor_237 (by decide) ?_
      refine lv_istore hx hb d_Maker_writeDescriptor_238 hl (by decide) rfl (fun ls hl => ?_)
      have hl : lv_has ls 5 [(4, .int 0), (0, .ref m0), (1, .ref l0), (2, .int x), (3, .int v1)] := hl
      refine lv_iload hx hb d_Maker_writeDescriptor_240 (lv_at hl 0 rfl) ?_
      refine lv_iconst (v := 4) hx hb d_Maker_writeDescriptor_242 (by decide) ?_
      refine lv_icmp_ge (tgt := 283) hx hb d_Maker_writeDescriptor_243 (by decide) (fun h_9 => absurd h_9 (by decide)) (fun _ => ?_)
      refine lv_aload_n hx hb d_Maker_writeDescriptor_246 rfl (lv_at hl 1 rfl) ?_
      refine va_get (D := D) (ci := 4) (v := .ref im) (C := "DiscMaker$Maker") (T := F_Maker) (N := 10) hx hb ht9 in_Maker hown hK hP 0 rfl rfl 1 (by decide) (ht9 _ k348) (fun _ h9 => h9) rfl d_Maker_writeDescriptor_247 ?_
      refine lv_iload_n hx hb d_Maker_writeDescriptor_250 rfl (lv_at hl 4 rfl) ?_
      refine lv_sipush (v := 813) hx hb d_Maker_writeDescriptor_251 (by decide) ?_
      refine lv_iadd hx hb d_Maker_writeDescriptor_254 ?_
      refine lv_topi (fun v67 e_v67 => ?_)
      have t_v67 : v67.toInt = v1.toInt + 813 := by rw [e_v67]; exact i_add rfl (by decide) (by omega) (by omega)
      refine lv_bipush (v := 17) hx hb d_Maker_writeDescriptor_255 (by decide) ?_
      refine lv_iload hx hb d_Maker_writeDescriptor_257 (lv_at hl 0 rfl) ?_
      refine lv_imul hx hb d_Maker_writeDescriptor_259 ?_
      refine W.eq (g2 := F0 m 260 ls [.int 0, .int v67, .ref im]) (by rw [show ((17 : Int32) * 0) = 0 from by decide]) ?_
      refine lv_iadd hx hb d_Maker_writeDescriptor_260 ?_
      refine lv_topi (fun v68 e_v68 => ?_)
      have t_v68 : v68.toInt = v67.toInt + 0 := by rw [e_v68]; exact i_add rfl (by decide) (by omega) (by omega)
      refine lv_iload_n hx hb d_Maker_writeDescriptor_261 rfl (lv_at hl 4 rfl) ?_
      refine lv_sipush (v := 829) hx hb d_Maker_writeDescriptor_262 (by decide) ?_
      refine lv_iadd hx hb d_Maker_writeDescriptor_265 ?_
      refine lv_topi (fun v69 e_v69 => ?_)
      have t_v69 : v69.toInt = v1.toInt + 829 := by rw [e_v69]; exact i_add rfl (by decide) (by omega) (by omega)
      refine lv_bipush (v := 17) hx hb d_Maker_writeDescriptor_266 (by decide) ?_
      refine lv_iload hx hb d_Maker_writeDescriptor_268 (lv_at hl 0 rfl) ?_
      refine lv_imul hx hb d_Maker_writeDescriptor_270 ?_
      refine W.eq (g2 := F0 m 271 ls [.int 0, .int v69, .int v68, .ref im]) (by rw [show ((17 : Int32) * 0) = 0 from by decide]) ?_
      refine lv_iadd hx hb d_Maker_writeDescriptor_271 ?_
      refine lv_topi (fun v70 e_v70 => ?_)
      have t_v70 : v70.toInt = v69.toInt + 0 := by rw [e_v70]; exact i_add rfl (by decide) (by omega) (by omega)
      refine lv_bipush (v := 48) hx hb d_Maker_writeDescriptor_272 (by decide) ?_
      have hPc := hP.sub (ws' := [(im, .inr (1, [.ref iq, .int L])), (iq, .inl (cB, n, .inl g_64))]) [7, 8] rfl
      have hDc := hD.sub (ws' := [(im, .inr (1, [.ref iq, .int L])), (iq, .inl (cB, n, .inl g_64))]) [7, 8] (by decide +kernel) rfl
      have hFc := va_free (wc := [(im, .inr (1, [.ref iq, .int L])), (iq, .inl (cB, n, .inl g_64))]) hD hS hA [7, 8] rfl
      have hkc : 0 ≤ 0 := by decide
      have hks : 0 ≤ 0 := by decide
      refine va_callv (va_runV (C := "DiscMaker$Bytes") (As := [.int v68, .int v70, .int 48]) (rest := []) ⟨hx, hb, hml, hown, hts⟩ (c3_fillF l D cB cI cJ cZ cN cF H.size im iq n L g_64 v68 v70 48 (by (try dsimp only); first | assumption | omega | trivial) (by (try dsimp only); first | assumption | omega | trivial) (by (try dsimp only); first | assumption | omega | trivial)) (cwV 3 hts (lg_goodV k1109 k1110 k1111 k119 kc_Bytes_fill) rfl rfl rfl (by decide +kernel) ⟨Nat.le_of_ble_eq_true rfl, Nat.le_of_ble_eq_true rfl⟩) ⟨fun a U g mk q => by obtain ⟨q0, q1, qP, qK, qN, qD⟩ := q; exact ⟨q0, q1, qP, va_K.moved (u := U) (U := U.calling g mk a) (Vm.Alike.refl U.vm) qK, qN.calling, qD⟩, va_recv hK hP (ci := 1) (q0 := 7) rfl rfl, fun U hU hW => ⟨rfl, by rw [hU], by rw [hU]; exact hPc, va_K.moved hW.alike hK, NN.warm hW hN, hDc.weaken (fun _ _ _ _ => trivial)⟩⟩ rfl rfl hl.1 rfl (lv_room (Nat.le_of_ble_eq_true rfl)) d_Maker_writeDescriptor_274 ⟨hkc, hks⟩) hS (fun q _ h => hFc q h) hFc (fun u t H1 locs ht hvm hp_r71 hB hz1 hk1 hS => ?_)
      obtain ⟨g_72, rfl⟩ : ∃ z, z = u := ⟨_, rfl⟩
      obtain ⟨hP1, hD1⟩ := hB
      rw [ht] at hP1
      obtain ⟨hP, hD⟩ := va_join (wr := [(m0, .inr (4, [.ref tr, .ref im, .ref fi, .ref se, .ref u0, .ref id, .ref ct, .int ra, .int ru, .int wg])), (l0, .inr (3, [.int ln, .int lds, .int ltb, .ref lo, .ref lp, .ref lt, .ref lb, .ref le, .int lc, .int ld])), (lb, .inl (cI, 40, .inl fb)), (le, .inl (cI, 40, .inl fe)), (ct, .inl (cI, 40, .inl cc)), (id, .inr (1, [.ref jq, .int il2_47])), (jq, .inl (cB, 60, .inl g_48))]) (w1 := [(im, .inr (1, [.ref iq, .int L])), (iq, .inl (cB, n, .inl g_72))]) hP hD [7, 8] [0, 1, 2, 3, 4, 5, 6] rfl rfl (by decide +kernel) (by decide +kernel) hk1 hFc hP1 hD1
      clear hPc hDc hFc hP1 hD1 hk1 hz1 hkc hks
      generalize H1 = H at hP hS ⊢
      have hP : va_P D CL [(m0, .inr (4, [.ref tr, .ref im, .ref fi, .ref se, .ref u0, .ref id, .ref ct, .int ra, .int ru, .int wg])), (l0, .inr (3, [.int ln, .int lds, .int ltb, .ref lo, .ref lp, .ref lt, .ref lb, .ref le, .int lc, .int ld])), (lb, .inl (cI, 40, .inl fb)), (le, .inl (cI, 40, .inl fe)), (ct, .inl (cI, 40, .inl cc)), (id, .inr (1, [.ref jq, .int il2_47])), (jq, .inl (cB, 60, .inl g_48)), (im, .inr (1, [.ref iq, .int L])), (iq, .inl (cB, n, .inl g_72))] H := hP
      have hD : va_D A [(m0, .inr (4, [.ref tr, .ref im, .ref fi, .ref se, .ref u0, .ref id, .ref ct, .int ra, .int ru, .int wg])), (l0, .inr (3, [.int ln, .int lds, .int ltb, .ref lo, .ref lp, .ref lt, .ref lb, .ref le, .int lc, .int ld])), (lb, .inl (cI, 40, .inl fb)), (le, .inl (cI, 40, .inl fe)), (ct, .inl (cI, 40, .inl cc)), (id, .inr (1, [.ref jq, .int il2_47])), (jq, .inl (cB, 60, .inl g_48)), (im, .inr (1, [.ref iq, .int L])), (iq, .inl (cB, n, .inl g_72))] := hD
      try dsimp only at hp_r71
      have hw_73 := hp_r71
      try rw [L_48] at hw_73
      have hfl74 := hw_73
      rw [show (v70.toInt - v68.toInt).toNat = 16 by omega, show (48 : Int) % 256 = 48 by decide] at hfl74
      refine lv_iinc (v := 1) hx hb d_Maker_writeDescriptor_277 hl (k := 0) rfl (by decide) (by decide +kernel) rfl (fun ls hl => ?_)
      have hl : lv_has ls 5 [(4, .int 1), (0, .ref m0), (1, .ref l0), (2, .int x), (3, .int v1)] := hl
      refine lv_goto (tgt := 240) hx hb d_Maker_writeDescriptor_280 (by decide) ?_
      refine lv_iload hx hb d_Maker_writeDescriptor_240 (lv_at hl 0 rfl) ?_
      refine lv_iconst (v := 4) hx hb d_Maker_writeDescriptor_242 (by decide) ?_
      refine lv_icmp_ge (tgt := 283) hx hb d_Maker_writeDescriptor_243 (by decide) (fun h_9 => absurd h_9 (by decide)) (fun _ => ?_)
      refine lv_aload_n hx hb d_Maker_writeDescriptor_246 rfl (lv_at hl 1 rfl) ?_
      refine va_get (D := D) (ci := 4) (v := .ref im) (C := "DiscMaker$Maker") (T := F_Maker) (N := 10) hx hb ht9 in_Maker hown hK hP 0 rfl rfl 1 (by decide) (ht9 _ k348) (fun _ h9 => h9) rfl d_Maker_writeDescriptor_247 ?_
      refine lv_iload_n hx hb d_Maker_writeDescriptor_250 rfl (lv_at hl 4 rfl) ?_
      refine lv_sipush (v := 813) hx hb d_Maker_writeDescriptor_251 (by decide) ?_
      refine lv_iadd hx hb d_Maker_writeDescriptor_254 ?_
      refine lv_topi (fun v75 e_v75 => ?_)
      have t_v75 : v75.toInt = v1.toInt + 813 := by rw [e_v75]; exact i_add rfl (by decide) (by omega) (by omega)
      refine lv_bipush (v := 17) hx hb d_Maker_writeDescriptor_255 (by decide) ?_
      refine lv_iload hx hb d_Maker_writeDescriptor_257 (lv_at hl 0 rfl) ?_
      refine lv_imul hx hb d_Maker_writeDescriptor_259 ?_
      refine W.eq (g2 := F0 m 260 ls [.int 17, .int v75, .ref im]) (by rw [show ((17 : Int32) * 1) = 17 from by decide]) ?_
      refine lv_iadd hx hb d_Maker_writeDescriptor_260 ?_
      refine lv_topi (fun v76 e_v76 => ?_)
      have t_v76 : v76.toInt = v75.toInt + 17 := by rw [e_v76]; exact i_add rfl (by decide) (by omega) (by omega)
      refine lv_iload_n hx hb d_Maker_writeDescriptor_261 rfl (lv_at hl 4 rfl) ?_
      refine lv_sipush (v := 829) hx hb d_Maker_writeDescriptor_262 (by decide) ?_
      refine lv_iadd hx hb d_Maker_writeDescriptor_265 ?_
      refine lv_topi (fun v77 e_v77 => ?_)
      have t_v77 : v77.toInt = v1.toInt + 829 := by rw [e_v77]; exact i_add rfl (by decide) (by omega) (by omega)
      refine lv_bipush (v := 17) hx hb d_Maker_writeDescriptor_266 (by decide) ?_
      refine lv_iload hx hb d_Maker_writeDescriptor_268 (lv_at hl 0 rfl) ?_
      refine lv_imul hx hb d_Maker_writeDescriptor_270 ?_
      refine W.eq (g2 := F0 m 271 ls [.int 17, .int v77, .int v76, .ref im]) (by rw [show ((17 : Int32) * 1) = 17 from by decide]) ?_
      refine lv_iadd hx hb d_Maker_writeDescriptor_271 ?_
      refine lv_topi (fun v78 e_v78 => ?_)
      have t_v78 : v78.toInt = v77.toInt + 17 := by rw [e_v78]; exact i_add rfl (by decide) (by omega) (by omega)
      refine lv_bipush (v := 48) hx hb d_Maker_writeDescriptor_272 (by decide) ?_
      have hPc := hP.sub (ws' := [(im, .inr (1, [.ref iq, .int L])), (iq, .inl (cB, n, .inl g_72))]) [7, 8] rfl
      have hDc := hD.sub (ws' := [(im, .inr (1, [.ref iq, .int L])), (iq, .inl (cB, n, .inl g_72))]) [7, 8] (by decide +kernel) rfl
      have hFc := va_free (wc := [(im, .inr (1, [.ref iq, .int L])), (iq, .inl (cB, n, .inl g_72))]) hD hS hA [7, 8] rfl
      have hkc : 0 ≤ 0 := by decide
      have hks : 0 ≤ 0 := by decide
      refine va_callv (va_runV (C := "DiscMaker$Bytes") (As := [.int v76, .int v78, .int 48]) (rest := []) ⟨hx, hb, hml, hown, hts⟩ (c3_fillF l D cB cI cJ cZ cN cF H.size im iq n L g_72 v76 v78 48 (by (try dsimp only); first | assumption | omega | trivial) (by (try dsimp only); first | assumption | omega | trivial) (by (try dsimp only); first | assumption | omega | trivial)) (cwV 3 hts (lg_goodV k1109 k1110 k1111 k119 kc_Bytes_fill) rfl rfl rfl (by decide +kernel) ⟨Nat.le_of_ble_eq_true rfl, Nat.le_of_ble_eq_true rfl⟩) ⟨fun a U g mk q => by obtain ⟨q0, q1, qP, qK, qN, qD⟩ := q; exact ⟨q0, q1, qP, va_K.moved (u := U) (U := U.calling g mk a) (Vm.Alike.refl U.vm) qK, qN.calling, qD⟩, va_recv hK hP (ci := 1) (q0 := 7) rfl rfl, fun U hU hW => ⟨rfl, by rw [hU], by rw [hU]; exact hPc, va_K.moved hW.alike hK, NN.warm hW hN, hDc.weaken (fun _ _ _ _ => trivial)⟩⟩ rfl rfl hl.1 rfl (lv_room (Nat.le_of_ble_eq_true rfl)) d_Maker_writeDescriptor_274 ⟨hkc, hks⟩) hS (fun q _ h => hFc q h) hFc (fun u t H1 locs ht hvm hp_r79 hB hz1 hk1 hS => ?_)
      obtain ⟨g_80, rfl⟩ : ∃ z, z = u := ⟨_, rfl⟩
      obtain ⟨hP1, hD1⟩ := hB
      rw [ht] at hP1
      obtain ⟨hP, hD⟩ := va_join (wr := [(m0, .inr (4, [.ref tr, .ref im, .ref fi, .ref se, .ref u0, .ref id, .ref ct, .int ra, .int ru, .int wg])), (l0, .inr (3, [.int ln, .int lds, .int ltb, .ref lo, .ref lp, .ref lt, .ref lb, .ref le, .int lc, .int ld])), (lb, .inl (cI, 40, .inl fb)), (le, .inl (cI, 40, .inl fe)), (ct, .inl (cI, 40, .inl cc)), (id, .inr (1, [.ref jq, .int il2_47])), (jq, .inl (cB, 60, .inl g_48))]) (w1 := [(im, .inr (1, [.ref iq, .int L])), (iq, .inl (cB, n, .inl g_80))]) hP hD [7, 8] [0, 1, 2, 3, 4, 5, 6] rfl rfl (by decide +kernel) (by decide +kernel) hk1 hFc hP1 hD1
      clear hPc hDc hFc hP1 hD1 hk1 hz1 hkc hks
      generalize H1 = H at hP hS ⊢
      have hP : va_P D CL [(m0, .inr (4, [.ref tr, .ref im, .ref fi, .ref se, .ref u0, .ref id, .ref ct, .int ra, .int ru, .int wg])), (l0, .inr (3, [.int ln, .int lds, .int ltb, .ref lo, .ref lp, .ref lt, .ref lb, .ref le, .int lc, .int ld])), (lb, .inl (cI, 40, .inl fb)), (le, .inl (cI, 40, .inl fe)), (ct, .inl (cI, 40, .inl cc)), (id, .inr (1, [.ref jq, .int il2_47])), (jq, .inl (cB, 60, .inl g_48)), (im, .inr (1, [.ref iq, .int L])), (iq, .inl (cB, n, .inl g_80))] H := hP
      have hD : va_D A [(m0, .inr (4, [.ref tr, .ref im, .ref fi, .ref se, .ref u0, .ref id, .ref ct, .int ra, .int ru, .int wg])), (l0, .inr (3, [.int ln, .int lds, .int ltb, .ref lo, .ref lp, .ref lt, .ref lb, .ref le, .int lc, .int ld])), (lb, .inl (cI, 40, .inl fb)), (le, .inl (cI, 40, .inl fe)), (ct, .inl (cI, 40, .inl cc)), (id, .inr (1, [.ref jq, .int il2_47])), (jq, .inl (cB, 60, .inl g_48)), (im, .inr (1, [.ref iq, .int L])), (iq, .inl (cB, n, .inl g_80))] := hD
      try dsimp only at hp_r79
      have hw_81 := hp_r79
      try rw [L_48] at hw_81
      have hfl82 := hw_81
      rw [show (v78.toInt - v76.toInt).toNat = 16 by omega, show (48 : Int) % 256 = 48 by decide] at hfl82
      refine lv_iinc (v := 2) hx hb d_Maker_writeDescriptor_277 hl (k := 0) rfl (by decide) (by decide +kernel) rfl (fun ls hl => ?_)
      have hl : lv_has ls 5 [(4, .int 2), (0, .ref m0), (1, .ref l0), (2, .int x), (3, .int v1)] := hl
      refine lv_goto (tgt := 240) hx hb d_Maker_writeDescriptor_280 (by decide) ?_
      refine lv_iload hx hb d_Maker_writeDescriptor_240 (lv_at hl 0 rfl) ?_
      refine lv_iconst (v := 4) hx hb d_Maker_writeDescriptor_242 (by decide) ?_
      refine lv_icmp_ge (tgt := 283) hx hb d_Maker_writeDescriptor_243 (by decide) (fun h_9 => absurd h_9 (by decide)) (fun _ => ?_)
      refine lv_aload_n hx hb d_Maker_writeDescriptor_246 rfl (lv_at hl 1 rfl) ?_
      refine va_get (D := D) (ci := 4) (v := .ref im) (C := "DiscMaker$Maker") (T := F_Maker) (N := 10) hx hb ht9 in_Maker hown hK hP 0 rfl rfl 1 (by decide) (ht9 _ k348) (fun _ h9 => h9) rfl d_Maker_writeDescriptor_247 ?_
      refine lv_iload_n hx hb d_Maker_writeDescriptor_250 rfl (lv_at hl 4 rfl) ?_
      refine lv_sipush (v := 813) hx hb d_Maker_writeDescriptor_251 (by decide) ?_
      refine lv_iadd hx hb d_Maker_writeDescriptor_254 ?_
      refine lv_topi (fun v83 e_v83 => ?_)
      have t_v83 : v83.toInt = v1.toInt + 813 := by rw [e_v83]; exact i_add rfl (by decide) (by omega) (by omega)
      refine lv_bipush (v := 17) hx hb d_Maker_writeDescriptor_255 (by decide) ?_
      refine lv_iload hx hb d_Maker_writeDescriptor_257 (lv_at hl 0 rfl) ?_
      refine lv_imul hx hb d_Maker_writeDescriptor_259 ?_
      refine W.eq (g2 := F0 m 260 ls [.int 34, .int v83, .ref im]) (by rw [show ((17 : Int32) * 2) = 34 from by decide]) ?_
      refine lv_iadd hx hb d_Maker_writeDescriptor_260 ?_
      refine lv_topi (fun v84 e_v84 => ?_)
      have t_v84 : v84.toInt = v83.toInt + 34 := by rw [e_v84]; exact i_add rfl (by decide) (by omega) (by omega)
      refine lv_iload_n hx hb d_Maker_writeDescriptor_261 rfl (lv_at hl 4 rfl) ?_
      refine lv_sipush (v := 829) hx hb d_Maker_writeDescriptor_262 (by decide) ?_
      refine lv_iadd hx hb d_Maker_writeDescriptor_265 ?_
      refine lv_topi (fun v85 e_v85 => ?_)
      have t_v85 : v85.toInt = v1.toInt + 829 := by rw [e_v85]; exact i_add rfl (by decide) (by omega) (by omega)
      refine lv_bipush (v := 17) hx hb d_Maker_writeDescriptor_266 (by decide) ?_
      refine lv_iload hx hb d_Maker_writeDescriptor_268 (lv_at hl 0 rfl) ?_
      refine lv_imul hx hb d_Maker_writeDescriptor_270 ?_
      refine W.eq (g2 := F0 m 271 ls [.int 34, .int v85, .int v84, .ref im]) (by rw [show ((17 : Int32) * 2) = 34 from by decide]) ?_
      refine lv_iadd hx hb d_Maker_writeDescriptor_271 ?_
      refine lv_topi (fun v86 e_v86 => ?_)
      have t_v86 : v86.toInt = v85.toInt + 34 := by rw [e_v86]; exact i_add rfl (by decide) (by omega) (by omega)
      refine lv_bipush (v := 48) hx hb d_Maker_writeDescriptor_272 (by decide) ?_
      have hPc := hP.sub (ws' := [(im, .inr (1, [.ref iq, .int L])), (iq, .inl (cB, n, .inl g_80))]) [7, 8] rfl
      have hDc := hD.sub (ws' := [(im, .inr (1, [.ref iq, .int L])), (iq, .inl (cB, n, .inl g_80))]) [7, 8] (by decide +kernel) rfl
      have hFc := va_free (wc := [(im, .inr (1, [.ref iq, .int L])), (iq, .inl (cB, n, .inl g_80))]) hD hS hA [7, 8] rfl
      have hkc : 0 ≤ 0 := by decide
      have hks : 0 ≤ 0 := by decide
      refine va_callv (va_runV (C := "DiscMaker$Bytes") (As := [.int v84, .int v86, .int 48]) (rest := []) ⟨hx, hb, hml, hown, hts⟩ (c3_fillF l D cB cI cJ cZ cN cF H.size im iq n L g_80 v84 v86 48 (by (try dsimp only); first | assumption | omega | trivial) (by (try dsimp only); first | assumption | omega | trivial) (by (try dsimp only); first | assumption | omega | trivial)) (cwV 3 hts (lg_goodV k1109 k1110 k1111 k119 kc_Bytes_fill) rfl rfl rfl (by decide +kernel) ⟨Nat.le_of_ble_eq_true rfl, Nat.le_of_ble_eq_true rfl⟩) ⟨fun a U g mk q => by obtain ⟨q0, q1, qP, qK, qN, qD⟩ := q; exact ⟨q0, q1, qP, va_K.moved (u := U) (U := U.calling g mk a) (Vm.Alike.refl U.vm) qK, qN.calling, qD⟩, va_recv hK hP (ci := 1) (q0 := 7) rfl rfl, fun U hU hW => ⟨rfl, by rw [hU], by rw [hU]; exact hPc, va_K.moved hW.alike hK, NN.warm hW hN, hDc.weaken (fun _ _ _ _ => trivial)⟩⟩ rfl rfl hl.1 rfl (lv_room (Nat.le_of_ble_eq_true rfl)) d_Maker_writeDescriptor_274 ⟨hkc, hks⟩) hS (fun q _ h => hFc q h) hFc (fun u t H1 locs ht hvm hp_r87 hB hz1 hk1 hS => ?_)
      obtain ⟨g_88, rfl⟩ : ∃ z, z = u := ⟨_, rfl⟩
      obtain ⟨hP1, hD1⟩ := hB
      rw [ht] at hP1
      obtain ⟨hP, hD⟩ := va_join (wr := [(m0, .inr (4, [.ref tr, .ref im, .ref fi, .ref se, .ref u0, .ref id, .ref ct, .int ra, .int ru, .int wg])), (l0, .inr (3, [.int ln, .int lds, .int ltb, .ref lo, .ref lp, .ref lt, .ref lb, .ref le, .int lc, .int ld])), (lb, .inl (cI, 40, .inl fb)), (le, .inl (cI, 40, .inl fe)), (ct, .inl (cI, 40, .inl cc)), (id, .inr (1, [.ref jq, .int il2_47])), (jq, .inl (cB, 60, .inl g_48))]) (w1 := [(im, .inr (1, [.ref iq, .int L])), (iq, .inl (cB, n, .inl g_88))]) hP hD [7, 8] [0, 1, 2, 3, 4, 5, 6] rfl rfl (by decide +kernel) (by decide +kernel) hk1 hFc hP1 hD1
      clear hPc hDc hFc hP1 hD1 hk1 hz1 hkc hks
      generalize H1 = H at hP hS ⊢
      have hP : va_P D CL [(m0, .inr (4, [.ref tr, .ref im, .ref fi, .ref se, .ref u0, .ref id, .ref ct, .int ra, .int ru, .int wg])), (l0, .inr (3, [.int ln, .int lds, .int ltb, .ref lo, .ref lp, .ref lt, .ref lb, .ref le, .int lc, .int ld])), (lb, .inl (cI, 40, .inl fb)), (le, .inl (cI, 40, .inl fe)), (ct, .inl (cI, 40, .inl cc)), (id, .inr (1, [.ref jq, .int il2_47])), (jq, .inl (cB, 60, .inl g_48)), (im, .inr (1, [.ref iq, .int L])), (iq, .inl (cB, n, .inl g_88))] H := hP
      have hD : va_D A [(m0, .inr (4, [.ref tr, .ref im, .ref fi, .ref se, .ref u0, .ref id, .ref ct, .int ra, .int ru, .int wg])), (l0, .inr (3, [.int ln, .int lds, .int ltb, .ref lo, .ref lp, .ref lt, .ref lb, .ref le, .int lc, .int ld])), (lb, .inl (cI, 40, .inl fb)), (le, .inl (cI, 40, .inl fe)), (ct, .inl (cI, 40, .inl cc)), (id, .inr (1, [.ref jq, .int il2_47])), (jq, .inl (cB, 60, .inl g_48)), (im, .inr (1, [.ref iq, .int L])), (iq, .inl (cB, n, .inl g_88))] := hD
      try dsimp only at hp_r87
      have hw_89 := hp_r87
      try rw [L_48] at hw_89
      have hfl90 := hw_89
      rw [show (v86.toInt - v84.toInt).toNat = 16 by omega, show (48 : Int) % 256 = 48 by decide] at hfl90
      refine lv_iinc (v := 3) hx hb d_Maker_writeDescriptor_277 hl (k := 0) rfl (by decide) (by decide +kernel) rfl (fun ls hl => ?_)
      have hl : lv_has ls 5 [(4, .int 3), (0, .ref m0), (1, .ref l0), (2, .int x), (3, .int v1)] := hl
      refine lv_goto (tgt := 240) hx hb d_Maker_writeDescriptor_280 (by decide) ?_
      refine lv_iload hx hb d_Maker_writeDescriptor_240 (lv_at hl 0 rfl) ?_
      refine lv_iconst (v := 4) hx hb d_Maker_writeDescriptor_242 (by decide) ?_
      refine lv_icmp_ge (tgt := 283) hx hb d_Maker_writeDescriptor_243 (by decide) (fun h_9 => absurd h_9 (by decide)) (fun _ => ?_)
      refine lv_aload_n hx hb d_Maker_writeDescriptor_246 rfl (lv_at hl 1 rfl) ?_
      refine va_get (D := D) (ci := 4) (v := .ref im) (C := "DiscMaker$Maker") (T := F_Maker) (N := 10) hx hb ht9 in_Maker hown hK hP 0 rfl rfl 1 (by decide) (ht9 _ k348) (fun _ h9 => h9) rfl d_Maker_writeDescriptor_247 ?_
      refine lv_iload_n hx hb d_Maker_writeDescriptor_250 rfl (lv_at hl 4 rfl) ?_
      refine lv_sipush (v := 813) hx hb d_Maker_writeDescriptor_251 (by decide) ?_
      refine lv_iadd hx hb d_Maker_writeDescriptor_254 ?_
      refine lv_topi (fun v91 e_v91 => ?_)
      have t_v91 : v91.toInt = v1.toInt + 813 := by rw [e_v91]; exact i_add rfl (by decide) (by omega) (by omega)
      refine lv_bipush (v := 17) hx hb d_Maker_writeDescriptor_255 (by decide) ?_
      refine lv_iload hx hb d_Maker_writeDescriptor_257 (lv_at hl 0 rfl) ?_
      refine lv_imul hx hb d_Maker_writeDescriptor_259 ?_
      refine W.eq (g2 := F0 m 260 ls [.int 51, .int v91, .ref im]) (by rw [show ((17 : Int32) * 3) = 51 from by decide]) ?_
      have L_51 : (51 : Int32).toInt = 51 := by decide
      refine lv_iadd hx hb d_Maker_writeDescriptor_260 ?_
      refine lv_topi (fun v92 e_v92 => ?_)
      have t_v92 : v92.toInt = v91.toInt + 51 := by rw [e_v92]; exact i_add rfl (by decide) (by omega) (by omega)
      refine lv_iload_n hx hb d_Maker_writeDescriptor_261 rfl (lv_at hl 4 rfl) ?_
      refine lv_sipush (v := 829) hx hb d_Maker_writeDescriptor_262 (by decide) ?_
      refine lv_iadd hx hb d_Maker_writeDescriptor_265 ?_
      refine lv_topi (fun v93 e_v93 => ?_)
      have t_v93 : v93.toInt = v1.toInt + 829 := by rw [e_v93]; exact i_add rfl (by decide) (by omega) (by omega)
      refine lv_bipush (v := 17) hx hb d_Maker_writeDescriptor_266 (by decide) ?_
      refine lv_iload hx hb d_Maker_writeDescriptor_268 (lv_at hl 0 rfl) ?_
      refine lv_imul hx hb d_Maker_writeDescriptor_270 ?_
      refine W.eq (g2 := F0 m 271 ls [.int 51, .int v93, .int v92, .ref im]) (by rw [show ((17 : Int32) * 3) = 51 from by decide]) ?_
      refine lv_iadd hx hb d_Maker_writeDescriptor_271 ?_
      refine lv_topi (fun v94 e_v94 => ?_)
      have t_v94 : v94.toInt = v93.toInt + 51 := by rw [e_v94]; exact i_add rfl (by decide) (by omega) (by omega)
      refine lv_bipush (v := 48) hx hb d_Maker_writeDescriptor_272 (by decide) ?_
      have hPc := hP.sub (ws' := [(im, .inr (1, [.ref iq, .int L])), (iq, .inl (cB, n, .inl g_88))]) [7, 8] rfl
      have hDc := hD.sub (ws' := [(im, .inr (1, [.ref iq, .int L])), (iq, .inl (cB, n, .inl g_88))]) [7, 8] (by decide +kernel) rfl
      have hFc := va_free (wc := [(im, .inr (1, [.ref iq, .int L])), (iq, .inl (cB, n, .inl g_88))]) hD hS hA [7, 8] rfl
      have hkc : 0 ≤ 0 := by decide
      have hks : 0 ≤ 0 := by decide
      refine va_callv (va_runV (C := "DiscMaker$Bytes") (As := [.int v92, .int v94, .int 48]) (rest := []) ⟨hx, hb, hml, hown, hts⟩ (c3_fillF l D cB cI cJ cZ cN cF H.size im iq n L g_88 v92 v94 48 (by (try dsimp only); first | assumption | omega | trivial) (by (try dsimp only); first | assumption | omega | trivial) (by (try dsimp only); first | assumption | omega | trivial)) (cwV 3 hts (lg_goodV k1109 k1110 k1111 k119 kc_Bytes_fill) rfl rfl rfl (by decide +kernel) ⟨Nat.le_of_ble_eq_true rfl, Nat.le_of_ble_eq_true rfl⟩) ⟨fun a U g mk q => by obtain ⟨q0, q1, qP, qK, qN, qD⟩ := q; exact ⟨q0, q1, qP, va_K.moved (u := U) (U := U.calling g mk a) (Vm.Alike.refl U.vm) qK, qN.calling, qD⟩, va_recv hK hP (ci := 1) (q0 := 7) rfl rfl, fun U hU hW => ⟨rfl, by rw [hU], by rw [hU]; exact hPc, va_K.moved hW.alike hK, NN.warm hW hN, hDc.weaken (fun _ _ _ _ => trivial)⟩⟩ rfl rfl hl.1 rfl (lv_room (Nat.le_of_ble_eq_true rfl)) d_Maker_writeDescriptor_274 ⟨hkc, hks⟩) hS (fun q _ h => hFc q h) hFc (fun u t H1 locs ht hvm hp_r95 hB hz1 hk1 hS => ?_)
      obtain ⟨g_96, rfl⟩ : ∃ z, z = u := ⟨_, rfl⟩
      obtain ⟨hP1, hD1⟩ := hB
      rw [ht] at hP1
      obtain ⟨hP, hD⟩ := va_join (wr := [(m0, .inr (4, [.ref tr, .ref im, .ref fi, .ref se, .ref u0, .ref id, .ref ct, .int ra, .int ru, .int wg])), (l0, .inr (3, [.int ln, .int lds, .int ltb, .ref lo, .ref lp, .ref lt, .ref lb, .ref le, .int lc, .int ld])), (lb, .inl (cI, 40, .inl fb)), (le, .inl (cI, 40, .inl fe)), (ct, .inl (cI, 40, .inl cc)), (id, .inr (1, [.ref jq, .int il2_47])), (jq, .inl (cB, 60, .inl g_48))]) (w1 := [(im, .inr (1, [.ref iq, .int L])), (iq, .inl (cB, n, .inl g_96))]) hP hD [7, 8] [0, 1, 2, 3, 4, 5, 6] rfl rfl (by decide +kernel) (by decide +kernel) hk1 hFc hP1 hD1
      clear hPc hDc hFc hP1 hD1 hk1 hz1 hkc hks
      generalize H1 = H at hP hS ⊢
      have hP : va_P D CL [(m0, .inr (4, [.ref tr, .ref im, .ref fi, .ref se, .ref u0, .ref id, .ref ct, .int ra, .int ru, .int wg])), (l0, .inr (3, [.int ln, .int lds, .int ltb, .ref lo, .ref lp, .ref lt, .ref lb, .ref le, .int lc, .int ld])), (lb, .inl (cI, 40, .inl fb)), (le, .inl (cI, 40, .inl fe)), (ct, .inl (cI, 40, .inl cc)), (id, .inr (1, [.ref jq, .int il2_47])), (jq, .inl (cB, 60, .inl g_48)), (im, .inr (1, [.ref iq, .int L])), (iq, .inl (cB, n, .inl g_96))] H := hP
      have hD : va_D A [(m0, .inr (4, [.ref tr, .ref im, .ref fi, .ref se, .ref u0, .ref id, .ref ct, .int ra, .int ru, .int wg])), (l0, .inr (3, [.int ln, .int lds, .int ltb, .ref lo, .ref lp, .ref lt, .ref lb, .ref le, .int lc, .int ld])), (lb, .inl (cI, 40, .inl fb)), (le, .inl (cI, 40, .inl fe)), (ct, .inl (cI, 40, .inl cc)), (id, .inr (1, [.ref jq, .int il2_47])), (jq, .inl (cB, 60, .inl g_48)), (im, .inr (1, [.ref iq, .int L])), (iq, .inl (cB, n, .inl g_96))] := hD
      try dsimp only at hp_r95
      have hw_97 := hp_r95
      try rw [L_48] at hw_97
      have hfl98 := hw_97
      rw [show (v94.toInt - v92.toInt).toNat = 16 by omega, show (48 : Int) % 256 = 48 by decide] at hfl98
      refine lv_iinc (v := 4) hx hb d_Maker_writeDescriptor_277 hl (k := 0) rfl (by decide) (by decide +kernel) rfl (fun ls hl => ?_)
      have hl : lv_has ls 5 [(4, .int 4), (0, .ref m0), (1, .ref l0), (2, .int x), (3, .int v1)] := hl
      refine lv_goto (tgt := 240) hx hb d_Maker_writeDescriptor_280 (by decide) ?_
      refine lv_iload hx hb d_Maker_writeDescriptor_240 (lv_at hl 0 rfl) ?_
      refine lv_iconst (v := 4) hx hb d_Maker_writeDescriptor_242 (by decide) ?_
      refine lv_icmp_ge (tgt := 283) hx hb d_Maker_writeDescriptor_243 (by decide) (fun _ => ?_) (fun h_9 => absurd (by decide) h_9)
      refine lv_aload_n hx hb d_Maker_writeDescriptor_283 rfl (lv_at hl 1 rfl) ?_
      refine va_get (D := D) (ci := 4) (v := .ref im) (C := "DiscMaker$Maker") (T := F_Maker) (N := 10) hx hb ht9 in_Maker hown hK hP 0 rfl rfl 1 (by decide) (ht9 _ k348) (fun _ h9 => h9) rfl d_Maker_writeDescriptor_284 ?_
      refine lv_iload_n hx hb d_Maker_writeDescriptor_287 rfl (lv_at hl 4 rfl) ?_
      refine lv_sipush (v := 881) hx hb d_Maker_writeDescriptor_288 (by decide) ?_
      refine lv_iadd hx hb d_Maker_writeDescriptor_291 ?_
      refine lv_topi (fun v99 e_v99 => ?_)
      have t_v99 : v99.toInt = v1.toInt + 881 := by rw [e_v99]; exact i_add rfl (by decide) (by omega) (by omega)
      refine lv_iconst (v := 1) hx hb d_Maker_writeDescriptor_292 (by decide) ?_
      have hPc := hP.sub (ws' := [(im, .inr (1, [.ref iq, .int L])), (iq, .inl (cB, n, .inl g_96))]) [7, 8] rfl
      have hDc := hD.sub (ws' := [(im, .inr (1, [.ref iq, .int L])), (iq, .inl (cB, n, .inl g_96))]) [7, 8] (by decide +kernel) rfl
      have hFc := va_free (wc := [(im, .inr (1, [.ref iq, .int L])), (iq, .inl (cB, n, .inl g_96))]) hD hS hA [7, 8] rfl
      have hkc : 0 ≤ 0 := by decide
      have hks : 0 ≤ 0 := by decide
      refine va_callv (va_runV (C := "DiscMaker$Bytes") (As := [.int v99, .int 1]) (rest := []) ⟨hx, hb, hml, hown, hts⟩ (c3_putF l D cB cI cJ cZ cN cF H.size im iq n L g_96 v99 1 (by (try dsimp only); first | assumption | omega | trivial) (by (try dsimp only); first | assumption | omega | trivial) (by (try dsimp only); first | assumption | omega | trivial)) (cwV 2 hts (lg_goodV k978 k912 k913 k119 kc_Bytes_put) rfl rfl rfl (by decide +kernel) ⟨Nat.le_of_ble_eq_true rfl, Nat.le_of_ble_eq_true rfl⟩) ⟨fun a U g mk q => by obtain ⟨q0, q1, qP, qK, qN, qD⟩ := q; exact ⟨q0, q1, qP, va_K.moved (u := U) (U := U.calling g mk a) (Vm.Alike.refl U.vm) qK, qN.calling, qD⟩, va_recv hK hP (ci := 1) (q0 := 7) rfl rfl, fun U hU hW => ⟨rfl, by rw [hU], by rw [hU]; exact hPc, va_K.moved hW.alike hK, NN.warm hW hN, hDc.weaken (fun _ _ _ _ => trivial)⟩⟩ rfl rfl hl.1 rfl (lv_room (Nat.le_of_ble_eq_true rfl)) d_Maker_writeDescriptor_293 ⟨hkc, hks⟩) hS (fun q _ h => hFc q h) hFc (fun u t H1 locs ht hvm hp_r100 hB hz1 hk1 hS => ?_)
      obtain ⟨g_101, rfl⟩ : ∃ z, z = u := ⟨_, rfl⟩
      obtain ⟨hP1, hD1⟩ := hB
      rw [ht] at hP1
      obtain ⟨hP, hD⟩ := va_join (wr := [(m0, .inr (4, [.ref tr, .ref im, .ref fi, .ref se, .ref u0, .ref id, .ref ct, .int ra, .int ru, .int wg])), (l0, .inr (3, [.int ln, .int lds, .int ltb, .ref lo, .ref lp, .ref lt, .ref lb, .ref le, .int lc, .int ld])), (lb, .inl (cI, 40, .inl fb)), (le, .inl (cI, 40, .inl fe)), (ct, .inl (cI, 40, .inl cc)), (id, .inr (1, [.ref jq, .int il2_47])), (jq, .inl (cB, 60, .inl g_48))]) (w1 := [(im, .inr (1, [.ref iq, .int L])), (iq, .inl (cB, n, .inl g_101))]) hP hD [7, 8] [0, 1, 2, 3, 4, 5, 6] rfl rfl (by decide +kernel) (by decide +kernel) hk1 hFc hP1 hD1
      clear hPc hDc hFc hP1 hD1 hk1 hz1 hkc hks
      generalize H1 = H at hP hS ⊢
      have hP : va_P D CL [(m0, .inr (4, [.ref tr, .ref im, .ref fi, .ref se, .ref u0, .ref id, .ref ct, .int ra, .int ru, .int wg])), (l0, .inr (3, [.int ln, .int lds, .int ltb, .ref lo, .ref lp, .ref lt, .ref lb, .ref le, .int lc, .int ld])), (lb, .inl (cI, 40, .inl fb)), (le, .inl (cI, 40, .inl fe)), (ct, .inl (cI, 40, .inl cc)), (id, .inr (1, [.ref jq, .int il2_47])), (jq, .inl (cB, 60, .inl g_48)), (im, .inr (1, [.ref iq, .int L])), (iq, .inl (cB, n, .inl g_101))] H := hP
      have hD : va_D A [(m0, .inr (4, [.ref tr, .ref im, .ref fi, .ref se, .ref u0, .ref id, .ref ct, .int ra, .int ru, .int wg])), (l0, .inr (3, [.int ln, .int lds, .int ltb, .ref lo, .ref lp, .ref lt, .ref lb, .ref le, .int lc, .int ld])), (lb, .inl (cI, 40, .inl fb)), (le, .inl (cI, 40, .inl fe)), (ct, .inl (cI, 40, .inl cc)), (id, .inr (1, [.ref jq, .int il2_47])), (jq, .inl (cB, 60, .inl g_48)), (im, .inr (1, [.ref iq, .int L])), (iq, .inl (cB, n, .inl g_101))] := hD
      try dsimp only at hp_r100
      have hw_102 := hp_r100
      try rw [L_1] at hw_102
      have r12 := ds_12 r10 hrr hfl66 (by omega) (by omega)
      have hP9 := hP.sub (ws' := [(m0, .inr (4, [.ref tr, .ref im, .ref fi, .ref se, .ref u0, .ref id, .ref ct, .int ra, .int ru, .int wg])), (l0, .inr (3, [.int ln, .int lds, .int ltb, .ref lo, .ref lp, .ref lt, .ref lb, .ref le, .int lc, .int ld])), (lb, .inl (cI, 40, .inl fb)), (le, .inl (cI, 40, .inl fe)), (ct, .inl (cI, 40, .inl cc)), (id, .inr (1, [.ref jq, .int il2_47])), (jq, .inl (cB, 60, .inl g_48)), (im, .inr (1, [.ref iq, .int L])), (iq, .inl (cB, n, .inl g_101))]) [0, 1, 2, 3, 4, 5, 6, 7, 8] rfl
      have hD9 := hD.sub (ws' := [(m0, .inr (4, [.ref tr, .ref im, .ref fi, .ref se, .ref u0, .ref id, .ref ct, .int ra, .int ru, .int wg])), (l0, .inr (3, [.int ln, .int lds, .int ltb, .ref lo, .ref lp, .ref lt, .ref lb, .ref le, .int lc, .int ld])), (lb, .inl (cI, 40, .inl fb)), (le, .inl (cI, 40, .inl fe)), (ct, .inl (cI, 40, .inl cc)), (id, .inr (1, [.ref jq, .int il2_47])), (jq, .inl (cB, 60, .inl g_48)), (im, .inr (1, [.ref iq, .int L])), (iq, .inl (cB, n, .inl g_101))]) [0, 1, 2, 3, 4, 5, 6, 7, 8] (by decide +kernel) rfl
      exact W.vret hx hb hr (fun t ht hW => ⟨⟨(il2_47, g_48, g_101), rfl, (ds_C r12 hfl74 hfl82 hfl90 hfl98 hw_102 (by omega) (by omega) (by omega) (by omega) (by omega) (by omega)), by rw [ht]; exact hP9, hD9⟩, hS.F ht⟩) hS.2.2 d_Maker_writeDescriptor_296
    · skip
      intro kk90
      refine lv_aload_n hx hb d_Maker_writeDescriptor_69 rfl (lv_at hl 1 rfl) ?_
      refine va_getN (D := D) (ci := 3) (v := .int ln) (C := "DiscMaker$Layout") (T := F_Layout) (N := 10) hx hb ht9 in_Layout hown hK hP 0 rfl rfl 0 (by decide) (va_Nw.use rfl (hN _ k281)) (fun _ h9 => h9) rfl d_Maker_writeDescriptor_70 ?_
      refine lv_if_eq (tgt := 90) hx hb d_Maker_writeDescriptor_73 (by decide) (fun h_9 => ?_) (fun h_9 => ?_)
      · skip
        have g73_223 : ln.toInt = 0 := (i_eq rfl (by decide)).mp h_9
        have hP := hP.sub (ws' := [(l0, .inr (3, [.int ln, .int lds, .int ltb, .ref lo, .ref lp, .ref lt, .ref lb, .ref le, .int lc, .int ld])), (lb, .inl (cI, 40, .inl fb)), (le, .inl (cI, 40, .inl fe)), (ct, .inl (cI, 40, .inl cc)), (id, .inr (1, [.ref jq, .int il])), (jq, .inl (cB, 60, .inl jf)), (m0, .inr (4, [.ref tr, .ref im, .ref fi, .ref se, .ref u0, .ref id, .ref ct, .int ra, .int ru, .int wg])), (im, .inr (1, [.ref iq, .int L])), (iq, .inl (cB, n, .inl g_14))]) [0, 1, 2, 3, 4, 5, 6, 7, 8] rfl
        have hD := hD.sub (ws' := [(l0, .inr (3, [.int ln, .int lds, .int ltb, .ref lo, .ref lp, .ref lt, .ref lb, .ref le, .int lc, .int ld])), (lb, .inl (cI, 40, .inl fb)), (le, .inl (cI, 40, .inl fe)), (ct, .inl (cI, 40, .inl cc)), (id, .inr (1, [.ref jq, .int il])), (jq, .inl (cB, 60, .inl jf)), (m0, .inr (4, [.ref tr, .ref im, .ref fi, .ref se, .ref u0, .ref id, .ref ct, .int ra, .int ru, .int wg])), (im, .inr (1, [.ref iq, .int L])), (iq, .inl (cB, n, .inl g_14))]) [0, 1, 2, 3, 4, 5, 6, 7, 8] (by decide +kernel) rfl
        have hl := lv_sub hl [0, 1, 2, 3] rfl
        exact kk90 _ g_14 _ _ _ rfl ((by rw [if_neg (by omega)]; exact BL_nil _ _)) hP hD hS hl
      · skip
        have g73_223 : ¬ ln.toInt = 0 := fun h8 => h_9 ((i_eq rfl (by decide)).mpr h8)
        refine lv_aload_n hx hb d_Maker_writeDescriptor_76 rfl (lv_at hl 0 rfl) ?_
        refine va_get (D := D) (ci := 4) (v := .ref im) (C := "DiscMaker$Maker") (T := F_Maker) (N := 10) hx hb ht9 in_Maker hown hK hP 6 rfl rfl 1 (by decide) (ht9 _ k348) (fun _ h9 => h9) rfl d_Maker_writeDescriptor_77 ?_
        refine lv_iload_n hx hb d_Maker_writeDescriptor_80 rfl (lv_at hl 3 rfl) ?_
        refine lv_bipush (v := 88) hx hb d_Maker_writeDescriptor_81 (by decide) ?_
        refine lv_iadd hx hb d_Maker_writeDescriptor_83 ?_
        refine lv_topi (fun v103 e_v103 => ?_)
        have t_v103 : v103.toInt = v1.toInt + 88 := by rw [e_v103]; exact i_add rfl (by decide) (by omega) (by omega)
        refine va_getsN (C := "DiscMaker") (n := "LONG_NAMES") (d := "[B") (v := .ref tl) hx hb (hZs.2.2.1) hS hown (va_Nw.use rfl (hN _ k1113)) (fun _ h9 => h9) d_Maker_writeDescriptor_84 ?_
        have hPc := hP.sub (ws' := [(im, .inr (1, [.ref iq, .int L])), (iq, .inl (cB, n, .inl g_14))]) [7, 8] rfl
        have hDc := hD.sub (ws' := [(im, .inr (1, [.ref iq, .int L])), (iq, .inl (cB, n, .inl g_14))]) [7, 8] (by decide +kernel) rfl
        have hFc := va_free (wc := [(im, .inr (1, [.ref iq, .int L])), (iq, .inl (cB, n, .inl g_14))]) hD hS hA [7, 8] rfl
        have hkc : 0 ≤ 0 := by decide
        have hks : 0 ≤ 0 := by decide
        refine va_callv (va_runV (C := "DiscMaker$Bytes") (As := [.int v103, .ref tl]) (rest := []) ⟨hx, hb, hml, hown, hts⟩ (c3_putRowTF l D cB cI cJ cZ cN cF H.size im iq n L g_14 tl 3 gl v103 (by (try dsimp only); first | assumption | omega | trivial) (by (try dsimp only); first | assumption | omega | trivial) (by (try dsimp only); first | assumption | omega | trivial) (by (try dsimp only); first | assumption | omega | trivial)) (cwV 2 hts (lg_goodV k1059 k1031 k1032 k119 kc_Bytes_putRow) rfl rfl rfl (by decide +kernel) ⟨Nat.le_of_ble_eq_true rfl, Nat.le_of_ble_eq_true rfl⟩) ⟨fun a U g mk q => by obtain ⟨q0, q1, qP, qK, qN, qD, qZ0⟩ := q; exact ⟨q0, q1, qP, va_K.moved (u := U) (U := U.calling g mk a) (Vm.Alike.refl U.vm) qK, qN.calling, qD, zT_blind qZ0⟩, va_recv hK hP (ci := 1) (q0 := 7) rfl rfl, fun U hU hW => ⟨rfl, by rw [hU], by rw [hU]; exact hPc, va_K.moved hW.alike hK, NN.warm hW hN, hDc.weaken (fun _ _ _ _ => trivial), zT_pass hZs.2.2.2 hS hFc hW.alike hU⟩⟩ rfl rfl hl.1 rfl (lv_room (Nat.le_of_ble_eq_true rfl)) d_Maker_writeDescriptor_87 ⟨hkc, hks⟩) hS (fun q _ h => hFc q h) hFc (fun u t H1 locs ht hvm hp_r104 hB hz1 hk1 hS => ?_)
        obtain ⟨g_105, rfl⟩ : ∃ z, z = u := ⟨_, rfl⟩
        obtain ⟨hP1, hD1⟩ := hB
        rw [ht] at hP1
        obtain ⟨hP, hD⟩ := va_join (wr := [(l0, .inr (3, [.int ln, .int lds, .int ltb, .ref lo, .ref lp, .ref lt, .ref lb, .ref le, .int lc, .int ld])), (lb, .inl (cI, 40, .inl fb)), (le, .inl (cI, 40, .inl fe)), (ct, .inl (cI, 40, .inl cc)), (id, .inr (1, [.ref jq, .int il])), (jq, .inl (cB, 60, .inl jf)), (m0, .inr (4, [.ref tr, .ref im, .ref fi, .ref se, .ref u0, .ref id, .ref ct, .int ra, .int ru, .int wg]))]) (w1 := [(im, .inr (1, [.ref iq, .int L])), (iq, .inl (cB, n, .inl g_105))]) hP hD [7, 8] [0, 1, 2, 3, 4, 5, 6] rfl rfl (by decide +kernel) (by decide +kernel) hk1 hFc hP1 hD1
        clear hPc hDc hFc hP1 hD1 hk1 hz1 hkc hks
        generalize H1 = H at hP hS ⊢
        have hP : va_P D CL [(l0, .inr (3, [.int ln, .int lds, .int ltb, .ref lo, .ref lp, .ref lt, .ref lb, .ref le, .int lc, .int ld])), (lb, .inl (cI, 40, .inl fb)), (le, .inl (cI, 40, .inl fe)), (ct, .inl (cI, 40, .inl cc)), (id, .inr (1, [.ref jq, .int il])), (jq, .inl (cB, 60, .inl jf)), (m0, .inr (4, [.ref tr, .ref im, .ref fi, .ref se, .ref u0, .ref id, .ref ct, .int ra, .int ru, .int wg])), (im, .inr (1, [.ref iq, .int L])), (iq, .inl (cB, n, .inl g_105))] H := hP
        have hD : va_D A [(l0, .inr (3, [.int ln, .int lds, .int ltb, .ref lo, .ref lp, .ref lt, .ref lb, .ref le, .int lc, .int ld])), (lb, .inl (cI, 40, .inl fb)), (le, .inl (cI, 40, .inl fe)), (ct, .inl (cI, 40, .inl cc)), (id, .inr (1, [.ref jq, .int il])), (jq, .inl (cB, 60, .inl jf)), (m0, .inr (4, [.ref tr, .ref im, .ref fi, .ref se, .ref u0, .ref id, .ref ct, .int ra, .int ru, .int wg])), (im, .inr (1, [.ref iq, .int L])), (iq, .inl (cB, n, .inl g_105))] := hD
        try dsimp only at hp_r104
        have hw_106 := hp_r104
        have hP := hP.sub (ws' := [(l0, .inr (3, [.int ln, .int lds, .int ltb, .ref lo, .ref lp, .ref lt, .ref lb, .ref le, .int lc, .int ld])), (lb, .inl (cI, 40, .inl fb)), (le, .inl (cI, 40, .inl fe)), (ct, .inl (cI, 40, .inl cc)), (id, .inr (1, [.ref jq, .int il])), (jq, .inl (cB, 60, .inl jf)), (m0, .inr (4, [.ref tr, .ref im, .ref fi, .ref se, .ref u0, .ref id, .ref ct, .int ra, .int ru, .int wg])), (im, .inr (1, [.ref iq, .int L])), (iq, .inl (cB, n, .inl g_105))]) [0, 1, 2, 3, 4, 5, 6, 7, 8] rfl
        have hD := hD.sub (ws' := [(l0, .inr (3, [.int ln, .int lds, .int ltb, .ref lo, .ref lp, .ref lt, .ref lb, .ref le, .int lc, .int ld])), (lb, .inl (cI, 40, .inl fb)), (le, .inl (cI, 40, .inl fe)), (ct, .inl (cI, 40, .inl cc)), (id, .inr (1, [.ref jq, .int il])), (jq, .inl (cB, 60, .inl jf)), (m0, .inr (4, [.ref tr, .ref im, .ref fi, .ref se, .ref u0, .ref id, .ref ct, .int ra, .int ru, .int wg])), (im, .inr (1, [.ref iq, .int L])), (iq, .inl (cB, n, .inl g_105))]) [0, 1, 2, 3, 4, 5, 6, 7, 8] (by decide +kernel) rfl
        have hl := lv_sub hl [0, 1, 2, 3] rfl
        exact kk90 _ g_105 _ _ _ rfl ((by rw [if_pos (by omega)]; (have h7 := hw_106); rw [hgl] at h7; exact h7.cast (by omega) rfl)) hP hD hS hl
  · skip
    intro kk26
    refine va_getN (D := D) (ci := 3) (v := .int ln) (C := "DiscMaker$Layout") (T := F_Layout) (N := 10) hx hb ht9 in_Layout hown hK hP 1 rfl rfl 0 (by decide) (va_Nw.use rfl (hN _ k281)) (fun _ h9 => h9) rfl d_Maker_writeDescriptor_15 ?_
    refine lv_if_eq (tgt := 25) hx hb d_Maker_writeDescriptor_18 (by decide) (fun h_9 => ?_) (fun h_9 => ?_)
    · skip
      have g18_234 : ln.toInt = 0 := (i_eq rfl (by decide)).mp h_9
      refine lv_iconst (v := 1) hx hb d_Maker_writeDescriptor_25 (by decide) ?_
      have hP := hP.sub (ws' := [(m0, .inr (4, [.ref tr, .ref im, .ref fi, .ref se, .ref u0, .ref id, .ref ct, .int ra, .int ru, .int wg])), (l0, .inr (3, [.int ln, .int lds, .int ltb, .ref lo, .ref lp, .ref lt, .ref lb, .ref le, .int lc, .int ld])), (lb, .inl (cI, 40, .inl fb)), (le, .inl (cI, 40, .inl fe)), (ct, .inl (cI, 40, .inl cc)), (id, .inr (1, [.ref jq, .int il])), (jq, .inl (cB, 60, .inl jf)), (im, .inr (1, [.ref iq, .int L])), (iq, .inl (cB, n, .inl f))]) [0, 1, 2, 3, 4, 5, 6, 7, 8] rfl
      have hD := hD.sub (ws' := [(m0, .inr (4, [.ref tr, .ref im, .ref fi, .ref se, .ref u0, .ref id, .ref ct, .int ra, .int ru, .int wg])), (l0, .inr (3, [.int ln, .int lds, .int ltb, .ref lo, .ref lp, .ref lt, .ref lb, .ref le, .int lc, .int ld])), (lb, .inl (cI, 40, .inl fb)), (le, .inl (cI, 40, .inl fe)), (ct, .inl (cI, 40, .inl cc)), (id, .inr (1, [.ref jq, .int il])), (jq, .inl (cB, 60, .inl jf)), (im, .inr (1, [.ref iq, .int L])), (iq, .inl (cB, n, .inl f))]) [0, 1, 2, 3, 4, 5, 6, 7, 8] (by decide +kernel) rfl
      have hl := lv_sub hl [1, 2, 3, 0] rfl
      exact kk26 _ 1 _ _ _ rfl ((by (try dsimp only); first | assumption | omega | trivial)) hP hD hS hl
    · skip
      have g18_234 : ¬ ln.toInt = 0 := fun h8 => h_9 ((i_eq rfl (by decide)).mpr h8)
      refine lv_iconst (v := 2) hx hb d_Maker_writeDescriptor_21 (by decide) ?_
      refine lv_goto (tgt := 26) hx hb d_Maker_writeDescriptor_22 (by decide) ?_
      have hP := hP.sub (ws' := [(m0, .inr (4, [.ref tr, .ref im, .ref fi, .ref se, .ref u0, .ref id, .ref ct, .int ra, .int ru, .int wg])), (l0, .inr (3, [.int ln, .int lds, .int ltb, .ref lo, .ref lp, .ref lt, .ref lb, .ref le, .int lc, .int ld])), (lb, .inl (cI, 40, .inl fb)), (le, .inl (cI, 40, .inl fe)), (ct, .inl (cI, 40, .inl cc)), (id, .inr (1, [.ref jq, .int il])), (jq, .inl (cB, 60, .inl jf)), (im, .inr (1, [.ref iq, .int L])), (iq, .inl (cB, n, .inl f))]) [0, 1, 2, 3, 4, 5, 6, 7, 8] rfl
      have hD := hD.sub (ws' := [(m0, .inr (4, [.ref tr, .ref im, .ref fi, .ref se, .ref u0, .ref id, .ref ct, .int ra, .int ru, .int wg])), (l0, .inr (3, [.int ln, .int lds, .int ltb, .ref lo, .ref lp, .ref lt, .ref lb, .ref le, .int lc, .int ld])), (lb, .inl (cI, 40, .inl fb)), (le, .inl (cI, 40, .inl fe)), (ct, .inl (cI, 40, .inl cc)), (id, .inr (1, [.ref jq, .int il])), (jq, .inl (cB, 60, .inl jf)), (im, .inr (1, [.ref iq, .int L])), (iq, .inl (cB, n, .inl f))]) [0, 1, 2, 3, 4, 5, 6, 7, 8] (by decide +kernel) rfl
      have hl := lv_sub hl [1, 2, 3, 0] rfl
      exact kk26 _ 2 _ _ _ rfl ((by (try dsimp only); first | assumption | omega | trivial)) hP hD hS hl
