set_option maxHeartbeats 4000000 in
set_option maxRecDepth 100000 in
theorem c3_writePathTablesF (l : Launch) (D : va_G) (cB cI cJ cZ cN cF : ClassId) (sz : Nat) (m0 : Nat) (tr : Nat) (im : Nat) (fi : Nat) (se : Nat) (u0 : Nat) (id : Nat) (ct : Nat) (ra : Int32) (ru : Int32) (wg : Int32) (l0 : Nat) (lo : Nat) (lp : Nat) (lt : Nat) (lb : Nat) (le : Nat) (ln : Int32) (lds : Int32) (ltb : Int32) (lc : Int32) (ld : Int32) (fp : Nat → Int32) (ft : Nat → Int32) (fb : Nat → Int32) (fe : Nat → Int32) (cc : Nat → Int32) (jq : Nat) (il : Int32) (jf : Nat → Int32) (iq : Nat) (n : Nat) (L : Int32) (f : Nat → Int32) (ta : Nat) (cn : Int32) (dr : Int32) (na : Nat → Nat → Nat) (ng : Nat → Nat → Int32) (nn : Nat → Nat → Nat) (nf : Nat → Nat → Nat → Int32) (cm : Nat) (dt : Nat → Nat → Int) (dx : Nat → Nat → Int) (Q9 : List Nat) (I9 : Nat → Int) (hL : 0 ≤ L.toInt ∧ L.toInt ≤ n) (hn : n ≤ 3000000) (hcn : cn.toInt = cm) (hcm : cm ≤ 40) (htok : TOK cm ng nn) (hdt : DtC dt cm ng nn nf) (hnm : NmOK cm nn nf) (hln01 : ln.toInt = 0 ∨ ln.toInt = 1) (hld : 0 ≤ ld.toInt ∧ ld.toInt ≤ 12) (hpo : OrdOK ld.toInt cm fp) (hQ : QR Q9 fp 0 ld.toNatClampNeg) (hQd : ∀ a, a < Q9.length → dt 0 (Q9.getD a 0) = 0) (hdl : DxL dt dx ln.toInt cm fb fe cc) (hdu : ∀ k, k < cm → dxU dx ln.toInt k = (ft (ng k 2).toNatClampNeg).toInt) (hltb : 0 ≤ ltb.toInt ∧ ltb.toInt ≤ 100 ∧ ltb.toInt * 2048 + 4096 ≤ L.toInt) (hRW : RW I9 (imC f) (ltb.toInt * 2048) [] 0 (ltb.toInt * 2048 + 2048) (ltb.toInt * 2048 + 2048) [] 0 (ltb.toInt * 2048 + 4096)) : Met l y_Maker_writePathTables w_Maker_writePathTables ({ frames := 4, cells := 0, slots := 0, locals := 116 }) (va_Pc [.ref m0, .ref l0] (fun U => U.heap.size = sz ∧ va_P D CL [(m0, .inr (4, [.ref tr, .ref im, .ref fi, .ref se, .ref u0, .ref id, .ref ct, .int ra, .int ru, .int wg])), (l0, .inr (3, [.int ln, .int lds, .int ltb, .ref lo, .ref lp, .ref lt, .ref lb, .ref le, .int lc, .int ld])), (lp, .inl (cI, 12, .inl fp)), (lt, .inl (cI, 40, .inl ft)), (lb, .inl (cI, 40, .inl fb)), (le, .inl (cI, 40, .inl fe)), (ct, .inl (cI, 40, .inl cc)), (id, .inr (1, [.ref jq, .int il])), (jq, .inl (cB, 60, .inl jf)), (im, .inr (1, [.ref iq, .int L])), (iq, .inl (cB, n, .inl f))] U.heap ∧ va_K D CL (TY cB cI cJ cZ cN cF) U ∧ NN U ∧ va_D (fun _ => True) [(m0, .inr (4, [.ref tr, .ref im, .ref fi, .ref se, .ref u0, .ref id, .ref ct, .int ra, .int ru, .int wg])), (l0, .inr (3, [.int ln, .int lds, .int ltb, .ref lo, .ref lp, .ref lt, .ref lb, .ref le, .int lc, .int ld])), (lp, .inl (cI, 12, .inl fp)), (lt, .inl (cI, 40, .inl ft)), (lb, .inl (cI, 40, .inl fb)), (le, .inl (cI, 40, .inl fe)), (ct, .inl (cI, 40, .inl cc)), (id, .inr (1, [.ref jq, .int il])), (jq, .inl (cB, 60, .inl jf)), (im, .inr (1, [.ref iq, .int L])), (iq, .inl (cB, n, .inl f))] ∧ RO D (([(tr, .inr (10, [.ref ta, .int cn, .int dr])), (ta, .inl (cN, 40, .inr (.inr (.inr (.inr (rowF na cm))))))] : va_W) ++ (PL (NC cB na ng nn nf) cm)) (va_A [(m0, .inr (4, [.ref tr, .ref im, .ref fi, .ref se, .ref u0, .ref id, .ref ct, .int ra, .int ru, .int wg])), (l0, .inr (3, [.int ln, .int lds, .int ltb, .ref lo, .ref lp, .ref lt, .ref lb, .ref le, .int lc, .int ld])), (lp, .inl (cI, 12, .inl fp)), (lt, .inl (cI, 40, .inl ft)), (lb, .inl (cI, 40, .inl fb)), (le, .inl (cI, 40, .inl fe)), (ct, .inl (cI, 40, .inl cc)), (id, .inr (1, [.ref jq, .int il])), (jq, .inl (cB, 60, .inl jf)), (im, .inr (1, [.ref iq, .int L])), (iq, .inl (cB, n, .inl f))] sz) U U.heap)) (va_Qi (fun (r : Int32) (u : Int32 × (Nat → Int32) × (Nat → Int32)) => match u with | (il2, jg, g) => (r.toInt = ptS dt ln.toInt Q9 Q9.length) ∧ (0 ≤ r.toInt ∧ r.toInt ≤ 1200) ∧ (RW I9 (imC g) (ltb.toInt * 2048) (ptB dt dx nf ln.toInt true Q9 Q9.length) (ptS dt ln.toInt Q9 Q9.length) (ltb.toInt * 2048 + 2048) (ltb.toInt * 2048 + 2048) (ptB dt dx nf ln.toInt false Q9 Q9.length) (ptS dt ln.toInt Q9 Q9.length) (ltb.toInt * 2048 + 4096))) (fun (u : Int32 × (Nat → Int32) × (Nat → Int32)) (t : State) => match u with | (il2, jg, g) => va_P D CL [(m0, .inr (4, [.ref tr, .ref im, .ref fi, .ref se, .ref u0, .ref id, .ref ct, .int ra, .int ru, .int wg])), (l0, .inr (3, [.int ln, .int lds, .int ltb, .ref lo, .ref lp, .ref lt, .ref lb, .ref le, .int lc, .int ld])), (lp, .inl (cI, 12, .inl fp)), (lt, .inl (cI, 40, .inl ft)), (lb, .inl (cI, 40, .inl fb)), (le, .inl (cI, 40, .inl fe)), (ct, .inl (cI, 40, .inl cc)), (id, .inr (1, [.ref jq, .int il2])), (jq, .inl (cB, 60, .inl jg)), (im, .inr (1, [.ref iq, .int L])), (iq, .inl (cB, n, .inl g))] t.heap ∧ va_D (va_A [(m0, .inr (4, [.ref tr, .ref im, .ref fi, .ref se, .ref u0, .ref id, .ref ct, .int ra, .int ru, .int wg])), (l0, .inr (3, [.int ln, .int lds, .int ltb, .ref lo, .ref lp, .ref lt, .ref lb, .ref le, .int lc, .int ld])), (lp, .inl (cI, 12, .inl fp)), (lt, .inl (cI, 40, .inl ft)), (lb, .inl (cI, 40, .inl fb)), (le, .inl (cI, 40, .inl fe)), (ct, .inl (cI, 40, .inl cc)), (id, .inr (1, [.ref jq, .int il])), (jq, .inl (cB, 60, .inl jf)), (im, .inr (1, [.ref iq, .int L])), (iq, .inl (cB, n, .inl f))] sz) [(m0, .inr (4, [.ref tr, .ref im, .ref fi, .ref se, .ref u0, .ref id, .ref ct, .int ra, .int ru, .int wg])), (l0, .inr (3, [.int ln, .int lds, .int ltb, .ref lo, .ref lp, .ref lt, .ref lb, .ref le, .int lc, .int ld])), (lp, .inl (cI, 12, .inl fp)), (lt, .inl (cI, 40, .inl ft)), (lb, .inl (cI, 40, .inl fb)), (le, .inl (cI, 40, .inl fe)), (ct, .inl (cI, 40, .inl cc)), (id, .inr (1, [.ref jq, .int il2])), (jq, .inl (cB, 60, .inl jg)), (im, .inr (1, [.ref iq, .int L])), (iq, .inl (cB, n, .inl g))]) (va_A [(m0, .inr (4, [.ref tr, .ref im, .ref fi, .ref se, .ref u0, .ref id, .ref ct, .int ra, .int ru, .int wg])), (l0, .inr (3, [.int ln, .int lds, .int ltb, .ref lo, .ref lp, .ref lt, .ref lb, .ref le, .int lc, .int ld])), (lp, .inl (cI, 12, .inl fp)), (lt, .inl (cI, 40, .inl ft)), (lb, .inl (cI, 40, .inl fb)), (le, .inl (cI, 40, .inl fe)), (ct, .inl (cI, 40, .inl cc)), (id, .inr (1, [.ref jq, .int il])), (jq, .inl (cB, 60, .inl jf)), (im, .inr (1, [.ref iq, .int L])), (iq, .inl (cB, n, .inl f))] sz)) 0 0 (va_A [(m0, .inr (4, [.ref tr, .ref im, .ref fi, .ref se, .ref u0, .ref id, .ref ct, .int ra, .int ru, .int wg])), (l0, .inr (3, [.int ln, .int lds, .int ltb, .ref lo, .ref lp, .ref lt, .ref lb, .ref le, .int lc, .int ld])), (lp, .inl (cI, 12, .inl fp)), (lt, .inl (cI, 40, .inl ft)), (lb, .inl (cI, 40, .inl fb)), (le, .inl (cI, 40, .inl fe)), (ct, .inl (cI, 40, .inl cc)), (id, .inr (1, [.ref jq, .int il])), (jq, .inl (cB, 60, .inl jf)), (im, .inr (1, [.ref iq, .int L])), (iq, .inl (cB, n, .inl f))] sz) := by
  refine Met.ofW (cc := b_Maker_writePathTables) (maxL := 7) (ret := some .int) (by decide +kernel) rfl ?_
  intro p e s m args below meth c s₁ B hml hv
  obtain ⟨rfl, hsz, hP, hK, hN, hD0, hZr⟩ := hv
  have hx := B.exec
  have hb := B.bytes
  have hr := B.returns
  have hts := atoms_spec (ws := w_Maker_writePathTables) B.pre
  have ht9 := fun (w : Cond) (h : w ∈ lw_g) => hts w (List.mem_cons_of_mem _ h)
  have hown : s.vm.findClass "DiscMaker$Maker" = some m.cls := findClass_of_methodNamed B.named
  have hlocks := B.notSynchronized
  subst hsz
  have hD := hD0.self (sz := s.heap.size)
  generalize hAe : va_A [(m0, .inr (4, [.ref tr, .ref im, .ref fi, .ref se, .ref u0, .ref id, .ref ct, .int ra, .int ru, .int wg])), (l0, .inr (3, [.int ln, .int lds, .int ltb, .ref lo, .ref lp, .ref lt, .ref lb, .ref le, .int lc, .int ld])), (lp, .inl (cI, 12, .inl fp)), (lt, .inl (cI, 40, .inl ft)), (lb, .inl (cI, 40, .inl fb)), (le, .inl (cI, 40, .inl fe)), (ct, .inl (cI, 40, .inl cc)), (id, .inr (1, [.ref jq, .int il])), (jq, .inl (cB, 60, .inl jf)), (im, .inr (1, [.ref iq, .int L])), (iq, .inl (cB, n, .inl f))] s.heap.size = A at hD hZr ⊢
  have hA : ∀ q : Nat, s.heap.size ≤ q → A q := fun q h => by rw [← hAe]; exact Or.inr h
  have hS : va_S A s.heap s.heap [] := va_S.rf
  have hP : va_P D CL [(m0, .inr (4, [.ref tr, .ref im, .ref fi, .ref se, .ref u0, .ref id, .ref ct, .int ra, .int ru, .int wg])), (l0, .inr (3, [.int ln, .int lds, .int ltb, .ref lo, .ref lp, .ref lt, .ref lb, .ref le, .int lc, .int ld])), (lp, .inl (cI, 12, .inl fp)), (lt, .inl (cI, 40, .inl ft)), (lb, .inl (cI, 40, .inl fb)), (le, .inl (cI, 40, .inl fe)), (ct, .inl (cI, 40, .inl cc)), (id, .inr (1, [.ref jq, .int il])), (jq, .inl (cB, 60, .inl jf)), (im, .inr (1, [.ref iq, .int L])), (iq, .inl (cB, n, .inl f))] s.heap := hP
  have hl := lv_entry [.ref m0, .ref l0] (n := 7) (Nat.le_of_ble_eq_true rfl)
  rw [lg_entry_eq]
  generalize (lg_sl [.ref m0, .ref l0] ++ List.replicate (7 - (lg_sl [.ref m0, .ref l0]).length) Slot.unset).toArray = ls at hl ⊢
  have hl : lv_has ls 7 [(0, .ref m0), (1, .ref l0)] := hl
  have L_m1 : ((-1) : Int32).toInt = (-1) := by decide
  have L_0 : (0 : Int32).toInt = 0 := by decide
  have L_1 : (1 : Int32).toInt = 1 := by decide
  have L_2 : (2 : Int32).toInt = 2 := by decide
  have L_4 : (4 : Int32).toInt = 4 := by decide
  have L_6 : (6 : Int32).toInt = 6 := by decide
  have L_8 : (8 : Int32).toInt = 8 := by decide
  have L_2048 : (2048 : Int32).toInt = 2048 := by decide
  have hldc := i_cl (a := ld) (by omega)
  refine lv_aload_n hx hb d_Maker_writePathTables_0 rfl (lv_at hl 1 rfl) ?_
  refine va_getN (D := D) (ci := 3) (v := .int ltb) (C := "DiscMaker$Layout") (T := F_Layout) (N := 10) hx hb ht9 in_Layout hown hK hP 1 rfl rfl 2 (by decide) (va_Nw.use rfl (hN _ k285)) (fun _ h9 => h9) rfl d_Maker_writePathTables_1 ?_
  refine lv_sipush (v := 2048) hx hb d_Maker_writePathTables_4 (by decide) ?_
  refine lv_imul hx hb d_Maker_writePathTables_7 ?_
  refine lv_topi (fun v1 e_v1 => ?_)
  have t_v1 : v1.toInt = ltb.toInt * 2048 := by rw [e_v1]; exact i_mul rfl (by decide) (by omega) (by omega)
  refine lv_istore_n hx hb d_Maker_writePathTables_8 rfl hl (by decide) rfl (fun ls hl => ?_)
  have hl : lv_has ls 7 [(2, .int v1), (0, .ref m0), (1, .ref l0)] := hl
  refine lv_iload_n hx hb d_Maker_writePathTables_9 rfl (lv_at hl 0 rfl) ?_
  refine lv_sipush (v := 2048) hx hb d_Maker_writePathTables_10 (by decide) ?_
  refine lv_iadd hx hb d_Maker_writePathTables_13 ?_
  refine lv_topi (fun v2 e_v2 => ?_)
  have t_v2 : v2.toInt = v1.toInt + 2048 := by rw [e_v2]; exact i_add rfl (by decide) (by omega) (by omega)
  refine lv_istore_n hx hb d_Maker_writePathTables_14 rfl hl (by decide) rfl (fun ls hl => ?_)
  have hl : lv_has ls 7 [(3, .int v2), (2, .int v1), (0, .ref m0), (1, .ref l0)] := hl
  refine lv_iconst (v := 0) hx hb d_Maker_writePathTables_15 (by decide) ?_
  refine lv_istore hx hb d_Maker_writePathTables_16 hl (by decide) rfl (fun ls hl => ?_)
  have hl : lv_has ls 7 [(4, .int 0), (3, .int v2), (2, .int v1), (0, .ref m0), (1, .ref l0)] := hl
  refine lv_iconst (v := 0) hx hb d_Maker_writePathTables_18 (by decide) ?_
  refine lv_istore hx hb d_Maker_writePathTables_19 hl (by decide) rfl (fun ls hl => ?_)
  have hl : lv_has ls 7 [(5, .int 0), (4, .int 0), (3, .int v2), (2, .int v1), (0, .ref m0), (1, .ref l0)] := hl
  refine zz_labM (B := fun (lk : Nat) (K : Heap → List Loc → Array Slot → List Value → Prop) => ∀ (bl : Int32) (bh9 : Int32) (la : Int32) (kx : Int32) (lil : Int32) (ljf : Nat → Int32) (lf : Nat → Int32) (H : Heap) (locs : List Loc) (ls : Array Slot), lk = (ld.toInt - kx.toInt).toNat → (0 ≤ kx.toInt ∧ kx.toInt ≤ ld.toInt) → (0 ≤ la.toInt ∧ la.toInt ≤ 100 * kx.toInt) → (bl.toInt = ltb.toInt * 2048 ∧ bh9.toInt = ltb.toInt * 2048 + 2048) → (la.toInt = ptS dt ln.toInt Q9 kx.toNatClampNeg) → (RW I9 (imC lf) (ltb.toInt * 2048) (ptB dt dx nf ln.toInt true Q9 kx.toNatClampNeg) (la.toInt) (ltb.toInt * 2048 + 2048) (ltb.toInt * 2048 + 2048) (ptB dt dx nf ln.toInt false Q9 kx.toNatClampNeg) (la.toInt) (ltb.toInt * 2048 + 4096)) → va_P D CL [(m0, .inr (4, [.ref tr, .ref im, .ref fi, .ref se, .ref u0, .ref id, .ref ct, .int ra, .int ru, .int wg])), (l0, .inr (3, [.int ln, .int lds, .int ltb, .ref lo, .ref lp, .ref lt, .ref lb, .ref le, .int lc, .int ld])), (lp, .inl (cI, 12, .inl fp)), (lt, .inl (cI, 40, .inl ft)), (lb, .inl (cI, 40, .inl fb)), (le, .inl (cI, 40, .inl fe)), (ct, .inl (cI, 40, .inl cc)), (id, .inr (1, [.ref jq, .int lil])), (jq, .inl (cB, 60, .inl ljf)), (im, .inr (1, [.ref iq, .int L])), (iq, .inl (cB, n, .inl lf))] H → va_D A [(m0, .inr (4, [.ref tr, .ref im, .ref fi, .ref se, .ref u0, .ref id, .ref ct, .int ra, .int ru, .int wg])), (l0, .inr (3, [.int ln, .int lds, .int ltb, .ref lo, .ref lp, .ref lt, .ref lb, .ref le, .int lc, .int ld])), (lp, .inl (cI, 12, .inl fp)), (lt, .inl (cI, 40, .inl ft)), (lb, .inl (cI, 40, .inl fb)), (le, .inl (cI, 40, .inl fe)), (ct, .inl (cI, 40, .inl cc)), (id, .inr (1, [.ref jq, .int lil])), (jq, .inl (cB, 60, .inl ljf)), (im, .inr (1, [.ref iq, .int L])), (iq, .inl (cB, n, .inl lf))] → va_S A s.heap H locs → lv_has ls 7 [(0, .ref m0), (1, .ref l0), (2, .int bl), (3, .int bh9), (4, .int la), (5, .int kx)] → K H locs ls []) 21 ?_ ?_
  · skip
    intro lk ih21 bl bh9 la kx lil ljf lf H locs ls hm21 e1 e2 e6 e4 e5 hP hD hS hl
    refine lv_iload hx hb d_Maker_writePathTables_21 (lv_at hl 5 rfl) ?_
    refine lv_aload_n hx hb d_Maker_writePathTables_23 rfl (lv_at hl 1 rfl) ?_
    refine va_getN (D := D) (ci := 3) (v := .int ld) (C := "DiscMaker$Layout") (T := F_Layout) (N := 10) hx hb ht9 in_Layout hown hK hP 1 rfl rfl 9 (by decide) (va_Nw.use rfl (hN _ k299)) (fun _ h9 => h9) rfl d_Maker_writePathTables_24 ?_
    refine lv_icmp_ge (tgt := 205) hx hb d_Maker_writePathTables_27 (by decide) (fun h_9 => ?_) (fun h_9 => ?_)
    · skip
      have g27_17 : ld.toInt ≤ kx.toInt := (i_le rfl rfl).mp h_9
      refine lv_iload hx hb d_Maker_writePathTables_205 (lv_at hl 4 rfl) ?_
      have hkl : kx.toNatClampNeg = Q9.length := by rw [hQ.1]; (have h7 := i_cl (a := kx) (by omega)); omega
      rw [hkl] at e4 e5
      have hP9 := hP.sub (ws' := [(m0, .inr (4, [.ref tr, .ref im, .ref fi, .ref se, .ref u0, .ref id, .ref ct, .int ra, .int ru, .int wg])), (l0, .inr (3, [.int ln, .int lds, .int ltb, .ref lo, .ref lp, .ref lt, .ref lb, .ref le, .int lc, .int ld])), (lp, .inl (cI, 12, .inl fp)), (lt, .inl (cI, 40, .inl ft)), (lb, .inl (cI, 40, .inl fb)), (le, .inl (cI, 40, .inl fe)), (ct, .inl (cI, 40, .inl cc)), (id, .inr (1, [.ref jq, .int lil])), (jq, .inl (cB, 60, .inl ljf)), (im, .inr (1, [.ref iq, .int L])), (iq, .inl (cB, n, .inl lf))]) [0, 1, 2, 3, 4, 5, 6, 7, 8, 9, 10] rfl
      have hD9 := hD.sub (ws' := [(m0, .inr (4, [.ref tr, .ref im, .ref fi, .ref se, .ref u0, .ref id, .ref ct, .int ra, .int ru, .int wg])), (l0, .inr (3, [.int ln, .int lds, .int ltb, .ref lo, .ref lp, .ref lt, .ref lb, .ref le, .int lc, .int ld])), (lp, .inl (cI, 12, .inl fp)), (lt, .inl (cI, 40, .inl ft)), (lb, .inl (cI, 40, .inl fb)), (le, .inl (cI, 40, .inl fe)), (ct, .inl (cI, 40, .inl cc)), (id, .inr (1, [.ref jq, .int lil])), (jq, .inl (cB, 60, .inl ljf)), (im, .inr (1, [.ref iq, .int L])), (iq, .inl (cB, n, .inl lf))]) [0, 1, 2, 3, 4, 5, 6, 7, 8, 9, 10] (by decide +kernel) rfl
      exact W.iret (v := la) hx hb hr (fun t ht hW => ⟨⟨la, (lil, ljf, lf), rfl, ⟨e4, (by (try dsimp only); first | assumption | omega | trivial), (by (try dsimp only); rw [← e4]; exact e5)⟩, by rw [ht]; exact hP9, hD9⟩, hS.F ht⟩) hS.2.2 d_Maker_writePathTables_207
    · skip
      have g27_17 : ¬ ld.toInt ≤ kx.toInt := fun h8 => h_9 ((i_le rfl rfl).mpr h8)
      refine lv_aload_n hx hb d_Maker_writePathTables_30 rfl (lv_at hl 0 rfl) ?_
      refine va_get (D := D) (ci := 4) (v := .ref tr) (C := "DiscMaker$Maker") (T := F_Maker) (N := 10) hx hb ht9 in_Maker hown hK hP 0 rfl rfl 0 (by decide) (ht9 _ k347) (fun _ h9 => h9) rfl d_Maker_writePathTables_31 ?_
      have hPR := RO_at hZr hS
      refine va_getN (D := D) (ci := 10) (v := .ref ta) (C := "DiscMaker$Tree") (T := F_Tree) (N := 3) hx hb ht9 in_Tree hown hK hPR 0 rfl rfl 0 (by decide) (va_Nw.use rfl (hN _ k237)) (fun _ h9 => h9) rfl d_Maker_writePathTables_34 ?_
      refine lv_aload_n hx hb d_Maker_writePathTables_37 rfl (lv_at hl 1 rfl) ?_
      refine va_getN (D := D) (ci := 3) (v := .ref lp) (C := "DiscMaker$Layout") (T := F_Layout) (N := 10) hx hb ht9 in_Layout hown hK hP 1 rfl rfl 4 (by decide) (va_Nw.use rfl (hN _ k289)) (fun _ h9 => h9) rfl d_Maker_writePathTables_38 ?_
      refine lv_iload hx hb d_Maker_writePathTables_41 (lv_at hl 5 rfl) ?_
      refine va_iald hx hb hK hP 2 1 rfl rfl (vp_in_iff.mpr ⟨by omega, by omega⟩) d_Maker_writePathTables_43 ?_
      refine lv_topi (fun v3 e_v3 => ?_)
      have qv3 := OrdOK_at hpo e_v3 (by have := i_cl (a := kx) (by omega); omega)
      have zv3 : v3.toNatClampNeg = Q9.getD kx.toNatClampNeg 0 := by have h7 := hQ.2 kx.toNatClampNeg (by have h6 := i_cl (a := kx) (by omega); omega); rw [Nat.zero_add] at h7; have h5 := i_cl (a := v3) (by omega); rw [← e_v3] at h7; omega
      have yv3 : dt 0 v3.toNatClampNeg = 0 := by rw [zv3]; exact hQd kx.toNatClampNeg (by rw [hQ.1]; have h6 := i_cl (a := kx) (by omega); omega)
      have hPR := RO_at hZr hS
      refine va_aldq hx hb hK hPR 1 4 rfl rfl (vp_in_iff.mpr ⟨by omega, by omega⟩) d_Maker_writePathTables_44 ?_
      have c_hk4 := i_cl (a := v3) (by omega)
      have hk4 : v3.toNatClampNeg < cm := by omega
      have o_hk4 := htok v3.toNatClampNeg hk4
      obtain ⟨i_hj5, hj5⟩ : ∃ j : Nat, (PL (NC cB na ng nn nf) cm)[j]? = some ((na v3.toNatClampNeg 0), .inr (5, [.int (ng v3.toNatClampNeg 0), .ref (na v3.toNatClampNeg 1), .ref (na v3.toNatClampNeg 2), .ref (na v3.toNatClampNeg 3), .int (ng v3.toNatClampNeg 1), .int (ng v3.toNatClampNeg 2), .int (ng v3.toNatClampNeg 3), .int (ng v3.toNatClampNeg 4), .int (ng v3.toNatClampNeg 5), .int (ng v3.toNatClampNeg 6), .int (ng v3.toNatClampNeg 7), .int (ng v3.toNatClampNeg 8)])) := PL_get (i := 0) hk4 rfl
      obtain ⟨i_hj6, hj6⟩ : ∃ j : Nat, (PL (NC cB na ng nn nf) cm)[j]? = some ((na v3.toNatClampNeg 1), .inl (cB, (nn v3.toNatClampNeg 1), .inl (nf v3.toNatClampNeg 1))) := PL_get (i := 1) hk4 rfl
      obtain ⟨i_hj7, hj7⟩ : ∃ j : Nat, (PL (NC cB na ng nn nf) cm)[j]? = some ((na v3.toNatClampNeg 2), .inl (cB, 11, .inl (nf v3.toNatClampNeg 2))) := PL_get (i := 2) hk4 rfl
      obtain ⟨i_hj8, hj8⟩ : ∃ j : Nat, (PL (NC cB na ng nn nf) cm)[j]? = some ((na v3.toNatClampNeg 3), .inl (cB, (nn v3.toNatClampNeg 3), .inl (nf v3.toNatClampNeg 3))) := PL_get (i := 3) hk4 rfl
      have dd_hk4 := hdt v3.toNatClampNeg hk4
      have mm_hk4 := hnm v3.toNatClampNeg hk4
      have nu_hk4 : (ng v3.toNatClampNeg 1).toNatClampNeg = v3.toNatClampNeg := by have h7 := i_cl (a := ng v3.toNatClampNeg 1) (by omega); omega
      refine W.eq (g2 := F0 m 45 ls [.ref (na v3.toNatClampNeg 0)]) (by rw [show rowF na cm v3.toNatClampNeg = some (na v3.toNatClampNeg 0) from rowF_some hk4]; rfl) ?_
      refine lv_astore hx hb d_Maker_writePathTables_45 hl (by decide) rfl (fun ls hl => ?_)
      have hl : lv_has ls 7 [(6, .ref (na v3.toNatClampNeg 0)), (0, .ref m0), (1, .ref l0), (2, .int bl), (3, .int bh9), (4, .int la), (5, .int kx)] := hl
      have hq0 : Q9.getD kx.toNatClampNeg 0 = v3.toNatClampNeg := zv3.symm
      have hkq : kx.toNatClampNeg < Q9.length := by rw [hQ.1]; have h7 := i_cl (a := kx) (by omega); omega
      have hDRk := DtN_R dd_hk4 (htok v3.toNatClampNeg hk4).1 mm_hk4.1.1 mm_hk4.1.2
      have hisz := idL_len hDRk nf ln.toInt (if Q9.getD kx.toNatClampNeg 0 = 0 then 0 else 2)
      have hisr := idS_rng hDRk ln.toInt (if Q9.getD kx.toNatClampNeg 0 = 0 then 0 else 2)
      refine lv_aload_n hx hb d_Maker_writePathTables_47 rfl (lv_at hl 1 rfl) ?_
      refine lv_aload_n hx hb d_Maker_writePathTables_48 rfl (lv_at hl 2 rfl) ?_
      refine lv_aload hx hb d_Maker_writePathTables_49 (lv_at hl 0 rfl) ?_
      refine zz_labM (B := fun (lk : Nat) (K : Heap → List Loc → Array Slot → List Value → Prop) => ∀ (ro9 : Int32) (H : Heap) (locs : List Loc) (ls : Array Slot), lk = 0 → (0 ≤ ro9.toInt ∧ ro9.toInt ≤ 2) → (ro9.toInt = (if Q9.getD kx.toNatClampNeg 0 = 0 then 0 else 2)) → va_P D CL [(m0, .inr (4, [.ref tr, .ref im, .ref fi, .ref se, .ref u0, .ref id, .ref ct, .int ra, .int ru, .int wg])), (l0, .inr (3, [.int ln, .int lds, .int ltb, .ref lo, .ref lp, .ref lt, .ref lb, .ref le, .int lc, .int ld])), (lp, .inl (cI, 12, .inl fp)), (lt, .inl (cI, 40, .inl ft)), (lb, .inl (cI, 40, .inl fb)), (le, .inl (cI, 40, .inl fe)), (ct, .inl (cI, 40, .inl cc)), (id, .inr (1, [.ref jq, .int lil])), (jq, .inl (cB, 60, .inl ljf)), (im, .inr (1, [.ref iq, .int L])), (iq, .inl (cB, n, .inl lf))] H → va_D A [(m0, .inr (4, [.ref tr, .ref im, .ref fi, .ref se, .ref u0, .ref id, .ref ct, .int ra, .int ru, .int wg])), (l0, .inr (3, [.int ln, .int lds, .int ltb, .ref lo, .ref lp, .ref lt, .ref lb, .ref le, .int lc, .int ld])), (lp, .inl (cI, 12, .inl fp)), (lt, .inl (cI, 40, .inl ft)), (lb, .inl (cI, 40, .inl fb)), (le, .inl (cI, 40, .inl fe)), (ct, .inl (cI, 40, .inl cc)), (id, .inr (1, [.ref jq, .int lil])), (jq, .inl (cB, 60, .inl ljf)), (im, .inr (1, [.ref iq, .int L])), (iq, .inl (cB, n, .inl lf))] → va_S A s.heap H locs → lv_has ls 7 [(0, .ref m0), (1, .ref l0), (2, .int bl), (3, .int bh9), (4, .int la), (5, .int kx), (6, .ref (na v3.toNatClampNeg 0))] → K H locs ls [.int ro9, .ref (na v3.toNatClampNeg 0), .ref l0, .ref m0]) 64 ?_ ?_
      · skip
        intro lk ih64 ro9 H locs ls hm64 e7 e3 hP hD hS hl
        have hPc := hP.sub (ws' := [(m0, .inr (4, [.ref tr, .ref im, .ref fi, .ref se, .ref u0, .ref id, .ref ct, .int ra, .int ru, .int wg])), (l0, .inr (3, [.int ln, .int lds, .int ltb, .ref lo, .ref lp, .ref lt, .ref lb, .ref le, .int lc, .int ld])), (id, .inr (1, [.ref jq, .int lil])), (jq, .inl (cB, 60, .inl ljf))]) [0, 1, 7, 8] rfl
        have hDc := hD.sub (ws' := [(m0, .inr (4, [.ref tr, .ref im, .ref fi, .ref se, .ref u0, .ref id, .ref ct, .int ra, .int ru, .int wg])), (l0, .inr (3, [.int ln, .int lds, .int ltb, .ref lo, .ref lp, .ref lt, .ref lb, .ref le, .int lc, .int ld])), (id, .inr (1, [.ref jq, .int lil])), (jq, .inl (cB, 60, .inl ljf))]) [0, 1, 7, 8] (by decide +kernel) rfl
        have hFc := va_free (wc := [(m0, .inr (4, [.ref tr, .ref im, .ref fi, .ref se, .ref u0, .ref id, .ref ct, .int ra, .int ru, .int wg])), (l0, .inr (3, [.int ln, .int lds, .int ltb, .ref lo, .ref lp, .ref lt, .ref lb, .ref le, .int lc, .int ld])), (id, .inr (1, [.ref jq, .int lil])), (jq, .inl (cB, 60, .inl ljf))]) hD hS hA [0, 1, 7, 8] rfl
        have hkc : 0 ≤ 0 := by decide
        have hks : 0 ≤ 0 := by decide
        refine va_callv (va_runV (C := "DiscMaker$Maker") (As := [.ref l0, .ref (na v3.toNatClampNeg 0), .int ro9]) (rest := []) ⟨hx, hb, hml, hown, hts⟩ (c3_identifyF l D cB cI cJ cZ cN cF H.size m0 tr im fi se u0 id ct ra ru wg l0 lo lp lt lb le ln lds ltb lc ld jq lil ljf (na v3.toNatClampNeg 0) (na v3.toNatClampNeg 1) (na v3.toNatClampNeg 2) (na v3.toNatClampNeg 3) (ng v3.toNatClampNeg 0) (ng v3.toNatClampNeg 1) (ng v3.toNatClampNeg 2) (ng v3.toNatClampNeg 3) (ng v3.toNatClampNeg 4) (ng v3.toNatClampNeg 5) (ng v3.toNatClampNeg 6) (ng v3.toNatClampNeg 7) (ng v3.toNatClampNeg 8) (nn v3.toNatClampNeg 1) (nf v3.toNatClampNeg 1) (nf v3.toNatClampNeg 2) dt nf ro9 (by (try dsimp only); first | assumption | omega | trivial) (by rw [nu_hk4]; exact dd_hk4.1.1) (by rw [nu_hk4]; exact dd_hk4.1.2.1) (by rw [nu_hk4]; exact dd_hk4.2.1) (by rw [nu_hk4]; exact dd_hk4.2.2) (mm_hk4.1.1) (by (try dsimp only); first | assumption | omega | trivial) (by (try dsimp only); first | assumption | omega | trivial) (by rw [nu_hk4] <;> rfl) (by rw [nu_hk4] <;> rfl)) (cwV 3 hts (lg_goodV k972 k974 k18 k120 kc_Maker_identify) rfl rfl rfl (by decide +kernel) ⟨Nat.le_of_ble_eq_true rfl, Nat.le_of_ble_eq_true rfl⟩) ⟨fun a U g mk q => by obtain ⟨q0, q1, qP, qK, qN, qD, qZ0⟩ := q; exact ⟨q0, q1, qP, va_K.moved (u := U) (U := U.calling g mk a) (Vm.Alike.refl U.vm) qK, qN.calling, qD, RO_blind qZ0⟩, va_recv hK hP (ci := 4) (q0 := 0) rfl rfl, fun U hU hW => ⟨rfl, by rw [hU], by rw [hU]; exact hPc, va_K.moved hW.alike hK, NN.warm hW hN, hDc.weaken (fun _ _ _ _ => trivial), (RO_app (w1 := [((na v3.toNatClampNeg 0), .inr (5, [.int (ng v3.toNatClampNeg 0), .ref (na v3.toNatClampNeg 1), .ref (na v3.toNatClampNeg 2), .ref (na v3.toNatClampNeg 3), .int (ng v3.toNatClampNeg 1), .int (ng v3.toNatClampNeg 2), .int (ng v3.toNatClampNeg 3), .int (ng v3.toNatClampNeg 4), .int (ng v3.toNatClampNeg 5), .int (ng v3.toNatClampNeg 6), .int (ng v3.toNatClampNeg 7), .int (ng v3.toNatClampNeg 8)]))]) (w2 := [((na v3.toNatClampNeg 1), .inl (cB, (nn v3.toNatClampNeg 1), .inl (nf v3.toNatClampNeg 1))), ((na v3.toNatClampNeg 2), .inl (cB, 11, .inl (nf v3.toNatClampNeg 2)))]) (RO_pass (RO_one hZr _ (pix (X := [(tr, .inr (10, [.ref ta, .int cn, .int dr])), (ta, .inl (cN, 40, .inr (.inr (.inr (.inr (rowF na cm))))))]) hj5)) hS hFc hU) (RO_app (w1 := [((na v3.toNatClampNeg 1), .inl (cB, (nn v3.toNatClampNeg 1), .inl (nf v3.toNatClampNeg 1)))]) (w2 := [((na v3.toNatClampNeg 2), .inl (cB, 11, .inl (nf v3.toNatClampNeg 2)))]) (RO_pass (RO_one hZr _ (pix (X := [(tr, .inr (10, [.ref ta, .int cn, .int dr])), (ta, .inl (cN, 40, .inr (.inr (.inr (.inr (rowF na cm))))))]) hj6)) hS hFc hU) (RO_pass (RO_one hZr _ (pix (X := [(tr, .inr (10, [.ref ta, .int cn, .int dr])), (ta, .inl (cN, 40, .inr (.inr (.inr (.inr (rowF na cm))))))]) hj7)) hS hFc hU)))⟩⟩ rfl rfl hl.1 rfl (lv_room (Nat.le_of_ble_eq_true rfl)) d_Maker_writePathTables_64 ⟨hkc, hks⟩) hS (fun q _ h => hFc q h) hFc (fun u t H1 locs ht hvm hp_r9 hB hz1 hk1 hS => ?_)
        obtain ⟨il2_10, g_11⟩ := u
        obtain ⟨hP1, hD1⟩ := hB
        rw [ht] at hP1
        obtain ⟨hP, hD⟩ := va_join (wr := [(lp, .inl (cI, 12, .inl fp)), (lt, .inl (cI, 40, .inl ft)), (lb, .inl (cI, 40, .inl fb)), (le, .inl (cI, 40, .inl fe)), (ct, .inl (cI, 40, .inl cc)), (im, .inr (1, [.ref iq, .int L])), (iq, .inl (cB, n, .inl lf))]) (w1 := [(m0, .inr (4, [.ref tr, .ref im, .ref fi, .ref se, .ref u0, .ref id, .ref ct, .int ra, .int ru, .int wg])), (l0, .inr (3, [.int ln, .int lds, .int ltb, .ref lo, .ref lp, .ref lt, .ref lb, .ref le, .int lc, .int ld])), (id, .inr (1, [.ref jq, .int il2_10])), (jq, .inl (cB, 60, .inl g_11))]) hP hD [0, 1, 7, 8] [2, 3, 4, 5, 6, 9, 10] rfl rfl (by decide +kernel) (by decide +kernel) hk1 hFc hP1 hD1
        clear hPc hDc hFc hP1 hD1 hk1 hz1 hkc hks
        generalize H1 = H at hP hS ⊢
        have hP : va_P D CL [(lp, .inl (cI, 12, .inl fp)), (lt, .inl (cI, 40, .inl ft)), (lb, .inl (cI, 40, .inl fb)), (le, .inl (cI, 40, .inl fe)), (ct, .inl (cI, 40, .inl cc)), (im, .inr (1, [.ref iq, .int L])), (iq, .inl (cB, n, .inl lf)), (m0, .inr (4, [.ref tr, .ref im, .ref fi, .ref se, .ref u0, .ref id, .ref ct, .int ra, .int ru, .int wg])), (l0, .inr (3, [.int ln, .int lds, .int ltb, .ref lo, .ref lp, .ref lt, .ref lb, .ref le, .int lc, .int ld])), (id, .inr (1, [.ref jq, .int il2_10])), (jq, .inl (cB, 60, .inl g_11))] H := hP
        have hD : va_D A [(lp, .inl (cI, 12, .inl fp)), (lt, .inl (cI, 40, .inl ft)), (lb, .inl (cI, 40, .inl fb)), (le, .inl (cI, 40, .inl fe)), (ct, .inl (cI, 40, .inl cc)), (im, .inr (1, [.ref iq, .int L])), (iq, .inl (cB, n, .inl lf)), (m0, .inr (4, [.ref tr, .ref im, .ref fi, .ref se, .ref u0, .ref id, .ref ct, .int ra, .int ru, .int wg])), (l0, .inr (3, [.int ln, .int lds, .int ltb, .ref lo, .ref lp, .ref lt, .ref lb, .ref le, .int lc, .int ld])), (id, .inr (1, [.ref jq, .int il2_10])), (jq, .inl (cB, 60, .inl g_11))] := hD
        try dsimp only at hp_r9
        obtain ⟨hil2_12, hid_13, hw_14⟩ := hp_r9
        have hJ9 := hw_14
        rw [nu_hk4, e3] at hJ9
        have hJl := hJ9.1
        refine lv_aload_n hx hb d_Maker_writePathTables_67 rfl (lv_at hl 0 rfl) ?_
        refine lv_iload_n hx hb d_Maker_writePathTables_68 rfl (lv_at hl 2 rfl) ?_
        refine lv_iload hx hb d_Maker_writePathTables_69 (lv_at hl 4 rfl) ?_
        refine lv_iadd hx hb d_Maker_writePathTables_71 ?_
        refine lv_topi (fun v15 e_v15 => ?_)
        have t_v15 : v15.toInt = bl.toInt + la.toInt := by rw [e_v15]; exact i_add rfl rfl (by omega) (by omega)
        have hPc := hP.sub (ws' := [(m0, .inr (4, [.ref tr, .ref im, .ref fi, .ref se, .ref u0, .ref id, .ref ct, .int ra, .int ru, .int wg])), (id, .inr (1, [.ref jq, .int il2_10])), (jq, .inl (cB, 60, .inl g_11)), (im, .inr (1, [.ref iq, .int L])), (iq, .inl (cB, n, .inl lf))]) [7, 9, 10, 5, 6] rfl
        have hDc := hD.sub (ws' := [(m0, .inr (4, [.ref tr, .ref im, .ref fi, .ref se, .ref u0, .ref id, .ref ct, .int ra, .int ru, .int wg])), (id, .inr (1, [.ref jq, .int il2_10])), (jq, .inl (cB, 60, .inl g_11)), (im, .inr (1, [.ref iq, .int L])), (iq, .inl (cB, n, .inl lf))]) [7, 9, 10, 5, 6] (by decide +kernel) rfl
        have hFc := va_free (wc := [(m0, .inr (4, [.ref tr, .ref im, .ref fi, .ref se, .ref u0, .ref id, .ref ct, .int ra, .int ru, .int wg])), (id, .inr (1, [.ref jq, .int il2_10])), (jq, .inl (cB, 60, .inl g_11)), (im, .inr (1, [.ref iq, .int L])), (iq, .inl (cB, n, .inl lf))]) hD hS hA [7, 9, 10, 5, 6] rfl
        have hkc : 0 ≤ 0 := by decide
        have hks : 0 ≤ 0 := by decide
        refine va_callv (va_runV (C := "DiscMaker$Maker") (As := [.int v15]) (rest := []) ⟨hx, hb, hml, hown, hts⟩ (c3_writePathHeadF l D cB cI cJ cZ cN cF H.size m0 tr im fi se u0 id ct ra ru wg jq il2_10 g_11 iq n L lf (idL dt nf ln.toInt (if Q9.getD kx.toNatClampNeg 0 = 0 then 0 else 2) v3.toNatClampNeg) v15 (by (try dsimp only); first | assumption | omega | trivial) (by (try dsimp only); first | assumption | omega | trivial) (by (try dsimp only); first | assumption | omega | trivial) (hJ9) (by (try dsimp only); first | assumption | omega | trivial)) (cwV 1 hts (lg_goodV k1091 k1093 k26 k120 kc_Maker_writePathHead) rfl rfl rfl (by decide +kernel) ⟨Nat.le_of_ble_eq_true rfl, Nat.le_of_ble_eq_true rfl⟩) ⟨fun a U g mk q => by obtain ⟨q0, q1, qP, qK, qN, qD⟩ := q; exact ⟨q0, q1, qP, va_K.moved (u := U) (U := U.calling g mk a) (Vm.Alike.refl U.vm) qK, qN.calling, qD⟩, va_recv hK hP (ci := 4) (q0 := 7) rfl rfl, fun U hU hW => ⟨rfl, by rw [hU], by rw [hU]; exact hPc, va_K.moved hW.alike hK, NN.warm hW hN, hDc.weaken (fun _ _ _ _ => trivial)⟩⟩ rfl rfl hl.1 rfl (lv_room (Nat.le_of_ble_eq_true rfl)) d_Maker_writePathTables_72 ⟨hkc, hks⟩) hS (fun q _ h => hFc q h) hFc (fun u t H1 locs ht hvm hp_r16 hB hz1 hk1 hS => ?_)
        obtain ⟨M9_17, g_18⟩ := u
        obtain ⟨hP1, hD1⟩ := hB
        rw [ht] at hP1
        obtain ⟨hP, hD⟩ := va_join (wr := [(lp, .inl (cI, 12, .inl fp)), (lt, .inl (cI, 40, .inl ft)), (lb, .inl (cI, 40, .inl fb)), (le, .inl (cI, 40, .inl fe)), (ct, .inl (cI, 40, .inl cc)), (l0, .inr (3, [.int ln, .int lds, .int ltb, .ref lo, .ref lp, .ref lt, .ref lb, .ref le, .int lc, .int ld]))]) (w1 := [(m0, .inr (4, [.ref tr, .ref im, .ref fi, .ref se, .ref u0, .ref id, .ref ct, .int ra, .int ru, .int wg])), (id, .inr (1, [.ref jq, .int il2_10])), (jq, .inl (cB, 60, .inl g_11)), (im, .inr (1, [.ref iq, .int L])), (iq, .inl (cB, n, .inl g_18))]) hP hD [7, 9, 10, 5, 6] [0, 1, 2, 3, 4, 8] rfl rfl (by decide +kernel) (by decide +kernel) hk1 hFc hP1 hD1
        clear hPc hDc hFc hP1 hD1 hk1 hz1 hkc hks
        generalize H1 = H at hP hS ⊢
        have hP : va_P D CL [(lp, .inl (cI, 12, .inl fp)), (lt, .inl (cI, 40, .inl ft)), (lb, .inl (cI, 40, .inl fb)), (le, .inl (cI, 40, .inl fe)), (ct, .inl (cI, 40, .inl cc)), (l0, .inr (3, [.int ln, .int lds, .int ltb, .ref lo, .ref lp, .ref lt, .ref lb, .ref le, .int lc, .int ld])), (m0, .inr (4, [.ref tr, .ref im, .ref fi, .ref se, .ref u0, .ref id, .ref ct, .int ra, .int ru, .int wg])), (id, .inr (1, [.ref jq, .int il2_10])), (jq, .inl (cB, 60, .inl g_11)), (im, .inr (1, [.ref iq, .int L])), (iq, .inl (cB, n, .inl g_18))] H := hP
        have hD : va_D A [(lp, .inl (cI, 12, .inl fp)), (lt, .inl (cI, 40, .inl ft)), (lb, .inl (cI, 40, .inl fb)), (le, .inl (cI, 40, .inl fe)), (ct, .inl (cI, 40, .inl cc)), (l0, .inr (3, [.int ln, .int lds, .int ltb, .ref lo, .ref lp, .ref lt, .ref lb, .ref le, .int lc, .int ld])), (m0, .inr (4, [.ref tr, .ref im, .ref fi, .ref se, .ref u0, .ref id, .ref ct, .int ra, .int ru, .int wg])), (id, .inr (1, [.ref jq, .int il2_10])), (jq, .inl (cB, 60, .inl g_11)), (im, .inr (1, [.ref iq, .int L])), (iq, .inl (cB, n, .inl g_18))] := hD
        try dsimp only at hp_r16
        obtain ⟨hw1_19, hw2_20⟩ := hp_r16
        refine lv_aload_n hx hb d_Maker_writePathTables_75 rfl (lv_at hl 0 rfl) ?_
        refine lv_iload_n hx hb d_Maker_writePathTables_76 rfl (lv_at hl 3 rfl) ?_
        refine lv_iload hx hb d_Maker_writePathTables_77 (lv_at hl 4 rfl) ?_
        refine lv_iadd hx hb d_Maker_writePathTables_79 ?_
        refine lv_topi (fun v21 e_v21 => ?_)
        have t_v21 : v21.toInt = bh9.toInt + la.toInt := by rw [e_v21]; exact i_add rfl rfl (by omega) (by omega)
        have hPc := hP.sub (ws' := [(m0, .inr (4, [.ref tr, .ref im, .ref fi, .ref se, .ref u0, .ref id, .ref ct, .int ra, .int ru, .int wg])), (id, .inr (1, [.ref jq, .int il2_10])), (jq, .inl (cB, 60, .inl g_11)), (im, .inr (1, [.ref iq, .int L])), (iq, .inl (cB, n, .inl g_18))]) [6, 7, 8, 9, 10] rfl
        have hDc := hD.sub (ws' := [(m0, .inr (4, [.ref tr, .ref im, .ref fi, .ref se, .ref u0, .ref id, .ref ct, .int ra, .int ru, .int wg])), (id, .inr (1, [.ref jq, .int il2_10])), (jq, .inl (cB, 60, .inl g_11)), (im, .inr (1, [.ref iq, .int L])), (iq, .inl (cB, n, .inl g_18))]) [6, 7, 8, 9, 10] (by decide +kernel) rfl
        have hFc := va_free (wc := [(m0, .inr (4, [.ref tr, .ref im, .ref fi, .ref se, .ref u0, .ref id, .ref ct, .int ra, .int ru, .int wg])), (id, .inr (1, [.ref jq, .int il2_10])), (jq, .inl (cB, 60, .inl g_11)), (im, .inr (1, [.ref iq, .int L])), (iq, .inl (cB, n, .inl g_18))]) hD hS hA [6, 7, 8, 9, 10] rfl
        have hkc : 0 ≤ 0 := by decide
        have hks : 0 ≤ 0 := by decide
        refine va_callv (va_runV (C := "DiscMaker$Maker") (As := [.int v21]) (rest := []) ⟨hx, hb, hml, hown, hts⟩ (c3_writePathHeadF l D cB cI cJ cZ cN cF H.size m0 tr im fi se u0 id ct ra ru wg jq il2_10 g_11 iq n L g_18 (idL dt nf ln.toInt (if Q9.getD kx.toNatClampNeg 0 = 0 then 0 else 2) v3.toNatClampNeg) v21 (by (try dsimp only); first | assumption | omega | trivial) (by (try dsimp only); first | assumption | omega | trivial) (by (try dsimp only); first | assumption | omega | trivial) (hJ9) (by (try dsimp only); first | assumption | omega | trivial)) (cwV 1 hts (lg_goodV k1091 k1093 k26 k120 kc_Maker_writePathHead) rfl rfl rfl (by decide +kernel) ⟨Nat.le_of_ble_eq_true rfl, Nat.le_of_ble_eq_true rfl⟩) ⟨fun a U g mk q => by obtain ⟨q0, q1, qP, qK, qN, qD⟩ := q; exact ⟨q0, q1, qP, va_K.moved (u := U) (U := U.calling g mk a) (Vm.Alike.refl U.vm) qK, qN.calling, qD⟩, va_recv hK hP (ci := 4) (q0 := 6) rfl rfl, fun U hU hW => ⟨rfl, by rw [hU], by rw [hU]; exact hPc, va_K.moved hW.alike hK, NN.warm hW hN, hDc.weaken (fun _ _ _ _ => trivial)⟩⟩ rfl rfl hl.1 rfl (lv_room (Nat.le_of_ble_eq_true rfl)) d_Maker_writePathTables_80 ⟨hkc, hks⟩) hS (fun q _ h => hFc q h) hFc (fun u t H1 locs ht hvm hp_r22 hB hz1 hk1 hS => ?_)
        obtain ⟨M9_23, g_24⟩ := u
        obtain ⟨hP1, hD1⟩ := hB
        rw [ht] at hP1
        obtain ⟨hP, hD⟩ := va_join (wr := [(lp, .inl (cI, 12, .inl fp)), (lt, .inl (cI, 40, .inl ft)), (lb, .inl (cI, 40, .inl fb)), (le, .inl (cI, 40, .inl fe)), (ct, .inl (cI, 40, .inl cc)), (l0, .inr (3, [.int ln, .int lds, .int ltb, .ref lo, .ref lp, .ref lt, .ref lb, .ref le, .int lc, .int ld]))]) (w1 := [(m0, .inr (4, [.ref tr, .ref im, .ref fi, .ref se, .ref u0, .ref id, .ref ct, .int ra, .int ru, .int wg])), (id, .inr (1, [.ref jq, .int il2_10])), (jq, .inl (cB, 60, .inl g_11)), (im, .inr (1, [.ref iq, .int L])), (iq, .inl (cB, n, .inl g_24))]) hP hD [6, 7, 8, 9, 10] [0, 1, 2, 3, 4, 5] rfl rfl (by decide +kernel) (by decide +kernel) hk1 hFc hP1 hD1
        clear hPc hDc hFc hP1 hD1 hk1 hz1 hkc hks
        generalize H1 = H at hP hS ⊢
        have hP : va_P D CL [(lp, .inl (cI, 12, .inl fp)), (lt, .inl (cI, 40, .inl ft)), (lb, .inl (cI, 40, .inl fb)), (le, .inl (cI, 40, .inl fe)), (ct, .inl (cI, 40, .inl cc)), (l0, .inr (3, [.int ln, .int lds, .int ltb, .ref lo, .ref lp, .ref lt, .ref lb, .ref le, .int lc, .int ld])), (m0, .inr (4, [.ref tr, .ref im, .ref fi, .ref se, .ref u0, .ref id, .ref ct, .int ra, .int ru, .int wg])), (id, .inr (1, [.ref jq, .int il2_10])), (jq, .inl (cB, 60, .inl g_11)), (im, .inr (1, [.ref iq, .int L])), (iq, .inl (cB, n, .inl g_24))] H := hP
        have hD : va_D A [(lp, .inl (cI, 12, .inl fp)), (lt, .inl (cI, 40, .inl ft)), (lb, .inl (cI, 40, .inl fb)), (le, .inl (cI, 40, .inl fe)), (ct, .inl (cI, 40, .inl cc)), (l0, .inr (3, [.int ln, .int lds, .int ltb, .ref lo, .ref lp, .ref lt, .ref lb, .ref le, .int lc, .int ld])), (m0, .inr (4, [.ref tr, .ref im, .ref fi, .ref se, .ref u0, .ref id, .ref ct, .int ra, .int ru, .int wg])), (id, .inr (1, [.ref jq, .int il2_10])), (jq, .inl (cB, 60, .inl g_11)), (im, .inr (1, [.ref iq, .int L])), (iq, .inl (cB, n, .inl g_24))] := hD
        try dsimp only at hp_r22
        obtain ⟨hw1_25, hw2_26⟩ := hp_r22
        refine lv_aload_n hx hb d_Maker_writePathTables_83 rfl (lv_at hl 0 rfl) ?_
        refine va_get (D := D) (ci := 4) (v := .ref im) (C := "DiscMaker$Maker") (T := F_Maker) (N := 10) hx hb ht9 in_Maker hown hK hP 6 rfl rfl 1 (by decide) (ht9 _ k348) (fun _ h9 => h9) rfl d_Maker_writePathTables_84 ?_
        refine lv_iload_n hx hb d_Maker_writePathTables_87 rfl (lv_at hl 2 rfl) ?_
        refine lv_iload hx hb d_Maker_writePathTables_88 (lv_at hl 4 rfl) ?_
        refine lv_iadd hx hb d_Maker_writePathTables_90 ?_
        refine lv_topi (fun v27 e_v27 => ?_)
        have t_v27 : v27.toInt = bl.toInt + la.toInt := by rw [e_v27]; exact i_add rfl rfl (by omega) (by omega)
        refine lv_iconst (v := 2) hx hb d_Maker_writePathTables_91 (by decide) ?_
        refine lv_iadd hx hb d_Maker_writePathTables_92 ?_
        refine lv_topi (fun v28 e_v28 => ?_)
        have t_v28 : v28.toInt = v27.toInt + 2 := by rw [e_v28]; exact i_add rfl (by decide) (by omega) (by omega)
        refine lv_aload_n hx hb d_Maker_writePathTables_93 rfl (lv_at hl 1 rfl) ?_
        refine va_getN (D := D) (ci := 3) (v := .ref lb) (C := "DiscMaker$Layout") (T := F_Layout) (N := 10) hx hb ht9 in_Layout hown hK hP 5 rfl rfl 6 (by decide) (va_Nw.use rfl (hN _ k293)) (fun _ h9 => h9) rfl d_Maker_writePathTables_94 ?_
        refine lv_aload hx hb d_Maker_writePathTables_97 (lv_at hl 6 rfl) ?_
        have hPR := RO_at hZr hS
        refine va_getN (D := D) (ci := 5) (v := .int (ng v3.toNatClampNeg 1)) (C := "DiscMaker$Node") (T := F_Node) (N := 12) hx hb ht9 in_Node hown hK hPR _ (pix (X := [(tr, .inr (10, [.ref ta, .int cn, .int dr])), (ta, .inl (cN, 40, .inr (.inr (.inr (.inr (rowF na cm))))))]) hj5) rfl 4 (by decide) (va_Nw.use rfl (hN _ k195)) (fun _ h9 => h9) rfl d_Maker_writePathTables_99 ?_
        refine va_iald hx hb hK hP 2 1 rfl rfl (vp_in_iff.mpr ⟨by omega, by omega⟩) d_Maker_writePathTables_102 ?_
        refine lv_topi (fun v29 e_v29 => ?_)
        have qev29 : v29.toInt = dxE dx ln.toInt v3.toNatClampNeg := by (have h7 := (hdl v3.toNatClampNeg hk4).1); rw [if_pos (by rw [← hq0]; exact hQd _ hkq)] at h7; rw [e_v29, nu_hk4]; exact h7
        refine lv_iconst (v := 4) hx hb d_Maker_writePathTables_103 (by decide) ?_
        have hPc := hP.sub (ws' := [(im, .inr (1, [.ref iq, .int L])), (iq, .inl (cB, n, .inl g_24))]) [9, 10] rfl
        have hDc := hD.sub (ws' := [(im, .inr (1, [.ref iq, .int L])), (iq, .inl (cB, n, .inl g_24))]) [9, 10] (by decide +kernel) rfl
        have hFc := va_free (wc := [(im, .inr (1, [.ref iq, .int L])), (iq, .inl (cB, n, .inl g_24))]) hD hS hA [9, 10] rfl
        have hkc : 0 ≤ 0 := by decide
        have hks : 0 ≤ 0 := by decide
        refine va_callv (va_runV (C := "DiscMaker$Bytes") (As := [.int v28, .int v29, .int 4]) (rest := []) ⟨hx, hb, hml, hown, hts⟩ (c3_putLow4F l D cB cI cJ cZ cN cF H.size im iq n L g_24 v28 v29 (by (try dsimp only); first | assumption | omega | trivial) (by (try dsimp only); first | assumption | omega | trivial) (by (try dsimp only); first | assumption | omega | trivial)) (cwV 3 hts (lg_goodV k1095 k1096 k1097 k119 kc_Bytes_putLow) rfl rfl rfl (by decide +kernel) ⟨Nat.le_of_ble_eq_true rfl, Nat.le_of_ble_eq_true rfl⟩) ⟨fun a U g mk q => by obtain ⟨q0, q1, qP, qK, qN, qD⟩ := q; exact ⟨q0, q1, qP, va_K.moved (u := U) (U := U.calling g mk a) (Vm.Alike.refl U.vm) qK, qN.calling, qD⟩, va_recv hK hP (ci := 1) (q0 := 9) rfl rfl, fun U hU hW => ⟨rfl, by rw [hU], by rw [hU]; exact hPc, va_K.moved hW.alike hK, NN.warm hW hN, hDc.weaken (fun _ _ _ _ => trivial)⟩⟩ rfl rfl hl.1 rfl (lv_room (Nat.le_of_ble_eq_true rfl)) d_Maker_writePathTables_104 ⟨hkc, hks⟩) hS (fun q _ h => hFc q h) hFc (fun u t H1 locs ht hvm hp_r30 hB hz1 hk1 hS => ?_)
        obtain ⟨g_31, rfl⟩ : ∃ z, z = u := ⟨_, rfl⟩
        obtain ⟨hP1, hD1⟩ := hB
        rw [ht] at hP1
        obtain ⟨hP, hD⟩ := va_join (wr := [(lp, .inl (cI, 12, .inl fp)), (lt, .inl (cI, 40, .inl ft)), (lb, .inl (cI, 40, .inl fb)), (le, .inl (cI, 40, .inl fe)), (ct, .inl (cI, 40, .inl cc)), (l0, .inr (3, [.int ln, .int lds, .int ltb, .ref lo, .ref lp, .ref lt, .ref lb, .ref le, .int lc, .int ld])), (m0, .inr (4, [.ref tr, .ref im, .ref fi, .ref se, .ref u0, .ref id, .ref ct, .int ra, .int ru, .int wg])), (id, .inr (1, [.ref jq, .int il2_10])), (jq, .inl (cB, 60, .inl g_11))]) (w1 := [(im, .inr (1, [.ref iq, .int L])), (iq, .inl (cB, n, .inl g_31))]) hP hD [9, 10] [0, 1, 2, 3, 4, 5, 6, 7, 8] rfl rfl (by decide +kernel) (by decide +kernel) hk1 hFc hP1 hD1
        clear hPc hDc hFc hP1 hD1 hk1 hz1 hkc hks
        generalize H1 = H at hP hS ⊢
        have hP : va_P D CL [(lp, .inl (cI, 12, .inl fp)), (lt, .inl (cI, 40, .inl ft)), (lb, .inl (cI, 40, .inl fb)), (le, .inl (cI, 40, .inl fe)), (ct, .inl (cI, 40, .inl cc)), (l0, .inr (3, [.int ln, .int lds, .int ltb, .ref lo, .ref lp, .ref lt, .ref lb, .ref le, .int lc, .int ld])), (m0, .inr (4, [.ref tr, .ref im, .ref fi, .ref se, .ref u0, .ref id, .ref ct, .int ra, .int ru, .int wg])), (id, .inr (1, [.ref jq, .int il2_10])), (jq, .inl (cB, 60, .inl g_11)), (im, .inr (1, [.ref iq, .int L])), (iq, .inl (cB, n, .inl g_31))] H := hP
        have hD : va_D A [(lp, .inl (cI, 12, .inl fp)), (lt, .inl (cI, 40, .inl ft)), (lb, .inl (cI, 40, .inl fb)), (le, .inl (cI, 40, .inl fe)), (ct, .inl (cI, 40, .inl cc)), (l0, .inr (3, [.int ln, .int lds, .int ltb, .ref lo, .ref lp, .ref lt, .ref lb, .ref le, .int lc, .int ld])), (m0, .inr (4, [.ref tr, .ref im, .ref fi, .ref se, .ref u0, .ref id, .ref ct, .int ra, .int ru, .int wg])), (id, .inr (1, [.ref jq, .int il2_10])), (jq, .inl (cB, 60, .inl g_11)), (im, .inr (1, [.ref iq, .int L])), (iq, .inl (cB, n, .inl g_31))] := hD
        try dsimp only at hp_r30
        have hw_32 := hp_r30
        refine lv_aload_n hx hb d_Maker_writePathTables_107 rfl (lv_at hl 0 rfl) ?_
        refine va_get (D := D) (ci := 4) (v := .ref im) (C := "DiscMaker$Maker") (T := F_Maker) (N := 10) hx hb ht9 in_Maker hown hK hP 6 rfl rfl 1 (by decide) (ht9 _ k348) (fun _ h9 => h9) rfl d_Maker_writePathTables_108 ?_
        refine lv_iload_n hx hb d_Maker_writePathTables_111 rfl (lv_at hl 3 rfl) ?_
        refine lv_iload hx hb d_Maker_writePathTables_112 (lv_at hl 4 rfl) ?_
        refine lv_iadd hx hb d_Maker_writePathTables_114 ?_
        refine lv_topi (fun v33 e_v33 => ?_)
        have t_v33 : v33.toInt = bh9.toInt + la.toInt := by rw [e_v33]; exact i_add rfl rfl (by omega) (by omega)
        refine lv_iconst (v := 2) hx hb d_Maker_writePathTables_115 (by decide) ?_
        refine lv_iadd hx hb d_Maker_writePathTables_116 ?_
        refine lv_topi (fun v34 e_v34 => ?_)
        have t_v34 : v34.toInt = v33.toInt + 2 := by rw [e_v34]; exact i_add rfl (by decide) (by omega) (by omega)
        refine lv_aload_n hx hb d_Maker_writePathTables_117 rfl (lv_at hl 1 rfl) ?_
        refine va_getN (D := D) (ci := 3) (v := .ref lb) (C := "DiscMaker$Layout") (T := F_Layout) (N := 10) hx hb ht9 in_Layout hown hK hP 5 rfl rfl 6 (by decide) (va_Nw.use rfl (hN _ k293)) (fun _ h9 => h9) rfl d_Maker_writePathTables_118 ?_
        refine lv_aload hx hb d_Maker_writePathTables_121 (lv_at hl 6 rfl) ?_
        have hPR := RO_at hZr hS
        refine va_getN (D := D) (ci := 5) (v := .int (ng v3.toNatClampNeg 1)) (C := "DiscMaker$Node") (T := F_Node) (N := 12) hx hb ht9 in_Node hown hK hPR _ (pix (X := [(tr, .inr (10, [.ref ta, .int cn, .int dr])), (ta, .inl (cN, 40, .inr (.inr (.inr (.inr (rowF na cm))))))]) hj5) rfl 4 (by decide) (va_Nw.use rfl (hN _ k195)) (fun _ h9 => h9) rfl d_Maker_writePathTables_123 ?_
        refine va_iald hx hb hK hP 2 1 rfl rfl (vp_in_iff.mpr ⟨by omega, by omega⟩) d_Maker_writePathTables_126 ?_
        refine lv_topi (fun v35 e_v35 => ?_)
        have q_v35 : v35.toInt = v29.toInt := by rw [e_v35, e_v29]
        have qev35 : v35.toInt = dxE dx ln.toInt v3.toNatClampNeg := by (have h7 := (hdl v3.toNatClampNeg hk4).1); rw [if_pos (by rw [← hq0]; exact hQd _ hkq)] at h7; rw [e_v35, nu_hk4]; exact h7
        refine lv_iconst (v := 4) hx hb d_Maker_writePathTables_127 (by decide) ?_
        have hPc := hP.sub (ws' := [(im, .inr (1, [.ref iq, .int L])), (iq, .inl (cB, n, .inl g_31))]) [9, 10] rfl
        have hDc := hD.sub (ws' := [(im, .inr (1, [.ref iq, .int L])), (iq, .inl (cB, n, .inl g_31))]) [9, 10] (by decide +kernel) rfl
        have hFc := va_free (wc := [(im, .inr (1, [.ref iq, .int L])), (iq, .inl (cB, n, .inl g_31))]) hD hS hA [9, 10] rfl
        have hkc : 0 ≤ 0 := by decide
        have hks : 0 ≤ 0 := by decide
        refine va_callv (va_runV (C := "DiscMaker$Bytes") (As := [.int v34, .int v35, .int 4]) (rest := []) ⟨hx, hb, hml, hown, hts⟩ (c3_putHigh4F l D cB cI cJ cZ cN cF H.size im iq n L g_31 v34 v35 (by (try dsimp only); first | assumption | omega | trivial) (by (try dsimp only); first | assumption | omega | trivial) (by (try dsimp only); first | assumption | omega | trivial)) (cwV 3 hts (lg_goodV k1072 k985 k986 k119 kc_Bytes_putHigh) rfl rfl rfl (by decide +kernel) ⟨Nat.le_of_ble_eq_true rfl, Nat.le_of_ble_eq_true rfl⟩) ⟨fun a U g mk q => by obtain ⟨q0, q1, qP, qK, qN, qD⟩ := q; exact ⟨q0, q1, qP, va_K.moved (u := U) (U := U.calling g mk a) (Vm.Alike.refl U.vm) qK, qN.calling, qD⟩, va_recv hK hP (ci := 1) (q0 := 9) rfl rfl, fun U hU hW => ⟨rfl, by rw [hU], by rw [hU]; exact hPc, va_K.moved hW.alike hK, NN.warm hW hN, hDc.weaken (fun _ _ _ _ => trivial)⟩⟩ rfl rfl hl.1 rfl (lv_room (Nat.le_of_ble_eq_true rfl)) d_Maker_writePathTables_128 ⟨hkc, hks⟩) hS (fun q _ h => hFc q h) hFc (fun u t H1 locs ht hvm hp_r36 hB hz1 hk1 hS => ?_)
        obtain ⟨g_37, rfl⟩ : ∃ z, z = u := ⟨_, rfl⟩
        obtain ⟨hP1, hD1⟩ := hB
        rw [ht] at hP1
        obtain ⟨hP, hD⟩ := va_join (wr := [(lp, .inl (cI, 12, .inl fp)), (lt, .inl (cI, 40, .inl ft)), (lb, .inl (cI, 40, .inl fb)), (le, .inl (cI, 40, .inl fe)), (ct, .inl (cI, 40, .inl cc)), (l0, .inr (3, [.int ln, .int lds, .int ltb, .ref lo, .ref lp, .ref lt, .ref lb, .ref le, .int lc, .int ld])), (m0, .inr (4, [.ref tr, .ref im, .ref fi, .ref se, .ref u0, .ref id, .ref ct, .int ra, .int ru, .int wg])), (id, .inr (1, [.ref jq, .int il2_10])), (jq, .inl (cB, 60, .inl g_11))]) (w1 := [(im, .inr (1, [.ref iq, .int L])), (iq, .inl (cB, n, .inl g_37))]) hP hD [9, 10] [0, 1, 2, 3, 4, 5, 6, 7, 8] rfl rfl (by decide +kernel) (by decide +kernel) hk1 hFc hP1 hD1
        clear hPc hDc hFc hP1 hD1 hk1 hz1 hkc hks
        generalize H1 = H at hP hS ⊢
        have hP : va_P D CL [(lp, .inl (cI, 12, .inl fp)), (lt, .inl (cI, 40, .inl ft)), (lb, .inl (cI, 40, .inl fb)), (le, .inl (cI, 40, .inl fe)), (ct, .inl (cI, 40, .inl cc)), (l0, .inr (3, [.int ln, .int lds, .int ltb, .ref lo, .ref lp, .ref lt, .ref lb, .ref le, .int lc, .int ld])), (m0, .inr (4, [.ref tr, .ref im, .ref fi, .ref se, .ref u0, .ref id, .ref ct, .int ra, .int ru, .int wg])), (id, .inr (1, [.ref jq, .int il2_10])), (jq, .inl (cB, 60, .inl g_11)), (im, .inr (1, [.ref iq, .int L])), (iq, .inl (cB, n, .inl g_37))] H := hP
        have hD : va_D A [(lp, .inl (cI, 12, .inl fp)), (lt, .inl (cI, 40, .inl ft)), (lb, .inl (cI, 40, .inl fb)), (le, .inl (cI, 40, .inl fe)), (ct, .inl (cI, 40, .inl cc)), (l0, .inr (3, [.int ln, .int lds, .int ltb, .ref lo, .ref lp, .ref lt, .ref lb, .ref le, .int lc, .int ld])), (m0, .inr (4, [.ref tr, .ref im, .ref fi, .ref se, .ref u0, .ref id, .ref ct, .int ra, .int ru, .int wg])), (id, .inr (1, [.ref jq, .int il2_10])), (jq, .inl (cB, 60, .inl g_11)), (im, .inr (1, [.ref iq, .int L])), (iq, .inl (cB, n, .inl g_37))] := hD
        try dsimp only at hp_r36
        have hw_38 := hp_r36
        refine lv_aload_n hx hb d_Maker_writePathTables_131 rfl (lv_at hl 0 rfl) ?_
        refine va_get (D := D) (ci := 4) (v := .ref im) (C := "DiscMaker$Maker") (T := F_Maker) (N := 10) hx hb ht9 in_Maker hown hK hP 6 rfl rfl 1 (by decide) (ht9 _ k348) (fun _ h9 => h9) rfl d_Maker_writePathTables_132 ?_
        refine lv_iload_n hx hb d_Maker_writePathTables_135 rfl (lv_at hl 2 rfl) ?_
        refine lv_iload hx hb d_Maker_writePathTables_136 (lv_at hl 4 rfl) ?_
        refine lv_iadd hx hb d_Maker_writePathTables_138 ?_
        refine lv_topi (fun v39 e_v39 => ?_)
        have t_v39 : v39.toInt = bl.toInt + la.toInt := by rw [e_v39]; exact i_add rfl rfl (by omega) (by omega)
        refine lv_bipush (v := 6) hx hb d_Maker_writePathTables_139 (by decide) ?_
        refine lv_iadd hx hb d_Maker_writePathTables_141 ?_
        refine lv_topi (fun v40 e_v40 => ?_)
        have t_v40 : v40.toInt = v39.toInt + 6 := by rw [e_v40]; exact i_add rfl (by decide) (by omega) (by omega)
        refine lv_aload_n hx hb d_Maker_writePathTables_142 rfl (lv_at hl 1 rfl) ?_
        refine va_getN (D := D) (ci := 3) (v := .ref lt) (C := "DiscMaker$Layout") (T := F_Layout) (N := 10) hx hb ht9 in_Layout hown hK hP 5 rfl rfl 5 (by decide) (va_Nw.use rfl (hN _ k291)) (fun _ h9 => h9) rfl d_Maker_writePathTables_143 ?_
        refine lv_aload hx hb d_Maker_writePathTables_146 (lv_at hl 6 rfl) ?_
        have hPR := RO_at hZr hS
        refine va_getN (D := D) (ci := 5) (v := .int (ng v3.toNatClampNeg 2)) (C := "DiscMaker$Node") (T := F_Node) (N := 12) hx hb ht9 in_Node hown hK hPR _ (pix (X := [(tr, .inr (10, [.ref ta, .int cn, .int dr])), (ta, .inl (cN, 40, .inr (.inr (.inr (.inr (rowF na cm))))))]) hj5) rfl 5 (by decide) (va_Nw.use rfl (hN _ k197)) (fun _ h9 => h9) rfl d_Maker_writePathTables_148 ?_
        refine va_iald hx hb hK hP 1 1 rfl rfl (vp_in_iff.mpr ⟨by omega, by omega⟩) d_Maker_writePathTables_151 ?_
        refine lv_topi (fun v41 e_v41 => ?_)
        have qev41 : v41.toInt = dxU dx ln.toInt v3.toNatClampNeg := by rw [hdu v3.toNatClampNeg hk4, e_v41]
        refine lv_iconst (v := 2) hx hb d_Maker_writePathTables_152 (by decide) ?_
        have hPc := hP.sub (ws' := [(im, .inr (1, [.ref iq, .int L])), (iq, .inl (cB, n, .inl g_37))]) [9, 10] rfl
        have hDc := hD.sub (ws' := [(im, .inr (1, [.ref iq, .int L])), (iq, .inl (cB, n, .inl g_37))]) [9, 10] (by decide +kernel) rfl
        have hFc := va_free (wc := [(im, .inr (1, [.ref iq, .int L])), (iq, .inl (cB, n, .inl g_37))]) hD hS hA [9, 10] rfl
        have hkc : 0 ≤ 0 := by decide
        have hks : 0 ≤ 0 := by decide
        refine va_callv (va_runV (C := "DiscMaker$Bytes") (As := [.int v40, .int v41, .int 2]) (rest := []) ⟨hx, hb, hml, hown, hts⟩ (c3_putLow2F l D cB cI cJ cZ cN cF H.size im iq n L g_37 v40 v41 (by (try dsimp only); first | assumption | omega | trivial) (by (try dsimp only); first | assumption | omega | trivial) (by (try dsimp only); first | assumption | omega | trivial)) (cwV 3 hts (lg_goodV k1095 k1096 k1097 k119 kc_Bytes_putLow) rfl rfl rfl (by decide +kernel) ⟨Nat.le_of_ble_eq_true rfl, Nat.le_of_ble_eq_true rfl⟩) ⟨fun a U g mk q => by obtain ⟨q0, q1, qP, qK, qN, qD⟩ := q; exact ⟨q0, q1, qP, va_K.moved (u := U) (U := U.calling g mk a) (Vm.Alike.refl U.vm) qK, qN.calling, qD⟩, va_recv hK hP (ci := 1) (q0 := 9) rfl rfl, fun U hU hW => ⟨rfl, by rw [hU], by rw [hU]; exact hPc, va_K.moved hW.alike hK, NN.warm hW hN, hDc.weaken (fun _ _ _ _ => trivial)⟩⟩ rfl rfl hl.1 rfl (lv_room (Nat.le_of_ble_eq_true rfl)) d_Maker_writePathTables_153 ⟨hkc, hks⟩) hS (fun q _ h => hFc q h) hFc (fun u t H1 locs ht hvm hp_r42 hB hz1 hk1 hS => ?_)
        obtain ⟨g_43, rfl⟩ : ∃ z, z = u := ⟨_, rfl⟩
        obtain ⟨hP1, hD1⟩ := hB
        rw [ht] at hP1
        obtain ⟨hP, hD⟩ := va_join (wr := [(lp, .inl (cI, 12, .inl fp)), (lt, .inl (cI, 40, .inl ft)), (lb, .inl (cI, 40, .inl fb)), (le, .inl (cI, 40, .inl fe)), (ct, .inl (cI, 40, .inl cc)), (l0, .inr (3, [.int ln, .int lds, .int ltb, .ref lo, .ref lp, .ref lt, .ref lb, .ref le, .int lc, .int ld])), (m0, .inr (4, [.ref tr, .ref im, .ref fi, .ref se, .ref u0, .ref id, .ref ct, .int ra, .int ru, .int wg])), (id, .inr (1, [.ref jq, .int il2_10])), (jq, .inl (cB, 60, .inl g_11))]) (w1 := [(im, .inr (1, [.ref iq, .int L])), (iq, .inl (cB, n, .inl g_43))]) hP hD [9, 10] [0, 1, 2, 3, 4, 5, 6, 7, 8] rfl rfl (by decide +kernel) (by decide +kernel) hk1 hFc hP1 hD1
        clear hPc hDc hFc hP1 hD1 hk1 hz1 hkc hks
        generalize H1 = H at hP hS ⊢
        have hP : va_P D CL [(lp, .inl (cI, 12, .inl fp)), (lt, .inl (cI, 40, .inl ft)), (lb, .inl (cI, 40, .inl fb)), (le, .inl (cI, 40, .inl fe)), (ct, .inl (cI, 40, .inl cc)), (l0, .inr (3, [.int ln, .int lds, .int ltb, .ref lo, .ref lp, .ref lt, .ref lb, .ref le, .int lc, .int ld])), (m0, .inr (4, [.ref tr, .ref im, .ref fi, .ref se, .ref u0, .ref id, .ref ct, .int ra, .int ru, .int wg])), (id, .inr (1, [.ref jq, .int il2_10])), (jq, .inl (cB, 60, .inl g_11)), (im, .inr (1, [.ref iq, .int L])), (iq, .inl (cB, n, .inl g_43))] H := hP
        have hD : va_D A [(lp, .inl (cI, 12, .inl fp)), (lt, .inl (cI, 40, .inl ft)), (lb, .inl (cI, 40, .inl fb)), (le, .inl (cI, 40, .inl fe)), (ct, .inl (cI, 40, .inl cc)), (l0, .inr (3, [.int ln, .int lds, .int ltb, .ref lo, .ref lp, .ref lt, .ref lb, .ref le, .int lc, .int ld])), (m0, .inr (4, [.ref tr, .ref im, .ref fi, .ref se, .ref u0, .ref id, .ref ct, .int ra, .int ru, .int wg])), (id, .inr (1, [.ref jq, .int il2_10])), (jq, .inl (cB, 60, .inl g_11)), (im, .inr (1, [.ref iq, .int L])), (iq, .inl (cB, n, .inl g_43))] := hD
        try dsimp only at hp_r42
        have hw_44 := hp_r42
        refine lv_aload_n hx hb d_Maker_writePathTables_156 rfl (lv_at hl 0 rfl) ?_
        refine va_get (D := D) (ci := 4) (v := .ref im) (C := "DiscMaker$Maker") (T := F_Maker) (N := 10) hx hb ht9 in_Maker hown hK hP 6 rfl rfl 1 (by decide) (ht9 _ k348) (fun _ h9 => h9) rfl d_Maker_writePathTables_157 ?_
        refine lv_iload_n hx hb d_Maker_writePathTables_160 rfl (lv_at hl 3 rfl) ?_
        refine lv_iload hx hb d_Maker_writePathTables_161 (lv_at hl 4 rfl) ?_
        refine lv_iadd hx hb d_Maker_writePathTables_163 ?_
        refine lv_topi (fun v45 e_v45 => ?_)
        have t_v45 : v45.toInt = bh9.toInt + la.toInt := by rw [e_v45]; exact i_add rfl rfl (by omega) (by omega)
        refine lv_bipush (v := 6) hx hb d_Maker_writePathTables_164 (by decide) ?_
        refine lv_iadd hx hb d_Maker_writePathTables_166 ?_
        refine lv_topi (fun v46 e_v46 => ?_)
        have t_v46 : v46.toInt = v45.toInt + 6 := by rw [e_v46]; exact i_add rfl (by decide) (by omega) (by omega)
        refine lv_aload_n hx hb d_Maker_writePathTables_167 rfl (lv_at hl 1 rfl) ?_
        refine va_getN (D := D) (ci := 3) (v := .ref lt) (C := "DiscMaker$Layout") (T := F_Layout) (N := 10) hx hb ht9 in_Layout hown hK hP 5 rfl rfl 5 (by decide) (va_Nw.use rfl (hN _ k291)) (fun _ h9 => h9) rfl d_Maker_writePathTables_168 ?_
        refine lv_aload hx hb d_Maker_writePathTables_171 (lv_at hl 6 rfl) ?_
        have hPR := RO_at hZr hS
        refine va_getN (D := D) (ci := 5) (v := .int (ng v3.toNatClampNeg 2)) (C := "DiscMaker$Node") (T := F_Node) (N := 12) hx hb ht9 in_Node hown hK hPR _ (pix (X := [(tr, .inr (10, [.ref ta, .int cn, .int dr])), (ta, .inl (cN, 40, .inr (.inr (.inr (.inr (rowF na cm))))))]) hj5) rfl 5 (by decide) (va_Nw.use rfl (hN _ k197)) (fun _ h9 => h9) rfl d_Maker_writePathTables_173 ?_
        refine va_iald hx hb hK hP 1 1 rfl rfl (vp_in_iff.mpr ⟨by omega, by omega⟩) d_Maker_writePathTables_176 ?_
        refine lv_topi (fun v47 e_v47 => ?_)
        have q_v47 : v47.toInt = v41.toInt := by rw [e_v47, e_v41]
        have qev47 : v47.toInt = dxU dx ln.toInt v3.toNatClampNeg := by rw [hdu v3.toNatClampNeg hk4, e_v47]
        refine lv_iconst (v := 2) hx hb d_Maker_writePathTables_177 (by decide) ?_
        have hPc := hP.sub (ws' := [(im, .inr (1, [.ref iq, .int L])), (iq, .inl (cB, n, .inl g_43))]) [9, 10] rfl
        have hDc := hD.sub (ws' := [(im, .inr (1, [.ref iq, .int L])), (iq, .inl (cB, n, .inl g_43))]) [9, 10] (by decide +kernel) rfl
        have hFc := va_free (wc := [(im, .inr (1, [.ref iq, .int L])), (iq, .inl (cB, n, .inl g_43))]) hD hS hA [9, 10] rfl
        have hkc : 0 ≤ 0 := by decide
        have hks : 0 ≤ 0 := by decide
        refine va_callv (va_runV (C := "DiscMaker$Bytes") (As := [.int v46, .int v47, .int 2]) (rest := []) ⟨hx, hb, hml, hown, hts⟩ (c3_putHigh2F l D cB cI cJ cZ cN cF H.size im iq n L g_43 v46 v47 (by (try dsimp only); first | assumption | omega | trivial) (by (try dsimp only); first | assumption | omega | trivial) (by (try dsimp only); first | assumption | omega | trivial)) (cwV 3 hts (lg_goodV k1072 k985 k986 k119 kc_Bytes_putHigh) rfl rfl rfl (by decide +kernel) ⟨Nat.le_of_ble_eq_true rfl, Nat.le_of_ble_eq_true rfl⟩) ⟨fun a U g mk q => by obtain ⟨q0, q1, qP, qK, qN, qD⟩ := q; exact ⟨q0, q1, qP, va_K.moved (u := U) (U := U.calling g mk a) (Vm.Alike.refl U.vm) qK, qN.calling, qD⟩, va_recv hK hP (ci := 1) (q0 := 9) rfl rfl, fun U hU hW => ⟨rfl, by rw [hU], by rw [hU]; exact hPc, va_K.moved hW.alike hK, NN.warm hW hN, hDc.weaken (fun _ _ _ _ => trivial)⟩⟩ rfl rfl hl.1 rfl (lv_room (Nat.le_of_ble_eq_true rfl)) d_Maker_writePathTables_178 ⟨hkc, hks⟩) hS (fun q _ h => hFc q h) hFc (fun u t H1 locs ht hvm hp_r48 hB hz1 hk1 hS => ?_)
        obtain ⟨g_49, rfl⟩ : ∃ z, z = u := ⟨_, rfl⟩
        obtain ⟨hP1, hD1⟩ := hB
        rw [ht] at hP1
        obtain ⟨hP, hD⟩ := va_join (wr := [(lp, .inl (cI, 12, .inl fp)), (lt, .inl (cI, 40, .inl ft)), (lb, .inl (cI, 40, .inl fb)), (le, .inl (cI, 40, .inl fe)), (ct, .inl (cI, 40, .inl cc)), (l0, .inr (3, [.int ln, .int lds, .int ltb, .ref lo, .ref lp, .ref lt, .ref lb, .ref le, .int lc, .int ld])), (m0, .inr (4, [.ref tr, .ref im, .ref fi, .ref se, .ref u0, .ref id, .ref ct, .int ra, .int ru, .int wg])), (id, .inr (1, [.ref jq, .int il2_10])), (jq, .inl (cB, 60, .inl g_11))]) (w1 := [(im, .inr (1, [.ref iq, .int L])), (iq, .inl (cB, n, .inl g_49))]) hP hD [9, 10] [0, 1, 2, 3, 4, 5, 6, 7, 8] rfl rfl (by decide +kernel) (by decide +kernel) hk1 hFc hP1 hD1
        clear hPc hDc hFc hP1 hD1 hk1 hz1 hkc hks
        generalize H1 = H at hP hS ⊢
        have hP : va_P D CL [(lp, .inl (cI, 12, .inl fp)), (lt, .inl (cI, 40, .inl ft)), (lb, .inl (cI, 40, .inl fb)), (le, .inl (cI, 40, .inl fe)), (ct, .inl (cI, 40, .inl cc)), (l0, .inr (3, [.int ln, .int lds, .int ltb, .ref lo, .ref lp, .ref lt, .ref lb, .ref le, .int lc, .int ld])), (m0, .inr (4, [.ref tr, .ref im, .ref fi, .ref se, .ref u0, .ref id, .ref ct, .int ra, .int ru, .int wg])), (id, .inr (1, [.ref jq, .int il2_10])), (jq, .inl (cB, 60, .inl g_11)), (im, .inr (1, [.ref iq, .int L])), (iq, .inl (cB, n, .inl g_49))] H := hP
        have hD : va_D A [(lp, .inl (cI, 12, .inl fp)), (lt, .inl (cI, 40, .inl ft)), (lb, .inl (cI, 40, .inl fb)), (le, .inl (cI, 40, .inl fe)), (ct, .inl (cI, 40, .inl cc)), (l0, .inr (3, [.int ln, .int lds, .int ltb, .ref lo, .ref lp, .ref lt, .ref lb, .ref le, .int lc, .int ld])), (m0, .inr (4, [.ref tr, .ref im, .ref fi, .ref se, .ref u0, .ref id, .ref ct, .int ra, .int ru, .int wg])), (id, .inr (1, [.ref jq, .int il2_10])), (jq, .inl (cB, 60, .inl g_11)), (im, .inr (1, [.ref iq, .int L])), (iq, .inl (cB, n, .inl g_49))] := hD
        try dsimp only at hp_r48
        have hw_50 := hp_r48
        refine lv_iload hx hb d_Maker_writePathTables_181 (lv_at hl 4 rfl) ?_
        refine lv_bipush (v := 8) hx hb d_Maker_writePathTables_183 (by decide) ?_
        refine lv_aload_n hx hb d_Maker_writePathTables_185 rfl (lv_at hl 0 rfl) ?_
        refine va_get (D := D) (ci := 4) (v := .ref id) (C := "DiscMaker$Maker") (T := F_Maker) (N := 10) hx hb ht9 in_Maker hown hK hP 6 rfl rfl 5 (by decide) (ht9 _ k352) (fun _ h9 => h9) rfl d_Maker_writePathTables_186 ?_
        refine va_getN (D := D) (ci := 1) (v := .int il2_10) (C := "DiscMaker$Bytes") (T := F_Bytes) (N := 2) hx hb ht9 in_Bytes hown hK hP 7 rfl rfl 1 (by decide) (va_Nw.use rfl (hN _ k257)) (fun _ h9 => h9) rfl d_Maker_writePathTables_189 ?_
        have hPc := hP.sub (ws' := []) [] rfl
        have hDc := hD.sub (ws' := []) [] (by decide +kernel) rfl
        have hFc := va_free (wc := []) hD hS hA [] rfl
        have hkc : 0 ≤ 0 := by decide
        have hks : 0 ≤ 0 := by decide
        refine va_calli (va_runSN (As := [.int il2_10]) (rest := [.int 8, .int la]) ⟨hx, hb, hml, hown, hts⟩ (c3_even l D cB cI cJ cZ cN cF H.size il2_10 (by (try dsimp only); first | assumption | omega | trivial)) ⟨va_cnB 1 hts (lg_good kc_DiscMaker_even) rfl rfl rfl (hN _ k998) (ht9 _ k115) (by decide +kernel) ⟨Nat.le_of_ble_eq_true rfl, Nat.le_of_ble_eq_true rfl⟩, ht9 _ k999, trivial⟩ ⟨fun a U g mk q => by obtain ⟨q0, q1, qP, qK, qN, qD⟩ := q; exact ⟨q0, q1, qP, va_K.moved (u := U) (U := U.calling g mk a) (Vm.Alike.refl U.vm) qK, qN.calling, qD⟩, fun U hU hW => ⟨rfl, by rw [hU], by rw [hU]; exact hPc, va_K.moved hW.alike hK, NN.warm hW hN, hDc.weaken (fun _ _ _ _ => trivial)⟩⟩ rfl rfl hl.1 rfl (lv_room (Nat.le_of_ble_eq_true rfl)) d_Maker_writePathTables_192 ⟨hkc, hks⟩) hS (fun q _ h => hFc q h) hFc (fun r51 u t H1 locs ht hvm hp_r51 hB hz1 hk1 hS => ?_)
        obtain ⟨hP1, hD1⟩ := hB
        rw [ht] at hP1
        obtain ⟨hP, hD⟩ := va_join (wr := [(lp, .inl (cI, 12, .inl fp)), (lt, .inl (cI, 40, .inl ft)), (lb, .inl (cI, 40, .inl fb)), (le, .inl (cI, 40, .inl fe)), (ct, .inl (cI, 40, .inl cc)), (l0, .inr (3, [.int ln, .int lds, .int ltb, .ref lo, .ref lp, .ref lt, .ref lb, .ref le, .int lc, .int ld])), (m0, .inr (4, [.ref tr, .ref im, .ref fi, .ref se, .ref u0, .ref id, .ref ct, .int ra, .int ru, .int wg])), (id, .inr (1, [.ref jq, .int il2_10])), (jq, .inl (cB, 60, .inl g_11)), (im, .inr (1, [.ref iq, .int L])), (iq, .inl (cB, n, .inl g_49))]) (w1 := []) hP hD [] [0, 1, 2, 3, 4, 5, 6, 7, 8, 9, 10] rfl rfl (by decide +kernel) (by decide +kernel) hk1 hFc hP1 hD1
        clear hPc hDc hFc hP1 hD1 hk1 hz1 hkc hks
        generalize H1 = H at hP hS ⊢
        have hP : va_P D CL [(lp, .inl (cI, 12, .inl fp)), (lt, .inl (cI, 40, .inl ft)), (lb, .inl (cI, 40, .inl fb)), (le, .inl (cI, 40, .inl fe)), (ct, .inl (cI, 40, .inl cc)), (l0, .inr (3, [.int ln, .int lds, .int ltb, .ref lo, .ref lp, .ref lt, .ref lb, .ref le, .int lc, .int ld])), (m0, .inr (4, [.ref tr, .ref im, .ref fi, .ref se, .ref u0, .ref id, .ref ct, .int ra, .int ru, .int wg])), (id, .inr (1, [.ref jq, .int il2_10])), (jq, .inl (cB, 60, .inl g_11)), (im, .inr (1, [.ref iq, .int L])), (iq, .inl (cB, n, .inl g_49))] H := hP
        have hD : va_D A [(lp, .inl (cI, 12, .inl fp)), (lt, .inl (cI, 40, .inl ft)), (lb, .inl (cI, 40, .inl fb)), (le, .inl (cI, 40, .inl fe)), (ct, .inl (cI, 40, .inl cc)), (l0, .inr (3, [.int ln, .int lds, .int ltb, .ref lo, .ref lp, .ref lt, .ref lb, .ref le, .int lc, .int ld])), (m0, .inr (4, [.ref tr, .ref im, .ref fi, .ref se, .ref u0, .ref id, .ref ct, .int ra, .int ru, .int wg])), (id, .inr (1, [.ref jq, .int il2_10])), (jq, .inl (cB, 60, .inl g_11)), (im, .inr (1, [.ref iq, .int L])), (iq, .inl (cB, n, .inl g_49))] := hD
        try dsimp only at hp_r51
        obtain ⟨hv_52, he_53⟩ := hp_r51
        refine lv_iadd hx hb d_Maker_writePathTables_195 ?_
        refine lv_topi (fun v54 e_v54 => ?_)
        have t_v54 : v54.toInt = 8 + r51.toInt := by rw [e_v54]; exact i_add (by decide) rfl (by omega) (by omega)
        refine lv_iadd hx hb d_Maker_writePathTables_196 ?_
        refine lv_topi (fun v55 e_v55 => ?_)
        have t_v55 : v55.toInt = la.toInt + v54.toInt := by rw [e_v55]; exact i_add rfl rfl (by omega) (by omega)
        refine lv_istore hx hb d_Maker_writePathTables_197 hl (by decide) rfl (fun ls hl => ?_)
        have hl : lv_has ls 7 [(4, .int v55), (0, .ref m0), (1, .ref l0), (2, .int bl), (3, .int bh9), (5, .int kx), (6, .ref (na v3.toNatClampNeg 0))] := hl
        obtain ⟨v56, e_v56⟩ : ∃ z : Int32, z = kx + 1 := ⟨_, rfl⟩
        refine lv_iinc (v := v56) hx hb d_Maker_writePathTables_199 hl (k := 5) rfl e_v56.symm (by decide +kernel) rfl (fun ls hl => ?_)
        have t_v56 : v56.toInt = kx.toInt + 1 := by rw [e_v56]; exact i_add rfl (by decide) (by omega) (by omega)
        have hl : lv_has ls 7 [(5, .int v56), (4, .int v55), (0, .ref m0), (1, .ref l0), (2, .int bl), (3, .int bh9), (6, .ref (na v3.toNatClampNeg 0))] := hl
        refine lv_goto (tgt := 21) hx hb d_Maker_writePathTables_202 (by decide) ?_
        have hP := hP.sub (ws' := [(m0, .inr (4, [.ref tr, .ref im, .ref fi, .ref se, .ref u0, .ref id, .ref ct, .int ra, .int ru, .int wg])), (l0, .inr (3, [.int ln, .int lds, .int ltb, .ref lo, .ref lp, .ref lt, .ref lb, .ref le, .int lc, .int ld])), (lp, .inl (cI, 12, .inl fp)), (lt, .inl (cI, 40, .inl ft)), (lb, .inl (cI, 40, .inl fb)), (le, .inl (cI, 40, .inl fe)), (ct, .inl (cI, 40, .inl cc)), (id, .inr (1, [.ref jq, .int il2_10])), (jq, .inl (cB, 60, .inl g_11)), (im, .inr (1, [.ref iq, .int L])), (iq, .inl (cB, n, .inl g_49))]) [6, 5, 0, 1, 2, 3, 4, 7, 8, 9, 10] rfl
        have hD := hD.sub (ws' := [(m0, .inr (4, [.ref tr, .ref im, .ref fi, .ref se, .ref u0, .ref id, .ref ct, .int ra, .int ru, .int wg])), (l0, .inr (3, [.int ln, .int lds, .int ltb, .ref lo, .ref lp, .ref lt, .ref lb, .ref le, .int lc, .int ld])), (lp, .inl (cI, 12, .inl fp)), (lt, .inl (cI, 40, .inl ft)), (lb, .inl (cI, 40, .inl fb)), (le, .inl (cI, 40, .inl fe)), (ct, .inl (cI, 40, .inl cc)), (id, .inr (1, [.ref jq, .int il2_10])), (jq, .inl (cB, 60, .inl g_11)), (im, .inr (1, [.ref iq, .int L])), (iq, .inl (cB, n, .inl g_49))]) [6, 5, 0, 1, 2, 3, 4, 7, 8, 9, 10] (by decide +kernel) rfl
        have hl := lv_sub hl [2, 3, 4, 5, 1, 0] rfl
        exact ih21 _ (by first | omega | (dsimp only; omega)) bl bh9 v55 v56 il2_10 g_11 g_49 _ _ _ rfl ((by (try dsimp only); first | assumption | omega | trivial)) ((by (try dsimp only); first | assumption | omega | trivial)) ((by (try dsimp only); first | assumption | omega | trivial)) ((by (have h7 := i_cl (a := kx) (by omega)); (have h6 := i_cl (a := v56) (by omega)); rw [show v56.toNatClampNeg = kx.toNatClampNeg + 1 by omega]; show _ = ptS dt ln.toInt Q9 kx.toNatClampNeg + _; rw [hq0]; (have h5 := hisz); (have h4 := hJl); rw [hq0] at h5 h4; omega)) ((by (have h7 := i_cl (a := kx) (by omega)); (have h6 := i_cl (a := v56) (by omega)); rw [show v56.toNatClampNeg = kx.toNatClampNeg + 1 by omega]; (have h5 := hisz); (have g1 := hw_32); (have g2 := hw_38); (have g3 := hw_44); (have g4 := hw_50); rw [qev29] at g1; rw [qev35] at g2; rw [qev41] at g3; rw [qev47] at g4; (have h9 := pe_two e5 hw1_19 hw2_20 hw1_25 hw2_26 g1 g2 g3 g4 (by omega) (by omega) (by omega) (by omega) (by omega) (by omega) (by omega) (by omega) rfl rfl rfl (n2 := v55.toInt) (by omega) (by omega) (by omega)); rw [← hq0] at h9; exact h9)) hP hD hS hl
      · skip
        intro kk64
        refine lv_aload hx hb d_Maker_writePathTables_51 (lv_at hl 0 rfl) ?_
        have hPR := RO_at hZr hS
        refine va_getN (D := D) (ci := 5) (v := .int (ng v3.toNatClampNeg 1)) (C := "DiscMaker$Node") (T := F_Node) (N := 12) hx hb ht9 in_Node hown hK hPR _ (pix (X := [(tr, .inr (10, [.ref ta, .int cn, .int dr])), (ta, .inl (cN, 40, .inr (.inr (.inr (.inr (rowF na cm))))))]) hj5) rfl 4 (by decide) (va_Nw.use rfl (hN _ k195)) (fun _ h9 => h9) rfl d_Maker_writePathTables_53 ?_
        refine lv_if_ne (tgt := 63) hx hb d_Maker_writePathTables_56 (by decide) (fun h_9 => ?_) (fun h_9 => ?_)
        · skip
          have g56_113 : ¬ (ng v3.toNatClampNeg 1).toInt = 0 := fun h8 => h_9 ((i_eq rfl (by decide)).mpr h8)
          refine lv_iconst (v := 2) hx hb d_Maker_writePathTables_63 (by decide) ?_
          have hP := hP.sub (ws' := [(m0, .inr (4, [.ref tr, .ref im, .ref fi, .ref se, .ref u0, .ref id, .ref ct, .int ra, .int ru, .int wg])), (l0, .inr (3, [.int ln, .int lds, .int ltb, .ref lo, .ref lp, .ref lt, .ref lb, .ref le, .int lc, .int ld])), (lp, .inl (cI, 12, .inl fp)), (lt, .inl (cI, 40, .inl ft)), (lb, .inl (cI, 40, .inl fb)), (le, .inl (cI, 40, .inl fe)), (ct, .inl (cI, 40, .inl cc)), (id, .inr (1, [.ref jq, .int lil])), (jq, .inl (cB, 60, .inl ljf)), (im, .inr (1, [.ref iq, .int L])), (iq, .inl (cB, n, .inl lf))]) [0, 1, 2, 3, 4, 5, 6, 7, 8, 9, 10] rfl
          have hD := hD.sub (ws' := [(m0, .inr (4, [.ref tr, .ref im, .ref fi, .ref se, .ref u0, .ref id, .ref ct, .int ra, .int ru, .int wg])), (l0, .inr (3, [.int ln, .int lds, .int ltb, .ref lo, .ref lp, .ref lt, .ref lb, .ref le, .int lc, .int ld])), (lp, .inl (cI, 12, .inl fp)), (lt, .inl (cI, 40, .inl ft)), (lb, .inl (cI, 40, .inl fb)), (le, .inl (cI, 40, .inl fe)), (ct, .inl (cI, 40, .inl cc)), (id, .inr (1, [.ref jq, .int lil])), (jq, .inl (cB, 60, .inl ljf)), (im, .inr (1, [.ref iq, .int L])), (iq, .inl (cB, n, .inl lf))]) [0, 1, 2, 3, 4, 5, 6, 7, 8, 9, 10] (by decide +kernel) rfl
          have hl := lv_sub hl [1, 2, 3, 4, 5, 6, 0] rfl
          exact kk64 _ 2 _ _ _ rfl ((by (try dsimp only); first | assumption | omega | trivial)) ((by rw [hq0]; first | (rw [if_pos (by have h7 := i_cl (a := ng v3.toNatClampNeg 1) (by omega); omega)]; decide) | (rw [if_neg (by have h7 := i_cl (a := ng v3.toNatClampNeg 1) (by omega); omega)]; decide))) hP hD hS hl
        · skip
          have g56_113 : (ng v3.toNatClampNeg 1).toInt = 0 := (i_eq rfl (by decide)).mp h_9
          refine lv_iconst (v := 0) hx hb d_Maker_writePathTables_59 (by decide) ?_
          refine lv_goto (tgt := 64) hx hb d_Maker_writePathTables_60 (by decide) ?_
          have hP := hP.sub (ws' := [(m0, .inr (4, [.ref tr, .ref im, .ref fi, .ref se, .ref u0, .ref id, .ref ct, .int ra, .int ru, .int wg])), (l0, .inr (3, [.int ln, .int lds, .int ltb, .ref lo, .ref lp, .ref lt, .ref lb, .ref le, .int lc, .int ld])), (lp, .inl (cI, 12, .inl fp)), (lt, .inl (cI, 40, .inl ft)), (lb, .inl (cI, 40, .inl fb)), (le, .inl (cI, 40, .inl fe)), (ct, .inl (cI, 40, .inl cc)), (id, .inr (1, [.ref jq, .int lil])), (jq, .inl (cB, 60, .inl ljf)), (im, .inr (1, [.ref iq, .int L])), (iq, .inl (cB, n, .inl lf))]) [0, 1, 2, 3, 4, 5, 6, 7, 8, 9, 10] rfl
          have hD := hD.sub (ws' := [(m0, .inr (4, [.ref tr, .ref im, .ref fi, .ref se, .ref u0, .ref id, .ref ct, .int ra, .int ru, .int wg])), (l0, .inr (3, [.int ln, .int lds, .int ltb, .ref lo, .ref lp, .ref lt, .ref lb, .ref le, .int lc, .int ld])), (lp, .inl (cI, 12, .inl fp)), (lt, .inl (cI, 40, .inl ft)), (lb, .inl (cI, 40, .inl fb)), (le, .inl (cI, 40, .inl fe)), (ct, .inl (cI, 40, .inl cc)), (id, .inr (1, [.ref jq, .int lil])), (jq, .inl (cB, 60, .inl ljf)), (im, .inr (1, [.ref iq, .int L])), (iq, .inl (cB, n, .inl lf))]) [0, 1, 2, 3, 4, 5, 6, 7, 8, 9, 10] (by decide +kernel) rfl
          have hl := lv_sub hl [1, 2, 3, 4, 5, 6, 0] rfl
          exact kk64 _ 0 _ _ _ rfl ((by (try dsimp only); first | assumption | omega | trivial)) ((by rw [hq0]; first | (rw [if_pos (by have h7 := i_cl (a := ng v3.toNatClampNeg 1) (by omega); omega)]; decide) | (rw [if_neg (by have h7 := i_cl (a := ng v3.toNatClampNeg 1) (by omega); omega)]; decide))) hP hD hS hl
  · skip
    intro kk21
    have hP := hP.sub (ws' := [(m0, .inr (4, [.ref tr, .ref im, .ref fi, .ref se, .ref u0, .ref id, .ref ct, .int ra, .int ru, .int wg])), (l0, .inr (3, [.int ln, .int lds, .int ltb, .ref lo, .ref lp, .ref lt, .ref lb, .ref le, .int lc, .int ld])), (lp, .inl (cI, 12, .inl fp)), (lt, .inl (cI, 40, .inl ft)), (lb, .inl (cI, 40, .inl fb)), (le, .inl (cI, 40, .inl fe)), (ct, .inl (cI, 40, .inl cc)), (id, .inr (1, [.ref jq, .int il])), (jq, .inl (cB, 60, .inl jf)), (im, .inr (1, [.ref iq, .int L])), (iq, .inl (cB, n, .inl f))]) [0, 1, 2, 3, 4, 5, 6, 7, 8, 9, 10] rfl
    have hD := hD.sub (ws' := [(m0, .inr (4, [.ref tr, .ref im, .ref fi, .ref se, .ref u0, .ref id, .ref ct, .int ra, .int ru, .int wg])), (l0, .inr (3, [.int ln, .int lds, .int ltb, .ref lo, .ref lp, .ref lt, .ref lb, .ref le, .int lc, .int ld])), (lp, .inl (cI, 12, .inl fp)), (lt, .inl (cI, 40, .inl ft)), (lb, .inl (cI, 40, .inl fb)), (le, .inl (cI, 40, .inl fe)), (ct, .inl (cI, 40, .inl cc)), (id, .inr (1, [.ref jq, .int il])), (jq, .inl (cB, 60, .inl jf)), (im, .inr (1, [.ref iq, .int L])), (iq, .inl (cB, n, .inl f))]) [0, 1, 2, 3, 4, 5, 6, 7, 8, 9, 10] (by decide +kernel) rfl
    have hl := lv_sub hl [4, 5, 3, 2, 1, 0] rfl
    exact kk21 _ v1 v2 0 0 il jf f _ _ _ rfl ((by (try dsimp only); first | assumption | omega | trivial)) ((by (try dsimp only); first | assumption | omega | trivial)) ((by (try dsimp only); first | assumption | omega | trivial)) ((by rw [show (0 : Int32).toNatClampNeg = 0 by decide]; rfl)) ((by rw [show (0 : Int32).toNatClampNeg = 0 by decide]; exact hRW.cast rfl (by decide) rfl (by decide))) hP hD hS hl

/-- where the contents of a file with bytes lie -/
def FwX (dt : Nat → Nat → Int) (x : Int) (k : Nat) (c : Int) : Prop := ∃ j, j ≤ k ∧ FwP dt k j ∧ c = x + ctS dt j

set_option maxHeartbeats 4000000 in
set_option maxRecDepth 100000 in
theorem c3_firstWithContentsF (l : Launch) (D : va_G) (cB cI cJ cZ cN cF : ClassId) (sz : Nat) (m0 : Nat) (tr : Nat) (im : Nat) (fi : Nat) (se : Nat) (u0 : Nat) (id : Nat) (ct : Nat) (ra : Int32) (ru : Int32) (wg : Int32) (ta : Nat) (cn : Int32) (dr : Int32) (na : Nat → Nat → Nat) (ng : Nat → Nat → Int32) (nn : Nat → Nat → Nat) (nf : Nat → Nat → Nat → Int32) (cm : Nat) (dt : Nat → Nat → Int) (x : Int32) (hcn : cn.toInt = cm) (hcm : cm ≤ 40) (htok : TOK cm ng nn) (hdt : DtC dt cm ng nn nf) (hx : 0 ≤ x.toInt ∧ x.toInt < cn.toInt) : Met l y_Maker_firstWithContents w_Maker_firstWithContents ({ frames := 0, cells := 0, slots := 0, locals := 0 }) (va_Pc [.ref m0, .int x] (fun U => U.heap.size = sz ∧ va_P D CL [(m0, .inr (4, [.ref tr, .ref im, .ref fi, .ref se, .ref u0, .ref id, .ref ct, .int ra, .int ru, .int wg]))] U.heap ∧ va_K D CL (TY cB cI cJ cZ cN cF) U ∧ NN U ∧ va_D (fun _ => True) [(m0, .inr (4, [.ref tr, .ref im, .ref fi, .ref se, .ref u0, .ref id, .ref ct, .int ra, .int ru, .int wg]))] ∧ RO D (([(tr, .inr (10, [.ref ta, .int cn, .int dr])), (ta, .inl (cN, 40, .inr (.inr (.inr (.inr (rowF na cm))))))] : va_W) ++ (PL (NC cB na ng nn nf) cm)) (va_A [(m0, .inr (4, [.ref tr, .ref im, .ref fi, .ref se, .ref u0, .ref id, .ref ct, .int ra, .int ru, .int wg]))] sz) U U.heap)) (va_Qi (fun (r : Int32) (u : Unit) => ((-1) ≤ r.toInt ∧ r.toInt ≤ x.toInt) ∧ (r.toInt = x.toInt ↔ newC dt x.toNatClampNeg) ∧ ((r.toInt = -1 ∧ ¬ (dt 0 x.toNatClampNeg = 1 ∧ dt 6 x.toNatClampNeg ≠ 0)) ∨ (0 ≤ r.toInt ∧ dt 0 x.toNatClampNeg = 1 ∧ dt 6 x.toNatClampNeg ≠ 0 ∧ FwP dt x.toNatClampNeg r.toNatClampNeg))) (fun (u : Unit) (t : State) => match u with | () => va_P D CL [(m0, .inr (4, [.ref tr, .ref im, .ref fi, .ref se, .ref u0, .ref id, .ref ct, .int ra, .int ru, .int wg]))] t.heap ∧ va_D (va_A [(m0, .inr (4, [.ref tr, .ref im, .ref fi, .ref se, .ref u0, .ref id, .ref ct, .int ra, .int ru, .int wg]))] sz) [(m0, .inr (4, [.ref tr, .ref im, .ref fi, .ref se, .ref u0, .ref id, .ref ct, .int ra, .int ru, .int wg]))]) (va_A [(m0, .inr (4, [.ref tr, .ref im, .ref fi, .ref se, .ref u0, .ref id, .ref ct, .int ra, .int ru, .int wg]))] sz)) 0 0 (va_A [(m0, .inr (4, [.ref tr, .ref im, .ref fi, .ref se, .ref u0, .ref id, .ref ct, .int ra, .int ru, .int wg]))] sz) := by
  refine Met.ofW (cc := b_Maker_firstWithContents) (maxL := 5) (ret := some .int) (by decide +kernel) rfl ?_
  intro p e s m args below meth c s₁ B hml hv
  obtain ⟨rfl, hsz, hP, hK, hN, hD0, hZr⟩ := hv
  have hx := B.exec
  have hb := B.bytes
  have hr := B.returns
  have hts := atoms_spec (ws := w_Maker_firstWithContents) B.pre
  have ht9 := fun (w : Cond) (h : w ∈ lw_g) => hts w (List.mem_cons_of_mem _ h)
  have hown : s.vm.findClass "DiscMaker$Maker" = some m.cls := findClass_of_methodNamed B.named
  have hlocks := B.notSynchronized
  subst hsz
  have hD := hD0.self (sz := s.heap.size)
  generalize hAe : va_A [(m0, .inr (4, [.ref tr, .ref im, .ref fi, .ref se, .ref u0, .ref id, .ref ct, .int ra, .int ru, .int wg]))] s.heap.size = A at hD hZr ⊢
  have hA : ∀ q : Nat, s.heap.size ≤ q → A q := fun q h => by rw [← hAe]; exact Or.inr h
  have hS : va_S A s.heap s.heap [] := va_S.rf
  have hP : va_P D CL [(m0, .inr (4, [.ref tr, .ref im, .ref fi, .ref se, .ref u0, .ref id, .ref ct, .int ra, .int ru, .int wg]))] s.heap := hP
  have hl := lv_entry [.ref m0, .int x] (n := 5) (Nat.le_of_ble_eq_true rfl)
  rw [lg_entry_eq]
  generalize (lg_sl [.ref m0, .int x] ++ List.replicate (5 - (lg_sl [.ref m0, .int x]).length) Slot.unset).toArray = ls at hl ⊢
  have hl : lv_has ls 5 [(0, .ref m0), (1, .int x)] := hl
  have L_m1 : ((-1) : Int32).toInt = (-1) := by decide
  have L_0 : (0 : Int32).toInt = 0 := by decide
  have L_1 : (1 : Int32).toInt = 1 := by decide
  have hxc := i_cl (a := x) (by omega)
  have ddx := (hdt x.toNatClampNeg (by omega)).1
  refine lv_aload_n hx hb d_Maker_firstWithContents_0 rfl (lv_at hl 0 rfl) ?_
  refine va_get (D := D) (ci := 4) (v := .ref tr) (C := "DiscMaker$Maker") (T := F_Maker) (N := 10) hx hb ht9 in_Maker hown hK hP 0 rfl rfl 0 (by decide) (ht9 _ k347) (fun _ h9 => h9) rfl d_Maker_firstWithContents_1 ?_
  have hPR := RO_at hZr hS
  refine va_getN (D := D) (ci := 10) (v := .ref ta) (C := "DiscMaker$Tree") (T := F_Tree) (N := 3) hx hb ht9 in_Tree hown hK hPR 0 rfl rfl 0 (by decide) (va_Nw.use rfl (hN _ k237)) (fun _ h9 => h9) rfl d_Maker_firstWithContents_4 ?_
  refine lv_iload_n hx hb d_Maker_firstWithContents_7 rfl (lv_at hl 1 rfl) ?_
  have hPR := RO_at hZr hS
  refine va_aldq hx hb hK hPR 1 4 rfl rfl (vp_in_iff.mpr ⟨by omega, by omega⟩) d_Maker_firstWithContents_8 ?_
  have c_hk1 := i_cl (a := x) (by omega)
  have hk1 : x.toNatClampNeg < cm := by omega
  have o_hk1 := htok x.toNatClampNeg hk1
  obtain ⟨i_hj2, hj2⟩ : ∃ j : Nat, (PL (NC cB na ng nn nf) cm)[j]? = some ((na x.toNatClampNeg 0), .inr (5, [.int (ng x.toNatClampNeg 0), .ref (na x.toNatClampNeg 1), .ref (na x.toNatClampNeg 2), .ref (na x.toNatClampNeg 3), .int (ng x.toNatClampNeg 1), .int (ng x.toNatClampNeg 2), .int (ng x.toNatClampNeg 3), .int (ng x.toNatClampNeg 4), .int (ng x.toNatClampNeg 5), .int (ng x.toNatClampNeg 6), .int (ng x.toNatClampNeg 7), .int (ng x.toNatClampNeg 8)])) := PL_get (i := 0) hk1 rfl
  obtain ⟨i_hj3, hj3⟩ : ∃ j : Nat, (PL (NC cB na ng nn nf) cm)[j]? = some ((na x.toNatClampNeg 1), .inl (cB, (nn x.toNatClampNeg 1), .inl (nf x.toNatClampNeg 1))) := PL_get (i := 1) hk1 rfl
  obtain ⟨i_hj4, hj4⟩ : ∃ j : Nat, (PL (NC cB na ng nn nf) cm)[j]? = some ((na x.toNatClampNeg 2), .inl (cB, 11, .inl (nf x.toNatClampNeg 2))) := PL_get (i := 2) hk1 rfl
  obtain ⟨i_hj5, hj5⟩ : ∃ j : Nat, (PL (NC cB na ng nn nf) cm)[j]? = some ((na x.toNatClampNeg 3), .inl (cB, (nn x.toNatClampNeg 3), .inl (nf x.toNatClampNeg 3))) := PL_get (i := 3) hk1 rfl
  refine W.eq (g2 := F0 m 9 ls [.ref (na x.toNatClampNeg 0)]) (by rw [show rowF na cm x.toNatClampNeg = some (na x.toNatClampNeg 0) from rowF_some hk1]; rfl) ?_
  refine lv_astore_n hx hb d_Maker_firstWithContents_9 rfl hl (by decide) rfl (fun ls hl => ?_)
  have hl : lv_has ls 5 [(2, .ref (na x.toNatClampNeg 0)), (0, .ref m0), (1, .int x)] := hl
  refine lv_aload_n hx hb d_Maker_firstWithContents_10 rfl (lv_at hl 0 rfl) ?_
  have hPR := RO_at hZr hS
  refine va_getN (D := D) (ci := 5) (v := .int (ng x.toNatClampNeg 0)) (C := "DiscMaker$Node") (T := F_Node) (N := 12) hx hb ht9 in_Node hown hK hPR _ (pix (X := [(tr, .inr (10, [.ref ta, .int cn, .int dr])), (ta, .inl (cN, 40, .inr (.inr (.inr (.inr (rowF na cm))))))]) hj2) rfl 0 (by decide) (va_Nw.use rfl (hN _ k181)) (fun _ h9 => h9) rfl d_Maker_firstWithContents_11 ?_
  refine lv_iconst (v := 1) hx hb d_Maker_firstWithContents_14 (by decide) ?_
  refine lv_icmp_ne (tgt := 25) hx hb d_Maker_firstWithContents_15 (by decide) (fun h_9 => ?_) (fun h_9 => ?_)
  · skip
    have g15_10 : ¬ (ng x.toNatClampNeg 0).toInt = 1 := fun h8 => h_9 ((i_eq rfl (by decide)).mpr h8)
    refine lv_iconst (v := (-1)) hx hb d_Maker_firstWithContents_25 (by decide) ?_
    have hP9 := hP.sub (ws' := [(m0, .inr (4, [.ref tr, .ref im, .ref fi, .ref se, .ref u0, .ref id, .ref ct, .int ra, .int ru, .int wg]))]) [0] rfl
    have hD9 := hD.sub (ws' := [(m0, .inr (4, [.ref tr, .ref im, .ref fi, .ref se, .ref u0, .ref id, .ref ct, .int ra, .int ru, .int wg]))]) [0] (by decide +kernel) rfl
    exact W.iret (v := (-1)) hx hb hr (fun t ht hW => ⟨⟨(-1), (), rfl, ⟨(by (try dsimp only); first | assumption | omega | trivial), ⟨fun h7 => absurd h7 (by omega), fun h7 => by have h6 := h7.1; have h5 := h7.2.1; omega⟩, (Or.inl ⟨by decide, fun h7 => by omega⟩)⟩, by rw [ht]; exact hP9, hD9⟩, hS.F ht⟩) hS.2.2 d_Maker_firstWithContents_26
  · skip
    have g15_10 : (ng x.toNatClampNeg 0).toInt = 1 := (i_eq rfl (by decide)).mp h_9
    refine lv_aload_n hx hb d_Maker_firstWithContents_18 rfl (lv_at hl 0 rfl) ?_
    have hPR := RO_at hZr hS
    refine va_getN (D := D) (ci := 5) (v := .int (ng x.toNatClampNeg 7)) (C := "DiscMaker$Node") (T := F_Node) (N := 12) hx hb ht9 in_Node hown hK hPR _ (pix (X := [(tr, .inr (10, [.ref ta, .int cn, .int dr])), (ta, .inl (cN, 40, .inr (.inr (.inr (.inr (rowF na cm))))))]) hj2) rfl 10 (by decide) (va_Nw.use rfl (hN _ k207)) (fun _ h9 => h9) rfl d_Maker_firstWithContents_19 ?_
    refine lv_if_ne (tgt := 27) hx hb d_Maker_firstWithContents_22 (by decide) (fun h_9 => ?_) (fun h_9 => ?_)
    · skip
      have g22_15 : ¬ (ng x.toNatClampNeg 7).toInt = 0 := fun h8 => h_9 ((i_eq rfl (by decide)).mpr h8)
      refine lv_iconst (v := 0) hx hb d_Maker_firstWithContents_27 (by decide) ?_
      refine lv_istore_n hx hb d_Maker_firstWithContents_28 rfl hl (by decide) rfl (fun ls hl => ?_)
      have hl : lv_has ls 5 [(3, .int 0), (2, .ref (na x.toNatClampNeg 0)), (0, .ref m0), (1, .int x)] := hl
      refine zz_labM (B := fun (lk : Nat) (K : Heap → List Loc → Array Slot → List Value → Prop) => ∀ (kx : Int32) (H : Heap) (locs : List Loc) (ls : Array Slot), lk = (x.toInt - kx.toInt).toNat → (0 ≤ kx.toInt ∧ kx.toInt ≤ x.toInt) → (∀ j : Nat, (j : Int) < kx.toInt → ¬ (dt 0 j = 1 ∧ dt 6 j = dt 6 x.toNatClampNeg ∧ dt 7 j = dt 7 x.toNatClampNeg)) → va_P D CL [(m0, .inr (4, [.ref tr, .ref im, .ref fi, .ref se, .ref u0, .ref id, .ref ct, .int ra, .int ru, .int wg]))] H → va_D A [(m0, .inr (4, [.ref tr, .ref im, .ref fi, .ref se, .ref u0, .ref id, .ref ct, .int ra, .int ru, .int wg]))] → va_S A s.heap H locs → lv_has ls 5 [(0, .ref m0), (1, .int x), (2, .ref (na x.toNatClampNeg 0)), (3, .int kx)] → K H locs ls []) 29 ?_ ?_
      · skip
        intro lk ih29 kx H locs ls hm29 e1 e2 hP hD hS hl
        refine lv_iload_n hx hb d_Maker_firstWithContents_29 rfl (lv_at hl 3 rfl) ?_
        refine lv_iload_n hx hb d_Maker_firstWithContents_30 rfl (lv_at hl 1 rfl) ?_
        refine lv_icmp_ge (tgt := 86) hx hb d_Maker_firstWithContents_31 (by decide) (fun h_9 => ?_) (fun h_9 => ?_)
        · skip
          have g31_20 : x.toInt ≤ kx.toInt := (i_le rfl rfl).mp h_9
          refine lv_iload_n hx hb d_Maker_firstWithContents_86 rfl (lv_at hl 1 rfl) ?_
          have hP9 := hP.sub (ws' := [(m0, .inr (4, [.ref tr, .ref im, .ref fi, .ref se, .ref u0, .ref id, .ref ct, .int ra, .int ru, .int wg]))]) [0] rfl
          have hD9 := hD.sub (ws' := [(m0, .inr (4, [.ref tr, .ref im, .ref fi, .ref se, .ref u0, .ref id, .ref ct, .int ra, .int ru, .int wg]))]) [0] (by decide +kernel) rfl
          exact W.iret (v := x) hx hb hr (fun t ht hW => ⟨⟨x, (), rfl, ⟨(by (try dsimp only); first | assumption | omega | trivial), ⟨fun _ => ⟨by omega, by omega, fun j hj => e2 j (by have h5 := i_cl (a := kx) (by omega); omega)⟩, fun _ => rfl⟩, (Or.inr ⟨by omega, by omega, by omega, ⟨by omega, rfl, rfl⟩, fun j hj => e2 j (by have h5 := i_cl (a := kx) (by omega); omega)⟩)⟩, by rw [ht]; exact hP9, hD9⟩, hS.F ht⟩) hS.2.2 d_Maker_firstWithContents_87
        · skip
          have g31_20 : ¬ x.toInt ≤ kx.toInt := fun h8 => h_9 ((i_le rfl rfl).mpr h8)
          refine lv_aload_n hx hb d_Maker_firstWithContents_34 rfl (lv_at hl 0 rfl) ?_
          refine va_get (D := D) (ci := 4) (v := .ref tr) (C := "DiscMaker$Maker") (T := F_Maker) (N := 10) hx hb ht9 in_Maker hown hK hP 0 rfl rfl 0 (by decide) (ht9 _ k347) (fun _ h9 => h9) rfl d_Maker_firstWithContents_35 ?_
          have hPR := RO_at hZr hS
          refine va_getN (D := D) (ci := 10) (v := .ref ta) (C := "DiscMaker$Tree") (T := F_Tree) (N := 3) hx hb ht9 in_Tree hown hK hPR 0 rfl rfl 0 (by decide) (va_Nw.use rfl (hN _ k237)) (fun _ h9 => h9) rfl d_Maker_firstWithContents_38 ?_
          refine lv_iload_n hx hb d_Maker_firstWithContents_41 rfl (lv_at hl 3 rfl) ?_
          have hPR := RO_at hZr hS
          refine va_aldq hx hb hK hPR 1 4 rfl rfl (vp_in_iff.mpr ⟨by omega, by omega⟩) d_Maker_firstWithContents_42 ?_
          have c_hk6 := i_cl (a := kx) (by omega)
          have hk6 : kx.toNatClampNeg < cm := by omega
          have o_hk6 := htok kx.toNatClampNeg hk6
          obtain ⟨i_hj7, hj7⟩ : ∃ j : Nat, (PL (NC cB na ng nn nf) cm)[j]? = some ((na kx.toNatClampNeg 0), .inr (5, [.int (ng kx.toNatClampNeg 0), .ref (na kx.toNatClampNeg 1), .ref (na kx.toNatClampNeg 2), .ref (na kx.toNatClampNeg 3), .int (ng kx.toNatClampNeg 1), .int (ng kx.toNatClampNeg 2), .int (ng kx.toNatClampNeg 3), .int (ng kx.toNatClampNeg 4), .int (ng kx.toNatClampNeg 5), .int (ng kx.toNatClampNeg 6), .int (ng kx.toNatClampNeg 7), .int (ng kx.toNatClampNeg 8)])) := PL_get (i := 0) hk6 rfl
          obtain ⟨i_hj8, hj8⟩ : ∃ j : Nat, (PL (NC cB na ng nn nf) cm)[j]? = some ((na kx.toNatClampNeg 1), .inl (cB, (nn kx.toNatClampNeg 1), .inl (nf kx.toNatClampNeg 1))) := PL_get (i := 1) hk6 rfl
          obtain ⟨i_hj9, hj9⟩ : ∃ j : Nat, (PL (NC cB na ng nn nf) cm)[j]? = some ((na kx.toNatClampNeg 2), .inl (cB, 11, .inl (nf kx.toNatClampNeg 2))) := PL_get (i := 2) hk6 rfl
          obtain ⟨i_hj10, hj10⟩ : ∃ j : Nat, (PL (NC cB na ng nn nf) cm)[j]? = some ((na kx.toNatClampNeg 3), .inl (cB, (nn kx.toNatClampNeg 3), .inl (nf kx.toNatClampNeg 3))) := PL_get (i := 3) hk6 rfl
          refine W.eq (g2 := F0 m 43 ls [.ref (na kx.toNatClampNeg 0)]) (by rw [show rowF na cm kx.toNatClampNeg = some (na kx.toNatClampNeg 0) from rowF_some hk6]; rfl) ?_
          refine lv_astore hx hb d_Maker_firstWithContents_43 hl (by decide) rfl (fun ls hl => ?_)
          have hl : lv_has ls 5 [(4, .ref (na kx.toNatClampNeg 0)), (0, .ref m0), (1, .int x), (2, .ref (na x.toNatClampNeg 0)), (3, .int kx)] := hl
          refine lv_aload hx hb d_Maker_firstWithContents_45 (lv_at hl 0 rfl) ?_
          have hPR := RO_at hZr hS
          refine va_getN (D := D) (ci := 5) (v := .int (ng kx.toNatClampNeg 0)) (C := "DiscMaker$Node") (T := F_Node) (N := 12) hx hb ht9 in_Node hown hK hPR _ (pix (X := [(tr, .inr (10, [.ref ta, .int cn, .int dr])), (ta, .inl (cN, 40, .inr (.inr (.inr (.inr (rowF na cm))))))]) hj7) rfl 0 (by decide) (va_Nw.use rfl (hN _ k181)) (fun _ h9 => h9) rfl d_Maker_firstWithContents_47 ?_
          refine lv_iconst (v := 1) hx hb d_Maker_firstWithContents_50 (by decide) ?_
          refine lv_icmp_ne (tgt := 80) hx hb d_Maker_firstWithContents_51 (by decide) (fun h_9 => ?_) (fun h_9 => ?_)
          · skip
            have g51_32 : ¬ (ng kx.toNatClampNeg 0).toInt = 1 := fun h8 => h_9 ((i_eq rfl (by decide)).mpr h8)
            obtain ⟨v11, e_v11⟩ : ∃ z : Int32, z = kx + 1 := ⟨_, rfl⟩
            refine lv_iinc (v := v11) hx hb d_Maker_firstWithContents_80 hl (k := 4) rfl e_v11.symm (by decide +kernel) rfl (fun ls hl => ?_)
            have t_v11 : v11.toInt = kx.toInt + 1 := by rw [e_v11]; exact i_add rfl (by decide) (by omega) (by omega)
            have hl : lv_has ls 5 [(3, .int v11), (4, .ref (na kx.toNatClampNeg 0)), (0, .ref m0), (1, .int x), (2, .ref (na x.toNatClampNeg 0))] := hl
            refine lv_goto (tgt := 29) hx hb d_Maker_firstWithContents_83 (by decide) ?_
            have hP := hP.sub (ws' := [(m0, .inr (4, [.ref tr, .ref im, .ref fi, .ref se, .ref u0, .ref id, .ref ct, .int ra, .int ru, .int wg]))]) [0] rfl
            have hD := hD.sub (ws' := [(m0, .inr (4, [.ref tr, .ref im, .ref fi, .ref se, .ref u0, .ref id, .ref ct, .int ra, .int ru, .int wg]))]) [0] (by decide +kernel) rfl
            have hl := lv_sub hl [2, 3, 4, 0] rfl
            exact ih29 _ (by first | omega | (dsimp only; omega)) v11 _ _ _ rfl ((by (try dsimp only); first | assumption | omega | trivial)) ((fun j hj => (Decidable.em (j = kx.toNatClampNeg)).elim (fun e => by subst e; have h6 := (hdt kx.toNatClampNeg (by have h5 := i_cl (a := kx) (by omega); omega)).1; omega) (fun e => e2 j (by have h5 := i_cl (a := kx) (by omega); omega)))) hP hD hS hl
          · skip
            have g51_32 : (ng kx.toNatClampNeg 0).toInt = 1 := (i_eq rfl (by decide)).mp h_9
            refine lv_aload hx hb d_Maker_firstWithContents_54 (lv_at hl 0 rfl) ?_
            have hPR := RO_at hZr hS
            refine va_getN (D := D) (ci := 5) (v := .int (ng kx.toNatClampNeg 7)) (C := "DiscMaker$Node") (T := F_Node) (N := 12) hx hb ht9 in_Node hown hK hPR _ (pix (X := [(tr, .inr (10, [.ref ta, .int cn, .int dr])), (ta, .inl (cN, 40, .inr (.inr (.inr (.inr (rowF na cm))))))]) hj7) rfl 10 (by decide) (va_Nw.use rfl (hN _ k207)) (fun _ h9 => h9) rfl d_Maker_firstWithContents_56 ?_
            refine lv_aload_n hx hb d_Maker_firstWithContents_59 rfl (lv_at hl 3 rfl) ?_
            have hPR := RO_at hZr hS
            refine va_getN (D := D) (ci := 5) (v := .int (ng x.toNatClampNeg 7)) (C := "DiscMaker$Node") (T := F_Node) (N := 12) hx hb ht9 in_Node hown hK hPR _ (pix (X := [(tr, .inr (10, [.ref ta, .int cn, .int dr])), (ta, .inl (cN, 40, .inr (.inr (.inr (.inr (rowF na cm))))))]) hj2) rfl 10 (by decide) (va_Nw.use rfl (hN _ k207)) (fun _ h9 => h9) rfl d_Maker_firstWithContents_60 ?_
            refine lv_icmp_ne (tgt := 80) hx hb d_Maker_firstWithContents_63 (by decide) (fun h_9 => ?_) (fun h_9 => ?_)
            · skip
              have g63_40 : ¬ (ng kx.toNatClampNeg 7).toInt = (ng x.toNatClampNeg 7).toInt := fun h8 => h_9 ((i_eq rfl rfl).mpr h8)
              obtain ⟨v12, e_v12⟩ : ∃ z : Int32, z = kx + 1 := ⟨_, rfl⟩
              refine lv_iinc (v := v12) hx hb d_Maker_firstWithContents_80 hl (k := 4) rfl e_v12.symm (by decide +kernel) rfl (fun ls hl => ?_)
              have t_v12 : v12.toInt = kx.toInt + 1 := by rw [e_v12]; exact i_add rfl (by decide) (by omega) (by omega)
              have hl : lv_has ls 5 [(3, .int v12), (4, .ref (na kx.toNatClampNeg 0)), (0, .ref m0), (1, .int x), (2, .ref (na x.toNatClampNeg 0))] := hl
              refine lv_goto (tgt := 29) hx hb d_Maker_firstWithContents_83 (by decide) ?_
              have hP := hP.sub (ws' := [(m0, .inr (4, [.ref tr, .ref im, .ref fi, .ref se, .ref u0, .ref id, .ref ct, .int ra, .int ru, .int wg]))]) [0] rfl
              have hD := hD.sub (ws' := [(m0, .inr (4, [.ref tr, .ref im, .ref fi, .ref se, .ref u0, .ref id, .ref ct, .int ra, .int ru, .int wg]))]) [0] (by decide +kernel) rfl
              have hl := lv_sub hl [2, 3, 4, 0] rfl
              exact ih29 _ (by first | omega | (dsimp only; omega)) v12 _ _ _ rfl ((by (try dsimp only); first | assumption | omega | trivial)) ((fun j hj => (Decidable.em (j = kx.toNatClampNeg)).elim (fun e => by subst e; have h6 := (hdt kx.toNatClampNeg (by have h5 := i_cl (a := kx) (by omega); omega)).1; omega) (fun e => e2 j (by have h5 := i_cl (a := kx) (by omega); omega)))) hP hD hS hl
            · skip
              have g63_40 : (ng kx.toNatClampNeg 7).toInt = (ng x.toNatClampNeg 7).toInt := (i_eq rfl rfl).mp h_9
              refine lv_aload hx hb d_Maker_firstWithContents_66 (lv_at hl 0 rfl) ?_
              have hPR := RO_at hZr hS
              refine va_getN (D := D) (ci := 5) (v := .int (ng kx.toNatClampNeg 8)) (C := "DiscMaker$Node") (T := F_Node) (N := 12) hx hb ht9 in_Node hown hK hPR _ (pix (X := [(tr, .inr (10, [.ref ta, .int cn, .int dr])), (ta, .inl (cN, 40, .inr (.inr (.inr (.inr (rowF na cm))))))]) hj7) rfl 11 (by decide) (va_Nw.use rfl (hN _ k209)) (fun _ h9 => h9) rfl d_Maker_firstWithContents_68 ?_
              refine lv_aload_n hx hb d_Maker_firstWithContents_71 rfl (lv_at hl 3 rfl) ?_
              have hPR := RO_at hZr hS
              refine va_getN (D := D) (ci := 5) (v := .int (ng x.toNatClampNeg 8)) (C := "DiscMaker$Node") (T := F_Node) (N := 12) hx hb ht9 in_Node hown hK hPR _ (pix (X := [(tr, .inr (10, [.ref ta, .int cn, .int dr])), (ta, .inl (cN, 40, .inr (.inr (.inr (.inr (rowF na cm))))))]) hj2) rfl 11 (by decide) (va_Nw.use rfl (hN _ k209)) (fun _ h9 => h9) rfl d_Maker_firstWithContents_72 ?_
              refine lv_icmp_ne (tgt := 80) hx hb d_Maker_firstWithContents_75 (by decide) (fun h_9 => ?_) (fun h_9 => ?_)
              · skip
                have g75_48 : ¬ (ng kx.toNatClampNeg 8).toInt = (ng x.toNatClampNeg 8).toInt := fun h8 => h_9 ((i_eq rfl rfl).mpr h8)
                obtain ⟨v13, e_v13⟩ : ∃ z : Int32, z = kx + 1 := ⟨_, rfl⟩
                refine lv_iinc (v := v13) hx hb d_Maker_firstWithContents_80 hl (k := 4) rfl e_v13.symm (by decide +kernel) rfl (fun ls hl => ?_)
                have t_v13 : v13.toInt = kx.toInt + 1 := by rw [e_v13]; exact i_add rfl (by decide) (by omega) (by omega)
                have hl : lv_has ls 5 [(3, .int v13), (4, .ref (na kx.toNatClampNeg 0)), (0, .ref m0), (1, .int x), (2, .ref (na x.toNatClampNeg 0))] := hl
                refine lv_goto (tgt := 29) hx hb d_Maker_firstWithContents_83 (by decide) ?_
                have hP := hP.sub (ws' := [(m0, .inr (4, [.ref tr, .ref im, .ref fi, .ref se, .ref u0, .ref id, .ref ct, .int ra, .int ru, .int wg]))]) [0] rfl
                have hD := hD.sub (ws' := [(m0, .inr (4, [.ref tr, .ref im, .ref fi, .ref se, .ref u0, .ref id, .ref ct, .int ra, .int ru, .int wg]))]) [0] (by decide +kernel) rfl
                have hl := lv_sub hl [2, 3, 4, 0] rfl
                exact ih29 _ (by first | omega | (dsimp only; omega)) v13 _ _ _ rfl ((by (try dsimp only); first | assumption | omega | trivial)) ((fun j hj => (Decidable.em (j = kx.toNatClampNeg)).elim (fun e => by subst e; have h6 := (hdt kx.toNatClampNeg (by have h5 := i_cl (a := kx) (by omega); omega)).1; omega) (fun e => e2 j (by have h5 := i_cl (a := kx) (by omega); omega)))) hP hD hS hl
              · skip
                have g75_48 : (ng kx.toNatClampNeg 8).toInt = (ng x.toNatClampNeg 8).toInt := (i_eq rfl rfl).mp h_9
                refine lv_iload_n hx hb d_Maker_firstWithContents_78 rfl (lv_at hl 4 rfl) ?_
                have hkc9 := i_cl (a := kx) (by omega)
                have ddk := (hdt kx.toNatClampNeg (by omega)).1
                have hP9 := hP.sub (ws' := [(m0, .inr (4, [.ref tr, .ref im, .ref fi, .ref se, .ref u0, .ref id, .ref ct, .int ra, .int ru, .int wg]))]) [0] rfl
                have hD9 := hD.sub (ws' := [(m0, .inr (4, [.ref tr, .ref im, .ref fi, .ref se, .ref u0, .ref id, .ref ct, .int ra, .int ru, .int wg]))]) [0] (by decide +kernel) rfl
                exact W.iret (v := kx) hx hb hr (fun t ht hW => ⟨⟨kx, (), rfl, ⟨(by (try dsimp only); first | assumption | omega | trivial), ⟨fun h7 => absurd h7 (by omega), fun h7 => absurd (h7.2.2 kx.toNatClampNeg (by omega)) (by omega)⟩, (Or.inr ⟨by omega, by omega, by omega, ⟨by omega, by omega, by omega⟩, fun j hj => e2 j (by omega)⟩)⟩, by rw [ht]; exact hP9, hD9⟩, hS.F ht⟩) hS.2.2 d_Maker_firstWithContents_79
      · skip
        intro kk29
        have hP := hP.sub (ws' := [(m0, .inr (4, [.ref tr, .ref im, .ref fi, .ref se, .ref u0, .ref id, .ref ct, .int ra, .int ru, .int wg]))]) [0] rfl
        have hD := hD.sub (ws' := [(m0, .inr (4, [.ref tr, .ref im, .ref fi, .ref se, .ref u0, .ref id, .ref ct, .int ra, .int ru, .int wg]))]) [0] (by decide +kernel) rfl
        have hl := lv_sub hl [2, 3, 1, 0] rfl
        exact kk29 _ 0 _ _ _ rfl ((by (try dsimp only); first | assumption | omega | trivial)) ((fun j hj => absurd hj (by omega))) hP hD hS hl
    · skip
      have g22_15 : (ng x.toNatClampNeg 7).toInt = 0 := (i_eq rfl (by decide)).mp h_9
      refine lv_iconst (v := (-1)) hx hb d_Maker_firstWithContents_25 (by decide) ?_
      have hP9 := hP.sub (ws' := [(m0, .inr (4, [.ref tr, .ref im, .ref fi, .ref se, .ref u0, .ref id, .ref ct, .int ra, .int ru, .int wg]))]) [0] rfl
      have hD9 := hD.sub (ws' := [(m0, .inr (4, [.ref tr, .ref im, .ref fi, .ref se, .ref u0, .ref id, .ref ct, .int ra, .int ru, .int wg]))]) [0] (by decide +kernel) rfl
      exact W.iret (v := (-1)) hx hb hr (fun t ht hW => ⟨⟨(-1), (), rfl, ⟨(by (try dsimp only); first | assumption | omega | trivial), ⟨fun h7 => absurd h7 (by omega), fun h7 => by have h6 := h7.1; have h5 := h7.2.1; omega⟩, (Or.inl ⟨by decide, fun h7 => by omega⟩)⟩, by rw [ht]; exact hP9, hD9⟩, hS.F ht⟩) hS.2.2 d_Maker_firstWithContents_26

set_option maxHeartbeats 4000000 in
set_option maxRecDepth 100000 in
theorem c3_placeContentsF (l : Launch) (D : va_G) (cB cI cJ cZ cN cF : ClassId) (sz : Nat) (m0 : Nat) (tr : Nat) (im : Nat) (fi : Nat) (se : Nat) (u0 : Nat) (id : Nat) (ct : Nat) (ra : Int32) (ru : Int32) (wg : Int32) (cc : Nat → Int32) (ta : Nat) (cn : Int32) (dr : Int32) (na : Nat → Nat → Nat) (ng : Nat → Nat → Int32) (nn : Nat → Nat → Nat) (nf : Nat → Nat → Nat → Int32) (cm : Nat) (dt : Nat → Nat → Int) (x : Int32) (hcn : cn.toInt = cm) (hcm : cm ≤ 40) (htok : TOK cm ng nn) (hdt : DtC dt cm ng nn nf) (hx : 0 ≤ x.toInt ∧ x.toInt ≤ 100000) : Met l y_Maker_placeContents w_Maker_placeContents ({ frames := 1, cells := 0, slots := 0, locals := 30 }) (va_Pc [.ref m0, .int x] (fun U => U.heap.size = sz ∧ va_P D CL [(m0, .inr (4, [.ref tr, .ref im, .ref fi, .ref se, .ref u0, .ref id, .ref ct, .int ra, .int ru, .int wg])), (ct, .inl (cI, 40, .inl cc))] U.heap ∧ va_K D CL (TY cB cI cJ cZ cN cF) U ∧ NN U ∧ va_D (fun _ => True) [(m0, .inr (4, [.ref tr, .ref im, .ref fi, .ref se, .ref u0, .ref id, .ref ct, .int ra, .int ru, .int wg])), (ct, .inl (cI, 40, .inl cc))] ∧ RO D (([(tr, .inr (10, [.ref ta, .int cn, .int dr])), (ta, .inl (cN, 40, .inr (.inr (.inr (.inr (rowF na cm))))))] : va_W) ++ (PL (NC cB na ng nn nf) cm)) (va_A [(m0, .inr (4, [.ref tr, .ref im, .ref fi, .ref se, .ref u0, .ref id, .ref ct, .int ra, .int ru, .int wg])), (ct, .inl (cI, 40, .inl cc))] sz) U U.heap)) (va_Qi (fun (r : Int32) (u : (Nat → Int32)) => match u with | g => (x.toInt ≤ r.toInt ∧ r.toInt ≤ x.toInt + 120) ∧ (r.toInt = x.toInt + ctS dt cm) ∧ (CtP dt x.toInt g cm) ∧ (∀ k, k < cm → ¬ (dt 0 k = 1 ∧ dt 6 k ≠ 0) → (g k).toInt = 0)) (fun (u : (Nat → Int32)) (t : State) => match u with | g => va_P D CL [(m0, .inr (4, [.ref tr, .ref im, .ref fi, .ref se, .ref u0, .ref id, .ref ct, .int ra, .int ru, .int wg])), (ct, .inl (cI, 40, .inl g))] t.heap ∧ va_D (va_A [(m0, .inr (4, [.ref tr, .ref im, .ref fi, .ref se, .ref u0, .ref id, .ref ct, .int ra, .int ru, .int wg])), (ct, .inl (cI, 40, .inl cc))] sz) [(m0, .inr (4, [.ref tr, .ref im, .ref fi, .ref se, .ref u0, .ref id, .ref ct, .int ra, .int ru, .int wg])), (ct, .inl (cI, 40, .inl g))]) (va_A [(m0, .inr (4, [.ref tr, .ref im, .ref fi, .ref se, .ref u0, .ref id, .ref ct, .int ra, .int ru, .int wg])), (ct, .inl (cI, 40, .inl cc))] sz)) 0 0 (va_A [(m0, .inr (4, [.ref tr, .ref im, .ref fi, .ref se, .ref u0, .ref id, .ref ct, .int ra, .int ru, .int wg])), (ct, .inl (cI, 40, .inl cc))] sz) := by
  refine Met.ofW (cc := b_Maker_placeContents) (maxL := 5) (ret := some .int) (by decide +kernel) rfl ?_
  intro p e s m args below meth c s₁ B hml hv
  obtain ⟨rfl, hsz, hP, hK, hN, hD0, hZr⟩ := hv
  have hx := B.exec
  have hb := B.bytes
  have hr := B.returns
  have hts := atoms_spec (ws := w_Maker_placeContents) B.pre
  have ht9 := fun (w : Cond) (h : w ∈ lw_g) => hts w (List.mem_cons_of_mem _ h)
  have hown : s.vm.findClass "DiscMaker$Maker" = some m.cls := findClass_of_methodNamed B.named
  have hlocks := B.notSynchronized
  subst hsz
  have hD := hD0.self (sz := s.heap.size)
  generalize hAe : va_A [(m0, .inr (4, [.ref tr, .ref im, .ref fi, .ref se, .ref u0, .ref id, .ref ct, .int ra, .int ru, .int wg])), (ct, .inl (cI, 40, .inl cc))] s.heap.size = A at hD hZr ⊢
  have hA : ∀ q : Nat, s.heap.size ≤ q → A q := fun q h => by rw [← hAe]; exact Or.inr h
  have hS : va_S A s.heap s.heap [] := va_S.rf
  have hP : va_P D CL [(m0, .inr (4, [.ref tr, .ref im, .ref fi, .ref se, .ref u0, .ref id, .ref ct, .int ra, .int ru, .int wg])), (ct, .inl (cI, 40, .inl cc))] s.heap := hP
  have hl := lv_entry [.ref m0, .int x] (n := 5) (Nat.le_of_ble_eq_true rfl)
  rw [lg_entry_eq]
  generalize (lg_sl [.ref m0, .int x] ++ List.replicate (5 - (lg_sl [.ref m0, .int x]).length) Slot.unset).toArray = ls at hl ⊢
  have hl : lv_has ls 5 [(0, .ref m0), (1, .int x)] := hl
  have L_m1 : ((-1) : Int32).toInt = (-1) := by decide
  have L_0 : (0 : Int32).toInt = 0 := by decide
  have L_1 : (1 : Int32).toInt = 1 := by decide
  refine lv_iload_n hx hb d_Maker_placeContents_0 rfl (lv_at hl 1 rfl) ?_
  refine lv_istore_n hx hb d_Maker_placeContents_1 rfl hl (by decide) rfl (fun ls hl => ?_)
  have hl : lv_has ls 5 [(2, .int x), (0, .ref m0), (1, .int x)] := hl
  refine lv_iconst (v := 0) hx hb d_Maker_placeContents_2 (by decide) ?_
  refine lv_istore_n hx hb d_Maker_placeContents_3 rfl hl (by decide) rfl (fun ls hl => ?_)
  have hl : lv_has ls 5 [(3, .int 0), (2, .int x), (0, .ref m0), (1, .int x)] := hl
  refine zz_labM (B := fun (lk : Nat) (K : Heap → List Loc → Array Slot → List Value → Prop) => ∀ (nx : Int32) (kx : Int32) (lcc : Nat → Int32) (H : Heap) (locs : List Loc) (ls : Array Slot), lk = (cn.toInt - kx.toInt).toNat → (0 ≤ kx.toInt ∧ kx.toInt ≤ cn.toInt) → (x.toInt ≤ nx.toInt ∧ nx.toInt ≤ x.toInt + 3 * kx.toInt) → (nx.toInt = x.toInt + ctS dt kx.toNatClampNeg) → (CtP dt x.toInt lcc kx.toNatClampNeg) → (∀ k, k < kx.toNatClampNeg → ¬ (dt 0 k = 1 ∧ dt 6 k ≠ 0) → (lcc k).toInt = 0) → va_P D CL [(m0, .inr (4, [.ref tr, .ref im, .ref fi, .ref se, .ref u0, .ref id, .ref ct, .int ra, .int ru, .int wg])), (ct, .inl (cI, 40, .inl lcc))] H → va_D A [(m0, .inr (4, [.ref tr, .ref im, .ref fi, .ref se, .ref u0, .ref id, .ref ct, .int ra, .int ru, .int wg])), (ct, .inl (cI, 40, .inl lcc))] → va_S A s.heap H locs → lv_has ls 5 [(0, .ref m0), (1, .int x), (2, .int nx), (3, .int kx)] → K H locs ls []) 4 ?_ ?_
  · skip
    intro lk ih4 nx kx lcc H locs ls hm4 e1 e2 e4 e6 e8 hP hD hS hl
    refine lv_iload_n hx hb d_Maker_placeContents_4 rfl (lv_at hl 3 rfl) ?_
    refine lv_aload_n hx hb d_Maker_placeContents_5 rfl (lv_at hl 0 rfl) ?_
    refine va_get (D := D) (ci := 4) (v := .ref tr) (C := "DiscMaker$Maker") (T := F_Maker) (N := 10) hx hb ht9 in_Maker hown hK hP 0 rfl rfl 0 (by decide) (ht9 _ k347) (fun _ h9 => h9) rfl d_Maker_placeContents_6 ?_
    have hPR := RO_at hZr hS
    refine va_getN (D := D) (ci := 10) (v := .int cn) (C := "DiscMaker$Tree") (T := F_Tree) (N := 3) hx hb ht9 in_Tree hown hK hPR 0 rfl rfl 1 (by decide) (va_Nw.use rfl (hN _ k241)) (fun _ h9 => h9) rfl d_Maker_placeContents_9 ?_
    refine lv_icmp_ge (tgt := 89) hx hb d_Maker_placeContents_12 (by decide) (fun h_9 => ?_) (fun h_9 => ?_)
    · skip
      have g12_9 : cn.toInt ≤ kx.toInt := (i_le rfl rfl).mp h_9
      refine lv_iload_n hx hb d_Maker_placeContents_89 rfl (lv_at hl 2 rfl) ?_
      have hkm : cm = kx.toNatClampNeg := by (have h5 := i_cl (a := kx) (by omega)); omega
      have hP9 := hP.sub (ws' := [(m0, .inr (4, [.ref tr, .ref im, .ref fi, .ref se, .ref u0, .ref id, .ref ct, .int ra, .int ru, .int wg])), (ct, .inl (cI, 40, .inl lcc))]) [0, 1] rfl
      have hD9 := hD.sub (ws' := [(m0, .inr (4, [.ref tr, .ref im, .ref fi, .ref se, .ref u0, .ref id, .ref ct, .int ra, .int ru, .int wg])), (ct, .inl (cI, 40, .inl lcc))]) [0, 1] (by decide +kernel) rfl
      exact W.iret (v := nx) hx hb hr (fun t ht hW => ⟨⟨nx, lcc, rfl, ⟨(by (try dsimp only); first | assumption | omega | trivial), (by (try dsimp only); rw [hkm]; exact e4), (by (try dsimp only); rw [hkm]; exact e6), (by (try dsimp only); rw [hkm]; exact e8)⟩, by rw [ht]; exact hP9, hD9⟩, hS.F ht⟩) hS.2.2 d_Maker_placeContents_90
    · skip
      have g12_9 : ¬ cn.toInt ≤ kx.toInt := fun h8 => h_9 ((i_le rfl rfl).mpr h8)
      refine lv_aload_n hx hb d_Maker_placeContents_15 rfl (lv_at hl 0 rfl) ?_
      refine lv_iload_n hx hb d_Maker_placeContents_16 rfl (lv_at hl 3 rfl) ?_
      have hPc := hP.sub (ws' := [(m0, .inr (4, [.ref tr, .ref im, .ref fi, .ref se, .ref u0, .ref id, .ref ct, .int ra, .int ru, .int wg]))]) [0] rfl
      have hDc := hD.sub (ws' := [(m0, .inr (4, [.ref tr, .ref im, .ref fi, .ref se, .ref u0, .ref id, .ref ct, .int ra, .int ru, .int wg]))]) [0] (by decide +kernel) rfl
      have hFc := va_free (wc := [(m0, .inr (4, [.ref tr, .ref im, .ref fi, .ref se, .ref u0, .ref id, .ref ct, .int ra, .int ru, .int wg]))]) hD hS hA [0] rfl
      have hkc : 0 ≤ 0 := by decide
      have hks : 0 ≤ 0 := by decide
      refine va_calli (va_runV (C := "DiscMaker$Maker") (As := [.int kx]) (rest := []) ⟨hx, hb, hml, hown, hts⟩ (c3_firstWithContentsF l D cB cI cJ cZ cN cF H.size m0 tr im fi se u0 id ct ra ru wg ta cn dr na ng nn nf cm dt kx (by (try dsimp only); first | assumption | omega | trivial) (by (try dsimp only); first | assumption | omega | trivial) (by (try dsimp only); first | assumption | omega | trivial) (hdt) (by (try dsimp only); first | assumption | omega | trivial)) (cwV 1 hts (lg_goodV k1077 k1079 k24 k120 kc_Maker_firstWithContents) rfl rfl rfl (by decide +kernel) ⟨Nat.le_of_ble_eq_true rfl, Nat.le_of_ble_eq_true rfl⟩) ⟨fun a U g mk q => by obtain ⟨q0, q1, qP, qK, qN, qD, qZ0⟩ := q; exact ⟨q0, q1, qP, va_K.moved (u := U) (U := U.calling g mk a) (Vm.Alike.refl U.vm) qK, qN.calling, qD, RO_blind qZ0⟩, va_recv hK hP (ci := 4) (q0 := 0) rfl rfl, fun U hU hW => ⟨rfl, by rw [hU], by rw [hU]; exact hPc, va_K.moved hW.alike hK, NN.warm hW hN, hDc.weaken (fun _ _ _ _ => trivial), (RO_app (w1 := [(tr, .inr (10, [.ref ta, .int cn, .int dr]))]) (w2 := (([(ta, .inl (cN, 40, .inr (.inr (.inr (.inr (rowF na cm))))))] : va_W) ++ (PL (NC cB na ng nn nf) cm))) (RO_pass (RO_one hZr 0 rfl) hS hFc hU) (RO_app (w1 := [(ta, .inl (cN, 40, .inr (.inr (.inr (.inr (rowF na cm))))))]) (w2 := (PL (NC cB na ng nn nf) cm)) (RO_pass (RO_one hZr 1 rfl) hS hFc hU) (RO_pass (RO_tail (X := [(tr, .inr (10, [.ref ta, .int cn, .int dr])), (ta, .inl (cN, 40, .inr (.inr (.inr (.inr (rowF na cm))))))]) hZr) hS hFc hU)))⟩⟩ rfl rfl hl.1 rfl (lv_room (Nat.le_of_ble_eq_true rfl)) d_Maker_placeContents_17 ⟨hkc, hks⟩) hS (fun q _ h => hFc q h) hFc (fun r1 u t H1 locs ht hvm hp_r1 hB hz1 hk1 hS => ?_)
      obtain ⟨hP1, hD1⟩ := hB
      rw [ht] at hP1
      obtain ⟨hP, hD⟩ := va_join (wr := [(ct, .inl (cI, 40, .inl lcc))]) (w1 := [(m0, .inr (4, [.ref tr, .ref im, .ref fi, .ref se, .ref u0, .ref id, .ref ct, .int ra, .int ru, .int wg]))]) hP hD [0] [1] rfl rfl (by decide +kernel) (by decide +kernel) hk1 hFc hP1 hD1
      clear hPc hDc hFc hP1 hD1 hk1 hz1 hkc hks
      generalize H1 = H at hP hS ⊢
      have hP : va_P D CL [(ct, .inl (cI, 40, .inl lcc)), (m0, .inr (4, [.ref tr, .ref im, .ref fi, .ref se, .ref u0, .ref id, .ref ct, .int ra, .int ru, .int wg]))] H := hP
      have hD : va_D A [(ct, .inl (cI, 40, .inl lcc)), (m0, .inr (4, [.ref tr, .ref im, .ref fi, .ref se, .ref u0, .ref id, .ref ct, .int ra, .int ru, .int wg]))] := hD
      try dsimp only at hp_r1
      obtain ⟨hr_2, hn9_3, hf9_4⟩ := hp_r1
      refine lv_istore hx hb d_Maker_placeContents_20 hl (by decide) rfl (fun ls hl => ?_)
      have hl : lv_has ls 5 [(4, .int r1), (0, .ref m0), (1, .int x), (2, .int nx), (3, .int kx)] := hl
      refine zz_labM (B := fun (lk : Nat) (K : Heap → List Loc → Array Slot → List Value → Prop) => ∀ (cv : Int32) (H : Heap) (locs : List Loc) (ls : Array Slot), lk = 0 → ((¬ (dt 0 kx.toNatClampNeg = 1 ∧ dt 6 kx.toNatClampNeg ≠ 0) ∧ cv.toInt = 0) ∨ FwX dt x.toInt kx.toNatClampNeg cv.toInt) → (¬ (dt 0 kx.toNatClampNeg = 1 ∧ dt 6 kx.toNatClampNeg ≠ 0) → cv.toInt = 0) → va_P D CL [(ct, .inl (cI, 40, .inl lcc)), (m0, .inr (4, [.ref tr, .ref im, .ref fi, .ref se, .ref u0, .ref id, .ref ct, .int ra, .int ru, .int wg]))] H → va_D A [(ct, .inl (cI, 40, .inl lcc)), (m0, .inr (4, [.ref tr, .ref im, .ref fi, .ref se, .ref u0, .ref id, .ref ct, .int ra, .int ru, .int wg]))] → va_S A s.heap H locs → lv_has ls 5 [(0, .ref m0), (1, .int x), (2, .int nx), (3, .int kx), (4, .int r1)] → K H locs ls [.int cv, .int kx, .ref ct]) 54 ?_ ?_
      · skip
        intro lk ih54 cv H locs ls hm54 e7 e9 hP hD hS hl
        refine zq_iast hx hb hK hP hD hS 0 1 rfl rfl (vp_in_iff.mpr ⟨by omega, by omega⟩) d_Maker_placeContents_54 (fun fz5 e_fz5 H locs hP hD hS => ?_)
        have hP : va_P D CL [(ct, .inl (cI, 40, .inl fz5)), (m0, .inr (4, [.ref tr, .ref im, .ref fi, .ref se, .ref u0, .ref id, .ref ct, .int ra, .int ru, .int wg]))] H := hP
        have hD : va_D A [(ct, .inl (cI, 40, .inl fz5)), (m0, .inr (4, [.ref tr, .ref im, .ref fi, .ref se, .ref u0, .ref id, .ref ct, .int ra, .int ru, .int wg]))] := hD
        have s_fz5 : fz5 kx.toNatClampNeg = cv := by rw [e_fz5]; unfold upd; rw [if_pos (by first | rfl | decide)]
        refine zz_labM (B := fun (lk : Nat) (K : Heap → List Loc → Array Slot → List Value → Prop) => ∀ (sv9 : Int32) (H : Heap) (locs : List Loc) (ls : Array Slot), lk = 0 → (0 ≤ sv9.toInt ∧ sv9.toInt ≤ 3) → ((newC dt kx.toNatClampNeg ∧ sv9.toInt = (dt 6 kx.toNatClampNeg + 2047) / 2048) ∨ (¬ newC dt kx.toNatClampNeg ∧ sv9.toInt = 0)) → va_P D CL [(ct, .inl (cI, 40, .inl fz5)), (m0, .inr (4, [.ref tr, .ref im, .ref fi, .ref se, .ref u0, .ref id, .ref ct, .int ra, .int ru, .int wg]))] H → va_D A [(ct, .inl (cI, 40, .inl fz5)), (m0, .inr (4, [.ref tr, .ref im, .ref fi, .ref se, .ref u0, .ref id, .ref ct, .int ra, .int ru, .int wg]))] → va_S A s.heap H locs → lv_has ls 5 [(0, .ref m0), (1, .int x), (2, .int nx), (3, .int kx), (4, .int r1)] → K H locs ls [.int sv9, .int nx]) 81 ?_ ?_
        · skip
          intro lk ih81 sv9 H locs ls hm81 e3 e5 hP hD hS hl
          refine lv_iadd hx hb d_Maker_placeContents_81 ?_
          refine lv_topi (fun v6 e_v6 => ?_)
          have t_v6 : v6.toInt = nx.toInt + sv9.toInt := by rw [e_v6]; exact i_add rfl rfl (by omega) (by omega)
          refine lv_istore_n hx hb d_Maker_placeContents_82 rfl hl (by decide) rfl (fun ls hl => ?_)
          have hl : lv_has ls 5 [(2, .int v6), (0, .ref m0), (1, .int x), (3, .int kx), (4, .int r1)] := hl
          obtain ⟨v7, e_v7⟩ : ∃ z : Int32, z = kx + 1 := ⟨_, rfl⟩
          refine lv_iinc (v := v7) hx hb d_Maker_placeContents_83 hl (k := 3) rfl e_v7.symm (by decide +kernel) rfl (fun ls hl => ?_)
          have t_v7 : v7.toInt = kx.toInt + 1 := by rw [e_v7]; exact i_add rfl (by decide) (by omega) (by omega)
          have hl : lv_has ls 5 [(3, .int v7), (2, .int v6), (0, .ref m0), (1, .int x), (4, .int r1)] := hl
          refine lv_goto (tgt := 4) hx hb d_Maker_placeContents_86 (by decide) ?_
          have hP := hP.sub (ws' := [(m0, .inr (4, [.ref tr, .ref im, .ref fi, .ref se, .ref u0, .ref id, .ref ct, .int ra, .int ru, .int wg])), (ct, .inl (cI, 40, .inl fz5))]) [1, 0] rfl
          have hD := hD.sub (ws' := [(m0, .inr (4, [.ref tr, .ref im, .ref fi, .ref se, .ref u0, .ref id, .ref ct, .int ra, .int ru, .int wg])), (ct, .inl (cI, 40, .inl fz5))]) [1, 0] (by decide +kernel) rfl
          have hl := lv_sub hl [2, 3, 1, 0] rfl
          exact ih4 _ (by first | omega | (dsimp only; omega)) v6 v7 fz5 _ _ _ rfl ((by (try dsimp only); first | assumption | omega | trivial)) ((by (try dsimp only); first | assumption | omega | trivial)) ((by have h7 := i_cl (a := kx) (by omega); have h6 := i_cl (a := v7) (by omega); rw [show v7.toNatClampNeg = kx.toNatClampNeg + 1 by omega]; rcases e5 with ⟨h8, h9⟩ | ⟨h8, h9⟩ <;> first | (rw [ctS_hit h8]; omega) | (rw [ctS_miss h8]; omega))) ((by (have h7 := i_cl (a := kx) (by omega)); (have h6 := i_cl (a := v7) (by omega)); intro k hk h0 h6n; by_cases hc : k = kx.toNatClampNeg <;> first | (subst hc; rw [e_fz5, upd_at]; rcases e7 with h8 | ⟨j, h8, h9, h10⟩ <;> first | exact absurd ⟨h0, h6n⟩ h8.1 | exact ⟨j, h8, h9, h10⟩) | (rw [e_fz5, upd_off hc]; exact e6 k (by omega) h0 h6n))) ((by (have h7 := i_cl (a := kx) (by omega)); (have h6 := i_cl (a := v7) (by omega)); intro k hk hn; by_cases hc : k = kx.toNatClampNeg <;> first | (subst hc; rw [e_fz5, upd_at]; exact e9 hn) | (rw [e_fz5, upd_off hc]; exact e8 k (by omega) hn))) hP hD hS hl
        · skip
          intro kk81
          refine lv_iload_n hx hb d_Maker_placeContents_55 rfl (lv_at hl 2 rfl) ?_
          refine lv_iload hx hb d_Maker_placeContents_56 (lv_at hl 4 rfl) ?_
          refine lv_iload_n hx hb d_Maker_placeContents_58 rfl (lv_at hl 3 rfl) ?_
          refine lv_icmp_ne (tgt := 80) hx hb d_Maker_placeContents_59 (by decide) (fun h_9 => ?_) (fun h_9 => ?_)
          · skip
            have g59_25 : ¬ r1.toInt = kx.toInt := fun h8 => h_9 ((i_eq rfl rfl).mpr h8)
            refine lv_iconst (v := 0) hx hb d_Maker_placeContents_80 (by decide) ?_
            have hP := hP.sub (ws' := [(ct, .inl (cI, 40, .inl fz5)), (m0, .inr (4, [.ref tr, .ref im, .ref fi, .ref se, .ref u0, .ref id, .ref ct, .int ra, .int ru, .int wg]))]) [0, 1] rfl
            have hD := hD.sub (ws' := [(ct, .inl (cI, 40, .inl fz5)), (m0, .inr (4, [.ref tr, .ref im, .ref fi, .ref se, .ref u0, .ref id, .ref ct, .int ra, .int ru, .int wg]))]) [0, 1] (by decide +kernel) rfl
            have hl := lv_sub hl [0, 1, 2, 3, 4] rfl
            exact kk81 _ 0 _ _ _ rfl ((by (try dsimp only); first | assumption | omega | trivial)) ((Or.inr ⟨fun h8 => absurd (hn9_3.mpr h8) (by omega), by omega⟩)) hP hD hS hl
          · skip
            have g59_25 : r1.toInt = kx.toInt := (i_eq rfl rfl).mp h_9
            refine lv_aload_n hx hb d_Maker_placeContents_62 rfl (lv_at hl 0 rfl) ?_
            refine va_get (D := D) (ci := 4) (v := .ref tr) (C := "DiscMaker$Maker") (T := F_Maker) (N := 10) hx hb ht9 in_Maker hown hK hP 1 rfl rfl 0 (by decide) (ht9 _ k347) (fun _ h9 => h9) rfl d_Maker_placeContents_63 ?_
            have hPR := RO_at hZr hS
            refine va_getN (D := D) (ci := 10) (v := .ref ta) (C := "DiscMaker$Tree") (T := F_Tree) (N := 3) hx hb ht9 in_Tree hown hK hPR 0 rfl rfl 0 (by decide) (va_Nw.use rfl (hN _ k237)) (fun _ h9 => h9) rfl d_Maker_placeContents_66 ?_
            refine lv_iload_n hx hb d_Maker_placeContents_69 rfl (lv_at hl 3 rfl) ?_
            have hPR := RO_at hZr hS
            refine va_aldq hx hb hK hPR 1 4 rfl rfl (vp_in_iff.mpr ⟨by omega, by omega⟩) d_Maker_placeContents_70 ?_
            have c_hk8 := i_cl (a := kx) (by omega)
            have hk8 : kx.toNatClampNeg < cm := by omega
            have o_hk8 := htok kx.toNatClampNeg hk8
            obtain ⟨i_hj9, hj9⟩ : ∃ j : Nat, (PL (NC cB na ng nn nf) cm)[j]? = some ((na kx.toNatClampNeg 0), .inr (5, [.int (ng kx.toNatClampNeg 0), .ref (na kx.toNatClampNeg 1), .ref (na kx.toNatClampNeg 2), .ref (na kx.toNatClampNeg 3), .int (ng kx.toNatClampNeg 1), .int (ng kx.toNatClampNeg 2), .int (ng kx.toNatClampNeg 3), .int (ng kx.toNatClampNeg 4), .int (ng kx.toNatClampNeg 5), .int (ng kx.toNatClampNeg 6), .int (ng kx.toNatClampNeg 7), .int (ng kx.toNatClampNeg 8)])) := PL_get (i := 0) hk8 rfl
            obtain ⟨i_hj10, hj10⟩ : ∃ j : Nat, (PL (NC cB na ng nn nf) cm)[j]? = some ((na kx.toNatClampNeg 1), .inl (cB, (nn kx.toNatClampNeg 1), .inl (nf kx.toNatClampNeg 1))) := PL_get (i := 1) hk8 rfl
            obtain ⟨i_hj11, hj11⟩ : ∃ j : Nat, (PL (NC cB na ng nn nf) cm)[j]? = some ((na kx.toNatClampNeg 2), .inl (cB, 11, .inl (nf kx.toNatClampNeg 2))) := PL_get (i := 2) hk8 rfl
            obtain ⟨i_hj12, hj12⟩ : ∃ j : Nat, (PL (NC cB na ng nn nf) cm)[j]? = some ((na kx.toNatClampNeg 3), .inl (cB, (nn kx.toNatClampNeg 3), .inl (nf kx.toNatClampNeg 3))) := PL_get (i := 3) hk8 rfl
            refine W.eq (g2 := F0 m 71 ls [.ref (na kx.toNatClampNeg 0), .int nx]) (by rw [show rowF na cm kx.toNatClampNeg = some (na kx.toNatClampNeg 0) from rowF_some hk8]; rfl) ?_
            have hPR := RO_at hZr hS
            refine va_getN (D := D) (ci := 5) (v := .int (ng kx.toNatClampNeg 7)) (C := "DiscMaker$Node") (T := F_Node) (N := 12) hx hb ht9 in_Node hown hK hPR _ (pix (X := [(tr, .inr (10, [.ref ta, .int cn, .int dr])), (ta, .inl (cN, 40, .inr (.inr (.inr (.inr (rowF na cm))))))]) hj9) rfl 10 (by decide) (va_Nw.use rfl (hN _ k207)) (fun _ h9 => h9) rfl d_Maker_placeContents_71 ?_
            have hPc := hP.sub (ws' := []) [] rfl
            have hDc := hD.sub (ws' := []) [] (by decide +kernel) rfl
            have hFc := va_free (wc := []) hD hS hA [] rfl
            have hkc : 0 ≤ 0 := by decide
            have hks : 0 ≤ 0 := by decide
            refine va_calli (va_runSN (As := [.int (ng kx.toNatClampNeg 7)]) (rest := [.int nx]) ⟨hx, hb, hml, hown, hts⟩ (c3_sectorsFor l D cB cI cJ cZ cN cF H.size (ng kx.toNatClampNeg 7) (by (try dsimp only); first | assumption | omega | trivial)) ⟨va_cnB 1 hts (lg_good kc_DiscMaker_sectorsFor) rfl rfl rfl (hN _ k1045) (ht9 _ k115) (by decide +kernel) ⟨Nat.le_of_ble_eq_true rfl, Nat.le_of_ble_eq_true rfl⟩, ht9 _ k1046, trivial⟩ ⟨fun a U g mk q => by obtain ⟨q0, q1, qP, qK, qN, qD⟩ := q; exact ⟨q0, q1, qP, va_K.moved (u := U) (U := U.calling g mk a) (Vm.Alike.refl U.vm) qK, qN.calling, qD⟩, fun U hU hW => ⟨rfl, by rw [hU], by rw [hU]; exact hPc, va_K.moved hW.alike hK, NN.warm hW hN, hDc.weaken (fun _ _ _ _ => trivial)⟩⟩ rfl rfl hl.1 rfl (lv_room (Nat.le_of_ble_eq_true rfl)) d_Maker_placeContents_74 ⟨hkc, hks⟩) hS (fun q _ h => hFc q h) hFc (fun r13 u t H1 locs ht hvm hp_r13 hB hz1 hk1 hS => ?_)
            obtain ⟨hP1, hD1⟩ := hB
            rw [ht] at hP1
            obtain ⟨hP, hD⟩ := va_join (wr := [(ct, .inl (cI, 40, .inl fz5)), (m0, .inr (4, [.ref tr, .ref im, .ref fi, .ref se, .ref u0, .ref id, .ref ct, .int ra, .int ru, .int wg]))]) (w1 := []) hP hD [] [0, 1] rfl rfl (by decide +kernel) (by decide +kernel) hk1 hFc hP1 hD1
            clear hPc hDc hFc hP1 hD1 hk1 hz1 hkc hks
            generalize H1 = H at hP hS ⊢
            have hP : va_P D CL [(ct, .inl (cI, 40, .inl fz5)), (m0, .inr (4, [.ref tr, .ref im, .ref fi, .ref se, .ref u0, .ref id, .ref ct, .int ra, .int ru, .int wg]))] H := hP
            have hD : va_D A [(ct, .inl (cI, 40, .inl fz5)), (m0, .inr (4, [.ref tr, .ref im, .ref fi, .ref se, .ref u0, .ref id, .ref ct, .int ra, .int ru, .int wg]))] := hD
            try dsimp only at hp_r13
            have hv_14 := hp_r13
            refine lv_goto (tgt := 81) hx hb d_Maker_placeContents_77 (by decide) ?_
            have hP := hP.sub (ws' := [(ct, .inl (cI, 40, .inl fz5)), (m0, .inr (4, [.ref tr, .ref im, .ref fi, .ref se, .ref u0, .ref id, .ref ct, .int ra, .int ru, .int wg]))]) [0, 1] rfl
            have hD := hD.sub (ws' := [(ct, .inl (cI, 40, .inl fz5)), (m0, .inr (4, [.ref tr, .ref im, .ref fi, .ref se, .ref u0, .ref id, .ref ct, .int ra, .int ru, .int wg]))]) [0, 1] (by decide +kernel) rfl
            have hl := lv_sub hl [0, 1, 2, 3, 4] rfl
            exact kk81 _ r13 _ _ _ rfl ((by (try dsimp only); first | assumption | omega | trivial)) ((Or.inl ⟨hn9_3.mp (by omega), by have h7 := i_cl (a := kx) (by omega); have h6 := (hdt kx.toNatClampNeg (by omega)).1; omega⟩)) hP hD hS hl
      · skip
        intro kk54
        refine lv_aload_n hx hb d_Maker_placeContents_22 rfl (lv_at hl 1 rfl) ?_
        refine va_get (D := D) (ci := 4) (v := .ref ct) (C := "DiscMaker$Maker") (T := F_Maker) (N := 10) hx hb ht9 in_Maker hown hK hP 1 rfl rfl 6 (by decide) (ht9 _ k353) (fun _ h9 => h9) rfl d_Maker_placeContents_23 ?_
        refine lv_iload_n hx hb d_Maker_placeContents_26 rfl (lv_at hl 4 rfl) ?_
        refine lv_iload hx hb d_Maker_placeContents_27 (lv_at hl 0 rfl) ?_
        refine lv_iload_n hx hb d_Maker_placeContents_29 rfl (lv_at hl 4 rfl) ?_
        refine lv_icmp_ne (tgt := 37) hx hb d_Maker_placeContents_30 (by decide) (fun h_9 => ?_) (fun h_9 => ?_)
        · skip
          have g30_42 : ¬ r1.toInt = kx.toInt := fun h8 => h_9 ((i_eq rfl rfl).mpr h8)
          refine lv_iload hx hb d_Maker_placeContents_37 (lv_at hl 0 rfl) ?_
          refine lv_iconst (v := (-1)) hx hb d_Maker_placeContents_39 (by decide) ?_
          refine lv_icmp_ne (tgt := 47) hx hb d_Maker_placeContents_40 (by decide) (fun h_9 => ?_) (fun h_9 => ?_)
          · skip
            have g40_45 : ¬ r1.toInt = (-1) := fun h8 => h_9 ((i_eq rfl (by decide)).mpr h8)
            refine lv_aload_n hx hb d_Maker_placeContents_47 rfl (lv_at hl 1 rfl) ?_
            refine va_get (D := D) (ci := 4) (v := .ref ct) (C := "DiscMaker$Maker") (T := F_Maker) (N := 10) hx hb ht9 in_Maker hown hK hP 1 rfl rfl 6 (by decide) (ht9 _ k353) (fun _ h9 => h9) rfl d_Maker_placeContents_48 ?_
            refine lv_iload hx hb d_Maker_placeContents_51 (lv_at hl 0 rfl) ?_
            refine va_iald hx hb hK hP 0 1 rfl rfl (vp_in_iff.mpr ⟨by omega, by omega⟩) d_Maker_placeContents_53 ?_
            refine lv_topi (fun v15 e_v15 => ?_)
            have hP := hP.sub (ws' := [(ct, .inl (cI, 40, .inl lcc)), (m0, .inr (4, [.ref tr, .ref im, .ref fi, .ref se, .ref u0, .ref id, .ref ct, .int ra, .int ru, .int wg]))]) [0, 1] rfl
            have hD := hD.sub (ws' := [(ct, .inl (cI, 40, .inl lcc)), (m0, .inr (4, [.ref tr, .ref im, .ref fi, .ref se, .ref u0, .ref id, .ref ct, .int ra, .int ru, .int wg]))]) [0, 1] (by decide +kernel) rfl
            have hl := lv_sub hl [1, 2, 3, 4, 0] rfl
            exact kk54 _ v15 _ _ _ rfl ((by (have h7 := i_cl (a := kx) (by omega)); (have hf := hf9_4); (have h6 := i_cl (a := r1) (by omega)); rcases hf with h8 | h8 <;> first | (exfalso; omega) | (exact Or.inr ⟨r1.toNatClampNeg, by omega, h8.2.2.2, by (have hn := FwP_first h8.2.2.2 h8.2.2.1); obtain ⟨j, g1, g2, g3⟩ := e6 r1.toNatClampNeg (by omega) hn.1 hn.2.1; rw [e_v15, g3, FwP_uniq g2 ((FwP_new hn.1 hn.2.1).mpr hn)]⟩))) ((fun hn => by (have hf := hf9_4); exfalso; rcases hf with h8 | h8 <;> first | omega | exact hn ⟨h8.2.1, h8.2.2.1⟩)) hP hD hS hl
          · skip
            have g40_45 : r1.toInt = (-1) := (i_eq rfl (by decide)).mp h_9
            refine lv_iconst (v := 0) hx hb d_Maker_placeContents_43 (by decide) ?_
            refine lv_goto (tgt := 54) hx hb d_Maker_placeContents_44 (by decide) ?_
            have hP := hP.sub (ws' := [(ct, .inl (cI, 40, .inl lcc)), (m0, .inr (4, [.ref tr, .ref im, .ref fi, .ref se, .ref u0, .ref id, .ref ct, .int ra, .int ru, .int wg]))]) [0, 1] rfl
            have hD := hD.sub (ws' := [(ct, .inl (cI, 40, .inl lcc)), (m0, .inr (4, [.ref tr, .ref im, .ref fi, .ref se, .ref u0, .ref id, .ref ct, .int ra, .int ru, .int wg]))]) [0, 1] (by decide +kernel) rfl
            have hl := lv_sub hl [1, 2, 3, 4, 0] rfl
            exact kk54 _ 0 _ _ _ rfl ((Or.inl ⟨by (have hf := hf9_4); rcases hf with h8 | h8 <;> first | exact h8.2 | (exfalso; omega), by decide⟩)) ((fun _ => by decide)) hP hD hS hl
        · skip
          have g30_42 : r1.toInt = kx.toInt := (i_eq rfl rfl).mp h_9
          refine lv_iload_n hx hb d_Maker_placeContents_33 rfl (lv_at hl 3 rfl) ?_
          refine lv_goto (tgt := 54) hx hb d_Maker_placeContents_34 (by decide) ?_
          have hP := hP.sub (ws' := [(ct, .inl (cI, 40, .inl lcc)), (m0, .inr (4, [.ref tr, .ref im, .ref fi, .ref se, .ref u0, .ref id, .ref ct, .int ra, .int ru, .int wg]))]) [0, 1] rfl
          have hD := hD.sub (ws' := [(ct, .inl (cI, 40, .inl lcc)), (m0, .inr (4, [.ref tr, .ref im, .ref fi, .ref se, .ref u0, .ref id, .ref ct, .int ra, .int ru, .int wg]))]) [0, 1] (by decide +kernel) rfl
          have hl := lv_sub hl [1, 2, 3, 4, 0] rfl
          exact kk54 _ nx _ _ _ rfl ((by (have h7 := i_cl (a := kx) (by omega)); (have hf := hf9_4); exact Or.inr ⟨kx.toNatClampNeg, by omega, by rcases hf with h8 | h8 <;> first | (exfalso; omega) | (have h9 := h8.2.2.2; rw [show r1.toNatClampNeg = kx.toNatClampNeg by (have h6 := i_cl (a := r1) (by omega); omega)] at h9; exact h9), e4⟩)) ((fun hn => by (have hf := hf9_4); exfalso; rcases hf with h8 | h8 <;> first | omega | exact hn ⟨h8.2.1, h8.2.2.1⟩)) hP hD hS hl
  · skip
    intro kk4
    have hP := hP.sub (ws' := [(m0, .inr (4, [.ref tr, .ref im, .ref fi, .ref se, .ref u0, .ref id, .ref ct, .int ra, .int ru, .int wg])), (ct, .inl (cI, 40, .inl cc))]) [0, 1] rfl
    have hD := hD.sub (ws' := [(m0, .inr (4, [.ref tr, .ref im, .ref fi, .ref se, .ref u0, .ref id, .ref ct, .int ra, .int ru, .int wg])), (ct, .inl (cI, 40, .inl cc))]) [0, 1] (by decide +kernel) rfl
    have hl := lv_sub hl [2, 3, 1, 0] rfl
    exact kk4 _ x 0 cc _ _ _ rfl ((by (try dsimp only); first | assumption | omega | trivial)) ((by (try dsimp only); first | assumption | omega | trivial)) ((by rw [show (0 : Int32).toNatClampNeg = 0 by decide]; simp only [ctS]; omega)) ((fun k hk => absurd hk (by rw [show (0 : Int32).toNatClampNeg = 0 by decide]; omega))) ((fun k hk => absurd hk (by rw [show (0 : Int32).toNatClampNeg = 0 by decide]; omega))) hP hD hS hl

set_option maxHeartbeats 4000000 in
set_option maxRecDepth 100000 in
theorem c3_writeBytesF (l : Launch) (D : va_G) (cB cI cJ cZ cN cF : ClassId) (sz : Nat) (m0 : Nat) (tr : Nat) (im : Nat) (fi : Nat) (se : Nat) (u0 : Nat) (id : Nat) (ct : Nat) (ra : Int32) (ru : Int32) (wg : Int32) (iq : Nat) (n : Nat) (L : Int32) (f : Nat → Int32) (h0 : Nat) (kna : Nat) (kke : Nat) (kta : Nat) (so : Int32) (nu : Int32) (pa : Int32) (ab : Int32) (mo : Int32) (ow : Int32) (gr : Int32) (si : Int32) (sd : Int32) (x : Int32) (hL : 0 ≤ L.toInt ∧ L.toInt ≤ n) (hn : n ≤ 3000000) (hsi : 0 ≤ si.toInt ∧ si.toInt ≤ 4100) (hin : 0 ≤ x.toInt ∧ x.toInt + si.toInt ≤ L.toInt) : Met l y_Maker_writeBytes w_Maker_writeBytes ({ frames := 1, cells := 0, slots := 0, locals := 28 }) (va_Pc [.ref m0, .ref h0, .int x] (fun U => U.heap.size = sz ∧ va_P D CL [(m0, .inr (4, [.ref tr, .ref im, .ref fi, .ref se, .ref u0, .ref id, .ref ct, .int ra, .int ru, .int wg])), (im, .inr (1, [.ref iq, .int L])), (iq, .inl (cB, n, .inl f))] U.heap ∧ va_K D CL (TY cB cI cJ cZ cN cF) U ∧ NN U ∧ va_D (fun _ => True) [(m0, .inr (4, [.ref tr, .ref im, .ref fi, .ref se, .ref u0, .ref id, .ref ct, .int ra, .int ru, .int wg])), (im, .inr (1, [.ref iq, .int L])), (iq, .inl (cB, n, .inl f))] ∧ RO D [(h0, .inr (5, [.int so, .ref kna, .ref kke, .ref kta, .int nu, .int pa, .int ab, .int mo, .int ow, .int gr, .int si, .int sd]))] (va_A [(m0, .inr (4, [.ref tr, .ref im, .ref fi, .ref se, .ref u0, .ref id, .ref ct, .int ra, .int ru, .int wg])), (im, .inr (1, [.ref iq, .int L])), (iq, .inl (cB, n, .inl f))] sz) U U.heap)) (va_Qv (fun (u : (Nat → Int32)) => match u with | g => (BL (imC f) (imC g) x.toInt (cbL sd si.toInt.toNat))) (fun (u : (Nat → Int32)) (t : State) => match u with | g => va_P D CL [(m0, .inr (4, [.ref tr, .ref im, .ref fi, .ref se, .ref u0, .ref id, .ref ct, .int ra, .int ru, .int wg])), (im, .inr (1, [.ref iq, .int L])), (iq, .inl (cB, n, .inl g))] t.heap ∧ va_D (va_A [(m0, .inr (4, [.ref tr, .ref im, .ref fi, .ref se, .ref u0, .ref id, .ref ct, .int ra, .int ru, .int wg])), (im, .inr (1, [.ref iq, .int L])), (iq, .inl (cB, n, .inl f))] sz) [(m0, .inr (4, [.ref tr, .ref im, .ref fi, .ref se, .ref u0, .ref id, .ref ct, .int ra, .int ru, .int wg])), (im, .inr (1, [.ref iq, .int L])), (iq, .inl (cB, n, .inl g))]) (va_A [(m0, .inr (4, [.ref tr, .ref im, .ref fi, .ref se, .ref u0, .ref id, .ref ct, .int ra, .int ru, .int wg])), (im, .inr (1, [.ref iq, .int L])), (iq, .inl (cB, n, .inl f))] sz)) 0 0 (va_A [(m0, .inr (4, [.ref tr, .ref im, .ref fi, .ref se, .ref u0, .ref id, .ref ct, .int ra, .int ru, .int wg])), (im, .inr (1, [.ref iq, .int L])), (iq, .inl (cB, n, .inl f))] sz) := by
  refine Met.ofW (cc := b_Maker_writeBytes) (maxL := 4) (ret := none) (by decide +kernel) rfl ?_
  intro p e s m args below meth c s₁ B hml hv
  obtain ⟨rfl, hsz, hP, hK, hN, hD0, hZr⟩ := hv
  have hx := B.exec
  have hb := B.bytes
  have hr := B.returns
  have hts := atoms_spec (ws := w_Maker_writeBytes) B.pre
  have ht9 := fun (w : Cond) (h : w ∈ lw_g) => hts w (List.mem_cons_of_mem _ h)
  have hown : s.vm.findClass "DiscMaker$Maker" = some m.cls := findClass_of_methodNamed B.named
  have hlocks := B.notSynchronized
  subst hsz
  have hD := hD0.self (sz := s.heap.size)
  generalize hAe : va_A [(m0, .inr (4, [.ref tr, .ref im, .ref fi, .ref se, .ref u0, .ref id, .ref ct, .int ra, .int ru, .int wg])), (im, .inr (1, [.ref iq, .int L])), (iq, .inl (cB, n, .inl f))] s.heap.size = A at hD hZr ⊢
  have hA : ∀ q : Nat, s.heap.size ≤ q → A q := fun q h => by rw [← hAe]; exact Or.inr h
  have hS : va_S A s.heap s.heap [] := va_S.rf
  have hP : va_P D CL [(m0, .inr (4, [.ref tr, .ref im, .ref fi, .ref se, .ref u0, .ref id, .ref ct, .int ra, .int ru, .int wg])), (im, .inr (1, [.ref iq, .int L])), (iq, .inl (cB, n, .inl f))] s.heap := hP
  have hl := lv_entry [.ref m0, .ref h0, .int x] (n := 4) (Nat.le_of_ble_eq_true rfl)
  rw [lg_entry_eq]
  generalize (lg_sl [.ref m0, .ref h0, .int x] ++ List.replicate (4 - (lg_sl [.ref m0, .ref h0, .int x]).length) Slot.unset).toArray = ls at hl ⊢
  have hl : lv_has ls 4 [(0, .ref m0), (1, .ref h0), (2, .int x)] := hl
  have L_m1 : ((-1) : Int32).toInt = (-1) := by decide
  have L_0 : (0 : Int32).toInt = 0 := by decide
  have L_1 : (1 : Int32).toInt = 1 := by decide
  have L_256 : (256 : Int32).toInt = 256 := by decide
  refine lv_iconst (v := 0) hx hb d_Maker_writeBytes_0 (by decide) ?_
  refine lv_istore_n hx hb d_Maker_writeBytes_1 rfl hl (by decide) rfl (fun ls hl => ?_)
  have hl : lv_has ls 4 [(3, .int 0), (0, .ref m0), (1, .ref h0), (2, .int x)] := hl
  refine zz_labM (B := fun (lk : Nat) (K : Heap → List Loc → Array Slot → List Value → Prop) => ∀ (kx : Int32) (lf : Nat → Int32) (H : Heap) (locs : List Loc) (ls : Array Slot), lk = (si.toInt - kx.toInt).toNat → (0 ≤ kx.toInt ∧ kx.toInt ≤ si.toInt) → (BL (imC f) (imC lf) x.toInt (tbL (cbyF sd) kx.toInt.toNat)) → va_P D CL [(m0, .inr (4, [.ref tr, .ref im, .ref fi, .ref se, .ref u0, .ref id, .ref ct, .int ra, .int ru, .int wg])), (im, .inr (1, [.ref iq, .int L])), (iq, .inl (cB, n, .inl lf))] H → va_D A [(m0, .inr (4, [.ref tr, .ref im, .ref fi, .ref se, .ref u0, .ref id, .ref ct, .int ra, .int ru, .int wg])), (im, .inr (1, [.ref iq, .int L])), (iq, .inl (cB, n, .inl lf))] → va_S A s.heap H locs → lv_has ls 4 [(0, .ref m0), (1, .ref h0), (2, .int x), (3, .int kx)] → K H locs ls []) 2 ?_ ?_
  · skip
    intro lk ih2 kx lf H locs ls hm2 e1 e3 hP hD hS hl
    refine lv_iload_n hx hb d_Maker_writeBytes_2 rfl (lv_at hl 3 rfl) ?_
    refine lv_aload_n hx hb d_Maker_writeBytes_3 rfl (lv_at hl 1 rfl) ?_
    have hPR := RO_at hZr hS
    refine va_getN (D := D) (ci := 5) (v := .int si) (C := "DiscMaker$Node") (T := F_Node) (N := 12) hx hb ht9 in_Node hown hK hPR 0 rfl rfl 10 (by decide) (va_Nw.use rfl (hN _ k207)) (fun _ h9 => h9) rfl d_Maker_writeBytes_4 ?_
    refine lv_icmp_ge (tgt := 40) hx hb d_Maker_writeBytes_7 (by decide) (fun h_9 => ?_) (fun h_9 => ?_)
    · skip
      have g7_6 : si.toInt ≤ kx.toInt := (i_le rfl rfl).mp h_9
      have hP9 := hP.sub (ws' := [(m0, .inr (4, [.ref tr, .ref im, .ref fi, .ref se, .ref u0, .ref id, .ref ct, .int ra, .int ru, .int wg])), (im, .inr (1, [.ref iq, .int L])), (iq, .inl (cB, n, .inl lf))]) [0, 1, 2] rfl
      have hD9 := hD.sub (ws' := [(m0, .inr (4, [.ref tr, .ref im, .ref fi, .ref se, .ref u0, .ref id, .ref ct, .int ra, .int ru, .int wg])), (im, .inr (1, [.ref iq, .int L])), (iq, .inl (cB, n, .inl lf))]) [0, 1, 2] (by decide +kernel) rfl
      exact W.vret hx hb hr (fun t ht hW => ⟨⟨lf, rfl, (by (try dsimp only); unfold cbL; (have h7 := e3); rw [show kx.toInt = si.toInt by omega] at h7; exact h7), by rw [ht]; exact hP9, hD9⟩, hS.F ht⟩) hS.2.2 d_Maker_writeBytes_40
    · skip
      have g7_6 : ¬ si.toInt ≤ kx.toInt := fun h8 => h_9 ((i_le rfl rfl).mpr h8)
      refine lv_aload_n hx hb d_Maker_writeBytes_10 rfl (lv_at hl 0 rfl) ?_
      refine va_get (D := D) (ci := 4) (v := .ref im) (C := "DiscMaker$Maker") (T := F_Maker) (N := 10) hx hb ht9 in_Maker hown hK hP 0 rfl rfl 1 (by decide) (ht9 _ k348) (fun _ h9 => h9) rfl d_Maker_writeBytes_11 ?_
      refine lv_iload_n hx hb d_Maker_writeBytes_14 rfl (lv_at hl 2 rfl) ?_
      refine lv_iload_n hx hb d_Maker_writeBytes_15 rfl (lv_at hl 3 rfl) ?_
      refine lv_iadd hx hb d_Maker_writeBytes_16 ?_
      refine lv_topi (fun v1 e_v1 => ?_)
      have t_v1 : v1.toInt = x.toInt + kx.toInt := by rw [e_v1]; exact i_add rfl rfl (by omega) (by omega)
      refine lv_aload_n hx hb d_Maker_writeBytes_17 rfl (lv_at hl 1 rfl) ?_
      have hPR := RO_at hZr hS
      refine va_getN (D := D) (ci := 5) (v := .int sd) (C := "DiscMaker$Node") (T := F_Node) (N := 12) hx hb ht9 in_Node hown hK hPR 0 rfl rfl 11 (by decide) (va_Nw.use rfl (hN _ k209)) (fun _ h9 => h9) rfl d_Maker_writeBytes_18 ?_
      refine lv_iload_n hx hb d_Maker_writeBytes_21 rfl (lv_at hl 3 rfl) ?_
      refine lv_iload_n hx hb d_Maker_writeBytes_22 rfl (lv_at hl 3 rfl) ?_
      refine lv_imul hx hb d_Maker_writeBytes_23 ?_
      refine lv_topi (fun v2 e_v2 => ?_)
      refine lv_iadd hx hb d_Maker_writeBytes_24 ?_
      refine lv_topi (fun v3 e_v3 => ?_)
      refine lv_iload_n hx hb d_Maker_writeBytes_25 rfl (lv_at hl 3 rfl) ?_
      refine lv_sipush (v := 256) hx hb d_Maker_writeBytes_26 (by decide) ?_
      refine lv_idiv hx hb d_Maker_writeBytes_29 (by decide) ?_
      refine lv_topi (fun v4 e_v4 => ?_)
      refine lv_iadd hx hb d_Maker_writeBytes_30 ?_
      refine lv_topi (fun v5 e_v5 => ?_)
      have hPc := hP.sub (ws' := [(im, .inr (1, [.ref iq, .int L])), (iq, .inl (cB, n, .inl lf))]) [1, 2] rfl
      have hDc := hD.sub (ws' := [(im, .inr (1, [.ref iq, .int L])), (iq, .inl (cB, n, .inl lf))]) [1, 2] (by decide +kernel) rfl
      have hFc := va_free (wc := [(im, .inr (1, [.ref iq, .int L])), (iq, .inl (cB, n, .inl lf))]) hD hS hA [1, 2] rfl
      have hkc : 0 ≤ 0 := by decide
      have hks : 0 ≤ 0 := by decide
      refine va_callv (va_runV (C := "DiscMaker$Bytes") (As := [.int v1, .int v5]) (rest := []) ⟨hx, hb, hml, hown, hts⟩ (c3_putF l D cB cI cJ cZ cN cF H.size im iq n L lf v1 v5 (by (try dsimp only); first | assumption | omega | trivial) (by (try dsimp only); first | assumption | omega | trivial) (by (try dsimp only); first | assumption | omega | trivial)) (cwV 2 hts (lg_goodV k978 k912 k913 k119 kc_Bytes_put) rfl rfl rfl (by decide +kernel) ⟨Nat.le_of_ble_eq_true rfl, Nat.le_of_ble_eq_true rfl⟩) ⟨fun a U g mk q => by obtain ⟨q0, q1, qP, qK, qN, qD⟩ := q; exact ⟨q0, q1, qP, va_K.moved (u := U) (U := U.calling g mk a) (Vm.Alike.refl U.vm) qK, qN.calling, qD⟩, va_recv hK hP (ci := 1) (q0 := 1) rfl rfl, fun U hU hW => ⟨rfl, by rw [hU], by rw [hU]; exact hPc, va_K.moved hW.alike hK, NN.warm hW hN, hDc.weaken (fun _ _ _ _ => trivial)⟩⟩ rfl rfl hl.1 rfl (lv_room (Nat.le_of_ble_eq_true rfl)) d_Maker_writeBytes_31 ⟨hkc, hks⟩) hS (fun q _ h => hFc q h) hFc (fun u t H1 locs ht hvm hp_r6 hB hz1 hk1 hS => ?_)
      obtain ⟨g_7, rfl⟩ : ∃ z, z = u := ⟨_, rfl⟩
      obtain ⟨hP1, hD1⟩ := hB
      rw [ht] at hP1
      obtain ⟨hP, hD⟩ := va_join (wr := [(m0, .inr (4, [.ref tr, .ref im, .ref fi, .ref se, .ref u0, .ref id, .ref ct, .int ra, .int ru, .int wg]))]) (w1 := [(im, .inr (1, [.ref iq, .int L])), (iq, .inl (cB, n, .inl g_7))]) hP hD [1, 2] [0] rfl rfl (by decide +kernel) (by decide +kernel) hk1 hFc hP1 hD1
      clear hPc hDc hFc hP1 hD1 hk1 hz1 hkc hks
      generalize H1 = H at hP hS ⊢
      have hP : va_P D CL [(m0, .inr (4, [.ref tr, .ref im, .ref fi, .ref se, .ref u0, .ref id, .ref ct, .int ra, .int ru, .int wg])), (im, .inr (1, [.ref iq, .int L])), (iq, .inl (cB, n, .inl g_7))] H := hP
      have hD : va_D A [(m0, .inr (4, [.ref tr, .ref im, .ref fi, .ref se, .ref u0, .ref id, .ref ct, .int ra, .int ru, .int wg])), (im, .inr (1, [.ref iq, .int L])), (iq, .inl (cB, n, .inl g_7))] := hD
      try dsimp only at hp_r6
      have hw_8 := hp_r6
      obtain ⟨v9, e_v9⟩ : ∃ z : Int32, z = kx + 1 := ⟨_, rfl⟩
      refine lv_iinc (v := v9) hx hb d_Maker_writeBytes_34 hl (k := 3) rfl e_v9.symm (by decide +kernel) rfl (fun ls hl => ?_)
      have t_v9 : v9.toInt = kx.toInt + 1 := by rw [e_v9]; exact i_add rfl (by decide) (by omega) (by omega)
      have hl : lv_has ls 4 [(3, .int v9), (0, .ref m0), (1, .ref h0), (2, .int x)] := hl
      refine lv_goto (tgt := 2) hx hb d_Maker_writeBytes_37 (by decide) ?_
      have hP := hP.sub (ws' := [(m0, .inr (4, [.ref tr, .ref im, .ref fi, .ref se, .ref u0, .ref id, .ref ct, .int ra, .int ru, .int wg])), (im, .inr (1, [.ref iq, .int L])), (iq, .inl (cB, n, .inl g_7))]) [0, 1, 2] rfl
      have hD := hD.sub (ws' := [(m0, .inr (4, [.ref tr, .ref im, .ref fi, .ref se, .ref u0, .ref id, .ref ct, .int ra, .int ru, .int wg])), (im, .inr (1, [.ref iq, .int L])), (iq, .inl (cB, n, .inl g_7))]) [0, 1, 2] (by decide +kernel) rfl
      have hl := lv_sub hl [1, 2, 3, 0] rfl
      exact ih2 _ (by first | omega | (dsimp only; omega)) v9 g_7 _ _ _ rfl ((by (try dsimp only); first | assumption | omega | trivial)) ((BL.step e3 hw_8 (by omega) (by omega) (show v9.toInt = kx.toInt + 1 by omega) (by unfold cbyF; rw [i_ofn (by omega), e_v5, e_v3, e_v2, e_v4]))) hP hD hS hl
  · skip
    intro kk2
    have hP := hP.sub (ws' := [(m0, .inr (4, [.ref tr, .ref im, .ref fi, .ref se, .ref u0, .ref id, .ref ct, .int ra, .int ru, .int wg])), (im, .inr (1, [.ref iq, .int L])), (iq, .inl (cB, n, .inl f))]) [0, 1, 2] rfl
    have hD := hD.sub (ws' := [(m0, .inr (4, [.ref tr, .ref im, .ref fi, .ref se, .ref u0, .ref id, .ref ct, .int ra, .int ru, .int wg])), (im, .inr (1, [.ref iq, .int L])), (iq, .inl (cB, n, .inl f))]) [0, 1, 2] (by decide +kernel) rfl
    have hl := lv_sub hl [1, 2, 3, 0] rfl
    exact kk2 _ 0 f _ _ _ rfl ((by (try dsimp only); first | assumption | omega | trivial)) ((BL_tb0 (by decide))) hP hD hS hl
