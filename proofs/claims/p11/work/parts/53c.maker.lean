theorem d_Maker_placeContents_0 : decode b_Maker_placeContents 0 = .ok (.iload_n 1, 1) := by decide +kernel
theorem d_Maker_placeContents_1 : decode b_Maker_placeContents 1 = .ok (.istore_n 2, 1) := by decide +kernel
theorem d_Maker_placeContents_2 : decode b_Maker_placeContents 2 = .ok (.iconst 0, 1) := by decide +kernel
theorem d_Maker_placeContents_3 : decode b_Maker_placeContents 3 = .ok (.istore_n 3, 1) := by decide +kernel
theorem d_Maker_placeContents_4 : decode b_Maker_placeContents 4 = .ok (.iload_n 3, 1) := by decide +kernel
theorem d_Maker_placeContents_5 : decode b_Maker_placeContents 5 = .ok (.aload_n 0, 1) := by decide +kernel
theorem d_Maker_placeContents_6 : decode b_Maker_placeContents 6 = .ok (.getfield 43, 3) := by decide +kernel
theorem d_Maker_placeContents_9 : decode b_Maker_placeContents 9 = .ok (.getfield 143, 3) := by decide +kernel
theorem d_Maker_placeContents_12 : decode b_Maker_placeContents 12 = .ok (.if_icmp .ge 77, 3) := by decide +kernel
theorem d_Maker_placeContents_15 : decode b_Maker_placeContents 15 = .ok (.aload_n 0, 1) := by decide +kernel
theorem d_Maker_placeContents_16 : decode b_Maker_placeContents 16 = .ok (.iload_n 3, 1) := by decide +kernel
theorem d_Maker_placeContents_17 : decode b_Maker_placeContents 17 = .ok (.invokevirtual 144, 3) := by decide +kernel
theorem d_Maker_placeContents_20 : decode b_Maker_placeContents 20 = .ok (.istore 4, 2) := by decide +kernel
theorem d_Maker_placeContents_22 : decode b_Maker_placeContents 22 = .ok (.aload_n 0, 1) := by decide +kernel
theorem d_Maker_placeContents_23 : decode b_Maker_placeContents 23 = .ok (.getfield 39, 3) := by decide +kernel
theorem d_Maker_placeContents_26 : decode b_Maker_placeContents 26 = .ok (.iload_n 3, 1) := by decide +kernel
theorem d_Maker_placeContents_27 : decode b_Maker_placeContents 27 = .ok (.iload 4, 2) := by decide +kernel
theorem d_Maker_placeContents_29 : decode b_Maker_placeContents 29 = .ok (.iload_n 3, 1) := by decide +kernel
theorem d_Maker_placeContents_30 : decode b_Maker_placeContents 30 = .ok (.if_icmp .ne 7, 3) := by decide +kernel
theorem d_Maker_placeContents_33 : decode b_Maker_placeContents 33 = .ok (.iload_n 2, 1) := by decide +kernel
theorem d_Maker_placeContents_34 : decode b_Maker_placeContents 34 = .ok (.goto 20, 3) := by decide +kernel
theorem d_Maker_placeContents_37 : decode b_Maker_placeContents 37 = .ok (.iload 4, 2) := by decide +kernel
theorem d_Maker_placeContents_39 : decode b_Maker_placeContents 39 = .ok (.iconst (-1), 1) := by decide +kernel
theorem d_Maker_placeContents_40 : decode b_Maker_placeContents 40 = .ok (.if_icmp .ne 7, 3) := by decide +kernel
theorem d_Maker_placeContents_43 : decode b_Maker_placeContents 43 = .ok (.iconst 0, 1) := by decide +kernel
theorem d_Maker_placeContents_44 : decode b_Maker_placeContents 44 = .ok (.goto 10, 3) := by decide +kernel
theorem d_Maker_placeContents_47 : decode b_Maker_placeContents 47 = .ok (.aload_n 0, 1) := by decide +kernel
theorem d_Maker_placeContents_48 : decode b_Maker_placeContents 48 = .ok (.getfield 39, 3) := by decide +kernel
theorem d_Maker_placeContents_51 : decode b_Maker_placeContents 51 = .ok (.iload 4, 2) := by decide +kernel
theorem d_Maker_placeContents_53 : decode b_Maker_placeContents 53 = .ok (.iaload, 1) := by decide +kernel
theorem d_Maker_placeContents_54 : decode b_Maker_placeContents 54 = .ok (.iastore, 1) := by decide +kernel
theorem d_Maker_placeContents_55 : decode b_Maker_placeContents 55 = .ok (.iload_n 2, 1) := by decide +kernel
theorem d_Maker_placeContents_56 : decode b_Maker_placeContents 56 = .ok (.iload 4, 2) := by decide +kernel
theorem d_Maker_placeContents_58 : decode b_Maker_placeContents 58 = .ok (.iload_n 3, 1) := by decide +kernel
theorem d_Maker_placeContents_59 : decode b_Maker_placeContents 59 = .ok (.if_icmp .ne 21, 3) := by decide +kernel
theorem d_Maker_placeContents_62 : decode b_Maker_placeContents 62 = .ok (.aload_n 0, 1) := by decide +kernel
theorem d_Maker_placeContents_63 : decode b_Maker_placeContents 63 = .ok (.getfield 43, 3) := by decide +kernel
theorem d_Maker_placeContents_66 : decode b_Maker_placeContents 66 = .ok (.getfield 107, 3) := by decide +kernel
theorem d_Maker_placeContents_69 : decode b_Maker_placeContents 69 = .ok (.iload_n 3, 1) := by decide +kernel
theorem d_Maker_placeContents_70 : decode b_Maker_placeContents 70 = .ok (.aaload, 1) := by decide +kernel
theorem d_Maker_placeContents_71 : decode b_Maker_placeContents 71 = .ok (.getfield 147, 3) := by decide +kernel
theorem d_Maker_placeContents_74 : decode b_Maker_placeContents 74 = .ok (.invokestatic 79, 3) := by decide +kernel
theorem d_Maker_placeContents_77 : decode b_Maker_placeContents 77 = .ok (.goto 4, 3) := by decide +kernel
theorem d_Maker_placeContents_80 : decode b_Maker_placeContents 80 = .ok (.iconst 0, 1) := by decide +kernel
theorem d_Maker_placeContents_81 : decode b_Maker_placeContents 81 = .ok (.iadd, 1) := by decide +kernel
theorem d_Maker_placeContents_82 : decode b_Maker_placeContents 82 = .ok (.istore_n 2, 1) := by decide +kernel
theorem d_Maker_placeContents_83 : decode b_Maker_placeContents 83 = .ok (.iinc 3 1, 3) := by decide +kernel
theorem d_Maker_placeContents_86 : decode b_Maker_placeContents 86 = .ok (.goto (-82), 3) := by decide +kernel
theorem d_Maker_placeContents_89 : decode b_Maker_placeContents 89 = .ok (.iload_n 2, 1) := by decide +kernel
theorem d_Maker_placeContents_90 : decode b_Maker_placeContents 90 = .ok (.ireturn, 1) := by decide +kernel
set_option maxHeartbeats 4000000 in
set_option maxRecDepth 100000 in
theorem c3_placeContents (l : Launch) (D : va_G) (cB cI cJ cZ cN cF : ClassId) (sz : Nat) (m0 : Nat) (tr : Nat) (im : Nat) (fi : Nat) (se : Nat) (u0 : Nat) (id : Nat) (ct : Nat) (ra : Int32) (ru : Int32) (wg : Int32) (cc : Nat → Int32) (ta : Nat) (cn : Int32) (dr : Int32) (na : Nat → Nat → Nat) (ng : Nat → Nat → Int32) (nn : Nat → Nat → Nat) (nf : Nat → Nat → Nat → Int32) (cm : Nat) (dt : Nat → Nat → Int) (x : Int32) (hcn : cn.toInt = cm) (hcm : cm ≤ 40) (htok : TOK cm ng nn) (hdt : DtC dt cm ng nn nf) (hx : 0 ≤ x.toInt ∧ x.toInt ≤ 100000) : Met l y_Maker_placeContents w_Maker_placeContents ({ frames := 1, cells := 0, slots := 0, locals := 30 }) (va_Pc [.ref m0, .int x] (fun U => U.heap.size = sz ∧ va_P D CL [(m0, .inr (4, [.ref tr, .ref im, .ref fi, .ref se, .ref u0, .ref id, .ref ct, .int ra, .int ru, .int wg])), (ct, .inl (cI, 40, .inl cc))] U.heap ∧ va_K D CL (TY cB cI cJ cZ cN cF) U ∧ NN U ∧ va_D (fun _ => True) [(m0, .inr (4, [.ref tr, .ref im, .ref fi, .ref se, .ref u0, .ref id, .ref ct, .int ra, .int ru, .int wg])), (ct, .inl (cI, 40, .inl cc))] ∧ RO D (([(tr, .inr (10, [.ref ta, .int cn, .int dr])), (ta, .inl (cN, 40, .inr (.inr (.inr (.inr (rowF na cm))))))] : va_W) ++ (PL (NC cB na ng nn nf) cm)) (va_A [(m0, .inr (4, [.ref tr, .ref im, .ref fi, .ref se, .ref u0, .ref id, .ref ct, .int ra, .int ru, .int wg])), (ct, .inl (cI, 40, .inl cc))] sz) U U.heap)) (va_Qi (fun (r : Int32) (u : (Nat → Int32)) => match u with | g => (x.toInt ≤ r.toInt ∧ r.toInt ≤ x.toInt + 120) ∧ (r.toInt = x.toInt + ctS dt cm)) (fun (u : (Nat → Int32)) (t : State) => match u with | g => va_P D CL [(m0, .inr (4, [.ref tr, .ref im, .ref fi, .ref se, .ref u0, .ref id, .ref ct, .int ra, .int ru, .int wg])), (ct, .inl (cI, 40, .inl g))] t.heap ∧ va_D (va_A [(m0, .inr (4, [.ref tr, .ref im, .ref fi, .ref se, .ref u0, .ref id, .ref ct, .int ra, .int ru, .int wg])), (ct, .inl (cI, 40, .inl cc))] sz) [(m0, .inr (4, [.ref tr, .ref im, .ref fi, .ref se, .ref u0, .ref id, .ref ct, .int ra, .int ru, .int wg])), (ct, .inl (cI, 40, .inl g))]) (va_A [(m0, .inr (4, [.ref tr, .ref im, .ref fi, .ref se, .ref u0, .ref id, .ref ct, .int ra, .int ru, .int wg])), (ct, .inl (cI, 40, .inl cc))] sz)) 0 0 (va_A [(m0, .inr (4, [.ref tr, .ref im, .ref fi, .ref se, .ref u0, .ref id, .ref ct, .int ra, .int ru, .int wg])), (ct, .inl (cI, 40, .inl cc))] sz) := by
  refine Met.ofW (cc := b_Maker_placeContents) (maxL := 5) (ret := some .int) (by decide +kernel) rfl ?_
  intro p e s m args below meth c s₁ B hml hv
  obtain ⟨rfl, hsz, hP, hK, hN, hD0, hZr⟩ := hv
  have hx := B.exec
  have hb := B.bytes
  have hr := B.returns
  have hts := atoms_spec (ws := w_Maker_placeContents) B.pre
  have ht9 := fun (w : Cond) (h : w ∈ lw_g) => hts w (List.mem_cons_of_mem _ h)
  have hown : s.vm.findClass "DiscMaker$Maker" = some m.cls := findClass_of_methodNamed B.named
  have hlocks := B.notSynchronized
  subst hsz
  have hD := hD0.self (sz := s.heap.size)
  generalize hAe : va_A [(m0, .inr (4, [.ref tr, .ref im, .ref fi, .ref se, .ref u0, .ref id, .ref ct, .int ra, .int ru, .int wg])), (ct, .inl (cI, 40, .inl cc))] s.heap.size = A at hD hZr ⊢
  have hA : ∀ q : Nat, s.heap.size ≤ q → A q := fun q h => by rw [← hAe]; exact Or.inr h
  have hS : va_S A s.heap s.heap [] := va_S.rf
  have hP : va_P D CL [(m0, .inr (4, [.ref tr, .ref im, .ref fi, .ref se, .ref u0, .ref id, .ref ct, .int ra, .int ru, .int wg])), (ct, .inl (cI, 40, .inl cc))] s.heap := hP
  have hl := lv_entry [.ref m0, .int x] (n := 5) (Nat.le_of_ble_eq_true rfl)
  rw [lg_entry_eq]
  generalize (lg_sl [.ref m0, .int x] ++ List.replicate (5 - (lg_sl [.ref m0, .int x]).length) Slot.unset).toArray = ls at hl ⊢
  have hl : lv_has ls 5 [(0, .ref m0), (1, .int x)] := hl
  have L_m1 : ((-1) : Int32).toInt = (-1) := by decide
  have L_0 : (0 : Int32).toInt = 0 := by decide
  have L_1 : (1 : Int32).toInt = 1 := by decide
  refine lv_iload_n hx hb d_Maker_placeContents_0 rfl (lv_at hl 1 rfl) ?_
  refine lv_istore_n hx hb d_Maker_placeContents_1 rfl hl (by decide) rfl (fun ls hl => ?_)
  have hl : lv_has ls 5 [(2, .int x), (0, .ref m0), (1, .int x)] := hl
  refine lv_iconst (v := 0) hx hb d_Maker_placeContents_2 (by decide) ?_
  refine lv_istore_n hx hb d_Maker_placeContents_3 rfl hl (by decide) rfl (fun ls hl => ?_)
  have hl : lv_has ls 5 [(3, .int 0), (2, .int x), (0, .ref m0), (1, .int x)] := hl
  refine zz_labM (B := fun (lk : Nat) (K : Heap → List Loc → Array Slot → List Value → Prop) => ∀ (nx : Int32) (kx : Int32) (lcc : Nat → Int32) (H : Heap) (locs : List Loc) (ls : Array Slot), lk = (cn.toInt - kx.toInt).toNat → (0 ≤ kx.toInt ∧ kx.toInt ≤ cn.toInt) → (x.toInt ≤ nx.toInt ∧ nx.toInt ≤ x.toInt + 3 * kx.toInt) → (nx.toInt = x.toInt + ctS dt kx.toNatClampNeg) → va_P D CL [(m0, .inr (4, [.ref tr, .ref im, .ref fi, .ref se, .ref u0, .ref id, .ref ct, .int ra, .int ru, .int wg])), (ct, .inl (cI, 40, .inl lcc))] H → va_D A [(m0, .inr (4, [.ref tr, .ref im, .ref fi, .ref se, .ref u0, .ref id, .ref ct, .int ra, .int ru, .int wg])), (ct, .inl (cI, 40, .inl lcc))] → va_S A s.heap H locs → lv_has ls 5 [(0, .ref m0), (1, .int x), (2, .int nx), (3, .int kx)] → K H locs ls []) 4 ?_ ?_
  · skip
    intro lk ih4 nx kx lcc H locs ls hm4 e1 e2 e4 hP hD hS hl
    refine lv_iload_n hx hb d_Maker_placeContents_4 rfl (lv_at hl 3 rfl) ?_
    refine lv_aload_n hx hb d_Maker_placeContents_5 rfl (lv_at hl 0 rfl) ?_
    refine va_get (D := D) (ci := 4) (v := .ref tr) (C := "DiscMaker$Maker") (T := F_Maker) (N := 10) hx hb ht9 in_Maker hown hK hP 0 rfl rfl 0 (by decide) (ht9 _ k347) (fun _ h9 => h9) rfl d_Maker_placeContents_6 ?_
    have hPR := RO_at hZr hS
    refine va_getN (D := D) (ci := 10) (v := .int cn) (C := "DiscMaker$Tree") (T := F_Tree) (N := 3) hx hb ht9 in_Tree hown hK hPR 0 rfl rfl 1 (by decide) (va_Nw.use rfl (hN _ k241)) (fun _ h9 => h9) rfl d_Maker_placeContents_9 ?_
    refine lv_icmp_ge (tgt := 89) hx hb d_Maker_placeContents_12 (by decide) (fun h_9 => ?_) (fun h_9 => ?_)
    · skip
      have g12_9 : cn.toInt ≤ kx.toInt := (i_le rfl rfl).mp h_9
      refine lv_iload_n hx hb d_Maker_placeContents_89 rfl (lv_at hl 2 rfl) ?_
      have hP9 := hP.sub (ws' := [(m0, .inr (4, [.ref tr, .ref im, .ref fi, .ref se, .ref u0, .ref id, .ref ct, .int ra, .int ru, .int wg])), (ct, .inl (cI, 40, .inl lcc))]) [0, 1] rfl
      have hD9 := hD.sub (ws' := [(m0, .inr (4, [.ref tr, .ref im, .ref fi, .ref se, .ref u0, .ref id, .ref ct, .int ra, .int ru, .int wg])), (ct, .inl (cI, 40, .inl lcc))]) [0, 1] (by decide +kernel) rfl
      exact W.iret (v := nx) hx hb hr (fun t ht hW => ⟨⟨nx, lcc, rfl, ⟨(by (try dsimp only); first | assumption | omega | trivial), (by (try dsimp only); have h5 := i_cl (a := kx) (by omega); rw [show cm = kx.toNatClampNeg by omega]; exact e4)⟩, by rw [ht]; exact hP9, hD9⟩, hS.F ht⟩) hS.2.2 d_Maker_placeContents_90
    · skip
      have g12_9 : ¬ cn.toInt ≤ kx.toInt := fun h8 => h_9 ((i_le rfl rfl).mpr h8)
      refine lv_aload_n hx hb d_Maker_placeContents_15 rfl (lv_at hl 0 rfl) ?_
      refine lv_iload_n hx hb d_Maker_placeContents_16 rfl (lv_at hl 3 rfl) ?_
      have hPc := hP.sub (ws' := [(m0, .inr (4, [.ref tr, .ref im, .ref fi, .ref se, .ref u0, .ref id, .ref ct, .int ra, .int ru, .int wg]))]) [0] rfl
      have hDc := hD.sub (ws' := [(m0, .inr (4, [.ref tr, .ref im, .ref fi, .ref se, .ref u0, .ref id, .ref ct, .int ra, .int ru, .int wg]))]) [0] (by decide +kernel) rfl
      have hFc := va_free (wc := [(m0, .inr (4, [.ref tr, .ref im, .ref fi, .ref se, .ref u0, .ref id, .ref ct, .int ra, .int ru, .int wg]))]) hD hS hA [0] rfl
      have hkc : 0 ≤ 0 := by decide
      have hks : 0 ≤ 0 := by decide
      refine va_calli (va_runV (C := "DiscMaker$Maker") (As := [.int kx]) (rest := []) ⟨hx, hb, hml, hown, hts⟩ (c3_firstWithContents l D cB cI cJ cZ cN cF H.size m0 tr im fi se u0 id ct ra ru wg ta cn dr na ng nn nf cm dt kx (by (try dsimp only); first | assumption | omega | trivial) (by (try dsimp only); first | assumption | omega | trivial) (by (try dsimp only); first | assumption | omega | trivial) (by (try dsimp only); first | assumption | omega | trivial) (by (try dsimp only); first | assumption | omega | trivial)) (cwV 1 hts (lg_goodV k1077 k1079 k24 k120 kc_Maker_firstWithContents) rfl rfl rfl (by decide +kernel) ⟨Nat.le_of_ble_eq_true rfl, Nat.le_of_ble_eq_true rfl⟩) ⟨fun a U g mk q => by obtain ⟨q0, q1, qP, qK, qN, qD, qZ0⟩ := q; exact ⟨q0, q1, qP, va_K.moved (u := U) (U := U.calling g mk a) (Vm.Alike.refl U.vm) qK, qN.calling, qD, RO_blind qZ0⟩, va_recv hK hP (ci := 4) (q0 := 0) rfl rfl, fun U hU hW => ⟨rfl, by rw [hU], by rw [hU]; exact hPc, va_K.moved hW.alike hK, NN.warm hW hN, hDc.weaken (fun _ _ _ _ => trivial), (RO_app (w1 := [(tr, .inr (10, [.ref ta, .int cn, .int dr]))]) (w2 := (([(ta, .inl (cN, 40, .inr (.inr (.inr (.inr (rowF na cm))))))] : va_W) ++ (PL (NC cB na ng nn nf) cm))) (RO_pass (RO_one hZr 0 rfl) hS hFc hU) (RO_app (w1 := [(ta, .inl (cN, 40, .inr (.inr (.inr (.inr (rowF na cm))))))]) (w2 := (PL (NC cB na ng nn nf) cm)) (RO_pass (RO_one hZr 1 rfl) hS hFc hU) (RO_pass (RO_tail (X := [(tr, .inr (10, [.ref ta, .int cn, .int dr])), (ta, .inl (cN, 40, .inr (.inr (.inr (.inr (rowF na cm))))))]) hZr) hS hFc hU)))⟩⟩ rfl rfl hl.1 rfl (lv_room (Nat.le_of_ble_eq_true rfl)) d_Maker_placeContents_17 ⟨hkc, hks⟩) hS (fun q _ h => hFc q h) hFc (fun r1 u t H1 locs ht hvm hp_r1 hB hz1 hk1 hS => ?_)
      obtain ⟨hP1, hD1⟩ := hB
      rw [ht] at hP1
      obtain ⟨hP, hD⟩ := va_join (wr := [(ct, .inl (cI, 40, .inl lcc))]) (w1 := [(m0, .inr (4, [.ref tr, .ref im, .ref fi, .ref se, .ref u0, .ref id, .ref ct, .int ra, .int ru, .int wg]))]) hP hD [0] [1] rfl rfl (by decide +kernel) (by decide +kernel) hk1 hFc hP1 hD1
      clear hPc hDc hFc hP1 hD1 hk1 hz1 hkc hks
      generalize H1 = H at hP hS ⊢
      have hP : va_P D CL [(ct, .inl (cI, 40, .inl lcc)), (m0, .inr (4, [.ref tr, .ref im, .ref fi, .ref se, .ref u0, .ref id, .ref ct, .int ra, .int ru, .int wg]))] H := hP
      have hD : va_D A [(ct, .inl (cI, 40, .inl lcc)), (m0, .inr (4, [.ref tr, .ref im, .ref fi, .ref se, .ref u0, .ref id, .ref ct, .int ra, .int ru, .int wg]))] := hD
      try dsimp only at hp_r1
      obtain ⟨hr_2, hn9_3⟩ := hp_r1
      refine lv_istore hx hb d_Maker_placeContents_20 hl (by decide) rfl (fun ls hl => ?_)
      have hl : lv_has ls 5 [(4, .int r1), (0, .ref m0), (1, .int x), (2, .int nx), (3, .int kx)] := hl
      refine zz_labM (B := fun (lk : Nat) (K : Heap → List Loc → Array Slot → List Value → Prop) => ∀ (cv : Int32) (H : Heap) (locs : List Loc) (ls : Array Slot), lk = 0 → va_P D CL [(ct, .inl (cI, 40, .inl lcc)), (m0, .inr (4, [.ref tr, .ref im, .ref fi, .ref se, .ref u0, .ref id, .ref ct, .int ra, .int ru, .int wg]))] H → va_D A [(ct, .inl (cI, 40, .inl lcc)), (m0, .inr (4, [.ref tr, .ref im, .ref fi, .ref se, .ref u0, .ref id, .ref ct, .int ra, .int ru, .int wg]))] → va_S A s.heap H locs → lv_has ls 5 [(0, .ref m0), (1, .int x), (2, .int nx), (3, .int kx), (4, .int r1)] → K H locs ls [.int cv, .int kx, .ref ct]) 54 ?_ ?_
      · skip
        intro lk ih54 cv H locs ls hm54 hP hD hS hl
        refine zq_iast hx hb hK hP hD hS 0 1 rfl rfl (vp_in_iff.mpr ⟨by omega, by omega⟩) d_Maker_placeContents_54 (fun fz4 e_fz4 H locs hP hD hS => ?_)
        have hP : va_P D CL [(ct, .inl (cI, 40, .inl fz4)), (m0, .inr (4, [.ref tr, .ref im, .ref fi, .ref se, .ref u0, .ref id, .ref ct, .int ra, .int ru, .int wg]))] H := hP
        have hD : va_D A [(ct, .inl (cI, 40, .inl fz4)), (m0, .inr (4, [.ref tr, .ref im, .ref fi, .ref se, .ref u0, .ref id, .ref ct, .int ra, .int ru, .int wg]))] := hD
        have s_fz4 : fz4 kx.toNatClampNeg = cv := by rw [e_fz4]; unfold upd; rw [if_pos (by first | rfl | decide)]
        refine zz_labM (B := fun (lk : Nat) (K : Heap → List Loc → Array Slot → List Value → Prop) => ∀ (sv9 : Int32) (H : Heap) (locs : List Loc) (ls : Array Slot), lk = 0 → (0 ≤ sv9.toInt ∧ sv9.toInt ≤ 3) → ((newC dt kx.toNatClampNeg ∧ sv9.toInt = (dt 6 kx.toNatClampNeg + 2047) / 2048) ∨ (¬ newC dt kx.toNatClampNeg ∧ sv9.toInt = 0)) → va_P D CL [(ct, .inl (cI, 40, .inl fz4)), (m0, .inr (4, [.ref tr, .ref im, .ref fi, .ref se, .ref u0, .ref id, .ref ct, .int ra, .int ru, .int wg]))] H → va_D A [(ct, .inl (cI, 40, .inl fz4)), (m0, .inr (4, [.ref tr, .ref im, .ref fi, .ref se, .ref u0, .ref id, .ref ct, .int ra, .int ru, .int wg]))] → va_S A s.heap H locs → lv_has ls 5 [(0, .ref m0), (1, .int x), (2, .int nx), (3, .int kx), (4, .int r1)] → K H locs ls [.int sv9, .int nx]) 81 ?_ ?_
        · skip
          intro lk ih81 sv9 H locs ls hm81 e3 e5 hP hD hS hl
          refine lv_iadd hx hb d_Maker_placeContents_81 ?_
          refine lv_topi (fun v5 e_v5 => ?_)
          have t_v5 : v5.toInt = nx.toInt + sv9.toInt := by rw [e_v5]; exact i_add rfl rfl (by omega) (by omega)
          refine lv_istore_n hx hb d_Maker_placeContents_82 rfl hl (by decide) rfl (fun ls hl => ?_)
          have hl : lv_has ls 5 [(2, .int v5), (0, .ref m0), (1, .int x), (3, .int kx), (4, .int r1)] := hl
          obtain ⟨v6, e_v6⟩ : ∃ z : Int32, z = kx + 1 := ⟨_, rfl⟩
          refine lv_iinc (v := v6) hx hb d_Maker_placeContents_83 hl (k := 3) rfl e_v6.symm (by decide +kernel) rfl (fun ls hl => ?_)
          have t_v6 : v6.toInt = kx.toInt + 1 := by rw [e_v6]; exact i_add rfl (by decide) (by omega) (by omega)
          have hl : lv_has ls 5 [(3, .int v6), (2, .int v5), (0, .ref m0), (1, .int x), (4, .int r1)] := hl
          refine lv_goto (tgt := 4) hx hb d_Maker_placeContents_86 (by decide) ?_
          have hP := hP.sub (ws' := [(m0, .inr (4, [.ref tr, .ref im, .ref fi, .ref se, .ref u0, .ref id, .ref ct, .int ra, .int ru, .int wg])), (ct, .inl (cI, 40, .inl fz4))]) [1, 0] rfl
          have hD := hD.sub (ws' := [(m0, .inr (4, [.ref tr, .ref im, .ref fi, .ref se, .ref u0, .ref id, .ref ct, .int ra, .int ru, .int wg])), (ct, .inl (cI, 40, .inl fz4))]) [1, 0] (by decide +kernel) rfl
          have hl := lv_sub hl [2, 3, 1, 0] rfl
          exact ih4 _ (by first | omega | (dsimp only; omega)) v5 v6 fz4 _ _ _ rfl ((by (try dsimp only); first | assumption | omega | trivial)) ((by (try dsimp only); first | assumption | omega | trivial)) ((by have h7 := i_cl (a := kx) (by omega); have h6 := i_cl (a := v6) (by omega); rw [show v6.toNatClampNeg = kx.toNatClampNeg + 1 by omega]; rcases e5 with ⟨h8, h9⟩ | ⟨h8, h9⟩ <;> first | (rw [ctS_hit h8]; omega) | (rw [ctS_miss h8]; omega))) hP hD hS hl
        · skip
          intro kk81
          refine lv_iload_n hx hb d_Maker_placeContents_55 rfl (lv_at hl 2 rfl) ?_
          refine lv_iload hx hb d_Maker_placeContents_56 (lv_at hl 4 rfl) ?_
          refine lv_iload_n hx hb d_Maker_placeContents_58 rfl (lv_at hl 3 rfl) ?_
          refine lv_icmp_ne (tgt := 80) hx hb d_Maker_placeContents_59 (by decide) (fun h_9 => ?_) (fun h_9 => ?_)
          · skip
            have g59_25 : ¬ r1.toInt = kx.toInt := fun h8 => h_9 ((i_eq rfl rfl).mpr h8)
            refine lv_iconst (v := 0) hx hb d_Maker_placeContents_80 (by decide) ?_
            have hP := hP.sub (ws' := [(ct, .inl (cI, 40, .inl fz4)), (m0, .inr (4, [.ref tr, .ref im, .ref fi, .ref se, .ref u0, .ref id, .ref ct, .int ra, .int ru, .int wg]))]) [0, 1] rfl
            have hD := hD.sub (ws' := [(ct, .inl (cI, 40, .inl fz4)), (m0, .inr (4, [.ref tr, .ref im, .ref fi, .ref se, .ref u0, .ref id, .ref ct, .int ra, .int ru, .int wg]))]) [0, 1] (by decide +kernel) rfl
            have hl := lv_sub hl [0, 1, 2, 3, 4] rfl
            exact kk81 _ 0 _ _ _ rfl ((by (try dsimp only); first | assumption | omega | trivial)) ((Or.inr ⟨fun h8 => absurd (hn9_3.mpr h8) (by omega), by omega⟩)) hP hD hS hl
          · skip
            have g59_25 : r1.toInt = kx.toInt := (i_eq rfl rfl).mp h_9
            refine lv_aload_n hx hb d_Maker_placeContents_62 rfl (lv_at hl 0 rfl) ?_
            refine va_get (D := D) (ci := 4) (v := .ref tr) (C := "DiscMaker$Maker") (T := F_Maker) (N := 10) hx hb ht9 in_Maker hown hK hP 1 rfl rfl 0 (by decide) (ht9 _ k347) (fun _ h9 => h9) rfl d_Maker_placeContents_63 ?_
            have hPR := RO_at hZr hS
            refine va_getN (D := D) (ci := 10) (v := .ref ta) (C := "DiscMaker$Tree") (T := F_Tree) (N := 3) hx hb ht9 in_Tree hown hK hPR 0 rfl rfl 0 (by decide) (va_Nw.use rfl (hN _ k237)) (fun _ h9 => h9) rfl d_Maker_placeContents_66 ?_
            refine lv_iload_n hx hb d_Maker_placeContents_69 rfl (lv_at hl 3 rfl) ?_
            have hPR := RO_at hZr hS
            refine va_aldq hx hb hK hPR 1 4 rfl rfl (vp_in_iff.mpr ⟨by omega, by omega⟩) d_Maker_placeContents_70 ?_
            have c_hk7 := i_cl (a := kx) (by omega)
            have hk7 : kx.toNatClampNeg < cm := by omega
            have o_hk7 := htok kx.toNatClampNeg hk7
            obtain ⟨i_hj8, hj8⟩ : ∃ j : Nat, (PL (NC cB na ng nn nf) cm)[j]? = some ((na kx.toNatClampNeg 0), .inr (5, [.int (ng kx.toNatClampNeg 0), .ref (na kx.toNatClampNeg 1), .ref (na kx.toNatClampNeg 2), .ref (na kx.toNatClampNeg 3), .int (ng kx.toNatClampNeg 1), .int (ng kx.toNatClampNeg 2), .int (ng kx.toNatClampNeg 3), .int (ng kx.toNatClampNeg 4), .int (ng kx.toNatClampNeg 5), .int (ng kx.toNatClampNeg 6), .int (ng kx.toNatClampNeg 7), .int (ng kx.toNatClampNeg 8)])) := PL_get (i := 0) hk7 rfl
            obtain ⟨i_hj9, hj9⟩ : ∃ j : Nat, (PL (NC cB na ng nn nf) cm)[j]? = some ((na kx.toNatClampNeg 1), .inl (cB, (nn kx.toNatClampNeg 1), .inl (nf kx.toNatClampNeg 1))) := PL_get (i := 1) hk7 rfl
            obtain ⟨i_hj10, hj10⟩ : ∃ j : Nat, (PL (NC cB na ng nn nf) cm)[j]? = some ((na kx.toNatClampNeg 2), .inl (cB, 11, .inl (nf kx.toNatClampNeg 2))) := PL_get (i := 2) hk7 rfl
            obtain ⟨i_hj11, hj11⟩ : ∃ j : Nat, (PL (NC cB na ng nn nf) cm)[j]? = some ((na kx.toNatClampNeg 3), .inl (cB, (nn kx.toNatClampNeg 3), .inl (nf kx.toNatClampNeg 3))) := PL_get (i := 3) hk7 rfl
            refine W.eq (g2 := F0 m 71 ls [.ref (na kx.toNatClampNeg 0), .int nx]) (by rw [show rowF na cm kx.toNatClampNeg = some (na kx.toNatClampNeg 0) from rowF_some hk7]; rfl) ?_
            have hPR := RO_at hZr hS
            refine va_getN (D := D) (ci := 5) (v := .int (ng kx.toNatClampNeg 7)) (C := "DiscMaker$Node") (T := F_Node) (N := 12) hx hb ht9 in_Node hown hK hPR _ (pix (X := [(tr, .inr (10, [.ref ta, .int cn, .int dr])), (ta, .inl (cN, 40, .inr (.inr (.inr (.inr (rowF na cm))))))]) hj8) rfl 10 (by decide) (va_Nw.use rfl (hN _ k207)) (fun _ h9 => h9) rfl d_Maker_placeContents_71 ?_
            have hPc := hP.sub (ws' := []) [] rfl
            have hDc := hD.sub (ws' := []) [] (by decide +kernel) rfl
            have hFc := va_free (wc := []) hD hS hA [] rfl
            have hkc : 0 ≤ 0 := by decide
            have hks : 0 ≤ 0 := by decide
            refine va_calli (va_runSN (As := [.int (ng kx.toNatClampNeg 7)]) (rest := [.int nx]) ⟨hx, hb, hml, hown, hts⟩ (c3_sectorsFor l D cB cI cJ cZ cN cF H.size (ng kx.toNatClampNeg 7) (by (try dsimp only); first | assumption | omega | trivial)) ⟨va_cnB 1 hts (lg_good kc_DiscMaker_sectorsFor) rfl rfl rfl (hN _ k1045) (ht9 _ k115) (by decide +kernel) ⟨Nat.le_of_ble_eq_true rfl, Nat.le_of_ble_eq_true rfl⟩, ht9 _ k1046, trivial⟩ ⟨fun a U g mk q => by obtain ⟨q0, q1, qP, qK, qN, qD⟩ := q; exact ⟨q0, q1, qP, va_K.moved (u := U) (U := U.calling g mk a) (Vm.Alike.refl U.vm) qK, qN.calling, qD⟩, fun U hU hW => ⟨rfl, by rw [hU], by rw [hU]; exact hPc, va_K.moved hW.alike hK, NN.warm hW hN, hDc.weaken (fun _ _ _ _ => trivial)⟩⟩ rfl rfl hl.1 rfl (lv_room (Nat.le_of_ble_eq_true rfl)) d_Maker_placeContents_74 ⟨hkc, hks⟩) hS (fun q _ h => hFc q h) hFc (fun r12 u t H1 locs ht hvm hp_r12 hB hz1 hk1 hS => ?_)
            obtain ⟨hP1, hD1⟩ := hB
            rw [ht] at hP1
            obtain ⟨hP, hD⟩ := va_join (wr := [(ct, .inl (cI, 40, .inl fz4)), (m0, .inr (4, [.ref tr, .ref im, .ref fi, .ref se, .ref u0, .ref id, .ref ct, .int ra, .int ru, .int wg]))]) (w1 := []) hP hD [] [0, 1] rfl rfl (by decide +kernel) (by decide +kernel) hk1 hFc hP1 hD1
            clear hPc hDc hFc hP1 hD1 hk1 hz1 hkc hks
            generalize H1 = H at hP hS ⊢
            have hP : va_P D CL [(ct, .inl (cI, 40, .inl fz4)), (m0, .inr (4, [.ref tr, .ref im, .ref fi, .ref se, .ref u0, .ref id, .ref ct, .int ra, .int ru, .int wg]))] H := hP
            have hD : va_D A [(ct, .inl (cI, 40, .inl fz4)), (m0, .inr (4, [.ref tr, .ref im, .ref fi, .ref se, .ref u0, .ref id, .ref ct, .int ra, .int ru, .int wg]))] := hD
            try dsimp only at hp_r12
            have hv_13 := hp_r12
            refine lv_goto (tgt := 81) hx hb d_Maker_placeContents_77 (by decide) ?_
            have hP := hP.sub (ws' := [(ct, .inl (cI, 40, .inl fz4)), (m0, .inr (4, [.ref tr, .ref im, .ref fi, .ref se, .ref u0, .ref id, .ref ct, .int ra, .int ru, .int wg]))]) [0, 1] rfl
            have hD := hD.sub (ws' := [(ct, .inl (cI, 40, .inl fz4)), (m0, .inr (4, [.ref tr, .ref im, .ref fi, .ref se, .ref u0, .ref id, .ref ct, .int ra, .int ru, .int wg]))]) [0, 1] (by decide +kernel) rfl
            have hl := lv_sub hl [0, 1, 2, 3, 4] rfl
            exact kk81 _ r12 _ _ _ rfl ((by (try dsimp only); first | assumption | omega | trivial)) ((Or.inl ⟨hn9_3.mp (by omega), by have h7 := i_cl (a := kx) (by omega); have h6 := (hdt kx.toNatClampNeg (by omega)).1; omega⟩)) hP hD hS hl
      · skip
        intro kk54
        refine lv_aload_n hx hb d_Maker_placeContents_22 rfl (lv_at hl 1 rfl) ?_
        refine va_get (D := D) (ci := 4) (v := .ref ct) (C := "DiscMaker$Maker") (T := F_Maker) (N := 10) hx hb ht9 in_Maker hown hK hP 1 rfl rfl 6 (by decide) (ht9 _ k353) (fun _ h9 => h9) rfl d_Maker_placeContents_23 ?_
        refine lv_iload_n hx hb d_Maker_placeContents_26 rfl (lv_at hl 4 rfl) ?_
        refine lv_iload hx hb d_Maker_placeContents_27 (lv_at hl 0 rfl) ?_
        refine lv_iload_n hx hb d_Maker_placeContents_29 rfl (lv_at hl 4 rfl) ?_
        refine lv_icmp_ne (tgt := 37) hx hb d_Maker_placeContents_30 (by decide) (fun h_9 => ?_) (fun h_9 => ?_)
        · skip
          have g30_42 : ¬ r1.toInt = kx.toInt := fun h8 => h_9 ((i_eq rfl rfl).mpr h8)
          refine lv_iload hx hb d_Maker_placeContents_37 (lv_at hl 0 rfl) ?_
          refine lv_iconst (v := (-1)) hx hb d_Maker_placeContents_39 (by decide) ?_
          refine lv_icmp_ne (tgt := 47) hx hb d_Maker_placeContents_40 (by decide) (fun h_9 => ?_) (fun h_9 => ?_)
          · skip
            have g40_45 : ¬ r1.toInt = (-1) := fun h8 => h_9 ((i_eq rfl (by decide)).mpr h8)
            refine lv_aload_n hx hb d_Maker_placeContents_47 rfl (lv_at hl 1 rfl) ?_
            refine va_get (D := D) (ci := 4) (v := .ref ct) (C := "DiscMaker$Maker") (T := F_Maker) (N := 10) hx hb ht9 in_Maker hown hK hP 1 rfl rfl 6 (by decide) (ht9 _ k353) (fun _ h9 => h9) rfl d_Maker_placeContents_48 ?_
            refine lv_iload hx hb d_Maker_placeContents_51 (lv_at hl 0 rfl) ?_
            refine va_iald hx hb hK hP 0 1 rfl rfl (vp_in_iff.mpr ⟨by omega, by omega⟩) d_Maker_placeContents_53 ?_
            refine lv_topi (fun v14 e_v14 => ?_)
            have hP := hP.sub (ws' := [(ct, .inl (cI, 40, .inl lcc)), (m0, .inr (4, [.ref tr, .ref im, .ref fi, .ref se, .ref u0, .ref id, .ref ct, .int ra, .int ru, .int wg]))]) [0, 1] rfl
            have hD := hD.sub (ws' := [(ct, .inl (cI, 40, .inl lcc)), (m0, .inr (4, [.ref tr, .ref im, .ref fi, .ref se, .ref u0, .ref id, .ref ct, .int ra, .int ru, .int wg]))]) [0, 1] (by decide +kernel) rfl
            have hl := lv_sub hl [1, 2, 3, 4, 0] rfl
            exact kk54 _ v14 _ _ _ rfl  hP hD hS hl
          · skip
            have g40_45 : r1.toInt = (-1) := (i_eq rfl (by decide)).mp h_9
            refine lv_iconst (v := 0) hx hb d_Maker_placeContents_43 (by decide) ?_
            refine lv_goto (tgt := 54) hx hb d_Maker_placeContents_44 (by decide) ?_
            have hP := hP.sub (ws' := [(ct, .inl (cI, 40, .inl lcc)), (m0, .inr (4, [.ref tr, .ref im, .ref fi, .ref se, .ref u0, .ref id, .ref ct, .int ra, .int ru, .int wg]))]) [0, 1] rfl
            have hD := hD.sub (ws' := [(ct, .inl (cI, 40, .inl lcc)), (m0, .inr (4, [.ref tr, .ref im, .ref fi, .ref se, .ref u0, .ref id, .ref ct, .int ra, .int ru, .int wg]))]) [0, 1] (by decide +kernel) rfl
            have hl := lv_sub hl [1, 2, 3, 4, 0] rfl
            exact kk54 _ 0 _ _ _ rfl  hP hD hS hl
        · skip
          have g30_42 : r1.toInt = kx.toInt := (i_eq rfl rfl).mp h_9
          refine lv_iload_n hx hb d_Maker_placeContents_33 rfl (lv_at hl 3 rfl) ?_
          refine lv_goto (tgt := 54) hx hb d_Maker_placeContents_34 (by decide) ?_
          have hP := hP.sub (ws' := [(ct, .inl (cI, 40, .inl lcc)), (m0, .inr (4, [.ref tr, .ref im, .ref fi, .ref se, .ref u0, .ref id, .ref ct, .int ra, .int ru, .int wg]))]) [0, 1] rfl
          have hD := hD.sub (ws' := [(ct, .inl (cI, 40, .inl lcc)), (m0, .inr (4, [.ref tr, .ref im, .ref fi, .ref se, .ref u0, .ref id, .ref ct, .int ra, .int ru, .int wg]))]) [0, 1] (by decide +kernel) rfl
          have hl := lv_sub hl [1, 2, 3, 4, 0] rfl
          exact kk54 _ nx _ _ _ rfl  hP hD hS hl
  · skip
    intro kk4
    have hP := hP.sub (ws' := [(m0, .inr (4, [.ref tr, .ref im, .ref fi, .ref se, .ref u0, .ref id, .ref ct, .int ra, .int ru, .int wg])), (ct, .inl (cI, 40, .inl cc))]) [0, 1] rfl
    have hD := hD.sub (ws' := [(m0, .inr (4, [.ref tr, .ref im, .ref fi, .ref se, .ref u0, .ref id, .ref ct, .int ra, .int ru, .int wg])), (ct, .inl (cI, 40, .inl cc))]) [0, 1] (by decide +kernel) rfl
    have hl := lv_sub hl [2, 3, 1, 0] rfl
    exact kk4 _ x 0 cc _ _ _ rfl ((by (try dsimp only); first | assumption | omega | trivial)) ((by (try dsimp only); first | assumption | omega | trivial)) ((by rw [show (0 : Int32).toNatClampNeg = 0 by decide]; simp only [ctS]; omega)) hP hD hS hl

theorem d_Maker_writeBytes_0 : decode b_Maker_writeBytes 0 = .ok (.iconst 0, 1) := by decide +kernel
theorem d_Maker_writeBytes_1 : decode b_Maker_writeBytes 1 = .ok (.istore_n 3, 1) := by decide +kernel
theorem d_Maker_writeBytes_2 : decode b_Maker_writeBytes 2 = .ok (.iload_n 3, 1) := by decide +kernel
theorem d_Maker_writeBytes_3 : decode b_Maker_writeBytes 3 = .ok (.aload_n 1, 1) := by decide +kernel
theorem d_Maker_writeBytes_4 : decode b_Maker_writeBytes 4 = .ok (.getfield 147, 3) := by decide +kernel
theorem d_Maker_writeBytes_7 : decode b_Maker_writeBytes 7 = .ok (.if_icmp .ge 33, 3) := by decide +kernel
theorem d_Maker_writeBytes_10 : decode b_Maker_writeBytes 10 = .ok (.aload_n 0, 1) := by decide +kernel
theorem d_Maker_writeBytes_11 : decode b_Maker_writeBytes 11 = .ok (.getfield 47, 3) := by decide +kernel
theorem d_Maker_writeBytes_14 : decode b_Maker_writeBytes 14 = .ok (.iload_n 2, 1) := by decide +kernel
theorem d_Maker_writeBytes_15 : decode b_Maker_writeBytes 15 = .ok (.iload_n 3, 1) := by decide +kernel
theorem d_Maker_writeBytes_16 : decode b_Maker_writeBytes 16 = .ok (.iadd, 1) := by decide +kernel
theorem d_Maker_writeBytes_17 : decode b_Maker_writeBytes 17 = .ok (.aload_n 1, 1) := by decide +kernel
theorem d_Maker_writeBytes_18 : decode b_Maker_writeBytes 18 = .ok (.getfield 153, 3) := by decide +kernel
theorem d_Maker_writeBytes_21 : decode b_Maker_writeBytes 21 = .ok (.iload_n 3, 1) := by decide +kernel
theorem d_Maker_writeBytes_22 : decode b_Maker_writeBytes 22 = .ok (.iload_n 3, 1) := by decide +kernel
theorem d_Maker_writeBytes_23 : decode b_Maker_writeBytes 23 = .ok (.imul, 1) := by decide +kernel
theorem d_Maker_writeBytes_24 : decode b_Maker_writeBytes 24 = .ok (.iadd, 1) := by decide +kernel
theorem d_Maker_writeBytes_25 : decode b_Maker_writeBytes 25 = .ok (.iload_n 3, 1) := by decide +kernel
theorem d_Maker_writeBytes_26 : decode b_Maker_writeBytes 26 = .ok (.sipush 256, 3) := by decide +kernel
theorem d_Maker_writeBytes_29 : decode b_Maker_writeBytes 29 = .ok (.idiv, 1) := by decide +kernel
theorem d_Maker_writeBytes_30 : decode b_Maker_writeBytes 30 = .ok (.iadd, 1) := by decide +kernel
theorem d_Maker_writeBytes_31 : decode b_Maker_writeBytes 31 = .ok (.invokevirtual 196, 3) := by decide +kernel
theorem d_Maker_writeBytes_34 : decode b_Maker_writeBytes 34 = .ok (.iinc 3 1, 3) := by decide +kernel
theorem d_Maker_writeBytes_37 : decode b_Maker_writeBytes 37 = .ok (.goto (-35), 3) := by decide +kernel
theorem d_Maker_writeBytes_40 : decode b_Maker_writeBytes 40 = .ok (.return_, 1) := by decide +kernel
set_option maxHeartbeats 4000000 in
set_option maxRecDepth 100000 in
theorem c3_writeBytes (l : Launch) (D : va_G) (cB cI cJ cZ cN cF : ClassId) (sz : Nat) (m0 : Nat) (tr : Nat) (im : Nat) (fi : Nat) (se : Nat) (u0 : Nat) (id : Nat) (ct : Nat) (ra : Int32) (ru : Int32) (wg : Int32) (iq : Nat) (n : Nat) (L : Int32) (f : Nat → Int32) (h0 : Nat) (kna : Nat) (kke : Nat) (kta : Nat) (so : Int32) (nu : Int32) (pa : Int32) (ab : Int32) (mo : Int32) (ow : Int32) (gr : Int32) (si : Int32) (sd : Int32) (x : Int32) (hL : 0 ≤ L.toInt ∧ L.toInt ≤ n) (hn : n ≤ 3000000) (hsi : 0 ≤ si.toInt ∧ si.toInt ≤ 4100) : Met l y_Maker_writeBytes w_Maker_writeBytes ({ frames := 1, cells := 0, slots := 0, locals := 28 }) (va_Pc [.ref m0, .ref h0, .int x] (fun U => U.heap.size = sz ∧ va_P D CL [(m0, .inr (4, [.ref tr, .ref im, .ref fi, .ref se, .ref u0, .ref id, .ref ct, .int ra, .int ru, .int wg])), (im, .inr (1, [.ref iq, .int L])), (iq, .inl (cB, n, .inl f))] U.heap ∧ va_K D CL (TY cB cI cJ cZ cN cF) U ∧ NN U ∧ va_D (fun _ => True) [(m0, .inr (4, [.ref tr, .ref im, .ref fi, .ref se, .ref u0, .ref id, .ref ct, .int ra, .int ru, .int wg])), (im, .inr (1, [.ref iq, .int L])), (iq, .inl (cB, n, .inl f))] ∧ RO D [(h0, .inr (5, [.int so, .ref kna, .ref kke, .ref kta, .int nu, .int pa, .int ab, .int mo, .int ow, .int gr, .int si, .int sd]))] (va_A [(m0, .inr (4, [.ref tr, .ref im, .ref fi, .ref se, .ref u0, .ref id, .ref ct, .int ra, .int ru, .int wg])), (im, .inr (1, [.ref iq, .int L])), (iq, .inl (cB, n, .inl f))] sz) U U.heap)) (va_Qv (fun (u : (Nat → Int32)) => True) (fun (u : (Nat → Int32)) (t : State) => match u with | g => va_P D CL [(m0, .inr (4, [.ref tr, .ref im, .ref fi, .ref se, .ref u0, .ref id, .ref ct, .int ra, .int ru, .int wg])), (im, .inr (1, [.ref iq, .int L])), (iq, .inl (cB, n, .inl g))] t.heap ∧ va_D (va_A [(m0, .inr (4, [.ref tr, .ref im, .ref fi, .ref se, .ref u0, .ref id, .ref ct, .int ra, .int ru, .int wg])), (im, .inr (1, [.ref iq, .int L])), (iq, .inl (cB, n, .inl f))] sz) [(m0, .inr (4, [.ref tr, .ref im, .ref fi, .ref se, .ref u0, .ref id, .ref ct, .int ra, .int ru, .int wg])), (im, .inr (1, [.ref iq, .int L])), (iq, .inl (cB, n, .inl g))]) (va_A [(m0, .inr (4, [.ref tr, .ref im, .ref fi, .ref se, .ref u0, .ref id, .ref ct, .int ra, .int ru, .int wg])), (im, .inr (1, [.ref iq, .int L])), (iq, .inl (cB, n, .inl f))] sz)) 0 0 (va_A [(m0, .inr (4, [.ref tr, .ref im, .ref fi, .ref se, .ref u0, .ref id, .ref ct, .int ra, .int ru, .int wg])), (im, .inr (1, [.ref iq, .int L])), (iq, .inl (cB, n, .inl f))] sz) := by
  refine Met.ofW (cc := b_Maker_writeBytes) (maxL := 4) (ret := none) (by decide +kernel) rfl ?_
  intro p e s m args below meth c s₁ B hml hv
  obtain ⟨rfl, hsz, hP, hK, hN, hD0, hZr⟩ := hv
  have hx := B.exec
  have hb := B.bytes
  have hr := B.returns
  have hts := atoms_spec (ws := w_Maker_writeBytes) B.pre
  have ht9 := fun (w : Cond) (h : w ∈ lw_g) => hts w (List.mem_cons_of_mem _ h)
  have hown : s.vm.findClass "DiscMaker$Maker" = some m.cls := findClass_of_methodNamed B.named
  have hlocks := B.notSynchronized
  subst hsz
  have hD := hD0.self (sz := s.heap.size)
  generalize hAe : va_A [(m0, .inr (4, [.ref tr, .ref im, .ref fi, .ref se, .ref u0, .ref id, .ref ct, .int ra, .int ru, .int wg])), (im, .inr (1, [.ref iq, .int L])), (iq, .inl (cB, n, .inl f))] s.heap.size = A at hD hZr ⊢
  have hA : ∀ q : Nat, s.heap.size ≤ q → A q := fun q h => by rw [← hAe]; exact Or.inr h
  have hS : va_S A s.heap s.heap [] := va_S.rf
  have hP : va_P D CL [(m0, .inr (4, [.ref tr, .ref im, .ref fi, .ref se, .ref u0, .ref id, .ref ct, .int ra, .int ru, .int wg])), (im, .inr (1, [.ref iq, .int L])), (iq, .inl (cB, n, .inl f))] s.heap := hP
  have hl := lv_entry [.ref m0, .ref h0, .int x] (n := 4) (Nat.le_of_ble_eq_true rfl)
  rw [lg_entry_eq]
  generalize (lg_sl [.ref m0, .ref h0, .int x] ++ List.replicate (4 - (lg_sl [.ref m0, .ref h0, .int x]).length) Slot.unset).toArray = ls at hl ⊢
  have hl : lv_has ls 4 [(0, .ref m0), (1, .ref h0), (2, .int x)] := hl
  have L_m1 : ((-1) : Int32).toInt = (-1) := by decide
  have L_0 : (0 : Int32).toInt = 0 := by decide
  have L_1 : (1 : Int32).toInt = 1 := by decide
  have L_256 : (256 : Int32).toInt = 256 := by decide
  refine lv_iconst (v := 0) hx hb d_Maker_writeBytes_0 (by decide) ?_
  refine lv_istore_n hx hb d_Maker_writeBytes_1 rfl hl (by decide) rfl (fun ls hl => ?_)
  have hl : lv_has ls 4 [(3, .int 0), (0, .ref m0), (1, .ref h0), (2, .int x)] := hl
  refine zz_labM (B := fun (lk : Nat) (K : Heap → List Loc → Array Slot → List Value → Prop) => ∀ (kx : Int32) (lf : Nat → Int32) (H : Heap) (locs : List Loc) (ls : Array Slot), lk = (si.toInt - kx.toInt).toNat → (0 ≤ kx.toInt ∧ kx.toInt ≤ si.toInt) → va_P D CL [(m0, .inr (4, [.ref tr, .ref im, .ref fi, .ref se, .ref u0, .ref id, .ref ct, .int ra, .int ru, .int wg])), (im, .inr (1, [.ref iq, .int L])), (iq, .inl (cB, n, .inl lf))] H → va_D A [(m0, .inr (4, [.ref tr, .ref im, .ref fi, .ref se, .ref u0, .ref id, .ref ct, .int ra, .int ru, .int wg])), (im, .inr (1, [.ref iq, .int L])), (iq, .inl (cB, n, .inl lf))] → va_S A s.heap H locs → lv_has ls 4 [(0, .ref m0), (1, .ref h0), (2, .int x), (3, .int kx)] → K H locs ls []) 2 ?_ ?_
  · skip
    intro lk ih2 kx lf H locs ls hm2 e1 hP hD hS hl
    refine lv_iload_n hx hb d_Maker_writeBytes_2 rfl (lv_at hl 3 rfl) ?_
    refine lv_aload_n hx hb d_Maker_writeBytes_3 rfl (lv_at hl 1 rfl) ?_
    have hPR := RO_at hZr hS
    refine va_getN (D := D) (ci := 5) (v := .int si) (C := "DiscMaker$Node") (T := F_Node) (N := 12) hx hb ht9 in_Node hown hK hPR 0 rfl rfl 10 (by decide) (va_Nw.use rfl (hN _ k207)) (fun _ h9 => h9) rfl d_Maker_writeBytes_4 ?_
    refine lv_icmp_ge (tgt := 40) hx hb d_Maker_writeBytes_7 (by decide) (fun h_9 => ?_) (fun h_9 => ?_)
    · skip
      have g7_6 : si.toInt ≤ kx.toInt := (i_le rfl rfl).mp h_9
      have hP9 := hP.sub (ws' := [(m0, .inr (4, [.ref tr, .ref im, .ref fi, .ref se, .ref u0, .ref id, .ref ct, .int ra, .int ru, .int wg])), (im, .inr (1, [.ref iq, .int L])), (iq, .inl (cB, n, .inl lf))]) [0, 1, 2] rfl
      have hD9 := hD.sub (ws' := [(m0, .inr (4, [.ref tr, .ref im, .ref fi, .ref se, .ref u0, .ref id, .ref ct, .int ra, .int ru, .int wg])), (im, .inr (1, [.ref iq, .int L])), (iq, .inl (cB, n, .inl lf))]) [0, 1, 2] (by decide +kernel) rfl
      exact W.vret hx hb hr (fun t ht hW => ⟨⟨lf, rfl, trivial, by rw [ht]; exact hP9, hD9⟩, hS.F ht⟩) hS.2.2 d_Maker_writeBytes_40
    · skip
      have g7_6 : ¬ si.toInt ≤ kx.toInt := fun h8 => h_9 ((i_le rfl rfl).mpr h8)
      refine lv_aload_n hx hb d_Maker_writeBytes_10 rfl (lv_at hl 0 rfl) ?_
      refine va_get (D := D) (ci := 4) (v := .ref im) (C := "DiscMaker$Maker") (T := F_Maker) (N := 10) hx hb ht9 in_Maker hown hK hP 0 rfl rfl 1 (by decide) (ht9 _ k348) (fun _ h9 => h9) rfl d_Maker_writeBytes_11 ?_
      refine lv_iload_n hx hb d_Maker_writeBytes_14 rfl (lv_at hl 2 rfl) ?_
      refine lv_iload_n hx hb d_Maker_writeBytes_15 rfl (lv_at hl 3 rfl) ?_
      refine lv_iadd hx hb d_Maker_writeBytes_16 ?_
      refine lv_topi (fun v1 e_v1 => ?_)
      refine lv_aload_n hx hb d_Maker_writeBytes_17 rfl (lv_at hl 1 rfl) ?_
      have hPR := RO_at hZr hS
      refine va_getN (D := D) (ci := 5) (v := .int sd) (C := "DiscMaker$Node") (T := F_Node) (N := 12) hx hb ht9 in_Node hown hK hPR 0 rfl rfl 11 (by decide) (va_Nw.use rfl (hN _ k209)) (fun _ h9 => h9) rfl d_Maker_writeBytes_18 ?_
      refine lv_iload_n hx hb d_Maker_writeBytes_21 rfl (lv_at hl 3 rfl) ?_
      refine lv_iload_n hx hb d_Maker_writeBytes_22 rfl (lv_at hl 3 rfl) ?_
      refine lv_imul hx hb d_Maker_writeBytes_23 ?_
      refine lv_topi (fun v2 e_v2 => ?_)
      refine lv_iadd hx hb d_Maker_writeBytes_24 ?_
      refine lv_topi (fun v3 e_v3 => ?_)
      refine lv_iload_n hx hb d_Maker_writeBytes_25 rfl (lv_at hl 3 rfl) ?_
      refine lv_sipush (v := 256) hx hb d_Maker_writeBytes_26 (by decide) ?_
      refine lv_idiv hx hb d_Maker_writeBytes_29 (by decide) ?_
      refine lv_topi (fun v4 e_v4 => ?_)
      refine lv_iadd hx hb d_Maker_writeBytes_30 ?_
      refine lv_topi (fun v5 e_v5 => ?_)
      have hPc := hP.sub (ws' := [(im, .inr (1, [.ref iq, .int L])), (iq, .inl (cB, n, .inl lf))]) [1, 2] rfl
      have hDc := hD.sub (ws' := [(im, .inr (1, [.ref iq, .int L])), (iq, .inl (cB, n, .inl lf))]) [1, 2] (by decide +kernel) rfl
      have hFc := va_free (wc := [(im, .inr (1, [.ref iq, .int L])), (iq, .inl (cB, n, .inl lf))]) hD hS hA [1, 2] rfl
      have hkc : 0 ≤ 0 := by decide
      have hks : 0 ≤ 0 := by decide
      refine va_callv (va_runV (C := "DiscMaker$Bytes") (As := [.int v1, .int v5]) (rest := []) ⟨hx, hb, hml, hown, hts⟩ (c3_put l D cB cI cJ cZ cN cF H.size im iq n L lf v1 v5 (by (try dsimp only); first | assumption | omega | trivial) (by (try dsimp only); first | assumption | omega | trivial)) (cwV 2 hts (lg_goodV k978 k912 k913 k119 kc_Bytes_put) rfl rfl rfl (by decide +kernel) ⟨Nat.le_of_ble_eq_true rfl, Nat.le_of_ble_eq_true rfl⟩) ⟨fun a U g mk q => by obtain ⟨q0, q1, qP, qK, qN, qD⟩ := q; exact ⟨q0, q1, qP, va_K.moved (u := U) (U := U.calling g mk a) (Vm.Alike.refl U.vm) qK, qN.calling, qD⟩, va_recv hK hP (ci := 1) (q0 := 1) rfl rfl, fun U hU hW => ⟨rfl, by rw [hU], by rw [hU]; exact hPc, va_K.moved hW.alike hK, NN.warm hW hN, hDc.weaken (fun _ _ _ _ => trivial)⟩⟩ rfl rfl hl.1 rfl (lv_room (Nat.le_of_ble_eq_true rfl)) d_Maker_writeBytes_31 ⟨hkc, hks⟩) hS (fun q _ h => hFc q h) hFc (fun u t H1 locs ht hvm hp_r6 hB hz1 hk1 hS => ?_)
      obtain ⟨g_7, rfl⟩ : ∃ z, z = u := ⟨_, rfl⟩
      obtain ⟨hP1, hD1⟩ := hB
      rw [ht] at hP1
      obtain ⟨hP, hD⟩ := va_join (wr := [(m0, .inr (4, [.ref tr, .ref im, .ref fi, .ref se, .ref u0, .ref id, .ref ct, .int ra, .int ru, .int wg]))]) (w1 := [(im, .inr (1, [.ref iq, .int L])), (iq, .inl (cB, n, .inl g_7))]) hP hD [1, 2] [0] rfl rfl (by decide +kernel) (by decide +kernel) hk1 hFc hP1 hD1
      clear hPc hDc hFc hP1 hD1 hk1 hz1 hkc hks
      generalize H1 = H at hP hS ⊢
      have hP : va_P D CL [(m0, .inr (4, [.ref tr, .ref im, .ref fi, .ref se, .ref u0, .ref id, .ref ct, .int ra, .int ru, .int wg])), (im, .inr (1, [.ref iq, .int L])), (iq, .inl (cB, n, .inl g_7))] H := hP
      have hD : va_D A [(m0, .inr (4, [.ref tr, .ref im, .ref fi, .ref se, .ref u0, .ref id, .ref ct, .int ra, .int ru, .int wg])), (im, .inr (1, [.ref iq, .int L])), (iq, .inl (cB, n, .inl g_7))] := hD
      obtain ⟨v8, e_v8⟩ : ∃ z : Int32, z = kx + 1 := ⟨_, rfl⟩
      refine lv_iinc (v := v8) hx hb d_Maker_writeBytes_34 hl (k := 3) rfl e_v8.symm (by decide +kernel) rfl (fun ls hl => ?_)
      have t_v8 : v8.toInt = kx.toInt + 1 := by rw [e_v8]; exact i_add rfl (by decide) (by omega) (by omega)
      have hl : lv_has ls 4 [(3, .int v8), (0, .ref m0), (1, .ref h0), (2, .int x)] := hl
      refine lv_goto (tgt := 2) hx hb d_Maker_writeBytes_37 (by decide) ?_
      have hP := hP.sub (ws' := [(m0, .inr (4, [.ref tr, .ref im, .ref fi, .ref se, .ref u0, .ref id, .ref ct, .int ra, .int ru, .int wg])), (im, .inr (1, [.ref iq, .int L])), (iq, .inl (cB, n, .inl g_7))]) [0, 1, 2] rfl
      have hD := hD.sub (ws' := [(m0, .inr (4, [.ref tr, .ref im, .ref fi, .ref se, .ref u0, .ref id, .ref ct, .int ra, .int ru, .int wg])), (im, .inr (1, [.ref iq, .int L])), (iq, .inl (cB, n, .inl g_7))]) [0, 1, 2] (by decide +kernel) rfl
      have hl := lv_sub hl [1, 2, 3, 0] rfl
      exact ih2 _ (by first | omega | (dsimp only; omega)) v8 g_7 _ _ _ rfl ((by (try dsimp only); first | assumption | omega | trivial)) hP hD hS hl
  · skip
    intro kk2
    have hP := hP.sub (ws' := [(m0, .inr (4, [.ref tr, .ref im, .ref fi, .ref se, .ref u0, .ref id, .ref ct, .int ra, .int ru, .int wg])), (im, .inr (1, [.ref iq, .int L])), (iq, .inl (cB, n, .inl f))]) [0, 1, 2] rfl
    have hD := hD.sub (ws' := [(m0, .inr (4, [.ref tr, .ref im, .ref fi, .ref se, .ref u0, .ref id, .ref ct, .int ra, .int ru, .int wg])), (im, .inr (1, [.ref iq, .int L])), (iq, .inl (cB, n, .inl f))]) [0, 1, 2] (by decide +kernel) rfl
    have hl := lv_sub hl [1, 2, 3, 0] rfl
    exact kk2 _ 0 f _ _ _ rfl ((by (try dsimp only); first | assumption | omega | trivial)) hP hD hS hl

theorem d_Maker_writeContents_0 : decode b_Maker_writeContents 0 = .ok (.iconst 0, 1) := by decide +kernel
theorem d_Maker_writeContents_1 : decode b_Maker_writeContents 1 = .ok (.istore_n 1, 1) := by decide +kernel
theorem d_Maker_writeContents_2 : decode b_Maker_writeContents 2 = .ok (.iload_n 1, 1) := by decide +kernel
theorem d_Maker_writeContents_3 : decode b_Maker_writeContents 3 = .ok (.aload_n 0, 1) := by decide +kernel
theorem d_Maker_writeContents_4 : decode b_Maker_writeContents 4 = .ok (.getfield 43, 3) := by decide +kernel
theorem d_Maker_writeContents_7 : decode b_Maker_writeContents 7 = .ok (.getfield 143, 3) := by decide +kernel
theorem d_Maker_writeContents_10 : decode b_Maker_writeContents 10 = .ok (.if_icmp .ge 41, 3) := by decide +kernel
theorem d_Maker_writeContents_13 : decode b_Maker_writeContents 13 = .ok (.aload_n 0, 1) := by decide +kernel
theorem d_Maker_writeContents_14 : decode b_Maker_writeContents 14 = .ok (.iload_n 1, 1) := by decide +kernel
theorem d_Maker_writeContents_15 : decode b_Maker_writeContents 15 = .ok (.invokevirtual 144, 3) := by decide +kernel
theorem d_Maker_writeContents_18 : decode b_Maker_writeContents 18 = .ok (.iload_n 1, 1) := by decide +kernel
theorem d_Maker_writeContents_19 : decode b_Maker_writeContents 19 = .ok (.if_icmp .ne 26, 3) := by decide +kernel
theorem d_Maker_writeContents_22 : decode b_Maker_writeContents 22 = .ok (.aload_n 0, 1) := by decide +kernel
theorem d_Maker_writeContents_23 : decode b_Maker_writeContents 23 = .ok (.aload_n 0, 1) := by decide +kernel
theorem d_Maker_writeContents_24 : decode b_Maker_writeContents 24 = .ok (.getfield 43, 3) := by decide +kernel
theorem d_Maker_writeContents_27 : decode b_Maker_writeContents 27 = .ok (.getfield 107, 3) := by decide +kernel
theorem d_Maker_writeContents_30 : decode b_Maker_writeContents 30 = .ok (.iload_n 1, 1) := by decide +kernel
theorem d_Maker_writeContents_31 : decode b_Maker_writeContents 31 = .ok (.aaload, 1) := by decide +kernel
theorem d_Maker_writeContents_32 : decode b_Maker_writeContents 32 = .ok (.aload_n 0, 1) := by decide +kernel
theorem d_Maker_writeContents_33 : decode b_Maker_writeContents 33 = .ok (.getfield 39, 3) := by decide +kernel
theorem d_Maker_writeContents_36 : decode b_Maker_writeContents 36 = .ok (.iload_n 1, 1) := by decide +kernel
theorem d_Maker_writeContents_37 : decode b_Maker_writeContents 37 = .ok (.iaload, 1) := by decide +kernel
theorem d_Maker_writeContents_38 : decode b_Maker_writeContents 38 = .ok (.sipush 2048, 3) := by decide +kernel
theorem d_Maker_writeContents_41 : decode b_Maker_writeContents 41 = .ok (.imul, 1) := by decide +kernel
theorem d_Maker_writeContents_42 : decode b_Maker_writeContents 42 = .ok (.invokevirtual 270, 3) := by decide +kernel
theorem d_Maker_writeContents_45 : decode b_Maker_writeContents 45 = .ok (.iinc 1 1, 3) := by decide +kernel
theorem d_Maker_writeContents_48 : decode b_Maker_writeContents 48 = .ok (.goto (-46), 3) := by decide +kernel
theorem d_Maker_writeContents_51 : decode b_Maker_writeContents 51 = .ok (.return_, 1) := by decide +kernel
set_option maxHeartbeats 4000000 in
set_option maxRecDepth 100000 in
theorem c3_writeContents (l : Launch) (D : va_G) (cB cI cJ cZ cN cF : ClassId) (sz : Nat) (m0 : Nat) (tr : Nat) (im : Nat) (fi : Nat) (se : Nat) (u0 : Nat) (id : Nat) (ct : Nat) (ra : Int32) (ru : Int32) (wg : Int32) (cc : Nat → Int32) (iq : Nat) (n : Nat) (L : Int32) (f : Nat → Int32) (ta : Nat) (cn : Int32) (dr : Int32) (na : Nat → Nat → Nat) (ng : Nat → Nat → Int32) (nn : Nat → Nat → Nat) (nf : Nat → Nat → Nat → Int32) (cm : Nat) (dt : Nat → Nat → Int) (hL : 0 ≤ L.toInt ∧ L.toInt ≤ n) (hn : n ≤ 3000000) (hcn : cn.toInt = cm) (hcm : cm ≤ 40) (htok : TOK cm ng nn) (hdt : DtC dt cm ng nn nf) : Met l y_Maker_writeContents w_Maker_writeContents ({ frames := 2, cells := 0, slots := 0, locals := 57 }) (va_Pc [.ref m0] (fun U => U.heap.size = sz ∧ va_P D CL [(m0, .inr (4, [.ref tr, .ref im, .ref fi, .ref se, .ref u0, .ref id, .ref ct, .int ra, .int ru, .int wg])), (ct, .inl (cI, 40, .inl cc)), (im, .inr (1, [.ref iq, .int L])), (iq, .inl (cB, n, .inl f))] U.heap ∧ va_K D CL (TY cB cI cJ cZ cN cF) U ∧ NN U ∧ va_D (fun _ => True) [(m0, .inr (4, [.ref tr, .ref im, .ref fi, .ref se, .ref u0, .ref id, .ref ct, .int ra, .int ru, .int wg])), (ct, .inl (cI, 40, .inl cc)), (im, .inr (1, [.ref iq, .int L])), (iq, .inl (cB, n, .inl f))] ∧ RO D (([(tr, .inr (10, [.ref ta, .int cn, .int dr])), (ta, .inl (cN, 40, .inr (.inr (.inr (.inr (rowF na cm))))))] : va_W) ++ (PL (NC cB na ng nn nf) cm)) (va_A [(m0, .inr (4, [.ref tr, .ref im, .ref fi, .ref se, .ref u0, .ref id, .ref ct, .int ra, .int ru, .int wg])), (ct, .inl (cI, 40, .inl cc)), (im, .inr (1, [.ref iq, .int L])), (iq, .inl (cB, n, .inl f))] sz) U U.heap)) (va_Qv (fun (u : (Nat → Int32)) => True) (fun (u : (Nat → Int32)) (t : State) => match u with | g => va_P D CL [(m0, .inr (4, [.ref tr, .ref im, .ref fi, .ref se, .ref u0, .ref id, .ref ct, .int ra, .int ru, .int wg])), (ct, .inl (cI, 40, .inl cc)), (im, .inr (1, [.ref iq, .int L])), (iq, .inl (cB, n, .inl g))] t.heap ∧ va_D (va_A [(m0, .inr (4, [.ref tr, .ref im, .ref fi, .ref se, .ref u0, .ref id, .ref ct, .int ra, .int ru, .int wg])), (ct, .inl (cI, 40, .inl cc)), (im, .inr (1, [.ref iq, .int L])), (iq, .inl (cB, n, .inl f))] sz) [(m0, .inr (4, [.ref tr, .ref im, .ref fi, .ref se, .ref u0, .ref id, .ref ct, .int ra, .int ru, .int wg])), (ct, .inl (cI, 40, .inl cc)), (im, .inr (1, [.ref iq, .int L])), (iq, .inl (cB, n, .inl g))]) (va_A [(m0, .inr (4, [.ref tr, .ref im, .ref fi, .ref se, .ref u0, .ref id, .ref ct, .int ra, .int ru, .int wg])), (ct, .inl (cI, 40, .inl cc)), (im, .inr (1, [.ref iq, .int L])), (iq, .inl (cB, n, .inl f))] sz)) 0 0 (va_A [(m0, .inr (4, [.ref tr, .ref im, .ref fi, .ref se, .ref u0, .ref id, .ref ct, .int ra, .int ru, .int wg])), (ct, .inl (cI, 40, .inl cc)), (im, .inr (1, [.ref iq, .int L])), (iq, .inl (cB, n, .inl f))] sz) := by
  refine Met.ofW (cc := b_Maker_writeContents) (maxL := 2) (ret := none) (by decide +kernel) rfl ?_
  intro p e s m args below meth c s₁ B hml hv
  obtain ⟨rfl, hsz, hP, hK, hN, hD0, hZr⟩ := hv
  have hx := B.exec
  have hb := B.bytes
  have hr := B.returns
  have hts := atoms_spec (ws := w_Maker_writeContents) B.pre
  have ht9 := fun (w : Cond) (h : w ∈ lw_g) => hts w (List.mem_cons_of_mem _ h)
  have hown : s.vm.findClass "DiscMaker$Maker" = some m.cls := findClass_of_methodNamed B.named
  have hlocks := B.notSynchronized
  subst hsz
  have hD := hD0.self (sz := s.heap.size)
  generalize hAe : va_A [(m0, .inr (4, [.ref tr, .ref im, .ref fi, .ref se, .ref u0, .ref id, .ref ct, .int ra, .int ru, .int wg])), (ct, .inl (cI, 40, .inl cc)), (im, .inr (1, [.ref iq, .int L])), (iq, .inl (cB, n, .inl f))] s.heap.size = A at hD hZr ⊢
  have hA : ∀ q : Nat, s.heap.size ≤ q → A q := fun q h => by rw [← hAe]; exact Or.inr h
  have hS : va_S A s.heap s.heap [] := va_S.rf
  have hP : va_P D CL [(m0, .inr (4, [.ref tr, .ref im, .ref fi, .ref se, .ref u0, .ref id, .ref ct, .int ra, .int ru, .int wg])), (ct, .inl (cI, 40, .inl cc)), (im, .inr (1, [.ref iq, .int L])), (iq, .inl (cB, n, .inl f))] s.heap := hP
  have hl := lv_entry [.ref m0] (n := 2) (Nat.le_of_ble_eq_true rfl)
  rw [lg_entry_eq]
  generalize (lg_sl [.ref m0] ++ List.replicate (2 - (lg_sl [.ref m0]).length) Slot.unset).toArray = ls at hl ⊢
  have hl : lv_has ls 2 [(0, .ref m0)] := hl
  have L_m1 : ((-1) : Int32).toInt = (-1) := by decide
  have L_0 : (0 : Int32).toInt = 0 := by decide
  have L_1 : (1 : Int32).toInt = 1 := by decide
  have L_2048 : (2048 : Int32).toInt = 2048 := by decide
  refine lv_iconst (v := 0) hx hb d_Maker_writeContents_0 (by decide) ?_
  refine lv_istore_n hx hb d_Maker_writeContents_1 rfl hl (by decide) rfl (fun ls hl => ?_)
  have hl : lv_has ls 2 [(1, .int 0), (0, .ref m0)] := hl
  refine zz_labM (B := fun (lk : Nat) (K : Heap → List Loc → Array Slot → List Value → Prop) => ∀ (kx : Int32) (lf : Nat → Int32) (H : Heap) (locs : List Loc) (ls : Array Slot), lk = (cn.toInt - kx.toInt).toNat → (0 ≤ kx.toInt ∧ kx.toInt ≤ cn.toInt) → va_P D CL [(m0, .inr (4, [.ref tr, .ref im, .ref fi, .ref se, .ref u0, .ref id, .ref ct, .int ra, .int ru, .int wg])), (ct, .inl (cI, 40, .inl cc)), (im, .inr (1, [.ref iq, .int L])), (iq, .inl (cB, n, .inl lf))] H → va_D A [(m0, .inr (4, [.ref tr, .ref im, .ref fi, .ref se, .ref u0, .ref id, .ref ct, .int ra, .int ru, .int wg])), (ct, .inl (cI, 40, .inl cc)), (im, .inr (1, [.ref iq, .int L])), (iq, .inl (cB, n, .inl lf))] → va_S A s.heap H locs → lv_has ls 2 [(0, .ref m0), (1, .int kx)] → K H locs ls []) 2 ?_ ?_
  · skip
    intro lk ih2 kx lf H locs ls hm2 e1 hP hD hS hl
    refine lv_iload_n hx hb d_Maker_writeContents_2 rfl (lv_at hl 1 rfl) ?_
    refine lv_aload_n hx hb d_Maker_writeContents_3 rfl (lv_at hl 0 rfl) ?_
    refine va_get (D := D) (ci := 4) (v := .ref tr) (C := "DiscMaker$Maker") (T := F_Maker) (N := 10) hx hb ht9 in_Maker hown hK hP 0 rfl rfl 0 (by decide) (ht9 _ k347) (fun _ h9 => h9) rfl d_Maker_writeContents_4 ?_
    have hPR := RO_at hZr hS
    refine va_getN (D := D) (ci := 10) (v := .int cn) (C := "DiscMaker$Tree") (T := F_Tree) (N := 3) hx hb ht9 in_Tree hown hK hPR 0 rfl rfl 1 (by decide) (va_Nw.use rfl (hN _ k241)) (fun _ h9 => h9) rfl d_Maker_writeContents_7 ?_
    refine lv_icmp_ge (tgt := 51) hx hb d_Maker_writeContents_10 (by decide) (fun h_9 => ?_) (fun h_9 => ?_)
    · skip
      have g10_7 : cn.toInt ≤ kx.toInt := (i_le rfl rfl).mp h_9
      have hP9 := hP.sub (ws' := [(m0, .inr (4, [.ref tr, .ref im, .ref fi, .ref se, .ref u0, .ref id, .ref ct, .int ra, .int ru, .int wg])), (ct, .inl (cI, 40, .inl cc)), (im, .inr (1, [.ref iq, .int L])), (iq, .inl (cB, n, .inl lf))]) [0, 1, 2, 3] rfl
      have hD9 := hD.sub (ws' := [(m0, .inr (4, [.ref tr, .ref im, .ref fi, .ref se, .ref u0, .ref id, .ref ct, .int ra, .int ru, .int wg])), (ct, .inl (cI, 40, .inl cc)), (im, .inr (1, [.ref iq, .int L])), (iq, .inl (cB, n, .inl lf))]) [0, 1, 2, 3] (by decide +kernel) rfl
      exact W.vret hx hb hr (fun t ht hW => ⟨⟨lf, rfl, trivial, by rw [ht]; exact hP9, hD9⟩, hS.F ht⟩) hS.2.2 d_Maker_writeContents_51
    · skip
      have g10_7 : ¬ cn.toInt ≤ kx.toInt := fun h8 => h_9 ((i_le rfl rfl).mpr h8)
      refine lv_aload_n hx hb d_Maker_writeContents_13 rfl (lv_at hl 0 rfl) ?_
      refine lv_iload_n hx hb d_Maker_writeContents_14 rfl (lv_at hl 1 rfl) ?_
      have hPc := hP.sub (ws' := [(m0, .inr (4, [.ref tr, .ref im, .ref fi, .ref se, .ref u0, .ref id, .ref ct, .int ra, .int ru, .int wg]))]) [0] rfl
      have hDc := hD.sub (ws' := [(m0, .inr (4, [.ref tr, .ref im, .ref fi, .ref se, .ref u0, .ref id, .ref ct, .int ra, .int ru, .int wg]))]) [0] (by decide +kernel) rfl
      have hFc := va_free (wc := [(m0, .inr (4, [.ref tr, .ref im, .ref fi, .ref se, .ref u0, .ref id, .ref ct, .int ra, .int ru, .int wg]))]) hD hS hA [0] rfl
      have hkc : 0 ≤ 0 := by decide
      have hks : 0 ≤ 0 := by decide
      refine va_calli (va_runV (C := "DiscMaker$Maker") (As := [.int kx]) (rest := []) ⟨hx, hb, hml, hown, hts⟩ (c3_firstWithContents l D cB cI cJ cZ cN cF H.size m0 tr im fi se u0 id ct ra ru wg ta cn dr na ng nn nf cm dt kx (by (try dsimp only); first | assumption | omega | trivial) (by (try dsimp only); first | assumption | omega | trivial) (by (try dsimp only); first | assumption | omega | trivial) (by (try dsimp only); first | assumption | omega | trivial) (by (try dsimp only); first | assumption | omega | trivial)) (cwV 1 hts (lg_goodV k1077 k1079 k24 k120 kc_Maker_firstWithContents) rfl rfl rfl (by decide +kernel) ⟨Nat.le_of_ble_eq_true rfl, Nat.le_of_ble_eq_true rfl⟩) ⟨fun a U g mk q => by obtain ⟨q0, q1, qP, qK, qN, qD, qZ0⟩ := q; exact ⟨q0, q1, qP, va_K.moved (u := U) (U := U.calling g mk a) (Vm.Alike.refl U.vm) qK, qN.calling, qD, RO_blind qZ0⟩, va_recv hK hP (ci := 4) (q0 := 0) rfl rfl, fun U hU hW => ⟨rfl, by rw [hU], by rw [hU]; exact hPc, va_K.moved hW.alike hK, NN.warm hW hN, hDc.weaken (fun _ _ _ _ => trivial), (RO_app (w1 := [(tr, .inr (10, [.ref ta, .int cn, .int dr]))]) (w2 := (([(ta, .inl (cN, 40, .inr (.inr (.inr (.inr (rowF na cm))))))] : va_W) ++ (PL (NC cB na ng nn nf) cm))) (RO_pass (RO_one hZr 0 rfl) hS hFc hU) (RO_app (w1 := [(ta, .inl (cN, 40, .inr (.inr (.inr (.inr (rowF na cm))))))]) (w2 := (PL (NC cB na ng nn nf) cm)) (RO_pass (RO_one hZr 1 rfl) hS hFc hU) (RO_pass (RO_tail (X := [(tr, .inr (10, [.ref ta, .int cn, .int dr])), (ta, .inl (cN, 40, .inr (.inr (.inr (.inr (rowF na cm))))))]) hZr) hS hFc hU)))⟩⟩ rfl rfl hl.1 rfl (lv_room (Nat.le_of_ble_eq_true rfl)) d_Maker_writeContents_15 ⟨hkc, hks⟩) hS (fun q _ h => hFc q h) hFc (fun r1 u t H1 locs ht hvm hp_r1 hB hz1 hk1 hS => ?_)
      obtain ⟨hP1, hD1⟩ := hB
      rw [ht] at hP1
      obtain ⟨hP, hD⟩ := va_join (wr := [(ct, .inl (cI, 40, .inl cc)), (im, .inr (1, [.ref iq, .int L])), (iq, .inl (cB, n, .inl lf))]) (w1 := [(m0, .inr (4, [.ref tr, .ref im, .ref fi, .ref se, .ref u0, .ref id, .ref ct, .int ra, .int ru, .int wg]))]) hP hD [0] [1, 2, 3] rfl rfl (by decide +kernel) (by decide +kernel) hk1 hFc hP1 hD1
      clear hPc hDc hFc hP1 hD1 hk1 hz1 hkc hks
      generalize H1 = H at hP hS ⊢
      have hP : va_P D CL [(ct, .inl (cI, 40, .inl cc)), (im, .inr (1, [.ref iq, .int L])), (iq, .inl (cB, n, .inl lf)), (m0, .inr (4, [.ref tr, .ref im, .ref fi, .ref se, .ref u0, .ref id, .ref ct, .int ra, .int ru, .int wg]))] H := hP
      have hD : va_D A [(ct, .inl (cI, 40, .inl cc)), (im, .inr (1, [.ref iq, .int L])), (iq, .inl (cB, n, .inl lf)), (m0, .inr (4, [.ref tr, .ref im, .ref fi, .ref se, .ref u0, .ref id, .ref ct, .int ra, .int ru, .int wg]))] := hD
      try dsimp only at hp_r1
      obtain ⟨hr_2, hn9_3⟩ := hp_r1
      refine lv_iload_n hx hb d_Maker_writeContents_18 rfl (lv_at hl 1 rfl) ?_
      refine lv_icmp_ne (tgt := 45) hx hb d_Maker_writeContents_19 (by decide) (fun h_9 => ?_) (fun h_9 => ?_)
      · skip
        have g19_13 : ¬ r1.toInt = kx.toInt := fun h8 => h_9 ((i_eq rfl rfl).mpr h8)
        obtain ⟨v4, e_v4⟩ : ∃ z : Int32, z = kx + 1 := ⟨_, rfl⟩
        refine lv_iinc (v := v4) hx hb d_Maker_writeContents_45 hl (k := 1) rfl e_v4.symm (by decide +kernel) rfl (fun ls hl => ?_)
        have t_v4 : v4.toInt = kx.toInt + 1 := by rw [e_v4]; exact i_add rfl (by decide) (by omega) (by omega)
        have hl : lv_has ls 2 [(1, .int v4), (0, .ref m0)] := hl
        refine lv_goto (tgt := 2) hx hb d_Maker_writeContents_48 (by decide) ?_
        have hP := hP.sub (ws' := [(m0, .inr (4, [.ref tr, .ref im, .ref fi, .ref se, .ref u0, .ref id, .ref ct, .int ra, .int ru, .int wg])), (ct, .inl (cI, 40, .inl cc)), (im, .inr (1, [.ref iq, .int L])), (iq, .inl (cB, n, .inl lf))]) [3, 0, 1, 2] rfl
        have hD := hD.sub (ws' := [(m0, .inr (4, [.ref tr, .ref im, .ref fi, .ref se, .ref u0, .ref id, .ref ct, .int ra, .int ru, .int wg])), (ct, .inl (cI, 40, .inl cc)), (im, .inr (1, [.ref iq, .int L])), (iq, .inl (cB, n, .inl lf))]) [3, 0, 1, 2] (by decide +kernel) rfl
        have hl := lv_sub hl [1, 0] rfl
        exact ih2 _ (by first | omega | (dsimp only; omega)) v4 lf _ _ _ rfl ((by (try dsimp only); first | assumption | omega | trivial)) hP hD hS hl
      · skip
        have g19_13 : r1.toInt = kx.toInt := (i_eq rfl rfl).mp h_9
        refine lv_aload_n hx hb d_Maker_writeContents_22 rfl (lv_at hl 0 rfl) ?_
        refine lv_aload_n hx hb d_Maker_writeContents_23 rfl (lv_at hl 0 rfl) ?_
        refine va_get (D := D) (ci := 4) (v := .ref tr) (C := "DiscMaker$Maker") (T := F_Maker) (N := 10) hx hb ht9 in_Maker hown hK hP 3 rfl rfl 0 (by decide) (ht9 _ k347) (fun _ h9 => h9) rfl d_Maker_writeContents_24 ?_
        have hPR := RO_at hZr hS
        refine va_getN (D := D) (ci := 10) (v := .ref ta) (C := "DiscMaker$Tree") (T := F_Tree) (N := 3) hx hb ht9 in_Tree hown hK hPR 0 rfl rfl 0 (by decide) (va_Nw.use rfl (hN _ k237)) (fun _ h9 => h9) rfl d_Maker_writeContents_27 ?_
        refine lv_iload_n hx hb d_Maker_writeContents_30 rfl (lv_at hl 1 rfl) ?_
        have hPR := RO_at hZr hS
        refine va_aldq hx hb hK hPR 1 4 rfl rfl (vp_in_iff.mpr ⟨by omega, by omega⟩) d_Maker_writeContents_31 ?_
        have c_hk5 := i_cl (a := kx) (by omega)
        have hk5 : kx.toNatClampNeg < cm := by omega
        have o_hk5 := htok kx.toNatClampNeg hk5
        obtain ⟨i_hj6, hj6⟩ : ∃ j : Nat, (PL (NC cB na ng nn nf) cm)[j]? = some ((na kx.toNatClampNeg 0), .inr (5, [.int (ng kx.toNatClampNeg 0), .ref (na kx.toNatClampNeg 1), .ref (na kx.toNatClampNeg 2), .ref (na kx.toNatClampNeg 3), .int (ng kx.toNatClampNeg 1), .int (ng kx.toNatClampNeg 2), .int (ng kx.toNatClampNeg 3), .int (ng kx.toNatClampNeg 4), .int (ng kx.toNatClampNeg 5), .int (ng kx.toNatClampNeg 6), .int (ng kx.toNatClampNeg 7), .int (ng kx.toNatClampNeg 8)])) := PL_get (i := 0) hk5 rfl
        obtain ⟨i_hj7, hj7⟩ : ∃ j : Nat, (PL (NC cB na ng nn nf) cm)[j]? = some ((na kx.toNatClampNeg 1), .inl (cB, (nn kx.toNatClampNeg 1), .inl (nf kx.toNatClampNeg 1))) := PL_get (i := 1) hk5 rfl
        obtain ⟨i_hj8, hj8⟩ : ∃ j : Nat, (PL (NC cB na ng nn nf) cm)[j]? = some ((na kx.toNatClampNeg 2), .inl (cB, 11, .inl (nf kx.toNatClampNeg 2))) := PL_get (i := 2) hk5 rfl
        obtain ⟨i_hj9, hj9⟩ : ∃ j : Nat, (PL (NC cB na ng nn nf) cm)[j]? = some ((na kx.toNatClampNeg 3), .inl (cB, (nn kx.toNatClampNeg 3), .inl (nf kx.toNatClampNeg 3))) := PL_get (i := 3) hk5 rfl
        refine W.eq (g2 := F0 m 32 ls [.ref (na kx.toNatClampNeg 0), .ref m0]) (by rw [show rowF na cm kx.toNatClampNeg = some (na kx.toNatClampNeg 0) from rowF_some hk5]; rfl) ?_
        refine lv_aload_n hx hb d_Maker_writeContents_32 rfl (lv_at hl 0 rfl) ?_
        refine va_get (D := D) (ci := 4) (v := .ref ct) (C := "DiscMaker$Maker") (T := F_Maker) (N := 10) hx hb ht9 in_Maker hown hK hP 3 rfl rfl 6 (by decide) (ht9 _ k353) (fun _ h9 => h9) rfl d_Maker_writeContents_33 ?_
        refine lv_iload_n hx hb d_Maker_writeContents_36 rfl (lv_at hl 1 rfl) ?_
        refine va_iald hx hb hK hP 0 1 rfl rfl (vp_in_iff.mpr ⟨by omega, by omega⟩) d_Maker_writeContents_37 ?_
        refine lv_topi (fun v10 e_v10 => ?_)
        refine lv_sipush (v := 2048) hx hb d_Maker_writeContents_38 (by decide) ?_
        refine lv_imul hx hb d_Maker_writeContents_41 ?_
        refine lv_topi (fun v11 e_v11 => ?_)
        have hPc := hP.sub (ws' := [(m0, .inr (4, [.ref tr, .ref im, .ref fi, .ref se, .ref u0, .ref id, .ref ct, .int ra, .int ru, .int wg])), (im, .inr (1, [.ref iq, .int L])), (iq, .inl (cB, n, .inl lf))]) [3, 1, 2] rfl
        have hDc := hD.sub (ws' := [(m0, .inr (4, [.ref tr, .ref im, .ref fi, .ref se, .ref u0, .ref id, .ref ct, .int ra, .int ru, .int wg])), (im, .inr (1, [.ref iq, .int L])), (iq, .inl (cB, n, .inl lf))]) [3, 1, 2] (by decide +kernel) rfl
        have hFc := va_free (wc := [(m0, .inr (4, [.ref tr, .ref im, .ref fi, .ref se, .ref u0, .ref id, .ref ct, .int ra, .int ru, .int wg])), (im, .inr (1, [.ref iq, .int L])), (iq, .inl (cB, n, .inl lf))]) hD hS hA [3, 1, 2] rfl
        have hkc : 0 ≤ 0 := by decide
        have hks : 0 ≤ 0 := by decide
        refine va_callv (va_runV (C := "DiscMaker$Maker") (As := [.ref (na kx.toNatClampNeg 0), .int v11]) (rest := []) ⟨hx, hb, hml, hown, hts⟩ (c3_writeBytes l D cB cI cJ cZ cN cF H.size m0 tr im fi se u0 id ct ra ru wg iq n L lf (na kx.toNatClampNeg 0) (na kx.toNatClampNeg 1) (na kx.toNatClampNeg 2) (na kx.toNatClampNeg 3) (ng kx.toNatClampNeg 0) (ng kx.toNatClampNeg 1) (ng kx.toNatClampNeg 2) (ng kx.toNatClampNeg 3) (ng kx.toNatClampNeg 4) (ng kx.toNatClampNeg 5) (ng kx.toNatClampNeg 6) (ng kx.toNatClampNeg 7) (ng kx.toNatClampNeg 8) v11 (by (try dsimp only); first | assumption | omega | trivial) (by (try dsimp only); first | assumption | omega | trivial) (by (try dsimp only); first | assumption | omega | trivial)) (cwV 2 hts (lg_goodV k1119 k1121 k30 k120 kc_Maker_writeBytes) rfl rfl rfl (by decide +kernel) ⟨Nat.le_of_ble_eq_true rfl, Nat.le_of_ble_eq_true rfl⟩) ⟨fun a U g mk q => by obtain ⟨q0, q1, qP, qK, qN, qD, qZ0⟩ := q; exact ⟨q0, q1, qP, va_K.moved (u := U) (U := U.calling g mk a) (Vm.Alike.refl U.vm) qK, qN.calling, qD, RO_blind qZ0⟩, va_recv hK hP (ci := 4) (q0 := 3) rfl rfl, fun U hU hW => ⟨rfl, by rw [hU], by rw [hU]; exact hPc, va_K.moved hW.alike hK, NN.warm hW hN, hDc.weaken (fun _ _ _ _ => trivial), (RO_pass (RO_one hZr _ (pix (X := [(tr, .inr (10, [.ref ta, .int cn, .int dr])), (ta, .inl (cN, 40, .inr (.inr (.inr (.inr (rowF na cm))))))]) hj6)) hS hFc hU)⟩⟩ rfl rfl hl.1 rfl (lv_room (Nat.le_of_ble_eq_true rfl)) d_Maker_writeContents_42 ⟨hkc, hks⟩) hS (fun q _ h => hFc q h) hFc (fun u t H1 locs ht hvm hp_r12 hB hz1 hk1 hS => ?_)
        obtain ⟨g_13, rfl⟩ : ∃ z, z = u := ⟨_, rfl⟩
        obtain ⟨hP1, hD1⟩ := hB
        rw [ht] at hP1
        obtain ⟨hP, hD⟩ := va_join (wr := [(ct, .inl (cI, 40, .inl cc))]) (w1 := [(m0, .inr (4, [.ref tr, .ref im, .ref fi, .ref se, .ref u0, .ref id, .ref ct, .int ra, .int ru, .int wg])), (im, .inr (1, [.ref iq, .int L])), (iq, .inl (cB, n, .inl g_13))]) hP hD [3, 1, 2] [0] rfl rfl (by decide +kernel) (by decide +kernel) hk1 hFc hP1 hD1
        clear hPc hDc hFc hP1 hD1 hk1 hz1 hkc hks
        generalize H1 = H at hP hS ⊢
        have hP : va_P D CL [(ct, .inl (cI, 40, .inl cc)), (m0, .inr (4, [.ref tr, .ref im, .ref fi, .ref se, .ref u0, .ref id, .ref ct, .int ra, .int ru, .int wg])), (im, .inr (1, [.ref iq, .int L])), (iq, .inl (cB, n, .inl g_13))] H := hP
        have hD : va_D A [(ct, .inl (cI, 40, .inl cc)), (m0, .inr (4, [.ref tr, .ref im, .ref fi, .ref se, .ref u0, .ref id, .ref ct, .int ra, .int ru, .int wg])), (im, .inr (1, [.ref iq, .int L])), (iq, .inl (cB, n, .inl g_13))] := hD
        obtain ⟨v14, e_v14⟩ : ∃ z : Int32, z = kx + 1 := ⟨_, rfl⟩
        refine lv_iinc (v := v14) hx hb d_Maker_writeContents_45 hl (k := 1) rfl e_v14.symm (by decide +kernel) rfl (fun ls hl => ?_)
        have t_v14 : v14.toInt = kx.toInt + 1 := by rw [e_v14]; exact i_add rfl (by decide) (by omega) (by omega)
        have hl : lv_has ls 2 [(1, .int v14), (0, .ref m0)] := hl
        refine lv_goto (tgt := 2) hx hb d_Maker_writeContents_48 (by decide) ?_
        have hP := hP.sub (ws' := [(m0, .inr (4, [.ref tr, .ref im, .ref fi, .ref se, .ref u0, .ref id, .ref ct, .int ra, .int ru, .int wg])), (ct, .inl (cI, 40, .inl cc)), (im, .inr (1, [.ref iq, .int L])), (iq, .inl (cB, n, .inl g_13))]) [1, 0, 2, 3] rfl
        have hD := hD.sub (ws' := [(m0, .inr (4, [.ref tr, .ref im, .ref fi, .ref se, .ref u0, .ref id, .ref ct, .int ra, .int ru, .int wg])), (ct, .inl (cI, 40, .inl cc)), (im, .inr (1, [.ref iq, .int L])), (iq, .inl (cB, n, .inl g_13))]) [1, 0, 2, 3] (by decide +kernel) rfl
        have hl := lv_sub hl [1, 0] rfl
        exact ih2 _ (by first | omega | (dsimp only; omega)) v14 g_13 _ _ _ rfl ((by (try dsimp only); first | assumption | omega | trivial)) hP hD hS hl
  · skip
    intro kk2
    have hP := hP.sub (ws' := [(m0, .inr (4, [.ref tr, .ref im, .ref fi, .ref se, .ref u0, .ref id, .ref ct, .int ra, .int ru, .int wg])), (ct, .inl (cI, 40, .inl cc)), (im, .inr (1, [.ref iq, .int L])), (iq, .inl (cB, n, .inl f))]) [0, 1, 2, 3] rfl
    have hD := hD.sub (ws' := [(m0, .inr (4, [.ref tr, .ref im, .ref fi, .ref se, .ref u0, .ref id, .ref ct, .int ra, .int ru, .int wg])), (ct, .inl (cI, 40, .inl cc)), (im, .inr (1, [.ref iq, .int L])), (iq, .inl (cB, n, .inl f))]) [0, 1, 2, 3] (by decide +kernel) rfl
    have hl := lv_sub hl [1, 0] rfl
    exact kk2 _ 0 f _ _ _ rfl ((by (try dsimp only); first | assumption | omega | trivial)) hP hD hS hl

theorem d_Maker_writePathHead_0 : decode b_Maker_writePathHead 0 = .ok (.aload_n 0, 1) := by decide +kernel
theorem d_Maker_writePathHead_1 : decode b_Maker_writePathHead 1 = .ok (.getfield 47, 3) := by decide +kernel
theorem d_Maker_writePathHead_4 : decode b_Maker_writePathHead 4 = .ok (.iload_n 1, 1) := by decide +kernel
theorem d_Maker_writePathHead_5 : decode b_Maker_writePathHead 5 = .ok (.aload_n 0, 1) := by decide +kernel
theorem d_Maker_writePathHead_6 : decode b_Maker_writePathHead 6 = .ok (.getfield 35, 3) := by decide +kernel
theorem d_Maker_writePathHead_9 : decode b_Maker_writePathHead 9 = .ok (.getfield 60, 3) := by decide +kernel
theorem d_Maker_writePathHead_12 : decode b_Maker_writePathHead 12 = .ok (.invokevirtual 196, 3) := by decide +kernel
theorem d_Maker_writePathHead_15 : decode b_Maker_writePathHead 15 = .ok (.aload_n 0, 1) := by decide +kernel
theorem d_Maker_writePathHead_16 : decode b_Maker_writePathHead 16 = .ok (.getfield 35, 3) := by decide +kernel
theorem d_Maker_writePathHead_19 : decode b_Maker_writePathHead 19 = .ok (.aload_n 0, 1) := by decide +kernel
theorem d_Maker_writePathHead_20 : decode b_Maker_writePathHead 20 = .ok (.getfield 47, 3) := by decide +kernel
theorem d_Maker_writePathHead_23 : decode b_Maker_writePathHead 23 = .ok (.iconst 0, 1) := by decide +kernel
theorem d_Maker_writePathHead_24 : decode b_Maker_writePathHead 24 = .ok (.iload_n 1, 1) := by decide +kernel
theorem d_Maker_writePathHead_25 : decode b_Maker_writePathHead 25 = .ok (.bipush 8, 2) := by decide +kernel
theorem d_Maker_writePathHead_27 : decode b_Maker_writePathHead 27 = .ok (.iadd, 1) := by decide +kernel
theorem d_Maker_writePathHead_28 : decode b_Maker_writePathHead 28 = .ok (.aload_n 0, 1) := by decide +kernel
theorem d_Maker_writePathHead_29 : decode b_Maker_writePathHead 29 = .ok (.getfield 35, 3) := by decide +kernel
theorem d_Maker_writePathHead_32 : decode b_Maker_writePathHead 32 = .ok (.getfield 60, 3) := by decide +kernel
theorem d_Maker_writePathHead_35 : decode b_Maker_writePathHead 35 = .ok (.invokevirtual 236, 3) := by decide +kernel
theorem d_Maker_writePathHead_38 : decode b_Maker_writePathHead 38 = .ok (.return_, 1) := by decide +kernel
set_option maxHeartbeats 4000000 in
set_option maxRecDepth 100000 in
theorem c3_writePathHead (l : Launch) (D : va_G) (cB cI cJ cZ cN cF : ClassId) (sz : Nat) (m0 : Nat) (tr : Nat) (im : Nat) (fi : Nat) (se : Nat) (u0 : Nat) (id : Nat) (ct : Nat) (ra : Int32) (ru : Int32) (wg : Int32) (jq : Nat) (il : Int32) (jf : Nat → Int32) (iq : Nat) (n : Nat) (L : Int32) (f : Nat → Int32) (x : Int32) (hL : 0 ≤ L.toInt ∧ L.toInt ≤ n) (hn : n ≤ 3000000) (hil : 0 ≤ il.toInt ∧ il.toInt ≤ 60) : Met l y_Maker_writePathHead w_Maker_writePathHead ({ frames := 2, cells := 0, slots := 0, locals := 59 }) (va_Pc [.ref m0, .int x] (fun U => U.heap.size = sz ∧ va_P D CL [(m0, .inr (4, [.ref tr, .ref im, .ref fi, .ref se, .ref u0, .ref id, .ref ct, .int ra, .int ru, .int wg])), (id, .inr (1, [.ref jq, .int il])), (jq, .inl (cB, 60, .inl jf)), (im, .inr (1, [.ref iq, .int L])), (iq, .inl (cB, n, .inl f))] U.heap ∧ va_K D CL (TY cB cI cJ cZ cN cF) U ∧ NN U ∧ va_D (fun _ => True) [(m0, .inr (4, [.ref tr, .ref im, .ref fi, .ref se, .ref u0, .ref id, .ref ct, .int ra, .int ru, .int wg])), (id, .inr (1, [.ref jq, .int il])), (jq, .inl (cB, 60, .inl jf)), (im, .inr (1, [.ref iq, .int L])), (iq, .inl (cB, n, .inl f))])) (va_Qv (fun (u : (Nat → Int32)) => True) (fun (u : (Nat → Int32)) (t : State) => match u with | g => va_P D CL [(m0, .inr (4, [.ref tr, .ref im, .ref fi, .ref se, .ref u0, .ref id, .ref ct, .int ra, .int ru, .int wg])), (id, .inr (1, [.ref jq, .int il])), (jq, .inl (cB, 60, .inl jf)), (im, .inr (1, [.ref iq, .int L])), (iq, .inl (cB, n, .inl g))] t.heap ∧ va_D (va_A [(m0, .inr (4, [.ref tr, .ref im, .ref fi, .ref se, .ref u0, .ref id, .ref ct, .int ra, .int ru, .int wg])), (id, .inr (1, [.ref jq, .int il])), (jq, .inl (cB, 60, .inl jf)), (im, .inr (1, [.ref iq, .int L])), (iq, .inl (cB, n, .inl f))] sz) [(m0, .inr (4, [.ref tr, .ref im, .ref fi, .ref se, .ref u0, .ref id, .ref ct, .int ra, .int ru, .int wg])), (id, .inr (1, [.ref jq, .int il])), (jq, .inl (cB, 60, .inl jf)), (im, .inr (1, [.ref iq, .int L])), (iq, .inl (cB, n, .inl g))]) (va_A [(m0, .inr (4, [.ref tr, .ref im, .ref fi, .ref se, .ref u0, .ref id, .ref ct, .int ra, .int ru, .int wg])), (id, .inr (1, [.ref jq, .int il])), (jq, .inl (cB, 60, .inl jf)), (im, .inr (1, [.ref iq, .int L])), (iq, .inl (cB, n, .inl f))] sz)) 0 0 (va_A [(m0, .inr (4, [.ref tr, .ref im, .ref fi, .ref se, .ref u0, .ref id, .ref ct, .int ra, .int ru, .int wg])), (id, .inr (1, [.ref jq, .int il])), (jq, .inl (cB, 60, .inl jf)), (im, .inr (1, [.ref iq, .int L])), (iq, .inl (cB, n, .inl f))] sz) := by
  refine Met.ofW (cc := b_Maker_writePathHead) (maxL := 2) (ret := none) (by decide +kernel) rfl ?_
  intro p e s m args below meth c s₁ B hml hv
  obtain ⟨rfl, hsz, hP, hK, hN, hD0⟩ := hv
  have hx := B.exec
  have hb := B.bytes
  have hr := B.returns
  have hts := atoms_spec (ws := w_Maker_writePathHead) B.pre
  have ht9 := fun (w : Cond) (h : w ∈ lw_g) => hts w (List.mem_cons_of_mem _ h)
  have hown : s.vm.findClass "DiscMaker$Maker" = some m.cls := findClass_of_methodNamed B.named
  have hlocks := B.notSynchronized
  subst hsz
  have hD := hD0.self (sz := s.heap.size)
  generalize hAe : va_A [(m0, .inr (4, [.ref tr, .ref im, .ref fi, .ref se, .ref u0, .ref id, .ref ct, .int ra, .int ru, .int wg])), (id, .inr (1, [.ref jq, .int il])), (jq, .inl (cB, 60, .inl jf)), (im, .inr (1, [.ref iq, .int L])), (iq, .inl (cB, n, .inl f))] s.heap.size = A at hD ⊢
  have hA : ∀ q : Nat, s.heap.size ≤ q → A q := fun q h => by rw [← hAe]; exact Or.inr h
  have hS : va_S A s.heap s.heap [] := va_S.rf
  have hP : va_P D CL [(m0, .inr (4, [.ref tr, .ref im, .ref fi, .ref se, .ref u0, .ref id, .ref ct, .int ra, .int ru, .int wg])), (id, .inr (1, [.ref jq, .int il])), (jq, .inl (cB, 60, .inl jf)), (im, .inr (1, [.ref iq, .int L])), (iq, .inl (cB, n, .inl f))] s.heap := hP
  have hl := lv_entry [.ref m0, .int x] (n := 2) (Nat.le_of_ble_eq_true rfl)
  rw [lg_entry_eq]
  generalize (lg_sl [.ref m0, .int x] ++ List.replicate (2 - (lg_sl [.ref m0, .int x]).length) Slot.unset).toArray = ls at hl ⊢
  have hl : lv_has ls 2 [(0, .ref m0), (1, .int x)] := hl
  have L_m1 : ((-1) : Int32).toInt = (-1) := by decide
  have L_0 : (0 : Int32).toInt = 0 := by decide
  have L_1 : (1 : Int32).toInt = 1 := by decide
  have L_8 : (8 : Int32).toInt = 8 := by decide
  refine lv_aload_n hx hb d_Maker_writePathHead_0 rfl (lv_at hl 0 rfl) ?_
  refine va_get (D := D) (ci := 4) (v := .ref im) (C := "DiscMaker$Maker") (T := F_Maker) (N := 10) hx hb ht9 in_Maker hown hK hP 0 rfl rfl 1 (by decide) (ht9 _ k348) (fun _ h9 => h9) rfl d_Maker_writePathHead_1 ?_
  refine lv_iload_n hx hb d_Maker_writePathHead_4 rfl (lv_at hl 1 rfl) ?_
  refine lv_aload_n hx hb d_Maker_writePathHead_5 rfl (lv_at hl 0 rfl) ?_
  refine va_get (D := D) (ci := 4) (v := .ref id) (C := "DiscMaker$Maker") (T := F_Maker) (N := 10) hx hb ht9 in_Maker hown hK hP 0 rfl rfl 5 (by decide) (ht9 _ k352) (fun _ h9 => h9) rfl d_Maker_writePathHead_6 ?_
  refine va_getN (D := D) (ci := 1) (v := .int il) (C := "DiscMaker$Bytes") (T := F_Bytes) (N := 2) hx hb ht9 in_Bytes hown hK hP 1 rfl rfl 1 (by decide) (va_Nw.use rfl (hN _ k257)) (fun _ h9 => h9) rfl d_Maker_writePathHead_9 ?_
  have hPc := hP.sub (ws' := [(im, .inr (1, [.ref iq, .int L])), (iq, .inl (cB, n, .inl f))]) [3, 4] rfl
  have hDc := hD.sub (ws' := [(im, .inr (1, [.ref iq, .int L])), (iq, .inl (cB, n, .inl f))]) [3, 4] (by decide +kernel) rfl
  have hFc := va_free (wc := [(im, .inr (1, [.ref iq, .int L])), (iq, .inl (cB, n, .inl f))]) hD hS hA [3, 4] rfl
  have hkc : 0 ≤ 0 := by decide
  have hks : 0 ≤ 0 := by decide
  refine va_callv (va_runV (C := "DiscMaker$Bytes") (As := [.int x, .int il]) (rest := []) ⟨hx, hb, hml, hown, hts⟩ (c3_put l D cB cI cJ cZ cN cF s.heap.size im iq n L f x il (by (try dsimp only); first | assumption | omega | trivial) (by (try dsimp only); first | assumption | omega | trivial)) (cwV 2 hts (lg_goodV k978 k912 k913 k119 kc_Bytes_put) rfl rfl rfl (by decide +kernel) ⟨Nat.le_of_ble_eq_true rfl, Nat.le_of_ble_eq_true rfl⟩) ⟨fun a U g mk q => by obtain ⟨q0, q1, qP, qK, qN, qD⟩ := q; exact ⟨q0, q1, qP, va_K.moved (u := U) (U := U.calling g mk a) (Vm.Alike.refl U.vm) qK, qN.calling, qD⟩, va_recv hK hP (ci := 1) (q0 := 3) rfl rfl, fun U hU hW => ⟨rfl, by rw [hU], by rw [hU]; exact hPc, va_K.moved hW.alike hK, NN.warm hW hN, hDc.weaken (fun _ _ _ _ => trivial)⟩⟩ rfl rfl hl.1 rfl (lv_room (Nat.le_of_ble_eq_true rfl)) d_Maker_writePathHead_12 ⟨hkc, hks⟩) hS (fun q _ h => hFc q h) hFc (fun u t H1 locs ht hvm hp_r1 hB hz1 hk1 hS => ?_)
  obtain ⟨g_2, rfl⟩ : ∃ z, z = u := ⟨_, rfl⟩
  obtain ⟨hP1, hD1⟩ := hB
  rw [ht] at hP1
  obtain ⟨hP, hD⟩ := va_join (wr := [(m0, .inr (4, [.ref tr, .ref im, .ref fi, .ref se, .ref u0, .ref id, .ref ct, .int ra, .int ru, .int wg])), (id, .inr (1, [.ref jq, .int il])), (jq, .inl (cB, 60, .inl jf))]) (w1 := [(im, .inr (1, [.ref iq, .int L])), (iq, .inl (cB, n, .inl g_2))]) hP hD [3, 4] [0, 1, 2] rfl rfl (by decide +kernel) (by decide +kernel) hk1 hFc hP1 hD1
  clear hPc hDc hFc hP1 hD1 hk1 hz1 hkc hks
  generalize H1 = H at hP hS ⊢
  have hP : va_P D CL [(m0, .inr (4, [.ref tr, .ref im, .ref fi, .ref se, .ref u0, .ref id, .ref ct, .int ra, .int ru, .int wg])), (id, .inr (1, [.ref jq, .int il])), (jq, .inl (cB, 60, .inl jf)), (im, .inr (1, [.ref iq, .int L])), (iq, .inl (cB, n, .inl g_2))] H := hP
  have hD : va_D A [(m0, .inr (4, [.ref tr, .ref im, .ref fi, .ref se, .ref u0, .ref id, .ref ct, .int ra, .int ru, .int wg])), (id, .inr (1, [.ref jq, .int il])), (jq, .inl (cB, 60, .inl jf)), (im, .inr (1, [.ref iq, .int L])), (iq, .inl (cB, n, .inl g_2))] := hD
  refine lv_aload_n hx hb d_Maker_writePathHead_15 rfl (lv_at hl 0 rfl) ?_
  refine va_get (D := D) (ci := 4) (v := .ref id) (C := "DiscMaker$Maker") (T := F_Maker) (N := 10) hx hb ht9 in_Maker hown hK hP 0 rfl rfl 5 (by decide) (ht9 _ k352) (fun _ h9 => h9) rfl d_Maker_writePathHead_16 ?_
  refine lv_aload_n hx hb d_Maker_writePathHead_19 rfl (lv_at hl 0 rfl) ?_
  refine va_get (D := D) (ci := 4) (v := .ref im) (C := "DiscMaker$Maker") (T := F_Maker) (N := 10) hx hb ht9 in_Maker hown hK hP 0 rfl rfl 1 (by decide) (ht9 _ k348) (fun _ h9 => h9) rfl d_Maker_writePathHead_20 ?_
  refine lv_iconst (v := 0) hx hb d_Maker_writePathHead_23 (by decide) ?_
  refine lv_iload_n hx hb d_Maker_writePathHead_24 rfl (lv_at hl 1 rfl) ?_
  refine lv_bipush (v := 8) hx hb d_Maker_writePathHead_25 (by decide) ?_
  refine lv_iadd hx hb d_Maker_writePathHead_27 ?_
  refine lv_topi (fun v3 e_v3 => ?_)
  refine lv_aload_n hx hb d_Maker_writePathHead_28 rfl (lv_at hl 0 rfl) ?_
  refine va_get (D := D) (ci := 4) (v := .ref id) (C := "DiscMaker$Maker") (T := F_Maker) (N := 10) hx hb ht9 in_Maker hown hK hP 0 rfl rfl 5 (by decide) (ht9 _ k352) (fun _ h9 => h9) rfl d_Maker_writePathHead_29 ?_
  refine va_getN (D := D) (ci := 1) (v := .int il) (C := "DiscMaker$Bytes") (T := F_Bytes) (N := 2) hx hb ht9 in_Bytes hown hK hP 1 rfl rfl 1 (by decide) (va_Nw.use rfl (hN _ k257)) (fun _ h9 => h9) rfl d_Maker_writePathHead_32 ?_
  have hPc := hP.sub (ws' := [(id, .inr (1, [.ref jq, .int il])), (jq, .inl (cB, 60, .inl jf)), (im, .inr (1, [.ref iq, .int L])), (iq, .inl (cB, n, .inl g_2))]) [1, 2, 3, 4] rfl
  have hDc := hD.sub (ws' := [(id, .inr (1, [.ref jq, .int il])), (jq, .inl (cB, 60, .inl jf)), (im, .inr (1, [.ref iq, .int L])), (iq, .inl (cB, n, .inl g_2))]) [1, 2, 3, 4] (by decide +kernel) rfl
  have hFc := va_free (wc := [(id, .inr (1, [.ref jq, .int il])), (jq, .inl (cB, 60, .inl jf)), (im, .inr (1, [.ref iq, .int L])), (iq, .inl (cB, n, .inl g_2))]) hD hS hA [1, 2, 3, 4] rfl
  have hkc : 0 ≤ 0 := by decide
  have hks : 0 ≤ 0 := by decide
  refine va_callv (va_runV (C := "DiscMaker$Bytes") (As := [.ref im, .int 0, .int v3, .int il]) (rest := []) ⟨hx, hb, hml, hown, hts⟩ (c3_copyTo l D cB cI cJ cZ cN cF H.size id jq 60 il jf im iq n L g_2 0 v3 il (by (try dsimp only); first | assumption | omega | trivial) (by (try dsimp only); first | assumption | omega | trivial) (by (try dsimp only); first | assumption | omega | trivial) (by (try dsimp only); first | assumption | omega | trivial)) (cwV 4 hts (lg_goodV k1060 k1061 k1062 k119 kc_Bytes_copyTo) rfl rfl rfl (by decide +kernel) ⟨Nat.le_of_ble_eq_true rfl, Nat.le_of_ble_eq_true rfl⟩) ⟨fun a U g mk q => by obtain ⟨q0, q1, qP, qK, qN, qD⟩ := q; exact ⟨q0, q1, qP, va_K.moved (u := U) (U := U.calling g mk a) (Vm.Alike.refl U.vm) qK, qN.calling, qD⟩, va_recv hK hP (ci := 1) (q0 := 1) rfl rfl, fun U hU hW => ⟨rfl, by rw [hU], by rw [hU]; exact hPc, va_K.moved hW.alike hK, NN.warm hW hN, hDc.weaken (fun _ _ _ _ => trivial)⟩⟩ rfl rfl hl.1 rfl (lv_room (Nat.le_of_ble_eq_true rfl)) d_Maker_writePathHead_35 ⟨hkc, hks⟩) hS (fun q _ h => hFc q h) hFc (fun u t H1 locs ht hvm hp_r4 hB hz1 hk1 hS => ?_)
  obtain ⟨g_5, rfl⟩ : ∃ z, z = u := ⟨_, rfl⟩
  obtain ⟨hP1, hD1⟩ := hB
  rw [ht] at hP1
  obtain ⟨hP, hD⟩ := va_join (wr := [(m0, .inr (4, [.ref tr, .ref im, .ref fi, .ref se, .ref u0, .ref id, .ref ct, .int ra, .int ru, .int wg]))]) (w1 := [(id, .inr (1, [.ref jq, .int il])), (jq, .inl (cB, 60, .inl jf)), (im, .inr (1, [.ref iq, .int L])), (iq, .inl (cB, n, .inl g_5))]) hP hD [1, 2, 3, 4] [0] rfl rfl (by decide +kernel) (by decide +kernel) hk1 hFc hP1 hD1
  clear hPc hDc hFc hP1 hD1 hk1 hz1 hkc hks
  generalize H1 = H at hP hS ⊢
  have hP : va_P D CL [(m0, .inr (4, [.ref tr, .ref im, .ref fi, .ref se, .ref u0, .ref id, .ref ct, .int ra, .int ru, .int wg])), (id, .inr (1, [.ref jq, .int il])), (jq, .inl (cB, 60, .inl jf)), (im, .inr (1, [.ref iq, .int L])), (iq, .inl (cB, n, .inl g_5))] H := hP
  have hD : va_D A [(m0, .inr (4, [.ref tr, .ref im, .ref fi, .ref se, .ref u0, .ref id, .ref ct, .int ra, .int ru, .int wg])), (id, .inr (1, [.ref jq, .int il])), (jq, .inl (cB, 60, .inl jf)), (im, .inr (1, [.ref iq, .int L])), (iq, .inl (cB, n, .inl g_5))] := hD
  have hP9 := hP.sub (ws' := [(m0, .inr (4, [.ref tr, .ref im, .ref fi, .ref se, .ref u0, .ref id, .ref ct, .int ra, .int ru, .int wg])), (id, .inr (1, [.ref jq, .int il])), (jq, .inl (cB, 60, .inl jf)), (im, .inr (1, [.ref iq, .int L])), (iq, .inl (cB, n, .inl g_5))]) [0, 1, 2, 3, 4] rfl
  have hD9 := hD.sub (ws' := [(m0, .inr (4, [.ref tr, .ref im, .ref fi, .ref se, .ref u0, .ref id, .ref ct, .int ra, .int ru, .int wg])), (id, .inr (1, [.ref jq, .int il])), (jq, .inl (cB, 60, .inl jf)), (im, .inr (1, [.ref iq, .int L])), (iq, .inl (cB, n, .inl g_5))]) [0, 1, 2, 3, 4] (by decide +kernel) rfl
  exact W.vret hx hb hr (fun t ht hW => ⟨⟨g_5, rfl, trivial, by rw [ht]; exact hP9, hD9⟩, hS.F ht⟩) hS.2.2 d_Maker_writePathHead_38

theorem d_Maker_writeDescriptorHead_0 : decode b_Maker_writeDescriptorHead 0 = .ok (.aload_n 0, 1) := by decide +kernel
theorem d_Maker_writeDescriptorHead_1 : decode b_Maker_writeDescriptorHead 1 = .ok (.getfield 47, 3) := by decide +kernel
theorem d_Maker_writeDescriptorHead_4 : decode b_Maker_writeDescriptorHead 4 = .ok (.iload_n 1, 1) := by decide +kernel
theorem d_Maker_writeDescriptorHead_5 : decode b_Maker_writeDescriptorHead 5 = .ok (.sipush 2048, 3) := by decide +kernel
theorem d_Maker_writeDescriptorHead_8 : decode b_Maker_writeDescriptorHead 8 = .ok (.imul, 1) := by decide +kernel
theorem d_Maker_writeDescriptorHead_9 : decode b_Maker_writeDescriptorHead 9 = .ok (.iload_n 2, 1) := by decide +kernel
theorem d_Maker_writeDescriptorHead_10 : decode b_Maker_writeDescriptorHead 10 = .ok (.invokevirtual 196, 3) := by decide +kernel
theorem d_Maker_writeDescriptorHead_13 : decode b_Maker_writeDescriptorHead 13 = .ok (.aload_n 0, 1) := by decide +kernel
theorem d_Maker_writeDescriptorHead_14 : decode b_Maker_writeDescriptorHead 14 = .ok (.getfield 47, 3) := by decide +kernel
theorem d_Maker_writeDescriptorHead_17 : decode b_Maker_writeDescriptorHead 17 = .ok (.iload_n 1, 1) := by decide +kernel
theorem d_Maker_writeDescriptorHead_18 : decode b_Maker_writeDescriptorHead 18 = .ok (.sipush 2048, 3) := by decide +kernel
theorem d_Maker_writeDescriptorHead_21 : decode b_Maker_writeDescriptorHead 21 = .ok (.imul, 1) := by decide +kernel
theorem d_Maker_writeDescriptorHead_22 : decode b_Maker_writeDescriptorHead 22 = .ok (.iconst 1, 1) := by decide +kernel
theorem d_Maker_writeDescriptorHead_23 : decode b_Maker_writeDescriptorHead 23 = .ok (.iadd, 1) := by decide +kernel
theorem d_Maker_writeDescriptorHead_24 : decode b_Maker_writeDescriptorHead 24 = .ok (.getstatic 258, 3) := by decide +kernel
theorem d_Maker_writeDescriptorHead_27 : decode b_Maker_writeDescriptorHead 27 = .ok (.invokevirtual 232, 3) := by decide +kernel
theorem d_Maker_writeDescriptorHead_30 : decode b_Maker_writeDescriptorHead 30 = .ok (.return_, 1) := by decide +kernel
set_option maxHeartbeats 4000000 in
set_option maxRecDepth 100000 in
theorem c3_writeDescriptorHead (l : Launch) (D : va_G) (cB cI cJ cZ cN cF : ClassId) (sz : Nat) (m0 : Nat) (tr : Nat) (im : Nat) (fi : Nat) (se : Nat) (u0 : Nat) (id : Nat) (ct : Nat) (ra : Int32) (ru : Int32) (wg : Int32) (iq : Nat) (n : Nat) (L : Int32) (f : Nat → Int32) (td : Nat) (ts : Nat) (tl : Nat) (gd : Nat → Int32) (gs : Nat → Int32) (gl : Nat → Int32) (x : Int32) (y : Int32) (hL : 0 ≤ L.toInt ∧ L.toInt ≤ n) (hn : n ≤ 3000000) : Met l y_Maker_writeDescriptorHead w_Maker_writeDescriptorHead ({ frames := 2, cells := 0, slots := 0, locals := 57 }) (va_Pc [.ref m0, .int x, .int y] (fun U => U.heap.size = sz ∧ va_P D CL [(m0, .inr (4, [.ref tr, .ref im, .ref fi, .ref se, .ref u0, .ref id, .ref ct, .int ra, .int ru, .int wg])), (im, .inr (1, [.ref iq, .int L])), (iq, .inl (cB, n, .inl f))] U.heap ∧ va_K D CL (TY cB cI cJ cZ cN cF) U ∧ NN U ∧ va_D (fun _ => True) [(m0, .inr (4, [.ref tr, .ref im, .ref fi, .ref se, .ref u0, .ref id, .ref ct, .int ra, .int ru, .int wg])), (im, .inr (1, [.ref iq, .int L])), (iq, .inl (cB, n, .inl f))] ∧ SZ td ts tl gd gs gl (va_A [(m0, .inr (4, [.ref tr, .ref im, .ref fi, .ref se, .ref u0, .ref id, .ref ct, .int ra, .int ru, .int wg])), (im, .inr (1, [.ref iq, .int L])), (iq, .inl (cB, n, .inl f))] sz) U U.heap)) (va_Qv (fun (u : (Nat → Int32)) => True) (fun (u : (Nat → Int32)) (t : State) => match u with | g => va_P D CL [(m0, .inr (4, [.ref tr, .ref im, .ref fi, .ref se, .ref u0, .ref id, .ref ct, .int ra, .int ru, .int wg])), (im, .inr (1, [.ref iq, .int L])), (iq, .inl (cB, n, .inl g))] t.heap ∧ va_D (va_A [(m0, .inr (4, [.ref tr, .ref im, .ref fi, .ref se, .ref u0, .ref id, .ref ct, .int ra, .int ru, .int wg])), (im, .inr (1, [.ref iq, .int L])), (iq, .inl (cB, n, .inl f))] sz) [(m0, .inr (4, [.ref tr, .ref im, .ref fi, .ref se, .ref u0, .ref id, .ref ct, .int ra, .int ru, .int wg])), (im, .inr (1, [.ref iq, .int L])), (iq, .inl (cB, n, .inl g))]) (va_A [(m0, .inr (4, [.ref tr, .ref im, .ref fi, .ref se, .ref u0, .ref id, .ref ct, .int ra, .int ru, .int wg])), (im, .inr (1, [.ref iq, .int L])), (iq, .inl (cB, n, .inl f))] sz)) 0 0 (va_A [(m0, .inr (4, [.ref tr, .ref im, .ref fi, .ref se, .ref u0, .ref id, .ref ct, .int ra, .int ru, .int wg])), (im, .inr (1, [.ref iq, .int L])), (iq, .inl (cB, n, .inl f))] sz) := by
  refine Met.ofW (cc := b_Maker_writeDescriptorHead) (maxL := 3) (ret := none) (by decide +kernel) rfl ?_
  intro p e s m args below meth c s₁ B hml hv
  obtain ⟨rfl, hsz, hP, hK, hN, hD0, hZs⟩ := hv
  have hx := B.exec
  have hb := B.bytes
  have hr := B.returns
  have hts := atoms_spec (ws := w_Maker_writeDescriptorHead) B.pre
  have ht9 := fun (w : Cond) (h : w ∈ lw_g) => hts w (List.mem_cons_of_mem _ h)
  have hown : s.vm.findClass "DiscMaker$Maker" = some m.cls := findClass_of_methodNamed B.named
  have hlocks := B.notSynchronized
  subst hsz
  have hD := hD0.self (sz := s.heap.size)
  generalize hAe : va_A [(m0, .inr (4, [.ref tr, .ref im, .ref fi, .ref se, .ref u0, .ref id, .ref ct, .int ra, .int ru, .int wg])), (im, .inr (1, [.ref iq, .int L])), (iq, .inl (cB, n, .inl f))] s.heap.size = A at hD hZs ⊢
  have hA : ∀ q : Nat, s.heap.size ≤ q → A q := fun q h => by rw [← hAe]; exact Or.inr h
  have hS : va_S A s.heap s.heap [] := va_S.rf
  have hP : va_P D CL [(m0, .inr (4, [.ref tr, .ref im, .ref fi, .ref se, .ref u0, .ref id, .ref ct, .int ra, .int ru, .int wg])), (im, .inr (1, [.ref iq, .int L])), (iq, .inl (cB, n, .inl f))] s.heap := hP
  have hl := lv_entry [.ref m0, .int x, .int y] (n := 3) (Nat.le_of_ble_eq_true rfl)
  rw [lg_entry_eq]
  generalize (lg_sl [.ref m0, .int x, .int y] ++ List.replicate (3 - (lg_sl [.ref m0, .int x, .int y]).length) Slot.unset).toArray = ls at hl ⊢
  have hl : lv_has ls 3 [(0, .ref m0), (1, .int x), (2, .int y)] := hl
  have L_m1 : ((-1) : Int32).toInt = (-1) := by decide
  have L_0 : (0 : Int32).toInt = 0 := by decide
  have L_1 : (1 : Int32).toInt = 1 := by decide
  have L_2048 : (2048 : Int32).toInt = 2048 := by decide
  refine lv_aload_n hx hb d_Maker_writeDescriptorHead_0 rfl (lv_at hl 0 rfl) ?_
  refine va_get (D := D) (ci := 4) (v := .ref im) (C := "DiscMaker$Maker") (T := F_Maker) (N := 10) hx hb ht9 in_Maker hown hK hP 0 rfl rfl 1 (by decide) (ht9 _ k348) (fun _ h9 => h9) rfl d_Maker_writeDescriptorHead_1 ?_
  refine lv_iload_n hx hb d_Maker_writeDescriptorHead_4 rfl (lv_at hl 1 rfl) ?_
  refine lv_sipush (v := 2048) hx hb d_Maker_writeDescriptorHead_5 (by decide) ?_
  refine lv_imul hx hb d_Maker_writeDescriptorHead_8 ?_
  refine lv_topi (fun v1 e_v1 => ?_)
  refine lv_iload_n hx hb d_Maker_writeDescriptorHead_9 rfl (lv_at hl 2 rfl) ?_
  have hPc := hP.sub (ws' := [(im, .inr (1, [.ref iq, .int L])), (iq, .inl (cB, n, .inl f))]) [1, 2] rfl
  have hDc := hD.sub (ws' := [(im, .inr (1, [.ref iq, .int L])), (iq, .inl (cB, n, .inl f))]) [1, 2] (by decide +kernel) rfl
  have hFc := va_free (wc := [(im, .inr (1, [.ref iq, .int L])), (iq, .inl (cB, n, .inl f))]) hD hS hA [1, 2] rfl
  have hkc : 0 ≤ 0 := by decide
  have hks : 0 ≤ 0 := by decide
  refine va_callv (va_runV (C := "DiscMaker$Bytes") (As := [.int v1, .int y]) (rest := []) ⟨hx, hb, hml, hown, hts⟩ (c3_put l D cB cI cJ cZ cN cF s.heap.size im iq n L f v1 y (by (try dsimp only); first | assumption | omega | trivial) (by (try dsimp only); first | assumption | omega | trivial)) (cwV 2 hts (lg_goodV k978 k912 k913 k119 kc_Bytes_put) rfl rfl rfl (by decide +kernel) ⟨Nat.le_of_ble_eq_true rfl, Nat.le_of_ble_eq_true rfl⟩) ⟨fun a U g mk q => by obtain ⟨q0, q1, qP, qK, qN, qD⟩ := q; exact ⟨q0, q1, qP, va_K.moved (u := U) (U := U.calling g mk a) (Vm.Alike.refl U.vm) qK, qN.calling, qD⟩, va_recv hK hP (ci := 1) (q0 := 1) rfl rfl, fun U hU hW => ⟨rfl, by rw [hU], by rw [hU]; exact hPc, va_K.moved hW.alike hK, NN.warm hW hN, hDc.weaken (fun _ _ _ _ => trivial)⟩⟩ rfl rfl hl.1 rfl (lv_room (Nat.le_of_ble_eq_true rfl)) d_Maker_writeDescriptorHead_10 ⟨hkc, hks⟩) hS (fun q _ h => hFc q h) hFc (fun u t H1 locs ht hvm hp_r2 hB hz1 hk1 hS => ?_)
  obtain ⟨g_3, rfl⟩ : ∃ z, z = u := ⟨_, rfl⟩
  obtain ⟨hP1, hD1⟩ := hB
  rw [ht] at hP1
  obtain ⟨hP, hD⟩ := va_join (wr := [(m0, .inr (4, [.ref tr, .ref im, .ref fi, .ref se, .ref u0, .ref id, .ref ct, .int ra, .int ru, .int wg]))]) (w1 := [(im, .inr (1, [.ref iq, .int L])), (iq, .inl (cB, n, .inl g_3))]) hP hD [1, 2] [0] rfl rfl (by decide +kernel) (by decide +kernel) hk1 hFc hP1 hD1
  clear hPc hDc hFc hP1 hD1 hk1 hz1 hkc hks
  generalize H1 = H at hP hS ⊢
  have hP : va_P D CL [(m0, .inr (4, [.ref tr, .ref im, .ref fi, .ref se, .ref u0, .ref id, .ref ct, .int ra, .int ru, .int wg])), (im, .inr (1, [.ref iq, .int L])), (iq, .inl (cB, n, .inl g_3))] H := hP
  have hD : va_D A [(m0, .inr (4, [.ref tr, .ref im, .ref fi, .ref se, .ref u0, .ref id, .ref ct, .int ra, .int ru, .int wg])), (im, .inr (1, [.ref iq, .int L])), (iq, .inl (cB, n, .inl g_3))] := hD
  refine lv_aload_n hx hb d_Maker_writeDescriptorHead_13 rfl (lv_at hl 0 rfl) ?_
  refine va_get (D := D) (ci := 4) (v := .ref im) (C := "DiscMaker$Maker") (T := F_Maker) (N := 10) hx hb ht9 in_Maker hown hK hP 0 rfl rfl 1 (by decide) (ht9 _ k348) (fun _ h9 => h9) rfl d_Maker_writeDescriptorHead_14 ?_
  refine lv_iload_n hx hb d_Maker_writeDescriptorHead_17 rfl (lv_at hl 1 rfl) ?_
  refine lv_sipush (v := 2048) hx hb d_Maker_writeDescriptorHead_18 (by decide) ?_
  refine lv_imul hx hb d_Maker_writeDescriptorHead_21 ?_
  refine lv_topi (fun v4 e_v4 => ?_)
  refine lv_iconst (v := 1) hx hb d_Maker_writeDescriptorHead_22 (by decide) ?_
  refine lv_iadd hx hb d_Maker_writeDescriptorHead_23 ?_
  refine lv_topi (fun v5 e_v5 => ?_)
  refine va_getsN (C := "DiscMaker") (n := "STANDARD") (d := "[B") (v := .ref ts) hx hb (hZs.2.1.1) hS hown (va_Nw.use rfl (hN _ k1107)) (fun _ h9 => h9) d_Maker_writeDescriptorHead_24 ?_
  have hPc := hP.sub (ws' := [(im, .inr (1, [.ref iq, .int L])), (iq, .inl (cB, n, .inl g_3))]) [1, 2] rfl
  have hDc := hD.sub (ws' := [(im, .inr (1, [.ref iq, .int L])), (iq, .inl (cB, n, .inl g_3))]) [1, 2] (by decide +kernel) rfl
  have hFc := va_free (wc := [(im, .inr (1, [.ref iq, .int L])), (iq, .inl (cB, n, .inl g_3))]) hD hS hA [1, 2] rfl
  have hkc : 0 ≤ 0 := by decide
  have hks : 0 ≤ 0 := by decide
  refine va_callv (va_runV (C := "DiscMaker$Bytes") (As := [.int v5, .ref ts]) (rest := []) ⟨hx, hb, hml, hown, hts⟩ (c3_putRowT l D cB cI cJ cZ cN cF H.size im iq n L g_3 ts 6 gs v5 (by (try dsimp only); first | assumption | omega | trivial) (by (try dsimp only); first | assumption | omega | trivial) (by (try dsimp only); first | assumption | omega | trivial)) (cwV 2 hts (lg_goodV k1059 k1031 k1032 k119 kc_Bytes_putRow) rfl rfl rfl (by decide +kernel) ⟨Nat.le_of_ble_eq_true rfl, Nat.le_of_ble_eq_true rfl⟩) ⟨fun a U g mk q => by obtain ⟨q0, q1, qP, qK, qN, qD, qZ0⟩ := q; exact ⟨q0, q1, qP, va_K.moved (u := U) (U := U.calling g mk a) (Vm.Alike.refl U.vm) qK, qN.calling, qD, zT_blind qZ0⟩, va_recv hK hP (ci := 1) (q0 := 1) rfl rfl, fun U hU hW => ⟨rfl, by rw [hU], by rw [hU]; exact hPc, va_K.moved hW.alike hK, NN.warm hW hN, hDc.weaken (fun _ _ _ _ => trivial), zT_pass hZs.2.1.2 hS hFc hW.alike hU⟩⟩ rfl rfl hl.1 rfl (lv_room (Nat.le_of_ble_eq_true rfl)) d_Maker_writeDescriptorHead_27 ⟨hkc, hks⟩) hS (fun q _ h => hFc q h) hFc (fun u t H1 locs ht hvm hp_r6 hB hz1 hk1 hS => ?_)
  obtain ⟨g_7, rfl⟩ : ∃ z, z = u := ⟨_, rfl⟩
  obtain ⟨hP1, hD1⟩ := hB
  rw [ht] at hP1
  obtain ⟨hP, hD⟩ := va_join (wr := [(m0, .inr (4, [.ref tr, .ref im, .ref fi, .ref se, .ref u0, .ref id, .ref ct, .int ra, .int ru, .int wg]))]) (w1 := [(im, .inr (1, [.ref iq, .int L])), (iq, .inl (cB, n, .inl g_7))]) hP hD [1, 2] [0] rfl rfl (by decide +kernel) (by decide +kernel) hk1 hFc hP1 hD1
  clear hPc hDc hFc hP1 hD1 hk1 hz1 hkc hks
  generalize H1 = H at hP hS ⊢
  have hP : va_P D CL [(m0, .inr (4, [.ref tr, .ref im, .ref fi, .ref se, .ref u0, .ref id, .ref ct, .int ra, .int ru, .int wg])), (im, .inr (1, [.ref iq, .int L])), (iq, .inl (cB, n, .inl g_7))] H := hP
  have hD : va_D A [(m0, .inr (4, [.ref tr, .ref im, .ref fi, .ref se, .ref u0, .ref id, .ref ct, .int ra, .int ru, .int wg])), (im, .inr (1, [.ref iq, .int L])), (iq, .inl (cB, n, .inl g_7))] := hD
  have hP9 := hP.sub (ws' := [(m0, .inr (4, [.ref tr, .ref im, .ref fi, .ref se, .ref u0, .ref id, .ref ct, .int ra, .int ru, .int wg])), (im, .inr (1, [.ref iq, .int L])), (iq, .inl (cB, n, .inl g_7))]) [0, 1, 2] rfl
  have hD9 := hD.sub (ws' := [(m0, .inr (4, [.ref tr, .ref im, .ref fi, .ref se, .ref u0, .ref id, .ref ct, .int ra, .int ru, .int wg])), (im, .inr (1, [.ref iq, .int L])), (iq, .inl (cB, n, .inl g_7))]) [0, 1, 2] (by decide +kernel) rfl
  exact W.vret hx hb hr (fun t ht hW => ⟨⟨g_7, rfl, trivial, by rw [ht]; exact hP9, hD9⟩, hS.F ht⟩) hS.2.2 d_Maker_writeDescriptorHead_30

theorem d_Maker_writePathTables_0 : decode b_Maker_writePathTables 0 = .ok (.aload_n 1, 1) := by decide +kernel
theorem d_Maker_writePathTables_1 : decode b_Maker_writePathTables 1 = .ok (.getfield 246, 3) := by decide +kernel
theorem d_Maker_writePathTables_4 : decode b_Maker_writePathTables 4 = .ok (.sipush 2048, 3) := by decide +kernel
theorem d_Maker_writePathTables_7 : decode b_Maker_writePathTables 7 = .ok (.imul, 1) := by decide +kernel
theorem d_Maker_writePathTables_8 : decode b_Maker_writePathTables 8 = .ok (.istore_n 2, 1) := by decide +kernel
theorem d_Maker_writePathTables_9 : decode b_Maker_writePathTables 9 = .ok (.iload_n 2, 1) := by decide +kernel
theorem d_Maker_writePathTables_10 : decode b_Maker_writePathTables 10 = .ok (.sipush 2048, 3) := by decide +kernel
theorem d_Maker_writePathTables_13 : decode b_Maker_writePathTables 13 = .ok (.iadd, 1) := by decide +kernel
theorem d_Maker_writePathTables_14 : decode b_Maker_writePathTables 14 = .ok (.istore_n 3, 1) := by decide +kernel
theorem d_Maker_writePathTables_15 : decode b_Maker_writePathTables 15 = .ok (.iconst 0, 1) := by decide +kernel
theorem d_Maker_writePathTables_16 : decode b_Maker_writePathTables 16 = .ok (.istore 4, 2) := by decide +kernel
theorem d_Maker_writePathTables_18 : decode b_Maker_writePathTables 18 = .ok (.iconst 0, 1) := by decide +kernel
theorem d_Maker_writePathTables_19 : decode b_Maker_writePathTables 19 = .ok (.istore 5, 2) := by decide +kernel
theorem d_Maker_writePathTables_21 : decode b_Maker_writePathTables 21 = .ok (.iload 5, 2) := by decide +kernel
theorem d_Maker_writePathTables_23 : decode b_Maker_writePathTables 23 = .ok (.aload_n 1, 1) := by decide +kernel
theorem d_Maker_writePathTables_24 : decode b_Maker_writePathTables 24 = .ok (.getfield 104, 3) := by decide +kernel
theorem d_Maker_writePathTables_27 : decode b_Maker_writePathTables 27 = .ok (.if_icmp .ge 178, 3) := by decide +kernel
theorem d_Maker_writePathTables_30 : decode b_Maker_writePathTables 30 = .ok (.aload_n 0, 1) := by decide +kernel
theorem d_Maker_writePathTables_31 : decode b_Maker_writePathTables 31 = .ok (.getfield 43, 3) := by decide +kernel
theorem d_Maker_writePathTables_34 : decode b_Maker_writePathTables 34 = .ok (.getfield 107, 3) := by decide +kernel
theorem d_Maker_writePathTables_37 : decode b_Maker_writePathTables 37 = .ok (.aload_n 1, 1) := by decide +kernel
theorem d_Maker_writePathTables_38 : decode b_Maker_writePathTables 38 = .ok (.getfield 113, 3) := by decide +kernel
theorem d_Maker_writePathTables_41 : decode b_Maker_writePathTables 41 = .ok (.iload 5, 2) := by decide +kernel
theorem d_Maker_writePathTables_43 : decode b_Maker_writePathTables 43 = .ok (.iaload, 1) := by decide +kernel
theorem d_Maker_writePathTables_44 : decode b_Maker_writePathTables 44 = .ok (.aaload, 1) := by decide +kernel
theorem d_Maker_writePathTables_45 : decode b_Maker_writePathTables 45 = .ok (.astore 6, 2) := by decide +kernel
theorem d_Maker_writePathTables_47 : decode b_Maker_writePathTables 47 = .ok (.aload_n 0, 1) := by decide +kernel
theorem d_Maker_writePathTables_48 : decode b_Maker_writePathTables 48 = .ok (.aload_n 1, 1) := by decide +kernel
theorem d_Maker_writePathTables_49 : decode b_Maker_writePathTables 49 = .ok (.aload 6, 2) := by decide +kernel
theorem d_Maker_writePathTables_51 : decode b_Maker_writePathTables 51 = .ok (.aload 6, 2) := by decide +kernel
theorem d_Maker_writePathTables_53 : decode b_Maker_writePathTables 53 = .ok (.getfield 134, 3) := by decide +kernel
theorem d_Maker_writePathTables_56 : decode b_Maker_writePathTables 56 = .ok (.ifCond .ne 7, 3) := by decide +kernel
theorem d_Maker_writePathTables_59 : decode b_Maker_writePathTables 59 = .ok (.iconst 0, 1) := by decide +kernel
theorem d_Maker_writePathTables_60 : decode b_Maker_writePathTables 60 = .ok (.goto 4, 3) := by decide +kernel
theorem d_Maker_writePathTables_63 : decode b_Maker_writePathTables 63 = .ok (.iconst 2, 1) := by decide +kernel
theorem d_Maker_writePathTables_64 : decode b_Maker_writePathTables 64 = .ok (.invokevirtual 156, 3) := by decide +kernel
theorem d_Maker_writePathTables_67 : decode b_Maker_writePathTables 67 = .ok (.aload_n 0, 1) := by decide +kernel
theorem d_Maker_writePathTables_68 : decode b_Maker_writePathTables 68 = .ok (.iload_n 2, 1) := by decide +kernel
theorem d_Maker_writePathTables_69 : decode b_Maker_writePathTables 69 = .ok (.iload 4, 2) := by decide +kernel
theorem d_Maker_writePathTables_71 : decode b_Maker_writePathTables 71 = .ok (.iadd, 1) := by decide +kernel
theorem d_Maker_writePathTables_72 : decode b_Maker_writePathTables 72 = .ok (.invokevirtual 249, 3) := by decide +kernel
theorem d_Maker_writePathTables_75 : decode b_Maker_writePathTables 75 = .ok (.aload_n 0, 1) := by decide +kernel
theorem d_Maker_writePathTables_76 : decode b_Maker_writePathTables 76 = .ok (.iload_n 3, 1) := by decide +kernel
theorem d_Maker_writePathTables_77 : decode b_Maker_writePathTables 77 = .ok (.iload 4, 2) := by decide +kernel
theorem d_Maker_writePathTables_79 : decode b_Maker_writePathTables 79 = .ok (.iadd, 1) := by decide +kernel
theorem d_Maker_writePathTables_80 : decode b_Maker_writePathTables 80 = .ok (.invokevirtual 249, 3) := by decide +kernel
theorem d_Maker_writePathTables_83 : decode b_Maker_writePathTables 83 = .ok (.aload_n 0, 1) := by decide +kernel
theorem d_Maker_writePathTables_84 : decode b_Maker_writePathTables 84 = .ok (.getfield 47, 3) := by decide +kernel
theorem d_Maker_writePathTables_87 : decode b_Maker_writePathTables 87 = .ok (.iload_n 2, 1) := by decide +kernel
theorem d_Maker_writePathTables_88 : decode b_Maker_writePathTables 88 = .ok (.iload 4, 2) := by decide +kernel
theorem d_Maker_writePathTables_90 : decode b_Maker_writePathTables 90 = .ok (.iadd, 1) := by decide +kernel
theorem d_Maker_writePathTables_91 : decode b_Maker_writePathTables 91 = .ok (.iconst 2, 1) := by decide +kernel
theorem d_Maker_writePathTables_92 : decode b_Maker_writePathTables 92 = .ok (.iadd, 1) := by decide +kernel
theorem d_Maker_writePathTables_93 : decode b_Maker_writePathTables 93 = .ok (.aload_n 1, 1) := by decide +kernel
theorem d_Maker_writePathTables_94 : decode b_Maker_writePathTables 94 = .ok (.getfield 137, 3) := by decide +kernel
theorem d_Maker_writePathTables_97 : decode b_Maker_writePathTables 97 = .ok (.aload 6, 2) := by decide +kernel
theorem d_Maker_writePathTables_99 : decode b_Maker_writePathTables 99 = .ok (.getfield 134, 3) := by decide +kernel
theorem d_Maker_writePathTables_102 : decode b_Maker_writePathTables 102 = .ok (.iaload, 1) := by decide +kernel
theorem d_Maker_writePathTables_103 : decode b_Maker_writePathTables 103 = .ok (.iconst 4, 1) := by decide +kernel
theorem d_Maker_writePathTables_104 : decode b_Maker_writePathTables 104 = .ok (.invokevirtual 252, 3) := by decide +kernel
theorem d_Maker_writePathTables_107 : decode b_Maker_writePathTables 107 = .ok (.aload_n 0, 1) := by decide +kernel
theorem d_Maker_writePathTables_108 : decode b_Maker_writePathTables 108 = .ok (.getfield 47, 3) := by decide +kernel
theorem d_Maker_writePathTables_111 : decode b_Maker_writePathTables 111 = .ok (.iload_n 3, 1) := by decide +kernel
theorem d_Maker_writePathTables_112 : decode b_Maker_writePathTables 112 = .ok (.iload 4, 2) := by decide +kernel
theorem d_Maker_writePathTables_114 : decode b_Maker_writePathTables 114 = .ok (.iadd, 1) := by decide +kernel
theorem d_Maker_writePathTables_115 : decode b_Maker_writePathTables 115 = .ok (.iconst 2, 1) := by decide +kernel
theorem d_Maker_writePathTables_116 : decode b_Maker_writePathTables 116 = .ok (.iadd, 1) := by decide +kernel
theorem d_Maker_writePathTables_117 : decode b_Maker_writePathTables 117 = .ok (.aload_n 1, 1) := by decide +kernel
theorem d_Maker_writePathTables_118 : decode b_Maker_writePathTables 118 = .ok (.getfield 137, 3) := by decide +kernel
theorem d_Maker_writePathTables_121 : decode b_Maker_writePathTables 121 = .ok (.aload 6, 2) := by decide +kernel
theorem d_Maker_writePathTables_123 : decode b_Maker_writePathTables 123 = .ok (.getfield 134, 3) := by decide +kernel
theorem d_Maker_writePathTables_126 : decode b_Maker_writePathTables 126 = .ok (.iaload, 1) := by decide +kernel
theorem d_Maker_writePathTables_127 : decode b_Maker_writePathTables 127 = .ok (.iconst 4, 1) := by decide +kernel
theorem d_Maker_writePathTables_128 : decode b_Maker_writePathTables 128 = .ok (.invokevirtual 243, 3) := by decide +kernel
theorem d_Maker_writePathTables_131 : decode b_Maker_writePathTables 131 = .ok (.aload_n 0, 1) := by decide +kernel
theorem d_Maker_writePathTables_132 : decode b_Maker_writePathTables 132 = .ok (.getfield 47, 3) := by decide +kernel
theorem d_Maker_writePathTables_135 : decode b_Maker_writePathTables 135 = .ok (.iload_n 2, 1) := by decide +kernel
theorem d_Maker_writePathTables_136 : decode b_Maker_writePathTables 136 = .ok (.iload 4, 2) := by decide +kernel
theorem d_Maker_writePathTables_138 : decode b_Maker_writePathTables 138 = .ok (.iadd, 1) := by decide +kernel
theorem d_Maker_writePathTables_139 : decode b_Maker_writePathTables 139 = .ok (.bipush 6, 2) := by decide +kernel
theorem d_Maker_writePathTables_141 : decode b_Maker_writePathTables 141 = .ok (.iadd, 1) := by decide +kernel
theorem d_Maker_writePathTables_142 : decode b_Maker_writePathTables 142 = .ok (.aload_n 1, 1) := by decide +kernel
theorem d_Maker_writePathTables_143 : decode b_Maker_writePathTables 143 = .ok (.getfield 255, 3) := by decide +kernel
theorem d_Maker_writePathTables_146 : decode b_Maker_writePathTables 146 = .ok (.aload 6, 2) := by decide +kernel
theorem d_Maker_writePathTables_148 : decode b_Maker_writePathTables 148 = .ok (.getfield 123, 3) := by decide +kernel
theorem d_Maker_writePathTables_151 : decode b_Maker_writePathTables 151 = .ok (.iaload, 1) := by decide +kernel
theorem d_Maker_writePathTables_152 : decode b_Maker_writePathTables 152 = .ok (.iconst 2, 1) := by decide +kernel
theorem d_Maker_writePathTables_153 : decode b_Maker_writePathTables 153 = .ok (.invokevirtual 252, 3) := by decide +kernel
theorem d_Maker_writePathTables_156 : decode b_Maker_writePathTables 156 = .ok (.aload_n 0, 1) := by decide +kernel
theorem d_Maker_writePathTables_157 : decode b_Maker_writePathTables 157 = .ok (.getfield 47, 3) := by decide +kernel
theorem d_Maker_writePathTables_160 : decode b_Maker_writePathTables 160 = .ok (.iload_n 3, 1) := by decide +kernel
theorem d_Maker_writePathTables_161 : decode b_Maker_writePathTables 161 = .ok (.iload 4, 2) := by decide +kernel
theorem d_Maker_writePathTables_163 : decode b_Maker_writePathTables 163 = .ok (.iadd, 1) := by decide +kernel
theorem d_Maker_writePathTables_164 : decode b_Maker_writePathTables 164 = .ok (.bipush 6, 2) := by decide +kernel
theorem d_Maker_writePathTables_166 : decode b_Maker_writePathTables 166 = .ok (.iadd, 1) := by decide +kernel
theorem d_Maker_writePathTables_167 : decode b_Maker_writePathTables 167 = .ok (.aload_n 1, 1) := by decide +kernel
theorem d_Maker_writePathTables_168 : decode b_Maker_writePathTables 168 = .ok (.getfield 255, 3) := by decide +kernel
theorem d_Maker_writePathTables_171 : decode b_Maker_writePathTables 171 = .ok (.aload 6, 2) := by decide +kernel
theorem d_Maker_writePathTables_173 : decode b_Maker_writePathTables 173 = .ok (.getfield 123, 3) := by decide +kernel
theorem d_Maker_writePathTables_176 : decode b_Maker_writePathTables 176 = .ok (.iaload, 1) := by decide +kernel
theorem d_Maker_writePathTables_177 : decode b_Maker_writePathTables 177 = .ok (.iconst 2, 1) := by decide +kernel
theorem d_Maker_writePathTables_178 : decode b_Maker_writePathTables 178 = .ok (.invokevirtual 243, 3) := by decide +kernel
theorem d_Maker_writePathTables_181 : decode b_Maker_writePathTables 181 = .ok (.iload 4, 2) := by decide +kernel
theorem d_Maker_writePathTables_183 : decode b_Maker_writePathTables 183 = .ok (.bipush 8, 2) := by decide +kernel
theorem d_Maker_writePathTables_185 : decode b_Maker_writePathTables 185 = .ok (.aload_n 0, 1) := by decide +kernel
theorem d_Maker_writePathTables_186 : decode b_Maker_writePathTables 186 = .ok (.getfield 35, 3) := by decide +kernel
theorem d_Maker_writePathTables_189 : decode b_Maker_writePathTables 189 = .ok (.getfield 60, 3) := by decide +kernel
theorem d_Maker_writePathTables_192 : decode b_Maker_writePathTables 192 = .ok (.invokestatic 159, 3) := by decide +kernel
theorem d_Maker_writePathTables_195 : decode b_Maker_writePathTables 195 = .ok (.iadd, 1) := by decide +kernel
theorem d_Maker_writePathTables_196 : decode b_Maker_writePathTables 196 = .ok (.iadd, 1) := by decide +kernel
theorem d_Maker_writePathTables_197 : decode b_Maker_writePathTables 197 = .ok (.istore 4, 2) := by decide +kernel
theorem d_Maker_writePathTables_199 : decode b_Maker_writePathTables 199 = .ok (.iinc 5 1, 3) := by decide +kernel
theorem d_Maker_writePathTables_202 : decode b_Maker_writePathTables 202 = .ok (.goto (-181), 3) := by decide +kernel
theorem d_Maker_writePathTables_205 : decode b_Maker_writePathTables 205 = .ok (.iload 4, 2) := by decide +kernel
theorem d_Maker_writePathTables_207 : decode b_Maker_writePathTables 207 = .ok (.ireturn, 1) := by decide +kernel
set_option maxHeartbeats 4000000 in
set_option maxRecDepth 100000 in
theorem c3_writePathTables (l : Launch) (D : va_G) (cB cI cJ cZ cN cF : ClassId) (sz : Nat) (m0 : Nat) (tr : Nat) (im : Nat) (fi : Nat) (se : Nat) (u0 : Nat) (id : Nat) (ct : Nat) (ra : Int32) (ru : Int32) (wg : Int32) (l0 : Nat) (lo : Nat) (lp : Nat) (lt : Nat) (lb : Nat) (le : Nat) (ln : Int32) (lds : Int32) (ltb : Int32) (lc : Int32) (ld : Int32) (fp : Nat → Int32) (ft : Nat → Int32) (fb : Nat → Int32) (jq : Nat) (il : Int32) (jf : Nat → Int32) (iq : Nat) (n : Nat) (L : Int32) (f : Nat → Int32) (ta : Nat) (cn : Int32) (dr : Int32) (na : Nat → Nat → Nat) (ng : Nat → Nat → Int32) (nn : Nat → Nat → Nat) (nf : Nat → Nat → Nat → Int32) (cm : Nat) (dt : Nat → Nat → Int) (hL : 0 ≤ L.toInt ∧ L.toInt ≤ n) (hn : n ≤ 3000000) (hcn : cn.toInt = cm) (hcm : cm ≤ 40) (htok : TOK cm ng nn) (hdt : DtC dt cm ng nn nf) (hnm : NmOK cm nn nf) (hln01 : ln.toInt = 0 ∨ ln.toInt = 1) (hld : 0 ≤ ld.toInt ∧ ld.toInt ≤ 12) (hpo : OrdOK ld.toInt cm fp) : Met l y_Maker_writePathTables w_Maker_writePathTables ({ frames := 4, cells := 0, slots := 0, locals := 116 }) (va_Pc [.ref m0, .ref l0] (fun U => U.heap.size = sz ∧ va_P D CL [(m0, .inr (4, [.ref tr, .ref im, .ref fi, .ref se, .ref u0, .ref id, .ref ct, .int ra, .int ru, .int wg])), (l0, .inr (3, [.int ln, .int lds, .int ltb, .ref lo, .ref lp, .ref lt, .ref lb, .ref le, .int lc, .int ld])), (lp, .inl (cI, 12, .inl fp)), (lt, .inl (cI, 40, .inl ft)), (lb, .inl (cI, 40, .inl fb)), (id, .inr (1, [.ref jq, .int il])), (jq, .inl (cB, 60, .inl jf)), (im, .inr (1, [.ref iq, .int L])), (iq, .inl (cB, n, .inl f))] U.heap ∧ va_K D CL (TY cB cI cJ cZ cN cF) U ∧ NN U ∧ va_D (fun _ => True) [(m0, .inr (4, [.ref tr, .ref im, .ref fi, .ref se, .ref u0, .ref id, .ref ct, .int ra, .int ru, .int wg])), (l0, .inr (3, [.int ln, .int lds, .int ltb, .ref lo, .ref lp, .ref lt, .ref lb, .ref le, .int lc, .int ld])), (lp, .inl (cI, 12, .inl fp)), (lt, .inl (cI, 40, .inl ft)), (lb, .inl (cI, 40, .inl fb)), (id, .inr (1, [.ref jq, .int il])), (jq, .inl (cB, 60, .inl jf)), (im, .inr (1, [.ref iq, .int L])), (iq, .inl (cB, n, .inl f))] ∧ RO D (([(tr, .inr (10, [.ref ta, .int cn, .int dr])), (ta, .inl (cN, 40, .inr (.inr (.inr (.inr (rowF na cm))))))] : va_W) ++ (PL (NC cB na ng nn nf) cm)) (va_A [(m0, .inr (4, [.ref tr, .ref im, .ref fi, .ref se, .ref u0, .ref id, .ref ct, .int ra, .int ru, .int wg])), (l0, .inr (3, [.int ln, .int lds, .int ltb, .ref lo, .ref lp, .ref lt, .ref lb, .ref le, .int lc, .int ld])), (lp, .inl (cI, 12, .inl fp)), (lt, .inl (cI, 40, .inl ft)), (lb, .inl (cI, 40, .inl fb)), (id, .inr (1, [.ref jq, .int il])), (jq, .inl (cB, 60, .inl jf)), (im, .inr (1, [.ref iq, .int L])), (iq, .inl (cB, n, .inl f))] sz) U U.heap)) (va_Qi (fun (r : Int32) (u : Int32 × (Nat → Int32) × (Nat → Int32)) => match u with | (il2, jg, g) => (0 ≤ r.toInt ∧ r.toInt ≤ 1200)) (fun (u : Int32 × (Nat → Int32) × (Nat → Int32)) (t : State) => match u with | (il2, jg, g) => va_P D CL [(m0, .inr (4, [.ref tr, .ref im, .ref fi, .ref se, .ref u0, .ref id, .ref ct, .int ra, .int ru, .int wg])), (l0, .inr (3, [.int ln, .int lds, .int ltb, .ref lo, .ref lp, .ref lt, .ref lb, .ref le, .int lc, .int ld])), (lp, .inl (cI, 12, .inl fp)), (lt, .inl (cI, 40, .inl ft)), (lb, .inl (cI, 40, .inl fb)), (id, .inr (1, [.ref jq, .int il2])), (jq, .inl (cB, 60, .inl jg)), (im, .inr (1, [.ref iq, .int L])), (iq, .inl (cB, n, .inl g))] t.heap ∧ va_D (va_A [(m0, .inr (4, [.ref tr, .ref im, .ref fi, .ref se, .ref u0, .ref id, .ref ct, .int ra, .int ru, .int wg])), (l0, .inr (3, [.int ln, .int lds, .int ltb, .ref lo, .ref lp, .ref lt, .ref lb, .ref le, .int lc, .int ld])), (lp, .inl (cI, 12, .inl fp)), (lt, .inl (cI, 40, .inl ft)), (lb, .inl (cI, 40, .inl fb)), (id, .inr (1, [.ref jq, .int il])), (jq, .inl (cB, 60, .inl jf)), (im, .inr (1, [.ref iq, .int L])), (iq, .inl (cB, n, .inl f))] sz) [(m0, .inr (4, [.ref tr, .ref im, .ref fi, .ref se, .ref u0, .ref id, .ref ct, .int ra, .int ru, .int wg])), (l0, .inr (3, [.int ln, .int lds, .int ltb, .ref lo, .ref lp, .ref lt, .ref lb, .ref le, .int lc, .int ld])), (lp, .inl (cI, 12, .inl fp)), (lt, .inl (cI, 40, .inl ft)), (lb, .inl (cI, 40, .inl fb)), (id, .inr (1, [.ref jq, .int il2])), (jq, .inl (cB, 60, .inl jg)), (im, .inr (1, [.ref iq, .int L])), (iq, .inl (cB, n, .inl g))]) (va_A [(m0, .inr (4, [.ref tr, .ref im, .ref fi, .ref se, .ref u0, .ref id, .ref ct, .int ra, .int ru, .int wg])), (l0, .inr (3, [.int ln, .int lds, .int ltb, .ref lo, .ref lp, .ref lt, .ref lb, .ref le, .int lc, .int ld])), (lp, .inl (cI, 12, .inl fp)), (lt, .inl (cI, 40, .inl ft)), (lb, .inl (cI, 40, .inl fb)), (id, .inr (1, [.ref jq, .int il])), (jq, .inl (cB, 60, .inl jf)), (im, .inr (1, [.ref iq, .int L])), (iq, .inl (cB, n, .inl f))] sz)) 0 0 (va_A [(m0, .inr (4, [.ref tr, .ref im, .ref fi, .ref se, .ref u0, .ref id, .ref ct, .int ra, .int ru, .int wg])), (l0, .inr (3, [.int ln, .int lds, .int ltb, .ref lo, .ref lp, .ref lt, .ref lb, .ref le, .int lc, .int ld])), (lp, .inl (cI, 12, .inl fp)), (lt, .inl (cI, 40, .inl ft)), (lb, .inl (cI, 40, .inl fb)), (id, .inr (1, [.ref jq, .int il])), (jq, .inl (cB, 60, .inl jf)), (im, .inr (1, [.ref iq, .int L])), (iq, .inl (cB, n, .inl f))] sz) := by
  refine Met.ofW (cc := b_Maker_writePathTables) (maxL := 7) (ret := some .int) (by decide +kernel) rfl ?_
  intro p e s m args below meth c s₁ B hml hv
  obtain ⟨rfl, hsz, hP, hK, hN, hD0, hZr⟩ := hv
  have hx := B.exec
  have hb := B.bytes
  have hr := B.returns
  have hts := atoms_spec (ws := w_Maker_writePathTables) B.pre
  have ht9 := fun (w : Cond) (h : w ∈ lw_g) => hts w (List.mem_cons_of_mem _ h)
  have hown : s.vm.findClass "DiscMaker$Maker" = some m.cls := findClass_of_methodNamed B.named
  have hlocks := B.notSynchronized
  subst hsz
  have hD := hD0.self (sz := s.heap.size)
  generalize hAe : va_A [(m0, .inr (4, [.ref tr, .ref im, .ref fi, .ref se, .ref u0, .ref id, .ref ct, .int ra, .int ru, .int wg])), (l0, .inr (3, [.int ln, .int lds, .int ltb, .ref lo, .ref lp, .ref lt, .ref lb, .ref le, .int lc, .int ld])), (lp, .inl (cI, 12, .inl fp)), (lt, .inl (cI, 40, .inl ft)), (lb, .inl (cI, 40, .inl fb)), (id, .inr (1, [.ref jq, .int il])), (jq, .inl (cB, 60, .inl jf)), (im, .inr (1, [.ref iq, .int L])), (iq, .inl (cB, n, .inl f))] s.heap.size = A at hD hZr ⊢
  have hA : ∀ q : Nat, s.heap.size ≤ q → A q := fun q h => by rw [← hAe]; exact Or.inr h
  have hS : va_S A s.heap s.heap [] := va_S.rf
  have hP : va_P D CL [(m0, .inr (4, [.ref tr, .ref im, .ref fi, .ref se, .ref u0, .ref id, .ref ct, .int ra, .int ru, .int wg])), (l0, .inr (3, [.int ln, .int lds, .int ltb, .ref lo, .ref lp, .ref lt, .ref lb, .ref le, .int lc, .int ld])), (lp, .inl (cI, 12, .inl fp)), (lt, .inl (cI, 40, .inl ft)), (lb, .inl (cI, 40, .inl fb)), (id, .inr (1, [.ref jq, .int il])), (jq, .inl (cB, 60, .inl jf)), (im, .inr (1, [.ref iq, .int L])), (iq, .inl (cB, n, .inl f))] s.heap := hP
  have hl := lv_entry [.ref m0, .ref l0] (n := 7) (Nat.le_of_ble_eq_true rfl)
  rw [lg_entry_eq]
  generalize (lg_sl [.ref m0, .ref l0] ++ List.replicate (7 - (lg_sl [.ref m0, .ref l0]).length) Slot.unset).toArray = ls at hl ⊢
  have hl : lv_has ls 7 [(0, .ref m0), (1, .ref l0)] := hl
  have L_m1 : ((-1) : Int32).toInt = (-1) := by decide
  have L_0 : (0 : Int32).toInt = 0 := by decide
  have L_1 : (1 : Int32).toInt = 1 := by decide
  have L_2 : (2 : Int32).toInt = 2 := by decide
  have L_4 : (4 : Int32).toInt = 4 := by decide
  have L_6 : (6 : Int32).toInt = 6 := by decide
  have L_8 : (8 : Int32).toInt = 8 := by decide
  have L_2048 : (2048 : Int32).toInt = 2048 := by decide
  refine lv_aload_n hx hb d_Maker_writePathTables_0 rfl (lv_at hl 1 rfl) ?_
  refine va_getN (D := D) (ci := 3) (v := .int ltb) (C := "DiscMaker$Layout") (T := F_Layout) (N := 10) hx hb ht9 in_Layout hown hK hP 1 rfl rfl 2 (by decide) (va_Nw.use rfl (hN _ k285)) (fun _ h9 => h9) rfl d_Maker_writePathTables_1 ?_
  refine lv_sipush (v := 2048) hx hb d_Maker_writePathTables_4 (by decide) ?_
  refine lv_imul hx hb d_Maker_writePathTables_7 ?_
  refine lv_topi (fun v1 e_v1 => ?_)
  refine lv_istore_n hx hb d_Maker_writePathTables_8 rfl hl (by decide) rfl (fun ls hl => ?_)
  have hl : lv_has ls 7 [(2, .int v1), (0, .ref m0), (1, .ref l0)] := hl
  refine lv_iload_n hx hb d_Maker_writePathTables_9 rfl (lv_at hl 0 rfl) ?_
  refine lv_sipush (v := 2048) hx hb d_Maker_writePathTables_10 (by decide) ?_
  refine lv_iadd hx hb d_Maker_writePathTables_13 ?_
  refine lv_topi (fun v2 e_v2 => ?_)
  refine lv_istore_n hx hb d_Maker_writePathTables_14 rfl hl (by decide) rfl (fun ls hl => ?_)
  have hl : lv_has ls 7 [(3, .int v2), (2, .int v1), (0, .ref m0), (1, .ref l0)] := hl
  refine lv_iconst (v := 0) hx hb d_Maker_writePathTables_15 (by decide) ?_
  refine lv_istore hx hb d_Maker_writePathTables_16 hl (by decide) rfl (fun ls hl => ?_)
  have hl : lv_has ls 7 [(4, .int 0), (3, .int v2), (2, .int v1), (0, .ref m0), (1, .ref l0)] := hl
  refine lv_iconst (v := 0) hx hb d_Maker_writePathTables_18 (by decide) ?_
  refine lv_istore hx hb d_Maker_writePathTables_19 hl (by decide) rfl (fun ls hl => ?_)
  have hl : lv_has ls 7 [(5, .int 0), (4, .int 0), (3, .int v2), (2, .int v1), (0, .ref m0), (1, .ref l0)] := hl
  refine zz_labM (B := fun (lk : Nat) (K : Heap → List Loc → Array Slot → List Value → Prop) => ∀ (bl : Int32) (bh9 : Int32) (la : Int32) (kx : Int32) (lil : Int32) (ljf : Nat → Int32) (lf : Nat → Int32) (H : Heap) (locs : List Loc) (ls : Array Slot), lk = (ld.toInt - kx.toInt).toNat → (0 ≤ kx.toInt ∧ kx.toInt ≤ ld.toInt) → (0 ≤ la.toInt ∧ la.toInt ≤ 100 * kx.toInt) → va_P D CL [(m0, .inr (4, [.ref tr, .ref im, .ref fi, .ref se, .ref u0, .ref id, .ref ct, .int ra, .int ru, .int wg])), (l0, .inr (3, [.int ln, .int lds, .int ltb, .ref lo, .ref lp, .ref lt, .ref lb, .ref le, .int lc, .int ld])), (lp, .inl (cI, 12, .inl fp)), (lt, .inl (cI, 40, .inl ft)), (lb, .inl (cI, 40, .inl fb)), (id, .inr (1, [.ref jq, .int lil])), (jq, .inl (cB, 60, .inl ljf)), (im, .inr (1, [.ref iq, .int L])), (iq, .inl (cB, n, .inl lf))] H → va_D A [(m0, .inr (4, [.ref tr, .ref im, .ref fi, .ref se, .ref u0, .ref id, .ref ct, .int ra, .int ru, .int wg])), (l0, .inr (3, [.int ln, .int lds, .int ltb, .ref lo, .ref lp, .ref lt, .ref lb, .ref le, .int lc, .int ld])), (lp, .inl (cI, 12, .inl fp)), (lt, .inl (cI, 40, .inl ft)), (lb, .inl (cI, 40, .inl fb)), (id, .inr (1, [.ref jq, .int lil])), (jq, .inl (cB, 60, .inl ljf)), (im, .inr (1, [.ref iq, .int L])), (iq, .inl (cB, n, .inl lf))] → va_S A s.heap H locs → lv_has ls 7 [(0, .ref m0), (1, .ref l0), (2, .int bl), (3, .int bh9), (4, .int la), (5, .int kx)] → K H locs ls []) 21 ?_ ?_
  · skip
    intro lk ih21 bl bh9 la kx lil ljf lf H locs ls hm21 e1 e2 hP hD hS hl
    refine lv_iload hx hb d_Maker_writePathTables_21 (lv_at hl 5 rfl) ?_
    refine lv_aload_n hx hb d_Maker_writePathTables_23 rfl (lv_at hl 1 rfl) ?_
    refine va_getN (D := D) (ci := 3) (v := .int ld) (C := "DiscMaker$Layout") (T := F_Layout) (N := 10) hx hb ht9 in_Layout hown hK hP 1 rfl rfl 9 (by decide) (va_Nw.use rfl (hN _ k299)) (fun _ h9 => h9) rfl d_Maker_writePathTables_24 ?_
    refine lv_icmp_ge (tgt := 205) hx hb d_Maker_writePathTables_27 (by decide) (fun h_9 => ?_) (fun h_9 => ?_)
    · skip
      have g27_17 : ld.toInt ≤ kx.toInt := (i_le rfl rfl).mp h_9
      refine lv_iload hx hb d_Maker_writePathTables_205 (lv_at hl 4 rfl) ?_
      have hP9 := hP.sub (ws' := [(m0, .inr (4, [.ref tr, .ref im, .ref fi, .ref se, .ref u0, .ref id, .ref ct, .int ra, .int ru, .int wg])), (l0, .inr (3, [.int ln, .int lds, .int ltb, .ref lo, .ref lp, .ref lt, .ref lb, .ref le, .int lc, .int ld])), (lp, .inl (cI, 12, .inl fp)), (lt, .inl (cI, 40, .inl ft)), (lb, .inl (cI, 40, .inl fb)), (id, .inr (1, [.ref jq, .int lil])), (jq, .inl (cB, 60, .inl ljf)), (im, .inr (1, [.ref iq, .int L])), (iq, .inl (cB, n, .inl lf))]) [0, 1, 2, 3, 4, 5, 6, 7, 8] rfl
      have hD9 := hD.sub (ws' := [(m0, .inr (4, [.ref tr, .ref im, .ref fi, .ref se, .ref u0, .ref id, .ref ct, .int ra, .int ru, .int wg])), (l0, .inr (3, [.int ln, .int lds, .int ltb, .ref lo, .ref lp, .ref lt, .ref lb, .ref le, .int lc, .int ld])), (lp, .inl (cI, 12, .inl fp)), (lt, .inl (cI, 40, .inl ft)), (lb, .inl (cI, 40, .inl fb)), (id, .inr (1, [.ref jq, .int lil])), (jq, .inl (cB, 60, .inl ljf)), (im, .inr (1, [.ref iq, .int L])), (iq, .inl (cB, n, .inl lf))]) [0, 1, 2, 3, 4, 5, 6, 7, 8] (by decide +kernel) rfl
      exact W.iret (v := la) hx hb hr (fun t ht hW => ⟨⟨la, (lil, ljf, lf), rfl, (by (try dsimp only); first | assumption | omega | trivial), by rw [ht]; exact hP9, hD9⟩, hS.F ht⟩) hS.2.2 d_Maker_writePathTables_207
    · skip
      have g27_17 : ¬ ld.toInt ≤ kx.toInt := fun h8 => h_9 ((i_le rfl rfl).mpr h8)
      refine lv_aload_n hx hb d_Maker_writePathTables_30 rfl (lv_at hl 0 rfl) ?_
      refine va_get (D := D) (ci := 4) (v := .ref tr) (C := "DiscMaker$Maker") (T := F_Maker) (N := 10) hx hb ht9 in_Maker hown hK hP 0 rfl rfl 0 (by decide) (ht9 _ k347) (fun _ h9 => h9) rfl d_Maker_writePathTables_31 ?_
      have hPR := RO_at hZr hS
      refine va_getN (D := D) (ci := 10) (v := .ref ta) (C := "DiscMaker$Tree") (T := F_Tree) (N := 3) hx hb ht9 in_Tree hown hK hPR 0 rfl rfl 0 (by decide) (va_Nw.use rfl (hN _ k237)) (fun _ h9 => h9) rfl d_Maker_writePathTables_34 ?_
      refine lv_aload_n hx hb d_Maker_writePathTables_37 rfl (lv_at hl 1 rfl) ?_
      refine va_getN (D := D) (ci := 3) (v := .ref lp) (C := "DiscMaker$Layout") (T := F_Layout) (N := 10) hx hb ht9 in_Layout hown hK hP 1 rfl rfl 4 (by decide) (va_Nw.use rfl (hN _ k289)) (fun _ h9 => h9) rfl d_Maker_writePathTables_38 ?_
      refine lv_iload hx hb d_Maker_writePathTables_41 (lv_at hl 5 rfl) ?_
      refine va_iald hx hb hK hP 2 1 rfl rfl (vp_in_iff.mpr ⟨by omega, by omega⟩) d_Maker_writePathTables_43 ?_
      refine lv_topi (fun v3 e_v3 => ?_)
      have qv3 := OrdOK_at hpo e_v3 (by have := i_cl (a := kx) (by omega); omega)
      have hPR := RO_at hZr hS
      refine va_aldq hx hb hK hPR 1 4 rfl rfl (vp_in_iff.mpr ⟨by omega, by omega⟩) d_Maker_writePathTables_44 ?_
      have c_hk4 := i_cl (a := v3) (by omega)
      have hk4 : v3.toNatClampNeg < cm := by omega
      have o_hk4 := htok v3.toNatClampNeg hk4
      obtain ⟨i_hj5, hj5⟩ : ∃ j : Nat, (PL (NC cB na ng nn nf) cm)[j]? = some ((na v3.toNatClampNeg 0), .inr (5, [.int (ng v3.toNatClampNeg 0), .ref (na v3.toNatClampNeg 1), .ref (na v3.toNatClampNeg 2), .ref (na v3.toNatClampNeg 3), .int (ng v3.toNatClampNeg 1), .int (ng v3.toNatClampNeg 2), .int (ng v3.toNatClampNeg 3), .int (ng v3.toNatClampNeg 4), .int (ng v3.toNatClampNeg 5), .int (ng v3.toNatClampNeg 6), .int (ng v3.toNatClampNeg 7), .int (ng v3.toNatClampNeg 8)])) := PL_get (i := 0) hk4 rfl
      obtain ⟨i_hj6, hj6⟩ : ∃ j : Nat, (PL (NC cB na ng nn nf) cm)[j]? = some ((na v3.toNatClampNeg 1), .inl (cB, (nn v3.toNatClampNeg 1), .inl (nf v3.toNatClampNeg 1))) := PL_get (i := 1) hk4 rfl
      obtain ⟨i_hj7, hj7⟩ : ∃ j : Nat, (PL (NC cB na ng nn nf) cm)[j]? = some ((na v3.toNatClampNeg 2), .inl (cB, 11, .inl (nf v3.toNatClampNeg 2))) := PL_get (i := 2) hk4 rfl
      obtain ⟨i_hj8, hj8⟩ : ∃ j : Nat, (PL (NC cB na ng nn nf) cm)[j]? = some ((na v3.toNatClampNeg 3), .inl (cB, (nn v3.toNatClampNeg 3), .inl (nf v3.toNatClampNeg 3))) := PL_get (i := 3) hk4 rfl
      have dd_hk4 := hdt v3.toNatClampNeg hk4
      have mm_hk4 := hnm v3.toNatClampNeg hk4
      have nu_hk4 : (ng v3.toNatClampNeg 1).toNatClampNeg = v3.toNatClampNeg := by have h7 := i_cl (a := ng v3.toNatClampNeg 1) (by omega); omega
      refine W.eq (g2 := F0 m 45 ls [.ref (na v3.toNatClampNeg 0)]) (by rw [show rowF na cm v3.toNatClampNeg = some (na v3.toNatClampNeg 0) from rowF_some hk4]; rfl) ?_
      refine lv_astore hx hb d_Maker_writePathTables_45 hl (by decide) rfl (fun ls hl => ?_)
      have hl : lv_has ls 7 [(6, .ref (na v3.toNatClampNeg 0)), (0, .ref m0), (1, .ref l0), (2, .int bl), (3, .int bh9), (4, .int la), (5, .int kx)] := hl
      refine lv_aload_n hx hb d_Maker_writePathTables_47 rfl (lv_at hl 1 rfl) ?_
      refine lv_aload_n hx hb d_Maker_writePathTables_48 rfl (lv_at hl 2 rfl) ?_
      refine lv_aload hx hb d_Maker_writePathTables_49 (lv_at hl 0 rfl) ?_
      refine zz_labM (B := fun (lk : Nat) (K : Heap → List Loc → Array Slot → List Value → Prop) => ∀ (ro9 : Int32) (H : Heap) (locs : List Loc) (ls : Array Slot), lk = 0 → (0 ≤ ro9.toInt ∧ ro9.toInt ≤ 2) → va_P D CL [(m0, .inr (4, [.ref tr, .ref im, .ref fi, .ref se, .ref u0, .ref id, .ref ct, .int ra, .int ru, .int wg])), (l0, .inr (3, [.int ln, .int lds, .int ltb, .ref lo, .ref lp, .ref lt, .ref lb, .ref le, .int lc, .int ld])), (lp, .inl (cI, 12, .inl fp)), (lt, .inl (cI, 40, .inl ft)), (lb, .inl (cI, 40, .inl fb)), (id, .inr (1, [.ref jq, .int lil])), (jq, .inl (cB, 60, .inl ljf)), (im, .inr (1, [.ref iq, .int L])), (iq, .inl (cB, n, .inl lf))] H → va_D A [(m0, .inr (4, [.ref tr, .ref im, .ref fi, .ref se, .ref u0, .ref id, .ref ct, .int ra, .int ru, .int wg])), (l0, .inr (3, [.int ln, .int lds, .int ltb, .ref lo, .ref lp, .ref lt, .ref lb, .ref le, .int lc, .int ld])), (lp, .inl (cI, 12, .inl fp)), (lt, .inl (cI, 40, .inl ft)), (lb, .inl (cI, 40, .inl fb)), (id, .inr (1, [.ref jq, .int lil])), (jq, .inl (cB, 60, .inl ljf)), (im, .inr (1, [.ref iq, .int L])), (iq, .inl (cB, n, .inl lf))] → va_S A s.heap H locs → lv_has ls 7 [(0, .ref m0), (1, .ref l0), (2, .int bl), (3, .int bh9), (4, .int la), (5, .int kx), (6, .ref (na v3.toNatClampNeg 0))] → K H locs ls [.int ro9, .ref (na v3.toNatClampNeg 0), .ref l0, .ref m0]) 64 ?_ ?_
      · skip
        intro lk ih64 ro9 H locs ls hm64 e3 hP hD hS hl
        have hPc := hP.sub (ws' := [(m0, .inr (4, [.ref tr, .ref im, .ref fi, .ref se, .ref u0, .ref id, .ref ct, .int ra, .int ru, .int wg])), (l0, .inr (3, [.int ln, .int lds, .int ltb, .ref lo, .ref lp, .ref lt, .ref lb, .ref le, .int lc, .int ld])), (id, .inr (1, [.ref jq, .int lil])), (jq, .inl (cB, 60, .inl ljf))]) [0, 1, 5, 6] rfl
        have hDc := hD.sub (ws' := [(m0, .inr (4, [.ref tr, .ref im, .ref fi, .ref se, .ref u0, .ref id, .ref ct, .int ra, .int ru, .int wg])), (l0, .inr (3, [.int ln, .int lds, .int ltb, .ref lo, .ref lp, .ref lt, .ref lb, .ref le, .int lc, .int ld])), (id, .inr (1, [.ref jq, .int lil])), (jq, .inl (cB, 60, .inl ljf))]) [0, 1, 5, 6] (by decide +kernel) rfl
        have hFc := va_free (wc := [(m0, .inr (4, [.ref tr, .ref im, .ref fi, .ref se, .ref u0, .ref id, .ref ct, .int ra, .int ru, .int wg])), (l0, .inr (3, [.int ln, .int lds, .int ltb, .ref lo, .ref lp, .ref lt, .ref lb, .ref le, .int lc, .int ld])), (id, .inr (1, [.ref jq, .int lil])), (jq, .inl (cB, 60, .inl ljf))]) hD hS hA [0, 1, 5, 6] rfl
        have hkc : 0 ≤ 0 := by decide
        have hks : 0 ≤ 0 := by decide
        refine va_callv (va_runV (C := "DiscMaker$Maker") (As := [.ref l0, .ref (na v3.toNatClampNeg 0), .int ro9]) (rest := []) ⟨hx, hb, hml, hown, hts⟩ (c3_Maker_identify l D cB cI cJ cZ cN cF H.size m0 tr im fi se u0 id ct ra ru wg l0 lo lp lt lb le ln lds ltb lc ld jq lil ljf (na v3.toNatClampNeg 0) (na v3.toNatClampNeg 1) (na v3.toNatClampNeg 2) (na v3.toNatClampNeg 3) (ng v3.toNatClampNeg 0) (ng v3.toNatClampNeg 1) (ng v3.toNatClampNeg 2) (ng v3.toNatClampNeg 3) (ng v3.toNatClampNeg 4) (ng v3.toNatClampNeg 5) (ng v3.toNatClampNeg 6) (ng v3.toNatClampNeg 7) (ng v3.toNatClampNeg 8) (nn v3.toNatClampNeg 1) (nf v3.toNatClampNeg 1) (nf v3.toNatClampNeg 2) dt ro9 (by (try dsimp only); first | assumption | omega | trivial) (by rw [nu_hk4]; exact dd_hk4.1.1) (by rw [nu_hk4]; exact dd_hk4.1.2.1) (by rw [nu_hk4]; exact dd_hk4.2.1) (by rw [nu_hk4]; exact dd_hk4.2.2) (mm_hk4.1.1) (by (try dsimp only); first | assumption | omega | trivial) (by (try dsimp only); first | assumption | omega | trivial)) (cwV 3 hts (lg_goodV k972 k974 k18 k120 kc_Maker_identify) rfl rfl rfl (by decide +kernel) ⟨Nat.le_of_ble_eq_true rfl, Nat.le_of_ble_eq_true rfl⟩) ⟨fun a U g mk q => by obtain ⟨q0, q1, qP, qK, qN, qD, qZ0⟩ := q; exact ⟨q0, q1, qP, va_K.moved (u := U) (U := U.calling g mk a) (Vm.Alike.refl U.vm) qK, qN.calling, qD, RO_blind qZ0⟩, va_recv hK hP (ci := 4) (q0 := 0) rfl rfl, fun U hU hW => ⟨rfl, by rw [hU], by rw [hU]; exact hPc, va_K.moved hW.alike hK, NN.warm hW hN, hDc.weaken (fun _ _ _ _ => trivial), (RO_app (w1 := [((na v3.toNatClampNeg 0), .inr (5, [.int (ng v3.toNatClampNeg 0), .ref (na v3.toNatClampNeg 1), .ref (na v3.toNatClampNeg 2), .ref (na v3.toNatClampNeg 3), .int (ng v3.toNatClampNeg 1), .int (ng v3.toNatClampNeg 2), .int (ng v3.toNatClampNeg 3), .int (ng v3.toNatClampNeg 4), .int (ng v3.toNatClampNeg 5), .int (ng v3.toNatClampNeg 6), .int (ng v3.toNatClampNeg 7), .int (ng v3.toNatClampNeg 8)]))]) (w2 := [((na v3.toNatClampNeg 1), .inl (cB, (nn v3.toNatClampNeg 1), .inl (nf v3.toNatClampNeg 1))), ((na v3.toNatClampNeg 2), .inl (cB, 11, .inl (nf v3.toNatClampNeg 2)))]) (RO_pass (RO_one hZr _ (pix (X := [(tr, .inr (10, [.ref ta, .int cn, .int dr])), (ta, .inl (cN, 40, .inr (.inr (.inr (.inr (rowF na cm))))))]) hj5)) hS hFc hU) (RO_app (w1 := [((na v3.toNatClampNeg 1), .inl (cB, (nn v3.toNatClampNeg 1), .inl (nf v3.toNatClampNeg 1)))]) (w2 := [((na v3.toNatClampNeg 2), .inl (cB, 11, .inl (nf v3.toNatClampNeg 2)))]) (RO_pass (RO_one hZr _ (pix (X := [(tr, .inr (10, [.ref ta, .int cn, .int dr])), (ta, .inl (cN, 40, .inr (.inr (.inr (.inr (rowF na cm))))))]) hj6)) hS hFc hU) (RO_pass (RO_one hZr _ (pix (X := [(tr, .inr (10, [.ref ta, .int cn, .int dr])), (ta, .inl (cN, 40, .inr (.inr (.inr (.inr (rowF na cm))))))]) hj7)) hS hFc hU)))⟩⟩ rfl rfl hl.1 rfl (lv_room (Nat.le_of_ble_eq_true rfl)) d_Maker_writePathTables_64 ⟨hkc, hks⟩) hS (fun q _ h => hFc q h) hFc (fun u t H1 locs ht hvm hp_r9 hB hz1 hk1 hS => ?_)
        obtain ⟨il2_10, g_11⟩ := u
        obtain ⟨hP1, hD1⟩ := hB
        rw [ht] at hP1
        obtain ⟨hP, hD⟩ := va_join (wr := [(lp, .inl (cI, 12, .inl fp)), (lt, .inl (cI, 40, .inl ft)), (lb, .inl (cI, 40, .inl fb)), (im, .inr (1, [.ref iq, .int L])), (iq, .inl (cB, n, .inl lf))]) (w1 := [(m0, .inr (4, [.ref tr, .ref im, .ref fi, .ref se, .ref u0, .ref id, .ref ct, .int ra, .int ru, .int wg])), (l0, .inr (3, [.int ln, .int lds, .int ltb, .ref lo, .ref lp, .ref lt, .ref lb, .ref le, .int lc, .int ld])), (id, .inr (1, [.ref jq, .int il2_10])), (jq, .inl (cB, 60, .inl g_11))]) hP hD [0, 1, 5, 6] [2, 3, 4, 7, 8] rfl rfl (by decide +kernel) (by decide +kernel) hk1 hFc hP1 hD1
        clear hPc hDc hFc hP1 hD1 hk1 hz1 hkc hks
        generalize H1 = H at hP hS ⊢
        have hP : va_P D CL [(lp, .inl (cI, 12, .inl fp)), (lt, .inl (cI, 40, .inl ft)), (lb, .inl (cI, 40, .inl fb)), (im, .inr (1, [.ref iq, .int L])), (iq, .inl (cB, n, .inl lf)), (m0, .inr (4, [.ref tr, .ref im, .ref fi, .ref se, .ref u0, .ref id, .ref ct, .int ra, .int ru, .int wg])), (l0, .inr (3, [.int ln, .int lds, .int ltb, .ref lo, .ref lp, .ref lt, .ref lb, .ref le, .int lc, .int ld])), (id, .inr (1, [.ref jq, .int il2_10])), (jq, .inl (cB, 60, .inl g_11))] H := hP
        have hD : va_D A [(lp, .inl (cI, 12, .inl fp)), (lt, .inl (cI, 40, .inl ft)), (lb, .inl (cI, 40, .inl fb)), (im, .inr (1, [.ref iq, .int L])), (iq, .inl (cB, n, .inl lf)), (m0, .inr (4, [.ref tr, .ref im, .ref fi, .ref se, .ref u0, .ref id, .ref ct, .int ra, .int ru, .int wg])), (l0, .inr (3, [.int ln, .int lds, .int ltb, .ref lo, .ref lp, .ref lt, .ref lb, .ref le, .int lc, .int ld])), (id, .inr (1, [.ref jq, .int il2_10])), (jq, .inl (cB, 60, .inl g_11))] := hD
        try dsimp only at hp_r9
        obtain ⟨hil2_12, hid_13⟩ := hp_r9
        refine lv_aload_n hx hb d_Maker_writePathTables_67 rfl (lv_at hl 0 rfl) ?_
        refine lv_iload_n hx hb d_Maker_writePathTables_68 rfl (lv_at hl 2 rfl) ?_
        refine lv_iload hx hb d_Maker_writePathTables_69 (lv_at hl 4 rfl) ?_
        refine lv_iadd hx hb d_Maker_writePathTables_71 ?_
        refine lv_topi (fun v14 e_v14 => ?_)
        have hPc := hP.sub (ws' := [(m0, .inr (4, [.ref tr, .ref im, .ref fi, .ref se, .ref u0, .ref id, .ref ct, .int ra, .int ru, .int wg])), (id, .inr (1, [.ref jq, .int il2_10])), (jq, .inl (cB, 60, .inl g_11)), (im, .inr (1, [.ref iq, .int L])), (iq, .inl (cB, n, .inl lf))]) [5, 7, 8, 3, 4] rfl
        have hDc := hD.sub (ws' := [(m0, .inr (4, [.ref tr, .ref im, .ref fi, .ref se, .ref u0, .ref id, .ref ct, .int ra, .int ru, .int wg])), (id, .inr (1, [.ref jq, .int il2_10])), (jq, .inl (cB, 60, .inl g_11)), (im, .inr (1, [.ref iq, .int L])), (iq, .inl (cB, n, .inl lf))]) [5, 7, 8, 3, 4] (by decide +kernel) rfl
        have hFc := va_free (wc := [(m0, .inr (4, [.ref tr, .ref im, .ref fi, .ref se, .ref u0, .ref id, .ref ct, .int ra, .int ru, .int wg])), (id, .inr (1, [.ref jq, .int il2_10])), (jq, .inl (cB, 60, .inl g_11)), (im, .inr (1, [.ref iq, .int L])), (iq, .inl (cB, n, .inl lf))]) hD hS hA [5, 7, 8, 3, 4] rfl
        have hkc : 0 ≤ 0 := by decide
        have hks : 0 ≤ 0 := by decide
        refine va_callv (va_runV (C := "DiscMaker$Maker") (As := [.int v14]) (rest := []) ⟨hx, hb, hml, hown, hts⟩ (c3_writePathHead l D cB cI cJ cZ cN cF H.size m0 tr im fi se u0 id ct ra ru wg jq il2_10 g_11 iq n L lf v14 (by (try dsimp only); first | assumption | omega | trivial) (by (try dsimp only); first | assumption | omega | trivial) (by (try dsimp only); first | assumption | omega | trivial)) (cwV 1 hts (lg_goodV k1091 k1093 k26 k120 kc_Maker_writePathHead) rfl rfl rfl (by decide +kernel) ⟨Nat.le_of_ble_eq_true rfl, Nat.le_of_ble_eq_true rfl⟩) ⟨fun a U g mk q => by obtain ⟨q0, q1, qP, qK, qN, qD⟩ := q; exact ⟨q0, q1, qP, va_K.moved (u := U) (U := U.calling g mk a) (Vm.Alike.refl U.vm) qK, qN.calling, qD⟩, va_recv hK hP (ci := 4) (q0 := 5) rfl rfl, fun U hU hW => ⟨rfl, by rw [hU], by rw [hU]; exact hPc, va_K.moved hW.alike hK, NN.warm hW hN, hDc.weaken (fun _ _ _ _ => trivial)⟩⟩ rfl rfl hl.1 rfl (lv_room (Nat.le_of_ble_eq_true rfl)) d_Maker_writePathTables_72 ⟨hkc, hks⟩) hS (fun q _ h => hFc q h) hFc (fun u t H1 locs ht hvm hp_r15 hB hz1 hk1 hS => ?_)
        obtain ⟨g_16, rfl⟩ : ∃ z, z = u := ⟨_, rfl⟩
        obtain ⟨hP1, hD1⟩ := hB
        rw [ht] at hP1
        obtain ⟨hP, hD⟩ := va_join (wr := [(lp, .inl (cI, 12, .inl fp)), (lt, .inl (cI, 40, .inl ft)), (lb, .inl (cI, 40, .inl fb)), (l0, .inr (3, [.int ln, .int lds, .int ltb, .ref lo, .ref lp, .ref lt, .ref lb, .ref le, .int lc, .int ld]))]) (w1 := [(m0, .inr (4, [.ref tr, .ref im, .ref fi, .ref se, .ref u0, .ref id, .ref ct, .int ra, .int ru, .int wg])), (id, .inr (1, [.ref jq, .int il2_10])), (jq, .inl (cB, 60, .inl g_11)), (im, .inr (1, [.ref iq, .int L])), (iq, .inl (cB, n, .inl g_16))]) hP hD [5, 7, 8, 3, 4] [0, 1, 2, 6] rfl rfl (by decide +kernel) (by decide +kernel) hk1 hFc hP1 hD1
        clear hPc hDc hFc hP1 hD1 hk1 hz1 hkc hks
        generalize H1 = H at hP hS ⊢
        have hP : va_P D CL [(lp, .inl (cI, 12, .inl fp)), (lt, .inl (cI, 40, .inl ft)), (lb, .inl (cI, 40, .inl fb)), (l0, .inr (3, [.int ln, .int lds, .int ltb, .ref lo, .ref lp, .ref lt, .ref lb, .ref le, .int lc, .int ld])), (m0, .inr (4, [.ref tr, .ref im, .ref fi, .ref se, .ref u0, .ref id, .ref ct, .int ra, .int ru, .int wg])), (id, .inr (1, [.ref jq, .int il2_10])), (jq, .inl (cB, 60, .inl g_11)), (im, .inr (1, [.ref iq, .int L])), (iq, .inl (cB, n, .inl g_16))] H := hP
        have hD : va_D A [(lp, .inl (cI, 12, .inl fp)), (lt, .inl (cI, 40, .inl ft)), (lb, .inl (cI, 40, .inl fb)), (l0, .inr (3, [.int ln, .int lds, .int ltb, .ref lo, .ref lp, .ref lt, .ref lb, .ref le, .int lc, .int ld])), (m0, .inr (4, [.ref tr, .ref im, .ref fi, .ref se, .ref u0, .ref id, .ref ct, .int ra, .int ru, .int wg])), (id, .inr (1, [.ref jq, .int il2_10])), (jq, .inl (cB, 60, .inl g_11)), (im, .inr (1, [.ref iq, .int L])), (iq, .inl (cB, n, .inl g_16))] := hD
        refine lv_aload_n hx hb d_Maker_writePathTables_75 rfl (lv_at hl 0 rfl) ?_
        refine lv_iload_n hx hb d_Maker_writePathTables_76 rfl (lv_at hl 3 rfl) ?_
        refine lv_iload hx hb d_Maker_writePathTables_77 (lv_at hl 4 rfl) ?_
        refine lv_iadd hx hb d_Maker_writePathTables_79 ?_
        refine lv_topi (fun v17 e_v17 => ?_)
        have hPc := hP.sub (ws' := [(m0, .inr (4, [.ref tr, .ref im, .ref fi, .ref se, .ref u0, .ref id, .ref ct, .int ra, .int ru, .int wg])), (id, .inr (1, [.ref jq, .int il2_10])), (jq, .inl (cB, 60, .inl g_11)), (im, .inr (1, [.ref iq, .int L])), (iq, .inl (cB, n, .inl g_16))]) [4, 5, 6, 7, 8] rfl
        have hDc := hD.sub (ws' := [(m0, .inr (4, [.ref tr, .ref im, .ref fi, .ref se, .ref u0, .ref id, .ref ct, .int ra, .int ru, .int wg])), (id, .inr (1, [.ref jq, .int il2_10])), (jq, .inl (cB, 60, .inl g_11)), (im, .inr (1, [.ref iq, .int L])), (iq, .inl (cB, n, .inl g_16))]) [4, 5, 6, 7, 8] (by decide +kernel) rfl
        have hFc := va_free (wc := [(m0, .inr (4, [.ref tr, .ref im, .ref fi, .ref se, .ref u0, .ref id, .ref ct, .int ra, .int ru, .int wg])), (id, .inr (1, [.ref jq, .int il2_10])), (jq, .inl (cB, 60, .inl g_11)), (im, .inr (1, [.ref iq, .int L])), (iq, .inl (cB, n, .inl g_16))]) hD hS hA [4, 5, 6, 7, 8] rfl
        have hkc : 0 ≤ 0 := by decide
        have hks : 0 ≤ 0 := by decide
        refine va_callv (va_runV (C := "DiscMaker$Maker") (As := [.int v17]) (rest := []) ⟨hx, hb, hml, hown, hts⟩ (c3_writePathHead l D cB cI cJ cZ cN cF H.size m0 tr im fi se u0 id ct ra ru wg jq il2_10 g_11 iq n L g_16 v17 (by (try dsimp only); first | assumption | omega | trivial) (by (try dsimp only); first | assumption | omega | trivial) (by (try dsimp only); first | assumption | omega | trivial)) (cwV 1 hts (lg_goodV k1091 k1093 k26 k120 kc_Maker_writePathHead) rfl rfl rfl (by decide +kernel) ⟨Nat.le_of_ble_eq_true rfl, Nat.le_of_ble_eq_true rfl⟩) ⟨fun a U g mk q => by obtain ⟨q0, q1, qP, qK, qN, qD⟩ := q; exact ⟨q0, q1, qP, va_K.moved (u := U) (U := U.calling g mk a) (Vm.Alike.refl U.vm) qK, qN.calling, qD⟩, va_recv hK hP (ci := 4) (q0 := 4) rfl rfl, fun U hU hW => ⟨rfl, by rw [hU], by rw [hU]; exact hPc, va_K.moved hW.alike hK, NN.warm hW hN, hDc.weaken (fun _ _ _ _ => trivial)⟩⟩ rfl rfl hl.1 rfl (lv_room (Nat.le_of_ble_eq_true rfl)) d_Maker_writePathTables_80 ⟨hkc, hks⟩) hS (fun q _ h => hFc q h) hFc (fun u t H1 locs ht hvm hp_r18 hB hz1 hk1 hS => ?_)
        obtain ⟨g_19, rfl⟩ : ∃ z, z = u := ⟨_, rfl⟩
        obtain ⟨hP1, hD1⟩ := hB
        rw [ht] at hP1
        obtain ⟨hP, hD⟩ := va_join (wr := [(lp, .inl (cI, 12, .inl fp)), (lt, .inl (cI, 40, .inl ft)), (lb, .inl (cI, 40, .inl fb)), (l0, .inr (3, [.int ln, .int lds, .int ltb, .ref lo, .ref lp, .ref lt, .ref lb, .ref le, .int lc, .int ld]))]) (w1 := [(m0, .inr (4, [.ref tr, .ref im, .ref fi, .ref se, .ref u0, .ref id, .ref ct, .int ra, .int ru, .int wg])), (id, .inr (1, [.ref jq, .int il2_10])), (jq, .inl (cB, 60, .inl g_11)), (im, .inr (1, [.ref iq, .int L])), (iq, .inl (cB, n, .inl g_19))]) hP hD [4, 5, 6, 7, 8] [0, 1, 2, 3] rfl rfl (by decide +kernel) (by decide +kernel) hk1 hFc hP1 hD1
        clear hPc hDc hFc hP1 hD1 hk1 hz1 hkc hks
        generalize H1 = H at hP hS ⊢
        have hP : va_P D CL [(lp, .inl (cI, 12, .inl fp)), (lt, .inl (cI, 40, .inl ft)), (lb, .inl (cI, 40, .inl fb)), (l0, .inr (3, [.int ln, .int lds, .int ltb, .ref lo, .ref lp, .ref lt, .ref lb, .ref le, .int lc, .int ld])), (m0, .inr (4, [.ref tr, .ref im, .ref fi, .ref se, .ref u0, .ref id, .ref ct, .int ra, .int ru, .int wg])), (id, .inr (1, [.ref jq, .int il2_10])), (jq, .inl (cB, 60, .inl g_11)), (im, .inr (1, [.ref iq, .int L])), (iq, .inl (cB, n, .inl g_19))] H := hP
        have hD : va_D A [(lp, .inl (cI, 12, .inl fp)), (lt, .inl (cI, 40, .inl ft)), (lb, .inl (cI, 40, .inl fb)), (l0, .inr (3, [.int ln, .int lds, .int ltb, .ref lo, .ref lp, .ref lt, .ref lb, .ref le, .int lc, .int ld])), (m0, .inr (4, [.ref tr, .ref im, .ref fi, .ref se, .ref u0, .ref id, .ref ct, .int ra, .int ru, .int wg])), (id, .inr (1, [.ref jq, .int il2_10])), (jq, .inl (cB, 60, .inl g_11)), (im, .inr (1, [.ref iq, .int L])), (iq, .inl (cB, n, .inl g_19))] := hD
        refine lv_aload_n hx hb d_Maker_writePathTables_83 rfl (lv_at hl 0 rfl) ?_
        refine va_get (D := D) (ci := 4) (v := .ref im) (C := "DiscMaker$Maker") (T := F_Maker) (N := 10) hx hb ht9 in_Maker hown hK hP 4 rfl rfl 1 (by decide) (ht9 _ k348) (fun _ h9 => h9) rfl d_Maker_writePathTables_84 ?_
        refine lv_iload_n hx hb d_Maker_writePathTables_87 rfl (lv_at hl 2 rfl) ?_
        refine lv_iload hx hb d_Maker_writePathTables_88 (lv_at hl 4 rfl) ?_
        refine lv_iadd hx hb d_Maker_writePathTables_90 ?_
        refine lv_topi (fun v20 e_v20 => ?_)
        refine lv_iconst (v := 2) hx hb d_Maker_writePathTables_91 (by decide) ?_
        refine lv_iadd hx hb d_Maker_writePathTables_92 ?_
        refine lv_topi (fun v21 e_v21 => ?_)
        refine lv_aload_n hx hb d_Maker_writePathTables_93 rfl (lv_at hl 1 rfl) ?_
        refine va_getN (D := D) (ci := 3) (v := .ref lb) (C := "DiscMaker$Layout") (T := F_Layout) (N := 10) hx hb ht9 in_Layout hown hK hP 3 rfl rfl 6 (by decide) (va_Nw.use rfl (hN _ k293)) (fun _ h9 => h9) rfl d_Maker_writePathTables_94 ?_
        refine lv_aload hx hb d_Maker_writePathTables_97 (lv_at hl 6 rfl) ?_
        have hPR := RO_at hZr hS
        refine va_getN (D := D) (ci := 5) (v := .int (ng v3.toNatClampNeg 1)) (C := "DiscMaker$Node") (T := F_Node) (N := 12) hx hb ht9 in_Node hown hK hPR _ (pix (X := [(tr, .inr (10, [.ref ta, .int cn, .int dr])), (ta, .inl (cN, 40, .inr (.inr (.inr (.inr (rowF na cm))))))]) hj5) rfl 4 (by decide) (va_Nw.use rfl (hN _ k195)) (fun _ h9 => h9) rfl d_Maker_writePathTables_99 ?_
        refine va_iald hx hb hK hP 2 1 rfl rfl (vp_in_iff.mpr ⟨by omega, by omega⟩) d_Maker_writePathTables_102 ?_
        refine lv_topi (fun v22 e_v22 => ?_)
        refine lv_iconst (v := 4) hx hb d_Maker_writePathTables_103 (by decide) ?_
        have hPc := hP.sub (ws' := [(im, .inr (1, [.ref iq, .int L])), (iq, .inl (cB, n, .inl g_19))]) [7, 8] rfl
        have hDc := hD.sub (ws' := [(im, .inr (1, [.ref iq, .int L])), (iq, .inl (cB, n, .inl g_19))]) [7, 8] (by decide +kernel) rfl
        have hFc := va_free (wc := [(im, .inr (1, [.ref iq, .int L])), (iq, .inl (cB, n, .inl g_19))]) hD hS hA [7, 8] rfl
        have hkc : 0 ≤ 0 := by decide
        have hks : 0 ≤ 0 := by decide
        refine va_callv (va_runV (C := "DiscMaker$Bytes") (As := [.int v21, .int v22, .int 4]) (rest := []) ⟨hx, hb, hml, hown, hts⟩ (c3_putLow l D cB cI cJ cZ cN cF H.size im iq n L g_19 v21 v22 4 (by (try dsimp only); first | assumption | omega | trivial) (by (try dsimp only); first | assumption | omega | trivial) (by (try dsimp only); first | assumption | omega | trivial)) (cwV 3 hts (lg_goodV k1095 k1096 k1097 k119 kc_Bytes_putLow) rfl rfl rfl (by decide +kernel) ⟨Nat.le_of_ble_eq_true rfl, Nat.le_of_ble_eq_true rfl⟩) ⟨fun a U g mk q => by obtain ⟨q0, q1, qP, qK, qN, qD⟩ := q; exact ⟨q0, q1, qP, va_K.moved (u := U) (U := U.calling g mk a) (Vm.Alike.refl U.vm) qK, qN.calling, qD⟩, va_recv hK hP (ci := 1) (q0 := 7) rfl rfl, fun U hU hW => ⟨rfl, by rw [hU], by rw [hU]; exact hPc, va_K.moved hW.alike hK, NN.warm hW hN, hDc.weaken (fun _ _ _ _ => trivial)⟩⟩ rfl rfl hl.1 rfl (lv_room (Nat.le_of_ble_eq_true rfl)) d_Maker_writePathTables_104 ⟨hkc, hks⟩) hS (fun q _ h => hFc q h) hFc (fun u t H1 locs ht hvm hp_r23 hB hz1 hk1 hS => ?_)
        obtain ⟨g_24, rfl⟩ : ∃ z, z = u := ⟨_, rfl⟩
        obtain ⟨hP1, hD1⟩ := hB
        rw [ht] at hP1
        obtain ⟨hP, hD⟩ := va_join (wr := [(lp, .inl (cI, 12, .inl fp)), (lt, .inl (cI, 40, .inl ft)), (lb, .inl (cI, 40, .inl fb)), (l0, .inr (3, [.int ln, .int lds, .int ltb, .ref lo, .ref lp, .ref lt, .ref lb, .ref le, .int lc, .int ld])), (m0, .inr (4, [.ref tr, .ref im, .ref fi, .ref se, .ref u0, .ref id, .ref ct, .int ra, .int ru, .int wg])), (id, .inr (1, [.ref jq, .int il2_10])), (jq, .inl (cB, 60, .inl g_11))]) (w1 := [(im, .inr (1, [.ref iq, .int L])), (iq, .inl (cB, n, .inl g_24))]) hP hD [7, 8] [0, 1, 2, 3, 4, 5, 6] rfl rfl (by decide +kernel) (by decide +kernel) hk1 hFc hP1 hD1
        clear hPc hDc hFc hP1 hD1 hk1 hz1 hkc hks
        generalize H1 = H at hP hS ⊢
        have hP : va_P D CL [(lp, .inl (cI, 12, .inl fp)), (lt, .inl (cI, 40, .inl ft)), (lb, .inl (cI, 40, .inl fb)), (l0, .inr (3, [.int ln, .int lds, .int ltb, .ref lo, .ref lp, .ref lt, .ref lb, .ref le, .int lc, .int ld])), (m0, .inr (4, [.ref tr, .ref im, .ref fi, .ref se, .ref u0, .ref id, .ref ct, .int ra, .int ru, .int wg])), (id, .inr (1, [.ref jq, .int il2_10])), (jq, .inl (cB, 60, .inl g_11)), (im, .inr (1, [.ref iq, .int L])), (iq, .inl (cB, n, .inl g_24))] H := hP
        have hD : va_D A [(lp, .inl (cI, 12, .inl fp)), (lt, .inl (cI, 40, .inl ft)), (lb, .inl (cI, 40, .inl fb)), (l0, .inr (3, [.int ln, .int lds, .int ltb, .ref lo, .ref lp, .ref lt, .ref lb, .ref le, .int lc, .int ld])), (m0, .inr (4, [.ref tr, .ref im, .ref fi, .ref se, .ref u0, .ref id, .ref ct, .int ra, .int ru, .int wg])), (id, .inr (1, [.ref jq, .int il2_10])), (jq, .inl (cB, 60, .inl g_11)), (im, .inr (1, [.ref iq, .int L])), (iq, .inl (cB, n, .inl g_24))] := hD
        refine lv_aload_n hx hb d_Maker_writePathTables_107 rfl (lv_at hl 0 rfl) ?_
        refine va_get (D := D) (ci := 4) (v := .ref im) (C := "DiscMaker$Maker") (T := F_Maker) (N := 10) hx hb ht9 in_Maker hown hK hP 4 rfl rfl 1 (by decide) (ht9 _ k348) (fun _ h9 => h9) rfl d_Maker_writePathTables_108 ?_
        refine lv_iload_n hx hb d_Maker_writePathTables_111 rfl (lv_at hl 3 rfl) ?_
        refine lv_iload hx hb d_Maker_writePathTables_112 (lv_at hl 4 rfl) ?_
        refine lv_iadd hx hb d_Maker_writePathTables_114 ?_
        refine lv_topi (fun v25 e_v25 => ?_)
        refine lv_iconst (v := 2) hx hb d_Maker_writePathTables_115 (by decide) ?_
        refine lv_iadd hx hb d_Maker_writePathTables_116 ?_
        refine lv_topi (fun v26 e_v26 => ?_)
        refine lv_aload_n hx hb d_Maker_writePathTables_117 rfl (lv_at hl 1 rfl) ?_
        refine va_getN (D := D) (ci := 3) (v := .ref lb) (C := "DiscMaker$Layout") (T := F_Layout) (N := 10) hx hb ht9 in_Layout hown hK hP 3 rfl rfl 6 (by decide) (va_Nw.use rfl (hN _ k293)) (fun _ h9 => h9) rfl d_Maker_writePathTables_118 ?_
        refine lv_aload hx hb d_Maker_writePathTables_121 (lv_at hl 6 rfl) ?_
        have hPR := RO_at hZr hS
        refine va_getN (D := D) (ci := 5) (v := .int (ng v3.toNatClampNeg 1)) (C := "DiscMaker$Node") (T := F_Node) (N := 12) hx hb ht9 in_Node hown hK hPR _ (pix (X := [(tr, .inr (10, [.ref ta, .int cn, .int dr])), (ta, .inl (cN, 40, .inr (.inr (.inr (.inr (rowF na cm))))))]) hj5) rfl 4 (by decide) (va_Nw.use rfl (hN _ k195)) (fun _ h9 => h9) rfl d_Maker_writePathTables_123 ?_
        refine va_iald hx hb hK hP 2 1 rfl rfl (vp_in_iff.mpr ⟨by omega, by omega⟩) d_Maker_writePathTables_126 ?_
        refine lv_topi (fun v27 e_v27 => ?_)
        have q_v27 : v27.toInt = v22.toInt := by rw [e_v27, e_v22]
        refine lv_iconst (v := 4) hx hb d_Maker_writePathTables_127 (by decide) ?_
        have hPc := hP.sub (ws' := [(im, .inr (1, [.ref iq, .int L])), (iq, .inl (cB, n, .inl g_24))]) [7, 8] rfl
        have hDc := hD.sub (ws' := [(im, .inr (1, [.ref iq, .int L])), (iq, .inl (cB, n, .inl g_24))]) [7, 8] (by decide +kernel) rfl
        have hFc := va_free (wc := [(im, .inr (1, [.ref iq, .int L])), (iq, .inl (cB, n, .inl g_24))]) hD hS hA [7, 8] rfl
        have hkc : 0 ≤ 0 := by decide
        have hks : 0 ≤ 0 := by decide
        refine va_callv (va_runV (C := "DiscMaker$Bytes") (As := [.int v26, .int v27, .int 4]) (rest := []) ⟨hx, hb, hml, hown, hts⟩ (c3_putHigh l D cB cI cJ cZ cN cF H.size im iq n L g_24 v26 v27 4 (by (try dsimp only); first | assumption | omega | trivial) (by (try dsimp only); first | assumption | omega | trivial) (by (try dsimp only); first | assumption | omega | trivial)) (cwV 3 hts (lg_goodV k1072 k985 k986 k119 kc_Bytes_putHigh) rfl rfl rfl (by decide +kernel) ⟨Nat.le_of_ble_eq_true rfl, Nat.le_of_ble_eq_true rfl⟩) ⟨fun a U g mk q => by obtain ⟨q0, q1, qP, qK, qN, qD⟩ := q; exact ⟨q0, q1, qP, va_K.moved (u := U) (U := U.calling g mk a) (Vm.Alike.refl U.vm) qK, qN.calling, qD⟩, va_recv hK hP (ci := 1) (q0 := 7) rfl rfl, fun U hU hW => ⟨rfl, by rw [hU], by rw [hU]; exact hPc, va_K.moved hW.alike hK, NN.warm hW hN, hDc.weaken (fun _ _ _ _ => trivial)⟩⟩ rfl rfl hl.1 rfl (lv_room (Nat.le_of_ble_eq_true rfl)) d_Maker_writePathTables_128 ⟨hkc, hks⟩) hS (fun q _ h => hFc q h) hFc (fun u t H1 locs ht hvm hp_r28 hB hz1 hk1 hS => ?_)
        obtain ⟨g_29, rfl⟩ : ∃ z, z = u := ⟨_, rfl⟩
        obtain ⟨hP1, hD1⟩ := hB
        rw [ht] at hP1
        obtain ⟨hP, hD⟩ := va_join (wr := [(lp, .inl (cI, 12, .inl fp)), (lt, .inl (cI, 40, .inl ft)), (lb, .inl (cI, 40, .inl fb)), (l0, .inr (3, [.int ln, .int lds, .int ltb, .ref lo, .ref lp, .ref lt, .ref lb, .ref le, .int lc, .int ld])), (m0, .inr (4, [.ref tr, .ref im, .ref fi, .ref se, .ref u0, .ref id, .ref ct, .int ra, .int ru, .int wg])), (id, .inr (1, [.ref jq, .int il2_10])), (jq, .inl (cB, 60, .inl g_11))]) (w1 := [(im, .inr (1, [.ref iq, .int L])), (iq, .inl (cB, n, .inl g_29))]) hP hD [7, 8] [0, 1, 2, 3, 4, 5, 6] rfl rfl (by decide +kernel) (by decide +kernel) hk1 hFc hP1 hD1
        clear hPc hDc hFc hP1 hD1 hk1 hz1 hkc hks
        generalize H1 = H at hP hS ⊢
        have hP : va_P D CL [(lp, .inl (cI, 12, .inl fp)), (lt, .inl (cI, 40, .inl ft)), (lb, .inl (cI, 40, .inl fb)), (l0, .inr (3, [.int ln, .int lds, .int ltb, .ref lo, .ref lp, .ref lt, .ref lb, .ref le, .int lc, .int ld])), (m0, .inr (4, [.ref tr, .ref im, .ref fi, .ref se, .ref u0, .ref id, .ref ct, .int ra, .int ru, .int wg])), (id, .inr (1, [.ref jq, .int il2_10])), (jq, .inl (cB, 60, .inl g_11)), (im, .inr (1, [.ref iq, .int L])), (iq, .inl (cB, n, .inl g_29))] H := hP
        have hD : va_D A [(lp, .inl (cI, 12, .inl fp)), (lt, .inl (cI, 40, .inl ft)), (lb, .inl (cI, 40, .inl fb)), (l0, .inr (3, [.int ln, .int lds, .int ltb, .ref lo, .ref lp, .ref lt, .ref lb, .ref le, .int lc, .int ld])), (m0, .inr (4, [.ref tr, .ref im, .ref fi, .ref se, .ref u0, .ref id, .ref ct, .int ra, .int ru, .int wg])), (id, .inr (1, [.ref jq, .int il2_10])), (jq, .inl (cB, 60, .inl g_11)), (im, .inr (1, [.ref iq, .int L])), (iq, .inl (cB, n, .inl g_29))] := hD
        refine lv_aload_n hx hb d_Maker_writePathTables_131 rfl (lv_at hl 0 rfl) ?_
        refine va_get (D := D) (ci := 4) (v := .ref im) (C := "DiscMaker$Maker") (T := F_Maker) (N := 10) hx hb ht9 in_Maker hown hK hP 4 rfl rfl 1 (by decide) (ht9 _ k348) (fun _ h9 => h9) rfl d_Maker_writePathTables_132 ?_
        refine lv_iload_n hx hb d_Maker_writePathTables_135 rfl (lv_at hl 2 rfl) ?_
        refine lv_iload hx hb d_Maker_writePathTables_136 (lv_at hl 4 rfl) ?_
        refine lv_iadd hx hb d_Maker_writePathTables_138 ?_
        refine lv_topi (fun v30 e_v30 => ?_)
        refine lv_bipush (v := 6) hx hb d_Maker_writePathTables_139 (by decide) ?_
        refine lv_iadd hx hb d_Maker_writePathTables_141 ?_
        refine lv_topi (fun v31 e_v31 => ?_)
        refine lv_aload_n hx hb d_Maker_writePathTables_142 rfl (lv_at hl 1 rfl) ?_
        refine va_getN (D := D) (ci := 3) (v := .ref lt) (C := "DiscMaker$Layout") (T := F_Layout) (N := 10) hx hb ht9 in_Layout hown hK hP 3 rfl rfl 5 (by decide) (va_Nw.use rfl (hN _ k291)) (fun _ h9 => h9) rfl d_Maker_writePathTables_143 ?_
        refine lv_aload hx hb d_Maker_writePathTables_146 (lv_at hl 6 rfl) ?_
        have hPR := RO_at hZr hS
        refine va_getN (D := D) (ci := 5) (v := .int (ng v3.toNatClampNeg 2)) (C := "DiscMaker$Node") (T := F_Node) (N := 12) hx hb ht9 in_Node hown hK hPR _ (pix (X := [(tr, .inr (10, [.ref ta, .int cn, .int dr])), (ta, .inl (cN, 40, .inr (.inr (.inr (.inr (rowF na cm))))))]) hj5) rfl 5 (by decide) (va_Nw.use rfl (hN _ k197)) (fun _ h9 => h9) rfl d_Maker_writePathTables_148 ?_
        refine va_iald hx hb hK hP 1 1 rfl rfl (vp_in_iff.mpr ⟨by omega, by omega⟩) d_Maker_writePathTables_151 ?_
        refine lv_topi (fun v32 e_v32 => ?_)
        refine lv_iconst (v := 2) hx hb d_Maker_writePathTables_152 (by decide) ?_
        have hPc := hP.sub (ws' := [(im, .inr (1, [.ref iq, .int L])), (iq, .inl (cB, n, .inl g_29))]) [7, 8] rfl
        have hDc := hD.sub (ws' := [(im, .inr (1, [.ref iq, .int L])), (iq, .inl (cB, n, .inl g_29))]) [7, 8] (by decide +kernel) rfl
        have hFc := va_free (wc := [(im, .inr (1, [.ref iq, .int L])), (iq, .inl (cB, n, .inl g_29))]) hD hS hA [7, 8] rfl
        have hkc : 0 ≤ 0 := by decide
        have hks : 0 ≤ 0 := by decide
        refine va_callv (va_runV (C := "DiscMaker$Bytes") (As := [.int v31, .int v32, .int 2]) (rest := []) ⟨hx, hb, hml, hown, hts⟩ (c3_putLow l D cB cI cJ cZ cN cF H.size im iq n L g_29 v31 v32 2 (by (try dsimp only); first | assumption | omega | trivial) (by (try dsimp only); first | assumption | omega | trivial) (by (try dsimp only); first | assumption | omega | trivial)) (cwV 3 hts (lg_goodV k1095 k1096 k1097 k119 kc_Bytes_putLow) rfl rfl rfl (by decide +kernel) ⟨Nat.le_of_ble_eq_true rfl, Nat.le_of_ble_eq_true rfl⟩) ⟨fun a U g mk q => by obtain ⟨q0, q1, qP, qK, qN, qD⟩ := q; exact ⟨q0, q1, qP, va_K.moved (u := U) (U := U.calling g mk a) (Vm.Alike.refl U.vm) qK, qN.calling, qD⟩, va_recv hK hP (ci := 1) (q0 := 7) rfl rfl, fun U hU hW => ⟨rfl, by rw [hU], by rw [hU]; exact hPc, va_K.moved hW.alike hK, NN.warm hW hN, hDc.weaken (fun _ _ _ _ => trivial)⟩⟩ rfl rfl hl.1 rfl (lv_room (Nat.le_of_ble_eq_true rfl)) d_Maker_writePathTables_153 ⟨hkc, hks⟩) hS (fun q _ h => hFc q h) hFc (fun u t H1 locs ht hvm hp_r33 hB hz1 hk1 hS => ?_)
        obtain ⟨g_34, rfl⟩ : ∃ z, z = u := ⟨_, rfl⟩
        obtain ⟨hP1, hD1⟩ := hB
        rw [ht] at hP1
        obtain ⟨hP, hD⟩ := va_join (wr := [(lp, .inl (cI, 12, .inl fp)), (lt, .inl (cI, 40, .inl ft)), (lb, .inl (cI, 40, .inl fb)), (l0, .inr (3, [.int ln, .int lds, .int ltb, .ref lo, .ref lp, .ref lt, .ref lb, .ref le, .int lc, .int ld])), (m0, .inr (4, [.ref tr, .ref im, .ref fi, .ref se, .ref u0, .ref id, .ref ct, .int ra, .int ru, .int wg])), (id, .inr (1, [.ref jq, .int il2_10])), (jq, .inl (cB, 60, .inl g_11))]) (w1 := [(im, .inr (1, [.ref iq, .int L])), (iq, .inl (cB, n, .inl g_34))]) hP hD [7, 8] [0, 1, 2, 3, 4, 5, 6] rfl rfl (by decide +kernel) (by decide +kernel) hk1 hFc hP1 hD1
        clear hPc hDc hFc hP1 hD1 hk1 hz1 hkc hks
        generalize H1 = H at hP hS ⊢
        have hP : va_P D CL [(lp, .inl (cI, 12, .inl fp)), (lt, .inl (cI, 40, .inl ft)), (lb, .inl (cI, 40, .inl fb)), (l0, .inr (3, [.int ln, .int lds, .int ltb, .ref lo, .ref lp, .ref lt, .ref lb, .ref le, .int lc, .int ld])), (m0, .inr (4, [.ref tr, .ref im, .ref fi, .ref se, .ref u0, .ref id, .ref ct, .int ra, .int ru, .int wg])), (id, .inr (1, [.ref jq, .int il2_10])), (jq, .inl (cB, 60, .inl g_11)), (im, .inr (1, [.ref iq, .int L])), (iq, .inl (cB, n, .inl g_34))] H := hP
        have hD : va_D A [(lp, .inl (cI, 12, .inl fp)), (lt, .inl (cI, 40, .inl ft)), (lb, .inl (cI, 40, .inl fb)), (l0, .inr (3, [.int ln, .int lds, .int ltb, .ref lo, .ref lp, .ref lt, .ref lb, .ref le, .int lc, .int ld])), (m0, .inr (4, [.ref tr, .ref im, .ref fi, .ref se, .ref u0, .ref id, .ref ct, .int ra, .int ru, .int wg])), (id, .inr (1, [.ref jq, .int il2_10])), (jq, .inl (cB, 60, .inl g_11)), (im, .inr (1, [.ref iq, .int L])), (iq, .inl (cB, n, .inl g_34))] := hD
        refine lv_aload_n hx hb d_Maker_writePathTables_156 rfl (lv_at hl 0 rfl) ?_
        refine va_get (D := D) (ci := 4) (v := .ref im) (C := "DiscMaker$Maker") (T := F_Maker) (N := 10) hx hb ht9 in_Maker hown hK hP 4 rfl rfl 1 (by decide) (ht9 _ k348) (fun _ h9 => h9) rfl d_Maker_writePathTables_157 ?_
        refine lv_iload_n hx hb d_Maker_writePathTables_160 rfl (lv_at hl 3 rfl) ?_
        refine lv_iload hx hb d_Maker_writePathTables_161 (lv_at hl 4 rfl) ?_
        refine lv_iadd hx hb d_Maker_writePathTables_163 ?_
        refine lv_topi (fun v35 e_v35 => ?_)
        refine lv_bipush (v := 6) hx hb d_Maker_writePathTables_164 (by decide) ?_
        refine lv_iadd hx hb d_Maker_writePathTables_166 ?_
        refine lv_topi (fun v36 e_v36 => ?_)
        refine lv_aload_n hx hb d_Maker_writePathTables_167 rfl (lv_at hl 1 rfl) ?_
        refine va_getN (D := D) (ci := 3) (v := .ref lt) (C := "DiscMaker$Layout") (T := F_Layout) (N := 10) hx hb ht9 in_Layout hown hK hP 3 rfl rfl 5 (by decide) (va_Nw.use rfl (hN _ k291)) (fun _ h9 => h9) rfl d_Maker_writePathTables_168 ?_
        refine lv_aload hx hb d_Maker_writePathTables_171 (lv_at hl 6 rfl) ?_
        have hPR := RO_at hZr hS
        refine va_getN (D := D) (ci := 5) (v := .int (ng v3.toNatClampNeg 2)) (C := "DiscMaker$Node") (T := F_Node) (N := 12) hx hb ht9 in_Node hown hK hPR _ (pix (X := [(tr, .inr (10, [.ref ta, .int cn, .int dr])), (ta, .inl (cN, 40, .inr (.inr (.inr (.inr (rowF na cm))))))]) hj5) rfl 5 (by decide) (va_Nw.use rfl (hN _ k197)) (fun _ h9 => h9) rfl d_Maker_writePathTables_173 ?_
        refine va_iald hx hb hK hP 1 1 rfl rfl (vp_in_iff.mpr ⟨by omega, by omega⟩) d_Maker_writePathTables_176 ?_
        refine lv_topi (fun v37 e_v37 => ?_)
        have q_v37 : v37.toInt = v32.toInt := by rw [e_v37, e_v32]
        refine lv_iconst (v := 2) hx hb d_Maker_writePathTables_177 (by decide) ?_
        have hPc := hP.sub (ws' := [(im, .inr (1, [.ref iq, .int L])), (iq, .inl (cB, n, .inl g_34))]) [7, 8] rfl
        have hDc := hD.sub (ws' := [(im, .inr (1, [.ref iq, .int L])), (iq, .inl (cB, n, .inl g_34))]) [7, 8] (by decide +kernel) rfl
        have hFc := va_free (wc := [(im, .inr (1, [.ref iq, .int L])), (iq, .inl (cB, n, .inl g_34))]) hD hS hA [7, 8] rfl
        have hkc : 0 ≤ 0 := by decide
        have hks : 0 ≤ 0 := by decide
        refine va_callv (va_runV (C := "DiscMaker$Bytes") (As := [.int v36, .int v37, .int 2]) (rest := []) ⟨hx, hb, hml, hown, hts⟩ (c3_putHigh l D cB cI cJ cZ cN cF H.size im iq n L g_34 v36 v37 2 (by (try dsimp only); first | assumption | omega | trivial) (by (try dsimp only); first | assumption | omega | trivial) (by (try dsimp only); first | assumption | omega | trivial)) (cwV 3 hts (lg_goodV k1072 k985 k986 k119 kc_Bytes_putHigh) rfl rfl rfl (by decide +kernel) ⟨Nat.le_of_ble_eq_true rfl, Nat.le_of_ble_eq_true rfl⟩) ⟨fun a U g mk q => by obtain ⟨q0, q1, qP, qK, qN, qD⟩ := q; exact ⟨q0, q1, qP, va_K.moved (u := U) (U := U.calling g mk a) (Vm.Alike.refl U.vm) qK, qN.calling, qD⟩, va_recv hK hP (ci := 1) (q0 := 7) rfl rfl, fun U hU hW => ⟨rfl, by rw [hU], by rw [hU]; exact hPc, va_K.moved hW.alike hK, NN.warm hW hN, hDc.weaken (fun _ _ _ _ => trivial)⟩⟩ rfl rfl hl.1 rfl (lv_room (Nat.le_of_ble_eq_true rfl)) d_Maker_writePathTables_178 ⟨hkc, hks⟩) hS (fun q _ h => hFc q h) hFc (fun u t H1 locs ht hvm hp_r38 hB hz1 hk1 hS => ?_)
        obtain ⟨g_39, rfl⟩ : ∃ z, z = u := ⟨_, rfl⟩
        obtain ⟨hP1, hD1⟩ := hB
        rw [ht] at hP1
        obtain ⟨hP, hD⟩ := va_join (wr := [(lp, .inl (cI, 12, .inl fp)), (lt, .inl (cI, 40, .inl ft)), (lb, .inl (cI, 40, .inl fb)), (l0, .inr (3, [.int ln, .int lds, .int ltb, .ref lo, .ref lp, .ref lt, .ref lb, .ref le, .int lc, .int ld])), (m0, .inr (4, [.ref tr, .ref im, .ref fi, .ref se, .ref u0, .ref id, .ref ct, .int ra, .int ru, .int wg])), (id, .inr (1, [.ref jq, .int il2_10])), (jq, .inl (cB, 60, .inl g_11))]) (w1 := [(im, .inr (1, [.ref iq, .int L])), (iq, .inl (cB, n, .inl g_39))]) hP hD [7, 8] [0, 1, 2, 3, 4, 5, 6] rfl rfl (by decide +kernel) (by decide +kernel) hk1 hFc hP1 hD1
        clear hPc hDc hFc hP1 hD1 hk1 hz1 hkc hks
        generalize H1 = H at hP hS ⊢
        have hP : va_P D CL [(lp, .inl (cI, 12, .inl fp)), (lt, .inl (cI, 40, .inl ft)), (lb, .inl (cI, 40, .inl fb)), (l0, .inr (3, [.int ln, .int lds, .int ltb, .ref lo, .ref lp, .ref lt, .ref lb, .ref le, .int lc, .int ld])), (m0, .inr (4, [.ref tr, .ref im, .ref fi, .ref se, .ref u0, .ref id, .ref ct, .int ra, .int ru, .int wg])), (id, .inr (1, [.ref jq, .int il2_10])), (jq, .inl (cB, 60, .inl g_11)), (im, .inr (1, [.ref iq, .int L])), (iq, .inl (cB, n, .inl g_39))] H := hP
        have hD : va_D A [(lp, .inl (cI, 12, .inl fp)), (lt, .inl (cI, 40, .inl ft)), (lb, .inl (cI, 40, .inl fb)), (l0, .inr (3, [.int ln, .int lds, .int ltb, .ref lo, .ref lp, .ref lt, .ref lb, .ref le, .int lc, .int ld])), (m0, .inr (4, [.ref tr, .ref im, .ref fi, .ref se, .ref u0, .ref id, .ref ct, .int ra, .int ru, .int wg])), (id, .inr (1, [.ref jq, .int il2_10])), (jq, .inl (cB, 60, .inl g_11)), (im, .inr (1, [.ref iq, .int L])), (iq, .inl (cB, n, .inl g_39))] := hD
        refine lv_iload hx hb d_Maker_writePathTables_181 (lv_at hl 4 rfl) ?_
        refine lv_bipush (v := 8) hx hb d_Maker_writePathTables_183 (by decide) ?_
        refine lv_aload_n hx hb d_Maker_writePathTables_185 rfl (lv_at hl 0 rfl) ?_
        refine va_get (D := D) (ci := 4) (v := .ref id) (C := "DiscMaker$Maker") (T := F_Maker) (N := 10) hx hb ht9 in_Maker hown hK hP 4 rfl rfl 5 (by decide) (ht9 _ k352) (fun _ h9 => h9) rfl d_Maker_writePathTables_186 ?_
        refine va_getN (D := D) (ci := 1) (v := .int il2_10) (C := "DiscMaker$Bytes") (T := F_Bytes) (N := 2) hx hb ht9 in_Bytes hown hK hP 5 rfl rfl 1 (by decide) (va_Nw.use rfl (hN _ k257)) (fun _ h9 => h9) rfl d_Maker_writePathTables_189 ?_
        have hPc := hP.sub (ws' := []) [] rfl
        have hDc := hD.sub (ws' := []) [] (by decide +kernel) rfl
        have hFc := va_free (wc := []) hD hS hA [] rfl
        have hkc : 0 ≤ 0 := by decide
        have hks : 0 ≤ 0 := by decide
        refine va_calli (va_runSN (As := [.int il2_10]) (rest := [.int 8, .int la]) ⟨hx, hb, hml, hown, hts⟩ (c3_even l D cB cI cJ cZ cN cF H.size il2_10 (by (try dsimp only); first | assumption | omega | trivial)) ⟨va_cnB 1 hts (lg_good kc_DiscMaker_even) rfl rfl rfl (hN _ k998) (ht9 _ k115) (by decide +kernel) ⟨Nat.le_of_ble_eq_true rfl, Nat.le_of_ble_eq_true rfl⟩, ht9 _ k999, trivial⟩ ⟨fun a U g mk q => by obtain ⟨q0, q1, qP, qK, qN, qD⟩ := q; exact ⟨q0, q1, qP, va_K.moved (u := U) (U := U.calling g mk a) (Vm.Alike.refl U.vm) qK, qN.calling, qD⟩, fun U hU hW => ⟨rfl, by rw [hU], by rw [hU]; exact hPc, va_K.moved hW.alike hK, NN.warm hW hN, hDc.weaken (fun _ _ _ _ => trivial)⟩⟩ rfl rfl hl.1 rfl (lv_room (Nat.le_of_ble_eq_true rfl)) d_Maker_writePathTables_192 ⟨hkc, hks⟩) hS (fun q _ h => hFc q h) hFc (fun r40 u t H1 locs ht hvm hp_r40 hB hz1 hk1 hS => ?_)
        obtain ⟨hP1, hD1⟩ := hB
        rw [ht] at hP1
        obtain ⟨hP, hD⟩ := va_join (wr := [(lp, .inl (cI, 12, .inl fp)), (lt, .inl (cI, 40, .inl ft)), (lb, .inl (cI, 40, .inl fb)), (l0, .inr (3, [.int ln, .int lds, .int ltb, .ref lo, .ref lp, .ref lt, .ref lb, .ref le, .int lc, .int ld])), (m0, .inr (4, [.ref tr, .ref im, .ref fi, .ref se, .ref u0, .ref id, .ref ct, .int ra, .int ru, .int wg])), (id, .inr (1, [.ref jq, .int il2_10])), (jq, .inl (cB, 60, .inl g_11)), (im, .inr (1, [.ref iq, .int L])), (iq, .inl (cB, n, .inl g_39))]) (w1 := []) hP hD [] [0, 1, 2, 3, 4, 5, 6, 7, 8] rfl rfl (by decide +kernel) (by decide +kernel) hk1 hFc hP1 hD1
        clear hPc hDc hFc hP1 hD1 hk1 hz1 hkc hks
        generalize H1 = H at hP hS ⊢
        have hP : va_P D CL [(lp, .inl (cI, 12, .inl fp)), (lt, .inl (cI, 40, .inl ft)), (lb, .inl (cI, 40, .inl fb)), (l0, .inr (3, [.int ln, .int lds, .int ltb, .ref lo, .ref lp, .ref lt, .ref lb, .ref le, .int lc, .int ld])), (m0, .inr (4, [.ref tr, .ref im, .ref fi, .ref se, .ref u0, .ref id, .ref ct, .int ra, .int ru, .int wg])), (id, .inr (1, [.ref jq, .int il2_10])), (jq, .inl (cB, 60, .inl g_11)), (im, .inr (1, [.ref iq, .int L])), (iq, .inl (cB, n, .inl g_39))] H := hP
        have hD : va_D A [(lp, .inl (cI, 12, .inl fp)), (lt, .inl (cI, 40, .inl ft)), (lb, .inl (cI, 40, .inl fb)), (l0, .inr (3, [.int ln, .int lds, .int ltb, .ref lo, .ref lp, .ref lt, .ref lb, .ref le, .int lc, .int ld])), (m0, .inr (4, [.ref tr, .ref im, .ref fi, .ref se, .ref u0, .ref id, .ref ct, .int ra, .int ru, .int wg])), (id, .inr (1, [.ref jq, .int il2_10])), (jq, .inl (cB, 60, .inl g_11)), (im, .inr (1, [.ref iq, .int L])), (iq, .inl (cB, n, .inl g_39))] := hD
        try dsimp only at hp_r40
        obtain ⟨hv_41, he_42⟩ := hp_r40
        refine lv_iadd hx hb d_Maker_writePathTables_195 ?_
        refine lv_topi (fun v43 e_v43 => ?_)
        have t_v43 : v43.toInt = 8 + r40.toInt := by rw [e_v43]; exact i_add (by decide) rfl (by omega) (by omega)
        refine lv_iadd hx hb d_Maker_writePathTables_196 ?_
        refine lv_topi (fun v44 e_v44 => ?_)
        have t_v44 : v44.toInt = la.toInt + v43.toInt := by rw [e_v44]; exact i_add rfl rfl (by omega) (by omega)
        refine lv_istore hx hb d_Maker_writePathTables_197 hl (by decide) rfl (fun ls hl => ?_)
        have hl : lv_has ls 7 [(4, .int v44), (0, .ref m0), (1, .ref l0), (2, .int bl), (3, .int bh9), (5, .int kx), (6, .ref (na v3.toNatClampNeg 0))] := hl
        obtain ⟨v45, e_v45⟩ : ∃ z : Int32, z = kx + 1 := ⟨_, rfl⟩
        refine lv_iinc (v := v45) hx hb d_Maker_writePathTables_199 hl (k := 5) rfl e_v45.symm (by decide +kernel) rfl (fun ls hl => ?_)
        have t_v45 : v45.toInt = kx.toInt + 1 := by rw [e_v45]; exact i_add rfl (by decide) (by omega) (by omega)
        have hl : lv_has ls 7 [(5, .int v45), (4, .int v44), (0, .ref m0), (1, .ref l0), (2, .int bl), (3, .int bh9), (6, .ref (na v3.toNatClampNeg 0))] := hl
        refine lv_goto (tgt := 21) hx hb d_Maker_writePathTables_202 (by decide) ?_
        have hP := hP.sub (ws' := [(m0, .inr (4, [.ref tr, .ref im, .ref fi, .ref se, .ref u0, .ref id, .ref ct, .int ra, .int ru, .int wg])), (l0, .inr (3, [.int ln, .int lds, .int ltb, .ref lo, .ref lp, .ref lt, .ref lb, .ref le, .int lc, .int ld])), (lp, .inl (cI, 12, .inl fp)), (lt, .inl (cI, 40, .inl ft)), (lb, .inl (cI, 40, .inl fb)), (id, .inr (1, [.ref jq, .int il2_10])), (jq, .inl (cB, 60, .inl g_11)), (im, .inr (1, [.ref iq, .int L])), (iq, .inl (cB, n, .inl g_39))]) [4, 3, 0, 1, 2, 5, 6, 7, 8] rfl
        have hD := hD.sub (ws' := [(m0, .inr (4, [.ref tr, .ref im, .ref fi, .ref se, .ref u0, .ref id, .ref ct, .int ra, .int ru, .int wg])), (l0, .inr (3, [.int ln, .int lds, .int ltb, .ref lo, .ref lp, .ref lt, .ref lb, .ref le, .int lc, .int ld])), (lp, .inl (cI, 12, .inl fp)), (lt, .inl (cI, 40, .inl ft)), (lb, .inl (cI, 40, .inl fb)), (id, .inr (1, [.ref jq, .int il2_10])), (jq, .inl (cB, 60, .inl g_11)), (im, .inr (1, [.ref iq, .int L])), (iq, .inl (cB, n, .inl g_39))]) [4, 3, 0, 1, 2, 5, 6, 7, 8] (by decide +kernel) rfl
        have hl := lv_sub hl [2, 3, 4, 5, 1, 0] rfl
        exact ih21 _ (by first | omega | (dsimp only; omega)) bl bh9 v44 v45 il2_10 g_11 g_39 _ _ _ rfl ((by (try dsimp only); first | assumption | omega | trivial)) ((by (try dsimp only); first | assumption | omega | trivial)) hP hD hS hl
      · skip
        intro kk64
        refine lv_aload hx hb d_Maker_writePathTables_51 (lv_at hl 0 rfl) ?_
        have hPR := RO_at hZr hS
        refine va_getN (D := D) (ci := 5) (v := .int (ng v3.toNatClampNeg 1)) (C := "DiscMaker$Node") (T := F_Node) (N := 12) hx hb ht9 in_Node hown hK hPR _ (pix (X := [(tr, .inr (10, [.ref ta, .int cn, .int dr])), (ta, .inl (cN, 40, .inr (.inr (.inr (.inr (rowF na cm))))))]) hj5) rfl 4 (by decide) (va_Nw.use rfl (hN _ k195)) (fun _ h9 => h9) rfl d_Maker_writePathTables_53 ?_
        refine lv_if_ne (tgt := 63) hx hb d_Maker_writePathTables_56 (by decide) (fun h_9 => ?_) (fun h_9 => ?_)
        · skip
          have g56_113 : ¬ (ng v3.toNatClampNeg 1).toInt = 0 := fun h8 => h_9 ((i_eq rfl (by decide)).mpr h8)
          refine lv_iconst (v := 2) hx hb d_Maker_writePathTables_63 (by decide) ?_
          have hP := hP.sub (ws' := [(m0, .inr (4, [.ref tr, .ref im, .ref fi, .ref se, .ref u0, .ref id, .ref ct, .int ra, .int ru, .int wg])), (l0, .inr (3, [.int ln, .int lds, .int ltb, .ref lo, .ref lp, .ref lt, .ref lb, .ref le, .int lc, .int ld])), (lp, .inl (cI, 12, .inl fp)), (lt, .inl (cI, 40, .inl ft)), (lb, .inl (cI, 40, .inl fb)), (id, .inr (1, [.ref jq, .int lil])), (jq, .inl (cB, 60, .inl ljf)), (im, .inr (1, [.ref iq, .int L])), (iq, .inl (cB, n, .inl lf))]) [0, 1, 2, 3, 4, 5, 6, 7, 8] rfl
          have hD := hD.sub (ws' := [(m0, .inr (4, [.ref tr, .ref im, .ref fi, .ref se, .ref u0, .ref id, .ref ct, .int ra, .int ru, .int wg])), (l0, .inr (3, [.int ln, .int lds, .int ltb, .ref lo, .ref lp, .ref lt, .ref lb, .ref le, .int lc, .int ld])), (lp, .inl (cI, 12, .inl fp)), (lt, .inl (cI, 40, .inl ft)), (lb, .inl (cI, 40, .inl fb)), (id, .inr (1, [.ref jq, .int lil])), (jq, .inl (cB, 60, .inl ljf)), (im, .inr (1, [.ref iq, .int L])), (iq, .inl (cB, n, .inl lf))]) [0, 1, 2, 3, 4, 5, 6, 7, 8] (by decide +kernel) rfl
          have hl := lv_sub hl [1, 2, 3, 4, 5, 6, 0] rfl
          exact kk64 _ 2 _ _ _ rfl ((by (try dsimp only); first | assumption | omega | trivial)) hP hD hS hl
        · skip
          have g56_113 : (ng v3.toNatClampNeg 1).toInt = 0 := (i_eq rfl (by decide)).mp h_9
          refine lv_iconst (v := 0) hx hb d_Maker_writePathTables_59 (by decide) ?_
          refine lv_goto (tgt := 64) hx hb d_Maker_writePathTables_60 (by decide) ?_
          have hP := hP.sub (ws' := [(m0, .inr (4, [.ref tr, .ref im, .ref fi, .ref se, .ref u0, .ref id, .ref ct, .int ra, .int ru, .int wg])), (l0, .inr (3, [.int ln, .int lds, .int ltb, .ref lo, .ref lp, .ref lt, .ref lb, .ref le, .int lc, .int ld])), (lp, .inl (cI, 12, .inl fp)), (lt, .inl (cI, 40, .inl ft)), (lb, .inl (cI, 40, .inl fb)), (id, .inr (1, [.ref jq, .int lil])), (jq, .inl (cB, 60, .inl ljf)), (im, .inr (1, [.ref iq, .int L])), (iq, .inl (cB, n, .inl lf))]) [0, 1, 2, 3, 4, 5, 6, 7, 8] rfl
          have hD := hD.sub (ws' := [(m0, .inr (4, [.ref tr, .ref im, .ref fi, .ref se, .ref u0, .ref id, .ref ct, .int ra, .int ru, .int wg])), (l0, .inr (3, [.int ln, .int lds, .int ltb, .ref lo, .ref lp, .ref lt, .ref lb, .ref le, .int lc, .int ld])), (lp, .inl (cI, 12, .inl fp)), (lt, .inl (cI, 40, .inl ft)), (lb, .inl (cI, 40, .inl fb)), (id, .inr (1, [.ref jq, .int lil])), (jq, .inl (cB, 60, .inl ljf)), (im, .inr (1, [.ref iq, .int L])), (iq, .inl (cB, n, .inl lf))]) [0, 1, 2, 3, 4, 5, 6, 7, 8] (by decide +kernel) rfl
          have hl := lv_sub hl [1, 2, 3, 4, 5, 6, 0] rfl
          exact kk64 _ 0 _ _ _ rfl ((by (try dsimp only); first | assumption | omega | trivial)) hP hD hS hl
  · skip
    intro kk21
    have hP := hP.sub (ws' := [(m0, .inr (4, [.ref tr, .ref im, .ref fi, .ref se, .ref u0, .ref id, .ref ct, .int ra, .int ru, .int wg])), (l0, .inr (3, [.int ln, .int lds, .int ltb, .ref lo, .ref lp, .ref lt, .ref lb, .ref le, .int lc, .int ld])), (lp, .inl (cI, 12, .inl fp)), (lt, .inl (cI, 40, .inl ft)), (lb, .inl (cI, 40, .inl fb)), (id, .inr (1, [.ref jq, .int il])), (jq, .inl (cB, 60, .inl jf)), (im, .inr (1, [.ref iq, .int L])), (iq, .inl (cB, n, .inl f))]) [0, 1, 2, 3, 4, 5, 6, 7, 8] rfl
    have hD := hD.sub (ws' := [(m0, .inr (4, [.ref tr, .ref im, .ref fi, .ref se, .ref u0, .ref id, .ref ct, .int ra, .int ru, .int wg])), (l0, .inr (3, [.int ln, .int lds, .int ltb, .ref lo, .ref lp, .ref lt, .ref lb, .ref le, .int lc, .int ld])), (lp, .inl (cI, 12, .inl fp)), (lt, .inl (cI, 40, .inl ft)), (lb, .inl (cI, 40, .inl fb)), (id, .inr (1, [.ref jq, .int il])), (jq, .inl (cB, 60, .inl jf)), (im, .inr (1, [.ref iq, .int L])), (iq, .inl (cB, n, .inl f))]) [0, 1, 2, 3, 4, 5, 6, 7, 8] (by decide +kernel) rfl
    have hl := lv_sub hl [4, 5, 3, 2, 1, 0] rfl
    exact kk21 _ v1 v2 0 0 il jf f _ _ _ rfl ((by (try dsimp only); first | assumption | omega | trivial)) ((by (try dsimp only); first | assumption | omega | trivial)) hP hD hS hl
