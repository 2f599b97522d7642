set_option maxHeartbeats 4000000 in
set_option maxRecDepth 100000 in
theorem c3_addDirectoryF (l : Launch) (D : va_G) (cB cI cJ cZ cN cF : ClassId) (sz : Nat) (l0 : Nat) (lo : Nat) (lp : Nat) (lt : Nat) (lb : Nat) (le : Nat) (ln : Int32) (lds : Int32) (ltb : Int32) (lc : Int32) (ld : Int32) (fp : Nat → Int32) (ft : Nat → Int32) (cm : Nat) (x : Int32) (hcm : cm ≤ 40) (hx : 0 ≤ x.toInt ∧ x.toInt < cm) (hld : 0 ≤ ld.toInt ∧ ld.toInt ≤ 12) (hpo : OrdOK ld.toInt cm fp) : Met l y_Layout_addDirectory w_Layout_addDirectory ({ frames := 0, cells := 0, slots := 0, locals := 0 }) (va_Pc [.ref l0, .int x] (fun U => U.heap.size = sz ∧ va_P D CL [(l0, .inr (3, [.int ln, .int lds, .int ltb, .ref lo, .ref lp, .ref lt, .ref lb, .ref le, .int lc, .int ld])), (lp, .inl (cI, 12, .inl fp)), (lt, .inl (cI, 40, .inl ft))] U.heap ∧ va_K D CL (TY cB cI cJ cZ cN cF) U ∧ NN U ∧ va_D (fun _ => True) [(l0, .inr (3, [.int ln, .int lds, .int ltb, .ref lo, .ref lp, .ref lt, .ref lb, .ref le, .int lc, .int ld])), (lp, .inl (cI, 12, .inl fp)), (lt, .inl (cI, 40, .inl ft))])) (va_Qv (fun (u : Int32 × (Nat → Int32) × (Nat → Int32)) => match u with | (ld2, gp, gt) => (ld.toInt ≤ ld2.toInt ∧ ld2.toInt ≤ 12 ∧ 1 ≤ ld2.toInt) ∧ (OrdOK ld2.toInt cm gp) ∧ ((12 ≤ ld.toInt ∧ ld2 = ld ∧ gp = fp) ∨ (ld.toInt < 12 ∧ ld2.toInt = ld.toInt + 1 ∧ gp = upd fp ld.toNatClampNeg x)) ∧ (ld.toInt < 12 → gt = upd ft x.toNatClampNeg ld2)) (fun (u : Int32 × (Nat → Int32) × (Nat → Int32)) (t : State) => match u with | (ld2, gp, gt) => va_P D CL [(l0, .inr (3, [.int ln, .int lds, .int ltb, .ref lo, .ref lp, .ref lt, .ref lb, .ref le, .int lc, .int ld2])), (lp, .inl (cI, 12, .inl gp)), (lt, .inl (cI, 40, .inl gt))] t.heap ∧ va_D (va_A [(l0, .inr (3, [.int ln, .int lds, .int ltb, .ref lo, .ref lp, .ref lt, .ref lb, .ref le, .int lc, .int ld])), (lp, .inl (cI, 12, .inl fp)), (lt, .inl (cI, 40, .inl ft))] sz) [(l0, .inr (3, [.int ln, .int lds, .int ltb, .ref lo, .ref lp, .ref lt, .ref lb, .ref le, .int lc, .int ld2])), (lp, .inl (cI, 12, .inl gp)), (lt, .inl (cI, 40, .inl gt))]) (va_A [(l0, .inr (3, [.int ln, .int lds, .int ltb, .ref lo, .ref lp, .ref lt, .ref lb, .ref le, .int lc, .int ld])), (lp, .inl (cI, 12, .inl fp)), (lt, .inl (cI, 40, .inl ft))] sz)) 0 0 (va_A [(l0, .inr (3, [.int ln, .int lds, .int ltb, .ref lo, .ref lp, .ref lt, .ref lb, .ref le, .int lc, .int ld])), (lp, .inl (cI, 12, .inl fp)), (lt, .inl (cI, 40, .inl ft))] sz) := by
  refine Met.ofW (cc := b_Layout_addDirectory) (maxL := 2) (ret := none) (by decide +kernel) rfl ?_
  intro p e s m args below meth c s₁ B hml hv
  obtain ⟨rfl, hsz, hP, hK, hN, hD0⟩ := hv
  have hx := B.exec
  have hb := B.bytes
  have hr := B.returns
  have hts := atoms_spec (ws := w_Layout_addDirectory) B.pre
  have ht9 := fun (w : Cond) (h : w ∈ lw_g) => hts w (List.mem_cons_of_mem _ h)
  have hown : s.vm.findClass "DiscMaker$Layout" = some m.cls := findClass_of_methodNamed B.named
  have hlocks := B.notSynchronized
  subst hsz
  have hD := hD0.self (sz := s.heap.size)
  generalize hAe : va_A [(l0, .inr (3, [.int ln, .int lds, .int ltb, .ref lo, .ref lp, .ref lt, .ref lb, .ref le, .int lc, .int ld])), (lp, .inl (cI, 12, .inl fp)), (lt, .inl (cI, 40, .inl ft))] s.heap.size = A at hD ⊢
  have hA : ∀ q : Nat, s.heap.size ≤ q → A q := fun q h => by rw [← hAe]; exact Or.inr h
  have hS : va_S A s.heap s.heap [] := va_S.rf
  have hP : va_P D CL [(l0, .inr (3, [.int ln, .int lds, .int ltb, .ref lo, .ref lp, .ref lt, .ref lb, .ref le, .int lc, .int ld])), (lp, .inl (cI, 12, .inl fp)), (lt, .inl (cI, 40, .inl ft))] s.heap := hP
  have hl := lv_entry [.ref l0, .int x] (n := 2) (Nat.le_of_ble_eq_true rfl)
  rw [lg_entry_eq]
  generalize (lg_sl [.ref l0, .int x] ++ List.replicate (2 - (lg_sl [.ref l0, .int x]).length) Slot.unset).toArray = ls at hl ⊢
  have hl : lv_has ls 2 [(0, .ref l0), (1, .int x)] := hl
  have L_m1 : ((-1) : Int32).toInt = (-1) := by decide
  have L_0 : (0 : Int32).toInt = 0 := by decide
  have L_1 : (1 : Int32).toInt = 1 := by decide
  have L_12 : (12 : Int32).toInt = 12 := by decide
  refine lv_aload_n hx hb d_Layout_addDirectory_0 rfl (lv_at hl 0 rfl) ?_
  refine va_get (D := D) (ci := 3) (v := .int ld) (C := "DiscMaker$Layout") (T := F_Layout) (N := 10) hx hb ht9 in_Layout hown hK hP 0 rfl rfl 9 (by decide) (ht9 _ k298) (fun _ h9 => h9) rfl d_Layout_addDirectory_1 ?_
  refine lv_bipush (v := 12) hx hb d_Layout_addDirectory_4 (by decide) ?_
  refine lv_icmp_ge (tgt := 39) hx hb d_Layout_addDirectory_6 (by decide) (fun h_9 => ?_) (fun h_9 => ?_)
  · skip
    have g6_4 : 12 ≤ ld.toInt := (i_le (by decide) rfl).mp h_9
    have hP9 := hP.sub (ws' := [(l0, .inr (3, [.int ln, .int lds, .int ltb, .ref lo, .ref lp, .ref lt, .ref lb, .ref le, .int lc, .int ld])), (lp, .inl (cI, 12, .inl fp)), (lt, .inl (cI, 40, .inl ft))]) [0, 1, 2] rfl
    have hD9 := hD.sub (ws' := [(l0, .inr (3, [.int ln, .int lds, .int ltb, .ref lo, .ref lp, .ref lt, .ref lb, .ref le, .int lc, .int ld])), (lp, .inl (cI, 12, .inl fp)), (lt, .inl (cI, 40, .inl ft))]) [0, 1, 2] (by decide +kernel) rfl
    exact W.vret hx hb hr (fun t ht hW => ⟨⟨(ld, fp, ft), rfl, ⟨(by (try dsimp only); first | assumption | omega | trivial), hpo, (Or.inl ⟨by omega, rfl, rfl⟩), (fun h7 => absurd h7 (by omega))⟩, by rw [ht]; exact hP9, hD9⟩, hS.F ht⟩) hS.2.2 d_Layout_addDirectory_39
  · skip
    have g6_4 : ¬ 12 ≤ ld.toInt := fun h8 => h_9 ((i_le (by decide) rfl).mpr h8)
    refine lv_aload_n hx hb d_Layout_addDirectory_9 rfl (lv_at hl 0 rfl) ?_
    refine va_get (D := D) (ci := 3) (v := .ref lp) (C := "DiscMaker$Layout") (T := F_Layout) (N := 10) hx hb ht9 in_Layout hown hK hP 0 rfl rfl 4 (by decide) (ht9 _ k288) (fun _ h9 => h9) rfl d_Layout_addDirectory_10 ?_
    refine lv_aload_n hx hb d_Layout_addDirectory_13 rfl (lv_at hl 0 rfl) ?_
    refine va_get (D := D) (ci := 3) (v := .int ld) (C := "DiscMaker$Layout") (T := F_Layout) (N := 10) hx hb ht9 in_Layout hown hK hP 0 rfl rfl 9 (by decide) (ht9 _ k298) (fun _ h9 => h9) rfl d_Layout_addDirectory_14 ?_
    refine lv_iload_n hx hb d_Layout_addDirectory_17 rfl (lv_at hl 1 rfl) ?_
    refine zq_iast hx hb hK hP hD hS 1 1 rfl rfl (vp_in_iff.mpr ⟨by omega, by omega⟩) d_Layout_addDirectory_18 (fun fz1 e_fz1 H locs hP hD hS => ?_)
    have hP : va_P D CL [(l0, .inr (3, [.int ln, .int lds, .int ltb, .ref lo, .ref lp, .ref lt, .ref lb, .ref le, .int lc, .int ld])), (lp, .inl (cI, 12, .inl fz1)), (lt, .inl (cI, 40, .inl ft))] H := hP
    have hD : va_D A [(l0, .inr (3, [.int ln, .int lds, .int ltb, .ref lo, .ref lp, .ref lt, .ref lb, .ref le, .int lc, .int ld])), (lp, .inl (cI, 12, .inl fz1)), (lt, .inl (cI, 40, .inl ft))] := hD
    have s_fz1 : fz1 ld.toNatClampNeg = x := by rw [e_fz1]; unfold upd; rw [if_pos (by first | rfl | decide)]
    refine lv_aload_n hx hb d_Layout_addDirectory_19 rfl (lv_at hl 0 rfl) ?_
    refine lv_dup hx hb d_Layout_addDirectory_20 rfl ?_
    refine va_get (D := D) (ci := 3) (v := .int ld) (C := "DiscMaker$Layout") (T := F_Layout) (N := 10) hx hb ht9 in_Layout hown hK hP 0 rfl rfl 9 (by decide) (ht9 _ k298) (fun _ h9 => h9) rfl d_Layout_addDirectory_21 ?_
    refine lv_iconst (v := 1) hx hb d_Layout_addDirectory_24 (by decide) ?_
    refine lv_iadd hx hb d_Layout_addDirectory_25 ?_
    refine lv_topi (fun v2 e_v2 => ?_)
    have t_v2 : v2.toInt = ld.toInt + 1 := by rw [e_v2]; exact i_add rfl (by decide) (by omega) (by omega)
    refine va_put (D := D) (ci := 3) (v := .int v2) (ty := .int) (C := "DiscMaker$Layout") (T := F_Layout) (N := 10) hx hb ht9 in_Layout t_Layout t_Layout_ok n_Layout hown hK hP hD hS 0 rfl rfl 9 (by decide) (ht9 _ k298) (fun _ h9 => h9) rfl (by decide +kernel) rfl rfl (Nat.le_of_ble_eq_true rfl) d_Layout_addDirectory_26 (fun H locs hP hD hS => ?_)
    have hP : va_P D CL [(l0, .inr (3, [.int ln, .int lds, .int ltb, .ref lo, .ref lp, .ref lt, .ref lb, .ref le, .int lc, .int v2])), (lp, .inl (cI, 12, .inl fz1)), (lt, .inl (cI, 40, .inl ft))] H := hP
    have hD : va_D A [(l0, .inr (3, [.int ln, .int lds, .int ltb, .ref lo, .ref lp, .ref lt, .ref lb, .ref le, .int lc, .int v2])), (lp, .inl (cI, 12, .inl fz1)), (lt, .inl (cI, 40, .inl ft))] := hD
    refine lv_aload_n hx hb d_Layout_addDirectory_29 rfl (lv_at hl 0 rfl) ?_
    refine va_get (D := D) (ci := 3) (v := .ref lt) (C := "DiscMaker$Layout") (T := F_Layout) (N := 10) hx hb ht9 in_Layout hown hK hP 0 rfl rfl 5 (by decide) (ht9 _ k290) (fun _ h9 => h9) rfl d_Layout_addDirectory_30 ?_
    refine lv_iload_n hx hb d_Layout_addDirectory_33 rfl (lv_at hl 1 rfl) ?_
    refine lv_aload_n hx hb d_Layout_addDirectory_34 rfl (lv_at hl 0 rfl) ?_
    refine va_get (D := D) (ci := 3) (v := .int v2) (C := "DiscMaker$Layout") (T := F_Layout) (N := 10) hx hb ht9 in_Layout hown hK hP 0 rfl rfl 9 (by decide) (ht9 _ k298) (fun _ h9 => h9) rfl d_Layout_addDirectory_35 ?_
    refine zq_iast hx hb hK hP hD hS 2 1 rfl rfl (vp_in_iff.mpr ⟨by omega, by omega⟩) d_Layout_addDirectory_38 (fun fz3 e_fz3 H locs hP hD hS => ?_)
    have hP : va_P D CL [(l0, .inr (3, [.int ln, .int lds, .int ltb, .ref lo, .ref lp, .ref lt, .ref lb, .ref le, .int lc, .int v2])), (lp, .inl (cI, 12, .inl fz1)), (lt, .inl (cI, 40, .inl fz3))] H := hP
    have hD : va_D A [(l0, .inr (3, [.int ln, .int lds, .int ltb, .ref lo, .ref lp, .ref lt, .ref lb, .ref le, .int lc, .int v2])), (lp, .inl (cI, 12, .inl fz1)), (lt, .inl (cI, 40, .inl fz3))] := hD
    have s_fz3 : fz3 x.toNatClampNeg = v2 := by rw [e_fz3]; unfold upd; rw [if_pos (by first | rfl | decide)]
    have hP9 := hP.sub (ws' := [(l0, .inr (3, [.int ln, .int lds, .int ltb, .ref lo, .ref lp, .ref lt, .ref lb, .ref le, .int lc, .int v2])), (lp, .inl (cI, 12, .inl fz1)), (lt, .inl (cI, 40, .inl fz3))]) [0, 1, 2] rfl
    have hD9 := hD.sub (ws' := [(l0, .inr (3, [.int ln, .int lds, .int ltb, .ref lo, .ref lp, .ref lt, .ref lb, .ref le, .int lc, .int v2])), (lp, .inl (cI, 12, .inl fz1)), (lt, .inl (cI, 40, .inl fz3))]) [0, 1, 2] (by decide +kernel) rfl
    exact W.vret hx hb hr (fun t ht hW => ⟨⟨(v2, fz1, fz3), rfl, ⟨(by (try dsimp only); first | assumption | omega | trivial), (OrdOK_push hpo e_fz1 (i_cl (a := ld) (by omega)) (by omega) (by omega)), (Or.inr ⟨by omega, by omega, e_fz1⟩), (fun _ => e_fz3)⟩, by rw [ht]; exact hP9, hD9⟩, hS.F ht⟩) hS.2.2 d_Layout_addDirectory_39

set_option maxHeartbeats 4000000 in
set_option maxRecDepth 100000 in
theorem c3_addDirectoriesInF (l : Launch) (D : va_G) (cB cI cJ cZ cN cF : ClassId) (sz : Nat) (l0 : Nat) (lo : Nat) (lp : Nat) (lt : Nat) (lb : Nat) (le : Nat) (ln : Int32) (lds : Int32) (ltb : Int32) (lc : Int32) (ld : Int32) (tr : Nat) (ta : Nat) (cn : Int32) (dr : Int32) (na : Nat → Nat → Nat) (ng : Nat → Nat → Int32) (nn : Nat → Nat → Nat) (nf : Nat → Nat → Nat → Int32) (cm : Nat) (fo : Nat → Int32) (fp : Nat → Int32) (ft : Nat → Int32) (dt : Nat → Nat → Int) (Q9 : List Nat) (x : Int32) (hcn : cn.toInt = cm) (hcm : cm ≤ 40) (htok : TOK cm ng nn) (hlc : 0 ≤ lc.toInt ∧ lc.toInt < 40) (hoo : OrdOK lc.toInt cm fo) (hdt : DtC dt cm ng nn nf) (hQ : QR Q9 fp 0 ld.toNatClampNeg) (hQ12 : ∀ j, j ≤ lc.toNatClampNeg → (chD (dt 5) (dt 0) (oN fo) x.toInt Q9  j).length ≤ 12) (hTn : TnL Q9 ft) (hNd : ∀ j, j ≤ lc.toNatClampNeg → NdL (chD (dt 5) (dt 0) (oN fo) x.toInt Q9  j)) (hld : 0 ≤ ld.toInt ∧ ld.toInt ≤ 12) (hpo : OrdOK ld.toInt cm fp) : Met l y_Layout_addDirectoriesIn w_Layout_addDirectoriesIn ({ frames := 1, cells := 0, slots := 0, locals := 27 }) (va_Pc [.ref l0, .ref tr, .int x] (fun U => U.heap.size = sz ∧ va_P D CL [(l0, .inr (3, [.int ln, .int lds, .int ltb, .ref lo, .ref lp, .ref lt, .ref lb, .ref le, .int lc, .int ld])), (lo, .inl (cI, 40, .inl fo)), (lp, .inl (cI, 12, .inl fp)), (lt, .inl (cI, 40, .inl ft))] U.heap ∧ va_K D CL (TY cB cI cJ cZ cN cF) U ∧ NN U ∧ va_D (fun _ => True) [(l0, .inr (3, [.int ln, .int lds, .int ltb, .ref lo, .ref lp, .ref lt, .ref lb, .ref le, .int lc, .int ld])), (lo, .inl (cI, 40, .inl fo)), (lp, .inl (cI, 12, .inl fp)), (lt, .inl (cI, 40, .inl ft))] ∧ RO D (([(tr, .inr (10, [.ref ta, .int cn, .int dr])), (ta, .inl (cN, 40, .inr (.inr (.inr (.inr (rowF na cm))))))] : va_W) ++ (PL (NC cB na ng nn nf) cm)) (va_A [(l0, .inr (3, [.int ln, .int lds, .int ltb, .ref lo, .ref lp, .ref lt, .ref lb, .ref le, .int lc, .int ld])), (lo, .inl (cI, 40, .inl fo)), (lp, .inl (cI, 12, .inl fp)), (lt, .inl (cI, 40, .inl ft))] sz) U U.heap)) (va_Qv (fun (u : Int32 × (Nat → Int32) × (Nat → Int32)) => match u with | (ld2, gp, gt) => (ld.toInt ≤ ld2.toInt ∧ ld2.toInt ≤ 12) ∧ (OrdOK ld2.toInt cm gp) ∧ (QR (chD (dt 5) (dt 0) (oN fo) x.toInt Q9  lc.toNatClampNeg) gp 0 ld2.toNatClampNeg) ∧ (TnL (chD (dt 5) (dt 0) (oN fo) x.toInt Q9  lc.toNatClampNeg) gt)) (fun (u : Int32 × (Nat → Int32) × (Nat → Int32)) (t : State) => match u with | (ld2, gp, gt) => va_P D CL [(l0, .inr (3, [.int ln, .int lds, .int ltb, .ref lo, .ref lp, .ref lt, .ref lb, .ref le, .int lc, .int ld2])), (lo, .inl (cI, 40, .inl fo)), (lp, .inl (cI, 12, .inl gp)), (lt, .inl (cI, 40, .inl gt))] t.heap ∧ va_D (va_A [(l0, .inr (3, [.int ln, .int lds, .int ltb, .ref lo, .ref lp, .ref lt, .ref lb, .ref le, .int lc, .int ld])), (lo, .inl (cI, 40, .inl fo)), (lp, .inl (cI, 12, .inl fp)), (lt, .inl (cI, 40, .inl ft))] sz) [(l0, .inr (3, [.int ln, .int lds, .int ltb, .ref lo, .ref lp, .ref lt, .ref lb, .ref le, .int lc, .int ld2])), (lo, .inl (cI, 40, .inl fo)), (lp, .inl (cI, 12, .inl gp)), (lt, .inl (cI, 40, .inl gt))]) (va_A [(l0, .inr (3, [.int ln, .int lds, .int ltb, .ref lo, .ref lp, .ref lt, .ref lb, .ref le, .int lc, .int ld])), (lo, .inl (cI, 40, .inl fo)), (lp, .inl (cI, 12, .inl fp)), (lt, .inl (cI, 40, .inl ft))] sz)) 0 0 (va_A [(l0, .inr (3, [.int ln, .int lds, .int ltb, .ref lo, .ref lp, .ref lt, .ref lb, .ref le, .int lc, .int ld])), (lo, .inl (cI, 40, .inl fo)), (lp, .inl (cI, 12, .inl fp)), (lt, .inl (cI, 40, .inl ft))] sz) := by
  refine Met.ofW (cc := b_Layout_addDirectoriesIn) (maxL := 4) (ret := none) (by decide +kernel) rfl ?_
  intro p e s m args below meth c s₁ B hml hv
  obtain ⟨rfl, hsz, hP, hK, hN, hD0, hZr⟩ := hv
  have hx := B.exec
  have hb := B.bytes
  have hr := B.returns
  have hts := atoms_spec (ws := w_Layout_addDirectoriesIn) B.pre
  have ht9 := fun (w : Cond) (h : w ∈ lw_g) => hts w (List.mem_cons_of_mem _ h)
  have hown : s.vm.findClass "DiscMaker$Layout" = some m.cls := findClass_of_methodNamed B.named
  have hlocks := B.notSynchronized
  subst hsz
  have hD := hD0.self (sz := s.heap.size)
  generalize hAe : va_A [(l0, .inr (3, [.int ln, .int lds, .int ltb, .ref lo, .ref lp, .ref lt, .ref lb, .ref le, .int lc, .int ld])), (lo, .inl (cI, 40, .inl fo)), (lp, .inl (cI, 12, .inl fp)), (lt, .inl (cI, 40, .inl ft))] s.heap.size = A at hD hZr ⊢
  have hA : ∀ q : Nat, s.heap.size ≤ q → A q := fun q h => by rw [← hAe]; exact Or.inr h
  have hS : va_S A s.heap s.heap [] := va_S.rf
  have hP : va_P D CL [(l0, .inr (3, [.int ln, .int lds, .int ltb, .ref lo, .ref lp, .ref lt, .ref lb, .ref le, .int lc, .int ld])), (lo, .inl (cI, 40, .inl fo)), (lp, .inl (cI, 12, .inl fp)), (lt, .inl (cI, 40, .inl ft))] s.heap := hP
  have hl := lv_entry [.ref l0, .ref tr, .int x] (n := 4) (Nat.le_of_ble_eq_true rfl)
  rw [lg_entry_eq]
  generalize (lg_sl [.ref l0, .ref tr, .int x] ++ List.replicate (4 - (lg_sl [.ref l0, .ref tr, .int x]).length) Slot.unset).toArray = ls at hl ⊢
  have hl : lv_has ls 4 [(0, .ref l0), (1, .ref tr), (2, .int x)] := hl
  have L_m1 : ((-1) : Int32).toInt = (-1) := by decide
  have L_0 : (0 : Int32).toInt = 0 := by decide
  have L_1 : (1 : Int32).toInt = 1 := by decide
  have hlcc := i_cl (a := lc) (by omega)
  refine lv_iconst (v := 0) hx hb d_Layout_addDirectoriesIn_0 (by decide) ?_
  refine lv_istore_n hx hb d_Layout_addDirectoriesIn_1 rfl hl (by decide) rfl (fun ls hl => ?_)
  have hl : lv_has ls 4 [(3, .int 0), (0, .ref l0), (1, .ref tr), (2, .int x)] := hl
  refine zz_labM (B := fun (lk : Nat) (K : Heap → List Loc → Array Slot → List Value → Prop) => ∀ (kx : Int32) (lld : Int32) (lfp : Nat → Int32) (lft : Nat → Int32) (H : Heap) (locs : List Loc) (ls : Array Slot), lk = (lc.toInt - kx.toInt).toNat → (0 ≤ kx.toInt ∧ kx.toInt ≤ lc.toInt) → (ld.toInt ≤ lld.toInt ∧ lld.toInt ≤ 12) → (OrdOK lld.toInt cm lfp) → (QR (chD (dt 5) (dt 0) (oN fo) x.toInt Q9  kx.toNatClampNeg) lfp 0 lld.toNatClampNeg) → (TnL (chD (dt 5) (dt 0) (oN fo) x.toInt Q9  kx.toNatClampNeg) lft) → va_P D CL [(l0, .inr (3, [.int ln, .int lds, .int ltb, .ref lo, .ref lp, .ref lt, .ref lb, .ref le, .int lc, .int lld])), (lo, .inl (cI, 40, .inl fo)), (lp, .inl (cI, 12, .inl lfp)), (lt, .inl (cI, 40, .inl lft))] H → va_D A [(l0, .inr (3, [.int ln, .int lds, .int ltb, .ref lo, .ref lp, .ref lt, .ref lb, .ref le, .int lc, .int lld])), (lo, .inl (cI, 40, .inl fo)), (lp, .inl (cI, 12, .inl lfp)), (lt, .inl (cI, 40, .inl lft))] → va_S A s.heap H locs → lv_has ls 4 [(0, .ref l0), (1, .ref tr), (2, .int x), (3, .int kx)] → K H locs ls []) 2 ?_ ?_
  · skip
    intro lk ih2 kx lld lfp lft H locs ls hm2 e1 e2 e3 e4 e5 hP hD hS hl
    refine lv_iload_n hx hb d_Layout_addDirectoriesIn_2 rfl (lv_at hl 3 rfl) ?_
    refine lv_aload_n hx hb d_Layout_addDirectoriesIn_3 rfl (lv_at hl 0 rfl) ?_
    refine va_get (D := D) (ci := 3) (v := .int lc) (C := "DiscMaker$Layout") (T := F_Layout) (N := 10) hx hb ht9 in_Layout hown hK hP 0 rfl rfl 8 (by decide) (ht9 _ k296) (fun _ h9 => h9) rfl d_Layout_addDirectoriesIn_4 ?_
    refine lv_icmp_ge (tgt := 61) hx hb d_Layout_addDirectoriesIn_7 (by decide) (fun h_9 => ?_) (fun h_9 => ?_)
    · skip
      have g7_6 : lc.toInt ≤ kx.toInt := (i_le rfl rfl).mp h_9
      have hkl : lc.toNatClampNeg = kx.toNatClampNeg := by (have h7 := i_cl (a := kx) (by omega)); omega
      have hP9 := hP.sub (ws' := [(l0, .inr (3, [.int ln, .int lds, .int ltb, .ref lo, .ref lp, .ref lt, .ref lb, .ref le, .int lc, .int lld])), (lo, .inl (cI, 40, .inl fo)), (lp, .inl (cI, 12, .inl lfp)), (lt, .inl (cI, 40, .inl lft))]) [0, 1, 2, 3] rfl
      have hD9 := hD.sub (ws' := [(l0, .inr (3, [.int ln, .int lds, .int ltb, .ref lo, .ref lp, .ref lt, .ref lb, .ref le, .int lc, .int lld])), (lo, .inl (cI, 40, .inl fo)), (lp, .inl (cI, 12, .inl lfp)), (lt, .inl (cI, 40, .inl lft))]) [0, 1, 2, 3] (by decide +kernel) rfl
      exact W.vret hx hb hr (fun t ht hW => ⟨⟨(lld, lfp, lft), rfl, ⟨(by (try dsimp only); first | assumption | omega | trivial), e3, (by (try dsimp only); rw [hkl]; exact e4), (by (try dsimp only); rw [hkl]; exact e5)⟩, by rw [ht]; exact hP9, hD9⟩, hS.F ht⟩) hS.2.2 d_Layout_addDirectoriesIn_61
    · skip
      have g7_6 : ¬ lc.toInt ≤ kx.toInt := fun h8 => h_9 ((i_le rfl rfl).mpr h8)
      refine lv_aload_n hx hb d_Layout_addDirectoriesIn_10 rfl (lv_at hl 1 rfl) ?_
      have hPR := RO_at hZr hS
      refine va_getN (D := D) (ci := 10) (v := .ref ta) (C := "DiscMaker$Tree") (T := F_Tree) (N := 3) hx hb ht9 in_Tree hown hK hPR 0 rfl rfl 0 (by decide) (va_Nw.use rfl (hN _ k236)) (fun _ h9 => h9) rfl d_Layout_addDirectoriesIn_11 ?_
      refine lv_aload_n hx hb d_Layout_addDirectoriesIn_14 rfl (lv_at hl 0 rfl) ?_
      refine va_get (D := D) (ci := 3) (v := .ref lo) (C := "DiscMaker$Layout") (T := F_Layout) (N := 10) hx hb ht9 in_Layout hown hK hP 0 rfl rfl 3 (by decide) (ht9 _ k286) (fun _ h9 => h9) rfl d_Layout_addDirectoriesIn_15 ?_
      refine lv_iload_n hx hb d_Layout_addDirectoriesIn_18 rfl (lv_at hl 3 rfl) ?_
      refine va_iald hx hb hK hP 1 1 rfl rfl (vp_in_iff.mpr ⟨by omega, by omega⟩) d_Layout_addDirectoriesIn_19 ?_
      refine lv_topi (fun v1 e_v1 => ?_)
      have qv1 := OrdOK_at hoo e_v1 (by have := i_cl (a := kx) (by omega); omega)
      have hPR := RO_at hZr hS
      refine va_aldq hx hb hK hPR 1 4 rfl rfl (vp_in_iff.mpr ⟨by omega, by omega⟩) d_Layout_addDirectoriesIn_20 ?_
      have c_hk2 := i_cl (a := v1) (by omega)
      have hk2 : v1.toNatClampNeg < cm := by omega
      have o_hk2 := htok v1.toNatClampNeg hk2
      obtain ⟨i_hj3, hj3⟩ : ∃ j : Nat, (PL (NC cB na ng nn nf) cm)[j]? = some ((na v1.toNatClampNeg 0), .inr (5, [.int (ng v1.toNatClampNeg 0), .ref (na v1.toNatClampNeg 1), .ref (na v1.toNatClampNeg 2), .ref (na v1.toNatClampNeg 3), .int (ng v1.toNatClampNeg 1), .int (ng v1.toNatClampNeg 2), .int (ng v1.toNatClampNeg 3), .int (ng v1.toNatClampNeg 4), .int (ng v1.toNatClampNeg 5), .int (ng v1.toNatClampNeg 6), .int (ng v1.toNatClampNeg 7), .int (ng v1.toNatClampNeg 8)])) := PL_get (i := 0) hk2 rfl
      obtain ⟨i_hj4, hj4⟩ : ∃ j : Nat, (PL (NC cB na ng nn nf) cm)[j]? = some ((na v1.toNatClampNeg 1), .inl (cB, (nn v1.toNatClampNeg 1), .inl (nf v1.toNatClampNeg 1))) := PL_get (i := 1) hk2 rfl
      obtain ⟨i_hj5, hj5⟩ : ∃ j : Nat, (PL (NC cB na ng nn nf) cm)[j]? = some ((na v1.toNatClampNeg 2), .inl (cB, 11, .inl (nf v1.toNatClampNeg 2))) := PL_get (i := 2) hk2 rfl
      obtain ⟨i_hj6, hj6⟩ : ∃ j : Nat, (PL (NC cB na ng nn nf) cm)[j]? = some ((na v1.toNatClampNeg 3), .inl (cB, (nn v1.toNatClampNeg 3), .inl (nf v1.toNatClampNeg 3))) := PL_get (i := 3) hk2 rfl
      refine W.eq (g2 := F0 m 21 ls [.ref (na v1.toNatClampNeg 0)]) (by rw [show rowF na cm v1.toNatClampNeg = some (na v1.toNatClampNeg 0) from rowF_some hk2]; rfl) ?_
      have hPR := RO_at hZr hS
      refine va_getN (D := D) (ci := 5) (v := .int (ng v1.toNatClampNeg 2)) (C := "DiscMaker$Node") (T := F_Node) (N := 12) hx hb ht9 in_Node hown hK hPR _ (pix (X := [(tr, .inr (10, [.ref ta, .int cn, .int dr])), (ta, .inl (cN, 40, .inr (.inr (.inr (.inr (rowF na cm))))))]) hj3) rfl 5 (by decide) (va_Nw.use rfl (hN _ k198)) (fun _ h9 => h9) rfl d_Layout_addDirectoriesIn_21 ?_
      refine lv_iload_n hx hb d_Layout_addDirectoriesIn_24 rfl (lv_at hl 2 rfl) ?_
      refine lv_icmp_ne (tgt := 55) hx hb d_Layout_addDirectoriesIn_25 (by decide) (fun h_9 => ?_) (fun h_9 => ?_)
      · skip
        have g25_17 : ¬ (ng v1.toNatClampNeg 2).toInt = x.toInt := fun h8 => h_9 ((i_eq rfl rfl).mpr h8)
        obtain ⟨v7, e_v7⟩ : ∃ z : Int32, z = kx + 1 := ⟨_, rfl⟩
        refine lv_iinc (v := v7) hx hb d_Layout_addDirectoriesIn_55 hl (k := 3) rfl e_v7.symm (by decide +kernel) rfl (fun ls hl => ?_)
        have t_v7 : v7.toInt = kx.toInt + 1 := by rw [e_v7]; exact i_add rfl (by decide) (by omega) (by omega)
        have hl : lv_has ls 4 [(3, .int v7), (0, .ref l0), (1, .ref tr), (2, .int x)] := hl
        refine lv_goto (tgt := 2) hx hb d_Layout_addDirectoriesIn_58 (by decide) ?_
        have hP := hP.sub (ws' := [(l0, .inr (3, [.int ln, .int lds, .int ltb, .ref lo, .ref lp, .ref lt, .ref lb, .ref le, .int lc, .int lld])), (lo, .inl (cI, 40, .inl fo)), (lp, .inl (cI, 12, .inl lfp)), (lt, .inl (cI, 40, .inl lft))]) [0, 1, 2, 3] rfl
        have hD := hD.sub (ws' := [(l0, .inr (3, [.int ln, .int lds, .int ltb, .ref lo, .ref lp, .ref lt, .ref lb, .ref le, .int lc, .int lld])), (lo, .inl (cI, 40, .inl fo)), (lp, .inl (cI, 12, .inl lfp)), (lt, .inl (cI, 40, .inl lft))]) [0, 1, 2, 3] (by decide +kernel) rfl
        have hl := lv_sub hl [1, 2, 3, 0] rfl
        exact ih2 _ (by first | omega | (dsimp only; omega)) v7 lld lfp lft _ _ _ rfl ((by (try dsimp only); first | assumption | omega | trivial)) ((by (try dsimp only); first | assumption | omega | trivial)) (e3) ((by have h7 := i_cl (a := kx) (by omega); have h6 := i_cl (a := v7) (by omega); have h5 := hdt (v1.toNatClampNeg) (by have h4 := i_cl (a := v1) (by omega); omega); (have h3 : oN fo kx.toNatClampNeg = v1.toNatClampNeg := by unfold oN; rw [e_v1]); rw [chD_miss (j := kx.toNatClampNeg) (by rw [h3, h5.1.2.2.2.1]; omega) (by omega)]; exact e4)) ((by have h7 := i_cl (a := kx) (by omega); have h6 := i_cl (a := v7) (by omega); have h5 := hdt (v1.toNatClampNeg) (by have h4 := i_cl (a := v1) (by omega); omega); (have h3 : oN fo kx.toNatClampNeg = v1.toNatClampNeg := by unfold oN; rw [e_v1]); rw [chD_miss (j := kx.toNatClampNeg) (by rw [h3, h5.1.2.2.2.1]; omega) (by omega)]; exact e5)) hP hD hS hl
      · skip
        have g25_17 : (ng v1.toNatClampNeg 2).toInt = x.toInt := (i_eq rfl rfl).mp h_9
        refine lv_aload_n hx hb d_Layout_addDirectoriesIn_28 rfl (lv_at hl 1 rfl) ?_
        have hPR := RO_at hZr hS
        refine va_getN (D := D) (ci := 10) (v := .ref ta) (C := "DiscMaker$Tree") (T := F_Tree) (N := 3) hx hb ht9 in_Tree hown hK hPR 0 rfl rfl 0 (by decide) (va_Nw.use rfl (hN _ k236)) (fun _ h9 => h9) rfl d_Layout_addDirectoriesIn_29 ?_
        refine lv_aload_n hx hb d_Layout_addDirectoriesIn_32 rfl (lv_at hl 0 rfl) ?_
        refine va_get (D := D) (ci := 3) (v := .ref lo) (C := "DiscMaker$Layout") (T := F_Layout) (N := 10) hx hb ht9 in_Layout hown hK hP 0 rfl rfl 3 (by decide) (ht9 _ k286) (fun _ h9 => h9) rfl d_Layout_addDirectoriesIn_33 ?_
        refine lv_iload_n hx hb d_Layout_addDirectoriesIn_36 rfl (lv_at hl 3 rfl) ?_
        refine va_iald hx hb hK hP 1 1 rfl rfl (vp_in_iff.mpr ⟨by omega, by omega⟩) d_Layout_addDirectoriesIn_37 ?_
        refine lv_topi (fun v8 e_v8 => ?_)
        have q_v8 : v8.toInt = v1.toInt := by rw [e_v8, e_v1]
        have qv8 := OrdOK_at hoo e_v8 (by have := i_cl (a := kx) (by omega); omega)
        have hPR := RO_at hZr hS
        refine va_aldq hx hb hK hPR 1 4 rfl rfl (vp_in_iff.mpr ⟨by omega, by omega⟩) d_Layout_addDirectoriesIn_38 ?_
        have c_hk9 := i_cl (a := v8) (by omega)
        have hk9 : v8.toNatClampNeg < cm := by omega
        have o_hk9 := htok v8.toNatClampNeg hk9
        obtain ⟨i_hj10, hj10⟩ : ∃ j : Nat, (PL (NC cB na ng nn nf) cm)[j]? = some ((na v8.toNatClampNeg 0), .inr (5, [.int (ng v8.toNatClampNeg 0), .ref (na v8.toNatClampNeg 1), .ref (na v8.toNatClampNeg 2), .ref (na v8.toNatClampNeg 3), .int (ng v8.toNatClampNeg 1), .int (ng v8.toNatClampNeg 2), .int (ng v8.toNatClampNeg 3), .int (ng v8.toNatClampNeg 4), .int (ng v8.toNatClampNeg 5), .int (ng v8.toNatClampNeg 6), .int (ng v8.toNatClampNeg 7), .int (ng v8.toNatClampNeg 8)])) := PL_get (i := 0) hk9 rfl
        obtain ⟨i_hj11, hj11⟩ : ∃ j : Nat, (PL (NC cB na ng nn nf) cm)[j]? = some ((na v8.toNatClampNeg 1), .inl (cB, (nn v8.toNatClampNeg 1), .inl (nf v8.toNatClampNeg 1))) := PL_get (i := 1) hk9 rfl
        obtain ⟨i_hj12, hj12⟩ : ∃ j : Nat, (PL (NC cB na ng nn nf) cm)[j]? = some ((na v8.toNatClampNeg 2), .inl (cB, 11, .inl (nf v8.toNatClampNeg 2))) := PL_get (i := 2) hk9 rfl
        obtain ⟨i_hj13, hj13⟩ : ∃ j : Nat, (PL (NC cB na ng nn nf) cm)[j]? = some ((na v8.toNatClampNeg 3), .inl (cB, (nn v8.toNatClampNeg 3), .inl (nf v8.toNatClampNeg 3))) := PL_get (i := 3) hk9 rfl
        refine W.eq (g2 := F0 m 39 ls [.ref (na v8.toNatClampNeg 0)]) (by rw [show rowF na cm v8.toNatClampNeg = some (na v8.toNatClampNeg 0) from rowF_some hk9]; rfl) ?_
        have hPR := RO_at hZr hS
        refine va_getN (D := D) (ci := 5) (v := .int (ng v8.toNatClampNeg 0)) (C := "DiscMaker$Node") (T := F_Node) (N := 12) hx hb ht9 in_Node hown hK hPR _ (pix (X := [(tr, .inr (10, [.ref ta, .int cn, .int dr])), (ta, .inl (cN, 40, .inr (.inr (.inr (.inr (rowF na cm))))))]) hj10) rfl 0 (by decide) (va_Nw.use rfl (hN _ k179)) (fun _ h9 => h9) rfl d_Layout_addDirectoriesIn_39 ?_
        refine lv_if_ne (tgt := 55) hx hb d_Layout_addDirectoriesIn_42 (by decide) (fun h_9 => ?_) (fun h_9 => ?_)
        · skip
          have g42_29 : ¬ (ng v8.toNatClampNeg 0).toInt = 0 := fun h8 => h_9 ((i_eq rfl (by decide)).mpr h8)
          obtain ⟨v14, e_v14⟩ : ∃ z : Int32, z = kx + 1 := ⟨_, rfl⟩
          refine lv_iinc (v := v14) hx hb d_Layout_addDirectoriesIn_55 hl (k := 3) rfl e_v14.symm (by decide +kernel) rfl (fun ls hl => ?_)
          have t_v14 : v14.toInt = kx.toInt + 1 := by rw [e_v14]; exact i_add rfl (by decide) (by omega) (by omega)
          have hl : lv_has ls 4 [(3, .int v14), (0, .ref l0), (1, .ref tr), (2, .int x)] := hl
          refine lv_goto (tgt := 2) hx hb d_Layout_addDirectoriesIn_58 (by decide) ?_
          have hP := hP.sub (ws' := [(l0, .inr (3, [.int ln, .int lds, .int ltb, .ref lo, .ref lp, .ref lt, .ref lb, .ref le, .int lc, .int lld])), (lo, .inl (cI, 40, .inl fo)), (lp, .inl (cI, 12, .inl lfp)), (lt, .inl (cI, 40, .inl lft))]) [0, 1, 2, 3] rfl
          have hD := hD.sub (ws' := [(l0, .inr (3, [.int ln, .int lds, .int ltb, .ref lo, .ref lp, .ref lt, .ref lb, .ref le, .int lc, .int lld])), (lo, .inl (cI, 40, .inl fo)), (lp, .inl (cI, 12, .inl lfp)), (lt, .inl (cI, 40, .inl lft))]) [0, 1, 2, 3] (by decide +kernel) rfl
          have hl := lv_sub hl [1, 2, 3, 0] rfl
          exact ih2 _ (by first | omega | (dsimp only; omega)) v14 lld lfp lft _ _ _ rfl ((by (try dsimp only); first | assumption | omega | trivial)) ((by (try dsimp only); first | assumption | omega | trivial)) (e3) ((by have h7 := i_cl (a := kx) (by omega); have h6 := i_cl (a := v14) (by omega); have h5 := hdt (v1.toNatClampNeg) (by have h4 := i_cl (a := v1) (by omega); omega); (have h3 : oN fo kx.toNatClampNeg = v1.toNatClampNeg := by unfold oN; rw [e_v1]); have g5 := hdt (v8.toNatClampNeg) (by have h4 := i_cl (a := v8) (by omega); omega); (have g3 : oN fo kx.toNatClampNeg = v8.toNatClampNeg := by unfold oN; rw [e_v8]); rw [chD_skip (j := kx.toNatClampNeg) (by rw [h3, h5.1.2.2.2.1]; omega) (by rw [g3, g5.1.1]; omega) (by omega)]; exact e4)) ((by have h7 := i_cl (a := kx) (by omega); have h6 := i_cl (a := v14) (by omega); have h5 := hdt (v1.toNatClampNeg) (by have h4 := i_cl (a := v1) (by omega); omega); (have h3 : oN fo kx.toNatClampNeg = v1.toNatClampNeg := by unfold oN; rw [e_v1]); have g5 := hdt (v8.toNatClampNeg) (by have h4 := i_cl (a := v8) (by omega); omega); (have g3 : oN fo kx.toNatClampNeg = v8.toNatClampNeg := by unfold oN; rw [e_v8]); rw [chD_skip (j := kx.toNatClampNeg) (by rw [h3, h5.1.2.2.2.1]; omega) (by rw [g3, g5.1.1]; omega) (by omega)]; exact e5)) hP hD hS hl
        · skip
          have g42_29 : (ng v8.toNatClampNeg 0).toInt = 0 := (i_eq rfl (by decide)).mp h_9
          refine lv_aload_n hx hb d_Layout_addDirectoriesIn_45 rfl (lv_at hl 0 rfl) ?_
          refine lv_aload_n hx hb d_Layout_addDirectoriesIn_46 rfl (lv_at hl 0 rfl) ?_
          refine va_get (D := D) (ci := 3) (v := .ref lo) (C := "DiscMaker$Layout") (T := F_Layout) (N := 10) hx hb ht9 in_Layout hown hK hP 0 rfl rfl 3 (by decide) (ht9 _ k286) (fun _ h9 => h9) rfl d_Layout_addDirectoriesIn_47 ?_
          refine lv_iload_n hx hb d_Layout_addDirectoriesIn_50 rfl (lv_at hl 3 rfl) ?_
          refine va_iald hx hb hK hP 1 1 rfl rfl (vp_in_iff.mpr ⟨by omega, by omega⟩) d_Layout_addDirectoriesIn_51 ?_
          refine lv_topi (fun v15 e_v15 => ?_)
          have q_v15 : v15.toInt = v1.toInt := by rw [e_v15, e_v1]
          have qv15 := OrdOK_at hoo e_v15 (by have := i_cl (a := kx) (by omega); omega)
          have hPc := hP.sub (ws' := [(l0, .inr (3, [.int ln, .int lds, .int ltb, .ref lo, .ref lp, .ref lt, .ref lb, .ref le, .int lc, .int lld])), (lp, .inl (cI, 12, .inl lfp)), (lt, .inl (cI, 40, .inl lft))]) [0, 2, 3] rfl
          have hDc := hD.sub (ws' := [(l0, .inr (3, [.int ln, .int lds, .int ltb, .ref lo, .ref lp, .ref lt, .ref lb, .ref le, .int lc, .int lld])), (lp, .inl (cI, 12, .inl lfp)), (lt, .inl (cI, 40, .inl lft))]) [0, 2, 3] (by decide +kernel) rfl
          have hFc := va_free (wc := [(l0, .inr (3, [.int ln, .int lds, .int ltb, .ref lo, .ref lp, .ref lt, .ref lb, .ref le, .int lc, .int lld])), (lp, .inl (cI, 12, .inl lfp)), (lt, .inl (cI, 40, .inl lft))]) hD hS hA [0, 2, 3] rfl
          have hkc : 0 ≤ 0 := by decide
          have hks : 0 ≤ 0 := by decide
          refine va_callv (va_runV (C := "DiscMaker$Layout") (As := [.int v15]) (rest := []) ⟨hx, hb, hml, hown, hts⟩ (c3_addDirectoryF l D cB cI cJ cZ cN cF H.size l0 lo lp lt lb le ln lds ltb lc lld lfp lft cm v15 (by (try dsimp only); first | assumption | omega | trivial) (by (try dsimp only); first | assumption | omega | trivial) (by (try dsimp only); first | assumption | omega | trivial) (e3)) (cwV 1 hts (lg_goodV k956 k958 k14 k121 kc_Layout_addDirectory) rfl rfl rfl (by decide +kernel) ⟨Nat.le_of_ble_eq_true rfl, Nat.le_of_ble_eq_true rfl⟩) ⟨fun a U g mk q => by obtain ⟨q0, q1, qP, qK, qN, qD⟩ := q; exact ⟨q0, q1, qP, va_K.moved (u := U) (U := U.calling g mk a) (Vm.Alike.refl U.vm) qK, qN.calling, qD⟩, va_recv hK hP (ci := 3) (q0 := 0) rfl rfl, fun U hU hW => ⟨rfl, by rw [hU], by rw [hU]; exact hPc, va_K.moved hW.alike hK, NN.warm hW hN, hDc.weaken (fun _ _ _ _ => trivial)⟩⟩ rfl rfl hl.1 rfl (lv_room (Nat.le_of_ble_eq_true rfl)) d_Layout_addDirectoriesIn_52 ⟨hkc, hks⟩) hS (fun q _ h => hFc q h) hFc (fun u t H1 locs ht hvm hp_r16 hB hz1 hk1 hS => ?_)
          obtain ⟨ld2_17, gp_18, gt_19⟩ := u
          obtain ⟨hP1, hD1⟩ := hB
          rw [ht] at hP1
          obtain ⟨hP, hD⟩ := va_join (wr := [(lo, .inl (cI, 40, .inl fo))]) (w1 := [(l0, .inr (3, [.int ln, .int lds, .int ltb, .ref lo, .ref lp, .ref lt, .ref lb, .ref le, .int lc, .int ld2_17])), (lp, .inl (cI, 12, .inl gp_18)), (lt, .inl (cI, 40, .inl gt_19))]) hP hD [0, 2, 3] [1] rfl rfl (by decide +kernel) (by decide +kernel) hk1 hFc hP1 hD1
          clear hPc hDc hFc hP1 hD1 hk1 hz1 hkc hks
          generalize H1 = H at hP hS ⊢
          have hP : va_P D CL [(lo, .inl (cI, 40, .inl fo)), (l0, .inr (3, [.int ln, .int lds, .int ltb, .ref lo, .ref lp, .ref lt, .ref lb, .ref le, .int lc, .int ld2_17])), (lp, .inl (cI, 12, .inl gp_18)), (lt, .inl (cI, 40, .inl gt_19))] H := hP
          have hD : va_D A [(lo, .inl (cI, 40, .inl fo)), (l0, .inr (3, [.int ln, .int lds, .int ltb, .ref lo, .ref lp, .ref lt, .ref lb, .ref le, .int lc, .int ld2_17])), (lp, .inl (cI, 12, .inl gp_18)), (lt, .inl (cI, 40, .inl gt_19))] := hD
          try dsimp only at hp_r16
          obtain ⟨hld2_20, hpo2_21, hup_22, htn_23⟩ := hp_r16
          obtain ⟨v24, e_v24⟩ : ∃ z : Int32, z = kx + 1 := ⟨_, rfl⟩
          refine lv_iinc (v := v24) hx hb d_Layout_addDirectoriesIn_55 hl (k := 3) rfl e_v24.symm (by decide +kernel) rfl (fun ls hl => ?_)
          have t_v24 : v24.toInt = kx.toInt + 1 := by rw [e_v24]; exact i_add rfl (by decide) (by omega) (by omega)
          have hl : lv_has ls 4 [(3, .int v24), (0, .ref l0), (1, .ref tr), (2, .int x)] := hl
          refine lv_goto (tgt := 2) hx hb d_Layout_addDirectoriesIn_58 (by decide) ?_
          have hP := hP.sub (ws' := [(l0, .inr (3, [.int ln, .int lds, .int ltb, .ref lo, .ref lp, .ref lt, .ref lb, .ref le, .int lc, .int ld2_17])), (lo, .inl (cI, 40, .inl fo)), (lp, .inl (cI, 12, .inl gp_18)), (lt, .inl (cI, 40, .inl gt_19))]) [1, 0, 2, 3] rfl
          have hD := hD.sub (ws' := [(l0, .inr (3, [.int ln, .int lds, .int ltb, .ref lo, .ref lp, .ref lt, .ref lb, .ref le, .int lc, .int ld2_17])), (lo, .inl (cI, 40, .inl fo)), (lp, .inl (cI, 12, .inl gp_18)), (lt, .inl (cI, 40, .inl gt_19))]) [1, 0, 2, 3] (by decide +kernel) rfl
          have hl := lv_sub hl [1, 2, 3, 0] rfl
          exact ih2 _ (by first | omega | (dsimp only; omega)) v24 ld2_17 gp_18 gt_19 _ _ _ rfl ((by (try dsimp only); first | assumption | omega | trivial)) ((by (try dsimp only); first | assumption | omega | trivial)) (hpo2_21) ((by have h7 := i_cl (a := kx) (by omega); have h6 := i_cl (a := v24) (by omega); have h5 := hdt (v1.toNatClampNeg) (by have h4 := i_cl (a := v1) (by omega); omega); (have h3 : oN fo kx.toNatClampNeg = v1.toNatClampNeg := by unfold oN; rw [e_v1]); have g5 := hdt (v8.toNatClampNeg) (by have h4 := i_cl (a := v8) (by omega); omega); (have g3 : oN fo kx.toNatClampNeg = v8.toNatClampNeg := by unfold oN; rw [e_v8]); have h2 := hQ12 v24.toNatClampNeg (by omega); rw [chD_add (j := kx.toNatClampNeg) (by rw [h3, h5.1.2.2.2.1]; omega) (by rw [g3, g5.1.1]; omega) (by omega)] at h2 ⊢; rw [List.length_append] at h2; (have h1 := e4.1); (have h0 : ([oN fo kx.toNatClampNeg] : List Nat).length = 1 := rfl); rcases hup_22 with h8 | ⟨h8, h9, h10⟩ <;> first | (exfalso; have h12 := i_cl (a := lld) (by omega); omega) | (have h12 := i_cl (a := lld) (by omega); (have h13 := i_cl (a := ld2_17) (by omega)); rw [show ld2_17.toNatClampNeg = lld.toNatClampNeg + 1 by omega]; exact QR_push e4 h10 (by omega) (by rw [h3]; (have h14 := i_cl (a := v1) (by omega)); (have h15 : v15.toInt = v1.toInt := congrArg Int32.toInt (by rw [e_v15, e_v1])); omega)))) ((by have h7 := i_cl (a := kx) (by omega); have h6 := i_cl (a := v24) (by omega); have h5 := hdt (v1.toNatClampNeg) (by have h4 := i_cl (a := v1) (by omega); omega); (have h3 : oN fo kx.toNatClampNeg = v1.toNatClampNeg := by unfold oN; rw [e_v1]); have g5 := hdt (v8.toNatClampNeg) (by have h4 := i_cl (a := v8) (by omega); omega); (have g3 : oN fo kx.toNatClampNeg = v8.toNatClampNeg := by unfold oN; rw [e_v8]); have h2 := hQ12 v24.toNatClampNeg (by omega); have h1n := hNd v24.toNatClampNeg (by omega); rw [chD_add (j := kx.toNatClampNeg) (by rw [h3, h5.1.2.2.2.1]; omega) (by rw [g3, g5.1.1]; omega) (by omega)] at h2 h1n ⊢; rw [List.length_append] at h2; (have h1 := e4.1); (have h0 : ([oN fo kx.toNatClampNeg] : List Nat).length = 1 := rfl); have h12 := i_cl (a := lld) (by omega); exact TnL_push e5 (htn_23 (by omega)) (by rw [h3]; exact congrArg Int32.toNatClampNeg (by rw [e_v15, e_v1])) (by rcases hup_22 with h8 | ⟨h8, h9, h10⟩ <;> omega) h1n)) hP hD hS hl
  · skip
    intro kk2
    have hP := hP.sub (ws' := [(l0, .inr (3, [.int ln, .int lds, .int ltb, .ref lo, .ref lp, .ref lt, .ref lb, .ref le, .int lc, .int ld])), (lo, .inl (cI, 40, .inl fo)), (lp, .inl (cI, 12, .inl fp)), (lt, .inl (cI, 40, .inl ft))]) [0, 1, 2, 3] rfl
    have hD := hD.sub (ws' := [(l0, .inr (3, [.int ln, .int lds, .int ltb, .ref lo, .ref lp, .ref lt, .ref lb, .ref le, .int lc, .int ld])), (lo, .inl (cI, 40, .inl fo)), (lp, .inl (cI, 12, .inl fp)), (lt, .inl (cI, 40, .inl ft))]) [0, 1, 2, 3] (by decide +kernel) rfl
    have hl := lv_sub hl [1, 2, 3, 0] rfl
    exact kk2 _ 0 ld fp ft _ _ _ rfl ((by (try dsimp only); first | assumption | omega | trivial)) ((by (try dsimp only); first | assumption | omega | trivial)) (hpo) ((by rw [show (0 : Int32).toNatClampNeg = 0 by decide]; exact hQ)) ((by rw [show (0 : Int32).toNatClampNeg = 0 by decide]; exact hTn)) hP hD hS hl

set_option maxHeartbeats 4000000 in
set_option maxRecDepth 100000 in
theorem c3_arrangeF (l : Launch) (D : va_G) (cB cI cJ cZ cN cF : ClassId) (sz : Nat) (l0 : Nat) (lo : Nat) (lp : Nat) (lt : Nat) (lb : Nat) (le : Nat) (ln : Int32) (lds : Int32) (ltb : Int32) (lc : Int32) (ld : Int32) (tr : Nat) (ta : Nat) (cn : Int32) (dr : Int32) (na : Nat → Nat → Nat) (ng : Nat → Nat → Int32) (nn : Nat → Nat → Nat) (nf : Nat → Nat → Nat → Int32) (cm : Nat) (fo : Nat → Int32) (fp : Nat → Int32) (ft : Nat → Int32) (dt : Nat → Nat → Int) (hcn : cn.toInt = cm) (hcm : cm ≤ 40) (htok : TOK cm ng nn) (hc1 : 1 ≤ cm) (hdt : DtC dt cm ng nn nf) (hnm : NmOK cm nn nf) (hr0 : (ng 0 0).toInt = 0) (h12 : cP (fun q => dt 0 q = 0) cm ≤ 12) (hln : ln.toInt = 0 ∨ ln.toInt = 1) : Met l y_Layout_arrange w_Layout_arrange ({ frames := 3, cells := 0, slots := 0, locals := 88 }) (va_Pc [.ref l0, .ref tr] (fun U => U.heap.size = sz ∧ va_P D CL [(l0, .inr (3, [.int ln, .int lds, .int ltb, .ref lo, .ref lp, .ref lt, .ref lb, .ref le, .int lc, .int ld])), (lo, .inl (cI, 40, .inl fo)), (lp, .inl (cI, 12, .inl fp)), (lt, .inl (cI, 40, .inl ft))] U.heap ∧ va_K D CL (TY cB cI cJ cZ cN cF) U ∧ NN U ∧ va_D (fun _ => True) [(l0, .inr (3, [.int ln, .int lds, .int ltb, .ref lo, .ref lp, .ref lt, .ref lb, .ref le, .int lc, .int ld])), (lo, .inl (cI, 40, .inl fo)), (lp, .inl (cI, 12, .inl fp)), (lt, .inl (cI, 40, .inl ft))] ∧ RO D (([(tr, .inr (10, [.ref ta, .int cn, .int dr])), (ta, .inl (cN, 40, .inr (.inr (.inr (.inr (rowF na cm))))))] : va_W) ++ (PL (NC cB na ng nn nf) cm)) (va_A [(l0, .inr (3, [.int ln, .int lds, .int ltb, .ref lo, .ref lp, .ref lt, .ref lb, .ref le, .int lc, .int ld])), (lo, .inl (cI, 40, .inl fo)), (lp, .inl (cI, 12, .inl fp)), (lt, .inl (cI, 40, .inl ft))] sz) U U.heap)) (va_Qv (fun (u : Int32 × Int32 × (Nat → Int32) × (Nat → Int32) × (Nat → Int32)) => match u with | (lc2, ld2, go, gp, gt) => (0 ≤ lc2.toInt ∧ lc2.toInt < 40) ∧ (OrdOK lc2.toInt cm go) ∧ (1 ≤ ld2.toInt ∧ ld2.toInt ≤ 12) ∧ (OrdOK ld2.toInt cm gp) ∧ (OrdC ln.toInt ng nn nf go lc2.toNatClampNeg cm) ∧ (QR (qF (dt 5) (dt 0) (oN go) lc2.toNatClampNeg 40) gp 0 ld2.toNatClampNeg) ∧ (TnL (qF (dt 5) (dt 0) (oN go) lc2.toNatClampNeg 40) gt)) (fun (u : Int32 × Int32 × (Nat → Int32) × (Nat → Int32) × (Nat → Int32)) (t : State) => match u with | (lc2, ld2, go, gp, gt) => va_P D CL [(l0, .inr (3, [.int ln, .int lds, .int ltb, .ref lo, .ref lp, .ref lt, .ref lb, .ref le, .int lc2, .int ld2])), (lo, .inl (cI, 40, .inl go)), (lp, .inl (cI, 12, .inl gp)), (lt, .inl (cI, 40, .inl gt))] t.heap ∧ va_D (va_A [(l0, .inr (3, [.int ln, .int lds, .int ltb, .ref lo, .ref lp, .ref lt, .ref lb, .ref le, .int lc, .int ld])), (lo, .inl (cI, 40, .inl fo)), (lp, .inl (cI, 12, .inl fp)), (lt, .inl (cI, 40, .inl ft))] sz) [(l0, .inr (3, [.int ln, .int lds, .int ltb, .ref lo, .ref lp, .ref lt, .ref lb, .ref le, .int lc2, .int ld2])), (lo, .inl (cI, 40, .inl go)), (lp, .inl (cI, 12, .inl gp)), (lt, .inl (cI, 40, .inl gt))]) (va_A [(l0, .inr (3, [.int ln, .int lds, .int ltb, .ref lo, .ref lp, .ref lt, .ref lb, .ref le, .int lc, .int ld])), (lo, .inl (cI, 40, .inl fo)), (lp, .inl (cI, 12, .inl fp)), (lt, .inl (cI, 40, .inl ft))] sz)) 0 0 (va_A [(l0, .inr (3, [.int ln, .int lds, .int ltb, .ref lo, .ref lp, .ref lt, .ref lb, .ref le, .int lc, .int ld])), (lo, .inl (cI, 40, .inl fo)), (lp, .inl (cI, 12, .inl fp)), (lt, .inl (cI, 40, .inl ft))] sz) := by
  refine Met.ofW (cc := b_Layout_arrange) (maxL := 3) (ret := none) (by decide +kernel) rfl ?_
  intro p e s m args below meth c s₁ B hml hv
  obtain ⟨rfl, hsz, hP, hK, hN, hD0, hZr⟩ := hv
  have hx := B.exec
  have hb := B.bytes
  have hr := B.returns
  have hts := atoms_spec (ws := w_Layout_arrange) B.pre
  have ht9 := fun (w : Cond) (h : w ∈ lw_g) => hts w (List.mem_cons_of_mem _ h)
  have hown : s.vm.findClass "DiscMaker$Layout" = some m.cls := findClass_of_methodNamed B.named
  have hlocks := B.notSynchronized
  subst hsz
  have hD := hD0.self (sz := s.heap.size)
  generalize hAe : va_A [(l0, .inr (3, [.int ln, .int lds, .int ltb, .ref lo, .ref lp, .ref lt, .ref lb, .ref le, .int lc, .int ld])), (lo, .inl (cI, 40, .inl fo)), (lp, .inl (cI, 12, .inl fp)), (lt, .inl (cI, 40, .inl ft))] s.heap.size = A at hD hZr ⊢
  have hA : ∀ q : Nat, s.heap.size ≤ q → A q := fun q h => by rw [← hAe]; exact Or.inr h
  have hS : va_S A s.heap s.heap [] := va_S.rf
  have hP : va_P D CL [(l0, .inr (3, [.int ln, .int lds, .int ltb, .ref lo, .ref lp, .ref lt, .ref lb, .ref le, .int lc, .int ld])), (lo, .inl (cI, 40, .inl fo)), (lp, .inl (cI, 12, .inl fp)), (lt, .inl (cI, 40, .inl ft))] s.heap := hP
  have hl := lv_entry [.ref l0, .ref tr] (n := 3) (Nat.le_of_ble_eq_true rfl)
  rw [lg_entry_eq]
  generalize (lg_sl [.ref l0, .ref tr] ++ List.replicate (3 - (lg_sl [.ref l0, .ref tr]).length) Slot.unset).toArray = ls at hl ⊢
  have hl : lv_has ls 3 [(0, .ref l0), (1, .ref tr)] := hl
  have L_m1 : ((-1) : Int32).toInt = (-1) := by decide
  have L_0 : (0 : Int32).toInt = 0 := by decide
  have L_1 : (1 : Int32).toInt = 1 := by decide
  have L_2 : (2 : Int32).toInt = 2 := by decide
  have L_12 : (12 : Int32).toInt = 12 := by decide
  refine lv_aload_n hx hb d_Layout_arrange_0 rfl (lv_at hl 0 rfl) ?_
  refine lv_iconst (v := 0) hx hb d_Layout_arrange_1 (by decide) ?_
  refine va_put (D := D) (ci := 3) (v := .int 0) (ty := .int) (C := "DiscMaker$Layout") (T := F_Layout) (N := 10) hx hb ht9 in_Layout t_Layout t_Layout_ok n_Layout hown hK hP hD hS 0 rfl rfl 8 (by decide) (ht9 _ k296) (fun _ h9 => h9) rfl (by decide +kernel) rfl rfl (Nat.le_of_ble_eq_true rfl) d_Layout_arrange_2 (fun H locs hP hD hS => ?_)
  have hP : va_P D CL [(l0, .inr (3, [.int ln, .int lds, .int ltb, .ref lo, .ref lp, .ref lt, .ref lb, .ref le, .int 0, .int ld])), (lo, .inl (cI, 40, .inl fo)), (lp, .inl (cI, 12, .inl fp)), (lt, .inl (cI, 40, .inl ft))] H := hP
  have hD : va_D A [(l0, .inr (3, [.int ln, .int lds, .int ltb, .ref lo, .ref lp, .ref lt, .ref lb, .ref le, .int 0, .int ld])), (lo, .inl (cI, 40, .inl fo)), (lp, .inl (cI, 12, .inl fp)), (lt, .inl (cI, 40, .inl ft))] := hD
  refine lv_iconst (v := 1) hx hb d_Layout_arrange_5 (by decide) ?_
  refine lv_istore_n hx hb d_Layout_arrange_6 rfl hl (by decide) rfl (fun ls hl => ?_)
  have hl : lv_has ls 3 [(2, .int 1), (0, .ref l0), (1, .ref tr)] := hl
  refine zz_labM (B := fun (lk : Nat) (K : Heap → List Loc → Array Slot → List Value → Prop) => ∀ (kx : Int32) (llc : Int32) (lfo : Nat → Int32) (H : Heap) (locs : List Loc) (ls : Array Slot), lk = (50 - kx.toInt).toNat → (1 ≤ kx.toInt ∧ kx.toInt ≤ 41 ∧ 0 ≤ llc.toInt ∧ llc.toInt ≤ kx.toInt - 1 ∧ (kx.toInt ≤ cn.toInt ∨ kx.toInt = 1)) → (OrdOK llc.toInt cm lfo) → (OrdC ln.toInt ng nn nf lfo llc.toNatClampNeg kx.toNatClampNeg) → va_P D CL [(l0, .inr (3, [.int ln, .int lds, .int ltb, .ref lo, .ref lp, .ref lt, .ref lb, .ref le, .int llc, .int ld])), (lo, .inl (cI, 40, .inl lfo)), (lp, .inl (cI, 12, .inl fp)), (lt, .inl (cI, 40, .inl ft))] H → va_D A [(l0, .inr (3, [.int ln, .int lds, .int ltb, .ref lo, .ref lp, .ref lt, .ref lb, .ref le, .int llc, .int ld])), (lo, .inl (cI, 40, .inl lfo)), (lp, .inl (cI, 12, .inl fp)), (lt, .inl (cI, 40, .inl ft))] → va_S A s.heap H locs → lv_has ls 3 [(0, .ref l0), (1, .ref tr), (2, .int kx)] → K H locs ls []) 7 ?_ ?_
  · skip
    intro lk ih7 kx llc lfo H locs ls hm7 e1 e2 e3 hP hD hS hl
    refine lv_iload_n hx hb d_Layout_arrange_7 rfl (lv_at hl 2 rfl) ?_
    refine lv_aload_n hx hb d_Layout_arrange_8 rfl (lv_at hl 1 rfl) ?_
    have hPR := RO_at hZr hS
    refine va_getN (D := D) (ci := 10) (v := .int cn) (C := "DiscMaker$Tree") (T := F_Tree) (N := 3) hx hb ht9 in_Tree hown hK hPR 0 rfl rfl 1 (by decide) (va_Nw.use rfl (hN _ k240)) (fun _ h9 => h9) rfl d_Layout_arrange_9 ?_
    refine lv_icmp_ge (tgt := 52) hx hb d_Layout_arrange_12 (by decide) (fun h_9 => ?_) (fun h_9 => ?_)
    · skip
      have g12_9 : cn.toInt ≤ kx.toInt := (i_le rfl rfl).mp h_9
      have hkxc := i_cl (a := kx) (by omega)
      rw [show kx.toNatClampNeg = cm by omega] at e3
      have hd0 : dt 0 0 = 0 := by rw [(hdt 0 (by omega)).1.1]; exact hr0
      refine lv_aload_n hx hb d_Layout_arrange_52 rfl (lv_at hl 0 rfl) ?_
      refine lv_iconst (v := 0) hx hb d_Layout_arrange_53 (by decide) ?_
      refine va_put (D := D) (ci := 3) (v := .int 0) (ty := .int) (C := "DiscMaker$Layout") (T := F_Layout) (N := 10) hx hb ht9 in_Layout t_Layout t_Layout_ok n_Layout hown hK hP hD hS 0 rfl rfl 9 (by decide) (ht9 _ k298) (fun _ h9 => h9) rfl (by decide +kernel) rfl rfl (Nat.le_of_ble_eq_true rfl) d_Layout_arrange_54 (fun H locs hP hD hS => ?_)
      have hP : va_P D CL [(l0, .inr (3, [.int ln, .int lds, .int ltb, .ref lo, .ref lp, .ref lt, .ref lb, .ref le, .int llc, .int 0])), (lo, .inl (cI, 40, .inl lfo)), (lp, .inl (cI, 12, .inl fp)), (lt, .inl (cI, 40, .inl ft))] H := hP
      have hD : va_D A [(l0, .inr (3, [.int ln, .int lds, .int ltb, .ref lo, .ref lp, .ref lt, .ref lb, .ref le, .int llc, .int 0])), (lo, .inl (cI, 40, .inl lfo)), (lp, .inl (cI, 12, .inl fp)), (lt, .inl (cI, 40, .inl ft))] := hD
      refine lv_aload_n hx hb d_Layout_arrange_57 rfl (lv_at hl 0 rfl) ?_
      refine lv_iconst (v := 0) hx hb d_Layout_arrange_58 (by decide) ?_
      have hPc := hP.sub (ws' := [(l0, .inr (3, [.int ln, .int lds, .int ltb, .ref lo, .ref lp, .ref lt, .ref lb, .ref le, .int llc, .int 0])), (lp, .inl (cI, 12, .inl fp)), (lt, .inl (cI, 40, .inl ft))]) [0, 2, 3] rfl
      have hDc := hD.sub (ws' := [(l0, .inr (3, [.int ln, .int lds, .int ltb, .ref lo, .ref lp, .ref lt, .ref lb, .ref le, .int llc, .int 0])), (lp, .inl (cI, 12, .inl fp)), (lt, .inl (cI, 40, .inl ft))]) [0, 2, 3] (by decide +kernel) rfl
      have hFc := va_free (wc := [(l0, .inr (3, [.int ln, .int lds, .int ltb, .ref lo, .ref lp, .ref lt, .ref lb, .ref le, .int llc, .int 0])), (lp, .inl (cI, 12, .inl fp)), (lt, .inl (cI, 40, .inl ft))]) hD hS hA [0, 2, 3] rfl
      have hkc : 0 ≤ 0 := by decide
      have hks : 0 ≤ 0 := by decide
      refine va_callv (va_runV (C := "DiscMaker$Layout") (As := [.int 0]) (rest := []) ⟨hx, hb, hml, hown, hts⟩ (c3_addDirectoryF l D cB cI cJ cZ cN cF H.size l0 lo lp lt lb le ln lds ltb llc 0 fp ft cm 0 (by (try dsimp only); first | assumption | omega | trivial) (by (try dsimp only); first | assumption | omega | trivial) (by (try dsimp only); first | assumption | omega | trivial) (fun j hj => absurd hj (by omega))) (cwV 1 hts (lg_goodV k956 k958 k14 k121 kc_Layout_addDirectory) rfl rfl rfl (by decide +kernel) ⟨Nat.le_of_ble_eq_true rfl, Nat.le_of_ble_eq_true rfl⟩) ⟨fun a U g mk q => by obtain ⟨q0, q1, qP, qK, qN, qD⟩ := q; exact ⟨q0, q1, qP, va_K.moved (u := U) (U := U.calling g mk a) (Vm.Alike.refl U.vm) qK, qN.calling, qD⟩, va_recv hK hP (ci := 3) (q0 := 0) rfl rfl, fun U hU hW => ⟨rfl, by rw [hU], by rw [hU]; exact hPc, va_K.moved hW.alike hK, NN.warm hW hN, hDc.weaken (fun _ _ _ _ => trivial)⟩⟩ rfl rfl hl.1 rfl (lv_room (Nat.le_of_ble_eq_true rfl)) d_Layout_arrange_59 ⟨hkc, hks⟩) hS (fun q _ h => hFc q h) hFc (fun u t H1 locs ht hvm hp_r1 hB hz1 hk1 hS => ?_)
      obtain ⟨ld2_2, gp_3, gt_4⟩ := u
      obtain ⟨hP1, hD1⟩ := hB
      rw [ht] at hP1
      obtain ⟨hP, hD⟩ := va_join (wr := [(lo, .inl (cI, 40, .inl lfo))]) (w1 := [(l0, .inr (3, [.int ln, .int lds, .int ltb, .ref lo, .ref lp, .ref lt, .ref lb, .ref le, .int llc, .int ld2_2])), (lp, .inl (cI, 12, .inl gp_3)), (lt, .inl (cI, 40, .inl gt_4))]) hP hD [0, 2, 3] [1] rfl rfl (by decide +kernel) (by decide +kernel) hk1 hFc hP1 hD1
      clear hPc hDc hFc hP1 hD1 hk1 hz1 hkc hks
      generalize H1 = H at hP hS ⊢
      have hP : va_P D CL [(lo, .inl (cI, 40, .inl lfo)), (l0, .inr (3, [.int ln, .int lds, .int ltb, .ref lo, .ref lp, .ref lt, .ref lb, .ref le, .int llc, .int ld2_2])), (lp, .inl (cI, 12, .inl gp_3)), (lt, .inl (cI, 40, .inl gt_4))] H := hP
      have hD : va_D A [(lo, .inl (cI, 40, .inl lfo)), (l0, .inr (3, [.int ln, .int lds, .int ltb, .ref lo, .ref lp, .ref lt, .ref lb, .ref le, .int llc, .int ld2_2])), (lp, .inl (cI, 12, .inl gp_3)), (lt, .inl (cI, 40, .inl gt_4))] := hD
      try dsimp only at hp_r1
      obtain ⟨hld2_5, hpo2_6, hup_7, htn_8⟩ := hp_r1
      try rw [L_0] at hld2_5
      try rw [L_0] at hup_7
      try rw [L_0] at htn_8
      refine lv_iconst (v := 0) hx hb d_Layout_arrange_62 (by decide) ?_
      refine lv_istore_n hx hb d_Layout_arrange_63 rfl hl (by decide) rfl (fun ls hl => ?_)
      have hl : lv_has ls 3 [(2, .int 0), (0, .ref l0), (1, .ref tr)] := hl
      refine zz_labM (B := fun (lk : Nat) (K : Heap → List Loc → Array Slot → List Value → Prop) => ∀ (ky : Int32) (lld : Int32) (lfp : Nat → Int32) (lft : Nat → Int32) (H : Heap) (locs : List Loc) (ls : Array Slot), lk = (20 - ky.toInt).toNat → (0 ≤ ky.toInt ∧ ky.toInt ≤ 12) → (1 ≤ lld.toInt ∧ lld.toInt ≤ 12) → (OrdOK lld.toInt cm lfp) → (QR (qF (dt 5) (dt 0) (oN lfo) llc.toNatClampNeg ky.toNatClampNeg) lfp 0 lld.toNatClampNeg) → (TnL (qF (dt 5) (dt 0) (oN lfo) llc.toNatClampNeg ky.toNatClampNeg) lft) → va_P D CL [(lo, .inl (cI, 40, .inl lfo)), (l0, .inr (3, [.int ln, .int lds, .int ltb, .ref lo, .ref lp, .ref lt, .ref lb, .ref le, .int llc, .int lld])), (lp, .inl (cI, 12, .inl lfp)), (lt, .inl (cI, 40, .inl lft))] H → va_D A [(lo, .inl (cI, 40, .inl lfo)), (l0, .inr (3, [.int ln, .int lds, .int ltb, .ref lo, .ref lp, .ref lt, .ref lb, .ref le, .int llc, .int lld])), (lp, .inl (cI, 12, .inl lfp)), (lt, .inl (cI, 40, .inl lft))] → va_S A s.heap H locs → lv_has ls 3 [(0, .ref l0), (1, .ref tr), (2, .int ky)] → K H locs ls []) 64 ?_ ?_
      · skip
        intro lk ih64 ky lld lfp lft H locs ls hm64 e5 e6 e7 e8 e9 hP hD hS hl
        have hlldc := i_cl (a := lld) (by omega)
        have hkyc := i_cl (a := ky) (by omega)
        have hllcc := i_cl (a := llc) (by omega)
        refine lv_iload_n hx hb d_Layout_arrange_64 rfl (lv_at hl 2 rfl) ?_
        refine lv_aload_n hx hb d_Layout_arrange_65 rfl (lv_at hl 0 rfl) ?_
        refine va_get (D := D) (ci := 3) (v := .int lld) (C := "DiscMaker$Layout") (T := F_Layout) (N := 10) hx hb ht9 in_Layout hown hK hP 1 rfl rfl 9 (by decide) (ht9 _ k298) (fun _ h9 => h9) rfl d_Layout_arrange_66 ?_
        refine lv_icmp_ge (tgt := 95) hx hb d_Layout_arrange_69 (by decide) (fun h_9 => ?_) (fun h_9 => ?_)
        · skip
          have g69_21 : lld.toInt ≤ ky.toInt := (i_le rfl rfl).mp h_9
          have hP9 := hP.sub (ws' := [(l0, .inr (3, [.int ln, .int lds, .int ltb, .ref lo, .ref lp, .ref lt, .ref lb, .ref le, .int llc, .int lld])), (lo, .inl (cI, 40, .inl lfo)), (lp, .inl (cI, 12, .inl lfp)), (lt, .inl (cI, 40, .inl lft))]) [1, 0, 2, 3] rfl
          have hD9 := hD.sub (ws' := [(l0, .inr (3, [.int ln, .int lds, .int ltb, .ref lo, .ref lp, .ref lt, .ref lb, .ref le, .int llc, .int lld])), (lo, .inl (cI, 40, .inl lfo)), (lp, .inl (cI, 12, .inl lfp)), (lt, .inl (cI, 40, .inl lft))]) [1, 0, 2, 3] (by decide +kernel) rfl
          exact W.vret hx hb hr (fun t ht hW => ⟨⟨(llc, lld, lfo, lfp, lft), rfl, ⟨(by (try dsimp only); first | assumption | omega | trivial), e2, (by (try dsimp only); first | assumption | omega | trivial), e7, e3, (by (try dsimp only); have h7 := qF_end (par := dt 5) (kd := dt 0) (o := oN lfo) (c := llc.toNatClampNeg) (i := ky.toNatClampNeg) (by rw [e8.1]; omega) (40 - ky.toNatClampNeg); rw [show ky.toNatClampNeg + (40 - ky.toNatClampNeg) = 40 by omega] at h7; rw [h7]; exact e8), (by (try dsimp only); have h7 := qF_end (par := dt 5) (kd := dt 0) (o := oN lfo) (c := llc.toNatClampNeg) (i := ky.toNatClampNeg) (by rw [e8.1]; omega) (40 - ky.toNatClampNeg); rw [show ky.toNatClampNeg + (40 - ky.toNatClampNeg) = 40 by omega] at h7; rw [h7]; exact e9)⟩, by rw [ht]; exact hP9, hD9⟩, hS.F ht⟩) hS.2.2 d_Layout_arrange_95
        · skip
          have g69_21 : ¬ lld.toInt ≤ ky.toInt := fun h8 => h_9 ((i_le rfl rfl).mpr h8)
          refine lv_iload_n hx hb d_Layout_arrange_72 rfl (lv_at hl 2 rfl) ?_
          refine lv_bipush (v := 12) hx hb d_Layout_arrange_73 (by decide) ?_
          refine lv_icmp_ge (tgt := 95) hx hb d_Layout_arrange_75 (by decide) (fun h_9 => ?_) (fun h_9 => ?_)
          · skip
            have g75_25 : 12 ≤ ky.toInt := (i_le (by decide) rfl).mp h_9
            have hP9 := hP.sub (ws' := [(l0, .inr (3, [.int ln, .int lds, .int ltb, .ref lo, .ref lp, .ref lt, .ref lb, .ref le, .int llc, .int lld])), (lo, .inl (cI, 40, .inl lfo)), (lp, .inl (cI, 12, .inl lfp)), (lt, .inl (cI, 40, .inl lft))]) [1, 0, 2, 3] rfl
            have hD9 := hD.sub (ws' := [(l0, .inr (3, [.int ln, .int lds, .int ltb, .ref lo, .ref lp, .ref lt, .ref lb, .ref le, .int llc, .int lld])), (lo, .inl (cI, 40, .inl lfo)), (lp, .inl (cI, 12, .inl lfp)), (lt, .inl (cI, 40, .inl lft))]) [1, 0, 2, 3] (by decide +kernel) rfl
            exact W.vret hx hb hr (fun t ht hW => ⟨⟨(llc, lld, lfo, lfp, lft), rfl, ⟨(by (try dsimp only); first | assumption | omega | trivial), e2, (by (try dsimp only); first | assumption | omega | trivial), e7, e3, (by (try dsimp only); have h7 := qF_end (par := dt 5) (kd := dt 0) (o := oN lfo) (c := llc.toNatClampNeg) (i := ky.toNatClampNeg) (by rw [e8.1]; omega) (40 - ky.toNatClampNeg); rw [show ky.toNatClampNeg + (40 - ky.toNatClampNeg) = 40 by omega] at h7; rw [h7]; exact e8), (by (try dsimp only); have h7 := qF_end (par := dt 5) (kd := dt 0) (o := oN lfo) (c := llc.toNatClampNeg) (i := ky.toNatClampNeg) (by rw [e8.1]; omega) (40 - ky.toNatClampNeg); rw [show ky.toNatClampNeg + (40 - ky.toNatClampNeg) = 40 by omega] at h7; rw [h7]; exact e9)⟩, by rw [ht]; exact hP9, hD9⟩, hS.F ht⟩) hS.2.2 d_Layout_arrange_95
          · skip
            have g75_25 : ¬ 12 ≤ ky.toInt := fun h8 => h_9 ((i_le (by decide) rfl).mpr h8)
            refine lv_aload_n hx hb d_Layout_arrange_78 rfl (lv_at hl 0 rfl) ?_
            refine lv_aload_n hx hb d_Layout_arrange_79 rfl (lv_at hl 1 rfl) ?_
            refine lv_aload_n hx hb d_Layout_arrange_80 rfl (lv_at hl 0 rfl) ?_
            refine va_get (D := D) (ci := 3) (v := .ref lp) (C := "DiscMaker$Layout") (T := F_Layout) (N := 10) hx hb ht9 in_Layout hown hK hP 1 rfl rfl 4 (by decide) (ht9 _ k288) (fun _ h9 => h9) rfl d_Layout_arrange_81 ?_
            refine lv_iload_n hx hb d_Layout_arrange_84 rfl (lv_at hl 2 rfl) ?_
            refine va_iald hx hb hK hP 2 1 rfl rfl (vp_in_iff.mpr ⟨by omega, by omega⟩) d_Layout_arrange_85 ?_
            refine lv_topi (fun v9 e_v9 => ?_)
            have hpy : v9.toInt = (((qF (dt 5) (dt 0) (oN lfo) llc.toNatClampNeg ky.toNatClampNeg).getD ky.toNatClampNeg 0 : Nat) : Int) := by have h7 := e8.2 ky.toNatClampNeg (by have h6 := i_cl (a := ky) (by omega); omega); rw [Nat.zero_add] at h7; rw [e_v9]; exact h7
            have hPc := hP.sub (ws' := [(l0, .inr (3, [.int ln, .int lds, .int ltb, .ref lo, .ref lp, .ref lt, .ref lb, .ref le, .int llc, .int lld])), (lo, .inl (cI, 40, .inl lfo)), (lp, .inl (cI, 12, .inl lfp)), (lt, .inl (cI, 40, .inl lft))]) [1, 0, 2, 3] rfl
            have hDc := hD.sub (ws' := [(l0, .inr (3, [.int ln, .int lds, .int ltb, .ref lo, .ref lp, .ref lt, .ref lb, .ref le, .int llc, .int lld])), (lo, .inl (cI, 40, .inl lfo)), (lp, .inl (cI, 12, .inl lfp)), (lt, .inl (cI, 40, .inl lft))]) [1, 0, 2, 3] (by decide +kernel) rfl
            have hFc := va_free (wc := [(l0, .inr (3, [.int ln, .int lds, .int ltb, .ref lo, .ref lp, .ref lt, .ref lb, .ref le, .int llc, .int lld])), (lo, .inl (cI, 40, .inl lfo)), (lp, .inl (cI, 12, .inl lfp)), (lt, .inl (cI, 40, .inl lft))]) hD hS hA [1, 0, 2, 3] rfl
            have hkc : 0 ≤ 0 := by decide
            have hks : 0 ≤ 0 := by decide
            refine va_callv (va_runV (C := "DiscMaker$Layout") (As := [.ref tr, .int v9]) (rest := []) ⟨hx, hb, hml, hown, hts⟩ (c3_addDirectoriesInF l D cB cI cJ cZ cN cF H.size l0 lo lp lt lb le ln lds ltb llc lld tr ta cn dr na ng nn nf cm lfo lfp lft dt (qF (dt 5) (dt 0) (oN lfo) llc.toNatClampNeg ky.toNatClampNeg) v9 (by (try dsimp only); first | assumption | omega | trivial) (by (try dsimp only); first | assumption | omega | trivial) (by (try dsimp only); first | assumption | omega | trivial) (by (try dsimp only); first | assumption | omega | trivial) (e2) (hdt) (e8) (fun j hj => by rw [hpy]; exact chD_12 (fun i hi => ⟨(e3.1 i hi).1, (e3.1 i hi).2.1⟩) e3.2.2.2 (by omega) hd0 h12 (by rw [e8.1]; omega) hj) (e9) (fun j hj => by rw [hpy]; exact NdL_ch (fun i hi => ⟨(e3.1 i hi).1, (e3.1 i hi).2.1⟩) e3.2.2.2 (by omega) hd0 (by rw [e8.1]; omega) hj) (by (try dsimp only); first | assumption | omega | trivial) (e7)) (cwV 2 hts (lg_goodV k960 k962 k15 k121 kc_Layout_addDirectoriesIn) rfl rfl rfl (by decide +kernel) ⟨Nat.le_of_ble_eq_true rfl, Nat.le_of_ble_eq_true rfl⟩) ⟨fun a U g mk q => by obtain ⟨q0, q1, qP, qK, qN, qD, qZ0⟩ := q; exact ⟨q0, q1, qP, va_K.moved (u := U) (U := U.calling g mk a) (Vm.Alike.refl U.vm) qK, qN.calling, qD, RO_blind qZ0⟩, va_recv hK hP (ci := 3) (q0 := 1) rfl rfl, fun U hU hW => ⟨rfl, by rw [hU], by rw [hU]; exact hPc, va_K.moved hW.alike hK, NN.warm hW hN, hDc.weaken (fun _ _ _ _ => trivial), (RO_app (w1 := [(tr, .inr (10, [.ref ta, .int cn, .int dr]))]) (w2 := (([(ta, .inl (cN, 40, .inr (.inr (.inr (.inr (rowF na cm))))))] : va_W) ++ (PL (NC cB na ng nn nf) cm))) (RO_pass (RO_one hZr 0 rfl) hS hFc hU) (RO_app (w1 := [(ta, .inl (cN, 40, .inr (.inr (.inr (.inr (rowF na cm))))))]) (w2 := (PL (NC cB na ng nn nf) cm)) (RO_pass (RO_one hZr 1 rfl) hS hFc hU) (RO_pass (RO_tail (X := [(tr, .inr (10, [.ref ta, .int cn, .int dr])), (ta, .inl (cN, 40, .inr (.inr (.inr (.inr (rowF na cm))))))]) hZr) hS hFc hU)))⟩⟩ rfl rfl hl.1 rfl (lv_room (Nat.le_of_ble_eq_true rfl)) d_Layout_arrange_86 ⟨hkc, hks⟩) hS (fun q _ h => hFc q h) hFc (fun u t H1 locs ht hvm hp_r10 hB hz1 hk1 hS => ?_)
            obtain ⟨ld2_11, gp_12, gt_13⟩ := u
            obtain ⟨hP1, hD1⟩ := hB
            rw [ht] at hP1
            obtain ⟨hP, hD⟩ := va_join (wr := []) (w1 := [(l0, .inr (3, [.int ln, .int lds, .int ltb, .ref lo, .ref lp, .ref lt, .ref lb, .ref le, .int llc, .int ld2_11])), (lo, .inl (cI, 40, .inl lfo)), (lp, .inl (cI, 12, .inl gp_12)), (lt, .inl (cI, 40, .inl gt_13))]) hP hD [1, 0, 2, 3] [] rfl rfl (by decide +kernel) (by decide +kernel) hk1 hFc hP1 hD1
            clear hPc hDc hFc hP1 hD1 hk1 hz1 hkc hks
            generalize H1 = H at hP hS ⊢
            have hP : va_P D CL [(l0, .inr (3, [.int ln, .int lds, .int ltb, .ref lo, .ref lp, .ref lt, .ref lb, .ref le, .int llc, .int ld2_11])), (lo, .inl (cI, 40, .inl lfo)), (lp, .inl (cI, 12, .inl gp_12)), (lt, .inl (cI, 40, .inl gt_13))] H := hP
            have hD : va_D A [(l0, .inr (3, [.int ln, .int lds, .int ltb, .ref lo, .ref lp, .ref lt, .ref lb, .ref le, .int llc, .int ld2_11])), (lo, .inl (cI, 40, .inl lfo)), (lp, .inl (cI, 12, .inl gp_12)), (lt, .inl (cI, 40, .inl gt_13))] := hD
            try dsimp only at hp_r10
            obtain ⟨hld2_14, hpo2_15, hQ2_16, hT2_17⟩ := hp_r10
            obtain ⟨v18, e_v18⟩ : ∃ z : Int32, z = ky + 1 := ⟨_, rfl⟩
            refine lv_iinc (v := v18) hx hb d_Layout_arrange_89 hl (k := 2) rfl e_v18.symm (by decide +kernel) rfl (fun ls hl => ?_)
            have t_v18 : v18.toInt = ky.toInt + 1 := by rw [e_v18]; exact i_add rfl (by decide) (by omega) (by omega)
            have hl : lv_has ls 3 [(2, .int v18), (0, .ref l0), (1, .ref tr)] := hl
            refine lv_goto (tgt := 64) hx hb d_Layout_arrange_92 (by decide) ?_
            have hP := hP.sub (ws' := [(lo, .inl (cI, 40, .inl lfo)), (l0, .inr (3, [.int ln, .int lds, .int ltb, .ref lo, .ref lp, .ref lt, .ref lb, .ref le, .int llc, .int ld2_11])), (lp, .inl (cI, 12, .inl gp_12)), (lt, .inl (cI, 40, .inl gt_13))]) [1, 0, 2, 3] rfl
            have hD := hD.sub (ws' := [(lo, .inl (cI, 40, .inl lfo)), (l0, .inr (3, [.int ln, .int lds, .int ltb, .ref lo, .ref lp, .ref lt, .ref lb, .ref le, .int llc, .int ld2_11])), (lp, .inl (cI, 12, .inl gp_12)), (lt, .inl (cI, 40, .inl gt_13))]) [1, 0, 2, 3] (by decide +kernel) rfl
            have hl := lv_sub hl [1, 2, 0] rfl
            exact ih64 _ (by first | omega | (dsimp only; omega)) v18 ld2_11 gp_12 gt_13 _ _ _ rfl ((by (try dsimp only); first | assumption | omega | trivial)) ((by (try dsimp only); first | assumption | omega | trivial)) (hpo2_15) ((by have h7 := i_cl (a := ky) (by omega); have h6 := i_cl (a := v18) (by omega); rw [show v18.toNatClampNeg = ky.toNatClampNeg + 1 by omega, qF_go (by rw [e8.1]; omega)]; have h5 := hQ2_16; rw [hpy] at h5; exact h5)) ((by have h7 := i_cl (a := ky) (by omega); have h6 := i_cl (a := v18) (by omega); rw [show v18.toNatClampNeg = ky.toNatClampNeg + 1 by omega, qF_go (by rw [e8.1]; omega)]; have h5 := hT2_17; rw [hpy] at h5; exact h5)) hP hD hS hl
      · skip
        intro kk64
        have hP := hP.sub (ws' := [(lo, .inl (cI, 40, .inl lfo)), (l0, .inr (3, [.int ln, .int lds, .int ltb, .ref lo, .ref lp, .ref lt, .ref lb, .ref le, .int llc, .int ld2_2])), (lp, .inl (cI, 12, .inl gp_3)), (lt, .inl (cI, 40, .inl gt_4))]) [0, 1, 2, 3] rfl
        have hD := hD.sub (ws' := [(lo, .inl (cI, 40, .inl lfo)), (l0, .inr (3, [.int ln, .int lds, .int ltb, .ref lo, .ref lp, .ref lt, .ref lb, .ref le, .int llc, .int ld2_2])), (lp, .inl (cI, 12, .inl gp_3)), (lt, .inl (cI, 40, .inl gt_4))]) [0, 1, 2, 3] (by decide +kernel) rfl
        have hl := lv_sub hl [1, 2, 0] rfl
        exact kk64 _ 0 ld2_2 gp_3 gt_4 _ _ _ rfl ((by (try dsimp only); first | assumption | omega | trivial)) ((by (try dsimp only); first | assumption | omega | trivial)) (hpo2_6) ((by rw [show (0 : Int32).toNatClampNeg = 0 by decide]; rcases hup_7 with h8 | ⟨h8, h9, h10⟩ <;> first | (exfalso; omega) | (have h7 := i_cl (a := ld2_2) (by omega); rw [show ld2_2.toNatClampNeg = 1 by omega]; exact QR_1 (by rw [h10, show (0 : Int32).toNatClampNeg = 0 by decide, upd_at]; decide)))) ((by rw [show (0 : Int32).toNatClampNeg = 0 by decide]; exact TnL_1 (by rw [htn_8 (by omega), show (0 : Int32).toNatClampNeg = 0 by decide, upd_at]; rcases hup_7 with h8 | ⟨h8, h9, h10⟩ <;> omega))) hP hD hS hl
    · skip
      have g12_9 : ¬ cn.toInt ≤ kx.toInt := fun h8 => h_9 ((i_le rfl rfl).mpr h8)
      refine lv_aload_n hx hb d_Layout_arrange_15 rfl (lv_at hl 0 rfl) ?_
      refine va_get (D := D) (ci := 3) (v := .int ln) (C := "DiscMaker$Layout") (T := F_Layout) (N := 10) hx hb ht9 in_Layout hown hK hP 0 rfl rfl 0 (by decide) (ht9 _ k280) (fun _ h9 => h9) rfl d_Layout_arrange_16 ?_
      refine lv_if_eq (tgt := 35) hx hb d_Layout_arrange_19 (by decide) (fun h_9 => ?_) (fun h_9 => ?_)
      · skip
        have g19_39 : ln.toInt = 0 := (i_eq rfl (by decide)).mp h_9
        refine lv_aload_n hx hb d_Layout_arrange_35 rfl (lv_at hl 0 rfl) ?_
        refine lv_aload_n hx hb d_Layout_arrange_36 rfl (lv_at hl 1 rfl) ?_
        refine lv_aload_n hx hb d_Layout_arrange_37 rfl (lv_at hl 1 rfl) ?_
        have hPR := RO_at hZr hS
        refine va_getN (D := D) (ci := 10) (v := .ref ta) (C := "DiscMaker$Tree") (T := F_Tree) (N := 3) hx hb ht9 in_Tree hown hK hPR 0 rfl rfl 0 (by decide) (va_Nw.use rfl (hN _ k236)) (fun _ h9 => h9) rfl d_Layout_arrange_38 ?_
        refine lv_iload_n hx hb d_Layout_arrange_41 rfl (lv_at hl 2 rfl) ?_
        have hPR := RO_at hZr hS
        refine va_aldq hx hb hK hPR 1 4 rfl rfl (vp_in_iff.mpr ⟨by omega, by omega⟩) d_Layout_arrange_42 ?_
        have c_hk19 := i_cl (a := kx) (by omega)
        have hk19 : kx.toNatClampNeg < cm := by omega
        have o_hk19 := htok kx.toNatClampNeg hk19
        obtain ⟨i_hj20, hj20⟩ : ∃ j : Nat, (PL (NC cB na ng nn nf) cm)[j]? = some ((na kx.toNatClampNeg 0), .inr (5, [.int (ng kx.toNatClampNeg 0), .ref (na kx.toNatClampNeg 1), .ref (na kx.toNatClampNeg 2), .ref (na kx.toNatClampNeg 3), .int (ng kx.toNatClampNeg 1), .int (ng kx.toNatClampNeg 2), .int (ng kx.toNatClampNeg 3), .int (ng kx.toNatClampNeg 4), .int (ng kx.toNatClampNeg 5), .int (ng kx.toNatClampNeg 6), .int (ng kx.toNatClampNeg 7), .int (ng kx.toNatClampNeg 8)])) := PL_get (i := 0) hk19 rfl
        obtain ⟨i_hj21, hj21⟩ : ∃ j : Nat, (PL (NC cB na ng nn nf) cm)[j]? = some ((na kx.toNatClampNeg 1), .inl (cB, (nn kx.toNatClampNeg 1), .inl (nf kx.toNatClampNeg 1))) := PL_get (i := 1) hk19 rfl
        obtain ⟨i_hj22, hj22⟩ : ∃ j : Nat, (PL (NC cB na ng nn nf) cm)[j]? = some ((na kx.toNatClampNeg 2), .inl (cB, 11, .inl (nf kx.toNatClampNeg 2))) := PL_get (i := 2) hk19 rfl
        obtain ⟨i_hj23, hj23⟩ : ∃ j : Nat, (PL (NC cB na ng nn nf) cm)[j]? = some ((na kx.toNatClampNeg 3), .inl (cB, (nn kx.toNatClampNeg 3), .inl (nf kx.toNatClampNeg 3))) := PL_get (i := 3) hk19 rfl
        refine W.eq (g2 := F0 m 43 ls [.ref (na kx.toNatClampNeg 0), .ref tr, .ref l0]) (by rw [show rowF na cm kx.toNatClampNeg = some (na kx.toNatClampNeg 0) from rowF_some hk19]; rfl) ?_
        have hPc := hP.sub (ws' := [(l0, .inr (3, [.int ln, .int lds, .int ltb, .ref lo, .ref lp, .ref lt, .ref lb, .ref le, .int llc, .int ld])), (lo, .inl (cI, 40, .inl lfo))]) [0, 1] rfl
        have hDc := hD.sub (ws' := [(l0, .inr (3, [.int ln, .int lds, .int ltb, .ref lo, .ref lp, .ref lt, .ref lb, .ref le, .int llc, .int ld])), (lo, .inl (cI, 40, .inl lfo))]) [0, 1] (by decide +kernel) rfl
        have hFc := va_free (wc := [(l0, .inr (3, [.int ln, .int lds, .int ltb, .ref lo, .ref lp, .ref lt, .ref lb, .ref le, .int llc, .int ld])), (lo, .inl (cI, 40, .inl lfo))]) hD hS hA [0, 1] rfl
        have hkc : 0 ≤ 0 := by decide
        have hks : 0 ≤ 0 := by decide
        refine va_callv (va_runV (C := "DiscMaker$Layout") (As := [.ref tr, .ref (na kx.toNatClampNeg 0)]) (rest := []) ⟨hx, hb, hml, hown, hts⟩ (c3_insert l D cB cI cJ cZ cN cF H.size l0 lo lp lt lb le ln lds ltb llc ld tr ta cn dr na ng nn nf cm (na kx.toNatClampNeg 0) (na kx.toNatClampNeg 1) (na kx.toNatClampNeg 2) (na kx.toNatClampNeg 3) (ng kx.toNatClampNeg 0) (ng kx.toNatClampNeg 1) (ng kx.toNatClampNeg 2) (ng kx.toNatClampNeg 3) (ng kx.toNatClampNeg 4) (ng kx.toNatClampNeg 5) (ng kx.toNatClampNeg 6) (ng kx.toNatClampNeg 7) (ng kx.toNatClampNeg 8) (nn kx.toNatClampNeg 1) (nf kx.toNatClampNeg 1) (nf kx.toNatClampNeg 2) lfo (by (try dsimp only); first | assumption | omega | trivial) (by (try dsimp only); first | assumption | omega | trivial) (by (try dsimp only); first | assumption | omega | trivial) (by (try dsimp only); first | assumption | omega | trivial) (e2) (by (try dsimp only); first | assumption | omega | trivial) (by (try dsimp only); first | assumption | omega | trivial) (by have h4 := htok kx.toNatClampNeg (by have h3 := i_cl (a := kx) (by omega); omega); have h5 := i_cl (a := kx) (by omega); have h6 := i_cl (a := ng kx.toNatClampNeg 1) (by omega); rw [show (ng kx.toNatClampNeg 1).toNatClampNeg = kx.toNatClampNeg by omega]; exact e3) (by have h4 := htok kx.toNatClampNeg (by have h3 := i_cl (a := kx) (by omega); omega); have h5 := i_cl (a := kx) (by omega); have h6 := i_cl (a := ng kx.toNatClampNeg 1) (by omega); rw [show (ng kx.toNatClampNeg 1).toNatClampNeg = kx.toNatClampNeg by omega]; unfold Cnd; omega) (by have h4 := htok kx.toNatClampNeg (by have h3 := i_cl (a := kx) (by omega); omega); have h5 := i_cl (a := kx) (by omega); have h6 := i_cl (a := ng kx.toNatClampNeg 1) (by omega); rw [show (ng kx.toNatClampNeg 1).toNatClampNeg = kx.toNatClampNeg by omega]; exact ⟨rfl, rfl, rfl⟩) (hnm)) (cwV 2 hts (lg_goodV k947 k949 k12 k121 kc_Layout_insert) rfl rfl rfl (by decide +kernel) ⟨Nat.le_of_ble_eq_true rfl, Nat.le_of_ble_eq_true rfl⟩) ⟨fun a U g mk q => by obtain ⟨q0, q1, qP, qK, qN, qD, qZ0⟩ := q; exact ⟨q0, q1, qP, va_K.moved (u := U) (U := U.calling g mk a) (Vm.Alike.refl U.vm) qK, qN.calling, qD, RO_blind qZ0⟩, va_recv hK hP (ci := 3) (q0 := 0) rfl rfl, fun U hU hW => ⟨rfl, by rw [hU], by rw [hU]; exact hPc, va_K.moved hW.alike hK, NN.warm hW hN, hDc.weaken (fun _ _ _ _ => trivial), (RO_app (w1 := [(tr, .inr (10, [.ref ta, .int cn, .int dr]))]) (w2 := (([(ta, .inl (cN, 40, .inr (.inr (.inr (.inr (rowF na cm)))))), ((na kx.toNatClampNeg 0), .inr (5, [.int (ng kx.toNatClampNeg 0), .ref (na kx.toNatClampNeg 1), .ref (na kx.toNatClampNeg 2), .ref (na kx.toNatClampNeg 3), .int (ng kx.toNatClampNeg 1), .int (ng kx.toNatClampNeg 2), .int (ng kx.toNatClampNeg 3), .int (ng kx.toNatClampNeg 4), .int (ng kx.toNatClampNeg 5), .int (ng kx.toNatClampNeg 6), .int (ng kx.toNatClampNeg 7), .int (ng kx.toNatClampNeg 8)])), ((na kx.toNatClampNeg 1), .inl (cB, (nn kx.toNatClampNeg 1), .inl (nf kx.toNatClampNeg 1))), ((na kx.toNatClampNeg 2), .inl (cB, 11, .inl (nf kx.toNatClampNeg 2)))] : va_W) ++ (PL (NC cB na ng nn nf) cm))) (RO_pass (RO_one hZr 0 rfl) hS hFc hU) (RO_app (w1 := [(ta, .inl (cN, 40, .inr (.inr (.inr (.inr (rowF na cm))))))]) (w2 := (([((na kx.toNatClampNeg 0), .inr (5, [.int (ng kx.toNatClampNeg 0), .ref (na kx.toNatClampNeg 1), .ref (na kx.toNatClampNeg 2), .ref (na kx.toNatClampNeg 3), .int (ng kx.toNatClampNeg 1), .int (ng kx.toNatClampNeg 2), .int (ng kx.toNatClampNeg 3), .int (ng kx.toNatClampNeg 4), .int (ng kx.toNatClampNeg 5), .int (ng kx.toNatClampNeg 6), .int (ng kx.toNatClampNeg 7), .int (ng kx.toNatClampNeg 8)])), ((na kx.toNatClampNeg 1), .inl (cB, (nn kx.toNatClampNeg 1), .inl (nf kx.toNatClampNeg 1))), ((na kx.toNatClampNeg 2), .inl (cB, 11, .inl (nf kx.toNatClampNeg 2)))] : va_W) ++ (PL (NC cB na ng nn nf) cm))) (RO_pass (RO_one hZr 1 rfl) hS hFc hU) (RO_app (w1 := [((na kx.toNatClampNeg 0), .inr (5, [.int (ng kx.toNatClampNeg 0), .ref (na kx.toNatClampNeg 1), .ref (na kx.toNatClampNeg 2), .ref (na kx.toNatClampNeg 3), .int (ng kx.toNatClampNeg 1), .int (ng kx.toNatClampNeg 2), .int (ng kx.toNatClampNeg 3), .int (ng kx.toNatClampNeg 4), .int (ng kx.toNatClampNeg 5), .int (ng kx.toNatClampNeg 6), .int (ng kx.toNatClampNeg 7), .int (ng kx.toNatClampNeg 8)]))]) (w2 := (([((na kx.toNatClampNeg 1), .inl (cB, (nn kx.toNatClampNeg 1), .inl (nf kx.toNatClampNeg 1))), ((na kx.toNatClampNeg 2), .inl (cB, 11, .inl (nf kx.toNatClampNeg 2)))] : va_W) ++ (PL (NC cB na ng nn nf) cm))) (RO_pass (RO_one hZr _ (pix (X := [(tr, .inr (10, [.ref ta, .int cn, .int dr])), (ta, .inl (cN, 40, .inr (.inr (.inr (.inr (rowF na cm))))))]) hj20)) hS hFc hU) (RO_app (w1 := [((na kx.toNatClampNeg 1), .inl (cB, (nn kx.toNatClampNeg 1), .inl (nf kx.toNatClampNeg 1)))]) (w2 := (([((na kx.toNatClampNeg 2), .inl (cB, 11, .inl (nf kx.toNatClampNeg 2)))] : va_W) ++ (PL (NC cB na ng nn nf) cm))) (RO_pass (RO_one hZr _ (pix (X := [(tr, .inr (10, [.ref ta, .int cn, .int dr])), (ta, .inl (cN, 40, .inr (.inr (.inr (.inr (rowF na cm))))))]) hj21)) hS hFc hU) (RO_app (w1 := [((na kx.toNatClampNeg 2), .inl (cB, 11, .inl (nf kx.toNatClampNeg 2)))]) (w2 := (PL (NC cB na ng nn nf) cm)) (RO_pass (RO_one hZr _ (pix (X := [(tr, .inr (10, [.ref ta, .int cn, .int dr])), (ta, .inl (cN, 40, .inr (.inr (.inr (.inr (rowF na cm))))))]) hj22)) hS hFc hU) (RO_pass (RO_tail (X := [(tr, .inr (10, [.ref ta, .int cn, .int dr])), (ta, .inl (cN, 40, .inr (.inr (.inr (.inr (rowF na cm))))))]) hZr) hS hFc hU))))))⟩⟩ rfl rfl hl.1 rfl (lv_room (Nat.le_of_ble_eq_true rfl)) d_Layout_arrange_43 ⟨hkc, hks⟩) hS (fun q _ h => hFc q h) hFc (fun u t H1 locs ht hvm hp_r24 hB hz1 hk1 hS => ?_)
        obtain ⟨go_25, lc2_26⟩ := u
        obtain ⟨hP1, hD1⟩ := hB
        rw [ht] at hP1
        obtain ⟨hP, hD⟩ := va_join (wr := [(lp, .inl (cI, 12, .inl fp)), (lt, .inl (cI, 40, .inl ft))]) (w1 := [(l0, .inr (3, [.int ln, .int lds, .int ltb, .ref lo, .ref lp, .ref lt, .ref lb, .ref le, .int lc2_26, .int ld])), (lo, .inl (cI, 40, .inl go_25))]) hP hD [0, 1] [2, 3] rfl rfl (by decide +kernel) (by decide +kernel) hk1 hFc hP1 hD1
        clear hPc hDc hFc hP1 hD1 hk1 hz1 hkc hks
        generalize H1 = H at hP hS ⊢
        have hP : va_P D CL [(lp, .inl (cI, 12, .inl fp)), (lt, .inl (cI, 40, .inl ft)), (l0, .inr (3, [.int ln, .int lds, .int ltb, .ref lo, .ref lp, .ref lt, .ref lb, .ref le, .int lc2_26, .int ld])), (lo, .inl (cI, 40, .inl go_25))] H := hP
        have hD : va_D A [(lp, .inl (cI, 12, .inl fp)), (lt, .inl (cI, 40, .inl ft)), (l0, .inr (3, [.int ln, .int lds, .int ltb, .ref lo, .ref lp, .ref lt, .ref lb, .ref le, .int lc2_26, .int ld])), (lo, .inl (cI, 40, .inl go_25))] := hD
        try dsimp only at hp_r24
        obtain ⟨hlc2_27, hoo2_28, hor2_29⟩ := hp_r24
        obtain ⟨v30, e_v30⟩ : ∃ z : Int32, z = kx + 1 := ⟨_, rfl⟩
        refine lv_iinc (v := v30) hx hb d_Layout_arrange_46 hl (k := 2) rfl e_v30.symm (by decide +kernel) rfl (fun ls hl => ?_)
        have t_v30 : v30.toInt = kx.toInt + 1 := by rw [e_v30]; exact i_add rfl (by decide) (by omega) (by omega)
        have hl : lv_has ls 3 [(2, .int v30), (0, .ref l0), (1, .ref tr)] := hl
        refine lv_goto (tgt := 7) hx hb d_Layout_arrange_49 (by decide) ?_
        have hP := hP.sub (ws' := [(l0, .inr (3, [.int ln, .int lds, .int ltb, .ref lo, .ref lp, .ref lt, .ref lb, .ref le, .int lc2_26, .int ld])), (lo, .inl (cI, 40, .inl go_25)), (lp, .inl (cI, 12, .inl fp)), (lt, .inl (cI, 40, .inl ft))]) [2, 3, 0, 1] rfl
        have hD := hD.sub (ws' := [(l0, .inr (3, [.int ln, .int lds, .int ltb, .ref lo, .ref lp, .ref lt, .ref lb, .ref le, .int lc2_26, .int ld])), (lo, .inl (cI, 40, .inl go_25)), (lp, .inl (cI, 12, .inl fp)), (lt, .inl (cI, 40, .inl ft))]) [2, 3, 0, 1] (by decide +kernel) rfl
        have hl := lv_sub hl [1, 2, 0] rfl
        exact ih7 _ (by first | omega | (dsimp only; omega)) v30 lc2_26 go_25 _ _ _ rfl ((by (try dsimp only); first | assumption | omega | trivial)) (hoo2_28) ((by have h7 := i_cl (a := kx) (by omega); have h6 := i_cl (a := v30) (by omega); rw [show v30.toNatClampNeg = kx.toNatClampNeg + 1 by omega]; have h5 := hor2_29; rw [show (ng kx.toNatClampNeg 1).toNatClampNeg = kx.toNatClampNeg by (have h4 := i_cl (a := ng kx.toNatClampNeg 1) (by omega); omega)] at h5; exact h5)) hP hD hS hl
      · skip
        have g19_39 : ¬ ln.toInt = 0 := fun h8 => h_9 ((i_eq rfl (by decide)).mpr h8)
        refine lv_aload_n hx hb d_Layout_arrange_22 rfl (lv_at hl 1 rfl) ?_
        have hPR := RO_at hZr hS
        refine va_getN (D := D) (ci := 10) (v := .ref ta) (C := "DiscMaker$Tree") (T := F_Tree) (N := 3) hx hb ht9 in_Tree hown hK hPR 0 rfl rfl 0 (by decide) (va_Nw.use rfl (hN _ k236)) (fun _ h9 => h9) rfl d_Layout_arrange_23 ?_
        refine lv_iload_n hx hb d_Layout_arrange_26 rfl (lv_at hl 2 rfl) ?_
        have hPR := RO_at hZr hS
        refine va_aldq hx hb hK hPR 1 4 rfl rfl (vp_in_iff.mpr ⟨by omega, by omega⟩) d_Layout_arrange_27 ?_
        have c_hk31 := i_cl (a := kx) (by omega)
        have hk31 : kx.toNatClampNeg < cm := by omega
        have o_hk31 := htok kx.toNatClampNeg hk31
        obtain ⟨i_hj32, hj32⟩ : ∃ j : Nat, (PL (NC cB na ng nn nf) cm)[j]? = some ((na kx.toNatClampNeg 0), .inr (5, [.int (ng kx.toNatClampNeg 0), .ref (na kx.toNatClampNeg 1), .ref (na kx.toNatClampNeg 2), .ref (na kx.toNatClampNeg 3), .int (ng kx.toNatClampNeg 1), .int (ng kx.toNatClampNeg 2), .int (ng kx.toNatClampNeg 3), .int (ng kx.toNatClampNeg 4), .int (ng kx.toNatClampNeg 5), .int (ng kx.toNatClampNeg 6), .int (ng kx.toNatClampNeg 7), .int (ng kx.toNatClampNeg 8)])) := PL_get (i := 0) hk31 rfl
        obtain ⟨i_hj33, hj33⟩ : ∃ j : Nat, (PL (NC cB na ng nn nf) cm)[j]? = some ((na kx.toNatClampNeg 1), .inl (cB, (nn kx.toNatClampNeg 1), .inl (nf kx.toNatClampNeg 1))) := PL_get (i := 1) hk31 rfl
        obtain ⟨i_hj34, hj34⟩ : ∃ j : Nat, (PL (NC cB na ng nn nf) cm)[j]? = some ((na kx.toNatClampNeg 2), .inl (cB, 11, .inl (nf kx.toNatClampNeg 2))) := PL_get (i := 2) hk31 rfl
        obtain ⟨i_hj35, hj35⟩ : ∃ j : Nat, (PL (NC cB na ng nn nf) cm)[j]? = some ((na kx.toNatClampNeg 3), .inl (cB, (nn kx.toNatClampNeg 3), .inl (nf kx.toNatClampNeg 3))) := PL_get (i := 3) hk31 rfl
        refine W.eq (g2 := F0 m 28 ls [.ref (na kx.toNatClampNeg 0)]) (by rw [show rowF na cm kx.toNatClampNeg = some (na kx.toNatClampNeg 0) from rowF_some hk31]; rfl) ?_
        have hPR := RO_at hZr hS
        refine va_getN (D := D) (ci := 5) (v := .int (ng kx.toNatClampNeg 0)) (C := "DiscMaker$Node") (T := F_Node) (N := 12) hx hb ht9 in_Node hown hK hPR _ (pix (X := [(tr, .inr (10, [.ref ta, .int cn, .int dr])), (ta, .inl (cN, 40, .inr (.inr (.inr (.inr (rowF na cm))))))]) hj32) rfl 0 (by decide) (va_Nw.use rfl (hN _ k179)) (fun _ h9 => h9) rfl d_Layout_arrange_28 ?_
        refine lv_iconst (v := 2) hx hb d_Layout_arrange_31 (by decide) ?_
        refine lv_icmp_eq (tgt := 46) hx hb d_Layout_arrange_32 (by decide) (fun h_9 => ?_) (fun h_9 => ?_)
        · skip
          have g32_56 : (ng kx.toNatClampNeg 0).toInt = 2 := (i_eq rfl (by decide)).mp h_9
          obtain ⟨v36, e_v36⟩ : ∃ z : Int32, z = kx + 1 := ⟨_, rfl⟩
          refine lv_iinc (v := v36) hx hb d_Layout_arrange_46 hl (k := 2) rfl e_v36.symm (by decide +kernel) rfl (fun ls hl => ?_)
          have t_v36 : v36.toInt = kx.toInt + 1 := by rw [e_v36]; exact i_add rfl (by decide) (by omega) (by omega)
          have hl : lv_has ls 3 [(2, .int v36), (0, .ref l0), (1, .ref tr)] := hl
          refine lv_goto (tgt := 7) hx hb d_Layout_arrange_49 (by decide) ?_
          have hP := hP.sub (ws' := [(l0, .inr (3, [.int ln, .int lds, .int ltb, .ref lo, .ref lp, .ref lt, .ref lb, .ref le, .int llc, .int ld])), (lo, .inl (cI, 40, .inl lfo)), (lp, .inl (cI, 12, .inl fp)), (lt, .inl (cI, 40, .inl ft))]) [0, 1, 2, 3] rfl
          have hD := hD.sub (ws' := [(l0, .inr (3, [.int ln, .int lds, .int ltb, .ref lo, .ref lp, .ref lt, .ref lb, .ref le, .int llc, .int ld])), (lo, .inl (cI, 40, .inl lfo)), (lp, .inl (cI, 12, .inl fp)), (lt, .inl (cI, 40, .inl ft))]) [0, 1, 2, 3] (by decide +kernel) rfl
          have hl := lv_sub hl [1, 2, 0] rfl
          exact ih7 _ (by first | omega | (dsimp only; omega)) v36 llc lfo _ _ _ rfl ((by (try dsimp only); first | assumption | omega | trivial)) (e2) ((by have h7 := i_cl (a := kx) (by omega); have h6 := i_cl (a := v36) (by omega); rw [show v36.toNatClampNeg = kx.toNatClampNeg + 1 by omega]; exact OrdP_skip e3 (fun h5 => by unfold Cnd at h5; omega))) hP hD hS hl
        · skip
          have g32_56 : ¬ (ng kx.toNatClampNeg 0).toInt = 2 := fun h8 => h_9 ((i_eq rfl (by decide)).mpr h8)
          refine lv_aload_n hx hb d_Layout_arrange_35 rfl (lv_at hl 0 rfl) ?_
          refine lv_aload_n hx hb d_Layout_arrange_36 rfl (lv_at hl 1 rfl) ?_
          refine lv_aload_n hx hb d_Layout_arrange_37 rfl (lv_at hl 1 rfl) ?_
          have hPR := RO_at hZr hS
          refine va_getN (D := D) (ci := 10) (v := .ref ta) (C := "DiscMaker$Tree") (T := F_Tree) (N := 3) hx hb ht9 in_Tree hown hK hPR 0 rfl rfl 0 (by decide) (va_Nw.use rfl (hN _ k236)) (fun _ h9 => h9) rfl d_Layout_arrange_38 ?_
          refine lv_iload_n hx hb d_Layout_arrange_41 rfl (lv_at hl 2 rfl) ?_
          have hPR := RO_at hZr hS
          refine va_aldq hx hb hK hPR 1 4 rfl rfl (vp_in_iff.mpr ⟨by omega, by omega⟩) d_Layout_arrange_42 ?_
          have c_hk37 := i_cl (a := kx) (by omega)
          have hk37 : kx.toNatClampNeg < cm := by omega
          have o_hk37 := htok kx.toNatClampNeg hk37
          obtain ⟨i_hj38, hj38⟩ : ∃ j : Nat, (PL (NC cB na ng nn nf) cm)[j]? = some ((na kx.toNatClampNeg 0), .inr (5, [.int (ng kx.toNatClampNeg 0), .ref (na kx.toNatClampNeg 1), .ref (na kx.toNatClampNeg 2), .ref (na kx.toNatClampNeg 3), .int (ng kx.toNatClampNeg 1), .int (ng kx.toNatClampNeg 2), .int (ng kx.toNatClampNeg 3), .int (ng kx.toNatClampNeg 4), .int (ng kx.toNatClampNeg 5), .int (ng kx.toNatClampNeg 6), .int (ng kx.toNatClampNeg 7), .int (ng kx.toNatClampNeg 8)])) := PL_get (i := 0) hk37 rfl
          obtain ⟨i_hj39, hj39⟩ : ∃ j : Nat, (PL (NC cB na ng nn nf) cm)[j]? = some ((na kx.toNatClampNeg 1), .inl (cB, (nn kx.toNatClampNeg 1), .inl (nf kx.toNatClampNeg 1))) := PL_get (i := 1) hk37 rfl
          obtain ⟨i_hj40, hj40⟩ : ∃ j : Nat, (PL (NC cB na ng nn nf) cm)[j]? = some ((na kx.toNatClampNeg 2), .inl (cB, 11, .inl (nf kx.toNatClampNeg 2))) := PL_get (i := 2) hk37 rfl
          obtain ⟨i_hj41, hj41⟩ : ∃ j : Nat, (PL (NC cB na ng nn nf) cm)[j]? = some ((na kx.toNatClampNeg 3), .inl (cB, (nn kx.toNatClampNeg 3), .inl (nf kx.toNatClampNeg 3))) := PL_get (i := 3) hk37 rfl
          refine W.eq (g2 := F0 m 43 ls [.ref (na kx.toNatClampNeg 0), .ref tr, .ref l0]) (by rw [show rowF na cm kx.toNatClampNeg = some (na kx.toNatClampNeg 0) from rowF_some hk37]; rfl) ?_
          have hPc := hP.sub (ws' := [(l0, .inr (3, [.int ln, .int lds, .int ltb, .ref lo, .ref lp, .ref lt, .ref lb, .ref le, .int llc, .int ld])), (lo, .inl (cI, 40, .inl lfo))]) [0, 1] rfl
          have hDc := hD.sub (ws' := [(l0, .inr (3, [.int ln, .int lds, .int ltb, .ref lo, .ref lp, .ref lt, .ref lb, .ref le, .int llc, .int ld])), (lo, .inl (cI, 40, .inl lfo))]) [0, 1] (by decide +kernel) rfl
          have hFc := va_free (wc := [(l0, .inr (3, [.int ln, .int lds, .int ltb, .ref lo, .ref lp, .ref lt, .ref lb, .ref le, .int llc, .int ld])), (lo, .inl (cI, 40, .inl lfo))]) hD hS hA [0, 1] rfl
          have hkc : 0 ≤ 0 := by decide
          have hks : 0 ≤ 0 := by decide
          refine va_callv (va_runV (C := "DiscMaker$Layout") (As := [.ref tr, .ref (na kx.toNatClampNeg 0)]) (rest := []) ⟨hx, hb, hml, hown, hts⟩ (c3_insert l D cB cI cJ cZ cN cF H.size l0 lo lp lt lb le ln lds ltb llc ld tr ta cn dr na ng nn nf cm (na kx.toNatClampNeg 0) (na kx.toNatClampNeg 1) (na kx.toNatClampNeg 2) (na kx.toNatClampNeg 3) (ng kx.toNatClampNeg 0) (ng kx.toNatClampNeg 1) (ng kx.toNatClampNeg 2) (ng kx.toNatClampNeg 3) (ng kx.toNatClampNeg 4) (ng kx.toNatClampNeg 5) (ng kx.toNatClampNeg 6) (ng kx.toNatClampNeg 7) (ng kx.toNatClampNeg 8) (nn kx.toNatClampNeg 1) (nf kx.toNatClampNeg 1) (nf kx.toNatClampNeg 2) lfo (by (try dsimp only); first | assumption | omega | trivial) (by (try dsimp only); first | assumption | omega | trivial) (by (try dsimp only); first | assumption | omega | trivial) (by (try dsimp only); first | assumption | omega | trivial) (e2) (by (try dsimp only); first | assumption | omega | trivial) (by (try dsimp only); first | assumption | omega | trivial) (by have h4 := htok kx.toNatClampNeg (by have h3 := i_cl (a := kx) (by omega); omega); have h5 := i_cl (a := kx) (by omega); have h6 := i_cl (a := ng kx.toNatClampNeg 1) (by omega); rw [show (ng kx.toNatClampNeg 1).toNatClampNeg = kx.toNatClampNeg by omega]; exact e3) (by have h4 := htok kx.toNatClampNeg (by have h3 := i_cl (a := kx) (by omega); omega); have h5 := i_cl (a := kx) (by omega); have h6 := i_cl (a := ng kx.toNatClampNeg 1) (by omega); rw [show (ng kx.toNatClampNeg 1).toNatClampNeg = kx.toNatClampNeg by omega]; unfold Cnd; omega) (by have h4 := htok kx.toNatClampNeg (by have h3 := i_cl (a := kx) (by omega); omega); have h5 := i_cl (a := kx) (by omega); have h6 := i_cl (a := ng kx.toNatClampNeg 1) (by omega); rw [show (ng kx.toNatClampNeg 1).toNatClampNeg = kx.toNatClampNeg by omega]; exact ⟨rfl, rfl, rfl⟩) (hnm)) (cwV 2 hts (lg_goodV k947 k949 k12 k121 kc_Layout_insert) rfl rfl rfl (by decide +kernel) ⟨Nat.le_of_ble_eq_true rfl, Nat.le_of_ble_eq_true rfl⟩) ⟨fun a U g mk q => by obtain ⟨q0, q1, qP, qK, qN, qD, qZ0⟩ := q; exact ⟨q0, q1, qP, va_K.moved (u := U) (U := U.calling g mk a) (Vm.Alike.refl U.vm) qK, qN.calling, qD, RO_blind qZ0⟩, va_recv hK hP (ci := 3) (q0 := 0) rfl rfl, fun U hU hW => ⟨rfl, by rw [hU], by rw [hU]; exact hPc, va_K.moved hW.alike hK, NN.warm hW hN, hDc.weaken (fun _ _ _ _ => trivial), (RO_app (w1 := [(tr, .inr (10, [.ref ta, .int cn, .int dr]))]) (w2 := (([(ta, .inl (cN, 40, .inr (.inr (.inr (.inr (rowF na cm)))))), ((na kx.toNatClampNeg 0), .inr (5, [.int (ng kx.toNatClampNeg 0), .ref (na kx.toNatClampNeg 1), .ref (na kx.toNatClampNeg 2), .ref (na kx.toNatClampNeg 3), .int (ng kx.toNatClampNeg 1), .int (ng kx.toNatClampNeg 2), .int (ng kx.toNatClampNeg 3), .int (ng kx.toNatClampNeg 4), .int (ng kx.toNatClampNeg 5), .int (ng kx.toNatClampNeg 6), .int (ng kx.toNatClampNeg 7), .int (ng kx.toNatClampNeg 8)])), ((na kx.toNatClampNeg 1), .inl (cB, (nn kx.toNatClampNeg 1), .inl (nf kx.toNatClampNeg 1))), ((na kx.toNatClampNeg 2), .inl (cB, 11, .inl (nf kx.toNatClampNeg 2)))] : va_W) ++ (PL (NC cB na ng nn nf) cm))) (RO_pass (RO_one hZr 0 rfl) hS hFc hU) (RO_app (w1 := [(ta, .inl (cN, 40, .inr (.inr (.inr (.inr (rowF na cm))))))]) (w2 := (([((na kx.toNatClampNeg 0), .inr (5, [.int (ng kx.toNatClampNeg 0), .ref (na kx.toNatClampNeg 1), .ref (na kx.toNatClampNeg 2), .ref (na kx.toNatClampNeg 3), .int (ng kx.toNatClampNeg 1), .int (ng kx.toNatClampNeg 2), .int (ng kx.toNatClampNeg 3), .int (ng kx.toNatClampNeg 4), .int (ng kx.toNatClampNeg 5), .int (ng kx.toNatClampNeg 6), .int (ng kx.toNatClampNeg 7), .int (ng kx.toNatClampNeg 8)])), ((na kx.toNatClampNeg 1), .inl (cB, (nn kx.toNatClampNeg 1), .inl (nf kx.toNatClampNeg 1))), ((na kx.toNatClampNeg 2), .inl (cB, 11, .inl (nf kx.toNatClampNeg 2)))] : va_W) ++ (PL (NC cB na ng nn nf) cm))) (RO_pass (RO_one hZr 1 rfl) hS hFc hU) (RO_app (w1 := [((na kx.toNatClampNeg 0), .inr (5, [.int (ng kx.toNatClampNeg 0), .ref (na kx.toNatClampNeg 1), .ref (na kx.toNatClampNeg 2), .ref (na kx.toNatClampNeg 3), .int (ng kx.toNatClampNeg 1), .int (ng kx.toNatClampNeg 2), .int (ng kx.toNatClampNeg 3), .int (ng kx.toNatClampNeg 4), .int (ng kx.toNatClampNeg 5), .int (ng kx.toNatClampNeg 6), .int (ng kx.toNatClampNeg 7), .int (ng kx.toNatClampNeg 8)]))]) (w2 := (([((na kx.toNatClampNeg 1), .inl (cB, (nn kx.toNatClampNeg 1), .inl (nf kx.toNatClampNeg 1))), ((na kx.toNatClampNeg 2), .inl (cB, 11, .inl (nf kx.toNatClampNeg 2)))] : va_W) ++ (PL (NC cB na ng nn nf) cm))) (RO_pass (RO_one hZr _ (pix (X := [(tr, .inr (10, [.ref ta, .int cn, .int dr])), (ta, .inl (cN, 40, .inr (.inr (.inr (.inr (rowF na cm))))))]) hj38)) hS hFc hU) (RO_app (w1 := [((na kx.toNatClampNeg 1), .inl (cB, (nn kx.toNatClampNeg 1), .inl (nf kx.toNatClampNeg 1)))]) (w2 := (([((na kx.toNatClampNeg 2), .inl (cB, 11, .inl (nf kx.toNatClampNeg 2)))] : va_W) ++ (PL (NC cB na ng nn nf) cm))) (RO_pass (RO_one hZr _ (pix (X := [(tr, .inr (10, [.ref ta, .int cn, .int dr])), (ta, .inl (cN, 40, .inr (.inr (.inr (.inr (rowF na cm))))))]) hj39)) hS hFc hU) (RO_app (w1 := [((na kx.toNatClampNeg 2), .inl (cB, 11, .inl (nf kx.toNatClampNeg 2)))]) (w2 := (PL (NC cB na ng nn nf) cm)) (RO_pass (RO_one hZr _ (pix (X := [(tr, .inr (10, [.ref ta, .int cn, .int dr])), (ta, .inl (cN, 40, .inr (.inr (.inr (.inr (rowF na cm))))))]) hj40)) hS hFc hU) (RO_pass (RO_tail (X := [(tr, .inr (10, [.ref ta, .int cn, .int dr])), (ta, .inl (cN, 40, .inr (.inr (.inr (.inr (rowF na cm))))))]) hZr) hS hFc hU))))))⟩⟩ rfl rfl hl.1 rfl (lv_room (Nat.le_of_ble_eq_true rfl)) d_Layout_arrange_43 ⟨hkc, hks⟩) hS (fun q _ h => hFc q h) hFc (fun u t H1 locs ht hvm hp_r42 hB hz1 hk1 hS => ?_)
          obtain ⟨go_43, lc2_44⟩ := u
          obtain ⟨hP1, hD1⟩ := hB
          rw [ht] at hP1
          obtain ⟨hP, hD⟩ := va_join (wr := [(lp, .inl (cI, 12, .inl fp)), (lt, .inl (cI, 40, .inl ft))]) (w1 := [(l0, .inr (3, [.int ln, .int lds, .int ltb, .ref lo, .ref lp, .ref lt, .ref lb, .ref le, .int lc2_44, .int ld])), (lo, .inl (cI, 40, .inl go_43))]) hP hD [0, 1] [2, 3] rfl rfl (by decide +kernel) (by decide +kernel) hk1 hFc hP1 hD1
          clear hPc hDc hFc hP1 hD1 hk1 hz1 hkc hks
          generalize H1 = H at hP hS ⊢
          have hP : va_P D CL [(lp, .inl (cI, 12, .inl fp)), (lt, .inl (cI, 40, .inl ft)), (l0, .inr (3, [.int ln, .int lds, .int ltb, .ref lo, .ref lp, .ref lt, .ref lb, .ref le, .int lc2_44, .int ld])), (lo, .inl (cI, 40, .inl go_43))] H := hP
          have hD : va_D A [(lp, .inl (cI, 12, .inl fp)), (lt, .inl (cI, 40, .inl ft)), (l0, .inr (3, [.int ln, .int lds, .int ltb, .ref lo, .ref lp, .ref lt, .ref lb, .ref le, .int lc2_44, .int ld])), (lo, .inl (cI, 40, .inl go_43))] := hD
          try dsimp only at hp_r42
          obtain ⟨hlc2_45, hoo2_46, hor2_47⟩ := hp_r42
          obtain ⟨v48, e_v48⟩ : ∃ z : Int32, z = kx + 1 := ⟨_, rfl⟩
          refine lv_iinc (v := v48) hx hb d_Layout_arrange_46 hl (k := 2) rfl e_v48.symm (by decide +kernel) rfl (fun ls hl => ?_)
          have t_v48 : v48.toInt = kx.toInt + 1 := by rw [e_v48]; exact i_add rfl (by decide) (by omega) (by omega)
          have hl : lv_has ls 3 [(2, .int v48), (0, .ref l0), (1, .ref tr)] := hl
          refine lv_goto (tgt := 7) hx hb d_Layout_arrange_49 (by decide) ?_
          have hP := hP.sub (ws' := [(l0, .inr (3, [.int ln, .int lds, .int ltb, .ref lo, .ref lp, .ref lt, .ref lb, .ref le, .int lc2_44, .int ld])), (lo, .inl (cI, 40, .inl go_43)), (lp, .inl (cI, 12, .inl fp)), (lt, .inl (cI, 40, .inl ft))]) [2, 3, 0, 1] rfl
          have hD := hD.sub (ws' := [(l0, .inr (3, [.int ln, .int lds, .int ltb, .ref lo, .ref lp, .ref lt, .ref lb, .ref le, .int lc2_44, .int ld])), (lo, .inl (cI, 40, .inl go_43)), (lp, .inl (cI, 12, .inl fp)), (lt, .inl (cI, 40, .inl ft))]) [2, 3, 0, 1] (by decide +kernel) rfl
          have hl := lv_sub hl [1, 2, 0] rfl
          exact ih7 _ (by first | omega | (dsimp only; omega)) v48 lc2_44 go_43 _ _ _ rfl ((by (try dsimp only); first | assumption | omega | trivial)) (hoo2_46) ((by have h7 := i_cl (a := kx) (by omega); have h6 := i_cl (a := v48) (by omega); rw [show v48.toNatClampNeg = kx.toNatClampNeg + 1 by omega]; have h5 := hor2_47; rw [show (ng kx.toNatClampNeg 1).toNatClampNeg = kx.toNatClampNeg by (have h4 := i_cl (a := ng kx.toNatClampNeg 1) (by omega); omega)] at h5; exact h5)) hP hD hS hl
  · skip
    intro kk7
    have hP := hP.sub (ws' := [(l0, .inr (3, [.int ln, .int lds, .int ltb, .ref lo, .ref lp, .ref lt, .ref lb, .ref le, .int 0, .int ld])), (lo, .inl (cI, 40, .inl fo)), (lp, .inl (cI, 12, .inl fp)), (lt, .inl (cI, 40, .inl ft))]) [0, 1, 2, 3] rfl
    have hD := hD.sub (ws' := [(l0, .inr (3, [.int ln, .int lds, .int ltb, .ref lo, .ref lp, .ref lt, .ref lb, .ref le, .int 0, .int ld])), (lo, .inl (cI, 40, .inl fo)), (lp, .inl (cI, 12, .inl fp)), (lt, .inl (cI, 40, .inl ft))]) [0, 1, 2, 3] (by decide +kernel) rfl
    have hl := lv_sub hl [1, 2, 0] rfl
    exact kk7 _ 1 0 fo _ _ _ rfl ((by (try dsimp only); first | assumption | omega | trivial)) ((fun j hj => absurd hj (by omega))) ((by rw [show (0 : Int32).toNatClampNeg = 0 by decide, show (1 : Int32).toNatClampNeg = 1 by decide]; exact OrdP_0 (Nat.le_refl 1))) hP hD hS hl

set_option maxHeartbeats 4000000 in
set_option maxRecDepth 100000 in
theorem c3_writePathHeadF (l : Launch) (D : va_G) (cB cI cJ cZ cN cF : ClassId) (sz : Nat) (m0 : Nat) (tr : Nat) (im : Nat) (fi : Nat) (se : Nat) (u0 : Nat) (id : Nat) (ct : Nat) (ra : Int32) (ru : Int32) (wg : Int32) (jq : Nat) (il : Int32) (jf : Nat → Int32) (iq : Nat) (n : Nat) (L : Int32) (f : Nat → Int32) (J9 : List Int) (x : Int32) (hL : 0 ≤ L.toInt ∧ L.toInt ≤ n) (hn : n ≤ 3000000) (hil : 0 ≤ il.toInt ∧ il.toInt ≤ 60) (hJ : Cn jf il.toInt J9) (hin : 0 ≤ x.toInt ∧ x.toInt + 8 + il.toInt ≤ L.toInt) : Met l y_Maker_writePathHead w_Maker_writePathHead ({ frames := 2, cells := 0, slots := 0, locals := 59 }) (va_Pc [.ref m0, .int x] (fun U => U.heap.size = sz ∧ va_P D CL [(m0, .inr (4, [.ref tr, .ref im, .ref fi, .ref se, .ref u0, .ref id, .ref ct, .int ra, .int ru, .int wg])), (id, .inr (1, [.ref jq, .int il])), (jq, .inl (cB, 60, .inl jf)), (im, .inr (1, [.ref iq, .int L])), (iq, .inl (cB, n, .inl f))] U.heap ∧ va_K D CL (TY cB cI cJ cZ cN cF) U ∧ NN U ∧ va_D (fun _ => True) [(m0, .inr (4, [.ref tr, .ref im, .ref fi, .ref se, .ref u0, .ref id, .ref ct, .int ra, .int ru, .int wg])), (id, .inr (1, [.ref jq, .int il])), (jq, .inl (cB, 60, .inl jf)), (im, .inr (1, [.ref iq, .int L])), (iq, .inl (cB, n, .inl f))])) (va_Qv (fun (u : (Nat → Int) × (Nat → Int32)) => match u with | (M9, g) => (Pt (imC f) M9 x.toInt (J9.length : Int)) ∧ (BL M9 (imC g) (x.toInt + 8) J9)) (fun (u : (Nat → Int) × (Nat → Int32)) (t : State) => match u with | (M9, g) => va_P D CL [(m0, .inr (4, [.ref tr, .ref im, .ref fi, .ref se, .ref u0, .ref id, .ref ct, .int ra, .int ru, .int wg])), (id, .inr (1, [.ref jq, .int il])), (jq, .inl (cB, 60, .inl jf)), (im, .inr (1, [.ref iq, .int L])), (iq, .inl (cB, n, .inl g))] t.heap ∧ va_D (va_A [(m0, .inr (4, [.ref tr, .ref im, .ref fi, .ref se, .ref u0, .ref id, .ref ct, .int ra, .int ru, .int wg])), (id, .inr (1, [.ref jq, .int il])), (jq, .inl (cB, 60, .inl jf)), (im, .inr (1, [.ref iq, .int L])), (iq, .inl (cB, n, .inl f))] sz) [(m0, .inr (4, [.ref tr, .ref im, .ref fi, .ref se, .ref u0, .ref id, .ref ct, .int ra, .int ru, .int wg])), (id, .inr (1, [.ref jq, .int il])), (jq, .inl (cB, 60, .inl jf)), (im, .inr (1, [.ref iq, .int L])), (iq, .inl (cB, n, .inl g))]) (va_A [(m0, .inr (4, [.ref tr, .ref im, .ref fi, .ref se, .ref u0, .ref id, .ref ct, .int ra, .int ru, .int wg])), (id, .inr (1, [.ref jq, .int il])), (jq, .inl (cB, 60, .inl jf)), (im, .inr (1, [.ref iq, .int L])), (iq, .inl (cB, n, .inl f))] sz)) 0 0 (va_A [(m0, .inr (4, [.ref tr, .ref im, .ref fi, .ref se, .ref u0, .ref id, .ref ct, .int ra, .int ru, .int wg])), (id, .inr (1, [.ref jq, .int il])), (jq, .inl (cB, 60, .inl jf)), (im, .inr (1, [.ref iq, .int L])), (iq, .inl (cB, n, .inl f))] sz) := by
  refine Met.ofW (cc := b_Maker_writePathHead) (maxL := 2) (ret := none) (by decide +kernel) rfl ?_
  intro p e s m args below meth c s₁ B hml hv
  obtain ⟨rfl, hsz, hP, hK, hN, hD0⟩ := hv
  have hx := B.exec
  have hb := B.bytes
  have hr := B.returns
  have hts := atoms_spec (ws := w_Maker_writePathHead) B.pre
  have ht9 := fun (w : Cond) (h : w ∈ lw_g) => hts w (List.mem_cons_of_mem _ h)
  have hown : s.vm.findClass "DiscMaker$Maker" = some m.cls := findClass_of_methodNamed B.named
  have hlocks := B.notSynchronized
  subst hsz
  have hD := hD0.self (sz := s.heap.size)
  generalize hAe : va_A [(m0, .inr (4, [.ref tr, .ref im, .ref fi, .ref se, .ref u0, .ref id, .ref ct, .int ra, .int ru, .int wg])), (id, .inr (1, [.ref jq, .int il])), (jq, .inl (cB, 60, .inl jf)), (im, .inr (1, [.ref iq, .int L])), (iq, .inl (cB, n, .inl f))] s.heap.size = A at hD ⊢
  have hA : ∀ q : Nat, s.heap.size ≤ q → A q := fun q h => by rw [← hAe]; exact Or.inr h
  have hS : va_S A s.heap s.heap [] := va_S.rf
  have hP : va_P D CL [(m0, .inr (4, [.ref tr, .ref im, .ref fi, .ref se, .ref u0, .ref id, .ref ct, .int ra, .int ru, .int wg])), (id, .inr (1, [.ref jq, .int il])), (jq, .inl (cB, 60, .inl jf)), (im, .inr (1, [.ref iq, .int L])), (iq, .inl (cB, n, .inl f))] s.heap := hP
  have hl := lv_entry [.ref m0, .int x] (n := 2) (Nat.le_of_ble_eq_true rfl)
  rw [lg_entry_eq]
  generalize (lg_sl [.ref m0, .int x] ++ List.replicate (2 - (lg_sl [.ref m0, .int x]).length) Slot.unset).toArray = ls at hl ⊢
  have hl : lv_has ls 2 [(0, .ref m0), (1, .int x)] := hl
  have L_m1 : ((-1) : Int32).toInt = (-1) := by decide
  have L_0 : (0 : Int32).toInt = 0 := by decide
  have L_1 : (1 : Int32).toInt = 1 := by decide
  have L_8 : (8 : Int32).toInt = 8 := by decide
  refine lv_aload_n hx hb d_Maker_writePathHead_0 rfl (lv_at hl 0 rfl) ?_
  refine va_get (D := D) (ci := 4) (v := .ref im) (C := "DiscMaker$Maker") (T := F_Maker) (N := 10) hx hb ht9 in_Maker hown hK hP 0 rfl rfl 1 (by decide) (ht9 _ k348) (fun _ h9 => h9) rfl d_Maker_writePathHead_1 ?_
  refine lv_iload_n hx hb d_Maker_writePathHead_4 rfl (lv_at hl 1 rfl) ?_
  refine lv_aload_n hx hb d_Maker_writePathHead_5 rfl (lv_at hl 0 rfl) ?_
  refine va_get (D := D) (ci := 4) (v := .ref id) (C := "DiscMaker$Maker") (T := F_Maker) (N := 10) hx hb ht9 in_Maker hown hK hP 0 rfl rfl 5 (by decide) (ht9 _ k352) (fun _ h9 => h9) rfl d_Maker_writePathHead_6 ?_
  refine va_getN (D := D) (ci := 1) (v := .int il) (C := "DiscMaker$Bytes") (T := F_Bytes) (N := 2) hx hb ht9 in_Bytes hown hK hP 1 rfl rfl 1 (by decide) (va_Nw.use rfl (hN _ k257)) (fun _ h9 => h9) rfl d_Maker_writePathHead_9 ?_
  have hPc := hP.sub (ws' := [(im, .inr (1, [.ref iq, .int L])), (iq, .inl (cB, n, .inl f))]) [3, 4] rfl
  have hDc := hD.sub (ws' := [(im, .inr (1, [.ref iq, .int L])), (iq, .inl (cB, n, .inl f))]) [3, 4] (by decide +kernel) rfl
  have hFc := va_free (wc := [(im, .inr (1, [.ref iq, .int L])), (iq, .inl (cB, n, .inl f))]) hD hS hA [3, 4] rfl
  have hkc : 0 ≤ 0 := by decide
  have hks : 0 ≤ 0 := by decide
  refine va_callv (va_runV (C := "DiscMaker$Bytes") (As := [.int x, .int il]) (rest := []) ⟨hx, hb, hml, hown, hts⟩ (c3_putF l D cB cI cJ cZ cN cF s.heap.size im iq n L f x il (by (try dsimp only); first | assumption | omega | trivial) (by (try dsimp only); first | assumption | omega | trivial) (by (try dsimp only); first | assumption | omega | trivial)) (cwV 2 hts (lg_goodV k978 k912 k913 k119 kc_Bytes_put) rfl rfl rfl (by decide +kernel) ⟨Nat.le_of_ble_eq_true rfl, Nat.le_of_ble_eq_true rfl⟩) ⟨fun a U g mk q => by obtain ⟨q0, q1, qP, qK, qN, qD⟩ := q; exact ⟨q0, q1, qP, va_K.moved (u := U) (U := U.calling g mk a) (Vm.Alike.refl U.vm) qK, qN.calling, qD⟩, va_recv hK hP (ci := 1) (q0 := 3) rfl rfl, fun U hU hW => ⟨rfl, by rw [hU], by rw [hU]; exact hPc, va_K.moved hW.alike hK, NN.warm hW hN, hDc.weaken (fun _ _ _ _ => trivial)⟩⟩ rfl rfl hl.1 rfl (lv_room (Nat.le_of_ble_eq_true rfl)) d_Maker_writePathHead_12 ⟨hkc, hks⟩) hS (fun q _ h => hFc q h) hFc (fun u t H1 locs ht hvm hp_r1 hB hz1 hk1 hS => ?_)
  obtain ⟨g_2, rfl⟩ : ∃ z, z = u := ⟨_, rfl⟩
  obtain ⟨hP1, hD1⟩ := hB
  rw [ht] at hP1
  obtain ⟨hP, hD⟩ := va_join (wr := [(m0, .inr (4, [.ref tr, .ref im, .ref fi, .ref se, .ref u0, .ref id, .ref ct, .int ra, .int ru, .int wg])), (id, .inr (1, [.ref jq, .int il])), (jq, .inl (cB, 60, .inl jf))]) (w1 := [(im, .inr (1, [.ref iq, .int L])), (iq, .inl (cB, n, .inl g_2))]) hP hD [3, 4] [0, 1, 2] rfl rfl (by decide +kernel) (by decide +kernel) hk1 hFc hP1 hD1
  clear hPc hDc hFc hP1 hD1 hk1 hz1 hkc hks
  generalize H1 = H at hP hS ⊢
  have hP : va_P D CL [(m0, .inr (4, [.ref tr, .ref im, .ref fi, .ref se, .ref u0, .ref id, .ref ct, .int ra, .int ru, .int wg])), (id, .inr (1, [.ref jq, .int il])), (jq, .inl (cB, 60, .inl jf)), (im, .inr (1, [.ref iq, .int L])), (iq, .inl (cB, n, .inl g_2))] H := hP
  have hD : va_D A [(m0, .inr (4, [.ref tr, .ref im, .ref fi, .ref se, .ref u0, .ref id, .ref ct, .int ra, .int ru, .int wg])), (id, .inr (1, [.ref jq, .int il])), (jq, .inl (cB, 60, .inl jf)), (im, .inr (1, [.ref iq, .int L])), (iq, .inl (cB, n, .inl g_2))] := hD
  try dsimp only at hp_r1
  have hw_3 := hp_r1
  refine lv_aload_n hx hb d_Maker_writePathHead_15 rfl (lv_at hl 0 rfl) ?_
  refine va_get (D := D) (ci := 4) (v := .ref id) (C := "DiscMaker$Maker") (T := F_Maker) (N := 10) hx hb ht9 in_Maker hown hK hP 0 rfl rfl 5 (by decide) (ht9 _ k352) (fun _ h9 => h9) rfl d_Maker_writePathHead_16 ?_
  refine lv_aload_n hx hb d_Maker_writePathHead_19 rfl (lv_at hl 0 rfl) ?_
  refine va_get (D := D) (ci := 4) (v := .ref im) (C := "DiscMaker$Maker") (T := F_Maker) (N := 10) hx hb ht9 in_Maker hown hK hP 0 rfl rfl 1 (by decide) (ht9 _ k348) (fun _ h9 => h9) rfl d_Maker_writePathHead_20 ?_
  refine lv_iconst (v := 0) hx hb d_Maker_writePathHead_23 (by decide) ?_
  refine lv_iload_n hx hb d_Maker_writePathHead_24 rfl (lv_at hl 1 rfl) ?_
  refine lv_bipush (v := 8) hx hb d_Maker_writePathHead_25 (by decide) ?_
  refine lv_iadd hx hb d_Maker_writePathHead_27 ?_
  refine lv_topi (fun v4 e_v4 => ?_)
  have t_v4 : v4.toInt = x.toInt + 8 := by rw [e_v4]; exact i_add rfl (by decide) (by omega) (by omega)
  refine lv_aload_n hx hb d_Maker_writePathHead_28 rfl (lv_at hl 0 rfl) ?_
  refine va_get (D := D) (ci := 4) (v := .ref id) (C := "DiscMaker$Maker") (T := F_Maker) (N := 10) hx hb ht9 in_Maker hown hK hP 0 rfl rfl 5 (by decide) (ht9 _ k352) (fun _ h9 => h9) rfl d_Maker_writePathHead_29 ?_
  refine va_getN (D := D) (ci := 1) (v := .int il) (C := "DiscMaker$Bytes") (T := F_Bytes) (N := 2) hx hb ht9 in_Bytes hown hK hP 1 rfl rfl 1 (by decide) (va_Nw.use rfl (hN _ k257)) (fun _ h9 => h9) rfl d_Maker_writePathHead_32 ?_
  have hPc := hP.sub (ws' := [(id, .inr (1, [.ref jq, .int il])), (jq, .inl (cB, 60, .inl jf)), (im, .inr (1, [.ref iq, .int L])), (iq, .inl (cB, n, .inl g_2))]) [1, 2, 3, 4] rfl
  have hDc := hD.sub (ws' := [(id, .inr (1, [.ref jq, .int il])), (jq, .inl (cB, 60, .inl jf)), (im, .inr (1, [.ref iq, .int L])), (iq, .inl (cB, n, .inl g_2))]) [1, 2, 3, 4] (by decide +kernel) rfl
  have hFc := va_free (wc := [(id, .inr (1, [.ref jq, .int il])), (jq, .inl (cB, 60, .inl jf)), (im, .inr (1, [.ref iq, .int L])), (iq, .inl (cB, n, .inl g_2))]) hD hS hA [1, 2, 3, 4] rfl
  have hkc : 0 ≤ 0 := by decide
  have hks : 0 ≤ 0 := by decide
  refine va_callv (va_runV (C := "DiscMaker$Bytes") (As := [.ref im, .int 0, .int v4, .int il]) (rest := []) ⟨hx, hb, hml, hown, hts⟩ (c3_copyToF l D cB cI cJ cZ cN cF H.size id jq 60 il jf im iq n L g_2 0 v4 il (by (try dsimp only); first | assumption | omega | trivial) (by (try dsimp only); first | assumption | omega | trivial) (by (try dsimp only); first | assumption | omega | trivial) (by (try dsimp only); first | assumption | omega | trivial) (by (try dsimp only); first | assumption | omega | trivial) (by (try dsimp only); first | assumption | omega | trivial)) (cwV 4 hts (lg_goodV k1060 k1061 k1062 k119 kc_Bytes_copyTo) rfl rfl rfl (by decide +kernel) ⟨Nat.le_of_ble_eq_true rfl, Nat.le_of_ble_eq_true rfl⟩) ⟨fun a U g mk q => by obtain ⟨q0, q1, qP, qK, qN, qD⟩ := q; exact ⟨q0, q1, qP, va_K.moved (u := U) (U := U.calling g mk a) (Vm.Alike.refl U.vm) qK, qN.calling, qD⟩, va_recv hK hP (ci := 1) (q0 := 1) rfl rfl, fun U hU hW => ⟨rfl, by rw [hU], by rw [hU]; exact hPc, va_K.moved hW.alike hK, NN.warm hW hN, hDc.weaken (fun _ _ _ _ => trivial)⟩⟩ rfl rfl hl.1 rfl (lv_room (Nat.le_of_ble_eq_true rfl)) d_Maker_writePathHead_35 ⟨hkc, hks⟩) hS (fun q _ h => hFc q h) hFc (fun u t H1 locs ht hvm hp_r5 hB hz1 hk1 hS => ?_)
  obtain ⟨g_6, rfl⟩ : ∃ z, z = u := ⟨_, rfl⟩
  obtain ⟨hP1, hD1⟩ := hB
  rw [ht] at hP1
  obtain ⟨hP, hD⟩ := va_join (wr := [(m0, .inr (4, [.ref tr, .ref im, .ref fi, .ref se, .ref u0, .ref id, .ref ct, .int ra, .int ru, .int wg]))]) (w1 := [(id, .inr (1, [.ref jq, .int il])), (jq, .inl (cB, 60, .inl jf)), (im, .inr (1, [.ref iq, .int L])), (iq, .inl (cB, n, .inl g_6))]) hP hD [1, 2, 3, 4] [0] rfl rfl (by decide +kernel) (by decide +kernel) hk1 hFc hP1 hD1
  clear hPc hDc hFc hP1 hD1 hk1 hz1 hkc hks
  generalize H1 = H at hP hS ⊢
  have hP : va_P D CL [(m0, .inr (4, [.ref tr, .ref im, .ref fi, .ref se, .ref u0, .ref id, .ref ct, .int ra, .int ru, .int wg])), (id, .inr (1, [.ref jq, .int il])), (jq, .inl (cB, 60, .inl jf)), (im, .inr (1, [.ref iq, .int L])), (iq, .inl (cB, n, .inl g_6))] H := hP
  have hD : va_D A [(m0, .inr (4, [.ref tr, .ref im, .ref fi, .ref se, .ref u0, .ref id, .ref ct, .int ra, .int ru, .int wg])), (id, .inr (1, [.ref jq, .int il])), (jq, .inl (cB, 60, .inl jf)), (im, .inr (1, [.ref iq, .int L])), (iq, .inl (cB, n, .inl g_6))] := hD
  try dsimp only at hp_r5
  have hw_7 := hp_r5
  have hc9 : tbL (fun i => imC jf ((0 : Int32).toNatClampNeg + i)) il.toInt.toNat = J9 := (tbL_congr (fun i _ => by rw [show (0 : Int32).toNatClampNeg = 0 by decide, Nat.zero_add])).trans hJ.tb
  have hcw := hw_7
  rw [hc9] at hcw
  have hjl := hJ.1
  have hpw := hw_3
  have hP9 := hP.sub (ws' := [(m0, .inr (4, [.ref tr, .ref im, .ref fi, .ref se, .ref u0, .ref id, .ref ct, .int ra, .int ru, .int wg])), (id, .inr (1, [.ref jq, .int il])), (jq, .inl (cB, 60, .inl jf)), (im, .inr (1, [.ref iq, .int L])), (iq, .inl (cB, n, .inl g_6))]) [0, 1, 2, 3, 4] rfl
  have hD9 := hD.sub (ws' := [(m0, .inr (4, [.ref tr, .ref im, .ref fi, .ref se, .ref u0, .ref id, .ref ct, .int ra, .int ru, .int wg])), (id, .inr (1, [.ref jq, .int il])), (jq, .inl (cB, 60, .inl jf)), (im, .inr (1, [.ref iq, .int L])), (iq, .inl (cB, n, .inl g_6))]) [0, 1, 2, 3, 4] (by decide +kernel) rfl
  exact W.vret hx hb hr (fun t ht hW => ⟨⟨((imC g_2), g_6), rfl, ⟨(by (try dsimp only); rw [hjl]; exact hpw), (hcw.cast (by omega) rfl)⟩, by rw [ht]; exact hP9, hD9⟩, hS.F ht⟩) hS.2.2 d_Maker_writePathHead_38
