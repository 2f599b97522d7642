/-- entries that are nodes -/
def OrdOK (n : Int) (m : Nat) (f : Nat → Int32) : Prop := ∀ j : Nat, (j : Int) < n → 0 ≤ (f j).toInt ∧ (f j).toInt < m
theorem OrdOK_at {n : Int} {m i : Nat} {f : Nat → Int32} {v : Int32} (h : OrdOK n m f) (e : v = f i) (hi : (i : Int) < n) : 0 ≤ v.toInt ∧ v.toInt < m := by rw [e]; exact h i hi
theorem OrdOK_push {n n' : Int} {m i : Nat} {f g : Nat → Int32} {x : Int32} (h : OrdOK n m f) (e : g = upd f i x) (hi : (i : Int) = n) (hn : n' = n + 1) (hx : 0 ≤ x.toInt ∧ x.toInt < m) : OrdOK n' m g := fun j hj => by
  rw [e]; unfold upd; split
  · exact hx
  · exact h j (by omega)
/-- the same, but for the place that is being made free -/
def OrdX (n a : Int) (m : Nat) (f : Nat → Int32) : Prop := ∀ j : Nat, (j : Int) < n + 1 → (j : Int) ≠ a → 0 ≤ (f j).toInt ∧ (f j).toInt < m
theorem OrdX_0 {n a : Int} {m : Nat} {f : Nat → Int32} (h : OrdOK n m f) (ha : a = n) : OrdX n a m f := fun j hj hja => h j (by omega)
theorem OrdX_step {n a a' : Int} {m i : Nat} {f g : Nat → Int32} {x : Int32} (h : OrdX n a m f) (e : g = upd f i x) (hi : (i : Int) = a) (hx : 0 ≤ x.toInt ∧ x.toInt < m) : OrdX n a' m g := fun j hj hja => by
  rw [e]; unfold upd; split
  · exact hx
  · exact h j hj (by omega)
theorem OrdX_end {n a n' : Int} {m i : Nat} {f g : Nat → Int32} {x : Int32} (h : OrdX n a m f) (e : g = upd f i x) (hi : (i : Int) = a) (hx : 0 ≤ x.toInt ∧ x.toInt < m) (hn : n' = n + 1) : OrdOK n' m g := fun j hj => by
  rw [e]; unfold upd; split
  · exact hx
  · exact h j (by omega) (by omega)
theorem OrdX_at {n a : Int} {m i : Nat} {f : Nat → Int32} {v : Int32} (h : OrdX n a m f) (e : v = f i) (hi : (i : Int) < n + 1) (hia : (i : Int) ≠ a) : 0 ≤ v.toInt ∧ v.toInt < m := by rw [e]; exact h i hi hia
/-- ends of parts -/
def EnOK (n L : Int) (f : Nat → Int32) : Prop := ∀ j : Nat, (j : Int) < n → 0 ≤ (f j).toInt ∧ (f j).toInt ≤ L
theorem EnOK_0 {n L : Int} {f : Nat → Int32} (h : n ≤ 0) : EnOK n L f := fun j hj => absurd hj (by omega)
theorem EnOK_mono {n L L' : Int} {f : Nat → Int32} (h : EnOK n L f) (hL : L ≤ L') : EnOK n L' f := fun j hj => ⟨(h j hj).1, Int.le_trans (h j hj).2 hL⟩
theorem EnOK_push {n n' L : Int} {i : Nat} {f g : Nat → Int32} {x : Int32} (h : EnOK n L f) (e : g = upd f i x) (hi : (i : Int) = n) (hn : n' = n + 1) (hx : 0 ≤ x.toInt ∧ x.toInt ≤ L) : EnOK n' L g := fun j hj => by
  rw [e]; unfold upd; split
  · exact hx
  · exact h j (by omega)
theorem EnOK_at {n L : Int} {i : Nat} {f : Nat → Int32} {v : Int32} (h : EnOK n L f) (e : v = f i) (hi : (i : Int) < n) : 0 ≤ v.toInt ∧ v.toInt ≤ L := by rw [e]; exact h i hi

theorem d_Layout_addDirectory_0 : decode b_Layout_addDirectory 0 = .ok (.aload_n 0, 1) := by decide +kernel
theorem d_Layout_addDirectory_1 : decode b_Layout_addDirectory 1 = .ok (.getfield 57, 3) := by decide +kernel
theorem d_Layout_addDirectory_4 : decode b_Layout_addDirectory 4 = .ok (.bipush 12, 2) := by decide +kernel
theorem d_Layout_addDirectory_6 : decode b_Layout_addDirectory 6 = .ok (.if_icmp .ge 33, 3) := by decide +kernel
theorem d_Layout_addDirectory_9 : decode b_Layout_addDirectory 9 = .ok (.aload_n 0, 1) := by decide +kernel
theorem d_Layout_addDirectory_10 : decode b_Layout_addDirectory 10 = .ok (.getfield 15, 3) := by decide +kernel
theorem d_Layout_addDirectory_13 : decode b_Layout_addDirectory 13 = .ok (.aload_n 0, 1) := by decide +kernel
theorem d_Layout_addDirectory_14 : decode b_Layout_addDirectory 14 = .ok (.getfield 57, 3) := by decide +kernel
theorem d_Layout_addDirectory_17 : decode b_Layout_addDirectory 17 = .ok (.iload_n 1, 1) := by decide +kernel
theorem d_Layout_addDirectory_18 : decode b_Layout_addDirectory 18 = .ok (.iastore, 1) := by decide +kernel
theorem d_Layout_addDirectory_19 : decode b_Layout_addDirectory 19 = .ok (.aload_n 0, 1) := by decide +kernel
theorem d_Layout_addDirectory_20 : decode b_Layout_addDirectory 20 = .ok (.dup, 1) := by decide +kernel
theorem d_Layout_addDirectory_21 : decode b_Layout_addDirectory 21 = .ok (.getfield 57, 3) := by decide +kernel
theorem d_Layout_addDirectory_24 : decode b_Layout_addDirectory 24 = .ok (.iconst 1, 1) := by decide +kernel
theorem d_Layout_addDirectory_25 : decode b_Layout_addDirectory 25 = .ok (.iadd, 1) := by decide +kernel
theorem d_Layout_addDirectory_26 : decode b_Layout_addDirectory 26 = .ok (.putfield 57, 3) := by decide +kernel
theorem d_Layout_addDirectory_29 : decode b_Layout_addDirectory 29 = .ok (.aload_n 0, 1) := by decide +kernel
theorem d_Layout_addDirectory_30 : decode b_Layout_addDirectory 30 = .ok (.getfield 18, 3) := by decide +kernel
theorem d_Layout_addDirectory_33 : decode b_Layout_addDirectory 33 = .ok (.iload_n 1, 1) := by decide +kernel
theorem d_Layout_addDirectory_34 : decode b_Layout_addDirectory 34 = .ok (.aload_n 0, 1) := by decide +kernel
theorem d_Layout_addDirectory_35 : decode b_Layout_addDirectory 35 = .ok (.getfield 57, 3) := by decide +kernel
theorem d_Layout_addDirectory_38 : decode b_Layout_addDirectory 38 = .ok (.iastore, 1) := by decide +kernel
theorem d_Layout_addDirectory_39 : decode b_Layout_addDirectory 39 = .ok (.return_, 1) := by decide +kernel
set_option maxHeartbeats 4000000 in
set_option maxRecDepth 100000 in
theorem c3_addDirectory (l : Launch) (D : va_G) (cB cI cJ cZ cN cF : ClassId) (sz : Nat) (l0 : Nat) (lo : Nat) (lp : Nat) (lt : Nat) (lb : Nat) (le : Nat) (ln : Int32) (lds : Int32) (ltb : Int32) (lc : Int32) (ld : Int32) (fp : Nat → Int32) (ft : Nat → Int32) (cm : Nat) (x : Int32) (hcm : cm ≤ 40) (hx : 0 ≤ x.toInt ∧ x.toInt < cm) (hld : 0 ≤ ld.toInt ∧ ld.toInt ≤ 12) (hpo : OrdOK ld.toInt cm fp) : Met l y_Layout_addDirectory w_Layout_addDirectory ({ frames := 0, cells := 0, slots := 0, locals := 0 }) (va_Pc [.ref l0, .int x] (fun U => U.heap.size = sz ∧ va_P D CL [(l0, .inr (3, [.int ln, .int lds, .int ltb, .ref lo, .ref lp, .ref lt, .ref lb, .ref le, .int lc, .int ld])), (lp, .inl (cI, 12, .inl fp)), (lt, .inl (cI, 40, .inl ft))] U.heap ∧ va_K D CL (TY cB cI cJ cZ cN cF) U ∧ NN U ∧ va_D (fun _ => True) [(l0, .inr (3, [.int ln, .int lds, .int ltb, .ref lo, .ref lp, .ref lt, .ref lb, .ref le, .int lc, .int ld])), (lp, .inl (cI, 12, .inl fp)), (lt, .inl (cI, 40, .inl ft))])) (va_Qv (fun (u : Int32 × (Nat → Int32) × (Nat → Int32)) => match u with | (ld2, gp, gt) => (ld.toInt ≤ ld2.toInt ∧ ld2.toInt ≤ 12 ∧ 1 ≤ ld2.toInt) ∧ (OrdOK ld2.toInt cm gp)) (fun (u : Int32 × (Nat → Int32) × (Nat → Int32)) (t : State) => match u with | (ld2, gp, gt) => va_P D CL [(l0, .inr (3, [.int ln, .int lds, .int ltb, .ref lo, .ref lp, .ref lt, .ref lb, .ref le, .int lc, .int ld2])), (lp, .inl (cI, 12, .inl gp)), (lt, .inl (cI, 40, .inl gt))] t.heap ∧ va_D (va_A [(l0, .inr (3, [.int ln, .int lds, .int ltb, .ref lo, .ref lp, .ref lt, .ref lb, .ref le, .int lc, .int ld])), (lp, .inl (cI, 12, .inl fp)), (lt, .inl (cI, 40, .inl ft))] sz) [(l0, .inr (3, [.int ln, .int lds, .int ltb, .ref lo, .ref lp, .ref lt, .ref lb, .ref le, .int lc, .int ld2])), (lp, .inl (cI, 12, .inl gp)), (lt, .inl (cI, 40, .inl gt))]) (va_A [(l0, .inr (3, [.int ln, .int lds, .int ltb, .ref lo, .ref lp, .ref lt, .ref lb, .ref le, .int lc, .int ld])), (lp, .inl (cI, 12, .inl fp)), (lt, .inl (cI, 40, .inl ft))] sz)) 0 0 (va_A [(l0, .inr (3, [.int ln, .int lds, .int ltb, .ref lo, .ref lp, .ref lt, .ref lb, .ref le, .int lc, .int ld])), (lp, .inl (cI, 12, .inl fp)), (lt, .inl (cI, 40, .inl ft))] sz) := by
  refine Met.ofW (cc := b_Layout_addDirectory) (maxL := 2) (ret := none) (by decide +kernel) rfl ?_
  intro p e s m args below meth c s₁ B hml hv
  obtain ⟨rfl, hsz, hP, hK, hN, hD0⟩ := hv
  have hx := B.exec
  have hb := B.bytes
  have hr := B.returns
  have hts := atoms_spec (ws := w_Layout_addDirectory) B.pre
  have ht9 := fun (w : Cond) (h : w ∈ lw_g) => hts w (List.mem_cons_of_mem _ h)
  have hown : s.vm.findClass "DiscMaker$Layout" = some m.cls := findClass_of_methodNamed B.named
  have hlocks := B.notSynchronized
  subst hsz
  have hD := hD0.self (sz := s.heap.size)
  generalize hAe : va_A [(l0, .inr (3, [.int ln, .int lds, .int ltb, .ref lo, .ref lp, .ref lt, .ref lb, .ref le, .int lc, .int ld])), (lp, .inl (cI, 12, .inl fp)), (lt, .inl (cI, 40, .inl ft))] s.heap.size = A at hD ⊢
  have hA : ∀ q : Nat, s.heap.size ≤ q → A q := fun q h => by rw [← hAe]; exact Or.inr h
  have hS : va_S A s.heap s.heap [] := va_S.rf
  have hP : va_P D CL [(l0, .inr (3, [.int ln, .int lds, .int ltb, .ref lo, .ref lp, .ref lt, .ref lb, .ref le, .int lc, .int ld])), (lp, .inl (cI, 12, .inl fp)), (lt, .inl (cI, 40, .inl ft))] s.heap := hP
  have hl := lv_entry [.ref l0, .int x] (n := 2) (Nat.le_of_ble_eq_true rfl)
  rw [lg_entry_eq]
  generalize (lg_sl [.ref l0, .int x] ++ List.replicate (2 - (lg_sl [.ref l0, .int x]).length) Slot.unset).toArray = ls at hl ⊢
  have hl : lv_has ls 2 [(0, .ref l0), (1, .int x)] := hl
  have L_m1 : ((-1) : Int32).toInt = (-1) := by decide
  have L_0 : (0 : Int32).toInt = 0 := by decide
  have L_1 : (1 : Int32).toInt = 1 := by decide
  have L_12 : (12 : Int32).toInt = 12 := by decide
  refine lv_aload_n hx hb d_Layout_addDirectory_0 rfl (lv_at hl 0 rfl) ?_
  refine va_get (D := D) (ci := 3) (v := .int ld) (C := "DiscMaker$Layout") (T := F_Layout) (N := 10) hx hb ht9 in_Layout hown hK hP 0 rfl rfl 9 (by decide) (ht9 _ k298) (fun _ h9 => h9) rfl d_Layout_addDirectory_1 ?_
  refine lv_bipush (v := 12) hx hb d_Layout_addDirectory_4 (by decide) ?_
  refine lv_icmp_ge (tgt := 39) hx hb d_Layout_addDirectory_6 (by decide) (fun h_9 => ?_) (fun h_9 => ?_)
  · skip
    have g6_4 : 12 ≤ ld.toInt := (i_le (by decide) rfl).mp h_9
    have hP9 := hP.sub (ws' := [(l0, .inr (3, [.int ln, .int lds, .int ltb, .ref lo, .ref lp, .ref lt, .ref lb, .ref le, .int lc, .int ld])), (lp, .inl (cI, 12, .inl fp)), (lt, .inl (cI, 40, .inl ft))]) [0, 1, 2] rfl
    have hD9 := hD.sub (ws' := [(l0, .inr (3, [.int ln, .int lds, .int ltb, .ref lo, .ref lp, .ref lt, .ref lb, .ref le, .int lc, .int ld])), (lp, .inl (cI, 12, .inl fp)), (lt, .inl (cI, 40, .inl ft))]) [0, 1, 2] (by decide +kernel) rfl
    exact W.vret hx hb hr (fun t ht hW => ⟨⟨(ld, fp, ft), rfl, ⟨(by (try dsimp only); first | assumption | omega | trivial), hpo⟩, by rw [ht]; exact hP9, hD9⟩, hS.F ht⟩) hS.2.2 d_Layout_addDirectory_39
  · skip
    have g6_4 : ¬ 12 ≤ ld.toInt := fun h8 => h_9 ((i_le (by decide) rfl).mpr h8)
    refine lv_aload_n hx hb d_Layout_addDirectory_9 rfl (lv_at hl 0 rfl) ?_
    refine va_get (D := D) (ci := 3) (v := .ref lp) (C := "DiscMaker$Layout") (T := F_Layout) (N := 10) hx hb ht9 in_Layout hown hK hP 0 rfl rfl 4 (by decide) (ht9 _ k288) (fun _ h9 => h9) rfl d_Layout_addDirectory_10 ?_
    refine lv_aload_n hx hb d_Layout_addDirectory_13 rfl (lv_at hl 0 rfl) ?_
    refine va_get (D := D) (ci := 3) (v := .int ld) (C := "DiscMaker$Layout") (T := F_Layout) (N := 10) hx hb ht9 in_Layout hown hK hP 0 rfl rfl 9 (by decide) (ht9 _ k298) (fun _ h9 => h9) rfl d_Layout_addDirectory_14 ?_
    refine lv_iload_n hx hb d_Layout_addDirectory_17 rfl (lv_at hl 1 rfl) ?_
    refine zq_iast hx hb hK hP hD hS 1 1 rfl rfl (vp_in_iff.mpr ⟨by omega, by omega⟩) d_Layout_addDirectory_18 (fun fz1 e_fz1 H locs hP hD hS => ?_)
    have hP : va_P D CL [(l0, .inr (3, [.int ln, .int lds, .int ltb, .ref lo, .ref lp, .ref lt, .ref lb, .ref le, .int lc, .int ld])), (lp, .inl (cI, 12, .inl fz1)), (lt, .inl (cI, 40, .inl ft))] H := hP
    have hD : va_D A [(l0, .inr (3, [.int ln, .int lds, .int ltb, .ref lo, .ref lp, .ref lt, .ref lb, .ref le, .int lc, .int ld])), (lp, .inl (cI, 12, .inl fz1)), (lt, .inl (cI, 40, .inl ft))] := hD
    have s_fz1 : fz1 ld.toNatClampNeg = x := by rw [e_fz1]; unfold upd; rw [if_pos (by first | rfl | decide)]
    refine lv_aload_n hx hb d_Layout_addDirectory_19 rfl (lv_at hl 0 rfl) ?_
    refine lv_dup hx hb d_Layout_addDirectory_20 rfl ?_
    refine va_get (D := D) (ci := 3) (v := .int ld) (C := "DiscMaker$Layout") (T := F_Layout) (N := 10) hx hb ht9 in_Layout hown hK hP 0 rfl rfl 9 (by decide) (ht9 _ k298) (fun _ h9 => h9) rfl d_Layout_addDirectory_21 ?_
    refine lv_iconst (v := 1) hx hb d_Layout_addDirectory_24 (by decide) ?_
    refine lv_iadd hx hb d_Layout_addDirectory_25 ?_
    refine lv_topi (fun v2 e_v2 => ?_)
    have t_v2 : v2.toInt = ld.toInt + 1 := by rw [e_v2]; exact i_add rfl (by decide) (by omega) (by omega)
    refine va_put (D := D) (ci := 3) (v := .int v2) (ty := .int) (C := "DiscMaker$Layout") (T := F_Layout) (N := 10) hx hb ht9 in_Layout t_Layout t_Layout_ok n_Layout hown hK hP hD hS 0 rfl rfl 9 (by decide) (ht9 _ k298) (fun _ h9 => h9) rfl (by decide +kernel) rfl rfl (Nat.le_of_ble_eq_true rfl) d_Layout_addDirectory_26 (fun H locs hP hD hS => ?_)
    have hP : va_P D CL [(l0, .inr (3, [.int ln, .int lds, .int ltb, .ref lo, .ref lp, .ref lt, .ref lb, .ref le, .int lc, .int v2])), (lp, .inl (cI, 12, .inl fz1)), (lt, .inl (cI, 40, .inl ft))] H := hP
    have hD : va_D A [(l0, .inr (3, [.int ln, .int lds, .int ltb, .ref lo, .ref lp, .ref lt, .ref lb, .ref le, .int lc, .int v2])), (lp, .inl (cI, 12, .inl fz1)), (lt, .inl (cI, 40, .inl ft))] := hD
    refine lv_aload_n hx hb d_Layout_addDirectory_29 rfl (lv_at hl 0 rfl) ?_
    refine va_get (D := D) (ci := 3) (v := .ref lt) (C := "DiscMaker$Layout") (T := F_Layout) (N := 10) hx hb ht9 in_Layout hown hK hP 0 rfl rfl 5 (by decide) (ht9 _ k290) (fun _ h9 => h9) rfl d_Layout_addDirectory_30 ?_
    refine lv_iload_n hx hb d_Layout_addDirectory_33 rfl (lv_at hl 1 rfl) ?_
    refine lv_aload_n hx hb d_Layout_addDirectory_34 rfl (lv_at hl 0 rfl) ?_
    refine va_get (D := D) (ci := 3) (v := .int v2) (C := "DiscMaker$Layout") (T := F_Layout) (N := 10) hx hb ht9 in_Layout hown hK hP 0 rfl rfl 9 (by decide) (ht9 _ k298) (fun _ h9 => h9) rfl d_Layout_addDirectory_35 ?_
    refine zq_iast hx hb hK hP hD hS 2 1 rfl rfl (vp_in_iff.mpr ⟨by omega, by omega⟩) d_Layout_addDirectory_38 (fun fz3 e_fz3 H locs hP hD hS => ?_)
    have hP : va_P D CL [(l0, .inr (3, [.int ln, .int lds, .int ltb, .ref lo, .ref lp, .ref lt, .ref lb, .ref le, .int lc, .int v2])), (lp, .inl (cI, 12, .inl fz1)), (lt, .inl (cI, 40, .inl fz3))] H := hP
    have hD : va_D A [(l0, .inr (3, [.int ln, .int lds, .int ltb, .ref lo, .ref lp, .ref lt, .ref lb, .ref le, .int lc, .int v2])), (lp, .inl (cI, 12, .inl fz1)), (lt, .inl (cI, 40, .inl fz3))] := hD
    have s_fz3 : fz3 x.toNatClampNeg = v2 := by rw [e_fz3]; unfold upd; rw [if_pos (by first | rfl | decide)]
    have hP9 := hP.sub (ws' := [(l0, .inr (3, [.int ln, .int lds, .int ltb, .ref lo, .ref lp, .ref lt, .ref lb, .ref le, .int lc, .int v2])), (lp, .inl (cI, 12, .inl fz1)), (lt, .inl (cI, 40, .inl fz3))]) [0, 1, 2] rfl
    have hD9 := hD.sub (ws' := [(l0, .inr (3, [.int ln, .int lds, .int ltb, .ref lo, .ref lp, .ref lt, .ref lb, .ref le, .int lc, .int v2])), (lp, .inl (cI, 12, .inl fz1)), (lt, .inl (cI, 40, .inl fz3))]) [0, 1, 2] (by decide +kernel) rfl
    exact W.vret hx hb hr (fun t ht hW => ⟨⟨(v2, fz1, fz3), rfl, ⟨(by (try dsimp only); first | assumption | omega | trivial), (OrdOK_push hpo e_fz1 (i_cl (a := ld) (by omega)) (by omega) (by omega))⟩, by rw [ht]; exact hP9, hD9⟩, hS.F ht⟩) hS.2.2 d_Layout_addDirectory_39

theorem d_Layout_orderOf_0 : decode b_Layout_orderOf 0 = .ok (.aload_n 0, 1) := by decide +kernel
theorem d_Layout_orderOf_1 : decode b_Layout_orderOf 1 = .ok (.getfield 27, 3) := by decide +kernel
theorem d_Layout_orderOf_4 : decode b_Layout_orderOf 4 = .ok (.ifCond .eq 10, 3) := by decide +kernel
theorem d_Layout_orderOf_7 : decode b_Layout_orderOf 7 = .ok (.aload_n 1, 1) := by decide +kernel
theorem d_Layout_orderOf_8 : decode b_Layout_orderOf 8 = .ok (.getfield 79, 3) := by decide +kernel
theorem d_Layout_orderOf_11 : decode b_Layout_orderOf 11 = .ok (.goto 7, 3) := by decide +kernel
theorem d_Layout_orderOf_14 : decode b_Layout_orderOf 14 = .ok (.aload_n 1, 1) := by decide +kernel
theorem d_Layout_orderOf_15 : decode b_Layout_orderOf 15 = .ok (.getfield 83, 3) := by decide +kernel
theorem d_Layout_orderOf_18 : decode b_Layout_orderOf 18 = .ok (.areturn, 1) := by decide +kernel
set_option maxHeartbeats 4000000 in
set_option maxRecDepth 100000 in
theorem c3_orderOf (l : Launch) (D : va_G) (cB cI cJ cZ cN cF : ClassId) (sz : Nat) (l0 : Nat) (lo : Nat) (lp : Nat) (lt : Nat) (lb : Nat) (le : Nat) (ln : Int32) (lds : Int32) (ltb : Int32) (lc : Int32) (ld : Int32) (h0 : Nat) (kna : Nat) (kke : Nat) (kta : Nat) (so : Int32) (nu : Int32) (pa : Int32) (ab : Int32) (mo : Int32) (ow : Int32) (gr : Int32) (si : Int32) (sd : Int32) : Met l y_Layout_orderOf w_Layout_orderOf ({ frames := 0, cells := 0, slots := 0, locals := 0 }) (va_Pc [.ref l0, .ref h0] (fun U => U.heap.size = sz ∧ va_P D CL [(l0, .inr (3, [.int ln, .int lds, .int ltb, .ref lo, .ref lp, .ref lt, .ref lb, .ref le, .int lc, .int ld]))] U.heap ∧ va_K D CL (TY cB cI cJ cZ cN cF) U ∧ NN U ∧ va_D (fun _ => True) [(l0, .inr (3, [.int ln, .int lds, .int ltb, .ref lo, .ref lp, .ref lt, .ref lb, .ref le, .int lc, .int ld]))] ∧ RO D [(h0, .inr (5, [.int so, .ref kna, .ref kke, .ref kta, .int nu, .int pa, .int ab, .int mo, .int ow, .int gr, .int si, .int sd]))] (va_A [(l0, .inr (3, [.int ln, .int lds, .int ltb, .ref lo, .ref lp, .ref lt, .ref lb, .ref le, .int lc, .int ld]))] sz) U U.heap)) (va_Qr (fun (u : Nat) => match u with | ra9 => ((ln.toInt ≠ 0 ∧ ra9 = kna) ∨ (ln.toInt = 0 ∧ ra9 = kke))) (fun (u : Nat) (a : Nat) (t : State) => match u with | ra9 => (a = ra9) ∧ va_P D CL [(l0, .inr (3, [.int ln, .int lds, .int ltb, .ref lo, .ref lp, .ref lt, .ref lb, .ref le, .int lc, .int ld]))] t.heap ∧ va_D (va_A [(l0, .inr (3, [.int ln, .int lds, .int ltb, .ref lo, .ref lp, .ref lt, .ref lb, .ref le, .int lc, .int ld]))] sz) [(l0, .inr (3, [.int ln, .int lds, .int ltb, .ref lo, .ref lp, .ref lt, .ref lb, .ref le, .int lc, .int ld]))]) (va_A [(l0, .inr (3, [.int ln, .int lds, .int ltb, .ref lo, .ref lp, .ref lt, .ref lb, .ref le, .int lc, .int ld]))] sz)) 0 0 (va_A [(l0, .inr (3, [.int ln, .int lds, .int ltb, .ref lo, .ref lp, .ref lt, .ref lb, .ref le, .int lc, .int ld]))] sz) := by
  refine Met.ofW (cc := b_Layout_orderOf) (maxL := 2) (ret := some (.array .byte)) (by decide +kernel) rfl ?_
  intro p e s m args below meth c s₁ B hml hv
  obtain ⟨rfl, hsz, hP, hK, hN, hD0, hZr⟩ := hv
  have hx := B.exec
  have hb := B.bytes
  have hr := B.returns
  have hts := atoms_spec (ws := w_Layout_orderOf) B.pre
  have ht9 := fun (w : Cond) (h : w ∈ lw_g) => hts w (List.mem_cons_of_mem _ h)
  have hown : s.vm.findClass "DiscMaker$Layout" = some m.cls := findClass_of_methodNamed B.named
  have hlocks := B.notSynchronized
  subst hsz
  have hD := hD0.self (sz := s.heap.size)
  generalize hAe : va_A [(l0, .inr (3, [.int ln, .int lds, .int ltb, .ref lo, .ref lp, .ref lt, .ref lb, .ref le, .int lc, .int ld]))] s.heap.size = A at hD hZr ⊢
  have hA : ∀ q : Nat, s.heap.size ≤ q → A q := fun q h => by rw [← hAe]; exact Or.inr h
  have hS : va_S A s.heap s.heap [] := va_S.rf
  have hP : va_P D CL [(l0, .inr (3, [.int ln, .int lds, .int ltb, .ref lo, .ref lp, .ref lt, .ref lb, .ref le, .int lc, .int ld]))] s.heap := hP
  have hl := lv_entry [.ref l0, .ref h0] (n := 2) (Nat.le_of_ble_eq_true rfl)
  rw [lg_entry_eq]
  generalize (lg_sl [.ref l0, .ref h0] ++ List.replicate (2 - (lg_sl [.ref l0, .ref h0]).length) Slot.unset).toArray = ls at hl ⊢
  have hl : lv_has ls 2 [(0, .ref l0), (1, .ref h0)] := hl
  have L_m1 : ((-1) : Int32).toInt = (-1) := by decide
  have L_0 : (0 : Int32).toInt = 0 := by decide
  have L_1 : (1 : Int32).toInt = 1 := by decide
  refine lv_aload_n hx hb d_Layout_orderOf_0 rfl (lv_at hl 0 rfl) ?_
  refine va_get (D := D) (ci := 3) (v := .int ln) (C := "DiscMaker$Layout") (T := F_Layout) (N := 10) hx hb ht9 in_Layout hown hK hP 0 rfl rfl 0 (by decide) (ht9 _ k280) (fun _ h9 => h9) rfl d_Layout_orderOf_1 ?_
  refine lv_if_eq (tgt := 14) hx hb d_Layout_orderOf_4 (by decide) (fun h_9 => ?_) (fun h_9 => ?_)
  · skip
    have g4_3 : ln.toInt = 0 := (i_eq rfl (by decide)).mp h_9
    refine lv_aload_n hx hb d_Layout_orderOf_14 rfl (lv_at hl 1 rfl) ?_
    have hPR := RO_at hZr hS
    refine va_getN (D := D) (ci := 5) (v := .ref kke) (C := "DiscMaker$Node") (T := F_Node) (N := 12) hx hb ht9 in_Node hown hK hPR 0 rfl rfl 2 (by decide) (va_Nw.use rfl (hN _ k189)) (fun _ h9 => h9) rfl d_Layout_orderOf_15 ?_
    have hP9 := hP.sub (ws' := [(l0, .inr (3, [.int ln, .int lds, .int ltb, .ref lo, .ref lp, .ref lt, .ref lb, .ref le, .int lc, .int ld]))]) [0] rfl
    have hD9 := hD.sub (ws' := [(l0, .inr (3, [.int ln, .int lds, .int ltb, .ref lo, .ref lp, .ref lt, .ref lb, .ref le, .int lc, .int ld]))]) [0] (by decide +kernel) rfl
    exact W.aret (v := .ref kke) hx hb hr (Or.inr ⟨_, rfl⟩) (Or.inr ⟨_, rfl⟩) (fun t ht hW => ⟨⟨kke, kke, rfl, (Or.inr ⟨by omega, rfl⟩), rfl, by rw [ht]; exact hP9, hD9⟩, hS.F ht⟩) hS.2.2 d_Layout_orderOf_18
  · skip
    have g4_3 : ¬ ln.toInt = 0 := fun h8 => h_9 ((i_eq rfl (by decide)).mpr h8)
    refine lv_aload_n hx hb d_Layout_orderOf_7 rfl (lv_at hl 1 rfl) ?_
    have hPR := RO_at hZr hS
    refine va_getN (D := D) (ci := 5) (v := .ref kna) (C := "DiscMaker$Node") (T := F_Node) (N := 12) hx hb ht9 in_Node hown hK hPR 0 rfl rfl 1 (by decide) (va_Nw.use rfl (hN _ k184)) (fun _ h9 => h9) rfl d_Layout_orderOf_8 ?_
    refine lv_goto (tgt := 18) hx hb d_Layout_orderOf_11 (by decide) ?_
    have hP9 := hP.sub (ws' := [(l0, .inr (3, [.int ln, .int lds, .int ltb, .ref lo, .ref lp, .ref lt, .ref lb, .ref le, .int lc, .int ld]))]) [0] rfl
    have hD9 := hD.sub (ws' := [(l0, .inr (3, [.int ln, .int lds, .int ltb, .ref lo, .ref lp, .ref lt, .ref lb, .ref le, .int lc, .int ld]))]) [0] (by decide +kernel) rfl
    exact W.aret (v := .ref kna) hx hb hr (Or.inr ⟨_, rfl⟩) (Or.inr ⟨_, rfl⟩) (fun t ht hW => ⟨⟨kna, kna, rfl, (Or.inl ⟨by omega, rfl⟩), rfl, by rw [ht]; exact hP9, hD9⟩, hS.F ht⟩) hS.2.2 d_Layout_orderOf_18

theorem d_Layout_insert_0 : decode b_Layout_insert 0 = .ok (.aload_n 0, 1) := by decide +kernel
theorem d_Layout_insert_1 : decode b_Layout_insert 1 = .ok (.getfield 38, 3) := by decide +kernel
theorem d_Layout_insert_4 : decode b_Layout_insert 4 = .ok (.istore_n 3, 1) := by decide +kernel
theorem d_Layout_insert_5 : decode b_Layout_insert 5 = .ok (.iload_n 3, 1) := by decide +kernel
theorem d_Layout_insert_6 : decode b_Layout_insert 6 = .ok (.ifCond .le 51, 3) := by decide +kernel
theorem d_Layout_insert_9 : decode b_Layout_insert 9 = .ok (.aload_n 0, 1) := by decide +kernel
theorem d_Layout_insert_10 : decode b_Layout_insert 10 = .ok (.aload_n 1, 1) := by decide +kernel
theorem d_Layout_insert_11 : decode b_Layout_insert 11 = .ok (.getfield 44, 3) := by decide +kernel
theorem d_Layout_insert_14 : decode b_Layout_insert 14 = .ok (.aload_n 0, 1) := by decide +kernel
theorem d_Layout_insert_15 : decode b_Layout_insert 15 = .ok (.getfield 9, 3) := by decide +kernel
theorem d_Layout_insert_18 : decode b_Layout_insert 18 = .ok (.iload_n 3, 1) := by decide +kernel
theorem d_Layout_insert_19 : decode b_Layout_insert 19 = .ok (.iconst 1, 1) := by decide +kernel
theorem d_Layout_insert_20 : decode b_Layout_insert 20 = .ok (.isub, 1) := by decide +kernel
theorem d_Layout_insert_21 : decode b_Layout_insert 21 = .ok (.iaload, 1) := by decide +kernel
theorem d_Layout_insert_22 : decode b_Layout_insert 22 = .ok (.aaload, 1) := by decide +kernel
theorem d_Layout_insert_23 : decode b_Layout_insert 23 = .ok (.invokevirtual 68, 3) := by decide +kernel
theorem d_Layout_insert_26 : decode b_Layout_insert 26 = .ok (.aload_n 0, 1) := by decide +kernel
theorem d_Layout_insert_27 : decode b_Layout_insert 27 = .ok (.aload_n 2, 1) := by decide +kernel
theorem d_Layout_insert_28 : decode b_Layout_insert 28 = .ok (.invokevirtual 68, 3) := by decide +kernel
theorem d_Layout_insert_31 : decode b_Layout_insert 31 = .ok (.invokestatic 72, 3) := by decide +kernel
theorem d_Layout_insert_34 : decode b_Layout_insert 34 = .ok (.ifCond .le 23, 3) := by decide +kernel
theorem d_Layout_insert_37 : decode b_Layout_insert 37 = .ok (.aload_n 0, 1) := by decide +kernel
theorem d_Layout_insert_38 : decode b_Layout_insert 38 = .ok (.getfield 9, 3) := by decide +kernel
theorem d_Layout_insert_41 : decode b_Layout_insert 41 = .ok (.iload_n 3, 1) := by decide +kernel
theorem d_Layout_insert_42 : decode b_Layout_insert 42 = .ok (.aload_n 0, 1) := by decide +kernel
theorem d_Layout_insert_43 : decode b_Layout_insert 43 = .ok (.getfield 9, 3) := by decide +kernel
theorem d_Layout_insert_46 : decode b_Layout_insert 46 = .ok (.iload_n 3, 1) := by decide +kernel
theorem d_Layout_insert_47 : decode b_Layout_insert 47 = .ok (.iconst 1, 1) := by decide +kernel
theorem d_Layout_insert_48 : decode b_Layout_insert 48 = .ok (.isub, 1) := by decide +kernel
theorem d_Layout_insert_49 : decode b_Layout_insert 49 = .ok (.iaload, 1) := by decide +kernel
theorem d_Layout_insert_50 : decode b_Layout_insert 50 = .ok (.iastore, 1) := by decide +kernel
theorem d_Layout_insert_51 : decode b_Layout_insert 51 = .ok (.iinc 3 (-1), 3) := by decide +kernel
theorem d_Layout_insert_54 : decode b_Layout_insert 54 = .ok (.goto (-49), 3) := by decide +kernel
theorem d_Layout_insert_57 : decode b_Layout_insert 57 = .ok (.aload_n 0, 1) := by decide +kernel
theorem d_Layout_insert_58 : decode b_Layout_insert 58 = .ok (.getfield 9, 3) := by decide +kernel
theorem d_Layout_insert_61 : decode b_Layout_insert 61 = .ok (.iload_n 3, 1) := by decide +kernel
theorem d_Layout_insert_62 : decode b_Layout_insert 62 = .ok (.aload_n 2, 1) := by decide +kernel
theorem d_Layout_insert_63 : decode b_Layout_insert 63 = .ok (.getfield 76, 3) := by decide +kernel
theorem d_Layout_insert_66 : decode b_Layout_insert 66 = .ok (.iastore, 1) := by decide +kernel
theorem d_Layout_insert_67 : decode b_Layout_insert 67 = .ok (.aload_n 0, 1) := by decide +kernel
theorem d_Layout_insert_68 : decode b_Layout_insert 68 = .ok (.dup, 1) := by decide +kernel
theorem d_Layout_insert_69 : decode b_Layout_insert 69 = .ok (.getfield 38, 3) := by decide +kernel
theorem d_Layout_insert_72 : decode b_Layout_insert 72 = .ok (.iconst 1, 1) := by decide +kernel
theorem d_Layout_insert_73 : decode b_Layout_insert 73 = .ok (.iadd, 1) := by decide +kernel
theorem d_Layout_insert_74 : decode b_Layout_insert 74 = .ok (.putfield 38, 3) := by decide +kernel
theorem d_Layout_insert_77 : decode b_Layout_insert 77 = .ok (.return_, 1) := by decide +kernel
set_option maxHeartbeats 4000000 in
set_option maxRecDepth 100000 in
theorem c3_insert (l : Launch) (D : va_G) (cB cI cJ cZ cN cF : ClassId) (sz : Nat) (l0 : Nat) (lo : Nat) (lp : Nat) (lt : Nat) (lb : Nat) (le : Nat) (ln : Int32) (lds : Int32) (ltb : Int32) (lc : Int32) (ld : Int32) (tr : Nat) (ta : Nat) (cn : Int32) (dr : Int32) (na : Nat → Nat → Nat) (ng : Nat → Nat → Int32) (nn : Nat → Nat → Nat) (nf : Nat → Nat → Nat → Int32) (cm : Nat) (h0 : Nat) (kna : Nat) (kke : Nat) (kta : Nat) (so : Int32) (nu : Int32) (pa : Int32) (ab : Int32) (mo : Int32) (ow : Int32) (gr : Int32) (si : Int32) (sd : Int32) (l1 : Nat) (c1 : Nat → Int32) (c2 : Nat → Int32) (fo : Nat → Int32) (hcn : cn.toInt = cm) (hcm : cm ≤ 40) (htok : TOK cm ng nn) (hlc : 0 ≤ lc.toInt ∧ lc.toInt < 40) (hoo : OrdOK lc.toInt cm fo) (hl1 : l1 ≤ 400) (hnu : 0 ≤ nu.toInt ∧ nu.toInt < cm) : Met l y_Layout_insert w_Layout_insert ({ frames := 2, cells := 0, slots := 0, locals := 59 }) (va_Pc [.ref l0, .ref tr, .ref h0] (fun U => U.heap.size = sz ∧ va_P D CL [(l0, .inr (3, [.int ln, .int lds, .int ltb, .ref lo, .ref lp, .ref lt, .ref lb, .ref le, .int lc, .int ld])), (lo, .inl (cI, 40, .inl fo))] U.heap ∧ va_K D CL (TY cB cI cJ cZ cN cF) U ∧ NN U ∧ va_D (fun _ => True) [(l0, .inr (3, [.int ln, .int lds, .int ltb, .ref lo, .ref lp, .ref lt, .ref lb, .ref le, .int lc, .int ld])), (lo, .inl (cI, 40, .inl fo))] ∧ RO D (([(tr, .inr (10, [.ref ta, .int cn, .int dr])), (ta, .inl (cN, 40, .inr (.inr (.inr (.inr (rowF na cm)))))), (h0, .inr (5, [.int so, .ref kna, .ref kke, .ref kta, .int nu, .int pa, .int ab, .int mo, .int ow, .int gr, .int si, .int sd])), (kna, .inl (cB, l1, .inl c1)), (kke, .inl (cB, 11, .inl c2))] : va_W) ++ (PL (NC cB na ng nn nf) cm)) (va_A [(l0, .inr (3, [.int ln, .int lds, .int ltb, .ref lo, .ref lp, .ref lt, .ref lb, .ref le, .int lc, .int ld])), (lo, .inl (cI, 40, .inl fo))] sz) U U.heap)) (va_Qv (fun (u : (Nat → Int32) × Int32) => match u with | (go, lc2) => (lc2.toInt = lc.toInt + 1) ∧ (OrdOK lc2.toInt cm go)) (fun (u : (Nat → Int32) × Int32) (t : State) => match u with | (go, lc2) => va_P D CL [(l0, .inr (3, [.int ln, .int lds, .int ltb, .ref lo, .ref lp, .ref lt, .ref lb, .ref le, .int lc2, .int ld])), (lo, .inl (cI, 40, .inl go))] t.heap ∧ va_D (va_A [(l0, .inr (3, [.int ln, .int lds, .int ltb, .ref lo, .ref lp, .ref lt, .ref lb, .ref le, .int lc, .int ld])), (lo, .inl (cI, 40, .inl fo))] sz) [(l0, .inr (3, [.int ln, .int lds, .int ltb, .ref lo, .ref lp, .ref lt, .ref lb, .ref le, .int lc2, .int ld])), (lo, .inl (cI, 40, .inl go))]) (va_A [(l0, .inr (3, [.int ln, .int lds, .int ltb, .ref lo, .ref lp, .ref lt, .ref lb, .ref le, .int lc, .int ld])), (lo, .inl (cI, 40, .inl fo))] sz)) 0 0 (va_A [(l0, .inr (3, [.int ln, .int lds, .int ltb, .ref lo, .ref lp, .ref lt, .ref lb, .ref le, .int lc, .int ld])), (lo, .inl (cI, 40, .inl fo))] sz) := by
  refine Met.ofW (cc := b_Layout_insert) (maxL := 4) (ret := none) (by decide +kernel) rfl ?_
  intro p e s m args below meth c s₁ B hml hv
  obtain ⟨rfl, hsz, hP, hK, hN, hD0, hZr⟩ := hv
  have hx := B.exec
  have hb := B.bytes
  have hr := B.returns
  have hts := atoms_spec (ws := w_Layout_insert) B.pre
  have ht9 := fun (w : Cond) (h : w ∈ lw_g) => hts w (List.mem_cons_of_mem _ h)
  have hown : s.vm.findClass "DiscMaker$Layout" = some m.cls := findClass_of_methodNamed B.named
  have hlocks := B.notSynchronized
  subst hsz
  have hD := hD0.self (sz := s.heap.size)
  generalize hAe : va_A [(l0, .inr (3, [.int ln, .int lds, .int ltb, .ref lo, .ref lp, .ref lt, .ref lb, .ref le, .int lc, .int ld])), (lo, .inl (cI, 40, .inl fo))] s.heap.size = A at hD hZr ⊢
  have hA : ∀ q : Nat, s.heap.size ≤ q → A q := fun q h => by rw [← hAe]; exact Or.inr h
  have hS : va_S A s.heap s.heap [] := va_S.rf
  have hP : va_P D CL [(l0, .inr (3, [.int ln, .int lds, .int ltb, .ref lo, .ref lp, .ref lt, .ref lb, .ref le, .int lc, .int ld])), (lo, .inl (cI, 40, .inl fo))] s.heap := hP
  have hl := lv_entry [.ref l0, .ref tr, .ref h0] (n := 4) (Nat.le_of_ble_eq_true rfl)
  rw [lg_entry_eq]
  generalize (lg_sl [.ref l0, .ref tr, .ref h0] ++ List.replicate (4 - (lg_sl [.ref l0, .ref tr, .ref h0]).length) Slot.unset).toArray = ls at hl ⊢
  have hl : lv_has ls 4 [(0, .ref l0), (1, .ref tr), (2, .ref h0)] := hl
  have L_m1 : ((-1) : Int32).toInt = (-1) := by decide
  have L_0 : (0 : Int32).toInt = 0 := by decide
  have L_1 : (1 : Int32).toInt = 1 := by decide
  refine lv_aload_n hx hb d_Layout_insert_0 rfl (lv_at hl 0 rfl) ?_
  refine va_get (D := D) (ci := 3) (v := .int lc) (C := "DiscMaker$Layout") (T := F_Layout) (N := 10) hx hb ht9 in_Layout hown hK hP 0 rfl rfl 8 (by decide) (ht9 _ k296) (fun _ h9 => h9) rfl d_Layout_insert_1 ?_
  refine lv_istore_n hx hb d_Layout_insert_4 rfl hl (by decide) rfl (fun ls hl => ?_)
  have hl : lv_has ls 4 [(3, .int lc), (0, .ref l0), (1, .ref tr), (2, .ref h0)] := hl
  refine zz_labM (B := fun (lk : Nat) (K : Heap → List Loc → Array Slot → List Value → Prop) => ∀ (la : Int32) (lfo : Nat → Int32) (H : Heap) (locs : List Loc) (ls : Array Slot), lk = la.toInt.toNat → (0 ≤ la.toInt ∧ la.toInt ≤ lc.toInt) → (OrdX lc.toInt la.toInt cm lfo) → va_P D CL [(l0, .inr (3, [.int ln, .int lds, .int ltb, .ref lo, .ref lp, .ref lt, .ref lb, .ref le, .int lc, .int ld])), (lo, .inl (cI, 40, .inl lfo))] H → va_D A [(l0, .inr (3, [.int ln, .int lds, .int ltb, .ref lo, .ref lp, .ref lt, .ref lb, .ref le, .int lc, .int ld])), (lo, .inl (cI, 40, .inl lfo))] → va_S A s.heap H locs → lv_has ls 4 [(0, .ref l0), (1, .ref tr), (2, .ref h0), (3, .int la)] → K H locs ls []) 5 ?_ ?_
  · skip
    intro lk ih5 la lfo H locs ls hm5 e1 e2 hP hD hS hl
    refine lv_iload_n hx hb d_Layout_insert_5 rfl (lv_at hl 3 rfl) ?_
    refine lv_if_le (tgt := 57) hx hb d_Layout_insert_6 (by decide) (fun h_9 => ?_) (fun h_9 => ?_)
    · skip
      have g6_5 : la.toInt ≤ 0 := (i_le rfl (by decide)).mp h_9
      refine lv_aload_n hx hb d_Layout_insert_57 rfl (lv_at hl 0 rfl) ?_
      refine va_get (D := D) (ci := 3) (v := .ref lo) (C := "DiscMaker$Layout") (T := F_Layout) (N := 10) hx hb ht9 in_Layout hown hK hP 0 rfl rfl 3 (by decide) (ht9 _ k286) (fun _ h9 => h9) rfl d_Layout_insert_58 ?_
      refine lv_iload_n hx hb d_Layout_insert_61 rfl (lv_at hl 3 rfl) ?_
      refine lv_aload_n hx hb d_Layout_insert_62 rfl (lv_at hl 2 rfl) ?_
      have hPR := RO_at hZr hS
      refine va_getN (D := D) (ci := 5) (v := .int nu) (C := "DiscMaker$Node") (T := F_Node) (N := 12) hx hb ht9 in_Node hown hK hPR 2 rfl rfl 4 (by decide) (va_Nw.use rfl (hN _ k193)) (fun _ h9 => h9) rfl d_Layout_insert_63 ?_
      refine zq_iast hx hb hK hP hD hS 1 1 rfl rfl (vp_in_iff.mpr ⟨by omega, by omega⟩) d_Layout_insert_66 (fun fz1 e_fz1 H locs hP hD hS => ?_)
      have hP : va_P D CL [(l0, .inr (3, [.int ln, .int lds, .int ltb, .ref lo, .ref lp, .ref lt, .ref lb, .ref le, .int lc, .int ld])), (lo, .inl (cI, 40, .inl fz1))] H := hP
      have hD : va_D A [(l0, .inr (3, [.int ln, .int lds, .int ltb, .ref lo, .ref lp, .ref lt, .ref lb, .ref le, .int lc, .int ld])), (lo, .inl (cI, 40, .inl fz1))] := hD
      have s_fz1 : fz1 la.toNatClampNeg = nu := by rw [e_fz1]; unfold upd; rw [if_pos (by first | rfl | decide)]
      refine lv_aload_n hx hb d_Layout_insert_67 rfl (lv_at hl 0 rfl) ?_
      refine lv_dup hx hb d_Layout_insert_68 rfl ?_
      refine va_get (D := D) (ci := 3) (v := .int lc) (C := "DiscMaker$Layout") (T := F_Layout) (N := 10) hx hb ht9 in_Layout hown hK hP 0 rfl rfl 8 (by decide) (ht9 _ k296) (fun _ h9 => h9) rfl d_Layout_insert_69 ?_
      refine lv_iconst (v := 1) hx hb d_Layout_insert_72 (by decide) ?_
      refine lv_iadd hx hb d_Layout_insert_73 ?_
      refine lv_topi (fun v2 e_v2 => ?_)
      have t_v2 : v2.toInt = lc.toInt + 1 := by rw [e_v2]; exact i_add rfl (by decide) (by omega) (by omega)
      refine va_put (D := D) (ci := 3) (v := .int v2) (ty := .int) (C := "DiscMaker$Layout") (T := F_Layout) (N := 10) hx hb ht9 in_Layout t_Layout t_Layout_ok n_Layout hown hK hP hD hS 0 rfl rfl 8 (by decide) (ht9 _ k296) (fun _ h9 => h9) rfl (by decide +kernel) rfl rfl (Nat.le_of_ble_eq_true rfl) d_Layout_insert_74 (fun H locs hP hD hS => ?_)
      have hP : va_P D CL [(l0, .inr (3, [.int ln, .int lds, .int ltb, .ref lo, .ref lp, .ref lt, .ref lb, .ref le, .int v2, .int ld])), (lo, .inl (cI, 40, .inl fz1))] H := hP
      have hD : va_D A [(l0, .inr (3, [.int ln, .int lds, .int ltb, .ref lo, .ref lp, .ref lt, .ref lb, .ref le, .int v2, .int ld])), (lo, .inl (cI, 40, .inl fz1))] := hD
      have hP9 := hP.sub (ws' := [(l0, .inr (3, [.int ln, .int lds, .int ltb, .ref lo, .ref lp, .ref lt, .ref lb, .ref le, .int v2, .int ld])), (lo, .inl (cI, 40, .inl fz1))]) [0, 1] rfl
      have hD9 := hD.sub (ws' := [(l0, .inr (3, [.int ln, .int lds, .int ltb, .ref lo, .ref lp, .ref lt, .ref lb, .ref le, .int v2, .int ld])), (lo, .inl (cI, 40, .inl fz1))]) [0, 1] (by decide +kernel) rfl
      exact W.vret hx hb hr (fun t ht hW => ⟨⟨(fz1, v2), rfl, ⟨(by (try dsimp only); first | assumption | omega | trivial), (OrdX_end e2 e_fz1 (i_cl (a := la) (by omega)) hnu (by omega))⟩, by rw [ht]; exact hP9, hD9⟩, hS.F ht⟩) hS.2.2 d_Layout_insert_77
    · skip
      have g6_5 : ¬ la.toInt ≤ 0 := fun h8 => h_9 ((i_le rfl (by decide)).mpr h8)
      refine lv_aload_n hx hb d_Layout_insert_9 rfl (lv_at hl 0 rfl) ?_
      refine lv_aload_n hx hb d_Layout_insert_10 rfl (lv_at hl 1 rfl) ?_
      have hPR := RO_at hZr hS
      refine va_getN (D := D) (ci := 10) (v := .ref ta) (C := "DiscMaker$Tree") (T := F_Tree) (N := 3) hx hb ht9 in_Tree hown hK hPR 0 rfl rfl 0 (by decide) (va_Nw.use rfl (hN _ k236)) (fun _ h9 => h9) rfl d_Layout_insert_11 ?_
      refine lv_aload_n hx hb d_Layout_insert_14 rfl (lv_at hl 0 rfl) ?_
      refine va_get (D := D) (ci := 3) (v := .ref lo) (C := "DiscMaker$Layout") (T := F_Layout) (N := 10) hx hb ht9 in_Layout hown hK hP 0 rfl rfl 3 (by decide) (ht9 _ k286) (fun _ h9 => h9) rfl d_Layout_insert_15 ?_
      refine lv_iload_n hx hb d_Layout_insert_18 rfl (lv_at hl 3 rfl) ?_
      refine lv_iconst (v := 1) hx hb d_Layout_insert_19 (by decide) ?_
      refine lv_isub hx hb d_Layout_insert_20 ?_
      refine lv_topi (fun v3 e_v3 => ?_)
      have t_v3 : v3.toInt = la.toInt - 1 := by rw [e_v3]; exact i_sub rfl (by decide) (by omega) (by omega)
      refine va_iald hx hb hK hP 1 1 rfl rfl (vp_in_iff.mpr ⟨by omega, by omega⟩) d_Layout_insert_21 ?_
      refine lv_topi (fun v4 e_v4 => ?_)
      have qv4 := OrdX_at e2 e_v4 (by have := i_cl (a := v3) (by omega); omega) (by have := i_cl (a := v3) (by omega); omega)
      have hPR := RO_at hZr hS
      refine va_aldq hx hb hK hPR 1 4 rfl rfl (vp_in_iff.mpr ⟨by omega, by omega⟩) d_Layout_insert_22 ?_
      have c_hk5 := i_cl (a := v4) (by omega)
      have hk5 : v4.toNatClampNeg < cm := by omega
      have o_hk5 := htok v4.toNatClampNeg hk5
      obtain ⟨i_hj6, hj6⟩ : ∃ j : Nat, (PL (NC cB na ng nn nf) cm)[j]? = some ((na v4.toNatClampNeg 0), .inr (5, [.int (ng v4.toNatClampNeg 0), .ref (na v4.toNatClampNeg 1), .ref (na v4.toNatClampNeg 2), .ref (na v4.toNatClampNeg 3), .int (ng v4.toNatClampNeg 1), .int (ng v4.toNatClampNeg 2), .int (ng v4.toNatClampNeg 3), .int (ng v4.toNatClampNeg 4), .int (ng v4.toNatClampNeg 5), .int (ng v4.toNatClampNeg 6), .int (ng v4.toNatClampNeg 7), .int (ng v4.toNatClampNeg 8)])) := PL_get (i := 0) hk5 rfl
      obtain ⟨i_hj7, hj7⟩ : ∃ j : Nat, (PL (NC cB na ng nn nf) cm)[j]? = some ((na v4.toNatClampNeg 1), .inl (cB, (nn v4.toNatClampNeg 1), .inl (nf v4.toNatClampNeg 1))) := PL_get (i := 1) hk5 rfl
      obtain ⟨i_hj8, hj8⟩ : ∃ j : Nat, (PL (NC cB na ng nn nf) cm)[j]? = some ((na v4.toNatClampNeg 2), .inl (cB, 11, .inl (nf v4.toNatClampNeg 2))) := PL_get (i := 2) hk5 rfl
      obtain ⟨i_hj9, hj9⟩ : ∃ j : Nat, (PL (NC cB na ng nn nf) cm)[j]? = some ((na v4.toNatClampNeg 3), .inl (cB, (nn v4.toNatClampNeg 3), .inl (nf v4.toNatClampNeg 3))) := PL_get (i := 3) hk5 rfl
      refine W.eq (g2 := F0 m 23 ls [.ref (na v4.toNatClampNeg 0), .ref l0]) (by rw [show rowF na cm v4.toNatClampNeg = some (na v4.toNatClampNeg 0) from rowF_some hk5]; rfl) ?_
      have hPc := hP.sub (ws' := [(l0, .inr (3, [.int ln, .int lds, .int ltb, .ref lo, .ref lp, .ref lt, .ref lb, .ref le, .int lc, .int ld]))]) [0] rfl
      have hDc := hD.sub (ws' := [(l0, .inr (3, [.int ln, .int lds, .int ltb, .ref lo, .ref lp, .ref lt, .ref lb, .ref le, .int lc, .int ld]))]) [0] (by decide +kernel) rfl
      have hFc := va_free (wc := [(l0, .inr (3, [.int ln, .int lds, .int ltb, .ref lo, .ref lp, .ref lt, .ref lb, .ref le, .int lc, .int ld]))]) hD hS hA [0] rfl
      have hkc : 0 ≤ 0 := by decide
      have hks : 0 ≤ 0 := by decide
      refine va_callr (va_runV (C := "DiscMaker$Layout") (As := [.ref (na v4.toNatClampNeg 0)]) (rest := []) ⟨hx, hb, hml, hown, hts⟩ (c3_orderOf l D cB cI cJ cZ cN cF H.size l0 lo lp lt lb le ln lds ltb lc ld (na v4.toNatClampNeg 0) (na v4.toNatClampNeg 1) (na v4.toNatClampNeg 2) (na v4.toNatClampNeg 3) (ng v4.toNatClampNeg 0) (ng v4.toNatClampNeg 1) (ng v4.toNatClampNeg 2) (ng v4.toNatClampNeg 3) (ng v4.toNatClampNeg 4) (ng v4.toNatClampNeg 5) (ng v4.toNatClampNeg 6) (ng v4.toNatClampNeg 7) (ng v4.toNatClampNeg 8)) (cwV 1 hts (lg_goodV k951 k953 k13 k121 kc_Layout_orderOf) rfl rfl rfl (by decide +kernel) ⟨Nat.le_of_ble_eq_true rfl, Nat.le_of_ble_eq_true rfl⟩) ⟨fun a U g mk q => by obtain ⟨q0, q1, qP, qK, qN, qD, qZ0⟩ := q; exact ⟨q0, q1, qP, va_K.moved (u := U) (U := U.calling g mk a) (Vm.Alike.refl U.vm) qK, qN.calling, qD, RO_blind qZ0⟩, va_recv hK hP (ci := 3) (q0 := 0) rfl rfl, fun U hU hW => ⟨rfl, by rw [hU], by rw [hU]; exact hPc, va_K.moved hW.alike hK, NN.warm hW hN, hDc.weaken (fun _ _ _ _ => trivial), (RO_pass (RO_one hZr _ (pix (X := [(tr, .inr (10, [.ref ta, .int cn, .int dr])), (ta, .inl (cN, 40, .inr (.inr (.inr (.inr (rowF na cm)))))), (h0, .inr (5, [.int so, .ref kna, .ref kke, .ref kta, .int nu, .int pa, .int ab, .int mo, .int ow, .int gr, .int si, .int sd])), (kna, .inl (cB, l1, .inl c1)), (kke, .inl (cB, 11, .inl c2))]) hj6)) hS hFc hU)⟩⟩ rfl rfl hl.1 rfl (lv_room (Nat.le_of_ble_eq_true rfl)) d_Layout_insert_23 ⟨hkc, hks⟩) hS (fun q _ h => hFc q h) hFc (fun u r10 t H1 locs ht hvm hp_r10 hB hz1 hk1 hS => ?_)
      obtain ⟨ra9_11, rfl⟩ : ∃ z, z = u := ⟨_, rfl⟩
      obtain ⟨hq_12, hP1, hD1⟩ := hB
      rw [ht] at hP1
      try rw [ht] at hq_12
      obtain ⟨hP, hD⟩ := va_join (wr := [(lo, .inl (cI, 40, .inl lfo))]) (w1 := [(l0, .inr (3, [.int ln, .int lds, .int ltb, .ref lo, .ref lp, .ref lt, .ref lb, .ref le, .int lc, .int ld]))]) hP hD [0] [1] rfl rfl (by decide +kernel) (by decide +kernel) hk1 hFc hP1 hD1
      clear hPc hDc hFc hP1 hD1 hk1 hz1 hkc hks
      generalize H1 = H at hP hS hq_12 ⊢
      have hP : va_P D CL [(lo, .inl (cI, 40, .inl lfo)), (l0, .inr (3, [.int ln, .int lds, .int ltb, .ref lo, .ref lp, .ref lt, .ref lb, .ref le, .int lc, .int ld]))] H := hP
      have hD : va_D A [(lo, .inl (cI, 40, .inl lfo)), (l0, .inr (3, [.int ln, .int lds, .int ltb, .ref lo, .ref lp, .ref lt, .ref lb, .ref le, .int lc, .int ld]))] := hD
      try dsimp only at hp_r10
      have hv_13 := hp_r10
      rcases hv_13 with ⟨hl9, hl8⟩ | ⟨hl9, hl8⟩
      · skip
        have hl7 : r10 = (na v4.toNatClampNeg 1) := hq_12.trans hl8
        refine W.eq (g2 := F0 m 26 ls [.ref (na v4.toNatClampNeg 1)]) (by rw [hl7]) ?_
        refine lv_aload_n hx hb d_Layout_insert_26 rfl (lv_at hl 0 rfl) ?_
        refine lv_aload_n hx hb d_Layout_insert_27 rfl (lv_at hl 2 rfl) ?_
        have hPc := hP.sub (ws' := [(l0, .inr (3, [.int ln, .int lds, .int ltb, .ref lo, .ref lp, .ref lt, .ref lb, .ref le, .int lc, .int ld]))]) [1] rfl
        have hDc := hD.sub (ws' := [(l0, .inr (3, [.int ln, .int lds, .int ltb, .ref lo, .ref lp, .ref lt, .ref lb, .ref le, .int lc, .int ld]))]) [1] (by decide +kernel) rfl
        have hFc := va_free (wc := [(l0, .inr (3, [.int ln, .int lds, .int ltb, .ref lo, .ref lp, .ref lt, .ref lb, .ref le, .int lc, .int ld]))]) hD hS hA [1] rfl
        have hkc : 0 ≤ 0 := by decide
        have hks : 0 ≤ 0 := by decide
        refine va_callr (va_runV (C := "DiscMaker$Layout") (As := [.ref h0]) (rest := [.ref (na v4.toNatClampNeg 1)]) ⟨hx, hb, hml, hown, hts⟩ (c3_orderOf l D cB cI cJ cZ cN cF H.size l0 lo lp lt lb le ln lds ltb lc ld h0 kna kke kta so nu pa ab mo ow gr si sd) (cwV 1 hts (lg_goodV k951 k953 k13 k121 kc_Layout_orderOf) rfl rfl rfl (by decide +kernel) ⟨Nat.le_of_ble_eq_true rfl, Nat.le_of_ble_eq_true rfl⟩) ⟨fun a U g mk q => by obtain ⟨q0, q1, qP, qK, qN, qD, qZ0⟩ := q; exact ⟨q0, q1, qP, va_K.moved (u := U) (U := U.calling g mk a) (Vm.Alike.refl U.vm) qK, qN.calling, qD, RO_blind qZ0⟩, va_recv hK hP (ci := 3) (q0 := 1) rfl rfl, fun U hU hW => ⟨rfl, by rw [hU], by rw [hU]; exact hPc, va_K.moved hW.alike hK, NN.warm hW hN, hDc.weaken (fun _ _ _ _ => trivial), (RO_pass (RO_one hZr 2 rfl) hS hFc hU)⟩⟩ rfl rfl hl.1 rfl (lv_room (Nat.le_of_ble_eq_true rfl)) d_Layout_insert_28 ⟨hkc, hks⟩) hS (fun q _ h => hFc q h) hFc (fun u r14 t H1 locs ht hvm hp_r14 hB hz1 hk1 hS => ?_)
        obtain ⟨ra9_15, rfl⟩ : ∃ z, z = u := ⟨_, rfl⟩
        obtain ⟨hq_16, hP1, hD1⟩ := hB
        rw [ht] at hP1
        try rw [ht] at hq_16
        obtain ⟨hP, hD⟩ := va_join (wr := [(lo, .inl (cI, 40, .inl lfo))]) (w1 := [(l0, .inr (3, [.int ln, .int lds, .int ltb, .ref lo, .ref lp, .ref lt, .ref lb, .ref le, .int lc, .int ld]))]) hP hD [1] [0] rfl rfl (by decide +kernel) (by decide +kernel) hk1 hFc hP1 hD1
        clear hPc hDc hFc hP1 hD1 hk1 hz1 hkc hks
        generalize H1 = H at hP hS hq_16 ⊢
        have hP : va_P D CL [(lo, .inl (cI, 40, .inl lfo)), (l0, .inr (3, [.int ln, .int lds, .int ltb, .ref lo, .ref lp, .ref lt, .ref lb, .ref le, .int lc, .int ld]))] H := hP
        have hD : va_D A [(lo, .inl (cI, 40, .inl lfo)), (l0, .inr (3, [.int ln, .int lds, .int ltb, .ref lo, .ref lp, .ref lt, .ref lb, .ref le, .int lc, .int ld]))] := hD
        try dsimp only at hp_r14
        have hv_17 := hp_r14
        rcases hv_17 with ⟨hl9, hl8⟩ | ⟨hl9, hl8⟩
        · skip
          have hl7 : r14 = kna := hq_16.trans hl8
          refine W.eq (g2 := F0 m 31 ls [.ref kna, .ref (na v4.toNatClampNeg 1)]) (by rw [hl7]) ?_
          have hPc := hP.sub (ws' := []) [] rfl
          have hDc := hD.sub (ws' := []) [] (by decide +kernel) rfl
          have hFc := va_free (wc := []) hD hS hA [] rfl
          have hkc : 0 ≤ 0 := by decide
          have hks : 0 ≤ 0 := by decide
          refine va_calli (va_runS (As := [.ref (na v4.toNatClampNeg 1), .ref kna]) (rest := []) ⟨hx, hb, hml, hown, hts⟩ (c3_compareRows l D cB cI cJ cZ cN cF H.size (na v4.toNatClampNeg 1) (nn v4.toNatClampNeg 1) (nf v4.toNatClampNeg 1) kna l1 c1 (by (try dsimp only); first | assumption | omega | trivial) (by (try dsimp only); first | assumption | omega | trivial)) (va_cwS 2 hts (lg_goodSX k955 k824 k118 kc_Node_compareRows) rfl rfl rfl (by decide +kernel) ⟨Nat.le_of_ble_eq_true rfl, Nat.le_of_ble_eq_true rfl⟩) ⟨fun a U g mk q => by obtain ⟨q0, q1, qP, qK, qN, qD, qZ0⟩ := q; exact ⟨q0, q1, qP, va_K.moved (u := U) (U := U.calling g mk a) (Vm.Alike.refl U.vm) qK, qN.calling, qD, RO_blind qZ0⟩, fun U hU hW => ⟨rfl, by rw [hU], by rw [hU]; exact hPc, va_K.moved hW.alike hK, NN.warm hW hN, hDc.weaken (fun _ _ _ _ => trivial), (RO_app (w1 := [((na v4.toNatClampNeg 1), .inl (cB, (nn v4.toNatClampNeg 1), .inl (nf v4.toNatClampNeg 1)))]) (w2 := [(kna, .inl (cB, l1, .inl c1))]) (RO_pass (RO_one hZr _ (pix (X := [(tr, .inr (10, [.ref ta, .int cn, .int dr])), (ta, .inl (cN, 40, .inr (.inr (.inr (.inr (rowF na cm)))))), (h0, .inr (5, [.int so, .ref kna, .ref kke, .ref kta, .int nu, .int pa, .int ab, .int mo, .int ow, .int gr, .int si, .int sd])), (kna, .inl (cB, l1, .inl c1)), (kke, .inl (cB, 11, .inl c2))]) hj7)) hS hFc hU) (RO_pass (RO_one hZr 3 rfl) hS hFc hU))⟩⟩ rfl rfl hl.1 rfl (lv_room (Nat.le_of_ble_eq_true rfl)) d_Layout_insert_31 ⟨hkc, hks⟩) hS (fun q _ h => hFc q h) hFc (fun r18 u t H1 locs ht hvm hp_r18 hB hz1 hk1 hS => ?_)
          obtain ⟨hP1, hD1⟩ := hB
          rw [ht] at hP1
          obtain ⟨hP, hD⟩ := va_join (wr := [(lo, .inl (cI, 40, .inl lfo)), (l0, .inr (3, [.int ln, .int lds, .int ltb, .ref lo, .ref lp, .ref lt, .ref lb, .ref le, .int lc, .int ld]))]) (w1 := []) hP hD [] [0, 1] rfl rfl (by decide +kernel) (by decide +kernel) hk1 hFc hP1 hD1
          clear hPc hDc hFc hP1 hD1 hk1 hz1 hkc hks
          generalize H1 = H at hP hS ⊢
          have hP : va_P D CL [(lo, .inl (cI, 40, .inl lfo)), (l0, .inr (3, [.int ln, .int lds, .int ltb, .ref lo, .ref lp, .ref lt, .ref lb, .ref le, .int lc, .int ld]))] H := hP
          have hD : va_D A [(lo, .inl (cI, 40, .inl lfo)), (l0, .inr (3, [.int ln, .int lds, .int ltb, .ref lo, .ref lp, .ref lt, .ref lb, .ref le, .int lc, .int ld]))] := hD
          try dsimp only at hp_r18
          have hv_19 := hp_r18
          refine lv_if_le (tgt := 57) hx hb d_Layout_insert_34 (by decide) (fun h_9 => ?_) (fun h_9 => ?_)
          · skip
            have g34_34 : r18.toInt ≤ 0 := (i_le rfl (by decide)).mp h_9
            refine lv_aload_n hx hb d_Layout_insert_57 rfl (lv_at hl 0 rfl) ?_
            refine va_get (D := D) (ci := 3) (v := .ref lo) (C := "DiscMaker$Layout") (T := F_Layout) (N := 10) hx hb ht9 in_Layout hown hK hP 1 rfl rfl 3 (by decide) (ht9 _ k286) (fun _ h9 => h9) rfl d_Layout_insert_58 ?_
            refine lv_iload_n hx hb d_Layout_insert_61 rfl (lv_at hl 3 rfl) ?_
            refine lv_aload_n hx hb d_Layout_insert_62 rfl (lv_at hl 2 rfl) ?_
            have hPR := RO_at hZr hS
            refine va_getN (D := D) (ci := 5) (v := .int nu) (C := "DiscMaker$Node") (T := F_Node) (N := 12) hx hb ht9 in_Node hown hK hPR 2 rfl rfl 4 (by decide) (va_Nw.use rfl (hN _ k193)) (fun _ h9 => h9) rfl d_Layout_insert_63 ?_
            refine zq_iast hx hb hK hP hD hS 0 1 rfl rfl (vp_in_iff.mpr ⟨by omega, by omega⟩) d_Layout_insert_66 (fun fz20 e_fz20 H locs hP hD hS => ?_)
            have hP : va_P D CL [(lo, .inl (cI, 40, .inl fz20)), (l0, .inr (3, [.int ln, .int lds, .int ltb, .ref lo, .ref lp, .ref lt, .ref lb, .ref le, .int lc, .int ld]))] H := hP
            have hD : va_D A [(lo, .inl (cI, 40, .inl fz20)), (l0, .inr (3, [.int ln, .int lds, .int ltb, .ref lo, .ref lp, .ref lt, .ref lb, .ref le, .int lc, .int ld]))] := hD
            have s_fz20 : fz20 la.toNatClampNeg = nu := by rw [e_fz20]; unfold upd; rw [if_pos (by first | rfl | decide)]
            refine lv_aload_n hx hb d_Layout_insert_67 rfl (lv_at hl 0 rfl) ?_
            refine lv_dup hx hb d_Layout_insert_68 rfl ?_
            refine va_get (D := D) (ci := 3) (v := .int lc) (C := "DiscMaker$Layout") (T := F_Layout) (N := 10) hx hb ht9 in_Layout hown hK hP 1 rfl rfl 8 (by decide) (ht9 _ k296) (fun _ h9 => h9) rfl d_Layout_insert_69 ?_
            refine lv_iconst (v := 1) hx hb d_Layout_insert_72 (by decide) ?_
            refine lv_iadd hx hb d_Layout_insert_73 ?_
            refine lv_topi (fun v21 e_v21 => ?_)
            have t_v21 : v21.toInt = lc.toInt + 1 := by rw [e_v21]; exact i_add rfl (by decide) (by omega) (by omega)
            refine va_put (D := D) (ci := 3) (v := .int v21) (ty := .int) (C := "DiscMaker$Layout") (T := F_Layout) (N := 10) hx hb ht9 in_Layout t_Layout t_Layout_ok n_Layout hown hK hP hD hS 1 rfl rfl 8 (by decide) (ht9 _ k296) (fun _ h9 => h9) rfl (by decide +kernel) rfl rfl (Nat.le_of_ble_eq_true rfl) d_Layout_insert_74 (fun H locs hP hD hS => ?_)
            have hP : va_P D CL [(lo, .inl (cI, 40, .inl fz20)), (l0, .inr (3, [.int ln, .int lds, .int ltb, .ref lo, .ref lp, .ref lt, .ref lb, .ref le, .int v21, .int ld]))] H := hP
            have hD : va_D A [(lo, .inl (cI, 40, .inl fz20)), (l0, .inr (3, [.int ln, .int lds, .int ltb, .ref lo, .ref lp, .ref lt, .ref lb, .ref le, .int v21, .int ld]))] := hD
            have hP9 := hP.sub (ws' := [(l0, .inr (3, [.int ln, .int lds, .int ltb, .ref lo, .ref lp, .ref lt, .ref lb, .ref le, .int v21, .int ld])), (lo, .inl (cI, 40, .inl fz20))]) [1, 0] rfl
            have hD9 := hD.sub (ws' := [(l0, .inr (3, [.int ln, .int lds, .int ltb, .ref lo, .ref lp, .ref lt, .ref lb, .ref le, .int v21, .int ld])), (lo, .inl (cI, 40, .inl fz20))]) [1, 0] (by decide +kernel) rfl
            exact W.vret hx hb hr (fun t ht hW => ⟨⟨(fz20, v21), rfl, ⟨(by (try dsimp only); first | assumption | omega | trivial), (OrdX_end e2 e_fz20 (i_cl (a := la) (by omega)) hnu (by omega))⟩, by rw [ht]; exact hP9, hD9⟩, hS.F ht⟩) hS.2.2 d_Layout_insert_77
          · skip
            have g34_34 : ¬ r18.toInt ≤ 0 := fun h8 => h_9 ((i_le rfl (by decide)).mpr h8)
            refine lv_aload_n hx hb d_Layout_insert_37 rfl (lv_at hl 0 rfl) ?_
            refine va_get (D := D) (ci := 3) (v := .ref lo) (C := "DiscMaker$Layout") (T := F_Layout) (N := 10) hx hb ht9 in_Layout hown hK hP 1 rfl rfl 3 (by decide) (ht9 _ k286) (fun _ h9 => h9) rfl d_Layout_insert_38 ?_
            refine lv_iload_n hx hb d_Layout_insert_41 rfl (lv_at hl 3 rfl) ?_
            refine lv_aload_n hx hb d_Layout_insert_42 rfl (lv_at hl 0 rfl) ?_
            refine va_get (D := D) (ci := 3) (v := .ref lo) (C := "DiscMaker$Layout") (T := F_Layout) (N := 10) hx hb ht9 in_Layout hown hK hP 1 rfl rfl 3 (by decide) (ht9 _ k286) (fun _ h9 => h9) rfl d_Layout_insert_43 ?_
            refine lv_iload_n hx hb d_Layout_insert_46 rfl (lv_at hl 3 rfl) ?_
            refine lv_iconst (v := 1) hx hb d_Layout_insert_47 (by decide) ?_
            refine lv_isub hx hb d_Layout_insert_48 ?_
            refine lv_topi (fun v22 e_v22 => ?_)
            have t_v22 : v22.toInt = la.toInt - 1 := by rw [e_v22]; exact i_sub rfl (by decide) (by omega) (by omega)
            refine va_iald hx hb hK hP 0 1 rfl rfl (vp_in_iff.mpr ⟨by omega, by omega⟩) d_Layout_insert_49 ?_
            refine lv_topi (fun v23 e_v23 => ?_)
            have qv23 := OrdX_at e2 e_v23 (by have := i_cl (a := v22) (by omega); omega) (by have := i_cl (a := v22) (by omega); omega)
            refine zq_iast hx hb hK hP hD hS 0 1 rfl rfl (vp_in_iff.mpr ⟨by omega, by omega⟩) d_Layout_insert_50 (fun fz24 e_fz24 H locs hP hD hS => ?_)
            have hP : va_P D CL [(lo, .inl (cI, 40, .inl fz24)), (l0, .inr (3, [.int ln, .int lds, .int ltb, .ref lo, .ref lp, .ref lt, .ref lb, .ref le, .int lc, .int ld]))] H := hP
            have hD : va_D A [(lo, .inl (cI, 40, .inl fz24)), (l0, .inr (3, [.int ln, .int lds, .int ltb, .ref lo, .ref lp, .ref lt, .ref lb, .ref le, .int lc, .int ld]))] := hD
            have s_fz24 : fz24 la.toNatClampNeg = v23 := by rw [e_fz24]; unfold upd; rw [if_pos (by first | rfl | decide)]
            obtain ⟨v25, e_v25⟩ : ∃ z : Int32, z = la + (-1) := ⟨_, rfl⟩
            refine lv_iinc (v := v25) hx hb d_Layout_insert_51 hl (k := 3) rfl e_v25.symm (by decide +kernel) rfl (fun ls hl => ?_)
            have t_v25 : v25.toInt = la.toInt + (-1) := by rw [e_v25]; exact i_add rfl (by decide) (by omega) (by omega)
            have hl : lv_has ls 4 [(3, .int v25), (0, .ref l0), (1, .ref tr), (2, .ref h0)] := hl
            refine lv_goto (tgt := 5) hx hb d_Layout_insert_54 (by decide) ?_
            have hP := hP.sub (ws' := [(l0, .inr (3, [.int ln, .int lds, .int ltb, .ref lo, .ref lp, .ref lt, .ref lb, .ref le, .int lc, .int ld])), (lo, .inl (cI, 40, .inl fz24))]) [1, 0] rfl
            have hD := hD.sub (ws' := [(l0, .inr (3, [.int ln, .int lds, .int ltb, .ref lo, .ref lp, .ref lt, .ref lb, .ref le, .int lc, .int ld])), (lo, .inl (cI, 40, .inl fz24))]) [1, 0] (by decide +kernel) rfl
            have hl := lv_sub hl [1, 2, 3, 0] rfl
            exact ih5 _ (by first | omega | (dsimp only; omega)) v25 fz24 _ _ _ rfl ((by (try dsimp only); first | assumption | omega | trivial)) ((OrdX_step e2 e_fz24 (i_cl (a := la) (by omega)) (by omega))) hP hD hS hl
        · skip
          have hl7 : r14 = kke := hq_16.trans hl8
          refine W.eq (g2 := F0 m 31 ls [.ref kke, .ref (na v4.toNatClampNeg 1)]) (by rw [hl7]) ?_
          have hPc := hP.sub (ws' := []) [] rfl
          have hDc := hD.sub (ws' := []) [] (by decide +kernel) rfl
          have hFc := va_free (wc := []) hD hS hA [] rfl
          have hkc : 0 ≤ 0 := by decide
          have hks : 0 ≤ 0 := by decide
          refine va_calli (va_runS (As := [.ref (na v4.toNatClampNeg 1), .ref kke]) (rest := []) ⟨hx, hb, hml, hown, hts⟩ (c3_compareRows l D cB cI cJ cZ cN cF H.size (na v4.toNatClampNeg 1) (nn v4.toNatClampNeg 1) (nf v4.toNatClampNeg 1) kke 11 c2 (by (try dsimp only); first | assumption | omega | trivial) (by (try dsimp only); first | assumption | omega | trivial)) (va_cwS 2 hts (lg_goodSX k955 k824 k118 kc_Node_compareRows) rfl rfl rfl (by decide +kernel) ⟨Nat.le_of_ble_eq_true rfl, Nat.le_of_ble_eq_true rfl⟩) ⟨fun a U g mk q => by obtain ⟨q0, q1, qP, qK, qN, qD, qZ0⟩ := q; exact ⟨q0, q1, qP, va_K.moved (u := U) (U := U.calling g mk a) (Vm.Alike.refl U.vm) qK, qN.calling, qD, RO_blind qZ0⟩, fun U hU hW => ⟨rfl, by rw [hU], by rw [hU]; exact hPc, va_K.moved hW.alike hK, NN.warm hW hN, hDc.weaken (fun _ _ _ _ => trivial), (RO_app (w1 := [((na v4.toNatClampNeg 1), .inl (cB, (nn v4.toNatClampNeg 1), .inl (nf v4.toNatClampNeg 1)))]) (w2 := [(kke, .inl (cB, 11, .inl c2))]) (RO_pass (RO_one hZr _ (pix (X := [(tr, .inr (10, [.ref ta, .int cn, .int dr])), (ta, .inl (cN, 40, .inr (.inr (.inr (.inr (rowF na cm)))))), (h0, .inr (5, [.int so, .ref kna, .ref kke, .ref kta, .int nu, .int pa, .int ab, .int mo, .int ow, .int gr, .int si, .int sd])), (kna, .inl (cB, l1, .inl c1)), (kke, .inl (cB, 11, .inl c2))]) hj7)) hS hFc hU) (RO_pass (RO_one hZr 4 rfl) hS hFc hU))⟩⟩ rfl rfl hl.1 rfl (lv_room (Nat.le_of_ble_eq_true rfl)) d_Layout_insert_31 ⟨hkc, hks⟩) hS (fun q _ h => hFc q h) hFc (fun r26 u t H1 locs ht hvm hp_r26 hB hz1 hk1 hS => ?_)
          obtain ⟨hP1, hD1⟩ := hB
          rw [ht] at hP1
          obtain ⟨hP, hD⟩ := va_join (wr := [(lo, .inl (cI, 40, .inl lfo)), (l0, .inr (3, [.int ln, .int lds, .int ltb, .ref lo, .ref lp, .ref lt, .ref lb, .ref le, .int lc, .int ld]))]) (w1 := []) hP hD [] [0, 1] rfl rfl (by decide +kernel) (by decide +kernel) hk1 hFc hP1 hD1
          clear hPc hDc hFc hP1 hD1 hk1 hz1 hkc hks
          generalize H1 = H at hP hS ⊢
          have hP : va_P D CL [(lo, .inl (cI, 40, .inl lfo)), (l0, .inr (3, [.int ln, .int lds, .int ltb, .ref lo, .ref lp, .ref lt, .ref lb, .ref le, .int lc, .int ld]))] H := hP
          have hD : va_D A [(lo, .inl (cI, 40, .inl lfo)), (l0, .inr (3, [.int ln, .int lds, .int ltb, .ref lo, .ref lp, .ref lt, .ref lb, .ref le, .int lc, .int ld]))] := hD
          try dsimp only at hp_r26
          have hv_27 := hp_r26
          refine lv_if_le (tgt := 57) hx hb d_Layout_insert_34 (by decide) (fun h_9 => ?_) (fun h_9 => ?_)
          · skip
            have g34_62 : r26.toInt ≤ 0 := (i_le rfl (by decide)).mp h_9
            refine lv_aload_n hx hb d_Layout_insert_57 rfl (lv_at hl 0 rfl) ?_
            refine va_get (D := D) (ci := 3) (v := .ref lo) (C := "DiscMaker$Layout") (T := F_Layout) (N := 10) hx hb ht9 in_Layout hown hK hP 1 rfl rfl 3 (by decide) (ht9 _ k286) (fun _ h9 => h9) rfl d_Layout_insert_58 ?_
            refine lv_iload_n hx hb d_Layout_insert_61 rfl (lv_at hl 3 rfl) ?_
            refine lv_aload_n hx hb d_Layout_insert_62 rfl (lv_at hl 2 rfl) ?_
            have hPR := RO_at hZr hS
            refine va_getN (D := D) (ci := 5) (v := .int nu) (C := "DiscMaker$Node") (T := F_Node) (N := 12) hx hb ht9 in_Node hown hK hPR 2 rfl rfl 4 (by decide) (va_Nw.use rfl (hN _ k193)) (fun _ h9 => h9) rfl d_Layout_insert_63 ?_
            refine zq_iast hx hb hK hP hD hS 0 1 rfl rfl (vp_in_iff.mpr ⟨by omega, by omega⟩) d_Layout_insert_66 (fun fz28 e_fz28 H locs hP hD hS => ?_)
            have hP : va_P D CL [(lo, .inl (cI, 40, .inl fz28)), (l0, .inr (3, [.int ln, .int lds, .int ltb, .ref lo, .ref lp, .ref lt, .ref lb, .ref le, .int lc, .int ld]))] H := hP
            have hD : va_D A [(lo, .inl (cI, 40, .inl fz28)), (l0, .inr (3, [.int ln, .int lds, .int ltb, .ref lo, .ref lp, .ref lt, .ref lb, .ref le, .int lc, .int ld]))] := hD
            have s_fz28 : fz28 la.toNatClampNeg = nu := by rw [e_fz28]; unfold upd; rw [if_pos (by first | rfl | decide)]
            refine lv_aload_n hx hb d_Layout_insert_67 rfl (lv_at hl 0 rfl) ?_
            refine lv_dup hx hb d_Layout_insert_68 rfl ?_
            refine va_get (D := D) (ci := 3) (v := .int lc) (C := "DiscMaker$Layout") (T := F_Layout) (N := 10) hx hb ht9 in_Layout hown hK hP 1 rfl rfl 8 (by decide) (ht9 _ k296) (fun _ h9 => h9) rfl d_Layout_insert_69 ?_
            refine lv_iconst (v := 1) hx hb d_Layout_insert_72 (by decide) ?_
            refine lv_iadd hx hb d_Layout_insert_73 ?_
            refine lv_topi (fun v29 e_v29 => ?_)
            have t_v29 : v29.toInt = lc.toInt + 1 := by rw [e_v29]; exact i_add rfl (by decide) (by omega) (by omega)
            refine va_put (D := D) (ci := 3) (v := .int v29) (ty := .int) (C := "DiscMaker$Layout") (T := F_Layout) (N := 10) hx hb ht9 in_Layout t_Layout t_Layout_ok n_Layout hown hK hP hD hS 1 rfl rfl 8 (by decide) (ht9 _ k296) (fun _ h9 => h9) rfl (by decide +kernel) rfl rfl (Nat.le_of_ble_eq_true rfl) d_Layout_insert_74 (fun H locs hP hD hS => ?_)
            have hP : va_P D CL [(lo, .inl (cI, 40, .inl fz28)), (l0, .inr (3, [.int ln, .int lds, .int ltb, .ref lo, .ref lp, .ref lt, .ref lb, .ref le, .int v29, .int ld]))] H := hP
            have hD : va_D A [(lo, .inl (cI, 40, .inl fz28)), (l0, .inr (3, [.int ln, .int lds, .int ltb, .ref lo, .ref lp, .ref lt, .ref lb, .ref le, .int v29, .int ld]))] := hD
            have hP9 := hP.sub (ws' := [(l0, .inr (3, [.int ln, .int lds, .int ltb, .ref lo, .ref lp, .ref lt, .ref lb, .ref le, .int v29, .int ld])), (lo, .inl (cI, 40, .inl fz28))]) [1, 0] rfl
            have hD9 := hD.sub (ws' := [(l0, .inr (3, [.int ln, .int lds, .int ltb, .ref lo, .ref lp, .ref lt, .ref lb, .ref le, .int v29, .int ld])), (lo, .inl (cI, 40, .inl fz28))]) [1, 0] (by decide +kernel) rfl
            exact W.vret hx hb hr (fun t ht hW => ⟨⟨(fz28, v29), rfl, ⟨(by (try dsimp only); first | assumption | omega | trivial), (OrdX_end e2 e_fz28 (i_cl (a := la) (by omega)) hnu (by omega))⟩, by rw [ht]; exact hP9, hD9⟩, hS.F ht⟩) hS.2.2 d_Layout_insert_77
          · skip
            have g34_62 : ¬ r26.toInt ≤ 0 := fun h8 => h_9 ((i_le rfl (by decide)).mpr h8)
            refine lv_aload_n hx hb d_Layout_insert_37 rfl (lv_at hl 0 rfl) ?_
            refine va_get (D := D) (ci := 3) (v := .ref lo) (C := "DiscMaker$Layout") (T := F_Layout) (N := 10) hx hb ht9 in_Layout hown hK hP 1 rfl rfl 3 (by decide) (ht9 _ k286) (fun _ h9 => h9) rfl d_Layout_insert_38 ?_
            refine lv_iload_n hx hb d_Layout_insert_41 rfl (lv_at hl 3 rfl) ?_
            refine lv_aload_n hx hb d_Layout_insert_42 rfl (lv_at hl 0 rfl) ?_
            refine va_get (D := D) (ci := 3) (v := .ref lo) (C := "DiscMaker$Layout") (T := F_Layout) (N := 10) hx hb ht9 in_Layout hown hK hP 1 rfl rfl 3 (by decide) (ht9 _ k286) (fun _ h9 => h9) rfl d_Layout_insert_43 ?_
            refine lv_iload_n hx hb d_Layout_insert_46 rfl (lv_at hl 3 rfl) ?_
            refine lv_iconst (v := 1) hx hb d_Layout_insert_47 (by decide) ?_
            refine lv_isub hx hb d_Layout_insert_48 ?_
            refine lv_topi (fun v30 e_v30 => ?_)
            have t_v30 : v30.toInt = la.toInt - 1 := by rw [e_v30]; exact i_sub rfl (by decide) (by omega) (by omega)
            refine va_iald hx hb hK hP 0 1 rfl rfl (vp_in_iff.mpr ⟨by omega, by omega⟩) d_Layout_insert_49 ?_
            refine lv_topi (fun v31 e_v31 => ?_)
            have qv31 := OrdX_at e2 e_v31 (by have := i_cl (a := v30) (by omega); omega) (by have := i_cl (a := v30) (by omega); omega)
            refine zq_iast hx hb hK hP hD hS 0 1 rfl rfl (vp_in_iff.mpr ⟨by omega, by omega⟩) d_Layout_insert_50 (fun fz32 e_fz32 H locs hP hD hS => ?_)
            have hP : va_P D CL [(lo, .inl (cI, 40, .inl fz32)), (l0, .inr (3, [.int ln, .int lds, .int ltb, .ref lo, .ref lp, .ref lt, .ref lb, .ref le, .int lc, .int ld]))] H := hP
            have hD : va_D A [(lo, .inl (cI, 40, .inl fz32)), (l0, .inr (3, [.int ln, .int lds, .int ltb, .ref lo, .ref lp, .ref lt, .ref lb, .ref le, .int lc, .int ld]))] := hD
            have s_fz32 : fz32 la.toNatClampNeg = v31 := by rw [e_fz32]; unfold upd; rw [if_pos (by first | rfl | decide)]
            obtain ⟨v33, e_v33⟩ : ∃ z : Int32, z = la + (-1) := ⟨_, rfl⟩
            refine lv_iinc (v := v33) hx hb d_Layout_insert_51 hl (k := 3) rfl e_v33.symm (by decide +kernel) rfl (fun ls hl => ?_)
            have t_v33 : v33.toInt = la.toInt + (-1) := by rw [e_v33]; exact i_add rfl (by decide) (by omega) (by omega)
            have hl : lv_has ls 4 [(3, .int v33), (0, .ref l0), (1, .ref tr), (2, .ref h0)] := hl
            refine lv_goto (tgt := 5) hx hb d_Layout_insert_54 (by decide) ?_
            have hP := hP.sub (ws' := [(l0, .inr (3, [.int ln, .int lds, .int ltb, .ref lo, .ref lp, .ref lt, .ref lb, .ref le, .int lc, .int ld])), (lo, .inl (cI, 40, .inl fz32))]) [1, 0] rfl
            have hD := hD.sub (ws' := [(l0, .inr (3, [.int ln, .int lds, .int ltb, .ref lo, .ref lp, .ref lt, .ref lb, .ref le, .int lc, .int ld])), (lo, .inl (cI, 40, .inl fz32))]) [1, 0] (by decide +kernel) rfl
            have hl := lv_sub hl [1, 2, 3, 0] rfl
            exact ih5 _ (by first | omega | (dsimp only; omega)) v33 fz32 _ _ _ rfl ((by (try dsimp only); first | assumption | omega | trivial)) ((OrdX_step e2 e_fz32 (i_cl (a := la) (by omega)) (by omega))) hP hD hS hl
      · skip
        have hl7 : r10 = (na v4.toNatClampNeg 2) := hq_12.trans hl8
        refine W.eq (g2 := F0 m 26 ls [.ref (na v4.toNatClampNeg 2)]) (by rw [hl7]) ?_
        refine lv_aload_n hx hb d_Layout_insert_26 rfl (lv_at hl 0 rfl) ?_
        refine lv_aload_n hx hb d_Layout_insert_27 rfl (lv_at hl 2 rfl) ?_
        have hPc := hP.sub (ws' := [(l0, .inr (3, [.int ln, .int lds, .int ltb, .ref lo, .ref lp, .ref lt, .ref lb, .ref le, .int lc, .int ld]))]) [1] rfl
        have hDc := hD.sub (ws' := [(l0, .inr (3, [.int ln, .int lds, .int ltb, .ref lo, .ref lp, .ref lt, .ref lb, .ref le, .int lc, .int ld]))]) [1] (by decide +kernel) rfl
        have hFc := va_free (wc := [(l0, .inr (3, [.int ln, .int lds, .int ltb, .ref lo, .ref lp, .ref lt, .ref lb, .ref le, .int lc, .int ld]))]) hD hS hA [1] rfl
        have hkc : 0 ≤ 0 := by decide
        have hks : 0 ≤ 0 := by decide
        refine va_callr (va_runV (C := "DiscMaker$Layout") (As := [.ref h0]) (rest := [.ref (na v4.toNatClampNeg 2)]) ⟨hx, hb, hml, hown, hts⟩ (c3_orderOf l D cB cI cJ cZ cN cF H.size l0 lo lp lt lb le ln lds ltb lc ld h0 kna kke kta so nu pa ab mo ow gr si sd) (cwV 1 hts (lg_goodV k951 k953 k13 k121 kc_Layout_orderOf) rfl rfl rfl (by decide +kernel) ⟨Nat.le_of_ble_eq_true rfl, Nat.le_of_ble_eq_true rfl⟩) ⟨fun a U g mk q => by obtain ⟨q0, q1, qP, qK, qN, qD, qZ0⟩ := q; exact ⟨q0, q1, qP, va_K.moved (u := U) (U := U.calling g mk a) (Vm.Alike.refl U.vm) qK, qN.calling, qD, RO_blind qZ0⟩, va_recv hK hP (ci := 3) (q0 := 1) rfl rfl, fun U hU hW => ⟨rfl, by rw [hU], by rw [hU]; exact hPc, va_K.moved hW.alike hK, NN.warm hW hN, hDc.weaken (fun _ _ _ _ => trivial), (RO_pass (RO_one hZr 2 rfl) hS hFc hU)⟩⟩ rfl rfl hl.1 rfl (lv_room (Nat.le_of_ble_eq_true rfl)) d_Layout_insert_28 ⟨hkc, hks⟩) hS (fun q _ h => hFc q h) hFc (fun u r34 t H1 locs ht hvm hp_r34 hB hz1 hk1 hS => ?_)
        obtain ⟨ra9_35, rfl⟩ : ∃ z, z = u := ⟨_, rfl⟩
        obtain ⟨hq_36, hP1, hD1⟩ := hB
        rw [ht] at hP1
        try rw [ht] at hq_36
        obtain ⟨hP, hD⟩ := va_join (wr := [(lo, .inl (cI, 40, .inl lfo))]) (w1 := [(l0, .inr (3, [.int ln, .int lds, .int ltb, .ref lo, .ref lp, .ref lt, .ref lb, .ref le, .int lc, .int ld]))]) hP hD [1] [0] rfl rfl (by decide +kernel) (by decide +kernel) hk1 hFc hP1 hD1
        clear hPc hDc hFc hP1 hD1 hk1 hz1 hkc hks
        generalize H1 = H at hP hS hq_36 ⊢
        have hP : va_P D CL [(lo, .inl (cI, 40, .inl lfo)), (l0, .inr (3, [.int ln, .int lds, .int ltb, .ref lo, .ref lp, .ref lt, .ref lb, .ref le, .int lc, .int ld]))] H := hP
        have hD : va_D A [(lo, .inl (cI, 40, .inl lfo)), (l0, .inr (3, [.int ln, .int lds, .int ltb, .ref lo, .ref lp, .ref lt, .ref lb, .ref le, .int lc, .int ld]))] := hD
        try dsimp only at hp_r34
        have hv_37 := hp_r34
        rcases hv_37 with ⟨hl9, hl8⟩ | ⟨hl9, hl8⟩
        · skip
          have hl7 : r34 = kna := hq_36.trans hl8
          refine W.eq (g2 := F0 m 31 ls [.ref kna, .ref (na v4.toNatClampNeg 2)]) (by rw [hl7]) ?_
          have hPc := hP.sub (ws' := []) [] rfl
          have hDc := hD.sub (ws' := []) [] (by decide +kernel) rfl
          have hFc := va_free (wc := []) hD hS hA [] rfl
          have hkc : 0 ≤ 0 := by decide
          have hks : 0 ≤ 0 := by decide
          refine va_calli (va_runS (As := [.ref (na v4.toNatClampNeg 2), .ref kna]) (rest := []) ⟨hx, hb, hml, hown, hts⟩ (c3_compareRows l D cB cI cJ cZ cN cF H.size (na v4.toNatClampNeg 2) 11 (nf v4.toNatClampNeg 2) kna l1 c1 (by (try dsimp only); first | assumption | omega | trivial) (by (try dsimp only); first | assumption | omega | trivial)) (va_cwS 2 hts (lg_goodSX k955 k824 k118 kc_Node_compareRows) rfl rfl rfl (by decide +kernel) ⟨Nat.le_of_ble_eq_true rfl, Nat.le_of_ble_eq_true rfl⟩) ⟨fun a U g mk q => by obtain ⟨q0, q1, qP, qK, qN, qD, qZ0⟩ := q; exact ⟨q0, q1, qP, va_K.moved (u := U) (U := U.calling g mk a) (Vm.Alike.refl U.vm) qK, qN.calling, qD, RO_blind qZ0⟩, fun U hU hW => ⟨rfl, by rw [hU], by rw [hU]; exact hPc, va_K.moved hW.alike hK, NN.warm hW hN, hDc.weaken (fun _ _ _ _ => trivial), (RO_app (w1 := [((na v4.toNatClampNeg 2), .inl (cB, 11, .inl (nf v4.toNatClampNeg 2)))]) (w2 := [(kna, .inl (cB, l1, .inl c1))]) (RO_pass (RO_one hZr _ (pix (X := [(tr, .inr (10, [.ref ta, .int cn, .int dr])), (ta, .inl (cN, 40, .inr (.inr (.inr (.inr (rowF na cm)))))), (h0, .inr (5, [.int so, .ref kna, .ref kke, .ref kta, .int nu, .int pa, .int ab, .int mo, .int ow, .int gr, .int si, .int sd])), (kna, .inl (cB, l1, .inl c1)), (kke, .inl (cB, 11, .inl c2))]) hj8)) hS hFc hU) (RO_pass (RO_one hZr 3 rfl) hS hFc hU))⟩⟩ rfl rfl hl.1 rfl (lv_room (Nat.le_of_ble_eq_true rfl)) d_Layout_insert_31 ⟨hkc, hks⟩) hS (fun q _ h => hFc q h) hFc (fun r38 u t H1 locs ht hvm hp_r38 hB hz1 hk1 hS => ?_)
          obtain ⟨hP1, hD1⟩ := hB
          rw [ht] at hP1
          obtain ⟨hP, hD⟩ := va_join (wr := [(lo, .inl (cI, 40, .inl lfo)), (l0, .inr (3, [.int ln, .int lds, .int ltb, .ref lo, .ref lp, .ref lt, .ref lb, .ref le, .int lc, .int ld]))]) (w1 := []) hP hD [] [0, 1] rfl rfl (by decide +kernel) (by decide +kernel) hk1 hFc hP1 hD1
          clear hPc hDc hFc hP1 hD1 hk1 hz1 hkc hks
          generalize H1 = H at hP hS ⊢
          have hP : va_P D CL [(lo, .inl (cI, 40, .inl lfo)), (l0, .inr (3, [.int ln, .int lds, .int ltb, .ref lo, .ref lp, .ref lt, .ref lb, .ref le, .int lc, .int ld]))] H := hP
          have hD : va_D A [(lo, .inl (cI, 40, .inl lfo)), (l0, .inr (3, [.int ln, .int lds, .int ltb, .ref lo, .ref lp, .ref lt, .ref lb, .ref le, .int lc, .int ld]))] := hD
          try dsimp only at hp_r38
          have hv_39 := hp_r38
          refine lv_if_le (tgt := 57) hx hb d_Layout_insert_34 (by decide) (fun h_9 => ?_) (fun h_9 => ?_)
          · skip
            have g34_93 : r38.toInt ≤ 0 := (i_le rfl (by decide)).mp h_9
            refine lv_aload_n hx hb d_Layout_insert_57 rfl (lv_at hl 0 rfl) ?_
            refine va_get (D := D) (ci := 3) (v := .ref lo) (C := "DiscMaker$Layout") (T := F_Layout) (N := 10) hx hb ht9 in_Layout hown hK hP 1 rfl rfl 3 (by decide) (ht9 _ k286) (fun _ h9 => h9) rfl d_Layout_insert_58 ?_
            refine lv_iload_n hx hb d_Layout_insert_61 rfl (lv_at hl 3 rfl) ?_
            refine lv_aload_n hx hb d_Layout_insert_62 rfl (lv_at hl 2 rfl) ?_
            have hPR := RO_at hZr hS
            refine va_getN (D := D) (ci := 5) (v := .int nu) (C := "DiscMaker$Node") (T := F_Node) (N := 12) hx hb ht9 in_Node hown hK hPR 2 rfl rfl 4 (by decide) (va_Nw.use rfl (hN _ k193)) (fun _ h9 => h9) rfl d_Layout_insert_63 ?_
            refine zq_iast hx hb hK hP hD hS 0 1 rfl rfl (vp_in_iff.mpr ⟨by omega, by omega⟩) d_Layout_insert_66 (fun fz40 e_fz40 H locs hP hD hS => ?_)
            have hP : va_P D CL [(lo, .inl (cI, 40, .inl fz40)), (l0, .inr (3, [.int ln, .int lds, .int ltb, .ref lo, .ref lp, .ref lt, .ref lb, .ref le, .int lc, .int ld]))] H := hP
            have hD : va_D A [(lo, .inl (cI, 40, .inl fz40)), (l0, .inr (3, [.int ln, .int lds, .int ltb, .ref lo, .ref lp, .ref lt, .ref lb, .ref le, .int lc, .int ld]))] := hD
            have s_fz40 : fz40 la.toNatClampNeg = nu := by rw [e_fz40]; unfold upd; rw [if_pos (by first | rfl | decide)]
            refine lv_aload_n hx hb d_Layout_insert_67 rfl (lv_at hl 0 rfl) ?_
            refine lv_dup hx hb d_Layout_insert_68 rfl ?_
            refine va_get (D := D) (ci := 3) (v := .int lc) (C := "DiscMaker$Layout") (T := F_Layout) (N := 10) hx hb ht9 in_Layout hown hK hP 1 rfl rfl 8 (by decide) (ht9 _ k296) (fun _ h9 => h9) rfl d_Layout_insert_69 ?_
            refine lv_iconst (v := 1) hx hb d_Layout_insert_72 (by decide) ?_
            refine lv_iadd hx hb d_Layout_insert_73 ?_
            refine lv_topi (fun v41 e_v41 => ?_)
            have t_v41 : v41.toInt = lc.toInt + 1 := by rw [e_v41]; exact i_add rfl (by decide) (by omega) (by omega)
            refine va_put (D := D) (ci := 3) (v := .int v41) (ty := .int) (C := "DiscMaker$Layout") (T := F_Layout) (N := 10) hx hb ht9 in_Layout t_Layout t_Layout_ok n_Layout hown hK hP hD hS 1 rfl rfl 8 (by decide) (ht9 _ k296) (fun _ h9 => h9) rfl (by decide +kernel) rfl rfl (Nat.le_of_ble_eq_true rfl) d_Layout_insert_74 (fun H locs hP hD hS => ?_)
            have hP : va_P D CL [(lo, .inl (cI, 40, .inl fz40)), (l0, .inr (3, [.int ln, .int lds, .int ltb, .ref lo, .ref lp, .ref lt, .ref lb, .ref le, .int v41, .int ld]))] H := hP
            have hD : va_D A [(lo, .inl (cI, 40, .inl fz40)), (l0, .inr (3, [.int ln, .int lds, .int ltb, .ref lo, .ref lp, .ref lt, .ref lb, .ref le, .int v41, .int ld]))] := hD
            have hP9 := hP.sub (ws' := [(l0, .inr (3, [.int ln, .int lds, .int ltb, .ref lo, .ref lp, .ref lt, .ref lb, .ref le, .int v41, .int ld])), (lo, .inl (cI, 40, .inl fz40))]) [1, 0] rfl
            have hD9 := hD.sub (ws' := [(l0, .inr (3, [.int ln, .int lds, .int ltb, .ref lo, .ref lp, .ref lt, .ref lb, .ref le, .int v41, .int ld])), (lo, .inl (cI, 40, .inl fz40))]) [1, 0] (by decide +kernel) rfl
            exact W.vret hx hb hr (fun t ht hW => ⟨⟨(fz40, v41), rfl, ⟨(by (try dsimp only); first | assumption | omega | trivial), (OrdX_end e2 e_fz40 (i_cl (a := la) (by omega)) hnu (by omega))⟩, by rw [ht]; exact hP9, hD9⟩, hS.F ht⟩) hS.2.2 d_Layout_insert_77
          · skip
            have g34_93 : ¬ r38.toInt ≤ 0 := fun h8 => h_9 ((i_le rfl (by decide)).mpr h8)
            refine lv_aload_n hx hb d_Layout_insert_37 rfl (lv_at hl 0 rfl) ?_
            refine va_get (D := D) (ci := 3) (v := .ref lo) (C := "DiscMaker$Layout") (T := F_Layout) (N := 10) hx hb ht9 in_Layout hown hK hP 1 rfl rfl 3 (by decide) (ht9 _ k286) (fun _ h9 => h9) rfl d_Layout_insert_38 ?_
            refine lv_iload_n hx hb d_Layout_insert_41 rfl (lv_at hl 3 rfl) ?_
            refine lv_aload_n hx hb d_Layout_insert_42 rfl (lv_at hl 0 rfl) ?_
            refine va_get (D := D) (ci := 3) (v := .ref lo) (C := "DiscMaker$Layout") (T := F_Layout) (N := 10) hx hb ht9 in_Layout hown hK hP 1 rfl rfl 3 (by decide) (ht9 _ k286) (fun _ h9 => h9) rfl d_Layout_insert_43 ?_
            refine lv_iload_n hx hb d_Layout_insert_46 rfl (lv_at hl 3 rfl) ?_
            refine lv_iconst (v := 1) hx hb d_Layout_insert_47 (by decide) ?_
            refine lv_isub hx hb d_Layout_insert_48 ?_
            refine lv_topi (fun v42 e_v42 => ?_)
            have t_v42 : v42.toInt = la.toInt - 1 := by rw [e_v42]; exact i_sub rfl (by decide) (by omega) (by omega)
            refine va_iald hx hb hK hP 0 1 rfl rfl (vp_in_iff.mpr ⟨by omega, by omega⟩) d_Layout_insert_49 ?_
            refine lv_topi (fun v43 e_v43 => ?_)
            have qv43 := OrdX_at e2 e_v43 (by have := i_cl (a := v42) (by omega); omega) (by have := i_cl (a := v42) (by omega); omega)
            refine zq_iast hx hb hK hP hD hS 0 1 rfl rfl (vp_in_iff.mpr ⟨by omega, by omega⟩) d_Layout_insert_50 (fun fz44 e_fz44 H locs hP hD hS => ?_)
            have hP : va_P D CL [(lo, .inl (cI, 40, .inl fz44)), (l0, .inr (3, [.int ln, .int lds, .int ltb, .ref lo, .ref lp, .ref lt, .ref lb, .ref le, .int lc, .int ld]))] H := hP
            have hD : va_D A [(lo, .inl (cI, 40, .inl fz44)), (l0, .inr (3, [.int ln, .int lds, .int ltb, .ref lo, .ref lp, .ref lt, .ref lb, .ref le, .int lc, .int ld]))] := hD
            have s_fz44 : fz44 la.toNatClampNeg = v43 := by rw [e_fz44]; unfold upd; rw [if_pos (by first | rfl | decide)]
            obtain ⟨v45, e_v45⟩ : ∃ z : Int32, z = la + (-1) := ⟨_, rfl⟩
            refine lv_iinc (v := v45) hx hb d_Layout_insert_51 hl (k := 3) rfl e_v45.symm (by decide +kernel) rfl (fun ls hl => ?_)
            have t_v45 : v45.toInt = la.toInt + (-1) := by rw [e_v45]; exact i_add rfl (by decide) (by omega) (by omega)
            have hl : lv_has ls 4 [(3, .int v45), (0, .ref l0), (1, .ref tr), (2, .ref h0)] := hl
            refine lv_goto (tgt := 5) hx hb d_Layout_insert_54 (by decide) ?_
            have hP := hP.sub (ws' := [(l0, .inr (3, [.int ln, .int lds, .int ltb, .ref lo, .ref lp, .ref lt, .ref lb, .ref le, .int lc, .int ld])), (lo, .inl (cI, 40, .inl fz44))]) [1, 0] rfl
            have hD := hD.sub (ws' := [(l0, .inr (3, [.int ln, .int lds, .int ltb, .ref lo, .ref lp, .ref lt, .ref lb, .ref le, .int lc, .int ld])), (lo, .inl (cI, 40, .inl fz44))]) [1, 0] (by decide +kernel) rfl
            have hl := lv_sub hl [1, 2, 3, 0] rfl
            exact ih5 _ (by first | omega | (dsimp only; omega)) v45 fz44 _ _ _ rfl ((by (try dsimp only); first | assumption | omega | trivial)) ((OrdX_step e2 e_fz44 (i_cl (a := la) (by omega)) (by omega))) hP hD hS hl
        · skip
          have hl7 : r34 = kke := hq_36.trans hl8
          refine W.eq (g2 := F0 m 31 ls [.ref kke, .ref (na v4.toNatClampNeg 2)]) (by rw [hl7]) ?_
          have hPc := hP.sub (ws' := []) [] rfl
          have hDc := hD.sub (ws' := []) [] (by decide +kernel) rfl
          have hFc := va_free (wc := []) hD hS hA [] rfl
          have hkc : 0 ≤ 0 := by decide
          have hks : 0 ≤ 0 := by decide
          refine va_calli (va_runS (As := [.ref (na v4.toNatClampNeg 2), .ref kke]) (rest := []) ⟨hx, hb, hml, hown, hts⟩ (c3_compareRows l D cB cI cJ cZ cN cF H.size (na v4.toNatClampNeg 2) 11 (nf v4.toNatClampNeg 2) kke 11 c2 (by (try dsimp only); first | assumption | omega | trivial) (by (try dsimp only); first | assumption | omega | trivial)) (va_cwS 2 hts (lg_goodSX k955 k824 k118 kc_Node_compareRows) rfl rfl rfl (by decide +kernel) ⟨Nat.le_of_ble_eq_true rfl, Nat.le_of_ble_eq_true rfl⟩) ⟨fun a U g mk q => by obtain ⟨q0, q1, qP, qK, qN, qD, qZ0⟩ := q; exact ⟨q0, q1, qP, va_K.moved (u := U) (U := U.calling g mk a) (Vm.Alike.refl U.vm) qK, qN.calling, qD, RO_blind qZ0⟩, fun U hU hW => ⟨rfl, by rw [hU], by rw [hU]; exact hPc, va_K.moved hW.alike hK, NN.warm hW hN, hDc.weaken (fun _ _ _ _ => trivial), (RO_app (w1 := [((na v4.toNatClampNeg 2), .inl (cB, 11, .inl (nf v4.toNatClampNeg 2)))]) (w2 := [(kke, .inl (cB, 11, .inl c2))]) (RO_pass (RO_one hZr _ (pix (X := [(tr, .inr (10, [.ref ta, .int cn, .int dr])), (ta, .inl (cN, 40, .inr (.inr (.inr (.inr (rowF na cm)))))), (h0, .inr (5, [.int so, .ref kna, .ref kke, .ref kta, .int nu, .int pa, .int ab, .int mo, .int ow, .int gr, .int si, .int sd])), (kna, .inl (cB, l1, .inl c1)), (kke, .inl (cB, 11, .inl c2))]) hj8)) hS hFc hU) (RO_pass (RO_one hZr 4 rfl) hS hFc hU))⟩⟩ rfl rfl hl.1 rfl (lv_room (Nat.le_of_ble_eq_true rfl)) d_Layout_insert_31 ⟨hkc, hks⟩) hS (fun q _ h => hFc q h) hFc (fun r46 u t H1 locs ht hvm hp_r46 hB hz1 hk1 hS => ?_)
          obtain ⟨hP1, hD1⟩ := hB
          rw [ht] at hP1
          obtain ⟨hP, hD⟩ := va_join (wr := [(lo, .inl (cI, 40, .inl lfo)), (l0, .inr (3, [.int ln, .int lds, .int ltb, .ref lo, .ref lp, .ref lt, .ref lb, .ref le, .int lc, .int ld]))]) (w1 := []) hP hD [] [0, 1] rfl rfl (by decide +kernel) (by decide +kernel) hk1 hFc hP1 hD1
          clear hPc hDc hFc hP1 hD1 hk1 hz1 hkc hks
          generalize H1 = H at hP hS ⊢
          have hP : va_P D CL [(lo, .inl (cI, 40, .inl lfo)), (l0, .inr (3, [.int ln, .int lds, .int ltb, .ref lo, .ref lp, .ref lt, .ref lb, .ref le, .int lc, .int ld]))] H := hP
          have hD : va_D A [(lo, .inl (cI, 40, .inl lfo)), (l0, .inr (3, [.int ln, .int lds, .int ltb, .ref lo, .ref lp, .ref lt, .ref lb, .ref le, .int lc, .int ld]))] := hD
          try dsimp only at hp_r46
          have hv_47 := hp_r46
          refine lv_if_le (tgt := 57) hx hb d_Layout_insert_34 (by decide) (fun h_9 => ?_) (fun h_9 => ?_)
          · skip
            have g34_121 : r46.toInt ≤ 0 := (i_le rfl (by decide)).mp h_9
            refine lv_aload_n hx hb d_Layout_insert_57 rfl (lv_at hl 0 rfl) ?_
            refine va_get (D := D) (ci := 3) (v := .ref lo) (C := "DiscMaker$Layout") (T := F_Layout) (N := 10) hx hb ht9 in_Layout hown hK hP 1 rfl rfl 3 (by decide) (ht9 _ k286) (fun _ h9 => h9) rfl d_Layout_insert_58 ?_
            refine lv_iload_n hx hb d_Layout_insert_61 rfl (lv_at hl 3 rfl) ?_
            refine lv_aload_n hx hb d_Layout_insert_62 rfl (lv_at hl 2 rfl) ?_
            have hPR := RO_at hZr hS
            refine va_getN (D := D) (ci := 5) (v := .int nu) (C := "DiscMaker$Node") (T := F_Node) (N := 12) hx hb ht9 in_Node hown hK hPR 2 rfl rfl 4 (by decide) (va_Nw.use rfl (hN _ k193)) (fun _ h9 => h9) rfl d_Layout_insert_63 ?_
            refine zq_iast hx hb hK hP hD hS 0 1 rfl rfl (vp_in_iff.mpr ⟨by omega, by omega⟩) d_Layout_insert_66 (fun fz48 e_fz48 H locs hP hD hS => ?_)
            have hP : va_P D CL [(lo, .inl (cI, 40, .inl fz48)), (l0, .inr (3, [.int ln, .int lds, .int ltb, .ref lo, .ref lp, .ref lt, .ref lb, .ref le, .int lc, .int ld]))] H := hP
            have hD : va_D A [(lo, .inl (cI, 40, .inl fz48)), (l0, .inr (3, [.int ln, .int lds, .int ltb, .ref lo, .ref lp, .ref lt, .ref lb, .ref le, .int lc, .int ld]))] := hD
            have s_fz48 : fz48 la.toNatClampNeg = nu := by rw [e_fz48]; unfold upd; rw [if_pos (by first | rfl | decide)]
            refine lv_aload_n hx hb d_Layout_insert_67 rfl (lv_at hl 0 rfl) ?_
            refine lv_dup hx hb d_Layout_insert_68 rfl ?_
            refine va_get (D := D) (ci := 3) (v := .int lc) (C := "DiscMaker$Layout") (T := F_Layout) (N := 10) hx hb ht9 in_Layout hown hK hP 1 rfl rfl 8 (by decide) (ht9 _ k296) (fun _ h9 => h9) rfl d_Layout_insert_69 ?_
            refine lv_iconst (v := 1) hx hb d_Layout_insert_72 (by decide) ?_
            refine lv_iadd hx hb d_Layout_insert_73 ?_
            refine lv_topi (fun v49 e_v49 => ?_)
            have t_v49 : v49.toInt = lc.toInt + 1 := by rw [e_v49]; exact i_add rfl (by decide) (by omega) (by omega)
            refine va_put (D := D) (ci := 3) (v := .int v49) (ty := .int) (C := "DiscMaker$Layout") (T := F_Layout) (N := 10) hx hb ht9 in_Layout t_Layout t_Layout_ok n_Layout hown hK hP hD hS 1 rfl rfl 8 (by decide) (ht9 _ k296) (fun _ h9 => h9) rfl (by decide +kernel) rfl rfl (Nat.le_of_ble_eq_true rfl) d_Layout_insert_74 (fun H locs hP hD hS => ?_)
            have hP : va_P D CL [(lo, .inl (cI, 40, .inl fz48)), (l0, .inr (3, [.int ln, .int lds, .int ltb, .ref lo, .ref lp, .ref lt, .ref lb, .ref le, .int v49, .int ld]))] H := hP
            have hD : va_D A [(lo, .inl (cI, 40, .inl fz48)), (l0, .inr (3, [.int ln, .int lds, .int ltb, .ref lo, .ref lp, .ref lt, .ref lb, .ref le, .int v49, .int ld]))] := hD
            have hP9 := hP.sub (ws' := [(l0, .inr (3, [.int ln, .int lds, .int ltb, .ref lo, .ref lp, .ref lt, .ref lb, .ref le, .int v49, .int ld])), (lo, .inl (cI, 40, .inl fz48))]) [1, 0] rfl
            have hD9 := hD.sub (ws' := [(l0, .inr (3, [.int ln, .int lds, .int ltb, .ref lo, .ref lp, .ref lt, .ref lb, .ref le, .int v49, .int ld])), (lo, .inl (cI, 40, .inl fz48))]) [1, 0] (by decide +kernel) rfl
            exact W.vret hx hb hr (fun t ht hW => ⟨⟨(fz48, v49), rfl, ⟨(by (try dsimp only); first | assumption | omega | trivial), (OrdX_end e2 e_fz48 (i_cl (a := la) (by omega)) hnu (by omega))⟩, by rw [ht]; exact hP9, hD9⟩, hS.F ht⟩) hS.2.2 d_Layout_insert_77
          · skip
            have g34_121 : ¬ r46.toInt ≤ 0 := fun h8 => h_9 ((i_le rfl (by decide)).mpr h8)
            refine lv_aload_n hx hb d_Layout_insert_37 rfl (lv_at hl 0 rfl) ?_
            refine va_get (D := D) (ci := 3) (v := .ref lo) (C := "DiscMaker$Layout") (T := F_Layout) (N := 10) hx hb ht9 in_Layout hown hK hP 1 rfl rfl 3 (by decide) (ht9 _ k286) (fun _ h9 => h9) rfl d_Layout_insert_38 ?_
            refine lv_iload_n hx hb d_Layout_insert_41 rfl (lv_at hl 3 rfl) ?_
            refine lv_aload_n hx hb d_Layout_insert_42 rfl (lv_at hl 0 rfl) ?_
            refine va_get (D := D) (ci := 3) (v := .ref lo) (C := "DiscMaker$Layout") (T := F_Layout) (N := 10) hx hb ht9 in_Layout hown hK hP 1 rfl rfl 3 (by decide) (ht9 _ k286) (fun _ h9 => h9) rfl d_Layout_insert_43 ?_
            refine lv_iload_n hx hb d_Layout_insert_46 rfl (lv_at hl 3 rfl) ?_
            refine lv_iconst (v := 1) hx hb d_Layout_insert_47 (by decide) ?_
            refine lv_isub hx hb d_Layout_insert_48 ?_
            refine lv_topi (fun v50 e_v50 => ?_)
            have t_v50 : v50.toInt = la.toInt - 1 := by rw [e_v50]; exact i_sub rfl (by decide) (by omega) (by omega)
            refine va_iald hx hb hK hP 0 1 rfl rfl (vp_in_iff.mpr ⟨by omega, by omega⟩) d_Layout_insert_49 ?_
            refine lv_topi (fun v51 e_v51 => ?_)
            have qv51 := OrdX_at e2 e_v51 (by have := i_cl (a := v50) (by omega); omega) (by have := i_cl (a := v50) (by omega); omega)
            refine zq_iast hx hb hK hP hD hS 0 1 rfl rfl (vp_in_iff.mpr ⟨by omega, by omega⟩) d_Layout_insert_50 (fun fz52 e_fz52 H locs hP hD hS => ?_)
            have hP : va_P D CL [(lo, .inl (cI, 40, .inl fz52)), (l0, .inr (3, [.int ln, .int lds, .int ltb, .ref lo, .ref lp, .ref lt, .ref lb, .ref le, .int lc, .int ld]))] H := hP
            have hD : va_D A [(lo, .inl (cI, 40, .inl fz52)), (l0, .inr (3, [.int ln, .int lds, .int ltb, .ref lo, .ref lp, .ref lt, .ref lb, .ref le, .int lc, .int ld]))] := hD
            have s_fz52 : fz52 la.toNatClampNeg = v51 := by rw [e_fz52]; unfold upd; rw [if_pos (by first | rfl | decide)]
            obtain ⟨v53, e_v53⟩ : ∃ z : Int32, z = la + (-1) := ⟨_, rfl⟩
            refine lv_iinc (v := v53) hx hb d_Layout_insert_51 hl (k := 3) rfl e_v53.symm (by decide +kernel) rfl (fun ls hl => ?_)
            have t_v53 : v53.toInt = la.toInt + (-1) := by rw [e_v53]; exact i_add rfl (by decide) (by omega) (by omega)
            have hl : lv_has ls 4 [(3, .int v53), (0, .ref l0), (1, .ref tr), (2, .ref h0)] := hl
            refine lv_goto (tgt := 5) hx hb d_Layout_insert_54 (by decide) ?_
            have hP := hP.sub (ws' := [(l0, .inr (3, [.int ln, .int lds, .int ltb, .ref lo, .ref lp, .ref lt, .ref lb, .ref le, .int lc, .int ld])), (lo, .inl (cI, 40, .inl fz52))]) [1, 0] rfl
            have hD := hD.sub (ws' := [(l0, .inr (3, [.int ln, .int lds, .int ltb, .ref lo, .ref lp, .ref lt, .ref lb, .ref le, .int lc, .int ld])), (lo, .inl (cI, 40, .inl fz52))]) [1, 0] (by decide +kernel) rfl
            have hl := lv_sub hl [1, 2, 3, 0] rfl
            exact ih5 _ (by first | omega | (dsimp only; omega)) v53 fz52 _ _ _ rfl ((by (try dsimp only); first | assumption | omega | trivial)) ((OrdX_step e2 e_fz52 (i_cl (a := la) (by omega)) (by omega))) hP hD hS hl
  · skip
    intro kk5
    have hP := hP.sub (ws' := [(l0, .inr (3, [.int ln, .int lds, .int ltb, .ref lo, .ref lp, .ref lt, .ref lb, .ref le, .int lc, .int ld])), (lo, .inl (cI, 40, .inl fo))]) [0, 1] rfl
    have hD := hD.sub (ws' := [(l0, .inr (3, [.int ln, .int lds, .int ltb, .ref lo, .ref lp, .ref lt, .ref lb, .ref le, .int lc, .int ld])), (lo, .inl (cI, 40, .inl fo))]) [0, 1] (by decide +kernel) rfl
    have hl := lv_sub hl [1, 2, 3, 0] rfl
    exact kk5 _ lc fo _ _ _ rfl ((by (try dsimp only); first | assumption | omega | trivial)) ((OrdX_0 hoo rfl)) hP hD hS hl

theorem d_Layout_addDirectoriesIn_0 : decode b_Layout_addDirectoriesIn 0 = .ok (.iconst 0, 1) := by decide +kernel
theorem d_Layout_addDirectoriesIn_1 : decode b_Layout_addDirectoriesIn 1 = .ok (.istore_n 3, 1) := by decide +kernel
theorem d_Layout_addDirectoriesIn_2 : decode b_Layout_addDirectoriesIn 2 = .ok (.iload_n 3, 1) := by decide +kernel
theorem d_Layout_addDirectoriesIn_3 : decode b_Layout_addDirectoriesIn 3 = .ok (.aload_n 0, 1) := by decide +kernel
theorem d_Layout_addDirectoriesIn_4 : decode b_Layout_addDirectoriesIn 4 = .ok (.getfield 38, 3) := by decide +kernel
theorem d_Layout_addDirectoriesIn_7 : decode b_Layout_addDirectoriesIn 7 = .ok (.if_icmp .ge 54, 3) := by decide +kernel
theorem d_Layout_addDirectoriesIn_10 : decode b_Layout_addDirectoriesIn 10 = .ok (.aload_n 1, 1) := by decide +kernel
theorem d_Layout_addDirectoriesIn_11 : decode b_Layout_addDirectoriesIn 11 = .ok (.getfield 44, 3) := by decide +kernel
theorem d_Layout_addDirectoriesIn_14 : decode b_Layout_addDirectoriesIn 14 = .ok (.aload_n 0, 1) := by decide +kernel
theorem d_Layout_addDirectoriesIn_15 : decode b_Layout_addDirectoriesIn 15 = .ok (.getfield 9, 3) := by decide +kernel
theorem d_Layout_addDirectoriesIn_18 : decode b_Layout_addDirectoriesIn 18 = .ok (.iload_n 3, 1) := by decide +kernel
theorem d_Layout_addDirectoriesIn_19 : decode b_Layout_addDirectoriesIn 19 = .ok (.iaload, 1) := by decide +kernel
theorem d_Layout_addDirectoriesIn_20 : decode b_Layout_addDirectoriesIn 20 = .ok (.aaload, 1) := by decide +kernel
theorem d_Layout_addDirectoriesIn_21 : decode b_Layout_addDirectoriesIn 21 = .ok (.getfield 86, 3) := by decide +kernel
theorem d_Layout_addDirectoriesIn_24 : decode b_Layout_addDirectoriesIn 24 = .ok (.iload_n 2, 1) := by decide +kernel
theorem d_Layout_addDirectoriesIn_25 : decode b_Layout_addDirectoriesIn 25 = .ok (.if_icmp .ne 30, 3) := by decide +kernel
theorem d_Layout_addDirectoriesIn_28 : decode b_Layout_addDirectoriesIn 28 = .ok (.aload_n 1, 1) := by decide +kernel
theorem d_Layout_addDirectoriesIn_29 : decode b_Layout_addDirectoriesIn 29 = .ok (.getfield 44, 3) := by decide +kernel
theorem d_Layout_addDirectoriesIn_32 : decode b_Layout_addDirectoriesIn 32 = .ok (.aload_n 0, 1) := by decide +kernel
theorem d_Layout_addDirectoriesIn_33 : decode b_Layout_addDirectoriesIn 33 = .ok (.getfield 9, 3) := by decide +kernel
theorem d_Layout_addDirectoriesIn_36 : decode b_Layout_addDirectoriesIn 36 = .ok (.iload_n 3, 1) := by decide +kernel
theorem d_Layout_addDirectoriesIn_37 : decode b_Layout_addDirectoriesIn 37 = .ok (.iaload, 1) := by decide +kernel
theorem d_Layout_addDirectoriesIn_38 : decode b_Layout_addDirectoriesIn 38 = .ok (.aaload, 1) := by decide +kernel
theorem d_Layout_addDirectoriesIn_39 : decode b_Layout_addDirectoriesIn 39 = .ok (.getfield 48, 3) := by decide +kernel
theorem d_Layout_addDirectoriesIn_42 : decode b_Layout_addDirectoriesIn 42 = .ok (.ifCond .ne 13, 3) := by decide +kernel
theorem d_Layout_addDirectoriesIn_45 : decode b_Layout_addDirectoriesIn 45 = .ok (.aload_n 0, 1) := by decide +kernel
theorem d_Layout_addDirectoriesIn_46 : decode b_Layout_addDirectoriesIn 46 = .ok (.aload_n 0, 1) := by decide +kernel
theorem d_Layout_addDirectoriesIn_47 : decode b_Layout_addDirectoriesIn 47 = .ok (.getfield 9, 3) := by decide +kernel
theorem d_Layout_addDirectoriesIn_50 : decode b_Layout_addDirectoriesIn 50 = .ok (.iload_n 3, 1) := by decide +kernel
theorem d_Layout_addDirectoriesIn_51 : decode b_Layout_addDirectoriesIn 51 = .ok (.iaload, 1) := by decide +kernel
theorem d_Layout_addDirectoriesIn_52 : decode b_Layout_addDirectoriesIn 52 = .ok (.invokevirtual 60, 3) := by decide +kernel
theorem d_Layout_addDirectoriesIn_55 : decode b_Layout_addDirectoriesIn 55 = .ok (.iinc 3 1, 3) := by decide +kernel
theorem d_Layout_addDirectoriesIn_58 : decode b_Layout_addDirectoriesIn 58 = .ok (.goto (-56), 3) := by decide +kernel
theorem d_Layout_addDirectoriesIn_61 : decode b_Layout_addDirectoriesIn 61 = .ok (.return_, 1) := by decide +kernel
set_option maxHeartbeats 4000000 in
set_option maxRecDepth 100000 in
theorem c3_addDirectoriesIn (l : Launch) (D : va_G) (cB cI cJ cZ cN cF : ClassId) (sz : Nat) (l0 : Nat) (lo : Nat) (lp : Nat) (lt : Nat) (lb : Nat) (le : Nat) (ln : Int32) (lds : Int32) (ltb : Int32) (lc : Int32) (ld : Int32) (tr : Nat) (ta : Nat) (cn : Int32) (dr : Int32) (na : Nat → Nat → Nat) (ng : Nat → Nat → Int32) (nn : Nat → Nat → Nat) (nf : Nat → Nat → Nat → Int32) (cm : Nat) (fo : Nat → Int32) (fp : Nat → Int32) (ft : Nat → Int32) (x : Int32) (hcn : cn.toInt = cm) (hcm : cm ≤ 40) (htok : TOK cm ng nn) (hlc : 0 ≤ lc.toInt ∧ lc.toInt < 40) (hoo : OrdOK lc.toInt cm fo) (hld : 0 ≤ ld.toInt ∧ ld.toInt ≤ 12) (hpo : OrdOK ld.toInt cm fp) : Met l y_Layout_addDirectoriesIn w_Layout_addDirectoriesIn ({ frames := 1, cells := 0, slots := 0, locals := 27 }) (va_Pc [.ref l0, .ref tr, .int x] (fun U => U.heap.size = sz ∧ va_P D CL [(l0, .inr (3, [.int ln, .int lds, .int ltb, .ref lo, .ref lp, .ref lt, .ref lb, .ref le, .int lc, .int ld])), (lo, .inl (cI, 40, .inl fo)), (lp, .inl (cI, 12, .inl fp)), (lt, .inl (cI, 40, .inl ft))] U.heap ∧ va_K D CL (TY cB cI cJ cZ cN cF) U ∧ NN U ∧ va_D (fun _ => True) [(l0, .inr (3, [.int ln, .int lds, .int ltb, .ref lo, .ref lp, .ref lt, .ref lb, .ref le, .int lc, .int ld])), (lo, .inl (cI, 40, .inl fo)), (lp, .inl (cI, 12, .inl fp)), (lt, .inl (cI, 40, .inl ft))] ∧ RO D (([(tr, .inr (10, [.ref ta, .int cn, .int dr])), (ta, .inl (cN, 40, .inr (.inr (.inr (.inr (rowF na cm))))))] : va_W) ++ (PL (NC cB na ng nn nf) cm)) (va_A [(l0, .inr (3, [.int ln, .int lds, .int ltb, .ref lo, .ref lp, .ref lt, .ref lb, .ref le, .int lc, .int ld])), (lo, .inl (cI, 40, .inl fo)), (lp, .inl (cI, 12, .inl fp)), (lt, .inl (cI, 40, .inl ft))] sz) U U.heap)) (va_Qv (fun (u : Int32 × (Nat → Int32) × (Nat → Int32)) => match u with | (ld2, gp, gt) => (ld.toInt ≤ ld2.toInt ∧ ld2.toInt ≤ 12) ∧ (OrdOK ld2.toInt cm gp)) (fun (u : Int32 × (Nat → Int32) × (Nat → Int32)) (t : State) => match u with | (ld2, gp, gt) => va_P D CL [(l0, .inr (3, [.int ln, .int lds, .int ltb, .ref lo, .ref lp, .ref lt, .ref lb, .ref le, .int lc, .int ld2])), (lo, .inl (cI, 40, .inl fo)), (lp, .inl (cI, 12, .inl gp)), (lt, .inl (cI, 40, .inl gt))] t.heap ∧ va_D (va_A [(l0, .inr (3, [.int ln, .int lds, .int ltb, .ref lo, .ref lp, .ref lt, .ref lb, .ref le, .int lc, .int ld])), (lo, .inl (cI, 40, .inl fo)), (lp, .inl (cI, 12, .inl fp)), (lt, .inl (cI, 40, .inl ft))] sz) [(l0, .inr (3, [.int ln, .int lds, .int ltb, .ref lo, .ref lp, .ref lt, .ref lb, .ref le, .int lc, .int ld2])), (lo, .inl (cI, 40, .inl fo)), (lp, .inl (cI, 12, .inl gp)), (lt, .inl (cI, 40, .inl gt))]) (va_A [(l0, .inr (3, [.int ln, .int lds, .int ltb, .ref lo, .ref lp, .ref lt, .ref lb, .ref le, .int lc, .int ld])), (lo, .inl (cI, 40, .inl fo)), (lp, .inl (cI, 12, .inl fp)), (lt, .inl (cI, 40, .inl ft))] sz)) 0 0 (va_A [(l0, .inr (3, [.int ln, .int lds, .int ltb, .ref lo, .ref lp, .ref lt, .ref lb, .ref le, .int lc, .int ld])), (lo, .inl (cI, 40, .inl fo)), (lp, .inl (cI, 12, .inl fp)), (lt, .inl (cI, 40, .inl ft))] sz) := by
  refine Met.ofW (cc := b_Layout_addDirectoriesIn) (maxL := 4) (ret := none) (by decide +kernel) rfl ?_
  intro p e s m args below meth c s₁ B hml hv
  obtain ⟨rfl, hsz, hP, hK, hN, hD0, hZr⟩ := hv
  have hx := B.exec
  have hb := B.bytes
  have hr := B.returns
  have hts := atoms_spec (ws := w_Layout_addDirectoriesIn) B.pre
  have ht9 := fun (w : Cond) (h : w ∈ lw_g) => hts w (List.mem_cons_of_mem _ h)
  have hown : s.vm.findClass "DiscMaker$Layout" = some m.cls := findClass_of_methodNamed B.named
  have hlocks := B.notSynchronized
  subst hsz
  have hD := hD0.self (sz := s.heap.size)
  generalize hAe : va_A [(l0, .inr (3, [.int ln, .int lds, .int ltb, .ref lo, .ref lp, .ref lt, .ref lb, .ref le, .int lc, .int ld])), (lo, .inl (cI, 40, .inl fo)), (lp, .inl (cI, 12, .inl fp)), (lt, .inl (cI, 40, .inl ft))] s.heap.size = A at hD hZr ⊢
  have hA : ∀ q : Nat, s.heap.size ≤ q → A q := fun q h => by rw [← hAe]; exact Or.inr h
  have hS : va_S A s.heap s.heap [] := va_S.rf
  have hP : va_P D CL [(l0, .inr (3, [.int ln, .int lds, .int ltb, .ref lo, .ref lp, .ref lt, .ref lb, .ref le, .int lc, .int ld])), (lo, .inl (cI, 40, .inl fo)), (lp, .inl (cI, 12, .inl fp)), (lt, .inl (cI, 40, .inl ft))] s.heap := hP
  have hl := lv_entry [.ref l0, .ref tr, .int x] (n := 4) (Nat.le_of_ble_eq_true rfl)
  rw [lg_entry_eq]
  generalize (lg_sl [.ref l0, .ref tr, .int x] ++ List.replicate (4 - (lg_sl [.ref l0, .ref tr, .int x]).length) Slot.unset).toArray = ls at hl ⊢
  have hl : lv_has ls 4 [(0, .ref l0), (1, .ref tr), (2, .int x)] := hl
  have L_m1 : ((-1) : Int32).toInt = (-1) := by decide
  have L_0 : (0 : Int32).toInt = 0 := by decide
  have L_1 : (1 : Int32).toInt = 1 := by decide
  refine lv_iconst (v := 0) hx hb d_Layout_addDirectoriesIn_0 (by decide) ?_
  refine lv_istore_n hx hb d_Layout_addDirectoriesIn_1 rfl hl (by decide) rfl (fun ls hl => ?_)
  have hl : lv_has ls 4 [(3, .int 0), (0, .ref l0), (1, .ref tr), (2, .int x)] := hl
  refine zz_labM (B := fun (lk : Nat) (K : Heap → List Loc → Array Slot → List Value → Prop) => ∀ (kx : Int32) (lld : Int32) (lfp : Nat → Int32) (lft : Nat → Int32) (H : Heap) (locs : List Loc) (ls : Array Slot), lk = (lc.toInt - kx.toInt).toNat → (0 ≤ kx.toInt ∧ kx.toInt ≤ lc.toInt) → (ld.toInt ≤ lld.toInt ∧ lld.toInt ≤ 12) → (OrdOK lld.toInt cm lfp) → va_P D CL [(l0, .inr (3, [.int ln, .int lds, .int ltb, .ref lo, .ref lp, .ref lt, .ref lb, .ref le, .int lc, .int lld])), (lo, .inl (cI, 40, .inl fo)), (lp, .inl (cI, 12, .inl lfp)), (lt, .inl (cI, 40, .inl lft))] H → va_D A [(l0, .inr (3, [.int ln, .int lds, .int ltb, .ref lo, .ref lp, .ref lt, .ref lb, .ref le, .int lc, .int lld])), (lo, .inl (cI, 40, .inl fo)), (lp, .inl (cI, 12, .inl lfp)), (lt, .inl (cI, 40, .inl lft))] → va_S A s.heap H locs → lv_has ls 4 [(0, .ref l0), (1, .ref tr), (2, .int x), (3, .int kx)] → K H locs ls []) 2 ?_ ?_
  · skip
    intro lk ih2 kx lld lfp lft H locs ls hm2 e1 e2 e3 hP hD hS hl
    refine lv_iload_n hx hb d_Layout_addDirectoriesIn_2 rfl (lv_at hl 3 rfl) ?_
    refine lv_aload_n hx hb d_Layout_addDirectoriesIn_3 rfl (lv_at hl 0 rfl) ?_
    refine va_get (D := D) (ci := 3) (v := .int lc) (C := "DiscMaker$Layout") (T := F_Layout) (N := 10) hx hb ht9 in_Layout hown hK hP 0 rfl rfl 8 (by decide) (ht9 _ k296) (fun _ h9 => h9) rfl d_Layout_addDirectoriesIn_4 ?_
    refine lv_icmp_ge (tgt := 61) hx hb d_Layout_addDirectoriesIn_7 (by decide) (fun h_9 => ?_) (fun h_9 => ?_)
    · skip
      have g7_6 : lc.toInt ≤ kx.toInt := (i_le rfl rfl).mp h_9
      have hP9 := hP.sub (ws' := [(l0, .inr (3, [.int ln, .int lds, .int ltb, .ref lo, .ref lp, .ref lt, .ref lb, .ref le, .int lc, .int lld])), (lo, .inl (cI, 40, .inl fo)), (lp, .inl (cI, 12, .inl lfp)), (lt, .inl (cI, 40, .inl lft))]) [0, 1, 2, 3] rfl
      have hD9 := hD.sub (ws' := [(l0, .inr (3, [.int ln, .int lds, .int ltb, .ref lo, .ref lp, .ref lt, .ref lb, .ref le, .int lc, .int lld])), (lo, .inl (cI, 40, .inl fo)), (lp, .inl (cI, 12, .inl lfp)), (lt, .inl (cI, 40, .inl lft))]) [0, 1, 2, 3] (by decide +kernel) rfl
      exact W.vret hx hb hr (fun t ht hW => ⟨⟨(lld, lfp, lft), rfl, ⟨(by (try dsimp only); first | assumption | omega | trivial), e3⟩, by rw [ht]; exact hP9, hD9⟩, hS.F ht⟩) hS.2.2 d_Layout_addDirectoriesIn_61
    · skip
      have g7_6 : ¬ lc.toInt ≤ kx.toInt := fun h8 => h_9 ((i_le rfl rfl).mpr h8)
      refine lv_aload_n hx hb d_Layout_addDirectoriesIn_10 rfl (lv_at hl 1 rfl) ?_
      have hPR := RO_at hZr hS
      refine va_getN (D := D) (ci := 10) (v := .ref ta) (C := "DiscMaker$Tree") (T := F_Tree) (N := 3) hx hb ht9 in_Tree hown hK hPR 0 rfl rfl 0 (by decide) (va_Nw.use rfl (hN _ k236)) (fun _ h9 => h9) rfl d_Layout_addDirectoriesIn_11 ?_
      refine lv_aload_n hx hb d_Layout_addDirectoriesIn_14 rfl (lv_at hl 0 rfl) ?_
      refine va_get (D := D) (ci := 3) (v := .ref lo) (C := "DiscMaker$Layout") (T := F_Layout) (N := 10) hx hb ht9 in_Layout hown hK hP 0 rfl rfl 3 (by decide) (ht9 _ k286) (fun _ h9 => h9) rfl d_Layout_addDirectoriesIn_15 ?_
      refine lv_iload_n hx hb d_Layout_addDirectoriesIn_18 rfl (lv_at hl 3 rfl) ?_
      refine va_iald hx hb hK hP 1 1 rfl rfl (vp_in_iff.mpr ⟨by omega, by omega⟩) d_Layout_addDirectoriesIn_19 ?_
      refine lv_topi (fun v1 e_v1 => ?_)
      have qv1 := OrdOK_at hoo e_v1 (by have := i_cl (a := kx) (by omega); omega)
      have hPR := RO_at hZr hS
      refine va_aldq hx hb hK hPR 1 4 rfl rfl (vp_in_iff.mpr ⟨by omega, by omega⟩) d_Layout_addDirectoriesIn_20 ?_
      have c_hk2 := i_cl (a := v1) (by omega)
      have hk2 : v1.toNatClampNeg < cm := by omega
      have o_hk2 := htok v1.toNatClampNeg hk2
      obtain ⟨i_hj3, hj3⟩ : ∃ j : Nat, (PL (NC cB na ng nn nf) cm)[j]? = some ((na v1.toNatClampNeg 0), .inr (5, [.int (ng v1.toNatClampNeg 0), .ref (na v1.toNatClampNeg 1), .ref (na v1.toNatClampNeg 2), .ref (na v1.toNatClampNeg 3), .int (ng v1.toNatClampNeg 1), .int (ng v1.toNatClampNeg 2), .int (ng v1.toNatClampNeg 3), .int (ng v1.toNatClampNeg 4), .int (ng v1.toNatClampNeg 5), .int (ng v1.toNatClampNeg 6), .int (ng v1.toNatClampNeg 7), .int (ng v1.toNatClampNeg 8)])) := PL_get (i := 0) hk2 rfl
      obtain ⟨i_hj4, hj4⟩ : ∃ j : Nat, (PL (NC cB na ng nn nf) cm)[j]? = some ((na v1.toNatClampNeg 1), .inl (cB, (nn v1.toNatClampNeg 1), .inl (nf v1.toNatClampNeg 1))) := PL_get (i := 1) hk2 rfl
      obtain ⟨i_hj5, hj5⟩ : ∃ j : Nat, (PL (NC cB na ng nn nf) cm)[j]? = some ((na v1.toNatClampNeg 2), .inl (cB, 11, .inl (nf v1.toNatClampNeg 2))) := PL_get (i := 2) hk2 rfl
      obtain ⟨i_hj6, hj6⟩ : ∃ j : Nat, (PL (NC cB na ng nn nf) cm)[j]? = some ((na v1.toNatClampNeg 3), .inl (cB, (nn v1.toNatClampNeg 3), .inl (nf v1.toNatClampNeg 3))) := PL_get (i := 3) hk2 rfl
      refine W.eq (g2 := F0 m 21 ls [.ref (na v1.toNatClampNeg 0)]) (by rw [show rowF na cm v1.toNatClampNeg = some (na v1.toNatClampNeg 0) from rowF_some hk2]; rfl) ?_
      have hPR := RO_at hZr hS
      refine va_getN (D := D) (ci := 5) (v := .int (ng v1.toNatClampNeg 2)) (C := "DiscMaker$Node") (T := F_Node) (N := 12) hx hb ht9 in_Node hown hK hPR _ (pix (X := [(tr, .inr (10, [.ref ta, .int cn, .int dr])), (ta, .inl (cN, 40, .inr (.inr (.inr (.inr (rowF na cm))))))]) hj3) rfl 5 (by decide) (va_Nw.use rfl (hN _ k198)) (fun _ h9 => h9) rfl d_Layout_addDirectoriesIn_21 ?_
      refine lv_iload_n hx hb d_Layout_addDirectoriesIn_24 rfl (lv_at hl 2 rfl) ?_
      refine lv_icmp_ne (tgt := 55) hx hb d_Layout_addDirectoriesIn_25 (by decide) (fun h_9 => ?_) (fun h_9 => ?_)
      · skip
        have g25_17 : ¬ (ng v1.toNatClampNeg 2).toInt = x.toInt := fun h8 => h_9 ((i_eq rfl rfl).mpr h8)
        obtain ⟨v7, e_v7⟩ : ∃ z : Int32, z = kx + 1 := ⟨_, rfl⟩
        refine lv_iinc (v := v7) hx hb d_Layout_addDirectoriesIn_55 hl (k := 3) rfl e_v7.symm (by decide +kernel) rfl (fun ls hl => ?_)
        have t_v7 : v7.toInt = kx.toInt + 1 := by rw [e_v7]; exact i_add rfl (by decide) (by omega) (by omega)
        have hl : lv_has ls 4 [(3, .int v7), (0, .ref l0), (1, .ref tr), (2, .int x)] := hl
        refine lv_goto (tgt := 2) hx hb d_Layout_addDirectoriesIn_58 (by decide) ?_
        have hP := hP.sub (ws' := [(l0, .inr (3, [.int ln, .int lds, .int ltb, .ref lo, .ref lp, .ref lt, .ref lb, .ref le, .int lc, .int lld])), (lo, .inl (cI, 40, .inl fo)), (lp, .inl (cI, 12, .inl lfp)), (lt, .inl (cI, 40, .inl lft))]) [0, 1, 2, 3] rfl
        have hD := hD.sub (ws' := [(l0, .inr (3, [.int ln, .int lds, .int ltb, .ref lo, .ref lp, .ref lt, .ref lb, .ref le, .int lc, .int lld])), (lo, .inl (cI, 40, .inl fo)), (lp, .inl (cI, 12, .inl lfp)), (lt, .inl (cI, 40, .inl lft))]) [0, 1, 2, 3] (by decide +kernel) rfl
        have hl := lv_sub hl [1, 2, 3, 0] rfl
        exact ih2 _ (by first | omega | (dsimp only; omega)) v7 lld lfp lft _ _ _ rfl ((by (try dsimp only); first | assumption | omega | trivial)) ((by (try dsimp only); first | assumption | omega | trivial)) (e3) hP hD hS hl
      · skip
        have g25_17 : (ng v1.toNatClampNeg 2).toInt = x.toInt := (i_eq rfl rfl).mp h_9
        refine lv_aload_n hx hb d_Layout_addDirectoriesIn_28 rfl (lv_at hl 1 rfl) ?_
        have hPR := RO_at hZr hS
        refine va_getN (D := D) (ci := 10) (v := .ref ta) (C := "DiscMaker$Tree") (T := F_Tree) (N := 3) hx hb ht9 in_Tree hown hK hPR 0 rfl rfl 0 (by decide) (va_Nw.use rfl (hN _ k236)) (fun _ h9 => h9) rfl d_Layout_addDirectoriesIn_29 ?_
        refine lv_aload_n hx hb d_Layout_addDirectoriesIn_32 rfl (lv_at hl 0 rfl) ?_
        refine va_get (D := D) (ci := 3) (v := .ref lo) (C := "DiscMaker$Layout") (T := F_Layout) (N := 10) hx hb ht9 in_Layout hown hK hP 0 rfl rfl 3 (by decide) (ht9 _ k286) (fun _ h9 => h9) rfl d_Layout_addDirectoriesIn_33 ?_
        refine lv_iload_n hx hb d_Layout_addDirectoriesIn_36 rfl (lv_at hl 3 rfl) ?_
        refine va_iald hx hb hK hP 1 1 rfl rfl (vp_in_iff.mpr ⟨by omega, by omega⟩) d_Layout_addDirectoriesIn_37 ?_
        refine lv_topi (fun v8 e_v8 => ?_)
        have q_v8 : v8.toInt = v1.toInt := by rw [e_v8, e_v1]
        have qv8 := OrdOK_at hoo e_v8 (by have := i_cl (a := kx) (by omega); omega)
        have hPR := RO_at hZr hS
        refine va_aldq hx hb hK hPR 1 4 rfl rfl (vp_in_iff.mpr ⟨by omega, by omega⟩) d_Layout_addDirectoriesIn_38 ?_
        have c_hk9 := i_cl (a := v8) (by omega)
        have hk9 : v8.toNatClampNeg < cm := by omega
        have o_hk9 := htok v8.toNatClampNeg hk9
        obtain ⟨i_hj10, hj10⟩ : ∃ j : Nat, (PL (NC cB na ng nn nf) cm)[j]? = some ((na v8.toNatClampNeg 0), .inr (5, [.int (ng v8.toNatClampNeg 0), .ref (na v8.toNatClampNeg 1), .ref (na v8.toNatClampNeg 2), .ref (na v8.toNatClampNeg 3), .int (ng v8.toNatClampNeg 1), .int (ng v8.toNatClampNeg 2), .int (ng v8.toNatClampNeg 3), .int (ng v8.toNatClampNeg 4), .int (ng v8.toNatClampNeg 5), .int (ng v8.toNatClampNeg 6), .int (ng v8.toNatClampNeg 7), .int (ng v8.toNatClampNeg 8)])) := PL_get (i := 0) hk9 rfl
        obtain ⟨i_hj11, hj11⟩ : ∃ j : Nat, (PL (NC cB na ng nn nf) cm)[j]? = some ((na v8.toNatClampNeg 1), .inl (cB, (nn v8.toNatClampNeg 1), .inl (nf v8.toNatClampNeg 1))) := PL_get (i := 1) hk9 rfl
        obtain ⟨i_hj12, hj12⟩ : ∃ j : Nat, (PL (NC cB na ng nn nf) cm)[j]? = some ((na v8.toNatClampNeg 2), .inl (cB, 11, .inl (nf v8.toNatClampNeg 2))) := PL_get (i := 2) hk9 rfl
        obtain ⟨i_hj13, hj13⟩ : ∃ j : Nat, (PL (NC cB na ng nn nf) cm)[j]? = some ((na v8.toNatClampNeg 3), .inl (cB, (nn v8.toNatClampNeg 3), .inl (nf v8.toNatClampNeg 3))) := PL_get (i := 3) hk9 rfl
        refine W.eq (g2 := F0 m 39 ls [.ref (na v8.toNatClampNeg 0)]) (by rw [show rowF na cm v8.toNatClampNeg = some (na v8.toNatClampNeg 0) from rowF_some hk9]; rfl) ?_
        have hPR := RO_at hZr hS
        refine va_getN (D := D) (ci := 5) (v := .int (ng v8.toNatClampNeg 0)) (C := "DiscMaker$Node") (T := F_Node) (N := 12) hx hb ht9 in_Node hown hK hPR _ (pix (X := [(tr, .inr (10, [.ref ta, .int cn, .int dr])), (ta, .inl (cN, 40, .inr (.inr (.inr (.inr (rowF na cm))))))]) hj10) rfl 0 (by decide) (va_Nw.use rfl (hN _ k179)) (fun _ h9 => h9) rfl d_Layout_addDirectoriesIn_39 ?_
        refine lv_if_ne (tgt := 55) hx hb d_Layout_addDirectoriesIn_42 (by decide) (fun h_9 => ?_) (fun h_9 => ?_)
        · skip
          have g42_29 : ¬ (ng v8.toNatClampNeg 0).toInt = 0 := fun h8 => h_9 ((i_eq rfl (by decide)).mpr h8)
          obtain ⟨v14, e_v14⟩ : ∃ z : Int32, z = kx + 1 := ⟨_, rfl⟩
          refine lv_iinc (v := v14) hx hb d_Layout_addDirectoriesIn_55 hl (k := 3) rfl e_v14.symm (by decide +kernel) rfl (fun ls hl => ?_)
          have t_v14 : v14.toInt = kx.toInt + 1 := by rw [e_v14]; exact i_add rfl (by decide) (by omega) (by omega)
          have hl : lv_has ls 4 [(3, .int v14), (0, .ref l0), (1, .ref tr), (2, .int x)] := hl
          refine lv_goto (tgt := 2) hx hb d_Layout_addDirectoriesIn_58 (by decide) ?_
          have hP := hP.sub (ws' := [(l0, .inr (3, [.int ln, .int lds, .int ltb, .ref lo, .ref lp, .ref lt, .ref lb, .ref le, .int lc, .int lld])), (lo, .inl (cI, 40, .inl fo)), (lp, .inl (cI, 12, .inl lfp)), (lt, .inl (cI, 40, .inl lft))]) [0, 1, 2, 3] rfl
          have hD := hD.sub (ws' := [(l0, .inr (3, [.int ln, .int lds, .int ltb, .ref lo, .ref lp, .ref lt, .ref lb, .ref le, .int lc, .int lld])), (lo, .inl (cI, 40, .inl fo)), (lp, .inl (cI, 12, .inl lfp)), (lt, .inl (cI, 40, .inl lft))]) [0, 1, 2, 3] (by decide +kernel) rfl
          have hl := lv_sub hl [1, 2, 3, 0] rfl
          exact ih2 _ (by first | omega | (dsimp only; omega)) v14 lld lfp lft _ _ _ rfl ((by (try dsimp only); first | assumption | omega | trivial)) ((by (try dsimp only); first | assumption | omega | trivial)) (e3) hP hD hS hl
        · skip
          have g42_29 : (ng v8.toNatClampNeg 0).toInt = 0 := (i_eq rfl (by decide)).mp h_9
          refine lv_aload_n hx hb d_Layout_addDirectoriesIn_45 rfl (lv_at hl 0 rfl) ?_
          refine lv_aload_n hx hb d_Layout_addDirectoriesIn_46 rfl (lv_at hl 0 rfl) ?_
          refine va_get (D := D) (ci := 3) (v := .ref lo) (C := "DiscMaker$Layout") (T := F_Layout) (N := 10) hx hb ht9 in_Layout hown hK hP 0 rfl rfl 3 (by decide) (ht9 _ k286) (fun _ h9 => h9) rfl d_Layout_addDirectoriesIn_47 ?_
          refine lv_iload_n hx hb d_Layout_addDirectoriesIn_50 rfl (lv_at hl 3 rfl) ?_
          refine va_iald hx hb hK hP 1 1 rfl rfl (vp_in_iff.mpr ⟨by omega, by omega⟩) d_Layout_addDirectoriesIn_51 ?_
          refine lv_topi (fun v15 e_v15 => ?_)
          have q_v15 : v15.toInt = v1.toInt := by rw [e_v15, e_v1]
          have qv15 := OrdOK_at hoo e_v15 (by have := i_cl (a := kx) (by omega); omega)
          have hPc := hP.sub (ws' := [(l0, .inr (3, [.int ln, .int lds, .int ltb, .ref lo, .ref lp, .ref lt, .ref lb, .ref le, .int lc, .int lld])), (lp, .inl (cI, 12, .inl lfp)), (lt, .inl (cI, 40, .inl lft))]) [0, 2, 3] rfl
          have hDc := hD.sub (ws' := [(l0, .inr (3, [.int ln, .int lds, .int ltb, .ref lo, .ref lp, .ref lt, .ref lb, .ref le, .int lc, .int lld])), (lp, .inl (cI, 12, .inl lfp)), (lt, .inl (cI, 40, .inl lft))]) [0, 2, 3] (by decide +kernel) rfl
          have hFc := va_free (wc := [(l0, .inr (3, [.int ln, .int lds, .int ltb, .ref lo, .ref lp, .ref lt, .ref lb, .ref le, .int lc, .int lld])), (lp, .inl (cI, 12, .inl lfp)), (lt, .inl (cI, 40, .inl lft))]) hD hS hA [0, 2, 3] rfl
          have hkc : 0 ≤ 0 := by decide
          have hks : 0 ≤ 0 := by decide
          refine va_callv (va_runV (C := "DiscMaker$Layout") (As := [.int v15]) (rest := []) ⟨hx, hb, hml, hown, hts⟩ (c3_addDirectory l D cB cI cJ cZ cN cF H.size l0 lo lp lt lb le ln lds ltb lc lld lfp lft cm v15 (by (try dsimp only); first | assumption | omega | trivial) (by (try dsimp only); first | assumption | omega | trivial) (by (try dsimp only); first | assumption | omega | trivial) (e3)) (cwV 1 hts (lg_goodV k956 k958 k14 k121 kc_Layout_addDirectory) rfl rfl rfl (by decide +kernel) ⟨Nat.le_of_ble_eq_true rfl, Nat.le_of_ble_eq_true rfl⟩) ⟨fun a U g mk q => by obtain ⟨q0, q1, qP, qK, qN, qD⟩ := q; exact ⟨q0, q1, qP, va_K.moved (u := U) (U := U.calling g mk a) (Vm.Alike.refl U.vm) qK, qN.calling, qD⟩, va_recv hK hP (ci := 3) (q0 := 0) rfl rfl, fun U hU hW => ⟨rfl, by rw [hU], by rw [hU]; exact hPc, va_K.moved hW.alike hK, NN.warm hW hN, hDc.weaken (fun _ _ _ _ => trivial)⟩⟩ rfl rfl hl.1 rfl (lv_room (Nat.le_of_ble_eq_true rfl)) d_Layout_addDirectoriesIn_52 ⟨hkc, hks⟩) hS (fun q _ h => hFc q h) hFc (fun u t H1 locs ht hvm hp_r16 hB hz1 hk1 hS => ?_)
          obtain ⟨ld2_17, gp_18, gt_19⟩ := u
          obtain ⟨hP1, hD1⟩ := hB
          rw [ht] at hP1
          obtain ⟨hP, hD⟩ := va_join (wr := [(lo, .inl (cI, 40, .inl fo))]) (w1 := [(l0, .inr (3, [.int ln, .int lds, .int ltb, .ref lo, .ref lp, .ref lt, .ref lb, .ref le, .int lc, .int ld2_17])), (lp, .inl (cI, 12, .inl gp_18)), (lt, .inl (cI, 40, .inl gt_19))]) hP hD [0, 2, 3] [1] rfl rfl (by decide +kernel) (by decide +kernel) hk1 hFc hP1 hD1
          clear hPc hDc hFc hP1 hD1 hk1 hz1 hkc hks
          generalize H1 = H at hP hS ⊢
          have hP : va_P D CL [(lo, .inl (cI, 40, .inl fo)), (l0, .inr (3, [.int ln, .int lds, .int ltb, .ref lo, .ref lp, .ref lt, .ref lb, .ref le, .int lc, .int ld2_17])), (lp, .inl (cI, 12, .inl gp_18)), (lt, .inl (cI, 40, .inl gt_19))] H := hP
          have hD : va_D A [(lo, .inl (cI, 40, .inl fo)), (l0, .inr (3, [.int ln, .int lds, .int ltb, .ref lo, .ref lp, .ref lt, .ref lb, .ref le, .int lc, .int ld2_17])), (lp, .inl (cI, 12, .inl gp_18)), (lt, .inl (cI, 40, .inl gt_19))] := hD
          try dsimp only at hp_r16
          obtain ⟨hld2_20, hpo2_21⟩ := hp_r16
          obtain ⟨v22, e_v22⟩ : ∃ z : Int32, z = kx + 1 := ⟨_, rfl⟩
          refine lv_iinc (v := v22) hx hb d_Layout_addDirectoriesIn_55 hl (k := 3) rfl e_v22.symm (by decide +kernel) rfl (fun ls hl => ?_)
          have t_v22 : v22.toInt = kx.toInt + 1 := by rw [e_v22]; exact i_add rfl (by decide) (by omega) (by omega)
          have hl : lv_has ls 4 [(3, .int v22), (0, .ref l0), (1, .ref tr), (2, .int x)] := hl
          refine lv_goto (tgt := 2) hx hb d_Layout_addDirectoriesIn_58 (by decide) ?_
          have hP := hP.sub (ws' := [(l0, .inr (3, [.int ln, .int lds, .int ltb, .ref lo, .ref lp, .ref lt, .ref lb, .ref le, .int lc, .int ld2_17])), (lo, .inl (cI, 40, .inl fo)), (lp, .inl (cI, 12, .inl gp_18)), (lt, .inl (cI, 40, .inl gt_19))]) [1, 0, 2, 3] rfl
          have hD := hD.sub (ws' := [(l0, .inr (3, [.int ln, .int lds, .int ltb, .ref lo, .ref lp, .ref lt, .ref lb, .ref le, .int lc, .int ld2_17])), (lo, .inl (cI, 40, .inl fo)), (lp, .inl (cI, 12, .inl gp_18)), (lt, .inl (cI, 40, .inl gt_19))]) [1, 0, 2, 3] (by decide +kernel) rfl
          have hl := lv_sub hl [1, 2, 3, 0] rfl
          exact ih2 _ (by first | omega | (dsimp only; omega)) v22 ld2_17 gp_18 gt_19 _ _ _ rfl ((by (try dsimp only); first | assumption | omega | trivial)) ((by (try dsimp only); first | assumption | omega | trivial)) (hpo2_21) hP hD hS hl
  · skip
    intro kk2
    have hP := hP.sub (ws' := [(l0, .inr (3, [.int ln, .int lds, .int ltb, .ref lo, .ref lp, .ref lt, .ref lb, .ref le, .int lc, .int ld])), (lo, .inl (cI, 40, .inl fo)), (lp, .inl (cI, 12, .inl fp)), (lt, .inl (cI, 40, .inl ft))]) [0, 1, 2, 3] rfl
    have hD := hD.sub (ws' := [(l0, .inr (3, [.int ln, .int lds, .int ltb, .ref lo, .ref lp, .ref lt, .ref lb, .ref le, .int lc, .int ld])), (lo, .inl (cI, 40, .inl fo)), (lp, .inl (cI, 12, .inl fp)), (lt, .inl (cI, 40, .inl ft))]) [0, 1, 2, 3] (by decide +kernel) rfl
    have hl := lv_sub hl [1, 2, 3, 0] rfl
    exact kk2 _ 0 ld fp ft _ _ _ rfl ((by (try dsimp only); first | assumption | omega | trivial)) ((by (try dsimp only); first | assumption | omega | trivial)) (hpo) hP hD hS hl

theorem d_Layout_arrange_0 : decode b_Layout_arrange 0 = .ok (.aload_n 0, 1) := by decide +kernel
theorem d_Layout_arrange_1 : decode b_Layout_arrange 1 = .ok (.iconst 0, 1) := by decide +kernel
theorem d_Layout_arrange_2 : decode b_Layout_arrange 2 = .ok (.putfield 38, 3) := by decide +kernel
theorem d_Layout_arrange_5 : decode b_Layout_arrange 5 = .ok (.iconst 1, 1) := by decide +kernel
theorem d_Layout_arrange_6 : decode b_Layout_arrange 6 = .ok (.istore_n 2, 1) := by decide +kernel
theorem d_Layout_arrange_7 : decode b_Layout_arrange 7 = .ok (.iload_n 2, 1) := by decide +kernel
theorem d_Layout_arrange_8 : decode b_Layout_arrange 8 = .ok (.aload_n 1, 1) := by decide +kernel
theorem d_Layout_arrange_9 : decode b_Layout_arrange 9 = .ok (.getfield 41, 3) := by decide +kernel
theorem d_Layout_arrange_12 : decode b_Layout_arrange 12 = .ok (.if_icmp .ge 40, 3) := by decide +kernel
theorem d_Layout_arrange_15 : decode b_Layout_arrange 15 = .ok (.aload_n 0, 1) := by decide +kernel
theorem d_Layout_arrange_16 : decode b_Layout_arrange 16 = .ok (.getfield 27, 3) := by decide +kernel
theorem d_Layout_arrange_19 : decode b_Layout_arrange 19 = .ok (.ifCond .eq 16, 3) := by decide +kernel
theorem d_Layout_arrange_22 : decode b_Layout_arrange 22 = .ok (.aload_n 1, 1) := by decide +kernel
theorem d_Layout_arrange_23 : decode b_Layout_arrange 23 = .ok (.getfield 44, 3) := by decide +kernel
theorem d_Layout_arrange_26 : decode b_Layout_arrange 26 = .ok (.iload_n 2, 1) := by decide +kernel
theorem d_Layout_arrange_27 : decode b_Layout_arrange 27 = .ok (.aaload, 1) := by decide +kernel
theorem d_Layout_arrange_28 : decode b_Layout_arrange 28 = .ok (.getfield 48, 3) := by decide +kernel
theorem d_Layout_arrange_31 : decode b_Layout_arrange 31 = .ok (.iconst 2, 1) := by decide +kernel
theorem d_Layout_arrange_32 : decode b_Layout_arrange 32 = .ok (.if_icmp .eq 14, 3) := by decide +kernel
theorem d_Layout_arrange_35 : decode b_Layout_arrange 35 = .ok (.aload_n 0, 1) := by decide +kernel
theorem d_Layout_arrange_36 : decode b_Layout_arrange 36 = .ok (.aload_n 1, 1) := by decide +kernel
theorem d_Layout_arrange_37 : decode b_Layout_arrange 37 = .ok (.aload_n 1, 1) := by decide +kernel
theorem d_Layout_arrange_38 : decode b_Layout_arrange 38 = .ok (.getfield 44, 3) := by decide +kernel
theorem d_Layout_arrange_41 : decode b_Layout_arrange 41 = .ok (.iload_n 2, 1) := by decide +kernel
theorem d_Layout_arrange_42 : decode b_Layout_arrange 42 = .ok (.aaload, 1) := by decide +kernel
theorem d_Layout_arrange_43 : decode b_Layout_arrange 43 = .ok (.invokevirtual 53, 3) := by decide +kernel
theorem d_Layout_arrange_46 : decode b_Layout_arrange 46 = .ok (.iinc 2 1, 3) := by decide +kernel
theorem d_Layout_arrange_49 : decode b_Layout_arrange 49 = .ok (.goto (-42), 3) := by decide +kernel
theorem d_Layout_arrange_52 : decode b_Layout_arrange 52 = .ok (.aload_n 0, 1) := by decide +kernel
theorem d_Layout_arrange_53 : decode b_Layout_arrange 53 = .ok (.iconst 0, 1) := by decide +kernel
theorem d_Layout_arrange_54 : decode b_Layout_arrange 54 = .ok (.putfield 57, 3) := by decide +kernel
theorem d_Layout_arrange_57 : decode b_Layout_arrange 57 = .ok (.aload_n 0, 1) := by decide +kernel
theorem d_Layout_arrange_58 : decode b_Layout_arrange 58 = .ok (.iconst 0, 1) := by decide +kernel
theorem d_Layout_arrange_59 : decode b_Layout_arrange 59 = .ok (.invokevirtual 60, 3) := by decide +kernel
theorem d_Layout_arrange_62 : decode b_Layout_arrange 62 = .ok (.iconst 0, 1) := by decide +kernel
theorem d_Layout_arrange_63 : decode b_Layout_arrange 63 = .ok (.istore_n 2, 1) := by decide +kernel
theorem d_Layout_arrange_64 : decode b_Layout_arrange 64 = .ok (.iload_n 2, 1) := by decide +kernel
theorem d_Layout_arrange_65 : decode b_Layout_arrange 65 = .ok (.aload_n 0, 1) := by decide +kernel
theorem d_Layout_arrange_66 : decode b_Layout_arrange 66 = .ok (.getfield 57, 3) := by decide +kernel
theorem d_Layout_arrange_69 : decode b_Layout_arrange 69 = .ok (.if_icmp .ge 26, 3) := by decide +kernel
theorem d_Layout_arrange_72 : decode b_Layout_arrange 72 = .ok (.iload_n 2, 1) := by decide +kernel
theorem d_Layout_arrange_73 : decode b_Layout_arrange 73 = .ok (.bipush 12, 2) := by decide +kernel
theorem d_Layout_arrange_75 : decode b_Layout_arrange 75 = .ok (.if_icmp .ge 20, 3) := by decide +kernel
theorem d_Layout_arrange_78 : decode b_Layout_arrange 78 = .ok (.aload_n 0, 1) := by decide +kernel
theorem d_Layout_arrange_79 : decode b_Layout_arrange 79 = .ok (.aload_n 1, 1) := by decide +kernel
theorem d_Layout_arrange_80 : decode b_Layout_arrange 80 = .ok (.aload_n 0, 1) := by decide +kernel
theorem d_Layout_arrange_81 : decode b_Layout_arrange 81 = .ok (.getfield 15, 3) := by decide +kernel
theorem d_Layout_arrange_84 : decode b_Layout_arrange 84 = .ok (.iload_n 2, 1) := by decide +kernel
theorem d_Layout_arrange_85 : decode b_Layout_arrange 85 = .ok (.iaload, 1) := by decide +kernel
theorem d_Layout_arrange_86 : decode b_Layout_arrange 86 = .ok (.invokevirtual 64, 3) := by decide +kernel
theorem d_Layout_arrange_89 : decode b_Layout_arrange 89 = .ok (.iinc 2 1, 3) := by decide +kernel
theorem d_Layout_arrange_92 : decode b_Layout_arrange 92 = .ok (.goto (-28), 3) := by decide +kernel
theorem d_Layout_arrange_95 : decode b_Layout_arrange 95 = .ok (.return_, 1) := by decide +kernel
set_option maxHeartbeats 4000000 in
set_option maxRecDepth 100000 in
theorem c3_arrange (l : Launch) (D : va_G) (cB cI cJ cZ cN cF : ClassId) (sz : Nat) (l0 : Nat) (lo : Nat) (lp : Nat) (lt : Nat) (lb : Nat) (le : Nat) (ln : Int32) (lds : Int32) (ltb : Int32) (lc : Int32) (ld : Int32) (tr : Nat) (ta : Nat) (cn : Int32) (dr : Int32) (na : Nat → Nat → Nat) (ng : Nat → Nat → Int32) (nn : Nat → Nat → Nat) (nf : Nat → Nat → Nat → Int32) (cm : Nat) (fo : Nat → Int32) (fp : Nat → Int32) (ft : Nat → Int32) (hcn : cn.toInt = cm) (hcm : cm ≤ 40) (htok : TOK cm ng nn) (hc1 : 1 ≤ cm) : Met l y_Layout_arrange w_Layout_arrange ({ frames := 3, cells := 0, slots := 0, locals := 88 }) (va_Pc [.ref l0, .ref tr] (fun U => U.heap.size = sz ∧ va_P D CL [(l0, .inr (3, [.int ln, .int lds, .int ltb, .ref lo, .ref lp, .ref lt, .ref lb, .ref le, .int lc, .int ld])), (lo, .inl (cI, 40, .inl fo)), (lp, .inl (cI, 12, .inl fp)), (lt, .inl (cI, 40, .inl ft))] U.heap ∧ va_K D CL (TY cB cI cJ cZ cN cF) U ∧ NN U ∧ va_D (fun _ => True) [(l0, .inr (3, [.int ln, .int lds, .int ltb, .ref lo, .ref lp, .ref lt, .ref lb, .ref le, .int lc, .int ld])), (lo, .inl (cI, 40, .inl fo)), (lp, .inl (cI, 12, .inl fp)), (lt, .inl (cI, 40, .inl ft))] ∧ RO D (([(tr, .inr (10, [.ref ta, .int cn, .int dr])), (ta, .inl (cN, 40, .inr (.inr (.inr (.inr (rowF na cm))))))] : va_W) ++ (PL (NC cB na ng nn nf) cm)) (va_A [(l0, .inr (3, [.int ln, .int lds, .int ltb, .ref lo, .ref lp, .ref lt, .ref lb, .ref le, .int lc, .int ld])), (lo, .inl (cI, 40, .inl fo)), (lp, .inl (cI, 12, .inl fp)), (lt, .inl (cI, 40, .inl ft))] sz) U U.heap)) (va_Qv (fun (u : Int32 × Int32 × (Nat → Int32) × (Nat → Int32) × (Nat → Int32)) => match u with | (lc2, ld2, go, gp, gt) => (0 ≤ lc2.toInt ∧ lc2.toInt < 40) ∧ (OrdOK lc2.toInt cm go) ∧ (1 ≤ ld2.toInt ∧ ld2.toInt ≤ 12) ∧ (OrdOK ld2.toInt cm gp)) (fun (u : Int32 × Int32 × (Nat → Int32) × (Nat → Int32) × (Nat → Int32)) (t : State) => match u with | (lc2, ld2, go, gp, gt) => va_P D CL [(l0, .inr (3, [.int ln, .int lds, .int ltb, .ref lo, .ref lp, .ref lt, .ref lb, .ref le, .int lc2, .int ld2])), (lo, .inl (cI, 40, .inl go)), (lp, .inl (cI, 12, .inl gp)), (lt, .inl (cI, 40, .inl gt))] t.heap ∧ va_D (va_A [(l0, .inr (3, [.int ln, .int lds, .int ltb, .ref lo, .ref lp, .ref lt, .ref lb, .ref le, .int lc, .int ld])), (lo, .inl (cI, 40, .inl fo)), (lp, .inl (cI, 12, .inl fp)), (lt, .inl (cI, 40, .inl ft))] sz) [(l0, .inr (3, [.int ln, .int lds, .int ltb, .ref lo, .ref lp, .ref lt, .ref lb, .ref le, .int lc2, .int ld2])), (lo, .inl (cI, 40, .inl go)), (lp, .inl (cI, 12, .inl gp)), (lt, .inl (cI, 40, .inl gt))]) (va_A [(l0, .inr (3, [.int ln, .int lds, .int ltb, .ref lo, .ref lp, .ref lt, .ref lb, .ref le, .int lc, .int ld])), (lo, .inl (cI, 40, .inl fo)), (lp, .inl (cI, 12, .inl fp)), (lt, .inl (cI, 40, .inl ft))] sz)) 0 0 (va_A [(l0, .inr (3, [.int ln, .int lds, .int ltb, .ref lo, .ref lp, .ref lt, .ref lb, .ref le, .int lc, .int ld])), (lo, .inl (cI, 40, .inl fo)), (lp, .inl (cI, 12, .inl fp)), (lt, .inl (cI, 40, .inl ft))] sz) := by
  refine Met.ofW (cc := b_Layout_arrange) (maxL := 3) (ret := none) (by decide +kernel) rfl ?_
  intro p e s m args below meth c s₁ B hml hv
  obtain ⟨rfl, hsz, hP, hK, hN, hD0, hZr⟩ := hv
  have hx := B.exec
  have hb := B.bytes
  have hr := B.returns
  have hts := atoms_spec (ws := w_Layout_arrange) B.pre
  have ht9 := fun (w : Cond) (h : w ∈ lw_g) => hts w (List.mem_cons_of_mem _ h)
  have hown : s.vm.findClass "DiscMaker$Layout" = some m.cls := findClass_of_methodNamed B.named
  have hlocks := B.notSynchronized
  subst hsz
  have hD := hD0.self (sz := s.heap.size)
  generalize hAe : va_A [(l0, .inr (3, [.int ln, .int lds, .int ltb, .ref lo, .ref lp, .ref lt, .ref lb, .ref le, .int lc, .int ld])), (lo, .inl (cI, 40, .inl fo)), (lp, .inl (cI, 12, .inl fp)), (lt, .inl (cI, 40, .inl ft))] s.heap.size = A at hD hZr ⊢
  have hA : ∀ q : Nat, s.heap.size ≤ q → A q := fun q h => by rw [← hAe]; exact Or.inr h
  have hS : va_S A s.heap s.heap [] := va_S.rf
  have hP : va_P D CL [(l0, .inr (3, [.int ln, .int lds, .int ltb, .ref lo, .ref lp, .ref lt, .ref lb, .ref le, .int lc, .int ld])), (lo, .inl (cI, 40, .inl fo)), (lp, .inl (cI, 12, .inl fp)), (lt, .inl (cI, 40, .inl ft))] s.heap := hP
  have hl := lv_entry [.ref l0, .ref tr] (n := 3) (Nat.le_of_ble_eq_true rfl)
  rw [lg_entry_eq]
  generalize (lg_sl [.ref l0, .ref tr] ++ List.replicate (3 - (lg_sl [.ref l0, .ref tr]).length) Slot.unset).toArray = ls at hl ⊢
  have hl : lv_has ls 3 [(0, .ref l0), (1, .ref tr)] := hl
  have L_m1 : ((-1) : Int32).toInt = (-1) := by decide
  have L_0 : (0 : Int32).toInt = 0 := by decide
  have L_1 : (1 : Int32).toInt = 1 := by decide
  have L_2 : (2 : Int32).toInt = 2 := by decide
  have L_12 : (12 : Int32).toInt = 12 := by decide
  refine lv_aload_n hx hb d_Layout_arrange_0 rfl (lv_at hl 0 rfl) ?_
  refine lv_iconst (v := 0) hx hb d_Layout_arrange_1 (by decide) ?_
  refine va_put (D := D) (ci := 3) (v := .int 0) (ty := .int) (C := "DiscMaker$Layout") (T := F_Layout) (N := 10) hx hb ht9 in_Layout t_Layout t_Layout_ok n_Layout hown hK hP hD hS 0 rfl rfl 8 (by decide) (ht9 _ k296) (fun _ h9 => h9) rfl (by decide +kernel) rfl rfl (Nat.le_of_ble_eq_true rfl) d_Layout_arrange_2 (fun H locs hP hD hS => ?_)
  have hP : va_P D CL [(l0, .inr (3, [.int ln, .int lds, .int ltb, .ref lo, .ref lp, .ref lt, .ref lb, .ref le, .int 0, .int ld])), (lo, .inl (cI, 40, .inl fo)), (lp, .inl (cI, 12, .inl fp)), (lt, .inl (cI, 40, .inl ft))] H := hP
  have hD : va_D A [(l0, .inr (3, [.int ln, .int lds, .int ltb, .ref lo, .ref lp, .ref lt, .ref lb, .ref le, .int 0, .int ld])), (lo, .inl (cI, 40, .inl fo)), (lp, .inl (cI, 12, .inl fp)), (lt, .inl (cI, 40, .inl ft))] := hD
  refine lv_iconst (v := 1) hx hb d_Layout_arrange_5 (by decide) ?_
  refine lv_istore_n hx hb d_Layout_arrange_6 rfl hl (by decide) rfl (fun ls hl => ?_)
  have hl : lv_has ls 3 [(2, .int 1), (0, .ref l0), (1, .ref tr)] := hl
  refine zz_labM (B := fun (lk : Nat) (K : Heap → List Loc → Array Slot → List Value → Prop) => ∀ (kx : Int32) (llc : Int32) (lfo : Nat → Int32) (H : Heap) (locs : List Loc) (ls : Array Slot), lk = (50 - kx.toInt).toNat → (1 ≤ kx.toInt ∧ kx.toInt ≤ 41 ∧ 0 ≤ llc.toInt ∧ llc.toInt ≤ kx.toInt - 1 ∧ (kx.toInt ≤ cn.toInt ∨ kx.toInt = 1)) → (OrdOK llc.toInt cm lfo) → va_P D CL [(l0, .inr (3, [.int ln, .int lds, .int ltb, .ref lo, .ref lp, .ref lt, .ref lb, .ref le, .int llc, .int ld])), (lo, .inl (cI, 40, .inl lfo)), (lp, .inl (cI, 12, .inl fp)), (lt, .inl (cI, 40, .inl ft))] H → va_D A [(l0, .inr (3, [.int ln, .int lds, .int ltb, .ref lo, .ref lp, .ref lt, .ref lb, .ref le, .int llc, .int ld])), (lo, .inl (cI, 40, .inl lfo)), (lp, .inl (cI, 12, .inl fp)), (lt, .inl (cI, 40, .inl ft))] → va_S A s.heap H locs → lv_has ls 3 [(0, .ref l0), (1, .ref tr), (2, .int kx)] → K H locs ls []) 7 ?_ ?_
  · skip
    intro lk ih7 kx llc lfo H locs ls hm7 e1 e2 hP hD hS hl
    refine lv_iload_n hx hb d_Layout_arrange_7 rfl (lv_at hl 2 rfl) ?_
    refine lv_aload_n hx hb d_Layout_arrange_8 rfl (lv_at hl 1 rfl) ?_
    have hPR := RO_at hZr hS
    refine va_getN (D := D) (ci := 10) (v := .int cn) (C := "DiscMaker$Tree") (T := F_Tree) (N := 3) hx hb ht9 in_Tree hown hK hPR 0 rfl rfl 1 (by decide) (va_Nw.use rfl (hN _ k240)) (fun _ h9 => h9) rfl d_Layout_arrange_9 ?_
    refine lv_icmp_ge (tgt := 52) hx hb d_Layout_arrange_12 (by decide) (fun h_9 => ?_) (fun h_9 => ?_)
    · skip
      have g12_9 : cn.toInt ≤ kx.toInt := (i_le rfl rfl).mp h_9
      refine lv_aload_n hx hb d_Layout_arrange_52 rfl (lv_at hl 0 rfl) ?_
      refine lv_iconst (v := 0) hx hb d_Layout_arrange_53 (by decide) ?_
      refine va_put (D := D) (ci := 3) (v := .int 0) (ty := .int) (C := "DiscMaker$Layout") (T := F_Layout) (N := 10) hx hb ht9 in_Layout t_Layout t_Layout_ok n_Layout hown hK hP hD hS 0 rfl rfl 9 (by decide) (ht9 _ k298) (fun _ h9 => h9) rfl (by decide +kernel) rfl rfl (Nat.le_of_ble_eq_true rfl) d_Layout_arrange_54 (fun H locs hP hD hS => ?_)
      have hP : va_P D CL [(l0, .inr (3, [.int ln, .int lds, .int ltb, .ref lo, .ref lp, .ref lt, .ref lb, .ref le, .int llc, .int 0])), (lo, .inl (cI, 40, .inl lfo)), (lp, .inl (cI, 12, .inl fp)), (lt, .inl (cI, 40, .inl ft))] H := hP
      have hD : va_D A [(l0, .inr (3, [.int ln, .int lds, .int ltb, .ref lo, .ref lp, .ref lt, .ref lb, .ref le, .int llc, .int 0])), (lo, .inl (cI, 40, .inl lfo)), (lp, .inl (cI, 12, .inl fp)), (lt, .inl (cI, 40, .inl ft))] := hD
      refine lv_aload_n hx hb d_Layout_arrange_57 rfl (lv_at hl 0 rfl) ?_
      refine lv_iconst (v := 0) hx hb d_Layout_arrange_58 (by decide) ?_
      have hPc := hP.sub (ws' := [(l0, .inr (3, [.int ln, .int lds, .int ltb, .ref lo, .ref lp, .ref lt, .ref lb, .ref le, .int llc, .int 0])), (lp, .inl (cI, 12, .inl fp)), (lt, .inl (cI, 40, .inl ft))]) [0, 2, 3] rfl
      have hDc := hD.sub (ws' := [(l0, .inr (3, [.int ln, .int lds, .int ltb, .ref lo, .ref lp, .ref lt, .ref lb, .ref le, .int llc, .int 0])), (lp, .inl (cI, 12, .inl fp)), (lt, .inl (cI, 40, .inl ft))]) [0, 2, 3] (by decide +kernel) rfl
      have hFc := va_free (wc := [(l0, .inr (3, [.int ln, .int lds, .int ltb, .ref lo, .ref lp, .ref lt, .ref lb, .ref le, .int llc, .int 0])), (lp, .inl (cI, 12, .inl fp)), (lt, .inl (cI, 40, .inl ft))]) hD hS hA [0, 2, 3] rfl
      have hkc : 0 ≤ 0 := by decide
      have hks : 0 ≤ 0 := by decide
      refine va_callv (va_runV (C := "DiscMaker$Layout") (As := [.int 0]) (rest := []) ⟨hx, hb, hml, hown, hts⟩ (c3_addDirectory l D cB cI cJ cZ cN cF H.size l0 lo lp lt lb le ln lds ltb llc 0 fp ft cm 0 (by (try dsimp only); first | assumption | omega | trivial) (by (try dsimp only); first | assumption | omega | trivial) (by (try dsimp only); first | assumption | omega | trivial) (fun j hj => absurd hj (by omega))) (cwV 1 hts (lg_goodV k956 k958 k14 k121 kc_Layout_addDirectory) rfl rfl rfl (by decide +kernel) ⟨Nat.le_of_ble_eq_true rfl, Nat.le_of_ble_eq_true rfl⟩) ⟨fun a U g mk q => by obtain ⟨q0, q1, qP, qK, qN, qD⟩ := q; exact ⟨q0, q1, qP, va_K.moved (u := U) (U := U.calling g mk a) (Vm.Alike.refl U.vm) qK, qN.calling, qD⟩, va_recv hK hP (ci := 3) (q0 := 0) rfl rfl, fun U hU hW => ⟨rfl, by rw [hU], by rw [hU]; exact hPc, va_K.moved hW.alike hK, NN.warm hW hN, hDc.weaken (fun _ _ _ _ => trivial)⟩⟩ rfl rfl hl.1 rfl (lv_room (Nat.le_of_ble_eq_true rfl)) d_Layout_arrange_59 ⟨hkc, hks⟩) hS (fun q _ h => hFc q h) hFc (fun u t H1 locs ht hvm hp_r1 hB hz1 hk1 hS => ?_)
      obtain ⟨ld2_2, gp_3, gt_4⟩ := u
      obtain ⟨hP1, hD1⟩ := hB
      rw [ht] at hP1
      obtain ⟨hP, hD⟩ := va_join (wr := [(lo, .inl (cI, 40, .inl lfo))]) (w1 := [(l0, .inr (3, [.int ln, .int lds, .int ltb, .ref lo, .ref lp, .ref lt, .ref lb, .ref le, .int llc, .int ld2_2])), (lp, .inl (cI, 12, .inl gp_3)), (lt, .inl (cI, 40, .inl gt_4))]) hP hD [0, 2, 3] [1] rfl rfl (by decide +kernel) (by decide +kernel) hk1 hFc hP1 hD1
      clear hPc hDc hFc hP1 hD1 hk1 hz1 hkc hks
      generalize H1 = H at hP hS ⊢
      have hP : va_P D CL [(lo, .inl (cI, 40, .inl lfo)), (l0, .inr (3, [.int ln, .int lds, .int ltb, .ref lo, .ref lp, .ref lt, .ref lb, .ref le, .int llc, .int ld2_2])), (lp, .inl (cI, 12, .inl gp_3)), (lt, .inl (cI, 40, .inl gt_4))] H := hP
      have hD : va_D A [(lo, .inl (cI, 40, .inl lfo)), (l0, .inr (3, [.int ln, .int lds, .int ltb, .ref lo, .ref lp, .ref lt, .ref lb, .ref le, .int llc, .int ld2_2])), (lp, .inl (cI, 12, .inl gp_3)), (lt, .inl (cI, 40, .inl gt_4))] := hD
      try dsimp only at hp_r1
      obtain ⟨hld2_5, hpo2_6⟩ := hp_r1
      try rw [L_0] at hld2_5
      refine lv_iconst (v := 0) hx hb d_Layout_arrange_62 (by decide) ?_
      refine lv_istore_n hx hb d_Layout_arrange_63 rfl hl (by decide) rfl (fun ls hl => ?_)
      have hl : lv_has ls 3 [(2, .int 0), (0, .ref l0), (1, .ref tr)] := hl
      refine zz_labM (B := fun (lk : Nat) (K : Heap → List Loc → Array Slot → List Value → Prop) => ∀ (ky : Int32) (lld : Int32) (lfp : Nat → Int32) (lft : Nat → Int32) (H : Heap) (locs : List Loc) (ls : Array Slot), lk = (20 - ky.toInt).toNat → (0 ≤ ky.toInt ∧ ky.toInt ≤ 12) → (1 ≤ lld.toInt ∧ lld.toInt ≤ 12) → (OrdOK lld.toInt cm lfp) → va_P D CL [(lo, .inl (cI, 40, .inl lfo)), (l0, .inr (3, [.int ln, .int lds, .int ltb, .ref lo, .ref lp, .ref lt, .ref lb, .ref le, .int llc, .int lld])), (lp, .inl (cI, 12, .inl lfp)), (lt, .inl (cI, 40, .inl lft))] H → va_D A [(lo, .inl (cI, 40, .inl lfo)), (l0, .inr (3, [.int ln, .int lds, .int ltb, .ref lo, .ref lp, .ref lt, .ref lb, .ref le, .int llc, .int lld])), (lp, .inl (cI, 12, .inl lfp)), (lt, .inl (cI, 40, .inl lft))] → va_S A s.heap H locs → lv_has ls 3 [(0, .ref l0), (1, .ref tr), (2, .int ky)] → K H locs ls []) 64 ?_ ?_
      · skip
        intro lk ih64 ky lld lfp lft H locs ls hm64 e5 e6 e7 hP hD hS hl
        refine lv_iload_n hx hb d_Layout_arrange_64 rfl (lv_at hl 2 rfl) ?_
        refine lv_aload_n hx hb d_Layout_arrange_65 rfl (lv_at hl 0 rfl) ?_
        refine va_get (D := D) (ci := 3) (v := .int lld) (C := "DiscMaker$Layout") (T := F_Layout) (N := 10) hx hb ht9 in_Layout hown hK hP 1 rfl rfl 9 (by decide) (ht9 _ k298) (fun _ h9 => h9) rfl d_Layout_arrange_66 ?_
        refine lv_icmp_ge (tgt := 95) hx hb d_Layout_arrange_69 (by decide) (fun h_9 => ?_) (fun h_9 => ?_)
        · skip
          have g69_21 : lld.toInt ≤ ky.toInt := (i_le rfl rfl).mp h_9
          have hP9 := hP.sub (ws' := [(l0, .inr (3, [.int ln, .int lds, .int ltb, .ref lo, .ref lp, .ref lt, .ref lb, .ref le, .int llc, .int lld])), (lo, .inl (cI, 40, .inl lfo)), (lp, .inl (cI, 12, .inl lfp)), (lt, .inl (cI, 40, .inl lft))]) [1, 0, 2, 3] rfl
          have hD9 := hD.sub (ws' := [(l0, .inr (3, [.int ln, .int lds, .int ltb, .ref lo, .ref lp, .ref lt, .ref lb, .ref le, .int llc, .int lld])), (lo, .inl (cI, 40, .inl lfo)), (lp, .inl (cI, 12, .inl lfp)), (lt, .inl (cI, 40, .inl lft))]) [1, 0, 2, 3] (by decide +kernel) rfl
          exact W.vret hx hb hr (fun t ht hW => ⟨⟨(llc, lld, lfo, lfp, lft), rfl, ⟨(by (try dsimp only); first | assumption | omega | trivial), e2, (by (try dsimp only); first | assumption | omega | trivial), e7⟩, by rw [ht]; exact hP9, hD9⟩, hS.F ht⟩) hS.2.2 d_Layout_arrange_95
        · skip
          have g69_21 : ¬ lld.toInt ≤ ky.toInt := fun h8 => h_9 ((i_le rfl rfl).mpr h8)
          refine lv_iload_n hx hb d_Layout_arrange_72 rfl (lv_at hl 2 rfl) ?_
          refine lv_bipush (v := 12) hx hb d_Layout_arrange_73 (by decide) ?_
          refine lv_icmp_ge (tgt := 95) hx hb d_Layout_arrange_75 (by decide) (fun h_9 => ?_) (fun h_9 => ?_)
          · skip
            have g75_25 : 12 ≤ ky.toInt := (i_le (by decide) rfl).mp h_9
            have hP9 := hP.sub (ws' := [(l0, .inr (3, [.int ln, .int lds, .int ltb, .ref lo, .ref lp, .ref lt, .ref lb, .ref le, .int llc, .int lld])), (lo, .inl (cI, 40, .inl lfo)), (lp, .inl (cI, 12, .inl lfp)), (lt, .inl (cI, 40, .inl lft))]) [1, 0, 2, 3] rfl
            have hD9 := hD.sub (ws' := [(l0, .inr (3, [.int ln, .int lds, .int ltb, .ref lo, .ref lp, .ref lt, .ref lb, .ref le, .int llc, .int lld])), (lo, .inl (cI, 40, .inl lfo)), (lp, .inl (cI, 12, .inl lfp)), (lt, .inl (cI, 40, .inl lft))]) [1, 0, 2, 3] (by decide +kernel) rfl
            exact W.vret hx hb hr (fun t ht hW => ⟨⟨(llc, lld, lfo, lfp, lft), rfl, ⟨(by (try dsimp only); first | assumption | omega | trivial), e2, (by (try dsimp only); first | assumption | omega | trivial), e7⟩, by rw [ht]; exact hP9, hD9⟩, hS.F ht⟩) hS.2.2 d_Layout_arrange_95
          · skip
            have g75_25 : ¬ 12 ≤ ky.toInt := fun h8 => h_9 ((i_le (by decide) rfl).mpr h8)
            refine lv_aload_n hx hb d_Layout_arrange_78 rfl (lv_at hl 0 rfl) ?_
            refine lv_aload_n hx hb d_Layout_arrange_79 rfl (lv_at hl 1 rfl) ?_
            refine lv_aload_n hx hb d_Layout_arrange_80 rfl (lv_at hl 0 rfl) ?_
            refine va_get (D := D) (ci := 3) (v := .ref lp) (C := "DiscMaker$Layout") (T := F_Layout) (N := 10) hx hb ht9 in_Layout hown hK hP 1 rfl rfl 4 (by decide) (ht9 _ k288) (fun _ h9 => h9) rfl d_Layout_arrange_81 ?_
            refine lv_iload_n hx hb d_Layout_arrange_84 rfl (lv_at hl 2 rfl) ?_
            refine va_iald hx hb hK hP 2 1 rfl rfl (vp_in_iff.mpr ⟨by omega, by omega⟩) d_Layout_arrange_85 ?_
            refine lv_topi (fun v7 e_v7 => ?_)
            have hPc := hP.sub (ws' := [(l0, .inr (3, [.int ln, .int lds, .int ltb, .ref lo, .ref lp, .ref lt, .ref lb, .ref le, .int llc, .int lld])), (lo, .inl (cI, 40, .inl lfo)), (lp, .inl (cI, 12, .inl lfp)), (lt, .inl (cI, 40, .inl lft))]) [1, 0, 2, 3] rfl
            have hDc := hD.sub (ws' := [(l0, .inr (3, [.int ln, .int lds, .int ltb, .ref lo, .ref lp, .ref lt, .ref lb, .ref le, .int llc, .int lld])), (lo, .inl (cI, 40, .inl lfo)), (lp, .inl (cI, 12, .inl lfp)), (lt, .inl (cI, 40, .inl lft))]) [1, 0, 2, 3] (by decide +kernel) rfl
            have hFc := va_free (wc := [(l0, .inr (3, [.int ln, .int lds, .int ltb, .ref lo, .ref lp, .ref lt, .ref lb, .ref le, .int llc, .int lld])), (lo, .inl (cI, 40, .inl lfo)), (lp, .inl (cI, 12, .inl lfp)), (lt, .inl (cI, 40, .inl lft))]) hD hS hA [1, 0, 2, 3] rfl
            have hkc : 0 ≤ 0 := by decide
            have hks : 0 ≤ 0 := by decide
            refine va_callv (va_runV (C := "DiscMaker$Layout") (As := [.ref tr, .int v7]) (rest := []) ⟨hx, hb, hml, hown, hts⟩ (c3_addDirectoriesIn l D cB cI cJ cZ cN cF H.size l0 lo lp lt lb le ln lds ltb llc lld tr ta cn dr na ng nn nf cm lfo lfp lft v7 (by (try dsimp only); first | assumption | omega | trivial) (by (try dsimp only); first | assumption | omega | trivial) (by (try dsimp only); first | assumption | omega | trivial) (by (try dsimp only); first | assumption | omega | trivial) (e2) (by (try dsimp only); first | assumption | omega | trivial) (e7)) (cwV 2 hts (lg_goodV k960 k962 k15 k121 kc_Layout_addDirectoriesIn) rfl rfl rfl (by decide +kernel) ⟨Nat.le_of_ble_eq_true rfl, Nat.le_of_ble_eq_true rfl⟩) ⟨fun a U g mk q => by obtain ⟨q0, q1, qP, qK, qN, qD, qZ0⟩ := q; exact ⟨q0, q1, qP, va_K.moved (u := U) (U := U.calling g mk a) (Vm.Alike.refl U.vm) qK, qN.calling, qD, RO_blind qZ0⟩, va_recv hK hP (ci := 3) (q0 := 1) rfl rfl, fun U hU hW => ⟨rfl, by rw [hU], by rw [hU]; exact hPc, va_K.moved hW.alike hK, NN.warm hW hN, hDc.weaken (fun _ _ _ _ => trivial), (RO_app (w1 := [(tr, .inr (10, [.ref ta, .int cn, .int dr]))]) (w2 := (([(ta, .inl (cN, 40, .inr (.inr (.inr (.inr (rowF na cm))))))] : va_W) ++ (PL (NC cB na ng nn nf) cm))) (RO_pass (RO_one hZr 0 rfl) hS hFc hU) (RO_app (w1 := [(ta, .inl (cN, 40, .inr (.inr (.inr (.inr (rowF na cm))))))]) (w2 := (PL (NC cB na ng nn nf) cm)) (RO_pass (RO_one hZr 1 rfl) hS hFc hU) (RO_pass (RO_tail (X := [(tr, .inr (10, [.ref ta, .int cn, .int dr])), (ta, .inl (cN, 40, .inr (.inr (.inr (.inr (rowF na cm))))))]) hZr) hS hFc hU)))⟩⟩ rfl rfl hl.1 rfl (lv_room (Nat.le_of_ble_eq_true rfl)) d_Layout_arrange_86 ⟨hkc, hks⟩) hS (fun q _ h => hFc q h) hFc (fun u t H1 locs ht hvm hp_r8 hB hz1 hk1 hS => ?_)
            obtain ⟨ld2_9, gp_10, gt_11⟩ := u
            obtain ⟨hP1, hD1⟩ := hB
            rw [ht] at hP1
            obtain ⟨hP, hD⟩ := va_join (wr := []) (w1 := [(l0, .inr (3, [.int ln, .int lds, .int ltb, .ref lo, .ref lp, .ref lt, .ref lb, .ref le, .int llc, .int ld2_9])), (lo, .inl (cI, 40, .inl lfo)), (lp, .inl (cI, 12, .inl gp_10)), (lt, .inl (cI, 40, .inl gt_11))]) hP hD [1, 0, 2, 3] [] rfl rfl (by decide +kernel) (by decide +kernel) hk1 hFc hP1 hD1
            clear hPc hDc hFc hP1 hD1 hk1 hz1 hkc hks
            generalize H1 = H at hP hS ⊢
            have hP : va_P D CL [(l0, .inr (3, [.int ln, .int lds, .int ltb, .ref lo, .ref lp, .ref lt, .ref lb, .ref le, .int llc, .int ld2_9])), (lo, .inl (cI, 40, .inl lfo)), (lp, .inl (cI, 12, .inl gp_10)), (lt, .inl (cI, 40, .inl gt_11))] H := hP
            have hD : va_D A [(l0, .inr (3, [.int ln, .int lds, .int ltb, .ref lo, .ref lp, .ref lt, .ref lb, .ref le, .int llc, .int ld2_9])), (lo, .inl (cI, 40, .inl lfo)), (lp, .inl (cI, 12, .inl gp_10)), (lt, .inl (cI, 40, .inl gt_11))] := hD
            try dsimp only at hp_r8
            obtain ⟨hld2_12, hpo2_13⟩ := hp_r8
            obtain ⟨v14, e_v14⟩ : ∃ z : Int32, z = ky + 1 := ⟨_, rfl⟩
            refine lv_iinc (v := v14) hx hb d_Layout_arrange_89 hl (k := 2) rfl e_v14.symm (by decide +kernel) rfl (fun ls hl => ?_)
            have t_v14 : v14.toInt = ky.toInt + 1 := by rw [e_v14]; exact i_add rfl (by decide) (by omega) (by omega)
            have hl : lv_has ls 3 [(2, .int v14), (0, .ref l0), (1, .ref tr)] := hl
            refine lv_goto (tgt := 64) hx hb d_Layout_arrange_92 (by decide) ?_
            have hP := hP.sub (ws' := [(lo, .inl (cI, 40, .inl lfo)), (l0, .inr (3, [.int ln, .int lds, .int ltb, .ref lo, .ref lp, .ref lt, .ref lb, .ref le, .int llc, .int ld2_9])), (lp, .inl (cI, 12, .inl gp_10)), (lt, .inl (cI, 40, .inl gt_11))]) [1, 0, 2, 3] rfl
            have hD := hD.sub (ws' := [(lo, .inl (cI, 40, .inl lfo)), (l0, .inr (3, [.int ln, .int lds, .int ltb, .ref lo, .ref lp, .ref lt, .ref lb, .ref le, .int llc, .int ld2_9])), (lp, .inl (cI, 12, .inl gp_10)), (lt, .inl (cI, 40, .inl gt_11))]) [1, 0, 2, 3] (by decide +kernel) rfl
            have hl := lv_sub hl [1, 2, 0] rfl
            exact ih64 _ (by first | omega | (dsimp only; omega)) v14 ld2_9 gp_10 gt_11 _ _ _ rfl ((by (try dsimp only); first | assumption | omega | trivial)) ((by (try dsimp only); first | assumption | omega | trivial)) (hpo2_13) hP hD hS hl
      · skip
        intro kk64
        have hP := hP.sub (ws' := [(lo, .inl (cI, 40, .inl lfo)), (l0, .inr (3, [.int ln, .int lds, .int ltb, .ref lo, .ref lp, .ref lt, .ref lb, .ref le, .int llc, .int ld2_2])), (lp, .inl (cI, 12, .inl gp_3)), (lt, .inl (cI, 40, .inl gt_4))]) [0, 1, 2, 3] rfl
        have hD := hD.sub (ws' := [(lo, .inl (cI, 40, .inl lfo)), (l0, .inr (3, [.int ln, .int lds, .int ltb, .ref lo, .ref lp, .ref lt, .ref lb, .ref le, .int llc, .int ld2_2])), (lp, .inl (cI, 12, .inl gp_3)), (lt, .inl (cI, 40, .inl gt_4))]) [0, 1, 2, 3] (by decide +kernel) rfl
        have hl := lv_sub hl [1, 2, 0] rfl
        exact kk64 _ 0 ld2_2 gp_3 gt_4 _ _ _ rfl ((by (try dsimp only); first | assumption | omega | trivial)) ((by (try dsimp only); first | assumption | omega | trivial)) (hpo2_6) hP hD hS hl
    · skip
      have g12_9 : ¬ cn.toInt ≤ kx.toInt := fun h8 => h_9 ((i_le rfl rfl).mpr h8)
      refine lv_aload_n hx hb d_Layout_arrange_15 rfl (lv_at hl 0 rfl) ?_
      refine va_get (D := D) (ci := 3) (v := .int ln) (C := "DiscMaker$Layout") (T := F_Layout) (N := 10) hx hb ht9 in_Layout hown hK hP 0 rfl rfl 0 (by decide) (ht9 _ k280) (fun _ h9 => h9) rfl d_Layout_arrange_16 ?_
      refine lv_if_eq (tgt := 35) hx hb d_Layout_arrange_19 (by decide) (fun h_9 => ?_) (fun h_9 => ?_)
      · skip
        have g19_39 : ln.toInt = 0 := (i_eq rfl (by decide)).mp h_9
        refine lv_aload_n hx hb d_Layout_arrange_35 rfl (lv_at hl 0 rfl) ?_
        refine lv_aload_n hx hb d_Layout_arrange_36 rfl (lv_at hl 1 rfl) ?_
        refine lv_aload_n hx hb d_Layout_arrange_37 rfl (lv_at hl 1 rfl) ?_
        have hPR := RO_at hZr hS
        refine va_getN (D := D) (ci := 10) (v := .ref ta) (C := "DiscMaker$Tree") (T := F_Tree) (N := 3) hx hb ht9 in_Tree hown hK hPR 0 rfl rfl 0 (by decide) (va_Nw.use rfl (hN _ k236)) (fun _ h9 => h9) rfl d_Layout_arrange_38 ?_
        refine lv_iload_n hx hb d_Layout_arrange_41 rfl (lv_at hl 2 rfl) ?_
        have hPR := RO_at hZr hS
        refine va_aldq hx hb hK hPR 1 4 rfl rfl (vp_in_iff.mpr ⟨by omega, by omega⟩) d_Layout_arrange_42 ?_
        have c_hk15 := i_cl (a := kx) (by omega)
        have hk15 : kx.toNatClampNeg < cm := by omega
        have o_hk15 := htok kx.toNatClampNeg hk15
        obtain ⟨i_hj16, hj16⟩ : ∃ j : Nat, (PL (NC cB na ng nn nf) cm)[j]? = some ((na kx.toNatClampNeg 0), .inr (5, [.int (ng kx.toNatClampNeg 0), .ref (na kx.toNatClampNeg 1), .ref (na kx.toNatClampNeg 2), .ref (na kx.toNatClampNeg 3), .int (ng kx.toNatClampNeg 1), .int (ng kx.toNatClampNeg 2), .int (ng kx.toNatClampNeg 3), .int (ng kx.toNatClampNeg 4), .int (ng kx.toNatClampNeg 5), .int (ng kx.toNatClampNeg 6), .int (ng kx.toNatClampNeg 7), .int (ng kx.toNatClampNeg 8)])) := PL_get (i := 0) hk15 rfl
        obtain ⟨i_hj17, hj17⟩ : ∃ j : Nat, (PL (NC cB na ng nn nf) cm)[j]? = some ((na kx.toNatClampNeg 1), .inl (cB, (nn kx.toNatClampNeg 1), .inl (nf kx.toNatClampNeg 1))) := PL_get (i := 1) hk15 rfl
        obtain ⟨i_hj18, hj18⟩ : ∃ j : Nat, (PL (NC cB na ng nn nf) cm)[j]? = some ((na kx.toNatClampNeg 2), .inl (cB, 11, .inl (nf kx.toNatClampNeg 2))) := PL_get (i := 2) hk15 rfl
        obtain ⟨i_hj19, hj19⟩ : ∃ j : Nat, (PL (NC cB na ng nn nf) cm)[j]? = some ((na kx.toNatClampNeg 3), .inl (cB, (nn kx.toNatClampNeg 3), .inl (nf kx.toNatClampNeg 3))) := PL_get (i := 3) hk15 rfl
        refine W.eq (g2 := F0 m 43 ls [.ref (na kx.toNatClampNeg 0), .ref tr, .ref l0]) (by rw [show rowF na cm kx.toNatClampNeg = some (na kx.toNatClampNeg 0) from rowF_some hk15]; rfl) ?_
        have hPc := hP.sub (ws' := [(l0, .inr (3, [.int ln, .int lds, .int ltb, .ref lo, .ref lp, .ref lt, .ref lb, .ref le, .int llc, .int ld])), (lo, .inl (cI, 40, .inl lfo))]) [0, 1] rfl
        have hDc := hD.sub (ws' := [(l0, .inr (3, [.int ln, .int lds, .int ltb, .ref lo, .ref lp, .ref lt, .ref lb, .ref le, .int llc, .int ld])), (lo, .inl (cI, 40, .inl lfo))]) [0, 1] (by decide +kernel) rfl
        have hFc := va_free (wc := [(l0, .inr (3, [.int ln, .int lds, .int ltb, .ref lo, .ref lp, .ref lt, .ref lb, .ref le, .int llc, .int ld])), (lo, .inl (cI, 40, .inl lfo))]) hD hS hA [0, 1] rfl
        have hkc : 0 ≤ 0 := by decide
        have hks : 0 ≤ 0 := by decide
        refine va_callv (va_runV (C := "DiscMaker$Layout") (As := [.ref tr, .ref (na kx.toNatClampNeg 0)]) (rest := []) ⟨hx, hb, hml, hown, hts⟩ (c3_insert l D cB cI cJ cZ cN cF H.size l0 lo lp lt lb le ln lds ltb llc ld tr ta cn dr na ng nn nf cm (na kx.toNatClampNeg 0) (na kx.toNatClampNeg 1) (na kx.toNatClampNeg 2) (na kx.toNatClampNeg 3) (ng kx.toNatClampNeg 0) (ng kx.toNatClampNeg 1) (ng kx.toNatClampNeg 2) (ng kx.toNatClampNeg 3) (ng kx.toNatClampNeg 4) (ng kx.toNatClampNeg 5) (ng kx.toNatClampNeg 6) (ng kx.toNatClampNeg 7) (ng kx.toNatClampNeg 8) (nn kx.toNatClampNeg 1) (nf kx.toNatClampNeg 1) (nf kx.toNatClampNeg 2) lfo (by (try dsimp only); first | assumption | omega | trivial) (by (try dsimp only); first | assumption | omega | trivial) (by (try dsimp only); first | assumption | omega | trivial) (by (try dsimp only); first | assumption | omega | trivial) (e2) (by (try dsimp only); first | assumption | omega | trivial) (by (try dsimp only); first | assumption | omega | trivial)) (cwV 2 hts (lg_goodV k947 k949 k12 k121 kc_Layout_insert) rfl rfl rfl (by decide +kernel) ⟨Nat.le_of_ble_eq_true rfl, Nat.le_of_ble_eq_true rfl⟩) ⟨fun a U g mk q => by obtain ⟨q0, q1, qP, qK, qN, qD, qZ0⟩ := q; exact ⟨q0, q1, qP, va_K.moved (u := U) (U := U.calling g mk a) (Vm.Alike.refl U.vm) qK, qN.calling, qD, RO_blind qZ0⟩, va_recv hK hP (ci := 3) (q0 := 0) rfl rfl, fun U hU hW => ⟨rfl, by rw [hU], by rw [hU]; exact hPc, va_K.moved hW.alike hK, NN.warm hW hN, hDc.weaken (fun _ _ _ _ => trivial), (RO_app (w1 := [(tr, .inr (10, [.ref ta, .int cn, .int dr]))]) (w2 := (([(ta, .inl (cN, 40, .inr (.inr (.inr (.inr (rowF na cm)))))), ((na kx.toNatClampNeg 0), .inr (5, [.int (ng kx.toNatClampNeg 0), .ref (na kx.toNatClampNeg 1), .ref (na kx.toNatClampNeg 2), .ref (na kx.toNatClampNeg 3), .int (ng kx.toNatClampNeg 1), .int (ng kx.toNatClampNeg 2), .int (ng kx.toNatClampNeg 3), .int (ng kx.toNatClampNeg 4), .int (ng kx.toNatClampNeg 5), .int (ng kx.toNatClampNeg 6), .int (ng kx.toNatClampNeg 7), .int (ng kx.toNatClampNeg 8)])), ((na kx.toNatClampNeg 1), .inl (cB, (nn kx.toNatClampNeg 1), .inl (nf kx.toNatClampNeg 1))), ((na kx.toNatClampNeg 2), .inl (cB, 11, .inl (nf kx.toNatClampNeg 2)))] : va_W) ++ (PL (NC cB na ng nn nf) cm))) (RO_pass (RO_one hZr 0 rfl) hS hFc hU) (RO_app (w1 := [(ta, .inl (cN, 40, .inr (.inr (.inr (.inr (rowF na cm))))))]) (w2 := (([((na kx.toNatClampNeg 0), .inr (5, [.int (ng kx.toNatClampNeg 0), .ref (na kx.toNatClampNeg 1), .ref (na kx.toNatClampNeg 2), .ref (na kx.toNatClampNeg 3), .int (ng kx.toNatClampNeg 1), .int (ng kx.toNatClampNeg 2), .int (ng kx.toNatClampNeg 3), .int (ng kx.toNatClampNeg 4), .int (ng kx.toNatClampNeg 5), .int (ng kx.toNatClampNeg 6), .int (ng kx.toNatClampNeg 7), .int (ng kx.toNatClampNeg 8)])), ((na kx.toNatClampNeg 1), .inl (cB, (nn kx.toNatClampNeg 1), .inl (nf kx.toNatClampNeg 1))), ((na kx.toNatClampNeg 2), .inl (cB, 11, .inl (nf kx.toNatClampNeg 2)))] : va_W) ++ (PL (NC cB na ng nn nf) cm))) (RO_pass (RO_one hZr 1 rfl) hS hFc hU) (RO_app (w1 := [((na kx.toNatClampNeg 0), .inr (5, [.int (ng kx.toNatClampNeg 0), .ref (na kx.toNatClampNeg 1), .ref (na kx.toNatClampNeg 2), .ref (na kx.toNatClampNeg 3), .int (ng kx.toNatClampNeg 1), .int (ng kx.toNatClampNeg 2), .int (ng kx.toNatClampNeg 3), .int (ng kx.toNatClampNeg 4), .int (ng kx.toNatClampNeg 5), .int (ng kx.toNatClampNeg 6), .int (ng kx.toNatClampNeg 7), .int (ng kx.toNatClampNeg 8)]))]) (w2 := (([((na kx.toNatClampNeg 1), .inl (cB, (nn kx.toNatClampNeg 1), .inl (nf kx.toNatClampNeg 1))), ((na kx.toNatClampNeg 2), .inl (cB, 11, .inl (nf kx.toNatClampNeg 2)))] : va_W) ++ (PL (NC cB na ng nn nf) cm))) (RO_pass (RO_one hZr _ (pix (X := [(tr, .inr (10, [.ref ta, .int cn, .int dr])), (ta, .inl (cN, 40, .inr (.inr (.inr (.inr (rowF na cm))))))]) hj16)) hS hFc hU) (RO_app (w1 := [((na kx.toNatClampNeg 1), .inl (cB, (nn kx.toNatClampNeg 1), .inl (nf kx.toNatClampNeg 1)))]) (w2 := (([((na kx.toNatClampNeg 2), .inl (cB, 11, .inl (nf kx.toNatClampNeg 2)))] : va_W) ++ (PL (NC cB na ng nn nf) cm))) (RO_pass (RO_one hZr _ (pix (X := [(tr, .inr (10, [.ref ta, .int cn, .int dr])), (ta, .inl (cN, 40, .inr (.inr (.inr (.inr (rowF na cm))))))]) hj17)) hS hFc hU) (RO_app (w1 := [((na kx.toNatClampNeg 2), .inl (cB, 11, .inl (nf kx.toNatClampNeg 2)))]) (w2 := (PL (NC cB na ng nn nf) cm)) (RO_pass (RO_one hZr _ (pix (X := [(tr, .inr (10, [.ref ta, .int cn, .int dr])), (ta, .inl (cN, 40, .inr (.inr (.inr (.inr (rowF na cm))))))]) hj18)) hS hFc hU) (RO_pass (RO_tail (X := [(tr, .inr (10, [.ref ta, .int cn, .int dr])), (ta, .inl (cN, 40, .inr (.inr (.inr (.inr (rowF na cm))))))]) hZr) hS hFc hU))))))⟩⟩ rfl rfl hl.1 rfl (lv_room (Nat.le_of_ble_eq_true rfl)) d_Layout_arrange_43 ⟨hkc, hks⟩) hS (fun q _ h => hFc q h) hFc (fun u t H1 locs ht hvm hp_r20 hB hz1 hk1 hS => ?_)
        obtain ⟨go_21, lc2_22⟩ := u
        obtain ⟨hP1, hD1⟩ := hB
        rw [ht] at hP1
        obtain ⟨hP, hD⟩ := va_join (wr := [(lp, .inl (cI, 12, .inl fp)), (lt, .inl (cI, 40, .inl ft))]) (w1 := [(l0, .inr (3, [.int ln, .int lds, .int ltb, .ref lo, .ref lp, .ref lt, .ref lb, .ref le, .int lc2_22, .int ld])), (lo, .inl (cI, 40, .inl go_21))]) hP hD [0, 1] [2, 3] rfl rfl (by decide +kernel) (by decide +kernel) hk1 hFc hP1 hD1
        clear hPc hDc hFc hP1 hD1 hk1 hz1 hkc hks
        generalize H1 = H at hP hS ⊢
        have hP : va_P D CL [(lp, .inl (cI, 12, .inl fp)), (lt, .inl (cI, 40, .inl ft)), (l0, .inr (3, [.int ln, .int lds, .int ltb, .ref lo, .ref lp, .ref lt, .ref lb, .ref le, .int lc2_22, .int ld])), (lo, .inl (cI, 40, .inl go_21))] H := hP
        have hD : va_D A [(lp, .inl (cI, 12, .inl fp)), (lt, .inl (cI, 40, .inl ft)), (l0, .inr (3, [.int ln, .int lds, .int ltb, .ref lo, .ref lp, .ref lt, .ref lb, .ref le, .int lc2_22, .int ld])), (lo, .inl (cI, 40, .inl go_21))] := hD
        try dsimp only at hp_r20
        obtain ⟨hlc2_23, hoo2_24⟩ := hp_r20
        obtain ⟨v25, e_v25⟩ : ∃ z : Int32, z = kx + 1 := ⟨_, rfl⟩
        refine lv_iinc (v := v25) hx hb d_Layout_arrange_46 hl (k := 2) rfl e_v25.symm (by decide +kernel) rfl (fun ls hl => ?_)
        have t_v25 : v25.toInt = kx.toInt + 1 := by rw [e_v25]; exact i_add rfl (by decide) (by omega) (by omega)
        have hl : lv_has ls 3 [(2, .int v25), (0, .ref l0), (1, .ref tr)] := hl
        refine lv_goto (tgt := 7) hx hb d_Layout_arrange_49 (by decide) ?_
        have hP := hP.sub (ws' := [(l0, .inr (3, [.int ln, .int lds, .int ltb, .ref lo, .ref lp, .ref lt, .ref lb, .ref le, .int lc2_22, .int ld])), (lo, .inl (cI, 40, .inl go_21)), (lp, .inl (cI, 12, .inl fp)), (lt, .inl (cI, 40, .inl ft))]) [2, 3, 0, 1] rfl
        have hD := hD.sub (ws' := [(l0, .inr (3, [.int ln, .int lds, .int ltb, .ref lo, .ref lp, .ref lt, .ref lb, .ref le, .int lc2_22, .int ld])), (lo, .inl (cI, 40, .inl go_21)), (lp, .inl (cI, 12, .inl fp)), (lt, .inl (cI, 40, .inl ft))]) [2, 3, 0, 1] (by decide +kernel) rfl
        have hl := lv_sub hl [1, 2, 0] rfl
        exact ih7 _ (by first | omega | (dsimp only; omega)) v25 lc2_22 go_21 _ _ _ rfl ((by (try dsimp only); first | assumption | omega | trivial)) (hoo2_24) hP hD hS hl
      · skip
        have g19_39 : ¬ ln.toInt = 0 := fun h8 => h_9 ((i_eq rfl (by decide)).mpr h8)
        refine lv_aload_n hx hb d_Layout_arrange_22 rfl (lv_at hl 1 rfl) ?_
        have hPR := RO_at hZr hS
        refine va_getN (D := D) (ci := 10) (v := .ref ta) (C := "DiscMaker$Tree") (T := F_Tree) (N := 3) hx hb ht9 in_Tree hown hK hPR 0 rfl rfl 0 (by decide) (va_Nw.use rfl (hN _ k236)) (fun _ h9 => h9) rfl d_Layout_arrange_23 ?_
        refine lv_iload_n hx hb d_Layout_arrange_26 rfl (lv_at hl 2 rfl) ?_
        have hPR := RO_at hZr hS
        refine va_aldq hx hb hK hPR 1 4 rfl rfl (vp_in_iff.mpr ⟨by omega, by omega⟩) d_Layout_arrange_27 ?_
        have c_hk26 := i_cl (a := kx) (by omega)
        have hk26 : kx.toNatClampNeg < cm := by omega
        have o_hk26 := htok kx.toNatClampNeg hk26
        obtain ⟨i_hj27, hj27⟩ : ∃ j : Nat, (PL (NC cB na ng nn nf) cm)[j]? = some ((na kx.toNatClampNeg 0), .inr (5, [.int (ng kx.toNatClampNeg 0), .ref (na kx.toNatClampNeg 1), .ref (na kx.toNatClampNeg 2), .ref (na kx.toNatClampNeg 3), .int (ng kx.toNatClampNeg 1), .int (ng kx.toNatClampNeg 2), .int (ng kx.toNatClampNeg 3), .int (ng kx.toNatClampNeg 4), .int (ng kx.toNatClampNeg 5), .int (ng kx.toNatClampNeg 6), .int (ng kx.toNatClampNeg 7), .int (ng kx.toNatClampNeg 8)])) := PL_get (i := 0) hk26 rfl
        obtain ⟨i_hj28, hj28⟩ : ∃ j : Nat, (PL (NC cB na ng nn nf) cm)[j]? = some ((na kx.toNatClampNeg 1), .inl (cB, (nn kx.toNatClampNeg 1), .inl (nf kx.toNatClampNeg 1))) := PL_get (i := 1) hk26 rfl
        obtain ⟨i_hj29, hj29⟩ : ∃ j : Nat, (PL (NC cB na ng nn nf) cm)[j]? = some ((na kx.toNatClampNeg 2), .inl (cB, 11, .inl (nf kx.toNatClampNeg 2))) := PL_get (i := 2) hk26 rfl
        obtain ⟨i_hj30, hj30⟩ : ∃ j : Nat, (PL (NC cB na ng nn nf) cm)[j]? = some ((na kx.toNatClampNeg 3), .inl (cB, (nn kx.toNatClampNeg 3), .inl (nf kx.toNatClampNeg 3))) := PL_get (i := 3) hk26 rfl
        refine W.eq (g2 := F0 m 28 ls [.ref (na kx.toNatClampNeg 0)]) (by rw [show rowF na cm kx.toNatClampNeg = some (na kx.toNatClampNeg 0) from rowF_some hk26]; rfl) ?_
        have hPR := RO_at hZr hS
        refine va_getN (D := D) (ci := 5) (v := .int (ng kx.toNatClampNeg 0)) (C := "DiscMaker$Node") (T := F_Node) (N := 12) hx hb ht9 in_Node hown hK hPR _ (pix (X := [(tr, .inr (10, [.ref ta, .int cn, .int dr])), (ta, .inl (cN, 40, .inr (.inr (.inr (.inr (rowF na cm))))))]) hj27) rfl 0 (by decide) (va_Nw.use rfl (hN _ k179)) (fun _ h9 => h9) rfl d_Layout_arrange_28 ?_
        refine lv_iconst (v := 2) hx hb d_Layout_arrange_31 (by decide) ?_
        refine lv_icmp_eq (tgt := 46) hx hb d_Layout_arrange_32 (by decide) (fun h_9 => ?_) (fun h_9 => ?_)
        · skip
          have g32_56 : (ng kx.toNatClampNeg 0).toInt = 2 := (i_eq rfl (by decide)).mp h_9
          obtain ⟨v31, e_v31⟩ : ∃ z : Int32, z = kx + 1 := ⟨_, rfl⟩
          refine lv_iinc (v := v31) hx hb d_Layout_arrange_46 hl (k := 2) rfl e_v31.symm (by decide +kernel) rfl (fun ls hl => ?_)
          have t_v31 : v31.toInt = kx.toInt + 1 := by rw [e_v31]; exact i_add rfl (by decide) (by omega) (by omega)
          have hl : lv_has ls 3 [(2, .int v31), (0, .ref l0), (1, .ref tr)] := hl
          refine lv_goto (tgt := 7) hx hb d_Layout_arrange_49 (by decide) ?_
          have hP := hP.sub (ws' := [(l0, .inr (3, [.int ln, .int lds, .int ltb, .ref lo, .ref lp, .ref lt, .ref lb, .ref le, .int llc, .int ld])), (lo, .inl (cI, 40, .inl lfo)), (lp, .inl (cI, 12, .inl fp)), (lt, .inl (cI, 40, .inl ft))]) [0, 1, 2, 3] rfl
          have hD := hD.sub (ws' := [(l0, .inr (3, [.int ln, .int lds, .int ltb, .ref lo, .ref lp, .ref lt, .ref lb, .ref le, .int llc, .int ld])), (lo, .inl (cI, 40, .inl lfo)), (lp, .inl (cI, 12, .inl fp)), (lt, .inl (cI, 40, .inl ft))]) [0, 1, 2, 3] (by decide +kernel) rfl
          have hl := lv_sub hl [1, 2, 0] rfl
          exact ih7 _ (by first | omega | (dsimp only; omega)) v31 llc lfo _ _ _ rfl ((by (try dsimp only); first | assumption | omega | trivial)) (e2) hP hD hS hl
        · skip
          have g32_56 : ¬ (ng kx.toNatClampNeg 0).toInt = 2 := fun h8 => h_9 ((i_eq rfl (by decide)).mpr h8)
          refine lv_aload_n hx hb d_Layout_arrange_35 rfl (lv_at hl 0 rfl) ?_
          refine lv_aload_n hx hb d_Layout_arrange_36 rfl (lv_at hl 1 rfl) ?_
          refine lv_aload_n hx hb d_Layout_arrange_37 rfl (lv_at hl 1 rfl) ?_
          have hPR := RO_at hZr hS
          refine va_getN (D := D) (ci := 10) (v := .ref ta) (C := "DiscMaker$Tree") (T := F_Tree) (N := 3) hx hb ht9 in_Tree hown hK hPR 0 rfl rfl 0 (by decide) (va_Nw.use rfl (hN _ k236)) (fun _ h9 => h9) rfl d_Layout_arrange_38 ?_
          refine lv_iload_n hx hb d_Layout_arrange_41 rfl (lv_at hl 2 rfl) ?_
          have hPR := RO_at hZr hS
          refine va_aldq hx hb hK hPR 1 4 rfl rfl (vp_in_iff.mpr ⟨by omega, by omega⟩) d_Layout_arrange_42 ?_
          have c_hk32 := i_cl (a := kx) (by omega)
          have hk32 : kx.toNatClampNeg < cm := by omega
          have o_hk32 := htok kx.toNatClampNeg hk32
          obtain ⟨i_hj33, hj33⟩ : ∃ j : Nat, (PL (NC cB na ng nn nf) cm)[j]? = some ((na kx.toNatClampNeg 0), .inr (5, [.int (ng kx.toNatClampNeg 0), .ref (na kx.toNatClampNeg 1), .ref (na kx.toNatClampNeg 2), .ref (na kx.toNatClampNeg 3), .int (ng kx.toNatClampNeg 1), .int (ng kx.toNatClampNeg 2), .int (ng kx.toNatClampNeg 3), .int (ng kx.toNatClampNeg 4), .int (ng kx.toNatClampNeg 5), .int (ng kx.toNatClampNeg 6), .int (ng kx.toNatClampNeg 7), .int (ng kx.toNatClampNeg 8)])) := PL_get (i := 0) hk32 rfl
          obtain ⟨i_hj34, hj34⟩ : ∃ j : Nat, (PL (NC cB na ng nn nf) cm)[j]? = some ((na kx.toNatClampNeg 1), .inl (cB, (nn kx.toNatClampNeg 1), .inl (nf kx.toNatClampNeg 1))) := PL_get (i := 1) hk32 rfl
          obtain ⟨i_hj35, hj35⟩ : ∃ j : Nat, (PL (NC cB na ng nn nf) cm)[j]? = some ((na kx.toNatClampNeg 2), .inl (cB, 11, .inl (nf kx.toNatClampNeg 2))) := PL_get (i := 2) hk32 rfl
          obtain ⟨i_hj36, hj36⟩ : ∃ j : Nat, (PL (NC cB na ng nn nf) cm)[j]? = some ((na kx.toNatClampNeg 3), .inl (cB, (nn kx.toNatClampNeg 3), .inl (nf kx.toNatClampNeg 3))) := PL_get (i := 3) hk32 rfl
          refine W.eq (g2 := F0 m 43 ls [.ref (na kx.toNatClampNeg 0), .ref tr, .ref l0]) (by rw [show rowF na cm kx.toNatClampNeg = some (na kx.toNatClampNeg 0) from rowF_some hk32]; rfl) ?_
          have hPc := hP.sub (ws' := [(l0, .inr (3, [.int ln, .int lds, .int ltb, .ref lo, .ref lp, .ref lt, .ref lb, .ref le, .int llc, .int ld])), (lo, .inl (cI, 40, .inl lfo))]) [0, 1] rfl
          have hDc := hD.sub (ws' := [(l0, .inr (3, [.int ln, .int lds, .int ltb, .ref lo, .ref lp, .ref lt, .ref lb, .ref le, .int llc, .int ld])), (lo, .inl (cI, 40, .inl lfo))]) [0, 1] (by decide +kernel) rfl
          have hFc := va_free (wc := [(l0, .inr (3, [.int ln, .int lds, .int ltb, .ref lo, .ref lp, .ref lt, .ref lb, .ref le, .int llc, .int ld])), (lo, .inl (cI, 40, .inl lfo))]) hD hS hA [0, 1] rfl
          have hkc : 0 ≤ 0 := by decide
          have hks : 0 ≤ 0 := by decide
          refine va_callv (va_runV (C := "DiscMaker$Layout") (As := [.ref tr, .ref (na kx.toNatClampNeg 0)]) (rest := []) ⟨hx, hb, hml, hown, hts⟩ (c3_insert l D cB cI cJ cZ cN cF H.size l0 lo lp lt lb le ln lds ltb llc ld tr ta cn dr na ng nn nf cm (na kx.toNatClampNeg 0) (na kx.toNatClampNeg 1) (na kx.toNatClampNeg 2) (na kx.toNatClampNeg 3) (ng kx.toNatClampNeg 0) (ng kx.toNatClampNeg 1) (ng kx.toNatClampNeg 2) (ng kx.toNatClampNeg 3) (ng kx.toNatClampNeg 4) (ng kx.toNatClampNeg 5) (ng kx.toNatClampNeg 6) (ng kx.toNatClampNeg 7) (ng kx.toNatClampNeg 8) (nn kx.toNatClampNeg 1) (nf kx.toNatClampNeg 1) (nf kx.toNatClampNeg 2) lfo (by (try dsimp only); first | assumption | omega | trivial) (by (try dsimp only); first | assumption | omega | trivial) (by (try dsimp only); first | assumption | omega | trivial) (by (try dsimp only); first | assumption | omega | trivial) (e2) (by (try dsimp only); first | assumption | omega | trivial) (by (try dsimp only); first | assumption | omega | trivial)) (cwV 2 hts (lg_goodV k947 k949 k12 k121 kc_Layout_insert) rfl rfl rfl (by decide +kernel) ⟨Nat.le_of_ble_eq_true rfl, Nat.le_of_ble_eq_true rfl⟩) ⟨fun a U g mk q => by obtain ⟨q0, q1, qP, qK, qN, qD, qZ0⟩ := q; exact ⟨q0, q1, qP, va_K.moved (u := U) (U := U.calling g mk a) (Vm.Alike.refl U.vm) qK, qN.calling, qD, RO_blind qZ0⟩, va_recv hK hP (ci := 3) (q0 := 0) rfl rfl, fun U hU hW => ⟨rfl, by rw [hU], by rw [hU]; exact hPc, va_K.moved hW.alike hK, NN.warm hW hN, hDc.weaken (fun _ _ _ _ => trivial), (RO_app (w1 := [(tr, .inr (10, [.ref ta, .int cn, .int dr]))]) (w2 := (([(ta, .inl (cN, 40, .inr (.inr (.inr (.inr (rowF na cm)))))), ((na kx.toNatClampNeg 0), .inr (5, [.int (ng kx.toNatClampNeg 0), .ref (na kx.toNatClampNeg 1), .ref (na kx.toNatClampNeg 2), .ref (na kx.toNatClampNeg 3), .int (ng kx.toNatClampNeg 1), .int (ng kx.toNatClampNeg 2), .int (ng kx.toNatClampNeg 3), .int (ng kx.toNatClampNeg 4), .int (ng kx.toNatClampNeg 5), .int (ng kx.toNatClampNeg 6), .int (ng kx.toNatClampNeg 7), .int (ng kx.toNatClampNeg 8)])), ((na kx.toNatClampNeg 1), .inl (cB, (nn kx.toNatClampNeg 1), .inl (nf kx.toNatClampNeg 1))), ((na kx.toNatClampNeg 2), .inl (cB, 11, .inl (nf kx.toNatClampNeg 2)))] : va_W) ++ (PL (NC cB na ng nn nf) cm))) (RO_pass (RO_one hZr 0 rfl) hS hFc hU) (RO_app (w1 := [(ta, .inl (cN, 40, .inr (.inr (.inr (.inr (rowF na cm))))))]) (w2 := (([((na kx.toNatClampNeg 0), .inr (5, [.int (ng kx.toNatClampNeg 0), .ref (na kx.toNatClampNeg 1), .ref (na kx.toNatClampNeg 2), .ref (na kx.toNatClampNeg 3), .int (ng kx.toNatClampNeg 1), .int (ng kx.toNatClampNeg 2), .int (ng kx.toNatClampNeg 3), .int (ng kx.toNatClampNeg 4), .int (ng kx.toNatClampNeg 5), .int (ng kx.toNatClampNeg 6), .int (ng kx.toNatClampNeg 7), .int (ng kx.toNatClampNeg 8)])), ((na kx.toNatClampNeg 1), .inl (cB, (nn kx.toNatClampNeg 1), .inl (nf kx.toNatClampNeg 1))), ((na kx.toNatClampNeg 2), .inl (cB, 11, .inl (nf kx.toNatClampNeg 2)))] : va_W) ++ (PL (NC cB na ng nn nf) cm))) (RO_pass (RO_one hZr 1 rfl) hS hFc hU) (RO_app (w1 := [((na kx.toNatClampNeg 0), .inr (5, [.int (ng kx.toNatClampNeg 0), .ref (na kx.toNatClampNeg 1), .ref (na kx.toNatClampNeg 2), .ref (na kx.toNatClampNeg 3), .int (ng kx.toNatClampNeg 1), .int (ng kx.toNatClampNeg 2), .int (ng kx.toNatClampNeg 3), .int (ng kx.toNatClampNeg 4), .int (ng kx.toNatClampNeg 5), .int (ng kx.toNatClampNeg 6), .int (ng kx.toNatClampNeg 7), .int (ng kx.toNatClampNeg 8)]))]) (w2 := (([((na kx.toNatClampNeg 1), .inl (cB, (nn kx.toNatClampNeg 1), .inl (nf kx.toNatClampNeg 1))), ((na kx.toNatClampNeg 2), .inl (cB, 11, .inl (nf kx.toNatClampNeg 2)))] : va_W) ++ (PL (NC cB na ng nn nf) cm))) (RO_pass (RO_one hZr _ (pix (X := [(tr, .inr (10, [.ref ta, .int cn, .int dr])), (ta, .inl (cN, 40, .inr (.inr (.inr (.inr (rowF na cm))))))]) hj33)) hS hFc hU) (RO_app (w1 := [((na kx.toNatClampNeg 1), .inl (cB, (nn kx.toNatClampNeg 1), .inl (nf kx.toNatClampNeg 1)))]) (w2 := (([((na kx.toNatClampNeg 2), .inl (cB, 11, .inl (nf kx.toNatClampNeg 2)))] : va_W) ++ (PL (NC cB na ng nn nf) cm))) (RO_pass (RO_one hZr _ (pix (X := [(tr, .inr (10, [.ref ta, .int cn, .int dr])), (ta, .inl (cN, 40, .inr (.inr (.inr (.inr (rowF na cm))))))]) hj34)) hS hFc hU) (RO_app (w1 := [((na kx.toNatClampNeg 2), .inl (cB, 11, .inl (nf kx.toNatClampNeg 2)))]) (w2 := (PL (NC cB na ng nn nf) cm)) (RO_pass (RO_one hZr _ (pix (X := [(tr, .inr (10, [.ref ta, .int cn, .int dr])), (ta, .inl (cN, 40, .inr (.inr (.inr (.inr (rowF na cm))))))]) hj35)) hS hFc hU) (RO_pass (RO_tail (X := [(tr, .inr (10, [.ref ta, .int cn, .int dr])), (ta, .inl (cN, 40, .inr (.inr (.inr (.inr (rowF na cm))))))]) hZr) hS hFc hU))))))⟩⟩ rfl rfl hl.1 rfl (lv_room (Nat.le_of_ble_eq_true rfl)) d_Layout_arrange_43 ⟨hkc, hks⟩) hS (fun q _ h => hFc q h) hFc (fun u t H1 locs ht hvm hp_r37 hB hz1 hk1 hS => ?_)
          obtain ⟨go_38, lc2_39⟩ := u
          obtain ⟨hP1, hD1⟩ := hB
          rw [ht] at hP1
          obtain ⟨hP, hD⟩ := va_join (wr := [(lp, .inl (cI, 12, .inl fp)), (lt, .inl (cI, 40, .inl ft))]) (w1 := [(l0, .inr (3, [.int ln, .int lds, .int ltb, .ref lo, .ref lp, .ref lt, .ref lb, .ref le, .int lc2_39, .int ld])), (lo, .inl (cI, 40, .inl go_38))]) hP hD [0, 1] [2, 3] rfl rfl (by decide +kernel) (by decide +kernel) hk1 hFc hP1 hD1
          clear hPc hDc hFc hP1 hD1 hk1 hz1 hkc hks
          generalize H1 = H at hP hS ⊢
          have hP : va_P D CL [(lp, .inl (cI, 12, .inl fp)), (lt, .inl (cI, 40, .inl ft)), (l0, .inr (3, [.int ln, .int lds, .int ltb, .ref lo, .ref lp, .ref lt, .ref lb, .ref le, .int lc2_39, .int ld])), (lo, .inl (cI, 40, .inl go_38))] H := hP
          have hD : va_D A [(lp, .inl (cI, 12, .inl fp)), (lt, .inl (cI, 40, .inl ft)), (l0, .inr (3, [.int ln, .int lds, .int ltb, .ref lo, .ref lp, .ref lt, .ref lb, .ref le, .int lc2_39, .int ld])), (lo, .inl (cI, 40, .inl go_38))] := hD
          try dsimp only at hp_r37
          obtain ⟨hlc2_40, hoo2_41⟩ := hp_r37
          obtain ⟨v42, e_v42⟩ : ∃ z : Int32, z = kx + 1 := ⟨_, rfl⟩
          refine lv_iinc (v := v42) hx hb d_Layout_arrange_46 hl (k := 2) rfl e_v42.symm (by decide +kernel) rfl (fun ls hl => ?_)
          have t_v42 : v42.toInt = kx.toInt + 1 := by rw [e_v42]; exact i_add rfl (by decide) (by omega) (by omega)
          have hl : lv_has ls 3 [(2, .int v42), (0, .ref l0), (1, .ref tr)] := hl
          refine lv_goto (tgt := 7) hx hb d_Layout_arrange_49 (by decide) ?_
          have hP := hP.sub (ws' := [(l0, .inr (3, [.int ln, .int lds, .int ltb, .ref lo, .ref lp, .ref lt, .ref lb, .ref le, .int lc2_39, .int ld])), (lo, .inl (cI, 40, .inl go_38)), (lp, .inl (cI, 12, .inl fp)), (lt, .inl (cI, 40, .inl ft))]) [2, 3, 0, 1] rfl
          have hD := hD.sub (ws' := [(l0, .inr (3, [.int ln, .int lds, .int ltb, .ref lo, .ref lp, .ref lt, .ref lb, .ref le, .int lc2_39, .int ld])), (lo, .inl (cI, 40, .inl go_38)), (lp, .inl (cI, 12, .inl fp)), (lt, .inl (cI, 40, .inl ft))]) [2, 3, 0, 1] (by decide +kernel) rfl
          have hl := lv_sub hl [1, 2, 0] rfl
          exact ih7 _ (by first | omega | (dsimp only; omega)) v42 lc2_39 go_38 _ _ _ rfl ((by (try dsimp only); first | assumption | omega | trivial)) (hoo2_41) hP hD hS hl
  · skip
    intro kk7
    have hP := hP.sub (ws' := [(l0, .inr (3, [.int ln, .int lds, .int ltb, .ref lo, .ref lp, .ref lt, .ref lb, .ref le, .int 0, .int ld])), (lo, .inl (cI, 40, .inl fo)), (lp, .inl (cI, 12, .inl fp)), (lt, .inl (cI, 40, .inl ft))]) [0, 1, 2, 3] rfl
    have hD := hD.sub (ws' := [(l0, .inr (3, [.int ln, .int lds, .int ltb, .ref lo, .ref lp, .ref lt, .ref lb, .ref le, .int 0, .int ld])), (lo, .inl (cI, 40, .inl fo)), (lp, .inl (cI, 12, .inl fp)), (lt, .inl (cI, 40, .inl ft))]) [0, 1, 2, 3] (by decide +kernel) rfl
    have hl := lv_sub hl [1, 2, 0] rfl
    exact kk7 _ 1 0 fo _ _ _ rfl ((by (try dsimp only); first | assumption | omega | trivial)) ((fun j hj => absurd hj (by omega))) hP hD hS hl
