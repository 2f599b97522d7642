set_option maxHeartbeats 4000000 in
set_option maxRecDepth 100000 in
theorem m_componentsF (l : Launch) (D : va_G) (cB cI cJ cZ cN cF : ClassId) (sz : Nat) (h0 : Nat) (ma : Nat → Nat) (sv_thrown sv_length sv_nodes sv_many sv_directories sv_runsFrom sv_runs sv_read sv_wrong sv_isNamed sv_goes sv_goesSize sv_goesAt sv_targetParts sv_isRoot : Int32) (F : Nat → Int64) (fT : Nat → Int32) (fTS : Nat → Int32) (x : Int32) (y : Int32) (hx0 : 0 ≤ x.toInt ∧ x.toInt < 40) (hTS : Rg 0 200 40 fTS) (hy0 : 0 ≤ y.toInt ∧ y.toInt + 600 ≤ 368640) (h1N : 1 ≤ (fTS x.toNatClampNeg).toInt) : Met l y_DiscMakerModel_components w_DiscMakerModel_components ({ frames := 2, cells := 0, slots := 0, locals := 47 }) (va_Pc [.ref h0, .int x, .int y] (fun U => U.heap.size = sz ∧ va_P D CL [(h0, .inr (11, MO ma sv_thrown sv_length sv_nodes sv_many sv_directories sv_runsFrom sv_runs sv_read sv_wrong sv_isNamed sv_goes sv_goesSize sv_goesAt sv_targetParts sv_isRoot)), ((ma 16), .inl (cJ, 46080, .inr (.inl F))), ((ma 10), .inl (cB, 8000, .inl fT)), ((ma 11), .inl (cI, 40, .inl fTS))] U.heap ∧ va_K D CL (TY cB cI cJ cZ cN cF) U ∧ NN U ∧ va_D (fun _ => True) [(h0, .inr (11, MO ma sv_thrown sv_length sv_nodes sv_many sv_directories sv_runsFrom sv_runs sv_read sv_wrong sv_isNamed sv_goes sv_goesSize sv_goesAt sv_targetParts sv_isRoot)), ((ma 16), .inl (cJ, 46080, .inr (.inl F))), ((ma 10), .inl (cB, 8000, .inl fT)), ((ma 11), .inl (cI, 40, .inl fTS))])) (va_Qi (fun (r : Int32) (u : (Nat → Int64)) => match u with | G => (BL (bF F) (bF G) y.toInt (coB (tgF fT x.toNatClampNeg) (fTS x.toNatClampNeg).toInt.toNat)) ∧ (0 ≤ r.toInt ∧ r.toInt ≤ 303)) (fun (u : (Nat → Int64)) (t : State) => match u with | G => va_P D CL [(h0, .inr (11, MO ma sv_thrown sv_length sv_nodes sv_many sv_directories sv_runsFrom sv_runs sv_read sv_wrong sv_isNamed sv_goes sv_goesSize sv_goesAt sv_targetParts sv_isRoot)), ((ma 16), .inl (cJ, 46080, .inr (.inl G))), ((ma 10), .inl (cB, 8000, .inl fT)), ((ma 11), .inl (cI, 40, .inl fTS))] t.heap ∧ va_D (va_A [(h0, .inr (11, MO ma sv_thrown sv_length sv_nodes sv_many sv_directories sv_runsFrom sv_runs sv_read sv_wrong sv_isNamed sv_goes sv_goesSize sv_goesAt sv_targetParts sv_isRoot)), ((ma 16), .inl (cJ, 46080, .inr (.inl F))), ((ma 10), .inl (cB, 8000, .inl fT)), ((ma 11), .inl (cI, 40, .inl fTS))] sz) [(h0, .inr (11, MO ma sv_thrown sv_length sv_nodes sv_many sv_directories sv_runsFrom sv_runs sv_read sv_wrong sv_isNamed sv_goes sv_goesSize sv_goesAt sv_targetParts sv_isRoot)), ((ma 16), .inl (cJ, 46080, .inr (.inl G))), ((ma 10), .inl (cB, 8000, .inl fT)), ((ma 11), .inl (cI, 40, .inl fTS))]) (va_A [(h0, .inr (11, MO ma sv_thrown sv_length sv_nodes sv_many sv_directories sv_runsFrom sv_runs sv_read sv_wrong sv_isNamed sv_goes sv_goesSize sv_goesAt sv_targetParts sv_isRoot)), ((ma 16), .inl (cJ, 46080, .inr (.inl F))), ((ma 10), .inl (cB, 8000, .inl fT)), ((ma 11), .inl (cI, 40, .inl fTS))] sz)) 0 0 (va_A [(h0, .inr (11, MO ma sv_thrown sv_length sv_nodes sv_many sv_directories sv_runsFrom sv_runs sv_read sv_wrong sv_isNamed sv_goes sv_goesSize sv_goesAt sv_targetParts sv_isRoot)), ((ma 16), .inl (cJ, 46080, .inr (.inl F))), ((ma 10), .inl (cB, 8000, .inl fT)), ((ma 11), .inl (cI, 40, .inl fTS))] sz) := by
  refine Met.ofW (cc := b_DiscMakerModel_components) (maxL := 10) (ret := some .int) (by decide) rfl ?_
  intro p e s m args below meth c s₁ B hml hv
  obtain ⟨rfl, hsz, hP, hK, hN, hD0⟩ := hv
  have hx := B.exec
  have hb := B.bytes
  have hr := B.returns
  have hts := atoms_spec (ws := w_DiscMakerModel_components) B.pre
  have ht9 := fun (w : Cond) (h : w ∈ lw_g) => hts w (List.mem_cons_of_mem _ h)
  have hown : s.vm.findClass "DiscMakerModel" = some m.cls := findClass_of_methodNamed B.named
  have hlocks := B.notSynchronized
  subst hsz
  have hD := hD0.self (sz := s.heap.size)
  generalize hAe : va_A [(h0, .inr (11, MO ma sv_thrown sv_length sv_nodes sv_many sv_directories sv_runsFrom sv_runs sv_read sv_wrong sv_isNamed sv_goes sv_goesSize sv_goesAt sv_targetParts sv_isRoot)), ((ma 16), .inl (cJ, 46080, .inr (.inl F))), ((ma 10), .inl (cB, 8000, .inl fT)), ((ma 11), .inl (cI, 40, .inl fTS))] s.heap.size = A at hD ⊢
  have hA : ∀ q : Nat, s.heap.size ≤ q → A q := fun q h => by rw [← hAe]; exact Or.inr h
  have hS : va_S A s.heap s.heap [] := va_S.rf
  have hP : va_P D CL [(h0, .inr (11, MO ma sv_thrown sv_length sv_nodes sv_many sv_directories sv_runsFrom sv_runs sv_read sv_wrong sv_isNamed sv_goes sv_goesSize sv_goesAt sv_targetParts sv_isRoot)), ((ma 16), .inl (cJ, 46080, .inr (.inl F))), ((ma 10), .inl (cB, 8000, .inl fT)), ((ma 11), .inl (cI, 40, .inl fTS))] s.heap := hP
  have hl := lv_entry [.ref h0, .int x, .int y] (n := 10) (Nat.le_of_ble_eq_true rfl)
  rw [lg_entry_eq]
  generalize (lg_sl [.ref h0, .int x, .int y] ++ List.replicate (10 - (lg_sl [.ref h0, .int x, .int y]).length) Slot.unset).toArray = ls at hl ⊢
  have hl : lv_has ls 10 [(0, .ref h0), (1, .int x), (2, .int y)] := hl
  have L_m1 : ((-1) : Int32).toInt = (-1) := by decide
  have L_0 : (0 : Int32).toInt = 0 := by decide
  have L_1 : (1 : Int32).toInt = 1 := by decide
  have L_2 : (2 : Int32).toInt = 2 := by decide
  have L_4 : (4 : Int32).toInt = 4 := by decide
  have L_8 : (8 : Int32).toInt = 8 := by decide
  have L_46 : (46 : Int32).toInt = 46 := by decide
  have L_47 : (47 : Int32).toInt = 47 := by decide
  have L_200 : (200 : Int32).toInt = 200 := by decide
  have hxc := i_cl (a := x) (by omega)
  have htz := hTS x.toNatClampNeg (by omega)
  have ht0r := t0F_rng (tgF fT x.toNatClampNeg) (fTS x.toNatClampNeg).toInt.toNat
  refine lv_aload_n hx hb d_DiscMakerModel_components_0 rfl (lv_at hl 0 rfl) ?_
  refine va_get (D := D) (ci := 11) (v := .ref (ma 11)) (C := "DiscMakerModel") (T := F_DiscMakerModel) (N := 48) hx hb ht9 in_DiscMakerModel hown hK hP 0 rfl rfl 14 (by decide) (ht9 _ k1445) (fun _ h9 => h9) rfl d_DiscMakerModel_components_1 ?_
  refine lv_iload_n hx hb d_DiscMakerModel_components_4 rfl (lv_at hl 1 rfl) ?_
  refine va_iald hx hb hK hP 3 1 rfl rfl (vp_in_iff.mpr ⟨by omega, by omega⟩) d_DiscMakerModel_components_5 ?_
  refine lv_topi (fun v1 e_v1 => ?_)
  have t_v1 : 0 ≤ v1.toInt ∧ v1.toInt ≤ 200 := by
    rw [e_v1]; exact hTS _ (by have := i_cl (a := x) (by omega); omega)
  have qnv1 : v1.toInt = (fTS x.toNatClampNeg).toInt := by rw [e_v1]
  refine lv_istore_n hx hb d_DiscMakerModel_components_6 rfl hl (by decide) rfl (fun ls hl => ?_)
  have hl : lv_has ls 10 [(3, .int v1), (0, .ref h0), (1, .int x), (2, .int y)] := hl
  refine lv_iconst (v := 0) hx hb d_DiscMakerModel_components_7 (by decide) ?_
  refine lv_istore hx hb d_DiscMakerModel_components_8 hl (by decide) rfl (fun ls hl => ?_)
  have hl : lv_has ls 10 [(4, .int 0), (3, .int v1), (0, .ref h0), (1, .int x), (2, .int y)] := hl
  refine lv_aload_n hx hb d_DiscMakerModel_components_10 rfl (lv_at hl 2 rfl) ?_
  refine va_get (D := D) (ci := 11) (v := .ref (ma 10)) (C := "DiscMakerModel") (T := F_DiscMakerModel) (N := 48) hx hb ht9 in_DiscMakerModel hown hK hP 0 rfl rfl 13 (by decide) (ht9 _ k1444) (fun _ h9 => h9) rfl d_DiscMakerModel_components_11 ?_
  refine lv_sipush (v := 200) hx hb d_DiscMakerModel_components_14 (by decide) ?_
  refine lv_iload_n hx hb d_DiscMakerModel_components_17 rfl (lv_at hl 3 rfl) ?_
  refine lv_imul hx hb d_DiscMakerModel_components_18 ?_
  refine lv_topi (fun v2 e_v2 => ?_)
  have t_v2 : v2.toInt = 200 * x.toInt := by rw [e_v2]; exact i_mul (by decide) rfl (by omega) (by omega)
  refine va_bald hx hb hK hP 2 0 rfl rfl (vp_in_iff.mpr ⟨by omega, by omega⟩) d_DiscMakerModel_components_19 ?_
  refine lv_topi (fun v3 e_v3 => ?_)
  have c_v3 := i_cl (a := v2) (by omega)
  have e2_v3 : v3 = fT (200 * x.toNatClampNeg + 0) := by rw [e_v3, show v2.toNatClampNeg = 200 * x.toNatClampNeg + 0 by omega]
  have qtv3 : (tgF fT x.toNatClampNeg (0)).toInt = v3.toInt := by unfold tgF; rw [e2_v3]
  refine zz_labM (B := fun (lk : Nat) (K : Heap → List Loc → Array Slot → List Value → Prop) => ∀ (aj : Int32) (jF : Nat → Int64) (H : Heap) (locs : List Loc) (ls : Array Slot), lk = 0 → (aj.toInt = t0F (tgF fT x.toNatClampNeg) (fTS x.toNatClampNeg).toInt.toNat) → (BL (bF F) (bF jF) y.toInt (t0B (tgF fT x.toNatClampNeg) (fTS x.toNatClampNeg).toInt.toNat)) → va_P D CL [(h0, .inr (11, MO ma sv_thrown sv_length sv_nodes sv_many sv_directories sv_runsFrom sv_runs sv_read sv_wrong sv_isNamed sv_goes sv_goesSize sv_goesAt sv_targetParts sv_isRoot)), ((ma 16), .inl (cJ, 46080, .inr (.inl jF))), ((ma 10), .inl (cB, 8000, .inl fT)), ((ma 11), .inl (cI, 40, .inl fTS))] H → va_D A [(h0, .inr (11, MO ma sv_thrown sv_length sv_nodes sv_many sv_directories sv_runsFrom sv_runs sv_read sv_wrong sv_isNamed sv_goes sv_goesSize sv_goesAt sv_targetParts sv_isRoot)), ((ma 16), .inl (cJ, 46080, .inr (.inl jF))), ((ma 10), .inl (cB, 8000, .inl fT)), ((ma 11), .inl (cI, 40, .inl fTS))] → va_S A s.heap H locs → lv_has ls 10 [(0, .ref h0), (1, .int x), (2, .int y), (3, .int v1), (4, .int aj)] → K H locs ls []) 38 ?_ ?_
  · skip
    intro lk ih38 aj jF H locs ls hm38 f0 fj hP hD hS hl
    refine lv_iconst (v := 0) hx hb d_DiscMakerModel_components_38 (by decide) ?_
    refine lv_istore hx hb d_DiscMakerModel_components_39 hl (by decide) rfl (fun ls hl => ?_)
    have hl : lv_has ls 10 [(5, .int 0), (0, .ref h0), (1, .int x), (2, .int y), (3, .int v1), (4, .int aj)] := hl
    refine zz_labM (B := fun (lk : Nat) (K : Heap → List Loc → Array Slot → List Value → Prop) => ∀ (al : Int32) (lp : Int32) (lF : Nat → Int64) (H : Heap) (locs : List Loc) (ls : Array Slot), lk = (201 - lp.toInt).toNat → (0 ≤ lp.toInt ∧ lp.toInt ≤ (fTS x.toNatClampNeg).toInt + 1) → (cpF (tgF fT x.toNatClampNeg) (fTS x.toNatClampNeg).toInt.toNat lp.toNatClampNeg = lp.toNatClampNeg) → (al.toInt = t0F (tgF fT x.toNatClampNeg) (fTS x.toNatClampNeg).toInt.toNat + cpT (tgF fT x.toNatClampNeg) (fTS x.toNatClampNeg).toInt.toNat lp.toNatClampNeg) → (BL (bF F) (bF lF) y.toInt (t0B (tgF fT x.toNatClampNeg) (fTS x.toNatClampNeg).toInt.toNat ++ cpB (tgF fT x.toNatClampNeg) (fTS x.toNatClampNeg).toInt.toNat lp.toNatClampNeg)) → va_P D CL [(h0, .inr (11, MO ma sv_thrown sv_length sv_nodes sv_many sv_directories sv_runsFrom sv_runs sv_read sv_wrong sv_isNamed sv_goes sv_goesSize sv_goesAt sv_targetParts sv_isRoot)), ((ma 16), .inl (cJ, 46080, .inr (.inl lF))), ((ma 10), .inl (cB, 8000, .inl fT)), ((ma 11), .inl (cI, 40, .inl fTS))] H → va_D A [(h0, .inr (11, MO ma sv_thrown sv_length sv_nodes sv_many sv_directories sv_runsFrom sv_runs sv_read sv_wrong sv_isNamed sv_goes sv_goesSize sv_goesAt sv_targetParts sv_isRoot)), ((ma 16), .inl (cJ, 46080, .inr (.inl lF))), ((ma 10), .inl (cB, 8000, .inl fT)), ((ma 11), .inl (cI, 40, .inl fTS))] → va_S A s.heap H locs → lv_has ls 10 [(0, .ref h0), (1, .int x), (2, .int y), (3, .int v1), (4, .int al), (5, .int lp)] → K H locs ls []) 41 ?_ ?_
    · skip
      intro lk ih41 al lp lF H locs ls hm41 f1 f6 f7 f8 hP hD hS hl
      have hlpc := i_cl (a := lp) (by omega)
      have hcr := cpT_rng (tgF fT x.toNatClampNeg) (fTS x.toNatClampNeg).toInt.toNat lp.toNatClampNeg
      have hcl := cpF_le (tgF fT x.toNatClampNeg) (fTS x.toNatClampNeg).toInt.toNat lp.toNatClampNeg
      refine lv_iload hx hb d_DiscMakerModel_components_41 (lv_at hl 5 rfl) ?_
      refine lv_iload_n hx hb d_DiscMakerModel_components_43 rfl (lv_at hl 3 rfl) ?_
      refine lv_icmp_ge (tgt := 267) hx hb d_DiscMakerModel_components_44 (by decide) (fun h_9 => ?_) (fun h_9 => ?_)
      · skip
        have g44_18 : v1.toInt ≤ lp.toInt := (i_le rfl rfl).mp h_9
        refine lv_iload hx hb d_DiscMakerModel_components_267 (lv_at hl 4 rfl) ?_
        have hP9 := hP.sub (ws' := [(h0, .inr (11, MO ma sv_thrown sv_length sv_nodes sv_many sv_directories sv_runsFrom sv_runs sv_read sv_wrong sv_isNamed sv_goes sv_goesSize sv_goesAt sv_targetParts sv_isRoot)), ((ma 16), .inl (cJ, 46080, .inr (.inl lF))), ((ma 10), .inl (cB, 8000, .inl fT)), ((ma 11), .inl (cI, 40, .inl fTS))]) [0, 1, 2, 3] rfl
        have hD9 := hD.sub (ws' := [(h0, .inr (11, MO ma sv_thrown sv_length sv_nodes sv_many sv_directories sv_runsFrom sv_runs sv_read sv_wrong sv_isNamed sv_goes sv_goesSize sv_goesAt sv_targetParts sv_isRoot)), ((ma 16), .inl (cJ, 46080, .inr (.inl lF))), ((ma 10), .inl (cB, 8000, .inl fT)), ((ma 11), .inl (cI, 40, .inl fTS))]) [0, 1, 2, 3] (by decide +kernel) rfl
        have hce := cp_end (f := (tgF fT x.toNatClampNeg)) (n := (fTS x.toNatClampNeg).toInt.toNat) (p := lp.toNatClampNeg) (by omega) (by omega) f6
        exact W.iret (v := al) hx hb hr (fun t ht hW => ⟨⟨al, lF, rfl, ⟨(by (try dsimp only); unfold coB; rw [hce.1]; exact f8), (by (try dsimp only); first | assumption | omega | trivial)⟩, by rw [ht]; exact hP9, hD9⟩, hS.F ht⟩) hS.2.2 d_DiscMakerModel_components_269
      · skip
        have g44_18 : ¬ v1.toInt ≤ lp.toInt := fun h8 => h_9 ((i_le rfl rfl).mpr h8)
        refine lv_iload hx hb d_DiscMakerModel_components_47 (lv_at hl 5 rfl) ?_
        refine lv_istore hx hb d_DiscMakerModel_components_49 hl (by decide) rfl (fun ls hl => ?_)
        have hl : lv_has ls 10 [(6, .int lp), (0, .ref h0), (1, .int x), (2, .int y), (3, .int v1), (4, .int al), (5, .int lp)] := hl
        refine zz_labM (B := fun (lk : Nat) (K : Heap → List Loc → Array Slot → List Value → Prop) => ∀ (lq : Int32) (H : Heap) (locs : List Loc) (ls : Array Slot), lk = (201 - lq.toInt).toNat → (lp.toInt ≤ lq.toInt ∧ lq.toInt ≤ (fTS x.toNatClampNeg).toInt) → (nxS (tgF fT x.toNatClampNeg) (fTS x.toNatClampNeg).toInt.toNat lq.toNatClampNeg = nxS (tgF fT x.toNatClampNeg) (fTS x.toNatClampNeg).toInt.toNat lp.toNatClampNeg) → va_P D CL [(h0, .inr (11, MO ma sv_thrown sv_length sv_nodes sv_many sv_directories sv_runsFrom sv_runs sv_read sv_wrong sv_isNamed sv_goes sv_goesSize sv_goesAt sv_targetParts sv_isRoot)), ((ma 16), .inl (cJ, 46080, .inr (.inl lF))), ((ma 10), .inl (cB, 8000, .inl fT)), ((ma 11), .inl (cI, 40, .inl fTS))] H → va_D A [(h0, .inr (11, MO ma sv_thrown sv_length sv_nodes sv_many sv_directories sv_runsFrom sv_runs sv_read sv_wrong sv_isNamed sv_goes sv_goesSize sv_goesAt sv_targetParts sv_isRoot)), ((ma 16), .inl (cJ, 46080, .inr (.inl lF))), ((ma 10), .inl (cB, 8000, .inl fT)), ((ma 11), .inl (cI, 40, .inl fTS))] → va_S A s.heap H locs → lv_has ls 10 [(0, .ref h0), (1, .int x), (2, .int y), (3, .int v1), (4, .int al), (5, .int lp), (6, .int lq)] → K H locs ls []) 51 ?_ ?_
        · skip
          intro lk ih51 lq H locs ls hm51 g1 g2 hP hD hS hl
          have hqc := i_cl (a := lq) (by omega)
          refine lv_iload hx hb d_DiscMakerModel_components_51 (lv_at hl 6 rfl) ?_
          refine zz_labM (B := fun (lk : Nat) (K : Heap → List Loc → Array Slot → List Value → Prop) => ∀ (H : Heap) (locs : List Loc) (ls : Array Slot), lk = 0 → (nxS (tgF fT x.toNatClampNeg) (fTS x.toNatClampNeg).toInt.toNat lp.toNatClampNeg = lq.toNatClampNeg) → va_P D CL [(h0, .inr (11, MO ma sv_thrown sv_length sv_nodes sv_many sv_directories sv_runsFrom sv_runs sv_read sv_wrong sv_isNamed sv_goes sv_goesSize sv_goesAt sv_targetParts sv_isRoot)), ((ma 16), .inl (cJ, 46080, .inr (.inl lF))), ((ma 10), .inl (cB, 8000, .inl fT)), ((ma 11), .inl (cI, 40, .inl fTS))] H → va_D A [(h0, .inr (11, MO ma sv_thrown sv_length sv_nodes sv_many sv_directories sv_runsFrom sv_runs sv_read sv_wrong sv_isNamed sv_goes sv_goesSize sv_goesAt sv_targetParts sv_isRoot)), ((ma 16), .inl (cJ, 46080, .inr (.inl lF))), ((ma 10), .inl (cB, 8000, .inl fT)), ((ma 11), .inl (cI, 40, .inl fTS))] → va_S A s.heap H locs → lv_has ls 10 [(0, .ref h0), (1, .int x), (2, .int y), (3, .int v1), (4, .int al), (5, .int lp), (6, .int lq)] → K H locs ls []) 81 ?_ ?_
          · skip
            intro lk ih81 H locs ls hm81 h81 hP hD hS hl
            refine lv_iload hx hb d_DiscMakerModel_components_81 (lv_at hl 6 rfl) ?_
            have hcw := cp_walk (f := (tgF fT x.toNatClampNeg)) (n := (fTS x.toNatClampNeg).toInt.toNat) (p := lp.toNatClampNeg) (by omega) f6
            rw [h81] at hcw
            refine zz_labM (B := fun (lk : Nat) (K : Heap → List Loc → Array Slot → List Value → Prop) => ∀ (jm : Int32) (H : Heap) (locs : List Loc) (ls : Array Slot), lk = 0 → (jm.toInt = mrk (tgF fT x.toNatClampNeg) lp.toNatClampNeg lq.toNatClampNeg) → (0 ≤ jm.toInt ∧ jm.toInt ≤ 4) → va_P D CL [(h0, .inr (11, MO ma sv_thrown sv_length sv_nodes sv_many sv_directories sv_runsFrom sv_runs sv_read sv_wrong sv_isNamed sv_goes sv_goesSize sv_goesAt sv_targetParts sv_isRoot)), ((ma 16), .inl (cJ, 46080, .inr (.inl lF))), ((ma 10), .inl (cB, 8000, .inl fT)), ((ma 11), .inl (cI, 40, .inl fTS))] H → va_D A [(h0, .inr (11, MO ma sv_thrown sv_length sv_nodes sv_many sv_directories sv_runsFrom sv_runs sv_read sv_wrong sv_isNamed sv_goes sv_goesSize sv_goesAt sv_targetParts sv_isRoot)), ((ma 16), .inl (cJ, 46080, .inr (.inl lF))), ((ma 10), .inl (cB, 8000, .inl fT)), ((ma 11), .inl (cI, 40, .inl fTS))] → va_S A s.heap H locs → lv_has ls 10 [(0, .ref h0), (1, .int x), (2, .int y), (3, .int v1), (4, .int al), (5, .int lp), (6, .int lq)] → K H locs ls [.int jm]) 164 ?_ ?_
            · skip
              intro lk ih164 jm H locs ls hm164 f5m f5 hP hD hS hl
              refine lv_istore hx hb d_DiscMakerModel_components_164 hl (by decide) rfl (fun ls hl => ?_)
              have hl : lv_has ls 10 [(7, .int jm), (0, .ref h0), (1, .int x), (2, .int y), (3, .int v1), (4, .int al), (5, .int lp), (6, .int lq)] := hl
              refine lv_iload hx hb d_DiscMakerModel_components_166 (lv_at hl 0 rfl) ?_
              refine zz_labM (B := fun (lk : Nat) (K : Heap → List Loc → Array Slot → List Value → Prop) => ∀ (jb : Int32) (H : Heap) (locs : List Loc) (ls : Array Slot), lk = 0 → ((jm.toInt = 0 ∧ jb.toInt = lq.toInt - lp.toInt) ∨ (jm.toInt ≠ 0 ∧ jb.toInt = 0)) → va_P D CL [(h0, .inr (11, MO ma sv_thrown sv_length sv_nodes sv_many sv_directories sv_runsFrom sv_runs sv_read sv_wrong sv_isNamed sv_goes sv_goesSize sv_goesAt sv_targetParts sv_isRoot)), ((ma 16), .inl (cJ, 46080, .inr (.inl lF))), ((ma 10), .inl (cB, 8000, .inl fT)), ((ma 11), .inl (cI, 40, .inl fTS))] H → va_D A [(h0, .inr (11, MO ma sv_thrown sv_length sv_nodes sv_many sv_directories sv_runsFrom sv_runs sv_read sv_wrong sv_isNamed sv_goes sv_goesSize sv_goesAt sv_targetParts sv_isRoot)), ((ma 16), .inl (cJ, 46080, .inr (.inl lF))), ((ma 10), .inl (cB, 8000, .inl fT)), ((ma 11), .inl (cI, 40, .inl fTS))] → va_S A s.heap H locs → lv_has ls 10 [(0, .ref h0), (1, .int x), (2, .int y), (3, .int v1), (4, .int al), (5, .int lp), (6, .int lq), (7, .int jm)] → K H locs ls [.int jb]) 180 ?_ ?_
              · skip
                intro lk ih180 jb H locs ls hm180 f9 hP hD hS hl
                refine lv_istore hx hb d_DiscMakerModel_components_180 hl (by decide) rfl (fun ls hl => ?_)
                have hl : lv_has ls 10 [(8, .int jb), (0, .ref h0), (1, .int x), (2, .int y), (3, .int v1), (4, .int al), (5, .int lp), (6, .int lq), (7, .int jm)] := hl
                refine lv_iload hx hb d_DiscMakerModel_components_182 (lv_at hl 7 rfl) ?_
                refine lv_iload hx hb d_DiscMakerModel_components_184 (lv_at hl 6 rfl) ?_
                refine lv_icmp_le (tgt := 258) hx hb d_DiscMakerModel_components_186 (by decide) (fun h_9 => ?_) (fun h_9 => ?_)
                · skip
                  have g186_30 : lq.toInt ≤ lp.toInt := (i_le rfl rfl).mp h_9
                  refine lv_iload hx hb d_DiscMakerModel_components_258 (lv_at hl 7 rfl) ?_
                  refine lv_iconst (v := 1) hx hb d_DiscMakerModel_components_260 (by decide) ?_
                  refine lv_iadd hx hb d_DiscMakerModel_components_261 ?_
                  refine lv_topi (fun v4 e_v4 => ?_)
                  have t_v4 : v4.toInt = lq.toInt + 1 := by rw [e_v4]; exact i_add rfl (by decide) (by omega) (by omega)
                  refine lv_istore hx hb d_DiscMakerModel_components_262 hl (by decide) rfl (fun ls hl => ?_)
                  have hl : lv_has ls 10 [(5, .int v4), (8, .int jb), (0, .ref h0), (1, .int x), (2, .int y), (3, .int v1), (4, .int al), (6, .int lq), (7, .int jm)] := hl
                  refine lv_goto (tgt := 41) hx hb d_DiscMakerModel_components_264 (by decide) ?_
                  have hP := hP.sub (ws' := [(h0, .inr (11, MO ma sv_thrown sv_length sv_nodes sv_many sv_directories sv_runsFrom sv_runs sv_read sv_wrong sv_isNamed sv_goes sv_goesSize sv_goesAt sv_targetParts sv_isRoot)), ((ma 16), .inl (cJ, 46080, .inr (.inl lF))), ((ma 10), .inl (cB, 8000, .inl fT)), ((ma 11), .inl (cI, 40, .inl fTS))]) [0, 1, 2, 3] rfl
                  have hD := hD.sub (ws' := [(h0, .inr (11, MO ma sv_thrown sv_length sv_nodes sv_many sv_directories sv_runsFrom sv_runs sv_read sv_wrong sv_isNamed sv_goes sv_goesSize sv_goesAt sv_targetParts sv_isRoot)), ((ma 16), .inl (cJ, 46080, .inr (.inl lF))), ((ma 10), .inl (cB, 8000, .inl fT)), ((ma 11), .inl (cI, 40, .inl fTS))]) [0, 1, 2, 3] (by decide +kernel) rfl
                  have hl := lv_sub hl [2, 3, 4, 5, 6, 0] rfl
                  exact ih41 _ (by first | omega | (dsimp only; omega)) al v4 lF _ _ _ rfl ((by (try dsimp only); first | assumption | omega | trivial)) ((by (have h1 := i_cl (a := v4) (by omega)); rw [show v4.toNatClampNeg = lq.toNatClampNeg + 1 by omega]; exact cpF_hit hcw.2)) ((by (have h1 := i_cl (a := v4) (by omega)); rw [show v4.toNatClampNeg = lq.toNatClampNeg + 1 by omega]; rw [cpT_hit hcw.2, hcw.1.1, hcw.1.2.1]; unfold csz; rw [if_neg (by omega)]; omega)) ((by (have h1 := i_cl (a := v4) (by omega)); rw [show v4.toNatClampNeg = lq.toNatClampNeg + 1 by omega]; rw [cpB_hit hcw.2, hcw.1.1, hcw.1.2.2]; unfold coL; rw [if_neg (by omega), List.append_nil]; exact f8)) hP hD hS hl
                · skip
                  have g186_30 : ¬ lq.toInt ≤ lp.toInt := fun h8 => h_9 ((i_le rfl rfl).mpr h8)
                  refine lv_aload_n hx hb d_DiscMakerModel_components_189 rfl (lv_at hl 1 rfl) ?_
                  refine lv_iload_n hx hb d_DiscMakerModel_components_190 rfl (lv_at hl 3 rfl) ?_
                  refine lv_iload hx hb d_DiscMakerModel_components_191 (lv_at hl 5 rfl) ?_
                  refine lv_iload hx hb d_DiscMakerModel_components_193 (lv_at hl 8 rfl) ?_
                  refine lv_iload hx hb d_DiscMakerModel_components_195 (lv_at hl 0 rfl) ?_
                  have hPc := hP.sub (ws' := [(h0, .inr (11, MO ma sv_thrown sv_length sv_nodes sv_many sv_directories sv_runsFrom sv_runs sv_read sv_wrong sv_isNamed sv_goes sv_goesSize sv_goesAt sv_targetParts sv_isRoot)), ((ma 16), .inl (cJ, 46080, .inr (.inl lF)))]) [0, 1] rfl
                  have hDc := hD.sub (ws' := [(h0, .inr (11, MO ma sv_thrown sv_length sv_nodes sv_many sv_directories sv_runsFrom sv_runs sv_read sv_wrong sv_isNamed sv_goes sv_goesSize sv_goesAt sv_targetParts sv_isRoot)), ((ma 16), .inl (cJ, 46080, .inr (.inl lF)))]) [0, 1] (by decide +kernel) rfl
                  have hFc := va_free (wc := [(h0, .inr (11, MO ma sv_thrown sv_length sv_nodes sv_many sv_directories sv_runsFrom sv_runs sv_read sv_wrong sv_isNamed sv_goes sv_goesSize sv_goesAt sv_targetParts sv_isRoot)), ((ma 16), .inl (cJ, 46080, .inr (.inl lF)))]) hD hS hA [0, 1] rfl
                  have hkc : 0 ≤ 0 := by decide
                  have hks : 0 ≤ 0 := by decide
                  refine va_callv (va_runV (C := "DiscMakerModel") (As := [.int y, .int al, .int jm, .int jb]) (rest := []) ⟨hx, hb, hml, hown, hts⟩ (m_markF l D cB cI cJ cZ cN cF H.size h0 ma sv_thrown sv_length sv_nodes sv_many sv_directories sv_runsFrom sv_runs sv_read sv_wrong sv_isNamed sv_goes sv_goesSize sv_goesAt sv_targetParts sv_isRoot lF y al jm jb (by (try dsimp only); first | assumption | omega | trivial)) (cwV 4 hts (lg_goodV k1723 k1725 k78 k125 kc_DiscMakerModel_mark) rfl rfl rfl (by decide +kernel) ⟨Nat.le_of_ble_eq_true rfl, Nat.le_of_ble_eq_true rfl⟩) ⟨fun a U g mk q => by obtain ⟨q0, q1, qP, qK, qN, qD⟩ := q; exact ⟨q0, q1, qP, va_K.moved (u := U) (U := U.calling g mk a) (Vm.Alike.refl U.vm) qK, qN.calling, qD⟩, va_recv hK hP (ci := 11) (q0 := 0) rfl rfl, fun U hU hW => ⟨rfl, by rw [hU], by rw [hU]; exact hPc, va_K.moved hW.alike hK, NN.warm hW hN, hDc.weaken (fun _ _ _ _ => trivial)⟩⟩ rfl rfl hl.1 rfl (lv_room (Nat.le_of_ble_eq_true rfl)) d_DiscMakerModel_components_197 ⟨hkc, hks⟩) hS (fun q _ h => hFc q h) hFc (fun u t H1 locs ht hvm hp_r5 hB hz1 hk1 hS => ?_)
                  obtain ⟨G_6, rfl⟩ : ∃ z, z = u := ⟨_, rfl⟩
                  obtain ⟨hP1, hD1⟩ := hB
                  rw [ht] at hP1
                  obtain ⟨hP, hD⟩ := va_join (wr := [((ma 10), .inl (cB, 8000, .inl fT)), ((ma 11), .inl (cI, 40, .inl fTS))]) (w1 := [(h0, .inr (11, MO ma sv_thrown sv_length sv_nodes sv_many sv_directories sv_runsFrom sv_runs sv_read sv_wrong sv_isNamed sv_goes sv_goesSize sv_goesAt sv_targetParts sv_isRoot)), ((ma 16), .inl (cJ, 46080, .inr (.inl G_6)))]) hP hD [0, 1] [2, 3] rfl rfl (by decide +kernel) (by decide +kernel) hk1 hFc hP1 hD1
                  clear hPc hDc hFc hP1 hD1 hk1 hz1 hkc hks
                  generalize H1 = H at hP hS ⊢
                  have hP : va_P D CL [((ma 10), .inl (cB, 8000, .inl fT)), ((ma 11), .inl (cI, 40, .inl fTS)), (h0, .inr (11, MO ma sv_thrown sv_length sv_nodes sv_many sv_directories sv_runsFrom sv_runs sv_read sv_wrong sv_isNamed sv_goes sv_goesSize sv_goesAt sv_targetParts sv_isRoot)), ((ma 16), .inl (cJ, 46080, .inr (.inl G_6)))] H := hP
                  have hD : va_D A [((ma 10), .inl (cB, 8000, .inl fT)), ((ma 11), .inl (cI, 40, .inl fTS)), (h0, .inr (11, MO ma sv_thrown sv_length sv_nodes sv_many sv_directories sv_runsFrom sv_runs sv_read sv_wrong sv_isNamed sv_goes sv_goesSize sv_goesAt sv_targetParts sv_isRoot)), ((ma 16), .inl (cJ, 46080, .inr (.inl G_6)))] := hD
                  try dsimp only at hp_r5
                  have hw_7 := hp_r5
                  refine lv_iconst (v := 0) hx hb d_DiscMakerModel_components_200 (by decide) ?_
                  refine lv_istore hx hb d_DiscMakerModel_components_201 hl (by decide) rfl (fun ls hl => ?_)
                  have hl : lv_has ls 10 [(9, .int 0), (8, .int jb), (0, .ref h0), (1, .int x), (2, .int y), (3, .int v1), (4, .int al), (5, .int lp), (6, .int lq), (7, .int jm)] := hl
                  refine zz_labM (B := fun (lk : Nat) (K : Heap → List Loc → Array Slot → List Value → Prop) => ∀ (k9 : Int32) (nF : Nat → Int64) (H : Heap) (locs : List Loc) (ls : Array Slot), lk = (201 - k9.toInt).toNat → (0 ≤ k9.toInt ∧ k9.toInt ≤ jb.toInt) → (BL (bF F) (bF nF) y.toInt (t0B (tgF fT x.toNatClampNeg) (fTS x.toNatClampNeg).toInt.toNat ++ cpB (tgF fT x.toNatClampNeg) (fTS x.toNatClampNeg).toInt.toNat lp.toNatClampNeg ++ ([jm.toInt % 256, jb.toInt % 256] ++ tbL (fun i => ((tgF fT x.toNatClampNeg) (lp.toNatClampNeg + i)).toInt % 256) k9.toInt.toNat))) → va_P D CL [((ma 10), .inl (cB, 8000, .inl fT)), ((ma 11), .inl (cI, 40, .inl fTS)), (h0, .inr (11, MO ma sv_thrown sv_length sv_nodes sv_many sv_directories sv_runsFrom sv_runs sv_read sv_wrong sv_isNamed sv_goes sv_goesSize sv_goesAt sv_targetParts sv_isRoot)), ((ma 16), .inl (cJ, 46080, .inr (.inl nF)))] H → va_D A [((ma 10), .inl (cB, 8000, .inl fT)), ((ma 11), .inl (cI, 40, .inl fTS)), (h0, .inr (11, MO ma sv_thrown sv_length sv_nodes sv_many sv_directories sv_runsFrom sv_runs sv_read sv_wrong sv_isNamed sv_goes sv_goesSize sv_goesAt sv_targetParts sv_isRoot)), ((ma 16), .inl (cJ, 46080, .inr (.inl nF)))] → va_S A s.heap H locs → lv_has ls 10 [(0, .ref h0), (1, .int x), (2, .int y), (3, .int v1), (4, .int al), (5, .int lp), (6, .int lq), (7, .int jm), (8, .int jb), (9, .int k9)] → K H locs ls []) 203 ?_ ?_
                  · skip
                    intro lk ih203 k9 nF H locs ls hm203 f10 g8 hP hD hS hl
                    have hk9c := i_cl (a := k9) (by omega)
                    refine lv_iload hx hb d_DiscMakerModel_components_203 (lv_at hl 9 rfl) ?_
                    refine lv_iload hx hb d_DiscMakerModel_components_205 (lv_at hl 8 rfl) ?_
                    refine lv_icmp_ge (tgt := 249) hx hb d_DiscMakerModel_components_207 (by decide) (fun h_9 => ?_) (fun h_9 => ?_)
                    · skip
                      have g207_47 : jb.toInt ≤ k9.toInt := (i_le rfl rfl).mp h_9
                      refine lv_iload hx hb d_DiscMakerModel_components_249 (lv_at hl 4 rfl) ?_
                      refine lv_iconst (v := 2) hx hb d_DiscMakerModel_components_251 (by decide) ?_
                      refine lv_iload hx hb d_DiscMakerModel_components_252 (lv_at hl 8 rfl) ?_
                      refine lv_iadd hx hb d_DiscMakerModel_components_254 ?_
                      refine lv_topi (fun v8 e_v8 => ?_)
                      have t_v8 : v8.toInt = 2 + jb.toInt := by rw [e_v8]; exact i_add (by decide) rfl (by omega) (by omega)
                      refine lv_iadd hx hb d_DiscMakerModel_components_255 ?_
                      refine lv_topi (fun v9 e_v9 => ?_)
                      have t_v9 : v9.toInt = al.toInt + v8.toInt := by rw [e_v9]; exact i_add rfl rfl (by omega) (by omega)
                      refine lv_istore hx hb d_DiscMakerModel_components_256 hl (by decide) rfl (fun ls hl => ?_)
                      have hl : lv_has ls 10 [(4, .int v9), (0, .ref h0), (1, .int x), (2, .int y), (3, .int v1), (5, .int lp), (6, .int lq), (7, .int jm), (8, .int jb), (9, .int k9)] := hl
                      refine lv_iload hx hb d_DiscMakerModel_components_258 (lv_at hl 6 rfl) ?_
                      refine lv_iconst (v := 1) hx hb d_DiscMakerModel_components_260 (by decide) ?_
                      refine lv_iadd hx hb d_DiscMakerModel_components_261 ?_
                      refine lv_topi (fun v10 e_v10 => ?_)
                      have t_v10 : v10.toInt = lq.toInt + 1 := by rw [e_v10]; exact i_add rfl (by decide) (by omega) (by omega)
                      refine lv_istore hx hb d_DiscMakerModel_components_262 hl (by decide) rfl (fun ls hl => ?_)
                      have hl : lv_has ls 10 [(5, .int v10), (4, .int v9), (0, .ref h0), (1, .int x), (2, .int y), (3, .int v1), (6, .int lq), (7, .int jm), (8, .int jb), (9, .int k9)] := hl
                      refine lv_goto (tgt := 41) hx hb d_DiscMakerModel_components_264 (by decide) ?_
                      have hP := hP.sub (ws' := [(h0, .inr (11, MO ma sv_thrown sv_length sv_nodes sv_many sv_directories sv_runsFrom sv_runs sv_read sv_wrong sv_isNamed sv_goes sv_goesSize sv_goesAt sv_targetParts sv_isRoot)), ((ma 16), .inl (cJ, 46080, .inr (.inl nF))), ((ma 10), .inl (cB, 8000, .inl fT)), ((ma 11), .inl (cI, 40, .inl fTS))]) [2, 3, 0, 1] rfl
                      have hD := hD.sub (ws' := [(h0, .inr (11, MO ma sv_thrown sv_length sv_nodes sv_many sv_directories sv_runsFrom sv_runs sv_read sv_wrong sv_isNamed sv_goes sv_goesSize sv_goesAt sv_targetParts sv_isRoot)), ((ma 16), .inl (cJ, 46080, .inr (.inl nF))), ((ma 10), .inl (cB, 8000, .inl fT)), ((ma 11), .inl (cI, 40, .inl fTS))]) [2, 3, 0, 1] (by decide +kernel) rfl
                      have hl := lv_sub hl [2, 3, 4, 5, 1, 0] rfl
                      exact ih41 _ (by first | omega | (dsimp only; omega)) v9 v10 nF _ _ _ rfl ((by (try dsimp only); first | assumption | omega | trivial)) ((by (have h1 := i_cl (a := v10) (by omega)); rw [show v10.toNatClampNeg = lq.toNatClampNeg + 1 by omega]; exact cpF_hit hcw.2)) ((by (have h1 := i_cl (a := v10) (by omega)); rw [show v10.toNatClampNeg = lq.toNatClampNeg + 1 by omega]; rw [cpT_hit hcw.2, hcw.1.1, hcw.1.2.1]; unfold csz; rw [if_pos (by omega), ← f5m]; rcases (show jm.toInt = 0 ∨ jm.toInt ≠ 0 by omega) with h8 | h8 <;> first | (rw [if_pos h8]; omega) | (rw [if_neg h8]; omega))) ((by (have h1 := i_cl (a := v10) (by omega)); rw [show v10.toNatClampNeg = lq.toNatClampNeg + 1 by omega]; rw [cpB_hit hcw.2, hcw.1.1, hcw.1.2.2, ← List.append_assoc]; refine g8.cast rfl ?_; congr 1; unfold coL; rw [if_pos (by omega), ← f5m]; rcases (show jm.toInt = 0 ∨ jm.toInt ≠ 0 by omega) with h8 | h8 <;> first | (rw [if_pos h8, h8, show k9.toInt.toNat = lq.toNatClampNeg - lp.toNatClampNeg by omega, show jb.toInt = ((lq.toNatClampNeg : Nat) : Int) - ((lp.toNatClampNeg : Nat) : Int) by omega]; rfl) | (rw [if_neg h8, show k9.toInt.toNat = 0 by omega, show jb.toInt = 0 by omega]; rfl))) hP hD hS hl
                    · skip
                      have g207_47 : ¬ jb.toInt ≤ k9.toInt := fun h8 => h_9 ((i_le rfl rfl).mpr h8)
                      refine lv_iload_n hx hb d_DiscMakerModel_components_210 rfl (lv_at hl 2 rfl) ?_
                      refine lv_if_lt (tgt := 249) hx hb d_DiscMakerModel_components_211 (by decide) (fun h_9 => ?_) (fun h_9 => ?_)
                      · skip
                        have g211_61 : y.toInt < 0 := (i_lt rfl (by decide)).mp h_9
                        refine lv_iload hx hb d_DiscMakerModel_components_249 (lv_at hl 4 rfl) ?_
                        refine lv_iconst (v := 2) hx hb d_DiscMakerModel_components_251 (by decide) ?_
                        refine lv_iload hx hb d_DiscMakerModel_components_252 (lv_at hl 8 rfl) ?_
                        refine lv_iadd hx hb d_DiscMakerModel_components_254 ?_
                        refine lv_topi (fun v11 e_v11 => ?_)
                        have t_v11 : v11.toInt = 2 + jb.toInt := by rw [e_v11]; exact i_add (by decide) rfl (by omega) (by omega)
                        refine lv_iadd hx hb d_DiscMakerModel_components_255 ?_
                        refine lv_topi (fun v12 e_v12 => ?_)
                        have t_v12 : v12.toInt = al.toInt + v11.toInt := by rw [e_v12]; exact i_add rfl rfl (by omega) (by omega)
                        refine lv_istore hx hb d_DiscMakerModel_components_256 hl (by decide) rfl (fun ls hl => ?_)
                        have hl : lv_has ls 10 [(4, .int v12), (0, .ref h0), (1, .int x), (2, .int y), (3, .int v1), (5, .int lp), (6, .int lq), (7, .int jm), (8, .int jb), (9, .int k9)] := hl
                        refine lv_iload hx hb d_DiscMakerModel_components_258 (lv_at hl 6 rfl) ?_
                        refine lv_iconst (v := 1) hx hb d_DiscMakerModel_components_260 (by decide) ?_
                        refine lv_iadd hx hb d_DiscMakerModel_components_261 ?_
                        refine lv_topi (fun v13 e_v13 => ?_)
                        have t_v13 : v13.toInt = lq.toInt + 1 := by rw [e_v13]; exact i_add rfl (by decide) (by omega) (by omega)
                        refine lv_istore hx hb d_DiscMakerModel_components_262 hl (by decide) rfl (fun ls hl => ?_)
                        have hl : lv_has ls 10 [(5, .int v13), (4, .int v12), (0, .ref h0), (1, .int x), (2, .int y), (3, .int v1), (6, .int lq), (7, .int jm), (8, .int jb), (9, .int k9)] := hl
                        refine lv_goto (tgt := 41) hx hb d_DiscMakerModel_components_264 (by decide) ?_
                        have hP := hP.sub (ws' := [(h0, .inr (11, MO ma sv_thrown sv_length sv_nodes sv_many sv_directories sv_runsFrom sv_runs sv_read sv_wrong sv_isNamed sv_goes sv_goesSize sv_goesAt sv_targetParts sv_isRoot)), ((ma 16), .inl (cJ, 46080, .inr (.inl nF))), ((ma 10), .inl (cB, 8000, .inl fT)), ((ma 11), .inl (cI, 40, .inl fTS))]) [2, 3, 0, 1] rfl
                        have hD := hD.sub (ws' := [(h0, .inr (11, MO ma sv_thrown sv_length sv_nodes sv_many sv_directories sv_runsFrom sv_runs sv_read sv_wrong sv_isNamed sv_goes sv_goesSize sv_goesAt sv_targetParts sv_isRoot)), ((ma 16), .inl (cJ, 46080, .inr (.inl nF))), ((ma 10), .inl (cB, 8000, .inl fT)), ((ma 11), .inl (cI, 40, .inl fTS))]) [2, 3, 0, 1] (by decide +kernel) rfl
                        have hl := lv_sub hl [2, 3, 4, 5, 1, 0] rfl
                        exact ih41 _ (by first | omega | (dsimp only; omega)) v12 v13 nF _ _ _ rfl ((by (try dsimp only); first | assumption | omega | trivial)) ((by (have h1 := i_cl (a := v13) (by omega)); rw [show v13.toNatClampNeg = lq.toNatClampNeg + 1 by omega]; exact cpF_hit hcw.2)) ((by (have h1 := i_cl (a := v13) (by omega)); rw [show v13.toNatClampNeg = lq.toNatClampNeg + 1 by omega]; rw [cpT_hit hcw.2, hcw.1.1, hcw.1.2.1]; unfold csz; rw [if_pos (by omega), ← f5m]; rcases (show jm.toInt = 0 ∨ jm.toInt ≠ 0 by omega) with h8 | h8 <;> first | (rw [if_pos h8]; omega) | (rw [if_neg h8]; omega))) ((by (have h1 := i_cl (a := v13) (by omega)); rw [show v13.toNatClampNeg = lq.toNatClampNeg + 1 by omega]; rw [cpB_hit hcw.2, hcw.1.1, hcw.1.2.2, ← List.append_assoc]; refine g8.cast rfl ?_; congr 1; unfold coL; rw [if_pos (by omega), ← f5m]; rcases (show jm.toInt = 0 ∨ jm.toInt ≠ 0 by omega) with h8 | h8 <;> first | (rw [if_pos h8, h8, show k9.toInt.toNat = lq.toNatClampNeg - lp.toNatClampNeg by omega, show jb.toInt = ((lq.toNatClampNeg : Nat) : Int) - ((lp.toNatClampNeg : Nat) : Int) by omega]; rfl) | (rw [if_neg h8, show k9.toInt.toNat = 0 by omega, show jb.toInt = 0 by omega]; rfl))) hP hD hS hl
                      · skip
                        have g211_61 : ¬ y.toInt < 0 := fun h8 => h_9 ((i_lt rfl (by decide)).mpr h8)
                        refine lv_aload_n hx hb d_DiscMakerModel_components_214 rfl (lv_at hl 0 rfl) ?_
                        refine lv_iload_n hx hb d_DiscMakerModel_components_215 rfl (lv_at hl 2 rfl) ?_
                        refine lv_iload hx hb d_DiscMakerModel_components_216 (lv_at hl 4 rfl) ?_
                        refine lv_iadd hx hb d_DiscMakerModel_components_218 ?_
                        refine lv_topi (fun v14 e_v14 => ?_)
                        have t_v14 : v14.toInt = y.toInt + al.toInt := by rw [e_v14]; exact i_add rfl rfl (by omega) (by omega)
                        refine lv_iconst (v := 2) hx hb d_DiscMakerModel_components_219 (by decide) ?_
                        refine lv_iadd hx hb d_DiscMakerModel_components_220 ?_
                        refine lv_topi (fun v15 e_v15 => ?_)
                        have t_v15 : v15.toInt = v14.toInt + 2 := by rw [e_v15]; exact i_add rfl (by decide) (by omega) (by omega)
                        refine lv_iload hx hb d_DiscMakerModel_components_221 (lv_at hl 9 rfl) ?_
                        refine lv_iadd hx hb d_DiscMakerModel_components_223 ?_
                        refine lv_topi (fun v16 e_v16 => ?_)
                        have t_v16 : v16.toInt = v15.toInt + k9.toInt := by rw [e_v16]; exact i_add rfl rfl (by omega) (by omega)
                        refine lv_aload_n hx hb d_DiscMakerModel_components_224 rfl (lv_at hl 0 rfl) ?_
                        refine va_get (D := D) (ci := 11) (v := .ref (ma 10)) (C := "DiscMakerModel") (T := F_DiscMakerModel) (N := 48) hx hb ht9 in_DiscMakerModel hown hK hP 2 rfl rfl 13 (by decide) (ht9 _ k1444) (fun _ h9 => h9) rfl d_DiscMakerModel_components_225 ?_
                        refine lv_sipush (v := 200) hx hb d_DiscMakerModel_components_228 (by decide) ?_
                        refine lv_iload_n hx hb d_DiscMakerModel_components_231 rfl (lv_at hl 1 rfl) ?_
                        refine lv_imul hx hb d_DiscMakerModel_components_232 ?_
                        refine lv_topi (fun v17 e_v17 => ?_)
                        have t_v17 : v17.toInt = 200 * x.toInt := by rw [e_v17]; exact i_mul (by decide) rfl (by omega) (by omega)
                        refine lv_iload hx hb d_DiscMakerModel_components_233 (lv_at hl 5 rfl) ?_
                        refine lv_iadd hx hb d_DiscMakerModel_components_235 ?_
                        refine lv_topi (fun v18 e_v18 => ?_)
                        have t_v18 : v18.toInt = v17.toInt + lp.toInt := by rw [e_v18]; exact i_add rfl rfl (by omega) (by omega)
                        refine lv_iload hx hb d_DiscMakerModel_components_236 (lv_at hl 9 rfl) ?_
                        refine lv_iadd hx hb d_DiscMakerModel_components_238 ?_
                        refine lv_topi (fun v19 e_v19 => ?_)
                        have t_v19 : v19.toInt = v18.toInt + k9.toInt := by rw [e_v19]; exact i_add rfl rfl (by omega) (by omega)
                        refine va_bald hx hb hK hP 0 0 rfl rfl (vp_in_iff.mpr ⟨by omega, by omega⟩) d_DiscMakerModel_components_239 ?_
                        refine lv_topi (fun v20 e_v20 => ?_)
                        have c_v20 := i_cl (a := v19) (by omega)
                        have e2_v20 : v20 = fT (200 * x.toNatClampNeg + (lp.toNatClampNeg + k9.toNatClampNeg)) := by rw [e_v20, show v19.toNatClampNeg = 200 * x.toNatClampNeg + (lp.toNatClampNeg + k9.toNatClampNeg) by omega]
                        have qtv20 : (tgF fT x.toNatClampNeg ((lp.toNatClampNeg + k9.toNatClampNeg))).toInt = v20.toInt := by unfold tgF; rw [e2_v20]
                        have hPc := hP.sub (ws' := [(h0, .inr (11, MO ma sv_thrown sv_length sv_nodes sv_many sv_directories sv_runsFrom sv_runs sv_read sv_wrong sv_isNamed sv_goes sv_goesSize sv_goesAt sv_targetParts sv_isRoot)), ((ma 16), .inl (cJ, 46080, .inr (.inl nF)))]) [2, 3] rfl
                        have hDc := hD.sub (ws' := [(h0, .inr (11, MO ma sv_thrown sv_length sv_nodes sv_many sv_directories sv_runsFrom sv_runs sv_read sv_wrong sv_isNamed sv_goes sv_goesSize sv_goesAt sv_targetParts sv_isRoot)), ((ma 16), .inl (cJ, 46080, .inr (.inl nF)))]) [2, 3] (by decide +kernel) rfl
                        have hFc := va_free (wc := [(h0, .inr (11, MO ma sv_thrown sv_length sv_nodes sv_many sv_directories sv_runsFrom sv_runs sv_read sv_wrong sv_isNamed sv_goes sv_goesSize sv_goesAt sv_targetParts sv_isRoot)), ((ma 16), .inl (cJ, 46080, .inr (.inl nF)))]) hD hS hA [2, 3] rfl
                        have hkc : 0 ≤ 0 := by decide
                        have hks : 0 ≤ 0 := by decide
                        refine va_callv (va_runV (C := "DiscMakerModel") (As := [.int v16, .int v20]) (rest := []) ⟨hx, hb, hml, hown, hts⟩ (m_setF l D cB cI cJ cZ cN cF H.size h0 ma sv_thrown sv_length sv_nodes sv_many sv_directories sv_runsFrom sv_runs sv_read sv_wrong sv_isNamed sv_goes sv_goesSize sv_goesAt sv_targetParts sv_isRoot nF v16 v20 (by (try dsimp only); first | assumption | omega | trivial) (by (try dsimp only); first | assumption | omega | trivial)) (cwV 2 hts (lg_goodV k1727 k1729 k79 k125 kc_DiscMakerModel_set) rfl rfl rfl (by decide +kernel) ⟨Nat.le_of_ble_eq_true rfl, Nat.le_of_ble_eq_true rfl⟩) ⟨fun a U g mk q => by obtain ⟨q0, q1, qP, qK, qN, qD⟩ := q; exact ⟨q0, q1, qP, va_K.moved (u := U) (U := U.calling g mk a) (Vm.Alike.refl U.vm) qK, qN.calling, qD⟩, va_recv hK hP (ci := 11) (q0 := 2) rfl rfl, fun U hU hW => ⟨rfl, by rw [hU], by rw [hU]; exact hPc, va_K.moved hW.alike hK, NN.warm hW hN, hDc.weaken (fun _ _ _ _ => trivial)⟩⟩ rfl rfl hl.1 rfl (lv_room (Nat.le_of_ble_eq_true rfl)) d_DiscMakerModel_components_240 ⟨hkc, hks⟩) hS (fun q _ h => hFc q h) hFc (fun u t H1 locs ht hvm hp_r21 hB hz1 hk1 hS => ?_)
                        obtain ⟨G_22, rfl⟩ : ∃ z, z = u := ⟨_, rfl⟩
                        obtain ⟨hP1, hD1⟩ := hB
                        rw [ht] at hP1
                        obtain ⟨hP, hD⟩ := va_join (wr := [((ma 10), .inl (cB, 8000, .inl fT)), ((ma 11), .inl (cI, 40, .inl fTS))]) (w1 := [(h0, .inr (11, MO ma sv_thrown sv_length sv_nodes sv_many sv_directories sv_runsFrom sv_runs sv_read sv_wrong sv_isNamed sv_goes sv_goesSize sv_goesAt sv_targetParts sv_isRoot)), ((ma 16), .inl (cJ, 46080, .inr (.inl G_22)))]) hP hD [2, 3] [0, 1] rfl rfl (by decide +kernel) (by decide +kernel) hk1 hFc hP1 hD1
                        clear hPc hDc hFc hP1 hD1 hk1 hz1 hkc hks
                        generalize H1 = H at hP hS ⊢
                        have hP : va_P D CL [((ma 10), .inl (cB, 8000, .inl fT)), ((ma 11), .inl (cI, 40, .inl fTS)), (h0, .inr (11, MO ma sv_thrown sv_length sv_nodes sv_many sv_directories sv_runsFrom sv_runs sv_read sv_wrong sv_isNamed sv_goes sv_goesSize sv_goesAt sv_targetParts sv_isRoot)), ((ma 16), .inl (cJ, 46080, .inr (.inl G_22)))] H := hP
                        have hD : va_D A [((ma 10), .inl (cB, 8000, .inl fT)), ((ma 11), .inl (cI, 40, .inl fTS)), (h0, .inr (11, MO ma sv_thrown sv_length sv_nodes sv_many sv_directories sv_runsFrom sv_runs sv_read sv_wrong sv_isNamed sv_goes sv_goesSize sv_goesAt sv_targetParts sv_isRoot)), ((ma 16), .inl (cJ, 46080, .inr (.inl G_22)))] := hD
                        try dsimp only at hp_r21
                        have hw_23 := hp_r21
                        obtain ⟨v24, e_v24⟩ : ∃ z : Int32, z = k9 + 1 := ⟨_, rfl⟩
                        refine lv_iinc (v := v24) hx hb d_DiscMakerModel_components_243 hl (k := 9) rfl e_v24.symm (by decide +kernel) rfl (fun ls hl => ?_)
                        have t_v24 : v24.toInt = k9.toInt + 1 := by rw [e_v24]; exact i_add rfl (by decide) (by omega) (by omega)
                        have hl : lv_has ls 10 [(9, .int v24), (0, .ref h0), (1, .int x), (2, .int y), (3, .int v1), (4, .int al), (5, .int lp), (6, .int lq), (7, .int jm), (8, .int jb)] := hl
                        refine lv_goto (tgt := 203) hx hb d_DiscMakerModel_components_246 (by decide) ?_
                        have hP := hP.sub (ws' := [((ma 10), .inl (cB, 8000, .inl fT)), ((ma 11), .inl (cI, 40, .inl fTS)), (h0, .inr (11, MO ma sv_thrown sv_length sv_nodes sv_many sv_directories sv_runsFrom sv_runs sv_read sv_wrong sv_isNamed sv_goes sv_goesSize sv_goesAt sv_targetParts sv_isRoot)), ((ma 16), .inl (cJ, 46080, .inr (.inl G_22)))]) [0, 1, 2, 3] rfl
                        have hD := hD.sub (ws' := [((ma 10), .inl (cB, 8000, .inl fT)), ((ma 11), .inl (cI, 40, .inl fTS)), (h0, .inr (11, MO ma sv_thrown sv_length sv_nodes sv_many sv_directories sv_runsFrom sv_runs sv_read sv_wrong sv_isNamed sv_goes sv_goesSize sv_goesAt sv_targetParts sv_isRoot)), ((ma 16), .inl (cJ, 46080, .inr (.inl G_22)))]) [0, 1, 2, 3] (by decide +kernel) rfl
                        have hl := lv_sub hl [1, 2, 3, 4, 5, 6, 7, 8, 9, 0] rfl
                        exact ih203 _ (by first | omega | (dsimp only; omega)) v24 G_22 _ _ _ rfl ((by (try dsimp only); first | assumption | omega | trivial)) ((by (have h1 := i_cl (a := k9) (by omega)); rw [show v24.toInt.toNat = k9.toInt.toNat + 1 by omega]; exact (BL.pt g8 hw_23 (by rw [List.length_append, List.length_append, List.length_append, tbL_len]; (have h6 := t0B_len (tgF fT x.toNatClampNeg) (fTS x.toNatClampNeg).toInt.toNat); (have h5 := cpB_len (tgF fT x.toNatClampNeg) (fTS x.toNatClampNeg).toInt.toNat lp.toNatClampNeg); show _ = y.toInt + ((_ + _ + (2 + k9.toInt.toNat) : Nat) : Int); omega) (show _ = ((tgF fT x.toNatClampNeg) (lp.toNatClampNeg + k9.toInt.toNat)).toInt % 256 by rw [show k9.toInt.toNat = k9.toNatClampNeg by omega, qtv20])).cast rfl (by simp only [tbL, List.append_assoc]))) hP hD hS hl
                  · skip
                    intro kk203
                    have hP := hP.sub (ws' := [((ma 10), .inl (cB, 8000, .inl fT)), ((ma 11), .inl (cI, 40, .inl fTS)), (h0, .inr (11, MO ma sv_thrown sv_length sv_nodes sv_many sv_directories sv_runsFrom sv_runs sv_read sv_wrong sv_isNamed sv_goes sv_goesSize sv_goesAt sv_targetParts sv_isRoot)), ((ma 16), .inl (cJ, 46080, .inr (.inl G_6)))]) [0, 1, 2, 3] rfl
                    have hD := hD.sub (ws' := [((ma 10), .inl (cB, 8000, .inl fT)), ((ma 11), .inl (cI, 40, .inl fTS)), (h0, .inr (11, MO ma sv_thrown sv_length sv_nodes sv_many sv_directories sv_runsFrom sv_runs sv_read sv_wrong sv_isNamed sv_goes sv_goesSize sv_goesAt sv_targetParts sv_isRoot)), ((ma 16), .inl (cJ, 46080, .inr (.inl G_6)))]) [0, 1, 2, 3] (by decide +kernel) rfl
                    have hl := lv_sub hl [2, 3, 4, 5, 6, 7, 8, 9, 1, 0] rfl
                    exact kk203 _ 0 G_6 _ _ _ rfl ((by (try dsimp only); first | assumption | omega | trivial)) ((by (have h7 := hw_7); exact (BL.app f8 h7 (by rw [List.length_append]; (have h6 := t0B_len (tgF fT x.toNatClampNeg) (fTS x.toNatClampNeg).toInt.toNat); (have h5 := cpB_len (tgF fT x.toNatClampNeg) (fTS x.toNatClampNeg).toInt.toNat lp.toNatClampNeg); omega)).cast rfl (by rw [show (0 : Int32).toInt.toNat = 0 by decide]; simp only [tbL, List.append_nil, List.append_assoc]))) hP hD hS hl
              · skip
                intro kk180
                refine lv_if_ne (tgt := 179) hx hb d_DiscMakerModel_components_168 (by decide) (fun h_9 => ?_) (fun h_9 => ?_)
                · skip
                  have g168_96 : ¬ jm.toInt = 0 := fun h8 => h_9 ((i_eq rfl (by decide)).mpr h8)
                  refine lv_iconst (v := 0) hx hb d_DiscMakerModel_components_179 (by decide) ?_
                  have hP := hP.sub (ws' := [(h0, .inr (11, MO ma sv_thrown sv_length sv_nodes sv_many sv_directories sv_runsFrom sv_runs sv_read sv_wrong sv_isNamed sv_goes sv_goesSize sv_goesAt sv_targetParts sv_isRoot)), ((ma 16), .inl (cJ, 46080, .inr (.inl lF))), ((ma 10), .inl (cB, 8000, .inl fT)), ((ma 11), .inl (cI, 40, .inl fTS))]) [0, 1, 2, 3] rfl
                  have hD := hD.sub (ws' := [(h0, .inr (11, MO ma sv_thrown sv_length sv_nodes sv_many sv_directories sv_runsFrom sv_runs sv_read sv_wrong sv_isNamed sv_goes sv_goesSize sv_goesAt sv_targetParts sv_isRoot)), ((ma 16), .inl (cJ, 46080, .inr (.inl lF))), ((ma 10), .inl (cB, 8000, .inl fT)), ((ma 11), .inl (cI, 40, .inl fTS))]) [0, 1, 2, 3] (by decide +kernel) rfl
                  have hl := lv_sub hl [1, 2, 3, 4, 5, 6, 7, 0] rfl
                  exact kk180 _ 0 _ _ _ rfl ((by (try dsimp only); first | assumption | omega | trivial)) hP hD hS hl
                · skip
                  have g168_96 : jm.toInt = 0 := (i_eq rfl (by decide)).mp h_9
                  refine lv_iload hx hb d_DiscMakerModel_components_171 (lv_at hl 7 rfl) ?_
                  refine lv_iload hx hb d_DiscMakerModel_components_173 (lv_at hl 6 rfl) ?_
                  refine lv_isub hx hb d_DiscMakerModel_components_175 ?_
                  refine lv_topi (fun v25 e_v25 => ?_)
                  have t_v25 : v25.toInt = lq.toInt - lp.toInt := by rw [e_v25]; exact i_sub rfl rfl (by omega) (by omega)
                  refine lv_goto (tgt := 180) hx hb d_DiscMakerModel_components_176 (by decide) ?_
                  have hP := hP.sub (ws' := [(h0, .inr (11, MO ma sv_thrown sv_length sv_nodes sv_many sv_directories sv_runsFrom sv_runs sv_read sv_wrong sv_isNamed sv_goes sv_goesSize sv_goesAt sv_targetParts sv_isRoot)), ((ma 16), .inl (cJ, 46080, .inr (.inl lF))), ((ma 10), .inl (cB, 8000, .inl fT)), ((ma 11), .inl (cI, 40, .inl fTS))]) [0, 1, 2, 3] rfl
                  have hD := hD.sub (ws' := [(h0, .inr (11, MO ma sv_thrown sv_length sv_nodes sv_many sv_directories sv_runsFrom sv_runs sv_read sv_wrong sv_isNamed sv_goes sv_goesSize sv_goesAt sv_targetParts sv_isRoot)), ((ma 16), .inl (cJ, 46080, .inr (.inl lF))), ((ma 10), .inl (cB, 8000, .inl fT)), ((ma 11), .inl (cI, 40, .inl fTS))]) [0, 1, 2, 3] (by decide +kernel) rfl
                  have hl := lv_sub hl [1, 2, 3, 4, 5, 6, 7, 0] rfl
                  exact kk180 _ v25 _ _ _ rfl ((by (try dsimp only); first | assumption | omega | trivial)) hP hD hS hl
            · skip
              intro kk164
              have hcw := cp_walk (f := (tgF fT x.toNatClampNeg)) (n := (fTS x.toNatClampNeg).toInt.toNat) (p := lp.toNatClampNeg) (by omega) f6
              rw [h81] at hcw
              refine lv_iload hx hb d_DiscMakerModel_components_83 (lv_at hl 5 rfl) ?_
              refine lv_isub hx hb d_DiscMakerModel_components_85 ?_
              refine lv_topi (fun v26 e_v26 => ?_)
              have t_v26 : v26.toInt = lq.toInt - lp.toInt := by rw [e_v26]; exact i_sub rfl rfl (by omega) (by omega)
              refine lv_iconst (v := 1) hx hb d_DiscMakerModel_components_86 (by decide) ?_
              refine lv_icmp_ne (tgt := 112) hx hb d_DiscMakerModel_components_87 (by decide) (fun h_9 => ?_) (fun h_9 => ?_)
              · skip
                have g87_107 : ¬ v26.toInt = 1 := fun h8 => h_9 ((i_eq rfl (by decide)).mpr h8)
                refine lv_iload hx hb d_DiscMakerModel_components_112 (lv_at hl 6 rfl) ?_
                refine lv_iload hx hb d_DiscMakerModel_components_114 (lv_at hl 5 rfl) ?_
                refine lv_isub hx hb d_DiscMakerModel_components_116 ?_
                refine lv_topi (fun v27 e_v27 => ?_)
                have t_v27 : v27.toInt = lq.toInt - lp.toInt := by rw [e_v27]; exact i_sub rfl rfl (by omega) (by omega)
                refine lv_iconst (v := 2) hx hb d_DiscMakerModel_components_117 (by decide) ?_
                refine lv_icmp_ne (tgt := 163) hx hb d_DiscMakerModel_components_118 (by decide) (fun h_9 => ?_) (fun h_9 => ?_)
                · skip
                  have g118_112 : ¬ v27.toInt = 2 := fun h8 => h_9 ((i_eq rfl (by decide)).mpr h8)
                  refine lv_iconst (v := 0) hx hb d_DiscMakerModel_components_163 (by decide) ?_
                  have hP := hP.sub (ws' := [(h0, .inr (11, MO ma sv_thrown sv_length sv_nodes sv_many sv_directories sv_runsFrom sv_runs sv_read sv_wrong sv_isNamed sv_goes sv_goesSize sv_goesAt sv_targetParts sv_isRoot)), ((ma 16), .inl (cJ, 46080, .inr (.inl lF))), ((ma 10), .inl (cB, 8000, .inl fT)), ((ma 11), .inl (cI, 40, .inl fTS))]) [0, 1, 2, 3] rfl
                  have hD := hD.sub (ws' := [(h0, .inr (11, MO ma sv_thrown sv_length sv_nodes sv_many sv_directories sv_runsFrom sv_runs sv_read sv_wrong sv_isNamed sv_goes sv_goesSize sv_goesAt sv_targetParts sv_isRoot)), ((ma 16), .inl (cJ, 46080, .inr (.inl lF))), ((ma 10), .inl (cB, 8000, .inl fT)), ((ma 11), .inl (cI, 40, .inl fTS))]) [0, 1, 2, 3] (by decide +kernel) rfl
                  have hl := lv_sub hl [0, 1, 2, 3, 4, 5, 6] rfl
                  exact kk164 _ 0 _ _ _ rfl ((mrk_is (by (try rw [show (2 : Int32).toInt = 2 by decide]); (try rw [show (4 : Int32).toInt = 4 by decide]); (try rw [show (0 : Int32).toInt = 0 by decide]); omega))) ((by (try dsimp only); first | assumption | omega | trivial)) hP hD hS hl
                · skip
                  have g118_112 : v27.toInt = 2 := (i_eq rfl (by decide)).mp h_9
                  refine lv_aload_n hx hb d_DiscMakerModel_components_121 rfl (lv_at hl 0 rfl) ?_
                  refine va_get (D := D) (ci := 11) (v := .ref (ma 10)) (C := "DiscMakerModel") (T := F_DiscMakerModel) (N := 48) hx hb ht9 in_DiscMakerModel hown hK hP 0 rfl rfl 13 (by decide) (ht9 _ k1444) (fun _ h9 => h9) rfl d_DiscMakerModel_components_122 ?_
                  refine lv_sipush (v := 200) hx hb d_DiscMakerModel_components_125 (by decide) ?_
                  refine lv_iload_n hx hb d_DiscMakerModel_components_128 rfl (lv_at hl 1 rfl) ?_
                  refine lv_imul hx hb d_DiscMakerModel_components_129 ?_
                  refine lv_topi (fun v28 e_v28 => ?_)
                  have t_v28 : v28.toInt = 200 * x.toInt := by rw [e_v28]; exact i_mul (by decide) rfl (by omega) (by omega)
                  refine lv_iload hx hb d_DiscMakerModel_components_130 (lv_at hl 5 rfl) ?_
                  refine lv_iadd hx hb d_DiscMakerModel_components_132 ?_
                  refine lv_topi (fun v29 e_v29 => ?_)
                  have t_v29 : v29.toInt = v28.toInt + lp.toInt := by rw [e_v29]; exact i_add rfl rfl (by omega) (by omega)
                  refine va_bald hx hb hK hP 2 0 rfl rfl (vp_in_iff.mpr ⟨by omega, by omega⟩) d_DiscMakerModel_components_133 ?_
                  refine lv_topi (fun v30 e_v30 => ?_)
                  have c_v30 := i_cl (a := v29) (by omega)
                  have e2_v30 : v30 = fT (200 * x.toNatClampNeg + lp.toNatClampNeg) := by rw [e_v30, show v29.toNatClampNeg = 200 * x.toNatClampNeg + lp.toNatClampNeg by omega]
                  have qtv30 : (tgF fT x.toNatClampNeg (lp.toNatClampNeg)).toInt = v30.toInt := by unfold tgF; rw [e2_v30]
                  refine lv_bipush (v := 46) hx hb d_DiscMakerModel_components_134 (by decide) ?_
                  refine lv_icmp_ne (tgt := 163) hx hb d_DiscMakerModel_components_136 (by decide) (fun h_9 => ?_) (fun h_9 => ?_)
                  · skip
                    have g136_124 : ¬ v30.toInt = 46 := fun h8 => h_9 ((i_eq rfl (by decide)).mpr h8)
                    refine lv_iconst (v := 0) hx hb d_DiscMakerModel_components_163 (by decide) ?_
                    have hP := hP.sub (ws' := [(h0, .inr (11, MO ma sv_thrown sv_length sv_nodes sv_many sv_directories sv_runsFrom sv_runs sv_read sv_wrong sv_isNamed sv_goes sv_goesSize sv_goesAt sv_targetParts sv_isRoot)), ((ma 16), .inl (cJ, 46080, .inr (.inl lF))), ((ma 10), .inl (cB, 8000, .inl fT)), ((ma 11), .inl (cI, 40, .inl fTS))]) [0, 1, 2, 3] rfl
                    have hD := hD.sub (ws' := [(h0, .inr (11, MO ma sv_thrown sv_length sv_nodes sv_many sv_directories sv_runsFrom sv_runs sv_read sv_wrong sv_isNamed sv_goes sv_goesSize sv_goesAt sv_targetParts sv_isRoot)), ((ma 16), .inl (cJ, 46080, .inr (.inl lF))), ((ma 10), .inl (cB, 8000, .inl fT)), ((ma 11), .inl (cI, 40, .inl fTS))]) [0, 1, 2, 3] (by decide +kernel) rfl
                    have hl := lv_sub hl [0, 1, 2, 3, 4, 5, 6] rfl
                    exact kk164 _ 0 _ _ _ rfl ((mrk_is (by (try rw [show (2 : Int32).toInt = 2 by decide]); (try rw [show (4 : Int32).toInt = 4 by decide]); (try rw [show (0 : Int32).toInt = 0 by decide]); omega))) ((by (try dsimp only); first | assumption | omega | trivial)) hP hD hS hl
                  · skip
                    have g136_124 : v30.toInt = 46 := (i_eq rfl (by decide)).mp h_9
                    refine lv_aload_n hx hb d_DiscMakerModel_components_139 rfl (lv_at hl 0 rfl) ?_
                    refine va_get (D := D) (ci := 11) (v := .ref (ma 10)) (C := "DiscMakerModel") (T := F_DiscMakerModel) (N := 48) hx hb ht9 in_DiscMakerModel hown hK hP 0 rfl rfl 13 (by decide) (ht9 _ k1444) (fun _ h9 => h9) rfl d_DiscMakerModel_components_140 ?_
                    refine lv_sipush (v := 200) hx hb d_DiscMakerModel_components_143 (by decide) ?_
                    refine lv_iload_n hx hb d_DiscMakerModel_components_146 rfl (lv_at hl 1 rfl) ?_
                    refine lv_imul hx hb d_DiscMakerModel_components_147 ?_
                    refine lv_topi (fun v31 e_v31 => ?_)
                    have t_v31 : v31.toInt = 200 * x.toInt := by rw [e_v31]; exact i_mul (by decide) rfl (by omega) (by omega)
                    refine lv_iload hx hb d_DiscMakerModel_components_148 (lv_at hl 5 rfl) ?_
                    refine lv_iadd hx hb d_DiscMakerModel_components_150 ?_
                    refine lv_topi (fun v32 e_v32 => ?_)
                    have t_v32 : v32.toInt = v31.toInt + lp.toInt := by rw [e_v32]; exact i_add rfl rfl (by omega) (by omega)
                    refine lv_iconst (v := 1) hx hb d_DiscMakerModel_components_151 (by decide) ?_
                    refine lv_iadd hx hb d_DiscMakerModel_components_152 ?_
                    refine lv_topi (fun v33 e_v33 => ?_)
                    have t_v33 : v33.toInt = v32.toInt + 1 := by rw [e_v33]; exact i_add rfl (by decide) (by omega) (by omega)
                    refine va_bald hx hb hK hP 2 0 rfl rfl (vp_in_iff.mpr ⟨by omega, by omega⟩) d_DiscMakerModel_components_153 ?_
                    refine lv_topi (fun v34 e_v34 => ?_)
                    have c_v34 := i_cl (a := v33) (by omega)
                    have e2_v34 : v34 = fT (200 * x.toNatClampNeg + (lp.toNatClampNeg + 1)) := by rw [e_v34, show v33.toNatClampNeg = 200 * x.toNatClampNeg + (lp.toNatClampNeg + 1) by omega]
                    have qtv34 : (tgF fT x.toNatClampNeg ((lp.toNatClampNeg + 1))).toInt = v34.toInt := by unfold tgF; rw [e2_v34]
                    refine lv_bipush (v := 46) hx hb d_DiscMakerModel_components_154 (by decide) ?_
                    refine lv_icmp_ne (tgt := 163) hx hb d_DiscMakerModel_components_156 (by decide) (fun h_9 => ?_) (fun h_9 => ?_)
                    · skip
                      have g156_138 : ¬ v34.toInt = 46 := fun h8 => h_9 ((i_eq rfl (by decide)).mpr h8)
                      refine lv_iconst (v := 0) hx hb d_DiscMakerModel_components_163 (by decide) ?_
                      have hP := hP.sub (ws' := [(h0, .inr (11, MO ma sv_thrown sv_length sv_nodes sv_many sv_directories sv_runsFrom sv_runs sv_read sv_wrong sv_isNamed sv_goes sv_goesSize sv_goesAt sv_targetParts sv_isRoot)), ((ma 16), .inl (cJ, 46080, .inr (.inl lF))), ((ma 10), .inl (cB, 8000, .inl fT)), ((ma 11), .inl (cI, 40, .inl fTS))]) [0, 1, 2, 3] rfl
                      have hD := hD.sub (ws' := [(h0, .inr (11, MO ma sv_thrown sv_length sv_nodes sv_many sv_directories sv_runsFrom sv_runs sv_read sv_wrong sv_isNamed sv_goes sv_goesSize sv_goesAt sv_targetParts sv_isRoot)), ((ma 16), .inl (cJ, 46080, .inr (.inl lF))), ((ma 10), .inl (cB, 8000, .inl fT)), ((ma 11), .inl (cI, 40, .inl fTS))]) [0, 1, 2, 3] (by decide +kernel) rfl
                      have hl := lv_sub hl [0, 1, 2, 3, 4, 5, 6] rfl
                      exact kk164 _ 0 _ _ _ rfl ((mrk_is (by (try rw [show (2 : Int32).toInt = 2 by decide]); (try rw [show (4 : Int32).toInt = 4 by decide]); (try rw [show (0 : Int32).toInt = 0 by decide]); omega))) ((by (try dsimp only); first | assumption | omega | trivial)) hP hD hS hl
                    · skip
                      have g156_138 : v34.toInt = 46 := (i_eq rfl (by decide)).mp h_9
                      refine lv_iconst (v := 4) hx hb d_DiscMakerModel_components_159 (by decide) ?_
                      refine lv_goto (tgt := 164) hx hb d_DiscMakerModel_components_160 (by decide) ?_
                      have hP := hP.sub (ws' := [(h0, .inr (11, MO ma sv_thrown sv_length sv_nodes sv_many sv_directories sv_runsFrom sv_runs sv_read sv_wrong sv_isNamed sv_goes sv_goesSize sv_goesAt sv_targetParts sv_isRoot)), ((ma 16), .inl (cJ, 46080, .inr (.inl lF))), ((ma 10), .inl (cB, 8000, .inl fT)), ((ma 11), .inl (cI, 40, .inl fTS))]) [0, 1, 2, 3] rfl
                      have hD := hD.sub (ws' := [(h0, .inr (11, MO ma sv_thrown sv_length sv_nodes sv_many sv_directories sv_runsFrom sv_runs sv_read sv_wrong sv_isNamed sv_goes sv_goesSize sv_goesAt sv_targetParts sv_isRoot)), ((ma 16), .inl (cJ, 46080, .inr (.inl lF))), ((ma 10), .inl (cB, 8000, .inl fT)), ((ma 11), .inl (cI, 40, .inl fTS))]) [0, 1, 2, 3] (by decide +kernel) rfl
                      have hl := lv_sub hl [0, 1, 2, 3, 4, 5, 6] rfl
                      exact kk164 _ 4 _ _ _ rfl ((mrk_is (by (try rw [show (2 : Int32).toInt = 2 by decide]); (try rw [show (4 : Int32).toInt = 4 by decide]); (try rw [show (0 : Int32).toInt = 0 by decide]); omega))) ((by (try dsimp only); first | assumption | omega | trivial)) hP hD hS hl
              · skip
                have g87_107 : v26.toInt = 1 := (i_eq rfl (by decide)).mp h_9
                refine lv_aload_n hx hb d_DiscMakerModel_components_90 rfl (lv_at hl 0 rfl) ?_
                refine va_get (D := D) (ci := 11) (v := .ref (ma 10)) (C := "DiscMakerModel") (T := F_DiscMakerModel) (N := 48) hx hb ht9 in_DiscMakerModel hown hK hP 0 rfl rfl 13 (by decide) (ht9 _ k1444) (fun _ h9 => h9) rfl d_DiscMakerModel_components_91 ?_
                refine lv_sipush (v := 200) hx hb d_DiscMakerModel_components_94 (by decide) ?_
                refine lv_iload_n hx hb d_DiscMakerModel_components_97 rfl (lv_at hl 1 rfl) ?_
                refine lv_imul hx hb d_DiscMakerModel_components_98 ?_
                refine lv_topi (fun v35 e_v35 => ?_)
                have t_v35 : v35.toInt = 200 * x.toInt := by rw [e_v35]; exact i_mul (by decide) rfl (by omega) (by omega)
                refine lv_iload hx hb d_DiscMakerModel_components_99 (lv_at hl 5 rfl) ?_
                refine lv_iadd hx hb d_DiscMakerModel_components_101 ?_
                refine lv_topi (fun v36 e_v36 => ?_)
                have t_v36 : v36.toInt = v35.toInt + lp.toInt := by rw [e_v36]; exact i_add rfl rfl (by omega) (by omega)
                refine va_bald hx hb hK hP 2 0 rfl rfl (vp_in_iff.mpr ⟨by omega, by omega⟩) d_DiscMakerModel_components_102 ?_
                refine lv_topi (fun v37 e_v37 => ?_)
                have c_v37 := i_cl (a := v36) (by omega)
                have e2_v37 : v37 = fT (200 * x.toNatClampNeg + lp.toNatClampNeg) := by rw [e_v37, show v36.toNatClampNeg = 200 * x.toNatClampNeg + lp.toNatClampNeg by omega]
                have qtv37 : (tgF fT x.toNatClampNeg (lp.toNatClampNeg)).toInt = v37.toInt := by unfold tgF; rw [e2_v37]
                refine lv_bipush (v := 46) hx hb d_DiscMakerModel_components_103 (by decide) ?_
                refine lv_icmp_ne (tgt := 112) hx hb d_DiscMakerModel_components_105 (by decide) (fun h_9 => ?_) (fun h_9 => ?_)
                · skip
                  have g105_153 : ¬ v37.toInt = 46 := fun h8 => h_9 ((i_eq rfl (by decide)).mpr h8)
                  refine lv_iload hx hb d_DiscMakerModel_components_112 (lv_at hl 6 rfl) ?_
                  refine lv_iload hx hb d_DiscMakerModel_components_114 (lv_at hl 5 rfl) ?_
                  refine lv_isub hx hb d_DiscMakerModel_components_116 ?_
                  refine lv_topi (fun v38 e_v38 => ?_)
                  have t_v38 : v38.toInt = lq.toInt - lp.toInt := by rw [e_v38]; exact i_sub rfl rfl (by omega) (by omega)
                  refine lv_iconst (v := 2) hx hb d_DiscMakerModel_components_117 (by decide) ?_
                  refine lv_icmp_ne (tgt := 163) hx hb d_DiscMakerModel_components_118 (by decide) (fun h_9 => ?_) (fun h_9 => ?_)
                  · skip
                    have g118_158 : ¬ v38.toInt = 2 := fun h8 => h_9 ((i_eq rfl (by decide)).mpr h8)
                    refine lv_iconst (v := 0) hx hb d_DiscMakerModel_components_163 (by decide) ?_
                    have hP := hP.sub (ws' := [(h0, .inr (11, MO ma sv_thrown sv_length sv_nodes sv_many sv_directories sv_runsFrom sv_runs sv_read sv_wrong sv_isNamed sv_goes sv_goesSize sv_goesAt sv_targetParts sv_isRoot)), ((ma 16), .inl (cJ, 46080, .inr (.inl lF))), ((ma 10), .inl (cB, 8000, .inl fT)), ((ma 11), .inl (cI, 40, .inl fTS))]) [0, 1, 2, 3] rfl
                    have hD := hD.sub (ws' := [(h0, .inr (11, MO ma sv_thrown sv_length sv_nodes sv_many sv_directories sv_runsFrom sv_runs sv_read sv_wrong sv_isNamed sv_goes sv_goesSize sv_goesAt sv_targetParts sv_isRoot)), ((ma 16), .inl (cJ, 46080, .inr (.inl lF))), ((ma 10), .inl (cB, 8000, .inl fT)), ((ma 11), .inl (cI, 40, .inl fTS))]) [0, 1, 2, 3] (by decide +kernel) rfl
                    have hl := lv_sub hl [0, 1, 2, 3, 4, 5, 6] rfl
                    exact kk164 _ 0 _ _ _ rfl ((mrk_is (by (try rw [show (2 : Int32).toInt = 2 by decide]); (try rw [show (4 : Int32).toInt = 4 by decide]); (try rw [show (0 : Int32).toInt = 0 by decide]); omega))) ((by (try dsimp only); first | assumption | omega | trivial)) hP hD hS hl
                  · skip
                    have g118_158 : v38.toInt = 2 := (i_eq rfl (by decide)).mp h_9
                    refine lv_aload_n hx hb d_DiscMakerModel_components_121 rfl (lv_at hl 0 rfl) ?_
                    refine va_get (D := D) (ci := 11) (v := .ref (ma 10)) (C := "DiscMakerModel") (T := F_DiscMakerModel) (N := 48) hx hb ht9 in_DiscMakerModel hown hK hP 0 rfl rfl 13 (by decide) (ht9 _ k1444) (fun _ h9 => h9) rfl d_DiscMakerModel_components_122 ?_
                    refine lv_sipush (v := 200) hx hb d_DiscMakerModel_components_125 (by decide) ?_
                    refine lv_iload_n hx hb d_DiscMakerModel_components_128 rfl (lv_at hl 1 rfl) ?_
                    refine lv_imul hx hb d_DiscMakerModel_components_129 ?_
                    refine lv_topi (fun v39 e_v39 => ?_)
                    have t_v39 : v39.toInt = 200 * x.toInt := by rw [e_v39]; exact i_mul (by decide) rfl (by omega) (by omega)
                    refine lv_iload hx hb d_DiscMakerModel_components_130 (lv_at hl 5 rfl) ?_
                    refine lv_iadd hx hb d_DiscMakerModel_components_132 ?_
                    refine lv_topi (fun v40 e_v40 => ?_)
                    have t_v40 : v40.toInt = v39.toInt + lp.toInt := by rw [e_v40]; exact i_add rfl rfl (by omega) (by omega)
                    refine va_bald hx hb hK hP 2 0 rfl rfl (vp_in_iff.mpr ⟨by omega, by omega⟩) d_DiscMakerModel_components_133 ?_
                    refine lv_topi (fun v41 e_v41 => ?_)
                    have c_v41 := i_cl (a := v40) (by omega)
                    have e2_v41 : v41 = fT (200 * x.toNatClampNeg + lp.toNatClampNeg) := by rw [e_v41, show v40.toNatClampNeg = 200 * x.toNatClampNeg + lp.toNatClampNeg by omega]
                    have qtv41 : (tgF fT x.toNatClampNeg (lp.toNatClampNeg)).toInt = v41.toInt := by unfold tgF; rw [e2_v41]
                    refine lv_bipush (v := 46) hx hb d_DiscMakerModel_components_134 (by decide) ?_
                    refine lv_icmp_ne (tgt := 163) hx hb d_DiscMakerModel_components_136 (by decide) (fun h_9 => ?_) (fun h_9 => ?_)
                    · skip
                      have g136_170 : ¬ v41.toInt = 46 := fun h8 => h_9 ((i_eq rfl (by decide)).mpr h8)
                      refine lv_iconst (v := 0) hx hb d_DiscMakerModel_components_163 (by decide) ?_
                      have hP := hP.sub (ws' := [(h0, .inr (11, MO ma sv_thrown sv_length sv_nodes sv_many sv_directories sv_runsFrom sv_runs sv_read sv_wrong sv_isNamed sv_goes sv_goesSize sv_goesAt sv_targetParts sv_isRoot)), ((ma 16), .inl (cJ, 46080, .inr (.inl lF))), ((ma 10), .inl (cB, 8000, .inl fT)), ((ma 11), .inl (cI, 40, .inl fTS))]) [0, 1, 2, 3] rfl
                      have hD := hD.sub (ws' := [(h0, .inr (11, MO ma sv_thrown sv_length sv_nodes sv_many sv_directories sv_runsFrom sv_runs sv_read sv_wrong sv_isNamed sv_goes sv_goesSize sv_goesAt sv_targetParts sv_isRoot)), ((ma 16), .inl (cJ, 46080, .inr (.inl lF))), ((ma 10), .inl (cB, 8000, .inl fT)), ((ma 11), .inl (cI, 40, .inl fTS))]) [0, 1, 2, 3] (by decide +kernel) rfl
                      have hl := lv_sub hl [0, 1, 2, 3, 4, 5, 6] rfl
                      exact kk164 _ 0 _ _ _ rfl ((mrk_is (by (try rw [show (2 : Int32).toInt = 2 by decide]); (try rw [show (4 : Int32).toInt = 4 by decide]); (try rw [show (0 : Int32).toInt = 0 by decide]); omega))) ((by (try dsimp only); first | assumption | omega | trivial)) hP hD hS hl
                    · skip
                      have g136_170 : v41.toInt = 46 := (i_eq rfl (by decide)).mp h_9
                      refine lv_aload_n hx hb d_DiscMakerModel_components_139 rfl (lv_at hl 0 rfl) ?_
                      refine va_get (D := D) (ci := 11) (v := .ref (ma 10)) (C := "DiscMakerModel") (T := F_DiscMakerModel) (N := 48) hx hb ht9 in_DiscMakerModel hown hK hP 0 rfl rfl 13 (by decide) (ht9 _ k1444) (fun _ h9 => h9) rfl d_DiscMakerModel_components_140 ?_
                      refine lv_sipush (v := 200) hx hb d_DiscMakerModel_components_143 (by decide) ?_
                      refine lv_iload_n hx hb d_DiscMakerModel_components_146 rfl (lv_at hl 1 rfl) ?_
                      refine lv_imul hx hb d_DiscMakerModel_components_147 ?_
                      refine lv_topi (fun v42 e_v42 => ?_)
                      have t_v42 : v42.toInt = 200 * x.toInt := by rw [e_v42]; exact i_mul (by decide) rfl (by omega) (by omega)
                      refine lv_iload hx hb d_DiscMakerModel_components_148 (lv_at hl 5 rfl) ?_
                      refine lv_iadd hx hb d_DiscMakerModel_components_150 ?_
                      refine lv_topi (fun v43 e_v43 => ?_)
                      have t_v43 : v43.toInt = v42.toInt + lp.toInt := by rw [e_v43]; exact i_add rfl rfl (by omega) (by omega)
                      refine lv_iconst (v := 1) hx hb d_DiscMakerModel_components_151 (by decide) ?_
                      refine lv_iadd hx hb d_DiscMakerModel_components_152 ?_
                      refine lv_topi (fun v44 e_v44 => ?_)
                      have t_v44 : v44.toInt = v43.toInt + 1 := by rw [e_v44]; exact i_add rfl (by decide) (by omega) (by omega)
                      refine va_bald hx hb hK hP 2 0 rfl rfl (vp_in_iff.mpr ⟨by omega, by omega⟩) d_DiscMakerModel_components_153 ?_
                      refine lv_topi (fun v45 e_v45 => ?_)
                      have c_v45 := i_cl (a := v44) (by omega)
                      have e2_v45 : v45 = fT (200 * x.toNatClampNeg + (lp.toNatClampNeg + 1)) := by rw [e_v45, show v44.toNatClampNeg = 200 * x.toNatClampNeg + (lp.toNatClampNeg + 1) by omega]
                      have qtv45 : (tgF fT x.toNatClampNeg ((lp.toNatClampNeg + 1))).toInt = v45.toInt := by unfold tgF; rw [e2_v45]
                      refine lv_bipush (v := 46) hx hb d_DiscMakerModel_components_154 (by decide) ?_
                      refine lv_icmp_ne (tgt := 163) hx hb d_DiscMakerModel_components_156 (by decide) (fun h_9 => ?_) (fun h_9 => ?_)
                      · skip
                        have g156_184 : ¬ v45.toInt = 46 := fun h8 => h_9 ((i_eq rfl (by decide)).mpr h8)
                        refine lv_iconst (v := 0) hx hb d_DiscMakerModel_components_163 (by decide) ?_
                        have hP := hP.sub (ws' := [(h0, .inr (11, MO ma sv_thrown sv_length sv_nodes sv_many sv_directories sv_runsFrom sv_runs sv_read sv_wrong sv_isNamed sv_goes sv_goesSize sv_goesAt sv_targetParts sv_isRoot)), ((ma 16), .inl (cJ, 46080, .inr (.inl lF))), ((ma 10), .inl (cB, 8000, .inl fT)), ((ma 11), .inl (cI, 40, .inl fTS))]) [0, 1, 2, 3] rfl
                        have hD := hD.sub (ws' := [(h0, .inr (11, MO ma sv_thrown sv_length sv_nodes sv_many sv_directories sv_runsFrom sv_runs sv_read sv_wrong sv_isNamed sv_goes sv_goesSize sv_goesAt sv_targetParts sv_isRoot)), ((ma 16), .inl (cJ, 46080, .inr (.inl lF))), ((ma 10), .inl (cB, 8000, .inl fT)), ((ma 11), .inl (cI, 40, .inl fTS))]) [0, 1, 2, 3] (by decide +kernel) rfl
                        have hl := lv_sub hl [0, 1, 2, 3, 4, 5, 6] rfl
                        exact kk164 _ 0 _ _ _ rfl ((mrk_is (by (try rw [show (2 : Int32).toInt = 2 by decide]); (try rw [show (4 : Int32).toInt = 4 by decide]); (try rw [show (0 : Int32).toInt = 0 by decide]); omega))) ((by (try dsimp only); first | assumption | omega | trivial)) hP hD hS hl
                      · skip
                        have g156_184 : v45.toInt = 46 := (i_eq rfl (by decide)).mp h_9
                        refine lv_iconst (v := 4) hx hb d_DiscMakerModel_components_159 (by decide) ?_
                        refine lv_goto (tgt := 164) hx hb d_DiscMakerModel_components_160 (by decide) ?_
                        have hP := hP.sub (ws' := [(h0, .inr (11, MO ma sv_thrown sv_length sv_nodes sv_many sv_directories sv_runsFrom sv_runs sv_read sv_wrong sv_isNamed sv_goes sv_goesSize sv_goesAt sv_targetParts sv_isRoot)), ((ma 16), .inl (cJ, 46080, .inr (.inl lF))), ((ma 10), .inl (cB, 8000, .inl fT)), ((ma 11), .inl (cI, 40, .inl fTS))]) [0, 1, 2, 3] rfl
                        have hD := hD.sub (ws' := [(h0, .inr (11, MO ma sv_thrown sv_length sv_nodes sv_many sv_directories sv_runsFrom sv_runs sv_read sv_wrong sv_isNamed sv_goes sv_goesSize sv_goesAt sv_targetParts sv_isRoot)), ((ma 16), .inl (cJ, 46080, .inr (.inl lF))), ((ma 10), .inl (cB, 8000, .inl fT)), ((ma 11), .inl (cI, 40, .inl fTS))]) [0, 1, 2, 3] (by decide +kernel) rfl
                        have hl := lv_sub hl [0, 1, 2, 3, 4, 5, 6] rfl
                        exact kk164 _ 4 _ _ _ rfl ((mrk_is (by (try rw [show (2 : Int32).toInt = 2 by decide]); (try rw [show (4 : Int32).toInt = 4 by decide]); (try rw [show (0 : Int32).toInt = 0 by decide]); omega))) ((by (try dsimp only); first | assumption | omega | trivial)) hP hD hS hl
                · skip
                  have g105_153 : v37.toInt = 46 := (i_eq rfl (by decide)).mp h_9
                  refine lv_iconst (v := 2) hx hb d_DiscMakerModel_components_108 (by decide) ?_
                  refine lv_goto (tgt := 164) hx hb d_DiscMakerModel_components_109 (by decide) ?_
                  have hP := hP.sub (ws' := [(h0, .inr (11, MO ma sv_thrown sv_length sv_nodes sv_many sv_directories sv_runsFrom sv_runs sv_read sv_wrong sv_isNamed sv_goes sv_goesSize sv_goesAt sv_targetParts sv_isRoot)), ((ma 16), .inl (cJ, 46080, .inr (.inl lF))), ((ma 10), .inl (cB, 8000, .inl fT)), ((ma 11), .inl (cI, 40, .inl fTS))]) [0, 1, 2, 3] rfl
                  have hD := hD.sub (ws' := [(h0, .inr (11, MO ma sv_thrown sv_length sv_nodes sv_many sv_directories sv_runsFrom sv_runs sv_read sv_wrong sv_isNamed sv_goes sv_goesSize sv_goesAt sv_targetParts sv_isRoot)), ((ma 16), .inl (cJ, 46080, .inr (.inl lF))), ((ma 10), .inl (cB, 8000, .inl fT)), ((ma 11), .inl (cI, 40, .inl fTS))]) [0, 1, 2, 3] (by decide +kernel) rfl
                  have hl := lv_sub hl [0, 1, 2, 3, 4, 5, 6] rfl
                  exact kk164 _ 2 _ _ _ rfl ((mrk_is (by (try rw [show (2 : Int32).toInt = 2 by decide]); (try rw [show (4 : Int32).toInt = 4 by decide]); (try rw [show (0 : Int32).toInt = 0 by decide]); omega))) ((by (try dsimp only); first | assumption | omega | trivial)) hP hD hS hl
          · skip
            intro kk81
            refine lv_iload_n hx hb d_DiscMakerModel_components_53 rfl (lv_at hl 3 rfl) ?_
            refine lv_icmp_ge (tgt := 81) hx hb d_DiscMakerModel_components_54 (by decide) (fun h_9 => ?_) (fun h_9 => ?_)
            · skip
              have g54_194 : v1.toInt ≤ lq.toInt := (i_le rfl rfl).mp h_9
              have hP := hP.sub (ws' := [(h0, .inr (11, MO ma sv_thrown sv_length sv_nodes sv_many sv_directories sv_runsFrom sv_runs sv_read sv_wrong sv_isNamed sv_goes sv_goesSize sv_goesAt sv_targetParts sv_isRoot)), ((ma 16), .inl (cJ, 46080, .inr (.inl lF))), ((ma 10), .inl (cB, 8000, .inl fT)), ((ma 11), .inl (cI, 40, .inl fTS))]) [0, 1, 2, 3] rfl
              have hD := hD.sub (ws' := [(h0, .inr (11, MO ma sv_thrown sv_length sv_nodes sv_many sv_directories sv_runsFrom sv_runs sv_read sv_wrong sv_isNamed sv_goes sv_goesSize sv_goesAt sv_targetParts sv_isRoot)), ((ma 16), .inl (cJ, 46080, .inr (.inl lF))), ((ma 10), .inl (cB, 8000, .inl fT)), ((ma 11), .inl (cI, 40, .inl fTS))]) [0, 1, 2, 3] (by decide +kernel) rfl
              have hl := lv_sub hl [0, 1, 2, 3, 4, 5, 6] rfl
              exact kk81 _  _ _ _ rfl ((by rw [← g2]; exact nxS_end (by first | exact Or.inl (by omega) | exact Or.inr (by omega)))) hP hD hS hl
            · skip
              have g54_194 : ¬ v1.toInt ≤ lq.toInt := fun h8 => h_9 ((i_le rfl rfl).mpr h8)
              refine lv_aload_n hx hb d_DiscMakerModel_components_57 rfl (lv_at hl 0 rfl) ?_
              refine va_get (D := D) (ci := 11) (v := .ref (ma 10)) (C := "DiscMakerModel") (T := F_DiscMakerModel) (N := 48) hx hb ht9 in_DiscMakerModel hown hK hP 0 rfl rfl 13 (by decide) (ht9 _ k1444) (fun _ h9 => h9) rfl d_DiscMakerModel_components_58 ?_
              refine lv_sipush (v := 200) hx hb d_DiscMakerModel_components_61 (by decide) ?_
              refine lv_iload_n hx hb d_DiscMakerModel_components_64 rfl (lv_at hl 1 rfl) ?_
              refine lv_imul hx hb d_DiscMakerModel_components_65 ?_
              refine lv_topi (fun v46 e_v46 => ?_)
              have t_v46 : v46.toInt = 200 * x.toInt := by rw [e_v46]; exact i_mul (by decide) rfl (by omega) (by omega)
              refine lv_iload hx hb d_DiscMakerModel_components_66 (lv_at hl 6 rfl) ?_
              refine lv_iadd hx hb d_DiscMakerModel_components_68 ?_
              refine lv_topi (fun v47 e_v47 => ?_)
              have t_v47 : v47.toInt = v46.toInt + lq.toInt := by rw [e_v47]; exact i_add rfl rfl (by omega) (by omega)
              refine va_bald hx hb hK hP 2 0 rfl rfl (vp_in_iff.mpr ⟨by omega, by omega⟩) d_DiscMakerModel_components_69 ?_
              refine lv_topi (fun v48 e_v48 => ?_)
              have c_v48 := i_cl (a := v47) (by omega)
              have e2_v48 : v48 = fT (200 * x.toNatClampNeg + lq.toNatClampNeg) := by rw [e_v48, show v47.toNatClampNeg = 200 * x.toNatClampNeg + lq.toNatClampNeg by omega]
              have qtv48 : (tgF fT x.toNatClampNeg (lq.toNatClampNeg)).toInt = v48.toInt := by unfold tgF; rw [e2_v48]
              refine lv_bipush (v := 47) hx hb d_DiscMakerModel_components_70 (by decide) ?_
              refine lv_icmp_eq (tgt := 81) hx hb d_DiscMakerModel_components_72 (by decide) (fun h_9 => ?_) (fun h_9 => ?_)
              · skip
                have g72_205 : v48.toInt = 47 := (i_eq rfl (by decide)).mp h_9
                have hP := hP.sub (ws' := [(h0, .inr (11, MO ma sv_thrown sv_length sv_nodes sv_many sv_directories sv_runsFrom sv_runs sv_read sv_wrong sv_isNamed sv_goes sv_goesSize sv_goesAt sv_targetParts sv_isRoot)), ((ma 16), .inl (cJ, 46080, .inr (.inl lF))), ((ma 10), .inl (cB, 8000, .inl fT)), ((ma 11), .inl (cI, 40, .inl fTS))]) [0, 1, 2, 3] rfl
                have hD := hD.sub (ws' := [(h0, .inr (11, MO ma sv_thrown sv_length sv_nodes sv_many sv_directories sv_runsFrom sv_runs sv_read sv_wrong sv_isNamed sv_goes sv_goesSize sv_goesAt sv_targetParts sv_isRoot)), ((ma 16), .inl (cJ, 46080, .inr (.inl lF))), ((ma 10), .inl (cB, 8000, .inl fT)), ((ma 11), .inl (cI, 40, .inl fTS))]) [0, 1, 2, 3] (by decide +kernel) rfl
                have hl := lv_sub hl [0, 1, 2, 3, 4, 5, 6] rfl
                exact kk81 _  _ _ _ rfl ((by rw [← g2]; exact nxS_end (by first | exact Or.inl (by omega) | exact Or.inr (by omega)))) hP hD hS hl
              · skip
                have g72_205 : ¬ v48.toInt = 47 := fun h8 => h_9 ((i_eq rfl (by decide)).mpr h8)
                obtain ⟨v49, e_v49⟩ : ∃ z : Int32, z = lq + 1 := ⟨_, rfl⟩
                refine lv_iinc (v := v49) hx hb d_DiscMakerModel_components_75 hl (k := 6) rfl e_v49.symm (by decide +kernel) rfl (fun ls hl => ?_)
                have t_v49 : v49.toInt = lq.toInt + 1 := by rw [e_v49]; exact i_add rfl (by decide) (by omega) (by omega)
                have hl : lv_has ls 10 [(6, .int v49), (0, .ref h0), (1, .int x), (2, .int y), (3, .int v1), (4, .int al), (5, .int lp)] := hl
                refine lv_goto (tgt := 51) hx hb d_DiscMakerModel_components_78 (by decide) ?_
                have hP := hP.sub (ws' := [(h0, .inr (11, MO ma sv_thrown sv_length sv_nodes sv_many sv_directories sv_runsFrom sv_runs sv_read sv_wrong sv_isNamed sv_goes sv_goesSize sv_goesAt sv_targetParts sv_isRoot)), ((ma 16), .inl (cJ, 46080, .inr (.inl lF))), ((ma 10), .inl (cB, 8000, .inl fT)), ((ma 11), .inl (cI, 40, .inl fTS))]) [0, 1, 2, 3] rfl
                have hD := hD.sub (ws' := [(h0, .inr (11, MO ma sv_thrown sv_length sv_nodes sv_many sv_directories sv_runsFrom sv_runs sv_read sv_wrong sv_isNamed sv_goes sv_goesSize sv_goesAt sv_targetParts sv_isRoot)), ((ma 16), .inl (cJ, 46080, .inr (.inl lF))), ((ma 10), .inl (cB, 8000, .inl fT)), ((ma 11), .inl (cI, 40, .inl fTS))]) [0, 1, 2, 3] (by decide +kernel) rfl
                have hl := lv_sub hl [1, 2, 3, 4, 5, 6, 0] rfl
                exact ih51 _ (by first | omega | (dsimp only; omega)) v49 _ _ _ rfl ((by (try dsimp only); first | assumption | omega | trivial)) ((by have h1 := i_cl (a := v49) (by omega); rw [show v49.toNatClampNeg = lq.toNatClampNeg + 1 by omega, ← nxS_go (by omega) (by omega)]; exact g2)) hP hD hS hl
        · skip
          intro kk51
          have hP := hP.sub (ws' := [(h0, .inr (11, MO ma sv_thrown sv_length sv_nodes sv_many sv_directories sv_runsFrom sv_runs sv_read sv_wrong sv_isNamed sv_goes sv_goesSize sv_goesAt sv_targetParts sv_isRoot)), ((ma 16), .inl (cJ, 46080, .inr (.inl lF))), ((ma 10), .inl (cB, 8000, .inl fT)), ((ma 11), .inl (cI, 40, .inl fTS))]) [0, 1, 2, 3] rfl
          have hD := hD.sub (ws' := [(h0, .inr (11, MO ma sv_thrown sv_length sv_nodes sv_many sv_directories sv_runsFrom sv_runs sv_read sv_wrong sv_isNamed sv_goes sv_goesSize sv_goesAt sv_targetParts sv_isRoot)), ((ma 16), .inl (cJ, 46080, .inr (.inl lF))), ((ma 10), .inl (cB, 8000, .inl fT)), ((ma 11), .inl (cI, 40, .inl fTS))]) [0, 1, 2, 3] (by decide +kernel) rfl
          have hl := lv_sub hl [1, 2, 3, 4, 5, 6, 0] rfl
          exact kk51 _ lp _ _ _ rfl ((by (try dsimp only); first | assumption | omega | trivial)) (rfl) hP hD hS hl
    · skip
      intro kk41
      have hP := hP.sub (ws' := [(h0, .inr (11, MO ma sv_thrown sv_length sv_nodes sv_many sv_directories sv_runsFrom sv_runs sv_read sv_wrong sv_isNamed sv_goes sv_goesSize sv_goesAt sv_targetParts sv_isRoot)), ((ma 16), .inl (cJ, 46080, .inr (.inl jF))), ((ma 10), .inl (cB, 8000, .inl fT)), ((ma 11), .inl (cI, 40, .inl fTS))]) [0, 1, 2, 3] rfl
      have hD := hD.sub (ws' := [(h0, .inr (11, MO ma sv_thrown sv_length sv_nodes sv_many sv_directories sv_runsFrom sv_runs sv_read sv_wrong sv_isNamed sv_goes sv_goesSize sv_goesAt sv_targetParts sv_isRoot)), ((ma 16), .inl (cJ, 46080, .inr (.inl jF))), ((ma 10), .inl (cB, 8000, .inl fT)), ((ma 11), .inl (cI, 40, .inl fTS))]) [0, 1, 2, 3] (by decide +kernel) rfl
      have hl := lv_sub hl [1, 2, 3, 4, 5, 0] rfl
      exact kk41 _ aj 0 jF _ _ _ rfl ((by (try dsimp only); first | assumption | omega | trivial)) ((by rw [show (0 : Int32).toNatClampNeg = 0 by decide]; rfl)) ((by rw [show (0 : Int32).toNatClampNeg = 0 by decide]; simp only [cpT]; omega)) ((by rw [show (0 : Int32).toNatClampNeg = 0 by decide]; exact fj.cast rfl (by rw [show cpB (tgF fT x.toNatClampNeg) (fTS x.toNatClampNeg).toInt.toNat 0 = [] from rfl, List.append_nil]))) hP hD hS hl
  · skip
    intro kk38
    refine lv_bipush (v := 47) hx hb d_DiscMakerModel_components_20 (by decide) ?_
    refine lv_icmp_ne (tgt := 38) hx hb d_DiscMakerModel_components_22 (by decide) (fun h_9 => ?_) (fun h_9 => ?_)
    · skip
      have g22_211 : ¬ v3.toInt = 47 := fun h8 => h_9 ((i_eq rfl (by decide)).mpr h8)
      have hP := hP.sub (ws' := [(h0, .inr (11, MO ma sv_thrown sv_length sv_nodes sv_many sv_directories sv_runsFrom sv_runs sv_read sv_wrong sv_isNamed sv_goes sv_goesSize sv_goesAt sv_targetParts sv_isRoot)), ((ma 16), .inl (cJ, 46080, .inr (.inl F))), ((ma 10), .inl (cB, 8000, .inl fT)), ((ma 11), .inl (cI, 40, .inl fTS))]) [0, 1, 2, 3] rfl
      have hD := hD.sub (ws' := [(h0, .inr (11, MO ma sv_thrown sv_length sv_nodes sv_many sv_directories sv_runsFrom sv_runs sv_read sv_wrong sv_isNamed sv_goes sv_goesSize sv_goesAt sv_targetParts sv_isRoot)), ((ma 16), .inl (cJ, 46080, .inr (.inl F))), ((ma 10), .inl (cB, 8000, .inl fT)), ((ma 11), .inl (cI, 40, .inl fTS))]) [0, 1, 2, 3] (by decide +kernel) rfl
      have hl := lv_sub hl [2, 3, 4, 1, 0] rfl
      exact kk38 _ 0 F _ _ _ rfl ((by unfold t0F; first | (rw [if_pos ⟨by omega, by omega⟩]; decide) | (rw [if_neg (fun h8 => by have h9 := h8.2; omega)]; decide))) ((by unfold t0B; rw [if_neg (fun h8 => by have h9 := h8.2; omega)]; exact BL_nil _ _)) hP hD hS hl
    · skip
      have g22_211 : v3.toInt = 47 := (i_eq rfl (by decide)).mp h_9
      refine lv_aload_n hx hb d_DiscMakerModel_components_25 rfl (lv_at hl 2 rfl) ?_
      refine lv_iload_n hx hb d_DiscMakerModel_components_26 rfl (lv_at hl 4 rfl) ?_
      refine lv_iload hx hb d_DiscMakerModel_components_27 (lv_at hl 0 rfl) ?_
      refine lv_bipush (v := 8) hx hb d_DiscMakerModel_components_29 (by decide) ?_
      refine lv_iconst (v := 0) hx hb d_DiscMakerModel_components_31 (by decide) ?_
      have hPc := hP.sub (ws' := [(h0, .inr (11, MO ma sv_thrown sv_length sv_nodes sv_many sv_directories sv_runsFrom sv_runs sv_read sv_wrong sv_isNamed sv_goes sv_goesSize sv_goesAt sv_targetParts sv_isRoot)), ((ma 16), .inl (cJ, 46080, .inr (.inl F)))]) [0, 1] rfl
      have hDc := hD.sub (ws' := [(h0, .inr (11, MO ma sv_thrown sv_length sv_nodes sv_many sv_directories sv_runsFrom sv_runs sv_read sv_wrong sv_isNamed sv_goes sv_goesSize sv_goesAt sv_targetParts sv_isRoot)), ((ma 16), .inl (cJ, 46080, .inr (.inl F)))]) [0, 1] (by decide +kernel) rfl
      have hFc := va_free (wc := [(h0, .inr (11, MO ma sv_thrown sv_length sv_nodes sv_many sv_directories sv_runsFrom sv_runs sv_read sv_wrong sv_isNamed sv_goes sv_goesSize sv_goesAt sv_targetParts sv_isRoot)), ((ma 16), .inl (cJ, 46080, .inr (.inl F)))]) hD hS hA [0, 1] rfl
      have hkc : 0 ≤ 0 := by decide
      have hks : 0 ≤ 0 := by decide
      refine va_callv (va_runV (C := "DiscMakerModel") (As := [.int y, .int 0, .int 8, .int 0]) (rest := []) ⟨hx, hb, hml, hown, hts⟩ (m_markF l D cB cI cJ cZ cN cF s.heap.size h0 ma sv_thrown sv_length sv_nodes sv_many sv_directories sv_runsFrom sv_runs sv_read sv_wrong sv_isNamed sv_goes sv_goesSize sv_goesAt sv_targetParts sv_isRoot F y 0 8 0 (by (try dsimp only); first | assumption | omega | trivial)) (cwV 4 hts (lg_goodV k1723 k1725 k78 k125 kc_DiscMakerModel_mark) rfl rfl rfl (by decide +kernel) ⟨Nat.le_of_ble_eq_true rfl, Nat.le_of_ble_eq_true rfl⟩) ⟨fun a U g mk q => by obtain ⟨q0, q1, qP, qK, qN, qD⟩ := q; exact ⟨q0, q1, qP, va_K.moved (u := U) (U := U.calling g mk a) (Vm.Alike.refl U.vm) qK, qN.calling, qD⟩, va_recv hK hP (ci := 11) (q0 := 0) rfl rfl, fun U hU hW => ⟨rfl, by rw [hU], by rw [hU]; exact hPc, va_K.moved hW.alike hK, NN.warm hW hN, hDc.weaken (fun _ _ _ _ => trivial)⟩⟩ rfl rfl hl.1 rfl (lv_room (Nat.le_of_ble_eq_true rfl)) d_DiscMakerModel_components_32 ⟨hkc, hks⟩) hS (fun q _ h => hFc q h) hFc (fun u t H1 locs ht hvm hp_r50 hB hz1 hk1 hS => ?_)
      obtain ⟨G_51, rfl⟩ : ∃ z, z = u := ⟨_, rfl⟩
      obtain ⟨hP1, hD1⟩ := hB
      rw [ht] at hP1
      obtain ⟨hP, hD⟩ := va_join (wr := [((ma 10), .inl (cB, 8000, .inl fT)), ((ma 11), .inl (cI, 40, .inl fTS))]) (w1 := [(h0, .inr (11, MO ma sv_thrown sv_length sv_nodes sv_many sv_directories sv_runsFrom sv_runs sv_read sv_wrong sv_isNamed sv_goes sv_goesSize sv_goesAt sv_targetParts sv_isRoot)), ((ma 16), .inl (cJ, 46080, .inr (.inl G_51)))]) hP hD [0, 1] [2, 3] rfl rfl (by decide +kernel) (by decide +kernel) hk1 hFc hP1 hD1
      clear hPc hDc hFc hP1 hD1 hk1 hz1 hkc hks
      generalize H1 = H at hP hS ⊢
      have hP : va_P D CL [((ma 10), .inl (cB, 8000, .inl fT)), ((ma 11), .inl (cI, 40, .inl fTS)), (h0, .inr (11, MO ma sv_thrown sv_length sv_nodes sv_many sv_directories sv_runsFrom sv_runs sv_read sv_wrong sv_isNamed sv_goes sv_goesSize sv_goesAt sv_targetParts sv_isRoot)), ((ma 16), .inl (cJ, 46080, .inr (.inl G_51)))] H := hP
      have hD : va_D A [((ma 10), .inl (cB, 8000, .inl fT)), ((ma 11), .inl (cI, 40, .inl fTS)), (h0, .inr (11, MO ma sv_thrown sv_length sv_nodes sv_many sv_directories sv_runsFrom sv_runs sv_read sv_wrong sv_isNamed sv_goes sv_goesSize sv_goesAt sv_targetParts sv_isRoot)), ((ma 16), .inl (cJ, 46080, .inr (.inl G_51)))] := hD
      try dsimp only at hp_r50
      have hw_52 := hp_r50
      try rw [L_0] at hw_52
      try rw [L_8] at hw_52
      refine lv_iinc (v := 2) hx hb d_DiscMakerModel_components_35 hl (k := 0) rfl (by decide) (by decide +kernel) rfl (fun ls hl => ?_)
      have hl : lv_has ls 10 [(4, .int 2), (3, .int v1), (0, .ref h0), (1, .int x), (2, .int y)] := hl
      have hP := hP.sub (ws' := [(h0, .inr (11, MO ma sv_thrown sv_length sv_nodes sv_many sv_directories sv_runsFrom sv_runs sv_read sv_wrong sv_isNamed sv_goes sv_goesSize sv_goesAt sv_targetParts sv_isRoot)), ((ma 16), .inl (cJ, 46080, .inr (.inl G_51))), ((ma 10), .inl (cB, 8000, .inl fT)), ((ma 11), .inl (cI, 40, .inl fTS))]) [2, 3, 0, 1] rfl
      have hD := hD.sub (ws' := [(h0, .inr (11, MO ma sv_thrown sv_length sv_nodes sv_many sv_directories sv_runsFrom sv_runs sv_read sv_wrong sv_isNamed sv_goes sv_goesSize sv_goesAt sv_targetParts sv_isRoot)), ((ma 16), .inl (cJ, 46080, .inr (.inl G_51))), ((ma 10), .inl (cB, 8000, .inl fT)), ((ma 11), .inl (cI, 40, .inl fTS))]) [2, 3, 0, 1] (by decide +kernel) rfl
      have hl := lv_sub hl [2, 3, 4, 1, 0] rfl
      exact kk38 _ 2 G_51 _ _ _ rfl ((by unfold t0F; first | (rw [if_pos ⟨by omega, by omega⟩]; decide) | (rw [if_neg (fun h8 => by have h9 := h8.2; omega)]; decide))) ((by unfold t0B; rw [if_pos ⟨by omega, by omega⟩]; (have h7 := hw_52); exact h7.cast (by omega) rfl)) hP hD hS hl
