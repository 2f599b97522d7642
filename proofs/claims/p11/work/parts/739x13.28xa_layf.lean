theorem pt_nil {dt dx : Nat → Nat → Int} {nf : Nat → Nat → Nat → Int32} {fK fNS fT fTS : Nat → Int32} {x so : Int} {k : Nat} (h : psF fK fNS fT fTS x so k = 0) (h0 : dt 0 k = (fK k).toInt) (hn : 0 ≤ (fNS k).toInt) : ptL dt dx nf x so k = [] := by
  unfold psF at h
  unfold ptL
  by_cases a : x = 0
  · rw [if_pos a] at h ⊢
    unfold spL
    by_cases b : so = 0 ∧ k = 0
    · rw [if_pos b] at h; omega
    · rw [if_neg b]
  · rw [if_neg a] at h ⊢
    by_cases b : x = 1
    · rw [if_pos b] at h; omega
    · rw [if_neg b] at h ⊢
      by_cases c : so < 2
      · by_cases d : x = 2
        · rw [if_pos d]; unfold nmL; rw [if_pos c]
        · rw [if_neg d]; unfold slL; rw [if_pos c]
      · rw [if_neg c] at h
        by_cases d : x = 2
        · rw [if_pos d] at h; omega
        · rw [if_neg d] at h ⊢
          unfold slL
          rw [if_neg c]
          by_cases e : (fK k).toInt = 2
          · rw [if_pos e] at h; omega
          · rw [if_neg (show ¬ dt 0 k = 2 by omega)]

set_option maxHeartbeats 4000000 in
set_option maxRecDepth 100000 in
theorem m_idByteF (l : Launch) (D : va_G) (cB cI cJ cZ cN cF : ClassId) (sz : Nat) (h0 : Nat) (ma : Nat → Nat) (sv_thrown sv_length sv_nodes sv_many sv_directories sv_runsFrom sv_runs sv_read sv_wrong sv_isNamed sv_goes sv_goesSize sv_goesAt sv_targetParts sv_isRoot : Int32) (fK : Nat → Int32) (fN : Nat → Int32) (fNS : Nat → Int32) (fBa : Nat → Int32) (fBs : Nat → Int32) (fEx : Nat → Int32) (fEs : Nat → Int32) (dt : Nat → Nat → Int) (nf : Nat → Nat → Nat → Int32) (x : Int32) (y : Int32) (z : Int32) (w : Int32) (hz0 : 0 ≤ z.toInt ∧ z.toInt < 40) (hx01 : 0 ≤ x.toInt ∧ x.toInt ≤ 1) (hy02 : 0 ≤ y.toInt ∧ y.toInt ≤ 2) (hw0 : 0 ≤ w.toInt ∧ w.toInt < idS dt x.toInt y.toInt z.toNatClampNeg) (hw60 : w.toInt < 60) (hNS : Rg 0 30 40 fNS) (hBs : Rg 0 8 40 fBs) (hEs : Rg 0 3 40 fEs) (hl0 : dt 0 z.toNatClampNeg = (fK z.toNatClampNeg).toInt ∧ 0 ≤ (fK z.toNatClampNeg).toInt ∧ (fK z.toNatClampNeg).toInt ≤ 2) (hl1 : dt 1 z.toNatClampNeg = (fNS z.toNatClampNeg).toInt) (hl2 : y.toInt = 2 → dt 2 z.toNatClampNeg = (fBs z.toNatClampNeg).toInt ∧ dt 3 z.toNatClampNeg = (fEs z.toNatClampNeg).toInt) (hlN : ∀ j : Nat, (j : Int) < (fNS z.toNatClampNeg).toInt → nmF fN fNS z.toNatClampNeg j = (nf z.toNatClampNeg 1 j).toInt) (hlK : y.toInt = 2 → ∀ j : Nat, j < 11 → kyF fBa fBs fEx fEs z.toNatClampNeg j = (nf z.toNatClampNeg 2 j).toInt) : Met l y_DiscMakerModel_idByte w_DiscMakerModel_idByte ({ frames := 1, cells := 0, slots := 0, locals := 22 }) (va_Pc [.ref h0, .int x, .int y, .int z, .int w] (fun U => U.heap.size = sz ∧ va_P D CL [(h0, .inr (11, MO ma sv_thrown sv_length sv_nodes sv_many sv_directories sv_runsFrom sv_runs sv_read sv_wrong sv_isNamed sv_goes sv_goesSize sv_goesAt sv_targetParts sv_isRoot)), ((ma 1), .inl (cI, 40, .inl fK)), ((ma 8), .inl (cB, 1200, .inl fN)), ((ma 9), .inl (cI, 40, .inl fNS)), ((ma 12), .inl (cB, 320, .inl fBa)), ((ma 13), .inl (cI, 40, .inl fBs)), ((ma 14), .inl (cB, 120, .inl fEx)), ((ma 15), .inl (cI, 40, .inl fEs))] U.heap ∧ va_K D CL (TY cB cI cJ cZ cN cF) U ∧ NN U ∧ va_D (fun _ => True) [(h0, .inr (11, MO ma sv_thrown sv_length sv_nodes sv_many sv_directories sv_runsFrom sv_runs sv_read sv_wrong sv_isNamed sv_goes sv_goesSize sv_goesAt sv_targetParts sv_isRoot)), ((ma 1), .inl (cI, 40, .inl fK)), ((ma 8), .inl (cB, 1200, .inl fN)), ((ma 9), .inl (cI, 40, .inl fNS)), ((ma 12), .inl (cB, 320, .inl fBa)), ((ma 13), .inl (cI, 40, .inl fBs)), ((ma 14), .inl (cB, 120, .inl fEx)), ((ma 15), .inl (cI, 40, .inl fEs))])) (va_Qi (fun (r : Int32) (u : Unit) => (r.toInt % 256 = (idL dt nf x.toInt y.toInt z.toNatClampNeg).getD w.toNatClampNeg 0)) (fun (u : Unit) (t : State) => match u with | () => va_P D CL [(h0, .inr (11, MO ma sv_thrown sv_length sv_nodes sv_many sv_directories sv_runsFrom sv_runs sv_read sv_wrong sv_isNamed sv_goes sv_goesSize sv_goesAt sv_targetParts sv_isRoot)), ((ma 1), .inl (cI, 40, .inl fK)), ((ma 8), .inl (cB, 1200, .inl fN)), ((ma 9), .inl (cI, 40, .inl fNS)), ((ma 12), .inl (cB, 320, .inl fBa)), ((ma 13), .inl (cI, 40, .inl fBs)), ((ma 14), .inl (cB, 120, .inl fEx)), ((ma 15), .inl (cI, 40, .inl fEs))] t.heap ∧ va_D (va_A [(h0, .inr (11, MO ma sv_thrown sv_length sv_nodes sv_many sv_directories sv_runsFrom sv_runs sv_read sv_wrong sv_isNamed sv_goes sv_goesSize sv_goesAt sv_targetParts sv_isRoot)), ((ma 1), .inl (cI, 40, .inl fK)), ((ma 8), .inl (cB, 1200, .inl fN)), ((ma 9), .inl (cI, 40, .inl fNS)), ((ma 12), .inl (cB, 320, .inl fBa)), ((ma 13), .inl (cI, 40, .inl fBs)), ((ma 14), .inl (cB, 120, .inl fEx)), ((ma 15), .inl (cI, 40, .inl fEs))] sz) [(h0, .inr (11, MO ma sv_thrown sv_length sv_nodes sv_many sv_directories sv_runsFrom sv_runs sv_read sv_wrong sv_isNamed sv_goes sv_goesSize sv_goesAt sv_targetParts sv_isRoot)), ((ma 1), .inl (cI, 40, .inl fK)), ((ma 8), .inl (cB, 1200, .inl fN)), ((ma 9), .inl (cI, 40, .inl fNS)), ((ma 12), .inl (cB, 320, .inl fBa)), ((ma 13), .inl (cI, 40, .inl fBs)), ((ma 14), .inl (cB, 120, .inl fEx)), ((ma 15), .inl (cI, 40, .inl fEs))]) (va_A [(h0, .inr (11, MO ma sv_thrown sv_length sv_nodes sv_many sv_directories sv_runsFrom sv_runs sv_read sv_wrong sv_isNamed sv_goes sv_goesSize sv_goesAt sv_targetParts sv_isRoot)), ((ma 1), .inl (cI, 40, .inl fK)), ((ma 8), .inl (cB, 1200, .inl fN)), ((ma 9), .inl (cI, 40, .inl fNS)), ((ma 12), .inl (cB, 320, .inl fBa)), ((ma 13), .inl (cI, 40, .inl fBs)), ((ma 14), .inl (cB, 120, .inl fEx)), ((ma 15), .inl (cI, 40, .inl fEs))] sz)) 0 0 (va_A [(h0, .inr (11, MO ma sv_thrown sv_length sv_nodes sv_many sv_directories sv_runsFrom sv_runs sv_read sv_wrong sv_isNamed sv_goes sv_goesSize sv_goesAt sv_targetParts sv_isRoot)), ((ma 1), .inl (cI, 40, .inl fK)), ((ma 8), .inl (cB, 1200, .inl fN)), ((ma 9), .inl (cI, 40, .inl fNS)), ((ma 12), .inl (cB, 320, .inl fBa)), ((ma 13), .inl (cI, 40, .inl fBs)), ((ma 14), .inl (cB, 120, .inl fEx)), ((ma 15), .inl (cI, 40, .inl fEs))] sz) := by
  refine Met.ofW (cc := b_DiscMakerModel_idByte) (maxL := 6) (ret := some .int) (by decide) rfl ?_
  intro p e s m args below meth c s₁ B hml hv
  obtain ⟨rfl, hsz, hP, hK, hN, hD0⟩ := hv
  have hx := B.exec
  have hb := B.bytes
  have hr := B.returns
  have hts := atoms_spec (ws := w_DiscMakerModel_idByte) B.pre
  have ht9 := fun (w : Cond) (h : w ∈ lw_g) => hts w (List.mem_cons_of_mem _ h)
  have hown : s.vm.findClass "DiscMakerModel" = some m.cls := findClass_of_methodNamed B.named
  have hlocks := B.notSynchronized
  subst hsz
  have hD := hD0.self (sz := s.heap.size)
  generalize hAe : va_A [(h0, .inr (11, MO ma sv_thrown sv_length sv_nodes sv_many sv_directories sv_runsFrom sv_runs sv_read sv_wrong sv_isNamed sv_goes sv_goesSize sv_goesAt sv_targetParts sv_isRoot)), ((ma 1), .inl (cI, 40, .inl fK)), ((ma 8), .inl (cB, 1200, .inl fN)), ((ma 9), .inl (cI, 40, .inl fNS)), ((ma 12), .inl (cB, 320, .inl fBa)), ((ma 13), .inl (cI, 40, .inl fBs)), ((ma 14), .inl (cB, 120, .inl fEx)), ((ma 15), .inl (cI, 40, .inl fEs))] s.heap.size = A at hD ⊢
  have hA : ∀ q : Nat, s.heap.size ≤ q → A q := fun q h => by rw [← hAe]; exact Or.inr h
  have hS : va_S A s.heap s.heap [] := va_S.rf
  have hP : va_P D CL [(h0, .inr (11, MO ma sv_thrown sv_length sv_nodes sv_many sv_directories sv_runsFrom sv_runs sv_read sv_wrong sv_isNamed sv_goes sv_goesSize sv_goesAt sv_targetParts sv_isRoot)), ((ma 1), .inl (cI, 40, .inl fK)), ((ma 8), .inl (cB, 1200, .inl fN)), ((ma 9), .inl (cI, 40, .inl fNS)), ((ma 12), .inl (cB, 320, .inl fBa)), ((ma 13), .inl (cI, 40, .inl fBs)), ((ma 14), .inl (cB, 120, .inl fEx)), ((ma 15), .inl (cI, 40, .inl fEs))] s.heap := hP
  have hl := lv_entry [.ref h0, .int x, .int y, .int z, .int w] (n := 6) (Nat.le_of_ble_eq_true rfl)
  rw [lg_entry_eq]
  generalize (lg_sl [.ref h0, .int x, .int y, .int z, .int w] ++ List.replicate (6 - (lg_sl [.ref h0, .int x, .int y, .int z, .int w]).length) Slot.unset).toArray = ls at hl ⊢
  have hl : lv_has ls 6 [(0, .ref h0), (1, .int x), (2, .int y), (3, .int z), (4, .int w)] := hl
  have L_m1 : ((-1) : Int32).toInt = (-1) := by decide
  have L_0 : (0 : Int32).toInt = 0 := by decide
  have L_1 : (1 : Int32).toInt = 1 := by decide
  have L_2 : (2 : Int32).toInt = 2 := by decide
  have L_3 : (3 : Int32).toInt = 3 := by decide
  have L_8 : (8 : Int32).toInt = 8 := by decide
  have L_46 : (46 : Int32).toInt = 46 := by decide
  have L_49 : (49 : Int32).toInt = 49 := by decide
  have L_59 : (59 : Int32).toInt = 59 := by decide
  have hwc1 := i_cl (a := w) (by omega)
  have hzc1 := i_cl (a := z) (by omega)
  have hbz1 := hBs z.toNatClampNeg (by omega)
  have hez1 := hEs z.toNatClampNeg (by omega)
  refine lv_iload_n hx hb d_DiscMakerModel_idByte_0 rfl (lv_at hl 2 rfl) ?_
  refine lv_iconst (v := 2) hx hb d_DiscMakerModel_idByte_1 (by decide) ?_
  refine lv_icmp_ge (tgt := 7) hx hb d_DiscMakerModel_idByte_2 (by decide) (fun h_9 => ?_) (fun h_9 => ?_)
  · skip
    have g2_3 : 2 ≤ y.toInt := (i_le (by decide) rfl).mp h_9
    refine lv_iload_n hx hb d_DiscMakerModel_idByte_7 rfl (lv_at hl 1 rfl) ?_
    refine lv_iconst (v := 1) hx hb d_DiscMakerModel_idByte_8 (by decide) ?_
    refine lv_icmp_ne (tgt := 33) hx hb d_DiscMakerModel_idByte_9 (by decide) (fun h_9 => ?_) (fun h_9 => ?_)
    · skip
      have g9_6 : ¬ x.toInt = 1 := fun h8 => h_9 ((i_eq rfl (by decide)).mpr h8)
      refine lv_aload_n hx hb d_DiscMakerModel_idByte_33 rfl (lv_at hl 0 rfl) ?_
      refine va_get (D := D) (ci := 11) (v := .ref (ma 13)) (C := "DiscMakerModel") (T := F_DiscMakerModel) (N := 48) hx hb ht9 in_DiscMakerModel hown hK hP 0 rfl rfl 16 (by decide) (ht9 _ k1447) (fun _ h9 => h9) rfl d_DiscMakerModel_idByte_34 ?_
      refine lv_iload_n hx hb d_DiscMakerModel_idByte_37 rfl (lv_at hl 3 rfl) ?_
      refine va_iald hx hb hK hP 5 1 rfl rfl (vp_in_iff.mpr ⟨by omega, by omega⟩) d_DiscMakerModel_idByte_38 ?_
      refine lv_topi (fun v1 e_v1 => ?_)
      have t_v1 : 0 ≤ v1.toInt ∧ v1.toInt ≤ 8 := by
        rw [e_v1]; exact hBs _ (by have := i_cl (a := z) (by omega); omega)
      refine lv_istore hx hb d_DiscMakerModel_idByte_39 hl (by decide) rfl (fun ls hl => ?_)
      have hl : lv_has ls 6 [(5, .int v1), (0, .ref h0), (1, .int x), (2, .int y), (3, .int z), (4, .int w)] := hl
      refine lv_iload hx hb d_DiscMakerModel_idByte_41 (lv_at hl 5 rfl) ?_
      refine lv_iload hx hb d_DiscMakerModel_idByte_43 (lv_at hl 0 rfl) ?_
      refine lv_icmp_ge (tgt := 61) hx hb d_DiscMakerModel_idByte_45 (by decide) (fun h_9 => ?_) (fun h_9 => ?_)
      · skip
        have g45_14 : v1.toInt ≤ w.toInt := (i_le rfl rfl).mp h_9
        refine lv_iload hx hb d_DiscMakerModel_idByte_61 (lv_at hl 5 rfl) ?_
        refine lv_iload hx hb d_DiscMakerModel_idByte_63 (lv_at hl 0 rfl) ?_
        refine lv_icmp_ne (tgt := 71) hx hb d_DiscMakerModel_idByte_65 (by decide) (fun h_9 => ?_) (fun h_9 => ?_)
        · skip
          have g65_17 : ¬ w.toInt = v1.toInt := fun h8 => h_9 ((i_eq rfl rfl).mpr h8)
          refine lv_iload hx hb d_DiscMakerModel_idByte_71 (lv_at hl 5 rfl) ?_
          refine lv_iload hx hb d_DiscMakerModel_idByte_73 (lv_at hl 0 rfl) ?_
          refine lv_aload_n hx hb d_DiscMakerModel_idByte_75 rfl (lv_at hl 1 rfl) ?_
          refine va_get (D := D) (ci := 11) (v := .ref (ma 15)) (C := "DiscMakerModel") (T := F_DiscMakerModel) (N := 48) hx hb ht9 in_DiscMakerModel hown hK hP 0 rfl rfl 18 (by decide) (ht9 _ k1449) (fun _ h9 => h9) rfl d_DiscMakerModel_idByte_76 ?_
          refine lv_iload_n hx hb d_DiscMakerModel_idByte_79 rfl (lv_at hl 4 rfl) ?_
          refine va_iald hx hb hK hP 7 1 rfl rfl (vp_in_iff.mpr ⟨by omega, by omega⟩) d_DiscMakerModel_idByte_80 ?_
          refine lv_topi (fun v2 e_v2 => ?_)
          have t_v2 : 0 ≤ v2.toInt ∧ v2.toInt ≤ 3 := by
            rw [e_v2]; exact hEs _ (by have := i_cl (a := z) (by omega); omega)
          refine lv_iadd hx hb d_DiscMakerModel_idByte_81 ?_
          refine lv_topi (fun v3 e_v3 => ?_)
          have t_v3 : v3.toInt = v1.toInt + v2.toInt := by rw [e_v3]; exact i_add rfl rfl (by omega) (by omega)
          refine lv_icmp_gt (tgt := 102) hx hb d_DiscMakerModel_idByte_82 (by decide) (fun h_9 => ?_) (fun h_9 => ?_)
          · skip
            have g82_25 : v3.toInt < w.toInt := (i_lt rfl rfl).mp h_9
            refine lv_iload hx hb d_DiscMakerModel_idByte_102 (lv_at hl 5 rfl) ?_
            refine lv_iload hx hb d_DiscMakerModel_idByte_104 (lv_at hl 0 rfl) ?_
            refine lv_aload_n hx hb d_DiscMakerModel_idByte_106 rfl (lv_at hl 1 rfl) ?_
            refine va_get (D := D) (ci := 11) (v := .ref (ma 15)) (C := "DiscMakerModel") (T := F_DiscMakerModel) (N := 48) hx hb ht9 in_DiscMakerModel hown hK hP 0 rfl rfl 18 (by decide) (ht9 _ k1449) (fun _ h9 => h9) rfl d_DiscMakerModel_idByte_107 ?_
            refine lv_iload_n hx hb d_DiscMakerModel_idByte_110 rfl (lv_at hl 4 rfl) ?_
            refine va_iald hx hb hK hP 7 1 rfl rfl (vp_in_iff.mpr ⟨by omega, by omega⟩) d_DiscMakerModel_idByte_111 ?_
            refine lv_topi (fun v4 e_v4 => ?_)
            have t_v4 : 0 ≤ v4.toInt ∧ v4.toInt ≤ 3 := by
              rw [e_v4]; exact hEs _ (by have := i_cl (a := z) (by omega); omega)
            have q_v4 : v4.toInt = v2.toInt := by rw [e_v4, e_v2]
            refine lv_iadd hx hb d_DiscMakerModel_idByte_112 ?_
            refine lv_topi (fun v5 e_v5 => ?_)
            have t_v5 : v5.toInt = v1.toInt + v4.toInt := by rw [e_v5]; exact i_add rfl rfl (by omega) (by omega)
            refine lv_iconst (v := 1) hx hb d_DiscMakerModel_idByte_113 (by decide) ?_
            refine lv_iadd hx hb d_DiscMakerModel_idByte_114 ?_
            refine lv_topi (fun v6 e_v6 => ?_)
            have t_v6 : v6.toInt = v5.toInt + 1 := by rw [e_v6]; exact i_add rfl (by decide) (by omega) (by omega)
            refine lv_icmp_ne (tgt := 123) hx hb d_DiscMakerModel_idByte_115 (by decide) (fun h_9 => ?_) (fun h_9 => ?_)
            · skip
              have g115_35 : ¬ w.toInt = v6.toInt := fun h8 => h_9 ((i_eq rfl rfl).mpr h8)
              refine lv_bipush (v := 49) hx hb d_DiscMakerModel_idByte_123 (by decide) ?_
              have hP9 := hP.sub (ws' := [(h0, .inr (11, MO ma sv_thrown sv_length sv_nodes sv_many sv_directories sv_runsFrom sv_runs sv_read sv_wrong sv_isNamed sv_goes sv_goesSize sv_goesAt sv_targetParts sv_isRoot)), ((ma 1), .inl (cI, 40, .inl fK)), ((ma 8), .inl (cB, 1200, .inl fN)), ((ma 9), .inl (cI, 40, .inl fNS)), ((ma 12), .inl (cB, 320, .inl fBa)), ((ma 13), .inl (cI, 40, .inl fBs)), ((ma 14), .inl (cB, 120, .inl fEx)), ((ma 15), .inl (cI, 40, .inl fEs))]) [0, 1, 2, 3, 4, 5, 6, 7] rfl
              have hD9 := hD.sub (ws' := [(h0, .inr (11, MO ma sv_thrown sv_length sv_nodes sv_many sv_directories sv_runsFrom sv_runs sv_read sv_wrong sv_isNamed sv_goes sv_goesSize sv_goesAt sv_targetParts sv_isRoot)), ((ma 1), .inl (cI, 40, .inl fK)), ((ma 8), .inl (cB, 1200, .inl fN)), ((ma 9), .inl (cI, 40, .inl fNS)), ((ma 12), .inl (cB, 320, .inl fBa)), ((ma 13), .inl (cI, 40, .inl fBs)), ((ma 14), .inl (cB, 120, .inl fEx)), ((ma 15), .inl (cI, 40, .inl fEs))]) [0, 1, 2, 3, 4, 5, 6, 7] (by decide +kernel) rfl
              have hzc := i_cl (a := z) (by omega)
              have hwc := i_cl (a := w) (by omega)
              have hbz := hBs z.toNatClampNeg (by omega)
              have hez := hEs z.toNatClampNeg (by omega)
              have hy2 : y.toInt = 2 := by omega
              have h29 := hl2 hy2
              have hi9 := idS_2 (dt := dt) (t := x.toInt) (so := y.toInt) (k := z.toNatClampNeg) (by omega) (by omega)
              have x_v1 : v1.toInt = (fBs z.toNatClampNeg).toInt := by rw [e_v1]
              have x_v2 : v2.toInt = (fEs z.toNatClampNeg).toInt := by rw [e_v2]
              have hd9 : dt 0 z.toNatClampNeg ≠ 0 := fun h7 => by have h6 := hi9.1 h7; omega
              have hi8 := hi9.2 hd9
              exact W.iret (v := 49) hx hb hr (fun t ht hW => ⟨⟨49, (), rfl, (by (try dsimp only); first | (rw [idL_59 (by omega) (by omega) (by omega) (by omega) hd9 (by omega)]; decide) | (rw [idL_49 (by omega) (by omega) (by omega) (by omega) hd9 (by omega)]; decide)), by rw [ht]; exact hP9, hD9⟩, hS.F ht⟩) hS.2.2 d_DiscMakerModel_idByte_125
            · skip
              have g115_35 : w.toInt = v6.toInt := (i_eq rfl rfl).mp h_9
              refine lv_bipush (v := 59) hx hb d_DiscMakerModel_idByte_118 (by decide) ?_
              refine lv_goto (tgt := 125) hx hb d_DiscMakerModel_idByte_120 (by decide) ?_
              have hP9 := hP.sub (ws' := [(h0, .inr (11, MO ma sv_thrown sv_length sv_nodes sv_many sv_directories sv_runsFrom sv_runs sv_read sv_wrong sv_isNamed sv_goes sv_goesSize sv_goesAt sv_targetParts sv_isRoot)), ((ma 1), .inl (cI, 40, .inl fK)), ((ma 8), .inl (cB, 1200, .inl fN)), ((ma 9), .inl (cI, 40, .inl fNS)), ((ma 12), .inl (cB, 320, .inl fBa)), ((ma 13), .inl (cI, 40, .inl fBs)), ((ma 14), .inl (cB, 120, .inl fEx)), ((ma 15), .inl (cI, 40, .inl fEs))]) [0, 1, 2, 3, 4, 5, 6, 7] rfl
              have hD9 := hD.sub (ws' := [(h0, .inr (11, MO ma sv_thrown sv_length sv_nodes sv_many sv_directories sv_runsFrom sv_runs sv_read sv_wrong sv_isNamed sv_goes sv_goesSize sv_goesAt sv_targetParts sv_isRoot)), ((ma 1), .inl (cI, 40, .inl fK)), ((ma 8), .inl (cB, 1200, .inl fN)), ((ma 9), .inl (cI, 40, .inl fNS)), ((ma 12), .inl (cB, 320, .inl fBa)), ((ma 13), .inl (cI, 40, .inl fBs)), ((ma 14), .inl (cB, 120, .inl fEx)), ((ma 15), .inl (cI, 40, .inl fEs))]) [0, 1, 2, 3, 4, 5, 6, 7] (by decide +kernel) rfl
              have hzc := i_cl (a := z) (by omega)
              have hwc := i_cl (a := w) (by omega)
              have hbz := hBs z.toNatClampNeg (by omega)
              have hez := hEs z.toNatClampNeg (by omega)
              have hy2 : y.toInt = 2 := by omega
              have h29 := hl2 hy2
              have hi9 := idS_2 (dt := dt) (t := x.toInt) (so := y.toInt) (k := z.toNatClampNeg) (by omega) (by omega)
              have x_v1 : v1.toInt = (fBs z.toNatClampNeg).toInt := by rw [e_v1]
              have x_v2 : v2.toInt = (fEs z.toNatClampNeg).toInt := by rw [e_v2]
              have hd9 : dt 0 z.toNatClampNeg ≠ 0 := fun h7 => by have h6 := hi9.1 h7; omega
              have hi8 := hi9.2 hd9
              exact W.iret (v := 59) hx hb hr (fun t ht hW => ⟨⟨59, (), rfl, (by (try dsimp only); first | (rw [idL_59 (by omega) (by omega) (by omega) (by omega) hd9 (by omega)]; decide) | (rw [idL_49 (by omega) (by omega) (by omega) (by omega) hd9 (by omega)]; decide)), by rw [ht]; exact hP9, hD9⟩, hS.F ht⟩) hS.2.2 d_DiscMakerModel_idByte_125
          · skip
            have g82_25 : ¬ v3.toInt < w.toInt := fun h8 => h_9 ((i_lt rfl rfl).mpr h8)
            refine lv_aload_n hx hb d_DiscMakerModel_idByte_85 rfl (lv_at hl 1 rfl) ?_
            refine va_get (D := D) (ci := 11) (v := .ref (ma 14)) (C := "DiscMakerModel") (T := F_DiscMakerModel) (N := 48) hx hb ht9 in_DiscMakerModel hown hK hP 0 rfl rfl 17 (by decide) (ht9 _ k1448) (fun _ h9 => h9) rfl d_DiscMakerModel_idByte_86 ?_
            refine lv_iconst (v := 3) hx hb d_DiscMakerModel_idByte_89 (by decide) ?_
            refine lv_iload_n hx hb d_DiscMakerModel_idByte_90 rfl (lv_at hl 4 rfl) ?_
            refine lv_imul hx hb d_DiscMakerModel_idByte_91 ?_
            refine lv_topi (fun v7 e_v7 => ?_)
            have t_v7 : v7.toInt = 3 * z.toInt := by rw [e_v7]; exact i_mul (by decide) rfl (by omega) (by omega)
            refine lv_iload hx hb d_DiscMakerModel_idByte_92 (lv_at hl 5 rfl) ?_
            refine lv_iadd hx hb d_DiscMakerModel_idByte_94 ?_
            refine lv_topi (fun v8 e_v8 => ?_)
            have t_v8 : v8.toInt = v7.toInt + w.toInt := by rw [e_v8]; exact i_add rfl rfl (by omega) (by omega)
            refine lv_iload hx hb d_DiscMakerModel_idByte_95 (lv_at hl 0 rfl) ?_
            refine lv_isub hx hb d_DiscMakerModel_idByte_97 ?_
            refine lv_topi (fun v9 e_v9 => ?_)
            have t_v9 : v9.toInt = v8.toInt - v1.toInt := by rw [e_v9]; exact i_sub rfl rfl (by omega) (by omega)
            refine lv_iconst (v := 1) hx hb d_DiscMakerModel_idByte_98 (by decide) ?_
            refine lv_isub hx hb d_DiscMakerModel_idByte_99 ?_
            refine lv_topi (fun v10 e_v10 => ?_)
            have t_v10 : v10.toInt = v9.toInt - 1 := by rw [e_v10]; exact i_sub rfl (by decide) (by omega) (by omega)
            have xm_v1 : v1.toInt = (fBs z.toNatClampNeg).toInt := by rw [e_v1]
            have xm_v2 : v2.toInt = (fEs z.toNatClampNeg).toInt := by rw [e_v2]
            refine va_bald hx hb hK hP 6 0 rfl rfl (vp_in_iff.mpr ⟨by omega, by omega⟩) d_DiscMakerModel_idByte_100 ?_
            refine lv_topi (fun v11 e_v11 => ?_)
            have c_v11 := i_cl (a := v10) (by omega)
            have e2_v11 : v11 = fEx (3 * z.toNatClampNeg + (w.toNatClampNeg - (fBs z.toNatClampNeg).toInt.toNat - 1)) := by rw [e_v11, show v10.toNatClampNeg = 3 * z.toNatClampNeg + (w.toNatClampNeg - (fBs z.toNatClampNeg).toInt.toNat - 1) by omega]
            have hP9 := hP.sub (ws' := [(h0, .inr (11, MO ma sv_thrown sv_length sv_nodes sv_many sv_directories sv_runsFrom sv_runs sv_read sv_wrong sv_isNamed sv_goes sv_goesSize sv_goesAt sv_targetParts sv_isRoot)), ((ma 1), .inl (cI, 40, .inl fK)), ((ma 8), .inl (cB, 1200, .inl fN)), ((ma 9), .inl (cI, 40, .inl fNS)), ((ma 12), .inl (cB, 320, .inl fBa)), ((ma 13), .inl (cI, 40, .inl fBs)), ((ma 14), .inl (cB, 120, .inl fEx)), ((ma 15), .inl (cI, 40, .inl fEs))]) [0, 1, 2, 3, 4, 5, 6, 7] rfl
            have hD9 := hD.sub (ws' := [(h0, .inr (11, MO ma sv_thrown sv_length sv_nodes sv_many sv_directories sv_runsFrom sv_runs sv_read sv_wrong sv_isNamed sv_goes sv_goesSize sv_goesAt sv_targetParts sv_isRoot)), ((ma 1), .inl (cI, 40, .inl fK)), ((ma 8), .inl (cB, 1200, .inl fN)), ((ma 9), .inl (cI, 40, .inl fNS)), ((ma 12), .inl (cB, 320, .inl fBa)), ((ma 13), .inl (cI, 40, .inl fBs)), ((ma 14), .inl (cB, 120, .inl fEx)), ((ma 15), .inl (cI, 40, .inl fEs))]) [0, 1, 2, 3, 4, 5, 6, 7] (by decide +kernel) rfl
            have hzc := i_cl (a := z) (by omega)
            have hwc := i_cl (a := w) (by omega)
            have hbz := hBs z.toNatClampNeg (by omega)
            have hez := hEs z.toNatClampNeg (by omega)
            have hy2 : y.toInt = 2 := by omega
            have h29 := hl2 hy2
            have hi9 := idS_2 (dt := dt) (t := x.toInt) (so := y.toInt) (k := z.toNatClampNeg) (by omega) (by omega)
            have x_v1 : v1.toInt = (fBs z.toNatClampNeg).toInt := by rw [e_v1]
            have x_v2 : v2.toInt = (fEs z.toNatClampNeg).toInt := by rw [e_v2]
            have hd9 : dt 0 z.toNatClampNeg ≠ 0 := fun h7 => by have h6 := hi9.1 h7; omega
            have hi8 := hi9.2 hd9
            have hk9 := hlK hy2 (8 + (w.toNatClampNeg - (fBs z.toNatClampNeg).toInt.toNat - 1)) (by omega)
            rw [kyF_ex] at hk9
            unfold exF at hk9
            rw [if_pos (by omega), ← e2_v11] at hk9
            exact W.iret (v := v11) hx hb hr (fun t ht hW => ⟨⟨v11, (), rfl, (by (try dsimp only); rw [hk9, idL_e (j := w.toNatClampNeg - (fBs z.toNatClampNeg).toInt.toNat - 1) (by omega) (by omega) (by omega) (by omega) hd9 (by omega) (by omega)]), by rw [ht]; exact hP9, hD9⟩, hS.F ht⟩) hS.2.2 d_DiscMakerModel_idByte_101
        · skip
          have g65_17 : w.toInt = v1.toInt := (i_eq rfl rfl).mp h_9
          refine lv_bipush (v := 46) hx hb d_DiscMakerModel_idByte_68 (by decide) ?_
          have hP9 := hP.sub (ws' := [(h0, .inr (11, MO ma sv_thrown sv_length sv_nodes sv_many sv_directories sv_runsFrom sv_runs sv_read sv_wrong sv_isNamed sv_goes sv_goesSize sv_goesAt sv_targetParts sv_isRoot)), ((ma 1), .inl (cI, 40, .inl fK)), ((ma 8), .inl (cB, 1200, .inl fN)), ((ma 9), .inl (cI, 40, .inl fNS)), ((ma 12), .inl (cB, 320, .inl fBa)), ((ma 13), .inl (cI, 40, .inl fBs)), ((ma 14), .inl (cB, 120, .inl fEx)), ((ma 15), .inl (cI, 40, .inl fEs))]) [0, 1, 2, 3, 4, 5, 6, 7] rfl
          have hD9 := hD.sub (ws' := [(h0, .inr (11, MO ma sv_thrown sv_length sv_nodes sv_many sv_directories sv_runsFrom sv_runs sv_read sv_wrong sv_isNamed sv_goes sv_goesSize sv_goesAt sv_targetParts sv_isRoot)), ((ma 1), .inl (cI, 40, .inl fK)), ((ma 8), .inl (cB, 1200, .inl fN)), ((ma 9), .inl (cI, 40, .inl fNS)), ((ma 12), .inl (cB, 320, .inl fBa)), ((ma 13), .inl (cI, 40, .inl fBs)), ((ma 14), .inl (cB, 120, .inl fEx)), ((ma 15), .inl (cI, 40, .inl fEs))]) [0, 1, 2, 3, 4, 5, 6, 7] (by decide +kernel) rfl
          have hzc := i_cl (a := z) (by omega)
          have hwc := i_cl (a := w) (by omega)
          have hbz := hBs z.toNatClampNeg (by omega)
          have hez := hEs z.toNatClampNeg (by omega)
          have hy2 : y.toInt = 2 := by omega
          have h29 := hl2 hy2
          have hi9 := idS_2 (dt := dt) (t := x.toInt) (so := y.toInt) (k := z.toNatClampNeg) (by omega) (by omega)
          have x_v1 : v1.toInt = (fBs z.toNatClampNeg).toInt := by rw [e_v1]
          have hd9 : dt 0 z.toNatClampNeg ≠ 0 := fun h7 => by have h6 := hi9.1 h7; omega
          have hi8 := hi9.2 hd9
          exact W.iret (v := 46) hx hb hr (fun t ht hW => ⟨⟨46, (), rfl, (by (try dsimp only); rw [idL_dot (by omega) (by omega) (by omega) (by omega) hd9 (by omega)]; decide), by rw [ht]; exact hP9, hD9⟩, hS.F ht⟩) hS.2.2 d_DiscMakerModel_idByte_70
      · skip
        have g45_14 : ¬ v1.toInt ≤ w.toInt := fun h8 => h_9 ((i_le rfl rfl).mpr h8)
        refine lv_aload_n hx hb d_DiscMakerModel_idByte_48 rfl (lv_at hl 1 rfl) ?_
        refine va_get (D := D) (ci := 11) (v := .ref (ma 12)) (C := "DiscMakerModel") (T := F_DiscMakerModel) (N := 48) hx hb ht9 in_DiscMakerModel hown hK hP 0 rfl rfl 15 (by decide) (ht9 _ k1446) (fun _ h9 => h9) rfl d_DiscMakerModel_idByte_49 ?_
        refine lv_bipush (v := 8) hx hb d_DiscMakerModel_idByte_52 (by decide) ?_
        refine lv_iload_n hx hb d_DiscMakerModel_idByte_54 rfl (lv_at hl 4 rfl) ?_
        refine lv_imul hx hb d_DiscMakerModel_idByte_55 ?_
        refine lv_topi (fun v12 e_v12 => ?_)
        have t_v12 : v12.toInt = 8 * z.toInt := by rw [e_v12]; exact i_mul (by decide) rfl (by omega) (by omega)
        refine lv_iload hx hb d_DiscMakerModel_idByte_56 (lv_at hl 5 rfl) ?_
        refine lv_iadd hx hb d_DiscMakerModel_idByte_58 ?_
        refine lv_topi (fun v13 e_v13 => ?_)
        have t_v13 : v13.toInt = v12.toInt + w.toInt := by rw [e_v13]; exact i_add rfl rfl (by omega) (by omega)
        refine va_bald hx hb hK hP 4 0 rfl rfl (vp_in_iff.mpr ⟨by omega, by omega⟩) d_DiscMakerModel_idByte_59 ?_
        refine lv_topi (fun v14 e_v14 => ?_)
        have c_v14 := i_cl (a := v13) (by omega)
        have e2_v14 : v14 = fBa (8 * z.toNatClampNeg + w.toNatClampNeg) := by rw [e_v14, show v13.toNatClampNeg = 8 * z.toNatClampNeg + w.toNatClampNeg by omega]
        have hP9 := hP.sub (ws' := [(h0, .inr (11, MO ma sv_thrown sv_length sv_nodes sv_many sv_directories sv_runsFrom sv_runs sv_read sv_wrong sv_isNamed sv_goes sv_goesSize sv_goesAt sv_targetParts sv_isRoot)), ((ma 1), .inl (cI, 40, .inl fK)), ((ma 8), .inl (cB, 1200, .inl fN)), ((ma 9), .inl (cI, 40, .inl fNS)), ((ma 12), .inl (cB, 320, .inl fBa)), ((ma 13), .inl (cI, 40, .inl fBs)), ((ma 14), .inl (cB, 120, .inl fEx)), ((ma 15), .inl (cI, 40, .inl fEs))]) [0, 1, 2, 3, 4, 5, 6, 7] rfl
        have hD9 := hD.sub (ws' := [(h0, .inr (11, MO ma sv_thrown sv_length sv_nodes sv_many sv_directories sv_runsFrom sv_runs sv_read sv_wrong sv_isNamed sv_goes sv_goesSize sv_goesAt sv_targetParts sv_isRoot)), ((ma 1), .inl (cI, 40, .inl fK)), ((ma 8), .inl (cB, 1200, .inl fN)), ((ma 9), .inl (cI, 40, .inl fNS)), ((ma 12), .inl (cB, 320, .inl fBa)), ((ma 13), .inl (cI, 40, .inl fBs)), ((ma 14), .inl (cB, 120, .inl fEx)), ((ma 15), .inl (cI, 40, .inl fEs))]) [0, 1, 2, 3, 4, 5, 6, 7] (by decide +kernel) rfl
        have hzc := i_cl (a := z) (by omega)
        have hwc := i_cl (a := w) (by omega)
        have hbz := hBs z.toNatClampNeg (by omega)
        have hez := hEs z.toNatClampNeg (by omega)
        have hy2 : y.toInt = 2 := by omega
        have h29 := hl2 hy2
        have hi9 := idS_2 (dt := dt) (t := x.toInt) (so := y.toInt) (k := z.toNatClampNeg) (by omega) (by omega)
        have x_v1 : v1.toInt = (fBs z.toNatClampNeg).toInt := by rw [e_v1]
        have hk9 := hlK hy2 w.toNatClampNeg (by omega)
        rw [kyF_le (by omega)] at hk9
        unfold leF at hk9
        rw [if_pos (by omega), ← e2_v14] at hk9
        exact W.iret (v := v14) hx hb hr (fun t ht hW => ⟨⟨v14, (), rfl, (by (try dsimp only); rw [hk9, idL_b (by omega) (by omega) (by omega) (by omega) (by omega)]), by rw [ht]; exact hP9, hD9⟩, hS.F ht⟩) hS.2.2 d_DiscMakerModel_idByte_60
    · skip
      have g9_6 : x.toInt = 1 := (i_eq rfl (by decide)).mp h_9
      refine lv_iload hx hb d_DiscMakerModel_idByte_12 (lv_at hl 4 rfl) ?_
      refine lv_iconst (v := 2) hx hb d_DiscMakerModel_idByte_14 (by decide) ?_
      refine lv_irem hx hb d_DiscMakerModel_idByte_15 (by decide) ?_
      refine lv_topi (fun v15 e_v15 => ?_)
      have t_v15 : v15.toInt = w.toInt % 2 := by rw [e_v15]; exact i_rem rfl (by decide) (by omega) (by omega)
      refine lv_if_ne (tgt := 23) hx hb d_DiscMakerModel_idByte_16 (by decide) (fun h_9 => ?_) (fun h_9 => ?_)
      · skip
        have g16_68 : ¬ v15.toInt = 0 := fun h8 => h_9 ((i_eq rfl (by decide)).mpr h8)
        refine lv_aload_n hx hb d_DiscMakerModel_idByte_23 rfl (lv_at hl 0 rfl) ?_
        refine lv_iload_n hx hb d_DiscMakerModel_idByte_24 rfl (lv_at hl 3 rfl) ?_
        refine lv_iload hx hb d_DiscMakerModel_idByte_25 (lv_at hl 4 rfl) ?_
        refine lv_iconst (v := 2) hx hb d_DiscMakerModel_idByte_27 (by decide) ?_
        refine lv_idiv hx hb d_DiscMakerModel_idByte_28 (by decide) ?_
        refine lv_topi (fun v16 e_v16 => ?_)
        have t_v16 : v16.toInt = w.toInt / 2 := by rw [e_v16]; exact i_div rfl (by decide) (by omega) (by omega)
        have hPc := hP.sub (ws' := [(h0, .inr (11, MO ma sv_thrown sv_length sv_nodes sv_many sv_directories sv_runsFrom sv_runs sv_read sv_wrong sv_isNamed sv_goes sv_goesSize sv_goesAt sv_targetParts sv_isRoot)), ((ma 8), .inl (cB, 1200, .inl fN)), ((ma 9), .inl (cI, 40, .inl fNS))]) [0, 2, 3] rfl
        have hDc := hD.sub (ws' := [(h0, .inr (11, MO ma sv_thrown sv_length sv_nodes sv_many sv_directories sv_runsFrom sv_runs sv_read sv_wrong sv_isNamed sv_goes sv_goesSize sv_goesAt sv_targetParts sv_isRoot)), ((ma 8), .inl (cB, 1200, .inl fN)), ((ma 9), .inl (cI, 40, .inl fNS))]) [0, 2, 3] (by decide +kernel) rfl
        have hFc := va_free (wc := [(h0, .inr (11, MO ma sv_thrown sv_length sv_nodes sv_many sv_directories sv_runsFrom sv_runs sv_read sv_wrong sv_isNamed sv_goes sv_goesSize sv_goesAt sv_targetParts sv_isRoot)), ((ma 8), .inl (cB, 1200, .inl fN)), ((ma 9), .inl (cI, 40, .inl fNS))]) hD hS hA [0, 2, 3] rfl
        have hkc : 0 ≤ 0 := by decide
        have hks : 0 ≤ 0 := by decide
        refine va_calli (va_runV (C := "DiscMakerModel") (As := [.int z, .int v16]) (rest := []) ⟨hx, hb, hml, hown, hts⟩ (m_nameOf l D cB cI cJ cZ cN cF s.heap.size h0 ma sv_thrown sv_length sv_nodes sv_many sv_directories sv_runsFrom sv_runs sv_read sv_wrong sv_isNamed sv_goes sv_goesSize sv_goesAt sv_targetParts sv_isRoot fN fNS z v16 (by (try dsimp only); first | assumption | omega | trivial) (by (try dsimp only); first | assumption | omega | trivial) (by (try dsimp only); first | assumption | omega | trivial)) (cwV 2 hts (lg_goodV k1616 k1618 k56 k125 kc_DiscMakerModel_nameOf) rfl rfl rfl (by decide +kernel) ⟨Nat.le_of_ble_eq_true rfl, Nat.le_of_ble_eq_true rfl⟩) ⟨fun a U g mk q => by obtain ⟨q0, q1, qP, qK, qN, qD⟩ := q; exact ⟨q0, q1, qP, va_K.moved (u := U) (U := U.calling g mk a) (Vm.Alike.refl U.vm) qK, qN.calling, qD⟩, va_recv hK hP (ci := 11) (q0 := 0) rfl rfl, fun U hU hW => ⟨rfl, by rw [hU], by rw [hU]; exact hPc, va_K.moved hW.alike hK, NN.warm hW hN, hDc.weaken (fun _ _ _ _ => trivial)⟩⟩ rfl rfl hl.1 rfl (lv_room (Nat.le_of_ble_eq_true rfl)) d_DiscMakerModel_idByte_29 ⟨hkc, hks⟩) hS (fun q _ h => hFc q h) hFc (fun r17 u t H1 locs ht hvm hp_r17 hB hz1 hk1 hS => ?_)
        obtain ⟨hP1, hD1⟩ := hB
        rw [ht] at hP1
        obtain ⟨hP, hD⟩ := va_join (wr := [((ma 1), .inl (cI, 40, .inl fK)), ((ma 12), .inl (cB, 320, .inl fBa)), ((ma 13), .inl (cI, 40, .inl fBs)), ((ma 14), .inl (cB, 120, .inl fEx)), ((ma 15), .inl (cI, 40, .inl fEs))]) (w1 := [(h0, .inr (11, MO ma sv_thrown sv_length sv_nodes sv_many sv_directories sv_runsFrom sv_runs sv_read sv_wrong sv_isNamed sv_goes sv_goesSize sv_goesAt sv_targetParts sv_isRoot)), ((ma 8), .inl (cB, 1200, .inl fN)), ((ma 9), .inl (cI, 40, .inl fNS))]) hP hD [0, 2, 3] [1, 4, 5, 6, 7] rfl rfl (by decide +kernel) (by decide +kernel) hk1 hFc hP1 hD1
        clear hPc hDc hFc hP1 hD1 hk1 hz1 hkc hks
        generalize H1 = H at hP hS ⊢
        have hP : va_P D CL [((ma 1), .inl (cI, 40, .inl fK)), ((ma 12), .inl (cB, 320, .inl fBa)), ((ma 13), .inl (cI, 40, .inl fBs)), ((ma 14), .inl (cB, 120, .inl fEx)), ((ma 15), .inl (cI, 40, .inl fEs)), (h0, .inr (11, MO ma sv_thrown sv_length sv_nodes sv_many sv_directories sv_runsFrom sv_runs sv_read sv_wrong sv_isNamed sv_goes sv_goesSize sv_goesAt sv_targetParts sv_isRoot)), ((ma 8), .inl (cB, 1200, .inl fN)), ((ma 9), .inl (cI, 40, .inl fNS))] H := hP
        have hD : va_D A [((ma 1), .inl (cI, 40, .inl fK)), ((ma 12), .inl (cB, 320, .inl fBa)), ((ma 13), .inl (cI, 40, .inl fBs)), ((ma 14), .inl (cB, 120, .inl fEx)), ((ma 15), .inl (cI, 40, .inl fEs)), (h0, .inr (11, MO ma sv_thrown sv_length sv_nodes sv_many sv_directories sv_runsFrom sv_runs sv_read sv_wrong sv_isNamed sv_goes sv_goesSize sv_goesAt sv_targetParts sv_isRoot)), ((ma 8), .inl (cB, 1200, .inl fN)), ((ma 9), .inl (cI, 40, .inl fNS))] := hD
        try dsimp only at hp_r17
        obtain ⟨hr_18, hv_19⟩ := hp_r17
        have hP9 := hP.sub (ws' := [(h0, .inr (11, MO ma sv_thrown sv_length sv_nodes sv_many sv_directories sv_runsFrom sv_runs sv_read sv_wrong sv_isNamed sv_goes sv_goesSize sv_goesAt sv_targetParts sv_isRoot)), ((ma 1), .inl (cI, 40, .inl fK)), ((ma 8), .inl (cB, 1200, .inl fN)), ((ma 9), .inl (cI, 40, .inl fNS)), ((ma 12), .inl (cB, 320, .inl fBa)), ((ma 13), .inl (cI, 40, .inl fBs)), ((ma 14), .inl (cB, 120, .inl fEx)), ((ma 15), .inl (cI, 40, .inl fEs))]) [5, 0, 6, 7, 1, 2, 3, 4] rfl
        have hD9 := hD.sub (ws' := [(h0, .inr (11, MO ma sv_thrown sv_length sv_nodes sv_many sv_directories sv_runsFrom sv_runs sv_read sv_wrong sv_isNamed sv_goes sv_goesSize sv_goesAt sv_targetParts sv_isRoot)), ((ma 1), .inl (cI, 40, .inl fK)), ((ma 8), .inl (cB, 1200, .inl fN)), ((ma 9), .inl (cI, 40, .inl fNS)), ((ma 12), .inl (cB, 320, .inl fBa)), ((ma 13), .inl (cI, 40, .inl fBs)), ((ma 14), .inl (cB, 120, .inl fEx)), ((ma 15), .inl (cI, 40, .inl fEs))]) [5, 0, 6, 7, 1, 2, 3, 4] (by decide +kernel) rfl
        have hzc := i_cl (a := z) (by omega)
        have hwc := i_cl (a := w) (by omega)
        have hbz := hBs z.toNatClampNeg (by omega)
        have hez := hEs z.toNatClampNeg (by omega)
        rw [idS_1 (by omega) (by omega)] at hw0
        have hm9 := hlN (w.toNatClampNeg / 2) (by omega)
        have hr9 := nmF_255 fN fNS z.toNatClampNeg (w.toNatClampNeg / 2)
        have hv9 := hv_19
        have hqc := i_cl (a := v16) (by omega)
        rw [show v16.toNatClampNeg = w.toNatClampNeg / 2 by omega, hm9] at hv9
        exact W.iret (v := r17) hx hb hr (fun t ht hW => ⟨⟨r17, (), rfl, (by (try dsimp only); (have h7 := idL_1o (dt := dt) (nf := nf) (t := x.toInt) (so := y.toInt) (k := z.toNatClampNeg) (i := w.toNatClampNeg / 2) (by omega) (by omega) (by omega)); rw [show 2 * (w.toNatClampNeg / 2) + 1 = w.toNatClampNeg by omega] at h7; rw [hv9, h7]), by rw [ht]; exact hP9, hD9⟩, hS.F ht⟩) hS.2.2 d_DiscMakerModel_idByte_32
      · skip
        have g16_68 : v15.toInt = 0 := (i_eq rfl (by decide)).mp h_9
        refine lv_iconst (v := 0) hx hb d_DiscMakerModel_idByte_19 (by decide) ?_
        refine lv_goto (tgt := 32) hx hb d_DiscMakerModel_idByte_20 (by decide) ?_
        have hP9 := hP.sub (ws' := [(h0, .inr (11, MO ma sv_thrown sv_length sv_nodes sv_many sv_directories sv_runsFrom sv_runs sv_read sv_wrong sv_isNamed sv_goes sv_goesSize sv_goesAt sv_targetParts sv_isRoot)), ((ma 1), .inl (cI, 40, .inl fK)), ((ma 8), .inl (cB, 1200, .inl fN)), ((ma 9), .inl (cI, 40, .inl fNS)), ((ma 12), .inl (cB, 320, .inl fBa)), ((ma 13), .inl (cI, 40, .inl fBs)), ((ma 14), .inl (cB, 120, .inl fEx)), ((ma 15), .inl (cI, 40, .inl fEs))]) [0, 1, 2, 3, 4, 5, 6, 7] rfl
        have hD9 := hD.sub (ws' := [(h0, .inr (11, MO ma sv_thrown sv_length sv_nodes sv_many sv_directories sv_runsFrom sv_runs sv_read sv_wrong sv_isNamed sv_goes sv_goesSize sv_goesAt sv_targetParts sv_isRoot)), ((ma 1), .inl (cI, 40, .inl fK)), ((ma 8), .inl (cB, 1200, .inl fN)), ((ma 9), .inl (cI, 40, .inl fNS)), ((ma 12), .inl (cB, 320, .inl fBa)), ((ma 13), .inl (cI, 40, .inl fBs)), ((ma 14), .inl (cB, 120, .inl fEx)), ((ma 15), .inl (cI, 40, .inl fEs))]) [0, 1, 2, 3, 4, 5, 6, 7] (by decide +kernel) rfl
        have hzc := i_cl (a := z) (by omega)
        have hwc := i_cl (a := w) (by omega)
        have hbz := hBs z.toNatClampNeg (by omega)
        have hez := hEs z.toNatClampNeg (by omega)
        rw [idS_1 (by omega) (by omega)] at hw0
        have hm9 := hlN (w.toNatClampNeg / 2) (by omega)
        have hr9 := nmF_255 fN fNS z.toNatClampNeg (w.toNatClampNeg / 2)
        exact W.iret (v := 0) hx hb hr (fun t ht hW => ⟨⟨0, (), rfl, (by (try dsimp only); rw [show w.toNatClampNeg = 2 * (w.toNatClampNeg / 2) by omega, idL_1e (by omega) (by omega) (by omega) (by omega)]; decide), by rw [ht]; exact hP9, hD9⟩, hS.F ht⟩) hS.2.2 d_DiscMakerModel_idByte_32
  · skip
    have g2_3 : ¬ 2 ≤ y.toInt := fun h8 => h_9 ((i_le (by decide) rfl).mpr h8)
    refine lv_iload_n hx hb d_DiscMakerModel_idByte_5 rfl (lv_at hl 2 rfl) ?_
    have hP9 := hP.sub (ws' := [(h0, .inr (11, MO ma sv_thrown sv_length sv_nodes sv_many sv_directories sv_runsFrom sv_runs sv_read sv_wrong sv_isNamed sv_goes sv_goesSize sv_goesAt sv_targetParts sv_isRoot)), ((ma 1), .inl (cI, 40, .inl fK)), ((ma 8), .inl (cB, 1200, .inl fN)), ((ma 9), .inl (cI, 40, .inl fNS)), ((ma 12), .inl (cB, 320, .inl fBa)), ((ma 13), .inl (cI, 40, .inl fBs)), ((ma 14), .inl (cB, 120, .inl fEx)), ((ma 15), .inl (cI, 40, .inl fEs))]) [0, 1, 2, 3, 4, 5, 6, 7] rfl
    have hD9 := hD.sub (ws' := [(h0, .inr (11, MO ma sv_thrown sv_length sv_nodes sv_many sv_directories sv_runsFrom sv_runs sv_read sv_wrong sv_isNamed sv_goes sv_goesSize sv_goesAt sv_targetParts sv_isRoot)), ((ma 1), .inl (cI, 40, .inl fK)), ((ma 8), .inl (cB, 1200, .inl fN)), ((ma 9), .inl (cI, 40, .inl fNS)), ((ma 12), .inl (cB, 320, .inl fBa)), ((ma 13), .inl (cI, 40, .inl fBs)), ((ma 14), .inl (cB, 120, .inl fEx)), ((ma 15), .inl (cI, 40, .inl fEs))]) [0, 1, 2, 3, 4, 5, 6, 7] (by decide +kernel) rfl
    have hzc := i_cl (a := z) (by omega)
    have hwc := i_cl (a := w) (by omega)
    have hbz := hBs z.toNatClampNeg (by omega)
    have hez := hEs z.toNatClampNeg (by omega)
    rw [idS_0 (by omega)] at hw0
    have hw00 : w.toNatClampNeg = 0 := by omega
    exact W.iret (v := y) hx hb hr (fun t ht hW => ⟨⟨y, (), rfl, (by (try dsimp only); rw [hw00, idL_0 (by omega)]; omega), by rw [ht]; exact hP9, hD9⟩, hS.F ht⟩) hS.2.2 d_DiscMakerModel_idByte_6

set_option maxHeartbeats 4000000 in
set_option maxRecDepth 100000 in
theorem m_layF (l : Launch) (D : va_G) (cB cI cJ cZ cN cF : ClassId) (sz : Nat) (h0 : Nat) (ma : Nat → Nat) (sv_thrown sv_length sv_nodes sv_many sv_directories sv_runsFrom sv_runs sv_read sv_wrong sv_isNamed sv_goes sv_goesSize sv_goesAt sv_targetParts sv_isRoot : Int32) (F : Nat → Int64) (fK : Nat → Int32) (fP : Nat → Int32) (fM : Nat → Int32) (fO : Nat → Int32) (fG : Nat → Int32) (fN : Nat → Int32) (fNS : Nat → Int32) (fT : Nat → Int32) (fTS : Nat → Int32) (fBa : Nat → Int32) (fBs : Nat → Int32) (fEx : Nat → Int32) (fEs : Nat → Int32) (dt : Nat → Nat → Int) (dx : Nat → Nat → Int) (nf : Nat → Nat → Nat → Int32) (hi9 : Int) (x : Int32) (y : Int32) (z : Int32) (w : Int32) (hn : 1 ≤ sv_nodes.toInt ∧ sv_nodes.toInt ≤ 40) (hz0 : 0 ≤ z.toInt ∧ z.toInt < 40) (hzn : z.toInt < sv_nodes.toInt) (hx0 : 0 ≤ x.toInt ∧ x.toInt ≤ 3) (hy02 : 0 ≤ y.toInt ∧ y.toInt ≤ 2) (hw0 : 0 ≤ w.toInt ∧ w.toInt + 1000 ≤ 368640) (hz9 : ZA (bF F) w.toInt hi9) (hfit : w.toInt + psF fK fNS fT fTS x.toInt y.toInt z.toNatClampNeg ≤ hi9) (hKi : Rg 0 2 40 fK) (hNS : Rg 0 30 40 fNS) (hTS : Rg 0 200 40 fTS) (hdp : ∀ k : Nat, 1 ≤ k → (k : Int) < sv_nodes.toInt → dt 5 k = (fP k).toInt ∧ dt 0 k = (fK k).toInt) (hl0 : dt 0 z.toNatClampNeg = (fK z.toNatClampNeg).toInt ∧ 0 ≤ (fK z.toNatClampNeg).toInt ∧ (fK z.toNatClampNeg).toInt ≤ 2) (hl1 : dt 1 z.toNatClampNeg = (fNS z.toNatClampNeg).toInt) (hl2 : y.toInt = 2 → dt 2 z.toNatClampNeg = (fBs z.toNatClampNeg).toInt ∧ dt 3 z.toNatClampNeg = (fEs z.toNatClampNeg).toInt) (hlN : ∀ j : Nat, (j : Int) < (fNS z.toNatClampNeg).toInt → nmF fN fNS z.toNatClampNeg j = (nf z.toNatClampNeg 1 j).toInt) (hlK : y.toInt = 2 → ∀ j : Nat, j < 11 → kyF fBa fBs fEx fEs z.toNatClampNeg j = (nf z.toNatClampNeg 2 j).toInt) (hl4 : (fK z.toNatClampNeg).toInt = 2 → dt 4 z.toNatClampNeg = compS (tgF fT z.toNatClampNeg) (fTS z.toNatClampNeg).toInt.toNat ∧ 1 ≤ (fTS z.toNatClampNeg).toInt) (hlT : ∀ j : Nat, (j : Int) < (fTS z.toNatClampNeg).toInt → tgF fT z.toNatClampNeg j = nf z.toNatClampNeg 3 j) (hlx : dx 0 z.toNatClampNeg = (fTS z.toNatClampNeg).toInt ∧ dx 1 z.toNatClampNeg = (mdW (fK z.toNatClampNeg) (fM z.toNatClampNeg)).toInt ∧ dx 2 z.toNatClampNeg = (if (fK z.toNatClampNeg).toInt = 0 then dnF (dt 5) (dt 0) z.toNatClampNeg sv_nodes.toInt.toNat + 2 else 1) ∧ dx 3 z.toNatClampNeg = (fO z.toNatClampNeg).toInt ∧ dx 4 z.toNatClampNeg = (fG z.toNatClampNeg).toInt) : Met l y_DiscMakerModel_lay w_DiscMakerModel_lay ({ frames := 3, cells := 0, slots := 0, locals := 76 }) (va_Pc [.ref h0, .int x, .int y, .int z, .int w] (fun U => U.heap.size = sz ∧ va_P D CL [(h0, .inr (11, MO ma sv_thrown sv_length sv_nodes sv_many sv_directories sv_runsFrom sv_runs sv_read sv_wrong sv_isNamed sv_goes sv_goesSize sv_goesAt sv_targetParts sv_isRoot)), ((ma 16), .inl (cJ, 46080, .inr (.inl F))), ((ma 1), .inl (cI, 40, .inl fK)), ((ma 2), .inl (cI, 40, .inl fP)), ((ma 3), .inl (cI, 40, .inl fM)), ((ma 4), .inl (cI, 40, .inl fO)), ((ma 5), .inl (cI, 40, .inl fG)), ((ma 8), .inl (cB, 1200, .inl fN)), ((ma 9), .inl (cI, 40, .inl fNS)), ((ma 10), .inl (cB, 8000, .inl fT)), ((ma 11), .inl (cI, 40, .inl fTS)), ((ma 12), .inl (cB, 320, .inl fBa)), ((ma 13), .inl (cI, 40, .inl fBs)), ((ma 14), .inl (cB, 120, .inl fEx)), ((ma 15), .inl (cI, 40, .inl fEs))] U.heap ∧ va_K D CL (TY cB cI cJ cZ cN cF) U ∧ NN U ∧ va_D (fun _ => True) [(h0, .inr (11, MO ma sv_thrown sv_length sv_nodes sv_many sv_directories sv_runsFrom sv_runs sv_read sv_wrong sv_isNamed sv_goes sv_goesSize sv_goesAt sv_targetParts sv_isRoot)), ((ma 16), .inl (cJ, 46080, .inr (.inl F))), ((ma 1), .inl (cI, 40, .inl fK)), ((ma 2), .inl (cI, 40, .inl fP)), ((ma 3), .inl (cI, 40, .inl fM)), ((ma 4), .inl (cI, 40, .inl fO)), ((ma 5), .inl (cI, 40, .inl fG)), ((ma 8), .inl (cB, 1200, .inl fN)), ((ma 9), .inl (cI, 40, .inl fNS)), ((ma 10), .inl (cB, 8000, .inl fT)), ((ma 11), .inl (cI, 40, .inl fTS)), ((ma 12), .inl (cB, 320, .inl fBa)), ((ma 13), .inl (cI, 40, .inl fBs)), ((ma 14), .inl (cB, 120, .inl fEx)), ((ma 15), .inl (cI, 40, .inl fEs))])) (va_Qi (fun (r : Int32) (u : (Nat → Int64)) => match u with | G => (r.toInt = psF fK fNS fT fTS x.toInt y.toInt z.toNatClampNeg) ∧ (0 ≤ r.toInt ∧ r.toInt ≤ 308) ∧ (Rn (bF F) (bF G) w.toInt (ptL dt dx nf x.toInt y.toInt z.toNatClampNeg) r.toInt hi9)) (fun (u : (Nat → Int64)) (t : State) => match u with | G => va_P D CL [(h0, .inr (11, MO ma sv_thrown sv_length sv_nodes sv_many sv_directories sv_runsFrom sv_runs sv_read sv_wrong sv_isNamed sv_goes sv_goesSize sv_goesAt sv_targetParts sv_isRoot)), ((ma 16), .inl (cJ, 46080, .inr (.inl G))), ((ma 1), .inl (cI, 40, .inl fK)), ((ma 2), .inl (cI, 40, .inl fP)), ((ma 3), .inl (cI, 40, .inl fM)), ((ma 4), .inl (cI, 40, .inl fO)), ((ma 5), .inl (cI, 40, .inl fG)), ((ma 8), .inl (cB, 1200, .inl fN)), ((ma 9), .inl (cI, 40, .inl fNS)), ((ma 10), .inl (cB, 8000, .inl fT)), ((ma 11), .inl (cI, 40, .inl fTS)), ((ma 12), .inl (cB, 320, .inl fBa)), ((ma 13), .inl (cI, 40, .inl fBs)), ((ma 14), .inl (cB, 120, .inl fEx)), ((ma 15), .inl (cI, 40, .inl fEs))] t.heap ∧ va_D (va_A [(h0, .inr (11, MO ma sv_thrown sv_length sv_nodes sv_many sv_directories sv_runsFrom sv_runs sv_read sv_wrong sv_isNamed sv_goes sv_goesSize sv_goesAt sv_targetParts sv_isRoot)), ((ma 16), .inl (cJ, 46080, .inr (.inl F))), ((ma 1), .inl (cI, 40, .inl fK)), ((ma 2), .inl (cI, 40, .inl fP)), ((ma 3), .inl (cI, 40, .inl fM)), ((ma 4), .inl (cI, 40, .inl fO)), ((ma 5), .inl (cI, 40, .inl fG)), ((ma 8), .inl (cB, 1200, .inl fN)), ((ma 9), .inl (cI, 40, .inl fNS)), ((ma 10), .inl (cB, 8000, .inl fT)), ((ma 11), .inl (cI, 40, .inl fTS)), ((ma 12), .inl (cB, 320, .inl fBa)), ((ma 13), .inl (cI, 40, .inl fBs)), ((ma 14), .inl (cB, 120, .inl fEx)), ((ma 15), .inl (cI, 40, .inl fEs))] sz) [(h0, .inr (11, MO ma sv_thrown sv_length sv_nodes sv_many sv_directories sv_runsFrom sv_runs sv_read sv_wrong sv_isNamed sv_goes sv_goesSize sv_goesAt sv_targetParts sv_isRoot)), ((ma 16), .inl (cJ, 46080, .inr (.inl G))), ((ma 1), .inl (cI, 40, .inl fK)), ((ma 2), .inl (cI, 40, .inl fP)), ((ma 3), .inl (cI, 40, .inl fM)), ((ma 4), .inl (cI, 40, .inl fO)), ((ma 5), .inl (cI, 40, .inl fG)), ((ma 8), .inl (cB, 1200, .inl fN)), ((ma 9), .inl (cI, 40, .inl fNS)), ((ma 10), .inl (cB, 8000, .inl fT)), ((ma 11), .inl (cI, 40, .inl fTS)), ((ma 12), .inl (cB, 320, .inl fBa)), ((ma 13), .inl (cI, 40, .inl fBs)), ((ma 14), .inl (cB, 120, .inl fEx)), ((ma 15), .inl (cI, 40, .inl fEs))]) (va_A [(h0, .inr (11, MO ma sv_thrown sv_length sv_nodes sv_many sv_directories sv_runsFrom sv_runs sv_read sv_wrong sv_isNamed sv_goes sv_goesSize sv_goesAt sv_targetParts sv_isRoot)), ((ma 16), .inl (cJ, 46080, .inr (.inl F))), ((ma 1), .inl (cI, 40, .inl fK)), ((ma 2), .inl (cI, 40, .inl fP)), ((ma 3), .inl (cI, 40, .inl fM)), ((ma 4), .inl (cI, 40, .inl fO)), ((ma 5), .inl (cI, 40, .inl fG)), ((ma 8), .inl (cB, 1200, .inl fN)), ((ma 9), .inl (cI, 40, .inl fNS)), ((ma 10), .inl (cB, 8000, .inl fT)), ((ma 11), .inl (cI, 40, .inl fTS)), ((ma 12), .inl (cB, 320, .inl fBa)), ((ma 13), .inl (cI, 40, .inl fBs)), ((ma 14), .inl (cB, 120, .inl fEx)), ((ma 15), .inl (cI, 40, .inl fEs))] sz)) 0 0 (va_A [(h0, .inr (11, MO ma sv_thrown sv_length sv_nodes sv_many sv_directories sv_runsFrom sv_runs sv_read sv_wrong sv_isNamed sv_goes sv_goesSize sv_goesAt sv_targetParts sv_isRoot)), ((ma 16), .inl (cJ, 46080, .inr (.inl F))), ((ma 1), .inl (cI, 40, .inl fK)), ((ma 2), .inl (cI, 40, .inl fP)), ((ma 3), .inl (cI, 40, .inl fM)), ((ma 4), .inl (cI, 40, .inl fO)), ((ma 5), .inl (cI, 40, .inl fG)), ((ma 8), .inl (cB, 1200, .inl fN)), ((ma 9), .inl (cI, 40, .inl fNS)), ((ma 10), .inl (cB, 8000, .inl fT)), ((ma 11), .inl (cI, 40, .inl fTS)), ((ma 12), .inl (cB, 320, .inl fBa)), ((ma 13), .inl (cI, 40, .inl fBs)), ((ma 14), .inl (cB, 120, .inl fEx)), ((ma 15), .inl (cI, 40, .inl fEs))] sz) := by
  refine Met.ofW (cc := b_DiscMakerModel_lay) (maxL := 7) (ret := some .int) (by decide) rfl ?_
  intro p e s m args below meth c s₁ B hml hv
  obtain ⟨rfl, hsz, hP, hK, hN, hD0⟩ := hv
  have hx := B.exec
  have hb := B.bytes
  have hr := B.returns
  have hts := atoms_spec (ws := w_DiscMakerModel_lay) B.pre
  have ht9 := fun (w : Cond) (h : w ∈ lw_g) => hts w (List.mem_cons_of_mem _ h)
  have hown : s.vm.findClass "DiscMakerModel" = some m.cls := findClass_of_methodNamed B.named
  have hlocks := B.notSynchronized
  subst hsz
  have hD := hD0.self (sz := s.heap.size)
  generalize hAe : va_A [(h0, .inr (11, MO ma sv_thrown sv_length sv_nodes sv_many sv_directories sv_runsFrom sv_runs sv_read sv_wrong sv_isNamed sv_goes sv_goesSize sv_goesAt sv_targetParts sv_isRoot)), ((ma 16), .inl (cJ, 46080, .inr (.inl F))), ((ma 1), .inl (cI, 40, .inl fK)), ((ma 2), .inl (cI, 40, .inl fP)), ((ma 3), .inl (cI, 40, .inl fM)), ((ma 4), .inl (cI, 40, .inl fO)), ((ma 5), .inl (cI, 40, .inl fG)), ((ma 8), .inl (cB, 1200, .inl fN)), ((ma 9), .inl (cI, 40, .inl fNS)), ((ma 10), .inl (cB, 8000, .inl fT)), ((ma 11), .inl (cI, 40, .inl fTS)), ((ma 12), .inl (cB, 320, .inl fBa)), ((ma 13), .inl (cI, 40, .inl fBs)), ((ma 14), .inl (cB, 120, .inl fEx)), ((ma 15), .inl (cI, 40, .inl fEs))] s.heap.size = A at hD ⊢
  have hA : ∀ q : Nat, s.heap.size ≤ q → A q := fun q h => by rw [← hAe]; exact Or.inr h
  have hS : va_S A s.heap s.heap [] := va_S.rf
  have hP : va_P D CL [(h0, .inr (11, MO ma sv_thrown sv_length sv_nodes sv_many sv_directories sv_runsFrom sv_runs sv_read sv_wrong sv_isNamed sv_goes sv_goesSize sv_goesAt sv_targetParts sv_isRoot)), ((ma 16), .inl (cJ, 46080, .inr (.inl F))), ((ma 1), .inl (cI, 40, .inl fK)), ((ma 2), .inl (cI, 40, .inl fP)), ((ma 3), .inl (cI, 40, .inl fM)), ((ma 4), .inl (cI, 40, .inl fO)), ((ma 5), .inl (cI, 40, .inl fG)), ((ma 8), .inl (cB, 1200, .inl fN)), ((ma 9), .inl (cI, 40, .inl fNS)), ((ma 10), .inl (cB, 8000, .inl fT)), ((ma 11), .inl (cI, 40, .inl fTS)), ((ma 12), .inl (cB, 320, .inl fBa)), ((ma 13), .inl (cI, 40, .inl fBs)), ((ma 14), .inl (cB, 120, .inl fEx)), ((ma 15), .inl (cI, 40, .inl fEs))] s.heap := hP
  have hl := lv_entry [.ref h0, .int x, .int y, .int z, .int w] (n := 7) (Nat.le_of_ble_eq_true rfl)
  rw [lg_entry_eq]
  generalize (lg_sl [.ref h0, .int x, .int y, .int z, .int w] ++ List.replicate (7 - (lg_sl [.ref h0, .int x, .int y, .int z, .int w]).length) Slot.unset).toArray = ls at hl ⊢
  have hl : lv_has ls 7 [(0, .ref h0), (1, .int x), (2, .int y), (3, .int z), (4, .int w)] := hl
  have L_m1 : ((-1) : Int32).toInt = (-1) := by decide
  have L_0 : (0 : Int32).toInt = 0 := by decide
  have L_1 : (1 : Int32).toInt = 1 := by decide
  have L_2 : (2 : Int32).toInt = 2 := by decide
  have L_4 : (4 : Int32).toInt = 4 := by decide
  have L_5 : (5 : Int32).toInt = 5 := by decide
  have L_7 : (7 : Int32).toInt = 7 := by decide
  have L_12 : (12 : Int32).toInt = 12 := by decide
  have L_20 : (20 : Int32).toInt = 20 := by decide
  have L_28 : (28 : Int32).toInt = 28 := by decide
  have L_36 : (36 : Int32).toInt = 36 := by decide
  have L_76 : (76 : Int32).toInt = 76 := by decide
  have L_77 : (77 : Int32).toInt = 77 := by decide
  have L_78 : (78 : Int32).toInt = 78 := by decide
  have L_80 : (80 : Int32).toInt = 80 := by decide
  have L_83 : (83 : Int32).toInt = 83 := by decide
  have L_88 : (88 : Int32).toInt = 88 := by decide
  have L_190 : (190 : Int32).toInt = 190 := by decide
  have L_239 : (239 : Int32).toInt = 239 := by decide
  have L_4096 : (4096 : Int32).toInt = 4096 := by decide
  have L_16384 : (16384 : Int32).toInt = 16384 := by decide
  have L_32768 : (32768 : Int32).toInt = 32768 := by decide
  have L_40960 : (40960 : Int32).toInt = 40960 := by decide
  refine lv_aload_n hx hb d_DiscMakerModel_lay_0 rfl (lv_at hl 0 rfl) ?_
  refine lv_iload_n hx hb d_DiscMakerModel_lay_1 rfl (lv_at hl 1 rfl) ?_
  refine lv_iload_n hx hb d_DiscMakerModel_lay_2 rfl (lv_at hl 2 rfl) ?_
  refine lv_iload_n hx hb d_DiscMakerModel_lay_3 rfl (lv_at hl 3 rfl) ?_
  have hPc := hP.sub (ws' := [(h0, .inr (11, MO ma sv_thrown sv_length sv_nodes sv_many sv_directories sv_runsFrom sv_runs sv_read sv_wrong sv_isNamed sv_goes sv_goesSize sv_goesAt sv_targetParts sv_isRoot)), ((ma 16), .inl (cJ, 46080, .inr (.inl F))), ((ma 1), .inl (cI, 40, .inl fK)), ((ma 9), .inl (cI, 40, .inl fNS)), ((ma 10), .inl (cB, 8000, .inl fT)), ((ma 11), .inl (cI, 40, .inl fTS))]) [0, 1, 2, 8, 9, 10] rfl
  have hDc := hD.sub (ws' := [(h0, .inr (11, MO ma sv_thrown sv_length sv_nodes sv_many sv_directories sv_runsFrom sv_runs sv_read sv_wrong sv_isNamed sv_goes sv_goesSize sv_goesAt sv_targetParts sv_isRoot)), ((ma 16), .inl (cJ, 46080, .inr (.inl F))), ((ma 1), .inl (cI, 40, .inl fK)), ((ma 9), .inl (cI, 40, .inl fNS)), ((ma 10), .inl (cB, 8000, .inl fT)), ((ma 11), .inl (cI, 40, .inl fTS))]) [0, 1, 2, 8, 9, 10] (by decide +kernel) rfl
  have hFc := va_free (wc := [(h0, .inr (11, MO ma sv_thrown sv_length sv_nodes sv_many sv_directories sv_runsFrom sv_runs sv_read sv_wrong sv_isNamed sv_goes sv_goesSize sv_goesAt sv_targetParts sv_isRoot)), ((ma 16), .inl (cJ, 46080, .inr (.inl F))), ((ma 1), .inl (cI, 40, .inl fK)), ((ma 9), .inl (cI, 40, .inl fNS)), ((ma 10), .inl (cB, 8000, .inl fT)), ((ma 11), .inl (cI, 40, .inl fTS))]) hD hS hA [0, 1, 2, 8, 9, 10] rfl
  have hkc : 0 ≤ 0 := by decide
  have hks : 0 ≤ 0 := by decide
  refine va_calli (va_runV (C := "DiscMakerModel") (As := [.int x, .int y, .int z]) (rest := []) ⟨hx, hb, hml, hown, hts⟩ (m_partSize l D cB cI cJ cZ cN cF s.heap.size h0 ma sv_thrown sv_length sv_nodes sv_many sv_directories sv_runsFrom sv_runs sv_read sv_wrong sv_isNamed sv_goes sv_goesSize sv_goesAt sv_targetParts sv_isRoot F fK fNS fT fTS x y z (by (try dsimp only); first | assumption | omega | trivial) (by (try dsimp only); first | assumption | omega | trivial) (by (try dsimp only); first | assumption | omega | trivial) (by (try dsimp only); first | assumption | omega | trivial) (by (try dsimp only); first | assumption | omega | trivial)) (cwV 3 hts (lg_goodV k1715 k1717 k76 k125 kc_DiscMakerModel_partSize) rfl rfl rfl (by decide +kernel) ⟨Nat.le_of_ble_eq_true rfl, Nat.le_of_ble_eq_true rfl⟩) ⟨fun a U g mk q => by obtain ⟨q0, q1, qP, qK, qN, qD⟩ := q; exact ⟨q0, q1, qP, va_K.moved (u := U) (U := U.calling g mk a) (Vm.Alike.refl U.vm) qK, qN.calling, qD⟩, va_recv hK hP (ci := 11) (q0 := 0) rfl rfl, fun U hU hW => ⟨rfl, by rw [hU], by rw [hU]; exact hPc, va_K.moved hW.alike hK, NN.warm hW hN, hDc.weaken (fun _ _ _ _ => trivial)⟩⟩ rfl rfl hl.1 rfl (lv_room (Nat.le_of_ble_eq_true rfl)) d_DiscMakerModel_lay_4 ⟨hkc, hks⟩) hS (fun q _ h => hFc q h) hFc (fun r1 u t H1 locs ht hvm hp_r1 hB hz1 hk1 hS => ?_)
  obtain ⟨hP1, hD1⟩ := hB
  rw [ht] at hP1
  obtain ⟨hP, hD⟩ := va_join (wr := [((ma 2), .inl (cI, 40, .inl fP)), ((ma 3), .inl (cI, 40, .inl fM)), ((ma 4), .inl (cI, 40, .inl fO)), ((ma 5), .inl (cI, 40, .inl fG)), ((ma 8), .inl (cB, 1200, .inl fN)), ((ma 12), .inl (cB, 320, .inl fBa)), ((ma 13), .inl (cI, 40, .inl fBs)), ((ma 14), .inl (cB, 120, .inl fEx)), ((ma 15), .inl (cI, 40, .inl fEs))]) (w1 := [(h0, .inr (11, MO ma sv_thrown sv_length sv_nodes sv_many sv_directories sv_runsFrom sv_runs sv_read sv_wrong sv_isNamed sv_goes sv_goesSize sv_goesAt sv_targetParts sv_isRoot)), ((ma 16), .inl (cJ, 46080, .inr (.inl F))), ((ma 1), .inl (cI, 40, .inl fK)), ((ma 9), .inl (cI, 40, .inl fNS)), ((ma 10), .inl (cB, 8000, .inl fT)), ((ma 11), .inl (cI, 40, .inl fTS))]) hP hD [0, 1, 2, 8, 9, 10] [3, 4, 5, 6, 7, 11, 12, 13, 14] rfl rfl (by decide +kernel) (by decide +kernel) hk1 hFc hP1 hD1
  clear hPc hDc hFc hP1 hD1 hk1 hz1 hkc hks
  generalize H1 = H at hP hS ⊢
  have hP : va_P D CL [((ma 2), .inl (cI, 40, .inl fP)), ((ma 3), .inl (cI, 40, .inl fM)), ((ma 4), .inl (cI, 40, .inl fO)), ((ma 5), .inl (cI, 40, .inl fG)), ((ma 8), .inl (cB, 1200, .inl fN)), ((ma 12), .inl (cB, 320, .inl fBa)), ((ma 13), .inl (cI, 40, .inl fBs)), ((ma 14), .inl (cB, 120, .inl fEx)), ((ma 15), .inl (cI, 40, .inl fEs)), (h0, .inr (11, MO ma sv_thrown sv_length sv_nodes sv_many sv_directories sv_runsFrom sv_runs sv_read sv_wrong sv_isNamed sv_goes sv_goesSize sv_goesAt sv_targetParts sv_isRoot)), ((ma 16), .inl (cJ, 46080, .inr (.inl F))), ((ma 1), .inl (cI, 40, .inl fK)), ((ma 9), .inl (cI, 40, .inl fNS)), ((ma 10), .inl (cB, 8000, .inl fT)), ((ma 11), .inl (cI, 40, .inl fTS))] H := hP
  have hD : va_D A [((ma 2), .inl (cI, 40, .inl fP)), ((ma 3), .inl (cI, 40, .inl fM)), ((ma 4), .inl (cI, 40, .inl fO)), ((ma 5), .inl (cI, 40, .inl fG)), ((ma 8), .inl (cB, 1200, .inl fN)), ((ma 12), .inl (cB, 320, .inl fBa)), ((ma 13), .inl (cI, 40, .inl fBs)), ((ma 14), .inl (cB, 120, .inl fEx)), ((ma 15), .inl (cI, 40, .inl fEs)), (h0, .inr (11, MO ma sv_thrown sv_length sv_nodes sv_many sv_directories sv_runsFrom sv_runs sv_read sv_wrong sv_isNamed sv_goes sv_goesSize sv_goesAt sv_targetParts sv_isRoot)), ((ma 16), .inl (cJ, 46080, .inr (.inl F))), ((ma 1), .inl (cI, 40, .inl fK)), ((ma 9), .inl (cI, 40, .inl fNS)), ((ma 10), .inl (cB, 8000, .inl fT)), ((ma 11), .inl (cI, 40, .inl fTS))] := hD
  try dsimp only at hp_r1
  obtain ⟨hv_2, hr_3⟩ := hp_r1
  refine lv_istore hx hb d_DiscMakerModel_lay_7 hl (by decide) rfl (fun ls hl => ?_)
  have hl : lv_has ls 7 [(5, .int r1), (0, .ref h0), (1, .int x), (2, .int y), (3, .int z), (4, .int w)] := hl
  refine lv_iload hx hb d_DiscMakerModel_lay_9 (lv_at hl 0 rfl) ?_
  refine lv_if_ne (tgt := 16) hx hb d_DiscMakerModel_lay_11 (by decide) (fun h_9 => ?_) (fun h_9 => ?_)
  · skip
    have g11_8 : ¬ r1.toInt = 0 := fun h8 => h_9 ((i_eq rfl (by decide)).mpr h8)
    refine lv_iload_n hx hb d_DiscMakerModel_lay_16 rfl (lv_at hl 2 rfl) ?_
    refine lv_if_ne (tgt := 57) hx hb d_DiscMakerModel_lay_17 (by decide) (fun h_9 => ?_) (fun h_9 => ?_)
    · skip
      have g17_10 : ¬ x.toInt = 0 := fun h8 => h_9 ((i_eq rfl (by decide)).mpr h8)
      refine lv_iload_n hx hb d_DiscMakerModel_lay_57 rfl (lv_at hl 2 rfl) ?_
      refine lv_iconst (v := 1) hx hb d_DiscMakerModel_lay_58 (by decide) ?_
      refine lv_icmp_ne (tgt := 178) hx hb d_DiscMakerModel_lay_59 (by decide) (fun h_9 => ?_) (fun h_9 => ?_)
      · skip
        have g59_13 : ¬ x.toInt = 1 := fun h8 => h_9 ((i_eq rfl (by decide)).mpr h8)
        refine lv_iload_n hx hb d_DiscMakerModel_lay_178 rfl (lv_at hl 2 rfl) ?_
        refine lv_iconst (v := 2) hx hb d_DiscMakerModel_lay_179 (by decide) ?_
        refine lv_icmp_ne (tgt := 236) hx hb d_DiscMakerModel_lay_180 (by decide) (fun h_9 => ?_) (fun h_9 => ?_)
        · skip
          have g180_16 : ¬ x.toInt = 2 := fun h8 => h_9 ((i_eq rfl (by decide)).mpr h8)
          have hx3 : x.toInt = 3 := by omega
          have hfi3 : w.toInt + r1.toInt ≤ hi9 := by (have h7 := hv_2); rw [h7]; exact hfit
          refine lv_aload_n hx hb d_DiscMakerModel_lay_236 rfl (lv_at hl 1 rfl) ?_
          refine lv_iload hx hb d_DiscMakerModel_lay_237 (lv_at hl 5 rfl) ?_
          refine lv_bipush (v := 83) hx hb d_DiscMakerModel_lay_239 (by decide) ?_
          refine lv_bipush (v := 76) hx hb d_DiscMakerModel_lay_241 (by decide) ?_
          refine lv_iload hx hb d_DiscMakerModel_lay_243 (lv_at hl 0 rfl) ?_
          have hPc := hP.sub (ws' := [(h0, .inr (11, MO ma sv_thrown sv_length sv_nodes sv_many sv_directories sv_runsFrom sv_runs sv_read sv_wrong sv_isNamed sv_goes sv_goesSize sv_goesAt sv_targetParts sv_isRoot)), ((ma 16), .inl (cJ, 46080, .inr (.inl F)))]) [9, 10] rfl
          have hDc := hD.sub (ws' := [(h0, .inr (11, MO ma sv_thrown sv_length sv_nodes sv_many sv_directories sv_runsFrom sv_runs sv_read sv_wrong sv_isNamed sv_goes sv_goesSize sv_goesAt sv_targetParts sv_isRoot)), ((ma 16), .inl (cJ, 46080, .inr (.inl F)))]) [9, 10] (by decide +kernel) rfl
          have hFc := va_free (wc := [(h0, .inr (11, MO ma sv_thrown sv_length sv_nodes sv_many sv_directories sv_runsFrom sv_runs sv_read sv_wrong sv_isNamed sv_goes sv_goesSize sv_goesAt sv_targetParts sv_isRoot)), ((ma 16), .inl (cJ, 46080, .inr (.inl F)))]) hD hS hA [9, 10] rfl
          have hkc : 0 ≤ 0 := by decide
          have hks : 0 ≤ 0 := by decide
          refine va_callv (va_runV (C := "DiscMakerModel") (As := [.int w, .int 83, .int 76, .int r1]) (rest := []) ⟨hx, hb, hml, hown, hts⟩ (m_lettersF l D cB cI cJ cZ cN cF H.size h0 ma sv_thrown sv_length sv_nodes sv_many sv_directories sv_runsFrom sv_runs sv_read sv_wrong sv_isNamed sv_goes sv_goesSize sv_goesAt sv_targetParts sv_isRoot F w 83 76 r1 (by (try dsimp only); first | assumption | omega | trivial) (by (try dsimp only); first | assumption | omega | trivial)) (cwV 4 hts (lg_goodV k1764 k1766 k87 k125 kc_DiscMakerModel_letters) rfl rfl rfl (by decide +kernel) ⟨Nat.le_of_ble_eq_true rfl, Nat.le_of_ble_eq_true rfl⟩) ⟨fun a U g mk q => by obtain ⟨q0, q1, qP, qK, qN, qD⟩ := q; exact ⟨q0, q1, qP, va_K.moved (u := U) (U := U.calling g mk a) (Vm.Alike.refl U.vm) qK, qN.calling, qD⟩, va_recv hK hP (ci := 11) (q0 := 9) rfl rfl, fun U hU hW => ⟨rfl, by rw [hU], by rw [hU]; exact hPc, va_K.moved hW.alike hK, NN.warm hW hN, hDc.weaken (fun _ _ _ _ => trivial)⟩⟩ rfl rfl hl.1 rfl (lv_room (Nat.le_of_ble_eq_true rfl)) d_DiscMakerModel_lay_245 ⟨hkc, hks⟩) hS (fun q _ h => hFc q h) hFc (fun u t H1 locs ht hvm hp_r4 hB hz1 hk1 hS => ?_)
          obtain ⟨G_5, rfl⟩ : ∃ z, z = u := ⟨_, rfl⟩
          obtain ⟨hP1, hD1⟩ := hB
          rw [ht] at hP1
          obtain ⟨hP, hD⟩ := va_join (wr := [((ma 2), .inl (cI, 40, .inl fP)), ((ma 3), .inl (cI, 40, .inl fM)), ((ma 4), .inl (cI, 40, .inl fO)), ((ma 5), .inl (cI, 40, .inl fG)), ((ma 8), .inl (cB, 1200, .inl fN)), ((ma 12), .inl (cB, 320, .inl fBa)), ((ma 13), .inl (cI, 40, .inl fBs)), ((ma 14), .inl (cB, 120, .inl fEx)), ((ma 15), .inl (cI, 40, .inl fEs)), ((ma 1), .inl (cI, 40, .inl fK)), ((ma 9), .inl (cI, 40, .inl fNS)), ((ma 10), .inl (cB, 8000, .inl fT)), ((ma 11), .inl (cI, 40, .inl fTS))]) (w1 := [(h0, .inr (11, MO ma sv_thrown sv_length sv_nodes sv_many sv_directories sv_runsFrom sv_runs sv_read sv_wrong sv_isNamed sv_goes sv_goesSize sv_goesAt sv_targetParts sv_isRoot)), ((ma 16), .inl (cJ, 46080, .inr (.inl G_5)))]) hP hD [9, 10] [0, 1, 2, 3, 4, 5, 6, 7, 8, 11, 12, 13, 14] rfl rfl (by decide +kernel) (by decide +kernel) hk1 hFc hP1 hD1
          clear hPc hDc hFc hP1 hD1 hk1 hz1 hkc hks
          generalize H1 = H at hP hS ⊢
          have hP : va_P D CL [((ma 2), .inl (cI, 40, .inl fP)), ((ma 3), .inl (cI, 40, .inl fM)), ((ma 4), .inl (cI, 40, .inl fO)), ((ma 5), .inl (cI, 40, .inl fG)), ((ma 8), .inl (cB, 1200, .inl fN)), ((ma 12), .inl (cB, 320, .inl fBa)), ((ma 13), .inl (cI, 40, .inl fBs)), ((ma 14), .inl (cB, 120, .inl fEx)), ((ma 15), .inl (cI, 40, .inl fEs)), ((ma 1), .inl (cI, 40, .inl fK)), ((ma 9), .inl (cI, 40, .inl fNS)), ((ma 10), .inl (cB, 8000, .inl fT)), ((ma 11), .inl (cI, 40, .inl fTS)), (h0, .inr (11, MO ma sv_thrown sv_length sv_nodes sv_many sv_directories sv_runsFrom sv_runs sv_read sv_wrong sv_isNamed sv_goes sv_goesSize sv_goesAt sv_targetParts sv_isRoot)), ((ma 16), .inl (cJ, 46080, .inr (.inl G_5)))] H := hP
          have hD : va_D A [((ma 2), .inl (cI, 40, .inl fP)), ((ma 3), .inl (cI, 40, .inl fM)), ((ma 4), .inl (cI, 40, .inl fO)), ((ma 5), .inl (cI, 40, .inl fG)), ((ma 8), .inl (cB, 1200, .inl fN)), ((ma 12), .inl (cB, 320, .inl fBa)), ((ma 13), .inl (cI, 40, .inl fBs)), ((ma 14), .inl (cB, 120, .inl fEx)), ((ma 15), .inl (cI, 40, .inl fEs)), ((ma 1), .inl (cI, 40, .inl fK)), ((ma 9), .inl (cI, 40, .inl fNS)), ((ma 10), .inl (cB, 8000, .inl fT)), ((ma 11), .inl (cI, 40, .inl fTS)), (h0, .inr (11, MO ma sv_thrown sv_length sv_nodes sv_many sv_directories sv_runsFrom sv_runs sv_read sv_wrong sv_isNamed sv_goes sv_goesSize sv_goesAt sv_targetParts sv_isRoot)), ((ma 16), .inl (cJ, 46080, .inr (.inl G_5)))] := hD
          try dsimp only at hp_r4
          have hw_6 := hp_r4
          try rw [L_76] at hw_6
          try rw [L_83] at hw_6
          refine lv_aload_n hx hb d_DiscMakerModel_lay_248 rfl (lv_at hl 1 rfl) ?_
          refine lv_iload_n hx hb d_DiscMakerModel_lay_249 rfl (lv_at hl 4 rfl) ?_
          refine lv_iload hx hb d_DiscMakerModel_lay_250 (lv_at hl 5 rfl) ?_
          refine lv_iconst (v := 5) hx hb d_DiscMakerModel_lay_252 (by decide) ?_
          refine lv_iadd hx hb d_DiscMakerModel_lay_253 ?_
          refine lv_topi (fun v7 e_v7 => ?_)
          have t_v7 : v7.toInt = w.toInt + 5 := by rw [e_v7]; exact i_add rfl (by decide) (by omega) (by omega)
          have hpw0 := hv_2
          rw [hx3] at hpw0
          unfold psF at hpw0
          rw [if_neg (by decide), if_neg (by decide)] at hpw0
          have hk90 : (fK z.toNatClampNeg).toInt = 2 := by split at hpw0 <;> first | (exfalso; omega) | (rw [if_neg (by decide)] at hpw0; split at hpw0 <;> first | assumption | (exfalso; omega))
          have hPc := hP.sub (ws' := [(h0, .inr (11, MO ma sv_thrown sv_length sv_nodes sv_many sv_directories sv_runsFrom sv_runs sv_read sv_wrong sv_isNamed sv_goes sv_goesSize sv_goesAt sv_targetParts sv_isRoot)), ((ma 16), .inl (cJ, 46080, .inr (.inl G_5))), ((ma 10), .inl (cB, 8000, .inl fT)), ((ma 11), .inl (cI, 40, .inl fTS))]) [13, 14, 11, 12] rfl
          have hDc := hD.sub (ws' := [(h0, .inr (11, MO ma sv_thrown sv_length sv_nodes sv_many sv_directories sv_runsFrom sv_runs sv_read sv_wrong sv_isNamed sv_goes sv_goesSize sv_goesAt sv_targetParts sv_isRoot)), ((ma 16), .inl (cJ, 46080, .inr (.inl G_5))), ((ma 10), .inl (cB, 8000, .inl fT)), ((ma 11), .inl (cI, 40, .inl fTS))]) [13, 14, 11, 12] (by decide +kernel) rfl
          have hFc := va_free (wc := [(h0, .inr (11, MO ma sv_thrown sv_length sv_nodes sv_many sv_directories sv_runsFrom sv_runs sv_read sv_wrong sv_isNamed sv_goes sv_goesSize sv_goesAt sv_targetParts sv_isRoot)), ((ma 16), .inl (cJ, 46080, .inr (.inl G_5))), ((ma 10), .inl (cB, 8000, .inl fT)), ((ma 11), .inl (cI, 40, .inl fTS))]) hD hS hA [13, 14, 11, 12] rfl
          have hkc : 0 ≤ 0 := by decide
          have hks : 0 ≤ 0 := by decide
          refine va_calli (va_runV (C := "DiscMakerModel") (As := [.int z, .int v7]) (rest := []) ⟨hx, hb, hml, hown, hts⟩ (m_componentsF l D cB cI cJ cZ cN cF H.size h0 ma sv_thrown sv_length sv_nodes sv_many sv_directories sv_runsFrom sv_runs sv_read sv_wrong sv_isNamed sv_goes sv_goesSize sv_goesAt sv_targetParts sv_isRoot G_5 fT fTS z v7 (by (try dsimp only); first | assumption | omega | trivial) (by (try dsimp only); first | assumption | omega | trivial) (by (try dsimp only); first | assumption | omega | trivial) ((hl4 hk90).2)) (cwV 2 hts (lg_goodV k1719 k1721 k77 k125 kc_DiscMakerModel_components) rfl rfl rfl (by decide +kernel) ⟨Nat.le_of_ble_eq_true rfl, Nat.le_of_ble_eq_true rfl⟩) ⟨fun a U g mk q => by obtain ⟨q0, q1, qP, qK, qN, qD⟩ := q; exact ⟨q0, q1, qP, va_K.moved (u := U) (U := U.calling g mk a) (Vm.Alike.refl U.vm) qK, qN.calling, qD⟩, va_recv hK hP (ci := 11) (q0 := 13) rfl rfl, fun U hU hW => ⟨rfl, by rw [hU], by rw [hU]; exact hPc, va_K.moved hW.alike hK, NN.warm hW hN, hDc.weaken (fun _ _ _ _ => trivial)⟩⟩ rfl rfl hl.1 rfl (lv_room (Nat.le_of_ble_eq_true rfl)) d_DiscMakerModel_lay_254 ⟨hkc, hks⟩) hS (fun q _ h => hFc q h) hFc (fun r8 u t H1 locs ht hvm hp_r8 hB hz1 hk1 hS => ?_)
          obtain ⟨G_9, rfl⟩ : ∃ z, z = u := ⟨_, rfl⟩
          obtain ⟨hP1, hD1⟩ := hB
          rw [ht] at hP1
          obtain ⟨hP, hD⟩ := va_join (wr := [((ma 2), .inl (cI, 40, .inl fP)), ((ma 3), .inl (cI, 40, .inl fM)), ((ma 4), .inl (cI, 40, .inl fO)), ((ma 5), .inl (cI, 40, .inl fG)), ((ma 8), .inl (cB, 1200, .inl fN)), ((ma 12), .inl (cB, 320, .inl fBa)), ((ma 13), .inl (cI, 40, .inl fBs)), ((ma 14), .inl (cB, 120, .inl fEx)), ((ma 15), .inl (cI, 40, .inl fEs)), ((ma 1), .inl (cI, 40, .inl fK)), ((ma 9), .inl (cI, 40, .inl fNS))]) (w1 := [(h0, .inr (11, MO ma sv_thrown sv_length sv_nodes sv_many sv_directories sv_runsFrom sv_runs sv_read sv_wrong sv_isNamed sv_goes sv_goesSize sv_goesAt sv_targetParts sv_isRoot)), ((ma 16), .inl (cJ, 46080, .inr (.inl G_9))), ((ma 10), .inl (cB, 8000, .inl fT)), ((ma 11), .inl (cI, 40, .inl fTS))]) hP hD [13, 14, 11, 12] [0, 1, 2, 3, 4, 5, 6, 7, 8, 9, 10] rfl rfl (by decide +kernel) (by decide +kernel) hk1 hFc hP1 hD1
          clear hPc hDc hFc hP1 hD1 hk1 hz1 hkc hks
          generalize H1 = H at hP hS ⊢
          have hP : va_P D CL [((ma 2), .inl (cI, 40, .inl fP)), ((ma 3), .inl (cI, 40, .inl fM)), ((ma 4), .inl (cI, 40, .inl fO)), ((ma 5), .inl (cI, 40, .inl fG)), ((ma 8), .inl (cB, 1200, .inl fN)), ((ma 12), .inl (cB, 320, .inl fBa)), ((ma 13), .inl (cI, 40, .inl fBs)), ((ma 14), .inl (cB, 120, .inl fEx)), ((ma 15), .inl (cI, 40, .inl fEs)), ((ma 1), .inl (cI, 40, .inl fK)), ((ma 9), .inl (cI, 40, .inl fNS)), (h0, .inr (11, MO ma sv_thrown sv_length sv_nodes sv_many sv_directories sv_runsFrom sv_runs sv_read sv_wrong sv_isNamed sv_goes sv_goesSize sv_goesAt sv_targetParts sv_isRoot)), ((ma 16), .inl (cJ, 46080, .inr (.inl G_9))), ((ma 10), .inl (cB, 8000, .inl fT)), ((ma 11), .inl (cI, 40, .inl fTS))] H := hP
          have hD : va_D A [((ma 2), .inl (cI, 40, .inl fP)), ((ma 3), .inl (cI, 40, .inl fM)), ((ma 4), .inl (cI, 40, .inl fO)), ((ma 5), .inl (cI, 40, .inl fG)), ((ma 8), .inl (cB, 1200, .inl fN)), ((ma 12), .inl (cB, 320, .inl fBa)), ((ma 13), .inl (cI, 40, .inl fBs)), ((ma 14), .inl (cB, 120, .inl fEx)), ((ma 15), .inl (cI, 40, .inl fEs)), ((ma 1), .inl (cI, 40, .inl fK)), ((ma 9), .inl (cI, 40, .inl fNS)), (h0, .inr (11, MO ma sv_thrown sv_length sv_nodes sv_many sv_directories sv_runsFrom sv_runs sv_read sv_wrong sv_isNamed sv_goes sv_goesSize sv_goesAt sv_targetParts sv_isRoot)), ((ma 16), .inl (cJ, 46080, .inr (.inl G_9))), ((ma 10), .inl (cB, 8000, .inl fT)), ((ma 11), .inl (cI, 40, .inl fTS))] := hD
          try dsimp only at hp_r8
          obtain ⟨hw_10, hr_11⟩ := hp_r8
          refine lv_pop hx hb d_DiscMakerModel_lay_257 rfl ?_
          refine lv_iload hx hb d_DiscMakerModel_lay_258 (lv_at hl 0 rfl) ?_
          have hP9 := hP.sub (ws' := [(h0, .inr (11, MO ma sv_thrown sv_length sv_nodes sv_many sv_directories sv_runsFrom sv_runs sv_read sv_wrong sv_isNamed sv_goes sv_goesSize sv_goesAt sv_targetParts sv_isRoot)), ((ma 16), .inl (cJ, 46080, .inr (.inl G_9))), ((ma 1), .inl (cI, 40, .inl fK)), ((ma 2), .inl (cI, 40, .inl fP)), ((ma 3), .inl (cI, 40, .inl fM)), ((ma 4), .inl (cI, 40, .inl fO)), ((ma 5), .inl (cI, 40, .inl fG)), ((ma 8), .inl (cB, 1200, .inl fN)), ((ma 9), .inl (cI, 40, .inl fNS)), ((ma 10), .inl (cB, 8000, .inl fT)), ((ma 11), .inl (cI, 40, .inl fTS)), ((ma 12), .inl (cB, 320, .inl fBa)), ((ma 13), .inl (cI, 40, .inl fBs)), ((ma 14), .inl (cB, 120, .inl fEx)), ((ma 15), .inl (cI, 40, .inl fEs))]) [11, 12, 9, 0, 1, 2, 3, 4, 10, 13, 14, 5, 6, 7, 8] rfl
          have hD9 := hD.sub (ws' := [(h0, .inr (11, MO ma sv_thrown sv_length sv_nodes sv_many sv_directories sv_runsFrom sv_runs sv_read sv_wrong sv_isNamed sv_goes sv_goesSize sv_goesAt sv_targetParts sv_isRoot)), ((ma 16), .inl (cJ, 46080, .inr (.inl G_9))), ((ma 1), .inl (cI, 40, .inl fK)), ((ma 2), .inl (cI, 40, .inl fP)), ((ma 3), .inl (cI, 40, .inl fM)), ((ma 4), .inl (cI, 40, .inl fO)), ((ma 5), .inl (cI, 40, .inl fG)), ((ma 8), .inl (cB, 1200, .inl fN)), ((ma 9), .inl (cI, 40, .inl fNS)), ((ma 10), .inl (cB, 8000, .inl fT)), ((ma 11), .inl (cI, 40, .inl fTS)), ((ma 12), .inl (cB, 320, .inl fBa)), ((ma 13), .inl (cI, 40, .inl fBs)), ((ma 14), .inl (cB, 120, .inl fEx)), ((ma 15), .inl (cI, 40, .inl fEs))]) [11, 12, 9, 0, 1, 2, 3, 4, 10, 13, 14, 5, 6, 7, 8] (by decide +kernel) rfl
          have hpv := hv_2
          have hzc := i_cl (a := z) (by omega)
          have hnz := hNS z.toNatClampNeg (by omega)
          have htz := hTS z.toNatClampNeg (by omega)
          have hx9 : x.toInt = 3 := by omega
          have hpw := hpv
          rw [hx9] at hpw
          unfold psF at hpw
          rw [if_neg (by decide), if_neg (by decide)] at hpw
          have hy9 : ¬ y.toInt < 2 := fun h7 => by rw [if_pos h7] at hpw; omega
          rw [if_neg hy9, if_neg (by decide)] at hpw
          have hk9 : (fK z.toNatClampNeg).toInt = 2 := by split at hpw <;> first | assumption | (exfalso; omega)
          rw [if_pos hk9] at hpw
          have h49 := hl4 hk9
          have hcb := coB_len (tgF fT z.toNatClampNeg) (fTS z.toNatClampNeg).toInt.toNat
          have hcc : coB (nf z.toNatClampNeg 3) (dx 0 z.toNatClampNeg).toNat = coB (tgF fT z.toNatClampNeg) (fTS z.toNatClampNeg).toInt.toNat := by rw [hlx.1]; exact coB_congr (fun j hj => (hlT j (by omega)).symm)
          have hcm := cm_comp (tgF fT z.toNatClampNeg) (n := (fTS z.toNatClampNeg).toInt.toNat) (by omega)
          exact W.iret (v := r1) hx hb hr (fun t ht hW => ⟨⟨r1, G_9, rfl, ⟨(by (try dsimp only); rw [← hpv]), (by (try dsimp only); first | assumption | omega | trivial), (by (try dsimp only); unfold ptL slL; rw [hx9, if_neg (by decide), if_neg (by decide), if_neg (by decide), if_neg hy9, if_pos (by omega), hcc, show (5 + dt 4 z.toNatClampNeg) % 256 = r1.toInt % 256 by omega]; exact ((((Rn_0 (n := 0) hz9 rfl).bl (m := 4) (n2 := 4) hw_6 (by omega) rfl (by omega)).hole (n2 := 5) 1 (by omega) (by omega)).bl (n2 := r1.toInt) hw_10 (by omega) hcb (by omega)).cast rfl rfl)⟩, by rw [ht]; exact hP9, hD9⟩, hS.F ht⟩) hS.2.2 d_DiscMakerModel_lay_260
        · skip
          have g180_16 : x.toInt = 2 := (i_eq rfl (by decide)).mp h_9
          have hx2 : x.toInt = 2 := by omega
          have hp2 := hv_2
          have hzc2 := i_cl (a := z) (by omega)
          have hnz2 := hNS z.toNatClampNeg (by omega)
          have hp3 : ¬ y.toInt < 2 ∧ r1.toInt = 5 + (fNS z.toNatClampNeg).toInt := by (have h7 := hp2); rw [hx2] at h7; unfold psF at h7; rw [if_neg (by decide), if_neg (by decide)] at h7; by_cases h8 : y.toInt < 2 <;> first | (exfalso; rw [if_pos h8] at h7; omega) | (rw [if_neg h8, if_pos rfl] at h7; exact ⟨h8, h7⟩)
          have hfi3 : w.toInt + r1.toInt ≤ hi9 := by rw [hp2]; exact hfit
          refine lv_aload_n hx hb d_DiscMakerModel_lay_183 rfl (lv_at hl 1 rfl) ?_
          refine lv_iload hx hb d_DiscMakerModel_lay_184 (lv_at hl 5 rfl) ?_
          refine lv_bipush (v := 78) hx hb d_DiscMakerModel_lay_186 (by decide) ?_
          refine lv_bipush (v := 77) hx hb d_DiscMakerModel_lay_188 (by decide) ?_
          refine lv_iload hx hb d_DiscMakerModel_lay_190 (lv_at hl 0 rfl) ?_
          have hPc := hP.sub (ws' := [(h0, .inr (11, MO ma sv_thrown sv_length sv_nodes sv_many sv_directories sv_runsFrom sv_runs sv_read sv_wrong sv_isNamed sv_goes sv_goesSize sv_goesAt sv_targetParts sv_isRoot)), ((ma 16), .inl (cJ, 46080, .inr (.inl F)))]) [9, 10] rfl
          have hDc := hD.sub (ws' := [(h0, .inr (11, MO ma sv_thrown sv_length sv_nodes sv_many sv_directories sv_runsFrom sv_runs sv_read sv_wrong sv_isNamed sv_goes sv_goesSize sv_goesAt sv_targetParts sv_isRoot)), ((ma 16), .inl (cJ, 46080, .inr (.inl F)))]) [9, 10] (by decide +kernel) rfl
          have hFc := va_free (wc := [(h0, .inr (11, MO ma sv_thrown sv_length sv_nodes sv_many sv_directories sv_runsFrom sv_runs sv_read sv_wrong sv_isNamed sv_goes sv_goesSize sv_goesAt sv_targetParts sv_isRoot)), ((ma 16), .inl (cJ, 46080, .inr (.inl F)))]) hD hS hA [9, 10] rfl
          have hkc : 0 ≤ 0 := by decide
          have hks : 0 ≤ 0 := by decide
          refine va_callv (va_runV (C := "DiscMakerModel") (As := [.int w, .int 78, .int 77, .int r1]) (rest := []) ⟨hx, hb, hml, hown, hts⟩ (m_lettersF l D cB cI cJ cZ cN cF H.size h0 ma sv_thrown sv_length sv_nodes sv_many sv_directories sv_runsFrom sv_runs sv_read sv_wrong sv_isNamed sv_goes sv_goesSize sv_goesAt sv_targetParts sv_isRoot F w 78 77 r1 (by (try dsimp only); first | assumption | omega | trivial) (by (try dsimp only); first | assumption | omega | trivial)) (cwV 4 hts (lg_goodV k1764 k1766 k87 k125 kc_DiscMakerModel_letters) rfl rfl rfl (by decide +kernel) ⟨Nat.le_of_ble_eq_true rfl, Nat.le_of_ble_eq_true rfl⟩) ⟨fun a U g mk q => by obtain ⟨q0, q1, qP, qK, qN, qD⟩ := q; exact ⟨q0, q1, qP, va_K.moved (u := U) (U := U.calling g mk a) (Vm.Alike.refl U.vm) qK, qN.calling, qD⟩, va_recv hK hP (ci := 11) (q0 := 9) rfl rfl, fun U hU hW => ⟨rfl, by rw [hU], by rw [hU]; exact hPc, va_K.moved hW.alike hK, NN.warm hW hN, hDc.weaken (fun _ _ _ _ => trivial)⟩⟩ rfl rfl hl.1 rfl (lv_room (Nat.le_of_ble_eq_true rfl)) d_DiscMakerModel_lay_192 ⟨hkc, hks⟩) hS (fun q _ h => hFc q h) hFc (fun u t H1 locs ht hvm hp_r12 hB hz1 hk1 hS => ?_)
          obtain ⟨G_13, rfl⟩ : ∃ z, z = u := ⟨_, rfl⟩
          obtain ⟨hP1, hD1⟩ := hB
          rw [ht] at hP1
          obtain ⟨hP, hD⟩ := va_join (wr := [((ma 2), .inl (cI, 40, .inl fP)), ((ma 3), .inl (cI, 40, .inl fM)), ((ma 4), .inl (cI, 40, .inl fO)), ((ma 5), .inl (cI, 40, .inl fG)), ((ma 8), .inl (cB, 1200, .inl fN)), ((ma 12), .inl (cB, 320, .inl fBa)), ((ma 13), .inl (cI, 40, .inl fBs)), ((ma 14), .inl (cB, 120, .inl fEx)), ((ma 15), .inl (cI, 40, .inl fEs)), ((ma 1), .inl (cI, 40, .inl fK)), ((ma 9), .inl (cI, 40, .inl fNS)), ((ma 10), .inl (cB, 8000, .inl fT)), ((ma 11), .inl (cI, 40, .inl fTS))]) (w1 := [(h0, .inr (11, MO ma sv_thrown sv_length sv_nodes sv_many sv_directories sv_runsFrom sv_runs sv_read sv_wrong sv_isNamed sv_goes sv_goesSize sv_goesAt sv_targetParts sv_isRoot)), ((ma 16), .inl (cJ, 46080, .inr (.inl G_13)))]) hP hD [9, 10] [0, 1, 2, 3, 4, 5, 6, 7, 8, 11, 12, 13, 14] rfl rfl (by decide +kernel) (by decide +kernel) hk1 hFc hP1 hD1
          clear hPc hDc hFc hP1 hD1 hk1 hz1 hkc hks
          generalize H1 = H at hP hS ⊢
          have hP : va_P D CL [((ma 2), .inl (cI, 40, .inl fP)), ((ma 3), .inl (cI, 40, .inl fM)), ((ma 4), .inl (cI, 40, .inl fO)), ((ma 5), .inl (cI, 40, .inl fG)), ((ma 8), .inl (cB, 1200, .inl fN)), ((ma 12), .inl (cB, 320, .inl fBa)), ((ma 13), .inl (cI, 40, .inl fBs)), ((ma 14), .inl (cB, 120, .inl fEx)), ((ma 15), .inl (cI, 40, .inl fEs)), ((ma 1), .inl (cI, 40, .inl fK)), ((ma 9), .inl (cI, 40, .inl fNS)), ((ma 10), .inl (cB, 8000, .inl fT)), ((ma 11), .inl (cI, 40, .inl fTS)), (h0, .inr (11, MO ma sv_thrown sv_length sv_nodes sv_many sv_directories sv_runsFrom sv_runs sv_read sv_wrong sv_isNamed sv_goes sv_goesSize sv_goesAt sv_targetParts sv_isRoot)), ((ma 16), .inl (cJ, 46080, .inr (.inl G_13)))] H := hP
          have hD : va_D A [((ma 2), .inl (cI, 40, .inl fP)), ((ma 3), .inl (cI, 40, .inl fM)), ((ma 4), .inl (cI, 40, .inl fO)), ((ma 5), .inl (cI, 40, .inl fG)), ((ma 8), .inl (cB, 1200, .inl fN)), ((ma 12), .inl (cB, 320, .inl fBa)), ((ma 13), .inl (cI, 40, .inl fBs)), ((ma 14), .inl (cB, 120, .inl fEx)), ((ma 15), .inl (cI, 40, .inl fEs)), ((ma 1), .inl (cI, 40, .inl fK)), ((ma 9), .inl (cI, 40, .inl fNS)), ((ma 10), .inl (cB, 8000, .inl fT)), ((ma 11), .inl (cI, 40, .inl fTS)), (h0, .inr (11, MO ma sv_thrown sv_length sv_nodes sv_many sv_directories sv_runsFrom sv_runs sv_read sv_wrong sv_isNamed sv_goes sv_goesSize sv_goesAt sv_targetParts sv_isRoot)), ((ma 16), .inl (cJ, 46080, .inr (.inl G_13)))] := hD
          try dsimp only at hp_r12
          have hw_14 := hp_r12
          try rw [L_77] at hw_14
          try rw [L_78] at hw_14
          refine lv_iconst (v := 0) hx hb d_DiscMakerModel_lay_195 (by decide) ?_
          refine lv_istore hx hb d_DiscMakerModel_lay_196 hl (by decide) rfl (fun ls hl => ?_)
          have hl : lv_has ls 7 [(6, .int 0), (5, .int r1), (0, .ref h0), (1, .int x), (2, .int y), (3, .int z), (4, .int w)] := hl
          refine zz_labM (B := fun (lk : Nat) (K : Heap → List Loc → Array Slot → List Value → Prop) => ∀ (k6 : Int32) (lF : Nat → Int64) (H : Heap) (locs : List Loc) (ls : Array Slot), lk = (31 - k6.toInt).toNat → (0 ≤ k6.toInt ∧ k6.toInt ≤ (fNS z.toNatClampNeg).toInt) → (Rn (bF F) (bF lF) w.toInt ([78, 77, r1.toInt % 256, 1, 0] ++ byL (nf z.toNatClampNeg 1) 0 k6.toInt.toNat) (5 + k6.toInt) hi9) → va_P D CL [((ma 2), .inl (cI, 40, .inl fP)), ((ma 3), .inl (cI, 40, .inl fM)), ((ma 4), .inl (cI, 40, .inl fO)), ((ma 5), .inl (cI, 40, .inl fG)), ((ma 8), .inl (cB, 1200, .inl fN)), ((ma 12), .inl (cB, 320, .inl fBa)), ((ma 13), .inl (cI, 40, .inl fBs)), ((ma 14), .inl (cB, 120, .inl fEx)), ((ma 15), .inl (cI, 40, .inl fEs)), ((ma 1), .inl (cI, 40, .inl fK)), ((ma 9), .inl (cI, 40, .inl fNS)), ((ma 10), .inl (cB, 8000, .inl fT)), ((ma 11), .inl (cI, 40, .inl fTS)), (h0, .inr (11, MO ma sv_thrown sv_length sv_nodes sv_many sv_directories sv_runsFrom sv_runs sv_read sv_wrong sv_isNamed sv_goes sv_goesSize sv_goesAt sv_targetParts sv_isRoot)), ((ma 16), .inl (cJ, 46080, .inr (.inl lF)))] H → va_D A [((ma 2), .inl (cI, 40, .inl fP)), ((ma 3), .inl (cI, 40, .inl fM)), ((ma 4), .inl (cI, 40, .inl fO)), ((ma 5), .inl (cI, 40, .inl fG)), ((ma 8), .inl (cB, 1200, .inl fN)), ((ma 12), .inl (cB, 320, .inl fBa)), ((ma 13), .inl (cI, 40, .inl fBs)), ((ma 14), .inl (cB, 120, .inl fEx)), ((ma 15), .inl (cI, 40, .inl fEs)), ((ma 1), .inl (cI, 40, .inl fK)), ((ma 9), .inl (cI, 40, .inl fNS)), ((ma 10), .inl (cB, 8000, .inl fT)), ((ma 11), .inl (cI, 40, .inl fTS)), (h0, .inr (11, MO ma sv_thrown sv_length sv_nodes sv_many sv_directories sv_runsFrom sv_runs sv_read sv_wrong sv_isNamed sv_goes sv_goesSize sv_goesAt sv_targetParts sv_isRoot)), ((ma 16), .inl (cJ, 46080, .inr (.inl lF)))] → va_S A s.heap H locs → lv_has ls 7 [(0, .ref h0), (1, .int x), (2, .int y), (3, .int z), (4, .int w), (5, .int r1), (6, .int k6)] → K H locs ls []) 198 ?_ ?_
          · skip
            intro lk ih198 k6 lF H locs ls hm198 f1 f8 hP hD hS hl
            refine lv_iload hx hb d_DiscMakerModel_lay_198 (lv_at hl 6 rfl) ?_
            refine lv_aload_n hx hb d_DiscMakerModel_lay_200 rfl (lv_at hl 0 rfl) ?_
            refine va_get (D := D) (ci := 11) (v := .ref (ma 9)) (C := "DiscMakerModel") (T := F_DiscMakerModel) (N := 48) hx hb ht9 in_DiscMakerModel hown hK hP 13 rfl rfl 12 (by decide) (ht9 _ k1443) (fun _ h9 => h9) rfl d_DiscMakerModel_lay_201 ?_
            refine lv_iload_n hx hb d_DiscMakerModel_lay_204 rfl (lv_at hl 3 rfl) ?_
            refine va_iald hx hb hK hP 10 1 rfl rfl (vp_in_iff.mpr ⟨by omega, by omega⟩) d_DiscMakerModel_lay_205 ?_
            refine lv_topi (fun v15 e_v15 => ?_)
            have t_v15 : 0 ≤ v15.toInt ∧ v15.toInt ≤ 30 := by
              rw [e_v15]; exact hNS _ (by have := i_cl (a := z) (by omega); omega)
            have q0v15 : v15.toInt = (fNS z.toNatClampNeg).toInt := by rw [e_v15]
            refine lv_icmp_ge (tgt := 233) hx hb d_DiscMakerModel_lay_206 (by decide) (fun h_9 => ?_) (fun h_9 => ?_)
            · skip
              have g206_45 : v15.toInt ≤ k6.toInt := (i_le rfl rfl).mp h_9
              refine lv_goto (tgt := 258) hx hb d_DiscMakerModel_lay_233 (by decide) ?_
              refine lv_iload hx hb d_DiscMakerModel_lay_258 (lv_at hl 5 rfl) ?_
              have hP9 := hP.sub (ws' := [(h0, .inr (11, MO ma sv_thrown sv_length sv_nodes sv_many sv_directories sv_runsFrom sv_runs sv_read sv_wrong sv_isNamed sv_goes sv_goesSize sv_goesAt sv_targetParts sv_isRoot)), ((ma 16), .inl (cJ, 46080, .inr (.inl lF))), ((ma 1), .inl (cI, 40, .inl fK)), ((ma 2), .inl (cI, 40, .inl fP)), ((ma 3), .inl (cI, 40, .inl fM)), ((ma 4), .inl (cI, 40, .inl fO)), ((ma 5), .inl (cI, 40, .inl fG)), ((ma 8), .inl (cB, 1200, .inl fN)), ((ma 9), .inl (cI, 40, .inl fNS)), ((ma 10), .inl (cB, 8000, .inl fT)), ((ma 11), .inl (cI, 40, .inl fTS)), ((ma 12), .inl (cB, 320, .inl fBa)), ((ma 13), .inl (cI, 40, .inl fBs)), ((ma 14), .inl (cB, 120, .inl fEx)), ((ma 15), .inl (cI, 40, .inl fEs))]) [13, 14, 9, 0, 1, 2, 3, 4, 10, 11, 12, 5, 6, 7, 8] rfl
              have hD9 := hD.sub (ws' := [(h0, .inr (11, MO ma sv_thrown sv_length sv_nodes sv_many sv_directories sv_runsFrom sv_runs sv_read sv_wrong sv_isNamed sv_goes sv_goesSize sv_goesAt sv_targetParts sv_isRoot)), ((ma 16), .inl (cJ, 46080, .inr (.inl lF))), ((ma 1), .inl (cI, 40, .inl fK)), ((ma 2), .inl (cI, 40, .inl fP)), ((ma 3), .inl (cI, 40, .inl fM)), ((ma 4), .inl (cI, 40, .inl fO)), ((ma 5), .inl (cI, 40, .inl fG)), ((ma 8), .inl (cB, 1200, .inl fN)), ((ma 9), .inl (cI, 40, .inl fNS)), ((ma 10), .inl (cB, 8000, .inl fT)), ((ma 11), .inl (cI, 40, .inl fTS)), ((ma 12), .inl (cB, 320, .inl fBa)), ((ma 13), .inl (cI, 40, .inl fBs)), ((ma 14), .inl (cB, 120, .inl fEx)), ((ma 15), .inl (cI, 40, .inl fEs))]) [13, 14, 9, 0, 1, 2, 3, 4, 10, 11, 12, 5, 6, 7, 8] (by decide +kernel) rfl
              have hpv := hv_2
              have hzc := i_cl (a := z) (by omega)
              have hnz := hNS z.toNatClampNeg (by omega)
              have htz := hTS z.toNatClampNeg (by omega)
              have hx9 : x.toInt = 2 := by omega
              have hk6 : k6.toInt = (fNS z.toNatClampNeg).toInt := by omega
              exact W.iret (v := r1) hx hb hr (fun t ht hW => ⟨⟨r1, lF, rfl, ⟨(by (try dsimp only); rw [← hpv]), (by (try dsimp only); first | assumption | omega | trivial), (by (try dsimp only); unfold ptL nmL; rw [hx9, if_neg (by decide), if_neg (by decide), if_pos rfl, if_neg (by omega), show (dt 1 z.toNatClampNeg).toNat = k6.toInt.toNat by omega, show (5 + dt 1 z.toNatClampNeg) % 256 = r1.toInt % 256 by omega]; exact f8.cast rfl (by omega))⟩, by rw [ht]; exact hP9, hD9⟩, hS.F ht⟩) hS.2.2 d_DiscMakerModel_lay_260
            · skip
              have g206_45 : ¬ v15.toInt ≤ k6.toInt := fun h8 => h_9 ((i_le rfl rfl).mpr h8)
              refine lv_aload_n hx hb d_DiscMakerModel_lay_209 rfl (lv_at hl 0 rfl) ?_
              refine lv_iload hx hb d_DiscMakerModel_lay_210 (lv_at hl 4 rfl) ?_
              refine lv_iconst (v := 5) hx hb d_DiscMakerModel_lay_212 (by decide) ?_
              refine lv_iadd hx hb d_DiscMakerModel_lay_213 ?_
              refine lv_topi (fun v16 e_v16 => ?_)
              have t_v16 : v16.toInt = w.toInt + 5 := by rw [e_v16]; exact i_add rfl (by decide) (by omega) (by omega)
              refine lv_iload hx hb d_DiscMakerModel_lay_214 (lv_at hl 6 rfl) ?_
              refine lv_iadd hx hb d_DiscMakerModel_lay_216 ?_
              refine lv_topi (fun v17 e_v17 => ?_)
              have t_v17 : v17.toInt = v16.toInt + k6.toInt := by rw [e_v17]; exact i_add rfl rfl (by omega) (by omega)
              refine lv_aload_n hx hb d_DiscMakerModel_lay_217 rfl (lv_at hl 0 rfl) ?_
              refine lv_iload_n hx hb d_DiscMakerModel_lay_218 rfl (lv_at hl 3 rfl) ?_
              refine lv_iload hx hb d_DiscMakerModel_lay_219 (lv_at hl 6 rfl) ?_
              have hPc := hP.sub (ws' := [(h0, .inr (11, MO ma sv_thrown sv_length sv_nodes sv_many sv_directories sv_runsFrom sv_runs sv_read sv_wrong sv_isNamed sv_goes sv_goesSize sv_goesAt sv_targetParts sv_isRoot)), ((ma 8), .inl (cB, 1200, .inl fN)), ((ma 9), .inl (cI, 40, .inl fNS))]) [13, 4, 10] rfl
              have hDc := hD.sub (ws' := [(h0, .inr (11, MO ma sv_thrown sv_length sv_nodes sv_many sv_directories sv_runsFrom sv_runs sv_read sv_wrong sv_isNamed sv_goes sv_goesSize sv_goesAt sv_targetParts sv_isRoot)), ((ma 8), .inl (cB, 1200, .inl fN)), ((ma 9), .inl (cI, 40, .inl fNS))]) [13, 4, 10] (by decide +kernel) rfl
              have hFc := va_free (wc := [(h0, .inr (11, MO ma sv_thrown sv_length sv_nodes sv_many sv_directories sv_runsFrom sv_runs sv_read sv_wrong sv_isNamed sv_goes sv_goesSize sv_goesAt sv_targetParts sv_isRoot)), ((ma 8), .inl (cB, 1200, .inl fN)), ((ma 9), .inl (cI, 40, .inl fNS))]) hD hS hA [13, 4, 10] rfl
              have hkc : 0 ≤ 0 := by decide
              have hks : 0 ≤ 0 := by decide
              refine va_calli (va_runV (C := "DiscMakerModel") (As := [.int z, .int k6]) (rest := [.int v17, .ref h0]) ⟨hx, hb, hml, hown, hts⟩ (m_nameOf l D cB cI cJ cZ cN cF H.size h0 ma sv_thrown sv_length sv_nodes sv_many sv_directories sv_runsFrom sv_runs sv_read sv_wrong sv_isNamed sv_goes sv_goesSize sv_goesAt sv_targetParts sv_isRoot fN fNS z k6 (by (try dsimp only); first | assumption | omega | trivial) (by (try dsimp only); first | assumption | omega | trivial) (by (try dsimp only); first | assumption | omega | trivial)) (cwV 2 hts (lg_goodV k1616 k1618 k56 k125 kc_DiscMakerModel_nameOf) rfl rfl rfl (by decide +kernel) ⟨Nat.le_of_ble_eq_true rfl, Nat.le_of_ble_eq_true rfl⟩) ⟨fun a U g mk q => by obtain ⟨q0, q1, qP, qK, qN, qD⟩ := q; exact ⟨q0, q1, qP, va_K.moved (u := U) (U := U.calling g mk a) (Vm.Alike.refl U.vm) qK, qN.calling, qD⟩, va_recv hK hP (ci := 11) (q0 := 13) rfl rfl, fun U hU hW => ⟨rfl, by rw [hU], by rw [hU]; exact hPc, va_K.moved hW.alike hK, NN.warm hW hN, hDc.weaken (fun _ _ _ _ => trivial)⟩⟩ rfl rfl hl.1 rfl (lv_room (Nat.le_of_ble_eq_true rfl)) d_DiscMakerModel_lay_221 ⟨hkc, hks⟩) hS (fun q _ h => hFc q h) hFc (fun r18 u t H1 locs ht hvm hp_r18 hB hz1 hk1 hS => ?_)
              obtain ⟨hP1, hD1⟩ := hB
              rw [ht] at hP1
              obtain ⟨hP, hD⟩ := va_join (wr := [((ma 2), .inl (cI, 40, .inl fP)), ((ma 3), .inl (cI, 40, .inl fM)), ((ma 4), .inl (cI, 40, .inl fO)), ((ma 5), .inl (cI, 40, .inl fG)), ((ma 12), .inl (cB, 320, .inl fBa)), ((ma 13), .inl (cI, 40, .inl fBs)), ((ma 14), .inl (cB, 120, .inl fEx)), ((ma 15), .inl (cI, 40, .inl fEs)), ((ma 1), .inl (cI, 40, .inl fK)), ((ma 10), .inl (cB, 8000, .inl fT)), ((ma 11), .inl (cI, 40, .inl fTS)), ((ma 16), .inl (cJ, 46080, .inr (.inl lF)))]) (w1 := [(h0, .inr (11, MO ma sv_thrown sv_length sv_nodes sv_many sv_directories sv_runsFrom sv_runs sv_read sv_wrong sv_isNamed sv_goes sv_goesSize sv_goesAt sv_targetParts sv_isRoot)), ((ma 8), .inl (cB, 1200, .inl fN)), ((ma 9), .inl (cI, 40, .inl fNS))]) hP hD [13, 4, 10] [0, 1, 2, 3, 5, 6, 7, 8, 9, 11, 12, 14] rfl rfl (by decide +kernel) (by decide +kernel) hk1 hFc hP1 hD1
              clear hPc hDc hFc hP1 hD1 hk1 hz1 hkc hks
              generalize H1 = H at hP hS ⊢
              have hP : va_P D CL [((ma 2), .inl (cI, 40, .inl fP)), ((ma 3), .inl (cI, 40, .inl fM)), ((ma 4), .inl (cI, 40, .inl fO)), ((ma 5), .inl (cI, 40, .inl fG)), ((ma 12), .inl (cB, 320, .inl fBa)), ((ma 13), .inl (cI, 40, .inl fBs)), ((ma 14), .inl (cB, 120, .inl fEx)), ((ma 15), .inl (cI, 40, .inl fEs)), ((ma 1), .inl (cI, 40, .inl fK)), ((ma 10), .inl (cB, 8000, .inl fT)), ((ma 11), .inl (cI, 40, .inl fTS)), ((ma 16), .inl (cJ, 46080, .inr (.inl lF))), (h0, .inr (11, MO ma sv_thrown sv_length sv_nodes sv_many sv_directories sv_runsFrom sv_runs sv_read sv_wrong sv_isNamed sv_goes sv_goesSize sv_goesAt sv_targetParts sv_isRoot)), ((ma 8), .inl (cB, 1200, .inl fN)), ((ma 9), .inl (cI, 40, .inl fNS))] H := hP
              have hD : va_D A [((ma 2), .inl (cI, 40, .inl fP)), ((ma 3), .inl (cI, 40, .inl fM)), ((ma 4), .inl (cI, 40, .inl fO)), ((ma 5), .inl (cI, 40, .inl fG)), ((ma 12), .inl (cB, 320, .inl fBa)), ((ma 13), .inl (cI, 40, .inl fBs)), ((ma 14), .inl (cB, 120, .inl fEx)), ((ma 15), .inl (cI, 40, .inl fEs)), ((ma 1), .inl (cI, 40, .inl fK)), ((ma 10), .inl (cB, 8000, .inl fT)), ((ma 11), .inl (cI, 40, .inl fTS)), ((ma 16), .inl (cJ, 46080, .inr (.inl lF))), (h0, .inr (11, MO ma sv_thrown sv_length sv_nodes sv_many sv_directories sv_runsFrom sv_runs sv_read sv_wrong sv_isNamed sv_goes sv_goesSize sv_goesAt sv_targetParts sv_isRoot)), ((ma 8), .inl (cB, 1200, .inl fN)), ((ma 9), .inl (cI, 40, .inl fNS))] := hD
              try dsimp only at hp_r18
              obtain ⟨hr_19, hv_20⟩ := hp_r18
              have hPc := hP.sub (ws' := [(h0, .inr (11, MO ma sv_thrown sv_length sv_nodes sv_many sv_directories sv_runsFrom sv_runs sv_read sv_wrong sv_isNamed sv_goes sv_goesSize sv_goesAt sv_targetParts sv_isRoot)), ((ma 16), .inl (cJ, 46080, .inr (.inl lF)))]) [12, 11] rfl
              have hDc := hD.sub (ws' := [(h0, .inr (11, MO ma sv_thrown sv_length sv_nodes sv_many sv_directories sv_runsFrom sv_runs sv_read sv_wrong sv_isNamed sv_goes sv_goesSize sv_goesAt sv_targetParts sv_isRoot)), ((ma 16), .inl (cJ, 46080, .inr (.inl lF)))]) [12, 11] (by decide +kernel) rfl
              have hFc := va_free (wc := [(h0, .inr (11, MO ma sv_thrown sv_length sv_nodes sv_many sv_directories sv_runsFrom sv_runs sv_read sv_wrong sv_isNamed sv_goes sv_goesSize sv_goesAt sv_targetParts sv_isRoot)), ((ma 16), .inl (cJ, 46080, .inr (.inl lF)))]) hD hS hA [12, 11] rfl
              have hkc : 0 ≤ 0 := by decide
              have hks : 0 ≤ 0 := by decide
              refine va_callv (va_runV (C := "DiscMakerModel") (As := [.int v17, .int r18]) (rest := []) ⟨hx, hb, hml, hown, hts⟩ (m_setF l D cB cI cJ cZ cN cF H.size h0 ma sv_thrown sv_length sv_nodes sv_many sv_directories sv_runsFrom sv_runs sv_read sv_wrong sv_isNamed sv_goes sv_goesSize sv_goesAt sv_targetParts sv_isRoot lF v17 r18 (by (try dsimp only); first | assumption | omega | trivial) (by (try dsimp only); first | assumption | omega | trivial)) (cwV 2 hts (lg_goodV k1727 k1729 k79 k125 kc_DiscMakerModel_set) rfl rfl rfl (by decide +kernel) ⟨Nat.le_of_ble_eq_true rfl, Nat.le_of_ble_eq_true rfl⟩) ⟨fun a U g mk q => by obtain ⟨q0, q1, qP, qK, qN, qD⟩ := q; exact ⟨q0, q1, qP, va_K.moved (u := U) (U := U.calling g mk a) (Vm.Alike.refl U.vm) qK, qN.calling, qD⟩, va_recv hK hP (ci := 11) (q0 := 12) rfl rfl, fun U hU hW => ⟨rfl, by rw [hU], by rw [hU]; exact hPc, va_K.moved hW.alike hK, NN.warm hW hN, hDc.weaken (fun _ _ _ _ => trivial)⟩⟩ rfl rfl hl.1 rfl (lv_room (Nat.le_of_ble_eq_true rfl)) d_DiscMakerModel_lay_224 ⟨hkc, hks⟩) hS (fun q _ h => hFc q h) hFc (fun u t H1 locs ht hvm hp_r21 hB hz1 hk1 hS => ?_)
              obtain ⟨G_22, rfl⟩ : ∃ z, z = u := ⟨_, rfl⟩
              obtain ⟨hP1, hD1⟩ := hB
              rw [ht] at hP1
              obtain ⟨hP, hD⟩ := va_join (wr := [((ma 2), .inl (cI, 40, .inl fP)), ((ma 3), .inl (cI, 40, .inl fM)), ((ma 4), .inl (cI, 40, .inl fO)), ((ma 5), .inl (cI, 40, .inl fG)), ((ma 12), .inl (cB, 320, .inl fBa)), ((ma 13), .inl (cI, 40, .inl fBs)), ((ma 14), .inl (cB, 120, .inl fEx)), ((ma 15), .inl (cI, 40, .inl fEs)), ((ma 1), .inl (cI, 40, .inl fK)), ((ma 10), .inl (cB, 8000, .inl fT)), ((ma 11), .inl (cI, 40, .inl fTS)), ((ma 8), .inl (cB, 1200, .inl fN)), ((ma 9), .inl (cI, 40, .inl fNS))]) (w1 := [(h0, .inr (11, MO ma sv_thrown sv_length sv_nodes sv_many sv_directories sv_runsFrom sv_runs sv_read sv_wrong sv_isNamed sv_goes sv_goesSize sv_goesAt sv_targetParts sv_isRoot)), ((ma 16), .inl (cJ, 46080, .inr (.inl G_22)))]) hP hD [12, 11] [0, 1, 2, 3, 4, 5, 6, 7, 8, 9, 10, 13, 14] rfl rfl (by decide +kernel) (by decide +kernel) hk1 hFc hP1 hD1
              clear hPc hDc hFc hP1 hD1 hk1 hz1 hkc hks
              generalize H1 = H at hP hS ⊢
              have hP : va_P D CL [((ma 2), .inl (cI, 40, .inl fP)), ((ma 3), .inl (cI, 40, .inl fM)), ((ma 4), .inl (cI, 40, .inl fO)), ((ma 5), .inl (cI, 40, .inl fG)), ((ma 12), .inl (cB, 320, .inl fBa)), ((ma 13), .inl (cI, 40, .inl fBs)), ((ma 14), .inl (cB, 120, .inl fEx)), ((ma 15), .inl (cI, 40, .inl fEs)), ((ma 1), .inl (cI, 40, .inl fK)), ((ma 10), .inl (cB, 8000, .inl fT)), ((ma 11), .inl (cI, 40, .inl fTS)), ((ma 8), .inl (cB, 1200, .inl fN)), ((ma 9), .inl (cI, 40, .inl fNS)), (h0, .inr (11, MO ma sv_thrown sv_length sv_nodes sv_many sv_directories sv_runsFrom sv_runs sv_read sv_wrong sv_isNamed sv_goes sv_goesSize sv_goesAt sv_targetParts sv_isRoot)), ((ma 16), .inl (cJ, 46080, .inr (.inl G_22)))] H := hP
              have hD : va_D A [((ma 2), .inl (cI, 40, .inl fP)), ((ma 3), .inl (cI, 40, .inl fM)), ((ma 4), .inl (cI, 40, .inl fO)), ((ma 5), .inl (cI, 40, .inl fG)), ((ma 12), .inl (cB, 320, .inl fBa)), ((ma 13), .inl (cI, 40, .inl fBs)), ((ma 14), .inl (cB, 120, .inl fEx)), ((ma 15), .inl (cI, 40, .inl fEs)), ((ma 1), .inl (cI, 40, .inl fK)), ((ma 10), .inl (cB, 8000, .inl fT)), ((ma 11), .inl (cI, 40, .inl fTS)), ((ma 8), .inl (cB, 1200, .inl fN)), ((ma 9), .inl (cI, 40, .inl fNS)), (h0, .inr (11, MO ma sv_thrown sv_length sv_nodes sv_many sv_directories sv_runsFrom sv_runs sv_read sv_wrong sv_isNamed sv_goes sv_goesSize sv_goesAt sv_targetParts sv_isRoot)), ((ma 16), .inl (cJ, 46080, .inr (.inl G_22)))] := hD
              try dsimp only at hp_r21
              have hw_23 := hp_r21
              obtain ⟨v24, e_v24⟩ : ∃ z : Int32, z = k6 + 1 := ⟨_, rfl⟩
              refine lv_iinc (v := v24) hx hb d_DiscMakerModel_lay_227 hl (k := 6) rfl e_v24.symm (by decide +kernel) rfl (fun ls hl => ?_)
              have t_v24 : v24.toInt = k6.toInt + 1 := by rw [e_v24]; exact i_add rfl (by decide) (by omega) (by omega)
              have hl : lv_has ls 7 [(6, .int v24), (0, .ref h0), (1, .int x), (2, .int y), (3, .int z), (4, .int w), (5, .int r1)] := hl
              refine lv_goto (tgt := 198) hx hb d_DiscMakerModel_lay_230 (by decide) ?_
              have hP := hP.sub (ws' := [((ma 2), .inl (cI, 40, .inl fP)), ((ma 3), .inl (cI, 40, .inl fM)), ((ma 4), .inl (cI, 40, .inl fO)), ((ma 5), .inl (cI, 40, .inl fG)), ((ma 8), .inl (cB, 1200, .inl fN)), ((ma 12), .inl (cB, 320, .inl fBa)), ((ma 13), .inl (cI, 40, .inl fBs)), ((ma 14), .inl (cB, 120, .inl fEx)), ((ma 15), .inl (cI, 40, .inl fEs)), ((ma 1), .inl (cI, 40, .inl fK)), ((ma 9), .inl (cI, 40, .inl fNS)), ((ma 10), .inl (cB, 8000, .inl fT)), ((ma 11), .inl (cI, 40, .inl fTS)), (h0, .inr (11, MO ma sv_thrown sv_length sv_nodes sv_many sv_directories sv_runsFrom sv_runs sv_read sv_wrong sv_isNamed sv_goes sv_goesSize sv_goesAt sv_targetParts sv_isRoot)), ((ma 16), .inl (cJ, 46080, .inr (.inl G_22)))]) [0, 1, 2, 3, 11, 4, 5, 6, 7, 8, 12, 9, 10, 13, 14] rfl
              have hD := hD.sub (ws' := [((ma 2), .inl (cI, 40, .inl fP)), ((ma 3), .inl (cI, 40, .inl fM)), ((ma 4), .inl (cI, 40, .inl fO)), ((ma 5), .inl (cI, 40, .inl fG)), ((ma 8), .inl (cB, 1200, .inl fN)), ((ma 12), .inl (cB, 320, .inl fBa)), ((ma 13), .inl (cI, 40, .inl fBs)), ((ma 14), .inl (cB, 120, .inl fEx)), ((ma 15), .inl (cI, 40, .inl fEs)), ((ma 1), .inl (cI, 40, .inl fK)), ((ma 9), .inl (cI, 40, .inl fNS)), ((ma 10), .inl (cB, 8000, .inl fT)), ((ma 11), .inl (cI, 40, .inl fTS)), (h0, .inr (11, MO ma sv_thrown sv_length sv_nodes sv_many sv_directories sv_runsFrom sv_runs sv_read sv_wrong sv_isNamed sv_goes sv_goesSize sv_goesAt sv_targetParts sv_isRoot)), ((ma 16), .inl (cJ, 46080, .inr (.inl G_22)))]) [0, 1, 2, 3, 11, 4, 5, 6, 7, 8, 12, 9, 10, 13, 14] (by decide +kernel) rfl
              have hl := lv_sub hl [1, 2, 3, 4, 5, 6, 0] rfl
              exact ih198 _ (by first | omega | (dsimp only; omega)) v24 G_22 _ _ _ rfl ((by (try dsimp only); first | assumption | omega | trivial)) ((by (have h1 := i_cl (a := k6) (by omega)); rw [show v24.toInt.toNat = k6.toInt.toNat + 1 by omega]; exact (f8.pt (n2 := 5 + v24.toInt) (v := (nf z.toNatClampNeg 1 (0 + k6.toInt.toNat)).toInt % 256) hw_23 (by omega) (by rw [hv_20, Nat.zero_add, show k6.toNatClampNeg = k6.toInt.toNat by omega, hlN k6.toInt.toNat (by omega)]) (by omega)).cast (by rw [List.append_assoc]; rfl) rfl)) hP hD hS hl
          · skip
            intro kk198
            have hP := hP.sub (ws' := [((ma 2), .inl (cI, 40, .inl fP)), ((ma 3), .inl (cI, 40, .inl fM)), ((ma 4), .inl (cI, 40, .inl fO)), ((ma 5), .inl (cI, 40, .inl fG)), ((ma 8), .inl (cB, 1200, .inl fN)), ((ma 12), .inl (cB, 320, .inl fBa)), ((ma 13), .inl (cI, 40, .inl fBs)), ((ma 14), .inl (cB, 120, .inl fEx)), ((ma 15), .inl (cI, 40, .inl fEs)), ((ma 1), .inl (cI, 40, .inl fK)), ((ma 9), .inl (cI, 40, .inl fNS)), ((ma 10), .inl (cB, 8000, .inl fT)), ((ma 11), .inl (cI, 40, .inl fTS)), (h0, .inr (11, MO ma sv_thrown sv_length sv_nodes sv_many sv_directories sv_runsFrom sv_runs sv_read sv_wrong sv_isNamed sv_goes sv_goesSize sv_goesAt sv_targetParts sv_isRoot)), ((ma 16), .inl (cJ, 46080, .inr (.inl G_13)))]) [0, 1, 2, 3, 4, 5, 6, 7, 8, 9, 10, 11, 12, 13, 14] rfl
            have hD := hD.sub (ws' := [((ma 2), .inl (cI, 40, .inl fP)), ((ma 3), .inl (cI, 40, .inl fM)), ((ma 4), .inl (cI, 40, .inl fO)), ((ma 5), .inl (cI, 40, .inl fG)), ((ma 8), .inl (cB, 1200, .inl fN)), ((ma 12), .inl (cB, 320, .inl fBa)), ((ma 13), .inl (cI, 40, .inl fBs)), ((ma 14), .inl (cB, 120, .inl fEx)), ((ma 15), .inl (cI, 40, .inl fEs)), ((ma 1), .inl (cI, 40, .inl fK)), ((ma 9), .inl (cI, 40, .inl fNS)), ((ma 10), .inl (cB, 8000, .inl fT)), ((ma 11), .inl (cI, 40, .inl fTS)), (h0, .inr (11, MO ma sv_thrown sv_length sv_nodes sv_many sv_directories sv_runsFrom sv_runs sv_read sv_wrong sv_isNamed sv_goes sv_goesSize sv_goesAt sv_targetParts sv_isRoot)), ((ma 16), .inl (cJ, 46080, .inr (.inl G_13)))]) [0, 1, 2, 3, 4, 5, 6, 7, 8, 9, 10, 11, 12, 13, 14] (by decide +kernel) rfl
            have hl := lv_sub hl [2, 3, 4, 5, 6, 1, 0] rfl
            exact kk198 _ 0 G_13 _ _ _ rfl ((by (try dsimp only); first | assumption | omega | trivial)) ((by (have h7 := (Rn_0 (n := 0) hz9 rfl).bl (m := 4) (n2 := 4) hw_14 (by omega) rfl (by omega)); exact (h7.hole (n2 := 5) 1 (by omega) (by omega)).cast (by rw [show (0 : Int32).toInt.toNat = 0 by decide]; rfl) (by decide))) hP hD hS hl
      · skip
        have g59_13 : x.toInt = 1 := (i_eq rfl (by decide)).mp h_9
        refine lv_aload_n hx hb d_DiscMakerModel_lay_62 rfl (lv_at hl 1 rfl) ?_
        refine lv_iload hx hb d_DiscMakerModel_lay_63 (lv_at hl 5 rfl) ?_
        refine lv_bipush (v := 80) hx hb d_DiscMakerModel_lay_65 (by decide) ?_
        refine lv_bipush (v := 88) hx hb d_DiscMakerModel_lay_67 (by decide) ?_
        refine lv_bipush (v := 36) hx hb d_DiscMakerModel_lay_69 (by decide) ?_
        have hPc := hP.sub (ws' := [(h0, .inr (11, MO ma sv_thrown sv_length sv_nodes sv_many sv_directories sv_runsFrom sv_runs sv_read sv_wrong sv_isNamed sv_goes sv_goesSize sv_goesAt sv_targetParts sv_isRoot)), ((ma 16), .inl (cJ, 46080, .inr (.inl F)))]) [9, 10] rfl
        have hDc := hD.sub (ws' := [(h0, .inr (11, MO ma sv_thrown sv_length sv_nodes sv_many sv_directories sv_runsFrom sv_runs sv_read sv_wrong sv_isNamed sv_goes sv_goesSize sv_goesAt sv_targetParts sv_isRoot)), ((ma 16), .inl (cJ, 46080, .inr (.inl F)))]) [9, 10] (by decide +kernel) rfl
        have hFc := va_free (wc := [(h0, .inr (11, MO ma sv_thrown sv_length sv_nodes sv_many sv_directories sv_runsFrom sv_runs sv_read sv_wrong sv_isNamed sv_goes sv_goesSize sv_goesAt sv_targetParts sv_isRoot)), ((ma 16), .inl (cJ, 46080, .inr (.inl F)))]) hD hS hA [9, 10] rfl
        have hkc : 0 ≤ 0 := by decide
        have hks : 0 ≤ 0 := by decide
        refine va_callv (va_runV (C := "DiscMakerModel") (As := [.int w, .int 80, .int 88, .int 36]) (rest := []) ⟨hx, hb, hml, hown, hts⟩ (m_lettersF l D cB cI cJ cZ cN cF H.size h0 ma sv_thrown sv_length sv_nodes sv_many sv_directories sv_runsFrom sv_runs sv_read sv_wrong sv_isNamed sv_goes sv_goesSize sv_goesAt sv_targetParts sv_isRoot F w 80 88 36 (by (try dsimp only); first | assumption | omega | trivial) (by (try dsimp only); first | assumption | omega | trivial)) (cwV 4 hts (lg_goodV k1764 k1766 k87 k125 kc_DiscMakerModel_letters) rfl rfl rfl (by decide +kernel) ⟨Nat.le_of_ble_eq_true rfl, Nat.le_of_ble_eq_true rfl⟩) ⟨fun a U g mk q => by obtain ⟨q0, q1, qP, qK, qN, qD⟩ := q; exact ⟨q0, q1, qP, va_K.moved (u := U) (U := U.calling g mk a) (Vm.Alike.refl U.vm) qK, qN.calling, qD⟩, va_recv hK hP (ci := 11) (q0 := 9) rfl rfl, fun U hU hW => ⟨rfl, by rw [hU], by rw [hU]; exact hPc, va_K.moved hW.alike hK, NN.warm hW hN, hDc.weaken (fun _ _ _ _ => trivial)⟩⟩ rfl rfl hl.1 rfl (lv_room (Nat.le_of_ble_eq_true rfl)) d_DiscMakerModel_lay_71 ⟨hkc, hks⟩) hS (fun q _ h => hFc q h) hFc (fun u t H1 locs ht hvm hp_r25 hB hz1 hk1 hS => ?_)
        obtain ⟨G_26, rfl⟩ : ∃ z, z = u := ⟨_, rfl⟩
        obtain ⟨hP1, hD1⟩ := hB
        rw [ht] at hP1
        obtain ⟨hP, hD⟩ := va_join (wr := [((ma 2), .inl (cI, 40, .inl fP)), ((ma 3), .inl (cI, 40, .inl fM)), ((ma 4), .inl (cI, 40, .inl fO)), ((ma 5), .inl (cI, 40, .inl fG)), ((ma 8), .inl (cB, 1200, .inl fN)), ((ma 12), .inl (cB, 320, .inl fBa)), ((ma 13), .inl (cI, 40, .inl fBs)), ((ma 14), .inl (cB, 120, .inl fEx)), ((ma 15), .inl (cI, 40, .inl fEs)), ((ma 1), .inl (cI, 40, .inl fK)), ((ma 9), .inl (cI, 40, .inl fNS)), ((ma 10), .inl (cB, 8000, .inl fT)), ((ma 11), .inl (cI, 40, .inl fTS))]) (w1 := [(h0, .inr (11, MO ma sv_thrown sv_length sv_nodes sv_many sv_directories sv_runsFrom sv_runs sv_read sv_wrong sv_isNamed sv_goes sv_goesSize sv_goesAt sv_targetParts sv_isRoot)), ((ma 16), .inl (cJ, 46080, .inr (.inl G_26)))]) hP hD [9, 10] [0, 1, 2, 3, 4, 5, 6, 7, 8, 11, 12, 13, 14] rfl rfl (by decide +kernel) (by decide +kernel) hk1 hFc hP1 hD1
        clear hPc hDc hFc hP1 hD1 hk1 hz1 hkc hks
        generalize H1 = H at hP hS ⊢
        have hP : va_P D CL [((ma 2), .inl (cI, 40, .inl fP)), ((ma 3), .inl (cI, 40, .inl fM)), ((ma 4), .inl (cI, 40, .inl fO)), ((ma 5), .inl (cI, 40, .inl fG)), ((ma 8), .inl (cB, 1200, .inl fN)), ((ma 12), .inl (cB, 320, .inl fBa)), ((ma 13), .inl (cI, 40, .inl fBs)), ((ma 14), .inl (cB, 120, .inl fEx)), ((ma 15), .inl (cI, 40, .inl fEs)), ((ma 1), .inl (cI, 40, .inl fK)), ((ma 9), .inl (cI, 40, .inl fNS)), ((ma 10), .inl (cB, 8000, .inl fT)), ((ma 11), .inl (cI, 40, .inl fTS)), (h0, .inr (11, MO ma sv_thrown sv_length sv_nodes sv_many sv_directories sv_runsFrom sv_runs sv_read sv_wrong sv_isNamed sv_goes sv_goesSize sv_goesAt sv_targetParts sv_isRoot)), ((ma 16), .inl (cJ, 46080, .inr (.inl G_26)))] H := hP
        have hD : va_D A [((ma 2), .inl (cI, 40, .inl fP)), ((ma 3), .inl (cI, 40, .inl fM)), ((ma 4), .inl (cI, 40, .inl fO)), ((ma 5), .inl (cI, 40, .inl fG)), ((ma 8), .inl (cB, 1200, .inl fN)), ((ma 12), .inl (cB, 320, .inl fBa)), ((ma 13), .inl (cI, 40, .inl fBs)), ((ma 14), .inl (cB, 120, .inl fEx)), ((ma 15), .inl (cI, 40, .inl fEs)), ((ma 1), .inl (cI, 40, .inl fK)), ((ma 9), .inl (cI, 40, .inl fNS)), ((ma 10), .inl (cB, 8000, .inl fT)), ((ma 11), .inl (cI, 40, .inl fTS)), (h0, .inr (11, MO ma sv_thrown sv_length sv_nodes sv_many sv_directories sv_runsFrom sv_runs sv_read sv_wrong sv_isNamed sv_goes sv_goesSize sv_goesAt sv_targetParts sv_isRoot)), ((ma 16), .inl (cJ, 46080, .inr (.inl G_26)))] := hD
        try dsimp only at hp_r25
        have hw_27 := hp_r25
        try rw [L_36] at hw_27
        try rw [L_80] at hw_27
        try rw [L_88] at hw_27
        refine lv_aload_n hx hb d_DiscMakerModel_lay_74 rfl (lv_at hl 1 rfl) ?_
        refine lv_iload hx hb d_DiscMakerModel_lay_75 (lv_at hl 5 rfl) ?_
        refine lv_iconst (v := 4) hx hb d_DiscMakerModel_lay_77 (by decide) ?_
        refine lv_iadd hx hb d_DiscMakerModel_lay_78 ?_
        refine lv_topi (fun v28 e_v28 => ?_)
        have t_v28 : v28.toInt = w.toInt + 4 := by rw [e_v28]; exact i_add rfl (by decide) (by omega) (by omega)
        refine lv_iconst (v := 4) hx hb d_DiscMakerModel_lay_79 (by decide) ?_
        refine lv_aload_n hx hb d_DiscMakerModel_lay_80 rfl (lv_at hl 1 rfl) ?_
        refine va_get (D := D) (ci := 11) (v := .ref (ma 1)) (C := "DiscMakerModel") (T := F_DiscMakerModel) (N := 48) hx hb ht9 in_DiscMakerModel hown hK hP 13 rfl rfl 4 (by decide) (ht9 _ k1435) (fun _ h9 => h9) rfl d_DiscMakerModel_lay_81 ?_
        refine lv_iload_n hx hb d_DiscMakerModel_lay_84 rfl (lv_at hl 4 rfl) ?_
        refine va_iald hx hb hK hP 9 1 rfl rfl (vp_in_iff.mpr ⟨by omega, by omega⟩) d_DiscMakerModel_lay_85 ?_
        refine lv_topi (fun v29 e_v29 => ?_)
        have t_v29 : 0 ≤ v29.toInt ∧ v29.toInt ≤ 2 := by
          rw [e_v29]; exact hKi _ (by have := i_cl (a := z) (by omega); omega)
        refine lv_if_ne (tgt := 95) hx hb d_DiscMakerModel_lay_86 (by decide) (fun h_9 => ?_) (fun h_9 => ?_)
        · skip
          have g86_78 : ¬ v29.toInt = 0 := fun h8 => h_9 ((i_eq rfl (by decide)).mpr h8)
          refine lv_aload_n hx hb d_DiscMakerModel_lay_95 rfl (lv_at hl 1 rfl) ?_
          refine va_get (D := D) (ci := 11) (v := .ref (ma 1)) (C := "DiscMakerModel") (T := F_DiscMakerModel) (N := 48) hx hb ht9 in_DiscMakerModel hown hK hP 13 rfl rfl 4 (by decide) (ht9 _ k1435) (fun _ h9 => h9) rfl d_DiscMakerModel_lay_96 ?_
          refine lv_iload_n hx hb d_DiscMakerModel_lay_99 rfl (lv_at hl 4 rfl) ?_
          refine va_iald hx hb hK hP 9 1 rfl rfl (vp_in_iff.mpr ⟨by omega, by omega⟩) d_DiscMakerModel_lay_100 ?_
          refine lv_topi (fun v30 e_v30 => ?_)
          have t_v30 : 0 ≤ v30.toInt ∧ v30.toInt ≤ 2 := by
            rw [e_v30]; exact hKi _ (by have := i_cl (a := z) (by omega); omega)
          have q_v30 : v30.toInt = v29.toInt := by rw [e_v30, e_v29]
          refine lv_iconst (v := 1) hx hb d_DiscMakerModel_lay_101 (by decide) ?_
          refine lv_icmp_ne (tgt := 111) hx hb d_DiscMakerModel_lay_102 (by decide) (fun h_9 => ?_) (fun h_9 => ?_)
          · skip
            have g102_84 : ¬ v30.toInt = 1 := fun h8 => h_9 ((i_eq rfl (by decide)).mpr h8)
            refine lv_ldcw (v := 40960) hx hb hown (ht9 _ k1769) d_DiscMakerModel_lay_111 ?_
            refine lv_aload_n hx hb d_DiscMakerModel_lay_114 rfl (lv_at hl 1 rfl) ?_
            refine va_get (D := D) (ci := 11) (v := .ref (ma 3)) (C := "DiscMakerModel") (T := F_DiscMakerModel) (N := 48) hx hb ht9 in_DiscMakerModel hown hK hP 13 rfl rfl 6 (by decide) (ht9 _ k1437) (fun _ h9 => h9) rfl d_DiscMakerModel_lay_115 ?_
            refine lv_iload_n hx hb d_DiscMakerModel_lay_118 rfl (lv_at hl 4 rfl) ?_
            refine va_iald hx hb hK hP 1 1 rfl rfl (vp_in_iff.mpr ⟨by omega, by omega⟩) d_DiscMakerModel_lay_119 ?_
            refine lv_topi (fun v31 e_v31 => ?_)
            refine lv_sipush (v := 4096) hx hb d_DiscMakerModel_lay_120 (by decide) ?_
            refine lv_irem hx hb d_DiscMakerModel_lay_123 (by decide) ?_
            refine lv_topi (fun v32 e_v32 => ?_)
            refine lv_iadd hx hb d_DiscMakerModel_lay_124 ?_
            refine lv_topi (fun v33 e_v33 => ?_)
            have hPc := hP.sub (ws' := [(h0, .inr (11, MO ma sv_thrown sv_length sv_nodes sv_many sv_directories sv_runsFrom sv_runs sv_read sv_wrong sv_isNamed sv_goes sv_goesSize sv_goesAt sv_targetParts sv_isRoot)), ((ma 16), .inl (cJ, 46080, .inr (.inl G_26)))]) [13, 14] rfl
            have hDc := hD.sub (ws' := [(h0, .inr (11, MO ma sv_thrown sv_length sv_nodes sv_many sv_directories sv_runsFrom sv_runs sv_read sv_wrong sv_isNamed sv_goes sv_goesSize sv_goesAt sv_targetParts sv_isRoot)), ((ma 16), .inl (cJ, 46080, .inr (.inl G_26)))]) [13, 14] (by decide +kernel) rfl
            have hFc := va_free (wc := [(h0, .inr (11, MO ma sv_thrown sv_length sv_nodes sv_many sv_directories sv_runsFrom sv_runs sv_read sv_wrong sv_isNamed sv_goes sv_goesSize sv_goesAt sv_targetParts sv_isRoot)), ((ma 16), .inl (cJ, 46080, .inr (.inl G_26)))]) hD hS hA [13, 14] rfl
            have hkc : 0 ≤ 0 := by decide
            have hks : 0 ≤ 0 := by decide
            refine va_callv (va_runV (C := "DiscMakerModel") (As := [.int v28, .int 4, .int v33]) (rest := []) ⟨hx, hb, hml, hown, hts⟩ (m_both4F l D cB cI cJ cZ cN cF H.size h0 ma sv_thrown sv_length sv_nodes sv_many sv_directories sv_runsFrom sv_runs sv_read sv_wrong sv_isNamed sv_goes sv_goesSize sv_goesAt sv_targetParts sv_isRoot G_26 v28 v33 (by (try dsimp only); first | assumption | omega | trivial) (by (try dsimp only); first | assumption | omega | trivial)) (cwV 3 hts (lg_goodV k1740 k1742 k81 k125 kc_DiscMakerModel_both) rfl rfl rfl (by decide +kernel) ⟨Nat.le_of_ble_eq_true rfl, Nat.le_of_ble_eq_true rfl⟩) ⟨fun a U g mk q => by obtain ⟨q0, q1, qP, qK, qN, qD⟩ := q; exact ⟨q0, q1, qP, va_K.moved (u := U) (U := U.calling g mk a) (Vm.Alike.refl U.vm) qK, qN.calling, qD⟩, va_recv hK hP (ci := 11) (q0 := 13) rfl rfl, fun U hU hW => ⟨rfl, by rw [hU], by rw [hU]; exact hPc, va_K.moved hW.alike hK, NN.warm hW hN, hDc.weaken (fun _ _ _ _ => trivial)⟩⟩ rfl rfl hl.1 rfl (lv_room (Nat.le_of_ble_eq_true rfl)) d_DiscMakerModel_lay_125 ⟨hkc, hks⟩) hS (fun q _ h => hFc q h) hFc (fun u t H1 locs ht hvm hp_r34 hB hz1 hk1 hS => ?_)
            obtain ⟨G_35, rfl⟩ : ∃ z, z = u := ⟨_, rfl⟩
            obtain ⟨hP1, hD1⟩ := hB
            rw [ht] at hP1
            obtain ⟨hP, hD⟩ := va_join (wr := [((ma 2), .inl (cI, 40, .inl fP)), ((ma 3), .inl (cI, 40, .inl fM)), ((ma 4), .inl (cI, 40, .inl fO)), ((ma 5), .inl (cI, 40, .inl fG)), ((ma 8), .inl (cB, 1200, .inl fN)), ((ma 12), .inl (cB, 320, .inl fBa)), ((ma 13), .inl (cI, 40, .inl fBs)), ((ma 14), .inl (cB, 120, .inl fEx)), ((ma 15), .inl (cI, 40, .inl fEs)), ((ma 1), .inl (cI, 40, .inl fK)), ((ma 9), .inl (cI, 40, .inl fNS)), ((ma 10), .inl (cB, 8000, .inl fT)), ((ma 11), .inl (cI, 40, .inl fTS))]) (w1 := [(h0, .inr (11, MO ma sv_thrown sv_length sv_nodes sv_many sv_directories sv_runsFrom sv_runs sv_read sv_wrong sv_isNamed sv_goes sv_goesSize sv_goesAt sv_targetParts sv_isRoot)), ((ma 16), .inl (cJ, 46080, .inr (.inl G_35)))]) hP hD [13, 14] [0, 1, 2, 3, 4, 5, 6, 7, 8, 9, 10, 11, 12] rfl rfl (by decide +kernel) (by decide +kernel) hk1 hFc hP1 hD1
            clear hPc hDc hFc hP1 hD1 hk1 hz1 hkc hks
            generalize H1 = H at hP hS ⊢
            have hP : va_P D CL [((ma 2), .inl (cI, 40, .inl fP)), ((ma 3), .inl (cI, 40, .inl fM)), ((ma 4), .inl (cI, 40, .inl fO)), ((ma 5), .inl (cI, 40, .inl fG)), ((ma 8), .inl (cB, 1200, .inl fN)), ((ma 12), .inl (cB, 320, .inl fBa)), ((ma 13), .inl (cI, 40, .inl fBs)), ((ma 14), .inl (cB, 120, .inl fEx)), ((ma 15), .inl (cI, 40, .inl fEs)), ((ma 1), .inl (cI, 40, .inl fK)), ((ma 9), .inl (cI, 40, .inl fNS)), ((ma 10), .inl (cB, 8000, .inl fT)), ((ma 11), .inl (cI, 40, .inl fTS)), (h0, .inr (11, MO ma sv_thrown sv_length sv_nodes sv_many sv_directories sv_runsFrom sv_runs sv_read sv_wrong sv_isNamed sv_goes sv_goesSize sv_goesAt sv_targetParts sv_isRoot)), ((ma 16), .inl (cJ, 46080, .inr (.inl G_35)))] H := hP
            have hD : va_D A [((ma 2), .inl (cI, 40, .inl fP)), ((ma 3), .inl (cI, 40, .inl fM)), ((ma 4), .inl (cI, 40, .inl fO)), ((ma 5), .inl (cI, 40, .inl fG)), ((ma 8), .inl (cB, 1200, .inl fN)), ((ma 12), .inl (cB, 320, .inl fBa)), ((ma 13), .inl (cI, 40, .inl fBs)), ((ma 14), .inl (cB, 120, .inl fEx)), ((ma 15), .inl (cI, 40, .inl fEs)), ((ma 1), .inl (cI, 40, .inl fK)), ((ma 9), .inl (cI, 40, .inl fNS)), ((ma 10), .inl (cB, 8000, .inl fT)), ((ma 11), .inl (cI, 40, .inl fTS)), (h0, .inr (11, MO ma sv_thrown sv_length sv_nodes sv_many sv_directories sv_runsFrom sv_runs sv_read sv_wrong sv_isNamed sv_goes sv_goesSize sv_goesAt sv_targetParts sv_isRoot)), ((ma 16), .inl (cJ, 46080, .inr (.inl G_35)))] := hD
            try dsimp only at hp_r34
            have hw_36 := hp_r34
            refine lv_aload_n hx hb d_DiscMakerModel_lay_128 rfl (lv_at hl 1 rfl) ?_
            refine lv_iload hx hb d_DiscMakerModel_lay_129 (lv_at hl 5 rfl) ?_
            refine lv_bipush (v := 12) hx hb d_DiscMakerModel_lay_131 (by decide) ?_
            refine lv_iadd hx hb d_DiscMakerModel_lay_133 ?_
            refine lv_topi (fun v37 e_v37 => ?_)
            have t_v37 : v37.toInt = w.toInt + 12 := by rw [e_v37]; exact i_add rfl (by decide) (by omega) (by omega)
            refine lv_iconst (v := 4) hx hb d_DiscMakerModel_lay_134 (by decide) ?_
            refine lv_aload_n hx hb d_DiscMakerModel_lay_135 rfl (lv_at hl 1 rfl) ?_
            refine lv_iload_n hx hb d_DiscMakerModel_lay_136 rfl (lv_at hl 4 rfl) ?_
            have hPc := hP.sub (ws' := [(h0, .inr (11, MO ma sv_thrown sv_length sv_nodes sv_many sv_directories sv_runsFrom sv_runs sv_read sv_wrong sv_isNamed sv_goes sv_goesSize sv_goesAt sv_targetParts sv_isRoot)), ((ma 1), .inl (cI, 40, .inl fK)), ((ma 2), .inl (cI, 40, .inl fP))]) [13, 9, 0] rfl
            have hDc := hD.sub (ws' := [(h0, .inr (11, MO ma sv_thrown sv_length sv_nodes sv_many sv_directories sv_runsFrom sv_runs sv_read sv_wrong sv_isNamed sv_goes sv_goesSize sv_goesAt sv_targetParts sv_isRoot)), ((ma 1), .inl (cI, 40, .inl fK)), ((ma 2), .inl (cI, 40, .inl fP))]) [13, 9, 0] (by decide +kernel) rfl
            have hFc := va_free (wc := [(h0, .inr (11, MO ma sv_thrown sv_length sv_nodes sv_many sv_directories sv_runsFrom sv_runs sv_read sv_wrong sv_isNamed sv_goes sv_goesSize sv_goesAt sv_targetParts sv_isRoot)), ((ma 1), .inl (cI, 40, .inl fK)), ((ma 2), .inl (cI, 40, .inl fP))]) hD hS hA [13, 9, 0] rfl
            have hkc : 0 ≤ 0 := by decide
            have hks : 0 ≤ 0 := by decide
            refine va_calli (va_runV (C := "DiscMakerModel") (As := [.int z]) (rest := [.int 4, .int v37, .ref h0]) ⟨hx, hb, hml, hown, hts⟩ (m_linksF l D cB cI cJ cZ cN cF H.size h0 ma sv_thrown sv_length sv_nodes sv_many sv_directories sv_runsFrom sv_runs sv_read sv_wrong sv_isNamed sv_goes sv_goesSize sv_goesAt sv_targetParts sv_isRoot fK fP dt z (by (try dsimp only); first | assumption | omega | trivial) (by (try dsimp only); first | assumption | omega | trivial) (hl0.2.1) (hdp)) (cwV 1 hts (lg_goodV k1770 k1772 k88 k125 kc_DiscMakerModel_links) rfl rfl rfl (by decide +kernel) ⟨Nat.le_of_ble_eq_true rfl, Nat.le_of_ble_eq_true rfl⟩) ⟨fun a U g mk q => by obtain ⟨q0, q1, qP, qK, qN, qD⟩ := q; exact ⟨q0, q1, qP, va_K.moved (u := U) (U := U.calling g mk a) (Vm.Alike.refl U.vm) qK, qN.calling, qD⟩, va_recv hK hP (ci := 11) (q0 := 13) rfl rfl, fun U hU hW => ⟨rfl, by rw [hU], by rw [hU]; exact hPc, va_K.moved hW.alike hK, NN.warm hW hN, hDc.weaken (fun _ _ _ _ => trivial)⟩⟩ rfl rfl hl.1 rfl (lv_room (Nat.le_of_ble_eq_true rfl)) d_DiscMakerModel_lay_137 ⟨hkc, hks⟩) hS (fun q _ h => hFc q h) hFc (fun r38 u t H1 locs ht hvm hp_r38 hB hz1 hk1 hS => ?_)
            obtain ⟨hP1, hD1⟩ := hB
            rw [ht] at hP1
            obtain ⟨hP, hD⟩ := va_join (wr := [((ma 3), .inl (cI, 40, .inl fM)), ((ma 4), .inl (cI, 40, .inl fO)), ((ma 5), .inl (cI, 40, .inl fG)), ((ma 8), .inl (cB, 1200, .inl fN)), ((ma 12), .inl (cB, 320, .inl fBa)), ((ma 13), .inl (cI, 40, .inl fBs)), ((ma 14), .inl (cB, 120, .inl fEx)), ((ma 15), .inl (cI, 40, .inl fEs)), ((ma 9), .inl (cI, 40, .inl fNS)), ((ma 10), .inl (cB, 8000, .inl fT)), ((ma 11), .inl (cI, 40, .inl fTS)), ((ma 16), .inl (cJ, 46080, .inr (.inl G_35)))]) (w1 := [(h0, .inr (11, MO ma sv_thrown sv_length sv_nodes sv_many sv_directories sv_runsFrom sv_runs sv_read sv_wrong sv_isNamed sv_goes sv_goesSize sv_goesAt sv_targetParts sv_isRoot)), ((ma 1), .inl (cI, 40, .inl fK)), ((ma 2), .inl (cI, 40, .inl fP))]) hP hD [13, 9, 0] [1, 2, 3, 4, 5, 6, 7, 8, 10, 11, 12, 14] rfl rfl (by decide +kernel) (by decide +kernel) hk1 hFc hP1 hD1
            clear hPc hDc hFc hP1 hD1 hk1 hz1 hkc hks
            generalize H1 = H at hP hS ⊢
            have hP : va_P D CL [((ma 3), .inl (cI, 40, .inl fM)), ((ma 4), .inl (cI, 40, .inl fO)), ((ma 5), .inl (cI, 40, .inl fG)), ((ma 8), .inl (cB, 1200, .inl fN)), ((ma 12), .inl (cB, 320, .inl fBa)), ((ma 13), .inl (cI, 40, .inl fBs)), ((ma 14), .inl (cB, 120, .inl fEx)), ((ma 15), .inl (cI, 40, .inl fEs)), ((ma 9), .inl (cI, 40, .inl fNS)), ((ma 10), .inl (cB, 8000, .inl fT)), ((ma 11), .inl (cI, 40, .inl fTS)), ((ma 16), .inl (cJ, 46080, .inr (.inl G_35))), (h0, .inr (11, MO ma sv_thrown sv_length sv_nodes sv_many sv_directories sv_runsFrom sv_runs sv_read sv_wrong sv_isNamed sv_goes sv_goesSize sv_goesAt sv_targetParts sv_isRoot)), ((ma 1), .inl (cI, 40, .inl fK)), ((ma 2), .inl (cI, 40, .inl fP))] H := hP
            have hD : va_D A [((ma 3), .inl (cI, 40, .inl fM)), ((ma 4), .inl (cI, 40, .inl fO)), ((ma 5), .inl (cI, 40, .inl fG)), ((ma 8), .inl (cB, 1200, .inl fN)), ((ma 12), .inl (cB, 320, .inl fBa)), ((ma 13), .inl (cI, 40, .inl fBs)), ((ma 14), .inl (cB, 120, .inl fEx)), ((ma 15), .inl (cI, 40, .inl fEs)), ((ma 9), .inl (cI, 40, .inl fNS)), ((ma 10), .inl (cB, 8000, .inl fT)), ((ma 11), .inl (cI, 40, .inl fTS)), ((ma 16), .inl (cJ, 46080, .inr (.inl G_35))), (h0, .inr (11, MO ma sv_thrown sv_length sv_nodes sv_many sv_directories sv_runsFrom sv_runs sv_read sv_wrong sv_isNamed sv_goes sv_goesSize sv_goesAt sv_targetParts sv_isRoot)), ((ma 1), .inl (cI, 40, .inl fK)), ((ma 2), .inl (cI, 40, .inl fP))] := hD
            try dsimp only at hp_r38
            have hv_39 := hp_r38
            have hPc := hP.sub (ws' := [(h0, .inr (11, MO ma sv_thrown sv_length sv_nodes sv_many sv_directories sv_runsFrom sv_runs sv_read sv_wrong sv_isNamed sv_goes sv_goesSize sv_goesAt sv_targetParts sv_isRoot)), ((ma 16), .inl (cJ, 46080, .inr (.inl G_35)))]) [12, 11] rfl
            have hDc := hD.sub (ws' := [(h0, .inr (11, MO ma sv_thrown sv_length sv_nodes sv_many sv_directories sv_runsFrom sv_runs sv_read sv_wrong sv_isNamed sv_goes sv_goesSize sv_goesAt sv_targetParts sv_isRoot)), ((ma 16), .inl (cJ, 46080, .inr (.inl G_35)))]) [12, 11] (by decide +kernel) rfl
            have hFc := va_free (wc := [(h0, .inr (11, MO ma sv_thrown sv_length sv_nodes sv_many sv_directories sv_runsFrom sv_runs sv_read sv_wrong sv_isNamed sv_goes sv_goesSize sv_goesAt sv_targetParts sv_isRoot)), ((ma 16), .inl (cJ, 46080, .inr (.inl G_35)))]) hD hS hA [12, 11] rfl
            have hkc : 0 ≤ 0 := by decide
            have hks : 0 ≤ 0 := by decide
            refine va_callv (va_runV (C := "DiscMakerModel") (As := [.int v37, .int 4, .int r38]) (rest := []) ⟨hx, hb, hml, hown, hts⟩ (m_both4F l D cB cI cJ cZ cN cF H.size h0 ma sv_thrown sv_length sv_nodes sv_many sv_directories sv_runsFrom sv_runs sv_read sv_wrong sv_isNamed sv_goes sv_goesSize sv_goesAt sv_targetParts sv_isRoot G_35 v37 r38 (by (try dsimp only); first | assumption | omega | trivial) (by (try dsimp only); first | assumption | omega | trivial)) (cwV 3 hts (lg_goodV k1740 k1742 k81 k125 kc_DiscMakerModel_both) rfl rfl rfl (by decide +kernel) ⟨Nat.le_of_ble_eq_true rfl, Nat.le_of_ble_eq_true rfl⟩) ⟨fun a U g mk q => by obtain ⟨q0, q1, qP, qK, qN, qD⟩ := q; exact ⟨q0, q1, qP, va_K.moved (u := U) (U := U.calling g mk a) (Vm.Alike.refl U.vm) qK, qN.calling, qD⟩, va_recv hK hP (ci := 11) (q0 := 12) rfl rfl, fun U hU hW => ⟨rfl, by rw [hU], by rw [hU]; exact hPc, va_K.moved hW.alike hK, NN.warm hW hN, hDc.weaken (fun _ _ _ _ => trivial)⟩⟩ rfl rfl hl.1 rfl (lv_room (Nat.le_of_ble_eq_true rfl)) d_DiscMakerModel_lay_140 ⟨hkc, hks⟩) hS (fun q _ h => hFc q h) hFc (fun u t H1 locs ht hvm hp_r40 hB hz1 hk1 hS => ?_)
            obtain ⟨G_41, rfl⟩ : ∃ z, z = u := ⟨_, rfl⟩
            obtain ⟨hP1, hD1⟩ := hB
            rw [ht] at hP1
            obtain ⟨hP, hD⟩ := va_join (wr := [((ma 3), .inl (cI, 40, .inl fM)), ((ma 4), .inl (cI, 40, .inl fO)), ((ma 5), .inl (cI, 40, .inl fG)), ((ma 8), .inl (cB, 1200, .inl fN)), ((ma 12), .inl (cB, 320, .inl fBa)), ((ma 13), .inl (cI, 40, .inl fBs)), ((ma 14), .inl (cB, 120, .inl fEx)), ((ma 15), .inl (cI, 40, .inl fEs)), ((ma 9), .inl (cI, 40, .inl fNS)), ((ma 10), .inl (cB, 8000, .inl fT)), ((ma 11), .inl (cI, 40, .inl fTS)), ((ma 1), .inl (cI, 40, .inl fK)), ((ma 2), .inl (cI, 40, .inl fP))]) (w1 := [(h0, .inr (11, MO ma sv_thrown sv_length sv_nodes sv_many sv_directories sv_runsFrom sv_runs sv_read sv_wrong sv_isNamed sv_goes sv_goesSize sv_goesAt sv_targetParts sv_isRoot)), ((ma 16), .inl (cJ, 46080, .inr (.inl G_41)))]) hP hD [12, 11] [0, 1, 2, 3, 4, 5, 6, 7, 8, 9, 10, 13, 14] rfl rfl (by decide +kernel) (by decide +kernel) hk1 hFc hP1 hD1
            clear hPc hDc hFc hP1 hD1 hk1 hz1 hkc hks
            generalize H1 = H at hP hS ⊢
            have hP : va_P D CL [((ma 3), .inl (cI, 40, .inl fM)), ((ma 4), .inl (cI, 40, .inl fO)), ((ma 5), .inl (cI, 40, .inl fG)), ((ma 8), .inl (cB, 1200, .inl fN)), ((ma 12), .inl (cB, 320, .inl fBa)), ((ma 13), .inl (cI, 40, .inl fBs)), ((ma 14), .inl (cB, 120, .inl fEx)), ((ma 15), .inl (cI, 40, .inl fEs)), ((ma 9), .inl (cI, 40, .inl fNS)), ((ma 10), .inl (cB, 8000, .inl fT)), ((ma 11), .inl (cI, 40, .inl fTS)), ((ma 1), .inl (cI, 40, .inl fK)), ((ma 2), .inl (cI, 40, .inl fP)), (h0, .inr (11, MO ma sv_thrown sv_length sv_nodes sv_many sv_directories sv_runsFrom sv_runs sv_read sv_wrong sv_isNamed sv_goes sv_goesSize sv_goesAt sv_targetParts sv_isRoot)), ((ma 16), .inl (cJ, 46080, .inr (.inl G_41)))] H := hP
            have hD : va_D A [((ma 3), .inl (cI, 40, .inl fM)), ((ma 4), .inl (cI, 40, .inl fO)), ((ma 5), .inl (cI, 40, .inl fG)), ((ma 8), .inl (cB, 1200, .inl fN)), ((ma 12), .inl (cB, 320, .inl fBa)), ((ma 13), .inl (cI, 40, .inl fBs)), ((ma 14), .inl (cB, 120, .inl fEx)), ((ma 15), .inl (cI, 40, .inl fEs)), ((ma 9), .inl (cI, 40, .inl fNS)), ((ma 10), .inl (cB, 8000, .inl fT)), ((ma 11), .inl (cI, 40, .inl fTS)), ((ma 1), .inl (cI, 40, .inl fK)), ((ma 2), .inl (cI, 40, .inl fP)), (h0, .inr (11, MO ma sv_thrown sv_length sv_nodes sv_many sv_directories sv_runsFrom sv_runs sv_read sv_wrong sv_isNamed sv_goes sv_goesSize sv_goesAt sv_targetParts sv_isRoot)), ((ma 16), .inl (cJ, 46080, .inr (.inl G_41)))] := hD
            try dsimp only at hp_r40
            have hw_42 := hp_r40
            refine lv_aload_n hx hb d_DiscMakerModel_lay_143 rfl (lv_at hl 1 rfl) ?_
            refine lv_iload hx hb d_DiscMakerModel_lay_144 (lv_at hl 5 rfl) ?_
            refine lv_bipush (v := 20) hx hb d_DiscMakerModel_lay_146 (by decide) ?_
            refine lv_iadd hx hb d_DiscMakerModel_lay_148 ?_
            refine lv_topi (fun v43 e_v43 => ?_)
            have t_v43 : v43.toInt = w.toInt + 20 := by rw [e_v43]; exact i_add rfl (by decide) (by omega) (by omega)
            refine lv_iconst (v := 4) hx hb d_DiscMakerModel_lay_149 (by decide) ?_
            refine lv_aload_n hx hb d_DiscMakerModel_lay_150 rfl (lv_at hl 1 rfl) ?_
            refine va_get (D := D) (ci := 11) (v := .ref (ma 4)) (C := "DiscMakerModel") (T := F_DiscMakerModel) (N := 48) hx hb ht9 in_DiscMakerModel hown hK hP 13 rfl rfl 7 (by decide) (ht9 _ k1438) (fun _ h9 => h9) rfl d_DiscMakerModel_lay_151 ?_
            refine lv_iload_n hx hb d_DiscMakerModel_lay_154 rfl (lv_at hl 4 rfl) ?_
            refine va_iald hx hb hK hP 1 1 rfl rfl (vp_in_iff.mpr ⟨by omega, by omega⟩) d_DiscMakerModel_lay_155 ?_
            refine lv_topi (fun v44 e_v44 => ?_)
            have hPc := hP.sub (ws' := [(h0, .inr (11, MO ma sv_thrown sv_length sv_nodes sv_many sv_directories sv_runsFrom sv_runs sv_read sv_wrong sv_isNamed sv_goes sv_goesSize sv_goesAt sv_targetParts sv_isRoot)), ((ma 16), .inl (cJ, 46080, .inr (.inl G_41)))]) [13, 14] rfl
            have hDc := hD.sub (ws' := [(h0, .inr (11, MO ma sv_thrown sv_length sv_nodes sv_many sv_directories sv_runsFrom sv_runs sv_read sv_wrong sv_isNamed sv_goes sv_goesSize sv_goesAt sv_targetParts sv_isRoot)), ((ma 16), .inl (cJ, 46080, .inr (.inl G_41)))]) [13, 14] (by decide +kernel) rfl
            have hFc := va_free (wc := [(h0, .inr (11, MO ma sv_thrown sv_length sv_nodes sv_many sv_directories sv_runsFrom sv_runs sv_read sv_wrong sv_isNamed sv_goes sv_goesSize sv_goesAt sv_targetParts sv_isRoot)), ((ma 16), .inl (cJ, 46080, .inr (.inl G_41)))]) hD hS hA [13, 14] rfl
            have hkc : 0 ≤ 0 := by decide
            have hks : 0 ≤ 0 := by decide
            refine va_callv (va_runV (C := "DiscMakerModel") (As := [.int v43, .int 4, .int v44]) (rest := []) ⟨hx, hb, hml, hown, hts⟩ (m_both4F l D cB cI cJ cZ cN cF H.size h0 ma sv_thrown sv_length sv_nodes sv_many sv_directories sv_runsFrom sv_runs sv_read sv_wrong sv_isNamed sv_goes sv_goesSize sv_goesAt sv_targetParts sv_isRoot G_41 v43 v44 (by (try dsimp only); first | assumption | omega | trivial) (by (try dsimp only); first | assumption | omega | trivial)) (cwV 3 hts (lg_goodV k1740 k1742 k81 k125 kc_DiscMakerModel_both) rfl rfl rfl (by decide +kernel) ⟨Nat.le_of_ble_eq_true rfl, Nat.le_of_ble_eq_true rfl⟩) ⟨fun a U g mk q => by obtain ⟨q0, q1, qP, qK, qN, qD⟩ := q; exact ⟨q0, q1, qP, va_K.moved (u := U) (U := U.calling g mk a) (Vm.Alike.refl U.vm) qK, qN.calling, qD⟩, va_recv hK hP (ci := 11) (q0 := 13) rfl rfl, fun U hU hW => ⟨rfl, by rw [hU], by rw [hU]; exact hPc, va_K.moved hW.alike hK, NN.warm hW hN, hDc.weaken (fun _ _ _ _ => trivial)⟩⟩ rfl rfl hl.1 rfl (lv_room (Nat.le_of_ble_eq_true rfl)) d_DiscMakerModel_lay_156 ⟨hkc, hks⟩) hS (fun q _ h => hFc q h) hFc (fun u t H1 locs ht hvm hp_r45 hB hz1 hk1 hS => ?_)
            obtain ⟨G_46, rfl⟩ : ∃ z, z = u := ⟨_, rfl⟩
            obtain ⟨hP1, hD1⟩ := hB
            rw [ht] at hP1
            obtain ⟨hP, hD⟩ := va_join (wr := [((ma 3), .inl (cI, 40, .inl fM)), ((ma 4), .inl (cI, 40, .inl fO)), ((ma 5), .inl (cI, 40, .inl fG)), ((ma 8), .inl (cB, 1200, .inl fN)), ((ma 12), .inl (cB, 320, .inl fBa)), ((ma 13), .inl (cI, 40, .inl fBs)), ((ma 14), .inl (cB, 120, .inl fEx)), ((ma 15), .inl (cI, 40, .inl fEs)), ((ma 9), .inl (cI, 40, .inl fNS)), ((ma 10), .inl (cB, 8000, .inl fT)), ((ma 11), .inl (cI, 40, .inl fTS)), ((ma 1), .inl (cI, 40, .inl fK)), ((ma 2), .inl (cI, 40, .inl fP))]) (w1 := [(h0, .inr (11, MO ma sv_thrown sv_length sv_nodes sv_many sv_directories sv_runsFrom sv_runs sv_read sv_wrong sv_isNamed sv_goes sv_goesSize sv_goesAt sv_targetParts sv_isRoot)), ((ma 16), .inl (cJ, 46080, .inr (.inl G_46)))]) hP hD [13, 14] [0, 1, 2, 3, 4, 5, 6, 7, 8, 9, 10, 11, 12] rfl rfl (by decide +kernel) (by decide +kernel) hk1 hFc hP1 hD1
            clear hPc hDc hFc hP1 hD1 hk1 hz1 hkc hks
            generalize H1 = H at hP hS ⊢
            have hP : va_P D CL [((ma 3), .inl (cI, 40, .inl fM)), ((ma 4), .inl (cI, 40, .inl fO)), ((ma 5), .inl (cI, 40, .inl fG)), ((ma 8), .inl (cB, 1200, .inl fN)), ((ma 12), .inl (cB, 320, .inl fBa)), ((ma 13), .inl (cI, 40, .inl fBs)), ((ma 14), .inl (cB, 120, .inl fEx)), ((ma 15), .inl (cI, 40, .inl fEs)), ((ma 9), .inl (cI, 40, .inl fNS)), ((ma 10), .inl (cB, 8000, .inl fT)), ((ma 11), .inl (cI, 40, .inl fTS)), ((ma 1), .inl (cI, 40, .inl fK)), ((ma 2), .inl (cI, 40, .inl fP)), (h0, .inr (11, MO ma sv_thrown sv_length sv_nodes sv_many sv_directories sv_runsFrom sv_runs sv_read sv_wrong sv_isNamed sv_goes sv_goesSize sv_goesAt sv_targetParts sv_isRoot)), ((ma 16), .inl (cJ, 46080, .inr (.inl G_46)))] H := hP
            have hD : va_D A [((ma 3), .inl (cI, 40, .inl fM)), ((ma 4), .inl (cI, 40, .inl fO)), ((ma 5), .inl (cI, 40, .inl fG)), ((ma 8), .inl (cB, 1200, .inl fN)), ((ma 12), .inl (cB, 320, .inl fBa)), ((ma 13), .inl (cI, 40, .inl fBs)), ((ma 14), .inl (cB, 120, .inl fEx)), ((ma 15), .inl (cI, 40, .inl fEs)), ((ma 9), .inl (cI, 40, .inl fNS)), ((ma 10), .inl (cB, 8000, .inl fT)), ((ma 11), .inl (cI, 40, .inl fTS)), ((ma 1), .inl (cI, 40, .inl fK)), ((ma 2), .inl (cI, 40, .inl fP)), (h0, .inr (11, MO ma sv_thrown sv_length sv_nodes sv_many sv_directories sv_runsFrom sv_runs sv_read sv_wrong sv_isNamed sv_goes sv_goesSize sv_goesAt sv_targetParts sv_isRoot)), ((ma 16), .inl (cJ, 46080, .inr (.inl G_46)))] := hD
            try dsimp only at hp_r45
            have hw_47 := hp_r45
            refine lv_aload_n hx hb d_DiscMakerModel_lay_159 rfl (lv_at hl 1 rfl) ?_
            refine lv_iload hx hb d_DiscMakerModel_lay_160 (lv_at hl 5 rfl) ?_
            refine lv_bipush (v := 28) hx hb d_DiscMakerModel_lay_162 (by decide) ?_
            refine lv_iadd hx hb d_DiscMakerModel_lay_164 ?_
            refine lv_topi (fun v48 e_v48 => ?_)
            have t_v48 : v48.toInt = w.toInt + 28 := by rw [e_v48]; exact i_add rfl (by decide) (by omega) (by omega)
            refine lv_iconst (v := 4) hx hb d_DiscMakerModel_lay_165 (by decide) ?_
            refine lv_aload_n hx hb d_DiscMakerModel_lay_166 rfl (lv_at hl 1 rfl) ?_
            refine va_get (D := D) (ci := 11) (v := .ref (ma 5)) (C := "DiscMakerModel") (T := F_DiscMakerModel) (N := 48) hx hb ht9 in_DiscMakerModel hown hK hP 13 rfl rfl 8 (by decide) (ht9 _ k1439) (fun _ h9 => h9) rfl d_DiscMakerModel_lay_167 ?_
            refine lv_iload_n hx hb d_DiscMakerModel_lay_170 rfl (lv_at hl 4 rfl) ?_
            refine va_iald hx hb hK hP 2 1 rfl rfl (vp_in_iff.mpr ⟨by omega, by omega⟩) d_DiscMakerModel_lay_171 ?_
            refine lv_topi (fun v49 e_v49 => ?_)
            have hPc := hP.sub (ws' := [(h0, .inr (11, MO ma sv_thrown sv_length sv_nodes sv_many sv_directories sv_runsFrom sv_runs sv_read sv_wrong sv_isNamed sv_goes sv_goesSize sv_goesAt sv_targetParts sv_isRoot)), ((ma 16), .inl (cJ, 46080, .inr (.inl G_46)))]) [13, 14] rfl
            have hDc := hD.sub (ws' := [(h0, .inr (11, MO ma sv_thrown sv_length sv_nodes sv_many sv_directories sv_runsFrom sv_runs sv_read sv_wrong sv_isNamed sv_goes sv_goesSize sv_goesAt sv_targetParts sv_isRoot)), ((ma 16), .inl (cJ, 46080, .inr (.inl G_46)))]) [13, 14] (by decide +kernel) rfl
            have hFc := va_free (wc := [(h0, .inr (11, MO ma sv_thrown sv_length sv_nodes sv_many sv_directories sv_runsFrom sv_runs sv_read sv_wrong sv_isNamed sv_goes sv_goesSize sv_goesAt sv_targetParts sv_isRoot)), ((ma 16), .inl (cJ, 46080, .inr (.inl G_46)))]) hD hS hA [13, 14] rfl
            have hkc : 0 ≤ 0 := by decide
            have hks : 0 ≤ 0 := by decide
            refine va_callv (va_runV (C := "DiscMakerModel") (As := [.int v48, .int 4, .int v49]) (rest := []) ⟨hx, hb, hml, hown, hts⟩ (m_both4F l D cB cI cJ cZ cN cF H.size h0 ma sv_thrown sv_length sv_nodes sv_many sv_directories sv_runsFrom sv_runs sv_read sv_wrong sv_isNamed sv_goes sv_goesSize sv_goesAt sv_targetParts sv_isRoot G_46 v48 v49 (by (try dsimp only); first | assumption | omega | trivial) (by (try dsimp only); first | assumption | omega | trivial)) (cwV 3 hts (lg_goodV k1740 k1742 k81 k125 kc_DiscMakerModel_both) rfl rfl rfl (by decide +kernel) ⟨Nat.le_of_ble_eq_true rfl, Nat.le_of_ble_eq_true rfl⟩) ⟨fun a U g mk q => by obtain ⟨q0, q1, qP, qK, qN, qD⟩ := q; exact ⟨q0, q1, qP, va_K.moved (u := U) (U := U.calling g mk a) (Vm.Alike.refl U.vm) qK, qN.calling, qD⟩, va_recv hK hP (ci := 11) (q0 := 13) rfl rfl, fun U hU hW => ⟨rfl, by rw [hU], by rw [hU]; exact hPc, va_K.moved hW.alike hK, NN.warm hW hN, hDc.weaken (fun _ _ _ _ => trivial)⟩⟩ rfl rfl hl.1 rfl (lv_room (Nat.le_of_ble_eq_true rfl)) d_DiscMakerModel_lay_172 ⟨hkc, hks⟩) hS (fun q _ h => hFc q h) hFc (fun u t H1 locs ht hvm hp_r50 hB hz1 hk1 hS => ?_)
            obtain ⟨G_51, rfl⟩ : ∃ z, z = u := ⟨_, rfl⟩
            obtain ⟨hP1, hD1⟩ := hB
            rw [ht] at hP1
            obtain ⟨hP, hD⟩ := va_join (wr := [((ma 3), .inl (cI, 40, .inl fM)), ((ma 4), .inl (cI, 40, .inl fO)), ((ma 5), .inl (cI, 40, .inl fG)), ((ma 8), .inl (cB, 1200, .inl fN)), ((ma 12), .inl (cB, 320, .inl fBa)), ((ma 13), .inl (cI, 40, .inl fBs)), ((ma 14), .inl (cB, 120, .inl fEx)), ((ma 15), .inl (cI, 40, .inl fEs)), ((ma 9), .inl (cI, 40, .inl fNS)), ((ma 10), .inl (cB, 8000, .inl fT)), ((ma 11), .inl (cI, 40, .inl fTS)), ((ma 1), .inl (cI, 40, .inl fK)), ((ma 2), .inl (cI, 40, .inl fP))]) (w1 := [(h0, .inr (11, MO ma sv_thrown sv_length sv_nodes sv_many sv_directories sv_runsFrom sv_runs sv_read sv_wrong sv_isNamed sv_goes sv_goesSize sv_goesAt sv_targetParts sv_isRoot)), ((ma 16), .inl (cJ, 46080, .inr (.inl G_51)))]) hP hD [13, 14] [0, 1, 2, 3, 4, 5, 6, 7, 8, 9, 10, 11, 12] rfl rfl (by decide +kernel) (by decide +kernel) hk1 hFc hP1 hD1
            clear hPc hDc hFc hP1 hD1 hk1 hz1 hkc hks
            generalize H1 = H at hP hS ⊢
            have hP : va_P D CL [((ma 3), .inl (cI, 40, .inl fM)), ((ma 4), .inl (cI, 40, .inl fO)), ((ma 5), .inl (cI, 40, .inl fG)), ((ma 8), .inl (cB, 1200, .inl fN)), ((ma 12), .inl (cB, 320, .inl fBa)), ((ma 13), .inl (cI, 40, .inl fBs)), ((ma 14), .inl (cB, 120, .inl fEx)), ((ma 15), .inl (cI, 40, .inl fEs)), ((ma 9), .inl (cI, 40, .inl fNS)), ((ma 10), .inl (cB, 8000, .inl fT)), ((ma 11), .inl (cI, 40, .inl fTS)), ((ma 1), .inl (cI, 40, .inl fK)), ((ma 2), .inl (cI, 40, .inl fP)), (h0, .inr (11, MO ma sv_thrown sv_length sv_nodes sv_many sv_directories sv_runsFrom sv_runs sv_read sv_wrong sv_isNamed sv_goes sv_goesSize sv_goesAt sv_targetParts sv_isRoot)), ((ma 16), .inl (cJ, 46080, .inr (.inl G_51)))] H := hP
            have hD : va_D A [((ma 3), .inl (cI, 40, .inl fM)), ((ma 4), .inl (cI, 40, .inl fO)), ((ma 5), .inl (cI, 40, .inl fG)), ((ma 8), .inl (cB, 1200, .inl fN)), ((ma 12), .inl (cB, 320, .inl fBa)), ((ma 13), .inl (cI, 40, .inl fBs)), ((ma 14), .inl (cB, 120, .inl fEx)), ((ma 15), .inl (cI, 40, .inl fEs)), ((ma 9), .inl (cI, 40, .inl fNS)), ((ma 10), .inl (cB, 8000, .inl fT)), ((ma 11), .inl (cI, 40, .inl fTS)), ((ma 1), .inl (cI, 40, .inl fK)), ((ma 2), .inl (cI, 40, .inl fP)), (h0, .inr (11, MO ma sv_thrown sv_length sv_nodes sv_many sv_directories sv_runsFrom sv_runs sv_read sv_wrong sv_isNamed sv_goes sv_goesSize sv_goesAt sv_targetParts sv_isRoot)), ((ma 16), .inl (cJ, 46080, .inr (.inl G_51)))] := hD
            try dsimp only at hp_r50
            have hw_52 := hp_r50
            refine lv_goto (tgt := 258) hx hb d_DiscMakerModel_lay_175 (by decide) ?_
            refine lv_iload hx hb d_DiscMakerModel_lay_258 (lv_at hl 0 rfl) ?_
            have hP9 := hP.sub (ws' := [(h0, .inr (11, MO ma sv_thrown sv_length sv_nodes sv_many sv_directories sv_runsFrom sv_runs sv_read sv_wrong sv_isNamed sv_goes sv_goesSize sv_goesAt sv_targetParts sv_isRoot)), ((ma 16), .inl (cJ, 46080, .inr (.inl G_51))), ((ma 1), .inl (cI, 40, .inl fK)), ((ma 2), .inl (cI, 40, .inl fP)), ((ma 3), .inl (cI, 40, .inl fM)), ((ma 4), .inl (cI, 40, .inl fO)), ((ma 5), .inl (cI, 40, .inl fG)), ((ma 8), .inl (cB, 1200, .inl fN)), ((ma 9), .inl (cI, 40, .inl fNS)), ((ma 10), .inl (cB, 8000, .inl fT)), ((ma 11), .inl (cI, 40, .inl fTS)), ((ma 12), .inl (cB, 320, .inl fBa)), ((ma 13), .inl (cI, 40, .inl fBs)), ((ma 14), .inl (cB, 120, .inl fEx)), ((ma 15), .inl (cI, 40, .inl fEs))]) [13, 14, 11, 12, 0, 1, 2, 3, 8, 9, 10, 4, 5, 6, 7] rfl
            have hD9 := hD.sub (ws' := [(h0, .inr (11, MO ma sv_thrown sv_length sv_nodes sv_many sv_directories sv_runsFrom sv_runs sv_read sv_wrong sv_isNamed sv_goes sv_goesSize sv_goesAt sv_targetParts sv_isRoot)), ((ma 16), .inl (cJ, 46080, .inr (.inl G_51))), ((ma 1), .inl (cI, 40, .inl fK)), ((ma 2), .inl (cI, 40, .inl fP)), ((ma 3), .inl (cI, 40, .inl fM)), ((ma 4), .inl (cI, 40, .inl fO)), ((ma 5), .inl (cI, 40, .inl fG)), ((ma 8), .inl (cB, 1200, .inl fN)), ((ma 9), .inl (cI, 40, .inl fNS)), ((ma 10), .inl (cB, 8000, .inl fT)), ((ma 11), .inl (cI, 40, .inl fTS)), ((ma 12), .inl (cB, 320, .inl fBa)), ((ma 13), .inl (cI, 40, .inl fBs)), ((ma 14), .inl (cB, 120, .inl fEx)), ((ma 15), .inl (cI, 40, .inl fEs))]) [13, 14, 11, 12, 0, 1, 2, 3, 8, 9, 10, 4, 5, 6, 7] (by decide +kernel) rfl
            have hpv := hv_2
            have hzc := i_cl (a := z) (by omega)
            have hnz := hNS z.toNatClampNeg (by omega)
            have htz := hTS z.toNatClampNeg (by omega)
            have hx9 : x.toInt = 1 := by omega
            rw [hx9] at hpv hfit
            unfold psF at hpv hfit
            rw [if_neg (by decide), if_pos rfl] at hpv hfit
            have xk_v29 : v29.toInt = (fK z.toNatClampNeg).toInt := by rw [e_v29]
            have hm9 : v33.toInt = dx 1 z.toNatClampNeg := by rw [hlx.2.1]; congr 1; rw [e_v33, e_v32]; unfold mdW; first | (rw [if_pos (by omega)]; rw [e_v31]) | (rw [if_neg (by omega), if_pos (by omega)]; rw [e_v31]) | (rw [if_neg (by omega), if_neg (by omega)]; rw [e_v31])
            have hl9 := hv_39
            rw [← hlx.2.2.1] at hl9
            have ho9 : v44.toInt = dx 3 z.toNatClampNeg := by rw [hlx.2.2.2.1, e_v44]
            have hg9 : v49.toInt = dx 4 z.toNatClampNeg := by rw [hlx.2.2.2.2, e_v49]
            have w0 := hw_27
            have w1 := hw_36
            have w2 := hw_42
            have w3 := hw_47
            have w4 := hw_52
            rw [hm9] at w1
            rw [hl9] at w2
            rw [ho9] at w3
            rw [hg9] at w4
            exact W.iret (v := r1) hx hb hr (fun t ht hW => ⟨⟨r1, G_51, rfl, ⟨(by (try dsimp only); unfold psF; rw [hx9, if_neg (by decide), if_pos rfl]; omega), (by (try dsimp only); first | assumption | omega | trivial), (by (try dsimp only); unfold ptL; rw [hx9, if_neg (by decide), if_pos rfl]; exact ((((((Rn_0 (n := 0) hz9 rfl).bl (m := 4) (n2 := 4) w0 (by omega) rfl (by omega)).bl (m := 8) (n2 := 12) w1 (by omega) rfl (by omega)).bl (m := 8) (n2 := 20) w2 (by omega) rfl (by omega)).bl (m := 8) (n2 := 28) w3 (by omega) rfl (by omega)).bl (m := 8) (n2 := 36) w4 (by omega) rfl (by omega)).cast rfl (by omega))⟩, by rw [ht]; exact hP9, hD9⟩, hS.F ht⟩) hS.2.2 d_DiscMakerModel_lay_260
          · skip
            have g102_84 : v30.toInt = 1 := (i_eq rfl (by decide)).mp h_9
            refine lv_ldcw (v := 32768) hx hb hown (ht9 _ k1768) d_DiscMakerModel_lay_105 ?_
            refine lv_goto (tgt := 114) hx hb d_DiscMakerModel_lay_108 (by decide) ?_
            refine lv_aload_n hx hb d_DiscMakerModel_lay_114 rfl (lv_at hl 1 rfl) ?_
            refine va_get (D := D) (ci := 11) (v := .ref (ma 3)) (C := "DiscMakerModel") (T := F_DiscMakerModel) (N := 48) hx hb ht9 in_DiscMakerModel hown hK hP 13 rfl rfl 6 (by decide) (ht9 _ k1437) (fun _ h9 => h9) rfl d_DiscMakerModel_lay_115 ?_
            refine lv_iload_n hx hb d_DiscMakerModel_lay_118 rfl (lv_at hl 4 rfl) ?_
            refine va_iald hx hb hK hP 1 1 rfl rfl (vp_in_iff.mpr ⟨by omega, by omega⟩) d_DiscMakerModel_lay_119 ?_
            refine lv_topi (fun v53 e_v53 => ?_)
            refine lv_sipush (v := 4096) hx hb d_DiscMakerModel_lay_120 (by decide) ?_
            refine lv_irem hx hb d_DiscMakerModel_lay_123 (by decide) ?_
            refine lv_topi (fun v54 e_v54 => ?_)
            refine lv_iadd hx hb d_DiscMakerModel_lay_124 ?_
            refine lv_topi (fun v55 e_v55 => ?_)
            have hPc := hP.sub (ws' := [(h0, .inr (11, MO ma sv_thrown sv_length sv_nodes sv_many sv_directories sv_runsFrom sv_runs sv_read sv_wrong sv_isNamed sv_goes sv_goesSize sv_goesAt sv_targetParts sv_isRoot)), ((ma 16), .inl (cJ, 46080, .inr (.inl G_26)))]) [13, 14] rfl
            have hDc := hD.sub (ws' := [(h0, .inr (11, MO ma sv_thrown sv_length sv_nodes sv_many sv_directories sv_runsFrom sv_runs sv_read sv_wrong sv_isNamed sv_goes sv_goesSize sv_goesAt sv_targetParts sv_isRoot)), ((ma 16), .inl (cJ, 46080, .inr (.inl G_26)))]) [13, 14] (by decide +kernel) rfl
            have hFc := va_free (wc := [(h0, .inr (11, MO ma sv_thrown sv_length sv_nodes sv_many sv_directories sv_runsFrom sv_runs sv_read sv_wrong sv_isNamed sv_goes sv_goesSize sv_goesAt sv_targetParts sv_isRoot)), ((ma 16), .inl (cJ, 46080, .inr (.inl G_26)))]) hD hS hA [13, 14] rfl
            have hkc : 0 ≤ 0 := by decide
            have hks : 0 ≤ 0 := by decide
            refine va_callv (va_runV (C := "DiscMakerModel") (As := [.int v28, .int 4, .int v55]) (rest := []) ⟨hx, hb, hml, hown, hts⟩ (m_both4F l D cB cI cJ cZ cN cF H.size h0 ma sv_thrown sv_length sv_nodes sv_many sv_directories sv_runsFrom sv_runs sv_read sv_wrong sv_isNamed sv_goes sv_goesSize sv_goesAt sv_targetParts sv_isRoot G_26 v28 v55 (by (try dsimp only); first | assumption | omega | trivial) (by (try dsimp only); first | assumption | omega | trivial)) (cwV 3 hts (lg_goodV k1740 k1742 k81 k125 kc_DiscMakerModel_both) rfl rfl rfl (by decide +kernel) ⟨Nat.le_of_ble_eq_true rfl, Nat.le_of_ble_eq_true rfl⟩) ⟨fun a U g mk q => by obtain ⟨q0, q1, qP, qK, qN, qD⟩ := q; exact ⟨q0, q1, qP, va_K.moved (u := U) (U := U.calling g mk a) (Vm.Alike.refl U.vm) qK, qN.calling, qD⟩, va_recv hK hP (ci := 11) (q0 := 13) rfl rfl, fun U hU hW => ⟨rfl, by rw [hU], by rw [hU]; exact hPc, va_K.moved hW.alike hK, NN.warm hW hN, hDc.weaken (fun _ _ _ _ => trivial)⟩⟩ rfl rfl hl.1 rfl (lv_room (Nat.le_of_ble_eq_true rfl)) d_DiscMakerModel_lay_125 ⟨hkc, hks⟩) hS (fun q _ h => hFc q h) hFc (fun u t H1 locs ht hvm hp_r56 hB hz1 hk1 hS => ?_)
            obtain ⟨G_57, rfl⟩ : ∃ z, z = u := ⟨_, rfl⟩
            obtain ⟨hP1, hD1⟩ := hB
            rw [ht] at hP1
            obtain ⟨hP, hD⟩ := va_join (wr := [((ma 2), .inl (cI, 40, .inl fP)), ((ma 3), .inl (cI, 40, .inl fM)), ((ma 4), .inl (cI, 40, .inl fO)), ((ma 5), .inl (cI, 40, .inl fG)), ((ma 8), .inl (cB, 1200, .inl fN)), ((ma 12), .inl (cB, 320, .inl fBa)), ((ma 13), .inl (cI, 40, .inl fBs)), ((ma 14), .inl (cB, 120, .inl fEx)), ((ma 15), .inl (cI, 40, .inl fEs)), ((ma 1), .inl (cI, 40, .inl fK)), ((ma 9), .inl (cI, 40, .inl fNS)), ((ma 10), .inl (cB, 8000, .inl fT)), ((ma 11), .inl (cI, 40, .inl fTS))]) (w1 := [(h0, .inr (11, MO ma sv_thrown sv_length sv_nodes sv_many sv_directories sv_runsFrom sv_runs sv_read sv_wrong sv_isNamed sv_goes sv_goesSize sv_goesAt sv_targetParts sv_isRoot)), ((ma 16), .inl (cJ, 46080, .inr (.inl G_57)))]) hP hD [13, 14] [0, 1, 2, 3, 4, 5, 6, 7, 8, 9, 10, 11, 12] rfl rfl (by decide +kernel) (by decide +kernel) hk1 hFc hP1 hD1
            clear hPc hDc hFc hP1 hD1 hk1 hz1 hkc hks
            generalize H1 = H at hP hS ⊢
            have hP : va_P D CL [((ma 2), .inl (cI, 40, .inl fP)), ((ma 3), .inl (cI, 40, .inl fM)), ((ma 4), .inl (cI, 40, .inl fO)), ((ma 5), .inl (cI, 40, .inl fG)), ((ma 8), .inl (cB, 1200, .inl fN)), ((ma 12), .inl (cB, 320, .inl fBa)), ((ma 13), .inl (cI, 40, .inl fBs)), ((ma 14), .inl (cB, 120, .inl fEx)), ((ma 15), .inl (cI, 40, .inl fEs)), ((ma 1), .inl (cI, 40, .inl fK)), ((ma 9), .inl (cI, 40, .inl fNS)), ((ma 10), .inl (cB, 8000, .inl fT)), ((ma 11), .inl (cI, 40, .inl fTS)), (h0, .inr (11, MO ma sv_thrown sv_length sv_nodes sv_many sv_directories sv_runsFrom sv_runs sv_read sv_wrong sv_isNamed sv_goes sv_goesSize sv_goesAt sv_targetParts sv_isRoot)), ((ma 16), .inl (cJ, 46080, .inr (.inl G_57)))] H := hP
            have hD : va_D A [((ma 2), .inl (cI, 40, .inl fP)), ((ma 3), .inl (cI, 40, .inl fM)), ((ma 4), .inl (cI, 40, .inl fO)), ((ma 5), .inl (cI, 40, .inl fG)), ((ma 8), .inl (cB, 1200, .inl fN)), ((ma 12), .inl (cB, 320, .inl fBa)), ((ma 13), .inl (cI, 40, .inl fBs)), ((ma 14), .inl (cB, 120, .inl fEx)), ((ma 15), .inl (cI, 40, .inl fEs)), ((ma 1), .inl (cI, 40, .inl fK)), ((ma 9), .inl (cI, 40, .inl fNS)), ((ma 10), .inl (cB, 8000, .inl fT)), ((ma 11), .inl (cI, 40, .inl fTS)), (h0, .inr (11, MO ma sv_thrown sv_length sv_nodes sv_many sv_directories sv_runsFrom sv_runs sv_read sv_wrong sv_isNamed sv_goes sv_goesSize sv_goesAt sv_targetParts sv_isRoot)), ((ma 16), .inl (cJ, 46080, .inr (.inl G_57)))] := hD
            try dsimp only at hp_r56
            have hw_58 := hp_r56
            refine lv_aload_n hx hb d_DiscMakerModel_lay_128 rfl (lv_at hl 1 rfl) ?_
            refine lv_iload hx hb d_DiscMakerModel_lay_129 (lv_at hl 5 rfl) ?_
            refine lv_bipush (v := 12) hx hb d_DiscMakerModel_lay_131 (by decide) ?_
            refine lv_iadd hx hb d_DiscMakerModel_lay_133 ?_
            refine lv_topi (fun v59 e_v59 => ?_)
            have t_v59 : v59.toInt = w.toInt + 12 := by rw [e_v59]; exact i_add rfl (by decide) (by omega) (by omega)
            refine lv_iconst (v := 4) hx hb d_DiscMakerModel_lay_134 (by decide) ?_
            refine lv_aload_n hx hb d_DiscMakerModel_lay_135 rfl (lv_at hl 1 rfl) ?_
            refine lv_iload_n hx hb d_DiscMakerModel_lay_136 rfl (lv_at hl 4 rfl) ?_
            have hPc := hP.sub (ws' := [(h0, .inr (11, MO ma sv_thrown sv_length sv_nodes sv_many sv_directories sv_runsFrom sv_runs sv_read sv_wrong sv_isNamed sv_goes sv_goesSize sv_goesAt sv_targetParts sv_isRoot)), ((ma 1), .inl (cI, 40, .inl fK)), ((ma 2), .inl (cI, 40, .inl fP))]) [13, 9, 0] rfl
            have hDc := hD.sub (ws' := [(h0, .inr (11, MO ma sv_thrown sv_length sv_nodes sv_many sv_directories sv_runsFrom sv_runs sv_read sv_wrong sv_isNamed sv_goes sv_goesSize sv_goesAt sv_targetParts sv_isRoot)), ((ma 1), .inl (cI, 40, .inl fK)), ((ma 2), .inl (cI, 40, .inl fP))]) [13, 9, 0] (by decide +kernel) rfl
            have hFc := va_free (wc := [(h0, .inr (11, MO ma sv_thrown sv_length sv_nodes sv_many sv_directories sv_runsFrom sv_runs sv_read sv_wrong sv_isNamed sv_goes sv_goesSize sv_goesAt sv_targetParts sv_isRoot)), ((ma 1), .inl (cI, 40, .inl fK)), ((ma 2), .inl (cI, 40, .inl fP))]) hD hS hA [13, 9, 0] rfl
            have hkc : 0 ≤ 0 := by decide
            have hks : 0 ≤ 0 := by decide
            refine va_calli (va_runV (C := "DiscMakerModel") (As := [.int z]) (rest := [.int 4, .int v59, .ref h0]) ⟨hx, hb, hml, hown, hts⟩ (m_linksF l D cB cI cJ cZ cN cF H.size h0 ma sv_thrown sv_length sv_nodes sv_many sv_directories sv_runsFrom sv_runs sv_read sv_wrong sv_isNamed sv_goes sv_goesSize sv_goesAt sv_targetParts sv_isRoot fK fP dt z (by (try dsimp only); first | assumption | omega | trivial) (by (try dsimp only); first | assumption | omega | trivial) (hl0.2.1) (hdp)) (cwV 1 hts (lg_goodV k1770 k1772 k88 k125 kc_DiscMakerModel_links) rfl rfl rfl (by decide +kernel) ⟨Nat.le_of_ble_eq_true rfl, Nat.le_of_ble_eq_true rfl⟩) ⟨fun a U g mk q => by obtain ⟨q0, q1, qP, qK, qN, qD⟩ := q; exact ⟨q0, q1, qP, va_K.moved (u := U) (U := U.calling g mk a) (Vm.Alike.refl U.vm) qK, qN.calling, qD⟩, va_recv hK hP (ci := 11) (q0 := 13) rfl rfl, fun U hU hW => ⟨rfl, by rw [hU], by rw [hU]; exact hPc, va_K.moved hW.alike hK, NN.warm hW hN, hDc.weaken (fun _ _ _ _ => trivial)⟩⟩ rfl rfl hl.1 rfl (lv_room (Nat.le_of_ble_eq_true rfl)) d_DiscMakerModel_lay_137 ⟨hkc, hks⟩) hS (fun q _ h => hFc q h) hFc (fun r60 u t H1 locs ht hvm hp_r60 hB hz1 hk1 hS => ?_)
            obtain ⟨hP1, hD1⟩ := hB
            rw [ht] at hP1
            obtain ⟨hP, hD⟩ := va_join (wr := [((ma 3), .inl (cI, 40, .inl fM)), ((ma 4), .inl (cI, 40, .inl fO)), ((ma 5), .inl (cI, 40, .inl fG)), ((ma 8), .inl (cB, 1200, .inl fN)), ((ma 12), .inl (cB, 320, .inl fBa)), ((ma 13), .inl (cI, 40, .inl fBs)), ((ma 14), .inl (cB, 120, .inl fEx)), ((ma 15), .inl (cI, 40, .inl fEs)), ((ma 9), .inl (cI, 40, .inl fNS)), ((ma 10), .inl (cB, 8000, .inl fT)), ((ma 11), .inl (cI, 40, .inl fTS)), ((ma 16), .inl (cJ, 46080, .inr (.inl G_57)))]) (w1 := [(h0, .inr (11, MO ma sv_thrown sv_length sv_nodes sv_many sv_directories sv_runsFrom sv_runs sv_read sv_wrong sv_isNamed sv_goes sv_goesSize sv_goesAt sv_targetParts sv_isRoot)), ((ma 1), .inl (cI, 40, .inl fK)), ((ma 2), .inl (cI, 40, .inl fP))]) hP hD [13, 9, 0] [1, 2, 3, 4, 5, 6, 7, 8, 10, 11, 12, 14] rfl rfl (by decide +kernel) (by decide +kernel) hk1 hFc hP1 hD1
            clear hPc hDc hFc hP1 hD1 hk1 hz1 hkc hks
            generalize H1 = H at hP hS ⊢
            have hP : va_P D CL [((ma 3), .inl (cI, 40, .inl fM)), ((ma 4), .inl (cI, 40, .inl fO)), ((ma 5), .inl (cI, 40, .inl fG)), ((ma 8), .inl (cB, 1200, .inl fN)), ((ma 12), .inl (cB, 320, .inl fBa)), ((ma 13), .inl (cI, 40, .inl fBs)), ((ma 14), .inl (cB, 120, .inl fEx)), ((ma 15), .inl (cI, 40, .inl fEs)), ((ma 9), .inl (cI, 40, .inl fNS)), ((ma 10), .inl (cB, 8000, .inl fT)), ((ma 11), .inl (cI, 40, .inl fTS)), ((ma 16), .inl (cJ, 46080, .inr (.inl G_57))), (h0, .inr (11, MO ma sv_thrown sv_length sv_nodes sv_many sv_directories sv_runsFrom sv_runs sv_read sv_wrong sv_isNamed sv_goes sv_goesSize sv_goesAt sv_targetParts sv_isRoot)), ((ma 1), .inl (cI, 40, .inl fK)), ((ma 2), .inl (cI, 40, .inl fP))] H := hP
            have hD : va_D A [((ma 3), .inl (cI, 40, .inl fM)), ((ma 4), .inl (cI, 40, .inl fO)), ((ma 5), .inl (cI, 40, .inl fG)), ((ma 8), .inl (cB, 1200, .inl fN)), ((ma 12), .inl (cB, 320, .inl fBa)), ((ma 13), .inl (cI, 40, .inl fBs)), ((ma 14), .inl (cB, 120, .inl fEx)), ((ma 15), .inl (cI, 40, .inl fEs)), ((ma 9), .inl (cI, 40, .inl fNS)), ((ma 10), .inl (cB, 8000, .inl fT)), ((ma 11), .inl (cI, 40, .inl fTS)), ((ma 16), .inl (cJ, 46080, .inr (.inl G_57))), (h0, .inr (11, MO ma sv_thrown sv_length sv_nodes sv_many sv_directories sv_runsFrom sv_runs sv_read sv_wrong sv_isNamed sv_goes sv_goesSize sv_goesAt sv_targetParts sv_isRoot)), ((ma 1), .inl (cI, 40, .inl fK)), ((ma 2), .inl (cI, 40, .inl fP))] := hD
            try dsimp only at hp_r60
            have hv_61 := hp_r60
            have hPc := hP.sub (ws' := [(h0, .inr (11, MO ma sv_thrown sv_length sv_nodes sv_many sv_directories sv_runsFrom sv_runs sv_read sv_wrong sv_isNamed sv_goes sv_goesSize sv_goesAt sv_targetParts sv_isRoot)), ((ma 16), .inl (cJ, 46080, .inr (.inl G_57)))]) [12, 11] rfl
            have hDc := hD.sub (ws' := [(h0, .inr (11, MO ma sv_thrown sv_length sv_nodes sv_many sv_directories sv_runsFrom sv_runs sv_read sv_wrong sv_isNamed sv_goes sv_goesSize sv_goesAt sv_targetParts sv_isRoot)), ((ma 16), .inl (cJ, 46080, .inr (.inl G_57)))]) [12, 11] (by decide +kernel) rfl
            have hFc := va_free (wc := [(h0, .inr (11, MO ma sv_thrown sv_length sv_nodes sv_many sv_directories sv_runsFrom sv_runs sv_read sv_wrong sv_isNamed sv_goes sv_goesSize sv_goesAt sv_targetParts sv_isRoot)), ((ma 16), .inl (cJ, 46080, .inr (.inl G_57)))]) hD hS hA [12, 11] rfl
            have hkc : 0 ≤ 0 := by decide
            have hks : 0 ≤ 0 := by decide
            refine va_callv (va_runV (C := "DiscMakerModel") (As := [.int v59, .int 4, .int r60]) (rest := []) ⟨hx, hb, hml, hown, hts⟩ (m_both4F l D cB cI cJ cZ cN cF H.size h0 ma sv_thrown sv_length sv_nodes sv_many sv_directories sv_runsFrom sv_runs sv_read sv_wrong sv_isNamed sv_goes sv_goesSize sv_goesAt sv_targetParts sv_isRoot G_57 v59 r60 (by (try dsimp only); first | assumption | omega | trivial) (by (try dsimp only); first | assumption | omega | trivial)) (cwV 3 hts (lg_goodV k1740 k1742 k81 k125 kc_DiscMakerModel_both) rfl rfl rfl (by decide +kernel) ⟨Nat.le_of_ble_eq_true rfl, Nat.le_of_ble_eq_true rfl⟩) ⟨fun a U g mk q => by obtain ⟨q0, q1, qP, qK, qN, qD⟩ := q; exact ⟨q0, q1, qP, va_K.moved (u := U) (U := U.calling g mk a) (Vm.Alike.refl U.vm) qK, qN.calling, qD⟩, va_recv hK hP (ci := 11) (q0 := 12) rfl rfl, fun U hU hW => ⟨rfl, by rw [hU], by rw [hU]; exact hPc, va_K.moved hW.alike hK, NN.warm hW hN, hDc.weaken (fun _ _ _ _ => trivial)⟩⟩ rfl rfl hl.1 rfl (lv_room (Nat.le_of_ble_eq_true rfl)) d_DiscMakerModel_lay_140 ⟨hkc, hks⟩) hS (fun q _ h => hFc q h) hFc (fun u t H1 locs ht hvm hp_r62 hB hz1 hk1 hS => ?_)
            obtain ⟨G_63, rfl⟩ : ∃ z, z = u := ⟨_, rfl⟩
            obtain ⟨hP1, hD1⟩ := hB
            rw [ht] at hP1
            obtain ⟨hP, hD⟩ := va_join (wr := [((ma 3), .inl (cI, 40, .inl fM)), ((ma 4), .inl (cI, 40, .inl fO)), ((ma 5), .inl (cI, 40, .inl fG)), ((ma 8), .inl (cB, 1200, .inl fN)), ((ma 12), .inl (cB, 320, .inl fBa)), ((ma 13), .inl (cI, 40, .inl fBs)), ((ma 14), .inl (cB, 120, .inl fEx)), ((ma 15), .inl (cI, 40, .inl fEs)), ((ma 9), .inl (cI, 40, .inl fNS)), ((ma 10), .inl (cB, 8000, .inl fT)), ((ma 11), .inl (cI, 40, .inl fTS)), ((ma 1), .inl (cI, 40, .inl fK)), ((ma 2), .inl (cI, 40, .inl fP))]) (w1 := [(h0, .inr (11, MO ma sv_thrown sv_length sv_nodes sv_many sv_directories sv_runsFrom sv_runs sv_read sv_wrong sv_isNamed sv_goes sv_goesSize sv_goesAt sv_targetParts sv_isRoot)), ((ma 16), .inl (cJ, 46080, .inr (.inl G_63)))]) hP hD [12, 11] [0, 1, 2, 3, 4, 5, 6, 7, 8, 9, 10, 13, 14] rfl rfl (by decide +kernel) (by decide +kernel) hk1 hFc hP1 hD1
            clear hPc hDc hFc hP1 hD1 hk1 hz1 hkc hks
            generalize H1 = H at hP hS ⊢
            have hP : va_P D CL [((ma 3), .inl (cI, 40, .inl fM)), ((ma 4), .inl (cI, 40, .inl fO)), ((ma 5), .inl (cI, 40, .inl fG)), ((ma 8), .inl (cB, 1200, .inl fN)), ((ma 12), .inl (cB, 320, .inl fBa)), ((ma 13), .inl (cI, 40, .inl fBs)), ((ma 14), .inl (cB, 120, .inl fEx)), ((ma 15), .inl (cI, 40, .inl fEs)), ((ma 9), .inl (cI, 40, .inl fNS)), ((ma 10), .inl (cB, 8000, .inl fT)), ((ma 11), .inl (cI, 40, .inl fTS)), ((ma 1), .inl (cI, 40, .inl fK)), ((ma 2), .inl (cI, 40, .inl fP)), (h0, .inr (11, MO ma sv_thrown sv_length sv_nodes sv_many sv_directories sv_runsFrom sv_runs sv_read sv_wrong sv_isNamed sv_goes sv_goesSize sv_goesAt sv_targetParts sv_isRoot)), ((ma 16), .inl (cJ, 46080, .inr (.inl G_63)))] H := hP
            have hD : va_D A [((ma 3), .inl (cI, 40, .inl fM)), ((ma 4), .inl (cI, 40, .inl fO)), ((ma 5), .inl (cI, 40, .inl fG)), ((ma 8), .inl (cB, 1200, .inl fN)), ((ma 12), .inl (cB, 320, .inl fBa)), ((ma 13), .inl (cI, 40, .inl fBs)), ((ma 14), .inl (cB, 120, .inl fEx)), ((ma 15), .inl (cI, 40, .inl fEs)), ((ma 9), .inl (cI, 40, .inl fNS)), ((ma 10), .inl (cB, 8000, .inl fT)), ((ma 11), .inl (cI, 40, .inl fTS)), ((ma 1), .inl (cI, 40, .inl fK)), ((ma 2), .inl (cI, 40, .inl fP)), (h0, .inr (11, MO ma sv_thrown sv_length sv_nodes sv_many sv_directories sv_runsFrom sv_runs sv_read sv_wrong sv_isNamed sv_goes sv_goesSize sv_goesAt sv_targetParts sv_isRoot)), ((ma 16), .inl (cJ, 46080, .inr (.inl G_63)))] := hD
            try dsimp only at hp_r62
            have hw_64 := hp_r62
            refine lv_aload_n hx hb d_DiscMakerModel_lay_143 rfl (lv_at hl 1 rfl) ?_
            refine lv_iload hx hb d_DiscMakerModel_lay_144 (lv_at hl 5 rfl) ?_
            refine lv_bipush (v := 20) hx hb d_DiscMakerModel_lay_146 (by decide) ?_
            refine lv_iadd hx hb d_DiscMakerModel_lay_148 ?_
            refine lv_topi (fun v65 e_v65 => ?_)
            have t_v65 : v65.toInt = w.toInt + 20 := by rw [e_v65]; exact i_add rfl (by decide) (by omega) (by omega)
            refine lv_iconst (v := 4) hx hb d_DiscMakerModel_lay_149 (by decide) ?_
            refine lv_aload_n hx hb d_DiscMakerModel_lay_150 rfl (lv_at hl 1 rfl) ?_
            refine va_get (D := D) (ci := 11) (v := .ref (ma 4)) (C := "DiscMakerModel") (T := F_DiscMakerModel) (N := 48) hx hb ht9 in_DiscMakerModel hown hK hP 13 rfl rfl 7 (by decide) (ht9 _ k1438) (fun _ h9 => h9) rfl d_DiscMakerModel_lay_151 ?_
            refine lv_iload_n hx hb d_DiscMakerModel_lay_154 rfl (lv_at hl 4 rfl) ?_
            refine va_iald hx hb hK hP 1 1 rfl rfl (vp_in_iff.mpr ⟨by omega, by omega⟩) d_DiscMakerModel_lay_155 ?_
            refine lv_topi (fun v66 e_v66 => ?_)
            have hPc := hP.sub (ws' := [(h0, .inr (11, MO ma sv_thrown sv_length sv_nodes sv_many sv_directories sv_runsFrom sv_runs sv_read sv_wrong sv_isNamed sv_goes sv_goesSize sv_goesAt sv_targetParts sv_isRoot)), ((ma 16), .inl (cJ, 46080, .inr (.inl G_63)))]) [13, 14] rfl
            have hDc := hD.sub (ws' := [(h0, .inr (11, MO ma sv_thrown sv_length sv_nodes sv_many sv_directories sv_runsFrom sv_runs sv_read sv_wrong sv_isNamed sv_goes sv_goesSize sv_goesAt sv_targetParts sv_isRoot)), ((ma 16), .inl (cJ, 46080, .inr (.inl G_63)))]) [13, 14] (by decide +kernel) rfl
            have hFc := va_free (wc := [(h0, .inr (11, MO ma sv_thrown sv_length sv_nodes sv_many sv_directories sv_runsFrom sv_runs sv_read sv_wrong sv_isNamed sv_goes sv_goesSize sv_goesAt sv_targetParts sv_isRoot)), ((ma 16), .inl (cJ, 46080, .inr (.inl G_63)))]) hD hS hA [13, 14] rfl
            have hkc : 0 ≤ 0 := by decide
            have hks : 0 ≤ 0 := by decide
            refine va_callv (va_runV (C := "DiscMakerModel") (As := [.int v65, .int 4, .int v66]) (rest := []) ⟨hx, hb, hml, hown, hts⟩ (m_both4F l D cB cI cJ cZ cN cF H.size h0 ma sv_thrown sv_length sv_nodes sv_many sv_directories sv_runsFrom sv_runs sv_read sv_wrong sv_isNamed sv_goes sv_goesSize sv_goesAt sv_targetParts sv_isRoot G_63 v65 v66 (by (try dsimp only); first | assumption | omega | trivial) (by (try dsimp only); first | assumption | omega | trivial)) (cwV 3 hts (lg_goodV k1740 k1742 k81 k125 kc_DiscMakerModel_both) rfl rfl rfl (by decide +kernel) ⟨Nat.le_of_ble_eq_true rfl, Nat.le_of_ble_eq_true rfl⟩) ⟨fun a U g mk q => by obtain ⟨q0, q1, qP, qK, qN, qD⟩ := q; exact ⟨q0, q1, qP, va_K.moved (u := U) (U := U.calling g mk a) (Vm.Alike.refl U.vm) qK, qN.calling, qD⟩, va_recv hK hP (ci := 11) (q0 := 13) rfl rfl, fun U hU hW => ⟨rfl, by rw [hU], by rw [hU]; exact hPc, va_K.moved hW.alike hK, NN.warm hW hN, hDc.weaken (fun _ _ _ _ => trivial)⟩⟩ rfl rfl hl.1 rfl (lv_room (Nat.le_of_ble_eq_true rfl)) d_DiscMakerModel_lay_156 ⟨hkc, hks⟩) hS (fun q _ h => hFc q h) hFc (fun u t H1 locs ht hvm hp_r67 hB hz1 hk1 hS => ?_)
            obtain ⟨G_68, rfl⟩ : ∃ z, z = u := ⟨_, rfl⟩
            obtain ⟨hP1, hD1⟩ := hB
            rw [ht] at hP1
            obtain ⟨hP, hD⟩ := va_join (wr := [((ma 3), .inl (cI, 40, .inl fM)), ((ma 4), .inl (cI, 40, .inl fO)), ((ma 5), .inl (cI, 40, .inl fG)), ((ma 8), .inl (cB, 1200, .inl fN)), ((ma 12), .inl (cB, 320, .inl fBa)), ((ma 13), .inl (cI, 40, .inl fBs)), ((ma 14), .inl (cB, 120, .inl fEx)), ((ma 15), .inl (cI, 40, .inl fEs)), ((ma 9), .inl (cI, 40, .inl fNS)), ((ma 10), .inl (cB, 8000, .inl fT)), ((ma 11), .inl (cI, 40, .inl fTS)), ((ma 1), .inl (cI, 40, .inl fK)), ((ma 2), .inl (cI, 40, .inl fP))]) (w1 := [(h0, .inr (11, MO ma sv_thrown sv_length sv_nodes sv_many sv_directories sv_runsFrom sv_runs sv_read sv_wrong sv_isNamed sv_goes sv_goesSize sv_goesAt sv_targetParts sv_isRoot)), ((ma 16), .inl (cJ, 46080, .inr (.inl G_68)))]) hP hD [13, 14] [0, 1, 2, 3, 4, 5, 6, 7, 8, 9, 10, 11, 12] rfl rfl (by decide +kernel) (by decide +kernel) hk1 hFc hP1 hD1
            clear hPc hDc hFc hP1 hD1 hk1 hz1 hkc hks
            generalize H1 = H at hP hS ⊢
            have hP : va_P D CL [((ma 3), .inl (cI, 40, .inl fM)), ((ma 4), .inl (cI, 40, .inl fO)), ((ma 5), .inl (cI, 40, .inl fG)), ((ma 8), .inl (cB, 1200, .inl fN)), ((ma 12), .inl (cB, 320, .inl fBa)), ((ma 13), .inl (cI, 40, .inl fBs)), ((ma 14), .inl (cB, 120, .inl fEx)), ((ma 15), .inl (cI, 40, .inl fEs)), ((ma 9), .inl (cI, 40, .inl fNS)), ((ma 10), .inl (cB, 8000, .inl fT)), ((ma 11), .inl (cI, 40, .inl fTS)), ((ma 1), .inl (cI, 40, .inl fK)), ((ma 2), .inl (cI, 40, .inl fP)), (h0, .inr (11, MO ma sv_thrown sv_length sv_nodes sv_many sv_directories sv_runsFrom sv_runs sv_read sv_wrong sv_isNamed sv_goes sv_goesSize sv_goesAt sv_targetParts sv_isRoot)), ((ma 16), .inl (cJ, 46080, .inr (.inl G_68)))] H := hP
            have hD : va_D A [((ma 3), .inl (cI, 40, .inl fM)), ((ma 4), .inl (cI, 40, .inl fO)), ((ma 5), .inl (cI, 40, .inl fG)), ((ma 8), .inl (cB, 1200, .inl fN)), ((ma 12), .inl (cB, 320, .inl fBa)), ((ma 13), .inl (cI, 40, .inl fBs)), ((ma 14), .inl (cB, 120, .inl fEx)), ((ma 15), .inl (cI, 40, .inl fEs)), ((ma 9), .inl (cI, 40, .inl fNS)), ((ma 10), .inl (cB, 8000, .inl fT)), ((ma 11), .inl (cI, 40, .inl fTS)), ((ma 1), .inl (cI, 40, .inl fK)), ((ma 2), .inl (cI, 40, .inl fP)), (h0, .inr (11, MO ma sv_thrown sv_length sv_nodes sv_many sv_directories sv_runsFrom sv_runs sv_read sv_wrong sv_isNamed sv_goes sv_goesSize sv_goesAt sv_targetParts sv_isRoot)), ((ma 16), .inl (cJ, 46080, .inr (.inl G_68)))] := hD
            try dsimp only at hp_r67
            have hw_69 := hp_r67
            refine lv_aload_n hx hb d_DiscMakerModel_lay_159 rfl (lv_at hl 1 rfl) ?_
            refine lv_iload hx hb d_DiscMakerModel_lay_160 (lv_at hl 5 rfl) ?_
            refine lv_bipush (v := 28) hx hb d_DiscMakerModel_lay_162 (by decide) ?_
            refine lv_iadd hx hb d_DiscMakerModel_lay_164 ?_
            refine lv_topi (fun v70 e_v70 => ?_)
            have t_v70 : v70.toInt = w.toInt + 28 := by rw [e_v70]; exact i_add rfl (by decide) (by omega) (by omega)
            refine lv_iconst (v := 4) hx hb d_DiscMakerModel_lay_165 (by decide) ?_
            refine lv_aload_n hx hb d_DiscMakerModel_lay_166 rfl (lv_at hl 1 rfl) ?_
            refine va_get (D := D) (ci := 11) (v := .ref (ma 5)) (C := "DiscMakerModel") (T := F_DiscMakerModel) (N := 48) hx hb ht9 in_DiscMakerModel hown hK hP 13 rfl rfl 8 (by decide) (ht9 _ k1439) (fun _ h9 => h9) rfl d_DiscMakerModel_lay_167 ?_
            refine lv_iload_n hx hb d_DiscMakerModel_lay_170 rfl (lv_at hl 4 rfl) ?_
            refine va_iald hx hb hK hP 2 1 rfl rfl (vp_in_iff.mpr ⟨by omega, by omega⟩) d_DiscMakerModel_lay_171 ?_
            refine lv_topi (fun v71 e_v71 => ?_)
            have hPc := hP.sub (ws' := [(h0, .inr (11, MO ma sv_thrown sv_length sv_nodes sv_many sv_directories sv_runsFrom sv_runs sv_read sv_wrong sv_isNamed sv_goes sv_goesSize sv_goesAt sv_targetParts sv_isRoot)), ((ma 16), .inl (cJ, 46080, .inr (.inl G_68)))]) [13, 14] rfl
            have hDc := hD.sub (ws' := [(h0, .inr (11, MO ma sv_thrown sv_length sv_nodes sv_many sv_directories sv_runsFrom sv_runs sv_read sv_wrong sv_isNamed sv_goes sv_goesSize sv_goesAt sv_targetParts sv_isRoot)), ((ma 16), .inl (cJ, 46080, .inr (.inl G_68)))]) [13, 14] (by decide +kernel) rfl
            have hFc := va_free (wc := [(h0, .inr (11, MO ma sv_thrown sv_length sv_nodes sv_many sv_directories sv_runsFrom sv_runs sv_read sv_wrong sv_isNamed sv_goes sv_goesSize sv_goesAt sv_targetParts sv_isRoot)), ((ma 16), .inl (cJ, 46080, .inr (.inl G_68)))]) hD hS hA [13, 14] rfl
            have hkc : 0 ≤ 0 := by decide
            have hks : 0 ≤ 0 := by decide
            refine va_callv (va_runV (C := "DiscMakerModel") (As := [.int v70, .int 4, .int v71]) (rest := []) ⟨hx, hb, hml, hown, hts⟩ (m_both4F l D cB cI cJ cZ cN cF H.size h0 ma sv_thrown sv_length sv_nodes sv_many sv_directories sv_runsFrom sv_runs sv_read sv_wrong sv_isNamed sv_goes sv_goesSize sv_goesAt sv_targetParts sv_isRoot G_68 v70 v71 (by (try dsimp only); first | assumption | omega | trivial) (by (try dsimp only); first | assumption | omega | trivial)) (cwV 3 hts (lg_goodV k1740 k1742 k81 k125 kc_DiscMakerModel_both) rfl rfl rfl (by decide +kernel) ⟨Nat.le_of_ble_eq_true rfl, Nat.le_of_ble_eq_true rfl⟩) ⟨fun a U g mk q => by obtain ⟨q0, q1, qP, qK, qN, qD⟩ := q; exact ⟨q0, q1, qP, va_K.moved (u := U) (U := U.calling g mk a) (Vm.Alike.refl U.vm) qK, qN.calling, qD⟩, va_recv hK hP (ci := 11) (q0 := 13) rfl rfl, fun U hU hW => ⟨rfl, by rw [hU], by rw [hU]; exact hPc, va_K.moved hW.alike hK, NN.warm hW hN, hDc.weaken (fun _ _ _ _ => trivial)⟩⟩ rfl rfl hl.1 rfl (lv_room (Nat.le_of_ble_eq_true rfl)) d_DiscMakerModel_lay_172 ⟨hkc, hks⟩) hS (fun q _ h => hFc q h) hFc (fun u t H1 locs ht hvm hp_r72 hB hz1 hk1 hS => ?_)
            obtain ⟨G_73, rfl⟩ : ∃ z, z = u := ⟨_, rfl⟩
            obtain ⟨hP1, hD1⟩ := hB
            rw [ht] at hP1
            obtain ⟨hP, hD⟩ := va_join (wr := [((ma 3), .inl (cI, 40, .inl fM)), ((ma 4), .inl (cI, 40, .inl fO)), ((ma 5), .inl (cI, 40, .inl fG)), ((ma 8), .inl (cB, 1200, .inl fN)), ((ma 12), .inl (cB, 320, .inl fBa)), ((ma 13), .inl (cI, 40, .inl fBs)), ((ma 14), .inl (cB, 120, .inl fEx)), ((ma 15), .inl (cI, 40, .inl fEs)), ((ma 9), .inl (cI, 40, .inl fNS)), ((ma 10), .inl (cB, 8000, .inl fT)), ((ma 11), .inl (cI, 40, .inl fTS)), ((ma 1), .inl (cI, 40, .inl fK)), ((ma 2), .inl (cI, 40, .inl fP))]) (w1 := [(h0, .inr (11, MO ma sv_thrown sv_length sv_nodes sv_many sv_directories sv_runsFrom sv_runs sv_read sv_wrong sv_isNamed sv_goes sv_goesSize sv_goesAt sv_targetParts sv_isRoot)), ((ma 16), .inl (cJ, 46080, .inr (.inl G_73)))]) hP hD [13, 14] [0, 1, 2, 3, 4, 5, 6, 7, 8, 9, 10, 11, 12] rfl rfl (by decide +kernel) (by decide +kernel) hk1 hFc hP1 hD1
            clear hPc hDc hFc hP1 hD1 hk1 hz1 hkc hks
            generalize H1 = H at hP hS ⊢
            have hP : va_P D CL [((ma 3), .inl (cI, 40, .inl fM)), ((ma 4), .inl (cI, 40, .inl fO)), ((ma 5), .inl (cI, 40, .inl fG)), ((ma 8), .inl (cB, 1200, .inl fN)), ((ma 12), .inl (cB, 320, .inl fBa)), ((ma 13), .inl (cI, 40, .inl fBs)), ((ma 14), .inl (cB, 120, .inl fEx)), ((ma 15), .inl (cI, 40, .inl fEs)), ((ma 9), .inl (cI, 40, .inl fNS)), ((ma 10), .inl (cB, 8000, .inl fT)), ((ma 11), .inl (cI, 40, .inl fTS)), ((ma 1), .inl (cI, 40, .inl fK)), ((ma 2), .inl (cI, 40, .inl fP)), (h0, .inr (11, MO ma sv_thrown sv_length sv_nodes sv_many sv_directories sv_runsFrom sv_runs sv_read sv_wrong sv_isNamed sv_goes sv_goesSize sv_goesAt sv_targetParts sv_isRoot)), ((ma 16), .inl (cJ, 46080, .inr (.inl G_73)))] H := hP
            have hD : va_D A [((ma 3), .inl (cI, 40, .inl fM)), ((ma 4), .inl (cI, 40, .inl fO)), ((ma 5), .inl (cI, 40, .inl fG)), ((ma 8), .inl (cB, 1200, .inl fN)), ((ma 12), .inl (cB, 320, .inl fBa)), ((ma 13), .inl (cI, 40, .inl fBs)), ((ma 14), .inl (cB, 120, .inl fEx)), ((ma 15), .inl (cI, 40, .inl fEs)), ((ma 9), .inl (cI, 40, .inl fNS)), ((ma 10), .inl (cB, 8000, .inl fT)), ((ma 11), .inl (cI, 40, .inl fTS)), ((ma 1), .inl (cI, 40, .inl fK)), ((ma 2), .inl (cI, 40, .inl fP)), (h0, .inr (11, MO ma sv_thrown sv_length sv_nodes sv_many sv_directories sv_runsFrom sv_runs sv_read sv_wrong sv_isNamed sv_goes sv_goesSize sv_goesAt sv_targetParts sv_isRoot)), ((ma 16), .inl (cJ, 46080, .inr (.inl G_73)))] := hD
            try dsimp only at hp_r72
            have hw_74 := hp_r72
            refine lv_goto (tgt := 258) hx hb d_DiscMakerModel_lay_175 (by decide) ?_
            refine lv_iload hx hb d_DiscMakerModel_lay_258 (lv_at hl 0 rfl) ?_
            have hP9 := hP.sub (ws' := [(h0, .inr (11, MO ma sv_thrown sv_length sv_nodes sv_many sv_directories sv_runsFrom sv_runs sv_read sv_wrong sv_isNamed sv_goes sv_goesSize sv_goesAt sv_targetParts sv_isRoot)), ((ma 16), .inl (cJ, 46080, .inr (.inl G_73))), ((ma 1), .inl (cI, 40, .inl fK)), ((ma 2), .inl (cI, 40, .inl fP)), ((ma 3), .inl (cI, 40, .inl fM)), ((ma 4), .inl (cI, 40, .inl fO)), ((ma 5), .inl (cI, 40, .inl fG)), ((ma 8), .inl (cB, 1200, .inl fN)), ((ma 9), .inl (cI, 40, .inl fNS)), ((ma 10), .inl (cB, 8000, .inl fT)), ((ma 11), .inl (cI, 40, .inl fTS)), ((ma 12), .inl (cB, 320, .inl fBa)), ((ma 13), .inl (cI, 40, .inl fBs)), ((ma 14), .inl (cB, 120, .inl fEx)), ((ma 15), .inl (cI, 40, .inl fEs))]) [13, 14, 11, 12, 0, 1, 2, 3, 8, 9, 10, 4, 5, 6, 7] rfl
            have hD9 := hD.sub (ws' := [(h0, .inr (11, MO ma sv_thrown sv_length sv_nodes sv_many sv_directories sv_runsFrom sv_runs sv_read sv_wrong sv_isNamed sv_goes sv_goesSize sv_goesAt sv_targetParts sv_isRoot)), ((ma 16), .inl (cJ, 46080, .inr (.inl G_73))), ((ma 1), .inl (cI, 40, .inl fK)), ((ma 2), .inl (cI, 40, .inl fP)), ((ma 3), .inl (cI, 40, .inl fM)), ((ma 4), .inl (cI, 40, .inl fO)), ((ma 5), .inl (cI, 40, .inl fG)), ((ma 8), .inl (cB, 1200, .inl fN)), ((ma 9), .inl (cI, 40, .inl fNS)), ((ma 10), .inl (cB, 8000, .inl fT)), ((ma 11), .inl (cI, 40, .inl fTS)), ((ma 12), .inl (cB, 320, .inl fBa)), ((ma 13), .inl (cI, 40, .inl fBs)), ((ma 14), .inl (cB, 120, .inl fEx)), ((ma 15), .inl (cI, 40, .inl fEs))]) [13, 14, 11, 12, 0, 1, 2, 3, 8, 9, 10, 4, 5, 6, 7] (by decide +kernel) rfl
            have hpv := hv_2
            have hzc := i_cl (a := z) (by omega)
            have hnz := hNS z.toNatClampNeg (by omega)
            have htz := hTS z.toNatClampNeg (by omega)
            have hx9 : x.toInt = 1 := by omega
            rw [hx9] at hpv hfit
            unfold psF at hpv hfit
            rw [if_neg (by decide), if_pos rfl] at hpv hfit
            have xk_v29 : v29.toInt = (fK z.toNatClampNeg).toInt := by rw [e_v29]
            have hm9 : v55.toInt = dx 1 z.toNatClampNeg := by rw [hlx.2.1]; congr 1; rw [e_v55, e_v54]; unfold mdW; first | (rw [if_pos (by omega)]; rw [e_v53]) | (rw [if_neg (by omega), if_pos (by omega)]; rw [e_v53]) | (rw [if_neg (by omega), if_neg (by omega)]; rw [e_v53])
            have hl9 := hv_61
            rw [← hlx.2.2.1] at hl9
            have ho9 : v66.toInt = dx 3 z.toNatClampNeg := by rw [hlx.2.2.2.1, e_v66]
            have hg9 : v71.toInt = dx 4 z.toNatClampNeg := by rw [hlx.2.2.2.2, e_v71]
            have w0 := hw_27
            have w1 := hw_58
            have w2 := hw_64
            have w3 := hw_69
            have w4 := hw_74
            rw [hm9] at w1
            rw [hl9] at w2
            rw [ho9] at w3
            rw [hg9] at w4
            exact W.iret (v := r1) hx hb hr (fun t ht hW => ⟨⟨r1, G_73, rfl, ⟨(by (try dsimp only); unfold psF; rw [hx9, if_neg (by decide), if_pos rfl]; omega), (by (try dsimp only); first | assumption | omega | trivial), (by (try dsimp only); unfold ptL; rw [hx9, if_neg (by decide), if_pos rfl]; exact ((((((Rn_0 (n := 0) hz9 rfl).bl (m := 4) (n2 := 4) w0 (by omega) rfl (by omega)).bl (m := 8) (n2 := 12) w1 (by omega) rfl (by omega)).bl (m := 8) (n2 := 20) w2 (by omega) rfl (by omega)).bl (m := 8) (n2 := 28) w3 (by omega) rfl (by omega)).bl (m := 8) (n2 := 36) w4 (by omega) rfl (by omega)).cast rfl (by omega))⟩, by rw [ht]; exact hP9, hD9⟩, hS.F ht⟩) hS.2.2 d_DiscMakerModel_lay_260
        · skip
          have g86_78 : v29.toInt = 0 := (i_eq rfl (by decide)).mp h_9
          refine lv_sipush (v := 16384) hx hb d_DiscMakerModel_lay_89 (by decide) ?_
          refine lv_goto (tgt := 114) hx hb d_DiscMakerModel_lay_92 (by decide) ?_
          refine lv_aload_n hx hb d_DiscMakerModel_lay_114 rfl (lv_at hl 1 rfl) ?_
          refine va_get (D := D) (ci := 11) (v := .ref (ma 3)) (C := "DiscMakerModel") (T := F_DiscMakerModel) (N := 48) hx hb ht9 in_DiscMakerModel hown hK hP 13 rfl rfl 6 (by decide) (ht9 _ k1437) (fun _ h9 => h9) rfl d_DiscMakerModel_lay_115 ?_
          refine lv_iload_n hx hb d_DiscMakerModel_lay_118 rfl (lv_at hl 4 rfl) ?_
          refine va_iald hx hb hK hP 1 1 rfl rfl (vp_in_iff.mpr ⟨by omega, by omega⟩) d_DiscMakerModel_lay_119 ?_
          refine lv_topi (fun v75 e_v75 => ?_)
          refine lv_sipush (v := 4096) hx hb d_DiscMakerModel_lay_120 (by decide) ?_
          refine lv_irem hx hb d_DiscMakerModel_lay_123 (by decide) ?_
          refine lv_topi (fun v76 e_v76 => ?_)
          refine lv_iadd hx hb d_DiscMakerModel_lay_124 ?_
          refine lv_topi (fun v77 e_v77 => ?_)
          have hPc := hP.sub (ws' := [(h0, .inr (11, MO ma sv_thrown sv_length sv_nodes sv_many sv_directories sv_runsFrom sv_runs sv_read sv_wrong sv_isNamed sv_goes sv_goesSize sv_goesAt sv_targetParts sv_isRoot)), ((ma 16), .inl (cJ, 46080, .inr (.inl G_26)))]) [13, 14] rfl
          have hDc := hD.sub (ws' := [(h0, .inr (11, MO ma sv_thrown sv_length sv_nodes sv_many sv_directories sv_runsFrom sv_runs sv_read sv_wrong sv_isNamed sv_goes sv_goesSize sv_goesAt sv_targetParts sv_isRoot)), ((ma 16), .inl (cJ, 46080, .inr (.inl G_26)))]) [13, 14] (by decide +kernel) rfl
          have hFc := va_free (wc := [(h0, .inr (11, MO ma sv_thrown sv_length sv_nodes sv_many sv_directories sv_runsFrom sv_runs sv_read sv_wrong sv_isNamed sv_goes sv_goesSize sv_goesAt sv_targetParts sv_isRoot)), ((ma 16), .inl (cJ, 46080, .inr (.inl G_26)))]) hD hS hA [13, 14] rfl
          have hkc : 0 ≤ 0 := by decide
          have hks : 0 ≤ 0 := by decide
          refine va_callv (va_runV (C := "DiscMakerModel") (As := [.int v28, .int 4, .int v77]) (rest := []) ⟨hx, hb, hml, hown, hts⟩ (m_both4F l D cB cI cJ cZ cN cF H.size h0 ma sv_thrown sv_length sv_nodes sv_many sv_directories sv_runsFrom sv_runs sv_read sv_wrong sv_isNamed sv_goes sv_goesSize sv_goesAt sv_targetParts sv_isRoot G_26 v28 v77 (by (try dsimp only); first | assumption | omega | trivial) (by (try dsimp only); first | assumption | omega | trivial)) (cwV 3 hts (lg_goodV k1740 k1742 k81 k125 kc_DiscMakerModel_both) rfl rfl rfl (by decide +kernel) ⟨Nat.le_of_ble_eq_true rfl, Nat.le_of_ble_eq_true rfl⟩) ⟨fun a U g mk q => by obtain ⟨q0, q1, qP, qK, qN, qD⟩ := q; exact ⟨q0, q1, qP, va_K.moved (u := U) (U := U.calling g mk a) (Vm.Alike.refl U.vm) qK, qN.calling, qD⟩, va_recv hK hP (ci := 11) (q0 := 13) rfl rfl, fun U hU hW => ⟨rfl, by rw [hU], by rw [hU]; exact hPc, va_K.moved hW.alike hK, NN.warm hW hN, hDc.weaken (fun _ _ _ _ => trivial)⟩⟩ rfl rfl hl.1 rfl (lv_room (Nat.le_of_ble_eq_true rfl)) d_DiscMakerModel_lay_125 ⟨hkc, hks⟩) hS (fun q _ h => hFc q h) hFc (fun u t H1 locs ht hvm hp_r78 hB hz1 hk1 hS => ?_)
          obtain ⟨G_79, rfl⟩ : ∃ z, z = u := ⟨_, rfl⟩
          obtain ⟨hP1, hD1⟩ := hB
          rw [ht] at hP1
          obtain ⟨hP, hD⟩ := va_join (wr := [((ma 2), .inl (cI, 40, .inl fP)), ((ma 3), .inl (cI, 40, .inl fM)), ((ma 4), .inl (cI, 40, .inl fO)), ((ma 5), .inl (cI, 40, .inl fG)), ((ma 8), .inl (cB, 1200, .inl fN)), ((ma 12), .inl (cB, 320, .inl fBa)), ((ma 13), .inl (cI, 40, .inl fBs)), ((ma 14), .inl (cB, 120, .inl fEx)), ((ma 15), .inl (cI, 40, .inl fEs)), ((ma 1), .inl (cI, 40, .inl fK)), ((ma 9), .inl (cI, 40, .inl fNS)), ((ma 10), .inl (cB, 8000, .inl fT)), ((ma 11), .inl (cI, 40, .inl fTS))]) (w1 := [(h0, .inr (11, MO ma sv_thrown sv_length sv_nodes sv_many sv_directories sv_runsFrom sv_runs sv_read sv_wrong sv_isNamed sv_goes sv_goesSize sv_goesAt sv_targetParts sv_isRoot)), ((ma 16), .inl (cJ, 46080, .inr (.inl G_79)))]) hP hD [13, 14] [0, 1, 2, 3, 4, 5, 6, 7, 8, 9, 10, 11, 12] rfl rfl (by decide +kernel) (by decide +kernel) hk1 hFc hP1 hD1
          clear hPc hDc hFc hP1 hD1 hk1 hz1 hkc hks
          generalize H1 = H at hP hS ⊢
          have hP : va_P D CL [((ma 2), .inl (cI, 40, .inl fP)), ((ma 3), .inl (cI, 40, .inl fM)), ((ma 4), .inl (cI, 40, .inl fO)), ((ma 5), .inl (cI, 40, .inl fG)), ((ma 8), .inl (cB, 1200, .inl fN)), ((ma 12), .inl (cB, 320, .inl fBa)), ((ma 13), .inl (cI, 40, .inl fBs)), ((ma 14), .inl (cB, 120, .inl fEx)), ((ma 15), .inl (cI, 40, .inl fEs)), ((ma 1), .inl (cI, 40, .inl fK)), ((ma 9), .inl (cI, 40, .inl fNS)), ((ma 10), .inl (cB, 8000, .inl fT)), ((ma 11), .inl (cI, 40, .inl fTS)), (h0, .inr (11, MO ma sv_thrown sv_length sv_nodes sv_many sv_directories sv_runsFrom sv_runs sv_read sv_wrong sv_isNamed sv_goes sv_goesSize sv_goesAt sv_targetParts sv_isRoot)), ((ma 16), .inl (cJ, 46080, .inr (.inl G_79)))] H := hP
          have hD : va_D A [((ma 2), .inl (cI, 40, .inl fP)), ((ma 3), .inl (cI, 40, .inl fM)), ((ma 4), .inl (cI, 40, .inl fO)), ((ma 5), .inl (cI, 40, .inl fG)), ((ma 8), .inl (cB, 1200, .inl fN)), ((ma 12), .inl (cB, 320, .inl fBa)), ((ma 13), .inl (cI, 40, .inl fBs)), ((ma 14), .inl (cB, 120, .inl fEx)), ((ma 15), .inl (cI, 40, .inl fEs)), ((ma 1), .inl (cI, 40, .inl fK)), ((ma 9), .inl (cI, 40, .inl fNS)), ((ma 10), .inl (cB, 8000, .inl fT)), ((ma 11), .inl (cI, 40, .inl fTS)), (h0, .inr (11, MO ma sv_thrown sv_length sv_nodes sv_many sv_directories sv_runsFrom sv_runs sv_read sv_wrong sv_isNamed sv_goes sv_goesSize sv_goesAt sv_targetParts sv_isRoot)), ((ma 16), .inl (cJ, 46080, .inr (.inl G_79)))] := hD
          try dsimp only at hp_r78
          have hw_80 := hp_r78
          refine lv_aload_n hx hb d_DiscMakerModel_lay_128 rfl (lv_at hl 1 rfl) ?_
          refine lv_iload hx hb d_DiscMakerModel_lay_129 (lv_at hl 5 rfl) ?_
          refine lv_bipush (v := 12) hx hb d_DiscMakerModel_lay_131 (by decide) ?_
          refine lv_iadd hx hb d_DiscMakerModel_lay_133 ?_
          refine lv_topi (fun v81 e_v81 => ?_)
          have t_v81 : v81.toInt = w.toInt + 12 := by rw [e_v81]; exact i_add rfl (by decide) (by omega) (by omega)
          refine lv_iconst (v := 4) hx hb d_DiscMakerModel_lay_134 (by decide) ?_
          refine lv_aload_n hx hb d_DiscMakerModel_lay_135 rfl (lv_at hl 1 rfl) ?_
          refine lv_iload_n hx hb d_DiscMakerModel_lay_136 rfl (lv_at hl 4 rfl) ?_
          have hPc := hP.sub (ws' := [(h0, .inr (11, MO ma sv_thrown sv_length sv_nodes sv_many sv_directories sv_runsFrom sv_runs sv_read sv_wrong sv_isNamed sv_goes sv_goesSize sv_goesAt sv_targetParts sv_isRoot)), ((ma 1), .inl (cI, 40, .inl fK)), ((ma 2), .inl (cI, 40, .inl fP))]) [13, 9, 0] rfl
          have hDc := hD.sub (ws' := [(h0, .inr (11, MO ma sv_thrown sv_length sv_nodes sv_many sv_directories sv_runsFrom sv_runs sv_read sv_wrong sv_isNamed sv_goes sv_goesSize sv_goesAt sv_targetParts sv_isRoot)), ((ma 1), .inl (cI, 40, .inl fK)), ((ma 2), .inl (cI, 40, .inl fP))]) [13, 9, 0] (by decide +kernel) rfl
          have hFc := va_free (wc := [(h0, .inr (11, MO ma sv_thrown sv_length sv_nodes sv_many sv_directories sv_runsFrom sv_runs sv_read sv_wrong sv_isNamed sv_goes sv_goesSize sv_goesAt sv_targetParts sv_isRoot)), ((ma 1), .inl (cI, 40, .inl fK)), ((ma 2), .inl (cI, 40, .inl fP))]) hD hS hA [13, 9, 0] rfl
          have hkc : 0 ≤ 0 := by decide
          have hks : 0 ≤ 0 := by decide
          refine va_calli (va_runV (C := "DiscMakerModel") (As := [.int z]) (rest := [.int 4, .int v81, .ref h0]) ⟨hx, hb, hml, hown, hts⟩ (m_linksF l D cB cI cJ cZ cN cF H.size h0 ma sv_thrown sv_length sv_nodes sv_many sv_directories sv_runsFrom sv_runs sv_read sv_wrong sv_isNamed sv_goes sv_goesSize sv_goesAt sv_targetParts sv_isRoot fK fP dt z (by (try dsimp only); first | assumption | omega | trivial) (by (try dsimp only); first | assumption | omega | trivial) (hl0.2.1) (hdp)) (cwV 1 hts (lg_goodV k1770 k1772 k88 k125 kc_DiscMakerModel_links) rfl rfl rfl (by decide +kernel) ⟨Nat.le_of_ble_eq_true rfl, Nat.le_of_ble_eq_true rfl⟩) ⟨fun a U g mk q => by obtain ⟨q0, q1, qP, qK, qN, qD⟩ := q; exact ⟨q0, q1, qP, va_K.moved (u := U) (U := U.calling g mk a) (Vm.Alike.refl U.vm) qK, qN.calling, qD⟩, va_recv hK hP (ci := 11) (q0 := 13) rfl rfl, fun U hU hW => ⟨rfl, by rw [hU], by rw [hU]; exact hPc, va_K.moved hW.alike hK, NN.warm hW hN, hDc.weaken (fun _ _ _ _ => trivial)⟩⟩ rfl rfl hl.1 rfl (lv_room (Nat.le_of_ble_eq_true rfl)) d_DiscMakerModel_lay_137 ⟨hkc, hks⟩) hS (fun q _ h => hFc q h) hFc (fun r82 u t H1 locs ht hvm hp_r82 hB hz1 hk1 hS => ?_)
          obtain ⟨hP1, hD1⟩ := hB
          rw [ht] at hP1
          obtain ⟨hP, hD⟩ := va_join (wr := [((ma 3), .inl (cI, 40, .inl fM)), ((ma 4), .inl (cI, 40, .inl fO)), ((ma 5), .inl (cI, 40, .inl fG)), ((ma 8), .inl (cB, 1200, .inl fN)), ((ma 12), .inl (cB, 320, .inl fBa)), ((ma 13), .inl (cI, 40, .inl fBs)), ((ma 14), .inl (cB, 120, .inl fEx)), ((ma 15), .inl (cI, 40, .inl fEs)), ((ma 9), .inl (cI, 40, .inl fNS)), ((ma 10), .inl (cB, 8000, .inl fT)), ((ma 11), .inl (cI, 40, .inl fTS)), ((ma 16), .inl (cJ, 46080, .inr (.inl G_79)))]) (w1 := [(h0, .inr (11, MO ma sv_thrown sv_length sv_nodes sv_many sv_directories sv_runsFrom sv_runs sv_read sv_wrong sv_isNamed sv_goes sv_goesSize sv_goesAt sv_targetParts sv_isRoot)), ((ma 1), .inl (cI, 40, .inl fK)), ((ma 2), .inl (cI, 40, .inl fP))]) hP hD [13, 9, 0] [1, 2, 3, 4, 5, 6, 7, 8, 10, 11, 12, 14] rfl rfl (by decide +kernel) (by decide +kernel) hk1 hFc hP1 hD1
          clear hPc hDc hFc hP1 hD1 hk1 hz1 hkc hks
          generalize H1 = H at hP hS ⊢
          have hP : va_P D CL [((ma 3), .inl (cI, 40, .inl fM)), ((ma 4), .inl (cI, 40, .inl fO)), ((ma 5), .inl (cI, 40, .inl fG)), ((ma 8), .inl (cB, 1200, .inl fN)), ((ma 12), .inl (cB, 320, .inl fBa)), ((ma 13), .inl (cI, 40, .inl fBs)), ((ma 14), .inl (cB, 120, .inl fEx)), ((ma 15), .inl (cI, 40, .inl fEs)), ((ma 9), .inl (cI, 40, .inl fNS)), ((ma 10), .inl (cB, 8000, .inl fT)), ((ma 11), .inl (cI, 40, .inl fTS)), ((ma 16), .inl (cJ, 46080, .inr (.inl G_79))), (h0, .inr (11, MO ma sv_thrown sv_length sv_nodes sv_many sv_directories sv_runsFrom sv_runs sv_read sv_wrong sv_isNamed sv_goes sv_goesSize sv_goesAt sv_targetParts sv_isRoot)), ((ma 1), .inl (cI, 40, .inl fK)), ((ma 2), .inl (cI, 40, .inl fP))] H := hP
          have hD : va_D A [((ma 3), .inl (cI, 40, .inl fM)), ((ma 4), .inl (cI, 40, .inl fO)), ((ma 5), .inl (cI, 40, .inl fG)), ((ma 8), .inl (cB, 1200, .inl fN)), ((ma 12), .inl (cB, 320, .inl fBa)), ((ma 13), .inl (cI, 40, .inl fBs)), ((ma 14), .inl (cB, 120, .inl fEx)), ((ma 15), .inl (cI, 40, .inl fEs)), ((ma 9), .inl (cI, 40, .inl fNS)), ((ma 10), .inl (cB, 8000, .inl fT)), ((ma 11), .inl (cI, 40, .inl fTS)), ((ma 16), .inl (cJ, 46080, .inr (.inl G_79))), (h0, .inr (11, MO ma sv_thrown sv_length sv_nodes sv_many sv_directories sv_runsFrom sv_runs sv_read sv_wrong sv_isNamed sv_goes sv_goesSize sv_goesAt sv_targetParts sv_isRoot)), ((ma 1), .inl (cI, 40, .inl fK)), ((ma 2), .inl (cI, 40, .inl fP))] := hD
          try dsimp only at hp_r82
          have hv_83 := hp_r82
          have hPc := hP.sub (ws' := [(h0, .inr (11, MO ma sv_thrown sv_length sv_nodes sv_many sv_directories sv_runsFrom sv_runs sv_read sv_wrong sv_isNamed sv_goes sv_goesSize sv_goesAt sv_targetParts sv_isRoot)), ((ma 16), .inl (cJ, 46080, .inr (.inl G_79)))]) [12, 11] rfl
          have hDc := hD.sub (ws' := [(h0, .inr (11, MO ma sv_thrown sv_length sv_nodes sv_many sv_directories sv_runsFrom sv_runs sv_read sv_wrong sv_isNamed sv_goes sv_goesSize sv_goesAt sv_targetParts sv_isRoot)), ((ma 16), .inl (cJ, 46080, .inr (.inl G_79)))]) [12, 11] (by decide +kernel) rfl
          have hFc := va_free (wc := [(h0, .inr (11, MO ma sv_thrown sv_length sv_nodes sv_many sv_directories sv_runsFrom sv_runs sv_read sv_wrong sv_isNamed sv_goes sv_goesSize sv_goesAt sv_targetParts sv_isRoot)), ((ma 16), .inl (cJ, 46080, .inr (.inl G_79)))]) hD hS hA [12, 11] rfl
          have hkc : 0 ≤ 0 := by decide
          have hks : 0 ≤ 0 := by decide
          refine va_callv (va_runV (C := "DiscMakerModel") (As := [.int v81, .int 4, .int r82]) (rest := []) ⟨hx, hb, hml, hown, hts⟩ (m_both4F l D cB cI cJ cZ cN cF H.size h0 ma sv_thrown sv_length sv_nodes sv_many sv_directories sv_runsFrom sv_runs sv_read sv_wrong sv_isNamed sv_goes sv_goesSize sv_goesAt sv_targetParts sv_isRoot G_79 v81 r82 (by (try dsimp only); first | assumption | omega | trivial) (by (try dsimp only); first | assumption | omega | trivial)) (cwV 3 hts (lg_goodV k1740 k1742 k81 k125 kc_DiscMakerModel_both) rfl rfl rfl (by decide +kernel) ⟨Nat.le_of_ble_eq_true rfl, Nat.le_of_ble_eq_true rfl⟩) ⟨fun a U g mk q => by obtain ⟨q0, q1, qP, qK, qN, qD⟩ := q; exact ⟨q0, q1, qP, va_K.moved (u := U) (U := U.calling g mk a) (Vm.Alike.refl U.vm) qK, qN.calling, qD⟩, va_recv hK hP (ci := 11) (q0 := 12) rfl rfl, fun U hU hW => ⟨rfl, by rw [hU], by rw [hU]; exact hPc, va_K.moved hW.alike hK, NN.warm hW hN, hDc.weaken (fun _ _ _ _ => trivial)⟩⟩ rfl rfl hl.1 rfl (lv_room (Nat.le_of_ble_eq_true rfl)) d_DiscMakerModel_lay_140 ⟨hkc, hks⟩) hS (fun q _ h => hFc q h) hFc (fun u t H1 locs ht hvm hp_r84 hB hz1 hk1 hS => ?_)
          obtain ⟨G_85, rfl⟩ : ∃ z, z = u := ⟨_, rfl⟩
          obtain ⟨hP1, hD1⟩ := hB
          rw [ht] at hP1
          obtain ⟨hP, hD⟩ := va_join (wr := [((ma 3), .inl (cI, 40, .inl fM)), ((ma 4), .inl (cI, 40, .inl fO)), ((ma 5), .inl (cI, 40, .inl fG)), ((ma 8), .inl (cB, 1200, .inl fN)), ((ma 12), .inl (cB, 320, .inl fBa)), ((ma 13), .inl (cI, 40, .inl fBs)), ((ma 14), .inl (cB, 120, .inl fEx)), ((ma 15), .inl (cI, 40, .inl fEs)), ((ma 9), .inl (cI, 40, .inl fNS)), ((ma 10), .inl (cB, 8000, .inl fT)), ((ma 11), .inl (cI, 40, .inl fTS)), ((ma 1), .inl (cI, 40, .inl fK)), ((ma 2), .inl (cI, 40, .inl fP))]) (w1 := [(h0, .inr (11, MO ma sv_thrown sv_length sv_nodes sv_many sv_directories sv_runsFrom sv_runs sv_read sv_wrong sv_isNamed sv_goes sv_goesSize sv_goesAt sv_targetParts sv_isRoot)), ((ma 16), .inl (cJ, 46080, .inr (.inl G_85)))]) hP hD [12, 11] [0, 1, 2, 3, 4, 5, 6, 7, 8, 9, 10, 13, 14] rfl rfl (by decide +kernel) (by decide +kernel) hk1 hFc hP1 hD1
          clear hPc hDc hFc hP1 hD1 hk1 hz1 hkc hks
          generalize H1 = H at hP hS ⊢
          have hP : va_P D CL [((ma 3), .inl (cI, 40, .inl fM)), ((ma 4), .inl (cI, 40, .inl fO)), ((ma 5), .inl (cI, 40, .inl fG)), ((ma 8), .inl (cB, 1200, .inl fN)), ((ma 12), .inl (cB, 320, .inl fBa)), ((ma 13), .inl (cI, 40, .inl fBs)), ((ma 14), .inl (cB, 120, .inl fEx)), ((ma 15), .inl (cI, 40, .inl fEs)), ((ma 9), .inl (cI, 40, .inl fNS)), ((ma 10), .inl (cB, 8000, .inl fT)), ((ma 11), .inl (cI, 40, .inl fTS)), ((ma 1), .inl (cI, 40, .inl fK)), ((ma 2), .inl (cI, 40, .inl fP)), (h0, .inr (11, MO ma sv_thrown sv_length sv_nodes sv_many sv_directories sv_runsFrom sv_runs sv_read sv_wrong sv_isNamed sv_goes sv_goesSize sv_goesAt sv_targetParts sv_isRoot)), ((ma 16), .inl (cJ, 46080, .inr (.inl G_85)))] H := hP
          have hD : va_D A [((ma 3), .inl (cI, 40, .inl fM)), ((ma 4), .inl (cI, 40, .inl fO)), ((ma 5), .inl (cI, 40, .inl fG)), ((ma 8), .inl (cB, 1200, .inl fN)), ((ma 12), .inl (cB, 320, .inl fBa)), ((ma 13), .inl (cI, 40, .inl fBs)), ((ma 14), .inl (cB, 120, .inl fEx)), ((ma 15), .inl (cI, 40, .inl fEs)), ((ma 9), .inl (cI, 40, .inl fNS)), ((ma 10), .inl (cB, 8000, .inl fT)), ((ma 11), .inl (cI, 40, .inl fTS)), ((ma 1), .inl (cI, 40, .inl fK)), ((ma 2), .inl (cI, 40, .inl fP)), (h0, .inr (11, MO ma sv_thrown sv_length sv_nodes sv_many sv_directories sv_runsFrom sv_runs sv_read sv_wrong sv_isNamed sv_goes sv_goesSize sv_goesAt sv_targetParts sv_isRoot)), ((ma 16), .inl (cJ, 46080, .inr (.inl G_85)))] := hD
          try dsimp only at hp_r84
          have hw_86 := hp_r84
          refine lv_aload_n hx hb d_DiscMakerModel_lay_143 rfl (lv_at hl 1 rfl) ?_
          refine lv_iload hx hb d_DiscMakerModel_lay_144 (lv_at hl 5 rfl) ?_
          refine lv_bipush (v := 20) hx hb d_DiscMakerModel_lay_146 (by decide) ?_
          refine lv_iadd hx hb d_DiscMakerModel_lay_148 ?_
          refine lv_topi (fun v87 e_v87 => ?_)
          have t_v87 : v87.toInt = w.toInt + 20 := by rw [e_v87]; exact i_add rfl (by decide) (by omega) (by omega)
          refine lv_iconst (v := 4) hx hb d_DiscMakerModel_lay_149 (by decide) ?_
          refine lv_aload_n hx hb d_DiscMakerModel_lay_150 rfl (lv_at hl 1 rfl) ?_
          refine va_get (D := D) (ci := 11) (v := .ref (ma 4)) (C := "DiscMakerModel") (T := F_DiscMakerModel) (N := 48) hx hb ht9 in_DiscMakerModel hown hK hP 13 rfl rfl 7 (by decide) (ht9 _ k1438) (fun _ h9 => h9) rfl d_DiscMakerModel_lay_151 ?_
          refine lv_iload_n hx hb d_DiscMakerModel_lay_154 rfl (lv_at hl 4 rfl) ?_
          refine va_iald hx hb hK hP 1 1 rfl rfl (vp_in_iff.mpr ⟨by omega, by omega⟩) d_DiscMakerModel_lay_155 ?_
          refine lv_topi (fun v88 e_v88 => ?_)
          have hPc := hP.sub (ws' := [(h0, .inr (11, MO ma sv_thrown sv_length sv_nodes sv_many sv_directories sv_runsFrom sv_runs sv_read sv_wrong sv_isNamed sv_goes sv_goesSize sv_goesAt sv_targetParts sv_isRoot)), ((ma 16), .inl (cJ, 46080, .inr (.inl G_85)))]) [13, 14] rfl
          have hDc := hD.sub (ws' := [(h0, .inr (11, MO ma sv_thrown sv_length sv_nodes sv_many sv_directories sv_runsFrom sv_runs sv_read sv_wrong sv_isNamed sv_goes sv_goesSize sv_goesAt sv_targetParts sv_isRoot)), ((ma 16), .inl (cJ, 46080, .inr (.inl G_85)))]) [13, 14] (by decide +kernel) rfl
          have hFc := va_free (wc := [(h0, .inr (11, MO ma sv_thrown sv_length sv_nodes sv_many sv_directories sv_runsFrom sv_runs sv_read sv_wrong sv_isNamed sv_goes sv_goesSize sv_goesAt sv_targetParts sv_isRoot)), ((ma 16), .inl (cJ, 46080, .inr (.inl G_85)))]) hD hS hA [13, 14] rfl
          have hkc : 0 ≤ 0 := by decide
          have hks : 0 ≤ 0 := by decide
          refine va_callv (va_runV (C := "DiscMakerModel") (As := [.int v87, .int 4, .int v88]) (rest := []) ⟨hx, hb, hml, hown, hts⟩ (m_both4F l D cB cI cJ cZ cN cF H.size h0 ma sv_thrown sv_length sv_nodes sv_many sv_directories sv_runsFrom sv_runs sv_read sv_wrong sv_isNamed sv_goes sv_goesSize sv_goesAt sv_targetParts sv_isRoot G_85 v87 v88 (by (try dsimp only); first | assumption | omega | trivial) (by (try dsimp only); first | assumption | omega | trivial)) (cwV 3 hts (lg_goodV k1740 k1742 k81 k125 kc_DiscMakerModel_both) rfl rfl rfl (by decide +kernel) ⟨Nat.le_of_ble_eq_true rfl, Nat.le_of_ble_eq_true rfl⟩) ⟨fun a U g mk q => by obtain ⟨q0, q1, qP, qK, qN, qD⟩ := q; exact ⟨q0, q1, qP, va_K.moved (u := U) (U := U.calling g mk a) (Vm.Alike.refl U.vm) qK, qN.calling, qD⟩, va_recv hK hP (ci := 11) (q0 := 13) rfl rfl, fun U hU hW => ⟨rfl, by rw [hU], by rw [hU]; exact hPc, va_K.moved hW.alike hK, NN.warm hW hN, hDc.weaken (fun _ _ _ _ => trivial)⟩⟩ rfl rfl hl.1 rfl (lv_room (Nat.le_of_ble_eq_true rfl)) d_DiscMakerModel_lay_156 ⟨hkc, hks⟩) hS (fun q _ h => hFc q h) hFc (fun u t H1 locs ht hvm hp_r89 hB hz1 hk1 hS => ?_)
          obtain ⟨G_90, rfl⟩ : ∃ z, z = u := ⟨_, rfl⟩
          obtain ⟨hP1, hD1⟩ := hB
          rw [ht] at hP1
          obtain ⟨hP, hD⟩ := va_join (wr := [((ma 3), .inl (cI, 40, .inl fM)), ((ma 4), .inl (cI, 40, .inl fO)), ((ma 5), .inl (cI, 40, .inl fG)), ((ma 8), .inl (cB, 1200, .inl fN)), ((ma 12), .inl (cB, 320, .inl fBa)), ((ma 13), .inl (cI, 40, .inl fBs)), ((ma 14), .inl (cB, 120, .inl fEx)), ((ma 15), .inl (cI, 40, .inl fEs)), ((ma 9), .inl (cI, 40, .inl fNS)), ((ma 10), .inl (cB, 8000, .inl fT)), ((ma 11), .inl (cI, 40, .inl fTS)), ((ma 1), .inl (cI, 40, .inl fK)), ((ma 2), .inl (cI, 40, .inl fP))]) (w1 := [(h0, .inr (11, MO ma sv_thrown sv_length sv_nodes sv_many sv_directories sv_runsFrom sv_runs sv_read sv_wrong sv_isNamed sv_goes sv_goesSize sv_goesAt sv_targetParts sv_isRoot)), ((ma 16), .inl (cJ, 46080, .inr (.inl G_90)))]) hP hD [13, 14] [0, 1, 2, 3, 4, 5, 6, 7, 8, 9, 10, 11, 12] rfl rfl (by decide +kernel) (by decide +kernel) hk1 hFc hP1 hD1
          clear hPc hDc hFc hP1 hD1 hk1 hz1 hkc hks
          generalize H1 = H at hP hS ⊢
          have hP : va_P D CL [((ma 3), .inl (cI, 40, .inl fM)), ((ma 4), .inl (cI, 40, .inl fO)), ((ma 5), .inl (cI, 40, .inl fG)), ((ma 8), .inl (cB, 1200, .inl fN)), ((ma 12), .inl (cB, 320, .inl fBa)), ((ma 13), .inl (cI, 40, .inl fBs)), ((ma 14), .inl (cB, 120, .inl fEx)), ((ma 15), .inl (cI, 40, .inl fEs)), ((ma 9), .inl (cI, 40, .inl fNS)), ((ma 10), .inl (cB, 8000, .inl fT)), ((ma 11), .inl (cI, 40, .inl fTS)), ((ma 1), .inl (cI, 40, .inl fK)), ((ma 2), .inl (cI, 40, .inl fP)), (h0, .inr (11, MO ma sv_thrown sv_length sv_nodes sv_many sv_directories sv_runsFrom sv_runs sv_read sv_wrong sv_isNamed sv_goes sv_goesSize sv_goesAt sv_targetParts sv_isRoot)), ((ma 16), .inl (cJ, 46080, .inr (.inl G_90)))] H := hP
          have hD : va_D A [((ma 3), .inl (cI, 40, .inl fM)), ((ma 4), .inl (cI, 40, .inl fO)), ((ma 5), .inl (cI, 40, .inl fG)), ((ma 8), .inl (cB, 1200, .inl fN)), ((ma 12), .inl (cB, 320, .inl fBa)), ((ma 13), .inl (cI, 40, .inl fBs)), ((ma 14), .inl (cB, 120, .inl fEx)), ((ma 15), .inl (cI, 40, .inl fEs)), ((ma 9), .inl (cI, 40, .inl fNS)), ((ma 10), .inl (cB, 8000, .inl fT)), ((ma 11), .inl (cI, 40, .inl fTS)), ((ma 1), .inl (cI, 40, .inl fK)), ((ma 2), .inl (cI, 40, .inl fP)), (h0, .inr (11, MO ma sv_thrown sv_length sv_nodes sv_many sv_directories sv_runsFrom sv_runs sv_read sv_wrong sv_isNamed sv_goes sv_goesSize sv_goesAt sv_targetParts sv_isRoot)), ((ma 16), .inl (cJ, 46080, .inr (.inl G_90)))] := hD
          try dsimp only at hp_r89
          have hw_91 := hp_r89
          refine lv_aload_n hx hb d_DiscMakerModel_lay_159 rfl (lv_at hl 1 rfl) ?_
          refine lv_iload hx hb d_DiscMakerModel_lay_160 (lv_at hl 5 rfl) ?_
          refine lv_bipush (v := 28) hx hb d_DiscMakerModel_lay_162 (by decide) ?_
          refine lv_iadd hx hb d_DiscMakerModel_lay_164 ?_
          refine lv_topi (fun v92 e_v92 => ?_)
          have t_v92 : v92.toInt = w.toInt + 28 := by rw [e_v92]; exact i_add rfl (by decide) (by omega) (by omega)
          refine lv_iconst (v := 4) hx hb d_DiscMakerModel_lay_165 (by decide) ?_
          refine lv_aload_n hx hb d_DiscMakerModel_lay_166 rfl (lv_at hl 1 rfl) ?_
          refine va_get (D := D) (ci := 11) (v := .ref (ma 5)) (C := "DiscMakerModel") (T := F_DiscMakerModel) (N := 48) hx hb ht9 in_DiscMakerModel hown hK hP 13 rfl rfl 8 (by decide) (ht9 _ k1439) (fun _ h9 => h9) rfl d_DiscMakerModel_lay_167 ?_
          refine lv_iload_n hx hb d_DiscMakerModel_lay_170 rfl (lv_at hl 4 rfl) ?_
          refine va_iald hx hb hK hP 2 1 rfl rfl (vp_in_iff.mpr ⟨by omega, by omega⟩) d_DiscMakerModel_lay_171 ?_
          refine lv_topi (fun v93 e_v93 => ?_)
          have hPc := hP.sub (ws' := [(h0, .inr (11, MO ma sv_thrown sv_length sv_nodes sv_many sv_directories sv_runsFrom sv_runs sv_read sv_wrong sv_isNamed sv_goes sv_goesSize sv_goesAt sv_targetParts sv_isRoot)), ((ma 16), .inl (cJ, 46080, .inr (.inl G_90)))]) [13, 14] rfl
          have hDc := hD.sub (ws' := [(h0, .inr (11, MO ma sv_thrown sv_length sv_nodes sv_many sv_directories sv_runsFrom sv_runs sv_read sv_wrong sv_isNamed sv_goes sv_goesSize sv_goesAt sv_targetParts sv_isRoot)), ((ma 16), .inl (cJ, 46080, .inr (.inl G_90)))]) [13, 14] (by decide +kernel) rfl
          have hFc := va_free (wc := [(h0, .inr (11, MO ma sv_thrown sv_length sv_nodes sv_many sv_directories sv_runsFrom sv_runs sv_read sv_wrong sv_isNamed sv_goes sv_goesSize sv_goesAt sv_targetParts sv_isRoot)), ((ma 16), .inl (cJ, 46080, .inr (.inl G_90)))]) hD hS hA [13, 14] rfl
          have hkc : 0 ≤ 0 := by decide
          have hks : 0 ≤ 0 := by decide
          refine va_callv (va_runV (C := "DiscMakerModel") (As := [.int v92, .int 4, .int v93]) (rest := []) ⟨hx, hb, hml, hown, hts⟩ (m_both4F l D cB cI cJ cZ cN cF H.size h0 ma sv_thrown sv_length sv_nodes sv_many sv_directories sv_runsFrom sv_runs sv_read sv_wrong sv_isNamed sv_goes sv_goesSize sv_goesAt sv_targetParts sv_isRoot G_90 v92 v93 (by (try dsimp only); first | assumption | omega | trivial) (by (try dsimp only); first | assumption | omega | trivial)) (cwV 3 hts (lg_goodV k1740 k1742 k81 k125 kc_DiscMakerModel_both) rfl rfl rfl (by decide +kernel) ⟨Nat.le_of_ble_eq_true rfl, Nat.le_of_ble_eq_true rfl⟩) ⟨fun a U g mk q => by obtain ⟨q0, q1, qP, qK, qN, qD⟩ := q; exact ⟨q0, q1, qP, va_K.moved (u := U) (U := U.calling g mk a) (Vm.Alike.refl U.vm) qK, qN.calling, qD⟩, va_recv hK hP (ci := 11) (q0 := 13) rfl rfl, fun U hU hW => ⟨rfl, by rw [hU], by rw [hU]; exact hPc, va_K.moved hW.alike hK, NN.warm hW hN, hDc.weaken (fun _ _ _ _ => trivial)⟩⟩ rfl rfl hl.1 rfl (lv_room (Nat.le_of_ble_eq_true rfl)) d_DiscMakerModel_lay_172 ⟨hkc, hks⟩) hS (fun q _ h => hFc q h) hFc (fun u t H1 locs ht hvm hp_r94 hB hz1 hk1 hS => ?_)
          obtain ⟨G_95, rfl⟩ : ∃ z, z = u := ⟨_, rfl⟩
          obtain ⟨hP1, hD1⟩ := hB
          rw [ht] at hP1
          obtain ⟨hP, hD⟩ := va_join (wr := [((ma 3), .inl (cI, 40, .inl fM)), ((ma 4), .inl (cI, 40, .inl fO)), ((ma 5), .inl (cI, 40, .inl fG)), ((ma 8), .inl (cB, 1200, .inl fN)), ((ma 12), .inl (cB, 320, .inl fBa)), ((ma 13), .inl (cI, 40, .inl fBs)), ((ma 14), .inl (cB, 120, .inl fEx)), ((ma 15), .inl (cI, 40, .inl fEs)), ((ma 9), .inl (cI, 40, .inl fNS)), ((ma 10), .inl (cB, 8000, .inl fT)), ((ma 11), .inl (cI, 40, .inl fTS)), ((ma 1), .inl (cI, 40, .inl fK)), ((ma 2), .inl (cI, 40, .inl fP))]) (w1 := [(h0, .inr (11, MO ma sv_thrown sv_length sv_nodes sv_many sv_directories sv_runsFrom sv_runs sv_read sv_wrong sv_isNamed sv_goes sv_goesSize sv_goesAt sv_targetParts sv_isRoot)), ((ma 16), .inl (cJ, 46080, .inr (.inl G_95)))]) hP hD [13, 14] [0, 1, 2, 3, 4, 5, 6, 7, 8, 9, 10, 11, 12] rfl rfl (by decide +kernel) (by decide +kernel) hk1 hFc hP1 hD1
          clear hPc hDc hFc hP1 hD1 hk1 hz1 hkc hks
          generalize H1 = H at hP hS ⊢
          have hP : va_P D CL [((ma 3), .inl (cI, 40, .inl fM)), ((ma 4), .inl (cI, 40, .inl fO)), ((ma 5), .inl (cI, 40, .inl fG)), ((ma 8), .inl (cB, 1200, .inl fN)), ((ma 12), .inl (cB, 320, .inl fBa)), ((ma 13), .inl (cI, 40, .inl fBs)), ((ma 14), .inl (cB, 120, .inl fEx)), ((ma 15), .inl (cI, 40, .inl fEs)), ((ma 9), .inl (cI, 40, .inl fNS)), ((ma 10), .inl (cB, 8000, .inl fT)), ((ma 11), .inl (cI, 40, .inl fTS)), ((ma 1), .inl (cI, 40, .inl fK)), ((ma 2), .inl (cI, 40, .inl fP)), (h0, .inr (11, MO ma sv_thrown sv_length sv_nodes sv_many sv_directories sv_runsFrom sv_runs sv_read sv_wrong sv_isNamed sv_goes sv_goesSize sv_goesAt sv_targetParts sv_isRoot)), ((ma 16), .inl (cJ, 46080, .inr (.inl G_95)))] H := hP
          have hD : va_D A [((ma 3), .inl (cI, 40, .inl fM)), ((ma 4), .inl (cI, 40, .inl fO)), ((ma 5), .inl (cI, 40, .inl fG)), ((ma 8), .inl (cB, 1200, .inl fN)), ((ma 12), .inl (cB, 320, .inl fBa)), ((ma 13), .inl (cI, 40, .inl fBs)), ((ma 14), .inl (cB, 120, .inl fEx)), ((ma 15), .inl (cI, 40, .inl fEs)), ((ma 9), .inl (cI, 40, .inl fNS)), ((ma 10), .inl (cB, 8000, .inl fT)), ((ma 11), .inl (cI, 40, .inl fTS)), ((ma 1), .inl (cI, 40, .inl fK)), ((ma 2), .inl (cI, 40, .inl fP)), (h0, .inr (11, MO ma sv_thrown sv_length sv_nodes sv_many sv_directories sv_runsFrom sv_runs sv_read sv_wrong sv_isNamed sv_goes sv_goesSize sv_goesAt sv_targetParts sv_isRoot)), ((ma 16), .inl (cJ, 46080, .inr (.inl G_95)))] := hD
          try dsimp only at hp_r94
          have hw_96 := hp_r94
          refine lv_goto (tgt := 258) hx hb d_DiscMakerModel_lay_175 (by decide) ?_
          refine lv_iload hx hb d_DiscMakerModel_lay_258 (lv_at hl 0 rfl) ?_
          have hP9 := hP.sub (ws' := [(h0, .inr (11, MO ma sv_thrown sv_length sv_nodes sv_many sv_directories sv_runsFrom sv_runs sv_read sv_wrong sv_isNamed sv_goes sv_goesSize sv_goesAt sv_targetParts sv_isRoot)), ((ma 16), .inl (cJ, 46080, .inr (.inl G_95))), ((ma 1), .inl (cI, 40, .inl fK)), ((ma 2), .inl (cI, 40, .inl fP)), ((ma 3), .inl (cI, 40, .inl fM)), ((ma 4), .inl (cI, 40, .inl fO)), ((ma 5), .inl (cI, 40, .inl fG)), ((ma 8), .inl (cB, 1200, .inl fN)), ((ma 9), .inl (cI, 40, .inl fNS)), ((ma 10), .inl (cB, 8000, .inl fT)), ((ma 11), .inl (cI, 40, .inl fTS)), ((ma 12), .inl (cB, 320, .inl fBa)), ((ma 13), .inl (cI, 40, .inl fBs)), ((ma 14), .inl (cB, 120, .inl fEx)), ((ma 15), .inl (cI, 40, .inl fEs))]) [13, 14, 11, 12, 0, 1, 2, 3, 8, 9, 10, 4, 5, 6, 7] rfl
          have hD9 := hD.sub (ws' := [(h0, .inr (11, MO ma sv_thrown sv_length sv_nodes sv_many sv_directories sv_runsFrom sv_runs sv_read sv_wrong sv_isNamed sv_goes sv_goesSize sv_goesAt sv_targetParts sv_isRoot)), ((ma 16), .inl (cJ, 46080, .inr (.inl G_95))), ((ma 1), .inl (cI, 40, .inl fK)), ((ma 2), .inl (cI, 40, .inl fP)), ((ma 3), .inl (cI, 40, .inl fM)), ((ma 4), .inl (cI, 40, .inl fO)), ((ma 5), .inl (cI, 40, .inl fG)), ((ma 8), .inl (cB, 1200, .inl fN)), ((ma 9), .inl (cI, 40, .inl fNS)), ((ma 10), .inl (cB, 8000, .inl fT)), ((ma 11), .inl (cI, 40, .inl fTS)), ((ma 12), .inl (cB, 320, .inl fBa)), ((ma 13), .inl (cI, 40, .inl fBs)), ((ma 14), .inl (cB, 120, .inl fEx)), ((ma 15), .inl (cI, 40, .inl fEs))]) [13, 14, 11, 12, 0, 1, 2, 3, 8, 9, 10, 4, 5, 6, 7] (by decide +kernel) rfl
          have hpv := hv_2
          have hzc := i_cl (a := z) (by omega)
          have hnz := hNS z.toNatClampNeg (by omega)
          have htz := hTS z.toNatClampNeg (by omega)
          have hx9 : x.toInt = 1 := by omega
          rw [hx9] at hpv hfit
          unfold psF at hpv hfit
          rw [if_neg (by decide), if_pos rfl] at hpv hfit
          have xk_v29 : v29.toInt = (fK z.toNatClampNeg).toInt := by rw [e_v29]
          have hm9 : v77.toInt = dx 1 z.toNatClampNeg := by rw [hlx.2.1]; congr 1; rw [e_v77, e_v76]; unfold mdW; first | (rw [if_pos (by omega)]; rw [e_v75]) | (rw [if_neg (by omega), if_pos (by omega)]; rw [e_v75]) | (rw [if_neg (by omega), if_neg (by omega)]; rw [e_v75])
          have hl9 := hv_83
          rw [← hlx.2.2.1] at hl9
          have ho9 : v88.toInt = dx 3 z.toNatClampNeg := by rw [hlx.2.2.2.1, e_v88]
          have hg9 : v93.toInt = dx 4 z.toNatClampNeg := by rw [hlx.2.2.2.2, e_v93]
          have w0 := hw_27
          have w1 := hw_80
          have w2 := hw_86
          have w3 := hw_91
          have w4 := hw_96
          rw [hm9] at w1
          rw [hl9] at w2
          rw [ho9] at w3
          rw [hg9] at w4
          exact W.iret (v := r1) hx hb hr (fun t ht hW => ⟨⟨r1, G_95, rfl, ⟨(by (try dsimp only); unfold psF; rw [hx9, if_neg (by decide), if_pos rfl]; omega), (by (try dsimp only); first | assumption | omega | trivial), (by (try dsimp only); unfold ptL; rw [hx9, if_neg (by decide), if_pos rfl]; exact ((((((Rn_0 (n := 0) hz9 rfl).bl (m := 4) (n2 := 4) w0 (by omega) rfl (by omega)).bl (m := 8) (n2 := 12) w1 (by omega) rfl (by omega)).bl (m := 8) (n2 := 20) w2 (by omega) rfl (by omega)).bl (m := 8) (n2 := 28) w3 (by omega) rfl (by omega)).bl (m := 8) (n2 := 36) w4 (by omega) rfl (by omega)).cast rfl (by omega))⟩, by rw [ht]; exact hP9, hD9⟩, hS.F ht⟩) hS.2.2 d_DiscMakerModel_lay_260
    · skip
      have g17_10 : x.toInt = 0 := (i_eq rfl (by decide)).mp h_9
      refine lv_aload_n hx hb d_DiscMakerModel_lay_20 rfl (lv_at hl 1 rfl) ?_
      refine lv_iload hx hb d_DiscMakerModel_lay_21 (lv_at hl 5 rfl) ?_
      refine lv_bipush (v := 83) hx hb d_DiscMakerModel_lay_23 (by decide) ?_
      refine lv_bipush (v := 80) hx hb d_DiscMakerModel_lay_25 (by decide) ?_
      refine lv_bipush (v := 7) hx hb d_DiscMakerModel_lay_27 (by decide) ?_
      have hPc := hP.sub (ws' := [(h0, .inr (11, MO ma sv_thrown sv_length sv_nodes sv_many sv_directories sv_runsFrom sv_runs sv_read sv_wrong sv_isNamed sv_goes sv_goesSize sv_goesAt sv_targetParts sv_isRoot)), ((ma 16), .inl (cJ, 46080, .inr (.inl F)))]) [9, 10] rfl
      have hDc := hD.sub (ws' := [(h0, .inr (11, MO ma sv_thrown sv_length sv_nodes sv_many sv_directories sv_runsFrom sv_runs sv_read sv_wrong sv_isNamed sv_goes sv_goesSize sv_goesAt sv_targetParts sv_isRoot)), ((ma 16), .inl (cJ, 46080, .inr (.inl F)))]) [9, 10] (by decide +kernel) rfl
      have hFc := va_free (wc := [(h0, .inr (11, MO ma sv_thrown sv_length sv_nodes sv_many sv_directories sv_runsFrom sv_runs sv_read sv_wrong sv_isNamed sv_goes sv_goesSize sv_goesAt sv_targetParts sv_isRoot)), ((ma 16), .inl (cJ, 46080, .inr (.inl F)))]) hD hS hA [9, 10] rfl
      have hkc : 0 ≤ 0 := by decide
      have hks : 0 ≤ 0 := by decide
      refine va_callv (va_runV (C := "DiscMakerModel") (As := [.int w, .int 83, .int 80, .int 7]) (rest := []) ⟨hx, hb, hml, hown, hts⟩ (m_lettersF l D cB cI cJ cZ cN cF H.size h0 ma sv_thrown sv_length sv_nodes sv_many sv_directories sv_runsFrom sv_runs sv_read sv_wrong sv_isNamed sv_goes sv_goesSize sv_goesAt sv_targetParts sv_isRoot F w 83 80 7 (by (try dsimp only); first | assumption | omega | trivial) (by (try dsimp only); first | assumption | omega | trivial)) (cwV 4 hts (lg_goodV k1764 k1766 k87 k125 kc_DiscMakerModel_letters) rfl rfl rfl (by decide +kernel) ⟨Nat.le_of_ble_eq_true rfl, Nat.le_of_ble_eq_true rfl⟩) ⟨fun a U g mk q => by obtain ⟨q0, q1, qP, qK, qN, qD⟩ := q; exact ⟨q0, q1, qP, va_K.moved (u := U) (U := U.calling g mk a) (Vm.Alike.refl U.vm) qK, qN.calling, qD⟩, va_recv hK hP (ci := 11) (q0 := 9) rfl rfl, fun U hU hW => ⟨rfl, by rw [hU], by rw [hU]; exact hPc, va_K.moved hW.alike hK, NN.warm hW hN, hDc.weaken (fun _ _ _ _ => trivial)⟩⟩ rfl rfl hl.1 rfl (lv_room (Nat.le_of_ble_eq_true rfl)) d_DiscMakerModel_lay_29 ⟨hkc, hks⟩) hS (fun q _ h => hFc q h) hFc (fun u t H1 locs ht hvm hp_r97 hB hz1 hk1 hS => ?_)
      obtain ⟨G_98, rfl⟩ : ∃ z, z = u := ⟨_, rfl⟩
      obtain ⟨hP1, hD1⟩ := hB
      rw [ht] at hP1
      obtain ⟨hP, hD⟩ := va_join (wr := [((ma 2), .inl (cI, 40, .inl fP)), ((ma 3), .inl (cI, 40, .inl fM)), ((ma 4), .inl (cI, 40, .inl fO)), ((ma 5), .inl (cI, 40, .inl fG)), ((ma 8), .inl (cB, 1200, .inl fN)), ((ma 12), .inl (cB, 320, .inl fBa)), ((ma 13), .inl (cI, 40, .inl fBs)), ((ma 14), .inl (cB, 120, .inl fEx)), ((ma 15), .inl (cI, 40, .inl fEs)), ((ma 1), .inl (cI, 40, .inl fK)), ((ma 9), .inl (cI, 40, .inl fNS)), ((ma 10), .inl (cB, 8000, .inl fT)), ((ma 11), .inl (cI, 40, .inl fTS))]) (w1 := [(h0, .inr (11, MO ma sv_thrown sv_length sv_nodes sv_many sv_directories sv_runsFrom sv_runs sv_read sv_wrong sv_isNamed sv_goes sv_goesSize sv_goesAt sv_targetParts sv_isRoot)), ((ma 16), .inl (cJ, 46080, .inr (.inl G_98)))]) hP hD [9, 10] [0, 1, 2, 3, 4, 5, 6, 7, 8, 11, 12, 13, 14] rfl rfl (by decide +kernel) (by decide +kernel) hk1 hFc hP1 hD1
      clear hPc hDc hFc hP1 hD1 hk1 hz1 hkc hks
      generalize H1 = H at hP hS ⊢
      have hP : va_P D CL [((ma 2), .inl (cI, 40, .inl fP)), ((ma 3), .inl (cI, 40, .inl fM)), ((ma 4), .inl (cI, 40, .inl fO)), ((ma 5), .inl (cI, 40, .inl fG)), ((ma 8), .inl (cB, 1200, .inl fN)), ((ma 12), .inl (cB, 320, .inl fBa)), ((ma 13), .inl (cI, 40, .inl fBs)), ((ma 14), .inl (cB, 120, .inl fEx)), ((ma 15), .inl (cI, 40, .inl fEs)), ((ma 1), .inl (cI, 40, .inl fK)), ((ma 9), .inl (cI, 40, .inl fNS)), ((ma 10), .inl (cB, 8000, .inl fT)), ((ma 11), .inl (cI, 40, .inl fTS)), (h0, .inr (11, MO ma sv_thrown sv_length sv_nodes sv_many sv_directories sv_runsFrom sv_runs sv_read sv_wrong sv_isNamed sv_goes sv_goesSize sv_goesAt sv_targetParts sv_isRoot)), ((ma 16), .inl (cJ, 46080, .inr (.inl G_98)))] H := hP
      have hD : va_D A [((ma 2), .inl (cI, 40, .inl fP)), ((ma 3), .inl (cI, 40, .inl fM)), ((ma 4), .inl (cI, 40, .inl fO)), ((ma 5), .inl (cI, 40, .inl fG)), ((ma 8), .inl (cB, 1200, .inl fN)), ((ma 12), .inl (cB, 320, .inl fBa)), ((ma 13), .inl (cI, 40, .inl fBs)), ((ma 14), .inl (cB, 120, .inl fEx)), ((ma 15), .inl (cI, 40, .inl fEs)), ((ma 1), .inl (cI, 40, .inl fK)), ((ma 9), .inl (cI, 40, .inl fNS)), ((ma 10), .inl (cB, 8000, .inl fT)), ((ma 11), .inl (cI, 40, .inl fTS)), (h0, .inr (11, MO ma sv_thrown sv_length sv_nodes sv_many sv_directories sv_runsFrom sv_runs sv_read sv_wrong sv_isNamed sv_goes sv_goesSize sv_goesAt sv_targetParts sv_isRoot)), ((ma 16), .inl (cJ, 46080, .inr (.inl G_98)))] := hD
      try dsimp only at hp_r97
      have hw_99 := hp_r97
      try rw [L_7] at hw_99
      try rw [L_80] at hw_99
      try rw [L_83] at hw_99
      refine lv_aload_n hx hb d_DiscMakerModel_lay_32 rfl (lv_at hl 1 rfl) ?_
      refine lv_iload hx hb d_DiscMakerModel_lay_33 (lv_at hl 5 rfl) ?_
      refine lv_iconst (v := 4) hx hb d_DiscMakerModel_lay_35 (by decide) ?_
      refine lv_iadd hx hb d_DiscMakerModel_lay_36 ?_
      refine lv_topi (fun v100 e_v100 => ?_)
      have t_v100 : v100.toInt = w.toInt + 4 := by rw [e_v100]; exact i_add rfl (by decide) (by omega) (by omega)
      refine lv_sipush (v := 190) hx hb d_DiscMakerModel_lay_37 (by decide) ?_
      have hPc := hP.sub (ws' := [(h0, .inr (11, MO ma sv_thrown sv_length sv_nodes sv_many sv_directories sv_runsFrom sv_runs sv_read sv_wrong sv_isNamed sv_goes sv_goesSize sv_goesAt sv_targetParts sv_isRoot)), ((ma 16), .inl (cJ, 46080, .inr (.inl G_98)))]) [13, 14] rfl
      have hDc := hD.sub (ws' := [(h0, .inr (11, MO ma sv_thrown sv_length sv_nodes sv_many sv_directories sv_runsFrom sv_runs sv_read sv_wrong sv_isNamed sv_goes sv_goesSize sv_goesAt sv_targetParts sv_isRoot)), ((ma 16), .inl (cJ, 46080, .inr (.inl G_98)))]) [13, 14] (by decide +kernel) rfl
      have hFc := va_free (wc := [(h0, .inr (11, MO ma sv_thrown sv_length sv_nodes sv_many sv_directories sv_runsFrom sv_runs sv_read sv_wrong sv_isNamed sv_goes sv_goesSize sv_goesAt sv_targetParts sv_isRoot)), ((ma 16), .inl (cJ, 46080, .inr (.inl G_98)))]) hD hS hA [13, 14] rfl
      have hkc : 0 ≤ 0 := by decide
      have hks : 0 ≤ 0 := by decide
      refine va_callv (va_runV (C := "DiscMakerModel") (As := [.int v100, .int 190]) (rest := []) ⟨hx, hb, hml, hown, hts⟩ (m_setF l D cB cI cJ cZ cN cF H.size h0 ma sv_thrown sv_length sv_nodes sv_many sv_directories sv_runsFrom sv_runs sv_read sv_wrong sv_isNamed sv_goes sv_goesSize sv_goesAt sv_targetParts sv_isRoot G_98 v100 190 (by (try dsimp only); first | assumption | omega | trivial) (by (try dsimp only); first | assumption | omega | trivial)) (cwV 2 hts (lg_goodV k1727 k1729 k79 k125 kc_DiscMakerModel_set) rfl rfl rfl (by decide +kernel) ⟨Nat.le_of_ble_eq_true rfl, Nat.le_of_ble_eq_true rfl⟩) ⟨fun a U g mk q => by obtain ⟨q0, q1, qP, qK, qN, qD⟩ := q; exact ⟨q0, q1, qP, va_K.moved (u := U) (U := U.calling g mk a) (Vm.Alike.refl U.vm) qK, qN.calling, qD⟩, va_recv hK hP (ci := 11) (q0 := 13) rfl rfl, fun U hU hW => ⟨rfl, by rw [hU], by rw [hU]; exact hPc, va_K.moved hW.alike hK, NN.warm hW hN, hDc.weaken (fun _ _ _ _ => trivial)⟩⟩ rfl rfl hl.1 rfl (lv_room (Nat.le_of_ble_eq_true rfl)) d_DiscMakerModel_lay_40 ⟨hkc, hks⟩) hS (fun q _ h => hFc q h) hFc (fun u t H1 locs ht hvm hp_r101 hB hz1 hk1 hS => ?_)
      obtain ⟨G_102, rfl⟩ : ∃ z, z = u := ⟨_, rfl⟩
      obtain ⟨hP1, hD1⟩ := hB
      rw [ht] at hP1
      obtain ⟨hP, hD⟩ := va_join (wr := [((ma 2), .inl (cI, 40, .inl fP)), ((ma 3), .inl (cI, 40, .inl fM)), ((ma 4), .inl (cI, 40, .inl fO)), ((ma 5), .inl (cI, 40, .inl fG)), ((ma 8), .inl (cB, 1200, .inl fN)), ((ma 12), .inl (cB, 320, .inl fBa)), ((ma 13), .inl (cI, 40, .inl fBs)), ((ma 14), .inl (cB, 120, .inl fEx)), ((ma 15), .inl (cI, 40, .inl fEs)), ((ma 1), .inl (cI, 40, .inl fK)), ((ma 9), .inl (cI, 40, .inl fNS)), ((ma 10), .inl (cB, 8000, .inl fT)), ((ma 11), .inl (cI, 40, .inl fTS))]) (w1 := [(h0, .inr (11, MO ma sv_thrown sv_length sv_nodes sv_many sv_directories sv_runsFrom sv_runs sv_read sv_wrong sv_isNamed sv_goes sv_goesSize sv_goesAt sv_targetParts sv_isRoot)), ((ma 16), .inl (cJ, 46080, .inr (.inl G_102)))]) hP hD [13, 14] [0, 1, 2, 3, 4, 5, 6, 7, 8, 9, 10, 11, 12] rfl rfl (by decide +kernel) (by decide +kernel) hk1 hFc hP1 hD1
      clear hPc hDc hFc hP1 hD1 hk1 hz1 hkc hks
      generalize H1 = H at hP hS ⊢
      have hP : va_P D CL [((ma 2), .inl (cI, 40, .inl fP)), ((ma 3), .inl (cI, 40, .inl fM)), ((ma 4), .inl (cI, 40, .inl fO)), ((ma 5), .inl (cI, 40, .inl fG)), ((ma 8), .inl (cB, 1200, .inl fN)), ((ma 12), .inl (cB, 320, .inl fBa)), ((ma 13), .inl (cI, 40, .inl fBs)), ((ma 14), .inl (cB, 120, .inl fEx)), ((ma 15), .inl (cI, 40, .inl fEs)), ((ma 1), .inl (cI, 40, .inl fK)), ((ma 9), .inl (cI, 40, .inl fNS)), ((ma 10), .inl (cB, 8000, .inl fT)), ((ma 11), .inl (cI, 40, .inl fTS)), (h0, .inr (11, MO ma sv_thrown sv_length sv_nodes sv_many sv_directories sv_runsFrom sv_runs sv_read sv_wrong sv_isNamed sv_goes sv_goesSize sv_goesAt sv_targetParts sv_isRoot)), ((ma 16), .inl (cJ, 46080, .inr (.inl G_102)))] H := hP
      have hD : va_D A [((ma 2), .inl (cI, 40, .inl fP)), ((ma 3), .inl (cI, 40, .inl fM)), ((ma 4), .inl (cI, 40, .inl fO)), ((ma 5), .inl (cI, 40, .inl fG)), ((ma 8), .inl (cB, 1200, .inl fN)), ((ma 12), .inl (cB, 320, .inl fBa)), ((ma 13), .inl (cI, 40, .inl fBs)), ((ma 14), .inl (cB, 120, .inl fEx)), ((ma 15), .inl (cI, 40, .inl fEs)), ((ma 1), .inl (cI, 40, .inl fK)), ((ma 9), .inl (cI, 40, .inl fNS)), ((ma 10), .inl (cB, 8000, .inl fT)), ((ma 11), .inl (cI, 40, .inl fTS)), (h0, .inr (11, MO ma sv_thrown sv_length sv_nodes sv_many sv_directories sv_runsFrom sv_runs sv_read sv_wrong sv_isNamed sv_goes sv_goesSize sv_goesAt sv_targetParts sv_isRoot)), ((ma 16), .inl (cJ, 46080, .inr (.inl G_102)))] := hD
      try dsimp only at hp_r101
      have hw_103 := hp_r101
      try rw [L_190] at hw_103
      refine lv_aload_n hx hb d_DiscMakerModel_lay_43 rfl (lv_at hl 1 rfl) ?_
      refine lv_iload hx hb d_DiscMakerModel_lay_44 (lv_at hl 5 rfl) ?_
      refine lv_iconst (v := 5) hx hb d_DiscMakerModel_lay_46 (by decide) ?_
      refine lv_iadd hx hb d_DiscMakerModel_lay_47 ?_
      refine lv_topi (fun v104 e_v104 => ?_)
      have t_v104 : v104.toInt = w.toInt + 5 := by rw [e_v104]; exact i_add rfl (by decide) (by omega) (by omega)
      refine lv_sipush (v := 239) hx hb d_DiscMakerModel_lay_48 (by decide) ?_
      have hPc := hP.sub (ws' := [(h0, .inr (11, MO ma sv_thrown sv_length sv_nodes sv_many sv_directories sv_runsFrom sv_runs sv_read sv_wrong sv_isNamed sv_goes sv_goesSize sv_goesAt sv_targetParts sv_isRoot)), ((ma 16), .inl (cJ, 46080, .inr (.inl G_102)))]) [13, 14] rfl
      have hDc := hD.sub (ws' := [(h0, .inr (11, MO ma sv_thrown sv_length sv_nodes sv_many sv_directories sv_runsFrom sv_runs sv_read sv_wrong sv_isNamed sv_goes sv_goesSize sv_goesAt sv_targetParts sv_isRoot)), ((ma 16), .inl (cJ, 46080, .inr (.inl G_102)))]) [13, 14] (by decide +kernel) rfl
      have hFc := va_free (wc := [(h0, .inr (11, MO ma sv_thrown sv_length sv_nodes sv_many sv_directories sv_runsFrom sv_runs sv_read sv_wrong sv_isNamed sv_goes sv_goesSize sv_goesAt sv_targetParts sv_isRoot)), ((ma 16), .inl (cJ, 46080, .inr (.inl G_102)))]) hD hS hA [13, 14] rfl
      have hkc : 0 ≤ 0 := by decide
      have hks : 0 ≤ 0 := by decide
      refine va_callv (va_runV (C := "DiscMakerModel") (As := [.int v104, .int 239]) (rest := []) ⟨hx, hb, hml, hown, hts⟩ (m_setF l D cB cI cJ cZ cN cF H.size h0 ma sv_thrown sv_length sv_nodes sv_many sv_directories sv_runsFrom sv_runs sv_read sv_wrong sv_isNamed sv_goes sv_goesSize sv_goesAt sv_targetParts sv_isRoot G_102 v104 239 (by (try dsimp only); first | assumption | omega | trivial) (by (try dsimp only); first | assumption | omega | trivial)) (cwV 2 hts (lg_goodV k1727 k1729 k79 k125 kc_DiscMakerModel_set) rfl rfl rfl (by decide +kernel) ⟨Nat.le_of_ble_eq_true rfl, Nat.le_of_ble_eq_true rfl⟩) ⟨fun a U g mk q => by obtain ⟨q0, q1, qP, qK, qN, qD⟩ := q; exact ⟨q0, q1, qP, va_K.moved (u := U) (U := U.calling g mk a) (Vm.Alike.refl U.vm) qK, qN.calling, qD⟩, va_recv hK hP (ci := 11) (q0 := 13) rfl rfl, fun U hU hW => ⟨rfl, by rw [hU], by rw [hU]; exact hPc, va_K.moved hW.alike hK, NN.warm hW hN, hDc.weaken (fun _ _ _ _ => trivial)⟩⟩ rfl rfl hl.1 rfl (lv_room (Nat.le_of_ble_eq_true rfl)) d_DiscMakerModel_lay_51 ⟨hkc, hks⟩) hS (fun q _ h => hFc q h) hFc (fun u t H1 locs ht hvm hp_r105 hB hz1 hk1 hS => ?_)
      obtain ⟨G_106, rfl⟩ : ∃ z, z = u := ⟨_, rfl⟩
      obtain ⟨hP1, hD1⟩ := hB
      rw [ht] at hP1
      obtain ⟨hP, hD⟩ := va_join (wr := [((ma 2), .inl (cI, 40, .inl fP)), ((ma 3), .inl (cI, 40, .inl fM)), ((ma 4), .inl (cI, 40, .inl fO)), ((ma 5), .inl (cI, 40, .inl fG)), ((ma 8), .inl (cB, 1200, .inl fN)), ((ma 12), .inl (cB, 320, .inl fBa)), ((ma 13), .inl (cI, 40, .inl fBs)), ((ma 14), .inl (cB, 120, .inl fEx)), ((ma 15), .inl (cI, 40, .inl fEs)), ((ma 1), .inl (cI, 40, .inl fK)), ((ma 9), .inl (cI, 40, .inl fNS)), ((ma 10), .inl (cB, 8000, .inl fT)), ((ma 11), .inl (cI, 40, .inl fTS))]) (w1 := [(h0, .inr (11, MO ma sv_thrown sv_length sv_nodes sv_many sv_directories sv_runsFrom sv_runs sv_read sv_wrong sv_isNamed sv_goes sv_goesSize sv_goesAt sv_targetParts sv_isRoot)), ((ma 16), .inl (cJ, 46080, .inr (.inl G_106)))]) hP hD [13, 14] [0, 1, 2, 3, 4, 5, 6, 7, 8, 9, 10, 11, 12] rfl rfl (by decide +kernel) (by decide +kernel) hk1 hFc hP1 hD1
      clear hPc hDc hFc hP1 hD1 hk1 hz1 hkc hks
      generalize H1 = H at hP hS ⊢
      have hP : va_P D CL [((ma 2), .inl (cI, 40, .inl fP)), ((ma 3), .inl (cI, 40, .inl fM)), ((ma 4), .inl (cI, 40, .inl fO)), ((ma 5), .inl (cI, 40, .inl fG)), ((ma 8), .inl (cB, 1200, .inl fN)), ((ma 12), .inl (cB, 320, .inl fBa)), ((ma 13), .inl (cI, 40, .inl fBs)), ((ma 14), .inl (cB, 120, .inl fEx)), ((ma 15), .inl (cI, 40, .inl fEs)), ((ma 1), .inl (cI, 40, .inl fK)), ((ma 9), .inl (cI, 40, .inl fNS)), ((ma 10), .inl (cB, 8000, .inl fT)), ((ma 11), .inl (cI, 40, .inl fTS)), (h0, .inr (11, MO ma sv_thrown sv_length sv_nodes sv_many sv_directories sv_runsFrom sv_runs sv_read sv_wrong sv_isNamed sv_goes sv_goesSize sv_goesAt sv_targetParts sv_isRoot)), ((ma 16), .inl (cJ, 46080, .inr (.inl G_106)))] H := hP
      have hD : va_D A [((ma 2), .inl (cI, 40, .inl fP)), ((ma 3), .inl (cI, 40, .inl fM)), ((ma 4), .inl (cI, 40, .inl fO)), ((ma 5), .inl (cI, 40, .inl fG)), ((ma 8), .inl (cB, 1200, .inl fN)), ((ma 12), .inl (cB, 320, .inl fBa)), ((ma 13), .inl (cI, 40, .inl fBs)), ((ma 14), .inl (cB, 120, .inl fEx)), ((ma 15), .inl (cI, 40, .inl fEs)), ((ma 1), .inl (cI, 40, .inl fK)), ((ma 9), .inl (cI, 40, .inl fNS)), ((ma 10), .inl (cB, 8000, .inl fT)), ((ma 11), .inl (cI, 40, .inl fTS)), (h0, .inr (11, MO ma sv_thrown sv_length sv_nodes sv_many sv_directories sv_runsFrom sv_runs sv_read sv_wrong sv_isNamed sv_goes sv_goesSize sv_goesAt sv_targetParts sv_isRoot)), ((ma 16), .inl (cJ, 46080, .inr (.inl G_106)))] := hD
      try dsimp only at hp_r105
      have hw_107 := hp_r105
      try rw [L_239] at hw_107
      refine lv_goto (tgt := 258) hx hb d_DiscMakerModel_lay_54 (by decide) ?_
      refine lv_iload hx hb d_DiscMakerModel_lay_258 (lv_at hl 0 rfl) ?_
      have hP9 := hP.sub (ws' := [(h0, .inr (11, MO ma sv_thrown sv_length sv_nodes sv_many sv_directories sv_runsFrom sv_runs sv_read sv_wrong sv_isNamed sv_goes sv_goesSize sv_goesAt sv_targetParts sv_isRoot)), ((ma 16), .inl (cJ, 46080, .inr (.inl G_106))), ((ma 1), .inl (cI, 40, .inl fK)), ((ma 2), .inl (cI, 40, .inl fP)), ((ma 3), .inl (cI, 40, .inl fM)), ((ma 4), .inl (cI, 40, .inl fO)), ((ma 5), .inl (cI, 40, .inl fG)), ((ma 8), .inl (cB, 1200, .inl fN)), ((ma 9), .inl (cI, 40, .inl fNS)), ((ma 10), .inl (cB, 8000, .inl fT)), ((ma 11), .inl (cI, 40, .inl fTS)), ((ma 12), .inl (cB, 320, .inl fBa)), ((ma 13), .inl (cI, 40, .inl fBs)), ((ma 14), .inl (cB, 120, .inl fEx)), ((ma 15), .inl (cI, 40, .inl fEs))]) [13, 14, 9, 0, 1, 2, 3, 4, 10, 11, 12, 5, 6, 7, 8] rfl
      have hD9 := hD.sub (ws' := [(h0, .inr (11, MO ma sv_thrown sv_length sv_nodes sv_many sv_directories sv_runsFrom sv_runs sv_read sv_wrong sv_isNamed sv_goes sv_goesSize sv_goesAt sv_targetParts sv_isRoot)), ((ma 16), .inl (cJ, 46080, .inr (.inl G_106))), ((ma 1), .inl (cI, 40, .inl fK)), ((ma 2), .inl (cI, 40, .inl fP)), ((ma 3), .inl (cI, 40, .inl fM)), ((ma 4), .inl (cI, 40, .inl fO)), ((ma 5), .inl (cI, 40, .inl fG)), ((ma 8), .inl (cB, 1200, .inl fN)), ((ma 9), .inl (cI, 40, .inl fNS)), ((ma 10), .inl (cB, 8000, .inl fT)), ((ma 11), .inl (cI, 40, .inl fTS)), ((ma 12), .inl (cB, 320, .inl fBa)), ((ma 13), .inl (cI, 40, .inl fBs)), ((ma 14), .inl (cB, 120, .inl fEx)), ((ma 15), .inl (cI, 40, .inl fEs))]) [13, 14, 9, 0, 1, 2, 3, 4, 10, 11, 12, 5, 6, 7, 8] (by decide +kernel) rfl
      have hpv := hv_2
      have hzc := i_cl (a := z) (by omega)
      have hnz := hNS z.toNatClampNeg (by omega)
      have htz := hTS z.toNatClampNeg (by omega)
      have hx9 : x.toInt = 0 := by omega
      rw [hx9] at hpv hfit
      unfold psF at hpv hfit
      rw [if_pos rfl] at hpv hfit
      have hc9 : y.toInt = 0 ∧ z.toNatClampNeg = 0 := by split at hpv <;> first | assumption | (exfalso; omega)
      rw [if_pos hc9] at hpv hfit
      exact W.iret (v := r1) hx hb hr (fun t ht hW => ⟨⟨r1, G_106, rfl, ⟨(by (try dsimp only); unfold psF; rw [hx9, if_pos rfl, if_pos hc9]; omega), (by (try dsimp only); first | assumption | omega | trivial), (by (try dsimp only); unfold ptL spL; rw [hx9, if_pos rfl, if_pos hc9]; exact ((((((Rn_0 (n := 0) hz9 rfl).bl (m := 4) (n2 := 4) hw_99 (by omega) rfl (by omega)).pt (n2 := 5) (v := 190) hw_103 (by omega) (by omega) (by omega)).pt (n2 := 6) (v := 239) hw_107 (by omega) (by omega) (by omega)).hole (n2 := 7) 1 (by omega) (by omega)).cast rfl (by omega)))⟩, by rw [ht]; exact hP9, hD9⟩, hS.F ht⟩) hS.2.2 d_DiscMakerModel_lay_260
  · skip
    have g11_8 : r1.toInt = 0 := (i_eq rfl (by decide)).mp h_9
    refine lv_iconst (v := 0) hx hb d_DiscMakerModel_lay_14 (by decide) ?_
    have hP9 := hP.sub (ws' := [(h0, .inr (11, MO ma sv_thrown sv_length sv_nodes sv_many sv_directories sv_runsFrom sv_runs sv_read sv_wrong sv_isNamed sv_goes sv_goesSize sv_goesAt sv_targetParts sv_isRoot)), ((ma 16), .inl (cJ, 46080, .inr (.inl F))), ((ma 1), .inl (cI, 40, .inl fK)), ((ma 2), .inl (cI, 40, .inl fP)), ((ma 3), .inl (cI, 40, .inl fM)), ((ma 4), .inl (cI, 40, .inl fO)), ((ma 5), .inl (cI, 40, .inl fG)), ((ma 8), .inl (cB, 1200, .inl fN)), ((ma 9), .inl (cI, 40, .inl fNS)), ((ma 10), .inl (cB, 8000, .inl fT)), ((ma 11), .inl (cI, 40, .inl fTS)), ((ma 12), .inl (cB, 320, .inl fBa)), ((ma 13), .inl (cI, 40, .inl fBs)), ((ma 14), .inl (cB, 120, .inl fEx)), ((ma 15), .inl (cI, 40, .inl fEs))]) [9, 10, 11, 0, 1, 2, 3, 4, 12, 13, 14, 5, 6, 7, 8] rfl
    have hD9 := hD.sub (ws' := [(h0, .inr (11, MO ma sv_thrown sv_length sv_nodes sv_many sv_directories sv_runsFrom sv_runs sv_read sv_wrong sv_isNamed sv_goes sv_goesSize sv_goesAt sv_targetParts sv_isRoot)), ((ma 16), .inl (cJ, 46080, .inr (.inl F))), ((ma 1), .inl (cI, 40, .inl fK)), ((ma 2), .inl (cI, 40, .inl fP)), ((ma 3), .inl (cI, 40, .inl fM)), ((ma 4), .inl (cI, 40, .inl fO)), ((ma 5), .inl (cI, 40, .inl fG)), ((ma 8), .inl (cB, 1200, .inl fN)), ((ma 9), .inl (cI, 40, .inl fNS)), ((ma 10), .inl (cB, 8000, .inl fT)), ((ma 11), .inl (cI, 40, .inl fTS)), ((ma 12), .inl (cB, 320, .inl fBa)), ((ma 13), .inl (cI, 40, .inl fBs)), ((ma 14), .inl (cB, 120, .inl fEx)), ((ma 15), .inl (cI, 40, .inl fEs))]) [9, 10, 11, 0, 1, 2, 3, 4, 12, 13, 14, 5, 6, 7, 8] (by decide +kernel) rfl
    have hpv := hv_2
    have hzc := i_cl (a := z) (by omega)
    have hnz := hNS z.toNatClampNeg (by omega)
    have htz := hTS z.toNatClampNeg (by omega)
    have hE : ptL dt dx nf x.toInt y.toInt z.toNatClampNeg = [] := pt_nil (by rw [← hpv]; omega) hl0.1 (by omega)
    exact W.iret (v := 0) hx hb hr (fun t ht hW => ⟨⟨0, F, rfl, ⟨(by (try dsimp only); rw [← hpv]; omega), (by (try dsimp only); first | assumption | omega | trivial), (by (try dsimp only); rw [hE]; exact Rn_0 hz9 (by decide))⟩, by rw [ht]; exact hP9, hD9⟩, hS.F ht⟩) hS.2.2 d_DiscMakerModel_lay_15
