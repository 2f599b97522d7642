theorem d_DiscMakerModel_partSize_0 : decode b_DiscMakerModel_partSize 0 = .ok (.iload_n 1, 1) := by decide +kernel
theorem d_DiscMakerModel_partSize_1 : decode b_DiscMakerModel_partSize 1 = .ok (.ifCond .ne 18, 3) := by decide +kernel
theorem d_DiscMakerModel_partSize_4 : decode b_DiscMakerModel_partSize 4 = .ok (.iload_n 2, 1) := by decide +kernel
theorem d_DiscMakerModel_partSize_5 : decode b_DiscMakerModel_partSize 5 = .ok (.ifCond .ne 12, 3) := by decide +kernel
theorem d_DiscMakerModel_partSize_8 : decode b_DiscMakerModel_partSize 8 = .ok (.iload_n 3, 1) := by decide +kernel
theorem d_DiscMakerModel_partSize_9 : decode b_DiscMakerModel_partSize 9 = .ok (.ifCond .ne 8, 3) := by decide +kernel
theorem d_DiscMakerModel_partSize_12 : decode b_DiscMakerModel_partSize 12 = .ok (.bipush 7, 2) := by decide +kernel
theorem d_DiscMakerModel_partSize_14 : decode b_DiscMakerModel_partSize 14 = .ok (.goto 4, 3) := by decide +kernel
theorem d_DiscMakerModel_partSize_17 : decode b_DiscMakerModel_partSize 17 = .ok (.iconst 0, 1) := by decide +kernel
theorem d_DiscMakerModel_partSize_18 : decode b_DiscMakerModel_partSize 18 = .ok (.ireturn, 1) := by decide +kernel
theorem d_DiscMakerModel_partSize_19 : decode b_DiscMakerModel_partSize 19 = .ok (.iload_n 1, 1) := by decide +kernel
theorem d_DiscMakerModel_partSize_20 : decode b_DiscMakerModel_partSize 20 = .ok (.iconst 1, 1) := by decide +kernel
theorem d_DiscMakerModel_partSize_21 : decode b_DiscMakerModel_partSize 21 = .ok (.if_icmp .ne 6, 3) := by decide +kernel
theorem d_DiscMakerModel_partSize_24 : decode b_DiscMakerModel_partSize 24 = .ok (.bipush 36, 2) := by decide +kernel
theorem d_DiscMakerModel_partSize_26 : decode b_DiscMakerModel_partSize 26 = .ok (.ireturn, 1) := by decide +kernel
theorem d_DiscMakerModel_partSize_27 : decode b_DiscMakerModel_partSize 27 = .ok (.iload_n 2, 1) := by decide +kernel
theorem d_DiscMakerModel_partSize_28 : decode b_DiscMakerModel_partSize 28 = .ok (.iconst 2, 1) := by decide +kernel
theorem d_DiscMakerModel_partSize_29 : decode b_DiscMakerModel_partSize 29 = .ok (.if_icmp .ge 5, 3) := by decide +kernel
theorem d_DiscMakerModel_partSize_32 : decode b_DiscMakerModel_partSize 32 = .ok (.iconst 0, 1) := by decide +kernel
theorem d_DiscMakerModel_partSize_33 : decode b_DiscMakerModel_partSize 33 = .ok (.ireturn, 1) := by decide +kernel
theorem d_DiscMakerModel_partSize_34 : decode b_DiscMakerModel_partSize 34 = .ok (.iload_n 1, 1) := by decide +kernel
theorem d_DiscMakerModel_partSize_35 : decode b_DiscMakerModel_partSize 35 = .ok (.iconst 2, 1) := by decide +kernel
theorem d_DiscMakerModel_partSize_36 : decode b_DiscMakerModel_partSize 36 = .ok (.if_icmp .ne 14, 3) := by decide +kernel
theorem d_DiscMakerModel_partSize_39 : decode b_DiscMakerModel_partSize 39 = .ok (.iconst 5, 1) := by decide +kernel
theorem d_DiscMakerModel_partSize_40 : decode b_DiscMakerModel_partSize 40 = .ok (.aload_n 0, 1) := by decide +kernel
theorem d_DiscMakerModel_partSize_41 : decode b_DiscMakerModel_partSize 41 = .ok (.getfield 38, 3) := by decide +kernel
theorem d_DiscMakerModel_partSize_44 : decode b_DiscMakerModel_partSize 44 = .ok (.iload_n 3, 1) := by decide +kernel
theorem d_DiscMakerModel_partSize_45 : decode b_DiscMakerModel_partSize 45 = .ok (.iaload, 1) := by decide +kernel
theorem d_DiscMakerModel_partSize_46 : decode b_DiscMakerModel_partSize 46 = .ok (.iadd, 1) := by decide +kernel
theorem d_DiscMakerModel_partSize_47 : decode b_DiscMakerModel_partSize 47 = .ok (.goto 25, 3) := by decide +kernel
theorem d_DiscMakerModel_partSize_50 : decode b_DiscMakerModel_partSize 50 = .ok (.aload_n 0, 1) := by decide +kernel
theorem d_DiscMakerModel_partSize_51 : decode b_DiscMakerModel_partSize 51 = .ok (.getfield 13, 3) := by decide +kernel
theorem d_DiscMakerModel_partSize_54 : decode b_DiscMakerModel_partSize 54 = .ok (.iload_n 3, 1) := by decide +kernel
theorem d_DiscMakerModel_partSize_55 : decode b_DiscMakerModel_partSize 55 = .ok (.iaload, 1) := by decide +kernel
theorem d_DiscMakerModel_partSize_56 : decode b_DiscMakerModel_partSize 56 = .ok (.iconst 2, 1) := by decide +kernel
theorem d_DiscMakerModel_partSize_57 : decode b_DiscMakerModel_partSize 57 = .ok (.if_icmp .ne 14, 3) := by decide +kernel
theorem d_DiscMakerModel_partSize_60 : decode b_DiscMakerModel_partSize 60 = .ok (.iconst 5, 1) := by decide +kernel
theorem d_DiscMakerModel_partSize_61 : decode b_DiscMakerModel_partSize 61 = .ok (.aload_n 0, 1) := by decide +kernel
theorem d_DiscMakerModel_partSize_62 : decode b_DiscMakerModel_partSize 62 = .ok (.iload_n 3, 1) := by decide +kernel
theorem d_DiscMakerModel_partSize_63 : decode b_DiscMakerModel_partSize 63 = .ok (.iconst (-1), 1) := by decide +kernel
theorem d_DiscMakerModel_partSize_64 : decode b_DiscMakerModel_partSize 64 = .ok (.invokevirtual 203, 3) := by decide +kernel
theorem d_DiscMakerModel_partSize_67 : decode b_DiscMakerModel_partSize 67 = .ok (.iadd, 1) := by decide +kernel
theorem d_DiscMakerModel_partSize_68 : decode b_DiscMakerModel_partSize 68 = .ok (.goto 4, 3) := by decide +kernel
theorem d_DiscMakerModel_partSize_71 : decode b_DiscMakerModel_partSize 71 = .ok (.iconst 0, 1) := by decide +kernel
theorem d_DiscMakerModel_partSize_72 : decode b_DiscMakerModel_partSize 72 = .ok (.ireturn, 1) := by decide +kernel
set_option maxHeartbeats 4000000 in
set_option maxRecDepth 100000 in
theorem m_partSize (l : Launch) (D : va_G) (cB cI cJ cZ cN cF : ClassId) (sz : Nat) (h0 : Nat) (ma : Nat → Nat) (sv_thrown sv_length sv_nodes sv_many sv_directories sv_runsFrom sv_runs sv_read sv_wrong sv_isNamed sv_goes sv_goesSize sv_goesAt sv_targetParts sv_isRoot : Int32) (F : Nat → Int64) (fK : Nat → Int32) (fNS : Nat → Int32) (fT : Nat → Int32) (fTS : Nat → Int32) (x : Int32) (y : Int32) (z : Int32) (hz0 : 0 ≤ z.toInt ∧ z.toInt < 40) (hx0 : 0 ≤ x.toInt ∧ x.toInt ≤ 3) (hKi : Rg 0 2 40 fK) (hNS : Rg 0 30 40 fNS) (hTS : Rg 0 200 40 fTS) : Met l y_DiscMakerModel_partSize w_DiscMakerModel_partSize ({ frames := 3, cells := 0, slots := 0, locals := 76 }) (va_Pc [.ref h0, .int x, .int y, .int z] (fun U => U.heap.size = sz ∧ va_P D CL [(h0, .inr (11, MO ma sv_thrown sv_length sv_nodes sv_many sv_directories sv_runsFrom sv_runs sv_read sv_wrong sv_isNamed sv_goes sv_goesSize sv_goesAt sv_targetParts sv_isRoot)), ((ma 16), .inl (cJ, 46080, .inr (.inl F))), ((ma 1), .inl (cI, 40, .inl fK)), ((ma 9), .inl (cI, 40, .inl fNS)), ((ma 10), .inl (cB, 8000, .inl fT)), ((ma 11), .inl (cI, 40, .inl fTS))] U.heap ∧ va_K D CL (TY cB cI cJ cZ cN cF) U ∧ NN U ∧ va_D (fun _ => True) [(h0, .inr (11, MO ma sv_thrown sv_length sv_nodes sv_many sv_directories sv_runsFrom sv_runs sv_read sv_wrong sv_isNamed sv_goes sv_goesSize sv_goesAt sv_targetParts sv_isRoot)), ((ma 16), .inl (cJ, 46080, .inr (.inl F))), ((ma 1), .inl (cI, 40, .inl fK)), ((ma 9), .inl (cI, 40, .inl fNS)), ((ma 10), .inl (cB, 8000, .inl fT)), ((ma 11), .inl (cI, 40, .inl fTS))])) (va_Qi (fun (r : Int32) (u : (Nat → Int64)) => match u with | G => (r.toInt = psF fK fNS fT fTS x.toInt y.toInt z.toNatClampNeg) ∧ (0 ≤ r.toInt ∧ r.toInt ≤ 308)) (fun (u : (Nat → Int64)) (t : State) => match u with | G => va_P D CL [(h0, .inr (11, MO ma sv_thrown sv_length sv_nodes sv_many sv_directories sv_runsFrom sv_runs sv_read sv_wrong sv_isNamed sv_goes sv_goesSize sv_goesAt sv_targetParts sv_isRoot)), ((ma 16), .inl (cJ, 46080, .inr (.inl G))), ((ma 1), .inl (cI, 40, .inl fK)), ((ma 9), .inl (cI, 40, .inl fNS)), ((ma 10), .inl (cB, 8000, .inl fT)), ((ma 11), .inl (cI, 40, .inl fTS))] t.heap ∧ va_D (va_A [(h0, .inr (11, MO ma sv_thrown sv_length sv_nodes sv_many sv_directories sv_runsFrom sv_runs sv_read sv_wrong sv_isNamed sv_goes sv_goesSize sv_goesAt sv_targetParts sv_isRoot)), ((ma 16), .inl (cJ, 46080, .inr (.inl F))), ((ma 1), .inl (cI, 40, .inl fK)), ((ma 9), .inl (cI, 40, .inl fNS)), ((ma 10), .inl (cB, 8000, .inl fT)), ((ma 11), .inl (cI, 40, .inl fTS))] sz) [(h0, .inr (11, MO ma sv_thrown sv_length sv_nodes sv_many sv_directories sv_runsFrom sv_runs sv_read sv_wrong sv_isNamed sv_goes sv_goesSize sv_goesAt sv_targetParts sv_isRoot)), ((ma 16), .inl (cJ, 46080, .inr (.inl G))), ((ma 1), .inl (cI, 40, .inl fK)), ((ma 9), .inl (cI, 40, .inl fNS)), ((ma 10), .inl (cB, 8000, .inl fT)), ((ma 11), .inl (cI, 40, .inl fTS))]) (va_A [(h0, .inr (11, MO ma sv_thrown sv_length sv_nodes sv_many sv_directories sv_runsFrom sv_runs sv_read sv_wrong sv_isNamed sv_goes sv_goesSize sv_goesAt sv_targetParts sv_isRoot)), ((ma 16), .inl (cJ, 46080, .inr (.inl F))), ((ma 1), .inl (cI, 40, .inl fK)), ((ma 9), .inl (cI, 40, .inl fNS)), ((ma 10), .inl (cB, 8000, .inl fT)), ((ma 11), .inl (cI, 40, .inl fTS))] sz)) 0 0 (va_A [(h0, .inr (11, MO ma sv_thrown sv_length sv_nodes sv_many sv_directories sv_runsFrom sv_runs sv_read sv_wrong sv_isNamed sv_goes sv_goesSize sv_goesAt sv_targetParts sv_isRoot)), ((ma 16), .inl (cJ, 46080, .inr (.inl F))), ((ma 1), .inl (cI, 40, .inl fK)), ((ma 9), .inl (cI, 40, .inl fNS)), ((ma 10), .inl (cB, 8000, .inl fT)), ((ma 11), .inl (cI, 40, .inl fTS))] sz) := by
  refine Met.ofW (cc := b_DiscMakerModel_partSize) (maxL := 4) (ret := some .int) (by decide) rfl ?_
  intro p e s m args below meth c s₁ B hml hv
  obtain ⟨rfl, hsz, hP, hK, hN, hD0⟩ := hv
  have hx := B.exec
  have hb := B.bytes
  have hr := B.returns
  have hts := atoms_spec (ws := w_DiscMakerModel_partSize) B.pre
  have ht9 := fun (w : Cond) (h : w ∈ lw_g) => hts w (List.mem_cons_of_mem _ h)
  have hown : s.vm.findClass "DiscMakerModel" = some m.cls := findClass_of_methodNamed B.named
  have hlocks := B.notSynchronized
  subst hsz
  have hD := hD0.self (sz := s.heap.size)
  generalize hAe : va_A [(h0, .inr (11, MO ma sv_thrown sv_length sv_nodes sv_many sv_directories sv_runsFrom sv_runs sv_read sv_wrong sv_isNamed sv_goes sv_goesSize sv_goesAt sv_targetParts sv_isRoot)), ((ma 16), .inl (cJ, 46080, .inr (.inl F))), ((ma 1), .inl (cI, 40, .inl fK)), ((ma 9), .inl (cI, 40, .inl fNS)), ((ma 10), .inl (cB, 8000, .inl fT)), ((ma 11), .inl (cI, 40, .inl fTS))] s.heap.size = A at hD ⊢
  have hA : ∀ q : Nat, s.heap.size ≤ q → A q := fun q h => by rw [← hAe]; exact Or.inr h
  have hS : va_S A s.heap s.heap [] := va_S.rf
  have hP : va_P D CL [(h0, .inr (11, MO ma sv_thrown sv_length sv_nodes sv_many sv_directories sv_runsFrom sv_runs sv_read sv_wrong sv_isNamed sv_goes sv_goesSize sv_goesAt sv_targetParts sv_isRoot)), ((ma 16), .inl (cJ, 46080, .inr (.inl F))), ((ma 1), .inl (cI, 40, .inl fK)), ((ma 9), .inl (cI, 40, .inl fNS)), ((ma 10), .inl (cB, 8000, .inl fT)), ((ma 11), .inl (cI, 40, .inl fTS))] s.heap := hP
  have hl := lv_entry [.ref h0, .int x, .int y, .int z] (n := 4) (Nat.le_of_ble_eq_true rfl)
  rw [lg_entry_eq]
  generalize (lg_sl [.ref h0, .int x, .int y, .int z] ++ List.replicate (4 - (lg_sl [.ref h0, .int x, .int y, .int z]).length) Slot.unset).toArray = ls at hl ⊢
  have hl : lv_has ls 4 [(0, .ref h0), (1, .int x), (2, .int y), (3, .int z)] := hl
  have L_m1 : ((-1) : Int32).toInt = (-1) := by decide
  have L_0 : (0 : Int32).toInt = 0 := by decide
  have L_1 : (1 : Int32).toInt = 1 := by decide
  have L_2 : (2 : Int32).toInt = 2 := by decide
  have L_5 : (5 : Int32).toInt = 5 := by decide
  have L_7 : (7 : Int32).toInt = 7 := by decide
  have L_36 : (36 : Int32).toInt = 36 := by decide
  have hzc := i_cl (a := z) (by omega)
  have hzn := hNS z.toNatClampNeg (by omega)
  have hzt := hTS z.toNatClampNeg (by omega)
  refine lv_iload_n hx hb d_DiscMakerModel_partSize_0 rfl (lv_at hl 1 rfl) ?_
  refine lv_if_ne (tgt := 19) hx hb d_DiscMakerModel_partSize_1 (by decide) (fun h_9 => ?_) (fun h_9 => ?_)
  · skip
    have g1_2 : ¬ x.toInt = 0 := fun h8 => h_9 ((i_eq rfl (by decide)).mpr h8)
    refine lv_iload_n hx hb d_DiscMakerModel_partSize_19 rfl (lv_at hl 1 rfl) ?_
    refine lv_iconst (v := 1) hx hb d_DiscMakerModel_partSize_20 (by decide) ?_
    refine lv_icmp_ne (tgt := 27) hx hb d_DiscMakerModel_partSize_21 (by decide) (fun h_9 => ?_) (fun h_9 => ?_)
    · skip
      have g21_5 : ¬ x.toInt = 1 := fun h8 => h_9 ((i_eq rfl (by decide)).mpr h8)
      refine lv_iload_n hx hb d_DiscMakerModel_partSize_27 rfl (lv_at hl 2 rfl) ?_
      refine lv_iconst (v := 2) hx hb d_DiscMakerModel_partSize_28 (by decide) ?_
      refine lv_icmp_ge (tgt := 34) hx hb d_DiscMakerModel_partSize_29 (by decide) (fun h_9 => ?_) (fun h_9 => ?_)
      · skip
        have g29_8 : 2 ≤ y.toInt := (i_le (by decide) rfl).mp h_9
        refine lv_iload_n hx hb d_DiscMakerModel_partSize_34 rfl (lv_at hl 1 rfl) ?_
        refine lv_iconst (v := 2) hx hb d_DiscMakerModel_partSize_35 (by decide) ?_
        refine lv_icmp_ne (tgt := 50) hx hb d_DiscMakerModel_partSize_36 (by decide) (fun h_9 => ?_) (fun h_9 => ?_)
        · skip
          have g36_11 : ¬ x.toInt = 2 := fun h8 => h_9 ((i_eq rfl (by decide)).mpr h8)
          refine lv_aload_n hx hb d_DiscMakerModel_partSize_50 rfl (lv_at hl 0 rfl) ?_
          refine va_get (D := D) (ci := 11) (v := .ref (ma 1)) (C := "DiscMakerModel") (T := F_DiscMakerModel) (N := 48) hx hb ht9 in_DiscMakerModel hown hK hP 0 rfl rfl 4 (by decide) (ht9 _ k1435) (fun _ h9 => h9) rfl d_DiscMakerModel_partSize_51 ?_
          refine lv_iload_n hx hb d_DiscMakerModel_partSize_54 rfl (lv_at hl 3 rfl) ?_
          refine va_iald hx hb hK hP 2 1 rfl rfl (vp_in_iff.mpr ⟨by omega, by omega⟩) d_DiscMakerModel_partSize_55 ?_
          refine lv_topi (fun v1 e_v1 => ?_)
          have t_v1 : 0 ≤ v1.toInt ∧ v1.toInt ≤ 2 := by
            rw [e_v1]; exact hKi _ (by have := i_cl (a := z) (by omega); omega)
          refine lv_iconst (v := 2) hx hb d_DiscMakerModel_partSize_56 (by decide) ?_
          refine lv_icmp_ne (tgt := 71) hx hb d_DiscMakerModel_partSize_57 (by decide) (fun h_9 => ?_) (fun h_9 => ?_)
          · skip
            have g57_17 : ¬ v1.toInt = 2 := fun h8 => h_9 ((i_eq rfl (by decide)).mpr h8)
            refine lv_iconst (v := 0) hx hb d_DiscMakerModel_partSize_71 (by decide) ?_
            have hP9 := hP.sub (ws' := [(h0, .inr (11, MO ma sv_thrown sv_length sv_nodes sv_many sv_directories sv_runsFrom sv_runs sv_read sv_wrong sv_isNamed sv_goes sv_goesSize sv_goesAt sv_targetParts sv_isRoot)), ((ma 16), .inl (cJ, 46080, .inr (.inl F))), ((ma 1), .inl (cI, 40, .inl fK)), ((ma 9), .inl (cI, 40, .inl fNS)), ((ma 10), .inl (cB, 8000, .inl fT)), ((ma 11), .inl (cI, 40, .inl fTS))]) [0, 1, 2, 3, 4, 5] rfl
            have hD9 := hD.sub (ws' := [(h0, .inr (11, MO ma sv_thrown sv_length sv_nodes sv_many sv_directories sv_runsFrom sv_runs sv_read sv_wrong sv_isNamed sv_goes sv_goesSize sv_goesAt sv_targetParts sv_isRoot)), ((ma 16), .inl (cJ, 46080, .inr (.inl F))), ((ma 1), .inl (cI, 40, .inl fK)), ((ma 9), .inl (cI, 40, .inl fNS)), ((ma 10), .inl (cB, 8000, .inl fT)), ((ma 11), .inl (cI, 40, .inl fTS))]) [0, 1, 2, 3, 4, 5] (by decide) rfl
            have hq9 : True := trivial
            have qq_v1 : v1.toInt = (fK z.toNatClampNeg).toInt := by rw [e_v1]
            exact W.iret (v := 0) hx hb hr (fun t ht hW => ⟨⟨0, F, rfl, ⟨(by (try dsimp only); unfold psF; split <;> (try split) <;> (try split) <;> (try split) <;> (try split) <;> omega), (by (try dsimp only); first | assumption | omega | trivial)⟩, by rw [ht]; exact hP9, hD9⟩, hS.F ht⟩) hS.2.2 d_DiscMakerModel_partSize_72
          · skip
            have g57_17 : v1.toInt = 2 := (i_eq rfl (by decide)).mp h_9
            refine lv_iconst (v := 5) hx hb d_DiscMakerModel_partSize_60 (by decide) ?_
            refine lv_aload_n hx hb d_DiscMakerModel_partSize_61 rfl (lv_at hl 0 rfl) ?_
            refine lv_iload_n hx hb d_DiscMakerModel_partSize_62 rfl (lv_at hl 3 rfl) ?_
            refine lv_iconst (v := (-1)) hx hb d_DiscMakerModel_partSize_63 (by decide) ?_
            have hPc := hP.sub (ws' := [(h0, .inr (11, MO ma sv_thrown sv_length sv_nodes sv_many sv_directories sv_runsFrom sv_runs sv_read sv_wrong sv_isNamed sv_goes sv_goesSize sv_goesAt sv_targetParts sv_isRoot)), ((ma 16), .inl (cJ, 46080, .inr (.inl F))), ((ma 10), .inl (cB, 8000, .inl fT)), ((ma 11), .inl (cI, 40, .inl fTS))]) [0, 1, 4, 5] rfl
            have hDc := hD.sub (ws' := [(h0, .inr (11, MO ma sv_thrown sv_length sv_nodes sv_many sv_directories sv_runsFrom sv_runs sv_read sv_wrong sv_isNamed sv_goes sv_goesSize sv_goesAt sv_targetParts sv_isRoot)), ((ma 16), .inl (cJ, 46080, .inr (.inl F))), ((ma 10), .inl (cB, 8000, .inl fT)), ((ma 11), .inl (cI, 40, .inl fTS))]) [0, 1, 4, 5] (by decide) rfl
            have hFc := va_free (wc := [(h0, .inr (11, MO ma sv_thrown sv_length sv_nodes sv_many sv_directories sv_runsFrom sv_runs sv_read sv_wrong sv_isNamed sv_goes sv_goesSize sv_goesAt sv_targetParts sv_isRoot)), ((ma 16), .inl (cJ, 46080, .inr (.inl F))), ((ma 10), .inl (cB, 8000, .inl fT)), ((ma 11), .inl (cI, 40, .inl fTS))]) hD hS hA [0, 1, 4, 5] rfl
            have hkc : 0 ≤ 0 := by decide
            have hks : 0 ≤ 0 := by decide
            refine va_calli (va_runV (C := "DiscMakerModel") (As := [.int z, .int (-1)]) (rest := [.int 5]) ⟨hx, hb, hml, hown, hts⟩ (m_components l D cB cI cJ cZ cN cF s.heap.size h0 ma sv_thrown sv_length sv_nodes sv_many sv_directories sv_runsFrom sv_runs sv_read sv_wrong sv_isNamed sv_goes sv_goesSize sv_goesAt sv_targetParts sv_isRoot F fT fTS z (-1) (by (try dsimp only); first | assumption | omega | trivial) (by (try dsimp only); first | assumption | omega | trivial) (by (try dsimp only); first | assumption | omega | trivial)) (cwV 2 hts (lg_goodV k1719 k1721 k77 k125 kc_DiscMakerModel_components) rfl rfl rfl (by decide +kernel) ⟨Nat.le_of_ble_eq_true rfl, Nat.le_of_ble_eq_true rfl⟩) ⟨fun a U g mk q => by obtain ⟨q0, q1, qP, qK, qN, qD⟩ := q; exact ⟨q0, q1, qP, va_K.moved (u := U) (U := U.calling g mk a) (Vm.Alike.refl U.vm) qK, qN.calling, qD⟩, va_recv hK hP (ci := 11) (q0 := 0) rfl rfl, fun U hU hW => ⟨rfl, by rw [hU], by rw [hU]; exact hPc, va_K.moved hW.alike hK, NN.warm hW hN, hDc.weaken (fun _ _ _ _ => trivial)⟩⟩ rfl rfl hl.1 rfl (lv_room (Nat.le_of_ble_eq_true rfl)) d_DiscMakerModel_partSize_64 ⟨hkc, hks⟩) hS (fun q _ h => hFc q h) hFc (fun r2 u t H1 locs ht hvm hp_r2 hB hz1 hk1 hS => ?_)
            obtain ⟨G_3, rfl⟩ : ∃ z, z = u := ⟨_, rfl⟩
            obtain ⟨hP1, hD1⟩ := hB
            rw [ht] at hP1
            obtain ⟨hP, hD⟩ := va_join (wr := [((ma 1), .inl (cI, 40, .inl fK)), ((ma 9), .inl (cI, 40, .inl fNS))]) (w1 := [(h0, .inr (11, MO ma sv_thrown sv_length sv_nodes sv_many sv_directories sv_runsFrom sv_runs sv_read sv_wrong sv_isNamed sv_goes sv_goesSize sv_goesAt sv_targetParts sv_isRoot)), ((ma 16), .inl (cJ, 46080, .inr (.inl G_3))), ((ma 10), .inl (cB, 8000, .inl fT)), ((ma 11), .inl (cI, 40, .inl fTS))]) hP hD [0, 1, 4, 5] [2, 3] rfl rfl (by decide) (by decide) hk1 hFc hP1 hD1
            clear hPc hDc hFc hP1 hD1 hk1 hz1
            generalize H1 = H at hP hS ⊢
            have hP : va_P D CL [((ma 1), .inl (cI, 40, .inl fK)), ((ma 9), .inl (cI, 40, .inl fNS)), (h0, .inr (11, MO ma sv_thrown sv_length sv_nodes sv_many sv_directories sv_runsFrom sv_runs sv_read sv_wrong sv_isNamed sv_goes sv_goesSize sv_goesAt sv_targetParts sv_isRoot)), ((ma 16), .inl (cJ, 46080, .inr (.inl G_3))), ((ma 10), .inl (cB, 8000, .inl fT)), ((ma 11), .inl (cI, 40, .inl fTS))] H := hP
            have hD : va_D A [((ma 1), .inl (cI, 40, .inl fK)), ((ma 9), .inl (cI, 40, .inl fNS)), (h0, .inr (11, MO ma sv_thrown sv_length sv_nodes sv_many sv_directories sv_runsFrom sv_runs sv_read sv_wrong sv_isNamed sv_goes sv_goesSize sv_goesAt sv_targetParts sv_isRoot)), ((ma 16), .inl (cJ, 46080, .inr (.inl G_3))), ((ma 10), .inl (cB, 8000, .inl fT)), ((ma 11), .inl (cI, 40, .inl fTS))] := hD
            try dsimp only at hp_r2
            obtain ⟨hv_4, hr_5⟩ := hp_r2
            refine lv_iadd hx hb d_DiscMakerModel_partSize_67 ?_
            refine lv_topi (fun v6 e_v6 => ?_)
            have t_v6 : v6.toInt = 5 + r2.toInt := by rw [e_v6]; exact i_add (by decide) rfl (by omega) (by omega)
            refine lv_goto (tgt := 72) hx hb d_DiscMakerModel_partSize_68 (by decide) ?_
            have hP9 := hP.sub (ws' := [(h0, .inr (11, MO ma sv_thrown sv_length sv_nodes sv_many sv_directories sv_runsFrom sv_runs sv_read sv_wrong sv_isNamed sv_goes sv_goesSize sv_goesAt sv_targetParts sv_isRoot)), ((ma 16), .inl (cJ, 46080, .inr (.inl G_3))), ((ma 1), .inl (cI, 40, .inl fK)), ((ma 9), .inl (cI, 40, .inl fNS)), ((ma 10), .inl (cB, 8000, .inl fT)), ((ma 11), .inl (cI, 40, .inl fTS))]) [2, 3, 0, 1, 4, 5] rfl
            have hD9 := hD.sub (ws' := [(h0, .inr (11, MO ma sv_thrown sv_length sv_nodes sv_many sv_directories sv_runsFrom sv_runs sv_read sv_wrong sv_isNamed sv_goes sv_goesSize sv_goesAt sv_targetParts sv_isRoot)), ((ma 16), .inl (cJ, 46080, .inr (.inl G_3))), ((ma 1), .inl (cI, 40, .inl fK)), ((ma 9), .inl (cI, 40, .inl fNS)), ((ma 10), .inl (cB, 8000, .inl fT)), ((ma 11), .inl (cI, 40, .inl fTS))]) [2, 3, 0, 1, 4, 5] (by decide) rfl
            have hq9 : True := trivial
            have qq_v1 : v1.toInt = (fK z.toNatClampNeg).toInt := by rw [e_v1]
            exact W.iret (v := v6) hx hb hr (fun t ht hW => ⟨⟨v6, G_3, rfl, ⟨(by (try dsimp only); unfold psF; split <;> (try split) <;> (try split) <;> (try split) <;> (try split) <;> omega), (by (try dsimp only); first | assumption | omega | trivial)⟩, by rw [ht]; exact hP9, hD9⟩, hS.F ht⟩) hS.2.2 d_DiscMakerModel_partSize_72
        · skip
          have g36_11 : x.toInt = 2 := (i_eq rfl (by decide)).mp h_9
          refine lv_iconst (v := 5) hx hb d_DiscMakerModel_partSize_39 (by decide) ?_
          refine lv_aload_n hx hb d_DiscMakerModel_partSize_40 rfl (lv_at hl 0 rfl) ?_
          refine va_get (D := D) (ci := 11) (v := .ref (ma 9)) (C := "DiscMakerModel") (T := F_DiscMakerModel) (N := 48) hx hb ht9 in_DiscMakerModel hown hK hP 0 rfl rfl 12 (by decide) (ht9 _ k1443) (fun _ h9 => h9) rfl d_DiscMakerModel_partSize_41 ?_
          refine lv_iload_n hx hb d_DiscMakerModel_partSize_44 rfl (lv_at hl 3 rfl) ?_
          refine va_iald hx hb hK hP 3 1 rfl rfl (vp_in_iff.mpr ⟨by omega, by omega⟩) d_DiscMakerModel_partSize_45 ?_
          refine lv_topi (fun v7 e_v7 => ?_)
          have t_v7 : 0 ≤ v7.toInt ∧ v7.toInt ≤ 30 := by
            rw [e_v7]; exact hNS _ (by have := i_cl (a := z) (by omega); omega)
          refine lv_iadd hx hb d_DiscMakerModel_partSize_46 ?_
          refine lv_topi (fun v8 e_v8 => ?_)
          have t_v8 : v8.toInt = 5 + v7.toInt := by rw [e_v8]; exact i_add (by decide) rfl (by omega) (by omega)
          refine lv_goto (tgt := 72) hx hb d_DiscMakerModel_partSize_47 (by decide) ?_
          have hP9 := hP.sub (ws' := [(h0, .inr (11, MO ma sv_thrown sv_length sv_nodes sv_many sv_directories sv_runsFrom sv_runs sv_read sv_wrong sv_isNamed sv_goes sv_goesSize sv_goesAt sv_targetParts sv_isRoot)), ((ma 16), .inl (cJ, 46080, .inr (.inl F))), ((ma 1), .inl (cI, 40, .inl fK)), ((ma 9), .inl (cI, 40, .inl fNS)), ((ma 10), .inl (cB, 8000, .inl fT)), ((ma 11), .inl (cI, 40, .inl fTS))]) [0, 1, 2, 3, 4, 5] rfl
          have hD9 := hD.sub (ws' := [(h0, .inr (11, MO ma sv_thrown sv_length sv_nodes sv_many sv_directories sv_runsFrom sv_runs sv_read sv_wrong sv_isNamed sv_goes sv_goesSize sv_goesAt sv_targetParts sv_isRoot)), ((ma 16), .inl (cJ, 46080, .inr (.inl F))), ((ma 1), .inl (cI, 40, .inl fK)), ((ma 9), .inl (cI, 40, .inl fNS)), ((ma 10), .inl (cB, 8000, .inl fT)), ((ma 11), .inl (cI, 40, .inl fTS))]) [0, 1, 2, 3, 4, 5] (by decide) rfl
          have hq9 : True := trivial
          have qq_v7 : v7.toInt = (fNS z.toNatClampNeg).toInt := by rw [e_v7]
          exact W.iret (v := v8) hx hb hr (fun t ht hW => ⟨⟨v8, F, rfl, ⟨(by (try dsimp only); unfold psF; split <;> (try split) <;> (try split) <;> (try split) <;> (try split) <;> omega), (by (try dsimp only); first | assumption | omega | trivial)⟩, by rw [ht]; exact hP9, hD9⟩, hS.F ht⟩) hS.2.2 d_DiscMakerModel_partSize_72
      · skip
        have g29_8 : ¬ 2 ≤ y.toInt := fun h8 => h_9 ((i_le (by decide) rfl).mpr h8)
        refine lv_iconst (v := 0) hx hb d_DiscMakerModel_partSize_32 (by decide) ?_
        have hP9 := hP.sub (ws' := [(h0, .inr (11, MO ma sv_thrown sv_length sv_nodes sv_many sv_directories sv_runsFrom sv_runs sv_read sv_wrong sv_isNamed sv_goes sv_goesSize sv_goesAt sv_targetParts sv_isRoot)), ((ma 16), .inl (cJ, 46080, .inr (.inl F))), ((ma 1), .inl (cI, 40, .inl fK)), ((ma 9), .inl (cI, 40, .inl fNS)), ((ma 10), .inl (cB, 8000, .inl fT)), ((ma 11), .inl (cI, 40, .inl fTS))]) [0, 1, 2, 3, 4, 5] rfl
        have hD9 := hD.sub (ws' := [(h0, .inr (11, MO ma sv_thrown sv_length sv_nodes sv_many sv_directories sv_runsFrom sv_runs sv_read sv_wrong sv_isNamed sv_goes sv_goesSize sv_goesAt sv_targetParts sv_isRoot)), ((ma 16), .inl (cJ, 46080, .inr (.inl F))), ((ma 1), .inl (cI, 40, .inl fK)), ((ma 9), .inl (cI, 40, .inl fNS)), ((ma 10), .inl (cB, 8000, .inl fT)), ((ma 11), .inl (cI, 40, .inl fTS))]) [0, 1, 2, 3, 4, 5] (by decide) rfl
        have hq9 : True := trivial
        exact W.iret (v := 0) hx hb hr (fun t ht hW => ⟨⟨0, F, rfl, ⟨(by (try dsimp only); unfold psF; split <;> (try split) <;> (try split) <;> (try split) <;> (try split) <;> omega), (by (try dsimp only); first | assumption | omega | trivial)⟩, by rw [ht]; exact hP9, hD9⟩, hS.F ht⟩) hS.2.2 d_DiscMakerModel_partSize_33
    · skip
      have g21_5 : x.toInt = 1 := (i_eq rfl (by decide)).mp h_9
      refine lv_bipush (v := 36) hx hb d_DiscMakerModel_partSize_24 (by decide) ?_
      have hP9 := hP.sub (ws' := [(h0, .inr (11, MO ma sv_thrown sv_length sv_nodes sv_many sv_directories sv_runsFrom sv_runs sv_read sv_wrong sv_isNamed sv_goes sv_goesSize sv_goesAt sv_targetParts sv_isRoot)), ((ma 16), .inl (cJ, 46080, .inr (.inl F))), ((ma 1), .inl (cI, 40, .inl fK)), ((ma 9), .inl (cI, 40, .inl fNS)), ((ma 10), .inl (cB, 8000, .inl fT)), ((ma 11), .inl (cI, 40, .inl fTS))]) [0, 1, 2, 3, 4, 5] rfl
      have hD9 := hD.sub (ws' := [(h0, .inr (11, MO ma sv_thrown sv_length sv_nodes sv_many sv_directories sv_runsFrom sv_runs sv_read sv_wrong sv_isNamed sv_goes sv_goesSize sv_goesAt sv_targetParts sv_isRoot)), ((ma 16), .inl (cJ, 46080, .inr (.inl F))), ((ma 1), .inl (cI, 40, .inl fK)), ((ma 9), .inl (cI, 40, .inl fNS)), ((ma 10), .inl (cB, 8000, .inl fT)), ((ma 11), .inl (cI, 40, .inl fTS))]) [0, 1, 2, 3, 4, 5] (by decide) rfl
      have hq9 : True := trivial
      exact W.iret (v := 36) hx hb hr (fun t ht hW => ⟨⟨36, F, rfl, ⟨(by (try dsimp only); unfold psF; split <;> (try split) <;> (try split) <;> (try split) <;> (try split) <;> omega), (by (try dsimp only); first | assumption | omega | trivial)⟩, by rw [ht]; exact hP9, hD9⟩, hS.F ht⟩) hS.2.2 d_DiscMakerModel_partSize_26
  · skip
    have g1_2 : x.toInt = 0 := (i_eq rfl (by decide)).mp h_9
    refine lv_iload_n hx hb d_DiscMakerModel_partSize_4 rfl (lv_at hl 2 rfl) ?_
    refine lv_if_ne (tgt := 17) hx hb d_DiscMakerModel_partSize_5 (by decide) (fun h_9 => ?_) (fun h_9 => ?_)
    · skip
      have g5_41 : ¬ y.toInt = 0 := fun h8 => h_9 ((i_eq rfl (by decide)).mpr h8)
      refine lv_iconst (v := 0) hx hb d_DiscMakerModel_partSize_17 (by decide) ?_
      have hP9 := hP.sub (ws' := [(h0, .inr (11, MO ma sv_thrown sv_length sv_nodes sv_many sv_directories sv_runsFrom sv_runs sv_read sv_wrong sv_isNamed sv_goes sv_goesSize sv_goesAt sv_targetParts sv_isRoot)), ((ma 16), .inl (cJ, 46080, .inr (.inl F))), ((ma 1), .inl (cI, 40, .inl fK)), ((ma 9), .inl (cI, 40, .inl fNS)), ((ma 10), .inl (cB, 8000, .inl fT)), ((ma 11), .inl (cI, 40, .inl fTS))]) [0, 1, 2, 3, 4, 5] rfl
      have hD9 := hD.sub (ws' := [(h0, .inr (11, MO ma sv_thrown sv_length sv_nodes sv_many sv_directories sv_runsFrom sv_runs sv_read sv_wrong sv_isNamed sv_goes sv_goesSize sv_goesAt sv_targetParts sv_isRoot)), ((ma 16), .inl (cJ, 46080, .inr (.inl F))), ((ma 1), .inl (cI, 40, .inl fK)), ((ma 9), .inl (cI, 40, .inl fNS)), ((ma 10), .inl (cB, 8000, .inl fT)), ((ma 11), .inl (cI, 40, .inl fTS))]) [0, 1, 2, 3, 4, 5] (by decide) rfl
      have hq9 : True := trivial
      exact W.iret (v := 0) hx hb hr (fun t ht hW => ⟨⟨0, F, rfl, ⟨(by (try dsimp only); unfold psF; split <;> (try split) <;> (try split) <;> (try split) <;> (try split) <;> omega), (by (try dsimp only); first | assumption | omega | trivial)⟩, by rw [ht]; exact hP9, hD9⟩, hS.F ht⟩) hS.2.2 d_DiscMakerModel_partSize_18
    · skip
      have g5_41 : y.toInt = 0 := (i_eq rfl (by decide)).mp h_9
      refine lv_iload_n hx hb d_DiscMakerModel_partSize_8 rfl (lv_at hl 3 rfl) ?_
      refine lv_if_ne (tgt := 17) hx hb d_DiscMakerModel_partSize_9 (by decide) (fun h_9 => ?_) (fun h_9 => ?_)
      · skip
        have g9_45 : ¬ z.toInt = 0 := fun h8 => h_9 ((i_eq rfl (by decide)).mpr h8)
        refine lv_iconst (v := 0) hx hb d_DiscMakerModel_partSize_17 (by decide) ?_
        have hP9 := hP.sub (ws' := [(h0, .inr (11, MO ma sv_thrown sv_length sv_nodes sv_many sv_directories sv_runsFrom sv_runs sv_read sv_wrong sv_isNamed sv_goes sv_goesSize sv_goesAt sv_targetParts sv_isRoot)), ((ma 16), .inl (cJ, 46080, .inr (.inl F))), ((ma 1), .inl (cI, 40, .inl fK)), ((ma 9), .inl (cI, 40, .inl fNS)), ((ma 10), .inl (cB, 8000, .inl fT)), ((ma 11), .inl (cI, 40, .inl fTS))]) [0, 1, 2, 3, 4, 5] rfl
        have hD9 := hD.sub (ws' := [(h0, .inr (11, MO ma sv_thrown sv_length sv_nodes sv_many sv_directories sv_runsFrom sv_runs sv_read sv_wrong sv_isNamed sv_goes sv_goesSize sv_goesAt sv_targetParts sv_isRoot)), ((ma 16), .inl (cJ, 46080, .inr (.inl F))), ((ma 1), .inl (cI, 40, .inl fK)), ((ma 9), .inl (cI, 40, .inl fNS)), ((ma 10), .inl (cB, 8000, .inl fT)), ((ma 11), .inl (cI, 40, .inl fTS))]) [0, 1, 2, 3, 4, 5] (by decide) rfl
        have hq9 : True := trivial
        exact W.iret (v := 0) hx hb hr (fun t ht hW => ⟨⟨0, F, rfl, ⟨(by (try dsimp only); unfold psF; split <;> (try split) <;> (try split) <;> (try split) <;> (try split) <;> omega), (by (try dsimp only); first | assumption | omega | trivial)⟩, by rw [ht]; exact hP9, hD9⟩, hS.F ht⟩) hS.2.2 d_DiscMakerModel_partSize_18
      · skip
        have g9_45 : z.toInt = 0 := (i_eq rfl (by decide)).mp h_9
        refine lv_bipush (v := 7) hx hb d_DiscMakerModel_partSize_12 (by decide) ?_
        refine lv_goto (tgt := 18) hx hb d_DiscMakerModel_partSize_14 (by decide) ?_
        have hP9 := hP.sub (ws' := [(h0, .inr (11, MO ma sv_thrown sv_length sv_nodes sv_many sv_directories sv_runsFrom sv_runs sv_read sv_wrong sv_isNamed sv_goes sv_goesSize sv_goesAt sv_targetParts sv_isRoot)), ((ma 16), .inl (cJ, 46080, .inr (.inl F))), ((ma 1), .inl (cI, 40, .inl fK)), ((ma 9), .inl (cI, 40, .inl fNS)), ((ma 10), .inl (cB, 8000, .inl fT)), ((ma 11), .inl (cI, 40, .inl fTS))]) [0, 1, 2, 3, 4, 5] rfl
        have hD9 := hD.sub (ws' := [(h0, .inr (11, MO ma sv_thrown sv_length sv_nodes sv_many sv_directories sv_runsFrom sv_runs sv_read sv_wrong sv_isNamed sv_goes sv_goesSize sv_goesAt sv_targetParts sv_isRoot)), ((ma 16), .inl (cJ, 46080, .inr (.inl F))), ((ma 1), .inl (cI, 40, .inl fK)), ((ma 9), .inl (cI, 40, .inl fNS)), ((ma 10), .inl (cB, 8000, .inl fT)), ((ma 11), .inl (cI, 40, .inl fTS))]) [0, 1, 2, 3, 4, 5] (by decide) rfl
        have hq9 : True := trivial
        exact W.iret (v := 7) hx hb hr (fun t ht hW => ⟨⟨7, F, rfl, ⟨(by (try dsimp only); unfold psF; split <;> (try split) <;> (try split) <;> (try split) <;> (try split) <;> omega), (by (try dsimp only); first | assumption | omega | trivial)⟩, by rw [ht]; exact hP9, hD9⟩, hS.F ht⟩) hS.2.2 d_DiscMakerModel_partSize_18

theorem d_DiscMakerModel_idSize_0 : decode b_DiscMakerModel_idSize 0 = .ok (.iload_n 2, 1) := by decide +kernel
theorem d_DiscMakerModel_idSize_1 : decode b_DiscMakerModel_idSize 1 = .ok (.iconst 2, 1) := by decide +kernel
theorem d_DiscMakerModel_idSize_2 : decode b_DiscMakerModel_idSize 2 = .ok (.if_icmp .ge 5, 3) := by decide +kernel
theorem d_DiscMakerModel_idSize_5 : decode b_DiscMakerModel_idSize 5 = .ok (.iconst 1, 1) := by decide +kernel
theorem d_DiscMakerModel_idSize_6 : decode b_DiscMakerModel_idSize 6 = .ok (.ireturn, 1) := by decide +kernel
theorem d_DiscMakerModel_idSize_7 : decode b_DiscMakerModel_idSize 7 = .ok (.iload_n 1, 1) := by decide +kernel
theorem d_DiscMakerModel_idSize_8 : decode b_DiscMakerModel_idSize 8 = .ok (.iconst 1, 1) := by decide +kernel
theorem d_DiscMakerModel_idSize_9 : decode b_DiscMakerModel_idSize 9 = .ok (.if_icmp .ne 12, 3) := by decide +kernel
theorem d_DiscMakerModel_idSize_12 : decode b_DiscMakerModel_idSize 12 = .ok (.iconst 2, 1) := by decide +kernel
theorem d_DiscMakerModel_idSize_13 : decode b_DiscMakerModel_idSize 13 = .ok (.aload_n 0, 1) := by decide +kernel
theorem d_DiscMakerModel_idSize_14 : decode b_DiscMakerModel_idSize 14 = .ok (.getfield 38, 3) := by decide +kernel
theorem d_DiscMakerModel_idSize_17 : decode b_DiscMakerModel_idSize 17 = .ok (.iload_n 3, 1) := by decide +kernel
theorem d_DiscMakerModel_idSize_18 : decode b_DiscMakerModel_idSize 18 = .ok (.iaload, 1) := by decide +kernel
theorem d_DiscMakerModel_idSize_19 : decode b_DiscMakerModel_idSize 19 = .ok (.imul, 1) := by decide +kernel
theorem d_DiscMakerModel_idSize_20 : decode b_DiscMakerModel_idSize 20 = .ok (.ireturn, 1) := by decide +kernel
theorem d_DiscMakerModel_idSize_21 : decode b_DiscMakerModel_idSize 21 = .ok (.aload_n 0, 1) := by decide +kernel
theorem d_DiscMakerModel_idSize_22 : decode b_DiscMakerModel_idSize 22 = .ok (.getfield 13, 3) := by decide +kernel
theorem d_DiscMakerModel_idSize_25 : decode b_DiscMakerModel_idSize 25 = .ok (.iload_n 3, 1) := by decide +kernel
theorem d_DiscMakerModel_idSize_26 : decode b_DiscMakerModel_idSize 26 = .ok (.iaload, 1) := by decide +kernel
theorem d_DiscMakerModel_idSize_27 : decode b_DiscMakerModel_idSize 27 = .ok (.ifCond .ne 12, 3) := by decide +kernel
theorem d_DiscMakerModel_idSize_30 : decode b_DiscMakerModel_idSize 30 = .ok (.aload_n 0, 1) := by decide +kernel
theorem d_DiscMakerModel_idSize_31 : decode b_DiscMakerModel_idSize 31 = .ok (.getfield 50, 3) := by decide +kernel
theorem d_DiscMakerModel_idSize_34 : decode b_DiscMakerModel_idSize 34 = .ok (.iload_n 3, 1) := by decide +kernel
theorem d_DiscMakerModel_idSize_35 : decode b_DiscMakerModel_idSize 35 = .ok (.iaload, 1) := by decide +kernel
theorem d_DiscMakerModel_idSize_36 : decode b_DiscMakerModel_idSize 36 = .ok (.goto 18, 3) := by decide +kernel
theorem d_DiscMakerModel_idSize_39 : decode b_DiscMakerModel_idSize 39 = .ok (.aload_n 0, 1) := by decide +kernel
theorem d_DiscMakerModel_idSize_40 : decode b_DiscMakerModel_idSize 40 = .ok (.getfield 50, 3) := by decide +kernel
theorem d_DiscMakerModel_idSize_43 : decode b_DiscMakerModel_idSize 43 = .ok (.iload_n 3, 1) := by decide +kernel
theorem d_DiscMakerModel_idSize_44 : decode b_DiscMakerModel_idSize 44 = .ok (.iaload, 1) := by decide +kernel
theorem d_DiscMakerModel_idSize_45 : decode b_DiscMakerModel_idSize 45 = .ok (.aload_n 0, 1) := by decide +kernel
theorem d_DiscMakerModel_idSize_46 : decode b_DiscMakerModel_idSize 46 = .ok (.getfield 56, 3) := by decide +kernel
theorem d_DiscMakerModel_idSize_49 : decode b_DiscMakerModel_idSize 49 = .ok (.iload_n 3, 1) := by decide +kernel
theorem d_DiscMakerModel_idSize_50 : decode b_DiscMakerModel_idSize 50 = .ok (.iaload, 1) := by decide +kernel
theorem d_DiscMakerModel_idSize_51 : decode b_DiscMakerModel_idSize 51 = .ok (.iadd, 1) := by decide +kernel
theorem d_DiscMakerModel_idSize_52 : decode b_DiscMakerModel_idSize 52 = .ok (.iconst 3, 1) := by decide +kernel
theorem d_DiscMakerModel_idSize_53 : decode b_DiscMakerModel_idSize 53 = .ok (.iadd, 1) := by decide +kernel
theorem d_DiscMakerModel_idSize_54 : decode b_DiscMakerModel_idSize 54 = .ok (.ireturn, 1) := by decide +kernel
set_option maxHeartbeats 4000000 in
set_option maxRecDepth 100000 in
theorem m_idSize (l : Launch) (D : va_G) (cB cI cJ cZ cN cF : ClassId) (sz : Nat) (h0 : Nat) (ma : Nat → Nat) (sv_thrown sv_length sv_nodes sv_many sv_directories sv_runsFrom sv_runs sv_read sv_wrong sv_isNamed sv_goes sv_goesSize sv_goesAt sv_targetParts sv_isRoot : Int32) (fK : Nat → Int32) (fNS : Nat → Int32) (fBs : Nat → Int32) (fEs : Nat → Int32) (x : Int32) (y : Int32) (z : Int32) (hz0 : 0 ≤ z.toInt ∧ z.toInt < 40) (hKi : Rg 0 2 40 fK) (hNS : Rg 0 30 40 fNS) (hBs : Rg 0 8 40 fBs) (hEs : Rg 0 3 40 fEs) : Met l y_DiscMakerModel_idSize w_DiscMakerModel_idSize ({ frames := 0, cells := 0, slots := 0, locals := 0 }) (va_Pc [.ref h0, .int x, .int y, .int z] (fun U => U.heap.size = sz ∧ va_P D CL [(h0, .inr (11, MO ma sv_thrown sv_length sv_nodes sv_many sv_directories sv_runsFrom sv_runs sv_read sv_wrong sv_isNamed sv_goes sv_goesSize sv_goesAt sv_targetParts sv_isRoot)), ((ma 1), .inl (cI, 40, .inl fK)), ((ma 9), .inl (cI, 40, .inl fNS)), ((ma 13), .inl (cI, 40, .inl fBs)), ((ma 15), .inl (cI, 40, .inl fEs))] U.heap ∧ va_K D CL (TY cB cI cJ cZ cN cF) U ∧ NN U ∧ va_D (fun _ => True) [(h0, .inr (11, MO ma sv_thrown sv_length sv_nodes sv_many sv_directories sv_runsFrom sv_runs sv_read sv_wrong sv_isNamed sv_goes sv_goesSize sv_goesAt sv_targetParts sv_isRoot)), ((ma 1), .inl (cI, 40, .inl fK)), ((ma 9), .inl (cI, 40, .inl fNS)), ((ma 13), .inl (cI, 40, .inl fBs)), ((ma 15), .inl (cI, 40, .inl fEs))])) (va_Qi (fun (r : Int32) (u : Unit) => (r.toInt = idF fK fNS fBs fEs x.toInt y.toInt z.toNatClampNeg) ∧ (0 ≤ r.toInt ∧ r.toInt ≤ 60 ∧ (x.toInt = 0 → r.toInt ≤ 14))) (fun (u : Unit) (t : State) => match u with | () => va_P D CL [(h0, .inr (11, MO ma sv_thrown sv_length sv_nodes sv_many sv_directories sv_runsFrom sv_runs sv_read sv_wrong sv_isNamed sv_goes sv_goesSize sv_goesAt sv_targetParts sv_isRoot)), ((ma 1), .inl (cI, 40, .inl fK)), ((ma 9), .inl (cI, 40, .inl fNS)), ((ma 13), .inl (cI, 40, .inl fBs)), ((ma 15), .inl (cI, 40, .inl fEs))] t.heap ∧ va_D (va_A [(h0, .inr (11, MO ma sv_thrown sv_length sv_nodes sv_many sv_directories sv_runsFrom sv_runs sv_read sv_wrong sv_isNamed sv_goes sv_goesSize sv_goesAt sv_targetParts sv_isRoot)), ((ma 1), .inl (cI, 40, .inl fK)), ((ma 9), .inl (cI, 40, .inl fNS)), ((ma 13), .inl (cI, 40, .inl fBs)), ((ma 15), .inl (cI, 40, .inl fEs))] sz) [(h0, .inr (11, MO ma sv_thrown sv_length sv_nodes sv_many sv_directories sv_runsFrom sv_runs sv_read sv_wrong sv_isNamed sv_goes sv_goesSize sv_goesAt sv_targetParts sv_isRoot)), ((ma 1), .inl (cI, 40, .inl fK)), ((ma 9), .inl (cI, 40, .inl fNS)), ((ma 13), .inl (cI, 40, .inl fBs)), ((ma 15), .inl (cI, 40, .inl fEs))]) (va_A [(h0, .inr (11, MO ma sv_thrown sv_length sv_nodes sv_many sv_directories sv_runsFrom sv_runs sv_read sv_wrong sv_isNamed sv_goes sv_goesSize sv_goesAt sv_targetParts sv_isRoot)), ((ma 1), .inl (cI, 40, .inl fK)), ((ma 9), .inl (cI, 40, .inl fNS)), ((ma 13), .inl (cI, 40, .inl fBs)), ((ma 15), .inl (cI, 40, .inl fEs))] sz)) 0 0 (va_A [(h0, .inr (11, MO ma sv_thrown sv_length sv_nodes sv_many sv_directories sv_runsFrom sv_runs sv_read sv_wrong sv_isNamed sv_goes sv_goesSize sv_goesAt sv_targetParts sv_isRoot)), ((ma 1), .inl (cI, 40, .inl fK)), ((ma 9), .inl (cI, 40, .inl fNS)), ((ma 13), .inl (cI, 40, .inl fBs)), ((ma 15), .inl (cI, 40, .inl fEs))] sz) := by
  refine Met.ofW (cc := b_DiscMakerModel_idSize) (maxL := 4) (ret := some .int) (by decide) rfl ?_
  intro p e s m args below meth c s₁ B hml hv
  obtain ⟨rfl, hsz, hP, hK, hN, hD0⟩ := hv
  have hx := B.exec
  have hb := B.bytes
  have hr := B.returns
  have hts := atoms_spec (ws := w_DiscMakerModel_idSize) B.pre
  have ht9 := fun (w : Cond) (h : w ∈ lw_g) => hts w (List.mem_cons_of_mem _ h)
  have hown : s.vm.findClass "DiscMakerModel" = some m.cls := findClass_of_methodNamed B.named
  have hlocks := B.notSynchronized
  subst hsz
  have hD := hD0.self (sz := s.heap.size)
  generalize hAe : va_A [(h0, .inr (11, MO ma sv_thrown sv_length sv_nodes sv_many sv_directories sv_runsFrom sv_runs sv_read sv_wrong sv_isNamed sv_goes sv_goesSize sv_goesAt sv_targetParts sv_isRoot)), ((ma 1), .inl (cI, 40, .inl fK)), ((ma 9), .inl (cI, 40, .inl fNS)), ((ma 13), .inl (cI, 40, .inl fBs)), ((ma 15), .inl (cI, 40, .inl fEs))] s.heap.size = A at hD ⊢
  have hA : ∀ q : Nat, s.heap.size ≤ q → A q := fun q h => by rw [← hAe]; exact Or.inr h
  have hS : va_S A s.heap s.heap [] := va_S.rf
  have hP : va_P D CL [(h0, .inr (11, MO ma sv_thrown sv_length sv_nodes sv_many sv_directories sv_runsFrom sv_runs sv_read sv_wrong sv_isNamed sv_goes sv_goesSize sv_goesAt sv_targetParts sv_isRoot)), ((ma 1), .inl (cI, 40, .inl fK)), ((ma 9), .inl (cI, 40, .inl fNS)), ((ma 13), .inl (cI, 40, .inl fBs)), ((ma 15), .inl (cI, 40, .inl fEs))] s.heap := hP
  have hl := lv_entry [.ref h0, .int x, .int y, .int z] (n := 4) (Nat.le_of_ble_eq_true rfl)
  rw [lg_entry_eq]
  generalize (lg_sl [.ref h0, .int x, .int y, .int z] ++ List.replicate (4 - (lg_sl [.ref h0, .int x, .int y, .int z]).length) Slot.unset).toArray = ls at hl ⊢
  have hl : lv_has ls 4 [(0, .ref h0), (1, .int x), (2, .int y), (3, .int z)] := hl
  have L_m1 : ((-1) : Int32).toInt = (-1) := by decide
  have L_0 : (0 : Int32).toInt = 0 := by decide
  have L_1 : (1 : Int32).toInt = 1 := by decide
  have L_2 : (2 : Int32).toInt = 2 := by decide
  have L_3 : (3 : Int32).toInt = 3 := by decide
  have hzc := i_cl (a := z) (by omega)
  have hil := idF_le (fK := fK) x.toInt y.toInt (hNS z.toNatClampNeg (by omega)) (hBs z.toNatClampNeg (by omega)) (hEs z.toNatClampNeg (by omega))
  refine lv_iload_n hx hb d_DiscMakerModel_idSize_0 rfl (lv_at hl 2 rfl) ?_
  refine lv_iconst (v := 2) hx hb d_DiscMakerModel_idSize_1 (by decide) ?_
  refine lv_icmp_ge (tgt := 7) hx hb d_DiscMakerModel_idSize_2 (by decide) (fun h_9 => ?_) (fun h_9 => ?_)
  · skip
    have g2_3 : 2 ≤ y.toInt := (i_le (by decide) rfl).mp h_9
    refine lv_iload_n hx hb d_DiscMakerModel_idSize_7 rfl (lv_at hl 1 rfl) ?_
    refine lv_iconst (v := 1) hx hb d_DiscMakerModel_idSize_8 (by decide) ?_
    refine lv_icmp_ne (tgt := 21) hx hb d_DiscMakerModel_idSize_9 (by decide) (fun h_9 => ?_) (fun h_9 => ?_)
    · skip
      have g9_6 : ¬ x.toInt = 1 := fun h8 => h_9 ((i_eq rfl (by decide)).mpr h8)
      refine lv_aload_n hx hb d_DiscMakerModel_idSize_21 rfl (lv_at hl 0 rfl) ?_
      refine va_get (D := D) (ci := 11) (v := .ref (ma 1)) (C := "DiscMakerModel") (T := F_DiscMakerModel) (N := 48) hx hb ht9 in_DiscMakerModel hown hK hP 0 rfl rfl 4 (by decide) (ht9 _ k1435) (fun _ h9 => h9) rfl d_DiscMakerModel_idSize_22 ?_
      refine lv_iload_n hx hb d_DiscMakerModel_idSize_25 rfl (lv_at hl 3 rfl) ?_
      refine va_iald hx hb hK hP 1 1 rfl rfl (vp_in_iff.mpr ⟨by omega, by omega⟩) d_DiscMakerModel_idSize_26 ?_
      refine lv_topi (fun v1 e_v1 => ?_)
      have t_v1 : 0 ≤ v1.toInt ∧ v1.toInt ≤ 2 := by
        rw [e_v1]; exact hKi _ (by have := i_cl (a := z) (by omega); omega)
      refine lv_if_ne (tgt := 39) hx hb d_DiscMakerModel_idSize_27 (by decide) (fun h_9 => ?_) (fun h_9 => ?_)
      · skip
        have g27_11 : ¬ v1.toInt = 0 := fun h8 => h_9 ((i_eq rfl (by decide)).mpr h8)
        refine lv_aload_n hx hb d_DiscMakerModel_idSize_39 rfl (lv_at hl 0 rfl) ?_
        refine va_get (D := D) (ci := 11) (v := .ref (ma 13)) (C := "DiscMakerModel") (T := F_DiscMakerModel) (N := 48) hx hb ht9 in_DiscMakerModel hown hK hP 0 rfl rfl 16 (by decide) (ht9 _ k1447) (fun _ h9 => h9) rfl d_DiscMakerModel_idSize_40 ?_
        refine lv_iload_n hx hb d_DiscMakerModel_idSize_43 rfl (lv_at hl 3 rfl) ?_
        refine va_iald hx hb hK hP 3 1 rfl rfl (vp_in_iff.mpr ⟨by omega, by omega⟩) d_DiscMakerModel_idSize_44 ?_
        refine lv_topi (fun v2 e_v2 => ?_)
        have t_v2 : 0 ≤ v2.toInt ∧ v2.toInt ≤ 8 := by
          rw [e_v2]; exact hBs _ (by have := i_cl (a := z) (by omega); omega)
        refine lv_aload_n hx hb d_DiscMakerModel_idSize_45 rfl (lv_at hl 0 rfl) ?_
        refine va_get (D := D) (ci := 11) (v := .ref (ma 15)) (C := "DiscMakerModel") (T := F_DiscMakerModel) (N := 48) hx hb ht9 in_DiscMakerModel hown hK hP 0 rfl rfl 18 (by decide) (ht9 _ k1449) (fun _ h9 => h9) rfl d_DiscMakerModel_idSize_46 ?_
        refine lv_iload_n hx hb d_DiscMakerModel_idSize_49 rfl (lv_at hl 3 rfl) ?_
        refine va_iald hx hb hK hP 4 1 rfl rfl (vp_in_iff.mpr ⟨by omega, by omega⟩) d_DiscMakerModel_idSize_50 ?_
        refine lv_topi (fun v3 e_v3 => ?_)
        have t_v3 : 0 ≤ v3.toInt ∧ v3.toInt ≤ 3 := by
          rw [e_v3]; exact hEs _ (by have := i_cl (a := z) (by omega); omega)
        refine lv_iadd hx hb d_DiscMakerModel_idSize_51 ?_
        refine lv_topi (fun v4 e_v4 => ?_)
        have t_v4 : v4.toInt = v2.toInt + v3.toInt := by rw [e_v4]; exact i_add rfl rfl (by omega) (by omega)
        refine lv_iconst (v := 3) hx hb d_DiscMakerModel_idSize_52 (by decide) ?_
        refine lv_iadd hx hb d_DiscMakerModel_idSize_53 ?_
        refine lv_topi (fun v5 e_v5 => ?_)
        have t_v5 : v5.toInt = v4.toInt + 3 := by rw [e_v5]; exact i_add rfl (by decide) (by omega) (by omega)
        have hP9 := hP.sub (ws' := [(h0, .inr (11, MO ma sv_thrown sv_length sv_nodes sv_many sv_directories sv_runsFrom sv_runs sv_read sv_wrong sv_isNamed sv_goes sv_goesSize sv_goesAt sv_targetParts sv_isRoot)), ((ma 1), .inl (cI, 40, .inl fK)), ((ma 9), .inl (cI, 40, .inl fNS)), ((ma 13), .inl (cI, 40, .inl fBs)), ((ma 15), .inl (cI, 40, .inl fEs))]) [0, 1, 2, 3, 4] rfl
        have hD9 := hD.sub (ws' := [(h0, .inr (11, MO ma sv_thrown sv_length sv_nodes sv_many sv_directories sv_runsFrom sv_runs sv_read sv_wrong sv_isNamed sv_goes sv_goesSize sv_goesAt sv_targetParts sv_isRoot)), ((ma 1), .inl (cI, 40, .inl fK)), ((ma 9), .inl (cI, 40, .inl fNS)), ((ma 13), .inl (cI, 40, .inl fBs)), ((ma 15), .inl (cI, 40, .inl fEs))]) [0, 1, 2, 3, 4] (by decide) rfl
        have qq_v1 : v1.toInt = (fK z.toNatClampNeg).toInt := by rw [e_v1]
        have qq_v2 : v2.toInt = (fBs z.toNatClampNeg).toInt := by rw [e_v2]
        have qq_v3 : v3.toInt = (fEs z.toNatClampNeg).toInt := by rw [e_v3]
        have hv9 : v5.toInt = idF fK fNS fBs fEs x.toInt y.toInt z.toNatClampNeg := by unfold idF; split <;> (try split) <;> (try split) <;> omega
        exact W.iret (v := v5) hx hb hr (fun t ht hW => ⟨⟨v5, (), rfl, ⟨hv9, (by (try dsimp only); rw [hv9]; exact hil)⟩, by rw [ht]; exact hP9, hD9⟩, hS.F ht⟩) hS.2.2 d_DiscMakerModel_idSize_54
      · skip
        have g27_11 : v1.toInt = 0 := (i_eq rfl (by decide)).mp h_9
        refine lv_aload_n hx hb d_DiscMakerModel_idSize_30 rfl (lv_at hl 0 rfl) ?_
        refine va_get (D := D) (ci := 11) (v := .ref (ma 13)) (C := "DiscMakerModel") (T := F_DiscMakerModel) (N := 48) hx hb ht9 in_DiscMakerModel hown hK hP 0 rfl rfl 16 (by decide) (ht9 _ k1447) (fun _ h9 => h9) rfl d_DiscMakerModel_idSize_31 ?_
        refine lv_iload_n hx hb d_DiscMakerModel_idSize_34 rfl (lv_at hl 3 rfl) ?_
        refine va_iald hx hb hK hP 3 1 rfl rfl (vp_in_iff.mpr ⟨by omega, by omega⟩) d_DiscMakerModel_idSize_35 ?_
        refine lv_topi (fun v6 e_v6 => ?_)
        have t_v6 : 0 ≤ v6.toInt ∧ v6.toInt ≤ 8 := by
          rw [e_v6]; exact hBs _ (by have := i_cl (a := z) (by omega); omega)
        refine lv_goto (tgt := 54) hx hb d_DiscMakerModel_idSize_36 (by decide) ?_
        have hP9 := hP.sub (ws' := [(h0, .inr (11, MO ma sv_thrown sv_length sv_nodes sv_many sv_directories sv_runsFrom sv_runs sv_read sv_wrong sv_isNamed sv_goes sv_goesSize sv_goesAt sv_targetParts sv_isRoot)), ((ma 1), .inl (cI, 40, .inl fK)), ((ma 9), .inl (cI, 40, .inl fNS)), ((ma 13), .inl (cI, 40, .inl fBs)), ((ma 15), .inl (cI, 40, .inl fEs))]) [0, 1, 2, 3, 4] rfl
        have hD9 := hD.sub (ws' := [(h0, .inr (11, MO ma sv_thrown sv_length sv_nodes sv_many sv_directories sv_runsFrom sv_runs sv_read sv_wrong sv_isNamed sv_goes sv_goesSize sv_goesAt sv_targetParts sv_isRoot)), ((ma 1), .inl (cI, 40, .inl fK)), ((ma 9), .inl (cI, 40, .inl fNS)), ((ma 13), .inl (cI, 40, .inl fBs)), ((ma 15), .inl (cI, 40, .inl fEs))]) [0, 1, 2, 3, 4] (by decide) rfl
        have qq_v1 : v1.toInt = (fK z.toNatClampNeg).toInt := by rw [e_v1]
        have qq_v6 : v6.toInt = (fBs z.toNatClampNeg).toInt := by rw [e_v6]
        have hv9 : v6.toInt = idF fK fNS fBs fEs x.toInt y.toInt z.toNatClampNeg := by unfold idF; split <;> (try split) <;> (try split) <;> omega
        exact W.iret (v := v6) hx hb hr (fun t ht hW => ⟨⟨v6, (), rfl, ⟨hv9, (by (try dsimp only); rw [hv9]; exact hil)⟩, by rw [ht]; exact hP9, hD9⟩, hS.F ht⟩) hS.2.2 d_DiscMakerModel_idSize_54
    · skip
      have g9_6 : x.toInt = 1 := (i_eq rfl (by decide)).mp h_9
      refine lv_iconst (v := 2) hx hb d_DiscMakerModel_idSize_12 (by decide) ?_
      refine lv_aload_n hx hb d_DiscMakerModel_idSize_13 rfl (lv_at hl 0 rfl) ?_
      refine va_get (D := D) (ci := 11) (v := .ref (ma 9)) (C := "DiscMakerModel") (T := F_DiscMakerModel) (N := 48) hx hb ht9 in_DiscMakerModel hown hK hP 0 rfl rfl 12 (by decide) (ht9 _ k1443) (fun _ h9 => h9) rfl d_DiscMakerModel_idSize_14 ?_
      refine lv_iload_n hx hb d_DiscMakerModel_idSize_17 rfl (lv_at hl 3 rfl) ?_
      refine va_iald hx hb hK hP 2 1 rfl rfl (vp_in_iff.mpr ⟨by omega, by omega⟩) d_DiscMakerModel_idSize_18 ?_
      refine lv_topi (fun v7 e_v7 => ?_)
      have t_v7 : 0 ≤ v7.toInt ∧ v7.toInt ≤ 30 := by
        rw [e_v7]; exact hNS _ (by have := i_cl (a := z) (by omega); omega)
      refine lv_imul hx hb d_DiscMakerModel_idSize_19 ?_
      refine lv_topi (fun v8 e_v8 => ?_)
      have t_v8 : v8.toInt = 2 * v7.toInt := by rw [e_v8]; exact i_mul (by decide) rfl (by omega) (by omega)
      have hP9 := hP.sub (ws' := [(h0, .inr (11, MO ma sv_thrown sv_length sv_nodes sv_many sv_directories sv_runsFrom sv_runs sv_read sv_wrong sv_isNamed sv_goes sv_goesSize sv_goesAt sv_targetParts sv_isRoot)), ((ma 1), .inl (cI, 40, .inl fK)), ((ma 9), .inl (cI, 40, .inl fNS)), ((ma 13), .inl (cI, 40, .inl fBs)), ((ma 15), .inl (cI, 40, .inl fEs))]) [0, 1, 2, 3, 4] rfl
      have hD9 := hD.sub (ws' := [(h0, .inr (11, MO ma sv_thrown sv_length sv_nodes sv_many sv_directories sv_runsFrom sv_runs sv_read sv_wrong sv_isNamed sv_goes sv_goesSize sv_goesAt sv_targetParts sv_isRoot)), ((ma 1), .inl (cI, 40, .inl fK)), ((ma 9), .inl (cI, 40, .inl fNS)), ((ma 13), .inl (cI, 40, .inl fBs)), ((ma 15), .inl (cI, 40, .inl fEs))]) [0, 1, 2, 3, 4] (by decide) rfl
      have qq_v7 : v7.toInt = (fNS z.toNatClampNeg).toInt := by rw [e_v7]
      have hv9 : v8.toInt = idF fK fNS fBs fEs x.toInt y.toInt z.toNatClampNeg := by unfold idF; split <;> (try split) <;> (try split) <;> omega
      exact W.iret (v := v8) hx hb hr (fun t ht hW => ⟨⟨v8, (), rfl, ⟨hv9, (by (try dsimp only); rw [hv9]; exact hil)⟩, by rw [ht]; exact hP9, hD9⟩, hS.F ht⟩) hS.2.2 d_DiscMakerModel_idSize_20
  · skip
    have g2_3 : ¬ 2 ≤ y.toInt := fun h8 => h_9 ((i_le (by decide) rfl).mpr h8)
    refine lv_iconst (v := 1) hx hb d_DiscMakerModel_idSize_5 (by decide) ?_
    have hP9 := hP.sub (ws' := [(h0, .inr (11, MO ma sv_thrown sv_length sv_nodes sv_many sv_directories sv_runsFrom sv_runs sv_read sv_wrong sv_isNamed sv_goes sv_goesSize sv_goesAt sv_targetParts sv_isRoot)), ((ma 1), .inl (cI, 40, .inl fK)), ((ma 9), .inl (cI, 40, .inl fNS)), ((ma 13), .inl (cI, 40, .inl fBs)), ((ma 15), .inl (cI, 40, .inl fEs))]) [0, 1, 2, 3, 4] rfl
    have hD9 := hD.sub (ws' := [(h0, .inr (11, MO ma sv_thrown sv_length sv_nodes sv_many sv_directories sv_runsFrom sv_runs sv_read sv_wrong sv_isNamed sv_goes sv_goesSize sv_goesAt sv_targetParts sv_isRoot)), ((ma 1), .inl (cI, 40, .inl fK)), ((ma 9), .inl (cI, 40, .inl fNS)), ((ma 13), .inl (cI, 40, .inl fBs)), ((ma 15), .inl (cI, 40, .inl fEs))]) [0, 1, 2, 3, 4] (by decide) rfl
    have hv9 : (1 : Int32).toInt = idF fK fNS fBs fEs x.toInt y.toInt z.toNatClampNeg := by unfold idF; split <;> (try split) <;> (try split) <;> omega
    exact W.iret (v := 1) hx hb hr (fun t ht hW => ⟨⟨1, (), rfl, ⟨hv9, (by (try dsimp only); rw [hv9]; exact hil)⟩, by rw [ht]; exact hP9, hD9⟩, hS.F ht⟩) hS.2.2 d_DiscMakerModel_idSize_6

theorem d_DiscMakerModel_headSize_0 : decode b_DiscMakerModel_headSize 0 = .ok (.bipush 33, 2) := by decide +kernel
theorem d_DiscMakerModel_headSize_2 : decode b_DiscMakerModel_headSize 2 = .ok (.aload_n 0, 1) := by decide +kernel
theorem d_DiscMakerModel_headSize_3 : decode b_DiscMakerModel_headSize 3 = .ok (.iload_n 1, 1) := by decide +kernel
theorem d_DiscMakerModel_headSize_4 : decode b_DiscMakerModel_headSize 4 = .ok (.iload_n 2, 1) := by decide +kernel
theorem d_DiscMakerModel_headSize_5 : decode b_DiscMakerModel_headSize 5 = .ok (.iload_n 3, 1) := by decide +kernel
theorem d_DiscMakerModel_headSize_6 : decode b_DiscMakerModel_headSize 6 = .ok (.invokevirtual 210, 3) := by decide +kernel
theorem d_DiscMakerModel_headSize_9 : decode b_DiscMakerModel_headSize 9 = .ok (.iadd, 1) := by decide +kernel
theorem d_DiscMakerModel_headSize_10 : decode b_DiscMakerModel_headSize 10 = .ok (.istore 4, 2) := by decide +kernel
theorem d_DiscMakerModel_headSize_12 : decode b_DiscMakerModel_headSize 12 = .ok (.iload 4, 2) := by decide +kernel
theorem d_DiscMakerModel_headSize_14 : decode b_DiscMakerModel_headSize 14 = .ok (.iload 4, 2) := by decide +kernel
theorem d_DiscMakerModel_headSize_16 : decode b_DiscMakerModel_headSize 16 = .ok (.iconst 2, 1) := by decide +kernel
theorem d_DiscMakerModel_headSize_17 : decode b_DiscMakerModel_headSize 17 = .ok (.irem, 1) := by decide +kernel
theorem d_DiscMakerModel_headSize_18 : decode b_DiscMakerModel_headSize 18 = .ok (.iadd, 1) := by decide +kernel
theorem d_DiscMakerModel_headSize_19 : decode b_DiscMakerModel_headSize 19 = .ok (.ireturn, 1) := by decide +kernel
set_option maxHeartbeats 4000000 in
set_option maxRecDepth 100000 in
theorem m_headSize (l : Launch) (D : va_G) (cB cI cJ cZ cN cF : ClassId) (sz : Nat) (h0 : Nat) (ma : Nat → Nat) (sv_thrown sv_length sv_nodes sv_many sv_directories sv_runsFrom sv_runs sv_read sv_wrong sv_isNamed sv_goes sv_goesSize sv_goesAt sv_targetParts sv_isRoot : Int32) (fK : Nat → Int32) (fNS : Nat → Int32) (fBs : Nat → Int32) (fEs : Nat → Int32) (x : Int32) (y : Int32) (z : Int32) (hz0 : 0 ≤ z.toInt ∧ z.toInt < 40) (hKi : Rg 0 2 40 fK) (hNS : Rg 0 30 40 fNS) (hBs : Rg 0 8 40 fBs) (hEs : Rg 0 3 40 fEs) : Met l y_DiscMakerModel_headSize w_DiscMakerModel_headSize ({ frames := 1, cells := 0, slots := 0, locals := 23 }) (va_Pc [.ref h0, .int x, .int y, .int z] (fun U => U.heap.size = sz ∧ va_P D CL [(h0, .inr (11, MO ma sv_thrown sv_length sv_nodes sv_many sv_directories sv_runsFrom sv_runs sv_read sv_wrong sv_isNamed sv_goes sv_goesSize sv_goesAt sv_targetParts sv_isRoot)), ((ma 1), .inl (cI, 40, .inl fK)), ((ma 9), .inl (cI, 40, .inl fNS)), ((ma 13), .inl (cI, 40, .inl fBs)), ((ma 15), .inl (cI, 40, .inl fEs))] U.heap ∧ va_K D CL (TY cB cI cJ cZ cN cF) U ∧ NN U ∧ va_D (fun _ => True) [(h0, .inr (11, MO ma sv_thrown sv_length sv_nodes sv_many sv_directories sv_runsFrom sv_runs sv_read sv_wrong sv_isNamed sv_goes sv_goesSize sv_goesAt sv_targetParts sv_isRoot)), ((ma 1), .inl (cI, 40, .inl fK)), ((ma 9), .inl (cI, 40, .inl fNS)), ((ma 13), .inl (cI, 40, .inl fBs)), ((ma 15), .inl (cI, 40, .inl fEs))])) (va_Qi (fun (r : Int32) (u : Unit) => (r.toInt = (33 + idF fK fNS fBs fEs x.toInt y.toInt z.toNatClampNeg + (33 + idF fK fNS fBs fEs x.toInt y.toInt z.toNatClampNeg) % 2)) ∧ (33 ≤ r.toInt ∧ r.toInt ≤ 94 ∧ r.toInt % 2 = 0 ∧ (x.toInt = 0 → r.toInt ≤ 48))) (fun (u : Unit) (t : State) => match u with | () => va_P D CL [(h0, .inr (11, MO ma sv_thrown sv_length sv_nodes sv_many sv_directories sv_runsFrom sv_runs sv_read sv_wrong sv_isNamed sv_goes sv_goesSize sv_goesAt sv_targetParts sv_isRoot)), ((ma 1), .inl (cI, 40, .inl fK)), ((ma 9), .inl (cI, 40, .inl fNS)), ((ma 13), .inl (cI, 40, .inl fBs)), ((ma 15), .inl (cI, 40, .inl fEs))] t.heap ∧ va_D (va_A [(h0, .inr (11, MO ma sv_thrown sv_length sv_nodes sv_many sv_directories sv_runsFrom sv_runs sv_read sv_wrong sv_isNamed sv_goes sv_goesSize sv_goesAt sv_targetParts sv_isRoot)), ((ma 1), .inl (cI, 40, .inl fK)), ((ma 9), .inl (cI, 40, .inl fNS)), ((ma 13), .inl (cI, 40, .inl fBs)), ((ma 15), .inl (cI, 40, .inl fEs))] sz) [(h0, .inr (11, MO ma sv_thrown sv_length sv_nodes sv_many sv_directories sv_runsFrom sv_runs sv_read sv_wrong sv_isNamed sv_goes sv_goesSize sv_goesAt sv_targetParts sv_isRoot)), ((ma 1), .inl (cI, 40, .inl fK)), ((ma 9), .inl (cI, 40, .inl fNS)), ((ma 13), .inl (cI, 40, .inl fBs)), ((ma 15), .inl (cI, 40, .inl fEs))]) (va_A [(h0, .inr (11, MO ma sv_thrown sv_length sv_nodes sv_many sv_directories sv_runsFrom sv_runs sv_read sv_wrong sv_isNamed sv_goes sv_goesSize sv_goesAt sv_targetParts sv_isRoot)), ((ma 1), .inl (cI, 40, .inl fK)), ((ma 9), .inl (cI, 40, .inl fNS)), ((ma 13), .inl (cI, 40, .inl fBs)), ((ma 15), .inl (cI, 40, .inl fEs))] sz)) 0 0 (va_A [(h0, .inr (11, MO ma sv_thrown sv_length sv_nodes sv_many sv_directories sv_runsFrom sv_runs sv_read sv_wrong sv_isNamed sv_goes sv_goesSize sv_goesAt sv_targetParts sv_isRoot)), ((ma 1), .inl (cI, 40, .inl fK)), ((ma 9), .inl (cI, 40, .inl fNS)), ((ma 13), .inl (cI, 40, .inl fBs)), ((ma 15), .inl (cI, 40, .inl fEs))] sz) := by
  refine Met.ofW (cc := b_DiscMakerModel_headSize) (maxL := 5) (ret := some .int) (by decide) rfl ?_
  intro p e s m args below meth c s₁ B hml hv
  obtain ⟨rfl, hsz, hP, hK, hN, hD0⟩ := hv
  have hx := B.exec
  have hb := B.bytes
  have hr := B.returns
  have hts := atoms_spec (ws := w_DiscMakerModel_headSize) B.pre
  have ht9 := fun (w : Cond) (h : w ∈ lw_g) => hts w (List.mem_cons_of_mem _ h)
  have hown : s.vm.findClass "DiscMakerModel" = some m.cls := findClass_of_methodNamed B.named
  have hlocks := B.notSynchronized
  subst hsz
  have hD := hD0.self (sz := s.heap.size)
  generalize hAe : va_A [(h0, .inr (11, MO ma sv_thrown sv_length sv_nodes sv_many sv_directories sv_runsFrom sv_runs sv_read sv_wrong sv_isNamed sv_goes sv_goesSize sv_goesAt sv_targetParts sv_isRoot)), ((ma 1), .inl (cI, 40, .inl fK)), ((ma 9), .inl (cI, 40, .inl fNS)), ((ma 13), .inl (cI, 40, .inl fBs)), ((ma 15), .inl (cI, 40, .inl fEs))] s.heap.size = A at hD ⊢
  have hA : ∀ q : Nat, s.heap.size ≤ q → A q := fun q h => by rw [← hAe]; exact Or.inr h
  have hS : va_S A s.heap s.heap [] := va_S.rf
  have hP : va_P D CL [(h0, .inr (11, MO ma sv_thrown sv_length sv_nodes sv_many sv_directories sv_runsFrom sv_runs sv_read sv_wrong sv_isNamed sv_goes sv_goesSize sv_goesAt sv_targetParts sv_isRoot)), ((ma 1), .inl (cI, 40, .inl fK)), ((ma 9), .inl (cI, 40, .inl fNS)), ((ma 13), .inl (cI, 40, .inl fBs)), ((ma 15), .inl (cI, 40, .inl fEs))] s.heap := hP
  have hl := lv_entry [.ref h0, .int x, .int y, .int z] (n := 5) (Nat.le_of_ble_eq_true rfl)
  rw [lg_entry_eq]
  generalize (lg_sl [.ref h0, .int x, .int y, .int z] ++ List.replicate (5 - (lg_sl [.ref h0, .int x, .int y, .int z]).length) Slot.unset).toArray = ls at hl ⊢
  have hl : lv_has ls 5 [(0, .ref h0), (1, .int x), (2, .int y), (3, .int z)] := hl
  have L_m1 : ((-1) : Int32).toInt = (-1) := by decide
  have L_0 : (0 : Int32).toInt = 0 := by decide
  have L_1 : (1 : Int32).toInt = 1 := by decide
  have L_2 : (2 : Int32).toInt = 2 := by decide
  have L_33 : (33 : Int32).toInt = 33 := by decide
  refine lv_bipush (v := 33) hx hb d_DiscMakerModel_headSize_0 (by decide) ?_
  refine lv_aload_n hx hb d_DiscMakerModel_headSize_2 rfl (lv_at hl 0 rfl) ?_
  refine lv_iload_n hx hb d_DiscMakerModel_headSize_3 rfl (lv_at hl 1 rfl) ?_
  refine lv_iload_n hx hb d_DiscMakerModel_headSize_4 rfl (lv_at hl 2 rfl) ?_
  refine lv_iload_n hx hb d_DiscMakerModel_headSize_5 rfl (lv_at hl 3 rfl) ?_
  have hPc := hP.sub (ws' := [(h0, .inr (11, MO ma sv_thrown sv_length sv_nodes sv_many sv_directories sv_runsFrom sv_runs sv_read sv_wrong sv_isNamed sv_goes sv_goesSize sv_goesAt sv_targetParts sv_isRoot)), ((ma 1), .inl (cI, 40, .inl fK)), ((ma 9), .inl (cI, 40, .inl fNS)), ((ma 13), .inl (cI, 40, .inl fBs)), ((ma 15), .inl (cI, 40, .inl fEs))]) [0, 1, 2, 3, 4] rfl
  have hDc := hD.sub (ws' := [(h0, .inr (11, MO ma sv_thrown sv_length sv_nodes sv_many sv_directories sv_runsFrom sv_runs sv_read sv_wrong sv_isNamed sv_goes sv_goesSize sv_goesAt sv_targetParts sv_isRoot)), ((ma 1), .inl (cI, 40, .inl fK)), ((ma 9), .inl (cI, 40, .inl fNS)), ((ma 13), .inl (cI, 40, .inl fBs)), ((ma 15), .inl (cI, 40, .inl fEs))]) [0, 1, 2, 3, 4] (by decide) rfl
  have hFc := va_free (wc := [(h0, .inr (11, MO ma sv_thrown sv_length sv_nodes sv_many sv_directories sv_runsFrom sv_runs sv_read sv_wrong sv_isNamed sv_goes sv_goesSize sv_goesAt sv_targetParts sv_isRoot)), ((ma 1), .inl (cI, 40, .inl fK)), ((ma 9), .inl (cI, 40, .inl fNS)), ((ma 13), .inl (cI, 40, .inl fBs)), ((ma 15), .inl (cI, 40, .inl fEs))]) hD hS hA [0, 1, 2, 3, 4] rfl
  have hkc : 0 ≤ 0 := by decide
  have hks : 0 ≤ 0 := by decide
  refine va_calli (va_runV (C := "DiscMakerModel") (As := [.int x, .int y, .int z]) (rest := [.int 33]) ⟨hx, hb, hml, hown, hts⟩ (m_idSize l D cB cI cJ cZ cN cF s.heap.size h0 ma sv_thrown sv_length sv_nodes sv_many sv_directories sv_runsFrom sv_runs sv_read sv_wrong sv_isNamed sv_goes sv_goesSize sv_goesAt sv_targetParts sv_isRoot fK fNS fBs fEs x y z (by (try dsimp only); first | assumption | omega | trivial) (by (try dsimp only); first | assumption | omega | trivial) (by (try dsimp only); first | assumption | omega | trivial) (by (try dsimp only); first | assumption | omega | trivial) (by (try dsimp only); first | assumption | omega | trivial)) (cwV 3 hts (lg_goodV k1699 k1701 k72 k125 kc_DiscMakerModel_idSize) rfl rfl rfl (by decide +kernel) ⟨Nat.le_of_ble_eq_true rfl, Nat.le_of_ble_eq_true rfl⟩) ⟨fun a U g mk q => by obtain ⟨q0, q1, qP, qK, qN, qD⟩ := q; exact ⟨q0, q1, qP, va_K.moved (u := U) (U := U.calling g mk a) (Vm.Alike.refl U.vm) qK, qN.calling, qD⟩, va_recv hK hP (ci := 11) (q0 := 0) rfl rfl, fun U hU hW => ⟨rfl, by rw [hU], by rw [hU]; exact hPc, va_K.moved hW.alike hK, NN.warm hW hN, hDc.weaken (fun _ _ _ _ => trivial)⟩⟩ rfl rfl hl.1 rfl (lv_room (Nat.le_of_ble_eq_true rfl)) d_DiscMakerModel_headSize_6 ⟨hkc, hks⟩) hS (fun q _ h => hFc q h) hFc (fun r1 u t H1 locs ht hvm hp_r1 hB hz1 hk1 hS => ?_)
  obtain ⟨hP1, hD1⟩ := hB
  rw [ht] at hP1
  obtain ⟨hP, hD⟩ := va_join (wr := []) (w1 := [(h0, .inr (11, MO ma sv_thrown sv_length sv_nodes sv_many sv_directories sv_runsFrom sv_runs sv_read sv_wrong sv_isNamed sv_goes sv_goesSize sv_goesAt sv_targetParts sv_isRoot)), ((ma 1), .inl (cI, 40, .inl fK)), ((ma 9), .inl (cI, 40, .inl fNS)), ((ma 13), .inl (cI, 40, .inl fBs)), ((ma 15), .inl (cI, 40, .inl fEs))]) hP hD [0, 1, 2, 3, 4] [] rfl rfl (by decide) (by decide) hk1 hFc hP1 hD1
  clear hPc hDc hFc hP1 hD1 hk1 hz1
  generalize H1 = H at hP hS ⊢
  have hP : va_P D CL [(h0, .inr (11, MO ma sv_thrown sv_length sv_nodes sv_many sv_directories sv_runsFrom sv_runs sv_read sv_wrong sv_isNamed sv_goes sv_goesSize sv_goesAt sv_targetParts sv_isRoot)), ((ma 1), .inl (cI, 40, .inl fK)), ((ma 9), .inl (cI, 40, .inl fNS)), ((ma 13), .inl (cI, 40, .inl fBs)), ((ma 15), .inl (cI, 40, .inl fEs))] H := hP
  have hD : va_D A [(h0, .inr (11, MO ma sv_thrown sv_length sv_nodes sv_many sv_directories sv_runsFrom sv_runs sv_read sv_wrong sv_isNamed sv_goes sv_goesSize sv_goesAt sv_targetParts sv_isRoot)), ((ma 1), .inl (cI, 40, .inl fK)), ((ma 9), .inl (cI, 40, .inl fNS)), ((ma 13), .inl (cI, 40, .inl fBs)), ((ma 15), .inl (cI, 40, .inl fEs))] := hD
  try dsimp only at hp_r1
  obtain ⟨hv_2, hr_3⟩ := hp_r1
  refine lv_iadd hx hb d_DiscMakerModel_headSize_9 ?_
  refine lv_topi (fun v4 e_v4 => ?_)
  have t_v4 : v4.toInt = 33 + r1.toInt := by rw [e_v4]; exact i_add (by decide) rfl (by omega) (by omega)
  refine lv_istore hx hb d_DiscMakerModel_headSize_10 hl (by decide) rfl (fun ls hl => ?_)
  have hl : lv_has ls 5 [(4, .int v4), (0, .ref h0), (1, .int x), (2, .int y), (3, .int z)] := hl
  refine lv_iload hx hb d_DiscMakerModel_headSize_12 (lv_at hl 0 rfl) ?_
  refine lv_iload hx hb d_DiscMakerModel_headSize_14 (lv_at hl 0 rfl) ?_
  refine lv_iconst (v := 2) hx hb d_DiscMakerModel_headSize_16 (by decide) ?_
  refine lv_irem hx hb d_DiscMakerModel_headSize_17 (by decide) ?_
  refine lv_topi (fun v5 e_v5 => ?_)
  have t_v5 : v5.toInt = v4.toInt % 2 := by rw [e_v5]; exact i_rem rfl (by decide) (by omega) (by omega)
  refine lv_iadd hx hb d_DiscMakerModel_headSize_18 ?_
  refine lv_topi (fun v6 e_v6 => ?_)
  have t_v6 : v6.toInt = v4.toInt + v5.toInt := by rw [e_v6]; exact i_add rfl rfl (by omega) (by omega)
  have hP9 := hP.sub (ws' := [(h0, .inr (11, MO ma sv_thrown sv_length sv_nodes sv_many sv_directories sv_runsFrom sv_runs sv_read sv_wrong sv_isNamed sv_goes sv_goesSize sv_goesAt sv_targetParts sv_isRoot)), ((ma 1), .inl (cI, 40, .inl fK)), ((ma 9), .inl (cI, 40, .inl fNS)), ((ma 13), .inl (cI, 40, .inl fBs)), ((ma 15), .inl (cI, 40, .inl fEs))]) [0, 1, 2, 3, 4] rfl
  have hD9 := hD.sub (ws' := [(h0, .inr (11, MO ma sv_thrown sv_length sv_nodes sv_many sv_directories sv_runsFrom sv_runs sv_read sv_wrong sv_isNamed sv_goes sv_goesSize sv_goesAt sv_targetParts sv_isRoot)), ((ma 1), .inl (cI, 40, .inl fK)), ((ma 9), .inl (cI, 40, .inl fNS)), ((ma 13), .inl (cI, 40, .inl fBs)), ((ma 15), .inl (cI, 40, .inl fEs))]) [0, 1, 2, 3, 4] (by decide) rfl
  exact W.iret (v := v6) hx hb hr (fun t ht hW => ⟨⟨v6, (), rfl, ⟨(by (try dsimp only); first | assumption | omega | trivial), (by (try dsimp only); first | assumption | omega | trivial)⟩, by rw [ht]; exact hP9, hD9⟩, hS.F ht⟩) hS.2.2 d_DiscMakerModel_headSize_19

theorem d_DiscMakerModel_allParts_0 : decode b_DiscMakerModel_allParts 0 = .ok (.iconst 0, 1) := by decide +kernel
theorem d_DiscMakerModel_allParts_1 : decode b_DiscMakerModel_allParts 1 = .ok (.istore_n 3, 1) := by decide +kernel
theorem d_DiscMakerModel_allParts_2 : decode b_DiscMakerModel_allParts 2 = .ok (.iconst 0, 1) := by decide +kernel
theorem d_DiscMakerModel_allParts_3 : decode b_DiscMakerModel_allParts 3 = .ok (.istore 4, 2) := by decide +kernel
theorem d_DiscMakerModel_allParts_5 : decode b_DiscMakerModel_allParts 5 = .ok (.iload 4, 2) := by decide +kernel
theorem d_DiscMakerModel_allParts_7 : decode b_DiscMakerModel_allParts 7 = .ok (.iconst 4, 1) := by decide +kernel
theorem d_DiscMakerModel_allParts_8 : decode b_DiscMakerModel_allParts 8 = .ok (.if_icmp .ge 20, 3) := by decide +kernel
theorem d_DiscMakerModel_allParts_11 : decode b_DiscMakerModel_allParts 11 = .ok (.iload_n 3, 1) := by decide +kernel
theorem d_DiscMakerModel_allParts_12 : decode b_DiscMakerModel_allParts 12 = .ok (.aload_n 0, 1) := by decide +kernel
theorem d_DiscMakerModel_allParts_13 : decode b_DiscMakerModel_allParts 13 = .ok (.iload 4, 2) := by decide +kernel
theorem d_DiscMakerModel_allParts_15 : decode b_DiscMakerModel_allParts 15 = .ok (.iload_n 1, 1) := by decide +kernel
theorem d_DiscMakerModel_allParts_16 : decode b_DiscMakerModel_allParts 16 = .ok (.iload_n 2, 1) := by decide +kernel
theorem d_DiscMakerModel_allParts_17 : decode b_DiscMakerModel_allParts 17 = .ok (.invokevirtual 213, 3) := by decide +kernel
theorem d_DiscMakerModel_allParts_20 : decode b_DiscMakerModel_allParts 20 = .ok (.iadd, 1) := by decide +kernel
theorem d_DiscMakerModel_allParts_21 : decode b_DiscMakerModel_allParts 21 = .ok (.istore_n 3, 1) := by decide +kernel
theorem d_DiscMakerModel_allParts_22 : decode b_DiscMakerModel_allParts 22 = .ok (.iinc 4 1, 3) := by decide +kernel
theorem d_DiscMakerModel_allParts_25 : decode b_DiscMakerModel_allParts 25 = .ok (.goto (-20), 3) := by decide +kernel
theorem d_DiscMakerModel_allParts_28 : decode b_DiscMakerModel_allParts 28 = .ok (.iload_n 3, 1) := by decide +kernel
theorem d_DiscMakerModel_allParts_29 : decode b_DiscMakerModel_allParts 29 = .ok (.ireturn, 1) := by decide +kernel
set_option maxHeartbeats 4000000 in
set_option maxRecDepth 100000 in
theorem m_allParts (l : Launch) (D : va_G) (cB cI cJ cZ cN cF : ClassId) (sz : Nat) (h0 : Nat) (ma : Nat → Nat) (sv_thrown sv_length sv_nodes sv_many sv_directories sv_runsFrom sv_runs sv_read sv_wrong sv_isNamed sv_goes sv_goesSize sv_goesAt sv_targetParts sv_isRoot : Int32) (F : Nat → Int64) (fK : Nat → Int32) (fNS : Nat → Int32) (fT : Nat → Int32) (fTS : Nat → Int32) (x : Int32) (y : Int32) (hy0 : 0 ≤ y.toInt ∧ y.toInt < 40) (hKi : Rg 0 2 40 fK) (hNS : Rg 0 30 40 fNS) (hTS : Rg 0 200 40 fTS) : Met l y_DiscMakerModel_allParts w_DiscMakerModel_allParts ({ frames := 4, cells := 0, slots := 0, locals := 99 }) (va_Pc [.ref h0, .int x, .int y] (fun U => U.heap.size = sz ∧ va_P D CL [(h0, .inr (11, MO ma sv_thrown sv_length sv_nodes sv_many sv_directories sv_runsFrom sv_runs sv_read sv_wrong sv_isNamed sv_goes sv_goesSize sv_goesAt sv_targetParts sv_isRoot)), ((ma 16), .inl (cJ, 46080, .inr (.inl F))), ((ma 1), .inl (cI, 40, .inl fK)), ((ma 9), .inl (cI, 40, .inl fNS)), ((ma 10), .inl (cB, 8000, .inl fT)), ((ma 11), .inl (cI, 40, .inl fTS))] U.heap ∧ va_K D CL (TY cB cI cJ cZ cN cF) U ∧ NN U ∧ va_D (fun _ => True) [(h0, .inr (11, MO ma sv_thrown sv_length sv_nodes sv_many sv_directories sv_runsFrom sv_runs sv_read sv_wrong sv_isNamed sv_goes sv_goesSize sv_goesAt sv_targetParts sv_isRoot)), ((ma 16), .inl (cJ, 46080, .inr (.inl F))), ((ma 1), .inl (cI, 40, .inl fK)), ((ma 9), .inl (cI, 40, .inl fNS)), ((ma 10), .inl (cB, 8000, .inl fT)), ((ma 11), .inl (cI, 40, .inl fTS))])) (va_Qi (fun (r : Int32) (u : (Nat → Int64)) => match u with | G => (r.toInt = psF fK fNS fT fTS 0 x.toInt y.toNatClampNeg + psF fK fNS fT fTS 1 x.toInt y.toNatClampNeg + psF fK fNS fT fTS 2 x.toInt y.toNatClampNeg + psF fK fNS fT fTS 3 x.toInt y.toNatClampNeg) ∧ (0 ≤ r.toInt ∧ r.toInt ≤ 1232)) (fun (u : (Nat → Int64)) (t : State) => match u with | G => va_P D CL [(h0, .inr (11, MO ma sv_thrown sv_length sv_nodes sv_many sv_directories sv_runsFrom sv_runs sv_read sv_wrong sv_isNamed sv_goes sv_goesSize sv_goesAt sv_targetParts sv_isRoot)), ((ma 16), .inl (cJ, 46080, .inr (.inl G))), ((ma 1), .inl (cI, 40, .inl fK)), ((ma 9), .inl (cI, 40, .inl fNS)), ((ma 10), .inl (cB, 8000, .inl fT)), ((ma 11), .inl (cI, 40, .inl fTS))] t.heap ∧ va_D (va_A [(h0, .inr (11, MO ma sv_thrown sv_length sv_nodes sv_many sv_directories sv_runsFrom sv_runs sv_read sv_wrong sv_isNamed sv_goes sv_goesSize sv_goesAt sv_targetParts sv_isRoot)), ((ma 16), .inl (cJ, 46080, .inr (.inl F))), ((ma 1), .inl (cI, 40, .inl fK)), ((ma 9), .inl (cI, 40, .inl fNS)), ((ma 10), .inl (cB, 8000, .inl fT)), ((ma 11), .inl (cI, 40, .inl fTS))] sz) [(h0, .inr (11, MO ma sv_thrown sv_length sv_nodes sv_many sv_directories sv_runsFrom sv_runs sv_read sv_wrong sv_isNamed sv_goes sv_goesSize sv_goesAt sv_targetParts sv_isRoot)), ((ma 16), .inl (cJ, 46080, .inr (.inl G))), ((ma 1), .inl (cI, 40, .inl fK)), ((ma 9), .inl (cI, 40, .inl fNS)), ((ma 10), .inl (cB, 8000, .inl fT)), ((ma 11), .inl (cI, 40, .inl fTS))]) (va_A [(h0, .inr (11, MO ma sv_thrown sv_length sv_nodes sv_many sv_directories sv_runsFrom sv_runs sv_read sv_wrong sv_isNamed sv_goes sv_goesSize sv_goesAt sv_targetParts sv_isRoot)), ((ma 16), .inl (cJ, 46080, .inr (.inl F))), ((ma 1), .inl (cI, 40, .inl fK)), ((ma 9), .inl (cI, 40, .inl fNS)), ((ma 10), .inl (cB, 8000, .inl fT)), ((ma 11), .inl (cI, 40, .inl fTS))] sz)) 0 0 (va_A [(h0, .inr (11, MO ma sv_thrown sv_length sv_nodes sv_many sv_directories sv_runsFrom sv_runs sv_read sv_wrong sv_isNamed sv_goes sv_goesSize sv_goesAt sv_targetParts sv_isRoot)), ((ma 16), .inl (cJ, 46080, .inr (.inl F))), ((ma 1), .inl (cI, 40, .inl fK)), ((ma 9), .inl (cI, 40, .inl fNS)), ((ma 10), .inl (cB, 8000, .inl fT)), ((ma 11), .inl (cI, 40, .inl fTS))] sz) := by
  refine Met.ofW (cc := b_DiscMakerModel_allParts) (maxL := 5) (ret := some .int) (by decide) rfl ?_
  intro p e s m args below meth c s₁ B hml hv
  obtain ⟨rfl, hsz, hP, hK, hN, hD0⟩ := hv
  have hx := B.exec
  have hb := B.bytes
  have hr := B.returns
  have hts := atoms_spec (ws := w_DiscMakerModel_allParts) B.pre
  have ht9 := fun (w : Cond) (h : w ∈ lw_g) => hts w (List.mem_cons_of_mem _ h)
  have hown : s.vm.findClass "DiscMakerModel" = some m.cls := findClass_of_methodNamed B.named
  have hlocks := B.notSynchronized
  subst hsz
  have hD := hD0.self (sz := s.heap.size)
  generalize hAe : va_A [(h0, .inr (11, MO ma sv_thrown sv_length sv_nodes sv_many sv_directories sv_runsFrom sv_runs sv_read sv_wrong sv_isNamed sv_goes sv_goesSize sv_goesAt sv_targetParts sv_isRoot)), ((ma 16), .inl (cJ, 46080, .inr (.inl F))), ((ma 1), .inl (cI, 40, .inl fK)), ((ma 9), .inl (cI, 40, .inl fNS)), ((ma 10), .inl (cB, 8000, .inl fT)), ((ma 11), .inl (cI, 40, .inl fTS))] s.heap.size = A at hD ⊢
  have hA : ∀ q : Nat, s.heap.size ≤ q → A q := fun q h => by rw [← hAe]; exact Or.inr h
  have hS : va_S A s.heap s.heap [] := va_S.rf
  have hP : va_P D CL [(h0, .inr (11, MO ma sv_thrown sv_length sv_nodes sv_many sv_directories sv_runsFrom sv_runs sv_read sv_wrong sv_isNamed sv_goes sv_goesSize sv_goesAt sv_targetParts sv_isRoot)), ((ma 16), .inl (cJ, 46080, .inr (.inl F))), ((ma 1), .inl (cI, 40, .inl fK)), ((ma 9), .inl (cI, 40, .inl fNS)), ((ma 10), .inl (cB, 8000, .inl fT)), ((ma 11), .inl (cI, 40, .inl fTS))] s.heap := hP
  have hl := lv_entry [.ref h0, .int x, .int y] (n := 5) (Nat.le_of_ble_eq_true rfl)
  rw [lg_entry_eq]
  generalize (lg_sl [.ref h0, .int x, .int y] ++ List.replicate (5 - (lg_sl [.ref h0, .int x, .int y]).length) Slot.unset).toArray = ls at hl ⊢
  have hl : lv_has ls 5 [(0, .ref h0), (1, .int x), (2, .int y)] := hl
  have L_m1 : ((-1) : Int32).toInt = (-1) := by decide
  have L_0 : (0 : Int32).toInt = 0 := by decide
  have L_1 : (1 : Int32).toInt = 1 := by decide
  have L_4 : (4 : Int32).toInt = 4 := by decide
  refine lv_iconst (v := 0) hx hb d_DiscMakerModel_allParts_0 (by decide) ?_
  refine lv_istore_n hx hb d_DiscMakerModel_allParts_1 rfl hl (by decide) rfl (fun ls hl => ?_)
  have hl : lv_has ls 5 [(3, .int 0), (0, .ref h0), (1, .int x), (2, .int y)] := hl
  refine lv_iconst (v := 0) hx hb d_DiscMakerModel_allParts_2 (by decide) ?_
  refine lv_istore hx hb d_DiscMakerModel_allParts_3 hl (by decide) rfl (fun ls hl => ?_)
  have hl : lv_has ls 5 [(4, .int 0), (3, .int 0), (0, .ref h0), (1, .int x), (2, .int y)] := hl
  refine lv_iload hx hb d_DiscMakerModel_allParts_5 (lv_at hl 0 rfl) ?_
  refine lv_iconst (v := 4) hx hb d_DiscMakerModel_allParts_7 (by decide) ?_
  refine lv_icmp_ge (tgt := 28) hx hb d_DiscMakerModel_allParts_8 (by decide) (fun h_9 => absurd h_9 (by decide)) (fun _ => ?_)
  refine lv_iload_n hx hb d_DiscMakerModel_allParts_11 rfl (lv_at hl 1 rfl) ?_
  refine lv_aload_n hx hb d_DiscMakerModel_allParts_12 rfl (lv_at hl 2 rfl) ?_
  refine lv_iload hx hb d_DiscMakerModel_allParts_13 (lv_at hl 0 rfl) ?_
  refine lv_iload_n hx hb d_DiscMakerModel_allParts_15 rfl (lv_at hl 3 rfl) ?_
  refine lv_iload_n hx hb d_DiscMakerModel_allParts_16 rfl (lv_at hl 4 rfl) ?_
  have hPc := hP.sub (ws' := [(h0, .inr (11, MO ma sv_thrown sv_length sv_nodes sv_many sv_directories sv_runsFrom sv_runs sv_read sv_wrong sv_isNamed sv_goes sv_goesSize sv_goesAt sv_targetParts sv_isRoot)), ((ma 16), .inl (cJ, 46080, .inr (.inl F))), ((ma 1), .inl (cI, 40, .inl fK)), ((ma 9), .inl (cI, 40, .inl fNS)), ((ma 10), .inl (cB, 8000, .inl fT)), ((ma 11), .inl (cI, 40, .inl fTS))]) [0, 1, 2, 3, 4, 5] rfl
  have hDc := hD.sub (ws' := [(h0, .inr (11, MO ma sv_thrown sv_length sv_nodes sv_many sv_directories sv_runsFrom sv_runs sv_read sv_wrong sv_isNamed sv_goes sv_goesSize sv_goesAt sv_targetParts sv_isRoot)), ((ma 16), .inl (cJ, 46080, .inr (.inl F))), ((ma 1), .inl (cI, 40, .inl fK)), ((ma 9), .inl (cI, 40, .inl fNS)), ((ma 10), .inl (cB, 8000, .inl fT)), ((ma 11), .inl (cI, 40, .inl fTS))]) [0, 1, 2, 3, 4, 5] (by decide) rfl
  have hFc := va_free (wc := [(h0, .inr (11, MO ma sv_thrown sv_length sv_nodes sv_many sv_directories sv_runsFrom sv_runs sv_read sv_wrong sv_isNamed sv_goes sv_goesSize sv_goesAt sv_targetParts sv_isRoot)), ((ma 16), .inl (cJ, 46080, .inr (.inl F))), ((ma 1), .inl (cI, 40, .inl fK)), ((ma 9), .inl (cI, 40, .inl fNS)), ((ma 10), .inl (cB, 8000, .inl fT)), ((ma 11), .inl (cI, 40, .inl fTS))]) hD hS hA [0, 1, 2, 3, 4, 5] rfl
  have hkc : 0 ≤ 0 := by decide
  have hks : 0 ≤ 0 := by decide
  refine va_calli (va_runV (C := "DiscMakerModel") (As := [.int 0, .int x, .int y]) (rest := [.int 0]) ⟨hx, hb, hml, hown, hts⟩ (m_partSize l D cB cI cJ cZ cN cF s.heap.size h0 ma sv_thrown sv_length sv_nodes sv_many sv_directories sv_runsFrom sv_runs sv_read sv_wrong sv_isNamed sv_goes sv_goesSize sv_goesAt sv_targetParts sv_isRoot F fK fNS fT fTS 0 x y (by (try dsimp only); first | assumption | omega | trivial) (by (try dsimp only); first | assumption | omega | trivial) (by (try dsimp only); first | assumption | omega | trivial) (by (try dsimp only); first | assumption | omega | trivial) (by (try dsimp only); first | assumption | omega | trivial)) (cwV 3 hts (lg_goodV k1715 k1717 k76 k125 kc_DiscMakerModel_partSize) rfl rfl rfl (by decide +kernel) ⟨Nat.le_of_ble_eq_true rfl, Nat.le_of_ble_eq_true rfl⟩) ⟨fun a U g mk q => by obtain ⟨q0, q1, qP, qK, qN, qD⟩ := q; exact ⟨q0, q1, qP, va_K.moved (u := U) (U := U.calling g mk a) (Vm.Alike.refl U.vm) qK, qN.calling, qD⟩, va_recv hK hP (ci := 11) (q0 := 0) rfl rfl, fun U hU hW => ⟨rfl, by rw [hU], by rw [hU]; exact hPc, va_K.moved hW.alike hK, NN.warm hW hN, hDc.weaken (fun _ _ _ _ => trivial)⟩⟩ rfl rfl hl.1 rfl (lv_room (Nat.le_of_ble_eq_true rfl)) d_DiscMakerModel_allParts_17 ⟨hkc, hks⟩) hS (fun q _ h => hFc q h) hFc (fun r1 u t H1 locs ht hvm hp_r1 hB hz1 hk1 hS => ?_)
  obtain ⟨G_2, rfl⟩ : ∃ z, z = u := ⟨_, rfl⟩
  obtain ⟨hP1, hD1⟩ := hB
  rw [ht] at hP1
  obtain ⟨hP, hD⟩ := va_join (wr := []) (w1 := [(h0, .inr (11, MO ma sv_thrown sv_length sv_nodes sv_many sv_directories sv_runsFrom sv_runs sv_read sv_wrong sv_isNamed sv_goes sv_goesSize sv_goesAt sv_targetParts sv_isRoot)), ((ma 16), .inl (cJ, 46080, .inr (.inl G_2))), ((ma 1), .inl (cI, 40, .inl fK)), ((ma 9), .inl (cI, 40, .inl fNS)), ((ma 10), .inl (cB, 8000, .inl fT)), ((ma 11), .inl (cI, 40, .inl fTS))]) hP hD [0, 1, 2, 3, 4, 5] [] rfl rfl (by decide) (by decide) hk1 hFc hP1 hD1
  clear hPc hDc hFc hP1 hD1 hk1 hz1
  generalize H1 = H at hP hS ⊢
  have hP : va_P D CL [(h0, .inr (11, MO ma sv_thrown sv_length sv_nodes sv_many sv_directories sv_runsFrom sv_runs sv_read sv_wrong sv_isNamed sv_goes sv_goesSize sv_goesAt sv_targetParts sv_isRoot)), ((ma 16), .inl (cJ, 46080, .inr (.inl G_2))), ((ma 1), .inl (cI, 40, .inl fK)), ((ma 9), .inl (cI, 40, .inl fNS)), ((ma 10), .inl (cB, 8000, .inl fT)), ((ma 11), .inl (cI, 40, .inl fTS))] H := hP
  have hD : va_D A [(h0, .inr (11, MO ma sv_thrown sv_length sv_nodes sv_many sv_directories sv_runsFrom sv_runs sv_read sv_wrong sv_isNamed sv_goes sv_goesSize sv_goesAt sv_targetParts sv_isRoot)), ((ma 16), .inl (cJ, 46080, .inr (.inl G_2))), ((ma 1), .inl (cI, 40, .inl fK)), ((ma 9), .inl (cI, 40, .inl fNS)), ((ma 10), .inl (cB, 8000, .inl fT)), ((ma 11), .inl (cI, 40, .inl fTS))] := hD
  try dsimp only at hp_r1
  obtain ⟨hv_3, hr_4⟩ := hp_r1
  try rw [L_0] at hv_3
  refine lv_iadd hx hb d_DiscMakerModel_allParts_20 ?_
  refine lv_topi (fun v5 e_v5 => ?_)
  have t_v5 : v5.toInt = 0 + r1.toInt := by rw [e_v5]; exact i_add (by decide) rfl (by omega) (by omega)
  refine lv_istore_n hx hb d_DiscMakerModel_allParts_21 rfl hl (by decide) rfl (fun ls hl => ?_)
  have hl : lv_has ls 5 [(3, .int v5), (4, .int 0), (0, .ref h0), (1, .int x), (2, .int y)] := hl
  refine lv_iinc (v := 1) hx hb d_DiscMakerModel_allParts_22 hl (k := 1) rfl (by decide) (by decide) rfl (fun ls hl => ?_)
  have hl : lv_has ls 5 [(4, .int 1), (3, .int v5), (0, .ref h0), (1, .int x), (2, .int y)] := hl
  refine lv_goto (tgt := 5) hx hb d_DiscMakerModel_allParts_25 (by decide) ?_
  refine lv_iload hx hb d_DiscMakerModel_allParts_5 (lv_at hl 0 rfl) ?_
  refine lv_iconst (v := 4) hx hb d_DiscMakerModel_allParts_7 (by decide) ?_
  refine lv_icmp_ge (tgt := 28) hx hb d_DiscMakerModel_allParts_8 (by decide) (fun h_9 => absurd h_9 (by decide)) (fun _ => ?_)
  refine lv_iload_n hx hb d_DiscMakerModel_allParts_11 rfl (lv_at hl 1 rfl) ?_
  refine lv_aload_n hx hb d_DiscMakerModel_allParts_12 rfl (lv_at hl 2 rfl) ?_
  refine lv_iload hx hb d_DiscMakerModel_allParts_13 (lv_at hl 0 rfl) ?_
  refine lv_iload_n hx hb d_DiscMakerModel_allParts_15 rfl (lv_at hl 3 rfl) ?_
  refine lv_iload_n hx hb d_DiscMakerModel_allParts_16 rfl (lv_at hl 4 rfl) ?_
  have hPc := hP.sub (ws' := [(h0, .inr (11, MO ma sv_thrown sv_length sv_nodes sv_many sv_directories sv_runsFrom sv_runs sv_read sv_wrong sv_isNamed sv_goes sv_goesSize sv_goesAt sv_targetParts sv_isRoot)), ((ma 16), .inl (cJ, 46080, .inr (.inl G_2))), ((ma 1), .inl (cI, 40, .inl fK)), ((ma 9), .inl (cI, 40, .inl fNS)), ((ma 10), .inl (cB, 8000, .inl fT)), ((ma 11), .inl (cI, 40, .inl fTS))]) [0, 1, 2, 3, 4, 5] rfl
  have hDc := hD.sub (ws' := [(h0, .inr (11, MO ma sv_thrown sv_length sv_nodes sv_many sv_directories sv_runsFrom sv_runs sv_read sv_wrong sv_isNamed sv_goes sv_goesSize sv_goesAt sv_targetParts sv_isRoot)), ((ma 16), .inl (cJ, 46080, .inr (.inl G_2))), ((ma 1), .inl (cI, 40, .inl fK)), ((ma 9), .inl (cI, 40, .inl fNS)), ((ma 10), .inl (cB, 8000, .inl fT)), ((ma 11), .inl (cI, 40, .inl fTS))]) [0, 1, 2, 3, 4, 5] (by decide) rfl
  have hFc := va_free (wc := [(h0, .inr (11, MO ma sv_thrown sv_length sv_nodes sv_many sv_directories sv_runsFrom sv_runs sv_read sv_wrong sv_isNamed sv_goes sv_goesSize sv_goesAt sv_targetParts sv_isRoot)), ((ma 16), .inl (cJ, 46080, .inr (.inl G_2))), ((ma 1), .inl (cI, 40, .inl fK)), ((ma 9), .inl (cI, 40, .inl fNS)), ((ma 10), .inl (cB, 8000, .inl fT)), ((ma 11), .inl (cI, 40, .inl fTS))]) hD hS hA [0, 1, 2, 3, 4, 5] rfl
  have hkc : 0 ≤ 0 := by decide
  have hks : 0 ≤ 0 := by decide
  refine va_calli (va_runV (C := "DiscMakerModel") (As := [.int 1, .int x, .int y]) (rest := [.int v5]) ⟨hx, hb, hml, hown, hts⟩ (m_partSize l D cB cI cJ cZ cN cF H.size h0 ma sv_thrown sv_length sv_nodes sv_many sv_directories sv_runsFrom sv_runs sv_read sv_wrong sv_isNamed sv_goes sv_goesSize sv_goesAt sv_targetParts sv_isRoot G_2 fK fNS fT fTS 1 x y (by (try dsimp only); first | assumption | omega | trivial) (by (try dsimp only); first | assumption | omega | trivial) (by (try dsimp only); first | assumption | omega | trivial) (by (try dsimp only); first | assumption | omega | trivial) (by (try dsimp only); first | assumption | omega | trivial)) (cwV 3 hts (lg_goodV k1715 k1717 k76 k125 kc_DiscMakerModel_partSize) rfl rfl rfl (by decide +kernel) ⟨Nat.le_of_ble_eq_true rfl, Nat.le_of_ble_eq_true rfl⟩) ⟨fun a U g mk q => by obtain ⟨q0, q1, qP, qK, qN, qD⟩ := q; exact ⟨q0, q1, qP, va_K.moved (u := U) (U := U.calling g mk a) (Vm.Alike.refl U.vm) qK, qN.calling, qD⟩, va_recv hK hP (ci := 11) (q0 := 0) rfl rfl, fun U hU hW => ⟨rfl, by rw [hU], by rw [hU]; exact hPc, va_K.moved hW.alike hK, NN.warm hW hN, hDc.weaken (fun _ _ _ _ => trivial)⟩⟩ rfl rfl hl.1 rfl (lv_room (Nat.le_of_ble_eq_true rfl)) d_DiscMakerModel_allParts_17 ⟨hkc, hks⟩) hS (fun q _ h => hFc q h) hFc (fun r6 u t H1 locs ht hvm hp_r6 hB hz1 hk1 hS => ?_)
  obtain ⟨G_7, rfl⟩ : ∃ z, z = u := ⟨_, rfl⟩
  obtain ⟨hP1, hD1⟩ := hB
  rw [ht] at hP1
  obtain ⟨hP, hD⟩ := va_join (wr := []) (w1 := [(h0, .inr (11, MO ma sv_thrown sv_length sv_nodes sv_many sv_directories sv_runsFrom sv_runs sv_read sv_wrong sv_isNamed sv_goes sv_goesSize sv_goesAt sv_targetParts sv_isRoot)), ((ma 16), .inl (cJ, 46080, .inr (.inl G_7))), ((ma 1), .inl (cI, 40, .inl fK)), ((ma 9), .inl (cI, 40, .inl fNS)), ((ma 10), .inl (cB, 8000, .inl fT)), ((ma 11), .inl (cI, 40, .inl fTS))]) hP hD [0, 1, 2, 3, 4, 5] [] rfl rfl (by decide) (by decide) hk1 hFc hP1 hD1
  clear hPc hDc hFc hP1 hD1 hk1 hz1
  generalize H1 = H at hP hS ⊢
  have hP : va_P D CL [(h0, .inr (11, MO ma sv_thrown sv_length sv_nodes sv_many sv_directories sv_runsFrom sv_runs sv_read sv_wrong sv_isNamed sv_goes sv_goesSize sv_goesAt sv_targetParts sv_isRoot)), ((ma 16), .inl (cJ, 46080, .inr (.inl G_7))), ((ma 1), .inl (cI, 40, .inl fK)), ((ma 9), .inl (cI, 40, .inl fNS)), ((ma 10), .inl (cB, 8000, .inl fT)), ((ma 11), .inl (cI, 40, .inl fTS))] H := hP
  have hD : va_D A [(h0, .inr (11, MO ma sv_thrown sv_length sv_nodes sv_many sv_directories sv_runsFrom sv_runs sv_read sv_wrong sv_isNamed sv_goes sv_goesSize sv_goesAt sv_targetParts sv_isRoot)), ((ma 16), .inl (cJ, 46080, .inr (.inl G_7))), ((ma 1), .inl (cI, 40, .inl fK)), ((ma 9), .inl (cI, 40, .inl fNS)), ((ma 10), .inl (cB, 8000, .inl fT)), ((ma 11), .inl (cI, 40, .inl fTS))] := hD
  try dsimp only at hp_r6
  obtain ⟨hv_8, hr_9⟩ := hp_r6
  try rw [L_1] at hv_8
  refine lv_iadd hx hb d_DiscMakerModel_allParts_20 ?_
  refine lv_topi (fun v10 e_v10 => ?_)
  have t_v10 : v10.toInt = v5.toInt + r6.toInt := by rw [e_v10]; exact i_add rfl rfl (by omega) (by omega)
  refine lv_istore_n hx hb d_DiscMakerModel_allParts_21 rfl hl (by decide) rfl (fun ls hl => ?_)
  have hl : lv_has ls 5 [(3, .int v10), (4, .int 1), (0, .ref h0), (1, .int x), (2, .int y)] := hl
  refine lv_iinc (v := 2) hx hb d_DiscMakerModel_allParts_22 hl (k := 1) rfl (by decide) (by decide) rfl (fun ls hl => ?_)
  have L_2 : (2 : Int32).toInt = 2 := by decide
  have hl : lv_has ls 5 [(4, .int 2), (3, .int v10), (0, .ref h0), (1, .int x), (2, .int y)] := hl
  refine lv_goto (tgt := 5) hx hb d_DiscMakerModel_allParts_25 (by decide) ?_
  refine lv_iload hx hb d_DiscMakerModel_allParts_5 (lv_at hl 0 rfl) ?_
  refine lv_iconst (v := 4) hx hb d_DiscMakerModel_allParts_7 (by decide) ?_
  refine lv_icmp_ge (tgt := 28) hx hb d_DiscMakerModel_allParts_8 (by decide) (fun h_9 => absurd h_9 (by decide)) (fun _ => ?_)
  refine lv_iload_n hx hb d_DiscMakerModel_allParts_11 rfl (lv_at hl 1 rfl) ?_
  refine lv_aload_n hx hb d_DiscMakerModel_allParts_12 rfl (lv_at hl 2 rfl) ?_
  refine lv_iload hx hb d_DiscMakerModel_allParts_13 (lv_at hl 0 rfl) ?_
  refine lv_iload_n hx hb d_DiscMakerModel_allParts_15 rfl (lv_at hl 3 rfl) ?_
  refine lv_iload_n hx hb d_DiscMakerModel_allParts_16 rfl (lv_at hl 4 rfl) ?_
  have hPc := hP.sub (ws' := [(h0, .inr (11, MO ma sv_thrown sv_length sv_nodes sv_many sv_directories sv_runsFrom sv_runs sv_read sv_wrong sv_isNamed sv_goes sv_goesSize sv_goesAt sv_targetParts sv_isRoot)), ((ma 16), .inl (cJ, 46080, .inr (.inl G_7))), ((ma 1), .inl (cI, 40, .inl fK)), ((ma 9), .inl (cI, 40, .inl fNS)), ((ma 10), .inl (cB, 8000, .inl fT)), ((ma 11), .inl (cI, 40, .inl fTS))]) [0, 1, 2, 3, 4, 5] rfl
  have hDc := hD.sub (ws' := [(h0, .inr (11, MO ma sv_thrown sv_length sv_nodes sv_many sv_directories sv_runsFrom sv_runs sv_read sv_wrong sv_isNamed sv_goes sv_goesSize sv_goesAt sv_targetParts sv_isRoot)), ((ma 16), .inl (cJ, 46080, .inr (.inl G_7))), ((ma 1), .inl (cI, 40, .inl fK)), ((ma 9), .inl (cI, 40, .inl fNS)), ((ma 10), .inl (cB, 8000, .inl fT)), ((ma 11), .inl (cI, 40, .inl fTS))]) [0, 1, 2, 3, 4, 5] (by decide) rfl
  have hFc := va_free (wc := [(h0, .inr (11, MO ma sv_thrown sv_length sv_nodes sv_many sv_directories sv_runsFrom sv_runs sv_read sv_wrong sv_isNamed sv_goes sv_goesSize sv_goesAt sv_targetParts sv_isRoot)), ((ma 16), .inl (cJ, 46080, .inr (.inl G_7))), ((ma 1), .inl (cI, 40, .inl fK)), ((ma 9), .inl (cI, 40, .inl fNS)), ((ma 10), .inl (cB, 8000, .inl fT)), ((ma 11), .inl (cI, 40, .inl fTS))]) hD hS hA [0, 1, 2, 3, 4, 5] rfl
  have hkc : 0 ≤ 0 := by decide
  have hks : 0 ≤ 0 := by decide
  refine va_calli (va_runV (C := "DiscMakerModel") (As := [.int 2, .int x, .int y]) (rest := [.int v10]) ⟨hx, hb, hml, hown, hts⟩ (m_partSize l D cB cI cJ cZ cN cF H.size h0 ma sv_thrown sv_length sv_nodes sv_many sv_directories sv_runsFrom sv_runs sv_read sv_wrong sv_isNamed sv_goes sv_goesSize sv_goesAt sv_targetParts sv_isRoot G_7 fK fNS fT fTS 2 x y (by (try dsimp only); first | assumption | omega | trivial) (by (try dsimp only); first | assumption | omega | trivial) (by (try dsimp only); first | assumption | omega | trivial) (by (try dsimp only); first | assumption | omega | trivial) (by (try dsimp only); first | assumption | omega | trivial)) (cwV 3 hts (lg_goodV k1715 k1717 k76 k125 kc_DiscMakerModel_partSize) rfl rfl rfl (by decide +kernel) ⟨Nat.le_of_ble_eq_true rfl, Nat.le_of_ble_eq_true rfl⟩) ⟨fun a U g mk q => by obtain ⟨q0, q1, qP, qK, qN, qD⟩ := q; exact ⟨q0, q1, qP, va_K.moved (u := U) (U := U.calling g mk a) (Vm.Alike.refl U.vm) qK, qN.calling, qD⟩, va_recv hK hP (ci := 11) (q0 := 0) rfl rfl, fun U hU hW => ⟨rfl, by rw [hU], by rw [hU]; exact hPc, va_K.moved hW.alike hK, NN.warm hW hN, hDc.weaken (fun _ _ _ _ => trivial)⟩⟩ rfl rfl hl.1 rfl (lv_room (Nat.le_of_ble_eq_true rfl)) d_DiscMakerModel_allParts_17 ⟨hkc, hks⟩) hS (fun q _ h => hFc q h) hFc (fun r11 u t H1 locs ht hvm hp_r11 hB hz1 hk1 hS => ?_)
  obtain ⟨G_12, rfl⟩ : ∃ z, z = u := ⟨_, rfl⟩
  obtain ⟨hP1, hD1⟩ := hB
  rw [ht] at hP1
  obtain ⟨hP, hD⟩ := va_join (wr := []) (w1 := [(h0, .inr (11, MO ma sv_thrown sv_length sv_nodes sv_many sv_directories sv_runsFrom sv_runs sv_read sv_wrong sv_isNamed sv_goes sv_goesSize sv_goesAt sv_targetParts sv_isRoot)), ((ma 16), .inl (cJ, 46080, .inr (.inl G_12))), ((ma 1), .inl (cI, 40, .inl fK)), ((ma 9), .inl (cI, 40, .inl fNS)), ((ma 10), .inl (cB, 8000, .inl fT)), ((ma 11), .inl (cI, 40, .inl fTS))]) hP hD [0, 1, 2, 3, 4, 5] [] rfl rfl (by decide) (by decide) hk1 hFc hP1 hD1
  clear hPc hDc hFc hP1 hD1 hk1 hz1
  generalize H1 = H at hP hS ⊢
  have hP : va_P D CL [(h0, .inr (11, MO ma sv_thrown sv_length sv_nodes sv_many sv_directories sv_runsFrom sv_runs sv_read sv_wrong sv_isNamed sv_goes sv_goesSize sv_goesAt sv_targetParts sv_isRoot)), ((ma 16), .inl (cJ, 46080, .inr (.inl G_12))), ((ma 1), .inl (cI, 40, .inl fK)), ((ma 9), .inl (cI, 40, .inl fNS)), ((ma 10), .inl (cB, 8000, .inl fT)), ((ma 11), .inl (cI, 40, .inl fTS))] H := hP
  have hD : va_D A [(h0, .inr (11, MO ma sv_thrown sv_length sv_nodes sv_many sv_directories sv_runsFrom sv_runs sv_read sv_wrong sv_isNamed sv_goes sv_goesSize sv_goesAt sv_targetParts sv_isRoot)), ((ma 16), .inl (cJ, 46080, .inr (.inl G_12))), ((ma 1), .inl (cI, 40, .inl fK)), ((ma 9), .inl (cI, 40, .inl fNS)), ((ma 10), .inl (cB, 8000, .inl fT)), ((ma 11), .inl (cI, 40, .inl fTS))] := hD
  try dsimp only at hp_r11
  obtain ⟨hv_13, hr_14⟩ := hp_r11
  try rw [L_2] at hv_13
  refine lv_iadd hx hb d_DiscMakerModel_allParts_20 ?_
  refine lv_topi (fun v15 e_v15 => ?_)
  have t_v15 : v15.toInt = v10.toInt + r11.toInt := by rw [e_v15]; exact i_add rfl rfl (by omega) (by omega)
  refine lv_istore_n hx hb d_DiscMakerModel_allParts_21 rfl hl (by decide) rfl (fun ls hl => ?_)
  have hl : lv_has ls 5 [(3, .int v15), (4, .int 2), (0, .ref h0), (1, .int x), (2, .int y)] := hl
  refine lv_iinc (v := 3) hx hb d_DiscMakerModel_allParts_22 hl (k := 1) rfl (by decide) (by decide) rfl (fun ls hl => ?_)
  have L_3 : (3 : Int32).toInt = 3 := by decide
  have hl : lv_has ls 5 [(4, .int 3), (3, .int v15), (0, .ref h0), (1, .int x), (2, .int y)] := hl
  refine lv_goto (tgt := 5) hx hb d_DiscMakerModel_allParts_25 (by decide) ?_
  refine lv_iload hx hb d_DiscMakerModel_allParts_5 (lv_at hl 0 rfl) ?_
  refine lv_iconst (v := 4) hx hb d_DiscMakerModel_allParts_7 (by decide) ?_
  refine lv_icmp_ge (tgt := 28) hx hb d_DiscMakerModel_allParts_8 (by decide) (fun h_9 => absurd h_9 (by decide)) (fun _ => ?_)
  refine lv_iload_n hx hb d_DiscMakerModel_allParts_11 rfl (lv_at hl 1 rfl) ?_
  refine lv_aload_n hx hb d_DiscMakerModel_allParts_12 rfl (lv_at hl 2 rfl) ?_
  refine lv_iload hx hb d_DiscMakerModel_allParts_13 (lv_at hl 0 rfl) ?_
  refine lv_iload_n hx hb d_DiscMakerModel_allParts_15 rfl (lv_at hl 3 rfl) ?_
  refine lv_iload_n hx hb d_DiscMakerModel_allParts_16 rfl (lv_at hl 4 rfl) ?_
  have hPc := hP.sub (ws' := [(h0, .inr (11, MO ma sv_thrown sv_length sv_nodes sv_many sv_directories sv_runsFrom sv_runs sv_read sv_wrong sv_isNamed sv_goes sv_goesSize sv_goesAt sv_targetParts sv_isRoot)), ((ma 16), .inl (cJ, 46080, .inr (.inl G_12))), ((ma 1), .inl (cI, 40, .inl fK)), ((ma 9), .inl (cI, 40, .inl fNS)), ((ma 10), .inl (cB, 8000, .inl fT)), ((ma 11), .inl (cI, 40, .inl fTS))]) [0, 1, 2, 3, 4, 5] rfl
  have hDc := hD.sub (ws' := [(h0, .inr (11, MO ma sv_thrown sv_length sv_nodes sv_many sv_directories sv_runsFrom sv_runs sv_read sv_wrong sv_isNamed sv_goes sv_goesSize sv_goesAt sv_targetParts sv_isRoot)), ((ma 16), .inl (cJ, 46080, .inr (.inl G_12))), ((ma 1), .inl (cI, 40, .inl fK)), ((ma 9), .inl (cI, 40, .inl fNS)), ((ma 10), .inl (cB, 8000, .inl fT)), ((ma 11), .inl (cI, 40, .inl fTS))]) [0, 1, 2, 3, 4, 5] (by decide) rfl
  have hFc := va_free (wc := [(h0, .inr (11, MO ma sv_thrown sv_length sv_nodes sv_many sv_directories sv_runsFrom sv_runs sv_read sv_wrong sv_isNamed sv_goes sv_goesSize sv_goesAt sv_targetParts sv_isRoot)), ((ma 16), .inl (cJ, 46080, .inr (.inl G_12))), ((ma 1), .inl (cI, 40, .inl fK)), ((ma 9), .inl (cI, 40, .inl fNS)), ((ma 10), .inl (cB, 8000, .inl fT)), ((ma 11), .inl (cI, 40, .inl fTS))]) hD hS hA [0, 1, 2, 3, 4, 5] rfl
  have hkc : 0 ≤ 0 := by decide
  have hks : 0 ≤ 0 := by decide
  refine va_calli (va_runV (C := "DiscMakerModel") (As := [.int 3, .int x, .int y]) (rest := [.int v15]) ⟨hx, hb, hml, hown, hts⟩ (m_partSize l D cB cI cJ cZ cN cF H.size h0 ma sv_thrown sv_length sv_nodes sv_many sv_directories sv_runsFrom sv_runs sv_read sv_wrong sv_isNamed sv_goes sv_goesSize sv_goesAt sv_targetParts sv_isRoot G_12 fK fNS fT fTS 3 x y (by (try dsimp only); first | assumption | omega | trivial) (by (try dsimp only); first | assumption | omega | trivial) (by (try dsimp only); first | assumption | omega | trivial) (by (try dsimp only); first | assumption | omega | trivial) (by (try dsimp only); first | assumption | omega | trivial)) (cwV 3 hts (lg_goodV k1715 k1717 k76 k125 kc_DiscMakerModel_partSize) rfl rfl rfl (by decide +kernel) ⟨Nat.le_of_ble_eq_true rfl, Nat.le_of_ble_eq_true rfl⟩) ⟨fun a U g mk q => by obtain ⟨q0, q1, qP, qK, qN, qD⟩ := q; exact ⟨q0, q1, qP, va_K.moved (u := U) (U := U.calling g mk a) (Vm.Alike.refl U.vm) qK, qN.calling, qD⟩, va_recv hK hP (ci := 11) (q0 := 0) rfl rfl, fun U hU hW => ⟨rfl, by rw [hU], by rw [hU]; exact hPc, va_K.moved hW.alike hK, NN.warm hW hN, hDc.weaken (fun _ _ _ _ => trivial)⟩⟩ rfl rfl hl.1 rfl (lv_room (Nat.le_of_ble_eq_true rfl)) d_DiscMakerModel_allParts_17 ⟨hkc, hks⟩) hS (fun q _ h => hFc q h) hFc (fun r16 u t H1 locs ht hvm hp_r16 hB hz1 hk1 hS => ?_)
  obtain ⟨G_17, rfl⟩ : ∃ z, z = u := ⟨_, rfl⟩
  obtain ⟨hP1, hD1⟩ := hB
  rw [ht] at hP1
  obtain ⟨hP, hD⟩ := va_join (wr := []) (w1 := [(h0, .inr (11, MO ma sv_thrown sv_length sv_nodes sv_many sv_directories sv_runsFrom sv_runs sv_read sv_wrong sv_isNamed sv_goes sv_goesSize sv_goesAt sv_targetParts sv_isRoot)), ((ma 16), .inl (cJ, 46080, .inr (.inl G_17))), ((ma 1), .inl (cI, 40, .inl fK)), ((ma 9), .inl (cI, 40, .inl fNS)), ((ma 10), .inl (cB, 8000, .inl fT)), ((ma 11), .inl (cI, 40, .inl fTS))]) hP hD [0, 1, 2, 3, 4, 5] [] rfl rfl (by decide) (by decide) hk1 hFc hP1 hD1
  clear hPc hDc hFc hP1 hD1 hk1 hz1
  generalize H1 = H at hP hS ⊢
  have hP : va_P D CL [(h0, .inr (11, MO ma sv_thrown sv_length sv_nodes sv_many sv_directories sv_runsFrom sv_runs sv_read sv_wrong sv_isNamed sv_goes sv_goesSize sv_goesAt sv_targetParts sv_isRoot)), ((ma 16), .inl (cJ, 46080, .inr (.inl G_17))), ((ma 1), .inl (cI, 40, .inl fK)), ((ma 9), .inl (cI, 40, .inl fNS)), ((ma 10), .inl (cB, 8000, .inl fT)), ((ma 11), .inl (cI, 40, .inl fTS))] H := hP
  have hD : va_D A [(h0, .inr (11, MO ma sv_thrown sv_length sv_nodes sv_many sv_directories sv_runsFrom sv_runs sv_read sv_wrong sv_isNamed sv_goes sv_goesSize sv_goesAt sv_targetParts sv_isRoot)), ((ma 16), .inl (cJ, 46080, .inr (.inl G_17))), ((ma 1), .inl (cI, 40, .inl fK)), ((ma 9), .inl (cI, 40, .inl fNS)), ((ma 10), .inl (cB, 8000, .inl fT)), ((ma 11), .inl (cI, 40, .inl fTS))] := hD
  try dsimp only at hp_r16
  obtain ⟨hv_18, hr_19⟩ := hp_r16
  try rw [L_3] at hv_18
  refine lv_iadd hx hb d_DiscMakerModel_allParts_20 ?_
  refine lv_topi (fun v20 e_v20 => ?_)
  have t_v20 : v20.toInt = v15.toInt + r16.toInt := by rw [e_v20]; exact i_add rfl rfl (by omega) (by omega)
  refine lv_istore_n hx hb d_DiscMakerModel_allParts_21 rfl hl (by decide) rfl (fun ls hl => ?_)
  have hl : lv_has ls 5 [(3, .int v20), (4, .int 3), (0, .ref h0), (1, .int x), (2, .int y)] := hl
  refine lv_iinc (v := 4) hx hb d_DiscMakerModel_allParts_22 hl (k := 1) rfl (by decide) (by decide) rfl (fun ls hl => ?_)
  have hl : lv_has ls 5 [(4, .int 4), (3, .int v20), (0, .ref h0), (1, .int x), (2, .int y)] := hl
  refine lv_goto (tgt := 5) hx hb d_DiscMakerModel_allParts_25 (by decide) ?_
  refine lv_iload hx hb d_DiscMakerModel_allParts_5 (lv_at hl 0 rfl) ?_
  refine lv_iconst (v := 4) hx hb d_DiscMakerModel_allParts_7 (by decide) ?_
  refine lv_icmp_ge (tgt := 28) hx hb d_DiscMakerModel_allParts_8 (by decide) (fun _ => ?_) (fun h_9 => absurd (by decide) h_9)
  refine lv_iload_n hx hb d_DiscMakerModel_allParts_28 rfl (lv_at hl 1 rfl) ?_
  have hP9 := hP.sub (ws' := [(h0, .inr (11, MO ma sv_thrown sv_length sv_nodes sv_many sv_directories sv_runsFrom sv_runs sv_read sv_wrong sv_isNamed sv_goes sv_goesSize sv_goesAt sv_targetParts sv_isRoot)), ((ma 16), .inl (cJ, 46080, .inr (.inl G_17))), ((ma 1), .inl (cI, 40, .inl fK)), ((ma 9), .inl (cI, 40, .inl fNS)), ((ma 10), .inl (cB, 8000, .inl fT)), ((ma 11), .inl (cI, 40, .inl fTS))]) [0, 1, 2, 3, 4, 5] rfl
  have hD9 := hD.sub (ws' := [(h0, .inr (11, MO ma sv_thrown sv_length sv_nodes sv_many sv_directories sv_runsFrom sv_runs sv_read sv_wrong sv_isNamed sv_goes sv_goesSize sv_goesAt sv_targetParts sv_isRoot)), ((ma 16), .inl (cJ, 46080, .inr (.inl G_17))), ((ma 1), .inl (cI, 40, .inl fK)), ((ma 9), .inl (cI, 40, .inl fNS)), ((ma 10), .inl (cB, 8000, .inl fT)), ((ma 11), .inl (cI, 40, .inl fTS))]) [0, 1, 2, 3, 4, 5] (by decide) rfl
  exact W.iret (v := v20) hx hb hr (fun t ht hW => ⟨⟨v20, G_17, rfl, ⟨(by (try dsimp only); first | assumption | omega | trivial), (by (try dsimp only); first | assumption | omega | trivial)⟩, by rw [ht]; exact hP9, hD9⟩, hS.F ht⟩) hS.2.2 d_DiscMakerModel_allParts_29

theorem d_DiscMakerModel_partsInside_0 : decode b_DiscMakerModel_partsInside 0 = .ok (.sipush 254, 3) := by decide +kernel
theorem d_DiscMakerModel_partsInside_3 : decode b_DiscMakerModel_partsInside 3 = .ok (.aload_n 0, 1) := by decide +kernel
theorem d_DiscMakerModel_partsInside_4 : decode b_DiscMakerModel_partsInside 4 = .ok (.iconst 0, 1) := by decide +kernel
theorem d_DiscMakerModel_partsInside_5 : decode b_DiscMakerModel_partsInside 5 = .ok (.iload_n 1, 1) := by decide +kernel
theorem d_DiscMakerModel_partsInside_6 : decode b_DiscMakerModel_partsInside 6 = .ok (.iload_n 2, 1) := by decide +kernel
theorem d_DiscMakerModel_partsInside_7 : decode b_DiscMakerModel_partsInside 7 = .ok (.invokevirtual 216, 3) := by decide +kernel
theorem d_DiscMakerModel_partsInside_10 : decode b_DiscMakerModel_partsInside 10 = .ok (.isub, 1) := by decide +kernel
theorem d_DiscMakerModel_partsInside_11 : decode b_DiscMakerModel_partsInside 11 = .ok (.istore_n 3, 1) := by decide +kernel
theorem d_DiscMakerModel_partsInside_12 : decode b_DiscMakerModel_partsInside 12 = .ok (.aload_n 0, 1) := by decide +kernel
theorem d_DiscMakerModel_partsInside_13 : decode b_DiscMakerModel_partsInside 13 = .ok (.iload_n 1, 1) := by decide +kernel
theorem d_DiscMakerModel_partsInside_14 : decode b_DiscMakerModel_partsInside 14 = .ok (.iload_n 2, 1) := by decide +kernel
theorem d_DiscMakerModel_partsInside_15 : decode b_DiscMakerModel_partsInside 15 = .ok (.invokevirtual 219, 3) := by decide +kernel
theorem d_DiscMakerModel_partsInside_18 : decode b_DiscMakerModel_partsInside 18 = .ok (.iload_n 3, 1) := by decide +kernel
theorem d_DiscMakerModel_partsInside_19 : decode b_DiscMakerModel_partsInside 19 = .ok (.if_icmp .gt 5, 3) := by decide +kernel
theorem d_DiscMakerModel_partsInside_22 : decode b_DiscMakerModel_partsInside 22 = .ok (.iconst 4, 1) := by decide +kernel
theorem d_DiscMakerModel_partsInside_23 : decode b_DiscMakerModel_partsInside 23 = .ok (.ireturn, 1) := by decide +kernel
theorem d_DiscMakerModel_partsInside_24 : decode b_DiscMakerModel_partsInside 24 = .ok (.bipush 28, 2) := by decide +kernel
theorem d_DiscMakerModel_partsInside_26 : decode b_DiscMakerModel_partsInside 26 = .ok (.istore 4, 2) := by decide +kernel
theorem d_DiscMakerModel_partsInside_28 : decode b_DiscMakerModel_partsInside 28 = .ok (.iconst 0, 1) := by decide +kernel
theorem d_DiscMakerModel_partsInside_29 : decode b_DiscMakerModel_partsInside 29 = .ok (.istore 5, 2) := by decide +kernel
theorem d_DiscMakerModel_partsInside_31 : decode b_DiscMakerModel_partsInside 31 = .ok (.iload 4, 2) := by decide +kernel
theorem d_DiscMakerModel_partsInside_33 : decode b_DiscMakerModel_partsInside 33 = .ok (.aload_n 0, 1) := by decide +kernel
theorem d_DiscMakerModel_partsInside_34 : decode b_DiscMakerModel_partsInside 34 = .ok (.iload 5, 2) := by decide +kernel
theorem d_DiscMakerModel_partsInside_36 : decode b_DiscMakerModel_partsInside 36 = .ok (.iload_n 1, 1) := by decide +kernel
theorem d_DiscMakerModel_partsInside_37 : decode b_DiscMakerModel_partsInside 37 = .ok (.iload_n 2, 1) := by decide +kernel
theorem d_DiscMakerModel_partsInside_38 : decode b_DiscMakerModel_partsInside 38 = .ok (.invokevirtual 213, 3) := by decide +kernel
theorem d_DiscMakerModel_partsInside_41 : decode b_DiscMakerModel_partsInside 41 = .ok (.iadd, 1) := by decide +kernel
theorem d_DiscMakerModel_partsInside_42 : decode b_DiscMakerModel_partsInside 42 = .ok (.iload_n 3, 1) := by decide +kernel
theorem d_DiscMakerModel_partsInside_43 : decode b_DiscMakerModel_partsInside 43 = .ok (.if_icmp .gt 22, 3) := by decide +kernel
theorem d_DiscMakerModel_partsInside_46 : decode b_DiscMakerModel_partsInside 46 = .ok (.iload 4, 2) := by decide +kernel
theorem d_DiscMakerModel_partsInside_48 : decode b_DiscMakerModel_partsInside 48 = .ok (.aload_n 0, 1) := by decide +kernel
theorem d_DiscMakerModel_partsInside_49 : decode b_DiscMakerModel_partsInside 49 = .ok (.iload 5, 2) := by decide +kernel
theorem d_DiscMakerModel_partsInside_51 : decode b_DiscMakerModel_partsInside 51 = .ok (.iload_n 1, 1) := by decide +kernel
theorem d_DiscMakerModel_partsInside_52 : decode b_DiscMakerModel_partsInside 52 = .ok (.iload_n 2, 1) := by decide +kernel
theorem d_DiscMakerModel_partsInside_53 : decode b_DiscMakerModel_partsInside 53 = .ok (.invokevirtual 213, 3) := by decide +kernel
theorem d_DiscMakerModel_partsInside_56 : decode b_DiscMakerModel_partsInside 56 = .ok (.iadd, 1) := by decide +kernel
theorem d_DiscMakerModel_partsInside_57 : decode b_DiscMakerModel_partsInside 57 = .ok (.istore 4, 2) := by decide +kernel
theorem d_DiscMakerModel_partsInside_59 : decode b_DiscMakerModel_partsInside 59 = .ok (.iinc 5 1, 3) := by decide +kernel
theorem d_DiscMakerModel_partsInside_62 : decode b_DiscMakerModel_partsInside 62 = .ok (.goto (-31), 3) := by decide +kernel
theorem d_DiscMakerModel_partsInside_65 : decode b_DiscMakerModel_partsInside 65 = .ok (.iload 5, 2) := by decide +kernel
theorem d_DiscMakerModel_partsInside_67 : decode b_DiscMakerModel_partsInside 67 = .ok (.ireturn, 1) := by decide +kernel
set_option maxHeartbeats 4000000 in
set_option maxRecDepth 100000 in
theorem m_partsInside (l : Launch) (D : va_G) (cB cI cJ cZ cN cF : ClassId) (sz : Nat) (h0 : Nat) (ma : Nat → Nat) (sv_thrown sv_length sv_nodes sv_many sv_directories sv_runsFrom sv_runs sv_read sv_wrong sv_isNamed sv_goes sv_goesSize sv_goesAt sv_targetParts sv_isRoot : Int32) (F : Nat → Int64) (fK : Nat → Int32) (fNS : Nat → Int32) (fT : Nat → Int32) (fTS : Nat → Int32) (fBs : Nat → Int32) (fEs : Nat → Int32) (x : Int32) (y : Int32) (hy0 : 0 ≤ y.toInt ∧ y.toInt < 40) (hKi : Rg 0 2 40 fK) (hNS : Rg 0 30 40 fNS) (hTS : Rg 0 200 40 fTS) (hBs : Rg 0 8 40 fBs) (hEs : Rg 0 3 40 fEs) : Met l y_DiscMakerModel_partsInside w_DiscMakerModel_partsInside ({ frames := 5, cells := 0, slots := 0, locals := 123 }) (va_Pc [.ref h0, .int x, .int y] (fun U => U.heap.size = sz ∧ va_P D CL [(h0, .inr (11, MO ma sv_thrown sv_length sv_nodes sv_many sv_directories sv_runsFrom sv_runs sv_read sv_wrong sv_isNamed sv_goes sv_goesSize sv_goesAt sv_targetParts sv_isRoot)), ((ma 16), .inl (cJ, 46080, .inr (.inl F))), ((ma 1), .inl (cI, 40, .inl fK)), ((ma 9), .inl (cI, 40, .inl fNS)), ((ma 10), .inl (cB, 8000, .inl fT)), ((ma 11), .inl (cI, 40, .inl fTS)), ((ma 13), .inl (cI, 40, .inl fBs)), ((ma 15), .inl (cI, 40, .inl fEs))] U.heap ∧ va_K D CL (TY cB cI cJ cZ cN cF) U ∧ NN U ∧ va_D (fun _ => True) [(h0, .inr (11, MO ma sv_thrown sv_length sv_nodes sv_many sv_directories sv_runsFrom sv_runs sv_read sv_wrong sv_isNamed sv_goes sv_goesSize sv_goesAt sv_targetParts sv_isRoot)), ((ma 16), .inl (cJ, 46080, .inr (.inl F))), ((ma 1), .inl (cI, 40, .inl fK)), ((ma 9), .inl (cI, 40, .inl fNS)), ((ma 10), .inl (cB, 8000, .inl fT)), ((ma 11), .inl (cI, 40, .inl fTS)), ((ma 13), .inl (cI, 40, .inl fBs)), ((ma 15), .inl (cI, 40, .inl fEs))])) (va_Qi (fun (r : Int32) (u : (Nat → Int64)) => match u with | G => ((r.toInt = 4 ∧ psF fK fNS fT fTS 0 x.toInt y.toNatClampNeg + psF fK fNS fT fTS 1 x.toInt y.toNatClampNeg + psF fK fNS fT fTS 2 x.toInt y.toNatClampNeg + psF fK fNS fT fTS 3 x.toInt y.toNatClampNeg ≤ (254 - (33 + idF fK fNS fBs fEs 0 x.toInt y.toNatClampNeg + (33 + idF fK fNS fBs fEs 0 x.toInt y.toNatClampNeg) % 2))) ∨ (r.toInt = 0 ∧ (254 - (33 + idF fK fNS fBs fEs 0 x.toInt y.toNatClampNeg + (33 + idF fK fNS fBs fEs 0 x.toInt y.toNatClampNeg) % 2)) < psF fK fNS fT fTS 0 x.toInt y.toNatClampNeg + psF fK fNS fT fTS 1 x.toInt y.toNatClampNeg + psF fK fNS fT fTS 2 x.toInt y.toNatClampNeg + psF fK fNS fT fTS 3 x.toInt y.toNatClampNeg) ∨ (r.toInt = 1 ∧ 28 + psF fK fNS fT fTS 0 x.toInt y.toNatClampNeg ≤ (254 - (33 + idF fK fNS fBs fEs 0 x.toInt y.toNatClampNeg + (33 + idF fK fNS fBs fEs 0 x.toInt y.toNatClampNeg) % 2)) ∧ (254 - (33 + idF fK fNS fBs fEs 0 x.toInt y.toNatClampNeg + (33 + idF fK fNS fBs fEs 0 x.toInt y.toNatClampNeg) % 2)) < psF fK fNS fT fTS 0 x.toInt y.toNatClampNeg + psF fK fNS fT fTS 1 x.toInt y.toNatClampNeg + psF fK fNS fT fTS 2 x.toInt y.toNatClampNeg + psF fK fNS fT fTS 3 x.toInt y.toNatClampNeg) ∨ (r.toInt = 2 ∧ 28 + psF fK fNS fT fTS 0 x.toInt y.toNatClampNeg + psF fK fNS fT fTS 1 x.toInt y.toNatClampNeg ≤ (254 - (33 + idF fK fNS fBs fEs 0 x.toInt y.toNatClampNeg + (33 + idF fK fNS fBs fEs 0 x.toInt y.toNatClampNeg) % 2)) ∧ (254 - (33 + idF fK fNS fBs fEs 0 x.toInt y.toNatClampNeg + (33 + idF fK fNS fBs fEs 0 x.toInt y.toNatClampNeg) % 2)) < psF fK fNS fT fTS 0 x.toInt y.toNatClampNeg + psF fK fNS fT fTS 1 x.toInt y.toNatClampNeg + psF fK fNS fT fTS 2 x.toInt y.toNatClampNeg + psF fK fNS fT fTS 3 x.toInt y.toNatClampNeg) ∨ (r.toInt = 3 ∧ 28 + psF fK fNS fT fTS 0 x.toInt y.toNatClampNeg + psF fK fNS fT fTS 1 x.toInt y.toNatClampNeg + psF fK fNS fT fTS 2 x.toInt y.toNatClampNeg ≤ (254 - (33 + idF fK fNS fBs fEs 0 x.toInt y.toNatClampNeg + (33 + idF fK fNS fBs fEs 0 x.toInt y.toNatClampNeg) % 2)) ∧ (254 - (33 + idF fK fNS fBs fEs 0 x.toInt y.toNatClampNeg + (33 + idF fK fNS fBs fEs 0 x.toInt y.toNatClampNeg) % 2)) < psF fK fNS fT fTS 0 x.toInt y.toNatClampNeg + psF fK fNS fT fTS 1 x.toInt y.toNatClampNeg + psF fK fNS fT fTS 2 x.toInt y.toNatClampNeg + psF fK fNS fT fTS 3 x.toInt y.toNatClampNeg))) (fun (u : (Nat → Int64)) (t : State) => match u with | G => va_P D CL [(h0, .inr (11, MO ma sv_thrown sv_length sv_nodes sv_many sv_directories sv_runsFrom sv_runs sv_read sv_wrong sv_isNamed sv_goes sv_goesSize sv_goesAt sv_targetParts sv_isRoot)), ((ma 16), .inl (cJ, 46080, .inr (.inl G))), ((ma 1), .inl (cI, 40, .inl fK)), ((ma 9), .inl (cI, 40, .inl fNS)), ((ma 10), .inl (cB, 8000, .inl fT)), ((ma 11), .inl (cI, 40, .inl fTS)), ((ma 13), .inl (cI, 40, .inl fBs)), ((ma 15), .inl (cI, 40, .inl fEs))] t.heap ∧ va_D (va_A [(h0, .inr (11, MO ma sv_thrown sv_length sv_nodes sv_many sv_directories sv_runsFrom sv_runs sv_read sv_wrong sv_isNamed sv_goes sv_goesSize sv_goesAt sv_targetParts sv_isRoot)), ((ma 16), .inl (cJ, 46080, .inr (.inl F))), ((ma 1), .inl (cI, 40, .inl fK)), ((ma 9), .inl (cI, 40, .inl fNS)), ((ma 10), .inl (cB, 8000, .inl fT)), ((ma 11), .inl (cI, 40, .inl fTS)), ((ma 13), .inl (cI, 40, .inl fBs)), ((ma 15), .inl (cI, 40, .inl fEs))] sz) [(h0, .inr (11, MO ma sv_thrown sv_length sv_nodes sv_many sv_directories sv_runsFrom sv_runs sv_read sv_wrong sv_isNamed sv_goes sv_goesSize sv_goesAt sv_targetParts sv_isRoot)), ((ma 16), .inl (cJ, 46080, .inr (.inl G))), ((ma 1), .inl (cI, 40, .inl fK)), ((ma 9), .inl (cI, 40, .inl fNS)), ((ma 10), .inl (cB, 8000, .inl fT)), ((ma 11), .inl (cI, 40, .inl fTS)), ((ma 13), .inl (cI, 40, .inl fBs)), ((ma 15), .inl (cI, 40, .inl fEs))]) (va_A [(h0, .inr (11, MO ma sv_thrown sv_length sv_nodes sv_many sv_directories sv_runsFrom sv_runs sv_read sv_wrong sv_isNamed sv_goes sv_goesSize sv_goesAt sv_targetParts sv_isRoot)), ((ma 16), .inl (cJ, 46080, .inr (.inl F))), ((ma 1), .inl (cI, 40, .inl fK)), ((ma 9), .inl (cI, 40, .inl fNS)), ((ma 10), .inl (cB, 8000, .inl fT)), ((ma 11), .inl (cI, 40, .inl fTS)), ((ma 13), .inl (cI, 40, .inl fBs)), ((ma 15), .inl (cI, 40, .inl fEs))] sz)) 0 0 (va_A [(h0, .inr (11, MO ma sv_thrown sv_length sv_nodes sv_many sv_directories sv_runsFrom sv_runs sv_read sv_wrong sv_isNamed sv_goes sv_goesSize sv_goesAt sv_targetParts sv_isRoot)), ((ma 16), .inl (cJ, 46080, .inr (.inl F))), ((ma 1), .inl (cI, 40, .inl fK)), ((ma 9), .inl (cI, 40, .inl fNS)), ((ma 10), .inl (cB, 8000, .inl fT)), ((ma 11), .inl (cI, 40, .inl fTS)), ((ma 13), .inl (cI, 40, .inl fBs)), ((ma 15), .inl (cI, 40, .inl fEs))] sz) := by
  refine Met.ofW (cc := b_DiscMakerModel_partsInside) (maxL := 6) (ret := some .int) (by decide) rfl ?_
  intro p e s m args below meth c s₁ B hml hv
  obtain ⟨rfl, hsz, hP, hK, hN, hD0⟩ := hv
  have hx := B.exec
  have hb := B.bytes
  have hr := B.returns
  have hts := atoms_spec (ws := w_DiscMakerModel_partsInside) B.pre
  have ht9 := fun (w : Cond) (h : w ∈ lw_g) => hts w (List.mem_cons_of_mem _ h)
  have hown : s.vm.findClass "DiscMakerModel" = some m.cls := findClass_of_methodNamed B.named
  have hlocks := B.notSynchronized
  subst hsz
  have hD := hD0.self (sz := s.heap.size)
  generalize hAe : va_A [(h0, .inr (11, MO ma sv_thrown sv_length sv_nodes sv_many sv_directories sv_runsFrom sv_runs sv_read sv_wrong sv_isNamed sv_goes sv_goesSize sv_goesAt sv_targetParts sv_isRoot)), ((ma 16), .inl (cJ, 46080, .inr (.inl F))), ((ma 1), .inl (cI, 40, .inl fK)), ((ma 9), .inl (cI, 40, .inl fNS)), ((ma 10), .inl (cB, 8000, .inl fT)), ((ma 11), .inl (cI, 40, .inl fTS)), ((ma 13), .inl (cI, 40, .inl fBs)), ((ma 15), .inl (cI, 40, .inl fEs))] s.heap.size = A at hD ⊢
  have hA : ∀ q : Nat, s.heap.size ≤ q → A q := fun q h => by rw [← hAe]; exact Or.inr h
  have hS : va_S A s.heap s.heap [] := va_S.rf
  have hP : va_P D CL [(h0, .inr (11, MO ma sv_thrown sv_length sv_nodes sv_many sv_directories sv_runsFrom sv_runs sv_read sv_wrong sv_isNamed sv_goes sv_goesSize sv_goesAt sv_targetParts sv_isRoot)), ((ma 16), .inl (cJ, 46080, .inr (.inl F))), ((ma 1), .inl (cI, 40, .inl fK)), ((ma 9), .inl (cI, 40, .inl fNS)), ((ma 10), .inl (cB, 8000, .inl fT)), ((ma 11), .inl (cI, 40, .inl fTS)), ((ma 13), .inl (cI, 40, .inl fBs)), ((ma 15), .inl (cI, 40, .inl fEs))] s.heap := hP
  have hl := lv_entry [.ref h0, .int x, .int y] (n := 6) (Nat.le_of_ble_eq_true rfl)
  rw [lg_entry_eq]
  generalize (lg_sl [.ref h0, .int x, .int y] ++ List.replicate (6 - (lg_sl [.ref h0, .int x, .int y]).length) Slot.unset).toArray = ls at hl ⊢
  have hl : lv_has ls 6 [(0, .ref h0), (1, .int x), (2, .int y)] := hl
  have L_m1 : ((-1) : Int32).toInt = (-1) := by decide
  have L_0 : (0 : Int32).toInt = 0 := by decide
  have L_1 : (1 : Int32).toInt = 1 := by decide
  have L_4 : (4 : Int32).toInt = 4 := by decide
  have L_28 : (28 : Int32).toInt = 28 := by decide
  have L_254 : (254 : Int32).toInt = 254 := by decide
  refine lv_sipush (v := 254) hx hb d_DiscMakerModel_partsInside_0 (by decide) ?_
  refine lv_aload_n hx hb d_DiscMakerModel_partsInside_3 rfl (lv_at hl 0 rfl) ?_
  refine lv_iconst (v := 0) hx hb d_DiscMakerModel_partsInside_4 (by decide) ?_
  refine lv_iload_n hx hb d_DiscMakerModel_partsInside_5 rfl (lv_at hl 1 rfl) ?_
  refine lv_iload_n hx hb d_DiscMakerModel_partsInside_6 rfl (lv_at hl 2 rfl) ?_
  have hPc := hP.sub (ws' := [(h0, .inr (11, MO ma sv_thrown sv_length sv_nodes sv_many sv_directories sv_runsFrom sv_runs sv_read sv_wrong sv_isNamed sv_goes sv_goesSize sv_goesAt sv_targetParts sv_isRoot)), ((ma 1), .inl (cI, 40, .inl fK)), ((ma 9), .inl (cI, 40, .inl fNS)), ((ma 13), .inl (cI, 40, .inl fBs)), ((ma 15), .inl (cI, 40, .inl fEs))]) [0, 2, 3, 6, 7] rfl
  have hDc := hD.sub (ws' := [(h0, .inr (11, MO ma sv_thrown sv_length sv_nodes sv_many sv_directories sv_runsFrom sv_runs sv_read sv_wrong sv_isNamed sv_goes sv_goesSize sv_goesAt sv_targetParts sv_isRoot)), ((ma 1), .inl (cI, 40, .inl fK)), ((ma 9), .inl (cI, 40, .inl fNS)), ((ma 13), .inl (cI, 40, .inl fBs)), ((ma 15), .inl (cI, 40, .inl fEs))]) [0, 2, 3, 6, 7] (by decide) rfl
  have hFc := va_free (wc := [(h0, .inr (11, MO ma sv_thrown sv_length sv_nodes sv_many sv_directories sv_runsFrom sv_runs sv_read sv_wrong sv_isNamed sv_goes sv_goesSize sv_goesAt sv_targetParts sv_isRoot)), ((ma 1), .inl (cI, 40, .inl fK)), ((ma 9), .inl (cI, 40, .inl fNS)), ((ma 13), .inl (cI, 40, .inl fBs)), ((ma 15), .inl (cI, 40, .inl fEs))]) hD hS hA [0, 2, 3, 6, 7] rfl
  have hkc : 0 ≤ 0 := by decide
  have hks : 0 ≤ 0 := by decide
  refine va_calli (va_runV (C := "DiscMakerModel") (As := [.int 0, .int x, .int y]) (rest := [.int 254]) ⟨hx, hb, hml, hown, hts⟩ (m_headSize l D cB cI cJ cZ cN cF s.heap.size h0 ma sv_thrown sv_length sv_nodes sv_many sv_directories sv_runsFrom sv_runs sv_read sv_wrong sv_isNamed sv_goes sv_goesSize sv_goesAt sv_targetParts sv_isRoot fK fNS fBs fEs 0 x y (by (try dsimp only); first | assumption | omega | trivial) (by (try dsimp only); first | assumption | omega | trivial) (by (try dsimp only); first | assumption | omega | trivial) (by (try dsimp only); first | assumption | omega | trivial) (by (try dsimp only); first | assumption | omega | trivial)) (cwV 3 hts (lg_goodV k1695 k1697 k71 k125 kc_DiscMakerModel_headSize) rfl rfl rfl (by decide +kernel) ⟨Nat.le_of_ble_eq_true rfl, Nat.le_of_ble_eq_true rfl⟩) ⟨fun a U g mk q => by obtain ⟨q0, q1, qP, qK, qN, qD⟩ := q; exact ⟨q0, q1, qP, va_K.moved (u := U) (U := U.calling g mk a) (Vm.Alike.refl U.vm) qK, qN.calling, qD⟩, va_recv hK hP (ci := 11) (q0 := 0) rfl rfl, fun U hU hW => ⟨rfl, by rw [hU], by rw [hU]; exact hPc, va_K.moved hW.alike hK, NN.warm hW hN, hDc.weaken (fun _ _ _ _ => trivial)⟩⟩ rfl rfl hl.1 rfl (lv_room (Nat.le_of_ble_eq_true rfl)) d_DiscMakerModel_partsInside_7 ⟨hkc, hks⟩) hS (fun q _ h => hFc q h) hFc (fun r1 u t H1 locs ht hvm hp_r1 hB hz1 hk1 hS => ?_)
  obtain ⟨hP1, hD1⟩ := hB
  rw [ht] at hP1
  obtain ⟨hP, hD⟩ := va_join (wr := [((ma 16), .inl (cJ, 46080, .inr (.inl F))), ((ma 10), .inl (cB, 8000, .inl fT)), ((ma 11), .inl (cI, 40, .inl fTS))]) (w1 := [(h0, .inr (11, MO ma sv_thrown sv_length sv_nodes sv_many sv_directories sv_runsFrom sv_runs sv_read sv_wrong sv_isNamed sv_goes sv_goesSize sv_goesAt sv_targetParts sv_isRoot)), ((ma 1), .inl (cI, 40, .inl fK)), ((ma 9), .inl (cI, 40, .inl fNS)), ((ma 13), .inl (cI, 40, .inl fBs)), ((ma 15), .inl (cI, 40, .inl fEs))]) hP hD [0, 2, 3, 6, 7] [1, 4, 5] rfl rfl (by decide) (by decide) hk1 hFc hP1 hD1
  clear hPc hDc hFc hP1 hD1 hk1 hz1
  generalize H1 = H at hP hS ⊢
  have hP : va_P D CL [((ma 16), .inl (cJ, 46080, .inr (.inl F))), ((ma 10), .inl (cB, 8000, .inl fT)), ((ma 11), .inl (cI, 40, .inl fTS)), (h0, .inr (11, MO ma sv_thrown sv_length sv_nodes sv_many sv_directories sv_runsFrom sv_runs sv_read sv_wrong sv_isNamed sv_goes sv_goesSize sv_goesAt sv_targetParts sv_isRoot)), ((ma 1), .inl (cI, 40, .inl fK)), ((ma 9), .inl (cI, 40, .inl fNS)), ((ma 13), .inl (cI, 40, .inl fBs)), ((ma 15), .inl (cI, 40, .inl fEs))] H := hP
  have hD : va_D A [((ma 16), .inl (cJ, 46080, .inr (.inl F))), ((ma 10), .inl (cB, 8000, .inl fT)), ((ma 11), .inl (cI, 40, .inl fTS)), (h0, .inr (11, MO ma sv_thrown sv_length sv_nodes sv_many sv_directories sv_runsFrom sv_runs sv_read sv_wrong sv_isNamed sv_goes sv_goesSize sv_goesAt sv_targetParts sv_isRoot)), ((ma 1), .inl (cI, 40, .inl fK)), ((ma 9), .inl (cI, 40, .inl fNS)), ((ma 13), .inl (cI, 40, .inl fBs)), ((ma 15), .inl (cI, 40, .inl fEs))] := hD
  try dsimp only at hp_r1
  obtain ⟨hv_2, hr_3⟩ := hp_r1
  try rw [L_0] at hv_2
  try rw [L_0] at hr_3
  refine lv_isub hx hb d_DiscMakerModel_partsInside_10 ?_
  refine lv_topi (fun v4 e_v4 => ?_)
  have t_v4 : v4.toInt = 254 - r1.toInt := by rw [e_v4]; exact i_sub (by decide) rfl (by omega) (by omega)
  refine lv_istore_n hx hb d_DiscMakerModel_partsInside_11 rfl hl (by decide) rfl (fun ls hl => ?_)
  have hl : lv_has ls 6 [(3, .int v4), (0, .ref h0), (1, .int x), (2, .int y)] := hl
  refine lv_aload_n hx hb d_DiscMakerModel_partsInside_12 rfl (lv_at hl 1 rfl) ?_
  refine lv_iload_n hx hb d_DiscMakerModel_partsInside_13 rfl (lv_at hl 2 rfl) ?_
  refine lv_iload_n hx hb d_DiscMakerModel_partsInside_14 rfl (lv_at hl 3 rfl) ?_
  have hPc := hP.sub (ws' := [(h0, .inr (11, MO ma sv_thrown sv_length sv_nodes sv_many sv_directories sv_runsFrom sv_runs sv_read sv_wrong sv_isNamed sv_goes sv_goesSize sv_goesAt sv_targetParts sv_isRoot)), ((ma 16), .inl (cJ, 46080, .inr (.inl F))), ((ma 1), .inl (cI, 40, .inl fK)), ((ma 9), .inl (cI, 40, .inl fNS)), ((ma 10), .inl (cB, 8000, .inl fT)), ((ma 11), .inl (cI, 40, .inl fTS))]) [3, 0, 4, 5, 1, 2] rfl
  have hDc := hD.sub (ws' := [(h0, .inr (11, MO ma sv_thrown sv_length sv_nodes sv_many sv_directories sv_runsFrom sv_runs sv_read sv_wrong sv_isNamed sv_goes sv_goesSize sv_goesAt sv_targetParts sv_isRoot)), ((ma 16), .inl (cJ, 46080, .inr (.inl F))), ((ma 1), .inl (cI, 40, .inl fK)), ((ma 9), .inl (cI, 40, .inl fNS)), ((ma 10), .inl (cB, 8000, .inl fT)), ((ma 11), .inl (cI, 40, .inl fTS))]) [3, 0, 4, 5, 1, 2] (by decide) rfl
  have hFc := va_free (wc := [(h0, .inr (11, MO ma sv_thrown sv_length sv_nodes sv_many sv_directories sv_runsFrom sv_runs sv_read sv_wrong sv_isNamed sv_goes sv_goesSize sv_goesAt sv_targetParts sv_isRoot)), ((ma 16), .inl (cJ, 46080, .inr (.inl F))), ((ma 1), .inl (cI, 40, .inl fK)), ((ma 9), .inl (cI, 40, .inl fNS)), ((ma 10), .inl (cB, 8000, .inl fT)), ((ma 11), .inl (cI, 40, .inl fTS))]) hD hS hA [3, 0, 4, 5, 1, 2] rfl
  have hkc : 0 ≤ 0 := by decide
  have hks : 0 ≤ 0 := by decide
  refine va_calli (va_runV (C := "DiscMakerModel") (As := [.int x, .int y]) (rest := []) ⟨hx, hb, hml, hown, hts⟩ (m_allParts l D cB cI cJ cZ cN cF H.size h0 ma sv_thrown sv_length sv_nodes sv_many sv_directories sv_runsFrom sv_runs sv_read sv_wrong sv_isNamed sv_goes sv_goesSize sv_goesAt sv_targetParts sv_isRoot F fK fNS fT fTS x y (by (try dsimp only); first | assumption | omega | trivial) (by (try dsimp only); first | assumption | omega | trivial) (by (try dsimp only); first | assumption | omega | trivial) (by (try dsimp only); first | assumption | omega | trivial)) (cwV 2 hts (lg_goodV k1711 k1713 k75 k125 kc_DiscMakerModel_allParts) rfl rfl rfl (by decide +kernel) ⟨Nat.le_of_ble_eq_true rfl, Nat.le_of_ble_eq_true rfl⟩) ⟨fun a U g mk q => by obtain ⟨q0, q1, qP, qK, qN, qD⟩ := q; exact ⟨q0, q1, qP, va_K.moved (u := U) (U := U.calling g mk a) (Vm.Alike.refl U.vm) qK, qN.calling, qD⟩, va_recv hK hP (ci := 11) (q0 := 3) rfl rfl, fun U hU hW => ⟨rfl, by rw [hU], by rw [hU]; exact hPc, va_K.moved hW.alike hK, NN.warm hW hN, hDc.weaken (fun _ _ _ _ => trivial)⟩⟩ rfl rfl hl.1 rfl (lv_room (Nat.le_of_ble_eq_true rfl)) d_DiscMakerModel_partsInside_15 ⟨hkc, hks⟩) hS (fun q _ h => hFc q h) hFc (fun r5 u t H1 locs ht hvm hp_r5 hB hz1 hk1 hS => ?_)
  obtain ⟨G_6, rfl⟩ : ∃ z, z = u := ⟨_, rfl⟩
  obtain ⟨hP1, hD1⟩ := hB
  rw [ht] at hP1
  obtain ⟨hP, hD⟩ := va_join (wr := [((ma 13), .inl (cI, 40, .inl fBs)), ((ma 15), .inl (cI, 40, .inl fEs))]) (w1 := [(h0, .inr (11, MO ma sv_thrown sv_length sv_nodes sv_many sv_directories sv_runsFrom sv_runs sv_read sv_wrong sv_isNamed sv_goes sv_goesSize sv_goesAt sv_targetParts sv_isRoot)), ((ma 16), .inl (cJ, 46080, .inr (.inl G_6))), ((ma 1), .inl (cI, 40, .inl fK)), ((ma 9), .inl (cI, 40, .inl fNS)), ((ma 10), .inl (cB, 8000, .inl fT)), ((ma 11), .inl (cI, 40, .inl fTS))]) hP hD [3, 0, 4, 5, 1, 2] [6, 7] rfl rfl (by decide) (by decide) hk1 hFc hP1 hD1
  clear hPc hDc hFc hP1 hD1 hk1 hz1
  generalize H1 = H at hP hS ⊢
  have hP : va_P D CL [((ma 13), .inl (cI, 40, .inl fBs)), ((ma 15), .inl (cI, 40, .inl fEs)), (h0, .inr (11, MO ma sv_thrown sv_length sv_nodes sv_many sv_directories sv_runsFrom sv_runs sv_read sv_wrong sv_isNamed sv_goes sv_goesSize sv_goesAt sv_targetParts sv_isRoot)), ((ma 16), .inl (cJ, 46080, .inr (.inl G_6))), ((ma 1), .inl (cI, 40, .inl fK)), ((ma 9), .inl (cI, 40, .inl fNS)), ((ma 10), .inl (cB, 8000, .inl fT)), ((ma 11), .inl (cI, 40, .inl fTS))] H := hP
  have hD : va_D A [((ma 13), .inl (cI, 40, .inl fBs)), ((ma 15), .inl (cI, 40, .inl fEs)), (h0, .inr (11, MO ma sv_thrown sv_length sv_nodes sv_many sv_directories sv_runsFrom sv_runs sv_read sv_wrong sv_isNamed sv_goes sv_goesSize sv_goesAt sv_targetParts sv_isRoot)), ((ma 16), .inl (cJ, 46080, .inr (.inl G_6))), ((ma 1), .inl (cI, 40, .inl fK)), ((ma 9), .inl (cI, 40, .inl fNS)), ((ma 10), .inl (cB, 8000, .inl fT)), ((ma 11), .inl (cI, 40, .inl fTS))] := hD
  try dsimp only at hp_r5
  obtain ⟨hv_7, hr_8⟩ := hp_r5
  refine lv_iload_n hx hb d_DiscMakerModel_partsInside_18 rfl (lv_at hl 0 rfl) ?_
  refine lv_icmp_gt (tgt := 24) hx hb d_DiscMakerModel_partsInside_19 (by decide) (fun h_9 => ?_) (fun h_9 => ?_)
  · skip
    have g19_14 : v4.toInt < r5.toInt := (i_lt rfl rfl).mp h_9
    refine lv_bipush (v := 28) hx hb d_DiscMakerModel_partsInside_24 (by decide) ?_
    refine lv_istore hx hb d_DiscMakerModel_partsInside_26 hl (by decide) rfl (fun ls hl => ?_)
    have hl : lv_has ls 6 [(4, .int 28), (3, .int v4), (0, .ref h0), (1, .int x), (2, .int y)] := hl
    refine lv_iconst (v := 0) hx hb d_DiscMakerModel_partsInside_28 (by decide) ?_
    refine lv_istore hx hb d_DiscMakerModel_partsInside_29 hl (by decide) rfl (fun ls hl => ?_)
    have hl : lv_has ls 6 [(5, .int 0), (4, .int 28), (3, .int v4), (0, .ref h0), (1, .int x), (2, .int y)] := hl
    refine lv_iload hx hb d_DiscMakerModel_partsInside_31 (lv_at hl 1 rfl) ?_
    refine lv_aload_n hx hb d_DiscMakerModel_partsInside_33 rfl (lv_at hl 3 rfl) ?_
    refine lv_iload hx hb d_DiscMakerModel_partsInside_34 (lv_at hl 0 rfl) ?_
    refine lv_iload_n hx hb d_DiscMakerModel_partsInside_36 rfl (lv_at hl 4 rfl) ?_
    refine lv_iload_n hx hb d_DiscMakerModel_partsInside_37 rfl (lv_at hl 5 rfl) ?_
    have hPc := hP.sub (ws' := [(h0, .inr (11, MO ma sv_thrown sv_length sv_nodes sv_many sv_directories sv_runsFrom sv_runs sv_read sv_wrong sv_isNamed sv_goes sv_goesSize sv_goesAt sv_targetParts sv_isRoot)), ((ma 16), .inl (cJ, 46080, .inr (.inl G_6))), ((ma 1), .inl (cI, 40, .inl fK)), ((ma 9), .inl (cI, 40, .inl fNS)), ((ma 10), .inl (cB, 8000, .inl fT)), ((ma 11), .inl (cI, 40, .inl fTS))]) [2, 3, 4, 5, 6, 7] rfl
    have hDc := hD.sub (ws' := [(h0, .inr (11, MO ma sv_thrown sv_length sv_nodes sv_many sv_directories sv_runsFrom sv_runs sv_read sv_wrong sv_isNamed sv_goes sv_goesSize sv_goesAt sv_targetParts sv_isRoot)), ((ma 16), .inl (cJ, 46080, .inr (.inl G_6))), ((ma 1), .inl (cI, 40, .inl fK)), ((ma 9), .inl (cI, 40, .inl fNS)), ((ma 10), .inl (cB, 8000, .inl fT)), ((ma 11), .inl (cI, 40, .inl fTS))]) [2, 3, 4, 5, 6, 7] (by decide) rfl
    have hFc := va_free (wc := [(h0, .inr (11, MO ma sv_thrown sv_length sv_nodes sv_many sv_directories sv_runsFrom sv_runs sv_read sv_wrong sv_isNamed sv_goes sv_goesSize sv_goesAt sv_targetParts sv_isRoot)), ((ma 16), .inl (cJ, 46080, .inr (.inl G_6))), ((ma 1), .inl (cI, 40, .inl fK)), ((ma 9), .inl (cI, 40, .inl fNS)), ((ma 10), .inl (cB, 8000, .inl fT)), ((ma 11), .inl (cI, 40, .inl fTS))]) hD hS hA [2, 3, 4, 5, 6, 7] rfl
    have hkc : 0 ≤ 0 := by decide
    have hks : 0 ≤ 0 := by decide
    refine va_calli (va_runV (C := "DiscMakerModel") (As := [.int 0, .int x, .int y]) (rest := [.int 28]) ⟨hx, hb, hml, hown, hts⟩ (m_partSize l D cB cI cJ cZ cN cF H.size h0 ma sv_thrown sv_length sv_nodes sv_many sv_directories sv_runsFrom sv_runs sv_read sv_wrong sv_isNamed sv_goes sv_goesSize sv_goesAt sv_targetParts sv_isRoot G_6 fK fNS fT fTS 0 x y (by (try dsimp only); first | assumption | omega | trivial) (by (try dsimp only); first | assumption | omega | trivial) (by (try dsimp only); first | assumption | omega | trivial) (by (try dsimp only); first | assumption | omega | trivial) (by (try dsimp only); first | assumption | omega | trivial)) (cwV 3 hts (lg_goodV k1715 k1717 k76 k125 kc_DiscMakerModel_partSize) rfl rfl rfl (by decide +kernel) ⟨Nat.le_of_ble_eq_true rfl, Nat.le_of_ble_eq_true rfl⟩) ⟨fun a U g mk q => by obtain ⟨q0, q1, qP, qK, qN, qD⟩ := q; exact ⟨q0, q1, qP, va_K.moved (u := U) (U := U.calling g mk a) (Vm.Alike.refl U.vm) qK, qN.calling, qD⟩, va_recv hK hP (ci := 11) (q0 := 2) rfl rfl, fun U hU hW => ⟨rfl, by rw [hU], by rw [hU]; exact hPc, va_K.moved hW.alike hK, NN.warm hW hN, hDc.weaken (fun _ _ _ _ => trivial)⟩⟩ rfl rfl hl.1 rfl (lv_room (Nat.le_of_ble_eq_true rfl)) d_DiscMakerModel_partsInside_38 ⟨hkc, hks⟩) hS (fun q _ h => hFc q h) hFc (fun r9 u t H1 locs ht hvm hp_r9 hB hz1 hk1 hS => ?_)
    obtain ⟨G_10, rfl⟩ : ∃ z, z = u := ⟨_, rfl⟩
    obtain ⟨hP1, hD1⟩ := hB
    rw [ht] at hP1
    obtain ⟨hP, hD⟩ := va_join (wr := [((ma 13), .inl (cI, 40, .inl fBs)), ((ma 15), .inl (cI, 40, .inl fEs))]) (w1 := [(h0, .inr (11, MO ma sv_thrown sv_length sv_nodes sv_many sv_directories sv_runsFrom sv_runs sv_read sv_wrong sv_isNamed sv_goes sv_goesSize sv_goesAt sv_targetParts sv_isRoot)), ((ma 16), .inl (cJ, 46080, .inr (.inl G_10))), ((ma 1), .inl (cI, 40, .inl fK)), ((ma 9), .inl (cI, 40, .inl fNS)), ((ma 10), .inl (cB, 8000, .inl fT)), ((ma 11), .inl (cI, 40, .inl fTS))]) hP hD [2, 3, 4, 5, 6, 7] [0, 1] rfl rfl (by decide) (by decide) hk1 hFc hP1 hD1
    clear hPc hDc hFc hP1 hD1 hk1 hz1
    generalize H1 = H at hP hS ⊢
    have hP : va_P D CL [((ma 13), .inl (cI, 40, .inl fBs)), ((ma 15), .inl (cI, 40, .inl fEs)), (h0, .inr (11, MO ma sv_thrown sv_length sv_nodes sv_many sv_directories sv_runsFrom sv_runs sv_read sv_wrong sv_isNamed sv_goes sv_goesSize sv_goesAt sv_targetParts sv_isRoot)), ((ma 16), .inl (cJ, 46080, .inr (.inl G_10))), ((ma 1), .inl (cI, 40, .inl fK)), ((ma 9), .inl (cI, 40, .inl fNS)), ((ma 10), .inl (cB, 8000, .inl fT)), ((ma 11), .inl (cI, 40, .inl fTS))] H := hP
    have hD : va_D A [((ma 13), .inl (cI, 40, .inl fBs)), ((ma 15), .inl (cI, 40, .inl fEs)), (h0, .inr (11, MO ma sv_thrown sv_length sv_nodes sv_many sv_directories sv_runsFrom sv_runs sv_read sv_wrong sv_isNamed sv_goes sv_goesSize sv_goesAt sv_targetParts sv_isRoot)), ((ma 16), .inl (cJ, 46080, .inr (.inl G_10))), ((ma 1), .inl (cI, 40, .inl fK)), ((ma 9), .inl (cI, 40, .inl fNS)), ((ma 10), .inl (cB, 8000, .inl fT)), ((ma 11), .inl (cI, 40, .inl fTS))] := hD
    try dsimp only at hp_r9
    obtain ⟨hv_11, hr_12⟩ := hp_r9
    try rw [L_0] at hv_11
    refine lv_iadd hx hb d_DiscMakerModel_partsInside_41 ?_
    refine lv_topi (fun v13 e_v13 => ?_)
    have t_v13 : v13.toInt = 28 + r9.toInt := by rw [e_v13]; exact i_add (by decide) rfl (by omega) (by omega)
    refine lv_iload_n hx hb d_DiscMakerModel_partsInside_42 rfl (lv_at hl 2 rfl) ?_
    refine lv_icmp_gt (tgt := 65) hx hb d_DiscMakerModel_partsInside_43 (by decide) (fun h_9 => ?_) (fun h_9 => ?_)
    · skip
      have g43_27 : v4.toInt < v13.toInt := (i_lt rfl rfl).mp h_9
      refine lv_iload hx hb d_DiscMakerModel_partsInside_65 (lv_at hl 0 rfl) ?_
      have hP9 := hP.sub (ws' := [(h0, .inr (11, MO ma sv_thrown sv_length sv_nodes sv_many sv_directories sv_runsFrom sv_runs sv_read sv_wrong sv_isNamed sv_goes sv_goesSize sv_goesAt sv_targetParts sv_isRoot)), ((ma 16), .inl (cJ, 46080, .inr (.inl G_10))), ((ma 1), .inl (cI, 40, .inl fK)), ((ma 9), .inl (cI, 40, .inl fNS)), ((ma 10), .inl (cB, 8000, .inl fT)), ((ma 11), .inl (cI, 40, .inl fTS)), ((ma 13), .inl (cI, 40, .inl fBs)), ((ma 15), .inl (cI, 40, .inl fEs))]) [2, 3, 4, 5, 6, 7, 0, 1] rfl
      have hD9 := hD.sub (ws' := [(h0, .inr (11, MO ma sv_thrown sv_length sv_nodes sv_many sv_directories sv_runsFrom sv_runs sv_read sv_wrong sv_isNamed sv_goes sv_goesSize sv_goesAt sv_targetParts sv_isRoot)), ((ma 16), .inl (cJ, 46080, .inr (.inl G_10))), ((ma 1), .inl (cI, 40, .inl fK)), ((ma 9), .inl (cI, 40, .inl fNS)), ((ma 10), .inl (cB, 8000, .inl fT)), ((ma 11), .inl (cI, 40, .inl fTS)), ((ma 13), .inl (cI, 40, .inl fBs)), ((ma 15), .inl (cI, 40, .inl fEs))]) [2, 3, 4, 5, 6, 7, 0, 1] (by decide) rfl
      exact W.iret (v := 0) hx hb hr (fun t ht hW => ⟨⟨0, G_10, rfl, (by (try dsimp only); first | assumption | omega | trivial), by rw [ht]; exact hP9, hD9⟩, hS.F ht⟩) hS.2.2 d_DiscMakerModel_partsInside_67
    · skip
      have g43_27 : ¬ v4.toInt < v13.toInt := fun h8 => h_9 ((i_lt rfl rfl).mpr h8)
      refine lv_iload hx hb d_DiscMakerModel_partsInside_46 (lv_at hl 1 rfl) ?_
      refine lv_aload_n hx hb d_DiscMakerModel_partsInside_48 rfl (lv_at hl 3 rfl) ?_
      refine lv_iload hx hb d_DiscMakerModel_partsInside_49 (lv_at hl 0 rfl) ?_
      refine lv_iload_n hx hb d_DiscMakerModel_partsInside_51 rfl (lv_at hl 4 rfl) ?_
      refine lv_iload_n hx hb d_DiscMakerModel_partsInside_52 rfl (lv_at hl 5 rfl) ?_
      have hPc := hP.sub (ws' := [(h0, .inr (11, MO ma sv_thrown sv_length sv_nodes sv_many sv_directories sv_runsFrom sv_runs sv_read sv_wrong sv_isNamed sv_goes sv_goesSize sv_goesAt sv_targetParts sv_isRoot)), ((ma 16), .inl (cJ, 46080, .inr (.inl G_10))), ((ma 1), .inl (cI, 40, .inl fK)), ((ma 9), .inl (cI, 40, .inl fNS)), ((ma 10), .inl (cB, 8000, .inl fT)), ((ma 11), .inl (cI, 40, .inl fTS))]) [2, 3, 4, 5, 6, 7] rfl
      have hDc := hD.sub (ws' := [(h0, .inr (11, MO ma sv_thrown sv_length sv_nodes sv_many sv_directories sv_runsFrom sv_runs sv_read sv_wrong sv_isNamed sv_goes sv_goesSize sv_goesAt sv_targetParts sv_isRoot)), ((ma 16), .inl (cJ, 46080, .inr (.inl G_10))), ((ma 1), .inl (cI, 40, .inl fK)), ((ma 9), .inl (cI, 40, .inl fNS)), ((ma 10), .inl (cB, 8000, .inl fT)), ((ma 11), .inl (cI, 40, .inl fTS))]) [2, 3, 4, 5, 6, 7] (by decide) rfl
      have hFc := va_free (wc := [(h0, .inr (11, MO ma sv_thrown sv_length sv_nodes sv_many sv_directories sv_runsFrom sv_runs sv_read sv_wrong sv_isNamed sv_goes sv_goesSize sv_goesAt sv_targetParts sv_isRoot)), ((ma 16), .inl (cJ, 46080, .inr (.inl G_10))), ((ma 1), .inl (cI, 40, .inl fK)), ((ma 9), .inl (cI, 40, .inl fNS)), ((ma 10), .inl (cB, 8000, .inl fT)), ((ma 11), .inl (cI, 40, .inl fTS))]) hD hS hA [2, 3, 4, 5, 6, 7] rfl
      have hkc : 0 ≤ 0 := by decide
      have hks : 0 ≤ 0 := by decide
      refine va_calli (va_runV (C := "DiscMakerModel") (As := [.int 0, .int x, .int y]) (rest := [.int 28]) ⟨hx, hb, hml, hown, hts⟩ (m_partSize l D cB cI cJ cZ cN cF H.size h0 ma sv_thrown sv_length sv_nodes sv_many sv_directories sv_runsFrom sv_runs sv_read sv_wrong sv_isNamed sv_goes sv_goesSize sv_goesAt sv_targetParts sv_isRoot G_10 fK fNS fT fTS 0 x y (by (try dsimp only); first | assumption | omega | trivial) (by (try dsimp only); first | assumption | omega | trivial) (by (try dsimp only); first | assumption | omega | trivial) (by (try dsimp only); first | assumption | omega | trivial) (by (try dsimp only); first | assumption | omega | trivial)) (cwV 3 hts (lg_goodV k1715 k1717 k76 k125 kc_DiscMakerModel_partSize) rfl rfl rfl (by decide +kernel) ⟨Nat.le_of_ble_eq_true rfl, Nat.le_of_ble_eq_true rfl⟩) ⟨fun a U g mk q => by obtain ⟨q0, q1, qP, qK, qN, qD⟩ := q; exact ⟨q0, q1, qP, va_K.moved (u := U) (U := U.calling g mk a) (Vm.Alike.refl U.vm) qK, qN.calling, qD⟩, va_recv hK hP (ci := 11) (q0 := 2) rfl rfl, fun U hU hW => ⟨rfl, by rw [hU], by rw [hU]; exact hPc, va_K.moved hW.alike hK, NN.warm hW hN, hDc.weaken (fun _ _ _ _ => trivial)⟩⟩ rfl rfl hl.1 rfl (lv_room (Nat.le_of_ble_eq_true rfl)) d_DiscMakerModel_partsInside_53 ⟨hkc, hks⟩) hS (fun q _ h => hFc q h) hFc (fun r14 u t H1 locs ht hvm hp_r14 hB hz1 hk1 hS => ?_)
      obtain ⟨G_15, rfl⟩ : ∃ z, z = u := ⟨_, rfl⟩
      obtain ⟨hP1, hD1⟩ := hB
      rw [ht] at hP1
      obtain ⟨hP, hD⟩ := va_join (wr := [((ma 13), .inl (cI, 40, .inl fBs)), ((ma 15), .inl (cI, 40, .inl fEs))]) (w1 := [(h0, .inr (11, MO ma sv_thrown sv_length sv_nodes sv_many sv_directories sv_runsFrom sv_runs sv_read sv_wrong sv_isNamed sv_goes sv_goesSize sv_goesAt sv_targetParts sv_isRoot)), ((ma 16), .inl (cJ, 46080, .inr (.inl G_15))), ((ma 1), .inl (cI, 40, .inl fK)), ((ma 9), .inl (cI, 40, .inl fNS)), ((ma 10), .inl (cB, 8000, .inl fT)), ((ma 11), .inl (cI, 40, .inl fTS))]) hP hD [2, 3, 4, 5, 6, 7] [0, 1] rfl rfl (by decide) (by decide) hk1 hFc hP1 hD1
      clear hPc hDc hFc hP1 hD1 hk1 hz1
      generalize H1 = H at hP hS ⊢
      have hP : va_P D CL [((ma 13), .inl (cI, 40, .inl fBs)), ((ma 15), .inl (cI, 40, .inl fEs)), (h0, .inr (11, MO ma sv_thrown sv_length sv_nodes sv_many sv_directories sv_runsFrom sv_runs sv_read sv_wrong sv_isNamed sv_goes sv_goesSize sv_goesAt sv_targetParts sv_isRoot)), ((ma 16), .inl (cJ, 46080, .inr (.inl G_15))), ((ma 1), .inl (cI, 40, .inl fK)), ((ma 9), .inl (cI, 40, .inl fNS)), ((ma 10), .inl (cB, 8000, .inl fT)), ((ma 11), .inl (cI, 40, .inl fTS))] H := hP
      have hD : va_D A [((ma 13), .inl (cI, 40, .inl fBs)), ((ma 15), .inl (cI, 40, .inl fEs)), (h0, .inr (11, MO ma sv_thrown sv_length sv_nodes sv_many sv_directories sv_runsFrom sv_runs sv_read sv_wrong sv_isNamed sv_goes sv_goesSize sv_goesAt sv_targetParts sv_isRoot)), ((ma 16), .inl (cJ, 46080, .inr (.inl G_15))), ((ma 1), .inl (cI, 40, .inl fK)), ((ma 9), .inl (cI, 40, .inl fNS)), ((ma 10), .inl (cB, 8000, .inl fT)), ((ma 11), .inl (cI, 40, .inl fTS))] := hD
      try dsimp only at hp_r14
      obtain ⟨hv_16, hr_17⟩ := hp_r14
      try rw [L_0] at hv_16
      refine lv_iadd hx hb d_DiscMakerModel_partsInside_56 ?_
      refine lv_topi (fun v18 e_v18 => ?_)
      have t_v18 : v18.toInt = 28 + r14.toInt := by rw [e_v18]; exact i_add (by decide) rfl (by omega) (by omega)
      refine lv_istore hx hb d_DiscMakerModel_partsInside_57 hl (by decide) rfl (fun ls hl => ?_)
      have hl : lv_has ls 6 [(4, .int v18), (5, .int 0), (3, .int v4), (0, .ref h0), (1, .int x), (2, .int y)] := hl
      refine lv_iinc (v := 1) hx hb d_DiscMakerModel_partsInside_59 hl (k := 1) rfl (by decide) (by decide) rfl (fun ls hl => ?_)
      have hl : lv_has ls 6 [(5, .int 1), (4, .int v18), (3, .int v4), (0, .ref h0), (1, .int x), (2, .int y)] := hl
      refine lv_goto (tgt := 31) hx hb d_DiscMakerModel_partsInside_62 (by decide) ?_
      refine lv_iload hx hb d_DiscMakerModel_partsInside_31 (lv_at hl 1 rfl) ?_
      refine lv_aload_n hx hb d_DiscMakerModel_partsInside_33 rfl (lv_at hl 3 rfl) ?_
      refine lv_iload hx hb d_DiscMakerModel_partsInside_34 (lv_at hl 0 rfl) ?_
      refine lv_iload_n hx hb d_DiscMakerModel_partsInside_36 rfl (lv_at hl 4 rfl) ?_
      refine lv_iload_n hx hb d_DiscMakerModel_partsInside_37 rfl (lv_at hl 5 rfl) ?_
      have hPc := hP.sub (ws' := [(h0, .inr (11, MO ma sv_thrown sv_length sv_nodes sv_many sv_directories sv_runsFrom sv_runs sv_read sv_wrong sv_isNamed sv_goes sv_goesSize sv_goesAt sv_targetParts sv_isRoot)), ((ma 16), .inl (cJ, 46080, .inr (.inl G_15))), ((ma 1), .inl (cI, 40, .inl fK)), ((ma 9), .inl (cI, 40, .inl fNS)), ((ma 10), .inl (cB, 8000, .inl fT)), ((ma 11), .inl (cI, 40, .inl fTS))]) [2, 3, 4, 5, 6, 7] rfl
      have hDc := hD.sub (ws' := [(h0, .inr (11, MO ma sv_thrown sv_length sv_nodes sv_many sv_directories sv_runsFrom sv_runs sv_read sv_wrong sv_isNamed sv_goes sv_goesSize sv_goesAt sv_targetParts sv_isRoot)), ((ma 16), .inl (cJ, 46080, .inr (.inl G_15))), ((ma 1), .inl (cI, 40, .inl fK)), ((ma 9), .inl (cI, 40, .inl fNS)), ((ma 10), .inl (cB, 8000, .inl fT)), ((ma 11), .inl (cI, 40, .inl fTS))]) [2, 3, 4, 5, 6, 7] (by decide) rfl
      have hFc := va_free (wc := [(h0, .inr (11, MO ma sv_thrown sv_length sv_nodes sv_many sv_directories sv_runsFrom sv_runs sv_read sv_wrong sv_isNamed sv_goes sv_goesSize sv_goesAt sv_targetParts sv_isRoot)), ((ma 16), .inl (cJ, 46080, .inr (.inl G_15))), ((ma 1), .inl (cI, 40, .inl fK)), ((ma 9), .inl (cI, 40, .inl fNS)), ((ma 10), .inl (cB, 8000, .inl fT)), ((ma 11), .inl (cI, 40, .inl fTS))]) hD hS hA [2, 3, 4, 5, 6, 7] rfl
      have hkc : 0 ≤ 0 := by decide
      have hks : 0 ≤ 0 := by decide
      refine va_calli (va_runV (C := "DiscMakerModel") (As := [.int 1, .int x, .int y]) (rest := [.int v18]) ⟨hx, hb, hml, hown, hts⟩ (m_partSize l D cB cI cJ cZ cN cF H.size h0 ma sv_thrown sv_length sv_nodes sv_many sv_directories sv_runsFrom sv_runs sv_read sv_wrong sv_isNamed sv_goes sv_goesSize sv_goesAt sv_targetParts sv_isRoot G_15 fK fNS fT fTS 1 x y (by (try dsimp only); first | assumption | omega | trivial) (by (try dsimp only); first | assumption | omega | trivial) (by (try dsimp only); first | assumption | omega | trivial) (by (try dsimp only); first | assumption | omega | trivial) (by (try dsimp only); first | assumption | omega | trivial)) (cwV 3 hts (lg_goodV k1715 k1717 k76 k125 kc_DiscMakerModel_partSize) rfl rfl rfl (by decide +kernel) ⟨Nat.le_of_ble_eq_true rfl, Nat.le_of_ble_eq_true rfl⟩) ⟨fun a U g mk q => by obtain ⟨q0, q1, qP, qK, qN, qD⟩ := q; exact ⟨q0, q1, qP, va_K.moved (u := U) (U := U.calling g mk a) (Vm.Alike.refl U.vm) qK, qN.calling, qD⟩, va_recv hK hP (ci := 11) (q0 := 2) rfl rfl, fun U hU hW => ⟨rfl, by rw [hU], by rw [hU]; exact hPc, va_K.moved hW.alike hK, NN.warm hW hN, hDc.weaken (fun _ _ _ _ => trivial)⟩⟩ rfl rfl hl.1 rfl (lv_room (Nat.le_of_ble_eq_true rfl)) d_DiscMakerModel_partsInside_38 ⟨hkc, hks⟩) hS (fun q _ h => hFc q h) hFc (fun r19 u t H1 locs ht hvm hp_r19 hB hz1 hk1 hS => ?_)
      obtain ⟨G_20, rfl⟩ : ∃ z, z = u := ⟨_, rfl⟩
      obtain ⟨hP1, hD1⟩ := hB
      rw [ht] at hP1
      obtain ⟨hP, hD⟩ := va_join (wr := [((ma 13), .inl (cI, 40, .inl fBs)), ((ma 15), .inl (cI, 40, .inl fEs))]) (w1 := [(h0, .inr (11, MO ma sv_thrown sv_length sv_nodes sv_many sv_directories sv_runsFrom sv_runs sv_read sv_wrong sv_isNamed sv_goes sv_goesSize sv_goesAt sv_targetParts sv_isRoot)), ((ma 16), .inl (cJ, 46080, .inr (.inl G_20))), ((ma 1), .inl (cI, 40, .inl fK)), ((ma 9), .inl (cI, 40, .inl fNS)), ((ma 10), .inl (cB, 8000, .inl fT)), ((ma 11), .inl (cI, 40, .inl fTS))]) hP hD [2, 3, 4, 5, 6, 7] [0, 1] rfl rfl (by decide) (by decide) hk1 hFc hP1 hD1
      clear hPc hDc hFc hP1 hD1 hk1 hz1
      generalize H1 = H at hP hS ⊢
      have hP : va_P D CL [((ma 13), .inl (cI, 40, .inl fBs)), ((ma 15), .inl (cI, 40, .inl fEs)), (h0, .inr (11, MO ma sv_thrown sv_length sv_nodes sv_many sv_directories sv_runsFrom sv_runs sv_read sv_wrong sv_isNamed sv_goes sv_goesSize sv_goesAt sv_targetParts sv_isRoot)), ((ma 16), .inl (cJ, 46080, .inr (.inl G_20))), ((ma 1), .inl (cI, 40, .inl fK)), ((ma 9), .inl (cI, 40, .inl fNS)), ((ma 10), .inl (cB, 8000, .inl fT)), ((ma 11), .inl (cI, 40, .inl fTS))] H := hP
      have hD : va_D A [((ma 13), .inl (cI, 40, .inl fBs)), ((ma 15), .inl (cI, 40, .inl fEs)), (h0, .inr (11, MO ma sv_thrown sv_length sv_nodes sv_many sv_directories sv_runsFrom sv_runs sv_read sv_wrong sv_isNamed sv_goes sv_goesSize sv_goesAt sv_targetParts sv_isRoot)), ((ma 16), .inl (cJ, 46080, .inr (.inl G_20))), ((ma 1), .inl (cI, 40, .inl fK)), ((ma 9), .inl (cI, 40, .inl fNS)), ((ma 10), .inl (cB, 8000, .inl fT)), ((ma 11), .inl (cI, 40, .inl fTS))] := hD
      try dsimp only at hp_r19
      obtain ⟨hv_21, hr_22⟩ := hp_r19
      try rw [L_1] at hv_21
      refine lv_iadd hx hb d_DiscMakerModel_partsInside_41 ?_
      refine lv_topi (fun v23 e_v23 => ?_)
      have t_v23 : v23.toInt = v18.toInt + r19.toInt := by rw [e_v23]; exact i_add rfl rfl (by omega) (by omega)
      refine lv_iload_n hx hb d_DiscMakerModel_partsInside_42 rfl (lv_at hl 2 rfl) ?_
      refine lv_icmp_gt (tgt := 65) hx hb d_DiscMakerModel_partsInside_43 (by decide) (fun h_9 => ?_) (fun h_9 => ?_)
      · skip
        have g43_48 : v4.toInt < v23.toInt := (i_lt rfl rfl).mp h_9
        refine lv_iload hx hb d_DiscMakerModel_partsInside_65 (lv_at hl 0 rfl) ?_
        have hP9 := hP.sub (ws' := [(h0, .inr (11, MO ma sv_thrown sv_length sv_nodes sv_many sv_directories sv_runsFrom sv_runs sv_read sv_wrong sv_isNamed sv_goes sv_goesSize sv_goesAt sv_targetParts sv_isRoot)), ((ma 16), .inl (cJ, 46080, .inr (.inl G_20))), ((ma 1), .inl (cI, 40, .inl fK)), ((ma 9), .inl (cI, 40, .inl fNS)), ((ma 10), .inl (cB, 8000, .inl fT)), ((ma 11), .inl (cI, 40, .inl fTS)), ((ma 13), .inl (cI, 40, .inl fBs)), ((ma 15), .inl (cI, 40, .inl fEs))]) [2, 3, 4, 5, 6, 7, 0, 1] rfl
        have hD9 := hD.sub (ws' := [(h0, .inr (11, MO ma sv_thrown sv_length sv_nodes sv_many sv_directories sv_runsFrom sv_runs sv_read sv_wrong sv_isNamed sv_goes sv_goesSize sv_goesAt sv_targetParts sv_isRoot)), ((ma 16), .inl (cJ, 46080, .inr (.inl G_20))), ((ma 1), .inl (cI, 40, .inl fK)), ((ma 9), .inl (cI, 40, .inl fNS)), ((ma 10), .inl (cB, 8000, .inl fT)), ((ma 11), .inl (cI, 40, .inl fTS)), ((ma 13), .inl (cI, 40, .inl fBs)), ((ma 15), .inl (cI, 40, .inl fEs))]) [2, 3, 4, 5, 6, 7, 0, 1] (by decide) rfl
        exact W.iret (v := 1) hx hb hr (fun t ht hW => ⟨⟨1, G_20, rfl, (by (try dsimp only); first | assumption | omega | trivial), by rw [ht]; exact hP9, hD9⟩, hS.F ht⟩) hS.2.2 d_DiscMakerModel_partsInside_67
      · skip
        have g43_48 : ¬ v4.toInt < v23.toInt := fun h8 => h_9 ((i_lt rfl rfl).mpr h8)
        refine lv_iload hx hb d_DiscMakerModel_partsInside_46 (lv_at hl 1 rfl) ?_
        refine lv_aload_n hx hb d_DiscMakerModel_partsInside_48 rfl (lv_at hl 3 rfl) ?_
        refine lv_iload hx hb d_DiscMakerModel_partsInside_49 (lv_at hl 0 rfl) ?_
        refine lv_iload_n hx hb d_DiscMakerModel_partsInside_51 rfl (lv_at hl 4 rfl) ?_
        refine lv_iload_n hx hb d_DiscMakerModel_partsInside_52 rfl (lv_at hl 5 rfl) ?_
        have hPc := hP.sub (ws' := [(h0, .inr (11, MO ma sv_thrown sv_length sv_nodes sv_many sv_directories sv_runsFrom sv_runs sv_read sv_wrong sv_isNamed sv_goes sv_goesSize sv_goesAt sv_targetParts sv_isRoot)), ((ma 16), .inl (cJ, 46080, .inr (.inl G_20))), ((ma 1), .inl (cI, 40, .inl fK)), ((ma 9), .inl (cI, 40, .inl fNS)), ((ma 10), .inl (cB, 8000, .inl fT)), ((ma 11), .inl (cI, 40, .inl fTS))]) [2, 3, 4, 5, 6, 7] rfl
        have hDc := hD.sub (ws' := [(h0, .inr (11, MO ma sv_thrown sv_length sv_nodes sv_many sv_directories sv_runsFrom sv_runs sv_read sv_wrong sv_isNamed sv_goes sv_goesSize sv_goesAt sv_targetParts sv_isRoot)), ((ma 16), .inl (cJ, 46080, .inr (.inl G_20))), ((ma 1), .inl (cI, 40, .inl fK)), ((ma 9), .inl (cI, 40, .inl fNS)), ((ma 10), .inl (cB, 8000, .inl fT)), ((ma 11), .inl (cI, 40, .inl fTS))]) [2, 3, 4, 5, 6, 7] (by decide) rfl
        have hFc := va_free (wc := [(h0, .inr (11, MO ma sv_thrown sv_length sv_nodes sv_many sv_directories sv_runsFrom sv_runs sv_read sv_wrong sv_isNamed sv_goes sv_goesSize sv_goesAt sv_targetParts sv_isRoot)), ((ma 16), .inl (cJ, 46080, .inr (.inl G_20))), ((ma 1), .inl (cI, 40, .inl fK)), ((ma 9), .inl (cI, 40, .inl fNS)), ((ma 10), .inl (cB, 8000, .inl fT)), ((ma 11), .inl (cI, 40, .inl fTS))]) hD hS hA [2, 3, 4, 5, 6, 7] rfl
        have hkc : 0 ≤ 0 := by decide
        have hks : 0 ≤ 0 := by decide
        refine va_calli (va_runV (C := "DiscMakerModel") (As := [.int 1, .int x, .int y]) (rest := [.int v18]) ⟨hx, hb, hml, hown, hts⟩ (m_partSize l D cB cI cJ cZ cN cF H.size h0 ma sv_thrown sv_length sv_nodes sv_many sv_directories sv_runsFrom sv_runs sv_read sv_wrong sv_isNamed sv_goes sv_goesSize sv_goesAt sv_targetParts sv_isRoot G_20 fK fNS fT fTS 1 x y (by (try dsimp only); first | assumption | omega | trivial) (by (try dsimp only); first | assumption | omega | trivial) (by (try dsimp only); first | assumption | omega | trivial) (by (try dsimp only); first | assumption | omega | trivial) (by (try dsimp only); first | assumption | omega | trivial)) (cwV 3 hts (lg_goodV k1715 k1717 k76 k125 kc_DiscMakerModel_partSize) rfl rfl rfl (by decide +kernel) ⟨Nat.le_of_ble_eq_true rfl, Nat.le_of_ble_eq_true rfl⟩) ⟨fun a U g mk q => by obtain ⟨q0, q1, qP, qK, qN, qD⟩ := q; exact ⟨q0, q1, qP, va_K.moved (u := U) (U := U.calling g mk a) (Vm.Alike.refl U.vm) qK, qN.calling, qD⟩, va_recv hK hP (ci := 11) (q0 := 2) rfl rfl, fun U hU hW => ⟨rfl, by rw [hU], by rw [hU]; exact hPc, va_K.moved hW.alike hK, NN.warm hW hN, hDc.weaken (fun _ _ _ _ => trivial)⟩⟩ rfl rfl hl.1 rfl (lv_room (Nat.le_of_ble_eq_true rfl)) d_DiscMakerModel_partsInside_53 ⟨hkc, hks⟩) hS (fun q _ h => hFc q h) hFc (fun r24 u t H1 locs ht hvm hp_r24 hB hz1 hk1 hS => ?_)
        obtain ⟨G_25, rfl⟩ : ∃ z, z = u := ⟨_, rfl⟩
        obtain ⟨hP1, hD1⟩ := hB
        rw [ht] at hP1
        obtain ⟨hP, hD⟩ := va_join (wr := [((ma 13), .inl (cI, 40, .inl fBs)), ((ma 15), .inl (cI, 40, .inl fEs))]) (w1 := [(h0, .inr (11, MO ma sv_thrown sv_length sv_nodes sv_many sv_directories sv_runsFrom sv_runs sv_read sv_wrong sv_isNamed sv_goes sv_goesSize sv_goesAt sv_targetParts sv_isRoot)), ((ma 16), .inl (cJ, 46080, .inr (.inl G_25))), ((ma 1), .inl (cI, 40, .inl fK)), ((ma 9), .inl (cI, 40, .inl fNS)), ((ma 10), .inl (cB, 8000, .inl fT)), ((ma 11), .inl (cI, 40, .inl fTS))]) hP hD [2, 3, 4, 5, 6, 7] [0, 1] rfl rfl (by decide) (by decide) hk1 hFc hP1 hD1
        clear hPc hDc hFc hP1 hD1 hk1 hz1
        generalize H1 = H at hP hS ⊢
        have hP : va_P D CL [((ma 13), .inl (cI, 40, .inl fBs)), ((ma 15), .inl (cI, 40, .inl fEs)), (h0, .inr (11, MO ma sv_thrown sv_length sv_nodes sv_many sv_directories sv_runsFrom sv_runs sv_read sv_wrong sv_isNamed sv_goes sv_goesSize sv_goesAt sv_targetParts sv_isRoot)), ((ma 16), .inl (cJ, 46080, .inr (.inl G_25))), ((ma 1), .inl (cI, 40, .inl fK)), ((ma 9), .inl (cI, 40, .inl fNS)), ((ma 10), .inl (cB, 8000, .inl fT)), ((ma 11), .inl (cI, 40, .inl fTS))] H := hP
        have hD : va_D A [((ma 13), .inl (cI, 40, .inl fBs)), ((ma 15), .inl (cI, 40, .inl fEs)), (h0, .inr (11, MO ma sv_thrown sv_length sv_nodes sv_many sv_directories sv_runsFrom sv_runs sv_read sv_wrong sv_isNamed sv_goes sv_goesSize sv_goesAt sv_targetParts sv_isRoot)), ((ma 16), .inl (cJ, 46080, .inr (.inl G_25))), ((ma 1), .inl (cI, 40, .inl fK)), ((ma 9), .inl (cI, 40, .inl fNS)), ((ma 10), .inl (cB, 8000, .inl fT)), ((ma 11), .inl (cI, 40, .inl fTS))] := hD
        try dsimp only at hp_r24
        obtain ⟨hv_26, hr_27⟩ := hp_r24
        try rw [L_1] at hv_26
        refine lv_iadd hx hb d_DiscMakerModel_partsInside_56 ?_
        refine lv_topi (fun v28 e_v28 => ?_)
        have t_v28 : v28.toInt = v18.toInt + r24.toInt := by rw [e_v28]; exact i_add rfl rfl (by omega) (by omega)
        refine lv_istore hx hb d_DiscMakerModel_partsInside_57 hl (by decide) rfl (fun ls hl => ?_)
        have hl : lv_has ls 6 [(4, .int v28), (5, .int 1), (3, .int v4), (0, .ref h0), (1, .int x), (2, .int y)] := hl
        refine lv_iinc (v := 2) hx hb d_DiscMakerModel_partsInside_59 hl (k := 1) rfl (by decide) (by decide) rfl (fun ls hl => ?_)
        have L_2 : (2 : Int32).toInt = 2 := by decide
        have hl : lv_has ls 6 [(5, .int 2), (4, .int v28), (3, .int v4), (0, .ref h0), (1, .int x), (2, .int y)] := hl
        refine lv_goto (tgt := 31) hx hb d_DiscMakerModel_partsInside_62 (by decide) ?_
        refine lv_iload hx hb d_DiscMakerModel_partsInside_31 (lv_at hl 1 rfl) ?_
        refine lv_aload_n hx hb d_DiscMakerModel_partsInside_33 rfl (lv_at hl 3 rfl) ?_
        refine lv_iload hx hb d_DiscMakerModel_partsInside_34 (lv_at hl 0 rfl) ?_
        refine lv_iload_n hx hb d_DiscMakerModel_partsInside_36 rfl (lv_at hl 4 rfl) ?_
        refine lv_iload_n hx hb d_DiscMakerModel_partsInside_37 rfl (lv_at hl 5 rfl) ?_
        have hPc := hP.sub (ws' := [(h0, .inr (11, MO ma sv_thrown sv_length sv_nodes sv_many sv_directories sv_runsFrom sv_runs sv_read sv_wrong sv_isNamed sv_goes sv_goesSize sv_goesAt sv_targetParts sv_isRoot)), ((ma 16), .inl (cJ, 46080, .inr (.inl G_25))), ((ma 1), .inl (cI, 40, .inl fK)), ((ma 9), .inl (cI, 40, .inl fNS)), ((ma 10), .inl (cB, 8000, .inl fT)), ((ma 11), .inl (cI, 40, .inl fTS))]) [2, 3, 4, 5, 6, 7] rfl
        have hDc := hD.sub (ws' := [(h0, .inr (11, MO ma sv_thrown sv_length sv_nodes sv_many sv_directories sv_runsFrom sv_runs sv_read sv_wrong sv_isNamed sv_goes sv_goesSize sv_goesAt sv_targetParts sv_isRoot)), ((ma 16), .inl (cJ, 46080, .inr (.inl G_25))), ((ma 1), .inl (cI, 40, .inl fK)), ((ma 9), .inl (cI, 40, .inl fNS)), ((ma 10), .inl (cB, 8000, .inl fT)), ((ma 11), .inl (cI, 40, .inl fTS))]) [2, 3, 4, 5, 6, 7] (by decide) rfl
        have hFc := va_free (wc := [(h0, .inr (11, MO ma sv_thrown sv_length sv_nodes sv_many sv_directories sv_runsFrom sv_runs sv_read sv_wrong sv_isNamed sv_goes sv_goesSize sv_goesAt sv_targetParts sv_isRoot)), ((ma 16), .inl (cJ, 46080, .inr (.inl G_25))), ((ma 1), .inl (cI, 40, .inl fK)), ((ma 9), .inl (cI, 40, .inl fNS)), ((ma 10), .inl (cB, 8000, .inl fT)), ((ma 11), .inl (cI, 40, .inl fTS))]) hD hS hA [2, 3, 4, 5, 6, 7] rfl
        have hkc : 0 ≤ 0 := by decide
        have hks : 0 ≤ 0 := by decide
        refine va_calli (va_runV (C := "DiscMakerModel") (As := [.int 2, .int x, .int y]) (rest := [.int v28]) ⟨hx, hb, hml, hown, hts⟩ (m_partSize l D cB cI cJ cZ cN cF H.size h0 ma sv_thrown sv_length sv_nodes sv_many sv_directories sv_runsFrom sv_runs sv_read sv_wrong sv_isNamed sv_goes sv_goesSize sv_goesAt sv_targetParts sv_isRoot G_25 fK fNS fT fTS 2 x y (by (try dsimp only); first | assumption | omega | trivial) (by (try dsimp only); first | assumption | omega | trivial) (by (try dsimp only); first | assumption | omega | trivial) (by (try dsimp only); first | assumption | omega | trivial) (by (try dsimp only); first | assumption | omega | trivial)) (cwV 3 hts (lg_goodV k1715 k1717 k76 k125 kc_DiscMakerModel_partSize) rfl rfl rfl (by decide +kernel) ⟨Nat.le_of_ble_eq_true rfl, Nat.le_of_ble_eq_true rfl⟩) ⟨fun a U g mk q => by obtain ⟨q0, q1, qP, qK, qN, qD⟩ := q; exact ⟨q0, q1, qP, va_K.moved (u := U) (U := U.calling g mk a) (Vm.Alike.refl U.vm) qK, qN.calling, qD⟩, va_recv hK hP (ci := 11) (q0 := 2) rfl rfl, fun U hU hW => ⟨rfl, by rw [hU], by rw [hU]; exact hPc, va_K.moved hW.alike hK, NN.warm hW hN, hDc.weaken (fun _ _ _ _ => trivial)⟩⟩ rfl rfl hl.1 rfl (lv_room (Nat.le_of_ble_eq_true rfl)) d_DiscMakerModel_partsInside_38 ⟨hkc, hks⟩) hS (fun q _ h => hFc q h) hFc (fun r29 u t H1 locs ht hvm hp_r29 hB hz1 hk1 hS => ?_)
        obtain ⟨G_30, rfl⟩ : ∃ z, z = u := ⟨_, rfl⟩
        obtain ⟨hP1, hD1⟩ := hB
        rw [ht] at hP1
        obtain ⟨hP, hD⟩ := va_join (wr := [((ma 13), .inl (cI, 40, .inl fBs)), ((ma 15), .inl (cI, 40, .inl fEs))]) (w1 := [(h0, .inr (11, MO ma sv_thrown sv_length sv_nodes sv_many sv_directories sv_runsFrom sv_runs sv_read sv_wrong sv_isNamed sv_goes sv_goesSize sv_goesAt sv_targetParts sv_isRoot)), ((ma 16), .inl (cJ, 46080, .inr (.inl G_30))), ((ma 1), .inl (cI, 40, .inl fK)), ((ma 9), .inl (cI, 40, .inl fNS)), ((ma 10), .inl (cB, 8000, .inl fT)), ((ma 11), .inl (cI, 40, .inl fTS))]) hP hD [2, 3, 4, 5, 6, 7] [0, 1] rfl rfl (by decide) (by decide) hk1 hFc hP1 hD1
        clear hPc hDc hFc hP1 hD1 hk1 hz1
        generalize H1 = H at hP hS ⊢
        have hP : va_P D CL [((ma 13), .inl (cI, 40, .inl fBs)), ((ma 15), .inl (cI, 40, .inl fEs)), (h0, .inr (11, MO ma sv_thrown sv_length sv_nodes sv_many sv_directories sv_runsFrom sv_runs sv_read sv_wrong sv_isNamed sv_goes sv_goesSize sv_goesAt sv_targetParts sv_isRoot)), ((ma 16), .inl (cJ, 46080, .inr (.inl G_30))), ((ma 1), .inl (cI, 40, .inl fK)), ((ma 9), .inl (cI, 40, .inl fNS)), ((ma 10), .inl (cB, 8000, .inl fT)), ((ma 11), .inl (cI, 40, .inl fTS))] H := hP
        have hD : va_D A [((ma 13), .inl (cI, 40, .inl fBs)), ((ma 15), .inl (cI, 40, .inl fEs)), (h0, .inr (11, MO ma sv_thrown sv_length sv_nodes sv_many sv_directories sv_runsFrom sv_runs sv_read sv_wrong sv_isNamed sv_goes sv_goesSize sv_goesAt sv_targetParts sv_isRoot)), ((ma 16), .inl (cJ, 46080, .inr (.inl G_30))), ((ma 1), .inl (cI, 40, .inl fK)), ((ma 9), .inl (cI, 40, .inl fNS)), ((ma 10), .inl (cB, 8000, .inl fT)), ((ma 11), .inl (cI, 40, .inl fTS))] := hD
        try dsimp only at hp_r29
        obtain ⟨hv_31, hr_32⟩ := hp_r29
        try rw [L_2] at hv_31
        refine lv_iadd hx hb d_DiscMakerModel_partsInside_41 ?_
        refine lv_topi (fun v33 e_v33 => ?_)
        have t_v33 : v33.toInt = v28.toInt + r29.toInt := by rw [e_v33]; exact i_add rfl rfl (by omega) (by omega)
        refine lv_iload_n hx hb d_DiscMakerModel_partsInside_42 rfl (lv_at hl 2 rfl) ?_
        refine lv_icmp_gt (tgt := 65) hx hb d_DiscMakerModel_partsInside_43 (by decide) (fun h_9 => ?_) (fun h_9 => ?_)
        · skip
          have g43_69 : v4.toInt < v33.toInt := (i_lt rfl rfl).mp h_9
          refine lv_iload hx hb d_DiscMakerModel_partsInside_65 (lv_at hl 0 rfl) ?_
          have hP9 := hP.sub (ws' := [(h0, .inr (11, MO ma sv_thrown sv_length sv_nodes sv_many sv_directories sv_runsFrom sv_runs sv_read sv_wrong sv_isNamed sv_goes sv_goesSize sv_goesAt sv_targetParts sv_isRoot)), ((ma 16), .inl (cJ, 46080, .inr (.inl G_30))), ((ma 1), .inl (cI, 40, .inl fK)), ((ma 9), .inl (cI, 40, .inl fNS)), ((ma 10), .inl (cB, 8000, .inl fT)), ((ma 11), .inl (cI, 40, .inl fTS)), ((ma 13), .inl (cI, 40, .inl fBs)), ((ma 15), .inl (cI, 40, .inl fEs))]) [2, 3, 4, 5, 6, 7, 0, 1] rfl
          have hD9 := hD.sub (ws' := [(h0, .inr (11, MO ma sv_thrown sv_length sv_nodes sv_many sv_directories sv_runsFrom sv_runs sv_read sv_wrong sv_isNamed sv_goes sv_goesSize sv_goesAt sv_targetParts sv_isRoot)), ((ma 16), .inl (cJ, 46080, .inr (.inl G_30))), ((ma 1), .inl (cI, 40, .inl fK)), ((ma 9), .inl (cI, 40, .inl fNS)), ((ma 10), .inl (cB, 8000, .inl fT)), ((ma 11), .inl (cI, 40, .inl fTS)), ((ma 13), .inl (cI, 40, .inl fBs)), ((ma 15), .inl (cI, 40, .inl fEs))]) [2, 3, 4, 5, 6, 7, 0, 1] (by decide) rfl
          exact W.iret (v := 2) hx hb hr (fun t ht hW => ⟨⟨2, G_30, rfl, (by (try dsimp only); first | assumption | omega | trivial), by rw [ht]; exact hP9, hD9⟩, hS.F ht⟩) hS.2.2 d_DiscMakerModel_partsInside_67
        · skip
          have g43_69 : ¬ v4.toInt < v33.toInt := fun h8 => h_9 ((i_lt rfl rfl).mpr h8)
          refine lv_iload hx hb d_DiscMakerModel_partsInside_46 (lv_at hl 1 rfl) ?_
          refine lv_aload_n hx hb d_DiscMakerModel_partsInside_48 rfl (lv_at hl 3 rfl) ?_
          refine lv_iload hx hb d_DiscMakerModel_partsInside_49 (lv_at hl 0 rfl) ?_
          refine lv_iload_n hx hb d_DiscMakerModel_partsInside_51 rfl (lv_at hl 4 rfl) ?_
          refine lv_iload_n hx hb d_DiscMakerModel_partsInside_52 rfl (lv_at hl 5 rfl) ?_
          have hPc := hP.sub (ws' := [(h0, .inr (11, MO ma sv_thrown sv_length sv_nodes sv_many sv_directories sv_runsFrom sv_runs sv_read sv_wrong sv_isNamed sv_goes sv_goesSize sv_goesAt sv_targetParts sv_isRoot)), ((ma 16), .inl (cJ, 46080, .inr (.inl G_30))), ((ma 1), .inl (cI, 40, .inl fK)), ((ma 9), .inl (cI, 40, .inl fNS)), ((ma 10), .inl (cB, 8000, .inl fT)), ((ma 11), .inl (cI, 40, .inl fTS))]) [2, 3, 4, 5, 6, 7] rfl
          have hDc := hD.sub (ws' := [(h0, .inr (11, MO ma sv_thrown sv_length sv_nodes sv_many sv_directories sv_runsFrom sv_runs sv_read sv_wrong sv_isNamed sv_goes sv_goesSize sv_goesAt sv_targetParts sv_isRoot)), ((ma 16), .inl (cJ, 46080, .inr (.inl G_30))), ((ma 1), .inl (cI, 40, .inl fK)), ((ma 9), .inl (cI, 40, .inl fNS)), ((ma 10), .inl (cB, 8000, .inl fT)), ((ma 11), .inl (cI, 40, .inl fTS))]) [2, 3, 4, 5, 6, 7] (by decide) rfl
          have hFc := va_free (wc := [(h0, .inr (11, MO ma sv_thrown sv_length sv_nodes sv_many sv_directories sv_runsFrom sv_runs sv_read sv_wrong sv_isNamed sv_goes sv_goesSize sv_goesAt sv_targetParts sv_isRoot)), ((ma 16), .inl (cJ, 46080, .inr (.inl G_30))), ((ma 1), .inl (cI, 40, .inl fK)), ((ma 9), .inl (cI, 40, .inl fNS)), ((ma 10), .inl (cB, 8000, .inl fT)), ((ma 11), .inl (cI, 40, .inl fTS))]) hD hS hA [2, 3, 4, 5, 6, 7] rfl
          have hkc : 0 ≤ 0 := by decide
          have hks : 0 ≤ 0 := by decide
          refine va_calli (va_runV (C := "DiscMakerModel") (As := [.int 2, .int x, .int y]) (rest := [.int v28]) ⟨hx, hb, hml, hown, hts⟩ (m_partSize l D cB cI cJ cZ cN cF H.size h0 ma sv_thrown sv_length sv_nodes sv_many sv_directories sv_runsFrom sv_runs sv_read sv_wrong sv_isNamed sv_goes sv_goesSize sv_goesAt sv_targetParts sv_isRoot G_30 fK fNS fT fTS 2 x y (by (try dsimp only); first | assumption | omega | trivial) (by (try dsimp only); first | assumption | omega | trivial) (by (try dsimp only); first | assumption | omega | trivial) (by (try dsimp only); first | assumption | omega | trivial) (by (try dsimp only); first | assumption | omega | trivial)) (cwV 3 hts (lg_goodV k1715 k1717 k76 k125 kc_DiscMakerModel_partSize) rfl rfl rfl (by decide +kernel) ⟨Nat.le_of_ble_eq_true rfl, Nat.le_of_ble_eq_true rfl⟩) ⟨fun a U g mk q => by obtain ⟨q0, q1, qP, qK, qN, qD⟩ := q; exact ⟨q0, q1, qP, va_K.moved (u := U) (U := U.calling g mk a) (Vm.Alike.refl U.vm) qK, qN.calling, qD⟩, va_recv hK hP (ci := 11) (q0 := 2) rfl rfl, fun U hU hW => ⟨rfl, by rw [hU], by rw [hU]; exact hPc, va_K.moved hW.alike hK, NN.warm hW hN, hDc.weaken (fun _ _ _ _ => trivial)⟩⟩ rfl rfl hl.1 rfl (lv_room (Nat.le_of_ble_eq_true rfl)) d_DiscMakerModel_partsInside_53 ⟨hkc, hks⟩) hS (fun q _ h => hFc q h) hFc (fun r34 u t H1 locs ht hvm hp_r34 hB hz1 hk1 hS => ?_)
          obtain ⟨G_35, rfl⟩ : ∃ z, z = u := ⟨_, rfl⟩
          obtain ⟨hP1, hD1⟩ := hB
          rw [ht] at hP1
          obtain ⟨hP, hD⟩ := va_join (wr := [((ma 13), .inl (cI, 40, .inl fBs)), ((ma 15), .inl (cI, 40, .inl fEs))]) (w1 := [(h0, .inr (11, MO ma sv_thrown sv_length sv_nodes sv_many sv_directories sv_runsFrom sv_runs sv_read sv_wrong sv_isNamed sv_goes sv_goesSize sv_goesAt sv_targetParts sv_isRoot)), ((ma 16), .inl (cJ, 46080, .inr (.inl G_35))), ((ma 1), .inl (cI, 40, .inl fK)), ((ma 9), .inl (cI, 40, .inl fNS)), ((ma 10), .inl (cB, 8000, .inl fT)), ((ma 11), .inl (cI, 40, .inl fTS))]) hP hD [2, 3, 4, 5, 6, 7] [0, 1] rfl rfl (by decide) (by decide) hk1 hFc hP1 hD1
          clear hPc hDc hFc hP1 hD1 hk1 hz1
          generalize H1 = H at hP hS ⊢
          have hP : va_P D CL [((ma 13), .inl (cI, 40, .inl fBs)), ((ma 15), .inl (cI, 40, .inl fEs)), (h0, .inr (11, MO ma sv_thrown sv_length sv_nodes sv_many sv_directories sv_runsFrom sv_runs sv_read sv_wrong sv_isNamed sv_goes sv_goesSize sv_goesAt sv_targetParts sv_isRoot)), ((ma 16), .inl (cJ, 46080, .inr (.inl G_35))), ((ma 1), .inl (cI, 40, .inl fK)), ((ma 9), .inl (cI, 40, .inl fNS)), ((ma 10), .inl (cB, 8000, .inl fT)), ((ma 11), .inl (cI, 40, .inl fTS))] H := hP
          have hD : va_D A [((ma 13), .inl (cI, 40, .inl fBs)), ((ma 15), .inl (cI, 40, .inl fEs)), (h0, .inr (11, MO ma sv_thrown sv_length sv_nodes sv_many sv_directories sv_runsFrom sv_runs sv_read sv_wrong sv_isNamed sv_goes sv_goesSize sv_goesAt sv_targetParts sv_isRoot)), ((ma 16), .inl (cJ, 46080, .inr (.inl G_35))), ((ma 1), .inl (cI, 40, .inl fK)), ((ma 9), .inl (cI, 40, .inl fNS)), ((ma 10), .inl (cB, 8000, .inl fT)), ((ma 11), .inl (cI, 40, .inl fTS))] := hD
          try dsimp only at hp_r34
          obtain ⟨hv_36, hr_37⟩ := hp_r34
          try rw [L_2] at hv_36
          refine lv_iadd hx hb d_DiscMakerModel_partsInside_56 ?_
          refine lv_topi (fun v38 e_v38 => ?_)
          have t_v38 : v38.toInt = v28.toInt + r34.toInt := by rw [e_v38]; exact i_add rfl rfl (by omega) (by omega)
          refine lv_istore hx hb d_DiscMakerModel_partsInside_57 hl (by decide) rfl (fun ls hl => ?_)
          have hl : lv_has ls 6 [(4, .int v38), (5, .int 2), (3, .int v4), (0, .ref h0), (1, .int x), (2, .int y)] := hl
          refine lv_iinc (v := 3) hx hb d_DiscMakerModel_partsInside_59 hl (k := 1) rfl (by decide) (by decide) rfl (fun ls hl => ?_)
          have L_3 : (3 : Int32).toInt = 3 := by decide
          have hl : lv_has ls 6 [(5, .int 3), (4, .int v38), (3, .int v4), (0, .ref h0), (1, .int x), (2, .int y)] := hl
          refine lv_goto (tgt := 31) hx hb d_DiscMakerModel_partsInside_62 (by decide) ?_
          refine lv_iload hx hb d_DiscMakerModel_partsInside_31 (lv_at hl 1 rfl) ?_
          refine lv_aload_n hx hb d_DiscMakerModel_partsInside_33 rfl (lv_at hl 3 rfl) ?_
          refine lv_iload hx hb d_DiscMakerModel_partsInside_34 (lv_at hl 0 rfl) ?_
          refine lv_iload_n hx hb d_DiscMakerModel_partsInside_36 rfl (lv_at hl 4 rfl) ?_
          refine lv_iload_n hx hb d_DiscMakerModel_partsInside_37 rfl (lv_at hl 5 rfl) ?_
          have hPc := hP.sub (ws' := [(h0, .inr (11, MO ma sv_thrown sv_length sv_nodes sv_many sv_directories sv_runsFrom sv_runs sv_read sv_wrong sv_isNamed sv_goes sv_goesSize sv_goesAt sv_targetParts sv_isRoot)), ((ma 16), .inl (cJ, 46080, .inr (.inl G_35))), ((ma 1), .inl (cI, 40, .inl fK)), ((ma 9), .inl (cI, 40, .inl fNS)), ((ma 10), .inl (cB, 8000, .inl fT)), ((ma 11), .inl (cI, 40, .inl fTS))]) [2, 3, 4, 5, 6, 7] rfl
          have hDc := hD.sub (ws' := [(h0, .inr (11, MO ma sv_thrown sv_length sv_nodes sv_many sv_directories sv_runsFrom sv_runs sv_read sv_wrong sv_isNamed sv_goes sv_goesSize sv_goesAt sv_targetParts sv_isRoot)), ((ma 16), .inl (cJ, 46080, .inr (.inl G_35))), ((ma 1), .inl (cI, 40, .inl fK)), ((ma 9), .inl (cI, 40, .inl fNS)), ((ma 10), .inl (cB, 8000, .inl fT)), ((ma 11), .inl (cI, 40, .inl fTS))]) [2, 3, 4, 5, 6, 7] (by decide) rfl
          have hFc := va_free (wc := [(h0, .inr (11, MO ma sv_thrown sv_length sv_nodes sv_many sv_directories sv_runsFrom sv_runs sv_read sv_wrong sv_isNamed sv_goes sv_goesSize sv_goesAt sv_targetParts sv_isRoot)), ((ma 16), .inl (cJ, 46080, .inr (.inl G_35))), ((ma 1), .inl (cI, 40, .inl fK)), ((ma 9), .inl (cI, 40, .inl fNS)), ((ma 10), .inl (cB, 8000, .inl fT)), ((ma 11), .inl (cI, 40, .inl fTS))]) hD hS hA [2, 3, 4, 5, 6, 7] rfl
          have hkc : 0 ≤ 0 := by decide
          have hks : 0 ≤ 0 := by decide
          refine va_calli (va_runV (C := "DiscMakerModel") (As := [.int 3, .int x, .int y]) (rest := [.int v38]) ⟨hx, hb, hml, hown, hts⟩ (m_partSize l D cB cI cJ cZ cN cF H.size h0 ma sv_thrown sv_length sv_nodes sv_many sv_directories sv_runsFrom sv_runs sv_read sv_wrong sv_isNamed sv_goes sv_goesSize sv_goesAt sv_targetParts sv_isRoot G_35 fK fNS fT fTS 3 x y (by (try dsimp only); first | assumption | omega | trivial) (by (try dsimp only); first | assumption | omega | trivial) (by (try dsimp only); first | assumption | omega | trivial) (by (try dsimp only); first | assumption | omega | trivial) (by (try dsimp only); first | assumption | omega | trivial)) (cwV 3 hts (lg_goodV k1715 k1717 k76 k125 kc_DiscMakerModel_partSize) rfl rfl rfl (by decide +kernel) ⟨Nat.le_of_ble_eq_true rfl, Nat.le_of_ble_eq_true rfl⟩) ⟨fun a U g mk q => by obtain ⟨q0, q1, qP, qK, qN, qD⟩ := q; exact ⟨q0, q1, qP, va_K.moved (u := U) (U := U.calling g mk a) (Vm.Alike.refl U.vm) qK, qN.calling, qD⟩, va_recv hK hP (ci := 11) (q0 := 2) rfl rfl, fun U hU hW => ⟨rfl, by rw [hU], by rw [hU]; exact hPc, va_K.moved hW.alike hK, NN.warm hW hN, hDc.weaken (fun _ _ _ _ => trivial)⟩⟩ rfl rfl hl.1 rfl (lv_room (Nat.le_of_ble_eq_true rfl)) d_DiscMakerModel_partsInside_38 ⟨hkc, hks⟩) hS (fun q _ h => hFc q h) hFc (fun r39 u t H1 locs ht hvm hp_r39 hB hz1 hk1 hS => ?_)
          obtain ⟨G_40, rfl⟩ : ∃ z, z = u := ⟨_, rfl⟩
          obtain ⟨hP1, hD1⟩ := hB
          rw [ht] at hP1
          obtain ⟨hP, hD⟩ := va_join (wr := [((ma 13), .inl (cI, 40, .inl fBs)), ((ma 15), .inl (cI, 40, .inl fEs))]) (w1 := [(h0, .inr (11, MO ma sv_thrown sv_length sv_nodes sv_many sv_directories sv_runsFrom sv_runs sv_read sv_wrong sv_isNamed sv_goes sv_goesSize sv_goesAt sv_targetParts sv_isRoot)), ((ma 16), .inl (cJ, 46080, .inr (.inl G_40))), ((ma 1), .inl (cI, 40, .inl fK)), ((ma 9), .inl (cI, 40, .inl fNS)), ((ma 10), .inl (cB, 8000, .inl fT)), ((ma 11), .inl (cI, 40, .inl fTS))]) hP hD [2, 3, 4, 5, 6, 7] [0, 1] rfl rfl (by decide) (by decide) hk1 hFc hP1 hD1
          clear hPc hDc hFc hP1 hD1 hk1 hz1
          generalize H1 = H at hP hS ⊢
          have hP : va_P D CL [((ma 13), .inl (cI, 40, .inl fBs)), ((ma 15), .inl (cI, 40, .inl fEs)), (h0, .inr (11, MO ma sv_thrown sv_length sv_nodes sv_many sv_directories sv_runsFrom sv_runs sv_read sv_wrong sv_isNamed sv_goes sv_goesSize sv_goesAt sv_targetParts sv_isRoot)), ((ma 16), .inl (cJ, 46080, .inr (.inl G_40))), ((ma 1), .inl (cI, 40, .inl fK)), ((ma 9), .inl (cI, 40, .inl fNS)), ((ma 10), .inl (cB, 8000, .inl fT)), ((ma 11), .inl (cI, 40, .inl fTS))] H := hP
          have hD : va_D A [((ma 13), .inl (cI, 40, .inl fBs)), ((ma 15), .inl (cI, 40, .inl fEs)), (h0, .inr (11, MO ma sv_thrown sv_length sv_nodes sv_many sv_directories sv_runsFrom sv_runs sv_read sv_wrong sv_isNamed sv_goes sv_goesSize sv_goesAt sv_targetParts sv_isRoot)), ((ma 16), .inl (cJ, 46080, .inr (.inl G_40))), ((ma 1), .inl (cI, 40, .inl fK)), ((ma 9), .inl (cI, 40, .inl fNS)), ((ma 10), .inl (cB, 8000, .inl fT)), ((ma 11), .inl (cI, 40, .inl fTS))] := hD
          try dsimp only at hp_r39
          obtain ⟨hv_41, hr_42⟩ := hp_r39
          try rw [L_3] at hv_41
          refine lv_iadd hx hb d_DiscMakerModel_partsInside_41 ?_
          refine lv_topi (fun v43 e_v43 => ?_)
          have t_v43 : v43.toInt = v38.toInt + r39.toInt := by rw [e_v43]; exact i_add rfl rfl (by omega) (by omega)
          refine lv_iload_n hx hb d_DiscMakerModel_partsInside_42 rfl (lv_at hl 2 rfl) ?_
          refine lv_icmp_gt (tgt := 65) hx hb d_DiscMakerModel_partsInside_43 (by decide) (fun h_9 => ?_) (fun h_9 => ?_)
          · skip
            have g43_90 : v4.toInt < v43.toInt := (i_lt rfl rfl).mp h_9
            refine lv_iload hx hb d_DiscMakerModel_partsInside_65 (lv_at hl 0 rfl) ?_
            have hP9 := hP.sub (ws' := [(h0, .inr (11, MO ma sv_thrown sv_length sv_nodes sv_many sv_directories sv_runsFrom sv_runs sv_read sv_wrong sv_isNamed sv_goes sv_goesSize sv_goesAt sv_targetParts sv_isRoot)), ((ma 16), .inl (cJ, 46080, .inr (.inl G_40))), ((ma 1), .inl (cI, 40, .inl fK)), ((ma 9), .inl (cI, 40, .inl fNS)), ((ma 10), .inl (cB, 8000, .inl fT)), ((ma 11), .inl (cI, 40, .inl fTS)), ((ma 13), .inl (cI, 40, .inl fBs)), ((ma 15), .inl (cI, 40, .inl fEs))]) [2, 3, 4, 5, 6, 7, 0, 1] rfl
            have hD9 := hD.sub (ws' := [(h0, .inr (11, MO ma sv_thrown sv_length sv_nodes sv_many sv_directories sv_runsFrom sv_runs sv_read sv_wrong sv_isNamed sv_goes sv_goesSize sv_goesAt sv_targetParts sv_isRoot)), ((ma 16), .inl (cJ, 46080, .inr (.inl G_40))), ((ma 1), .inl (cI, 40, .inl fK)), ((ma 9), .inl (cI, 40, .inl fNS)), ((ma 10), .inl (cB, 8000, .inl fT)), ((ma 11), .inl (cI, 40, .inl fTS)), ((ma 13), .inl (cI, 40, .inl fBs)), ((ma 15), .inl (cI, 40, .inl fEs))]) [2, 3, 4, 5, 6, 7, 0, 1] (by decide) rfl
            exact W.iret (v := 3) hx hb hr (fun t ht hW => ⟨⟨3, G_40, rfl, (by (try dsimp only); first | assumption | omega | trivial), by rw [ht]; exact hP9, hD9⟩, hS.F ht⟩) hS.2.2 d_DiscMakerModel_partsInside_67
          · skip
            have g43_90 : ¬ v4.toInt < v43.toInt := fun h8 => h_9 ((i_lt rfl rfl).mpr h8)
            exfalso
            omega
  · skip
    have g19_14 : ¬ v4.toInt < r5.toInt := fun h8 => h_9 ((i_lt rfl rfl).mpr h8)
    refine lv_iconst (v := 4) hx hb d_DiscMakerModel_partsInside_22 (by decide) ?_
    have hP9 := hP.sub (ws' := [(h0, .inr (11, MO ma sv_thrown sv_length sv_nodes sv_many sv_directories sv_runsFrom sv_runs sv_read sv_wrong sv_isNamed sv_goes sv_goesSize sv_goesAt sv_targetParts sv_isRoot)), ((ma 16), .inl (cJ, 46080, .inr (.inl G_6))), ((ma 1), .inl (cI, 40, .inl fK)), ((ma 9), .inl (cI, 40, .inl fNS)), ((ma 10), .inl (cB, 8000, .inl fT)), ((ma 11), .inl (cI, 40, .inl fTS)), ((ma 13), .inl (cI, 40, .inl fBs)), ((ma 15), .inl (cI, 40, .inl fEs))]) [2, 3, 4, 5, 6, 7, 0, 1] rfl
    have hD9 := hD.sub (ws' := [(h0, .inr (11, MO ma sv_thrown sv_length sv_nodes sv_many sv_directories sv_runsFrom sv_runs sv_read sv_wrong sv_isNamed sv_goes sv_goesSize sv_goesAt sv_targetParts sv_isRoot)), ((ma 16), .inl (cJ, 46080, .inr (.inl G_6))), ((ma 1), .inl (cI, 40, .inl fK)), ((ma 9), .inl (cI, 40, .inl fNS)), ((ma 10), .inl (cB, 8000, .inl fT)), ((ma 11), .inl (cI, 40, .inl fTS)), ((ma 13), .inl (cI, 40, .inl fBs)), ((ma 15), .inl (cI, 40, .inl fEs))]) [2, 3, 4, 5, 6, 7, 0, 1] (by decide) rfl
    exact W.iret (v := 4) hx hb hr (fun t ht hW => ⟨⟨4, G_6, rfl, (by (try dsimp only); first | assumption | omega | trivial), by rw [ht]; exact hP9, hD9⟩, hS.F ht⟩) hS.2.2 d_DiscMakerModel_partsInside_23

theorem d_DiscMakerModel_outside_0 : decode b_DiscMakerModel_outside 0 = .ok (.iconst 0, 1) := by decide +kernel
theorem d_DiscMakerModel_outside_1 : decode b_DiscMakerModel_outside 1 = .ok (.istore_n 3, 1) := by decide +kernel
theorem d_DiscMakerModel_outside_2 : decode b_DiscMakerModel_outside 2 = .ok (.aload_n 0, 1) := by decide +kernel
theorem d_DiscMakerModel_outside_3 : decode b_DiscMakerModel_outside 3 = .ok (.iload_n 1, 1) := by decide +kernel
theorem d_DiscMakerModel_outside_4 : decode b_DiscMakerModel_outside 4 = .ok (.iload_n 2, 1) := by decide +kernel
theorem d_DiscMakerModel_outside_5 : decode b_DiscMakerModel_outside 5 = .ok (.invokevirtual 222, 3) := by decide +kernel
theorem d_DiscMakerModel_outside_8 : decode b_DiscMakerModel_outside 8 = .ok (.istore 4, 2) := by decide +kernel
theorem d_DiscMakerModel_outside_10 : decode b_DiscMakerModel_outside 10 = .ok (.iload 4, 2) := by decide +kernel
theorem d_DiscMakerModel_outside_12 : decode b_DiscMakerModel_outside 12 = .ok (.iconst 4, 1) := by decide +kernel
theorem d_DiscMakerModel_outside_13 : decode b_DiscMakerModel_outside 13 = .ok (.if_icmp .ge 20, 3) := by decide +kernel
theorem d_DiscMakerModel_outside_16 : decode b_DiscMakerModel_outside 16 = .ok (.iload_n 3, 1) := by decide +kernel
theorem d_DiscMakerModel_outside_17 : decode b_DiscMakerModel_outside 17 = .ok (.aload_n 0, 1) := by decide +kernel
theorem d_DiscMakerModel_outside_18 : decode b_DiscMakerModel_outside 18 = .ok (.iload 4, 2) := by decide +kernel
theorem d_DiscMakerModel_outside_20 : decode b_DiscMakerModel_outside 20 = .ok (.iload_n 1, 1) := by decide +kernel
theorem d_DiscMakerModel_outside_21 : decode b_DiscMakerModel_outside 21 = .ok (.iload_n 2, 1) := by decide +kernel
theorem d_DiscMakerModel_outside_22 : decode b_DiscMakerModel_outside 22 = .ok (.invokevirtual 213, 3) := by decide +kernel
theorem d_DiscMakerModel_outside_25 : decode b_DiscMakerModel_outside 25 = .ok (.iadd, 1) := by decide +kernel
theorem d_DiscMakerModel_outside_26 : decode b_DiscMakerModel_outside 26 = .ok (.istore_n 3, 1) := by decide +kernel
theorem d_DiscMakerModel_outside_27 : decode b_DiscMakerModel_outside 27 = .ok (.iinc 4 1, 3) := by decide +kernel
theorem d_DiscMakerModel_outside_30 : decode b_DiscMakerModel_outside 30 = .ok (.goto (-20), 3) := by decide +kernel
theorem d_DiscMakerModel_outside_33 : decode b_DiscMakerModel_outside 33 = .ok (.iload_n 3, 1) := by decide +kernel
theorem d_DiscMakerModel_outside_34 : decode b_DiscMakerModel_outside 34 = .ok (.ireturn, 1) := by decide +kernel
set_option maxHeartbeats 4000000 in
set_option maxRecDepth 100000 in
theorem m_outside (l : Launch) (D : va_G) (cB cI cJ cZ cN cF : ClassId) (sz : Nat) (h0 : Nat) (ma : Nat → Nat) (sv_thrown sv_length sv_nodes sv_many sv_directories sv_runsFrom sv_runs sv_read sv_wrong sv_isNamed sv_goes sv_goesSize sv_goesAt sv_targetParts sv_isRoot : Int32) (F : Nat → Int64) (fK : Nat → Int32) (fNS : Nat → Int32) (fT : Nat → Int32) (fTS : Nat → Int32) (fBs : Nat → Int32) (fEs : Nat → Int32) (x : Int32) (y : Int32) (hy0 : 0 ≤ y.toInt ∧ y.toInt < 40) (hKi : Rg 0 2 40 fK) (hNS : Rg 0 30 40 fNS) (hTS : Rg 0 200 40 fTS) (hBs : Rg 0 8 40 fBs) (hEs : Rg 0 3 40 fEs) : Met l y_DiscMakerModel_outside w_DiscMakerModel_outside ({ frames := 6, cells := 0, slots := 0, locals := 148 }) (va_Pc [.ref h0, .int x, .int y] (fun U => U.heap.size = sz ∧ va_P D CL [(h0, .inr (11, MO ma sv_thrown sv_length sv_nodes sv_many sv_directories sv_runsFrom sv_runs sv_read sv_wrong sv_isNamed sv_goes sv_goesSize sv_goesAt sv_targetParts sv_isRoot)), ((ma 16), .inl (cJ, 46080, .inr (.inl F))), ((ma 1), .inl (cI, 40, .inl fK)), ((ma 9), .inl (cI, 40, .inl fNS)), ((ma 10), .inl (cB, 8000, .inl fT)), ((ma 11), .inl (cI, 40, .inl fTS)), ((ma 13), .inl (cI, 40, .inl fBs)), ((ma 15), .inl (cI, 40, .inl fEs))] U.heap ∧ va_K D CL (TY cB cI cJ cZ cN cF) U ∧ NN U ∧ va_D (fun _ => True) [(h0, .inr (11, MO ma sv_thrown sv_length sv_nodes sv_many sv_directories sv_runsFrom sv_runs sv_read sv_wrong sv_isNamed sv_goes sv_goesSize sv_goesAt sv_targetParts sv_isRoot)), ((ma 16), .inl (cJ, 46080, .inr (.inl F))), ((ma 1), .inl (cI, 40, .inl fK)), ((ma 9), .inl (cI, 40, .inl fNS)), ((ma 10), .inl (cB, 8000, .inl fT)), ((ma 11), .inl (cI, 40, .inl fTS)), ((ma 13), .inl (cI, 40, .inl fBs)), ((ma 15), .inl (cI, 40, .inl fEs))])) (va_Qi (fun (r : Int32) (u : (Nat → Int64)) => match u with | G => ((psF fK fNS fT fTS 0 x.toInt y.toNatClampNeg + psF fK fNS fT fTS 1 x.toInt y.toNatClampNeg + psF fK fNS fT fTS 2 x.toInt y.toNatClampNeg + psF fK fNS fT fTS 3 x.toInt y.toNatClampNeg ≤ (254 - (33 + idF fK fNS fBs fEs 0 x.toInt y.toNatClampNeg + (33 + idF fK fNS fBs fEs 0 x.toInt y.toNatClampNeg) % 2)) ∧ r.toInt = 0) ∨ ((254 - (33 + idF fK fNS fBs fEs 0 x.toInt y.toNatClampNeg + (33 + idF fK fNS fBs fEs 0 x.toInt y.toNatClampNeg) % 2)) < psF fK fNS fT fTS 0 x.toInt y.toNatClampNeg + psF fK fNS fT fTS 1 x.toInt y.toNatClampNeg + psF fK fNS fT fTS 2 x.toInt y.toNatClampNeg + psF fK fNS fT fTS 3 x.toInt y.toNatClampNeg ∧ (r.toInt = psF fK fNS fT fTS 0 x.toInt y.toNatClampNeg + psF fK fNS fT fTS 1 x.toInt y.toNatClampNeg + psF fK fNS fT fTS 2 x.toInt y.toNatClampNeg + psF fK fNS fT fTS 3 x.toInt y.toNatClampNeg ∨ (28 + psF fK fNS fT fTS 0 x.toInt y.toNatClampNeg ≤ (254 - (33 + idF fK fNS fBs fEs 0 x.toInt y.toNatClampNeg + (33 + idF fK fNS fBs fEs 0 x.toInt y.toNatClampNeg) % 2)) ∧ r.toInt = psF fK fNS fT fTS 1 x.toInt y.toNatClampNeg + psF fK fNS fT fTS 2 x.toInt y.toNatClampNeg + psF fK fNS fT fTS 3 x.toInt y.toNatClampNeg) ∨ (28 + psF fK fNS fT fTS 0 x.toInt y.toNatClampNeg + psF fK fNS fT fTS 1 x.toInt y.toNatClampNeg ≤ (254 - (33 + idF fK fNS fBs fEs 0 x.toInt y.toNatClampNeg + (33 + idF fK fNS fBs fEs 0 x.toInt y.toNatClampNeg) % 2)) ∧ r.toInt = psF fK fNS fT fTS 2 x.toInt y.toNatClampNeg + psF fK fNS fT fTS 3 x.toInt y.toNatClampNeg) ∨ (28 + psF fK fNS fT fTS 0 x.toInt y.toNatClampNeg + psF fK fNS fT fTS 1 x.toInt y.toNatClampNeg + psF fK fNS fT fTS 2 x.toInt y.toNatClampNeg ≤ (254 - (33 + idF fK fNS fBs fEs 0 x.toInt y.toNatClampNeg + (33 + idF fK fNS fBs fEs 0 x.toInt y.toNatClampNeg) % 2)) ∧ r.toInt = psF fK fNS fT fTS 3 x.toInt y.toNatClampNeg)))) ∧ (0 ≤ r.toInt ∧ r.toInt ≤ 386) ∧ (x.toInt < 2 → r.toInt = 0)) (fun (u : (Nat → Int64)) (t : State) => match u with | G => va_P D CL [(h0, .inr (11, MO ma sv_thrown sv_length sv_nodes sv_many sv_directories sv_runsFrom sv_runs sv_read sv_wrong sv_isNamed sv_goes sv_goesSize sv_goesAt sv_targetParts sv_isRoot)), ((ma 16), .inl (cJ, 46080, .inr (.inl G))), ((ma 1), .inl (cI, 40, .inl fK)), ((ma 9), .inl (cI, 40, .inl fNS)), ((ma 10), .inl (cB, 8000, .inl fT)), ((ma 11), .inl (cI, 40, .inl fTS)), ((ma 13), .inl (cI, 40, .inl fBs)), ((ma 15), .inl (cI, 40, .inl fEs))] t.heap ∧ va_D (va_A [(h0, .inr (11, MO ma sv_thrown sv_length sv_nodes sv_many sv_directories sv_runsFrom sv_runs sv_read sv_wrong sv_isNamed sv_goes sv_goesSize sv_goesAt sv_targetParts sv_isRoot)), ((ma 16), .inl (cJ, 46080, .inr (.inl F))), ((ma 1), .inl (cI, 40, .inl fK)), ((ma 9), .inl (cI, 40, .inl fNS)), ((ma 10), .inl (cB, 8000, .inl fT)), ((ma 11), .inl (cI, 40, .inl fTS)), ((ma 13), .inl (cI, 40, .inl fBs)), ((ma 15), .inl (cI, 40, .inl fEs))] sz) [(h0, .inr (11, MO ma sv_thrown sv_length sv_nodes sv_many sv_directories sv_runsFrom sv_runs sv_read sv_wrong sv_isNamed sv_goes sv_goesSize sv_goesAt sv_targetParts sv_isRoot)), ((ma 16), .inl (cJ, 46080, .inr (.inl G))), ((ma 1), .inl (cI, 40, .inl fK)), ((ma 9), .inl (cI, 40, .inl fNS)), ((ma 10), .inl (cB, 8000, .inl fT)), ((ma 11), .inl (cI, 40, .inl fTS)), ((ma 13), .inl (cI, 40, .inl fBs)), ((ma 15), .inl (cI, 40, .inl fEs))]) (va_A [(h0, .inr (11, MO ma sv_thrown sv_length sv_nodes sv_many sv_directories sv_runsFrom sv_runs sv_read sv_wrong sv_isNamed sv_goes sv_goesSize sv_goesAt sv_targetParts sv_isRoot)), ((ma 16), .inl (cJ, 46080, .inr (.inl F))), ((ma 1), .inl (cI, 40, .inl fK)), ((ma 9), .inl (cI, 40, .inl fNS)), ((ma 10), .inl (cB, 8000, .inl fT)), ((ma 11), .inl (cI, 40, .inl fTS)), ((ma 13), .inl (cI, 40, .inl fBs)), ((ma 15), .inl (cI, 40, .inl fEs))] sz)) 0 0 (va_A [(h0, .inr (11, MO ma sv_thrown sv_length sv_nodes sv_many sv_directories sv_runsFrom sv_runs sv_read sv_wrong sv_isNamed sv_goes sv_goesSize sv_goesAt sv_targetParts sv_isRoot)), ((ma 16), .inl (cJ, 46080, .inr (.inl F))), ((ma 1), .inl (cI, 40, .inl fK)), ((ma 9), .inl (cI, 40, .inl fNS)), ((ma 10), .inl (cB, 8000, .inl fT)), ((ma 11), .inl (cI, 40, .inl fTS)), ((ma 13), .inl (cI, 40, .inl fBs)), ((ma 15), .inl (cI, 40, .inl fEs))] sz) := by
  refine Met.ofW (cc := b_DiscMakerModel_outside) (maxL := 5) (ret := some .int) (by decide) rfl ?_
  intro p e s m args below meth c s₁ B hml hv
  obtain ⟨rfl, hsz, hP, hK, hN, hD0⟩ := hv
  have hx := B.exec
  have hb := B.bytes
  have hr := B.returns
  have hts := atoms_spec (ws := w_DiscMakerModel_outside) B.pre
  have ht9 := fun (w : Cond) (h : w ∈ lw_g) => hts w (List.mem_cons_of_mem _ h)
  have hown : s.vm.findClass "DiscMakerModel" = some m.cls := findClass_of_methodNamed B.named
  have hlocks := B.notSynchronized
  subst hsz
  have hD := hD0.self (sz := s.heap.size)
  generalize hAe : va_A [(h0, .inr (11, MO ma sv_thrown sv_length sv_nodes sv_many sv_directories sv_runsFrom sv_runs sv_read sv_wrong sv_isNamed sv_goes sv_goesSize sv_goesAt sv_targetParts sv_isRoot)), ((ma 16), .inl (cJ, 46080, .inr (.inl F))), ((ma 1), .inl (cI, 40, .inl fK)), ((ma 9), .inl (cI, 40, .inl fNS)), ((ma 10), .inl (cB, 8000, .inl fT)), ((ma 11), .inl (cI, 40, .inl fTS)), ((ma 13), .inl (cI, 40, .inl fBs)), ((ma 15), .inl (cI, 40, .inl fEs))] s.heap.size = A at hD ⊢
  have hA : ∀ q : Nat, s.heap.size ≤ q → A q := fun q h => by rw [← hAe]; exact Or.inr h
  have hS : va_S A s.heap s.heap [] := va_S.rf
  have hP : va_P D CL [(h0, .inr (11, MO ma sv_thrown sv_length sv_nodes sv_many sv_directories sv_runsFrom sv_runs sv_read sv_wrong sv_isNamed sv_goes sv_goesSize sv_goesAt sv_targetParts sv_isRoot)), ((ma 16), .inl (cJ, 46080, .inr (.inl F))), ((ma 1), .inl (cI, 40, .inl fK)), ((ma 9), .inl (cI, 40, .inl fNS)), ((ma 10), .inl (cB, 8000, .inl fT)), ((ma 11), .inl (cI, 40, .inl fTS)), ((ma 13), .inl (cI, 40, .inl fBs)), ((ma 15), .inl (cI, 40, .inl fEs))] s.heap := hP
  have hl := lv_entry [.ref h0, .int x, .int y] (n := 5) (Nat.le_of_ble_eq_true rfl)
  rw [lg_entry_eq]
  generalize (lg_sl [.ref h0, .int x, .int y] ++ List.replicate (5 - (lg_sl [.ref h0, .int x, .int y]).length) Slot.unset).toArray = ls at hl ⊢
  have hl : lv_has ls 5 [(0, .ref h0), (1, .int x), (2, .int y)] := hl
  have L_m1 : ((-1) : Int32).toInt = (-1) := by decide
  have L_0 : (0 : Int32).toInt = 0 := by decide
  have L_1 : (1 : Int32).toInt = 1 := by decide
  have L_4 : (4 : Int32).toInt = 4 := by decide
  have hyc := i_cl (a := y) (by omega)
  have hb0 := psF_le (fK := fK) (fT := fT) 0 x.toInt (hNS y.toNatClampNeg (by omega)) (hTS y.toNatClampNeg (by omega)).2
  have hb1 := psF_le (fK := fK) (fT := fT) 1 x.toInt (hNS y.toNatClampNeg (by omega)) (hTS y.toNatClampNeg (by omega)).2
  have hb2 := psF_le (fK := fK) (fT := fT) 2 x.toInt (hNS y.toNatClampNeg (by omega)) (hTS y.toNatClampNeg (by omega)).2
  have hb3 := psF_le (fK := fK) (fT := fT) 3 x.toInt (hNS y.toNatClampNeg (by omega)) (hTS y.toNatClampNeg (by omega)).2
  have hbb := psF_b (fK := fK) (fT := fT) (fTS := fTS) x.toInt (hNS y.toNatClampNeg (by omega))
  have hib := idF_le (fK := fK) 0 x.toInt (hNS y.toNatClampNeg (by omega)) (hBs y.toNatClampNeg (by omega)) (hEs y.toNatClampNeg (by omega))
  have hlo := fun h => psF_low (fK := fK) (fNS := fNS) (fT := fT) (fTS := fTS) (k := y.toNatClampNeg) (so := x.toInt) h
  refine lv_iconst (v := 0) hx hb d_DiscMakerModel_outside_0 (by decide) ?_
  refine lv_istore_n hx hb d_DiscMakerModel_outside_1 rfl hl (by decide) rfl (fun ls hl => ?_)
  have hl : lv_has ls 5 [(3, .int 0), (0, .ref h0), (1, .int x), (2, .int y)] := hl
  refine lv_aload_n hx hb d_DiscMakerModel_outside_2 rfl (lv_at hl 1 rfl) ?_
  refine lv_iload_n hx hb d_DiscMakerModel_outside_3 rfl (lv_at hl 2 rfl) ?_
  refine lv_iload_n hx hb d_DiscMakerModel_outside_4 rfl (lv_at hl 3 rfl) ?_
  have hPc := hP.sub (ws' := [(h0, .inr (11, MO ma sv_thrown sv_length sv_nodes sv_many sv_directories sv_runsFrom sv_runs sv_read sv_wrong sv_isNamed sv_goes sv_goesSize sv_goesAt sv_targetParts sv_isRoot)), ((ma 16), .inl (cJ, 46080, .inr (.inl F))), ((ma 1), .inl (cI, 40, .inl fK)), ((ma 9), .inl (cI, 40, .inl fNS)), ((ma 10), .inl (cB, 8000, .inl fT)), ((ma 11), .inl (cI, 40, .inl fTS)), ((ma 13), .inl (cI, 40, .inl fBs)), ((ma 15), .inl (cI, 40, .inl fEs))]) [0, 1, 2, 3, 4, 5, 6, 7] rfl
  have hDc := hD.sub (ws' := [(h0, .inr (11, MO ma sv_thrown sv_length sv_nodes sv_many sv_directories sv_runsFrom sv_runs sv_read sv_wrong sv_isNamed sv_goes sv_goesSize sv_goesAt sv_targetParts sv_isRoot)), ((ma 16), .inl (cJ, 46080, .inr (.inl F))), ((ma 1), .inl (cI, 40, .inl fK)), ((ma 9), .inl (cI, 40, .inl fNS)), ((ma 10), .inl (cB, 8000, .inl fT)), ((ma 11), .inl (cI, 40, .inl fTS)), ((ma 13), .inl (cI, 40, .inl fBs)), ((ma 15), .inl (cI, 40, .inl fEs))]) [0, 1, 2, 3, 4, 5, 6, 7] (by decide) rfl
  have hFc := va_free (wc := [(h0, .inr (11, MO ma sv_thrown sv_length sv_nodes sv_many sv_directories sv_runsFrom sv_runs sv_read sv_wrong sv_isNamed sv_goes sv_goesSize sv_goesAt sv_targetParts sv_isRoot)), ((ma 16), .inl (cJ, 46080, .inr (.inl F))), ((ma 1), .inl (cI, 40, .inl fK)), ((ma 9), .inl (cI, 40, .inl fNS)), ((ma 10), .inl (cB, 8000, .inl fT)), ((ma 11), .inl (cI, 40, .inl fTS)), ((ma 13), .inl (cI, 40, .inl fBs)), ((ma 15), .inl (cI, 40, .inl fEs))]) hD hS hA [0, 1, 2, 3, 4, 5, 6, 7] rfl
  have hkc : 0 ≤ 0 := by decide
  have hks : 0 ≤ 0 := by decide
  refine va_calli (va_runV (C := "DiscMakerModel") (As := [.int x, .int y]) (rest := []) ⟨hx, hb, hml, hown, hts⟩ (m_partsInside l D cB cI cJ cZ cN cF s.heap.size h0 ma sv_thrown sv_length sv_nodes sv_many sv_directories sv_runsFrom sv_runs sv_read sv_wrong sv_isNamed sv_goes sv_goesSize sv_goesAt sv_targetParts sv_isRoot F fK fNS fT fTS fBs fEs x y (by (try dsimp only); first | assumption | omega | trivial) (by (try dsimp only); first | assumption | omega | trivial) (by (try dsimp only); first | assumption | omega | trivial) (by (try dsimp only); first | assumption | omega | trivial) (by (try dsimp only); first | assumption | omega | trivial) (by (try dsimp only); first | assumption | omega | trivial)) (cwV 2 hts (lg_goodV k1707 k1709 k74 k125 kc_DiscMakerModel_partsInside) rfl rfl rfl (by decide +kernel) ⟨Nat.le_of_ble_eq_true rfl, Nat.le_of_ble_eq_true rfl⟩) ⟨fun a U g mk q => by obtain ⟨q0, q1, qP, qK, qN, qD⟩ := q; exact ⟨q0, q1, qP, va_K.moved (u := U) (U := U.calling g mk a) (Vm.Alike.refl U.vm) qK, qN.calling, qD⟩, va_recv hK hP (ci := 11) (q0 := 0) rfl rfl, fun U hU hW => ⟨rfl, by rw [hU], by rw [hU]; exact hPc, va_K.moved hW.alike hK, NN.warm hW hN, hDc.weaken (fun _ _ _ _ => trivial)⟩⟩ rfl rfl hl.1 rfl (lv_room (Nat.le_of_ble_eq_true rfl)) d_DiscMakerModel_outside_5 ⟨hkc, hks⟩) hS (fun q _ h => hFc q h) hFc (fun r1 u t H1 locs ht hvm hp_r1 hB hz1 hk1 hS => ?_)
  obtain ⟨G_2, rfl⟩ : ∃ z, z = u := ⟨_, rfl⟩
  obtain ⟨hP1, hD1⟩ := hB
  rw [ht] at hP1
  obtain ⟨hP, hD⟩ := va_join (wr := []) (w1 := [(h0, .inr (11, MO ma sv_thrown sv_length sv_nodes sv_many sv_directories sv_runsFrom sv_runs sv_read sv_wrong sv_isNamed sv_goes sv_goesSize sv_goesAt sv_targetParts sv_isRoot)), ((ma 16), .inl (cJ, 46080, .inr (.inl G_2))), ((ma 1), .inl (cI, 40, .inl fK)), ((ma 9), .inl (cI, 40, .inl fNS)), ((ma 10), .inl (cB, 8000, .inl fT)), ((ma 11), .inl (cI, 40, .inl fTS)), ((ma 13), .inl (cI, 40, .inl fBs)), ((ma 15), .inl (cI, 40, .inl fEs))]) hP hD [0, 1, 2, 3, 4, 5, 6, 7] [] rfl rfl (by decide) (by decide) hk1 hFc hP1 hD1
  clear hPc hDc hFc hP1 hD1 hk1 hz1
  generalize H1 = H at hP hS ⊢
  have hP : va_P D CL [(h0, .inr (11, MO ma sv_thrown sv_length sv_nodes sv_many sv_directories sv_runsFrom sv_runs sv_read sv_wrong sv_isNamed sv_goes sv_goesSize sv_goesAt sv_targetParts sv_isRoot)), ((ma 16), .inl (cJ, 46080, .inr (.inl G_2))), ((ma 1), .inl (cI, 40, .inl fK)), ((ma 9), .inl (cI, 40, .inl fNS)), ((ma 10), .inl (cB, 8000, .inl fT)), ((ma 11), .inl (cI, 40, .inl fTS)), ((ma 13), .inl (cI, 40, .inl fBs)), ((ma 15), .inl (cI, 40, .inl fEs))] H := hP
  have hD : va_D A [(h0, .inr (11, MO ma sv_thrown sv_length sv_nodes sv_many sv_directories sv_runsFrom sv_runs sv_read sv_wrong sv_isNamed sv_goes sv_goesSize sv_goesAt sv_targetParts sv_isRoot)), ((ma 16), .inl (cJ, 46080, .inr (.inl G_2))), ((ma 1), .inl (cI, 40, .inl fK)), ((ma 9), .inl (cI, 40, .inl fNS)), ((ma 10), .inl (cB, 8000, .inl fT)), ((ma 11), .inl (cI, 40, .inl fTS)), ((ma 13), .inl (cI, 40, .inl fBs)), ((ma 15), .inl (cI, 40, .inl fEs))] := hD
  try dsimp only at hp_r1
  have hv_3 := hp_r1
  rcases (show r1.toInt = 0 ∨ r1.toInt = 1 ∨ r1.toInt = 2 ∨ r1.toInt = 3 ∨ r1.toInt = 4 by omega) with h_9 | h_9 | h_9 | h_9 | h_9
  · skip
    have e_9 : r1 = 0 := Int32.toInt_inj.mp (by rw [h_9]; decide)
    subst e_9
    refine lv_istore hx hb d_DiscMakerModel_outside_8 hl (by decide) rfl (fun ls hl => ?_)
    have hl : lv_has ls 5 [(4, .int 0), (3, .int 0), (0, .ref h0), (1, .int x), (2, .int y)] := hl
    refine lv_iload hx hb d_DiscMakerModel_outside_10 (lv_at hl 0 rfl) ?_
    refine lv_iconst (v := 4) hx hb d_DiscMakerModel_outside_12 (by decide) ?_
    refine lv_icmp_ge (tgt := 33) hx hb d_DiscMakerModel_outside_13 (by decide) (fun h_9 => absurd h_9 (by decide)) (fun _ => ?_)
    refine lv_iload_n hx hb d_DiscMakerModel_outside_16 rfl (lv_at hl 1 rfl) ?_
    refine lv_aload_n hx hb d_DiscMakerModel_outside_17 rfl (lv_at hl 2 rfl) ?_
    refine lv_iload hx hb d_DiscMakerModel_outside_18 (lv_at hl 0 rfl) ?_
    refine lv_iload_n hx hb d_DiscMakerModel_outside_20 rfl (lv_at hl 3 rfl) ?_
    refine lv_iload_n hx hb d_DiscMakerModel_outside_21 rfl (lv_at hl 4 rfl) ?_
    have hPc := hP.sub (ws' := [(h0, .inr (11, MO ma sv_thrown sv_length sv_nodes sv_many sv_directories sv_runsFrom sv_runs sv_read sv_wrong sv_isNamed sv_goes sv_goesSize sv_goesAt sv_targetParts sv_isRoot)), ((ma 16), .inl (cJ, 46080, .inr (.inl G_2))), ((ma 1), .inl (cI, 40, .inl fK)), ((ma 9), .inl (cI, 40, .inl fNS)), ((ma 10), .inl (cB, 8000, .inl fT)), ((ma 11), .inl (cI, 40, .inl fTS))]) [0, 1, 2, 3, 4, 5] rfl
    have hDc := hD.sub (ws' := [(h0, .inr (11, MO ma sv_thrown sv_length sv_nodes sv_many sv_directories sv_runsFrom sv_runs sv_read sv_wrong sv_isNamed sv_goes sv_goesSize sv_goesAt sv_targetParts sv_isRoot)), ((ma 16), .inl (cJ, 46080, .inr (.inl G_2))), ((ma 1), .inl (cI, 40, .inl fK)), ((ma 9), .inl (cI, 40, .inl fNS)), ((ma 10), .inl (cB, 8000, .inl fT)), ((ma 11), .inl (cI, 40, .inl fTS))]) [0, 1, 2, 3, 4, 5] (by decide) rfl
    have hFc := va_free (wc := [(h0, .inr (11, MO ma sv_thrown sv_length sv_nodes sv_many sv_directories sv_runsFrom sv_runs sv_read sv_wrong sv_isNamed sv_goes sv_goesSize sv_goesAt sv_targetParts sv_isRoot)), ((ma 16), .inl (cJ, 46080, .inr (.inl G_2))), ((ma 1), .inl (cI, 40, .inl fK)), ((ma 9), .inl (cI, 40, .inl fNS)), ((ma 10), .inl (cB, 8000, .inl fT)), ((ma 11), .inl (cI, 40, .inl fTS))]) hD hS hA [0, 1, 2, 3, 4, 5] rfl
    have hkc : 0 ≤ 0 := by decide
    have hks : 0 ≤ 0 := by decide
    refine va_calli (va_runV (C := "DiscMakerModel") (As := [.int 0, .int x, .int y]) (rest := [.int 0]) ⟨hx, hb, hml, hown, hts⟩ (m_partSize l D cB cI cJ cZ cN cF H.size h0 ma sv_thrown sv_length sv_nodes sv_many sv_directories sv_runsFrom sv_runs sv_read sv_wrong sv_isNamed sv_goes sv_goesSize sv_goesAt sv_targetParts sv_isRoot G_2 fK fNS fT fTS 0 x y (by (try dsimp only); first | assumption | omega | trivial) (by (try dsimp only); first | assumption | omega | trivial) (by (try dsimp only); first | assumption | omega | trivial) (by (try dsimp only); first | assumption | omega | trivial) (by (try dsimp only); first | assumption | omega | trivial)) (cwV 3 hts (lg_goodV k1715 k1717 k76 k125 kc_DiscMakerModel_partSize) rfl rfl rfl (by decide +kernel) ⟨Nat.le_of_ble_eq_true rfl, Nat.le_of_ble_eq_true rfl⟩) ⟨fun a U g mk q => by obtain ⟨q0, q1, qP, qK, qN, qD⟩ := q; exact ⟨q0, q1, qP, va_K.moved (u := U) (U := U.calling g mk a) (Vm.Alike.refl U.vm) qK, qN.calling, qD⟩, va_recv hK hP (ci := 11) (q0 := 0) rfl rfl, fun U hU hW => ⟨rfl, by rw [hU], by rw [hU]; exact hPc, va_K.moved hW.alike hK, NN.warm hW hN, hDc.weaken (fun _ _ _ _ => trivial)⟩⟩ rfl rfl hl.1 rfl (lv_room (Nat.le_of_ble_eq_true rfl)) d_DiscMakerModel_outside_22 ⟨hkc, hks⟩) hS (fun q _ h => hFc q h) hFc (fun r4 u t H1 locs ht hvm hp_r4 hB hz1 hk1 hS => ?_)
    obtain ⟨G_5, rfl⟩ : ∃ z, z = u := ⟨_, rfl⟩
    obtain ⟨hP1, hD1⟩ := hB
    rw [ht] at hP1
    obtain ⟨hP, hD⟩ := va_join (wr := [((ma 13), .inl (cI, 40, .inl fBs)), ((ma 15), .inl (cI, 40, .inl fEs))]) (w1 := [(h0, .inr (11, MO ma sv_thrown sv_length sv_nodes sv_many sv_directories sv_runsFrom sv_runs sv_read sv_wrong sv_isNamed sv_goes sv_goesSize sv_goesAt sv_targetParts sv_isRoot)), ((ma 16), .inl (cJ, 46080, .inr (.inl G_5))), ((ma 1), .inl (cI, 40, .inl fK)), ((ma 9), .inl (cI, 40, .inl fNS)), ((ma 10), .inl (cB, 8000, .inl fT)), ((ma 11), .inl (cI, 40, .inl fTS))]) hP hD [0, 1, 2, 3, 4, 5] [6, 7] rfl rfl (by decide) (by decide) hk1 hFc hP1 hD1
    clear hPc hDc hFc hP1 hD1 hk1 hz1
    generalize H1 = H at hP hS ⊢
    have hP : va_P D CL [((ma 13), .inl (cI, 40, .inl fBs)), ((ma 15), .inl (cI, 40, .inl fEs)), (h0, .inr (11, MO ma sv_thrown sv_length sv_nodes sv_many sv_directories sv_runsFrom sv_runs sv_read sv_wrong sv_isNamed sv_goes sv_goesSize sv_goesAt sv_targetParts sv_isRoot)), ((ma 16), .inl (cJ, 46080, .inr (.inl G_5))), ((ma 1), .inl (cI, 40, .inl fK)), ((ma 9), .inl (cI, 40, .inl fNS)), ((ma 10), .inl (cB, 8000, .inl fT)), ((ma 11), .inl (cI, 40, .inl fTS))] H := hP
    have hD : va_D A [((ma 13), .inl (cI, 40, .inl fBs)), ((ma 15), .inl (cI, 40, .inl fEs)), (h0, .inr (11, MO ma sv_thrown sv_length sv_nodes sv_many sv_directories sv_runsFrom sv_runs sv_read sv_wrong sv_isNamed sv_goes sv_goesSize sv_goesAt sv_targetParts sv_isRoot)), ((ma 16), .inl (cJ, 46080, .inr (.inl G_5))), ((ma 1), .inl (cI, 40, .inl fK)), ((ma 9), .inl (cI, 40, .inl fNS)), ((ma 10), .inl (cB, 8000, .inl fT)), ((ma 11), .inl (cI, 40, .inl fTS))] := hD
    try dsimp only at hp_r4
    obtain ⟨hv_6, hr_7⟩ := hp_r4
    try rw [L_0] at hv_6
    refine lv_iadd hx hb d_DiscMakerModel_outside_25 ?_
    refine lv_topi (fun v8 e_v8 => ?_)
    have t_v8 : v8.toInt = 0 + r4.toInt := by rw [e_v8]; exact i_add (by decide) rfl (by omega) (by omega)
    refine lv_istore_n hx hb d_DiscMakerModel_outside_26 rfl hl (by decide) rfl (fun ls hl => ?_)
    have hl : lv_has ls 5 [(3, .int v8), (4, .int 0), (0, .ref h0), (1, .int x), (2, .int y)] := hl
    refine lv_iinc (v := 1) hx hb d_DiscMakerModel_outside_27 hl (k := 1) rfl (by decide) (by decide) rfl (fun ls hl => ?_)
    have hl : lv_has ls 5 [(4, .int 1), (3, .int v8), (0, .ref h0), (1, .int x), (2, .int y)] := hl
    refine lv_goto (tgt := 10) hx hb d_DiscMakerModel_outside_30 (by decide) ?_
    refine lv_iload hx hb d_DiscMakerModel_outside_10 (lv_at hl 0 rfl) ?_
    refine lv_iconst (v := 4) hx hb d_DiscMakerModel_outside_12 (by decide) ?_
    refine lv_icmp_ge (tgt := 33) hx hb d_DiscMakerModel_outside_13 (by decide) (fun h_9 => absurd h_9 (by decide)) (fun _ => ?_)
    refine lv_iload_n hx hb d_DiscMakerModel_outside_16 rfl (lv_at hl 1 rfl) ?_
    refine lv_aload_n hx hb d_DiscMakerModel_outside_17 rfl (lv_at hl 2 rfl) ?_
    refine lv_iload hx hb d_DiscMakerModel_outside_18 (lv_at hl 0 rfl) ?_
    refine lv_iload_n hx hb d_DiscMakerModel_outside_20 rfl (lv_at hl 3 rfl) ?_
    refine lv_iload_n hx hb d_DiscMakerModel_outside_21 rfl (lv_at hl 4 rfl) ?_
    have hPc := hP.sub (ws' := [(h0, .inr (11, MO ma sv_thrown sv_length sv_nodes sv_many sv_directories sv_runsFrom sv_runs sv_read sv_wrong sv_isNamed sv_goes sv_goesSize sv_goesAt sv_targetParts sv_isRoot)), ((ma 16), .inl (cJ, 46080, .inr (.inl G_5))), ((ma 1), .inl (cI, 40, .inl fK)), ((ma 9), .inl (cI, 40, .inl fNS)), ((ma 10), .inl (cB, 8000, .inl fT)), ((ma 11), .inl (cI, 40, .inl fTS))]) [2, 3, 4, 5, 6, 7] rfl
    have hDc := hD.sub (ws' := [(h0, .inr (11, MO ma sv_thrown sv_length sv_nodes sv_many sv_directories sv_runsFrom sv_runs sv_read sv_wrong sv_isNamed sv_goes sv_goesSize sv_goesAt sv_targetParts sv_isRoot)), ((ma 16), .inl (cJ, 46080, .inr (.inl G_5))), ((ma 1), .inl (cI, 40, .inl fK)), ((ma 9), .inl (cI, 40, .inl fNS)), ((ma 10), .inl (cB, 8000, .inl fT)), ((ma 11), .inl (cI, 40, .inl fTS))]) [2, 3, 4, 5, 6, 7] (by decide) rfl
    have hFc := va_free (wc := [(h0, .inr (11, MO ma sv_thrown sv_length sv_nodes sv_many sv_directories sv_runsFrom sv_runs sv_read sv_wrong sv_isNamed sv_goes sv_goesSize sv_goesAt sv_targetParts sv_isRoot)), ((ma 16), .inl (cJ, 46080, .inr (.inl G_5))), ((ma 1), .inl (cI, 40, .inl fK)), ((ma 9), .inl (cI, 40, .inl fNS)), ((ma 10), .inl (cB, 8000, .inl fT)), ((ma 11), .inl (cI, 40, .inl fTS))]) hD hS hA [2, 3, 4, 5, 6, 7] rfl
    have hkc : 0 ≤ 0 := by decide
    have hks : 0 ≤ 0 := by decide
    refine va_calli (va_runV (C := "DiscMakerModel") (As := [.int 1, .int x, .int y]) (rest := [.int v8]) ⟨hx, hb, hml, hown, hts⟩ (m_partSize l D cB cI cJ cZ cN cF H.size h0 ma sv_thrown sv_length sv_nodes sv_many sv_directories sv_runsFrom sv_runs sv_read sv_wrong sv_isNamed sv_goes sv_goesSize sv_goesAt sv_targetParts sv_isRoot G_5 fK fNS fT fTS 1 x y (by (try dsimp only); first | assumption | omega | trivial) (by (try dsimp only); first | assumption | omega | trivial) (by (try dsimp only); first | assumption | omega | trivial) (by (try dsimp only); first | assumption | omega | trivial) (by (try dsimp only); first | assumption | omega | trivial)) (cwV 3 hts (lg_goodV k1715 k1717 k76 k125 kc_DiscMakerModel_partSize) rfl rfl rfl (by decide +kernel) ⟨Nat.le_of_ble_eq_true rfl, Nat.le_of_ble_eq_true rfl⟩) ⟨fun a U g mk q => by obtain ⟨q0, q1, qP, qK, qN, qD⟩ := q; exact ⟨q0, q1, qP, va_K.moved (u := U) (U := U.calling g mk a) (Vm.Alike.refl U.vm) qK, qN.calling, qD⟩, va_recv hK hP (ci := 11) (q0 := 2) rfl rfl, fun U hU hW => ⟨rfl, by rw [hU], by rw [hU]; exact hPc, va_K.moved hW.alike hK, NN.warm hW hN, hDc.weaken (fun _ _ _ _ => trivial)⟩⟩ rfl rfl hl.1 rfl (lv_room (Nat.le_of_ble_eq_true rfl)) d_DiscMakerModel_outside_22 ⟨hkc, hks⟩) hS (fun q _ h => hFc q h) hFc (fun r9 u t H1 locs ht hvm hp_r9 hB hz1 hk1 hS => ?_)
    obtain ⟨G_10, rfl⟩ : ∃ z, z = u := ⟨_, rfl⟩
    obtain ⟨hP1, hD1⟩ := hB
    rw [ht] at hP1
    obtain ⟨hP, hD⟩ := va_join (wr := [((ma 13), .inl (cI, 40, .inl fBs)), ((ma 15), .inl (cI, 40, .inl fEs))]) (w1 := [(h0, .inr (11, MO ma sv_thrown sv_length sv_nodes sv_many sv_directories sv_runsFrom sv_runs sv_read sv_wrong sv_isNamed sv_goes sv_goesSize sv_goesAt sv_targetParts sv_isRoot)), ((ma 16), .inl (cJ, 46080, .inr (.inl G_10))), ((ma 1), .inl (cI, 40, .inl fK)), ((ma 9), .inl (cI, 40, .inl fNS)), ((ma 10), .inl (cB, 8000, .inl fT)), ((ma 11), .inl (cI, 40, .inl fTS))]) hP hD [2, 3, 4, 5, 6, 7] [0, 1] rfl rfl (by decide) (by decide) hk1 hFc hP1 hD1
    clear hPc hDc hFc hP1 hD1 hk1 hz1
    generalize H1 = H at hP hS ⊢
    have hP : va_P D CL [((ma 13), .inl (cI, 40, .inl fBs)), ((ma 15), .inl (cI, 40, .inl fEs)), (h0, .inr (11, MO ma sv_thrown sv_length sv_nodes sv_many sv_directories sv_runsFrom sv_runs sv_read sv_wrong sv_isNamed sv_goes sv_goesSize sv_goesAt sv_targetParts sv_isRoot)), ((ma 16), .inl (cJ, 46080, .inr (.inl G_10))), ((ma 1), .inl (cI, 40, .inl fK)), ((ma 9), .inl (cI, 40, .inl fNS)), ((ma 10), .inl (cB, 8000, .inl fT)), ((ma 11), .inl (cI, 40, .inl fTS))] H := hP
    have hD : va_D A [((ma 13), .inl (cI, 40, .inl fBs)), ((ma 15), .inl (cI, 40, .inl fEs)), (h0, .inr (11, MO ma sv_thrown sv_length sv_nodes sv_many sv_directories sv_runsFrom sv_runs sv_read sv_wrong sv_isNamed sv_goes sv_goesSize sv_goesAt sv_targetParts sv_isRoot)), ((ma 16), .inl (cJ, 46080, .inr (.inl G_10))), ((ma 1), .inl (cI, 40, .inl fK)), ((ma 9), .inl (cI, 40, .inl fNS)), ((ma 10), .inl (cB, 8000, .inl fT)), ((ma 11), .inl (cI, 40, .inl fTS))] := hD
    try dsimp only at hp_r9
    obtain ⟨hv_11, hr_12⟩ := hp_r9
    try rw [L_1] at hv_11
    refine lv_iadd hx hb d_DiscMakerModel_outside_25 ?_
    refine lv_topi (fun v13 e_v13 => ?_)
    have t_v13 : v13.toInt = v8.toInt + r9.toInt := by rw [e_v13]; exact i_add rfl rfl (by omega) (by omega)
    refine lv_istore_n hx hb d_DiscMakerModel_outside_26 rfl hl (by decide) rfl (fun ls hl => ?_)
    have hl : lv_has ls 5 [(3, .int v13), (4, .int 1), (0, .ref h0), (1, .int x), (2, .int y)] := hl
    refine lv_iinc (v := 2) hx hb d_DiscMakerModel_outside_27 hl (k := 1) rfl (by decide) (by decide) rfl (fun ls hl => ?_)
    have L_2 : (2 : Int32).toInt = 2 := by decide
    have hl : lv_has ls 5 [(4, .int 2), (3, .int v13), (0, .ref h0), (1, .int x), (2, .int y)] := hl
    refine lv_goto (tgt := 10) hx hb d_DiscMakerModel_outside_30 (by decide) ?_
    refine lv_iload hx hb d_DiscMakerModel_outside_10 (lv_at hl 0 rfl) ?_
    refine lv_iconst (v := 4) hx hb d_DiscMakerModel_outside_12 (by decide) ?_
    refine lv_icmp_ge (tgt := 33) hx hb d_DiscMakerModel_outside_13 (by decide) (fun h_9 => absurd h_9 (by decide)) (fun _ => ?_)
    refine lv_iload_n hx hb d_DiscMakerModel_outside_16 rfl (lv_at hl 1 rfl) ?_
    refine lv_aload_n hx hb d_DiscMakerModel_outside_17 rfl (lv_at hl 2 rfl) ?_
    refine lv_iload hx hb d_DiscMakerModel_outside_18 (lv_at hl 0 rfl) ?_
    refine lv_iload_n hx hb d_DiscMakerModel_outside_20 rfl (lv_at hl 3 rfl) ?_
    refine lv_iload_n hx hb d_DiscMakerModel_outside_21 rfl (lv_at hl 4 rfl) ?_
    have hPc := hP.sub (ws' := [(h0, .inr (11, MO ma sv_thrown sv_length sv_nodes sv_many sv_directories sv_runsFrom sv_runs sv_read sv_wrong sv_isNamed sv_goes sv_goesSize sv_goesAt sv_targetParts sv_isRoot)), ((ma 16), .inl (cJ, 46080, .inr (.inl G_10))), ((ma 1), .inl (cI, 40, .inl fK)), ((ma 9), .inl (cI, 40, .inl fNS)), ((ma 10), .inl (cB, 8000, .inl fT)), ((ma 11), .inl (cI, 40, .inl fTS))]) [2, 3, 4, 5, 6, 7] rfl
    have hDc := hD.sub (ws' := [(h0, .inr (11, MO ma sv_thrown sv_length sv_nodes sv_many sv_directories sv_runsFrom sv_runs sv_read sv_wrong sv_isNamed sv_goes sv_goesSize sv_goesAt sv_targetParts sv_isRoot)), ((ma 16), .inl (cJ, 46080, .inr (.inl G_10))), ((ma 1), .inl (cI, 40, .inl fK)), ((ma 9), .inl (cI, 40, .inl fNS)), ((ma 10), .inl (cB, 8000, .inl fT)), ((ma 11), .inl (cI, 40, .inl fTS))]) [2, 3, 4, 5, 6, 7] (by decide) rfl
    have hFc := va_free (wc := [(h0, .inr (11, MO ma sv_thrown sv_length sv_nodes sv_many sv_directories sv_runsFrom sv_runs sv_read sv_wrong sv_isNamed sv_goes sv_goesSize sv_goesAt sv_targetParts sv_isRoot)), ((ma 16), .inl (cJ, 46080, .inr (.inl G_10))), ((ma 1), .inl (cI, 40, .inl fK)), ((ma 9), .inl (cI, 40, .inl fNS)), ((ma 10), .inl (cB, 8000, .inl fT)), ((ma 11), .inl (cI, 40, .inl fTS))]) hD hS hA [2, 3, 4, 5, 6, 7] rfl
    have hkc : 0 ≤ 0 := by decide
    have hks : 0 ≤ 0 := by decide
    refine va_calli (va_runV (C := "DiscMakerModel") (As := [.int 2, .int x, .int y]) (rest := [.int v13]) ⟨hx, hb, hml, hown, hts⟩ (m_partSize l D cB cI cJ cZ cN cF H.size h0 ma sv_thrown sv_length sv_nodes sv_many sv_directories sv_runsFrom sv_runs sv_read sv_wrong sv_isNamed sv_goes sv_goesSize sv_goesAt sv_targetParts sv_isRoot G_10 fK fNS fT fTS 2 x y (by (try dsimp only); first | assumption | omega | trivial) (by (try dsimp only); first | assumption | omega | trivial) (by (try dsimp only); first | assumption | omega | trivial) (by (try dsimp only); first | assumption | omega | trivial) (by (try dsimp only); first | assumption | omega | trivial)) (cwV 3 hts (lg_goodV k1715 k1717 k76 k125 kc_DiscMakerModel_partSize) rfl rfl rfl (by decide +kernel) ⟨Nat.le_of_ble_eq_true rfl, Nat.le_of_ble_eq_true rfl⟩) ⟨fun a U g mk q => by obtain ⟨q0, q1, qP, qK, qN, qD⟩ := q; exact ⟨q0, q1, qP, va_K.moved (u := U) (U := U.calling g mk a) (Vm.Alike.refl U.vm) qK, qN.calling, qD⟩, va_recv hK hP (ci := 11) (q0 := 2) rfl rfl, fun U hU hW => ⟨rfl, by rw [hU], by rw [hU]; exact hPc, va_K.moved hW.alike hK, NN.warm hW hN, hDc.weaken (fun _ _ _ _ => trivial)⟩⟩ rfl rfl hl.1 rfl (lv_room (Nat.le_of_ble_eq_true rfl)) d_DiscMakerModel_outside_22 ⟨hkc, hks⟩) hS (fun q _ h => hFc q h) hFc (fun r14 u t H1 locs ht hvm hp_r14 hB hz1 hk1 hS => ?_)
    obtain ⟨G_15, rfl⟩ : ∃ z, z = u := ⟨_, rfl⟩
    obtain ⟨hP1, hD1⟩ := hB
    rw [ht] at hP1
    obtain ⟨hP, hD⟩ := va_join (wr := [((ma 13), .inl (cI, 40, .inl fBs)), ((ma 15), .inl (cI, 40, .inl fEs))]) (w1 := [(h0, .inr (11, MO ma sv_thrown sv_length sv_nodes sv_many sv_directories sv_runsFrom sv_runs sv_read sv_wrong sv_isNamed sv_goes sv_goesSize sv_goesAt sv_targetParts sv_isRoot)), ((ma 16), .inl (cJ, 46080, .inr (.inl G_15))), ((ma 1), .inl (cI, 40, .inl fK)), ((ma 9), .inl (cI, 40, .inl fNS)), ((ma 10), .inl (cB, 8000, .inl fT)), ((ma 11), .inl (cI, 40, .inl fTS))]) hP hD [2, 3, 4, 5, 6, 7] [0, 1] rfl rfl (by decide) (by decide) hk1 hFc hP1 hD1
    clear hPc hDc hFc hP1 hD1 hk1 hz1
    generalize H1 = H at hP hS ⊢
    have hP : va_P D CL [((ma 13), .inl (cI, 40, .inl fBs)), ((ma 15), .inl (cI, 40, .inl fEs)), (h0, .inr (11, MO ma sv_thrown sv_length sv_nodes sv_many sv_directories sv_runsFrom sv_runs sv_read sv_wrong sv_isNamed sv_goes sv_goesSize sv_goesAt sv_targetParts sv_isRoot)), ((ma 16), .inl (cJ, 46080, .inr (.inl G_15))), ((ma 1), .inl (cI, 40, .inl fK)), ((ma 9), .inl (cI, 40, .inl fNS)), ((ma 10), .inl (cB, 8000, .inl fT)), ((ma 11), .inl (cI, 40, .inl fTS))] H := hP
    have hD : va_D A [((ma 13), .inl (cI, 40, .inl fBs)), ((ma 15), .inl (cI, 40, .inl fEs)), (h0, .inr (11, MO ma sv_thrown sv_length sv_nodes sv_many sv_directories sv_runsFrom sv_runs sv_read sv_wrong sv_isNamed sv_goes sv_goesSize sv_goesAt sv_targetParts sv_isRoot)), ((ma 16), .inl (cJ, 46080, .inr (.inl G_15))), ((ma 1), .inl (cI, 40, .inl fK)), ((ma 9), .inl (cI, 40, .inl fNS)), ((ma 10), .inl (cB, 8000, .inl fT)), ((ma 11), .inl (cI, 40, .inl fTS))] := hD
    try dsimp only at hp_r14
    obtain ⟨hv_16, hr_17⟩ := hp_r14
    try rw [L_2] at hv_16
    refine lv_iadd hx hb d_DiscMakerModel_outside_25 ?_
    refine lv_topi (fun v18 e_v18 => ?_)
    have t_v18 : v18.toInt = v13.toInt + r14.toInt := by rw [e_v18]; exact i_add rfl rfl (by omega) (by omega)
    refine lv_istore_n hx hb d_DiscMakerModel_outside_26 rfl hl (by decide) rfl (fun ls hl => ?_)
    have hl : lv_has ls 5 [(3, .int v18), (4, .int 2), (0, .ref h0), (1, .int x), (2, .int y)] := hl
    refine lv_iinc (v := 3) hx hb d_DiscMakerModel_outside_27 hl (k := 1) rfl (by decide) (by decide) rfl (fun ls hl => ?_)
    have L_3 : (3 : Int32).toInt = 3 := by decide
    have hl : lv_has ls 5 [(4, .int 3), (3, .int v18), (0, .ref h0), (1, .int x), (2, .int y)] := hl
    refine lv_goto (tgt := 10) hx hb d_DiscMakerModel_outside_30 (by decide) ?_
    refine lv_iload hx hb d_DiscMakerModel_outside_10 (lv_at hl 0 rfl) ?_
    refine lv_iconst (v := 4) hx hb d_DiscMakerModel_outside_12 (by decide) ?_
    refine lv_icmp_ge (tgt := 33) hx hb d_DiscMakerModel_outside_13 (by decide) (fun h_9 => absurd h_9 (by decide)) (fun _ => ?_)
    refine lv_iload_n hx hb d_DiscMakerModel_outside_16 rfl (lv_at hl 1 rfl) ?_
    refine lv_aload_n hx hb d_DiscMakerModel_outside_17 rfl (lv_at hl 2 rfl) ?_
    refine lv_iload hx hb d_DiscMakerModel_outside_18 (lv_at hl 0 rfl) ?_
    refine lv_iload_n hx hb d_DiscMakerModel_outside_20 rfl (lv_at hl 3 rfl) ?_
    refine lv_iload_n hx hb d_DiscMakerModel_outside_21 rfl (lv_at hl 4 rfl) ?_
    have hPc := hP.sub (ws' := [(h0, .inr (11, MO ma sv_thrown sv_length sv_nodes sv_many sv_directories sv_runsFrom sv_runs sv_read sv_wrong sv_isNamed sv_goes sv_goesSize sv_goesAt sv_targetParts sv_isRoot)), ((ma 16), .inl (cJ, 46080, .inr (.inl G_15))), ((ma 1), .inl (cI, 40, .inl fK)), ((ma 9), .inl (cI, 40, .inl fNS)), ((ma 10), .inl (cB, 8000, .inl fT)), ((ma 11), .inl (cI, 40, .inl fTS))]) [2, 3, 4, 5, 6, 7] rfl
    have hDc := hD.sub (ws' := [(h0, .inr (11, MO ma sv_thrown sv_length sv_nodes sv_many sv_directories sv_runsFrom sv_runs sv_read sv_wrong sv_isNamed sv_goes sv_goesSize sv_goesAt sv_targetParts sv_isRoot)), ((ma 16), .inl (cJ, 46080, .inr (.inl G_15))), ((ma 1), .inl (cI, 40, .inl fK)), ((ma 9), .inl (cI, 40, .inl fNS)), ((ma 10), .inl (cB, 8000, .inl fT)), ((ma 11), .inl (cI, 40, .inl fTS))]) [2, 3, 4, 5, 6, 7] (by decide) rfl
    have hFc := va_free (wc := [(h0, .inr (11, MO ma sv_thrown sv_length sv_nodes sv_many sv_directories sv_runsFrom sv_runs sv_read sv_wrong sv_isNamed sv_goes sv_goesSize sv_goesAt sv_targetParts sv_isRoot)), ((ma 16), .inl (cJ, 46080, .inr (.inl G_15))), ((ma 1), .inl (cI, 40, .inl fK)), ((ma 9), .inl (cI, 40, .inl fNS)), ((ma 10), .inl (cB, 8000, .inl fT)), ((ma 11), .inl (cI, 40, .inl fTS))]) hD hS hA [2, 3, 4, 5, 6, 7] rfl
    have hkc : 0 ≤ 0 := by decide
    have hks : 0 ≤ 0 := by decide
    refine va_calli (va_runV (C := "DiscMakerModel") (As := [.int 3, .int x, .int y]) (rest := [.int v18]) ⟨hx, hb, hml, hown, hts⟩ (m_partSize l D cB cI cJ cZ cN cF H.size h0 ma sv_thrown sv_length sv_nodes sv_many sv_directories sv_runsFrom sv_runs sv_read sv_wrong sv_isNamed sv_goes sv_goesSize sv_goesAt sv_targetParts sv_isRoot G_15 fK fNS fT fTS 3 x y (by (try dsimp only); first | assumption | omega | trivial) (by (try dsimp only); first | assumption | omega | trivial) (by (try dsimp only); first | assumption | omega | trivial) (by (try dsimp only); first | assumption | omega | trivial) (by (try dsimp only); first | assumption | omega | trivial)) (cwV 3 hts (lg_goodV k1715 k1717 k76 k125 kc_DiscMakerModel_partSize) rfl rfl rfl (by decide +kernel) ⟨Nat.le_of_ble_eq_true rfl, Nat.le_of_ble_eq_true rfl⟩) ⟨fun a U g mk q => by obtain ⟨q0, q1, qP, qK, qN, qD⟩ := q; exact ⟨q0, q1, qP, va_K.moved (u := U) (U := U.calling g mk a) (Vm.Alike.refl U.vm) qK, qN.calling, qD⟩, va_recv hK hP (ci := 11) (q0 := 2) rfl rfl, fun U hU hW => ⟨rfl, by rw [hU], by rw [hU]; exact hPc, va_K.moved hW.alike hK, NN.warm hW hN, hDc.weaken (fun _ _ _ _ => trivial)⟩⟩ rfl rfl hl.1 rfl (lv_room (Nat.le_of_ble_eq_true rfl)) d_DiscMakerModel_outside_22 ⟨hkc, hks⟩) hS (fun q _ h => hFc q h) hFc (fun r19 u t H1 locs ht hvm hp_r19 hB hz1 hk1 hS => ?_)
    obtain ⟨G_20, rfl⟩ : ∃ z, z = u := ⟨_, rfl⟩
    obtain ⟨hP1, hD1⟩ := hB
    rw [ht] at hP1
    obtain ⟨hP, hD⟩ := va_join (wr := [((ma 13), .inl (cI, 40, .inl fBs)), ((ma 15), .inl (cI, 40, .inl fEs))]) (w1 := [(h0, .inr (11, MO ma sv_thrown sv_length sv_nodes sv_many sv_directories sv_runsFrom sv_runs sv_read sv_wrong sv_isNamed sv_goes sv_goesSize sv_goesAt sv_targetParts sv_isRoot)), ((ma 16), .inl (cJ, 46080, .inr (.inl G_20))), ((ma 1), .inl (cI, 40, .inl fK)), ((ma 9), .inl (cI, 40, .inl fNS)), ((ma 10), .inl (cB, 8000, .inl fT)), ((ma 11), .inl (cI, 40, .inl fTS))]) hP hD [2, 3, 4, 5, 6, 7] [0, 1] rfl rfl (by decide) (by decide) hk1 hFc hP1 hD1
    clear hPc hDc hFc hP1 hD1 hk1 hz1
    generalize H1 = H at hP hS ⊢
    have hP : va_P D CL [((ma 13), .inl (cI, 40, .inl fBs)), ((ma 15), .inl (cI, 40, .inl fEs)), (h0, .inr (11, MO ma sv_thrown sv_length sv_nodes sv_many sv_directories sv_runsFrom sv_runs sv_read sv_wrong sv_isNamed sv_goes sv_goesSize sv_goesAt sv_targetParts sv_isRoot)), ((ma 16), .inl (cJ, 46080, .inr (.inl G_20))), ((ma 1), .inl (cI, 40, .inl fK)), ((ma 9), .inl (cI, 40, .inl fNS)), ((ma 10), .inl (cB, 8000, .inl fT)), ((ma 11), .inl (cI, 40, .inl fTS))] H := hP
    have hD : va_D A [((ma 13), .inl (cI, 40, .inl fBs)), ((ma 15), .inl (cI, 40, .inl fEs)), (h0, .inr (11, MO ma sv_thrown sv_length sv_nodes sv_many sv_directories sv_runsFrom sv_runs sv_read sv_wrong sv_isNamed sv_goes sv_goesSize sv_goesAt sv_targetParts sv_isRoot)), ((ma 16), .inl (cJ, 46080, .inr (.inl G_20))), ((ma 1), .inl (cI, 40, .inl fK)), ((ma 9), .inl (cI, 40, .inl fNS)), ((ma 10), .inl (cB, 8000, .inl fT)), ((ma 11), .inl (cI, 40, .inl fTS))] := hD
    try dsimp only at hp_r19
    obtain ⟨hv_21, hr_22⟩ := hp_r19
    try rw [L_3] at hv_21
    refine lv_iadd hx hb d_DiscMakerModel_outside_25 ?_
    refine lv_topi (fun v23 e_v23 => ?_)
    have t_v23 : v23.toInt = v18.toInt + r19.toInt := by rw [e_v23]; exact i_add rfl rfl (by omega) (by omega)
    refine lv_istore_n hx hb d_DiscMakerModel_outside_26 rfl hl (by decide) rfl (fun ls hl => ?_)
    have hl : lv_has ls 5 [(3, .int v23), (4, .int 3), (0, .ref h0), (1, .int x), (2, .int y)] := hl
    refine lv_iinc (v := 4) hx hb d_DiscMakerModel_outside_27 hl (k := 1) rfl (by decide) (by decide) rfl (fun ls hl => ?_)
    have hl : lv_has ls 5 [(4, .int 4), (3, .int v23), (0, .ref h0), (1, .int x), (2, .int y)] := hl
    refine lv_goto (tgt := 10) hx hb d_DiscMakerModel_outside_30 (by decide) ?_
    refine lv_iload hx hb d_DiscMakerModel_outside_10 (lv_at hl 0 rfl) ?_
    refine lv_iconst (v := 4) hx hb d_DiscMakerModel_outside_12 (by decide) ?_
    refine lv_icmp_ge (tgt := 33) hx hb d_DiscMakerModel_outside_13 (by decide) (fun _ => ?_) (fun h_9 => absurd (by decide) h_9)
    refine lv_iload_n hx hb d_DiscMakerModel_outside_33 rfl (lv_at hl 1 rfl) ?_
    have hP9 := hP.sub (ws' := [(h0, .inr (11, MO ma sv_thrown sv_length sv_nodes sv_many sv_directories sv_runsFrom sv_runs sv_read sv_wrong sv_isNamed sv_goes sv_goesSize sv_goesAt sv_targetParts sv_isRoot)), ((ma 16), .inl (cJ, 46080, .inr (.inl G_20))), ((ma 1), .inl (cI, 40, .inl fK)), ((ma 9), .inl (cI, 40, .inl fNS)), ((ma 10), .inl (cB, 8000, .inl fT)), ((ma 11), .inl (cI, 40, .inl fTS)), ((ma 13), .inl (cI, 40, .inl fBs)), ((ma 15), .inl (cI, 40, .inl fEs))]) [2, 3, 4, 5, 6, 7, 0, 1] rfl
    have hD9 := hD.sub (ws' := [(h0, .inr (11, MO ma sv_thrown sv_length sv_nodes sv_many sv_directories sv_runsFrom sv_runs sv_read sv_wrong sv_isNamed sv_goes sv_goesSize sv_goesAt sv_targetParts sv_isRoot)), ((ma 16), .inl (cJ, 46080, .inr (.inl G_20))), ((ma 1), .inl (cI, 40, .inl fK)), ((ma 9), .inl (cI, 40, .inl fNS)), ((ma 10), .inl (cB, 8000, .inl fT)), ((ma 11), .inl (cI, 40, .inl fTS)), ((ma 13), .inl (cI, 40, .inl fBs)), ((ma 15), .inl (cI, 40, .inl fEs))]) [2, 3, 4, 5, 6, 7, 0, 1] (by decide) rfl
    exact W.iret (v := v23) hx hb hr (fun t ht hW => ⟨⟨v23, G_20, rfl, ⟨(by (try dsimp only); first | assumption | omega | trivial), (by (try dsimp only); first | assumption | omega | trivial), (by (try dsimp only); intro h9; have := hlo h9; omega)⟩, by rw [ht]; exact hP9, hD9⟩, hS.F ht⟩) hS.2.2 d_DiscMakerModel_outside_34
  · skip
    have e_9 : r1 = 1 := Int32.toInt_inj.mp (by rw [h_9]; decide)
    subst e_9
    refine lv_istore hx hb d_DiscMakerModel_outside_8 hl (by decide) rfl (fun ls hl => ?_)
    have hl : lv_has ls 5 [(4, .int 1), (3, .int 0), (0, .ref h0), (1, .int x), (2, .int y)] := hl
    refine lv_iload hx hb d_DiscMakerModel_outside_10 (lv_at hl 0 rfl) ?_
    refine lv_iconst (v := 4) hx hb d_DiscMakerModel_outside_12 (by decide) ?_
    refine lv_icmp_ge (tgt := 33) hx hb d_DiscMakerModel_outside_13 (by decide) (fun h_9 => absurd h_9 (by decide)) (fun _ => ?_)
    refine lv_iload_n hx hb d_DiscMakerModel_outside_16 rfl (lv_at hl 1 rfl) ?_
    refine lv_aload_n hx hb d_DiscMakerModel_outside_17 rfl (lv_at hl 2 rfl) ?_
    refine lv_iload hx hb d_DiscMakerModel_outside_18 (lv_at hl 0 rfl) ?_
    refine lv_iload_n hx hb d_DiscMakerModel_outside_20 rfl (lv_at hl 3 rfl) ?_
    refine lv_iload_n hx hb d_DiscMakerModel_outside_21 rfl (lv_at hl 4 rfl) ?_
    have hPc := hP.sub (ws' := [(h0, .inr (11, MO ma sv_thrown sv_length sv_nodes sv_many sv_directories sv_runsFrom sv_runs sv_read sv_wrong sv_isNamed sv_goes sv_goesSize sv_goesAt sv_targetParts sv_isRoot)), ((ma 16), .inl (cJ, 46080, .inr (.inl G_2))), ((ma 1), .inl (cI, 40, .inl fK)), ((ma 9), .inl (cI, 40, .inl fNS)), ((ma 10), .inl (cB, 8000, .inl fT)), ((ma 11), .inl (cI, 40, .inl fTS))]) [0, 1, 2, 3, 4, 5] rfl
    have hDc := hD.sub (ws' := [(h0, .inr (11, MO ma sv_thrown sv_length sv_nodes sv_many sv_directories sv_runsFrom sv_runs sv_read sv_wrong sv_isNamed sv_goes sv_goesSize sv_goesAt sv_targetParts sv_isRoot)), ((ma 16), .inl (cJ, 46080, .inr (.inl G_2))), ((ma 1), .inl (cI, 40, .inl fK)), ((ma 9), .inl (cI, 40, .inl fNS)), ((ma 10), .inl (cB, 8000, .inl fT)), ((ma 11), .inl (cI, 40, .inl fTS))]) [0, 1, 2, 3, 4, 5] (by decide) rfl
    have hFc := va_free (wc := [(h0, .inr (11, MO ma sv_thrown sv_length sv_nodes sv_many sv_directories sv_runsFrom sv_runs sv_read sv_wrong sv_isNamed sv_goes sv_goesSize sv_goesAt sv_targetParts sv_isRoot)), ((ma 16), .inl (cJ, 46080, .inr (.inl G_2))), ((ma 1), .inl (cI, 40, .inl fK)), ((ma 9), .inl (cI, 40, .inl fNS)), ((ma 10), .inl (cB, 8000, .inl fT)), ((ma 11), .inl (cI, 40, .inl fTS))]) hD hS hA [0, 1, 2, 3, 4, 5] rfl
    have hkc : 0 ≤ 0 := by decide
    have hks : 0 ≤ 0 := by decide
    refine va_calli (va_runV (C := "DiscMakerModel") (As := [.int 1, .int x, .int y]) (rest := [.int 0]) ⟨hx, hb, hml, hown, hts⟩ (m_partSize l D cB cI cJ cZ cN cF H.size h0 ma sv_thrown sv_length sv_nodes sv_many sv_directories sv_runsFrom sv_runs sv_read sv_wrong sv_isNamed sv_goes sv_goesSize sv_goesAt sv_targetParts sv_isRoot G_2 fK fNS fT fTS 1 x y (by (try dsimp only); first | assumption | omega | trivial) (by (try dsimp only); first | assumption | omega | trivial) (by (try dsimp only); first | assumption | omega | trivial) (by (try dsimp only); first | assumption | omega | trivial) (by (try dsimp only); first | assumption | omega | trivial)) (cwV 3 hts (lg_goodV k1715 k1717 k76 k125 kc_DiscMakerModel_partSize) rfl rfl rfl (by decide +kernel) ⟨Nat.le_of_ble_eq_true rfl, Nat.le_of_ble_eq_true rfl⟩) ⟨fun a U g mk q => by obtain ⟨q0, q1, qP, qK, qN, qD⟩ := q; exact ⟨q0, q1, qP, va_K.moved (u := U) (U := U.calling g mk a) (Vm.Alike.refl U.vm) qK, qN.calling, qD⟩, va_recv hK hP (ci := 11) (q0 := 0) rfl rfl, fun U hU hW => ⟨rfl, by rw [hU], by rw [hU]; exact hPc, va_K.moved hW.alike hK, NN.warm hW hN, hDc.weaken (fun _ _ _ _ => trivial)⟩⟩ rfl rfl hl.1 rfl (lv_room (Nat.le_of_ble_eq_true rfl)) d_DiscMakerModel_outside_22 ⟨hkc, hks⟩) hS (fun q _ h => hFc q h) hFc (fun r24 u t H1 locs ht hvm hp_r24 hB hz1 hk1 hS => ?_)
    obtain ⟨G_25, rfl⟩ : ∃ z, z = u := ⟨_, rfl⟩
    obtain ⟨hP1, hD1⟩ := hB
    rw [ht] at hP1
    obtain ⟨hP, hD⟩ := va_join (wr := [((ma 13), .inl (cI, 40, .inl fBs)), ((ma 15), .inl (cI, 40, .inl fEs))]) (w1 := [(h0, .inr (11, MO ma sv_thrown sv_length sv_nodes sv_many sv_directories sv_runsFrom sv_runs sv_read sv_wrong sv_isNamed sv_goes sv_goesSize sv_goesAt sv_targetParts sv_isRoot)), ((ma 16), .inl (cJ, 46080, .inr (.inl G_25))), ((ma 1), .inl (cI, 40, .inl fK)), ((ma 9), .inl (cI, 40, .inl fNS)), ((ma 10), .inl (cB, 8000, .inl fT)), ((ma 11), .inl (cI, 40, .inl fTS))]) hP hD [0, 1, 2, 3, 4, 5] [6, 7] rfl rfl (by decide) (by decide) hk1 hFc hP1 hD1
    clear hPc hDc hFc hP1 hD1 hk1 hz1
    generalize H1 = H at hP hS ⊢
    have hP : va_P D CL [((ma 13), .inl (cI, 40, .inl fBs)), ((ma 15), .inl (cI, 40, .inl fEs)), (h0, .inr (11, MO ma sv_thrown sv_length sv_nodes sv_many sv_directories sv_runsFrom sv_runs sv_read sv_wrong sv_isNamed sv_goes sv_goesSize sv_goesAt sv_targetParts sv_isRoot)), ((ma 16), .inl (cJ, 46080, .inr (.inl G_25))), ((ma 1), .inl (cI, 40, .inl fK)), ((ma 9), .inl (cI, 40, .inl fNS)), ((ma 10), .inl (cB, 8000, .inl fT)), ((ma 11), .inl (cI, 40, .inl fTS))] H := hP
    have hD : va_D A [((ma 13), .inl (cI, 40, .inl fBs)), ((ma 15), .inl (cI, 40, .inl fEs)), (h0, .inr (11, MO ma sv_thrown sv_length sv_nodes sv_many sv_directories sv_runsFrom sv_runs sv_read sv_wrong sv_isNamed sv_goes sv_goesSize sv_goesAt sv_targetParts sv_isRoot)), ((ma 16), .inl (cJ, 46080, .inr (.inl G_25))), ((ma 1), .inl (cI, 40, .inl fK)), ((ma 9), .inl (cI, 40, .inl fNS)), ((ma 10), .inl (cB, 8000, .inl fT)), ((ma 11), .inl (cI, 40, .inl fTS))] := hD
    try dsimp only at hp_r24
    obtain ⟨hv_26, hr_27⟩ := hp_r24
    try rw [L_1] at hv_26
    refine lv_iadd hx hb d_DiscMakerModel_outside_25 ?_
    refine lv_topi (fun v28 e_v28 => ?_)
    have t_v28 : v28.toInt = 0 + r24.toInt := by rw [e_v28]; exact i_add (by decide) rfl (by omega) (by omega)
    refine lv_istore_n hx hb d_DiscMakerModel_outside_26 rfl hl (by decide) rfl (fun ls hl => ?_)
    have hl : lv_has ls 5 [(3, .int v28), (4, .int 1), (0, .ref h0), (1, .int x), (2, .int y)] := hl
    refine lv_iinc (v := 2) hx hb d_DiscMakerModel_outside_27 hl (k := 1) rfl (by decide) (by decide) rfl (fun ls hl => ?_)
    have L_2 : (2 : Int32).toInt = 2 := by decide
    have hl : lv_has ls 5 [(4, .int 2), (3, .int v28), (0, .ref h0), (1, .int x), (2, .int y)] := hl
    refine lv_goto (tgt := 10) hx hb d_DiscMakerModel_outside_30 (by decide) ?_
    refine lv_iload hx hb d_DiscMakerModel_outside_10 (lv_at hl 0 rfl) ?_
    refine lv_iconst (v := 4) hx hb d_DiscMakerModel_outside_12 (by decide) ?_
    refine lv_icmp_ge (tgt := 33) hx hb d_DiscMakerModel_outside_13 (by decide) (fun h_9 => absurd h_9 (by decide)) (fun _ => ?_)
    refine lv_iload_n hx hb d_DiscMakerModel_outside_16 rfl (lv_at hl 1 rfl) ?_
    refine lv_aload_n hx hb d_DiscMakerModel_outside_17 rfl (lv_at hl 2 rfl) ?_
    refine lv_iload hx hb d_DiscMakerModel_outside_18 (lv_at hl 0 rfl) ?_
    refine lv_iload_n hx hb d_DiscMakerModel_outside_20 rfl (lv_at hl 3 rfl) ?_
    refine lv_iload_n hx hb d_DiscMakerModel_outside_21 rfl (lv_at hl 4 rfl) ?_
    have hPc := hP.sub (ws' := [(h0, .inr (11, MO ma sv_thrown sv_length sv_nodes sv_many sv_directories sv_runsFrom sv_runs sv_read sv_wrong sv_isNamed sv_goes sv_goesSize sv_goesAt sv_targetParts sv_isRoot)), ((ma 16), .inl (cJ, 46080, .inr (.inl G_25))), ((ma 1), .inl (cI, 40, .inl fK)), ((ma 9), .inl (cI, 40, .inl fNS)), ((ma 10), .inl (cB, 8000, .inl fT)), ((ma 11), .inl (cI, 40, .inl fTS))]) [2, 3, 4, 5, 6, 7] rfl
    have hDc := hD.sub (ws' := [(h0, .inr (11, MO ma sv_thrown sv_length sv_nodes sv_many sv_directories sv_runsFrom sv_runs sv_read sv_wrong sv_isNamed sv_goes sv_goesSize sv_goesAt sv_targetParts sv_isRoot)), ((ma 16), .inl (cJ, 46080, .inr (.inl G_25))), ((ma 1), .inl (cI, 40, .inl fK)), ((ma 9), .inl (cI, 40, .inl fNS)), ((ma 10), .inl (cB, 8000, .inl fT)), ((ma 11), .inl (cI, 40, .inl fTS))]) [2, 3, 4, 5, 6, 7] (by decide) rfl
    have hFc := va_free (wc := [(h0, .inr (11, MO ma sv_thrown sv_length sv_nodes sv_many sv_directories sv_runsFrom sv_runs sv_read sv_wrong sv_isNamed sv_goes sv_goesSize sv_goesAt sv_targetParts sv_isRoot)), ((ma 16), .inl (cJ, 46080, .inr (.inl G_25))), ((ma 1), .inl (cI, 40, .inl fK)), ((ma 9), .inl (cI, 40, .inl fNS)), ((ma 10), .inl (cB, 8000, .inl fT)), ((ma 11), .inl (cI, 40, .inl fTS))]) hD hS hA [2, 3, 4, 5, 6, 7] rfl
    have hkc : 0 ≤ 0 := by decide
    have hks : 0 ≤ 0 := by decide
    refine va_calli (va_runV (C := "DiscMakerModel") (As := [.int 2, .int x, .int y]) (rest := [.int v28]) ⟨hx, hb, hml, hown, hts⟩ (m_partSize l D cB cI cJ cZ cN cF H.size h0 ma sv_thrown sv_length sv_nodes sv_many sv_directories sv_runsFrom sv_runs sv_read sv_wrong sv_isNamed sv_goes sv_goesSize sv_goesAt sv_targetParts sv_isRoot G_25 fK fNS fT fTS 2 x y (by (try dsimp only); first | assumption | omega | trivial) (by (try dsimp only); first | assumption | omega | trivial) (by (try dsimp only); first | assumption | omega | trivial) (by (try dsimp only); first | assumption | omega | trivial) (by (try dsimp only); first | assumption | omega | trivial)) (cwV 3 hts (lg_goodV k1715 k1717 k76 k125 kc_DiscMakerModel_partSize) rfl rfl rfl (by decide +kernel) ⟨Nat.le_of_ble_eq_true rfl, Nat.le_of_ble_eq_true rfl⟩) ⟨fun a U g mk q => by obtain ⟨q0, q1, qP, qK, qN, qD⟩ := q; exact ⟨q0, q1, qP, va_K.moved (u := U) (U := U.calling g mk a) (Vm.Alike.refl U.vm) qK, qN.calling, qD⟩, va_recv hK hP (ci := 11) (q0 := 2) rfl rfl, fun U hU hW => ⟨rfl, by rw [hU], by rw [hU]; exact hPc, va_K.moved hW.alike hK, NN.warm hW hN, hDc.weaken (fun _ _ _ _ => trivial)⟩⟩ rfl rfl hl.1 rfl (lv_room (Nat.le_of_ble_eq_true rfl)) d_DiscMakerModel_outside_22 ⟨hkc, hks⟩) hS (fun q _ h => hFc q h) hFc (fun r29 u t H1 locs ht hvm hp_r29 hB hz1 hk1 hS => ?_)
    obtain ⟨G_30, rfl⟩ : ∃ z, z = u := ⟨_, rfl⟩
    obtain ⟨hP1, hD1⟩ := hB
    rw [ht] at hP1
    obtain ⟨hP, hD⟩ := va_join (wr := [((ma 13), .inl (cI, 40, .inl fBs)), ((ma 15), .inl (cI, 40, .inl fEs))]) (w1 := [(h0, .inr (11, MO ma sv_thrown sv_length sv_nodes sv_many sv_directories sv_runsFrom sv_runs sv_read sv_wrong sv_isNamed sv_goes sv_goesSize sv_goesAt sv_targetParts sv_isRoot)), ((ma 16), .inl (cJ, 46080, .inr (.inl G_30))), ((ma 1), .inl (cI, 40, .inl fK)), ((ma 9), .inl (cI, 40, .inl fNS)), ((ma 10), .inl (cB, 8000, .inl fT)), ((ma 11), .inl (cI, 40, .inl fTS))]) hP hD [2, 3, 4, 5, 6, 7] [0, 1] rfl rfl (by decide) (by decide) hk1 hFc hP1 hD1
    clear hPc hDc hFc hP1 hD1 hk1 hz1
    generalize H1 = H at hP hS ⊢
    have hP : va_P D CL [((ma 13), .inl (cI, 40, .inl fBs)), ((ma 15), .inl (cI, 40, .inl fEs)), (h0, .inr (11, MO ma sv_thrown sv_length sv_nodes sv_many sv_directories sv_runsFrom sv_runs sv_read sv_wrong sv_isNamed sv_goes sv_goesSize sv_goesAt sv_targetParts sv_isRoot)), ((ma 16), .inl (cJ, 46080, .inr (.inl G_30))), ((ma 1), .inl (cI, 40, .inl fK)), ((ma 9), .inl (cI, 40, .inl fNS)), ((ma 10), .inl (cB, 8000, .inl fT)), ((ma 11), .inl (cI, 40, .inl fTS))] H := hP
    have hD : va_D A [((ma 13), .inl (cI, 40, .inl fBs)), ((ma 15), .inl (cI, 40, .inl fEs)), (h0, .inr (11, MO ma sv_thrown sv_length sv_nodes sv_many sv_directories sv_runsFrom sv_runs sv_read sv_wrong sv_isNamed sv_goes sv_goesSize sv_goesAt sv_targetParts sv_isRoot)), ((ma 16), .inl (cJ, 46080, .inr (.inl G_30))), ((ma 1), .inl (cI, 40, .inl fK)), ((ma 9), .inl (cI, 40, .inl fNS)), ((ma 10), .inl (cB, 8000, .inl fT)), ((ma 11), .inl (cI, 40, .inl fTS))] := hD
    try dsimp only at hp_r29
    obtain ⟨hv_31, hr_32⟩ := hp_r29
    try rw [L_2] at hv_31
    refine lv_iadd hx hb d_DiscMakerModel_outside_25 ?_
    refine lv_topi (fun v33 e_v33 => ?_)
    have t_v33 : v33.toInt = v28.toInt + r29.toInt := by rw [e_v33]; exact i_add rfl rfl (by omega) (by omega)
    refine lv_istore_n hx hb d_DiscMakerModel_outside_26 rfl hl (by decide) rfl (fun ls hl => ?_)
    have hl : lv_has ls 5 [(3, .int v33), (4, .int 2), (0, .ref h0), (1, .int x), (2, .int y)] := hl
    refine lv_iinc (v := 3) hx hb d_DiscMakerModel_outside_27 hl (k := 1) rfl (by decide) (by decide) rfl (fun ls hl => ?_)
    have L_3 : (3 : Int32).toInt = 3 := by decide
    have hl : lv_has ls 5 [(4, .int 3), (3, .int v33), (0, .ref h0), (1, .int x), (2, .int y)] := hl
    refine lv_goto (tgt := 10) hx hb d_DiscMakerModel_outside_30 (by decide) ?_
    refine lv_iload hx hb d_DiscMakerModel_outside_10 (lv_at hl 0 rfl) ?_
    refine lv_iconst (v := 4) hx hb d_DiscMakerModel_outside_12 (by decide) ?_
    refine lv_icmp_ge (tgt := 33) hx hb d_DiscMakerModel_outside_13 (by decide) (fun h_9 => absurd h_9 (by decide)) (fun _ => ?_)
    refine lv_iload_n hx hb d_DiscMakerModel_outside_16 rfl (lv_at hl 1 rfl) ?_
    refine lv_aload_n hx hb d_DiscMakerModel_outside_17 rfl (lv_at hl 2 rfl) ?_
    refine lv_iload hx hb d_DiscMakerModel_outside_18 (lv_at hl 0 rfl) ?_
    refine lv_iload_n hx hb d_DiscMakerModel_outside_20 rfl (lv_at hl 3 rfl) ?_
    refine lv_iload_n hx hb d_DiscMakerModel_outside_21 rfl (lv_at hl 4 rfl) ?_
    have hPc := hP.sub (ws' := [(h0, .inr (11, MO ma sv_thrown sv_length sv_nodes sv_many sv_directories sv_runsFrom sv_runs sv_read sv_wrong sv_isNamed sv_goes sv_goesSize sv_goesAt sv_targetParts sv_isRoot)), ((ma 16), .inl (cJ, 46080, .inr (.inl G_30))), ((ma 1), .inl (cI, 40, .inl fK)), ((ma 9), .inl (cI, 40, .inl fNS)), ((ma 10), .inl (cB, 8000, .inl fT)), ((ma 11), .inl (cI, 40, .inl fTS))]) [2, 3, 4, 5, 6, 7] rfl
    have hDc := hD.sub (ws' := [(h0, .inr (11, MO ma sv_thrown sv_length sv_nodes sv_many sv_directories sv_runsFrom sv_runs sv_read sv_wrong sv_isNamed sv_goes sv_goesSize sv_goesAt sv_targetParts sv_isRoot)), ((ma 16), .inl (cJ, 46080, .inr (.inl G_30))), ((ma 1), .inl (cI, 40, .inl fK)), ((ma 9), .inl (cI, 40, .inl fNS)), ((ma 10), .inl (cB, 8000, .inl fT)), ((ma 11), .inl (cI, 40, .inl fTS))]) [2, 3, 4, 5, 6, 7] (by decide) rfl
    have hFc := va_free (wc := [(h0, .inr (11, MO ma sv_thrown sv_length sv_nodes sv_many sv_directories sv_runsFrom sv_runs sv_read sv_wrong sv_isNamed sv_goes sv_goesSize sv_goesAt sv_targetParts sv_isRoot)), ((ma 16), .inl (cJ, 46080, .inr (.inl G_30))), ((ma 1), .inl (cI, 40, .inl fK)), ((ma 9), .inl (cI, 40, .inl fNS)), ((ma 10), .inl (cB, 8000, .inl fT)), ((ma 11), .inl (cI, 40, .inl fTS))]) hD hS hA [2, 3, 4, 5, 6, 7] rfl
    have hkc : 0 ≤ 0 := by decide
    have hks : 0 ≤ 0 := by decide
    refine va_calli (va_runV (C := "DiscMakerModel") (As := [.int 3, .int x, .int y]) (rest := [.int v33]) ⟨hx, hb, hml, hown, hts⟩ (m_partSize l D cB cI cJ cZ cN cF H.size h0 ma sv_thrown sv_length sv_nodes sv_many sv_directories sv_runsFrom sv_runs sv_read sv_wrong sv_isNamed sv_goes sv_goesSize sv_goesAt sv_targetParts sv_isRoot G_30 fK fNS fT fTS 3 x y (by (try dsimp only); first | assumption | omega | trivial) (by (try dsimp only); first | assumption | omega | trivial) (by (try dsimp only); first | assumption | omega | trivial) (by (try dsimp only); first | assumption | omega | trivial) (by (try dsimp only); first | assumption | omega | trivial)) (cwV 3 hts (lg_goodV k1715 k1717 k76 k125 kc_DiscMakerModel_partSize) rfl rfl rfl (by decide +kernel) ⟨Nat.le_of_ble_eq_true rfl, Nat.le_of_ble_eq_true rfl⟩) ⟨fun a U g mk q => by obtain ⟨q0, q1, qP, qK, qN, qD⟩ := q; exact ⟨q0, q1, qP, va_K.moved (u := U) (U := U.calling g mk a) (Vm.Alike.refl U.vm) qK, qN.calling, qD⟩, va_recv hK hP (ci := 11) (q0 := 2) rfl rfl, fun U hU hW => ⟨rfl, by rw [hU], by rw [hU]; exact hPc, va_K.moved hW.alike hK, NN.warm hW hN, hDc.weaken (fun _ _ _ _ => trivial)⟩⟩ rfl rfl hl.1 rfl (lv_room (Nat.le_of_ble_eq_true rfl)) d_DiscMakerModel_outside_22 ⟨hkc, hks⟩) hS (fun q _ h => hFc q h) hFc (fun r34 u t H1 locs ht hvm hp_r34 hB hz1 hk1 hS => ?_)
    obtain ⟨G_35, rfl⟩ : ∃ z, z = u := ⟨_, rfl⟩
    obtain ⟨hP1, hD1⟩ := hB
    rw [ht] at hP1
    obtain ⟨hP, hD⟩ := va_join (wr := [((ma 13), .inl (cI, 40, .inl fBs)), ((ma 15), .inl (cI, 40, .inl fEs))]) (w1 := [(h0, .inr (11, MO ma sv_thrown sv_length sv_nodes sv_many sv_directories sv_runsFrom sv_runs sv_read sv_wrong sv_isNamed sv_goes sv_goesSize sv_goesAt sv_targetParts sv_isRoot)), ((ma 16), .inl (cJ, 46080, .inr (.inl G_35))), ((ma 1), .inl (cI, 40, .inl fK)), ((ma 9), .inl (cI, 40, .inl fNS)), ((ma 10), .inl (cB, 8000, .inl fT)), ((ma 11), .inl (cI, 40, .inl fTS))]) hP hD [2, 3, 4, 5, 6, 7] [0, 1] rfl rfl (by decide) (by decide) hk1 hFc hP1 hD1
    clear hPc hDc hFc hP1 hD1 hk1 hz1
    generalize H1 = H at hP hS ⊢
    have hP : va_P D CL [((ma 13), .inl (cI, 40, .inl fBs)), ((ma 15), .inl (cI, 40, .inl fEs)), (h0, .inr (11, MO ma sv_thrown sv_length sv_nodes sv_many sv_directories sv_runsFrom sv_runs sv_read sv_wrong sv_isNamed sv_goes sv_goesSize sv_goesAt sv_targetParts sv_isRoot)), ((ma 16), .inl (cJ, 46080, .inr (.inl G_35))), ((ma 1), .inl (cI, 40, .inl fK)), ((ma 9), .inl (cI, 40, .inl fNS)), ((ma 10), .inl (cB, 8000, .inl fT)), ((ma 11), .inl (cI, 40, .inl fTS))] H := hP
    have hD : va_D A [((ma 13), .inl (cI, 40, .inl fBs)), ((ma 15), .inl (cI, 40, .inl fEs)), (h0, .inr (11, MO ma sv_thrown sv_length sv_nodes sv_many sv_directories sv_runsFrom sv_runs sv_read sv_wrong sv_isNamed sv_goes sv_goesSize sv_goesAt sv_targetParts sv_isRoot)), ((ma 16), .inl (cJ, 46080, .inr (.inl G_35))), ((ma 1), .inl (cI, 40, .inl fK)), ((ma 9), .inl (cI, 40, .inl fNS)), ((ma 10), .inl (cB, 8000, .inl fT)), ((ma 11), .inl (cI, 40, .inl fTS))] := hD
    try dsimp only at hp_r34
    obtain ⟨hv_36, hr_37⟩ := hp_r34
    try rw [L_3] at hv_36
    refine lv_iadd hx hb d_DiscMakerModel_outside_25 ?_
    refine lv_topi (fun v38 e_v38 => ?_)
    have t_v38 : v38.toInt = v33.toInt + r34.toInt := by rw [e_v38]; exact i_add rfl rfl (by omega) (by omega)
    refine lv_istore_n hx hb d_DiscMakerModel_outside_26 rfl hl (by decide) rfl (fun ls hl => ?_)
    have hl : lv_has ls 5 [(3, .int v38), (4, .int 3), (0, .ref h0), (1, .int x), (2, .int y)] := hl
    refine lv_iinc (v := 4) hx hb d_DiscMakerModel_outside_27 hl (k := 1) rfl (by decide) (by decide) rfl (fun ls hl => ?_)
    have hl : lv_has ls 5 [(4, .int 4), (3, .int v38), (0, .ref h0), (1, .int x), (2, .int y)] := hl
    refine lv_goto (tgt := 10) hx hb d_DiscMakerModel_outside_30 (by decide) ?_
    refine lv_iload hx hb d_DiscMakerModel_outside_10 (lv_at hl 0 rfl) ?_
    refine lv_iconst (v := 4) hx hb d_DiscMakerModel_outside_12 (by decide) ?_
    refine lv_icmp_ge (tgt := 33) hx hb d_DiscMakerModel_outside_13 (by decide) (fun _ => ?_) (fun h_9 => absurd (by decide) h_9)
    refine lv_iload_n hx hb d_DiscMakerModel_outside_33 rfl (lv_at hl 1 rfl) ?_
    have hP9 := hP.sub (ws' := [(h0, .inr (11, MO ma sv_thrown sv_length sv_nodes sv_many sv_directories sv_runsFrom sv_runs sv_read sv_wrong sv_isNamed sv_goes sv_goesSize sv_goesAt sv_targetParts sv_isRoot)), ((ma 16), .inl (cJ, 46080, .inr (.inl G_35))), ((ma 1), .inl (cI, 40, .inl fK)), ((ma 9), .inl (cI, 40, .inl fNS)), ((ma 10), .inl (cB, 8000, .inl fT)), ((ma 11), .inl (cI, 40, .inl fTS)), ((ma 13), .inl (cI, 40, .inl fBs)), ((ma 15), .inl (cI, 40, .inl fEs))]) [2, 3, 4, 5, 6, 7, 0, 1] rfl
    have hD9 := hD.sub (ws' := [(h0, .inr (11, MO ma sv_thrown sv_length sv_nodes sv_many sv_directories sv_runsFrom sv_runs sv_read sv_wrong sv_isNamed sv_goes sv_goesSize sv_goesAt sv_targetParts sv_isRoot)), ((ma 16), .inl (cJ, 46080, .inr (.inl G_35))), ((ma 1), .inl (cI, 40, .inl fK)), ((ma 9), .inl (cI, 40, .inl fNS)), ((ma 10), .inl (cB, 8000, .inl fT)), ((ma 11), .inl (cI, 40, .inl fTS)), ((ma 13), .inl (cI, 40, .inl fBs)), ((ma 15), .inl (cI, 40, .inl fEs))]) [2, 3, 4, 5, 6, 7, 0, 1] (by decide) rfl
    exact W.iret (v := v38) hx hb hr (fun t ht hW => ⟨⟨v38, G_35, rfl, ⟨(by (try dsimp only); first | assumption | omega | trivial), (by (try dsimp only); first | assumption | omega | trivial), (by (try dsimp only); intro h9; have := hlo h9; omega)⟩, by rw [ht]; exact hP9, hD9⟩, hS.F ht⟩) hS.2.2 d_DiscMakerModel_outside_34
  · skip
    have e_9 : r1 = 2 := Int32.toInt_inj.mp (by rw [h_9]; decide)
    subst e_9
    refine lv_istore hx hb d_DiscMakerModel_outside_8 hl (by decide) rfl (fun ls hl => ?_)
    have hl : lv_has ls 5 [(4, .int 2), (3, .int 0), (0, .ref h0), (1, .int x), (2, .int y)] := hl
    refine lv_iload hx hb d_DiscMakerModel_outside_10 (lv_at hl 0 rfl) ?_
    refine lv_iconst (v := 4) hx hb d_DiscMakerModel_outside_12 (by decide) ?_
    refine lv_icmp_ge (tgt := 33) hx hb d_DiscMakerModel_outside_13 (by decide) (fun h_9 => absurd h_9 (by decide)) (fun _ => ?_)
    refine lv_iload_n hx hb d_DiscMakerModel_outside_16 rfl (lv_at hl 1 rfl) ?_
    refine lv_aload_n hx hb d_DiscMakerModel_outside_17 rfl (lv_at hl 2 rfl) ?_
    refine lv_iload hx hb d_DiscMakerModel_outside_18 (lv_at hl 0 rfl) ?_
    refine lv_iload_n hx hb d_DiscMakerModel_outside_20 rfl (lv_at hl 3 rfl) ?_
    refine lv_iload_n hx hb d_DiscMakerModel_outside_21 rfl (lv_at hl 4 rfl) ?_
    have hPc := hP.sub (ws' := [(h0, .inr (11, MO ma sv_thrown sv_length sv_nodes sv_many sv_directories sv_runsFrom sv_runs sv_read sv_wrong sv_isNamed sv_goes sv_goesSize sv_goesAt sv_targetParts sv_isRoot)), ((ma 16), .inl (cJ, 46080, .inr (.inl G_2))), ((ma 1), .inl (cI, 40, .inl fK)), ((ma 9), .inl (cI, 40, .inl fNS)), ((ma 10), .inl (cB, 8000, .inl fT)), ((ma 11), .inl (cI, 40, .inl fTS))]) [0, 1, 2, 3, 4, 5] rfl
    have hDc := hD.sub (ws' := [(h0, .inr (11, MO ma sv_thrown sv_length sv_nodes sv_many sv_directories sv_runsFrom sv_runs sv_read sv_wrong sv_isNamed sv_goes sv_goesSize sv_goesAt sv_targetParts sv_isRoot)), ((ma 16), .inl (cJ, 46080, .inr (.inl G_2))), ((ma 1), .inl (cI, 40, .inl fK)), ((ma 9), .inl (cI, 40, .inl fNS)), ((ma 10), .inl (cB, 8000, .inl fT)), ((ma 11), .inl (cI, 40, .inl fTS))]) [0, 1, 2, 3, 4, 5] (by decide) rfl
    have hFc := va_free (wc := [(h0, .inr (11, MO ma sv_thrown sv_length sv_nodes sv_many sv_directories sv_runsFrom sv_runs sv_read sv_wrong sv_isNamed sv_goes sv_goesSize sv_goesAt sv_targetParts sv_isRoot)), ((ma 16), .inl (cJ, 46080, .inr (.inl G_2))), ((ma 1), .inl (cI, 40, .inl fK)), ((ma 9), .inl (cI, 40, .inl fNS)), ((ma 10), .inl (cB, 8000, .inl fT)), ((ma 11), .inl (cI, 40, .inl fTS))]) hD hS hA [0, 1, 2, 3, 4, 5] rfl
    have hkc : 0 ≤ 0 := by decide
    have hks : 0 ≤ 0 := by decide
    refine va_calli (va_runV (C := "DiscMakerModel") (As := [.int 2, .int x, .int y]) (rest := [.int 0]) ⟨hx, hb, hml, hown, hts⟩ (m_partSize l D cB cI cJ cZ cN cF H.size h0 ma sv_thrown sv_length sv_nodes sv_many sv_directories sv_runsFrom sv_runs sv_read sv_wrong sv_isNamed sv_goes sv_goesSize sv_goesAt sv_targetParts sv_isRoot G_2 fK fNS fT fTS 2 x y (by (try dsimp only); first | assumption | omega | trivial) (by (try dsimp only); first | assumption | omega | trivial) (by (try dsimp only); first | assumption | omega | trivial) (by (try dsimp only); first | assumption | omega | trivial) (by (try dsimp only); first | assumption | omega | trivial)) (cwV 3 hts (lg_goodV k1715 k1717 k76 k125 kc_DiscMakerModel_partSize) rfl rfl rfl (by decide +kernel) ⟨Nat.le_of_ble_eq_true rfl, Nat.le_of_ble_eq_true rfl⟩) ⟨fun a U g mk q => by obtain ⟨q0, q1, qP, qK, qN, qD⟩ := q; exact ⟨q0, q1, qP, va_K.moved (u := U) (U := U.calling g mk a) (Vm.Alike.refl U.vm) qK, qN.calling, qD⟩, va_recv hK hP (ci := 11) (q0 := 0) rfl rfl, fun U hU hW => ⟨rfl, by rw [hU], by rw [hU]; exact hPc, va_K.moved hW.alike hK, NN.warm hW hN, hDc.weaken (fun _ _ _ _ => trivial)⟩⟩ rfl rfl hl.1 rfl (lv_room (Nat.le_of_ble_eq_true rfl)) d_DiscMakerModel_outside_22 ⟨hkc, hks⟩) hS (fun q _ h => hFc q h) hFc (fun r39 u t H1 locs ht hvm hp_r39 hB hz1 hk1 hS => ?_)
    obtain ⟨G_40, rfl⟩ : ∃ z, z = u := ⟨_, rfl⟩
    obtain ⟨hP1, hD1⟩ := hB
    rw [ht] at hP1
    obtain ⟨hP, hD⟩ := va_join (wr := [((ma 13), .inl (cI, 40, .inl fBs)), ((ma 15), .inl (cI, 40, .inl fEs))]) (w1 := [(h0, .inr (11, MO ma sv_thrown sv_length sv_nodes sv_many sv_directories sv_runsFrom sv_runs sv_read sv_wrong sv_isNamed sv_goes sv_goesSize sv_goesAt sv_targetParts sv_isRoot)), ((ma 16), .inl (cJ, 46080, .inr (.inl G_40))), ((ma 1), .inl (cI, 40, .inl fK)), ((ma 9), .inl (cI, 40, .inl fNS)), ((ma 10), .inl (cB, 8000, .inl fT)), ((ma 11), .inl (cI, 40, .inl fTS))]) hP hD [0, 1, 2, 3, 4, 5] [6, 7] rfl rfl (by decide) (by decide) hk1 hFc hP1 hD1
    clear hPc hDc hFc hP1 hD1 hk1 hz1
    generalize H1 = H at hP hS ⊢
    have hP : va_P D CL [((ma 13), .inl (cI, 40, .inl fBs)), ((ma 15), .inl (cI, 40, .inl fEs)), (h0, .inr (11, MO ma sv_thrown sv_length sv_nodes sv_many sv_directories sv_runsFrom sv_runs sv_read sv_wrong sv_isNamed sv_goes sv_goesSize sv_goesAt sv_targetParts sv_isRoot)), ((ma 16), .inl (cJ, 46080, .inr (.inl G_40))), ((ma 1), .inl (cI, 40, .inl fK)), ((ma 9), .inl (cI, 40, .inl fNS)), ((ma 10), .inl (cB, 8000, .inl fT)), ((ma 11), .inl (cI, 40, .inl fTS))] H := hP
    have hD : va_D A [((ma 13), .inl (cI, 40, .inl fBs)), ((ma 15), .inl (cI, 40, .inl fEs)), (h0, .inr (11, MO ma sv_thrown sv_length sv_nodes sv_many sv_directories sv_runsFrom sv_runs sv_read sv_wrong sv_isNamed sv_goes sv_goesSize sv_goesAt sv_targetParts sv_isRoot)), ((ma 16), .inl (cJ, 46080, .inr (.inl G_40))), ((ma 1), .inl (cI, 40, .inl fK)), ((ma 9), .inl (cI, 40, .inl fNS)), ((ma 10), .inl (cB, 8000, .inl fT)), ((ma 11), .inl (cI, 40, .inl fTS))] := hD
    try dsimp only at hp_r39
    obtain ⟨hv_41, hr_42⟩ := hp_r39
    try rw [L_2] at hv_41
    refine lv_iadd hx hb d_DiscMakerModel_outside_25 ?_
    refine lv_topi (fun v43 e_v43 => ?_)
    have t_v43 : v43.toInt = 0 + r39.toInt := by rw [e_v43]; exact i_add (by decide) rfl (by omega) (by omega)
    refine lv_istore_n hx hb d_DiscMakerModel_outside_26 rfl hl (by decide) rfl (fun ls hl => ?_)
    have hl : lv_has ls 5 [(3, .int v43), (4, .int 2), (0, .ref h0), (1, .int x), (2, .int y)] := hl
    refine lv_iinc (v := 3) hx hb d_DiscMakerModel_outside_27 hl (k := 1) rfl (by decide) (by decide) rfl (fun ls hl => ?_)
    have L_3 : (3 : Int32).toInt = 3 := by decide
    have hl : lv_has ls 5 [(4, .int 3), (3, .int v43), (0, .ref h0), (1, .int x), (2, .int y)] := hl
    refine lv_goto (tgt := 10) hx hb d_DiscMakerModel_outside_30 (by decide) ?_
    refine lv_iload hx hb d_DiscMakerModel_outside_10 (lv_at hl 0 rfl) ?_
    refine lv_iconst (v := 4) hx hb d_DiscMakerModel_outside_12 (by decide) ?_
    refine lv_icmp_ge (tgt := 33) hx hb d_DiscMakerModel_outside_13 (by decide) (fun h_9 => absurd h_9 (by decide)) (fun _ => ?_)
    refine lv_iload_n hx hb d_DiscMakerModel_outside_16 rfl (lv_at hl 1 rfl) ?_
    refine lv_aload_n hx hb d_DiscMakerModel_outside_17 rfl (lv_at hl 2 rfl) ?_
    refine lv_iload hx hb d_DiscMakerModel_outside_18 (lv_at hl 0 rfl) ?_
    refine lv_iload_n hx hb d_DiscMakerModel_outside_20 rfl (lv_at hl 3 rfl) ?_
    refine lv_iload_n hx hb d_DiscMakerModel_outside_21 rfl (lv_at hl 4 rfl) ?_
    have hPc := hP.sub (ws' := [(h0, .inr (11, MO ma sv_thrown sv_length sv_nodes sv_many sv_directories sv_runsFrom sv_runs sv_read sv_wrong sv_isNamed sv_goes sv_goesSize sv_goesAt sv_targetParts sv_isRoot)), ((ma 16), .inl (cJ, 46080, .inr (.inl G_40))), ((ma 1), .inl (cI, 40, .inl fK)), ((ma 9), .inl (cI, 40, .inl fNS)), ((ma 10), .inl (cB, 8000, .inl fT)), ((ma 11), .inl (cI, 40, .inl fTS))]) [2, 3, 4, 5, 6, 7] rfl
    have hDc := hD.sub (ws' := [(h0, .inr (11, MO ma sv_thrown sv_length sv_nodes sv_many sv_directories sv_runsFrom sv_runs sv_read sv_wrong sv_isNamed sv_goes sv_goesSize sv_goesAt sv_targetParts sv_isRoot)), ((ma 16), .inl (cJ, 46080, .inr (.inl G_40))), ((ma 1), .inl (cI, 40, .inl fK)), ((ma 9), .inl (cI, 40, .inl fNS)), ((ma 10), .inl (cB, 8000, .inl fT)), ((ma 11), .inl (cI, 40, .inl fTS))]) [2, 3, 4, 5, 6, 7] (by decide) rfl
    have hFc := va_free (wc := [(h0, .inr (11, MO ma sv_thrown sv_length sv_nodes sv_many sv_directories sv_runsFrom sv_runs sv_read sv_wrong sv_isNamed sv_goes sv_goesSize sv_goesAt sv_targetParts sv_isRoot)), ((ma 16), .inl (cJ, 46080, .inr (.inl G_40))), ((ma 1), .inl (cI, 40, .inl fK)), ((ma 9), .inl (cI, 40, .inl fNS)), ((ma 10), .inl (cB, 8000, .inl fT)), ((ma 11), .inl (cI, 40, .inl fTS))]) hD hS hA [2, 3, 4, 5, 6, 7] rfl
    have hkc : 0 ≤ 0 := by decide
    have hks : 0 ≤ 0 := by decide
    refine va_calli (va_runV (C := "DiscMakerModel") (As := [.int 3, .int x, .int y]) (rest := [.int v43]) ⟨hx, hb, hml, hown, hts⟩ (m_partSize l D cB cI cJ cZ cN cF H.size h0 ma sv_thrown sv_length sv_nodes sv_many sv_directories sv_runsFrom sv_runs sv_read sv_wrong sv_isNamed sv_goes sv_goesSize sv_goesAt sv_targetParts sv_isRoot G_40 fK fNS fT fTS 3 x y (by (try dsimp only); first | assumption | omega | trivial) (by (try dsimp only); first | assumption | omega | trivial) (by (try dsimp only); first | assumption | omega | trivial) (by (try dsimp only); first | assumption | omega | trivial) (by (try dsimp only); first | assumption | omega | trivial)) (cwV 3 hts (lg_goodV k1715 k1717 k76 k125 kc_DiscMakerModel_partSize) rfl rfl rfl (by decide +kernel) ⟨Nat.le_of_ble_eq_true rfl, Nat.le_of_ble_eq_true rfl⟩) ⟨fun a U g mk q => by obtain ⟨q0, q1, qP, qK, qN, qD⟩ := q; exact ⟨q0, q1, qP, va_K.moved (u := U) (U := U.calling g mk a) (Vm.Alike.refl U.vm) qK, qN.calling, qD⟩, va_recv hK hP (ci := 11) (q0 := 2) rfl rfl, fun U hU hW => ⟨rfl, by rw [hU], by rw [hU]; exact hPc, va_K.moved hW.alike hK, NN.warm hW hN, hDc.weaken (fun _ _ _ _ => trivial)⟩⟩ rfl rfl hl.1 rfl (lv_room (Nat.le_of_ble_eq_true rfl)) d_DiscMakerModel_outside_22 ⟨hkc, hks⟩) hS (fun q _ h => hFc q h) hFc (fun r44 u t H1 locs ht hvm hp_r44 hB hz1 hk1 hS => ?_)
    obtain ⟨G_45, rfl⟩ : ∃ z, z = u := ⟨_, rfl⟩
    obtain ⟨hP1, hD1⟩ := hB
    rw [ht] at hP1
    obtain ⟨hP, hD⟩ := va_join (wr := [((ma 13), .inl (cI, 40, .inl fBs)), ((ma 15), .inl (cI, 40, .inl fEs))]) (w1 := [(h0, .inr (11, MO ma sv_thrown sv_length sv_nodes sv_many sv_directories sv_runsFrom sv_runs sv_read sv_wrong sv_isNamed sv_goes sv_goesSize sv_goesAt sv_targetParts sv_isRoot)), ((ma 16), .inl (cJ, 46080, .inr (.inl G_45))), ((ma 1), .inl (cI, 40, .inl fK)), ((ma 9), .inl (cI, 40, .inl fNS)), ((ma 10), .inl (cB, 8000, .inl fT)), ((ma 11), .inl (cI, 40, .inl fTS))]) hP hD [2, 3, 4, 5, 6, 7] [0, 1] rfl rfl (by decide) (by decide) hk1 hFc hP1 hD1
    clear hPc hDc hFc hP1 hD1 hk1 hz1
    generalize H1 = H at hP hS ⊢
    have hP : va_P D CL [((ma 13), .inl (cI, 40, .inl fBs)), ((ma 15), .inl (cI, 40, .inl fEs)), (h0, .inr (11, MO ma sv_thrown sv_length sv_nodes sv_many sv_directories sv_runsFrom sv_runs sv_read sv_wrong sv_isNamed sv_goes sv_goesSize sv_goesAt sv_targetParts sv_isRoot)), ((ma 16), .inl (cJ, 46080, .inr (.inl G_45))), ((ma 1), .inl (cI, 40, .inl fK)), ((ma 9), .inl (cI, 40, .inl fNS)), ((ma 10), .inl (cB, 8000, .inl fT)), ((ma 11), .inl (cI, 40, .inl fTS))] H := hP
    have hD : va_D A [((ma 13), .inl (cI, 40, .inl fBs)), ((ma 15), .inl (cI, 40, .inl fEs)), (h0, .inr (11, MO ma sv_thrown sv_length sv_nodes sv_many sv_directories sv_runsFrom sv_runs sv_read sv_wrong sv_isNamed sv_goes sv_goesSize sv_goesAt sv_targetParts sv_isRoot)), ((ma 16), .inl (cJ, 46080, .inr (.inl G_45))), ((ma 1), .inl (cI, 40, .inl fK)), ((ma 9), .inl (cI, 40, .inl fNS)), ((ma 10), .inl (cB, 8000, .inl fT)), ((ma 11), .inl (cI, 40, .inl fTS))] := hD
    try dsimp only at hp_r44
    obtain ⟨hv_46, hr_47⟩ := hp_r44
    try rw [L_3] at hv_46
    refine lv_iadd hx hb d_DiscMakerModel_outside_25 ?_
    refine lv_topi (fun v48 e_v48 => ?_)
    have t_v48 : v48.toInt = v43.toInt + r44.toInt := by rw [e_v48]; exact i_add rfl rfl (by omega) (by omega)
    refine lv_istore_n hx hb d_DiscMakerModel_outside_26 rfl hl (by decide) rfl (fun ls hl => ?_)
    have hl : lv_has ls 5 [(3, .int v48), (4, .int 3), (0, .ref h0), (1, .int x), (2, .int y)] := hl
    refine lv_iinc (v := 4) hx hb d_DiscMakerModel_outside_27 hl (k := 1) rfl (by decide) (by decide) rfl (fun ls hl => ?_)
    have hl : lv_has ls 5 [(4, .int 4), (3, .int v48), (0, .ref h0), (1, .int x), (2, .int y)] := hl
    refine lv_goto (tgt := 10) hx hb d_DiscMakerModel_outside_30 (by decide) ?_
    refine lv_iload hx hb d_DiscMakerModel_outside_10 (lv_at hl 0 rfl) ?_
    refine lv_iconst (v := 4) hx hb d_DiscMakerModel_outside_12 (by decide) ?_
    refine lv_icmp_ge (tgt := 33) hx hb d_DiscMakerModel_outside_13 (by decide) (fun _ => ?_) (fun h_9 => absurd (by decide) h_9)
    refine lv_iload_n hx hb d_DiscMakerModel_outside_33 rfl (lv_at hl 1 rfl) ?_
    have hP9 := hP.sub (ws' := [(h0, .inr (11, MO ma sv_thrown sv_length sv_nodes sv_many sv_directories sv_runsFrom sv_runs sv_read sv_wrong sv_isNamed sv_goes sv_goesSize sv_goesAt sv_targetParts sv_isRoot)), ((ma 16), .inl (cJ, 46080, .inr (.inl G_45))), ((ma 1), .inl (cI, 40, .inl fK)), ((ma 9), .inl (cI, 40, .inl fNS)), ((ma 10), .inl (cB, 8000, .inl fT)), ((ma 11), .inl (cI, 40, .inl fTS)), ((ma 13), .inl (cI, 40, .inl fBs)), ((ma 15), .inl (cI, 40, .inl fEs))]) [2, 3, 4, 5, 6, 7, 0, 1] rfl
    have hD9 := hD.sub (ws' := [(h0, .inr (11, MO ma sv_thrown sv_length sv_nodes sv_many sv_directories sv_runsFrom sv_runs sv_read sv_wrong sv_isNamed sv_goes sv_goesSize sv_goesAt sv_targetParts sv_isRoot)), ((ma 16), .inl (cJ, 46080, .inr (.inl G_45))), ((ma 1), .inl (cI, 40, .inl fK)), ((ma 9), .inl (cI, 40, .inl fNS)), ((ma 10), .inl (cB, 8000, .inl fT)), ((ma 11), .inl (cI, 40, .inl fTS)), ((ma 13), .inl (cI, 40, .inl fBs)), ((ma 15), .inl (cI, 40, .inl fEs))]) [2, 3, 4, 5, 6, 7, 0, 1] (by decide) rfl
    exact W.iret (v := v48) hx hb hr (fun t ht hW => ⟨⟨v48, G_45, rfl, ⟨(by (try dsimp only); first | assumption | omega | trivial), (by (try dsimp only); first | assumption | omega | trivial), (by (try dsimp only); intro h9; have := hlo h9; omega)⟩, by rw [ht]; exact hP9, hD9⟩, hS.F ht⟩) hS.2.2 d_DiscMakerModel_outside_34
  · skip
    have e_9 : r1 = 3 := Int32.toInt_inj.mp (by rw [h_9]; decide)
    subst e_9
    refine lv_istore hx hb d_DiscMakerModel_outside_8 hl (by decide) rfl (fun ls hl => ?_)
    have hl : lv_has ls 5 [(4, .int 3), (3, .int 0), (0, .ref h0), (1, .int x), (2, .int y)] := hl
    refine lv_iload hx hb d_DiscMakerModel_outside_10 (lv_at hl 0 rfl) ?_
    refine lv_iconst (v := 4) hx hb d_DiscMakerModel_outside_12 (by decide) ?_
    refine lv_icmp_ge (tgt := 33) hx hb d_DiscMakerModel_outside_13 (by decide) (fun h_9 => absurd h_9 (by decide)) (fun _ => ?_)
    refine lv_iload_n hx hb d_DiscMakerModel_outside_16 rfl (lv_at hl 1 rfl) ?_
    refine lv_aload_n hx hb d_DiscMakerModel_outside_17 rfl (lv_at hl 2 rfl) ?_
    refine lv_iload hx hb d_DiscMakerModel_outside_18 (lv_at hl 0 rfl) ?_
    refine lv_iload_n hx hb d_DiscMakerModel_outside_20 rfl (lv_at hl 3 rfl) ?_
    refine lv_iload_n hx hb d_DiscMakerModel_outside_21 rfl (lv_at hl 4 rfl) ?_
    have hPc := hP.sub (ws' := [(h0, .inr (11, MO ma sv_thrown sv_length sv_nodes sv_many sv_directories sv_runsFrom sv_runs sv_read sv_wrong sv_isNamed sv_goes sv_goesSize sv_goesAt sv_targetParts sv_isRoot)), ((ma 16), .inl (cJ, 46080, .inr (.inl G_2))), ((ma 1), .inl (cI, 40, .inl fK)), ((ma 9), .inl (cI, 40, .inl fNS)), ((ma 10), .inl (cB, 8000, .inl fT)), ((ma 11), .inl (cI, 40, .inl fTS))]) [0, 1, 2, 3, 4, 5] rfl
    have hDc := hD.sub (ws' := [(h0, .inr (11, MO ma sv_thrown sv_length sv_nodes sv_many sv_directories sv_runsFrom sv_runs sv_read sv_wrong sv_isNamed sv_goes sv_goesSize sv_goesAt sv_targetParts sv_isRoot)), ((ma 16), .inl (cJ, 46080, .inr (.inl G_2))), ((ma 1), .inl (cI, 40, .inl fK)), ((ma 9), .inl (cI, 40, .inl fNS)), ((ma 10), .inl (cB, 8000, .inl fT)), ((ma 11), .inl (cI, 40, .inl fTS))]) [0, 1, 2, 3, 4, 5] (by decide) rfl
    have hFc := va_free (wc := [(h0, .inr (11, MO ma sv_thrown sv_length sv_nodes sv_many sv_directories sv_runsFrom sv_runs sv_read sv_wrong sv_isNamed sv_goes sv_goesSize sv_goesAt sv_targetParts sv_isRoot)), ((ma 16), .inl (cJ, 46080, .inr (.inl G_2))), ((ma 1), .inl (cI, 40, .inl fK)), ((ma 9), .inl (cI, 40, .inl fNS)), ((ma 10), .inl (cB, 8000, .inl fT)), ((ma 11), .inl (cI, 40, .inl fTS))]) hD hS hA [0, 1, 2, 3, 4, 5] rfl
    have hkc : 0 ≤ 0 := by decide
    have hks : 0 ≤ 0 := by decide
    refine va_calli (va_runV (C := "DiscMakerModel") (As := [.int 3, .int x, .int y]) (rest := [.int 0]) ⟨hx, hb, hml, hown, hts⟩ (m_partSize l D cB cI cJ cZ cN cF H.size h0 ma sv_thrown sv_length sv_nodes sv_many sv_directories sv_runsFrom sv_runs sv_read sv_wrong sv_isNamed sv_goes sv_goesSize sv_goesAt sv_targetParts sv_isRoot G_2 fK fNS fT fTS 3 x y (by (try dsimp only); first | assumption | omega | trivial) (by (try dsimp only); first | assumption | omega | trivial) (by (try dsimp only); first | assumption | omega | trivial) (by (try dsimp only); first | assumption | omega | trivial) (by (try dsimp only); first | assumption | omega | trivial)) (cwV 3 hts (lg_goodV k1715 k1717 k76 k125 kc_DiscMakerModel_partSize) rfl rfl rfl (by decide +kernel) ⟨Nat.le_of_ble_eq_true rfl, Nat.le_of_ble_eq_true rfl⟩) ⟨fun a U g mk q => by obtain ⟨q0, q1, qP, qK, qN, qD⟩ := q; exact ⟨q0, q1, qP, va_K.moved (u := U) (U := U.calling g mk a) (Vm.Alike.refl U.vm) qK, qN.calling, qD⟩, va_recv hK hP (ci := 11) (q0 := 0) rfl rfl, fun U hU hW => ⟨rfl, by rw [hU], by rw [hU]; exact hPc, va_K.moved hW.alike hK, NN.warm hW hN, hDc.weaken (fun _ _ _ _ => trivial)⟩⟩ rfl rfl hl.1 rfl (lv_room (Nat.le_of_ble_eq_true rfl)) d_DiscMakerModel_outside_22 ⟨hkc, hks⟩) hS (fun q _ h => hFc q h) hFc (fun r49 u t H1 locs ht hvm hp_r49 hB hz1 hk1 hS => ?_)
    obtain ⟨G_50, rfl⟩ : ∃ z, z = u := ⟨_, rfl⟩
    obtain ⟨hP1, hD1⟩ := hB
    rw [ht] at hP1
    obtain ⟨hP, hD⟩ := va_join (wr := [((ma 13), .inl (cI, 40, .inl fBs)), ((ma 15), .inl (cI, 40, .inl fEs))]) (w1 := [(h0, .inr (11, MO ma sv_thrown sv_length sv_nodes sv_many sv_directories sv_runsFrom sv_runs sv_read sv_wrong sv_isNamed sv_goes sv_goesSize sv_goesAt sv_targetParts sv_isRoot)), ((ma 16), .inl (cJ, 46080, .inr (.inl G_50))), ((ma 1), .inl (cI, 40, .inl fK)), ((ma 9), .inl (cI, 40, .inl fNS)), ((ma 10), .inl (cB, 8000, .inl fT)), ((ma 11), .inl (cI, 40, .inl fTS))]) hP hD [0, 1, 2, 3, 4, 5] [6, 7] rfl rfl (by decide) (by decide) hk1 hFc hP1 hD1
    clear hPc hDc hFc hP1 hD1 hk1 hz1
    generalize H1 = H at hP hS ⊢
    have hP : va_P D CL [((ma 13), .inl (cI, 40, .inl fBs)), ((ma 15), .inl (cI, 40, .inl fEs)), (h0, .inr (11, MO ma sv_thrown sv_length sv_nodes sv_many sv_directories sv_runsFrom sv_runs sv_read sv_wrong sv_isNamed sv_goes sv_goesSize sv_goesAt sv_targetParts sv_isRoot)), ((ma 16), .inl (cJ, 46080, .inr (.inl G_50))), ((ma 1), .inl (cI, 40, .inl fK)), ((ma 9), .inl (cI, 40, .inl fNS)), ((ma 10), .inl (cB, 8000, .inl fT)), ((ma 11), .inl (cI, 40, .inl fTS))] H := hP
    have hD : va_D A [((ma 13), .inl (cI, 40, .inl fBs)), ((ma 15), .inl (cI, 40, .inl fEs)), (h0, .inr (11, MO ma sv_thrown sv_length sv_nodes sv_many sv_directories sv_runsFrom sv_runs sv_read sv_wrong sv_isNamed sv_goes sv_goesSize sv_goesAt sv_targetParts sv_isRoot)), ((ma 16), .inl (cJ, 46080, .inr (.inl G_50))), ((ma 1), .inl (cI, 40, .inl fK)), ((ma 9), .inl (cI, 40, .inl fNS)), ((ma 10), .inl (cB, 8000, .inl fT)), ((ma 11), .inl (cI, 40, .inl fTS))] := hD
    try dsimp only at hp_r49
    obtain ⟨hv_51, hr_52⟩ := hp_r49
    try rw [L_3] at hv_51
    refine lv_iadd hx hb d_DiscMakerModel_outside_25 ?_
    refine lv_topi (fun v53 e_v53 => ?_)
    have t_v53 : v53.toInt = 0 + r49.toInt := by rw [e_v53]; exact i_add (by decide) rfl (by omega) (by omega)
    refine lv_istore_n hx hb d_DiscMakerModel_outside_26 rfl hl (by decide) rfl (fun ls hl => ?_)
    have hl : lv_has ls 5 [(3, .int v53), (4, .int 3), (0, .ref h0), (1, .int x), (2, .int y)] := hl
    refine lv_iinc (v := 4) hx hb d_DiscMakerModel_outside_27 hl (k := 1) rfl (by decide) (by decide) rfl (fun ls hl => ?_)
    have hl : lv_has ls 5 [(4, .int 4), (3, .int v53), (0, .ref h0), (1, .int x), (2, .int y)] := hl
    refine lv_goto (tgt := 10) hx hb d_DiscMakerModel_outside_30 (by decide) ?_
    refine lv_iload hx hb d_DiscMakerModel_outside_10 (lv_at hl 0 rfl) ?_
    refine lv_iconst (v := 4) hx hb d_DiscMakerModel_outside_12 (by decide) ?_
    refine lv_icmp_ge (tgt := 33) hx hb d_DiscMakerModel_outside_13 (by decide) (fun _ => ?_) (fun h_9 => absurd (by decide) h_9)
    refine lv_iload_n hx hb d_DiscMakerModel_outside_33 rfl (lv_at hl 1 rfl) ?_
    have hP9 := hP.sub (ws' := [(h0, .inr (11, MO ma sv_thrown sv_length sv_nodes sv_many sv_directories sv_runsFrom sv_runs sv_read sv_wrong sv_isNamed sv_goes sv_goesSize sv_goesAt sv_targetParts sv_isRoot)), ((ma 16), .inl (cJ, 46080, .inr (.inl G_50))), ((ma 1), .inl (cI, 40, .inl fK)), ((ma 9), .inl (cI, 40, .inl fNS)), ((ma 10), .inl (cB, 8000, .inl fT)), ((ma 11), .inl (cI, 40, .inl fTS)), ((ma 13), .inl (cI, 40, .inl fBs)), ((ma 15), .inl (cI, 40, .inl fEs))]) [2, 3, 4, 5, 6, 7, 0, 1] rfl
    have hD9 := hD.sub (ws' := [(h0, .inr (11, MO ma sv_thrown sv_length sv_nodes sv_many sv_directories sv_runsFrom sv_runs sv_read sv_wrong sv_isNamed sv_goes sv_goesSize sv_goesAt sv_targetParts sv_isRoot)), ((ma 16), .inl (cJ, 46080, .inr (.inl G_50))), ((ma 1), .inl (cI, 40, .inl fK)), ((ma 9), .inl (cI, 40, .inl fNS)), ((ma 10), .inl (cB, 8000, .inl fT)), ((ma 11), .inl (cI, 40, .inl fTS)), ((ma 13), .inl (cI, 40, .inl fBs)), ((ma 15), .inl (cI, 40, .inl fEs))]) [2, 3, 4, 5, 6, 7, 0, 1] (by decide) rfl
    exact W.iret (v := v53) hx hb hr (fun t ht hW => ⟨⟨v53, G_50, rfl, ⟨(by (try dsimp only); first | assumption | omega | trivial), (by (try dsimp only); first | assumption | omega | trivial), (by (try dsimp only); intro h9; have := hlo h9; omega)⟩, by rw [ht]; exact hP9, hD9⟩, hS.F ht⟩) hS.2.2 d_DiscMakerModel_outside_34
  · skip
    have e_9 : r1 = 4 := Int32.toInt_inj.mp (by rw [h_9]; decide)
    subst e_9
    refine lv_istore hx hb d_DiscMakerModel_outside_8 hl (by decide) rfl (fun ls hl => ?_)
    have hl : lv_has ls 5 [(4, .int 4), (3, .int 0), (0, .ref h0), (1, .int x), (2, .int y)] := hl
    refine lv_iload hx hb d_DiscMakerModel_outside_10 (lv_at hl 0 rfl) ?_
    refine lv_iconst (v := 4) hx hb d_DiscMakerModel_outside_12 (by decide) ?_
    refine lv_icmp_ge (tgt := 33) hx hb d_DiscMakerModel_outside_13 (by decide) (fun _ => ?_) (fun h_9 => absurd (by decide) h_9)
    refine lv_iload_n hx hb d_DiscMakerModel_outside_33 rfl (lv_at hl 1 rfl) ?_
    have hP9 := hP.sub (ws' := [(h0, .inr (11, MO ma sv_thrown sv_length sv_nodes sv_many sv_directories sv_runsFrom sv_runs sv_read sv_wrong sv_isNamed sv_goes sv_goesSize sv_goesAt sv_targetParts sv_isRoot)), ((ma 16), .inl (cJ, 46080, .inr (.inl G_2))), ((ma 1), .inl (cI, 40, .inl fK)), ((ma 9), .inl (cI, 40, .inl fNS)), ((ma 10), .inl (cB, 8000, .inl fT)), ((ma 11), .inl (cI, 40, .inl fTS)), ((ma 13), .inl (cI, 40, .inl fBs)), ((ma 15), .inl (cI, 40, .inl fEs))]) [0, 1, 2, 3, 4, 5, 6, 7] rfl
    have hD9 := hD.sub (ws' := [(h0, .inr (11, MO ma sv_thrown sv_length sv_nodes sv_many sv_directories sv_runsFrom sv_runs sv_read sv_wrong sv_isNamed sv_goes sv_goesSize sv_goesAt sv_targetParts sv_isRoot)), ((ma 16), .inl (cJ, 46080, .inr (.inl G_2))), ((ma 1), .inl (cI, 40, .inl fK)), ((ma 9), .inl (cI, 40, .inl fNS)), ((ma 10), .inl (cB, 8000, .inl fT)), ((ma 11), .inl (cI, 40, .inl fTS)), ((ma 13), .inl (cI, 40, .inl fBs)), ((ma 15), .inl (cI, 40, .inl fEs))]) [0, 1, 2, 3, 4, 5, 6, 7] (by decide) rfl
    exact W.iret (v := 0) hx hb hr (fun t ht hW => ⟨⟨0, G_2, rfl, ⟨(by (try dsimp only); first | assumption | omega | trivial), (by (try dsimp only); first | assumption | omega | trivial), (by (try dsimp only); intro h9; have := hlo h9; omega)⟩, by rw [ht]; exact hP9, hD9⟩, hS.F ht⟩) hS.2.2 d_DiscMakerModel_outside_34
