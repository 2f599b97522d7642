theorem d_DiscMakerModel_componentsOf_0 : decode b_DiscMakerModel_componentsOf 0 = .ok (.aload_n 0, 1) := by decide +kernel
theorem d_DiscMakerModel_componentsOf_1 : decode b_DiscMakerModel_componentsOf 1 = .ok (.getfield 7, 3) := by decide +kernel
theorem d_DiscMakerModel_componentsOf_4 : decode b_DiscMakerModel_componentsOf 4 = .ok (.iload_n 2, 1) := by decide +kernel
theorem d_DiscMakerModel_componentsOf_5 : decode b_DiscMakerModel_componentsOf 5 = .ok (.baload, 1) := by decide +kernel
theorem d_DiscMakerModel_componentsOf_6 : decode b_DiscMakerModel_componentsOf 6 = .ok (.bipush 47, 2) := by decide +kernel
theorem d_DiscMakerModel_componentsOf_8 : decode b_DiscMakerModel_componentsOf 8 = .ok (.if_icmp .ne 7, 3) := by decide +kernel
theorem d_DiscMakerModel_componentsOf_11 : decode b_DiscMakerModel_componentsOf 11 = .ok (.iconst 2, 1) := by decide +kernel
theorem d_DiscMakerModel_componentsOf_12 : decode b_DiscMakerModel_componentsOf 12 = .ok (.goto 4, 3) := by decide +kernel
theorem d_DiscMakerModel_componentsOf_15 : decode b_DiscMakerModel_componentsOf 15 = .ok (.iconst 0, 1) := by decide +kernel
theorem d_DiscMakerModel_componentsOf_16 : decode b_DiscMakerModel_componentsOf 16 = .ok (.istore_n 3, 1) := by decide +kernel
theorem d_DiscMakerModel_componentsOf_17 : decode b_DiscMakerModel_componentsOf 17 = .ok (.iconst 0, 1) := by decide +kernel
theorem d_DiscMakerModel_componentsOf_18 : decode b_DiscMakerModel_componentsOf 18 = .ok (.istore 4, 2) := by decide +kernel
theorem d_DiscMakerModel_componentsOf_20 : decode b_DiscMakerModel_componentsOf 20 = .ok (.iload 4, 2) := by decide +kernel
theorem d_DiscMakerModel_componentsOf_22 : decode b_DiscMakerModel_componentsOf 22 = .ok (.iload_n 1, 1) := by decide +kernel
theorem d_DiscMakerModel_componentsOf_23 : decode b_DiscMakerModel_componentsOf 23 = .ok (.if_icmp .ge 137, 3) := by decide +kernel
theorem d_DiscMakerModel_componentsOf_26 : decode b_DiscMakerModel_componentsOf 26 = .ok (.iload 4, 2) := by decide +kernel
theorem d_DiscMakerModel_componentsOf_28 : decode b_DiscMakerModel_componentsOf 28 = .ok (.istore 5, 2) := by decide +kernel
theorem d_DiscMakerModel_componentsOf_30 : decode b_DiscMakerModel_componentsOf 30 = .ok (.iload 5, 2) := by decide +kernel
theorem d_DiscMakerModel_componentsOf_32 : decode b_DiscMakerModel_componentsOf 32 = .ok (.iload_n 1, 1) := by decide +kernel
theorem d_DiscMakerModel_componentsOf_33 : decode b_DiscMakerModel_componentsOf 33 = .ok (.if_icmp .ge 23, 3) := by decide +kernel
theorem d_DiscMakerModel_componentsOf_36 : decode b_DiscMakerModel_componentsOf 36 = .ok (.aload_n 0, 1) := by decide +kernel
theorem d_DiscMakerModel_componentsOf_37 : decode b_DiscMakerModel_componentsOf 37 = .ok (.getfield 7, 3) := by decide +kernel
theorem d_DiscMakerModel_componentsOf_40 : decode b_DiscMakerModel_componentsOf 40 = .ok (.iload_n 2, 1) := by decide +kernel
theorem d_DiscMakerModel_componentsOf_41 : decode b_DiscMakerModel_componentsOf 41 = .ok (.iload 5, 2) := by decide +kernel
theorem d_DiscMakerModel_componentsOf_43 : decode b_DiscMakerModel_componentsOf 43 = .ok (.iadd, 1) := by decide +kernel
theorem d_DiscMakerModel_componentsOf_44 : decode b_DiscMakerModel_componentsOf 44 = .ok (.baload, 1) := by decide +kernel
theorem d_DiscMakerModel_componentsOf_45 : decode b_DiscMakerModel_componentsOf 45 = .ok (.bipush 47, 2) := by decide +kernel
theorem d_DiscMakerModel_componentsOf_47 : decode b_DiscMakerModel_componentsOf 47 = .ok (.if_icmp .eq 9, 3) := by decide +kernel
theorem d_DiscMakerModel_componentsOf_50 : decode b_DiscMakerModel_componentsOf 50 = .ok (.iinc 5 1, 3) := by decide +kernel
theorem d_DiscMakerModel_componentsOf_53 : decode b_DiscMakerModel_componentsOf 53 = .ok (.goto (-23), 3) := by decide +kernel
theorem d_DiscMakerModel_componentsOf_56 : decode b_DiscMakerModel_componentsOf 56 = .ok (.iload 5, 2) := by decide +kernel
theorem d_DiscMakerModel_componentsOf_58 : decode b_DiscMakerModel_componentsOf 58 = .ok (.iload 4, 2) := by decide +kernel
theorem d_DiscMakerModel_componentsOf_60 : decode b_DiscMakerModel_componentsOf 60 = .ok (.isub, 1) := by decide +kernel
theorem d_DiscMakerModel_componentsOf_61 : decode b_DiscMakerModel_componentsOf 61 = .ok (.iconst 1, 1) := by decide +kernel
theorem d_DiscMakerModel_componentsOf_62 : decode b_DiscMakerModel_componentsOf 62 = .ok (.if_icmp .ne 17, 3) := by decide +kernel
theorem d_DiscMakerModel_componentsOf_65 : decode b_DiscMakerModel_componentsOf 65 = .ok (.aload_n 0, 1) := by decide +kernel
theorem d_DiscMakerModel_componentsOf_66 : decode b_DiscMakerModel_componentsOf 66 = .ok (.getfield 7, 3) := by decide +kernel
theorem d_DiscMakerModel_componentsOf_69 : decode b_DiscMakerModel_componentsOf 69 = .ok (.iload_n 2, 1) := by decide +kernel
theorem d_DiscMakerModel_componentsOf_70 : decode b_DiscMakerModel_componentsOf 70 = .ok (.iload 4, 2) := by decide +kernel
theorem d_DiscMakerModel_componentsOf_72 : decode b_DiscMakerModel_componentsOf 72 = .ok (.iadd, 1) := by decide +kernel
theorem d_DiscMakerModel_componentsOf_73 : decode b_DiscMakerModel_componentsOf 73 = .ok (.baload, 1) := by decide +kernel
theorem d_DiscMakerModel_componentsOf_74 : decode b_DiscMakerModel_componentsOf 74 = .ok (.bipush 46, 2) := by decide +kernel
theorem d_DiscMakerModel_componentsOf_76 : decode b_DiscMakerModel_componentsOf 76 = .ok (.if_icmp .eq 42, 3) := by decide +kernel
theorem d_DiscMakerModel_componentsOf_79 : decode b_DiscMakerModel_componentsOf 79 = .ok (.iload 5, 2) := by decide +kernel
theorem d_DiscMakerModel_componentsOf_81 : decode b_DiscMakerModel_componentsOf 81 = .ok (.iload 4, 2) := by decide +kernel
theorem d_DiscMakerModel_componentsOf_83 : decode b_DiscMakerModel_componentsOf 83 = .ok (.isub, 1) := by decide +kernel
theorem d_DiscMakerModel_componentsOf_84 : decode b_DiscMakerModel_componentsOf 84 = .ok (.iconst 2, 1) := by decide +kernel
theorem d_DiscMakerModel_componentsOf_85 : decode b_DiscMakerModel_componentsOf 85 = .ok (.if_icmp .ne 37, 3) := by decide +kernel
theorem d_DiscMakerModel_componentsOf_88 : decode b_DiscMakerModel_componentsOf 88 = .ok (.aload_n 0, 1) := by decide +kernel
theorem d_DiscMakerModel_componentsOf_89 : decode b_DiscMakerModel_componentsOf 89 = .ok (.getfield 7, 3) := by decide +kernel
theorem d_DiscMakerModel_componentsOf_92 : decode b_DiscMakerModel_componentsOf 92 = .ok (.iload_n 2, 1) := by decide +kernel
theorem d_DiscMakerModel_componentsOf_93 : decode b_DiscMakerModel_componentsOf 93 = .ok (.iload 4, 2) := by decide +kernel
theorem d_DiscMakerModel_componentsOf_95 : decode b_DiscMakerModel_componentsOf 95 = .ok (.iadd, 1) := by decide +kernel
theorem d_DiscMakerModel_componentsOf_96 : decode b_DiscMakerModel_componentsOf 96 = .ok (.baload, 1) := by decide +kernel
theorem d_DiscMakerModel_componentsOf_97 : decode b_DiscMakerModel_componentsOf 97 = .ok (.bipush 46, 2) := by decide +kernel
theorem d_DiscMakerModel_componentsOf_99 : decode b_DiscMakerModel_componentsOf 99 = .ok (.if_icmp .ne 23, 3) := by decide +kernel
theorem d_DiscMakerModel_componentsOf_102 : decode b_DiscMakerModel_componentsOf 102 = .ok (.aload_n 0, 1) := by decide +kernel
theorem d_DiscMakerModel_componentsOf_103 : decode b_DiscMakerModel_componentsOf 103 = .ok (.getfield 7, 3) := by decide +kernel
theorem d_DiscMakerModel_componentsOf_106 : decode b_DiscMakerModel_componentsOf 106 = .ok (.iload_n 2, 1) := by decide +kernel
theorem d_DiscMakerModel_componentsOf_107 : decode b_DiscMakerModel_componentsOf 107 = .ok (.iload 4, 2) := by decide +kernel
theorem d_DiscMakerModel_componentsOf_109 : decode b_DiscMakerModel_componentsOf 109 = .ok (.iadd, 1) := by decide +kernel
theorem d_DiscMakerModel_componentsOf_110 : decode b_DiscMakerModel_componentsOf 110 = .ok (.iconst 1, 1) := by decide +kernel
theorem d_DiscMakerModel_componentsOf_111 : decode b_DiscMakerModel_componentsOf 111 = .ok (.iadd, 1) := by decide +kernel
theorem d_DiscMakerModel_componentsOf_112 : decode b_DiscMakerModel_componentsOf 112 = .ok (.baload, 1) := by decide +kernel
theorem d_DiscMakerModel_componentsOf_113 : decode b_DiscMakerModel_componentsOf 113 = .ok (.bipush 46, 2) := by decide +kernel
theorem d_DiscMakerModel_componentsOf_115 : decode b_DiscMakerModel_componentsOf 115 = .ok (.if_icmp .ne 7, 3) := by decide +kernel
theorem d_DiscMakerModel_componentsOf_118 : decode b_DiscMakerModel_componentsOf 118 = .ok (.iconst 1, 1) := by decide +kernel
theorem d_DiscMakerModel_componentsOf_119 : decode b_DiscMakerModel_componentsOf 119 = .ok (.goto 4, 3) := by decide +kernel
theorem d_DiscMakerModel_componentsOf_122 : decode b_DiscMakerModel_componentsOf 122 = .ok (.iconst 0, 1) := by decide +kernel
theorem d_DiscMakerModel_componentsOf_123 : decode b_DiscMakerModel_componentsOf 123 = .ok (.istore 6, 2) := by decide +kernel
theorem d_DiscMakerModel_componentsOf_125 : decode b_DiscMakerModel_componentsOf 125 = .ok (.iload 5, 2) := by decide +kernel
theorem d_DiscMakerModel_componentsOf_127 : decode b_DiscMakerModel_componentsOf 127 = .ok (.iload 4, 2) := by decide +kernel
theorem d_DiscMakerModel_componentsOf_129 : decode b_DiscMakerModel_componentsOf 129 = .ok (.if_icmp .le 22, 3) := by decide +kernel
theorem d_DiscMakerModel_componentsOf_132 : decode b_DiscMakerModel_componentsOf 132 = .ok (.iload_n 3, 1) := by decide +kernel
theorem d_DiscMakerModel_componentsOf_133 : decode b_DiscMakerModel_componentsOf 133 = .ok (.iload 6, 2) := by decide +kernel
theorem d_DiscMakerModel_componentsOf_135 : decode b_DiscMakerModel_componentsOf 135 = .ok (.ifCond .eq 7, 3) := by decide +kernel
theorem d_DiscMakerModel_componentsOf_138 : decode b_DiscMakerModel_componentsOf 138 = .ok (.iconst 2, 1) := by decide +kernel
theorem d_DiscMakerModel_componentsOf_139 : decode b_DiscMakerModel_componentsOf 139 = .ok (.goto 10, 3) := by decide +kernel
theorem d_DiscMakerModel_componentsOf_142 : decode b_DiscMakerModel_componentsOf 142 = .ok (.iconst 2, 1) := by decide +kernel
theorem d_DiscMakerModel_componentsOf_143 : decode b_DiscMakerModel_componentsOf 143 = .ok (.iload 5, 2) := by decide +kernel
theorem d_DiscMakerModel_componentsOf_145 : decode b_DiscMakerModel_componentsOf 145 = .ok (.iadd, 1) := by decide +kernel
theorem d_DiscMakerModel_componentsOf_146 : decode b_DiscMakerModel_componentsOf 146 = .ok (.iload 4, 2) := by decide +kernel
theorem d_DiscMakerModel_componentsOf_148 : decode b_DiscMakerModel_componentsOf 148 = .ok (.isub, 1) := by decide +kernel
theorem d_DiscMakerModel_componentsOf_149 : decode b_DiscMakerModel_componentsOf 149 = .ok (.iadd, 1) := by decide +kernel
theorem d_DiscMakerModel_componentsOf_150 : decode b_DiscMakerModel_componentsOf 150 = .ok (.istore_n 3, 1) := by decide +kernel
theorem d_DiscMakerModel_componentsOf_151 : decode b_DiscMakerModel_componentsOf 151 = .ok (.iload 5, 2) := by decide +kernel
theorem d_DiscMakerModel_componentsOf_153 : decode b_DiscMakerModel_componentsOf 153 = .ok (.iconst 1, 1) := by decide +kernel
theorem d_DiscMakerModel_componentsOf_154 : decode b_DiscMakerModel_componentsOf 154 = .ok (.iadd, 1) := by decide +kernel
theorem d_DiscMakerModel_componentsOf_155 : decode b_DiscMakerModel_componentsOf 155 = .ok (.istore 4, 2) := by decide +kernel
theorem d_DiscMakerModel_componentsOf_157 : decode b_DiscMakerModel_componentsOf 157 = .ok (.goto (-137), 3) := by decide +kernel
theorem d_DiscMakerModel_componentsOf_160 : decode b_DiscMakerModel_componentsOf 160 = .ok (.iload_n 3, 1) := by decide +kernel
theorem d_DiscMakerModel_componentsOf_161 : decode b_DiscMakerModel_componentsOf 161 = .ok (.ireturn, 1) := by decide +kernel
set_option maxHeartbeats 4000000 in
set_option maxRecDepth 100000 in
theorem m_componentsOf (l : Launch) (D : va_G) (cB cI cJ cZ cN cF : ClassId) (sz : Nat) (h0 : Nat) (ma : Nat → Nat) (sv_thrown sv_length sv_nodes sv_many sv_directories sv_runsFrom sv_runs sv_read sv_wrong sv_isNamed sv_goes sv_goesSize sv_goesAt sv_targetParts sv_isRoot : Int32) (fX : Nat → Int32) (x : Int32) (y : Int32) (hx0 : 1 ≤ x.toInt ∧ x.toInt ≤ 200) (hy0 : 1 ≤ y.toInt ∧ x.toInt + y.toInt ≤ 400) : Met l y_DiscMakerModel_componentsOf w_DiscMakerModel_componentsOf ({ frames := 0, cells := 0, slots := 0, locals := 0 }) (va_Pc [.ref h0, .int x, .int y] (fun U => U.heap.size = sz ∧ va_P D CL [(h0, .inr (11, MO ma sv_thrown sv_length sv_nodes sv_many sv_directories sv_runsFrom sv_runs sv_read sv_wrong sv_isNamed sv_goes sv_goesSize sv_goesAt sv_targetParts sv_isRoot)), ((ma 0), .inl (cB, 400, .inl fX))] U.heap ∧ va_K D CL (TY cB cI cJ cZ cN cF) U ∧ NN U ∧ va_D (fun _ => True) [(h0, .inr (11, MO ma sv_thrown sv_length sv_nodes sv_many sv_directories sv_runsFrom sv_runs sv_read sv_wrong sv_isNamed sv_goes sv_goesSize sv_goesAt sv_targetParts sv_isRoot)), ((ma 0), .inl (cB, 400, .inl fX))])) (va_Qi (fun (r : Int32) (u : Unit) => (r.toInt = compS (fun j => fX (y.toInt.toNat + j)) x.toInt.toNat)) (fun (u : Unit) (t : State) => match u with | () => va_P D CL [(h0, .inr (11, MO ma sv_thrown sv_length sv_nodes sv_many sv_directories sv_runsFrom sv_runs sv_read sv_wrong sv_isNamed sv_goes sv_goesSize sv_goesAt sv_targetParts sv_isRoot)), ((ma 0), .inl (cB, 400, .inl fX))] t.heap ∧ va_D (va_A [(h0, .inr (11, MO ma sv_thrown sv_length sv_nodes sv_many sv_directories sv_runsFrom sv_runs sv_read sv_wrong sv_isNamed sv_goes sv_goesSize sv_goesAt sv_targetParts sv_isRoot)), ((ma 0), .inl (cB, 400, .inl fX))] sz) [(h0, .inr (11, MO ma sv_thrown sv_length sv_nodes sv_many sv_directories sv_runsFrom sv_runs sv_read sv_wrong sv_isNamed sv_goes sv_goesSize sv_goesAt sv_targetParts sv_isRoot)), ((ma 0), .inl (cB, 400, .inl fX))]) (va_A [(h0, .inr (11, MO ma sv_thrown sv_length sv_nodes sv_many sv_directories sv_runsFrom sv_runs sv_read sv_wrong sv_isNamed sv_goes sv_goesSize sv_goesAt sv_targetParts sv_isRoot)), ((ma 0), .inl (cB, 400, .inl fX))] sz)) 0 0 (va_A [(h0, .inr (11, MO ma sv_thrown sv_length sv_nodes sv_many sv_directories sv_runsFrom sv_runs sv_read sv_wrong sv_isNamed sv_goes sv_goesSize sv_goesAt sv_targetParts sv_isRoot)), ((ma 0), .inl (cB, 400, .inl fX))] sz) := by
  refine Met.ofW (cc := b_DiscMakerModel_componentsOf) (maxL := 7) (ret := some .int) (by decide) rfl ?_
  intro p e s m args below meth c s₁ B hml hv
  obtain ⟨rfl, hsz, hP, hK, hN, hD0⟩ := hv
  have hx := B.exec
  have hb := B.bytes
  have hr := B.returns
  have hts := atoms_spec (ws := w_DiscMakerModel_componentsOf) B.pre
  have ht9 := fun (w : Cond) (h : w ∈ lw_g) => hts w (List.mem_cons_of_mem _ h)
  have hown : s.vm.findClass "DiscMakerModel" = some m.cls := findClass_of_methodNamed B.named
  have hlocks := B.notSynchronized
  subst hsz
  have hD := hD0.self (sz := s.heap.size)
  generalize hAe : va_A [(h0, .inr (11, MO ma sv_thrown sv_length sv_nodes sv_many sv_directories sv_runsFrom sv_runs sv_read sv_wrong sv_isNamed sv_goes sv_goesSize sv_goesAt sv_targetParts sv_isRoot)), ((ma 0), .inl (cB, 400, .inl fX))] s.heap.size = A at hD ⊢
  have hA : ∀ q : Nat, s.heap.size ≤ q → A q := fun q h => by rw [← hAe]; exact Or.inr h
  have hS : va_S A s.heap s.heap [] := va_S.rf
  have hP : va_P D CL [(h0, .inr (11, MO ma sv_thrown sv_length sv_nodes sv_many sv_directories sv_runsFrom sv_runs sv_read sv_wrong sv_isNamed sv_goes sv_goesSize sv_goesAt sv_targetParts sv_isRoot)), ((ma 0), .inl (cB, 400, .inl fX))] s.heap := hP
  have hl := lv_entry [.ref h0, .int x, .int y] (n := 7) (Nat.le_of_ble_eq_true rfl)
  rw [lg_entry_eq]
  generalize (lg_sl [.ref h0, .int x, .int y] ++ List.replicate (7 - (lg_sl [.ref h0, .int x, .int y]).length) Slot.unset).toArray = ls at hl ⊢
  have hl : lv_has ls 7 [(0, .ref h0), (1, .int x), (2, .int y)] := hl
  have L_m1 : ((-1) : Int32).toInt = (-1) := by decide
  have L_0 : (0 : Int32).toInt = 0 := by decide
  have L_1 : (1 : Int32).toInt = 1 := by decide
  have L_2 : (2 : Int32).toInt = 2 := by decide
  have L_46 : (46 : Int32).toInt = 46 := by decide
  have L_47 : (47 : Int32).toInt = 47 := by decide
  refine lv_aload_n hx hb d_DiscMakerModel_componentsOf_0 rfl (lv_at hl 0 rfl) ?_
  refine va_get (D := D) (ci := 11) (v := .ref (ma 0)) (C := "DiscMakerModel") (T := F_DiscMakerModel) (N := 48) hx hb ht9 in_DiscMakerModel hown hK hP 0 rfl rfl 1 (by decide) (ht9 _ k1432) (fun _ h9 => h9) rfl d_DiscMakerModel_componentsOf_1 ?_
  refine lv_iload_n hx hb d_DiscMakerModel_componentsOf_4 rfl (lv_at hl 2 rfl) ?_
  refine va_bald hx hb hK hP 1 0 rfl rfl (vp_in_iff.mpr ⟨by omega, by omega⟩) d_DiscMakerModel_componentsOf_5 ?_
  refine lv_topi (fun v1 e_v1 => ?_)
  have w_v1 : v1.toInt = ((fun j => fX (y.toInt.toNat + j)) (0)).toInt := by have h7 := i_cl (a := y) (by omega); (have h6 : y.toNatClampNeg = y.toInt.toNat + (0) := by omega); show v1.toInt = (fX (y.toInt.toNat + (0))).toInt; rw [← h6, ← e_v1]
  refine lv_bipush (v := 47) hx hb d_DiscMakerModel_componentsOf_6 (by decide) ?_
  refine lv_icmp_ne (tgt := 15) hx hb d_DiscMakerModel_componentsOf_8 (by decide) (fun h_9 => ?_) (fun h_9 => ?_)
  · skip
    have g8_6 : ¬ v1.toInt = 47 := fun h8 => h_9 ((i_eq rfl (by decide)).mpr h8)
    refine lv_iconst (v := 0) hx hb d_DiscMakerModel_componentsOf_15 (by decide) ?_
    refine lv_istore_n hx hb d_DiscMakerModel_componentsOf_16 rfl hl (by decide) rfl (fun ls hl => ?_)
    have hl : lv_has ls 7 [(3, .int 0), (0, .ref h0), (1, .int x), (2, .int y)] := hl
    refine lv_iconst (v := 0) hx hb d_DiscMakerModel_componentsOf_17 (by decide) ?_
    refine lv_istore hx hb d_DiscMakerModel_componentsOf_18 hl (by decide) rfl (fun ls hl => ?_)
    have hl : lv_has ls 7 [(4, .int 0), (3, .int 0), (0, .ref h0), (1, .int x), (2, .int y)] := hl
    refine zz_labM (B := fun (lk : Nat) (K : Heap → List Loc → Array Slot → List Value → Prop) => ∀ (al : Int32) (lp : Int32) (H : Heap) (locs : List Loc) (ls : Array Slot), lk = (x.toInt + 1 - lp.toInt).toNat → (0 ≤ lp.toInt ∧ lp.toInt ≤ x.toInt + 1) → (0 ≤ al.toInt ∧ al.toInt ≤ 2 + 3 * lp.toInt) → (cpF (fun j => fX (y.toInt.toNat + j)) x.toInt.toNat lp.toNatClampNeg = lp.toNatClampNeg) → (al.toInt = t0F (fun j => fX (y.toInt.toNat + j)) x.toInt.toNat + cpT (fun j => fX (y.toInt.toNat + j)) x.toInt.toNat lp.toNatClampNeg) → va_P D CL [(h0, .inr (11, MO ma sv_thrown sv_length sv_nodes sv_many sv_directories sv_runsFrom sv_runs sv_read sv_wrong sv_isNamed sv_goes sv_goesSize sv_goesAt sv_targetParts sv_isRoot)), ((ma 0), .inl (cB, 400, .inl fX))] H → va_D A [(h0, .inr (11, MO ma sv_thrown sv_length sv_nodes sv_many sv_directories sv_runsFrom sv_runs sv_read sv_wrong sv_isNamed sv_goes sv_goesSize sv_goesAt sv_targetParts sv_isRoot)), ((ma 0), .inl (cB, 400, .inl fX))] → va_S A s.heap H locs → lv_has ls 7 [(0, .ref h0), (1, .int x), (2, .int y), (3, .int al), (4, .int lp)] → K H locs ls []) 20 ?_ ?_
    · skip
      intro lk ih20 al lp H locs ls hm20 f1 f2 f4 f5 hP hD hS hl
      refine lv_iload hx hb d_DiscMakerModel_componentsOf_20 (lv_at hl 4 rfl) ?_
      refine lv_iload_n hx hb d_DiscMakerModel_componentsOf_22 rfl (lv_at hl 1 rfl) ?_
      refine lv_icmp_ge (tgt := 160) hx hb d_DiscMakerModel_componentsOf_23 (by decide) (fun h_9 => ?_) (fun h_9 => ?_)
      · skip
        have g23_13 : x.toInt ≤ lp.toInt := (i_le rfl rfl).mp h_9
        refine lv_iload_n hx hb d_DiscMakerModel_componentsOf_160 rfl (lv_at hl 3 rfl) ?_
        have hP9 := hP.sub (ws' := [(h0, .inr (11, MO ma sv_thrown sv_length sv_nodes sv_many sv_directories sv_runsFrom sv_runs sv_read sv_wrong sv_isNamed sv_goes sv_goesSize sv_goesAt sv_targetParts sv_isRoot)), ((ma 0), .inl (cB, 400, .inl fX))]) [0, 1] rfl
        have hD9 := hD.sub (ws' := [(h0, .inr (11, MO ma sv_thrown sv_length sv_nodes sv_many sv_directories sv_runsFrom sv_runs sv_read sv_wrong sv_isNamed sv_goes sv_goesSize sv_goesAt sv_targetParts sv_isRoot)), ((ma 0), .inl (cB, 400, .inl fX))]) [0, 1] (by decide +kernel) rfl
        exact W.iret (v := al) hx hb hr (fun t ht hW => ⟨⟨al, (), rfl, (by (try dsimp only); have h5 := i_cl (a := lp) (by omega); unfold compS; rcases (show lp.toInt = x.toInt + 1 ∨ lp.toInt = x.toInt by omega) with h8 | h8 <;> first | (rw [show x.toInt.toNat + 1 = lp.toNatClampNeg by omega]; exact f5) | ((have h9 : x.toInt.toNat = lp.toNatClampNeg := by omega); rw [← h9] at f4 f5; rw [cpT_hit (i := x.toInt.toNat) (Or.inl rfl), f4, csz_0]; omega)), by rw [ht]; exact hP9, hD9⟩, hS.F ht⟩) hS.2.2 d_DiscMakerModel_componentsOf_161
      · skip
        have g23_13 : ¬ x.toInt ≤ lp.toInt := fun h8 => h_9 ((i_le rfl rfl).mpr h8)
        refine lv_iload hx hb d_DiscMakerModel_componentsOf_26 (lv_at hl 4 rfl) ?_
        refine lv_istore hx hb d_DiscMakerModel_componentsOf_28 hl (by decide) rfl (fun ls hl => ?_)
        have hl : lv_has ls 7 [(5, .int lp), (0, .ref h0), (1, .int x), (2, .int y), (3, .int al), (4, .int lp)] := hl
        refine zz_labM (B := fun (lk : Nat) (K : Heap → List Loc → Array Slot → List Value → Prop) => ∀ (lq : Int32) (H : Heap) (locs : List Loc) (ls : Array Slot), lk = (x.toInt - lq.toInt).toNat → (lp.toInt ≤ lq.toInt ∧ lq.toInt ≤ x.toInt) → (cpF (fun j => fX (y.toInt.toNat + j)) x.toInt.toNat lq.toNatClampNeg = lp.toNatClampNeg) → (cpT (fun j => fX (y.toInt.toNat + j)) x.toInt.toNat lq.toNatClampNeg = cpT (fun j => fX (y.toInt.toNat + j)) x.toInt.toNat lp.toNatClampNeg) → va_P D CL [(h0, .inr (11, MO ma sv_thrown sv_length sv_nodes sv_many sv_directories sv_runsFrom sv_runs sv_read sv_wrong sv_isNamed sv_goes sv_goesSize sv_goesAt sv_targetParts sv_isRoot)), ((ma 0), .inl (cB, 400, .inl fX))] H → va_D A [(h0, .inr (11, MO ma sv_thrown sv_length sv_nodes sv_many sv_directories sv_runsFrom sv_runs sv_read sv_wrong sv_isNamed sv_goes sv_goesSize sv_goesAt sv_targetParts sv_isRoot)), ((ma 0), .inl (cB, 400, .inl fX))] → va_S A s.heap H locs → lv_has ls 7 [(0, .ref h0), (1, .int x), (2, .int y), (3, .int al), (4, .int lp), (5, .int lq)] → K H locs ls []) 30 ?_ ?_
        · skip
          intro lk ih30 lq H locs ls hm30 f3 f6 f7 hP hD hS hl
          refine lv_iload hx hb d_DiscMakerModel_componentsOf_30 (lv_at hl 5 rfl) ?_
          refine lv_iload_n hx hb d_DiscMakerModel_componentsOf_32 rfl (lv_at hl 1 rfl) ?_
          refine lv_icmp_ge (tgt := 56) hx hb d_DiscMakerModel_componentsOf_33 (by decide) (fun h_9 => ?_) (fun h_9 => ?_)
          · skip
            have g33_20 : x.toInt ≤ lq.toInt := (i_le rfl rfl).mp h_9
            refine zz_labM (B := fun (lk : Nat) (K : Heap → List Loc → Array Slot → List Value → Prop) => ∀ (dt : Int32) (H : Heap) (locs : List Loc) (ls : Array Slot), lk = 0 → (BoolIs dt (mrk (fun j => fX (y.toInt.toNat + j)) lp.toNatClampNeg lq.toNatClampNeg ≠ 0)) → va_P D CL [(h0, .inr (11, MO ma sv_thrown sv_length sv_nodes sv_many sv_directories sv_runsFrom sv_runs sv_read sv_wrong sv_isNamed sv_goes sv_goesSize sv_goesAt sv_targetParts sv_isRoot)), ((ma 0), .inl (cB, 400, .inl fX))] H → va_D A [(h0, .inr (11, MO ma sv_thrown sv_length sv_nodes sv_many sv_directories sv_runsFrom sv_runs sv_read sv_wrong sv_isNamed sv_goes sv_goesSize sv_goesAt sv_targetParts sv_isRoot)), ((ma 0), .inl (cB, 400, .inl fX))] → va_S A s.heap H locs → lv_has ls 7 [(0, .ref h0), (1, .int x), (2, .int y), (3, .int al), (4, .int lp), (5, .int lq)] → K H locs ls [.int dt]) 123 ?_ ?_
            · skip
              intro lk ih123 dt H locs ls hm123 f9 hP hD hS hl
              refine lv_istore hx hb d_DiscMakerModel_componentsOf_123 hl (by decide) rfl (fun ls hl => ?_)
              have hl : lv_has ls 7 [(6, .int dt), (0, .ref h0), (1, .int x), (2, .int y), (3, .int al), (4, .int lp), (5, .int lq)] := hl
              refine lv_iload hx hb d_DiscMakerModel_componentsOf_125 (lv_at hl 6 rfl) ?_
              refine lv_iload hx hb d_DiscMakerModel_componentsOf_127 (lv_at hl 5 rfl) ?_
              refine lv_icmp_le (tgt := 151) hx hb d_DiscMakerModel_componentsOf_129 (by decide) (fun h_9 => ?_) (fun h_9 => ?_)
              · skip
                have g129_24 : lq.toInt ≤ lp.toInt := (i_le rfl rfl).mp h_9
                refine lv_iload hx hb d_DiscMakerModel_componentsOf_151 (lv_at hl 6 rfl) ?_
                refine lv_iconst (v := 1) hx hb d_DiscMakerModel_componentsOf_153 (by decide) ?_
                refine lv_iadd hx hb d_DiscMakerModel_componentsOf_154 ?_
                refine lv_topi (fun v2 e_v2 => ?_)
                have t_v2 : v2.toInt = lq.toInt + 1 := by rw [e_v2]; exact i_add rfl (by decide) (by omega) (by omega)
                refine lv_istore hx hb d_DiscMakerModel_componentsOf_155 hl (by decide) rfl (fun ls hl => ?_)
                have hl : lv_has ls 7 [(4, .int v2), (6, .int dt), (0, .ref h0), (1, .int x), (2, .int y), (3, .int al), (5, .int lq)] := hl
                refine lv_goto (tgt := 20) hx hb d_DiscMakerModel_componentsOf_157 (by decide) ?_
                have hP := hP.sub (ws' := [(h0, .inr (11, MO ma sv_thrown sv_length sv_nodes sv_many sv_directories sv_runsFrom sv_runs sv_read sv_wrong sv_isNamed sv_goes sv_goesSize sv_goesAt sv_targetParts sv_isRoot)), ((ma 0), .inl (cB, 400, .inl fX))]) [0, 1] rfl
                have hD := hD.sub (ws' := [(h0, .inr (11, MO ma sv_thrown sv_length sv_nodes sv_many sv_directories sv_runsFrom sv_runs sv_read sv_wrong sv_isNamed sv_goes sv_goesSize sv_goesAt sv_targetParts sv_isRoot)), ((ma 0), .inl (cB, 400, .inl fX))]) [0, 1] (by decide +kernel) rfl
                have hl := lv_sub hl [2, 3, 4, 5, 0] rfl
                exact ih20 _ (by first | omega | (dsimp only; omega)) al v2 _ _ _ rfl ((by (try dsimp only); first | assumption | omega | trivial)) ((by (try dsimp only); first | assumption | omega | trivial)) ((by have h7 := i_cl (a := lq) (by omega); have h6 := i_cl (a := v2) (by omega); have h5 := i_cl (a := lp) (by omega); (have hm : lq.toNatClampNeg = x.toInt.toNat ∨ ((fun j => fX (y.toInt.toNat + j)) lq.toNatClampNeg).toInt = 47 := by omega); rw [show v2.toNatClampNeg = lq.toNatClampNeg + 1 by omega, cpF_hit hm])) ((by have h7 := i_cl (a := lq) (by omega); have h6 := i_cl (a := v2) (by omega); have h5 := i_cl (a := lp) (by omega); (have hm : lq.toNatClampNeg = x.toInt.toNat ∨ ((fun j => fX (y.toInt.toNat + j)) lq.toNatClampNeg).toInt = 47 := by omega); rw [show v2.toNatClampNeg = lq.toNatClampNeg + 1 by omega, cpT_hit hm, f6, f7]; unfold csz; first | (rw [if_neg (by omega)]; omega) | (rw [if_pos (by omega)]; first | (rw [if_pos (Decidable.not_not.mp (f9.f (by omega)))]; omega) | (rw [if_neg (f9.t (by omega))]; omega)))) hP hD hS hl
              · skip
                have g129_24 : ¬ lq.toInt ≤ lp.toInt := fun h8 => h_9 ((i_le rfl rfl).mpr h8)
                refine lv_iload_n hx hb d_DiscMakerModel_componentsOf_132 rfl (lv_at hl 4 rfl) ?_
                refine lv_iload hx hb d_DiscMakerModel_componentsOf_133 (lv_at hl 0 rfl) ?_
                refine lv_if_eq (tgt := 142) hx hb d_DiscMakerModel_componentsOf_135 (by decide) (fun h_9 => ?_) (fun h_9 => ?_)
                · skip
                  have g135_33 : dt.toInt = 0 := (i_eq rfl (by decide)).mp h_9
                  refine lv_iconst (v := 2) hx hb d_DiscMakerModel_componentsOf_142 (by decide) ?_
                  refine lv_iload hx hb d_DiscMakerModel_componentsOf_143 (lv_at hl 6 rfl) ?_
                  refine lv_iadd hx hb d_DiscMakerModel_componentsOf_145 ?_
                  refine lv_topi (fun v3 e_v3 => ?_)
                  have t_v3 : v3.toInt = 2 + lq.toInt := by rw [e_v3]; exact i_add (by decide) rfl (by omega) (by omega)
                  refine lv_iload hx hb d_DiscMakerModel_componentsOf_146 (lv_at hl 5 rfl) ?_
                  refine lv_isub hx hb d_DiscMakerModel_componentsOf_148 ?_
                  refine lv_topi (fun v4 e_v4 => ?_)
                  have t_v4 : v4.toInt = v3.toInt - lp.toInt := by rw [e_v4]; exact i_sub rfl rfl (by omega) (by omega)
                  refine lv_iadd hx hb d_DiscMakerModel_componentsOf_149 ?_
                  refine lv_topi (fun v5 e_v5 => ?_)
                  have t_v5 : v5.toInt = al.toInt + v4.toInt := by rw [e_v5]; exact i_add rfl rfl (by omega) (by omega)
                  refine lv_istore_n hx hb d_DiscMakerModel_componentsOf_150 rfl hl (by decide) rfl (fun ls hl => ?_)
                  have hl : lv_has ls 7 [(3, .int v5), (6, .int dt), (0, .ref h0), (1, .int x), (2, .int y), (4, .int lp), (5, .int lq)] := hl
                  refine lv_iload hx hb d_DiscMakerModel_componentsOf_151 (lv_at hl 6 rfl) ?_
                  refine lv_iconst (v := 1) hx hb d_DiscMakerModel_componentsOf_153 (by decide) ?_
                  refine lv_iadd hx hb d_DiscMakerModel_componentsOf_154 ?_
                  refine lv_topi (fun v6 e_v6 => ?_)
                  have t_v6 : v6.toInt = lq.toInt + 1 := by rw [e_v6]; exact i_add rfl (by decide) (by omega) (by omega)
                  refine lv_istore hx hb d_DiscMakerModel_componentsOf_155 hl (by decide) rfl (fun ls hl => ?_)
                  have hl : lv_has ls 7 [(4, .int v6), (3, .int v5), (6, .int dt), (0, .ref h0), (1, .int x), (2, .int y), (5, .int lq)] := hl
                  refine lv_goto (tgt := 20) hx hb d_DiscMakerModel_componentsOf_157 (by decide) ?_
                  have hP := hP.sub (ws' := [(h0, .inr (11, MO ma sv_thrown sv_length sv_nodes sv_many sv_directories sv_runsFrom sv_runs sv_read sv_wrong sv_isNamed sv_goes sv_goesSize sv_goesAt sv_targetParts sv_isRoot)), ((ma 0), .inl (cB, 400, .inl fX))]) [0, 1] rfl
                  have hD := hD.sub (ws' := [(h0, .inr (11, MO ma sv_thrown sv_length sv_nodes sv_many sv_directories sv_runsFrom sv_runs sv_read sv_wrong sv_isNamed sv_goes sv_goesSize sv_goesAt sv_targetParts sv_isRoot)), ((ma 0), .inl (cB, 400, .inl fX))]) [0, 1] (by decide +kernel) rfl
                  have hl := lv_sub hl [3, 4, 5, 1, 0] rfl
                  exact ih20 _ (by first | omega | (dsimp only; omega)) v5 v6 _ _ _ rfl ((by (try dsimp only); first | assumption | omega | trivial)) ((by (try dsimp only); first | assumption | omega | trivial)) ((by have h7 := i_cl (a := lq) (by omega); have h6 := i_cl (a := v6) (by omega); have h5 := i_cl (a := lp) (by omega); (have hm : lq.toNatClampNeg = x.toInt.toNat ∨ ((fun j => fX (y.toInt.toNat + j)) lq.toNatClampNeg).toInt = 47 := by omega); rw [show v6.toNatClampNeg = lq.toNatClampNeg + 1 by omega, cpF_hit hm])) ((by have h7 := i_cl (a := lq) (by omega); have h6 := i_cl (a := v6) (by omega); have h5 := i_cl (a := lp) (by omega); (have hm : lq.toNatClampNeg = x.toInt.toNat ∨ ((fun j => fX (y.toInt.toNat + j)) lq.toNatClampNeg).toInt = 47 := by omega); rw [show v6.toNatClampNeg = lq.toNatClampNeg + 1 by omega, cpT_hit hm, f6, f7]; unfold csz; first | (rw [if_neg (by omega)]; omega) | (rw [if_pos (by omega)]; first | (rw [if_pos (Decidable.not_not.mp (f9.f (by omega)))]; omega) | (rw [if_neg (f9.t (by omega))]; omega)))) hP hD hS hl
                · skip
                  have g135_33 : ¬ dt.toInt = 0 := fun h8 => h_9 ((i_eq rfl (by decide)).mpr h8)
                  refine lv_iconst (v := 2) hx hb d_DiscMakerModel_componentsOf_138 (by decide) ?_
                  refine lv_goto (tgt := 149) hx hb d_DiscMakerModel_componentsOf_139 (by decide) ?_
                  refine lv_iadd hx hb d_DiscMakerModel_componentsOf_149 ?_
                  refine lv_topi (fun v7 e_v7 => ?_)
                  have t_v7 : v7.toInt = al.toInt + 2 := by rw [e_v7]; exact i_add rfl (by decide) (by omega) (by omega)
                  refine lv_istore_n hx hb d_DiscMakerModel_componentsOf_150 rfl hl (by decide) rfl (fun ls hl => ?_)
                  have hl : lv_has ls 7 [(3, .int v7), (6, .int dt), (0, .ref h0), (1, .int x), (2, .int y), (4, .int lp), (5, .int lq)] := hl
                  refine lv_iload hx hb d_DiscMakerModel_componentsOf_151 (lv_at hl 6 rfl) ?_
                  refine lv_iconst (v := 1) hx hb d_DiscMakerModel_componentsOf_153 (by decide) ?_
                  refine lv_iadd hx hb d_DiscMakerModel_componentsOf_154 ?_
                  refine lv_topi (fun v8 e_v8 => ?_)
                  have t_v8 : v8.toInt = lq.toInt + 1 := by rw [e_v8]; exact i_add rfl (by decide) (by omega) (by omega)
                  refine lv_istore hx hb d_DiscMakerModel_componentsOf_155 hl (by decide) rfl (fun ls hl => ?_)
                  have hl : lv_has ls 7 [(4, .int v8), (3, .int v7), (6, .int dt), (0, .ref h0), (1, .int x), (2, .int y), (5, .int lq)] := hl
                  refine lv_goto (tgt := 20) hx hb d_DiscMakerModel_componentsOf_157 (by decide) ?_
                  have hP := hP.sub (ws' := [(h0, .inr (11, MO ma sv_thrown sv_length sv_nodes sv_many sv_directories sv_runsFrom sv_runs sv_read sv_wrong sv_isNamed sv_goes sv_goesSize sv_goesAt sv_targetParts sv_isRoot)), ((ma 0), .inl (cB, 400, .inl fX))]) [0, 1] rfl
                  have hD := hD.sub (ws' := [(h0, .inr (11, MO ma sv_thrown sv_length sv_nodes sv_many sv_directories sv_runsFrom sv_runs sv_read sv_wrong sv_isNamed sv_goes sv_goesSize sv_goesAt sv_targetParts sv_isRoot)), ((ma 0), .inl (cB, 400, .inl fX))]) [0, 1] (by decide +kernel) rfl
                  have hl := lv_sub hl [3, 4, 5, 1, 0] rfl
                  exact ih20 _ (by first | omega | (dsimp only; omega)) v7 v8 _ _ _ rfl ((by (try dsimp only); first | assumption | omega | trivial)) ((by (try dsimp only); first | assumption | omega | trivial)) ((by have h7 := i_cl (a := lq) (by omega); have h6 := i_cl (a := v8) (by omega); have h5 := i_cl (a := lp) (by omega); (have hm : lq.toNatClampNeg = x.toInt.toNat ∨ ((fun j => fX (y.toInt.toNat + j)) lq.toNatClampNeg).toInt = 47 := by omega); rw [show v8.toNatClampNeg = lq.toNatClampNeg + 1 by omega, cpF_hit hm])) ((by have h7 := i_cl (a := lq) (by omega); have h6 := i_cl (a := v8) (by omega); have h5 := i_cl (a := lp) (by omega); (have hm : lq.toNatClampNeg = x.toInt.toNat ∨ ((fun j => fX (y.toInt.toNat + j)) lq.toNatClampNeg).toInt = 47 := by omega); rw [show v8.toNatClampNeg = lq.toNatClampNeg + 1 by omega, cpT_hit hm, f6, f7]; unfold csz; first | (rw [if_neg (by omega)]; omega) | (rw [if_pos (by omega)]; first | (rw [if_pos (Decidable.not_not.mp (f9.f (by omega)))]; omega) | (rw [if_neg (f9.t (by omega))]; omega)))) hP hD hS hl
            · skip
              intro kk123
              refine lv_iload hx hb d_DiscMakerModel_componentsOf_56 (lv_at hl 5 rfl) ?_
              refine lv_iload hx hb d_DiscMakerModel_componentsOf_58 (lv_at hl 4 rfl) ?_
              refine lv_isub hx hb d_DiscMakerModel_componentsOf_60 ?_
              refine lv_topi (fun v9 e_v9 => ?_)
              have t_v9 : v9.toInt = lq.toInt - lp.toInt := by rw [e_v9]; exact i_sub rfl rfl (by omega) (by omega)
              refine lv_iconst (v := 1) hx hb d_DiscMakerModel_componentsOf_61 (by decide) ?_
              refine lv_icmp_ne (tgt := 79) hx hb d_DiscMakerModel_componentsOf_62 (by decide) (fun h_9 => ?_) (fun h_9 => ?_)
              · skip
                have g62_61 : ¬ v9.toInt = 1 := fun h8 => h_9 ((i_eq rfl (by decide)).mpr h8)
                refine lv_iload hx hb d_DiscMakerModel_componentsOf_79 (lv_at hl 5 rfl) ?_
                refine lv_iload hx hb d_DiscMakerModel_componentsOf_81 (lv_at hl 4 rfl) ?_
                refine lv_isub hx hb d_DiscMakerModel_componentsOf_83 ?_
                refine lv_topi (fun v10 e_v10 => ?_)
                have t_v10 : v10.toInt = lq.toInt - lp.toInt := by rw [e_v10]; exact i_sub rfl rfl (by omega) (by omega)
                refine lv_iconst (v := 2) hx hb d_DiscMakerModel_componentsOf_84 (by decide) ?_
                refine lv_icmp_ne (tgt := 122) hx hb d_DiscMakerModel_componentsOf_85 (by decide) (fun h_9 => ?_) (fun h_9 => ?_)
                · skip
                  have g85_66 : ¬ v10.toInt = 2 := fun h8 => h_9 ((i_eq rfl (by decide)).mpr h8)
                  refine lv_iconst (v := 0) hx hb d_DiscMakerModel_componentsOf_122 (by decide) ?_
                  have hP := hP.sub (ws' := [(h0, .inr (11, MO ma sv_thrown sv_length sv_nodes sv_many sv_directories sv_runsFrom sv_runs sv_read sv_wrong sv_isNamed sv_goes sv_goesSize sv_goesAt sv_targetParts sv_isRoot)), ((ma 0), .inl (cB, 400, .inl fX))]) [0, 1] rfl
                  have hD := hD.sub (ws' := [(h0, .inr (11, MO ma sv_thrown sv_length sv_nodes sv_many sv_directories sv_runsFrom sv_runs sv_read sv_wrong sv_isNamed sv_goes sv_goesSize sv_goesAt sv_targetParts sv_isRoot)), ((ma 0), .inl (cB, 400, .inl fX))]) [0, 1] (by decide +kernel) rfl
                  have hl := lv_sub hl [0, 1, 2, 3, 4, 5] rfl
                  exact kk123 _ 0 _ _ _ rfl ((by have h7 := i_cl (a := lq) (by omega); have h5 := i_cl (a := lp) (by omega); first | exact BoolIs.yes (by unfold mrk; first | (rw [if_pos (by omega), if_pos (by omega)]; decide) | (rw [if_pos (by omega), if_neg (by omega), if_pos ⟨by omega, by omega⟩]; decide)) | exact BoolIs.no (by unfold mrk; first | (rw [if_neg (by omega)]; decide) | (rw [if_pos (by omega), if_neg (by omega), if_neg (fun h8 => by have h9 := h8.2; omega)]; decide) | (rw [if_pos (by omega), if_neg (by omega), if_neg (fun h8 => by have h9 := h8.1; omega)]; decide) | (by_cases hq : ((fun j => fX (y.toInt.toNat + j)) lp.toNatClampNeg).toInt = 46 <;> first | (rw [if_pos hq, if_neg (by omega), if_neg (fun h8 => by have h9 := h8.1; omega)]; decide) | (rw [if_neg hq]; decide))))) hP hD hS hl
                · skip
                  have g85_66 : v10.toInt = 2 := (i_eq rfl (by decide)).mp h_9
                  refine lv_aload_n hx hb d_DiscMakerModel_componentsOf_88 rfl (lv_at hl 0 rfl) ?_
                  refine va_get (D := D) (ci := 11) (v := .ref (ma 0)) (C := "DiscMakerModel") (T := F_DiscMakerModel) (N := 48) hx hb ht9 in_DiscMakerModel hown hK hP 0 rfl rfl 1 (by decide) (ht9 _ k1432) (fun _ h9 => h9) rfl d_DiscMakerModel_componentsOf_89 ?_
                  refine lv_iload_n hx hb d_DiscMakerModel_componentsOf_92 rfl (lv_at hl 2 rfl) ?_
                  refine lv_iload hx hb d_DiscMakerModel_componentsOf_93 (lv_at hl 4 rfl) ?_
                  refine lv_iadd hx hb d_DiscMakerModel_componentsOf_95 ?_
                  refine lv_topi (fun v11 e_v11 => ?_)
                  have t_v11 : v11.toInt = y.toInt + lp.toInt := by rw [e_v11]; exact i_add rfl rfl (by omega) (by omega)
                  refine va_bald hx hb hK hP 1 0 rfl rfl (vp_in_iff.mpr ⟨by omega, by omega⟩) d_DiscMakerModel_componentsOf_96 ?_
                  refine lv_topi (fun v12 e_v12 => ?_)
                  have w_v12 : v12.toInt = ((fun j => fX (y.toInt.toNat + j)) (lp.toNatClampNeg)).toInt := by have h7 := i_cl (a := v11) (by omega); have h5 := i_cl (a := lp) (by omega); (have h6 : v11.toNatClampNeg = y.toInt.toNat + (lp.toNatClampNeg) := by omega); show v12.toInt = (fX (y.toInt.toNat + (lp.toNatClampNeg))).toInt; rw [← h6, ← e_v12]
                  refine lv_bipush (v := 46) hx hb d_DiscMakerModel_componentsOf_97 (by decide) ?_
                  refine lv_icmp_ne (tgt := 122) hx hb d_DiscMakerModel_componentsOf_99 (by decide) (fun h_9 => ?_) (fun h_9 => ?_)
                  · skip
                    have g99_76 : ¬ v12.toInt = 46 := fun h8 => h_9 ((i_eq rfl (by decide)).mpr h8)
                    refine lv_iconst (v := 0) hx hb d_DiscMakerModel_componentsOf_122 (by decide) ?_
                    have hP := hP.sub (ws' := [(h0, .inr (11, MO ma sv_thrown sv_length sv_nodes sv_many sv_directories sv_runsFrom sv_runs sv_read sv_wrong sv_isNamed sv_goes sv_goesSize sv_goesAt sv_targetParts sv_isRoot)), ((ma 0), .inl (cB, 400, .inl fX))]) [0, 1] rfl
                    have hD := hD.sub (ws' := [(h0, .inr (11, MO ma sv_thrown sv_length sv_nodes sv_many sv_directories sv_runsFrom sv_runs sv_read sv_wrong sv_isNamed sv_goes sv_goesSize sv_goesAt sv_targetParts sv_isRoot)), ((ma 0), .inl (cB, 400, .inl fX))]) [0, 1] (by decide +kernel) rfl
                    have hl := lv_sub hl [0, 1, 2, 3, 4, 5] rfl
                    exact kk123 _ 0 _ _ _ rfl ((by have h7 := i_cl (a := lq) (by omega); have h5 := i_cl (a := lp) (by omega); first | exact BoolIs.yes (by unfold mrk; first | (rw [if_pos (by omega), if_pos (by omega)]; decide) | (rw [if_pos (by omega), if_neg (by omega), if_pos ⟨by omega, by omega⟩]; decide)) | exact BoolIs.no (by unfold mrk; first | (rw [if_neg (by omega)]; decide) | (rw [if_pos (by omega), if_neg (by omega), if_neg (fun h8 => by have h9 := h8.2; omega)]; decide) | (rw [if_pos (by omega), if_neg (by omega), if_neg (fun h8 => by have h9 := h8.1; omega)]; decide) | (by_cases hq : ((fun j => fX (y.toInt.toNat + j)) lp.toNatClampNeg).toInt = 46 <;> first | (rw [if_pos hq, if_neg (by omega), if_neg (fun h8 => by have h9 := h8.1; omega)]; decide) | (rw [if_neg hq]; decide))))) hP hD hS hl
                  · skip
                    have g99_76 : v12.toInt = 46 := (i_eq rfl (by decide)).mp h_9
                    refine lv_aload_n hx hb d_DiscMakerModel_componentsOf_102 rfl (lv_at hl 0 rfl) ?_
                    refine va_get (D := D) (ci := 11) (v := .ref (ma 0)) (C := "DiscMakerModel") (T := F_DiscMakerModel) (N := 48) hx hb ht9 in_DiscMakerModel hown hK hP 0 rfl rfl 1 (by decide) (ht9 _ k1432) (fun _ h9 => h9) rfl d_DiscMakerModel_componentsOf_103 ?_
                    refine lv_iload_n hx hb d_DiscMakerModel_componentsOf_106 rfl (lv_at hl 2 rfl) ?_
                    refine lv_iload hx hb d_DiscMakerModel_componentsOf_107 (lv_at hl 4 rfl) ?_
                    refine lv_iadd hx hb d_DiscMakerModel_componentsOf_109 ?_
                    refine lv_topi (fun v13 e_v13 => ?_)
                    have t_v13 : v13.toInt = y.toInt + lp.toInt := by rw [e_v13]; exact i_add rfl rfl (by omega) (by omega)
                    refine lv_iconst (v := 1) hx hb d_DiscMakerModel_componentsOf_110 (by decide) ?_
                    refine lv_iadd hx hb d_DiscMakerModel_componentsOf_111 ?_
                    refine lv_topi (fun v14 e_v14 => ?_)
                    have t_v14 : v14.toInt = v13.toInt + 1 := by rw [e_v14]; exact i_add rfl (by decide) (by omega) (by omega)
                    refine va_bald hx hb hK hP 1 0 rfl rfl (vp_in_iff.mpr ⟨by omega, by omega⟩) d_DiscMakerModel_componentsOf_112 ?_
                    refine lv_topi (fun v15 e_v15 => ?_)
                    have w_v15 : v15.toInt = ((fun j => fX (y.toInt.toNat + j)) (lp.toNatClampNeg + 1)).toInt := by have h7 := i_cl (a := v14) (by omega); have h5 := i_cl (a := lp) (by omega); (have h6 : v14.toNatClampNeg = y.toInt.toNat + (lp.toNatClampNeg + 1) := by omega); show v15.toInt = (fX (y.toInt.toNat + (lp.toNatClampNeg + 1))).toInt; rw [← h6, ← e_v15]
                    refine lv_bipush (v := 46) hx hb d_DiscMakerModel_componentsOf_113 (by decide) ?_
                    refine lv_icmp_ne (tgt := 122) hx hb d_DiscMakerModel_componentsOf_115 (by decide) (fun h_9 => ?_) (fun h_9 => ?_)
                    · skip
                      have g115_88 : ¬ v15.toInt = 46 := fun h8 => h_9 ((i_eq rfl (by decide)).mpr h8)
                      refine lv_iconst (v := 0) hx hb d_DiscMakerModel_componentsOf_122 (by decide) ?_
                      have hP := hP.sub (ws' := [(h0, .inr (11, MO ma sv_thrown sv_length sv_nodes sv_many sv_directories sv_runsFrom sv_runs sv_read sv_wrong sv_isNamed sv_goes sv_goesSize sv_goesAt sv_targetParts sv_isRoot)), ((ma 0), .inl (cB, 400, .inl fX))]) [0, 1] rfl
                      have hD := hD.sub (ws' := [(h0, .inr (11, MO ma sv_thrown sv_length sv_nodes sv_many sv_directories sv_runsFrom sv_runs sv_read sv_wrong sv_isNamed sv_goes sv_goesSize sv_goesAt sv_targetParts sv_isRoot)), ((ma 0), .inl (cB, 400, .inl fX))]) [0, 1] (by decide +kernel) rfl
                      have hl := lv_sub hl [0, 1, 2, 3, 4, 5] rfl
                      exact kk123 _ 0 _ _ _ rfl ((by have h7 := i_cl (a := lq) (by omega); have h5 := i_cl (a := lp) (by omega); first | exact BoolIs.yes (by unfold mrk; first | (rw [if_pos (by omega), if_pos (by omega)]; decide) | (rw [if_pos (by omega), if_neg (by omega), if_pos ⟨by omega, by omega⟩]; decide)) | exact BoolIs.no (by unfold mrk; first | (rw [if_neg (by omega)]; decide) | (rw [if_pos (by omega), if_neg (by omega), if_neg (fun h8 => by have h9 := h8.2; omega)]; decide) | (rw [if_pos (by omega), if_neg (by omega), if_neg (fun h8 => by have h9 := h8.1; omega)]; decide) | (by_cases hq : ((fun j => fX (y.toInt.toNat + j)) lp.toNatClampNeg).toInt = 46 <;> first | (rw [if_pos hq, if_neg (by omega), if_neg (fun h8 => by have h9 := h8.1; omega)]; decide) | (rw [if_neg hq]; decide))))) hP hD hS hl
                    · skip
                      have g115_88 : v15.toInt = 46 := (i_eq rfl (by decide)).mp h_9
                      refine lv_iconst (v := 1) hx hb d_DiscMakerModel_componentsOf_118 (by decide) ?_
                      refine lv_goto (tgt := 123) hx hb d_DiscMakerModel_componentsOf_119 (by decide) ?_
                      have hP := hP.sub (ws' := [(h0, .inr (11, MO ma sv_thrown sv_length sv_nodes sv_many sv_directories sv_runsFrom sv_runs sv_read sv_wrong sv_isNamed sv_goes sv_goesSize sv_goesAt sv_targetParts sv_isRoot)), ((ma 0), .inl (cB, 400, .inl fX))]) [0, 1] rfl
                      have hD := hD.sub (ws' := [(h0, .inr (11, MO ma sv_thrown sv_length sv_nodes sv_many sv_directories sv_runsFrom sv_runs sv_read sv_wrong sv_isNamed sv_goes sv_goesSize sv_goesAt sv_targetParts sv_isRoot)), ((ma 0), .inl (cB, 400, .inl fX))]) [0, 1] (by decide +kernel) rfl
                      have hl := lv_sub hl [0, 1, 2, 3, 4, 5] rfl
                      exact kk123 _ 1 _ _ _ rfl ((by have h7 := i_cl (a := lq) (by omega); have h5 := i_cl (a := lp) (by omega); first | exact BoolIs.yes (by unfold mrk; first | (rw [if_pos (by omega), if_pos (by omega)]; decide) | (rw [if_pos (by omega), if_neg (by omega), if_pos ⟨by omega, by omega⟩]; decide)) | exact BoolIs.no (by unfold mrk; first | (rw [if_neg (by omega)]; decide) | (rw [if_pos (by omega), if_neg (by omega), if_neg (fun h8 => by have h9 := h8.2; omega)]; decide) | (rw [if_pos (by omega), if_neg (by omega), if_neg (fun h8 => by have h9 := h8.1; omega)]; decide) | (by_cases hq : ((fun j => fX (y.toInt.toNat + j)) lp.toNatClampNeg).toInt = 46 <;> first | (rw [if_pos hq, if_neg (by omega), if_neg (fun h8 => by have h9 := h8.1; omega)]; decide) | (rw [if_neg hq]; decide))))) hP hD hS hl
              · skip
                have g62_61 : v9.toInt = 1 := (i_eq rfl (by decide)).mp h_9
                refine lv_aload_n hx hb d_DiscMakerModel_componentsOf_65 rfl (lv_at hl 0 rfl) ?_
                refine va_get (D := D) (ci := 11) (v := .ref (ma 0)) (C := "DiscMakerModel") (T := F_DiscMakerModel) (N := 48) hx hb ht9 in_DiscMakerModel hown hK hP 0 rfl rfl 1 (by decide) (ht9 _ k1432) (fun _ h9 => h9) rfl d_DiscMakerModel_componentsOf_66 ?_
                refine lv_iload_n hx hb d_DiscMakerModel_componentsOf_69 rfl (lv_at hl 2 rfl) ?_
                refine lv_iload hx hb d_DiscMakerModel_componentsOf_70 (lv_at hl 4 rfl) ?_
                refine lv_iadd hx hb d_DiscMakerModel_componentsOf_72 ?_
                refine lv_topi (fun v16 e_v16 => ?_)
                have t_v16 : v16.toInt = y.toInt + lp.toInt := by rw [e_v16]; exact i_add rfl rfl (by omega) (by omega)
                refine va_bald hx hb hK hP 1 0 rfl rfl (vp_in_iff.mpr ⟨by omega, by omega⟩) d_DiscMakerModel_componentsOf_73 ?_
                refine lv_topi (fun v17 e_v17 => ?_)
                have w_v17 : v17.toInt = ((fun j => fX (y.toInt.toNat + j)) (lp.toNatClampNeg)).toInt := by have h7 := i_cl (a := v16) (by omega); have h5 := i_cl (a := lp) (by omega); (have h6 : v16.toNatClampNeg = y.toInt.toNat + (lp.toNatClampNeg) := by omega); show v17.toInt = (fX (y.toInt.toNat + (lp.toNatClampNeg))).toInt; rw [← h6, ← e_v17]
                refine lv_bipush (v := 46) hx hb d_DiscMakerModel_componentsOf_74 (by decide) ?_
                refine lv_icmp_eq (tgt := 118) hx hb d_DiscMakerModel_componentsOf_76 (by decide) (fun h_9 => ?_) (fun h_9 => ?_)
                · skip
                  have g76_101 : v17.toInt = 46 := (i_eq rfl (by decide)).mp h_9
                  refine lv_iconst (v := 1) hx hb d_DiscMakerModel_componentsOf_118 (by decide) ?_
                  refine lv_goto (tgt := 123) hx hb d_DiscMakerModel_componentsOf_119 (by decide) ?_
                  have hP := hP.sub (ws' := [(h0, .inr (11, MO ma sv_thrown sv_length sv_nodes sv_many sv_directories sv_runsFrom sv_runs sv_read sv_wrong sv_isNamed sv_goes sv_goesSize sv_goesAt sv_targetParts sv_isRoot)), ((ma 0), .inl (cB, 400, .inl fX))]) [0, 1] rfl
                  have hD := hD.sub (ws' := [(h0, .inr (11, MO ma sv_thrown sv_length sv_nodes sv_many sv_directories sv_runsFrom sv_runs sv_read sv_wrong sv_isNamed sv_goes sv_goesSize sv_goesAt sv_targetParts sv_isRoot)), ((ma 0), .inl (cB, 400, .inl fX))]) [0, 1] (by decide +kernel) rfl
                  have hl := lv_sub hl [0, 1, 2, 3, 4, 5] rfl
                  exact kk123 _ 1 _ _ _ rfl ((by have h7 := i_cl (a := lq) (by omega); have h5 := i_cl (a := lp) (by omega); first | exact BoolIs.yes (by unfold mrk; first | (rw [if_pos (by omega), if_pos (by omega)]; decide) | (rw [if_pos (by omega), if_neg (by omega), if_pos ⟨by omega, by omega⟩]; decide)) | exact BoolIs.no (by unfold mrk; first | (rw [if_neg (by omega)]; decide) | (rw [if_pos (by omega), if_neg (by omega), if_neg (fun h8 => by have h9 := h8.2; omega)]; decide) | (rw [if_pos (by omega), if_neg (by omega), if_neg (fun h8 => by have h9 := h8.1; omega)]; decide) | (by_cases hq : ((fun j => fX (y.toInt.toNat + j)) lp.toNatClampNeg).toInt = 46 <;> first | (rw [if_pos hq, if_neg (by omega), if_neg (fun h8 => by have h9 := h8.1; omega)]; decide) | (rw [if_neg hq]; decide))))) hP hD hS hl
                · skip
                  have g76_101 : ¬ v17.toInt = 46 := fun h8 => h_9 ((i_eq rfl (by decide)).mpr h8)
                  refine lv_iload hx hb d_DiscMakerModel_componentsOf_79 (lv_at hl 5 rfl) ?_
                  refine lv_iload hx hb d_DiscMakerModel_componentsOf_81 (lv_at hl 4 rfl) ?_
                  refine lv_isub hx hb d_DiscMakerModel_componentsOf_83 ?_
                  refine lv_topi (fun v18 e_v18 => ?_)
                  have t_v18 : v18.toInt = lq.toInt - lp.toInt := by rw [e_v18]; exact i_sub rfl rfl (by omega) (by omega)
                  refine lv_iconst (v := 2) hx hb d_DiscMakerModel_componentsOf_84 (by decide) ?_
                  refine lv_icmp_ne (tgt := 122) hx hb d_DiscMakerModel_componentsOf_85 (by decide) (fun h_9 => ?_) (fun h_9 => ?_)
                  · skip
                    have g85_109 : ¬ v18.toInt = 2 := fun h8 => h_9 ((i_eq rfl (by decide)).mpr h8)
                    refine lv_iconst (v := 0) hx hb d_DiscMakerModel_componentsOf_122 (by decide) ?_
                    have hP := hP.sub (ws' := [(h0, .inr (11, MO ma sv_thrown sv_length sv_nodes sv_many sv_directories sv_runsFrom sv_runs sv_read sv_wrong sv_isNamed sv_goes sv_goesSize sv_goesAt sv_targetParts sv_isRoot)), ((ma 0), .inl (cB, 400, .inl fX))]) [0, 1] rfl
                    have hD := hD.sub (ws' := [(h0, .inr (11, MO ma sv_thrown sv_length sv_nodes sv_many sv_directories sv_runsFrom sv_runs sv_read sv_wrong sv_isNamed sv_goes sv_goesSize sv_goesAt sv_targetParts sv_isRoot)), ((ma 0), .inl (cB, 400, .inl fX))]) [0, 1] (by decide +kernel) rfl
                    have hl := lv_sub hl [0, 1, 2, 3, 4, 5] rfl
                    exact kk123 _ 0 _ _ _ rfl ((by have h7 := i_cl (a := lq) (by omega); have h5 := i_cl (a := lp) (by omega); first | exact BoolIs.yes (by unfold mrk; first | (rw [if_pos (by omega), if_pos (by omega)]; decide) | (rw [if_pos (by omega), if_neg (by omega), if_pos ⟨by omega, by omega⟩]; decide)) | exact BoolIs.no (by unfold mrk; first | (rw [if_neg (by omega)]; decide) | (rw [if_pos (by omega), if_neg (by omega), if_neg (fun h8 => by have h9 := h8.2; omega)]; decide) | (rw [if_pos (by omega), if_neg (by omega), if_neg (fun h8 => by have h9 := h8.1; omega)]; decide) | (by_cases hq : ((fun j => fX (y.toInt.toNat + j)) lp.toNatClampNeg).toInt = 46 <;> first | (rw [if_pos hq, if_neg (by omega), if_neg (fun h8 => by have h9 := h8.1; omega)]; decide) | (rw [if_neg hq]; decide))))) hP hD hS hl
                  · skip
                    have g85_109 : v18.toInt = 2 := (i_eq rfl (by decide)).mp h_9
                    refine lv_aload_n hx hb d_DiscMakerModel_componentsOf_88 rfl (lv_at hl 0 rfl) ?_
                    refine va_get (D := D) (ci := 11) (v := .ref (ma 0)) (C := "DiscMakerModel") (T := F_DiscMakerModel) (N := 48) hx hb ht9 in_DiscMakerModel hown hK hP 0 rfl rfl 1 (by decide) (ht9 _ k1432) (fun _ h9 => h9) rfl d_DiscMakerModel_componentsOf_89 ?_
                    refine lv_iload_n hx hb d_DiscMakerModel_componentsOf_92 rfl (lv_at hl 2 rfl) ?_
                    refine lv_iload hx hb d_DiscMakerModel_componentsOf_93 (lv_at hl 4 rfl) ?_
                    refine lv_iadd hx hb d_DiscMakerModel_componentsOf_95 ?_
                    refine lv_topi (fun v19 e_v19 => ?_)
                    have t_v19 : v19.toInt = y.toInt + lp.toInt := by rw [e_v19]; exact i_add rfl rfl (by omega) (by omega)
                    refine va_bald hx hb hK hP 1 0 rfl rfl (vp_in_iff.mpr ⟨by omega, by omega⟩) d_DiscMakerModel_componentsOf_96 ?_
                    refine lv_topi (fun v20 e_v20 => ?_)
                    have w_v20 : v20.toInt = ((fun j => fX (y.toInt.toNat + j)) (lp.toNatClampNeg)).toInt := by have h7 := i_cl (a := v19) (by omega); have h5 := i_cl (a := lp) (by omega); (have h6 : v19.toNatClampNeg = y.toInt.toNat + (lp.toNatClampNeg) := by omega); show v20.toInt = (fX (y.toInt.toNat + (lp.toNatClampNeg))).toInt; rw [← h6, ← e_v20]
                    refine lv_bipush (v := 46) hx hb d_DiscMakerModel_componentsOf_97 (by decide) ?_
                    refine lv_icmp_ne (tgt := 122) hx hb d_DiscMakerModel_componentsOf_99 (by decide) (fun h_9 => ?_) (fun h_9 => ?_)
                    · skip
                      have g99_119 : ¬ v20.toInt = 46 := fun h8 => h_9 ((i_eq rfl (by decide)).mpr h8)
                      refine lv_iconst (v := 0) hx hb d_DiscMakerModel_componentsOf_122 (by decide) ?_
                      have hP := hP.sub (ws' := [(h0, .inr (11, MO ma sv_thrown sv_length sv_nodes sv_many sv_directories sv_runsFrom sv_runs sv_read sv_wrong sv_isNamed sv_goes sv_goesSize sv_goesAt sv_targetParts sv_isRoot)), ((ma 0), .inl (cB, 400, .inl fX))]) [0, 1] rfl
                      have hD := hD.sub (ws' := [(h0, .inr (11, MO ma sv_thrown sv_length sv_nodes sv_many sv_directories sv_runsFrom sv_runs sv_read sv_wrong sv_isNamed sv_goes sv_goesSize sv_goesAt sv_targetParts sv_isRoot)), ((ma 0), .inl (cB, 400, .inl fX))]) [0, 1] (by decide +kernel) rfl
                      have hl := lv_sub hl [0, 1, 2, 3, 4, 5] rfl
                      exact kk123 _ 0 _ _ _ rfl ((by have h7 := i_cl (a := lq) (by omega); have h5 := i_cl (a := lp) (by omega); first | exact BoolIs.yes (by unfold mrk; first | (rw [if_pos (by omega), if_pos (by omega)]; decide) | (rw [if_pos (by omega), if_neg (by omega), if_pos ⟨by omega, by omega⟩]; decide)) | exact BoolIs.no (by unfold mrk; first | (rw [if_neg (by omega)]; decide) | (rw [if_pos (by omega), if_neg (by omega), if_neg (fun h8 => by have h9 := h8.2; omega)]; decide) | (rw [if_pos (by omega), if_neg (by omega), if_neg (fun h8 => by have h9 := h8.1; omega)]; decide) | (by_cases hq : ((fun j => fX (y.toInt.toNat + j)) lp.toNatClampNeg).toInt = 46 <;> first | (rw [if_pos hq, if_neg (by omega), if_neg (fun h8 => by have h9 := h8.1; omega)]; decide) | (rw [if_neg hq]; decide))))) hP hD hS hl
                    · skip
                      have g99_119 : v20.toInt = 46 := (i_eq rfl (by decide)).mp h_9
                      refine lv_aload_n hx hb d_DiscMakerModel_componentsOf_102 rfl (lv_at hl 0 rfl) ?_
                      refine va_get (D := D) (ci := 11) (v := .ref (ma 0)) (C := "DiscMakerModel") (T := F_DiscMakerModel) (N := 48) hx hb ht9 in_DiscMakerModel hown hK hP 0 rfl rfl 1 (by decide) (ht9 _ k1432) (fun _ h9 => h9) rfl d_DiscMakerModel_componentsOf_103 ?_
                      refine lv_iload_n hx hb d_DiscMakerModel_componentsOf_106 rfl (lv_at hl 2 rfl) ?_
                      refine lv_iload hx hb d_DiscMakerModel_componentsOf_107 (lv_at hl 4 rfl) ?_
                      refine lv_iadd hx hb d_DiscMakerModel_componentsOf_109 ?_
                      refine lv_topi (fun v21 e_v21 => ?_)
                      have t_v21 : v21.toInt = y.toInt + lp.toInt := by rw [e_v21]; exact i_add rfl rfl (by omega) (by omega)
                      refine lv_iconst (v := 1) hx hb d_DiscMakerModel_componentsOf_110 (by decide) ?_
                      refine lv_iadd hx hb d_DiscMakerModel_componentsOf_111 ?_
                      refine lv_topi (fun v22 e_v22 => ?_)
                      have t_v22 : v22.toInt = v21.toInt + 1 := by rw [e_v22]; exact i_add rfl (by decide) (by omega) (by omega)
                      refine va_bald hx hb hK hP 1 0 rfl rfl (vp_in_iff.mpr ⟨by omega, by omega⟩) d_DiscMakerModel_componentsOf_112 ?_
                      refine lv_topi (fun v23 e_v23 => ?_)
                      have w_v23 : v23.toInt = ((fun j => fX (y.toInt.toNat + j)) (lp.toNatClampNeg + 1)).toInt := by have h7 := i_cl (a := v22) (by omega); have h5 := i_cl (a := lp) (by omega); (have h6 : v22.toNatClampNeg = y.toInt.toNat + (lp.toNatClampNeg + 1) := by omega); show v23.toInt = (fX (y.toInt.toNat + (lp.toNatClampNeg + 1))).toInt; rw [← h6, ← e_v23]
                      refine lv_bipush (v := 46) hx hb d_DiscMakerModel_componentsOf_113 (by decide) ?_
                      refine lv_icmp_ne (tgt := 122) hx hb d_DiscMakerModel_componentsOf_115 (by decide) (fun h_9 => ?_) (fun h_9 => ?_)
                      · skip
                        have g115_131 : ¬ v23.toInt = 46 := fun h8 => h_9 ((i_eq rfl (by decide)).mpr h8)
                        refine lv_iconst (v := 0) hx hb d_DiscMakerModel_componentsOf_122 (by decide) ?_
                        have hP := hP.sub (ws' := [(h0, .inr (11, MO ma sv_thrown sv_length sv_nodes sv_many sv_directories sv_runsFrom sv_runs sv_read sv_wrong sv_isNamed sv_goes sv_goesSize sv_goesAt sv_targetParts sv_isRoot)), ((ma 0), .inl (cB, 400, .inl fX))]) [0, 1] rfl
                        have hD := hD.sub (ws' := [(h0, .inr (11, MO ma sv_thrown sv_length sv_nodes sv_many sv_directories sv_runsFrom sv_runs sv_read sv_wrong sv_isNamed sv_goes sv_goesSize sv_goesAt sv_targetParts sv_isRoot)), ((ma 0), .inl (cB, 400, .inl fX))]) [0, 1] (by decide +kernel) rfl
                        have hl := lv_sub hl [0, 1, 2, 3, 4, 5] rfl
                        exact kk123 _ 0 _ _ _ rfl ((by have h7 := i_cl (a := lq) (by omega); have h5 := i_cl (a := lp) (by omega); first | exact BoolIs.yes (by unfold mrk; first | (rw [if_pos (by omega), if_pos (by omega)]; decide) | (rw [if_pos (by omega), if_neg (by omega), if_pos ⟨by omega, by omega⟩]; decide)) | exact BoolIs.no (by unfold mrk; first | (rw [if_neg (by omega)]; decide) | (rw [if_pos (by omega), if_neg (by omega), if_neg (fun h8 => by have h9 := h8.2; omega)]; decide) | (rw [if_pos (by omega), if_neg (by omega), if_neg (fun h8 => by have h9 := h8.1; omega)]; decide) | (by_cases hq : ((fun j => fX (y.toInt.toNat + j)) lp.toNatClampNeg).toInt = 46 <;> first | (rw [if_pos hq, if_neg (by omega), if_neg (fun h8 => by have h9 := h8.1; omega)]; decide) | (rw [if_neg hq]; decide))))) hP hD hS hl
                      · skip
                        have g115_131 : v23.toInt = 46 := (i_eq rfl (by decide)).mp h_9
                        refine lv_iconst (v := 1) hx hb d_DiscMakerModel_componentsOf_118 (by decide) ?_
                        refine lv_goto (tgt := 123) hx hb d_DiscMakerModel_componentsOf_119 (by decide) ?_
                        have hP := hP.sub (ws' := [(h0, .inr (11, MO ma sv_thrown sv_length sv_nodes sv_many sv_directories sv_runsFrom sv_runs sv_read sv_wrong sv_isNamed sv_goes sv_goesSize sv_goesAt sv_targetParts sv_isRoot)), ((ma 0), .inl (cB, 400, .inl fX))]) [0, 1] rfl
                        have hD := hD.sub (ws' := [(h0, .inr (11, MO ma sv_thrown sv_length sv_nodes sv_many sv_directories sv_runsFrom sv_runs sv_read sv_wrong sv_isNamed sv_goes sv_goesSize sv_goesAt sv_targetParts sv_isRoot)), ((ma 0), .inl (cB, 400, .inl fX))]) [0, 1] (by decide +kernel) rfl
                        have hl := lv_sub hl [0, 1, 2, 3, 4, 5] rfl
                        exact kk123 _ 1 _ _ _ rfl ((by have h7 := i_cl (a := lq) (by omega); have h5 := i_cl (a := lp) (by omega); first | exact BoolIs.yes (by unfold mrk; first | (rw [if_pos (by omega), if_pos (by omega)]; decide) | (rw [if_pos (by omega), if_neg (by omega), if_pos ⟨by omega, by omega⟩]; decide)) | exact BoolIs.no (by unfold mrk; first | (rw [if_neg (by omega)]; decide) | (rw [if_pos (by omega), if_neg (by omega), if_neg (fun h8 => by have h9 := h8.2; omega)]; decide) | (rw [if_pos (by omega), if_neg (by omega), if_neg (fun h8 => by have h9 := h8.1; omega)]; decide) | (by_cases hq : ((fun j => fX (y.toInt.toNat + j)) lp.toNatClampNeg).toInt = 46 <;> first | (rw [if_pos hq, if_neg (by omega), if_neg (fun h8 => by have h9 := h8.1; omega)]; decide) | (rw [if_neg hq]; decide))))) hP hD hS hl
          · skip
            have g33_20 : ¬ x.toInt ≤ lq.toInt := fun h8 => h_9 ((i_le rfl rfl).mpr h8)
            refine lv_aload_n hx hb d_DiscMakerModel_componentsOf_36 rfl (lv_at hl 0 rfl) ?_
            refine va_get (D := D) (ci := 11) (v := .ref (ma 0)) (C := "DiscMakerModel") (T := F_DiscMakerModel) (N := 48) hx hb ht9 in_DiscMakerModel hown hK hP 0 rfl rfl 1 (by decide) (ht9 _ k1432) (fun _ h9 => h9) rfl d_DiscMakerModel_componentsOf_37 ?_
            refine lv_iload_n hx hb d_DiscMakerModel_componentsOf_40 rfl (lv_at hl 2 rfl) ?_
            refine lv_iload hx hb d_DiscMakerModel_componentsOf_41 (lv_at hl 5 rfl) ?_
            refine lv_iadd hx hb d_DiscMakerModel_componentsOf_43 ?_
            refine lv_topi (fun v24 e_v24 => ?_)
            have t_v24 : v24.toInt = y.toInt + lq.toInt := by rw [e_v24]; exact i_add rfl rfl (by omega) (by omega)
            refine va_bald hx hb hK hP 1 0 rfl rfl (vp_in_iff.mpr ⟨by omega, by omega⟩) d_DiscMakerModel_componentsOf_44 ?_
            refine lv_topi (fun v25 e_v25 => ?_)
            have w_v25 : v25.toInt = ((fun j => fX (y.toInt.toNat + j)) (lq.toNatClampNeg)).toInt := by have h7 := i_cl (a := v24) (by omega); have h5 := i_cl (a := lq) (by omega); (have h6 : v24.toNatClampNeg = y.toInt.toNat + (lq.toNatClampNeg) := by omega); show v25.toInt = (fX (y.toInt.toNat + (lq.toNatClampNeg))).toInt; rw [← h6, ← e_v25]
            refine lv_bipush (v := 47) hx hb d_DiscMakerModel_componentsOf_45 (by decide) ?_
            refine lv_icmp_eq (tgt := 56) hx hb d_DiscMakerModel_componentsOf_47 (by decide) (fun h_9 => ?_) (fun h_9 => ?_)
            · skip
              have g47_144 : v25.toInt = 47 := (i_eq rfl (by decide)).mp h_9
              refine zz_labM (B := fun (lk : Nat) (K : Heap → List Loc → Array Slot → List Value → Prop) => ∀ (dt : Int32) (H : Heap) (locs : List Loc) (ls : Array Slot), lk = 0 → (BoolIs dt (mrk (fun j => fX (y.toInt.toNat + j)) lp.toNatClampNeg lq.toNatClampNeg ≠ 0)) → va_P D CL [(h0, .inr (11, MO ma sv_thrown sv_length sv_nodes sv_many sv_directories sv_runsFrom sv_runs sv_read sv_wrong sv_isNamed sv_goes sv_goesSize sv_goesAt sv_targetParts sv_isRoot)), ((ma 0), .inl (cB, 400, .inl fX))] H → va_D A [(h0, .inr (11, MO ma sv_thrown sv_length sv_nodes sv_many sv_directories sv_runsFrom sv_runs sv_read sv_wrong sv_isNamed sv_goes sv_goesSize sv_goesAt sv_targetParts sv_isRoot)), ((ma 0), .inl (cB, 400, .inl fX))] → va_S A s.heap H locs → lv_has ls 7 [(0, .ref h0), (1, .int x), (2, .int y), (3, .int al), (4, .int lp), (5, .int lq)] → K H locs ls [.int dt]) 123 ?_ ?_
              · skip
                intro lk ih123 dt H locs ls hm123 f9 hP hD hS hl
                refine lv_istore hx hb d_DiscMakerModel_componentsOf_123 hl (by decide) rfl (fun ls hl => ?_)
                have hl : lv_has ls 7 [(6, .int dt), (0, .ref h0), (1, .int x), (2, .int y), (3, .int al), (4, .int lp), (5, .int lq)] := hl
                refine lv_iload hx hb d_DiscMakerModel_componentsOf_125 (lv_at hl 6 rfl) ?_
                refine lv_iload hx hb d_DiscMakerModel_componentsOf_127 (lv_at hl 5 rfl) ?_
                refine lv_icmp_le (tgt := 151) hx hb d_DiscMakerModel_componentsOf_129 (by decide) (fun h_9 => ?_) (fun h_9 => ?_)
                · skip
                  have g129_148 : lq.toInt ≤ lp.toInt := (i_le rfl rfl).mp h_9
                  refine lv_iload hx hb d_DiscMakerModel_componentsOf_151 (lv_at hl 6 rfl) ?_
                  refine lv_iconst (v := 1) hx hb d_DiscMakerModel_componentsOf_153 (by decide) ?_
                  refine lv_iadd hx hb d_DiscMakerModel_componentsOf_154 ?_
                  refine lv_topi (fun v26 e_v26 => ?_)
                  have t_v26 : v26.toInt = lq.toInt + 1 := by rw [e_v26]; exact i_add rfl (by decide) (by omega) (by omega)
                  refine lv_istore hx hb d_DiscMakerModel_componentsOf_155 hl (by decide) rfl (fun ls hl => ?_)
                  have hl : lv_has ls 7 [(4, .int v26), (6, .int dt), (0, .ref h0), (1, .int x), (2, .int y), (3, .int al), (5, .int lq)] := hl
                  refine lv_goto (tgt := 20) hx hb d_DiscMakerModel_componentsOf_157 (by decide) ?_
                  have hP := hP.sub (ws' := [(h0, .inr (11, MO ma sv_thrown sv_length sv_nodes sv_many sv_directories sv_runsFrom sv_runs sv_read sv_wrong sv_isNamed sv_goes sv_goesSize sv_goesAt sv_targetParts sv_isRoot)), ((ma 0), .inl (cB, 400, .inl fX))]) [0, 1] rfl
                  have hD := hD.sub (ws' := [(h0, .inr (11, MO ma sv_thrown sv_length sv_nodes sv_many sv_directories sv_runsFrom sv_runs sv_read sv_wrong sv_isNamed sv_goes sv_goesSize sv_goesAt sv_targetParts sv_isRoot)), ((ma 0), .inl (cB, 400, .inl fX))]) [0, 1] (by decide +kernel) rfl
                  have hl := lv_sub hl [2, 3, 4, 5, 0] rfl
                  exact ih20 _ (by first | omega | (dsimp only; omega)) al v26 _ _ _ rfl ((by (try dsimp only); first | assumption | omega | trivial)) ((by (try dsimp only); first | assumption | omega | trivial)) ((by have h7 := i_cl (a := lq) (by omega); have h6 := i_cl (a := v26) (by omega); have h5 := i_cl (a := lp) (by omega); (have hm : lq.toNatClampNeg = x.toInt.toNat ∨ ((fun j => fX (y.toInt.toNat + j)) lq.toNatClampNeg).toInt = 47 := by omega); rw [show v26.toNatClampNeg = lq.toNatClampNeg + 1 by omega, cpF_hit hm])) ((by have h7 := i_cl (a := lq) (by omega); have h6 := i_cl (a := v26) (by omega); have h5 := i_cl (a := lp) (by omega); (have hm : lq.toNatClampNeg = x.toInt.toNat ∨ ((fun j => fX (y.toInt.toNat + j)) lq.toNatClampNeg).toInt = 47 := by omega); rw [show v26.toNatClampNeg = lq.toNatClampNeg + 1 by omega, cpT_hit hm, f6, f7]; unfold csz; first | (rw [if_neg (by omega)]; omega) | (rw [if_pos (by omega)]; first | (rw [if_pos (Decidable.not_not.mp (f9.f (by omega)))]; omega) | (rw [if_neg (f9.t (by omega))]; omega)))) hP hD hS hl
                · skip
                  have g129_148 : ¬ lq.toInt ≤ lp.toInt := fun h8 => h_9 ((i_le rfl rfl).mpr h8)
                  refine lv_iload_n hx hb d_DiscMakerModel_componentsOf_132 rfl (lv_at hl 4 rfl) ?_
                  refine lv_iload hx hb d_DiscMakerModel_componentsOf_133 (lv_at hl 0 rfl) ?_
                  refine lv_if_eq (tgt := 142) hx hb d_DiscMakerModel_componentsOf_135 (by decide) (fun h_9 => ?_) (fun h_9 => ?_)
                  · skip
                    have g135_157 : dt.toInt = 0 := (i_eq rfl (by decide)).mp h_9
                    refine lv_iconst (v := 2) hx hb d_DiscMakerModel_componentsOf_142 (by decide) ?_
                    refine lv_iload hx hb d_DiscMakerModel_componentsOf_143 (lv_at hl 6 rfl) ?_
                    refine lv_iadd hx hb d_DiscMakerModel_componentsOf_145 ?_
                    refine lv_topi (fun v27 e_v27 => ?_)
                    have t_v27 : v27.toInt = 2 + lq.toInt := by rw [e_v27]; exact i_add (by decide) rfl (by omega) (by omega)
                    refine lv_iload hx hb d_DiscMakerModel_componentsOf_146 (lv_at hl 5 rfl) ?_
                    refine lv_isub hx hb d_DiscMakerModel_componentsOf_148 ?_
                    refine lv_topi (fun v28 e_v28 => ?_)
                    have t_v28 : v28.toInt = v27.toInt - lp.toInt := by rw [e_v28]; exact i_sub rfl rfl (by omega) (by omega)
                    refine lv_iadd hx hb d_DiscMakerModel_componentsOf_149 ?_
                    refine lv_topi (fun v29 e_v29 => ?_)
                    have t_v29 : v29.toInt = al.toInt + v28.toInt := by rw [e_v29]; exact i_add rfl rfl (by omega) (by omega)
                    refine lv_istore_n hx hb d_DiscMakerModel_componentsOf_150 rfl hl (by decide) rfl (fun ls hl => ?_)
                    have hl : lv_has ls 7 [(3, .int v29), (6, .int dt), (0, .ref h0), (1, .int x), (2, .int y), (4, .int lp), (5, .int lq)] := hl
                    refine lv_iload hx hb d_DiscMakerModel_componentsOf_151 (lv_at hl 6 rfl) ?_
                    refine lv_iconst (v := 1) hx hb d_DiscMakerModel_componentsOf_153 (by decide) ?_
                    refine lv_iadd hx hb d_DiscMakerModel_componentsOf_154 ?_
                    refine lv_topi (fun v30 e_v30 => ?_)
                    have t_v30 : v30.toInt = lq.toInt + 1 := by rw [e_v30]; exact i_add rfl (by decide) (by omega) (by omega)
                    refine lv_istore hx hb d_DiscMakerModel_componentsOf_155 hl (by decide) rfl (fun ls hl => ?_)
                    have hl : lv_has ls 7 [(4, .int v30), (3, .int v29), (6, .int dt), (0, .ref h0), (1, .int x), (2, .int y), (5, .int lq)] := hl
                    refine lv_goto (tgt := 20) hx hb d_DiscMakerModel_componentsOf_157 (by decide) ?_
                    have hP := hP.sub (ws' := [(h0, .inr (11, MO ma sv_thrown sv_length sv_nodes sv_many sv_directories sv_runsFrom sv_runs sv_read sv_wrong sv_isNamed sv_goes sv_goesSize sv_goesAt sv_targetParts sv_isRoot)), ((ma 0), .inl (cB, 400, .inl fX))]) [0, 1] rfl
                    have hD := hD.sub (ws' := [(h0, .inr (11, MO ma sv_thrown sv_length sv_nodes sv_many sv_directories sv_runsFrom sv_runs sv_read sv_wrong sv_isNamed sv_goes sv_goesSize sv_goesAt sv_targetParts sv_isRoot)), ((ma 0), .inl (cB, 400, .inl fX))]) [0, 1] (by decide +kernel) rfl
                    have hl := lv_sub hl [3, 4, 5, 1, 0] rfl
                    exact ih20 _ (by first | omega | (dsimp only; omega)) v29 v30 _ _ _ rfl ((by (try dsimp only); first | assumption | omega | trivial)) ((by (try dsimp only); first | assumption | omega | trivial)) ((by have h7 := i_cl (a := lq) (by omega); have h6 := i_cl (a := v30) (by omega); have h5 := i_cl (a := lp) (by omega); (have hm : lq.toNatClampNeg = x.toInt.toNat ∨ ((fun j => fX (y.toInt.toNat + j)) lq.toNatClampNeg).toInt = 47 := by omega); rw [show v30.toNatClampNeg = lq.toNatClampNeg + 1 by omega, cpF_hit hm])) ((by have h7 := i_cl (a := lq) (by omega); have h6 := i_cl (a := v30) (by omega); have h5 := i_cl (a := lp) (by omega); (have hm : lq.toNatClampNeg = x.toInt.toNat ∨ ((fun j => fX (y.toInt.toNat + j)) lq.toNatClampNeg).toInt = 47 := by omega); rw [show v30.toNatClampNeg = lq.toNatClampNeg + 1 by omega, cpT_hit hm, f6, f7]; unfold csz; first | (rw [if_neg (by omega)]; omega) | (rw [if_pos (by omega)]; first | (rw [if_pos (Decidable.not_not.mp (f9.f (by omega)))]; omega) | (rw [if_neg (f9.t (by omega))]; omega)))) hP hD hS hl
                  · skip
                    have g135_157 : ¬ dt.toInt = 0 := fun h8 => h_9 ((i_eq rfl (by decide)).mpr h8)
                    refine lv_iconst (v := 2) hx hb d_DiscMakerModel_componentsOf_138 (by decide) ?_
                    refine lv_goto (tgt := 149) hx hb d_DiscMakerModel_componentsOf_139 (by decide) ?_
                    refine lv_iadd hx hb d_DiscMakerModel_componentsOf_149 ?_
                    refine lv_topi (fun v31 e_v31 => ?_)
                    have t_v31 : v31.toInt = al.toInt + 2 := by rw [e_v31]; exact i_add rfl (by decide) (by omega) (by omega)
                    refine lv_istore_n hx hb d_DiscMakerModel_componentsOf_150 rfl hl (by decide) rfl (fun ls hl => ?_)
                    have hl : lv_has ls 7 [(3, .int v31), (6, .int dt), (0, .ref h0), (1, .int x), (2, .int y), (4, .int lp), (5, .int lq)] := hl
                    refine lv_iload hx hb d_DiscMakerModel_componentsOf_151 (lv_at hl 6 rfl) ?_
                    refine lv_iconst (v := 1) hx hb d_DiscMakerModel_componentsOf_153 (by decide) ?_
                    refine lv_iadd hx hb d_DiscMakerModel_componentsOf_154 ?_
                    refine lv_topi (fun v32 e_v32 => ?_)
                    have t_v32 : v32.toInt = lq.toInt + 1 := by rw [e_v32]; exact i_add rfl (by decide) (by omega) (by omega)
                    refine lv_istore hx hb d_DiscMakerModel_componentsOf_155 hl (by decide) rfl (fun ls hl => ?_)
                    have hl : lv_has ls 7 [(4, .int v32), (3, .int v31), (6, .int dt), (0, .ref h0), (1, .int x), (2, .int y), (5, .int lq)] := hl
                    refine lv_goto (tgt := 20) hx hb d_DiscMakerModel_componentsOf_157 (by decide) ?_
                    have hP := hP.sub (ws' := [(h0, .inr (11, MO ma sv_thrown sv_length sv_nodes sv_many sv_directories sv_runsFrom sv_runs sv_read sv_wrong sv_isNamed sv_goes sv_goesSize sv_goesAt sv_targetParts sv_isRoot)), ((ma 0), .inl (cB, 400, .inl fX))]) [0, 1] rfl
                    have hD := hD.sub (ws' := [(h0, .inr (11, MO ma sv_thrown sv_length sv_nodes sv_many sv_directories sv_runsFrom sv_runs sv_read sv_wrong sv_isNamed sv_goes sv_goesSize sv_goesAt sv_targetParts sv_isRoot)), ((ma 0), .inl (cB, 400, .inl fX))]) [0, 1] (by decide +kernel) rfl
                    have hl := lv_sub hl [3, 4, 5, 1, 0] rfl
                    exact ih20 _ (by first | omega | (dsimp only; omega)) v31 v32 _ _ _ rfl ((by (try dsimp only); first | assumption | omega | trivial)) ((by (try dsimp only); first | assumption | omega | trivial)) ((by have h7 := i_cl (a := lq) (by omega); have h6 := i_cl (a := v32) (by omega); have h5 := i_cl (a := lp) (by omega); (have hm : lq.toNatClampNeg = x.toInt.toNat ∨ ((fun j => fX (y.toInt.toNat + j)) lq.toNatClampNeg).toInt = 47 := by omega); rw [show v32.toNatClampNeg = lq.toNatClampNeg + 1 by omega, cpF_hit hm])) ((by have h7 := i_cl (a := lq) (by omega); have h6 := i_cl (a := v32) (by omega); have h5 := i_cl (a := lp) (by omega); (have hm : lq.toNatClampNeg = x.toInt.toNat ∨ ((fun j => fX (y.toInt.toNat + j)) lq.toNatClampNeg).toInt = 47 := by omega); rw [show v32.toNatClampNeg = lq.toNatClampNeg + 1 by omega, cpT_hit hm, f6, f7]; unfold csz; first | (rw [if_neg (by omega)]; omega) | (rw [if_pos (by omega)]; first | (rw [if_pos (Decidable.not_not.mp (f9.f (by omega)))]; omega) | (rw [if_neg (f9.t (by omega))]; omega)))) hP hD hS hl
              · skip
                intro kk123
                refine lv_iload hx hb d_DiscMakerModel_componentsOf_56 (lv_at hl 5 rfl) ?_
                refine lv_iload hx hb d_DiscMakerModel_componentsOf_58 (lv_at hl 4 rfl) ?_
                refine lv_isub hx hb d_DiscMakerModel_componentsOf_60 ?_
                refine lv_topi (fun v33 e_v33 => ?_)
                have t_v33 : v33.toInt = lq.toInt - lp.toInt := by rw [e_v33]; exact i_sub rfl rfl (by omega) (by omega)
                refine lv_iconst (v := 1) hx hb d_DiscMakerModel_componentsOf_61 (by decide) ?_
                refine lv_icmp_ne (tgt := 79) hx hb d_DiscMakerModel_componentsOf_62 (by decide) (fun h_9 => ?_) (fun h_9 => ?_)
                · skip
                  have g62_185 : ¬ v33.toInt = 1 := fun h8 => h_9 ((i_eq rfl (by decide)).mpr h8)
                  refine lv_iload hx hb d_DiscMakerModel_componentsOf_79 (lv_at hl 5 rfl) ?_
                  refine lv_iload hx hb d_DiscMakerModel_componentsOf_81 (lv_at hl 4 rfl) ?_
                  refine lv_isub hx hb d_DiscMakerModel_componentsOf_83 ?_
                  refine lv_topi (fun v34 e_v34 => ?_)
                  have t_v34 : v34.toInt = lq.toInt - lp.toInt := by rw [e_v34]; exact i_sub rfl rfl (by omega) (by omega)
                  refine lv_iconst (v := 2) hx hb d_DiscMakerModel_componentsOf_84 (by decide) ?_
                  refine lv_icmp_ne (tgt := 122) hx hb d_DiscMakerModel_componentsOf_85 (by decide) (fun h_9 => ?_) (fun h_9 => ?_)
                  · skip
                    have g85_190 : ¬ v34.toInt = 2 := fun h8 => h_9 ((i_eq rfl (by decide)).mpr h8)
                    refine lv_iconst (v := 0) hx hb d_DiscMakerModel_componentsOf_122 (by decide) ?_
                    have hP := hP.sub (ws' := [(h0, .inr (11, MO ma sv_thrown sv_length sv_nodes sv_many sv_directories sv_runsFrom sv_runs sv_read sv_wrong sv_isNamed sv_goes sv_goesSize sv_goesAt sv_targetParts sv_isRoot)), ((ma 0), .inl (cB, 400, .inl fX))]) [0, 1] rfl
                    have hD := hD.sub (ws' := [(h0, .inr (11, MO ma sv_thrown sv_length sv_nodes sv_many sv_directories sv_runsFrom sv_runs sv_read sv_wrong sv_isNamed sv_goes sv_goesSize sv_goesAt sv_targetParts sv_isRoot)), ((ma 0), .inl (cB, 400, .inl fX))]) [0, 1] (by decide +kernel) rfl
                    have hl := lv_sub hl [0, 1, 2, 3, 4, 5] rfl
                    exact kk123 _ 0 _ _ _ rfl ((by have h7 := i_cl (a := lq) (by omega); have h5 := i_cl (a := lp) (by omega); first | exact BoolIs.yes (by unfold mrk; first | (rw [if_pos (by omega), if_pos (by omega)]; decide) | (rw [if_pos (by omega), if_neg (by omega), if_pos ⟨by omega, by omega⟩]; decide)) | exact BoolIs.no (by unfold mrk; first | (rw [if_neg (by omega)]; decide) | (rw [if_pos (by omega), if_neg (by omega), if_neg (fun h8 => by have h9 := h8.2; omega)]; decide) | (rw [if_pos (by omega), if_neg (by omega), if_neg (fun h8 => by have h9 := h8.1; omega)]; decide) | (by_cases hq : ((fun j => fX (y.toInt.toNat + j)) lp.toNatClampNeg).toInt = 46 <;> first | (rw [if_pos hq, if_neg (by omega), if_neg (fun h8 => by have h9 := h8.1; omega)]; decide) | (rw [if_neg hq]; decide))))) hP hD hS hl
                  · skip
                    have g85_190 : v34.toInt = 2 := (i_eq rfl (by decide)).mp h_9
                    refine lv_aload_n hx hb d_DiscMakerModel_componentsOf_88 rfl (lv_at hl 0 rfl) ?_
                    refine va_get (D := D) (ci := 11) (v := .ref (ma 0)) (C := "DiscMakerModel") (T := F_DiscMakerModel) (N := 48) hx hb ht9 in_DiscMakerModel hown hK hP 0 rfl rfl 1 (by decide) (ht9 _ k1432) (fun _ h9 => h9) rfl d_DiscMakerModel_componentsOf_89 ?_
                    refine lv_iload_n hx hb d_DiscMakerModel_componentsOf_92 rfl (lv_at hl 2 rfl) ?_
                    refine lv_iload hx hb d_DiscMakerModel_componentsOf_93 (lv_at hl 4 rfl) ?_
                    refine lv_iadd hx hb d_DiscMakerModel_componentsOf_95 ?_
                    refine lv_topi (fun v35 e_v35 => ?_)
                    have t_v35 : v35.toInt = y.toInt + lp.toInt := by rw [e_v35]; exact i_add rfl rfl (by omega) (by omega)
                    refine va_bald hx hb hK hP 1 0 rfl rfl (vp_in_iff.mpr ⟨by omega, by omega⟩) d_DiscMakerModel_componentsOf_96 ?_
                    refine lv_topi (fun v36 e_v36 => ?_)
                    have w_v36 : v36.toInt = ((fun j => fX (y.toInt.toNat + j)) (lp.toNatClampNeg)).toInt := by have h7 := i_cl (a := v35) (by omega); have h5 := i_cl (a := lp) (by omega); (have h6 : v35.toNatClampNeg = y.toInt.toNat + (lp.toNatClampNeg) := by omega); show v36.toInt = (fX (y.toInt.toNat + (lp.toNatClampNeg))).toInt; rw [← h6, ← e_v36]
                    refine lv_bipush (v := 46) hx hb d_DiscMakerModel_componentsOf_97 (by decide) ?_
                    refine lv_icmp_ne (tgt := 122) hx hb d_DiscMakerModel_componentsOf_99 (by decide) (fun h_9 => ?_) (fun h_9 => ?_)
                    · skip
                      have g99_200 : ¬ v36.toInt = 46 := fun h8 => h_9 ((i_eq rfl (by decide)).mpr h8)
                      refine lv_iconst (v := 0) hx hb d_DiscMakerModel_componentsOf_122 (by decide) ?_
                      have hP := hP.sub (ws' := [(h0, .inr (11, MO ma sv_thrown sv_length sv_nodes sv_many sv_directories sv_runsFrom sv_runs sv_read sv_wrong sv_isNamed sv_goes sv_goesSize sv_goesAt sv_targetParts sv_isRoot)), ((ma 0), .inl (cB, 400, .inl fX))]) [0, 1] rfl
                      have hD := hD.sub (ws' := [(h0, .inr (11, MO ma sv_thrown sv_length sv_nodes sv_many sv_directories sv_runsFrom sv_runs sv_read sv_wrong sv_isNamed sv_goes sv_goesSize sv_goesAt sv_targetParts sv_isRoot)), ((ma 0), .inl (cB, 400, .inl fX))]) [0, 1] (by decide +kernel) rfl
                      have hl := lv_sub hl [0, 1, 2, 3, 4, 5] rfl
                      exact kk123 _ 0 _ _ _ rfl ((by have h7 := i_cl (a := lq) (by omega); have h5 := i_cl (a := lp) (by omega); first | exact BoolIs.yes (by unfold mrk; first | (rw [if_pos (by omega), if_pos (by omega)]; decide) | (rw [if_pos (by omega), if_neg (by omega), if_pos ⟨by omega, by omega⟩]; decide)) | exact BoolIs.no (by unfold mrk; first | (rw [if_neg (by omega)]; decide) | (rw [if_pos (by omega), if_neg (by omega), if_neg (fun h8 => by have h9 := h8.2; omega)]; decide) | (rw [if_pos (by omega), if_neg (by omega), if_neg (fun h8 => by have h9 := h8.1; omega)]; decide) | (by_cases hq : ((fun j => fX (y.toInt.toNat + j)) lp.toNatClampNeg).toInt = 46 <;> first | (rw [if_pos hq, if_neg (by omega), if_neg (fun h8 => by have h9 := h8.1; omega)]; decide) | (rw [if_neg hq]; decide))))) hP hD hS hl
                    · skip
                      have g99_200 : v36.toInt = 46 := (i_eq rfl (by decide)).mp h_9
                      refine lv_aload_n hx hb d_DiscMakerModel_componentsOf_102 rfl (lv_at hl 0 rfl) ?_
                      refine va_get (D := D) (ci := 11) (v := .ref (ma 0)) (C := "DiscMakerModel") (T := F_DiscMakerModel) (N := 48) hx hb ht9 in_DiscMakerModel hown hK hP 0 rfl rfl 1 (by decide) (ht9 _ k1432) (fun _ h9 => h9) rfl d_DiscMakerModel_componentsOf_103 ?_
                      refine lv_iload_n hx hb d_DiscMakerModel_componentsOf_106 rfl (lv_at hl 2 rfl) ?_
                      refine lv_iload hx hb d_DiscMakerModel_componentsOf_107 (lv_at hl 4 rfl) ?_
                      refine lv_iadd hx hb d_DiscMakerModel_componentsOf_109 ?_
                      refine lv_topi (fun v37 e_v37 => ?_)
                      have t_v37 : v37.toInt = y.toInt + lp.toInt := by rw [e_v37]; exact i_add rfl rfl (by omega) (by omega)
                      refine lv_iconst (v := 1) hx hb d_DiscMakerModel_componentsOf_110 (by decide) ?_
                      refine lv_iadd hx hb d_DiscMakerModel_componentsOf_111 ?_
                      refine lv_topi (fun v38 e_v38 => ?_)
                      have t_v38 : v38.toInt = v37.toInt + 1 := by rw [e_v38]; exact i_add rfl (by decide) (by omega) (by omega)
                      refine va_bald hx hb hK hP 1 0 rfl rfl (vp_in_iff.mpr ⟨by omega, by omega⟩) d_DiscMakerModel_componentsOf_112 ?_
                      refine lv_topi (fun v39 e_v39 => ?_)
                      have w_v39 : v39.toInt = ((fun j => fX (y.toInt.toNat + j)) (lp.toNatClampNeg + 1)).toInt := by have h7 := i_cl (a := v38) (by omega); have h5 := i_cl (a := lp) (by omega); (have h6 : v38.toNatClampNeg = y.toInt.toNat + (lp.toNatClampNeg + 1) := by omega); show v39.toInt = (fX (y.toInt.toNat + (lp.toNatClampNeg + 1))).toInt; rw [← h6, ← e_v39]
                      refine lv_bipush (v := 46) hx hb d_DiscMakerModel_componentsOf_113 (by decide) ?_
                      refine lv_icmp_ne (tgt := 122) hx hb d_DiscMakerModel_componentsOf_115 (by decide) (fun h_9 => ?_) (fun h_9 => ?_)
                      · skip
                        have g115_212 : ¬ v39.toInt = 46 := fun h8 => h_9 ((i_eq rfl (by decide)).mpr h8)
                        refine lv_iconst (v := 0) hx hb d_DiscMakerModel_componentsOf_122 (by decide) ?_
                        have hP := hP.sub (ws' := [(h0, .inr (11, MO ma sv_thrown sv_length sv_nodes sv_many sv_directories sv_runsFrom sv_runs sv_read sv_wrong sv_isNamed sv_goes sv_goesSize sv_goesAt sv_targetParts sv_isRoot)), ((ma 0), .inl (cB, 400, .inl fX))]) [0, 1] rfl
                        have hD := hD.sub (ws' := [(h0, .inr (11, MO ma sv_thrown sv_length sv_nodes sv_many sv_directories sv_runsFrom sv_runs sv_read sv_wrong sv_isNamed sv_goes sv_goesSize sv_goesAt sv_targetParts sv_isRoot)), ((ma 0), .inl (cB, 400, .inl fX))]) [0, 1] (by decide +kernel) rfl
                        have hl := lv_sub hl [0, 1, 2, 3, 4, 5] rfl
                        exact kk123 _ 0 _ _ _ rfl ((by have h7 := i_cl (a := lq) (by omega); have h5 := i_cl (a := lp) (by omega); first | exact BoolIs.yes (by unfold mrk; first | (rw [if_pos (by omega), if_pos (by omega)]; decide) | (rw [if_pos (by omega), if_neg (by omega), if_pos ⟨by omega, by omega⟩]; decide)) | exact BoolIs.no (by unfold mrk; first | (rw [if_neg (by omega)]; decide) | (rw [if_pos (by omega), if_neg (by omega), if_neg (fun h8 => by have h9 := h8.2; omega)]; decide) | (rw [if_pos (by omega), if_neg (by omega), if_neg (fun h8 => by have h9 := h8.1; omega)]; decide) | (by_cases hq : ((fun j => fX (y.toInt.toNat + j)) lp.toNatClampNeg).toInt = 46 <;> first | (rw [if_pos hq, if_neg (by omega), if_neg (fun h8 => by have h9 := h8.1; omega)]; decide) | (rw [if_neg hq]; decide))))) hP hD hS hl
                      · skip
                        have g115_212 : v39.toInt = 46 := (i_eq rfl (by decide)).mp h_9
                        refine lv_iconst (v := 1) hx hb d_DiscMakerModel_componentsOf_118 (by decide) ?_
                        refine lv_goto (tgt := 123) hx hb d_DiscMakerModel_componentsOf_119 (by decide) ?_
                        have hP := hP.sub (ws' := [(h0, .inr (11, MO ma sv_thrown sv_length sv_nodes sv_many sv_directories sv_runsFrom sv_runs sv_read sv_wrong sv_isNamed sv_goes sv_goesSize sv_goesAt sv_targetParts sv_isRoot)), ((ma 0), .inl (cB, 400, .inl fX))]) [0, 1] rfl
                        have hD := hD.sub (ws' := [(h0, .inr (11, MO ma sv_thrown sv_length sv_nodes sv_many sv_directories sv_runsFrom sv_runs sv_read sv_wrong sv_isNamed sv_goes sv_goesSize sv_goesAt sv_targetParts sv_isRoot)), ((ma 0), .inl (cB, 400, .inl fX))]) [0, 1] (by decide +kernel) rfl
                        have hl := lv_sub hl [0, 1, 2, 3, 4, 5] rfl
                        exact kk123 _ 1 _ _ _ rfl ((by have h7 := i_cl (a := lq) (by omega); have h5 := i_cl (a := lp) (by omega); first | exact BoolIs.yes (by unfold mrk; first | (rw [if_pos (by omega), if_pos (by omega)]; decide) | (rw [if_pos (by omega), if_neg (by omega), if_pos ⟨by omega, by omega⟩]; decide)) | exact BoolIs.no (by unfold mrk; first | (rw [if_neg (by omega)]; decide) | (rw [if_pos (by omega), if_neg (by omega), if_neg (fun h8 => by have h9 := h8.2; omega)]; decide) | (rw [if_pos (by omega), if_neg (by omega), if_neg (fun h8 => by have h9 := h8.1; omega)]; decide) | (by_cases hq : ((fun j => fX (y.toInt.toNat + j)) lp.toNatClampNeg).toInt = 46 <;> first | (rw [if_pos hq, if_neg (by omega), if_neg (fun h8 => by have h9 := h8.1; omega)]; decide) | (rw [if_neg hq]; decide))))) hP hD hS hl
                · skip
                  have g62_185 : v33.toInt = 1 := (i_eq rfl (by decide)).mp h_9
                  refine lv_aload_n hx hb d_DiscMakerModel_componentsOf_65 rfl (lv_at hl 0 rfl) ?_
                  refine va_get (D := D) (ci := 11) (v := .ref (ma 0)) (C := "DiscMakerModel") (T := F_DiscMakerModel) (N := 48) hx hb ht9 in_DiscMakerModel hown hK hP 0 rfl rfl 1 (by decide) (ht9 _ k1432) (fun _ h9 => h9) rfl d_DiscMakerModel_componentsOf_66 ?_
                  refine lv_iload_n hx hb d_DiscMakerModel_componentsOf_69 rfl (lv_at hl 2 rfl) ?_
                  refine lv_iload hx hb d_DiscMakerModel_componentsOf_70 (lv_at hl 4 rfl) ?_
                  refine lv_iadd hx hb d_DiscMakerModel_componentsOf_72 ?_
                  refine lv_topi (fun v40 e_v40 => ?_)
                  have t_v40 : v40.toInt = y.toInt + lp.toInt := by rw [e_v40]; exact i_add rfl rfl (by omega) (by omega)
                  refine va_bald hx hb hK hP 1 0 rfl rfl (vp_in_iff.mpr ⟨by omega, by omega⟩) d_DiscMakerModel_componentsOf_73 ?_
                  refine lv_topi (fun v41 e_v41 => ?_)
                  have w_v41 : v41.toInt = ((fun j => fX (y.toInt.toNat + j)) (lp.toNatClampNeg)).toInt := by have h7 := i_cl (a := v40) (by omega); have h5 := i_cl (a := lp) (by omega); (have h6 : v40.toNatClampNeg = y.toInt.toNat + (lp.toNatClampNeg) := by omega); show v41.toInt = (fX (y.toInt.toNat + (lp.toNatClampNeg))).toInt; rw [← h6, ← e_v41]
                  refine lv_bipush (v := 46) hx hb d_DiscMakerModel_componentsOf_74 (by decide) ?_
                  refine lv_icmp_eq (tgt := 118) hx hb d_DiscMakerModel_componentsOf_76 (by decide) (fun h_9 => ?_) (fun h_9 => ?_)
                  · skip
                    have g76_225 : v41.toInt = 46 := (i_eq rfl (by decide)).mp h_9
                    refine lv_iconst (v := 1) hx hb d_DiscMakerModel_componentsOf_118 (by decide) ?_
                    refine lv_goto (tgt := 123) hx hb d_DiscMakerModel_componentsOf_119 (by decide) ?_
                    have hP := hP.sub (ws' := [(h0, .inr (11, MO ma sv_thrown sv_length sv_nodes sv_many sv_directories sv_runsFrom sv_runs sv_read sv_wrong sv_isNamed sv_goes sv_goesSize sv_goesAt sv_targetParts sv_isRoot)), ((ma 0), .inl (cB, 400, .inl fX))]) [0, 1] rfl
                    have hD := hD.sub (ws' := [(h0, .inr (11, MO ma sv_thrown sv_length sv_nodes sv_many sv_directories sv_runsFrom sv_runs sv_read sv_wrong sv_isNamed sv_goes sv_goesSize sv_goesAt sv_targetParts sv_isRoot)), ((ma 0), .inl (cB, 400, .inl fX))]) [0, 1] (by decide +kernel) rfl
                    have hl := lv_sub hl [0, 1, 2, 3, 4, 5] rfl
                    exact kk123 _ 1 _ _ _ rfl ((by have h7 := i_cl (a := lq) (by omega); have h5 := i_cl (a := lp) (by omega); first | exact BoolIs.yes (by unfold mrk; first | (rw [if_pos (by omega), if_pos (by omega)]; decide) | (rw [if_pos (by omega), if_neg (by omega), if_pos ⟨by omega, by omega⟩]; decide)) | exact BoolIs.no (by unfold mrk; first | (rw [if_neg (by omega)]; decide) | (rw [if_pos (by omega), if_neg (by omega), if_neg (fun h8 => by have h9 := h8.2; omega)]; decide) | (rw [if_pos (by omega), if_neg (by omega), if_neg (fun h8 => by have h9 := h8.1; omega)]; decide) | (by_cases hq : ((fun j => fX (y.toInt.toNat + j)) lp.toNatClampNeg).toInt = 46 <;> first | (rw [if_pos hq, if_neg (by omega), if_neg (fun h8 => by have h9 := h8.1; omega)]; decide) | (rw [if_neg hq]; decide))))) hP hD hS hl
                  · skip
                    have g76_225 : ¬ v41.toInt = 46 := fun h8 => h_9 ((i_eq rfl (by decide)).mpr h8)
                    refine lv_iload hx hb d_DiscMakerModel_componentsOf_79 (lv_at hl 5 rfl) ?_
                    refine lv_iload hx hb d_DiscMakerModel_componentsOf_81 (lv_at hl 4 rfl) ?_
                    refine lv_isub hx hb d_DiscMakerModel_componentsOf_83 ?_
                    refine lv_topi (fun v42 e_v42 => ?_)
                    have t_v42 : v42.toInt = lq.toInt - lp.toInt := by rw [e_v42]; exact i_sub rfl rfl (by omega) (by omega)
                    refine lv_iconst (v := 2) hx hb d_DiscMakerModel_componentsOf_84 (by decide) ?_
                    refine lv_icmp_ne (tgt := 122) hx hb d_DiscMakerModel_componentsOf_85 (by decide) (fun h_9 => ?_) (fun h_9 => ?_)
                    · skip
                      have g85_233 : ¬ v42.toInt = 2 := fun h8 => h_9 ((i_eq rfl (by decide)).mpr h8)
                      refine lv_iconst (v := 0) hx hb d_DiscMakerModel_componentsOf_122 (by decide) ?_
                      have hP := hP.sub (ws' := [(h0, .inr (11, MO ma sv_thrown sv_length sv_nodes sv_many sv_directories sv_runsFrom sv_runs sv_read sv_wrong sv_isNamed sv_goes sv_goesSize sv_goesAt sv_targetParts sv_isRoot)), ((ma 0), .inl (cB, 400, .inl fX))]) [0, 1] rfl
                      have hD := hD.sub (ws' := [(h0, .inr (11, MO ma sv_thrown sv_length sv_nodes sv_many sv_directories sv_runsFrom sv_runs sv_read sv_wrong sv_isNamed sv_goes sv_goesSize sv_goesAt sv_targetParts sv_isRoot)), ((ma 0), .inl (cB, 400, .inl fX))]) [0, 1] (by decide +kernel) rfl
                      have hl := lv_sub hl [0, 1, 2, 3, 4, 5] rfl
                      exact kk123 _ 0 _ _ _ rfl ((by have h7 := i_cl (a := lq) (by omega); have h5 := i_cl (a := lp) (by omega); first | exact BoolIs.yes (by unfold mrk; first | (rw [if_pos (by omega), if_pos (by omega)]; decide) | (rw [if_pos (by omega), if_neg (by omega), if_pos ⟨by omega, by omega⟩]; decide)) | exact BoolIs.no (by unfold mrk; first | (rw [if_neg (by omega)]; decide) | (rw [if_pos (by omega), if_neg (by omega), if_neg (fun h8 => by have h9 := h8.2; omega)]; decide) | (rw [if_pos (by omega), if_neg (by omega), if_neg (fun h8 => by have h9 := h8.1; omega)]; decide) | (by_cases hq : ((fun j => fX (y.toInt.toNat + j)) lp.toNatClampNeg).toInt = 46 <;> first | (rw [if_pos hq, if_neg (by omega), if_neg (fun h8 => by have h9 := h8.1; omega)]; decide) | (rw [if_neg hq]; decide))))) hP hD hS hl
                    · skip
                      have g85_233 : v42.toInt = 2 := (i_eq rfl (by decide)).mp h_9
                      refine lv_aload_n hx hb d_DiscMakerModel_componentsOf_88 rfl (lv_at hl 0 rfl) ?_
                      refine va_get (D := D) (ci := 11) (v := .ref (ma 0)) (C := "DiscMakerModel") (T := F_DiscMakerModel) (N := 48) hx hb ht9 in_DiscMakerModel hown hK hP 0 rfl rfl 1 (by decide) (ht9 _ k1432) (fun _ h9 => h9) rfl d_DiscMakerModel_componentsOf_89 ?_
                      refine lv_iload_n hx hb d_DiscMakerModel_componentsOf_92 rfl (lv_at hl 2 rfl) ?_
                      refine lv_iload hx hb d_DiscMakerModel_componentsOf_93 (lv_at hl 4 rfl) ?_
                      refine lv_iadd hx hb d_DiscMakerModel_componentsOf_95 ?_
                      refine lv_topi (fun v43 e_v43 => ?_)
                      have t_v43 : v43.toInt = y.toInt + lp.toInt := by rw [e_v43]; exact i_add rfl rfl (by omega) (by omega)
                      refine va_bald hx hb hK hP 1 0 rfl rfl (vp_in_iff.mpr ⟨by omega, by omega⟩) d_DiscMakerModel_componentsOf_96 ?_
                      refine lv_topi (fun v44 e_v44 => ?_)
                      have w_v44 : v44.toInt = ((fun j => fX (y.toInt.toNat + j)) (lp.toNatClampNeg)).toInt := by have h7 := i_cl (a := v43) (by omega); have h5 := i_cl (a := lp) (by omega); (have h6 : v43.toNatClampNeg = y.toInt.toNat + (lp.toNatClampNeg) := by omega); show v44.toInt = (fX (y.toInt.toNat + (lp.toNatClampNeg))).toInt; rw [← h6, ← e_v44]
                      refine lv_bipush (v := 46) hx hb d_DiscMakerModel_componentsOf_97 (by decide) ?_
                      refine lv_icmp_ne (tgt := 122) hx hb d_DiscMakerModel_componentsOf_99 (by decide) (fun h_9 => ?_) (fun h_9 => ?_)
                      · skip
                        have g99_243 : ¬ v44.toInt = 46 := fun h8 => h_9 ((i_eq rfl (by decide)).mpr h8)
                        refine lv_iconst (v := 0) hx hb d_DiscMakerModel_componentsOf_122 (by decide) ?_
                        have hP := hP.sub (ws' := [(h0, .inr (11, MO ma sv_thrown sv_length sv_nodes sv_many sv_directories sv_runsFrom sv_runs sv_read sv_wrong sv_isNamed sv_goes sv_goesSize sv_goesAt sv_targetParts sv_isRoot)), ((ma 0), .inl (cB, 400, .inl fX))]) [0, 1] rfl
                        have hD := hD.sub (ws' := [(h0, .inr (11, MO ma sv_thrown sv_length sv_nodes sv_many sv_directories sv_runsFrom sv_runs sv_read sv_wrong sv_isNamed sv_goes sv_goesSize sv_goesAt sv_targetParts sv_isRoot)), ((ma 0), .inl (cB, 400, .inl fX))]) [0, 1] (by decide +kernel) rfl
                        have hl := lv_sub hl [0, 1, 2, 3, 4, 5] rfl
                        exact kk123 _ 0 _ _ _ rfl ((by have h7 := i_cl (a := lq) (by omega); have h5 := i_cl (a := lp) (by omega); first | exact BoolIs.yes (by unfold mrk; first | (rw [if_pos (by omega), if_pos (by omega)]; decide) | (rw [if_pos (by omega), if_neg (by omega), if_pos ⟨by omega, by omega⟩]; decide)) | exact BoolIs.no (by unfold mrk; first | (rw [if_neg (by omega)]; decide) | (rw [if_pos (by omega), if_neg (by omega), if_neg (fun h8 => by have h9 := h8.2; omega)]; decide) | (rw [if_pos (by omega), if_neg (by omega), if_neg (fun h8 => by have h9 := h8.1; omega)]; decide) | (by_cases hq : ((fun j => fX (y.toInt.toNat + j)) lp.toNatClampNeg).toInt = 46 <;> first | (rw [if_pos hq, if_neg (by omega), if_neg (fun h8 => by have h9 := h8.1; omega)]; decide) | (rw [if_neg hq]; decide))))) hP hD hS hl
                      · skip
                        have g99_243 : v44.toInt = 46 := (i_eq rfl (by decide)).mp h_9
                        refine lv_aload_n hx hb d_DiscMakerModel_componentsOf_102 rfl (lv_at hl 0 rfl) ?_
                        refine va_get (D := D) (ci := 11) (v := .ref (ma 0)) (C := "DiscMakerModel") (T := F_DiscMakerModel) (N := 48) hx hb ht9 in_DiscMakerModel hown hK hP 0 rfl rfl 1 (by decide) (ht9 _ k1432) (fun _ h9 => h9) rfl d_DiscMakerModel_componentsOf_103 ?_
                        refine lv_iload_n hx hb d_DiscMakerModel_componentsOf_106 rfl (lv_at hl 2 rfl) ?_
                        refine lv_iload hx hb d_DiscMakerModel_componentsOf_107 (lv_at hl 4 rfl) ?_
                        refine lv_iadd hx hb d_DiscMakerModel_componentsOf_109 ?_
                        refine lv_topi (fun v45 e_v45 => ?_)
                        have t_v45 : v45.toInt = y.toInt + lp.toInt := by rw [e_v45]; exact i_add rfl rfl (by omega) (by omega)
                        refine lv_iconst (v := 1) hx hb d_DiscMakerModel_componentsOf_110 (by decide) ?_
                        refine lv_iadd hx hb d_DiscMakerModel_componentsOf_111 ?_
                        refine lv_topi (fun v46 e_v46 => ?_)
                        have t_v46 : v46.toInt = v45.toInt + 1 := by rw [e_v46]; exact i_add rfl (by decide) (by omega) (by omega)
                        refine va_bald hx hb hK hP 1 0 rfl rfl (vp_in_iff.mpr ⟨by omega, by omega⟩) d_DiscMakerModel_componentsOf_112 ?_
                        refine lv_topi (fun v47 e_v47 => ?_)
                        have w_v47 : v47.toInt = ((fun j => fX (y.toInt.toNat + j)) (lp.toNatClampNeg + 1)).toInt := by have h7 := i_cl (a := v46) (by omega); have h5 := i_cl (a := lp) (by omega); (have h6 : v46.toNatClampNeg = y.toInt.toNat + (lp.toNatClampNeg + 1) := by omega); show v47.toInt = (fX (y.toInt.toNat + (lp.toNatClampNeg + 1))).toInt; rw [← h6, ← e_v47]
                        refine lv_bipush (v := 46) hx hb d_DiscMakerModel_componentsOf_113 (by decide) ?_
                        refine lv_icmp_ne (tgt := 122) hx hb d_DiscMakerModel_componentsOf_115 (by decide) (fun h_9 => ?_) (fun h_9 => ?_)
                        · skip
                          have g115_255 : ¬ v47.toInt = 46 := fun h8 => h_9 ((i_eq rfl (by decide)).mpr h8)
                          refine lv_iconst (v := 0) hx hb d_DiscMakerModel_componentsOf_122 (by decide) ?_
                          have hP := hP.sub (ws' := [(h0, .inr (11, MO ma sv_thrown sv_length sv_nodes sv_many sv_directories sv_runsFrom sv_runs sv_read sv_wrong sv_isNamed sv_goes sv_goesSize sv_goesAt sv_targetParts sv_isRoot)), ((ma 0), .inl (cB, 400, .inl fX))]) [0, 1] rfl
                          have hD := hD.sub (ws' := [(h0, .inr (11, MO ma sv_thrown sv_length sv_nodes sv_many sv_directories sv_runsFrom sv_runs sv_read sv_wrong sv_isNamed sv_goes sv_goesSize sv_goesAt sv_targetParts sv_isRoot)), ((ma 0), .inl (cB, 400, .inl fX))]) [0, 1] (by decide +kernel) rfl
                          have hl := lv_sub hl [0, 1, 2, 3, 4, 5] rfl
                          exact kk123 _ 0 _ _ _ rfl ((by have h7 := i_cl (a := lq) (by omega); have h5 := i_cl (a := lp) (by omega); first | exact BoolIs.yes (by unfold mrk; first | (rw [if_pos (by omega), if_pos (by omega)]; decide) | (rw [if_pos (by omega), if_neg (by omega), if_pos ⟨by omega, by omega⟩]; decide)) | exact BoolIs.no (by unfold mrk; first | (rw [if_neg (by omega)]; decide) | (rw [if_pos (by omega), if_neg (by omega), if_neg (fun h8 => by have h9 := h8.2; omega)]; decide) | (rw [if_pos (by omega), if_neg (by omega), if_neg (fun h8 => by have h9 := h8.1; omega)]; decide) | (by_cases hq : ((fun j => fX (y.toInt.toNat + j)) lp.toNatClampNeg).toInt = 46 <;> first | (rw [if_pos hq, if_neg (by omega), if_neg (fun h8 => by have h9 := h8.1; omega)]; decide) | (rw [if_neg hq]; decide))))) hP hD hS hl
                        · skip
                          have g115_255 : v47.toInt = 46 := (i_eq rfl (by decide)).mp h_9
                          refine lv_iconst (v := 1) hx hb d_DiscMakerModel_componentsOf_118 (by decide) ?_
                          refine lv_goto (tgt := 123) hx hb d_DiscMakerModel_componentsOf_119 (by decide) ?_
                          have hP := hP.sub (ws' := [(h0, .inr (11, MO ma sv_thrown sv_length sv_nodes sv_many sv_directories sv_runsFrom sv_runs sv_read sv_wrong sv_isNamed sv_goes sv_goesSize sv_goesAt sv_targetParts sv_isRoot)), ((ma 0), .inl (cB, 400, .inl fX))]) [0, 1] rfl
                          have hD := hD.sub (ws' := [(h0, .inr (11, MO ma sv_thrown sv_length sv_nodes sv_many sv_directories sv_runsFrom sv_runs sv_read sv_wrong sv_isNamed sv_goes sv_goesSize sv_goesAt sv_targetParts sv_isRoot)), ((ma 0), .inl (cB, 400, .inl fX))]) [0, 1] (by decide +kernel) rfl
                          have hl := lv_sub hl [0, 1, 2, 3, 4, 5] rfl
                          exact kk123 _ 1 _ _ _ rfl ((by have h7 := i_cl (a := lq) (by omega); have h5 := i_cl (a := lp) (by omega); first | exact BoolIs.yes (by unfold mrk; first | (rw [if_pos (by omega), if_pos (by omega)]; decide) | (rw [if_pos (by omega), if_neg (by omega), if_pos ⟨by omega, by omega⟩]; decide)) | exact BoolIs.no (by unfold mrk; first | (rw [if_neg (by omega)]; decide) | (rw [if_pos (by omega), if_neg (by omega), if_neg (fun h8 => by have h9 := h8.2; omega)]; decide) | (rw [if_pos (by omega), if_neg (by omega), if_neg (fun h8 => by have h9 := h8.1; omega)]; decide) | (by_cases hq : ((fun j => fX (y.toInt.toNat + j)) lp.toNatClampNeg).toInt = 46 <;> first | (rw [if_pos hq, if_neg (by omega), if_neg (fun h8 => by have h9 := h8.1; omega)]; decide) | (rw [if_neg hq]; decide))))) hP hD hS hl
            · skip
              have g47_144 : ¬ v25.toInt = 47 := fun h8 => h_9 ((i_eq rfl (by decide)).mpr h8)
              obtain ⟨v48, e_v48⟩ : ∃ z : Int32, z = lq + 1 := ⟨_, rfl⟩
              refine lv_iinc (v := v48) hx hb d_DiscMakerModel_componentsOf_50 hl (k := 5) rfl e_v48.symm (by decide +kernel) rfl (fun ls hl => ?_)
              have t_v48 : v48.toInt = lq.toInt + 1 := by rw [e_v48]; exact i_add rfl (by decide) (by omega) (by omega)
              have hl : lv_has ls 7 [(5, .int v48), (0, .ref h0), (1, .int x), (2, .int y), (3, .int al), (4, .int lp)] := hl
              refine lv_goto (tgt := 30) hx hb d_DiscMakerModel_componentsOf_53 (by decide) ?_
              have hP := hP.sub (ws' := [(h0, .inr (11, MO ma sv_thrown sv_length sv_nodes sv_many sv_directories sv_runsFrom sv_runs sv_read sv_wrong sv_isNamed sv_goes sv_goesSize sv_goesAt sv_targetParts sv_isRoot)), ((ma 0), .inl (cB, 400, .inl fX))]) [0, 1] rfl
              have hD := hD.sub (ws' := [(h0, .inr (11, MO ma sv_thrown sv_length sv_nodes sv_many sv_directories sv_runsFrom sv_runs sv_read sv_wrong sv_isNamed sv_goes sv_goesSize sv_goesAt sv_targetParts sv_isRoot)), ((ma 0), .inl (cB, 400, .inl fX))]) [0, 1] (by decide +kernel) rfl
              have hl := lv_sub hl [1, 2, 3, 4, 5, 0] rfl
              exact ih30 _ (by first | omega | (dsimp only; omega)) v48 _ _ _ rfl ((by (try dsimp only); first | assumption | omega | trivial)) ((by have h7 := i_cl (a := lq) (by omega); have h6 := i_cl (a := v48) (by omega); (have hm : ¬ (lq.toNatClampNeg = x.toInt.toNat ∨ ((fun j => fX (y.toInt.toNat + j)) lq.toNatClampNeg).toInt = 47) := by omega); rw [show v48.toNatClampNeg = lq.toNatClampNeg + 1 by omega, cpF_miss hm]; exact f6)) ((by have h7 := i_cl (a := lq) (by omega); have h6 := i_cl (a := v48) (by omega); (have hm : ¬ (lq.toNatClampNeg = x.toInt.toNat ∨ ((fun j => fX (y.toInt.toNat + j)) lq.toNatClampNeg).toInt = 47) := by omega); rw [show v48.toNatClampNeg = lq.toNatClampNeg + 1 by omega, cpT_miss hm]; exact f7)) hP hD hS hl
        · skip
          intro kk30
          have hP := hP.sub (ws' := [(h0, .inr (11, MO ma sv_thrown sv_length sv_nodes sv_many sv_directories sv_runsFrom sv_runs sv_read sv_wrong sv_isNamed sv_goes sv_goesSize sv_goesAt sv_targetParts sv_isRoot)), ((ma 0), .inl (cB, 400, .inl fX))]) [0, 1] rfl
          have hD := hD.sub (ws' := [(h0, .inr (11, MO ma sv_thrown sv_length sv_nodes sv_many sv_directories sv_runsFrom sv_runs sv_read sv_wrong sv_isNamed sv_goes sv_goesSize sv_goesAt sv_targetParts sv_isRoot)), ((ma 0), .inl (cB, 400, .inl fX))]) [0, 1] (by decide +kernel) rfl
          have hl := lv_sub hl [1, 2, 3, 4, 5, 0] rfl
          exact kk30 _ lp _ _ _ rfl ((by (try dsimp only); first | assumption | omega | trivial)) (f4) (rfl) hP hD hS hl
    · skip
      intro kk20
      have hP := hP.sub (ws' := [(h0, .inr (11, MO ma sv_thrown sv_length sv_nodes sv_many sv_directories sv_runsFrom sv_runs sv_read sv_wrong sv_isNamed sv_goes sv_goesSize sv_goesAt sv_targetParts sv_isRoot)), ((ma 0), .inl (cB, 400, .inl fX))]) [0, 1] rfl
      have hD := hD.sub (ws' := [(h0, .inr (11, MO ma sv_thrown sv_length sv_nodes sv_many sv_directories sv_runsFrom sv_runs sv_read sv_wrong sv_isNamed sv_goes sv_goesSize sv_goesAt sv_targetParts sv_isRoot)), ((ma 0), .inl (cB, 400, .inl fX))]) [0, 1] (by decide +kernel) rfl
      have hl := lv_sub hl [2, 3, 4, 1, 0] rfl
      exact kk20 _ 0 0 _ _ _ rfl ((by (try dsimp only); first | assumption | omega | trivial)) ((by (try dsimp only); first | assumption | omega | trivial)) ((by rw [show (0 : Int32).toNatClampNeg = 0 by decide]; rfl)) ((by rw [show (0 : Int32).toNatClampNeg = 0 by decide]; simp only [cpT]; unfold t0F; first | (rw [if_pos ⟨by omega, by omega⟩]; omega) | (rw [if_neg (fun h8 => by have h9 := h8.2; omega)]; omega))) hP hD hS hl
  · skip
    have g8_6 : v1.toInt = 47 := (i_eq rfl (by decide)).mp h_9
    refine lv_iconst (v := 2) hx hb d_DiscMakerModel_componentsOf_11 (by decide) ?_
    refine lv_goto (tgt := 16) hx hb d_DiscMakerModel_componentsOf_12 (by decide) ?_
    refine lv_istore_n hx hb d_DiscMakerModel_componentsOf_16 rfl hl (by decide) rfl (fun ls hl => ?_)
    have hl : lv_has ls 7 [(3, .int 2), (0, .ref h0), (1, .int x), (2, .int y)] := hl
    refine lv_iconst (v := 0) hx hb d_DiscMakerModel_componentsOf_17 (by decide) ?_
    refine lv_istore hx hb d_DiscMakerModel_componentsOf_18 hl (by decide) rfl (fun ls hl => ?_)
    have hl : lv_has ls 7 [(4, .int 0), (3, .int 2), (0, .ref h0), (1, .int x), (2, .int y)] := hl
    refine zz_labM (B := fun (lk : Nat) (K : Heap → List Loc → Array Slot → List Value → Prop) => ∀ (al : Int32) (lp : Int32) (H : Heap) (locs : List Loc) (ls : Array Slot), lk = (x.toInt + 1 - lp.toInt).toNat → (0 ≤ lp.toInt ∧ lp.toInt ≤ x.toInt + 1) → (0 ≤ al.toInt ∧ al.toInt ≤ 2 + 3 * lp.toInt) → (cpF (fun j => fX (y.toInt.toNat + j)) x.toInt.toNat lp.toNatClampNeg = lp.toNatClampNeg) → (al.toInt = t0F (fun j => fX (y.toInt.toNat + j)) x.toInt.toNat + cpT (fun j => fX (y.toInt.toNat + j)) x.toInt.toNat lp.toNatClampNeg) → va_P D CL [(h0, .inr (11, MO ma sv_thrown sv_length sv_nodes sv_many sv_directories sv_runsFrom sv_runs sv_read sv_wrong sv_isNamed sv_goes sv_goesSize sv_goesAt sv_targetParts sv_isRoot)), ((ma 0), .inl (cB, 400, .inl fX))] H → va_D A [(h0, .inr (11, MO ma sv_thrown sv_length sv_nodes sv_many sv_directories sv_runsFrom sv_runs sv_read sv_wrong sv_isNamed sv_goes sv_goesSize sv_goesAt sv_targetParts sv_isRoot)), ((ma 0), .inl (cB, 400, .inl fX))] → va_S A s.heap H locs → lv_has ls 7 [(0, .ref h0), (1, .int x), (2, .int y), (3, .int al), (4, .int lp)] → K H locs ls []) 20 ?_ ?_
    · skip
      intro lk ih20 al lp H locs ls hm20 f1 f2 f4 f5 hP hD hS hl
      refine lv_iload hx hb d_DiscMakerModel_componentsOf_20 (lv_at hl 4 rfl) ?_
      refine lv_iload_n hx hb d_DiscMakerModel_componentsOf_22 rfl (lv_at hl 1 rfl) ?_
      refine lv_icmp_ge (tgt := 160) hx hb d_DiscMakerModel_componentsOf_23 (by decide) (fun h_9 => ?_) (fun h_9 => ?_)
      · skip
        have g23_271 : x.toInt ≤ lp.toInt := (i_le rfl rfl).mp h_9
        refine lv_iload_n hx hb d_DiscMakerModel_componentsOf_160 rfl (lv_at hl 3 rfl) ?_
        have hP9 := hP.sub (ws' := [(h0, .inr (11, MO ma sv_thrown sv_length sv_nodes sv_many sv_directories sv_runsFrom sv_runs sv_read sv_wrong sv_isNamed sv_goes sv_goesSize sv_goesAt sv_targetParts sv_isRoot)), ((ma 0), .inl (cB, 400, .inl fX))]) [0, 1] rfl
        have hD9 := hD.sub (ws' := [(h0, .inr (11, MO ma sv_thrown sv_length sv_nodes sv_many sv_directories sv_runsFrom sv_runs sv_read sv_wrong sv_isNamed sv_goes sv_goesSize sv_goesAt sv_targetParts sv_isRoot)), ((ma 0), .inl (cB, 400, .inl fX))]) [0, 1] (by decide +kernel) rfl
        exact W.iret (v := al) hx hb hr (fun t ht hW => ⟨⟨al, (), rfl, (by (try dsimp only); have h5 := i_cl (a := lp) (by omega); unfold compS; rcases (show lp.toInt = x.toInt + 1 ∨ lp.toInt = x.toInt by omega) with h8 | h8 <;> first | (rw [show x.toInt.toNat + 1 = lp.toNatClampNeg by omega]; exact f5) | ((have h9 : x.toInt.toNat = lp.toNatClampNeg := by omega); rw [← h9] at f4 f5; rw [cpT_hit (i := x.toInt.toNat) (Or.inl rfl), f4, csz_0]; omega)), by rw [ht]; exact hP9, hD9⟩, hS.F ht⟩) hS.2.2 d_DiscMakerModel_componentsOf_161
      · skip
        have g23_271 : ¬ x.toInt ≤ lp.toInt := fun h8 => h_9 ((i_le rfl rfl).mpr h8)
        refine lv_iload hx hb d_DiscMakerModel_componentsOf_26 (lv_at hl 4 rfl) ?_
        refine lv_istore hx hb d_DiscMakerModel_componentsOf_28 hl (by decide) rfl (fun ls hl => ?_)
        have hl : lv_has ls 7 [(5, .int lp), (0, .ref h0), (1, .int x), (2, .int y), (3, .int al), (4, .int lp)] := hl
        refine zz_labM (B := fun (lk : Nat) (K : Heap → List Loc → Array Slot → List Value → Prop) => ∀ (lq : Int32) (H : Heap) (locs : List Loc) (ls : Array Slot), lk = (x.toInt - lq.toInt).toNat → (lp.toInt ≤ lq.toInt ∧ lq.toInt ≤ x.toInt) → (cpF (fun j => fX (y.toInt.toNat + j)) x.toInt.toNat lq.toNatClampNeg = lp.toNatClampNeg) → (cpT (fun j => fX (y.toInt.toNat + j)) x.toInt.toNat lq.toNatClampNeg = cpT (fun j => fX (y.toInt.toNat + j)) x.toInt.toNat lp.toNatClampNeg) → va_P D CL [(h0, .inr (11, MO ma sv_thrown sv_length sv_nodes sv_many sv_directories sv_runsFrom sv_runs sv_read sv_wrong sv_isNamed sv_goes sv_goesSize sv_goesAt sv_targetParts sv_isRoot)), ((ma 0), .inl (cB, 400, .inl fX))] H → va_D A [(h0, .inr (11, MO ma sv_thrown sv_length sv_nodes sv_many sv_directories sv_runsFrom sv_runs sv_read sv_wrong sv_isNamed sv_goes sv_goesSize sv_goesAt sv_targetParts sv_isRoot)), ((ma 0), .inl (cB, 400, .inl fX))] → va_S A s.heap H locs → lv_has ls 7 [(0, .ref h0), (1, .int x), (2, .int y), (3, .int al), (4, .int lp), (5, .int lq)] → K H locs ls []) 30 ?_ ?_
        · skip
          intro lk ih30 lq H locs ls hm30 f3 f6 f7 hP hD hS hl
          refine lv_iload hx hb d_DiscMakerModel_componentsOf_30 (lv_at hl 5 rfl) ?_
          refine lv_iload_n hx hb d_DiscMakerModel_componentsOf_32 rfl (lv_at hl 1 rfl) ?_
          refine lv_icmp_ge (tgt := 56) hx hb d_DiscMakerModel_componentsOf_33 (by decide) (fun h_9 => ?_) (fun h_9 => ?_)
          · skip
            have g33_278 : x.toInt ≤ lq.toInt := (i_le rfl rfl).mp h_9
            refine zz_labM (B := fun (lk : Nat) (K : Heap → List Loc → Array Slot → List Value → Prop) => ∀ (dt : Int32) (H : Heap) (locs : List Loc) (ls : Array Slot), lk = 0 → (BoolIs dt (mrk (fun j => fX (y.toInt.toNat + j)) lp.toNatClampNeg lq.toNatClampNeg ≠ 0)) → va_P D CL [(h0, .inr (11, MO ma sv_thrown sv_length sv_nodes sv_many sv_directories sv_runsFrom sv_runs sv_read sv_wrong sv_isNamed sv_goes sv_goesSize sv_goesAt sv_targetParts sv_isRoot)), ((ma 0), .inl (cB, 400, .inl fX))] H → va_D A [(h0, .inr (11, MO ma sv_thrown sv_length sv_nodes sv_many sv_directories sv_runsFrom sv_runs sv_read sv_wrong sv_isNamed sv_goes sv_goesSize sv_goesAt sv_targetParts sv_isRoot)), ((ma 0), .inl (cB, 400, .inl fX))] → va_S A s.heap H locs → lv_has ls 7 [(0, .ref h0), (1, .int x), (2, .int y), (3, .int al), (4, .int lp), (5, .int lq)] → K H locs ls [.int dt]) 123 ?_ ?_
            · skip
              intro lk ih123 dt H locs ls hm123 f9 hP hD hS hl
              refine lv_istore hx hb d_DiscMakerModel_componentsOf_123 hl (by decide) rfl (fun ls hl => ?_)
              have hl : lv_has ls 7 [(6, .int dt), (0, .ref h0), (1, .int x), (2, .int y), (3, .int al), (4, .int lp), (5, .int lq)] := hl
              refine lv_iload hx hb d_DiscMakerModel_componentsOf_125 (lv_at hl 6 rfl) ?_
              refine lv_iload hx hb d_DiscMakerModel_componentsOf_127 (lv_at hl 5 rfl) ?_
              refine lv_icmp_le (tgt := 151) hx hb d_DiscMakerModel_componentsOf_129 (by decide) (fun h_9 => ?_) (fun h_9 => ?_)
              · skip
                have g129_282 : lq.toInt ≤ lp.toInt := (i_le rfl rfl).mp h_9
                refine lv_iload hx hb d_DiscMakerModel_componentsOf_151 (lv_at hl 6 rfl) ?_
                refine lv_iconst (v := 1) hx hb d_DiscMakerModel_componentsOf_153 (by decide) ?_
                refine lv_iadd hx hb d_DiscMakerModel_componentsOf_154 ?_
                refine lv_topi (fun v49 e_v49 => ?_)
                have t_v49 : v49.toInt = lq.toInt + 1 := by rw [e_v49]; exact i_add rfl (by decide) (by omega) (by omega)
                refine lv_istore hx hb d_DiscMakerModel_componentsOf_155 hl (by decide) rfl (fun ls hl => ?_)
                have hl : lv_has ls 7 [(4, .int v49), (6, .int dt), (0, .ref h0), (1, .int x), (2, .int y), (3, .int al), (5, .int lq)] := hl
                refine lv_goto (tgt := 20) hx hb d_DiscMakerModel_componentsOf_157 (by decide) ?_
                have hP := hP.sub (ws' := [(h0, .inr (11, MO ma sv_thrown sv_length sv_nodes sv_many sv_directories sv_runsFrom sv_runs sv_read sv_wrong sv_isNamed sv_goes sv_goesSize sv_goesAt sv_targetParts sv_isRoot)), ((ma 0), .inl (cB, 400, .inl fX))]) [0, 1] rfl
                have hD := hD.sub (ws' := [(h0, .inr (11, MO ma sv_thrown sv_length sv_nodes sv_many sv_directories sv_runsFrom sv_runs sv_read sv_wrong sv_isNamed sv_goes sv_goesSize sv_goesAt sv_targetParts sv_isRoot)), ((ma 0), .inl (cB, 400, .inl fX))]) [0, 1] (by decide +kernel) rfl
                have hl := lv_sub hl [2, 3, 4, 5, 0] rfl
                exact ih20 _ (by first | omega | (dsimp only; omega)) al v49 _ _ _ rfl ((by (try dsimp only); first | assumption | omega | trivial)) ((by (try dsimp only); first | assumption | omega | trivial)) ((by have h7 := i_cl (a := lq) (by omega); have h6 := i_cl (a := v49) (by omega); have h5 := i_cl (a := lp) (by omega); (have hm : lq.toNatClampNeg = x.toInt.toNat ∨ ((fun j => fX (y.toInt.toNat + j)) lq.toNatClampNeg).toInt = 47 := by omega); rw [show v49.toNatClampNeg = lq.toNatClampNeg + 1 by omega, cpF_hit hm])) ((by have h7 := i_cl (a := lq) (by omega); have h6 := i_cl (a := v49) (by omega); have h5 := i_cl (a := lp) (by omega); (have hm : lq.toNatClampNeg = x.toInt.toNat ∨ ((fun j => fX (y.toInt.toNat + j)) lq.toNatClampNeg).toInt = 47 := by omega); rw [show v49.toNatClampNeg = lq.toNatClampNeg + 1 by omega, cpT_hit hm, f6, f7]; unfold csz; first | (rw [if_neg (by omega)]; omega) | (rw [if_pos (by omega)]; first | (rw [if_pos (Decidable.not_not.mp (f9.f (by omega)))]; omega) | (rw [if_neg (f9.t (by omega))]; omega)))) hP hD hS hl
              · skip
                have g129_282 : ¬ lq.toInt ≤ lp.toInt := fun h8 => h_9 ((i_le rfl rfl).mpr h8)
                refine lv_iload_n hx hb d_DiscMakerModel_componentsOf_132 rfl (lv_at hl 4 rfl) ?_
                refine lv_iload hx hb d_DiscMakerModel_componentsOf_133 (lv_at hl 0 rfl) ?_
                refine lv_if_eq (tgt := 142) hx hb d_DiscMakerModel_componentsOf_135 (by decide) (fun h_9 => ?_) (fun h_9 => ?_)
                · skip
                  have g135_291 : dt.toInt = 0 := (i_eq rfl (by decide)).mp h_9
                  refine lv_iconst (v := 2) hx hb d_DiscMakerModel_componentsOf_142 (by decide) ?_
                  refine lv_iload hx hb d_DiscMakerModel_componentsOf_143 (lv_at hl 6 rfl) ?_
                  refine lv_iadd hx hb d_DiscMakerModel_componentsOf_145 ?_
                  refine lv_topi (fun v50 e_v50 => ?_)
                  have t_v50 : v50.toInt = 2 + lq.toInt := by rw [e_v50]; exact i_add (by decide) rfl (by omega) (by omega)
                  refine lv_iload hx hb d_DiscMakerModel_componentsOf_146 (lv_at hl 5 rfl) ?_
                  refine lv_isub hx hb d_DiscMakerModel_componentsOf_148 ?_
                  refine lv_topi (fun v51 e_v51 => ?_)
                  have t_v51 : v51.toInt = v50.toInt - lp.toInt := by rw [e_v51]; exact i_sub rfl rfl (by omega) (by omega)
                  refine lv_iadd hx hb d_DiscMakerModel_componentsOf_149 ?_
                  refine lv_topi (fun v52 e_v52 => ?_)
                  have t_v52 : v52.toInt = al.toInt + v51.toInt := by rw [e_v52]; exact i_add rfl rfl (by omega) (by omega)
                  refine lv_istore_n hx hb d_DiscMakerModel_componentsOf_150 rfl hl (by decide) rfl (fun ls hl => ?_)
                  have hl : lv_has ls 7 [(3, .int v52), (6, .int dt), (0, .ref h0), (1, .int x), (2, .int y), (4, .int lp), (5, .int lq)] := hl
                  refine lv_iload hx hb d_DiscMakerModel_componentsOf_151 (lv_at hl 6 rfl) ?_
                  refine lv_iconst (v := 1) hx hb d_DiscMakerModel_componentsOf_153 (by decide) ?_
                  refine lv_iadd hx hb d_DiscMakerModel_componentsOf_154 ?_
                  refine lv_topi (fun v53 e_v53 => ?_)
                  have t_v53 : v53.toInt = lq.toInt + 1 := by rw [e_v53]; exact i_add rfl (by decide) (by omega) (by omega)
                  refine lv_istore hx hb d_DiscMakerModel_componentsOf_155 hl (by decide) rfl (fun ls hl => ?_)
                  have hl : lv_has ls 7 [(4, .int v53), (3, .int v52), (6, .int dt), (0, .ref h0), (1, .int x), (2, .int y), (5, .int lq)] := hl
                  refine lv_goto (tgt := 20) hx hb d_DiscMakerModel_componentsOf_157 (by decide) ?_
                  have hP := hP.sub (ws' := [(h0, .inr (11, MO ma sv_thrown sv_length sv_nodes sv_many sv_directories sv_runsFrom sv_runs sv_read sv_wrong sv_isNamed sv_goes sv_goesSize sv_goesAt sv_targetParts sv_isRoot)), ((ma 0), .inl (cB, 400, .inl fX))]) [0, 1] rfl
                  have hD := hD.sub (ws' := [(h0, .inr (11, MO ma sv_thrown sv_length sv_nodes sv_many sv_directories sv_runsFrom sv_runs sv_read sv_wrong sv_isNamed sv_goes sv_goesSize sv_goesAt sv_targetParts sv_isRoot)), ((ma 0), .inl (cB, 400, .inl fX))]) [0, 1] (by decide +kernel) rfl
                  have hl := lv_sub hl [3, 4, 5, 1, 0] rfl
                  exact ih20 _ (by first | omega | (dsimp only; omega)) v52 v53 _ _ _ rfl ((by (try dsimp only); first | assumption | omega | trivial)) ((by (try dsimp only); first | assumption | omega | trivial)) ((by have h7 := i_cl (a := lq) (by omega); have h6 := i_cl (a := v53) (by omega); have h5 := i_cl (a := lp) (by omega); (have hm : lq.toNatClampNeg = x.toInt.toNat ∨ ((fun j => fX (y.toInt.toNat + j)) lq.toNatClampNeg).toInt = 47 := by omega); rw [show v53.toNatClampNeg = lq.toNatClampNeg + 1 by omega, cpF_hit hm])) ((by have h7 := i_cl (a := lq) (by omega); have h6 := i_cl (a := v53) (by omega); have h5 := i_cl (a := lp) (by omega); (have hm : lq.toNatClampNeg = x.toInt.toNat ∨ ((fun j => fX (y.toInt.toNat + j)) lq.toNatClampNeg).toInt = 47 := by omega); rw [show v53.toNatClampNeg = lq.toNatClampNeg + 1 by omega, cpT_hit hm, f6, f7]; unfold csz; first | (rw [if_neg (by omega)]; omega) | (rw [if_pos (by omega)]; first | (rw [if_pos (Decidable.not_not.mp (f9.f (by omega)))]; omega) | (rw [if_neg (f9.t (by omega))]; omega)))) hP hD hS hl
                · skip
                  have g135_291 : ¬ dt.toInt = 0 := fun h8 => h_9 ((i_eq rfl (by decide)).mpr h8)
                  refine lv_iconst (v := 2) hx hb d_DiscMakerModel_componentsOf_138 (by decide) ?_
                  refine lv_goto (tgt := 149) hx hb d_DiscMakerModel_componentsOf_139 (by decide) ?_
                  refine lv_iadd hx hb d_DiscMakerModel_componentsOf_149 ?_
                  refine lv_topi (fun v54 e_v54 => ?_)
                  have t_v54 : v54.toInt = al.toInt + 2 := by rw [e_v54]; exact i_add rfl (by decide) (by omega) (by omega)
                  refine lv_istore_n hx hb d_DiscMakerModel_componentsOf_150 rfl hl (by decide) rfl (fun ls hl => ?_)
                  have hl : lv_has ls 7 [(3, .int v54), (6, .int dt), (0, .ref h0), (1, .int x), (2, .int y), (4, .int lp), (5, .int lq)] := hl
                  refine lv_iload hx hb d_DiscMakerModel_componentsOf_151 (lv_at hl 6 rfl) ?_
                  refine lv_iconst (v := 1) hx hb d_DiscMakerModel_componentsOf_153 (by decide) ?_
                  refine lv_iadd hx hb d_DiscMakerModel_componentsOf_154 ?_
                  refine lv_topi (fun v55 e_v55 => ?_)
                  have t_v55 : v55.toInt = lq.toInt + 1 := by rw [e_v55]; exact i_add rfl (by decide) (by omega) (by omega)
                  refine lv_istore hx hb d_DiscMakerModel_componentsOf_155 hl (by decide) rfl (fun ls hl => ?_)
                  have hl : lv_has ls 7 [(4, .int v55), (3, .int v54), (6, .int dt), (0, .ref h0), (1, .int x), (2, .int y), (5, .int lq)] := hl
                  refine lv_goto (tgt := 20) hx hb d_DiscMakerModel_componentsOf_157 (by decide) ?_
                  have hP := hP.sub (ws' := [(h0, .inr (11, MO ma sv_thrown sv_length sv_nodes sv_many sv_directories sv_runsFrom sv_runs sv_read sv_wrong sv_isNamed sv_goes sv_goesSize sv_goesAt sv_targetParts sv_isRoot)), ((ma 0), .inl (cB, 400, .inl fX))]) [0, 1] rfl
                  have hD := hD.sub (ws' := [(h0, .inr (11, MO ma sv_thrown sv_length sv_nodes sv_many sv_directories sv_runsFrom sv_runs sv_read sv_wrong sv_isNamed sv_goes sv_goesSize sv_goesAt sv_targetParts sv_isRoot)), ((ma 0), .inl (cB, 400, .inl fX))]) [0, 1] (by decide +kernel) rfl
                  have hl := lv_sub hl [3, 4, 5, 1, 0] rfl
                  exact ih20 _ (by first | omega | (dsimp only; omega)) v54 v55 _ _ _ rfl ((by (try dsimp only); first | assumption | omega | trivial)) ((by (try dsimp only); first | assumption | omega | trivial)) ((by have h7 := i_cl (a := lq) (by omega); have h6 := i_cl (a := v55) (by omega); have h5 := i_cl (a := lp) (by omega); (have hm : lq.toNatClampNeg = x.toInt.toNat ∨ ((fun j => fX (y.toInt.toNat + j)) lq.toNatClampNeg).toInt = 47 := by omega); rw [show v55.toNatClampNeg = lq.toNatClampNeg + 1 by omega, cpF_hit hm])) ((by have h7 := i_cl (a := lq) (by omega); have h6 := i_cl (a := v55) (by omega); have h5 := i_cl (a := lp) (by omega); (have hm : lq.toNatClampNeg = x.toInt.toNat ∨ ((fun j => fX (y.toInt.toNat + j)) lq.toNatClampNeg).toInt = 47 := by omega); rw [show v55.toNatClampNeg = lq.toNatClampNeg + 1 by omega, cpT_hit hm, f6, f7]; unfold csz; first | (rw [if_neg (by omega)]; omega) | (rw [if_pos (by omega)]; first | (rw [if_pos (Decidable.not_not.mp (f9.f (by omega)))]; omega) | (rw [if_neg (f9.t (by omega))]; omega)))) hP hD hS hl
            · skip
              intro kk123
              refine lv_iload hx hb d_DiscMakerModel_componentsOf_56 (lv_at hl 5 rfl) ?_
              refine lv_iload hx hb d_DiscMakerModel_componentsOf_58 (lv_at hl 4 rfl) ?_
              refine lv_isub hx hb d_DiscMakerModel_componentsOf_60 ?_
              refine lv_topi (fun v56 e_v56 => ?_)
              have t_v56 : v56.toInt = lq.toInt - lp.toInt := by rw [e_v56]; exact i_sub rfl rfl (by omega) (by omega)
              refine lv_iconst (v := 1) hx hb d_DiscMakerModel_componentsOf_61 (by decide) ?_
              refine lv_icmp_ne (tgt := 79) hx hb d_DiscMakerModel_componentsOf_62 (by decide) (fun h_9 => ?_) (fun h_9 => ?_)
              · skip
                have g62_319 : ¬ v56.toInt = 1 := fun h8 => h_9 ((i_eq rfl (by decide)).mpr h8)
                refine lv_iload hx hb d_DiscMakerModel_componentsOf_79 (lv_at hl 5 rfl) ?_
                refine lv_iload hx hb d_DiscMakerModel_componentsOf_81 (lv_at hl 4 rfl) ?_
                refine lv_isub hx hb d_DiscMakerModel_componentsOf_83 ?_
                refine lv_topi (fun v57 e_v57 => ?_)
                have t_v57 : v57.toInt = lq.toInt - lp.toInt := by rw [e_v57]; exact i_sub rfl rfl (by omega) (by omega)
                refine lv_iconst (v := 2) hx hb d_DiscMakerModel_componentsOf_84 (by decide) ?_
                refine lv_icmp_ne (tgt := 122) hx hb d_DiscMakerModel_componentsOf_85 (by decide) (fun h_9 => ?_) (fun h_9 => ?_)
                · skip
                  have g85_324 : ¬ v57.toInt = 2 := fun h8 => h_9 ((i_eq rfl (by decide)).mpr h8)
                  refine lv_iconst (v := 0) hx hb d_DiscMakerModel_componentsOf_122 (by decide) ?_
                  have hP := hP.sub (ws' := [(h0, .inr (11, MO ma sv_thrown sv_length sv_nodes sv_many sv_directories sv_runsFrom sv_runs sv_read sv_wrong sv_isNamed sv_goes sv_goesSize sv_goesAt sv_targetParts sv_isRoot)), ((ma 0), .inl (cB, 400, .inl fX))]) [0, 1] rfl
                  have hD := hD.sub (ws' := [(h0, .inr (11, MO ma sv_thrown sv_length sv_nodes sv_many sv_directories sv_runsFrom sv_runs sv_read sv_wrong sv_isNamed sv_goes sv_goesSize sv_goesAt sv_targetParts sv_isRoot)), ((ma 0), .inl (cB, 400, .inl fX))]) [0, 1] (by decide +kernel) rfl
                  have hl := lv_sub hl [0, 1, 2, 3, 4, 5] rfl
                  exact kk123 _ 0 _ _ _ rfl ((by have h7 := i_cl (a := lq) (by omega); have h5 := i_cl (a := lp) (by omega); first | exact BoolIs.yes (by unfold mrk; first | (rw [if_pos (by omega), if_pos (by omega)]; decide) | (rw [if_pos (by omega), if_neg (by omega), if_pos ⟨by omega, by omega⟩]; decide)) | exact BoolIs.no (by unfold mrk; first | (rw [if_neg (by omega)]; decide) | (rw [if_pos (by omega), if_neg (by omega), if_neg (fun h8 => by have h9 := h8.2; omega)]; decide) | (rw [if_pos (by omega), if_neg (by omega), if_neg (fun h8 => by have h9 := h8.1; omega)]; decide) | (by_cases hq : ((fun j => fX (y.toInt.toNat + j)) lp.toNatClampNeg).toInt = 46 <;> first | (rw [if_pos hq, if_neg (by omega), if_neg (fun h8 => by have h9 := h8.1; omega)]; decide) | (rw [if_neg hq]; decide))))) hP hD hS hl
                · skip
                  have g85_324 : v57.toInt = 2 := (i_eq rfl (by decide)).mp h_9
                  refine lv_aload_n hx hb d_DiscMakerModel_componentsOf_88 rfl (lv_at hl 0 rfl) ?_
                  refine va_get (D := D) (ci := 11) (v := .ref (ma 0)) (C := "DiscMakerModel") (T := F_DiscMakerModel) (N := 48) hx hb ht9 in_DiscMakerModel hown hK hP 0 rfl rfl 1 (by decide) (ht9 _ k1432) (fun _ h9 => h9) rfl d_DiscMakerModel_componentsOf_89 ?_
                  refine lv_iload_n hx hb d_DiscMakerModel_componentsOf_92 rfl (lv_at hl 2 rfl) ?_
                  refine lv_iload hx hb d_DiscMakerModel_componentsOf_93 (lv_at hl 4 rfl) ?_
                  refine lv_iadd hx hb d_DiscMakerModel_componentsOf_95 ?_
                  refine lv_topi (fun v58 e_v58 => ?_)
                  have t_v58 : v58.toInt = y.toInt + lp.toInt := by rw [e_v58]; exact i_add rfl rfl (by omega) (by omega)
                  refine va_bald hx hb hK hP 1 0 rfl rfl (vp_in_iff.mpr ⟨by omega, by omega⟩) d_DiscMakerModel_componentsOf_96 ?_
                  refine lv_topi (fun v59 e_v59 => ?_)
                  have w_v59 : v59.toInt = ((fun j => fX (y.toInt.toNat + j)) (lp.toNatClampNeg)).toInt := by have h7 := i_cl (a := v58) (by omega); have h5 := i_cl (a := lp) (by omega); (have h6 : v58.toNatClampNeg = y.toInt.toNat + (lp.toNatClampNeg) := by omega); show v59.toInt = (fX (y.toInt.toNat + (lp.toNatClampNeg))).toInt; rw [← h6, ← e_v59]
                  refine lv_bipush (v := 46) hx hb d_DiscMakerModel_componentsOf_97 (by decide) ?_
                  refine lv_icmp_ne (tgt := 122) hx hb d_DiscMakerModel_componentsOf_99 (by decide) (fun h_9 => ?_) (fun h_9 => ?_)
                  · skip
                    have g99_334 : ¬ v59.toInt = 46 := fun h8 => h_9 ((i_eq rfl (by decide)).mpr h8)
                    refine lv_iconst (v := 0) hx hb d_DiscMakerModel_componentsOf_122 (by decide) ?_
                    have hP := hP.sub (ws' := [(h0, .inr (11, MO ma sv_thrown sv_length sv_nodes sv_many sv_directories sv_runsFrom sv_runs sv_read sv_wrong sv_isNamed sv_goes sv_goesSize sv_goesAt sv_targetParts sv_isRoot)), ((ma 0), .inl (cB, 400, .inl fX))]) [0, 1] rfl
                    have hD := hD.sub (ws' := [(h0, .inr (11, MO ma sv_thrown sv_length sv_nodes sv_many sv_directories sv_runsFrom sv_runs sv_read sv_wrong sv_isNamed sv_goes sv_goesSize sv_goesAt sv_targetParts sv_isRoot)), ((ma 0), .inl (cB, 400, .inl fX))]) [0, 1] (by decide +kernel) rfl
                    have hl := lv_sub hl [0, 1, 2, 3, 4, 5] rfl
                    exact kk123 _ 0 _ _ _ rfl ((by have h7 := i_cl (a := lq) (by omega); have h5 := i_cl (a := lp) (by omega); first | exact BoolIs.yes (by unfold mrk; first | (rw [if_pos (by omega), if_pos (by omega)]; decide) | (rw [if_pos (by omega), if_neg (by omega), if_pos ⟨by omega, by omega⟩]; decide)) | exact BoolIs.no (by unfold mrk; first | (rw [if_neg (by omega)]; decide) | (rw [if_pos (by omega), if_neg (by omega), if_neg (fun h8 => by have h9 := h8.2; omega)]; decide) | (rw [if_pos (by omega), if_neg (by omega), if_neg (fun h8 => by have h9 := h8.1; omega)]; decide) | (by_cases hq : ((fun j => fX (y.toInt.toNat + j)) lp.toNatClampNeg).toInt = 46 <;> first | (rw [if_pos hq, if_neg (by omega), if_neg (fun h8 => by have h9 := h8.1; omega)]; decide) | (rw [if_neg hq]; decide))))) hP hD hS hl
                  · skip
                    have g99_334 : v59.toInt = 46 := (i_eq rfl (by decide)).mp h_9
                    refine lv_aload_n hx hb d_DiscMakerModel_componentsOf_102 rfl (lv_at hl 0 rfl) ?_
                    refine va_get (D := D) (ci := 11) (v := .ref (ma 0)) (C := "DiscMakerModel") (T := F_DiscMakerModel) (N := 48) hx hb ht9 in_DiscMakerModel hown hK hP 0 rfl rfl 1 (by decide) (ht9 _ k1432) (fun _ h9 => h9) rfl d_DiscMakerModel_componentsOf_103 ?_
                    refine lv_iload_n hx hb d_DiscMakerModel_componentsOf_106 rfl (lv_at hl 2 rfl) ?_
                    refine lv_iload hx hb d_DiscMakerModel_componentsOf_107 (lv_at hl 4 rfl) ?_
                    refine lv_iadd hx hb d_DiscMakerModel_componentsOf_109 ?_
                    refine lv_topi (fun v60 e_v60 => ?_)
                    have t_v60 : v60.toInt = y.toInt + lp.toInt := by rw [e_v60]; exact i_add rfl rfl (by omega) (by omega)
                    refine lv_iconst (v := 1) hx hb d_DiscMakerModel_componentsOf_110 (by decide) ?_
                    refine lv_iadd hx hb d_DiscMakerModel_componentsOf_111 ?_
                    refine lv_topi (fun v61 e_v61 => ?_)
                    have t_v61 : v61.toInt = v60.toInt + 1 := by rw [e_v61]; exact i_add rfl (by decide) (by omega) (by omega)
                    refine va_bald hx hb hK hP 1 0 rfl rfl (vp_in_iff.mpr ⟨by omega, by omega⟩) d_DiscMakerModel_componentsOf_112 ?_
                    refine lv_topi (fun v62 e_v62 => ?_)
                    have w_v62 : v62.toInt = ((fun j => fX (y.toInt.toNat + j)) (lp.toNatClampNeg + 1)).toInt := by have h7 := i_cl (a := v61) (by omega); have h5 := i_cl (a := lp) (by omega); (have h6 : v61.toNatClampNeg = y.toInt.toNat + (lp.toNatClampNeg + 1) := by omega); show v62.toInt = (fX (y.toInt.toNat + (lp.toNatClampNeg + 1))).toInt; rw [← h6, ← e_v62]
                    refine lv_bipush (v := 46) hx hb d_DiscMakerModel_componentsOf_113 (by decide) ?_
                    refine lv_icmp_ne (tgt := 122) hx hb d_DiscMakerModel_componentsOf_115 (by decide) (fun h_9 => ?_) (fun h_9 => ?_)
                    · skip
                      have g115_346 : ¬ v62.toInt = 46 := fun h8 => h_9 ((i_eq rfl (by decide)).mpr h8)
                      refine lv_iconst (v := 0) hx hb d_DiscMakerModel_componentsOf_122 (by decide) ?_
                      have hP := hP.sub (ws' := [(h0, .inr (11, MO ma sv_thrown sv_length sv_nodes sv_many sv_directories sv_runsFrom sv_runs sv_read sv_wrong sv_isNamed sv_goes sv_goesSize sv_goesAt sv_targetParts sv_isRoot)), ((ma 0), .inl (cB, 400, .inl fX))]) [0, 1] rfl
                      have hD := hD.sub (ws' := [(h0, .inr (11, MO ma sv_thrown sv_length sv_nodes sv_many sv_directories sv_runsFrom sv_runs sv_read sv_wrong sv_isNamed sv_goes sv_goesSize sv_goesAt sv_targetParts sv_isRoot)), ((ma 0), .inl (cB, 400, .inl fX))]) [0, 1] (by decide +kernel) rfl
                      have hl := lv_sub hl [0, 1, 2, 3, 4, 5] rfl
                      exact kk123 _ 0 _ _ _ rfl ((by have h7 := i_cl (a := lq) (by omega); have h5 := i_cl (a := lp) (by omega); first | exact BoolIs.yes (by unfold mrk; first | (rw [if_pos (by omega), if_pos (by omega)]; decide) | (rw [if_pos (by omega), if_neg (by omega), if_pos ⟨by omega, by omega⟩]; decide)) | exact BoolIs.no (by unfold mrk; first | (rw [if_neg (by omega)]; decide) | (rw [if_pos (by omega), if_neg (by omega), if_neg (fun h8 => by have h9 := h8.2; omega)]; decide) | (rw [if_pos (by omega), if_neg (by omega), if_neg (fun h8 => by have h9 := h8.1; omega)]; decide) | (by_cases hq : ((fun j => fX (y.toInt.toNat + j)) lp.toNatClampNeg).toInt = 46 <;> first | (rw [if_pos hq, if_neg (by omega), if_neg (fun h8 => by have h9 := h8.1; omega)]; decide) | (rw [if_neg hq]; decide))))) hP hD hS hl
                    · skip
                      have g115_346 : v62.toInt = 46 := (i_eq rfl (by decide)).mp h_9
                      refine lv_iconst (v := 1) hx hb d_DiscMakerModel_componentsOf_118 (by decide) ?_
                      refine lv_goto (tgt := 123) hx hb d_DiscMakerModel_componentsOf_119 (by decide) ?_
                      have hP := hP.sub (ws' := [(h0, .inr (11, MO ma sv_thrown sv_length sv_nodes sv_many sv_directories sv_runsFrom sv_runs sv_read sv_wrong sv_isNamed sv_goes sv_goesSize sv_goesAt sv_targetParts sv_isRoot)), ((ma 0), .inl (cB, 400, .inl fX))]) [0, 1] rfl
                      have hD := hD.sub (ws' := [(h0, .inr (11, MO ma sv_thrown sv_length sv_nodes sv_many sv_directories sv_runsFrom sv_runs sv_read sv_wrong sv_isNamed sv_goes sv_goesSize sv_goesAt sv_targetParts sv_isRoot)), ((ma 0), .inl (cB, 400, .inl fX))]) [0, 1] (by decide +kernel) rfl
                      have hl := lv_sub hl [0, 1, 2, 3, 4, 5] rfl
                      exact kk123 _ 1 _ _ _ rfl ((by have h7 := i_cl (a := lq) (by omega); have h5 := i_cl (a := lp) (by omega); first | exact BoolIs.yes (by unfold mrk; first | (rw [if_pos (by omega), if_pos (by omega)]; decide) | (rw [if_pos (by omega), if_neg (by omega), if_pos ⟨by omega, by omega⟩]; decide)) | exact BoolIs.no (by unfold mrk; first | (rw [if_neg (by omega)]; decide) | (rw [if_pos (by omega), if_neg (by omega), if_neg (fun h8 => by have h9 := h8.2; omega)]; decide) | (rw [if_pos (by omega), if_neg (by omega), if_neg (fun h8 => by have h9 := h8.1; omega)]; decide) | (by_cases hq : ((fun j => fX (y.toInt.toNat + j)) lp.toNatClampNeg).toInt = 46 <;> first | (rw [if_pos hq, if_neg (by omega), if_neg (fun h8 => by have h9 := h8.1; omega)]; decide) | (rw [if_neg hq]; decide))))) hP hD hS hl
              · skip
                have g62_319 : v56.toInt = 1 := (i_eq rfl (by decide)).mp h_9
                refine lv_aload_n hx hb d_DiscMakerModel_componentsOf_65 rfl (lv_at hl 0 rfl) ?_
                refine va_get (D := D) (ci := 11) (v := .ref (ma 0)) (C := "DiscMakerModel") (T := F_DiscMakerModel) (N := 48) hx hb ht9 in_DiscMakerModel hown hK hP 0 rfl rfl 1 (by decide) (ht9 _ k1432) (fun _ h9 => h9) rfl d_DiscMakerModel_componentsOf_66 ?_
                refine lv_iload_n hx hb d_DiscMakerModel_componentsOf_69 rfl (lv_at hl 2 rfl) ?_
                refine lv_iload hx hb d_DiscMakerModel_componentsOf_70 (lv_at hl 4 rfl) ?_
                refine lv_iadd hx hb d_DiscMakerModel_componentsOf_72 ?_
                refine lv_topi (fun v63 e_v63 => ?_)
                have t_v63 : v63.toInt = y.toInt + lp.toInt := by rw [e_v63]; exact i_add rfl rfl (by omega) (by omega)
                refine va_bald hx hb hK hP 1 0 rfl rfl (vp_in_iff.mpr ⟨by omega, by omega⟩) d_DiscMakerModel_componentsOf_73 ?_
                refine lv_topi (fun v64 e_v64 => ?_)
                have w_v64 : v64.toInt = ((fun j => fX (y.toInt.toNat + j)) (lp.toNatClampNeg)).toInt := by have h7 := i_cl (a := v63) (by omega); have h5 := i_cl (a := lp) (by omega); (have h6 : v63.toNatClampNeg = y.toInt.toNat + (lp.toNatClampNeg) := by omega); show v64.toInt = (fX (y.toInt.toNat + (lp.toNatClampNeg))).toInt; rw [← h6, ← e_v64]
                refine lv_bipush (v := 46) hx hb d_DiscMakerModel_componentsOf_74 (by decide) ?_
                refine lv_icmp_eq (tgt := 118) hx hb d_DiscMakerModel_componentsOf_76 (by decide) (fun h_9 => ?_) (fun h_9 => ?_)
                · skip
                  have g76_359 : v64.toInt = 46 := (i_eq rfl (by decide)).mp h_9
                  refine lv_iconst (v := 1) hx hb d_DiscMakerModel_componentsOf_118 (by decide) ?_
                  refine lv_goto (tgt := 123) hx hb d_DiscMakerModel_componentsOf_119 (by decide) ?_
                  have hP := hP.sub (ws' := [(h0, .inr (11, MO ma sv_thrown sv_length sv_nodes sv_many sv_directories sv_runsFrom sv_runs sv_read sv_wrong sv_isNamed sv_goes sv_goesSize sv_goesAt sv_targetParts sv_isRoot)), ((ma 0), .inl (cB, 400, .inl fX))]) [0, 1] rfl
                  have hD := hD.sub (ws' := [(h0, .inr (11, MO ma sv_thrown sv_length sv_nodes sv_many sv_directories sv_runsFrom sv_runs sv_read sv_wrong sv_isNamed sv_goes sv_goesSize sv_goesAt sv_targetParts sv_isRoot)), ((ma 0), .inl (cB, 400, .inl fX))]) [0, 1] (by decide +kernel) rfl
                  have hl := lv_sub hl [0, 1, 2, 3, 4, 5] rfl
                  exact kk123 _ 1 _ _ _ rfl ((by have h7 := i_cl (a := lq) (by omega); have h5 := i_cl (a := lp) (by omega); first | exact BoolIs.yes (by unfold mrk; first | (rw [if_pos (by omega), if_pos (by omega)]; decide) | (rw [if_pos (by omega), if_neg (by omega), if_pos ⟨by omega, by omega⟩]; decide)) | exact BoolIs.no (by unfold mrk; first | (rw [if_neg (by omega)]; decide) | (rw [if_pos (by omega), if_neg (by omega), if_neg (fun h8 => by have h9 := h8.2; omega)]; decide) | (rw [if_pos (by omega), if_neg (by omega), if_neg (fun h8 => by have h9 := h8.1; omega)]; decide) | (by_cases hq : ((fun j => fX (y.toInt.toNat + j)) lp.toNatClampNeg).toInt = 46 <;> first | (rw [if_pos hq, if_neg (by omega), if_neg (fun h8 => by have h9 := h8.1; omega)]; decide) | (rw [if_neg hq]; decide))))) hP hD hS hl
                · skip
                  have g76_359 : ¬ v64.toInt = 46 := fun h8 => h_9 ((i_eq rfl (by decide)).mpr h8)
                  refine lv_iload hx hb d_DiscMakerModel_componentsOf_79 (lv_at hl 5 rfl) ?_
                  refine lv_iload hx hb d_DiscMakerModel_componentsOf_81 (lv_at hl 4 rfl) ?_
                  refine lv_isub hx hb d_DiscMakerModel_componentsOf_83 ?_
                  refine lv_topi (fun v65 e_v65 => ?_)
                  have t_v65 : v65.toInt = lq.toInt - lp.toInt := by rw [e_v65]; exact i_sub rfl rfl (by omega) (by omega)
                  refine lv_iconst (v := 2) hx hb d_DiscMakerModel_componentsOf_84 (by decide) ?_
                  refine lv_icmp_ne (tgt := 122) hx hb d_DiscMakerModel_componentsOf_85 (by decide) (fun h_9 => ?_) (fun h_9 => ?_)
                  · skip
                    have g85_367 : ¬ v65.toInt = 2 := fun h8 => h_9 ((i_eq rfl (by decide)).mpr h8)
                    refine lv_iconst (v := 0) hx hb d_DiscMakerModel_componentsOf_122 (by decide) ?_
                    have hP := hP.sub (ws' := [(h0, .inr (11, MO ma sv_thrown sv_length sv_nodes sv_many sv_directories sv_runsFrom sv_runs sv_read sv_wrong sv_isNamed sv_goes sv_goesSize sv_goesAt sv_targetParts sv_isRoot)), ((ma 0), .inl (cB, 400, .inl fX))]) [0, 1] rfl
                    have hD := hD.sub (ws' := [(h0, .inr (11, MO ma sv_thrown sv_length sv_nodes sv_many sv_directories sv_runsFrom sv_runs sv_read sv_wrong sv_isNamed sv_goes sv_goesSize sv_goesAt sv_targetParts sv_isRoot)), ((ma 0), .inl (cB, 400, .inl fX))]) [0, 1] (by decide +kernel) rfl
                    have hl := lv_sub hl [0, 1, 2, 3, 4, 5] rfl
                    exact kk123 _ 0 _ _ _ rfl ((by have h7 := i_cl (a := lq) (by omega); have h5 := i_cl (a := lp) (by omega); first | exact BoolIs.yes (by unfold mrk; first | (rw [if_pos (by omega), if_pos (by omega)]; decide) | (rw [if_pos (by omega), if_neg (by omega), if_pos ⟨by omega, by omega⟩]; decide)) | exact BoolIs.no (by unfold mrk; first | (rw [if_neg (by omega)]; decide) | (rw [if_pos (by omega), if_neg (by omega), if_neg (fun h8 => by have h9 := h8.2; omega)]; decide) | (rw [if_pos (by omega), if_neg (by omega), if_neg (fun h8 => by have h9 := h8.1; omega)]; decide) | (by_cases hq : ((fun j => fX (y.toInt.toNat + j)) lp.toNatClampNeg).toInt = 46 <;> first | (rw [if_pos hq, if_neg (by omega), if_neg (fun h8 => by have h9 := h8.1; omega)]; decide) | (rw [if_neg hq]; decide))))) hP hD hS hl
                  · skip
                    have g85_367 : v65.toInt = 2 := (i_eq rfl (by decide)).mp h_9
                    refine lv_aload_n hx hb d_DiscMakerModel_componentsOf_88 rfl (lv_at hl 0 rfl) ?_
                    refine va_get (D := D) (ci := 11) (v := .ref (ma 0)) (C := "DiscMakerModel") (T := F_DiscMakerModel) (N := 48) hx hb ht9 in_DiscMakerModel hown hK hP 0 rfl rfl 1 (by decide) (ht9 _ k1432) (fun _ h9 => h9) rfl d_DiscMakerModel_componentsOf_89 ?_
                    refine lv_iload_n hx hb d_DiscMakerModel_componentsOf_92 rfl (lv_at hl 2 rfl) ?_
                    refine lv_iload hx hb d_DiscMakerModel_componentsOf_93 (lv_at hl 4 rfl) ?_
                    refine lv_iadd hx hb d_DiscMakerModel_componentsOf_95 ?_
                    refine lv_topi (fun v66 e_v66 => ?_)
                    have t_v66 : v66.toInt = y.toInt + lp.toInt := by rw [e_v66]; exact i_add rfl rfl (by omega) (by omega)
                    refine va_bald hx hb hK hP 1 0 rfl rfl (vp_in_iff.mpr ⟨by omega, by omega⟩) d_DiscMakerModel_componentsOf_96 ?_
                    refine lv_topi (fun v67 e_v67 => ?_)
                    have w_v67 : v67.toInt = ((fun j => fX (y.toInt.toNat + j)) (lp.toNatClampNeg)).toInt := by have h7 := i_cl (a := v66) (by omega); have h5 := i_cl (a := lp) (by omega); (have h6 : v66.toNatClampNeg = y.toInt.toNat + (lp.toNatClampNeg) := by omega); show v67.toInt = (fX (y.toInt.toNat + (lp.toNatClampNeg))).toInt; rw [← h6, ← e_v67]
                    refine lv_bipush (v := 46) hx hb d_DiscMakerModel_componentsOf_97 (by decide) ?_
                    refine lv_icmp_ne (tgt := 122) hx hb d_DiscMakerModel_componentsOf_99 (by decide) (fun h_9 => ?_) (fun h_9 => ?_)
                    · skip
                      have g99_377 : ¬ v67.toInt = 46 := fun h8 => h_9 ((i_eq rfl (by decide)).mpr h8)
                      refine lv_iconst (v := 0) hx hb d_DiscMakerModel_componentsOf_122 (by decide) ?_
                      have hP := hP.sub (ws' := [(h0, .inr (11, MO ma sv_thrown sv_length sv_nodes sv_many sv_directories sv_runsFrom sv_runs sv_read sv_wrong sv_isNamed sv_goes sv_goesSize sv_goesAt sv_targetParts sv_isRoot)), ((ma 0), .inl (cB, 400, .inl fX))]) [0, 1] rfl
                      have hD := hD.sub (ws' := [(h0, .inr (11, MO ma sv_thrown sv_length sv_nodes sv_many sv_directories sv_runsFrom sv_runs sv_read sv_wrong sv_isNamed sv_goes sv_goesSize sv_goesAt sv_targetParts sv_isRoot)), ((ma 0), .inl (cB, 400, .inl fX))]) [0, 1] (by decide +kernel) rfl
                      have hl := lv_sub hl [0, 1, 2, 3, 4, 5] rfl
                      exact kk123 _ 0 _ _ _ rfl ((by have h7 := i_cl (a := lq) (by omega); have h5 := i_cl (a := lp) (by omega); first | exact BoolIs.yes (by unfold mrk; first | (rw [if_pos (by omega), if_pos (by omega)]; decide) | (rw [if_pos (by omega), if_neg (by omega), if_pos ⟨by omega, by omega⟩]; decide)) | exact BoolIs.no (by unfold mrk; first | (rw [if_neg (by omega)]; decide) | (rw [if_pos (by omega), if_neg (by omega), if_neg (fun h8 => by have h9 := h8.2; omega)]; decide) | (rw [if_pos (by omega), if_neg (by omega), if_neg (fun h8 => by have h9 := h8.1; omega)]; decide) | (by_cases hq : ((fun j => fX (y.toInt.toNat + j)) lp.toNatClampNeg).toInt = 46 <;> first | (rw [if_pos hq, if_neg (by omega), if_neg (fun h8 => by have h9 := h8.1; omega)]; decide) | (rw [if_neg hq]; decide))))) hP hD hS hl
                    · skip
                      have g99_377 : v67.toInt = 46 := (i_eq rfl (by decide)).mp h_9
                      refine lv_aload_n hx hb d_DiscMakerModel_componentsOf_102 rfl (lv_at hl 0 rfl) ?_
                      refine va_get (D := D) (ci := 11) (v := .ref (ma 0)) (C := "DiscMakerModel") (T := F_DiscMakerModel) (N := 48) hx hb ht9 in_DiscMakerModel hown hK hP 0 rfl rfl 1 (by decide) (ht9 _ k1432) (fun _ h9 => h9) rfl d_DiscMakerModel_componentsOf_103 ?_
                      refine lv_iload_n hx hb d_DiscMakerModel_componentsOf_106 rfl (lv_at hl 2 rfl) ?_
                      refine lv_iload hx hb d_DiscMakerModel_componentsOf_107 (lv_at hl 4 rfl) ?_
                      refine lv_iadd hx hb d_DiscMakerModel_componentsOf_109 ?_
                      refine lv_topi (fun v68 e_v68 => ?_)
                      have t_v68 : v68.toInt = y.toInt + lp.toInt := by rw [e_v68]; exact i_add rfl rfl (by omega) (by omega)
                      refine lv_iconst (v := 1) hx hb d_DiscMakerModel_componentsOf_110 (by decide) ?_
                      refine lv_iadd hx hb d_DiscMakerModel_componentsOf_111 ?_
                      refine lv_topi (fun v69 e_v69 => ?_)
                      have t_v69 : v69.toInt = v68.toInt + 1 := by rw [e_v69]; exact i_add rfl (by decide) (by omega) (by omega)
                      refine va_bald hx hb hK hP 1 0 rfl rfl (vp_in_iff.mpr ⟨by omega, by omega⟩) d_DiscMakerModel_componentsOf_112 ?_
                      refine lv_topi (fun v70 e_v70 => ?_)
                      have w_v70 : v70.toInt = ((fun j => fX (y.toInt.toNat + j)) (lp.toNatClampNeg + 1)).toInt := by have h7 := i_cl (a := v69) (by omega); have h5 := i_cl (a := lp) (by omega); (have h6 : v69.toNatClampNeg = y.toInt.toNat + (lp.toNatClampNeg + 1) := by omega); show v70.toInt = (fX (y.toInt.toNat + (lp.toNatClampNeg + 1))).toInt; rw [← h6, ← e_v70]
                      refine lv_bipush (v := 46) hx hb d_DiscMakerModel_componentsOf_113 (by decide) ?_
                      refine lv_icmp_ne (tgt := 122) hx hb d_DiscMakerModel_componentsOf_115 (by decide) (fun h_9 => ?_) (fun h_9 => ?_)
                      · skip
                        have g115_389 : ¬ v70.toInt = 46 := fun h8 => h_9 ((i_eq rfl (by decide)).mpr h8)
                        refine lv_iconst (v := 0) hx hb d_DiscMakerModel_componentsOf_122 (by decide) ?_
                        have hP := hP.sub (ws' := [(h0, .inr (11, MO ma sv_thrown sv_length sv_nodes sv_many sv_directories sv_runsFrom sv_runs sv_read sv_wrong sv_isNamed sv_goes sv_goesSize sv_goesAt sv_targetParts sv_isRoot)), ((ma 0), .inl (cB, 400, .inl fX))]) [0, 1] rfl
                        have hD := hD.sub (ws' := [(h0, .inr (11, MO ma sv_thrown sv_length sv_nodes sv_many sv_directories sv_runsFrom sv_runs sv_read sv_wrong sv_isNamed sv_goes sv_goesSize sv_goesAt sv_targetParts sv_isRoot)), ((ma 0), .inl (cB, 400, .inl fX))]) [0, 1] (by decide +kernel) rfl
                        have hl := lv_sub hl [0, 1, 2, 3, 4, 5] rfl
                        exact kk123 _ 0 _ _ _ rfl ((by have h7 := i_cl (a := lq) (by omega); have h5 := i_cl (a := lp) (by omega); first | exact BoolIs.yes (by unfold mrk; first | (rw [if_pos (by omega), if_pos (by omega)]; decide) | (rw [if_pos (by omega), if_neg (by omega), if_pos ⟨by omega, by omega⟩]; decide)) | exact BoolIs.no (by unfold mrk; first | (rw [if_neg (by omega)]; decide) | (rw [if_pos (by omega), if_neg (by omega), if_neg (fun h8 => by have h9 := h8.2; omega)]; decide) | (rw [if_pos (by omega), if_neg (by omega), if_neg (fun h8 => by have h9 := h8.1; omega)]; decide) | (by_cases hq : ((fun j => fX (y.toInt.toNat + j)) lp.toNatClampNeg).toInt = 46 <;> first | (rw [if_pos hq, if_neg (by omega), if_neg (fun h8 => by have h9 := h8.1; omega)]; decide) | (rw [if_neg hq]; decide))))) hP hD hS hl
                      · skip
                        have g115_389 : v70.toInt = 46 := (i_eq rfl (by decide)).mp h_9
                        refine lv_iconst (v := 1) hx hb d_DiscMakerModel_componentsOf_118 (by decide) ?_
                        refine lv_goto (tgt := 123) hx hb d_DiscMakerModel_componentsOf_119 (by decide) ?_
                        have hP := hP.sub (ws' := [(h0, .inr (11, MO ma sv_thrown sv_length sv_nodes sv_many sv_directories sv_runsFrom sv_runs sv_read sv_wrong sv_isNamed sv_goes sv_goesSize sv_goesAt sv_targetParts sv_isRoot)), ((ma 0), .inl (cB, 400, .inl fX))]) [0, 1] rfl
                        have hD := hD.sub (ws' := [(h0, .inr (11, MO ma sv_thrown sv_length sv_nodes sv_many sv_directories sv_runsFrom sv_runs sv_read sv_wrong sv_isNamed sv_goes sv_goesSize sv_goesAt sv_targetParts sv_isRoot)), ((ma 0), .inl (cB, 400, .inl fX))]) [0, 1] (by decide +kernel) rfl
                        have hl := lv_sub hl [0, 1, 2, 3, 4, 5] rfl
                        exact kk123 _ 1 _ _ _ rfl ((by have h7 := i_cl (a := lq) (by omega); have h5 := i_cl (a := lp) (by omega); first | exact BoolIs.yes (by unfold mrk; first | (rw [if_pos (by omega), if_pos (by omega)]; decide) | (rw [if_pos (by omega), if_neg (by omega), if_pos ⟨by omega, by omega⟩]; decide)) | exact BoolIs.no (by unfold mrk; first | (rw [if_neg (by omega)]; decide) | (rw [if_pos (by omega), if_neg (by omega), if_neg (fun h8 => by have h9 := h8.2; omega)]; decide) | (rw [if_pos (by omega), if_neg (by omega), if_neg (fun h8 => by have h9 := h8.1; omega)]; decide) | (by_cases hq : ((fun j => fX (y.toInt.toNat + j)) lp.toNatClampNeg).toInt = 46 <;> first | (rw [if_pos hq, if_neg (by omega), if_neg (fun h8 => by have h9 := h8.1; omega)]; decide) | (rw [if_neg hq]; decide))))) hP hD hS hl
          · skip
            have g33_278 : ¬ x.toInt ≤ lq.toInt := fun h8 => h_9 ((i_le rfl rfl).mpr h8)
            refine lv_aload_n hx hb d_DiscMakerModel_componentsOf_36 rfl (lv_at hl 0 rfl) ?_
            refine va_get (D := D) (ci := 11) (v := .ref (ma 0)) (C := "DiscMakerModel") (T := F_DiscMakerModel) (N := 48) hx hb ht9 in_DiscMakerModel hown hK hP 0 rfl rfl 1 (by decide) (ht9 _ k1432) (fun _ h9 => h9) rfl d_DiscMakerModel_componentsOf_37 ?_
            refine lv_iload_n hx hb d_DiscMakerModel_componentsOf_40 rfl (lv_at hl 2 rfl) ?_
            refine lv_iload hx hb d_DiscMakerModel_componentsOf_41 (lv_at hl 5 rfl) ?_
            refine lv_iadd hx hb d_DiscMakerModel_componentsOf_43 ?_
            refine lv_topi (fun v71 e_v71 => ?_)
            have t_v71 : v71.toInt = y.toInt + lq.toInt := by rw [e_v71]; exact i_add rfl rfl (by omega) (by omega)
            refine va_bald hx hb hK hP 1 0 rfl rfl (vp_in_iff.mpr ⟨by omega, by omega⟩) d_DiscMakerModel_componentsOf_44 ?_
            refine lv_topi (fun v72 e_v72 => ?_)
            have w_v72 : v72.toInt = ((fun j => fX (y.toInt.toNat + j)) (lq.toNatClampNeg)).toInt := by have h7 := i_cl (a := v71) (by omega); have h5 := i_cl (a := lq) (by omega); (have h6 : v71.toNatClampNeg = y.toInt.toNat + (lq.toNatClampNeg) := by omega); show v72.toInt = (fX (y.toInt.toNat + (lq.toNatClampNeg))).toInt; rw [← h6, ← e_v72]
            refine lv_bipush (v := 47) hx hb d_DiscMakerModel_componentsOf_45 (by decide) ?_
            refine lv_icmp_eq (tgt := 56) hx hb d_DiscMakerModel_componentsOf_47 (by decide) (fun h_9 => ?_) (fun h_9 => ?_)
            · skip
              have g47_402 : v72.toInt = 47 := (i_eq rfl (by decide)).mp h_9
              refine zz_labM (B := fun (lk : Nat) (K : Heap → List Loc → Array Slot → List Value → Prop) => ∀ (dt : Int32) (H : Heap) (locs : List Loc) (ls : Array Slot), lk = 0 → (BoolIs dt (mrk (fun j => fX (y.toInt.toNat + j)) lp.toNatClampNeg lq.toNatClampNeg ≠ 0)) → va_P D CL [(h0, .inr (11, MO ma sv_thrown sv_length sv_nodes sv_many sv_directories sv_runsFrom sv_runs sv_read sv_wrong sv_isNamed sv_goes sv_goesSize sv_goesAt sv_targetParts sv_isRoot)), ((ma 0), .inl (cB, 400, .inl fX))] H → va_D A [(h0, .inr (11, MO ma sv_thrown sv_length sv_nodes sv_many sv_directories sv_runsFrom sv_runs sv_read sv_wrong sv_isNamed sv_goes sv_goesSize sv_goesAt sv_targetParts sv_isRoot)), ((ma 0), .inl (cB, 400, .inl fX))] → va_S A s.heap H locs → lv_has ls 7 [(0, .ref h0), (1, .int x), (2, .int y), (3, .int al), (4, .int lp), (5, .int lq)] → K H locs ls [.int dt]) 123 ?_ ?_
              · skip
                intro lk ih123 dt H locs ls hm123 f9 hP hD hS hl
                refine lv_istore hx hb d_DiscMakerModel_componentsOf_123 hl (by decide) rfl (fun ls hl => ?_)
                have hl : lv_has ls 7 [(6, .int dt), (0, .ref h0), (1, .int x), (2, .int y), (3, .int al), (4, .int lp), (5, .int lq)] := hl
                refine lv_iload hx hb d_DiscMakerModel_componentsOf_125 (lv_at hl 6 rfl) ?_
                refine lv_iload hx hb d_DiscMakerModel_componentsOf_127 (lv_at hl 5 rfl) ?_
                refine lv_icmp_le (tgt := 151) hx hb d_DiscMakerModel_componentsOf_129 (by decide) (fun h_9 => ?_) (fun h_9 => ?_)
                · skip
                  have g129_406 : lq.toInt ≤ lp.toInt := (i_le rfl rfl).mp h_9
                  refine lv_iload hx hb d_DiscMakerModel_componentsOf_151 (lv_at hl 6 rfl) ?_
                  refine lv_iconst (v := 1) hx hb d_DiscMakerModel_componentsOf_153 (by decide) ?_
                  refine lv_iadd hx hb d_DiscMakerModel_componentsOf_154 ?_
                  refine lv_topi (fun v73 e_v73 => ?_)
                  have t_v73 : v73.toInt = lq.toInt + 1 := by rw [e_v73]; exact i_add rfl (by decide) (by omega) (by omega)
                  refine lv_istore hx hb d_DiscMakerModel_componentsOf_155 hl (by decide) rfl (fun ls hl => ?_)
                  have hl : lv_has ls 7 [(4, .int v73), (6, .int dt), (0, .ref h0), (1, .int x), (2, .int y), (3, .int al), (5, .int lq)] := hl
                  refine lv_goto (tgt := 20) hx hb d_DiscMakerModel_componentsOf_157 (by decide) ?_
                  have hP := hP.sub (ws' := [(h0, .inr (11, MO ma sv_thrown sv_length sv_nodes sv_many sv_directories sv_runsFrom sv_runs sv_read sv_wrong sv_isNamed sv_goes sv_goesSize sv_goesAt sv_targetParts sv_isRoot)), ((ma 0), .inl (cB, 400, .inl fX))]) [0, 1] rfl
                  have hD := hD.sub (ws' := [(h0, .inr (11, MO ma sv_thrown sv_length sv_nodes sv_many sv_directories sv_runsFrom sv_runs sv_read sv_wrong sv_isNamed sv_goes sv_goesSize sv_goesAt sv_targetParts sv_isRoot)), ((ma 0), .inl (cB, 400, .inl fX))]) [0, 1] (by decide +kernel) rfl
                  have hl := lv_sub hl [2, 3, 4, 5, 0] rfl
                  exact ih20 _ (by first | omega | (dsimp only; omega)) al v73 _ _ _ rfl ((by (try dsimp only); first | assumption | omega | trivial)) ((by (try dsimp only); first | assumption | omega | trivial)) ((by have h7 := i_cl (a := lq) (by omega); have h6 := i_cl (a := v73) (by omega); have h5 := i_cl (a := lp) (by omega); (have hm : lq.toNatClampNeg = x.toInt.toNat ∨ ((fun j => fX (y.toInt.toNat + j)) lq.toNatClampNeg).toInt = 47 := by omega); rw [show v73.toNatClampNeg = lq.toNatClampNeg + 1 by omega, cpF_hit hm])) ((by have h7 := i_cl (a := lq) (by omega); have h6 := i_cl (a := v73) (by omega); have h5 := i_cl (a := lp) (by omega); (have hm : lq.toNatClampNeg = x.toInt.toNat ∨ ((fun j => fX (y.toInt.toNat + j)) lq.toNatClampNeg).toInt = 47 := by omega); rw [show v73.toNatClampNeg = lq.toNatClampNeg + 1 by omega, cpT_hit hm, f6, f7]; unfold csz; first | (rw [if_neg (by omega)]; omega) | (rw [if_pos (by omega)]; first | (rw [if_pos (Decidable.not_not.mp (f9.f (by omega)))]; omega) | (rw [if_neg (f9.t (by omega))]; omega)))) hP hD hS hl
                · skip
                  have g129_406 : ¬ lq.toInt ≤ lp.toInt := fun h8 => h_9 ((i_le rfl rfl).mpr h8)
                  refine lv_iload_n hx hb d_DiscMakerModel_componentsOf_132 rfl (lv_at hl 4 rfl) ?_
                  refine lv_iload hx hb d_DiscMakerModel_componentsOf_133 (lv_at hl 0 rfl) ?_
                  refine lv_if_eq (tgt := 142) hx hb d_DiscMakerModel_componentsOf_135 (by decide) (fun h_9 => ?_) (fun h_9 => ?_)
                  · skip
                    have g135_415 : dt.toInt = 0 := (i_eq rfl (by decide)).mp h_9
                    refine lv_iconst (v := 2) hx hb d_DiscMakerModel_componentsOf_142 (by decide) ?_
                    refine lv_iload hx hb d_DiscMakerModel_componentsOf_143 (lv_at hl 6 rfl) ?_
                    refine lv_iadd hx hb d_DiscMakerModel_componentsOf_145 ?_
                    refine lv_topi (fun v74 e_v74 => ?_)
                    have t_v74 : v74.toInt = 2 + lq.toInt := by rw [e_v74]; exact i_add (by decide) rfl (by omega) (by omega)
                    refine lv_iload hx hb d_DiscMakerModel_componentsOf_146 (lv_at hl 5 rfl) ?_
                    refine lv_isub hx hb d_DiscMakerModel_componentsOf_148 ?_
                    refine lv_topi (fun v75 e_v75 => ?_)
                    have t_v75 : v75.toInt = v74.toInt - lp.toInt := by rw [e_v75]; exact i_sub rfl rfl (by omega) (by omega)
                    refine lv_iadd hx hb d_DiscMakerModel_componentsOf_149 ?_
                    refine lv_topi (fun v76 e_v76 => ?_)
                    have t_v76 : v76.toInt = al.toInt + v75.toInt := by rw [e_v76]; exact i_add rfl rfl (by omega) (by omega)
                    refine lv_istore_n hx hb d_DiscMakerModel_componentsOf_150 rfl hl (by decide) rfl (fun ls hl => ?_)
                    have hl : lv_has ls 7 [(3, .int v76), (6, .int dt), (0, .ref h0), (1, .int x), (2, .int y), (4, .int lp), (5, .int lq)] := hl
                    refine lv_iload hx hb d_DiscMakerModel_componentsOf_151 (lv_at hl 6 rfl) ?_
                    refine lv_iconst (v := 1) hx hb d_DiscMakerModel_componentsOf_153 (by decide) ?_
                    refine lv_iadd hx hb d_DiscMakerModel_componentsOf_154 ?_
                    refine lv_topi (fun v77 e_v77 => ?_)
                    have t_v77 : v77.toInt = lq.toInt + 1 := by rw [e_v77]; exact i_add rfl (by decide) (by omega) (by omega)
                    refine lv_istore hx hb d_DiscMakerModel_componentsOf_155 hl (by decide) rfl (fun ls hl => ?_)
                    have hl : lv_has ls 7 [(4, .int v77), (3, .int v76), (6, .int dt), (0, .ref h0), (1, .int x), (2, .int y), (5, .int lq)] := hl
                    refine lv_goto (tgt := 20) hx hb d_DiscMakerModel_componentsOf_157 (by decide) ?_
                    have hP := hP.sub (ws' := [(h0, .inr (11, MO ma sv_thrown sv_length sv_nodes sv_many sv_directories sv_runsFrom sv_runs sv_read sv_wrong sv_isNamed sv_goes sv_goesSize sv_goesAt sv_targetParts sv_isRoot)), ((ma 0), .inl (cB, 400, .inl fX))]) [0, 1] rfl
                    have hD := hD.sub (ws' := [(h0, .inr (11, MO ma sv_thrown sv_length sv_nodes sv_many sv_directories sv_runsFrom sv_runs sv_read sv_wrong sv_isNamed sv_goes sv_goesSize sv_goesAt sv_targetParts sv_isRoot)), ((ma 0), .inl (cB, 400, .inl fX))]) [0, 1] (by decide +kernel) rfl
                    have hl := lv_sub hl [3, 4, 5, 1, 0] rfl
                    exact ih20 _ (by first | omega | (dsimp only; omega)) v76 v77 _ _ _ rfl ((by (try dsimp only); first | assumption | omega | trivial)) ((by (try dsimp only); first | assumption | omega | trivial)) ((by have h7 := i_cl (a := lq) (by omega); have h6 := i_cl (a := v77) (by omega); have h5 := i_cl (a := lp) (by omega); (have hm : lq.toNatClampNeg = x.toInt.toNat ∨ ((fun j => fX (y.toInt.toNat + j)) lq.toNatClampNeg).toInt = 47 := by omega); rw [show v77.toNatClampNeg = lq.toNatClampNeg + 1 by omega, cpF_hit hm])) ((by have h7 := i_cl (a := lq) (by omega); have h6 := i_cl (a := v77) (by omega); have h5 := i_cl (a := lp) (by omega); (have hm : lq.toNatClampNeg = x.toInt.toNat ∨ ((fun j => fX (y.toInt.toNat + j)) lq.toNatClampNeg).toInt = 47 := by omega); rw [show v77.toNatClampNeg = lq.toNatClampNeg + 1 by omega, cpT_hit hm, f6, f7]; unfold csz; first | (rw [if_neg (by omega)]; omega) | (rw [if_pos (by omega)]; first | (rw [if_pos (Decidable.not_not.mp (f9.f (by omega)))]; omega) | (rw [if_neg (f9.t (by omega))]; omega)))) hP hD hS hl
                  · skip
                    have g135_415 : ¬ dt.toInt = 0 := fun h8 => h_9 ((i_eq rfl (by decide)).mpr h8)
                    refine lv_iconst (v := 2) hx hb d_DiscMakerModel_componentsOf_138 (by decide) ?_
                    refine lv_goto (tgt := 149) hx hb d_DiscMakerModel_componentsOf_139 (by decide) ?_
                    refine lv_iadd hx hb d_DiscMakerModel_componentsOf_149 ?_
                    refine lv_topi (fun v78 e_v78 => ?_)
                    have t_v78 : v78.toInt = al.toInt + 2 := by rw [e_v78]; exact i_add rfl (by decide) (by omega) (by omega)
                    refine lv_istore_n hx hb d_DiscMakerModel_componentsOf_150 rfl hl (by decide) rfl (fun ls hl => ?_)
                    have hl : lv_has ls 7 [(3, .int v78), (6, .int dt), (0, .ref h0), (1, .int x), (2, .int y), (4, .int lp), (5, .int lq)] := hl
                    refine lv_iload hx hb d_DiscMakerModel_componentsOf_151 (lv_at hl 6 rfl) ?_
                    refine lv_iconst (v := 1) hx hb d_DiscMakerModel_componentsOf_153 (by decide) ?_
                    refine lv_iadd hx hb d_DiscMakerModel_componentsOf_154 ?_
                    refine lv_topi (fun v79 e_v79 => ?_)
                    have t_v79 : v79.toInt = lq.toInt + 1 := by rw [e_v79]; exact i_add rfl (by decide) (by omega) (by omega)
                    refine lv_istore hx hb d_DiscMakerModel_componentsOf_155 hl (by decide) rfl (fun ls hl => ?_)
                    have hl : lv_has ls 7 [(4, .int v79), (3, .int v78), (6, .int dt), (0, .ref h0), (1, .int x), (2, .int y), (5, .int lq)] := hl
                    refine lv_goto (tgt := 20) hx hb d_DiscMakerModel_componentsOf_157 (by decide) ?_
                    have hP := hP.sub (ws' := [(h0, .inr (11, MO ma sv_thrown sv_length sv_nodes sv_many sv_directories sv_runsFrom sv_runs sv_read sv_wrong sv_isNamed sv_goes sv_goesSize sv_goesAt sv_targetParts sv_isRoot)), ((ma 0), .inl (cB, 400, .inl fX))]) [0, 1] rfl
                    have hD := hD.sub (ws' := [(h0, .inr (11, MO ma sv_thrown sv_length sv_nodes sv_many sv_directories sv_runsFrom sv_runs sv_read sv_wrong sv_isNamed sv_goes sv_goesSize sv_goesAt sv_targetParts sv_isRoot)), ((ma 0), .inl (cB, 400, .inl fX))]) [0, 1] (by decide +kernel) rfl
                    have hl := lv_sub hl [3, 4, 5, 1, 0] rfl
                    exact ih20 _ (by first | omega | (dsimp only; omega)) v78 v79 _ _ _ rfl ((by (try dsimp only); first | assumption | omega | trivial)) ((by (try dsimp only); first | assumption | omega | trivial)) ((by have h7 := i_cl (a := lq) (by omega); have h6 := i_cl (a := v79) (by omega); have h5 := i_cl (a := lp) (by omega); (have hm : lq.toNatClampNeg = x.toInt.toNat ∨ ((fun j => fX (y.toInt.toNat + j)) lq.toNatClampNeg).toInt = 47 := by omega); rw [show v79.toNatClampNeg = lq.toNatClampNeg + 1 by omega, cpF_hit hm])) ((by have h7 := i_cl (a := lq) (by omega); have h6 := i_cl (a := v79) (by omega); have h5 := i_cl (a := lp) (by omega); (have hm : lq.toNatClampNeg = x.toInt.toNat ∨ ((fun j => fX (y.toInt.toNat + j)) lq.toNatClampNeg).toInt = 47 := by omega); rw [show v79.toNatClampNeg = lq.toNatClampNeg + 1 by omega, cpT_hit hm, f6, f7]; unfold csz; first | (rw [if_neg (by omega)]; omega) | (rw [if_pos (by omega)]; first | (rw [if_pos (Decidable.not_not.mp (f9.f (by omega)))]; omega) | (rw [if_neg (f9.t (by omega))]; omega)))) hP hD hS hl
              · skip
                intro kk123
                refine lv_iload hx hb d_DiscMakerModel_componentsOf_56 (lv_at hl 5 rfl) ?_
                refine lv_iload hx hb d_DiscMakerModel_componentsOf_58 (lv_at hl 4 rfl) ?_
                refine lv_isub hx hb d_DiscMakerModel_componentsOf_60 ?_
                refine lv_topi (fun v80 e_v80 => ?_)
                have t_v80 : v80.toInt = lq.toInt - lp.toInt := by rw [e_v80]; exact i_sub rfl rfl (by omega) (by omega)
                refine lv_iconst (v := 1) hx hb d_DiscMakerModel_componentsOf_61 (by decide) ?_
                refine lv_icmp_ne (tgt := 79) hx hb d_DiscMakerModel_componentsOf_62 (by decide) (fun h_9 => ?_) (fun h_9 => ?_)
                · skip
                  have g62_443 : ¬ v80.toInt = 1 := fun h8 => h_9 ((i_eq rfl (by decide)).mpr h8)
                  refine lv_iload hx hb d_DiscMakerModel_componentsOf_79 (lv_at hl 5 rfl) ?_
                  refine lv_iload hx hb d_DiscMakerModel_componentsOf_81 (lv_at hl 4 rfl) ?_
                  refine lv_isub hx hb d_DiscMakerModel_componentsOf_83 ?_
                  refine lv_topi (fun v81 e_v81 => ?_)
                  have t_v81 : v81.toInt = lq.toInt - lp.toInt := by rw [e_v81]; exact i_sub rfl rfl (by omega) (by omega)
                  refine lv_iconst (v := 2) hx hb d_DiscMakerModel_componentsOf_84 (by decide) ?_
                  refine lv_icmp_ne (tgt := 122) hx hb d_DiscMakerModel_componentsOf_85 (by decide) (fun h_9 => ?_) (fun h_9 => ?_)
                  · skip
                    have g85_448 : ¬ v81.toInt = 2 := fun h8 => h_9 ((i_eq rfl (by decide)).mpr h8)
                    refine lv_iconst (v := 0) hx hb d_DiscMakerModel_componentsOf_122 (by decide) ?_
                    have hP := hP.sub (ws' := [(h0, .inr (11, MO ma sv_thrown sv_length sv_nodes sv_many sv_directories sv_runsFrom sv_runs sv_read sv_wrong sv_isNamed sv_goes sv_goesSize sv_goesAt sv_targetParts sv_isRoot)), ((ma 0), .inl (cB, 400, .inl fX))]) [0, 1] rfl
                    have hD := hD.sub (ws' := [(h0, .inr (11, MO ma sv_thrown sv_length sv_nodes sv_many sv_directories sv_runsFrom sv_runs sv_read sv_wrong sv_isNamed sv_goes sv_goesSize sv_goesAt sv_targetParts sv_isRoot)), ((ma 0), .inl (cB, 400, .inl fX))]) [0, 1] (by decide +kernel) rfl
                    have hl := lv_sub hl [0, 1, 2, 3, 4, 5] rfl
                    exact kk123 _ 0 _ _ _ rfl ((by have h7 := i_cl (a := lq) (by omega); have h5 := i_cl (a := lp) (by omega); first | exact BoolIs.yes (by unfold mrk; first | (rw [if_pos (by omega), if_pos (by omega)]; decide) | (rw [if_pos (by omega), if_neg (by omega), if_pos ⟨by omega, by omega⟩]; decide)) | exact BoolIs.no (by unfold mrk; first | (rw [if_neg (by omega)]; decide) | (rw [if_pos (by omega), if_neg (by omega), if_neg (fun h8 => by have h9 := h8.2; omega)]; decide) | (rw [if_pos (by omega), if_neg (by omega), if_neg (fun h8 => by have h9 := h8.1; omega)]; decide) | (by_cases hq : ((fun j => fX (y.toInt.toNat + j)) lp.toNatClampNeg).toInt = 46 <;> first | (rw [if_pos hq, if_neg (by omega), if_neg (fun h8 => by have h9 := h8.1; omega)]; decide) | (rw [if_neg hq]; decide))))) hP hD hS hl
                  · skip
                    have g85_448 : v81.toInt = 2 := (i_eq rfl (by decide)).mp h_9
                    refine lv_aload_n hx hb d_DiscMakerModel_componentsOf_88 rfl (lv_at hl 0 rfl) ?_
                    refine va_get (D := D) (ci := 11) (v := .ref (ma 0)) (C := "DiscMakerModel") (T := F_DiscMakerModel) (N := 48) hx hb ht9 in_DiscMakerModel hown hK hP 0 rfl rfl 1 (by decide) (ht9 _ k1432) (fun _ h9 => h9) rfl d_DiscMakerModel_componentsOf_89 ?_
                    refine lv_iload_n hx hb d_DiscMakerModel_componentsOf_92 rfl (lv_at hl 2 rfl) ?_
                    refine lv_iload hx hb d_DiscMakerModel_componentsOf_93 (lv_at hl 4 rfl) ?_
                    refine lv_iadd hx hb d_DiscMakerModel_componentsOf_95 ?_
                    refine lv_topi (fun v82 e_v82 => ?_)
                    have t_v82 : v82.toInt = y.toInt + lp.toInt := by rw [e_v82]; exact i_add rfl rfl (by omega) (by omega)
                    refine va_bald hx hb hK hP 1 0 rfl rfl (vp_in_iff.mpr ⟨by omega, by omega⟩) d_DiscMakerModel_componentsOf_96 ?_
                    refine lv_topi (fun v83 e_v83 => ?_)
                    have w_v83 : v83.toInt = ((fun j => fX (y.toInt.toNat + j)) (lp.toNatClampNeg)).toInt := by have h7 := i_cl (a := v82) (by omega); have h5 := i_cl (a := lp) (by omega); (have h6 : v82.toNatClampNeg = y.toInt.toNat + (lp.toNatClampNeg) := by omega); show v83.toInt = (fX (y.toInt.toNat + (lp.toNatClampNeg))).toInt; rw [← h6, ← e_v83]
                    refine lv_bipush (v := 46) hx hb d_DiscMakerModel_componentsOf_97 (by decide) ?_
                    refine lv_icmp_ne (tgt := 122) hx hb d_DiscMakerModel_componentsOf_99 (by decide) (fun h_9 => ?_) (fun h_9 => ?_)
                    · skip
                      have g99_458 : ¬ v83.toInt = 46 := fun h8 => h_9 ((i_eq rfl (by decide)).mpr h8)
                      refine lv_iconst (v := 0) hx hb d_DiscMakerModel_componentsOf_122 (by decide) ?_
                      have hP := hP.sub (ws' := [(h0, .inr (11, MO ma sv_thrown sv_length sv_nodes sv_many sv_directories sv_runsFrom sv_runs sv_read sv_wrong sv_isNamed sv_goes sv_goesSize sv_goesAt sv_targetParts sv_isRoot)), ((ma 0), .inl (cB, 400, .inl fX))]) [0, 1] rfl
                      have hD := hD.sub (ws' := [(h0, .inr (11, MO ma sv_thrown sv_length sv_nodes sv_many sv_directories sv_runsFrom sv_runs sv_read sv_wrong sv_isNamed sv_goes sv_goesSize sv_goesAt sv_targetParts sv_isRoot)), ((ma 0), .inl (cB, 400, .inl fX))]) [0, 1] (by decide +kernel) rfl
                      have hl := lv_sub hl [0, 1, 2, 3, 4, 5] rfl
                      exact kk123 _ 0 _ _ _ rfl ((by have h7 := i_cl (a := lq) (by omega); have h5 := i_cl (a := lp) (by omega); first | exact BoolIs.yes (by unfold mrk; first | (rw [if_pos (by omega), if_pos (by omega)]; decide) | (rw [if_pos (by omega), if_neg (by omega), if_pos ⟨by omega, by omega⟩]; decide)) | exact BoolIs.no (by unfold mrk; first | (rw [if_neg (by omega)]; decide) | (rw [if_pos (by omega), if_neg (by omega), if_neg (fun h8 => by have h9 := h8.2; omega)]; decide) | (rw [if_pos (by omega), if_neg (by omega), if_neg (fun h8 => by have h9 := h8.1; omega)]; decide) | (by_cases hq : ((fun j => fX (y.toInt.toNat + j)) lp.toNatClampNeg).toInt = 46 <;> first | (rw [if_pos hq, if_neg (by omega), if_neg (fun h8 => by have h9 := h8.1; omega)]; decide) | (rw [if_neg hq]; decide))))) hP hD hS hl
                    · skip
                      have g99_458 : v83.toInt = 46 := (i_eq rfl (by decide)).mp h_9
                      refine lv_aload_n hx hb d_DiscMakerModel_componentsOf_102 rfl (lv_at hl 0 rfl) ?_
                      refine va_get (D := D) (ci := 11) (v := .ref (ma 0)) (C := "DiscMakerModel") (T := F_DiscMakerModel) (N := 48) hx hb ht9 in_DiscMakerModel hown hK hP 0 rfl rfl 1 (by decide) (ht9 _ k1432) (fun _ h9 => h9) rfl d_DiscMakerModel_componentsOf_103 ?_
                      refine lv_iload_n hx hb d_DiscMakerModel_componentsOf_106 rfl (lv_at hl 2 rfl) ?_
                      refine lv_iload hx hb d_DiscMakerModel_componentsOf_107 (lv_at hl 4 rfl) ?_
                      refine lv_iadd hx hb d_DiscMakerModel_componentsOf_109 ?_
                      refine lv_topi (fun v84 e_v84 => ?_)
                      have t_v84 : v84.toInt = y.toInt + lp.toInt := by rw [e_v84]; exact i_add rfl rfl (by omega) (by omega)
                      refine lv_iconst (v := 1) hx hb d_DiscMakerModel_componentsOf_110 (by decide) ?_
                      refine lv_iadd hx hb d_DiscMakerModel_componentsOf_111 ?_
                      refine lv_topi (fun v85 e_v85 => ?_)
                      have t_v85 : v85.toInt = v84.toInt + 1 := by rw [e_v85]; exact i_add rfl (by decide) (by omega) (by omega)
                      refine va_bald hx hb hK hP 1 0 rfl rfl (vp_in_iff.mpr ⟨by omega, by omega⟩) d_DiscMakerModel_componentsOf_112 ?_
                      refine lv_topi (fun v86 e_v86 => ?_)
                      have w_v86 : v86.toInt = ((fun j => fX (y.toInt.toNat + j)) (lp.toNatClampNeg + 1)).toInt := by have h7 := i_cl (a := v85) (by omega); have h5 := i_cl (a := lp) (by omega); (have h6 : v85.toNatClampNeg = y.toInt.toNat + (lp.toNatClampNeg + 1) := by omega); show v86.toInt = (fX (y.toInt.toNat + (lp.toNatClampNeg + 1))).toInt; rw [← h6, ← e_v86]
                      refine lv_bipush (v := 46) hx hb d_DiscMakerModel_componentsOf_113 (by decide) ?_
                      refine lv_icmp_ne (tgt := 122) hx hb d_DiscMakerModel_componentsOf_115 (by decide) (fun h_9 => ?_) (fun h_9 => ?_)
                      · skip
                        have g115_470 : ¬ v86.toInt = 46 := fun h8 => h_9 ((i_eq rfl (by decide)).mpr h8)
                        refine lv_iconst (v := 0) hx hb d_DiscMakerModel_componentsOf_122 (by decide) ?_
                        have hP := hP.sub (ws' := [(h0, .inr (11, MO ma sv_thrown sv_length sv_nodes sv_many sv_directories sv_runsFrom sv_runs sv_read sv_wrong sv_isNamed sv_goes sv_goesSize sv_goesAt sv_targetParts sv_isRoot)), ((ma 0), .inl (cB, 400, .inl fX))]) [0, 1] rfl
                        have hD := hD.sub (ws' := [(h0, .inr (11, MO ma sv_thrown sv_length sv_nodes sv_many sv_directories sv_runsFrom sv_runs sv_read sv_wrong sv_isNamed sv_goes sv_goesSize sv_goesAt sv_targetParts sv_isRoot)), ((ma 0), .inl (cB, 400, .inl fX))]) [0, 1] (by decide +kernel) rfl
                        have hl := lv_sub hl [0, 1, 2, 3, 4, 5] rfl
                        exact kk123 _ 0 _ _ _ rfl ((by have h7 := i_cl (a := lq) (by omega); have h5 := i_cl (a := lp) (by omega); first | exact BoolIs.yes (by unfold mrk; first | (rw [if_pos (by omega), if_pos (by omega)]; decide) | (rw [if_pos (by omega), if_neg (by omega), if_pos ⟨by omega, by omega⟩]; decide)) | exact BoolIs.no (by unfold mrk; first | (rw [if_neg (by omega)]; decide) | (rw [if_pos (by omega), if_neg (by omega), if_neg (fun h8 => by have h9 := h8.2; omega)]; decide) | (rw [if_pos (by omega), if_neg (by omega), if_neg (fun h8 => by have h9 := h8.1; omega)]; decide) | (by_cases hq : ((fun j => fX (y.toInt.toNat + j)) lp.toNatClampNeg).toInt = 46 <;> first | (rw [if_pos hq, if_neg (by omega), if_neg (fun h8 => by have h9 := h8.1; omega)]; decide) | (rw [if_neg hq]; decide))))) hP hD hS hl
                      · skip
                        have g115_470 : v86.toInt = 46 := (i_eq rfl (by decide)).mp h_9
                        refine lv_iconst (v := 1) hx hb d_DiscMakerModel_componentsOf_118 (by decide) ?_
                        refine lv_goto (tgt := 123) hx hb d_DiscMakerModel_componentsOf_119 (by decide) ?_
                        have hP := hP.sub (ws' := [(h0, .inr (11, MO ma sv_thrown sv_length sv_nodes sv_many sv_directories sv_runsFrom sv_runs sv_read sv_wrong sv_isNamed sv_goes sv_goesSize sv_goesAt sv_targetParts sv_isRoot)), ((ma 0), .inl (cB, 400, .inl fX))]) [0, 1] rfl
                        have hD := hD.sub (ws' := [(h0, .inr (11, MO ma sv_thrown sv_length sv_nodes sv_many sv_directories sv_runsFrom sv_runs sv_read sv_wrong sv_isNamed sv_goes sv_goesSize sv_goesAt sv_targetParts sv_isRoot)), ((ma 0), .inl (cB, 400, .inl fX))]) [0, 1] (by decide +kernel) rfl
                        have hl := lv_sub hl [0, 1, 2, 3, 4, 5] rfl
                        exact kk123 _ 1 _ _ _ rfl ((by have h7 := i_cl (a := lq) (by omega); have h5 := i_cl (a := lp) (by omega); first | exact BoolIs.yes (by unfold mrk; first | (rw [if_pos (by omega), if_pos (by omega)]; decide) | (rw [if_pos (by omega), if_neg (by omega), if_pos ⟨by omega, by omega⟩]; decide)) | exact BoolIs.no (by unfold mrk; first | (rw [if_neg (by omega)]; decide) | (rw [if_pos (by omega), if_neg (by omega), if_neg (fun h8 => by have h9 := h8.2; omega)]; decide) | (rw [if_pos (by omega), if_neg (by omega), if_neg (fun h8 => by have h9 := h8.1; omega)]; decide) | (by_cases hq : ((fun j => fX (y.toInt.toNat + j)) lp.toNatClampNeg).toInt = 46 <;> first | (rw [if_pos hq, if_neg (by omega), if_neg (fun h8 => by have h9 := h8.1; omega)]; decide) | (rw [if_neg hq]; decide))))) hP hD hS hl
                · skip
                  have g62_443 : v80.toInt = 1 := (i_eq rfl (by decide)).mp h_9
                  refine lv_aload_n hx hb d_DiscMakerModel_componentsOf_65 rfl (lv_at hl 0 rfl) ?_
                  refine va_get (D := D) (ci := 11) (v := .ref (ma 0)) (C := "DiscMakerModel") (T := F_DiscMakerModel) (N := 48) hx hb ht9 in_DiscMakerModel hown hK hP 0 rfl rfl 1 (by decide) (ht9 _ k1432) (fun _ h9 => h9) rfl d_DiscMakerModel_componentsOf_66 ?_
                  refine lv_iload_n hx hb d_DiscMakerModel_componentsOf_69 rfl (lv_at hl 2 rfl) ?_
                  refine lv_iload hx hb d_DiscMakerModel_componentsOf_70 (lv_at hl 4 rfl) ?_
                  refine lv_iadd hx hb d_DiscMakerModel_componentsOf_72 ?_
                  refine lv_topi (fun v87 e_v87 => ?_)
                  have t_v87 : v87.toInt = y.toInt + lp.toInt := by rw [e_v87]; exact i_add rfl rfl (by omega) (by omega)
                  refine va_bald hx hb hK hP 1 0 rfl rfl (vp_in_iff.mpr ⟨by omega, by omega⟩) d_DiscMakerModel_componentsOf_73 ?_
                  refine lv_topi (fun v88 e_v88 => ?_)
                  have w_v88 : v88.toInt = ((fun j => fX (y.toInt.toNat + j)) (lp.toNatClampNeg)).toInt := by have h7 := i_cl (a := v87) (by omega); have h5 := i_cl (a := lp) (by omega); (have h6 : v87.toNatClampNeg = y.toInt.toNat + (lp.toNatClampNeg) := by omega); show v88.toInt = (fX (y.toInt.toNat + (lp.toNatClampNeg))).toInt; rw [← h6, ← e_v88]
                  refine lv_bipush (v := 46) hx hb d_DiscMakerModel_componentsOf_74 (by decide) ?_
                  refine lv_icmp_eq (tgt := 118) hx hb d_DiscMakerModel_componentsOf_76 (by decide) (fun h_9 => ?_) (fun h_9 => ?_)
                  · skip
                    have g76_483 : v88.toInt = 46 := (i_eq rfl (by decide)).mp h_9
                    refine lv_iconst (v := 1) hx hb d_DiscMakerModel_componentsOf_118 (by decide) ?_
                    refine lv_goto (tgt := 123) hx hb d_DiscMakerModel_componentsOf_119 (by decide) ?_
                    have hP := hP.sub (ws' := [(h0, .inr (11, MO ma sv_thrown sv_length sv_nodes sv_many sv_directories sv_runsFrom sv_runs sv_read sv_wrong sv_isNamed sv_goes sv_goesSize sv_goesAt sv_targetParts sv_isRoot)), ((ma 0), .inl (cB, 400, .inl fX))]) [0, 1] rfl
                    have hD := hD.sub (ws' := [(h0, .inr (11, MO ma sv_thrown sv_length sv_nodes sv_many sv_directories sv_runsFrom sv_runs sv_read sv_wrong sv_isNamed sv_goes sv_goesSize sv_goesAt sv_targetParts sv_isRoot)), ((ma 0), .inl (cB, 400, .inl fX))]) [0, 1] (by decide +kernel) rfl
                    have hl := lv_sub hl [0, 1, 2, 3, 4, 5] rfl
                    exact kk123 _ 1 _ _ _ rfl ((by have h7 := i_cl (a := lq) (by omega); have h5 := i_cl (a := lp) (by omega); first | exact BoolIs.yes (by unfold mrk; first | (rw [if_pos (by omega), if_pos (by omega)]; decide) | (rw [if_pos (by omega), if_neg (by omega), if_pos ⟨by omega, by omega⟩]; decide)) | exact BoolIs.no (by unfold mrk; first | (rw [if_neg (by omega)]; decide) | (rw [if_pos (by omega), if_neg (by omega), if_neg (fun h8 => by have h9 := h8.2; omega)]; decide) | (rw [if_pos (by omega), if_neg (by omega), if_neg (fun h8 => by have h9 := h8.1; omega)]; decide) | (by_cases hq : ((fun j => fX (y.toInt.toNat + j)) lp.toNatClampNeg).toInt = 46 <;> first | (rw [if_pos hq, if_neg (by omega), if_neg (fun h8 => by have h9 := h8.1; omega)]; decide) | (rw [if_neg hq]; decide))))) hP hD hS hl
                  · skip
                    have g76_483 : ¬ v88.toInt = 46 := fun h8 => h_9 ((i_eq rfl (by decide)).mpr h8)
                    refine lv_iload hx hb d_DiscMakerModel_componentsOf_79 (lv_at hl 5 rfl) ?_
                    refine lv_iload hx hb d_DiscMakerModel_componentsOf_81 (lv_at hl 4 rfl) ?_
                    refine lv_isub hx hb d_DiscMakerModel_componentsOf_83 ?_
                    refine lv_topi (fun v89 e_v89 => ?_)
                    have t_v89 : v89.toInt = lq.toInt - lp.toInt := by rw [e_v89]; exact i_sub rfl rfl (by omega) (by omega)
                    refine lv_iconst (v := 2) hx hb d_DiscMakerModel_componentsOf_84 (by decide) ?_
                    refine lv_icmp_ne (tgt := 122) hx hb d_DiscMakerModel_componentsOf_85 (by decide) (fun h_9 => ?_) (fun h_9 => ?_)
                    · skip
                      have g85_491 : ¬ v89.toInt = 2 := fun h8 => h_9 ((i_eq rfl (by decide)).mpr h8)
                      refine lv_iconst (v := 0) hx hb d_DiscMakerModel_componentsOf_122 (by decide) ?_
                      have hP := hP.sub (ws' := [(h0, .inr (11, MO ma sv_thrown sv_length sv_nodes sv_many sv_directories sv_runsFrom sv_runs sv_read sv_wrong sv_isNamed sv_goes sv_goesSize sv_goesAt sv_targetParts sv_isRoot)), ((ma 0), .inl (cB, 400, .inl fX))]) [0, 1] rfl
                      have hD := hD.sub (ws' := [(h0, .inr (11, MO ma sv_thrown sv_length sv_nodes sv_many sv_directories sv_runsFrom sv_runs sv_read sv_wrong sv_isNamed sv_goes sv_goesSize sv_goesAt sv_targetParts sv_isRoot)), ((ma 0), .inl (cB, 400, .inl fX))]) [0, 1] (by decide +kernel) rfl
                      have hl := lv_sub hl [0, 1, 2, 3, 4, 5] rfl
                      exact kk123 _ 0 _ _ _ rfl ((by have h7 := i_cl (a := lq) (by omega); have h5 := i_cl (a := lp) (by omega); first | exact BoolIs.yes (by unfold mrk; first | (rw [if_pos (by omega), if_pos (by omega)]; decide) | (rw [if_pos (by omega), if_neg (by omega), if_pos ⟨by omega, by omega⟩]; decide)) | exact BoolIs.no (by unfold mrk; first | (rw [if_neg (by omega)]; decide) | (rw [if_pos (by omega), if_neg (by omega), if_neg (fun h8 => by have h9 := h8.2; omega)]; decide) | (rw [if_pos (by omega), if_neg (by omega), if_neg (fun h8 => by have h9 := h8.1; omega)]; decide) | (by_cases hq : ((fun j => fX (y.toInt.toNat + j)) lp.toNatClampNeg).toInt = 46 <;> first | (rw [if_pos hq, if_neg (by omega), if_neg (fun h8 => by have h9 := h8.1; omega)]; decide) | (rw [if_neg hq]; decide))))) hP hD hS hl
                    · skip
                      have g85_491 : v89.toInt = 2 := (i_eq rfl (by decide)).mp h_9
                      refine lv_aload_n hx hb d_DiscMakerModel_componentsOf_88 rfl (lv_at hl 0 rfl) ?_
                      refine va_get (D := D) (ci := 11) (v := .ref (ma 0)) (C := "DiscMakerModel") (T := F_DiscMakerModel) (N := 48) hx hb ht9 in_DiscMakerModel hown hK hP 0 rfl rfl 1 (by decide) (ht9 _ k1432) (fun _ h9 => h9) rfl d_DiscMakerModel_componentsOf_89 ?_
                      refine lv_iload_n hx hb d_DiscMakerModel_componentsOf_92 rfl (lv_at hl 2 rfl) ?_
                      refine lv_iload hx hb d_DiscMakerModel_componentsOf_93 (lv_at hl 4 rfl) ?_
                      refine lv_iadd hx hb d_DiscMakerModel_componentsOf_95 ?_
                      refine lv_topi (fun v90 e_v90 => ?_)
                      have t_v90 : v90.toInt = y.toInt + lp.toInt := by rw [e_v90]; exact i_add rfl rfl (by omega) (by omega)
                      refine va_bald hx hb hK hP 1 0 rfl rfl (vp_in_iff.mpr ⟨by omega, by omega⟩) d_DiscMakerModel_componentsOf_96 ?_
                      refine lv_topi (fun v91 e_v91 => ?_)
                      have w_v91 : v91.toInt = ((fun j => fX (y.toInt.toNat + j)) (lp.toNatClampNeg)).toInt := by have h7 := i_cl (a := v90) (by omega); have h5 := i_cl (a := lp) (by omega); (have h6 : v90.toNatClampNeg = y.toInt.toNat + (lp.toNatClampNeg) := by omega); show v91.toInt = (fX (y.toInt.toNat + (lp.toNatClampNeg))).toInt; rw [← h6, ← e_v91]
                      refine lv_bipush (v := 46) hx hb d_DiscMakerModel_componentsOf_97 (by decide) ?_
                      refine lv_icmp_ne (tgt := 122) hx hb d_DiscMakerModel_componentsOf_99 (by decide) (fun h_9 => ?_) (fun h_9 => ?_)
                      · skip
                        have g99_501 : ¬ v91.toInt = 46 := fun h8 => h_9 ((i_eq rfl (by decide)).mpr h8)
                        refine lv_iconst (v := 0) hx hb d_DiscMakerModel_componentsOf_122 (by decide) ?_
                        have hP := hP.sub (ws' := [(h0, .inr (11, MO ma sv_thrown sv_length sv_nodes sv_many sv_directories sv_runsFrom sv_runs sv_read sv_wrong sv_isNamed sv_goes sv_goesSize sv_goesAt sv_targetParts sv_isRoot)), ((ma 0), .inl (cB, 400, .inl fX))]) [0, 1] rfl
                        have hD := hD.sub (ws' := [(h0, .inr (11, MO ma sv_thrown sv_length sv_nodes sv_many sv_directories sv_runsFrom sv_runs sv_read sv_wrong sv_isNamed sv_goes sv_goesSize sv_goesAt sv_targetParts sv_isRoot)), ((ma 0), .inl (cB, 400, .inl fX))]) [0, 1] (by decide +kernel) rfl
                        have hl := lv_sub hl [0, 1, 2, 3, 4, 5] rfl
                        exact kk123 _ 0 _ _ _ rfl ((by have h7 := i_cl (a := lq) (by omega); have h5 := i_cl (a := lp) (by omega); first | exact BoolIs.yes (by unfold mrk; first | (rw [if_pos (by omega), if_pos (by omega)]; decide) | (rw [if_pos (by omega), if_neg (by omega), if_pos ⟨by omega, by omega⟩]; decide)) | exact BoolIs.no (by unfold mrk; first | (rw [if_neg (by omega)]; decide) | (rw [if_pos (by omega), if_neg (by omega), if_neg (fun h8 => by have h9 := h8.2; omega)]; decide) | (rw [if_pos (by omega), if_neg (by omega), if_neg (fun h8 => by have h9 := h8.1; omega)]; decide) | (by_cases hq : ((fun j => fX (y.toInt.toNat + j)) lp.toNatClampNeg).toInt = 46 <;> first | (rw [if_pos hq, if_neg (by omega), if_neg (fun h8 => by have h9 := h8.1; omega)]; decide) | (rw [if_neg hq]; decide))))) hP hD hS hl
                      · skip
                        have g99_501 : v91.toInt = 46 := (i_eq rfl (by decide)).mp h_9
                        refine lv_aload_n hx hb d_DiscMakerModel_componentsOf_102 rfl (lv_at hl 0 rfl) ?_
                        refine va_get (D := D) (ci := 11) (v := .ref (ma 0)) (C := "DiscMakerModel") (T := F_DiscMakerModel) (N := 48) hx hb ht9 in_DiscMakerModel hown hK hP 0 rfl rfl 1 (by decide) (ht9 _ k1432) (fun _ h9 => h9) rfl d_DiscMakerModel_componentsOf_103 ?_
                        refine lv_iload_n hx hb d_DiscMakerModel_componentsOf_106 rfl (lv_at hl 2 rfl) ?_
                        refine lv_iload hx hb d_DiscMakerModel_componentsOf_107 (lv_at hl 4 rfl) ?_
                        refine lv_iadd hx hb d_DiscMakerModel_componentsOf_109 ?_
                        refine lv_topi (fun v92 e_v92 => ?_)
                        have t_v92 : v92.toInt = y.toInt + lp.toInt := by rw [e_v92]; exact i_add rfl rfl (by omega) (by omega)
                        refine lv_iconst (v := 1) hx hb d_DiscMakerModel_componentsOf_110 (by decide) ?_
                        refine lv_iadd hx hb d_DiscMakerModel_componentsOf_111 ?_
                        refine lv_topi (fun v93 e_v93 => ?_)
                        have t_v93 : v93.toInt = v92.toInt + 1 := by rw [e_v93]; exact i_add rfl (by decide) (by omega) (by omega)
                        refine va_bald hx hb hK hP 1 0 rfl rfl (vp_in_iff.mpr ⟨by omega, by omega⟩) d_DiscMakerModel_componentsOf_112 ?_
                        refine lv_topi (fun v94 e_v94 => ?_)
                        have w_v94 : v94.toInt = ((fun j => fX (y.toInt.toNat + j)) (lp.toNatClampNeg + 1)).toInt := by have h7 := i_cl (a := v93) (by omega); have h5 := i_cl (a := lp) (by omega); (have h6 : v93.toNatClampNeg = y.toInt.toNat + (lp.toNatClampNeg + 1) := by omega); show v94.toInt = (fX (y.toInt.toNat + (lp.toNatClampNeg + 1))).toInt; rw [← h6, ← e_v94]
                        refine lv_bipush (v := 46) hx hb d_DiscMakerModel_componentsOf_113 (by decide) ?_
                        refine lv_icmp_ne (tgt := 122) hx hb d_DiscMakerModel_componentsOf_115 (by decide) (fun h_9 => ?_) (fun h_9 => ?_)
                        · skip
                          have g115_513 : ¬ v94.toInt = 46 := fun h8 => h_9 ((i_eq rfl (by decide)).mpr h8)
                          refine lv_iconst (v := 0) hx hb d_DiscMakerModel_componentsOf_122 (by decide) ?_
                          have hP := hP.sub (ws' := [(h0, .inr (11, MO ma sv_thrown sv_length sv_nodes sv_many sv_directories sv_runsFrom sv_runs sv_read sv_wrong sv_isNamed sv_goes sv_goesSize sv_goesAt sv_targetParts sv_isRoot)), ((ma 0), .inl (cB, 400, .inl fX))]) [0, 1] rfl
                          have hD := hD.sub (ws' := [(h0, .inr (11, MO ma sv_thrown sv_length sv_nodes sv_many sv_directories sv_runsFrom sv_runs sv_read sv_wrong sv_isNamed sv_goes sv_goesSize sv_goesAt sv_targetParts sv_isRoot)), ((ma 0), .inl (cB, 400, .inl fX))]) [0, 1] (by decide +kernel) rfl
                          have hl := lv_sub hl [0, 1, 2, 3, 4, 5] rfl
                          exact kk123 _ 0 _ _ _ rfl ((by have h7 := i_cl (a := lq) (by omega); have h5 := i_cl (a := lp) (by omega); first | exact BoolIs.yes (by unfold mrk; first | (rw [if_pos (by omega), if_pos (by omega)]; decide) | (rw [if_pos (by omega), if_neg (by omega), if_pos ⟨by omega, by omega⟩]; decide)) | exact BoolIs.no (by unfold mrk; first | (rw [if_neg (by omega)]; decide) | (rw [if_pos (by omega), if_neg (by omega), if_neg (fun h8 => by have h9 := h8.2; omega)]; decide) | (rw [if_pos (by omega), if_neg (by omega), if_neg (fun h8 => by have h9 := h8.1; omega)]; decide) | (by_cases hq : ((fun j => fX (y.toInt.toNat + j)) lp.toNatClampNeg).toInt = 46 <;> first | (rw [if_pos hq, if_neg (by omega), if_neg (fun h8 => by have h9 := h8.1; omega)]; decide) | (rw [if_neg hq]; decide))))) hP hD hS hl
                        · skip
                          have g115_513 : v94.toInt = 46 := (i_eq rfl (by decide)).mp h_9
                          refine lv_iconst (v := 1) hx hb d_DiscMakerModel_componentsOf_118 (by decide) ?_
                          refine lv_goto (tgt := 123) hx hb d_DiscMakerModel_componentsOf_119 (by decide) ?_
                          have hP := hP.sub (ws' := [(h0, .inr (11, MO ma sv_thrown sv_length sv_nodes sv_many sv_directories sv_runsFrom sv_runs sv_read sv_wrong sv_isNamed sv_goes sv_goesSize sv_goesAt sv_targetParts sv_isRoot)), ((ma 0), .inl (cB, 400, .inl fX))]) [0, 1] rfl
                          have hD := hD.sub (ws' := [(h0, .inr (11, MO ma sv_thrown sv_length sv_nodes sv_many sv_directories sv_runsFrom sv_runs sv_read sv_wrong sv_isNamed sv_goes sv_goesSize sv_goesAt sv_targetParts sv_isRoot)), ((ma 0), .inl (cB, 400, .inl fX))]) [0, 1] (by decide +kernel) rfl
                          have hl := lv_sub hl [0, 1, 2, 3, 4, 5] rfl
                          exact kk123 _ 1 _ _ _ rfl ((by have h7 := i_cl (a := lq) (by omega); have h5 := i_cl (a := lp) (by omega); first | exact BoolIs.yes (by unfold mrk; first | (rw [if_pos (by omega), if_pos (by omega)]; decide) | (rw [if_pos (by omega), if_neg (by omega), if_pos ⟨by omega, by omega⟩]; decide)) | exact BoolIs.no (by unfold mrk; first | (rw [if_neg (by omega)]; decide) | (rw [if_pos (by omega), if_neg (by omega), if_neg (fun h8 => by have h9 := h8.2; omega)]; decide) | (rw [if_pos (by omega), if_neg (by omega), if_neg (fun h8 => by have h9 := h8.1; omega)]; decide) | (by_cases hq : ((fun j => fX (y.toInt.toNat + j)) lp.toNatClampNeg).toInt = 46 <;> first | (rw [if_pos hq, if_neg (by omega), if_neg (fun h8 => by have h9 := h8.1; omega)]; decide) | (rw [if_neg hq]; decide))))) hP hD hS hl
            · skip
              have g47_402 : ¬ v72.toInt = 47 := fun h8 => h_9 ((i_eq rfl (by decide)).mpr h8)
              obtain ⟨v95, e_v95⟩ : ∃ z : Int32, z = lq + 1 := ⟨_, rfl⟩
              refine lv_iinc (v := v95) hx hb d_DiscMakerModel_componentsOf_50 hl (k := 5) rfl e_v95.symm (by decide +kernel) rfl (fun ls hl => ?_)
              have t_v95 : v95.toInt = lq.toInt + 1 := by rw [e_v95]; exact i_add rfl (by decide) (by omega) (by omega)
              have hl : lv_has ls 7 [(5, .int v95), (0, .ref h0), (1, .int x), (2, .int y), (3, .int al), (4, .int lp)] := hl
              refine lv_goto (tgt := 30) hx hb d_DiscMakerModel_componentsOf_53 (by decide) ?_
              have hP := hP.sub (ws' := [(h0, .inr (11, MO ma sv_thrown sv_length sv_nodes sv_many sv_directories sv_runsFrom sv_runs sv_read sv_wrong sv_isNamed sv_goes sv_goesSize sv_goesAt sv_targetParts sv_isRoot)), ((ma 0), .inl (cB, 400, .inl fX))]) [0, 1] rfl
              have hD := hD.sub (ws' := [(h0, .inr (11, MO ma sv_thrown sv_length sv_nodes sv_many sv_directories sv_runsFrom sv_runs sv_read sv_wrong sv_isNamed sv_goes sv_goesSize sv_goesAt sv_targetParts sv_isRoot)), ((ma 0), .inl (cB, 400, .inl fX))]) [0, 1] (by decide +kernel) rfl
              have hl := lv_sub hl [1, 2, 3, 4, 5, 0] rfl
              exact ih30 _ (by first | omega | (dsimp only; omega)) v95 _ _ _ rfl ((by (try dsimp only); first | assumption | omega | trivial)) ((by have h7 := i_cl (a := lq) (by omega); have h6 := i_cl (a := v95) (by omega); (have hm : ¬ (lq.toNatClampNeg = x.toInt.toNat ∨ ((fun j => fX (y.toInt.toNat + j)) lq.toNatClampNeg).toInt = 47) := by omega); rw [show v95.toNatClampNeg = lq.toNatClampNeg + 1 by omega, cpF_miss hm]; exact f6)) ((by have h7 := i_cl (a := lq) (by omega); have h6 := i_cl (a := v95) (by omega); (have hm : ¬ (lq.toNatClampNeg = x.toInt.toNat ∨ ((fun j => fX (y.toInt.toNat + j)) lq.toNatClampNeg).toInt = 47) := by omega); rw [show v95.toNatClampNeg = lq.toNatClampNeg + 1 by omega, cpT_miss hm]; exact f7)) hP hD hS hl
        · skip
          intro kk30
          have hP := hP.sub (ws' := [(h0, .inr (11, MO ma sv_thrown sv_length sv_nodes sv_many sv_directories sv_runsFrom sv_runs sv_read sv_wrong sv_isNamed sv_goes sv_goesSize sv_goesAt sv_targetParts sv_isRoot)), ((ma 0), .inl (cB, 400, .inl fX))]) [0, 1] rfl
          have hD := hD.sub (ws' := [(h0, .inr (11, MO ma sv_thrown sv_length sv_nodes sv_many sv_directories sv_runsFrom sv_runs sv_read sv_wrong sv_isNamed sv_goes sv_goesSize sv_goesAt sv_targetParts sv_isRoot)), ((ma 0), .inl (cB, 400, .inl fX))]) [0, 1] (by decide +kernel) rfl
          have hl := lv_sub hl [1, 2, 3, 4, 5, 0] rfl
          exact kk30 _ lp _ _ _ rfl ((by (try dsimp only); first | assumption | omega | trivial)) (f4) (rfl) hP hD hS hl
    · skip
      intro kk20
      have hP := hP.sub (ws' := [(h0, .inr (11, MO ma sv_thrown sv_length sv_nodes sv_many sv_directories sv_runsFrom sv_runs sv_read sv_wrong sv_isNamed sv_goes sv_goesSize sv_goesAt sv_targetParts sv_isRoot)), ((ma 0), .inl (cB, 400, .inl fX))]) [0, 1] rfl
      have hD := hD.sub (ws' := [(h0, .inr (11, MO ma sv_thrown sv_length sv_nodes sv_many sv_directories sv_runsFrom sv_runs sv_read sv_wrong sv_isNamed sv_goes sv_goesSize sv_goesAt sv_targetParts sv_isRoot)), ((ma 0), .inl (cB, 400, .inl fX))]) [0, 1] (by decide +kernel) rfl
      have hl := lv_sub hl [2, 3, 4, 1, 0] rfl
      exact kk20 _ 2 0 _ _ _ rfl ((by (try dsimp only); first | assumption | omega | trivial)) ((by (try dsimp only); first | assumption | omega | trivial)) ((by rw [show (0 : Int32).toNatClampNeg = 0 by decide]; rfl)) ((by rw [show (0 : Int32).toNatClampNeg = 0 by decide]; simp only [cpT]; unfold t0F; first | (rw [if_pos ⟨by omega, by omega⟩]; omega) | (rw [if_neg (fun h8 => by have h9 := h8.2; omega)]; omega))) hP hD hS hl
