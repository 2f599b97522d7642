theorem d_DiscMakerModel_feed_0 : decode b_DiscMakerModel_feed 0 = .ok (.aload_n 0, 1) := by decide +kernel
theorem d_DiscMakerModel_feed_1 : decode b_DiscMakerModel_feed 1 = .ok (.iconst 0, 1) := by decide +kernel
theorem d_DiscMakerModel_feed_2 : decode b_DiscMakerModel_feed 2 = .ok (.putfield 118, 3) := by decide +kernel
theorem d_DiscMakerModel_feed_5 : decode b_DiscMakerModel_feed 5 = .ok (.aload_n 0, 1) := by decide +kernel
theorem d_DiscMakerModel_feed_6 : decode b_DiscMakerModel_feed 6 = .ok (.getfield 121, 3) := by decide +kernel
theorem d_DiscMakerModel_feed_9 : decode b_DiscMakerModel_feed 9 = .ok (.bipush 20, 2) := by decide +kernel
theorem d_DiscMakerModel_feed_11 : decode b_DiscMakerModel_feed 11 = .ok (.iadd, 1) := by decide +kernel
theorem d_DiscMakerModel_feed_12 : decode b_DiscMakerModel_feed 12 = .ok (.sipush 400, 3) := by decide +kernel
theorem d_DiscMakerModel_feed_15 : decode b_DiscMakerModel_feed 15 = .ok (.if_icmp .le 5, 3) := by decide +kernel
theorem d_DiscMakerModel_feed_18 : decode b_DiscMakerModel_feed 18 = .ok (.iconst 0, 1) := by decide +kernel
theorem d_DiscMakerModel_feed_19 : decode b_DiscMakerModel_feed 19 = .ok (.ireturn, 1) := by decide +kernel
theorem d_DiscMakerModel_feed_20 : decode b_DiscMakerModel_feed 20 = .ok (.iconst 0, 1) := by decide +kernel
theorem d_DiscMakerModel_feed_21 : decode b_DiscMakerModel_feed 21 = .ok (.istore 6, 2) := by decide +kernel
theorem d_DiscMakerModel_feed_23 : decode b_DiscMakerModel_feed 23 = .ok (.iload 6, 2) := by decide +kernel
theorem d_DiscMakerModel_feed_25 : decode b_DiscMakerModel_feed 25 = .ok (.bipush 20, 2) := by decide +kernel
theorem d_DiscMakerModel_feed_27 : decode b_DiscMakerModel_feed 27 = .ok (.if_icmp .ge 83, 3) := by decide +kernel
theorem d_DiscMakerModel_feed_30 : decode b_DiscMakerModel_feed 30 = .ok (.iload 6, 2) := by decide +kernel
theorem d_DiscMakerModel_feed_32 : decode b_DiscMakerModel_feed 32 = .ok (.iconst 4, 1) := by decide +kernel
theorem d_DiscMakerModel_feed_33 : decode b_DiscMakerModel_feed 33 = .ok (.if_icmp .ge 7, 3) := by decide +kernel
theorem d_DiscMakerModel_feed_36 : decode b_DiscMakerModel_feed 36 = .ok (.iload_n 1, 1) := by decide +kernel
theorem d_DiscMakerModel_feed_37 : decode b_DiscMakerModel_feed 37 = .ok (.goto 39, 3) := by decide +kernel
theorem d_DiscMakerModel_feed_40 : decode b_DiscMakerModel_feed 40 = .ok (.iload 6, 2) := by decide +kernel
theorem d_DiscMakerModel_feed_42 : decode b_DiscMakerModel_feed 42 = .ok (.bipush 8, 2) := by decide +kernel
theorem d_DiscMakerModel_feed_44 : decode b_DiscMakerModel_feed 44 = .ok (.if_icmp .ge 7, 3) := by decide +kernel
theorem d_DiscMakerModel_feed_47 : decode b_DiscMakerModel_feed 47 = .ok (.iload_n 2, 1) := by decide +kernel
theorem d_DiscMakerModel_feed_48 : decode b_DiscMakerModel_feed 48 = .ok (.goto 28, 3) := by decide +kernel
theorem d_DiscMakerModel_feed_51 : decode b_DiscMakerModel_feed 51 = .ok (.iload 6, 2) := by decide +kernel
theorem d_DiscMakerModel_feed_53 : decode b_DiscMakerModel_feed 53 = .ok (.bipush 12, 2) := by decide +kernel
theorem d_DiscMakerModel_feed_55 : decode b_DiscMakerModel_feed 55 = .ok (.if_icmp .ge 7, 3) := by decide +kernel
theorem d_DiscMakerModel_feed_58 : decode b_DiscMakerModel_feed 58 = .ok (.iload_n 3, 1) := by decide +kernel
theorem d_DiscMakerModel_feed_59 : decode b_DiscMakerModel_feed 59 = .ok (.goto 17, 3) := by decide +kernel
theorem d_DiscMakerModel_feed_62 : decode b_DiscMakerModel_feed 62 = .ok (.iload 6, 2) := by decide +kernel
theorem d_DiscMakerModel_feed_64 : decode b_DiscMakerModel_feed 64 = .ok (.bipush 16, 2) := by decide +kernel
theorem d_DiscMakerModel_feed_66 : decode b_DiscMakerModel_feed 66 = .ok (.if_icmp .ge 8, 3) := by decide +kernel
theorem d_DiscMakerModel_feed_69 : decode b_DiscMakerModel_feed 69 = .ok (.iload 4, 2) := by decide +kernel
theorem d_DiscMakerModel_feed_71 : decode b_DiscMakerModel_feed 71 = .ok (.goto 5, 3) := by decide +kernel
theorem d_DiscMakerModel_feed_74 : decode b_DiscMakerModel_feed 74 = .ok (.iload 5, 2) := by decide +kernel
theorem d_DiscMakerModel_feed_76 : decode b_DiscMakerModel_feed 76 = .ok (.istore 7, 2) := by decide +kernel
theorem d_DiscMakerModel_feed_78 : decode b_DiscMakerModel_feed 78 = .ok (.aload_n 0, 1) := by decide +kernel
theorem d_DiscMakerModel_feed_79 : decode b_DiscMakerModel_feed 79 = .ok (.getfield 7, 3) := by decide +kernel
theorem d_DiscMakerModel_feed_82 : decode b_DiscMakerModel_feed 82 = .ok (.aload_n 0, 1) := by decide +kernel
theorem d_DiscMakerModel_feed_83 : decode b_DiscMakerModel_feed 83 = .ok (.getfield 121, 3) := by decide +kernel
theorem d_DiscMakerModel_feed_86 : decode b_DiscMakerModel_feed 86 = .ok (.iload 6, 2) := by decide +kernel
theorem d_DiscMakerModel_feed_88 : decode b_DiscMakerModel_feed 88 = .ok (.iadd, 1) := by decide +kernel
theorem d_DiscMakerModel_feed_89 : decode b_DiscMakerModel_feed 89 = .ok (.iload 7, 2) := by decide +kernel
theorem d_DiscMakerModel_feed_91 : decode b_DiscMakerModel_feed 91 = .ok (.bipush 24, 2) := by decide +kernel
theorem d_DiscMakerModel_feed_93 : decode b_DiscMakerModel_feed 93 = .ok (.bipush 8, 2) := by decide +kernel
theorem d_DiscMakerModel_feed_95 : decode b_DiscMakerModel_feed 95 = .ok (.iload 6, 2) := by decide +kernel
theorem d_DiscMakerModel_feed_97 : decode b_DiscMakerModel_feed 97 = .ok (.iconst 4, 1) := by decide +kernel
theorem d_DiscMakerModel_feed_98 : decode b_DiscMakerModel_feed 98 = .ok (.irem, 1) := by decide +kernel
theorem d_DiscMakerModel_feed_99 : decode b_DiscMakerModel_feed 99 = .ok (.imul, 1) := by decide +kernel
theorem d_DiscMakerModel_feed_100 : decode b_DiscMakerModel_feed 100 = .ok (.isub, 1) := by decide +kernel
theorem d_DiscMakerModel_feed_101 : decode b_DiscMakerModel_feed 101 = .ok (.ishr, 1) := by decide +kernel
theorem d_DiscMakerModel_feed_102 : decode b_DiscMakerModel_feed 102 = .ok (.i2b, 1) := by decide +kernel
theorem d_DiscMakerModel_feed_103 : decode b_DiscMakerModel_feed 103 = .ok (.bastore, 1) := by decide +kernel
theorem d_DiscMakerModel_feed_104 : decode b_DiscMakerModel_feed 104 = .ok (.iinc 6 1, 3) := by decide +kernel
theorem d_DiscMakerModel_feed_107 : decode b_DiscMakerModel_feed 107 = .ok (.goto (-84), 3) := by decide +kernel
theorem d_DiscMakerModel_feed_110 : decode b_DiscMakerModel_feed 110 = .ok (.aload_n 0, 1) := by decide +kernel
theorem d_DiscMakerModel_feed_111 : decode b_DiscMakerModel_feed 111 = .ok (.dup, 1) := by decide +kernel
theorem d_DiscMakerModel_feed_112 : decode b_DiscMakerModel_feed 112 = .ok (.getfield 121, 3) := by decide +kernel
theorem d_DiscMakerModel_feed_115 : decode b_DiscMakerModel_feed 115 = .ok (.bipush 20, 2) := by decide +kernel
theorem d_DiscMakerModel_feed_117 : decode b_DiscMakerModel_feed 117 = .ok (.iadd, 1) := by decide +kernel
theorem d_DiscMakerModel_feed_118 : decode b_DiscMakerModel_feed 118 = .ok (.putfield 121, 3) := by decide +kernel
theorem d_DiscMakerModel_feed_121 : decode b_DiscMakerModel_feed 121 = .ok (.iconst 1, 1) := by decide +kernel
theorem d_DiscMakerModel_feed_122 : decode b_DiscMakerModel_feed 122 = .ok (.ireturn, 1) := by decide +kernel
set_option maxHeartbeats 4000000 in
set_option maxRecDepth 100000 in
theorem m_feed (l : Launch) (D : va_G) (cB cI cJ cZ cN cF : ClassId) (sz : Nat) (h0 : Nat) (ma : Nat → Nat) (sv_thrown sv_length sv_nodes sv_many sv_directories sv_runsFrom sv_runs sv_read sv_wrong sv_isNamed sv_goes sv_goesSize sv_goesAt sv_targetParts sv_isRoot : Int32) (fX : Nat → Int32) (x1 : Int32) (x2 : Int32) (x3 : Int32) (x4 : Int32) (x5 : Int32) (hln : 0 ≤ sv_length.toInt ∧ sv_length.toInt ≤ 400) : Met l y_DiscMakerModel_feed w_DiscMakerModel_feed ({ frames := 0, cells := 0, slots := 0, locals := 0 }) (va_Pc [.ref h0, .int x1, .int x2, .int x3, .int x4, .int x5] (fun U => U.heap.size = sz ∧ va_P D CL [(h0, .inr (11, MO ma sv_thrown sv_length sv_nodes sv_many sv_directories sv_runsFrom sv_runs sv_read sv_wrong sv_isNamed sv_goes sv_goesSize sv_goesAt sv_targetParts sv_isRoot)), ((ma 0), .inl (cB, 400, .inl fX))] U.heap ∧ va_K D CL (TY cB cI cJ cZ cN cF) U ∧ NN U ∧ va_D (fun _ => True) [(h0, .inr (11, MO ma sv_thrown sv_length sv_nodes sv_many sv_directories sv_runsFrom sv_runs sv_read sv_wrong sv_isNamed sv_goes sv_goesSize sv_goesAt sv_targetParts sv_isRoot)), ((ma 0), .inl (cB, 400, .inl fX))])) (va_Qi (fun (r : Int32) (u : Int32 × Int32 × (Nat → Int32)) => match u with | (th, ln, gX) => ((400 < sv_length.toInt + 20 ∧ r.toInt = 0 ∧ ln.toInt = sv_length.toInt) ∨ (sv_length.toInt + 20 ≤ 400 ∧ r.toInt = 1 ∧ ln.toInt = sv_length.toInt + 20)) ∧ (sv_length.toInt + 20 ≤ 400 → FT fX gX sv_length.toNatClampNeg 20 x1 x2 x3 x4 x5) ∧ (400 < sv_length.toInt + 20 → gX = fX)) (fun (u : Int32 × Int32 × (Nat → Int32)) (t : State) => match u with | (th, ln, gX) => va_P D CL [(h0, .inr (11, MO ma th ln sv_nodes sv_many sv_directories sv_runsFrom sv_runs sv_read sv_wrong sv_isNamed sv_goes sv_goesSize sv_goesAt sv_targetParts sv_isRoot)), ((ma 0), .inl (cB, 400, .inl gX))] t.heap ∧ va_D (va_A [(h0, .inr (11, MO ma sv_thrown sv_length sv_nodes sv_many sv_directories sv_runsFrom sv_runs sv_read sv_wrong sv_isNamed sv_goes sv_goesSize sv_goesAt sv_targetParts sv_isRoot)), ((ma 0), .inl (cB, 400, .inl fX))] sz) [(h0, .inr (11, MO ma th ln sv_nodes sv_many sv_directories sv_runsFrom sv_runs sv_read sv_wrong sv_isNamed sv_goes sv_goesSize sv_goesAt sv_targetParts sv_isRoot)), ((ma 0), .inl (cB, 400, .inl gX))]) (va_A [(h0, .inr (11, MO ma sv_thrown sv_length sv_nodes sv_many sv_directories sv_runsFrom sv_runs sv_read sv_wrong sv_isNamed sv_goes sv_goesSize sv_goesAt sv_targetParts sv_isRoot)), ((ma 0), .inl (cB, 400, .inl fX))] sz)) 0 0 (va_A [(h0, .inr (11, MO ma sv_thrown sv_length sv_nodes sv_many sv_directories sv_runsFrom sv_runs sv_read sv_wrong sv_isNamed sv_goes sv_goesSize sv_goesAt sv_targetParts sv_isRoot)), ((ma 0), .inl (cB, 400, .inl fX))] sz) := by
  refine Met.ofW (cc := b_DiscMakerModel_feed) (maxL := 8) (ret := some .boolean) (by decide) rfl ?_
  intro p e s m args below meth c s₁ B hml hv
  obtain ⟨rfl, hsz, hP, hK, hN, hD0⟩ := hv
  have hx := B.exec
  have hb := B.bytes
  have hr := B.returns
  have hts := atoms_spec (ws := w_DiscMakerModel_feed) B.pre
  have ht9 := fun (w : Cond) (h : w ∈ lw_g) => hts w (List.mem_cons_of_mem _ h)
  have hown : s.vm.findClass "DiscMakerModel" = some m.cls := findClass_of_methodNamed B.named
  have hlocks := B.notSynchronized
  subst hsz
  have hD := hD0.self (sz := s.heap.size)
  generalize hAe : va_A [(h0, .inr (11, MO ma sv_thrown sv_length sv_nodes sv_many sv_directories sv_runsFrom sv_runs sv_read sv_wrong sv_isNamed sv_goes sv_goesSize sv_goesAt sv_targetParts sv_isRoot)), ((ma 0), .inl (cB, 400, .inl fX))] s.heap.size = A at hD ⊢
  have hA : ∀ q : Nat, s.heap.size ≤ q → A q := fun q h => by rw [← hAe]; exact Or.inr h
  have hS : va_S A s.heap s.heap [] := va_S.rf
  have hP : va_P D CL [(h0, .inr (11, MO ma sv_thrown sv_length sv_nodes sv_many sv_directories sv_runsFrom sv_runs sv_read sv_wrong sv_isNamed sv_goes sv_goesSize sv_goesAt sv_targetParts sv_isRoot)), ((ma 0), .inl (cB, 400, .inl fX))] s.heap := hP
  have hl := lv_entry [.ref h0, .int x1, .int x2, .int x3, .int x4, .int x5] (n := 8) (Nat.le_of_ble_eq_true rfl)
  rw [lg_entry_eq]
  generalize (lg_sl [.ref h0, .int x1, .int x2, .int x3, .int x4, .int x5] ++ List.replicate (8 - (lg_sl [.ref h0, .int x1, .int x2, .int x3, .int x4, .int x5]).length) Slot.unset).toArray = ls at hl ⊢
  have hl : lv_has ls 8 [(0, .ref h0), (1, .int x1), (2, .int x2), (3, .int x3), (4, .int x4), (5, .int x5)] := hl
  have L_m1 : ((-1) : Int32).toInt = (-1) := by decide
  have L_0 : (0 : Int32).toInt = 0 := by decide
  have L_1 : (1 : Int32).toInt = 1 := by decide
  have L_4 : (4 : Int32).toInt = 4 := by decide
  have L_8 : (8 : Int32).toInt = 8 := by decide
  have L_12 : (12 : Int32).toInt = 12 := by decide
  have L_16 : (16 : Int32).toInt = 16 := by decide
  have L_20 : (20 : Int32).toInt = 20 := by decide
  have L_24 : (24 : Int32).toInt = 24 := by decide
  have L_400 : (400 : Int32).toInt = 400 := by decide
  refine lv_aload_n hx hb d_DiscMakerModel_feed_0 rfl (lv_at hl 0 rfl) ?_
  refine lv_iconst (v := 0) hx hb d_DiscMakerModel_feed_1 (by decide) ?_
  refine va_put (D := D) (ci := 11) (v := .int 0) (ty := .int) (C := "DiscMakerModel") (T := F_DiscMakerModel) (N := 48) hx hb ht9 in_DiscMakerModel t_DiscMakerModel t_DiscMakerModel_ok n_DiscMakerModel hown hK hP hD hS 0 rfl rfl 0 (by decide) (ht9 _ k1431) (fun _ h9 => h9) rfl (by decide +kernel) rfl rfl (Nat.le_of_ble_eq_true rfl) d_DiscMakerModel_feed_2 (fun H locs hP hD hS => ?_)
  have hP : va_P D CL [(h0, .inr (11, MO ma 0 sv_length sv_nodes sv_many sv_directories sv_runsFrom sv_runs sv_read sv_wrong sv_isNamed sv_goes sv_goesSize sv_goesAt sv_targetParts sv_isRoot)), ((ma 0), .inl (cB, 400, .inl fX))] H := hP
  have hD : va_D A [(h0, .inr (11, MO ma 0 sv_length sv_nodes sv_many sv_directories sv_runsFrom sv_runs sv_read sv_wrong sv_isNamed sv_goes sv_goesSize sv_goesAt sv_targetParts sv_isRoot)), ((ma 0), .inl (cB, 400, .inl fX))] := hD
  refine lv_aload_n hx hb d_DiscMakerModel_feed_5 rfl (lv_at hl 0 rfl) ?_
  refine va_get (D := D) (ci := 11) (v := .int sv_length) (C := "DiscMakerModel") (T := F_DiscMakerModel) (N := 48) hx hb ht9 in_DiscMakerModel hown hK hP 0 rfl rfl 2 (by decide) (ht9 _ k1433) (fun _ h9 => h9) rfl d_DiscMakerModel_feed_6 ?_
  refine lv_bipush (v := 20) hx hb d_DiscMakerModel_feed_9 (by decide) ?_
  refine lv_iadd hx hb d_DiscMakerModel_feed_11 ?_
  refine lv_topi (fun v1 e_v1 => ?_)
  have t_v1 : v1.toInt = sv_length.toInt + 20 := by rw [e_v1]; exact i_add rfl (by decide) (by omega) (by omega)
  refine lv_sipush (v := 400) hx hb d_DiscMakerModel_feed_12 (by decide) ?_
  refine lv_icmp_le (tgt := 20) hx hb d_DiscMakerModel_feed_15 (by decide) (fun h_9 => ?_) (fun h_9 => ?_)
  · skip
    have g15_9 : v1.toInt ≤ 400 := (i_le rfl (by decide)).mp h_9
    refine lv_iconst (v := 0) hx hb d_DiscMakerModel_feed_20 (by decide) ?_
    refine lv_istore hx hb d_DiscMakerModel_feed_21 hl (by decide) rfl (fun ls hl => ?_)
    have hl : lv_has ls 8 [(6, .int 0), (0, .ref h0), (1, .int x1), (2, .int x2), (3, .int x3), (4, .int x4), (5, .int x5)] := hl
    refine zz_labM (B := fun (lk : Nat) (K : Heap → List Loc → Array Slot → List Value → Prop) => ∀ (kx : Int32) (lX : Nat → Int32) (H : Heap) (locs : List Loc) (ls : Array Slot), lk = (20 - kx.toInt).toNat → (0 ≤ kx.toInt ∧ kx.toInt ≤ 20) → (FT fX lX sv_length.toNatClampNeg kx.toNatClampNeg x1 x2 x3 x4 x5) → va_P D CL [(h0, .inr (11, MO ma 0 sv_length sv_nodes sv_many sv_directories sv_runsFrom sv_runs sv_read sv_wrong sv_isNamed sv_goes sv_goesSize sv_goesAt sv_targetParts sv_isRoot)), ((ma 0), .inl (cB, 400, .inl lX))] H → va_D A [(h0, .inr (11, MO ma 0 sv_length sv_nodes sv_many sv_directories sv_runsFrom sv_runs sv_read sv_wrong sv_isNamed sv_goes sv_goesSize sv_goesAt sv_targetParts sv_isRoot)), ((ma 0), .inl (cB, 400, .inl lX))] → va_S A s.heap H locs → lv_has ls 8 [(0, .ref h0), (1, .int x1), (2, .int x2), (3, .int x3), (4, .int x4), (5, .int x5), (6, .int kx)] → K H locs ls []) 23 ?_ ?_
    · skip
      intro lk ih23 kx lX H locs ls hm23 f1 f2 hP hD hS hl
      refine lv_iload hx hb d_DiscMakerModel_feed_23 (lv_at hl 6 rfl) ?_
      refine lv_bipush (v := 20) hx hb d_DiscMakerModel_feed_25 (by decide) ?_
      refine lv_icmp_ge (tgt := 110) hx hb d_DiscMakerModel_feed_27 (by decide) (fun h_9 => ?_) (fun h_9 => ?_)
      · skip
        have g27_14 : 20 ≤ kx.toInt := (i_le (by decide) rfl).mp h_9
        refine lv_aload_n hx hb d_DiscMakerModel_feed_110 rfl (lv_at hl 0 rfl) ?_
        refine lv_dup hx hb d_DiscMakerModel_feed_111 rfl ?_
        refine va_get (D := D) (ci := 11) (v := .int sv_length) (C := "DiscMakerModel") (T := F_DiscMakerModel) (N := 48) hx hb ht9 in_DiscMakerModel hown hK hP 0 rfl rfl 2 (by decide) (ht9 _ k1433) (fun _ h9 => h9) rfl d_DiscMakerModel_feed_112 ?_
        refine lv_bipush (v := 20) hx hb d_DiscMakerModel_feed_115 (by decide) ?_
        refine lv_iadd hx hb d_DiscMakerModel_feed_117 ?_
        refine lv_topi (fun v2 e_v2 => ?_)
        have t_v2 : v2.toInt = sv_length.toInt + 20 := by rw [e_v2]; exact i_add rfl (by decide) (by omega) (by omega)
        refine va_put (D := D) (ci := 11) (v := .int v2) (ty := .int) (C := "DiscMakerModel") (T := F_DiscMakerModel) (N := 48) hx hb ht9 in_DiscMakerModel t_DiscMakerModel t_DiscMakerModel_ok n_DiscMakerModel hown hK hP hD hS 0 rfl rfl 2 (by decide) (ht9 _ k1433) (fun _ h9 => h9) rfl (by decide +kernel) rfl rfl (Nat.le_of_ble_eq_true rfl) d_DiscMakerModel_feed_118 (fun H locs hP hD hS => ?_)
        have hP : va_P D CL [(h0, .inr (11, MO ma 0 v2 sv_nodes sv_many sv_directories sv_runsFrom sv_runs sv_read sv_wrong sv_isNamed sv_goes sv_goesSize sv_goesAt sv_targetParts sv_isRoot)), ((ma 0), .inl (cB, 400, .inl lX))] H := hP
        have hD : va_D A [(h0, .inr (11, MO ma 0 v2 sv_nodes sv_many sv_directories sv_runsFrom sv_runs sv_read sv_wrong sv_isNamed sv_goes sv_goesSize sv_goesAt sv_targetParts sv_isRoot)), ((ma 0), .inl (cB, 400, .inl lX))] := hD
        refine lv_iconst (v := 1) hx hb d_DiscMakerModel_feed_121 (by decide) ?_
        have hP9 := hP.sub (ws' := [(h0, .inr (11, MO ma 0 v2 sv_nodes sv_many sv_directories sv_runsFrom sv_runs sv_read sv_wrong sv_isNamed sv_goes sv_goesSize sv_goesAt sv_targetParts sv_isRoot)), ((ma 0), .inl (cB, 400, .inl lX))]) [0, 1] rfl
        have hD9 := hD.sub (ws' := [(h0, .inr (11, MO ma 0 v2 sv_nodes sv_many sv_directories sv_runsFrom sv_runs sv_read sv_wrong sv_isNamed sv_goes sv_goesSize sv_goesAt sv_targetParts sv_isRoot)), ((ma 0), .inl (cB, 400, .inl lX))]) [0, 1] (by decide +kernel) rfl
        exact W.zret (v := 1) hx hb hr (by first | rfl | decide | exact i_narZ (by omega)) (fun t ht hW => ⟨⟨1, (0, v2, lX), rfl, ⟨(by (try dsimp only); first | assumption | omega | trivial), (fun _ => by have h7 := i_cl (a := kx) (by omega); rw [show (20 : Nat) = kx.toNatClampNeg by omega]; exact f2), (by (try dsimp only); intro h7; exfalso; omega)⟩, by rw [ht]; exact hP9, hD9⟩, hS.F ht⟩) hS.2.2 d_DiscMakerModel_feed_122
      · skip
        have g27_14 : ¬ 20 ≤ kx.toInt := fun h8 => h_9 ((i_le (by decide) rfl).mpr h8)
        refine zz_labM (B := fun (lk : Nat) (K : Heap → List Loc → Array Slot → List Value → Prop) => ∀ (vv : Int32) (H : Heap) (locs : List Loc) (ls : Array Slot), lk = 0 → (vv = pick x1 x2 x3 x4 x5 kx.toNatClampNeg) → va_P D CL [(h0, .inr (11, MO ma 0 sv_length sv_nodes sv_many sv_directories sv_runsFrom sv_runs sv_read sv_wrong sv_isNamed sv_goes sv_goesSize sv_goesAt sv_targetParts sv_isRoot)), ((ma 0), .inl (cB, 400, .inl lX))] H → va_D A [(h0, .inr (11, MO ma 0 sv_length sv_nodes sv_many sv_directories sv_runsFrom sv_runs sv_read sv_wrong sv_isNamed sv_goes sv_goesSize sv_goesAt sv_targetParts sv_isRoot)), ((ma 0), .inl (cB, 400, .inl lX))] → va_S A s.heap H locs → lv_has ls 8 [(0, .ref h0), (1, .int x1), (2, .int x2), (3, .int x3), (4, .int x4), (5, .int x5), (6, .int kx)] → K H locs ls [.int vv]) 76 ?_ ?_
        · skip
          intro lk ih76 vv H locs ls hm76 fv hP hD hS hl
          refine lv_istore hx hb d_DiscMakerModel_feed_76 hl (by decide) rfl (fun ls hl => ?_)
          have hl : lv_has ls 8 [(7, .int vv), (0, .ref h0), (1, .int x1), (2, .int x2), (3, .int x3), (4, .int x4), (5, .int x5), (6, .int kx)] := hl
          refine lv_aload_n hx hb d_DiscMakerModel_feed_78 rfl (lv_at hl 1 rfl) ?_
          refine va_get (D := D) (ci := 11) (v := .ref (ma 0)) (C := "DiscMakerModel") (T := F_DiscMakerModel) (N := 48) hx hb ht9 in_DiscMakerModel hown hK hP 0 rfl rfl 1 (by decide) (ht9 _ k1432) (fun _ h9 => h9) rfl d_DiscMakerModel_feed_79 ?_
          refine lv_aload_n hx hb d_DiscMakerModel_feed_82 rfl (lv_at hl 1 rfl) ?_
          refine va_get (D := D) (ci := 11) (v := .int sv_length) (C := "DiscMakerModel") (T := F_DiscMakerModel) (N := 48) hx hb ht9 in_DiscMakerModel hown hK hP 0 rfl rfl 2 (by decide) (ht9 _ k1433) (fun _ h9 => h9) rfl d_DiscMakerModel_feed_83 ?_
          refine lv_iload hx hb d_DiscMakerModel_feed_86 (lv_at hl 7 rfl) ?_
          refine lv_iadd hx hb d_DiscMakerModel_feed_88 ?_
          refine lv_topi (fun v3 e_v3 => ?_)
          have t_v3 : v3.toInt = sv_length.toInt + kx.toInt := by rw [e_v3]; exact i_add rfl rfl (by omega) (by omega)
          refine lv_iload hx hb d_DiscMakerModel_feed_89 (lv_at hl 0 rfl) ?_
          refine lv_bipush (v := 24) hx hb d_DiscMakerModel_feed_91 (by decide) ?_
          refine lv_bipush (v := 8) hx hb d_DiscMakerModel_feed_93 (by decide) ?_
          refine lv_iload hx hb d_DiscMakerModel_feed_95 (lv_at hl 7 rfl) ?_
          refine lv_iconst (v := 4) hx hb d_DiscMakerModel_feed_97 (by decide) ?_
          refine lv_irem hx hb d_DiscMakerModel_feed_98 (by decide) ?_
          refine lv_topi (fun v4 e_v4 => ?_)
          have t_v4 : v4.toInt = kx.toInt % 4 := by rw [e_v4]; exact i_rem rfl (by decide) (by omega) (by omega)
          refine lv_imul hx hb d_DiscMakerModel_feed_99 ?_
          refine lv_topi (fun v5 e_v5 => ?_)
          have t_v5 : v5.toInt = 8 * v4.toInt := by rw [e_v5]; exact i_mul (by decide) rfl (by omega) (by omega)
          refine lv_isub hx hb d_DiscMakerModel_feed_100 ?_
          refine lv_topi (fun v6 e_v6 => ?_)
          have t_v6 : v6.toInt = 24 - v5.toInt := by rw [e_v6]; exact i_sub (by decide) rfl (by omega) (by omega)
          refine lv_ishr hx hb d_DiscMakerModel_feed_101 ?_
          refine lv_topi (fun v7 e_v7 => ?_)
          refine lv_i2b hx hb d_DiscMakerModel_feed_102 rfl ?_
          refine lv_topi (fun v8 e_v8 => ?_)
          have t_v8 : (-128) ≤ v8.toInt ∧ v8.toInt ≤ 127 := by rw [e_v8]; exact i_b _
          refine zq_bast hx hb hK hP hD hS 1 0 rfl rfl (vp_in_iff.mpr ⟨by omega, by omega⟩) d_DiscMakerModel_feed_103 (fun f9 e_f9 H locs hP hD hS => ?_)
          have hP : va_P D CL [(h0, .inr (11, MO ma 0 sv_length sv_nodes sv_many sv_directories sv_runsFrom sv_runs sv_read sv_wrong sv_isNamed sv_goes sv_goesSize sv_goesAt sv_targetParts sv_isRoot)), ((ma 0), .inl (cB, 400, .inl f9))] H := hP
          have hD : va_D A [(h0, .inr (11, MO ma 0 sv_length sv_nodes sv_many sv_directories sv_runsFrom sv_runs sv_read sv_wrong sv_isNamed sv_goes sv_goesSize sv_goesAt sv_targetParts sv_isRoot)), ((ma 0), .inl (cB, 400, .inl f9))] := hD
          obtain ⟨v10, e_v10⟩ : ∃ z : Int32, z = kx + 1 := ⟨_, rfl⟩
          refine lv_iinc (v := v10) hx hb d_DiscMakerModel_feed_104 hl (k := 7) rfl e_v10.symm (by decide +kernel) rfl (fun ls hl => ?_)
          have t_v10 : v10.toInt = kx.toInt + 1 := by rw [e_v10]; exact i_add rfl (by decide) (by omega) (by omega)
          have hl : lv_has ls 8 [(6, .int v10), (7, .int vv), (0, .ref h0), (1, .int x1), (2, .int x2), (3, .int x3), (4, .int x4), (5, .int x5)] := hl
          refine lv_goto (tgt := 23) hx hb d_DiscMakerModel_feed_107 (by decide) ?_
          have hP := hP.sub (ws' := [(h0, .inr (11, MO ma 0 sv_length sv_nodes sv_many sv_directories sv_runsFrom sv_runs sv_read sv_wrong sv_isNamed sv_goes sv_goesSize sv_goesAt sv_targetParts sv_isRoot)), ((ma 0), .inl (cB, 400, .inl f9))]) [0, 1] rfl
          have hD := hD.sub (ws' := [(h0, .inr (11, MO ma 0 sv_length sv_nodes sv_many sv_directories sv_runsFrom sv_runs sv_read sv_wrong sv_isNamed sv_goes sv_goesSize sv_goesAt sv_targetParts sv_isRoot)), ((ma 0), .inl (cB, 400, .inl f9))]) [0, 1] (by decide +kernel) rfl
          have hl := lv_sub hl [2, 3, 4, 5, 6, 7, 0] rfl
          exact ih23 _ (by first | omega | (dsimp only; omega)) v10 f9 _ _ _ rfl ((by (try dsimp only); first | assumption | omega | trivial)) ((FT_step f2 e_f9 (by have h8 := i_cl (a := v3) (by omega); have h7 := i_cl (a := kx) (by omega); have h6 := i_cl (a := sv_length) (by omega); omega) (by have h8 := i_cl (a := v10) (by omega); have h7 := i_cl (a := kx) (by omega); omega) (by unfold fb sb; rw [e_v8, e_v7, fv, amt_eq (v := v6) (k := kx.toNatClampNeg) (by have h7 := i_cl (a := kx) (by omega); omega)]))) hP hD hS hl
        · skip
          intro kk76
          refine lv_iload hx hb d_DiscMakerModel_feed_30 (lv_at hl 6 rfl) ?_
          refine lv_iconst (v := 4) hx hb d_DiscMakerModel_feed_32 (by decide) ?_
          refine lv_icmp_ge (tgt := 40) hx hb d_DiscMakerModel_feed_33 (by decide) (fun h_9 => ?_) (fun h_9 => ?_)
          · skip
            have g33_46 : 4 ≤ kx.toInt := (i_le (by decide) rfl).mp h_9
            refine lv_iload hx hb d_DiscMakerModel_feed_40 (lv_at hl 6 rfl) ?_
            refine lv_bipush (v := 8) hx hb d_DiscMakerModel_feed_42 (by decide) ?_
            refine lv_icmp_ge (tgt := 51) hx hb d_DiscMakerModel_feed_44 (by decide) (fun h_9 => ?_) (fun h_9 => ?_)
            · skip
              have g44_49 : 8 ≤ kx.toInt := (i_le (by decide) rfl).mp h_9
              refine lv_iload hx hb d_DiscMakerModel_feed_51 (lv_at hl 6 rfl) ?_
              refine lv_bipush (v := 12) hx hb d_DiscMakerModel_feed_53 (by decide) ?_
              refine lv_icmp_ge (tgt := 62) hx hb d_DiscMakerModel_feed_55 (by decide) (fun h_9 => ?_) (fun h_9 => ?_)
              · skip
                have g55_52 : 12 ≤ kx.toInt := (i_le (by decide) rfl).mp h_9
                refine lv_iload hx hb d_DiscMakerModel_feed_62 (lv_at hl 6 rfl) ?_
                refine lv_bipush (v := 16) hx hb d_DiscMakerModel_feed_64 (by decide) ?_
                refine lv_icmp_ge (tgt := 74) hx hb d_DiscMakerModel_feed_66 (by decide) (fun h_9 => ?_) (fun h_9 => ?_)
                · skip
                  have g66_55 : 16 ≤ kx.toInt := (i_le (by decide) rfl).mp h_9
                  refine lv_iload hx hb d_DiscMakerModel_feed_74 (lv_at hl 5 rfl) ?_
                  have hP := hP.sub (ws' := [(h0, .inr (11, MO ma 0 sv_length sv_nodes sv_many sv_directories sv_runsFrom sv_runs sv_read sv_wrong sv_isNamed sv_goes sv_goesSize sv_goesAt sv_targetParts sv_isRoot)), ((ma 0), .inl (cB, 400, .inl lX))]) [0, 1] rfl
                  have hD := hD.sub (ws' := [(h0, .inr (11, MO ma 0 sv_length sv_nodes sv_many sv_directories sv_runsFrom sv_runs sv_read sv_wrong sv_isNamed sv_goes sv_goesSize sv_goesAt sv_targetParts sv_isRoot)), ((ma 0), .inl (cB, 400, .inl lX))]) [0, 1] (by decide +kernel) rfl
                  have hl := lv_sub hl [0, 1, 2, 3, 4, 5, 6] rfl
                  exact kk76 _ x5 _ _ _ rfl ((by have h7 := i_cl (a := kx) (by omega); unfold pick; first | rw [if_pos (by omega)] | rw [if_neg (by omega), if_pos (by omega)] | rw [if_neg (by omega), if_neg (by omega), if_pos (by omega)] | rw [if_neg (by omega), if_neg (by omega), if_neg (by omega), if_pos (by omega)] | rw [if_neg (by omega), if_neg (by omega), if_neg (by omega), if_neg (by omega)])) hP hD hS hl
                · skip
                  have g66_55 : ¬ 16 ≤ kx.toInt := fun h8 => h_9 ((i_le (by decide) rfl).mpr h8)
                  refine lv_iload hx hb d_DiscMakerModel_feed_69 (lv_at hl 4 rfl) ?_
                  refine lv_goto (tgt := 76) hx hb d_DiscMakerModel_feed_71 (by decide) ?_
                  have hP := hP.sub (ws' := [(h0, .inr (11, MO ma 0 sv_length sv_nodes sv_many sv_directories sv_runsFrom sv_runs sv_read sv_wrong sv_isNamed sv_goes sv_goesSize sv_goesAt sv_targetParts sv_isRoot)), ((ma 0), .inl (cB, 400, .inl lX))]) [0, 1] rfl
                  have hD := hD.sub (ws' := [(h0, .inr (11, MO ma 0 sv_length sv_nodes sv_many sv_directories sv_runsFrom sv_runs sv_read sv_wrong sv_isNamed sv_goes sv_goesSize sv_goesAt sv_targetParts sv_isRoot)), ((ma 0), .inl (cB, 400, .inl lX))]) [0, 1] (by decide +kernel) rfl
                  have hl := lv_sub hl [0, 1, 2, 3, 4, 5, 6] rfl
                  exact kk76 _ x4 _ _ _ rfl ((by have h7 := i_cl (a := kx) (by omega); unfold pick; first | rw [if_pos (by omega)] | rw [if_neg (by omega), if_pos (by omega)] | rw [if_neg (by omega), if_neg (by omega), if_pos (by omega)] | rw [if_neg (by omega), if_neg (by omega), if_neg (by omega), if_pos (by omega)] | rw [if_neg (by omega), if_neg (by omega), if_neg (by omega), if_neg (by omega)])) hP hD hS hl
              · skip
                have g55_52 : ¬ 12 ≤ kx.toInt := fun h8 => h_9 ((i_le (by decide) rfl).mpr h8)
                refine lv_iload_n hx hb d_DiscMakerModel_feed_58 rfl (lv_at hl 3 rfl) ?_
                refine lv_goto (tgt := 76) hx hb d_DiscMakerModel_feed_59 (by decide) ?_
                have hP := hP.sub (ws' := [(h0, .inr (11, MO ma 0 sv_length sv_nodes sv_many sv_directories sv_runsFrom sv_runs sv_read sv_wrong sv_isNamed sv_goes sv_goesSize sv_goesAt sv_targetParts sv_isRoot)), ((ma 0), .inl (cB, 400, .inl lX))]) [0, 1] rfl
                have hD := hD.sub (ws' := [(h0, .inr (11, MO ma 0 sv_length sv_nodes sv_many sv_directories sv_runsFrom sv_runs sv_read sv_wrong sv_isNamed sv_goes sv_goesSize sv_goesAt sv_targetParts sv_isRoot)), ((ma 0), .inl (cB, 400, .inl lX))]) [0, 1] (by decide +kernel) rfl
                have hl := lv_sub hl [0, 1, 2, 3, 4, 5, 6] rfl
                exact kk76 _ x3 _ _ _ rfl ((by have h7 := i_cl (a := kx) (by omega); unfold pick; first | rw [if_pos (by omega)] | rw [if_neg (by omega), if_pos (by omega)] | rw [if_neg (by omega), if_neg (by omega), if_pos (by omega)] | rw [if_neg (by omega), if_neg (by omega), if_neg (by omega), if_pos (by omega)] | rw [if_neg (by omega), if_neg (by omega), if_neg (by omega), if_neg (by omega)])) hP hD hS hl
            · skip
              have g44_49 : ¬ 8 ≤ kx.toInt := fun h8 => h_9 ((i_le (by decide) rfl).mpr h8)
              refine lv_iload_n hx hb d_DiscMakerModel_feed_47 rfl (lv_at hl 2 rfl) ?_
              refine lv_goto (tgt := 76) hx hb d_DiscMakerModel_feed_48 (by decide) ?_
              have hP := hP.sub (ws' := [(h0, .inr (11, MO ma 0 sv_length sv_nodes sv_many sv_directories sv_runsFrom sv_runs sv_read sv_wrong sv_isNamed sv_goes sv_goesSize sv_goesAt sv_targetParts sv_isRoot)), ((ma 0), .inl (cB, 400, .inl lX))]) [0, 1] rfl
              have hD := hD.sub (ws' := [(h0, .inr (11, MO ma 0 sv_length sv_nodes sv_many sv_directories sv_runsFrom sv_runs sv_read sv_wrong sv_isNamed sv_goes sv_goesSize sv_goesAt sv_targetParts sv_isRoot)), ((ma 0), .inl (cB, 400, .inl lX))]) [0, 1] (by decide +kernel) rfl
              have hl := lv_sub hl [0, 1, 2, 3, 4, 5, 6] rfl
              exact kk76 _ x2 _ _ _ rfl ((by have h7 := i_cl (a := kx) (by omega); unfold pick; first | rw [if_pos (by omega)] | rw [if_neg (by omega), if_pos (by omega)] | rw [if_neg (by omega), if_neg (by omega), if_pos (by omega)] | rw [if_neg (by omega), if_neg (by omega), if_neg (by omega), if_pos (by omega)] | rw [if_neg (by omega), if_neg (by omega), if_neg (by omega), if_neg (by omega)])) hP hD hS hl
          · skip
            have g33_46 : ¬ 4 ≤ kx.toInt := fun h8 => h_9 ((i_le (by decide) rfl).mpr h8)
            refine lv_iload_n hx hb d_DiscMakerModel_feed_36 rfl (lv_at hl 1 rfl) ?_
            refine lv_goto (tgt := 76) hx hb d_DiscMakerModel_feed_37 (by decide) ?_
            have hP := hP.sub (ws' := [(h0, .inr (11, MO ma 0 sv_length sv_nodes sv_many sv_directories sv_runsFrom sv_runs sv_read sv_wrong sv_isNamed sv_goes sv_goesSize sv_goesAt sv_targetParts sv_isRoot)), ((ma 0), .inl (cB, 400, .inl lX))]) [0, 1] rfl
            have hD := hD.sub (ws' := [(h0, .inr (11, MO ma 0 sv_length sv_nodes sv_many sv_directories sv_runsFrom sv_runs sv_read sv_wrong sv_isNamed sv_goes sv_goesSize sv_goesAt sv_targetParts sv_isRoot)), ((ma 0), .inl (cB, 400, .inl lX))]) [0, 1] (by decide +kernel) rfl
            have hl := lv_sub hl [0, 1, 2, 3, 4, 5, 6] rfl
            exact kk76 _ x1 _ _ _ rfl ((by have h7 := i_cl (a := kx) (by omega); unfold pick; first | rw [if_pos (by omega)] | rw [if_neg (by omega), if_pos (by omega)] | rw [if_neg (by omega), if_neg (by omega), if_pos (by omega)] | rw [if_neg (by omega), if_neg (by omega), if_neg (by omega), if_pos (by omega)] | rw [if_neg (by omega), if_neg (by omega), if_neg (by omega), if_neg (by omega)])) hP hD hS hl
    · skip
      intro kk23
      have hP := hP.sub (ws' := [(h0, .inr (11, MO ma 0 sv_length sv_nodes sv_many sv_directories sv_runsFrom sv_runs sv_read sv_wrong sv_isNamed sv_goes sv_goesSize sv_goesAt sv_targetParts sv_isRoot)), ((ma 0), .inl (cB, 400, .inl fX))]) [0, 1] rfl
      have hD := hD.sub (ws' := [(h0, .inr (11, MO ma 0 sv_length sv_nodes sv_many sv_directories sv_runsFrom sv_runs sv_read sv_wrong sv_isNamed sv_goes sv_goesSize sv_goesAt sv_targetParts sv_isRoot)), ((ma 0), .inl (cB, 400, .inl fX))]) [0, 1] (by decide +kernel) rfl
      have hl := lv_sub hl [1, 2, 3, 4, 5, 6, 0] rfl
      exact kk23 _ 0 fX _ _ _ rfl ((by (try dsimp only); first | assumption | omega | trivial)) ((by rw [show (0 : Int32).toNatClampNeg = 0 by decide]; exact FT_0)) hP hD hS hl
  · skip
    have g15_9 : ¬ v1.toInt ≤ 400 := fun h8 => h_9 ((i_le rfl (by decide)).mpr h8)
    refine lv_iconst (v := 0) hx hb d_DiscMakerModel_feed_18 (by decide) ?_
    have hP9 := hP.sub (ws' := [(h0, .inr (11, MO ma 0 sv_length sv_nodes sv_many sv_directories sv_runsFrom sv_runs sv_read sv_wrong sv_isNamed sv_goes sv_goesSize sv_goesAt sv_targetParts sv_isRoot)), ((ma 0), .inl (cB, 400, .inl fX))]) [0, 1] rfl
    have hD9 := hD.sub (ws' := [(h0, .inr (11, MO ma 0 sv_length sv_nodes sv_many sv_directories sv_runsFrom sv_runs sv_read sv_wrong sv_isNamed sv_goes sv_goesSize sv_goesAt sv_targetParts sv_isRoot)), ((ma 0), .inl (cB, 400, .inl fX))]) [0, 1] (by decide +kernel) rfl
    exact W.zret (v := 0) hx hb hr (by first | rfl | decide | exact i_narZ (by omega)) (fun t ht hW => ⟨⟨0, (0, sv_length, fX), rfl, ⟨(by (try dsimp only); first | assumption | omega | trivial), (by (try dsimp only); intro h7; exfalso; omega), (fun _ => rfl)⟩, by rw [ht]; exact hP9, hD9⟩, hS.F ht⟩) hS.2.2 d_DiscMakerModel_feed_19

theorem d_DiscMakerModel_end_0 : decode b_DiscMakerModel_end 0 = .ok (.aload_n 0, 1) := by decide +kernel
theorem d_DiscMakerModel_end_1 : decode b_DiscMakerModel_end 1 = .ok (.iconst 0, 1) := by decide +kernel
theorem d_DiscMakerModel_end_2 : decode b_DiscMakerModel_end 2 = .ok (.putfield 118, 3) := by decide +kernel
theorem d_DiscMakerModel_end_5 : decode b_DiscMakerModel_end 5 = .ok (.iload_n 1, 1) := by decide +kernel
theorem d_DiscMakerModel_end_6 : decode b_DiscMakerModel_end 6 = .ok (.ifCond .lt 11, 3) := by decide +kernel
theorem d_DiscMakerModel_end_9 : decode b_DiscMakerModel_end 9 = .ok (.iload_n 1, 1) := by decide +kernel
theorem d_DiscMakerModel_end_10 : decode b_DiscMakerModel_end 10 = .ok (.aload_n 0, 1) := by decide +kernel
theorem d_DiscMakerModel_end_11 : decode b_DiscMakerModel_end 11 = .ok (.getfield 121, 3) := by decide +kernel
theorem d_DiscMakerModel_end_14 : decode b_DiscMakerModel_end 14 = .ok (.if_icmp .le 5, 3) := by decide +kernel
theorem d_DiscMakerModel_end_17 : decode b_DiscMakerModel_end 17 = .ok (.iconst 0, 1) := by decide +kernel
theorem d_DiscMakerModel_end_18 : decode b_DiscMakerModel_end 18 = .ok (.ireturn, 1) := by decide +kernel
theorem d_DiscMakerModel_end_19 : decode b_DiscMakerModel_end 19 = .ok (.aload_n 0, 1) := by decide +kernel
theorem d_DiscMakerModel_end_20 : decode b_DiscMakerModel_end 20 = .ok (.iload_n 1, 1) := by decide +kernel
theorem d_DiscMakerModel_end_21 : decode b_DiscMakerModel_end 21 = .ok (.putfield 121, 3) := by decide +kernel
theorem d_DiscMakerModel_end_24 : decode b_DiscMakerModel_end 24 = .ok (.iconst 1, 1) := by decide +kernel
theorem d_DiscMakerModel_end_25 : decode b_DiscMakerModel_end 25 = .ok (.ireturn, 1) := by decide +kernel
set_option maxHeartbeats 4000000 in
set_option maxRecDepth 100000 in
theorem m_end (l : Launch) (D : va_G) (cB cI cJ cZ cN cF : ClassId) (sz : Nat) (h0 : Nat) (ma : Nat → Nat) (sv_thrown sv_length sv_nodes sv_many sv_directories sv_runsFrom sv_runs sv_read sv_wrong sv_isNamed sv_goes sv_goesSize sv_goesAt sv_targetParts sv_isRoot : Int32) (x : Int32) : Met l y_DiscMakerModel_end w_DiscMakerModel_end ({ frames := 0, cells := 0, slots := 0, locals := 0 }) (va_Pc [.ref h0, .int x] (fun U => U.heap.size = sz ∧ va_P D CL [(h0, .inr (11, MO ma sv_thrown sv_length sv_nodes sv_many sv_directories sv_runsFrom sv_runs sv_read sv_wrong sv_isNamed sv_goes sv_goesSize sv_goesAt sv_targetParts sv_isRoot))] U.heap ∧ va_K D CL (TY cB cI cJ cZ cN cF) U ∧ NN U ∧ va_D (fun _ => True) [(h0, .inr (11, MO ma sv_thrown sv_length sv_nodes sv_many sv_directories sv_runsFrom sv_runs sv_read sv_wrong sv_isNamed sv_goes sv_goesSize sv_goesAt sv_targetParts sv_isRoot))])) (va_Qi (fun (r : Int32) (u : Int32 × Int32) => match u with | (th, ln) => ((r.toInt = 0 ∧ ln.toInt = sv_length.toInt ∧ (x.toInt < 0 ∨ sv_length.toInt < x.toInt)) ∨ (r.toInt = 1 ∧ ln.toInt = x.toInt ∧ 0 ≤ x.toInt ∧ x.toInt ≤ sv_length.toInt))) (fun (u : Int32 × Int32) (t : State) => match u with | (th, ln) => va_P D CL [(h0, .inr (11, MO ma th ln sv_nodes sv_many sv_directories sv_runsFrom sv_runs sv_read sv_wrong sv_isNamed sv_goes sv_goesSize sv_goesAt sv_targetParts sv_isRoot))] t.heap ∧ va_D (va_A [(h0, .inr (11, MO ma sv_thrown sv_length sv_nodes sv_many sv_directories sv_runsFrom sv_runs sv_read sv_wrong sv_isNamed sv_goes sv_goesSize sv_goesAt sv_targetParts sv_isRoot))] sz) [(h0, .inr (11, MO ma th ln sv_nodes sv_many sv_directories sv_runsFrom sv_runs sv_read sv_wrong sv_isNamed sv_goes sv_goesSize sv_goesAt sv_targetParts sv_isRoot))]) (va_A [(h0, .inr (11, MO ma sv_thrown sv_length sv_nodes sv_many sv_directories sv_runsFrom sv_runs sv_read sv_wrong sv_isNamed sv_goes sv_goesSize sv_goesAt sv_targetParts sv_isRoot))] sz)) 0 0 (va_A [(h0, .inr (11, MO ma sv_thrown sv_length sv_nodes sv_many sv_directories sv_runsFrom sv_runs sv_read sv_wrong sv_isNamed sv_goes sv_goesSize sv_goesAt sv_targetParts sv_isRoot))] sz) := by
  refine Met.ofW (cc := b_DiscMakerModel_end) (maxL := 2) (ret := some .boolean) (by decide) rfl ?_
  intro p e s m args below meth c s₁ B hml hv
  obtain ⟨rfl, hsz, hP, hK, hN, hD0⟩ := hv
  have hx := B.exec
  have hb := B.bytes
  have hr := B.returns
  have hts := atoms_spec (ws := w_DiscMakerModel_end) B.pre
  have ht9 := fun (w : Cond) (h : w ∈ lw_g) => hts w (List.mem_cons_of_mem _ h)
  have hown : s.vm.findClass "DiscMakerModel" = some m.cls := findClass_of_methodNamed B.named
  have hlocks := B.notSynchronized
  subst hsz
  have hD := hD0.self (sz := s.heap.size)
  generalize hAe : va_A [(h0, .inr (11, MO ma sv_thrown sv_length sv_nodes sv_many sv_directories sv_runsFrom sv_runs sv_read sv_wrong sv_isNamed sv_goes sv_goesSize sv_goesAt sv_targetParts sv_isRoot))] s.heap.size = A at hD ⊢
  have hA : ∀ q : Nat, s.heap.size ≤ q → A q := fun q h => by rw [← hAe]; exact Or.inr h
  have hS : va_S A s.heap s.heap [] := va_S.rf
  have hP : va_P D CL [(h0, .inr (11, MO ma sv_thrown sv_length sv_nodes sv_many sv_directories sv_runsFrom sv_runs sv_read sv_wrong sv_isNamed sv_goes sv_goesSize sv_goesAt sv_targetParts sv_isRoot))] s.heap := hP
  have hl := lv_entry [.ref h0, .int x] (n := 2) (Nat.le_of_ble_eq_true rfl)
  rw [lg_entry_eq]
  generalize (lg_sl [.ref h0, .int x] ++ List.replicate (2 - (lg_sl [.ref h0, .int x]).length) Slot.unset).toArray = ls at hl ⊢
  have hl : lv_has ls 2 [(0, .ref h0), (1, .int x)] := hl
  have L_m1 : ((-1) : Int32).toInt = (-1) := by decide
  have L_0 : (0 : Int32).toInt = 0 := by decide
  have L_1 : (1 : Int32).toInt = 1 := by decide
  refine lv_aload_n hx hb d_DiscMakerModel_end_0 rfl (lv_at hl 0 rfl) ?_
  refine lv_iconst (v := 0) hx hb d_DiscMakerModel_end_1 (by decide) ?_
  refine va_put (D := D) (ci := 11) (v := .int 0) (ty := .int) (C := "DiscMakerModel") (T := F_DiscMakerModel) (N := 48) hx hb ht9 in_DiscMakerModel t_DiscMakerModel t_DiscMakerModel_ok n_DiscMakerModel hown hK hP hD hS 0 rfl rfl 0 (by decide) (ht9 _ k1431) (fun _ h9 => h9) rfl (by decide +kernel) rfl rfl (Nat.le_of_ble_eq_true rfl) d_DiscMakerModel_end_2 (fun H locs hP hD hS => ?_)
  have hP : va_P D CL [(h0, .inr (11, MO ma 0 sv_length sv_nodes sv_many sv_directories sv_runsFrom sv_runs sv_read sv_wrong sv_isNamed sv_goes sv_goesSize sv_goesAt sv_targetParts sv_isRoot))] H := hP
  have hD : va_D A [(h0, .inr (11, MO ma 0 sv_length sv_nodes sv_many sv_directories sv_runsFrom sv_runs sv_read sv_wrong sv_isNamed sv_goes sv_goesSize sv_goesAt sv_targetParts sv_isRoot))] := hD
  refine lv_iload_n hx hb d_DiscMakerModel_end_5 rfl (lv_at hl 1 rfl) ?_
  refine lv_if_lt (tgt := 17) hx hb d_DiscMakerModel_end_6 (by decide) (fun h_9 => ?_) (fun h_9 => ?_)
  · skip
    have g6_5 : x.toInt < 0 := (i_lt rfl (by decide)).mp h_9
    refine lv_iconst (v := 0) hx hb d_DiscMakerModel_end_17 (by decide) ?_
    have hP9 := hP.sub (ws' := [(h0, .inr (11, MO ma 0 sv_length sv_nodes sv_many sv_directories sv_runsFrom sv_runs sv_read sv_wrong sv_isNamed sv_goes sv_goesSize sv_goesAt sv_targetParts sv_isRoot))]) [0] rfl
    have hD9 := hD.sub (ws' := [(h0, .inr (11, MO ma 0 sv_length sv_nodes sv_many sv_directories sv_runsFrom sv_runs sv_read sv_wrong sv_isNamed sv_goes sv_goesSize sv_goesAt sv_targetParts sv_isRoot))]) [0] (by decide +kernel) rfl
    exact W.zret (v := 0) hx hb hr (by first | rfl | decide | exact i_narZ (by omega)) (fun t ht hW => ⟨⟨0, (0, sv_length), rfl, (by (try dsimp only); first | assumption | omega | trivial), by rw [ht]; exact hP9, hD9⟩, hS.F ht⟩) hS.2.2 d_DiscMakerModel_end_18
  · skip
    have g6_5 : ¬ x.toInt < 0 := fun h8 => h_9 ((i_lt rfl (by decide)).mpr h8)
    refine lv_iload_n hx hb d_DiscMakerModel_end_9 rfl (lv_at hl 1 rfl) ?_
    refine lv_aload_n hx hb d_DiscMakerModel_end_10 rfl (lv_at hl 0 rfl) ?_
    refine va_get (D := D) (ci := 11) (v := .int sv_length) (C := "DiscMakerModel") (T := F_DiscMakerModel) (N := 48) hx hb ht9 in_DiscMakerModel hown hK hP 0 rfl rfl 2 (by decide) (ht9 _ k1433) (fun _ h9 => h9) rfl d_DiscMakerModel_end_11 ?_
    refine lv_icmp_le (tgt := 19) hx hb d_DiscMakerModel_end_14 (by decide) (fun h_9 => ?_) (fun h_9 => ?_)
    · skip
      have g14_11 : x.toInt ≤ sv_length.toInt := (i_le rfl rfl).mp h_9
      refine lv_aload_n hx hb d_DiscMakerModel_end_19 rfl (lv_at hl 0 rfl) ?_
      refine lv_iload_n hx hb d_DiscMakerModel_end_20 rfl (lv_at hl 1 rfl) ?_
      refine va_put (D := D) (ci := 11) (v := .int x) (ty := .int) (C := "DiscMakerModel") (T := F_DiscMakerModel) (N := 48) hx hb ht9 in_DiscMakerModel t_DiscMakerModel t_DiscMakerModel_ok n_DiscMakerModel hown hK hP hD hS 0 rfl rfl 2 (by decide) (ht9 _ k1433) (fun _ h9 => h9) rfl (by decide +kernel) rfl rfl (Nat.le_of_ble_eq_true rfl) d_DiscMakerModel_end_21 (fun H locs hP hD hS => ?_)
      have hP : va_P D CL [(h0, .inr (11, MO ma 0 x sv_nodes sv_many sv_directories sv_runsFrom sv_runs sv_read sv_wrong sv_isNamed sv_goes sv_goesSize sv_goesAt sv_targetParts sv_isRoot))] H := hP
      have hD : va_D A [(h0, .inr (11, MO ma 0 x sv_nodes sv_many sv_directories sv_runsFrom sv_runs sv_read sv_wrong sv_isNamed sv_goes sv_goesSize sv_goesAt sv_targetParts sv_isRoot))] := hD
      refine lv_iconst (v := 1) hx hb d_DiscMakerModel_end_24 (by decide) ?_
      have hP9 := hP.sub (ws' := [(h0, .inr (11, MO ma 0 x sv_nodes sv_many sv_directories sv_runsFrom sv_runs sv_read sv_wrong sv_isNamed sv_goes sv_goesSize sv_goesAt sv_targetParts sv_isRoot))]) [0] rfl
      have hD9 := hD.sub (ws' := [(h0, .inr (11, MO ma 0 x sv_nodes sv_many sv_directories sv_runsFrom sv_runs sv_read sv_wrong sv_isNamed sv_goes sv_goesSize sv_goesAt sv_targetParts sv_isRoot))]) [0] (by decide +kernel) rfl
      exact W.zret (v := 1) hx hb hr (by first | rfl | decide | exact i_narZ (by omega)) (fun t ht hW => ⟨⟨1, (0, x), rfl, (by (try dsimp only); first | assumption | omega | trivial), by rw [ht]; exact hP9, hD9⟩, hS.F ht⟩) hS.2.2 d_DiscMakerModel_end_25
    · skip
      have g14_11 : ¬ x.toInt ≤ sv_length.toInt := fun h8 => h_9 ((i_le rfl rfl).mpr h8)
      refine lv_iconst (v := 0) hx hb d_DiscMakerModel_end_17 (by decide) ?_
      have hP9 := hP.sub (ws' := [(h0, .inr (11, MO ma 0 sv_length sv_nodes sv_many sv_directories sv_runsFrom sv_runs sv_read sv_wrong sv_isNamed sv_goes sv_goesSize sv_goesAt sv_targetParts sv_isRoot))]) [0] rfl
      have hD9 := hD.sub (ws' := [(h0, .inr (11, MO ma 0 sv_length sv_nodes sv_many sv_directories sv_runsFrom sv_runs sv_read sv_wrong sv_isNamed sv_goes sv_goesSize sv_goesAt sv_targetParts sv_isRoot))]) [0] (by decide +kernel) rfl
      exact W.zret (v := 0) hx hb hr (by first | rfl | decide | exact i_narZ (by omega)) (fun t ht hW => ⟨⟨0, (0, sv_length), rfl, (by (try dsimp only); first | assumption | omega | trivial), by rw [ht]; exact hP9, hD9⟩, hS.F ht⟩) hS.2.2 d_DiscMakerModel_end_18

theorem d_DiscMakerModel_isLetter_0 : decode b_DiscMakerModel_isLetter 0 = .ok (.iload_n 0, 1) := by decide +kernel
theorem d_DiscMakerModel_isLetter_1 : decode b_DiscMakerModel_isLetter 1 = .ok (.bipush 97, 2) := by decide +kernel
theorem d_DiscMakerModel_isLetter_3 : decode b_DiscMakerModel_isLetter 3 = .ok (.if_icmp .lt 9, 3) := by decide +kernel
theorem d_DiscMakerModel_isLetter_6 : decode b_DiscMakerModel_isLetter 6 = .ok (.iload_n 0, 1) := by decide +kernel
theorem d_DiscMakerModel_isLetter_7 : decode b_DiscMakerModel_isLetter 7 = .ok (.bipush 122, 2) := by decide +kernel
theorem d_DiscMakerModel_isLetter_9 : decode b_DiscMakerModel_isLetter 9 = .ok (.if_icmp .le 15, 3) := by decide +kernel
theorem d_DiscMakerModel_isLetter_12 : decode b_DiscMakerModel_isLetter 12 = .ok (.iload_n 0, 1) := by decide +kernel
theorem d_DiscMakerModel_isLetter_13 : decode b_DiscMakerModel_isLetter 13 = .ok (.bipush 65, 2) := by decide +kernel
theorem d_DiscMakerModel_isLetter_15 : decode b_DiscMakerModel_isLetter 15 = .ok (.if_icmp .lt 13, 3) := by decide +kernel
theorem d_DiscMakerModel_isLetter_18 : decode b_DiscMakerModel_isLetter 18 = .ok (.iload_n 0, 1) := by decide +kernel
theorem d_DiscMakerModel_isLetter_19 : decode b_DiscMakerModel_isLetter 19 = .ok (.bipush 90, 2) := by decide +kernel
theorem d_DiscMakerModel_isLetter_21 : decode b_DiscMakerModel_isLetter 21 = .ok (.if_icmp .gt 7, 3) := by decide +kernel
theorem d_DiscMakerModel_isLetter_24 : decode b_DiscMakerModel_isLetter 24 = .ok (.iconst 1, 1) := by decide +kernel
theorem d_DiscMakerModel_isLetter_25 : decode b_DiscMakerModel_isLetter 25 = .ok (.goto 4, 3) := by decide +kernel
theorem d_DiscMakerModel_isLetter_28 : decode b_DiscMakerModel_isLetter 28 = .ok (.iconst 0, 1) := by decide +kernel
theorem d_DiscMakerModel_isLetter_29 : decode b_DiscMakerModel_isLetter 29 = .ok (.ireturn, 1) := by decide +kernel
set_option maxHeartbeats 4000000 in
set_option maxRecDepth 100000 in
theorem m_isLetter (l : Launch) (D : va_G) (cB cI cJ cZ cN cF : ClassId) (sz : Nat) (x : Int32) : Met l y_DiscMakerModel_isLetter w_DiscMakerModel_isLetter ({ frames := 0, cells := 0, slots := 0, locals := 0 }) (va_Pc [.int x] (fun U => U.heap.size = sz ∧ va_P D CL [] U.heap ∧ va_K D CL (TY cB cI cJ cZ cN cF) U ∧ NN U ∧ va_D (fun _ => True) [])) (va_Qi (fun (r : Int32) (u : Unit) => (0 ≤ r.toInt ∧ r.toInt ≤ 1) ∧ (r.toInt = 0 ∨ (65 ≤ x.toInt ∧ x.toInt ≤ 122)) ∧ (BoolIs r (isLet x.toInt))) (fun (u : Unit) (t : State) => match u with | () => va_P D CL [] t.heap ∧ va_D (va_A [] sz) []) (va_A [] sz)) 0 0 (va_A [] sz) := by
  refine Met.ofW (cc := b_DiscMakerModel_isLetter) (maxL := 1) (ret := some .boolean) (by decide) rfl ?_
  intro p e s m args below meth c s₁ B hml hv
  obtain ⟨rfl, hsz, hP, hK, hN, hD0⟩ := hv
  have hx := B.exec
  have hb := B.bytes
  have hr := B.returns
  have hts := atoms_spec (ws := w_DiscMakerModel_isLetter) B.pre
  have ht9 := fun (w : Cond) (h : w ∈ lw_g) => hts w (List.mem_cons_of_mem _ h)
  have hown : s.vm.findClass "DiscMakerModel" = some m.cls := findClass_of_methodNamed B.named
  have hlocks := B.notSynchronized
  subst hsz
  have hD := hD0.self (sz := s.heap.size)
  generalize hAe : va_A [] s.heap.size = A at hD ⊢
  have hA : ∀ q : Nat, s.heap.size ≤ q → A q := fun q h => by rw [← hAe]; exact Or.inr h
  have hS : va_S A s.heap s.heap [] := va_S.rf
  have hP : va_P D CL [] s.heap := hP
  have hl := lv_entry [.int x] (n := 1) (Nat.le_of_ble_eq_true rfl)
  rw [lg_entry_eq]
  generalize (lg_sl [.int x] ++ List.replicate (1 - (lg_sl [.int x]).length) Slot.unset).toArray = ls at hl ⊢
  have hl : lv_has ls 1 [(0, .int x)] := hl
  have L_m1 : ((-1) : Int32).toInt = (-1) := by decide
  have L_0 : (0 : Int32).toInt = 0 := by decide
  have L_1 : (1 : Int32).toInt = 1 := by decide
  have L_65 : (65 : Int32).toInt = 65 := by decide
  have L_90 : (90 : Int32).toInt = 90 := by decide
  have L_97 : (97 : Int32).toInt = 97 := by decide
  have L_122 : (122 : Int32).toInt = 122 := by decide
  refine lv_iload_n hx hb d_DiscMakerModel_isLetter_0 rfl (lv_at hl 0 rfl) ?_
  refine lv_bipush (v := 97) hx hb d_DiscMakerModel_isLetter_1 (by decide) ?_
  refine lv_icmp_lt (tgt := 12) hx hb d_DiscMakerModel_isLetter_3 (by decide) (fun h_9 => ?_) (fun h_9 => ?_)
  · skip
    have g3_3 : x.toInt < 97 := (i_lt rfl (by decide)).mp h_9
    refine lv_iload_n hx hb d_DiscMakerModel_isLetter_12 rfl (lv_at hl 0 rfl) ?_
    refine lv_bipush (v := 65) hx hb d_DiscMakerModel_isLetter_13 (by decide) ?_
    refine lv_icmp_lt (tgt := 28) hx hb d_DiscMakerModel_isLetter_15 (by decide) (fun h_9 => ?_) (fun h_9 => ?_)
    · skip
      have g15_6 : x.toInt < 65 := (i_lt rfl (by decide)).mp h_9
      refine lv_iconst (v := 0) hx hb d_DiscMakerModel_isLetter_28 (by decide) ?_
      have hP9 := hP.sub (ws' := []) [] rfl
      have hD9 := hD.sub (ws' := []) [] (by decide +kernel) rfl
      exact W.zret (v := 0) hx hb hr (by first | rfl | decide | exact i_narZ (by omega)) (fun t ht hW => ⟨⟨0, (), rfl, ⟨(by (try dsimp only); first | assumption | omega | trivial), (by (try dsimp only); first | assumption | omega | trivial), (by (try dsimp only); unfold BoolIs isLet; omega)⟩, by rw [ht]; exact hP9, hD9⟩, hS.F ht⟩) hS.2.2 d_DiscMakerModel_isLetter_29
    · skip
      have g15_6 : ¬ x.toInt < 65 := fun h8 => h_9 ((i_lt rfl (by decide)).mpr h8)
      refine lv_iload_n hx hb d_DiscMakerModel_isLetter_18 rfl (lv_at hl 0 rfl) ?_
      refine lv_bipush (v := 90) hx hb d_DiscMakerModel_isLetter_19 (by decide) ?_
      refine lv_icmp_gt (tgt := 28) hx hb d_DiscMakerModel_isLetter_21 (by decide) (fun h_9 => ?_) (fun h_9 => ?_)
      · skip
        have g21_11 : 90 < x.toInt := (i_lt (by decide) rfl).mp h_9
        refine lv_iconst (v := 0) hx hb d_DiscMakerModel_isLetter_28 (by decide) ?_
        have hP9 := hP.sub (ws' := []) [] rfl
        have hD9 := hD.sub (ws' := []) [] (by decide +kernel) rfl
        exact W.zret (v := 0) hx hb hr (by first | rfl | decide | exact i_narZ (by omega)) (fun t ht hW => ⟨⟨0, (), rfl, ⟨(by (try dsimp only); first | assumption | omega | trivial), (by (try dsimp only); first | assumption | omega | trivial), (by (try dsimp only); unfold BoolIs isLet; omega)⟩, by rw [ht]; exact hP9, hD9⟩, hS.F ht⟩) hS.2.2 d_DiscMakerModel_isLetter_29
      · skip
        have g21_11 : ¬ 90 < x.toInt := fun h8 => h_9 ((i_lt (by decide) rfl).mpr h8)
        refine lv_iconst (v := 1) hx hb d_DiscMakerModel_isLetter_24 (by decide) ?_
        refine lv_goto (tgt := 29) hx hb d_DiscMakerModel_isLetter_25 (by decide) ?_
        have hP9 := hP.sub (ws' := []) [] rfl
        have hD9 := hD.sub (ws' := []) [] (by decide +kernel) rfl
        exact W.zret (v := 1) hx hb hr (by first | rfl | decide | exact i_narZ (by omega)) (fun t ht hW => ⟨⟨1, (), rfl, ⟨(by (try dsimp only); first | assumption | omega | trivial), (by (try dsimp only); first | assumption | omega | trivial), (by (try dsimp only); unfold BoolIs isLet; omega)⟩, by rw [ht]; exact hP9, hD9⟩, hS.F ht⟩) hS.2.2 d_DiscMakerModel_isLetter_29
  · skip
    have g3_3 : ¬ x.toInt < 97 := fun h8 => h_9 ((i_lt rfl (by decide)).mpr h8)
    refine lv_iload_n hx hb d_DiscMakerModel_isLetter_6 rfl (lv_at hl 0 rfl) ?_
    refine lv_bipush (v := 122) hx hb d_DiscMakerModel_isLetter_7 (by decide) ?_
    refine lv_icmp_le (tgt := 24) hx hb d_DiscMakerModel_isLetter_9 (by decide) (fun h_9 => ?_) (fun h_9 => ?_)
    · skip
      have g9_19 : x.toInt ≤ 122 := (i_le rfl (by decide)).mp h_9
      refine lv_iconst (v := 1) hx hb d_DiscMakerModel_isLetter_24 (by decide) ?_
      refine lv_goto (tgt := 29) hx hb d_DiscMakerModel_isLetter_25 (by decide) ?_
      have hP9 := hP.sub (ws' := []) [] rfl
      have hD9 := hD.sub (ws' := []) [] (by decide +kernel) rfl
      exact W.zret (v := 1) hx hb hr (by first | rfl | decide | exact i_narZ (by omega)) (fun t ht hW => ⟨⟨1, (), rfl, ⟨(by (try dsimp only); first | assumption | omega | trivial), (by (try dsimp only); first | assumption | omega | trivial), (by (try dsimp only); unfold BoolIs isLet; omega)⟩, by rw [ht]; exact hP9, hD9⟩, hS.F ht⟩) hS.2.2 d_DiscMakerModel_isLetter_29
    · skip
      have g9_19 : ¬ x.toInt ≤ 122 := fun h8 => h_9 ((i_le rfl (by decide)).mpr h8)
      refine lv_iload_n hx hb d_DiscMakerModel_isLetter_12 rfl (lv_at hl 0 rfl) ?_
      refine lv_bipush (v := 65) hx hb d_DiscMakerModel_isLetter_13 (by decide) ?_
      refine lv_icmp_lt (tgt := 28) hx hb d_DiscMakerModel_isLetter_15 (by decide) (fun h_9 => ?_) (fun h_9 => ?_)
      · skip
        have g15_25 : x.toInt < 65 := (i_lt rfl (by decide)).mp h_9
        refine lv_iconst (v := 0) hx hb d_DiscMakerModel_isLetter_28 (by decide) ?_
        have hP9 := hP.sub (ws' := []) [] rfl
        have hD9 := hD.sub (ws' := []) [] (by decide +kernel) rfl
        exact W.zret (v := 0) hx hb hr (by first | rfl | decide | exact i_narZ (by omega)) (fun t ht hW => ⟨⟨0, (), rfl, ⟨(by (try dsimp only); first | assumption | omega | trivial), (by (try dsimp only); first | assumption | omega | trivial), (by (try dsimp only); unfold BoolIs isLet; omega)⟩, by rw [ht]; exact hP9, hD9⟩, hS.F ht⟩) hS.2.2 d_DiscMakerModel_isLetter_29
      · skip
        have g15_25 : ¬ x.toInt < 65 := fun h8 => h_9 ((i_lt rfl (by decide)).mpr h8)
        refine lv_iload_n hx hb d_DiscMakerModel_isLetter_18 rfl (lv_at hl 0 rfl) ?_
        refine lv_bipush (v := 90) hx hb d_DiscMakerModel_isLetter_19 (by decide) ?_
        refine lv_icmp_gt (tgt := 28) hx hb d_DiscMakerModel_isLetter_21 (by decide) (fun h_9 => ?_) (fun h_9 => ?_)
        · skip
          have g21_30 : 90 < x.toInt := (i_lt (by decide) rfl).mp h_9
          refine lv_iconst (v := 0) hx hb d_DiscMakerModel_isLetter_28 (by decide) ?_
          have hP9 := hP.sub (ws' := []) [] rfl
          have hD9 := hD.sub (ws' := []) [] (by decide +kernel) rfl
          exact W.zret (v := 0) hx hb hr (by first | rfl | decide | exact i_narZ (by omega)) (fun t ht hW => ⟨⟨0, (), rfl, ⟨(by (try dsimp only); first | assumption | omega | trivial), (by (try dsimp only); first | assumption | omega | trivial), (by (try dsimp only); unfold BoolIs isLet; omega)⟩, by rw [ht]; exact hP9, hD9⟩, hS.F ht⟩) hS.2.2 d_DiscMakerModel_isLetter_29
        · skip
          have g21_30 : ¬ 90 < x.toInt := fun h8 => h_9 ((i_lt (by decide) rfl).mpr h8)
          refine lv_iconst (v := 1) hx hb d_DiscMakerModel_isLetter_24 (by decide) ?_
          refine lv_goto (tgt := 29) hx hb d_DiscMakerModel_isLetter_25 (by decide) ?_
          have hP9 := hP.sub (ws' := []) [] rfl
          have hD9 := hD.sub (ws' := []) [] (by decide +kernel) rfl
          exact W.zret (v := 1) hx hb hr (by first | rfl | decide | exact i_narZ (by omega)) (fun t ht hW => ⟨⟨1, (), rfl, ⟨(by (try dsimp only); first | assumption | omega | trivial), (by (try dsimp only); first | assumption | omega | trivial), (by (try dsimp only); unfold BoolIs isLet; omega)⟩, by rw [ht]; exact hP9, hD9⟩, hS.F ht⟩) hS.2.2 d_DiscMakerModel_isLetter_29

theorem d_DiscMakerModel_isDigit_0 : decode b_DiscMakerModel_isDigit 0 = .ok (.iload_n 0, 1) := by decide +kernel
theorem d_DiscMakerModel_isDigit_1 : decode b_DiscMakerModel_isDigit 1 = .ok (.bipush 48, 2) := by decide +kernel
theorem d_DiscMakerModel_isDigit_3 : decode b_DiscMakerModel_isDigit 3 = .ok (.if_icmp .lt 13, 3) := by decide +kernel
theorem d_DiscMakerModel_isDigit_6 : decode b_DiscMakerModel_isDigit 6 = .ok (.iload_n 0, 1) := by decide +kernel
theorem d_DiscMakerModel_isDigit_7 : decode b_DiscMakerModel_isDigit 7 = .ok (.bipush 57, 2) := by decide +kernel
theorem d_DiscMakerModel_isDigit_9 : decode b_DiscMakerModel_isDigit 9 = .ok (.if_icmp .gt 7, 3) := by decide +kernel
theorem d_DiscMakerModel_isDigit_12 : decode b_DiscMakerModel_isDigit 12 = .ok (.iconst 1, 1) := by decide +kernel
theorem d_DiscMakerModel_isDigit_13 : decode b_DiscMakerModel_isDigit 13 = .ok (.goto 4, 3) := by decide +kernel
theorem d_DiscMakerModel_isDigit_16 : decode b_DiscMakerModel_isDigit 16 = .ok (.iconst 0, 1) := by decide +kernel
theorem d_DiscMakerModel_isDigit_17 : decode b_DiscMakerModel_isDigit 17 = .ok (.ireturn, 1) := by decide +kernel
set_option maxHeartbeats 4000000 in
set_option maxRecDepth 100000 in
theorem m_isDigit (l : Launch) (D : va_G) (cB cI cJ cZ cN cF : ClassId) (sz : Nat) (x : Int32) : Met l y_DiscMakerModel_isDigit w_DiscMakerModel_isDigit ({ frames := 0, cells := 0, slots := 0, locals := 0 }) (va_Pc [.int x] (fun U => U.heap.size = sz ∧ va_P D CL [] U.heap ∧ va_K D CL (TY cB cI cJ cZ cN cF) U ∧ NN U ∧ va_D (fun _ => True) [])) (va_Qi (fun (r : Int32) (u : Unit) => (0 ≤ r.toInt ∧ r.toInt ≤ 1) ∧ (r.toInt = 0 ∨ (48 ≤ x.toInt ∧ x.toInt ≤ 57)) ∧ (BoolIs r (isDig x.toInt))) (fun (u : Unit) (t : State) => match u with | () => va_P D CL [] t.heap ∧ va_D (va_A [] sz) []) (va_A [] sz)) 0 0 (va_A [] sz) := by
  refine Met.ofW (cc := b_DiscMakerModel_isDigit) (maxL := 1) (ret := some .boolean) (by decide) rfl ?_
  intro p e s m args below meth c s₁ B hml hv
  obtain ⟨rfl, hsz, hP, hK, hN, hD0⟩ := hv
  have hx := B.exec
  have hb := B.bytes
  have hr := B.returns
  have hts := atoms_spec (ws := w_DiscMakerModel_isDigit) B.pre
  have ht9 := fun (w : Cond) (h : w ∈ lw_g) => hts w (List.mem_cons_of_mem _ h)
  have hown : s.vm.findClass "DiscMakerModel" = some m.cls := findClass_of_methodNamed B.named
  have hlocks := B.notSynchronized
  subst hsz
  have hD := hD0.self (sz := s.heap.size)
  generalize hAe : va_A [] s.heap.size = A at hD ⊢
  have hA : ∀ q : Nat, s.heap.size ≤ q → A q := fun q h => by rw [← hAe]; exact Or.inr h
  have hS : va_S A s.heap s.heap [] := va_S.rf
  have hP : va_P D CL [] s.heap := hP
  have hl := lv_entry [.int x] (n := 1) (Nat.le_of_ble_eq_true rfl)
  rw [lg_entry_eq]
  generalize (lg_sl [.int x] ++ List.replicate (1 - (lg_sl [.int x]).length) Slot.unset).toArray = ls at hl ⊢
  have hl : lv_has ls 1 [(0, .int x)] := hl
  have L_m1 : ((-1) : Int32).toInt = (-1) := by decide
  have L_0 : (0 : Int32).toInt = 0 := by decide
  have L_1 : (1 : Int32).toInt = 1 := by decide
  have L_48 : (48 : Int32).toInt = 48 := by decide
  have L_57 : (57 : Int32).toInt = 57 := by decide
  refine lv_iload_n hx hb d_DiscMakerModel_isDigit_0 rfl (lv_at hl 0 rfl) ?_
  refine lv_bipush (v := 48) hx hb d_DiscMakerModel_isDigit_1 (by decide) ?_
  refine lv_icmp_lt (tgt := 16) hx hb d_DiscMakerModel_isDigit_3 (by decide) (fun h_9 => ?_) (fun h_9 => ?_)
  · skip
    have g3_3 : x.toInt < 48 := (i_lt rfl (by decide)).mp h_9
    refine lv_iconst (v := 0) hx hb d_DiscMakerModel_isDigit_16 (by decide) ?_
    have hP9 := hP.sub (ws' := []) [] rfl
    have hD9 := hD.sub (ws' := []) [] (by decide +kernel) rfl
    exact W.zret (v := 0) hx hb hr (by first | rfl | decide | exact i_narZ (by omega)) (fun t ht hW => ⟨⟨0, (), rfl, ⟨(by (try dsimp only); first | assumption | omega | trivial), (by (try dsimp only); first | assumption | omega | trivial), (by (try dsimp only); unfold BoolIs isDig; omega)⟩, by rw [ht]; exact hP9, hD9⟩, hS.F ht⟩) hS.2.2 d_DiscMakerModel_isDigit_17
  · skip
    have g3_3 : ¬ x.toInt < 48 := fun h8 => h_9 ((i_lt rfl (by decide)).mpr h8)
    refine lv_iload_n hx hb d_DiscMakerModel_isDigit_6 rfl (lv_at hl 0 rfl) ?_
    refine lv_bipush (v := 57) hx hb d_DiscMakerModel_isDigit_7 (by decide) ?_
    refine lv_icmp_gt (tgt := 16) hx hb d_DiscMakerModel_isDigit_9 (by decide) (fun h_9 => ?_) (fun h_9 => ?_)
    · skip
      have g9_8 : 57 < x.toInt := (i_lt (by decide) rfl).mp h_9
      refine lv_iconst (v := 0) hx hb d_DiscMakerModel_isDigit_16 (by decide) ?_
      have hP9 := hP.sub (ws' := []) [] rfl
      have hD9 := hD.sub (ws' := []) [] (by decide +kernel) rfl
      exact W.zret (v := 0) hx hb hr (by first | rfl | decide | exact i_narZ (by omega)) (fun t ht hW => ⟨⟨0, (), rfl, ⟨(by (try dsimp only); first | assumption | omega | trivial), (by (try dsimp only); first | assumption | omega | trivial), (by (try dsimp only); unfold BoolIs isDig; omega)⟩, by rw [ht]; exact hP9, hD9⟩, hS.F ht⟩) hS.2.2 d_DiscMakerModel_isDigit_17
    · skip
      have g9_8 : ¬ 57 < x.toInt := fun h8 => h_9 ((i_lt (by decide) rfl).mpr h8)
      refine lv_iconst (v := 1) hx hb d_DiscMakerModel_isDigit_12 (by decide) ?_
      refine lv_goto (tgt := 17) hx hb d_DiscMakerModel_isDigit_13 (by decide) ?_
      have hP9 := hP.sub (ws' := []) [] rfl
      have hD9 := hD.sub (ws' := []) [] (by decide +kernel) rfl
      exact W.zret (v := 1) hx hb hr (by first | rfl | decide | exact i_narZ (by omega)) (fun t ht hW => ⟨⟨1, (), rfl, ⟨(by (try dsimp only); first | assumption | omega | trivial), (by (try dsimp only); first | assumption | omega | trivial), (by (try dsimp only); unfold BoolIs isDig; omega)⟩, by rw [ht]; exact hP9, hD9⟩, hS.F ht⟩) hS.2.2 d_DiscMakerModel_isDigit_17

theorem d_DiscMakerModel_isNumber_0 : decode b_DiscMakerModel_isNumber 0 = .ok (.iload_n 0, 1) := by decide +kernel
theorem d_DiscMakerModel_isNumber_1 : decode b_DiscMakerModel_isNumber 1 = .ok (.ifCond .lt 13, 3) := by decide +kernel
theorem d_DiscMakerModel_isNumber_4 : decode b_DiscMakerModel_isNumber 4 = .ok (.iload_n 0, 1) := by decide +kernel
theorem d_DiscMakerModel_isNumber_5 : decode b_DiscMakerModel_isNumber 5 = .ok (.ldc 135, 2) := by decide +kernel
theorem d_DiscMakerModel_isNumber_7 : decode b_DiscMakerModel_isNumber 7 = .ok (.if_icmp .gt 7, 3) := by decide +kernel
theorem d_DiscMakerModel_isNumber_10 : decode b_DiscMakerModel_isNumber 10 = .ok (.iconst 1, 1) := by decide +kernel
theorem d_DiscMakerModel_isNumber_11 : decode b_DiscMakerModel_isNumber 11 = .ok (.goto 4, 3) := by decide +kernel
theorem d_DiscMakerModel_isNumber_14 : decode b_DiscMakerModel_isNumber 14 = .ok (.iconst 0, 1) := by decide +kernel
theorem d_DiscMakerModel_isNumber_15 : decode b_DiscMakerModel_isNumber 15 = .ok (.ireturn, 1) := by decide +kernel
set_option maxHeartbeats 4000000 in
set_option maxRecDepth 100000 in
theorem m_isNumber (l : Launch) (D : va_G) (cB cI cJ cZ cN cF : ClassId) (sz : Nat) (x : Int32) : Met l y_DiscMakerModel_isNumber w_DiscMakerModel_isNumber ({ frames := 0, cells := 0, slots := 0, locals := 0 }) (va_Pc [.int x] (fun U => U.heap.size = sz ∧ va_P D CL [] U.heap ∧ va_K D CL (TY cB cI cJ cZ cN cF) U ∧ NN U ∧ va_D (fun _ => True) [])) (va_Qi (fun (r : Int32) (u : Unit) => (0 ≤ r.toInt ∧ r.toInt ≤ 1) ∧ (BoolIs r (isNum x.toInt))) (fun (u : Unit) (t : State) => match u with | () => va_P D CL [] t.heap ∧ va_D (va_A [] sz) []) (va_A [] sz)) 0 0 (va_A [] sz) := by
  refine Met.ofW (cc := b_DiscMakerModel_isNumber) (maxL := 1) (ret := some .boolean) (by decide) rfl ?_
  intro p e s m args below meth c s₁ B hml hv
  obtain ⟨rfl, hsz, hP, hK, hN, hD0⟩ := hv
  have hx := B.exec
  have hb := B.bytes
  have hr := B.returns
  have hts := atoms_spec (ws := w_DiscMakerModel_isNumber) B.pre
  have ht9 := fun (w : Cond) (h : w ∈ lw_g) => hts w (List.mem_cons_of_mem _ h)
  have hown : s.vm.findClass "DiscMakerModel" = some m.cls := findClass_of_methodNamed B.named
  have hlocks := B.notSynchronized
  subst hsz
  have hD := hD0.self (sz := s.heap.size)
  generalize hAe : va_A [] s.heap.size = A at hD ⊢
  have hA : ∀ q : Nat, s.heap.size ≤ q → A q := fun q h => by rw [← hAe]; exact Or.inr h
  have hS : va_S A s.heap s.heap [] := va_S.rf
  have hP : va_P D CL [] s.heap := hP
  have hl := lv_entry [.int x] (n := 1) (Nat.le_of_ble_eq_true rfl)
  rw [lg_entry_eq]
  generalize (lg_sl [.int x] ++ List.replicate (1 - (lg_sl [.int x]).length) Slot.unset).toArray = ls at hl ⊢
  have hl : lv_has ls 1 [(0, .int x)] := hl
  have L_m1 : ((-1) : Int32).toInt = (-1) := by decide
  have L_0 : (0 : Int32).toInt = 0 := by decide
  have L_1 : (1 : Int32).toInt = 1 := by decide
  have L_1000000 : (1000000 : Int32).toInt = 1000000 := by decide
  refine lv_iload_n hx hb d_DiscMakerModel_isNumber_0 rfl (lv_at hl 0 rfl) ?_
  refine lv_if_lt (tgt := 14) hx hb d_DiscMakerModel_isNumber_1 (by decide) (fun h_9 => ?_) (fun h_9 => ?_)
  · skip
    have g1_2 : x.toInt < 0 := (i_lt rfl (by decide)).mp h_9
    refine lv_iconst (v := 0) hx hb d_DiscMakerModel_isNumber_14 (by decide) ?_
    have hP9 := hP.sub (ws' := []) [] rfl
    have hD9 := hD.sub (ws' := []) [] (by decide +kernel) rfl
    exact W.zret (v := 0) hx hb hr (by first | rfl | decide | exact i_narZ (by omega)) (fun t ht hW => ⟨⟨0, (), rfl, ⟨(by (try dsimp only); first | assumption | omega | trivial), (by (try dsimp only); unfold BoolIs isNum; omega)⟩, by rw [ht]; exact hP9, hD9⟩, hS.F ht⟩) hS.2.2 d_DiscMakerModel_isNumber_15
  · skip
    have g1_2 : ¬ x.toInt < 0 := fun h8 => h_9 ((i_lt rfl (by decide)).mpr h8)
    refine lv_iload_n hx hb d_DiscMakerModel_isNumber_4 rfl (lv_at hl 0 rfl) ?_
    refine lv_ldc (v := 1000000) hx hb hown (ht9 _ k1593) d_DiscMakerModel_isNumber_5 ?_
    refine lv_icmp_gt (tgt := 14) hx hb d_DiscMakerModel_isNumber_7 (by decide) (fun h_9 => ?_) (fun h_9 => ?_)
    · skip
      have g7_7 : 1000000 < x.toInt := (i_lt (by decide) rfl).mp h_9
      refine lv_iconst (v := 0) hx hb d_DiscMakerModel_isNumber_14 (by decide) ?_
      have hP9 := hP.sub (ws' := []) [] rfl
      have hD9 := hD.sub (ws' := []) [] (by decide +kernel) rfl
      exact W.zret (v := 0) hx hb hr (by first | rfl | decide | exact i_narZ (by omega)) (fun t ht hW => ⟨⟨0, (), rfl, ⟨(by (try dsimp only); first | assumption | omega | trivial), (by (try dsimp only); unfold BoolIs isNum; omega)⟩, by rw [ht]; exact hP9, hD9⟩, hS.F ht⟩) hS.2.2 d_DiscMakerModel_isNumber_15
    · skip
      have g7_7 : ¬ 1000000 < x.toInt := fun h8 => h_9 ((i_lt (by decide) rfl).mpr h8)
      refine lv_iconst (v := 1) hx hb d_DiscMakerModel_isNumber_10 (by decide) ?_
      refine lv_goto (tgt := 15) hx hb d_DiscMakerModel_isNumber_11 (by decide) ?_
      have hP9 := hP.sub (ws' := []) [] rfl
      have hD9 := hD.sub (ws' := []) [] (by decide +kernel) rfl
      exact W.zret (v := 1) hx hb hr (by first | rfl | decide | exact i_narZ (by omega)) (fun t ht hW => ⟨⟨1, (), rfl, ⟨(by (try dsimp only); first | assumption | omega | trivial), (by (try dsimp only); unfold BoolIs isNum; omega)⟩, by rw [ht]; exact hP9, hD9⟩, hS.F ht⟩) hS.2.2 d_DiscMakerModel_isNumber_15

theorem d_DiscMakerModel_isName_0 : decode b_DiscMakerModel_isName 0 = .ok (.iload_n 1, 1) := by decide +kernel
theorem d_DiscMakerModel_isName_1 : decode b_DiscMakerModel_isName 1 = .ok (.iconst 1, 1) := by decide +kernel
theorem d_DiscMakerModel_isName_2 : decode b_DiscMakerModel_isName 2 = .ok (.if_icmp .lt 45, 3) := by decide +kernel
theorem d_DiscMakerModel_isName_5 : decode b_DiscMakerModel_isName 5 = .ok (.iload_n 1, 1) := by decide +kernel
theorem d_DiscMakerModel_isName_6 : decode b_DiscMakerModel_isName 6 = .ok (.bipush 30, 2) := by decide +kernel
theorem d_DiscMakerModel_isName_8 : decode b_DiscMakerModel_isName 8 = .ok (.if_icmp .gt 39, 3) := by decide +kernel
theorem d_DiscMakerModel_isName_11 : decode b_DiscMakerModel_isName 11 = .ok (.aload_n 0, 1) := by decide +kernel
theorem d_DiscMakerModel_isName_12 : decode b_DiscMakerModel_isName 12 = .ok (.getfield 7, 3) := by decide +kernel
theorem d_DiscMakerModel_isName_15 : decode b_DiscMakerModel_isName 15 = .ok (.iconst 0, 1) := by decide +kernel
theorem d_DiscMakerModel_isName_16 : decode b_DiscMakerModel_isName 16 = .ok (.baload, 1) := by decide +kernel
theorem d_DiscMakerModel_isName_17 : decode b_DiscMakerModel_isName 17 = .ok (.bipush 46, 2) := by decide +kernel
theorem d_DiscMakerModel_isName_19 : decode b_DiscMakerModel_isName 19 = .ok (.if_icmp .ne 24, 3) := by decide +kernel
theorem d_DiscMakerModel_isName_22 : decode b_DiscMakerModel_isName 22 = .ok (.iload_n 1, 1) := by decide +kernel
theorem d_DiscMakerModel_isName_23 : decode b_DiscMakerModel_isName 23 = .ok (.iconst 1, 1) := by decide +kernel
theorem d_DiscMakerModel_isName_24 : decode b_DiscMakerModel_isName 24 = .ok (.if_icmp .eq 23, 3) := by decide +kernel
theorem d_DiscMakerModel_isName_27 : decode b_DiscMakerModel_isName 27 = .ok (.iload_n 1, 1) := by decide +kernel
theorem d_DiscMakerModel_isName_28 : decode b_DiscMakerModel_isName 28 = .ok (.iconst 2, 1) := by decide +kernel
theorem d_DiscMakerModel_isName_29 : decode b_DiscMakerModel_isName 29 = .ok (.if_icmp .ne 14, 3) := by decide +kernel
theorem d_DiscMakerModel_isName_32 : decode b_DiscMakerModel_isName 32 = .ok (.aload_n 0, 1) := by decide +kernel
theorem d_DiscMakerModel_isName_33 : decode b_DiscMakerModel_isName 33 = .ok (.getfield 7, 3) := by decide +kernel
theorem d_DiscMakerModel_isName_36 : decode b_DiscMakerModel_isName 36 = .ok (.iconst 1, 1) := by decide +kernel
theorem d_DiscMakerModel_isName_37 : decode b_DiscMakerModel_isName 37 = .ok (.baload, 1) := by decide +kernel
theorem d_DiscMakerModel_isName_38 : decode b_DiscMakerModel_isName 38 = .ok (.bipush 46, 2) := by decide +kernel
theorem d_DiscMakerModel_isName_40 : decode b_DiscMakerModel_isName 40 = .ok (.if_icmp .eq 7, 3) := by decide +kernel
theorem d_DiscMakerModel_isName_43 : decode b_DiscMakerModel_isName 43 = .ok (.iconst 1, 1) := by decide +kernel
theorem d_DiscMakerModel_isName_44 : decode b_DiscMakerModel_isName 44 = .ok (.goto 4, 3) := by decide +kernel
theorem d_DiscMakerModel_isName_47 : decode b_DiscMakerModel_isName 47 = .ok (.iconst 0, 1) := by decide +kernel
theorem d_DiscMakerModel_isName_48 : decode b_DiscMakerModel_isName 48 = .ok (.istore_n 2, 1) := by decide +kernel
theorem d_DiscMakerModel_isName_49 : decode b_DiscMakerModel_isName 49 = .ok (.iconst 0, 1) := by decide +kernel
theorem d_DiscMakerModel_isName_50 : decode b_DiscMakerModel_isName 50 = .ok (.istore_n 3, 1) := by decide +kernel
theorem d_DiscMakerModel_isName_51 : decode b_DiscMakerModel_isName 51 = .ok (.iload_n 3, 1) := by decide +kernel
theorem d_DiscMakerModel_isName_52 : decode b_DiscMakerModel_isName 52 = .ok (.iload_n 1, 1) := by decide +kernel
theorem d_DiscMakerModel_isName_53 : decode b_DiscMakerModel_isName 53 = .ok (.if_icmp .ge 71, 3) := by decide +kernel
theorem d_DiscMakerModel_isName_56 : decode b_DiscMakerModel_isName 56 = .ok (.iload_n 2, 1) := by decide +kernel
theorem d_DiscMakerModel_isName_57 : decode b_DiscMakerModel_isName 57 = .ok (.ifCond .eq 67, 3) := by decide +kernel
theorem d_DiscMakerModel_isName_60 : decode b_DiscMakerModel_isName 60 = .ok (.aload_n 0, 1) := by decide +kernel
theorem d_DiscMakerModel_isName_61 : decode b_DiscMakerModel_isName 61 = .ok (.getfield 7, 3) := by decide +kernel
theorem d_DiscMakerModel_isName_64 : decode b_DiscMakerModel_isName 64 = .ok (.iload_n 3, 1) := by decide +kernel
theorem d_DiscMakerModel_isName_65 : decode b_DiscMakerModel_isName 65 = .ok (.baload, 1) := by decide +kernel
theorem d_DiscMakerModel_isName_66 : decode b_DiscMakerModel_isName 66 = .ok (.istore 4, 2) := by decide +kernel
theorem d_DiscMakerModel_isName_68 : decode b_DiscMakerModel_isName 68 = .ok (.iload 4, 2) := by decide +kernel
theorem d_DiscMakerModel_isName_70 : decode b_DiscMakerModel_isName 70 = .ok (.invokestatic 124, 3) := by decide +kernel
theorem d_DiscMakerModel_isName_73 : decode b_DiscMakerModel_isName 73 = .ok (.ifCond .ne 39, 3) := by decide +kernel
theorem d_DiscMakerModel_isName_76 : decode b_DiscMakerModel_isName 76 = .ok (.iload 4, 2) := by decide +kernel
theorem d_DiscMakerModel_isName_78 : decode b_DiscMakerModel_isName 78 = .ok (.invokestatic 128, 3) := by decide +kernel
theorem d_DiscMakerModel_isName_81 : decode b_DiscMakerModel_isName 81 = .ok (.ifCond .ne 31, 3) := by decide +kernel
theorem d_DiscMakerModel_isName_84 : decode b_DiscMakerModel_isName 84 = .ok (.iload 4, 2) := by decide +kernel
theorem d_DiscMakerModel_isName_86 : decode b_DiscMakerModel_isName 86 = .ok (.bipush 46, 2) := by decide +kernel
theorem d_DiscMakerModel_isName_88 : decode b_DiscMakerModel_isName 88 = .ok (.if_icmp .eq 24, 3) := by decide +kernel
theorem d_DiscMakerModel_isName_91 : decode b_DiscMakerModel_isName 91 = .ok (.iload 4, 2) := by decide +kernel
theorem d_DiscMakerModel_isName_93 : decode b_DiscMakerModel_isName 93 = .ok (.bipush 45, 2) := by decide +kernel
theorem d_DiscMakerModel_isName_95 : decode b_DiscMakerModel_isName 95 = .ok (.if_icmp .eq 17, 3) := by decide +kernel
theorem d_DiscMakerModel_isName_98 : decode b_DiscMakerModel_isName 98 = .ok (.iload 4, 2) := by decide +kernel
theorem d_DiscMakerModel_isName_100 : decode b_DiscMakerModel_isName 100 = .ok (.bipush 95, 2) := by decide +kernel
theorem d_DiscMakerModel_isName_102 : decode b_DiscMakerModel_isName 102 = .ok (.if_icmp .eq 10, 3) := by decide +kernel
theorem d_DiscMakerModel_isName_105 : decode b_DiscMakerModel_isName 105 = .ok (.iload 4, 2) := by decide +kernel
theorem d_DiscMakerModel_isName_107 : decode b_DiscMakerModel_isName 107 = .ok (.bipush 43, 2) := by decide +kernel
theorem d_DiscMakerModel_isName_109 : decode b_DiscMakerModel_isName 109 = .ok (.if_icmp .ne 7, 3) := by decide +kernel
theorem d_DiscMakerModel_isName_112 : decode b_DiscMakerModel_isName 112 = .ok (.iconst 1, 1) := by decide +kernel
theorem d_DiscMakerModel_isName_113 : decode b_DiscMakerModel_isName 113 = .ok (.goto 4, 3) := by decide +kernel
theorem d_DiscMakerModel_isName_116 : decode b_DiscMakerModel_isName 116 = .ok (.iconst 0, 1) := by decide +kernel
theorem d_DiscMakerModel_isName_117 : decode b_DiscMakerModel_isName 117 = .ok (.istore_n 2, 1) := by decide +kernel
theorem d_DiscMakerModel_isName_118 : decode b_DiscMakerModel_isName 118 = .ok (.iinc 3 1, 3) := by decide +kernel
theorem d_DiscMakerModel_isName_121 : decode b_DiscMakerModel_isName 121 = .ok (.goto (-70), 3) := by decide +kernel
theorem d_DiscMakerModel_isName_124 : decode b_DiscMakerModel_isName 124 = .ok (.iload_n 2, 1) := by decide +kernel
theorem d_DiscMakerModel_isName_125 : decode b_DiscMakerModel_isName 125 = .ok (.ireturn, 1) := by decide +kernel
set_option maxHeartbeats 4000000 in
set_option maxRecDepth 100000 in
theorem m_isName (l : Launch) (D : va_G) (cB cI cJ cZ cN cF : ClassId) (sz : Nat) (h0 : Nat) (ma : Nat → Nat) (sv_thrown sv_length sv_nodes sv_many sv_directories sv_runsFrom sv_runs sv_read sv_wrong sv_isNamed sv_goes sv_goesSize sv_goesAt sv_targetParts sv_isRoot : Int32) (fX : Nat → Int32) (x : Int32) : Met l y_DiscMakerModel_isName w_DiscMakerModel_isName ({ frames := 1, cells := 0, slots := 0, locals := 20 }) (va_Pc [.ref h0, .int x] (fun U => U.heap.size = sz ∧ va_P D CL [(h0, .inr (11, MO ma sv_thrown sv_length sv_nodes sv_many sv_directories sv_runsFrom sv_runs sv_read sv_wrong sv_isNamed sv_goes sv_goesSize sv_goesAt sv_targetParts sv_isRoot)), ((ma 0), .inl (cB, 400, .inl fX))] U.heap ∧ va_K D CL (TY cB cI cJ cZ cN cF) U ∧ NN U ∧ va_D (fun _ => True) [(h0, .inr (11, MO ma sv_thrown sv_length sv_nodes sv_many sv_directories sv_runsFrom sv_runs sv_read sv_wrong sv_isNamed sv_goes sv_goesSize sv_goesAt sv_targetParts sv_isRoot)), ((ma 0), .inl (cB, 400, .inl fX))])) (va_Qi (fun (r : Int32) (u : Unit) => (0 ≤ r.toInt ∧ r.toInt ≤ 1) ∧ (r.toInt = 0 ∨ (1 ≤ x.toInt ∧ x.toInt ≤ 30)) ∧ (r.toInt ≠ 0 → ∀ i : Nat, (i : Int) < x.toInt → 43 ≤ (fX i).toInt ∧ (fX i).toInt ≤ 122) ∧ (BoolIs r (NameP x.toInt fX))) (fun (u : Unit) (t : State) => match u with | () => va_P D CL [(h0, .inr (11, MO ma sv_thrown sv_length sv_nodes sv_many sv_directories sv_runsFrom sv_runs sv_read sv_wrong sv_isNamed sv_goes sv_goesSize sv_goesAt sv_targetParts sv_isRoot)), ((ma 0), .inl (cB, 400, .inl fX))] t.heap ∧ va_D (va_A [(h0, .inr (11, MO ma sv_thrown sv_length sv_nodes sv_many sv_directories sv_runsFrom sv_runs sv_read sv_wrong sv_isNamed sv_goes sv_goesSize sv_goesAt sv_targetParts sv_isRoot)), ((ma 0), .inl (cB, 400, .inl fX))] sz) [(h0, .inr (11, MO ma sv_thrown sv_length sv_nodes sv_many sv_directories sv_runsFrom sv_runs sv_read sv_wrong sv_isNamed sv_goes sv_goesSize sv_goesAt sv_targetParts sv_isRoot)), ((ma 0), .inl (cB, 400, .inl fX))]) (va_A [(h0, .inr (11, MO ma sv_thrown sv_length sv_nodes sv_many sv_directories sv_runsFrom sv_runs sv_read sv_wrong sv_isNamed sv_goes sv_goesSize sv_goesAt sv_targetParts sv_isRoot)), ((ma 0), .inl (cB, 400, .inl fX))] sz)) 0 0 (va_A [(h0, .inr (11, MO ma sv_thrown sv_length sv_nodes sv_many sv_directories sv_runsFrom sv_runs sv_read sv_wrong sv_isNamed sv_goes sv_goesSize sv_goesAt sv_targetParts sv_isRoot)), ((ma 0), .inl (cB, 400, .inl fX))] sz) := by
  refine Met.ofW (cc := b_DiscMakerModel_isName) (maxL := 5) (ret := some .boolean) (by decide) rfl ?_
  intro p e s m args below meth c s₁ B hml hv
  obtain ⟨rfl, hsz, hP, hK, hN, hD0⟩ := hv
  have hx := B.exec
  have hb := B.bytes
  have hr := B.returns
  have hts := atoms_spec (ws := w_DiscMakerModel_isName) B.pre
  have ht9 := fun (w : Cond) (h : w ∈ lw_g) => hts w (List.mem_cons_of_mem _ h)
  have hown : s.vm.findClass "DiscMakerModel" = some m.cls := findClass_of_methodNamed B.named
  have hlocks := B.notSynchronized
  subst hsz
  have hD := hD0.self (sz := s.heap.size)
  generalize hAe : va_A [(h0, .inr (11, MO ma sv_thrown sv_length sv_nodes sv_many sv_directories sv_runsFrom sv_runs sv_read sv_wrong sv_isNamed sv_goes sv_goesSize sv_goesAt sv_targetParts sv_isRoot)), ((ma 0), .inl (cB, 400, .inl fX))] s.heap.size = A at hD ⊢
  have hA : ∀ q : Nat, s.heap.size ≤ q → A q := fun q h => by rw [← hAe]; exact Or.inr h
  have hS : va_S A s.heap s.heap [] := va_S.rf
  have hP : va_P D CL [(h0, .inr (11, MO ma sv_thrown sv_length sv_nodes sv_many sv_directories sv_runsFrom sv_runs sv_read sv_wrong sv_isNamed sv_goes sv_goesSize sv_goesAt sv_targetParts sv_isRoot)), ((ma 0), .inl (cB, 400, .inl fX))] s.heap := hP
  have hl := lv_entry [.ref h0, .int x] (n := 5) (Nat.le_of_ble_eq_true rfl)
  rw [lg_entry_eq]
  generalize (lg_sl [.ref h0, .int x] ++ List.replicate (5 - (lg_sl [.ref h0, .int x]).length) Slot.unset).toArray = ls at hl ⊢
  have hl : lv_has ls 5 [(0, .ref h0), (1, .int x)] := hl
  have L_m1 : ((-1) : Int32).toInt = (-1) := by decide
  have L_0 : (0 : Int32).toInt = 0 := by decide
  have L_1 : (1 : Int32).toInt = 1 := by decide
  have L_2 : (2 : Int32).toInt = 2 := by decide
  have L_30 : (30 : Int32).toInt = 30 := by decide
  have L_43 : (43 : Int32).toInt = 43 := by decide
  have L_45 : (45 : Int32).toInt = 45 := by decide
  have L_46 : (46 : Int32).toInt = 46 := by decide
  have L_95 : (95 : Int32).toInt = 95 := by decide
  refine lv_iload_n hx hb d_DiscMakerModel_isName_0 rfl (lv_at hl 1 rfl) ?_
  refine lv_iconst (v := 1) hx hb d_DiscMakerModel_isName_1 (by decide) ?_
  refine zz_labM (B := fun (lk : Nat) (K : Heap → List Loc → Array Slot → List Value → Prop) => ∀ (is : Int32) (H : Heap) (locs : List Loc) (ls : Array Slot), lk = 0 → (0 ≤ is.toInt ∧ is.toInt ≤ 1) → (is.toInt = 0 ∨ (1 ≤ x.toInt ∧ x.toInt ≤ 30)) → (BoolIs is (PreN x.toInt (fX 0).toInt (fX 1).toInt)) → va_P D CL [(h0, .inr (11, MO ma sv_thrown sv_length sv_nodes sv_many sv_directories sv_runsFrom sv_runs sv_read sv_wrong sv_isNamed sv_goes sv_goesSize sv_goesAt sv_targetParts sv_isRoot)), ((ma 0), .inl (cB, 400, .inl fX))] H → va_D A [(h0, .inr (11, MO ma sv_thrown sv_length sv_nodes sv_many sv_directories sv_runsFrom sv_runs sv_read sv_wrong sv_isNamed sv_goes sv_goesSize sv_goesAt sv_targetParts sv_isRoot)), ((ma 0), .inl (cB, 400, .inl fX))] → va_S A s.heap H locs → lv_has ls 5 [(0, .ref h0), (1, .int x)] → K H locs ls [.int is]) 48 ?_ ?_
  · skip
    intro lk ih48 is H locs ls hm48 f1 f2 f9 hP hD hS hl
    refine lv_istore_n hx hb d_DiscMakerModel_isName_48 rfl hl (by decide) rfl (fun ls hl => ?_)
    have hl : lv_has ls 5 [(2, .int is), (0, .ref h0), (1, .int x)] := hl
    refine lv_iconst (v := 0) hx hb d_DiscMakerModel_isName_49 (by decide) ?_
    refine lv_istore_n hx hb d_DiscMakerModel_isName_50 rfl hl (by decide) rfl (fun ls hl => ?_)
    have hl : lv_has ls 5 [(3, .int 0), (2, .int is), (0, .ref h0), (1, .int x)] := hl
    refine zz_labM (B := fun (lk : Nat) (K : Heap → List Loc → Array Slot → List Value → Prop) => ∀ (iz : Int32) (kx : Int32) (H : Heap) (locs : List Loc) (ls : Array Slot), lk = (1000 - kx.toInt).toNat → (0 ≤ iz.toInt ∧ iz.toInt ≤ 1) → (iz.toInt = 0 ∨ (1 ≤ x.toInt ∧ x.toInt ≤ 30)) → (0 ≤ kx.toInt ∧ kx.toInt ≤ 1000) → (iz.toInt ≠ 0 → ∀ i : Nat, (i : Int) < kx.toInt → nch (fX i).toInt) → (iz.toInt = 0 ∨ kx.toInt ≤ x.toInt) → (iz.toInt ≠ 0 → PreN x.toInt (fX 0).toInt (fX 1).toInt) → (iz.toInt = 0 → ¬ NameP x.toInt fX) → va_P D CL [(h0, .inr (11, MO ma sv_thrown sv_length sv_nodes sv_many sv_directories sv_runsFrom sv_runs sv_read sv_wrong sv_isNamed sv_goes sv_goesSize sv_goesAt sv_targetParts sv_isRoot)), ((ma 0), .inl (cB, 400, .inl fX))] H → va_D A [(h0, .inr (11, MO ma sv_thrown sv_length sv_nodes sv_many sv_directories sv_runsFrom sv_runs sv_read sv_wrong sv_isNamed sv_goes sv_goesSize sv_goesAt sv_targetParts sv_isRoot)), ((ma 0), .inl (cB, 400, .inl fX))] → va_S A s.heap H locs → lv_has ls 5 [(0, .ref h0), (1, .int x), (2, .int iz), (3, .int kx)] → K H locs ls []) 51 ?_ ?_
    · skip
      intro lk ih51 iz kx H locs ls hm51 f3 f4 f5 f6 f7 f8 f10 hP hD hS hl
      refine lv_iload_n hx hb d_DiscMakerModel_isName_51 rfl (lv_at hl 3 rfl) ?_
      refine lv_iload_n hx hb d_DiscMakerModel_isName_52 rfl (lv_at hl 1 rfl) ?_
      refine lv_icmp_ge (tgt := 124) hx hb d_DiscMakerModel_isName_53 (by decide) (fun h_9 => ?_) (fun h_9 => ?_)
      · skip
        have g53_8 : x.toInt ≤ kx.toInt := (i_le rfl rfl).mp h_9
        refine lv_iload_n hx hb d_DiscMakerModel_isName_124 rfl (lv_at hl 2 rfl) ?_
        have hP9 := hP.sub (ws' := [(h0, .inr (11, MO ma sv_thrown sv_length sv_nodes sv_many sv_directories sv_runsFrom sv_runs sv_read sv_wrong sv_isNamed sv_goes sv_goesSize sv_goesAt sv_targetParts sv_isRoot)), ((ma 0), .inl (cB, 400, .inl fX))]) [0, 1] rfl
        have hD9 := hD.sub (ws' := [(h0, .inr (11, MO ma sv_thrown sv_length sv_nodes sv_many sv_directories sv_runsFrom sv_runs sv_read sv_wrong sv_isNamed sv_goes sv_goesSize sv_goesAt sv_targetParts sv_isRoot)), ((ma 0), .inl (cB, 400, .inl fX))]) [0, 1] (by decide +kernel) rfl
        exact W.zret (v := iz) hx hb hr (by first | rfl | decide | exact i_narZ (by omega)) (fun t ht hW => ⟨⟨iz, (), rfl, ⟨(by (try dsimp only); first | assumption | omega | trivial), (by (try dsimp only); first | assumption | omega | trivial), (fun h7 i hi => nch_rng (f6 h7 i (by omega))), ((Decidable.em (iz.toInt = 0)).elim (fun h7 => Or.inr ⟨h7, f10 h7⟩) (fun h7 => Or.inl ⟨by omega, f8 h7, fun j hj => f6 h7 j (by omega)⟩))⟩, by rw [ht]; exact hP9, hD9⟩, hS.F ht⟩) hS.2.2 d_DiscMakerModel_isName_125
      · skip
        have g53_8 : ¬ x.toInt ≤ kx.toInt := fun h8 => h_9 ((i_le rfl rfl).mpr h8)
        refine lv_iload_n hx hb d_DiscMakerModel_isName_56 rfl (lv_at hl 2 rfl) ?_
        refine lv_if_eq (tgt := 124) hx hb d_DiscMakerModel_isName_57 (by decide) (fun h_9 => ?_) (fun h_9 => ?_)
        · skip
          have g57_12 : iz.toInt = 0 := (i_eq rfl (by decide)).mp h_9
          refine lv_iload_n hx hb d_DiscMakerModel_isName_124 rfl (lv_at hl 2 rfl) ?_
          have hP9 := hP.sub (ws' := [(h0, .inr (11, MO ma sv_thrown sv_length sv_nodes sv_many sv_directories sv_runsFrom sv_runs sv_read sv_wrong sv_isNamed sv_goes sv_goesSize sv_goesAt sv_targetParts sv_isRoot)), ((ma 0), .inl (cB, 400, .inl fX))]) [0, 1] rfl
          have hD9 := hD.sub (ws' := [(h0, .inr (11, MO ma sv_thrown sv_length sv_nodes sv_many sv_directories sv_runsFrom sv_runs sv_read sv_wrong sv_isNamed sv_goes sv_goesSize sv_goesAt sv_targetParts sv_isRoot)), ((ma 0), .inl (cB, 400, .inl fX))]) [0, 1] (by decide +kernel) rfl
          exact W.zret (v := iz) hx hb hr (by first | rfl | decide | exact i_narZ (by omega)) (fun t ht hW => ⟨⟨iz, (), rfl, ⟨(by (try dsimp only); first | assumption | omega | trivial), (by (try dsimp only); first | assumption | omega | trivial), (fun h7 i hi => nch_rng (f6 h7 i (by omega))), ((Decidable.em (iz.toInt = 0)).elim (fun h7 => Or.inr ⟨h7, f10 h7⟩) (fun h7 => Or.inl ⟨by omega, f8 h7, fun j hj => f6 h7 j (by omega)⟩))⟩, by rw [ht]; exact hP9, hD9⟩, hS.F ht⟩) hS.2.2 d_DiscMakerModel_isName_125
        · skip
          have g57_12 : ¬ iz.toInt = 0 := fun h8 => h_9 ((i_eq rfl (by decide)).mpr h8)
          refine lv_aload_n hx hb d_DiscMakerModel_isName_60 rfl (lv_at hl 0 rfl) ?_
          refine va_get (D := D) (ci := 11) (v := .ref (ma 0)) (C := "DiscMakerModel") (T := F_DiscMakerModel) (N := 48) hx hb ht9 in_DiscMakerModel hown hK hP 0 rfl rfl 1 (by decide) (ht9 _ k1432) (fun _ h9 => h9) rfl d_DiscMakerModel_isName_61 ?_
          refine lv_iload_n hx hb d_DiscMakerModel_isName_64 rfl (lv_at hl 3 rfl) ?_
          refine va_bald hx hb hK hP 1 0 rfl rfl (vp_in_iff.mpr ⟨by omega, by omega⟩) d_DiscMakerModel_isName_65 ?_
          refine lv_topi (fun v1 e_v1 => ?_)
          refine lv_istore hx hb d_DiscMakerModel_isName_66 hl (by decide) rfl (fun ls hl => ?_)
          have hl : lv_has ls 5 [(4, .int v1), (0, .ref h0), (1, .int x), (2, .int iz), (3, .int kx)] := hl
          refine lv_iload hx hb d_DiscMakerModel_isName_68 (lv_at hl 0 rfl) ?_
          have hPc := hP.sub (ws' := []) [] rfl
          have hDc := hD.sub (ws' := []) [] (by decide +kernel) rfl
          have hFc := va_free (wc := []) hD hS hA [] rfl
          have hkc : 0 ≤ 0 := by decide
          have hks : 0 ≤ 0 := by decide
          refine va_calli (va_runS (As := [.int v1]) (rest := []) ⟨hx, hb, hml, hown, hts⟩ (m_isLetter l D cB cI cJ cZ cN cF H.size v1) (cwS 1 hts (lg_goodS k1606 k1607 k125 kc_DiscMakerModel_isLetter) rfl rfl rfl (by decide +kernel) ⟨Nat.le_of_ble_eq_true rfl, Nat.le_of_ble_eq_true rfl⟩) ⟨fun a U g mk q => by obtain ⟨q0, q1, qP, qK, qN, qD⟩ := q; exact ⟨q0, q1, qP, va_K.moved (u := U) (U := U.calling g mk a) (Vm.Alike.refl U.vm) qK, qN.calling, qD⟩, fun U hU hW => ⟨rfl, by rw [hU], by rw [hU]; exact hPc, va_K.moved hW.alike hK, NN.warm hW hN, hDc.weaken (fun _ _ _ _ => trivial)⟩⟩ rfl rfl hl.1 rfl (lv_room (Nat.le_of_ble_eq_true rfl)) d_DiscMakerModel_isName_70 ⟨hkc, hks⟩) hS (fun q _ h => hFc q h) hFc (fun r2 u t H1 locs ht hvm hp_r2 hB hz1 hk1 hS => ?_)
          obtain ⟨hP1, hD1⟩ := hB
          rw [ht] at hP1
          obtain ⟨hP, hD⟩ := va_join (wr := [(h0, .inr (11, MO ma sv_thrown sv_length sv_nodes sv_many sv_directories sv_runsFrom sv_runs sv_read sv_wrong sv_isNamed sv_goes sv_goesSize sv_goesAt sv_targetParts sv_isRoot)), ((ma 0), .inl (cB, 400, .inl fX))]) (w1 := []) hP hD [] [0, 1] rfl rfl (by decide +kernel) (by decide +kernel) hk1 hFc hP1 hD1
          clear hPc hDc hFc hP1 hD1 hk1 hz1 hkc hks
          generalize H1 = H at hP hS ⊢
          have hP : va_P D CL [(h0, .inr (11, MO ma sv_thrown sv_length sv_nodes sv_many sv_directories sv_runsFrom sv_runs sv_read sv_wrong sv_isNamed sv_goes sv_goesSize sv_goesAt sv_targetParts sv_isRoot)), ((ma 0), .inl (cB, 400, .inl fX))] H := hP
          have hD : va_D A [(h0, .inr (11, MO ma sv_thrown sv_length sv_nodes sv_many sv_directories sv_runsFrom sv_runs sv_read sv_wrong sv_isNamed sv_goes sv_goesSize sv_goesAt sv_targetParts sv_isRoot)), ((ma 0), .inl (cB, 400, .inl fX))] := hD
          try dsimp only at hp_r2
          obtain ⟨hr_3, hl_4, hd_5⟩ := hp_r2
          refine lv_if_ne (tgt := 112) hx hb d_DiscMakerModel_isName_73 (by decide) (fun h_9 => ?_) (fun h_9 => ?_)
          · skip
            have g73_22 : ¬ r2.toInt = 0 := fun h8 => h_9 ((i_eq rfl (by decide)).mpr h8)
            refine lv_iconst (v := 1) hx hb d_DiscMakerModel_isName_112 (by decide) ?_
            refine lv_goto (tgt := 117) hx hb d_DiscMakerModel_isName_113 (by decide) ?_
            refine lv_istore_n hx hb d_DiscMakerModel_isName_117 rfl hl (by decide) rfl (fun ls hl => ?_)
            have hl : lv_has ls 5 [(2, .int 1), (4, .int v1), (0, .ref h0), (1, .int x), (3, .int kx)] := hl
            obtain ⟨v6, e_v6⟩ : ∃ z : Int32, z = kx + 1 := ⟨_, rfl⟩
            refine lv_iinc (v := v6) hx hb d_DiscMakerModel_isName_118 hl (k := 4) rfl e_v6.symm (by decide +kernel) rfl (fun ls hl => ?_)
            have t_v6 : v6.toInt = kx.toInt + 1 := by rw [e_v6]; exact i_add rfl (by decide) (by omega) (by omega)
            have hl : lv_has ls 5 [(3, .int v6), (2, .int 1), (4, .int v1), (0, .ref h0), (1, .int x)] := hl
            refine lv_goto (tgt := 51) hx hb d_DiscMakerModel_isName_121 (by decide) ?_
            have hP := hP.sub (ws' := [(h0, .inr (11, MO ma sv_thrown sv_length sv_nodes sv_many sv_directories sv_runsFrom sv_runs sv_read sv_wrong sv_isNamed sv_goes sv_goesSize sv_goesAt sv_targetParts sv_isRoot)), ((ma 0), .inl (cB, 400, .inl fX))]) [0, 1] rfl
            have hD := hD.sub (ws' := [(h0, .inr (11, MO ma sv_thrown sv_length sv_nodes sv_many sv_directories sv_runsFrom sv_runs sv_read sv_wrong sv_isNamed sv_goes sv_goesSize sv_goesAt sv_targetParts sv_isRoot)), ((ma 0), .inl (cB, 400, .inl fX))]) [0, 1] (by decide +kernel) rfl
            have hl := lv_sub hl [3, 4, 1, 0] rfl
            exact ih51 _ (by first | omega | (dsimp only; omega)) 1 v6 _ _ _ rfl ((by (try dsimp only); first | assumption | omega | trivial)) ((by (try dsimp only); first | assumption | omega | trivial)) ((by (try dsimp only); first | assumption | omega | trivial)) ((fun _ i hi => (Decidable.em (i = kx.toNatClampNeg)).elim (fun e => by subst e; rw [← e_v1]; unfold nch; first | exact Or.inl (hd_5.t (by omega))) (fun e => f6 (by omega) i (by have := i_cl (a := kx) (by omega); omega)))) ((by (try dsimp only); first | assumption | omega | trivial)) ((fun _ => f8 (by omega))) ((by intro h7; exfalso; omega)) hP hD hS hl
          · skip
            have g73_22 : r2.toInt = 0 := (i_eq rfl (by decide)).mp h_9
            refine lv_iload hx hb d_DiscMakerModel_isName_76 (lv_at hl 0 rfl) ?_
            have hPc := hP.sub (ws' := []) [] rfl
            have hDc := hD.sub (ws' := []) [] (by decide +kernel) rfl
            have hFc := va_free (wc := []) hD hS hA [] rfl
            have hkc : 0 ≤ 0 := by decide
            have hks : 0 ≤ 0 := by decide
            refine va_calli (va_runS (As := [.int v1]) (rest := []) ⟨hx, hb, hml, hown, hts⟩ (m_isDigit l D cB cI cJ cZ cN cF H.size v1) (cwS 1 hts (lg_goodS k1609 k1610 k125 kc_DiscMakerModel_isDigit) rfl rfl rfl (by decide +kernel) ⟨Nat.le_of_ble_eq_true rfl, Nat.le_of_ble_eq_true rfl⟩) ⟨fun a U g mk q => by obtain ⟨q0, q1, qP, qK, qN, qD⟩ := q; exact ⟨q0, q1, qP, va_K.moved (u := U) (U := U.calling g mk a) (Vm.Alike.refl U.vm) qK, qN.calling, qD⟩, fun U hU hW => ⟨rfl, by rw [hU], by rw [hU]; exact hPc, va_K.moved hW.alike hK, NN.warm hW hN, hDc.weaken (fun _ _ _ _ => trivial)⟩⟩ rfl rfl hl.1 rfl (lv_room (Nat.le_of_ble_eq_true rfl)) d_DiscMakerModel_isName_78 ⟨hkc, hks⟩) hS (fun q _ h => hFc q h) hFc (fun r7 u t H1 locs ht hvm hp_r7 hB hz1 hk1 hS => ?_)
            obtain ⟨hP1, hD1⟩ := hB
            rw [ht] at hP1
            obtain ⟨hP, hD⟩ := va_join (wr := [(h0, .inr (11, MO ma sv_thrown sv_length sv_nodes sv_many sv_directories sv_runsFrom sv_runs sv_read sv_wrong sv_isNamed sv_goes sv_goesSize sv_goesAt sv_targetParts sv_isRoot)), ((ma 0), .inl (cB, 400, .inl fX))]) (w1 := []) hP hD [] [0, 1] rfl rfl (by decide +kernel) (by decide +kernel) hk1 hFc hP1 hD1
            clear hPc hDc hFc hP1 hD1 hk1 hz1 hkc hks
            generalize H1 = H at hP hS ⊢
            have hP : va_P D CL [(h0, .inr (11, MO ma sv_thrown sv_length sv_nodes sv_many sv_directories sv_runsFrom sv_runs sv_read sv_wrong sv_isNamed sv_goes sv_goesSize sv_goesAt sv_targetParts sv_isRoot)), ((ma 0), .inl (cB, 400, .inl fX))] H := hP
            have hD : va_D A [(h0, .inr (11, MO ma sv_thrown sv_length sv_nodes sv_many sv_directories sv_runsFrom sv_runs sv_read sv_wrong sv_isNamed sv_goes sv_goesSize sv_goesAt sv_targetParts sv_isRoot)), ((ma 0), .inl (cB, 400, .inl fX))] := hD
            try dsimp only at hp_r7
            obtain ⟨hr_8, hl_9, hd_10⟩ := hp_r7
            refine lv_if_ne (tgt := 112) hx hb d_DiscMakerModel_isName_81 (by decide) (fun h_9 => ?_) (fun h_9 => ?_)
            · skip
              have g81_31 : ¬ r7.toInt = 0 := fun h8 => h_9 ((i_eq rfl (by decide)).mpr h8)
              refine lv_iconst (v := 1) hx hb d_DiscMakerModel_isName_112 (by decide) ?_
              refine lv_goto (tgt := 117) hx hb d_DiscMakerModel_isName_113 (by decide) ?_
              refine lv_istore_n hx hb d_DiscMakerModel_isName_117 rfl hl (by decide) rfl (fun ls hl => ?_)
              have hl : lv_has ls 5 [(2, .int 1), (4, .int v1), (0, .ref h0), (1, .int x), (3, .int kx)] := hl
              obtain ⟨v11, e_v11⟩ : ∃ z : Int32, z = kx + 1 := ⟨_, rfl⟩
              refine lv_iinc (v := v11) hx hb d_DiscMakerModel_isName_118 hl (k := 4) rfl e_v11.symm (by decide +kernel) rfl (fun ls hl => ?_)
              have t_v11 : v11.toInt = kx.toInt + 1 := by rw [e_v11]; exact i_add rfl (by decide) (by omega) (by omega)
              have hl : lv_has ls 5 [(3, .int v11), (2, .int 1), (4, .int v1), (0, .ref h0), (1, .int x)] := hl
              refine lv_goto (tgt := 51) hx hb d_DiscMakerModel_isName_121 (by decide) ?_
              have hP := hP.sub (ws' := [(h0, .inr (11, MO ma sv_thrown sv_length sv_nodes sv_many sv_directories sv_runsFrom sv_runs sv_read sv_wrong sv_isNamed sv_goes sv_goesSize sv_goesAt sv_targetParts sv_isRoot)), ((ma 0), .inl (cB, 400, .inl fX))]) [0, 1] rfl
              have hD := hD.sub (ws' := [(h0, .inr (11, MO ma sv_thrown sv_length sv_nodes sv_many sv_directories sv_runsFrom sv_runs sv_read sv_wrong sv_isNamed sv_goes sv_goesSize sv_goesAt sv_targetParts sv_isRoot)), ((ma 0), .inl (cB, 400, .inl fX))]) [0, 1] (by decide +kernel) rfl
              have hl := lv_sub hl [3, 4, 1, 0] rfl
              exact ih51 _ (by first | omega | (dsimp only; omega)) 1 v11 _ _ _ rfl ((by (try dsimp only); first | assumption | omega | trivial)) ((by (try dsimp only); first | assumption | omega | trivial)) ((by (try dsimp only); first | assumption | omega | trivial)) ((fun _ i hi => (Decidable.em (i = kx.toNatClampNeg)).elim (fun e => by subst e; rw [← e_v1]; unfold nch; first | exact Or.inl (hd_5.t (by omega)) | exact Or.inr (Or.inl (hd_10.t (by omega))) | exact Or.inr (Or.inr (by omega))) (fun e => f6 (by omega) i (by have := i_cl (a := kx) (by omega); omega)))) ((by (try dsimp only); first | assumption | omega | trivial)) ((fun _ => f8 (by omega))) ((by intro h7; exfalso; omega)) hP hD hS hl
            · skip
              have g81_31 : r7.toInt = 0 := (i_eq rfl (by decide)).mp h_9
              refine lv_iload hx hb d_DiscMakerModel_isName_84 (lv_at hl 0 rfl) ?_
              refine lv_bipush (v := 46) hx hb d_DiscMakerModel_isName_86 (by decide) ?_
              refine lv_icmp_eq (tgt := 112) hx hb d_DiscMakerModel_isName_88 (by decide) (fun h_9 => ?_) (fun h_9 => ?_)
              · skip
                have g88_40 : v1.toInt = 46 := (i_eq rfl (by decide)).mp h_9
                refine lv_iconst (v := 1) hx hb d_DiscMakerModel_isName_112 (by decide) ?_
                refine lv_goto (tgt := 117) hx hb d_DiscMakerModel_isName_113 (by decide) ?_
                refine lv_istore_n hx hb d_DiscMakerModel_isName_117 rfl hl (by decide) rfl (fun ls hl => ?_)
                have hl : lv_has ls 5 [(2, .int 1), (4, .int v1), (0, .ref h0), (1, .int x), (3, .int kx)] := hl
                obtain ⟨v12, e_v12⟩ : ∃ z : Int32, z = kx + 1 := ⟨_, rfl⟩
                refine lv_iinc (v := v12) hx hb d_DiscMakerModel_isName_118 hl (k := 4) rfl e_v12.symm (by decide +kernel) rfl (fun ls hl => ?_)
                have t_v12 : v12.toInt = kx.toInt + 1 := by rw [e_v12]; exact i_add rfl (by decide) (by omega) (by omega)
                have hl : lv_has ls 5 [(3, .int v12), (2, .int 1), (4, .int v1), (0, .ref h0), (1, .int x)] := hl
                refine lv_goto (tgt := 51) hx hb d_DiscMakerModel_isName_121 (by decide) ?_
                have hP := hP.sub (ws' := [(h0, .inr (11, MO ma sv_thrown sv_length sv_nodes sv_many sv_directories sv_runsFrom sv_runs sv_read sv_wrong sv_isNamed sv_goes sv_goesSize sv_goesAt sv_targetParts sv_isRoot)), ((ma 0), .inl (cB, 400, .inl fX))]) [0, 1] rfl
                have hD := hD.sub (ws' := [(h0, .inr (11, MO ma sv_thrown sv_length sv_nodes sv_many sv_directories sv_runsFrom sv_runs sv_read sv_wrong sv_isNamed sv_goes sv_goesSize sv_goesAt sv_targetParts sv_isRoot)), ((ma 0), .inl (cB, 400, .inl fX))]) [0, 1] (by decide +kernel) rfl
                have hl := lv_sub hl [3, 4, 1, 0] rfl
                exact ih51 _ (by first | omega | (dsimp only; omega)) 1 v12 _ _ _ rfl ((by (try dsimp only); first | assumption | omega | trivial)) ((by (try dsimp only); first | assumption | omega | trivial)) ((by (try dsimp only); first | assumption | omega | trivial)) ((fun _ i hi => (Decidable.em (i = kx.toNatClampNeg)).elim (fun e => by subst e; rw [← e_v1]; unfold nch; first | exact Or.inl (hd_5.t (by omega)) | exact Or.inr (Or.inl (hd_10.t (by omega))) | exact Or.inr (Or.inr (by omega))) (fun e => f6 (by omega) i (by have := i_cl (a := kx) (by omega); omega)))) ((by (try dsimp only); first | assumption | omega | trivial)) ((fun _ => f8 (by omega))) ((by intro h7; exfalso; omega)) hP hD hS hl
              · skip
                have g88_40 : ¬ v1.toInt = 46 := fun h8 => h_9 ((i_eq rfl (by decide)).mpr h8)
                refine lv_iload hx hb d_DiscMakerModel_isName_91 (lv_at hl 0 rfl) ?_
                refine lv_bipush (v := 45) hx hb d_DiscMakerModel_isName_93 (by decide) ?_
                refine lv_icmp_eq (tgt := 112) hx hb d_DiscMakerModel_isName_95 (by decide) (fun h_9 => ?_) (fun h_9 => ?_)
                · skip
                  have g95_49 : v1.toInt = 45 := (i_eq rfl (by decide)).mp h_9
                  refine lv_iconst (v := 1) hx hb d_DiscMakerModel_isName_112 (by decide) ?_
                  refine lv_goto (tgt := 117) hx hb d_DiscMakerModel_isName_113 (by decide) ?_
                  refine lv_istore_n hx hb d_DiscMakerModel_isName_117 rfl hl (by decide) rfl (fun ls hl => ?_)
                  have hl : lv_has ls 5 [(2, .int 1), (4, .int v1), (0, .ref h0), (1, .int x), (3, .int kx)] := hl
                  obtain ⟨v13, e_v13⟩ : ∃ z : Int32, z = kx + 1 := ⟨_, rfl⟩
                  refine lv_iinc (v := v13) hx hb d_DiscMakerModel_isName_118 hl (k := 4) rfl e_v13.symm (by decide +kernel) rfl (fun ls hl => ?_)
                  have t_v13 : v13.toInt = kx.toInt + 1 := by rw [e_v13]; exact i_add rfl (by decide) (by omega) (by omega)
                  have hl : lv_has ls 5 [(3, .int v13), (2, .int 1), (4, .int v1), (0, .ref h0), (1, .int x)] := hl
                  refine lv_goto (tgt := 51) hx hb d_DiscMakerModel_isName_121 (by decide) ?_
                  have hP := hP.sub (ws' := [(h0, .inr (11, MO ma sv_thrown sv_length sv_nodes sv_many sv_directories sv_runsFrom sv_runs sv_read sv_wrong sv_isNamed sv_goes sv_goesSize sv_goesAt sv_targetParts sv_isRoot)), ((ma 0), .inl (cB, 400, .inl fX))]) [0, 1] rfl
                  have hD := hD.sub (ws' := [(h0, .inr (11, MO ma sv_thrown sv_length sv_nodes sv_many sv_directories sv_runsFrom sv_runs sv_read sv_wrong sv_isNamed sv_goes sv_goesSize sv_goesAt sv_targetParts sv_isRoot)), ((ma 0), .inl (cB, 400, .inl fX))]) [0, 1] (by decide +kernel) rfl
                  have hl := lv_sub hl [3, 4, 1, 0] rfl
                  exact ih51 _ (by first | omega | (dsimp only; omega)) 1 v13 _ _ _ rfl ((by (try dsimp only); first | assumption | omega | trivial)) ((by (try dsimp only); first | assumption | omega | trivial)) ((by (try dsimp only); first | assumption | omega | trivial)) ((fun _ i hi => (Decidable.em (i = kx.toNatClampNeg)).elim (fun e => by subst e; rw [← e_v1]; unfold nch; first | exact Or.inl (hd_5.t (by omega)) | exact Or.inr (Or.inl (hd_10.t (by omega))) | exact Or.inr (Or.inr (by omega))) (fun e => f6 (by omega) i (by have := i_cl (a := kx) (by omega); omega)))) ((by (try dsimp only); first | assumption | omega | trivial)) ((fun _ => f8 (by omega))) ((by intro h7; exfalso; omega)) hP hD hS hl
                · skip
                  have g95_49 : ¬ v1.toInt = 45 := fun h8 => h_9 ((i_eq rfl (by decide)).mpr h8)
                  refine lv_iload hx hb d_DiscMakerModel_isName_98 (lv_at hl 0 rfl) ?_
                  refine lv_bipush (v := 95) hx hb d_DiscMakerModel_isName_100 (by decide) ?_
                  refine lv_icmp_eq (tgt := 112) hx hb d_DiscMakerModel_isName_102 (by decide) (fun h_9 => ?_) (fun h_9 => ?_)
                  · skip
                    have g102_58 : v1.toInt = 95 := (i_eq rfl (by decide)).mp h_9
                    refine lv_iconst (v := 1) hx hb d_DiscMakerModel_isName_112 (by decide) ?_
                    refine lv_goto (tgt := 117) hx hb d_DiscMakerModel_isName_113 (by decide) ?_
                    refine lv_istore_n hx hb d_DiscMakerModel_isName_117 rfl hl (by decide) rfl (fun ls hl => ?_)
                    have hl : lv_has ls 5 [(2, .int 1), (4, .int v1), (0, .ref h0), (1, .int x), (3, .int kx)] := hl
                    obtain ⟨v14, e_v14⟩ : ∃ z : Int32, z = kx + 1 := ⟨_, rfl⟩
                    refine lv_iinc (v := v14) hx hb d_DiscMakerModel_isName_118 hl (k := 4) rfl e_v14.symm (by decide +kernel) rfl (fun ls hl => ?_)
                    have t_v14 : v14.toInt = kx.toInt + 1 := by rw [e_v14]; exact i_add rfl (by decide) (by omega) (by omega)
                    have hl : lv_has ls 5 [(3, .int v14), (2, .int 1), (4, .int v1), (0, .ref h0), (1, .int x)] := hl
                    refine lv_goto (tgt := 51) hx hb d_DiscMakerModel_isName_121 (by decide) ?_
                    have hP := hP.sub (ws' := [(h0, .inr (11, MO ma sv_thrown sv_length sv_nodes sv_many sv_directories sv_runsFrom sv_runs sv_read sv_wrong sv_isNamed sv_goes sv_goesSize sv_goesAt sv_targetParts sv_isRoot)), ((ma 0), .inl (cB, 400, .inl fX))]) [0, 1] rfl
                    have hD := hD.sub (ws' := [(h0, .inr (11, MO ma sv_thrown sv_length sv_nodes sv_many sv_directories sv_runsFrom sv_runs sv_read sv_wrong sv_isNamed sv_goes sv_goesSize sv_goesAt sv_targetParts sv_isRoot)), ((ma 0), .inl (cB, 400, .inl fX))]) [0, 1] (by decide +kernel) rfl
                    have hl := lv_sub hl [3, 4, 1, 0] rfl
                    exact ih51 _ (by first | omega | (dsimp only; omega)) 1 v14 _ _ _ rfl ((by (try dsimp only); first | assumption | omega | trivial)) ((by (try dsimp only); first | assumption | omega | trivial)) ((by (try dsimp only); first | assumption | omega | trivial)) ((fun _ i hi => (Decidable.em (i = kx.toNatClampNeg)).elim (fun e => by subst e; rw [← e_v1]; unfold nch; first | exact Or.inl (hd_5.t (by omega)) | exact Or.inr (Or.inl (hd_10.t (by omega))) | exact Or.inr (Or.inr (by omega))) (fun e => f6 (by omega) i (by have := i_cl (a := kx) (by omega); omega)))) ((by (try dsimp only); first | assumption | omega | trivial)) ((fun _ => f8 (by omega))) ((by intro h7; exfalso; omega)) hP hD hS hl
                  · skip
                    have g102_58 : ¬ v1.toInt = 95 := fun h8 => h_9 ((i_eq rfl (by decide)).mpr h8)
                    refine lv_iload hx hb d_DiscMakerModel_isName_105 (lv_at hl 0 rfl) ?_
                    refine lv_bipush (v := 43) hx hb d_DiscMakerModel_isName_107 (by decide) ?_
                    refine lv_icmp_ne (tgt := 116) hx hb d_DiscMakerModel_isName_109 (by decide) (fun h_9 => ?_) (fun h_9 => ?_)
                    · skip
                      have g109_67 : ¬ v1.toInt = 43 := fun h8 => h_9 ((i_eq rfl (by decide)).mpr h8)
                      refine lv_iconst (v := 0) hx hb d_DiscMakerModel_isName_116 (by decide) ?_
                      refine lv_istore_n hx hb d_DiscMakerModel_isName_117 rfl hl (by decide) rfl (fun ls hl => ?_)
                      have hl : lv_has ls 5 [(2, .int 0), (4, .int v1), (0, .ref h0), (1, .int x), (3, .int kx)] := hl
                      obtain ⟨v15, e_v15⟩ : ∃ z : Int32, z = kx + 1 := ⟨_, rfl⟩
                      refine lv_iinc (v := v15) hx hb d_DiscMakerModel_isName_118 hl (k := 4) rfl e_v15.symm (by decide +kernel) rfl (fun ls hl => ?_)
                      have t_v15 : v15.toInt = kx.toInt + 1 := by rw [e_v15]; exact i_add rfl (by decide) (by omega) (by omega)
                      have hl : lv_has ls 5 [(3, .int v15), (2, .int 0), (4, .int v1), (0, .ref h0), (1, .int x)] := hl
                      refine lv_goto (tgt := 51) hx hb d_DiscMakerModel_isName_121 (by decide) ?_
                      have hP := hP.sub (ws' := [(h0, .inr (11, MO ma sv_thrown sv_length sv_nodes sv_many sv_directories sv_runsFrom sv_runs sv_read sv_wrong sv_isNamed sv_goes sv_goesSize sv_goesAt sv_targetParts sv_isRoot)), ((ma 0), .inl (cB, 400, .inl fX))]) [0, 1] rfl
                      have hD := hD.sub (ws' := [(h0, .inr (11, MO ma sv_thrown sv_length sv_nodes sv_many sv_directories sv_runsFrom sv_runs sv_read sv_wrong sv_isNamed sv_goes sv_goesSize sv_goesAt sv_targetParts sv_isRoot)), ((ma 0), .inl (cB, 400, .inl fX))]) [0, 1] (by decide +kernel) rfl
                      have hl := lv_sub hl [3, 4, 1, 0] rfl
                      exact ih51 _ (by first | omega | (dsimp only; omega)) 0 v15 _ _ _ rfl ((by (try dsimp only); first | assumption | omega | trivial)) ((by (try dsimp only); first | assumption | omega | trivial)) ((by (try dsimp only); first | assumption | omega | trivial)) ((by intro h7; exfalso; omega)) ((by (try dsimp only); first | assumption | omega | trivial)) ((fun _ => f8 (by omega))) ((fun _ h8 => by have h9 := h8.2 kx.toNatClampNeg (by have := i_cl (a := kx) (by omega); omega); rw [← e_v1] at h9; exact h9.elim (hd_5.f (by omega)) (fun h5 => h5.elim (hd_10.f (by omega)) (fun h4 => by omega)))) hP hD hS hl
                    · skip
                      have g109_67 : v1.toInt = 43 := (i_eq rfl (by decide)).mp h_9
                      refine lv_iconst (v := 1) hx hb d_DiscMakerModel_isName_112 (by decide) ?_
                      refine lv_goto (tgt := 117) hx hb d_DiscMakerModel_isName_113 (by decide) ?_
                      refine lv_istore_n hx hb d_DiscMakerModel_isName_117 rfl hl (by decide) rfl (fun ls hl => ?_)
                      have hl : lv_has ls 5 [(2, .int 1), (4, .int v1), (0, .ref h0), (1, .int x), (3, .int kx)] := hl
                      obtain ⟨v16, e_v16⟩ : ∃ z : Int32, z = kx + 1 := ⟨_, rfl⟩
                      refine lv_iinc (v := v16) hx hb d_DiscMakerModel_isName_118 hl (k := 4) rfl e_v16.symm (by decide +kernel) rfl (fun ls hl => ?_)
                      have t_v16 : v16.toInt = kx.toInt + 1 := by rw [e_v16]; exact i_add rfl (by decide) (by omega) (by omega)
                      have hl : lv_has ls 5 [(3, .int v16), (2, .int 1), (4, .int v1), (0, .ref h0), (1, .int x)] := hl
                      refine lv_goto (tgt := 51) hx hb d_DiscMakerModel_isName_121 (by decide) ?_
                      have hP := hP.sub (ws' := [(h0, .inr (11, MO ma sv_thrown sv_length sv_nodes sv_many sv_directories sv_runsFrom sv_runs sv_read sv_wrong sv_isNamed sv_goes sv_goesSize sv_goesAt sv_targetParts sv_isRoot)), ((ma 0), .inl (cB, 400, .inl fX))]) [0, 1] rfl
                      have hD := hD.sub (ws' := [(h0, .inr (11, MO ma sv_thrown sv_length sv_nodes sv_many sv_directories sv_runsFrom sv_runs sv_read sv_wrong sv_isNamed sv_goes sv_goesSize sv_goesAt sv_targetParts sv_isRoot)), ((ma 0), .inl (cB, 400, .inl fX))]) [0, 1] (by decide +kernel) rfl
                      have hl := lv_sub hl [3, 4, 1, 0] rfl
                      exact ih51 _ (by first | omega | (dsimp only; omega)) 1 v16 _ _ _ rfl ((by (try dsimp only); first | assumption | omega | trivial)) ((by (try dsimp only); first | assumption | omega | trivial)) ((by (try dsimp only); first | assumption | omega | trivial)) ((fun _ i hi => (Decidable.em (i = kx.toNatClampNeg)).elim (fun e => by subst e; rw [← e_v1]; unfold nch; first | exact Or.inl (hd_5.t (by omega)) | exact Or.inr (Or.inl (hd_10.t (by omega))) | exact Or.inr (Or.inr (by omega))) (fun e => f6 (by omega) i (by have := i_cl (a := kx) (by omega); omega)))) ((by (try dsimp only); first | assumption | omega | trivial)) ((fun _ => f8 (by omega))) ((by intro h7; exfalso; omega)) hP hD hS hl
    · skip
      intro kk51
      have hP := hP.sub (ws' := [(h0, .inr (11, MO ma sv_thrown sv_length sv_nodes sv_many sv_directories sv_runsFrom sv_runs sv_read sv_wrong sv_isNamed sv_goes sv_goesSize sv_goesAt sv_targetParts sv_isRoot)), ((ma 0), .inl (cB, 400, .inl fX))]) [0, 1] rfl
      have hD := hD.sub (ws' := [(h0, .inr (11, MO ma sv_thrown sv_length sv_nodes sv_many sv_directories sv_runsFrom sv_runs sv_read sv_wrong sv_isNamed sv_goes sv_goesSize sv_goesAt sv_targetParts sv_isRoot)), ((ma 0), .inl (cB, 400, .inl fX))]) [0, 1] (by decide +kernel) rfl
      have hl := lv_sub hl [2, 3, 1, 0] rfl
      exact kk51 _ is 0 _ _ _ rfl ((by (try dsimp only); first | assumption | omega | trivial)) ((by (try dsimp only); first | assumption | omega | trivial)) ((by (try dsimp only); first | assumption | omega | trivial)) ((fun _ i hi => absurd hi (by omega))) ((by (try dsimp only); first | assumption | omega | trivial)) ((fun h7 => f9.t h7)) ((fun h7 h8 => f9.f h7 h8.1)) hP hD hS hl
  · skip
    intro kk48
    refine lv_icmp_lt (tgt := 47) hx hb d_DiscMakerModel_isName_2 (by decide) (fun h_9 => ?_) (fun h_9 => ?_)
    · skip
      have g2_79 : x.toInt < 1 := (i_lt rfl (by decide)).mp h_9
      refine lv_iconst (v := 0) hx hb d_DiscMakerModel_isName_47 (by decide) ?_
      have hP := hP.sub (ws' := [(h0, .inr (11, MO ma sv_thrown sv_length sv_nodes sv_many sv_directories sv_runsFrom sv_runs sv_read sv_wrong sv_isNamed sv_goes sv_goesSize sv_goesAt sv_targetParts sv_isRoot)), ((ma 0), .inl (cB, 400, .inl fX))]) [0, 1] rfl
      have hD := hD.sub (ws' := [(h0, .inr (11, MO ma sv_thrown sv_length sv_nodes sv_many sv_directories sv_runsFrom sv_runs sv_read sv_wrong sv_isNamed sv_goes sv_goesSize sv_goesAt sv_targetParts sv_isRoot)), ((ma 0), .inl (cB, 400, .inl fX))]) [0, 1] (by decide +kernel) rfl
      have hl := lv_sub hl [0, 1] rfl
      exact kk48 _ 0 _ _ _ rfl ((by (try dsimp only); first | assumption | omega | trivial)) ((by (try dsimp only); first | assumption | omega | trivial)) ((by unfold BoolIs PreN; omega)) hP hD hS hl
    · skip
      have g2_79 : ¬ x.toInt < 1 := fun h8 => h_9 ((i_lt rfl (by decide)).mpr h8)
      refine lv_iload_n hx hb d_DiscMakerModel_isName_5 rfl (lv_at hl 1 rfl) ?_
      refine lv_bipush (v := 30) hx hb d_DiscMakerModel_isName_6 (by decide) ?_
      refine lv_icmp_gt (tgt := 47) hx hb d_DiscMakerModel_isName_8 (by decide) (fun h_9 => ?_) (fun h_9 => ?_)
      · skip
        have g8_84 : 30 < x.toInt := (i_lt (by decide) rfl).mp h_9
        refine lv_iconst (v := 0) hx hb d_DiscMakerModel_isName_47 (by decide) ?_
        have hP := hP.sub (ws' := [(h0, .inr (11, MO ma sv_thrown sv_length sv_nodes sv_many sv_directories sv_runsFrom sv_runs sv_read sv_wrong sv_isNamed sv_goes sv_goesSize sv_goesAt sv_targetParts sv_isRoot)), ((ma 0), .inl (cB, 400, .inl fX))]) [0, 1] rfl
        have hD := hD.sub (ws' := [(h0, .inr (11, MO ma sv_thrown sv_length sv_nodes sv_many sv_directories sv_runsFrom sv_runs sv_read sv_wrong sv_isNamed sv_goes sv_goesSize sv_goesAt sv_targetParts sv_isRoot)), ((ma 0), .inl (cB, 400, .inl fX))]) [0, 1] (by decide +kernel) rfl
        have hl := lv_sub hl [0, 1] rfl
        exact kk48 _ 0 _ _ _ rfl ((by (try dsimp only); first | assumption | omega | trivial)) ((by (try dsimp only); first | assumption | omega | trivial)) ((by unfold BoolIs PreN; omega)) hP hD hS hl
      · skip
        have g8_84 : ¬ 30 < x.toInt := fun h8 => h_9 ((i_lt (by decide) rfl).mpr h8)
        refine lv_aload_n hx hb d_DiscMakerModel_isName_11 rfl (lv_at hl 0 rfl) ?_
        refine va_get (D := D) (ci := 11) (v := .ref (ma 0)) (C := "DiscMakerModel") (T := F_DiscMakerModel) (N := 48) hx hb ht9 in_DiscMakerModel hown hK hP 0 rfl rfl 1 (by decide) (ht9 _ k1432) (fun _ h9 => h9) rfl d_DiscMakerModel_isName_12 ?_
        refine lv_iconst (v := 0) hx hb d_DiscMakerModel_isName_15 (by decide) ?_
        refine va_bald hx hb hK hP 1 0 rfl rfl (by unfold vp_in; decide) d_DiscMakerModel_isName_16 ?_
        refine lv_topi (fun v17 e_v17 => ?_)
        have w_v17 : v17.toInt = (fX 0).toInt := congrArg Int32.toInt e_v17
        refine lv_bipush (v := 46) hx hb d_DiscMakerModel_isName_17 (by decide) ?_
        refine lv_icmp_ne (tgt := 43) hx hb d_DiscMakerModel_isName_19 (by decide) (fun h_9 => ?_) (fun h_9 => ?_)
        · skip
          have g19_92 : ¬ v17.toInt = 46 := fun h8 => h_9 ((i_eq rfl (by decide)).mpr h8)
          refine lv_iconst (v := 1) hx hb d_DiscMakerModel_isName_43 (by decide) ?_
          refine lv_goto (tgt := 48) hx hb d_DiscMakerModel_isName_44 (by decide) ?_
          have hP := hP.sub (ws' := [(h0, .inr (11, MO ma sv_thrown sv_length sv_nodes sv_many sv_directories sv_runsFrom sv_runs sv_read sv_wrong sv_isNamed sv_goes sv_goesSize sv_goesAt sv_targetParts sv_isRoot)), ((ma 0), .inl (cB, 400, .inl fX))]) [0, 1] rfl
          have hD := hD.sub (ws' := [(h0, .inr (11, MO ma sv_thrown sv_length sv_nodes sv_many sv_directories sv_runsFrom sv_runs sv_read sv_wrong sv_isNamed sv_goes sv_goesSize sv_goesAt sv_targetParts sv_isRoot)), ((ma 0), .inl (cB, 400, .inl fX))]) [0, 1] (by decide +kernel) rfl
          have hl := lv_sub hl [0, 1] rfl
          exact kk48 _ 1 _ _ _ rfl ((by (try dsimp only); first | assumption | omega | trivial)) ((by (try dsimp only); first | assumption | omega | trivial)) ((by unfold BoolIs PreN; omega)) hP hD hS hl
        · skip
          have g19_92 : v17.toInt = 46 := (i_eq rfl (by decide)).mp h_9
          refine lv_iload_n hx hb d_DiscMakerModel_isName_22 rfl (lv_at hl 1 rfl) ?_
          refine lv_iconst (v := 1) hx hb d_DiscMakerModel_isName_23 (by decide) ?_
          refine lv_icmp_eq (tgt := 47) hx hb d_DiscMakerModel_isName_24 (by decide) (fun h_9 => ?_) (fun h_9 => ?_)
          · skip
            have g24_98 : x.toInt = 1 := (i_eq rfl (by decide)).mp h_9
            refine lv_iconst (v := 0) hx hb d_DiscMakerModel_isName_47 (by decide) ?_
            have hP := hP.sub (ws' := [(h0, .inr (11, MO ma sv_thrown sv_length sv_nodes sv_many sv_directories sv_runsFrom sv_runs sv_read sv_wrong sv_isNamed sv_goes sv_goesSize sv_goesAt sv_targetParts sv_isRoot)), ((ma 0), .inl (cB, 400, .inl fX))]) [0, 1] rfl
            have hD := hD.sub (ws' := [(h0, .inr (11, MO ma sv_thrown sv_length sv_nodes sv_many sv_directories sv_runsFrom sv_runs sv_read sv_wrong sv_isNamed sv_goes sv_goesSize sv_goesAt sv_targetParts sv_isRoot)), ((ma 0), .inl (cB, 400, .inl fX))]) [0, 1] (by decide +kernel) rfl
            have hl := lv_sub hl [0, 1] rfl
            exact kk48 _ 0 _ _ _ rfl ((by (try dsimp only); first | assumption | omega | trivial)) ((by (try dsimp only); first | assumption | omega | trivial)) ((by unfold BoolIs PreN; omega)) hP hD hS hl
          · skip
            have g24_98 : ¬ x.toInt = 1 := fun h8 => h_9 ((i_eq rfl (by decide)).mpr h8)
            refine lv_iload_n hx hb d_DiscMakerModel_isName_27 rfl (lv_at hl 1 rfl) ?_
            refine lv_iconst (v := 2) hx hb d_DiscMakerModel_isName_28 (by decide) ?_
            refine lv_icmp_ne (tgt := 43) hx hb d_DiscMakerModel_isName_29 (by decide) (fun h_9 => ?_) (fun h_9 => ?_)
            · skip
              have g29_103 : ¬ x.toInt = 2 := fun h8 => h_9 ((i_eq rfl (by decide)).mpr h8)
              refine lv_iconst (v := 1) hx hb d_DiscMakerModel_isName_43 (by decide) ?_
              refine lv_goto (tgt := 48) hx hb d_DiscMakerModel_isName_44 (by decide) ?_
              have hP := hP.sub (ws' := [(h0, .inr (11, MO ma sv_thrown sv_length sv_nodes sv_many sv_directories sv_runsFrom sv_runs sv_read sv_wrong sv_isNamed sv_goes sv_goesSize sv_goesAt sv_targetParts sv_isRoot)), ((ma 0), .inl (cB, 400, .inl fX))]) [0, 1] rfl
              have hD := hD.sub (ws' := [(h0, .inr (11, MO ma sv_thrown sv_length sv_nodes sv_many sv_directories sv_runsFrom sv_runs sv_read sv_wrong sv_isNamed sv_goes sv_goesSize sv_goesAt sv_targetParts sv_isRoot)), ((ma 0), .inl (cB, 400, .inl fX))]) [0, 1] (by decide +kernel) rfl
              have hl := lv_sub hl [0, 1] rfl
              exact kk48 _ 1 _ _ _ rfl ((by (try dsimp only); first | assumption | omega | trivial)) ((by (try dsimp only); first | assumption | omega | trivial)) ((by unfold BoolIs PreN; omega)) hP hD hS hl
            · skip
              have g29_103 : x.toInt = 2 := (i_eq rfl (by decide)).mp h_9
              refine lv_aload_n hx hb d_DiscMakerModel_isName_32 rfl (lv_at hl 0 rfl) ?_
              refine va_get (D := D) (ci := 11) (v := .ref (ma 0)) (C := "DiscMakerModel") (T := F_DiscMakerModel) (N := 48) hx hb ht9 in_DiscMakerModel hown hK hP 0 rfl rfl 1 (by decide) (ht9 _ k1432) (fun _ h9 => h9) rfl d_DiscMakerModel_isName_33 ?_
              refine lv_iconst (v := 1) hx hb d_DiscMakerModel_isName_36 (by decide) ?_
              refine va_bald hx hb hK hP 1 0 rfl rfl (by unfold vp_in; decide) d_DiscMakerModel_isName_37 ?_
              refine lv_topi (fun v18 e_v18 => ?_)
              have w_v18 : v18.toInt = (fX 1).toInt := congrArg Int32.toInt e_v18
              refine lv_bipush (v := 46) hx hb d_DiscMakerModel_isName_38 (by decide) ?_
              refine lv_icmp_eq (tgt := 47) hx hb d_DiscMakerModel_isName_40 (by decide) (fun h_9 => ?_) (fun h_9 => ?_)
              · skip
                have g40_112 : v18.toInt = 46 := (i_eq rfl (by decide)).mp h_9
                refine lv_iconst (v := 0) hx hb d_DiscMakerModel_isName_47 (by decide) ?_
                have hP := hP.sub (ws' := [(h0, .inr (11, MO ma sv_thrown sv_length sv_nodes sv_many sv_directories sv_runsFrom sv_runs sv_read sv_wrong sv_isNamed sv_goes sv_goesSize sv_goesAt sv_targetParts sv_isRoot)), ((ma 0), .inl (cB, 400, .inl fX))]) [0, 1] rfl
                have hD := hD.sub (ws' := [(h0, .inr (11, MO ma sv_thrown sv_length sv_nodes sv_many sv_directories sv_runsFrom sv_runs sv_read sv_wrong sv_isNamed sv_goes sv_goesSize sv_goesAt sv_targetParts sv_isRoot)), ((ma 0), .inl (cB, 400, .inl fX))]) [0, 1] (by decide +kernel) rfl
                have hl := lv_sub hl [0, 1] rfl
                exact kk48 _ 0 _ _ _ rfl ((by (try dsimp only); first | assumption | omega | trivial)) ((by (try dsimp only); first | assumption | omega | trivial)) ((by unfold BoolIs PreN; omega)) hP hD hS hl
              · skip
                have g40_112 : ¬ v18.toInt = 46 := fun h8 => h_9 ((i_eq rfl (by decide)).mpr h8)
                refine lv_iconst (v := 1) hx hb d_DiscMakerModel_isName_43 (by decide) ?_
                refine lv_goto (tgt := 48) hx hb d_DiscMakerModel_isName_44 (by decide) ?_
                have hP := hP.sub (ws' := [(h0, .inr (11, MO ma sv_thrown sv_length sv_nodes sv_many sv_directories sv_runsFrom sv_runs sv_read sv_wrong sv_isNamed sv_goes sv_goesSize sv_goesAt sv_targetParts sv_isRoot)), ((ma 0), .inl (cB, 400, .inl fX))]) [0, 1] rfl
                have hD := hD.sub (ws' := [(h0, .inr (11, MO ma sv_thrown sv_length sv_nodes sv_many sv_directories sv_runsFrom sv_runs sv_read sv_wrong sv_isNamed sv_goes sv_goesSize sv_goesAt sv_targetParts sv_isRoot)), ((ma 0), .inl (cB, 400, .inl fX))]) [0, 1] (by decide +kernel) rfl
                have hl := lv_sub hl [0, 1] rfl
                exact kk48 _ 1 _ _ _ rfl ((by (try dsimp only); first | assumption | omega | trivial)) ((by (try dsimp only); first | assumption | omega | trivial)) ((by unfold BoolIs PreN; omega)) hP hD hS hl

theorem d_DiscMakerModel_nameOf_0 : decode b_DiscMakerModel_nameOf 0 = .ok (.iload_n 2, 1) := by decide +kernel
theorem d_DiscMakerModel_nameOf_1 : decode b_DiscMakerModel_nameOf 1 = .ok (.aload_n 0, 1) := by decide +kernel
theorem d_DiscMakerModel_nameOf_2 : decode b_DiscMakerModel_nameOf 2 = .ok (.getfield 38, 3) := by decide +kernel
theorem d_DiscMakerModel_nameOf_5 : decode b_DiscMakerModel_nameOf 5 = .ok (.iload_n 1, 1) := by decide +kernel
theorem d_DiscMakerModel_nameOf_6 : decode b_DiscMakerModel_nameOf 6 = .ok (.iaload, 1) := by decide +kernel
theorem d_DiscMakerModel_nameOf_7 : decode b_DiscMakerModel_nameOf 7 = .ok (.if_icmp .ge 21, 3) := by decide +kernel
theorem d_DiscMakerModel_nameOf_10 : decode b_DiscMakerModel_nameOf 10 = .ok (.aload_n 0, 1) := by decide +kernel
theorem d_DiscMakerModel_nameOf_11 : decode b_DiscMakerModel_nameOf 11 = .ok (.getfield 35, 3) := by decide +kernel
theorem d_DiscMakerModel_nameOf_14 : decode b_DiscMakerModel_nameOf 14 = .ok (.bipush 30, 2) := by decide +kernel
theorem d_DiscMakerModel_nameOf_16 : decode b_DiscMakerModel_nameOf 16 = .ok (.iload_n 1, 1) := by decide +kernel
theorem d_DiscMakerModel_nameOf_17 : decode b_DiscMakerModel_nameOf 17 = .ok (.imul, 1) := by decide +kernel
theorem d_DiscMakerModel_nameOf_18 : decode b_DiscMakerModel_nameOf 18 = .ok (.iload_n 2, 1) := by decide +kernel
theorem d_DiscMakerModel_nameOf_19 : decode b_DiscMakerModel_nameOf 19 = .ok (.iadd, 1) := by decide +kernel
theorem d_DiscMakerModel_nameOf_20 : decode b_DiscMakerModel_nameOf 20 = .ok (.baload, 1) := by decide +kernel
theorem d_DiscMakerModel_nameOf_21 : decode b_DiscMakerModel_nameOf 21 = .ok (.sipush 255, 3) := by decide +kernel
theorem d_DiscMakerModel_nameOf_24 : decode b_DiscMakerModel_nameOf 24 = .ok (.iand, 1) := by decide +kernel
theorem d_DiscMakerModel_nameOf_25 : decode b_DiscMakerModel_nameOf 25 = .ok (.goto 4, 3) := by decide +kernel
theorem d_DiscMakerModel_nameOf_28 : decode b_DiscMakerModel_nameOf 28 = .ok (.iconst 0, 1) := by decide +kernel
theorem d_DiscMakerModel_nameOf_29 : decode b_DiscMakerModel_nameOf 29 = .ok (.ireturn, 1) := by decide +kernel
set_option maxHeartbeats 4000000 in
set_option maxRecDepth 100000 in
theorem m_nameOf (l : Launch) (D : va_G) (cB cI cJ cZ cN cF : ClassId) (sz : Nat) (h0 : Nat) (ma : Nat → Nat) (sv_thrown sv_length sv_nodes sv_many sv_directories sv_runsFrom sv_runs sv_read sv_wrong sv_isNamed sv_goes sv_goesSize sv_goesAt sv_targetParts sv_isRoot : Int32) (fN : Nat → Int32) (fNS : Nat → Int32) (x : Int32) (y : Int32) (hx0 : 0 ≤ x.toInt ∧ x.toInt < 40) (hy0 : 0 ≤ y.toInt) (hNS : Rg 0 30 40 fNS) : Met l y_DiscMakerModel_nameOf w_DiscMakerModel_nameOf ({ frames := 0, cells := 0, slots := 0, locals := 0 }) (va_Pc [.ref h0, .int x, .int y] (fun U => U.heap.size = sz ∧ va_P D CL [(h0, .inr (11, MO ma sv_thrown sv_length sv_nodes sv_many sv_directories sv_runsFrom sv_runs sv_read sv_wrong sv_isNamed sv_goes sv_goesSize sv_goesAt sv_targetParts sv_isRoot)), ((ma 8), .inl (cB, 1200, .inl fN)), ((ma 9), .inl (cI, 40, .inl fNS))] U.heap ∧ va_K D CL (TY cB cI cJ cZ cN cF) U ∧ NN U ∧ va_D (fun _ => True) [(h0, .inr (11, MO ma sv_thrown sv_length sv_nodes sv_many sv_directories sv_runsFrom sv_runs sv_read sv_wrong sv_isNamed sv_goes sv_goesSize sv_goesAt sv_targetParts sv_isRoot)), ((ma 8), .inl (cB, 1200, .inl fN)), ((ma 9), .inl (cI, 40, .inl fNS))])) (va_Qi (fun (r : Int32) (u : Unit) => (0 ≤ r.toInt ∧ r.toInt ≤ 255) ∧ (r.toInt = nmF fN fNS x.toNatClampNeg y.toNatClampNeg)) (fun (u : Unit) (t : State) => match u with | () => va_P D CL [(h0, .inr (11, MO ma sv_thrown sv_length sv_nodes sv_many sv_directories sv_runsFrom sv_runs sv_read sv_wrong sv_isNamed sv_goes sv_goesSize sv_goesAt sv_targetParts sv_isRoot)), ((ma 8), .inl (cB, 1200, .inl fN)), ((ma 9), .inl (cI, 40, .inl fNS))] t.heap ∧ va_D (va_A [(h0, .inr (11, MO ma sv_thrown sv_length sv_nodes sv_many sv_directories sv_runsFrom sv_runs sv_read sv_wrong sv_isNamed sv_goes sv_goesSize sv_goesAt sv_targetParts sv_isRoot)), ((ma 8), .inl (cB, 1200, .inl fN)), ((ma 9), .inl (cI, 40, .inl fNS))] sz) [(h0, .inr (11, MO ma sv_thrown sv_length sv_nodes sv_many sv_directories sv_runsFrom sv_runs sv_read sv_wrong sv_isNamed sv_goes sv_goesSize sv_goesAt sv_targetParts sv_isRoot)), ((ma 8), .inl (cB, 1200, .inl fN)), ((ma 9), .inl (cI, 40, .inl fNS))]) (va_A [(h0, .inr (11, MO ma sv_thrown sv_length sv_nodes sv_many sv_directories sv_runsFrom sv_runs sv_read sv_wrong sv_isNamed sv_goes sv_goesSize sv_goesAt sv_targetParts sv_isRoot)), ((ma 8), .inl (cB, 1200, .inl fN)), ((ma 9), .inl (cI, 40, .inl fNS))] sz)) 0 0 (va_A [(h0, .inr (11, MO ma sv_thrown sv_length sv_nodes sv_many sv_directories sv_runsFrom sv_runs sv_read sv_wrong sv_isNamed sv_goes sv_goesSize sv_goesAt sv_targetParts sv_isRoot)), ((ma 8), .inl (cB, 1200, .inl fN)), ((ma 9), .inl (cI, 40, .inl fNS))] sz) := by
  refine Met.ofW (cc := b_DiscMakerModel_nameOf) (maxL := 3) (ret := some .int) (by decide) rfl ?_
  intro p e s m args below meth c s₁ B hml hv
  obtain ⟨rfl, hsz, hP, hK, hN, hD0⟩ := hv
  have hx := B.exec
  have hb := B.bytes
  have hr := B.returns
  have hts := atoms_spec (ws := w_DiscMakerModel_nameOf) B.pre
  have ht9 := fun (w : Cond) (h : w ∈ lw_g) => hts w (List.mem_cons_of_mem _ h)
  have hown : s.vm.findClass "DiscMakerModel" = some m.cls := findClass_of_methodNamed B.named
  have hlocks := B.notSynchronized
  subst hsz
  have hD := hD0.self (sz := s.heap.size)
  generalize hAe : va_A [(h0, .inr (11, MO ma sv_thrown sv_length sv_nodes sv_many sv_directories sv_runsFrom sv_runs sv_read sv_wrong sv_isNamed sv_goes sv_goesSize sv_goesAt sv_targetParts sv_isRoot)), ((ma 8), .inl (cB, 1200, .inl fN)), ((ma 9), .inl (cI, 40, .inl fNS))] s.heap.size = A at hD ⊢
  have hA : ∀ q : Nat, s.heap.size ≤ q → A q := fun q h => by rw [← hAe]; exact Or.inr h
  have hS : va_S A s.heap s.heap [] := va_S.rf
  have hP : va_P D CL [(h0, .inr (11, MO ma sv_thrown sv_length sv_nodes sv_many sv_directories sv_runsFrom sv_runs sv_read sv_wrong sv_isNamed sv_goes sv_goesSize sv_goesAt sv_targetParts sv_isRoot)), ((ma 8), .inl (cB, 1200, .inl fN)), ((ma 9), .inl (cI, 40, .inl fNS))] s.heap := hP
  have hl := lv_entry [.ref h0, .int x, .int y] (n := 3) (Nat.le_of_ble_eq_true rfl)
  rw [lg_entry_eq]
  generalize (lg_sl [.ref h0, .int x, .int y] ++ List.replicate (3 - (lg_sl [.ref h0, .int x, .int y]).length) Slot.unset).toArray = ls at hl ⊢
  have hl : lv_has ls 3 [(0, .ref h0), (1, .int x), (2, .int y)] := hl
  have L_m1 : ((-1) : Int32).toInt = (-1) := by decide
  have L_0 : (0 : Int32).toInt = 0 := by decide
  have L_1 : (1 : Int32).toInt = 1 := by decide
  have L_30 : (30 : Int32).toInt = 30 := by decide
  have L_255 : (255 : Int32).toInt = 255 := by decide
  have hxc := i_cl (a := x) (by omega)
  have hyc := i_cl (a := y) (by omega)
  refine lv_iload_n hx hb d_DiscMakerModel_nameOf_0 rfl (lv_at hl 2 rfl) ?_
  refine lv_aload_n hx hb d_DiscMakerModel_nameOf_1 rfl (lv_at hl 0 rfl) ?_
  refine va_get (D := D) (ci := 11) (v := .ref (ma 9)) (C := "DiscMakerModel") (T := F_DiscMakerModel) (N := 48) hx hb ht9 in_DiscMakerModel hown hK hP 0 rfl rfl 12 (by decide) (ht9 _ k1443) (fun _ h9 => h9) rfl d_DiscMakerModel_nameOf_2 ?_
  refine lv_iload_n hx hb d_DiscMakerModel_nameOf_5 rfl (lv_at hl 1 rfl) ?_
  refine va_iald hx hb hK hP 2 1 rfl rfl (vp_in_iff.mpr ⟨by omega, by omega⟩) d_DiscMakerModel_nameOf_6 ?_
  refine lv_topi (fun v1 e_v1 => ?_)
  have t_v1 : 0 ≤ v1.toInt ∧ v1.toInt ≤ 30 := by
    rw [e_v1]; exact hNS _ (by have := i_cl (a := x) (by omega); omega)
  refine lv_icmp_ge (tgt := 28) hx hb d_DiscMakerModel_nameOf_7 (by decide) (fun h_9 => ?_) (fun h_9 => ?_)
  · skip
    have g7_6 : v1.toInt ≤ y.toInt := (i_le rfl rfl).mp h_9
    refine lv_iconst (v := 0) hx hb d_DiscMakerModel_nameOf_28 (by decide) ?_
    have hP9 := hP.sub (ws' := [(h0, .inr (11, MO ma sv_thrown sv_length sv_nodes sv_many sv_directories sv_runsFrom sv_runs sv_read sv_wrong sv_isNamed sv_goes sv_goesSize sv_goesAt sv_targetParts sv_isRoot)), ((ma 8), .inl (cB, 1200, .inl fN)), ((ma 9), .inl (cI, 40, .inl fNS))]) [0, 1, 2] rfl
    have hD9 := hD.sub (ws' := [(h0, .inr (11, MO ma sv_thrown sv_length sv_nodes sv_many sv_directories sv_runsFrom sv_runs sv_read sv_wrong sv_isNamed sv_goes sv_goesSize sv_goesAt sv_targetParts sv_isRoot)), ((ma 8), .inl (cB, 1200, .inl fN)), ((ma 9), .inl (cI, 40, .inl fNS))]) [0, 1, 2] (by decide +kernel) rfl
    exact W.iret (v := 0) hx hb hr (fun t ht hW => ⟨⟨0, (), rfl, ⟨(by (try dsimp only); first | assumption | omega | trivial), (by (try dsimp only); unfold nmF; rw [if_neg (by rw [← e_v1]; omega)]; omega)⟩, by rw [ht]; exact hP9, hD9⟩, hS.F ht⟩) hS.2.2 d_DiscMakerModel_nameOf_29
  · skip
    have g7_6 : ¬ v1.toInt ≤ y.toInt := fun h8 => h_9 ((i_le rfl rfl).mpr h8)
    refine lv_aload_n hx hb d_DiscMakerModel_nameOf_10 rfl (lv_at hl 0 rfl) ?_
    refine va_get (D := D) (ci := 11) (v := .ref (ma 8)) (C := "DiscMakerModel") (T := F_DiscMakerModel) (N := 48) hx hb ht9 in_DiscMakerModel hown hK hP 0 rfl rfl 11 (by decide) (ht9 _ k1442) (fun _ h9 => h9) rfl d_DiscMakerModel_nameOf_11 ?_
    refine lv_bipush (v := 30) hx hb d_DiscMakerModel_nameOf_14 (by decide) ?_
    refine lv_iload_n hx hb d_DiscMakerModel_nameOf_16 rfl (lv_at hl 1 rfl) ?_
    refine lv_imul hx hb d_DiscMakerModel_nameOf_17 ?_
    refine lv_topi (fun v2 e_v2 => ?_)
    have t_v2 : v2.toInt = 30 * x.toInt := by rw [e_v2]; exact i_mul (by decide) rfl (by omega) (by omega)
    refine lv_iload_n hx hb d_DiscMakerModel_nameOf_18 rfl (lv_at hl 2 rfl) ?_
    refine lv_iadd hx hb d_DiscMakerModel_nameOf_19 ?_
    refine lv_topi (fun v3 e_v3 => ?_)
    have t_v3 : v3.toInt = v2.toInt + y.toInt := by rw [e_v3]; exact i_add rfl rfl (by omega) (by omega)
    refine va_bald hx hb hK hP 1 0 rfl rfl (vp_in_iff.mpr ⟨by omega, by omega⟩) d_DiscMakerModel_nameOf_20 ?_
    refine lv_topi (fun v4 e_v4 => ?_)
    have c_v4 := i_cl (a := v3) (by omega)
    have e2_v4 : v4 = fN (30 * x.toNatClampNeg + y.toNatClampNeg) := by rw [e_v4, show v3.toNatClampNeg = 30 * x.toNatClampNeg + y.toNatClampNeg by omega]
    refine lv_sipush (v := 255) hx hb d_DiscMakerModel_nameOf_21 (by decide) ?_
    refine lv_iand hx hb d_DiscMakerModel_nameOf_24 ?_
    refine lv_topi (fun v5 e_v5 => ?_)
    have t_v5 : 0 ≤ v5.toInt ∧ v5.toInt ≤ 255 := by rw [e_v5]; exact i_and (by decide) (by decide)
    refine lv_goto (tgt := 29) hx hb d_DiscMakerModel_nameOf_25 (by decide) ?_
    have hP9 := hP.sub (ws' := [(h0, .inr (11, MO ma sv_thrown sv_length sv_nodes sv_many sv_directories sv_runsFrom sv_runs sv_read sv_wrong sv_isNamed sv_goes sv_goesSize sv_goesAt sv_targetParts sv_isRoot)), ((ma 8), .inl (cB, 1200, .inl fN)), ((ma 9), .inl (cI, 40, .inl fNS))]) [0, 1, 2] rfl
    have hD9 := hD.sub (ws' := [(h0, .inr (11, MO ma sv_thrown sv_length sv_nodes sv_many sv_directories sv_runsFrom sv_runs sv_read sv_wrong sv_isNamed sv_goes sv_goesSize sv_goesAt sv_targetParts sv_isRoot)), ((ma 8), .inl (cB, 1200, .inl fN)), ((ma 9), .inl (cI, 40, .inl fNS))]) [0, 1, 2] (by decide +kernel) rfl
    exact W.iret (v := v5) hx hb hr (fun t ht hW => ⟨⟨v5, (), rfl, ⟨(by (try dsimp only); first | assumption | omega | trivial), (by (try dsimp only); unfold nmF; rw [if_pos (by rw [← e_v1]; omega), e_v5, e2_v4])⟩, by rw [ht]; exact hP9, hD9⟩, hS.F ht⟩) hS.2.2 d_DiscMakerModel_nameOf_29

theorem d_DiscMakerModel_isThere_0 : decode b_DiscMakerModel_isThere 0 = .ok (.iconst 0, 1) := by decide +kernel
theorem d_DiscMakerModel_isThere_1 : decode b_DiscMakerModel_isThere 1 = .ok (.istore_n 3, 1) := by decide +kernel
theorem d_DiscMakerModel_isThere_2 : decode b_DiscMakerModel_isThere 2 = .ok (.iconst 1, 1) := by decide +kernel
theorem d_DiscMakerModel_isThere_3 : decode b_DiscMakerModel_isThere 3 = .ok (.istore 4, 2) := by decide +kernel
theorem d_DiscMakerModel_isThere_5 : decode b_DiscMakerModel_isThere 5 = .ok (.iload 4, 2) := by decide +kernel
theorem d_DiscMakerModel_isThere_7 : decode b_DiscMakerModel_isThere 7 = .ok (.aload_n 0, 1) := by decide +kernel
theorem d_DiscMakerModel_isThere_8 : decode b_DiscMakerModel_isThere 8 = .ok (.getfield 114, 3) := by decide +kernel
theorem d_DiscMakerModel_isThere_11 : decode b_DiscMakerModel_isThere 11 = .ok (.if_icmp .ge 84, 3) := by decide +kernel
theorem d_DiscMakerModel_isThere_14 : decode b_DiscMakerModel_isThere 14 = .ok (.iload_n 3, 1) := by decide +kernel
theorem d_DiscMakerModel_isThere_15 : decode b_DiscMakerModel_isThere 15 = .ok (.ifCond .ne 80, 3) := by decide +kernel
theorem d_DiscMakerModel_isThere_18 : decode b_DiscMakerModel_isThere 18 = .ok (.aload_n 0, 1) := by decide +kernel
theorem d_DiscMakerModel_isThere_19 : decode b_DiscMakerModel_isThere 19 = .ok (.getfield 17, 3) := by decide +kernel
theorem d_DiscMakerModel_isThere_22 : decode b_DiscMakerModel_isThere 22 = .ok (.iload 4, 2) := by decide +kernel
theorem d_DiscMakerModel_isThere_24 : decode b_DiscMakerModel_isThere 24 = .ok (.iaload, 1) := by decide +kernel
theorem d_DiscMakerModel_isThere_25 : decode b_DiscMakerModel_isThere 25 = .ok (.iload_n 1, 1) := by decide +kernel
theorem d_DiscMakerModel_isThere_26 : decode b_DiscMakerModel_isThere 26 = .ok (.if_icmp .ne 18, 3) := by decide +kernel
theorem d_DiscMakerModel_isThere_29 : decode b_DiscMakerModel_isThere 29 = .ok (.aload_n 0, 1) := by decide +kernel
theorem d_DiscMakerModel_isThere_30 : decode b_DiscMakerModel_isThere 30 = .ok (.getfield 38, 3) := by decide +kernel
theorem d_DiscMakerModel_isThere_33 : decode b_DiscMakerModel_isThere 33 = .ok (.iload 4, 2) := by decide +kernel
theorem d_DiscMakerModel_isThere_35 : decode b_DiscMakerModel_isThere 35 = .ok (.iaload, 1) := by decide +kernel
theorem d_DiscMakerModel_isThere_36 : decode b_DiscMakerModel_isThere 36 = .ok (.iload_n 2, 1) := by decide +kernel
theorem d_DiscMakerModel_isThere_37 : decode b_DiscMakerModel_isThere 37 = .ok (.if_icmp .ne 7, 3) := by decide +kernel
theorem d_DiscMakerModel_isThere_40 : decode b_DiscMakerModel_isThere 40 = .ok (.iconst 1, 1) := by decide +kernel
theorem d_DiscMakerModel_isThere_41 : decode b_DiscMakerModel_isThere 41 = .ok (.goto 4, 3) := by decide +kernel
theorem d_DiscMakerModel_isThere_44 : decode b_DiscMakerModel_isThere 44 = .ok (.iconst 0, 1) := by decide +kernel
theorem d_DiscMakerModel_isThere_45 : decode b_DiscMakerModel_isThere 45 = .ok (.istore_n 3, 1) := by decide +kernel
theorem d_DiscMakerModel_isThere_46 : decode b_DiscMakerModel_isThere 46 = .ok (.iconst 0, 1) := by decide +kernel
theorem d_DiscMakerModel_isThere_47 : decode b_DiscMakerModel_isThere 47 = .ok (.istore 5, 2) := by decide +kernel
theorem d_DiscMakerModel_isThere_49 : decode b_DiscMakerModel_isThere 49 = .ok (.iload 5, 2) := by decide +kernel
theorem d_DiscMakerModel_isThere_51 : decode b_DiscMakerModel_isThere 51 = .ok (.iload_n 2, 1) := by decide +kernel
theorem d_DiscMakerModel_isThere_52 : decode b_DiscMakerModel_isThere 52 = .ok (.if_icmp .ge 37, 3) := by decide +kernel
theorem d_DiscMakerModel_isThere_55 : decode b_DiscMakerModel_isThere 55 = .ok (.iload_n 3, 1) := by decide +kernel
theorem d_DiscMakerModel_isThere_56 : decode b_DiscMakerModel_isThere 56 = .ok (.ifCond .eq 33, 3) := by decide +kernel
theorem d_DiscMakerModel_isThere_59 : decode b_DiscMakerModel_isThere 59 = .ok (.aload_n 0, 1) := by decide +kernel
theorem d_DiscMakerModel_isThere_60 : decode b_DiscMakerModel_isThere 60 = .ok (.iload 4, 2) := by decide +kernel
theorem d_DiscMakerModel_isThere_62 : decode b_DiscMakerModel_isThere 62 = .ok (.iload 5, 2) := by decide +kernel
theorem d_DiscMakerModel_isThere_64 : decode b_DiscMakerModel_isThere 64 = .ok (.invokevirtual 131, 3) := by decide +kernel
theorem d_DiscMakerModel_isThere_67 : decode b_DiscMakerModel_isThere 67 = .ok (.aload_n 0, 1) := by decide +kernel
theorem d_DiscMakerModel_isThere_68 : decode b_DiscMakerModel_isThere 68 = .ok (.getfield 7, 3) := by decide +kernel
theorem d_DiscMakerModel_isThere_71 : decode b_DiscMakerModel_isThere 71 = .ok (.iload 5, 2) := by decide +kernel
theorem d_DiscMakerModel_isThere_73 : decode b_DiscMakerModel_isThere 73 = .ok (.baload, 1) := by decide +kernel
theorem d_DiscMakerModel_isThere_74 : decode b_DiscMakerModel_isThere 74 = .ok (.if_icmp .ne 7, 3) := by decide +kernel
theorem d_DiscMakerModel_isThere_77 : decode b_DiscMakerModel_isThere 77 = .ok (.iconst 1, 1) := by decide +kernel
theorem d_DiscMakerModel_isThere_78 : decode b_DiscMakerModel_isThere 78 = .ok (.goto 4, 3) := by decide +kernel
theorem d_DiscMakerModel_isThere_81 : decode b_DiscMakerModel_isThere 81 = .ok (.iconst 0, 1) := by decide +kernel
theorem d_DiscMakerModel_isThere_82 : decode b_DiscMakerModel_isThere 82 = .ok (.istore_n 3, 1) := by decide +kernel
theorem d_DiscMakerModel_isThere_83 : decode b_DiscMakerModel_isThere 83 = .ok (.iinc 5 1, 3) := by decide +kernel
theorem d_DiscMakerModel_isThere_86 : decode b_DiscMakerModel_isThere 86 = .ok (.goto (-37), 3) := by decide +kernel
theorem d_DiscMakerModel_isThere_89 : decode b_DiscMakerModel_isThere 89 = .ok (.iinc 4 1, 3) := by decide +kernel
theorem d_DiscMakerModel_isThere_92 : decode b_DiscMakerModel_isThere 92 = .ok (.goto (-87), 3) := by decide +kernel
theorem d_DiscMakerModel_isThere_95 : decode b_DiscMakerModel_isThere 95 = .ok (.iload_n 3, 1) := by decide +kernel
theorem d_DiscMakerModel_isThere_96 : decode b_DiscMakerModel_isThere 96 = .ok (.ireturn, 1) := by decide +kernel
set_option maxHeartbeats 4000000 in
set_option maxRecDepth 100000 in
theorem m_isThere (l : Launch) (D : va_G) (cB cI cJ cZ cN cF : ClassId) (sz : Nat) (h0 : Nat) (ma : Nat → Nat) (sv_thrown sv_length sv_nodes sv_many sv_directories sv_runsFrom sv_runs sv_read sv_wrong sv_isNamed sv_goes sv_goesSize sv_goesAt sv_targetParts sv_isRoot : Int32) (fX : Nat → Int32) (fP : Nat → Int32) (fN : Nat → Int32) (fNS : Nat → Int32) (x : Int32) (y : Int32) (hn : 1 ≤ sv_nodes.toInt ∧ sv_nodes.toInt ≤ 40) (hy0 : 0 ≤ y.toInt ∧ y.toInt ≤ 30) (hNS : Rg 0 30 40 fNS) : Met l y_DiscMakerModel_isThere w_DiscMakerModel_isThere ({ frames := 1, cells := 0, slots := 0, locals := 22 }) (va_Pc [.ref h0, .int x, .int y] (fun U => U.heap.size = sz ∧ va_P D CL [(h0, .inr (11, MO ma sv_thrown sv_length sv_nodes sv_many sv_directories sv_runsFrom sv_runs sv_read sv_wrong sv_isNamed sv_goes sv_goesSize sv_goesAt sv_targetParts sv_isRoot)), ((ma 0), .inl (cB, 400, .inl fX)), ((ma 2), .inl (cI, 40, .inl fP)), ((ma 8), .inl (cB, 1200, .inl fN)), ((ma 9), .inl (cI, 40, .inl fNS))] U.heap ∧ va_K D CL (TY cB cI cJ cZ cN cF) U ∧ NN U ∧ va_D (fun _ => True) [(h0, .inr (11, MO ma sv_thrown sv_length sv_nodes sv_many sv_directories sv_runsFrom sv_runs sv_read sv_wrong sv_isNamed sv_goes sv_goesSize sv_goesAt sv_targetParts sv_isRoot)), ((ma 0), .inl (cB, 400, .inl fX)), ((ma 2), .inl (cI, 40, .inl fP)), ((ma 8), .inl (cB, 1200, .inl fN)), ((ma 9), .inl (cI, 40, .inl fNS))])) (va_Qi (fun (r : Int32) (u : Unit) => (0 ≤ r.toInt ∧ r.toInt ≤ 1) ∧ (r.toInt = 0 → ∀ k : Nat, 1 ≤ k → (k : Int) < sv_nodes.toInt → (fP k).toInt = x.toInt → ¬ ((fNS k).toInt = y.toInt ∧ ∀ i : Nat, (i : Int) < y.toInt → nmF fN fNS k i = (fX i).toInt)) ∧ (BoolIs r (NmdM sv_nodes.toInt fP fN fNS x y.toInt fX))) (fun (u : Unit) (t : State) => match u with | () => va_P D CL [(h0, .inr (11, MO ma sv_thrown sv_length sv_nodes sv_many sv_directories sv_runsFrom sv_runs sv_read sv_wrong sv_isNamed sv_goes sv_goesSize sv_goesAt sv_targetParts sv_isRoot)), ((ma 0), .inl (cB, 400, .inl fX)), ((ma 2), .inl (cI, 40, .inl fP)), ((ma 8), .inl (cB, 1200, .inl fN)), ((ma 9), .inl (cI, 40, .inl fNS))] t.heap ∧ va_D (va_A [(h0, .inr (11, MO ma sv_thrown sv_length sv_nodes sv_many sv_directories sv_runsFrom sv_runs sv_read sv_wrong sv_isNamed sv_goes sv_goesSize sv_goesAt sv_targetParts sv_isRoot)), ((ma 0), .inl (cB, 400, .inl fX)), ((ma 2), .inl (cI, 40, .inl fP)), ((ma 8), .inl (cB, 1200, .inl fN)), ((ma 9), .inl (cI, 40, .inl fNS))] sz) [(h0, .inr (11, MO ma sv_thrown sv_length sv_nodes sv_many sv_directories sv_runsFrom sv_runs sv_read sv_wrong sv_isNamed sv_goes sv_goesSize sv_goesAt sv_targetParts sv_isRoot)), ((ma 0), .inl (cB, 400, .inl fX)), ((ma 2), .inl (cI, 40, .inl fP)), ((ma 8), .inl (cB, 1200, .inl fN)), ((ma 9), .inl (cI, 40, .inl fNS))]) (va_A [(h0, .inr (11, MO ma sv_thrown sv_length sv_nodes sv_many sv_directories sv_runsFrom sv_runs sv_read sv_wrong sv_isNamed sv_goes sv_goesSize sv_goesAt sv_targetParts sv_isRoot)), ((ma 0), .inl (cB, 400, .inl fX)), ((ma 2), .inl (cI, 40, .inl fP)), ((ma 8), .inl (cB, 1200, .inl fN)), ((ma 9), .inl (cI, 40, .inl fNS))] sz)) 0 0 (va_A [(h0, .inr (11, MO ma sv_thrown sv_length sv_nodes sv_many sv_directories sv_runsFrom sv_runs sv_read sv_wrong sv_isNamed sv_goes sv_goesSize sv_goesAt sv_targetParts sv_isRoot)), ((ma 0), .inl (cB, 400, .inl fX)), ((ma 2), .inl (cI, 40, .inl fP)), ((ma 8), .inl (cB, 1200, .inl fN)), ((ma 9), .inl (cI, 40, .inl fNS))] sz) := by
  refine Met.ofW (cc := b_DiscMakerModel_isThere) (maxL := 6) (ret := some .boolean) (by decide) rfl ?_
  intro p e s m args below meth c s₁ B hml hv
  obtain ⟨rfl, hsz, hP, hK, hN, hD0⟩ := hv
  have hx := B.exec
  have hb := B.bytes
  have hr := B.returns
  have hts := atoms_spec (ws := w_DiscMakerModel_isThere) B.pre
  have ht9 := fun (w : Cond) (h : w ∈ lw_g) => hts w (List.mem_cons_of_mem _ h)
  have hown : s.vm.findClass "DiscMakerModel" = some m.cls := findClass_of_methodNamed B.named
  have hlocks := B.notSynchronized
  subst hsz
  have hD := hD0.self (sz := s.heap.size)
  generalize hAe : va_A [(h0, .inr (11, MO ma sv_thrown sv_length sv_nodes sv_many sv_directories sv_runsFrom sv_runs sv_read sv_wrong sv_isNamed sv_goes sv_goesSize sv_goesAt sv_targetParts sv_isRoot)), ((ma 0), .inl (cB, 400, .inl fX)), ((ma 2), .inl (cI, 40, .inl fP)), ((ma 8), .inl (cB, 1200, .inl fN)), ((ma 9), .inl (cI, 40, .inl fNS))] s.heap.size = A at hD ⊢
  have hA : ∀ q : Nat, s.heap.size ≤ q → A q := fun q h => by rw [← hAe]; exact Or.inr h
  have hS : va_S A s.heap s.heap [] := va_S.rf
  have hP : va_P D CL [(h0, .inr (11, MO ma sv_thrown sv_length sv_nodes sv_many sv_directories sv_runsFrom sv_runs sv_read sv_wrong sv_isNamed sv_goes sv_goesSize sv_goesAt sv_targetParts sv_isRoot)), ((ma 0), .inl (cB, 400, .inl fX)), ((ma 2), .inl (cI, 40, .inl fP)), ((ma 8), .inl (cB, 1200, .inl fN)), ((ma 9), .inl (cI, 40, .inl fNS))] s.heap := hP
  have hl := lv_entry [.ref h0, .int x, .int y] (n := 6) (Nat.le_of_ble_eq_true rfl)
  rw [lg_entry_eq]
  generalize (lg_sl [.ref h0, .int x, .int y] ++ List.replicate (6 - (lg_sl [.ref h0, .int x, .int y]).length) Slot.unset).toArray = ls at hl ⊢
  have hl : lv_has ls 6 [(0, .ref h0), (1, .int x), (2, .int y)] := hl
  have L_m1 : ((-1) : Int32).toInt = (-1) := by decide
  have L_0 : (0 : Int32).toInt = 0 := by decide
  have L_1 : (1 : Int32).toInt = 1 := by decide
  refine lv_iconst (v := 0) hx hb d_DiscMakerModel_isThere_0 (by decide) ?_
  refine lv_istore_n hx hb d_DiscMakerModel_isThere_1 rfl hl (by decide) rfl (fun ls hl => ?_)
  have hl : lv_has ls 6 [(3, .int 0), (0, .ref h0), (1, .int x), (2, .int y)] := hl
  refine lv_iconst (v := 1) hx hb d_DiscMakerModel_isThere_2 (by decide) ?_
  refine lv_istore hx hb d_DiscMakerModel_isThere_3 hl (by decide) rfl (fun ls hl => ?_)
  have hl : lv_has ls 6 [(4, .int 1), (3, .int 0), (0, .ref h0), (1, .int x), (2, .int y)] := hl
  refine zz_labM (B := fun (lk : Nat) (K : Heap → List Loc → Array Slot → List Value → Prop) => ∀ (iz : Int32) (kx : Int32) (H : Heap) (locs : List Loc) (ls : Array Slot), lk = (40 - kx.toInt).toNat → (0 ≤ iz.toInt ∧ iz.toInt ≤ 1) → (1 ≤ kx.toInt ∧ kx.toInt ≤ sv_nodes.toInt) → (iz.toInt = 0 → ∀ k : Nat, 1 ≤ k → (k : Int) < kx.toInt → (fP k).toInt = x.toInt → ¬ ((fNS k).toInt = y.toInt ∧ ∀ i : Nat, (i : Int) < y.toInt → nmF fN fNS k i = (fX i).toInt)) → (iz.toInt ≠ 0 → NmdM sv_nodes.toInt fP fN fNS x y.toInt fX) → va_P D CL [(h0, .inr (11, MO ma sv_thrown sv_length sv_nodes sv_many sv_directories sv_runsFrom sv_runs sv_read sv_wrong sv_isNamed sv_goes sv_goesSize sv_goesAt sv_targetParts sv_isRoot)), ((ma 0), .inl (cB, 400, .inl fX)), ((ma 2), .inl (cI, 40, .inl fP)), ((ma 8), .inl (cB, 1200, .inl fN)), ((ma 9), .inl (cI, 40, .inl fNS))] H → va_D A [(h0, .inr (11, MO ma sv_thrown sv_length sv_nodes sv_many sv_directories sv_runsFrom sv_runs sv_read sv_wrong sv_isNamed sv_goes sv_goesSize sv_goesAt sv_targetParts sv_isRoot)), ((ma 0), .inl (cB, 400, .inl fX)), ((ma 2), .inl (cI, 40, .inl fP)), ((ma 8), .inl (cB, 1200, .inl fN)), ((ma 9), .inl (cI, 40, .inl fNS))] → va_S A s.heap H locs → lv_has ls 6 [(0, .ref h0), (1, .int x), (2, .int y), (3, .int iz), (4, .int kx)] → K H locs ls []) 5 ?_ ?_
  · skip
    intro lk ih5 iz kx H locs ls hm5 f1 f2 f6 f7 hP hD hS hl
    refine lv_iload hx hb d_DiscMakerModel_isThere_5 (lv_at hl 4 rfl) ?_
    refine lv_aload_n hx hb d_DiscMakerModel_isThere_7 rfl (lv_at hl 0 rfl) ?_
    refine va_get (D := D) (ci := 11) (v := .int sv_nodes) (C := "DiscMakerModel") (T := F_DiscMakerModel) (N := 48) hx hb ht9 in_DiscMakerModel hown hK hP 0 rfl rfl 3 (by decide) (ht9 _ k1434) (fun _ h9 => h9) rfl d_DiscMakerModel_isThere_8 ?_
    refine lv_icmp_ge (tgt := 95) hx hb d_DiscMakerModel_isThere_11 (by decide) (fun h_9 => ?_) (fun h_9 => ?_)
    · skip
      have g11_8 : sv_nodes.toInt ≤ kx.toInt := (i_le rfl rfl).mp h_9
      refine lv_iload_n hx hb d_DiscMakerModel_isThere_95 rfl (lv_at hl 3 rfl) ?_
      have hP9 := hP.sub (ws' := [(h0, .inr (11, MO ma sv_thrown sv_length sv_nodes sv_many sv_directories sv_runsFrom sv_runs sv_read sv_wrong sv_isNamed sv_goes sv_goesSize sv_goesAt sv_targetParts sv_isRoot)), ((ma 0), .inl (cB, 400, .inl fX)), ((ma 2), .inl (cI, 40, .inl fP)), ((ma 8), .inl (cB, 1200, .inl fN)), ((ma 9), .inl (cI, 40, .inl fNS))]) [0, 1, 2, 3, 4] rfl
      have hD9 := hD.sub (ws' := [(h0, .inr (11, MO ma sv_thrown sv_length sv_nodes sv_many sv_directories sv_runsFrom sv_runs sv_read sv_wrong sv_isNamed sv_goes sv_goesSize sv_goesAt sv_targetParts sv_isRoot)), ((ma 0), .inl (cB, 400, .inl fX)), ((ma 2), .inl (cI, 40, .inl fP)), ((ma 8), .inl (cB, 1200, .inl fN)), ((ma 9), .inl (cI, 40, .inl fNS))]) [0, 1, 2, 3, 4] (by decide +kernel) rfl
      exact W.zret (v := iz) hx hb hr (by first | rfl | decide | exact i_narZ (by omega)) (fun t ht hW => ⟨⟨iz, (), rfl, ⟨(by (try dsimp only); first | assumption | omega | trivial), (fun h7 k h1 h2 h3 => f6 h7 k h1 (by omega) h3), ((Decidable.em (iz.toInt = 0)).elim (fun h7 => Or.inr ⟨h7, fun h8 => by obtain ⟨k, h1, h2, h3, h4⟩ := h8; exact f6 h7 k h1 (by omega) h3 h4⟩) (fun h7 => Or.inl ⟨by omega, f7 h7⟩))⟩, by rw [ht]; exact hP9, hD9⟩, hS.F ht⟩) hS.2.2 d_DiscMakerModel_isThere_96
    · skip
      have g11_8 : ¬ sv_nodes.toInt ≤ kx.toInt := fun h8 => h_9 ((i_le rfl rfl).mpr h8)
      refine lv_iload_n hx hb d_DiscMakerModel_isThere_14 rfl (lv_at hl 3 rfl) ?_
      refine lv_if_ne (tgt := 95) hx hb d_DiscMakerModel_isThere_15 (by decide) (fun h_9 => ?_) (fun h_9 => ?_)
      · skip
        have g15_12 : ¬ iz.toInt = 0 := fun h8 => h_9 ((i_eq rfl (by decide)).mpr h8)
        refine lv_iload_n hx hb d_DiscMakerModel_isThere_95 rfl (lv_at hl 3 rfl) ?_
        have hP9 := hP.sub (ws' := [(h0, .inr (11, MO ma sv_thrown sv_length sv_nodes sv_many sv_directories sv_runsFrom sv_runs sv_read sv_wrong sv_isNamed sv_goes sv_goesSize sv_goesAt sv_targetParts sv_isRoot)), ((ma 0), .inl (cB, 400, .inl fX)), ((ma 2), .inl (cI, 40, .inl fP)), ((ma 8), .inl (cB, 1200, .inl fN)), ((ma 9), .inl (cI, 40, .inl fNS))]) [0, 1, 2, 3, 4] rfl
        have hD9 := hD.sub (ws' := [(h0, .inr (11, MO ma sv_thrown sv_length sv_nodes sv_many sv_directories sv_runsFrom sv_runs sv_read sv_wrong sv_isNamed sv_goes sv_goesSize sv_goesAt sv_targetParts sv_isRoot)), ((ma 0), .inl (cB, 400, .inl fX)), ((ma 2), .inl (cI, 40, .inl fP)), ((ma 8), .inl (cB, 1200, .inl fN)), ((ma 9), .inl (cI, 40, .inl fNS))]) [0, 1, 2, 3, 4] (by decide +kernel) rfl
        exact W.zret (v := iz) hx hb hr (by first | rfl | decide | exact i_narZ (by omega)) (fun t ht hW => ⟨⟨iz, (), rfl, ⟨(by (try dsimp only); first | assumption | omega | trivial), (fun h7 k h1 h2 h3 => f6 h7 k h1 (by omega) h3), ((Decidable.em (iz.toInt = 0)).elim (fun h7 => Or.inr ⟨h7, fun h8 => by obtain ⟨k, h1, h2, h3, h4⟩ := h8; exact f6 h7 k h1 (by omega) h3 h4⟩) (fun h7 => Or.inl ⟨by omega, f7 h7⟩))⟩, by rw [ht]; exact hP9, hD9⟩, hS.F ht⟩) hS.2.2 d_DiscMakerModel_isThere_96
      · skip
        have g15_12 : iz.toInt = 0 := (i_eq rfl (by decide)).mp h_9
        refine zz_labM (B := fun (lk : Nat) (K : Heap → List Loc → Array Slot → List Value → Prop) => ∀ (ja : Int32) (H : Heap) (locs : List Loc) (ls : Array Slot), lk = 0 → (0 ≤ ja.toInt ∧ ja.toInt ≤ 1) → (ja.toInt = 0 → (fP kx.toNatClampNeg).toInt = x.toInt → ¬ ((fNS kx.toNatClampNeg).toInt = y.toInt ∧ ∀ i : Nat, (i : Int) < y.toInt → nmF fN fNS kx.toNatClampNeg i = (fX i).toInt)) → (ja.toInt ≠ 0 → (fP kx.toNatClampNeg).toInt = x.toInt ∧ (fNS kx.toNatClampNeg).toInt = y.toInt) → va_P D CL [(h0, .inr (11, MO ma sv_thrown sv_length sv_nodes sv_many sv_directories sv_runsFrom sv_runs sv_read sv_wrong sv_isNamed sv_goes sv_goesSize sv_goesAt sv_targetParts sv_isRoot)), ((ma 0), .inl (cB, 400, .inl fX)), ((ma 2), .inl (cI, 40, .inl fP)), ((ma 8), .inl (cB, 1200, .inl fN)), ((ma 9), .inl (cI, 40, .inl fNS))] H → va_D A [(h0, .inr (11, MO ma sv_thrown sv_length sv_nodes sv_many sv_directories sv_runsFrom sv_runs sv_read sv_wrong sv_isNamed sv_goes sv_goesSize sv_goesAt sv_targetParts sv_isRoot)), ((ma 0), .inl (cB, 400, .inl fX)), ((ma 2), .inl (cI, 40, .inl fP)), ((ma 8), .inl (cB, 1200, .inl fN)), ((ma 9), .inl (cI, 40, .inl fNS))] → va_S A s.heap H locs → lv_has ls 6 [(0, .ref h0), (1, .int x), (2, .int y), (3, .int iz), (4, .int kx)] → K H locs ls [.int ja]) 45 ?_ ?_
        · skip
          intro lk ih45 ja H locs ls hm45 f3 f9 f13 hP hD hS hl
          refine lv_istore_n hx hb d_DiscMakerModel_isThere_45 rfl hl (by decide) rfl (fun ls hl => ?_)
          have hl : lv_has ls 6 [(3, .int ja), (0, .ref h0), (1, .int x), (2, .int y), (4, .int kx)] := hl
          refine lv_iconst (v := 0) hx hb d_DiscMakerModel_isThere_46 (by decide) ?_
          refine lv_istore hx hb d_DiscMakerModel_isThere_47 hl (by decide) rfl (fun ls hl => ?_)
          have hl : lv_has ls 6 [(5, .int 0), (3, .int ja), (0, .ref h0), (1, .int x), (2, .int y), (4, .int kx)] := hl
          refine zz_labM (B := fun (lk : Nat) (K : Heap → List Loc → Array Slot → List Value → Prop) => ∀ (ib : Int32) (ky : Int32) (H : Heap) (locs : List Loc) (ls : Array Slot), lk = (y.toInt - ky.toInt).toNat → (0 ≤ ib.toInt ∧ ib.toInt ≤ 1) → (0 ≤ ky.toInt ∧ ky.toInt ≤ y.toInt) → (ib.toInt = 0 → (fP kx.toNatClampNeg).toInt = x.toInt → ¬ ((fNS kx.toNatClampNeg).toInt = y.toInt ∧ ∀ i : Nat, (i : Int) < y.toInt → nmF fN fNS kx.toNatClampNeg i = (fX i).toInt)) → (ib.toInt ≠ 0 → (fP kx.toNatClampNeg).toInt = x.toInt ∧ (fNS kx.toNatClampNeg).toInt = y.toInt ∧ ∀ i : Nat, (i : Int) < ky.toInt → nmF fN fNS kx.toNatClampNeg i = (fX i).toInt) → va_P D CL [(h0, .inr (11, MO ma sv_thrown sv_length sv_nodes sv_many sv_directories sv_runsFrom sv_runs sv_read sv_wrong sv_isNamed sv_goes sv_goesSize sv_goesAt sv_targetParts sv_isRoot)), ((ma 0), .inl (cB, 400, .inl fX)), ((ma 2), .inl (cI, 40, .inl fP)), ((ma 8), .inl (cB, 1200, .inl fN)), ((ma 9), .inl (cI, 40, .inl fNS))] H → va_D A [(h0, .inr (11, MO ma sv_thrown sv_length sv_nodes sv_many sv_directories sv_runsFrom sv_runs sv_read sv_wrong sv_isNamed sv_goes sv_goesSize sv_goesAt sv_targetParts sv_isRoot)), ((ma 0), .inl (cB, 400, .inl fX)), ((ma 2), .inl (cI, 40, .inl fP)), ((ma 8), .inl (cB, 1200, .inl fN)), ((ma 9), .inl (cI, 40, .inl fNS))] → va_S A s.heap H locs → lv_has ls 6 [(0, .ref h0), (1, .int x), (2, .int y), (3, .int ib), (4, .int kx), (5, .int ky)] → K H locs ls []) 49 ?_ ?_
          · skip
            intro lk ih49 ib ky H locs ls hm49 f4 f5 f8 f12 hP hD hS hl
            refine lv_iload hx hb d_DiscMakerModel_isThere_49 (lv_at hl 5 rfl) ?_
            refine lv_iload_n hx hb d_DiscMakerModel_isThere_51 rfl (lv_at hl 2 rfl) ?_
            refine lv_icmp_ge (tgt := 89) hx hb d_DiscMakerModel_isThere_52 (by decide) (fun h_9 => ?_) (fun h_9 => ?_)
            · skip
              have g52_20 : y.toInt ≤ ky.toInt := (i_le rfl rfl).mp h_9
              obtain ⟨v1, e_v1⟩ : ∃ z : Int32, z = kx + 1 := ⟨_, rfl⟩
              refine lv_iinc (v := v1) hx hb d_DiscMakerModel_isThere_89 hl (k := 4) rfl e_v1.symm (by decide +kernel) rfl (fun ls hl => ?_)
              have t_v1 : v1.toInt = kx.toInt + 1 := by rw [e_v1]; exact i_add rfl (by decide) (by omega) (by omega)
              have hl : lv_has ls 6 [(4, .int v1), (0, .ref h0), (1, .int x), (2, .int y), (3, .int ib), (5, .int ky)] := hl
              refine lv_goto (tgt := 5) hx hb d_DiscMakerModel_isThere_92 (by decide) ?_
              have hP := hP.sub (ws' := [(h0, .inr (11, MO ma sv_thrown sv_length sv_nodes sv_many sv_directories sv_runsFrom sv_runs sv_read sv_wrong sv_isNamed sv_goes sv_goesSize sv_goesAt sv_targetParts sv_isRoot)), ((ma 0), .inl (cB, 400, .inl fX)), ((ma 2), .inl (cI, 40, .inl fP)), ((ma 8), .inl (cB, 1200, .inl fN)), ((ma 9), .inl (cI, 40, .inl fNS))]) [0, 1, 2, 3, 4] rfl
              have hD := hD.sub (ws' := [(h0, .inr (11, MO ma sv_thrown sv_length sv_nodes sv_many sv_directories sv_runsFrom sv_runs sv_read sv_wrong sv_isNamed sv_goes sv_goesSize sv_goesAt sv_targetParts sv_isRoot)), ((ma 0), .inl (cB, 400, .inl fX)), ((ma 2), .inl (cI, 40, .inl fP)), ((ma 8), .inl (cB, 1200, .inl fN)), ((ma 9), .inl (cI, 40, .inl fNS))]) [0, 1, 2, 3, 4] (by decide +kernel) rfl
              have hl := lv_sub hl [1, 2, 3, 4, 0] rfl
              exact ih5 _ (by first | omega | (dsimp only; omega)) ib v1 _ _ _ rfl ((by (try dsimp only); first | assumption | omega | trivial)) ((by (try dsimp only); first | assumption | omega | trivial)) ((fun h7 k h1 h2 h3 => (Decidable.em (k = kx.toNatClampNeg)).elim (fun e => by subst e; exact f8 h7 h3) (fun e => f6 (by omega) k h1 (by have := i_cl (a := kx) (by omega); omega) h3))) ((fun h7 => ⟨kx.toNatClampNeg, by have := i_cl (a := kx) (by omega); omega, by have := i_cl (a := kx) (by omega); omega, (f12 h7).1, (f12 h7).2.1, fun j hj => (f12 h7).2.2 j (by omega)⟩)) hP hD hS hl
            · skip
              have g52_20 : ¬ y.toInt ≤ ky.toInt := fun h8 => h_9 ((i_le rfl rfl).mpr h8)
              refine lv_iload_n hx hb d_DiscMakerModel_isThere_55 rfl (lv_at hl 3 rfl) ?_
              refine lv_if_eq (tgt := 89) hx hb d_DiscMakerModel_isThere_56 (by decide) (fun h_9 => ?_) (fun h_9 => ?_)
              · skip
                have g56_25 : ib.toInt = 0 := (i_eq rfl (by decide)).mp h_9
                obtain ⟨v2, e_v2⟩ : ∃ z : Int32, z = kx + 1 := ⟨_, rfl⟩
                refine lv_iinc (v := v2) hx hb d_DiscMakerModel_isThere_89 hl (k := 4) rfl e_v2.symm (by decide +kernel) rfl (fun ls hl => ?_)
                have t_v2 : v2.toInt = kx.toInt + 1 := by rw [e_v2]; exact i_add rfl (by decide) (by omega) (by omega)
                have hl : lv_has ls 6 [(4, .int v2), (0, .ref h0), (1, .int x), (2, .int y), (3, .int ib), (5, .int ky)] := hl
                refine lv_goto (tgt := 5) hx hb d_DiscMakerModel_isThere_92 (by decide) ?_
                have hP := hP.sub (ws' := [(h0, .inr (11, MO ma sv_thrown sv_length sv_nodes sv_many sv_directories sv_runsFrom sv_runs sv_read sv_wrong sv_isNamed sv_goes sv_goesSize sv_goesAt sv_targetParts sv_isRoot)), ((ma 0), .inl (cB, 400, .inl fX)), ((ma 2), .inl (cI, 40, .inl fP)), ((ma 8), .inl (cB, 1200, .inl fN)), ((ma 9), .inl (cI, 40, .inl fNS))]) [0, 1, 2, 3, 4] rfl
                have hD := hD.sub (ws' := [(h0, .inr (11, MO ma sv_thrown sv_length sv_nodes sv_many sv_directories sv_runsFrom sv_runs sv_read sv_wrong sv_isNamed sv_goes sv_goesSize sv_goesAt sv_targetParts sv_isRoot)), ((ma 0), .inl (cB, 400, .inl fX)), ((ma 2), .inl (cI, 40, .inl fP)), ((ma 8), .inl (cB, 1200, .inl fN)), ((ma 9), .inl (cI, 40, .inl fNS))]) [0, 1, 2, 3, 4] (by decide +kernel) rfl
                have hl := lv_sub hl [1, 2, 3, 4, 0] rfl
                exact ih5 _ (by first | omega | (dsimp only; omega)) ib v2 _ _ _ rfl ((by (try dsimp only); first | assumption | omega | trivial)) ((by (try dsimp only); first | assumption | omega | trivial)) ((fun h7 k h1 h2 h3 => (Decidable.em (k = kx.toNatClampNeg)).elim (fun e => by subst e; exact f8 h7 h3) (fun e => f6 (by omega) k h1 (by have := i_cl (a := kx) (by omega); omega) h3))) ((fun h7 => ⟨kx.toNatClampNeg, by have := i_cl (a := kx) (by omega); omega, by have := i_cl (a := kx) (by omega); omega, (f12 h7).1, (f12 h7).2.1, fun j hj => (f12 h7).2.2 j (by omega)⟩)) hP hD hS hl
              · skip
                have g56_25 : ¬ ib.toInt = 0 := fun h8 => h_9 ((i_eq rfl (by decide)).mpr h8)
                refine lv_aload_n hx hb d_DiscMakerModel_isThere_59 rfl (lv_at hl 0 rfl) ?_
                refine lv_iload hx hb d_DiscMakerModel_isThere_60 (lv_at hl 4 rfl) ?_
                refine lv_iload hx hb d_DiscMakerModel_isThere_62 (lv_at hl 5 rfl) ?_
                have hPc := hP.sub (ws' := [(h0, .inr (11, MO ma sv_thrown sv_length sv_nodes sv_many sv_directories sv_runsFrom sv_runs sv_read sv_wrong sv_isNamed sv_goes sv_goesSize sv_goesAt sv_targetParts sv_isRoot)), ((ma 8), .inl (cB, 1200, .inl fN)), ((ma 9), .inl (cI, 40, .inl fNS))]) [0, 3, 4] rfl
                have hDc := hD.sub (ws' := [(h0, .inr (11, MO ma sv_thrown sv_length sv_nodes sv_many sv_directories sv_runsFrom sv_runs sv_read sv_wrong sv_isNamed sv_goes sv_goesSize sv_goesAt sv_targetParts sv_isRoot)), ((ma 8), .inl (cB, 1200, .inl fN)), ((ma 9), .inl (cI, 40, .inl fNS))]) [0, 3, 4] (by decide +kernel) rfl
                have hFc := va_free (wc := [(h0, .inr (11, MO ma sv_thrown sv_length sv_nodes sv_many sv_directories sv_runsFrom sv_runs sv_read sv_wrong sv_isNamed sv_goes sv_goesSize sv_goesAt sv_targetParts sv_isRoot)), ((ma 8), .inl (cB, 1200, .inl fN)), ((ma 9), .inl (cI, 40, .inl fNS))]) hD hS hA [0, 3, 4] rfl
                have hkc : 0 ≤ 0 := by decide
                have hks : 0 ≤ 0 := by decide
                refine va_calli (va_runV (C := "DiscMakerModel") (As := [.int kx, .int ky]) (rest := []) ⟨hx, hb, hml, hown, hts⟩ (m_nameOf l D cB cI cJ cZ cN cF H.size h0 ma sv_thrown sv_length sv_nodes sv_many sv_directories sv_runsFrom sv_runs sv_read sv_wrong sv_isNamed sv_goes sv_goesSize sv_goesAt sv_targetParts sv_isRoot fN fNS kx ky (by (try dsimp only); first | assumption | omega | trivial) (by (try dsimp only); first | assumption | omega | trivial) (by (try dsimp only); first | assumption | omega | trivial)) (cwV 2 hts (lg_goodV k1616 k1618 k56 k125 kc_DiscMakerModel_nameOf) rfl rfl rfl (by decide +kernel) ⟨Nat.le_of_ble_eq_true rfl, Nat.le_of_ble_eq_true rfl⟩) ⟨fun a U g mk q => by obtain ⟨q0, q1, qP, qK, qN, qD⟩ := q; exact ⟨q0, q1, qP, va_K.moved (u := U) (U := U.calling g mk a) (Vm.Alike.refl U.vm) qK, qN.calling, qD⟩, va_recv hK hP (ci := 11) (q0 := 0) rfl rfl, fun U hU hW => ⟨rfl, by rw [hU], by rw [hU]; exact hPc, va_K.moved hW.alike hK, NN.warm hW hN, hDc.weaken (fun _ _ _ _ => trivial)⟩⟩ rfl rfl hl.1 rfl (lv_room (Nat.le_of_ble_eq_true rfl)) d_DiscMakerModel_isThere_64 ⟨hkc, hks⟩) hS (fun q _ h => hFc q h) hFc (fun r3 u t H1 locs ht hvm hp_r3 hB hz1 hk1 hS => ?_)
                obtain ⟨hP1, hD1⟩ := hB
                rw [ht] at hP1
                obtain ⟨hP, hD⟩ := va_join (wr := [((ma 0), .inl (cB, 400, .inl fX)), ((ma 2), .inl (cI, 40, .inl fP))]) (w1 := [(h0, .inr (11, MO ma sv_thrown sv_length sv_nodes sv_many sv_directories sv_runsFrom sv_runs sv_read sv_wrong sv_isNamed sv_goes sv_goesSize sv_goesAt sv_targetParts sv_isRoot)), ((ma 8), .inl (cB, 1200, .inl fN)), ((ma 9), .inl (cI, 40, .inl fNS))]) hP hD [0, 3, 4] [1, 2] rfl rfl (by decide +kernel) (by decide +kernel) hk1 hFc hP1 hD1
                clear hPc hDc hFc hP1 hD1 hk1 hz1 hkc hks
                generalize H1 = H at hP hS ⊢
                have hP : va_P D CL [((ma 0), .inl (cB, 400, .inl fX)), ((ma 2), .inl (cI, 40, .inl fP)), (h0, .inr (11, MO ma sv_thrown sv_length sv_nodes sv_many sv_directories sv_runsFrom sv_runs sv_read sv_wrong sv_isNamed sv_goes sv_goesSize sv_goesAt sv_targetParts sv_isRoot)), ((ma 8), .inl (cB, 1200, .inl fN)), ((ma 9), .inl (cI, 40, .inl fNS))] H := hP
                have hD : va_D A [((ma 0), .inl (cB, 400, .inl fX)), ((ma 2), .inl (cI, 40, .inl fP)), (h0, .inr (11, MO ma sv_thrown sv_length sv_nodes sv_many sv_directories sv_runsFrom sv_runs sv_read sv_wrong sv_isNamed sv_goes sv_goesSize sv_goesAt sv_targetParts sv_isRoot)), ((ma 8), .inl (cB, 1200, .inl fN)), ((ma 9), .inl (cI, 40, .inl fNS))] := hD
                try dsimp only at hp_r3
                obtain ⟨hr_4, hv_5⟩ := hp_r3
                refine lv_aload_n hx hb d_DiscMakerModel_isThere_67 rfl (lv_at hl 0 rfl) ?_
                refine va_get (D := D) (ci := 11) (v := .ref (ma 0)) (C := "DiscMakerModel") (T := F_DiscMakerModel) (N := 48) hx hb ht9 in_DiscMakerModel hown hK hP 2 rfl rfl 1 (by decide) (ht9 _ k1432) (fun _ h9 => h9) rfl d_DiscMakerModel_isThere_68 ?_
                refine lv_iload hx hb d_DiscMakerModel_isThere_71 (lv_at hl 5 rfl) ?_
                refine va_bald hx hb hK hP 0 0 rfl rfl (vp_in_iff.mpr ⟨by omega, by omega⟩) d_DiscMakerModel_isThere_73 ?_
                refine lv_topi (fun v6 e_v6 => ?_)
                refine lv_icmp_ne (tgt := 81) hx hb d_DiscMakerModel_isThere_74 (by decide) (fun h_9 => ?_) (fun h_9 => ?_)
                · skip
                  have g74_37 : ¬ r3.toInt = v6.toInt := fun h8 => h_9 ((i_eq rfl rfl).mpr h8)
                  refine lv_iconst (v := 0) hx hb d_DiscMakerModel_isThere_81 (by decide) ?_
                  refine lv_istore_n hx hb d_DiscMakerModel_isThere_82 rfl hl (by decide) rfl (fun ls hl => ?_)
                  have hl : lv_has ls 6 [(3, .int 0), (0, .ref h0), (1, .int x), (2, .int y), (4, .int kx), (5, .int ky)] := hl
                  obtain ⟨v7, e_v7⟩ : ∃ z : Int32, z = ky + 1 := ⟨_, rfl⟩
                  refine lv_iinc (v := v7) hx hb d_DiscMakerModel_isThere_83 hl (k := 5) rfl e_v7.symm (by decide +kernel) rfl (fun ls hl => ?_)
                  have t_v7 : v7.toInt = ky.toInt + 1 := by rw [e_v7]; exact i_add rfl (by decide) (by omega) (by omega)
                  have hl : lv_has ls 6 [(5, .int v7), (3, .int 0), (0, .ref h0), (1, .int x), (2, .int y), (4, .int kx)] := hl
                  refine lv_goto (tgt := 49) hx hb d_DiscMakerModel_isThere_86 (by decide) ?_
                  have hP := hP.sub (ws' := [(h0, .inr (11, MO ma sv_thrown sv_length sv_nodes sv_many sv_directories sv_runsFrom sv_runs sv_read sv_wrong sv_isNamed sv_goes sv_goesSize sv_goesAt sv_targetParts sv_isRoot)), ((ma 0), .inl (cB, 400, .inl fX)), ((ma 2), .inl (cI, 40, .inl fP)), ((ma 8), .inl (cB, 1200, .inl fN)), ((ma 9), .inl (cI, 40, .inl fNS))]) [2, 0, 1, 3, 4] rfl
                  have hD := hD.sub (ws' := [(h0, .inr (11, MO ma sv_thrown sv_length sv_nodes sv_many sv_directories sv_runsFrom sv_runs sv_read sv_wrong sv_isNamed sv_goes sv_goesSize sv_goesAt sv_targetParts sv_isRoot)), ((ma 0), .inl (cB, 400, .inl fX)), ((ma 2), .inl (cI, 40, .inl fP)), ((ma 8), .inl (cB, 1200, .inl fN)), ((ma 9), .inl (cI, 40, .inl fNS))]) [2, 0, 1, 3, 4] (by decide +kernel) rfl
                  have hl := lv_sub hl [2, 3, 4, 1, 5, 0] rfl
                  exact ih49 _ (by first | omega | (dsimp only; omega)) 0 v7 _ _ _ rfl ((by (try dsimp only); first | assumption | omega | trivial)) ((by (try dsimp only); first | assumption | omega | trivial)) ((fun _ _ h8 => by have h9 := h8.2 ky.toNatClampNeg (by have := i_cl (a := ky) (by omega); omega); rw [← e_v6] at h9; omega)) ((by intro h7; exfalso; omega)) hP hD hS hl
                · skip
                  have g74_37 : r3.toInt = v6.toInt := (i_eq rfl rfl).mp h_9
                  refine lv_iconst (v := 1) hx hb d_DiscMakerModel_isThere_77 (by decide) ?_
                  refine lv_goto (tgt := 82) hx hb d_DiscMakerModel_isThere_78 (by decide) ?_
                  refine lv_istore_n hx hb d_DiscMakerModel_isThere_82 rfl hl (by decide) rfl (fun ls hl => ?_)
                  have hl : lv_has ls 6 [(3, .int 1), (0, .ref h0), (1, .int x), (2, .int y), (4, .int kx), (5, .int ky)] := hl
                  obtain ⟨v8, e_v8⟩ : ∃ z : Int32, z = ky + 1 := ⟨_, rfl⟩
                  refine lv_iinc (v := v8) hx hb d_DiscMakerModel_isThere_83 hl (k := 5) rfl e_v8.symm (by decide +kernel) rfl (fun ls hl => ?_)
                  have t_v8 : v8.toInt = ky.toInt + 1 := by rw [e_v8]; exact i_add rfl (by decide) (by omega) (by omega)
                  have hl : lv_has ls 6 [(5, .int v8), (3, .int 1), (0, .ref h0), (1, .int x), (2, .int y), (4, .int kx)] := hl
                  refine lv_goto (tgt := 49) hx hb d_DiscMakerModel_isThere_86 (by decide) ?_
                  have hP := hP.sub (ws' := [(h0, .inr (11, MO ma sv_thrown sv_length sv_nodes sv_many sv_directories sv_runsFrom sv_runs sv_read sv_wrong sv_isNamed sv_goes sv_goesSize sv_goesAt sv_targetParts sv_isRoot)), ((ma 0), .inl (cB, 400, .inl fX)), ((ma 2), .inl (cI, 40, .inl fP)), ((ma 8), .inl (cB, 1200, .inl fN)), ((ma 9), .inl (cI, 40, .inl fNS))]) [2, 0, 1, 3, 4] rfl
                  have hD := hD.sub (ws' := [(h0, .inr (11, MO ma sv_thrown sv_length sv_nodes sv_many sv_directories sv_runsFrom sv_runs sv_read sv_wrong sv_isNamed sv_goes sv_goesSize sv_goesAt sv_targetParts sv_isRoot)), ((ma 0), .inl (cB, 400, .inl fX)), ((ma 2), .inl (cI, 40, .inl fP)), ((ma 8), .inl (cB, 1200, .inl fN)), ((ma 9), .inl (cI, 40, .inl fNS))]) [2, 0, 1, 3, 4] (by decide +kernel) rfl
                  have hl := lv_sub hl [2, 3, 4, 1, 5, 0] rfl
                  exact ih49 _ (by first | omega | (dsimp only; omega)) 1 v8 _ _ _ rfl ((by (try dsimp only); first | assumption | omega | trivial)) ((by (try dsimp only); first | assumption | omega | trivial)) ((by intro h7; exfalso; omega)) ((fun _ => ⟨(f12 (by omega)).1, (f12 (by omega)).2.1, fun i hi => (Decidable.em (i = ky.toNatClampNeg)).elim (fun e => by subst e; rw [← hv_5, ← e_v6]; omega) (fun e => (f12 (by omega)).2.2 i (by have := i_cl (a := ky) (by omega); omega))⟩)) hP hD hS hl
          · skip
            intro kk49
            have hP := hP.sub (ws' := [(h0, .inr (11, MO ma sv_thrown sv_length sv_nodes sv_many sv_directories sv_runsFrom sv_runs sv_read sv_wrong sv_isNamed sv_goes sv_goesSize sv_goesAt sv_targetParts sv_isRoot)), ((ma 0), .inl (cB, 400, .inl fX)), ((ma 2), .inl (cI, 40, .inl fP)), ((ma 8), .inl (cB, 1200, .inl fN)), ((ma 9), .inl (cI, 40, .inl fNS))]) [0, 1, 2, 3, 4] rfl
            have hD := hD.sub (ws' := [(h0, .inr (11, MO ma sv_thrown sv_length sv_nodes sv_many sv_directories sv_runsFrom sv_runs sv_read sv_wrong sv_isNamed sv_goes sv_goesSize sv_goesAt sv_targetParts sv_isRoot)), ((ma 0), .inl (cB, 400, .inl fX)), ((ma 2), .inl (cI, 40, .inl fP)), ((ma 8), .inl (cB, 1200, .inl fN)), ((ma 9), .inl (cI, 40, .inl fNS))]) [0, 1, 2, 3, 4] (by decide +kernel) rfl
            have hl := lv_sub hl [2, 3, 4, 1, 5, 0] rfl
            exact kk49 _ ja 0 _ _ _ rfl ((by (try dsimp only); first | assumption | omega | trivial)) ((by (try dsimp only); first | assumption | omega | trivial)) (f9) ((fun h7 => ⟨(f13 h7).1, (f13 h7).2, fun i hi => absurd hi (by omega)⟩)) hP hD hS hl
        · skip
          intro kk45
          refine lv_aload_n hx hb d_DiscMakerModel_isThere_18 rfl (lv_at hl 0 rfl) ?_
          refine va_get (D := D) (ci := 11) (v := .ref (ma 2)) (C := "DiscMakerModel") (T := F_DiscMakerModel) (N := 48) hx hb ht9 in_DiscMakerModel hown hK hP 0 rfl rfl 5 (by decide) (ht9 _ k1436) (fun _ h9 => h9) rfl d_DiscMakerModel_isThere_19 ?_
          refine lv_iload hx hb d_DiscMakerModel_isThere_22 (lv_at hl 4 rfl) ?_
          refine va_iald hx hb hK hP 2 1 rfl rfl (vp_in_iff.mpr ⟨by omega, by omega⟩) d_DiscMakerModel_isThere_24 ?_
          refine lv_topi (fun v9 e_v9 => ?_)
          refine lv_iload_n hx hb d_DiscMakerModel_isThere_25 rfl (lv_at hl 1 rfl) ?_
          refine lv_icmp_ne (tgt := 44) hx hb d_DiscMakerModel_isThere_26 (by decide) (fun h_9 => ?_) (fun h_9 => ?_)
          · skip
            have g26_54 : ¬ v9.toInt = x.toInt := fun h8 => h_9 ((i_eq rfl rfl).mpr h8)
            refine lv_iconst (v := 0) hx hb d_DiscMakerModel_isThere_44 (by decide) ?_
            have hP := hP.sub (ws' := [(h0, .inr (11, MO ma sv_thrown sv_length sv_nodes sv_many sv_directories sv_runsFrom sv_runs sv_read sv_wrong sv_isNamed sv_goes sv_goesSize sv_goesAt sv_targetParts sv_isRoot)), ((ma 0), .inl (cB, 400, .inl fX)), ((ma 2), .inl (cI, 40, .inl fP)), ((ma 8), .inl (cB, 1200, .inl fN)), ((ma 9), .inl (cI, 40, .inl fNS))]) [0, 1, 2, 3, 4] rfl
            have hD := hD.sub (ws' := [(h0, .inr (11, MO ma sv_thrown sv_length sv_nodes sv_many sv_directories sv_runsFrom sv_runs sv_read sv_wrong sv_isNamed sv_goes sv_goesSize sv_goesAt sv_targetParts sv_isRoot)), ((ma 0), .inl (cB, 400, .inl fX)), ((ma 2), .inl (cI, 40, .inl fP)), ((ma 8), .inl (cB, 1200, .inl fN)), ((ma 9), .inl (cI, 40, .inl fNS))]) [0, 1, 2, 3, 4] (by decide +kernel) rfl
            have hl := lv_sub hl [0, 1, 2, 3, 4] rfl
            exact kk45 _ 0 _ _ _ rfl ((by (try dsimp only); first | assumption | omega | trivial)) ((fun _ h8 _ => by rw [← e_v9] at h8; omega)) ((by intro h7; exfalso; omega)) hP hD hS hl
          · skip
            have g26_54 : v9.toInt = x.toInt := (i_eq rfl rfl).mp h_9
            refine lv_aload_n hx hb d_DiscMakerModel_isThere_29 rfl (lv_at hl 0 rfl) ?_
            refine va_get (D := D) (ci := 11) (v := .ref (ma 9)) (C := "DiscMakerModel") (T := F_DiscMakerModel) (N := 48) hx hb ht9 in_DiscMakerModel hown hK hP 0 rfl rfl 12 (by decide) (ht9 _ k1443) (fun _ h9 => h9) rfl d_DiscMakerModel_isThere_30 ?_
            refine lv_iload hx hb d_DiscMakerModel_isThere_33 (lv_at hl 4 rfl) ?_
            refine va_iald hx hb hK hP 4 1 rfl rfl (vp_in_iff.mpr ⟨by omega, by omega⟩) d_DiscMakerModel_isThere_35 ?_
            refine lv_topi (fun v10 e_v10 => ?_)
            have t_v10 : 0 ≤ v10.toInt ∧ v10.toInt ≤ 30 := by
              rw [e_v10]; exact hNS _ (by have := i_cl (a := kx) (by omega); omega)
            refine lv_iload_n hx hb d_DiscMakerModel_isThere_36 rfl (lv_at hl 2 rfl) ?_
            refine lv_icmp_ne (tgt := 44) hx hb d_DiscMakerModel_isThere_37 (by decide) (fun h_9 => ?_) (fun h_9 => ?_)
            · skip
              have g37_62 : ¬ v10.toInt = y.toInt := fun h8 => h_9 ((i_eq rfl rfl).mpr h8)
              refine lv_iconst (v := 0) hx hb d_DiscMakerModel_isThere_44 (by decide) ?_
              have hP := hP.sub (ws' := [(h0, .inr (11, MO ma sv_thrown sv_length sv_nodes sv_many sv_directories sv_runsFrom sv_runs sv_read sv_wrong sv_isNamed sv_goes sv_goesSize sv_goesAt sv_targetParts sv_isRoot)), ((ma 0), .inl (cB, 400, .inl fX)), ((ma 2), .inl (cI, 40, .inl fP)), ((ma 8), .inl (cB, 1200, .inl fN)), ((ma 9), .inl (cI, 40, .inl fNS))]) [0, 1, 2, 3, 4] rfl
              have hD := hD.sub (ws' := [(h0, .inr (11, MO ma sv_thrown sv_length sv_nodes sv_many sv_directories sv_runsFrom sv_runs sv_read sv_wrong sv_isNamed sv_goes sv_goesSize sv_goesAt sv_targetParts sv_isRoot)), ((ma 0), .inl (cB, 400, .inl fX)), ((ma 2), .inl (cI, 40, .inl fP)), ((ma 8), .inl (cB, 1200, .inl fN)), ((ma 9), .inl (cI, 40, .inl fNS))]) [0, 1, 2, 3, 4] (by decide +kernel) rfl
              have hl := lv_sub hl [0, 1, 2, 3, 4] rfl
              exact kk45 _ 0 _ _ _ rfl ((by (try dsimp only); first | assumption | omega | trivial)) ((fun _ _ h8 => by have h9 := h8.1; rw [← e_v10] at h9; omega)) ((by intro h7; exfalso; omega)) hP hD hS hl
            · skip
              have g37_62 : v10.toInt = y.toInt := (i_eq rfl rfl).mp h_9
              refine lv_iconst (v := 1) hx hb d_DiscMakerModel_isThere_40 (by decide) ?_
              refine lv_goto (tgt := 45) hx hb d_DiscMakerModel_isThere_41 (by decide) ?_
              have hP := hP.sub (ws' := [(h0, .inr (11, MO ma sv_thrown sv_length sv_nodes sv_many sv_directories sv_runsFrom sv_runs sv_read sv_wrong sv_isNamed sv_goes sv_goesSize sv_goesAt sv_targetParts sv_isRoot)), ((ma 0), .inl (cB, 400, .inl fX)), ((ma 2), .inl (cI, 40, .inl fP)), ((ma 8), .inl (cB, 1200, .inl fN)), ((ma 9), .inl (cI, 40, .inl fNS))]) [0, 1, 2, 3, 4] rfl
              have hD := hD.sub (ws' := [(h0, .inr (11, MO ma sv_thrown sv_length sv_nodes sv_many sv_directories sv_runsFrom sv_runs sv_read sv_wrong sv_isNamed sv_goes sv_goesSize sv_goesAt sv_targetParts sv_isRoot)), ((ma 0), .inl (cB, 400, .inl fX)), ((ma 2), .inl (cI, 40, .inl fP)), ((ma 8), .inl (cB, 1200, .inl fN)), ((ma 9), .inl (cI, 40, .inl fNS))]) [0, 1, 2, 3, 4] (by decide +kernel) rfl
              have hl := lv_sub hl [0, 1, 2, 3, 4] rfl
              exact kk45 _ 1 _ _ _ rfl ((by (try dsimp only); first | assumption | omega | trivial)) ((by intro h7; exfalso; omega)) ((fun _ => ⟨by rw [← e_v9]; omega, by rw [← e_v10]; omega⟩)) hP hD hS hl
  · skip
    intro kk5
    have hP := hP.sub (ws' := [(h0, .inr (11, MO ma sv_thrown sv_length sv_nodes sv_many sv_directories sv_runsFrom sv_runs sv_read sv_wrong sv_isNamed sv_goes sv_goesSize sv_goesAt sv_targetParts sv_isRoot)), ((ma 0), .inl (cB, 400, .inl fX)), ((ma 2), .inl (cI, 40, .inl fP)), ((ma 8), .inl (cB, 1200, .inl fN)), ((ma 9), .inl (cI, 40, .inl fNS))]) [0, 1, 2, 3, 4] rfl
    have hD := hD.sub (ws' := [(h0, .inr (11, MO ma sv_thrown sv_length sv_nodes sv_many sv_directories sv_runsFrom sv_runs sv_read sv_wrong sv_isNamed sv_goes sv_goesSize sv_goesAt sv_targetParts sv_isRoot)), ((ma 0), .inl (cB, 400, .inl fX)), ((ma 2), .inl (cI, 40, .inl fP)), ((ma 8), .inl (cB, 1200, .inl fN)), ((ma 9), .inl (cI, 40, .inl fNS))]) [0, 1, 2, 3, 4] (by decide +kernel) rfl
    have hl := lv_sub hl [2, 3, 4, 1, 0] rfl
    exact kk5 _ 0 1 _ _ _ rfl ((by (try dsimp only); first | assumption | omega | trivial)) ((by (try dsimp only); first | assumption | omega | trivial)) ((fun _ k h1 h2 => by omega)) ((by intro h7; exfalso; omega)) hP hD hS hl

theorem d_DiscMakerModel_depthOf_0 : decode b_DiscMakerModel_depthOf 0 = .ok (.iconst 0, 1) := by decide +kernel
theorem d_DiscMakerModel_depthOf_1 : decode b_DiscMakerModel_depthOf 1 = .ok (.istore_n 2, 1) := by decide +kernel
theorem d_DiscMakerModel_depthOf_2 : decode b_DiscMakerModel_depthOf 2 = .ok (.iload_n 1, 1) := by decide +kernel
theorem d_DiscMakerModel_depthOf_3 : decode b_DiscMakerModel_depthOf 3 = .ok (.istore_n 3, 1) := by decide +kernel
theorem d_DiscMakerModel_depthOf_4 : decode b_DiscMakerModel_depthOf 4 = .ok (.iload_n 3, 1) := by decide +kernel
theorem d_DiscMakerModel_depthOf_5 : decode b_DiscMakerModel_depthOf 5 = .ok (.ifCond .le 16, 3) := by decide +kernel
theorem d_DiscMakerModel_depthOf_8 : decode b_DiscMakerModel_depthOf 8 = .ok (.iinc 2 1, 3) := by decide +kernel
theorem d_DiscMakerModel_depthOf_11 : decode b_DiscMakerModel_depthOf 11 = .ok (.aload_n 0, 1) := by decide +kernel
theorem d_DiscMakerModel_depthOf_12 : decode b_DiscMakerModel_depthOf 12 = .ok (.getfield 17, 3) := by decide +kernel
theorem d_DiscMakerModel_depthOf_15 : decode b_DiscMakerModel_depthOf 15 = .ok (.iload_n 3, 1) := by decide +kernel
theorem d_DiscMakerModel_depthOf_16 : decode b_DiscMakerModel_depthOf 16 = .ok (.iaload, 1) := by decide +kernel
theorem d_DiscMakerModel_depthOf_17 : decode b_DiscMakerModel_depthOf 17 = .ok (.istore_n 3, 1) := by decide +kernel
theorem d_DiscMakerModel_depthOf_18 : decode b_DiscMakerModel_depthOf 18 = .ok (.goto (-14), 3) := by decide +kernel
theorem d_DiscMakerModel_depthOf_21 : decode b_DiscMakerModel_depthOf 21 = .ok (.iload_n 2, 1) := by decide +kernel
theorem d_DiscMakerModel_depthOf_22 : decode b_DiscMakerModel_depthOf 22 = .ok (.ireturn, 1) := by decide +kernel
set_option maxHeartbeats 4000000 in
set_option maxRecDepth 100000 in
theorem m_depthOf (l : Launch) (D : va_G) (cB cI cJ cZ cN cF : ClassId) (sz : Nat) (h0 : Nat) (ma : Nat → Nat) (sv_thrown sv_length sv_nodes sv_many sv_directories sv_runsFrom sv_runs sv_read sv_wrong sv_isNamed sv_goes sv_goesSize sv_goesAt sv_targetParts sv_isRoot : Int32) (fP : Nat → Int32) (x : Int32) (hn : 1 ≤ sv_nodes.toInt ∧ sv_nodes.toInt ≤ 40) (hx0 : 0 ≤ x.toInt ∧ x.toInt < sv_nodes.toInt) (hpp : ∀ k : Nat, 1 ≤ k → (k : Int) < sv_nodes.toInt → 0 ≤ (fP k).toInt ∧ (fP k).toInt < k) : Met l y_DiscMakerModel_depthOf w_DiscMakerModel_depthOf ({ frames := 0, cells := 0, slots := 0, locals := 0 }) (va_Pc [.ref h0, .int x] (fun U => U.heap.size = sz ∧ va_P D CL [(h0, .inr (11, MO ma sv_thrown sv_length sv_nodes sv_many sv_directories sv_runsFrom sv_runs sv_read sv_wrong sv_isNamed sv_goes sv_goesSize sv_goesAt sv_targetParts sv_isRoot)), ((ma 2), .inl (cI, 40, .inl fP))] U.heap ∧ va_K D CL (TY cB cI cJ cZ cN cF) U ∧ NN U ∧ va_D (fun _ => True) [(h0, .inr (11, MO ma sv_thrown sv_length sv_nodes sv_many sv_directories sv_runsFrom sv_runs sv_read sv_wrong sv_isNamed sv_goes sv_goesSize sv_goesAt sv_targetParts sv_isRoot)), ((ma 2), .inl (cI, 40, .inl fP))])) (va_Qi (fun (r : Int32) (u : Unit) => (r.toInt = depN fP 40 x.toNatClampNeg)) (fun (u : Unit) (t : State) => match u with | () => va_P D CL [(h0, .inr (11, MO ma sv_thrown sv_length sv_nodes sv_many sv_directories sv_runsFrom sv_runs sv_read sv_wrong sv_isNamed sv_goes sv_goesSize sv_goesAt sv_targetParts sv_isRoot)), ((ma 2), .inl (cI, 40, .inl fP))] t.heap ∧ va_D (va_A [(h0, .inr (11, MO ma sv_thrown sv_length sv_nodes sv_many sv_directories sv_runsFrom sv_runs sv_read sv_wrong sv_isNamed sv_goes sv_goesSize sv_goesAt sv_targetParts sv_isRoot)), ((ma 2), .inl (cI, 40, .inl fP))] sz) [(h0, .inr (11, MO ma sv_thrown sv_length sv_nodes sv_many sv_directories sv_runsFrom sv_runs sv_read sv_wrong sv_isNamed sv_goes sv_goesSize sv_goesAt sv_targetParts sv_isRoot)), ((ma 2), .inl (cI, 40, .inl fP))]) (va_A [(h0, .inr (11, MO ma sv_thrown sv_length sv_nodes sv_many sv_directories sv_runsFrom sv_runs sv_read sv_wrong sv_isNamed sv_goes sv_goesSize sv_goesAt sv_targetParts sv_isRoot)), ((ma 2), .inl (cI, 40, .inl fP))] sz)) 0 0 (va_A [(h0, .inr (11, MO ma sv_thrown sv_length sv_nodes sv_many sv_directories sv_runsFrom sv_runs sv_read sv_wrong sv_isNamed sv_goes sv_goesSize sv_goesAt sv_targetParts sv_isRoot)), ((ma 2), .inl (cI, 40, .inl fP))] sz) := by
  refine Met.ofW (cc := b_DiscMakerModel_depthOf) (maxL := 4) (ret := some .int) (by decide) rfl ?_
  intro p e s m args below meth c s₁ B hml hv
  obtain ⟨rfl, hsz, hP, hK, hN, hD0⟩ := hv
  have hx := B.exec
  have hb := B.bytes
  have hr := B.returns
  have hts := atoms_spec (ws := w_DiscMakerModel_depthOf) B.pre
  have ht9 := fun (w : Cond) (h : w ∈ lw_g) => hts w (List.mem_cons_of_mem _ h)
  have hown : s.vm.findClass "DiscMakerModel" = some m.cls := findClass_of_methodNamed B.named
  have hlocks := B.notSynchronized
  subst hsz
  have hD := hD0.self (sz := s.heap.size)
  generalize hAe : va_A [(h0, .inr (11, MO ma sv_thrown sv_length sv_nodes sv_many sv_directories sv_runsFrom sv_runs sv_read sv_wrong sv_isNamed sv_goes sv_goesSize sv_goesAt sv_targetParts sv_isRoot)), ((ma 2), .inl (cI, 40, .inl fP))] s.heap.size = A at hD ⊢
  have hA : ∀ q : Nat, s.heap.size ≤ q → A q := fun q h => by rw [← hAe]; exact Or.inr h
  have hS : va_S A s.heap s.heap [] := va_S.rf
  have hP : va_P D CL [(h0, .inr (11, MO ma sv_thrown sv_length sv_nodes sv_many sv_directories sv_runsFrom sv_runs sv_read sv_wrong sv_isNamed sv_goes sv_goesSize sv_goesAt sv_targetParts sv_isRoot)), ((ma 2), .inl (cI, 40, .inl fP))] s.heap := hP
  have hl := lv_entry [.ref h0, .int x] (n := 4) (Nat.le_of_ble_eq_true rfl)
  rw [lg_entry_eq]
  generalize (lg_sl [.ref h0, .int x] ++ List.replicate (4 - (lg_sl [.ref h0, .int x]).length) Slot.unset).toArray = ls at hl ⊢
  have hl : lv_has ls 4 [(0, .ref h0), (1, .int x)] := hl
  have L_m1 : ((-1) : Int32).toInt = (-1) := by decide
  have L_0 : (0 : Int32).toInt = 0 := by decide
  have L_1 : (1 : Int32).toInt = 1 := by decide
  refine lv_iconst (v := 0) hx hb d_DiscMakerModel_depthOf_0 (by decide) ?_
  refine lv_istore_n hx hb d_DiscMakerModel_depthOf_1 rfl hl (by decide) rfl (fun ls hl => ?_)
  have hl : lv_has ls 4 [(2, .int 0), (0, .ref h0), (1, .int x)] := hl
  refine lv_iload_n hx hb d_DiscMakerModel_depthOf_2 rfl (lv_at hl 2 rfl) ?_
  refine lv_istore_n hx hb d_DiscMakerModel_depthOf_3 rfl hl (by decide) rfl (fun ls hl => ?_)
  have hl : lv_has ls 4 [(3, .int x), (2, .int 0), (0, .ref h0), (1, .int x)] := hl
  refine zz_labM (B := fun (lk : Nat) (K : Heap → List Loc → Array Slot → List Value → Prop) => ∀ (nn : Int32) (lq : Int32) (H : Heap) (locs : List Loc) (ls : Array Slot), lk = lq.toInt.toNat → (0 ≤ lq.toInt ∧ lq.toInt < sv_nodes.toInt) → (0 ≤ nn.toInt ∧ nn.toInt + lq.toInt ≤ 40) → (nn.toInt + depN fP 40 lq.toNatClampNeg = depN fP 40 x.toNatClampNeg) → va_P D CL [(h0, .inr (11, MO ma sv_thrown sv_length sv_nodes sv_many sv_directories sv_runsFrom sv_runs sv_read sv_wrong sv_isNamed sv_goes sv_goesSize sv_goesAt sv_targetParts sv_isRoot)), ((ma 2), .inl (cI, 40, .inl fP))] H → va_D A [(h0, .inr (11, MO ma sv_thrown sv_length sv_nodes sv_many sv_directories sv_runsFrom sv_runs sv_read sv_wrong sv_isNamed sv_goes sv_goesSize sv_goesAt sv_targetParts sv_isRoot)), ((ma 2), .inl (cI, 40, .inl fP))] → va_S A s.heap H locs → lv_has ls 4 [(0, .ref h0), (1, .int x), (2, .int nn), (3, .int lq)] → K H locs ls []) 4 ?_ ?_
  · skip
    intro lk ih4 nn lq H locs ls hm4 f1 f2 f3 hP hD hS hl
    refine lv_iload_n hx hb d_DiscMakerModel_depthOf_4 rfl (lv_at hl 3 rfl) ?_
    refine lv_if_le (tgt := 21) hx hb d_DiscMakerModel_depthOf_5 (by decide) (fun h_9 => ?_) (fun h_9 => ?_)
    · skip
      have g5_6 : lq.toInt ≤ 0 := (i_le rfl (by decide)).mp h_9
      refine lv_iload_n hx hb d_DiscMakerModel_depthOf_21 rfl (lv_at hl 2 rfl) ?_
      have hP9 := hP.sub (ws' := [(h0, .inr (11, MO ma sv_thrown sv_length sv_nodes sv_many sv_directories sv_runsFrom sv_runs sv_read sv_wrong sv_isNamed sv_goes sv_goesSize sv_goesAt sv_targetParts sv_isRoot)), ((ma 2), .inl (cI, 40, .inl fP))]) [0, 1] rfl
      have hD9 := hD.sub (ws' := [(h0, .inr (11, MO ma sv_thrown sv_length sv_nodes sv_many sv_directories sv_runsFrom sv_runs sv_read sv_wrong sv_isNamed sv_goes sv_goesSize sv_goesAt sv_targetParts sv_isRoot)), ((ma 2), .inl (cI, 40, .inl fP))]) [0, 1] (by decide +kernel) rfl
      exact W.iret (v := nn) hx hb hr (fun t ht hW => ⟨⟨nn, (), rfl, (by (try dsimp only); have h7 := i_cl (a := lq) (by omega); (have h8 : lq.toNatClampNeg = 0 := by omega); rw [h8, depN_z] at f3; omega), by rw [ht]; exact hP9, hD9⟩, hS.F ht⟩) hS.2.2 d_DiscMakerModel_depthOf_22
    · skip
      have g5_6 : ¬ lq.toInt ≤ 0 := fun h8 => h_9 ((i_le rfl (by decide)).mpr h8)
      obtain ⟨v1, e_v1⟩ : ∃ z : Int32, z = nn + 1 := ⟨_, rfl⟩
      refine lv_iinc (v := v1) hx hb d_DiscMakerModel_depthOf_8 hl (k := 2) rfl e_v1.symm (by decide +kernel) rfl (fun ls hl => ?_)
      have t_v1 : v1.toInt = nn.toInt + 1 := by rw [e_v1]; exact i_add rfl (by decide) (by omega) (by omega)
      have hl : lv_has ls 4 [(2, .int v1), (0, .ref h0), (1, .int x), (3, .int lq)] := hl
      refine lv_aload_n hx hb d_DiscMakerModel_depthOf_11 rfl (lv_at hl 1 rfl) ?_
      refine va_get (D := D) (ci := 11) (v := .ref (ma 2)) (C := "DiscMakerModel") (T := F_DiscMakerModel) (N := 48) hx hb ht9 in_DiscMakerModel hown hK hP 0 rfl rfl 5 (by decide) (ht9 _ k1436) (fun _ h9 => h9) rfl d_DiscMakerModel_depthOf_12 ?_
      refine lv_iload_n hx hb d_DiscMakerModel_depthOf_15 rfl (lv_at hl 3 rfl) ?_
      refine va_iald hx hb hK hP 1 1 rfl rfl (vp_in_iff.mpr ⟨by omega, by omega⟩) d_DiscMakerModel_depthOf_16 ?_
      refine lv_topi (fun v2 e_v2 => ?_)
      have qv2 := hpp lq.toNatClampNeg (by have := i_cl (a := lq) (by omega); omega) (by have := i_cl (a := lq) (by omega); omega)
      rw [← e_v2] at qv2
      have qcv2 := i_cl (a := lq) (by omega)
      refine lv_istore_n hx hb d_DiscMakerModel_depthOf_17 rfl hl (by decide) rfl (fun ls hl => ?_)
      have hl : lv_has ls 4 [(3, .int v2), (2, .int v1), (0, .ref h0), (1, .int x)] := hl
      refine lv_goto (tgt := 4) hx hb d_DiscMakerModel_depthOf_18 (by decide) ?_
      have hP := hP.sub (ws' := [(h0, .inr (11, MO ma sv_thrown sv_length sv_nodes sv_many sv_directories sv_runsFrom sv_runs sv_read sv_wrong sv_isNamed sv_goes sv_goesSize sv_goesAt sv_targetParts sv_isRoot)), ((ma 2), .inl (cI, 40, .inl fP))]) [0, 1] rfl
      have hD := hD.sub (ws' := [(h0, .inr (11, MO ma sv_thrown sv_length sv_nodes sv_many sv_directories sv_runsFrom sv_runs sv_read sv_wrong sv_isNamed sv_goes sv_goesSize sv_goesAt sv_targetParts sv_isRoot)), ((ma 2), .inl (cI, 40, .inl fP))]) [0, 1] (by decide +kernel) rfl
      have hl := lv_sub hl [2, 3, 1, 0] rfl
      exact ih4 _ (by first | omega | (dsimp only; omega)) v1 v2 _ _ _ rfl ((by (try dsimp only); first | assumption | omega | trivial)) ((by (try dsimp only); first | assumption | omega | trivial)) ((by have h7 := i_cl (a := lq) (by omega); have h8 := depN_succ (k := lq.toNatClampNeg) hpp (by omega) (by omega) (by omega); rw [← e_v2] at h8; omega)) hP hD hS hl
  · skip
    intro kk4
    have hP := hP.sub (ws' := [(h0, .inr (11, MO ma sv_thrown sv_length sv_nodes sv_many sv_directories sv_runsFrom sv_runs sv_read sv_wrong sv_isNamed sv_goes sv_goesSize sv_goesAt sv_targetParts sv_isRoot)), ((ma 2), .inl (cI, 40, .inl fP))]) [0, 1] rfl
    have hD := hD.sub (ws' := [(h0, .inr (11, MO ma sv_thrown sv_length sv_nodes sv_many sv_directories sv_runsFrom sv_runs sv_read sv_wrong sv_isNamed sv_goes sv_goesSize sv_goesAt sv_targetParts sv_isRoot)), ((ma 2), .inl (cI, 40, .inl fP))]) [0, 1] (by decide +kernel) rfl
    have hl := lv_sub hl [2, 3, 1, 0] rfl
    exact kk4 _ 0 x _ _ _ rfl ((by (try dsimp only); first | assumption | omega | trivial)) ((by (try dsimp only); first | assumption | omega | trivial)) ((by (try dsimp only); first | assumption | omega | trivial)) hP hD hS hl

theorem d_DiscMakerModel_isIn_0 : decode b_DiscMakerModel_isIn 0 = .ok (.iload_n 1, 1) := by decide +kernel
theorem d_DiscMakerModel_isIn_1 : decode b_DiscMakerModel_isIn 1 = .ok (.ifCond .lt 24, 3) := by decide +kernel
theorem d_DiscMakerModel_isIn_4 : decode b_DiscMakerModel_isIn 4 = .ok (.iload_n 1, 1) := by decide +kernel
theorem d_DiscMakerModel_isIn_5 : decode b_DiscMakerModel_isIn 5 = .ok (.aload_n 0, 1) := by decide +kernel
theorem d_DiscMakerModel_isIn_6 : decode b_DiscMakerModel_isIn 6 = .ok (.getfield 114, 3) := by decide +kernel
theorem d_DiscMakerModel_isIn_9 : decode b_DiscMakerModel_isIn 9 = .ok (.if_icmp .ge 16, 3) := by decide +kernel
theorem d_DiscMakerModel_isIn_12 : decode b_DiscMakerModel_isIn 12 = .ok (.aload_n 0, 1) := by decide +kernel
theorem d_DiscMakerModel_isIn_13 : decode b_DiscMakerModel_isIn 13 = .ok (.getfield 13, 3) := by decide +kernel
theorem d_DiscMakerModel_isIn_16 : decode b_DiscMakerModel_isIn 16 = .ok (.iload_n 1, 1) := by decide +kernel
theorem d_DiscMakerModel_isIn_17 : decode b_DiscMakerModel_isIn 17 = .ok (.iaload, 1) := by decide +kernel
theorem d_DiscMakerModel_isIn_18 : decode b_DiscMakerModel_isIn 18 = .ok (.ifCond .ne 7, 3) := by decide +kernel
theorem d_DiscMakerModel_isIn_21 : decode b_DiscMakerModel_isIn 21 = .ok (.iconst 1, 1) := by decide +kernel
theorem d_DiscMakerModel_isIn_22 : decode b_DiscMakerModel_isIn 22 = .ok (.goto 4, 3) := by decide +kernel
theorem d_DiscMakerModel_isIn_25 : decode b_DiscMakerModel_isIn 25 = .ok (.iconst 0, 1) := by decide +kernel
theorem d_DiscMakerModel_isIn_26 : decode b_DiscMakerModel_isIn 26 = .ok (.ireturn, 1) := by decide +kernel
set_option maxHeartbeats 4000000 in
set_option maxRecDepth 100000 in
theorem m_isIn (l : Launch) (D : va_G) (cB cI cJ cZ cN cF : ClassId) (sz : Nat) (h0 : Nat) (ma : Nat → Nat) (sv_thrown sv_length sv_nodes sv_many sv_directories sv_runsFrom sv_runs sv_read sv_wrong sv_isNamed sv_goes sv_goesSize sv_goesAt sv_targetParts sv_isRoot : Int32) (fK : Nat → Int32) (x : Int32) (hn : 1 ≤ sv_nodes.toInt ∧ sv_nodes.toInt ≤ 40) : Met l y_DiscMakerModel_isIn w_DiscMakerModel_isIn ({ frames := 0, cells := 0, slots := 0, locals := 0 }) (va_Pc [.ref h0, .int x] (fun U => U.heap.size = sz ∧ va_P D CL [(h0, .inr (11, MO ma sv_thrown sv_length sv_nodes sv_many sv_directories sv_runsFrom sv_runs sv_read sv_wrong sv_isNamed sv_goes sv_goesSize sv_goesAt sv_targetParts sv_isRoot)), ((ma 1), .inl (cI, 40, .inl fK))] U.heap ∧ va_K D CL (TY cB cI cJ cZ cN cF) U ∧ NN U ∧ va_D (fun _ => True) [(h0, .inr (11, MO ma sv_thrown sv_length sv_nodes sv_many sv_directories sv_runsFrom sv_runs sv_read sv_wrong sv_isNamed sv_goes sv_goesSize sv_goesAt sv_targetParts sv_isRoot)), ((ma 1), .inl (cI, 40, .inl fK))])) (va_Qi (fun (r : Int32) (u : Unit) => (0 ≤ r.toInt ∧ r.toInt ≤ 1) ∧ (r.toInt ≠ 0 → 0 ≤ x.toInt ∧ x.toInt < sv_nodes.toInt ∧ (fK x.toNatClampNeg).toInt = 0) ∧ (BoolIs r (0 ≤ x.toInt ∧ x.toInt < sv_nodes.toInt ∧ (fK x.toNatClampNeg).toInt = 0))) (fun (u : Unit) (t : State) => match u with | () => va_P D CL [(h0, .inr (11, MO ma sv_thrown sv_length sv_nodes sv_many sv_directories sv_runsFrom sv_runs sv_read sv_wrong sv_isNamed sv_goes sv_goesSize sv_goesAt sv_targetParts sv_isRoot)), ((ma 1), .inl (cI, 40, .inl fK))] t.heap ∧ va_D (va_A [(h0, .inr (11, MO ma sv_thrown sv_length sv_nodes sv_many sv_directories sv_runsFrom sv_runs sv_read sv_wrong sv_isNamed sv_goes sv_goesSize sv_goesAt sv_targetParts sv_isRoot)), ((ma 1), .inl (cI, 40, .inl fK))] sz) [(h0, .inr (11, MO ma sv_thrown sv_length sv_nodes sv_many sv_directories sv_runsFrom sv_runs sv_read sv_wrong sv_isNamed sv_goes sv_goesSize sv_goesAt sv_targetParts sv_isRoot)), ((ma 1), .inl (cI, 40, .inl fK))]) (va_A [(h0, .inr (11, MO ma sv_thrown sv_length sv_nodes sv_many sv_directories sv_runsFrom sv_runs sv_read sv_wrong sv_isNamed sv_goes sv_goesSize sv_goesAt sv_targetParts sv_isRoot)), ((ma 1), .inl (cI, 40, .inl fK))] sz)) 0 0 (va_A [(h0, .inr (11, MO ma sv_thrown sv_length sv_nodes sv_many sv_directories sv_runsFrom sv_runs sv_read sv_wrong sv_isNamed sv_goes sv_goesSize sv_goesAt sv_targetParts sv_isRoot)), ((ma 1), .inl (cI, 40, .inl fK))] sz) := by
  refine Met.ofW (cc := b_DiscMakerModel_isIn) (maxL := 2) (ret := some .boolean) (by decide) rfl ?_
  intro p e s m args below meth c s₁ B hml hv
  obtain ⟨rfl, hsz, hP, hK, hN, hD0⟩ := hv
  have hx := B.exec
  have hb := B.bytes
  have hr := B.returns
  have hts := atoms_spec (ws := w_DiscMakerModel_isIn) B.pre
  have ht9 := fun (w : Cond) (h : w ∈ lw_g) => hts w (List.mem_cons_of_mem _ h)
  have hown : s.vm.findClass "DiscMakerModel" = some m.cls := findClass_of_methodNamed B.named
  have hlocks := B.notSynchronized
  subst hsz
  have hD := hD0.self (sz := s.heap.size)
  generalize hAe : va_A [(h0, .inr (11, MO ma sv_thrown sv_length sv_nodes sv_many sv_directories sv_runsFrom sv_runs sv_read sv_wrong sv_isNamed sv_goes sv_goesSize sv_goesAt sv_targetParts sv_isRoot)), ((ma 1), .inl (cI, 40, .inl fK))] s.heap.size = A at hD ⊢
  have hA : ∀ q : Nat, s.heap.size ≤ q → A q := fun q h => by rw [← hAe]; exact Or.inr h
  have hS : va_S A s.heap s.heap [] := va_S.rf
  have hP : va_P D CL [(h0, .inr (11, MO ma sv_thrown sv_length sv_nodes sv_many sv_directories sv_runsFrom sv_runs sv_read sv_wrong sv_isNamed sv_goes sv_goesSize sv_goesAt sv_targetParts sv_isRoot)), ((ma 1), .inl (cI, 40, .inl fK))] s.heap := hP
  have hl := lv_entry [.ref h0, .int x] (n := 2) (Nat.le_of_ble_eq_true rfl)
  rw [lg_entry_eq]
  generalize (lg_sl [.ref h0, .int x] ++ List.replicate (2 - (lg_sl [.ref h0, .int x]).length) Slot.unset).toArray = ls at hl ⊢
  have hl : lv_has ls 2 [(0, .ref h0), (1, .int x)] := hl
  have L_m1 : ((-1) : Int32).toInt = (-1) := by decide
  have L_0 : (0 : Int32).toInt = 0 := by decide
  have L_1 : (1 : Int32).toInt = 1 := by decide
  refine lv_iload_n hx hb d_DiscMakerModel_isIn_0 rfl (lv_at hl 1 rfl) ?_
  refine lv_if_lt (tgt := 25) hx hb d_DiscMakerModel_isIn_1 (by decide) (fun h_9 => ?_) (fun h_9 => ?_)
  · skip
    have g1_2 : x.toInt < 0 := (i_lt rfl (by decide)).mp h_9
    refine lv_iconst (v := 0) hx hb d_DiscMakerModel_isIn_25 (by decide) ?_
    have hP9 := hP.sub (ws' := [(h0, .inr (11, MO ma sv_thrown sv_length sv_nodes sv_many sv_directories sv_runsFrom sv_runs sv_read sv_wrong sv_isNamed sv_goes sv_goesSize sv_goesAt sv_targetParts sv_isRoot)), ((ma 1), .inl (cI, 40, .inl fK))]) [0, 1] rfl
    have hD9 := hD.sub (ws' := [(h0, .inr (11, MO ma sv_thrown sv_length sv_nodes sv_many sv_directories sv_runsFrom sv_runs sv_read sv_wrong sv_isNamed sv_goes sv_goesSize sv_goesAt sv_targetParts sv_isRoot)), ((ma 1), .inl (cI, 40, .inl fK))]) [0, 1] (by decide +kernel) rfl
    exact W.zret (v := 0) hx hb hr (by first | rfl | decide | exact i_narZ (by omega)) (fun t ht hW => ⟨⟨0, (), rfl, ⟨(by (try dsimp only); first | assumption | omega | trivial), (by (try dsimp only); intro h7; exfalso; omega), (Or.inr ⟨by decide, fun h8 => by obtain ⟨h1, h2, h3⟩ := h8; omega⟩)⟩, by rw [ht]; exact hP9, hD9⟩, hS.F ht⟩) hS.2.2 d_DiscMakerModel_isIn_26
  · skip
    have g1_2 : ¬ x.toInt < 0 := fun h8 => h_9 ((i_lt rfl (by decide)).mpr h8)
    refine lv_iload_n hx hb d_DiscMakerModel_isIn_4 rfl (lv_at hl 1 rfl) ?_
    refine lv_aload_n hx hb d_DiscMakerModel_isIn_5 rfl (lv_at hl 0 rfl) ?_
    refine va_get (D := D) (ci := 11) (v := .int sv_nodes) (C := "DiscMakerModel") (T := F_DiscMakerModel) (N := 48) hx hb ht9 in_DiscMakerModel hown hK hP 0 rfl rfl 3 (by decide) (ht9 _ k1434) (fun _ h9 => h9) rfl d_DiscMakerModel_isIn_6 ?_
    refine lv_icmp_ge (tgt := 25) hx hb d_DiscMakerModel_isIn_9 (by decide) (fun h_9 => ?_) (fun h_9 => ?_)
    · skip
      have g9_8 : sv_nodes.toInt ≤ x.toInt := (i_le rfl rfl).mp h_9
      refine lv_iconst (v := 0) hx hb d_DiscMakerModel_isIn_25 (by decide) ?_
      have hP9 := hP.sub (ws' := [(h0, .inr (11, MO ma sv_thrown sv_length sv_nodes sv_many sv_directories sv_runsFrom sv_runs sv_read sv_wrong sv_isNamed sv_goes sv_goesSize sv_goesAt sv_targetParts sv_isRoot)), ((ma 1), .inl (cI, 40, .inl fK))]) [0, 1] rfl
      have hD9 := hD.sub (ws' := [(h0, .inr (11, MO ma sv_thrown sv_length sv_nodes sv_many sv_directories sv_runsFrom sv_runs sv_read sv_wrong sv_isNamed sv_goes sv_goesSize sv_goesAt sv_targetParts sv_isRoot)), ((ma 1), .inl (cI, 40, .inl fK))]) [0, 1] (by decide +kernel) rfl
      exact W.zret (v := 0) hx hb hr (by first | rfl | decide | exact i_narZ (by omega)) (fun t ht hW => ⟨⟨0, (), rfl, ⟨(by (try dsimp only); first | assumption | omega | trivial), (by (try dsimp only); intro h7; exfalso; omega), (Or.inr ⟨by decide, fun h8 => by obtain ⟨h1, h2, h3⟩ := h8; omega⟩)⟩, by rw [ht]; exact hP9, hD9⟩, hS.F ht⟩) hS.2.2 d_DiscMakerModel_isIn_26
    · skip
      have g9_8 : ¬ sv_nodes.toInt ≤ x.toInt := fun h8 => h_9 ((i_le rfl rfl).mpr h8)
      refine lv_aload_n hx hb d_DiscMakerModel_isIn_12 rfl (lv_at hl 0 rfl) ?_
      refine va_get (D := D) (ci := 11) (v := .ref (ma 1)) (C := "DiscMakerModel") (T := F_DiscMakerModel) (N := 48) hx hb ht9 in_DiscMakerModel hown hK hP 0 rfl rfl 4 (by decide) (ht9 _ k1435) (fun _ h9 => h9) rfl d_DiscMakerModel_isIn_13 ?_
      refine lv_iload_n hx hb d_DiscMakerModel_isIn_16 rfl (lv_at hl 1 rfl) ?_
      refine va_iald hx hb hK hP 1 1 rfl rfl (vp_in_iff.mpr ⟨by omega, by omega⟩) d_DiscMakerModel_isIn_17 ?_
      refine lv_topi (fun v1 e_v1 => ?_)
      refine lv_if_ne (tgt := 25) hx hb d_DiscMakerModel_isIn_18 (by decide) (fun h_9 => ?_) (fun h_9 => ?_)
      · skip
        have g18_15 : ¬ v1.toInt = 0 := fun h8 => h_9 ((i_eq rfl (by decide)).mpr h8)
        refine lv_iconst (v := 0) hx hb d_DiscMakerModel_isIn_25 (by decide) ?_
        have hP9 := hP.sub (ws' := [(h0, .inr (11, MO ma sv_thrown sv_length sv_nodes sv_many sv_directories sv_runsFrom sv_runs sv_read sv_wrong sv_isNamed sv_goes sv_goesSize sv_goesAt sv_targetParts sv_isRoot)), ((ma 1), .inl (cI, 40, .inl fK))]) [0, 1] rfl
        have hD9 := hD.sub (ws' := [(h0, .inr (11, MO ma sv_thrown sv_length sv_nodes sv_many sv_directories sv_runsFrom sv_runs sv_read sv_wrong sv_isNamed sv_goes sv_goesSize sv_goesAt sv_targetParts sv_isRoot)), ((ma 1), .inl (cI, 40, .inl fK))]) [0, 1] (by decide +kernel) rfl
        exact W.zret (v := 0) hx hb hr (by first | rfl | decide | exact i_narZ (by omega)) (fun t ht hW => ⟨⟨0, (), rfl, ⟨(by (try dsimp only); first | assumption | omega | trivial), (by (try dsimp only); intro h7; exfalso; omega), (Or.inr ⟨by decide, fun h8 => by obtain ⟨h1, h2, h3⟩ := h8; rw [← e_v1] at h3; omega⟩)⟩, by rw [ht]; exact hP9, hD9⟩, hS.F ht⟩) hS.2.2 d_DiscMakerModel_isIn_26
      · skip
        have g18_15 : v1.toInt = 0 := (i_eq rfl (by decide)).mp h_9
        refine lv_iconst (v := 1) hx hb d_DiscMakerModel_isIn_21 (by decide) ?_
        refine lv_goto (tgt := 26) hx hb d_DiscMakerModel_isIn_22 (by decide) ?_
        have hP9 := hP.sub (ws' := [(h0, .inr (11, MO ma sv_thrown sv_length sv_nodes sv_many sv_directories sv_runsFrom sv_runs sv_read sv_wrong sv_isNamed sv_goes sv_goesSize sv_goesAt sv_targetParts sv_isRoot)), ((ma 1), .inl (cI, 40, .inl fK))]) [0, 1] rfl
        have hD9 := hD.sub (ws' := [(h0, .inr (11, MO ma sv_thrown sv_length sv_nodes sv_many sv_directories sv_runsFrom sv_runs sv_read sv_wrong sv_isNamed sv_goes sv_goesSize sv_goesAt sv_targetParts sv_isRoot)), ((ma 1), .inl (cI, 40, .inl fK))]) [0, 1] (by decide +kernel) rfl
        exact W.zret (v := 1) hx hb hr (by first | rfl | decide | exact i_narZ (by omega)) (fun t ht hW => ⟨⟨1, (), rfl, ⟨(by (try dsimp only); first | assumption | omega | trivial), (by (try dsimp only); intro _; exact ⟨by omega, by omega, by rw [← e_v1]; omega⟩), (Or.inl ⟨by decide, by omega, by omega, by rw [← e_v1]; omega⟩)⟩, by rw [ht]; exact hP9, hD9⟩, hS.F ht⟩) hS.2.2 d_DiscMakerModel_isIn_26

theorem d_DiscMakerModel_countOf_0 : decode b_DiscMakerModel_countOf 0 = .ok (.iconst 0, 1) := by decide +kernel
theorem d_DiscMakerModel_countOf_1 : decode b_DiscMakerModel_countOf 1 = .ok (.istore_n 2, 1) := by decide +kernel
theorem d_DiscMakerModel_countOf_2 : decode b_DiscMakerModel_countOf 2 = .ok (.iconst 0, 1) := by decide +kernel
theorem d_DiscMakerModel_countOf_3 : decode b_DiscMakerModel_countOf 3 = .ok (.istore_n 3, 1) := by decide +kernel
theorem d_DiscMakerModel_countOf_4 : decode b_DiscMakerModel_countOf 4 = .ok (.iload_n 3, 1) := by decide +kernel
theorem d_DiscMakerModel_countOf_5 : decode b_DiscMakerModel_countOf 5 = .ok (.aload_n 0, 1) := by decide +kernel
theorem d_DiscMakerModel_countOf_6 : decode b_DiscMakerModel_countOf 6 = .ok (.getfield 114, 3) := by decide +kernel
theorem d_DiscMakerModel_countOf_9 : decode b_DiscMakerModel_countOf 9 = .ok (.if_icmp .ge 27, 3) := by decide +kernel
theorem d_DiscMakerModel_countOf_12 : decode b_DiscMakerModel_countOf 12 = .ok (.iload_n 2, 1) := by decide +kernel
theorem d_DiscMakerModel_countOf_13 : decode b_DiscMakerModel_countOf 13 = .ok (.aload_n 0, 1) := by decide +kernel
theorem d_DiscMakerModel_countOf_14 : decode b_DiscMakerModel_countOf 14 = .ok (.getfield 13, 3) := by decide +kernel
theorem d_DiscMakerModel_countOf_17 : decode b_DiscMakerModel_countOf 17 = .ok (.iload_n 3, 1) := by decide +kernel
theorem d_DiscMakerModel_countOf_18 : decode b_DiscMakerModel_countOf 18 = .ok (.iaload, 1) := by decide +kernel
theorem d_DiscMakerModel_countOf_19 : decode b_DiscMakerModel_countOf 19 = .ok (.iload_n 1, 1) := by decide +kernel
theorem d_DiscMakerModel_countOf_20 : decode b_DiscMakerModel_countOf 20 = .ok (.if_icmp .ne 7, 3) := by decide +kernel
theorem d_DiscMakerModel_countOf_23 : decode b_DiscMakerModel_countOf 23 = .ok (.iconst 1, 1) := by decide +kernel
theorem d_DiscMakerModel_countOf_24 : decode b_DiscMakerModel_countOf 24 = .ok (.goto 4, 3) := by decide +kernel
theorem d_DiscMakerModel_countOf_27 : decode b_DiscMakerModel_countOf 27 = .ok (.iconst 0, 1) := by decide +kernel
theorem d_DiscMakerModel_countOf_28 : decode b_DiscMakerModel_countOf 28 = .ok (.iadd, 1) := by decide +kernel
theorem d_DiscMakerModel_countOf_29 : decode b_DiscMakerModel_countOf 29 = .ok (.istore_n 2, 1) := by decide +kernel
theorem d_DiscMakerModel_countOf_30 : decode b_DiscMakerModel_countOf 30 = .ok (.iinc 3 1, 3) := by decide +kernel
theorem d_DiscMakerModel_countOf_33 : decode b_DiscMakerModel_countOf 33 = .ok (.goto (-29), 3) := by decide +kernel
theorem d_DiscMakerModel_countOf_36 : decode b_DiscMakerModel_countOf 36 = .ok (.iload_n 2, 1) := by decide +kernel
theorem d_DiscMakerModel_countOf_37 : decode b_DiscMakerModel_countOf 37 = .ok (.ireturn, 1) := by decide +kernel
set_option maxHeartbeats 4000000 in
set_option maxRecDepth 100000 in
theorem m_countOf (l : Launch) (D : va_G) (cB cI cJ cZ cN cF : ClassId) (sz : Nat) (h0 : Nat) (ma : Nat → Nat) (sv_thrown sv_length sv_nodes sv_many sv_directories sv_runsFrom sv_runs sv_read sv_wrong sv_isNamed sv_goes sv_goesSize sv_goesAt sv_targetParts sv_isRoot : Int32) (fK : Nat → Int32) (hn : 1 ≤ sv_nodes.toInt ∧ sv_nodes.toInt ≤ 40) : Met l y_DiscMakerModel_countOf w_DiscMakerModel_countOf ({ frames := 0, cells := 0, slots := 0, locals := 0 }) (va_Pc [.ref h0, .int 0] (fun U => U.heap.size = sz ∧ va_P D CL [(h0, .inr (11, MO ma sv_thrown sv_length sv_nodes sv_many sv_directories sv_runsFrom sv_runs sv_read sv_wrong sv_isNamed sv_goes sv_goesSize sv_goesAt sv_targetParts sv_isRoot)), ((ma 1), .inl (cI, 40, .inl fK))] U.heap ∧ va_K D CL (TY cB cI cJ cZ cN cF) U ∧ NN U ∧ va_D (fun _ => True) [(h0, .inr (11, MO ma sv_thrown sv_length sv_nodes sv_many sv_directories sv_runsFrom sv_runs sv_read sv_wrong sv_isNamed sv_goes sv_goesSize sv_goesAt sv_targetParts sv_isRoot)), ((ma 1), .inl (cI, 40, .inl fK))])) (va_Qi (fun (r : Int32) (u : Unit) => (r.toInt = cntK fK sv_nodes.toInt.toNat)) (fun (u : Unit) (t : State) => match u with | () => va_P D CL [(h0, .inr (11, MO ma sv_thrown sv_length sv_nodes sv_many sv_directories sv_runsFrom sv_runs sv_read sv_wrong sv_isNamed sv_goes sv_goesSize sv_goesAt sv_targetParts sv_isRoot)), ((ma 1), .inl (cI, 40, .inl fK))] t.heap ∧ va_D (va_A [(h0, .inr (11, MO ma sv_thrown sv_length sv_nodes sv_many sv_directories sv_runsFrom sv_runs sv_read sv_wrong sv_isNamed sv_goes sv_goesSize sv_goesAt sv_targetParts sv_isRoot)), ((ma 1), .inl (cI, 40, .inl fK))] sz) [(h0, .inr (11, MO ma sv_thrown sv_length sv_nodes sv_many sv_directories sv_runsFrom sv_runs sv_read sv_wrong sv_isNamed sv_goes sv_goesSize sv_goesAt sv_targetParts sv_isRoot)), ((ma 1), .inl (cI, 40, .inl fK))]) (va_A [(h0, .inr (11, MO ma sv_thrown sv_length sv_nodes sv_many sv_directories sv_runsFrom sv_runs sv_read sv_wrong sv_isNamed sv_goes sv_goesSize sv_goesAt sv_targetParts sv_isRoot)), ((ma 1), .inl (cI, 40, .inl fK))] sz)) 0 0 (va_A [(h0, .inr (11, MO ma sv_thrown sv_length sv_nodes sv_many sv_directories sv_runsFrom sv_runs sv_read sv_wrong sv_isNamed sv_goes sv_goesSize sv_goesAt sv_targetParts sv_isRoot)), ((ma 1), .inl (cI, 40, .inl fK))] sz) := by
  refine Met.ofW (cc := b_DiscMakerModel_countOf) (maxL := 4) (ret := some .int) (by decide) rfl ?_
  intro p e s m args below meth c s₁ B hml hv
  obtain ⟨rfl, hsz, hP, hK, hN, hD0⟩ := hv
  have hx := B.exec
  have hb := B.bytes
  have hr := B.returns
  have hts := atoms_spec (ws := w_DiscMakerModel_countOf) B.pre
  have ht9 := fun (w : Cond) (h : w ∈ lw_g) => hts w (List.mem_cons_of_mem _ h)
  have hown : s.vm.findClass "DiscMakerModel" = some m.cls := findClass_of_methodNamed B.named
  have hlocks := B.notSynchronized
  subst hsz
  have hD := hD0.self (sz := s.heap.size)
  generalize hAe : va_A [(h0, .inr (11, MO ma sv_thrown sv_length sv_nodes sv_many sv_directories sv_runsFrom sv_runs sv_read sv_wrong sv_isNamed sv_goes sv_goesSize sv_goesAt sv_targetParts sv_isRoot)), ((ma 1), .inl (cI, 40, .inl fK))] s.heap.size = A at hD ⊢
  have hA : ∀ q : Nat, s.heap.size ≤ q → A q := fun q h => by rw [← hAe]; exact Or.inr h
  have hS : va_S A s.heap s.heap [] := va_S.rf
  have hP : va_P D CL [(h0, .inr (11, MO ma sv_thrown sv_length sv_nodes sv_many sv_directories sv_runsFrom sv_runs sv_read sv_wrong sv_isNamed sv_goes sv_goesSize sv_goesAt sv_targetParts sv_isRoot)), ((ma 1), .inl (cI, 40, .inl fK))] s.heap := hP
  have hl := lv_entry [.ref h0, .int 0] (n := 4) (Nat.le_of_ble_eq_true rfl)
  rw [lg_entry_eq]
  generalize (lg_sl [.ref h0, .int 0] ++ List.replicate (4 - (lg_sl [.ref h0, .int 0]).length) Slot.unset).toArray = ls at hl ⊢
  have hl : lv_has ls 4 [(0, .ref h0), (1, .int 0)] := hl
  have L_m1 : ((-1) : Int32).toInt = (-1) := by decide
  have L_0 : (0 : Int32).toInt = 0 := by decide
  have L_1 : (1 : Int32).toInt = 1 := by decide
  refine lv_iconst (v := 0) hx hb d_DiscMakerModel_countOf_0 (by decide) ?_
  refine lv_istore_n hx hb d_DiscMakerModel_countOf_1 rfl hl (by decide) rfl (fun ls hl => ?_)
  have hl : lv_has ls 4 [(2, .int 0), (0, .ref h0), (1, .int 0)] := hl
  refine lv_iconst (v := 0) hx hb d_DiscMakerModel_countOf_2 (by decide) ?_
  refine lv_istore_n hx hb d_DiscMakerModel_countOf_3 rfl hl (by decide) rfl (fun ls hl => ?_)
  have hl : lv_has ls 4 [(3, .int 0), (2, .int 0), (0, .ref h0), (1, .int 0)] := hl
  refine zz_labM (B := fun (lk : Nat) (K : Heap → List Loc → Array Slot → List Value → Prop) => ∀ (nn : Int32) (kx : Int32) (H : Heap) (locs : List Loc) (ls : Array Slot), lk = (40 - kx.toInt).toNat → (nn.toInt = cntK fK kx.toInt.toNat) → (0 ≤ kx.toInt ∧ kx.toInt ≤ sv_nodes.toInt) → (0 ≤ nn.toInt ∧ nn.toInt ≤ kx.toInt) → va_P D CL [(h0, .inr (11, MO ma sv_thrown sv_length sv_nodes sv_many sv_directories sv_runsFrom sv_runs sv_read sv_wrong sv_isNamed sv_goes sv_goesSize sv_goesAt sv_targetParts sv_isRoot)), ((ma 1), .inl (cI, 40, .inl fK))] H → va_D A [(h0, .inr (11, MO ma sv_thrown sv_length sv_nodes sv_many sv_directories sv_runsFrom sv_runs sv_read sv_wrong sv_isNamed sv_goes sv_goesSize sv_goesAt sv_targetParts sv_isRoot)), ((ma 1), .inl (cI, 40, .inl fK))] → va_S A s.heap H locs → lv_has ls 4 [(0, .ref h0), (1, .int 0), (2, .int nn), (3, .int kx)] → K H locs ls []) 4 ?_ ?_
  · skip
    intro lk ih4 nn kx H locs ls hm4 f1 f2 f3 hP hD hS hl
    refine lv_iload_n hx hb d_DiscMakerModel_countOf_4 rfl (lv_at hl 3 rfl) ?_
    refine lv_aload_n hx hb d_DiscMakerModel_countOf_5 rfl (lv_at hl 0 rfl) ?_
    refine va_get (D := D) (ci := 11) (v := .int sv_nodes) (C := "DiscMakerModel") (T := F_DiscMakerModel) (N := 48) hx hb ht9 in_DiscMakerModel hown hK hP 0 rfl rfl 3 (by decide) (ht9 _ k1434) (fun _ h9 => h9) rfl d_DiscMakerModel_countOf_6 ?_
    refine lv_icmp_ge (tgt := 36) hx hb d_DiscMakerModel_countOf_9 (by decide) (fun h_9 => ?_) (fun h_9 => ?_)
    · skip
      have g9_8 : sv_nodes.toInt ≤ kx.toInt := (i_le rfl rfl).mp h_9
      refine lv_iload_n hx hb d_DiscMakerModel_countOf_36 rfl (lv_at hl 2 rfl) ?_
      have hP9 := hP.sub (ws' := [(h0, .inr (11, MO ma sv_thrown sv_length sv_nodes sv_many sv_directories sv_runsFrom sv_runs sv_read sv_wrong sv_isNamed sv_goes sv_goesSize sv_goesAt sv_targetParts sv_isRoot)), ((ma 1), .inl (cI, 40, .inl fK))]) [0, 1] rfl
      have hD9 := hD.sub (ws' := [(h0, .inr (11, MO ma sv_thrown sv_length sv_nodes sv_many sv_directories sv_runsFrom sv_runs sv_read sv_wrong sv_isNamed sv_goes sv_goesSize sv_goesAt sv_targetParts sv_isRoot)), ((ma 1), .inl (cI, 40, .inl fK))]) [0, 1] (by decide +kernel) rfl
      exact W.iret (v := nn) hx hb hr (fun t ht hW => ⟨⟨nn, (), rfl, (by (try dsimp only); rw [f1, show kx.toInt = sv_nodes.toInt by omega]), by rw [ht]; exact hP9, hD9⟩, hS.F ht⟩) hS.2.2 d_DiscMakerModel_countOf_37
    · skip
      have g9_8 : ¬ sv_nodes.toInt ≤ kx.toInt := fun h8 => h_9 ((i_le rfl rfl).mpr h8)
      refine lv_iload_n hx hb d_DiscMakerModel_countOf_12 rfl (lv_at hl 2 rfl) ?_
      refine lv_aload_n hx hb d_DiscMakerModel_countOf_13 rfl (lv_at hl 0 rfl) ?_
      refine va_get (D := D) (ci := 11) (v := .ref (ma 1)) (C := "DiscMakerModel") (T := F_DiscMakerModel) (N := 48) hx hb ht9 in_DiscMakerModel hown hK hP 0 rfl rfl 4 (by decide) (ht9 _ k1435) (fun _ h9 => h9) rfl d_DiscMakerModel_countOf_14 ?_
      refine lv_iload_n hx hb d_DiscMakerModel_countOf_17 rfl (lv_at hl 3 rfl) ?_
      refine va_iald hx hb hK hP 1 1 rfl rfl (vp_in_iff.mpr ⟨by omega, by omega⟩) d_DiscMakerModel_countOf_18 ?_
      refine lv_topi (fun v1 e_v1 => ?_)
      refine lv_iload_n hx hb d_DiscMakerModel_countOf_19 rfl (lv_at hl 1 rfl) ?_
      refine lv_icmp_ne (tgt := 27) hx hb d_DiscMakerModel_countOf_20 (by decide) (fun h_9 => ?_) (fun h_9 => ?_)
      · skip
        have g20_17 : ¬ v1.toInt = 0 := fun h8 => h_9 ((i_eq rfl (by decide)).mpr h8)
        refine lv_iconst (v := 0) hx hb d_DiscMakerModel_countOf_27 (by decide) ?_
        refine lv_iadd hx hb d_DiscMakerModel_countOf_28 ?_
        refine lv_topi (fun v2 e_v2 => ?_)
        have t_v2 : v2.toInt = nn.toInt + 0 := by rw [e_v2]; exact i_add rfl (by decide) (by omega) (by omega)
        refine lv_istore_n hx hb d_DiscMakerModel_countOf_29 rfl hl (by decide) rfl (fun ls hl => ?_)
        have hl : lv_has ls 4 [(2, .int v2), (0, .ref h0), (1, .int 0), (3, .int kx)] := hl
        obtain ⟨v3, e_v3⟩ : ∃ z : Int32, z = kx + 1 := ⟨_, rfl⟩
        refine lv_iinc (v := v3) hx hb d_DiscMakerModel_countOf_30 hl (k := 3) rfl e_v3.symm (by decide +kernel) rfl (fun ls hl => ?_)
        have t_v3 : v3.toInt = kx.toInt + 1 := by rw [e_v3]; exact i_add rfl (by decide) (by omega) (by omega)
        have hl : lv_has ls 4 [(3, .int v3), (2, .int v2), (0, .ref h0), (1, .int 0)] := hl
        refine lv_goto (tgt := 4) hx hb d_DiscMakerModel_countOf_33 (by decide) ?_
        have hP := hP.sub (ws' := [(h0, .inr (11, MO ma sv_thrown sv_length sv_nodes sv_many sv_directories sv_runsFrom sv_runs sv_read sv_wrong sv_isNamed sv_goes sv_goesSize sv_goesAt sv_targetParts sv_isRoot)), ((ma 1), .inl (cI, 40, .inl fK))]) [0, 1] rfl
        have hD := hD.sub (ws' := [(h0, .inr (11, MO ma sv_thrown sv_length sv_nodes sv_many sv_directories sv_runsFrom sv_runs sv_read sv_wrong sv_isNamed sv_goes sv_goesSize sv_goesAt sv_targetParts sv_isRoot)), ((ma 1), .inl (cI, 40, .inl fK))]) [0, 1] (by decide +kernel) rfl
        have hl := lv_sub hl [2, 3, 1, 0] rfl
        exact ih4 _ (by first | omega | (dsimp only; omega)) v2 v3 _ _ _ rfl ((by rw [show (v3.toInt).toNat = kx.toInt.toNat + 1 by omega]; simp only [cntK]; have hcl := i_cl (a := kx) (by omega); rw [show kx.toInt.toNat = kx.toNatClampNeg by omega, ← e_v1]; rw [show kx.toInt.toNat = kx.toNatClampNeg by omega] at f1; split <;> omega)) ((by (try dsimp only); first | assumption | omega | trivial)) ((by (try dsimp only); first | assumption | omega | trivial)) hP hD hS hl
      · skip
        have g20_17 : v1.toInt = 0 := (i_eq rfl (by decide)).mp h_9
        refine lv_iconst (v := 1) hx hb d_DiscMakerModel_countOf_23 (by decide) ?_
        refine lv_goto (tgt := 28) hx hb d_DiscMakerModel_countOf_24 (by decide) ?_
        refine lv_iadd hx hb d_DiscMakerModel_countOf_28 ?_
        refine lv_topi (fun v4 e_v4 => ?_)
        have t_v4 : v4.toInt = nn.toInt + 1 := by rw [e_v4]; exact i_add rfl (by decide) (by omega) (by omega)
        refine lv_istore_n hx hb d_DiscMakerModel_countOf_29 rfl hl (by decide) rfl (fun ls hl => ?_)
        have hl : lv_has ls 4 [(2, .int v4), (0, .ref h0), (1, .int 0), (3, .int kx)] := hl
        obtain ⟨v5, e_v5⟩ : ∃ z : Int32, z = kx + 1 := ⟨_, rfl⟩
        refine lv_iinc (v := v5) hx hb d_DiscMakerModel_countOf_30 hl (k := 3) rfl e_v5.symm (by decide +kernel) rfl (fun ls hl => ?_)
        have t_v5 : v5.toInt = kx.toInt + 1 := by rw [e_v5]; exact i_add rfl (by decide) (by omega) (by omega)
        have hl : lv_has ls 4 [(3, .int v5), (2, .int v4), (0, .ref h0), (1, .int 0)] := hl
        refine lv_goto (tgt := 4) hx hb d_DiscMakerModel_countOf_33 (by decide) ?_
        have hP := hP.sub (ws' := [(h0, .inr (11, MO ma sv_thrown sv_length sv_nodes sv_many sv_directories sv_runsFrom sv_runs sv_read sv_wrong sv_isNamed sv_goes sv_goesSize sv_goesAt sv_targetParts sv_isRoot)), ((ma 1), .inl (cI, 40, .inl fK))]) [0, 1] rfl
        have hD := hD.sub (ws' := [(h0, .inr (11, MO ma sv_thrown sv_length sv_nodes sv_many sv_directories sv_runsFrom sv_runs sv_read sv_wrong sv_isNamed sv_goes sv_goesSize sv_goesAt sv_targetParts sv_isRoot)), ((ma 1), .inl (cI, 40, .inl fK))]) [0, 1] (by decide +kernel) rfl
        have hl := lv_sub hl [2, 3, 1, 0] rfl
        exact ih4 _ (by first | omega | (dsimp only; omega)) v4 v5 _ _ _ rfl ((by rw [show (v5.toInt).toNat = kx.toInt.toNat + 1 by omega]; simp only [cntK]; have hcl := i_cl (a := kx) (by omega); rw [show kx.toInt.toNat = kx.toNatClampNeg by omega, ← e_v1]; rw [show kx.toInt.toNat = kx.toNatClampNeg by omega] at f1; split <;> omega)) ((by (try dsimp only); first | assumption | omega | trivial)) ((by (try dsimp only); first | assumption | omega | trivial)) hP hD hS hl
  · skip
    intro kk4
    have hP := hP.sub (ws' := [(h0, .inr (11, MO ma sv_thrown sv_length sv_nodes sv_many sv_directories sv_runsFrom sv_runs sv_read sv_wrong sv_isNamed sv_goes sv_goesSize sv_goesAt sv_targetParts sv_isRoot)), ((ma 1), .inl (cI, 40, .inl fK))]) [0, 1] rfl
    have hD := hD.sub (ws' := [(h0, .inr (11, MO ma sv_thrown sv_length sv_nodes sv_many sv_directories sv_runsFrom sv_runs sv_read sv_wrong sv_isNamed sv_goes sv_goesSize sv_goesAt sv_targetParts sv_isRoot)), ((ma 1), .inl (cI, 40, .inl fK))]) [0, 1] (by decide +kernel) rfl
    have hl := lv_sub hl [2, 3, 1, 0] rfl
    exact kk4 _ 0 0 _ _ _ rfl ((by rw [show (0 : Int32).toInt.toNat = 0 by omega]; simp only [cntK]; omega)) ((by (try dsimp only); first | assumption | omega | trivial)) ((by (try dsimp only); first | assumption | omega | trivial)) hP hD hS hl
