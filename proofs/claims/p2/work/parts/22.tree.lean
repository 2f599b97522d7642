theorem d_DiscMakerModel_feed_0 : decode b_DiscMakerModel_feed 0 = .ok (.aload_n 0, 1) := by decide +kernel
theorem d_DiscMakerModel_feed_1 : decode b_DiscMakerModel_feed 1 = .ok (.iconst 0, 1) := by decide +kernel
theorem d_DiscMakerModel_feed_2 : decode b_DiscMakerModel_feed 2 = .ok (.putfield 118, 3) := by decide +kernel
theorem d_DiscMakerModel_feed_5 : decode b_DiscMakerModel_feed 5 = .ok (.aload_n 0, 1) := by decide +kernel
theorem d_DiscMakerModel_feed_6 : decode b_DiscMakerModel_feed 6 = .ok (.getfield 121, 3) := by decide +kernel
theorem d_DiscMakerModel_feed_9 : decode b_DiscMakerModel_feed 9 = .ok (.bipush 20, 2) := by decide +kernel
theorem d_DiscMakerModel_feed_11 : decode b_DiscMakerModel_feed 11 = .ok (.iadd, 1) := by decide +kernel
theorem d_DiscMakerModel_feed_12 : decode b_DiscMakerModel_feed 12 = .ok (.sipush 400, 3) := by decide +kernel
theorem d_DiscMakerModel_feed_15 : decode b_DiscMakerModel_feed 15 = .ok (.if_icmp .le 5, 3) := by decide +kernel
theorem d_DiscMakerModel_feed_18 : decode b_DiscMakerModel_feed 18 = .ok (.iconst 0, 1) := by decide +kernel
theorem d_DiscMakerModel_feed_19 : decode b_DiscMakerModel_feed 19 = .ok (.ireturn, 1) := by decide +kernel
theorem d_DiscMakerModel_feed_20 : decode b_DiscMakerModel_feed 20 = .ok (.iconst 0, 1) := by decide +kernel
theorem d_DiscMakerModel_feed_21 : decode b_DiscMakerModel_feed 21 = .ok (.istore 6, 2) := by decide +kernel
theorem d_DiscMakerModel_feed_23 : decode b_DiscMakerModel_feed 23 = .ok (.iload 6, 2) := by decide +kernel
theorem d_DiscMakerModel_feed_25 : decode b_DiscMakerModel_feed 25 = .ok (.bipush 20, 2) := by decide +kernel
theorem d_DiscMakerModel_feed_27 : decode b_DiscMakerModel_feed 27 = .ok (.if_icmp .ge 83, 3) := by decide +kernel
theorem d_DiscMakerModel_feed_30 : decode b_DiscMakerModel_feed 30 = .ok (.iload 6, 2) := by decide +kernel
theorem d_DiscMakerModel_feed_32 : decode b_DiscMakerModel_feed 32 = .ok (.iconst 4, 1) := by decide +kernel
theorem d_DiscMakerModel_feed_33 : decode b_DiscMakerModel_feed 33 = .ok (.if_icmp .ge 7, 3) := by decide +kernel
theorem d_DiscMakerModel_feed_36 : decode b_DiscMakerModel_feed 36 = .ok (.iload_n 1, 1) := by decide +kernel
theorem d_DiscMakerModel_feed_37 : decode b_DiscMakerModel_feed 37 = .ok (.goto 39, 3) := by decide +kernel
theorem d_DiscMakerModel_feed_40 : decode b_DiscMakerModel_feed 40 = .ok (.iload 6, 2) := by decide +kernel
theorem d_DiscMakerModel_feed_42 : decode b_DiscMakerModel_feed 42 = .ok (.bipush 8, 2) := by decide +kernel
theorem d_DiscMakerModel_feed_44 : decode b_DiscMakerModel_feed 44 = .ok (.if_icmp .ge 7, 3) := by decide +kernel
theorem d_DiscMakerModel_feed_47 : decode b_DiscMakerModel_feed 47 = .ok (.iload_n 2, 1) := by decide +kernel
theorem d_DiscMakerModel_feed_48 : decode b_DiscMakerModel_feed 48 = .ok (.goto 28, 3) := by decide +kernel
theorem d_DiscMakerModel_feed_51 : decode b_DiscMakerModel_feed 51 = .ok (.iload 6, 2) := by decide +kernel
theorem d_DiscMakerModel_feed_53 : decode b_DiscMakerModel_feed 53 = .ok (.bipush 12, 2) := by decide +kernel
theorem d_DiscMakerModel_feed_55 : decode b_DiscMakerModel_feed 55 = .ok (.if_icmp .ge 7, 3) := by decide +kernel
theorem d_DiscMakerModel_feed_58 : decode b_DiscMakerModel_feed 58 = .ok (.iload_n 3, 1) := by decide +kernel
theorem d_DiscMakerModel_feed_59 : decode b_DiscMakerModel_feed 59 = .ok (.goto 17, 3) := by decide +kernel
theorem d_DiscMakerModel_feed_62 : decode b_DiscMakerModel_feed 62 = .ok (.iload 6, 2) := by decide +kernel
theorem d_DiscMakerModel_feed_64 : decode b_DiscMakerModel_feed 64 = .ok (.bipush 16, 2) := by decide +kernel
theorem d_DiscMakerModel_feed_66 : decode b_DiscMakerModel_feed 66 = .ok (.if_icmp .ge 8, 3) := by decide +kernel
theorem d_DiscMakerModel_feed_69 : decode b_DiscMakerModel_feed 69 = .ok (.iload 4, 2) := by decide +kernel
theorem d_DiscMakerModel_feed_71 : decode b_DiscMakerModel_feed 71 = .ok (.goto 5, 3) := by decide +kernel
theorem d_DiscMakerModel_feed_74 : decode b_DiscMakerModel_feed 74 = .ok (.iload 5, 2) := by decide +kernel
theorem d_DiscMakerModel_feed_76 : decode b_DiscMakerModel_feed 76 = .ok (.istore 7, 2) := by decide +kernel
theorem d_DiscMakerModel_feed_78 : decode b_DiscMakerModel_feed 78 = .ok (.aload_n 0, 1) := by decide +kernel
theorem d_DiscMakerModel_feed_79 : decode b_DiscMakerModel_feed 79 = .ok (.getfield 7, 3) := by decide +kernel
theorem d_DiscMakerModel_feed_82 : decode b_DiscMakerModel_feed 82 = .ok (.aload_n 0, 1) := by decide +kernel
theorem d_DiscMakerModel_feed_83 : decode b_DiscMakerModel_feed 83 = .ok (.getfield 121, 3) := by decide +kernel
theorem d_DiscMakerModel_feed_86 : decode b_DiscMakerModel_feed 86 = .ok (.iload 6, 2) := by decide +kernel
theorem d_DiscMakerModel_feed_88 : decode b_DiscMakerModel_feed 88 = .ok (.iadd, 1) := by decide +kernel
theorem d_DiscMakerModel_feed_89 : decode b_DiscMakerModel_feed 89 = .ok (.iload 7, 2) := by decide +kernel
theorem d_DiscMakerModel_feed_91 : decode b_DiscMakerModel_feed 91 = .ok (.bipush 24, 2) := by decide +kernel
theorem d_DiscMakerModel_feed_93 : decode b_DiscMakerModel_feed 93 = .ok (.bipush 8, 2) := by decide +kernel
theorem d_DiscMakerModel_feed_95 : decode b_DiscMakerModel_feed 95 = .ok (.iload 6, 2) := by decide +kernel
theorem d_DiscMakerModel_feed_97 : decode b_DiscMakerModel_feed 97 = .ok (.iconst 4, 1) := by decide +kernel
theorem d_DiscMakerModel_feed_98 : decode b_DiscMakerModel_feed 98 = .ok (.irem, 1) := by decide +kernel
theorem d_DiscMakerModel_feed_99 : decode b_DiscMakerModel_feed 99 = .ok (.imul, 1) := by decide +kernel
theorem d_DiscMakerModel_feed_100 : decode b_DiscMakerModel_feed 100 = .ok (.isub, 1) := by decide +kernel
theorem d_DiscMakerModel_feed_101 : decode b_DiscMakerModel_feed 101 = .ok (.ishr, 1) := by decide +kernel
theorem d_DiscMakerModel_feed_102 : decode b_DiscMakerModel_feed 102 = .ok (.i2b, 1) := by decide +kernel
theorem d_DiscMakerModel_feed_103 : decode b_DiscMakerModel_feed 103 = .ok (.bastore, 1) := by decide +kernel
theorem d_DiscMakerModel_feed_104 : decode b_DiscMakerModel_feed 104 = .ok (.iinc 6 1, 3) := by decide +kernel
theorem d_DiscMakerModel_feed_107 : decode b_DiscMakerModel_feed 107 = .ok (.goto (-84), 3) := by decide +kernel
theorem d_DiscMakerModel_feed_110 : decode b_DiscMakerModel_feed 110 = .ok (.aload_n 0, 1) := by decide +kernel
theorem d_DiscMakerModel_feed_111 : decode b_DiscMakerModel_feed 111 = .ok (.dup, 1) := by decide +kernel
theorem d_DiscMakerModel_feed_112 : decode b_DiscMakerModel_feed 112 = .ok (.getfield 121, 3) := by decide +kernel
theorem d_DiscMakerModel_feed_115 : decode b_DiscMakerModel_feed 115 = .ok (.bipush 20, 2) := by decide +kernel
theorem d_DiscMakerModel_feed_117 : decode b_DiscMakerModel_feed 117 = .ok (.iadd, 1) := by decide +kernel
theorem d_DiscMakerModel_feed_118 : decode b_DiscMakerModel_feed 118 = .ok (.putfield 121, 3) := by decide +kernel
theorem d_DiscMakerModel_feed_121 : decode b_DiscMakerModel_feed 121 = .ok (.iconst 1, 1) := by decide +kernel
theorem d_DiscMakerModel_feed_122 : decode b_DiscMakerModel_feed 122 = .ok (.ireturn, 1) := by decide +kernel
set_option maxHeartbeats 4000000 in
set_option maxRecDepth 100000 in
theorem m_feed (l : Launch) (D : va_G) (cB cI cJ cZ cN cF : ClassId) (sz : Nat) (h0 : Nat) (ma : Nat → Nat) (sv_thrown sv_length sv_nodes sv_many sv_directories sv_runsFrom sv_runs sv_read sv_wrong sv_isNamed sv_goes sv_goesSize sv_goesAt sv_targetParts sv_isRoot : Int32) (fX : Nat → Int32) (x1 : Int32) (x2 : Int32) (x3 : Int32) (x4 : Int32) (x5 : Int32) (hln : 0 ≤ sv_length.toInt ∧ sv_length.toInt ≤ 400) : Met l y_DiscMakerModel_feed w_DiscMakerModel_feed ({ frames := 0, cells := 0, slots := 0, locals := 0 }) (va_Pc [.ref h0, .int x1, .int x2, .int x3, .int x4, .int x5] (fun U => U.heap.size = sz ∧ va_P D CL [(h0, .inr (11, MO ma sv_thrown sv_length sv_nodes sv_many sv_directories sv_runsFrom sv_runs sv_read sv_wrong sv_isNamed sv_goes sv_goesSize sv_goesAt sv_targetParts sv_isRoot)), ((ma 0), .inl (cB, 400, .inl fX))] U.heap ∧ va_K D CL (TY cB cI cJ cZ cN cF) U ∧ NN U ∧ va_D (fun _ => True) [(h0, .inr (11, MO ma sv_thrown sv_length sv_nodes sv_many sv_directories sv_runsFrom sv_runs sv_read sv_wrong sv_isNamed sv_goes sv_goesSize sv_goesAt sv_targetParts sv_isRoot)), ((ma 0), .inl (cB, 400, .inl fX))])) (va_Qi (fun (r : Int32) (u : Int32 × Int32 × (Nat → Int32)) => match u with | (th, ln, gX) => ((400 < sv_length.toInt + 20 ∧ r.toInt = 0 ∧ ln.toInt = sv_length.toInt) ∨ (sv_length.toInt + 20 ≤ 400 ∧ r.toInt = 1 ∧ ln.toInt = sv_length.toInt + 20))) (fun (u : Int32 × Int32 × (Nat → Int32)) (t : State) => match u with | (th, ln, gX) => va_P D CL [(h0, .inr (11, MO ma th ln sv_nodes sv_many sv_directories sv_runsFrom sv_runs sv_read sv_wrong sv_isNamed sv_goes sv_goesSize sv_goesAt sv_targetParts sv_isRoot)), ((ma 0), .inl (cB, 400, .inl gX))] t.heap ∧ va_D (va_A [(h0, .inr (11, MO ma sv_thrown sv_length sv_nodes sv_many sv_directories sv_runsFrom sv_runs sv_read sv_wrong sv_isNamed sv_goes sv_goesSize sv_goesAt sv_targetParts sv_isRoot)), ((ma 0), .inl (cB, 400, .inl fX))] sz) [(h0, .inr (11, MO ma th ln sv_nodes sv_many sv_directories sv_runsFrom sv_runs sv_read sv_wrong sv_isNamed sv_goes sv_goesSize sv_goesAt sv_targetParts sv_isRoot)), ((ma 0), .inl (cB, 400, .inl gX))]) (va_A [(h0, .inr (11, MO ma sv_thrown sv_length sv_nodes sv_many sv_directories sv_runsFrom sv_runs sv_read sv_wrong sv_isNamed sv_goes sv_goesSize sv_goesAt sv_targetParts sv_isRoot)), ((ma 0), .inl (cB, 400, .inl fX))] sz)) 0 0 (va_A [(h0, .inr (11, MO ma sv_thrown sv_length sv_nodes sv_many sv_directories sv_runsFrom sv_runs sv_read sv_wrong sv_isNamed sv_goes sv_goesSize sv_goesAt sv_targetParts sv_isRoot)), ((ma 0), .inl (cB, 400, .inl fX))] sz) := by
  refine Met.ofW (cc := b_DiscMakerModel_feed) (maxL := 8) (ret := some .boolean) (by decide) rfl ?_
  intro p e s m args below meth c s₁ B hml hv
  obtain ⟨rfl, hsz, hP, hK, hN, hD0⟩ := hv
  have hx := B.exec
  have hb := B.bytes
  have hr := B.returns
  have hts := atoms_spec (ws := w_DiscMakerModel_feed) B.pre
  have ht9 := fun (w : Cond) (h : w ∈ lw_g) => hts w (List.mem_cons_of_mem _ h)
  have hown : s.vm.findClass "DiscMakerModel" = some m.cls := findClass_of_methodNamed B.named
  have hlocks := B.notSynchronized
  subst hsz
  have hD := hD0.self (sz := s.heap.size)
  generalize hAe : va_A [(h0, .inr (11, MO ma sv_thrown sv_length sv_nodes sv_many sv_directories sv_runsFrom sv_runs sv_read sv_wrong sv_isNamed sv_goes sv_goesSize sv_goesAt sv_targetParts sv_isRoot)), ((ma 0), .inl (cB, 400, .inl fX))] s.heap.size = A at hD ⊢
  have hA : ∀ q : Nat, s.heap.size ≤ q → A q := fun q h => by rw [← hAe]; exact Or.inr h
  have hS : va_S A s.heap s.heap [] := va_S.rf
  have hP : va_P D CL [(h0, .inr (11, MO ma sv_thrown sv_length sv_nodes sv_many sv_directories sv_runsFrom sv_runs sv_read sv_wrong sv_isNamed sv_goes sv_goesSize sv_goesAt sv_targetParts sv_isRoot)), ((ma 0), .inl (cB, 400, .inl fX))] s.heap := hP
  have hl := lv_entry [.ref h0, .int x1, .int x2, .int x3, .int x4, .int x5] (n := 8) (Nat.le_of_ble_eq_true rfl)
  rw [lg_entry_eq]
  generalize (lg_sl [.ref h0, .int x1, .int x2, .int x3, .int x4, .int x5] ++ List.replicate (8 - (lg_sl [.ref h0, .int x1, .int x2, .int x3, .int x4, .int x5]).length) Slot.unset).toArray = ls at hl ⊢
  have hl : lv_has ls 8 [(0, .ref h0), (1, .int x1), (2, .int x2), (3, .int x3), (4, .int x4), (5, .int x5)] := hl
  have L_m1 : ((-1) : Int32).toInt = (-1) := by decide
  have L_0 : (0 : Int32).toInt = 0 := by decide
  have L_1 : (1 : Int32).toInt = 1 := by decide
  have L_4 : (4 : Int32).toInt = 4 := by decide
  have L_8 : (8 : Int32).toInt = 8 := by decide
  have L_12 : (12 : Int32).toInt = 12 := by decide
  have L_16 : (16 : Int32).toInt = 16 := by decide
  have L_20 : (20 : Int32).toInt = 20 := by decide
  have L_24 : (24 : Int32).toInt = 24 := by decide
  have L_400 : (400 : Int32).toInt = 400 := by decide
  refine lv_aload_n hx hb d_DiscMakerModel_feed_0 rfl (lv_at hl 0 rfl) ?_
  refine lv_iconst (v := 0) hx hb d_DiscMakerModel_feed_1 (by decide) ?_
  refine va_put (D := D) (ci := 11) (v := .int 0) (ty := .int) (C := "DiscMakerModel") (T := F_DiscMakerModel) (N := 48) hx hb ht9 in_DiscMakerModel t_DiscMakerModel t_DiscMakerModel_ok n_DiscMakerModel hown hK hP hD hS 0 rfl rfl 0 (by decide) (ht9 _ k1431) (fun _ h9 => h9) rfl (by decide +kernel) rfl rfl (Nat.le_of_ble_eq_true rfl) d_DiscMakerModel_feed_2 (fun H locs hP hD hS => ?_)
  have hP : va_P D CL [(h0, .inr (11, MO ma 0 sv_length sv_nodes sv_many sv_directories sv_runsFrom sv_runs sv_read sv_wrong sv_isNamed sv_goes sv_goesSize sv_goesAt sv_targetParts sv_isRoot)), ((ma 0), .inl (cB, 400, .inl fX))] H := hP
  have hD : va_D A [(h0, .inr (11, MO ma 0 sv_length sv_nodes sv_many sv_directories sv_runsFrom sv_runs sv_read sv_wrong sv_isNamed sv_goes sv_goesSize sv_goesAt sv_targetParts sv_isRoot)), ((ma 0), .inl (cB, 400, .inl fX))] := hD
  refine lv_aload_n hx hb d_DiscMakerModel_feed_5 rfl (lv_at hl 0 rfl) ?_
  refine va_get (D := D) (ci := 11) (v := .int sv_length) (C := "DiscMakerModel") (T := F_DiscMakerModel) (N := 48) hx hb ht9 in_DiscMakerModel hown hK hP 0 rfl rfl 2 (by decide) (ht9 _ k1433) (fun _ h9 => h9) rfl d_DiscMakerModel_feed_6 ?_
  refine lv_bipush (v := 20) hx hb d_DiscMakerModel_feed_9 (by decide) ?_
  refine lv_iadd hx hb d_DiscMakerModel_feed_11 ?_
  refine lv_topi (fun v1 e_v1 => ?_)
  have t_v1 : v1.toInt = sv_length.toInt + 20 := by rw [e_v1]; exact i_add rfl (by decide) (by omega) (by omega)
  refine lv_sipush (v := 400) hx hb d_DiscMakerModel_feed_12 (by decide) ?_
  refine lv_icmp_le (tgt := 20) hx hb d_DiscMakerModel_feed_15 (by decide) (fun h_9 => ?_) (fun h_9 => ?_)
  · skip
    have g15_9 : v1.toInt ≤ 400 := (i_le rfl (by decide)).mp h_9
    refine lv_iconst (v := 0) hx hb d_DiscMakerModel_feed_20 (by decide) ?_
    refine lv_istore hx hb d_DiscMakerModel_feed_21 hl (by decide) rfl (fun ls hl => ?_)
    have hl : lv_has ls 8 [(6, .int 0), (0, .ref h0), (1, .int x1), (2, .int x2), (3, .int x3), (4, .int x4), (5, .int x5)] := hl
    refine zz_lab (P := fun (lk : Nat) (H : Heap) (locs : List Loc) (ls : Array Slot) (stk : List Value) => ∃ (kx : Int32) (lX : Nat → Int32) , lk = (20 - kx.toInt).toNat ∧ stk = [] ∧ (0 ≤ kx.toInt ∧ kx.toInt ≤ 20) ∧ va_P D CL [(h0, .inr (11, MO ma 0 sv_length sv_nodes sv_many sv_directories sv_runsFrom sv_runs sv_read sv_wrong sv_isNamed sv_goes sv_goesSize sv_goesAt sv_targetParts sv_isRoot)), ((ma 0), .inl (cB, 400, .inl lX))] H ∧ va_D A [(h0, .inr (11, MO ma 0 sv_length sv_nodes sv_many sv_directories sv_runsFrom sv_runs sv_read sv_wrong sv_isNamed sv_goes sv_goesSize sv_goesAt sv_targetParts sv_isRoot)), ((ma 0), .inl (cB, 400, .inl lX))] ∧ va_S A s.heap H locs ∧ lv_has ls 8 [(0, .ref h0), (1, .int x1), (2, .int x2), (3, .int x3), (4, .int x4), (5, .int x5), (6, .int kx)]) 23 ?_ ?_
    · skip
      intro lk ih23 H locs ls stk hI
      obtain ⟨kx, lX, hm23, rfl, f1, hP, hD, hS, hl⟩ := hI
      refine lv_iload hx hb d_DiscMakerModel_feed_23 (lv_at hl 6 rfl) ?_
      refine lv_bipush (v := 20) hx hb d_DiscMakerModel_feed_25 (by decide) ?_
      refine lv_icmp_ge (tgt := 110) hx hb d_DiscMakerModel_feed_27 (by decide) (fun h_9 => ?_) (fun h_9 => ?_)
      · skip
        have g27_14 : 20 ≤ kx.toInt := (i_le (by decide) rfl).mp h_9
        refine lv_aload_n hx hb d_DiscMakerModel_feed_110 rfl (lv_at hl 0 rfl) ?_
        refine lv_dup hx hb d_DiscMakerModel_feed_111 rfl ?_
        refine va_get (D := D) (ci := 11) (v := .int sv_length) (C := "DiscMakerModel") (T := F_DiscMakerModel) (N := 48) hx hb ht9 in_DiscMakerModel hown hK hP 0 rfl rfl 2 (by decide) (ht9 _ k1433) (fun _ h9 => h9) rfl d_DiscMakerModel_feed_112 ?_
        refine lv_bipush (v := 20) hx hb d_DiscMakerModel_feed_115 (by decide) ?_
        refine lv_iadd hx hb d_DiscMakerModel_feed_117 ?_
        refine lv_topi (fun v2 e_v2 => ?_)
        have t_v2 : v2.toInt = sv_length.toInt + 20 := by rw [e_v2]; exact i_add rfl (by decide) (by omega) (by omega)
        refine va_put (D := D) (ci := 11) (v := .int v2) (ty := .int) (C := "DiscMakerModel") (T := F_DiscMakerModel) (N := 48) hx hb ht9 in_DiscMakerModel t_DiscMakerModel t_DiscMakerModel_ok n_DiscMakerModel hown hK hP hD hS 0 rfl rfl 2 (by decide) (ht9 _ k1433) (fun _ h9 => h9) rfl (by decide +kernel) rfl rfl (Nat.le_of_ble_eq_true rfl) d_DiscMakerModel_feed_118 (fun H locs hP hD hS => ?_)
        have hP : va_P D CL [(h0, .inr (11, MO ma 0 v2 sv_nodes sv_many sv_directories sv_runsFrom sv_runs sv_read sv_wrong sv_isNamed sv_goes sv_goesSize sv_goesAt sv_targetParts sv_isRoot)), ((ma 0), .inl (cB, 400, .inl lX))] H := hP
        have hD : va_D A [(h0, .inr (11, MO ma 0 v2 sv_nodes sv_many sv_directories sv_runsFrom sv_runs sv_read sv_wrong sv_isNamed sv_goes sv_goesSize sv_goesAt sv_targetParts sv_isRoot)), ((ma 0), .inl (cB, 400, .inl lX))] := hD
        refine lv_iconst (v := 1) hx hb d_DiscMakerModel_feed_121 (by decide) ?_
        have hP9 := hP.sub (ws' := [(h0, .inr (11, MO ma 0 v2 sv_nodes sv_many sv_directories sv_runsFrom sv_runs sv_read sv_wrong sv_isNamed sv_goes sv_goesSize sv_goesAt sv_targetParts sv_isRoot)), ((ma 0), .inl (cB, 400, .inl lX))]) [0, 1] rfl
        have hD9 := hD.sub (ws' := [(h0, .inr (11, MO ma 0 v2 sv_nodes sv_many sv_directories sv_runsFrom sv_runs sv_read sv_wrong sv_isNamed sv_goes sv_goesSize sv_goesAt sv_targetParts sv_isRoot)), ((ma 0), .inl (cB, 400, .inl lX))]) [0, 1] (by decide) rfl
        exact W.zret (v := 1) hx hb hr (by first | rfl | decide | exact i_narZ (by omega)) (fun t ht hW => ⟨⟨1, (0, v2, lX), rfl, (by (try dsimp only); first | omega | assumption | trivial), by rw [ht]; exact hP9, hD9⟩, hS.F ht⟩) hS.2.2 d_DiscMakerModel_feed_122
      · skip
        have g27_14 : ¬ 20 ≤ kx.toInt := fun h8 => h_9 ((i_le (by decide) rfl).mpr h8)
        refine zz_lab (P := fun (lk : Nat) (H : Heap) (locs : List Loc) (ls : Array Slot) (stk : List Value) => ∃ (vv : Int32) , lk = 0 ∧ stk = [.int vv] ∧ va_P D CL [(h0, .inr (11, MO ma 0 sv_length sv_nodes sv_many sv_directories sv_runsFrom sv_runs sv_read sv_wrong sv_isNamed sv_goes sv_goesSize sv_goesAt sv_targetParts sv_isRoot)), ((ma 0), .inl (cB, 400, .inl lX))] H ∧ va_D A [(h0, .inr (11, MO ma 0 sv_length sv_nodes sv_many sv_directories sv_runsFrom sv_runs sv_read sv_wrong sv_isNamed sv_goes sv_goesSize sv_goesAt sv_targetParts sv_isRoot)), ((ma 0), .inl (cB, 400, .inl lX))] ∧ va_S A s.heap H locs ∧ lv_has ls 8 [(0, .ref h0), (1, .int x1), (2, .int x2), (3, .int x3), (4, .int x4), (5, .int x5), (6, .int kx)]) 76 ?_ ?_
        · skip
          intro lk ih76 H locs ls stk hI
          obtain ⟨vv, hm76, rfl, hP, hD, hS, hl⟩ := hI
          refine lv_istore hx hb d_DiscMakerModel_feed_76 hl (by decide) rfl (fun ls hl => ?_)
          have hl : lv_has ls 8 [(7, .int vv), (0, .ref h0), (1, .int x1), (2, .int x2), (3, .int x3), (4, .int x4), (5, .int x5), (6, .int kx)] := hl
          refine lv_aload_n hx hb d_DiscMakerModel_feed_78 rfl (lv_at hl 1 rfl) ?_
          refine va_get (D := D) (ci := 11) (v := .ref (ma 0)) (C := "DiscMakerModel") (T := F_DiscMakerModel) (N := 48) hx hb ht9 in_DiscMakerModel hown hK hP 0 rfl rfl 1 (by decide) (ht9 _ k1432) (fun _ h9 => h9) rfl d_DiscMakerModel_feed_79 ?_
          refine lv_aload_n hx hb d_DiscMakerModel_feed_82 rfl (lv_at hl 1 rfl) ?_
          refine va_get (D := D) (ci := 11) (v := .int sv_length) (C := "DiscMakerModel") (T := F_DiscMakerModel) (N := 48) hx hb ht9 in_DiscMakerModel hown hK hP 0 rfl rfl 2 (by decide) (ht9 _ k1433) (fun _ h9 => h9) rfl d_DiscMakerModel_feed_83 ?_
          refine lv_iload hx hb d_DiscMakerModel_feed_86 (lv_at hl 7 rfl) ?_
          refine lv_iadd hx hb d_DiscMakerModel_feed_88 ?_
          refine lv_topi (fun v3 e_v3 => ?_)
          have t_v3 : v3.toInt = sv_length.toInt + kx.toInt := by rw [e_v3]; exact i_add rfl rfl (by omega) (by omega)
          refine lv_iload hx hb d_DiscMakerModel_feed_89 (lv_at hl 0 rfl) ?_
          refine lv_bipush (v := 24) hx hb d_DiscMakerModel_feed_91 (by decide) ?_
          refine lv_bipush (v := 8) hx hb d_DiscMakerModel_feed_93 (by decide) ?_
          refine lv_iload hx hb d_DiscMakerModel_feed_95 (lv_at hl 7 rfl) ?_
          refine lv_iconst (v := 4) hx hb d_DiscMakerModel_feed_97 (by decide) ?_
          refine lv_irem hx hb d_DiscMakerModel_feed_98 (by decide) ?_
          refine lv_topi (fun v4 e_v4 => ?_)
          have t_v4 : v4.toInt = kx.toInt % 4 := by rw [e_v4]; exact i_rem rfl (by decide) (by omega) (by omega)
          refine lv_imul hx hb d_DiscMakerModel_feed_99 ?_
          refine lv_topi (fun v5 e_v5 => ?_)
          have t_v5 : v5.toInt = 8 * v4.toInt := by rw [e_v5]; exact i_mul (by decide) rfl (by omega) (by omega)
          refine lv_isub hx hb d_DiscMakerModel_feed_100 ?_
          refine lv_topi (fun v6 e_v6 => ?_)
          have t_v6 : v6.toInt = 24 - v5.toInt := by rw [e_v6]; exact i_sub (by decide) rfl (by omega) (by omega)
          refine lv_ishr hx hb d_DiscMakerModel_feed_101 ?_
          refine lv_topi (fun v7 e_v7 => ?_)
          refine lv_i2b hx hb d_DiscMakerModel_feed_102 rfl ?_
          refine lv_topi (fun v8 e_v8 => ?_)
          have t_v8 : (-128) ≤ v8.toInt ∧ v8.toInt ≤ 127 := by rw [e_v8]; exact i_b _
          refine zq_bast hx hb hK hP hD hS 1 0 rfl rfl (vp_in_iff.mpr ⟨by omega, by omega⟩) d_DiscMakerModel_feed_103 (fun f9 e_f9 H locs hP hD hS => ?_)
          have hP : va_P D CL [(h0, .inr (11, MO ma 0 sv_length sv_nodes sv_many sv_directories sv_runsFrom sv_runs sv_read sv_wrong sv_isNamed sv_goes sv_goesSize sv_goesAt sv_targetParts sv_isRoot)), ((ma 0), .inl (cB, 400, .inl f9))] H := hP
          have hD : va_D A [(h0, .inr (11, MO ma 0 sv_length sv_nodes sv_many sv_directories sv_runsFrom sv_runs sv_read sv_wrong sv_isNamed sv_goes sv_goesSize sv_goesAt sv_targetParts sv_isRoot)), ((ma 0), .inl (cB, 400, .inl f9))] := hD
          obtain ⟨v10, e_v10⟩ : ∃ z : Int32, z = kx + 1 := ⟨_, rfl⟩
          refine lv_iinc (v := v10) hx hb d_DiscMakerModel_feed_104 hl (k := 7) rfl e_v10.symm (by decide) rfl (fun ls hl => ?_)
          have t_v10 : v10.toInt = kx.toInt + 1 := by rw [e_v10]; exact i_add rfl (by decide) (by omega) (by omega)
          have hl : lv_has ls 8 [(6, .int v10), (7, .int vv), (0, .ref h0), (1, .int x1), (2, .int x2), (3, .int x3), (4, .int x4), (5, .int x5)] := hl
          refine lv_goto (tgt := 23) hx hb d_DiscMakerModel_feed_107 (by decide) ?_
          have hP := hP.sub (ws' := [(h0, .inr (11, MO ma 0 sv_length sv_nodes sv_many sv_directories sv_runsFrom sv_runs sv_read sv_wrong sv_isNamed sv_goes sv_goesSize sv_goesAt sv_targetParts sv_isRoot)), ((ma 0), .inl (cB, 400, .inl f9))]) [0, 1] rfl
          have hD := hD.sub (ws' := [(h0, .inr (11, MO ma 0 sv_length sv_nodes sv_many sv_directories sv_runsFrom sv_runs sv_read sv_wrong sv_isNamed sv_goes sv_goesSize sv_goesAt sv_targetParts sv_isRoot)), ((ma 0), .inl (cB, 400, .inl f9))]) [0, 1] (by decide) rfl
          have hl := lv_sub hl [2, 3, 4, 5, 6, 7, 0] rfl
          exact ih23 (_) (by first | omega | (dsimp only; omega)) _ _ _ _ ⟨v10, f9, rfl, rfl, (by (try dsimp only); first | omega | assumption | trivial), hP, hD, hS, hl⟩
        · skip
          intro kk76
          refine lv_iload hx hb d_DiscMakerModel_feed_30 (lv_at hl 6 rfl) ?_
          refine lv_iconst (v := 4) hx hb d_DiscMakerModel_feed_32 (by decide) ?_
          refine lv_icmp_ge (tgt := 40) hx hb d_DiscMakerModel_feed_33 (by decide) (fun h_9 => ?_) (fun h_9 => ?_)
          · skip
            have g33_46 : 4 ≤ kx.toInt := (i_le (by decide) rfl).mp h_9
            refine lv_iload hx hb d_DiscMakerModel_feed_40 (lv_at hl 6 rfl) ?_
            refine lv_bipush (v := 8) hx hb d_DiscMakerModel_feed_42 (by decide) ?_
            refine lv_icmp_ge (tgt := 51) hx hb d_DiscMakerModel_feed_44 (by decide) (fun h_9 => ?_) (fun h_9 => ?_)
            · skip
              have g44_49 : 8 ≤ kx.toInt := (i_le (by decide) rfl).mp h_9
              refine lv_iload hx hb d_DiscMakerModel_feed_51 (lv_at hl 6 rfl) ?_
              refine lv_bipush (v := 12) hx hb d_DiscMakerModel_feed_53 (by decide) ?_
              refine lv_icmp_ge (tgt := 62) hx hb d_DiscMakerModel_feed_55 (by decide) (fun h_9 => ?_) (fun h_9 => ?_)
              · skip
                have g55_52 : 12 ≤ kx.toInt := (i_le (by decide) rfl).mp h_9
                refine lv_iload hx hb d_DiscMakerModel_feed_62 (lv_at hl 6 rfl) ?_
                refine lv_bipush (v := 16) hx hb d_DiscMakerModel_feed_64 (by decide) ?_
                refine lv_icmp_ge (tgt := 74) hx hb d_DiscMakerModel_feed_66 (by decide) (fun h_9 => ?_) (fun h_9 => ?_)
                · skip
                  have g66_55 : 16 ≤ kx.toInt := (i_le (by decide) rfl).mp h_9
                  refine lv_iload hx hb d_DiscMakerModel_feed_74 (lv_at hl 5 rfl) ?_
                  have hP := hP.sub (ws' := [(h0, .inr (11, MO ma 0 sv_length sv_nodes sv_many sv_directories sv_runsFrom sv_runs sv_read sv_wrong sv_isNamed sv_goes sv_goesSize sv_goesAt sv_targetParts sv_isRoot)), ((ma 0), .inl (cB, 400, .inl lX))]) [0, 1] rfl
                  have hD := hD.sub (ws' := [(h0, .inr (11, MO ma 0 sv_length sv_nodes sv_many sv_directories sv_runsFrom sv_runs sv_read sv_wrong sv_isNamed sv_goes sv_goesSize sv_goesAt sv_targetParts sv_isRoot)), ((ma 0), .inl (cB, 400, .inl lX))]) [0, 1] (by decide) rfl
                  have hl := lv_sub hl [0, 1, 2, 3, 4, 5, 6] rfl
                  exact kk76 _ _ _ _ _ ⟨x5, rfl, rfl, hP, hD, hS, hl⟩
                · skip
                  have g66_55 : ¬ 16 ≤ kx.toInt := fun h8 => h_9 ((i_le (by decide) rfl).mpr h8)
                  refine lv_iload hx hb d_DiscMakerModel_feed_69 (lv_at hl 4 rfl) ?_
                  refine lv_goto (tgt := 76) hx hb d_DiscMakerModel_feed_71 (by decide) ?_
                  have hP := hP.sub (ws' := [(h0, .inr (11, MO ma 0 sv_length sv_nodes sv_many sv_directories sv_runsFrom sv_runs sv_read sv_wrong sv_isNamed sv_goes sv_goesSize sv_goesAt sv_targetParts sv_isRoot)), ((ma 0), .inl (cB, 400, .inl lX))]) [0, 1] rfl
                  have hD := hD.sub (ws' := [(h0, .inr (11, MO ma 0 sv_length sv_nodes sv_many sv_directories sv_runsFrom sv_runs sv_read sv_wrong sv_isNamed sv_goes sv_goesSize sv_goesAt sv_targetParts sv_isRoot)), ((ma 0), .inl (cB, 400, .inl lX))]) [0, 1] (by decide) rfl
                  have hl := lv_sub hl [0, 1, 2, 3, 4, 5, 6] rfl
                  exact kk76 _ _ _ _ _ ⟨x4, rfl, rfl, hP, hD, hS, hl⟩
              · skip
                have g55_52 : ¬ 12 ≤ kx.toInt := fun h8 => h_9 ((i_le (by decide) rfl).mpr h8)
                refine lv_iload_n hx hb d_DiscMakerModel_feed_58 rfl (lv_at hl 3 rfl) ?_
                refine lv_goto (tgt := 76) hx hb d_DiscMakerModel_feed_59 (by decide) ?_
                have hP := hP.sub (ws' := [(h0, .inr (11, MO ma 0 sv_length sv_nodes sv_many sv_directories sv_runsFrom sv_runs sv_read sv_wrong sv_isNamed sv_goes sv_goesSize sv_goesAt sv_targetParts sv_isRoot)), ((ma 0), .inl (cB, 400, .inl lX))]) [0, 1] rfl
                have hD := hD.sub (ws' := [(h0, .inr (11, MO ma 0 sv_length sv_nodes sv_many sv_directories sv_runsFrom sv_runs sv_read sv_wrong sv_isNamed sv_goes sv_goesSize sv_goesAt sv_targetParts sv_isRoot)), ((ma 0), .inl (cB, 400, .inl lX))]) [0, 1] (by decide) rfl
                have hl := lv_sub hl [0, 1, 2, 3, 4, 5, 6] rfl
                exact kk76 _ _ _ _ _ ⟨x3, rfl, rfl, hP, hD, hS, hl⟩
            · skip
              have g44_49 : ¬ 8 ≤ kx.toInt := fun h8 => h_9 ((i_le (by decide) rfl).mpr h8)
              refine lv_iload_n hx hb d_DiscMakerModel_feed_47 rfl (lv_at hl 2 rfl) ?_
              refine lv_goto (tgt := 76) hx hb d_DiscMakerModel_feed_48 (by decide) ?_
              have hP := hP.sub (ws' := [(h0, .inr (11, MO ma 0 sv_length sv_nodes sv_many sv_directories sv_runsFrom sv_runs sv_read sv_wrong sv_isNamed sv_goes sv_goesSize sv_goesAt sv_targetParts sv_isRoot)), ((ma 0), .inl (cB, 400, .inl lX))]) [0, 1] rfl
              have hD := hD.sub (ws' := [(h0, .inr (11, MO ma 0 sv_length sv_nodes sv_many sv_directories sv_runsFrom sv_runs sv_read sv_wrong sv_isNamed sv_goes sv_goesSize sv_goesAt sv_targetParts sv_isRoot)), ((ma 0), .inl (cB, 400, .inl lX))]) [0, 1] (by decide) rfl
              have hl := lv_sub hl [0, 1, 2, 3, 4, 5, 6] rfl
              exact kk76 _ _ _ _ _ ⟨x2, rfl, rfl, hP, hD, hS, hl⟩
          · skip
            have g33_46 : ¬ 4 ≤ kx.toInt := fun h8 => h_9 ((i_le (by decide) rfl).mpr h8)
            refine lv_iload_n hx hb d_DiscMakerModel_feed_36 rfl (lv_at hl 1 rfl) ?_
            refine lv_goto (tgt := 76) hx hb d_DiscMakerModel_feed_37 (by decide) ?_
            have hP := hP.sub (ws' := [(h0, .inr (11, MO ma 0 sv_length sv_nodes sv_many sv_directories sv_runsFrom sv_runs sv_read sv_wrong sv_isNamed sv_goes sv_goesSize sv_goesAt sv_targetParts sv_isRoot)), ((ma 0), .inl (cB, 400, .inl lX))]) [0, 1] rfl
            have hD := hD.sub (ws' := [(h0, .inr (11, MO ma 0 sv_length sv_nodes sv_many sv_directories sv_runsFrom sv_runs sv_read sv_wrong sv_isNamed sv_goes sv_goesSize sv_goesAt sv_targetParts sv_isRoot)), ((ma 0), .inl (cB, 400, .inl lX))]) [0, 1] (by decide) rfl
            have hl := lv_sub hl [0, 1, 2, 3, 4, 5, 6] rfl
            exact kk76 _ _ _ _ _ ⟨x1, rfl, rfl, hP, hD, hS, hl⟩
    · skip
      intro kk23
      have hP := hP.sub (ws' := [(h0, .inr (11, MO ma 0 sv_length sv_nodes sv_many sv_directories sv_runsFrom sv_runs sv_read sv_wrong sv_isNamed sv_goes sv_goesSize sv_goesAt sv_targetParts sv_isRoot)), ((ma 0), .inl (cB, 400, .inl fX))]) [0, 1] rfl
      have hD := hD.sub (ws' := [(h0, .inr (11, MO ma 0 sv_length sv_nodes sv_many sv_directories sv_runsFrom sv_runs sv_read sv_wrong sv_isNamed sv_goes sv_goesSize sv_goesAt sv_targetParts sv_isRoot)), ((ma 0), .inl (cB, 400, .inl fX))]) [0, 1] (by decide) rfl
      have hl := lv_sub hl [1, 2, 3, 4, 5, 6, 0] rfl
      exact kk23 _ _ _ _ _ ⟨0, fX, rfl, rfl, (by (try dsimp only); first | omega | assumption | trivial), hP, hD, hS, hl⟩
  · skip
    have g15_9 : ¬ v1.toInt ≤ 400 := fun h8 => h_9 ((i_le rfl (by decide)).mpr h8)
    refine lv_iconst (v := 0) hx hb d_DiscMakerModel_feed_18 (by decide) ?_
    have hP9 := hP.sub (ws' := [(h0, .inr (11, MO ma 0 sv_length sv_nodes sv_many sv_directories sv_runsFrom sv_runs sv_read sv_wrong sv_isNamed sv_goes sv_goesSize sv_goesAt sv_targetParts sv_isRoot)), ((ma 0), .inl (cB, 400, .inl fX))]) [0, 1] rfl
    have hD9 := hD.sub (ws' := [(h0, .inr (11, MO ma 0 sv_length sv_nodes sv_many sv_directories sv_runsFrom sv_runs sv_read sv_wrong sv_isNamed sv_goes sv_goesSize sv_goesAt sv_targetParts sv_isRoot)), ((ma 0), .inl (cB, 400, .inl fX))]) [0, 1] (by decide) rfl
    exact W.zret (v := 0) hx hb hr (by first | rfl | decide | exact i_narZ (by omega)) (fun t ht hW => ⟨⟨0, (0, sv_length, fX), rfl, (by (try dsimp only); first | omega | assumption | trivial), by rw [ht]; exact hP9, hD9⟩, hS.F ht⟩) hS.2.2 d_DiscMakerModel_feed_19

theorem d_DiscMakerModel_end_0 : decode b_DiscMakerModel_end 0 = .ok (.aload_n 0, 1) := by decide +kernel
theorem d_DiscMakerModel_end_1 : decode b_DiscMakerModel_end 1 = .ok (.iconst 0, 1) := by decide +kernel
theorem d_DiscMakerModel_end_2 : decode b_DiscMakerModel_end 2 = .ok (.putfield 118, 3) := by decide +kernel
theorem d_DiscMakerModel_end_5 : decode b_DiscMakerModel_end 5 = .ok (.iload_n 1, 1) := by decide +kernel
theorem d_DiscMakerModel_end_6 : decode b_DiscMakerModel_end 6 = .ok (.ifCond .lt 11, 3) := by decide +kernel
theorem d_DiscMakerModel_end_9 : decode b_DiscMakerModel_end 9 = .ok (.iload_n 1, 1) := by decide +kernel
theorem d_DiscMakerModel_end_10 : decode b_DiscMakerModel_end 10 = .ok (.aload_n 0, 1) := by decide +kernel
theorem d_DiscMakerModel_end_11 : decode b_DiscMakerModel_end 11 = .ok (.getfield 121, 3) := by decide +kernel
theorem d_DiscMakerModel_end_14 : decode b_DiscMakerModel_end 14 = .ok (.if_icmp .le 5, 3) := by decide +kernel
theorem d_DiscMakerModel_end_17 : decode b_DiscMakerModel_end 17 = .ok (.iconst 0, 1) := by decide +kernel
theorem d_DiscMakerModel_end_18 : decode b_DiscMakerModel_end 18 = .ok (.ireturn, 1) := by decide +kernel
theorem d_DiscMakerModel_end_19 : decode b_DiscMakerModel_end 19 = .ok (.aload_n 0, 1) := by decide +kernel
theorem d_DiscMakerModel_end_20 : decode b_DiscMakerModel_end 20 = .ok (.iload_n 1, 1) := by decide +kernel
theorem d_DiscMakerModel_end_21 : decode b_DiscMakerModel_end 21 = .ok (.putfield 121, 3) := by decide +kernel
theorem d_DiscMakerModel_end_24 : decode b_DiscMakerModel_end 24 = .ok (.iconst 1, 1) := by decide +kernel
theorem d_DiscMakerModel_end_25 : decode b_DiscMakerModel_end 25 = .ok (.ireturn, 1) := by decide +kernel
set_option maxHeartbeats 4000000 in
set_option maxRecDepth 100000 in
theorem m_end (l : Launch) (D : va_G) (cB cI cJ cZ cN cF : ClassId) (sz : Nat) (h0 : Nat) (ma : Nat → Nat) (sv_thrown sv_length sv_nodes sv_many sv_directories sv_runsFrom sv_runs sv_read sv_wrong sv_isNamed sv_goes sv_goesSize sv_goesAt sv_targetParts sv_isRoot : Int32) (x : Int32) : Met l y_DiscMakerModel_end w_DiscMakerModel_end ({ frames := 0, cells := 0, slots := 0, locals := 0 }) (va_Pc [.ref h0, .int x] (fun U => U.heap.size = sz ∧ va_P D CL [(h0, .inr (11, MO ma sv_thrown sv_length sv_nodes sv_many sv_directories sv_runsFrom sv_runs sv_read sv_wrong sv_isNamed sv_goes sv_goesSize sv_goesAt sv_targetParts sv_isRoot))] U.heap ∧ va_K D CL (TY cB cI cJ cZ cN cF) U ∧ NN U ∧ va_D (fun _ => True) [(h0, .inr (11, MO ma sv_thrown sv_length sv_nodes sv_many sv_directories sv_runsFrom sv_runs sv_read sv_wrong sv_isNamed sv_goes sv_goesSize sv_goesAt sv_targetParts sv_isRoot))])) (va_Qi (fun (r : Int32) (u : Int32 × Int32) => match u with | (th, ln) => ((r.toInt = 0 ∧ ln.toInt = sv_length.toInt ∧ (x.toInt < 0 ∨ sv_length.toInt < x.toInt)) ∨ (r.toInt = 1 ∧ ln.toInt = x.toInt ∧ 0 ≤ x.toInt ∧ x.toInt ≤ sv_length.toInt))) (fun (u : Int32 × Int32) (t : State) => match u with | (th, ln) => va_P D CL [(h0, .inr (11, MO ma th ln sv_nodes sv_many sv_directories sv_runsFrom sv_runs sv_read sv_wrong sv_isNamed sv_goes sv_goesSize sv_goesAt sv_targetParts sv_isRoot))] t.heap ∧ va_D (va_A [(h0, .inr (11, MO ma sv_thrown sv_length sv_nodes sv_many sv_directories sv_runsFrom sv_runs sv_read sv_wrong sv_isNamed sv_goes sv_goesSize sv_goesAt sv_targetParts sv_isRoot))] sz) [(h0, .inr (11, MO ma th ln sv_nodes sv_many sv_directories sv_runsFrom sv_runs sv_read sv_wrong sv_isNamed sv_goes sv_goesSize sv_goesAt sv_targetParts sv_isRoot))]) (va_A [(h0, .inr (11, MO ma sv_thrown sv_length sv_nodes sv_many sv_directories sv_runsFrom sv_runs sv_read sv_wrong sv_isNamed sv_goes sv_goesSize sv_goesAt sv_targetParts sv_isRoot))] sz)) 0 0 (va_A [(h0, .inr (11, MO ma sv_thrown sv_length sv_nodes sv_many sv_directories sv_runsFrom sv_runs sv_read sv_wrong sv_isNamed sv_goes sv_goesSize sv_goesAt sv_targetParts sv_isRoot))] sz) := by
  refine Met.ofW (cc := b_DiscMakerModel_end) (maxL := 2) (ret := some .boolean) (by decide) rfl ?_
  intro p e s m args below meth c s₁ B hml hv
  obtain ⟨rfl, hsz, hP, hK, hN, hD0⟩ := hv
  have hx := B.exec
  have hb := B.bytes
  have hr := B.returns
  have hts := atoms_spec (ws := w_DiscMakerModel_end) B.pre
  have ht9 := fun (w : Cond) (h : w ∈ lw_g) => hts w (List.mem_cons_of_mem _ h)
  have hown : s.vm.findClass "DiscMakerModel" = some m.cls := findClass_of_methodNamed B.named
  have hlocks := B.notSynchronized
  subst hsz
  have hD := hD0.self (sz := s.heap.size)
  generalize hAe : va_A [(h0, .inr (11, MO ma sv_thrown sv_length sv_nodes sv_many sv_directories sv_runsFrom sv_runs sv_read sv_wrong sv_isNamed sv_goes sv_goesSize sv_goesAt sv_targetParts sv_isRoot))] s.heap.size = A at hD ⊢
  have hA : ∀ q : Nat, s.heap.size ≤ q → A q := fun q h => by rw [← hAe]; exact Or.inr h
  have hS : va_S A s.heap s.heap [] := va_S.rf
  have hP : va_P D CL [(h0, .inr (11, MO ma sv_thrown sv_length sv_nodes sv_many sv_directories sv_runsFrom sv_runs sv_read sv_wrong sv_isNamed sv_goes sv_goesSize sv_goesAt sv_targetParts sv_isRoot))] s.heap := hP
  have hl := lv_entry [.ref h0, .int x] (n := 2) (Nat.le_of_ble_eq_true rfl)
  rw [lg_entry_eq]
  generalize (lg_sl [.ref h0, .int x] ++ List.replicate (2 - (lg_sl [.ref h0, .int x]).length) Slot.unset).toArray = ls at hl ⊢
  have hl : lv_has ls 2 [(0, .ref h0), (1, .int x)] := hl
  have L_m1 : ((-1) : Int32).toInt = (-1) := by decide
  have L_0 : (0 : Int32).toInt = 0 := by decide
  have L_1 : (1 : Int32).toInt = 1 := by decide
  refine lv_aload_n hx hb d_DiscMakerModel_end_0 rfl (lv_at hl 0 rfl) ?_
  refine lv_iconst (v := 0) hx hb d_DiscMakerModel_end_1 (by decide) ?_
  refine va_put (D := D) (ci := 11) (v := .int 0) (ty := .int) (C := "DiscMakerModel") (T := F_DiscMakerModel) (N := 48) hx hb ht9 in_DiscMakerModel t_DiscMakerModel t_DiscMakerModel_ok n_DiscMakerModel hown hK hP hD hS 0 rfl rfl 0 (by decide) (ht9 _ k1431) (fun _ h9 => h9) rfl (by decide +kernel) rfl rfl (Nat.le_of_ble_eq_true rfl) d_DiscMakerModel_end_2 (fun H locs hP hD hS => ?_)
  have hP : va_P D CL [(h0, .inr (11, MO ma 0 sv_length sv_nodes sv_many sv_directories sv_runsFrom sv_runs sv_read sv_wrong sv_isNamed sv_goes sv_goesSize sv_goesAt sv_targetParts sv_isRoot))] H := hP
  have hD : va_D A [(h0, .inr (11, MO ma 0 sv_length sv_nodes sv_many sv_directories sv_runsFrom sv_runs sv_read sv_wrong sv_isNamed sv_goes sv_goesSize sv_goesAt sv_targetParts sv_isRoot))] := hD
  refine lv_iload_n hx hb d_DiscMakerModel_end_5 rfl (lv_at hl 1 rfl) ?_
  refine lv_if_lt (tgt := 17) hx hb d_DiscMakerModel_end_6 (by decide) (fun h_9 => ?_) (fun h_9 => ?_)
  · skip
    have g6_5 : x.toInt < 0 := (i_lt rfl (by decide)).mp h_9
    refine lv_iconst (v := 0) hx hb d_DiscMakerModel_end_17 (by decide) ?_
    have hP9 := hP.sub (ws' := [(h0, .inr (11, MO ma 0 sv_length sv_nodes sv_many sv_directories sv_runsFrom sv_runs sv_read sv_wrong sv_isNamed sv_goes sv_goesSize sv_goesAt sv_targetParts sv_isRoot))]) [0] rfl
    have hD9 := hD.sub (ws' := [(h0, .inr (11, MO ma 0 sv_length sv_nodes sv_many sv_directories sv_runsFrom sv_runs sv_read sv_wrong sv_isNamed sv_goes sv_goesSize sv_goesAt sv_targetParts sv_isRoot))]) [0] (by decide) rfl
    exact W.zret (v := 0) hx hb hr (by first | rfl | decide | exact i_narZ (by omega)) (fun t ht hW => ⟨⟨0, (0, sv_length), rfl, (by (try dsimp only); first | omega | assumption | trivial), by rw [ht]; exact hP9, hD9⟩, hS.F ht⟩) hS.2.2 d_DiscMakerModel_end_18
  · skip
    have g6_5 : ¬ x.toInt < 0 := fun h8 => h_9 ((i_lt rfl (by decide)).mpr h8)
    refine lv_iload_n hx hb d_DiscMakerModel_end_9 rfl (lv_at hl 1 rfl) ?_
    refine lv_aload_n hx hb d_DiscMakerModel_end_10 rfl (lv_at hl 0 rfl) ?_
    refine va_get (D := D) (ci := 11) (v := .int sv_length) (C := "DiscMakerModel") (T := F_DiscMakerModel) (N := 48) hx hb ht9 in_DiscMakerModel hown hK hP 0 rfl rfl 2 (by decide) (ht9 _ k1433) (fun _ h9 => h9) rfl d_DiscMakerModel_end_11 ?_
    refine lv_icmp_le (tgt := 19) hx hb d_DiscMakerModel_end_14 (by decide) (fun h_9 => ?_) (fun h_9 => ?_)
    · skip
      have g14_11 : x.toInt ≤ sv_length.toInt := (i_le rfl rfl).mp h_9
      refine lv_aload_n hx hb d_DiscMakerModel_end_19 rfl (lv_at hl 0 rfl) ?_
      refine lv_iload_n hx hb d_DiscMakerModel_end_20 rfl (lv_at hl 1 rfl) ?_
      refine va_put (D := D) (ci := 11) (v := .int x) (ty := .int) (C := "DiscMakerModel") (T := F_DiscMakerModel) (N := 48) hx hb ht9 in_DiscMakerModel t_DiscMakerModel t_DiscMakerModel_ok n_DiscMakerModel hown hK hP hD hS 0 rfl rfl 2 (by decide) (ht9 _ k1433) (fun _ h9 => h9) rfl (by decide +kernel) rfl rfl (Nat.le_of_ble_eq_true rfl) d_DiscMakerModel_end_21 (fun H locs hP hD hS => ?_)
      have hP : va_P D CL [(h0, .inr (11, MO ma 0 x sv_nodes sv_many sv_directories sv_runsFrom sv_runs sv_read sv_wrong sv_isNamed sv_goes sv_goesSize sv_goesAt sv_targetParts sv_isRoot))] H := hP
      have hD : va_D A [(h0, .inr (11, MO ma 0 x sv_nodes sv_many sv_directories sv_runsFrom sv_runs sv_read sv_wrong sv_isNamed sv_goes sv_goesSize sv_goesAt sv_targetParts sv_isRoot))] := hD
      refine lv_iconst (v := 1) hx hb d_DiscMakerModel_end_24 (by decide) ?_
      have hP9 := hP.sub (ws' := [(h0, .inr (11, MO ma 0 x sv_nodes sv_many sv_directories sv_runsFrom sv_runs sv_read sv_wrong sv_isNamed sv_goes sv_goesSize sv_goesAt sv_targetParts sv_isRoot))]) [0] rfl
      have hD9 := hD.sub (ws' := [(h0, .inr (11, MO ma 0 x sv_nodes sv_many sv_directories sv_runsFrom sv_runs sv_read sv_wrong sv_isNamed sv_goes sv_goesSize sv_goesAt sv_targetParts sv_isRoot))]) [0] (by decide) rfl
      exact W.zret (v := 1) hx hb hr (by first | rfl | decide | exact i_narZ (by omega)) (fun t ht hW => ⟨⟨1, (0, x), rfl, (by (try dsimp only); first | omega | assumption | trivial), by rw [ht]; exact hP9, hD9⟩, hS.F ht⟩) hS.2.2 d_DiscMakerModel_end_25
    · skip
      have g14_11 : ¬ x.toInt ≤ sv_length.toInt := fun h8 => h_9 ((i_le rfl rfl).mpr h8)
      refine lv_iconst (v := 0) hx hb d_DiscMakerModel_end_17 (by decide) ?_
      have hP9 := hP.sub (ws' := [(h0, .inr (11, MO ma 0 sv_length sv_nodes sv_many sv_directories sv_runsFrom sv_runs sv_read sv_wrong sv_isNamed sv_goes sv_goesSize sv_goesAt sv_targetParts sv_isRoot))]) [0] rfl
      have hD9 := hD.sub (ws' := [(h0, .inr (11, MO ma 0 sv_length sv_nodes sv_many sv_directories sv_runsFrom sv_runs sv_read sv_wrong sv_isNamed sv_goes sv_goesSize sv_goesAt sv_targetParts sv_isRoot))]) [0] (by decide) rfl
      exact W.zret (v := 0) hx hb hr (by first | rfl | decide | exact i_narZ (by omega)) (fun t ht hW => ⟨⟨0, (0, sv_length), rfl, (by (try dsimp only); first | omega | assumption | trivial), by rw [ht]; exact hP9, hD9⟩, hS.F ht⟩) hS.2.2 d_DiscMakerModel_end_18

theorem d_DiscMakerModel_isLetter_0 : decode b_DiscMakerModel_isLetter 0 = .ok (.iload_n 0, 1) := by decide +kernel
theorem d_DiscMakerModel_isLetter_1 : decode b_DiscMakerModel_isLetter 1 = .ok (.bipush 97, 2) := by decide +kernel
theorem d_DiscMakerModel_isLetter_3 : decode b_DiscMakerModel_isLetter 3 = .ok (.if_icmp .lt 9, 3) := by decide +kernel
theorem d_DiscMakerModel_isLetter_6 : decode b_DiscMakerModel_isLetter 6 = .ok (.iload_n 0, 1) := by decide +kernel
theorem d_DiscMakerModel_isLetter_7 : decode b_DiscMakerModel_isLetter 7 = .ok (.bipush 122, 2) := by decide +kernel
theorem d_DiscMakerModel_isLetter_9 : decode b_DiscMakerModel_isLetter 9 = .ok (.if_icmp .le 15, 3) := by decide +kernel
theorem d_DiscMakerModel_isLetter_12 : decode b_DiscMakerModel_isLetter 12 = .ok (.iload_n 0, 1) := by decide +kernel
theorem d_DiscMakerModel_isLetter_13 : decode b_DiscMakerModel_isLetter 13 = .ok (.bipush 65, 2) := by decide +kernel
theorem d_DiscMakerModel_isLetter_15 : decode b_DiscMakerModel_isLetter 15 = .ok (.if_icmp .lt 13, 3) := by decide +kernel
theorem d_DiscMakerModel_isLetter_18 : decode b_DiscMakerModel_isLetter 18 = .ok (.iload_n 0, 1) := by decide +kernel
theorem d_DiscMakerModel_isLetter_19 : decode b_DiscMakerModel_isLetter 19 = .ok (.bipush 90, 2) := by decide +kernel
theorem d_DiscMakerModel_isLetter_21 : decode b_DiscMakerModel_isLetter 21 = .ok (.if_icmp .gt 7, 3) := by decide +kernel
theorem d_DiscMakerModel_isLetter_24 : decode b_DiscMakerModel_isLetter 24 = .ok (.iconst 1, 1) := by decide +kernel
theorem d_DiscMakerModel_isLetter_25 : decode b_DiscMakerModel_isLetter 25 = .ok (.goto 4, 3) := by decide +kernel
theorem d_DiscMakerModel_isLetter_28 : decode b_DiscMakerModel_isLetter 28 = .ok (.iconst 0, 1) := by decide +kernel
theorem d_DiscMakerModel_isLetter_29 : decode b_DiscMakerModel_isLetter 29 = .ok (.ireturn, 1) := by decide +kernel
set_option maxHeartbeats 4000000 in
set_option maxRecDepth 100000 in
theorem m_isLetter (l : Launch) (D : va_G) (cB cI cJ cZ cN cF : ClassId) (sz : Nat) (x : Int32) : Met l y_DiscMakerModel_isLetter w_DiscMakerModel_isLetter ({ frames := 0, cells := 0, slots := 0, locals := 0 }) (va_Pc [.int x] (fun U => U.heap.size = sz ∧ va_P D CL [] U.heap ∧ va_K D CL (TY cB cI cJ cZ cN cF) U ∧ NN U ∧ va_D (fun _ => True) [])) (va_Qi (fun (r : Int32) (u : Unit) => (0 ≤ r.toInt ∧ r.toInt ≤ 1)) (fun (u : Unit) (t : State) => match u with | () => va_P D CL [] t.heap ∧ va_D (va_A [] sz) []) (va_A [] sz)) 0 0 (va_A [] sz) := by
  refine Met.ofW (cc := b_DiscMakerModel_isLetter) (maxL := 1) (ret := some .boolean) (by decide) rfl ?_
  intro p e s m args below meth c s₁ B hml hv
  obtain ⟨rfl, hsz, hP, hK, hN, hD0⟩ := hv
  have hx := B.exec
  have hb := B.bytes
  have hr := B.returns
  have hts := atoms_spec (ws := w_DiscMakerModel_isLetter) B.pre
  have ht9 := fun (w : Cond) (h : w ∈ lw_g) => hts w (List.mem_cons_of_mem _ h)
  have hown : s.vm.findClass "DiscMakerModel" = some m.cls := findClass_of_methodNamed B.named
  have hlocks := B.notSynchronized
  subst hsz
  have hD := hD0.self (sz := s.heap.size)
  generalize hAe : va_A [] s.heap.size = A at hD ⊢
  have hA : ∀ q : Nat, s.heap.size ≤ q → A q := fun q h => by rw [← hAe]; exact Or.inr h
  have hS : va_S A s.heap s.heap [] := va_S.rf
  have hP : va_P D CL [] s.heap := hP
  have hl := lv_entry [.int x] (n := 1) (Nat.le_of_ble_eq_true rfl)
  rw [lg_entry_eq]
  generalize (lg_sl [.int x] ++ List.replicate (1 - (lg_sl [.int x]).length) Slot.unset).toArray = ls at hl ⊢
  have hl : lv_has ls 1 [(0, .int x)] := hl
  have L_m1 : ((-1) : Int32).toInt = (-1) := by decide
  have L_0 : (0 : Int32).toInt = 0 := by decide
  have L_1 : (1 : Int32).toInt = 1 := by decide
  have L_65 : (65 : Int32).toInt = 65 := by decide
  have L_90 : (90 : Int32).toInt = 90 := by decide
  have L_97 : (97 : Int32).toInt = 97 := by decide
  have L_122 : (122 : Int32).toInt = 122 := by decide
  refine lv_iload_n hx hb d_DiscMakerModel_isLetter_0 rfl (lv_at hl 0 rfl) ?_
  refine lv_bipush (v := 97) hx hb d_DiscMakerModel_isLetter_1 (by decide) ?_
  refine lv_icmp_lt (tgt := 12) hx hb d_DiscMakerModel_isLetter_3 (by decide) (fun h_9 => ?_) (fun h_9 => ?_)
  · skip
    have g3_3 : x.toInt < 97 := (i_lt rfl (by decide)).mp h_9
    refine lv_iload_n hx hb d_DiscMakerModel_isLetter_12 rfl (lv_at hl 0 rfl) ?_
    refine lv_bipush (v := 65) hx hb d_DiscMakerModel_isLetter_13 (by decide) ?_
    refine lv_icmp_lt (tgt := 28) hx hb d_DiscMakerModel_isLetter_15 (by decide) (fun h_9 => ?_) (fun h_9 => ?_)
    · skip
      have g15_6 : x.toInt < 65 := (i_lt rfl (by decide)).mp h_9
      refine lv_iconst (v := 0) hx hb d_DiscMakerModel_isLetter_28 (by decide) ?_
      have hP9 := hP.sub (ws' := []) [] rfl
      have hD9 := hD.sub (ws' := []) [] (by decide) rfl
      exact W.zret (v := 0) hx hb hr (by first | rfl | decide | exact i_narZ (by omega)) (fun t ht hW => ⟨⟨0, (), rfl, (by (try dsimp only); first | omega | assumption | trivial), by rw [ht]; exact hP9, hD9⟩, hS.F ht⟩) hS.2.2 d_DiscMakerModel_isLetter_29
    · skip
      have g15_6 : ¬ x.toInt < 65 := fun h8 => h_9 ((i_lt rfl (by decide)).mpr h8)
      refine lv_iload_n hx hb d_DiscMakerModel_isLetter_18 rfl (lv_at hl 0 rfl) ?_
      refine lv_bipush (v := 90) hx hb d_DiscMakerModel_isLetter_19 (by decide) ?_
      refine lv_icmp_gt (tgt := 28) hx hb d_DiscMakerModel_isLetter_21 (by decide) (fun h_9 => ?_) (fun h_9 => ?_)
      · skip
        have g21_11 : 90 < x.toInt := (i_lt (by decide) rfl).mp h_9
        refine lv_iconst (v := 0) hx hb d_DiscMakerModel_isLetter_28 (by decide) ?_
        have hP9 := hP.sub (ws' := []) [] rfl
        have hD9 := hD.sub (ws' := []) [] (by decide) rfl
        exact W.zret (v := 0) hx hb hr (by first | rfl | decide | exact i_narZ (by omega)) (fun t ht hW => ⟨⟨0, (), rfl, (by (try dsimp only); first | omega | assumption | trivial), by rw [ht]; exact hP9, hD9⟩, hS.F ht⟩) hS.2.2 d_DiscMakerModel_isLetter_29
      · skip
        have g21_11 : ¬ 90 < x.toInt := fun h8 => h_9 ((i_lt (by decide) rfl).mpr h8)
        refine lv_iconst (v := 1) hx hb d_DiscMakerModel_isLetter_24 (by decide) ?_
        refine lv_goto (tgt := 29) hx hb d_DiscMakerModel_isLetter_25 (by decide) ?_
        have hP9 := hP.sub (ws' := []) [] rfl
        have hD9 := hD.sub (ws' := []) [] (by decide) rfl
        exact W.zret (v := 1) hx hb hr (by first | rfl | decide | exact i_narZ (by omega)) (fun t ht hW => ⟨⟨1, (), rfl, (by (try dsimp only); first | omega | assumption | trivial), by rw [ht]; exact hP9, hD9⟩, hS.F ht⟩) hS.2.2 d_DiscMakerModel_isLetter_29
  · skip
    have g3_3 : ¬ x.toInt < 97 := fun h8 => h_9 ((i_lt rfl (by decide)).mpr h8)
    refine lv_iload_n hx hb d_DiscMakerModel_isLetter_6 rfl (lv_at hl 0 rfl) ?_
    refine lv_bipush (v := 122) hx hb d_DiscMakerModel_isLetter_7 (by decide) ?_
    refine lv_icmp_le (tgt := 24) hx hb d_DiscMakerModel_isLetter_9 (by decide) (fun h_9 => ?_) (fun h_9 => ?_)
    · skip
      have g9_19 : x.toInt ≤ 122 := (i_le rfl (by decide)).mp h_9
      refine lv_iconst (v := 1) hx hb d_DiscMakerModel_isLetter_24 (by decide) ?_
      refine lv_goto (tgt := 29) hx hb d_DiscMakerModel_isLetter_25 (by decide) ?_
      have hP9 := hP.sub (ws' := []) [] rfl
      have hD9 := hD.sub (ws' := []) [] (by decide) rfl
      exact W.zret (v := 1) hx hb hr (by first | rfl | decide | exact i_narZ (by omega)) (fun t ht hW => ⟨⟨1, (), rfl, (by (try dsimp only); first | omega | assumption | trivial), by rw [ht]; exact hP9, hD9⟩, hS.F ht⟩) hS.2.2 d_DiscMakerModel_isLetter_29
    · skip
      have g9_19 : ¬ x.toInt ≤ 122 := fun h8 => h_9 ((i_le rfl (by decide)).mpr h8)
      refine lv_iload_n hx hb d_DiscMakerModel_isLetter_12 rfl (lv_at hl 0 rfl) ?_
      refine lv_bipush (v := 65) hx hb d_DiscMakerModel_isLetter_13 (by decide) ?_
      refine lv_icmp_lt (tgt := 28) hx hb d_DiscMakerModel_isLetter_15 (by decide) (fun h_9 => ?_) (fun h_9 => ?_)
      · skip
        have g15_25 : x.toInt < 65 := (i_lt rfl (by decide)).mp h_9
        refine lv_iconst (v := 0) hx hb d_DiscMakerModel_isLetter_28 (by decide) ?_
        have hP9 := hP.sub (ws' := []) [] rfl
        have hD9 := hD.sub (ws' := []) [] (by decide) rfl
        exact W.zret (v := 0) hx hb hr (by first | rfl | decide | exact i_narZ (by omega)) (fun t ht hW => ⟨⟨0, (), rfl, (by (try dsimp only); first | omega | assumption | trivial), by rw [ht]; exact hP9, hD9⟩, hS.F ht⟩) hS.2.2 d_DiscMakerModel_isLetter_29
      · skip
        have g15_25 : ¬ x.toInt < 65 := fun h8 => h_9 ((i_lt rfl (by decide)).mpr h8)
        refine lv_iload_n hx hb d_DiscMakerModel_isLetter_18 rfl (lv_at hl 0 rfl) ?_
        refine lv_bipush (v := 90) hx hb d_DiscMakerModel_isLetter_19 (by decide) ?_
        refine lv_icmp_gt (tgt := 28) hx hb d_DiscMakerModel_isLetter_21 (by decide) (fun h_9 => ?_) (fun h_9 => ?_)
        · skip
          have g21_30 : 90 < x.toInt := (i_lt (by decide) rfl).mp h_9
          refine lv_iconst (v := 0) hx hb d_DiscMakerModel_isLetter_28 (by decide) ?_
          have hP9 := hP.sub (ws' := []) [] rfl
          have hD9 := hD.sub (ws' := []) [] (by decide) rfl
          exact W.zret (v := 0) hx hb hr (by first | rfl | decide | exact i_narZ (by omega)) (fun t ht hW => ⟨⟨0, (), rfl, (by (try dsimp only); first | omega | assumption | trivial), by rw [ht]; exact hP9, hD9⟩, hS.F ht⟩) hS.2.2 d_DiscMakerModel_isLetter_29
        · skip
          have g21_30 : ¬ 90 < x.toInt := fun h8 => h_9 ((i_lt (by decide) rfl).mpr h8)
          refine lv_iconst (v := 1) hx hb d_DiscMakerModel_isLetter_24 (by decide) ?_
          refine lv_goto (tgt := 29) hx hb d_DiscMakerModel_isLetter_25 (by decide) ?_
          have hP9 := hP.sub (ws' := []) [] rfl
          have hD9 := hD.sub (ws' := []) [] (by decide) rfl
          exact W.zret (v := 1) hx hb hr (by first | rfl | decide | exact i_narZ (by omega)) (fun t ht hW => ⟨⟨1, (), rfl, (by (try dsimp only); first | omega | assumption | trivial), by rw [ht]; exact hP9, hD9⟩, hS.F ht⟩) hS.2.2 d_DiscMakerModel_isLetter_29

theorem d_DiscMakerModel_isDigit_0 : decode b_DiscMakerModel_isDigit 0 = .ok (.iload_n 0, 1) := by decide +kernel
theorem d_DiscMakerModel_isDigit_1 : decode b_DiscMakerModel_isDigit 1 = .ok (.bipush 48, 2) := by decide +kernel
theorem d_DiscMakerModel_isDigit_3 : decode b_DiscMakerModel_isDigit 3 = .ok (.if_icmp .lt 13, 3) := by decide +kernel
theorem d_DiscMakerModel_isDigit_6 : decode b_DiscMakerModel_isDigit 6 = .ok (.iload_n 0, 1) := by decide +kernel
theorem d_DiscMakerModel_isDigit_7 : decode b_DiscMakerModel_isDigit 7 = .ok (.bipush 57, 2) := by decide +kernel
theorem d_DiscMakerModel_isDigit_9 : decode b_DiscMakerModel_isDigit 9 = .ok (.if_icmp .gt 7, 3) := by decide +kernel
theorem d_DiscMakerModel_isDigit_12 : decode b_DiscMakerModel_isDigit 12 = .ok (.iconst 1, 1) := by decide +kernel
theorem d_DiscMakerModel_isDigit_13 : decode b_DiscMakerModel_isDigit 13 = .ok (.goto 4, 3) := by decide +kernel
theorem d_DiscMakerModel_isDigit_16 : decode b_DiscMakerModel_isDigit 16 = .ok (.iconst 0, 1) := by decide +kernel
theorem d_DiscMakerModel_isDigit_17 : decode b_DiscMakerModel_isDigit 17 = .ok (.ireturn, 1) := by decide +kernel
set_option maxHeartbeats 4000000 in
set_option maxRecDepth 100000 in
theorem m_isDigit (l : Launch) (D : va_G) (cB cI cJ cZ cN cF : ClassId) (sz : Nat) (x : Int32) : Met l y_DiscMakerModel_isDigit w_DiscMakerModel_isDigit ({ frames := 0, cells := 0, slots := 0, locals := 0 }) (va_Pc [.int x] (fun U => U.heap.size = sz ∧ va_P D CL [] U.heap ∧ va_K D CL (TY cB cI cJ cZ cN cF) U ∧ NN U ∧ va_D (fun _ => True) [])) (va_Qi (fun (r : Int32) (u : Unit) => (0 ≤ r.toInt ∧ r.toInt ≤ 1)) (fun (u : Unit) (t : State) => match u with | () => va_P D CL [] t.heap ∧ va_D (va_A [] sz) []) (va_A [] sz)) 0 0 (va_A [] sz) := by
  refine Met.ofW (cc := b_DiscMakerModel_isDigit) (maxL := 1) (ret := some .boolean) (by decide) rfl ?_
  intro p e s m args below meth c s₁ B hml hv
  obtain ⟨rfl, hsz, hP, hK, hN, hD0⟩ := hv
  have hx := B.exec
  have hb := B.bytes
  have hr := B.returns
  have hts := atoms_spec (ws := w_DiscMakerModel_isDigit) B.pre
  have ht9 := fun (w : Cond) (h : w ∈ lw_g) => hts w (List.mem_cons_of_mem _ h)
  have hown : s.vm.findClass "DiscMakerModel" = some m.cls := findClass_of_methodNamed B.named
  have hlocks := B.notSynchronized
  subst hsz
  have hD := hD0.self (sz := s.heap.size)
  generalize hAe : va_A [] s.heap.size = A at hD ⊢
  have hA : ∀ q : Nat, s.heap.size ≤ q → A q := fun q h => by rw [← hAe]; exact Or.inr h
  have hS : va_S A s.heap s.heap [] := va_S.rf
  have hP : va_P D CL [] s.heap := hP
  have hl := lv_entry [.int x] (n := 1) (Nat.le_of_ble_eq_true rfl)
  rw [lg_entry_eq]
  generalize (lg_sl [.int x] ++ List.replicate (1 - (lg_sl [.int x]).length) Slot.unset).toArray = ls at hl ⊢
  have hl : lv_has ls 1 [(0, .int x)] := hl
  have L_m1 : ((-1) : Int32).toInt = (-1) := by decide
  have L_0 : (0 : Int32).toInt = 0 := by decide
  have L_1 : (1 : Int32).toInt = 1 := by decide
  have L_48 : (48 : Int32).toInt = 48 := by decide
  have L_57 : (57 : Int32).toInt = 57 := by decide
  refine lv_iload_n hx hb d_DiscMakerModel_isDigit_0 rfl (lv_at hl 0 rfl) ?_
  refine lv_bipush (v := 48) hx hb d_DiscMakerModel_isDigit_1 (by decide) ?_
  refine lv_icmp_lt (tgt := 16) hx hb d_DiscMakerModel_isDigit_3 (by decide) (fun h_9 => ?_) (fun h_9 => ?_)
  · skip
    have g3_3 : x.toInt < 48 := (i_lt rfl (by decide)).mp h_9
    refine lv_iconst (v := 0) hx hb d_DiscMakerModel_isDigit_16 (by decide) ?_
    have hP9 := hP.sub (ws' := []) [] rfl
    have hD9 := hD.sub (ws' := []) [] (by decide) rfl
    exact W.zret (v := 0) hx hb hr (by first | rfl | decide | exact i_narZ (by omega)) (fun t ht hW => ⟨⟨0, (), rfl, (by (try dsimp only); first | omega | assumption | trivial), by rw [ht]; exact hP9, hD9⟩, hS.F ht⟩) hS.2.2 d_DiscMakerModel_isDigit_17
  · skip
    have g3_3 : ¬ x.toInt < 48 := fun h8 => h_9 ((i_lt rfl (by decide)).mpr h8)
    refine lv_iload_n hx hb d_DiscMakerModel_isDigit_6 rfl (lv_at hl 0 rfl) ?_
    refine lv_bipush (v := 57) hx hb d_DiscMakerModel_isDigit_7 (by decide) ?_
    refine lv_icmp_gt (tgt := 16) hx hb d_DiscMakerModel_isDigit_9 (by decide) (fun h_9 => ?_) (fun h_9 => ?_)
    · skip
      have g9_8 : 57 < x.toInt := (i_lt (by decide) rfl).mp h_9
      refine lv_iconst (v := 0) hx hb d_DiscMakerModel_isDigit_16 (by decide) ?_
      have hP9 := hP.sub (ws' := []) [] rfl
      have hD9 := hD.sub (ws' := []) [] (by decide) rfl
      exact W.zret (v := 0) hx hb hr (by first | rfl | decide | exact i_narZ (by omega)) (fun t ht hW => ⟨⟨0, (), rfl, (by (try dsimp only); first | omega | assumption | trivial), by rw [ht]; exact hP9, hD9⟩, hS.F ht⟩) hS.2.2 d_DiscMakerModel_isDigit_17
    · skip
      have g9_8 : ¬ 57 < x.toInt := fun h8 => h_9 ((i_lt (by decide) rfl).mpr h8)
      refine lv_iconst (v := 1) hx hb d_DiscMakerModel_isDigit_12 (by decide) ?_
      refine lv_goto (tgt := 17) hx hb d_DiscMakerModel_isDigit_13 (by decide) ?_
      have hP9 := hP.sub (ws' := []) [] rfl
      have hD9 := hD.sub (ws' := []) [] (by decide) rfl
      exact W.zret (v := 1) hx hb hr (by first | rfl | decide | exact i_narZ (by omega)) (fun t ht hW => ⟨⟨1, (), rfl, (by (try dsimp only); first | omega | assumption | trivial), by rw [ht]; exact hP9, hD9⟩, hS.F ht⟩) hS.2.2 d_DiscMakerModel_isDigit_17

theorem d_DiscMakerModel_isNumber_0 : decode b_DiscMakerModel_isNumber 0 = .ok (.iload_n 0, 1) := by decide +kernel
theorem d_DiscMakerModel_isNumber_1 : decode b_DiscMakerModel_isNumber 1 = .ok (.ifCond .lt 13, 3) := by decide +kernel
theorem d_DiscMakerModel_isNumber_4 : decode b_DiscMakerModel_isNumber 4 = .ok (.iload_n 0, 1) := by decide +kernel
theorem d_DiscMakerModel_isNumber_5 : decode b_DiscMakerModel_isNumber 5 = .ok (.ldc 135, 2) := by decide +kernel
theorem d_DiscMakerModel_isNumber_7 : decode b_DiscMakerModel_isNumber 7 = .ok (.if_icmp .gt 7, 3) := by decide +kernel
theorem d_DiscMakerModel_isNumber_10 : decode b_DiscMakerModel_isNumber 10 = .ok (.iconst 1, 1) := by decide +kernel
theorem d_DiscMakerModel_isNumber_11 : decode b_DiscMakerModel_isNumber 11 = .ok (.goto 4, 3) := by decide +kernel
theorem d_DiscMakerModel_isNumber_14 : decode b_DiscMakerModel_isNumber 14 = .ok (.iconst 0, 1) := by decide +kernel
theorem d_DiscMakerModel_isNumber_15 : decode b_DiscMakerModel_isNumber 15 = .ok (.ireturn, 1) := by decide +kernel
set_option maxHeartbeats 4000000 in
set_option maxRecDepth 100000 in
theorem m_isNumber (l : Launch) (D : va_G) (cB cI cJ cZ cN cF : ClassId) (sz : Nat) (x : Int32) : Met l y_DiscMakerModel_isNumber w_DiscMakerModel_isNumber ({ frames := 0, cells := 0, slots := 0, locals := 0 }) (va_Pc [.int x] (fun U => U.heap.size = sz ∧ va_P D CL [] U.heap ∧ va_K D CL (TY cB cI cJ cZ cN cF) U ∧ NN U ∧ va_D (fun _ => True) [])) (va_Qi (fun (r : Int32) (u : Unit) => (0 ≤ r.toInt ∧ r.toInt ≤ 1)) (fun (u : Unit) (t : State) => match u with | () => va_P D CL [] t.heap ∧ va_D (va_A [] sz) []) (va_A [] sz)) 0 0 (va_A [] sz) := by
  refine Met.ofW (cc := b_DiscMakerModel_isNumber) (maxL := 1) (ret := some .boolean) (by decide) rfl ?_
  intro p e s m args below meth c s₁ B hml hv
  obtain ⟨rfl, hsz, hP, hK, hN, hD0⟩ := hv
  have hx := B.exec
  have hb := B.bytes
  have hr := B.returns
  have hts := atoms_spec (ws := w_DiscMakerModel_isNumber) B.pre
  have ht9 := fun (w : Cond) (h : w ∈ lw_g) => hts w (List.mem_cons_of_mem _ h)
  have hown : s.vm.findClass "DiscMakerModel" = some m.cls := findClass_of_methodNamed B.named
  have hlocks := B.notSynchronized
  subst hsz
  have hD := hD0.self (sz := s.heap.size)
  generalize hAe : va_A [] s.heap.size = A at hD ⊢
  have hA : ∀ q : Nat, s.heap.size ≤ q → A q := fun q h => by rw [← hAe]; exact Or.inr h
  have hS : va_S A s.heap s.heap [] := va_S.rf
  have hP : va_P D CL [] s.heap := hP
  have hl := lv_entry [.int x] (n := 1) (Nat.le_of_ble_eq_true rfl)
  rw [lg_entry_eq]
  generalize (lg_sl [.int x] ++ List.replicate (1 - (lg_sl [.int x]).length) Slot.unset).toArray = ls at hl ⊢
  have hl : lv_has ls 1 [(0, .int x)] := hl
  have L_m1 : ((-1) : Int32).toInt = (-1) := by decide
  have L_0 : (0 : Int32).toInt = 0 := by decide
  have L_1 : (1 : Int32).toInt = 1 := by decide
  have L_1000000 : (1000000 : Int32).toInt = 1000000 := by decide
  refine lv_iload_n hx hb d_DiscMakerModel_isNumber_0 rfl (lv_at hl 0 rfl) ?_
  refine lv_if_lt (tgt := 14) hx hb d_DiscMakerModel_isNumber_1 (by decide) (fun h_9 => ?_) (fun h_9 => ?_)
  · skip
    have g1_2 : x.toInt < 0 := (i_lt rfl (by decide)).mp h_9
    refine lv_iconst (v := 0) hx hb d_DiscMakerModel_isNumber_14 (by decide) ?_
    have hP9 := hP.sub (ws' := []) [] rfl
    have hD9 := hD.sub (ws' := []) [] (by decide) rfl
    exact W.zret (v := 0) hx hb hr (by first | rfl | decide | exact i_narZ (by omega)) (fun t ht hW => ⟨⟨0, (), rfl, (by (try dsimp only); first | omega | assumption | trivial), by rw [ht]; exact hP9, hD9⟩, hS.F ht⟩) hS.2.2 d_DiscMakerModel_isNumber_15
  · skip
    have g1_2 : ¬ x.toInt < 0 := fun h8 => h_9 ((i_lt rfl (by decide)).mpr h8)
    refine lv_iload_n hx hb d_DiscMakerModel_isNumber_4 rfl (lv_at hl 0 rfl) ?_
    refine lv_ldc (v := 1000000) hx hb hown (ht9 _ k1593) d_DiscMakerModel_isNumber_5 ?_
    refine lv_icmp_gt (tgt := 14) hx hb d_DiscMakerModel_isNumber_7 (by decide) (fun h_9 => ?_) (fun h_9 => ?_)
    · skip
      have g7_7 : 1000000 < x.toInt := (i_lt (by decide) rfl).mp h_9
      refine lv_iconst (v := 0) hx hb d_DiscMakerModel_isNumber_14 (by decide) ?_
      have hP9 := hP.sub (ws' := []) [] rfl
      have hD9 := hD.sub (ws' := []) [] (by decide) rfl
      exact W.zret (v := 0) hx hb hr (by first | rfl | decide | exact i_narZ (by omega)) (fun t ht hW => ⟨⟨0, (), rfl, (by (try dsimp only); first | omega | assumption | trivial), by rw [ht]; exact hP9, hD9⟩, hS.F ht⟩) hS.2.2 d_DiscMakerModel_isNumber_15
    · skip
      have g7_7 : ¬ 1000000 < x.toInt := fun h8 => h_9 ((i_lt (by decide) rfl).mpr h8)
      refine lv_iconst (v := 1) hx hb d_DiscMakerModel_isNumber_10 (by decide) ?_
      refine lv_goto (tgt := 15) hx hb d_DiscMakerModel_isNumber_11 (by decide) ?_
      have hP9 := hP.sub (ws' := []) [] rfl
      have hD9 := hD.sub (ws' := []) [] (by decide) rfl
      exact W.zret (v := 1) hx hb hr (by first | rfl | decide | exact i_narZ (by omega)) (fun t ht hW => ⟨⟨1, (), rfl, (by (try dsimp only); first | omega | assumption | trivial), by rw [ht]; exact hP9, hD9⟩, hS.F ht⟩) hS.2.2 d_DiscMakerModel_isNumber_15

theorem d_DiscMakerModel_isName_0 : decode b_DiscMakerModel_isName 0 = .ok (.iload_n 1, 1) := by decide +kernel
theorem d_DiscMakerModel_isName_1 : decode b_DiscMakerModel_isName 1 = .ok (.iconst 1, 1) := by decide +kernel
theorem d_DiscMakerModel_isName_2 : decode b_DiscMakerModel_isName 2 = .ok (.if_icmp .lt 45, 3) := by decide +kernel
theorem d_DiscMakerModel_isName_5 : decode b_DiscMakerModel_isName 5 = .ok (.iload_n 1, 1) := by decide +kernel
theorem d_DiscMakerModel_isName_6 : decode b_DiscMakerModel_isName 6 = .ok (.bipush 30, 2) := by decide +kernel
theorem d_DiscMakerModel_isName_8 : decode b_DiscMakerModel_isName 8 = .ok (.if_icmp .gt 39, 3) := by decide +kernel
theorem d_DiscMakerModel_isName_11 : decode b_DiscMakerModel_isName 11 = .ok (.aload_n 0, 1) := by decide +kernel
theorem d_DiscMakerModel_isName_12 : decode b_DiscMakerModel_isName 12 = .ok (.getfield 7, 3) := by decide +kernel
theorem d_DiscMakerModel_isName_15 : decode b_DiscMakerModel_isName 15 = .ok (.iconst 0, 1) := by decide +kernel
theorem d_DiscMakerModel_isName_16 : decode b_DiscMakerModel_isName 16 = .ok (.baload, 1) := by decide +kernel
theorem d_DiscMakerModel_isName_17 : decode b_DiscMakerModel_isName 17 = .ok (.bipush 46, 2) := by decide +kernel
theorem d_DiscMakerModel_isName_19 : decode b_DiscMakerModel_isName 19 = .ok (.if_icmp .ne 24, 3) := by decide +kernel
theorem d_DiscMakerModel_isName_22 : decode b_DiscMakerModel_isName 22 = .ok (.iload_n 1, 1) := by decide +kernel
theorem d_DiscMakerModel_isName_23 : decode b_DiscMakerModel_isName 23 = .ok (.iconst 1, 1) := by decide +kernel
theorem d_DiscMakerModel_isName_24 : decode b_DiscMakerModel_isName 24 = .ok (.if_icmp .eq 23, 3) := by decide +kernel
theorem d_DiscMakerModel_isName_27 : decode b_DiscMakerModel_isName 27 = .ok (.iload_n 1, 1) := by decide +kernel
theorem d_DiscMakerModel_isName_28 : decode b_DiscMakerModel_isName 28 = .ok (.iconst 2, 1) := by decide +kernel
theorem d_DiscMakerModel_isName_29 : decode b_DiscMakerModel_isName 29 = .ok (.if_icmp .ne 14, 3) := by decide +kernel
theorem d_DiscMakerModel_isName_32 : decode b_DiscMakerModel_isName 32 = .ok (.aload_n 0, 1) := by decide +kernel
theorem d_DiscMakerModel_isName_33 : decode b_DiscMakerModel_isName 33 = .ok (.getfield 7, 3) := by decide +kernel
theorem d_DiscMakerModel_isName_36 : decode b_DiscMakerModel_isName 36 = .ok (.iconst 1, 1) := by decide +kernel
theorem d_DiscMakerModel_isName_37 : decode b_DiscMakerModel_isName 37 = .ok (.baload, 1) := by decide +kernel
theorem d_DiscMakerModel_isName_38 : decode b_DiscMakerModel_isName 38 = .ok (.bipush 46, 2) := by decide +kernel
theorem d_DiscMakerModel_isName_40 : decode b_DiscMakerModel_isName 40 = .ok (.if_icmp .eq 7, 3) := by decide +kernel
theorem d_DiscMakerModel_isName_43 : decode b_DiscMakerModel_isName 43 = .ok (.iconst 1, 1) := by decide +kernel
theorem d_DiscMakerModel_isName_44 : decode b_DiscMakerModel_isName 44 = .ok (.goto 4, 3) := by decide +kernel
theorem d_DiscMakerModel_isName_47 : decode b_DiscMakerModel_isName 47 = .ok (.iconst 0, 1) := by decide +kernel
theorem d_DiscMakerModel_isName_48 : decode b_DiscMakerModel_isName 48 = .ok (.istore_n 2, 1) := by decide +kernel
theorem d_DiscMakerModel_isName_49 : decode b_DiscMakerModel_isName 49 = .ok (.iconst 0, 1) := by decide +kernel
theorem d_DiscMakerModel_isName_50 : decode b_DiscMakerModel_isName 50 = .ok (.istore_n 3, 1) := by decide +kernel
theorem d_DiscMakerModel_isName_51 : decode b_DiscMakerModel_isName 51 = .ok (.iload_n 3, 1) := by decide +kernel
theorem d_DiscMakerModel_isName_52 : decode b_DiscMakerModel_isName 52 = .ok (.iload_n 1, 1) := by decide +kernel
theorem d_DiscMakerModel_isName_53 : decode b_DiscMakerModel_isName 53 = .ok (.if_icmp .ge 71, 3) := by decide +kernel
theorem d_DiscMakerModel_isName_56 : decode b_DiscMakerModel_isName 56 = .ok (.iload_n 2, 1) := by decide +kernel
theorem d_DiscMakerModel_isName_57 : decode b_DiscMakerModel_isName 57 = .ok (.ifCond .eq 67, 3) := by decide +kernel
theorem d_DiscMakerModel_isName_60 : decode b_DiscMakerModel_isName 60 = .ok (.aload_n 0, 1) := by decide +kernel
theorem d_DiscMakerModel_isName_61 : decode b_DiscMakerModel_isName 61 = .ok (.getfield 7, 3) := by decide +kernel
theorem d_DiscMakerModel_isName_64 : decode b_DiscMakerModel_isName 64 = .ok (.iload_n 3, 1) := by decide +kernel
theorem d_DiscMakerModel_isName_65 : decode b_DiscMakerModel_isName 65 = .ok (.baload, 1) := by decide +kernel
theorem d_DiscMakerModel_isName_66 : decode b_DiscMakerModel_isName 66 = .ok (.istore 4, 2) := by decide +kernel
theorem d_DiscMakerModel_isName_68 : decode b_DiscMakerModel_isName 68 = .ok (.iload 4, 2) := by decide +kernel
theorem d_DiscMakerModel_isName_70 : decode b_DiscMakerModel_isName 70 = .ok (.invokestatic 124, 3) := by decide +kernel
theorem d_DiscMakerModel_isName_73 : decode b_DiscMakerModel_isName 73 = .ok (.ifCond .ne 39, 3) := by decide +kernel
theorem d_DiscMakerModel_isName_76 : decode b_DiscMakerModel_isName 76 = .ok (.iload 4, 2) := by decide +kernel
theorem d_DiscMakerModel_isName_78 : decode b_DiscMakerModel_isName 78 = .ok (.invokestatic 128, 3) := by decide +kernel
theorem d_DiscMakerModel_isName_81 : decode b_DiscMakerModel_isName 81 = .ok (.ifCond .ne 31, 3) := by decide +kernel
theorem d_DiscMakerModel_isName_84 : decode b_DiscMakerModel_isName 84 = .ok (.iload 4, 2) := by decide +kernel
theorem d_DiscMakerModel_isName_86 : decode b_DiscMakerModel_isName 86 = .ok (.bipush 46, 2) := by decide +kernel
theorem d_DiscMakerModel_isName_88 : decode b_DiscMakerModel_isName 88 = .ok (.if_icmp .eq 24, 3) := by decide +kernel
theorem d_DiscMakerModel_isName_91 : decode b_DiscMakerModel_isName 91 = .ok (.iload 4, 2) := by decide +kernel
theorem d_DiscMakerModel_isName_93 : decode b_DiscMakerModel_isName 93 = .ok (.bipush 45, 2) := by decide +kernel
theorem d_DiscMakerModel_isName_95 : decode b_DiscMakerModel_isName 95 = .ok (.if_icmp .eq 17, 3) := by decide +kernel
theorem d_DiscMakerModel_isName_98 : decode b_DiscMakerModel_isName 98 = .ok (.iload 4, 2) := by decide +kernel
theorem d_DiscMakerModel_isName_100 : decode b_DiscMakerModel_isName 100 = .ok (.bipush 95, 2) := by decide +kernel
theorem d_DiscMakerModel_isName_102 : decode b_DiscMakerModel_isName 102 = .ok (.if_icmp .eq 10, 3) := by decide +kernel
theorem d_DiscMakerModel_isName_105 : decode b_DiscMakerModel_isName 105 = .ok (.iload 4, 2) := by decide +kernel
theorem d_DiscMakerModel_isName_107 : decode b_DiscMakerModel_isName 107 = .ok (.bipush 43, 2) := by decide +kernel
theorem d_DiscMakerModel_isName_109 : decode b_DiscMakerModel_isName 109 = .ok (.if_icmp .ne 7, 3) := by decide +kernel
theorem d_DiscMakerModel_isName_112 : decode b_DiscMakerModel_isName 112 = .ok (.iconst 1, 1) := by decide +kernel
theorem d_DiscMakerModel_isName_113 : decode b_DiscMakerModel_isName 113 = .ok (.goto 4, 3) := by decide +kernel
theorem d_DiscMakerModel_isName_116 : decode b_DiscMakerModel_isName 116 = .ok (.iconst 0, 1) := by decide +kernel
theorem d_DiscMakerModel_isName_117 : decode b_DiscMakerModel_isName 117 = .ok (.istore_n 2, 1) := by decide +kernel
theorem d_DiscMakerModel_isName_118 : decode b_DiscMakerModel_isName 118 = .ok (.iinc 3 1, 3) := by decide +kernel
theorem d_DiscMakerModel_isName_121 : decode b_DiscMakerModel_isName 121 = .ok (.goto (-70), 3) := by decide +kernel
theorem d_DiscMakerModel_isName_124 : decode b_DiscMakerModel_isName 124 = .ok (.iload_n 2, 1) := by decide +kernel
theorem d_DiscMakerModel_isName_125 : decode b_DiscMakerModel_isName 125 = .ok (.ireturn, 1) := by decide +kernel
set_option maxHeartbeats 4000000 in
set_option maxRecDepth 100000 in
theorem m_isName (l : Launch) (D : va_G) (cB cI cJ cZ cN cF : ClassId) (sz : Nat) (h0 : Nat) (ma : Nat → Nat) (sv_thrown sv_length sv_nodes sv_many sv_directories sv_runsFrom sv_runs sv_read sv_wrong sv_isNamed sv_goes sv_goesSize sv_goesAt sv_targetParts sv_isRoot : Int32) (fX : Nat → Int32) (x : Int32) : Met l y_DiscMakerModel_isName w_DiscMakerModel_isName ({ frames := 1, cells := 0, slots := 0, locals := 20 }) (va_Pc [.ref h0, .int x] (fun U => U.heap.size = sz ∧ va_P D CL [(h0, .inr (11, MO ma sv_thrown sv_length sv_nodes sv_many sv_directories sv_runsFrom sv_runs sv_read sv_wrong sv_isNamed sv_goes sv_goesSize sv_goesAt sv_targetParts sv_isRoot)), ((ma 0), .inl (cB, 400, .inl fX))] U.heap ∧ va_K D CL (TY cB cI cJ cZ cN cF) U ∧ NN U ∧ va_D (fun _ => True) [(h0, .inr (11, MO ma sv_thrown sv_length sv_nodes sv_many sv_directories sv_runsFrom sv_runs sv_read sv_wrong sv_isNamed sv_goes sv_goesSize sv_goesAt sv_targetParts sv_isRoot)), ((ma 0), .inl (cB, 400, .inl fX))])) (va_Qi (fun (r : Int32) (u : Unit) => (0 ≤ r.toInt ∧ r.toInt ≤ 1) ∧ (r.toInt = 0 ∨ (1 ≤ x.toInt ∧ x.toInt ≤ 30))) (fun (u : Unit) (t : State) => match u with | () => va_P D CL [(h0, .inr (11, MO ma sv_thrown sv_length sv_nodes sv_many sv_directories sv_runsFrom sv_runs sv_read sv_wrong sv_isNamed sv_goes sv_goesSize sv_goesAt sv_targetParts sv_isRoot)), ((ma 0), .inl (cB, 400, .inl fX))] t.heap ∧ va_D (va_A [(h0, .inr (11, MO ma sv_thrown sv_length sv_nodes sv_many sv_directories sv_runsFrom sv_runs sv_read sv_wrong sv_isNamed sv_goes sv_goesSize sv_goesAt sv_targetParts sv_isRoot)), ((ma 0), .inl (cB, 400, .inl fX))] sz) [(h0, .inr (11, MO ma sv_thrown sv_length sv_nodes sv_many sv_directories sv_runsFrom sv_runs sv_read sv_wrong sv_isNamed sv_goes sv_goesSize sv_goesAt sv_targetParts sv_isRoot)), ((ma 0), .inl (cB, 400, .inl fX))]) (va_A [(h0, .inr (11, MO ma sv_thrown sv_length sv_nodes sv_many sv_directories sv_runsFrom sv_runs sv_read sv_wrong sv_isNamed sv_goes sv_goesSize sv_goesAt sv_targetParts sv_isRoot)), ((ma 0), .inl (cB, 400, .inl fX))] sz)) 0 0 (va_A [(h0, .inr (11, MO ma sv_thrown sv_length sv_nodes sv_many sv_directories sv_runsFrom sv_runs sv_read sv_wrong sv_isNamed sv_goes sv_goesSize sv_goesAt sv_targetParts sv_isRoot)), ((ma 0), .inl (cB, 400, .inl fX))] sz) := by
  refine Met.ofW (cc := b_DiscMakerModel_isName) (maxL := 5) (ret := some .boolean) (by decide) rfl ?_
  intro p e s m args below meth c s₁ B hml hv
  obtain ⟨rfl, hsz, hP, hK, hN, hD0⟩ := hv
  have hx := B.exec
  have hb := B.bytes
  have hr := B.returns
  have hts := atoms_spec (ws := w_DiscMakerModel_isName) B.pre
  have ht9 := fun (w : Cond) (h : w ∈ lw_g) => hts w (List.mem_cons_of_mem _ h)
  have hown : s.vm.findClass "DiscMakerModel" = some m.cls := findClass_of_methodNamed B.named
  have hlocks := B.notSynchronized
  subst hsz
  have hD := hD0.self (sz := s.heap.size)
  generalize hAe : va_A [(h0, .inr (11, MO ma sv_thrown sv_length sv_nodes sv_many sv_directories sv_runsFrom sv_runs sv_read sv_wrong sv_isNamed sv_goes sv_goesSize sv_goesAt sv_targetParts sv_isRoot)), ((ma 0), .inl (cB, 400, .inl fX))] s.heap.size = A at hD ⊢
  have hA : ∀ q : Nat, s.heap.size ≤ q → A q := fun q h => by rw [← hAe]; exact Or.inr h
  have hS : va_S A s.heap s.heap [] := va_S.rf
  have hP : va_P D CL [(h0, .inr (11, MO ma sv_thrown sv_length sv_nodes sv_many sv_directories sv_runsFrom sv_runs sv_read sv_wrong sv_isNamed sv_goes sv_goesSize sv_goesAt sv_targetParts sv_isRoot)), ((ma 0), .inl (cB, 400, .inl fX))] s.heap := hP
  have hl := lv_entry [.ref h0, .int x] (n := 5) (Nat.le_of_ble_eq_true rfl)
  rw [lg_entry_eq]
  generalize (lg_sl [.ref h0, .int x] ++ List.replicate (5 - (lg_sl [.ref h0, .int x]).length) Slot.unset).toArray = ls at hl ⊢
  have hl : lv_has ls 5 [(0, .ref h0), (1, .int x)] := hl
  have L_m1 : ((-1) : Int32).toInt = (-1) := by decide
  have L_0 : (0 : Int32).toInt = 0 := by decide
  have L_1 : (1 : Int32).toInt = 1 := by decide
  have L_2 : (2 : Int32).toInt = 2 := by decide
  have L_30 : (30 : Int32).toInt = 30 := by decide
  have L_43 : (43 : Int32).toInt = 43 := by decide
  have L_45 : (45 : Int32).toInt = 45 := by decide
  have L_46 : (46 : Int32).toInt = 46 := by decide
  have L_95 : (95 : Int32).toInt = 95 := by decide
  refine lv_iload_n hx hb d_DiscMakerModel_isName_0 rfl (lv_at hl 1 rfl) ?_
  refine lv_iconst (v := 1) hx hb d_DiscMakerModel_isName_1 (by decide) ?_
  refine zz_lab (P := fun (lk : Nat) (H : Heap) (locs : List Loc) (ls : Array Slot) (stk : List Value) => ∃ (is : Int32) , lk = 0 ∧ stk = [.int is] ∧ (0 ≤ is.toInt ∧ is.toInt ≤ 1) ∧ (is.toInt = 0 ∨ (1 ≤ x.toInt ∧ x.toInt ≤ 30)) ∧ va_P D CL [(h0, .inr (11, MO ma sv_thrown sv_length sv_nodes sv_many sv_directories sv_runsFrom sv_runs sv_read sv_wrong sv_isNamed sv_goes sv_goesSize sv_goesAt sv_targetParts sv_isRoot)), ((ma 0), .inl (cB, 400, .inl fX))] H ∧ va_D A [(h0, .inr (11, MO ma sv_thrown sv_length sv_nodes sv_many sv_directories sv_runsFrom sv_runs sv_read sv_wrong sv_isNamed sv_goes sv_goesSize sv_goesAt sv_targetParts sv_isRoot)), ((ma 0), .inl (cB, 400, .inl fX))] ∧ va_S A s.heap H locs ∧ lv_has ls 5 [(0, .ref h0), (1, .int x)]) 48 ?_ ?_
  · skip
    intro lk ih48 H locs ls stk hI
    obtain ⟨is, hm48, rfl, f1, f2, hP, hD, hS, hl⟩ := hI
    refine lv_istore_n hx hb d_DiscMakerModel_isName_48 rfl hl (by decide) rfl (fun ls hl => ?_)
    have hl : lv_has ls 5 [(2, .int is), (0, .ref h0), (1, .int x)] := hl
    refine lv_iconst (v := 0) hx hb d_DiscMakerModel_isName_49 (by decide) ?_
    refine lv_istore_n hx hb d_DiscMakerModel_isName_50 rfl hl (by decide) rfl (fun ls hl => ?_)
    have hl : lv_has ls 5 [(3, .int 0), (2, .int is), (0, .ref h0), (1, .int x)] := hl
    refine zz_lab (P := fun (lk : Nat) (H : Heap) (locs : List Loc) (ls : Array Slot) (stk : List Value) => ∃ (iz : Int32) (kx : Int32) , lk = (1000 - kx.toInt).toNat ∧ stk = [] ∧ (0 ≤ iz.toInt ∧ iz.toInt ≤ 1) ∧ (iz.toInt = 0 ∨ (1 ≤ x.toInt ∧ x.toInt ≤ 30)) ∧ (0 ≤ kx.toInt ∧ kx.toInt ≤ 1000) ∧ va_P D CL [(h0, .inr (11, MO ma sv_thrown sv_length sv_nodes sv_many sv_directories sv_runsFrom sv_runs sv_read sv_wrong sv_isNamed sv_goes sv_goesSize sv_goesAt sv_targetParts sv_isRoot)), ((ma 0), .inl (cB, 400, .inl fX))] H ∧ va_D A [(h0, .inr (11, MO ma sv_thrown sv_length sv_nodes sv_many sv_directories sv_runsFrom sv_runs sv_read sv_wrong sv_isNamed sv_goes sv_goesSize sv_goesAt sv_targetParts sv_isRoot)), ((ma 0), .inl (cB, 400, .inl fX))] ∧ va_S A s.heap H locs ∧ lv_has ls 5 [(0, .ref h0), (1, .int x), (2, .int iz), (3, .int kx)]) 51 ?_ ?_
    · skip
      intro lk ih51 H locs ls stk hI
      obtain ⟨iz, kx, hm51, rfl, f3, f4, f5, hP, hD, hS, hl⟩ := hI
      refine lv_iload_n hx hb d_DiscMakerModel_isName_51 rfl (lv_at hl 3 rfl) ?_
      refine lv_iload_n hx hb d_DiscMakerModel_isName_52 rfl (lv_at hl 1 rfl) ?_
      refine lv_icmp_ge (tgt := 124) hx hb d_DiscMakerModel_isName_53 (by decide) (fun h_9 => ?_) (fun h_9 => ?_)
      · skip
        have g53_8 : x.toInt ≤ kx.toInt := (i_le rfl rfl).mp h_9
        refine lv_iload_n hx hb d_DiscMakerModel_isName_124 rfl (lv_at hl 2 rfl) ?_
        have hP9 := hP.sub (ws' := [(h0, .inr (11, MO ma sv_thrown sv_length sv_nodes sv_many sv_directories sv_runsFrom sv_runs sv_read sv_wrong sv_isNamed sv_goes sv_goesSize sv_goesAt sv_targetParts sv_isRoot)), ((ma 0), .inl (cB, 400, .inl fX))]) [0, 1] rfl
        have hD9 := hD.sub (ws' := [(h0, .inr (11, MO ma sv_thrown sv_length sv_nodes sv_many sv_directories sv_runsFrom sv_runs sv_read sv_wrong sv_isNamed sv_goes sv_goesSize sv_goesAt sv_targetParts sv_isRoot)), ((ma 0), .inl (cB, 400, .inl fX))]) [0, 1] (by decide) rfl
        exact W.zret (v := iz) hx hb hr (by first | rfl | decide | exact i_narZ (by omega)) (fun t ht hW => ⟨⟨iz, (), rfl, ⟨(by (try dsimp only); first | omega | assumption | trivial), (by (try dsimp only); first | omega | assumption | trivial)⟩, by rw [ht]; exact hP9, hD9⟩, hS.F ht⟩) hS.2.2 d_DiscMakerModel_isName_125
      · skip
        have g53_8 : ¬ x.toInt ≤ kx.toInt := fun h8 => h_9 ((i_le rfl rfl).mpr h8)
        refine lv_iload_n hx hb d_DiscMakerModel_isName_56 rfl (lv_at hl 2 rfl) ?_
        refine lv_if_eq (tgt := 124) hx hb d_DiscMakerModel_isName_57 (by decide) (fun h_9 => ?_) (fun h_9 => ?_)
        · skip
          have g57_12 : iz.toInt = 0 := (i_eq rfl (by decide)).mp h_9
          refine lv_iload_n hx hb d_DiscMakerModel_isName_124 rfl (lv_at hl 2 rfl) ?_
          have hP9 := hP.sub (ws' := [(h0, .inr (11, MO ma sv_thrown sv_length sv_nodes sv_many sv_directories sv_runsFrom sv_runs sv_read sv_wrong sv_isNamed sv_goes sv_goesSize sv_goesAt sv_targetParts sv_isRoot)), ((ma 0), .inl (cB, 400, .inl fX))]) [0, 1] rfl
          have hD9 := hD.sub (ws' := [(h0, .inr (11, MO ma sv_thrown sv_length sv_nodes sv_many sv_directories sv_runsFrom sv_runs sv_read sv_wrong sv_isNamed sv_goes sv_goesSize sv_goesAt sv_targetParts sv_isRoot)), ((ma 0), .inl (cB, 400, .inl fX))]) [0, 1] (by decide) rfl
          exact W.zret (v := iz) hx hb hr (by first | rfl | decide | exact i_narZ (by omega)) (fun t ht hW => ⟨⟨iz, (), rfl, ⟨(by (try dsimp only); first | omega | assumption | trivial), (by (try dsimp only); first | omega | assumption | trivial)⟩, by rw [ht]; exact hP9, hD9⟩, hS.F ht⟩) hS.2.2 d_DiscMakerModel_isName_125
        · skip
          have g57_12 : ¬ iz.toInt = 0 := fun h8 => h_9 ((i_eq rfl (by decide)).mpr h8)
          refine lv_aload_n hx hb d_DiscMakerModel_isName_60 rfl (lv_at hl 0 rfl) ?_
          refine va_get (D := D) (ci := 11) (v := .ref (ma 0)) (C := "DiscMakerModel") (T := F_DiscMakerModel) (N := 48) hx hb ht9 in_DiscMakerModel hown hK hP 0 rfl rfl 1 (by decide) (ht9 _ k1432) (fun _ h9 => h9) rfl d_DiscMakerModel_isName_61 ?_
          refine lv_iload_n hx hb d_DiscMakerModel_isName_64 rfl (lv_at hl 3 rfl) ?_
          refine va_bald hx hb hK hP 1 0 rfl rfl (vp_in_iff.mpr ⟨by omega, by omega⟩) d_DiscMakerModel_isName_65 ?_
          refine lv_topi (fun v1 e_v1 => ?_)
          refine lv_istore hx hb d_DiscMakerModel_isName_66 hl (by decide) rfl (fun ls hl => ?_)
          have hl : lv_has ls 5 [(4, .int v1), (0, .ref h0), (1, .int x), (2, .int iz), (3, .int kx)] := hl
          refine lv_iload hx hb d_DiscMakerModel_isName_68 (lv_at hl 0 rfl) ?_
          have hPc := hP.sub (ws' := []) [] rfl
          have hDc := hD.sub (ws' := []) [] (by decide) rfl
          have hFc := va_free (wc := []) hD hS hA [] rfl
          have hkc : 0 ≤ 0 := by decide
          have hks : 0 ≤ 0 := by decide
          refine va_calli (va_runS (As := [.int v1]) (rest := []) ⟨hx, hb, hml, hown, hts⟩ (m_isLetter l D cB cI cJ cZ cN cF H.size v1) (cwS 1 hts (lg_goodS k1606 k1607 k125 kc_DiscMakerModel_isLetter) rfl rfl rfl (by decide +kernel) ⟨Nat.le_of_ble_eq_true rfl, Nat.le_of_ble_eq_true rfl⟩) ⟨fun a U g mk q => by obtain ⟨q0, q1, qP, qK, qN, qD⟩ := q; exact ⟨q0, q1, qP, va_K.moved (u := U) (U := U.calling g mk a) (Vm.Alike.refl U.vm) qK, qN.calling, qD⟩, fun U hU hW => ⟨rfl, by rw [hU], by rw [hU]; exact hPc, va_K.moved hW.alike hK, NN.warm hW hN, hDc.weaken (fun _ _ _ _ => trivial)⟩⟩ rfl rfl hl.1 rfl (lv_room (Nat.le_of_ble_eq_true rfl)) d_DiscMakerModel_isName_70 ⟨hkc, hks⟩) hS (fun q _ h => hFc q h) hFc (fun r2 u t H1 locs ht hvm hp_r2 hB hz1 hk1 hS => ?_)
          obtain ⟨hP1, hD1⟩ := hB
          rw [ht] at hP1
          obtain ⟨hP, hD⟩ := va_join (wr := [(h0, .inr (11, MO ma sv_thrown sv_length sv_nodes sv_many sv_directories sv_runsFrom sv_runs sv_read sv_wrong sv_isNamed sv_goes sv_goesSize sv_goesAt sv_targetParts sv_isRoot)), ((ma 0), .inl (cB, 400, .inl fX))]) (w1 := []) hP hD [] [0, 1] rfl rfl (by decide) (by decide) hk1 hFc hP1 hD1
          clear hPc hDc hFc hP1 hD1 hk1 hz1
          generalize H1 = H at hP hS ⊢
          have hP : va_P D CL [(h0, .inr (11, MO ma sv_thrown sv_length sv_nodes sv_many sv_directories sv_runsFrom sv_runs sv_read sv_wrong sv_isNamed sv_goes sv_goesSize sv_goesAt sv_targetParts sv_isRoot)), ((ma 0), .inl (cB, 400, .inl fX))] H := hP
          have hD : va_D A [(h0, .inr (11, MO ma sv_thrown sv_length sv_nodes sv_many sv_directories sv_runsFrom sv_runs sv_read sv_wrong sv_isNamed sv_goes sv_goesSize sv_goesAt sv_targetParts sv_isRoot)), ((ma 0), .inl (cB, 400, .inl fX))] := hD
          try dsimp only at hp_r2
          have hr_3 := hp_r2
          refine lv_if_ne (tgt := 112) hx hb d_DiscMakerModel_isName_73 (by decide) (fun h_9 => ?_) (fun h_9 => ?_)
          · skip
            have g73_22 : ¬ r2.toInt = 0 := fun h8 => h_9 ((i_eq rfl (by decide)).mpr h8)
            refine lv_iconst (v := 1) hx hb d_DiscMakerModel_isName_112 (by decide) ?_
            refine lv_goto (tgt := 117) hx hb d_DiscMakerModel_isName_113 (by decide) ?_
            refine lv_istore_n hx hb d_DiscMakerModel_isName_117 rfl hl (by decide) rfl (fun ls hl => ?_)
            have hl : lv_has ls 5 [(2, .int 1), (4, .int v1), (0, .ref h0), (1, .int x), (3, .int kx)] := hl
            obtain ⟨v4, e_v4⟩ : ∃ z : Int32, z = kx + 1 := ⟨_, rfl⟩
            refine lv_iinc (v := v4) hx hb d_DiscMakerModel_isName_118 hl (k := 4) rfl e_v4.symm (by decide) rfl (fun ls hl => ?_)
            have t_v4 : v4.toInt = kx.toInt + 1 := by rw [e_v4]; exact i_add rfl (by decide) (by omega) (by omega)
            have hl : lv_has ls 5 [(3, .int v4), (2, .int 1), (4, .int v1), (0, .ref h0), (1, .int x)] := hl
            refine lv_goto (tgt := 51) hx hb d_DiscMakerModel_isName_121 (by decide) ?_
            have hP := hP.sub (ws' := [(h0, .inr (11, MO ma sv_thrown sv_length sv_nodes sv_many sv_directories sv_runsFrom sv_runs sv_read sv_wrong sv_isNamed sv_goes sv_goesSize sv_goesAt sv_targetParts sv_isRoot)), ((ma 0), .inl (cB, 400, .inl fX))]) [0, 1] rfl
            have hD := hD.sub (ws' := [(h0, .inr (11, MO ma sv_thrown sv_length sv_nodes sv_many sv_directories sv_runsFrom sv_runs sv_read sv_wrong sv_isNamed sv_goes sv_goesSize sv_goesAt sv_targetParts sv_isRoot)), ((ma 0), .inl (cB, 400, .inl fX))]) [0, 1] (by decide) rfl
            have hl := lv_sub hl [3, 4, 1, 0] rfl
            exact ih51 (_) (by first | omega | (dsimp only; omega)) _ _ _ _ ⟨1, v4, rfl, rfl, (by (try dsimp only); first | omega | assumption | trivial), (by (try dsimp only); first | omega | assumption | trivial), (by (try dsimp only); first | omega | assumption | trivial), hP, hD, hS, hl⟩
          · skip
            have g73_22 : r2.toInt = 0 := (i_eq rfl (by decide)).mp h_9
            refine lv_iload hx hb d_DiscMakerModel_isName_76 (lv_at hl 0 rfl) ?_
            have hPc := hP.sub (ws' := []) [] rfl
            have hDc := hD.sub (ws' := []) [] (by decide) rfl
            have hFc := va_free (wc := []) hD hS hA [] rfl
            have hkc : 0 ≤ 0 := by decide
            have hks : 0 ≤ 0 := by decide
            refine va_calli (va_runS (As := [.int v1]) (rest := []) ⟨hx, hb, hml, hown, hts⟩ (m_isDigit l D cB cI cJ cZ cN cF H.size v1) (cwS 1 hts (lg_goodS k1609 k1610 k125 kc_DiscMakerModel_isDigit) rfl rfl rfl (by decide +kernel) ⟨Nat.le_of_ble_eq_true rfl, Nat.le_of_ble_eq_true rfl⟩) ⟨fun a U g mk q => by obtain ⟨q0, q1, qP, qK, qN, qD⟩ := q; exact ⟨q0, q1, qP, va_K.moved (u := U) (U := U.calling g mk a) (Vm.Alike.refl U.vm) qK, qN.calling, qD⟩, fun U hU hW => ⟨rfl, by rw [hU], by rw [hU]; exact hPc, va_K.moved hW.alike hK, NN.warm hW hN, hDc.weaken (fun _ _ _ _ => trivial)⟩⟩ rfl rfl hl.1 rfl (lv_room (Nat.le_of_ble_eq_true rfl)) d_DiscMakerModel_isName_78 ⟨hkc, hks⟩) hS (fun q _ h => hFc q h) hFc (fun r5 u t H1 locs ht hvm hp_r5 hB hz1 hk1 hS => ?_)
            obtain ⟨hP1, hD1⟩ := hB
            rw [ht] at hP1
            obtain ⟨hP, hD⟩ := va_join (wr := [(h0, .inr (11, MO ma sv_thrown sv_length sv_nodes sv_many sv_directories sv_runsFrom sv_runs sv_read sv_wrong sv_isNamed sv_goes sv_goesSize sv_goesAt sv_targetParts sv_isRoot)), ((ma 0), .inl (cB, 400, .inl fX))]) (w1 := []) hP hD [] [0, 1] rfl rfl (by decide) (by decide) hk1 hFc hP1 hD1
            clear hPc hDc hFc hP1 hD1 hk1 hz1
            generalize H1 = H at hP hS ⊢
            have hP : va_P D CL [(h0, .inr (11, MO ma sv_thrown sv_length sv_nodes sv_many sv_directories sv_runsFrom sv_runs sv_read sv_wrong sv_isNamed sv_goes sv_goesSize sv_goesAt sv_targetParts sv_isRoot)), ((ma 0), .inl (cB, 400, .inl fX))] H := hP
            have hD : va_D A [(h0, .inr (11, MO ma sv_thrown sv_length sv_nodes sv_many sv_directories sv_runsFrom sv_runs sv_read sv_wrong sv_isNamed sv_goes sv_goesSize sv_goesAt sv_targetParts sv_isRoot)), ((ma 0), .inl (cB, 400, .inl fX))] := hD
            try dsimp only at hp_r5
            have hr_6 := hp_r5
            refine lv_if_ne (tgt := 112) hx hb d_DiscMakerModel_isName_81 (by decide) (fun h_9 => ?_) (fun h_9 => ?_)
            · skip
              have g81_31 : ¬ r5.toInt = 0 := fun h8 => h_9 ((i_eq rfl (by decide)).mpr h8)
              refine lv_iconst (v := 1) hx hb d_DiscMakerModel_isName_112 (by decide) ?_
              refine lv_goto (tgt := 117) hx hb d_DiscMakerModel_isName_113 (by decide) ?_
              refine lv_istore_n hx hb d_DiscMakerModel_isName_117 rfl hl (by decide) rfl (fun ls hl => ?_)
              have hl : lv_has ls 5 [(2, .int 1), (4, .int v1), (0, .ref h0), (1, .int x), (3, .int kx)] := hl
              obtain ⟨v7, e_v7⟩ : ∃ z : Int32, z = kx + 1 := ⟨_, rfl⟩
              refine lv_iinc (v := v7) hx hb d_DiscMakerModel_isName_118 hl (k := 4) rfl e_v7.symm (by decide) rfl (fun ls hl => ?_)
              have t_v7 : v7.toInt = kx.toInt + 1 := by rw [e_v7]; exact i_add rfl (by decide) (by omega) (by omega)
              have hl : lv_has ls 5 [(3, .int v7), (2, .int 1), (4, .int v1), (0, .ref h0), (1, .int x)] := hl
              refine lv_goto (tgt := 51) hx hb d_DiscMakerModel_isName_121 (by decide) ?_
              have hP := hP.sub (ws' := [(h0, .inr (11, MO ma sv_thrown sv_length sv_nodes sv_many sv_directories sv_runsFrom sv_runs sv_read sv_wrong sv_isNamed sv_goes sv_goesSize sv_goesAt sv_targetParts sv_isRoot)), ((ma 0), .inl (cB, 400, .inl fX))]) [0, 1] rfl
              have hD := hD.sub (ws' := [(h0, .inr (11, MO ma sv_thrown sv_length sv_nodes sv_many sv_directories sv_runsFrom sv_runs sv_read sv_wrong sv_isNamed sv_goes sv_goesSize sv_goesAt sv_targetParts sv_isRoot)), ((ma 0), .inl (cB, 400, .inl fX))]) [0, 1] (by decide) rfl
              have hl := lv_sub hl [3, 4, 1, 0] rfl
              exact ih51 (_) (by first | omega | (dsimp only; omega)) _ _ _ _ ⟨1, v7, rfl, rfl, (by (try dsimp only); first | omega | assumption | trivial), (by (try dsimp only); first | omega | assumption | trivial), (by (try dsimp only); first | omega | assumption | trivial), hP, hD, hS, hl⟩
            · skip
              have g81_31 : r5.toInt = 0 := (i_eq rfl (by decide)).mp h_9
              refine lv_iload hx hb d_DiscMakerModel_isName_84 (lv_at hl 0 rfl) ?_
              refine lv_bipush (v := 46) hx hb d_DiscMakerModel_isName_86 (by decide) ?_
              refine lv_icmp_eq (tgt := 112) hx hb d_DiscMakerModel_isName_88 (by decide) (fun h_9 => ?_) (fun h_9 => ?_)
              · skip
                have g88_40 : v1.toInt = 46 := (i_eq rfl (by decide)).mp h_9
                refine lv_iconst (v := 1) hx hb d_DiscMakerModel_isName_112 (by decide) ?_
                refine lv_goto (tgt := 117) hx hb d_DiscMakerModel_isName_113 (by decide) ?_
                refine lv_istore_n hx hb d_DiscMakerModel_isName_117 rfl hl (by decide) rfl (fun ls hl => ?_)
                have hl : lv_has ls 5 [(2, .int 1), (4, .int v1), (0, .ref h0), (1, .int x), (3, .int kx)] := hl
                obtain ⟨v8, e_v8⟩ : ∃ z : Int32, z = kx + 1 := ⟨_, rfl⟩
                refine lv_iinc (v := v8) hx hb d_DiscMakerModel_isName_118 hl (k := 4) rfl e_v8.symm (by decide) rfl (fun ls hl => ?_)
                have t_v8 : v8.toInt = kx.toInt + 1 := by rw [e_v8]; exact i_add rfl (by decide) (by omega) (by omega)
                have hl : lv_has ls 5 [(3, .int v8), (2, .int 1), (4, .int v1), (0, .ref h0), (1, .int x)] := hl
                refine lv_goto (tgt := 51) hx hb d_DiscMakerModel_isName_121 (by decide) ?_
                have hP := hP.sub (ws' := [(h0, .inr (11, MO ma sv_thrown sv_length sv_nodes sv_many sv_directories sv_runsFrom sv_runs sv_read sv_wrong sv_isNamed sv_goes sv_goesSize sv_goesAt sv_targetParts sv_isRoot)), ((ma 0), .inl (cB, 400, .inl fX))]) [0, 1] rfl
                have hD := hD.sub (ws' := [(h0, .inr (11, MO ma sv_thrown sv_length sv_nodes sv_many sv_directories sv_runsFrom sv_runs sv_read sv_wrong sv_isNamed sv_goes sv_goesSize sv_goesAt sv_targetParts sv_isRoot)), ((ma 0), .inl (cB, 400, .inl fX))]) [0, 1] (by decide) rfl
                have hl := lv_sub hl [3, 4, 1, 0] rfl
                exact ih51 (_) (by first | omega | (dsimp only; omega)) _ _ _ _ ⟨1, v8, rfl, rfl, (by (try dsimp only); first | omega | assumption | trivial), (by (try dsimp only); first | omega | assumption | trivial), (by (try dsimp only); first | omega | assumption | trivial), hP, hD, hS, hl⟩
              · skip
                have g88_40 : ¬ v1.toInt = 46 := fun h8 => h_9 ((i_eq rfl (by decide)).mpr h8)
                refine lv_iload hx hb d_DiscMakerModel_isName_91 (lv_at hl 0 rfl) ?_
                refine lv_bipush (v := 45) hx hb d_DiscMakerModel_isName_93 (by decide) ?_
                refine lv_icmp_eq (tgt := 112) hx hb d_DiscMakerModel_isName_95 (by decide) (fun h_9 => ?_) (fun h_9 => ?_)
                · skip
                  have g95_49 : v1.toInt = 45 := (i_eq rfl (by decide)).mp h_9
                  refine lv_iconst (v := 1) hx hb d_DiscMakerModel_isName_112 (by decide) ?_
                  refine lv_goto (tgt := 117) hx hb d_DiscMakerModel_isName_113 (by decide) ?_
                  refine lv_istore_n hx hb d_DiscMakerModel_isName_117 rfl hl (by decide) rfl (fun ls hl => ?_)
                  have hl : lv_has ls 5 [(2, .int 1), (4, .int v1), (0, .ref h0), (1, .int x), (3, .int kx)] := hl
                  obtain ⟨v9, e_v9⟩ : ∃ z : Int32, z = kx + 1 := ⟨_, rfl⟩
                  refine lv_iinc (v := v9) hx hb d_DiscMakerModel_isName_118 hl (k := 4) rfl e_v9.symm (by decide) rfl (fun ls hl => ?_)
                  have t_v9 : v9.toInt = kx.toInt + 1 := by rw [e_v9]; exact i_add rfl (by decide) (by omega) (by omega)
                  have hl : lv_has ls 5 [(3, .int v9), (2, .int 1), (4, .int v1), (0, .ref h0), (1, .int x)] := hl
                  refine lv_goto (tgt := 51) hx hb d_DiscMakerModel_isName_121 (by decide) ?_
                  have hP := hP.sub (ws' := [(h0, .inr (11, MO ma sv_thrown sv_length sv_nodes sv_many sv_directories sv_runsFrom sv_runs sv_read sv_wrong sv_isNamed sv_goes sv_goesSize sv_goesAt sv_targetParts sv_isRoot)), ((ma 0), .inl (cB, 400, .inl fX))]) [0, 1] rfl
                  have hD := hD.sub (ws' := [(h0, .inr (11, MO ma sv_thrown sv_length sv_nodes sv_many sv_directories sv_runsFrom sv_runs sv_read sv_wrong sv_isNamed sv_goes sv_goesSize sv_goesAt sv_targetParts sv_isRoot)), ((ma 0), .inl (cB, 400, .inl fX))]) [0, 1] (by decide) rfl
                  have hl := lv_sub hl [3, 4, 1, 0] rfl
                  exact ih51 (_) (by first | omega | (dsimp only; omega)) _ _ _ _ ⟨1, v9, rfl, rfl, (by (try dsimp only); first | omega | assumption | trivial), (by (try dsimp only); first | omega | assumption | trivial), (by (try dsimp only); first | omega | assumption | trivial), hP, hD, hS, hl⟩
                · skip
                  have g95_49 : ¬ v1.toInt = 45 := fun h8 => h_9 ((i_eq rfl (by decide)).mpr h8)
                  refine lv_iload hx hb d_DiscMakerModel_isName_98 (lv_at hl 0 rfl) ?_
                  refine lv_bipush (v := 95) hx hb d_DiscMakerModel_isName_100 (by decide) ?_
                  refine lv_icmp_eq (tgt := 112) hx hb d_DiscMakerModel_isName_102 (by decide) (fun h_9 => ?_) (fun h_9 => ?_)
                  · skip
                    have g102_58 : v1.toInt = 95 := (i_eq rfl (by decide)).mp h_9
                    refine lv_iconst (v := 1) hx hb d_DiscMakerModel_isName_112 (by decide) ?_
                    refine lv_goto (tgt := 117) hx hb d_DiscMakerModel_isName_113 (by decide) ?_
                    refine lv_istore_n hx hb d_DiscMakerModel_isName_117 rfl hl (by decide) rfl (fun ls hl => ?_)
                    have hl : lv_has ls 5 [(2, .int 1), (4, .int v1), (0, .ref h0), (1, .int x), (3, .int kx)] := hl
                    obtain ⟨v10, e_v10⟩ : ∃ z : Int32, z = kx + 1 := ⟨_, rfl⟩
                    refine lv_iinc (v := v10) hx hb d_DiscMakerModel_isName_118 hl (k := 4) rfl e_v10.symm (by decide) rfl (fun ls hl => ?_)
                    have t_v10 : v10.toInt = kx.toInt + 1 := by rw [e_v10]; exact i_add rfl (by decide) (by omega) (by omega)
                    have hl : lv_has ls 5 [(3, .int v10), (2, .int 1), (4, .int v1), (0, .ref h0), (1, .int x)] := hl
                    refine lv_goto (tgt := 51) hx hb d_DiscMakerModel_isName_121 (by decide) ?_
                    have hP := hP.sub (ws' := [(h0, .inr (11, MO ma sv_thrown sv_length sv_nodes sv_many sv_directories sv_runsFrom sv_runs sv_read sv_wrong sv_isNamed sv_goes sv_goesSize sv_goesAt sv_targetParts sv_isRoot)), ((ma 0), .inl (cB, 400, .inl fX))]) [0, 1] rfl
                    have hD := hD.sub (ws' := [(h0, .inr (11, MO ma sv_thrown sv_length sv_nodes sv_many sv_directories sv_runsFrom sv_runs sv_read sv_wrong sv_isNamed sv_goes sv_goesSize sv_goesAt sv_targetParts sv_isRoot)), ((ma 0), .inl (cB, 400, .inl fX))]) [0, 1] (by decide) rfl
                    have hl := lv_sub hl [3, 4, 1, 0] rfl
                    exact ih51 (_) (by first | omega | (dsimp only; omega)) _ _ _ _ ⟨1, v10, rfl, rfl, (by (try dsimp only); first | omega | assumption | trivial), (by (try dsimp only); first | omega | assumption | trivial), (by (try dsimp only); first | omega | assumption | trivial), hP, hD, hS, hl⟩
                  · skip
                    have g102_58 : ¬ v1.toInt = 95 := fun h8 => h_9 ((i_eq rfl (by decide)).mpr h8)
                    refine lv_iload hx hb d_DiscMakerModel_isName_105 (lv_at hl 0 rfl) ?_
                    refine lv_bipush (v := 43) hx hb d_DiscMakerModel_isName_107 (by decide) ?_
                    refine lv_icmp_ne (tgt := 116) hx hb d_DiscMakerModel_isName_109 (by decide) (fun h_9 => ?_) (fun h_9 => ?_)
                    · skip
                      have g109_67 : ¬ v1.toInt = 43 := fun h8 => h_9 ((i_eq rfl (by decide)).mpr h8)
                      refine lv_iconst (v := 0) hx hb d_DiscMakerModel_isName_116 (by decide) ?_
                      refine lv_istore_n hx hb d_DiscMakerModel_isName_117 rfl hl (by decide) rfl (fun ls hl => ?_)
                      have hl : lv_has ls 5 [(2, .int 0), (4, .int v1), (0, .ref h0), (1, .int x), (3, .int kx)] := hl
                      obtain ⟨v11, e_v11⟩ : ∃ z : Int32, z = kx + 1 := ⟨_, rfl⟩
                      refine lv_iinc (v := v11) hx hb d_DiscMakerModel_isName_118 hl (k := 4) rfl e_v11.symm (by decide) rfl (fun ls hl => ?_)
                      have t_v11 : v11.toInt = kx.toInt + 1 := by rw [e_v11]; exact i_add rfl (by decide) (by omega) (by omega)
                      have hl : lv_has ls 5 [(3, .int v11), (2, .int 0), (4, .int v1), (0, .ref h0), (1, .int x)] := hl
                      refine lv_goto (tgt := 51) hx hb d_DiscMakerModel_isName_121 (by decide) ?_
                      have hP := hP.sub (ws' := [(h0, .inr (11, MO ma sv_thrown sv_length sv_nodes sv_many sv_directories sv_runsFrom sv_runs sv_read sv_wrong sv_isNamed sv_goes sv_goesSize sv_goesAt sv_targetParts sv_isRoot)), ((ma 0), .inl (cB, 400, .inl fX))]) [0, 1] rfl
                      have hD := hD.sub (ws' := [(h0, .inr (11, MO ma sv_thrown sv_length sv_nodes sv_many sv_directories sv_runsFrom sv_runs sv_read sv_wrong sv_isNamed sv_goes sv_goesSize sv_goesAt sv_targetParts sv_isRoot)), ((ma 0), .inl (cB, 400, .inl fX))]) [0, 1] (by decide) rfl
                      have hl := lv_sub hl [3, 4, 1, 0] rfl
                      exact ih51 (_) (by first | omega | (dsimp only; omega)) _ _ _ _ ⟨0, v11, rfl, rfl, (by (try dsimp only); first | omega | assumption | trivial), (by (try dsimp only); first | omega | assumption | trivial), (by (try dsimp only); first | omega | assumption | trivial), hP, hD, hS, hl⟩
                    · skip
                      have g109_67 : v1.toInt = 43 := (i_eq rfl (by decide)).mp h_9
                      refine lv_iconst (v := 1) hx hb d_DiscMakerModel_isName_112 (by decide) ?_
                      refine lv_goto (tgt := 117) hx hb d_DiscMakerModel_isName_113 (by decide) ?_
                      refine lv_istore_n hx hb d_DiscMakerModel_isName_117 rfl hl (by decide) rfl (fun ls hl => ?_)
                      have hl : lv_has ls 5 [(2, .int 1), (4, .int v1), (0, .ref h0), (1, .int x), (3, .int kx)] := hl
                      obtain ⟨v12, e_v12⟩ : ∃ z : Int32, z = kx + 1 := ⟨_, rfl⟩
                      refine lv_iinc (v := v12) hx hb d_DiscMakerModel_isName_118 hl (k := 4) rfl e_v12.symm (by decide) rfl (fun ls hl => ?_)
                      have t_v12 : v12.toInt = kx.toInt + 1 := by rw [e_v12]; exact i_add rfl (by decide) (by omega) (by omega)
                      have hl : lv_has ls 5 [(3, .int v12), (2, .int 1), (4, .int v1), (0, .ref h0), (1, .int x)] := hl
                      refine lv_goto (tgt := 51) hx hb d_DiscMakerModel_isName_121 (by decide) ?_
                      have hP := hP.sub (ws' := [(h0, .inr (11, MO ma sv_thrown sv_length sv_nodes sv_many sv_directories sv_runsFrom sv_runs sv_read sv_wrong sv_isNamed sv_goes sv_goesSize sv_goesAt sv_targetParts sv_isRoot)), ((ma 0), .inl (cB, 400, .inl fX))]) [0, 1] rfl
                      have hD := hD.sub (ws' := [(h0, .inr (11, MO ma sv_thrown sv_length sv_nodes sv_many sv_directories sv_runsFrom sv_runs sv_read sv_wrong sv_isNamed sv_goes sv_goesSize sv_goesAt sv_targetParts sv_isRoot)), ((ma 0), .inl (cB, 400, .inl fX))]) [0, 1] (by decide) rfl
                      have hl := lv_sub hl [3, 4, 1, 0] rfl
                      exact ih51 (_) (by first | omega | (dsimp only; omega)) _ _ _ _ ⟨1, v12, rfl, rfl, (by (try dsimp only); first | omega | assumption | trivial), (by (try dsimp only); first | omega | assumption | trivial), (by (try dsimp only); first | omega | assumption | trivial), hP, hD, hS, hl⟩
    · skip
      intro kk51
      have hP := hP.sub (ws' := [(h0, .inr (11, MO ma sv_thrown sv_length sv_nodes sv_many sv_directories sv_runsFrom sv_runs sv_read sv_wrong sv_isNamed sv_goes sv_goesSize sv_goesAt sv_targetParts sv_isRoot)), ((ma 0), .inl (cB, 400, .inl fX))]) [0, 1] rfl
      have hD := hD.sub (ws' := [(h0, .inr (11, MO ma sv_thrown sv_length sv_nodes sv_many sv_directories sv_runsFrom sv_runs sv_read sv_wrong sv_isNamed sv_goes sv_goesSize sv_goesAt sv_targetParts sv_isRoot)), ((ma 0), .inl (cB, 400, .inl fX))]) [0, 1] (by decide) rfl
      have hl := lv_sub hl [2, 3, 1, 0] rfl
      exact kk51 _ _ _ _ _ ⟨is, 0, rfl, rfl, (by (try dsimp only); first | omega | assumption | trivial), (by (try dsimp only); first | omega | assumption | trivial), (by (try dsimp only); first | omega | assumption | trivial), hP, hD, hS, hl⟩
  · skip
    intro kk48
    refine lv_icmp_lt (tgt := 47) hx hb d_DiscMakerModel_isName_2 (by decide) (fun h_9 => ?_) (fun h_9 => ?_)
    · skip
      have g2_79 : x.toInt < 1 := (i_lt rfl (by decide)).mp h_9
      refine lv_iconst (v := 0) hx hb d_DiscMakerModel_isName_47 (by decide) ?_
      have hP := hP.sub (ws' := [(h0, .inr (11, MO ma sv_thrown sv_length sv_nodes sv_many sv_directories sv_runsFrom sv_runs sv_read sv_wrong sv_isNamed sv_goes sv_goesSize sv_goesAt sv_targetParts sv_isRoot)), ((ma 0), .inl (cB, 400, .inl fX))]) [0, 1] rfl
      have hD := hD.sub (ws' := [(h0, .inr (11, MO ma sv_thrown sv_length sv_nodes sv_many sv_directories sv_runsFrom sv_runs sv_read sv_wrong sv_isNamed sv_goes sv_goesSize sv_goesAt sv_targetParts sv_isRoot)), ((ma 0), .inl (cB, 400, .inl fX))]) [0, 1] (by decide) rfl
      have hl := lv_sub hl [0, 1] rfl
      exact kk48 _ _ _ _ _ ⟨0, rfl, rfl, (by (try dsimp only); first | omega | assumption | trivial), (by (try dsimp only); first | omega | assumption | trivial), hP, hD, hS, hl⟩
    · skip
      have g2_79 : ¬ x.toInt < 1 := fun h8 => h_9 ((i_lt rfl (by decide)).mpr h8)
      refine lv_iload_n hx hb d_DiscMakerModel_isName_5 rfl (lv_at hl 1 rfl) ?_
      refine lv_bipush (v := 30) hx hb d_DiscMakerModel_isName_6 (by decide) ?_
      refine lv_icmp_gt (tgt := 47) hx hb d_DiscMakerModel_isName_8 (by decide) (fun h_9 => ?_) (fun h_9 => ?_)
      · skip
        have g8_84 : 30 < x.toInt := (i_lt (by decide) rfl).mp h_9
        refine lv_iconst (v := 0) hx hb d_DiscMakerModel_isName_47 (by decide) ?_
        have hP := hP.sub (ws' := [(h0, .inr (11, MO ma sv_thrown sv_length sv_nodes sv_many sv_directories sv_runsFrom sv_runs sv_read sv_wrong sv_isNamed sv_goes sv_goesSize sv_goesAt sv_targetParts sv_isRoot)), ((ma 0), .inl (cB, 400, .inl fX))]) [0, 1] rfl
        have hD := hD.sub (ws' := [(h0, .inr (11, MO ma sv_thrown sv_length sv_nodes sv_many sv_directories sv_runsFrom sv_runs sv_read sv_wrong sv_isNamed sv_goes sv_goesSize sv_goesAt sv_targetParts sv_isRoot)), ((ma 0), .inl (cB, 400, .inl fX))]) [0, 1] (by decide) rfl
        have hl := lv_sub hl [0, 1] rfl
        exact kk48 _ _ _ _ _ ⟨0, rfl, rfl, (by (try dsimp only); first | omega | assumption | trivial), (by (try dsimp only); first | omega | assumption | trivial), hP, hD, hS, hl⟩
      · skip
        have g8_84 : ¬ 30 < x.toInt := fun h8 => h_9 ((i_lt (by decide) rfl).mpr h8)
        refine lv_aload_n hx hb d_DiscMakerModel_isName_11 rfl (lv_at hl 0 rfl) ?_
        refine va_get (D := D) (ci := 11) (v := .ref (ma 0)) (C := "DiscMakerModel") (T := F_DiscMakerModel) (N := 48) hx hb ht9 in_DiscMakerModel hown hK hP 0 rfl rfl 1 (by decide) (ht9 _ k1432) (fun _ h9 => h9) rfl d_DiscMakerModel_isName_12 ?_
        refine lv_iconst (v := 0) hx hb d_DiscMakerModel_isName_15 (by decide) ?_
        refine va_bald hx hb hK hP 1 0 rfl rfl (by unfold vp_in; decide) d_DiscMakerModel_isName_16 ?_
        refine lv_topi (fun v13 e_v13 => ?_)
        refine lv_bipush (v := 46) hx hb d_DiscMakerModel_isName_17 (by decide) ?_
        refine lv_icmp_ne (tgt := 43) hx hb d_DiscMakerModel_isName_19 (by decide) (fun h_9 => ?_) (fun h_9 => ?_)
        · skip
          have g19_92 : ¬ v13.toInt = 46 := fun h8 => h_9 ((i_eq rfl (by decide)).mpr h8)
          refine lv_iconst (v := 1) hx hb d_DiscMakerModel_isName_43 (by decide) ?_
          refine lv_goto (tgt := 48) hx hb d_DiscMakerModel_isName_44 (by decide) ?_
          have hP := hP.sub (ws' := [(h0, .inr (11, MO ma sv_thrown sv_length sv_nodes sv_many sv_directories sv_runsFrom sv_runs sv_read sv_wrong sv_isNamed sv_goes sv_goesSize sv_goesAt sv_targetParts sv_isRoot)), ((ma 0), .inl (cB, 400, .inl fX))]) [0, 1] rfl
          have hD := hD.sub (ws' := [(h0, .inr (11, MO ma sv_thrown sv_length sv_nodes sv_many sv_directories sv_runsFrom sv_runs sv_read sv_wrong sv_isNamed sv_goes sv_goesSize sv_goesAt sv_targetParts sv_isRoot)), ((ma 0), .inl (cB, 400, .inl fX))]) [0, 1] (by decide) rfl
          have hl := lv_sub hl [0, 1] rfl
          exact kk48 _ _ _ _ _ ⟨1, rfl, rfl, (by (try dsimp only); first | omega | assumption | trivial), (by (try dsimp only); first | omega | assumption | trivial), hP, hD, hS, hl⟩
        · skip
          have g19_92 : v13.toInt = 46 := (i_eq rfl (by decide)).mp h_9
          refine lv_iload_n hx hb d_DiscMakerModel_isName_22 rfl (lv_at hl 1 rfl) ?_
          refine lv_iconst (v := 1) hx hb d_DiscMakerModel_isName_23 (by decide) ?_
          refine lv_icmp_eq (tgt := 47) hx hb d_DiscMakerModel_isName_24 (by decide) (fun h_9 => ?_) (fun h_9 => ?_)
          · skip
            have g24_98 : x.toInt = 1 := (i_eq rfl (by decide)).mp h_9
            refine lv_iconst (v := 0) hx hb d_DiscMakerModel_isName_47 (by decide) ?_
            have hP := hP.sub (ws' := [(h0, .inr (11, MO ma sv_thrown sv_length sv_nodes sv_many sv_directories sv_runsFrom sv_runs sv_read sv_wrong sv_isNamed sv_goes sv_goesSize sv_goesAt sv_targetParts sv_isRoot)), ((ma 0), .inl (cB, 400, .inl fX))]) [0, 1] rfl
            have hD := hD.sub (ws' := [(h0, .inr (11, MO ma sv_thrown sv_length sv_nodes sv_many sv_directories sv_runsFrom sv_runs sv_read sv_wrong sv_isNamed sv_goes sv_goesSize sv_goesAt sv_targetParts sv_isRoot)), ((ma 0), .inl (cB, 400, .inl fX))]) [0, 1] (by decide) rfl
            have hl := lv_sub hl [0, 1] rfl
            exact kk48 _ _ _ _ _ ⟨0, rfl, rfl, (by (try dsimp only); first | omega | assumption | trivial), (by (try dsimp only); first | omega | assumption | trivial), hP, hD, hS, hl⟩
          · skip
            have g24_98 : ¬ x.toInt = 1 := fun h8 => h_9 ((i_eq rfl (by decide)).mpr h8)
            refine lv_iload_n hx hb d_DiscMakerModel_isName_27 rfl (lv_at hl 1 rfl) ?_
            refine lv_iconst (v := 2) hx hb d_DiscMakerModel_isName_28 (by decide) ?_
            refine lv_icmp_ne (tgt := 43) hx hb d_DiscMakerModel_isName_29 (by decide) (fun h_9 => ?_) (fun h_9 => ?_)
            · skip
              have g29_103 : ¬ x.toInt = 2 := fun h8 => h_9 ((i_eq rfl (by decide)).mpr h8)
              refine lv_iconst (v := 1) hx hb d_DiscMakerModel_isName_43 (by decide) ?_
              refine lv_goto (tgt := 48) hx hb d_DiscMakerModel_isName_44 (by decide) ?_
              have hP := hP.sub (ws' := [(h0, .inr (11, MO ma sv_thrown sv_length sv_nodes sv_many sv_directories sv_runsFrom sv_runs sv_read sv_wrong sv_isNamed sv_goes sv_goesSize sv_goesAt sv_targetParts sv_isRoot)), ((ma 0), .inl (cB, 400, .inl fX))]) [0, 1] rfl
              have hD := hD.sub (ws' := [(h0, .inr (11, MO ma sv_thrown sv_length sv_nodes sv_many sv_directories sv_runsFrom sv_runs sv_read sv_wrong sv_isNamed sv_goes sv_goesSize sv_goesAt sv_targetParts sv_isRoot)), ((ma 0), .inl (cB, 400, .inl fX))]) [0, 1] (by decide) rfl
              have hl := lv_sub hl [0, 1] rfl
              exact kk48 _ _ _ _ _ ⟨1, rfl, rfl, (by (try dsimp only); first | omega | assumption | trivial), (by (try dsimp only); first | omega | assumption | trivial), hP, hD, hS, hl⟩
            · skip
              have g29_103 : x.toInt = 2 := (i_eq rfl (by decide)).mp h_9
              refine lv_aload_n hx hb d_DiscMakerModel_isName_32 rfl (lv_at hl 0 rfl) ?_
              refine va_get (D := D) (ci := 11) (v := .ref (ma 0)) (C := "DiscMakerModel") (T := F_DiscMakerModel) (N := 48) hx hb ht9 in_DiscMakerModel hown hK hP 0 rfl rfl 1 (by decide) (ht9 _ k1432) (fun _ h9 => h9) rfl d_DiscMakerModel_isName_33 ?_
              refine lv_iconst (v := 1) hx hb d_DiscMakerModel_isName_36 (by decide) ?_
              refine va_bald hx hb hK hP 1 0 rfl rfl (by unfold vp_in; decide) d_DiscMakerModel_isName_37 ?_
              refine lv_topi (fun v14 e_v14 => ?_)
              refine lv_bipush (v := 46) hx hb d_DiscMakerModel_isName_38 (by decide) ?_
              refine lv_icmp_eq (tgt := 47) hx hb d_DiscMakerModel_isName_40 (by decide) (fun h_9 => ?_) (fun h_9 => ?_)
              · skip
                have g40_112 : v14.toInt = 46 := (i_eq rfl (by decide)).mp h_9
                refine lv_iconst (v := 0) hx hb d_DiscMakerModel_isName_47 (by decide) ?_
                have hP := hP.sub (ws' := [(h0, .inr (11, MO ma sv_thrown sv_length sv_nodes sv_many sv_directories sv_runsFrom sv_runs sv_read sv_wrong sv_isNamed sv_goes sv_goesSize sv_goesAt sv_targetParts sv_isRoot)), ((ma 0), .inl (cB, 400, .inl fX))]) [0, 1] rfl
                have hD := hD.sub (ws' := [(h0, .inr (11, MO ma sv_thrown sv_length sv_nodes sv_many sv_directories sv_runsFrom sv_runs sv_read sv_wrong sv_isNamed sv_goes sv_goesSize sv_goesAt sv_targetParts sv_isRoot)), ((ma 0), .inl (cB, 400, .inl fX))]) [0, 1] (by decide) rfl
                have hl := lv_sub hl [0, 1] rfl
                exact kk48 _ _ _ _ _ ⟨0, rfl, rfl, (by (try dsimp only); first | omega | assumption | trivial), (by (try dsimp only); first | omega | assumption | trivial), hP, hD, hS, hl⟩
              · skip
                have g40_112 : ¬ v14.toInt = 46 := fun h8 => h_9 ((i_eq rfl (by decide)).mpr h8)
                refine lv_iconst (v := 1) hx hb d_DiscMakerModel_isName_43 (by decide) ?_
                refine lv_goto (tgt := 48) hx hb d_DiscMakerModel_isName_44 (by decide) ?_
                have hP := hP.sub (ws' := [(h0, .inr (11, MO ma sv_thrown sv_length sv_nodes sv_many sv_directories sv_runsFrom sv_runs sv_read sv_wrong sv_isNamed sv_goes sv_goesSize sv_goesAt sv_targetParts sv_isRoot)), ((ma 0), .inl (cB, 400, .inl fX))]) [0, 1] rfl
                have hD := hD.sub (ws' := [(h0, .inr (11, MO ma sv_thrown sv_length sv_nodes sv_many sv_directories sv_runsFrom sv_runs sv_read sv_wrong sv_isNamed sv_goes sv_goesSize sv_goesAt sv_targetParts sv_isRoot)), ((ma 0), .inl (cB, 400, .inl fX))]) [0, 1] (by decide) rfl
                have hl := lv_sub hl [0, 1] rfl
                exact kk48 _ _ _ _ _ ⟨1, rfl, rfl, (by (try dsimp only); first | omega | assumption | trivial), (by (try dsimp only); first | omega | assumption | trivial), hP, hD, hS, hl⟩

theorem d_DiscMakerModel_nameOf_0 : decode b_DiscMakerModel_nameOf 0 = .ok (.iload_n 2, 1) := by decide +kernel
theorem d_DiscMakerModel_nameOf_1 : decode b_DiscMakerModel_nameOf 1 = .ok (.aload_n 0, 1) := by decide +kernel
theorem d_DiscMakerModel_nameOf_2 : decode b_DiscMakerModel_nameOf 2 = .ok (.getfield 38, 3) := by decide +kernel
theorem d_DiscMakerModel_nameOf_5 : decode b_DiscMakerModel_nameOf 5 = .ok (.iload_n 1, 1) := by decide +kernel
theorem d_DiscMakerModel_nameOf_6 : decode b_DiscMakerModel_nameOf 6 = .ok (.iaload, 1) := by decide +kernel
theorem d_DiscMakerModel_nameOf_7 : decode b_DiscMakerModel_nameOf 7 = .ok (.if_icmp .ge 21, 3) := by decide +kernel
theorem d_DiscMakerModel_nameOf_10 : decode b_DiscMakerModel_nameOf 10 = .ok (.aload_n 0, 1) := by decide +kernel
theorem d_DiscMakerModel_nameOf_11 : decode b_DiscMakerModel_nameOf 11 = .ok (.getfield 35, 3) := by decide +kernel
theorem d_DiscMakerModel_nameOf_14 : decode b_DiscMakerModel_nameOf 14 = .ok (.bipush 30, 2) := by decide +kernel
theorem d_DiscMakerModel_nameOf_16 : decode b_DiscMakerModel_nameOf 16 = .ok (.iload_n 1, 1) := by decide +kernel
theorem d_DiscMakerModel_nameOf_17 : decode b_DiscMakerModel_nameOf 17 = .ok (.imul, 1) := by decide +kernel
theorem d_DiscMakerModel_nameOf_18 : decode b_DiscMakerModel_nameOf 18 = .ok (.iload_n 2, 1) := by decide +kernel
theorem d_DiscMakerModel_nameOf_19 : decode b_DiscMakerModel_nameOf 19 = .ok (.iadd, 1) := by decide +kernel
theorem d_DiscMakerModel_nameOf_20 : decode b_DiscMakerModel_nameOf 20 = .ok (.baload, 1) := by decide +kernel
theorem d_DiscMakerModel_nameOf_21 : decode b_DiscMakerModel_nameOf 21 = .ok (.sipush 255, 3) := by decide +kernel
theorem d_DiscMakerModel_nameOf_24 : decode b_DiscMakerModel_nameOf 24 = .ok (.iand, 1) := by decide +kernel
theorem d_DiscMakerModel_nameOf_25 : decode b_DiscMakerModel_nameOf 25 = .ok (.goto 4, 3) := by decide +kernel
theorem d_DiscMakerModel_nameOf_28 : decode b_DiscMakerModel_nameOf 28 = .ok (.iconst 0, 1) := by decide +kernel
theorem d_DiscMakerModel_nameOf_29 : decode b_DiscMakerModel_nameOf 29 = .ok (.ireturn, 1) := by decide +kernel
set_option maxHeartbeats 4000000 in
set_option maxRecDepth 100000 in
theorem m_nameOf (l : Launch) (D : va_G) (cB cI cJ cZ cN cF : ClassId) (sz : Nat) (h0 : Nat) (ma : Nat → Nat) (sv_thrown sv_length sv_nodes sv_many sv_directories sv_runsFrom sv_runs sv_read sv_wrong sv_isNamed sv_goes sv_goesSize sv_goesAt sv_targetParts sv_isRoot : Int32) (fN : Nat → Int32) (fNS : Nat → Int32) (x : Int32) (y : Int32) (hx0 : 0 ≤ x.toInt ∧ x.toInt < 40) (hy0 : 0 ≤ y.toInt) (hNS : Rg 0 30 40 fNS) : Met l y_DiscMakerModel_nameOf w_DiscMakerModel_nameOf ({ frames := 0, cells := 0, slots := 0, locals := 0 }) (va_Pc [.ref h0, .int x, .int y] (fun U => U.heap.size = sz ∧ va_P D CL [(h0, .inr (11, MO ma sv_thrown sv_length sv_nodes sv_many sv_directories sv_runsFrom sv_runs sv_read sv_wrong sv_isNamed sv_goes sv_goesSize sv_goesAt sv_targetParts sv_isRoot)), ((ma 8), .inl (cB, 1200, .inl fN)), ((ma 9), .inl (cI, 40, .inl fNS))] U.heap ∧ va_K D CL (TY cB cI cJ cZ cN cF) U ∧ NN U ∧ va_D (fun _ => True) [(h0, .inr (11, MO ma sv_thrown sv_length sv_nodes sv_many sv_directories sv_runsFrom sv_runs sv_read sv_wrong sv_isNamed sv_goes sv_goesSize sv_goesAt sv_targetParts sv_isRoot)), ((ma 8), .inl (cB, 1200, .inl fN)), ((ma 9), .inl (cI, 40, .inl fNS))])) (va_Qi (fun (r : Int32) (u : Unit) => (0 ≤ r.toInt ∧ r.toInt ≤ 255) ∧ (r.toInt = nmF fN fNS x.toNatClampNeg y.toNatClampNeg)) (fun (u : Unit) (t : State) => match u with | () => va_P D CL [(h0, .inr (11, MO ma sv_thrown sv_length sv_nodes sv_many sv_directories sv_runsFrom sv_runs sv_read sv_wrong sv_isNamed sv_goes sv_goesSize sv_goesAt sv_targetParts sv_isRoot)), ((ma 8), .inl (cB, 1200, .inl fN)), ((ma 9), .inl (cI, 40, .inl fNS))] t.heap ∧ va_D (va_A [(h0, .inr (11, MO ma sv_thrown sv_length sv_nodes sv_many sv_directories sv_runsFrom sv_runs sv_read sv_wrong sv_isNamed sv_goes sv_goesSize sv_goesAt sv_targetParts sv_isRoot)), ((ma 8), .inl (cB, 1200, .inl fN)), ((ma 9), .inl (cI, 40, .inl fNS))] sz) [(h0, .inr (11, MO ma sv_thrown sv_length sv_nodes sv_many sv_directories sv_runsFrom sv_runs sv_read sv_wrong sv_isNamed sv_goes sv_goesSize sv_goesAt sv_targetParts sv_isRoot)), ((ma 8), .inl (cB, 1200, .inl fN)), ((ma 9), .inl (cI, 40, .inl fNS))]) (va_A [(h0, .inr (11, MO ma sv_thrown sv_length sv_nodes sv_many sv_directories sv_runsFrom sv_runs sv_read sv_wrong sv_isNamed sv_goes sv_goesSize sv_goesAt sv_targetParts sv_isRoot)), ((ma 8), .inl (cB, 1200, .inl fN)), ((ma 9), .inl (cI, 40, .inl fNS))] sz)) 0 0 (va_A [(h0, .inr (11, MO ma sv_thrown sv_length sv_nodes sv_many sv_directories sv_runsFrom sv_runs sv_read sv_wrong sv_isNamed sv_goes sv_goesSize sv_goesAt sv_targetParts sv_isRoot)), ((ma 8), .inl (cB, 1200, .inl fN)), ((ma 9), .inl (cI, 40, .inl fNS))] sz) := by
  refine Met.ofW (cc := b_DiscMakerModel_nameOf) (maxL := 3) (ret := some .int) (by decide) rfl ?_
  intro p e s m args below meth c s₁ B hml hv
  obtain ⟨rfl, hsz, hP, hK, hN, hD0⟩ := hv
  have hx := B.exec
  have hb := B.bytes
  have hr := B.returns
  have hts := atoms_spec (ws := w_DiscMakerModel_nameOf) B.pre
  have ht9 := fun (w : Cond) (h : w ∈ lw_g) => hts w (List.mem_cons_of_mem _ h)
  have hown : s.vm.findClass "DiscMakerModel" = some m.cls := findClass_of_methodNamed B.named
  have hlocks := B.notSynchronized
  subst hsz
  have hD := hD0.self (sz := s.heap.size)
  generalize hAe : va_A [(h0, .inr (11, MO ma sv_thrown sv_length sv_nodes sv_many sv_directories sv_runsFrom sv_runs sv_read sv_wrong sv_isNamed sv_goes sv_goesSize sv_goesAt sv_targetParts sv_isRoot)), ((ma 8), .inl (cB, 1200, .inl fN)), ((ma 9), .inl (cI, 40, .inl fNS))] s.heap.size = A at hD ⊢
  have hA : ∀ q : Nat, s.heap.size ≤ q → A q := fun q h => by rw [← hAe]; exact Or.inr h
  have hS : va_S A s.heap s.heap [] := va_S.rf
  have hP : va_P D CL [(h0, .inr (11, MO ma sv_thrown sv_length sv_nodes sv_many sv_directories sv_runsFrom sv_runs sv_read sv_wrong sv_isNamed sv_goes sv_goesSize sv_goesAt sv_targetParts sv_isRoot)), ((ma 8), .inl (cB, 1200, .inl fN)), ((ma 9), .inl (cI, 40, .inl fNS))] s.heap := hP
  have hl := lv_entry [.ref h0, .int x, .int y] (n := 3) (Nat.le_of_ble_eq_true rfl)
  rw [lg_entry_eq]
  generalize (lg_sl [.ref h0, .int x, .int y] ++ List.replicate (3 - (lg_sl [.ref h0, .int x, .int y]).length) Slot.unset).toArray = ls at hl ⊢
  have hl : lv_has ls 3 [(0, .ref h0), (1, .int x), (2, .int y)] := hl
  have L_m1 : ((-1) : Int32).toInt = (-1) := by decide
  have L_0 : (0 : Int32).toInt = 0 := by decide
  have L_1 : (1 : Int32).toInt = 1 := by decide
  have L_30 : (30 : Int32).toInt = 30 := by decide
  have L_255 : (255 : Int32).toInt = 255 := by decide
  have hxc := i_cl (a := x) (by omega)
  have hyc := i_cl (a := y) (by omega)
  refine lv_iload_n hx hb d_DiscMakerModel_nameOf_0 rfl (lv_at hl 2 rfl) ?_
  refine lv_aload_n hx hb d_DiscMakerModel_nameOf_1 rfl (lv_at hl 0 rfl) ?_
  refine va_get (D := D) (ci := 11) (v := .ref (ma 9)) (C := "DiscMakerModel") (T := F_DiscMakerModel) (N := 48) hx hb ht9 in_DiscMakerModel hown hK hP 0 rfl rfl 12 (by decide) (ht9 _ k1443) (fun _ h9 => h9) rfl d_DiscMakerModel_nameOf_2 ?_
  refine lv_iload_n hx hb d_DiscMakerModel_nameOf_5 rfl (lv_at hl 1 rfl) ?_
  refine va_iald hx hb hK hP 2 1 rfl rfl (vp_in_iff.mpr ⟨by omega, by omega⟩) d_DiscMakerModel_nameOf_6 ?_
  refine lv_topi (fun v1 e_v1 => ?_)
  have t_v1 : 0 ≤ v1.toInt ∧ v1.toInt ≤ 30 := by
    rw [e_v1]; exact hNS _ (by have := i_cl (a := x) (by omega); omega)
  refine lv_icmp_ge (tgt := 28) hx hb d_DiscMakerModel_nameOf_7 (by decide) (fun h_9 => ?_) (fun h_9 => ?_)
  · skip
    have g7_6 : v1.toInt ≤ y.toInt := (i_le rfl rfl).mp h_9
    refine lv_iconst (v := 0) hx hb d_DiscMakerModel_nameOf_28 (by decide) ?_
    have hP9 := hP.sub (ws' := [(h0, .inr (11, MO ma sv_thrown sv_length sv_nodes sv_many sv_directories sv_runsFrom sv_runs sv_read sv_wrong sv_isNamed sv_goes sv_goesSize sv_goesAt sv_targetParts sv_isRoot)), ((ma 8), .inl (cB, 1200, .inl fN)), ((ma 9), .inl (cI, 40, .inl fNS))]) [0, 1, 2] rfl
    have hD9 := hD.sub (ws' := [(h0, .inr (11, MO ma sv_thrown sv_length sv_nodes sv_many sv_directories sv_runsFrom sv_runs sv_read sv_wrong sv_isNamed sv_goes sv_goesSize sv_goesAt sv_targetParts sv_isRoot)), ((ma 8), .inl (cB, 1200, .inl fN)), ((ma 9), .inl (cI, 40, .inl fNS))]) [0, 1, 2] (by decide) rfl
    exact W.iret (v := 0) hx hb hr (fun t ht hW => ⟨⟨0, (), rfl, ⟨(by (try dsimp only); first | omega | assumption | trivial), (by unfold nmF; rw [if_neg (by rw [← e_v1]; omega)]; omega)⟩, by rw [ht]; exact hP9, hD9⟩, hS.F ht⟩) hS.2.2 d_DiscMakerModel_nameOf_29
  · skip
    have g7_6 : ¬ v1.toInt ≤ y.toInt := fun h8 => h_9 ((i_le rfl rfl).mpr h8)
    refine lv_aload_n hx hb d_DiscMakerModel_nameOf_10 rfl (lv_at hl 0 rfl) ?_
    refine va_get (D := D) (ci := 11) (v := .ref (ma 8)) (C := "DiscMakerModel") (T := F_DiscMakerModel) (N := 48) hx hb ht9 in_DiscMakerModel hown hK hP 0 rfl rfl 11 (by decide) (ht9 _ k1442) (fun _ h9 => h9) rfl d_DiscMakerModel_nameOf_11 ?_
    refine lv_bipush (v := 30) hx hb d_DiscMakerModel_nameOf_14 (by decide) ?_
    refine lv_iload_n hx hb d_DiscMakerModel_nameOf_16 rfl (lv_at hl 1 rfl) ?_
    refine lv_imul hx hb d_DiscMakerModel_nameOf_17 ?_
    refine lv_topi (fun v2 e_v2 => ?_)
    have t_v2 : v2.toInt = 30 * x.toInt := by rw [e_v2]; exact i_mul (by decide) rfl (by omega) (by omega)
    refine lv_iload_n hx hb d_DiscMakerModel_nameOf_18 rfl (lv_at hl 2 rfl) ?_
    refine lv_iadd hx hb d_DiscMakerModel_nameOf_19 ?_
    refine lv_topi (fun v3 e_v3 => ?_)
    have t_v3 : v3.toInt = v2.toInt + y.toInt := by rw [e_v3]; exact i_add rfl rfl (by omega) (by omega)
    refine va_bald hx hb hK hP 1 0 rfl rfl (vp_in_iff.mpr ⟨by omega, by omega⟩) d_DiscMakerModel_nameOf_20 ?_
    refine lv_topi (fun v4 e_v4 => ?_)
    have c_v4 := i_cl (a := v3) (by omega)
    have e2_v4 : v4 = fN (30 * x.toNatClampNeg + y.toNatClampNeg) := by rw [e_v4, show v3.toNatClampNeg = 30 * x.toNatClampNeg + y.toNatClampNeg by omega]
    refine lv_sipush (v := 255) hx hb d_DiscMakerModel_nameOf_21 (by decide) ?_
    refine lv_iand hx hb d_DiscMakerModel_nameOf_24 ?_
    refine lv_topi (fun v5 e_v5 => ?_)
    have t_v5 : 0 ≤ v5.toInt ∧ v5.toInt ≤ 255 := by rw [e_v5]; exact i_and (by decide) (by decide)
    refine lv_goto (tgt := 29) hx hb d_DiscMakerModel_nameOf_25 (by decide) ?_
    have hP9 := hP.sub (ws' := [(h0, .inr (11, MO ma sv_thrown sv_length sv_nodes sv_many sv_directories sv_runsFrom sv_runs sv_read sv_wrong sv_isNamed sv_goes sv_goesSize sv_goesAt sv_targetParts sv_isRoot)), ((ma 8), .inl (cB, 1200, .inl fN)), ((ma 9), .inl (cI, 40, .inl fNS))]) [0, 1, 2] rfl
    have hD9 := hD.sub (ws' := [(h0, .inr (11, MO ma sv_thrown sv_length sv_nodes sv_many sv_directories sv_runsFrom sv_runs sv_read sv_wrong sv_isNamed sv_goes sv_goesSize sv_goesAt sv_targetParts sv_isRoot)), ((ma 8), .inl (cB, 1200, .inl fN)), ((ma 9), .inl (cI, 40, .inl fNS))]) [0, 1, 2] (by decide) rfl
    exact W.iret (v := v5) hx hb hr (fun t ht hW => ⟨⟨v5, (), rfl, ⟨(by (try dsimp only); first | omega | assumption | trivial), (by unfold nmF; rw [if_pos (by rw [← e_v1]; omega), e_v5, e2_v4])⟩, by rw [ht]; exact hP9, hD9⟩, hS.F ht⟩) hS.2.2 d_DiscMakerModel_nameOf_29

theorem d_DiscMakerModel_isThere_0 : decode b_DiscMakerModel_isThere 0 = .ok (.iconst 0, 1) := by decide +kernel
theorem d_DiscMakerModel_isThere_1 : decode b_DiscMakerModel_isThere 1 = .ok (.istore_n 3, 1) := by decide +kernel
theorem d_DiscMakerModel_isThere_2 : decode b_DiscMakerModel_isThere 2 = .ok (.iconst 1, 1) := by decide +kernel
theorem d_DiscMakerModel_isThere_3 : decode b_DiscMakerModel_isThere 3 = .ok (.istore 4, 2) := by decide +kernel
theorem d_DiscMakerModel_isThere_5 : decode b_DiscMakerModel_isThere 5 = .ok (.iload 4, 2) := by decide +kernel
theorem d_DiscMakerModel_isThere_7 : decode b_DiscMakerModel_isThere 7 = .ok (.aload_n 0, 1) := by decide +kernel
theorem d_DiscMakerModel_isThere_8 : decode b_DiscMakerModel_isThere 8 = .ok (.getfield 114, 3) := by decide +kernel
theorem d_DiscMakerModel_isThere_11 : decode b_DiscMakerModel_isThere 11 = .ok (.if_icmp .ge 84, 3) := by decide +kernel
theorem d_DiscMakerModel_isThere_14 : decode b_DiscMakerModel_isThere 14 = .ok (.iload_n 3, 1) := by decide +kernel
theorem d_DiscMakerModel_isThere_15 : decode b_DiscMakerModel_isThere 15 = .ok (.ifCond .ne 80, 3) := by decide +kernel
theorem d_DiscMakerModel_isThere_18 : decode b_DiscMakerModel_isThere 18 = .ok (.aload_n 0, 1) := by decide +kernel
theorem d_DiscMakerModel_isThere_19 : decode b_DiscMakerModel_isThere 19 = .ok (.getfield 17, 3) := by decide +kernel
theorem d_DiscMakerModel_isThere_22 : decode b_DiscMakerModel_isThere 22 = .ok (.iload 4, 2) := by decide +kernel
theorem d_DiscMakerModel_isThere_24 : decode b_DiscMakerModel_isThere 24 = .ok (.iaload, 1) := by decide +kernel
theorem d_DiscMakerModel_isThere_25 : decode b_DiscMakerModel_isThere 25 = .ok (.iload_n 1, 1) := by decide +kernel
theorem d_DiscMakerModel_isThere_26 : decode b_DiscMakerModel_isThere 26 = .ok (.if_icmp .ne 18, 3) := by decide +kernel
theorem d_DiscMakerModel_isThere_29 : decode b_DiscMakerModel_isThere 29 = .ok (.aload_n 0, 1) := by decide +kernel
theorem d_DiscMakerModel_isThere_30 : decode b_DiscMakerModel_isThere 30 = .ok (.getfield 38, 3) := by decide +kernel
theorem d_DiscMakerModel_isThere_33 : decode b_DiscMakerModel_isThere 33 = .ok (.iload 4, 2) := by decide +kernel
theorem d_DiscMakerModel_isThere_35 : decode b_DiscMakerModel_isThere 35 = .ok (.iaload, 1) := by decide +kernel
theorem d_DiscMakerModel_isThere_36 : decode b_DiscMakerModel_isThere 36 = .ok (.iload_n 2, 1) := by decide +kernel
theorem d_DiscMakerModel_isThere_37 : decode b_DiscMakerModel_isThere 37 = .ok (.if_icmp .ne 7, 3) := by decide +kernel
theorem d_DiscMakerModel_isThere_40 : decode b_DiscMakerModel_isThere 40 = .ok (.iconst 1, 1) := by decide +kernel
theorem d_DiscMakerModel_isThere_41 : decode b_DiscMakerModel_isThere 41 = .ok (.goto 4, 3) := by decide +kernel
theorem d_DiscMakerModel_isThere_44 : decode b_DiscMakerModel_isThere 44 = .ok (.iconst 0, 1) := by decide +kernel
theorem d_DiscMakerModel_isThere_45 : decode b_DiscMakerModel_isThere 45 = .ok (.istore_n 3, 1) := by decide +kernel
theorem d_DiscMakerModel_isThere_46 : decode b_DiscMakerModel_isThere 46 = .ok (.iconst 0, 1) := by decide +kernel
theorem d_DiscMakerModel_isThere_47 : decode b_DiscMakerModel_isThere 47 = .ok (.istore 5, 2) := by decide +kernel
theorem d_DiscMakerModel_isThere_49 : decode b_DiscMakerModel_isThere 49 = .ok (.iload 5, 2) := by decide +kernel
theorem d_DiscMakerModel_isThere_51 : decode b_DiscMakerModel_isThere 51 = .ok (.iload_n 2, 1) := by decide +kernel
theorem d_DiscMakerModel_isThere_52 : decode b_DiscMakerModel_isThere 52 = .ok (.if_icmp .ge 37, 3) := by decide +kernel
theorem d_DiscMakerModel_isThere_55 : decode b_DiscMakerModel_isThere 55 = .ok (.iload_n 3, 1) := by decide +kernel
theorem d_DiscMakerModel_isThere_56 : decode b_DiscMakerModel_isThere 56 = .ok (.ifCond .eq 33, 3) := by decide +kernel
theorem d_DiscMakerModel_isThere_59 : decode b_DiscMakerModel_isThere 59 = .ok (.aload_n 0, 1) := by decide +kernel
theorem d_DiscMakerModel_isThere_60 : decode b_DiscMakerModel_isThere 60 = .ok (.iload 4, 2) := by decide +kernel
theorem d_DiscMakerModel_isThere_62 : decode b_DiscMakerModel_isThere 62 = .ok (.iload 5, 2) := by decide +kernel
theorem d_DiscMakerModel_isThere_64 : decode b_DiscMakerModel_isThere 64 = .ok (.invokevirtual 131, 3) := by decide +kernel
theorem d_DiscMakerModel_isThere_67 : decode b_DiscMakerModel_isThere 67 = .ok (.aload_n 0, 1) := by decide +kernel
theorem d_DiscMakerModel_isThere_68 : decode b_DiscMakerModel_isThere 68 = .ok (.getfield 7, 3) := by decide +kernel
theorem d_DiscMakerModel_isThere_71 : decode b_DiscMakerModel_isThere 71 = .ok (.iload 5, 2) := by decide +kernel
theorem d_DiscMakerModel_isThere_73 : decode b_DiscMakerModel_isThere 73 = .ok (.baload, 1) := by decide +kernel
theorem d_DiscMakerModel_isThere_74 : decode b_DiscMakerModel_isThere 74 = .ok (.if_icmp .ne 7, 3) := by decide +kernel
theorem d_DiscMakerModel_isThere_77 : decode b_DiscMakerModel_isThere 77 = .ok (.iconst 1, 1) := by decide +kernel
theorem d_DiscMakerModel_isThere_78 : decode b_DiscMakerModel_isThere 78 = .ok (.goto 4, 3) := by decide +kernel
theorem d_DiscMakerModel_isThere_81 : decode b_DiscMakerModel_isThere 81 = .ok (.iconst 0, 1) := by decide +kernel
theorem d_DiscMakerModel_isThere_82 : decode b_DiscMakerModel_isThere 82 = .ok (.istore_n 3, 1) := by decide +kernel
theorem d_DiscMakerModel_isThere_83 : decode b_DiscMakerModel_isThere 83 = .ok (.iinc 5 1, 3) := by decide +kernel
theorem d_DiscMakerModel_isThere_86 : decode b_DiscMakerModel_isThere 86 = .ok (.goto (-37), 3) := by decide +kernel
theorem d_DiscMakerModel_isThere_89 : decode b_DiscMakerModel_isThere 89 = .ok (.iinc 4 1, 3) := by decide +kernel
theorem d_DiscMakerModel_isThere_92 : decode b_DiscMakerModel_isThere 92 = .ok (.goto (-87), 3) := by decide +kernel
theorem d_DiscMakerModel_isThere_95 : decode b_DiscMakerModel_isThere 95 = .ok (.iload_n 3, 1) := by decide +kernel
theorem d_DiscMakerModel_isThere_96 : decode b_DiscMakerModel_isThere 96 = .ok (.ireturn, 1) := by decide +kernel
set_option maxHeartbeats 4000000 in
set_option maxRecDepth 100000 in
theorem m_isThere (l : Launch) (D : va_G) (cB cI cJ cZ cN cF : ClassId) (sz : Nat) (h0 : Nat) (ma : Nat → Nat) (sv_thrown sv_length sv_nodes sv_many sv_directories sv_runsFrom sv_runs sv_read sv_wrong sv_isNamed sv_goes sv_goesSize sv_goesAt sv_targetParts sv_isRoot : Int32) (fX : Nat → Int32) (fP : Nat → Int32) (fN : Nat → Int32) (fNS : Nat → Int32) (x : Int32) (y : Int32) (hn : 1 ≤ sv_nodes.toInt ∧ sv_nodes.toInt ≤ 40) (hy0 : 0 ≤ y.toInt ∧ y.toInt ≤ 30) (hNS : Rg 0 30 40 fNS) : Met l y_DiscMakerModel_isThere w_DiscMakerModel_isThere ({ frames := 1, cells := 0, slots := 0, locals := 22 }) (va_Pc [.ref h0, .int x, .int y] (fun U => U.heap.size = sz ∧ va_P D CL [(h0, .inr (11, MO ma sv_thrown sv_length sv_nodes sv_many sv_directories sv_runsFrom sv_runs sv_read sv_wrong sv_isNamed sv_goes sv_goesSize sv_goesAt sv_targetParts sv_isRoot)), ((ma 0), .inl (cB, 400, .inl fX)), ((ma 2), .inl (cI, 40, .inl fP)), ((ma 8), .inl (cB, 1200, .inl fN)), ((ma 9), .inl (cI, 40, .inl fNS))] U.heap ∧ va_K D CL (TY cB cI cJ cZ cN cF) U ∧ NN U ∧ va_D (fun _ => True) [(h0, .inr (11, MO ma sv_thrown sv_length sv_nodes sv_many sv_directories sv_runsFrom sv_runs sv_read sv_wrong sv_isNamed sv_goes sv_goesSize sv_goesAt sv_targetParts sv_isRoot)), ((ma 0), .inl (cB, 400, .inl fX)), ((ma 2), .inl (cI, 40, .inl fP)), ((ma 8), .inl (cB, 1200, .inl fN)), ((ma 9), .inl (cI, 40, .inl fNS))])) (va_Qi (fun (r : Int32) (u : Unit) => (0 ≤ r.toInt ∧ r.toInt ≤ 1)) (fun (u : Unit) (t : State) => match u with | () => va_P D CL [(h0, .inr (11, MO ma sv_thrown sv_length sv_nodes sv_many sv_directories sv_runsFrom sv_runs sv_read sv_wrong sv_isNamed sv_goes sv_goesSize sv_goesAt sv_targetParts sv_isRoot)), ((ma 0), .inl (cB, 400, .inl fX)), ((ma 2), .inl (cI, 40, .inl fP)), ((ma 8), .inl (cB, 1200, .inl fN)), ((ma 9), .inl (cI, 40, .inl fNS))] t.heap ∧ va_D (va_A [(h0, .inr (11, MO ma sv_thrown sv_length sv_nodes sv_many sv_directories sv_runsFrom sv_runs sv_read sv_wrong sv_isNamed sv_goes sv_goesSize sv_goesAt sv_targetParts sv_isRoot)), ((ma 0), .inl (cB, 400, .inl fX)), ((ma 2), .inl (cI, 40, .inl fP)), ((ma 8), .inl (cB, 1200, .inl fN)), ((ma 9), .inl (cI, 40, .inl fNS))] sz) [(h0, .inr (11, MO ma sv_thrown sv_length sv_nodes sv_many sv_directories sv_runsFrom sv_runs sv_read sv_wrong sv_isNamed sv_goes sv_goesSize sv_goesAt sv_targetParts sv_isRoot)), ((ma 0), .inl (cB, 400, .inl fX)), ((ma 2), .inl (cI, 40, .inl fP)), ((ma 8), .inl (cB, 1200, .inl fN)), ((ma 9), .inl (cI, 40, .inl fNS))]) (va_A [(h0, .inr (11, MO ma sv_thrown sv_length sv_nodes sv_many sv_directories sv_runsFrom sv_runs sv_read sv_wrong sv_isNamed sv_goes sv_goesSize sv_goesAt sv_targetParts sv_isRoot)), ((ma 0), .inl (cB, 400, .inl fX)), ((ma 2), .inl (cI, 40, .inl fP)), ((ma 8), .inl (cB, 1200, .inl fN)), ((ma 9), .inl (cI, 40, .inl fNS))] sz)) 0 0 (va_A [(h0, .inr (11, MO ma sv_thrown sv_length sv_nodes sv_many sv_directories sv_runsFrom sv_runs sv_read sv_wrong sv_isNamed sv_goes sv_goesSize sv_goesAt sv_targetParts sv_isRoot)), ((ma 0), .inl (cB, 400, .inl fX)), ((ma 2), .inl (cI, 40, .inl fP)), ((ma 8), .inl (cB, 1200, .inl fN)), ((ma 9), .inl (cI, 40, .inl fNS))] sz) := by
  refine Met.ofW (cc := b_DiscMakerModel_isThere) (maxL := 6) (ret := some .boolean) (by decide) rfl ?_
  intro p e s m args below meth c s₁ B hml hv
  obtain ⟨rfl, hsz, hP, hK, hN, hD0⟩ := hv
  have hx := B.exec
  have hb := B.bytes
  have hr := B.returns
  have hts := atoms_spec (ws := w_DiscMakerModel_isThere) B.pre
  have ht9 := fun (w : Cond) (h : w ∈ lw_g) => hts w (List.mem_cons_of_mem _ h)
  have hown : s.vm.findClass "DiscMakerModel" = some m.cls := findClass_of_methodNamed B.named
  have hlocks := B.notSynchronized
  subst hsz
  have hD := hD0.self (sz := s.heap.size)
  generalize hAe : va_A [(h0, .inr (11, MO ma sv_thrown sv_length sv_nodes sv_many sv_directories sv_runsFrom sv_runs sv_read sv_wrong sv_isNamed sv_goes sv_goesSize sv_goesAt sv_targetParts sv_isRoot)), ((ma 0), .inl (cB, 400, .inl fX)), ((ma 2), .inl (cI, 40, .inl fP)), ((ma 8), .inl (cB, 1200, .inl fN)), ((ma 9), .inl (cI, 40, .inl fNS))] s.heap.size = A at hD ⊢
  have hA : ∀ q : Nat, s.heap.size ≤ q → A q := fun q h => by rw [← hAe]; exact Or.inr h
  have hS : va_S A s.heap s.heap [] := va_S.rf
  have hP : va_P D CL [(h0, .inr (11, MO ma sv_thrown sv_length sv_nodes sv_many sv_directories sv_runsFrom sv_runs sv_read sv_wrong sv_isNamed sv_goes sv_goesSize sv_goesAt sv_targetParts sv_isRoot)), ((ma 0), .inl (cB, 400, .inl fX)), ((ma 2), .inl (cI, 40, .inl fP)), ((ma 8), .inl (cB, 1200, .inl fN)), ((ma 9), .inl (cI, 40, .inl fNS))] s.heap := hP
  have hl := lv_entry [.ref h0, .int x, .int y] (n := 6) (Nat.le_of_ble_eq_true rfl)
  rw [lg_entry_eq]
  generalize (lg_sl [.ref h0, .int x, .int y] ++ List.replicate (6 - (lg_sl [.ref h0, .int x, .int y]).length) Slot.unset).toArray = ls at hl ⊢
  have hl : lv_has ls 6 [(0, .ref h0), (1, .int x), (2, .int y)] := hl
  have L_m1 : ((-1) : Int32).toInt = (-1) := by decide
  have L_0 : (0 : Int32).toInt = 0 := by decide
  have L_1 : (1 : Int32).toInt = 1 := by decide
  refine lv_iconst (v := 0) hx hb d_DiscMakerModel_isThere_0 (by decide) ?_
  refine lv_istore_n hx hb d_DiscMakerModel_isThere_1 rfl hl (by decide) rfl (fun ls hl => ?_)
  have hl : lv_has ls 6 [(3, .int 0), (0, .ref h0), (1, .int x), (2, .int y)] := hl
  refine lv_iconst (v := 1) hx hb d_DiscMakerModel_isThere_2 (by decide) ?_
  refine lv_istore hx hb d_DiscMakerModel_isThere_3 hl (by decide) rfl (fun ls hl => ?_)
  have hl : lv_has ls 6 [(4, .int 1), (3, .int 0), (0, .ref h0), (1, .int x), (2, .int y)] := hl
  refine zz_lab (P := fun (lk : Nat) (H : Heap) (locs : List Loc) (ls : Array Slot) (stk : List Value) => ∃ (iz : Int32) (kx : Int32) , lk = (40 - kx.toInt).toNat ∧ stk = [] ∧ (0 ≤ iz.toInt ∧ iz.toInt ≤ 1) ∧ (1 ≤ kx.toInt ∧ kx.toInt ≤ 40) ∧ va_P D CL [(h0, .inr (11, MO ma sv_thrown sv_length sv_nodes sv_many sv_directories sv_runsFrom sv_runs sv_read sv_wrong sv_isNamed sv_goes sv_goesSize sv_goesAt sv_targetParts sv_isRoot)), ((ma 0), .inl (cB, 400, .inl fX)), ((ma 2), .inl (cI, 40, .inl fP)), ((ma 8), .inl (cB, 1200, .inl fN)), ((ma 9), .inl (cI, 40, .inl fNS))] H ∧ va_D A [(h0, .inr (11, MO ma sv_thrown sv_length sv_nodes sv_many sv_directories sv_runsFrom sv_runs sv_read sv_wrong sv_isNamed sv_goes sv_goesSize sv_goesAt sv_targetParts sv_isRoot)), ((ma 0), .inl (cB, 400, .inl fX)), ((ma 2), .inl (cI, 40, .inl fP)), ((ma 8), .inl (cB, 1200, .inl fN)), ((ma 9), .inl (cI, 40, .inl fNS))] ∧ va_S A s.heap H locs ∧ lv_has ls 6 [(0, .ref h0), (1, .int x), (2, .int y), (3, .int iz), (4, .int kx)]) 5 ?_ ?_
  · skip
    intro lk ih5 H locs ls stk hI
    obtain ⟨iz, kx, hm5, rfl, f1, f2, hP, hD, hS, hl⟩ := hI
    refine lv_iload hx hb d_DiscMakerModel_isThere_5 (lv_at hl 4 rfl) ?_
    refine lv_aload_n hx hb d_DiscMakerModel_isThere_7 rfl (lv_at hl 0 rfl) ?_
    refine va_get (D := D) (ci := 11) (v := .int sv_nodes) (C := "DiscMakerModel") (T := F_DiscMakerModel) (N := 48) hx hb ht9 in_DiscMakerModel hown hK hP 0 rfl rfl 3 (by decide) (ht9 _ k1434) (fun _ h9 => h9) rfl d_DiscMakerModel_isThere_8 ?_
    refine lv_icmp_ge (tgt := 95) hx hb d_DiscMakerModel_isThere_11 (by decide) (fun h_9 => ?_) (fun h_9 => ?_)
    · skip
      have g11_8 : sv_nodes.toInt ≤ kx.toInt := (i_le rfl rfl).mp h_9
      refine lv_iload_n hx hb d_DiscMakerModel_isThere_95 rfl (lv_at hl 3 rfl) ?_
      have hP9 := hP.sub (ws' := [(h0, .inr (11, MO ma sv_thrown sv_length sv_nodes sv_many sv_directories sv_runsFrom sv_runs sv_read sv_wrong sv_isNamed sv_goes sv_goesSize sv_goesAt sv_targetParts sv_isRoot)), ((ma 0), .inl (cB, 400, .inl fX)), ((ma 2), .inl (cI, 40, .inl fP)), ((ma 8), .inl (cB, 1200, .inl fN)), ((ma 9), .inl (cI, 40, .inl fNS))]) [0, 1, 2, 3, 4] rfl
      have hD9 := hD.sub (ws' := [(h0, .inr (11, MO ma sv_thrown sv_length sv_nodes sv_many sv_directories sv_runsFrom sv_runs sv_read sv_wrong sv_isNamed sv_goes sv_goesSize sv_goesAt sv_targetParts sv_isRoot)), ((ma 0), .inl (cB, 400, .inl fX)), ((ma 2), .inl (cI, 40, .inl fP)), ((ma 8), .inl (cB, 1200, .inl fN)), ((ma 9), .inl (cI, 40, .inl fNS))]) [0, 1, 2, 3, 4] (by decide) rfl
      exact W.zret (v := iz) hx hb hr (by first | rfl | decide | exact i_narZ (by omega)) (fun t ht hW => ⟨⟨iz, (), rfl, (by (try dsimp only); first | omega | assumption | trivial), by rw [ht]; exact hP9, hD9⟩, hS.F ht⟩) hS.2.2 d_DiscMakerModel_isThere_96
    · skip
      have g11_8 : ¬ sv_nodes.toInt ≤ kx.toInt := fun h8 => h_9 ((i_le rfl rfl).mpr h8)
      refine lv_iload_n hx hb d_DiscMakerModel_isThere_14 rfl (lv_at hl 3 rfl) ?_
      refine lv_if_ne (tgt := 95) hx hb d_DiscMakerModel_isThere_15 (by decide) (fun h_9 => ?_) (fun h_9 => ?_)
      · skip
        have g15_12 : ¬ iz.toInt = 0 := fun h8 => h_9 ((i_eq rfl (by decide)).mpr h8)
        refine lv_iload_n hx hb d_DiscMakerModel_isThere_95 rfl (lv_at hl 3 rfl) ?_
        have hP9 := hP.sub (ws' := [(h0, .inr (11, MO ma sv_thrown sv_length sv_nodes sv_many sv_directories sv_runsFrom sv_runs sv_read sv_wrong sv_isNamed sv_goes sv_goesSize sv_goesAt sv_targetParts sv_isRoot)), ((ma 0), .inl (cB, 400, .inl fX)), ((ma 2), .inl (cI, 40, .inl fP)), ((ma 8), .inl (cB, 1200, .inl fN)), ((ma 9), .inl (cI, 40, .inl fNS))]) [0, 1, 2, 3, 4] rfl
        have hD9 := hD.sub (ws' := [(h0, .inr (11, MO ma sv_thrown sv_length sv_nodes sv_many sv_directories sv_runsFrom sv_runs sv_read sv_wrong sv_isNamed sv_goes sv_goesSize sv_goesAt sv_targetParts sv_isRoot)), ((ma 0), .inl (cB, 400, .inl fX)), ((ma 2), .inl (cI, 40, .inl fP)), ((ma 8), .inl (cB, 1200, .inl fN)), ((ma 9), .inl (cI, 40, .inl fNS))]) [0, 1, 2, 3, 4] (by decide) rfl
        exact W.zret (v := iz) hx hb hr (by first | rfl | decide | exact i_narZ (by omega)) (fun t ht hW => ⟨⟨iz, (), rfl, (by (try dsimp only); first | omega | assumption | trivial), by rw [ht]; exact hP9, hD9⟩, hS.F ht⟩) hS.2.2 d_DiscMakerModel_isThere_96
      · skip
        have g15_12 : iz.toInt = 0 := (i_eq rfl (by decide)).mp h_9
        refine zz_lab (P := fun (lk : Nat) (H : Heap) (locs : List Loc) (ls : Array Slot) (stk : List Value) => ∃ (ja : Int32) , lk = 0 ∧ stk = [.int ja] ∧ (0 ≤ ja.toInt ∧ ja.toInt ≤ 1) ∧ va_P D CL [(h0, .inr (11, MO ma sv_thrown sv_length sv_nodes sv_many sv_directories sv_runsFrom sv_runs sv_read sv_wrong sv_isNamed sv_goes sv_goesSize sv_goesAt sv_targetParts sv_isRoot)), ((ma 0), .inl (cB, 400, .inl fX)), ((ma 2), .inl (cI, 40, .inl fP)), ((ma 8), .inl (cB, 1200, .inl fN)), ((ma 9), .inl (cI, 40, .inl fNS))] H ∧ va_D A [(h0, .inr (11, MO ma sv_thrown sv_length sv_nodes sv_many sv_directories sv_runsFrom sv_runs sv_read sv_wrong sv_isNamed sv_goes sv_goesSize sv_goesAt sv_targetParts sv_isRoot)), ((ma 0), .inl (cB, 400, .inl fX)), ((ma 2), .inl (cI, 40, .inl fP)), ((ma 8), .inl (cB, 1200, .inl fN)), ((ma 9), .inl (cI, 40, .inl fNS))] ∧ va_S A s.heap H locs ∧ lv_has ls 6 [(0, .ref h0), (1, .int x), (2, .int y), (3, .int iz), (4, .int kx)]) 45 ?_ ?_
        · skip
          intro lk ih45 H locs ls stk hI
          obtain ⟨ja, hm45, rfl, f3, hP, hD, hS, hl⟩ := hI
          refine lv_istore_n hx hb d_DiscMakerModel_isThere_45 rfl hl (by decide) rfl (fun ls hl => ?_)
          have hl : lv_has ls 6 [(3, .int ja), (0, .ref h0), (1, .int x), (2, .int y), (4, .int kx)] := hl
          refine lv_iconst (v := 0) hx hb d_DiscMakerModel_isThere_46 (by decide) ?_
          refine lv_istore hx hb d_DiscMakerModel_isThere_47 hl (by decide) rfl (fun ls hl => ?_)
          have hl : lv_has ls 6 [(5, .int 0), (3, .int ja), (0, .ref h0), (1, .int x), (2, .int y), (4, .int kx)] := hl
          refine zz_lab (P := fun (lk : Nat) (H : Heap) (locs : List Loc) (ls : Array Slot) (stk : List Value) => ∃ (ib : Int32) (ky : Int32) , lk = (y.toInt - ky.toInt).toNat ∧ stk = [] ∧ (0 ≤ ib.toInt ∧ ib.toInt ≤ 1) ∧ (0 ≤ ky.toInt ∧ ky.toInt ≤ y.toInt) ∧ va_P D CL [(h0, .inr (11, MO ma sv_thrown sv_length sv_nodes sv_many sv_directories sv_runsFrom sv_runs sv_read sv_wrong sv_isNamed sv_goes sv_goesSize sv_goesAt sv_targetParts sv_isRoot)), ((ma 0), .inl (cB, 400, .inl fX)), ((ma 2), .inl (cI, 40, .inl fP)), ((ma 8), .inl (cB, 1200, .inl fN)), ((ma 9), .inl (cI, 40, .inl fNS))] H ∧ va_D A [(h0, .inr (11, MO ma sv_thrown sv_length sv_nodes sv_many sv_directories sv_runsFrom sv_runs sv_read sv_wrong sv_isNamed sv_goes sv_goesSize sv_goesAt sv_targetParts sv_isRoot)), ((ma 0), .inl (cB, 400, .inl fX)), ((ma 2), .inl (cI, 40, .inl fP)), ((ma 8), .inl (cB, 1200, .inl fN)), ((ma 9), .inl (cI, 40, .inl fNS))] ∧ va_S A s.heap H locs ∧ lv_has ls 6 [(0, .ref h0), (1, .int x), (2, .int y), (3, .int ib), (4, .int kx), (5, .int ky)]) 49 ?_ ?_
          · skip
            intro lk ih49 H locs ls stk hI
            obtain ⟨ib, ky, hm49, rfl, f4, f5, hP, hD, hS, hl⟩ := hI
            refine lv_iload hx hb d_DiscMakerModel_isThere_49 (lv_at hl 5 rfl) ?_
            refine lv_iload_n hx hb d_DiscMakerModel_isThere_51 rfl (lv_at hl 2 rfl) ?_
            refine lv_icmp_ge (tgt := 89) hx hb d_DiscMakerModel_isThere_52 (by decide) (fun h_9 => ?_) (fun h_9 => ?_)
            · skip
              have g52_20 : y.toInt ≤ ky.toInt := (i_le rfl rfl).mp h_9
              obtain ⟨v1, e_v1⟩ : ∃ z : Int32, z = kx + 1 := ⟨_, rfl⟩
              refine lv_iinc (v := v1) hx hb d_DiscMakerModel_isThere_89 hl (k := 4) rfl e_v1.symm (by decide) rfl (fun ls hl => ?_)
              have t_v1 : v1.toInt = kx.toInt + 1 := by rw [e_v1]; exact i_add rfl (by decide) (by omega) (by omega)
              have hl : lv_has ls 6 [(4, .int v1), (0, .ref h0), (1, .int x), (2, .int y), (3, .int ib), (5, .int ky)] := hl
              refine lv_goto (tgt := 5) hx hb d_DiscMakerModel_isThere_92 (by decide) ?_
              have hP := hP.sub (ws' := [(h0, .inr (11, MO ma sv_thrown sv_length sv_nodes sv_many sv_directories sv_runsFrom sv_runs sv_read sv_wrong sv_isNamed sv_goes sv_goesSize sv_goesAt sv_targetParts sv_isRoot)), ((ma 0), .inl (cB, 400, .inl fX)), ((ma 2), .inl (cI, 40, .inl fP)), ((ma 8), .inl (cB, 1200, .inl fN)), ((ma 9), .inl (cI, 40, .inl fNS))]) [0, 1, 2, 3, 4] rfl
              have hD := hD.sub (ws' := [(h0, .inr (11, MO ma sv_thrown sv_length sv_nodes sv_many sv_directories sv_runsFrom sv_runs sv_read sv_wrong sv_isNamed sv_goes sv_goesSize sv_goesAt sv_targetParts sv_isRoot)), ((ma 0), .inl (cB, 400, .inl fX)), ((ma 2), .inl (cI, 40, .inl fP)), ((ma 8), .inl (cB, 1200, .inl fN)), ((ma 9), .inl (cI, 40, .inl fNS))]) [0, 1, 2, 3, 4] (by decide) rfl
              have hl := lv_sub hl [1, 2, 3, 4, 0] rfl
              exact ih5 (_) (by first | omega | (dsimp only; omega)) _ _ _ _ ⟨ib, v1, rfl, rfl, (by (try dsimp only); first | omega | assumption | trivial), (by (try dsimp only); first | omega | assumption | trivial), hP, hD, hS, hl⟩
            · skip
              have g52_20 : ¬ y.toInt ≤ ky.toInt := fun h8 => h_9 ((i_le rfl rfl).mpr h8)
              refine lv_iload_n hx hb d_DiscMakerModel_isThere_55 rfl (lv_at hl 3 rfl) ?_
              refine lv_if_eq (tgt := 89) hx hb d_DiscMakerModel_isThere_56 (by decide) (fun h_9 => ?_) (fun h_9 => ?_)
              · skip
                have g56_25 : ib.toInt = 0 := (i_eq rfl (by decide)).mp h_9
                obtain ⟨v2, e_v2⟩ : ∃ z : Int32, z = kx + 1 := ⟨_, rfl⟩
                refine lv_iinc (v := v2) hx hb d_DiscMakerModel_isThere_89 hl (k := 4) rfl e_v2.symm (by decide) rfl (fun ls hl => ?_)
                have t_v2 : v2.toInt = kx.toInt + 1 := by rw [e_v2]; exact i_add rfl (by decide) (by omega) (by omega)
                have hl : lv_has ls 6 [(4, .int v2), (0, .ref h0), (1, .int x), (2, .int y), (3, .int ib), (5, .int ky)] := hl
                refine lv_goto (tgt := 5) hx hb d_DiscMakerModel_isThere_92 (by decide) ?_
                have hP := hP.sub (ws' := [(h0, .inr (11, MO ma sv_thrown sv_length sv_nodes sv_many sv_directories sv_runsFrom sv_runs sv_read sv_wrong sv_isNamed sv_goes sv_goesSize sv_goesAt sv_targetParts sv_isRoot)), ((ma 0), .inl (cB, 400, .inl fX)), ((ma 2), .inl (cI, 40, .inl fP)), ((ma 8), .inl (cB, 1200, .inl fN)), ((ma 9), .inl (cI, 40, .inl fNS))]) [0, 1, 2, 3, 4] rfl
                have hD := hD.sub (ws' := [(h0, .inr (11, MO ma sv_thrown sv_length sv_nodes sv_many sv_directories sv_runsFrom sv_runs sv_read sv_wrong sv_isNamed sv_goes sv_goesSize sv_goesAt sv_targetParts sv_isRoot)), ((ma 0), .inl (cB, 400, .inl fX)), ((ma 2), .inl (cI, 40, .inl fP)), ((ma 8), .inl (cB, 1200, .inl fN)), ((ma 9), .inl (cI, 40, .inl fNS))]) [0, 1, 2, 3, 4] (by decide) rfl
                have hl := lv_sub hl [1, 2, 3, 4, 0] rfl
                exact ih5 (_) (by first | omega | (dsimp only; omega)) _ _ _ _ ⟨ib, v2, rfl, rfl, (by (try dsimp only); first | omega | assumption | trivial), (by (try dsimp only); first | omega | assumption | trivial), hP, hD, hS, hl⟩
              · skip
                have g56_25 : ¬ ib.toInt = 0 := fun h8 => h_9 ((i_eq rfl (by decide)).mpr h8)
                refine lv_aload_n hx hb d_DiscMakerModel_isThere_59 rfl (lv_at hl 0 rfl) ?_
                refine lv_iload hx hb d_DiscMakerModel_isThere_60 (lv_at hl 4 rfl) ?_
                refine lv_iload hx hb d_DiscMakerModel_isThere_62 (lv_at hl 5 rfl) ?_
                have hPc := hP.sub (ws' := [(h0, .inr (11, MO ma sv_thrown sv_length sv_nodes sv_many sv_directories sv_runsFrom sv_runs sv_read sv_wrong sv_isNamed sv_goes sv_goesSize sv_goesAt sv_targetParts sv_isRoot)), ((ma 8), .inl (cB, 1200, .inl fN)), ((ma 9), .inl (cI, 40, .inl fNS))]) [0, 3, 4] rfl
                have hDc := hD.sub (ws' := [(h0, .inr (11, MO ma sv_thrown sv_length sv_nodes sv_many sv_directories sv_runsFrom sv_runs sv_read sv_wrong sv_isNamed sv_goes sv_goesSize sv_goesAt sv_targetParts sv_isRoot)), ((ma 8), .inl (cB, 1200, .inl fN)), ((ma 9), .inl (cI, 40, .inl fNS))]) [0, 3, 4] (by decide) rfl
                have hFc := va_free (wc := [(h0, .inr (11, MO ma sv_thrown sv_length sv_nodes sv_many sv_directories sv_runsFrom sv_runs sv_read sv_wrong sv_isNamed sv_goes sv_goesSize sv_goesAt sv_targetParts sv_isRoot)), ((ma 8), .inl (cB, 1200, .inl fN)), ((ma 9), .inl (cI, 40, .inl fNS))]) hD hS hA [0, 3, 4] rfl
                have hkc : 0 ≤ 0 := by decide
                have hks : 0 ≤ 0 := by decide
                refine va_calli (va_runV (C := "DiscMakerModel") (As := [.int kx, .int ky]) (rest := []) ⟨hx, hb, hml, hown, hts⟩ (m_nameOf l D cB cI cJ cZ cN cF H.size h0 ma sv_thrown sv_length sv_nodes sv_many sv_directories sv_runsFrom sv_runs sv_read sv_wrong sv_isNamed sv_goes sv_goesSize sv_goesAt sv_targetParts sv_isRoot fN fNS kx ky (by (try dsimp only); first | omega | assumption | trivial) (by (try dsimp only); first | omega | assumption | trivial) (by (try dsimp only); first | omega | assumption | trivial)) (cwV 2 hts (lg_goodV k1616 k1618 k56 k125 kc_DiscMakerModel_nameOf) rfl rfl rfl (by decide +kernel) ⟨Nat.le_of_ble_eq_true rfl, Nat.le_of_ble_eq_true rfl⟩) ⟨fun a U g mk q => by obtain ⟨q0, q1, qP, qK, qN, qD⟩ := q; exact ⟨q0, q1, qP, va_K.moved (u := U) (U := U.calling g mk a) (Vm.Alike.refl U.vm) qK, qN.calling, qD⟩, va_recv hK hP (ci := 11) (q0 := 0) rfl rfl, fun U hU hW => ⟨rfl, by rw [hU], by rw [hU]; exact hPc, va_K.moved hW.alike hK, NN.warm hW hN, hDc.weaken (fun _ _ _ _ => trivial)⟩⟩ rfl rfl hl.1 rfl (lv_room (Nat.le_of_ble_eq_true rfl)) d_DiscMakerModel_isThere_64 ⟨hkc, hks⟩) hS (fun q _ h => hFc q h) hFc (fun r3 u t H1 locs ht hvm hp_r3 hB hz1 hk1 hS => ?_)
                obtain ⟨hP1, hD1⟩ := hB
                rw [ht] at hP1
                obtain ⟨hP, hD⟩ := va_join (wr := [((ma 0), .inl (cB, 400, .inl fX)), ((ma 2), .inl (cI, 40, .inl fP))]) (w1 := [(h0, .inr (11, MO ma sv_thrown sv_length sv_nodes sv_many sv_directories sv_runsFrom sv_runs sv_read sv_wrong sv_isNamed sv_goes sv_goesSize sv_goesAt sv_targetParts sv_isRoot)), ((ma 8), .inl (cB, 1200, .inl fN)), ((ma 9), .inl (cI, 40, .inl fNS))]) hP hD [0, 3, 4] [1, 2] rfl rfl (by decide) (by decide) hk1 hFc hP1 hD1
                clear hPc hDc hFc hP1 hD1 hk1 hz1
                generalize H1 = H at hP hS ⊢
                have hP : va_P D CL [((ma 0), .inl (cB, 400, .inl fX)), ((ma 2), .inl (cI, 40, .inl fP)), (h0, .inr (11, MO ma sv_thrown sv_length sv_nodes sv_many sv_directories sv_runsFrom sv_runs sv_read sv_wrong sv_isNamed sv_goes sv_goesSize sv_goesAt sv_targetParts sv_isRoot)), ((ma 8), .inl (cB, 1200, .inl fN)), ((ma 9), .inl (cI, 40, .inl fNS))] H := hP
                have hD : va_D A [((ma 0), .inl (cB, 400, .inl fX)), ((ma 2), .inl (cI, 40, .inl fP)), (h0, .inr (11, MO ma sv_thrown sv_length sv_nodes sv_many sv_directories sv_runsFrom sv_runs sv_read sv_wrong sv_isNamed sv_goes sv_goesSize sv_goesAt sv_targetParts sv_isRoot)), ((ma 8), .inl (cB, 1200, .inl fN)), ((ma 9), .inl (cI, 40, .inl fNS))] := hD
                try dsimp only at hp_r3
                obtain ⟨hr_4, hv_5⟩ := hp_r3
                refine lv_aload_n hx hb d_DiscMakerModel_isThere_67 rfl (lv_at hl 0 rfl) ?_
                refine va_get (D := D) (ci := 11) (v := .ref (ma 0)) (C := "DiscMakerModel") (T := F_DiscMakerModel) (N := 48) hx hb ht9 in_DiscMakerModel hown hK hP 2 rfl rfl 1 (by decide) (ht9 _ k1432) (fun _ h9 => h9) rfl d_DiscMakerModel_isThere_68 ?_
                refine lv_iload hx hb d_DiscMakerModel_isThere_71 (lv_at hl 5 rfl) ?_
                refine va_bald hx hb hK hP 0 0 rfl rfl (vp_in_iff.mpr ⟨by omega, by omega⟩) d_DiscMakerModel_isThere_73 ?_
                refine lv_topi (fun v6 e_v6 => ?_)
                refine lv_icmp_ne (tgt := 81) hx hb d_DiscMakerModel_isThere_74 (by decide) (fun h_9 => ?_) (fun h_9 => ?_)
                · skip
                  have g74_37 : ¬ r3.toInt = v6.toInt := fun h8 => h_9 ((i_eq rfl rfl).mpr h8)
                  refine lv_iconst (v := 0) hx hb d_DiscMakerModel_isThere_81 (by decide) ?_
                  refine lv_istore_n hx hb d_DiscMakerModel_isThere_82 rfl hl (by decide) rfl (fun ls hl => ?_)
                  have hl : lv_has ls 6 [(3, .int 0), (0, .ref h0), (1, .int x), (2, .int y), (4, .int kx), (5, .int ky)] := hl
                  obtain ⟨v7, e_v7⟩ : ∃ z : Int32, z = ky + 1 := ⟨_, rfl⟩
                  refine lv_iinc (v := v7) hx hb d_DiscMakerModel_isThere_83 hl (k := 5) rfl e_v7.symm (by decide) rfl (fun ls hl => ?_)
                  have t_v7 : v7.toInt = ky.toInt + 1 := by rw [e_v7]; exact i_add rfl (by decide) (by omega) (by omega)
                  have hl : lv_has ls 6 [(5, .int v7), (3, .int 0), (0, .ref h0), (1, .int x), (2, .int y), (4, .int kx)] := hl
                  refine lv_goto (tgt := 49) hx hb d_DiscMakerModel_isThere_86 (by decide) ?_
                  have hP := hP.sub (ws' := [(h0, .inr (11, MO ma sv_thrown sv_length sv_nodes sv_many sv_directories sv_runsFrom sv_runs sv_read sv_wrong sv_isNamed sv_goes sv_goesSize sv_goesAt sv_targetParts sv_isRoot)), ((ma 0), .inl (cB, 400, .inl fX)), ((ma 2), .inl (cI, 40, .inl fP)), ((ma 8), .inl (cB, 1200, .inl fN)), ((ma 9), .inl (cI, 40, .inl fNS))]) [2, 0, 1, 3, 4] rfl
                  have hD := hD.sub (ws' := [(h0, .inr (11, MO ma sv_thrown sv_length sv_nodes sv_many sv_directories sv_runsFrom sv_runs sv_read sv_wrong sv_isNamed sv_goes sv_goesSize sv_goesAt sv_targetParts sv_isRoot)), ((ma 0), .inl (cB, 400, .inl fX)), ((ma 2), .inl (cI, 40, .inl fP)), ((ma 8), .inl (cB, 1200, .inl fN)), ((ma 9), .inl (cI, 40, .inl fNS))]) [2, 0, 1, 3, 4] (by decide) rfl
                  have hl := lv_sub hl [2, 3, 4, 1, 5, 0] rfl
                  exact ih49 (_) (by first | omega | (dsimp only; omega)) _ _ _ _ ⟨0, v7, rfl, rfl, (by (try dsimp only); first | omega | assumption | trivial), (by (try dsimp only); first | omega | assumption | trivial), hP, hD, hS, hl⟩
                · skip
                  have g74_37 : r3.toInt = v6.toInt := (i_eq rfl rfl).mp h_9
                  refine lv_iconst (v := 1) hx hb d_DiscMakerModel_isThere_77 (by decide) ?_
                  refine lv_goto (tgt := 82) hx hb d_DiscMakerModel_isThere_78 (by decide) ?_
                  refine lv_istore_n hx hb d_DiscMakerModel_isThere_82 rfl hl (by decide) rfl (fun ls hl => ?_)
                  have hl : lv_has ls 6 [(3, .int 1), (0, .ref h0), (1, .int x), (2, .int y), (4, .int kx), (5, .int ky)] := hl
                  obtain ⟨v8, e_v8⟩ : ∃ z : Int32, z = ky + 1 := ⟨_, rfl⟩
                  refine lv_iinc (v := v8) hx hb d_DiscMakerModel_isThere_83 hl (k := 5) rfl e_v8.symm (by decide) rfl (fun ls hl => ?_)
                  have t_v8 : v8.toInt = ky.toInt + 1 := by rw [e_v8]; exact i_add rfl (by decide) (by omega) (by omega)
                  have hl : lv_has ls 6 [(5, .int v8), (3, .int 1), (0, .ref h0), (1, .int x), (2, .int y), (4, .int kx)] := hl
                  refine lv_goto (tgt := 49) hx hb d_DiscMakerModel_isThere_86 (by decide) ?_
                  have hP := hP.sub (ws' := [(h0, .inr (11, MO ma sv_thrown sv_length sv_nodes sv_many sv_directories sv_runsFrom sv_runs sv_read sv_wrong sv_isNamed sv_goes sv_goesSize sv_goesAt sv_targetParts sv_isRoot)), ((ma 0), .inl (cB, 400, .inl fX)), ((ma 2), .inl (cI, 40, .inl fP)), ((ma 8), .inl (cB, 1200, .inl fN)), ((ma 9), .inl (cI, 40, .inl fNS))]) [2, 0, 1, 3, 4] rfl
                  have hD := hD.sub (ws' := [(h0, .inr (11, MO ma sv_thrown sv_length sv_nodes sv_many sv_directories sv_runsFrom sv_runs sv_read sv_wrong sv_isNamed sv_goes sv_goesSize sv_goesAt sv_targetParts sv_isRoot)), ((ma 0), .inl (cB, 400, .inl fX)), ((ma 2), .inl (cI, 40, .inl fP)), ((ma 8), .inl (cB, 1200, .inl fN)), ((ma 9), .inl (cI, 40, .inl fNS))]) [2, 0, 1, 3, 4] (by decide) rfl
                  have hl := lv_sub hl [2, 3, 4, 1, 5, 0] rfl
                  exact ih49 (_) (by first | omega | (dsimp only; omega)) _ _ _ _ ⟨1, v8, rfl, rfl, (by (try dsimp only); first | omega | assumption | trivial), (by (try dsimp only); first | omega | assumption | trivial), hP, hD, hS, hl⟩
          · skip
            intro kk49
            have hP := hP.sub (ws' := [(h0, .inr (11, MO ma sv_thrown sv_length sv_nodes sv_many sv_directories sv_runsFrom sv_runs sv_read sv_wrong sv_isNamed sv_goes sv_goesSize sv_goesAt sv_targetParts sv_isRoot)), ((ma 0), .inl (cB, 400, .inl fX)), ((ma 2), .inl (cI, 40, .inl fP)), ((ma 8), .inl (cB, 1200, .inl fN)), ((ma 9), .inl (cI, 40, .inl fNS))]) [0, 1, 2, 3, 4] rfl
            have hD := hD.sub (ws' := [(h0, .inr (11, MO ma sv_thrown sv_length sv_nodes sv_many sv_directories sv_runsFrom sv_runs sv_read sv_wrong sv_isNamed sv_goes sv_goesSize sv_goesAt sv_targetParts sv_isRoot)), ((ma 0), .inl (cB, 400, .inl fX)), ((ma 2), .inl (cI, 40, .inl fP)), ((ma 8), .inl (cB, 1200, .inl fN)), ((ma 9), .inl (cI, 40, .inl fNS))]) [0, 1, 2, 3, 4] (by decide) rfl
            have hl := lv_sub hl [2, 3, 4, 1, 5, 0] rfl
            exact kk49 _ _ _ _ _ ⟨ja, 0, rfl, rfl, (by (try dsimp only); first | omega | assumption | trivial), (by (try dsimp only); first | omega | assumption | trivial), hP, hD, hS, hl⟩
        · skip
          intro kk45
          refine lv_aload_n hx hb d_DiscMakerModel_isThere_18 rfl (lv_at hl 0 rfl) ?_
          refine va_get (D := D) (ci := 11) (v := .ref (ma 2)) (C := "DiscMakerModel") (T := F_DiscMakerModel) (N := 48) hx hb ht9 in_DiscMakerModel hown hK hP 0 rfl rfl 5 (by decide) (ht9 _ k1436) (fun _ h9 => h9) rfl d_DiscMakerModel_isThere_19 ?_
          refine lv_iload hx hb d_DiscMakerModel_isThere_22 (lv_at hl 4 rfl) ?_
          refine va_iald hx hb hK hP 2 1 rfl rfl (vp_in_iff.mpr ⟨by omega, by omega⟩) d_DiscMakerModel_isThere_24 ?_
          refine lv_topi (fun v9 e_v9 => ?_)
          refine lv_iload_n hx hb d_DiscMakerModel_isThere_25 rfl (lv_at hl 1 rfl) ?_
          refine lv_icmp_ne (tgt := 44) hx hb d_DiscMakerModel_isThere_26 (by decide) (fun h_9 => ?_) (fun h_9 => ?_)
          · skip
            have g26_54 : ¬ v9.toInt = x.toInt := fun h8 => h_9 ((i_eq rfl rfl).mpr h8)
            refine lv_iconst (v := 0) hx hb d_DiscMakerModel_isThere_44 (by decide) ?_
            have hP := hP.sub (ws' := [(h0, .inr (11, MO ma sv_thrown sv_length sv_nodes sv_many sv_directories sv_runsFrom sv_runs sv_read sv_wrong sv_isNamed sv_goes sv_goesSize sv_goesAt sv_targetParts sv_isRoot)), ((ma 0), .inl (cB, 400, .inl fX)), ((ma 2), .inl (cI, 40, .inl fP)), ((ma 8), .inl (cB, 1200, .inl fN)), ((ma 9), .inl (cI, 40, .inl fNS))]) [0, 1, 2, 3, 4] rfl
            have hD := hD.sub (ws' := [(h0, .inr (11, MO ma sv_thrown sv_length sv_nodes sv_many sv_directories sv_runsFrom sv_runs sv_read sv_wrong sv_isNamed sv_goes sv_goesSize sv_goesAt sv_targetParts sv_isRoot)), ((ma 0), .inl (cB, 400, .inl fX)), ((ma 2), .inl (cI, 40, .inl fP)), ((ma 8), .inl (cB, 1200, .inl fN)), ((ma 9), .inl (cI, 40, .inl fNS))]) [0, 1, 2, 3, 4] (by decide) rfl
            have hl := lv_sub hl [0, 1, 2, 3, 4] rfl
            exact kk45 _ _ _ _ _ ⟨0, rfl, rfl, (by (try dsimp only); first | omega | assumption | trivial), hP, hD, hS, hl⟩
          · skip
            have g26_54 : v9.toInt = x.toInt := (i_eq rfl rfl).mp h_9
            refine lv_aload_n hx hb d_DiscMakerModel_isThere_29 rfl (lv_at hl 0 rfl) ?_
            refine va_get (D := D) (ci := 11) (v := .ref (ma 9)) (C := "DiscMakerModel") (T := F_DiscMakerModel) (N := 48) hx hb ht9 in_DiscMakerModel hown hK hP 0 rfl rfl 12 (by decide) (ht9 _ k1443) (fun _ h9 => h9) rfl d_DiscMakerModel_isThere_30 ?_
            refine lv_iload hx hb d_DiscMakerModel_isThere_33 (lv_at hl 4 rfl) ?_
            refine va_iald hx hb hK hP 4 1 rfl rfl (vp_in_iff.mpr ⟨by omega, by omega⟩) d_DiscMakerModel_isThere_35 ?_
            refine lv_topi (fun v10 e_v10 => ?_)
            have t_v10 : 0 ≤ v10.toInt ∧ v10.toInt ≤ 30 := by
              rw [e_v10]; exact hNS _ (by have := i_cl (a := kx) (by omega); omega)
            refine lv_iload_n hx hb d_DiscMakerModel_isThere_36 rfl (lv_at hl 2 rfl) ?_
            refine lv_icmp_ne (tgt := 44) hx hb d_DiscMakerModel_isThere_37 (by decide) (fun h_9 => ?_) (fun h_9 => ?_)
            · skip
              have g37_62 : ¬ v10.toInt = y.toInt := fun h8 => h_9 ((i_eq rfl rfl).mpr h8)
              refine lv_iconst (v := 0) hx hb d_DiscMakerModel_isThere_44 (by decide) ?_
              have hP := hP.sub (ws' := [(h0, .inr (11, MO ma sv_thrown sv_length sv_nodes sv_many sv_directories sv_runsFrom sv_runs sv_read sv_wrong sv_isNamed sv_goes sv_goesSize sv_goesAt sv_targetParts sv_isRoot)), ((ma 0), .inl (cB, 400, .inl fX)), ((ma 2), .inl (cI, 40, .inl fP)), ((ma 8), .inl (cB, 1200, .inl fN)), ((ma 9), .inl (cI, 40, .inl fNS))]) [0, 1, 2, 3, 4] rfl
              have hD := hD.sub (ws' := [(h0, .inr (11, MO ma sv_thrown sv_length sv_nodes sv_many sv_directories sv_runsFrom sv_runs sv_read sv_wrong sv_isNamed sv_goes sv_goesSize sv_goesAt sv_targetParts sv_isRoot)), ((ma 0), .inl (cB, 400, .inl fX)), ((ma 2), .inl (cI, 40, .inl fP)), ((ma 8), .inl (cB, 1200, .inl fN)), ((ma 9), .inl (cI, 40, .inl fNS))]) [0, 1, 2, 3, 4] (by decide) rfl
              have hl := lv_sub hl [0, 1, 2, 3, 4] rfl
              exact kk45 _ _ _ _ _ ⟨0, rfl, rfl, (by (try dsimp only); first | omega | assumption | trivial), hP, hD, hS, hl⟩
            · skip
              have g37_62 : v10.toInt = y.toInt := (i_eq rfl rfl).mp h_9
              refine lv_iconst (v := 1) hx hb d_DiscMakerModel_isThere_40 (by decide) ?_
              refine lv_goto (tgt := 45) hx hb d_DiscMakerModel_isThere_41 (by decide) ?_
              have hP := hP.sub (ws' := [(h0, .inr (11, MO ma sv_thrown sv_length sv_nodes sv_many sv_directories sv_runsFrom sv_runs sv_read sv_wrong sv_isNamed sv_goes sv_goesSize sv_goesAt sv_targetParts sv_isRoot)), ((ma 0), .inl (cB, 400, .inl fX)), ((ma 2), .inl (cI, 40, .inl fP)), ((ma 8), .inl (cB, 1200, .inl fN)), ((ma 9), .inl (cI, 40, .inl fNS))]) [0, 1, 2, 3, 4] rfl
              have hD := hD.sub (ws' := [(h0, .inr (11, MO ma sv_thrown sv_length sv_nodes sv_many sv_directories sv_runsFrom sv_runs sv_read sv_wrong sv_isNamed sv_goes sv_goesSize sv_goesAt sv_targetParts sv_isRoot)), ((ma 0), .inl (cB, 400, .inl fX)), ((ma 2), .inl (cI, 40, .inl fP)), ((ma 8), .inl (cB, 1200, .inl fN)), ((ma 9), .inl (cI, 40, .inl fNS))]) [0, 1, 2, 3, 4] (by decide) rfl
              have hl := lv_sub hl [0, 1, 2, 3, 4] rfl
              exact kk45 _ _ _ _ _ ⟨1, rfl, rfl, (by (try dsimp only); first | omega | assumption | trivial), hP, hD, hS, hl⟩
  · skip
    intro kk5
    have hP := hP.sub (ws' := [(h0, .inr (11, MO ma sv_thrown sv_length sv_nodes sv_many sv_directories sv_runsFrom sv_runs sv_read sv_wrong sv_isNamed sv_goes sv_goesSize sv_goesAt sv_targetParts sv_isRoot)), ((ma 0), .inl (cB, 400, .inl fX)), ((ma 2), .inl (cI, 40, .inl fP)), ((ma 8), .inl (cB, 1200, .inl fN)), ((ma 9), .inl (cI, 40, .inl fNS))]) [0, 1, 2, 3, 4] rfl
    have hD := hD.sub (ws' := [(h0, .inr (11, MO ma sv_thrown sv_length sv_nodes sv_many sv_directories sv_runsFrom sv_runs sv_read sv_wrong sv_isNamed sv_goes sv_goesSize sv_goesAt sv_targetParts sv_isRoot)), ((ma 0), .inl (cB, 400, .inl fX)), ((ma 2), .inl (cI, 40, .inl fP)), ((ma 8), .inl (cB, 1200, .inl fN)), ((ma 9), .inl (cI, 40, .inl fNS))]) [0, 1, 2, 3, 4] (by decide) rfl
    have hl := lv_sub hl [2, 3, 4, 1, 0] rfl
    exact kk5 _ _ _ _ _ ⟨0, 1, rfl, rfl, (by (try dsimp only); first | omega | assumption | trivial), (by (try dsimp only); first | omega | assumption | trivial), hP, hD, hS, hl⟩

theorem d_DiscMakerModel_depthOf_0 : decode b_DiscMakerModel_depthOf 0 = .ok (.iconst 0, 1) := by decide +kernel
theorem d_DiscMakerModel_depthOf_1 : decode b_DiscMakerModel_depthOf 1 = .ok (.istore_n 2, 1) := by decide +kernel
theorem d_DiscMakerModel_depthOf_2 : decode b_DiscMakerModel_depthOf 2 = .ok (.iload_n 1, 1) := by decide +kernel
theorem d_DiscMakerModel_depthOf_3 : decode b_DiscMakerModel_depthOf 3 = .ok (.istore_n 3, 1) := by decide +kernel
theorem d_DiscMakerModel_depthOf_4 : decode b_DiscMakerModel_depthOf 4 = .ok (.iload_n 3, 1) := by decide +kernel
theorem d_DiscMakerModel_depthOf_5 : decode b_DiscMakerModel_depthOf 5 = .ok (.ifCond .le 16, 3) := by decide +kernel
theorem d_DiscMakerModel_depthOf_8 : decode b_DiscMakerModel_depthOf 8 = .ok (.iinc 2 1, 3) := by decide +kernel
theorem d_DiscMakerModel_depthOf_11 : decode b_DiscMakerModel_depthOf 11 = .ok (.aload_n 0, 1) := by decide +kernel
theorem d_DiscMakerModel_depthOf_12 : decode b_DiscMakerModel_depthOf 12 = .ok (.getfield 17, 3) := by decide +kernel
theorem d_DiscMakerModel_depthOf_15 : decode b_DiscMakerModel_depthOf 15 = .ok (.iload_n 3, 1) := by decide +kernel
theorem d_DiscMakerModel_depthOf_16 : decode b_DiscMakerModel_depthOf 16 = .ok (.iaload, 1) := by decide +kernel
theorem d_DiscMakerModel_depthOf_17 : decode b_DiscMakerModel_depthOf 17 = .ok (.istore_n 3, 1) := by decide +kernel
theorem d_DiscMakerModel_depthOf_18 : decode b_DiscMakerModel_depthOf 18 = .ok (.goto (-14), 3) := by decide +kernel
theorem d_DiscMakerModel_depthOf_21 : decode b_DiscMakerModel_depthOf 21 = .ok (.iload_n 2, 1) := by decide +kernel
theorem d_DiscMakerModel_depthOf_22 : decode b_DiscMakerModel_depthOf 22 = .ok (.ireturn, 1) := by decide +kernel
set_option maxHeartbeats 4000000 in
set_option maxRecDepth 100000 in
theorem m_depthOf (l : Launch) (D : va_G) (cB cI cJ cZ cN cF : ClassId) (sz : Nat) (h0 : Nat) (ma : Nat → Nat) (sv_thrown sv_length sv_nodes sv_many sv_directories sv_runsFrom sv_runs sv_read sv_wrong sv_isNamed sv_goes sv_goesSize sv_goesAt sv_targetParts sv_isRoot : Int32) (fP : Nat → Int32) (x : Int32) (hn : 1 ≤ sv_nodes.toInt ∧ sv_nodes.toInt ≤ 40) (hx0 : 0 ≤ x.toInt ∧ x.toInt < sv_nodes.toInt) (hpp : ∀ k : Nat, 1 ≤ k → (k : Int) < sv_nodes.toInt → 0 ≤ (fP k).toInt ∧ (fP k).toInt < k) : Met l y_DiscMakerModel_depthOf w_DiscMakerModel_depthOf ({ frames := 0, cells := 0, slots := 0, locals := 0 }) (va_Pc [.ref h0, .int x] (fun U => U.heap.size = sz ∧ va_P D CL [(h0, .inr (11, MO ma sv_thrown sv_length sv_nodes sv_many sv_directories sv_runsFrom sv_runs sv_read sv_wrong sv_isNamed sv_goes sv_goesSize sv_goesAt sv_targetParts sv_isRoot)), ((ma 2), .inl (cI, 40, .inl fP))] U.heap ∧ va_K D CL (TY cB cI cJ cZ cN cF) U ∧ NN U ∧ va_D (fun _ => True) [(h0, .inr (11, MO ma sv_thrown sv_length sv_nodes sv_many sv_directories sv_runsFrom sv_runs sv_read sv_wrong sv_isNamed sv_goes sv_goesSize sv_goesAt sv_targetParts sv_isRoot)), ((ma 2), .inl (cI, 40, .inl fP))])) (va_Qi (fun (r : Int32) (u : Unit) => True) (fun (u : Unit) (t : State) => match u with | () => va_P D CL [(h0, .inr (11, MO ma sv_thrown sv_length sv_nodes sv_many sv_directories sv_runsFrom sv_runs sv_read sv_wrong sv_isNamed sv_goes sv_goesSize sv_goesAt sv_targetParts sv_isRoot)), ((ma 2), .inl (cI, 40, .inl fP))] t.heap ∧ va_D (va_A [(h0, .inr (11, MO ma sv_thrown sv_length sv_nodes sv_many sv_directories sv_runsFrom sv_runs sv_read sv_wrong sv_isNamed sv_goes sv_goesSize sv_goesAt sv_targetParts sv_isRoot)), ((ma 2), .inl (cI, 40, .inl fP))] sz) [(h0, .inr (11, MO ma sv_thrown sv_length sv_nodes sv_many sv_directories sv_runsFrom sv_runs sv_read sv_wrong sv_isNamed sv_goes sv_goesSize sv_goesAt sv_targetParts sv_isRoot)), ((ma 2), .inl (cI, 40, .inl fP))]) (va_A [(h0, .inr (11, MO ma sv_thrown sv_length sv_nodes sv_many sv_directories sv_runsFrom sv_runs sv_read sv_wrong sv_isNamed sv_goes sv_goesSize sv_goesAt sv_targetParts sv_isRoot)), ((ma 2), .inl (cI, 40, .inl fP))] sz)) 0 0 (va_A [(h0, .inr (11, MO ma sv_thrown sv_length sv_nodes sv_many sv_directories sv_runsFrom sv_runs sv_read sv_wrong sv_isNamed sv_goes sv_goesSize sv_goesAt sv_targetParts sv_isRoot)), ((ma 2), .inl (cI, 40, .inl fP))] sz) := by
  refine Met.ofW (cc := b_DiscMakerModel_depthOf) (maxL := 4) (ret := some .int) (by decide) rfl ?_
  intro p e s m args below meth c s₁ B hml hv
  obtain ⟨rfl, hsz, hP, hK, hN, hD0⟩ := hv
  have hx := B.exec
  have hb := B.bytes
  have hr := B.returns
  have hts := atoms_spec (ws := w_DiscMakerModel_depthOf) B.pre
  have ht9 := fun (w : Cond) (h : w ∈ lw_g) => hts w (List.mem_cons_of_mem _ h)
  have hown : s.vm.findClass "DiscMakerModel" = some m.cls := findClass_of_methodNamed B.named
  have hlocks := B.notSynchronized
  subst hsz
  have hD := hD0.self (sz := s.heap.size)
  generalize hAe : va_A [(h0, .inr (11, MO ma sv_thrown sv_length sv_nodes sv_many sv_directories sv_runsFrom sv_runs sv_read sv_wrong sv_isNamed sv_goes sv_goesSize sv_goesAt sv_targetParts sv_isRoot)), ((ma 2), .inl (cI, 40, .inl fP))] s.heap.size = A at hD ⊢
  have hA : ∀ q : Nat, s.heap.size ≤ q → A q := fun q h => by rw [← hAe]; exact Or.inr h
  have hS : va_S A s.heap s.heap [] := va_S.rf
  have hP : va_P D CL [(h0, .inr (11, MO ma sv_thrown sv_length sv_nodes sv_many sv_directories sv_runsFrom sv_runs sv_read sv_wrong sv_isNamed sv_goes sv_goesSize sv_goesAt sv_targetParts sv_isRoot)), ((ma 2), .inl (cI, 40, .inl fP))] s.heap := hP
  have hl := lv_entry [.ref h0, .int x] (n := 4) (Nat.le_of_ble_eq_true rfl)
  rw [lg_entry_eq]
  generalize (lg_sl [.ref h0, .int x] ++ List.replicate (4 - (lg_sl [.ref h0, .int x]).length) Slot.unset).toArray = ls at hl ⊢
  have hl : lv_has ls 4 [(0, .ref h0), (1, .int x)] := hl
  have L_m1 : ((-1) : Int32).toInt = (-1) := by decide
  have L_0 : (0 : Int32).toInt = 0 := by decide
  have L_1 : (1 : Int32).toInt = 1 := by decide
  refine lv_iconst (v := 0) hx hb d_DiscMakerModel_depthOf_0 (by decide) ?_
  refine lv_istore_n hx hb d_DiscMakerModel_depthOf_1 rfl hl (by decide) rfl (fun ls hl => ?_)
  have hl : lv_has ls 4 [(2, .int 0), (0, .ref h0), (1, .int x)] := hl
  refine lv_iload_n hx hb d_DiscMakerModel_depthOf_2 rfl (lv_at hl 2 rfl) ?_
  refine lv_istore_n hx hb d_DiscMakerModel_depthOf_3 rfl hl (by decide) rfl (fun ls hl => ?_)
  have hl : lv_has ls 4 [(3, .int x), (2, .int 0), (0, .ref h0), (1, .int x)] := hl
  refine zz_lab (P := fun (lk : Nat) (H : Heap) (locs : List Loc) (ls : Array Slot) (stk : List Value) => ∃ (nn : Int32) (lq : Int32) , lk = lq.toInt.toNat ∧ stk = [] ∧ (0 ≤ lq.toInt ∧ lq.toInt < sv_nodes.toInt) ∧ (0 ≤ nn.toInt ∧ nn.toInt + lq.toInt ≤ 40) ∧ va_P D CL [(h0, .inr (11, MO ma sv_thrown sv_length sv_nodes sv_many sv_directories sv_runsFrom sv_runs sv_read sv_wrong sv_isNamed sv_goes sv_goesSize sv_goesAt sv_targetParts sv_isRoot)), ((ma 2), .inl (cI, 40, .inl fP))] H ∧ va_D A [(h0, .inr (11, MO ma sv_thrown sv_length sv_nodes sv_many sv_directories sv_runsFrom sv_runs sv_read sv_wrong sv_isNamed sv_goes sv_goesSize sv_goesAt sv_targetParts sv_isRoot)), ((ma 2), .inl (cI, 40, .inl fP))] ∧ va_S A s.heap H locs ∧ lv_has ls 4 [(0, .ref h0), (1, .int x), (2, .int nn), (3, .int lq)]) 4 ?_ ?_
  · skip
    intro lk ih4 H locs ls stk hI
    obtain ⟨nn, lq, hm4, rfl, f1, f2, hP, hD, hS, hl⟩ := hI
    refine lv_iload_n hx hb d_DiscMakerModel_depthOf_4 rfl (lv_at hl 3 rfl) ?_
    refine lv_if_le (tgt := 21) hx hb d_DiscMakerModel_depthOf_5 (by decide) (fun h_9 => ?_) (fun h_9 => ?_)
    · skip
      have g5_6 : lq.toInt ≤ 0 := (i_le rfl (by decide)).mp h_9
      refine lv_iload_n hx hb d_DiscMakerModel_depthOf_21 rfl (lv_at hl 2 rfl) ?_
      have hP9 := hP.sub (ws' := [(h0, .inr (11, MO ma sv_thrown sv_length sv_nodes sv_many sv_directories sv_runsFrom sv_runs sv_read sv_wrong sv_isNamed sv_goes sv_goesSize sv_goesAt sv_targetParts sv_isRoot)), ((ma 2), .inl (cI, 40, .inl fP))]) [0, 1] rfl
      have hD9 := hD.sub (ws' := [(h0, .inr (11, MO ma sv_thrown sv_length sv_nodes sv_many sv_directories sv_runsFrom sv_runs sv_read sv_wrong sv_isNamed sv_goes sv_goesSize sv_goesAt sv_targetParts sv_isRoot)), ((ma 2), .inl (cI, 40, .inl fP))]) [0, 1] (by decide) rfl
      exact W.iret (v := nn) hx hb hr (fun t ht hW => ⟨⟨nn, (), rfl, trivial, by rw [ht]; exact hP9, hD9⟩, hS.F ht⟩) hS.2.2 d_DiscMakerModel_depthOf_22
    · skip
      have g5_6 : ¬ lq.toInt ≤ 0 := fun h8 => h_9 ((i_le rfl (by decide)).mpr h8)
      obtain ⟨v1, e_v1⟩ : ∃ z : Int32, z = nn + 1 := ⟨_, rfl⟩
      refine lv_iinc (v := v1) hx hb d_DiscMakerModel_depthOf_8 hl (k := 2) rfl e_v1.symm (by decide) rfl (fun ls hl => ?_)
      have t_v1 : v1.toInt = nn.toInt + 1 := by rw [e_v1]; exact i_add rfl (by decide) (by omega) (by omega)
      have hl : lv_has ls 4 [(2, .int v1), (0, .ref h0), (1, .int x), (3, .int lq)] := hl
      refine lv_aload_n hx hb d_DiscMakerModel_depthOf_11 rfl (lv_at hl 1 rfl) ?_
      refine va_get (D := D) (ci := 11) (v := .ref (ma 2)) (C := "DiscMakerModel") (T := F_DiscMakerModel) (N := 48) hx hb ht9 in_DiscMakerModel hown hK hP 0 rfl rfl 5 (by decide) (ht9 _ k1436) (fun _ h9 => h9) rfl d_DiscMakerModel_depthOf_12 ?_
      refine lv_iload_n hx hb d_DiscMakerModel_depthOf_15 rfl (lv_at hl 3 rfl) ?_
      refine va_iald hx hb hK hP 1 1 rfl rfl (vp_in_iff.mpr ⟨by omega, by omega⟩) d_DiscMakerModel_depthOf_16 ?_
      refine lv_topi (fun v2 e_v2 => ?_)
      have qv2 := hpp lq.toNatClampNeg (by have := i_cl (a := lq) (by omega); omega) (by have := i_cl (a := lq) (by omega); omega)
      rw [← e_v2] at qv2
      have qcv2 := i_cl (a := lq) (by omega)
      refine lv_istore_n hx hb d_DiscMakerModel_depthOf_17 rfl hl (by decide) rfl (fun ls hl => ?_)
      have hl : lv_has ls 4 [(3, .int v2), (2, .int v1), (0, .ref h0), (1, .int x)] := hl
      refine lv_goto (tgt := 4) hx hb d_DiscMakerModel_depthOf_18 (by decide) ?_
      have hP := hP.sub (ws' := [(h0, .inr (11, MO ma sv_thrown sv_length sv_nodes sv_many sv_directories sv_runsFrom sv_runs sv_read sv_wrong sv_isNamed sv_goes sv_goesSize sv_goesAt sv_targetParts sv_isRoot)), ((ma 2), .inl (cI, 40, .inl fP))]) [0, 1] rfl
      have hD := hD.sub (ws' := [(h0, .inr (11, MO ma sv_thrown sv_length sv_nodes sv_many sv_directories sv_runsFrom sv_runs sv_read sv_wrong sv_isNamed sv_goes sv_goesSize sv_goesAt sv_targetParts sv_isRoot)), ((ma 2), .inl (cI, 40, .inl fP))]) [0, 1] (by decide) rfl
      have hl := lv_sub hl [2, 3, 1, 0] rfl
      exact ih4 (_) (by first | omega | (dsimp only; omega)) _ _ _ _ ⟨v1, v2, rfl, rfl, (by (try dsimp only); first | omega | assumption | trivial), (by (try dsimp only); first | omega | assumption | trivial), hP, hD, hS, hl⟩
  · skip
    intro kk4
    have hP := hP.sub (ws' := [(h0, .inr (11, MO ma sv_thrown sv_length sv_nodes sv_many sv_directories sv_runsFrom sv_runs sv_read sv_wrong sv_isNamed sv_goes sv_goesSize sv_goesAt sv_targetParts sv_isRoot)), ((ma 2), .inl (cI, 40, .inl fP))]) [0, 1] rfl
    have hD := hD.sub (ws' := [(h0, .inr (11, MO ma sv_thrown sv_length sv_nodes sv_many sv_directories sv_runsFrom sv_runs sv_read sv_wrong sv_isNamed sv_goes sv_goesSize sv_goesAt sv_targetParts sv_isRoot)), ((ma 2), .inl (cI, 40, .inl fP))]) [0, 1] (by decide) rfl
    have hl := lv_sub hl [2, 3, 1, 0] rfl
    exact kk4 _ _ _ _ _ ⟨0, x, rfl, rfl, (by (try dsimp only); first | omega | assumption | trivial), (by (try dsimp only); first | omega | assumption | trivial), hP, hD, hS, hl⟩

theorem d_DiscMakerModel_isIn_0 : decode b_DiscMakerModel_isIn 0 = .ok (.iload_n 1, 1) := by decide +kernel
theorem d_DiscMakerModel_isIn_1 : decode b_DiscMakerModel_isIn 1 = .ok (.ifCond .lt 24, 3) := by decide +kernel
theorem d_DiscMakerModel_isIn_4 : decode b_DiscMakerModel_isIn 4 = .ok (.iload_n 1, 1) := by decide +kernel
theorem d_DiscMakerModel_isIn_5 : decode b_DiscMakerModel_isIn 5 = .ok (.aload_n 0, 1) := by decide +kernel
theorem d_DiscMakerModel_isIn_6 : decode b_DiscMakerModel_isIn 6 = .ok (.getfield 114, 3) := by decide +kernel
theorem d_DiscMakerModel_isIn_9 : decode b_DiscMakerModel_isIn 9 = .ok (.if_icmp .ge 16, 3) := by decide +kernel
theorem d_DiscMakerModel_isIn_12 : decode b_DiscMakerModel_isIn 12 = .ok (.aload_n 0, 1) := by decide +kernel
theorem d_DiscMakerModel_isIn_13 : decode b_DiscMakerModel_isIn 13 = .ok (.getfield 13, 3) := by decide +kernel
theorem d_DiscMakerModel_isIn_16 : decode b_DiscMakerModel_isIn 16 = .ok (.iload_n 1, 1) := by decide +kernel
theorem d_DiscMakerModel_isIn_17 : decode b_DiscMakerModel_isIn 17 = .ok (.iaload, 1) := by decide +kernel
theorem d_DiscMakerModel_isIn_18 : decode b_DiscMakerModel_isIn 18 = .ok (.ifCond .ne 7, 3) := by decide +kernel
theorem d_DiscMakerModel_isIn_21 : decode b_DiscMakerModel_isIn 21 = .ok (.iconst 1, 1) := by decide +kernel
theorem d_DiscMakerModel_isIn_22 : decode b_DiscMakerModel_isIn 22 = .ok (.goto 4, 3) := by decide +kernel
theorem d_DiscMakerModel_isIn_25 : decode b_DiscMakerModel_isIn 25 = .ok (.iconst 0, 1) := by decide +kernel
theorem d_DiscMakerModel_isIn_26 : decode b_DiscMakerModel_isIn 26 = .ok (.ireturn, 1) := by decide +kernel
set_option maxHeartbeats 4000000 in
set_option maxRecDepth 100000 in
theorem m_isIn (l : Launch) (D : va_G) (cB cI cJ cZ cN cF : ClassId) (sz : Nat) (h0 : Nat) (ma : Nat → Nat) (sv_thrown sv_length sv_nodes sv_many sv_directories sv_runsFrom sv_runs sv_read sv_wrong sv_isNamed sv_goes sv_goesSize sv_goesAt sv_targetParts sv_isRoot : Int32) (fK : Nat → Int32) (x : Int32) (hn : 1 ≤ sv_nodes.toInt ∧ sv_nodes.toInt ≤ 40) : Met l y_DiscMakerModel_isIn w_DiscMakerModel_isIn ({ frames := 0, cells := 0, slots := 0, locals := 0 }) (va_Pc [.ref h0, .int x] (fun U => U.heap.size = sz ∧ va_P D CL [(h0, .inr (11, MO ma sv_thrown sv_length sv_nodes sv_many sv_directories sv_runsFrom sv_runs sv_read sv_wrong sv_isNamed sv_goes sv_goesSize sv_goesAt sv_targetParts sv_isRoot)), ((ma 1), .inl (cI, 40, .inl fK))] U.heap ∧ va_K D CL (TY cB cI cJ cZ cN cF) U ∧ NN U ∧ va_D (fun _ => True) [(h0, .inr (11, MO ma sv_thrown sv_length sv_nodes sv_many sv_directories sv_runsFrom sv_runs sv_read sv_wrong sv_isNamed sv_goes sv_goesSize sv_goesAt sv_targetParts sv_isRoot)), ((ma 1), .inl (cI, 40, .inl fK))])) (va_Qi (fun (r : Int32) (u : Unit) => (0 ≤ r.toInt ∧ r.toInt ≤ 1) ∧ (r.toInt ≠ 0 → 0 ≤ x.toInt ∧ x.toInt < sv_nodes.toInt ∧ (fK x.toNatClampNeg).toInt = 0)) (fun (u : Unit) (t : State) => match u with | () => va_P D CL [(h0, .inr (11, MO ma sv_thrown sv_length sv_nodes sv_many sv_directories sv_runsFrom sv_runs sv_read sv_wrong sv_isNamed sv_goes sv_goesSize sv_goesAt sv_targetParts sv_isRoot)), ((ma 1), .inl (cI, 40, .inl fK))] t.heap ∧ va_D (va_A [(h0, .inr (11, MO ma sv_thrown sv_length sv_nodes sv_many sv_directories sv_runsFrom sv_runs sv_read sv_wrong sv_isNamed sv_goes sv_goesSize sv_goesAt sv_targetParts sv_isRoot)), ((ma 1), .inl (cI, 40, .inl fK))] sz) [(h0, .inr (11, MO ma sv_thrown sv_length sv_nodes sv_many sv_directories sv_runsFrom sv_runs sv_read sv_wrong sv_isNamed sv_goes sv_goesSize sv_goesAt sv_targetParts sv_isRoot)), ((ma 1), .inl (cI, 40, .inl fK))]) (va_A [(h0, .inr (11, MO ma sv_thrown sv_length sv_nodes sv_many sv_directories sv_runsFrom sv_runs sv_read sv_wrong sv_isNamed sv_goes sv_goesSize sv_goesAt sv_targetParts sv_isRoot)), ((ma 1), .inl (cI, 40, .inl fK))] sz)) 0 0 (va_A [(h0, .inr (11, MO ma sv_thrown sv_length sv_nodes sv_many sv_directories sv_runsFrom sv_runs sv_read sv_wrong sv_isNamed sv_goes sv_goesSize sv_goesAt sv_targetParts sv_isRoot)), ((ma 1), .inl (cI, 40, .inl fK))] sz) := by
  refine Met.ofW (cc := b_DiscMakerModel_isIn) (maxL := 2) (ret := some .boolean) (by decide) rfl ?_
  intro p e s m args below meth c s₁ B hml hv
  obtain ⟨rfl, hsz, hP, hK, hN, hD0⟩ := hv
  have hx := B.exec
  have hb := B.bytes
  have hr := B.returns
  have hts := atoms_spec (ws := w_DiscMakerModel_isIn) B.pre
  have ht9 := fun (w : Cond) (h : w ∈ lw_g) => hts w (List.mem_cons_of_mem _ h)
  have hown : s.vm.findClass "DiscMakerModel" = some m.cls := findClass_of_methodNamed B.named
  have hlocks := B.notSynchronized
  subst hsz
  have hD := hD0.self (sz := s.heap.size)
  generalize hAe : va_A [(h0, .inr (11, MO ma sv_thrown sv_length sv_nodes sv_many sv_directories sv_runsFrom sv_runs sv_read sv_wrong sv_isNamed sv_goes sv_goesSize sv_goesAt sv_targetParts sv_isRoot)), ((ma 1), .inl (cI, 40, .inl fK))] s.heap.size = A at hD ⊢
  have hA : ∀ q : Nat, s.heap.size ≤ q → A q := fun q h => by rw [← hAe]; exact Or.inr h
  have hS : va_S A s.heap s.heap [] := va_S.rf
  have hP : va_P D CL [(h0, .inr (11, MO ma sv_thrown sv_length sv_nodes sv_many sv_directories sv_runsFrom sv_runs sv_read sv_wrong sv_isNamed sv_goes sv_goesSize sv_goesAt sv_targetParts sv_isRoot)), ((ma 1), .inl (cI, 40, .inl fK))] s.heap := hP
  have hl := lv_entry [.ref h0, .int x] (n := 2) (Nat.le_of_ble_eq_true rfl)
  rw [lg_entry_eq]
  generalize (lg_sl [.ref h0, .int x] ++ List.replicate (2 - (lg_sl [.ref h0, .int x]).length) Slot.unset).toArray = ls at hl ⊢
  have hl : lv_has ls 2 [(0, .ref h0), (1, .int x)] := hl
  have L_m1 : ((-1) : Int32).toInt = (-1) := by decide
  have L_0 : (0 : Int32).toInt = 0 := by decide
  have L_1 : (1 : Int32).toInt = 1 := by decide
  refine lv_iload_n hx hb d_DiscMakerModel_isIn_0 rfl (lv_at hl 1 rfl) ?_
  refine lv_if_lt (tgt := 25) hx hb d_DiscMakerModel_isIn_1 (by decide) (fun h_9 => ?_) (fun h_9 => ?_)
  · skip
    have g1_2 : x.toInt < 0 := (i_lt rfl (by decide)).mp h_9
    refine lv_iconst (v := 0) hx hb d_DiscMakerModel_isIn_25 (by decide) ?_
    have hP9 := hP.sub (ws' := [(h0, .inr (11, MO ma sv_thrown sv_length sv_nodes sv_many sv_directories sv_runsFrom sv_runs sv_read sv_wrong sv_isNamed sv_goes sv_goesSize sv_goesAt sv_targetParts sv_isRoot)), ((ma 1), .inl (cI, 40, .inl fK))]) [0, 1] rfl
    have hD9 := hD.sub (ws' := [(h0, .inr (11, MO ma sv_thrown sv_length sv_nodes sv_many sv_directories sv_runsFrom sv_runs sv_read sv_wrong sv_isNamed sv_goes sv_goesSize sv_goesAt sv_targetParts sv_isRoot)), ((ma 1), .inl (cI, 40, .inl fK))]) [0, 1] (by decide) rfl
    exact W.zret (v := 0) hx hb hr (by first | rfl | decide | exact i_narZ (by omega)) (fun t ht hW => ⟨⟨0, (), rfl, ⟨(by (try dsimp only); first | omega | assumption | trivial), (by intro h7; exfalso; omega)⟩, by rw [ht]; exact hP9, hD9⟩, hS.F ht⟩) hS.2.2 d_DiscMakerModel_isIn_26
  · skip
    have g1_2 : ¬ x.toInt < 0 := fun h8 => h_9 ((i_lt rfl (by decide)).mpr h8)
    refine lv_iload_n hx hb d_DiscMakerModel_isIn_4 rfl (lv_at hl 1 rfl) ?_
    refine lv_aload_n hx hb d_DiscMakerModel_isIn_5 rfl (lv_at hl 0 rfl) ?_
    refine va_get (D := D) (ci := 11) (v := .int sv_nodes) (C := "DiscMakerModel") (T := F_DiscMakerModel) (N := 48) hx hb ht9 in_DiscMakerModel hown hK hP 0 rfl rfl 3 (by decide) (ht9 _ k1434) (fun _ h9 => h9) rfl d_DiscMakerModel_isIn_6 ?_
    refine lv_icmp_ge (tgt := 25) hx hb d_DiscMakerModel_isIn_9 (by decide) (fun h_9 => ?_) (fun h_9 => ?_)
    · skip
      have g9_8 : sv_nodes.toInt ≤ x.toInt := (i_le rfl rfl).mp h_9
      refine lv_iconst (v := 0) hx hb d_DiscMakerModel_isIn_25 (by decide) ?_
      have hP9 := hP.sub (ws' := [(h0, .inr (11, MO ma sv_thrown sv_length sv_nodes sv_many sv_directories sv_runsFrom sv_runs sv_read sv_wrong sv_isNamed sv_goes sv_goesSize sv_goesAt sv_targetParts sv_isRoot)), ((ma 1), .inl (cI, 40, .inl fK))]) [0, 1] rfl
      have hD9 := hD.sub (ws' := [(h0, .inr (11, MO ma sv_thrown sv_length sv_nodes sv_many sv_directories sv_runsFrom sv_runs sv_read sv_wrong sv_isNamed sv_goes sv_goesSize sv_goesAt sv_targetParts sv_isRoot)), ((ma 1), .inl (cI, 40, .inl fK))]) [0, 1] (by decide) rfl
      exact W.zret (v := 0) hx hb hr (by first | rfl | decide | exact i_narZ (by omega)) (fun t ht hW => ⟨⟨0, (), rfl, ⟨(by (try dsimp only); first | omega | assumption | trivial), (by intro h7; exfalso; omega)⟩, by rw [ht]; exact hP9, hD9⟩, hS.F ht⟩) hS.2.2 d_DiscMakerModel_isIn_26
    · skip
      have g9_8 : ¬ sv_nodes.toInt ≤ x.toInt := fun h8 => h_9 ((i_le rfl rfl).mpr h8)
      refine lv_aload_n hx hb d_DiscMakerModel_isIn_12 rfl (lv_at hl 0 rfl) ?_
      refine va_get (D := D) (ci := 11) (v := .ref (ma 1)) (C := "DiscMakerModel") (T := F_DiscMakerModel) (N := 48) hx hb ht9 in_DiscMakerModel hown hK hP 0 rfl rfl 4 (by decide) (ht9 _ k1435) (fun _ h9 => h9) rfl d_DiscMakerModel_isIn_13 ?_
      refine lv_iload_n hx hb d_DiscMakerModel_isIn_16 rfl (lv_at hl 1 rfl) ?_
      refine va_iald hx hb hK hP 1 1 rfl rfl (vp_in_iff.mpr ⟨by omega, by omega⟩) d_DiscMakerModel_isIn_17 ?_
      refine lv_topi (fun v1 e_v1 => ?_)
      refine lv_if_ne (tgt := 25) hx hb d_DiscMakerModel_isIn_18 (by decide) (fun h_9 => ?_) (fun h_9 => ?_)
      · skip
        have g18_15 : ¬ v1.toInt = 0 := fun h8 => h_9 ((i_eq rfl (by decide)).mpr h8)
        refine lv_iconst (v := 0) hx hb d_DiscMakerModel_isIn_25 (by decide) ?_
        have hP9 := hP.sub (ws' := [(h0, .inr (11, MO ma sv_thrown sv_length sv_nodes sv_many sv_directories sv_runsFrom sv_runs sv_read sv_wrong sv_isNamed sv_goes sv_goesSize sv_goesAt sv_targetParts sv_isRoot)), ((ma 1), .inl (cI, 40, .inl fK))]) [0, 1] rfl
        have hD9 := hD.sub (ws' := [(h0, .inr (11, MO ma sv_thrown sv_length sv_nodes sv_many sv_directories sv_runsFrom sv_runs sv_read sv_wrong sv_isNamed sv_goes sv_goesSize sv_goesAt sv_targetParts sv_isRoot)), ((ma 1), .inl (cI, 40, .inl fK))]) [0, 1] (by decide) rfl
        exact W.zret (v := 0) hx hb hr (by first | rfl | decide | exact i_narZ (by omega)) (fun t ht hW => ⟨⟨0, (), rfl, ⟨(by (try dsimp only); first | omega | assumption | trivial), (by intro h7; exfalso; omega)⟩, by rw [ht]; exact hP9, hD9⟩, hS.F ht⟩) hS.2.2 d_DiscMakerModel_isIn_26
      · skip
        have g18_15 : v1.toInt = 0 := (i_eq rfl (by decide)).mp h_9
        refine lv_iconst (v := 1) hx hb d_DiscMakerModel_isIn_21 (by decide) ?_
        refine lv_goto (tgt := 26) hx hb d_DiscMakerModel_isIn_22 (by decide) ?_
        have hP9 := hP.sub (ws' := [(h0, .inr (11, MO ma sv_thrown sv_length sv_nodes sv_many sv_directories sv_runsFrom sv_runs sv_read sv_wrong sv_isNamed sv_goes sv_goesSize sv_goesAt sv_targetParts sv_isRoot)), ((ma 1), .inl (cI, 40, .inl fK))]) [0, 1] rfl
        have hD9 := hD.sub (ws' := [(h0, .inr (11, MO ma sv_thrown sv_length sv_nodes sv_many sv_directories sv_runsFrom sv_runs sv_read sv_wrong sv_isNamed sv_goes sv_goesSize sv_goesAt sv_targetParts sv_isRoot)), ((ma 1), .inl (cI, 40, .inl fK))]) [0, 1] (by decide) rfl
        exact W.zret (v := 1) hx hb hr (by first | rfl | decide | exact i_narZ (by omega)) (fun t ht hW => ⟨⟨1, (), rfl, ⟨(by (try dsimp only); first | omega | assumption | trivial), (by intro _; exact ⟨by omega, by omega, by rw [← e_v1]; omega⟩)⟩, by rw [ht]; exact hP9, hD9⟩, hS.F ht⟩) hS.2.2 d_DiscMakerModel_isIn_26

theorem d_DiscMakerModel_countOf_0 : decode b_DiscMakerModel_countOf 0 = .ok (.iconst 0, 1) := by decide +kernel
theorem d_DiscMakerModel_countOf_1 : decode b_DiscMakerModel_countOf 1 = .ok (.istore_n 2, 1) := by decide +kernel
theorem d_DiscMakerModel_countOf_2 : decode b_DiscMakerModel_countOf 2 = .ok (.iconst 0, 1) := by decide +kernel
theorem d_DiscMakerModel_countOf_3 : decode b_DiscMakerModel_countOf 3 = .ok (.istore_n 3, 1) := by decide +kernel
theorem d_DiscMakerModel_countOf_4 : decode b_DiscMakerModel_countOf 4 = .ok (.iload_n 3, 1) := by decide +kernel
theorem d_DiscMakerModel_countOf_5 : decode b_DiscMakerModel_countOf 5 = .ok (.aload_n 0, 1) := by decide +kernel
theorem d_DiscMakerModel_countOf_6 : decode b_DiscMakerModel_countOf 6 = .ok (.getfield 114, 3) := by decide +kernel
theorem d_DiscMakerModel_countOf_9 : decode b_DiscMakerModel_countOf 9 = .ok (.if_icmp .ge 27, 3) := by decide +kernel
theorem d_DiscMakerModel_countOf_12 : decode b_DiscMakerModel_countOf 12 = .ok (.iload_n 2, 1) := by decide +kernel
theorem d_DiscMakerModel_countOf_13 : decode b_DiscMakerModel_countOf 13 = .ok (.aload_n 0, 1) := by decide +kernel
theorem d_DiscMakerModel_countOf_14 : decode b_DiscMakerModel_countOf 14 = .ok (.getfield 13, 3) := by decide +kernel
theorem d_DiscMakerModel_countOf_17 : decode b_DiscMakerModel_countOf 17 = .ok (.iload_n 3, 1) := by decide +kernel
theorem d_DiscMakerModel_countOf_18 : decode b_DiscMakerModel_countOf 18 = .ok (.iaload, 1) := by decide +kernel
theorem d_DiscMakerModel_countOf_19 : decode b_DiscMakerModel_countOf 19 = .ok (.iload_n 1, 1) := by decide +kernel
theorem d_DiscMakerModel_countOf_20 : decode b_DiscMakerModel_countOf 20 = .ok (.if_icmp .ne 7, 3) := by decide +kernel
theorem d_DiscMakerModel_countOf_23 : decode b_DiscMakerModel_countOf 23 = .ok (.iconst 1, 1) := by decide +kernel
theorem d_DiscMakerModel_countOf_24 : decode b_DiscMakerModel_countOf 24 = .ok (.goto 4, 3) := by decide +kernel
theorem d_DiscMakerModel_countOf_27 : decode b_DiscMakerModel_countOf 27 = .ok (.iconst 0, 1) := by decide +kernel
theorem d_DiscMakerModel_countOf_28 : decode b_DiscMakerModel_countOf 28 = .ok (.iadd, 1) := by decide +kernel
theorem d_DiscMakerModel_countOf_29 : decode b_DiscMakerModel_countOf 29 = .ok (.istore_n 2, 1) := by decide +kernel
theorem d_DiscMakerModel_countOf_30 : decode b_DiscMakerModel_countOf 30 = .ok (.iinc 3 1, 3) := by decide +kernel
theorem d_DiscMakerModel_countOf_33 : decode b_DiscMakerModel_countOf 33 = .ok (.goto (-29), 3) := by decide +kernel
theorem d_DiscMakerModel_countOf_36 : decode b_DiscMakerModel_countOf 36 = .ok (.iload_n 2, 1) := by decide +kernel
theorem d_DiscMakerModel_countOf_37 : decode b_DiscMakerModel_countOf 37 = .ok (.ireturn, 1) := by decide +kernel
set_option maxHeartbeats 4000000 in
set_option maxRecDepth 100000 in
theorem m_countOf (l : Launch) (D : va_G) (cB cI cJ cZ cN cF : ClassId) (sz : Nat) (h0 : Nat) (ma : Nat → Nat) (sv_thrown sv_length sv_nodes sv_many sv_directories sv_runsFrom sv_runs sv_read sv_wrong sv_isNamed sv_goes sv_goesSize sv_goesAt sv_targetParts sv_isRoot : Int32) (fK : Nat → Int32) (hn : 1 ≤ sv_nodes.toInt ∧ sv_nodes.toInt ≤ 40) : Met l y_DiscMakerModel_countOf w_DiscMakerModel_countOf ({ frames := 0, cells := 0, slots := 0, locals := 0 }) (va_Pc [.ref h0, .int 0] (fun U => U.heap.size = sz ∧ va_P D CL [(h0, .inr (11, MO ma sv_thrown sv_length sv_nodes sv_many sv_directories sv_runsFrom sv_runs sv_read sv_wrong sv_isNamed sv_goes sv_goesSize sv_goesAt sv_targetParts sv_isRoot)), ((ma 1), .inl (cI, 40, .inl fK))] U.heap ∧ va_K D CL (TY cB cI cJ cZ cN cF) U ∧ NN U ∧ va_D (fun _ => True) [(h0, .inr (11, MO ma sv_thrown sv_length sv_nodes sv_many sv_directories sv_runsFrom sv_runs sv_read sv_wrong sv_isNamed sv_goes sv_goesSize sv_goesAt sv_targetParts sv_isRoot)), ((ma 1), .inl (cI, 40, .inl fK))])) (va_Qi (fun (r : Int32) (u : Unit) => (r.toInt = cntK fK sv_nodes.toInt.toNat)) (fun (u : Unit) (t : State) => match u with | () => va_P D CL [(h0, .inr (11, MO ma sv_thrown sv_length sv_nodes sv_many sv_directories sv_runsFrom sv_runs sv_read sv_wrong sv_isNamed sv_goes sv_goesSize sv_goesAt sv_targetParts sv_isRoot)), ((ma 1), .inl (cI, 40, .inl fK))] t.heap ∧ va_D (va_A [(h0, .inr (11, MO ma sv_thrown sv_length sv_nodes sv_many sv_directories sv_runsFrom sv_runs sv_read sv_wrong sv_isNamed sv_goes sv_goesSize sv_goesAt sv_targetParts sv_isRoot)), ((ma 1), .inl (cI, 40, .inl fK))] sz) [(h0, .inr (11, MO ma sv_thrown sv_length sv_nodes sv_many sv_directories sv_runsFrom sv_runs sv_read sv_wrong sv_isNamed sv_goes sv_goesSize sv_goesAt sv_targetParts sv_isRoot)), ((ma 1), .inl (cI, 40, .inl fK))]) (va_A [(h0, .inr (11, MO ma sv_thrown sv_length sv_nodes sv_many sv_directories sv_runsFrom sv_runs sv_read sv_wrong sv_isNamed sv_goes sv_goesSize sv_goesAt sv_targetParts sv_isRoot)), ((ma 1), .inl (cI, 40, .inl fK))] sz)) 0 0 (va_A [(h0, .inr (11, MO ma sv_thrown sv_length sv_nodes sv_many sv_directories sv_runsFrom sv_runs sv_read sv_wrong sv_isNamed sv_goes sv_goesSize sv_goesAt sv_targetParts sv_isRoot)), ((ma 1), .inl (cI, 40, .inl fK))] sz) := by
  refine Met.ofW (cc := b_DiscMakerModel_countOf) (maxL := 4) (ret := some .int) (by decide) rfl ?_
  intro p e s m args below meth c s₁ B hml hv
  obtain ⟨rfl, hsz, hP, hK, hN, hD0⟩ := hv
  have hx := B.exec
  have hb := B.bytes
  have hr := B.returns
  have hts := atoms_spec (ws := w_DiscMakerModel_countOf) B.pre
  have ht9 := fun (w : Cond) (h : w ∈ lw_g) => hts w (List.mem_cons_of_mem _ h)
  have hown : s.vm.findClass "DiscMakerModel" = some m.cls := findClass_of_methodNamed B.named
  have hlocks := B.notSynchronized
  subst hsz
  have hD := hD0.self (sz := s.heap.size)
  generalize hAe : va_A [(h0, .inr (11, MO ma sv_thrown sv_length sv_nodes sv_many sv_directories sv_runsFrom sv_runs sv_read sv_wrong sv_isNamed sv_goes sv_goesSize sv_goesAt sv_targetParts sv_isRoot)), ((ma 1), .inl (cI, 40, .inl fK))] s.heap.size = A at hD ⊢
  have hA : ∀ q : Nat, s.heap.size ≤ q → A q := fun q h => by rw [← hAe]; exact Or.inr h
  have hS : va_S A s.heap s.heap [] := va_S.rf
  have hP : va_P D CL [(h0, .inr (11, MO ma sv_thrown sv_length sv_nodes sv_many sv_directories sv_runsFrom sv_runs sv_read sv_wrong sv_isNamed sv_goes sv_goesSize sv_goesAt sv_targetParts sv_isRoot)), ((ma 1), .inl (cI, 40, .inl fK))] s.heap := hP
  have hl := lv_entry [.ref h0, .int 0] (n := 4) (Nat.le_of_ble_eq_true rfl)
  rw [lg_entry_eq]
  generalize (lg_sl [.ref h0, .int 0] ++ List.replicate (4 - (lg_sl [.ref h0, .int 0]).length) Slot.unset).toArray = ls at hl ⊢
  have hl : lv_has ls 4 [(0, .ref h0), (1, .int 0)] := hl
  have L_m1 : ((-1) : Int32).toInt = (-1) := by decide
  have L_0 : (0 : Int32).toInt = 0 := by decide
  have L_1 : (1 : Int32).toInt = 1 := by decide
  refine lv_iconst (v := 0) hx hb d_DiscMakerModel_countOf_0 (by decide) ?_
  refine lv_istore_n hx hb d_DiscMakerModel_countOf_1 rfl hl (by decide) rfl (fun ls hl => ?_)
  have hl : lv_has ls 4 [(2, .int 0), (0, .ref h0), (1, .int 0)] := hl
  refine lv_iconst (v := 0) hx hb d_DiscMakerModel_countOf_2 (by decide) ?_
  refine lv_istore_n hx hb d_DiscMakerModel_countOf_3 rfl hl (by decide) rfl (fun ls hl => ?_)
  have hl : lv_has ls 4 [(3, .int 0), (2, .int 0), (0, .ref h0), (1, .int 0)] := hl
  refine zz_lab (P := fun (lk : Nat) (H : Heap) (locs : List Loc) (ls : Array Slot) (stk : List Value) => ∃ (nn : Int32) (kx : Int32) , lk = (40 - kx.toInt).toNat ∧ stk = [] ∧ (nn.toInt = cntK fK kx.toInt.toNat) ∧ (0 ≤ kx.toInt ∧ kx.toInt ≤ sv_nodes.toInt) ∧ (0 ≤ nn.toInt ∧ nn.toInt ≤ kx.toInt) ∧ va_P D CL [(h0, .inr (11, MO ma sv_thrown sv_length sv_nodes sv_many sv_directories sv_runsFrom sv_runs sv_read sv_wrong sv_isNamed sv_goes sv_goesSize sv_goesAt sv_targetParts sv_isRoot)), ((ma 1), .inl (cI, 40, .inl fK))] H ∧ va_D A [(h0, .inr (11, MO ma sv_thrown sv_length sv_nodes sv_many sv_directories sv_runsFrom sv_runs sv_read sv_wrong sv_isNamed sv_goes sv_goesSize sv_goesAt sv_targetParts sv_isRoot)), ((ma 1), .inl (cI, 40, .inl fK))] ∧ va_S A s.heap H locs ∧ lv_has ls 4 [(0, .ref h0), (1, .int 0), (2, .int nn), (3, .int kx)]) 4 ?_ ?_
  · skip
    intro lk ih4 H locs ls stk hI
    obtain ⟨nn, kx, hm4, rfl, f1, f2, f3, hP, hD, hS, hl⟩ := hI
    refine lv_iload_n hx hb d_DiscMakerModel_countOf_4 rfl (lv_at hl 3 rfl) ?_
    refine lv_aload_n hx hb d_DiscMakerModel_countOf_5 rfl (lv_at hl 0 rfl) ?_
    refine va_get (D := D) (ci := 11) (v := .int sv_nodes) (C := "DiscMakerModel") (T := F_DiscMakerModel) (N := 48) hx hb ht9 in_DiscMakerModel hown hK hP 0 rfl rfl 3 (by decide) (ht9 _ k1434) (fun _ h9 => h9) rfl d_DiscMakerModel_countOf_6 ?_
    refine lv_icmp_ge (tgt := 36) hx hb d_DiscMakerModel_countOf_9 (by decide) (fun h_9 => ?_) (fun h_9 => ?_)
    · skip
      have g9_8 : sv_nodes.toInt ≤ kx.toInt := (i_le rfl rfl).mp h_9
      refine lv_iload_n hx hb d_DiscMakerModel_countOf_36 rfl (lv_at hl 2 rfl) ?_
      have hP9 := hP.sub (ws' := [(h0, .inr (11, MO ma sv_thrown sv_length sv_nodes sv_many sv_directories sv_runsFrom sv_runs sv_read sv_wrong sv_isNamed sv_goes sv_goesSize sv_goesAt sv_targetParts sv_isRoot)), ((ma 1), .inl (cI, 40, .inl fK))]) [0, 1] rfl
      have hD9 := hD.sub (ws' := [(h0, .inr (11, MO ma sv_thrown sv_length sv_nodes sv_many sv_directories sv_runsFrom sv_runs sv_read sv_wrong sv_isNamed sv_goes sv_goesSize sv_goesAt sv_targetParts sv_isRoot)), ((ma 1), .inl (cI, 40, .inl fK))]) [0, 1] (by decide) rfl
      exact W.iret (v := nn) hx hb hr (fun t ht hW => ⟨⟨nn, (), rfl, (by rw [f1, show kx.toInt = sv_nodes.toInt by omega]), by rw [ht]; exact hP9, hD9⟩, hS.F ht⟩) hS.2.2 d_DiscMakerModel_countOf_37
    · skip
      have g9_8 : ¬ sv_nodes.toInt ≤ kx.toInt := fun h8 => h_9 ((i_le rfl rfl).mpr h8)
      refine lv_iload_n hx hb d_DiscMakerModel_countOf_12 rfl (lv_at hl 2 rfl) ?_
      refine lv_aload_n hx hb d_DiscMakerModel_countOf_13 rfl (lv_at hl 0 rfl) ?_
      refine va_get (D := D) (ci := 11) (v := .ref (ma 1)) (C := "DiscMakerModel") (T := F_DiscMakerModel) (N := 48) hx hb ht9 in_DiscMakerModel hown hK hP 0 rfl rfl 4 (by decide) (ht9 _ k1435) (fun _ h9 => h9) rfl d_DiscMakerModel_countOf_14 ?_
      refine lv_iload_n hx hb d_DiscMakerModel_countOf_17 rfl (lv_at hl 3 rfl) ?_
      refine va_iald hx hb hK hP 1 1 rfl rfl (vp_in_iff.mpr ⟨by omega, by omega⟩) d_DiscMakerModel_countOf_18 ?_
      refine lv_topi (fun v1 e_v1 => ?_)
      refine lv_iload_n hx hb d_DiscMakerModel_countOf_19 rfl (lv_at hl 1 rfl) ?_
      refine lv_icmp_ne (tgt := 27) hx hb d_DiscMakerModel_countOf_20 (by decide) (fun h_9 => ?_) (fun h_9 => ?_)
      · skip
        have g20_17 : ¬ v1.toInt = 0 := fun h8 => h_9 ((i_eq rfl (by decide)).mpr h8)
        refine lv_iconst (v := 0) hx hb d_DiscMakerModel_countOf_27 (by decide) ?_
        refine lv_iadd hx hb d_DiscMakerModel_countOf_28 ?_
        refine lv_topi (fun v2 e_v2 => ?_)
        have t_v2 : v2.toInt = nn.toInt + 0 := by rw [e_v2]; exact i_add rfl (by decide) (by omega) (by omega)
        refine lv_istore_n hx hb d_DiscMakerModel_countOf_29 rfl hl (by decide) rfl (fun ls hl => ?_)
        have hl : lv_has ls 4 [(2, .int v2), (0, .ref h0), (1, .int 0), (3, .int kx)] := hl
        obtain ⟨v3, e_v3⟩ : ∃ z : Int32, z = kx + 1 := ⟨_, rfl⟩
        refine lv_iinc (v := v3) hx hb d_DiscMakerModel_countOf_30 hl (k := 3) rfl e_v3.symm (by decide) rfl (fun ls hl => ?_)
        have t_v3 : v3.toInt = kx.toInt + 1 := by rw [e_v3]; exact i_add rfl (by decide) (by omega) (by omega)
        have hl : lv_has ls 4 [(3, .int v3), (2, .int v2), (0, .ref h0), (1, .int 0)] := hl
        refine lv_goto (tgt := 4) hx hb d_DiscMakerModel_countOf_33 (by decide) ?_
        have hP := hP.sub (ws' := [(h0, .inr (11, MO ma sv_thrown sv_length sv_nodes sv_many sv_directories sv_runsFrom sv_runs sv_read sv_wrong sv_isNamed sv_goes sv_goesSize sv_goesAt sv_targetParts sv_isRoot)), ((ma 1), .inl (cI, 40, .inl fK))]) [0, 1] rfl
        have hD := hD.sub (ws' := [(h0, .inr (11, MO ma sv_thrown sv_length sv_nodes sv_many sv_directories sv_runsFrom sv_runs sv_read sv_wrong sv_isNamed sv_goes sv_goesSize sv_goesAt sv_targetParts sv_isRoot)), ((ma 1), .inl (cI, 40, .inl fK))]) [0, 1] (by decide) rfl
        have hl := lv_sub hl [2, 3, 1, 0] rfl
        exact ih4 (_) (by first | omega | (dsimp only; omega)) _ _ _ _ ⟨v2, v3, rfl, rfl, (by rw [show (v3.toInt).toNat = kx.toInt.toNat + 1 by omega]; simp only [cntK]; have hcl := i_cl (a := kx) (by omega); rw [show kx.toInt.toNat = kx.toNatClampNeg by omega, ← e_v1]; rw [show kx.toInt.toNat = kx.toNatClampNeg by omega] at f1; split <;> omega), (by (try dsimp only); first | omega | assumption | trivial), (by (try dsimp only); first | omega | assumption | trivial), hP, hD, hS, hl⟩
      · skip
        have g20_17 : v1.toInt = 0 := (i_eq rfl (by decide)).mp h_9
        refine lv_iconst (v := 1) hx hb d_DiscMakerModel_countOf_23 (by decide) ?_
        refine lv_goto (tgt := 28) hx hb d_DiscMakerModel_countOf_24 (by decide) ?_
        refine lv_iadd hx hb d_DiscMakerModel_countOf_28 ?_
        refine lv_topi (fun v4 e_v4 => ?_)
        have t_v4 : v4.toInt = nn.toInt + 1 := by rw [e_v4]; exact i_add rfl (by decide) (by omega) (by omega)
        refine lv_istore_n hx hb d_DiscMakerModel_countOf_29 rfl hl (by decide) rfl (fun ls hl => ?_)
        have hl : lv_has ls 4 [(2, .int v4), (0, .ref h0), (1, .int 0), (3, .int kx)] := hl
        obtain ⟨v5, e_v5⟩ : ∃ z : Int32, z = kx + 1 := ⟨_, rfl⟩
        refine lv_iinc (v := v5) hx hb d_DiscMakerModel_countOf_30 hl (k := 3) rfl e_v5.symm (by decide) rfl (fun ls hl => ?_)
        have t_v5 : v5.toInt = kx.toInt + 1 := by rw [e_v5]; exact i_add rfl (by decide) (by omega) (by omega)
        have hl : lv_has ls 4 [(3, .int v5), (2, .int v4), (0, .ref h0), (1, .int 0)] := hl
        refine lv_goto (tgt := 4) hx hb d_DiscMakerModel_countOf_33 (by decide) ?_
        have hP := hP.sub (ws' := [(h0, .inr (11, MO ma sv_thrown sv_length sv_nodes sv_many sv_directories sv_runsFrom sv_runs sv_read sv_wrong sv_isNamed sv_goes sv_goesSize sv_goesAt sv_targetParts sv_isRoot)), ((ma 1), .inl (cI, 40, .inl fK))]) [0, 1] rfl
        have hD := hD.sub (ws' := [(h0, .inr (11, MO ma sv_thrown sv_length sv_nodes sv_many sv_directories sv_runsFrom sv_runs sv_read sv_wrong sv_isNamed sv_goes sv_goesSize sv_goesAt sv_targetParts sv_isRoot)), ((ma 1), .inl (cI, 40, .inl fK))]) [0, 1] (by decide) rfl
        have hl := lv_sub hl [2, 3, 1, 0] rfl
        exact ih4 (_) (by first | omega | (dsimp only; omega)) _ _ _ _ ⟨v4, v5, rfl, rfl, (by rw [show (v5.toInt).toNat = kx.toInt.toNat + 1 by omega]; simp only [cntK]; have hcl := i_cl (a := kx) (by omega); rw [show kx.toInt.toNat = kx.toNatClampNeg by omega, ← e_v1]; rw [show kx.toInt.toNat = kx.toNatClampNeg by omega] at f1; split <;> omega), (by (try dsimp only); first | omega | assumption | trivial), (by (try dsimp only); first | omega | assumption | trivial), hP, hD, hS, hl⟩
  · skip
    intro kk4
    have hP := hP.sub (ws' := [(h0, .inr (11, MO ma sv_thrown sv_length sv_nodes sv_many sv_directories sv_runsFrom sv_runs sv_read sv_wrong sv_isNamed sv_goes sv_goesSize sv_goesAt sv_targetParts sv_isRoot)), ((ma 1), .inl (cI, 40, .inl fK))]) [0, 1] rfl
    have hD := hD.sub (ws' := [(h0, .inr (11, MO ma sv_thrown sv_length sv_nodes sv_many sv_directories sv_runsFrom sv_runs sv_read sv_wrong sv_isNamed sv_goes sv_goesSize sv_goesAt sv_targetParts sv_isRoot)), ((ma 1), .inl (cI, 40, .inl fK))]) [0, 1] (by decide) rfl
    have hl := lv_sub hl [2, 3, 1, 0] rfl
    exact kk4 _ _ _ _ _ ⟨0, 0, rfl, rfl, (by rw [show (0 : Int32).toInt.toNat = 0 by omega]; simp only [cntK]; omega), (by (try dsimp only); first | omega | assumption | trivial), (by (try dsimp only); first | omega | assumption | trivial), hP, hD, hS, hl⟩

theorem d_DiscMakerModel_add_0 : decode b_DiscMakerModel_add 0 = .ok (.aload_n 0, 1) := by decide +kernel
theorem d_DiscMakerModel_add_1 : decode b_DiscMakerModel_add 1 = .ok (.getfield 121, 3) := by decide +kernel
theorem d_DiscMakerModel_add_4 : decode b_DiscMakerModel_add 4 = .ok (.istore 5, 2) := by decide +kernel
theorem d_DiscMakerModel_add_6 : decode b_DiscMakerModel_add 6 = .ok (.aload_n 0, 1) := by decide +kernel
theorem d_DiscMakerModel_add_7 : decode b_DiscMakerModel_add 7 = .ok (.iconst 0, 1) := by decide +kernel
theorem d_DiscMakerModel_add_8 : decode b_DiscMakerModel_add 8 = .ok (.putfield 121, 3) := by decide +kernel
theorem d_DiscMakerModel_add_11 : decode b_DiscMakerModel_add 11 = .ok (.iload 4, 2) := by decide +kernel
theorem d_DiscMakerModel_add_13 : decode b_DiscMakerModel_add 13 = .ok (.ifCond .eq 19, 3) := by decide +kernel
theorem d_DiscMakerModel_add_16 : decode b_DiscMakerModel_add 16 = .ok (.aload_n 0, 1) := by decide +kernel
theorem d_DiscMakerModel_add_17 : decode b_DiscMakerModel_add 17 = .ok (.iload_n 1, 1) := by decide +kernel
theorem d_DiscMakerModel_add_18 : decode b_DiscMakerModel_add 18 = .ok (.invokevirtual 136, 3) := by decide +kernel
theorem d_DiscMakerModel_add_21 : decode b_DiscMakerModel_add 21 = .ok (.ifCond .eq 11, 3) := by decide +kernel
theorem d_DiscMakerModel_add_24 : decode b_DiscMakerModel_add 24 = .ok (.aload_n 0, 1) := by decide +kernel
theorem d_DiscMakerModel_add_25 : decode b_DiscMakerModel_add 25 = .ok (.iload_n 3, 1) := by decide +kernel
theorem d_DiscMakerModel_add_26 : decode b_DiscMakerModel_add 26 = .ok (.invokevirtual 139, 3) := by decide +kernel
theorem d_DiscMakerModel_add_29 : decode b_DiscMakerModel_add 29 = .ok (.ifCond .ne 6, 3) := by decide +kernel
theorem d_DiscMakerModel_add_32 : decode b_DiscMakerModel_add 32 = .ok (.bipush (-4), 2) := by decide +kernel
theorem d_DiscMakerModel_add_34 : decode b_DiscMakerModel_add 34 = .ok (.ireturn, 1) := by decide +kernel
theorem d_DiscMakerModel_add_35 : decode b_DiscMakerModel_add 35 = .ok (.aload_n 0, 1) := by decide +kernel
theorem d_DiscMakerModel_add_36 : decode b_DiscMakerModel_add 36 = .ok (.iload_n 1, 1) := by decide +kernel
theorem d_DiscMakerModel_add_37 : decode b_DiscMakerModel_add 37 = .ok (.iload_n 3, 1) := by decide +kernel
theorem d_DiscMakerModel_add_38 : decode b_DiscMakerModel_add 38 = .ok (.invokevirtual 142, 3) := by decide +kernel
theorem d_DiscMakerModel_add_41 : decode b_DiscMakerModel_add 41 = .ok (.ifCond .eq 6, 3) := by decide +kernel
theorem d_DiscMakerModel_add_44 : decode b_DiscMakerModel_add 44 = .ok (.bipush (-2), 2) := by decide +kernel
theorem d_DiscMakerModel_add_46 : decode b_DiscMakerModel_add 46 = .ok (.ireturn, 1) := by decide +kernel
theorem d_DiscMakerModel_add_47 : decode b_DiscMakerModel_add 47 = .ok (.aload_n 0, 1) := by decide +kernel
theorem d_DiscMakerModel_add_48 : decode b_DiscMakerModel_add 48 = .ok (.getfield 114, 3) := by decide +kernel
theorem d_DiscMakerModel_add_51 : decode b_DiscMakerModel_add 51 = .ok (.bipush 40, 2) := by decide +kernel
theorem d_DiscMakerModel_add_53 : decode b_DiscMakerModel_add 53 = .ok (.if_icmp .eq 27, 3) := by decide +kernel
theorem d_DiscMakerModel_add_56 : decode b_DiscMakerModel_add 56 = .ok (.iload_n 2, 1) := by decide +kernel
theorem d_DiscMakerModel_add_57 : decode b_DiscMakerModel_add 57 = .ok (.ifCond .ne 26, 3) := by decide +kernel
theorem d_DiscMakerModel_add_60 : decode b_DiscMakerModel_add 60 = .ok (.aload_n 0, 1) := by decide +kernel
theorem d_DiscMakerModel_add_61 : decode b_DiscMakerModel_add 61 = .ok (.iconst 0, 1) := by decide +kernel
theorem d_DiscMakerModel_add_62 : decode b_DiscMakerModel_add 62 = .ok (.invokevirtual 146, 3) := by decide +kernel
theorem d_DiscMakerModel_add_65 : decode b_DiscMakerModel_add 65 = .ok (.bipush 12, 2) := by decide +kernel
theorem d_DiscMakerModel_add_67 : decode b_DiscMakerModel_add 67 = .ok (.if_icmp .eq 13, 3) := by decide +kernel
theorem d_DiscMakerModel_add_70 : decode b_DiscMakerModel_add 70 = .ok (.aload_n 0, 1) := by decide +kernel
theorem d_DiscMakerModel_add_71 : decode b_DiscMakerModel_add 71 = .ok (.iload_n 1, 1) := by decide +kernel
theorem d_DiscMakerModel_add_72 : decode b_DiscMakerModel_add 72 = .ok (.invokevirtual 150, 3) := by decide +kernel
theorem d_DiscMakerModel_add_75 : decode b_DiscMakerModel_add 75 = .ok (.bipush 7, 2) := by decide +kernel
theorem d_DiscMakerModel_add_77 : decode b_DiscMakerModel_add 77 = .ok (.if_icmp .ne 6, 3) := by decide +kernel
theorem d_DiscMakerModel_add_80 : decode b_DiscMakerModel_add 80 = .ok (.bipush (-3), 2) := by decide +kernel
theorem d_DiscMakerModel_add_82 : decode b_DiscMakerModel_add 82 = .ok (.ireturn, 1) := by decide +kernel
theorem d_DiscMakerModel_add_83 : decode b_DiscMakerModel_add 83 = .ok (.aload_n 0, 1) := by decide +kernel
theorem d_DiscMakerModel_add_84 : decode b_DiscMakerModel_add 84 = .ok (.getfield 114, 3) := by decide +kernel
theorem d_DiscMakerModel_add_87 : decode b_DiscMakerModel_add 87 = .ok (.istore 6, 2) := by decide +kernel
theorem d_DiscMakerModel_add_89 : decode b_DiscMakerModel_add 89 = .ok (.aload_n 0, 1) := by decide +kernel
theorem d_DiscMakerModel_add_90 : decode b_DiscMakerModel_add 90 = .ok (.getfield 13, 3) := by decide +kernel
theorem d_DiscMakerModel_add_93 : decode b_DiscMakerModel_add 93 = .ok (.iload 6, 2) := by decide +kernel
theorem d_DiscMakerModel_add_95 : decode b_DiscMakerModel_add 95 = .ok (.iload_n 2, 1) := by decide +kernel
theorem d_DiscMakerModel_add_96 : decode b_DiscMakerModel_add 96 = .ok (.iastore, 1) := by decide +kernel
theorem d_DiscMakerModel_add_97 : decode b_DiscMakerModel_add 97 = .ok (.aload_n 0, 1) := by decide +kernel
theorem d_DiscMakerModel_add_98 : decode b_DiscMakerModel_add 98 = .ok (.getfield 17, 3) := by decide +kernel
theorem d_DiscMakerModel_add_101 : decode b_DiscMakerModel_add 101 = .ok (.iload 6, 2) := by decide +kernel
theorem d_DiscMakerModel_add_103 : decode b_DiscMakerModel_add 103 = .ok (.iload_n 1, 1) := by decide +kernel
theorem d_DiscMakerModel_add_104 : decode b_DiscMakerModel_add 104 = .ok (.iastore, 1) := by decide +kernel
theorem d_DiscMakerModel_add_105 : decode b_DiscMakerModel_add 105 = .ok (.aload_n 0, 1) := by decide +kernel
theorem d_DiscMakerModel_add_106 : decode b_DiscMakerModel_add 106 = .ok (.getfield 38, 3) := by decide +kernel
theorem d_DiscMakerModel_add_109 : decode b_DiscMakerModel_add 109 = .ok (.iload 6, 2) := by decide +kernel
theorem d_DiscMakerModel_add_111 : decode b_DiscMakerModel_add 111 = .ok (.iload_n 3, 1) := by decide +kernel
theorem d_DiscMakerModel_add_112 : decode b_DiscMakerModel_add 112 = .ok (.iastore, 1) := by decide +kernel
theorem d_DiscMakerModel_add_113 : decode b_DiscMakerModel_add 113 = .ok (.iconst 0, 1) := by decide +kernel
theorem d_DiscMakerModel_add_114 : decode b_DiscMakerModel_add 114 = .ok (.istore 7, 2) := by decide +kernel
theorem d_DiscMakerModel_add_116 : decode b_DiscMakerModel_add 116 = .ok (.iload 7, 2) := by decide +kernel
theorem d_DiscMakerModel_add_118 : decode b_DiscMakerModel_add 118 = .ok (.iload_n 3, 1) := by decide +kernel
theorem d_DiscMakerModel_add_119 : decode b_DiscMakerModel_add 119 = .ok (.if_icmp .ge 29, 3) := by decide +kernel
theorem d_DiscMakerModel_add_122 : decode b_DiscMakerModel_add 122 = .ok (.aload_n 0, 1) := by decide +kernel
theorem d_DiscMakerModel_add_123 : decode b_DiscMakerModel_add 123 = .ok (.getfield 35, 3) := by decide +kernel
theorem d_DiscMakerModel_add_126 : decode b_DiscMakerModel_add 126 = .ok (.bipush 30, 2) := by decide +kernel
theorem d_DiscMakerModel_add_128 : decode b_DiscMakerModel_add 128 = .ok (.iload 6, 2) := by decide +kernel
theorem d_DiscMakerModel_add_130 : decode b_DiscMakerModel_add 130 = .ok (.imul, 1) := by decide +kernel
theorem d_DiscMakerModel_add_131 : decode b_DiscMakerModel_add 131 = .ok (.iload 7, 2) := by decide +kernel
theorem d_DiscMakerModel_add_133 : decode b_DiscMakerModel_add 133 = .ok (.iadd, 1) := by decide +kernel
theorem d_DiscMakerModel_add_134 : decode b_DiscMakerModel_add 134 = .ok (.aload_n 0, 1) := by decide +kernel
theorem d_DiscMakerModel_add_135 : decode b_DiscMakerModel_add 135 = .ok (.getfield 7, 3) := by decide +kernel
theorem d_DiscMakerModel_add_138 : decode b_DiscMakerModel_add 138 = .ok (.iload 7, 2) := by decide +kernel
theorem d_DiscMakerModel_add_140 : decode b_DiscMakerModel_add 140 = .ok (.baload, 1) := by decide +kernel
theorem d_DiscMakerModel_add_141 : decode b_DiscMakerModel_add 141 = .ok (.bastore, 1) := by decide +kernel
theorem d_DiscMakerModel_add_142 : decode b_DiscMakerModel_add 142 = .ok (.iinc 7 1, 3) := by decide +kernel
theorem d_DiscMakerModel_add_145 : decode b_DiscMakerModel_add 145 = .ok (.goto (-29), 3) := by decide +kernel
theorem d_DiscMakerModel_add_148 : decode b_DiscMakerModel_add 148 = .ok (.aload_n 0, 1) := by decide +kernel
theorem d_DiscMakerModel_add_149 : decode b_DiscMakerModel_add 149 = .ok (.getfield 23, 3) := by decide +kernel
theorem d_DiscMakerModel_add_152 : decode b_DiscMakerModel_add 152 = .ok (.iload 6, 2) := by decide +kernel
theorem d_DiscMakerModel_add_154 : decode b_DiscMakerModel_add 154 = .ok (.iconst 0, 1) := by decide +kernel
theorem d_DiscMakerModel_add_155 : decode b_DiscMakerModel_add 155 = .ok (.iastore, 1) := by decide +kernel
theorem d_DiscMakerModel_add_156 : decode b_DiscMakerModel_add 156 = .ok (.aload_n 0, 1) := by decide +kernel
theorem d_DiscMakerModel_add_157 : decode b_DiscMakerModel_add 157 = .ok (.getfield 26, 3) := by decide +kernel
theorem d_DiscMakerModel_add_160 : decode b_DiscMakerModel_add 160 = .ok (.iload 6, 2) := by decide +kernel
theorem d_DiscMakerModel_add_162 : decode b_DiscMakerModel_add 162 = .ok (.iconst 0, 1) := by decide +kernel
theorem d_DiscMakerModel_add_163 : decode b_DiscMakerModel_add 163 = .ok (.iastore, 1) := by decide +kernel
theorem d_DiscMakerModel_add_164 : decode b_DiscMakerModel_add 164 = .ok (.aload_n 0, 1) := by decide +kernel
theorem d_DiscMakerModel_add_165 : decode b_DiscMakerModel_add 165 = .ok (.getfield 29, 3) := by decide +kernel
theorem d_DiscMakerModel_add_168 : decode b_DiscMakerModel_add 168 = .ok (.iload 6, 2) := by decide +kernel
theorem d_DiscMakerModel_add_170 : decode b_DiscMakerModel_add 170 = .ok (.iconst 0, 1) := by decide +kernel
theorem d_DiscMakerModel_add_171 : decode b_DiscMakerModel_add 171 = .ok (.iastore, 1) := by decide +kernel
theorem d_DiscMakerModel_add_172 : decode b_DiscMakerModel_add 172 = .ok (.aload_n 0, 1) := by decide +kernel
theorem d_DiscMakerModel_add_173 : decode b_DiscMakerModel_add 173 = .ok (.getfield 32, 3) := by decide +kernel
theorem d_DiscMakerModel_add_176 : decode b_DiscMakerModel_add 176 = .ok (.iload 6, 2) := by decide +kernel
theorem d_DiscMakerModel_add_178 : decode b_DiscMakerModel_add 178 = .ok (.iconst 0, 1) := by decide +kernel
theorem d_DiscMakerModel_add_179 : decode b_DiscMakerModel_add 179 = .ok (.iastore, 1) := by decide +kernel
theorem d_DiscMakerModel_add_180 : decode b_DiscMakerModel_add 180 = .ok (.aload_n 0, 1) := by decide +kernel
theorem d_DiscMakerModel_add_181 : decode b_DiscMakerModel_add 181 = .ok (.getfield 44, 3) := by decide +kernel
theorem d_DiscMakerModel_add_184 : decode b_DiscMakerModel_add 184 = .ok (.iload 6, 2) := by decide +kernel
theorem d_DiscMakerModel_add_186 : decode b_DiscMakerModel_add 186 = .ok (.iload_n 2, 1) := by decide +kernel
theorem d_DiscMakerModel_add_187 : decode b_DiscMakerModel_add 187 = .ok (.iconst 2, 1) := by decide +kernel
theorem d_DiscMakerModel_add_188 : decode b_DiscMakerModel_add 188 = .ok (.if_icmp .ne 12, 3) := by decide +kernel
theorem d_DiscMakerModel_add_191 : decode b_DiscMakerModel_add 191 = .ok (.iload 5, 2) := by decide +kernel
theorem d_DiscMakerModel_add_193 : decode b_DiscMakerModel_add 193 = .ok (.iload_n 3, 1) := by decide +kernel
theorem d_DiscMakerModel_add_194 : decode b_DiscMakerModel_add 194 = .ok (.isub, 1) := by decide +kernel
theorem d_DiscMakerModel_add_195 : decode b_DiscMakerModel_add 195 = .ok (.iconst 1, 1) := by decide +kernel
theorem d_DiscMakerModel_add_196 : decode b_DiscMakerModel_add 196 = .ok (.isub, 1) := by decide +kernel
theorem d_DiscMakerModel_add_197 : decode b_DiscMakerModel_add 197 = .ok (.goto 4, 3) := by decide +kernel
theorem d_DiscMakerModel_add_200 : decode b_DiscMakerModel_add 200 = .ok (.iconst 0, 1) := by decide +kernel
theorem d_DiscMakerModel_add_201 : decode b_DiscMakerModel_add 201 = .ok (.iastore, 1) := by decide +kernel
theorem d_DiscMakerModel_add_202 : decode b_DiscMakerModel_add 202 = .ok (.iconst 0, 1) := by decide +kernel
theorem d_DiscMakerModel_add_203 : decode b_DiscMakerModel_add 203 = .ok (.istore 7, 2) := by decide +kernel
theorem d_DiscMakerModel_add_205 : decode b_DiscMakerModel_add 205 = .ok (.iload 7, 2) := by decide +kernel
theorem d_DiscMakerModel_add_207 : decode b_DiscMakerModel_add 207 = .ok (.aload_n 0, 1) := by decide +kernel
theorem d_DiscMakerModel_add_208 : decode b_DiscMakerModel_add 208 = .ok (.getfield 44, 3) := by decide +kernel
theorem d_DiscMakerModel_add_211 : decode b_DiscMakerModel_add 211 = .ok (.iload 6, 2) := by decide +kernel
theorem d_DiscMakerModel_add_213 : decode b_DiscMakerModel_add 213 = .ok (.iaload, 1) := by decide +kernel
theorem d_DiscMakerModel_add_214 : decode b_DiscMakerModel_add 214 = .ok (.if_icmp .ge 34, 3) := by decide +kernel
theorem d_DiscMakerModel_add_217 : decode b_DiscMakerModel_add 217 = .ok (.aload_n 0, 1) := by decide +kernel
theorem d_DiscMakerModel_add_218 : decode b_DiscMakerModel_add 218 = .ok (.getfield 41, 3) := by decide +kernel
theorem d_DiscMakerModel_add_221 : decode b_DiscMakerModel_add 221 = .ok (.sipush 200, 3) := by decide +kernel
theorem d_DiscMakerModel_add_224 : decode b_DiscMakerModel_add 224 = .ok (.iload 6, 2) := by decide +kernel
theorem d_DiscMakerModel_add_226 : decode b_DiscMakerModel_add 226 = .ok (.imul, 1) := by decide +kernel
theorem d_DiscMakerModel_add_227 : decode b_DiscMakerModel_add 227 = .ok (.iload 7, 2) := by decide +kernel
theorem d_DiscMakerModel_add_229 : decode b_DiscMakerModel_add 229 = .ok (.iadd, 1) := by decide +kernel
theorem d_DiscMakerModel_add_230 : decode b_DiscMakerModel_add 230 = .ok (.aload_n 0, 1) := by decide +kernel
theorem d_DiscMakerModel_add_231 : decode b_DiscMakerModel_add 231 = .ok (.getfield 7, 3) := by decide +kernel
theorem d_DiscMakerModel_add_234 : decode b_DiscMakerModel_add 234 = .ok (.iload_n 3, 1) := by decide +kernel
theorem d_DiscMakerModel_add_235 : decode b_DiscMakerModel_add 235 = .ok (.iconst 1, 1) := by decide +kernel
theorem d_DiscMakerModel_add_236 : decode b_DiscMakerModel_add 236 = .ok (.iadd, 1) := by decide +kernel
theorem d_DiscMakerModel_add_237 : decode b_DiscMakerModel_add 237 = .ok (.iload 7, 2) := by decide +kernel
theorem d_DiscMakerModel_add_239 : decode b_DiscMakerModel_add 239 = .ok (.iadd, 1) := by decide +kernel
theorem d_DiscMakerModel_add_240 : decode b_DiscMakerModel_add 240 = .ok (.baload, 1) := by decide +kernel
theorem d_DiscMakerModel_add_241 : decode b_DiscMakerModel_add 241 = .ok (.bastore, 1) := by decide +kernel
theorem d_DiscMakerModel_add_242 : decode b_DiscMakerModel_add 242 = .ok (.iinc 7 1, 3) := by decide +kernel
theorem d_DiscMakerModel_add_245 : decode b_DiscMakerModel_add 245 = .ok (.goto (-40), 3) := by decide +kernel
theorem d_DiscMakerModel_add_248 : decode b_DiscMakerModel_add 248 = .ok (.aload_n 0, 1) := by decide +kernel
theorem d_DiscMakerModel_add_249 : decode b_DiscMakerModel_add 249 = .ok (.dup, 1) := by decide +kernel
theorem d_DiscMakerModel_add_250 : decode b_DiscMakerModel_add 250 = .ok (.getfield 114, 3) := by decide +kernel
theorem d_DiscMakerModel_add_253 : decode b_DiscMakerModel_add 253 = .ok (.iconst 1, 1) := by decide +kernel
theorem d_DiscMakerModel_add_254 : decode b_DiscMakerModel_add 254 = .ok (.iadd, 1) := by decide +kernel
theorem d_DiscMakerModel_add_255 : decode b_DiscMakerModel_add 255 = .ok (.putfield 114, 3) := by decide +kernel
theorem d_DiscMakerModel_add_258 : decode b_DiscMakerModel_add 258 = .ok (.iload 6, 2) := by decide +kernel
theorem d_DiscMakerModel_add_260 : decode b_DiscMakerModel_add 260 = .ok (.ireturn, 1) := by decide +kernel
set_option maxHeartbeats 4000000 in
set_option maxRecDepth 100000 in
theorem m_add (l : Launch) (D : va_G) (cB cI cJ cZ cN cF : ClassId) (sz : Nat) (h0 : Nat) (ma : Nat → Nat) (sv_thrown sv_length sv_nodes sv_many sv_directories sv_runsFrom sv_runs sv_read sv_wrong sv_isNamed sv_goes sv_goesSize sv_goesAt sv_targetParts sv_isRoot : Int32) (fX : Nat → Int32) (fK : Nat → Int32) (fP : Nat → Int32) (fO : Nat → Int32) (fG : Nat → Int32) (fSz : Nat → Int32) (fSd : Nat → Int32) (fN : Nat → Int32) (fNS : Nat → Int32) (fT : Nat → Int32) (fTS : Nat → Int32) (x : Int32) (y : Int32) (z : Int32) (w : Int32) (hln : 0 ≤ sv_length.toInt ∧ sv_length.toInt ≤ 400) (hT : TI sv_nodes.toInt fK fP fNS fSz fTS) (hy : 0 ≤ y.toInt ∧ y.toInt ≤ 2) (hz : 0 ≤ z.toInt ∧ z.toInt ≤ sv_length.toInt) (hw : y.toInt = 2 → w.toInt ≠ 0 → 1 ≤ sv_length.toInt - z.toInt - 1 ∧ sv_length.toInt - z.toInt - 1 ≤ 200) : Met l y_DiscMakerModel_add w_DiscMakerModel_add ({ frames := 2, cells := 0, slots := 0, locals := 47 }) (va_Pc [.ref h0, .int x, .int y, .int z, .int w] (fun U => U.heap.size = sz ∧ va_P D CL [(h0, .inr (11, MO ma sv_thrown sv_length sv_nodes sv_many sv_directories sv_runsFrom sv_runs sv_read sv_wrong sv_isNamed sv_goes sv_goesSize sv_goesAt sv_targetParts sv_isRoot)), ((ma 0), .inl (cB, 400, .inl fX)), ((ma 1), .inl (cI, 40, .inl fK)), ((ma 2), .inl (cI, 40, .inl fP)), ((ma 4), .inl (cI, 40, .inl fO)), ((ma 5), .inl (cI, 40, .inl fG)), ((ma 6), .inl (cI, 40, .inl fSz)), ((ma 7), .inl (cI, 40, .inl fSd)), ((ma 8), .inl (cB, 1200, .inl fN)), ((ma 9), .inl (cI, 40, .inl fNS)), ((ma 10), .inl (cB, 8000, .inl fT)), ((ma 11), .inl (cI, 40, .inl fTS))] U.heap ∧ va_K D CL (TY cB cI cJ cZ cN cF) U ∧ NN U ∧ va_D (fun _ => True) [(h0, .inr (11, MO ma sv_thrown sv_length sv_nodes sv_many sv_directories sv_runsFrom sv_runs sv_read sv_wrong sv_isNamed sv_goes sv_goesSize sv_goesAt sv_targetParts sv_isRoot)), ((ma 0), .inl (cB, 400, .inl fX)), ((ma 1), .inl (cI, 40, .inl fK)), ((ma 2), .inl (cI, 40, .inl fP)), ((ma 4), .inl (cI, 40, .inl fO)), ((ma 5), .inl (cI, 40, .inl fG)), ((ma 6), .inl (cI, 40, .inl fSz)), ((ma 7), .inl (cI, 40, .inl fSd)), ((ma 8), .inl (cB, 1200, .inl fN)), ((ma 9), .inl (cI, 40, .inl fNS)), ((ma 10), .inl (cB, 8000, .inl fT)), ((ma 11), .inl (cI, 40, .inl fTS))])) (va_Qi (fun (r : Int32) (u : Int32 × (Nat → Int32) × (Nat → Int32) × (Nat → Int32) × (Nat → Int32) × (Nat → Int32) × (Nat → Int32) × (Nat → Int32) × (Nat → Int32) × (Nat → Int32) × (Nat → Int32)) => match u with | (nd, gK, gP, gO, gG, gSz, gSd, gN, gNS, gT, gTS) => ((r.toInt < 0 ∧ nd.toInt = sv_nodes.toInt) ∨ (r.toInt = sv_nodes.toInt ∧ nd.toInt = sv_nodes.toInt + 1)) ∧ (TI nd.toInt gK gP gNS gSz gTS)) (fun (u : Int32 × (Nat → Int32) × (Nat → Int32) × (Nat → Int32) × (Nat → Int32) × (Nat → Int32) × (Nat → Int32) × (Nat → Int32) × (Nat → Int32) × (Nat → Int32) × (Nat → Int32)) (t : State) => match u with | (nd, gK, gP, gO, gG, gSz, gSd, gN, gNS, gT, gTS) => va_P D CL [(h0, .inr (11, MO ma sv_thrown 0 nd sv_many sv_directories sv_runsFrom sv_runs sv_read sv_wrong sv_isNamed sv_goes sv_goesSize sv_goesAt sv_targetParts sv_isRoot)), ((ma 0), .inl (cB, 400, .inl fX)), ((ma 1), .inl (cI, 40, .inl gK)), ((ma 2), .inl (cI, 40, .inl gP)), ((ma 4), .inl (cI, 40, .inl gO)), ((ma 5), .inl (cI, 40, .inl gG)), ((ma 6), .inl (cI, 40, .inl gSz)), ((ma 7), .inl (cI, 40, .inl gSd)), ((ma 8), .inl (cB, 1200, .inl gN)), ((ma 9), .inl (cI, 40, .inl gNS)), ((ma 10), .inl (cB, 8000, .inl gT)), ((ma 11), .inl (cI, 40, .inl gTS))] t.heap ∧ va_D (va_A [(h0, .inr (11, MO ma sv_thrown sv_length sv_nodes sv_many sv_directories sv_runsFrom sv_runs sv_read sv_wrong sv_isNamed sv_goes sv_goesSize sv_goesAt sv_targetParts sv_isRoot)), ((ma 0), .inl (cB, 400, .inl fX)), ((ma 1), .inl (cI, 40, .inl fK)), ((ma 2), .inl (cI, 40, .inl fP)), ((ma 4), .inl (cI, 40, .inl fO)), ((ma 5), .inl (cI, 40, .inl fG)), ((ma 6), .inl (cI, 40, .inl fSz)), ((ma 7), .inl (cI, 40, .inl fSd)), ((ma 8), .inl (cB, 1200, .inl fN)), ((ma 9), .inl (cI, 40, .inl fNS)), ((ma 10), .inl (cB, 8000, .inl fT)), ((ma 11), .inl (cI, 40, .inl fTS))] sz) [(h0, .inr (11, MO ma sv_thrown 0 nd sv_many sv_directories sv_runsFrom sv_runs sv_read sv_wrong sv_isNamed sv_goes sv_goesSize sv_goesAt sv_targetParts sv_isRoot)), ((ma 0), .inl (cB, 400, .inl fX)), ((ma 1), .inl (cI, 40, .inl gK)), ((ma 2), .inl (cI, 40, .inl gP)), ((ma 4), .inl (cI, 40, .inl gO)), ((ma 5), .inl (cI, 40, .inl gG)), ((ma 6), .inl (cI, 40, .inl gSz)), ((ma 7), .inl (cI, 40, .inl gSd)), ((ma 8), .inl (cB, 1200, .inl gN)), ((ma 9), .inl (cI, 40, .inl gNS)), ((ma 10), .inl (cB, 8000, .inl gT)), ((ma 11), .inl (cI, 40, .inl gTS))]) (va_A [(h0, .inr (11, MO ma sv_thrown sv_length sv_nodes sv_many sv_directories sv_runsFrom sv_runs sv_read sv_wrong sv_isNamed sv_goes sv_goesSize sv_goesAt sv_targetParts sv_isRoot)), ((ma 0), .inl (cB, 400, .inl fX)), ((ma 1), .inl (cI, 40, .inl fK)), ((ma 2), .inl (cI, 40, .inl fP)), ((ma 4), .inl (cI, 40, .inl fO)), ((ma 5), .inl (cI, 40, .inl fG)), ((ma 6), .inl (cI, 40, .inl fSz)), ((ma 7), .inl (cI, 40, .inl fSd)), ((ma 8), .inl (cB, 1200, .inl fN)), ((ma 9), .inl (cI, 40, .inl fNS)), ((ma 10), .inl (cB, 8000, .inl fT)), ((ma 11), .inl (cI, 40, .inl fTS))] sz)) 0 0 (va_A [(h0, .inr (11, MO ma sv_thrown sv_length sv_nodes sv_many sv_directories sv_runsFrom sv_runs sv_read sv_wrong sv_isNamed sv_goes sv_goesSize sv_goesAt sv_targetParts sv_isRoot)), ((ma 0), .inl (cB, 400, .inl fX)), ((ma 1), .inl (cI, 40, .inl fK)), ((ma 2), .inl (cI, 40, .inl fP)), ((ma 4), .inl (cI, 40, .inl fO)), ((ma 5), .inl (cI, 40, .inl fG)), ((ma 6), .inl (cI, 40, .inl fSz)), ((ma 7), .inl (cI, 40, .inl fSd)), ((ma 8), .inl (cB, 1200, .inl fN)), ((ma 9), .inl (cI, 40, .inl fNS)), ((ma 10), .inl (cB, 8000, .inl fT)), ((ma 11), .inl (cI, 40, .inl fTS))] sz) := by
  refine Met.ofW (cc := b_DiscMakerModel_add) (maxL := 8) (ret := some .int) (by decide) rfl ?_
  intro p e s m args below meth c s₁ B hml hv
  obtain ⟨rfl, hsz, hP, hK, hN, hD0⟩ := hv
  have hx := B.exec
  have hb := B.bytes
  have hr := B.returns
  have hts := atoms_spec (ws := w_DiscMakerModel_add) B.pre
  have ht9 := fun (w : Cond) (h : w ∈ lw_g) => hts w (List.mem_cons_of_mem _ h)
  have hown : s.vm.findClass "DiscMakerModel" = some m.cls := findClass_of_methodNamed B.named
  have hlocks := B.notSynchronized
  subst hsz
  have hD := hD0.self (sz := s.heap.size)
  generalize hAe : va_A [(h0, .inr (11, MO ma sv_thrown sv_length sv_nodes sv_many sv_directories sv_runsFrom sv_runs sv_read sv_wrong sv_isNamed sv_goes sv_goesSize sv_goesAt sv_targetParts sv_isRoot)), ((ma 0), .inl (cB, 400, .inl fX)), ((ma 1), .inl (cI, 40, .inl fK)), ((ma 2), .inl (cI, 40, .inl fP)), ((ma 4), .inl (cI, 40, .inl fO)), ((ma 5), .inl (cI, 40, .inl fG)), ((ma 6), .inl (cI, 40, .inl fSz)), ((ma 7), .inl (cI, 40, .inl fSd)), ((ma 8), .inl (cB, 1200, .inl fN)), ((ma 9), .inl (cI, 40, .inl fNS)), ((ma 10), .inl (cB, 8000, .inl fT)), ((ma 11), .inl (cI, 40, .inl fTS))] s.heap.size = A at hD ⊢
  have hA : ∀ q : Nat, s.heap.size ≤ q → A q := fun q h => by rw [← hAe]; exact Or.inr h
  have hS : va_S A s.heap s.heap [] := va_S.rf
  have hP : va_P D CL [(h0, .inr (11, MO ma sv_thrown sv_length sv_nodes sv_many sv_directories sv_runsFrom sv_runs sv_read sv_wrong sv_isNamed sv_goes sv_goesSize sv_goesAt sv_targetParts sv_isRoot)), ((ma 0), .inl (cB, 400, .inl fX)), ((ma 1), .inl (cI, 40, .inl fK)), ((ma 2), .inl (cI, 40, .inl fP)), ((ma 4), .inl (cI, 40, .inl fO)), ((ma 5), .inl (cI, 40, .inl fG)), ((ma 6), .inl (cI, 40, .inl fSz)), ((ma 7), .inl (cI, 40, .inl fSd)), ((ma 8), .inl (cB, 1200, .inl fN)), ((ma 9), .inl (cI, 40, .inl fNS)), ((ma 10), .inl (cB, 8000, .inl fT)), ((ma 11), .inl (cI, 40, .inl fTS))] s.heap := hP
  have hl := lv_entry [.ref h0, .int x, .int y, .int z, .int w] (n := 8) (Nat.le_of_ble_eq_true rfl)
  rw [lg_entry_eq]
  generalize (lg_sl [.ref h0, .int x, .int y, .int z, .int w] ++ List.replicate (8 - (lg_sl [.ref h0, .int x, .int y, .int z, .int w]).length) Slot.unset).toArray = ls at hl ⊢
  have hl : lv_has ls 8 [(0, .ref h0), (1, .int x), (2, .int y), (3, .int z), (4, .int w)] := hl
  have L_m4 : ((-4) : Int32).toInt = (-4) := by decide
  have L_m3 : ((-3) : Int32).toInt = (-3) := by decide
  have L_m2 : ((-2) : Int32).toInt = (-2) := by decide
  have L_m1 : ((-1) : Int32).toInt = (-1) := by decide
  have L_0 : (0 : Int32).toInt = 0 := by decide
  have L_1 : (1 : Int32).toInt = 1 := by decide
  have L_2 : (2 : Int32).toInt = 2 := by decide
  have L_7 : (7 : Int32).toInt = 7 := by decide
  have L_12 : (12 : Int32).toInt = 12 := by decide
  have L_30 : (30 : Int32).toInt = 30 := by decide
  have L_40 : (40 : Int32).toInt = 40 := by decide
  have L_200 : (200 : Int32).toInt = 200 := by decide
  have hn1 := hT.n1
  have hK : Rg 0 2 40 fK := hT.kk
  have hNS : Rg 0 30 40 fNS := hT.ns
  have hSz : Rg 0 4100 40 fSz := hT.sz
  have hTS : Rg 0 200 40 fTS := hT.ts
  refine lv_aload_n hx hb d_DiscMakerModel_add_0 rfl (lv_at hl 0 rfl) ?_
  refine va_get (D := D) (ci := 11) (v := .int sv_length) (C := "DiscMakerModel") (T := F_DiscMakerModel) (N := 48) hx hb ht9 in_DiscMakerModel hown hK hP 0 rfl rfl 2 (by decide) (ht9 _ k1433) (fun _ h9 => h9) rfl d_DiscMakerModel_add_1 ?_
  refine lv_istore hx hb d_DiscMakerModel_add_4 hl (by decide) rfl (fun ls hl => ?_)
  have hl : lv_has ls 8 [(5, .int sv_length), (0, .ref h0), (1, .int x), (2, .int y), (3, .int z), (4, .int w)] := hl
  refine lv_aload_n hx hb d_DiscMakerModel_add_6 rfl (lv_at hl 1 rfl) ?_
  refine lv_iconst (v := 0) hx hb d_DiscMakerModel_add_7 (by decide) ?_
  refine va_put (D := D) (ci := 11) (v := .int 0) (ty := .int) (C := "DiscMakerModel") (T := F_DiscMakerModel) (N := 48) hx hb ht9 in_DiscMakerModel t_DiscMakerModel t_DiscMakerModel_ok n_DiscMakerModel hown hK hP hD hS 0 rfl rfl 2 (by decide) (ht9 _ k1433) (fun _ h9 => h9) rfl (by decide +kernel) rfl rfl (Nat.le_of_ble_eq_true rfl) d_DiscMakerModel_add_8 (fun H locs hP hD hS => ?_)
  have hP : va_P D CL [(h0, .inr (11, MO ma sv_thrown 0 sv_nodes sv_many sv_directories sv_runsFrom sv_runs sv_read sv_wrong sv_isNamed sv_goes sv_goesSize sv_goesAt sv_targetParts sv_isRoot)), ((ma 0), .inl (cB, 400, .inl fX)), ((ma 1), .inl (cI, 40, .inl fK)), ((ma 2), .inl (cI, 40, .inl fP)), ((ma 4), .inl (cI, 40, .inl fO)), ((ma 5), .inl (cI, 40, .inl fG)), ((ma 6), .inl (cI, 40, .inl fSz)), ((ma 7), .inl (cI, 40, .inl fSd)), ((ma 8), .inl (cB, 1200, .inl fN)), ((ma 9), .inl (cI, 40, .inl fNS)), ((ma 10), .inl (cB, 8000, .inl fT)), ((ma 11), .inl (cI, 40, .inl fTS))] H := hP
  have hD : va_D A [(h0, .inr (11, MO ma sv_thrown 0 sv_nodes sv_many sv_directories sv_runsFrom sv_runs sv_read sv_wrong sv_isNamed sv_goes sv_goesSize sv_goesAt sv_targetParts sv_isRoot)), ((ma 0), .inl (cB, 400, .inl fX)), ((ma 1), .inl (cI, 40, .inl fK)), ((ma 2), .inl (cI, 40, .inl fP)), ((ma 4), .inl (cI, 40, .inl fO)), ((ma 5), .inl (cI, 40, .inl fG)), ((ma 6), .inl (cI, 40, .inl fSz)), ((ma 7), .inl (cI, 40, .inl fSd)), ((ma 8), .inl (cB, 1200, .inl fN)), ((ma 9), .inl (cI, 40, .inl fNS)), ((ma 10), .inl (cB, 8000, .inl fT)), ((ma 11), .inl (cI, 40, .inl fTS))] := hD
  refine lv_iload hx hb d_DiscMakerModel_add_11 (lv_at hl 5 rfl) ?_
  refine lv_if_eq (tgt := 32) hx hb d_DiscMakerModel_add_13 (by decide) (fun h_9 => ?_) (fun h_9 => ?_)
  · skip
    have g13_8 : w.toInt = 0 := (i_eq rfl (by decide)).mp h_9
    refine lv_bipush (v := (-4)) hx hb d_DiscMakerModel_add_32 (by decide) ?_
    have hP9 := hP.sub (ws' := [(h0, .inr (11, MO ma sv_thrown 0 sv_nodes sv_many sv_directories sv_runsFrom sv_runs sv_read sv_wrong sv_isNamed sv_goes sv_goesSize sv_goesAt sv_targetParts sv_isRoot)), ((ma 0), .inl (cB, 400, .inl fX)), ((ma 1), .inl (cI, 40, .inl fK)), ((ma 2), .inl (cI, 40, .inl fP)), ((ma 4), .inl (cI, 40, .inl fO)), ((ma 5), .inl (cI, 40, .inl fG)), ((ma 6), .inl (cI, 40, .inl fSz)), ((ma 7), .inl (cI, 40, .inl fSd)), ((ma 8), .inl (cB, 1200, .inl fN)), ((ma 9), .inl (cI, 40, .inl fNS)), ((ma 10), .inl (cB, 8000, .inl fT)), ((ma 11), .inl (cI, 40, .inl fTS))]) [0, 1, 2, 3, 4, 5, 6, 7, 8, 9, 10, 11] rfl
    have hD9 := hD.sub (ws' := [(h0, .inr (11, MO ma sv_thrown 0 sv_nodes sv_many sv_directories sv_runsFrom sv_runs sv_read sv_wrong sv_isNamed sv_goes sv_goesSize sv_goesAt sv_targetParts sv_isRoot)), ((ma 0), .inl (cB, 400, .inl fX)), ((ma 1), .inl (cI, 40, .inl fK)), ((ma 2), .inl (cI, 40, .inl fP)), ((ma 4), .inl (cI, 40, .inl fO)), ((ma 5), .inl (cI, 40, .inl fG)), ((ma 6), .inl (cI, 40, .inl fSz)), ((ma 7), .inl (cI, 40, .inl fSd)), ((ma 8), .inl (cB, 1200, .inl fN)), ((ma 9), .inl (cI, 40, .inl fNS)), ((ma 10), .inl (cB, 8000, .inl fT)), ((ma 11), .inl (cI, 40, .inl fTS))]) [0, 1, 2, 3, 4, 5, 6, 7, 8, 9, 10, 11] (by decide) rfl
    exact W.iret (v := (-4)) hx hb hr (fun t ht hW => ⟨⟨(-4), (sv_nodes, fK, fP, fO, fG, fSz, fSd, fN, fNS, fT, fTS), rfl, ⟨(by (try dsimp only); first | omega | assumption | trivial), hT⟩, by rw [ht]; exact hP9, hD9⟩, hS.F ht⟩) hS.2.2 d_DiscMakerModel_add_34
  · skip
    have g13_8 : ¬ w.toInt = 0 := fun h8 => h_9 ((i_eq rfl (by decide)).mpr h8)
    refine lv_aload_n hx hb d_DiscMakerModel_add_16 rfl (lv_at hl 1 rfl) ?_
    refine lv_iload_n hx hb d_DiscMakerModel_add_17 rfl (lv_at hl 2 rfl) ?_
    have hPc := hP.sub (ws' := [(h0, .inr (11, MO ma sv_thrown 0 sv_nodes sv_many sv_directories sv_runsFrom sv_runs sv_read sv_wrong sv_isNamed sv_goes sv_goesSize sv_goesAt sv_targetParts sv_isRoot)), ((ma 1), .inl (cI, 40, .inl fK))]) [0, 2] rfl
    have hDc := hD.sub (ws' := [(h0, .inr (11, MO ma sv_thrown 0 sv_nodes sv_many sv_directories sv_runsFrom sv_runs sv_read sv_wrong sv_isNamed sv_goes sv_goesSize sv_goesAt sv_targetParts sv_isRoot)), ((ma 1), .inl (cI, 40, .inl fK))]) [0, 2] (by decide) rfl
    have hFc := va_free (wc := [(h0, .inr (11, MO ma sv_thrown 0 sv_nodes sv_many sv_directories sv_runsFrom sv_runs sv_read sv_wrong sv_isNamed sv_goes sv_goesSize sv_goesAt sv_targetParts sv_isRoot)), ((ma 1), .inl (cI, 40, .inl fK))]) hD hS hA [0, 2] rfl
    have hkc : 0 ≤ 0 := by decide
    have hks : 0 ≤ 0 := by decide
    refine va_calli (va_runV (C := "DiscMakerModel") (As := [.int x]) (rest := []) ⟨hx, hb, hml, hown, hts⟩ (m_isIn l D cB cI cJ cZ cN cF H.size h0 ma sv_thrown 0 sv_nodes sv_many sv_directories sv_runsFrom sv_runs sv_read sv_wrong sv_isNamed sv_goes sv_goesSize sv_goesAt sv_targetParts sv_isRoot fK x (by (try dsimp only); first | omega | assumption | trivial)) (cwV 1 hts (lg_goodV k1598 k1600 k53 k125 kc_DiscMakerModel_isIn) rfl rfl rfl (by decide +kernel) ⟨Nat.le_of_ble_eq_true rfl, Nat.le_of_ble_eq_true rfl⟩) ⟨fun a U g mk q => by obtain ⟨q0, q1, qP, qK, qN, qD⟩ := q; exact ⟨q0, q1, qP, va_K.moved (u := U) (U := U.calling g mk a) (Vm.Alike.refl U.vm) qK, qN.calling, qD⟩, va_recv hK hP (ci := 11) (q0 := 0) rfl rfl, fun U hU hW => ⟨rfl, by rw [hU], by rw [hU]; exact hPc, va_K.moved hW.alike hK, NN.warm hW hN, hDc.weaken (fun _ _ _ _ => trivial)⟩⟩ rfl rfl hl.1 rfl (lv_room (Nat.le_of_ble_eq_true rfl)) d_DiscMakerModel_add_18 ⟨hkc, hks⟩) hS (fun q _ h => hFc q h) hFc (fun r1 u t H1 locs ht hvm hp_r1 hB hz1 hk1 hS => ?_)
    obtain ⟨hP1, hD1⟩ := hB
    rw [ht] at hP1
    obtain ⟨hP, hD⟩ := va_join (wr := [((ma 0), .inl (cB, 400, .inl fX)), ((ma 2), .inl (cI, 40, .inl fP)), ((ma 4), .inl (cI, 40, .inl fO)), ((ma 5), .inl (cI, 40, .inl fG)), ((ma 6), .inl (cI, 40, .inl fSz)), ((ma 7), .inl (cI, 40, .inl fSd)), ((ma 8), .inl (cB, 1200, .inl fN)), ((ma 9), .inl (cI, 40, .inl fNS)), ((ma 10), .inl (cB, 8000, .inl fT)), ((ma 11), .inl (cI, 40, .inl fTS))]) (w1 := [(h0, .inr (11, MO ma sv_thrown 0 sv_nodes sv_many sv_directories sv_runsFrom sv_runs sv_read sv_wrong sv_isNamed sv_goes sv_goesSize sv_goesAt sv_targetParts sv_isRoot)), ((ma 1), .inl (cI, 40, .inl fK))]) hP hD [0, 2] [1, 3, 4, 5, 6, 7, 8, 9, 10, 11] rfl rfl (by decide) (by decide) hk1 hFc hP1 hD1
    clear hPc hDc hFc hP1 hD1 hk1 hz1
    generalize H1 = H at hP hS ⊢
    have hP : va_P D CL [((ma 0), .inl (cB, 400, .inl fX)), ((ma 2), .inl (cI, 40, .inl fP)), ((ma 4), .inl (cI, 40, .inl fO)), ((ma 5), .inl (cI, 40, .inl fG)), ((ma 6), .inl (cI, 40, .inl fSz)), ((ma 7), .inl (cI, 40, .inl fSd)), ((ma 8), .inl (cB, 1200, .inl fN)), ((ma 9), .inl (cI, 40, .inl fNS)), ((ma 10), .inl (cB, 8000, .inl fT)), ((ma 11), .inl (cI, 40, .inl fTS)), (h0, .inr (11, MO ma sv_thrown 0 sv_nodes sv_many sv_directories sv_runsFrom sv_runs sv_read sv_wrong sv_isNamed sv_goes sv_goesSize sv_goesAt sv_targetParts sv_isRoot)), ((ma 1), .inl (cI, 40, .inl fK))] H := hP
    have hD : va_D A [((ma 0), .inl (cB, 400, .inl fX)), ((ma 2), .inl (cI, 40, .inl fP)), ((ma 4), .inl (cI, 40, .inl fO)), ((ma 5), .inl (cI, 40, .inl fG)), ((ma 6), .inl (cI, 40, .inl fSz)), ((ma 7), .inl (cI, 40, .inl fSd)), ((ma 8), .inl (cB, 1200, .inl fN)), ((ma 9), .inl (cI, 40, .inl fNS)), ((ma 10), .inl (cB, 8000, .inl fT)), ((ma 11), .inl (cI, 40, .inl fTS)), (h0, .inr (11, MO ma sv_thrown 0 sv_nodes sv_many sv_directories sv_runsFrom sv_runs sv_read sv_wrong sv_isNamed sv_goes sv_goesSize sv_goesAt sv_targetParts sv_isRoot)), ((ma 1), .inl (cI, 40, .inl fK))] := hD
    try dsimp only at hp_r1
    obtain ⟨hr_2, hi_3⟩ := hp_r1
    refine lv_if_eq (tgt := 32) hx hb d_DiscMakerModel_add_21 (by decide) (fun h_9 => ?_) (fun h_9 => ?_)
    · skip
      have g21_14 : r1.toInt = 0 := (i_eq rfl (by decide)).mp h_9
      refine lv_bipush (v := (-4)) hx hb d_DiscMakerModel_add_32 (by decide) ?_
      have hP9 := hP.sub (ws' := [(h0, .inr (11, MO ma sv_thrown 0 sv_nodes sv_many sv_directories sv_runsFrom sv_runs sv_read sv_wrong sv_isNamed sv_goes sv_goesSize sv_goesAt sv_targetParts sv_isRoot)), ((ma 0), .inl (cB, 400, .inl fX)), ((ma 1), .inl (cI, 40, .inl fK)), ((ma 2), .inl (cI, 40, .inl fP)), ((ma 4), .inl (cI, 40, .inl fO)), ((ma 5), .inl (cI, 40, .inl fG)), ((ma 6), .inl (cI, 40, .inl fSz)), ((ma 7), .inl (cI, 40, .inl fSd)), ((ma 8), .inl (cB, 1200, .inl fN)), ((ma 9), .inl (cI, 40, .inl fNS)), ((ma 10), .inl (cB, 8000, .inl fT)), ((ma 11), .inl (cI, 40, .inl fTS))]) [10, 0, 11, 1, 2, 3, 4, 5, 6, 7, 8, 9] rfl
      have hD9 := hD.sub (ws' := [(h0, .inr (11, MO ma sv_thrown 0 sv_nodes sv_many sv_directories sv_runsFrom sv_runs sv_read sv_wrong sv_isNamed sv_goes sv_goesSize sv_goesAt sv_targetParts sv_isRoot)), ((ma 0), .inl (cB, 400, .inl fX)), ((ma 1), .inl (cI, 40, .inl fK)), ((ma 2), .inl (cI, 40, .inl fP)), ((ma 4), .inl (cI, 40, .inl fO)), ((ma 5), .inl (cI, 40, .inl fG)), ((ma 6), .inl (cI, 40, .inl fSz)), ((ma 7), .inl (cI, 40, .inl fSd)), ((ma 8), .inl (cB, 1200, .inl fN)), ((ma 9), .inl (cI, 40, .inl fNS)), ((ma 10), .inl (cB, 8000, .inl fT)), ((ma 11), .inl (cI, 40, .inl fTS))]) [10, 0, 11, 1, 2, 3, 4, 5, 6, 7, 8, 9] (by decide) rfl
      exact W.iret (v := (-4)) hx hb hr (fun t ht hW => ⟨⟨(-4), (sv_nodes, fK, fP, fO, fG, fSz, fSd, fN, fNS, fT, fTS), rfl, ⟨(by (try dsimp only); first | omega | assumption | trivial), hT⟩, by rw [ht]; exact hP9, hD9⟩, hS.F ht⟩) hS.2.2 d_DiscMakerModel_add_34
    · skip
      have g21_14 : ¬ r1.toInt = 0 := fun h8 => h_9 ((i_eq rfl (by decide)).mpr h8)
      have hin := hi_3 (by omega)
      refine lv_aload_n hx hb d_DiscMakerModel_add_24 rfl (lv_at hl 1 rfl) ?_
      refine lv_iload_n hx hb d_DiscMakerModel_add_25 rfl (lv_at hl 4 rfl) ?_
      have hPc := hP.sub (ws' := [(h0, .inr (11, MO ma sv_thrown 0 sv_nodes sv_many sv_directories sv_runsFrom sv_runs sv_read sv_wrong sv_isNamed sv_goes sv_goesSize sv_goesAt sv_targetParts sv_isRoot)), ((ma 0), .inl (cB, 400, .inl fX))]) [10, 0] rfl
      have hDc := hD.sub (ws' := [(h0, .inr (11, MO ma sv_thrown 0 sv_nodes sv_many sv_directories sv_runsFrom sv_runs sv_read sv_wrong sv_isNamed sv_goes sv_goesSize sv_goesAt sv_targetParts sv_isRoot)), ((ma 0), .inl (cB, 400, .inl fX))]) [10, 0] (by decide) rfl
      have hFc := va_free (wc := [(h0, .inr (11, MO ma sv_thrown 0 sv_nodes sv_many sv_directories sv_runsFrom sv_runs sv_read sv_wrong sv_isNamed sv_goes sv_goesSize sv_goesAt sv_targetParts sv_isRoot)), ((ma 0), .inl (cB, 400, .inl fX))]) hD hS hA [10, 0] rfl
      have hkc : 0 ≤ 0 := by decide
      have hks : 0 ≤ 0 := by decide
      refine va_calli (va_runV (C := "DiscMakerModel") (As := [.int z]) (rest := []) ⟨hx, hb, hml, hown, hts⟩ (m_isName l D cB cI cJ cZ cN cF H.size h0 ma sv_thrown 0 sv_nodes sv_many sv_directories sv_runsFrom sv_runs sv_read sv_wrong sv_isNamed sv_goes sv_goesSize sv_goesAt sv_targetParts sv_isRoot fX z) (cwV 1 hts (lg_goodV k1602 k1604 k54 k125 kc_DiscMakerModel_isName) rfl rfl rfl (by decide +kernel) ⟨Nat.le_of_ble_eq_true rfl, Nat.le_of_ble_eq_true rfl⟩) ⟨fun a U g mk q => by obtain ⟨q0, q1, qP, qK, qN, qD⟩ := q; exact ⟨q0, q1, qP, va_K.moved (u := U) (U := U.calling g mk a) (Vm.Alike.refl U.vm) qK, qN.calling, qD⟩, va_recv hK hP (ci := 11) (q0 := 10) rfl rfl, fun U hU hW => ⟨rfl, by rw [hU], by rw [hU]; exact hPc, va_K.moved hW.alike hK, NN.warm hW hN, hDc.weaken (fun _ _ _ _ => trivial)⟩⟩ rfl rfl hl.1 rfl (lv_room (Nat.le_of_ble_eq_true rfl)) d_DiscMakerModel_add_26 ⟨hkc, hks⟩) hS (fun q _ h => hFc q h) hFc (fun r4 u t H1 locs ht hvm hp_r4 hB hz1 hk1 hS => ?_)
      obtain ⟨hP1, hD1⟩ := hB
      rw [ht] at hP1
      obtain ⟨hP, hD⟩ := va_join (wr := [((ma 2), .inl (cI, 40, .inl fP)), ((ma 4), .inl (cI, 40, .inl fO)), ((ma 5), .inl (cI, 40, .inl fG)), ((ma 6), .inl (cI, 40, .inl fSz)), ((ma 7), .inl (cI, 40, .inl fSd)), ((ma 8), .inl (cB, 1200, .inl fN)), ((ma 9), .inl (cI, 40, .inl fNS)), ((ma 10), .inl (cB, 8000, .inl fT)), ((ma 11), .inl (cI, 40, .inl fTS)), ((ma 1), .inl (cI, 40, .inl fK))]) (w1 := [(h0, .inr (11, MO ma sv_thrown 0 sv_nodes sv_many sv_directories sv_runsFrom sv_runs sv_read sv_wrong sv_isNamed sv_goes sv_goesSize sv_goesAt sv_targetParts sv_isRoot)), ((ma 0), .inl (cB, 400, .inl fX))]) hP hD [10, 0] [1, 2, 3, 4, 5, 6, 7, 8, 9, 11] rfl rfl (by decide) (by decide) hk1 hFc hP1 hD1
      clear hPc hDc hFc hP1 hD1 hk1 hz1
      generalize H1 = H at hP hS ⊢
      have hP : va_P D CL [((ma 2), .inl (cI, 40, .inl fP)), ((ma 4), .inl (cI, 40, .inl fO)), ((ma 5), .inl (cI, 40, .inl fG)), ((ma 6), .inl (cI, 40, .inl fSz)), ((ma 7), .inl (cI, 40, .inl fSd)), ((ma 8), .inl (cB, 1200, .inl fN)), ((ma 9), .inl (cI, 40, .inl fNS)), ((ma 10), .inl (cB, 8000, .inl fT)), ((ma 11), .inl (cI, 40, .inl fTS)), ((ma 1), .inl (cI, 40, .inl fK)), (h0, .inr (11, MO ma sv_thrown 0 sv_nodes sv_many sv_directories sv_runsFrom sv_runs sv_read sv_wrong sv_isNamed sv_goes sv_goesSize sv_goesAt sv_targetParts sv_isRoot)), ((ma 0), .inl (cB, 400, .inl fX))] H := hP
      have hD : va_D A [((ma 2), .inl (cI, 40, .inl fP)), ((ma 4), .inl (cI, 40, .inl fO)), ((ma 5), .inl (cI, 40, .inl fG)), ((ma 6), .inl (cI, 40, .inl fSz)), ((ma 7), .inl (cI, 40, .inl fSd)), ((ma 8), .inl (cB, 1200, .inl fN)), ((ma 9), .inl (cI, 40, .inl fNS)), ((ma 10), .inl (cB, 8000, .inl fT)), ((ma 11), .inl (cI, 40, .inl fTS)), ((ma 1), .inl (cI, 40, .inl fK)), (h0, .inr (11, MO ma sv_thrown 0 sv_nodes sv_many sv_directories sv_runsFrom sv_runs sv_read sv_wrong sv_isNamed sv_goes sv_goesSize sv_goesAt sv_targetParts sv_isRoot)), ((ma 0), .inl (cB, 400, .inl fX))] := hD
      try dsimp only at hp_r4
      obtain ⟨hr_5, hn_6⟩ := hp_r4
      refine lv_if_ne (tgt := 35) hx hb d_DiscMakerModel_add_29 (by decide) (fun h_9 => ?_) (fun h_9 => ?_)
      · skip
        have g29_20 : ¬ r4.toInt = 0 := fun h8 => h_9 ((i_eq rfl (by decide)).mpr h8)
        refine lv_aload_n hx hb d_DiscMakerModel_add_35 rfl (lv_at hl 1 rfl) ?_
        refine lv_iload_n hx hb d_DiscMakerModel_add_36 rfl (lv_at hl 2 rfl) ?_
        refine lv_iload_n hx hb d_DiscMakerModel_add_37 rfl (lv_at hl 4 rfl) ?_
        have hPc := hP.sub (ws' := [(h0, .inr (11, MO ma sv_thrown 0 sv_nodes sv_many sv_directories sv_runsFrom sv_runs sv_read sv_wrong sv_isNamed sv_goes sv_goesSize sv_goesAt sv_targetParts sv_isRoot)), ((ma 0), .inl (cB, 400, .inl fX)), ((ma 2), .inl (cI, 40, .inl fP)), ((ma 8), .inl (cB, 1200, .inl fN)), ((ma 9), .inl (cI, 40, .inl fNS))]) [10, 11, 0, 5, 6] rfl
        have hDc := hD.sub (ws' := [(h0, .inr (11, MO ma sv_thrown 0 sv_nodes sv_many sv_directories sv_runsFrom sv_runs sv_read sv_wrong sv_isNamed sv_goes sv_goesSize sv_goesAt sv_targetParts sv_isRoot)), ((ma 0), .inl (cB, 400, .inl fX)), ((ma 2), .inl (cI, 40, .inl fP)), ((ma 8), .inl (cB, 1200, .inl fN)), ((ma 9), .inl (cI, 40, .inl fNS))]) [10, 11, 0, 5, 6] (by decide) rfl
        have hFc := va_free (wc := [(h0, .inr (11, MO ma sv_thrown 0 sv_nodes sv_many sv_directories sv_runsFrom sv_runs sv_read sv_wrong sv_isNamed sv_goes sv_goesSize sv_goesAt sv_targetParts sv_isRoot)), ((ma 0), .inl (cB, 400, .inl fX)), ((ma 2), .inl (cI, 40, .inl fP)), ((ma 8), .inl (cB, 1200, .inl fN)), ((ma 9), .inl (cI, 40, .inl fNS))]) hD hS hA [10, 11, 0, 5, 6] rfl
        have hkc : 0 ≤ 0 := by decide
        have hks : 0 ≤ 0 := by decide
        refine va_calli (va_runV (C := "DiscMakerModel") (As := [.int x, .int z]) (rest := []) ⟨hx, hb, hml, hown, hts⟩ (m_isThere l D cB cI cJ cZ cN cF H.size h0 ma sv_thrown 0 sv_nodes sv_many sv_directories sv_runsFrom sv_runs sv_read sv_wrong sv_isNamed sv_goes sv_goesSize sv_goesAt sv_targetParts sv_isRoot fX fP fN fNS x z (by (try dsimp only); first | omega | assumption | trivial) (by (try dsimp only); first | omega | assumption | trivial) (by (try dsimp only); first | omega | assumption | trivial)) (cwV 2 hts (lg_goodV k1612 k1614 k55 k125 kc_DiscMakerModel_isThere) rfl rfl rfl (by decide +kernel) ⟨Nat.le_of_ble_eq_true rfl, Nat.le_of_ble_eq_true rfl⟩) ⟨fun a U g mk q => by obtain ⟨q0, q1, qP, qK, qN, qD⟩ := q; exact ⟨q0, q1, qP, va_K.moved (u := U) (U := U.calling g mk a) (Vm.Alike.refl U.vm) qK, qN.calling, qD⟩, va_recv hK hP (ci := 11) (q0 := 10) rfl rfl, fun U hU hW => ⟨rfl, by rw [hU], by rw [hU]; exact hPc, va_K.moved hW.alike hK, NN.warm hW hN, hDc.weaken (fun _ _ _ _ => trivial)⟩⟩ rfl rfl hl.1 rfl (lv_room (Nat.le_of_ble_eq_true rfl)) d_DiscMakerModel_add_38 ⟨hkc, hks⟩) hS (fun q _ h => hFc q h) hFc (fun r7 u t H1 locs ht hvm hp_r7 hB hz1 hk1 hS => ?_)
        obtain ⟨hP1, hD1⟩ := hB
        rw [ht] at hP1
        obtain ⟨hP, hD⟩ := va_join (wr := [((ma 4), .inl (cI, 40, .inl fO)), ((ma 5), .inl (cI, 40, .inl fG)), ((ma 6), .inl (cI, 40, .inl fSz)), ((ma 7), .inl (cI, 40, .inl fSd)), ((ma 10), .inl (cB, 8000, .inl fT)), ((ma 11), .inl (cI, 40, .inl fTS)), ((ma 1), .inl (cI, 40, .inl fK))]) (w1 := [(h0, .inr (11, MO ma sv_thrown 0 sv_nodes sv_many sv_directories sv_runsFrom sv_runs sv_read sv_wrong sv_isNamed sv_goes sv_goesSize sv_goesAt sv_targetParts sv_isRoot)), ((ma 0), .inl (cB, 400, .inl fX)), ((ma 2), .inl (cI, 40, .inl fP)), ((ma 8), .inl (cB, 1200, .inl fN)), ((ma 9), .inl (cI, 40, .inl fNS))]) hP hD [10, 11, 0, 5, 6] [1, 2, 3, 4, 7, 8, 9] rfl rfl (by decide) (by decide) hk1 hFc hP1 hD1
        clear hPc hDc hFc hP1 hD1 hk1 hz1
        generalize H1 = H at hP hS ⊢
        have hP : va_P D CL [((ma 4), .inl (cI, 40, .inl fO)), ((ma 5), .inl (cI, 40, .inl fG)), ((ma 6), .inl (cI, 40, .inl fSz)), ((ma 7), .inl (cI, 40, .inl fSd)), ((ma 10), .inl (cB, 8000, .inl fT)), ((ma 11), .inl (cI, 40, .inl fTS)), ((ma 1), .inl (cI, 40, .inl fK)), (h0, .inr (11, MO ma sv_thrown 0 sv_nodes sv_many sv_directories sv_runsFrom sv_runs sv_read sv_wrong sv_isNamed sv_goes sv_goesSize sv_goesAt sv_targetParts sv_isRoot)), ((ma 0), .inl (cB, 400, .inl fX)), ((ma 2), .inl (cI, 40, .inl fP)), ((ma 8), .inl (cB, 1200, .inl fN)), ((ma 9), .inl (cI, 40, .inl fNS))] H := hP
        have hD : va_D A [((ma 4), .inl (cI, 40, .inl fO)), ((ma 5), .inl (cI, 40, .inl fG)), ((ma 6), .inl (cI, 40, .inl fSz)), ((ma 7), .inl (cI, 40, .inl fSd)), ((ma 10), .inl (cB, 8000, .inl fT)), ((ma 11), .inl (cI, 40, .inl fTS)), ((ma 1), .inl (cI, 40, .inl fK)), (h0, .inr (11, MO ma sv_thrown 0 sv_nodes sv_many sv_directories sv_runsFrom sv_runs sv_read sv_wrong sv_isNamed sv_goes sv_goesSize sv_goesAt sv_targetParts sv_isRoot)), ((ma 0), .inl (cB, 400, .inl fX)), ((ma 2), .inl (cI, 40, .inl fP)), ((ma 8), .inl (cB, 1200, .inl fN)), ((ma 9), .inl (cI, 40, .inl fNS))] := hD
        try dsimp only at hp_r7
        have hr_8 := hp_r7
        refine lv_if_eq (tgt := 47) hx hb d_DiscMakerModel_add_41 (by decide) (fun h_9 => ?_) (fun h_9 => ?_)
        · skip
          have g41_25 : r7.toInt = 0 := (i_eq rfl (by decide)).mp h_9
          refine zz_lab (P := fun (lk : Nat) (H : Heap) (locs : List Loc) (ls : Array Slot) (stk : List Value) => lk = 0 ∧ stk = [] ∧ (y.toInt = 0 → cntK fK sv_nodes.toInt.toNat ≠ 12) ∧ (sv_nodes.toInt < 40) ∧ va_P D CL [((ma 4), .inl (cI, 40, .inl fO)), ((ma 5), .inl (cI, 40, .inl fG)), ((ma 6), .inl (cI, 40, .inl fSz)), ((ma 7), .inl (cI, 40, .inl fSd)), ((ma 10), .inl (cB, 8000, .inl fT)), ((ma 11), .inl (cI, 40, .inl fTS)), ((ma 1), .inl (cI, 40, .inl fK)), (h0, .inr (11, MO ma sv_thrown 0 sv_nodes sv_many sv_directories sv_runsFrom sv_runs sv_read sv_wrong sv_isNamed sv_goes sv_goesSize sv_goesAt sv_targetParts sv_isRoot)), ((ma 0), .inl (cB, 400, .inl fX)), ((ma 2), .inl (cI, 40, .inl fP)), ((ma 8), .inl (cB, 1200, .inl fN)), ((ma 9), .inl (cI, 40, .inl fNS))] H ∧ va_D A [((ma 4), .inl (cI, 40, .inl fO)), ((ma 5), .inl (cI, 40, .inl fG)), ((ma 6), .inl (cI, 40, .inl fSz)), ((ma 7), .inl (cI, 40, .inl fSd)), ((ma 10), .inl (cB, 8000, .inl fT)), ((ma 11), .inl (cI, 40, .inl fTS)), ((ma 1), .inl (cI, 40, .inl fK)), (h0, .inr (11, MO ma sv_thrown 0 sv_nodes sv_many sv_directories sv_runsFrom sv_runs sv_read sv_wrong sv_isNamed sv_goes sv_goesSize sv_goesAt sv_targetParts sv_isRoot)), ((ma 0), .inl (cB, 400, .inl fX)), ((ma 2), .inl (cI, 40, .inl fP)), ((ma 8), .inl (cB, 1200, .inl fN)), ((ma 9), .inl (cI, 40, .inl fNS))] ∧ va_S A s.heap H locs ∧ lv_has ls 8 [(0, .ref h0), (1, .int x), (2, .int y), (3, .int z), (4, .int w), (5, .int sv_length)]) 83 ?_ ?_
          · skip
            intro lk ih83 H locs ls stk hI
            obtain ⟨hm83, rfl, hcn, h40, hP, hD, hS, hl⟩ := hI
            refine lv_aload_n hx hb d_DiscMakerModel_add_83 rfl (lv_at hl 0 rfl) ?_
            refine va_get (D := D) (ci := 11) (v := .int sv_nodes) (C := "DiscMakerModel") (T := F_DiscMakerModel) (N := 48) hx hb ht9 in_DiscMakerModel hown hK hP 7 rfl rfl 3 (by decide) (ht9 _ k1434) (fun _ h9 => h9) rfl d_DiscMakerModel_add_84 ?_
            refine lv_istore hx hb d_DiscMakerModel_add_87 hl (by decide) rfl (fun ls hl => ?_)
            have hl : lv_has ls 8 [(6, .int sv_nodes), (0, .ref h0), (1, .int x), (2, .int y), (3, .int z), (4, .int w), (5, .int sv_length)] := hl
            refine lv_aload_n hx hb d_DiscMakerModel_add_89 rfl (lv_at hl 1 rfl) ?_
            refine va_get (D := D) (ci := 11) (v := .ref (ma 1)) (C := "DiscMakerModel") (T := F_DiscMakerModel) (N := 48) hx hb ht9 in_DiscMakerModel hown hK hP 7 rfl rfl 4 (by decide) (ht9 _ k1435) (fun _ h9 => h9) rfl d_DiscMakerModel_add_90 ?_
            refine lv_iload hx hb d_DiscMakerModel_add_93 (lv_at hl 0 rfl) ?_
            refine lv_iload_n hx hb d_DiscMakerModel_add_95 rfl (lv_at hl 3 rfl) ?_
            refine zq_iast hx hb hK hP hD hS 6 1 rfl rfl (vp_in_iff.mpr ⟨by omega, by omega⟩) d_DiscMakerModel_add_96 (fun f9 e_f9 H locs hP hD hS => ?_)
            have hP : va_P D CL [((ma 4), .inl (cI, 40, .inl fO)), ((ma 5), .inl (cI, 40, .inl fG)), ((ma 6), .inl (cI, 40, .inl fSz)), ((ma 7), .inl (cI, 40, .inl fSd)), ((ma 10), .inl (cB, 8000, .inl fT)), ((ma 11), .inl (cI, 40, .inl fTS)), ((ma 1), .inl (cI, 40, .inl f9)), (h0, .inr (11, MO ma sv_thrown 0 sv_nodes sv_many sv_directories sv_runsFrom sv_runs sv_read sv_wrong sv_isNamed sv_goes sv_goesSize sv_goesAt sv_targetParts sv_isRoot)), ((ma 0), .inl (cB, 400, .inl fX)), ((ma 2), .inl (cI, 40, .inl fP)), ((ma 8), .inl (cB, 1200, .inl fN)), ((ma 9), .inl (cI, 40, .inl fNS))] H := hP
            have hD : va_D A [((ma 4), .inl (cI, 40, .inl fO)), ((ma 5), .inl (cI, 40, .inl fG)), ((ma 6), .inl (cI, 40, .inl fSz)), ((ma 7), .inl (cI, 40, .inl fSd)), ((ma 10), .inl (cB, 8000, .inl fT)), ((ma 11), .inl (cI, 40, .inl fTS)), ((ma 1), .inl (cI, 40, .inl f9)), (h0, .inr (11, MO ma sv_thrown 0 sv_nodes sv_many sv_directories sv_runsFrom sv_runs sv_read sv_wrong sv_isNamed sv_goes sv_goesSize sv_goesAt sv_targetParts sv_isRoot)), ((ma 0), .inl (cB, 400, .inl fX)), ((ma 2), .inl (cI, 40, .inl fP)), ((ma 8), .inl (cB, 1200, .inl fN)), ((ma 9), .inl (cI, 40, .inl fNS))] := hD
            have R_f9 : Rg 0 2 40 f9 := Rg_upd e_f9 hK (by omega) (by omega)
            have s_f9 : f9 (sv_nodes).toNatClampNeg = y := by rw [e_f9]; unfold upd; rw [if_pos rfl]
            refine lv_aload_n hx hb d_DiscMakerModel_add_97 rfl (lv_at hl 1 rfl) ?_
            refine va_get (D := D) (ci := 11) (v := .ref (ma 2)) (C := "DiscMakerModel") (T := F_DiscMakerModel) (N := 48) hx hb ht9 in_DiscMakerModel hown hK hP 7 rfl rfl 5 (by decide) (ht9 _ k1436) (fun _ h9 => h9) rfl d_DiscMakerModel_add_98 ?_
            refine lv_iload hx hb d_DiscMakerModel_add_101 (lv_at hl 0 rfl) ?_
            refine lv_iload_n hx hb d_DiscMakerModel_add_103 rfl (lv_at hl 2 rfl) ?_
            refine zq_iast hx hb hK hP hD hS 9 1 rfl rfl (vp_in_iff.mpr ⟨by omega, by omega⟩) d_DiscMakerModel_add_104 (fun f10 e_f10 H locs hP hD hS => ?_)
            have hP : va_P D CL [((ma 4), .inl (cI, 40, .inl fO)), ((ma 5), .inl (cI, 40, .inl fG)), ((ma 6), .inl (cI, 40, .inl fSz)), ((ma 7), .inl (cI, 40, .inl fSd)), ((ma 10), .inl (cB, 8000, .inl fT)), ((ma 11), .inl (cI, 40, .inl fTS)), ((ma 1), .inl (cI, 40, .inl f9)), (h0, .inr (11, MO ma sv_thrown 0 sv_nodes sv_many sv_directories sv_runsFrom sv_runs sv_read sv_wrong sv_isNamed sv_goes sv_goesSize sv_goesAt sv_targetParts sv_isRoot)), ((ma 0), .inl (cB, 400, .inl fX)), ((ma 2), .inl (cI, 40, .inl f10)), ((ma 8), .inl (cB, 1200, .inl fN)), ((ma 9), .inl (cI, 40, .inl fNS))] H := hP
            have hD : va_D A [((ma 4), .inl (cI, 40, .inl fO)), ((ma 5), .inl (cI, 40, .inl fG)), ((ma 6), .inl (cI, 40, .inl fSz)), ((ma 7), .inl (cI, 40, .inl fSd)), ((ma 10), .inl (cB, 8000, .inl fT)), ((ma 11), .inl (cI, 40, .inl fTS)), ((ma 1), .inl (cI, 40, .inl f9)), (h0, .inr (11, MO ma sv_thrown 0 sv_nodes sv_many sv_directories sv_runsFrom sv_runs sv_read sv_wrong sv_isNamed sv_goes sv_goesSize sv_goesAt sv_targetParts sv_isRoot)), ((ma 0), .inl (cB, 400, .inl fX)), ((ma 2), .inl (cI, 40, .inl f10)), ((ma 8), .inl (cB, 1200, .inl fN)), ((ma 9), .inl (cI, 40, .inl fNS))] := hD
            have s_f10 : f10 (sv_nodes).toNatClampNeg = x := by rw [e_f10]; unfold upd; rw [if_pos rfl]
            refine lv_aload_n hx hb d_DiscMakerModel_add_105 rfl (lv_at hl 1 rfl) ?_
            refine va_get (D := D) (ci := 11) (v := .ref (ma 9)) (C := "DiscMakerModel") (T := F_DiscMakerModel) (N := 48) hx hb ht9 in_DiscMakerModel hown hK hP 7 rfl rfl 12 (by decide) (ht9 _ k1443) (fun _ h9 => h9) rfl d_DiscMakerModel_add_106 ?_
            refine lv_iload hx hb d_DiscMakerModel_add_109 (lv_at hl 0 rfl) ?_
            refine lv_iload_n hx hb d_DiscMakerModel_add_111 rfl (lv_at hl 4 rfl) ?_
            refine zq_iast hx hb hK hP hD hS 11 1 rfl rfl (vp_in_iff.mpr ⟨by omega, by omega⟩) d_DiscMakerModel_add_112 (fun f11 e_f11 H locs hP hD hS => ?_)
            have hP : va_P D CL [((ma 4), .inl (cI, 40, .inl fO)), ((ma 5), .inl (cI, 40, .inl fG)), ((ma 6), .inl (cI, 40, .inl fSz)), ((ma 7), .inl (cI, 40, .inl fSd)), ((ma 10), .inl (cB, 8000, .inl fT)), ((ma 11), .inl (cI, 40, .inl fTS)), ((ma 1), .inl (cI, 40, .inl f9)), (h0, .inr (11, MO ma sv_thrown 0 sv_nodes sv_many sv_directories sv_runsFrom sv_runs sv_read sv_wrong sv_isNamed sv_goes sv_goesSize sv_goesAt sv_targetParts sv_isRoot)), ((ma 0), .inl (cB, 400, .inl fX)), ((ma 2), .inl (cI, 40, .inl f10)), ((ma 8), .inl (cB, 1200, .inl fN)), ((ma 9), .inl (cI, 40, .inl f11))] H := hP
            have hD : va_D A [((ma 4), .inl (cI, 40, .inl fO)), ((ma 5), .inl (cI, 40, .inl fG)), ((ma 6), .inl (cI, 40, .inl fSz)), ((ma 7), .inl (cI, 40, .inl fSd)), ((ma 10), .inl (cB, 8000, .inl fT)), ((ma 11), .inl (cI, 40, .inl fTS)), ((ma 1), .inl (cI, 40, .inl f9)), (h0, .inr (11, MO ma sv_thrown 0 sv_nodes sv_many sv_directories sv_runsFrom sv_runs sv_read sv_wrong sv_isNamed sv_goes sv_goesSize sv_goesAt sv_targetParts sv_isRoot)), ((ma 0), .inl (cB, 400, .inl fX)), ((ma 2), .inl (cI, 40, .inl f10)), ((ma 8), .inl (cB, 1200, .inl fN)), ((ma 9), .inl (cI, 40, .inl f11))] := hD
            have R_f11 : Rg 0 30 40 f11 := Rg_upd e_f11 hNS (by omega) (by omega)
            have s_f11 : f11 (sv_nodes).toNatClampNeg = z := by rw [e_f11]; unfold upd; rw [if_pos rfl]
            refine lv_iconst (v := 0) hx hb d_DiscMakerModel_add_113 (by decide) ?_
            refine lv_istore hx hb d_DiscMakerModel_add_114 hl (by decide) rfl (fun ls hl => ?_)
            have hl : lv_has ls 8 [(7, .int 0), (6, .int sv_nodes), (0, .ref h0), (1, .int x), (2, .int y), (3, .int z), (4, .int w), (5, .int sv_length)] := hl
            refine zz_lab (P := fun (lk : Nat) (H : Heap) (locs : List Loc) (ls : Array Slot) (stk : List Value) => ∃ (kx : Int32) (lN : Nat → Int32) , lk = (z.toInt - kx.toInt).toNat ∧ stk = [] ∧ (0 ≤ kx.toInt ∧ kx.toInt ≤ z.toInt) ∧ va_P D CL [((ma 4), .inl (cI, 40, .inl fO)), ((ma 5), .inl (cI, 40, .inl fG)), ((ma 6), .inl (cI, 40, .inl fSz)), ((ma 7), .inl (cI, 40, .inl fSd)), ((ma 10), .inl (cB, 8000, .inl fT)), ((ma 11), .inl (cI, 40, .inl fTS)), ((ma 1), .inl (cI, 40, .inl f9)), (h0, .inr (11, MO ma sv_thrown 0 sv_nodes sv_many sv_directories sv_runsFrom sv_runs sv_read sv_wrong sv_isNamed sv_goes sv_goesSize sv_goesAt sv_targetParts sv_isRoot)), ((ma 0), .inl (cB, 400, .inl fX)), ((ma 2), .inl (cI, 40, .inl f10)), ((ma 8), .inl (cB, 1200, .inl lN)), ((ma 9), .inl (cI, 40, .inl f11))] H ∧ va_D A [((ma 4), .inl (cI, 40, .inl fO)), ((ma 5), .inl (cI, 40, .inl fG)), ((ma 6), .inl (cI, 40, .inl fSz)), ((ma 7), .inl (cI, 40, .inl fSd)), ((ma 10), .inl (cB, 8000, .inl fT)), ((ma 11), .inl (cI, 40, .inl fTS)), ((ma 1), .inl (cI, 40, .inl f9)), (h0, .inr (11, MO ma sv_thrown 0 sv_nodes sv_many sv_directories sv_runsFrom sv_runs sv_read sv_wrong sv_isNamed sv_goes sv_goesSize sv_goesAt sv_targetParts sv_isRoot)), ((ma 0), .inl (cB, 400, .inl fX)), ((ma 2), .inl (cI, 40, .inl f10)), ((ma 8), .inl (cB, 1200, .inl lN)), ((ma 9), .inl (cI, 40, .inl f11))] ∧ va_S A s.heap H locs ∧ lv_has ls 8 [(0, .ref h0), (1, .int x), (2, .int y), (3, .int z), (4, .int w), (5, .int sv_length), (6, .int sv_nodes), (7, .int kx)]) 116 ?_ ?_
            · skip
              intro lk ih116 H locs ls stk hI
              obtain ⟨kx, lN, hm116, rfl, f1, hP, hD, hS, hl⟩ := hI
              refine lv_iload hx hb d_DiscMakerModel_add_116 (lv_at hl 7 rfl) ?_
              refine lv_iload_n hx hb d_DiscMakerModel_add_118 rfl (lv_at hl 3 rfl) ?_
              refine lv_icmp_ge (tgt := 148) hx hb d_DiscMakerModel_add_119 (by decide) (fun h_9 => ?_) (fun h_9 => ?_)
              · skip
                have g119_48 : z.toInt ≤ kx.toInt := (i_le rfl rfl).mp h_9
                refine lv_aload_n hx hb d_DiscMakerModel_add_148 rfl (lv_at hl 0 rfl) ?_
                refine va_get (D := D) (ci := 11) (v := .ref (ma 4)) (C := "DiscMakerModel") (T := F_DiscMakerModel) (N := 48) hx hb ht9 in_DiscMakerModel hown hK hP 7 rfl rfl 7 (by decide) (ht9 _ k1438) (fun _ h9 => h9) rfl d_DiscMakerModel_add_149 ?_
                refine lv_iload hx hb d_DiscMakerModel_add_152 (lv_at hl 6 rfl) ?_
                refine lv_iconst (v := 0) hx hb d_DiscMakerModel_add_154 (by decide) ?_
                refine zq_iast hx hb hK hP hD hS 0 1 rfl rfl (vp_in_iff.mpr ⟨by omega, by omega⟩) d_DiscMakerModel_add_155 (fun f12 e_f12 H locs hP hD hS => ?_)
                have hP : va_P D CL [((ma 4), .inl (cI, 40, .inl f12)), ((ma 5), .inl (cI, 40, .inl fG)), ((ma 6), .inl (cI, 40, .inl fSz)), ((ma 7), .inl (cI, 40, .inl fSd)), ((ma 10), .inl (cB, 8000, .inl fT)), ((ma 11), .inl (cI, 40, .inl fTS)), ((ma 1), .inl (cI, 40, .inl f9)), (h0, .inr (11, MO ma sv_thrown 0 sv_nodes sv_many sv_directories sv_runsFrom sv_runs sv_read sv_wrong sv_isNamed sv_goes sv_goesSize sv_goesAt sv_targetParts sv_isRoot)), ((ma 0), .inl (cB, 400, .inl fX)), ((ma 2), .inl (cI, 40, .inl f10)), ((ma 8), .inl (cB, 1200, .inl lN)), ((ma 9), .inl (cI, 40, .inl f11))] H := hP
                have hD : va_D A [((ma 4), .inl (cI, 40, .inl f12)), ((ma 5), .inl (cI, 40, .inl fG)), ((ma 6), .inl (cI, 40, .inl fSz)), ((ma 7), .inl (cI, 40, .inl fSd)), ((ma 10), .inl (cB, 8000, .inl fT)), ((ma 11), .inl (cI, 40, .inl fTS)), ((ma 1), .inl (cI, 40, .inl f9)), (h0, .inr (11, MO ma sv_thrown 0 sv_nodes sv_many sv_directories sv_runsFrom sv_runs sv_read sv_wrong sv_isNamed sv_goes sv_goesSize sv_goesAt sv_targetParts sv_isRoot)), ((ma 0), .inl (cB, 400, .inl fX)), ((ma 2), .inl (cI, 40, .inl f10)), ((ma 8), .inl (cB, 1200, .inl lN)), ((ma 9), .inl (cI, 40, .inl f11))] := hD
                have s_f12 : f12 (sv_nodes).toNatClampNeg = 0 := by rw [e_f12]; unfold upd; rw [if_pos rfl]
                refine lv_aload_n hx hb d_DiscMakerModel_add_156 rfl (lv_at hl 0 rfl) ?_
                refine va_get (D := D) (ci := 11) (v := .ref (ma 5)) (C := "DiscMakerModel") (T := F_DiscMakerModel) (N := 48) hx hb ht9 in_DiscMakerModel hown hK hP 7 rfl rfl 8 (by decide) (ht9 _ k1439) (fun _ h9 => h9) rfl d_DiscMakerModel_add_157 ?_
                refine lv_iload hx hb d_DiscMakerModel_add_160 (lv_at hl 6 rfl) ?_
                refine lv_iconst (v := 0) hx hb d_DiscMakerModel_add_162 (by decide) ?_
                refine zq_iast hx hb hK hP hD hS 1 1 rfl rfl (vp_in_iff.mpr ⟨by omega, by omega⟩) d_DiscMakerModel_add_163 (fun f13 e_f13 H locs hP hD hS => ?_)
                have hP : va_P D CL [((ma 4), .inl (cI, 40, .inl f12)), ((ma 5), .inl (cI, 40, .inl f13)), ((ma 6), .inl (cI, 40, .inl fSz)), ((ma 7), .inl (cI, 40, .inl fSd)), ((ma 10), .inl (cB, 8000, .inl fT)), ((ma 11), .inl (cI, 40, .inl fTS)), ((ma 1), .inl (cI, 40, .inl f9)), (h0, .inr (11, MO ma sv_thrown 0 sv_nodes sv_many sv_directories sv_runsFrom sv_runs sv_read sv_wrong sv_isNamed sv_goes sv_goesSize sv_goesAt sv_targetParts sv_isRoot)), ((ma 0), .inl (cB, 400, .inl fX)), ((ma 2), .inl (cI, 40, .inl f10)), ((ma 8), .inl (cB, 1200, .inl lN)), ((ma 9), .inl (cI, 40, .inl f11))] H := hP
                have hD : va_D A [((ma 4), .inl (cI, 40, .inl f12)), ((ma 5), .inl (cI, 40, .inl f13)), ((ma 6), .inl (cI, 40, .inl fSz)), ((ma 7), .inl (cI, 40, .inl fSd)), ((ma 10), .inl (cB, 8000, .inl fT)), ((ma 11), .inl (cI, 40, .inl fTS)), ((ma 1), .inl (cI, 40, .inl f9)), (h0, .inr (11, MO ma sv_thrown 0 sv_nodes sv_many sv_directories sv_runsFrom sv_runs sv_read sv_wrong sv_isNamed sv_goes sv_goesSize sv_goesAt sv_targetParts sv_isRoot)), ((ma 0), .inl (cB, 400, .inl fX)), ((ma 2), .inl (cI, 40, .inl f10)), ((ma 8), .inl (cB, 1200, .inl lN)), ((ma 9), .inl (cI, 40, .inl f11))] := hD
                have s_f13 : f13 (sv_nodes).toNatClampNeg = 0 := by rw [e_f13]; unfold upd; rw [if_pos rfl]
                refine lv_aload_n hx hb d_DiscMakerModel_add_164 rfl (lv_at hl 0 rfl) ?_
                refine va_get (D := D) (ci := 11) (v := .ref (ma 6)) (C := "DiscMakerModel") (T := F_DiscMakerModel) (N := 48) hx hb ht9 in_DiscMakerModel hown hK hP 7 rfl rfl 9 (by decide) (ht9 _ k1440) (fun _ h9 => h9) rfl d_DiscMakerModel_add_165 ?_
                refine lv_iload hx hb d_DiscMakerModel_add_168 (lv_at hl 6 rfl) ?_
                refine lv_iconst (v := 0) hx hb d_DiscMakerModel_add_170 (by decide) ?_
                refine zq_iast hx hb hK hP hD hS 2 1 rfl rfl (vp_in_iff.mpr ⟨by omega, by omega⟩) d_DiscMakerModel_add_171 (fun f14 e_f14 H locs hP hD hS => ?_)
                have hP : va_P D CL [((ma 4), .inl (cI, 40, .inl f12)), ((ma 5), .inl (cI, 40, .inl f13)), ((ma 6), .inl (cI, 40, .inl f14)), ((ma 7), .inl (cI, 40, .inl fSd)), ((ma 10), .inl (cB, 8000, .inl fT)), ((ma 11), .inl (cI, 40, .inl fTS)), ((ma 1), .inl (cI, 40, .inl f9)), (h0, .inr (11, MO ma sv_thrown 0 sv_nodes sv_many sv_directories sv_runsFrom sv_runs sv_read sv_wrong sv_isNamed sv_goes sv_goesSize sv_goesAt sv_targetParts sv_isRoot)), ((ma 0), .inl (cB, 400, .inl fX)), ((ma 2), .inl (cI, 40, .inl f10)), ((ma 8), .inl (cB, 1200, .inl lN)), ((ma 9), .inl (cI, 40, .inl f11))] H := hP
                have hD : va_D A [((ma 4), .inl (cI, 40, .inl f12)), ((ma 5), .inl (cI, 40, .inl f13)), ((ma 6), .inl (cI, 40, .inl f14)), ((ma 7), .inl (cI, 40, .inl fSd)), ((ma 10), .inl (cB, 8000, .inl fT)), ((ma 11), .inl (cI, 40, .inl fTS)), ((ma 1), .inl (cI, 40, .inl f9)), (h0, .inr (11, MO ma sv_thrown 0 sv_nodes sv_many sv_directories sv_runsFrom sv_runs sv_read sv_wrong sv_isNamed sv_goes sv_goesSize sv_goesAt sv_targetParts sv_isRoot)), ((ma 0), .inl (cB, 400, .inl fX)), ((ma 2), .inl (cI, 40, .inl f10)), ((ma 8), .inl (cB, 1200, .inl lN)), ((ma 9), .inl (cI, 40, .inl f11))] := hD
                have R_f14 : Rg 0 4100 40 f14 := Rg_upd e_f14 hSz (by omega) (by omega)
                have s_f14 : f14 (sv_nodes).toNatClampNeg = 0 := by rw [e_f14]; unfold upd; rw [if_pos rfl]
                refine lv_aload_n hx hb d_DiscMakerModel_add_172 rfl (lv_at hl 0 rfl) ?_
                refine va_get (D := D) (ci := 11) (v := .ref (ma 7)) (C := "DiscMakerModel") (T := F_DiscMakerModel) (N := 48) hx hb ht9 in_DiscMakerModel hown hK hP 7 rfl rfl 10 (by decide) (ht9 _ k1441) (fun _ h9 => h9) rfl d_DiscMakerModel_add_173 ?_
                refine lv_iload hx hb d_DiscMakerModel_add_176 (lv_at hl 6 rfl) ?_
                refine lv_iconst (v := 0) hx hb d_DiscMakerModel_add_178 (by decide) ?_
                refine zq_iast hx hb hK hP hD hS 3 1 rfl rfl (vp_in_iff.mpr ⟨by omega, by omega⟩) d_DiscMakerModel_add_179 (fun f15 e_f15 H locs hP hD hS => ?_)
                have hP : va_P D CL [((ma 4), .inl (cI, 40, .inl f12)), ((ma 5), .inl (cI, 40, .inl f13)), ((ma 6), .inl (cI, 40, .inl f14)), ((ma 7), .inl (cI, 40, .inl f15)), ((ma 10), .inl (cB, 8000, .inl fT)), ((ma 11), .inl (cI, 40, .inl fTS)), ((ma 1), .inl (cI, 40, .inl f9)), (h0, .inr (11, MO ma sv_thrown 0 sv_nodes sv_many sv_directories sv_runsFrom sv_runs sv_read sv_wrong sv_isNamed sv_goes sv_goesSize sv_goesAt sv_targetParts sv_isRoot)), ((ma 0), .inl (cB, 400, .inl fX)), ((ma 2), .inl (cI, 40, .inl f10)), ((ma 8), .inl (cB, 1200, .inl lN)), ((ma 9), .inl (cI, 40, .inl f11))] H := hP
                have hD : va_D A [((ma 4), .inl (cI, 40, .inl f12)), ((ma 5), .inl (cI, 40, .inl f13)), ((ma 6), .inl (cI, 40, .inl f14)), ((ma 7), .inl (cI, 40, .inl f15)), ((ma 10), .inl (cB, 8000, .inl fT)), ((ma 11), .inl (cI, 40, .inl fTS)), ((ma 1), .inl (cI, 40, .inl f9)), (h0, .inr (11, MO ma sv_thrown 0 sv_nodes sv_many sv_directories sv_runsFrom sv_runs sv_read sv_wrong sv_isNamed sv_goes sv_goesSize sv_goesAt sv_targetParts sv_isRoot)), ((ma 0), .inl (cB, 400, .inl fX)), ((ma 2), .inl (cI, 40, .inl f10)), ((ma 8), .inl (cB, 1200, .inl lN)), ((ma 9), .inl (cI, 40, .inl f11))] := hD
                have s_f15 : f15 (sv_nodes).toNatClampNeg = 0 := by rw [e_f15]; unfold upd; rw [if_pos rfl]
                refine lv_aload_n hx hb d_DiscMakerModel_add_180 rfl (lv_at hl 0 rfl) ?_
                refine va_get (D := D) (ci := 11) (v := .ref (ma 11)) (C := "DiscMakerModel") (T := F_DiscMakerModel) (N := 48) hx hb ht9 in_DiscMakerModel hown hK hP 7 rfl rfl 14 (by decide) (ht9 _ k1445) (fun _ h9 => h9) rfl d_DiscMakerModel_add_181 ?_
                refine lv_iload hx hb d_DiscMakerModel_add_184 (lv_at hl 6 rfl) ?_
                refine lv_iload_n hx hb d_DiscMakerModel_add_186 rfl (lv_at hl 2 rfl) ?_
                refine lv_iconst (v := 2) hx hb d_DiscMakerModel_add_187 (by decide) ?_
                refine lv_icmp_ne (tgt := 200) hx hb d_DiscMakerModel_add_188 (by decide) (fun h_9 => ?_) (fun h_9 => ?_)
                · skip
                  have g188_74 : ¬ y.toInt = 2 := fun h8 => h_9 ((i_eq rfl (by decide)).mpr h8)
                  refine lv_iconst (v := 0) hx hb d_DiscMakerModel_add_200 (by decide) ?_
                  refine zq_iast hx hb hK hP hD hS 5 1 rfl rfl (vp_in_iff.mpr ⟨by omega, by omega⟩) d_DiscMakerModel_add_201 (fun f16 e_f16 H locs hP hD hS => ?_)
                  have hP : va_P D CL [((ma 4), .inl (cI, 40, .inl f12)), ((ma 5), .inl (cI, 40, .inl f13)), ((ma 6), .inl (cI, 40, .inl f14)), ((ma 7), .inl (cI, 40, .inl f15)), ((ma 10), .inl (cB, 8000, .inl fT)), ((ma 11), .inl (cI, 40, .inl f16)), ((ma 1), .inl (cI, 40, .inl f9)), (h0, .inr (11, MO ma sv_thrown 0 sv_nodes sv_many sv_directories sv_runsFrom sv_runs sv_read sv_wrong sv_isNamed sv_goes sv_goesSize sv_goesAt sv_targetParts sv_isRoot)), ((ma 0), .inl (cB, 400, .inl fX)), ((ma 2), .inl (cI, 40, .inl f10)), ((ma 8), .inl (cB, 1200, .inl lN)), ((ma 9), .inl (cI, 40, .inl f11))] H := hP
                  have hD : va_D A [((ma 4), .inl (cI, 40, .inl f12)), ((ma 5), .inl (cI, 40, .inl f13)), ((ma 6), .inl (cI, 40, .inl f14)), ((ma 7), .inl (cI, 40, .inl f15)), ((ma 10), .inl (cB, 8000, .inl fT)), ((ma 11), .inl (cI, 40, .inl f16)), ((ma 1), .inl (cI, 40, .inl f9)), (h0, .inr (11, MO ma sv_thrown 0 sv_nodes sv_many sv_directories sv_runsFrom sv_runs sv_read sv_wrong sv_isNamed sv_goes sv_goesSize sv_goesAt sv_targetParts sv_isRoot)), ((ma 0), .inl (cB, 400, .inl fX)), ((ma 2), .inl (cI, 40, .inl f10)), ((ma 8), .inl (cB, 1200, .inl lN)), ((ma 9), .inl (cI, 40, .inl f11))] := hD
                  have R_f16 : Rg 0 200 40 f16 := Rg_upd e_f16 hTS (by omega) (by omega)
                  have s_f16 : f16 (sv_nodes).toNatClampNeg = 0 := by rw [e_f16]; unfold upd; rw [if_pos rfl]
                  refine lv_iconst (v := 0) hx hb d_DiscMakerModel_add_202 (by decide) ?_
                  refine lv_istore hx hb d_DiscMakerModel_add_203 hl (by decide) rfl (fun ls hl => ?_)
                  have hl : lv_has ls 8 [(7, .int 0), (0, .ref h0), (1, .int x), (2, .int y), (3, .int z), (4, .int w), (5, .int sv_length), (6, .int sv_nodes)] := hl
                  refine zz_lab (P := fun (lk : Nat) (H : Heap) (locs : List Loc) (ls : Array Slot) (stk : List Value) => ∃ (kt : Int32) (lT : Nat → Int32) , lk = (200 - kt.toInt).toNat ∧ stk = [] ∧ (0 ≤ kt.toInt ∧ kt.toInt ≤ 200) ∧ va_P D CL [((ma 4), .inl (cI, 40, .inl f12)), ((ma 5), .inl (cI, 40, .inl f13)), ((ma 6), .inl (cI, 40, .inl f14)), ((ma 7), .inl (cI, 40, .inl f15)), ((ma 10), .inl (cB, 8000, .inl lT)), ((ma 11), .inl (cI, 40, .inl f16)), ((ma 1), .inl (cI, 40, .inl f9)), (h0, .inr (11, MO ma sv_thrown 0 sv_nodes sv_many sv_directories sv_runsFrom sv_runs sv_read sv_wrong sv_isNamed sv_goes sv_goesSize sv_goesAt sv_targetParts sv_isRoot)), ((ma 0), .inl (cB, 400, .inl fX)), ((ma 2), .inl (cI, 40, .inl f10)), ((ma 8), .inl (cB, 1200, .inl lN)), ((ma 9), .inl (cI, 40, .inl f11))] H ∧ va_D A [((ma 4), .inl (cI, 40, .inl f12)), ((ma 5), .inl (cI, 40, .inl f13)), ((ma 6), .inl (cI, 40, .inl f14)), ((ma 7), .inl (cI, 40, .inl f15)), ((ma 10), .inl (cB, 8000, .inl lT)), ((ma 11), .inl (cI, 40, .inl f16)), ((ma 1), .inl (cI, 40, .inl f9)), (h0, .inr (11, MO ma sv_thrown 0 sv_nodes sv_many sv_directories sv_runsFrom sv_runs sv_read sv_wrong sv_isNamed sv_goes sv_goesSize sv_goesAt sv_targetParts sv_isRoot)), ((ma 0), .inl (cB, 400, .inl fX)), ((ma 2), .inl (cI, 40, .inl f10)), ((ma 8), .inl (cB, 1200, .inl lN)), ((ma 9), .inl (cI, 40, .inl f11))] ∧ va_S A s.heap H locs ∧ lv_has ls 8 [(0, .ref h0), (1, .int x), (2, .int y), (3, .int z), (4, .int w), (5, .int sv_length), (6, .int sv_nodes), (7, .int kt)]) 205 ?_ ?_
                  · skip
                    intro lk ih205 H locs ls stk hI
                    obtain ⟨kt, lT, hm205, rfl, f2, hP, hD, hS, hl⟩ := hI
                    refine lv_iload hx hb d_DiscMakerModel_add_205 (lv_at hl 7 rfl) ?_
                    refine lv_aload_n hx hb d_DiscMakerModel_add_207 rfl (lv_at hl 0 rfl) ?_
                    refine va_get (D := D) (ci := 11) (v := .ref (ma 11)) (C := "DiscMakerModel") (T := F_DiscMakerModel) (N := 48) hx hb ht9 in_DiscMakerModel hown hK hP 7 rfl rfl 14 (by decide) (ht9 _ k1445) (fun _ h9 => h9) rfl d_DiscMakerModel_add_208 ?_
                    refine lv_iload hx hb d_DiscMakerModel_add_211 (lv_at hl 6 rfl) ?_
                    refine va_iald hx hb hK hP 5 1 rfl rfl (vp_in_iff.mpr ⟨by omega, by omega⟩) d_DiscMakerModel_add_213 ?_
                    refine lv_topi (fun v17 e_v17 => ?_)
                    have t_v17 : 0 ≤ v17.toInt ∧ v17.toInt ≤ 200 := by
                      rw [e_v17]; exact R_f16 _ (by have := i_cl (a := sv_nodes) (by omega); omega)
                    have q_v17 : v17.toInt = 0 := by rw [e_v17, s_f16]; try decide
                    refine lv_icmp_ge (tgt := 248) hx hb d_DiscMakerModel_add_214 (by decide) (fun h_9 => ?_) (fun h_9 => ?_)
                    · skip
                      have g214_84 : v17.toInt ≤ kt.toInt := (i_le rfl rfl).mp h_9
                      refine lv_aload_n hx hb d_DiscMakerModel_add_248 rfl (lv_at hl 0 rfl) ?_
                      refine lv_dup hx hb d_DiscMakerModel_add_249 rfl ?_
                      refine va_get (D := D) (ci := 11) (v := .int sv_nodes) (C := "DiscMakerModel") (T := F_DiscMakerModel) (N := 48) hx hb ht9 in_DiscMakerModel hown hK hP 7 rfl rfl 3 (by decide) (ht9 _ k1434) (fun _ h9 => h9) rfl d_DiscMakerModel_add_250 ?_
                      refine lv_iconst (v := 1) hx hb d_DiscMakerModel_add_253 (by decide) ?_
                      refine lv_iadd hx hb d_DiscMakerModel_add_254 ?_
                      refine lv_topi (fun v18 e_v18 => ?_)
                      have t_v18 : v18.toInt = sv_nodes.toInt + 1 := by rw [e_v18]; exact i_add rfl (by decide) (by omega) (by omega)
                      refine va_put (D := D) (ci := 11) (v := .int v18) (ty := .int) (C := "DiscMakerModel") (T := F_DiscMakerModel) (N := 48) hx hb ht9 in_DiscMakerModel t_DiscMakerModel t_DiscMakerModel_ok n_DiscMakerModel hown hK hP hD hS 7 rfl rfl 3 (by decide) (ht9 _ k1434) (fun _ h9 => h9) rfl (by decide +kernel) rfl rfl (Nat.le_of_ble_eq_true rfl) d_DiscMakerModel_add_255 (fun H locs hP hD hS => ?_)
                      have hP : va_P D CL [((ma 4), .inl (cI, 40, .inl f12)), ((ma 5), .inl (cI, 40, .inl f13)), ((ma 6), .inl (cI, 40, .inl f14)), ((ma 7), .inl (cI, 40, .inl f15)), ((ma 10), .inl (cB, 8000, .inl lT)), ((ma 11), .inl (cI, 40, .inl f16)), ((ma 1), .inl (cI, 40, .inl f9)), (h0, .inr (11, MO ma sv_thrown 0 v18 sv_many sv_directories sv_runsFrom sv_runs sv_read sv_wrong sv_isNamed sv_goes sv_goesSize sv_goesAt sv_targetParts sv_isRoot)), ((ma 0), .inl (cB, 400, .inl fX)), ((ma 2), .inl (cI, 40, .inl f10)), ((ma 8), .inl (cB, 1200, .inl lN)), ((ma 9), .inl (cI, 40, .inl f11))] H := hP
                      have hD : va_D A [((ma 4), .inl (cI, 40, .inl f12)), ((ma 5), .inl (cI, 40, .inl f13)), ((ma 6), .inl (cI, 40, .inl f14)), ((ma 7), .inl (cI, 40, .inl f15)), ((ma 10), .inl (cB, 8000, .inl lT)), ((ma 11), .inl (cI, 40, .inl f16)), ((ma 1), .inl (cI, 40, .inl f9)), (h0, .inr (11, MO ma sv_thrown 0 v18 sv_many sv_directories sv_runsFrom sv_runs sv_read sv_wrong sv_isNamed sv_goes sv_goesSize sv_goesAt sv_targetParts sv_isRoot)), ((ma 0), .inl (cB, 400, .inl fX)), ((ma 2), .inl (cI, 40, .inl f10)), ((ma 8), .inl (cB, 1200, .inl lN)), ((ma 9), .inl (cI, 40, .inl f11))] := hD
                      refine lv_iload hx hb d_DiscMakerModel_add_258 (lv_at hl 6 rfl) ?_
                      have hP9 := hP.sub (ws' := [(h0, .inr (11, MO ma sv_thrown 0 v18 sv_many sv_directories sv_runsFrom sv_runs sv_read sv_wrong sv_isNamed sv_goes sv_goesSize sv_goesAt sv_targetParts sv_isRoot)), ((ma 0), .inl (cB, 400, .inl fX)), ((ma 1), .inl (cI, 40, .inl f9)), ((ma 2), .inl (cI, 40, .inl f10)), ((ma 4), .inl (cI, 40, .inl f12)), ((ma 5), .inl (cI, 40, .inl f13)), ((ma 6), .inl (cI, 40, .inl f14)), ((ma 7), .inl (cI, 40, .inl f15)), ((ma 8), .inl (cB, 1200, .inl lN)), ((ma 9), .inl (cI, 40, .inl f11)), ((ma 10), .inl (cB, 8000, .inl lT)), ((ma 11), .inl (cI, 40, .inl f16))]) [7, 8, 6, 9, 0, 1, 2, 3, 10, 11, 4, 5] rfl
                      have hD9 := hD.sub (ws' := [(h0, .inr (11, MO ma sv_thrown 0 v18 sv_many sv_directories sv_runsFrom sv_runs sv_read sv_wrong sv_isNamed sv_goes sv_goesSize sv_goesAt sv_targetParts sv_isRoot)), ((ma 0), .inl (cB, 400, .inl fX)), ((ma 1), .inl (cI, 40, .inl f9)), ((ma 2), .inl (cI, 40, .inl f10)), ((ma 4), .inl (cI, 40, .inl f12)), ((ma 5), .inl (cI, 40, .inl f13)), ((ma 6), .inl (cI, 40, .inl f14)), ((ma 7), .inl (cI, 40, .inl f15)), ((ma 8), .inl (cB, 1200, .inl lN)), ((ma 9), .inl (cI, 40, .inl f11)), ((ma 10), .inl (cB, 8000, .inl lT)), ((ma 11), .inl (cI, 40, .inl f16))]) [7, 8, 6, 9, 0, 1, 2, 3, 10, 11, 4, 5] (by decide) rfl
                      exact W.iret (v := sv_nodes) hx hb hr (fun t ht hW => ⟨⟨sv_nodes, (v18, f9, f10, f12, f13, f14, f15, lN, f11, lT, f16), rfl, ⟨(by (try dsimp only); first | omega | assumption | trivial), (by rw [show v18.toInt = sv_nodes.toInt + 1 by omega]; exact TI_push hT (i_cl (a := sv_nodes) (by omega)) (by omega) e_f9 e_f10 e_f11 e_f16 e_f14 (by omega) (by omega) hin.2.2 (by omega) (by omega) (by omega) (by intro h7; have := hcn h7; omega))⟩, by rw [ht]; exact hP9, hD9⟩, hS.F ht⟩) hS.2.2 d_DiscMakerModel_add_260
                    · skip
                      have g214_84 : ¬ v17.toInt ≤ kt.toInt := fun h8 => h_9 ((i_le rfl rfl).mpr h8)
                      refine lv_aload_n hx hb d_DiscMakerModel_add_217 rfl (lv_at hl 0 rfl) ?_
                      refine va_get (D := D) (ci := 11) (v := .ref (ma 10)) (C := "DiscMakerModel") (T := F_DiscMakerModel) (N := 48) hx hb ht9 in_DiscMakerModel hown hK hP 7 rfl rfl 13 (by decide) (ht9 _ k1444) (fun _ h9 => h9) rfl d_DiscMakerModel_add_218 ?_
                      refine lv_sipush (v := 200) hx hb d_DiscMakerModel_add_221 (by decide) ?_
                      refine lv_iload hx hb d_DiscMakerModel_add_224 (lv_at hl 6 rfl) ?_
                      refine lv_imul hx hb d_DiscMakerModel_add_226 ?_
                      refine lv_topi (fun v19 e_v19 => ?_)
                      have t_v19 : v19.toInt = 200 * sv_nodes.toInt := by rw [e_v19]; exact i_mul (by decide) rfl (by omega) (by omega)
                      refine lv_iload hx hb d_DiscMakerModel_add_227 (lv_at hl 7 rfl) ?_
                      refine lv_iadd hx hb d_DiscMakerModel_add_229 ?_
                      refine lv_topi (fun v20 e_v20 => ?_)
                      have t_v20 : v20.toInt = v19.toInt + kt.toInt := by rw [e_v20]; exact i_add rfl rfl (by omega) (by omega)
                      refine lv_aload_n hx hb d_DiscMakerModel_add_230 rfl (lv_at hl 0 rfl) ?_
                      refine va_get (D := D) (ci := 11) (v := .ref (ma 0)) (C := "DiscMakerModel") (T := F_DiscMakerModel) (N := 48) hx hb ht9 in_DiscMakerModel hown hK hP 7 rfl rfl 1 (by decide) (ht9 _ k1432) (fun _ h9 => h9) rfl d_DiscMakerModel_add_231 ?_
                      refine lv_iload_n hx hb d_DiscMakerModel_add_234 rfl (lv_at hl 3 rfl) ?_
                      refine lv_iconst (v := 1) hx hb d_DiscMakerModel_add_235 (by decide) ?_
                      refine lv_iadd hx hb d_DiscMakerModel_add_236 ?_
                      refine lv_topi (fun v21 e_v21 => ?_)
                      have t_v21 : v21.toInt = z.toInt + 1 := by rw [e_v21]; exact i_add rfl (by decide) (by omega) (by omega)
                      refine lv_iload hx hb d_DiscMakerModel_add_237 (lv_at hl 7 rfl) ?_
                      refine lv_iadd hx hb d_DiscMakerModel_add_239 ?_
                      refine lv_topi (fun v22 e_v22 => ?_)
                      have t_v22 : v22.toInt = v21.toInt + kt.toInt := by rw [e_v22]; exact i_add rfl rfl (by omega) (by omega)
                      refine va_bald hx hb hK hP 8 0 rfl rfl (vp_in_iff.mpr ⟨by omega, by omega⟩) d_DiscMakerModel_add_240 ?_
                      refine lv_topi (fun v23 e_v23 => ?_)
                      refine zq_bast hx hb hK hP hD hS 4 0 rfl rfl (vp_in_iff.mpr ⟨by omega, by omega⟩) d_DiscMakerModel_add_241 (fun f24 e_f24 H locs hP hD hS => ?_)
                      have hP : va_P D CL [((ma 4), .inl (cI, 40, .inl f12)), ((ma 5), .inl (cI, 40, .inl f13)), ((ma 6), .inl (cI, 40, .inl f14)), ((ma 7), .inl (cI, 40, .inl f15)), ((ma 10), .inl (cB, 8000, .inl f24)), ((ma 11), .inl (cI, 40, .inl f16)), ((ma 1), .inl (cI, 40, .inl f9)), (h0, .inr (11, MO ma sv_thrown 0 sv_nodes sv_many sv_directories sv_runsFrom sv_runs sv_read sv_wrong sv_isNamed sv_goes sv_goesSize sv_goesAt sv_targetParts sv_isRoot)), ((ma 0), .inl (cB, 400, .inl fX)), ((ma 2), .inl (cI, 40, .inl f10)), ((ma 8), .inl (cB, 1200, .inl lN)), ((ma 9), .inl (cI, 40, .inl f11))] H := hP
                      have hD : va_D A [((ma 4), .inl (cI, 40, .inl f12)), ((ma 5), .inl (cI, 40, .inl f13)), ((ma 6), .inl (cI, 40, .inl f14)), ((ma 7), .inl (cI, 40, .inl f15)), ((ma 10), .inl (cB, 8000, .inl f24)), ((ma 11), .inl (cI, 40, .inl f16)), ((ma 1), .inl (cI, 40, .inl f9)), (h0, .inr (11, MO ma sv_thrown 0 sv_nodes sv_many sv_directories sv_runsFrom sv_runs sv_read sv_wrong sv_isNamed sv_goes sv_goesSize sv_goesAt sv_targetParts sv_isRoot)), ((ma 0), .inl (cB, 400, .inl fX)), ((ma 2), .inl (cI, 40, .inl f10)), ((ma 8), .inl (cB, 1200, .inl lN)), ((ma 9), .inl (cI, 40, .inl f11))] := hD
                      obtain ⟨v25, e_v25⟩ : ∃ z : Int32, z = kt + 1 := ⟨_, rfl⟩
                      refine lv_iinc (v := v25) hx hb d_DiscMakerModel_add_242 hl (k := 7) rfl e_v25.symm (by decide) rfl (fun ls hl => ?_)
                      have t_v25 : v25.toInt = kt.toInt + 1 := by rw [e_v25]; exact i_add rfl (by decide) (by omega) (by omega)
                      have hl : lv_has ls 8 [(7, .int v25), (0, .ref h0), (1, .int x), (2, .int y), (3, .int z), (4, .int w), (5, .int sv_length), (6, .int sv_nodes)] := hl
                      refine lv_goto (tgt := 205) hx hb d_DiscMakerModel_add_245 (by decide) ?_
                      have hP := hP.sub (ws' := [((ma 4), .inl (cI, 40, .inl f12)), ((ma 5), .inl (cI, 40, .inl f13)), ((ma 6), .inl (cI, 40, .inl f14)), ((ma 7), .inl (cI, 40, .inl f15)), ((ma 10), .inl (cB, 8000, .inl f24)), ((ma 11), .inl (cI, 40, .inl f16)), ((ma 1), .inl (cI, 40, .inl f9)), (h0, .inr (11, MO ma sv_thrown 0 sv_nodes sv_many sv_directories sv_runsFrom sv_runs sv_read sv_wrong sv_isNamed sv_goes sv_goesSize sv_goesAt sv_targetParts sv_isRoot)), ((ma 0), .inl (cB, 400, .inl fX)), ((ma 2), .inl (cI, 40, .inl f10)), ((ma 8), .inl (cB, 1200, .inl lN)), ((ma 9), .inl (cI, 40, .inl f11))]) [0, 1, 2, 3, 4, 5, 6, 7, 8, 9, 10, 11] rfl
                      have hD := hD.sub (ws' := [((ma 4), .inl (cI, 40, .inl f12)), ((ma 5), .inl (cI, 40, .inl f13)), ((ma 6), .inl (cI, 40, .inl f14)), ((ma 7), .inl (cI, 40, .inl f15)), ((ma 10), .inl (cB, 8000, .inl f24)), ((ma 11), .inl (cI, 40, .inl f16)), ((ma 1), .inl (cI, 40, .inl f9)), (h0, .inr (11, MO ma sv_thrown 0 sv_nodes sv_many sv_directories sv_runsFrom sv_runs sv_read sv_wrong sv_isNamed sv_goes sv_goesSize sv_goesAt sv_targetParts sv_isRoot)), ((ma 0), .inl (cB, 400, .inl fX)), ((ma 2), .inl (cI, 40, .inl f10)), ((ma 8), .inl (cB, 1200, .inl lN)), ((ma 9), .inl (cI, 40, .inl f11))]) [0, 1, 2, 3, 4, 5, 6, 7, 8, 9, 10, 11] (by decide) rfl
                      have hl := lv_sub hl [1, 2, 3, 4, 5, 6, 7, 0] rfl
                      exact ih205 (_) (by first | omega | (dsimp only; omega)) _ _ _ _ ⟨v25, f24, rfl, rfl, (by (try dsimp only); first | omega | assumption | trivial), hP, hD, hS, hl⟩
                  · skip
                    intro kk205
                    have hP := hP.sub (ws' := [((ma 4), .inl (cI, 40, .inl f12)), ((ma 5), .inl (cI, 40, .inl f13)), ((ma 6), .inl (cI, 40, .inl f14)), ((ma 7), .inl (cI, 40, .inl f15)), ((ma 10), .inl (cB, 8000, .inl fT)), ((ma 11), .inl (cI, 40, .inl f16)), ((ma 1), .inl (cI, 40, .inl f9)), (h0, .inr (11, MO ma sv_thrown 0 sv_nodes sv_many sv_directories sv_runsFrom sv_runs sv_read sv_wrong sv_isNamed sv_goes sv_goesSize sv_goesAt sv_targetParts sv_isRoot)), ((ma 0), .inl (cB, 400, .inl fX)), ((ma 2), .inl (cI, 40, .inl f10)), ((ma 8), .inl (cB, 1200, .inl lN)), ((ma 9), .inl (cI, 40, .inl f11))]) [0, 1, 2, 3, 4, 5, 6, 7, 8, 9, 10, 11] rfl
                    have hD := hD.sub (ws' := [((ma 4), .inl (cI, 40, .inl f12)), ((ma 5), .inl (cI, 40, .inl f13)), ((ma 6), .inl (cI, 40, .inl f14)), ((ma 7), .inl (cI, 40, .inl f15)), ((ma 10), .inl (cB, 8000, .inl fT)), ((ma 11), .inl (cI, 40, .inl f16)), ((ma 1), .inl (cI, 40, .inl f9)), (h0, .inr (11, MO ma sv_thrown 0 sv_nodes sv_many sv_directories sv_runsFrom sv_runs sv_read sv_wrong sv_isNamed sv_goes sv_goesSize sv_goesAt sv_targetParts sv_isRoot)), ((ma 0), .inl (cB, 400, .inl fX)), ((ma 2), .inl (cI, 40, .inl f10)), ((ma 8), .inl (cB, 1200, .inl lN)), ((ma 9), .inl (cI, 40, .inl f11))]) [0, 1, 2, 3, 4, 5, 6, 7, 8, 9, 10, 11] (by decide) rfl
                    have hl := lv_sub hl [1, 2, 3, 4, 5, 6, 7, 0] rfl
                    exact kk205 _ _ _ _ _ ⟨0, fT, rfl, rfl, (by (try dsimp only); first | omega | assumption | trivial), hP, hD, hS, hl⟩
                · skip
                  have g188_74 : y.toInt = 2 := (i_eq rfl (by decide)).mp h_9
                  refine lv_iload hx hb d_DiscMakerModel_add_191 (lv_at hl 5 rfl) ?_
                  refine lv_iload_n hx hb d_DiscMakerModel_add_193 rfl (lv_at hl 3 rfl) ?_
                  refine lv_isub hx hb d_DiscMakerModel_add_194 ?_
                  refine lv_topi (fun v26 e_v26 => ?_)
                  have t_v26 : v26.toInt = sv_length.toInt - z.toInt := by rw [e_v26]; exact i_sub rfl rfl (by omega) (by omega)
                  refine lv_iconst (v := 1) hx hb d_DiscMakerModel_add_195 (by decide) ?_
                  refine lv_isub hx hb d_DiscMakerModel_add_196 ?_
                  refine lv_topi (fun v27 e_v27 => ?_)
                  have t_v27 : v27.toInt = v26.toInt - 1 := by rw [e_v27]; exact i_sub rfl (by decide) (by omega) (by omega)
                  refine lv_goto (tgt := 201) hx hb d_DiscMakerModel_add_197 (by decide) ?_
                  refine zq_iast hx hb hK hP hD hS 5 1 rfl rfl (vp_in_iff.mpr ⟨by omega, by omega⟩) d_DiscMakerModel_add_201 (fun f28 e_f28 H locs hP hD hS => ?_)
                  have hP : va_P D CL [((ma 4), .inl (cI, 40, .inl f12)), ((ma 5), .inl (cI, 40, .inl f13)), ((ma 6), .inl (cI, 40, .inl f14)), ((ma 7), .inl (cI, 40, .inl f15)), ((ma 10), .inl (cB, 8000, .inl fT)), ((ma 11), .inl (cI, 40, .inl f28)), ((ma 1), .inl (cI, 40, .inl f9)), (h0, .inr (11, MO ma sv_thrown 0 sv_nodes sv_many sv_directories sv_runsFrom sv_runs sv_read sv_wrong sv_isNamed sv_goes sv_goesSize sv_goesAt sv_targetParts sv_isRoot)), ((ma 0), .inl (cB, 400, .inl fX)), ((ma 2), .inl (cI, 40, .inl f10)), ((ma 8), .inl (cB, 1200, .inl lN)), ((ma 9), .inl (cI, 40, .inl f11))] H := hP
                  have hD : va_D A [((ma 4), .inl (cI, 40, .inl f12)), ((ma 5), .inl (cI, 40, .inl f13)), ((ma 6), .inl (cI, 40, .inl f14)), ((ma 7), .inl (cI, 40, .inl f15)), ((ma 10), .inl (cB, 8000, .inl fT)), ((ma 11), .inl (cI, 40, .inl f28)), ((ma 1), .inl (cI, 40, .inl f9)), (h0, .inr (11, MO ma sv_thrown 0 sv_nodes sv_many sv_directories sv_runsFrom sv_runs sv_read sv_wrong sv_isNamed sv_goes sv_goesSize sv_goesAt sv_targetParts sv_isRoot)), ((ma 0), .inl (cB, 400, .inl fX)), ((ma 2), .inl (cI, 40, .inl f10)), ((ma 8), .inl (cB, 1200, .inl lN)), ((ma 9), .inl (cI, 40, .inl f11))] := hD
                  have R_f28 : Rg 0 200 40 f28 := Rg_upd e_f28 hTS (by omega) (by omega)
                  have s_f28 : f28 (sv_nodes).toNatClampNeg = v27 := by rw [e_f28]; unfold upd; rw [if_pos rfl]
                  refine lv_iconst (v := 0) hx hb d_DiscMakerModel_add_202 (by decide) ?_
                  refine lv_istore hx hb d_DiscMakerModel_add_203 hl (by decide) rfl (fun ls hl => ?_)
                  have hl : lv_has ls 8 [(7, .int 0), (0, .ref h0), (1, .int x), (2, .int y), (3, .int z), (4, .int w), (5, .int sv_length), (6, .int sv_nodes)] := hl
                  refine zz_lab (P := fun (lk : Nat) (H : Heap) (locs : List Loc) (ls : Array Slot) (stk : List Value) => ∃ (kt : Int32) (lT : Nat → Int32) , lk = (200 - kt.toInt).toNat ∧ stk = [] ∧ (0 ≤ kt.toInt ∧ kt.toInt ≤ 200) ∧ va_P D CL [((ma 4), .inl (cI, 40, .inl f12)), ((ma 5), .inl (cI, 40, .inl f13)), ((ma 6), .inl (cI, 40, .inl f14)), ((ma 7), .inl (cI, 40, .inl f15)), ((ma 10), .inl (cB, 8000, .inl lT)), ((ma 11), .inl (cI, 40, .inl f28)), ((ma 1), .inl (cI, 40, .inl f9)), (h0, .inr (11, MO ma sv_thrown 0 sv_nodes sv_many sv_directories sv_runsFrom sv_runs sv_read sv_wrong sv_isNamed sv_goes sv_goesSize sv_goesAt sv_targetParts sv_isRoot)), ((ma 0), .inl (cB, 400, .inl fX)), ((ma 2), .inl (cI, 40, .inl f10)), ((ma 8), .inl (cB, 1200, .inl lN)), ((ma 9), .inl (cI, 40, .inl f11))] H ∧ va_D A [((ma 4), .inl (cI, 40, .inl f12)), ((ma 5), .inl (cI, 40, .inl f13)), ((ma 6), .inl (cI, 40, .inl f14)), ((ma 7), .inl (cI, 40, .inl f15)), ((ma 10), .inl (cB, 8000, .inl lT)), ((ma 11), .inl (cI, 40, .inl f28)), ((ma 1), .inl (cI, 40, .inl f9)), (h0, .inr (11, MO ma sv_thrown 0 sv_nodes sv_many sv_directories sv_runsFrom sv_runs sv_read sv_wrong sv_isNamed sv_goes sv_goesSize sv_goesAt sv_targetParts sv_isRoot)), ((ma 0), .inl (cB, 400, .inl fX)), ((ma 2), .inl (cI, 40, .inl f10)), ((ma 8), .inl (cB, 1200, .inl lN)), ((ma 9), .inl (cI, 40, .inl f11))] ∧ va_S A s.heap H locs ∧ lv_has ls 8 [(0, .ref h0), (1, .int x), (2, .int y), (3, .int z), (4, .int w), (5, .int sv_length), (6, .int sv_nodes), (7, .int kt)]) 205 ?_ ?_
                  · skip
                    intro lk ih205 H locs ls stk hI
                    obtain ⟨kt, lT, hm205, rfl, f2, hP, hD, hS, hl⟩ := hI
                    refine lv_iload hx hb d_DiscMakerModel_add_205 (lv_at hl 7 rfl) ?_
                    refine lv_aload_n hx hb d_DiscMakerModel_add_207 rfl (lv_at hl 0 rfl) ?_
                    refine va_get (D := D) (ci := 11) (v := .ref (ma 11)) (C := "DiscMakerModel") (T := F_DiscMakerModel) (N := 48) hx hb ht9 in_DiscMakerModel hown hK hP 7 rfl rfl 14 (by decide) (ht9 _ k1445) (fun _ h9 => h9) rfl d_DiscMakerModel_add_208 ?_
                    refine lv_iload hx hb d_DiscMakerModel_add_211 (lv_at hl 6 rfl) ?_
                    refine va_iald hx hb hK hP 5 1 rfl rfl (vp_in_iff.mpr ⟨by omega, by omega⟩) d_DiscMakerModel_add_213 ?_
                    refine lv_topi (fun v29 e_v29 => ?_)
                    have t_v29 : 0 ≤ v29.toInt ∧ v29.toInt ≤ 200 := by
                      rw [e_v29]; exact R_f28 _ (by have := i_cl (a := sv_nodes) (by omega); omega)
                    have q_v29 : v29.toInt = v27.toInt := by rw [e_v29, s_f28]; try decide
                    refine lv_icmp_ge (tgt := 248) hx hb d_DiscMakerModel_add_214 (by decide) (fun h_9 => ?_) (fun h_9 => ?_)
                    · skip
                      have g214_126 : v29.toInt ≤ kt.toInt := (i_le rfl rfl).mp h_9
                      refine lv_aload_n hx hb d_DiscMakerModel_add_248 rfl (lv_at hl 0 rfl) ?_
                      refine lv_dup hx hb d_DiscMakerModel_add_249 rfl ?_
                      refine va_get (D := D) (ci := 11) (v := .int sv_nodes) (C := "DiscMakerModel") (T := F_DiscMakerModel) (N := 48) hx hb ht9 in_DiscMakerModel hown hK hP 7 rfl rfl 3 (by decide) (ht9 _ k1434) (fun _ h9 => h9) rfl d_DiscMakerModel_add_250 ?_
                      refine lv_iconst (v := 1) hx hb d_DiscMakerModel_add_253 (by decide) ?_
                      refine lv_iadd hx hb d_DiscMakerModel_add_254 ?_
                      refine lv_topi (fun v30 e_v30 => ?_)
                      have t_v30 : v30.toInt = sv_nodes.toInt + 1 := by rw [e_v30]; exact i_add rfl (by decide) (by omega) (by omega)
                      refine va_put (D := D) (ci := 11) (v := .int v30) (ty := .int) (C := "DiscMakerModel") (T := F_DiscMakerModel) (N := 48) hx hb ht9 in_DiscMakerModel t_DiscMakerModel t_DiscMakerModel_ok n_DiscMakerModel hown hK hP hD hS 7 rfl rfl 3 (by decide) (ht9 _ k1434) (fun _ h9 => h9) rfl (by decide +kernel) rfl rfl (Nat.le_of_ble_eq_true rfl) d_DiscMakerModel_add_255 (fun H locs hP hD hS => ?_)
                      have hP : va_P D CL [((ma 4), .inl (cI, 40, .inl f12)), ((ma 5), .inl (cI, 40, .inl f13)), ((ma 6), .inl (cI, 40, .inl f14)), ((ma 7), .inl (cI, 40, .inl f15)), ((ma 10), .inl (cB, 8000, .inl lT)), ((ma 11), .inl (cI, 40, .inl f28)), ((ma 1), .inl (cI, 40, .inl f9)), (h0, .inr (11, MO ma sv_thrown 0 v30 sv_many sv_directories sv_runsFrom sv_runs sv_read sv_wrong sv_isNamed sv_goes sv_goesSize sv_goesAt sv_targetParts sv_isRoot)), ((ma 0), .inl (cB, 400, .inl fX)), ((ma 2), .inl (cI, 40, .inl f10)), ((ma 8), .inl (cB, 1200, .inl lN)), ((ma 9), .inl (cI, 40, .inl f11))] H := hP
                      have hD : va_D A [((ma 4), .inl (cI, 40, .inl f12)), ((ma 5), .inl (cI, 40, .inl f13)), ((ma 6), .inl (cI, 40, .inl f14)), ((ma 7), .inl (cI, 40, .inl f15)), ((ma 10), .inl (cB, 8000, .inl lT)), ((ma 11), .inl (cI, 40, .inl f28)), ((ma 1), .inl (cI, 40, .inl f9)), (h0, .inr (11, MO ma sv_thrown 0 v30 sv_many sv_directories sv_runsFrom sv_runs sv_read sv_wrong sv_isNamed sv_goes sv_goesSize sv_goesAt sv_targetParts sv_isRoot)), ((ma 0), .inl (cB, 400, .inl fX)), ((ma 2), .inl (cI, 40, .inl f10)), ((ma 8), .inl (cB, 1200, .inl lN)), ((ma 9), .inl (cI, 40, .inl f11))] := hD
                      refine lv_iload hx hb d_DiscMakerModel_add_258 (lv_at hl 6 rfl) ?_
                      have hP9 := hP.sub (ws' := [(h0, .inr (11, MO ma sv_thrown 0 v30 sv_many sv_directories sv_runsFrom sv_runs sv_read sv_wrong sv_isNamed sv_goes sv_goesSize sv_goesAt sv_targetParts sv_isRoot)), ((ma 0), .inl (cB, 400, .inl fX)), ((ma 1), .inl (cI, 40, .inl f9)), ((ma 2), .inl (cI, 40, .inl f10)), ((ma 4), .inl (cI, 40, .inl f12)), ((ma 5), .inl (cI, 40, .inl f13)), ((ma 6), .inl (cI, 40, .inl f14)), ((ma 7), .inl (cI, 40, .inl f15)), ((ma 8), .inl (cB, 1200, .inl lN)), ((ma 9), .inl (cI, 40, .inl f11)), ((ma 10), .inl (cB, 8000, .inl lT)), ((ma 11), .inl (cI, 40, .inl f28))]) [7, 8, 6, 9, 0, 1, 2, 3, 10, 11, 4, 5] rfl
                      have hD9 := hD.sub (ws' := [(h0, .inr (11, MO ma sv_thrown 0 v30 sv_many sv_directories sv_runsFrom sv_runs sv_read sv_wrong sv_isNamed sv_goes sv_goesSize sv_goesAt sv_targetParts sv_isRoot)), ((ma 0), .inl (cB, 400, .inl fX)), ((ma 1), .inl (cI, 40, .inl f9)), ((ma 2), .inl (cI, 40, .inl f10)), ((ma 4), .inl (cI, 40, .inl f12)), ((ma 5), .inl (cI, 40, .inl f13)), ((ma 6), .inl (cI, 40, .inl f14)), ((ma 7), .inl (cI, 40, .inl f15)), ((ma 8), .inl (cB, 1200, .inl lN)), ((ma 9), .inl (cI, 40, .inl f11)), ((ma 10), .inl (cB, 8000, .inl lT)), ((ma 11), .inl (cI, 40, .inl f28))]) [7, 8, 6, 9, 0, 1, 2, 3, 10, 11, 4, 5] (by decide) rfl
                      exact W.iret (v := sv_nodes) hx hb hr (fun t ht hW => ⟨⟨sv_nodes, (v30, f9, f10, f12, f13, f14, f15, lN, f11, lT, f28), rfl, ⟨(by (try dsimp only); first | omega | assumption | trivial), (by rw [show v30.toInt = sv_nodes.toInt + 1 by omega]; exact TI_push hT (i_cl (a := sv_nodes) (by omega)) (by omega) e_f9 e_f10 e_f11 e_f28 e_f14 (by omega) (by omega) hin.2.2 (by omega) (by omega) (by omega) (by intro h7; have := hcn h7; omega))⟩, by rw [ht]; exact hP9, hD9⟩, hS.F ht⟩) hS.2.2 d_DiscMakerModel_add_260
                    · skip
                      have g214_126 : ¬ v29.toInt ≤ kt.toInt := fun h8 => h_9 ((i_le rfl rfl).mpr h8)
                      refine lv_aload_n hx hb d_DiscMakerModel_add_217 rfl (lv_at hl 0 rfl) ?_
                      refine va_get (D := D) (ci := 11) (v := .ref (ma 10)) (C := "DiscMakerModel") (T := F_DiscMakerModel) (N := 48) hx hb ht9 in_DiscMakerModel hown hK hP 7 rfl rfl 13 (by decide) (ht9 _ k1444) (fun _ h9 => h9) rfl d_DiscMakerModel_add_218 ?_
                      refine lv_sipush (v := 200) hx hb d_DiscMakerModel_add_221 (by decide) ?_
                      refine lv_iload hx hb d_DiscMakerModel_add_224 (lv_at hl 6 rfl) ?_
                      refine lv_imul hx hb d_DiscMakerModel_add_226 ?_
                      refine lv_topi (fun v31 e_v31 => ?_)
                      have t_v31 : v31.toInt = 200 * sv_nodes.toInt := by rw [e_v31]; exact i_mul (by decide) rfl (by omega) (by omega)
                      refine lv_iload hx hb d_DiscMakerModel_add_227 (lv_at hl 7 rfl) ?_
                      refine lv_iadd hx hb d_DiscMakerModel_add_229 ?_
                      refine lv_topi (fun v32 e_v32 => ?_)
                      have t_v32 : v32.toInt = v31.toInt + kt.toInt := by rw [e_v32]; exact i_add rfl rfl (by omega) (by omega)
                      refine lv_aload_n hx hb d_DiscMakerModel_add_230 rfl (lv_at hl 0 rfl) ?_
                      refine va_get (D := D) (ci := 11) (v := .ref (ma 0)) (C := "DiscMakerModel") (T := F_DiscMakerModel) (N := 48) hx hb ht9 in_DiscMakerModel hown hK hP 7 rfl rfl 1 (by decide) (ht9 _ k1432) (fun _ h9 => h9) rfl d_DiscMakerModel_add_231 ?_
                      refine lv_iload_n hx hb d_DiscMakerModel_add_234 rfl (lv_at hl 3 rfl) ?_
                      refine lv_iconst (v := 1) hx hb d_DiscMakerModel_add_235 (by decide) ?_
                      refine lv_iadd hx hb d_DiscMakerModel_add_236 ?_
                      refine lv_topi (fun v33 e_v33 => ?_)
                      have t_v33 : v33.toInt = z.toInt + 1 := by rw [e_v33]; exact i_add rfl (by decide) (by omega) (by omega)
                      refine lv_iload hx hb d_DiscMakerModel_add_237 (lv_at hl 7 rfl) ?_
                      refine lv_iadd hx hb d_DiscMakerModel_add_239 ?_
                      refine lv_topi (fun v34 e_v34 => ?_)
                      have t_v34 : v34.toInt = v33.toInt + kt.toInt := by rw [e_v34]; exact i_add rfl rfl (by omega) (by omega)
                      refine va_bald hx hb hK hP 8 0 rfl rfl (vp_in_iff.mpr ⟨by omega, by omega⟩) d_DiscMakerModel_add_240 ?_
                      refine lv_topi (fun v35 e_v35 => ?_)
                      refine zq_bast hx hb hK hP hD hS 4 0 rfl rfl (vp_in_iff.mpr ⟨by omega, by omega⟩) d_DiscMakerModel_add_241 (fun f36 e_f36 H locs hP hD hS => ?_)
                      have hP : va_P D CL [((ma 4), .inl (cI, 40, .inl f12)), ((ma 5), .inl (cI, 40, .inl f13)), ((ma 6), .inl (cI, 40, .inl f14)), ((ma 7), .inl (cI, 40, .inl f15)), ((ma 10), .inl (cB, 8000, .inl f36)), ((ma 11), .inl (cI, 40, .inl f28)), ((ma 1), .inl (cI, 40, .inl f9)), (h0, .inr (11, MO ma sv_thrown 0 sv_nodes sv_many sv_directories sv_runsFrom sv_runs sv_read sv_wrong sv_isNamed sv_goes sv_goesSize sv_goesAt sv_targetParts sv_isRoot)), ((ma 0), .inl (cB, 400, .inl fX)), ((ma 2), .inl (cI, 40, .inl f10)), ((ma 8), .inl (cB, 1200, .inl lN)), ((ma 9), .inl (cI, 40, .inl f11))] H := hP
                      have hD : va_D A [((ma 4), .inl (cI, 40, .inl f12)), ((ma 5), .inl (cI, 40, .inl f13)), ((ma 6), .inl (cI, 40, .inl f14)), ((ma 7), .inl (cI, 40, .inl f15)), ((ma 10), .inl (cB, 8000, .inl f36)), ((ma 11), .inl (cI, 40, .inl f28)), ((ma 1), .inl (cI, 40, .inl f9)), (h0, .inr (11, MO ma sv_thrown 0 sv_nodes sv_many sv_directories sv_runsFrom sv_runs sv_read sv_wrong sv_isNamed sv_goes sv_goesSize sv_goesAt sv_targetParts sv_isRoot)), ((ma 0), .inl (cB, 400, .inl fX)), ((ma 2), .inl (cI, 40, .inl f10)), ((ma 8), .inl (cB, 1200, .inl lN)), ((ma 9), .inl (cI, 40, .inl f11))] := hD
                      obtain ⟨v37, e_v37⟩ : ∃ z : Int32, z = kt + 1 := ⟨_, rfl⟩
                      refine lv_iinc (v := v37) hx hb d_DiscMakerModel_add_242 hl (k := 7) rfl e_v37.symm (by decide) rfl (fun ls hl => ?_)
                      have t_v37 : v37.toInt = kt.toInt + 1 := by rw [e_v37]; exact i_add rfl (by decide) (by omega) (by omega)
                      have hl : lv_has ls 8 [(7, .int v37), (0, .ref h0), (1, .int x), (2, .int y), (3, .int z), (4, .int w), (5, .int sv_length), (6, .int sv_nodes)] := hl
                      refine lv_goto (tgt := 205) hx hb d_DiscMakerModel_add_245 (by decide) ?_
                      have hP := hP.sub (ws' := [((ma 4), .inl (cI, 40, .inl f12)), ((ma 5), .inl (cI, 40, .inl f13)), ((ma 6), .inl (cI, 40, .inl f14)), ((ma 7), .inl (cI, 40, .inl f15)), ((ma 10), .inl (cB, 8000, .inl f36)), ((ma 11), .inl (cI, 40, .inl f28)), ((ma 1), .inl (cI, 40, .inl f9)), (h0, .inr (11, MO ma sv_thrown 0 sv_nodes sv_many sv_directories sv_runsFrom sv_runs sv_read sv_wrong sv_isNamed sv_goes sv_goesSize sv_goesAt sv_targetParts sv_isRoot)), ((ma 0), .inl (cB, 400, .inl fX)), ((ma 2), .inl (cI, 40, .inl f10)), ((ma 8), .inl (cB, 1200, .inl lN)), ((ma 9), .inl (cI, 40, .inl f11))]) [0, 1, 2, 3, 4, 5, 6, 7, 8, 9, 10, 11] rfl
                      have hD := hD.sub (ws' := [((ma 4), .inl (cI, 40, .inl f12)), ((ma 5), .inl (cI, 40, .inl f13)), ((ma 6), .inl (cI, 40, .inl f14)), ((ma 7), .inl (cI, 40, .inl f15)), ((ma 10), .inl (cB, 8000, .inl f36)), ((ma 11), .inl (cI, 40, .inl f28)), ((ma 1), .inl (cI, 40, .inl f9)), (h0, .inr (11, MO ma sv_thrown 0 sv_nodes sv_many sv_directories sv_runsFrom sv_runs sv_read sv_wrong sv_isNamed sv_goes sv_goesSize sv_goesAt sv_targetParts sv_isRoot)), ((ma 0), .inl (cB, 400, .inl fX)), ((ma 2), .inl (cI, 40, .inl f10)), ((ma 8), .inl (cB, 1200, .inl lN)), ((ma 9), .inl (cI, 40, .inl f11))]) [0, 1, 2, 3, 4, 5, 6, 7, 8, 9, 10, 11] (by decide) rfl
                      have hl := lv_sub hl [1, 2, 3, 4, 5, 6, 7, 0] rfl
                      exact ih205 (_) (by first | omega | (dsimp only; omega)) _ _ _ _ ⟨v37, f36, rfl, rfl, (by (try dsimp only); first | omega | assumption | trivial), hP, hD, hS, hl⟩
                  · skip
                    intro kk205
                    have hP := hP.sub (ws' := [((ma 4), .inl (cI, 40, .inl f12)), ((ma 5), .inl (cI, 40, .inl f13)), ((ma 6), .inl (cI, 40, .inl f14)), ((ma 7), .inl (cI, 40, .inl f15)), ((ma 10), .inl (cB, 8000, .inl fT)), ((ma 11), .inl (cI, 40, .inl f28)), ((ma 1), .inl (cI, 40, .inl f9)), (h0, .inr (11, MO ma sv_thrown 0 sv_nodes sv_many sv_directories sv_runsFrom sv_runs sv_read sv_wrong sv_isNamed sv_goes sv_goesSize sv_goesAt sv_targetParts sv_isRoot)), ((ma 0), .inl (cB, 400, .inl fX)), ((ma 2), .inl (cI, 40, .inl f10)), ((ma 8), .inl (cB, 1200, .inl lN)), ((ma 9), .inl (cI, 40, .inl f11))]) [0, 1, 2, 3, 4, 5, 6, 7, 8, 9, 10, 11] rfl
                    have hD := hD.sub (ws' := [((ma 4), .inl (cI, 40, .inl f12)), ((ma 5), .inl (cI, 40, .inl f13)), ((ma 6), .inl (cI, 40, .inl f14)), ((ma 7), .inl (cI, 40, .inl f15)), ((ma 10), .inl (cB, 8000, .inl fT)), ((ma 11), .inl (cI, 40, .inl f28)), ((ma 1), .inl (cI, 40, .inl f9)), (h0, .inr (11, MO ma sv_thrown 0 sv_nodes sv_many sv_directories sv_runsFrom sv_runs sv_read sv_wrong sv_isNamed sv_goes sv_goesSize sv_goesAt sv_targetParts sv_isRoot)), ((ma 0), .inl (cB, 400, .inl fX)), ((ma 2), .inl (cI, 40, .inl f10)), ((ma 8), .inl (cB, 1200, .inl lN)), ((ma 9), .inl (cI, 40, .inl f11))]) [0, 1, 2, 3, 4, 5, 6, 7, 8, 9, 10, 11] (by decide) rfl
                    have hl := lv_sub hl [1, 2, 3, 4, 5, 6, 7, 0] rfl
                    exact kk205 _ _ _ _ _ ⟨0, fT, rfl, rfl, (by (try dsimp only); first | omega | assumption | trivial), hP, hD, hS, hl⟩
              · skip
                have g119_48 : ¬ z.toInt ≤ kx.toInt := fun h8 => h_9 ((i_le rfl rfl).mpr h8)
                refine lv_aload_n hx hb d_DiscMakerModel_add_122 rfl (lv_at hl 0 rfl) ?_
                refine va_get (D := D) (ci := 11) (v := .ref (ma 8)) (C := "DiscMakerModel") (T := F_DiscMakerModel) (N := 48) hx hb ht9 in_DiscMakerModel hown hK hP 7 rfl rfl 11 (by decide) (ht9 _ k1442) (fun _ h9 => h9) rfl d_DiscMakerModel_add_123 ?_
                refine lv_bipush (v := 30) hx hb d_DiscMakerModel_add_126 (by decide) ?_
                refine lv_iload hx hb d_DiscMakerModel_add_128 (lv_at hl 6 rfl) ?_
                refine lv_imul hx hb d_DiscMakerModel_add_130 ?_
                refine lv_topi (fun v38 e_v38 => ?_)
                have t_v38 : v38.toInt = 30 * sv_nodes.toInt := by rw [e_v38]; exact i_mul (by decide) rfl (by omega) (by omega)
                refine lv_iload hx hb d_DiscMakerModel_add_131 (lv_at hl 7 rfl) ?_
                refine lv_iadd hx hb d_DiscMakerModel_add_133 ?_
                refine lv_topi (fun v39 e_v39 => ?_)
                have t_v39 : v39.toInt = v38.toInt + kx.toInt := by rw [e_v39]; exact i_add rfl rfl (by omega) (by omega)
                refine lv_aload_n hx hb d_DiscMakerModel_add_134 rfl (lv_at hl 0 rfl) ?_
                refine va_get (D := D) (ci := 11) (v := .ref (ma 0)) (C := "DiscMakerModel") (T := F_DiscMakerModel) (N := 48) hx hb ht9 in_DiscMakerModel hown hK hP 7 rfl rfl 1 (by decide) (ht9 _ k1432) (fun _ h9 => h9) rfl d_DiscMakerModel_add_135 ?_
                refine lv_iload hx hb d_DiscMakerModel_add_138 (lv_at hl 7 rfl) ?_
                refine va_bald hx hb hK hP 8 0 rfl rfl (vp_in_iff.mpr ⟨by omega, by omega⟩) d_DiscMakerModel_add_140 ?_
                refine lv_topi (fun v40 e_v40 => ?_)
                refine zq_bast hx hb hK hP hD hS 10 0 rfl rfl (vp_in_iff.mpr ⟨by omega, by omega⟩) d_DiscMakerModel_add_141 (fun f41 e_f41 H locs hP hD hS => ?_)
                have hP : va_P D CL [((ma 4), .inl (cI, 40, .inl fO)), ((ma 5), .inl (cI, 40, .inl fG)), ((ma 6), .inl (cI, 40, .inl fSz)), ((ma 7), .inl (cI, 40, .inl fSd)), ((ma 10), .inl (cB, 8000, .inl fT)), ((ma 11), .inl (cI, 40, .inl fTS)), ((ma 1), .inl (cI, 40, .inl f9)), (h0, .inr (11, MO ma sv_thrown 0 sv_nodes sv_many sv_directories sv_runsFrom sv_runs sv_read sv_wrong sv_isNamed sv_goes sv_goesSize sv_goesAt sv_targetParts sv_isRoot)), ((ma 0), .inl (cB, 400, .inl fX)), ((ma 2), .inl (cI, 40, .inl f10)), ((ma 8), .inl (cB, 1200, .inl f41)), ((ma 9), .inl (cI, 40, .inl f11))] H := hP
                have hD : va_D A [((ma 4), .inl (cI, 40, .inl fO)), ((ma 5), .inl (cI, 40, .inl fG)), ((ma 6), .inl (cI, 40, .inl fSz)), ((ma 7), .inl (cI, 40, .inl fSd)), ((ma 10), .inl (cB, 8000, .inl fT)), ((ma 11), .inl (cI, 40, .inl fTS)), ((ma 1), .inl (cI, 40, .inl f9)), (h0, .inr (11, MO ma sv_thrown 0 sv_nodes sv_many sv_directories sv_runsFrom sv_runs sv_read sv_wrong sv_isNamed sv_goes sv_goesSize sv_goesAt sv_targetParts sv_isRoot)), ((ma 0), .inl (cB, 400, .inl fX)), ((ma 2), .inl (cI, 40, .inl f10)), ((ma 8), .inl (cB, 1200, .inl f41)), ((ma 9), .inl (cI, 40, .inl f11))] := hD
                obtain ⟨v42, e_v42⟩ : ∃ z : Int32, z = kx + 1 := ⟨_, rfl⟩
                refine lv_iinc (v := v42) hx hb d_DiscMakerModel_add_142 hl (k := 7) rfl e_v42.symm (by decide) rfl (fun ls hl => ?_)
                have t_v42 : v42.toInt = kx.toInt + 1 := by rw [e_v42]; exact i_add rfl (by decide) (by omega) (by omega)
                have hl : lv_has ls 8 [(7, .int v42), (0, .ref h0), (1, .int x), (2, .int y), (3, .int z), (4, .int w), (5, .int sv_length), (6, .int sv_nodes)] := hl
                refine lv_goto (tgt := 116) hx hb d_DiscMakerModel_add_145 (by decide) ?_
                have hP := hP.sub (ws' := [((ma 4), .inl (cI, 40, .inl fO)), ((ma 5), .inl (cI, 40, .inl fG)), ((ma 6), .inl (cI, 40, .inl fSz)), ((ma 7), .inl (cI, 40, .inl fSd)), ((ma 10), .inl (cB, 8000, .inl fT)), ((ma 11), .inl (cI, 40, .inl fTS)), ((ma 1), .inl (cI, 40, .inl f9)), (h0, .inr (11, MO ma sv_thrown 0 sv_nodes sv_many sv_directories sv_runsFrom sv_runs sv_read sv_wrong sv_isNamed sv_goes sv_goesSize sv_goesAt sv_targetParts sv_isRoot)), ((ma 0), .inl (cB, 400, .inl fX)), ((ma 2), .inl (cI, 40, .inl f10)), ((ma 8), .inl (cB, 1200, .inl f41)), ((ma 9), .inl (cI, 40, .inl f11))]) [0, 1, 2, 3, 4, 5, 6, 7, 8, 9, 10, 11] rfl
                have hD := hD.sub (ws' := [((ma 4), .inl (cI, 40, .inl fO)), ((ma 5), .inl (cI, 40, .inl fG)), ((ma 6), .inl (cI, 40, .inl fSz)), ((ma 7), .inl (cI, 40, .inl fSd)), ((ma 10), .inl (cB, 8000, .inl fT)), ((ma 11), .inl (cI, 40, .inl fTS)), ((ma 1), .inl (cI, 40, .inl f9)), (h0, .inr (11, MO ma sv_thrown 0 sv_nodes sv_many sv_directories sv_runsFrom sv_runs sv_read sv_wrong sv_isNamed sv_goes sv_goesSize sv_goesAt sv_targetParts sv_isRoot)), ((ma 0), .inl (cB, 400, .inl fX)), ((ma 2), .inl (cI, 40, .inl f10)), ((ma 8), .inl (cB, 1200, .inl f41)), ((ma 9), .inl (cI, 40, .inl f11))]) [0, 1, 2, 3, 4, 5, 6, 7, 8, 9, 10, 11] (by decide) rfl
                have hl := lv_sub hl [1, 2, 3, 4, 5, 6, 7, 0] rfl
                exact ih116 (_) (by first | omega | (dsimp only; omega)) _ _ _ _ ⟨v42, f41, rfl, rfl, (by (try dsimp only); first | omega | assumption | trivial), hP, hD, hS, hl⟩
            · skip
              intro kk116
              have hP := hP.sub (ws' := [((ma 4), .inl (cI, 40, .inl fO)), ((ma 5), .inl (cI, 40, .inl fG)), ((ma 6), .inl (cI, 40, .inl fSz)), ((ma 7), .inl (cI, 40, .inl fSd)), ((ma 10), .inl (cB, 8000, .inl fT)), ((ma 11), .inl (cI, 40, .inl fTS)), ((ma 1), .inl (cI, 40, .inl f9)), (h0, .inr (11, MO ma sv_thrown 0 sv_nodes sv_many sv_directories sv_runsFrom sv_runs sv_read sv_wrong sv_isNamed sv_goes sv_goesSize sv_goesAt sv_targetParts sv_isRoot)), ((ma 0), .inl (cB, 400, .inl fX)), ((ma 2), .inl (cI, 40, .inl f10)), ((ma 8), .inl (cB, 1200, .inl fN)), ((ma 9), .inl (cI, 40, .inl f11))]) [0, 1, 2, 3, 4, 5, 6, 7, 8, 9, 10, 11] rfl
              have hD := hD.sub (ws' := [((ma 4), .inl (cI, 40, .inl fO)), ((ma 5), .inl (cI, 40, .inl fG)), ((ma 6), .inl (cI, 40, .inl fSz)), ((ma 7), .inl (cI, 40, .inl fSd)), ((ma 10), .inl (cB, 8000, .inl fT)), ((ma 11), .inl (cI, 40, .inl fTS)), ((ma 1), .inl (cI, 40, .inl f9)), (h0, .inr (11, MO ma sv_thrown 0 sv_nodes sv_many sv_directories sv_runsFrom sv_runs sv_read sv_wrong sv_isNamed sv_goes sv_goesSize sv_goesAt sv_targetParts sv_isRoot)), ((ma 0), .inl (cB, 400, .inl fX)), ((ma 2), .inl (cI, 40, .inl f10)), ((ma 8), .inl (cB, 1200, .inl fN)), ((ma 9), .inl (cI, 40, .inl f11))]) [0, 1, 2, 3, 4, 5, 6, 7, 8, 9, 10, 11] (by decide) rfl
              have hl := lv_sub hl [2, 3, 4, 5, 6, 7, 1, 0] rfl
              exact kk116 _ _ _ _ _ ⟨0, fN, rfl, rfl, (by (try dsimp only); first | omega | assumption | trivial), hP, hD, hS, hl⟩
          · skip
            intro kk83
            refine lv_aload_n hx hb d_DiscMakerModel_add_47 rfl (lv_at hl 1 rfl) ?_
            refine va_get (D := D) (ci := 11) (v := .int sv_nodes) (C := "DiscMakerModel") (T := F_DiscMakerModel) (N := 48) hx hb ht9 in_DiscMakerModel hown hK hP 7 rfl rfl 3 (by decide) (ht9 _ k1434) (fun _ h9 => h9) rfl d_DiscMakerModel_add_48 ?_
            refine lv_bipush (v := 40) hx hb d_DiscMakerModel_add_51 (by decide) ?_
            refine lv_icmp_eq (tgt := 80) hx hb d_DiscMakerModel_add_53 (by decide) (fun h_9 => ?_) (fun h_9 => ?_)
            · skip
              have g53_172 : sv_nodes.toInt = 40 := (i_eq rfl (by decide)).mp h_9
              refine lv_bipush (v := (-3)) hx hb d_DiscMakerModel_add_80 (by decide) ?_
              have hP9 := hP.sub (ws' := [(h0, .inr (11, MO ma sv_thrown 0 sv_nodes sv_many sv_directories sv_runsFrom sv_runs sv_read sv_wrong sv_isNamed sv_goes sv_goesSize sv_goesAt sv_targetParts sv_isRoot)), ((ma 0), .inl (cB, 400, .inl fX)), ((ma 1), .inl (cI, 40, .inl fK)), ((ma 2), .inl (cI, 40, .inl fP)), ((ma 4), .inl (cI, 40, .inl fO)), ((ma 5), .inl (cI, 40, .inl fG)), ((ma 6), .inl (cI, 40, .inl fSz)), ((ma 7), .inl (cI, 40, .inl fSd)), ((ma 8), .inl (cB, 1200, .inl fN)), ((ma 9), .inl (cI, 40, .inl fNS)), ((ma 10), .inl (cB, 8000, .inl fT)), ((ma 11), .inl (cI, 40, .inl fTS))]) [7, 8, 6, 9, 0, 1, 2, 3, 10, 11, 4, 5] rfl
              have hD9 := hD.sub (ws' := [(h0, .inr (11, MO ma sv_thrown 0 sv_nodes sv_many sv_directories sv_runsFrom sv_runs sv_read sv_wrong sv_isNamed sv_goes sv_goesSize sv_goesAt sv_targetParts sv_isRoot)), ((ma 0), .inl (cB, 400, .inl fX)), ((ma 1), .inl (cI, 40, .inl fK)), ((ma 2), .inl (cI, 40, .inl fP)), ((ma 4), .inl (cI, 40, .inl fO)), ((ma 5), .inl (cI, 40, .inl fG)), ((ma 6), .inl (cI, 40, .inl fSz)), ((ma 7), .inl (cI, 40, .inl fSd)), ((ma 8), .inl (cB, 1200, .inl fN)), ((ma 9), .inl (cI, 40, .inl fNS)), ((ma 10), .inl (cB, 8000, .inl fT)), ((ma 11), .inl (cI, 40, .inl fTS))]) [7, 8, 6, 9, 0, 1, 2, 3, 10, 11, 4, 5] (by decide) rfl
              exact W.iret (v := (-3)) hx hb hr (fun t ht hW => ⟨⟨(-3), (sv_nodes, fK, fP, fO, fG, fSz, fSd, fN, fNS, fT, fTS), rfl, ⟨(by (try dsimp only); first | omega | assumption | trivial), hT⟩, by rw [ht]; exact hP9, hD9⟩, hS.F ht⟩) hS.2.2 d_DiscMakerModel_add_82
            · skip
              have g53_172 : ¬ sv_nodes.toInt = 40 := fun h8 => h_9 ((i_eq rfl (by decide)).mpr h8)
              refine lv_iload_n hx hb d_DiscMakerModel_add_56 rfl (lv_at hl 3 rfl) ?_
              refine lv_if_ne (tgt := 83) hx hb d_DiscMakerModel_add_57 (by decide) (fun h_9 => ?_) (fun h_9 => ?_)
              · skip
                have g57_176 : ¬ y.toInt = 0 := fun h8 => h_9 ((i_eq rfl (by decide)).mpr h8)
                have hP := hP.sub (ws' := [((ma 4), .inl (cI, 40, .inl fO)), ((ma 5), .inl (cI, 40, .inl fG)), ((ma 6), .inl (cI, 40, .inl fSz)), ((ma 7), .inl (cI, 40, .inl fSd)), ((ma 10), .inl (cB, 8000, .inl fT)), ((ma 11), .inl (cI, 40, .inl fTS)), ((ma 1), .inl (cI, 40, .inl fK)), (h0, .inr (11, MO ma sv_thrown 0 sv_nodes sv_many sv_directories sv_runsFrom sv_runs sv_read sv_wrong sv_isNamed sv_goes sv_goesSize sv_goesAt sv_targetParts sv_isRoot)), ((ma 0), .inl (cB, 400, .inl fX)), ((ma 2), .inl (cI, 40, .inl fP)), ((ma 8), .inl (cB, 1200, .inl fN)), ((ma 9), .inl (cI, 40, .inl fNS))]) [0, 1, 2, 3, 4, 5, 6, 7, 8, 9, 10, 11] rfl
                have hD := hD.sub (ws' := [((ma 4), .inl (cI, 40, .inl fO)), ((ma 5), .inl (cI, 40, .inl fG)), ((ma 6), .inl (cI, 40, .inl fSz)), ((ma 7), .inl (cI, 40, .inl fSd)), ((ma 10), .inl (cB, 8000, .inl fT)), ((ma 11), .inl (cI, 40, .inl fTS)), ((ma 1), .inl (cI, 40, .inl fK)), (h0, .inr (11, MO ma sv_thrown 0 sv_nodes sv_many sv_directories sv_runsFrom sv_runs sv_read sv_wrong sv_isNamed sv_goes sv_goesSize sv_goesAt sv_targetParts sv_isRoot)), ((ma 0), .inl (cB, 400, .inl fX)), ((ma 2), .inl (cI, 40, .inl fP)), ((ma 8), .inl (cB, 1200, .inl fN)), ((ma 9), .inl (cI, 40, .inl fNS))]) [0, 1, 2, 3, 4, 5, 6, 7, 8, 9, 10, 11] (by decide) rfl
                have hl := lv_sub hl [1, 2, 3, 4, 5, 0] rfl
                exact kk83 _ _ _ _ _ ⟨rfl, rfl, (by intro h7; omega), (by (try dsimp only); first | omega | assumption | trivial), hP, hD, hS, hl⟩
              · skip
                have g57_176 : y.toInt = 0 := (i_eq rfl (by decide)).mp h_9
                refine lv_aload_n hx hb d_DiscMakerModel_add_60 rfl (lv_at hl 1 rfl) ?_
                refine lv_iconst (v := 0) hx hb d_DiscMakerModel_add_61 (by decide) ?_
                have hPc := hP.sub (ws' := [(h0, .inr (11, MO ma sv_thrown 0 sv_nodes sv_many sv_directories sv_runsFrom sv_runs sv_read sv_wrong sv_isNamed sv_goes sv_goesSize sv_goesAt sv_targetParts sv_isRoot)), ((ma 1), .inl (cI, 40, .inl fK))]) [7, 6] rfl
                have hDc := hD.sub (ws' := [(h0, .inr (11, MO ma sv_thrown 0 sv_nodes sv_many sv_directories sv_runsFrom sv_runs sv_read sv_wrong sv_isNamed sv_goes sv_goesSize sv_goesAt sv_targetParts sv_isRoot)), ((ma 1), .inl (cI, 40, .inl fK))]) [7, 6] (by decide) rfl
                have hFc := va_free (wc := [(h0, .inr (11, MO ma sv_thrown 0 sv_nodes sv_many sv_directories sv_runsFrom sv_runs sv_read sv_wrong sv_isNamed sv_goes sv_goesSize sv_goesAt sv_targetParts sv_isRoot)), ((ma 1), .inl (cI, 40, .inl fK))]) hD hS hA [7, 6] rfl
                have hkc : 0 ≤ 0 := by decide
                have hks : 0 ≤ 0 := by decide
                refine va_calli (va_runV (C := "DiscMakerModel") (As := [.int 0]) (rest := []) ⟨hx, hb, hml, hown, hts⟩ (m_countOf l D cB cI cJ cZ cN cF H.size h0 ma sv_thrown 0 sv_nodes sv_many sv_directories sv_runsFrom sv_runs sv_read sv_wrong sv_isNamed sv_goes sv_goesSize sv_goesAt sv_targetParts sv_isRoot fK (by (try dsimp only); first | omega | assumption | trivial)) (cwV 1 hts (lg_goodV k1620 k1622 k57 k125 kc_DiscMakerModel_countOf) rfl rfl rfl (by decide +kernel) ⟨Nat.le_of_ble_eq_true rfl, Nat.le_of_ble_eq_true rfl⟩) ⟨fun a U g mk q => by obtain ⟨q0, q1, qP, qK, qN, qD⟩ := q; exact ⟨q0, q1, qP, va_K.moved (u := U) (U := U.calling g mk a) (Vm.Alike.refl U.vm) qK, qN.calling, qD⟩, va_recv hK hP (ci := 11) (q0 := 7) rfl rfl, fun U hU hW => ⟨rfl, by rw [hU], by rw [hU]; exact hPc, va_K.moved hW.alike hK, NN.warm hW hN, hDc.weaken (fun _ _ _ _ => trivial)⟩⟩ rfl rfl hl.1 rfl (lv_room (Nat.le_of_ble_eq_true rfl)) d_DiscMakerModel_add_62 ⟨hkc, hks⟩) hS (fun q _ h => hFc q h) hFc (fun r43 u t H1 locs ht hvm hp_r43 hB hz1 hk1 hS => ?_)
                obtain ⟨hP1, hD1⟩ := hB
                rw [ht] at hP1
                obtain ⟨hP, hD⟩ := va_join (wr := [((ma 4), .inl (cI, 40, .inl fO)), ((ma 5), .inl (cI, 40, .inl fG)), ((ma 6), .inl (cI, 40, .inl fSz)), ((ma 7), .inl (cI, 40, .inl fSd)), ((ma 10), .inl (cB, 8000, .inl fT)), ((ma 11), .inl (cI, 40, .inl fTS)), ((ma 0), .inl (cB, 400, .inl fX)), ((ma 2), .inl (cI, 40, .inl fP)), ((ma 8), .inl (cB, 1200, .inl fN)), ((ma 9), .inl (cI, 40, .inl fNS))]) (w1 := [(h0, .inr (11, MO ma sv_thrown 0 sv_nodes sv_many sv_directories sv_runsFrom sv_runs sv_read sv_wrong sv_isNamed sv_goes sv_goesSize sv_goesAt sv_targetParts sv_isRoot)), ((ma 1), .inl (cI, 40, .inl fK))]) hP hD [7, 6] [0, 1, 2, 3, 4, 5, 8, 9, 10, 11] rfl rfl (by decide) (by decide) hk1 hFc hP1 hD1
                clear hPc hDc hFc hP1 hD1 hk1 hz1
                generalize H1 = H at hP hS ⊢
                have hP : va_P D CL [((ma 4), .inl (cI, 40, .inl fO)), ((ma 5), .inl (cI, 40, .inl fG)), ((ma 6), .inl (cI, 40, .inl fSz)), ((ma 7), .inl (cI, 40, .inl fSd)), ((ma 10), .inl (cB, 8000, .inl fT)), ((ma 11), .inl (cI, 40, .inl fTS)), ((ma 0), .inl (cB, 400, .inl fX)), ((ma 2), .inl (cI, 40, .inl fP)), ((ma 8), .inl (cB, 1200, .inl fN)), ((ma 9), .inl (cI, 40, .inl fNS)), (h0, .inr (11, MO ma sv_thrown 0 sv_nodes sv_many sv_directories sv_runsFrom sv_runs sv_read sv_wrong sv_isNamed sv_goes sv_goesSize sv_goesAt sv_targetParts sv_isRoot)), ((ma 1), .inl (cI, 40, .inl fK))] H := hP
                have hD : va_D A [((ma 4), .inl (cI, 40, .inl fO)), ((ma 5), .inl (cI, 40, .inl fG)), ((ma 6), .inl (cI, 40, .inl fSz)), ((ma 7), .inl (cI, 40, .inl fSd)), ((ma 10), .inl (cB, 8000, .inl fT)), ((ma 11), .inl (cI, 40, .inl fTS)), ((ma 0), .inl (cB, 400, .inl fX)), ((ma 2), .inl (cI, 40, .inl fP)), ((ma 8), .inl (cB, 1200, .inl fN)), ((ma 9), .inl (cI, 40, .inl fNS)), (h0, .inr (11, MO ma sv_thrown 0 sv_nodes sv_many sv_directories sv_runsFrom sv_runs sv_read sv_wrong sv_isNamed sv_goes sv_goesSize sv_goesAt sv_targetParts sv_isRoot)), ((ma 1), .inl (cI, 40, .inl fK))] := hD
                try dsimp only at hp_r43
                have hc_44 := hp_r43
                refine lv_bipush (v := 12) hx hb d_DiscMakerModel_add_65 (by decide) ?_
                refine lv_icmp_eq (tgt := 80) hx hb d_DiscMakerModel_add_67 (by decide) (fun h_9 => ?_) (fun h_9 => ?_)
                · skip
                  have g67_182 : r43.toInt = 12 := (i_eq rfl (by decide)).mp h_9
                  refine lv_bipush (v := (-3)) hx hb d_DiscMakerModel_add_80 (by decide) ?_
                  have hP9 := hP.sub (ws' := [(h0, .inr (11, MO ma sv_thrown 0 sv_nodes sv_many sv_directories sv_runsFrom sv_runs sv_read sv_wrong sv_isNamed sv_goes sv_goesSize sv_goesAt sv_targetParts sv_isRoot)), ((ma 0), .inl (cB, 400, .inl fX)), ((ma 1), .inl (cI, 40, .inl fK)), ((ma 2), .inl (cI, 40, .inl fP)), ((ma 4), .inl (cI, 40, .inl fO)), ((ma 5), .inl (cI, 40, .inl fG)), ((ma 6), .inl (cI, 40, .inl fSz)), ((ma 7), .inl (cI, 40, .inl fSd)), ((ma 8), .inl (cB, 1200, .inl fN)), ((ma 9), .inl (cI, 40, .inl fNS)), ((ma 10), .inl (cB, 8000, .inl fT)), ((ma 11), .inl (cI, 40, .inl fTS))]) [10, 6, 11, 7, 0, 1, 2, 3, 8, 9, 4, 5] rfl
                  have hD9 := hD.sub (ws' := [(h0, .inr (11, MO ma sv_thrown 0 sv_nodes sv_many sv_directories sv_runsFrom sv_runs sv_read sv_wrong sv_isNamed sv_goes sv_goesSize sv_goesAt sv_targetParts sv_isRoot)), ((ma 0), .inl (cB, 400, .inl fX)), ((ma 1), .inl (cI, 40, .inl fK)), ((ma 2), .inl (cI, 40, .inl fP)), ((ma 4), .inl (cI, 40, .inl fO)), ((ma 5), .inl (cI, 40, .inl fG)), ((ma 6), .inl (cI, 40, .inl fSz)), ((ma 7), .inl (cI, 40, .inl fSd)), ((ma 8), .inl (cB, 1200, .inl fN)), ((ma 9), .inl (cI, 40, .inl fNS)), ((ma 10), .inl (cB, 8000, .inl fT)), ((ma 11), .inl (cI, 40, .inl fTS))]) [10, 6, 11, 7, 0, 1, 2, 3, 8, 9, 4, 5] (by decide) rfl
                  exact W.iret (v := (-3)) hx hb hr (fun t ht hW => ⟨⟨(-3), (sv_nodes, fK, fP, fO, fG, fSz, fSd, fN, fNS, fT, fTS), rfl, ⟨(by (try dsimp only); first | omega | assumption | trivial), hT⟩, by rw [ht]; exact hP9, hD9⟩, hS.F ht⟩) hS.2.2 d_DiscMakerModel_add_82
                · skip
                  have g67_182 : ¬ r43.toInt = 12 := fun h8 => h_9 ((i_eq rfl (by decide)).mpr h8)
                  refine lv_aload_n hx hb d_DiscMakerModel_add_70 rfl (lv_at hl 1 rfl) ?_
                  refine lv_iload_n hx hb d_DiscMakerModel_add_71 rfl (lv_at hl 2 rfl) ?_
                  have hPc := hP.sub (ws' := [(h0, .inr (11, MO ma sv_thrown 0 sv_nodes sv_many sv_directories sv_runsFrom sv_runs sv_read sv_wrong sv_isNamed sv_goes sv_goesSize sv_goesAt sv_targetParts sv_isRoot)), ((ma 2), .inl (cI, 40, .inl fP))]) [10, 7] rfl
                  have hDc := hD.sub (ws' := [(h0, .inr (11, MO ma sv_thrown 0 sv_nodes sv_many sv_directories sv_runsFrom sv_runs sv_read sv_wrong sv_isNamed sv_goes sv_goesSize sv_goesAt sv_targetParts sv_isRoot)), ((ma 2), .inl (cI, 40, .inl fP))]) [10, 7] (by decide) rfl
                  have hFc := va_free (wc := [(h0, .inr (11, MO ma sv_thrown 0 sv_nodes sv_many sv_directories sv_runsFrom sv_runs sv_read sv_wrong sv_isNamed sv_goes sv_goesSize sv_goesAt sv_targetParts sv_isRoot)), ((ma 2), .inl (cI, 40, .inl fP))]) hD hS hA [10, 7] rfl
                  have hkc : 0 ≤ 0 := by decide
                  have hks : 0 ≤ 0 := by decide
                  refine va_calli (va_runV (C := "DiscMakerModel") (As := [.int x]) (rest := []) ⟨hx, hb, hml, hown, hts⟩ (m_depthOf l D cB cI cJ cZ cN cF H.size h0 ma sv_thrown 0 sv_nodes sv_many sv_directories sv_runsFrom sv_runs sv_read sv_wrong sv_isNamed sv_goes sv_goesSize sv_goesAt sv_targetParts sv_isRoot fP x (by (try dsimp only); first | omega | assumption | trivial) (by (try dsimp only); first | omega | assumption | trivial) (fun k h1 h2 => ⟨(hT.pp k h1 h2).1, (hT.pp k h1 h2).2.1⟩)) (cwV 1 hts (lg_goodV k1624 k1626 k58 k125 kc_DiscMakerModel_depthOf) rfl rfl rfl (by decide +kernel) ⟨Nat.le_of_ble_eq_true rfl, Nat.le_of_ble_eq_true rfl⟩) ⟨fun a U g mk q => by obtain ⟨q0, q1, qP, qK, qN, qD⟩ := q; exact ⟨q0, q1, qP, va_K.moved (u := U) (U := U.calling g mk a) (Vm.Alike.refl U.vm) qK, qN.calling, qD⟩, va_recv hK hP (ci := 11) (q0 := 10) rfl rfl, fun U hU hW => ⟨rfl, by rw [hU], by rw [hU]; exact hPc, va_K.moved hW.alike hK, NN.warm hW hN, hDc.weaken (fun _ _ _ _ => trivial)⟩⟩ rfl rfl hl.1 rfl (lv_room (Nat.le_of_ble_eq_true rfl)) d_DiscMakerModel_add_72 ⟨hkc, hks⟩) hS (fun q _ h => hFc q h) hFc (fun r45 u t H1 locs ht hvm hp_r45 hB hz1 hk1 hS => ?_)
                  obtain ⟨hP1, hD1⟩ := hB
                  rw [ht] at hP1
                  obtain ⟨hP, hD⟩ := va_join (wr := [((ma 4), .inl (cI, 40, .inl fO)), ((ma 5), .inl (cI, 40, .inl fG)), ((ma 6), .inl (cI, 40, .inl fSz)), ((ma 7), .inl (cI, 40, .inl fSd)), ((ma 10), .inl (cB, 8000, .inl fT)), ((ma 11), .inl (cI, 40, .inl fTS)), ((ma 0), .inl (cB, 400, .inl fX)), ((ma 8), .inl (cB, 1200, .inl fN)), ((ma 9), .inl (cI, 40, .inl fNS)), ((ma 1), .inl (cI, 40, .inl fK))]) (w1 := [(h0, .inr (11, MO ma sv_thrown 0 sv_nodes sv_many sv_directories sv_runsFrom sv_runs sv_read sv_wrong sv_isNamed sv_goes sv_goesSize sv_goesAt sv_targetParts sv_isRoot)), ((ma 2), .inl (cI, 40, .inl fP))]) hP hD [10, 7] [0, 1, 2, 3, 4, 5, 6, 8, 9, 11] rfl rfl (by decide) (by decide) hk1 hFc hP1 hD1
                  clear hPc hDc hFc hP1 hD1 hk1 hz1
                  generalize H1 = H at hP hS ⊢
                  have hP : va_P D CL [((ma 4), .inl (cI, 40, .inl fO)), ((ma 5), .inl (cI, 40, .inl fG)), ((ma 6), .inl (cI, 40, .inl fSz)), ((ma 7), .inl (cI, 40, .inl fSd)), ((ma 10), .inl (cB, 8000, .inl fT)), ((ma 11), .inl (cI, 40, .inl fTS)), ((ma 0), .inl (cB, 400, .inl fX)), ((ma 8), .inl (cB, 1200, .inl fN)), ((ma 9), .inl (cI, 40, .inl fNS)), ((ma 1), .inl (cI, 40, .inl fK)), (h0, .inr (11, MO ma sv_thrown 0 sv_nodes sv_many sv_directories sv_runsFrom sv_runs sv_read sv_wrong sv_isNamed sv_goes sv_goesSize sv_goesAt sv_targetParts sv_isRoot)), ((ma 2), .inl (cI, 40, .inl fP))] H := hP
                  have hD : va_D A [((ma 4), .inl (cI, 40, .inl fO)), ((ma 5), .inl (cI, 40, .inl fG)), ((ma 6), .inl (cI, 40, .inl fSz)), ((ma 7), .inl (cI, 40, .inl fSd)), ((ma 10), .inl (cB, 8000, .inl fT)), ((ma 11), .inl (cI, 40, .inl fTS)), ((ma 0), .inl (cB, 400, .inl fX)), ((ma 8), .inl (cB, 1200, .inl fN)), ((ma 9), .inl (cI, 40, .inl fNS)), ((ma 1), .inl (cI, 40, .inl fK)), (h0, .inr (11, MO ma sv_thrown 0 sv_nodes sv_many sv_directories sv_runsFrom sv_runs sv_read sv_wrong sv_isNamed sv_goes sv_goesSize sv_goesAt sv_targetParts sv_isRoot)), ((ma 2), .inl (cI, 40, .inl fP))] := hD
                  refine lv_bipush (v := 7) hx hb d_DiscMakerModel_add_75 (by decide) ?_
                  refine lv_icmp_ne (tgt := 83) hx hb d_DiscMakerModel_add_77 (by decide) (fun h_9 => ?_) (fun h_9 => ?_)
                  · skip
                    have g77_189 : ¬ r45.toInt = 7 := fun h8 => h_9 ((i_eq rfl (by decide)).mpr h8)
                    have hP := hP.sub (ws' := [((ma 4), .inl (cI, 40, .inl fO)), ((ma 5), .inl (cI, 40, .inl fG)), ((ma 6), .inl (cI, 40, .inl fSz)), ((ma 7), .inl (cI, 40, .inl fSd)), ((ma 10), .inl (cB, 8000, .inl fT)), ((ma 11), .inl (cI, 40, .inl fTS)), ((ma 1), .inl (cI, 40, .inl fK)), (h0, .inr (11, MO ma sv_thrown 0 sv_nodes sv_many sv_directories sv_runsFrom sv_runs sv_read sv_wrong sv_isNamed sv_goes sv_goesSize sv_goesAt sv_targetParts sv_isRoot)), ((ma 0), .inl (cB, 400, .inl fX)), ((ma 2), .inl (cI, 40, .inl fP)), ((ma 8), .inl (cB, 1200, .inl fN)), ((ma 9), .inl (cI, 40, .inl fNS))]) [0, 1, 2, 3, 4, 5, 9, 10, 6, 11, 7, 8] rfl
                    have hD := hD.sub (ws' := [((ma 4), .inl (cI, 40, .inl fO)), ((ma 5), .inl (cI, 40, .inl fG)), ((ma 6), .inl (cI, 40, .inl fSz)), ((ma 7), .inl (cI, 40, .inl fSd)), ((ma 10), .inl (cB, 8000, .inl fT)), ((ma 11), .inl (cI, 40, .inl fTS)), ((ma 1), .inl (cI, 40, .inl fK)), (h0, .inr (11, MO ma sv_thrown 0 sv_nodes sv_many sv_directories sv_runsFrom sv_runs sv_read sv_wrong sv_isNamed sv_goes sv_goesSize sv_goesAt sv_targetParts sv_isRoot)), ((ma 0), .inl (cB, 400, .inl fX)), ((ma 2), .inl (cI, 40, .inl fP)), ((ma 8), .inl (cB, 1200, .inl fN)), ((ma 9), .inl (cI, 40, .inl fNS))]) [0, 1, 2, 3, 4, 5, 9, 10, 6, 11, 7, 8] (by decide) rfl
                    have hl := lv_sub hl [1, 2, 3, 4, 5, 0] rfl
                    exact kk83 _ _ _ _ _ ⟨rfl, rfl, (by intro h7; omega), (by (try dsimp only); first | omega | assumption | trivial), hP, hD, hS, hl⟩
                  · skip
                    have g77_189 : r45.toInt = 7 := (i_eq rfl (by decide)).mp h_9
                    refine lv_bipush (v := (-3)) hx hb d_DiscMakerModel_add_80 (by decide) ?_
                    have hP9 := hP.sub (ws' := [(h0, .inr (11, MO ma sv_thrown 0 sv_nodes sv_many sv_directories sv_runsFrom sv_runs sv_read sv_wrong sv_isNamed sv_goes sv_goesSize sv_goesAt sv_targetParts sv_isRoot)), ((ma 0), .inl (cB, 400, .inl fX)), ((ma 1), .inl (cI, 40, .inl fK)), ((ma 2), .inl (cI, 40, .inl fP)), ((ma 4), .inl (cI, 40, .inl fO)), ((ma 5), .inl (cI, 40, .inl fG)), ((ma 6), .inl (cI, 40, .inl fSz)), ((ma 7), .inl (cI, 40, .inl fSd)), ((ma 8), .inl (cB, 1200, .inl fN)), ((ma 9), .inl (cI, 40, .inl fNS)), ((ma 10), .inl (cB, 8000, .inl fT)), ((ma 11), .inl (cI, 40, .inl fTS))]) [10, 6, 9, 11, 0, 1, 2, 3, 7, 8, 4, 5] rfl
                    have hD9 := hD.sub (ws' := [(h0, .inr (11, MO ma sv_thrown 0 sv_nodes sv_many sv_directories sv_runsFrom sv_runs sv_read sv_wrong sv_isNamed sv_goes sv_goesSize sv_goesAt sv_targetParts sv_isRoot)), ((ma 0), .inl (cB, 400, .inl fX)), ((ma 1), .inl (cI, 40, .inl fK)), ((ma 2), .inl (cI, 40, .inl fP)), ((ma 4), .inl (cI, 40, .inl fO)), ((ma 5), .inl (cI, 40, .inl fG)), ((ma 6), .inl (cI, 40, .inl fSz)), ((ma 7), .inl (cI, 40, .inl fSd)), ((ma 8), .inl (cB, 1200, .inl fN)), ((ma 9), .inl (cI, 40, .inl fNS)), ((ma 10), .inl (cB, 8000, .inl fT)), ((ma 11), .inl (cI, 40, .inl fTS))]) [10, 6, 9, 11, 0, 1, 2, 3, 7, 8, 4, 5] (by decide) rfl
                    exact W.iret (v := (-3)) hx hb hr (fun t ht hW => ⟨⟨(-3), (sv_nodes, fK, fP, fO, fG, fSz, fSd, fN, fNS, fT, fTS), rfl, ⟨(by (try dsimp only); first | omega | assumption | trivial), hT⟩, by rw [ht]; exact hP9, hD9⟩, hS.F ht⟩) hS.2.2 d_DiscMakerModel_add_82
        · skip
          have g41_25 : ¬ r7.toInt = 0 := fun h8 => h_9 ((i_eq rfl (by decide)).mpr h8)
          refine lv_bipush (v := (-2)) hx hb d_DiscMakerModel_add_44 (by decide) ?_
          have hP9 := hP.sub (ws' := [(h0, .inr (11, MO ma sv_thrown 0 sv_nodes sv_many sv_directories sv_runsFrom sv_runs sv_read sv_wrong sv_isNamed sv_goes sv_goesSize sv_goesAt sv_targetParts sv_isRoot)), ((ma 0), .inl (cB, 400, .inl fX)), ((ma 1), .inl (cI, 40, .inl fK)), ((ma 2), .inl (cI, 40, .inl fP)), ((ma 4), .inl (cI, 40, .inl fO)), ((ma 5), .inl (cI, 40, .inl fG)), ((ma 6), .inl (cI, 40, .inl fSz)), ((ma 7), .inl (cI, 40, .inl fSd)), ((ma 8), .inl (cB, 1200, .inl fN)), ((ma 9), .inl (cI, 40, .inl fNS)), ((ma 10), .inl (cB, 8000, .inl fT)), ((ma 11), .inl (cI, 40, .inl fTS))]) [7, 8, 6, 9, 0, 1, 2, 3, 10, 11, 4, 5] rfl
          have hD9 := hD.sub (ws' := [(h0, .inr (11, MO ma sv_thrown 0 sv_nodes sv_many sv_directories sv_runsFrom sv_runs sv_read sv_wrong sv_isNamed sv_goes sv_goesSize sv_goesAt sv_targetParts sv_isRoot)), ((ma 0), .inl (cB, 400, .inl fX)), ((ma 1), .inl (cI, 40, .inl fK)), ((ma 2), .inl (cI, 40, .inl fP)), ((ma 4), .inl (cI, 40, .inl fO)), ((ma 5), .inl (cI, 40, .inl fG)), ((ma 6), .inl (cI, 40, .inl fSz)), ((ma 7), .inl (cI, 40, .inl fSd)), ((ma 8), .inl (cB, 1200, .inl fN)), ((ma 9), .inl (cI, 40, .inl fNS)), ((ma 10), .inl (cB, 8000, .inl fT)), ((ma 11), .inl (cI, 40, .inl fTS))]) [7, 8, 6, 9, 0, 1, 2, 3, 10, 11, 4, 5] (by decide) rfl
          exact W.iret (v := (-2)) hx hb hr (fun t ht hW => ⟨⟨(-2), (sv_nodes, fK, fP, fO, fG, fSz, fSd, fN, fNS, fT, fTS), rfl, ⟨(by (try dsimp only); first | omega | assumption | trivial), hT⟩, by rw [ht]; exact hP9, hD9⟩, hS.F ht⟩) hS.2.2 d_DiscMakerModel_add_46
      · skip
        have g29_20 : r4.toInt = 0 := (i_eq rfl (by decide)).mp h_9
        refine lv_bipush (v := (-4)) hx hb d_DiscMakerModel_add_32 (by decide) ?_
        have hP9 := hP.sub (ws' := [(h0, .inr (11, MO ma sv_thrown 0 sv_nodes sv_many sv_directories sv_runsFrom sv_runs sv_read sv_wrong sv_isNamed sv_goes sv_goesSize sv_goesAt sv_targetParts sv_isRoot)), ((ma 0), .inl (cB, 400, .inl fX)), ((ma 1), .inl (cI, 40, .inl fK)), ((ma 2), .inl (cI, 40, .inl fP)), ((ma 4), .inl (cI, 40, .inl fO)), ((ma 5), .inl (cI, 40, .inl fG)), ((ma 6), .inl (cI, 40, .inl fSz)), ((ma 7), .inl (cI, 40, .inl fSd)), ((ma 8), .inl (cB, 1200, .inl fN)), ((ma 9), .inl (cI, 40, .inl fNS)), ((ma 10), .inl (cB, 8000, .inl fT)), ((ma 11), .inl (cI, 40, .inl fTS))]) [10, 11, 9, 0, 1, 2, 3, 4, 5, 6, 7, 8] rfl
        have hD9 := hD.sub (ws' := [(h0, .inr (11, MO ma sv_thrown 0 sv_nodes sv_many sv_directories sv_runsFrom sv_runs sv_read sv_wrong sv_isNamed sv_goes sv_goesSize sv_goesAt sv_targetParts sv_isRoot)), ((ma 0), .inl (cB, 400, .inl fX)), ((ma 1), .inl (cI, 40, .inl fK)), ((ma 2), .inl (cI, 40, .inl fP)), ((ma 4), .inl (cI, 40, .inl fO)), ((ma 5), .inl (cI, 40, .inl fG)), ((ma 6), .inl (cI, 40, .inl fSz)), ((ma 7), .inl (cI, 40, .inl fSd)), ((ma 8), .inl (cB, 1200, .inl fN)), ((ma 9), .inl (cI, 40, .inl fNS)), ((ma 10), .inl (cB, 8000, .inl fT)), ((ma 11), .inl (cI, 40, .inl fTS))]) [10, 11, 9, 0, 1, 2, 3, 4, 5, 6, 7, 8] (by decide) rfl
        exact W.iret (v := (-4)) hx hb hr (fun t ht hW => ⟨⟨(-4), (sv_nodes, fK, fP, fO, fG, fSz, fSd, fN, fNS, fT, fTS), rfl, ⟨(by (try dsimp only); first | omega | assumption | trivial), hT⟩, by rw [ht]; exact hP9, hD9⟩, hS.F ht⟩) hS.2.2 d_DiscMakerModel_add_34

theorem d_DiscMakerModel_directory_0 : decode b_DiscMakerModel_directory 0 = .ok (.aload_n 0, 1) := by decide +kernel
theorem d_DiscMakerModel_directory_1 : decode b_DiscMakerModel_directory 1 = .ok (.iconst 0, 1) := by decide +kernel
theorem d_DiscMakerModel_directory_2 : decode b_DiscMakerModel_directory 2 = .ok (.putfield 118, 3) := by decide +kernel
theorem d_DiscMakerModel_directory_5 : decode b_DiscMakerModel_directory 5 = .ok (.aload_n 0, 1) := by decide +kernel
theorem d_DiscMakerModel_directory_6 : decode b_DiscMakerModel_directory 6 = .ok (.iload_n 1, 1) := by decide +kernel
theorem d_DiscMakerModel_directory_7 : decode b_DiscMakerModel_directory 7 = .ok (.iconst 0, 1) := by decide +kernel
theorem d_DiscMakerModel_directory_8 : decode b_DiscMakerModel_directory 8 = .ok (.aload_n 0, 1) := by decide +kernel
theorem d_DiscMakerModel_directory_9 : decode b_DiscMakerModel_directory 9 = .ok (.getfield 121, 3) := by decide +kernel
theorem d_DiscMakerModel_directory_12 : decode b_DiscMakerModel_directory 12 = .ok (.iload_n 2, 1) := by decide +kernel
theorem d_DiscMakerModel_directory_13 : decode b_DiscMakerModel_directory 13 = .ok (.invokestatic 153, 3) := by decide +kernel
theorem d_DiscMakerModel_directory_16 : decode b_DiscMakerModel_directory 16 = .ok (.ifCond .eq 22, 3) := by decide +kernel
theorem d_DiscMakerModel_directory_19 : decode b_DiscMakerModel_directory 19 = .ok (.iload_n 3, 1) := by decide +kernel
theorem d_DiscMakerModel_directory_20 : decode b_DiscMakerModel_directory 20 = .ok (.invokestatic 153, 3) := by decide +kernel
theorem d_DiscMakerModel_directory_23 : decode b_DiscMakerModel_directory 23 = .ok (.ifCond .eq 15, 3) := by decide +kernel
theorem d_DiscMakerModel_directory_26 : decode b_DiscMakerModel_directory 26 = .ok (.iload 4, 2) := by decide +kernel
theorem d_DiscMakerModel_directory_28 : decode b_DiscMakerModel_directory 28 = .ok (.invokestatic 153, 3) := by decide +kernel
theorem d_DiscMakerModel_directory_31 : decode b_DiscMakerModel_directory 31 = .ok (.ifCond .eq 7, 3) := by decide +kernel
theorem d_DiscMakerModel_directory_34 : decode b_DiscMakerModel_directory 34 = .ok (.iconst 1, 1) := by decide +kernel
theorem d_DiscMakerModel_directory_35 : decode b_DiscMakerModel_directory 35 = .ok (.goto 4, 3) := by decide +kernel
theorem d_DiscMakerModel_directory_38 : decode b_DiscMakerModel_directory 38 = .ok (.iconst 0, 1) := by decide +kernel
theorem d_DiscMakerModel_directory_39 : decode b_DiscMakerModel_directory 39 = .ok (.invokevirtual 156, 3) := by decide +kernel
theorem d_DiscMakerModel_directory_42 : decode b_DiscMakerModel_directory 42 = .ok (.istore 5, 2) := by decide +kernel
theorem d_DiscMakerModel_directory_44 : decode b_DiscMakerModel_directory 44 = .ok (.iload 5, 2) := by decide +kernel
theorem d_DiscMakerModel_directory_46 : decode b_DiscMakerModel_directory 46 = .ok (.ifCond .ge 6, 3) := by decide +kernel
theorem d_DiscMakerModel_directory_49 : decode b_DiscMakerModel_directory 49 = .ok (.iload 5, 2) := by decide +kernel
theorem d_DiscMakerModel_directory_51 : decode b_DiscMakerModel_directory 51 = .ok (.ireturn, 1) := by decide +kernel
theorem d_DiscMakerModel_directory_52 : decode b_DiscMakerModel_directory 52 = .ok (.aload_n 0, 1) := by decide +kernel
theorem d_DiscMakerModel_directory_53 : decode b_DiscMakerModel_directory 53 = .ok (.getfield 20, 3) := by decide +kernel
theorem d_DiscMakerModel_directory_56 : decode b_DiscMakerModel_directory 56 = .ok (.iload 5, 2) := by decide +kernel
theorem d_DiscMakerModel_directory_58 : decode b_DiscMakerModel_directory 58 = .ok (.iload_n 2, 1) := by decide +kernel
theorem d_DiscMakerModel_directory_59 : decode b_DiscMakerModel_directory 59 = .ok (.iastore, 1) := by decide +kernel
theorem d_DiscMakerModel_directory_60 : decode b_DiscMakerModel_directory 60 = .ok (.aload_n 0, 1) := by decide +kernel
theorem d_DiscMakerModel_directory_61 : decode b_DiscMakerModel_directory 61 = .ok (.getfield 23, 3) := by decide +kernel
theorem d_DiscMakerModel_directory_64 : decode b_DiscMakerModel_directory 64 = .ok (.iload 5, 2) := by decide +kernel
theorem d_DiscMakerModel_directory_66 : decode b_DiscMakerModel_directory 66 = .ok (.iload_n 3, 1) := by decide +kernel
theorem d_DiscMakerModel_directory_67 : decode b_DiscMakerModel_directory 67 = .ok (.iastore, 1) := by decide +kernel
theorem d_DiscMakerModel_directory_68 : decode b_DiscMakerModel_directory 68 = .ok (.aload_n 0, 1) := by decide +kernel
theorem d_DiscMakerModel_directory_69 : decode b_DiscMakerModel_directory 69 = .ok (.getfield 26, 3) := by decide +kernel
theorem d_DiscMakerModel_directory_72 : decode b_DiscMakerModel_directory 72 = .ok (.iload 5, 2) := by decide +kernel
theorem d_DiscMakerModel_directory_74 : decode b_DiscMakerModel_directory 74 = .ok (.iload 4, 2) := by decide +kernel
theorem d_DiscMakerModel_directory_76 : decode b_DiscMakerModel_directory 76 = .ok (.iastore, 1) := by decide +kernel
theorem d_DiscMakerModel_directory_77 : decode b_DiscMakerModel_directory 77 = .ok (.iload 5, 2) := by decide +kernel
theorem d_DiscMakerModel_directory_79 : decode b_DiscMakerModel_directory 79 = .ok (.ireturn, 1) := by decide +kernel
set_option maxHeartbeats 4000000 in
set_option maxRecDepth 100000 in
theorem m_directory (l : Launch) (D : va_G) (cB cI cJ cZ cN cF : ClassId) (sz : Nat) (h0 : Nat) (ma : Nat → Nat) (sv_thrown sv_length sv_nodes sv_many sv_directories sv_runsFrom sv_runs sv_read sv_wrong sv_isNamed sv_goes sv_goesSize sv_goesAt sv_targetParts sv_isRoot : Int32) (fX : Nat → Int32) (fK : Nat → Int32) (fP : Nat → Int32) (fO : Nat → Int32) (fG : Nat → Int32) (fSz : Nat → Int32) (fSd : Nat → Int32) (fN : Nat → Int32) (fNS : Nat → Int32) (fT : Nat → Int32) (fTS : Nat → Int32) (fM : Nat → Int32) (x : Int32) (y : Int32) (z : Int32) (w : Int32) (hln : 0 ≤ sv_length.toInt ∧ sv_length.toInt ≤ 400) (hT : TI sv_nodes.toInt fK fP fNS fSz fTS) : Met l y_DiscMakerModel_directory w_DiscMakerModel_directory ({ frames := 3, cells := 0, slots := 0, locals := 74 }) (va_Pc [.ref h0, .int x, .int y, .int z, .int w] (fun U => U.heap.size = sz ∧ va_P D CL [(h0, .inr (11, MO ma sv_thrown sv_length sv_nodes sv_many sv_directories sv_runsFrom sv_runs sv_read sv_wrong sv_isNamed sv_goes sv_goesSize sv_goesAt sv_targetParts sv_isRoot)), ((ma 0), .inl (cB, 400, .inl fX)), ((ma 1), .inl (cI, 40, .inl fK)), ((ma 2), .inl (cI, 40, .inl fP)), ((ma 4), .inl (cI, 40, .inl fO)), ((ma 5), .inl (cI, 40, .inl fG)), ((ma 6), .inl (cI, 40, .inl fSz)), ((ma 7), .inl (cI, 40, .inl fSd)), ((ma 8), .inl (cB, 1200, .inl fN)), ((ma 9), .inl (cI, 40, .inl fNS)), ((ma 10), .inl (cB, 8000, .inl fT)), ((ma 11), .inl (cI, 40, .inl fTS)), ((ma 3), .inl (cI, 40, .inl fM))] U.heap ∧ va_K D CL (TY cB cI cJ cZ cN cF) U ∧ NN U ∧ va_D (fun _ => True) [(h0, .inr (11, MO ma sv_thrown sv_length sv_nodes sv_many sv_directories sv_runsFrom sv_runs sv_read sv_wrong sv_isNamed sv_goes sv_goesSize sv_goesAt sv_targetParts sv_isRoot)), ((ma 0), .inl (cB, 400, .inl fX)), ((ma 1), .inl (cI, 40, .inl fK)), ((ma 2), .inl (cI, 40, .inl fP)), ((ma 4), .inl (cI, 40, .inl fO)), ((ma 5), .inl (cI, 40, .inl fG)), ((ma 6), .inl (cI, 40, .inl fSz)), ((ma 7), .inl (cI, 40, .inl fSd)), ((ma 8), .inl (cB, 1200, .inl fN)), ((ma 9), .inl (cI, 40, .inl fNS)), ((ma 10), .inl (cB, 8000, .inl fT)), ((ma 11), .inl (cI, 40, .inl fTS)), ((ma 3), .inl (cI, 40, .inl fM))])) (va_Qi (fun (r : Int32) (u : Int32 × Int32 × (Nat → Int32) × (Nat → Int32) × (Nat → Int32) × (Nat → Int32) × (Nat → Int32) × (Nat → Int32) × (Nat → Int32) × (Nat → Int32) × (Nat → Int32) × (Nat → Int32) × (Nat → Int32)) => match u with | (th, nd, gK, gP, gO, gG, gSz, gSd, gN, gNS, gT, gTS, gM) => (TI nd.toInt gK gP gNS gSz gTS)) (fun (u : Int32 × Int32 × (Nat → Int32) × (Nat → Int32) × (Nat → Int32) × (Nat → Int32) × (Nat → Int32) × (Nat → Int32) × (Nat → Int32) × (Nat → Int32) × (Nat → Int32) × (Nat → Int32) × (Nat → Int32)) (t : State) => match u with | (th, nd, gK, gP, gO, gG, gSz, gSd, gN, gNS, gT, gTS, gM) => va_P D CL [(h0, .inr (11, MO ma th 0 nd sv_many sv_directories sv_runsFrom sv_runs sv_read sv_wrong sv_isNamed sv_goes sv_goesSize sv_goesAt sv_targetParts sv_isRoot)), ((ma 0), .inl (cB, 400, .inl fX)), ((ma 1), .inl (cI, 40, .inl gK)), ((ma 2), .inl (cI, 40, .inl gP)), ((ma 4), .inl (cI, 40, .inl gO)), ((ma 5), .inl (cI, 40, .inl gG)), ((ma 6), .inl (cI, 40, .inl gSz)), ((ma 7), .inl (cI, 40, .inl gSd)), ((ma 8), .inl (cB, 1200, .inl gN)), ((ma 9), .inl (cI, 40, .inl gNS)), ((ma 10), .inl (cB, 8000, .inl gT)), ((ma 11), .inl (cI, 40, .inl gTS)), ((ma 3), .inl (cI, 40, .inl gM))] t.heap ∧ va_D (va_A [(h0, .inr (11, MO ma sv_thrown sv_length sv_nodes sv_many sv_directories sv_runsFrom sv_runs sv_read sv_wrong sv_isNamed sv_goes sv_goesSize sv_goesAt sv_targetParts sv_isRoot)), ((ma 0), .inl (cB, 400, .inl fX)), ((ma 1), .inl (cI, 40, .inl fK)), ((ma 2), .inl (cI, 40, .inl fP)), ((ma 4), .inl (cI, 40, .inl fO)), ((ma 5), .inl (cI, 40, .inl fG)), ((ma 6), .inl (cI, 40, .inl fSz)), ((ma 7), .inl (cI, 40, .inl fSd)), ((ma 8), .inl (cB, 1200, .inl fN)), ((ma 9), .inl (cI, 40, .inl fNS)), ((ma 10), .inl (cB, 8000, .inl fT)), ((ma 11), .inl (cI, 40, .inl fTS)), ((ma 3), .inl (cI, 40, .inl fM))] sz) [(h0, .inr (11, MO ma th 0 nd sv_many sv_directories sv_runsFrom sv_runs sv_read sv_wrong sv_isNamed sv_goes sv_goesSize sv_goesAt sv_targetParts sv_isRoot)), ((ma 0), .inl (cB, 400, .inl fX)), ((ma 1), .inl (cI, 40, .inl gK)), ((ma 2), .inl (cI, 40, .inl gP)), ((ma 4), .inl (cI, 40, .inl gO)), ((ma 5), .inl (cI, 40, .inl gG)), ((ma 6), .inl (cI, 40, .inl gSz)), ((ma 7), .inl (cI, 40, .inl gSd)), ((ma 8), .inl (cB, 1200, .inl gN)), ((ma 9), .inl (cI, 40, .inl gNS)), ((ma 10), .inl (cB, 8000, .inl gT)), ((ma 11), .inl (cI, 40, .inl gTS)), ((ma 3), .inl (cI, 40, .inl gM))]) (va_A [(h0, .inr (11, MO ma sv_thrown sv_length sv_nodes sv_many sv_directories sv_runsFrom sv_runs sv_read sv_wrong sv_isNamed sv_goes sv_goesSize sv_goesAt sv_targetParts sv_isRoot)), ((ma 0), .inl (cB, 400, .inl fX)), ((ma 1), .inl (cI, 40, .inl fK)), ((ma 2), .inl (cI, 40, .inl fP)), ((ma 4), .inl (cI, 40, .inl fO)), ((ma 5), .inl (cI, 40, .inl fG)), ((ma 6), .inl (cI, 40, .inl fSz)), ((ma 7), .inl (cI, 40, .inl fSd)), ((ma 8), .inl (cB, 1200, .inl fN)), ((ma 9), .inl (cI, 40, .inl fNS)), ((ma 10), .inl (cB, 8000, .inl fT)), ((ma 11), .inl (cI, 40, .inl fTS)), ((ma 3), .inl (cI, 40, .inl fM))] sz)) 0 0 (va_A [(h0, .inr (11, MO ma sv_thrown sv_length sv_nodes sv_many sv_directories sv_runsFrom sv_runs sv_read sv_wrong sv_isNamed sv_goes sv_goesSize sv_goesAt sv_targetParts sv_isRoot)), ((ma 0), .inl (cB, 400, .inl fX)), ((ma 1), .inl (cI, 40, .inl fK)), ((ma 2), .inl (cI, 40, .inl fP)), ((ma 4), .inl (cI, 40, .inl fO)), ((ma 5), .inl (cI, 40, .inl fG)), ((ma 6), .inl (cI, 40, .inl fSz)), ((ma 7), .inl (cI, 40, .inl fSd)), ((ma 8), .inl (cB, 1200, .inl fN)), ((ma 9), .inl (cI, 40, .inl fNS)), ((ma 10), .inl (cB, 8000, .inl fT)), ((ma 11), .inl (cI, 40, .inl fTS)), ((ma 3), .inl (cI, 40, .inl fM))] sz) := by
  refine Met.ofW (cc := b_DiscMakerModel_directory) (maxL := 6) (ret := some .int) (by decide) rfl ?_
  intro p e s m args below meth c s₁ B hml hv
  obtain ⟨rfl, hsz, hP, hK, hN, hD0⟩ := hv
  have hx := B.exec
  have hb := B.bytes
  have hr := B.returns
  have hts := atoms_spec (ws := w_DiscMakerModel_directory) B.pre
  have ht9 := fun (w : Cond) (h : w ∈ lw_g) => hts w (List.mem_cons_of_mem _ h)
  have hown : s.vm.findClass "DiscMakerModel" = some m.cls := findClass_of_methodNamed B.named
  have hlocks := B.notSynchronized
  subst hsz
  have hD := hD0.self (sz := s.heap.size)
  generalize hAe : va_A [(h0, .inr (11, MO ma sv_thrown sv_length sv_nodes sv_many sv_directories sv_runsFrom sv_runs sv_read sv_wrong sv_isNamed sv_goes sv_goesSize sv_goesAt sv_targetParts sv_isRoot)), ((ma 0), .inl (cB, 400, .inl fX)), ((ma 1), .inl (cI, 40, .inl fK)), ((ma 2), .inl (cI, 40, .inl fP)), ((ma 4), .inl (cI, 40, .inl fO)), ((ma 5), .inl (cI, 40, .inl fG)), ((ma 6), .inl (cI, 40, .inl fSz)), ((ma 7), .inl (cI, 40, .inl fSd)), ((ma 8), .inl (cB, 1200, .inl fN)), ((ma 9), .inl (cI, 40, .inl fNS)), ((ma 10), .inl (cB, 8000, .inl fT)), ((ma 11), .inl (cI, 40, .inl fTS)), ((ma 3), .inl (cI, 40, .inl fM))] s.heap.size = A at hD ⊢
  have hA : ∀ q : Nat, s.heap.size ≤ q → A q := fun q h => by rw [← hAe]; exact Or.inr h
  have hS : va_S A s.heap s.heap [] := va_S.rf
  have hP : va_P D CL [(h0, .inr (11, MO ma sv_thrown sv_length sv_nodes sv_many sv_directories sv_runsFrom sv_runs sv_read sv_wrong sv_isNamed sv_goes sv_goesSize sv_goesAt sv_targetParts sv_isRoot)), ((ma 0), .inl (cB, 400, .inl fX)), ((ma 1), .inl (cI, 40, .inl fK)), ((ma 2), .inl (cI, 40, .inl fP)), ((ma 4), .inl (cI, 40, .inl fO)), ((ma 5), .inl (cI, 40, .inl fG)), ((ma 6), .inl (cI, 40, .inl fSz)), ((ma 7), .inl (cI, 40, .inl fSd)), ((ma 8), .inl (cB, 1200, .inl fN)), ((ma 9), .inl (cI, 40, .inl fNS)), ((ma 10), .inl (cB, 8000, .inl fT)), ((ma 11), .inl (cI, 40, .inl fTS)), ((ma 3), .inl (cI, 40, .inl fM))] s.heap := hP
  have hl := lv_entry [.ref h0, .int x, .int y, .int z, .int w] (n := 6) (Nat.le_of_ble_eq_true rfl)
  rw [lg_entry_eq]
  generalize (lg_sl [.ref h0, .int x, .int y, .int z, .int w] ++ List.replicate (6 - (lg_sl [.ref h0, .int x, .int y, .int z, .int w]).length) Slot.unset).toArray = ls at hl ⊢
  have hl : lv_has ls 6 [(0, .ref h0), (1, .int x), (2, .int y), (3, .int z), (4, .int w)] := hl
  have L_m1 : ((-1) : Int32).toInt = (-1) := by decide
  have L_0 : (0 : Int32).toInt = 0 := by decide
  have L_1 : (1 : Int32).toInt = 1 := by decide
  refine lv_aload_n hx hb d_DiscMakerModel_directory_0 rfl (lv_at hl 0 rfl) ?_
  refine lv_iconst (v := 0) hx hb d_DiscMakerModel_directory_1 (by decide) ?_
  refine va_put (D := D) (ci := 11) (v := .int 0) (ty := .int) (C := "DiscMakerModel") (T := F_DiscMakerModel) (N := 48) hx hb ht9 in_DiscMakerModel t_DiscMakerModel t_DiscMakerModel_ok n_DiscMakerModel hown hK hP hD hS 0 rfl rfl 0 (by decide) (ht9 _ k1431) (fun _ h9 => h9) rfl (by decide +kernel) rfl rfl (Nat.le_of_ble_eq_true rfl) d_DiscMakerModel_directory_2 (fun H locs hP hD hS => ?_)
  have hP : va_P D CL [(h0, .inr (11, MO ma 0 sv_length sv_nodes sv_many sv_directories sv_runsFrom sv_runs sv_read sv_wrong sv_isNamed sv_goes sv_goesSize sv_goesAt sv_targetParts sv_isRoot)), ((ma 0), .inl (cB, 400, .inl fX)), ((ma 1), .inl (cI, 40, .inl fK)), ((ma 2), .inl (cI, 40, .inl fP)), ((ma 4), .inl (cI, 40, .inl fO)), ((ma 5), .inl (cI, 40, .inl fG)), ((ma 6), .inl (cI, 40, .inl fSz)), ((ma 7), .inl (cI, 40, .inl fSd)), ((ma 8), .inl (cB, 1200, .inl fN)), ((ma 9), .inl (cI, 40, .inl fNS)), ((ma 10), .inl (cB, 8000, .inl fT)), ((ma 11), .inl (cI, 40, .inl fTS)), ((ma 3), .inl (cI, 40, .inl fM))] H := hP
  have hD : va_D A [(h0, .inr (11, MO ma 0 sv_length sv_nodes sv_many sv_directories sv_runsFrom sv_runs sv_read sv_wrong sv_isNamed sv_goes sv_goesSize sv_goesAt sv_targetParts sv_isRoot)), ((ma 0), .inl (cB, 400, .inl fX)), ((ma 1), .inl (cI, 40, .inl fK)), ((ma 2), .inl (cI, 40, .inl fP)), ((ma 4), .inl (cI, 40, .inl fO)), ((ma 5), .inl (cI, 40, .inl fG)), ((ma 6), .inl (cI, 40, .inl fSz)), ((ma 7), .inl (cI, 40, .inl fSd)), ((ma 8), .inl (cB, 1200, .inl fN)), ((ma 9), .inl (cI, 40, .inl fNS)), ((ma 10), .inl (cB, 8000, .inl fT)), ((ma 11), .inl (cI, 40, .inl fTS)), ((ma 3), .inl (cI, 40, .inl fM))] := hD
  refine lv_aload_n hx hb d_DiscMakerModel_directory_5 rfl (lv_at hl 0 rfl) ?_
  refine lv_iload_n hx hb d_DiscMakerModel_directory_6 rfl (lv_at hl 1 rfl) ?_
  refine lv_iconst (v := 0) hx hb d_DiscMakerModel_directory_7 (by decide) ?_
  refine lv_aload_n hx hb d_DiscMakerModel_directory_8 rfl (lv_at hl 0 rfl) ?_
  refine va_get (D := D) (ci := 11) (v := .int sv_length) (C := "DiscMakerModel") (T := F_DiscMakerModel) (N := 48) hx hb ht9 in_DiscMakerModel hown hK hP 0 rfl rfl 2 (by decide) (ht9 _ k1433) (fun _ h9 => h9) rfl d_DiscMakerModel_directory_9 ?_
  refine zz_lab (P := fun (lk : Nat) (H : Heap) (locs : List Loc) (ls : Array Slot) (stk : List Value) => ∃ (jf : Int32) , lk = 0 ∧ stk = [.int jf, .int sv_length, .int 0, .int x, .ref h0] ∧ (0 ≤ jf.toInt ∧ jf.toInt ≤ 1) ∧ va_P D CL [(h0, .inr (11, MO ma 0 sv_length sv_nodes sv_many sv_directories sv_runsFrom sv_runs sv_read sv_wrong sv_isNamed sv_goes sv_goesSize sv_goesAt sv_targetParts sv_isRoot)), ((ma 0), .inl (cB, 400, .inl fX)), ((ma 1), .inl (cI, 40, .inl fK)), ((ma 2), .inl (cI, 40, .inl fP)), ((ma 4), .inl (cI, 40, .inl fO)), ((ma 5), .inl (cI, 40, .inl fG)), ((ma 6), .inl (cI, 40, .inl fSz)), ((ma 7), .inl (cI, 40, .inl fSd)), ((ma 8), .inl (cB, 1200, .inl fN)), ((ma 9), .inl (cI, 40, .inl fNS)), ((ma 10), .inl (cB, 8000, .inl fT)), ((ma 11), .inl (cI, 40, .inl fTS)), ((ma 3), .inl (cI, 40, .inl fM))] H ∧ va_D A [(h0, .inr (11, MO ma 0 sv_length sv_nodes sv_many sv_directories sv_runsFrom sv_runs sv_read sv_wrong sv_isNamed sv_goes sv_goesSize sv_goesAt sv_targetParts sv_isRoot)), ((ma 0), .inl (cB, 400, .inl fX)), ((ma 1), .inl (cI, 40, .inl fK)), ((ma 2), .inl (cI, 40, .inl fP)), ((ma 4), .inl (cI, 40, .inl fO)), ((ma 5), .inl (cI, 40, .inl fG)), ((ma 6), .inl (cI, 40, .inl fSz)), ((ma 7), .inl (cI, 40, .inl fSd)), ((ma 8), .inl (cB, 1200, .inl fN)), ((ma 9), .inl (cI, 40, .inl fNS)), ((ma 10), .inl (cB, 8000, .inl fT)), ((ma 11), .inl (cI, 40, .inl fTS)), ((ma 3), .inl (cI, 40, .inl fM))] ∧ va_S A s.heap H locs ∧ lv_has ls 6 [(0, .ref h0), (1, .int x), (2, .int y), (3, .int z), (4, .int w)]) 39 ?_ ?_
  · skip
    intro lk ih39 H locs ls stk hI
    obtain ⟨jf, hm39, rfl, fj, hP, hD, hS, hl⟩ := hI
    have hPc := hP.sub (ws' := [(h0, .inr (11, MO ma 0 sv_length sv_nodes sv_many sv_directories sv_runsFrom sv_runs sv_read sv_wrong sv_isNamed sv_goes sv_goesSize sv_goesAt sv_targetParts sv_isRoot)), ((ma 0), .inl (cB, 400, .inl fX)), ((ma 1), .inl (cI, 40, .inl fK)), ((ma 2), .inl (cI, 40, .inl fP)), ((ma 4), .inl (cI, 40, .inl fO)), ((ma 5), .inl (cI, 40, .inl fG)), ((ma 6), .inl (cI, 40, .inl fSz)), ((ma 7), .inl (cI, 40, .inl fSd)), ((ma 8), .inl (cB, 1200, .inl fN)), ((ma 9), .inl (cI, 40, .inl fNS)), ((ma 10), .inl (cB, 8000, .inl fT)), ((ma 11), .inl (cI, 40, .inl fTS))]) [0, 1, 2, 3, 4, 5, 6, 7, 8, 9, 10, 11] rfl
    have hDc := hD.sub (ws' := [(h0, .inr (11, MO ma 0 sv_length sv_nodes sv_many sv_directories sv_runsFrom sv_runs sv_read sv_wrong sv_isNamed sv_goes sv_goesSize sv_goesAt sv_targetParts sv_isRoot)), ((ma 0), .inl (cB, 400, .inl fX)), ((ma 1), .inl (cI, 40, .inl fK)), ((ma 2), .inl (cI, 40, .inl fP)), ((ma 4), .inl (cI, 40, .inl fO)), ((ma 5), .inl (cI, 40, .inl fG)), ((ma 6), .inl (cI, 40, .inl fSz)), ((ma 7), .inl (cI, 40, .inl fSd)), ((ma 8), .inl (cB, 1200, .inl fN)), ((ma 9), .inl (cI, 40, .inl fNS)), ((ma 10), .inl (cB, 8000, .inl fT)), ((ma 11), .inl (cI, 40, .inl fTS))]) [0, 1, 2, 3, 4, 5, 6, 7, 8, 9, 10, 11] (by decide) rfl
    have hFc := va_free (wc := [(h0, .inr (11, MO ma 0 sv_length sv_nodes sv_many sv_directories sv_runsFrom sv_runs sv_read sv_wrong sv_isNamed sv_goes sv_goesSize sv_goesAt sv_targetParts sv_isRoot)), ((ma 0), .inl (cB, 400, .inl fX)), ((ma 1), .inl (cI, 40, .inl fK)), ((ma 2), .inl (cI, 40, .inl fP)), ((ma 4), .inl (cI, 40, .inl fO)), ((ma 5), .inl (cI, 40, .inl fG)), ((ma 6), .inl (cI, 40, .inl fSz)), ((ma 7), .inl (cI, 40, .inl fSd)), ((ma 8), .inl (cB, 1200, .inl fN)), ((ma 9), .inl (cI, 40, .inl fNS)), ((ma 10), .inl (cB, 8000, .inl fT)), ((ma 11), .inl (cI, 40, .inl fTS))]) hD hS hA [0, 1, 2, 3, 4, 5, 6, 7, 8, 9, 10, 11] rfl
    have hkc : 0 ≤ 0 := by decide
    have hks : 0 ≤ 0 := by decide
    refine va_calli (va_runV (C := "DiscMakerModel") (As := [.int x, .int 0, .int sv_length, .int jf]) (rest := []) ⟨hx, hb, hml, hown, hts⟩ (m_add l D cB cI cJ cZ cN cF H.size h0 ma 0 sv_length sv_nodes sv_many sv_directories sv_runsFrom sv_runs sv_read sv_wrong sv_isNamed sv_goes sv_goesSize sv_goesAt sv_targetParts sv_isRoot fX fK fP fO fG fSz fSd fN fNS fT fTS x 0 sv_length jf (by (try dsimp only); first | omega | assumption | trivial) (by (try dsimp only); first | omega | assumption | trivial) (by (try dsimp only); first | omega | assumption | trivial) (by (try dsimp only); first | omega | assumption | trivial) (by (try dsimp only); first | omega | assumption | trivial)) (cwV 4 hts (lg_goodV k1594 k1596 k52 k125 kc_DiscMakerModel_add) rfl rfl rfl (by decide +kernel) ⟨Nat.le_of_ble_eq_true rfl, Nat.le_of_ble_eq_true rfl⟩) ⟨fun a U g mk q => by obtain ⟨q0, q1, qP, qK, qN, qD⟩ := q; exact ⟨q0, q1, qP, va_K.moved (u := U) (U := U.calling g mk a) (Vm.Alike.refl U.vm) qK, qN.calling, qD⟩, va_recv hK hP (ci := 11) (q0 := 0) rfl rfl, fun U hU hW => ⟨rfl, by rw [hU], by rw [hU]; exact hPc, va_K.moved hW.alike hK, NN.warm hW hN, hDc.weaken (fun _ _ _ _ => trivial)⟩⟩ rfl rfl hl.1 rfl (lv_room (Nat.le_of_ble_eq_true rfl)) d_DiscMakerModel_directory_39 ⟨hkc, hks⟩) hS (fun q _ h => hFc q h) hFc (fun r1 u t H1 locs ht hvm hp_r1 hB hz1 hk1 hS => ?_)
    obtain ⟨nd_2, gK_3, gP_4, gO_5, gG_6, gSz_7, gSd_8, gN_9, gNS_10, gT_11, gTS_12⟩ := u
    obtain ⟨hP1, hD1⟩ := hB
    rw [ht] at hP1
    obtain ⟨hP, hD⟩ := va_join (wr := [((ma 3), .inl (cI, 40, .inl fM))]) (w1 := [(h0, .inr (11, MO ma 0 0 nd_2 sv_many sv_directories sv_runsFrom sv_runs sv_read sv_wrong sv_isNamed sv_goes sv_goesSize sv_goesAt sv_targetParts sv_isRoot)), ((ma 0), .inl (cB, 400, .inl fX)), ((ma 1), .inl (cI, 40, .inl gK_3)), ((ma 2), .inl (cI, 40, .inl gP_4)), ((ma 4), .inl (cI, 40, .inl gO_5)), ((ma 5), .inl (cI, 40, .inl gG_6)), ((ma 6), .inl (cI, 40, .inl gSz_7)), ((ma 7), .inl (cI, 40, .inl gSd_8)), ((ma 8), .inl (cB, 1200, .inl gN_9)), ((ma 9), .inl (cI, 40, .inl gNS_10)), ((ma 10), .inl (cB, 8000, .inl gT_11)), ((ma 11), .inl (cI, 40, .inl gTS_12))]) hP hD [0, 1, 2, 3, 4, 5, 6, 7, 8, 9, 10, 11] [12] rfl rfl (by decide) (by decide) hk1 hFc hP1 hD1
    clear hPc hDc hFc hP1 hD1 hk1 hz1
    generalize H1 = H at hP hS ⊢
    have hP : va_P D CL [((ma 3), .inl (cI, 40, .inl fM)), (h0, .inr (11, MO ma 0 0 nd_2 sv_many sv_directories sv_runsFrom sv_runs sv_read sv_wrong sv_isNamed sv_goes sv_goesSize sv_goesAt sv_targetParts sv_isRoot)), ((ma 0), .inl (cB, 400, .inl fX)), ((ma 1), .inl (cI, 40, .inl gK_3)), ((ma 2), .inl (cI, 40, .inl gP_4)), ((ma 4), .inl (cI, 40, .inl gO_5)), ((ma 5), .inl (cI, 40, .inl gG_6)), ((ma 6), .inl (cI, 40, .inl gSz_7)), ((ma 7), .inl (cI, 40, .inl gSd_8)), ((ma 8), .inl (cB, 1200, .inl gN_9)), ((ma 9), .inl (cI, 40, .inl gNS_10)), ((ma 10), .inl (cB, 8000, .inl gT_11)), ((ma 11), .inl (cI, 40, .inl gTS_12))] H := hP
    have hD : va_D A [((ma 3), .inl (cI, 40, .inl fM)), (h0, .inr (11, MO ma 0 0 nd_2 sv_many sv_directories sv_runsFrom sv_runs sv_read sv_wrong sv_isNamed sv_goes sv_goesSize sv_goesAt sv_targetParts sv_isRoot)), ((ma 0), .inl (cB, 400, .inl fX)), ((ma 1), .inl (cI, 40, .inl gK_3)), ((ma 2), .inl (cI, 40, .inl gP_4)), ((ma 4), .inl (cI, 40, .inl gO_5)), ((ma 5), .inl (cI, 40, .inl gG_6)), ((ma 6), .inl (cI, 40, .inl gSz_7)), ((ma 7), .inl (cI, 40, .inl gSd_8)), ((ma 8), .inl (cB, 1200, .inl gN_9)), ((ma 9), .inl (cI, 40, .inl gNS_10)), ((ma 10), .inl (cB, 8000, .inl gT_11)), ((ma 11), .inl (cI, 40, .inl gTS_12))] := hD
    try dsimp only at hp_r1
    obtain ⟨hr_13, hT_14⟩ := hp_r1
    have hn9 := hT_14.n1
    refine lv_istore hx hb d_DiscMakerModel_directory_42 hl (by decide) rfl (fun ls hl => ?_)
    have hl : lv_has ls 6 [(5, .int r1), (0, .ref h0), (1, .int x), (2, .int y), (3, .int z), (4, .int w)] := hl
    refine lv_iload hx hb d_DiscMakerModel_directory_44 (lv_at hl 0 rfl) ?_
    refine lv_if_ge (tgt := 52) hx hb d_DiscMakerModel_directory_46 (by decide) (fun h_9 => ?_) (fun h_9 => ?_)
    · skip
      have g46_12 : 0 ≤ r1.toInt := (i_le (by decide) rfl).mp h_9
      refine lv_aload_n hx hb d_DiscMakerModel_directory_52 rfl (lv_at hl 1 rfl) ?_
      refine va_get (D := D) (ci := 11) (v := .ref (ma 3)) (C := "DiscMakerModel") (T := F_DiscMakerModel) (N := 48) hx hb ht9 in_DiscMakerModel hown hK hP 1 rfl rfl 6 (by decide) (ht9 _ k1437) (fun _ h9 => h9) rfl d_DiscMakerModel_directory_53 ?_
      refine lv_iload hx hb d_DiscMakerModel_directory_56 (lv_at hl 0 rfl) ?_
      refine lv_iload_n hx hb d_DiscMakerModel_directory_58 rfl (lv_at hl 3 rfl) ?_
      refine zq_iast hx hb hK hP hD hS 0 1 rfl rfl (vp_in_iff.mpr ⟨by omega, by omega⟩) d_DiscMakerModel_directory_59 (fun f15 e_f15 H locs hP hD hS => ?_)
      have hP : va_P D CL [((ma 3), .inl (cI, 40, .inl f15)), (h0, .inr (11, MO ma 0 0 nd_2 sv_many sv_directories sv_runsFrom sv_runs sv_read sv_wrong sv_isNamed sv_goes sv_goesSize sv_goesAt sv_targetParts sv_isRoot)), ((ma 0), .inl (cB, 400, .inl fX)), ((ma 1), .inl (cI, 40, .inl gK_3)), ((ma 2), .inl (cI, 40, .inl gP_4)), ((ma 4), .inl (cI, 40, .inl gO_5)), ((ma 5), .inl (cI, 40, .inl gG_6)), ((ma 6), .inl (cI, 40, .inl gSz_7)), ((ma 7), .inl (cI, 40, .inl gSd_8)), ((ma 8), .inl (cB, 1200, .inl gN_9)), ((ma 9), .inl (cI, 40, .inl gNS_10)), ((ma 10), .inl (cB, 8000, .inl gT_11)), ((ma 11), .inl (cI, 40, .inl gTS_12))] H := hP
      have hD : va_D A [((ma 3), .inl (cI, 40, .inl f15)), (h0, .inr (11, MO ma 0 0 nd_2 sv_many sv_directories sv_runsFrom sv_runs sv_read sv_wrong sv_isNamed sv_goes sv_goesSize sv_goesAt sv_targetParts sv_isRoot)), ((ma 0), .inl (cB, 400, .inl fX)), ((ma 1), .inl (cI, 40, .inl gK_3)), ((ma 2), .inl (cI, 40, .inl gP_4)), ((ma 4), .inl (cI, 40, .inl gO_5)), ((ma 5), .inl (cI, 40, .inl gG_6)), ((ma 6), .inl (cI, 40, .inl gSz_7)), ((ma 7), .inl (cI, 40, .inl gSd_8)), ((ma 8), .inl (cB, 1200, .inl gN_9)), ((ma 9), .inl (cI, 40, .inl gNS_10)), ((ma 10), .inl (cB, 8000, .inl gT_11)), ((ma 11), .inl (cI, 40, .inl gTS_12))] := hD
      have s_f15 : f15 r1.toNatClampNeg = y := by rw [e_f15]; unfold upd; rw [if_pos rfl]
      refine lv_aload_n hx hb d_DiscMakerModel_directory_60 rfl (lv_at hl 1 rfl) ?_
      refine va_get (D := D) (ci := 11) (v := .ref (ma 4)) (C := "DiscMakerModel") (T := F_DiscMakerModel) (N := 48) hx hb ht9 in_DiscMakerModel hown hK hP 1 rfl rfl 7 (by decide) (ht9 _ k1438) (fun _ h9 => h9) rfl d_DiscMakerModel_directory_61 ?_
      refine lv_iload hx hb d_DiscMakerModel_directory_64 (lv_at hl 0 rfl) ?_
      refine lv_iload_n hx hb d_DiscMakerModel_directory_66 rfl (lv_at hl 4 rfl) ?_
      refine zq_iast hx hb hK hP hD hS 5 1 rfl rfl (vp_in_iff.mpr ⟨by omega, by omega⟩) d_DiscMakerModel_directory_67 (fun f16 e_f16 H locs hP hD hS => ?_)
      have hP : va_P D CL [((ma 3), .inl (cI, 40, .inl f15)), (h0, .inr (11, MO ma 0 0 nd_2 sv_many sv_directories sv_runsFrom sv_runs sv_read sv_wrong sv_isNamed sv_goes sv_goesSize sv_goesAt sv_targetParts sv_isRoot)), ((ma 0), .inl (cB, 400, .inl fX)), ((ma 1), .inl (cI, 40, .inl gK_3)), ((ma 2), .inl (cI, 40, .inl gP_4)), ((ma 4), .inl (cI, 40, .inl f16)), ((ma 5), .inl (cI, 40, .inl gG_6)), ((ma 6), .inl (cI, 40, .inl gSz_7)), ((ma 7), .inl (cI, 40, .inl gSd_8)), ((ma 8), .inl (cB, 1200, .inl gN_9)), ((ma 9), .inl (cI, 40, .inl gNS_10)), ((ma 10), .inl (cB, 8000, .inl gT_11)), ((ma 11), .inl (cI, 40, .inl gTS_12))] H := hP
      have hD : va_D A [((ma 3), .inl (cI, 40, .inl f15)), (h0, .inr (11, MO ma 0 0 nd_2 sv_many sv_directories sv_runsFrom sv_runs sv_read sv_wrong sv_isNamed sv_goes sv_goesSize sv_goesAt sv_targetParts sv_isRoot)), ((ma 0), .inl (cB, 400, .inl fX)), ((ma 1), .inl (cI, 40, .inl gK_3)), ((ma 2), .inl (cI, 40, .inl gP_4)), ((ma 4), .inl (cI, 40, .inl f16)), ((ma 5), .inl (cI, 40, .inl gG_6)), ((ma 6), .inl (cI, 40, .inl gSz_7)), ((ma 7), .inl (cI, 40, .inl gSd_8)), ((ma 8), .inl (cB, 1200, .inl gN_9)), ((ma 9), .inl (cI, 40, .inl gNS_10)), ((ma 10), .inl (cB, 8000, .inl gT_11)), ((ma 11), .inl (cI, 40, .inl gTS_12))] := hD
      have s_f16 : f16 r1.toNatClampNeg = z := by rw [e_f16]; unfold upd; rw [if_pos rfl]
      refine lv_aload_n hx hb d_DiscMakerModel_directory_68 rfl (lv_at hl 1 rfl) ?_
      refine va_get (D := D) (ci := 11) (v := .ref (ma 5)) (C := "DiscMakerModel") (T := F_DiscMakerModel) (N := 48) hx hb ht9 in_DiscMakerModel hown hK hP 1 rfl rfl 8 (by decide) (ht9 _ k1439) (fun _ h9 => h9) rfl d_DiscMakerModel_directory_69 ?_
      refine lv_iload hx hb d_DiscMakerModel_directory_72 (lv_at hl 0 rfl) ?_
      refine lv_iload hx hb d_DiscMakerModel_directory_74 (lv_at hl 5 rfl) ?_
      refine zq_iast hx hb hK hP hD hS 6 1 rfl rfl (vp_in_iff.mpr ⟨by omega, by omega⟩) d_DiscMakerModel_directory_76 (fun f17 e_f17 H locs hP hD hS => ?_)
      have hP : va_P D CL [((ma 3), .inl (cI, 40, .inl f15)), (h0, .inr (11, MO ma 0 0 nd_2 sv_many sv_directories sv_runsFrom sv_runs sv_read sv_wrong sv_isNamed sv_goes sv_goesSize sv_goesAt sv_targetParts sv_isRoot)), ((ma 0), .inl (cB, 400, .inl fX)), ((ma 1), .inl (cI, 40, .inl gK_3)), ((ma 2), .inl (cI, 40, .inl gP_4)), ((ma 4), .inl (cI, 40, .inl f16)), ((ma 5), .inl (cI, 40, .inl f17)), ((ma 6), .inl (cI, 40, .inl gSz_7)), ((ma 7), .inl (cI, 40, .inl gSd_8)), ((ma 8), .inl (cB, 1200, .inl gN_9)), ((ma 9), .inl (cI, 40, .inl gNS_10)), ((ma 10), .inl (cB, 8000, .inl gT_11)), ((ma 11), .inl (cI, 40, .inl gTS_12))] H := hP
      have hD : va_D A [((ma 3), .inl (cI, 40, .inl f15)), (h0, .inr (11, MO ma 0 0 nd_2 sv_many sv_directories sv_runsFrom sv_runs sv_read sv_wrong sv_isNamed sv_goes sv_goesSize sv_goesAt sv_targetParts sv_isRoot)), ((ma 0), .inl (cB, 400, .inl fX)), ((ma 1), .inl (cI, 40, .inl gK_3)), ((ma 2), .inl (cI, 40, .inl gP_4)), ((ma 4), .inl (cI, 40, .inl f16)), ((ma 5), .inl (cI, 40, .inl f17)), ((ma 6), .inl (cI, 40, .inl gSz_7)), ((ma 7), .inl (cI, 40, .inl gSd_8)), ((ma 8), .inl (cB, 1200, .inl gN_9)), ((ma 9), .inl (cI, 40, .inl gNS_10)), ((ma 10), .inl (cB, 8000, .inl gT_11)), ((ma 11), .inl (cI, 40, .inl gTS_12))] := hD
      have s_f17 : f17 r1.toNatClampNeg = w := by rw [e_f17]; unfold upd; rw [if_pos rfl]
      refine lv_iload hx hb d_DiscMakerModel_directory_77 (lv_at hl 0 rfl) ?_
      have hP9 := hP.sub (ws' := [(h0, .inr (11, MO ma 0 0 nd_2 sv_many sv_directories sv_runsFrom sv_runs sv_read sv_wrong sv_isNamed sv_goes sv_goesSize sv_goesAt sv_targetParts sv_isRoot)), ((ma 0), .inl (cB, 400, .inl fX)), ((ma 1), .inl (cI, 40, .inl gK_3)), ((ma 2), .inl (cI, 40, .inl gP_4)), ((ma 4), .inl (cI, 40, .inl f16)), ((ma 5), .inl (cI, 40, .inl f17)), ((ma 6), .inl (cI, 40, .inl gSz_7)), ((ma 7), .inl (cI, 40, .inl gSd_8)), ((ma 8), .inl (cB, 1200, .inl gN_9)), ((ma 9), .inl (cI, 40, .inl gNS_10)), ((ma 10), .inl (cB, 8000, .inl gT_11)), ((ma 11), .inl (cI, 40, .inl gTS_12)), ((ma 3), .inl (cI, 40, .inl f15))]) [1, 2, 3, 4, 5, 6, 7, 8, 9, 10, 11, 12, 0] rfl
      have hD9 := hD.sub (ws' := [(h0, .inr (11, MO ma 0 0 nd_2 sv_many sv_directories sv_runsFrom sv_runs sv_read sv_wrong sv_isNamed sv_goes sv_goesSize sv_goesAt sv_targetParts sv_isRoot)), ((ma 0), .inl (cB, 400, .inl fX)), ((ma 1), .inl (cI, 40, .inl gK_3)), ((ma 2), .inl (cI, 40, .inl gP_4)), ((ma 4), .inl (cI, 40, .inl f16)), ((ma 5), .inl (cI, 40, .inl f17)), ((ma 6), .inl (cI, 40, .inl gSz_7)), ((ma 7), .inl (cI, 40, .inl gSd_8)), ((ma 8), .inl (cB, 1200, .inl gN_9)), ((ma 9), .inl (cI, 40, .inl gNS_10)), ((ma 10), .inl (cB, 8000, .inl gT_11)), ((ma 11), .inl (cI, 40, .inl gTS_12)), ((ma 3), .inl (cI, 40, .inl f15))]) [1, 2, 3, 4, 5, 6, 7, 8, 9, 10, 11, 12, 0] (by decide) rfl
      exact W.iret (v := r1) hx hb hr (fun t ht hW => ⟨⟨r1, (0, nd_2, gK_3, gP_4, f16, f17, gSz_7, gSd_8, gN_9, gNS_10, gT_11, gTS_12, f15), rfl, hT_14, by rw [ht]; exact hP9, hD9⟩, hS.F ht⟩) hS.2.2 d_DiscMakerModel_directory_79
    · skip
      have g46_12 : ¬ 0 ≤ r1.toInt := fun h8 => h_9 ((i_le (by decide) rfl).mpr h8)
      refine lv_iload hx hb d_DiscMakerModel_directory_49 (lv_at hl 0 rfl) ?_
      have hP9 := hP.sub (ws' := [(h0, .inr (11, MO ma 0 0 nd_2 sv_many sv_directories sv_runsFrom sv_runs sv_read sv_wrong sv_isNamed sv_goes sv_goesSize sv_goesAt sv_targetParts sv_isRoot)), ((ma 0), .inl (cB, 400, .inl fX)), ((ma 1), .inl (cI, 40, .inl gK_3)), ((ma 2), .inl (cI, 40, .inl gP_4)), ((ma 4), .inl (cI, 40, .inl gO_5)), ((ma 5), .inl (cI, 40, .inl gG_6)), ((ma 6), .inl (cI, 40, .inl gSz_7)), ((ma 7), .inl (cI, 40, .inl gSd_8)), ((ma 8), .inl (cB, 1200, .inl gN_9)), ((ma 9), .inl (cI, 40, .inl gNS_10)), ((ma 10), .inl (cB, 8000, .inl gT_11)), ((ma 11), .inl (cI, 40, .inl gTS_12)), ((ma 3), .inl (cI, 40, .inl fM))]) [1, 2, 3, 4, 5, 6, 7, 8, 9, 10, 11, 12, 0] rfl
      have hD9 := hD.sub (ws' := [(h0, .inr (11, MO ma 0 0 nd_2 sv_many sv_directories sv_runsFrom sv_runs sv_read sv_wrong sv_isNamed sv_goes sv_goesSize sv_goesAt sv_targetParts sv_isRoot)), ((ma 0), .inl (cB, 400, .inl fX)), ((ma 1), .inl (cI, 40, .inl gK_3)), ((ma 2), .inl (cI, 40, .inl gP_4)), ((ma 4), .inl (cI, 40, .inl gO_5)), ((ma 5), .inl (cI, 40, .inl gG_6)), ((ma 6), .inl (cI, 40, .inl gSz_7)), ((ma 7), .inl (cI, 40, .inl gSd_8)), ((ma 8), .inl (cB, 1200, .inl gN_9)), ((ma 9), .inl (cI, 40, .inl gNS_10)), ((ma 10), .inl (cB, 8000, .inl gT_11)), ((ma 11), .inl (cI, 40, .inl gTS_12)), ((ma 3), .inl (cI, 40, .inl fM))]) [1, 2, 3, 4, 5, 6, 7, 8, 9, 10, 11, 12, 0] (by decide) rfl
      exact W.iret (v := r1) hx hb hr (fun t ht hW => ⟨⟨r1, (0, nd_2, gK_3, gP_4, gO_5, gG_6, gSz_7, gSd_8, gN_9, gNS_10, gT_11, gTS_12, fM), rfl, hT_14, by rw [ht]; exact hP9, hD9⟩, hS.F ht⟩) hS.2.2 d_DiscMakerModel_directory_51
  · skip
    intro kk39
    refine lv_iload_n hx hb d_DiscMakerModel_directory_12 rfl (lv_at hl 2 rfl) ?_
    have hPc := hP.sub (ws' := []) [] rfl
    have hDc := hD.sub (ws' := []) [] (by decide) rfl
    have hFc := va_free (wc := []) hD hS hA [] rfl
    have hkc : 0 ≤ 0 := by decide
    have hks : 0 ≤ 0 := by decide
    refine va_calli (va_runS (As := [.int y]) (rest := [.int sv_length, .int 0, .int x, .ref h0]) ⟨hx, hb, hml, hown, hts⟩ (m_isNumber l D cB cI cJ cZ cN cF H.size y) (cwS 1 hts (lg_goodS k1590 k1591 k125 kc_DiscMakerModel_isNumber) rfl rfl rfl (by decide +kernel) ⟨Nat.le_of_ble_eq_true rfl, Nat.le_of_ble_eq_true rfl⟩) ⟨fun a U g mk q => by obtain ⟨q0, q1, qP, qK, qN, qD⟩ := q; exact ⟨q0, q1, qP, va_K.moved (u := U) (U := U.calling g mk a) (Vm.Alike.refl U.vm) qK, qN.calling, qD⟩, fun U hU hW => ⟨rfl, by rw [hU], by rw [hU]; exact hPc, va_K.moved hW.alike hK, NN.warm hW hN, hDc.weaken (fun _ _ _ _ => trivial)⟩⟩ rfl rfl hl.1 rfl (lv_room (Nat.le_of_ble_eq_true rfl)) d_DiscMakerModel_directory_13 ⟨hkc, hks⟩) hS (fun q _ h => hFc q h) hFc (fun r18 u t H1 locs ht hvm hp_r18 hB hz1 hk1 hS => ?_)
    obtain ⟨hP1, hD1⟩ := hB
    rw [ht] at hP1
    obtain ⟨hP, hD⟩ := va_join (wr := [(h0, .inr (11, MO ma 0 sv_length sv_nodes sv_many sv_directories sv_runsFrom sv_runs sv_read sv_wrong sv_isNamed sv_goes sv_goesSize sv_goesAt sv_targetParts sv_isRoot)), ((ma 0), .inl (cB, 400, .inl fX)), ((ma 1), .inl (cI, 40, .inl fK)), ((ma 2), .inl (cI, 40, .inl fP)), ((ma 4), .inl (cI, 40, .inl fO)), ((ma 5), .inl (cI, 40, .inl fG)), ((ma 6), .inl (cI, 40, .inl fSz)), ((ma 7), .inl (cI, 40, .inl fSd)), ((ma 8), .inl (cB, 1200, .inl fN)), ((ma 9), .inl (cI, 40, .inl fNS)), ((ma 10), .inl (cB, 8000, .inl fT)), ((ma 11), .inl (cI, 40, .inl fTS)), ((ma 3), .inl (cI, 40, .inl fM))]) (w1 := []) hP hD [] [0, 1, 2, 3, 4, 5, 6, 7, 8, 9, 10, 11, 12] rfl rfl (by decide) (by decide) hk1 hFc hP1 hD1
    clear hPc hDc hFc hP1 hD1 hk1 hz1
    generalize H1 = H at hP hS ⊢
    have hP : va_P D CL [(h0, .inr (11, MO ma 0 sv_length sv_nodes sv_many sv_directories sv_runsFrom sv_runs sv_read sv_wrong sv_isNamed sv_goes sv_goesSize sv_goesAt sv_targetParts sv_isRoot)), ((ma 0), .inl (cB, 400, .inl fX)), ((ma 1), .inl (cI, 40, .inl fK)), ((ma 2), .inl (cI, 40, .inl fP)), ((ma 4), .inl (cI, 40, .inl fO)), ((ma 5), .inl (cI, 40, .inl fG)), ((ma 6), .inl (cI, 40, .inl fSz)), ((ma 7), .inl (cI, 40, .inl fSd)), ((ma 8), .inl (cB, 1200, .inl fN)), ((ma 9), .inl (cI, 40, .inl fNS)), ((ma 10), .inl (cB, 8000, .inl fT)), ((ma 11), .inl (cI, 40, .inl fTS)), ((ma 3), .inl (cI, 40, .inl fM))] H := hP
    have hD : va_D A [(h0, .inr (11, MO ma 0 sv_length sv_nodes sv_many sv_directories sv_runsFrom sv_runs sv_read sv_wrong sv_isNamed sv_goes sv_goesSize sv_goesAt sv_targetParts sv_isRoot)), ((ma 0), .inl (cB, 400, .inl fX)), ((ma 1), .inl (cI, 40, .inl fK)), ((ma 2), .inl (cI, 40, .inl fP)), ((ma 4), .inl (cI, 40, .inl fO)), ((ma 5), .inl (cI, 40, .inl fG)), ((ma 6), .inl (cI, 40, .inl fSz)), ((ma 7), .inl (cI, 40, .inl fSd)), ((ma 8), .inl (cB, 1200, .inl fN)), ((ma 9), .inl (cI, 40, .inl fNS)), ((ma 10), .inl (cB, 8000, .inl fT)), ((ma 11), .inl (cI, 40, .inl fTS)), ((ma 3), .inl (cI, 40, .inl fM))] := hD
    try dsimp only at hp_r18
    have hr_19 := hp_r18
    refine lv_if_eq (tgt := 38) hx hb d_DiscMakerModel_directory_16 (by decide) (fun h_9 => ?_) (fun h_9 => ?_)
    · skip
      have g16_34 : r18.toInt = 0 := (i_eq rfl (by decide)).mp h_9
      refine lv_iconst (v := 0) hx hb d_DiscMakerModel_directory_38 (by decide) ?_
      have hP := hP.sub (ws' := [(h0, .inr (11, MO ma 0 sv_length sv_nodes sv_many sv_directories sv_runsFrom sv_runs sv_read sv_wrong sv_isNamed sv_goes sv_goesSize sv_goesAt sv_targetParts sv_isRoot)), ((ma 0), .inl (cB, 400, .inl fX)), ((ma 1), .inl (cI, 40, .inl fK)), ((ma 2), .inl (cI, 40, .inl fP)), ((ma 4), .inl (cI, 40, .inl fO)), ((ma 5), .inl (cI, 40, .inl fG)), ((ma 6), .inl (cI, 40, .inl fSz)), ((ma 7), .inl (cI, 40, .inl fSd)), ((ma 8), .inl (cB, 1200, .inl fN)), ((ma 9), .inl (cI, 40, .inl fNS)), ((ma 10), .inl (cB, 8000, .inl fT)), ((ma 11), .inl (cI, 40, .inl fTS)), ((ma 3), .inl (cI, 40, .inl fM))]) [0, 1, 2, 3, 4, 5, 6, 7, 8, 9, 10, 11, 12] rfl
      have hD := hD.sub (ws' := [(h0, .inr (11, MO ma 0 sv_length sv_nodes sv_many sv_directories sv_runsFrom sv_runs sv_read sv_wrong sv_isNamed sv_goes sv_goesSize sv_goesAt sv_targetParts sv_isRoot)), ((ma 0), .inl (cB, 400, .inl fX)), ((ma 1), .inl (cI, 40, .inl fK)), ((ma 2), .inl (cI, 40, .inl fP)), ((ma 4), .inl (cI, 40, .inl fO)), ((ma 5), .inl (cI, 40, .inl fG)), ((ma 6), .inl (cI, 40, .inl fSz)), ((ma 7), .inl (cI, 40, .inl fSd)), ((ma 8), .inl (cB, 1200, .inl fN)), ((ma 9), .inl (cI, 40, .inl fNS)), ((ma 10), .inl (cB, 8000, .inl fT)), ((ma 11), .inl (cI, 40, .inl fTS)), ((ma 3), .inl (cI, 40, .inl fM))]) [0, 1, 2, 3, 4, 5, 6, 7, 8, 9, 10, 11, 12] (by decide) rfl
      have hl := lv_sub hl [0, 1, 2, 3, 4] rfl
      exact kk39 _ _ _ _ _ ⟨0, rfl, rfl, (by (try dsimp only); first | omega | assumption | trivial), hP, hD, hS, hl⟩
    · skip
      have g16_34 : ¬ r18.toInt = 0 := fun h8 => h_9 ((i_eq rfl (by decide)).mpr h8)
      refine lv_iload_n hx hb d_DiscMakerModel_directory_19 rfl (lv_at hl 3 rfl) ?_
      have hPc := hP.sub (ws' := []) [] rfl
      have hDc := hD.sub (ws' := []) [] (by decide) rfl
      have hFc := va_free (wc := []) hD hS hA [] rfl
      have hkc : 0 ≤ 0 := by decide
      have hks : 0 ≤ 0 := by decide
      refine va_calli (va_runS (As := [.int z]) (rest := [.int sv_length, .int 0, .int x, .ref h0]) ⟨hx, hb, hml, hown, hts⟩ (m_isNumber l D cB cI cJ cZ cN cF H.size z) (cwS 1 hts (lg_goodS k1590 k1591 k125 kc_DiscMakerModel_isNumber) rfl rfl rfl (by decide +kernel) ⟨Nat.le_of_ble_eq_true rfl, Nat.le_of_ble_eq_true rfl⟩) ⟨fun a U g mk q => by obtain ⟨q0, q1, qP, qK, qN, qD⟩ := q; exact ⟨q0, q1, qP, va_K.moved (u := U) (U := U.calling g mk a) (Vm.Alike.refl U.vm) qK, qN.calling, qD⟩, fun U hU hW => ⟨rfl, by rw [hU], by rw [hU]; exact hPc, va_K.moved hW.alike hK, NN.warm hW hN, hDc.weaken (fun _ _ _ _ => trivial)⟩⟩ rfl rfl hl.1 rfl (lv_room (Nat.le_of_ble_eq_true rfl)) d_DiscMakerModel_directory_20 ⟨hkc, hks⟩) hS (fun q _ h => hFc q h) hFc (fun r20 u t H1 locs ht hvm hp_r20 hB hz1 hk1 hS => ?_)
      obtain ⟨hP1, hD1⟩ := hB
      rw [ht] at hP1
      obtain ⟨hP, hD⟩ := va_join (wr := [(h0, .inr (11, MO ma 0 sv_length sv_nodes sv_many sv_directories sv_runsFrom sv_runs sv_read sv_wrong sv_isNamed sv_goes sv_goesSize sv_goesAt sv_targetParts sv_isRoot)), ((ma 0), .inl (cB, 400, .inl fX)), ((ma 1), .inl (cI, 40, .inl fK)), ((ma 2), .inl (cI, 40, .inl fP)), ((ma 4), .inl (cI, 40, .inl fO)), ((ma 5), .inl (cI, 40, .inl fG)), ((ma 6), .inl (cI, 40, .inl fSz)), ((ma 7), .inl (cI, 40, .inl fSd)), ((ma 8), .inl (cB, 1200, .inl fN)), ((ma 9), .inl (cI, 40, .inl fNS)), ((ma 10), .inl (cB, 8000, .inl fT)), ((ma 11), .inl (cI, 40, .inl fTS)), ((ma 3), .inl (cI, 40, .inl fM))]) (w1 := []) hP hD [] [0, 1, 2, 3, 4, 5, 6, 7, 8, 9, 10, 11, 12] rfl rfl (by decide) (by decide) hk1 hFc hP1 hD1
      clear hPc hDc hFc hP1 hD1 hk1 hz1
      generalize H1 = H at hP hS ⊢
      have hP : va_P D CL [(h0, .inr (11, MO ma 0 sv_length sv_nodes sv_many sv_directories sv_runsFrom sv_runs sv_read sv_wrong sv_isNamed sv_goes sv_goesSize sv_goesAt sv_targetParts sv_isRoot)), ((ma 0), .inl (cB, 400, .inl fX)), ((ma 1), .inl (cI, 40, .inl fK)), ((ma 2), .inl (cI, 40, .inl fP)), ((ma 4), .inl (cI, 40, .inl fO)), ((ma 5), .inl (cI, 40, .inl fG)), ((ma 6), .inl (cI, 40, .inl fSz)), ((ma 7), .inl (cI, 40, .inl fSd)), ((ma 8), .inl (cB, 1200, .inl fN)), ((ma 9), .inl (cI, 40, .inl fNS)), ((ma 10), .inl (cB, 8000, .inl fT)), ((ma 11), .inl (cI, 40, .inl fTS)), ((ma 3), .inl (cI, 40, .inl fM))] H := hP
      have hD : va_D A [(h0, .inr (11, MO ma 0 sv_length sv_nodes sv_many sv_directories sv_runsFrom sv_runs sv_read sv_wrong sv_isNamed sv_goes sv_goesSize sv_goesAt sv_targetParts sv_isRoot)), ((ma 0), .inl (cB, 400, .inl fX)), ((ma 1), .inl (cI, 40, .inl fK)), ((ma 2), .inl (cI, 40, .inl fP)), ((ma 4), .inl (cI, 40, .inl fO)), ((ma 5), .inl (cI, 40, .inl fG)), ((ma 6), .inl (cI, 40, .inl fSz)), ((ma 7), .inl (cI, 40, .inl fSd)), ((ma 8), .inl (cB, 1200, .inl fN)), ((ma 9), .inl (cI, 40, .inl fNS)), ((ma 10), .inl (cB, 8000, .inl fT)), ((ma 11), .inl (cI, 40, .inl fTS)), ((ma 3), .inl (cI, 40, .inl fM))] := hD
      try dsimp only at hp_r20
      have hr_21 := hp_r20
      refine lv_if_eq (tgt := 38) hx hb d_DiscMakerModel_directory_23 (by decide) (fun h_9 => ?_) (fun h_9 => ?_)
      · skip
        have g23_39 : r20.toInt = 0 := (i_eq rfl (by decide)).mp h_9
        refine lv_iconst (v := 0) hx hb d_DiscMakerModel_directory_38 (by decide) ?_
        have hP := hP.sub (ws' := [(h0, .inr (11, MO ma 0 sv_length sv_nodes sv_many sv_directories sv_runsFrom sv_runs sv_read sv_wrong sv_isNamed sv_goes sv_goesSize sv_goesAt sv_targetParts sv_isRoot)), ((ma 0), .inl (cB, 400, .inl fX)), ((ma 1), .inl (cI, 40, .inl fK)), ((ma 2), .inl (cI, 40, .inl fP)), ((ma 4), .inl (cI, 40, .inl fO)), ((ma 5), .inl (cI, 40, .inl fG)), ((ma 6), .inl (cI, 40, .inl fSz)), ((ma 7), .inl (cI, 40, .inl fSd)), ((ma 8), .inl (cB, 1200, .inl fN)), ((ma 9), .inl (cI, 40, .inl fNS)), ((ma 10), .inl (cB, 8000, .inl fT)), ((ma 11), .inl (cI, 40, .inl fTS)), ((ma 3), .inl (cI, 40, .inl fM))]) [0, 1, 2, 3, 4, 5, 6, 7, 8, 9, 10, 11, 12] rfl
        have hD := hD.sub (ws' := [(h0, .inr (11, MO ma 0 sv_length sv_nodes sv_many sv_directories sv_runsFrom sv_runs sv_read sv_wrong sv_isNamed sv_goes sv_goesSize sv_goesAt sv_targetParts sv_isRoot)), ((ma 0), .inl (cB, 400, .inl fX)), ((ma 1), .inl (cI, 40, .inl fK)), ((ma 2), .inl (cI, 40, .inl fP)), ((ma 4), .inl (cI, 40, .inl fO)), ((ma 5), .inl (cI, 40, .inl fG)), ((ma 6), .inl (cI, 40, .inl fSz)), ((ma 7), .inl (cI, 40, .inl fSd)), ((ma 8), .inl (cB, 1200, .inl fN)), ((ma 9), .inl (cI, 40, .inl fNS)), ((ma 10), .inl (cB, 8000, .inl fT)), ((ma 11), .inl (cI, 40, .inl fTS)), ((ma 3), .inl (cI, 40, .inl fM))]) [0, 1, 2, 3, 4, 5, 6, 7, 8, 9, 10, 11, 12] (by decide) rfl
        have hl := lv_sub hl [0, 1, 2, 3, 4] rfl
        exact kk39 _ _ _ _ _ ⟨0, rfl, rfl, (by (try dsimp only); first | omega | assumption | trivial), hP, hD, hS, hl⟩
      · skip
        have g23_39 : ¬ r20.toInt = 0 := fun h8 => h_9 ((i_eq rfl (by decide)).mpr h8)
        refine lv_iload hx hb d_DiscMakerModel_directory_26 (lv_at hl 4 rfl) ?_
        have hPc := hP.sub (ws' := []) [] rfl
        have hDc := hD.sub (ws' := []) [] (by decide) rfl
        have hFc := va_free (wc := []) hD hS hA [] rfl
        have hkc : 0 ≤ 0 := by decide
        have hks : 0 ≤ 0 := by decide
        refine va_calli (va_runS (As := [.int w]) (rest := [.int sv_length, .int 0, .int x, .ref h0]) ⟨hx, hb, hml, hown, hts⟩ (m_isNumber l D cB cI cJ cZ cN cF H.size w) (cwS 1 hts (lg_goodS k1590 k1591 k125 kc_DiscMakerModel_isNumber) rfl rfl rfl (by decide +kernel) ⟨Nat.le_of_ble_eq_true rfl, Nat.le_of_ble_eq_true rfl⟩) ⟨fun a U g mk q => by obtain ⟨q0, q1, qP, qK, qN, qD⟩ := q; exact ⟨q0, q1, qP, va_K.moved (u := U) (U := U.calling g mk a) (Vm.Alike.refl U.vm) qK, qN.calling, qD⟩, fun U hU hW => ⟨rfl, by rw [hU], by rw [hU]; exact hPc, va_K.moved hW.alike hK, NN.warm hW hN, hDc.weaken (fun _ _ _ _ => trivial)⟩⟩ rfl rfl hl.1 rfl (lv_room (Nat.le_of_ble_eq_true rfl)) d_DiscMakerModel_directory_28 ⟨hkc, hks⟩) hS (fun q _ h => hFc q h) hFc (fun r22 u t H1 locs ht hvm hp_r22 hB hz1 hk1 hS => ?_)
        obtain ⟨hP1, hD1⟩ := hB
        rw [ht] at hP1
        obtain ⟨hP, hD⟩ := va_join (wr := [(h0, .inr (11, MO ma 0 sv_length sv_nodes sv_many sv_directories sv_runsFrom sv_runs sv_read sv_wrong sv_isNamed sv_goes sv_goesSize sv_goesAt sv_targetParts sv_isRoot)), ((ma 0), .inl (cB, 400, .inl fX)), ((ma 1), .inl (cI, 40, .inl fK)), ((ma 2), .inl (cI, 40, .inl fP)), ((ma 4), .inl (cI, 40, .inl fO)), ((ma 5), .inl (cI, 40, .inl fG)), ((ma 6), .inl (cI, 40, .inl fSz)), ((ma 7), .inl (cI, 40, .inl fSd)), ((ma 8), .inl (cB, 1200, .inl fN)), ((ma 9), .inl (cI, 40, .inl fNS)), ((ma 10), .inl (cB, 8000, .inl fT)), ((ma 11), .inl (cI, 40, .inl fTS)), ((ma 3), .inl (cI, 40, .inl fM))]) (w1 := []) hP hD [] [0, 1, 2, 3, 4, 5, 6, 7, 8, 9, 10, 11, 12] rfl rfl (by decide) (by decide) hk1 hFc hP1 hD1
        clear hPc hDc hFc hP1 hD1 hk1 hz1
        generalize H1 = H at hP hS ⊢
        have hP : va_P D CL [(h0, .inr (11, MO ma 0 sv_length sv_nodes sv_many sv_directories sv_runsFrom sv_runs sv_read sv_wrong sv_isNamed sv_goes sv_goesSize sv_goesAt sv_targetParts sv_isRoot)), ((ma 0), .inl (cB, 400, .inl fX)), ((ma 1), .inl (cI, 40, .inl fK)), ((ma 2), .inl (cI, 40, .inl fP)), ((ma 4), .inl (cI, 40, .inl fO)), ((ma 5), .inl (cI, 40, .inl fG)), ((ma 6), .inl (cI, 40, .inl fSz)), ((ma 7), .inl (cI, 40, .inl fSd)), ((ma 8), .inl (cB, 1200, .inl fN)), ((ma 9), .inl (cI, 40, .inl fNS)), ((ma 10), .inl (cB, 8000, .inl fT)), ((ma 11), .inl (cI, 40, .inl fTS)), ((ma 3), .inl (cI, 40, .inl fM))] H := hP
        have hD : va_D A [(h0, .inr (11, MO ma 0 sv_length sv_nodes sv_many sv_directories sv_runsFrom sv_runs sv_read sv_wrong sv_isNamed sv_goes sv_goesSize sv_goesAt sv_targetParts sv_isRoot)), ((ma 0), .inl (cB, 400, .inl fX)), ((ma 1), .inl (cI, 40, .inl fK)), ((ma 2), .inl (cI, 40, .inl fP)), ((ma 4), .inl (cI, 40, .inl fO)), ((ma 5), .inl (cI, 40, .inl fG)), ((ma 6), .inl (cI, 40, .inl fSz)), ((ma 7), .inl (cI, 40, .inl fSd)), ((ma 8), .inl (cB, 1200, .inl fN)), ((ma 9), .inl (cI, 40, .inl fNS)), ((ma 10), .inl (cB, 8000, .inl fT)), ((ma 11), .inl (cI, 40, .inl fTS)), ((ma 3), .inl (cI, 40, .inl fM))] := hD
        try dsimp only at hp_r22
        have hr_23 := hp_r22
        refine lv_if_eq (tgt := 38) hx hb d_DiscMakerModel_directory_31 (by decide) (fun h_9 => ?_) (fun h_9 => ?_)
        · skip
          have g31_44 : r22.toInt = 0 := (i_eq rfl (by decide)).mp h_9
          refine lv_iconst (v := 0) hx hb d_DiscMakerModel_directory_38 (by decide) ?_
          have hP := hP.sub (ws' := [(h0, .inr (11, MO ma 0 sv_length sv_nodes sv_many sv_directories sv_runsFrom sv_runs sv_read sv_wrong sv_isNamed sv_goes sv_goesSize sv_goesAt sv_targetParts sv_isRoot)), ((ma 0), .inl (cB, 400, .inl fX)), ((ma 1), .inl (cI, 40, .inl fK)), ((ma 2), .inl (cI, 40, .inl fP)), ((ma 4), .inl (cI, 40, .inl fO)), ((ma 5), .inl (cI, 40, .inl fG)), ((ma 6), .inl (cI, 40, .inl fSz)), ((ma 7), .inl (cI, 40, .inl fSd)), ((ma 8), .inl (cB, 1200, .inl fN)), ((ma 9), .inl (cI, 40, .inl fNS)), ((ma 10), .inl (cB, 8000, .inl fT)), ((ma 11), .inl (cI, 40, .inl fTS)), ((ma 3), .inl (cI, 40, .inl fM))]) [0, 1, 2, 3, 4, 5, 6, 7, 8, 9, 10, 11, 12] rfl
          have hD := hD.sub (ws' := [(h0, .inr (11, MO ma 0 sv_length sv_nodes sv_many sv_directories sv_runsFrom sv_runs sv_read sv_wrong sv_isNamed sv_goes sv_goesSize sv_goesAt sv_targetParts sv_isRoot)), ((ma 0), .inl (cB, 400, .inl fX)), ((ma 1), .inl (cI, 40, .inl fK)), ((ma 2), .inl (cI, 40, .inl fP)), ((ma 4), .inl (cI, 40, .inl fO)), ((ma 5), .inl (cI, 40, .inl fG)), ((ma 6), .inl (cI, 40, .inl fSz)), ((ma 7), .inl (cI, 40, .inl fSd)), ((ma 8), .inl (cB, 1200, .inl fN)), ((ma 9), .inl (cI, 40, .inl fNS)), ((ma 10), .inl (cB, 8000, .inl fT)), ((ma 11), .inl (cI, 40, .inl fTS)), ((ma 3), .inl (cI, 40, .inl fM))]) [0, 1, 2, 3, 4, 5, 6, 7, 8, 9, 10, 11, 12] (by decide) rfl
          have hl := lv_sub hl [0, 1, 2, 3, 4] rfl
          exact kk39 _ _ _ _ _ ⟨0, rfl, rfl, (by (try dsimp only); first | omega | assumption | trivial), hP, hD, hS, hl⟩
        · skip
          have g31_44 : ¬ r22.toInt = 0 := fun h8 => h_9 ((i_eq rfl (by decide)).mpr h8)
          refine lv_iconst (v := 1) hx hb d_DiscMakerModel_directory_34 (by decide) ?_
          refine lv_goto (tgt := 39) hx hb d_DiscMakerModel_directory_35 (by decide) ?_
          have hP := hP.sub (ws' := [(h0, .inr (11, MO ma 0 sv_length sv_nodes sv_many sv_directories sv_runsFrom sv_runs sv_read sv_wrong sv_isNamed sv_goes sv_goesSize sv_goesAt sv_targetParts sv_isRoot)), ((ma 0), .inl (cB, 400, .inl fX)), ((ma 1), .inl (cI, 40, .inl fK)), ((ma 2), .inl (cI, 40, .inl fP)), ((ma 4), .inl (cI, 40, .inl fO)), ((ma 5), .inl (cI, 40, .inl fG)), ((ma 6), .inl (cI, 40, .inl fSz)), ((ma 7), .inl (cI, 40, .inl fSd)), ((ma 8), .inl (cB, 1200, .inl fN)), ((ma 9), .inl (cI, 40, .inl fNS)), ((ma 10), .inl (cB, 8000, .inl fT)), ((ma 11), .inl (cI, 40, .inl fTS)), ((ma 3), .inl (cI, 40, .inl fM))]) [0, 1, 2, 3, 4, 5, 6, 7, 8, 9, 10, 11, 12] rfl
          have hD := hD.sub (ws' := [(h0, .inr (11, MO ma 0 sv_length sv_nodes sv_many sv_directories sv_runsFrom sv_runs sv_read sv_wrong sv_isNamed sv_goes sv_goesSize sv_goesAt sv_targetParts sv_isRoot)), ((ma 0), .inl (cB, 400, .inl fX)), ((ma 1), .inl (cI, 40, .inl fK)), ((ma 2), .inl (cI, 40, .inl fP)), ((ma 4), .inl (cI, 40, .inl fO)), ((ma 5), .inl (cI, 40, .inl fG)), ((ma 6), .inl (cI, 40, .inl fSz)), ((ma 7), .inl (cI, 40, .inl fSd)), ((ma 8), .inl (cB, 1200, .inl fN)), ((ma 9), .inl (cI, 40, .inl fNS)), ((ma 10), .inl (cB, 8000, .inl fT)), ((ma 11), .inl (cI, 40, .inl fTS)), ((ma 3), .inl (cI, 40, .inl fM))]) [0, 1, 2, 3, 4, 5, 6, 7, 8, 9, 10, 11, 12] (by decide) rfl
          have hl := lv_sub hl [0, 1, 2, 3, 4] rfl
          exact kk39 _ _ _ _ _ ⟨1, rfl, rfl, (by (try dsimp only); first | omega | assumption | trivial), hP, hD, hS, hl⟩

theorem d_DiscMakerModel_file_0 : decode b_DiscMakerModel_file 0 = .ok (.aload_n 0, 1) := by decide +kernel
theorem d_DiscMakerModel_file_1 : decode b_DiscMakerModel_file 1 = .ok (.iconst 0, 1) := by decide +kernel
theorem d_DiscMakerModel_file_2 : decode b_DiscMakerModel_file 2 = .ok (.putfield 118, 3) := by decide +kernel
theorem d_DiscMakerModel_file_5 : decode b_DiscMakerModel_file 5 = .ok (.aload_n 0, 1) := by decide +kernel
theorem d_DiscMakerModel_file_6 : decode b_DiscMakerModel_file 6 = .ok (.iload_n 1, 1) := by decide +kernel
theorem d_DiscMakerModel_file_7 : decode b_DiscMakerModel_file 7 = .ok (.iconst 1, 1) := by decide +kernel
theorem d_DiscMakerModel_file_8 : decode b_DiscMakerModel_file 8 = .ok (.aload_n 0, 1) := by decide +kernel
theorem d_DiscMakerModel_file_9 : decode b_DiscMakerModel_file 9 = .ok (.getfield 121, 3) := by decide +kernel
theorem d_DiscMakerModel_file_12 : decode b_DiscMakerModel_file 12 = .ok (.iload_n 2, 1) := by decide +kernel
theorem d_DiscMakerModel_file_13 : decode b_DiscMakerModel_file 13 = .ok (.ifCond .lt 25, 3) := by decide +kernel
theorem d_DiscMakerModel_file_16 : decode b_DiscMakerModel_file 16 = .ok (.iload_n 2, 1) := by decide +kernel
theorem d_DiscMakerModel_file_17 : decode b_DiscMakerModel_file 17 = .ok (.sipush 4100, 3) := by decide +kernel
theorem d_DiscMakerModel_file_20 : decode b_DiscMakerModel_file 20 = .ok (.if_icmp .gt 18, 3) := by decide +kernel
theorem d_DiscMakerModel_file_23 : decode b_DiscMakerModel_file 23 = .ok (.iload_n 3, 1) := by decide +kernel
theorem d_DiscMakerModel_file_24 : decode b_DiscMakerModel_file 24 = .ok (.ifCond .lt 14, 3) := by decide +kernel
theorem d_DiscMakerModel_file_27 : decode b_DiscMakerModel_file 27 = .ok (.iload_n 3, 1) := by decide +kernel
theorem d_DiscMakerModel_file_28 : decode b_DiscMakerModel_file 28 = .ok (.sipush 255, 3) := by decide +kernel
theorem d_DiscMakerModel_file_31 : decode b_DiscMakerModel_file 31 = .ok (.if_icmp .gt 7, 3) := by decide +kernel
theorem d_DiscMakerModel_file_34 : decode b_DiscMakerModel_file 34 = .ok (.iconst 1, 1) := by decide +kernel
theorem d_DiscMakerModel_file_35 : decode b_DiscMakerModel_file 35 = .ok (.goto 4, 3) := by decide +kernel
theorem d_DiscMakerModel_file_38 : decode b_DiscMakerModel_file 38 = .ok (.iconst 0, 1) := by decide +kernel
theorem d_DiscMakerModel_file_39 : decode b_DiscMakerModel_file 39 = .ok (.invokevirtual 156, 3) := by decide +kernel
theorem d_DiscMakerModel_file_42 : decode b_DiscMakerModel_file 42 = .ok (.istore 4, 2) := by decide +kernel
theorem d_DiscMakerModel_file_44 : decode b_DiscMakerModel_file 44 = .ok (.iload 4, 2) := by decide +kernel
theorem d_DiscMakerModel_file_46 : decode b_DiscMakerModel_file 46 = .ok (.ifCond .ge 6, 3) := by decide +kernel
theorem d_DiscMakerModel_file_49 : decode b_DiscMakerModel_file 49 = .ok (.iload 4, 2) := by decide +kernel
theorem d_DiscMakerModel_file_51 : decode b_DiscMakerModel_file 51 = .ok (.ireturn, 1) := by decide +kernel
theorem d_DiscMakerModel_file_52 : decode b_DiscMakerModel_file 52 = .ok (.aload_n 0, 1) := by decide +kernel
theorem d_DiscMakerModel_file_53 : decode b_DiscMakerModel_file 53 = .ok (.getfield 20, 3) := by decide +kernel
theorem d_DiscMakerModel_file_56 : decode b_DiscMakerModel_file 56 = .ok (.iload 4, 2) := by decide +kernel
theorem d_DiscMakerModel_file_58 : decode b_DiscMakerModel_file 58 = .ok (.sipush 420, 3) := by decide +kernel
theorem d_DiscMakerModel_file_61 : decode b_DiscMakerModel_file 61 = .ok (.iastore, 1) := by decide +kernel
theorem d_DiscMakerModel_file_62 : decode b_DiscMakerModel_file 62 = .ok (.aload_n 0, 1) := by decide +kernel
theorem d_DiscMakerModel_file_63 : decode b_DiscMakerModel_file 63 = .ok (.getfield 29, 3) := by decide +kernel
theorem d_DiscMakerModel_file_66 : decode b_DiscMakerModel_file 66 = .ok (.iload 4, 2) := by decide +kernel
theorem d_DiscMakerModel_file_68 : decode b_DiscMakerModel_file 68 = .ok (.iload_n 2, 1) := by decide +kernel
theorem d_DiscMakerModel_file_69 : decode b_DiscMakerModel_file 69 = .ok (.iastore, 1) := by decide +kernel
theorem d_DiscMakerModel_file_70 : decode b_DiscMakerModel_file 70 = .ok (.aload_n 0, 1) := by decide +kernel
theorem d_DiscMakerModel_file_71 : decode b_DiscMakerModel_file 71 = .ok (.getfield 32, 3) := by decide +kernel
theorem d_DiscMakerModel_file_74 : decode b_DiscMakerModel_file 74 = .ok (.iload 4, 2) := by decide +kernel
theorem d_DiscMakerModel_file_76 : decode b_DiscMakerModel_file 76 = .ok (.iload_n 3, 1) := by decide +kernel
theorem d_DiscMakerModel_file_77 : decode b_DiscMakerModel_file 77 = .ok (.iastore, 1) := by decide +kernel
theorem d_DiscMakerModel_file_78 : decode b_DiscMakerModel_file 78 = .ok (.iload 4, 2) := by decide +kernel
theorem d_DiscMakerModel_file_80 : decode b_DiscMakerModel_file 80 = .ok (.ireturn, 1) := by decide +kernel
set_option maxHeartbeats 4000000 in
set_option maxRecDepth 100000 in
theorem m_file (l : Launch) (D : va_G) (cB cI cJ cZ cN cF : ClassId) (sz : Nat) (h0 : Nat) (ma : Nat → Nat) (sv_thrown sv_length sv_nodes sv_many sv_directories sv_runsFrom sv_runs sv_read sv_wrong sv_isNamed sv_goes sv_goesSize sv_goesAt sv_targetParts sv_isRoot : Int32) (fX : Nat → Int32) (fK : Nat → Int32) (fP : Nat → Int32) (fO : Nat → Int32) (fG : Nat → Int32) (fSz : Nat → Int32) (fSd : Nat → Int32) (fN : Nat → Int32) (fNS : Nat → Int32) (fT : Nat → Int32) (fTS : Nat → Int32) (fM : Nat → Int32) (x : Int32) (y : Int32) (z : Int32) (hln : 0 ≤ sv_length.toInt ∧ sv_length.toInt ≤ 400) (hT : TI sv_nodes.toInt fK fP fNS fSz fTS) : Met l y_DiscMakerModel_file w_DiscMakerModel_file ({ frames := 3, cells := 0, slots := 0, locals := 74 }) (va_Pc [.ref h0, .int x, .int y, .int z] (fun U => U.heap.size = sz ∧ va_P D CL [(h0, .inr (11, MO ma sv_thrown sv_length sv_nodes sv_many sv_directories sv_runsFrom sv_runs sv_read sv_wrong sv_isNamed sv_goes sv_goesSize sv_goesAt sv_targetParts sv_isRoot)), ((ma 0), .inl (cB, 400, .inl fX)), ((ma 1), .inl (cI, 40, .inl fK)), ((ma 2), .inl (cI, 40, .inl fP)), ((ma 4), .inl (cI, 40, .inl fO)), ((ma 5), .inl (cI, 40, .inl fG)), ((ma 6), .inl (cI, 40, .inl fSz)), ((ma 7), .inl (cI, 40, .inl fSd)), ((ma 8), .inl (cB, 1200, .inl fN)), ((ma 9), .inl (cI, 40, .inl fNS)), ((ma 10), .inl (cB, 8000, .inl fT)), ((ma 11), .inl (cI, 40, .inl fTS)), ((ma 3), .inl (cI, 40, .inl fM))] U.heap ∧ va_K D CL (TY cB cI cJ cZ cN cF) U ∧ NN U ∧ va_D (fun _ => True) [(h0, .inr (11, MO ma sv_thrown sv_length sv_nodes sv_many sv_directories sv_runsFrom sv_runs sv_read sv_wrong sv_isNamed sv_goes sv_goesSize sv_goesAt sv_targetParts sv_isRoot)), ((ma 0), .inl (cB, 400, .inl fX)), ((ma 1), .inl (cI, 40, .inl fK)), ((ma 2), .inl (cI, 40, .inl fP)), ((ma 4), .inl (cI, 40, .inl fO)), ((ma 5), .inl (cI, 40, .inl fG)), ((ma 6), .inl (cI, 40, .inl fSz)), ((ma 7), .inl (cI, 40, .inl fSd)), ((ma 8), .inl (cB, 1200, .inl fN)), ((ma 9), .inl (cI, 40, .inl fNS)), ((ma 10), .inl (cB, 8000, .inl fT)), ((ma 11), .inl (cI, 40, .inl fTS)), ((ma 3), .inl (cI, 40, .inl fM))])) (va_Qi (fun (r : Int32) (u : Int32 × Int32 × (Nat → Int32) × (Nat → Int32) × (Nat → Int32) × (Nat → Int32) × (Nat → Int32) × (Nat → Int32) × (Nat → Int32) × (Nat → Int32) × (Nat → Int32) × (Nat → Int32) × (Nat → Int32)) => match u with | (th, nd, gK, gP, gO, gG, gSz, gSd, gN, gNS, gT, gTS, gM) => (TI nd.toInt gK gP gNS gSz gTS)) (fun (u : Int32 × Int32 × (Nat → Int32) × (Nat → Int32) × (Nat → Int32) × (Nat → Int32) × (Nat → Int32) × (Nat → Int32) × (Nat → Int32) × (Nat → Int32) × (Nat → Int32) × (Nat → Int32) × (Nat → Int32)) (t : State) => match u with | (th, nd, gK, gP, gO, gG, gSz, gSd, gN, gNS, gT, gTS, gM) => va_P D CL [(h0, .inr (11, MO ma th 0 nd sv_many sv_directories sv_runsFrom sv_runs sv_read sv_wrong sv_isNamed sv_goes sv_goesSize sv_goesAt sv_targetParts sv_isRoot)), ((ma 0), .inl (cB, 400, .inl fX)), ((ma 1), .inl (cI, 40, .inl gK)), ((ma 2), .inl (cI, 40, .inl gP)), ((ma 4), .inl (cI, 40, .inl gO)), ((ma 5), .inl (cI, 40, .inl gG)), ((ma 6), .inl (cI, 40, .inl gSz)), ((ma 7), .inl (cI, 40, .inl gSd)), ((ma 8), .inl (cB, 1200, .inl gN)), ((ma 9), .inl (cI, 40, .inl gNS)), ((ma 10), .inl (cB, 8000, .inl gT)), ((ma 11), .inl (cI, 40, .inl gTS)), ((ma 3), .inl (cI, 40, .inl gM))] t.heap ∧ va_D (va_A [(h0, .inr (11, MO ma sv_thrown sv_length sv_nodes sv_many sv_directories sv_runsFrom sv_runs sv_read sv_wrong sv_isNamed sv_goes sv_goesSize sv_goesAt sv_targetParts sv_isRoot)), ((ma 0), .inl (cB, 400, .inl fX)), ((ma 1), .inl (cI, 40, .inl fK)), ((ma 2), .inl (cI, 40, .inl fP)), ((ma 4), .inl (cI, 40, .inl fO)), ((ma 5), .inl (cI, 40, .inl fG)), ((ma 6), .inl (cI, 40, .inl fSz)), ((ma 7), .inl (cI, 40, .inl fSd)), ((ma 8), .inl (cB, 1200, .inl fN)), ((ma 9), .inl (cI, 40, .inl fNS)), ((ma 10), .inl (cB, 8000, .inl fT)), ((ma 11), .inl (cI, 40, .inl fTS)), ((ma 3), .inl (cI, 40, .inl fM))] sz) [(h0, .inr (11, MO ma th 0 nd sv_many sv_directories sv_runsFrom sv_runs sv_read sv_wrong sv_isNamed sv_goes sv_goesSize sv_goesAt sv_targetParts sv_isRoot)), ((ma 0), .inl (cB, 400, .inl fX)), ((ma 1), .inl (cI, 40, .inl gK)), ((ma 2), .inl (cI, 40, .inl gP)), ((ma 4), .inl (cI, 40, .inl gO)), ((ma 5), .inl (cI, 40, .inl gG)), ((ma 6), .inl (cI, 40, .inl gSz)), ((ma 7), .inl (cI, 40, .inl gSd)), ((ma 8), .inl (cB, 1200, .inl gN)), ((ma 9), .inl (cI, 40, .inl gNS)), ((ma 10), .inl (cB, 8000, .inl gT)), ((ma 11), .inl (cI, 40, .inl gTS)), ((ma 3), .inl (cI, 40, .inl gM))]) (va_A [(h0, .inr (11, MO ma sv_thrown sv_length sv_nodes sv_many sv_directories sv_runsFrom sv_runs sv_read sv_wrong sv_isNamed sv_goes sv_goesSize sv_goesAt sv_targetParts sv_isRoot)), ((ma 0), .inl (cB, 400, .inl fX)), ((ma 1), .inl (cI, 40, .inl fK)), ((ma 2), .inl (cI, 40, .inl fP)), ((ma 4), .inl (cI, 40, .inl fO)), ((ma 5), .inl (cI, 40, .inl fG)), ((ma 6), .inl (cI, 40, .inl fSz)), ((ma 7), .inl (cI, 40, .inl fSd)), ((ma 8), .inl (cB, 1200, .inl fN)), ((ma 9), .inl (cI, 40, .inl fNS)), ((ma 10), .inl (cB, 8000, .inl fT)), ((ma 11), .inl (cI, 40, .inl fTS)), ((ma 3), .inl (cI, 40, .inl fM))] sz)) 0 0 (va_A [(h0, .inr (11, MO ma sv_thrown sv_length sv_nodes sv_many sv_directories sv_runsFrom sv_runs sv_read sv_wrong sv_isNamed sv_goes sv_goesSize sv_goesAt sv_targetParts sv_isRoot)), ((ma 0), .inl (cB, 400, .inl fX)), ((ma 1), .inl (cI, 40, .inl fK)), ((ma 2), .inl (cI, 40, .inl fP)), ((ma 4), .inl (cI, 40, .inl fO)), ((ma 5), .inl (cI, 40, .inl fG)), ((ma 6), .inl (cI, 40, .inl fSz)), ((ma 7), .inl (cI, 40, .inl fSd)), ((ma 8), .inl (cB, 1200, .inl fN)), ((ma 9), .inl (cI, 40, .inl fNS)), ((ma 10), .inl (cB, 8000, .inl fT)), ((ma 11), .inl (cI, 40, .inl fTS)), ((ma 3), .inl (cI, 40, .inl fM))] sz) := by
  refine Met.ofW (cc := b_DiscMakerModel_file) (maxL := 5) (ret := some .int) (by decide) rfl ?_
  intro p e s m args below meth c s₁ B hml hv
  obtain ⟨rfl, hsz, hP, hK, hN, hD0⟩ := hv
  have hx := B.exec
  have hb := B.bytes
  have hr := B.returns
  have hts := atoms_spec (ws := w_DiscMakerModel_file) B.pre
  have ht9 := fun (w : Cond) (h : w ∈ lw_g) => hts w (List.mem_cons_of_mem _ h)
  have hown : s.vm.findClass "DiscMakerModel" = some m.cls := findClass_of_methodNamed B.named
  have hlocks := B.notSynchronized
  subst hsz
  have hD := hD0.self (sz := s.heap.size)
  generalize hAe : va_A [(h0, .inr (11, MO ma sv_thrown sv_length sv_nodes sv_many sv_directories sv_runsFrom sv_runs sv_read sv_wrong sv_isNamed sv_goes sv_goesSize sv_goesAt sv_targetParts sv_isRoot)), ((ma 0), .inl (cB, 400, .inl fX)), ((ma 1), .inl (cI, 40, .inl fK)), ((ma 2), .inl (cI, 40, .inl fP)), ((ma 4), .inl (cI, 40, .inl fO)), ((ma 5), .inl (cI, 40, .inl fG)), ((ma 6), .inl (cI, 40, .inl fSz)), ((ma 7), .inl (cI, 40, .inl fSd)), ((ma 8), .inl (cB, 1200, .inl fN)), ((ma 9), .inl (cI, 40, .inl fNS)), ((ma 10), .inl (cB, 8000, .inl fT)), ((ma 11), .inl (cI, 40, .inl fTS)), ((ma 3), .inl (cI, 40, .inl fM))] s.heap.size = A at hD ⊢
  have hA : ∀ q : Nat, s.heap.size ≤ q → A q := fun q h => by rw [← hAe]; exact Or.inr h
  have hS : va_S A s.heap s.heap [] := va_S.rf
  have hP : va_P D CL [(h0, .inr (11, MO ma sv_thrown sv_length sv_nodes sv_many sv_directories sv_runsFrom sv_runs sv_read sv_wrong sv_isNamed sv_goes sv_goesSize sv_goesAt sv_targetParts sv_isRoot)), ((ma 0), .inl (cB, 400, .inl fX)), ((ma 1), .inl (cI, 40, .inl fK)), ((ma 2), .inl (cI, 40, .inl fP)), ((ma 4), .inl (cI, 40, .inl fO)), ((ma 5), .inl (cI, 40, .inl fG)), ((ma 6), .inl (cI, 40, .inl fSz)), ((ma 7), .inl (cI, 40, .inl fSd)), ((ma 8), .inl (cB, 1200, .inl fN)), ((ma 9), .inl (cI, 40, .inl fNS)), ((ma 10), .inl (cB, 8000, .inl fT)), ((ma 11), .inl (cI, 40, .inl fTS)), ((ma 3), .inl (cI, 40, .inl fM))] s.heap := hP
  have hl := lv_entry [.ref h0, .int x, .int y, .int z] (n := 5) (Nat.le_of_ble_eq_true rfl)
  rw [lg_entry_eq]
  generalize (lg_sl [.ref h0, .int x, .int y, .int z] ++ List.replicate (5 - (lg_sl [.ref h0, .int x, .int y, .int z]).length) Slot.unset).toArray = ls at hl ⊢
  have hl : lv_has ls 5 [(0, .ref h0), (1, .int x), (2, .int y), (3, .int z)] := hl
  have L_m1 : ((-1) : Int32).toInt = (-1) := by decide
  have L_0 : (0 : Int32).toInt = 0 := by decide
  have L_1 : (1 : Int32).toInt = 1 := by decide
  have L_255 : (255 : Int32).toInt = 255 := by decide
  have L_420 : (420 : Int32).toInt = 420 := by decide
  have L_4100 : (4100 : Int32).toInt = 4100 := by decide
  refine lv_aload_n hx hb d_DiscMakerModel_file_0 rfl (lv_at hl 0 rfl) ?_
  refine lv_iconst (v := 0) hx hb d_DiscMakerModel_file_1 (by decide) ?_
  refine va_put (D := D) (ci := 11) (v := .int 0) (ty := .int) (C := "DiscMakerModel") (T := F_DiscMakerModel) (N := 48) hx hb ht9 in_DiscMakerModel t_DiscMakerModel t_DiscMakerModel_ok n_DiscMakerModel hown hK hP hD hS 0 rfl rfl 0 (by decide) (ht9 _ k1431) (fun _ h9 => h9) rfl (by decide +kernel) rfl rfl (Nat.le_of_ble_eq_true rfl) d_DiscMakerModel_file_2 (fun H locs hP hD hS => ?_)
  have hP : va_P D CL [(h0, .inr (11, MO ma 0 sv_length sv_nodes sv_many sv_directories sv_runsFrom sv_runs sv_read sv_wrong sv_isNamed sv_goes sv_goesSize sv_goesAt sv_targetParts sv_isRoot)), ((ma 0), .inl (cB, 400, .inl fX)), ((ma 1), .inl (cI, 40, .inl fK)), ((ma 2), .inl (cI, 40, .inl fP)), ((ma 4), .inl (cI, 40, .inl fO)), ((ma 5), .inl (cI, 40, .inl fG)), ((ma 6), .inl (cI, 40, .inl fSz)), ((ma 7), .inl (cI, 40, .inl fSd)), ((ma 8), .inl (cB, 1200, .inl fN)), ((ma 9), .inl (cI, 40, .inl fNS)), ((ma 10), .inl (cB, 8000, .inl fT)), ((ma 11), .inl (cI, 40, .inl fTS)), ((ma 3), .inl (cI, 40, .inl fM))] H := hP
  have hD : va_D A [(h0, .inr (11, MO ma 0 sv_length sv_nodes sv_many sv_directories sv_runsFrom sv_runs sv_read sv_wrong sv_isNamed sv_goes sv_goesSize sv_goesAt sv_targetParts sv_isRoot)), ((ma 0), .inl (cB, 400, .inl fX)), ((ma 1), .inl (cI, 40, .inl fK)), ((ma 2), .inl (cI, 40, .inl fP)), ((ma 4), .inl (cI, 40, .inl fO)), ((ma 5), .inl (cI, 40, .inl fG)), ((ma 6), .inl (cI, 40, .inl fSz)), ((ma 7), .inl (cI, 40, .inl fSd)), ((ma 8), .inl (cB, 1200, .inl fN)), ((ma 9), .inl (cI, 40, .inl fNS)), ((ma 10), .inl (cB, 8000, .inl fT)), ((ma 11), .inl (cI, 40, .inl fTS)), ((ma 3), .inl (cI, 40, .inl fM))] := hD
  refine lv_aload_n hx hb d_DiscMakerModel_file_5 rfl (lv_at hl 0 rfl) ?_
  refine lv_iload_n hx hb d_DiscMakerModel_file_6 rfl (lv_at hl 1 rfl) ?_
  refine lv_iconst (v := 1) hx hb d_DiscMakerModel_file_7 (by decide) ?_
  refine lv_aload_n hx hb d_DiscMakerModel_file_8 rfl (lv_at hl 0 rfl) ?_
  refine va_get (D := D) (ci := 11) (v := .int sv_length) (C := "DiscMakerModel") (T := F_DiscMakerModel) (N := 48) hx hb ht9 in_DiscMakerModel hown hK hP 0 rfl rfl 2 (by decide) (ht9 _ k1433) (fun _ h9 => h9) rfl d_DiscMakerModel_file_9 ?_
  refine zz_lab (P := fun (lk : Nat) (H : Heap) (locs : List Loc) (ls : Array Slot) (stk : List Value) => ∃ (jf : Int32) , lk = 0 ∧ stk = [.int jf, .int sv_length, .int 1, .int x, .ref h0] ∧ (0 ≤ jf.toInt ∧ jf.toInt ≤ 1) ∧ (jf.toInt = 0 ∨ (0 ≤ y.toInt ∧ y.toInt ≤ 4100)) ∧ va_P D CL [(h0, .inr (11, MO ma 0 sv_length sv_nodes sv_many sv_directories sv_runsFrom sv_runs sv_read sv_wrong sv_isNamed sv_goes sv_goesSize sv_goesAt sv_targetParts sv_isRoot)), ((ma 0), .inl (cB, 400, .inl fX)), ((ma 1), .inl (cI, 40, .inl fK)), ((ma 2), .inl (cI, 40, .inl fP)), ((ma 4), .inl (cI, 40, .inl fO)), ((ma 5), .inl (cI, 40, .inl fG)), ((ma 6), .inl (cI, 40, .inl fSz)), ((ma 7), .inl (cI, 40, .inl fSd)), ((ma 8), .inl (cB, 1200, .inl fN)), ((ma 9), .inl (cI, 40, .inl fNS)), ((ma 10), .inl (cB, 8000, .inl fT)), ((ma 11), .inl (cI, 40, .inl fTS)), ((ma 3), .inl (cI, 40, .inl fM))] H ∧ va_D A [(h0, .inr (11, MO ma 0 sv_length sv_nodes sv_many sv_directories sv_runsFrom sv_runs sv_read sv_wrong sv_isNamed sv_goes sv_goesSize sv_goesAt sv_targetParts sv_isRoot)), ((ma 0), .inl (cB, 400, .inl fX)), ((ma 1), .inl (cI, 40, .inl fK)), ((ma 2), .inl (cI, 40, .inl fP)), ((ma 4), .inl (cI, 40, .inl fO)), ((ma 5), .inl (cI, 40, .inl fG)), ((ma 6), .inl (cI, 40, .inl fSz)), ((ma 7), .inl (cI, 40, .inl fSd)), ((ma 8), .inl (cB, 1200, .inl fN)), ((ma 9), .inl (cI, 40, .inl fNS)), ((ma 10), .inl (cB, 8000, .inl fT)), ((ma 11), .inl (cI, 40, .inl fTS)), ((ma 3), .inl (cI, 40, .inl fM))] ∧ va_S A s.heap H locs ∧ lv_has ls 5 [(0, .ref h0), (1, .int x), (2, .int y), (3, .int z)]) 39 ?_ ?_
  · skip
    intro lk ih39 H locs ls stk hI
    obtain ⟨jf, hm39, rfl, fj, fk, hP, hD, hS, hl⟩ := hI
    have hPc := hP.sub (ws' := [(h0, .inr (11, MO ma 0 sv_length sv_nodes sv_many sv_directories sv_runsFrom sv_runs sv_read sv_wrong sv_isNamed sv_goes sv_goesSize sv_goesAt sv_targetParts sv_isRoot)), ((ma 0), .inl (cB, 400, .inl fX)), ((ma 1), .inl (cI, 40, .inl fK)), ((ma 2), .inl (cI, 40, .inl fP)), ((ma 4), .inl (cI, 40, .inl fO)), ((ma 5), .inl (cI, 40, .inl fG)), ((ma 6), .inl (cI, 40, .inl fSz)), ((ma 7), .inl (cI, 40, .inl fSd)), ((ma 8), .inl (cB, 1200, .inl fN)), ((ma 9), .inl (cI, 40, .inl fNS)), ((ma 10), .inl (cB, 8000, .inl fT)), ((ma 11), .inl (cI, 40, .inl fTS))]) [0, 1, 2, 3, 4, 5, 6, 7, 8, 9, 10, 11] rfl
    have hDc := hD.sub (ws' := [(h0, .inr (11, MO ma 0 sv_length sv_nodes sv_many sv_directories sv_runsFrom sv_runs sv_read sv_wrong sv_isNamed sv_goes sv_goesSize sv_goesAt sv_targetParts sv_isRoot)), ((ma 0), .inl (cB, 400, .inl fX)), ((ma 1), .inl (cI, 40, .inl fK)), ((ma 2), .inl (cI, 40, .inl fP)), ((ma 4), .inl (cI, 40, .inl fO)), ((ma 5), .inl (cI, 40, .inl fG)), ((ma 6), .inl (cI, 40, .inl fSz)), ((ma 7), .inl (cI, 40, .inl fSd)), ((ma 8), .inl (cB, 1200, .inl fN)), ((ma 9), .inl (cI, 40, .inl fNS)), ((ma 10), .inl (cB, 8000, .inl fT)), ((ma 11), .inl (cI, 40, .inl fTS))]) [0, 1, 2, 3, 4, 5, 6, 7, 8, 9, 10, 11] (by decide) rfl
    have hFc := va_free (wc := [(h0, .inr (11, MO ma 0 sv_length sv_nodes sv_many sv_directories sv_runsFrom sv_runs sv_read sv_wrong sv_isNamed sv_goes sv_goesSize sv_goesAt sv_targetParts sv_isRoot)), ((ma 0), .inl (cB, 400, .inl fX)), ((ma 1), .inl (cI, 40, .inl fK)), ((ma 2), .inl (cI, 40, .inl fP)), ((ma 4), .inl (cI, 40, .inl fO)), ((ma 5), .inl (cI, 40, .inl fG)), ((ma 6), .inl (cI, 40, .inl fSz)), ((ma 7), .inl (cI, 40, .inl fSd)), ((ma 8), .inl (cB, 1200, .inl fN)), ((ma 9), .inl (cI, 40, .inl fNS)), ((ma 10), .inl (cB, 8000, .inl fT)), ((ma 11), .inl (cI, 40, .inl fTS))]) hD hS hA [0, 1, 2, 3, 4, 5, 6, 7, 8, 9, 10, 11] rfl
    have hkc : 0 ≤ 0 := by decide
    have hks : 0 ≤ 0 := by decide
    refine va_calli (va_runV (C := "DiscMakerModel") (As := [.int x, .int 1, .int sv_length, .int jf]) (rest := []) ⟨hx, hb, hml, hown, hts⟩ (m_add l D cB cI cJ cZ cN cF H.size h0 ma 0 sv_length sv_nodes sv_many sv_directories sv_runsFrom sv_runs sv_read sv_wrong sv_isNamed sv_goes sv_goesSize sv_goesAt sv_targetParts sv_isRoot fX fK fP fO fG fSz fSd fN fNS fT fTS x 1 sv_length jf (by (try dsimp only); first | omega | assumption | trivial) (by (try dsimp only); first | omega | assumption | trivial) (by (try dsimp only); first | omega | assumption | trivial) (by (try dsimp only); first | omega | assumption | trivial) (by (try dsimp only); first | omega | assumption | trivial)) (cwV 4 hts (lg_goodV k1594 k1596 k52 k125 kc_DiscMakerModel_add) rfl rfl rfl (by decide +kernel) ⟨Nat.le_of_ble_eq_true rfl, Nat.le_of_ble_eq_true rfl⟩) ⟨fun a U g mk q => by obtain ⟨q0, q1, qP, qK, qN, qD⟩ := q; exact ⟨q0, q1, qP, va_K.moved (u := U) (U := U.calling g mk a) (Vm.Alike.refl U.vm) qK, qN.calling, qD⟩, va_recv hK hP (ci := 11) (q0 := 0) rfl rfl, fun U hU hW => ⟨rfl, by rw [hU], by rw [hU]; exact hPc, va_K.moved hW.alike hK, NN.warm hW hN, hDc.weaken (fun _ _ _ _ => trivial)⟩⟩ rfl rfl hl.1 rfl (lv_room (Nat.le_of_ble_eq_true rfl)) d_DiscMakerModel_file_39 ⟨hkc, hks⟩) hS (fun q _ h => hFc q h) hFc (fun r1 u t H1 locs ht hvm hp_r1 hB hz1 hk1 hS => ?_)
    obtain ⟨nd_2, gK_3, gP_4, gO_5, gG_6, gSz_7, gSd_8, gN_9, gNS_10, gT_11, gTS_12⟩ := u
    obtain ⟨hP1, hD1⟩ := hB
    rw [ht] at hP1
    obtain ⟨hP, hD⟩ := va_join (wr := [((ma 3), .inl (cI, 40, .inl fM))]) (w1 := [(h0, .inr (11, MO ma 0 0 nd_2 sv_many sv_directories sv_runsFrom sv_runs sv_read sv_wrong sv_isNamed sv_goes sv_goesSize sv_goesAt sv_targetParts sv_isRoot)), ((ma 0), .inl (cB, 400, .inl fX)), ((ma 1), .inl (cI, 40, .inl gK_3)), ((ma 2), .inl (cI, 40, .inl gP_4)), ((ma 4), .inl (cI, 40, .inl gO_5)), ((ma 5), .inl (cI, 40, .inl gG_6)), ((ma 6), .inl (cI, 40, .inl gSz_7)), ((ma 7), .inl (cI, 40, .inl gSd_8)), ((ma 8), .inl (cB, 1200, .inl gN_9)), ((ma 9), .inl (cI, 40, .inl gNS_10)), ((ma 10), .inl (cB, 8000, .inl gT_11)), ((ma 11), .inl (cI, 40, .inl gTS_12))]) hP hD [0, 1, 2, 3, 4, 5, 6, 7, 8, 9, 10, 11] [12] rfl rfl (by decide) (by decide) hk1 hFc hP1 hD1
    clear hPc hDc hFc hP1 hD1 hk1 hz1
    generalize H1 = H at hP hS ⊢
    have hP : va_P D CL [((ma 3), .inl (cI, 40, .inl fM)), (h0, .inr (11, MO ma 0 0 nd_2 sv_many sv_directories sv_runsFrom sv_runs sv_read sv_wrong sv_isNamed sv_goes sv_goesSize sv_goesAt sv_targetParts sv_isRoot)), ((ma 0), .inl (cB, 400, .inl fX)), ((ma 1), .inl (cI, 40, .inl gK_3)), ((ma 2), .inl (cI, 40, .inl gP_4)), ((ma 4), .inl (cI, 40, .inl gO_5)), ((ma 5), .inl (cI, 40, .inl gG_6)), ((ma 6), .inl (cI, 40, .inl gSz_7)), ((ma 7), .inl (cI, 40, .inl gSd_8)), ((ma 8), .inl (cB, 1200, .inl gN_9)), ((ma 9), .inl (cI, 40, .inl gNS_10)), ((ma 10), .inl (cB, 8000, .inl gT_11)), ((ma 11), .inl (cI, 40, .inl gTS_12))] H := hP
    have hD : va_D A [((ma 3), .inl (cI, 40, .inl fM)), (h0, .inr (11, MO ma 0 0 nd_2 sv_many sv_directories sv_runsFrom sv_runs sv_read sv_wrong sv_isNamed sv_goes sv_goesSize sv_goesAt sv_targetParts sv_isRoot)), ((ma 0), .inl (cB, 400, .inl fX)), ((ma 1), .inl (cI, 40, .inl gK_3)), ((ma 2), .inl (cI, 40, .inl gP_4)), ((ma 4), .inl (cI, 40, .inl gO_5)), ((ma 5), .inl (cI, 40, .inl gG_6)), ((ma 6), .inl (cI, 40, .inl gSz_7)), ((ma 7), .inl (cI, 40, .inl gSd_8)), ((ma 8), .inl (cB, 1200, .inl gN_9)), ((ma 9), .inl (cI, 40, .inl gNS_10)), ((ma 10), .inl (cB, 8000, .inl gT_11)), ((ma 11), .inl (cI, 40, .inl gTS_12))] := hD
    try dsimp only at hp_r1
    obtain ⟨hr_13, hT_14⟩ := hp_r1
    have hn9 := hT_14.n1
    refine lv_istore hx hb d_DiscMakerModel_file_42 hl (by decide) rfl (fun ls hl => ?_)
    have hl : lv_has ls 5 [(4, .int r1), (0, .ref h0), (1, .int x), (2, .int y), (3, .int z)] := hl
    refine lv_iload hx hb d_DiscMakerModel_file_44 (lv_at hl 0 rfl) ?_
    refine lv_if_ge (tgt := 52) hx hb d_DiscMakerModel_file_46 (by decide) (fun h_9 => ?_) (fun h_9 => ?_)
    · skip
      have g46_12 : 0 ≤ r1.toInt := (i_le (by decide) rfl).mp h_9
      refine lv_aload_n hx hb d_DiscMakerModel_file_52 rfl (lv_at hl 1 rfl) ?_
      refine va_get (D := D) (ci := 11) (v := .ref (ma 3)) (C := "DiscMakerModel") (T := F_DiscMakerModel) (N := 48) hx hb ht9 in_DiscMakerModel hown hK hP 1 rfl rfl 6 (by decide) (ht9 _ k1437) (fun _ h9 => h9) rfl d_DiscMakerModel_file_53 ?_
      refine lv_iload hx hb d_DiscMakerModel_file_56 (lv_at hl 0 rfl) ?_
      refine lv_sipush (v := 420) hx hb d_DiscMakerModel_file_58 (by decide) ?_
      refine zq_iast hx hb hK hP hD hS 0 1 rfl rfl (vp_in_iff.mpr ⟨by omega, by omega⟩) d_DiscMakerModel_file_61 (fun f15 e_f15 H locs hP hD hS => ?_)
      have hP : va_P D CL [((ma 3), .inl (cI, 40, .inl f15)), (h0, .inr (11, MO ma 0 0 nd_2 sv_many sv_directories sv_runsFrom sv_runs sv_read sv_wrong sv_isNamed sv_goes sv_goesSize sv_goesAt sv_targetParts sv_isRoot)), ((ma 0), .inl (cB, 400, .inl fX)), ((ma 1), .inl (cI, 40, .inl gK_3)), ((ma 2), .inl (cI, 40, .inl gP_4)), ((ma 4), .inl (cI, 40, .inl gO_5)), ((ma 5), .inl (cI, 40, .inl gG_6)), ((ma 6), .inl (cI, 40, .inl gSz_7)), ((ma 7), .inl (cI, 40, .inl gSd_8)), ((ma 8), .inl (cB, 1200, .inl gN_9)), ((ma 9), .inl (cI, 40, .inl gNS_10)), ((ma 10), .inl (cB, 8000, .inl gT_11)), ((ma 11), .inl (cI, 40, .inl gTS_12))] H := hP
      have hD : va_D A [((ma 3), .inl (cI, 40, .inl f15)), (h0, .inr (11, MO ma 0 0 nd_2 sv_many sv_directories sv_runsFrom sv_runs sv_read sv_wrong sv_isNamed sv_goes sv_goesSize sv_goesAt sv_targetParts sv_isRoot)), ((ma 0), .inl (cB, 400, .inl fX)), ((ma 1), .inl (cI, 40, .inl gK_3)), ((ma 2), .inl (cI, 40, .inl gP_4)), ((ma 4), .inl (cI, 40, .inl gO_5)), ((ma 5), .inl (cI, 40, .inl gG_6)), ((ma 6), .inl (cI, 40, .inl gSz_7)), ((ma 7), .inl (cI, 40, .inl gSd_8)), ((ma 8), .inl (cB, 1200, .inl gN_9)), ((ma 9), .inl (cI, 40, .inl gNS_10)), ((ma 10), .inl (cB, 8000, .inl gT_11)), ((ma 11), .inl (cI, 40, .inl gTS_12))] := hD
      have s_f15 : f15 r1.toNatClampNeg = 420 := by rw [e_f15]; unfold upd; rw [if_pos rfl]
      refine lv_aload_n hx hb d_DiscMakerModel_file_62 rfl (lv_at hl 1 rfl) ?_
      refine va_get (D := D) (ci := 11) (v := .ref (ma 6)) (C := "DiscMakerModel") (T := F_DiscMakerModel) (N := 48) hx hb ht9 in_DiscMakerModel hown hK hP 1 rfl rfl 9 (by decide) (ht9 _ k1440) (fun _ h9 => h9) rfl d_DiscMakerModel_file_63 ?_
      refine lv_iload hx hb d_DiscMakerModel_file_66 (lv_at hl 0 rfl) ?_
      refine lv_iload_n hx hb d_DiscMakerModel_file_68 rfl (lv_at hl 3 rfl) ?_
      refine zq_iast hx hb hK hP hD hS 7 1 rfl rfl (vp_in_iff.mpr ⟨by omega, by omega⟩) d_DiscMakerModel_file_69 (fun f16 e_f16 H locs hP hD hS => ?_)
      have hP : va_P D CL [((ma 3), .inl (cI, 40, .inl f15)), (h0, .inr (11, MO ma 0 0 nd_2 sv_many sv_directories sv_runsFrom sv_runs sv_read sv_wrong sv_isNamed sv_goes sv_goesSize sv_goesAt sv_targetParts sv_isRoot)), ((ma 0), .inl (cB, 400, .inl fX)), ((ma 1), .inl (cI, 40, .inl gK_3)), ((ma 2), .inl (cI, 40, .inl gP_4)), ((ma 4), .inl (cI, 40, .inl gO_5)), ((ma 5), .inl (cI, 40, .inl gG_6)), ((ma 6), .inl (cI, 40, .inl f16)), ((ma 7), .inl (cI, 40, .inl gSd_8)), ((ma 8), .inl (cB, 1200, .inl gN_9)), ((ma 9), .inl (cI, 40, .inl gNS_10)), ((ma 10), .inl (cB, 8000, .inl gT_11)), ((ma 11), .inl (cI, 40, .inl gTS_12))] H := hP
      have hD : va_D A [((ma 3), .inl (cI, 40, .inl f15)), (h0, .inr (11, MO ma 0 0 nd_2 sv_many sv_directories sv_runsFrom sv_runs sv_read sv_wrong sv_isNamed sv_goes sv_goesSize sv_goesAt sv_targetParts sv_isRoot)), ((ma 0), .inl (cB, 400, .inl fX)), ((ma 1), .inl (cI, 40, .inl gK_3)), ((ma 2), .inl (cI, 40, .inl gP_4)), ((ma 4), .inl (cI, 40, .inl gO_5)), ((ma 5), .inl (cI, 40, .inl gG_6)), ((ma 6), .inl (cI, 40, .inl f16)), ((ma 7), .inl (cI, 40, .inl gSd_8)), ((ma 8), .inl (cB, 1200, .inl gN_9)), ((ma 9), .inl (cI, 40, .inl gNS_10)), ((ma 10), .inl (cB, 8000, .inl gT_11)), ((ma 11), .inl (cI, 40, .inl gTS_12))] := hD
      have s_f16 : f16 r1.toNatClampNeg = y := by rw [e_f16]; unfold upd; rw [if_pos rfl]
      refine lv_aload_n hx hb d_DiscMakerModel_file_70 rfl (lv_at hl 1 rfl) ?_
      refine va_get (D := D) (ci := 11) (v := .ref (ma 7)) (C := "DiscMakerModel") (T := F_DiscMakerModel) (N := 48) hx hb ht9 in_DiscMakerModel hown hK hP 1 rfl rfl 10 (by decide) (ht9 _ k1441) (fun _ h9 => h9) rfl d_DiscMakerModel_file_71 ?_
      refine lv_iload hx hb d_DiscMakerModel_file_74 (lv_at hl 0 rfl) ?_
      refine lv_iload_n hx hb d_DiscMakerModel_file_76 rfl (lv_at hl 4 rfl) ?_
      refine zq_iast hx hb hK hP hD hS 8 1 rfl rfl (vp_in_iff.mpr ⟨by omega, by omega⟩) d_DiscMakerModel_file_77 (fun f17 e_f17 H locs hP hD hS => ?_)
      have hP : va_P D CL [((ma 3), .inl (cI, 40, .inl f15)), (h0, .inr (11, MO ma 0 0 nd_2 sv_many sv_directories sv_runsFrom sv_runs sv_read sv_wrong sv_isNamed sv_goes sv_goesSize sv_goesAt sv_targetParts sv_isRoot)), ((ma 0), .inl (cB, 400, .inl fX)), ((ma 1), .inl (cI, 40, .inl gK_3)), ((ma 2), .inl (cI, 40, .inl gP_4)), ((ma 4), .inl (cI, 40, .inl gO_5)), ((ma 5), .inl (cI, 40, .inl gG_6)), ((ma 6), .inl (cI, 40, .inl f16)), ((ma 7), .inl (cI, 40, .inl f17)), ((ma 8), .inl (cB, 1200, .inl gN_9)), ((ma 9), .inl (cI, 40, .inl gNS_10)), ((ma 10), .inl (cB, 8000, .inl gT_11)), ((ma 11), .inl (cI, 40, .inl gTS_12))] H := hP
      have hD : va_D A [((ma 3), .inl (cI, 40, .inl f15)), (h0, .inr (11, MO ma 0 0 nd_2 sv_many sv_directories sv_runsFrom sv_runs sv_read sv_wrong sv_isNamed sv_goes sv_goesSize sv_goesAt sv_targetParts sv_isRoot)), ((ma 0), .inl (cB, 400, .inl fX)), ((ma 1), .inl (cI, 40, .inl gK_3)), ((ma 2), .inl (cI, 40, .inl gP_4)), ((ma 4), .inl (cI, 40, .inl gO_5)), ((ma 5), .inl (cI, 40, .inl gG_6)), ((ma 6), .inl (cI, 40, .inl f16)), ((ma 7), .inl (cI, 40, .inl f17)), ((ma 8), .inl (cB, 1200, .inl gN_9)), ((ma 9), .inl (cI, 40, .inl gNS_10)), ((ma 10), .inl (cB, 8000, .inl gT_11)), ((ma 11), .inl (cI, 40, .inl gTS_12))] := hD
      have s_f17 : f17 r1.toNatClampNeg = z := by rw [e_f17]; unfold upd; rw [if_pos rfl]
      refine lv_iload hx hb d_DiscMakerModel_file_78 (lv_at hl 0 rfl) ?_
      have hP9 := hP.sub (ws' := [(h0, .inr (11, MO ma 0 0 nd_2 sv_many sv_directories sv_runsFrom sv_runs sv_read sv_wrong sv_isNamed sv_goes sv_goesSize sv_goesAt sv_targetParts sv_isRoot)), ((ma 0), .inl (cB, 400, .inl fX)), ((ma 1), .inl (cI, 40, .inl gK_3)), ((ma 2), .inl (cI, 40, .inl gP_4)), ((ma 4), .inl (cI, 40, .inl gO_5)), ((ma 5), .inl (cI, 40, .inl gG_6)), ((ma 6), .inl (cI, 40, .inl f16)), ((ma 7), .inl (cI, 40, .inl f17)), ((ma 8), .inl (cB, 1200, .inl gN_9)), ((ma 9), .inl (cI, 40, .inl gNS_10)), ((ma 10), .inl (cB, 8000, .inl gT_11)), ((ma 11), .inl (cI, 40, .inl gTS_12)), ((ma 3), .inl (cI, 40, .inl f15))]) [1, 2, 3, 4, 5, 6, 7, 8, 9, 10, 11, 12, 0] rfl
      have hD9 := hD.sub (ws' := [(h0, .inr (11, MO ma 0 0 nd_2 sv_many sv_directories sv_runsFrom sv_runs sv_read sv_wrong sv_isNamed sv_goes sv_goesSize sv_goesAt sv_targetParts sv_isRoot)), ((ma 0), .inl (cB, 400, .inl fX)), ((ma 1), .inl (cI, 40, .inl gK_3)), ((ma 2), .inl (cI, 40, .inl gP_4)), ((ma 4), .inl (cI, 40, .inl gO_5)), ((ma 5), .inl (cI, 40, .inl gG_6)), ((ma 6), .inl (cI, 40, .inl f16)), ((ma 7), .inl (cI, 40, .inl f17)), ((ma 8), .inl (cB, 1200, .inl gN_9)), ((ma 9), .inl (cI, 40, .inl gNS_10)), ((ma 10), .inl (cB, 8000, .inl gT_11)), ((ma 11), .inl (cI, 40, .inl gTS_12)), ((ma 3), .inl (cI, 40, .inl f15))]) [1, 2, 3, 4, 5, 6, 7, 8, 9, 10, 11, 12, 0] (by decide) rfl
      exact W.iret (v := r1) hx hb hr (fun t ht hW => ⟨⟨r1, (0, nd_2, gK_3, gP_4, gO_5, gG_6, f16, f17, gN_9, gNS_10, gT_11, gTS_12, f15), rfl, (hT_14.szset e_f16 (by omega)), by rw [ht]; exact hP9, hD9⟩, hS.F ht⟩) hS.2.2 d_DiscMakerModel_file_80
    · skip
      have g46_12 : ¬ 0 ≤ r1.toInt := fun h8 => h_9 ((i_le (by decide) rfl).mpr h8)
      refine lv_iload hx hb d_DiscMakerModel_file_49 (lv_at hl 0 rfl) ?_
      have hP9 := hP.sub (ws' := [(h0, .inr (11, MO ma 0 0 nd_2 sv_many sv_directories sv_runsFrom sv_runs sv_read sv_wrong sv_isNamed sv_goes sv_goesSize sv_goesAt sv_targetParts sv_isRoot)), ((ma 0), .inl (cB, 400, .inl fX)), ((ma 1), .inl (cI, 40, .inl gK_3)), ((ma 2), .inl (cI, 40, .inl gP_4)), ((ma 4), .inl (cI, 40, .inl gO_5)), ((ma 5), .inl (cI, 40, .inl gG_6)), ((ma 6), .inl (cI, 40, .inl gSz_7)), ((ma 7), .inl (cI, 40, .inl gSd_8)), ((ma 8), .inl (cB, 1200, .inl gN_9)), ((ma 9), .inl (cI, 40, .inl gNS_10)), ((ma 10), .inl (cB, 8000, .inl gT_11)), ((ma 11), .inl (cI, 40, .inl gTS_12)), ((ma 3), .inl (cI, 40, .inl fM))]) [1, 2, 3, 4, 5, 6, 7, 8, 9, 10, 11, 12, 0] rfl
      have hD9 := hD.sub (ws' := [(h0, .inr (11, MO ma 0 0 nd_2 sv_many sv_directories sv_runsFrom sv_runs sv_read sv_wrong sv_isNamed sv_goes sv_goesSize sv_goesAt sv_targetParts sv_isRoot)), ((ma 0), .inl (cB, 400, .inl fX)), ((ma 1), .inl (cI, 40, .inl gK_3)), ((ma 2), .inl (cI, 40, .inl gP_4)), ((ma 4), .inl (cI, 40, .inl gO_5)), ((ma 5), .inl (cI, 40, .inl gG_6)), ((ma 6), .inl (cI, 40, .inl gSz_7)), ((ma 7), .inl (cI, 40, .inl gSd_8)), ((ma 8), .inl (cB, 1200, .inl gN_9)), ((ma 9), .inl (cI, 40, .inl gNS_10)), ((ma 10), .inl (cB, 8000, .inl gT_11)), ((ma 11), .inl (cI, 40, .inl gTS_12)), ((ma 3), .inl (cI, 40, .inl fM))]) [1, 2, 3, 4, 5, 6, 7, 8, 9, 10, 11, 12, 0] (by decide) rfl
      exact W.iret (v := r1) hx hb hr (fun t ht hW => ⟨⟨r1, (0, nd_2, gK_3, gP_4, gO_5, gG_6, gSz_7, gSd_8, gN_9, gNS_10, gT_11, gTS_12, fM), rfl, hT_14, by rw [ht]; exact hP9, hD9⟩, hS.F ht⟩) hS.2.2 d_DiscMakerModel_file_51
  · skip
    intro kk39
    refine lv_iload_n hx hb d_DiscMakerModel_file_12 rfl (lv_at hl 2 rfl) ?_
    refine lv_if_lt (tgt := 38) hx hb d_DiscMakerModel_file_13 (by decide) (fun h_9 => ?_) (fun h_9 => ?_)
    · skip
      have g13_33 : y.toInt < 0 := (i_lt rfl (by decide)).mp h_9
      refine lv_iconst (v := 0) hx hb d_DiscMakerModel_file_38 (by decide) ?_
      have hP := hP.sub (ws' := [(h0, .inr (11, MO ma 0 sv_length sv_nodes sv_many sv_directories sv_runsFrom sv_runs sv_read sv_wrong sv_isNamed sv_goes sv_goesSize sv_goesAt sv_targetParts sv_isRoot)), ((ma 0), .inl (cB, 400, .inl fX)), ((ma 1), .inl (cI, 40, .inl fK)), ((ma 2), .inl (cI, 40, .inl fP)), ((ma 4), .inl (cI, 40, .inl fO)), ((ma 5), .inl (cI, 40, .inl fG)), ((ma 6), .inl (cI, 40, .inl fSz)), ((ma 7), .inl (cI, 40, .inl fSd)), ((ma 8), .inl (cB, 1200, .inl fN)), ((ma 9), .inl (cI, 40, .inl fNS)), ((ma 10), .inl (cB, 8000, .inl fT)), ((ma 11), .inl (cI, 40, .inl fTS)), ((ma 3), .inl (cI, 40, .inl fM))]) [0, 1, 2, 3, 4, 5, 6, 7, 8, 9, 10, 11, 12] rfl
      have hD := hD.sub (ws' := [(h0, .inr (11, MO ma 0 sv_length sv_nodes sv_many sv_directories sv_runsFrom sv_runs sv_read sv_wrong sv_isNamed sv_goes sv_goesSize sv_goesAt sv_targetParts sv_isRoot)), ((ma 0), .inl (cB, 400, .inl fX)), ((ma 1), .inl (cI, 40, .inl fK)), ((ma 2), .inl (cI, 40, .inl fP)), ((ma 4), .inl (cI, 40, .inl fO)), ((ma 5), .inl (cI, 40, .inl fG)), ((ma 6), .inl (cI, 40, .inl fSz)), ((ma 7), .inl (cI, 40, .inl fSd)), ((ma 8), .inl (cB, 1200, .inl fN)), ((ma 9), .inl (cI, 40, .inl fNS)), ((ma 10), .inl (cB, 8000, .inl fT)), ((ma 11), .inl (cI, 40, .inl fTS)), ((ma 3), .inl (cI, 40, .inl fM))]) [0, 1, 2, 3, 4, 5, 6, 7, 8, 9, 10, 11, 12] (by decide) rfl
      have hl := lv_sub hl [0, 1, 2, 3] rfl
      exact kk39 _ _ _ _ _ ⟨0, rfl, rfl, (by (try dsimp only); first | omega | assumption | trivial), (by (try dsimp only); first | omega | assumption | trivial), hP, hD, hS, hl⟩
    · skip
      have g13_33 : ¬ y.toInt < 0 := fun h8 => h_9 ((i_lt rfl (by decide)).mpr h8)
      refine lv_iload_n hx hb d_DiscMakerModel_file_16 rfl (lv_at hl 2 rfl) ?_
      refine lv_sipush (v := 4100) hx hb d_DiscMakerModel_file_17 (by decide) ?_
      refine lv_icmp_gt (tgt := 38) hx hb d_DiscMakerModel_file_20 (by decide) (fun h_9 => ?_) (fun h_9 => ?_)
      · skip
        have g20_38 : 4100 < y.toInt := (i_lt (by decide) rfl).mp h_9
        refine lv_iconst (v := 0) hx hb d_DiscMakerModel_file_38 (by decide) ?_
        have hP := hP.sub (ws' := [(h0, .inr (11, MO ma 0 sv_length sv_nodes sv_many sv_directories sv_runsFrom sv_runs sv_read sv_wrong sv_isNamed sv_goes sv_goesSize sv_goesAt sv_targetParts sv_isRoot)), ((ma 0), .inl (cB, 400, .inl fX)), ((ma 1), .inl (cI, 40, .inl fK)), ((ma 2), .inl (cI, 40, .inl fP)), ((ma 4), .inl (cI, 40, .inl fO)), ((ma 5), .inl (cI, 40, .inl fG)), ((ma 6), .inl (cI, 40, .inl fSz)), ((ma 7), .inl (cI, 40, .inl fSd)), ((ma 8), .inl (cB, 1200, .inl fN)), ((ma 9), .inl (cI, 40, .inl fNS)), ((ma 10), .inl (cB, 8000, .inl fT)), ((ma 11), .inl (cI, 40, .inl fTS)), ((ma 3), .inl (cI, 40, .inl fM))]) [0, 1, 2, 3, 4, 5, 6, 7, 8, 9, 10, 11, 12] rfl
        have hD := hD.sub (ws' := [(h0, .inr (11, MO ma 0 sv_length sv_nodes sv_many sv_directories sv_runsFrom sv_runs sv_read sv_wrong sv_isNamed sv_goes sv_goesSize sv_goesAt sv_targetParts sv_isRoot)), ((ma 0), .inl (cB, 400, .inl fX)), ((ma 1), .inl (cI, 40, .inl fK)), ((ma 2), .inl (cI, 40, .inl fP)), ((ma 4), .inl (cI, 40, .inl fO)), ((ma 5), .inl (cI, 40, .inl fG)), ((ma 6), .inl (cI, 40, .inl fSz)), ((ma 7), .inl (cI, 40, .inl fSd)), ((ma 8), .inl (cB, 1200, .inl fN)), ((ma 9), .inl (cI, 40, .inl fNS)), ((ma 10), .inl (cB, 8000, .inl fT)), ((ma 11), .inl (cI, 40, .inl fTS)), ((ma 3), .inl (cI, 40, .inl fM))]) [0, 1, 2, 3, 4, 5, 6, 7, 8, 9, 10, 11, 12] (by decide) rfl
        have hl := lv_sub hl [0, 1, 2, 3] rfl
        exact kk39 _ _ _ _ _ ⟨0, rfl, rfl, (by (try dsimp only); first | omega | assumption | trivial), (by (try dsimp only); first | omega | assumption | trivial), hP, hD, hS, hl⟩
      · skip
        have g20_38 : ¬ 4100 < y.toInt := fun h8 => h_9 ((i_lt (by decide) rfl).mpr h8)
        refine lv_iload_n hx hb d_DiscMakerModel_file_23 rfl (lv_at hl 3 rfl) ?_
        refine lv_if_lt (tgt := 38) hx hb d_DiscMakerModel_file_24 (by decide) (fun h_9 => ?_) (fun h_9 => ?_)
        · skip
          have g24_42 : z.toInt < 0 := (i_lt rfl (by decide)).mp h_9
          refine lv_iconst (v := 0) hx hb d_DiscMakerModel_file_38 (by decide) ?_
          have hP := hP.sub (ws' := [(h0, .inr (11, MO ma 0 sv_length sv_nodes sv_many sv_directories sv_runsFrom sv_runs sv_read sv_wrong sv_isNamed sv_goes sv_goesSize sv_goesAt sv_targetParts sv_isRoot)), ((ma 0), .inl (cB, 400, .inl fX)), ((ma 1), .inl (cI, 40, .inl fK)), ((ma 2), .inl (cI, 40, .inl fP)), ((ma 4), .inl (cI, 40, .inl fO)), ((ma 5), .inl (cI, 40, .inl fG)), ((ma 6), .inl (cI, 40, .inl fSz)), ((ma 7), .inl (cI, 40, .inl fSd)), ((ma 8), .inl (cB, 1200, .inl fN)), ((ma 9), .inl (cI, 40, .inl fNS)), ((ma 10), .inl (cB, 8000, .inl fT)), ((ma 11), .inl (cI, 40, .inl fTS)), ((ma 3), .inl (cI, 40, .inl fM))]) [0, 1, 2, 3, 4, 5, 6, 7, 8, 9, 10, 11, 12] rfl
          have hD := hD.sub (ws' := [(h0, .inr (11, MO ma 0 sv_length sv_nodes sv_many sv_directories sv_runsFrom sv_runs sv_read sv_wrong sv_isNamed sv_goes sv_goesSize sv_goesAt sv_targetParts sv_isRoot)), ((ma 0), .inl (cB, 400, .inl fX)), ((ma 1), .inl (cI, 40, .inl fK)), ((ma 2), .inl (cI, 40, .inl fP)), ((ma 4), .inl (cI, 40, .inl fO)), ((ma 5), .inl (cI, 40, .inl fG)), ((ma 6), .inl (cI, 40, .inl fSz)), ((ma 7), .inl (cI, 40, .inl fSd)), ((ma 8), .inl (cB, 1200, .inl fN)), ((ma 9), .inl (cI, 40, .inl fNS)), ((ma 10), .inl (cB, 8000, .inl fT)), ((ma 11), .inl (cI, 40, .inl fTS)), ((ma 3), .inl (cI, 40, .inl fM))]) [0, 1, 2, 3, 4, 5, 6, 7, 8, 9, 10, 11, 12] (by decide) rfl
          have hl := lv_sub hl [0, 1, 2, 3] rfl
          exact kk39 _ _ _ _ _ ⟨0, rfl, rfl, (by (try dsimp only); first | omega | assumption | trivial), (by (try dsimp only); first | omega | assumption | trivial), hP, hD, hS, hl⟩
        · skip
          have g24_42 : ¬ z.toInt < 0 := fun h8 => h_9 ((i_lt rfl (by decide)).mpr h8)
          refine lv_iload_n hx hb d_DiscMakerModel_file_27 rfl (lv_at hl 3 rfl) ?_
          refine lv_sipush (v := 255) hx hb d_DiscMakerModel_file_28 (by decide) ?_
          refine lv_icmp_gt (tgt := 38) hx hb d_DiscMakerModel_file_31 (by decide) (fun h_9 => ?_) (fun h_9 => ?_)
          · skip
            have g31_47 : 255 < z.toInt := (i_lt (by decide) rfl).mp h_9
            refine lv_iconst (v := 0) hx hb d_DiscMakerModel_file_38 (by decide) ?_
            have hP := hP.sub (ws' := [(h0, .inr (11, MO ma 0 sv_length sv_nodes sv_many sv_directories sv_runsFrom sv_runs sv_read sv_wrong sv_isNamed sv_goes sv_goesSize sv_goesAt sv_targetParts sv_isRoot)), ((ma 0), .inl (cB, 400, .inl fX)), ((ma 1), .inl (cI, 40, .inl fK)), ((ma 2), .inl (cI, 40, .inl fP)), ((ma 4), .inl (cI, 40, .inl fO)), ((ma 5), .inl (cI, 40, .inl fG)), ((ma 6), .inl (cI, 40, .inl fSz)), ((ma 7), .inl (cI, 40, .inl fSd)), ((ma 8), .inl (cB, 1200, .inl fN)), ((ma 9), .inl (cI, 40, .inl fNS)), ((ma 10), .inl (cB, 8000, .inl fT)), ((ma 11), .inl (cI, 40, .inl fTS)), ((ma 3), .inl (cI, 40, .inl fM))]) [0, 1, 2, 3, 4, 5, 6, 7, 8, 9, 10, 11, 12] rfl
            have hD := hD.sub (ws' := [(h0, .inr (11, MO ma 0 sv_length sv_nodes sv_many sv_directories sv_runsFrom sv_runs sv_read sv_wrong sv_isNamed sv_goes sv_goesSize sv_goesAt sv_targetParts sv_isRoot)), ((ma 0), .inl (cB, 400, .inl fX)), ((ma 1), .inl (cI, 40, .inl fK)), ((ma 2), .inl (cI, 40, .inl fP)), ((ma 4), .inl (cI, 40, .inl fO)), ((ma 5), .inl (cI, 40, .inl fG)), ((ma 6), .inl (cI, 40, .inl fSz)), ((ma 7), .inl (cI, 40, .inl fSd)), ((ma 8), .inl (cB, 1200, .inl fN)), ((ma 9), .inl (cI, 40, .inl fNS)), ((ma 10), .inl (cB, 8000, .inl fT)), ((ma 11), .inl (cI, 40, .inl fTS)), ((ma 3), .inl (cI, 40, .inl fM))]) [0, 1, 2, 3, 4, 5, 6, 7, 8, 9, 10, 11, 12] (by decide) rfl
            have hl := lv_sub hl [0, 1, 2, 3] rfl
            exact kk39 _ _ _ _ _ ⟨0, rfl, rfl, (by (try dsimp only); first | omega | assumption | trivial), (by (try dsimp only); first | omega | assumption | trivial), hP, hD, hS, hl⟩
          · skip
            have g31_47 : ¬ 255 < z.toInt := fun h8 => h_9 ((i_lt (by decide) rfl).mpr h8)
            refine lv_iconst (v := 1) hx hb d_DiscMakerModel_file_34 (by decide) ?_
            refine lv_goto (tgt := 39) hx hb d_DiscMakerModel_file_35 (by decide) ?_
            have hP := hP.sub (ws' := [(h0, .inr (11, MO ma 0 sv_length sv_nodes sv_many sv_directories sv_runsFrom sv_runs sv_read sv_wrong sv_isNamed sv_goes sv_goesSize sv_goesAt sv_targetParts sv_isRoot)), ((ma 0), .inl (cB, 400, .inl fX)), ((ma 1), .inl (cI, 40, .inl fK)), ((ma 2), .inl (cI, 40, .inl fP)), ((ma 4), .inl (cI, 40, .inl fO)), ((ma 5), .inl (cI, 40, .inl fG)), ((ma 6), .inl (cI, 40, .inl fSz)), ((ma 7), .inl (cI, 40, .inl fSd)), ((ma 8), .inl (cB, 1200, .inl fN)), ((ma 9), .inl (cI, 40, .inl fNS)), ((ma 10), .inl (cB, 8000, .inl fT)), ((ma 11), .inl (cI, 40, .inl fTS)), ((ma 3), .inl (cI, 40, .inl fM))]) [0, 1, 2, 3, 4, 5, 6, 7, 8, 9, 10, 11, 12] rfl
            have hD := hD.sub (ws' := [(h0, .inr (11, MO ma 0 sv_length sv_nodes sv_many sv_directories sv_runsFrom sv_runs sv_read sv_wrong sv_isNamed sv_goes sv_goesSize sv_goesAt sv_targetParts sv_isRoot)), ((ma 0), .inl (cB, 400, .inl fX)), ((ma 1), .inl (cI, 40, .inl fK)), ((ma 2), .inl (cI, 40, .inl fP)), ((ma 4), .inl (cI, 40, .inl fO)), ((ma 5), .inl (cI, 40, .inl fG)), ((ma 6), .inl (cI, 40, .inl fSz)), ((ma 7), .inl (cI, 40, .inl fSd)), ((ma 8), .inl (cB, 1200, .inl fN)), ((ma 9), .inl (cI, 40, .inl fNS)), ((ma 10), .inl (cB, 8000, .inl fT)), ((ma 11), .inl (cI, 40, .inl fTS)), ((ma 3), .inl (cI, 40, .inl fM))]) [0, 1, 2, 3, 4, 5, 6, 7, 8, 9, 10, 11, 12] (by decide) rfl
            have hl := lv_sub hl [0, 1, 2, 3] rfl
            exact kk39 _ _ _ _ _ ⟨1, rfl, rfl, (by (try dsimp only); first | omega | assumption | trivial), (by (try dsimp only); first | omega | assumption | trivial), hP, hD, hS, hl⟩

theorem d_DiscMakerModel_componentsOf_0 : decode b_DiscMakerModel_componentsOf 0 = .ok (.aload_n 0, 1) := by decide +kernel
theorem d_DiscMakerModel_componentsOf_1 : decode b_DiscMakerModel_componentsOf 1 = .ok (.getfield 7, 3) := by decide +kernel
theorem d_DiscMakerModel_componentsOf_4 : decode b_DiscMakerModel_componentsOf 4 = .ok (.iload_n 2, 1) := by decide +kernel
theorem d_DiscMakerModel_componentsOf_5 : decode b_DiscMakerModel_componentsOf 5 = .ok (.baload, 1) := by decide +kernel
theorem d_DiscMakerModel_componentsOf_6 : decode b_DiscMakerModel_componentsOf 6 = .ok (.bipush 47, 2) := by decide +kernel
theorem d_DiscMakerModel_componentsOf_8 : decode b_DiscMakerModel_componentsOf 8 = .ok (.if_icmp .ne 7, 3) := by decide +kernel
theorem d_DiscMakerModel_componentsOf_11 : decode b_DiscMakerModel_componentsOf 11 = .ok (.iconst 2, 1) := by decide +kernel
theorem d_DiscMakerModel_componentsOf_12 : decode b_DiscMakerModel_componentsOf 12 = .ok (.goto 4, 3) := by decide +kernel
theorem d_DiscMakerModel_componentsOf_15 : decode b_DiscMakerModel_componentsOf 15 = .ok (.iconst 0, 1) := by decide +kernel
theorem d_DiscMakerModel_componentsOf_16 : decode b_DiscMakerModel_componentsOf 16 = .ok (.istore_n 3, 1) := by decide +kernel
theorem d_DiscMakerModel_componentsOf_17 : decode b_DiscMakerModel_componentsOf 17 = .ok (.iconst 0, 1) := by decide +kernel
theorem d_DiscMakerModel_componentsOf_18 : decode b_DiscMakerModel_componentsOf 18 = .ok (.istore 4, 2) := by decide +kernel
theorem d_DiscMakerModel_componentsOf_20 : decode b_DiscMakerModel_componentsOf 20 = .ok (.iload 4, 2) := by decide +kernel
theorem d_DiscMakerModel_componentsOf_22 : decode b_DiscMakerModel_componentsOf 22 = .ok (.iload_n 1, 1) := by decide +kernel
theorem d_DiscMakerModel_componentsOf_23 : decode b_DiscMakerModel_componentsOf 23 = .ok (.if_icmp .ge 137, 3) := by decide +kernel
theorem d_DiscMakerModel_componentsOf_26 : decode b_DiscMakerModel_componentsOf 26 = .ok (.iload 4, 2) := by decide +kernel
theorem d_DiscMakerModel_componentsOf_28 : decode b_DiscMakerModel_componentsOf 28 = .ok (.istore 5, 2) := by decide +kernel
theorem d_DiscMakerModel_componentsOf_30 : decode b_DiscMakerModel_componentsOf 30 = .ok (.iload 5, 2) := by decide +kernel
theorem d_DiscMakerModel_componentsOf_32 : decode b_DiscMakerModel_componentsOf 32 = .ok (.iload_n 1, 1) := by decide +kernel
theorem d_DiscMakerModel_componentsOf_33 : decode b_DiscMakerModel_componentsOf 33 = .ok (.if_icmp .ge 23, 3) := by decide +kernel
theorem d_DiscMakerModel_componentsOf_36 : decode b_DiscMakerModel_componentsOf 36 = .ok (.aload_n 0, 1) := by decide +kernel
theorem d_DiscMakerModel_componentsOf_37 : decode b_DiscMakerModel_componentsOf 37 = .ok (.getfield 7, 3) := by decide +kernel
theorem d_DiscMakerModel_componentsOf_40 : decode b_DiscMakerModel_componentsOf 40 = .ok (.iload_n 2, 1) := by decide +kernel
theorem d_DiscMakerModel_componentsOf_41 : decode b_DiscMakerModel_componentsOf 41 = .ok (.iload 5, 2) := by decide +kernel
theorem d_DiscMakerModel_componentsOf_43 : decode b_DiscMakerModel_componentsOf 43 = .ok (.iadd, 1) := by decide +kernel
theorem d_DiscMakerModel_componentsOf_44 : decode b_DiscMakerModel_componentsOf 44 = .ok (.baload, 1) := by decide +kernel
theorem d_DiscMakerModel_componentsOf_45 : decode b_DiscMakerModel_componentsOf 45 = .ok (.bipush 47, 2) := by decide +kernel
theorem d_DiscMakerModel_componentsOf_47 : decode b_DiscMakerModel_componentsOf 47 = .ok (.if_icmp .eq 9, 3) := by decide +kernel
theorem d_DiscMakerModel_componentsOf_50 : decode b_DiscMakerModel_componentsOf 50 = .ok (.iinc 5 1, 3) := by decide +kernel
theorem d_DiscMakerModel_componentsOf_53 : decode b_DiscMakerModel_componentsOf 53 = .ok (.goto (-23), 3) := by decide +kernel
theorem d_DiscMakerModel_componentsOf_56 : decode b_DiscMakerModel_componentsOf 56 = .ok (.iload 5, 2) := by decide +kernel
theorem d_DiscMakerModel_componentsOf_58 : decode b_DiscMakerModel_componentsOf 58 = .ok (.iload 4, 2) := by decide +kernel
theorem d_DiscMakerModel_componentsOf_60 : decode b_DiscMakerModel_componentsOf 60 = .ok (.isub, 1) := by decide +kernel
theorem d_DiscMakerModel_componentsOf_61 : decode b_DiscMakerModel_componentsOf 61 = .ok (.iconst 1, 1) := by decide +kernel
theorem d_DiscMakerModel_componentsOf_62 : decode b_DiscMakerModel_componentsOf 62 = .ok (.if_icmp .ne 17, 3) := by decide +kernel
theorem d_DiscMakerModel_componentsOf_65 : decode b_DiscMakerModel_componentsOf 65 = .ok (.aload_n 0, 1) := by decide +kernel
theorem d_DiscMakerModel_componentsOf_66 : decode b_DiscMakerModel_componentsOf 66 = .ok (.getfield 7, 3) := by decide +kernel
theorem d_DiscMakerModel_componentsOf_69 : decode b_DiscMakerModel_componentsOf 69 = .ok (.iload_n 2, 1) := by decide +kernel
theorem d_DiscMakerModel_componentsOf_70 : decode b_DiscMakerModel_componentsOf 70 = .ok (.iload 4, 2) := by decide +kernel
theorem d_DiscMakerModel_componentsOf_72 : decode b_DiscMakerModel_componentsOf 72 = .ok (.iadd, 1) := by decide +kernel
theorem d_DiscMakerModel_componentsOf_73 : decode b_DiscMakerModel_componentsOf 73 = .ok (.baload, 1) := by decide +kernel
theorem d_DiscMakerModel_componentsOf_74 : decode b_DiscMakerModel_componentsOf 74 = .ok (.bipush 46, 2) := by decide +kernel
theorem d_DiscMakerModel_componentsOf_76 : decode b_DiscMakerModel_componentsOf 76 = .ok (.if_icmp .eq 42, 3) := by decide +kernel
theorem d_DiscMakerModel_componentsOf_79 : decode b_DiscMakerModel_componentsOf 79 = .ok (.iload 5, 2) := by decide +kernel
theorem d_DiscMakerModel_componentsOf_81 : decode b_DiscMakerModel_componentsOf 81 = .ok (.iload 4, 2) := by decide +kernel
theorem d_DiscMakerModel_componentsOf_83 : decode b_DiscMakerModel_componentsOf 83 = .ok (.isub, 1) := by decide +kernel
theorem d_DiscMakerModel_componentsOf_84 : decode b_DiscMakerModel_componentsOf 84 = .ok (.iconst 2, 1) := by decide +kernel
theorem d_DiscMakerModel_componentsOf_85 : decode b_DiscMakerModel_componentsOf 85 = .ok (.if_icmp .ne 37, 3) := by decide +kernel
theorem d_DiscMakerModel_componentsOf_88 : decode b_DiscMakerModel_componentsOf 88 = .ok (.aload_n 0, 1) := by decide +kernel
theorem d_DiscMakerModel_componentsOf_89 : decode b_DiscMakerModel_componentsOf 89 = .ok (.getfield 7, 3) := by decide +kernel
theorem d_DiscMakerModel_componentsOf_92 : decode b_DiscMakerModel_componentsOf 92 = .ok (.iload_n 2, 1) := by decide +kernel
theorem d_DiscMakerModel_componentsOf_93 : decode b_DiscMakerModel_componentsOf 93 = .ok (.iload 4, 2) := by decide +kernel
theorem d_DiscMakerModel_componentsOf_95 : decode b_DiscMakerModel_componentsOf 95 = .ok (.iadd, 1) := by decide +kernel
theorem d_DiscMakerModel_componentsOf_96 : decode b_DiscMakerModel_componentsOf 96 = .ok (.baload, 1) := by decide +kernel
theorem d_DiscMakerModel_componentsOf_97 : decode b_DiscMakerModel_componentsOf 97 = .ok (.bipush 46, 2) := by decide +kernel
theorem d_DiscMakerModel_componentsOf_99 : decode b_DiscMakerModel_componentsOf 99 = .ok (.if_icmp .ne 23, 3) := by decide +kernel
theorem d_DiscMakerModel_componentsOf_102 : decode b_DiscMakerModel_componentsOf 102 = .ok (.aload_n 0, 1) := by decide +kernel
theorem d_DiscMakerModel_componentsOf_103 : decode b_DiscMakerModel_componentsOf 103 = .ok (.getfield 7, 3) := by decide +kernel
theorem d_DiscMakerModel_componentsOf_106 : decode b_DiscMakerModel_componentsOf 106 = .ok (.iload_n 2, 1) := by decide +kernel
theorem d_DiscMakerModel_componentsOf_107 : decode b_DiscMakerModel_componentsOf 107 = .ok (.iload 4, 2) := by decide +kernel
theorem d_DiscMakerModel_componentsOf_109 : decode b_DiscMakerModel_componentsOf 109 = .ok (.iadd, 1) := by decide +kernel
theorem d_DiscMakerModel_componentsOf_110 : decode b_DiscMakerModel_componentsOf 110 = .ok (.iconst 1, 1) := by decide +kernel
theorem d_DiscMakerModel_componentsOf_111 : decode b_DiscMakerModel_componentsOf 111 = .ok (.iadd, 1) := by decide +kernel
theorem d_DiscMakerModel_componentsOf_112 : decode b_DiscMakerModel_componentsOf 112 = .ok (.baload, 1) := by decide +kernel
theorem d_DiscMakerModel_componentsOf_113 : decode b_DiscMakerModel_componentsOf 113 = .ok (.bipush 46, 2) := by decide +kernel
theorem d_DiscMakerModel_componentsOf_115 : decode b_DiscMakerModel_componentsOf 115 = .ok (.if_icmp .ne 7, 3) := by decide +kernel
theorem d_DiscMakerModel_componentsOf_118 : decode b_DiscMakerModel_componentsOf 118 = .ok (.iconst 1, 1) := by decide +kernel
theorem d_DiscMakerModel_componentsOf_119 : decode b_DiscMakerModel_componentsOf 119 = .ok (.goto 4, 3) := by decide +kernel
theorem d_DiscMakerModel_componentsOf_122 : decode b_DiscMakerModel_componentsOf 122 = .ok (.iconst 0, 1) := by decide +kernel
theorem d_DiscMakerModel_componentsOf_123 : decode b_DiscMakerModel_componentsOf 123 = .ok (.istore 6, 2) := by decide +kernel
theorem d_DiscMakerModel_componentsOf_125 : decode b_DiscMakerModel_componentsOf 125 = .ok (.iload 5, 2) := by decide +kernel
theorem d_DiscMakerModel_componentsOf_127 : decode b_DiscMakerModel_componentsOf 127 = .ok (.iload 4, 2) := by decide +kernel
theorem d_DiscMakerModel_componentsOf_129 : decode b_DiscMakerModel_componentsOf 129 = .ok (.if_icmp .le 22, 3) := by decide +kernel
theorem d_DiscMakerModel_componentsOf_132 : decode b_DiscMakerModel_componentsOf 132 = .ok (.iload_n 3, 1) := by decide +kernel
theorem d_DiscMakerModel_componentsOf_133 : decode b_DiscMakerModel_componentsOf 133 = .ok (.iload 6, 2) := by decide +kernel
theorem d_DiscMakerModel_componentsOf_135 : decode b_DiscMakerModel_componentsOf 135 = .ok (.ifCond .eq 7, 3) := by decide +kernel
theorem d_DiscMakerModel_componentsOf_138 : decode b_DiscMakerModel_componentsOf 138 = .ok (.iconst 2, 1) := by decide +kernel
theorem d_DiscMakerModel_componentsOf_139 : decode b_DiscMakerModel_componentsOf 139 = .ok (.goto 10, 3) := by decide +kernel
theorem d_DiscMakerModel_componentsOf_142 : decode b_DiscMakerModel_componentsOf 142 = .ok (.iconst 2, 1) := by decide +kernel
theorem d_DiscMakerModel_componentsOf_143 : decode b_DiscMakerModel_componentsOf 143 = .ok (.iload 5, 2) := by decide +kernel
theorem d_DiscMakerModel_componentsOf_145 : decode b_DiscMakerModel_componentsOf 145 = .ok (.iadd, 1) := by decide +kernel
theorem d_DiscMakerModel_componentsOf_146 : decode b_DiscMakerModel_componentsOf 146 = .ok (.iload 4, 2) := by decide +kernel
theorem d_DiscMakerModel_componentsOf_148 : decode b_DiscMakerModel_componentsOf 148 = .ok (.isub, 1) := by decide +kernel
theorem d_DiscMakerModel_componentsOf_149 : decode b_DiscMakerModel_componentsOf 149 = .ok (.iadd, 1) := by decide +kernel
theorem d_DiscMakerModel_componentsOf_150 : decode b_DiscMakerModel_componentsOf 150 = .ok (.istore_n 3, 1) := by decide +kernel
theorem d_DiscMakerModel_componentsOf_151 : decode b_DiscMakerModel_componentsOf 151 = .ok (.iload 5, 2) := by decide +kernel
theorem d_DiscMakerModel_componentsOf_153 : decode b_DiscMakerModel_componentsOf 153 = .ok (.iconst 1, 1) := by decide +kernel
theorem d_DiscMakerModel_componentsOf_154 : decode b_DiscMakerModel_componentsOf 154 = .ok (.iadd, 1) := by decide +kernel
theorem d_DiscMakerModel_componentsOf_155 : decode b_DiscMakerModel_componentsOf 155 = .ok (.istore 4, 2) := by decide +kernel
theorem d_DiscMakerModel_componentsOf_157 : decode b_DiscMakerModel_componentsOf 157 = .ok (.goto (-137), 3) := by decide +kernel
theorem d_DiscMakerModel_componentsOf_160 : decode b_DiscMakerModel_componentsOf 160 = .ok (.iload_n 3, 1) := by decide +kernel
theorem d_DiscMakerModel_componentsOf_161 : decode b_DiscMakerModel_componentsOf 161 = .ok (.ireturn, 1) := by decide +kernel
set_option maxHeartbeats 4000000 in
set_option maxRecDepth 100000 in
theorem m_componentsOf (l : Launch) (D : va_G) (cB cI cJ cZ cN cF : ClassId) (sz : Nat) (h0 : Nat) (ma : Nat → Nat) (sv_thrown sv_length sv_nodes sv_many sv_directories sv_runsFrom sv_runs sv_read sv_wrong sv_isNamed sv_goes sv_goesSize sv_goesAt sv_targetParts sv_isRoot : Int32) (fX : Nat → Int32) (x : Int32) (y : Int32) (hx0 : 1 ≤ x.toInt ∧ x.toInt ≤ 200) (hy0 : 1 ≤ y.toInt ∧ x.toInt + y.toInt ≤ 400) : Met l y_DiscMakerModel_componentsOf w_DiscMakerModel_componentsOf ({ frames := 0, cells := 0, slots := 0, locals := 0 }) (va_Pc [.ref h0, .int x, .int y] (fun U => U.heap.size = sz ∧ va_P D CL [(h0, .inr (11, MO ma sv_thrown sv_length sv_nodes sv_many sv_directories sv_runsFrom sv_runs sv_read sv_wrong sv_isNamed sv_goes sv_goesSize sv_goesAt sv_targetParts sv_isRoot)), ((ma 0), .inl (cB, 400, .inl fX))] U.heap ∧ va_K D CL (TY cB cI cJ cZ cN cF) U ∧ NN U ∧ va_D (fun _ => True) [(h0, .inr (11, MO ma sv_thrown sv_length sv_nodes sv_many sv_directories sv_runsFrom sv_runs sv_read sv_wrong sv_isNamed sv_goes sv_goesSize sv_goesAt sv_targetParts sv_isRoot)), ((ma 0), .inl (cB, 400, .inl fX))])) (va_Qi (fun (r : Int32) (u : Unit) => True) (fun (u : Unit) (t : State) => match u with | () => va_P D CL [(h0, .inr (11, MO ma sv_thrown sv_length sv_nodes sv_many sv_directories sv_runsFrom sv_runs sv_read sv_wrong sv_isNamed sv_goes sv_goesSize sv_goesAt sv_targetParts sv_isRoot)), ((ma 0), .inl (cB, 400, .inl fX))] t.heap ∧ va_D (va_A [(h0, .inr (11, MO ma sv_thrown sv_length sv_nodes sv_many sv_directories sv_runsFrom sv_runs sv_read sv_wrong sv_isNamed sv_goes sv_goesSize sv_goesAt sv_targetParts sv_isRoot)), ((ma 0), .inl (cB, 400, .inl fX))] sz) [(h0, .inr (11, MO ma sv_thrown sv_length sv_nodes sv_many sv_directories sv_runsFrom sv_runs sv_read sv_wrong sv_isNamed sv_goes sv_goesSize sv_goesAt sv_targetParts sv_isRoot)), ((ma 0), .inl (cB, 400, .inl fX))]) (va_A [(h0, .inr (11, MO ma sv_thrown sv_length sv_nodes sv_many sv_directories sv_runsFrom sv_runs sv_read sv_wrong sv_isNamed sv_goes sv_goesSize sv_goesAt sv_targetParts sv_isRoot)), ((ma 0), .inl (cB, 400, .inl fX))] sz)) 0 0 (va_A [(h0, .inr (11, MO ma sv_thrown sv_length sv_nodes sv_many sv_directories sv_runsFrom sv_runs sv_read sv_wrong sv_isNamed sv_goes sv_goesSize sv_goesAt sv_targetParts sv_isRoot)), ((ma 0), .inl (cB, 400, .inl fX))] sz) := by
  refine Met.ofW (cc := b_DiscMakerModel_componentsOf) (maxL := 7) (ret := some .int) (by decide) rfl ?_
  intro p e s m args below meth c s₁ B hml hv
  obtain ⟨rfl, hsz, hP, hK, hN, hD0⟩ := hv
  have hx := B.exec
  have hb := B.bytes
  have hr := B.returns
  have hts := atoms_spec (ws := w_DiscMakerModel_componentsOf) B.pre
  have ht9 := fun (w : Cond) (h : w ∈ lw_g) => hts w (List.mem_cons_of_mem _ h)
  have hown : s.vm.findClass "DiscMakerModel" = some m.cls := findClass_of_methodNamed B.named
  have hlocks := B.notSynchronized
  subst hsz
  have hD := hD0.self (sz := s.heap.size)
  generalize hAe : va_A [(h0, .inr (11, MO ma sv_thrown sv_length sv_nodes sv_many sv_directories sv_runsFrom sv_runs sv_read sv_wrong sv_isNamed sv_goes sv_goesSize sv_goesAt sv_targetParts sv_isRoot)), ((ma 0), .inl (cB, 400, .inl fX))] s.heap.size = A at hD ⊢
  have hA : ∀ q : Nat, s.heap.size ≤ q → A q := fun q h => by rw [← hAe]; exact Or.inr h
  have hS : va_S A s.heap s.heap [] := va_S.rf
  have hP : va_P D CL [(h0, .inr (11, MO ma sv_thrown sv_length sv_nodes sv_many sv_directories sv_runsFrom sv_runs sv_read sv_wrong sv_isNamed sv_goes sv_goesSize sv_goesAt sv_targetParts sv_isRoot)), ((ma 0), .inl (cB, 400, .inl fX))] s.heap := hP
  have hl := lv_entry [.ref h0, .int x, .int y] (n := 7) (Nat.le_of_ble_eq_true rfl)
  rw [lg_entry_eq]
  generalize (lg_sl [.ref h0, .int x, .int y] ++ List.replicate (7 - (lg_sl [.ref h0, .int x, .int y]).length) Slot.unset).toArray = ls at hl ⊢
  have hl : lv_has ls 7 [(0, .ref h0), (1, .int x), (2, .int y)] := hl
  have L_m1 : ((-1) : Int32).toInt = (-1) := by decide
  have L_0 : (0 : Int32).toInt = 0 := by decide
  have L_1 : (1 : Int32).toInt = 1 := by decide
  have L_2 : (2 : Int32).toInt = 2 := by decide
  have L_46 : (46 : Int32).toInt = 46 := by decide
  have L_47 : (47 : Int32).toInt = 47 := by decide
  refine lv_aload_n hx hb d_DiscMakerModel_componentsOf_0 rfl (lv_at hl 0 rfl) ?_
  refine va_get (D := D) (ci := 11) (v := .ref (ma 0)) (C := "DiscMakerModel") (T := F_DiscMakerModel) (N := 48) hx hb ht9 in_DiscMakerModel hown hK hP 0 rfl rfl 1 (by decide) (ht9 _ k1432) (fun _ h9 => h9) rfl d_DiscMakerModel_componentsOf_1 ?_
  refine lv_iload_n hx hb d_DiscMakerModel_componentsOf_4 rfl (lv_at hl 2 rfl) ?_
  refine va_bald hx hb hK hP 1 0 rfl rfl (vp_in_iff.mpr ⟨by omega, by omega⟩) d_DiscMakerModel_componentsOf_5 ?_
  refine lv_topi (fun v1 e_v1 => ?_)
  refine lv_bipush (v := 47) hx hb d_DiscMakerModel_componentsOf_6 (by decide) ?_
  refine lv_icmp_ne (tgt := 15) hx hb d_DiscMakerModel_componentsOf_8 (by decide) (fun h_9 => ?_) (fun h_9 => ?_)
  · skip
    have g8_6 : ¬ v1.toInt = 47 := fun h8 => h_9 ((i_eq rfl (by decide)).mpr h8)
    refine lv_iconst (v := 0) hx hb d_DiscMakerModel_componentsOf_15 (by decide) ?_
    refine lv_istore_n hx hb d_DiscMakerModel_componentsOf_16 rfl hl (by decide) rfl (fun ls hl => ?_)
    have hl : lv_has ls 7 [(3, .int 0), (0, .ref h0), (1, .int x), (2, .int y)] := hl
    refine lv_iconst (v := 0) hx hb d_DiscMakerModel_componentsOf_17 (by decide) ?_
    refine lv_istore hx hb d_DiscMakerModel_componentsOf_18 hl (by decide) rfl (fun ls hl => ?_)
    have hl : lv_has ls 7 [(4, .int 0), (3, .int 0), (0, .ref h0), (1, .int x), (2, .int y)] := hl
    refine zz_lab (P := fun (lk : Nat) (H : Heap) (locs : List Loc) (ls : Array Slot) (stk : List Value) => ∃ (al : Int32) (lp : Int32) , lk = (x.toInt + 1 - lp.toInt).toNat ∧ stk = [] ∧ (0 ≤ lp.toInt ∧ lp.toInt ≤ x.toInt + 1) ∧ (0 ≤ al.toInt ∧ al.toInt ≤ 2 + 3 * lp.toInt) ∧ va_P D CL [(h0, .inr (11, MO ma sv_thrown sv_length sv_nodes sv_many sv_directories sv_runsFrom sv_runs sv_read sv_wrong sv_isNamed sv_goes sv_goesSize sv_goesAt sv_targetParts sv_isRoot)), ((ma 0), .inl (cB, 400, .inl fX))] H ∧ va_D A [(h0, .inr (11, MO ma sv_thrown sv_length sv_nodes sv_many sv_directories sv_runsFrom sv_runs sv_read sv_wrong sv_isNamed sv_goes sv_goesSize sv_goesAt sv_targetParts sv_isRoot)), ((ma 0), .inl (cB, 400, .inl fX))] ∧ va_S A s.heap H locs ∧ lv_has ls 7 [(0, .ref h0), (1, .int x), (2, .int y), (3, .int al), (4, .int lp)]) 20 ?_ ?_
    · skip
      intro lk ih20 H locs ls stk hI
      obtain ⟨al, lp, hm20, rfl, f1, f2, hP, hD, hS, hl⟩ := hI
      refine lv_iload hx hb d_DiscMakerModel_componentsOf_20 (lv_at hl 4 rfl) ?_
      refine lv_iload_n hx hb d_DiscMakerModel_componentsOf_22 rfl (lv_at hl 1 rfl) ?_
      refine lv_icmp_ge (tgt := 160) hx hb d_DiscMakerModel_componentsOf_23 (by decide) (fun h_9 => ?_) (fun h_9 => ?_)
      · skip
        have g23_13 : x.toInt ≤ lp.toInt := (i_le rfl rfl).mp h_9
        refine lv_iload_n hx hb d_DiscMakerModel_componentsOf_160 rfl (lv_at hl 3 rfl) ?_
        have hP9 := hP.sub (ws' := [(h0, .inr (11, MO ma sv_thrown sv_length sv_nodes sv_many sv_directories sv_runsFrom sv_runs sv_read sv_wrong sv_isNamed sv_goes sv_goesSize sv_goesAt sv_targetParts sv_isRoot)), ((ma 0), .inl (cB, 400, .inl fX))]) [0, 1] rfl
        have hD9 := hD.sub (ws' := [(h0, .inr (11, MO ma sv_thrown sv_length sv_nodes sv_many sv_directories sv_runsFrom sv_runs sv_read sv_wrong sv_isNamed sv_goes sv_goesSize sv_goesAt sv_targetParts sv_isRoot)), ((ma 0), .inl (cB, 400, .inl fX))]) [0, 1] (by decide) rfl
        exact W.iret (v := al) hx hb hr (fun t ht hW => ⟨⟨al, (), rfl, trivial, by rw [ht]; exact hP9, hD9⟩, hS.F ht⟩) hS.2.2 d_DiscMakerModel_componentsOf_161
      · skip
        have g23_13 : ¬ x.toInt ≤ lp.toInt := fun h8 => h_9 ((i_le rfl rfl).mpr h8)
        refine lv_iload hx hb d_DiscMakerModel_componentsOf_26 (lv_at hl 4 rfl) ?_
        refine lv_istore hx hb d_DiscMakerModel_componentsOf_28 hl (by decide) rfl (fun ls hl => ?_)
        have hl : lv_has ls 7 [(5, .int lp), (0, .ref h0), (1, .int x), (2, .int y), (3, .int al), (4, .int lp)] := hl
        refine zz_lab (P := fun (lk : Nat) (H : Heap) (locs : List Loc) (ls : Array Slot) (stk : List Value) => ∃ (lq : Int32) , lk = (x.toInt - lq.toInt).toNat ∧ stk = [] ∧ (lp.toInt ≤ lq.toInt ∧ lq.toInt ≤ x.toInt) ∧ va_P D CL [(h0, .inr (11, MO ma sv_thrown sv_length sv_nodes sv_many sv_directories sv_runsFrom sv_runs sv_read sv_wrong sv_isNamed sv_goes sv_goesSize sv_goesAt sv_targetParts sv_isRoot)), ((ma 0), .inl (cB, 400, .inl fX))] H ∧ va_D A [(h0, .inr (11, MO ma sv_thrown sv_length sv_nodes sv_many sv_directories sv_runsFrom sv_runs sv_read sv_wrong sv_isNamed sv_goes sv_goesSize sv_goesAt sv_targetParts sv_isRoot)), ((ma 0), .inl (cB, 400, .inl fX))] ∧ va_S A s.heap H locs ∧ lv_has ls 7 [(0, .ref h0), (1, .int x), (2, .int y), (3, .int al), (4, .int lp), (5, .int lq)]) 30 ?_ ?_
        · skip
          intro lk ih30 H locs ls stk hI
          obtain ⟨lq, hm30, rfl, f3, hP, hD, hS, hl⟩ := hI
          refine lv_iload hx hb d_DiscMakerModel_componentsOf_30 (lv_at hl 5 rfl) ?_
          refine lv_iload_n hx hb d_DiscMakerModel_componentsOf_32 rfl (lv_at hl 1 rfl) ?_
          refine lv_icmp_ge (tgt := 56) hx hb d_DiscMakerModel_componentsOf_33 (by decide) (fun h_9 => ?_) (fun h_9 => ?_)
          · skip
            have g33_20 : x.toInt ≤ lq.toInt := (i_le rfl rfl).mp h_9
            refine zz_lab (P := fun (lk : Nat) (H : Heap) (locs : List Loc) (ls : Array Slot) (stk : List Value) => ∃ (dt : Int32) , lk = 0 ∧ stk = [.int dt] ∧ va_P D CL [(h0, .inr (11, MO ma sv_thrown sv_length sv_nodes sv_many sv_directories sv_runsFrom sv_runs sv_read sv_wrong sv_isNamed sv_goes sv_goesSize sv_goesAt sv_targetParts sv_isRoot)), ((ma 0), .inl (cB, 400, .inl fX))] H ∧ va_D A [(h0, .inr (11, MO ma sv_thrown sv_length sv_nodes sv_many sv_directories sv_runsFrom sv_runs sv_read sv_wrong sv_isNamed sv_goes sv_goesSize sv_goesAt sv_targetParts sv_isRoot)), ((ma 0), .inl (cB, 400, .inl fX))] ∧ va_S A s.heap H locs ∧ lv_has ls 7 [(0, .ref h0), (1, .int x), (2, .int y), (3, .int al), (4, .int lp), (5, .int lq)]) 123 ?_ ?_
            · skip
              intro lk ih123 H locs ls stk hI
              obtain ⟨dt, hm123, rfl, hP, hD, hS, hl⟩ := hI
              refine lv_istore hx hb d_DiscMakerModel_componentsOf_123 hl (by decide) rfl (fun ls hl => ?_)
              have hl : lv_has ls 7 [(6, .int dt), (0, .ref h0), (1, .int x), (2, .int y), (3, .int al), (4, .int lp), (5, .int lq)] := hl
              refine lv_iload hx hb d_DiscMakerModel_componentsOf_125 (lv_at hl 6 rfl) ?_
              refine lv_iload hx hb d_DiscMakerModel_componentsOf_127 (lv_at hl 5 rfl) ?_
              refine lv_icmp_le (tgt := 151) hx hb d_DiscMakerModel_componentsOf_129 (by decide) (fun h_9 => ?_) (fun h_9 => ?_)
              · skip
                have g129_24 : lq.toInt ≤ lp.toInt := (i_le rfl rfl).mp h_9
                refine lv_iload hx hb d_DiscMakerModel_componentsOf_151 (lv_at hl 6 rfl) ?_
                refine lv_iconst (v := 1) hx hb d_DiscMakerModel_componentsOf_153 (by decide) ?_
                refine lv_iadd hx hb d_DiscMakerModel_componentsOf_154 ?_
                refine lv_topi (fun v2 e_v2 => ?_)
                have t_v2 : v2.toInt = lq.toInt + 1 := by rw [e_v2]; exact i_add rfl (by decide) (by omega) (by omega)
                refine lv_istore hx hb d_DiscMakerModel_componentsOf_155 hl (by decide) rfl (fun ls hl => ?_)
                have hl : lv_has ls 7 [(4, .int v2), (6, .int dt), (0, .ref h0), (1, .int x), (2, .int y), (3, .int al), (5, .int lq)] := hl
                refine lv_goto (tgt := 20) hx hb d_DiscMakerModel_componentsOf_157 (by decide) ?_
                have hP := hP.sub (ws' := [(h0, .inr (11, MO ma sv_thrown sv_length sv_nodes sv_many sv_directories sv_runsFrom sv_runs sv_read sv_wrong sv_isNamed sv_goes sv_goesSize sv_goesAt sv_targetParts sv_isRoot)), ((ma 0), .inl (cB, 400, .inl fX))]) [0, 1] rfl
                have hD := hD.sub (ws' := [(h0, .inr (11, MO ma sv_thrown sv_length sv_nodes sv_many sv_directories sv_runsFrom sv_runs sv_read sv_wrong sv_isNamed sv_goes sv_goesSize sv_goesAt sv_targetParts sv_isRoot)), ((ma 0), .inl (cB, 400, .inl fX))]) [0, 1] (by decide) rfl
                have hl := lv_sub hl [2, 3, 4, 5, 0] rfl
                exact ih20 (_) (by first | omega | (dsimp only; omega)) _ _ _ _ ⟨al, v2, rfl, rfl, (by (try dsimp only); first | omega | assumption | trivial), (by (try dsimp only); first | omega | assumption | trivial), hP, hD, hS, hl⟩
              · skip
                have g129_24 : ¬ lq.toInt ≤ lp.toInt := fun h8 => h_9 ((i_le rfl rfl).mpr h8)
                refine lv_iload_n hx hb d_DiscMakerModel_componentsOf_132 rfl (lv_at hl 4 rfl) ?_
                refine lv_iload hx hb d_DiscMakerModel_componentsOf_133 (lv_at hl 0 rfl) ?_
                refine lv_if_eq (tgt := 142) hx hb d_DiscMakerModel_componentsOf_135 (by decide) (fun h_9 => ?_) (fun h_9 => ?_)
                · skip
                  have g135_33 : dt.toInt = 0 := (i_eq rfl (by decide)).mp h_9
                  refine lv_iconst (v := 2) hx hb d_DiscMakerModel_componentsOf_142 (by decide) ?_
                  refine lv_iload hx hb d_DiscMakerModel_componentsOf_143 (lv_at hl 6 rfl) ?_
                  refine lv_iadd hx hb d_DiscMakerModel_componentsOf_145 ?_
                  refine lv_topi (fun v3 e_v3 => ?_)
                  have t_v3 : v3.toInt = 2 + lq.toInt := by rw [e_v3]; exact i_add (by decide) rfl (by omega) (by omega)
                  refine lv_iload hx hb d_DiscMakerModel_componentsOf_146 (lv_at hl 5 rfl) ?_
                  refine lv_isub hx hb d_DiscMakerModel_componentsOf_148 ?_
                  refine lv_topi (fun v4 e_v4 => ?_)
                  have t_v4 : v4.toInt = v3.toInt - lp.toInt := by rw [e_v4]; exact i_sub rfl rfl (by omega) (by omega)
                  refine lv_iadd hx hb d_DiscMakerModel_componentsOf_149 ?_
                  refine lv_topi (fun v5 e_v5 => ?_)
                  have t_v5 : v5.toInt = al.toInt + v4.toInt := by rw [e_v5]; exact i_add rfl rfl (by omega) (by omega)
                  refine lv_istore_n hx hb d_DiscMakerModel_componentsOf_150 rfl hl (by decide) rfl (fun ls hl => ?_)
                  have hl : lv_has ls 7 [(3, .int v5), (6, .int dt), (0, .ref h0), (1, .int x), (2, .int y), (4, .int lp), (5, .int lq)] := hl
                  refine lv_iload hx hb d_DiscMakerModel_componentsOf_151 (lv_at hl 6 rfl) ?_
                  refine lv_iconst (v := 1) hx hb d_DiscMakerModel_componentsOf_153 (by decide) ?_
                  refine lv_iadd hx hb d_DiscMakerModel_componentsOf_154 ?_
                  refine lv_topi (fun v6 e_v6 => ?_)
                  have t_v6 : v6.toInt = lq.toInt + 1 := by rw [e_v6]; exact i_add rfl (by decide) (by omega) (by omega)
                  refine lv_istore hx hb d_DiscMakerModel_componentsOf_155 hl (by decide) rfl (fun ls hl => ?_)
                  have hl : lv_has ls 7 [(4, .int v6), (3, .int v5), (6, .int dt), (0, .ref h0), (1, .int x), (2, .int y), (5, .int lq)] := hl
                  refine lv_goto (tgt := 20) hx hb d_DiscMakerModel_componentsOf_157 (by decide) ?_
                  have hP := hP.sub (ws' := [(h0, .inr (11, MO ma sv_thrown sv_length sv_nodes sv_many sv_directories sv_runsFrom sv_runs sv_read sv_wrong sv_isNamed sv_goes sv_goesSize sv_goesAt sv_targetParts sv_isRoot)), ((ma 0), .inl (cB, 400, .inl fX))]) [0, 1] rfl
                  have hD := hD.sub (ws' := [(h0, .inr (11, MO ma sv_thrown sv_length sv_nodes sv_many sv_directories sv_runsFrom sv_runs sv_read sv_wrong sv_isNamed sv_goes sv_goesSize sv_goesAt sv_targetParts sv_isRoot)), ((ma 0), .inl (cB, 400, .inl fX))]) [0, 1] (by decide) rfl
                  have hl := lv_sub hl [3, 4, 5, 1, 0] rfl
                  exact ih20 (_) (by first | omega | (dsimp only; omega)) _ _ _ _ ⟨v5, v6, rfl, rfl, (by (try dsimp only); first | omega | assumption | trivial), (by (try dsimp only); first | omega | assumption | trivial), hP, hD, hS, hl⟩
                · skip
                  have g135_33 : ¬ dt.toInt = 0 := fun h8 => h_9 ((i_eq rfl (by decide)).mpr h8)
                  refine lv_iconst (v := 2) hx hb d_DiscMakerModel_componentsOf_138 (by decide) ?_
                  refine lv_goto (tgt := 149) hx hb d_DiscMakerModel_componentsOf_139 (by decide) ?_
                  refine lv_iadd hx hb d_DiscMakerModel_componentsOf_149 ?_
                  refine lv_topi (fun v7 e_v7 => ?_)
                  have t_v7 : v7.toInt = al.toInt + 2 := by rw [e_v7]; exact i_add rfl (by decide) (by omega) (by omega)
                  refine lv_istore_n hx hb d_DiscMakerModel_componentsOf_150 rfl hl (by decide) rfl (fun ls hl => ?_)
                  have hl : lv_has ls 7 [(3, .int v7), (6, .int dt), (0, .ref h0), (1, .int x), (2, .int y), (4, .int lp), (5, .int lq)] := hl
                  refine lv_iload hx hb d_DiscMakerModel_componentsOf_151 (lv_at hl 6 rfl) ?_
                  refine lv_iconst (v := 1) hx hb d_DiscMakerModel_componentsOf_153 (by decide) ?_
                  refine lv_iadd hx hb d_DiscMakerModel_componentsOf_154 ?_
                  refine lv_topi (fun v8 e_v8 => ?_)
                  have t_v8 : v8.toInt = lq.toInt + 1 := by rw [e_v8]; exact i_add rfl (by decide) (by omega) (by omega)
                  refine lv_istore hx hb d_DiscMakerModel_componentsOf_155 hl (by decide) rfl (fun ls hl => ?_)
                  have hl : lv_has ls 7 [(4, .int v8), (3, .int v7), (6, .int dt), (0, .ref h0), (1, .int x), (2, .int y), (5, .int lq)] := hl
                  refine lv_goto (tgt := 20) hx hb d_DiscMakerModel_componentsOf_157 (by decide) ?_
                  have hP := hP.sub (ws' := [(h0, .inr (11, MO ma sv_thrown sv_length sv_nodes sv_many sv_directories sv_runsFrom sv_runs sv_read sv_wrong sv_isNamed sv_goes sv_goesSize sv_goesAt sv_targetParts sv_isRoot)), ((ma 0), .inl (cB, 400, .inl fX))]) [0, 1] rfl
                  have hD := hD.sub (ws' := [(h0, .inr (11, MO ma sv_thrown sv_length sv_nodes sv_many sv_directories sv_runsFrom sv_runs sv_read sv_wrong sv_isNamed sv_goes sv_goesSize sv_goesAt sv_targetParts sv_isRoot)), ((ma 0), .inl (cB, 400, .inl fX))]) [0, 1] (by decide) rfl
                  have hl := lv_sub hl [3, 4, 5, 1, 0] rfl
                  exact ih20 (_) (by first | omega | (dsimp only; omega)) _ _ _ _ ⟨v7, v8, rfl, rfl, (by (try dsimp only); first | omega | assumption | trivial), (by (try dsimp only); first | omega | assumption | trivial), hP, hD, hS, hl⟩
            · skip
              intro kk123
              refine lv_iload hx hb d_DiscMakerModel_componentsOf_56 (lv_at hl 5 rfl) ?_
              refine lv_iload hx hb d_DiscMakerModel_componentsOf_58 (lv_at hl 4 rfl) ?_
              refine lv_isub hx hb d_DiscMakerModel_componentsOf_60 ?_
              refine lv_topi (fun v9 e_v9 => ?_)
              have t_v9 : v9.toInt = lq.toInt - lp.toInt := by rw [e_v9]; exact i_sub rfl rfl (by omega) (by omega)
              refine lv_iconst (v := 1) hx hb d_DiscMakerModel_componentsOf_61 (by decide) ?_
              refine lv_icmp_ne (tgt := 79) hx hb d_DiscMakerModel_componentsOf_62 (by decide) (fun h_9 => ?_) (fun h_9 => ?_)
              · skip
                have g62_61 : ¬ v9.toInt = 1 := fun h8 => h_9 ((i_eq rfl (by decide)).mpr h8)
                refine lv_iload hx hb d_DiscMakerModel_componentsOf_79 (lv_at hl 5 rfl) ?_
                refine lv_iload hx hb d_DiscMakerModel_componentsOf_81 (lv_at hl 4 rfl) ?_
                refine lv_isub hx hb d_DiscMakerModel_componentsOf_83 ?_
                refine lv_topi (fun v10 e_v10 => ?_)
                have t_v10 : v10.toInt = lq.toInt - lp.toInt := by rw [e_v10]; exact i_sub rfl rfl (by omega) (by omega)
                refine lv_iconst (v := 2) hx hb d_DiscMakerModel_componentsOf_84 (by decide) ?_
                refine lv_icmp_ne (tgt := 122) hx hb d_DiscMakerModel_componentsOf_85 (by decide) (fun h_9 => ?_) (fun h_9 => ?_)
                · skip
                  have g85_66 : ¬ v10.toInt = 2 := fun h8 => h_9 ((i_eq rfl (by decide)).mpr h8)
                  refine lv_iconst (v := 0) hx hb d_DiscMakerModel_componentsOf_122 (by decide) ?_
                  have hP := hP.sub (ws' := [(h0, .inr (11, MO ma sv_thrown sv_length sv_nodes sv_many sv_directories sv_runsFrom sv_runs sv_read sv_wrong sv_isNamed sv_goes sv_goesSize sv_goesAt sv_targetParts sv_isRoot)), ((ma 0), .inl (cB, 400, .inl fX))]) [0, 1] rfl
                  have hD := hD.sub (ws' := [(h0, .inr (11, MO ma sv_thrown sv_length sv_nodes sv_many sv_directories sv_runsFrom sv_runs sv_read sv_wrong sv_isNamed sv_goes sv_goesSize sv_goesAt sv_targetParts sv_isRoot)), ((ma 0), .inl (cB, 400, .inl fX))]) [0, 1] (by decide) rfl
                  have hl := lv_sub hl [0, 1, 2, 3, 4, 5] rfl
                  exact kk123 _ _ _ _ _ ⟨0, rfl, rfl, hP, hD, hS, hl⟩
                · skip
                  have g85_66 : v10.toInt = 2 := (i_eq rfl (by decide)).mp h_9
                  refine lv_aload_n hx hb d_DiscMakerModel_componentsOf_88 rfl (lv_at hl 0 rfl) ?_
                  refine va_get (D := D) (ci := 11) (v := .ref (ma 0)) (C := "DiscMakerModel") (T := F_DiscMakerModel) (N := 48) hx hb ht9 in_DiscMakerModel hown hK hP 0 rfl rfl 1 (by decide) (ht9 _ k1432) (fun _ h9 => h9) rfl d_DiscMakerModel_componentsOf_89 ?_
                  refine lv_iload_n hx hb d_DiscMakerModel_componentsOf_92 rfl (lv_at hl 2 rfl) ?_
                  refine lv_iload hx hb d_DiscMakerModel_componentsOf_93 (lv_at hl 4 rfl) ?_
                  refine lv_iadd hx hb d_DiscMakerModel_componentsOf_95 ?_
                  refine lv_topi (fun v11 e_v11 => ?_)
                  have t_v11 : v11.toInt = y.toInt + lp.toInt := by rw [e_v11]; exact i_add rfl rfl (by omega) (by omega)
                  refine va_bald hx hb hK hP 1 0 rfl rfl (vp_in_iff.mpr ⟨by omega, by omega⟩) d_DiscMakerModel_componentsOf_96 ?_
                  refine lv_topi (fun v12 e_v12 => ?_)
                  refine lv_bipush (v := 46) hx hb d_DiscMakerModel_componentsOf_97 (by decide) ?_
                  refine lv_icmp_ne (tgt := 122) hx hb d_DiscMakerModel_componentsOf_99 (by decide) (fun h_9 => ?_) (fun h_9 => ?_)
                  · skip
                    have g99_76 : ¬ v12.toInt = 46 := fun h8 => h_9 ((i_eq rfl (by decide)).mpr h8)
                    refine lv_iconst (v := 0) hx hb d_DiscMakerModel_componentsOf_122 (by decide) ?_
                    have hP := hP.sub (ws' := [(h0, .inr (11, MO ma sv_thrown sv_length sv_nodes sv_many sv_directories sv_runsFrom sv_runs sv_read sv_wrong sv_isNamed sv_goes sv_goesSize sv_goesAt sv_targetParts sv_isRoot)), ((ma 0), .inl (cB, 400, .inl fX))]) [0, 1] rfl
                    have hD := hD.sub (ws' := [(h0, .inr (11, MO ma sv_thrown sv_length sv_nodes sv_many sv_directories sv_runsFrom sv_runs sv_read sv_wrong sv_isNamed sv_goes sv_goesSize sv_goesAt sv_targetParts sv_isRoot)), ((ma 0), .inl (cB, 400, .inl fX))]) [0, 1] (by decide) rfl
                    have hl := lv_sub hl [0, 1, 2, 3, 4, 5] rfl
                    exact kk123 _ _ _ _ _ ⟨0, rfl, rfl, hP, hD, hS, hl⟩
                  · skip
                    have g99_76 : v12.toInt = 46 := (i_eq rfl (by decide)).mp h_9
                    refine lv_aload_n hx hb d_DiscMakerModel_componentsOf_102 rfl (lv_at hl 0 rfl) ?_
                    refine va_get (D := D) (ci := 11) (v := .ref (ma 0)) (C := "DiscMakerModel") (T := F_DiscMakerModel) (N := 48) hx hb ht9 in_DiscMakerModel hown hK hP 0 rfl rfl 1 (by decide) (ht9 _ k1432) (fun _ h9 => h9) rfl d_DiscMakerModel_componentsOf_103 ?_
                    refine lv_iload_n hx hb d_DiscMakerModel_componentsOf_106 rfl (lv_at hl 2 rfl) ?_
                    refine lv_iload hx hb d_DiscMakerModel_componentsOf_107 (lv_at hl 4 rfl) ?_
                    refine lv_iadd hx hb d_DiscMakerModel_componentsOf_109 ?_
                    refine lv_topi (fun v13 e_v13 => ?_)
                    have t_v13 : v13.toInt = y.toInt + lp.toInt := by rw [e_v13]; exact i_add rfl rfl (by omega) (by omega)
                    refine lv_iconst (v := 1) hx hb d_DiscMakerModel_componentsOf_110 (by decide) ?_
                    refine lv_iadd hx hb d_DiscMakerModel_componentsOf_111 ?_
                    refine lv_topi (fun v14 e_v14 => ?_)
                    have t_v14 : v14.toInt = v13.toInt + 1 := by rw [e_v14]; exact i_add rfl (by decide) (by omega) (by omega)
                    refine va_bald hx hb hK hP 1 0 rfl rfl (vp_in_iff.mpr ⟨by omega, by omega⟩) d_DiscMakerModel_componentsOf_112 ?_
                    refine lv_topi (fun v15 e_v15 => ?_)
                    refine lv_bipush (v := 46) hx hb d_DiscMakerModel_componentsOf_113 (by decide) ?_
                    refine lv_icmp_ne (tgt := 122) hx hb d_DiscMakerModel_componentsOf_115 (by decide) (fun h_9 => ?_) (fun h_9 => ?_)
                    · skip
                      have g115_88 : ¬ v15.toInt = 46 := fun h8 => h_9 ((i_eq rfl (by decide)).mpr h8)
                      refine lv_iconst (v := 0) hx hb d_DiscMakerModel_componentsOf_122 (by decide) ?_
                      have hP := hP.sub (ws' := [(h0, .inr (11, MO ma sv_thrown sv_length sv_nodes sv_many sv_directories sv_runsFrom sv_runs sv_read sv_wrong sv_isNamed sv_goes sv_goesSize sv_goesAt sv_targetParts sv_isRoot)), ((ma 0), .inl (cB, 400, .inl fX))]) [0, 1] rfl
                      have hD := hD.sub (ws' := [(h0, .inr (11, MO ma sv_thrown sv_length sv_nodes sv_many sv_directories sv_runsFrom sv_runs sv_read sv_wrong sv_isNamed sv_goes sv_goesSize sv_goesAt sv_targetParts sv_isRoot)), ((ma 0), .inl (cB, 400, .inl fX))]) [0, 1] (by decide) rfl
                      have hl := lv_sub hl [0, 1, 2, 3, 4, 5] rfl
                      exact kk123 _ _ _ _ _ ⟨0, rfl, rfl, hP, hD, hS, hl⟩
                    · skip
                      have g115_88 : v15.toInt = 46 := (i_eq rfl (by decide)).mp h_9
                      refine lv_iconst (v := 1) hx hb d_DiscMakerModel_componentsOf_118 (by decide) ?_
                      refine lv_goto (tgt := 123) hx hb d_DiscMakerModel_componentsOf_119 (by decide) ?_
                      have hP := hP.sub (ws' := [(h0, .inr (11, MO ma sv_thrown sv_length sv_nodes sv_many sv_directories sv_runsFrom sv_runs sv_read sv_wrong sv_isNamed sv_goes sv_goesSize sv_goesAt sv_targetParts sv_isRoot)), ((ma 0), .inl (cB, 400, .inl fX))]) [0, 1] rfl
                      have hD := hD.sub (ws' := [(h0, .inr (11, MO ma sv_thrown sv_length sv_nodes sv_many sv_directories sv_runsFrom sv_runs sv_read sv_wrong sv_isNamed sv_goes sv_goesSize sv_goesAt sv_targetParts sv_isRoot)), ((ma 0), .inl (cB, 400, .inl fX))]) [0, 1] (by decide) rfl
                      have hl := lv_sub hl [0, 1, 2, 3, 4, 5] rfl
                      exact kk123 _ _ _ _ _ ⟨1, rfl, rfl, hP, hD, hS, hl⟩
              · skip
                have g62_61 : v9.toInt = 1 := (i_eq rfl (by decide)).mp h_9
                refine lv_aload_n hx hb d_DiscMakerModel_componentsOf_65 rfl (lv_at hl 0 rfl) ?_
                refine va_get (D := D) (ci := 11) (v := .ref (ma 0)) (C := "DiscMakerModel") (T := F_DiscMakerModel) (N := 48) hx hb ht9 in_DiscMakerModel hown hK hP 0 rfl rfl 1 (by decide) (ht9 _ k1432) (fun _ h9 => h9) rfl d_DiscMakerModel_componentsOf_66 ?_
                refine lv_iload_n hx hb d_DiscMakerModel_componentsOf_69 rfl (lv_at hl 2 rfl) ?_
                refine lv_iload hx hb d_DiscMakerModel_componentsOf_70 (lv_at hl 4 rfl) ?_
                refine lv_iadd hx hb d_DiscMakerModel_componentsOf_72 ?_
                refine lv_topi (fun v16 e_v16 => ?_)
                have t_v16 : v16.toInt = y.toInt + lp.toInt := by rw [e_v16]; exact i_add rfl rfl (by omega) (by omega)
                refine va_bald hx hb hK hP 1 0 rfl rfl (vp_in_iff.mpr ⟨by omega, by omega⟩) d_DiscMakerModel_componentsOf_73 ?_
                refine lv_topi (fun v17 e_v17 => ?_)
                refine lv_bipush (v := 46) hx hb d_DiscMakerModel_componentsOf_74 (by decide) ?_
                refine lv_icmp_eq (tgt := 118) hx hb d_DiscMakerModel_componentsOf_76 (by decide) (fun h_9 => ?_) (fun h_9 => ?_)
                · skip
                  have g76_101 : v17.toInt = 46 := (i_eq rfl (by decide)).mp h_9
                  refine lv_iconst (v := 1) hx hb d_DiscMakerModel_componentsOf_118 (by decide) ?_
                  refine lv_goto (tgt := 123) hx hb d_DiscMakerModel_componentsOf_119 (by decide) ?_
                  have hP := hP.sub (ws' := [(h0, .inr (11, MO ma sv_thrown sv_length sv_nodes sv_many sv_directories sv_runsFrom sv_runs sv_read sv_wrong sv_isNamed sv_goes sv_goesSize sv_goesAt sv_targetParts sv_isRoot)), ((ma 0), .inl (cB, 400, .inl fX))]) [0, 1] rfl
                  have hD := hD.sub (ws' := [(h0, .inr (11, MO ma sv_thrown sv_length sv_nodes sv_many sv_directories sv_runsFrom sv_runs sv_read sv_wrong sv_isNamed sv_goes sv_goesSize sv_goesAt sv_targetParts sv_isRoot)), ((ma 0), .inl (cB, 400, .inl fX))]) [0, 1] (by decide) rfl
                  have hl := lv_sub hl [0, 1, 2, 3, 4, 5] rfl
                  exact kk123 _ _ _ _ _ ⟨1, rfl, rfl, hP, hD, hS, hl⟩
                · skip
                  have g76_101 : ¬ v17.toInt = 46 := fun h8 => h_9 ((i_eq rfl (by decide)).mpr h8)
                  refine lv_iload hx hb d_DiscMakerModel_componentsOf_79 (lv_at hl 5 rfl) ?_
                  refine lv_iload hx hb d_DiscMakerModel_componentsOf_81 (lv_at hl 4 rfl) ?_
                  refine lv_isub hx hb d_DiscMakerModel_componentsOf_83 ?_
                  refine lv_topi (fun v18 e_v18 => ?_)
                  have t_v18 : v18.toInt = lq.toInt - lp.toInt := by rw [e_v18]; exact i_sub rfl rfl (by omega) (by omega)
                  refine lv_iconst (v := 2) hx hb d_DiscMakerModel_componentsOf_84 (by decide) ?_
                  refine lv_icmp_ne (tgt := 122) hx hb d_DiscMakerModel_componentsOf_85 (by decide) (fun h_9 => ?_) (fun h_9 => ?_)
                  · skip
                    have g85_109 : ¬ v18.toInt = 2 := fun h8 => h_9 ((i_eq rfl (by decide)).mpr h8)
                    refine lv_iconst (v := 0) hx hb d_DiscMakerModel_componentsOf_122 (by decide) ?_
                    have hP := hP.sub (ws' := [(h0, .inr (11, MO ma sv_thrown sv_length sv_nodes sv_many sv_directories sv_runsFrom sv_runs sv_read sv_wrong sv_isNamed sv_goes sv_goesSize sv_goesAt sv_targetParts sv_isRoot)), ((ma 0), .inl (cB, 400, .inl fX))]) [0, 1] rfl
                    have hD := hD.sub (ws' := [(h0, .inr (11, MO ma sv_thrown sv_length sv_nodes sv_many sv_directories sv_runsFrom sv_runs sv_read sv_wrong sv_isNamed sv_goes sv_goesSize sv_goesAt sv_targetParts sv_isRoot)), ((ma 0), .inl (cB, 400, .inl fX))]) [0, 1] (by decide) rfl
                    have hl := lv_sub hl [0, 1, 2, 3, 4, 5] rfl
                    exact kk123 _ _ _ _ _ ⟨0, rfl, rfl, hP, hD, hS, hl⟩
                  · skip
                    have g85_109 : v18.toInt = 2 := (i_eq rfl (by decide)).mp h_9
                    refine lv_aload_n hx hb d_DiscMakerModel_componentsOf_88 rfl (lv_at hl 0 rfl) ?_
                    refine va_get (D := D) (ci := 11) (v := .ref (ma 0)) (C := "DiscMakerModel") (T := F_DiscMakerModel) (N := 48) hx hb ht9 in_DiscMakerModel hown hK hP 0 rfl rfl 1 (by decide) (ht9 _ k1432) (fun _ h9 => h9) rfl d_DiscMakerModel_componentsOf_89 ?_
                    refine lv_iload_n hx hb d_DiscMakerModel_componentsOf_92 rfl (lv_at hl 2 rfl) ?_
                    refine lv_iload hx hb d_DiscMakerModel_componentsOf_93 (lv_at hl 4 rfl) ?_
                    refine lv_iadd hx hb d_DiscMakerModel_componentsOf_95 ?_
                    refine lv_topi (fun v19 e_v19 => ?_)
                    have t_v19 : v19.toInt = y.toInt + lp.toInt := by rw [e_v19]; exact i_add rfl rfl (by omega) (by omega)
                    refine va_bald hx hb hK hP 1 0 rfl rfl (vp_in_iff.mpr ⟨by omega, by omega⟩) d_DiscMakerModel_componentsOf_96 ?_
                    refine lv_topi (fun v20 e_v20 => ?_)
                    refine lv_bipush (v := 46) hx hb d_DiscMakerModel_componentsOf_97 (by decide) ?_
                    refine lv_icmp_ne (tgt := 122) hx hb d_DiscMakerModel_componentsOf_99 (by decide) (fun h_9 => ?_) (fun h_9 => ?_)
                    · skip
                      have g99_119 : ¬ v20.toInt = 46 := fun h8 => h_9 ((i_eq rfl (by decide)).mpr h8)
                      refine lv_iconst (v := 0) hx hb d_DiscMakerModel_componentsOf_122 (by decide) ?_
                      have hP := hP.sub (ws' := [(h0, .inr (11, MO ma sv_thrown sv_length sv_nodes sv_many sv_directories sv_runsFrom sv_runs sv_read sv_wrong sv_isNamed sv_goes sv_goesSize sv_goesAt sv_targetParts sv_isRoot)), ((ma 0), .inl (cB, 400, .inl fX))]) [0, 1] rfl
                      have hD := hD.sub (ws' := [(h0, .inr (11, MO ma sv_thrown sv_length sv_nodes sv_many sv_directories sv_runsFrom sv_runs sv_read sv_wrong sv_isNamed sv_goes sv_goesSize sv_goesAt sv_targetParts sv_isRoot)), ((ma 0), .inl (cB, 400, .inl fX))]) [0, 1] (by decide) rfl
                      have hl := lv_sub hl [0, 1, 2, 3, 4, 5] rfl
                      exact kk123 _ _ _ _ _ ⟨0, rfl, rfl, hP, hD, hS, hl⟩
                    · skip
                      have g99_119 : v20.toInt = 46 := (i_eq rfl (by decide)).mp h_9
                      refine lv_aload_n hx hb d_DiscMakerModel_componentsOf_102 rfl (lv_at hl 0 rfl) ?_
                      refine va_get (D := D) (ci := 11) (v := .ref (ma 0)) (C := "DiscMakerModel") (T := F_DiscMakerModel) (N := 48) hx hb ht9 in_DiscMakerModel hown hK hP 0 rfl rfl 1 (by decide) (ht9 _ k1432) (fun _ h9 => h9) rfl d_DiscMakerModel_componentsOf_103 ?_
                      refine lv_iload_n hx hb d_DiscMakerModel_componentsOf_106 rfl (lv_at hl 2 rfl) ?_
                      refine lv_iload hx hb d_DiscMakerModel_componentsOf_107 (lv_at hl 4 rfl) ?_
                      refine lv_iadd hx hb d_DiscMakerModel_componentsOf_109 ?_
                      refine lv_topi (fun v21 e_v21 => ?_)
                      have t_v21 : v21.toInt = y.toInt + lp.toInt := by rw [e_v21]; exact i_add rfl rfl (by omega) (by omega)
                      refine lv_iconst (v := 1) hx hb d_DiscMakerModel_componentsOf_110 (by decide) ?_
                      refine lv_iadd hx hb d_DiscMakerModel_componentsOf_111 ?_
                      refine lv_topi (fun v22 e_v22 => ?_)
                      have t_v22 : v22.toInt = v21.toInt + 1 := by rw [e_v22]; exact i_add rfl (by decide) (by omega) (by omega)
                      refine va_bald hx hb hK hP 1 0 rfl rfl (vp_in_iff.mpr ⟨by omega, by omega⟩) d_DiscMakerModel_componentsOf_112 ?_
                      refine lv_topi (fun v23 e_v23 => ?_)
                      refine lv_bipush (v := 46) hx hb d_DiscMakerModel_componentsOf_113 (by decide) ?_
                      refine lv_icmp_ne (tgt := 122) hx hb d_DiscMakerModel_componentsOf_115 (by decide) (fun h_9 => ?_) (fun h_9 => ?_)
                      · skip
                        have g115_131 : ¬ v23.toInt = 46 := fun h8 => h_9 ((i_eq rfl (by decide)).mpr h8)
                        refine lv_iconst (v := 0) hx hb d_DiscMakerModel_componentsOf_122 (by decide) ?_
                        have hP := hP.sub (ws' := [(h0, .inr (11, MO ma sv_thrown sv_length sv_nodes sv_many sv_directories sv_runsFrom sv_runs sv_read sv_wrong sv_isNamed sv_goes sv_goesSize sv_goesAt sv_targetParts sv_isRoot)), ((ma 0), .inl (cB, 400, .inl fX))]) [0, 1] rfl
                        have hD := hD.sub (ws' := [(h0, .inr (11, MO ma sv_thrown sv_length sv_nodes sv_many sv_directories sv_runsFrom sv_runs sv_read sv_wrong sv_isNamed sv_goes sv_goesSize sv_goesAt sv_targetParts sv_isRoot)), ((ma 0), .inl (cB, 400, .inl fX))]) [0, 1] (by decide) rfl
                        have hl := lv_sub hl [0, 1, 2, 3, 4, 5] rfl
                        exact kk123 _ _ _ _ _ ⟨0, rfl, rfl, hP, hD, hS, hl⟩
                      · skip
                        have g115_131 : v23.toInt = 46 := (i_eq rfl (by decide)).mp h_9
                        refine lv_iconst (v := 1) hx hb d_DiscMakerModel_componentsOf_118 (by decide) ?_
                        refine lv_goto (tgt := 123) hx hb d_DiscMakerModel_componentsOf_119 (by decide) ?_
                        have hP := hP.sub (ws' := [(h0, .inr (11, MO ma sv_thrown sv_length sv_nodes sv_many sv_directories sv_runsFrom sv_runs sv_read sv_wrong sv_isNamed sv_goes sv_goesSize sv_goesAt sv_targetParts sv_isRoot)), ((ma 0), .inl (cB, 400, .inl fX))]) [0, 1] rfl
                        have hD := hD.sub (ws' := [(h0, .inr (11, MO ma sv_thrown sv_length sv_nodes sv_many sv_directories sv_runsFrom sv_runs sv_read sv_wrong sv_isNamed sv_goes sv_goesSize sv_goesAt sv_targetParts sv_isRoot)), ((ma 0), .inl (cB, 400, .inl fX))]) [0, 1] (by decide) rfl
                        have hl := lv_sub hl [0, 1, 2, 3, 4, 5] rfl
                        exact kk123 _ _ _ _ _ ⟨1, rfl, rfl, hP, hD, hS, hl⟩
          · skip
            have g33_20 : ¬ x.toInt ≤ lq.toInt := fun h8 => h_9 ((i_le rfl rfl).mpr h8)
            refine lv_aload_n hx hb d_DiscMakerModel_componentsOf_36 rfl (lv_at hl 0 rfl) ?_
            refine va_get (D := D) (ci := 11) (v := .ref (ma 0)) (C := "DiscMakerModel") (T := F_DiscMakerModel) (N := 48) hx hb ht9 in_DiscMakerModel hown hK hP 0 rfl rfl 1 (by decide) (ht9 _ k1432) (fun _ h9 => h9) rfl d_DiscMakerModel_componentsOf_37 ?_
            refine lv_iload_n hx hb d_DiscMakerModel_componentsOf_40 rfl (lv_at hl 2 rfl) ?_
            refine lv_iload hx hb d_DiscMakerModel_componentsOf_41 (lv_at hl 5 rfl) ?_
            refine lv_iadd hx hb d_DiscMakerModel_componentsOf_43 ?_
            refine lv_topi (fun v24 e_v24 => ?_)
            have t_v24 : v24.toInt = y.toInt + lq.toInt := by rw [e_v24]; exact i_add rfl rfl (by omega) (by omega)
            refine va_bald hx hb hK hP 1 0 rfl rfl (vp_in_iff.mpr ⟨by omega, by omega⟩) d_DiscMakerModel_componentsOf_44 ?_
            refine lv_topi (fun v25 e_v25 => ?_)
            refine lv_bipush (v := 47) hx hb d_DiscMakerModel_componentsOf_45 (by decide) ?_
            refine lv_icmp_eq (tgt := 56) hx hb d_DiscMakerModel_componentsOf_47 (by decide) (fun h_9 => ?_) (fun h_9 => ?_)
            · skip
              have g47_144 : v25.toInt = 47 := (i_eq rfl (by decide)).mp h_9
              refine zz_lab (P := fun (lk : Nat) (H : Heap) (locs : List Loc) (ls : Array Slot) (stk : List Value) => ∃ (dt : Int32) , lk = 0 ∧ stk = [.int dt] ∧ va_P D CL [(h0, .inr (11, MO ma sv_thrown sv_length sv_nodes sv_many sv_directories sv_runsFrom sv_runs sv_read sv_wrong sv_isNamed sv_goes sv_goesSize sv_goesAt sv_targetParts sv_isRoot)), ((ma 0), .inl (cB, 400, .inl fX))] H ∧ va_D A [(h0, .inr (11, MO ma sv_thrown sv_length sv_nodes sv_many sv_directories sv_runsFrom sv_runs sv_read sv_wrong sv_isNamed sv_goes sv_goesSize sv_goesAt sv_targetParts sv_isRoot)), ((ma 0), .inl (cB, 400, .inl fX))] ∧ va_S A s.heap H locs ∧ lv_has ls 7 [(0, .ref h0), (1, .int x), (2, .int y), (3, .int al), (4, .int lp), (5, .int lq)]) 123 ?_ ?_
              · skip
                intro lk ih123 H locs ls stk hI
                obtain ⟨dt, hm123, rfl, hP, hD, hS, hl⟩ := hI
                refine lv_istore hx hb d_DiscMakerModel_componentsOf_123 hl (by decide) rfl (fun ls hl => ?_)
                have hl : lv_has ls 7 [(6, .int dt), (0, .ref h0), (1, .int x), (2, .int y), (3, .int al), (4, .int lp), (5, .int lq)] := hl
                refine lv_iload hx hb d_DiscMakerModel_componentsOf_125 (lv_at hl 6 rfl) ?_
                refine lv_iload hx hb d_DiscMakerModel_componentsOf_127 (lv_at hl 5 rfl) ?_
                refine lv_icmp_le (tgt := 151) hx hb d_DiscMakerModel_componentsOf_129 (by decide) (fun h_9 => ?_) (fun h_9 => ?_)
                · skip
                  have g129_148 : lq.toInt ≤ lp.toInt := (i_le rfl rfl).mp h_9
                  refine lv_iload hx hb d_DiscMakerModel_componentsOf_151 (lv_at hl 6 rfl) ?_
                  refine lv_iconst (v := 1) hx hb d_DiscMakerModel_componentsOf_153 (by decide) ?_
                  refine lv_iadd hx hb d_DiscMakerModel_componentsOf_154 ?_
                  refine lv_topi (fun v26 e_v26 => ?_)
                  have t_v26 : v26.toInt = lq.toInt + 1 := by rw [e_v26]; exact i_add rfl (by decide) (by omega) (by omega)
                  refine lv_istore hx hb d_DiscMakerModel_componentsOf_155 hl (by decide) rfl (fun ls hl => ?_)
                  have hl : lv_has ls 7 [(4, .int v26), (6, .int dt), (0, .ref h0), (1, .int x), (2, .int y), (3, .int al), (5, .int lq)] := hl
                  refine lv_goto (tgt := 20) hx hb d_DiscMakerModel_componentsOf_157 (by decide) ?_
                  have hP := hP.sub (ws' := [(h0, .inr (11, MO ma sv_thrown sv_length sv_nodes sv_many sv_directories sv_runsFrom sv_runs sv_read sv_wrong sv_isNamed sv_goes sv_goesSize sv_goesAt sv_targetParts sv_isRoot)), ((ma 0), .inl (cB, 400, .inl fX))]) [0, 1] rfl
                  have hD := hD.sub (ws' := [(h0, .inr (11, MO ma sv_thrown sv_length sv_nodes sv_many sv_directories sv_runsFrom sv_runs sv_read sv_wrong sv_isNamed sv_goes sv_goesSize sv_goesAt sv_targetParts sv_isRoot)), ((ma 0), .inl (cB, 400, .inl fX))]) [0, 1] (by decide) rfl
                  have hl := lv_sub hl [2, 3, 4, 5, 0] rfl
                  exact ih20 (_) (by first | omega | (dsimp only; omega)) _ _ _ _ ⟨al, v26, rfl, rfl, (by (try dsimp only); first | omega | assumption | trivial), (by (try dsimp only); first | omega | assumption | trivial), hP, hD, hS, hl⟩
                · skip
                  have g129_148 : ¬ lq.toInt ≤ lp.toInt := fun h8 => h_9 ((i_le rfl rfl).mpr h8)
                  refine lv_iload_n hx hb d_DiscMakerModel_componentsOf_132 rfl (lv_at hl 4 rfl) ?_
                  refine lv_iload hx hb d_DiscMakerModel_componentsOf_133 (lv_at hl 0 rfl) ?_
                  refine lv_if_eq (tgt := 142) hx hb d_DiscMakerModel_componentsOf_135 (by decide) (fun h_9 => ?_) (fun h_9 => ?_)
                  · skip
                    have g135_157 : dt.toInt = 0 := (i_eq rfl (by decide)).mp h_9
                    refine lv_iconst (v := 2) hx hb d_DiscMakerModel_componentsOf_142 (by decide) ?_
                    refine lv_iload hx hb d_DiscMakerModel_componentsOf_143 (lv_at hl 6 rfl) ?_
                    refine lv_iadd hx hb d_DiscMakerModel_componentsOf_145 ?_
                    refine lv_topi (fun v27 e_v27 => ?_)
                    have t_v27 : v27.toInt = 2 + lq.toInt := by rw [e_v27]; exact i_add (by decide) rfl (by omega) (by omega)
                    refine lv_iload hx hb d_DiscMakerModel_componentsOf_146 (lv_at hl 5 rfl) ?_
                    refine lv_isub hx hb d_DiscMakerModel_componentsOf_148 ?_
                    refine lv_topi (fun v28 e_v28 => ?_)
                    have t_v28 : v28.toInt = v27.toInt - lp.toInt := by rw [e_v28]; exact i_sub rfl rfl (by omega) (by omega)
                    refine lv_iadd hx hb d_DiscMakerModel_componentsOf_149 ?_
                    refine lv_topi (fun v29 e_v29 => ?_)
                    have t_v29 : v29.toInt = al.toInt + v28.toInt := by rw [e_v29]; exact i_add rfl rfl (by omega) (by omega)
                    refine lv_istore_n hx hb d_DiscMakerModel_componentsOf_150 rfl hl (by decide) rfl (fun ls hl => ?_)
                    have hl : lv_has ls 7 [(3, .int v29), (6, .int dt), (0, .ref h0), (1, .int x), (2, .int y), (4, .int lp), (5, .int lq)] := hl
                    refine lv_iload hx hb d_DiscMakerModel_componentsOf_151 (lv_at hl 6 rfl) ?_
                    refine lv_iconst (v := 1) hx hb d_DiscMakerModel_componentsOf_153 (by decide) ?_
                    refine lv_iadd hx hb d_DiscMakerModel_componentsOf_154 ?_
                    refine lv_topi (fun v30 e_v30 => ?_)
                    have t_v30 : v30.toInt = lq.toInt + 1 := by rw [e_v30]; exact i_add rfl (by decide) (by omega) (by omega)
                    refine lv_istore hx hb d_DiscMakerModel_componentsOf_155 hl (by decide) rfl (fun ls hl => ?_)
                    have hl : lv_has ls 7 [(4, .int v30), (3, .int v29), (6, .int dt), (0, .ref h0), (1, .int x), (2, .int y), (5, .int lq)] := hl
                    refine lv_goto (tgt := 20) hx hb d_DiscMakerModel_componentsOf_157 (by decide) ?_
                    have hP := hP.sub (ws' := [(h0, .inr (11, MO ma sv_thrown sv_length sv_nodes sv_many sv_directories sv_runsFrom sv_runs sv_read sv_wrong sv_isNamed sv_goes sv_goesSize sv_goesAt sv_targetParts sv_isRoot)), ((ma 0), .inl (cB, 400, .inl fX))]) [0, 1] rfl
                    have hD := hD.sub (ws' := [(h0, .inr (11, MO ma sv_thrown sv_length sv_nodes sv_many sv_directories sv_runsFrom sv_runs sv_read sv_wrong sv_isNamed sv_goes sv_goesSize sv_goesAt sv_targetParts sv_isRoot)), ((ma 0), .inl (cB, 400, .inl fX))]) [0, 1] (by decide) rfl
                    have hl := lv_sub hl [3, 4, 5, 1, 0] rfl
                    exact ih20 (_) (by first | omega | (dsimp only; omega)) _ _ _ _ ⟨v29, v30, rfl, rfl, (by (try dsimp only); first | omega | assumption | trivial), (by (try dsimp only); first | omega | assumption | trivial), hP, hD, hS, hl⟩
                  · skip
                    have g135_157 : ¬ dt.toInt = 0 := fun h8 => h_9 ((i_eq rfl (by decide)).mpr h8)
                    refine lv_iconst (v := 2) hx hb d_DiscMakerModel_componentsOf_138 (by decide) ?_
                    refine lv_goto (tgt := 149) hx hb d_DiscMakerModel_componentsOf_139 (by decide) ?_
                    refine lv_iadd hx hb d_DiscMakerModel_componentsOf_149 ?_
                    refine lv_topi (fun v31 e_v31 => ?_)
                    have t_v31 : v31.toInt = al.toInt + 2 := by rw [e_v31]; exact i_add rfl (by decide) (by omega) (by omega)
                    refine lv_istore_n hx hb d_DiscMakerModel_componentsOf_150 rfl hl (by decide) rfl (fun ls hl => ?_)
                    have hl : lv_has ls 7 [(3, .int v31), (6, .int dt), (0, .ref h0), (1, .int x), (2, .int y), (4, .int lp), (5, .int lq)] := hl
                    refine lv_iload hx hb d_DiscMakerModel_componentsOf_151 (lv_at hl 6 rfl) ?_
                    refine lv_iconst (v := 1) hx hb d_DiscMakerModel_componentsOf_153 (by decide) ?_
                    refine lv_iadd hx hb d_DiscMakerModel_componentsOf_154 ?_
                    refine lv_topi (fun v32 e_v32 => ?_)
                    have t_v32 : v32.toInt = lq.toInt + 1 := by rw [e_v32]; exact i_add rfl (by decide) (by omega) (by omega)
                    refine lv_istore hx hb d_DiscMakerModel_componentsOf_155 hl (by decide) rfl (fun ls hl => ?_)
                    have hl : lv_has ls 7 [(4, .int v32), (3, .int v31), (6, .int dt), (0, .ref h0), (1, .int x), (2, .int y), (5, .int lq)] := hl
                    refine lv_goto (tgt := 20) hx hb d_DiscMakerModel_componentsOf_157 (by decide) ?_
                    have hP := hP.sub (ws' := [(h0, .inr (11, MO ma sv_thrown sv_length sv_nodes sv_many sv_directories sv_runsFrom sv_runs sv_read sv_wrong sv_isNamed sv_goes sv_goesSize sv_goesAt sv_targetParts sv_isRoot)), ((ma 0), .inl (cB, 400, .inl fX))]) [0, 1] rfl
                    have hD := hD.sub (ws' := [(h0, .inr (11, MO ma sv_thrown sv_length sv_nodes sv_many sv_directories sv_runsFrom sv_runs sv_read sv_wrong sv_isNamed sv_goes sv_goesSize sv_goesAt sv_targetParts sv_isRoot)), ((ma 0), .inl (cB, 400, .inl fX))]) [0, 1] (by decide) rfl
                    have hl := lv_sub hl [3, 4, 5, 1, 0] rfl
                    exact ih20 (_) (by first | omega | (dsimp only; omega)) _ _ _ _ ⟨v31, v32, rfl, rfl, (by (try dsimp only); first | omega | assumption | trivial), (by (try dsimp only); first | omega | assumption | trivial), hP, hD, hS, hl⟩
              · skip
                intro kk123
                refine lv_iload hx hb d_DiscMakerModel_componentsOf_56 (lv_at hl 5 rfl) ?_
                refine lv_iload hx hb d_DiscMakerModel_componentsOf_58 (lv_at hl 4 rfl) ?_
                refine lv_isub hx hb d_DiscMakerModel_componentsOf_60 ?_
                refine lv_topi (fun v33 e_v33 => ?_)
                have t_v33 : v33.toInt = lq.toInt - lp.toInt := by rw [e_v33]; exact i_sub rfl rfl (by omega) (by omega)
                refine lv_iconst (v := 1) hx hb d_DiscMakerModel_componentsOf_61 (by decide) ?_
                refine lv_icmp_ne (tgt := 79) hx hb d_DiscMakerModel_componentsOf_62 (by decide) (fun h_9 => ?_) (fun h_9 => ?_)
                · skip
                  have g62_185 : ¬ v33.toInt = 1 := fun h8 => h_9 ((i_eq rfl (by decide)).mpr h8)
                  refine lv_iload hx hb d_DiscMakerModel_componentsOf_79 (lv_at hl 5 rfl) ?_
                  refine lv_iload hx hb d_DiscMakerModel_componentsOf_81 (lv_at hl 4 rfl) ?_
                  refine lv_isub hx hb d_DiscMakerModel_componentsOf_83 ?_
                  refine lv_topi (fun v34 e_v34 => ?_)
                  have t_v34 : v34.toInt = lq.toInt - lp.toInt := by rw [e_v34]; exact i_sub rfl rfl (by omega) (by omega)
                  refine lv_iconst (v := 2) hx hb d_DiscMakerModel_componentsOf_84 (by decide) ?_
                  refine lv_icmp_ne (tgt := 122) hx hb d_DiscMakerModel_componentsOf_85 (by decide) (fun h_9 => ?_) (fun h_9 => ?_)
                  · skip
                    have g85_190 : ¬ v34.toInt = 2 := fun h8 => h_9 ((i_eq rfl (by decide)).mpr h8)
                    refine lv_iconst (v := 0) hx hb d_DiscMakerModel_componentsOf_122 (by decide) ?_
                    have hP := hP.sub (ws' := [(h0, .inr (11, MO ma sv_thrown sv_length sv_nodes sv_many sv_directories sv_runsFrom sv_runs sv_read sv_wrong sv_isNamed sv_goes sv_goesSize sv_goesAt sv_targetParts sv_isRoot)), ((ma 0), .inl (cB, 400, .inl fX))]) [0, 1] rfl
                    have hD := hD.sub (ws' := [(h0, .inr (11, MO ma sv_thrown sv_length sv_nodes sv_many sv_directories sv_runsFrom sv_runs sv_read sv_wrong sv_isNamed sv_goes sv_goesSize sv_goesAt sv_targetParts sv_isRoot)), ((ma 0), .inl (cB, 400, .inl fX))]) [0, 1] (by decide) rfl
                    have hl := lv_sub hl [0, 1, 2, 3, 4, 5] rfl
                    exact kk123 _ _ _ _ _ ⟨0, rfl, rfl, hP, hD, hS, hl⟩
                  · skip
                    have g85_190 : v34.toInt = 2 := (i_eq rfl (by decide)).mp h_9
                    refine lv_aload_n hx hb d_DiscMakerModel_componentsOf_88 rfl (lv_at hl 0 rfl) ?_
                    refine va_get (D := D) (ci := 11) (v := .ref (ma 0)) (C := "DiscMakerModel") (T := F_DiscMakerModel) (N := 48) hx hb ht9 in_DiscMakerModel hown hK hP 0 rfl rfl 1 (by decide) (ht9 _ k1432) (fun _ h9 => h9) rfl d_DiscMakerModel_componentsOf_89 ?_
                    refine lv_iload_n hx hb d_DiscMakerModel_componentsOf_92 rfl (lv_at hl 2 rfl) ?_
                    refine lv_iload hx hb d_DiscMakerModel_componentsOf_93 (lv_at hl 4 rfl) ?_
                    refine lv_iadd hx hb d_DiscMakerModel_componentsOf_95 ?_
                    refine lv_topi (fun v35 e_v35 => ?_)
                    have t_v35 : v35.toInt = y.toInt + lp.toInt := by rw [e_v35]; exact i_add rfl rfl (by omega) (by omega)
                    refine va_bald hx hb hK hP 1 0 rfl rfl (vp_in_iff.mpr ⟨by omega, by omega⟩) d_DiscMakerModel_componentsOf_96 ?_
                    refine lv_topi (fun v36 e_v36 => ?_)
                    refine lv_bipush (v := 46) hx hb d_DiscMakerModel_componentsOf_97 (by decide) ?_
                    refine lv_icmp_ne (tgt := 122) hx hb d_DiscMakerModel_componentsOf_99 (by decide) (fun h_9 => ?_) (fun h_9 => ?_)
                    · skip
                      have g99_200 : ¬ v36.toInt = 46 := fun h8 => h_9 ((i_eq rfl (by decide)).mpr h8)
                      refine lv_iconst (v := 0) hx hb d_DiscMakerModel_componentsOf_122 (by decide) ?_
                      have hP := hP.sub (ws' := [(h0, .inr (11, MO ma sv_thrown sv_length sv_nodes sv_many sv_directories sv_runsFrom sv_runs sv_read sv_wrong sv_isNamed sv_goes sv_goesSize sv_goesAt sv_targetParts sv_isRoot)), ((ma 0), .inl (cB, 400, .inl fX))]) [0, 1] rfl
                      have hD := hD.sub (ws' := [(h0, .inr (11, MO ma sv_thrown sv_length sv_nodes sv_many sv_directories sv_runsFrom sv_runs sv_read sv_wrong sv_isNamed sv_goes sv_goesSize sv_goesAt sv_targetParts sv_isRoot)), ((ma 0), .inl (cB, 400, .inl fX))]) [0, 1] (by decide) rfl
                      have hl := lv_sub hl [0, 1, 2, 3, 4, 5] rfl
                      exact kk123 _ _ _ _ _ ⟨0, rfl, rfl, hP, hD, hS, hl⟩
                    · skip
                      have g99_200 : v36.toInt = 46 := (i_eq rfl (by decide)).mp h_9
                      refine lv_aload_n hx hb d_DiscMakerModel_componentsOf_102 rfl (lv_at hl 0 rfl) ?_
                      refine va_get (D := D) (ci := 11) (v := .ref (ma 0)) (C := "DiscMakerModel") (T := F_DiscMakerModel) (N := 48) hx hb ht9 in_DiscMakerModel hown hK hP 0 rfl rfl 1 (by decide) (ht9 _ k1432) (fun _ h9 => h9) rfl d_DiscMakerModel_componentsOf_103 ?_
                      refine lv_iload_n hx hb d_DiscMakerModel_componentsOf_106 rfl (lv_at hl 2 rfl) ?_
                      refine lv_iload hx hb d_DiscMakerModel_componentsOf_107 (lv_at hl 4 rfl) ?_
                      refine lv_iadd hx hb d_DiscMakerModel_componentsOf_109 ?_
                      refine lv_topi (fun v37 e_v37 => ?_)
                      have t_v37 : v37.toInt = y.toInt + lp.toInt := by rw [e_v37]; exact i_add rfl rfl (by omega) (by omega)
                      refine lv_iconst (v := 1) hx hb d_DiscMakerModel_componentsOf_110 (by decide) ?_
                      refine lv_iadd hx hb d_DiscMakerModel_componentsOf_111 ?_
                      refine lv_topi (fun v38 e_v38 => ?_)
                      have t_v38 : v38.toInt = v37.toInt + 1 := by rw [e_v38]; exact i_add rfl (by decide) (by omega) (by omega)
                      refine va_bald hx hb hK hP 1 0 rfl rfl (vp_in_iff.mpr ⟨by omega, by omega⟩) d_DiscMakerModel_componentsOf_112 ?_
                      refine lv_topi (fun v39 e_v39 => ?_)
                      refine lv_bipush (v := 46) hx hb d_DiscMakerModel_componentsOf_113 (by decide) ?_
                      refine lv_icmp_ne (tgt := 122) hx hb d_DiscMakerModel_componentsOf_115 (by decide) (fun h_9 => ?_) (fun h_9 => ?_)
                      · skip
                        have g115_212 : ¬ v39.toInt = 46 := fun h8 => h_9 ((i_eq rfl (by decide)).mpr h8)
                        refine lv_iconst (v := 0) hx hb d_DiscMakerModel_componentsOf_122 (by decide) ?_
                        have hP := hP.sub (ws' := [(h0, .inr (11, MO ma sv_thrown sv_length sv_nodes sv_many sv_directories sv_runsFrom sv_runs sv_read sv_wrong sv_isNamed sv_goes sv_goesSize sv_goesAt sv_targetParts sv_isRoot)), ((ma 0), .inl (cB, 400, .inl fX))]) [0, 1] rfl
                        have hD := hD.sub (ws' := [(h0, .inr (11, MO ma sv_thrown sv_length sv_nodes sv_many sv_directories sv_runsFrom sv_runs sv_read sv_wrong sv_isNamed sv_goes sv_goesSize sv_goesAt sv_targetParts sv_isRoot)), ((ma 0), .inl (cB, 400, .inl fX))]) [0, 1] (by decide) rfl
                        have hl := lv_sub hl [0, 1, 2, 3, 4, 5] rfl
                        exact kk123 _ _ _ _ _ ⟨0, rfl, rfl, hP, hD, hS, hl⟩
                      · skip
                        have g115_212 : v39.toInt = 46 := (i_eq rfl (by decide)).mp h_9
                        refine lv_iconst (v := 1) hx hb d_DiscMakerModel_componentsOf_118 (by decide) ?_
                        refine lv_goto (tgt := 123) hx hb d_DiscMakerModel_componentsOf_119 (by decide) ?_
                        have hP := hP.sub (ws' := [(h0, .inr (11, MO ma sv_thrown sv_length sv_nodes sv_many sv_directories sv_runsFrom sv_runs sv_read sv_wrong sv_isNamed sv_goes sv_goesSize sv_goesAt sv_targetParts sv_isRoot)), ((ma 0), .inl (cB, 400, .inl fX))]) [0, 1] rfl
                        have hD := hD.sub (ws' := [(h0, .inr (11, MO ma sv_thrown sv_length sv_nodes sv_many sv_directories sv_runsFrom sv_runs sv_read sv_wrong sv_isNamed sv_goes sv_goesSize sv_goesAt sv_targetParts sv_isRoot)), ((ma 0), .inl (cB, 400, .inl fX))]) [0, 1] (by decide) rfl
                        have hl := lv_sub hl [0, 1, 2, 3, 4, 5] rfl
                        exact kk123 _ _ _ _ _ ⟨1, rfl, rfl, hP, hD, hS, hl⟩
                · skip
                  have g62_185 : v33.toInt = 1 := (i_eq rfl (by decide)).mp h_9
                  refine lv_aload_n hx hb d_DiscMakerModel_componentsOf_65 rfl (lv_at hl 0 rfl) ?_
                  refine va_get (D := D) (ci := 11) (v := .ref (ma 0)) (C := "DiscMakerModel") (T := F_DiscMakerModel) (N := 48) hx hb ht9 in_DiscMakerModel hown hK hP 0 rfl rfl 1 (by decide) (ht9 _ k1432) (fun _ h9 => h9) rfl d_DiscMakerModel_componentsOf_66 ?_
                  refine lv_iload_n hx hb d_DiscMakerModel_componentsOf_69 rfl (lv_at hl 2 rfl) ?_
                  refine lv_iload hx hb d_DiscMakerModel_componentsOf_70 (lv_at hl 4 rfl) ?_
                  refine lv_iadd hx hb d_DiscMakerModel_componentsOf_72 ?_
                  refine lv_topi (fun v40 e_v40 => ?_)
                  have t_v40 : v40.toInt = y.toInt + lp.toInt := by rw [e_v40]; exact i_add rfl rfl (by omega) (by omega)
                  refine va_bald hx hb hK hP 1 0 rfl rfl (vp_in_iff.mpr ⟨by omega, by omega⟩) d_DiscMakerModel_componentsOf_73 ?_
                  refine lv_topi (fun v41 e_v41 => ?_)
                  refine lv_bipush (v := 46) hx hb d_DiscMakerModel_componentsOf_74 (by decide) ?_
                  refine lv_icmp_eq (tgt := 118) hx hb d_DiscMakerModel_componentsOf_76 (by decide) (fun h_9 => ?_) (fun h_9 => ?_)
                  · skip
                    have g76_225 : v41.toInt = 46 := (i_eq rfl (by decide)).mp h_9
                    refine lv_iconst (v := 1) hx hb d_DiscMakerModel_componentsOf_118 (by decide) ?_
                    refine lv_goto (tgt := 123) hx hb d_DiscMakerModel_componentsOf_119 (by decide) ?_
                    have hP := hP.sub (ws' := [(h0, .inr (11, MO ma sv_thrown sv_length sv_nodes sv_many sv_directories sv_runsFrom sv_runs sv_read sv_wrong sv_isNamed sv_goes sv_goesSize sv_goesAt sv_targetParts sv_isRoot)), ((ma 0), .inl (cB, 400, .inl fX))]) [0, 1] rfl
                    have hD := hD.sub (ws' := [(h0, .inr (11, MO ma sv_thrown sv_length sv_nodes sv_many sv_directories sv_runsFrom sv_runs sv_read sv_wrong sv_isNamed sv_goes sv_goesSize sv_goesAt sv_targetParts sv_isRoot)), ((ma 0), .inl (cB, 400, .inl fX))]) [0, 1] (by decide) rfl
                    have hl := lv_sub hl [0, 1, 2, 3, 4, 5] rfl
                    exact kk123 _ _ _ _ _ ⟨1, rfl, rfl, hP, hD, hS, hl⟩
                  · skip
                    have g76_225 : ¬ v41.toInt = 46 := fun h8 => h_9 ((i_eq rfl (by decide)).mpr h8)
                    refine lv_iload hx hb d_DiscMakerModel_componentsOf_79 (lv_at hl 5 rfl) ?_
                    refine lv_iload hx hb d_DiscMakerModel_componentsOf_81 (lv_at hl 4 rfl) ?_
                    refine lv_isub hx hb d_DiscMakerModel_componentsOf_83 ?_
                    refine lv_topi (fun v42 e_v42 => ?_)
                    have t_v42 : v42.toInt = lq.toInt - lp.toInt := by rw [e_v42]; exact i_sub rfl rfl (by omega) (by omega)
                    refine lv_iconst (v := 2) hx hb d_DiscMakerModel_componentsOf_84 (by decide) ?_
                    refine lv_icmp_ne (tgt := 122) hx hb d_DiscMakerModel_componentsOf_85 (by decide) (fun h_9 => ?_) (fun h_9 => ?_)
                    · skip
                      have g85_233 : ¬ v42.toInt = 2 := fun h8 => h_9 ((i_eq rfl (by decide)).mpr h8)
                      refine lv_iconst (v := 0) hx hb d_DiscMakerModel_componentsOf_122 (by decide) ?_
                      have hP := hP.sub (ws' := [(h0, .inr (11, MO ma sv_thrown sv_length sv_nodes sv_many sv_directories sv_runsFrom sv_runs sv_read sv_wrong sv_isNamed sv_goes sv_goesSize sv_goesAt sv_targetParts sv_isRoot)), ((ma 0), .inl (cB, 400, .inl fX))]) [0, 1] rfl
                      have hD := hD.sub (ws' := [(h0, .inr (11, MO ma sv_thrown sv_length sv_nodes sv_many sv_directories sv_runsFrom sv_runs sv_read sv_wrong sv_isNamed sv_goes sv_goesSize sv_goesAt sv_targetParts sv_isRoot)), ((ma 0), .inl (cB, 400, .inl fX))]) [0, 1] (by decide) rfl
                      have hl := lv_sub hl [0, 1, 2, 3, 4, 5] rfl
                      exact kk123 _ _ _ _ _ ⟨0, rfl, rfl, hP, hD, hS, hl⟩
                    · skip
                      have g85_233 : v42.toInt = 2 := (i_eq rfl (by decide)).mp h_9
                      refine lv_aload_n hx hb d_DiscMakerModel_componentsOf_88 rfl (lv_at hl 0 rfl) ?_
                      refine va_get (D := D) (ci := 11) (v := .ref (ma 0)) (C := "DiscMakerModel") (T := F_DiscMakerModel) (N := 48) hx hb ht9 in_DiscMakerModel hown hK hP 0 rfl rfl 1 (by decide) (ht9 _ k1432) (fun _ h9 => h9) rfl d_DiscMakerModel_componentsOf_89 ?_
                      refine lv_iload_n hx hb d_DiscMakerModel_componentsOf_92 rfl (lv_at hl 2 rfl) ?_
                      refine lv_iload hx hb d_DiscMakerModel_componentsOf_93 (lv_at hl 4 rfl) ?_
                      refine lv_iadd hx hb d_DiscMakerModel_componentsOf_95 ?_
                      refine lv_topi (fun v43 e_v43 => ?_)
                      have t_v43 : v43.toInt = y.toInt + lp.toInt := by rw [e_v43]; exact i_add rfl rfl (by omega) (by omega)
                      refine va_bald hx hb hK hP 1 0 rfl rfl (vp_in_iff.mpr ⟨by omega, by omega⟩) d_DiscMakerModel_componentsOf_96 ?_
                      refine lv_topi (fun v44 e_v44 => ?_)
                      refine lv_bipush (v := 46) hx hb d_DiscMakerModel_componentsOf_97 (by decide) ?_
                      refine lv_icmp_ne (tgt := 122) hx hb d_DiscMakerModel_componentsOf_99 (by decide) (fun h_9 => ?_) (fun h_9 => ?_)
                      · skip
                        have g99_243 : ¬ v44.toInt = 46 := fun h8 => h_9 ((i_eq rfl (by decide)).mpr h8)
                        refine lv_iconst (v := 0) hx hb d_DiscMakerModel_componentsOf_122 (by decide) ?_
                        have hP := hP.sub (ws' := [(h0, .inr (11, MO ma sv_thrown sv_length sv_nodes sv_many sv_directories sv_runsFrom sv_runs sv_read sv_wrong sv_isNamed sv_goes sv_goesSize sv_goesAt sv_targetParts sv_isRoot)), ((ma 0), .inl (cB, 400, .inl fX))]) [0, 1] rfl
                        have hD := hD.sub (ws' := [(h0, .inr (11, MO ma sv_thrown sv_length sv_nodes sv_many sv_directories sv_runsFrom sv_runs sv_read sv_wrong sv_isNamed sv_goes sv_goesSize sv_goesAt sv_targetParts sv_isRoot)), ((ma 0), .inl (cB, 400, .inl fX))]) [0, 1] (by decide) rfl
                        have hl := lv_sub hl [0, 1, 2, 3, 4, 5] rfl
                        exact kk123 _ _ _ _ _ ⟨0, rfl, rfl, hP, hD, hS, hl⟩
                      · skip
                        have g99_243 : v44.toInt = 46 := (i_eq rfl (by decide)).mp h_9
                        refine lv_aload_n hx hb d_DiscMakerModel_componentsOf_102 rfl (lv_at hl 0 rfl) ?_
                        refine va_get (D := D) (ci := 11) (v := .ref (ma 0)) (C := "DiscMakerModel") (T := F_DiscMakerModel) (N := 48) hx hb ht9 in_DiscMakerModel hown hK hP 0 rfl rfl 1 (by decide) (ht9 _ k1432) (fun _ h9 => h9) rfl d_DiscMakerModel_componentsOf_103 ?_
                        refine lv_iload_n hx hb d_DiscMakerModel_componentsOf_106 rfl (lv_at hl 2 rfl) ?_
                        refine lv_iload hx hb d_DiscMakerModel_componentsOf_107 (lv_at hl 4 rfl) ?_
                        refine lv_iadd hx hb d_DiscMakerModel_componentsOf_109 ?_
                        refine lv_topi (fun v45 e_v45 => ?_)
                        have t_v45 : v45.toInt = y.toInt + lp.toInt := by rw [e_v45]; exact i_add rfl rfl (by omega) (by omega)
                        refine lv_iconst (v := 1) hx hb d_DiscMakerModel_componentsOf_110 (by decide) ?_
                        refine lv_iadd hx hb d_DiscMakerModel_componentsOf_111 ?_
                        refine lv_topi (fun v46 e_v46 => ?_)
                        have t_v46 : v46.toInt = v45.toInt + 1 := by rw [e_v46]; exact i_add rfl (by decide) (by omega) (by omega)
                        refine va_bald hx hb hK hP 1 0 rfl rfl (vp_in_iff.mpr ⟨by omega, by omega⟩) d_DiscMakerModel_componentsOf_112 ?_
                        refine lv_topi (fun v47 e_v47 => ?_)
                        refine lv_bipush (v := 46) hx hb d_DiscMakerModel_componentsOf_113 (by decide) ?_
                        refine lv_icmp_ne (tgt := 122) hx hb d_DiscMakerModel_componentsOf_115 (by decide) (fun h_9 => ?_) (fun h_9 => ?_)
                        · skip
                          have g115_255 : ¬ v47.toInt = 46 := fun h8 => h_9 ((i_eq rfl (by decide)).mpr h8)
                          refine lv_iconst (v := 0) hx hb d_DiscMakerModel_componentsOf_122 (by decide) ?_
                          have hP := hP.sub (ws' := [(h0, .inr (11, MO ma sv_thrown sv_length sv_nodes sv_many sv_directories sv_runsFrom sv_runs sv_read sv_wrong sv_isNamed sv_goes sv_goesSize sv_goesAt sv_targetParts sv_isRoot)), ((ma 0), .inl (cB, 400, .inl fX))]) [0, 1] rfl
                          have hD := hD.sub (ws' := [(h0, .inr (11, MO ma sv_thrown sv_length sv_nodes sv_many sv_directories sv_runsFrom sv_runs sv_read sv_wrong sv_isNamed sv_goes sv_goesSize sv_goesAt sv_targetParts sv_isRoot)), ((ma 0), .inl (cB, 400, .inl fX))]) [0, 1] (by decide) rfl
                          have hl := lv_sub hl [0, 1, 2, 3, 4, 5] rfl
                          exact kk123 _ _ _ _ _ ⟨0, rfl, rfl, hP, hD, hS, hl⟩
                        · skip
                          have g115_255 : v47.toInt = 46 := (i_eq rfl (by decide)).mp h_9
                          refine lv_iconst (v := 1) hx hb d_DiscMakerModel_componentsOf_118 (by decide) ?_
                          refine lv_goto (tgt := 123) hx hb d_DiscMakerModel_componentsOf_119 (by decide) ?_
                          have hP := hP.sub (ws' := [(h0, .inr (11, MO ma sv_thrown sv_length sv_nodes sv_many sv_directories sv_runsFrom sv_runs sv_read sv_wrong sv_isNamed sv_goes sv_goesSize sv_goesAt sv_targetParts sv_isRoot)), ((ma 0), .inl (cB, 400, .inl fX))]) [0, 1] rfl
                          have hD := hD.sub (ws' := [(h0, .inr (11, MO ma sv_thrown sv_length sv_nodes sv_many sv_directories sv_runsFrom sv_runs sv_read sv_wrong sv_isNamed sv_goes sv_goesSize sv_goesAt sv_targetParts sv_isRoot)), ((ma 0), .inl (cB, 400, .inl fX))]) [0, 1] (by decide) rfl
                          have hl := lv_sub hl [0, 1, 2, 3, 4, 5] rfl
                          exact kk123 _ _ _ _ _ ⟨1, rfl, rfl, hP, hD, hS, hl⟩
            · skip
              have g47_144 : ¬ v25.toInt = 47 := fun h8 => h_9 ((i_eq rfl (by decide)).mpr h8)
              obtain ⟨v48, e_v48⟩ : ∃ z : Int32, z = lq + 1 := ⟨_, rfl⟩
              refine lv_iinc (v := v48) hx hb d_DiscMakerModel_componentsOf_50 hl (k := 5) rfl e_v48.symm (by decide) rfl (fun ls hl => ?_)
              have t_v48 : v48.toInt = lq.toInt + 1 := by rw [e_v48]; exact i_add rfl (by decide) (by omega) (by omega)
              have hl : lv_has ls 7 [(5, .int v48), (0, .ref h0), (1, .int x), (2, .int y), (3, .int al), (4, .int lp)] := hl
              refine lv_goto (tgt := 30) hx hb d_DiscMakerModel_componentsOf_53 (by decide) ?_
              have hP := hP.sub (ws' := [(h0, .inr (11, MO ma sv_thrown sv_length sv_nodes sv_many sv_directories sv_runsFrom sv_runs sv_read sv_wrong sv_isNamed sv_goes sv_goesSize sv_goesAt sv_targetParts sv_isRoot)), ((ma 0), .inl (cB, 400, .inl fX))]) [0, 1] rfl
              have hD := hD.sub (ws' := [(h0, .inr (11, MO ma sv_thrown sv_length sv_nodes sv_many sv_directories sv_runsFrom sv_runs sv_read sv_wrong sv_isNamed sv_goes sv_goesSize sv_goesAt sv_targetParts sv_isRoot)), ((ma 0), .inl (cB, 400, .inl fX))]) [0, 1] (by decide) rfl
              have hl := lv_sub hl [1, 2, 3, 4, 5, 0] rfl
              exact ih30 (_) (by first | omega | (dsimp only; omega)) _ _ _ _ ⟨v48, rfl, rfl, (by (try dsimp only); first | omega | assumption | trivial), hP, hD, hS, hl⟩
        · skip
          intro kk30
          have hP := hP.sub (ws' := [(h0, .inr (11, MO ma sv_thrown sv_length sv_nodes sv_many sv_directories sv_runsFrom sv_runs sv_read sv_wrong sv_isNamed sv_goes sv_goesSize sv_goesAt sv_targetParts sv_isRoot)), ((ma 0), .inl (cB, 400, .inl fX))]) [0, 1] rfl
          have hD := hD.sub (ws' := [(h0, .inr (11, MO ma sv_thrown sv_length sv_nodes sv_many sv_directories sv_runsFrom sv_runs sv_read sv_wrong sv_isNamed sv_goes sv_goesSize sv_goesAt sv_targetParts sv_isRoot)), ((ma 0), .inl (cB, 400, .inl fX))]) [0, 1] (by decide) rfl
          have hl := lv_sub hl [1, 2, 3, 4, 5, 0] rfl
          exact kk30 _ _ _ _ _ ⟨lp, rfl, rfl, (by (try dsimp only); first | omega | assumption | trivial), hP, hD, hS, hl⟩
    · skip
      intro kk20
      have hP := hP.sub (ws' := [(h0, .inr (11, MO ma sv_thrown sv_length sv_nodes sv_many sv_directories sv_runsFrom sv_runs sv_read sv_wrong sv_isNamed sv_goes sv_goesSize sv_goesAt sv_targetParts sv_isRoot)), ((ma 0), .inl (cB, 400, .inl fX))]) [0, 1] rfl
      have hD := hD.sub (ws' := [(h0, .inr (11, MO ma sv_thrown sv_length sv_nodes sv_many sv_directories sv_runsFrom sv_runs sv_read sv_wrong sv_isNamed sv_goes sv_goesSize sv_goesAt sv_targetParts sv_isRoot)), ((ma 0), .inl (cB, 400, .inl fX))]) [0, 1] (by decide) rfl
      have hl := lv_sub hl [2, 3, 4, 1, 0] rfl
      exact kk20 _ _ _ _ _ ⟨0, 0, rfl, rfl, (by (try dsimp only); first | omega | assumption | trivial), (by (try dsimp only); first | omega | assumption | trivial), hP, hD, hS, hl⟩
  · skip
    have g8_6 : v1.toInt = 47 := (i_eq rfl (by decide)).mp h_9
    refine lv_iconst (v := 2) hx hb d_DiscMakerModel_componentsOf_11 (by decide) ?_
    refine lv_goto (tgt := 16) hx hb d_DiscMakerModel_componentsOf_12 (by decide) ?_
    refine lv_istore_n hx hb d_DiscMakerModel_componentsOf_16 rfl hl (by decide) rfl (fun ls hl => ?_)
    have hl : lv_has ls 7 [(3, .int 2), (0, .ref h0), (1, .int x), (2, .int y)] := hl
    refine lv_iconst (v := 0) hx hb d_DiscMakerModel_componentsOf_17 (by decide) ?_
    refine lv_istore hx hb d_DiscMakerModel_componentsOf_18 hl (by decide) rfl (fun ls hl => ?_)
    have hl : lv_has ls 7 [(4, .int 0), (3, .int 2), (0, .ref h0), (1, .int x), (2, .int y)] := hl
    refine zz_lab (P := fun (lk : Nat) (H : Heap) (locs : List Loc) (ls : Array Slot) (stk : List Value) => ∃ (al : Int32) (lp : Int32) , lk = (x.toInt + 1 - lp.toInt).toNat ∧ stk = [] ∧ (0 ≤ lp.toInt ∧ lp.toInt ≤ x.toInt + 1) ∧ (0 ≤ al.toInt ∧ al.toInt ≤ 2 + 3 * lp.toInt) ∧ va_P D CL [(h0, .inr (11, MO ma sv_thrown sv_length sv_nodes sv_many sv_directories sv_runsFrom sv_runs sv_read sv_wrong sv_isNamed sv_goes sv_goesSize sv_goesAt sv_targetParts sv_isRoot)), ((ma 0), .inl (cB, 400, .inl fX))] H ∧ va_D A [(h0, .inr (11, MO ma sv_thrown sv_length sv_nodes sv_many sv_directories sv_runsFrom sv_runs sv_read sv_wrong sv_isNamed sv_goes sv_goesSize sv_goesAt sv_targetParts sv_isRoot)), ((ma 0), .inl (cB, 400, .inl fX))] ∧ va_S A s.heap H locs ∧ lv_has ls 7 [(0, .ref h0), (1, .int x), (2, .int y), (3, .int al), (4, .int lp)]) 20 ?_ ?_
    · skip
      intro lk ih20 H locs ls stk hI
      obtain ⟨al, lp, hm20, rfl, f1, f2, hP, hD, hS, hl⟩ := hI
      refine lv_iload hx hb d_DiscMakerModel_componentsOf_20 (lv_at hl 4 rfl) ?_
      refine lv_iload_n hx hb d_DiscMakerModel_componentsOf_22 rfl (lv_at hl 1 rfl) ?_
      refine lv_icmp_ge (tgt := 160) hx hb d_DiscMakerModel_componentsOf_23 (by decide) (fun h_9 => ?_) (fun h_9 => ?_)
      · skip
        have g23_271 : x.toInt ≤ lp.toInt := (i_le rfl rfl).mp h_9
        refine lv_iload_n hx hb d_DiscMakerModel_componentsOf_160 rfl (lv_at hl 3 rfl) ?_
        have hP9 := hP.sub (ws' := [(h0, .inr (11, MO ma sv_thrown sv_length sv_nodes sv_many sv_directories sv_runsFrom sv_runs sv_read sv_wrong sv_isNamed sv_goes sv_goesSize sv_goesAt sv_targetParts sv_isRoot)), ((ma 0), .inl (cB, 400, .inl fX))]) [0, 1] rfl
        have hD9 := hD.sub (ws' := [(h0, .inr (11, MO ma sv_thrown sv_length sv_nodes sv_many sv_directories sv_runsFrom sv_runs sv_read sv_wrong sv_isNamed sv_goes sv_goesSize sv_goesAt sv_targetParts sv_isRoot)), ((ma 0), .inl (cB, 400, .inl fX))]) [0, 1] (by decide) rfl
        exact W.iret (v := al) hx hb hr (fun t ht hW => ⟨⟨al, (), rfl, trivial, by rw [ht]; exact hP9, hD9⟩, hS.F ht⟩) hS.2.2 d_DiscMakerModel_componentsOf_161
      · skip
        have g23_271 : ¬ x.toInt ≤ lp.toInt := fun h8 => h_9 ((i_le rfl rfl).mpr h8)
        refine lv_iload hx hb d_DiscMakerModel_componentsOf_26 (lv_at hl 4 rfl) ?_
        refine lv_istore hx hb d_DiscMakerModel_componentsOf_28 hl (by decide) rfl (fun ls hl => ?_)
        have hl : lv_has ls 7 [(5, .int lp), (0, .ref h0), (1, .int x), (2, .int y), (3, .int al), (4, .int lp)] := hl
        refine zz_lab (P := fun (lk : Nat) (H : Heap) (locs : List Loc) (ls : Array Slot) (stk : List Value) => ∃ (lq : Int32) , lk = (x.toInt - lq.toInt).toNat ∧ stk = [] ∧ (lp.toInt ≤ lq.toInt ∧ lq.toInt ≤ x.toInt) ∧ va_P D CL [(h0, .inr (11, MO ma sv_thrown sv_length sv_nodes sv_many sv_directories sv_runsFrom sv_runs sv_read sv_wrong sv_isNamed sv_goes sv_goesSize sv_goesAt sv_targetParts sv_isRoot)), ((ma 0), .inl (cB, 400, .inl fX))] H ∧ va_D A [(h0, .inr (11, MO ma sv_thrown sv_length sv_nodes sv_many sv_directories sv_runsFrom sv_runs sv_read sv_wrong sv_isNamed sv_goes sv_goesSize sv_goesAt sv_targetParts sv_isRoot)), ((ma 0), .inl (cB, 400, .inl fX))] ∧ va_S A s.heap H locs ∧ lv_has ls 7 [(0, .ref h0), (1, .int x), (2, .int y), (3, .int al), (4, .int lp), (5, .int lq)]) 30 ?_ ?_
        · skip
          intro lk ih30 H locs ls stk hI
          obtain ⟨lq, hm30, rfl, f3, hP, hD, hS, hl⟩ := hI
          refine lv_iload hx hb d_DiscMakerModel_componentsOf_30 (lv_at hl 5 rfl) ?_
          refine lv_iload_n hx hb d_DiscMakerModel_componentsOf_32 rfl (lv_at hl 1 rfl) ?_
          refine lv_icmp_ge (tgt := 56) hx hb d_DiscMakerModel_componentsOf_33 (by decide) (fun h_9 => ?_) (fun h_9 => ?_)
          · skip
            have g33_278 : x.toInt ≤ lq.toInt := (i_le rfl rfl).mp h_9
            refine zz_lab (P := fun (lk : Nat) (H : Heap) (locs : List Loc) (ls : Array Slot) (stk : List Value) => ∃ (dt : Int32) , lk = 0 ∧ stk = [.int dt] ∧ va_P D CL [(h0, .inr (11, MO ma sv_thrown sv_length sv_nodes sv_many sv_directories sv_runsFrom sv_runs sv_read sv_wrong sv_isNamed sv_goes sv_goesSize sv_goesAt sv_targetParts sv_isRoot)), ((ma 0), .inl (cB, 400, .inl fX))] H ∧ va_D A [(h0, .inr (11, MO ma sv_thrown sv_length sv_nodes sv_many sv_directories sv_runsFrom sv_runs sv_read sv_wrong sv_isNamed sv_goes sv_goesSize sv_goesAt sv_targetParts sv_isRoot)), ((ma 0), .inl (cB, 400, .inl fX))] ∧ va_S A s.heap H locs ∧ lv_has ls 7 [(0, .ref h0), (1, .int x), (2, .int y), (3, .int al), (4, .int lp), (5, .int lq)]) 123 ?_ ?_
            · skip
              intro lk ih123 H locs ls stk hI
              obtain ⟨dt, hm123, rfl, hP, hD, hS, hl⟩ := hI
              refine lv_istore hx hb d_DiscMakerModel_componentsOf_123 hl (by decide) rfl (fun ls hl => ?_)
              have hl : lv_has ls 7 [(6, .int dt), (0, .ref h0), (1, .int x), (2, .int y), (3, .int al), (4, .int lp), (5, .int lq)] := hl
              refine lv_iload hx hb d_DiscMakerModel_componentsOf_125 (lv_at hl 6 rfl) ?_
              refine lv_iload hx hb d_DiscMakerModel_componentsOf_127 (lv_at hl 5 rfl) ?_
              refine lv_icmp_le (tgt := 151) hx hb d_DiscMakerModel_componentsOf_129 (by decide) (fun h_9 => ?_) (fun h_9 => ?_)
              · skip
                have g129_282 : lq.toInt ≤ lp.toInt := (i_le rfl rfl).mp h_9
                refine lv_iload hx hb d_DiscMakerModel_componentsOf_151 (lv_at hl 6 rfl) ?_
                refine lv_iconst (v := 1) hx hb d_DiscMakerModel_componentsOf_153 (by decide) ?_
                refine lv_iadd hx hb d_DiscMakerModel_componentsOf_154 ?_
                refine lv_topi (fun v49 e_v49 => ?_)
                have t_v49 : v49.toInt = lq.toInt + 1 := by rw [e_v49]; exact i_add rfl (by decide) (by omega) (by omega)
                refine lv_istore hx hb d_DiscMakerModel_componentsOf_155 hl (by decide) rfl (fun ls hl => ?_)
                have hl : lv_has ls 7 [(4, .int v49), (6, .int dt), (0, .ref h0), (1, .int x), (2, .int y), (3, .int al), (5, .int lq)] := hl
                refine lv_goto (tgt := 20) hx hb d_DiscMakerModel_componentsOf_157 (by decide) ?_
                have hP := hP.sub (ws' := [(h0, .inr (11, MO ma sv_thrown sv_length sv_nodes sv_many sv_directories sv_runsFrom sv_runs sv_read sv_wrong sv_isNamed sv_goes sv_goesSize sv_goesAt sv_targetParts sv_isRoot)), ((ma 0), .inl (cB, 400, .inl fX))]) [0, 1] rfl
                have hD := hD.sub (ws' := [(h0, .inr (11, MO ma sv_thrown sv_length sv_nodes sv_many sv_directories sv_runsFrom sv_runs sv_read sv_wrong sv_isNamed sv_goes sv_goesSize sv_goesAt sv_targetParts sv_isRoot)), ((ma 0), .inl (cB, 400, .inl fX))]) [0, 1] (by decide) rfl
                have hl := lv_sub hl [2, 3, 4, 5, 0] rfl
                exact ih20 (_) (by first | omega | (dsimp only; omega)) _ _ _ _ ⟨al, v49, rfl, rfl, (by (try dsimp only); first | omega | assumption | trivial), (by (try dsimp only); first | omega | assumption | trivial), hP, hD, hS, hl⟩
              · skip
                have g129_282 : ¬ lq.toInt ≤ lp.toInt := fun h8 => h_9 ((i_le rfl rfl).mpr h8)
                refine lv_iload_n hx hb d_DiscMakerModel_componentsOf_132 rfl (lv_at hl 4 rfl) ?_
                refine lv_iload hx hb d_DiscMakerModel_componentsOf_133 (lv_at hl 0 rfl) ?_
                refine lv_if_eq (tgt := 142) hx hb d_DiscMakerModel_componentsOf_135 (by decide) (fun h_9 => ?_) (fun h_9 => ?_)
                · skip
                  have g135_291 : dt.toInt = 0 := (i_eq rfl (by decide)).mp h_9
                  refine lv_iconst (v := 2) hx hb d_DiscMakerModel_componentsOf_142 (by decide) ?_
                  refine lv_iload hx hb d_DiscMakerModel_componentsOf_143 (lv_at hl 6 rfl) ?_
                  refine lv_iadd hx hb d_DiscMakerModel_componentsOf_145 ?_
                  refine lv_topi (fun v50 e_v50 => ?_)
                  have t_v50 : v50.toInt = 2 + lq.toInt := by rw [e_v50]; exact i_add (by decide) rfl (by omega) (by omega)
                  refine lv_iload hx hb d_DiscMakerModel_componentsOf_146 (lv_at hl 5 rfl) ?_
                  refine lv_isub hx hb d_DiscMakerModel_componentsOf_148 ?_
                  refine lv_topi (fun v51 e_v51 => ?_)
                  have t_v51 : v51.toInt = v50.toInt - lp.toInt := by rw [e_v51]; exact i_sub rfl rfl (by omega) (by omega)
                  refine lv_iadd hx hb d_DiscMakerModel_componentsOf_149 ?_
                  refine lv_topi (fun v52 e_v52 => ?_)
                  have t_v52 : v52.toInt = al.toInt + v51.toInt := by rw [e_v52]; exact i_add rfl rfl (by omega) (by omega)
                  refine lv_istore_n hx hb d_DiscMakerModel_componentsOf_150 rfl hl (by decide) rfl (fun ls hl => ?_)
                  have hl : lv_has ls 7 [(3, .int v52), (6, .int dt), (0, .ref h0), (1, .int x), (2, .int y), (4, .int lp), (5, .int lq)] := hl
                  refine lv_iload hx hb d_DiscMakerModel_componentsOf_151 (lv_at hl 6 rfl) ?_
                  refine lv_iconst (v := 1) hx hb d_DiscMakerModel_componentsOf_153 (by decide) ?_
                  refine lv_iadd hx hb d_DiscMakerModel_componentsOf_154 ?_
                  refine lv_topi (fun v53 e_v53 => ?_)
                  have t_v53 : v53.toInt = lq.toInt + 1 := by rw [e_v53]; exact i_add rfl (by decide) (by omega) (by omega)
                  refine lv_istore hx hb d_DiscMakerModel_componentsOf_155 hl (by decide) rfl (fun ls hl => ?_)
                  have hl : lv_has ls 7 [(4, .int v53), (3, .int v52), (6, .int dt), (0, .ref h0), (1, .int x), (2, .int y), (5, .int lq)] := hl
                  refine lv_goto (tgt := 20) hx hb d_DiscMakerModel_componentsOf_157 (by decide) ?_
                  have hP := hP.sub (ws' := [(h0, .inr (11, MO ma sv_thrown sv_length sv_nodes sv_many sv_directories sv_runsFrom sv_runs sv_read sv_wrong sv_isNamed sv_goes sv_goesSize sv_goesAt sv_targetParts sv_isRoot)), ((ma 0), .inl (cB, 400, .inl fX))]) [0, 1] rfl
                  have hD := hD.sub (ws' := [(h0, .inr (11, MO ma sv_thrown sv_length sv_nodes sv_many sv_directories sv_runsFrom sv_runs sv_read sv_wrong sv_isNamed sv_goes sv_goesSize sv_goesAt sv_targetParts sv_isRoot)), ((ma 0), .inl (cB, 400, .inl fX))]) [0, 1] (by decide) rfl
                  have hl := lv_sub hl [3, 4, 5, 1, 0] rfl
                  exact ih20 (_) (by first | omega | (dsimp only; omega)) _ _ _ _ ⟨v52, v53, rfl, rfl, (by (try dsimp only); first | omega | assumption | trivial), (by (try dsimp only); first | omega | assumption | trivial), hP, hD, hS, hl⟩
                · skip
                  have g135_291 : ¬ dt.toInt = 0 := fun h8 => h_9 ((i_eq rfl (by decide)).mpr h8)
                  refine lv_iconst (v := 2) hx hb d_DiscMakerModel_componentsOf_138 (by decide) ?_
                  refine lv_goto (tgt := 149) hx hb d_DiscMakerModel_componentsOf_139 (by decide) ?_
                  refine lv_iadd hx hb d_DiscMakerModel_componentsOf_149 ?_
                  refine lv_topi (fun v54 e_v54 => ?_)
                  have t_v54 : v54.toInt = al.toInt + 2 := by rw [e_v54]; exact i_add rfl (by decide) (by omega) (by omega)
                  refine lv_istore_n hx hb d_DiscMakerModel_componentsOf_150 rfl hl (by decide) rfl (fun ls hl => ?_)
                  have hl : lv_has ls 7 [(3, .int v54), (6, .int dt), (0, .ref h0), (1, .int x), (2, .int y), (4, .int lp), (5, .int lq)] := hl
                  refine lv_iload hx hb d_DiscMakerModel_componentsOf_151 (lv_at hl 6 rfl) ?_
                  refine lv_iconst (v := 1) hx hb d_DiscMakerModel_componentsOf_153 (by decide) ?_
                  refine lv_iadd hx hb d_DiscMakerModel_componentsOf_154 ?_
                  refine lv_topi (fun v55 e_v55 => ?_)
                  have t_v55 : v55.toInt = lq.toInt + 1 := by rw [e_v55]; exact i_add rfl (by decide) (by omega) (by omega)
                  refine lv_istore hx hb d_DiscMakerModel_componentsOf_155 hl (by decide) rfl (fun ls hl => ?_)
                  have hl : lv_has ls 7 [(4, .int v55), (3, .int v54), (6, .int dt), (0, .ref h0), (1, .int x), (2, .int y), (5, .int lq)] := hl
                  refine lv_goto (tgt := 20) hx hb d_DiscMakerModel_componentsOf_157 (by decide) ?_
                  have hP := hP.sub (ws' := [(h0, .inr (11, MO ma sv_thrown sv_length sv_nodes sv_many sv_directories sv_runsFrom sv_runs sv_read sv_wrong sv_isNamed sv_goes sv_goesSize sv_goesAt sv_targetParts sv_isRoot)), ((ma 0), .inl (cB, 400, .inl fX))]) [0, 1] rfl
                  have hD := hD.sub (ws' := [(h0, .inr (11, MO ma sv_thrown sv_length sv_nodes sv_many sv_directories sv_runsFrom sv_runs sv_read sv_wrong sv_isNamed sv_goes sv_goesSize sv_goesAt sv_targetParts sv_isRoot)), ((ma 0), .inl (cB, 400, .inl fX))]) [0, 1] (by decide) rfl
                  have hl := lv_sub hl [3, 4, 5, 1, 0] rfl
                  exact ih20 (_) (by first | omega | (dsimp only; omega)) _ _ _ _ ⟨v54, v55, rfl, rfl, (by (try dsimp only); first | omega | assumption | trivial), (by (try dsimp only); first | omega | assumption | trivial), hP, hD, hS, hl⟩
            · skip
              intro kk123
              refine lv_iload hx hb d_DiscMakerModel_componentsOf_56 (lv_at hl 5 rfl) ?_
              refine lv_iload hx hb d_DiscMakerModel_componentsOf_58 (lv_at hl 4 rfl) ?_
              refine lv_isub hx hb d_DiscMakerModel_componentsOf_60 ?_
              refine lv_topi (fun v56 e_v56 => ?_)
              have t_v56 : v56.toInt = lq.toInt - lp.toInt := by rw [e_v56]; exact i_sub rfl rfl (by omega) (by omega)
              refine lv_iconst (v := 1) hx hb d_DiscMakerModel_componentsOf_61 (by decide) ?_
              refine lv_icmp_ne (tgt := 79) hx hb d_DiscMakerModel_componentsOf_62 (by decide) (fun h_9 => ?_) (fun h_9 => ?_)
              · skip
                have g62_319 : ¬ v56.toInt = 1 := fun h8 => h_9 ((i_eq rfl (by decide)).mpr h8)
                refine lv_iload hx hb d_DiscMakerModel_componentsOf_79 (lv_at hl 5 rfl) ?_
                refine lv_iload hx hb d_DiscMakerModel_componentsOf_81 (lv_at hl 4 rfl) ?_
                refine lv_isub hx hb d_DiscMakerModel_componentsOf_83 ?_
                refine lv_topi (fun v57 e_v57 => ?_)
                have t_v57 : v57.toInt = lq.toInt - lp.toInt := by rw [e_v57]; exact i_sub rfl rfl (by omega) (by omega)
                refine lv_iconst (v := 2) hx hb d_DiscMakerModel_componentsOf_84 (by decide) ?_
                refine lv_icmp_ne (tgt := 122) hx hb d_DiscMakerModel_componentsOf_85 (by decide) (fun h_9 => ?_) (fun h_9 => ?_)
                · skip
                  have g85_324 : ¬ v57.toInt = 2 := fun h8 => h_9 ((i_eq rfl (by decide)).mpr h8)
                  refine lv_iconst (v := 0) hx hb d_DiscMakerModel_componentsOf_122 (by decide) ?_
                  have hP := hP.sub (ws' := [(h0, .inr (11, MO ma sv_thrown sv_length sv_nodes sv_many sv_directories sv_runsFrom sv_runs sv_read sv_wrong sv_isNamed sv_goes sv_goesSize sv_goesAt sv_targetParts sv_isRoot)), ((ma 0), .inl (cB, 400, .inl fX))]) [0, 1] rfl
                  have hD := hD.sub (ws' := [(h0, .inr (11, MO ma sv_thrown sv_length sv_nodes sv_many sv_directories sv_runsFrom sv_runs sv_read sv_wrong sv_isNamed sv_goes sv_goesSize sv_goesAt sv_targetParts sv_isRoot)), ((ma 0), .inl (cB, 400, .inl fX))]) [0, 1] (by decide) rfl
                  have hl := lv_sub hl [0, 1, 2, 3, 4, 5] rfl
                  exact kk123 _ _ _ _ _ ⟨0, rfl, rfl, hP, hD, hS, hl⟩
                · skip
                  have g85_324 : v57.toInt = 2 := (i_eq rfl (by decide)).mp h_9
                  refine lv_aload_n hx hb d_DiscMakerModel_componentsOf_88 rfl (lv_at hl 0 rfl) ?_
                  refine va_get (D := D) (ci := 11) (v := .ref (ma 0)) (C := "DiscMakerModel") (T := F_DiscMakerModel) (N := 48) hx hb ht9 in_DiscMakerModel hown hK hP 0 rfl rfl 1 (by decide) (ht9 _ k1432) (fun _ h9 => h9) rfl d_DiscMakerModel_componentsOf_89 ?_
                  refine lv_iload_n hx hb d_DiscMakerModel_componentsOf_92 rfl (lv_at hl 2 rfl) ?_
                  refine lv_iload hx hb d_DiscMakerModel_componentsOf_93 (lv_at hl 4 rfl) ?_
                  refine lv_iadd hx hb d_DiscMakerModel_componentsOf_95 ?_
                  refine lv_topi (fun v58 e_v58 => ?_)
                  have t_v58 : v58.toInt = y.toInt + lp.toInt := by rw [e_v58]; exact i_add rfl rfl (by omega) (by omega)
                  refine va_bald hx hb hK hP 1 0 rfl rfl (vp_in_iff.mpr ⟨by omega, by omega⟩) d_DiscMakerModel_componentsOf_96 ?_
                  refine lv_topi (fun v59 e_v59 => ?_)
                  refine lv_bipush (v := 46) hx hb d_DiscMakerModel_componentsOf_97 (by decide) ?_
                  refine lv_icmp_ne (tgt := 122) hx hb d_DiscMakerModel_componentsOf_99 (by decide) (fun h_9 => ?_) (fun h_9 => ?_)
                  · skip
                    have g99_334 : ¬ v59.toInt = 46 := fun h8 => h_9 ((i_eq rfl (by decide)).mpr h8)
                    refine lv_iconst (v := 0) hx hb d_DiscMakerModel_componentsOf_122 (by decide) ?_
                    have hP := hP.sub (ws' := [(h0, .inr (11, MO ma sv_thrown sv_length sv_nodes sv_many sv_directories sv_runsFrom sv_runs sv_read sv_wrong sv_isNamed sv_goes sv_goesSize sv_goesAt sv_targetParts sv_isRoot)), ((ma 0), .inl (cB, 400, .inl fX))]) [0, 1] rfl
                    have hD := hD.sub (ws' := [(h0, .inr (11, MO ma sv_thrown sv_length sv_nodes sv_many sv_directories sv_runsFrom sv_runs sv_read sv_wrong sv_isNamed sv_goes sv_goesSize sv_goesAt sv_targetParts sv_isRoot)), ((ma 0), .inl (cB, 400, .inl fX))]) [0, 1] (by decide) rfl
                    have hl := lv_sub hl [0, 1, 2, 3, 4, 5] rfl
                    exact kk123 _ _ _ _ _ ⟨0, rfl, rfl, hP, hD, hS, hl⟩
                  · skip
                    have g99_334 : v59.toInt = 46 := (i_eq rfl (by decide)).mp h_9
                    refine lv_aload_n hx hb d_DiscMakerModel_componentsOf_102 rfl (lv_at hl 0 rfl) ?_
                    refine va_get (D := D) (ci := 11) (v := .ref (ma 0)) (C := "DiscMakerModel") (T := F_DiscMakerModel) (N := 48) hx hb ht9 in_DiscMakerModel hown hK hP 0 rfl rfl 1 (by decide) (ht9 _ k1432) (fun _ h9 => h9) rfl d_DiscMakerModel_componentsOf_103 ?_
                    refine lv_iload_n hx hb d_DiscMakerModel_componentsOf_106 rfl (lv_at hl 2 rfl) ?_
                    refine lv_iload hx hb d_DiscMakerModel_componentsOf_107 (lv_at hl 4 rfl) ?_
                    refine lv_iadd hx hb d_DiscMakerModel_componentsOf_109 ?_
                    refine lv_topi (fun v60 e_v60 => ?_)
                    have t_v60 : v60.toInt = y.toInt + lp.toInt := by rw [e_v60]; exact i_add rfl rfl (by omega) (by omega)
                    refine lv_iconst (v := 1) hx hb d_DiscMakerModel_componentsOf_110 (by decide) ?_
                    refine lv_iadd hx hb d_DiscMakerModel_componentsOf_111 ?_
                    refine lv_topi (fun v61 e_v61 => ?_)
                    have t_v61 : v61.toInt = v60.toInt + 1 := by rw [e_v61]; exact i_add rfl (by decide) (by omega) (by omega)
                    refine va_bald hx hb hK hP 1 0 rfl rfl (vp_in_iff.mpr ⟨by omega, by omega⟩) d_DiscMakerModel_componentsOf_112 ?_
                    refine lv_topi (fun v62 e_v62 => ?_)
                    refine lv_bipush (v := 46) hx hb d_DiscMakerModel_componentsOf_113 (by decide) ?_
                    refine lv_icmp_ne (tgt := 122) hx hb d_DiscMakerModel_componentsOf_115 (by decide) (fun h_9 => ?_) (fun h_9 => ?_)
                    · skip
                      have g115_346 : ¬ v62.toInt = 46 := fun h8 => h_9 ((i_eq rfl (by decide)).mpr h8)
                      refine lv_iconst (v := 0) hx hb d_DiscMakerModel_componentsOf_122 (by decide) ?_
                      have hP := hP.sub (ws' := [(h0, .inr (11, MO ma sv_thrown sv_length sv_nodes sv_many sv_directories sv_runsFrom sv_runs sv_read sv_wrong sv_isNamed sv_goes sv_goesSize sv_goesAt sv_targetParts sv_isRoot)), ((ma 0), .inl (cB, 400, .inl fX))]) [0, 1] rfl
                      have hD := hD.sub (ws' := [(h0, .inr (11, MO ma sv_thrown sv_length sv_nodes sv_many sv_directories sv_runsFrom sv_runs sv_read sv_wrong sv_isNamed sv_goes sv_goesSize sv_goesAt sv_targetParts sv_isRoot)), ((ma 0), .inl (cB, 400, .inl fX))]) [0, 1] (by decide) rfl
                      have hl := lv_sub hl [0, 1, 2, 3, 4, 5] rfl
                      exact kk123 _ _ _ _ _ ⟨0, rfl, rfl, hP, hD, hS, hl⟩
                    · skip
                      have g115_346 : v62.toInt = 46 := (i_eq rfl (by decide)).mp h_9
                      refine lv_iconst (v := 1) hx hb d_DiscMakerModel_componentsOf_118 (by decide) ?_
                      refine lv_goto (tgt := 123) hx hb d_DiscMakerModel_componentsOf_119 (by decide) ?_
                      have hP := hP.sub (ws' := [(h0, .inr (11, MO ma sv_thrown sv_length sv_nodes sv_many sv_directories sv_runsFrom sv_runs sv_read sv_wrong sv_isNamed sv_goes sv_goesSize sv_goesAt sv_targetParts sv_isRoot)), ((ma 0), .inl (cB, 400, .inl fX))]) [0, 1] rfl
                      have hD := hD.sub (ws' := [(h0, .inr (11, MO ma sv_thrown sv_length sv_nodes sv_many sv_directories sv_runsFrom sv_runs sv_read sv_wrong sv_isNamed sv_goes sv_goesSize sv_goesAt sv_targetParts sv_isRoot)), ((ma 0), .inl (cB, 400, .inl fX))]) [0, 1] (by decide) rfl
                      have hl := lv_sub hl [0, 1, 2, 3, 4, 5] rfl
                      exact kk123 _ _ _ _ _ ⟨1, rfl, rfl, hP, hD, hS, hl⟩
              · skip
                have g62_319 : v56.toInt = 1 := (i_eq rfl (by decide)).mp h_9
                refine lv_aload_n hx hb d_DiscMakerModel_componentsOf_65 rfl (lv_at hl 0 rfl) ?_
                refine va_get (D := D) (ci := 11) (v := .ref (ma 0)) (C := "DiscMakerModel") (T := F_DiscMakerModel) (N := 48) hx hb ht9 in_DiscMakerModel hown hK hP 0 rfl rfl 1 (by decide) (ht9 _ k1432) (fun _ h9 => h9) rfl d_DiscMakerModel_componentsOf_66 ?_
                refine lv_iload_n hx hb d_DiscMakerModel_componentsOf_69 rfl (lv_at hl 2 rfl) ?_
                refine lv_iload hx hb d_DiscMakerModel_componentsOf_70 (lv_at hl 4 rfl) ?_
                refine lv_iadd hx hb d_DiscMakerModel_componentsOf_72 ?_
                refine lv_topi (fun v63 e_v63 => ?_)
                have t_v63 : v63.toInt = y.toInt + lp.toInt := by rw [e_v63]; exact i_add rfl rfl (by omega) (by omega)
                refine va_bald hx hb hK hP 1 0 rfl rfl (vp_in_iff.mpr ⟨by omega, by omega⟩) d_DiscMakerModel_componentsOf_73 ?_
                refine lv_topi (fun v64 e_v64 => ?_)
                refine lv_bipush (v := 46) hx hb d_DiscMakerModel_componentsOf_74 (by decide) ?_
                refine lv_icmp_eq (tgt := 118) hx hb d_DiscMakerModel_componentsOf_76 (by decide) (fun h_9 => ?_) (fun h_9 => ?_)
                · skip
                  have g76_359 : v64.toInt = 46 := (i_eq rfl (by decide)).mp h_9
                  refine lv_iconst (v := 1) hx hb d_DiscMakerModel_componentsOf_118 (by decide) ?_
                  refine lv_goto (tgt := 123) hx hb d_DiscMakerModel_componentsOf_119 (by decide) ?_
                  have hP := hP.sub (ws' := [(h0, .inr (11, MO ma sv_thrown sv_length sv_nodes sv_many sv_directories sv_runsFrom sv_runs sv_read sv_wrong sv_isNamed sv_goes sv_goesSize sv_goesAt sv_targetParts sv_isRoot)), ((ma 0), .inl (cB, 400, .inl fX))]) [0, 1] rfl
                  have hD := hD.sub (ws' := [(h0, .inr (11, MO ma sv_thrown sv_length sv_nodes sv_many sv_directories sv_runsFrom sv_runs sv_read sv_wrong sv_isNamed sv_goes sv_goesSize sv_goesAt sv_targetParts sv_isRoot)), ((ma 0), .inl (cB, 400, .inl fX))]) [0, 1] (by decide) rfl
                  have hl := lv_sub hl [0, 1, 2, 3, 4, 5] rfl
                  exact kk123 _ _ _ _ _ ⟨1, rfl, rfl, hP, hD, hS, hl⟩
                · skip
                  have g76_359 : ¬ v64.toInt = 46 := fun h8 => h_9 ((i_eq rfl (by decide)).mpr h8)
                  refine lv_iload hx hb d_DiscMakerModel_componentsOf_79 (lv_at hl 5 rfl) ?_
                  refine lv_iload hx hb d_DiscMakerModel_componentsOf_81 (lv_at hl 4 rfl) ?_
                  refine lv_isub hx hb d_DiscMakerModel_componentsOf_83 ?_
                  refine lv_topi (fun v65 e_v65 => ?_)
                  have t_v65 : v65.toInt = lq.toInt - lp.toInt := by rw [e_v65]; exact i_sub rfl rfl (by omega) (by omega)
                  refine lv_iconst (v := 2) hx hb d_DiscMakerModel_componentsOf_84 (by decide) ?_
                  refine lv_icmp_ne (tgt := 122) hx hb d_DiscMakerModel_componentsOf_85 (by decide) (fun h_9 => ?_) (fun h_9 => ?_)
                  · skip
                    have g85_367 : ¬ v65.toInt = 2 := fun h8 => h_9 ((i_eq rfl (by decide)).mpr h8)
                    refine lv_iconst (v := 0) hx hb d_DiscMakerModel_componentsOf_122 (by decide) ?_
                    have hP := hP.sub (ws' := [(h0, .inr (11, MO ma sv_thrown sv_length sv_nodes sv_many sv_directories sv_runsFrom sv_runs sv_read sv_wrong sv_isNamed sv_goes sv_goesSize sv_goesAt sv_targetParts sv_isRoot)), ((ma 0), .inl (cB, 400, .inl fX))]) [0, 1] rfl
                    have hD := hD.sub (ws' := [(h0, .inr (11, MO ma sv_thrown sv_length sv_nodes sv_many sv_directories sv_runsFrom sv_runs sv_read sv_wrong sv_isNamed sv_goes sv_goesSize sv_goesAt sv_targetParts sv_isRoot)), ((ma 0), .inl (cB, 400, .inl fX))]) [0, 1] (by decide) rfl
                    have hl := lv_sub hl [0, 1, 2, 3, 4, 5] rfl
                    exact kk123 _ _ _ _ _ ⟨0, rfl, rfl, hP, hD, hS, hl⟩
                  · skip
                    have g85_367 : v65.toInt = 2 := (i_eq rfl (by decide)).mp h_9
                    refine lv_aload_n hx hb d_DiscMakerModel_componentsOf_88 rfl (lv_at hl 0 rfl) ?_
                    refine va_get (D := D) (ci := 11) (v := .ref (ma 0)) (C := "DiscMakerModel") (T := F_DiscMakerModel) (N := 48) hx hb ht9 in_DiscMakerModel hown hK hP 0 rfl rfl 1 (by decide) (ht9 _ k1432) (fun _ h9 => h9) rfl d_DiscMakerModel_componentsOf_89 ?_
                    refine lv_iload_n hx hb d_DiscMakerModel_componentsOf_92 rfl (lv_at hl 2 rfl) ?_
                    refine lv_iload hx hb d_DiscMakerModel_componentsOf_93 (lv_at hl 4 rfl) ?_
                    refine lv_iadd hx hb d_DiscMakerModel_componentsOf_95 ?_
                    refine lv_topi (fun v66 e_v66 => ?_)
                    have t_v66 : v66.toInt = y.toInt + lp.toInt := by rw [e_v66]; exact i_add rfl rfl (by omega) (by omega)
                    refine va_bald hx hb hK hP 1 0 rfl rfl (vp_in_iff.mpr ⟨by omega, by omega⟩) d_DiscMakerModel_componentsOf_96 ?_
                    refine lv_topi (fun v67 e_v67 => ?_)
                    refine lv_bipush (v := 46) hx hb d_DiscMakerModel_componentsOf_97 (by decide) ?_
                    refine lv_icmp_ne (tgt := 122) hx hb d_DiscMakerModel_componentsOf_99 (by decide) (fun h_9 => ?_) (fun h_9 => ?_)
                    · skip
                      have g99_377 : ¬ v67.toInt = 46 := fun h8 => h_9 ((i_eq rfl (by decide)).mpr h8)
                      refine lv_iconst (v := 0) hx hb d_DiscMakerModel_componentsOf_122 (by decide) ?_
                      have hP := hP.sub (ws' := [(h0, .inr (11, MO ma sv_thrown sv_length sv_nodes sv_many sv_directories sv_runsFrom sv_runs sv_read sv_wrong sv_isNamed sv_goes sv_goesSize sv_goesAt sv_targetParts sv_isRoot)), ((ma 0), .inl (cB, 400, .inl fX))]) [0, 1] rfl
                      have hD := hD.sub (ws' := [(h0, .inr (11, MO ma sv_thrown sv_length sv_nodes sv_many sv_directories sv_runsFrom sv_runs sv_read sv_wrong sv_isNamed sv_goes sv_goesSize sv_goesAt sv_targetParts sv_isRoot)), ((ma 0), .inl (cB, 400, .inl fX))]) [0, 1] (by decide) rfl
                      have hl := lv_sub hl [0, 1, 2, 3, 4, 5] rfl
                      exact kk123 _ _ _ _ _ ⟨0, rfl, rfl, hP, hD, hS, hl⟩
                    · skip
                      have g99_377 : v67.toInt = 46 := (i_eq rfl (by decide)).mp h_9
                      refine lv_aload_n hx hb d_DiscMakerModel_componentsOf_102 rfl (lv_at hl 0 rfl) ?_
                      refine va_get (D := D) (ci := 11) (v := .ref (ma 0)) (C := "DiscMakerModel") (T := F_DiscMakerModel) (N := 48) hx hb ht9 in_DiscMakerModel hown hK hP 0 rfl rfl 1 (by decide) (ht9 _ k1432) (fun _ h9 => h9) rfl d_DiscMakerModel_componentsOf_103 ?_
                      refine lv_iload_n hx hb d_DiscMakerModel_componentsOf_106 rfl (lv_at hl 2 rfl) ?_
                      refine lv_iload hx hb d_DiscMakerModel_componentsOf_107 (lv_at hl 4 rfl) ?_
                      refine lv_iadd hx hb d_DiscMakerModel_componentsOf_109 ?_
                      refine lv_topi (fun v68 e_v68 => ?_)
                      have t_v68 : v68.toInt = y.toInt + lp.toInt := by rw [e_v68]; exact i_add rfl rfl (by omega) (by omega)
                      refine lv_iconst (v := 1) hx hb d_DiscMakerModel_componentsOf_110 (by decide) ?_
                      refine lv_iadd hx hb d_DiscMakerModel_componentsOf_111 ?_
                      refine lv_topi (fun v69 e_v69 => ?_)
                      have t_v69 : v69.toInt = v68.toInt + 1 := by rw [e_v69]; exact i_add rfl (by decide) (by omega) (by omega)
                      refine va_bald hx hb hK hP 1 0 rfl rfl (vp_in_iff.mpr ⟨by omega, by omega⟩) d_DiscMakerModel_componentsOf_112 ?_
                      refine lv_topi (fun v70 e_v70 => ?_)
                      refine lv_bipush (v := 46) hx hb d_DiscMakerModel_componentsOf_113 (by decide) ?_
                      refine lv_icmp_ne (tgt := 122) hx hb d_DiscMakerModel_componentsOf_115 (by decide) (fun h_9 => ?_) (fun h_9 => ?_)
                      · skip
                        have g115_389 : ¬ v70.toInt = 46 := fun h8 => h_9 ((i_eq rfl (by decide)).mpr h8)
                        refine lv_iconst (v := 0) hx hb d_DiscMakerModel_componentsOf_122 (by decide) ?_
                        have hP := hP.sub (ws' := [(h0, .inr (11, MO ma sv_thrown sv_length sv_nodes sv_many sv_directories sv_runsFrom sv_runs sv_read sv_wrong sv_isNamed sv_goes sv_goesSize sv_goesAt sv_targetParts sv_isRoot)), ((ma 0), .inl (cB, 400, .inl fX))]) [0, 1] rfl
                        have hD := hD.sub (ws' := [(h0, .inr (11, MO ma sv_thrown sv_length sv_nodes sv_many sv_directories sv_runsFrom sv_runs sv_read sv_wrong sv_isNamed sv_goes sv_goesSize sv_goesAt sv_targetParts sv_isRoot)), ((ma 0), .inl (cB, 400, .inl fX))]) [0, 1] (by decide) rfl
                        have hl := lv_sub hl [0, 1, 2, 3, 4, 5] rfl
                        exact kk123 _ _ _ _ _ ⟨0, rfl, rfl, hP, hD, hS, hl⟩
                      · skip
                        have g115_389 : v70.toInt = 46 := (i_eq rfl (by decide)).mp h_9
                        refine lv_iconst (v := 1) hx hb d_DiscMakerModel_componentsOf_118 (by decide) ?_
                        refine lv_goto (tgt := 123) hx hb d_DiscMakerModel_componentsOf_119 (by decide) ?_
                        have hP := hP.sub (ws' := [(h0, .inr (11, MO ma sv_thrown sv_length sv_nodes sv_many sv_directories sv_runsFrom sv_runs sv_read sv_wrong sv_isNamed sv_goes sv_goesSize sv_goesAt sv_targetParts sv_isRoot)), ((ma 0), .inl (cB, 400, .inl fX))]) [0, 1] rfl
                        have hD := hD.sub (ws' := [(h0, .inr (11, MO ma sv_thrown sv_length sv_nodes sv_many sv_directories sv_runsFrom sv_runs sv_read sv_wrong sv_isNamed sv_goes sv_goesSize sv_goesAt sv_targetParts sv_isRoot)), ((ma 0), .inl (cB, 400, .inl fX))]) [0, 1] (by decide) rfl
                        have hl := lv_sub hl [0, 1, 2, 3, 4, 5] rfl
                        exact kk123 _ _ _ _ _ ⟨1, rfl, rfl, hP, hD, hS, hl⟩
          · skip
            have g33_278 : ¬ x.toInt ≤ lq.toInt := fun h8 => h_9 ((i_le rfl rfl).mpr h8)
            refine lv_aload_n hx hb d_DiscMakerModel_componentsOf_36 rfl (lv_at hl 0 rfl) ?_
            refine va_get (D := D) (ci := 11) (v := .ref (ma 0)) (C := "DiscMakerModel") (T := F_DiscMakerModel) (N := 48) hx hb ht9 in_DiscMakerModel hown hK hP 0 rfl rfl 1 (by decide) (ht9 _ k1432) (fun _ h9 => h9) rfl d_DiscMakerModel_componentsOf_37 ?_
            refine lv_iload_n hx hb d_DiscMakerModel_componentsOf_40 rfl (lv_at hl 2 rfl) ?_
            refine lv_iload hx hb d_DiscMakerModel_componentsOf_41 (lv_at hl 5 rfl) ?_
            refine lv_iadd hx hb d_DiscMakerModel_componentsOf_43 ?_
            refine lv_topi (fun v71 e_v71 => ?_)
            have t_v71 : v71.toInt = y.toInt + lq.toInt := by rw [e_v71]; exact i_add rfl rfl (by omega) (by omega)
            refine va_bald hx hb hK hP 1 0 rfl rfl (vp_in_iff.mpr ⟨by omega, by omega⟩) d_DiscMakerModel_componentsOf_44 ?_
            refine lv_topi (fun v72 e_v72 => ?_)
            refine lv_bipush (v := 47) hx hb d_DiscMakerModel_componentsOf_45 (by decide) ?_
            refine lv_icmp_eq (tgt := 56) hx hb d_DiscMakerModel_componentsOf_47 (by decide) (fun h_9 => ?_) (fun h_9 => ?_)
            · skip
              have g47_402 : v72.toInt = 47 := (i_eq rfl (by decide)).mp h_9
              refine zz_lab (P := fun (lk : Nat) (H : Heap) (locs : List Loc) (ls : Array Slot) (stk : List Value) => ∃ (dt : Int32) , lk = 0 ∧ stk = [.int dt] ∧ va_P D CL [(h0, .inr (11, MO ma sv_thrown sv_length sv_nodes sv_many sv_directories sv_runsFrom sv_runs sv_read sv_wrong sv_isNamed sv_goes sv_goesSize sv_goesAt sv_targetParts sv_isRoot)), ((ma 0), .inl (cB, 400, .inl fX))] H ∧ va_D A [(h0, .inr (11, MO ma sv_thrown sv_length sv_nodes sv_many sv_directories sv_runsFrom sv_runs sv_read sv_wrong sv_isNamed sv_goes sv_goesSize sv_goesAt sv_targetParts sv_isRoot)), ((ma 0), .inl (cB, 400, .inl fX))] ∧ va_S A s.heap H locs ∧ lv_has ls 7 [(0, .ref h0), (1, .int x), (2, .int y), (3, .int al), (4, .int lp), (5, .int lq)]) 123 ?_ ?_
              · skip
                intro lk ih123 H locs ls stk hI
                obtain ⟨dt, hm123, rfl, hP, hD, hS, hl⟩ := hI
                refine lv_istore hx hb d_DiscMakerModel_componentsOf_123 hl (by decide) rfl (fun ls hl => ?_)
                have hl : lv_has ls 7 [(6, .int dt), (0, .ref h0), (1, .int x), (2, .int y), (3, .int al), (4, .int lp), (5, .int lq)] := hl
                refine lv_iload hx hb d_DiscMakerModel_componentsOf_125 (lv_at hl 6 rfl) ?_
                refine lv_iload hx hb d_DiscMakerModel_componentsOf_127 (lv_at hl 5 rfl) ?_
                refine lv_icmp_le (tgt := 151) hx hb d_DiscMakerModel_componentsOf_129 (by decide) (fun h_9 => ?_) (fun h_9 => ?_)
                · skip
                  have g129_406 : lq.toInt ≤ lp.toInt := (i_le rfl rfl).mp h_9
                  refine lv_iload hx hb d_DiscMakerModel_componentsOf_151 (lv_at hl 6 rfl) ?_
                  refine lv_iconst (v := 1) hx hb d_DiscMakerModel_componentsOf_153 (by decide) ?_
                  refine lv_iadd hx hb d_DiscMakerModel_componentsOf_154 ?_
                  refine lv_topi (fun v73 e_v73 => ?_)
                  have t_v73 : v73.toInt = lq.toInt + 1 := by rw [e_v73]; exact i_add rfl (by decide) (by omega) (by omega)
                  refine lv_istore hx hb d_DiscMakerModel_componentsOf_155 hl (by decide) rfl (fun ls hl => ?_)
                  have hl : lv_has ls 7 [(4, .int v73), (6, .int dt), (0, .ref h0), (1, .int x), (2, .int y), (3, .int al), (5, .int lq)] := hl
                  refine lv_goto (tgt := 20) hx hb d_DiscMakerModel_componentsOf_157 (by decide) ?_
                  have hP := hP.sub (ws' := [(h0, .inr (11, MO ma sv_thrown sv_length sv_nodes sv_many sv_directories sv_runsFrom sv_runs sv_read sv_wrong sv_isNamed sv_goes sv_goesSize sv_goesAt sv_targetParts sv_isRoot)), ((ma 0), .inl (cB, 400, .inl fX))]) [0, 1] rfl
                  have hD := hD.sub (ws' := [(h0, .inr (11, MO ma sv_thrown sv_length sv_nodes sv_many sv_directories sv_runsFrom sv_runs sv_read sv_wrong sv_isNamed sv_goes sv_goesSize sv_goesAt sv_targetParts sv_isRoot)), ((ma 0), .inl (cB, 400, .inl fX))]) [0, 1] (by decide) rfl
                  have hl := lv_sub hl [2, 3, 4, 5, 0] rfl
                  exact ih20 (_) (by first | omega | (dsimp only; omega)) _ _ _ _ ⟨al, v73, rfl, rfl, (by (try dsimp only); first | omega | assumption | trivial), (by (try dsimp only); first | omega | assumption | trivial), hP, hD, hS, hl⟩
                · skip
                  have g129_406 : ¬ lq.toInt ≤ lp.toInt := fun h8 => h_9 ((i_le rfl rfl).mpr h8)
                  refine lv_iload_n hx hb d_DiscMakerModel_componentsOf_132 rfl (lv_at hl 4 rfl) ?_
                  refine lv_iload hx hb d_DiscMakerModel_componentsOf_133 (lv_at hl 0 rfl) ?_
                  refine lv_if_eq (tgt := 142) hx hb d_DiscMakerModel_componentsOf_135 (by decide) (fun h_9 => ?_) (fun h_9 => ?_)
                  · skip
                    have g135_415 : dt.toInt = 0 := (i_eq rfl (by decide)).mp h_9
                    refine lv_iconst (v := 2) hx hb d_DiscMakerModel_componentsOf_142 (by decide) ?_
                    refine lv_iload hx hb d_DiscMakerModel_componentsOf_143 (lv_at hl 6 rfl) ?_
                    refine lv_iadd hx hb d_DiscMakerModel_componentsOf_145 ?_
                    refine lv_topi (fun v74 e_v74 => ?_)
                    have t_v74 : v74.toInt = 2 + lq.toInt := by rw [e_v74]; exact i_add (by decide) rfl (by omega) (by omega)
                    refine lv_iload hx hb d_DiscMakerModel_componentsOf_146 (lv_at hl 5 rfl) ?_
                    refine lv_isub hx hb d_DiscMakerModel_componentsOf_148 ?_
                    refine lv_topi (fun v75 e_v75 => ?_)
                    have t_v75 : v75.toInt = v74.toInt - lp.toInt := by rw [e_v75]; exact i_sub rfl rfl (by omega) (by omega)
                    refine lv_iadd hx hb d_DiscMakerModel_componentsOf_149 ?_
                    refine lv_topi (fun v76 e_v76 => ?_)
                    have t_v76 : v76.toInt = al.toInt + v75.toInt := by rw [e_v76]; exact i_add rfl rfl (by omega) (by omega)
                    refine lv_istore_n hx hb d_DiscMakerModel_componentsOf_150 rfl hl (by decide) rfl (fun ls hl => ?_)
                    have hl : lv_has ls 7 [(3, .int v76), (6, .int dt), (0, .ref h0), (1, .int x), (2, .int y), (4, .int lp), (5, .int lq)] := hl
                    refine lv_iload hx hb d_DiscMakerModel_componentsOf_151 (lv_at hl 6 rfl) ?_
                    refine lv_iconst (v := 1) hx hb d_DiscMakerModel_componentsOf_153 (by decide) ?_
                    refine lv_iadd hx hb d_DiscMakerModel_componentsOf_154 ?_
                    refine lv_topi (fun v77 e_v77 => ?_)
                    have t_v77 : v77.toInt = lq.toInt + 1 := by rw [e_v77]; exact i_add rfl (by decide) (by omega) (by omega)
                    refine lv_istore hx hb d_DiscMakerModel_componentsOf_155 hl (by decide) rfl (fun ls hl => ?_)
                    have hl : lv_has ls 7 [(4, .int v77), (3, .int v76), (6, .int dt), (0, .ref h0), (1, .int x), (2, .int y), (5, .int lq)] := hl
                    refine lv_goto (tgt := 20) hx hb d_DiscMakerModel_componentsOf_157 (by decide) ?_
                    have hP := hP.sub (ws' := [(h0, .inr (11, MO ma sv_thrown sv_length sv_nodes sv_many sv_directories sv_runsFrom sv_runs sv_read sv_wrong sv_isNamed sv_goes sv_goesSize sv_goesAt sv_targetParts sv_isRoot)), ((ma 0), .inl (cB, 400, .inl fX))]) [0, 1] rfl
                    have hD := hD.sub (ws' := [(h0, .inr (11, MO ma sv_thrown sv_length sv_nodes sv_many sv_directories sv_runsFrom sv_runs sv_read sv_wrong sv_isNamed sv_goes sv_goesSize sv_goesAt sv_targetParts sv_isRoot)), ((ma 0), .inl (cB, 400, .inl fX))]) [0, 1] (by decide) rfl
                    have hl := lv_sub hl [3, 4, 5, 1, 0] rfl
                    exact ih20 (_) (by first | omega | (dsimp only; omega)) _ _ _ _ ⟨v76, v77, rfl, rfl, (by (try dsimp only); first | omega | assumption | trivial), (by (try dsimp only); first | omega | assumption | trivial), hP, hD, hS, hl⟩
                  · skip
                    have g135_415 : ¬ dt.toInt = 0 := fun h8 => h_9 ((i_eq rfl (by decide)).mpr h8)
                    refine lv_iconst (v := 2) hx hb d_DiscMakerModel_componentsOf_138 (by decide) ?_
                    refine lv_goto (tgt := 149) hx hb d_DiscMakerModel_componentsOf_139 (by decide) ?_
                    refine lv_iadd hx hb d_DiscMakerModel_componentsOf_149 ?_
                    refine lv_topi (fun v78 e_v78 => ?_)
                    have t_v78 : v78.toInt = al.toInt + 2 := by rw [e_v78]; exact i_add rfl (by decide) (by omega) (by omega)
                    refine lv_istore_n hx hb d_DiscMakerModel_componentsOf_150 rfl hl (by decide) rfl (fun ls hl => ?_)
                    have hl : lv_has ls 7 [(3, .int v78), (6, .int dt), (0, .ref h0), (1, .int x), (2, .int y), (4, .int lp), (5, .int lq)] := hl
                    refine lv_iload hx hb d_DiscMakerModel_componentsOf_151 (lv_at hl 6 rfl) ?_
                    refine lv_iconst (v := 1) hx hb d_DiscMakerModel_componentsOf_153 (by decide) ?_
                    refine lv_iadd hx hb d_DiscMakerModel_componentsOf_154 ?_
                    refine lv_topi (fun v79 e_v79 => ?_)
                    have t_v79 : v79.toInt = lq.toInt + 1 := by rw [e_v79]; exact i_add rfl (by decide) (by omega) (by omega)
                    refine lv_istore hx hb d_DiscMakerModel_componentsOf_155 hl (by decide) rfl (fun ls hl => ?_)
                    have hl : lv_has ls 7 [(4, .int v79), (3, .int v78), (6, .int dt), (0, .ref h0), (1, .int x), (2, .int y), (5, .int lq)] := hl
                    refine lv_goto (tgt := 20) hx hb d_DiscMakerModel_componentsOf_157 (by decide) ?_
                    have hP := hP.sub (ws' := [(h0, .inr (11, MO ma sv_thrown sv_length sv_nodes sv_many sv_directories sv_runsFrom sv_runs sv_read sv_wrong sv_isNamed sv_goes sv_goesSize sv_goesAt sv_targetParts sv_isRoot)), ((ma 0), .inl (cB, 400, .inl fX))]) [0, 1] rfl
                    have hD := hD.sub (ws' := [(h0, .inr (11, MO ma sv_thrown sv_length sv_nodes sv_many sv_directories sv_runsFrom sv_runs sv_read sv_wrong sv_isNamed sv_goes sv_goesSize sv_goesAt sv_targetParts sv_isRoot)), ((ma 0), .inl (cB, 400, .inl fX))]) [0, 1] (by decide) rfl
                    have hl := lv_sub hl [3, 4, 5, 1, 0] rfl
                    exact ih20 (_) (by first | omega | (dsimp only; omega)) _ _ _ _ ⟨v78, v79, rfl, rfl, (by (try dsimp only); first | omega | assumption | trivial), (by (try dsimp only); first | omega | assumption | trivial), hP, hD, hS, hl⟩
              · skip
                intro kk123
                refine lv_iload hx hb d_DiscMakerModel_componentsOf_56 (lv_at hl 5 rfl) ?_
                refine lv_iload hx hb d_DiscMakerModel_componentsOf_58 (lv_at hl 4 rfl) ?_
                refine lv_isub hx hb d_DiscMakerModel_componentsOf_60 ?_
                refine lv_topi (fun v80 e_v80 => ?_)
                have t_v80 : v80.toInt = lq.toInt - lp.toInt := by rw [e_v80]; exact i_sub rfl rfl (by omega) (by omega)
                refine lv_iconst (v := 1) hx hb d_DiscMakerModel_componentsOf_61 (by decide) ?_
                refine lv_icmp_ne (tgt := 79) hx hb d_DiscMakerModel_componentsOf_62 (by decide) (fun h_9 => ?_) (fun h_9 => ?_)
                · skip
                  have g62_443 : ¬ v80.toInt = 1 := fun h8 => h_9 ((i_eq rfl (by decide)).mpr h8)
                  refine lv_iload hx hb d_DiscMakerModel_componentsOf_79 (lv_at hl 5 rfl) ?_
                  refine lv_iload hx hb d_DiscMakerModel_componentsOf_81 (lv_at hl 4 rfl) ?_
                  refine lv_isub hx hb d_DiscMakerModel_componentsOf_83 ?_
                  refine lv_topi (fun v81 e_v81 => ?_)
                  have t_v81 : v81.toInt = lq.toInt - lp.toInt := by rw [e_v81]; exact i_sub rfl rfl (by omega) (by omega)
                  refine lv_iconst (v := 2) hx hb d_DiscMakerModel_componentsOf_84 (by decide) ?_
                  refine lv_icmp_ne (tgt := 122) hx hb d_DiscMakerModel_componentsOf_85 (by decide) (fun h_9 => ?_) (fun h_9 => ?_)
                  · skip
                    have g85_448 : ¬ v81.toInt = 2 := fun h8 => h_9 ((i_eq rfl (by decide)).mpr h8)
                    refine lv_iconst (v := 0) hx hb d_DiscMakerModel_componentsOf_122 (by decide) ?_
                    have hP := hP.sub (ws' := [(h0, .inr (11, MO ma sv_thrown sv_length sv_nodes sv_many sv_directories sv_runsFrom sv_runs sv_read sv_wrong sv_isNamed sv_goes sv_goesSize sv_goesAt sv_targetParts sv_isRoot)), ((ma 0), .inl (cB, 400, .inl fX))]) [0, 1] rfl
                    have hD := hD.sub (ws' := [(h0, .inr (11, MO ma sv_thrown sv_length sv_nodes sv_many sv_directories sv_runsFrom sv_runs sv_read sv_wrong sv_isNamed sv_goes sv_goesSize sv_goesAt sv_targetParts sv_isRoot)), ((ma 0), .inl (cB, 400, .inl fX))]) [0, 1] (by decide) rfl
                    have hl := lv_sub hl [0, 1, 2, 3, 4, 5] rfl
                    exact kk123 _ _ _ _ _ ⟨0, rfl, rfl, hP, hD, hS, hl⟩
                  · skip
                    have g85_448 : v81.toInt = 2 := (i_eq rfl (by decide)).mp h_9
                    refine lv_aload_n hx hb d_DiscMakerModel_componentsOf_88 rfl (lv_at hl 0 rfl) ?_
                    refine va_get (D := D) (ci := 11) (v := .ref (ma 0)) (C := "DiscMakerModel") (T := F_DiscMakerModel) (N := 48) hx hb ht9 in_DiscMakerModel hown hK hP 0 rfl rfl 1 (by decide) (ht9 _ k1432) (fun _ h9 => h9) rfl d_DiscMakerModel_componentsOf_89 ?_
                    refine lv_iload_n hx hb d_DiscMakerModel_componentsOf_92 rfl (lv_at hl 2 rfl) ?_
                    refine lv_iload hx hb d_DiscMakerModel_componentsOf_93 (lv_at hl 4 rfl) ?_
                    refine lv_iadd hx hb d_DiscMakerModel_componentsOf_95 ?_
                    refine lv_topi (fun v82 e_v82 => ?_)
                    have t_v82 : v82.toInt = y.toInt + lp.toInt := by rw [e_v82]; exact i_add rfl rfl (by omega) (by omega)
                    refine va_bald hx hb hK hP 1 0 rfl rfl (vp_in_iff.mpr ⟨by omega, by omega⟩) d_DiscMakerModel_componentsOf_96 ?_
                    refine lv_topi (fun v83 e_v83 => ?_)
                    refine lv_bipush (v := 46) hx hb d_DiscMakerModel_componentsOf_97 (by decide) ?_
                    refine lv_icmp_ne (tgt := 122) hx hb d_DiscMakerModel_componentsOf_99 (by decide) (fun h_9 => ?_) (fun h_9 => ?_)
                    · skip
                      have g99_458 : ¬ v83.toInt = 46 := fun h8 => h_9 ((i_eq rfl (by decide)).mpr h8)
                      refine lv_iconst (v := 0) hx hb d_DiscMakerModel_componentsOf_122 (by decide) ?_
                      have hP := hP.sub (ws' := [(h0, .inr (11, MO ma sv_thrown sv_length sv_nodes sv_many sv_directories sv_runsFrom sv_runs sv_read sv_wrong sv_isNamed sv_goes sv_goesSize sv_goesAt sv_targetParts sv_isRoot)), ((ma 0), .inl (cB, 400, .inl fX))]) [0, 1] rfl
                      have hD := hD.sub (ws' := [(h0, .inr (11, MO ma sv_thrown sv_length sv_nodes sv_many sv_directories sv_runsFrom sv_runs sv_read sv_wrong sv_isNamed sv_goes sv_goesSize sv_goesAt sv_targetParts sv_isRoot)), ((ma 0), .inl (cB, 400, .inl fX))]) [0, 1] (by decide) rfl
                      have hl := lv_sub hl [0, 1, 2, 3, 4, 5] rfl
                      exact kk123 _ _ _ _ _ ⟨0, rfl, rfl, hP, hD, hS, hl⟩
                    · skip
                      have g99_458 : v83.toInt = 46 := (i_eq rfl (by decide)).mp h_9
                      refine lv_aload_n hx hb d_DiscMakerModel_componentsOf_102 rfl (lv_at hl 0 rfl) ?_
                      refine va_get (D := D) (ci := 11) (v := .ref (ma 0)) (C := "DiscMakerModel") (T := F_DiscMakerModel) (N := 48) hx hb ht9 in_DiscMakerModel hown hK hP 0 rfl rfl 1 (by decide) (ht9 _ k1432) (fun _ h9 => h9) rfl d_DiscMakerModel_componentsOf_103 ?_
                      refine lv_iload_n hx hb d_DiscMakerModel_componentsOf_106 rfl (lv_at hl 2 rfl) ?_
                      refine lv_iload hx hb d_DiscMakerModel_componentsOf_107 (lv_at hl 4 rfl) ?_
                      refine lv_iadd hx hb d_DiscMakerModel_componentsOf_109 ?_
                      refine lv_topi (fun v84 e_v84 => ?_)
                      have t_v84 : v84.toInt = y.toInt + lp.toInt := by rw [e_v84]; exact i_add rfl rfl (by omega) (by omega)
                      refine lv_iconst (v := 1) hx hb d_DiscMakerModel_componentsOf_110 (by decide) ?_
                      refine lv_iadd hx hb d_DiscMakerModel_componentsOf_111 ?_
                      refine lv_topi (fun v85 e_v85 => ?_)
                      have t_v85 : v85.toInt = v84.toInt + 1 := by rw [e_v85]; exact i_add rfl (by decide) (by omega) (by omega)
                      refine va_bald hx hb hK hP 1 0 rfl rfl (vp_in_iff.mpr ⟨by omega, by omega⟩) d_DiscMakerModel_componentsOf_112 ?_
                      refine lv_topi (fun v86 e_v86 => ?_)
                      refine lv_bipush (v := 46) hx hb d_DiscMakerModel_componentsOf_113 (by decide) ?_
                      refine lv_icmp_ne (tgt := 122) hx hb d_DiscMakerModel_componentsOf_115 (by decide) (fun h_9 => ?_) (fun h_9 => ?_)
                      · skip
                        have g115_470 : ¬ v86.toInt = 46 := fun h8 => h_9 ((i_eq rfl (by decide)).mpr h8)
                        refine lv_iconst (v := 0) hx hb d_DiscMakerModel_componentsOf_122 (by decide) ?_
                        have hP := hP.sub (ws' := [(h0, .inr (11, MO ma sv_thrown sv_length sv_nodes sv_many sv_directories sv_runsFrom sv_runs sv_read sv_wrong sv_isNamed sv_goes sv_goesSize sv_goesAt sv_targetParts sv_isRoot)), ((ma 0), .inl (cB, 400, .inl fX))]) [0, 1] rfl
                        have hD := hD.sub (ws' := [(h0, .inr (11, MO ma sv_thrown sv_length sv_nodes sv_many sv_directories sv_runsFrom sv_runs sv_read sv_wrong sv_isNamed sv_goes sv_goesSize sv_goesAt sv_targetParts sv_isRoot)), ((ma 0), .inl (cB, 400, .inl fX))]) [0, 1] (by decide) rfl
                        have hl := lv_sub hl [0, 1, 2, 3, 4, 5] rfl
                        exact kk123 _ _ _ _ _ ⟨0, rfl, rfl, hP, hD, hS, hl⟩
                      · skip
                        have g115_470 : v86.toInt = 46 := (i_eq rfl (by decide)).mp h_9
                        refine lv_iconst (v := 1) hx hb d_DiscMakerModel_componentsOf_118 (by decide) ?_
                        refine lv_goto (tgt := 123) hx hb d_DiscMakerModel_componentsOf_119 (by decide) ?_
                        have hP := hP.sub (ws' := [(h0, .inr (11, MO ma sv_thrown sv_length sv_nodes sv_many sv_directories sv_runsFrom sv_runs sv_read sv_wrong sv_isNamed sv_goes sv_goesSize sv_goesAt sv_targetParts sv_isRoot)), ((ma 0), .inl (cB, 400, .inl fX))]) [0, 1] rfl
                        have hD := hD.sub (ws' := [(h0, .inr (11, MO ma sv_thrown sv_length sv_nodes sv_many sv_directories sv_runsFrom sv_runs sv_read sv_wrong sv_isNamed sv_goes sv_goesSize sv_goesAt sv_targetParts sv_isRoot)), ((ma 0), .inl (cB, 400, .inl fX))]) [0, 1] (by decide) rfl
                        have hl := lv_sub hl [0, 1, 2, 3, 4, 5] rfl
                        exact kk123 _ _ _ _ _ ⟨1, rfl, rfl, hP, hD, hS, hl⟩
                · skip
                  have g62_443 : v80.toInt = 1 := (i_eq rfl (by decide)).mp h_9
                  refine lv_aload_n hx hb d_DiscMakerModel_componentsOf_65 rfl (lv_at hl 0 rfl) ?_
                  refine va_get (D := D) (ci := 11) (v := .ref (ma 0)) (C := "DiscMakerModel") (T := F_DiscMakerModel) (N := 48) hx hb ht9 in_DiscMakerModel hown hK hP 0 rfl rfl 1 (by decide) (ht9 _ k1432) (fun _ h9 => h9) rfl d_DiscMakerModel_componentsOf_66 ?_
                  refine lv_iload_n hx hb d_DiscMakerModel_componentsOf_69 rfl (lv_at hl 2 rfl) ?_
                  refine lv_iload hx hb d_DiscMakerModel_componentsOf_70 (lv_at hl 4 rfl) ?_
                  refine lv_iadd hx hb d_DiscMakerModel_componentsOf_72 ?_
                  refine lv_topi (fun v87 e_v87 => ?_)
                  have t_v87 : v87.toInt = y.toInt + lp.toInt := by rw [e_v87]; exact i_add rfl rfl (by omega) (by omega)
                  refine va_bald hx hb hK hP 1 0 rfl rfl (vp_in_iff.mpr ⟨by omega, by omega⟩) d_DiscMakerModel_componentsOf_73 ?_
                  refine lv_topi (fun v88 e_v88 => ?_)
                  refine lv_bipush (v := 46) hx hb d_DiscMakerModel_componentsOf_74 (by decide) ?_
                  refine lv_icmp_eq (tgt := 118) hx hb d_DiscMakerModel_componentsOf_76 (by decide) (fun h_9 => ?_) (fun h_9 => ?_)
                  · skip
                    have g76_483 : v88.toInt = 46 := (i_eq rfl (by decide)).mp h_9
                    refine lv_iconst (v := 1) hx hb d_DiscMakerModel_componentsOf_118 (by decide) ?_
                    refine lv_goto (tgt := 123) hx hb d_DiscMakerModel_componentsOf_119 (by decide) ?_
                    have hP := hP.sub (ws' := [(h0, .inr (11, MO ma sv_thrown sv_length sv_nodes sv_many sv_directories sv_runsFrom sv_runs sv_read sv_wrong sv_isNamed sv_goes sv_goesSize sv_goesAt sv_targetParts sv_isRoot)), ((ma 0), .inl (cB, 400, .inl fX))]) [0, 1] rfl
                    have hD := hD.sub (ws' := [(h0, .inr (11, MO ma sv_thrown sv_length sv_nodes sv_many sv_directories sv_runsFrom sv_runs sv_read sv_wrong sv_isNamed sv_goes sv_goesSize sv_goesAt sv_targetParts sv_isRoot)), ((ma 0), .inl (cB, 400, .inl fX))]) [0, 1] (by decide) rfl
                    have hl := lv_sub hl [0, 1, 2, 3, 4, 5] rfl
                    exact kk123 _ _ _ _ _ ⟨1, rfl, rfl, hP, hD, hS, hl⟩
                  · skip
                    have g76_483 : ¬ v88.toInt = 46 := fun h8 => h_9 ((i_eq rfl (by decide)).mpr h8)
                    refine lv_iload hx hb d_DiscMakerModel_componentsOf_79 (lv_at hl 5 rfl) ?_
                    refine lv_iload hx hb d_DiscMakerModel_componentsOf_81 (lv_at hl 4 rfl) ?_
                    refine lv_isub hx hb d_DiscMakerModel_componentsOf_83 ?_
                    refine lv_topi (fun v89 e_v89 => ?_)
                    have t_v89 : v89.toInt = lq.toInt - lp.toInt := by rw [e_v89]; exact i_sub rfl rfl (by omega) (by omega)
                    refine lv_iconst (v := 2) hx hb d_DiscMakerModel_componentsOf_84 (by decide) ?_
                    refine lv_icmp_ne (tgt := 122) hx hb d_DiscMakerModel_componentsOf_85 (by decide) (fun h_9 => ?_) (fun h_9 => ?_)
                    · skip
                      have g85_491 : ¬ v89.toInt = 2 := fun h8 => h_9 ((i_eq rfl (by decide)).mpr h8)
                      refine lv_iconst (v := 0) hx hb d_DiscMakerModel_componentsOf_122 (by decide) ?_
                      have hP := hP.sub (ws' := [(h0, .inr (11, MO ma sv_thrown sv_length sv_nodes sv_many sv_directories sv_runsFrom sv_runs sv_read sv_wrong sv_isNamed sv_goes sv_goesSize sv_goesAt sv_targetParts sv_isRoot)), ((ma 0), .inl (cB, 400, .inl fX))]) [0, 1] rfl
                      have hD := hD.sub (ws' := [(h0, .inr (11, MO ma sv_thrown sv_length sv_nodes sv_many sv_directories sv_runsFrom sv_runs sv_read sv_wrong sv_isNamed sv_goes sv_goesSize sv_goesAt sv_targetParts sv_isRoot)), ((ma 0), .inl (cB, 400, .inl fX))]) [0, 1] (by decide) rfl
                      have hl := lv_sub hl [0, 1, 2, 3, 4, 5] rfl
                      exact kk123 _ _ _ _ _ ⟨0, rfl, rfl, hP, hD, hS, hl⟩
                    · skip
                      have g85_491 : v89.toInt = 2 := (i_eq rfl (by decide)).mp h_9
                      refine lv_aload_n hx hb d_DiscMakerModel_componentsOf_88 rfl (lv_at hl 0 rfl) ?_
                      refine va_get (D := D) (ci := 11) (v := .ref (ma 0)) (C := "DiscMakerModel") (T := F_DiscMakerModel) (N := 48) hx hb ht9 in_DiscMakerModel hown hK hP 0 rfl rfl 1 (by decide) (ht9 _ k1432) (fun _ h9 => h9) rfl d_DiscMakerModel_componentsOf_89 ?_
                      refine lv_iload_n hx hb d_DiscMakerModel_componentsOf_92 rfl (lv_at hl 2 rfl) ?_
                      refine lv_iload hx hb d_DiscMakerModel_componentsOf_93 (lv_at hl 4 rfl) ?_
                      refine lv_iadd hx hb d_DiscMakerModel_componentsOf_95 ?_
                      refine lv_topi (fun v90 e_v90 => ?_)
                      have t_v90 : v90.toInt = y.toInt + lp.toInt := by rw [e_v90]; exact i_add rfl rfl (by omega) (by omega)
                      refine va_bald hx hb hK hP 1 0 rfl rfl (vp_in_iff.mpr ⟨by omega, by omega⟩) d_DiscMakerModel_componentsOf_96 ?_
                      refine lv_topi (fun v91 e_v91 => ?_)
                      refine lv_bipush (v := 46) hx hb d_DiscMakerModel_componentsOf_97 (by decide) ?_
                      refine lv_icmp_ne (tgt := 122) hx hb d_DiscMakerModel_componentsOf_99 (by decide) (fun h_9 => ?_) (fun h_9 => ?_)
                      · skip
                        have g99_501 : ¬ v91.toInt = 46 := fun h8 => h_9 ((i_eq rfl (by decide)).mpr h8)
                        refine lv_iconst (v := 0) hx hb d_DiscMakerModel_componentsOf_122 (by decide) ?_
                        have hP := hP.sub (ws' := [(h0, .inr (11, MO ma sv_thrown sv_length sv_nodes sv_many sv_directories sv_runsFrom sv_runs sv_read sv_wrong sv_isNamed sv_goes sv_goesSize sv_goesAt sv_targetParts sv_isRoot)), ((ma 0), .inl (cB, 400, .inl fX))]) [0, 1] rfl
                        have hD := hD.sub (ws' := [(h0, .inr (11, MO ma sv_thrown sv_length sv_nodes sv_many sv_directories sv_runsFrom sv_runs sv_read sv_wrong sv_isNamed sv_goes sv_goesSize sv_goesAt sv_targetParts sv_isRoot)), ((ma 0), .inl (cB, 400, .inl fX))]) [0, 1] (by decide) rfl
                        have hl := lv_sub hl [0, 1, 2, 3, 4, 5] rfl
                        exact kk123 _ _ _ _ _ ⟨0, rfl, rfl, hP, hD, hS, hl⟩
                      · skip
                        have g99_501 : v91.toInt = 46 := (i_eq rfl (by decide)).mp h_9
                        refine lv_aload_n hx hb d_DiscMakerModel_componentsOf_102 rfl (lv_at hl 0 rfl) ?_
                        refine va_get (D := D) (ci := 11) (v := .ref (ma 0)) (C := "DiscMakerModel") (T := F_DiscMakerModel) (N := 48) hx hb ht9 in_DiscMakerModel hown hK hP 0 rfl rfl 1 (by decide) (ht9 _ k1432) (fun _ h9 => h9) rfl d_DiscMakerModel_componentsOf_103 ?_
                        refine lv_iload_n hx hb d_DiscMakerModel_componentsOf_106 rfl (lv_at hl 2 rfl) ?_
                        refine lv_iload hx hb d_DiscMakerModel_componentsOf_107 (lv_at hl 4 rfl) ?_
                        refine lv_iadd hx hb d_DiscMakerModel_componentsOf_109 ?_
                        refine lv_topi (fun v92 e_v92 => ?_)
                        have t_v92 : v92.toInt = y.toInt + lp.toInt := by rw [e_v92]; exact i_add rfl rfl (by omega) (by omega)
                        refine lv_iconst (v := 1) hx hb d_DiscMakerModel_componentsOf_110 (by decide) ?_
                        refine lv_iadd hx hb d_DiscMakerModel_componentsOf_111 ?_
                        refine lv_topi (fun v93 e_v93 => ?_)
                        have t_v93 : v93.toInt = v92.toInt + 1 := by rw [e_v93]; exact i_add rfl (by decide) (by omega) (by omega)
                        refine va_bald hx hb hK hP 1 0 rfl rfl (vp_in_iff.mpr ⟨by omega, by omega⟩) d_DiscMakerModel_componentsOf_112 ?_
                        refine lv_topi (fun v94 e_v94 => ?_)
                        refine lv_bipush (v := 46) hx hb d_DiscMakerModel_componentsOf_113 (by decide) ?_
                        refine lv_icmp_ne (tgt := 122) hx hb d_DiscMakerModel_componentsOf_115 (by decide) (fun h_9 => ?_) (fun h_9 => ?_)
                        · skip
                          have g115_513 : ¬ v94.toInt = 46 := fun h8 => h_9 ((i_eq rfl (by decide)).mpr h8)
                          refine lv_iconst (v := 0) hx hb d_DiscMakerModel_componentsOf_122 (by decide) ?_
                          have hP := hP.sub (ws' := [(h0, .inr (11, MO ma sv_thrown sv_length sv_nodes sv_many sv_directories sv_runsFrom sv_runs sv_read sv_wrong sv_isNamed sv_goes sv_goesSize sv_goesAt sv_targetParts sv_isRoot)), ((ma 0), .inl (cB, 400, .inl fX))]) [0, 1] rfl
                          have hD := hD.sub (ws' := [(h0, .inr (11, MO ma sv_thrown sv_length sv_nodes sv_many sv_directories sv_runsFrom sv_runs sv_read sv_wrong sv_isNamed sv_goes sv_goesSize sv_goesAt sv_targetParts sv_isRoot)), ((ma 0), .inl (cB, 400, .inl fX))]) [0, 1] (by decide) rfl
                          have hl := lv_sub hl [0, 1, 2, 3, 4, 5] rfl
                          exact kk123 _ _ _ _ _ ⟨0, rfl, rfl, hP, hD, hS, hl⟩
                        · skip
                          have g115_513 : v94.toInt = 46 := (i_eq rfl (by decide)).mp h_9
                          refine lv_iconst (v := 1) hx hb d_DiscMakerModel_componentsOf_118 (by decide) ?_
                          refine lv_goto (tgt := 123) hx hb d_DiscMakerModel_componentsOf_119 (by decide) ?_
                          have hP := hP.sub (ws' := [(h0, .inr (11, MO ma sv_thrown sv_length sv_nodes sv_many sv_directories sv_runsFrom sv_runs sv_read sv_wrong sv_isNamed sv_goes sv_goesSize sv_goesAt sv_targetParts sv_isRoot)), ((ma 0), .inl (cB, 400, .inl fX))]) [0, 1] rfl
                          have hD := hD.sub (ws' := [(h0, .inr (11, MO ma sv_thrown sv_length sv_nodes sv_many sv_directories sv_runsFrom sv_runs sv_read sv_wrong sv_isNamed sv_goes sv_goesSize sv_goesAt sv_targetParts sv_isRoot)), ((ma 0), .inl (cB, 400, .inl fX))]) [0, 1] (by decide) rfl
                          have hl := lv_sub hl [0, 1, 2, 3, 4, 5] rfl
                          exact kk123 _ _ _ _ _ ⟨1, rfl, rfl, hP, hD, hS, hl⟩
            · skip
              have g47_402 : ¬ v72.toInt = 47 := fun h8 => h_9 ((i_eq rfl (by decide)).mpr h8)
              obtain ⟨v95, e_v95⟩ : ∃ z : Int32, z = lq + 1 := ⟨_, rfl⟩
              refine lv_iinc (v := v95) hx hb d_DiscMakerModel_componentsOf_50 hl (k := 5) rfl e_v95.symm (by decide) rfl (fun ls hl => ?_)
              have t_v95 : v95.toInt = lq.toInt + 1 := by rw [e_v95]; exact i_add rfl (by decide) (by omega) (by omega)
              have hl : lv_has ls 7 [(5, .int v95), (0, .ref h0), (1, .int x), (2, .int y), (3, .int al), (4, .int lp)] := hl
              refine lv_goto (tgt := 30) hx hb d_DiscMakerModel_componentsOf_53 (by decide) ?_
              have hP := hP.sub (ws' := [(h0, .inr (11, MO ma sv_thrown sv_length sv_nodes sv_many sv_directories sv_runsFrom sv_runs sv_read sv_wrong sv_isNamed sv_goes sv_goesSize sv_goesAt sv_targetParts sv_isRoot)), ((ma 0), .inl (cB, 400, .inl fX))]) [0, 1] rfl
              have hD := hD.sub (ws' := [(h0, .inr (11, MO ma sv_thrown sv_length sv_nodes sv_many sv_directories sv_runsFrom sv_runs sv_read sv_wrong sv_isNamed sv_goes sv_goesSize sv_goesAt sv_targetParts sv_isRoot)), ((ma 0), .inl (cB, 400, .inl fX))]) [0, 1] (by decide) rfl
              have hl := lv_sub hl [1, 2, 3, 4, 5, 0] rfl
              exact ih30 (_) (by first | omega | (dsimp only; omega)) _ _ _ _ ⟨v95, rfl, rfl, (by (try dsimp only); first | omega | assumption | trivial), hP, hD, hS, hl⟩
        · skip
          intro kk30
          have hP := hP.sub (ws' := [(h0, .inr (11, MO ma sv_thrown sv_length sv_nodes sv_many sv_directories sv_runsFrom sv_runs sv_read sv_wrong sv_isNamed sv_goes sv_goesSize sv_goesAt sv_targetParts sv_isRoot)), ((ma 0), .inl (cB, 400, .inl fX))]) [0, 1] rfl
          have hD := hD.sub (ws' := [(h0, .inr (11, MO ma sv_thrown sv_length sv_nodes sv_many sv_directories sv_runsFrom sv_runs sv_read sv_wrong sv_isNamed sv_goes sv_goesSize sv_goesAt sv_targetParts sv_isRoot)), ((ma 0), .inl (cB, 400, .inl fX))]) [0, 1] (by decide) rfl
          have hl := lv_sub hl [1, 2, 3, 4, 5, 0] rfl
          exact kk30 _ _ _ _ _ ⟨lp, rfl, rfl, (by (try dsimp only); first | omega | assumption | trivial), hP, hD, hS, hl⟩
    · skip
      intro kk20
      have hP := hP.sub (ws' := [(h0, .inr (11, MO ma sv_thrown sv_length sv_nodes sv_many sv_directories sv_runsFrom sv_runs sv_read sv_wrong sv_isNamed sv_goes sv_goesSize sv_goesAt sv_targetParts sv_isRoot)), ((ma 0), .inl (cB, 400, .inl fX))]) [0, 1] rfl
      have hD := hD.sub (ws' := [(h0, .inr (11, MO ma sv_thrown sv_length sv_nodes sv_many sv_directories sv_runsFrom sv_runs sv_read sv_wrong sv_isNamed sv_goes sv_goesSize sv_goesAt sv_targetParts sv_isRoot)), ((ma 0), .inl (cB, 400, .inl fX))]) [0, 1] (by decide) rfl
      have hl := lv_sub hl [2, 3, 4, 1, 0] rfl
      exact kk20 _ _ _ _ _ ⟨2, 0, rfl, rfl, (by (try dsimp only); first | omega | assumption | trivial), (by (try dsimp only); first | omega | assumption | trivial), hP, hD, hS, hl⟩

theorem d_DiscMakerModel_link_0 : decode b_DiscMakerModel_link 0 = .ok (.aload_n 0, 1) := by decide +kernel
theorem d_DiscMakerModel_link_1 : decode b_DiscMakerModel_link 1 = .ok (.iconst 0, 1) := by decide +kernel
theorem d_DiscMakerModel_link_2 : decode b_DiscMakerModel_link 2 = .ok (.putfield 118, 3) := by decide +kernel
theorem d_DiscMakerModel_link_5 : decode b_DiscMakerModel_link 5 = .ok (.iconst 0, 1) := by decide +kernel
theorem d_DiscMakerModel_link_6 : decode b_DiscMakerModel_link 6 = .ok (.istore_n 2, 1) := by decide +kernel
theorem d_DiscMakerModel_link_7 : decode b_DiscMakerModel_link 7 = .ok (.iload_n 2, 1) := by decide +kernel
theorem d_DiscMakerModel_link_8 : decode b_DiscMakerModel_link 8 = .ok (.aload_n 0, 1) := by decide +kernel
theorem d_DiscMakerModel_link_9 : decode b_DiscMakerModel_link 9 = .ok (.getfield 121, 3) := by decide +kernel
theorem d_DiscMakerModel_link_12 : decode b_DiscMakerModel_link 12 = .ok (.if_icmp .ge 18, 3) := by decide +kernel
theorem d_DiscMakerModel_link_15 : decode b_DiscMakerModel_link 15 = .ok (.aload_n 0, 1) := by decide +kernel
theorem d_DiscMakerModel_link_16 : decode b_DiscMakerModel_link 16 = .ok (.getfield 7, 3) := by decide +kernel
theorem d_DiscMakerModel_link_19 : decode b_DiscMakerModel_link 19 = .ok (.iload_n 2, 1) := by decide +kernel
theorem d_DiscMakerModel_link_20 : decode b_DiscMakerModel_link 20 = .ok (.baload, 1) := by decide +kernel
theorem d_DiscMakerModel_link_21 : decode b_DiscMakerModel_link 21 = .ok (.ifCond .eq 9, 3) := by decide +kernel
theorem d_DiscMakerModel_link_24 : decode b_DiscMakerModel_link 24 = .ok (.iinc 2 1, 3) := by decide +kernel
theorem d_DiscMakerModel_link_27 : decode b_DiscMakerModel_link 27 = .ok (.goto (-20), 3) := by decide +kernel
theorem d_DiscMakerModel_link_30 : decode b_DiscMakerModel_link 30 = .ok (.aload_n 0, 1) := by decide +kernel
theorem d_DiscMakerModel_link_31 : decode b_DiscMakerModel_link 31 = .ok (.getfield 121, 3) := by decide +kernel
theorem d_DiscMakerModel_link_34 : decode b_DiscMakerModel_link 34 = .ok (.iload_n 2, 1) := by decide +kernel
theorem d_DiscMakerModel_link_35 : decode b_DiscMakerModel_link 35 = .ok (.isub, 1) := by decide +kernel
theorem d_DiscMakerModel_link_36 : decode b_DiscMakerModel_link 36 = .ok (.iconst 1, 1) := by decide +kernel
theorem d_DiscMakerModel_link_37 : decode b_DiscMakerModel_link 37 = .ok (.isub, 1) := by decide +kernel
theorem d_DiscMakerModel_link_38 : decode b_DiscMakerModel_link 38 = .ok (.istore_n 3, 1) := by decide +kernel
theorem d_DiscMakerModel_link_39 : decode b_DiscMakerModel_link 39 = .ok (.iload_n 3, 1) := by decide +kernel
theorem d_DiscMakerModel_link_40 : decode b_DiscMakerModel_link 40 = .ok (.iconst 1, 1) := by decide +kernel
theorem d_DiscMakerModel_link_41 : decode b_DiscMakerModel_link 41 = .ok (.if_icmp .lt 14, 3) := by decide +kernel
theorem d_DiscMakerModel_link_44 : decode b_DiscMakerModel_link 44 = .ok (.iload_n 3, 1) := by decide +kernel
theorem d_DiscMakerModel_link_45 : decode b_DiscMakerModel_link 45 = .ok (.sipush 200, 3) := by decide +kernel
theorem d_DiscMakerModel_link_48 : decode b_DiscMakerModel_link 48 = .ok (.if_icmp .gt 7, 3) := by decide +kernel
theorem d_DiscMakerModel_link_51 : decode b_DiscMakerModel_link 51 = .ok (.iconst 1, 1) := by decide +kernel
theorem d_DiscMakerModel_link_52 : decode b_DiscMakerModel_link 52 = .ok (.goto 4, 3) := by decide +kernel
theorem d_DiscMakerModel_link_55 : decode b_DiscMakerModel_link 55 = .ok (.iconst 0, 1) := by decide +kernel
theorem d_DiscMakerModel_link_56 : decode b_DiscMakerModel_link 56 = .ok (.istore 4, 2) := by decide +kernel
theorem d_DiscMakerModel_link_58 : decode b_DiscMakerModel_link 58 = .ok (.iload_n 2, 1) := by decide +kernel
theorem d_DiscMakerModel_link_59 : decode b_DiscMakerModel_link 59 = .ok (.iconst 1, 1) := by decide +kernel
theorem d_DiscMakerModel_link_60 : decode b_DiscMakerModel_link 60 = .ok (.iadd, 1) := by decide +kernel
theorem d_DiscMakerModel_link_61 : decode b_DiscMakerModel_link 61 = .ok (.istore 5, 2) := by decide +kernel
theorem d_DiscMakerModel_link_63 : decode b_DiscMakerModel_link 63 = .ok (.iload 5, 2) := by decide +kernel
theorem d_DiscMakerModel_link_65 : decode b_DiscMakerModel_link 65 = .ok (.aload_n 0, 1) := by decide +kernel
theorem d_DiscMakerModel_link_66 : decode b_DiscMakerModel_link 66 = .ok (.getfield 121, 3) := by decide +kernel
theorem d_DiscMakerModel_link_69 : decode b_DiscMakerModel_link 69 = .ok (.if_icmp .ge 45, 3) := by decide +kernel
theorem d_DiscMakerModel_link_72 : decode b_DiscMakerModel_link 72 = .ok (.iload 4, 2) := by decide +kernel
theorem d_DiscMakerModel_link_74 : decode b_DiscMakerModel_link 74 = .ok (.ifCond .eq 40, 3) := by decide +kernel
theorem d_DiscMakerModel_link_77 : decode b_DiscMakerModel_link 77 = .ok (.aload_n 0, 1) := by decide +kernel
theorem d_DiscMakerModel_link_78 : decode b_DiscMakerModel_link 78 = .ok (.getfield 7, 3) := by decide +kernel
theorem d_DiscMakerModel_link_81 : decode b_DiscMakerModel_link 81 = .ok (.iload 5, 2) := by decide +kernel
theorem d_DiscMakerModel_link_83 : decode b_DiscMakerModel_link 83 = .ok (.baload, 1) := by decide +kernel
theorem d_DiscMakerModel_link_84 : decode b_DiscMakerModel_link 84 = .ok (.bipush 33, 2) := by decide +kernel
theorem d_DiscMakerModel_link_86 : decode b_DiscMakerModel_link 86 = .ok (.if_icmp .lt 19, 3) := by decide +kernel
theorem d_DiscMakerModel_link_89 : decode b_DiscMakerModel_link 89 = .ok (.aload_n 0, 1) := by decide +kernel
theorem d_DiscMakerModel_link_90 : decode b_DiscMakerModel_link 90 = .ok (.getfield 7, 3) := by decide +kernel
theorem d_DiscMakerModel_link_93 : decode b_DiscMakerModel_link 93 = .ok (.iload 5, 2) := by decide +kernel
theorem d_DiscMakerModel_link_95 : decode b_DiscMakerModel_link 95 = .ok (.baload, 1) := by decide +kernel
theorem d_DiscMakerModel_link_96 : decode b_DiscMakerModel_link 96 = .ok (.bipush 126, 2) := by decide +kernel
theorem d_DiscMakerModel_link_98 : decode b_DiscMakerModel_link 98 = .ok (.if_icmp .gt 7, 3) := by decide +kernel
theorem d_DiscMakerModel_link_101 : decode b_DiscMakerModel_link 101 = .ok (.iconst 1, 1) := by decide +kernel
theorem d_DiscMakerModel_link_102 : decode b_DiscMakerModel_link 102 = .ok (.goto 4, 3) := by decide +kernel
theorem d_DiscMakerModel_link_105 : decode b_DiscMakerModel_link 105 = .ok (.iconst 0, 1) := by decide +kernel
theorem d_DiscMakerModel_link_106 : decode b_DiscMakerModel_link 106 = .ok (.istore 4, 2) := by decide +kernel
theorem d_DiscMakerModel_link_108 : decode b_DiscMakerModel_link 108 = .ok (.iinc 5 1, 3) := by decide +kernel
theorem d_DiscMakerModel_link_111 : decode b_DiscMakerModel_link 111 = .ok (.goto (-48), 3) := by decide +kernel
theorem d_DiscMakerModel_link_114 : decode b_DiscMakerModel_link 114 = .ok (.aload_n 0, 1) := by decide +kernel
theorem d_DiscMakerModel_link_115 : decode b_DiscMakerModel_link 115 = .ok (.iload_n 1, 1) := by decide +kernel
theorem d_DiscMakerModel_link_116 : decode b_DiscMakerModel_link 116 = .ok (.iconst 2, 1) := by decide +kernel
theorem d_DiscMakerModel_link_117 : decode b_DiscMakerModel_link 117 = .ok (.iload_n 2, 1) := by decide +kernel
theorem d_DiscMakerModel_link_118 : decode b_DiscMakerModel_link 118 = .ok (.iload 4, 2) := by decide +kernel
theorem d_DiscMakerModel_link_120 : decode b_DiscMakerModel_link 120 = .ok (.ifCond .eq 21, 3) := by decide +kernel
theorem d_DiscMakerModel_link_123 : decode b_DiscMakerModel_link 123 = .ok (.aload_n 0, 1) := by decide +kernel
theorem d_DiscMakerModel_link_124 : decode b_DiscMakerModel_link 124 = .ok (.iload_n 3, 1) := by decide +kernel
theorem d_DiscMakerModel_link_125 : decode b_DiscMakerModel_link 125 = .ok (.iload_n 2, 1) := by decide +kernel
theorem d_DiscMakerModel_link_126 : decode b_DiscMakerModel_link 126 = .ok (.iconst 1, 1) := by decide +kernel
theorem d_DiscMakerModel_link_127 : decode b_DiscMakerModel_link 127 = .ok (.iadd, 1) := by decide +kernel
theorem d_DiscMakerModel_link_128 : decode b_DiscMakerModel_link 128 = .ok (.invokevirtual 160, 3) := by decide +kernel
theorem d_DiscMakerModel_link_131 : decode b_DiscMakerModel_link 131 = .ok (.sipush 245, 3) := by decide +kernel
theorem d_DiscMakerModel_link_134 : decode b_DiscMakerModel_link 134 = .ok (.if_icmp .gt 7, 3) := by decide +kernel
theorem d_DiscMakerModel_link_137 : decode b_DiscMakerModel_link 137 = .ok (.iconst 1, 1) := by decide +kernel
theorem d_DiscMakerModel_link_138 : decode b_DiscMakerModel_link 138 = .ok (.goto 4, 3) := by decide +kernel
theorem d_DiscMakerModel_link_141 : decode b_DiscMakerModel_link 141 = .ok (.iconst 0, 1) := by decide +kernel
theorem d_DiscMakerModel_link_142 : decode b_DiscMakerModel_link 142 = .ok (.invokevirtual 156, 3) := by decide +kernel
theorem d_DiscMakerModel_link_145 : decode b_DiscMakerModel_link 145 = .ok (.istore 5, 2) := by decide +kernel
theorem d_DiscMakerModel_link_147 : decode b_DiscMakerModel_link 147 = .ok (.iload 5, 2) := by decide +kernel
theorem d_DiscMakerModel_link_149 : decode b_DiscMakerModel_link 149 = .ok (.ifCond .lt 13, 3) := by decide +kernel
theorem d_DiscMakerModel_link_152 : decode b_DiscMakerModel_link 152 = .ok (.aload_n 0, 1) := by decide +kernel
theorem d_DiscMakerModel_link_153 : decode b_DiscMakerModel_link 153 = .ok (.getfield 20, 3) := by decide +kernel
theorem d_DiscMakerModel_link_156 : decode b_DiscMakerModel_link 156 = .ok (.iload 5, 2) := by decide +kernel
theorem d_DiscMakerModel_link_158 : decode b_DiscMakerModel_link 158 = .ok (.sipush 511, 3) := by decide +kernel
theorem d_DiscMakerModel_link_161 : decode b_DiscMakerModel_link 161 = .ok (.iastore, 1) := by decide +kernel
theorem d_DiscMakerModel_link_162 : decode b_DiscMakerModel_link 162 = .ok (.iload 5, 2) := by decide +kernel
theorem d_DiscMakerModel_link_164 : decode b_DiscMakerModel_link 164 = .ok (.ireturn, 1) := by decide +kernel
set_option maxHeartbeats 4000000 in
set_option maxRecDepth 100000 in
theorem m_link (l : Launch) (D : va_G) (cB cI cJ cZ cN cF : ClassId) (sz : Nat) (h0 : Nat) (ma : Nat → Nat) (sv_thrown sv_length sv_nodes sv_many sv_directories sv_runsFrom sv_runs sv_read sv_wrong sv_isNamed sv_goes sv_goesSize sv_goesAt sv_targetParts sv_isRoot : Int32) (fX : Nat → Int32) (fK : Nat → Int32) (fP : Nat → Int32) (fO : Nat → Int32) (fG : Nat → Int32) (fSz : Nat → Int32) (fSd : Nat → Int32) (fN : Nat → Int32) (fNS : Nat → Int32) (fT : Nat → Int32) (fTS : Nat → Int32) (fM : Nat → Int32) (x : Int32) (hln : 0 ≤ sv_length.toInt ∧ sv_length.toInt ≤ 400) (hT : TI sv_nodes.toInt fK fP fNS fSz fTS) : Met l y_DiscMakerModel_link w_DiscMakerModel_link ({ frames := 3, cells := 0, slots := 0, locals := 74 }) (va_Pc [.ref h0, .int x] (fun U => U.heap.size = sz ∧ va_P D CL [(h0, .inr (11, MO ma sv_thrown sv_length sv_nodes sv_many sv_directories sv_runsFrom sv_runs sv_read sv_wrong sv_isNamed sv_goes sv_goesSize sv_goesAt sv_targetParts sv_isRoot)), ((ma 0), .inl (cB, 400, .inl fX)), ((ma 1), .inl (cI, 40, .inl fK)), ((ma 2), .inl (cI, 40, .inl fP)), ((ma 4), .inl (cI, 40, .inl fO)), ((ma 5), .inl (cI, 40, .inl fG)), ((ma 6), .inl (cI, 40, .inl fSz)), ((ma 7), .inl (cI, 40, .inl fSd)), ((ma 8), .inl (cB, 1200, .inl fN)), ((ma 9), .inl (cI, 40, .inl fNS)), ((ma 10), .inl (cB, 8000, .inl fT)), ((ma 11), .inl (cI, 40, .inl fTS)), ((ma 3), .inl (cI, 40, .inl fM))] U.heap ∧ va_K D CL (TY cB cI cJ cZ cN cF) U ∧ NN U ∧ va_D (fun _ => True) [(h0, .inr (11, MO ma sv_thrown sv_length sv_nodes sv_many sv_directories sv_runsFrom sv_runs sv_read sv_wrong sv_isNamed sv_goes sv_goesSize sv_goesAt sv_targetParts sv_isRoot)), ((ma 0), .inl (cB, 400, .inl fX)), ((ma 1), .inl (cI, 40, .inl fK)), ((ma 2), .inl (cI, 40, .inl fP)), ((ma 4), .inl (cI, 40, .inl fO)), ((ma 5), .inl (cI, 40, .inl fG)), ((ma 6), .inl (cI, 40, .inl fSz)), ((ma 7), .inl (cI, 40, .inl fSd)), ((ma 8), .inl (cB, 1200, .inl fN)), ((ma 9), .inl (cI, 40, .inl fNS)), ((ma 10), .inl (cB, 8000, .inl fT)), ((ma 11), .inl (cI, 40, .inl fTS)), ((ma 3), .inl (cI, 40, .inl fM))])) (va_Qi (fun (r : Int32) (u : Int32 × Int32 × (Nat → Int32) × (Nat → Int32) × (Nat → Int32) × (Nat → Int32) × (Nat → Int32) × (Nat → Int32) × (Nat → Int32) × (Nat → Int32) × (Nat → Int32) × (Nat → Int32) × (Nat → Int32)) => match u with | (th, nd, gK, gP, gO, gG, gSz, gSd, gN, gNS, gT, gTS, gM) => (TI nd.toInt gK gP gNS gSz gTS)) (fun (u : Int32 × Int32 × (Nat → Int32) × (Nat → Int32) × (Nat → Int32) × (Nat → Int32) × (Nat → Int32) × (Nat → Int32) × (Nat → Int32) × (Nat → Int32) × (Nat → Int32) × (Nat → Int32) × (Nat → Int32)) (t : State) => match u with | (th, nd, gK, gP, gO, gG, gSz, gSd, gN, gNS, gT, gTS, gM) => va_P D CL [(h0, .inr (11, MO ma th 0 nd sv_many sv_directories sv_runsFrom sv_runs sv_read sv_wrong sv_isNamed sv_goes sv_goesSize sv_goesAt sv_targetParts sv_isRoot)), ((ma 0), .inl (cB, 400, .inl fX)), ((ma 1), .inl (cI, 40, .inl gK)), ((ma 2), .inl (cI, 40, .inl gP)), ((ma 4), .inl (cI, 40, .inl gO)), ((ma 5), .inl (cI, 40, .inl gG)), ((ma 6), .inl (cI, 40, .inl gSz)), ((ma 7), .inl (cI, 40, .inl gSd)), ((ma 8), .inl (cB, 1200, .inl gN)), ((ma 9), .inl (cI, 40, .inl gNS)), ((ma 10), .inl (cB, 8000, .inl gT)), ((ma 11), .inl (cI, 40, .inl gTS)), ((ma 3), .inl (cI, 40, .inl gM))] t.heap ∧ va_D (va_A [(h0, .inr (11, MO ma sv_thrown sv_length sv_nodes sv_many sv_directories sv_runsFrom sv_runs sv_read sv_wrong sv_isNamed sv_goes sv_goesSize sv_goesAt sv_targetParts sv_isRoot)), ((ma 0), .inl (cB, 400, .inl fX)), ((ma 1), .inl (cI, 40, .inl fK)), ((ma 2), .inl (cI, 40, .inl fP)), ((ma 4), .inl (cI, 40, .inl fO)), ((ma 5), .inl (cI, 40, .inl fG)), ((ma 6), .inl (cI, 40, .inl fSz)), ((ma 7), .inl (cI, 40, .inl fSd)), ((ma 8), .inl (cB, 1200, .inl fN)), ((ma 9), .inl (cI, 40, .inl fNS)), ((ma 10), .inl (cB, 8000, .inl fT)), ((ma 11), .inl (cI, 40, .inl fTS)), ((ma 3), .inl (cI, 40, .inl fM))] sz) [(h0, .inr (11, MO ma th 0 nd sv_many sv_directories sv_runsFrom sv_runs sv_read sv_wrong sv_isNamed sv_goes sv_goesSize sv_goesAt sv_targetParts sv_isRoot)), ((ma 0), .inl (cB, 400, .inl fX)), ((ma 1), .inl (cI, 40, .inl gK)), ((ma 2), .inl (cI, 40, .inl gP)), ((ma 4), .inl (cI, 40, .inl gO)), ((ma 5), .inl (cI, 40, .inl gG)), ((ma 6), .inl (cI, 40, .inl gSz)), ((ma 7), .inl (cI, 40, .inl gSd)), ((ma 8), .inl (cB, 1200, .inl gN)), ((ma 9), .inl (cI, 40, .inl gNS)), ((ma 10), .inl (cB, 8000, .inl gT)), ((ma 11), .inl (cI, 40, .inl gTS)), ((ma 3), .inl (cI, 40, .inl gM))]) (va_A [(h0, .inr (11, MO ma sv_thrown sv_length sv_nodes sv_many sv_directories sv_runsFrom sv_runs sv_read sv_wrong sv_isNamed sv_goes sv_goesSize sv_goesAt sv_targetParts sv_isRoot)), ((ma 0), .inl (cB, 400, .inl fX)), ((ma 1), .inl (cI, 40, .inl fK)), ((ma 2), .inl (cI, 40, .inl fP)), ((ma 4), .inl (cI, 40, .inl fO)), ((ma 5), .inl (cI, 40, .inl fG)), ((ma 6), .inl (cI, 40, .inl fSz)), ((ma 7), .inl (cI, 40, .inl fSd)), ((ma 8), .inl (cB, 1200, .inl fN)), ((ma 9), .inl (cI, 40, .inl fNS)), ((ma 10), .inl (cB, 8000, .inl fT)), ((ma 11), .inl (cI, 40, .inl fTS)), ((ma 3), .inl (cI, 40, .inl fM))] sz)) 0 0 (va_A [(h0, .inr (11, MO ma sv_thrown sv_length sv_nodes sv_many sv_directories sv_runsFrom sv_runs sv_read sv_wrong sv_isNamed sv_goes sv_goesSize sv_goesAt sv_targetParts sv_isRoot)), ((ma 0), .inl (cB, 400, .inl fX)), ((ma 1), .inl (cI, 40, .inl fK)), ((ma 2), .inl (cI, 40, .inl fP)), ((ma 4), .inl (cI, 40, .inl fO)), ((ma 5), .inl (cI, 40, .inl fG)), ((ma 6), .inl (cI, 40, .inl fSz)), ((ma 7), .inl (cI, 40, .inl fSd)), ((ma 8), .inl (cB, 1200, .inl fN)), ((ma 9), .inl (cI, 40, .inl fNS)), ((ma 10), .inl (cB, 8000, .inl fT)), ((ma 11), .inl (cI, 40, .inl fTS)), ((ma 3), .inl (cI, 40, .inl fM))] sz) := by
  refine Met.ofW (cc := b_DiscMakerModel_link) (maxL := 6) (ret := some .int) (by decide) rfl ?_
  intro p e s m args below meth c s₁ B hml hv
  obtain ⟨rfl, hsz, hP, hK, hN, hD0⟩ := hv
  have hx := B.exec
  have hb := B.bytes
  have hr := B.returns
  have hts := atoms_spec (ws := w_DiscMakerModel_link) B.pre
  have ht9 := fun (w : Cond) (h : w ∈ lw_g) => hts w (List.mem_cons_of_mem _ h)
  have hown : s.vm.findClass "DiscMakerModel" = some m.cls := findClass_of_methodNamed B.named
  have hlocks := B.notSynchronized
  subst hsz
  have hD := hD0.self (sz := s.heap.size)
  generalize hAe : va_A [(h0, .inr (11, MO ma sv_thrown sv_length sv_nodes sv_many sv_directories sv_runsFrom sv_runs sv_read sv_wrong sv_isNamed sv_goes sv_goesSize sv_goesAt sv_targetParts sv_isRoot)), ((ma 0), .inl (cB, 400, .inl fX)), ((ma 1), .inl (cI, 40, .inl fK)), ((ma 2), .inl (cI, 40, .inl fP)), ((ma 4), .inl (cI, 40, .inl fO)), ((ma 5), .inl (cI, 40, .inl fG)), ((ma 6), .inl (cI, 40, .inl fSz)), ((ma 7), .inl (cI, 40, .inl fSd)), ((ma 8), .inl (cB, 1200, .inl fN)), ((ma 9), .inl (cI, 40, .inl fNS)), ((ma 10), .inl (cB, 8000, .inl fT)), ((ma 11), .inl (cI, 40, .inl fTS)), ((ma 3), .inl (cI, 40, .inl fM))] s.heap.size = A at hD ⊢
  have hA : ∀ q : Nat, s.heap.size ≤ q → A q := fun q h => by rw [← hAe]; exact Or.inr h
  have hS : va_S A s.heap s.heap [] := va_S.rf
  have hP : va_P D CL [(h0, .inr (11, MO ma sv_thrown sv_length sv_nodes sv_many sv_directories sv_runsFrom sv_runs sv_read sv_wrong sv_isNamed sv_goes sv_goesSize sv_goesAt sv_targetParts sv_isRoot)), ((ma 0), .inl (cB, 400, .inl fX)), ((ma 1), .inl (cI, 40, .inl fK)), ((ma 2), .inl (cI, 40, .inl fP)), ((ma 4), .inl (cI, 40, .inl fO)), ((ma 5), .inl (cI, 40, .inl fG)), ((ma 6), .inl (cI, 40, .inl fSz)), ((ma 7), .inl (cI, 40, .inl fSd)), ((ma 8), .inl (cB, 1200, .inl fN)), ((ma 9), .inl (cI, 40, .inl fNS)), ((ma 10), .inl (cB, 8000, .inl fT)), ((ma 11), .inl (cI, 40, .inl fTS)), ((ma 3), .inl (cI, 40, .inl fM))] s.heap := hP
  have hl := lv_entry [.ref h0, .int x] (n := 6) (Nat.le_of_ble_eq_true rfl)
  rw [lg_entry_eq]
  generalize (lg_sl [.ref h0, .int x] ++ List.replicate (6 - (lg_sl [.ref h0, .int x]).length) Slot.unset).toArray = ls at hl ⊢
  have hl : lv_has ls 6 [(0, .ref h0), (1, .int x)] := hl
  have L_m1 : ((-1) : Int32).toInt = (-1) := by decide
  have L_0 : (0 : Int32).toInt = 0 := by decide
  have L_1 : (1 : Int32).toInt = 1 := by decide
  have L_2 : (2 : Int32).toInt = 2 := by decide
  have L_33 : (33 : Int32).toInt = 33 := by decide
  have L_126 : (126 : Int32).toInt = 126 := by decide
  have L_200 : (200 : Int32).toInt = 200 := by decide
  have L_245 : (245 : Int32).toInt = 245 := by decide
  have L_511 : (511 : Int32).toInt = 511 := by decide
  refine lv_aload_n hx hb d_DiscMakerModel_link_0 rfl (lv_at hl 0 rfl) ?_
  refine lv_iconst (v := 0) hx hb d_DiscMakerModel_link_1 (by decide) ?_
  refine va_put (D := D) (ci := 11) (v := .int 0) (ty := .int) (C := "DiscMakerModel") (T := F_DiscMakerModel) (N := 48) hx hb ht9 in_DiscMakerModel t_DiscMakerModel t_DiscMakerModel_ok n_DiscMakerModel hown hK hP hD hS 0 rfl rfl 0 (by decide) (ht9 _ k1431) (fun _ h9 => h9) rfl (by decide +kernel) rfl rfl (Nat.le_of_ble_eq_true rfl) d_DiscMakerModel_link_2 (fun H locs hP hD hS => ?_)
  have hP : va_P D CL [(h0, .inr (11, MO ma 0 sv_length sv_nodes sv_many sv_directories sv_runsFrom sv_runs sv_read sv_wrong sv_isNamed sv_goes sv_goesSize sv_goesAt sv_targetParts sv_isRoot)), ((ma 0), .inl (cB, 400, .inl fX)), ((ma 1), .inl (cI, 40, .inl fK)), ((ma 2), .inl (cI, 40, .inl fP)), ((ma 4), .inl (cI, 40, .inl fO)), ((ma 5), .inl (cI, 40, .inl fG)), ((ma 6), .inl (cI, 40, .inl fSz)), ((ma 7), .inl (cI, 40, .inl fSd)), ((ma 8), .inl (cB, 1200, .inl fN)), ((ma 9), .inl (cI, 40, .inl fNS)), ((ma 10), .inl (cB, 8000, .inl fT)), ((ma 11), .inl (cI, 40, .inl fTS)), ((ma 3), .inl (cI, 40, .inl fM))] H := hP
  have hD : va_D A [(h0, .inr (11, MO ma 0 sv_length sv_nodes sv_many sv_directories sv_runsFrom sv_runs sv_read sv_wrong sv_isNamed sv_goes sv_goesSize sv_goesAt sv_targetParts sv_isRoot)), ((ma 0), .inl (cB, 400, .inl fX)), ((ma 1), .inl (cI, 40, .inl fK)), ((ma 2), .inl (cI, 40, .inl fP)), ((ma 4), .inl (cI, 40, .inl fO)), ((ma 5), .inl (cI, 40, .inl fG)), ((ma 6), .inl (cI, 40, .inl fSz)), ((ma 7), .inl (cI, 40, .inl fSd)), ((ma 8), .inl (cB, 1200, .inl fN)), ((ma 9), .inl (cI, 40, .inl fNS)), ((ma 10), .inl (cB, 8000, .inl fT)), ((ma 11), .inl (cI, 40, .inl fTS)), ((ma 3), .inl (cI, 40, .inl fM))] := hD
  refine lv_iconst (v := 0) hx hb d_DiscMakerModel_link_5 (by decide) ?_
  refine lv_istore_n hx hb d_DiscMakerModel_link_6 rfl hl (by decide) rfl (fun ls hl => ?_)
  have hl : lv_has ls 6 [(2, .int 0), (0, .ref h0), (1, .int x)] := hl
  refine zz_lab (P := fun (lk : Nat) (H : Heap) (locs : List Loc) (ls : Array Slot) (stk : List Value) => ∃ (nn : Int32) , lk = (400 - nn.toInt).toNat ∧ stk = [] ∧ (0 ≤ nn.toInt ∧ nn.toInt ≤ sv_length.toInt) ∧ va_P D CL [(h0, .inr (11, MO ma 0 sv_length sv_nodes sv_many sv_directories sv_runsFrom sv_runs sv_read sv_wrong sv_isNamed sv_goes sv_goesSize sv_goesAt sv_targetParts sv_isRoot)), ((ma 0), .inl (cB, 400, .inl fX)), ((ma 1), .inl (cI, 40, .inl fK)), ((ma 2), .inl (cI, 40, .inl fP)), ((ma 4), .inl (cI, 40, .inl fO)), ((ma 5), .inl (cI, 40, .inl fG)), ((ma 6), .inl (cI, 40, .inl fSz)), ((ma 7), .inl (cI, 40, .inl fSd)), ((ma 8), .inl (cB, 1200, .inl fN)), ((ma 9), .inl (cI, 40, .inl fNS)), ((ma 10), .inl (cB, 8000, .inl fT)), ((ma 11), .inl (cI, 40, .inl fTS)), ((ma 3), .inl (cI, 40, .inl fM))] H ∧ va_D A [(h0, .inr (11, MO ma 0 sv_length sv_nodes sv_many sv_directories sv_runsFrom sv_runs sv_read sv_wrong sv_isNamed sv_goes sv_goesSize sv_goesAt sv_targetParts sv_isRoot)), ((ma 0), .inl (cB, 400, .inl fX)), ((ma 1), .inl (cI, 40, .inl fK)), ((ma 2), .inl (cI, 40, .inl fP)), ((ma 4), .inl (cI, 40, .inl fO)), ((ma 5), .inl (cI, 40, .inl fG)), ((ma 6), .inl (cI, 40, .inl fSz)), ((ma 7), .inl (cI, 40, .inl fSd)), ((ma 8), .inl (cB, 1200, .inl fN)), ((ma 9), .inl (cI, 40, .inl fNS)), ((ma 10), .inl (cB, 8000, .inl fT)), ((ma 11), .inl (cI, 40, .inl fTS)), ((ma 3), .inl (cI, 40, .inl fM))] ∧ va_S A s.heap H locs ∧ lv_has ls 6 [(0, .ref h0), (1, .int x), (2, .int nn)]) 7 ?_ ?_
  · skip
    intro lk ih7 H locs ls stk hI
    obtain ⟨nn, hm7, rfl, f1, hP, hD, hS, hl⟩ := hI
    refine lv_iload_n hx hb d_DiscMakerModel_link_7 rfl (lv_at hl 2 rfl) ?_
    refine lv_aload_n hx hb d_DiscMakerModel_link_8 rfl (lv_at hl 0 rfl) ?_
    refine va_get (D := D) (ci := 11) (v := .int sv_length) (C := "DiscMakerModel") (T := F_DiscMakerModel) (N := 48) hx hb ht9 in_DiscMakerModel hown hK hP 0 rfl rfl 2 (by decide) (ht9 _ k1433) (fun _ h9 => h9) rfl d_DiscMakerModel_link_9 ?_
    refine lv_icmp_ge (tgt := 30) hx hb d_DiscMakerModel_link_12 (by decide) (fun h_9 => ?_) (fun h_9 => ?_)
    · skip
      have g12_9 : sv_length.toInt ≤ nn.toInt := (i_le rfl rfl).mp h_9
      refine lv_aload_n hx hb d_DiscMakerModel_link_30 rfl (lv_at hl 0 rfl) ?_
      refine va_get (D := D) (ci := 11) (v := .int sv_length) (C := "DiscMakerModel") (T := F_DiscMakerModel) (N := 48) hx hb ht9 in_DiscMakerModel hown hK hP 0 rfl rfl 2 (by decide) (ht9 _ k1433) (fun _ h9 => h9) rfl d_DiscMakerModel_link_31 ?_
      refine lv_iload_n hx hb d_DiscMakerModel_link_34 rfl (lv_at hl 2 rfl) ?_
      refine lv_isub hx hb d_DiscMakerModel_link_35 ?_
      refine lv_topi (fun v1 e_v1 => ?_)
      have t_v1 : v1.toInt = sv_length.toInt - nn.toInt := by rw [e_v1]; exact i_sub rfl rfl (by omega) (by omega)
      refine lv_iconst (v := 1) hx hb d_DiscMakerModel_link_36 (by decide) ?_
      refine lv_isub hx hb d_DiscMakerModel_link_37 ?_
      refine lv_topi (fun v2 e_v2 => ?_)
      have t_v2 : v2.toInt = v1.toInt - 1 := by rw [e_v2]; exact i_sub rfl (by decide) (by omega) (by omega)
      refine lv_istore_n hx hb d_DiscMakerModel_link_38 rfl hl (by decide) rfl (fun ls hl => ?_)
      have hl : lv_has ls 6 [(3, .int v2), (0, .ref h0), (1, .int x), (2, .int nn)] := hl
      refine zz_lab (P := fun (lk : Nat) (H : Heap) (locs : List Loc) (ls : Array Slot) (stk : List Value) => ∃ (rg : Int32) , lk = 0 ∧ stk = [.int rg] ∧ (0 ≤ rg.toInt ∧ rg.toInt ≤ 1) ∧ (rg.toInt = 0 ∨ (1 ≤ sv_length.toInt - nn.toInt - 1 ∧ sv_length.toInt - nn.toInt - 1 ≤ 200)) ∧ va_P D CL [(h0, .inr (11, MO ma 0 sv_length sv_nodes sv_many sv_directories sv_runsFrom sv_runs sv_read sv_wrong sv_isNamed sv_goes sv_goesSize sv_goesAt sv_targetParts sv_isRoot)), ((ma 0), .inl (cB, 400, .inl fX)), ((ma 1), .inl (cI, 40, .inl fK)), ((ma 2), .inl (cI, 40, .inl fP)), ((ma 4), .inl (cI, 40, .inl fO)), ((ma 5), .inl (cI, 40, .inl fG)), ((ma 6), .inl (cI, 40, .inl fSz)), ((ma 7), .inl (cI, 40, .inl fSd)), ((ma 8), .inl (cB, 1200, .inl fN)), ((ma 9), .inl (cI, 40, .inl fNS)), ((ma 10), .inl (cB, 8000, .inl fT)), ((ma 11), .inl (cI, 40, .inl fTS)), ((ma 3), .inl (cI, 40, .inl fM))] H ∧ va_D A [(h0, .inr (11, MO ma 0 sv_length sv_nodes sv_many sv_directories sv_runsFrom sv_runs sv_read sv_wrong sv_isNamed sv_goes sv_goesSize sv_goesAt sv_targetParts sv_isRoot)), ((ma 0), .inl (cB, 400, .inl fX)), ((ma 1), .inl (cI, 40, .inl fK)), ((ma 2), .inl (cI, 40, .inl fP)), ((ma 4), .inl (cI, 40, .inl fO)), ((ma 5), .inl (cI, 40, .inl fG)), ((ma 6), .inl (cI, 40, .inl fSz)), ((ma 7), .inl (cI, 40, .inl fSd)), ((ma 8), .inl (cB, 1200, .inl fN)), ((ma 9), .inl (cI, 40, .inl fNS)), ((ma 10), .inl (cB, 8000, .inl fT)), ((ma 11), .inl (cI, 40, .inl fTS)), ((ma 3), .inl (cI, 40, .inl fM))] ∧ va_S A s.heap H locs ∧ lv_has ls 6 [(0, .ref h0), (1, .int x), (2, .int nn), (3, .int v2)]) 56 ?_ ?_
      · skip
        intro lk ih56 H locs ls stk hI
        obtain ⟨rg, hm56, rfl, f2, f3, hP, hD, hS, hl⟩ := hI
        refine lv_istore hx hb d_DiscMakerModel_link_56 hl (by decide) rfl (fun ls hl => ?_)
        have hl : lv_has ls 6 [(4, .int rg), (0, .ref h0), (1, .int x), (2, .int nn), (3, .int v2)] := hl
        refine lv_iload_n hx hb d_DiscMakerModel_link_58 rfl (lv_at hl 3 rfl) ?_
        refine lv_iconst (v := 1) hx hb d_DiscMakerModel_link_59 (by decide) ?_
        refine lv_iadd hx hb d_DiscMakerModel_link_60 ?_
        refine lv_topi (fun v3 e_v3 => ?_)
        have t_v3 : v3.toInt = nn.toInt + 1 := by rw [e_v3]; exact i_add rfl (by decide) (by omega) (by omega)
        refine lv_istore hx hb d_DiscMakerModel_link_61 hl (by decide) rfl (fun ls hl => ?_)
        have hl : lv_has ls 6 [(5, .int v3), (4, .int rg), (0, .ref h0), (1, .int x), (2, .int nn), (3, .int v2)] := hl
        refine zz_lab (P := fun (lk : Nat) (H : Heap) (locs : List Loc) (ls : Array Slot) (stk : List Value) => ∃ (rh : Int32) (kx : Int32) , lk = (401 - kx.toInt).toNat ∧ stk = [] ∧ (0 ≤ rh.toInt ∧ rh.toInt ≤ 1) ∧ (rh.toInt = 0 ∨ (1 ≤ sv_length.toInt - nn.toInt - 1 ∧ sv_length.toInt - nn.toInt - 1 ≤ 200)) ∧ (1 ≤ kx.toInt ∧ kx.toInt ≤ 401) ∧ va_P D CL [(h0, .inr (11, MO ma 0 sv_length sv_nodes sv_many sv_directories sv_runsFrom sv_runs sv_read sv_wrong sv_isNamed sv_goes sv_goesSize sv_goesAt sv_targetParts sv_isRoot)), ((ma 0), .inl (cB, 400, .inl fX)), ((ma 1), .inl (cI, 40, .inl fK)), ((ma 2), .inl (cI, 40, .inl fP)), ((ma 4), .inl (cI, 40, .inl fO)), ((ma 5), .inl (cI, 40, .inl fG)), ((ma 6), .inl (cI, 40, .inl fSz)), ((ma 7), .inl (cI, 40, .inl fSd)), ((ma 8), .inl (cB, 1200, .inl fN)), ((ma 9), .inl (cI, 40, .inl fNS)), ((ma 10), .inl (cB, 8000, .inl fT)), ((ma 11), .inl (cI, 40, .inl fTS)), ((ma 3), .inl (cI, 40, .inl fM))] H ∧ va_D A [(h0, .inr (11, MO ma 0 sv_length sv_nodes sv_many sv_directories sv_runsFrom sv_runs sv_read sv_wrong sv_isNamed sv_goes sv_goesSize sv_goesAt sv_targetParts sv_isRoot)), ((ma 0), .inl (cB, 400, .inl fX)), ((ma 1), .inl (cI, 40, .inl fK)), ((ma 2), .inl (cI, 40, .inl fP)), ((ma 4), .inl (cI, 40, .inl fO)), ((ma 5), .inl (cI, 40, .inl fG)), ((ma 6), .inl (cI, 40, .inl fSz)), ((ma 7), .inl (cI, 40, .inl fSd)), ((ma 8), .inl (cB, 1200, .inl fN)), ((ma 9), .inl (cI, 40, .inl fNS)), ((ma 10), .inl (cB, 8000, .inl fT)), ((ma 11), .inl (cI, 40, .inl fTS)), ((ma 3), .inl (cI, 40, .inl fM))] ∧ va_S A s.heap H locs ∧ lv_has ls 6 [(0, .ref h0), (1, .int x), (2, .int nn), (3, .int v2), (4, .int rh), (5, .int kx)]) 63 ?_ ?_
        · skip
          intro lk ih63 H locs ls stk hI
          obtain ⟨rh, kx, hm63, rfl, f4, f5, f6, hP, hD, hS, hl⟩ := hI
          refine lv_iload hx hb d_DiscMakerModel_link_63 (lv_at hl 5 rfl) ?_
          refine lv_aload_n hx hb d_DiscMakerModel_link_65 rfl (lv_at hl 0 rfl) ?_
          refine va_get (D := D) (ci := 11) (v := .int sv_length) (C := "DiscMakerModel") (T := F_DiscMakerModel) (N := 48) hx hb ht9 in_DiscMakerModel hown hK hP 0 rfl rfl 2 (by decide) (ht9 _ k1433) (fun _ h9 => h9) rfl d_DiscMakerModel_link_66 ?_
          refine lv_icmp_ge (tgt := 114) hx hb d_DiscMakerModel_link_69 (by decide) (fun h_9 => ?_) (fun h_9 => ?_)
          · skip
            have g69_25 : sv_length.toInt ≤ kx.toInt := (i_le rfl rfl).mp h_9
            refine lv_aload_n hx hb d_DiscMakerModel_link_114 rfl (lv_at hl 0 rfl) ?_
            refine lv_iload_n hx hb d_DiscMakerModel_link_115 rfl (lv_at hl 1 rfl) ?_
            refine lv_iconst (v := 2) hx hb d_DiscMakerModel_link_116 (by decide) ?_
            refine lv_iload_n hx hb d_DiscMakerModel_link_117 rfl (lv_at hl 2 rfl) ?_
            refine zz_lab (P := fun (lk : Nat) (H : Heap) (locs : List Loc) (ls : Array Slot) (stk : List Value) => ∃ (jf : Int32) , lk = 0 ∧ stk = [.int jf, .int nn, .int 2, .int x, .ref h0] ∧ (0 ≤ jf.toInt ∧ jf.toInt ≤ 1) ∧ (jf.toInt = 0 ∨ (1 ≤ sv_length.toInt - nn.toInt - 1 ∧ sv_length.toInt - nn.toInt - 1 ≤ 200)) ∧ va_P D CL [(h0, .inr (11, MO ma 0 sv_length sv_nodes sv_many sv_directories sv_runsFrom sv_runs sv_read sv_wrong sv_isNamed sv_goes sv_goesSize sv_goesAt sv_targetParts sv_isRoot)), ((ma 0), .inl (cB, 400, .inl fX)), ((ma 1), .inl (cI, 40, .inl fK)), ((ma 2), .inl (cI, 40, .inl fP)), ((ma 4), .inl (cI, 40, .inl fO)), ((ma 5), .inl (cI, 40, .inl fG)), ((ma 6), .inl (cI, 40, .inl fSz)), ((ma 7), .inl (cI, 40, .inl fSd)), ((ma 8), .inl (cB, 1200, .inl fN)), ((ma 9), .inl (cI, 40, .inl fNS)), ((ma 10), .inl (cB, 8000, .inl fT)), ((ma 11), .inl (cI, 40, .inl fTS)), ((ma 3), .inl (cI, 40, .inl fM))] H ∧ va_D A [(h0, .inr (11, MO ma 0 sv_length sv_nodes sv_many sv_directories sv_runsFrom sv_runs sv_read sv_wrong sv_isNamed sv_goes sv_goesSize sv_goesAt sv_targetParts sv_isRoot)), ((ma 0), .inl (cB, 400, .inl fX)), ((ma 1), .inl (cI, 40, .inl fK)), ((ma 2), .inl (cI, 40, .inl fP)), ((ma 4), .inl (cI, 40, .inl fO)), ((ma 5), .inl (cI, 40, .inl fG)), ((ma 6), .inl (cI, 40, .inl fSz)), ((ma 7), .inl (cI, 40, .inl fSd)), ((ma 8), .inl (cB, 1200, .inl fN)), ((ma 9), .inl (cI, 40, .inl fNS)), ((ma 10), .inl (cB, 8000, .inl fT)), ((ma 11), .inl (cI, 40, .inl fTS)), ((ma 3), .inl (cI, 40, .inl fM))] ∧ va_S A s.heap H locs ∧ lv_has ls 6 [(0, .ref h0), (1, .int x), (2, .int nn), (3, .int v2), (4, .int rh), (5, .int kx)]) 142 ?_ ?_
            · skip
              intro lk ih142 H locs ls stk hI
              obtain ⟨jf, hm142, rfl, fj, fk, hP, hD, hS, hl⟩ := hI
              have hPc := hP.sub (ws' := [(h0, .inr (11, MO ma 0 sv_length sv_nodes sv_many sv_directories sv_runsFrom sv_runs sv_read sv_wrong sv_isNamed sv_goes sv_goesSize sv_goesAt sv_targetParts sv_isRoot)), ((ma 0), .inl (cB, 400, .inl fX)), ((ma 1), .inl (cI, 40, .inl fK)), ((ma 2), .inl (cI, 40, .inl fP)), ((ma 4), .inl (cI, 40, .inl fO)), ((ma 5), .inl (cI, 40, .inl fG)), ((ma 6), .inl (cI, 40, .inl fSz)), ((ma 7), .inl (cI, 40, .inl fSd)), ((ma 8), .inl (cB, 1200, .inl fN)), ((ma 9), .inl (cI, 40, .inl fNS)), ((ma 10), .inl (cB, 8000, .inl fT)), ((ma 11), .inl (cI, 40, .inl fTS))]) [0, 1, 2, 3, 4, 5, 6, 7, 8, 9, 10, 11] rfl
              have hDc := hD.sub (ws' := [(h0, .inr (11, MO ma 0 sv_length sv_nodes sv_many sv_directories sv_runsFrom sv_runs sv_read sv_wrong sv_isNamed sv_goes sv_goesSize sv_goesAt sv_targetParts sv_isRoot)), ((ma 0), .inl (cB, 400, .inl fX)), ((ma 1), .inl (cI, 40, .inl fK)), ((ma 2), .inl (cI, 40, .inl fP)), ((ma 4), .inl (cI, 40, .inl fO)), ((ma 5), .inl (cI, 40, .inl fG)), ((ma 6), .inl (cI, 40, .inl fSz)), ((ma 7), .inl (cI, 40, .inl fSd)), ((ma 8), .inl (cB, 1200, .inl fN)), ((ma 9), .inl (cI, 40, .inl fNS)), ((ma 10), .inl (cB, 8000, .inl fT)), ((ma 11), .inl (cI, 40, .inl fTS))]) [0, 1, 2, 3, 4, 5, 6, 7, 8, 9, 10, 11] (by decide) rfl
              have hFc := va_free (wc := [(h0, .inr (11, MO ma 0 sv_length sv_nodes sv_many sv_directories sv_runsFrom sv_runs sv_read sv_wrong sv_isNamed sv_goes sv_goesSize sv_goesAt sv_targetParts sv_isRoot)), ((ma 0), .inl (cB, 400, .inl fX)), ((ma 1), .inl (cI, 40, .inl fK)), ((ma 2), .inl (cI, 40, .inl fP)), ((ma 4), .inl (cI, 40, .inl fO)), ((ma 5), .inl (cI, 40, .inl fG)), ((ma 6), .inl (cI, 40, .inl fSz)), ((ma 7), .inl (cI, 40, .inl fSd)), ((ma 8), .inl (cB, 1200, .inl fN)), ((ma 9), .inl (cI, 40, .inl fNS)), ((ma 10), .inl (cB, 8000, .inl fT)), ((ma 11), .inl (cI, 40, .inl fTS))]) hD hS hA [0, 1, 2, 3, 4, 5, 6, 7, 8, 9, 10, 11] rfl
              have hkc : 0 ≤ 0 := by decide
              have hks : 0 ≤ 0 := by decide
              refine va_calli (va_runV (C := "DiscMakerModel") (As := [.int x, .int 2, .int nn, .int jf]) (rest := []) ⟨hx, hb, hml, hown, hts⟩ (m_add l D cB cI cJ cZ cN cF H.size h0 ma 0 sv_length sv_nodes sv_many sv_directories sv_runsFrom sv_runs sv_read sv_wrong sv_isNamed sv_goes sv_goesSize sv_goesAt sv_targetParts sv_isRoot fX fK fP fO fG fSz fSd fN fNS fT fTS x 2 nn jf (by (try dsimp only); first | omega | assumption | trivial) (by (try dsimp only); first | omega | assumption | trivial) (by (try dsimp only); first | omega | assumption | trivial) (by (try dsimp only); first | omega | assumption | trivial) (by (try dsimp only); first | omega | assumption | trivial)) (cwV 4 hts (lg_goodV k1594 k1596 k52 k125 kc_DiscMakerModel_add) rfl rfl rfl (by decide +kernel) ⟨Nat.le_of_ble_eq_true rfl, Nat.le_of_ble_eq_true rfl⟩) ⟨fun a U g mk q => by obtain ⟨q0, q1, qP, qK, qN, qD⟩ := q; exact ⟨q0, q1, qP, va_K.moved (u := U) (U := U.calling g mk a) (Vm.Alike.refl U.vm) qK, qN.calling, qD⟩, va_recv hK hP (ci := 11) (q0 := 0) rfl rfl, fun U hU hW => ⟨rfl, by rw [hU], by rw [hU]; exact hPc, va_K.moved hW.alike hK, NN.warm hW hN, hDc.weaken (fun _ _ _ _ => trivial)⟩⟩ rfl rfl hl.1 rfl (lv_room (Nat.le_of_ble_eq_true rfl)) d_DiscMakerModel_link_142 ⟨hkc, hks⟩) hS (fun q _ h => hFc q h) hFc (fun r4 u t H1 locs ht hvm hp_r4 hB hz1 hk1 hS => ?_)
              obtain ⟨nd_5, gK_6, gP_7, gO_8, gG_9, gSz_10, gSd_11, gN_12, gNS_13, gT_14, gTS_15⟩ := u
              obtain ⟨hP1, hD1⟩ := hB
              rw [ht] at hP1
              obtain ⟨hP, hD⟩ := va_join (wr := [((ma 3), .inl (cI, 40, .inl fM))]) (w1 := [(h0, .inr (11, MO ma 0 0 nd_5 sv_many sv_directories sv_runsFrom sv_runs sv_read sv_wrong sv_isNamed sv_goes sv_goesSize sv_goesAt sv_targetParts sv_isRoot)), ((ma 0), .inl (cB, 400, .inl fX)), ((ma 1), .inl (cI, 40, .inl gK_6)), ((ma 2), .inl (cI, 40, .inl gP_7)), ((ma 4), .inl (cI, 40, .inl gO_8)), ((ma 5), .inl (cI, 40, .inl gG_9)), ((ma 6), .inl (cI, 40, .inl gSz_10)), ((ma 7), .inl (cI, 40, .inl gSd_11)), ((ma 8), .inl (cB, 1200, .inl gN_12)), ((ma 9), .inl (cI, 40, .inl gNS_13)), ((ma 10), .inl (cB, 8000, .inl gT_14)), ((ma 11), .inl (cI, 40, .inl gTS_15))]) hP hD [0, 1, 2, 3, 4, 5, 6, 7, 8, 9, 10, 11] [12] rfl rfl (by decide) (by decide) hk1 hFc hP1 hD1
              clear hPc hDc hFc hP1 hD1 hk1 hz1
              generalize H1 = H at hP hS ⊢
              have hP : va_P D CL [((ma 3), .inl (cI, 40, .inl fM)), (h0, .inr (11, MO ma 0 0 nd_5 sv_many sv_directories sv_runsFrom sv_runs sv_read sv_wrong sv_isNamed sv_goes sv_goesSize sv_goesAt sv_targetParts sv_isRoot)), ((ma 0), .inl (cB, 400, .inl fX)), ((ma 1), .inl (cI, 40, .inl gK_6)), ((ma 2), .inl (cI, 40, .inl gP_7)), ((ma 4), .inl (cI, 40, .inl gO_8)), ((ma 5), .inl (cI, 40, .inl gG_9)), ((ma 6), .inl (cI, 40, .inl gSz_10)), ((ma 7), .inl (cI, 40, .inl gSd_11)), ((ma 8), .inl (cB, 1200, .inl gN_12)), ((ma 9), .inl (cI, 40, .inl gNS_13)), ((ma 10), .inl (cB, 8000, .inl gT_14)), ((ma 11), .inl (cI, 40, .inl gTS_15))] H := hP
              have hD : va_D A [((ma 3), .inl (cI, 40, .inl fM)), (h0, .inr (11, MO ma 0 0 nd_5 sv_many sv_directories sv_runsFrom sv_runs sv_read sv_wrong sv_isNamed sv_goes sv_goesSize sv_goesAt sv_targetParts sv_isRoot)), ((ma 0), .inl (cB, 400, .inl fX)), ((ma 1), .inl (cI, 40, .inl gK_6)), ((ma 2), .inl (cI, 40, .inl gP_7)), ((ma 4), .inl (cI, 40, .inl gO_8)), ((ma 5), .inl (cI, 40, .inl gG_9)), ((ma 6), .inl (cI, 40, .inl gSz_10)), ((ma 7), .inl (cI, 40, .inl gSd_11)), ((ma 8), .inl (cB, 1200, .inl gN_12)), ((ma 9), .inl (cI, 40, .inl gNS_13)), ((ma 10), .inl (cB, 8000, .inl gT_14)), ((ma 11), .inl (cI, 40, .inl gTS_15))] := hD
              try dsimp only at hp_r4
              obtain ⟨hr_16, hT_17⟩ := hp_r4
              have hn9 := hT_17.n1
              refine lv_istore hx hb d_DiscMakerModel_link_145 hl (by decide) rfl (fun ls hl => ?_)
              have hl : lv_has ls 6 [(5, .int r4), (0, .ref h0), (1, .int x), (2, .int nn), (3, .int v2), (4, .int rh)] := hl
              refine lv_iload hx hb d_DiscMakerModel_link_147 (lv_at hl 0 rfl) ?_
              refine lv_if_lt (tgt := 162) hx hb d_DiscMakerModel_link_149 (by decide) (fun h_9 => ?_) (fun h_9 => ?_)
              · skip
                have g149_33 : r4.toInt < 0 := (i_lt rfl (by decide)).mp h_9
                refine lv_iload hx hb d_DiscMakerModel_link_162 (lv_at hl 0 rfl) ?_
                have hP9 := hP.sub (ws' := [(h0, .inr (11, MO ma 0 0 nd_5 sv_many sv_directories sv_runsFrom sv_runs sv_read sv_wrong sv_isNamed sv_goes sv_goesSize sv_goesAt sv_targetParts sv_isRoot)), ((ma 0), .inl (cB, 400, .inl fX)), ((ma 1), .inl (cI, 40, .inl gK_6)), ((ma 2), .inl (cI, 40, .inl gP_7)), ((ma 4), .inl (cI, 40, .inl gO_8)), ((ma 5), .inl (cI, 40, .inl gG_9)), ((ma 6), .inl (cI, 40, .inl gSz_10)), ((ma 7), .inl (cI, 40, .inl gSd_11)), ((ma 8), .inl (cB, 1200, .inl gN_12)), ((ma 9), .inl (cI, 40, .inl gNS_13)), ((ma 10), .inl (cB, 8000, .inl gT_14)), ((ma 11), .inl (cI, 40, .inl gTS_15)), ((ma 3), .inl (cI, 40, .inl fM))]) [1, 2, 3, 4, 5, 6, 7, 8, 9, 10, 11, 12, 0] rfl
                have hD9 := hD.sub (ws' := [(h0, .inr (11, MO ma 0 0 nd_5 sv_many sv_directories sv_runsFrom sv_runs sv_read sv_wrong sv_isNamed sv_goes sv_goesSize sv_goesAt sv_targetParts sv_isRoot)), ((ma 0), .inl (cB, 400, .inl fX)), ((ma 1), .inl (cI, 40, .inl gK_6)), ((ma 2), .inl (cI, 40, .inl gP_7)), ((ma 4), .inl (cI, 40, .inl gO_8)), ((ma 5), .inl (cI, 40, .inl gG_9)), ((ma 6), .inl (cI, 40, .inl gSz_10)), ((ma 7), .inl (cI, 40, .inl gSd_11)), ((ma 8), .inl (cB, 1200, .inl gN_12)), ((ma 9), .inl (cI, 40, .inl gNS_13)), ((ma 10), .inl (cB, 8000, .inl gT_14)), ((ma 11), .inl (cI, 40, .inl gTS_15)), ((ma 3), .inl (cI, 40, .inl fM))]) [1, 2, 3, 4, 5, 6, 7, 8, 9, 10, 11, 12, 0] (by decide) rfl
                exact W.iret (v := r4) hx hb hr (fun t ht hW => ⟨⟨r4, (0, nd_5, gK_6, gP_7, gO_8, gG_9, gSz_10, gSd_11, gN_12, gNS_13, gT_14, gTS_15, fM), rfl, hT_17, by rw [ht]; exact hP9, hD9⟩, hS.F ht⟩) hS.2.2 d_DiscMakerModel_link_164
              · skip
                have g149_33 : ¬ r4.toInt < 0 := fun h8 => h_9 ((i_lt rfl (by decide)).mpr h8)
                refine lv_aload_n hx hb d_DiscMakerModel_link_152 rfl (lv_at hl 1 rfl) ?_
                refine va_get (D := D) (ci := 11) (v := .ref (ma 3)) (C := "DiscMakerModel") (T := F_DiscMakerModel) (N := 48) hx hb ht9 in_DiscMakerModel hown hK hP 1 rfl rfl 6 (by decide) (ht9 _ k1437) (fun _ h9 => h9) rfl d_DiscMakerModel_link_153 ?_
                refine lv_iload hx hb d_DiscMakerModel_link_156 (lv_at hl 0 rfl) ?_
                refine lv_sipush (v := 511) hx hb d_DiscMakerModel_link_158 (by decide) ?_
                refine zq_iast hx hb hK hP hD hS 0 1 rfl rfl (vp_in_iff.mpr ⟨by omega, by omega⟩) d_DiscMakerModel_link_161 (fun f18 e_f18 H locs hP hD hS => ?_)
                have hP : va_P D CL [((ma 3), .inl (cI, 40, .inl f18)), (h0, .inr (11, MO ma 0 0 nd_5 sv_many sv_directories sv_runsFrom sv_runs sv_read sv_wrong sv_isNamed sv_goes sv_goesSize sv_goesAt sv_targetParts sv_isRoot)), ((ma 0), .inl (cB, 400, .inl fX)), ((ma 1), .inl (cI, 40, .inl gK_6)), ((ma 2), .inl (cI, 40, .inl gP_7)), ((ma 4), .inl (cI, 40, .inl gO_8)), ((ma 5), .inl (cI, 40, .inl gG_9)), ((ma 6), .inl (cI, 40, .inl gSz_10)), ((ma 7), .inl (cI, 40, .inl gSd_11)), ((ma 8), .inl (cB, 1200, .inl gN_12)), ((ma 9), .inl (cI, 40, .inl gNS_13)), ((ma 10), .inl (cB, 8000, .inl gT_14)), ((ma 11), .inl (cI, 40, .inl gTS_15))] H := hP
                have hD : va_D A [((ma 3), .inl (cI, 40, .inl f18)), (h0, .inr (11, MO ma 0 0 nd_5 sv_many sv_directories sv_runsFrom sv_runs sv_read sv_wrong sv_isNamed sv_goes sv_goesSize sv_goesAt sv_targetParts sv_isRoot)), ((ma 0), .inl (cB, 400, .inl fX)), ((ma 1), .inl (cI, 40, .inl gK_6)), ((ma 2), .inl (cI, 40, .inl gP_7)), ((ma 4), .inl (cI, 40, .inl gO_8)), ((ma 5), .inl (cI, 40, .inl gG_9)), ((ma 6), .inl (cI, 40, .inl gSz_10)), ((ma 7), .inl (cI, 40, .inl gSd_11)), ((ma 8), .inl (cB, 1200, .inl gN_12)), ((ma 9), .inl (cI, 40, .inl gNS_13)), ((ma 10), .inl (cB, 8000, .inl gT_14)), ((ma 11), .inl (cI, 40, .inl gTS_15))] := hD
                have s_f18 : f18 r4.toNatClampNeg = 511 := by rw [e_f18]; unfold upd; rw [if_pos rfl]
                refine lv_iload hx hb d_DiscMakerModel_link_162 (lv_at hl 0 rfl) ?_
                have hP9 := hP.sub (ws' := [(h0, .inr (11, MO ma 0 0 nd_5 sv_many sv_directories sv_runsFrom sv_runs sv_read sv_wrong sv_isNamed sv_goes sv_goesSize sv_goesAt sv_targetParts sv_isRoot)), ((ma 0), .inl (cB, 400, .inl fX)), ((ma 1), .inl (cI, 40, .inl gK_6)), ((ma 2), .inl (cI, 40, .inl gP_7)), ((ma 4), .inl (cI, 40, .inl gO_8)), ((ma 5), .inl (cI, 40, .inl gG_9)), ((ma 6), .inl (cI, 40, .inl gSz_10)), ((ma 7), .inl (cI, 40, .inl gSd_11)), ((ma 8), .inl (cB, 1200, .inl gN_12)), ((ma 9), .inl (cI, 40, .inl gNS_13)), ((ma 10), .inl (cB, 8000, .inl gT_14)), ((ma 11), .inl (cI, 40, .inl gTS_15)), ((ma 3), .inl (cI, 40, .inl f18))]) [1, 2, 3, 4, 5, 6, 7, 8, 9, 10, 11, 12, 0] rfl
                have hD9 := hD.sub (ws' := [(h0, .inr (11, MO ma 0 0 nd_5 sv_many sv_directories sv_runsFrom sv_runs sv_read sv_wrong sv_isNamed sv_goes sv_goesSize sv_goesAt sv_targetParts sv_isRoot)), ((ma 0), .inl (cB, 400, .inl fX)), ((ma 1), .inl (cI, 40, .inl gK_6)), ((ma 2), .inl (cI, 40, .inl gP_7)), ((ma 4), .inl (cI, 40, .inl gO_8)), ((ma 5), .inl (cI, 40, .inl gG_9)), ((ma 6), .inl (cI, 40, .inl gSz_10)), ((ma 7), .inl (cI, 40, .inl gSd_11)), ((ma 8), .inl (cB, 1200, .inl gN_12)), ((ma 9), .inl (cI, 40, .inl gNS_13)), ((ma 10), .inl (cB, 8000, .inl gT_14)), ((ma 11), .inl (cI, 40, .inl gTS_15)), ((ma 3), .inl (cI, 40, .inl f18))]) [1, 2, 3, 4, 5, 6, 7, 8, 9, 10, 11, 12, 0] (by decide) rfl
                exact W.iret (v := r4) hx hb hr (fun t ht hW => ⟨⟨r4, (0, nd_5, gK_6, gP_7, gO_8, gG_9, gSz_10, gSd_11, gN_12, gNS_13, gT_14, gTS_15, f18), rfl, hT_17, by rw [ht]; exact hP9, hD9⟩, hS.F ht⟩) hS.2.2 d_DiscMakerModel_link_164
            · skip
              intro kk142
              refine lv_iload hx hb d_DiscMakerModel_link_118 (lv_at hl 4 rfl) ?_
              refine lv_if_eq (tgt := 141) hx hb d_DiscMakerModel_link_120 (by decide) (fun h_9 => ?_) (fun h_9 => ?_)
              · skip
                have g120_44 : rh.toInt = 0 := (i_eq rfl (by decide)).mp h_9
                refine lv_iconst (v := 0) hx hb d_DiscMakerModel_link_141 (by decide) ?_
                have hP := hP.sub (ws' := [(h0, .inr (11, MO ma 0 sv_length sv_nodes sv_many sv_directories sv_runsFrom sv_runs sv_read sv_wrong sv_isNamed sv_goes sv_goesSize sv_goesAt sv_targetParts sv_isRoot)), ((ma 0), .inl (cB, 400, .inl fX)), ((ma 1), .inl (cI, 40, .inl fK)), ((ma 2), .inl (cI, 40, .inl fP)), ((ma 4), .inl (cI, 40, .inl fO)), ((ma 5), .inl (cI, 40, .inl fG)), ((ma 6), .inl (cI, 40, .inl fSz)), ((ma 7), .inl (cI, 40, .inl fSd)), ((ma 8), .inl (cB, 1200, .inl fN)), ((ma 9), .inl (cI, 40, .inl fNS)), ((ma 10), .inl (cB, 8000, .inl fT)), ((ma 11), .inl (cI, 40, .inl fTS)), ((ma 3), .inl (cI, 40, .inl fM))]) [0, 1, 2, 3, 4, 5, 6, 7, 8, 9, 10, 11, 12] rfl
                have hD := hD.sub (ws' := [(h0, .inr (11, MO ma 0 sv_length sv_nodes sv_many sv_directories sv_runsFrom sv_runs sv_read sv_wrong sv_isNamed sv_goes sv_goesSize sv_goesAt sv_targetParts sv_isRoot)), ((ma 0), .inl (cB, 400, .inl fX)), ((ma 1), .inl (cI, 40, .inl fK)), ((ma 2), .inl (cI, 40, .inl fP)), ((ma 4), .inl (cI, 40, .inl fO)), ((ma 5), .inl (cI, 40, .inl fG)), ((ma 6), .inl (cI, 40, .inl fSz)), ((ma 7), .inl (cI, 40, .inl fSd)), ((ma 8), .inl (cB, 1200, .inl fN)), ((ma 9), .inl (cI, 40, .inl fNS)), ((ma 10), .inl (cB, 8000, .inl fT)), ((ma 11), .inl (cI, 40, .inl fTS)), ((ma 3), .inl (cI, 40, .inl fM))]) [0, 1, 2, 3, 4, 5, 6, 7, 8, 9, 10, 11, 12] (by decide) rfl
                have hl := lv_sub hl [0, 1, 2, 3, 4, 5] rfl
                exact kk142 _ _ _ _ _ ⟨0, rfl, rfl, (by (try dsimp only); first | omega | assumption | trivial), (by (try dsimp only); first | omega | assumption | trivial), hP, hD, hS, hl⟩
              · skip
                have g120_44 : ¬ rh.toInt = 0 := fun h8 => h_9 ((i_eq rfl (by decide)).mpr h8)
                refine lv_aload_n hx hb d_DiscMakerModel_link_123 rfl (lv_at hl 0 rfl) ?_
                refine lv_iload_n hx hb d_DiscMakerModel_link_124 rfl (lv_at hl 3 rfl) ?_
                refine lv_iload_n hx hb d_DiscMakerModel_link_125 rfl (lv_at hl 2 rfl) ?_
                refine lv_iconst (v := 1) hx hb d_DiscMakerModel_link_126 (by decide) ?_
                refine lv_iadd hx hb d_DiscMakerModel_link_127 ?_
                refine lv_topi (fun v19 e_v19 => ?_)
                have t_v19 : v19.toInt = nn.toInt + 1 := by rw [e_v19]; exact i_add rfl (by decide) (by omega) (by omega)
                have hPc := hP.sub (ws' := [(h0, .inr (11, MO ma 0 sv_length sv_nodes sv_many sv_directories sv_runsFrom sv_runs sv_read sv_wrong sv_isNamed sv_goes sv_goesSize sv_goesAt sv_targetParts sv_isRoot)), ((ma 0), .inl (cB, 400, .inl fX))]) [0, 1] rfl
                have hDc := hD.sub (ws' := [(h0, .inr (11, MO ma 0 sv_length sv_nodes sv_many sv_directories sv_runsFrom sv_runs sv_read sv_wrong sv_isNamed sv_goes sv_goesSize sv_goesAt sv_targetParts sv_isRoot)), ((ma 0), .inl (cB, 400, .inl fX))]) [0, 1] (by decide) rfl
                have hFc := va_free (wc := [(h0, .inr (11, MO ma 0 sv_length sv_nodes sv_many sv_directories sv_runsFrom sv_runs sv_read sv_wrong sv_isNamed sv_goes sv_goesSize sv_goesAt sv_targetParts sv_isRoot)), ((ma 0), .inl (cB, 400, .inl fX))]) hD hS hA [0, 1] rfl
                have hkc : 0 ≤ 0 := by decide
                have hks : 0 ≤ 0 := by decide
                refine va_calli (va_runV (C := "DiscMakerModel") (As := [.int v2, .int v19]) (rest := [.int nn, .int 2, .int x, .ref h0]) ⟨hx, hb, hml, hown, hts⟩ (m_componentsOf l D cB cI cJ cZ cN cF H.size h0 ma 0 sv_length sv_nodes sv_many sv_directories sv_runsFrom sv_runs sv_read sv_wrong sv_isNamed sv_goes sv_goesSize sv_goesAt sv_targetParts sv_isRoot fX v2 v19 (by (try dsimp only); first | omega | assumption | trivial) (by (try dsimp only); first | omega | assumption | trivial)) (cwV 2 hts (lg_goodV k1636 k1638 k59 k125 kc_DiscMakerModel_componentsOf) rfl rfl rfl (by decide +kernel) ⟨Nat.le_of_ble_eq_true rfl, Nat.le_of_ble_eq_true rfl⟩) ⟨fun a U g mk q => by obtain ⟨q0, q1, qP, qK, qN, qD⟩ := q; exact ⟨q0, q1, qP, va_K.moved (u := U) (U := U.calling g mk a) (Vm.Alike.refl U.vm) qK, qN.calling, qD⟩, va_recv hK hP (ci := 11) (q0 := 0) rfl rfl, fun U hU hW => ⟨rfl, by rw [hU], by rw [hU]; exact hPc, va_K.moved hW.alike hK, NN.warm hW hN, hDc.weaken (fun _ _ _ _ => trivial)⟩⟩ rfl rfl hl.1 rfl (lv_room (Nat.le_of_ble_eq_true rfl)) d_DiscMakerModel_link_128 ⟨hkc, hks⟩) hS (fun q _ h => hFc q h) hFc (fun r20 u t H1 locs ht hvm hp_r20 hB hz1 hk1 hS => ?_)
                obtain ⟨hP1, hD1⟩ := hB
                rw [ht] at hP1
                obtain ⟨hP, hD⟩ := va_join (wr := [((ma 1), .inl (cI, 40, .inl fK)), ((ma 2), .inl (cI, 40, .inl fP)), ((ma 4), .inl (cI, 40, .inl fO)), ((ma 5), .inl (cI, 40, .inl fG)), ((ma 6), .inl (cI, 40, .inl fSz)), ((ma 7), .inl (cI, 40, .inl fSd)), ((ma 8), .inl (cB, 1200, .inl fN)), ((ma 9), .inl (cI, 40, .inl fNS)), ((ma 10), .inl (cB, 8000, .inl fT)), ((ma 11), .inl (cI, 40, .inl fTS)), ((ma 3), .inl (cI, 40, .inl fM))]) (w1 := [(h0, .inr (11, MO ma 0 sv_length sv_nodes sv_many sv_directories sv_runsFrom sv_runs sv_read sv_wrong sv_isNamed sv_goes sv_goesSize sv_goesAt sv_targetParts sv_isRoot)), ((ma 0), .inl (cB, 400, .inl fX))]) hP hD [0, 1] [2, 3, 4, 5, 6, 7, 8, 9, 10, 11, 12] rfl rfl (by decide) (by decide) hk1 hFc hP1 hD1
                clear hPc hDc hFc hP1 hD1 hk1 hz1
                generalize H1 = H at hP hS ⊢
                have hP : va_P D CL [((ma 1), .inl (cI, 40, .inl fK)), ((ma 2), .inl (cI, 40, .inl fP)), ((ma 4), .inl (cI, 40, .inl fO)), ((ma 5), .inl (cI, 40, .inl fG)), ((ma 6), .inl (cI, 40, .inl fSz)), ((ma 7), .inl (cI, 40, .inl fSd)), ((ma 8), .inl (cB, 1200, .inl fN)), ((ma 9), .inl (cI, 40, .inl fNS)), ((ma 10), .inl (cB, 8000, .inl fT)), ((ma 11), .inl (cI, 40, .inl fTS)), ((ma 3), .inl (cI, 40, .inl fM)), (h0, .inr (11, MO ma 0 sv_length sv_nodes sv_many sv_directories sv_runsFrom sv_runs sv_read sv_wrong sv_isNamed sv_goes sv_goesSize sv_goesAt sv_targetParts sv_isRoot)), ((ma 0), .inl (cB, 400, .inl fX))] H := hP
                have hD : va_D A [((ma 1), .inl (cI, 40, .inl fK)), ((ma 2), .inl (cI, 40, .inl fP)), ((ma 4), .inl (cI, 40, .inl fO)), ((ma 5), .inl (cI, 40, .inl fG)), ((ma 6), .inl (cI, 40, .inl fSz)), ((ma 7), .inl (cI, 40, .inl fSd)), ((ma 8), .inl (cB, 1200, .inl fN)), ((ma 9), .inl (cI, 40, .inl fNS)), ((ma 10), .inl (cB, 8000, .inl fT)), ((ma 11), .inl (cI, 40, .inl fTS)), ((ma 3), .inl (cI, 40, .inl fM)), (h0, .inr (11, MO ma 0 sv_length sv_nodes sv_many sv_directories sv_runsFrom sv_runs sv_read sv_wrong sv_isNamed sv_goes sv_goesSize sv_goesAt sv_targetParts sv_isRoot)), ((ma 0), .inl (cB, 400, .inl fX))] := hD
                refine lv_sipush (v := 245) hx hb d_DiscMakerModel_link_131 (by decide) ?_
                refine lv_icmp_gt (tgt := 141) hx hb d_DiscMakerModel_link_134 (by decide) (fun h_9 => ?_) (fun h_9 => ?_)
                · skip
                  have g134_54 : 245 < r20.toInt := (i_lt (by decide) rfl).mp h_9
                  refine lv_iconst (v := 0) hx hb d_DiscMakerModel_link_141 (by decide) ?_
                  have hP := hP.sub (ws' := [(h0, .inr (11, MO ma 0 sv_length sv_nodes sv_many sv_directories sv_runsFrom sv_runs sv_read sv_wrong sv_isNamed sv_goes sv_goesSize sv_goesAt sv_targetParts sv_isRoot)), ((ma 0), .inl (cB, 400, .inl fX)), ((ma 1), .inl (cI, 40, .inl fK)), ((ma 2), .inl (cI, 40, .inl fP)), ((ma 4), .inl (cI, 40, .inl fO)), ((ma 5), .inl (cI, 40, .inl fG)), ((ma 6), .inl (cI, 40, .inl fSz)), ((ma 7), .inl (cI, 40, .inl fSd)), ((ma 8), .inl (cB, 1200, .inl fN)), ((ma 9), .inl (cI, 40, .inl fNS)), ((ma 10), .inl (cB, 8000, .inl fT)), ((ma 11), .inl (cI, 40, .inl fTS)), ((ma 3), .inl (cI, 40, .inl fM))]) [11, 12, 0, 1, 2, 3, 4, 5, 6, 7, 8, 9, 10] rfl
                  have hD := hD.sub (ws' := [(h0, .inr (11, MO ma 0 sv_length sv_nodes sv_many sv_directories sv_runsFrom sv_runs sv_read sv_wrong sv_isNamed sv_goes sv_goesSize sv_goesAt sv_targetParts sv_isRoot)), ((ma 0), .inl (cB, 400, .inl fX)), ((ma 1), .inl (cI, 40, .inl fK)), ((ma 2), .inl (cI, 40, .inl fP)), ((ma 4), .inl (cI, 40, .inl fO)), ((ma 5), .inl (cI, 40, .inl fG)), ((ma 6), .inl (cI, 40, .inl fSz)), ((ma 7), .inl (cI, 40, .inl fSd)), ((ma 8), .inl (cB, 1200, .inl fN)), ((ma 9), .inl (cI, 40, .inl fNS)), ((ma 10), .inl (cB, 8000, .inl fT)), ((ma 11), .inl (cI, 40, .inl fTS)), ((ma 3), .inl (cI, 40, .inl fM))]) [11, 12, 0, 1, 2, 3, 4, 5, 6, 7, 8, 9, 10] (by decide) rfl
                  have hl := lv_sub hl [0, 1, 2, 3, 4, 5] rfl
                  exact kk142 _ _ _ _ _ ⟨0, rfl, rfl, (by (try dsimp only); first | omega | assumption | trivial), (by (try dsimp only); first | omega | assumption | trivial), hP, hD, hS, hl⟩
                · skip
                  have g134_54 : ¬ 245 < r20.toInt := fun h8 => h_9 ((i_lt (by decide) rfl).mpr h8)
                  refine lv_iconst (v := 1) hx hb d_DiscMakerModel_link_137 (by decide) ?_
                  refine lv_goto (tgt := 142) hx hb d_DiscMakerModel_link_138 (by decide) ?_
                  have hP := hP.sub (ws' := [(h0, .inr (11, MO ma 0 sv_length sv_nodes sv_many sv_directories sv_runsFrom sv_runs sv_read sv_wrong sv_isNamed sv_goes sv_goesSize sv_goesAt sv_targetParts sv_isRoot)), ((ma 0), .inl (cB, 400, .inl fX)), ((ma 1), .inl (cI, 40, .inl fK)), ((ma 2), .inl (cI, 40, .inl fP)), ((ma 4), .inl (cI, 40, .inl fO)), ((ma 5), .inl (cI, 40, .inl fG)), ((ma 6), .inl (cI, 40, .inl fSz)), ((ma 7), .inl (cI, 40, .inl fSd)), ((ma 8), .inl (cB, 1200, .inl fN)), ((ma 9), .inl (cI, 40, .inl fNS)), ((ma 10), .inl (cB, 8000, .inl fT)), ((ma 11), .inl (cI, 40, .inl fTS)), ((ma 3), .inl (cI, 40, .inl fM))]) [11, 12, 0, 1, 2, 3, 4, 5, 6, 7, 8, 9, 10] rfl
                  have hD := hD.sub (ws' := [(h0, .inr (11, MO ma 0 sv_length sv_nodes sv_many sv_directories sv_runsFrom sv_runs sv_read sv_wrong sv_isNamed sv_goes sv_goesSize sv_goesAt sv_targetParts sv_isRoot)), ((ma 0), .inl (cB, 400, .inl fX)), ((ma 1), .inl (cI, 40, .inl fK)), ((ma 2), .inl (cI, 40, .inl fP)), ((ma 4), .inl (cI, 40, .inl fO)), ((ma 5), .inl (cI, 40, .inl fG)), ((ma 6), .inl (cI, 40, .inl fSz)), ((ma 7), .inl (cI, 40, .inl fSd)), ((ma 8), .inl (cB, 1200, .inl fN)), ((ma 9), .inl (cI, 40, .inl fNS)), ((ma 10), .inl (cB, 8000, .inl fT)), ((ma 11), .inl (cI, 40, .inl fTS)), ((ma 3), .inl (cI, 40, .inl fM))]) [11, 12, 0, 1, 2, 3, 4, 5, 6, 7, 8, 9, 10] (by decide) rfl
                  have hl := lv_sub hl [0, 1, 2, 3, 4, 5] rfl
                  exact kk142 _ _ _ _ _ ⟨1, rfl, rfl, (by (try dsimp only); first | omega | assumption | trivial), (by (try dsimp only); first | omega | assumption | trivial), hP, hD, hS, hl⟩
          · skip
            have g69_25 : ¬ sv_length.toInt ≤ kx.toInt := fun h8 => h_9 ((i_le rfl rfl).mpr h8)
            refine lv_iload hx hb d_DiscMakerModel_link_72 (lv_at hl 4 rfl) ?_
            refine lv_if_eq (tgt := 114) hx hb d_DiscMakerModel_link_74 (by decide) (fun h_9 => ?_) (fun h_9 => ?_)
            · skip
              have g74_61 : rh.toInt = 0 := (i_eq rfl (by decide)).mp h_9
              refine lv_aload_n hx hb d_DiscMakerModel_link_114 rfl (lv_at hl 0 rfl) ?_
              refine lv_iload_n hx hb d_DiscMakerModel_link_115 rfl (lv_at hl 1 rfl) ?_
              refine lv_iconst (v := 2) hx hb d_DiscMakerModel_link_116 (by decide) ?_
              refine lv_iload_n hx hb d_DiscMakerModel_link_117 rfl (lv_at hl 2 rfl) ?_
              refine zz_lab (P := fun (lk : Nat) (H : Heap) (locs : List Loc) (ls : Array Slot) (stk : List Value) => ∃ (jf : Int32) , lk = 0 ∧ stk = [.int jf, .int nn, .int 2, .int x, .ref h0] ∧ (0 ≤ jf.toInt ∧ jf.toInt ≤ 1) ∧ (jf.toInt = 0 ∨ (1 ≤ sv_length.toInt - nn.toInt - 1 ∧ sv_length.toInt - nn.toInt - 1 ≤ 200)) ∧ va_P D CL [(h0, .inr (11, MO ma 0 sv_length sv_nodes sv_many sv_directories sv_runsFrom sv_runs sv_read sv_wrong sv_isNamed sv_goes sv_goesSize sv_goesAt sv_targetParts sv_isRoot)), ((ma 0), .inl (cB, 400, .inl fX)), ((ma 1), .inl (cI, 40, .inl fK)), ((ma 2), .inl (cI, 40, .inl fP)), ((ma 4), .inl (cI, 40, .inl fO)), ((ma 5), .inl (cI, 40, .inl fG)), ((ma 6), .inl (cI, 40, .inl fSz)), ((ma 7), .inl (cI, 40, .inl fSd)), ((ma 8), .inl (cB, 1200, .inl fN)), ((ma 9), .inl (cI, 40, .inl fNS)), ((ma 10), .inl (cB, 8000, .inl fT)), ((ma 11), .inl (cI, 40, .inl fTS)), ((ma 3), .inl (cI, 40, .inl fM))] H ∧ va_D A [(h0, .inr (11, MO ma 0 sv_length sv_nodes sv_many sv_directories sv_runsFrom sv_runs sv_read sv_wrong sv_isNamed sv_goes sv_goesSize sv_goesAt sv_targetParts sv_isRoot)), ((ma 0), .inl (cB, 400, .inl fX)), ((ma 1), .inl (cI, 40, .inl fK)), ((ma 2), .inl (cI, 40, .inl fP)), ((ma 4), .inl (cI, 40, .inl fO)), ((ma 5), .inl (cI, 40, .inl fG)), ((ma 6), .inl (cI, 40, .inl fSz)), ((ma 7), .inl (cI, 40, .inl fSd)), ((ma 8), .inl (cB, 1200, .inl fN)), ((ma 9), .inl (cI, 40, .inl fNS)), ((ma 10), .inl (cB, 8000, .inl fT)), ((ma 11), .inl (cI, 40, .inl fTS)), ((ma 3), .inl (cI, 40, .inl fM))] ∧ va_S A s.heap H locs ∧ lv_has ls 6 [(0, .ref h0), (1, .int x), (2, .int nn), (3, .int v2), (4, .int rh), (5, .int kx)]) 142 ?_ ?_
              · skip
                intro lk ih142 H locs ls stk hI
                obtain ⟨jf, hm142, rfl, fj, fk, hP, hD, hS, hl⟩ := hI
                have hPc := hP.sub (ws' := [(h0, .inr (11, MO ma 0 sv_length sv_nodes sv_many sv_directories sv_runsFrom sv_runs sv_read sv_wrong sv_isNamed sv_goes sv_goesSize sv_goesAt sv_targetParts sv_isRoot)), ((ma 0), .inl (cB, 400, .inl fX)), ((ma 1), .inl (cI, 40, .inl fK)), ((ma 2), .inl (cI, 40, .inl fP)), ((ma 4), .inl (cI, 40, .inl fO)), ((ma 5), .inl (cI, 40, .inl fG)), ((ma 6), .inl (cI, 40, .inl fSz)), ((ma 7), .inl (cI, 40, .inl fSd)), ((ma 8), .inl (cB, 1200, .inl fN)), ((ma 9), .inl (cI, 40, .inl fNS)), ((ma 10), .inl (cB, 8000, .inl fT)), ((ma 11), .inl (cI, 40, .inl fTS))]) [0, 1, 2, 3, 4, 5, 6, 7, 8, 9, 10, 11] rfl
                have hDc := hD.sub (ws' := [(h0, .inr (11, MO ma 0 sv_length sv_nodes sv_many sv_directories sv_runsFrom sv_runs sv_read sv_wrong sv_isNamed sv_goes sv_goesSize sv_goesAt sv_targetParts sv_isRoot)), ((ma 0), .inl (cB, 400, .inl fX)), ((ma 1), .inl (cI, 40, .inl fK)), ((ma 2), .inl (cI, 40, .inl fP)), ((ma 4), .inl (cI, 40, .inl fO)), ((ma 5), .inl (cI, 40, .inl fG)), ((ma 6), .inl (cI, 40, .inl fSz)), ((ma 7), .inl (cI, 40, .inl fSd)), ((ma 8), .inl (cB, 1200, .inl fN)), ((ma 9), .inl (cI, 40, .inl fNS)), ((ma 10), .inl (cB, 8000, .inl fT)), ((ma 11), .inl (cI, 40, .inl fTS))]) [0, 1, 2, 3, 4, 5, 6, 7, 8, 9, 10, 11] (by decide) rfl
                have hFc := va_free (wc := [(h0, .inr (11, MO ma 0 sv_length sv_nodes sv_many sv_directories sv_runsFrom sv_runs sv_read sv_wrong sv_isNamed sv_goes sv_goesSize sv_goesAt sv_targetParts sv_isRoot)), ((ma 0), .inl (cB, 400, .inl fX)), ((ma 1), .inl (cI, 40, .inl fK)), ((ma 2), .inl (cI, 40, .inl fP)), ((ma 4), .inl (cI, 40, .inl fO)), ((ma 5), .inl (cI, 40, .inl fG)), ((ma 6), .inl (cI, 40, .inl fSz)), ((ma 7), .inl (cI, 40, .inl fSd)), ((ma 8), .inl (cB, 1200, .inl fN)), ((ma 9), .inl (cI, 40, .inl fNS)), ((ma 10), .inl (cB, 8000, .inl fT)), ((ma 11), .inl (cI, 40, .inl fTS))]) hD hS hA [0, 1, 2, 3, 4, 5, 6, 7, 8, 9, 10, 11] rfl
                have hkc : 0 ≤ 0 := by decide
                have hks : 0 ≤ 0 := by decide
                refine va_calli (va_runV (C := "DiscMakerModel") (As := [.int x, .int 2, .int nn, .int jf]) (rest := []) ⟨hx, hb, hml, hown, hts⟩ (m_add l D cB cI cJ cZ cN cF H.size h0 ma 0 sv_length sv_nodes sv_many sv_directories sv_runsFrom sv_runs sv_read sv_wrong sv_isNamed sv_goes sv_goesSize sv_goesAt sv_targetParts sv_isRoot fX fK fP fO fG fSz fSd fN fNS fT fTS x 2 nn jf (by (try dsimp only); first | omega | assumption | trivial) (by (try dsimp only); first | omega | assumption | trivial) (by (try dsimp only); first | omega | assumption | trivial) (by (try dsimp only); first | omega | assumption | trivial) (by (try dsimp only); first | omega | assumption | trivial)) (cwV 4 hts (lg_goodV k1594 k1596 k52 k125 kc_DiscMakerModel_add) rfl rfl rfl (by decide +kernel) ⟨Nat.le_of_ble_eq_true rfl, Nat.le_of_ble_eq_true rfl⟩) ⟨fun a U g mk q => by obtain ⟨q0, q1, qP, qK, qN, qD⟩ := q; exact ⟨q0, q1, qP, va_K.moved (u := U) (U := U.calling g mk a) (Vm.Alike.refl U.vm) qK, qN.calling, qD⟩, va_recv hK hP (ci := 11) (q0 := 0) rfl rfl, fun U hU hW => ⟨rfl, by rw [hU], by rw [hU]; exact hPc, va_K.moved hW.alike hK, NN.warm hW hN, hDc.weaken (fun _ _ _ _ => trivial)⟩⟩ rfl rfl hl.1 rfl (lv_room (Nat.le_of_ble_eq_true rfl)) d_DiscMakerModel_link_142 ⟨hkc, hks⟩) hS (fun q _ h => hFc q h) hFc (fun r21 u t H1 locs ht hvm hp_r21 hB hz1 hk1 hS => ?_)
                obtain ⟨nd_22, gK_23, gP_24, gO_25, gG_26, gSz_27, gSd_28, gN_29, gNS_30, gT_31, gTS_32⟩ := u
                obtain ⟨hP1, hD1⟩ := hB
                rw [ht] at hP1
                obtain ⟨hP, hD⟩ := va_join (wr := [((ma 3), .inl (cI, 40, .inl fM))]) (w1 := [(h0, .inr (11, MO ma 0 0 nd_22 sv_many sv_directories sv_runsFrom sv_runs sv_read sv_wrong sv_isNamed sv_goes sv_goesSize sv_goesAt sv_targetParts sv_isRoot)), ((ma 0), .inl (cB, 400, .inl fX)), ((ma 1), .inl (cI, 40, .inl gK_23)), ((ma 2), .inl (cI, 40, .inl gP_24)), ((ma 4), .inl (cI, 40, .inl gO_25)), ((ma 5), .inl (cI, 40, .inl gG_26)), ((ma 6), .inl (cI, 40, .inl gSz_27)), ((ma 7), .inl (cI, 40, .inl gSd_28)), ((ma 8), .inl (cB, 1200, .inl gN_29)), ((ma 9), .inl (cI, 40, .inl gNS_30)), ((ma 10), .inl (cB, 8000, .inl gT_31)), ((ma 11), .inl (cI, 40, .inl gTS_32))]) hP hD [0, 1, 2, 3, 4, 5, 6, 7, 8, 9, 10, 11] [12] rfl rfl (by decide) (by decide) hk1 hFc hP1 hD1
                clear hPc hDc hFc hP1 hD1 hk1 hz1
                generalize H1 = H at hP hS ⊢
                have hP : va_P D CL [((ma 3), .inl (cI, 40, .inl fM)), (h0, .inr (11, MO ma 0 0 nd_22 sv_many sv_directories sv_runsFrom sv_runs sv_read sv_wrong sv_isNamed sv_goes sv_goesSize sv_goesAt sv_targetParts sv_isRoot)), ((ma 0), .inl (cB, 400, .inl fX)), ((ma 1), .inl (cI, 40, .inl gK_23)), ((ma 2), .inl (cI, 40, .inl gP_24)), ((ma 4), .inl (cI, 40, .inl gO_25)), ((ma 5), .inl (cI, 40, .inl gG_26)), ((ma 6), .inl (cI, 40, .inl gSz_27)), ((ma 7), .inl (cI, 40, .inl gSd_28)), ((ma 8), .inl (cB, 1200, .inl gN_29)), ((ma 9), .inl (cI, 40, .inl gNS_30)), ((ma 10), .inl (cB, 8000, .inl gT_31)), ((ma 11), .inl (cI, 40, .inl gTS_32))] H := hP
                have hD : va_D A [((ma 3), .inl (cI, 40, .inl fM)), (h0, .inr (11, MO ma 0 0 nd_22 sv_many sv_directories sv_runsFrom sv_runs sv_read sv_wrong sv_isNamed sv_goes sv_goesSize sv_goesAt sv_targetParts sv_isRoot)), ((ma 0), .inl (cB, 400, .inl fX)), ((ma 1), .inl (cI, 40, .inl gK_23)), ((ma 2), .inl (cI, 40, .inl gP_24)), ((ma 4), .inl (cI, 40, .inl gO_25)), ((ma 5), .inl (cI, 40, .inl gG_26)), ((ma 6), .inl (cI, 40, .inl gSz_27)), ((ma 7), .inl (cI, 40, .inl gSd_28)), ((ma 8), .inl (cB, 1200, .inl gN_29)), ((ma 9), .inl (cI, 40, .inl gNS_30)), ((ma 10), .inl (cB, 8000, .inl gT_31)), ((ma 11), .inl (cI, 40, .inl gTS_32))] := hD
                try dsimp only at hp_r21
                obtain ⟨hr_33, hT_34⟩ := hp_r21
                have hn9 := hT_34.n1
                refine lv_istore hx hb d_DiscMakerModel_link_145 hl (by decide) rfl (fun ls hl => ?_)
                have hl : lv_has ls 6 [(5, .int r21), (0, .ref h0), (1, .int x), (2, .int nn), (3, .int v2), (4, .int rh)] := hl
                refine lv_iload hx hb d_DiscMakerModel_link_147 (lv_at hl 0 rfl) ?_
                refine lv_if_lt (tgt := 162) hx hb d_DiscMakerModel_link_149 (by decide) (fun h_9 => ?_) (fun h_9 => ?_)
                · skip
                  have g149_69 : r21.toInt < 0 := (i_lt rfl (by decide)).mp h_9
                  refine lv_iload hx hb d_DiscMakerModel_link_162 (lv_at hl 0 rfl) ?_
                  have hP9 := hP.sub (ws' := [(h0, .inr (11, MO ma 0 0 nd_22 sv_many sv_directories sv_runsFrom sv_runs sv_read sv_wrong sv_isNamed sv_goes sv_goesSize sv_goesAt sv_targetParts sv_isRoot)), ((ma 0), .inl (cB, 400, .inl fX)), ((ma 1), .inl (cI, 40, .inl gK_23)), ((ma 2), .inl (cI, 40, .inl gP_24)), ((ma 4), .inl (cI, 40, .inl gO_25)), ((ma 5), .inl (cI, 40, .inl gG_26)), ((ma 6), .inl (cI, 40, .inl gSz_27)), ((ma 7), .inl (cI, 40, .inl gSd_28)), ((ma 8), .inl (cB, 1200, .inl gN_29)), ((ma 9), .inl (cI, 40, .inl gNS_30)), ((ma 10), .inl (cB, 8000, .inl gT_31)), ((ma 11), .inl (cI, 40, .inl gTS_32)), ((ma 3), .inl (cI, 40, .inl fM))]) [1, 2, 3, 4, 5, 6, 7, 8, 9, 10, 11, 12, 0] rfl
                  have hD9 := hD.sub (ws' := [(h0, .inr (11, MO ma 0 0 nd_22 sv_many sv_directories sv_runsFrom sv_runs sv_read sv_wrong sv_isNamed sv_goes sv_goesSize sv_goesAt sv_targetParts sv_isRoot)), ((ma 0), .inl (cB, 400, .inl fX)), ((ma 1), .inl (cI, 40, .inl gK_23)), ((ma 2), .inl (cI, 40, .inl gP_24)), ((ma 4), .inl (cI, 40, .inl gO_25)), ((ma 5), .inl (cI, 40, .inl gG_26)), ((ma 6), .inl (cI, 40, .inl gSz_27)), ((ma 7), .inl (cI, 40, .inl gSd_28)), ((ma 8), .inl (cB, 1200, .inl gN_29)), ((ma 9), .inl (cI, 40, .inl gNS_30)), ((ma 10), .inl (cB, 8000, .inl gT_31)), ((ma 11), .inl (cI, 40, .inl gTS_32)), ((ma 3), .inl (cI, 40, .inl fM))]) [1, 2, 3, 4, 5, 6, 7, 8, 9, 10, 11, 12, 0] (by decide) rfl
                  exact W.iret (v := r21) hx hb hr (fun t ht hW => ⟨⟨r21, (0, nd_22, gK_23, gP_24, gO_25, gG_26, gSz_27, gSd_28, gN_29, gNS_30, gT_31, gTS_32, fM), rfl, hT_34, by rw [ht]; exact hP9, hD9⟩, hS.F ht⟩) hS.2.2 d_DiscMakerModel_link_164
                · skip
                  have g149_69 : ¬ r21.toInt < 0 := fun h8 => h_9 ((i_lt rfl (by decide)).mpr h8)
                  refine lv_aload_n hx hb d_DiscMakerModel_link_152 rfl (lv_at hl 1 rfl) ?_
                  refine va_get (D := D) (ci := 11) (v := .ref (ma 3)) (C := "DiscMakerModel") (T := F_DiscMakerModel) (N := 48) hx hb ht9 in_DiscMakerModel hown hK hP 1 rfl rfl 6 (by decide) (ht9 _ k1437) (fun _ h9 => h9) rfl d_DiscMakerModel_link_153 ?_
                  refine lv_iload hx hb d_DiscMakerModel_link_156 (lv_at hl 0 rfl) ?_
                  refine lv_sipush (v := 511) hx hb d_DiscMakerModel_link_158 (by decide) ?_
                  refine zq_iast hx hb hK hP hD hS 0 1 rfl rfl (vp_in_iff.mpr ⟨by omega, by omega⟩) d_DiscMakerModel_link_161 (fun f35 e_f35 H locs hP hD hS => ?_)
                  have hP : va_P D CL [((ma 3), .inl (cI, 40, .inl f35)), (h0, .inr (11, MO ma 0 0 nd_22 sv_many sv_directories sv_runsFrom sv_runs sv_read sv_wrong sv_isNamed sv_goes sv_goesSize sv_goesAt sv_targetParts sv_isRoot)), ((ma 0), .inl (cB, 400, .inl fX)), ((ma 1), .inl (cI, 40, .inl gK_23)), ((ma 2), .inl (cI, 40, .inl gP_24)), ((ma 4), .inl (cI, 40, .inl gO_25)), ((ma 5), .inl (cI, 40, .inl gG_26)), ((ma 6), .inl (cI, 40, .inl gSz_27)), ((ma 7), .inl (cI, 40, .inl gSd_28)), ((ma 8), .inl (cB, 1200, .inl gN_29)), ((ma 9), .inl (cI, 40, .inl gNS_30)), ((ma 10), .inl (cB, 8000, .inl gT_31)), ((ma 11), .inl (cI, 40, .inl gTS_32))] H := hP
                  have hD : va_D A [((ma 3), .inl (cI, 40, .inl f35)), (h0, .inr (11, MO ma 0 0 nd_22 sv_many sv_directories sv_runsFrom sv_runs sv_read sv_wrong sv_isNamed sv_goes sv_goesSize sv_goesAt sv_targetParts sv_isRoot)), ((ma 0), .inl (cB, 400, .inl fX)), ((ma 1), .inl (cI, 40, .inl gK_23)), ((ma 2), .inl (cI, 40, .inl gP_24)), ((ma 4), .inl (cI, 40, .inl gO_25)), ((ma 5), .inl (cI, 40, .inl gG_26)), ((ma 6), .inl (cI, 40, .inl gSz_27)), ((ma 7), .inl (cI, 40, .inl gSd_28)), ((ma 8), .inl (cB, 1200, .inl gN_29)), ((ma 9), .inl (cI, 40, .inl gNS_30)), ((ma 10), .inl (cB, 8000, .inl gT_31)), ((ma 11), .inl (cI, 40, .inl gTS_32))] := hD
                  have s_f35 : f35 r21.toNatClampNeg = 511 := by rw [e_f35]; unfold upd; rw [if_pos rfl]
                  refine lv_iload hx hb d_DiscMakerModel_link_162 (lv_at hl 0 rfl) ?_
                  have hP9 := hP.sub (ws' := [(h0, .inr (11, MO ma 0 0 nd_22 sv_many sv_directories sv_runsFrom sv_runs sv_read sv_wrong sv_isNamed sv_goes sv_goesSize sv_goesAt sv_targetParts sv_isRoot)), ((ma 0), .inl (cB, 400, .inl fX)), ((ma 1), .inl (cI, 40, .inl gK_23)), ((ma 2), .inl (cI, 40, .inl gP_24)), ((ma 4), .inl (cI, 40, .inl gO_25)), ((ma 5), .inl (cI, 40, .inl gG_26)), ((ma 6), .inl (cI, 40, .inl gSz_27)), ((ma 7), .inl (cI, 40, .inl gSd_28)), ((ma 8), .inl (cB, 1200, .inl gN_29)), ((ma 9), .inl (cI, 40, .inl gNS_30)), ((ma 10), .inl (cB, 8000, .inl gT_31)), ((ma 11), .inl (cI, 40, .inl gTS_32)), ((ma 3), .inl (cI, 40, .inl f35))]) [1, 2, 3, 4, 5, 6, 7, 8, 9, 10, 11, 12, 0] rfl
                  have hD9 := hD.sub (ws' := [(h0, .inr (11, MO ma 0 0 nd_22 sv_many sv_directories sv_runsFrom sv_runs sv_read sv_wrong sv_isNamed sv_goes sv_goesSize sv_goesAt sv_targetParts sv_isRoot)), ((ma 0), .inl (cB, 400, .inl fX)), ((ma 1), .inl (cI, 40, .inl gK_23)), ((ma 2), .inl (cI, 40, .inl gP_24)), ((ma 4), .inl (cI, 40, .inl gO_25)), ((ma 5), .inl (cI, 40, .inl gG_26)), ((ma 6), .inl (cI, 40, .inl gSz_27)), ((ma 7), .inl (cI, 40, .inl gSd_28)), ((ma 8), .inl (cB, 1200, .inl gN_29)), ((ma 9), .inl (cI, 40, .inl gNS_30)), ((ma 10), .inl (cB, 8000, .inl gT_31)), ((ma 11), .inl (cI, 40, .inl gTS_32)), ((ma 3), .inl (cI, 40, .inl f35))]) [1, 2, 3, 4, 5, 6, 7, 8, 9, 10, 11, 12, 0] (by decide) rfl
                  exact W.iret (v := r21) hx hb hr (fun t ht hW => ⟨⟨r21, (0, nd_22, gK_23, gP_24, gO_25, gG_26, gSz_27, gSd_28, gN_29, gNS_30, gT_31, gTS_32, f35), rfl, hT_34, by rw [ht]; exact hP9, hD9⟩, hS.F ht⟩) hS.2.2 d_DiscMakerModel_link_164
              · skip
                intro kk142
                refine lv_iload hx hb d_DiscMakerModel_link_118 (lv_at hl 4 rfl) ?_
                refine lv_if_eq (tgt := 141) hx hb d_DiscMakerModel_link_120 (by decide) (fun h_9 => ?_) (fun h_9 => ?_)
                · skip
                  have g120_80 : rh.toInt = 0 := (i_eq rfl (by decide)).mp h_9
                  refine lv_iconst (v := 0) hx hb d_DiscMakerModel_link_141 (by decide) ?_
                  have hP := hP.sub (ws' := [(h0, .inr (11, MO ma 0 sv_length sv_nodes sv_many sv_directories sv_runsFrom sv_runs sv_read sv_wrong sv_isNamed sv_goes sv_goesSize sv_goesAt sv_targetParts sv_isRoot)), ((ma 0), .inl (cB, 400, .inl fX)), ((ma 1), .inl (cI, 40, .inl fK)), ((ma 2), .inl (cI, 40, .inl fP)), ((ma 4), .inl (cI, 40, .inl fO)), ((ma 5), .inl (cI, 40, .inl fG)), ((ma 6), .inl (cI, 40, .inl fSz)), ((ma 7), .inl (cI, 40, .inl fSd)), ((ma 8), .inl (cB, 1200, .inl fN)), ((ma 9), .inl (cI, 40, .inl fNS)), ((ma 10), .inl (cB, 8000, .inl fT)), ((ma 11), .inl (cI, 40, .inl fTS)), ((ma 3), .inl (cI, 40, .inl fM))]) [0, 1, 2, 3, 4, 5, 6, 7, 8, 9, 10, 11, 12] rfl
                  have hD := hD.sub (ws' := [(h0, .inr (11, MO ma 0 sv_length sv_nodes sv_many sv_directories sv_runsFrom sv_runs sv_read sv_wrong sv_isNamed sv_goes sv_goesSize sv_goesAt sv_targetParts sv_isRoot)), ((ma 0), .inl (cB, 400, .inl fX)), ((ma 1), .inl (cI, 40, .inl fK)), ((ma 2), .inl (cI, 40, .inl fP)), ((ma 4), .inl (cI, 40, .inl fO)), ((ma 5), .inl (cI, 40, .inl fG)), ((ma 6), .inl (cI, 40, .inl fSz)), ((ma 7), .inl (cI, 40, .inl fSd)), ((ma 8), .inl (cB, 1200, .inl fN)), ((ma 9), .inl (cI, 40, .inl fNS)), ((ma 10), .inl (cB, 8000, .inl fT)), ((ma 11), .inl (cI, 40, .inl fTS)), ((ma 3), .inl (cI, 40, .inl fM))]) [0, 1, 2, 3, 4, 5, 6, 7, 8, 9, 10, 11, 12] (by decide) rfl
                  have hl := lv_sub hl [0, 1, 2, 3, 4, 5] rfl
                  exact kk142 _ _ _ _ _ ⟨0, rfl, rfl, (by (try dsimp only); first | omega | assumption | trivial), (by (try dsimp only); first | omega | assumption | trivial), hP, hD, hS, hl⟩
                · skip
                  have g120_80 : ¬ rh.toInt = 0 := fun h8 => h_9 ((i_eq rfl (by decide)).mpr h8)
                  refine lv_aload_n hx hb d_DiscMakerModel_link_123 rfl (lv_at hl 0 rfl) ?_
                  refine lv_iload_n hx hb d_DiscMakerModel_link_124 rfl (lv_at hl 3 rfl) ?_
                  refine lv_iload_n hx hb d_DiscMakerModel_link_125 rfl (lv_at hl 2 rfl) ?_
                  refine lv_iconst (v := 1) hx hb d_DiscMakerModel_link_126 (by decide) ?_
                  refine lv_iadd hx hb d_DiscMakerModel_link_127 ?_
                  refine lv_topi (fun v36 e_v36 => ?_)
                  have t_v36 : v36.toInt = nn.toInt + 1 := by rw [e_v36]; exact i_add rfl (by decide) (by omega) (by omega)
                  have hPc := hP.sub (ws' := [(h0, .inr (11, MO ma 0 sv_length sv_nodes sv_many sv_directories sv_runsFrom sv_runs sv_read sv_wrong sv_isNamed sv_goes sv_goesSize sv_goesAt sv_targetParts sv_isRoot)), ((ma 0), .inl (cB, 400, .inl fX))]) [0, 1] rfl
                  have hDc := hD.sub (ws' := [(h0, .inr (11, MO ma 0 sv_length sv_nodes sv_many sv_directories sv_runsFrom sv_runs sv_read sv_wrong sv_isNamed sv_goes sv_goesSize sv_goesAt sv_targetParts sv_isRoot)), ((ma 0), .inl (cB, 400, .inl fX))]) [0, 1] (by decide) rfl
                  have hFc := va_free (wc := [(h0, .inr (11, MO ma 0 sv_length sv_nodes sv_many sv_directories sv_runsFrom sv_runs sv_read sv_wrong sv_isNamed sv_goes sv_goesSize sv_goesAt sv_targetParts sv_isRoot)), ((ma 0), .inl (cB, 400, .inl fX))]) hD hS hA [0, 1] rfl
                  have hkc : 0 ≤ 0 := by decide
                  have hks : 0 ≤ 0 := by decide
                  refine va_calli (va_runV (C := "DiscMakerModel") (As := [.int v2, .int v36]) (rest := [.int nn, .int 2, .int x, .ref h0]) ⟨hx, hb, hml, hown, hts⟩ (m_componentsOf l D cB cI cJ cZ cN cF H.size h0 ma 0 sv_length sv_nodes sv_many sv_directories sv_runsFrom sv_runs sv_read sv_wrong sv_isNamed sv_goes sv_goesSize sv_goesAt sv_targetParts sv_isRoot fX v2 v36 (by (try dsimp only); first | omega | assumption | trivial) (by (try dsimp only); first | omega | assumption | trivial)) (cwV 2 hts (lg_goodV k1636 k1638 k59 k125 kc_DiscMakerModel_componentsOf) rfl rfl rfl (by decide +kernel) ⟨Nat.le_of_ble_eq_true rfl, Nat.le_of_ble_eq_true rfl⟩) ⟨fun a U g mk q => by obtain ⟨q0, q1, qP, qK, qN, qD⟩ := q; exact ⟨q0, q1, qP, va_K.moved (u := U) (U := U.calling g mk a) (Vm.Alike.refl U.vm) qK, qN.calling, qD⟩, va_recv hK hP (ci := 11) (q0 := 0) rfl rfl, fun U hU hW => ⟨rfl, by rw [hU], by rw [hU]; exact hPc, va_K.moved hW.alike hK, NN.warm hW hN, hDc.weaken (fun _ _ _ _ => trivial)⟩⟩ rfl rfl hl.1 rfl (lv_room (Nat.le_of_ble_eq_true rfl)) d_DiscMakerModel_link_128 ⟨hkc, hks⟩) hS (fun q _ h => hFc q h) hFc (fun r37 u t H1 locs ht hvm hp_r37 hB hz1 hk1 hS => ?_)
                  obtain ⟨hP1, hD1⟩ := hB
                  rw [ht] at hP1
                  obtain ⟨hP, hD⟩ := va_join (wr := [((ma 1), .inl (cI, 40, .inl fK)), ((ma 2), .inl (cI, 40, .inl fP)), ((ma 4), .inl (cI, 40, .inl fO)), ((ma 5), .inl (cI, 40, .inl fG)), ((ma 6), .inl (cI, 40, .inl fSz)), ((ma 7), .inl (cI, 40, .inl fSd)), ((ma 8), .inl (cB, 1200, .inl fN)), ((ma 9), .inl (cI, 40, .inl fNS)), ((ma 10), .inl (cB, 8000, .inl fT)), ((ma 11), .inl (cI, 40, .inl fTS)), ((ma 3), .inl (cI, 40, .inl fM))]) (w1 := [(h0, .inr (11, MO ma 0 sv_length sv_nodes sv_many sv_directories sv_runsFrom sv_runs sv_read sv_wrong sv_isNamed sv_goes sv_goesSize sv_goesAt sv_targetParts sv_isRoot)), ((ma 0), .inl (cB, 400, .inl fX))]) hP hD [0, 1] [2, 3, 4, 5, 6, 7, 8, 9, 10, 11, 12] rfl rfl (by decide) (by decide) hk1 hFc hP1 hD1
                  clear hPc hDc hFc hP1 hD1 hk1 hz1
                  generalize H1 = H at hP hS ⊢
                  have hP : va_P D CL [((ma 1), .inl (cI, 40, .inl fK)), ((ma 2), .inl (cI, 40, .inl fP)), ((ma 4), .inl (cI, 40, .inl fO)), ((ma 5), .inl (cI, 40, .inl fG)), ((ma 6), .inl (cI, 40, .inl fSz)), ((ma 7), .inl (cI, 40, .inl fSd)), ((ma 8), .inl (cB, 1200, .inl fN)), ((ma 9), .inl (cI, 40, .inl fNS)), ((ma 10), .inl (cB, 8000, .inl fT)), ((ma 11), .inl (cI, 40, .inl fTS)), ((ma 3), .inl (cI, 40, .inl fM)), (h0, .inr (11, MO ma 0 sv_length sv_nodes sv_many sv_directories sv_runsFrom sv_runs sv_read sv_wrong sv_isNamed sv_goes sv_goesSize sv_goesAt sv_targetParts sv_isRoot)), ((ma 0), .inl (cB, 400, .inl fX))] H := hP
                  have hD : va_D A [((ma 1), .inl (cI, 40, .inl fK)), ((ma 2), .inl (cI, 40, .inl fP)), ((ma 4), .inl (cI, 40, .inl fO)), ((ma 5), .inl (cI, 40, .inl fG)), ((ma 6), .inl (cI, 40, .inl fSz)), ((ma 7), .inl (cI, 40, .inl fSd)), ((ma 8), .inl (cB, 1200, .inl fN)), ((ma 9), .inl (cI, 40, .inl fNS)), ((ma 10), .inl (cB, 8000, .inl fT)), ((ma 11), .inl (cI, 40, .inl fTS)), ((ma 3), .inl (cI, 40, .inl fM)), (h0, .inr (11, MO ma 0 sv_length sv_nodes sv_many sv_directories sv_runsFrom sv_runs sv_read sv_wrong sv_isNamed sv_goes sv_goesSize sv_goesAt sv_targetParts sv_isRoot)), ((ma 0), .inl (cB, 400, .inl fX))] := hD
                  refine lv_sipush (v := 245) hx hb d_DiscMakerModel_link_131 (by decide) ?_
                  refine lv_icmp_gt (tgt := 141) hx hb d_DiscMakerModel_link_134 (by decide) (fun h_9 => ?_) (fun h_9 => ?_)
                  · skip
                    have g134_90 : 245 < r37.toInt := (i_lt (by decide) rfl).mp h_9
                    refine lv_iconst (v := 0) hx hb d_DiscMakerModel_link_141 (by decide) ?_
                    have hP := hP.sub (ws' := [(h0, .inr (11, MO ma 0 sv_length sv_nodes sv_many sv_directories sv_runsFrom sv_runs sv_read sv_wrong sv_isNamed sv_goes sv_goesSize sv_goesAt sv_targetParts sv_isRoot)), ((ma 0), .inl (cB, 400, .inl fX)), ((ma 1), .inl (cI, 40, .inl fK)), ((ma 2), .inl (cI, 40, .inl fP)), ((ma 4), .inl (cI, 40, .inl fO)), ((ma 5), .inl (cI, 40, .inl fG)), ((ma 6), .inl (cI, 40, .inl fSz)), ((ma 7), .inl (cI, 40, .inl fSd)), ((ma 8), .inl (cB, 1200, .inl fN)), ((ma 9), .inl (cI, 40, .inl fNS)), ((ma 10), .inl (cB, 8000, .inl fT)), ((ma 11), .inl (cI, 40, .inl fTS)), ((ma 3), .inl (cI, 40, .inl fM))]) [11, 12, 0, 1, 2, 3, 4, 5, 6, 7, 8, 9, 10] rfl
                    have hD := hD.sub (ws' := [(h0, .inr (11, MO ma 0 sv_length sv_nodes sv_many sv_directories sv_runsFrom sv_runs sv_read sv_wrong sv_isNamed sv_goes sv_goesSize sv_goesAt sv_targetParts sv_isRoot)), ((ma 0), .inl (cB, 400, .inl fX)), ((ma 1), .inl (cI, 40, .inl fK)), ((ma 2), .inl (cI, 40, .inl fP)), ((ma 4), .inl (cI, 40, .inl fO)), ((ma 5), .inl (cI, 40, .inl fG)), ((ma 6), .inl (cI, 40, .inl fSz)), ((ma 7), .inl (cI, 40, .inl fSd)), ((ma 8), .inl (cB, 1200, .inl fN)), ((ma 9), .inl (cI, 40, .inl fNS)), ((ma 10), .inl (cB, 8000, .inl fT)), ((ma 11), .inl (cI, 40, .inl fTS)), ((ma 3), .inl (cI, 40, .inl fM))]) [11, 12, 0, 1, 2, 3, 4, 5, 6, 7, 8, 9, 10] (by decide) rfl
                    have hl := lv_sub hl [0, 1, 2, 3, 4, 5] rfl
                    exact kk142 _ _ _ _ _ ⟨0, rfl, rfl, (by (try dsimp only); first | omega | assumption | trivial), (by (try dsimp only); first | omega | assumption | trivial), hP, hD, hS, hl⟩
                  · skip
                    have g134_90 : ¬ 245 < r37.toInt := fun h8 => h_9 ((i_lt (by decide) rfl).mpr h8)
                    refine lv_iconst (v := 1) hx hb d_DiscMakerModel_link_137 (by decide) ?_
                    refine lv_goto (tgt := 142) hx hb d_DiscMakerModel_link_138 (by decide) ?_
                    have hP := hP.sub (ws' := [(h0, .inr (11, MO ma 0 sv_length sv_nodes sv_many sv_directories sv_runsFrom sv_runs sv_read sv_wrong sv_isNamed sv_goes sv_goesSize sv_goesAt sv_targetParts sv_isRoot)), ((ma 0), .inl (cB, 400, .inl fX)), ((ma 1), .inl (cI, 40, .inl fK)), ((ma 2), .inl (cI, 40, .inl fP)), ((ma 4), .inl (cI, 40, .inl fO)), ((ma 5), .inl (cI, 40, .inl fG)), ((ma 6), .inl (cI, 40, .inl fSz)), ((ma 7), .inl (cI, 40, .inl fSd)), ((ma 8), .inl (cB, 1200, .inl fN)), ((ma 9), .inl (cI, 40, .inl fNS)), ((ma 10), .inl (cB, 8000, .inl fT)), ((ma 11), .inl (cI, 40, .inl fTS)), ((ma 3), .inl (cI, 40, .inl fM))]) [11, 12, 0, 1, 2, 3, 4, 5, 6, 7, 8, 9, 10] rfl
                    have hD := hD.sub (ws' := [(h0, .inr (11, MO ma 0 sv_length sv_nodes sv_many sv_directories sv_runsFrom sv_runs sv_read sv_wrong sv_isNamed sv_goes sv_goesSize sv_goesAt sv_targetParts sv_isRoot)), ((ma 0), .inl (cB, 400, .inl fX)), ((ma 1), .inl (cI, 40, .inl fK)), ((ma 2), .inl (cI, 40, .inl fP)), ((ma 4), .inl (cI, 40, .inl fO)), ((ma 5), .inl (cI, 40, .inl fG)), ((ma 6), .inl (cI, 40, .inl fSz)), ((ma 7), .inl (cI, 40, .inl fSd)), ((ma 8), .inl (cB, 1200, .inl fN)), ((ma 9), .inl (cI, 40, .inl fNS)), ((ma 10), .inl (cB, 8000, .inl fT)), ((ma 11), .inl (cI, 40, .inl fTS)), ((ma 3), .inl (cI, 40, .inl fM))]) [11, 12, 0, 1, 2, 3, 4, 5, 6, 7, 8, 9, 10] (by decide) rfl
                    have hl := lv_sub hl [0, 1, 2, 3, 4, 5] rfl
                    exact kk142 _ _ _ _ _ ⟨1, rfl, rfl, (by (try dsimp only); first | omega | assumption | trivial), (by (try dsimp only); first | omega | assumption | trivial), hP, hD, hS, hl⟩
            · skip
              have g74_61 : ¬ rh.toInt = 0 := fun h8 => h_9 ((i_eq rfl (by decide)).mpr h8)
              refine lv_aload_n hx hb d_DiscMakerModel_link_77 rfl (lv_at hl 0 rfl) ?_
              refine va_get (D := D) (ci := 11) (v := .ref (ma 0)) (C := "DiscMakerModel") (T := F_DiscMakerModel) (N := 48) hx hb ht9 in_DiscMakerModel hown hK hP 0 rfl rfl 1 (by decide) (ht9 _ k1432) (fun _ h9 => h9) rfl d_DiscMakerModel_link_78 ?_
              refine lv_iload hx hb d_DiscMakerModel_link_81 (lv_at hl 5 rfl) ?_
              refine va_bald hx hb hK hP 1 0 rfl rfl (vp_in_iff.mpr ⟨by omega, by omega⟩) d_DiscMakerModel_link_83 ?_
              refine lv_topi (fun v38 e_v38 => ?_)
              refine lv_bipush (v := 33) hx hb d_DiscMakerModel_link_84 (by decide) ?_
              refine lv_icmp_lt (tgt := 105) hx hb d_DiscMakerModel_link_86 (by decide) (fun h_9 => ?_) (fun h_9 => ?_)
              · skip
                have g86_101 : v38.toInt < 33 := (i_lt rfl (by decide)).mp h_9
                refine lv_iconst (v := 0) hx hb d_DiscMakerModel_link_105 (by decide) ?_
                refine lv_istore hx hb d_DiscMakerModel_link_106 hl (by decide) rfl (fun ls hl => ?_)
                have hl : lv_has ls 6 [(4, .int 0), (0, .ref h0), (1, .int x), (2, .int nn), (3, .int v2), (5, .int kx)] := hl
                obtain ⟨v39, e_v39⟩ : ∃ z : Int32, z = kx + 1 := ⟨_, rfl⟩
                refine lv_iinc (v := v39) hx hb d_DiscMakerModel_link_108 hl (k := 5) rfl e_v39.symm (by decide) rfl (fun ls hl => ?_)
                have t_v39 : v39.toInt = kx.toInt + 1 := by rw [e_v39]; exact i_add rfl (by decide) (by omega) (by omega)
                have hl : lv_has ls 6 [(5, .int v39), (4, .int 0), (0, .ref h0), (1, .int x), (2, .int nn), (3, .int v2)] := hl
                refine lv_goto (tgt := 63) hx hb d_DiscMakerModel_link_111 (by decide) ?_
                have hP := hP.sub (ws' := [(h0, .inr (11, MO ma 0 sv_length sv_nodes sv_many sv_directories sv_runsFrom sv_runs sv_read sv_wrong sv_isNamed sv_goes sv_goesSize sv_goesAt sv_targetParts sv_isRoot)), ((ma 0), .inl (cB, 400, .inl fX)), ((ma 1), .inl (cI, 40, .inl fK)), ((ma 2), .inl (cI, 40, .inl fP)), ((ma 4), .inl (cI, 40, .inl fO)), ((ma 5), .inl (cI, 40, .inl fG)), ((ma 6), .inl (cI, 40, .inl fSz)), ((ma 7), .inl (cI, 40, .inl fSd)), ((ma 8), .inl (cB, 1200, .inl fN)), ((ma 9), .inl (cI, 40, .inl fNS)), ((ma 10), .inl (cB, 8000, .inl fT)), ((ma 11), .inl (cI, 40, .inl fTS)), ((ma 3), .inl (cI, 40, .inl fM))]) [0, 1, 2, 3, 4, 5, 6, 7, 8, 9, 10, 11, 12] rfl
                have hD := hD.sub (ws' := [(h0, .inr (11, MO ma 0 sv_length sv_nodes sv_many sv_directories sv_runsFrom sv_runs sv_read sv_wrong sv_isNamed sv_goes sv_goesSize sv_goesAt sv_targetParts sv_isRoot)), ((ma 0), .inl (cB, 400, .inl fX)), ((ma 1), .inl (cI, 40, .inl fK)), ((ma 2), .inl (cI, 40, .inl fP)), ((ma 4), .inl (cI, 40, .inl fO)), ((ma 5), .inl (cI, 40, .inl fG)), ((ma 6), .inl (cI, 40, .inl fSz)), ((ma 7), .inl (cI, 40, .inl fSd)), ((ma 8), .inl (cB, 1200, .inl fN)), ((ma 9), .inl (cI, 40, .inl fNS)), ((ma 10), .inl (cB, 8000, .inl fT)), ((ma 11), .inl (cI, 40, .inl fTS)), ((ma 3), .inl (cI, 40, .inl fM))]) [0, 1, 2, 3, 4, 5, 6, 7, 8, 9, 10, 11, 12] (by decide) rfl
                have hl := lv_sub hl [2, 3, 4, 5, 1, 0] rfl
                exact ih63 (_) (by first | omega | (dsimp only; omega)) _ _ _ _ ⟨0, v39, rfl, rfl, (by (try dsimp only); first | omega | assumption | trivial), (by (try dsimp only); first | omega | assumption | trivial), (by (try dsimp only); first | omega | assumption | trivial), hP, hD, hS, hl⟩
              · skip
                have g86_101 : ¬ v38.toInt < 33 := fun h8 => h_9 ((i_lt rfl (by decide)).mpr h8)
                refine lv_aload_n hx hb d_DiscMakerModel_link_89 rfl (lv_at hl 0 rfl) ?_
                refine va_get (D := D) (ci := 11) (v := .ref (ma 0)) (C := "DiscMakerModel") (T := F_DiscMakerModel) (N := 48) hx hb ht9 in_DiscMakerModel hown hK hP 0 rfl rfl 1 (by decide) (ht9 _ k1432) (fun _ h9 => h9) rfl d_DiscMakerModel_link_90 ?_
                refine lv_iload hx hb d_DiscMakerModel_link_93 (lv_at hl 5 rfl) ?_
                refine va_bald hx hb hK hP 1 0 rfl rfl (vp_in_iff.mpr ⟨by omega, by omega⟩) d_DiscMakerModel_link_95 ?_
                refine lv_topi (fun v40 e_v40 => ?_)
                have q_v40 : v40.toInt = v38.toInt := by rw [e_v40, e_v38]
                refine lv_bipush (v := 126) hx hb d_DiscMakerModel_link_96 (by decide) ?_
                refine lv_icmp_gt (tgt := 105) hx hb d_DiscMakerModel_link_98 (by decide) (fun h_9 => ?_) (fun h_9 => ?_)
                · skip
                  have g98_112 : 126 < v40.toInt := (i_lt (by decide) rfl).mp h_9
                  refine lv_iconst (v := 0) hx hb d_DiscMakerModel_link_105 (by decide) ?_
                  refine lv_istore hx hb d_DiscMakerModel_link_106 hl (by decide) rfl (fun ls hl => ?_)
                  have hl : lv_has ls 6 [(4, .int 0), (0, .ref h0), (1, .int x), (2, .int nn), (3, .int v2), (5, .int kx)] := hl
                  obtain ⟨v41, e_v41⟩ : ∃ z : Int32, z = kx + 1 := ⟨_, rfl⟩
                  refine lv_iinc (v := v41) hx hb d_DiscMakerModel_link_108 hl (k := 5) rfl e_v41.symm (by decide) rfl (fun ls hl => ?_)
                  have t_v41 : v41.toInt = kx.toInt + 1 := by rw [e_v41]; exact i_add rfl (by decide) (by omega) (by omega)
                  have hl : lv_has ls 6 [(5, .int v41), (4, .int 0), (0, .ref h0), (1, .int x), (2, .int nn), (3, .int v2)] := hl
                  refine lv_goto (tgt := 63) hx hb d_DiscMakerModel_link_111 (by decide) ?_
                  have hP := hP.sub (ws' := [(h0, .inr (11, MO ma 0 sv_length sv_nodes sv_many sv_directories sv_runsFrom sv_runs sv_read sv_wrong sv_isNamed sv_goes sv_goesSize sv_goesAt sv_targetParts sv_isRoot)), ((ma 0), .inl (cB, 400, .inl fX)), ((ma 1), .inl (cI, 40, .inl fK)), ((ma 2), .inl (cI, 40, .inl fP)), ((ma 4), .inl (cI, 40, .inl fO)), ((ma 5), .inl (cI, 40, .inl fG)), ((ma 6), .inl (cI, 40, .inl fSz)), ((ma 7), .inl (cI, 40, .inl fSd)), ((ma 8), .inl (cB, 1200, .inl fN)), ((ma 9), .inl (cI, 40, .inl fNS)), ((ma 10), .inl (cB, 8000, .inl fT)), ((ma 11), .inl (cI, 40, .inl fTS)), ((ma 3), .inl (cI, 40, .inl fM))]) [0, 1, 2, 3, 4, 5, 6, 7, 8, 9, 10, 11, 12] rfl
                  have hD := hD.sub (ws' := [(h0, .inr (11, MO ma 0 sv_length sv_nodes sv_many sv_directories sv_runsFrom sv_runs sv_read sv_wrong sv_isNamed sv_goes sv_goesSize sv_goesAt sv_targetParts sv_isRoot)), ((ma 0), .inl (cB, 400, .inl fX)), ((ma 1), .inl (cI, 40, .inl fK)), ((ma 2), .inl (cI, 40, .inl fP)), ((ma 4), .inl (cI, 40, .inl fO)), ((ma 5), .inl (cI, 40, .inl fG)), ((ma 6), .inl (cI, 40, .inl fSz)), ((ma 7), .inl (cI, 40, .inl fSd)), ((ma 8), .inl (cB, 1200, .inl fN)), ((ma 9), .inl (cI, 40, .inl fNS)), ((ma 10), .inl (cB, 8000, .inl fT)), ((ma 11), .inl (cI, 40, .inl fTS)), ((ma 3), .inl (cI, 40, .inl fM))]) [0, 1, 2, 3, 4, 5, 6, 7, 8, 9, 10, 11, 12] (by decide) rfl
                  have hl := lv_sub hl [2, 3, 4, 5, 1, 0] rfl
                  exact ih63 (_) (by first | omega | (dsimp only; omega)) _ _ _ _ ⟨0, v41, rfl, rfl, (by (try dsimp only); first | omega | assumption | trivial), (by (try dsimp only); first | omega | assumption | trivial), (by (try dsimp only); first | omega | assumption | trivial), hP, hD, hS, hl⟩
                · skip
                  have g98_112 : ¬ 126 < v40.toInt := fun h8 => h_9 ((i_lt (by decide) rfl).mpr h8)
                  refine lv_iconst (v := 1) hx hb d_DiscMakerModel_link_101 (by decide) ?_
                  refine lv_goto (tgt := 106) hx hb d_DiscMakerModel_link_102 (by decide) ?_
                  refine lv_istore hx hb d_DiscMakerModel_link_106 hl (by decide) rfl (fun ls hl => ?_)
                  have hl : lv_has ls 6 [(4, .int 1), (0, .ref h0), (1, .int x), (2, .int nn), (3, .int v2), (5, .int kx)] := hl
                  obtain ⟨v42, e_v42⟩ : ∃ z : Int32, z = kx + 1 := ⟨_, rfl⟩
                  refine lv_iinc (v := v42) hx hb d_DiscMakerModel_link_108 hl (k := 5) rfl e_v42.symm (by decide) rfl (fun ls hl => ?_)
                  have t_v42 : v42.toInt = kx.toInt + 1 := by rw [e_v42]; exact i_add rfl (by decide) (by omega) (by omega)
                  have hl : lv_has ls 6 [(5, .int v42), (4, .int 1), (0, .ref h0), (1, .int x), (2, .int nn), (3, .int v2)] := hl
                  refine lv_goto (tgt := 63) hx hb d_DiscMakerModel_link_111 (by decide) ?_
                  have hP := hP.sub (ws' := [(h0, .inr (11, MO ma 0 sv_length sv_nodes sv_many sv_directories sv_runsFrom sv_runs sv_read sv_wrong sv_isNamed sv_goes sv_goesSize sv_goesAt sv_targetParts sv_isRoot)), ((ma 0), .inl (cB, 400, .inl fX)), ((ma 1), .inl (cI, 40, .inl fK)), ((ma 2), .inl (cI, 40, .inl fP)), ((ma 4), .inl (cI, 40, .inl fO)), ((ma 5), .inl (cI, 40, .inl fG)), ((ma 6), .inl (cI, 40, .inl fSz)), ((ma 7), .inl (cI, 40, .inl fSd)), ((ma 8), .inl (cB, 1200, .inl fN)), ((ma 9), .inl (cI, 40, .inl fNS)), ((ma 10), .inl (cB, 8000, .inl fT)), ((ma 11), .inl (cI, 40, .inl fTS)), ((ma 3), .inl (cI, 40, .inl fM))]) [0, 1, 2, 3, 4, 5, 6, 7, 8, 9, 10, 11, 12] rfl
                  have hD := hD.sub (ws' := [(h0, .inr (11, MO ma 0 sv_length sv_nodes sv_many sv_directories sv_runsFrom sv_runs sv_read sv_wrong sv_isNamed sv_goes sv_goesSize sv_goesAt sv_targetParts sv_isRoot)), ((ma 0), .inl (cB, 400, .inl fX)), ((ma 1), .inl (cI, 40, .inl fK)), ((ma 2), .inl (cI, 40, .inl fP)), ((ma 4), .inl (cI, 40, .inl fO)), ((ma 5), .inl (cI, 40, .inl fG)), ((ma 6), .inl (cI, 40, .inl fSz)), ((ma 7), .inl (cI, 40, .inl fSd)), ((ma 8), .inl (cB, 1200, .inl fN)), ((ma 9), .inl (cI, 40, .inl fNS)), ((ma 10), .inl (cB, 8000, .inl fT)), ((ma 11), .inl (cI, 40, .inl fTS)), ((ma 3), .inl (cI, 40, .inl fM))]) [0, 1, 2, 3, 4, 5, 6, 7, 8, 9, 10, 11, 12] (by decide) rfl
                  have hl := lv_sub hl [2, 3, 4, 5, 1, 0] rfl
                  exact ih63 (_) (by first | omega | (dsimp only; omega)) _ _ _ _ ⟨1, v42, rfl, rfl, (by (try dsimp only); first | omega | assumption | trivial), (by (try dsimp only); first | omega | assumption | trivial), (by (try dsimp only); first | omega | assumption | trivial), hP, hD, hS, hl⟩
        · skip
          intro kk63
          have hP := hP.sub (ws' := [(h0, .inr (11, MO ma 0 sv_length sv_nodes sv_many sv_directories sv_runsFrom sv_runs sv_read sv_wrong sv_isNamed sv_goes sv_goesSize sv_goesAt sv_targetParts sv_isRoot)), ((ma 0), .inl (cB, 400, .inl fX)), ((ma 1), .inl (cI, 40, .inl fK)), ((ma 2), .inl (cI, 40, .inl fP)), ((ma 4), .inl (cI, 40, .inl fO)), ((ma 5), .inl (cI, 40, .inl fG)), ((ma 6), .inl (cI, 40, .inl fSz)), ((ma 7), .inl (cI, 40, .inl fSd)), ((ma 8), .inl (cB, 1200, .inl fN)), ((ma 9), .inl (cI, 40, .inl fNS)), ((ma 10), .inl (cB, 8000, .inl fT)), ((ma 11), .inl (cI, 40, .inl fTS)), ((ma 3), .inl (cI, 40, .inl fM))]) [0, 1, 2, 3, 4, 5, 6, 7, 8, 9, 10, 11, 12] rfl
          have hD := hD.sub (ws' := [(h0, .inr (11, MO ma 0 sv_length sv_nodes sv_many sv_directories sv_runsFrom sv_runs sv_read sv_wrong sv_isNamed sv_goes sv_goesSize sv_goesAt sv_targetParts sv_isRoot)), ((ma 0), .inl (cB, 400, .inl fX)), ((ma 1), .inl (cI, 40, .inl fK)), ((ma 2), .inl (cI, 40, .inl fP)), ((ma 4), .inl (cI, 40, .inl fO)), ((ma 5), .inl (cI, 40, .inl fG)), ((ma 6), .inl (cI, 40, .inl fSz)), ((ma 7), .inl (cI, 40, .inl fSd)), ((ma 8), .inl (cB, 1200, .inl fN)), ((ma 9), .inl (cI, 40, .inl fNS)), ((ma 10), .inl (cB, 8000, .inl fT)), ((ma 11), .inl (cI, 40, .inl fTS)), ((ma 3), .inl (cI, 40, .inl fM))]) [0, 1, 2, 3, 4, 5, 6, 7, 8, 9, 10, 11, 12] (by decide) rfl
          have hl := lv_sub hl [2, 3, 4, 5, 1, 0] rfl
          exact kk63 _ _ _ _ _ ⟨rg, v3, rfl, rfl, (by (try dsimp only); first | omega | assumption | trivial), (by (try dsimp only); first | omega | assumption | trivial), (by (try dsimp only); first | omega | assumption | trivial), hP, hD, hS, hl⟩
      · skip
        intro kk56
        refine lv_iload_n hx hb d_DiscMakerModel_link_39 rfl (lv_at hl 0 rfl) ?_
        refine lv_iconst (v := 1) hx hb d_DiscMakerModel_link_40 (by decide) ?_
        refine lv_icmp_lt (tgt := 55) hx hb d_DiscMakerModel_link_41 (by decide) (fun h_9 => ?_) (fun h_9 => ?_)
        · skip
          have g41_126 : v2.toInt < 1 := (i_lt rfl (by decide)).mp h_9
          refine lv_iconst (v := 0) hx hb d_DiscMakerModel_link_55 (by decide) ?_
          have hP := hP.sub (ws' := [(h0, .inr (11, MO ma 0 sv_length sv_nodes sv_many sv_directories sv_runsFrom sv_runs sv_read sv_wrong sv_isNamed sv_goes sv_goesSize sv_goesAt sv_targetParts sv_isRoot)), ((ma 0), .inl (cB, 400, .inl fX)), ((ma 1), .inl (cI, 40, .inl fK)), ((ma 2), .inl (cI, 40, .inl fP)), ((ma 4), .inl (cI, 40, .inl fO)), ((ma 5), .inl (cI, 40, .inl fG)), ((ma 6), .inl (cI, 40, .inl fSz)), ((ma 7), .inl (cI, 40, .inl fSd)), ((ma 8), .inl (cB, 1200, .inl fN)), ((ma 9), .inl (cI, 40, .inl fNS)), ((ma 10), .inl (cB, 8000, .inl fT)), ((ma 11), .inl (cI, 40, .inl fTS)), ((ma 3), .inl (cI, 40, .inl fM))]) [0, 1, 2, 3, 4, 5, 6, 7, 8, 9, 10, 11, 12] rfl
          have hD := hD.sub (ws' := [(h0, .inr (11, MO ma 0 sv_length sv_nodes sv_many sv_directories sv_runsFrom sv_runs sv_read sv_wrong sv_isNamed sv_goes sv_goesSize sv_goesAt sv_targetParts sv_isRoot)), ((ma 0), .inl (cB, 400, .inl fX)), ((ma 1), .inl (cI, 40, .inl fK)), ((ma 2), .inl (cI, 40, .inl fP)), ((ma 4), .inl (cI, 40, .inl fO)), ((ma 5), .inl (cI, 40, .inl fG)), ((ma 6), .inl (cI, 40, .inl fSz)), ((ma 7), .inl (cI, 40, .inl fSd)), ((ma 8), .inl (cB, 1200, .inl fN)), ((ma 9), .inl (cI, 40, .inl fNS)), ((ma 10), .inl (cB, 8000, .inl fT)), ((ma 11), .inl (cI, 40, .inl fTS)), ((ma 3), .inl (cI, 40, .inl fM))]) [0, 1, 2, 3, 4, 5, 6, 7, 8, 9, 10, 11, 12] (by decide) rfl
          have hl := lv_sub hl [1, 2, 3, 0] rfl
          exact kk56 _ _ _ _ _ ⟨0, rfl, rfl, (by (try dsimp only); first | omega | assumption | trivial), (by (try dsimp only); first | omega | assumption | trivial), hP, hD, hS, hl⟩
        · skip
          have g41_126 : ¬ v2.toInt < 1 := fun h8 => h_9 ((i_lt rfl (by decide)).mpr h8)
          refine lv_iload_n hx hb d_DiscMakerModel_link_44 rfl (lv_at hl 0 rfl) ?_
          refine lv_sipush (v := 200) hx hb d_DiscMakerModel_link_45 (by decide) ?_
          refine lv_icmp_gt (tgt := 55) hx hb d_DiscMakerModel_link_48 (by decide) (fun h_9 => ?_) (fun h_9 => ?_)
          · skip
            have g48_131 : 200 < v2.toInt := (i_lt (by decide) rfl).mp h_9
            refine lv_iconst (v := 0) hx hb d_DiscMakerModel_link_55 (by decide) ?_
            have hP := hP.sub (ws' := [(h0, .inr (11, MO ma 0 sv_length sv_nodes sv_many sv_directories sv_runsFrom sv_runs sv_read sv_wrong sv_isNamed sv_goes sv_goesSize sv_goesAt sv_targetParts sv_isRoot)), ((ma 0), .inl (cB, 400, .inl fX)), ((ma 1), .inl (cI, 40, .inl fK)), ((ma 2), .inl (cI, 40, .inl fP)), ((ma 4), .inl (cI, 40, .inl fO)), ((ma 5), .inl (cI, 40, .inl fG)), ((ma 6), .inl (cI, 40, .inl fSz)), ((ma 7), .inl (cI, 40, .inl fSd)), ((ma 8), .inl (cB, 1200, .inl fN)), ((ma 9), .inl (cI, 40, .inl fNS)), ((ma 10), .inl (cB, 8000, .inl fT)), ((ma 11), .inl (cI, 40, .inl fTS)), ((ma 3), .inl (cI, 40, .inl fM))]) [0, 1, 2, 3, 4, 5, 6, 7, 8, 9, 10, 11, 12] rfl
            have hD := hD.sub (ws' := [(h0, .inr (11, MO ma 0 sv_length sv_nodes sv_many sv_directories sv_runsFrom sv_runs sv_read sv_wrong sv_isNamed sv_goes sv_goesSize sv_goesAt sv_targetParts sv_isRoot)), ((ma 0), .inl (cB, 400, .inl fX)), ((ma 1), .inl (cI, 40, .inl fK)), ((ma 2), .inl (cI, 40, .inl fP)), ((ma 4), .inl (cI, 40, .inl fO)), ((ma 5), .inl (cI, 40, .inl fG)), ((ma 6), .inl (cI, 40, .inl fSz)), ((ma 7), .inl (cI, 40, .inl fSd)), ((ma 8), .inl (cB, 1200, .inl fN)), ((ma 9), .inl (cI, 40, .inl fNS)), ((ma 10), .inl (cB, 8000, .inl fT)), ((ma 11), .inl (cI, 40, .inl fTS)), ((ma 3), .inl (cI, 40, .inl fM))]) [0, 1, 2, 3, 4, 5, 6, 7, 8, 9, 10, 11, 12] (by decide) rfl
            have hl := lv_sub hl [1, 2, 3, 0] rfl
            exact kk56 _ _ _ _ _ ⟨0, rfl, rfl, (by (try dsimp only); first | omega | assumption | trivial), (by (try dsimp only); first | omega | assumption | trivial), hP, hD, hS, hl⟩
          · skip
            have g48_131 : ¬ 200 < v2.toInt := fun h8 => h_9 ((i_lt (by decide) rfl).mpr h8)
            refine lv_iconst (v := 1) hx hb d_DiscMakerModel_link_51 (by decide) ?_
            refine lv_goto (tgt := 56) hx hb d_DiscMakerModel_link_52 (by decide) ?_
            have hP := hP.sub (ws' := [(h0, .inr (11, MO ma 0 sv_length sv_nodes sv_many sv_directories sv_runsFrom sv_runs sv_read sv_wrong sv_isNamed sv_goes sv_goesSize sv_goesAt sv_targetParts sv_isRoot)), ((ma 0), .inl (cB, 400, .inl fX)), ((ma 1), .inl (cI, 40, .inl fK)), ((ma 2), .inl (cI, 40, .inl fP)), ((ma 4), .inl (cI, 40, .inl fO)), ((ma 5), .inl (cI, 40, .inl fG)), ((ma 6), .inl (cI, 40, .inl fSz)), ((ma 7), .inl (cI, 40, .inl fSd)), ((ma 8), .inl (cB, 1200, .inl fN)), ((ma 9), .inl (cI, 40, .inl fNS)), ((ma 10), .inl (cB, 8000, .inl fT)), ((ma 11), .inl (cI, 40, .inl fTS)), ((ma 3), .inl (cI, 40, .inl fM))]) [0, 1, 2, 3, 4, 5, 6, 7, 8, 9, 10, 11, 12] rfl
            have hD := hD.sub (ws' := [(h0, .inr (11, MO ma 0 sv_length sv_nodes sv_many sv_directories sv_runsFrom sv_runs sv_read sv_wrong sv_isNamed sv_goes sv_goesSize sv_goesAt sv_targetParts sv_isRoot)), ((ma 0), .inl (cB, 400, .inl fX)), ((ma 1), .inl (cI, 40, .inl fK)), ((ma 2), .inl (cI, 40, .inl fP)), ((ma 4), .inl (cI, 40, .inl fO)), ((ma 5), .inl (cI, 40, .inl fG)), ((ma 6), .inl (cI, 40, .inl fSz)), ((ma 7), .inl (cI, 40, .inl fSd)), ((ma 8), .inl (cB, 1200, .inl fN)), ((ma 9), .inl (cI, 40, .inl fNS)), ((ma 10), .inl (cB, 8000, .inl fT)), ((ma 11), .inl (cI, 40, .inl fTS)), ((ma 3), .inl (cI, 40, .inl fM))]) [0, 1, 2, 3, 4, 5, 6, 7, 8, 9, 10, 11, 12] (by decide) rfl
            have hl := lv_sub hl [1, 2, 3, 0] rfl
            exact kk56 _ _ _ _ _ ⟨1, rfl, rfl, (by (try dsimp only); first | omega | assumption | trivial), (by (try dsimp only); first | omega | assumption | trivial), hP, hD, hS, hl⟩
    · skip
      have g12_9 : ¬ sv_length.toInt ≤ nn.toInt := fun h8 => h_9 ((i_le rfl rfl).mpr h8)
      refine lv_aload_n hx hb d_DiscMakerModel_link_15 rfl (lv_at hl 0 rfl) ?_
      refine va_get (D := D) (ci := 11) (v := .ref (ma 0)) (C := "DiscMakerModel") (T := F_DiscMakerModel) (N := 48) hx hb ht9 in_DiscMakerModel hown hK hP 0 rfl rfl 1 (by decide) (ht9 _ k1432) (fun _ h9 => h9) rfl d_DiscMakerModel_link_16 ?_
      refine lv_iload_n hx hb d_DiscMakerModel_link_19 rfl (lv_at hl 2 rfl) ?_
      refine va_bald hx hb hK hP 1 0 rfl rfl (vp_in_iff.mpr ⟨by omega, by omega⟩) d_DiscMakerModel_link_20 ?_
      refine lv_topi (fun v43 e_v43 => ?_)
      refine lv_if_eq (tgt := 30) hx hb d_DiscMakerModel_link_21 (by decide) (fun h_9 => ?_) (fun h_9 => ?_)
      · skip
        have g21_141 : v43.toInt = 0 := (i_eq rfl (by decide)).mp h_9
        refine lv_aload_n hx hb d_DiscMakerModel_link_30 rfl (lv_at hl 0 rfl) ?_
        refine va_get (D := D) (ci := 11) (v := .int sv_length) (C := "DiscMakerModel") (T := F_DiscMakerModel) (N := 48) hx hb ht9 in_DiscMakerModel hown hK hP 0 rfl rfl 2 (by decide) (ht9 _ k1433) (fun _ h9 => h9) rfl d_DiscMakerModel_link_31 ?_
        refine lv_iload_n hx hb d_DiscMakerModel_link_34 rfl (lv_at hl 2 rfl) ?_
        refine lv_isub hx hb d_DiscMakerModel_link_35 ?_
        refine lv_topi (fun v44 e_v44 => ?_)
        have t_v44 : v44.toInt = sv_length.toInt - nn.toInt := by rw [e_v44]; exact i_sub rfl rfl (by omega) (by omega)
        refine lv_iconst (v := 1) hx hb d_DiscMakerModel_link_36 (by decide) ?_
        refine lv_isub hx hb d_DiscMakerModel_link_37 ?_
        refine lv_topi (fun v45 e_v45 => ?_)
        have t_v45 : v45.toInt = v44.toInt - 1 := by rw [e_v45]; exact i_sub rfl (by decide) (by omega) (by omega)
        refine lv_istore_n hx hb d_DiscMakerModel_link_38 rfl hl (by decide) rfl (fun ls hl => ?_)
        have hl : lv_has ls 6 [(3, .int v45), (0, .ref h0), (1, .int x), (2, .int nn)] := hl
        refine zz_lab (P := fun (lk : Nat) (H : Heap) (locs : List Loc) (ls : Array Slot) (stk : List Value) => ∃ (rg : Int32) , lk = 0 ∧ stk = [.int rg] ∧ (0 ≤ rg.toInt ∧ rg.toInt ≤ 1) ∧ (rg.toInt = 0 ∨ (1 ≤ sv_length.toInt - nn.toInt - 1 ∧ sv_length.toInt - nn.toInt - 1 ≤ 200)) ∧ va_P D CL [(h0, .inr (11, MO ma 0 sv_length sv_nodes sv_many sv_directories sv_runsFrom sv_runs sv_read sv_wrong sv_isNamed sv_goes sv_goesSize sv_goesAt sv_targetParts sv_isRoot)), ((ma 0), .inl (cB, 400, .inl fX)), ((ma 1), .inl (cI, 40, .inl fK)), ((ma 2), .inl (cI, 40, .inl fP)), ((ma 4), .inl (cI, 40, .inl fO)), ((ma 5), .inl (cI, 40, .inl fG)), ((ma 6), .inl (cI, 40, .inl fSz)), ((ma 7), .inl (cI, 40, .inl fSd)), ((ma 8), .inl (cB, 1200, .inl fN)), ((ma 9), .inl (cI, 40, .inl fNS)), ((ma 10), .inl (cB, 8000, .inl fT)), ((ma 11), .inl (cI, 40, .inl fTS)), ((ma 3), .inl (cI, 40, .inl fM))] H ∧ va_D A [(h0, .inr (11, MO ma 0 sv_length sv_nodes sv_many sv_directories sv_runsFrom sv_runs sv_read sv_wrong sv_isNamed sv_goes sv_goesSize sv_goesAt sv_targetParts sv_isRoot)), ((ma 0), .inl (cB, 400, .inl fX)), ((ma 1), .inl (cI, 40, .inl fK)), ((ma 2), .inl (cI, 40, .inl fP)), ((ma 4), .inl (cI, 40, .inl fO)), ((ma 5), .inl (cI, 40, .inl fG)), ((ma 6), .inl (cI, 40, .inl fSz)), ((ma 7), .inl (cI, 40, .inl fSd)), ((ma 8), .inl (cB, 1200, .inl fN)), ((ma 9), .inl (cI, 40, .inl fNS)), ((ma 10), .inl (cB, 8000, .inl fT)), ((ma 11), .inl (cI, 40, .inl fTS)), ((ma 3), .inl (cI, 40, .inl fM))] ∧ va_S A s.heap H locs ∧ lv_has ls 6 [(0, .ref h0), (1, .int x), (2, .int nn), (3, .int v45)]) 56 ?_ ?_
        · skip
          intro lk ih56 H locs ls stk hI
          obtain ⟨rg, hm56, rfl, f2, f3, hP, hD, hS, hl⟩ := hI
          refine lv_istore hx hb d_DiscMakerModel_link_56 hl (by decide) rfl (fun ls hl => ?_)
          have hl : lv_has ls 6 [(4, .int rg), (0, .ref h0), (1, .int x), (2, .int nn), (3, .int v45)] := hl
          refine lv_iload_n hx hb d_DiscMakerModel_link_58 rfl (lv_at hl 3 rfl) ?_
          refine lv_iconst (v := 1) hx hb d_DiscMakerModel_link_59 (by decide) ?_
          refine lv_iadd hx hb d_DiscMakerModel_link_60 ?_
          refine lv_topi (fun v46 e_v46 => ?_)
          have t_v46 : v46.toInt = nn.toInt + 1 := by rw [e_v46]; exact i_add rfl (by decide) (by omega) (by omega)
          refine lv_istore hx hb d_DiscMakerModel_link_61 hl (by decide) rfl (fun ls hl => ?_)
          have hl : lv_has ls 6 [(5, .int v46), (4, .int rg), (0, .ref h0), (1, .int x), (2, .int nn), (3, .int v45)] := hl
          refine zz_lab (P := fun (lk : Nat) (H : Heap) (locs : List Loc) (ls : Array Slot) (stk : List Value) => ∃ (rh : Int32) (kx : Int32) , lk = (401 - kx.toInt).toNat ∧ stk = [] ∧ (0 ≤ rh.toInt ∧ rh.toInt ≤ 1) ∧ (rh.toInt = 0 ∨ (1 ≤ sv_length.toInt - nn.toInt - 1 ∧ sv_length.toInt - nn.toInt - 1 ≤ 200)) ∧ (1 ≤ kx.toInt ∧ kx.toInt ≤ 401) ∧ va_P D CL [(h0, .inr (11, MO ma 0 sv_length sv_nodes sv_many sv_directories sv_runsFrom sv_runs sv_read sv_wrong sv_isNamed sv_goes sv_goesSize sv_goesAt sv_targetParts sv_isRoot)), ((ma 0), .inl (cB, 400, .inl fX)), ((ma 1), .inl (cI, 40, .inl fK)), ((ma 2), .inl (cI, 40, .inl fP)), ((ma 4), .inl (cI, 40, .inl fO)), ((ma 5), .inl (cI, 40, .inl fG)), ((ma 6), .inl (cI, 40, .inl fSz)), ((ma 7), .inl (cI, 40, .inl fSd)), ((ma 8), .inl (cB, 1200, .inl fN)), ((ma 9), .inl (cI, 40, .inl fNS)), ((ma 10), .inl (cB, 8000, .inl fT)), ((ma 11), .inl (cI, 40, .inl fTS)), ((ma 3), .inl (cI, 40, .inl fM))] H ∧ va_D A [(h0, .inr (11, MO ma 0 sv_length sv_nodes sv_many sv_directories sv_runsFrom sv_runs sv_read sv_wrong sv_isNamed sv_goes sv_goesSize sv_goesAt sv_targetParts sv_isRoot)), ((ma 0), .inl (cB, 400, .inl fX)), ((ma 1), .inl (cI, 40, .inl fK)), ((ma 2), .inl (cI, 40, .inl fP)), ((ma 4), .inl (cI, 40, .inl fO)), ((ma 5), .inl (cI, 40, .inl fG)), ((ma 6), .inl (cI, 40, .inl fSz)), ((ma 7), .inl (cI, 40, .inl fSd)), ((ma 8), .inl (cB, 1200, .inl fN)), ((ma 9), .inl (cI, 40, .inl fNS)), ((ma 10), .inl (cB, 8000, .inl fT)), ((ma 11), .inl (cI, 40, .inl fTS)), ((ma 3), .inl (cI, 40, .inl fM))] ∧ va_S A s.heap H locs ∧ lv_has ls 6 [(0, .ref h0), (1, .int x), (2, .int nn), (3, .int v45), (4, .int rh), (5, .int kx)]) 63 ?_ ?_
          · skip
            intro lk ih63 H locs ls stk hI
            obtain ⟨rh, kx, hm63, rfl, f4, f5, f6, hP, hD, hS, hl⟩ := hI
            refine lv_iload hx hb d_DiscMakerModel_link_63 (lv_at hl 5 rfl) ?_
            refine lv_aload_n hx hb d_DiscMakerModel_link_65 rfl (lv_at hl 0 rfl) ?_
            refine va_get (D := D) (ci := 11) (v := .int sv_length) (C := "DiscMakerModel") (T := F_DiscMakerModel) (N := 48) hx hb ht9 in_DiscMakerModel hown hK hP 0 rfl rfl 2 (by decide) (ht9 _ k1433) (fun _ h9 => h9) rfl d_DiscMakerModel_link_66 ?_
            refine lv_icmp_ge (tgt := 114) hx hb d_DiscMakerModel_link_69 (by decide) (fun h_9 => ?_) (fun h_9 => ?_)
            · skip
              have g69_157 : sv_length.toInt ≤ kx.toInt := (i_le rfl rfl).mp h_9
              refine lv_aload_n hx hb d_DiscMakerModel_link_114 rfl (lv_at hl 0 rfl) ?_
              refine lv_iload_n hx hb d_DiscMakerModel_link_115 rfl (lv_at hl 1 rfl) ?_
              refine lv_iconst (v := 2) hx hb d_DiscMakerModel_link_116 (by decide) ?_
              refine lv_iload_n hx hb d_DiscMakerModel_link_117 rfl (lv_at hl 2 rfl) ?_
              refine zz_lab (P := fun (lk : Nat) (H : Heap) (locs : List Loc) (ls : Array Slot) (stk : List Value) => ∃ (jf : Int32) , lk = 0 ∧ stk = [.int jf, .int nn, .int 2, .int x, .ref h0] ∧ (0 ≤ jf.toInt ∧ jf.toInt ≤ 1) ∧ (jf.toInt = 0 ∨ (1 ≤ sv_length.toInt - nn.toInt - 1 ∧ sv_length.toInt - nn.toInt - 1 ≤ 200)) ∧ va_P D CL [(h0, .inr (11, MO ma 0 sv_length sv_nodes sv_many sv_directories sv_runsFrom sv_runs sv_read sv_wrong sv_isNamed sv_goes sv_goesSize sv_goesAt sv_targetParts sv_isRoot)), ((ma 0), .inl (cB, 400, .inl fX)), ((ma 1), .inl (cI, 40, .inl fK)), ((ma 2), .inl (cI, 40, .inl fP)), ((ma 4), .inl (cI, 40, .inl fO)), ((ma 5), .inl (cI, 40, .inl fG)), ((ma 6), .inl (cI, 40, .inl fSz)), ((ma 7), .inl (cI, 40, .inl fSd)), ((ma 8), .inl (cB, 1200, .inl fN)), ((ma 9), .inl (cI, 40, .inl fNS)), ((ma 10), .inl (cB, 8000, .inl fT)), ((ma 11), .inl (cI, 40, .inl fTS)), ((ma 3), .inl (cI, 40, .inl fM))] H ∧ va_D A [(h0, .inr (11, MO ma 0 sv_length sv_nodes sv_many sv_directories sv_runsFrom sv_runs sv_read sv_wrong sv_isNamed sv_goes sv_goesSize sv_goesAt sv_targetParts sv_isRoot)), ((ma 0), .inl (cB, 400, .inl fX)), ((ma 1), .inl (cI, 40, .inl fK)), ((ma 2), .inl (cI, 40, .inl fP)), ((ma 4), .inl (cI, 40, .inl fO)), ((ma 5), .inl (cI, 40, .inl fG)), ((ma 6), .inl (cI, 40, .inl fSz)), ((ma 7), .inl (cI, 40, .inl fSd)), ((ma 8), .inl (cB, 1200, .inl fN)), ((ma 9), .inl (cI, 40, .inl fNS)), ((ma 10), .inl (cB, 8000, .inl fT)), ((ma 11), .inl (cI, 40, .inl fTS)), ((ma 3), .inl (cI, 40, .inl fM))] ∧ va_S A s.heap H locs ∧ lv_has ls 6 [(0, .ref h0), (1, .int x), (2, .int nn), (3, .int v45), (4, .int rh), (5, .int kx)]) 142 ?_ ?_
              · skip
                intro lk ih142 H locs ls stk hI
                obtain ⟨jf, hm142, rfl, fj, fk, hP, hD, hS, hl⟩ := hI
                have hPc := hP.sub (ws' := [(h0, .inr (11, MO ma 0 sv_length sv_nodes sv_many sv_directories sv_runsFrom sv_runs sv_read sv_wrong sv_isNamed sv_goes sv_goesSize sv_goesAt sv_targetParts sv_isRoot)), ((ma 0), .inl (cB, 400, .inl fX)), ((ma 1), .inl (cI, 40, .inl fK)), ((ma 2), .inl (cI, 40, .inl fP)), ((ma 4), .inl (cI, 40, .inl fO)), ((ma 5), .inl (cI, 40, .inl fG)), ((ma 6), .inl (cI, 40, .inl fSz)), ((ma 7), .inl (cI, 40, .inl fSd)), ((ma 8), .inl (cB, 1200, .inl fN)), ((ma 9), .inl (cI, 40, .inl fNS)), ((ma 10), .inl (cB, 8000, .inl fT)), ((ma 11), .inl (cI, 40, .inl fTS))]) [0, 1, 2, 3, 4, 5, 6, 7, 8, 9, 10, 11] rfl
                have hDc := hD.sub (ws' := [(h0, .inr (11, MO ma 0 sv_length sv_nodes sv_many sv_directories sv_runsFrom sv_runs sv_read sv_wrong sv_isNamed sv_goes sv_goesSize sv_goesAt sv_targetParts sv_isRoot)), ((ma 0), .inl (cB, 400, .inl fX)), ((ma 1), .inl (cI, 40, .inl fK)), ((ma 2), .inl (cI, 40, .inl fP)), ((ma 4), .inl (cI, 40, .inl fO)), ((ma 5), .inl (cI, 40, .inl fG)), ((ma 6), .inl (cI, 40, .inl fSz)), ((ma 7), .inl (cI, 40, .inl fSd)), ((ma 8), .inl (cB, 1200, .inl fN)), ((ma 9), .inl (cI, 40, .inl fNS)), ((ma 10), .inl (cB, 8000, .inl fT)), ((ma 11), .inl (cI, 40, .inl fTS))]) [0, 1, 2, 3, 4, 5, 6, 7, 8, 9, 10, 11] (by decide) rfl
                have hFc := va_free (wc := [(h0, .inr (11, MO ma 0 sv_length sv_nodes sv_many sv_directories sv_runsFrom sv_runs sv_read sv_wrong sv_isNamed sv_goes sv_goesSize sv_goesAt sv_targetParts sv_isRoot)), ((ma 0), .inl (cB, 400, .inl fX)), ((ma 1), .inl (cI, 40, .inl fK)), ((ma 2), .inl (cI, 40, .inl fP)), ((ma 4), .inl (cI, 40, .inl fO)), ((ma 5), .inl (cI, 40, .inl fG)), ((ma 6), .inl (cI, 40, .inl fSz)), ((ma 7), .inl (cI, 40, .inl fSd)), ((ma 8), .inl (cB, 1200, .inl fN)), ((ma 9), .inl (cI, 40, .inl fNS)), ((ma 10), .inl (cB, 8000, .inl fT)), ((ma 11), .inl (cI, 40, .inl fTS))]) hD hS hA [0, 1, 2, 3, 4, 5, 6, 7, 8, 9, 10, 11] rfl
                have hkc : 0 ≤ 0 := by decide
                have hks : 0 ≤ 0 := by decide
                refine va_calli (va_runV (C := "DiscMakerModel") (As := [.int x, .int 2, .int nn, .int jf]) (rest := []) ⟨hx, hb, hml, hown, hts⟩ (m_add l D cB cI cJ cZ cN cF H.size h0 ma 0 sv_length sv_nodes sv_many sv_directories sv_runsFrom sv_runs sv_read sv_wrong sv_isNamed sv_goes sv_goesSize sv_goesAt sv_targetParts sv_isRoot fX fK fP fO fG fSz fSd fN fNS fT fTS x 2 nn jf (by (try dsimp only); first | omega | assumption | trivial) (by (try dsimp only); first | omega | assumption | trivial) (by (try dsimp only); first | omega | assumption | trivial) (by (try dsimp only); first | omega | assumption | trivial) (by (try dsimp only); first | omega | assumption | trivial)) (cwV 4 hts (lg_goodV k1594 k1596 k52 k125 kc_DiscMakerModel_add) rfl rfl rfl (by decide +kernel) ⟨Nat.le_of_ble_eq_true rfl, Nat.le_of_ble_eq_true rfl⟩) ⟨fun a U g mk q => by obtain ⟨q0, q1, qP, qK, qN, qD⟩ := q; exact ⟨q0, q1, qP, va_K.moved (u := U) (U := U.calling g mk a) (Vm.Alike.refl U.vm) qK, qN.calling, qD⟩, va_recv hK hP (ci := 11) (q0 := 0) rfl rfl, fun U hU hW => ⟨rfl, by rw [hU], by rw [hU]; exact hPc, va_K.moved hW.alike hK, NN.warm hW hN, hDc.weaken (fun _ _ _ _ => trivial)⟩⟩ rfl rfl hl.1 rfl (lv_room (Nat.le_of_ble_eq_true rfl)) d_DiscMakerModel_link_142 ⟨hkc, hks⟩) hS (fun q _ h => hFc q h) hFc (fun r47 u t H1 locs ht hvm hp_r47 hB hz1 hk1 hS => ?_)
                obtain ⟨nd_48, gK_49, gP_50, gO_51, gG_52, gSz_53, gSd_54, gN_55, gNS_56, gT_57, gTS_58⟩ := u
                obtain ⟨hP1, hD1⟩ := hB
                rw [ht] at hP1
                obtain ⟨hP, hD⟩ := va_join (wr := [((ma 3), .inl (cI, 40, .inl fM))]) (w1 := [(h0, .inr (11, MO ma 0 0 nd_48 sv_many sv_directories sv_runsFrom sv_runs sv_read sv_wrong sv_isNamed sv_goes sv_goesSize sv_goesAt sv_targetParts sv_isRoot)), ((ma 0), .inl (cB, 400, .inl fX)), ((ma 1), .inl (cI, 40, .inl gK_49)), ((ma 2), .inl (cI, 40, .inl gP_50)), ((ma 4), .inl (cI, 40, .inl gO_51)), ((ma 5), .inl (cI, 40, .inl gG_52)), ((ma 6), .inl (cI, 40, .inl gSz_53)), ((ma 7), .inl (cI, 40, .inl gSd_54)), ((ma 8), .inl (cB, 1200, .inl gN_55)), ((ma 9), .inl (cI, 40, .inl gNS_56)), ((ma 10), .inl (cB, 8000, .inl gT_57)), ((ma 11), .inl (cI, 40, .inl gTS_58))]) hP hD [0, 1, 2, 3, 4, 5, 6, 7, 8, 9, 10, 11] [12] rfl rfl (by decide) (by decide) hk1 hFc hP1 hD1
                clear hPc hDc hFc hP1 hD1 hk1 hz1
                generalize H1 = H at hP hS ⊢
                have hP : va_P D CL [((ma 3), .inl (cI, 40, .inl fM)), (h0, .inr (11, MO ma 0 0 nd_48 sv_many sv_directories sv_runsFrom sv_runs sv_read sv_wrong sv_isNamed sv_goes sv_goesSize sv_goesAt sv_targetParts sv_isRoot)), ((ma 0), .inl (cB, 400, .inl fX)), ((ma 1), .inl (cI, 40, .inl gK_49)), ((ma 2), .inl (cI, 40, .inl gP_50)), ((ma 4), .inl (cI, 40, .inl gO_51)), ((ma 5), .inl (cI, 40, .inl gG_52)), ((ma 6), .inl (cI, 40, .inl gSz_53)), ((ma 7), .inl (cI, 40, .inl gSd_54)), ((ma 8), .inl (cB, 1200, .inl gN_55)), ((ma 9), .inl (cI, 40, .inl gNS_56)), ((ma 10), .inl (cB, 8000, .inl gT_57)), ((ma 11), .inl (cI, 40, .inl gTS_58))] H := hP
                have hD : va_D A [((ma 3), .inl (cI, 40, .inl fM)), (h0, .inr (11, MO ma 0 0 nd_48 sv_many sv_directories sv_runsFrom sv_runs sv_read sv_wrong sv_isNamed sv_goes sv_goesSize sv_goesAt sv_targetParts sv_isRoot)), ((ma 0), .inl (cB, 400, .inl fX)), ((ma 1), .inl (cI, 40, .inl gK_49)), ((ma 2), .inl (cI, 40, .inl gP_50)), ((ma 4), .inl (cI, 40, .inl gO_51)), ((ma 5), .inl (cI, 40, .inl gG_52)), ((ma 6), .inl (cI, 40, .inl gSz_53)), ((ma 7), .inl (cI, 40, .inl gSd_54)), ((ma 8), .inl (cB, 1200, .inl gN_55)), ((ma 9), .inl (cI, 40, .inl gNS_56)), ((ma 10), .inl (cB, 8000, .inl gT_57)), ((ma 11), .inl (cI, 40, .inl gTS_58))] := hD
                try dsimp only at hp_r47
                obtain ⟨hr_59, hT_60⟩ := hp_r47
                have hn9 := hT_60.n1
                refine lv_istore hx hb d_DiscMakerModel_link_145 hl (by decide) rfl (fun ls hl => ?_)
                have hl : lv_has ls 6 [(5, .int r47), (0, .ref h0), (1, .int x), (2, .int nn), (3, .int v45), (4, .int rh)] := hl
                refine lv_iload hx hb d_DiscMakerModel_link_147 (lv_at hl 0 rfl) ?_
                refine lv_if_lt (tgt := 162) hx hb d_DiscMakerModel_link_149 (by decide) (fun h_9 => ?_) (fun h_9 => ?_)
                · skip
                  have g149_165 : r47.toInt < 0 := (i_lt rfl (by decide)).mp h_9
                  refine lv_iload hx hb d_DiscMakerModel_link_162 (lv_at hl 0 rfl) ?_
                  have hP9 := hP.sub (ws' := [(h0, .inr (11, MO ma 0 0 nd_48 sv_many sv_directories sv_runsFrom sv_runs sv_read sv_wrong sv_isNamed sv_goes sv_goesSize sv_goesAt sv_targetParts sv_isRoot)), ((ma 0), .inl (cB, 400, .inl fX)), ((ma 1), .inl (cI, 40, .inl gK_49)), ((ma 2), .inl (cI, 40, .inl gP_50)), ((ma 4), .inl (cI, 40, .inl gO_51)), ((ma 5), .inl (cI, 40, .inl gG_52)), ((ma 6), .inl (cI, 40, .inl gSz_53)), ((ma 7), .inl (cI, 40, .inl gSd_54)), ((ma 8), .inl (cB, 1200, .inl gN_55)), ((ma 9), .inl (cI, 40, .inl gNS_56)), ((ma 10), .inl (cB, 8000, .inl gT_57)), ((ma 11), .inl (cI, 40, .inl gTS_58)), ((ma 3), .inl (cI, 40, .inl fM))]) [1, 2, 3, 4, 5, 6, 7, 8, 9, 10, 11, 12, 0] rfl
                  have hD9 := hD.sub (ws' := [(h0, .inr (11, MO ma 0 0 nd_48 sv_many sv_directories sv_runsFrom sv_runs sv_read sv_wrong sv_isNamed sv_goes sv_goesSize sv_goesAt sv_targetParts sv_isRoot)), ((ma 0), .inl (cB, 400, .inl fX)), ((ma 1), .inl (cI, 40, .inl gK_49)), ((ma 2), .inl (cI, 40, .inl gP_50)), ((ma 4), .inl (cI, 40, .inl gO_51)), ((ma 5), .inl (cI, 40, .inl gG_52)), ((ma 6), .inl (cI, 40, .inl gSz_53)), ((ma 7), .inl (cI, 40, .inl gSd_54)), ((ma 8), .inl (cB, 1200, .inl gN_55)), ((ma 9), .inl (cI, 40, .inl gNS_56)), ((ma 10), .inl (cB, 8000, .inl gT_57)), ((ma 11), .inl (cI, 40, .inl gTS_58)), ((ma 3), .inl (cI, 40, .inl fM))]) [1, 2, 3, 4, 5, 6, 7, 8, 9, 10, 11, 12, 0] (by decide) rfl
                  exact W.iret (v := r47) hx hb hr (fun t ht hW => ⟨⟨r47, (0, nd_48, gK_49, gP_50, gO_51, gG_52, gSz_53, gSd_54, gN_55, gNS_56, gT_57, gTS_58, fM), rfl, hT_60, by rw [ht]; exact hP9, hD9⟩, hS.F ht⟩) hS.2.2 d_DiscMakerModel_link_164
                · skip
                  have g149_165 : ¬ r47.toInt < 0 := fun h8 => h_9 ((i_lt rfl (by decide)).mpr h8)
                  refine lv_aload_n hx hb d_DiscMakerModel_link_152 rfl (lv_at hl 1 rfl) ?_
                  refine va_get (D := D) (ci := 11) (v := .ref (ma 3)) (C := "DiscMakerModel") (T := F_DiscMakerModel) (N := 48) hx hb ht9 in_DiscMakerModel hown hK hP 1 rfl rfl 6 (by decide) (ht9 _ k1437) (fun _ h9 => h9) rfl d_DiscMakerModel_link_153 ?_
                  refine lv_iload hx hb d_DiscMakerModel_link_156 (lv_at hl 0 rfl) ?_
                  refine lv_sipush (v := 511) hx hb d_DiscMakerModel_link_158 (by decide) ?_
                  refine zq_iast hx hb hK hP hD hS 0 1 rfl rfl (vp_in_iff.mpr ⟨by omega, by omega⟩) d_DiscMakerModel_link_161 (fun f61 e_f61 H locs hP hD hS => ?_)
                  have hP : va_P D CL [((ma 3), .inl (cI, 40, .inl f61)), (h0, .inr (11, MO ma 0 0 nd_48 sv_many sv_directories sv_runsFrom sv_runs sv_read sv_wrong sv_isNamed sv_goes sv_goesSize sv_goesAt sv_targetParts sv_isRoot)), ((ma 0), .inl (cB, 400, .inl fX)), ((ma 1), .inl (cI, 40, .inl gK_49)), ((ma 2), .inl (cI, 40, .inl gP_50)), ((ma 4), .inl (cI, 40, .inl gO_51)), ((ma 5), .inl (cI, 40, .inl gG_52)), ((ma 6), .inl (cI, 40, .inl gSz_53)), ((ma 7), .inl (cI, 40, .inl gSd_54)), ((ma 8), .inl (cB, 1200, .inl gN_55)), ((ma 9), .inl (cI, 40, .inl gNS_56)), ((ma 10), .inl (cB, 8000, .inl gT_57)), ((ma 11), .inl (cI, 40, .inl gTS_58))] H := hP
                  have hD : va_D A [((ma 3), .inl (cI, 40, .inl f61)), (h0, .inr (11, MO ma 0 0 nd_48 sv_many sv_directories sv_runsFrom sv_runs sv_read sv_wrong sv_isNamed sv_goes sv_goesSize sv_goesAt sv_targetParts sv_isRoot)), ((ma 0), .inl (cB, 400, .inl fX)), ((ma 1), .inl (cI, 40, .inl gK_49)), ((ma 2), .inl (cI, 40, .inl gP_50)), ((ma 4), .inl (cI, 40, .inl gO_51)), ((ma 5), .inl (cI, 40, .inl gG_52)), ((ma 6), .inl (cI, 40, .inl gSz_53)), ((ma 7), .inl (cI, 40, .inl gSd_54)), ((ma 8), .inl (cB, 1200, .inl gN_55)), ((ma 9), .inl (cI, 40, .inl gNS_56)), ((ma 10), .inl (cB, 8000, .inl gT_57)), ((ma 11), .inl (cI, 40, .inl gTS_58))] := hD
                  have s_f61 : f61 r47.toNatClampNeg = 511 := by rw [e_f61]; unfold upd; rw [if_pos rfl]
                  refine lv_iload hx hb d_DiscMakerModel_link_162 (lv_at hl 0 rfl) ?_
                  have hP9 := hP.sub (ws' := [(h0, .inr (11, MO ma 0 0 nd_48 sv_many sv_directories sv_runsFrom sv_runs sv_read sv_wrong sv_isNamed sv_goes sv_goesSize sv_goesAt sv_targetParts sv_isRoot)), ((ma 0), .inl (cB, 400, .inl fX)), ((ma 1), .inl (cI, 40, .inl gK_49)), ((ma 2), .inl (cI, 40, .inl gP_50)), ((ma 4), .inl (cI, 40, .inl gO_51)), ((ma 5), .inl (cI, 40, .inl gG_52)), ((ma 6), .inl (cI, 40, .inl gSz_53)), ((ma 7), .inl (cI, 40, .inl gSd_54)), ((ma 8), .inl (cB, 1200, .inl gN_55)), ((ma 9), .inl (cI, 40, .inl gNS_56)), ((ma 10), .inl (cB, 8000, .inl gT_57)), ((ma 11), .inl (cI, 40, .inl gTS_58)), ((ma 3), .inl (cI, 40, .inl f61))]) [1, 2, 3, 4, 5, 6, 7, 8, 9, 10, 11, 12, 0] rfl
                  have hD9 := hD.sub (ws' := [(h0, .inr (11, MO ma 0 0 nd_48 sv_many sv_directories sv_runsFrom sv_runs sv_read sv_wrong sv_isNamed sv_goes sv_goesSize sv_goesAt sv_targetParts sv_isRoot)), ((ma 0), .inl (cB, 400, .inl fX)), ((ma 1), .inl (cI, 40, .inl gK_49)), ((ma 2), .inl (cI, 40, .inl gP_50)), ((ma 4), .inl (cI, 40, .inl gO_51)), ((ma 5), .inl (cI, 40, .inl gG_52)), ((ma 6), .inl (cI, 40, .inl gSz_53)), ((ma 7), .inl (cI, 40, .inl gSd_54)), ((ma 8), .inl (cB, 1200, .inl gN_55)), ((ma 9), .inl (cI, 40, .inl gNS_56)), ((ma 10), .inl (cB, 8000, .inl gT_57)), ((ma 11), .inl (cI, 40, .inl gTS_58)), ((ma 3), .inl (cI, 40, .inl f61))]) [1, 2, 3, 4, 5, 6, 7, 8, 9, 10, 11, 12, 0] (by decide) rfl
                  exact W.iret (v := r47) hx hb hr (fun t ht hW => ⟨⟨r47, (0, nd_48, gK_49, gP_50, gO_51, gG_52, gSz_53, gSd_54, gN_55, gNS_56, gT_57, gTS_58, f61), rfl, hT_60, by rw [ht]; exact hP9, hD9⟩, hS.F ht⟩) hS.2.2 d_DiscMakerModel_link_164
              · skip
                intro kk142
                refine lv_iload hx hb d_DiscMakerModel_link_118 (lv_at hl 4 rfl) ?_
                refine lv_if_eq (tgt := 141) hx hb d_DiscMakerModel_link_120 (by decide) (fun h_9 => ?_) (fun h_9 => ?_)
                · skip
                  have g120_176 : rh.toInt = 0 := (i_eq rfl (by decide)).mp h_9
                  refine lv_iconst (v := 0) hx hb d_DiscMakerModel_link_141 (by decide) ?_
                  have hP := hP.sub (ws' := [(h0, .inr (11, MO ma 0 sv_length sv_nodes sv_many sv_directories sv_runsFrom sv_runs sv_read sv_wrong sv_isNamed sv_goes sv_goesSize sv_goesAt sv_targetParts sv_isRoot)), ((ma 0), .inl (cB, 400, .inl fX)), ((ma 1), .inl (cI, 40, .inl fK)), ((ma 2), .inl (cI, 40, .inl fP)), ((ma 4), .inl (cI, 40, .inl fO)), ((ma 5), .inl (cI, 40, .inl fG)), ((ma 6), .inl (cI, 40, .inl fSz)), ((ma 7), .inl (cI, 40, .inl fSd)), ((ma 8), .inl (cB, 1200, .inl fN)), ((ma 9), .inl (cI, 40, .inl fNS)), ((ma 10), .inl (cB, 8000, .inl fT)), ((ma 11), .inl (cI, 40, .inl fTS)), ((ma 3), .inl (cI, 40, .inl fM))]) [0, 1, 2, 3, 4, 5, 6, 7, 8, 9, 10, 11, 12] rfl
                  have hD := hD.sub (ws' := [(h0, .inr (11, MO ma 0 sv_length sv_nodes sv_many sv_directories sv_runsFrom sv_runs sv_read sv_wrong sv_isNamed sv_goes sv_goesSize sv_goesAt sv_targetParts sv_isRoot)), ((ma 0), .inl (cB, 400, .inl fX)), ((ma 1), .inl (cI, 40, .inl fK)), ((ma 2), .inl (cI, 40, .inl fP)), ((ma 4), .inl (cI, 40, .inl fO)), ((ma 5), .inl (cI, 40, .inl fG)), ((ma 6), .inl (cI, 40, .inl fSz)), ((ma 7), .inl (cI, 40, .inl fSd)), ((ma 8), .inl (cB, 1200, .inl fN)), ((ma 9), .inl (cI, 40, .inl fNS)), ((ma 10), .inl (cB, 8000, .inl fT)), ((ma 11), .inl (cI, 40, .inl fTS)), ((ma 3), .inl (cI, 40, .inl fM))]) [0, 1, 2, 3, 4, 5, 6, 7, 8, 9, 10, 11, 12] (by decide) rfl
                  have hl := lv_sub hl [0, 1, 2, 3, 4, 5] rfl
                  exact kk142 _ _ _ _ _ ⟨0, rfl, rfl, (by (try dsimp only); first | omega | assumption | trivial), (by (try dsimp only); first | omega | assumption | trivial), hP, hD, hS, hl⟩
                · skip
                  have g120_176 : ¬ rh.toInt = 0 := fun h8 => h_9 ((i_eq rfl (by decide)).mpr h8)
                  refine lv_aload_n hx hb d_DiscMakerModel_link_123 rfl (lv_at hl 0 rfl) ?_
                  refine lv_iload_n hx hb d_DiscMakerModel_link_124 rfl (lv_at hl 3 rfl) ?_
                  refine lv_iload_n hx hb d_DiscMakerModel_link_125 rfl (lv_at hl 2 rfl) ?_
                  refine lv_iconst (v := 1) hx hb d_DiscMakerModel_link_126 (by decide) ?_
                  refine lv_iadd hx hb d_DiscMakerModel_link_127 ?_
                  refine lv_topi (fun v62 e_v62 => ?_)
                  have t_v62 : v62.toInt = nn.toInt + 1 := by rw [e_v62]; exact i_add rfl (by decide) (by omega) (by omega)
                  have hPc := hP.sub (ws' := [(h0, .inr (11, MO ma 0 sv_length sv_nodes sv_many sv_directories sv_runsFrom sv_runs sv_read sv_wrong sv_isNamed sv_goes sv_goesSize sv_goesAt sv_targetParts sv_isRoot)), ((ma 0), .inl (cB, 400, .inl fX))]) [0, 1] rfl
                  have hDc := hD.sub (ws' := [(h0, .inr (11, MO ma 0 sv_length sv_nodes sv_many sv_directories sv_runsFrom sv_runs sv_read sv_wrong sv_isNamed sv_goes sv_goesSize sv_goesAt sv_targetParts sv_isRoot)), ((ma 0), .inl (cB, 400, .inl fX))]) [0, 1] (by decide) rfl
                  have hFc := va_free (wc := [(h0, .inr (11, MO ma 0 sv_length sv_nodes sv_many sv_directories sv_runsFrom sv_runs sv_read sv_wrong sv_isNamed sv_goes sv_goesSize sv_goesAt sv_targetParts sv_isRoot)), ((ma 0), .inl (cB, 400, .inl fX))]) hD hS hA [0, 1] rfl
                  have hkc : 0 ≤ 0 := by decide
                  have hks : 0 ≤ 0 := by decide
                  refine va_calli (va_runV (C := "DiscMakerModel") (As := [.int v45, .int v62]) (rest := [.int nn, .int 2, .int x, .ref h0]) ⟨hx, hb, hml, hown, hts⟩ (m_componentsOf l D cB cI cJ cZ cN cF H.size h0 ma 0 sv_length sv_nodes sv_many sv_directories sv_runsFrom sv_runs sv_read sv_wrong sv_isNamed sv_goes sv_goesSize sv_goesAt sv_targetParts sv_isRoot fX v45 v62 (by (try dsimp only); first | omega | assumption | trivial) (by (try dsimp only); first | omega | assumption | trivial)) (cwV 2 hts (lg_goodV k1636 k1638 k59 k125 kc_DiscMakerModel_componentsOf) rfl rfl rfl (by decide +kernel) ⟨Nat.le_of_ble_eq_true rfl, Nat.le_of_ble_eq_true rfl⟩) ⟨fun a U g mk q => by obtain ⟨q0, q1, qP, qK, qN, qD⟩ := q; exact ⟨q0, q1, qP, va_K.moved (u := U) (U := U.calling g mk a) (Vm.Alike.refl U.vm) qK, qN.calling, qD⟩, va_recv hK hP (ci := 11) (q0 := 0) rfl rfl, fun U hU hW => ⟨rfl, by rw [hU], by rw [hU]; exact hPc, va_K.moved hW.alike hK, NN.warm hW hN, hDc.weaken (fun _ _ _ _ => trivial)⟩⟩ rfl rfl hl.1 rfl (lv_room (Nat.le_of_ble_eq_true rfl)) d_DiscMakerModel_link_128 ⟨hkc, hks⟩) hS (fun q _ h => hFc q h) hFc (fun r63 u t H1 locs ht hvm hp_r63 hB hz1 hk1 hS => ?_)
                  obtain ⟨hP1, hD1⟩ := hB
                  rw [ht] at hP1
                  obtain ⟨hP, hD⟩ := va_join (wr := [((ma 1), .inl (cI, 40, .inl fK)), ((ma 2), .inl (cI, 40, .inl fP)), ((ma 4), .inl (cI, 40, .inl fO)), ((ma 5), .inl (cI, 40, .inl fG)), ((ma 6), .inl (cI, 40, .inl fSz)), ((ma 7), .inl (cI, 40, .inl fSd)), ((ma 8), .inl (cB, 1200, .inl fN)), ((ma 9), .inl (cI, 40, .inl fNS)), ((ma 10), .inl (cB, 8000, .inl fT)), ((ma 11), .inl (cI, 40, .inl fTS)), ((ma 3), .inl (cI, 40, .inl fM))]) (w1 := [(h0, .inr (11, MO ma 0 sv_length sv_nodes sv_many sv_directories sv_runsFrom sv_runs sv_read sv_wrong sv_isNamed sv_goes sv_goesSize sv_goesAt sv_targetParts sv_isRoot)), ((ma 0), .inl (cB, 400, .inl fX))]) hP hD [0, 1] [2, 3, 4, 5, 6, 7, 8, 9, 10, 11, 12] rfl rfl (by decide) (by decide) hk1 hFc hP1 hD1
                  clear hPc hDc hFc hP1 hD1 hk1 hz1
                  generalize H1 = H at hP hS ⊢
                  have hP : va_P D CL [((ma 1), .inl (cI, 40, .inl fK)), ((ma 2), .inl (cI, 40, .inl fP)), ((ma 4), .inl (cI, 40, .inl fO)), ((ma 5), .inl (cI, 40, .inl fG)), ((ma 6), .inl (cI, 40, .inl fSz)), ((ma 7), .inl (cI, 40, .inl fSd)), ((ma 8), .inl (cB, 1200, .inl fN)), ((ma 9), .inl (cI, 40, .inl fNS)), ((ma 10), .inl (cB, 8000, .inl fT)), ((ma 11), .inl (cI, 40, .inl fTS)), ((ma 3), .inl (cI, 40, .inl fM)), (h0, .inr (11, MO ma 0 sv_length sv_nodes sv_many sv_directories sv_runsFrom sv_runs sv_read sv_wrong sv_isNamed sv_goes sv_goesSize sv_goesAt sv_targetParts sv_isRoot)), ((ma 0), .inl (cB, 400, .inl fX))] H := hP
                  have hD : va_D A [((ma 1), .inl (cI, 40, .inl fK)), ((ma 2), .inl (cI, 40, .inl fP)), ((ma 4), .inl (cI, 40, .inl fO)), ((ma 5), .inl (cI, 40, .inl fG)), ((ma 6), .inl (cI, 40, .inl fSz)), ((ma 7), .inl (cI, 40, .inl fSd)), ((ma 8), .inl (cB, 1200, .inl fN)), ((ma 9), .inl (cI, 40, .inl fNS)), ((ma 10), .inl (cB, 8000, .inl fT)), ((ma 11), .inl (cI, 40, .inl fTS)), ((ma 3), .inl (cI, 40, .inl fM)), (h0, .inr (11, MO ma 0 sv_length sv_nodes sv_many sv_directories sv_runsFrom sv_runs sv_read sv_wrong sv_isNamed sv_goes sv_goesSize sv_goesAt sv_targetParts sv_isRoot)), ((ma 0), .inl (cB, 400, .inl fX))] := hD
                  refine lv_sipush (v := 245) hx hb d_DiscMakerModel_link_131 (by decide) ?_
                  refine lv_icmp_gt (tgt := 141) hx hb d_DiscMakerModel_link_134 (by decide) (fun h_9 => ?_) (fun h_9 => ?_)
                  · skip
                    have g134_186 : 245 < r63.toInt := (i_lt (by decide) rfl).mp h_9
                    refine lv_iconst (v := 0) hx hb d_DiscMakerModel_link_141 (by decide) ?_
                    have hP := hP.sub (ws' := [(h0, .inr (11, MO ma 0 sv_length sv_nodes sv_many sv_directories sv_runsFrom sv_runs sv_read sv_wrong sv_isNamed sv_goes sv_goesSize sv_goesAt sv_targetParts sv_isRoot)), ((ma 0), .inl (cB, 400, .inl fX)), ((ma 1), .inl (cI, 40, .inl fK)), ((ma 2), .inl (cI, 40, .inl fP)), ((ma 4), .inl (cI, 40, .inl fO)), ((ma 5), .inl (cI, 40, .inl fG)), ((ma 6), .inl (cI, 40, .inl fSz)), ((ma 7), .inl (cI, 40, .inl fSd)), ((ma 8), .inl (cB, 1200, .inl fN)), ((ma 9), .inl (cI, 40, .inl fNS)), ((ma 10), .inl (cB, 8000, .inl fT)), ((ma 11), .inl (cI, 40, .inl fTS)), ((ma 3), .inl (cI, 40, .inl fM))]) [11, 12, 0, 1, 2, 3, 4, 5, 6, 7, 8, 9, 10] rfl
                    have hD := hD.sub (ws' := [(h0, .inr (11, MO ma 0 sv_length sv_nodes sv_many sv_directories sv_runsFrom sv_runs sv_read sv_wrong sv_isNamed sv_goes sv_goesSize sv_goesAt sv_targetParts sv_isRoot)), ((ma 0), .inl (cB, 400, .inl fX)), ((ma 1), .inl (cI, 40, .inl fK)), ((ma 2), .inl (cI, 40, .inl fP)), ((ma 4), .inl (cI, 40, .inl fO)), ((ma 5), .inl (cI, 40, .inl fG)), ((ma 6), .inl (cI, 40, .inl fSz)), ((ma 7), .inl (cI, 40, .inl fSd)), ((ma 8), .inl (cB, 1200, .inl fN)), ((ma 9), .inl (cI, 40, .inl fNS)), ((ma 10), .inl (cB, 8000, .inl fT)), ((ma 11), .inl (cI, 40, .inl fTS)), ((ma 3), .inl (cI, 40, .inl fM))]) [11, 12, 0, 1, 2, 3, 4, 5, 6, 7, 8, 9, 10] (by decide) rfl
                    have hl := lv_sub hl [0, 1, 2, 3, 4, 5] rfl
                    exact kk142 _ _ _ _ _ ⟨0, rfl, rfl, (by (try dsimp only); first | omega | assumption | trivial), (by (try dsimp only); first | omega | assumption | trivial), hP, hD, hS, hl⟩
                  · skip
                    have g134_186 : ¬ 245 < r63.toInt := fun h8 => h_9 ((i_lt (by decide) rfl).mpr h8)
                    refine lv_iconst (v := 1) hx hb d_DiscMakerModel_link_137 (by decide) ?_
                    refine lv_goto (tgt := 142) hx hb d_DiscMakerModel_link_138 (by decide) ?_
                    have hP := hP.sub (ws' := [(h0, .inr (11, MO ma 0 sv_length sv_nodes sv_many sv_directories sv_runsFrom sv_runs sv_read sv_wrong sv_isNamed sv_goes sv_goesSize sv_goesAt sv_targetParts sv_isRoot)), ((ma 0), .inl (cB, 400, .inl fX)), ((ma 1), .inl (cI, 40, .inl fK)), ((ma 2), .inl (cI, 40, .inl fP)), ((ma 4), .inl (cI, 40, .inl fO)), ((ma 5), .inl (cI, 40, .inl fG)), ((ma 6), .inl (cI, 40, .inl fSz)), ((ma 7), .inl (cI, 40, .inl fSd)), ((ma 8), .inl (cB, 1200, .inl fN)), ((ma 9), .inl (cI, 40, .inl fNS)), ((ma 10), .inl (cB, 8000, .inl fT)), ((ma 11), .inl (cI, 40, .inl fTS)), ((ma 3), .inl (cI, 40, .inl fM))]) [11, 12, 0, 1, 2, 3, 4, 5, 6, 7, 8, 9, 10] rfl
                    have hD := hD.sub (ws' := [(h0, .inr (11, MO ma 0 sv_length sv_nodes sv_many sv_directories sv_runsFrom sv_runs sv_read sv_wrong sv_isNamed sv_goes sv_goesSize sv_goesAt sv_targetParts sv_isRoot)), ((ma 0), .inl (cB, 400, .inl fX)), ((ma 1), .inl (cI, 40, .inl fK)), ((ma 2), .inl (cI, 40, .inl fP)), ((ma 4), .inl (cI, 40, .inl fO)), ((ma 5), .inl (cI, 40, .inl fG)), ((ma 6), .inl (cI, 40, .inl fSz)), ((ma 7), .inl (cI, 40, .inl fSd)), ((ma 8), .inl (cB, 1200, .inl fN)), ((ma 9), .inl (cI, 40, .inl fNS)), ((ma 10), .inl (cB, 8000, .inl fT)), ((ma 11), .inl (cI, 40, .inl fTS)), ((ma 3), .inl (cI, 40, .inl fM))]) [11, 12, 0, 1, 2, 3, 4, 5, 6, 7, 8, 9, 10] (by decide) rfl
                    have hl := lv_sub hl [0, 1, 2, 3, 4, 5] rfl
                    exact kk142 _ _ _ _ _ ⟨1, rfl, rfl, (by (try dsimp only); first | omega | assumption | trivial), (by (try dsimp only); first | omega | assumption | trivial), hP, hD, hS, hl⟩
            · skip
              have g69_157 : ¬ sv_length.toInt ≤ kx.toInt := fun h8 => h_9 ((i_le rfl rfl).mpr h8)
              refine lv_iload hx hb d_DiscMakerModel_link_72 (lv_at hl 4 rfl) ?_
              refine lv_if_eq (tgt := 114) hx hb d_DiscMakerModel_link_74 (by decide) (fun h_9 => ?_) (fun h_9 => ?_)
              · skip
                have g74_193 : rh.toInt = 0 := (i_eq rfl (by decide)).mp h_9
                refine lv_aload_n hx hb d_DiscMakerModel_link_114 rfl (lv_at hl 0 rfl) ?_
                refine lv_iload_n hx hb d_DiscMakerModel_link_115 rfl (lv_at hl 1 rfl) ?_
                refine lv_iconst (v := 2) hx hb d_DiscMakerModel_link_116 (by decide) ?_
                refine lv_iload_n hx hb d_DiscMakerModel_link_117 rfl (lv_at hl 2 rfl) ?_
                refine zz_lab (P := fun (lk : Nat) (H : Heap) (locs : List Loc) (ls : Array Slot) (stk : List Value) => ∃ (jf : Int32) , lk = 0 ∧ stk = [.int jf, .int nn, .int 2, .int x, .ref h0] ∧ (0 ≤ jf.toInt ∧ jf.toInt ≤ 1) ∧ (jf.toInt = 0 ∨ (1 ≤ sv_length.toInt - nn.toInt - 1 ∧ sv_length.toInt - nn.toInt - 1 ≤ 200)) ∧ va_P D CL [(h0, .inr (11, MO ma 0 sv_length sv_nodes sv_many sv_directories sv_runsFrom sv_runs sv_read sv_wrong sv_isNamed sv_goes sv_goesSize sv_goesAt sv_targetParts sv_isRoot)), ((ma 0), .inl (cB, 400, .inl fX)), ((ma 1), .inl (cI, 40, .inl fK)), ((ma 2), .inl (cI, 40, .inl fP)), ((ma 4), .inl (cI, 40, .inl fO)), ((ma 5), .inl (cI, 40, .inl fG)), ((ma 6), .inl (cI, 40, .inl fSz)), ((ma 7), .inl (cI, 40, .inl fSd)), ((ma 8), .inl (cB, 1200, .inl fN)), ((ma 9), .inl (cI, 40, .inl fNS)), ((ma 10), .inl (cB, 8000, .inl fT)), ((ma 11), .inl (cI, 40, .inl fTS)), ((ma 3), .inl (cI, 40, .inl fM))] H ∧ va_D A [(h0, .inr (11, MO ma 0 sv_length sv_nodes sv_many sv_directories sv_runsFrom sv_runs sv_read sv_wrong sv_isNamed sv_goes sv_goesSize sv_goesAt sv_targetParts sv_isRoot)), ((ma 0), .inl (cB, 400, .inl fX)), ((ma 1), .inl (cI, 40, .inl fK)), ((ma 2), .inl (cI, 40, .inl fP)), ((ma 4), .inl (cI, 40, .inl fO)), ((ma 5), .inl (cI, 40, .inl fG)), ((ma 6), .inl (cI, 40, .inl fSz)), ((ma 7), .inl (cI, 40, .inl fSd)), ((ma 8), .inl (cB, 1200, .inl fN)), ((ma 9), .inl (cI, 40, .inl fNS)), ((ma 10), .inl (cB, 8000, .inl fT)), ((ma 11), .inl (cI, 40, .inl fTS)), ((ma 3), .inl (cI, 40, .inl fM))] ∧ va_S A s.heap H locs ∧ lv_has ls 6 [(0, .ref h0), (1, .int x), (2, .int nn), (3, .int v45), (4, .int rh), (5, .int kx)]) 142 ?_ ?_
                · skip
                  intro lk ih142 H locs ls stk hI
                  obtain ⟨jf, hm142, rfl, fj, fk, hP, hD, hS, hl⟩ := hI
                  have hPc := hP.sub (ws' := [(h0, .inr (11, MO ma 0 sv_length sv_nodes sv_many sv_directories sv_runsFrom sv_runs sv_read sv_wrong sv_isNamed sv_goes sv_goesSize sv_goesAt sv_targetParts sv_isRoot)), ((ma 0), .inl (cB, 400, .inl fX)), ((ma 1), .inl (cI, 40, .inl fK)), ((ma 2), .inl (cI, 40, .inl fP)), ((ma 4), .inl (cI, 40, .inl fO)), ((ma 5), .inl (cI, 40, .inl fG)), ((ma 6), .inl (cI, 40, .inl fSz)), ((ma 7), .inl (cI, 40, .inl fSd)), ((ma 8), .inl (cB, 1200, .inl fN)), ((ma 9), .inl (cI, 40, .inl fNS)), ((ma 10), .inl (cB, 8000, .inl fT)), ((ma 11), .inl (cI, 40, .inl fTS))]) [0, 1, 2, 3, 4, 5, 6, 7, 8, 9, 10, 11] rfl
                  have hDc := hD.sub (ws' := [(h0, .inr (11, MO ma 0 sv_length sv_nodes sv_many sv_directories sv_runsFrom sv_runs sv_read sv_wrong sv_isNamed sv_goes sv_goesSize sv_goesAt sv_targetParts sv_isRoot)), ((ma 0), .inl (cB, 400, .inl fX)), ((ma 1), .inl (cI, 40, .inl fK)), ((ma 2), .inl (cI, 40, .inl fP)), ((ma 4), .inl (cI, 40, .inl fO)), ((ma 5), .inl (cI, 40, .inl fG)), ((ma 6), .inl (cI, 40, .inl fSz)), ((ma 7), .inl (cI, 40, .inl fSd)), ((ma 8), .inl (cB, 1200, .inl fN)), ((ma 9), .inl (cI, 40, .inl fNS)), ((ma 10), .inl (cB, 8000, .inl fT)), ((ma 11), .inl (cI, 40, .inl fTS))]) [0, 1, 2, 3, 4, 5, 6, 7, 8, 9, 10, 11] (by decide) rfl
                  have hFc := va_free (wc := [(h0, .inr (11, MO ma 0 sv_length sv_nodes sv_many sv_directories sv_runsFrom sv_runs sv_read sv_wrong sv_isNamed sv_goes sv_goesSize sv_goesAt sv_targetParts sv_isRoot)), ((ma 0), .inl (cB, 400, .inl fX)), ((ma 1), .inl (cI, 40, .inl fK)), ((ma 2), .inl (cI, 40, .inl fP)), ((ma 4), .inl (cI, 40, .inl fO)), ((ma 5), .inl (cI, 40, .inl fG)), ((ma 6), .inl (cI, 40, .inl fSz)), ((ma 7), .inl (cI, 40, .inl fSd)), ((ma 8), .inl (cB, 1200, .inl fN)), ((ma 9), .inl (cI, 40, .inl fNS)), ((ma 10), .inl (cB, 8000, .inl fT)), ((ma 11), .inl (cI, 40, .inl fTS))]) hD hS hA [0, 1, 2, 3, 4, 5, 6, 7, 8, 9, 10, 11] rfl
                  have hkc : 0 ≤ 0 := by decide
                  have hks : 0 ≤ 0 := by decide
                  refine va_calli (va_runV (C := "DiscMakerModel") (As := [.int x, .int 2, .int nn, .int jf]) (rest := []) ⟨hx, hb, hml, hown, hts⟩ (m_add l D cB cI cJ cZ cN cF H.size h0 ma 0 sv_length sv_nodes sv_many sv_directories sv_runsFrom sv_runs sv_read sv_wrong sv_isNamed sv_goes sv_goesSize sv_goesAt sv_targetParts sv_isRoot fX fK fP fO fG fSz fSd fN fNS fT fTS x 2 nn jf (by (try dsimp only); first | omega | assumption | trivial) (by (try dsimp only); first | omega | assumption | trivial) (by (try dsimp only); first | omega | assumption | trivial) (by (try dsimp only); first | omega | assumption | trivial) (by (try dsimp only); first | omega | assumption | trivial)) (cwV 4 hts (lg_goodV k1594 k1596 k52 k125 kc_DiscMakerModel_add) rfl rfl rfl (by decide +kernel) ⟨Nat.le_of_ble_eq_true rfl, Nat.le_of_ble_eq_true rfl⟩) ⟨fun a U g mk q => by obtain ⟨q0, q1, qP, qK, qN, qD⟩ := q; exact ⟨q0, q1, qP, va_K.moved (u := U) (U := U.calling g mk a) (Vm.Alike.refl U.vm) qK, qN.calling, qD⟩, va_recv hK hP (ci := 11) (q0 := 0) rfl rfl, fun U hU hW => ⟨rfl, by rw [hU], by rw [hU]; exact hPc, va_K.moved hW.alike hK, NN.warm hW hN, hDc.weaken (fun _ _ _ _ => trivial)⟩⟩ rfl rfl hl.1 rfl (lv_room (Nat.le_of_ble_eq_true rfl)) d_DiscMakerModel_link_142 ⟨hkc, hks⟩) hS (fun q _ h => hFc q h) hFc (fun r64 u t H1 locs ht hvm hp_r64 hB hz1 hk1 hS => ?_)
                  obtain ⟨nd_65, gK_66, gP_67, gO_68, gG_69, gSz_70, gSd_71, gN_72, gNS_73, gT_74, gTS_75⟩ := u
                  obtain ⟨hP1, hD1⟩ := hB
                  rw [ht] at hP1
                  obtain ⟨hP, hD⟩ := va_join (wr := [((ma 3), .inl (cI, 40, .inl fM))]) (w1 := [(h0, .inr (11, MO ma 0 0 nd_65 sv_many sv_directories sv_runsFrom sv_runs sv_read sv_wrong sv_isNamed sv_goes sv_goesSize sv_goesAt sv_targetParts sv_isRoot)), ((ma 0), .inl (cB, 400, .inl fX)), ((ma 1), .inl (cI, 40, .inl gK_66)), ((ma 2), .inl (cI, 40, .inl gP_67)), ((ma 4), .inl (cI, 40, .inl gO_68)), ((ma 5), .inl (cI, 40, .inl gG_69)), ((ma 6), .inl (cI, 40, .inl gSz_70)), ((ma 7), .inl (cI, 40, .inl gSd_71)), ((ma 8), .inl (cB, 1200, .inl gN_72)), ((ma 9), .inl (cI, 40, .inl gNS_73)), ((ma 10), .inl (cB, 8000, .inl gT_74)), ((ma 11), .inl (cI, 40, .inl gTS_75))]) hP hD [0, 1, 2, 3, 4, 5, 6, 7, 8, 9, 10, 11] [12] rfl rfl (by decide) (by decide) hk1 hFc hP1 hD1
                  clear hPc hDc hFc hP1 hD1 hk1 hz1
                  generalize H1 = H at hP hS ⊢
                  have hP : va_P D CL [((ma 3), .inl (cI, 40, .inl fM)), (h0, .inr (11, MO ma 0 0 nd_65 sv_many sv_directories sv_runsFrom sv_runs sv_read sv_wrong sv_isNamed sv_goes sv_goesSize sv_goesAt sv_targetParts sv_isRoot)), ((ma 0), .inl (cB, 400, .inl fX)), ((ma 1), .inl (cI, 40, .inl gK_66)), ((ma 2), .inl (cI, 40, .inl gP_67)), ((ma 4), .inl (cI, 40, .inl gO_68)), ((ma 5), .inl (cI, 40, .inl gG_69)), ((ma 6), .inl (cI, 40, .inl gSz_70)), ((ma 7), .inl (cI, 40, .inl gSd_71)), ((ma 8), .inl (cB, 1200, .inl gN_72)), ((ma 9), .inl (cI, 40, .inl gNS_73)), ((ma 10), .inl (cB, 8000, .inl gT_74)), ((ma 11), .inl (cI, 40, .inl gTS_75))] H := hP
                  have hD : va_D A [((ma 3), .inl (cI, 40, .inl fM)), (h0, .inr (11, MO ma 0 0 nd_65 sv_many sv_directories sv_runsFrom sv_runs sv_read sv_wrong sv_isNamed sv_goes sv_goesSize sv_goesAt sv_targetParts sv_isRoot)), ((ma 0), .inl (cB, 400, .inl fX)), ((ma 1), .inl (cI, 40, .inl gK_66)), ((ma 2), .inl (cI, 40, .inl gP_67)), ((ma 4), .inl (cI, 40, .inl gO_68)), ((ma 5), .inl (cI, 40, .inl gG_69)), ((ma 6), .inl (cI, 40, .inl gSz_70)), ((ma 7), .inl (cI, 40, .inl gSd_71)), ((ma 8), .inl (cB, 1200, .inl gN_72)), ((ma 9), .inl (cI, 40, .inl gNS_73)), ((ma 10), .inl (cB, 8000, .inl gT_74)), ((ma 11), .inl (cI, 40, .inl gTS_75))] := hD
                  try dsimp only at hp_r64
                  obtain ⟨hr_76, hT_77⟩ := hp_r64
                  have hn9 := hT_77.n1
                  refine lv_istore hx hb d_DiscMakerModel_link_145 hl (by decide) rfl (fun ls hl => ?_)
                  have hl : lv_has ls 6 [(5, .int r64), (0, .ref h0), (1, .int x), (2, .int nn), (3, .int v45), (4, .int rh)] := hl
                  refine lv_iload hx hb d_DiscMakerModel_link_147 (lv_at hl 0 rfl) ?_
                  refine lv_if_lt (tgt := 162) hx hb d_DiscMakerModel_link_149 (by decide) (fun h_9 => ?_) (fun h_9 => ?_)
                  · skip
                    have g149_201 : r64.toInt < 0 := (i_lt rfl (by decide)).mp h_9
                    refine lv_iload hx hb d_DiscMakerModel_link_162 (lv_at hl 0 rfl) ?_
                    have hP9 := hP.sub (ws' := [(h0, .inr (11, MO ma 0 0 nd_65 sv_many sv_directories sv_runsFrom sv_runs sv_read sv_wrong sv_isNamed sv_goes sv_goesSize sv_goesAt sv_targetParts sv_isRoot)), ((ma 0), .inl (cB, 400, .inl fX)), ((ma 1), .inl (cI, 40, .inl gK_66)), ((ma 2), .inl (cI, 40, .inl gP_67)), ((ma 4), .inl (cI, 40, .inl gO_68)), ((ma 5), .inl (cI, 40, .inl gG_69)), ((ma 6), .inl (cI, 40, .inl gSz_70)), ((ma 7), .inl (cI, 40, .inl gSd_71)), ((ma 8), .inl (cB, 1200, .inl gN_72)), ((ma 9), .inl (cI, 40, .inl gNS_73)), ((ma 10), .inl (cB, 8000, .inl gT_74)), ((ma 11), .inl (cI, 40, .inl gTS_75)), ((ma 3), .inl (cI, 40, .inl fM))]) [1, 2, 3, 4, 5, 6, 7, 8, 9, 10, 11, 12, 0] rfl
                    have hD9 := hD.sub (ws' := [(h0, .inr (11, MO ma 0 0 nd_65 sv_many sv_directories sv_runsFrom sv_runs sv_read sv_wrong sv_isNamed sv_goes sv_goesSize sv_goesAt sv_targetParts sv_isRoot)), ((ma 0), .inl (cB, 400, .inl fX)), ((ma 1), .inl (cI, 40, .inl gK_66)), ((ma 2), .inl (cI, 40, .inl gP_67)), ((ma 4), .inl (cI, 40, .inl gO_68)), ((ma 5), .inl (cI, 40, .inl gG_69)), ((ma 6), .inl (cI, 40, .inl gSz_70)), ((ma 7), .inl (cI, 40, .inl gSd_71)), ((ma 8), .inl (cB, 1200, .inl gN_72)), ((ma 9), .inl (cI, 40, .inl gNS_73)), ((ma 10), .inl (cB, 8000, .inl gT_74)), ((ma 11), .inl (cI, 40, .inl gTS_75)), ((ma 3), .inl (cI, 40, .inl fM))]) [1, 2, 3, 4, 5, 6, 7, 8, 9, 10, 11, 12, 0] (by decide) rfl
                    exact W.iret (v := r64) hx hb hr (fun t ht hW => ⟨⟨r64, (0, nd_65, gK_66, gP_67, gO_68, gG_69, gSz_70, gSd_71, gN_72, gNS_73, gT_74, gTS_75, fM), rfl, hT_77, by rw [ht]; exact hP9, hD9⟩, hS.F ht⟩) hS.2.2 d_DiscMakerModel_link_164
                  · skip
                    have g149_201 : ¬ r64.toInt < 0 := fun h8 => h_9 ((i_lt rfl (by decide)).mpr h8)
                    refine lv_aload_n hx hb d_DiscMakerModel_link_152 rfl (lv_at hl 1 rfl) ?_
                    refine va_get (D := D) (ci := 11) (v := .ref (ma 3)) (C := "DiscMakerModel") (T := F_DiscMakerModel) (N := 48) hx hb ht9 in_DiscMakerModel hown hK hP 1 rfl rfl 6 (by decide) (ht9 _ k1437) (fun _ h9 => h9) rfl d_DiscMakerModel_link_153 ?_
                    refine lv_iload hx hb d_DiscMakerModel_link_156 (lv_at hl 0 rfl) ?_
                    refine lv_sipush (v := 511) hx hb d_DiscMakerModel_link_158 (by decide) ?_
                    refine zq_iast hx hb hK hP hD hS 0 1 rfl rfl (vp_in_iff.mpr ⟨by omega, by omega⟩) d_DiscMakerModel_link_161 (fun f78 e_f78 H locs hP hD hS => ?_)
                    have hP : va_P D CL [((ma 3), .inl (cI, 40, .inl f78)), (h0, .inr (11, MO ma 0 0 nd_65 sv_many sv_directories sv_runsFrom sv_runs sv_read sv_wrong sv_isNamed sv_goes sv_goesSize sv_goesAt sv_targetParts sv_isRoot)), ((ma 0), .inl (cB, 400, .inl fX)), ((ma 1), .inl (cI, 40, .inl gK_66)), ((ma 2), .inl (cI, 40, .inl gP_67)), ((ma 4), .inl (cI, 40, .inl gO_68)), ((ma 5), .inl (cI, 40, .inl gG_69)), ((ma 6), .inl (cI, 40, .inl gSz_70)), ((ma 7), .inl (cI, 40, .inl gSd_71)), ((ma 8), .inl (cB, 1200, .inl gN_72)), ((ma 9), .inl (cI, 40, .inl gNS_73)), ((ma 10), .inl (cB, 8000, .inl gT_74)), ((ma 11), .inl (cI, 40, .inl gTS_75))] H := hP
                    have hD : va_D A [((ma 3), .inl (cI, 40, .inl f78)), (h0, .inr (11, MO ma 0 0 nd_65 sv_many sv_directories sv_runsFrom sv_runs sv_read sv_wrong sv_isNamed sv_goes sv_goesSize sv_goesAt sv_targetParts sv_isRoot)), ((ma 0), .inl (cB, 400, .inl fX)), ((ma 1), .inl (cI, 40, .inl gK_66)), ((ma 2), .inl (cI, 40, .inl gP_67)), ((ma 4), .inl (cI, 40, .inl gO_68)), ((ma 5), .inl (cI, 40, .inl gG_69)), ((ma 6), .inl (cI, 40, .inl gSz_70)), ((ma 7), .inl (cI, 40, .inl gSd_71)), ((ma 8), .inl (cB, 1200, .inl gN_72)), ((ma 9), .inl (cI, 40, .inl gNS_73)), ((ma 10), .inl (cB, 8000, .inl gT_74)), ((ma 11), .inl (cI, 40, .inl gTS_75))] := hD
                    have s_f78 : f78 r64.toNatClampNeg = 511 := by rw [e_f78]; unfold upd; rw [if_pos rfl]
                    refine lv_iload hx hb d_DiscMakerModel_link_162 (lv_at hl 0 rfl) ?_
                    have hP9 := hP.sub (ws' := [(h0, .inr (11, MO ma 0 0 nd_65 sv_many sv_directories sv_runsFrom sv_runs sv_read sv_wrong sv_isNamed sv_goes sv_goesSize sv_goesAt sv_targetParts sv_isRoot)), ((ma 0), .inl (cB, 400, .inl fX)), ((ma 1), .inl (cI, 40, .inl gK_66)), ((ma 2), .inl (cI, 40, .inl gP_67)), ((ma 4), .inl (cI, 40, .inl gO_68)), ((ma 5), .inl (cI, 40, .inl gG_69)), ((ma 6), .inl (cI, 40, .inl gSz_70)), ((ma 7), .inl (cI, 40, .inl gSd_71)), ((ma 8), .inl (cB, 1200, .inl gN_72)), ((ma 9), .inl (cI, 40, .inl gNS_73)), ((ma 10), .inl (cB, 8000, .inl gT_74)), ((ma 11), .inl (cI, 40, .inl gTS_75)), ((ma 3), .inl (cI, 40, .inl f78))]) [1, 2, 3, 4, 5, 6, 7, 8, 9, 10, 11, 12, 0] rfl
                    have hD9 := hD.sub (ws' := [(h0, .inr (11, MO ma 0 0 nd_65 sv_many sv_directories sv_runsFrom sv_runs sv_read sv_wrong sv_isNamed sv_goes sv_goesSize sv_goesAt sv_targetParts sv_isRoot)), ((ma 0), .inl (cB, 400, .inl fX)), ((ma 1), .inl (cI, 40, .inl gK_66)), ((ma 2), .inl (cI, 40, .inl gP_67)), ((ma 4), .inl (cI, 40, .inl gO_68)), ((ma 5), .inl (cI, 40, .inl gG_69)), ((ma 6), .inl (cI, 40, .inl gSz_70)), ((ma 7), .inl (cI, 40, .inl gSd_71)), ((ma 8), .inl (cB, 1200, .inl gN_72)), ((ma 9), .inl (cI, 40, .inl gNS_73)), ((ma 10), .inl (cB, 8000, .inl gT_74)), ((ma 11), .inl (cI, 40, .inl gTS_75)), ((ma 3), .inl (cI, 40, .inl f78))]) [1, 2, 3, 4, 5, 6, 7, 8, 9, 10, 11, 12, 0] (by decide) rfl
                    exact W.iret (v := r64) hx hb hr (fun t ht hW => ⟨⟨r64, (0, nd_65, gK_66, gP_67, gO_68, gG_69, gSz_70, gSd_71, gN_72, gNS_73, gT_74, gTS_75, f78), rfl, hT_77, by rw [ht]; exact hP9, hD9⟩, hS.F ht⟩) hS.2.2 d_DiscMakerModel_link_164
                · skip
                  intro kk142
                  refine lv_iload hx hb d_DiscMakerModel_link_118 (lv_at hl 4 rfl) ?_
                  refine lv_if_eq (tgt := 141) hx hb d_DiscMakerModel_link_120 (by decide) (fun h_9 => ?_) (fun h_9 => ?_)
                  · skip
                    have g120_212 : rh.toInt = 0 := (i_eq rfl (by decide)).mp h_9
                    refine lv_iconst (v := 0) hx hb d_DiscMakerModel_link_141 (by decide) ?_
                    have hP := hP.sub (ws' := [(h0, .inr (11, MO ma 0 sv_length sv_nodes sv_many sv_directories sv_runsFrom sv_runs sv_read sv_wrong sv_isNamed sv_goes sv_goesSize sv_goesAt sv_targetParts sv_isRoot)), ((ma 0), .inl (cB, 400, .inl fX)), ((ma 1), .inl (cI, 40, .inl fK)), ((ma 2), .inl (cI, 40, .inl fP)), ((ma 4), .inl (cI, 40, .inl fO)), ((ma 5), .inl (cI, 40, .inl fG)), ((ma 6), .inl (cI, 40, .inl fSz)), ((ma 7), .inl (cI, 40, .inl fSd)), ((ma 8), .inl (cB, 1200, .inl fN)), ((ma 9), .inl (cI, 40, .inl fNS)), ((ma 10), .inl (cB, 8000, .inl fT)), ((ma 11), .inl (cI, 40, .inl fTS)), ((ma 3), .inl (cI, 40, .inl fM))]) [0, 1, 2, 3, 4, 5, 6, 7, 8, 9, 10, 11, 12] rfl
                    have hD := hD.sub (ws' := [(h0, .inr (11, MO ma 0 sv_length sv_nodes sv_many sv_directories sv_runsFrom sv_runs sv_read sv_wrong sv_isNamed sv_goes sv_goesSize sv_goesAt sv_targetParts sv_isRoot)), ((ma 0), .inl (cB, 400, .inl fX)), ((ma 1), .inl (cI, 40, .inl fK)), ((ma 2), .inl (cI, 40, .inl fP)), ((ma 4), .inl (cI, 40, .inl fO)), ((ma 5), .inl (cI, 40, .inl fG)), ((ma 6), .inl (cI, 40, .inl fSz)), ((ma 7), .inl (cI, 40, .inl fSd)), ((ma 8), .inl (cB, 1200, .inl fN)), ((ma 9), .inl (cI, 40, .inl fNS)), ((ma 10), .inl (cB, 8000, .inl fT)), ((ma 11), .inl (cI, 40, .inl fTS)), ((ma 3), .inl (cI, 40, .inl fM))]) [0, 1, 2, 3, 4, 5, 6, 7, 8, 9, 10, 11, 12] (by decide) rfl
                    have hl := lv_sub hl [0, 1, 2, 3, 4, 5] rfl
                    exact kk142 _ _ _ _ _ ⟨0, rfl, rfl, (by (try dsimp only); first | omega | assumption | trivial), (by (try dsimp only); first | omega | assumption | trivial), hP, hD, hS, hl⟩
                  · skip
                    have g120_212 : ¬ rh.toInt = 0 := fun h8 => h_9 ((i_eq rfl (by decide)).mpr h8)
                    refine lv_aload_n hx hb d_DiscMakerModel_link_123 rfl (lv_at hl 0 rfl) ?_
                    refine lv_iload_n hx hb d_DiscMakerModel_link_124 rfl (lv_at hl 3 rfl) ?_
                    refine lv_iload_n hx hb d_DiscMakerModel_link_125 rfl (lv_at hl 2 rfl) ?_
                    refine lv_iconst (v := 1) hx hb d_DiscMakerModel_link_126 (by decide) ?_
                    refine lv_iadd hx hb d_DiscMakerModel_link_127 ?_
                    refine lv_topi (fun v79 e_v79 => ?_)
                    have t_v79 : v79.toInt = nn.toInt + 1 := by rw [e_v79]; exact i_add rfl (by decide) (by omega) (by omega)
                    have hPc := hP.sub (ws' := [(h0, .inr (11, MO ma 0 sv_length sv_nodes sv_many sv_directories sv_runsFrom sv_runs sv_read sv_wrong sv_isNamed sv_goes sv_goesSize sv_goesAt sv_targetParts sv_isRoot)), ((ma 0), .inl (cB, 400, .inl fX))]) [0, 1] rfl
                    have hDc := hD.sub (ws' := [(h0, .inr (11, MO ma 0 sv_length sv_nodes sv_many sv_directories sv_runsFrom sv_runs sv_read sv_wrong sv_isNamed sv_goes sv_goesSize sv_goesAt sv_targetParts sv_isRoot)), ((ma 0), .inl (cB, 400, .inl fX))]) [0, 1] (by decide) rfl
                    have hFc := va_free (wc := [(h0, .inr (11, MO ma 0 sv_length sv_nodes sv_many sv_directories sv_runsFrom sv_runs sv_read sv_wrong sv_isNamed sv_goes sv_goesSize sv_goesAt sv_targetParts sv_isRoot)), ((ma 0), .inl (cB, 400, .inl fX))]) hD hS hA [0, 1] rfl
                    have hkc : 0 ≤ 0 := by decide
                    have hks : 0 ≤ 0 := by decide
                    refine va_calli (va_runV (C := "DiscMakerModel") (As := [.int v45, .int v79]) (rest := [.int nn, .int 2, .int x, .ref h0]) ⟨hx, hb, hml, hown, hts⟩ (m_componentsOf l D cB cI cJ cZ cN cF H.size h0 ma 0 sv_length sv_nodes sv_many sv_directories sv_runsFrom sv_runs sv_read sv_wrong sv_isNamed sv_goes sv_goesSize sv_goesAt sv_targetParts sv_isRoot fX v45 v79 (by (try dsimp only); first | omega | assumption | trivial) (by (try dsimp only); first | omega | assumption | trivial)) (cwV 2 hts (lg_goodV k1636 k1638 k59 k125 kc_DiscMakerModel_componentsOf) rfl rfl rfl (by decide +kernel) ⟨Nat.le_of_ble_eq_true rfl, Nat.le_of_ble_eq_true rfl⟩) ⟨fun a U g mk q => by obtain ⟨q0, q1, qP, qK, qN, qD⟩ := q; exact ⟨q0, q1, qP, va_K.moved (u := U) (U := U.calling g mk a) (Vm.Alike.refl U.vm) qK, qN.calling, qD⟩, va_recv hK hP (ci := 11) (q0 := 0) rfl rfl, fun U hU hW => ⟨rfl, by rw [hU], by rw [hU]; exact hPc, va_K.moved hW.alike hK, NN.warm hW hN, hDc.weaken (fun _ _ _ _ => trivial)⟩⟩ rfl rfl hl.1 rfl (lv_room (Nat.le_of_ble_eq_true rfl)) d_DiscMakerModel_link_128 ⟨hkc, hks⟩) hS (fun q _ h => hFc q h) hFc (fun r80 u t H1 locs ht hvm hp_r80 hB hz1 hk1 hS => ?_)
                    obtain ⟨hP1, hD1⟩ := hB
                    rw [ht] at hP1
                    obtain ⟨hP, hD⟩ := va_join (wr := [((ma 1), .inl (cI, 40, .inl fK)), ((ma 2), .inl (cI, 40, .inl fP)), ((ma 4), .inl (cI, 40, .inl fO)), ((ma 5), .inl (cI, 40, .inl fG)), ((ma 6), .inl (cI, 40, .inl fSz)), ((ma 7), .inl (cI, 40, .inl fSd)), ((ma 8), .inl (cB, 1200, .inl fN)), ((ma 9), .inl (cI, 40, .inl fNS)), ((ma 10), .inl (cB, 8000, .inl fT)), ((ma 11), .inl (cI, 40, .inl fTS)), ((ma 3), .inl (cI, 40, .inl fM))]) (w1 := [(h0, .inr (11, MO ma 0 sv_length sv_nodes sv_many sv_directories sv_runsFrom sv_runs sv_read sv_wrong sv_isNamed sv_goes sv_goesSize sv_goesAt sv_targetParts sv_isRoot)), ((ma 0), .inl (cB, 400, .inl fX))]) hP hD [0, 1] [2, 3, 4, 5, 6, 7, 8, 9, 10, 11, 12] rfl rfl (by decide) (by decide) hk1 hFc hP1 hD1
                    clear hPc hDc hFc hP1 hD1 hk1 hz1
                    generalize H1 = H at hP hS ⊢
                    have hP : va_P D CL [((ma 1), .inl (cI, 40, .inl fK)), ((ma 2), .inl (cI, 40, .inl fP)), ((ma 4), .inl (cI, 40, .inl fO)), ((ma 5), .inl (cI, 40, .inl fG)), ((ma 6), .inl (cI, 40, .inl fSz)), ((ma 7), .inl (cI, 40, .inl fSd)), ((ma 8), .inl (cB, 1200, .inl fN)), ((ma 9), .inl (cI, 40, .inl fNS)), ((ma 10), .inl (cB, 8000, .inl fT)), ((ma 11), .inl (cI, 40, .inl fTS)), ((ma 3), .inl (cI, 40, .inl fM)), (h0, .inr (11, MO ma 0 sv_length sv_nodes sv_many sv_directories sv_runsFrom sv_runs sv_read sv_wrong sv_isNamed sv_goes sv_goesSize sv_goesAt sv_targetParts sv_isRoot)), ((ma 0), .inl (cB, 400, .inl fX))] H := hP
                    have hD : va_D A [((ma 1), .inl (cI, 40, .inl fK)), ((ma 2), .inl (cI, 40, .inl fP)), ((ma 4), .inl (cI, 40, .inl fO)), ((ma 5), .inl (cI, 40, .inl fG)), ((ma 6), .inl (cI, 40, .inl fSz)), ((ma 7), .inl (cI, 40, .inl fSd)), ((ma 8), .inl (cB, 1200, .inl fN)), ((ma 9), .inl (cI, 40, .inl fNS)), ((ma 10), .inl (cB, 8000, .inl fT)), ((ma 11), .inl (cI, 40, .inl fTS)), ((ma 3), .inl (cI, 40, .inl fM)), (h0, .inr (11, MO ma 0 sv_length sv_nodes sv_many sv_directories sv_runsFrom sv_runs sv_read sv_wrong sv_isNamed sv_goes sv_goesSize sv_goesAt sv_targetParts sv_isRoot)), ((ma 0), .inl (cB, 400, .inl fX))] := hD
                    refine lv_sipush (v := 245) hx hb d_DiscMakerModel_link_131 (by decide) ?_
                    refine lv_icmp_gt (tgt := 141) hx hb d_DiscMakerModel_link_134 (by decide) (fun h_9 => ?_) (fun h_9 => ?_)
                    · skip
                      have g134_222 : 245 < r80.toInt := (i_lt (by decide) rfl).mp h_9
                      refine lv_iconst (v := 0) hx hb d_DiscMakerModel_link_141 (by decide) ?_
                      have hP := hP.sub (ws' := [(h0, .inr (11, MO ma 0 sv_length sv_nodes sv_many sv_directories sv_runsFrom sv_runs sv_read sv_wrong sv_isNamed sv_goes sv_goesSize sv_goesAt sv_targetParts sv_isRoot)), ((ma 0), .inl (cB, 400, .inl fX)), ((ma 1), .inl (cI, 40, .inl fK)), ((ma 2), .inl (cI, 40, .inl fP)), ((ma 4), .inl (cI, 40, .inl fO)), ((ma 5), .inl (cI, 40, .inl fG)), ((ma 6), .inl (cI, 40, .inl fSz)), ((ma 7), .inl (cI, 40, .inl fSd)), ((ma 8), .inl (cB, 1200, .inl fN)), ((ma 9), .inl (cI, 40, .inl fNS)), ((ma 10), .inl (cB, 8000, .inl fT)), ((ma 11), .inl (cI, 40, .inl fTS)), ((ma 3), .inl (cI, 40, .inl fM))]) [11, 12, 0, 1, 2, 3, 4, 5, 6, 7, 8, 9, 10] rfl
                      have hD := hD.sub (ws' := [(h0, .inr (11, MO ma 0 sv_length sv_nodes sv_many sv_directories sv_runsFrom sv_runs sv_read sv_wrong sv_isNamed sv_goes sv_goesSize sv_goesAt sv_targetParts sv_isRoot)), ((ma 0), .inl (cB, 400, .inl fX)), ((ma 1), .inl (cI, 40, .inl fK)), ((ma 2), .inl (cI, 40, .inl fP)), ((ma 4), .inl (cI, 40, .inl fO)), ((ma 5), .inl (cI, 40, .inl fG)), ((ma 6), .inl (cI, 40, .inl fSz)), ((ma 7), .inl (cI, 40, .inl fSd)), ((ma 8), .inl (cB, 1200, .inl fN)), ((ma 9), .inl (cI, 40, .inl fNS)), ((ma 10), .inl (cB, 8000, .inl fT)), ((ma 11), .inl (cI, 40, .inl fTS)), ((ma 3), .inl (cI, 40, .inl fM))]) [11, 12, 0, 1, 2, 3, 4, 5, 6, 7, 8, 9, 10] (by decide) rfl
                      have hl := lv_sub hl [0, 1, 2, 3, 4, 5] rfl
                      exact kk142 _ _ _ _ _ ⟨0, rfl, rfl, (by (try dsimp only); first | omega | assumption | trivial), (by (try dsimp only); first | omega | assumption | trivial), hP, hD, hS, hl⟩
                    · skip
                      have g134_222 : ¬ 245 < r80.toInt := fun h8 => h_9 ((i_lt (by decide) rfl).mpr h8)
                      refine lv_iconst (v := 1) hx hb d_DiscMakerModel_link_137 (by decide) ?_
                      refine lv_goto (tgt := 142) hx hb d_DiscMakerModel_link_138 (by decide) ?_
                      have hP := hP.sub (ws' := [(h0, .inr (11, MO ma 0 sv_length sv_nodes sv_many sv_directories sv_runsFrom sv_runs sv_read sv_wrong sv_isNamed sv_goes sv_goesSize sv_goesAt sv_targetParts sv_isRoot)), ((ma 0), .inl (cB, 400, .inl fX)), ((ma 1), .inl (cI, 40, .inl fK)), ((ma 2), .inl (cI, 40, .inl fP)), ((ma 4), .inl (cI, 40, .inl fO)), ((ma 5), .inl (cI, 40, .inl fG)), ((ma 6), .inl (cI, 40, .inl fSz)), ((ma 7), .inl (cI, 40, .inl fSd)), ((ma 8), .inl (cB, 1200, .inl fN)), ((ma 9), .inl (cI, 40, .inl fNS)), ((ma 10), .inl (cB, 8000, .inl fT)), ((ma 11), .inl (cI, 40, .inl fTS)), ((ma 3), .inl (cI, 40, .inl fM))]) [11, 12, 0, 1, 2, 3, 4, 5, 6, 7, 8, 9, 10] rfl
                      have hD := hD.sub (ws' := [(h0, .inr (11, MO ma 0 sv_length sv_nodes sv_many sv_directories sv_runsFrom sv_runs sv_read sv_wrong sv_isNamed sv_goes sv_goesSize sv_goesAt sv_targetParts sv_isRoot)), ((ma 0), .inl (cB, 400, .inl fX)), ((ma 1), .inl (cI, 40, .inl fK)), ((ma 2), .inl (cI, 40, .inl fP)), ((ma 4), .inl (cI, 40, .inl fO)), ((ma 5), .inl (cI, 40, .inl fG)), ((ma 6), .inl (cI, 40, .inl fSz)), ((ma 7), .inl (cI, 40, .inl fSd)), ((ma 8), .inl (cB, 1200, .inl fN)), ((ma 9), .inl (cI, 40, .inl fNS)), ((ma 10), .inl (cB, 8000, .inl fT)), ((ma 11), .inl (cI, 40, .inl fTS)), ((ma 3), .inl (cI, 40, .inl fM))]) [11, 12, 0, 1, 2, 3, 4, 5, 6, 7, 8, 9, 10] (by decide) rfl
                      have hl := lv_sub hl [0, 1, 2, 3, 4, 5] rfl
                      exact kk142 _ _ _ _ _ ⟨1, rfl, rfl, (by (try dsimp only); first | omega | assumption | trivial), (by (try dsimp only); first | omega | assumption | trivial), hP, hD, hS, hl⟩
              · skip
                have g74_193 : ¬ rh.toInt = 0 := fun h8 => h_9 ((i_eq rfl (by decide)).mpr h8)
                refine lv_aload_n hx hb d_DiscMakerModel_link_77 rfl (lv_at hl 0 rfl) ?_
                refine va_get (D := D) (ci := 11) (v := .ref (ma 0)) (C := "DiscMakerModel") (T := F_DiscMakerModel) (N := 48) hx hb ht9 in_DiscMakerModel hown hK hP 0 rfl rfl 1 (by decide) (ht9 _ k1432) (fun _ h9 => h9) rfl d_DiscMakerModel_link_78 ?_
                refine lv_iload hx hb d_DiscMakerModel_link_81 (lv_at hl 5 rfl) ?_
                refine va_bald hx hb hK hP 1 0 rfl rfl (vp_in_iff.mpr ⟨by omega, by omega⟩) d_DiscMakerModel_link_83 ?_
                refine lv_topi (fun v81 e_v81 => ?_)
                refine lv_bipush (v := 33) hx hb d_DiscMakerModel_link_84 (by decide) ?_
                refine lv_icmp_lt (tgt := 105) hx hb d_DiscMakerModel_link_86 (by decide) (fun h_9 => ?_) (fun h_9 => ?_)
                · skip
                  have g86_233 : v81.toInt < 33 := (i_lt rfl (by decide)).mp h_9
                  refine lv_iconst (v := 0) hx hb d_DiscMakerModel_link_105 (by decide) ?_
                  refine lv_istore hx hb d_DiscMakerModel_link_106 hl (by decide) rfl (fun ls hl => ?_)
                  have hl : lv_has ls 6 [(4, .int 0), (0, .ref h0), (1, .int x), (2, .int nn), (3, .int v45), (5, .int kx)] := hl
                  obtain ⟨v82, e_v82⟩ : ∃ z : Int32, z = kx + 1 := ⟨_, rfl⟩
                  refine lv_iinc (v := v82) hx hb d_DiscMakerModel_link_108 hl (k := 5) rfl e_v82.symm (by decide) rfl (fun ls hl => ?_)
                  have t_v82 : v82.toInt = kx.toInt + 1 := by rw [e_v82]; exact i_add rfl (by decide) (by omega) (by omega)
                  have hl : lv_has ls 6 [(5, .int v82), (4, .int 0), (0, .ref h0), (1, .int x), (2, .int nn), (3, .int v45)] := hl
                  refine lv_goto (tgt := 63) hx hb d_DiscMakerModel_link_111 (by decide) ?_
                  have hP := hP.sub (ws' := [(h0, .inr (11, MO ma 0 sv_length sv_nodes sv_many sv_directories sv_runsFrom sv_runs sv_read sv_wrong sv_isNamed sv_goes sv_goesSize sv_goesAt sv_targetParts sv_isRoot)), ((ma 0), .inl (cB, 400, .inl fX)), ((ma 1), .inl (cI, 40, .inl fK)), ((ma 2), .inl (cI, 40, .inl fP)), ((ma 4), .inl (cI, 40, .inl fO)), ((ma 5), .inl (cI, 40, .inl fG)), ((ma 6), .inl (cI, 40, .inl fSz)), ((ma 7), .inl (cI, 40, .inl fSd)), ((ma 8), .inl (cB, 1200, .inl fN)), ((ma 9), .inl (cI, 40, .inl fNS)), ((ma 10), .inl (cB, 8000, .inl fT)), ((ma 11), .inl (cI, 40, .inl fTS)), ((ma 3), .inl (cI, 40, .inl fM))]) [0, 1, 2, 3, 4, 5, 6, 7, 8, 9, 10, 11, 12] rfl
                  have hD := hD.sub (ws' := [(h0, .inr (11, MO ma 0 sv_length sv_nodes sv_many sv_directories sv_runsFrom sv_runs sv_read sv_wrong sv_isNamed sv_goes sv_goesSize sv_goesAt sv_targetParts sv_isRoot)), ((ma 0), .inl (cB, 400, .inl fX)), ((ma 1), .inl (cI, 40, .inl fK)), ((ma 2), .inl (cI, 40, .inl fP)), ((ma 4), .inl (cI, 40, .inl fO)), ((ma 5), .inl (cI, 40, .inl fG)), ((ma 6), .inl (cI, 40, .inl fSz)), ((ma 7), .inl (cI, 40, .inl fSd)), ((ma 8), .inl (cB, 1200, .inl fN)), ((ma 9), .inl (cI, 40, .inl fNS)), ((ma 10), .inl (cB, 8000, .inl fT)), ((ma 11), .inl (cI, 40, .inl fTS)), ((ma 3), .inl (cI, 40, .inl fM))]) [0, 1, 2, 3, 4, 5, 6, 7, 8, 9, 10, 11, 12] (by decide) rfl
                  have hl := lv_sub hl [2, 3, 4, 5, 1, 0] rfl
                  exact ih63 (_) (by first | omega | (dsimp only; omega)) _ _ _ _ ⟨0, v82, rfl, rfl, (by (try dsimp only); first | omega | assumption | trivial), (by (try dsimp only); first | omega | assumption | trivial), (by (try dsimp only); first | omega | assumption | trivial), hP, hD, hS, hl⟩
                · skip
                  have g86_233 : ¬ v81.toInt < 33 := fun h8 => h_9 ((i_lt rfl (by decide)).mpr h8)
                  refine lv_aload_n hx hb d_DiscMakerModel_link_89 rfl (lv_at hl 0 rfl) ?_
                  refine va_get (D := D) (ci := 11) (v := .ref (ma 0)) (C := "DiscMakerModel") (T := F_DiscMakerModel) (N := 48) hx hb ht9 in_DiscMakerModel hown hK hP 0 rfl rfl 1 (by decide) (ht9 _ k1432) (fun _ h9 => h9) rfl d_DiscMakerModel_link_90 ?_
                  refine lv_iload hx hb d_DiscMakerModel_link_93 (lv_at hl 5 rfl) ?_
                  refine va_bald hx hb hK hP 1 0 rfl rfl (vp_in_iff.mpr ⟨by omega, by omega⟩) d_DiscMakerModel_link_95 ?_
                  refine lv_topi (fun v83 e_v83 => ?_)
                  have q_v83 : v83.toInt = v81.toInt := by rw [e_v83, e_v81]
                  refine lv_bipush (v := 126) hx hb d_DiscMakerModel_link_96 (by decide) ?_
                  refine lv_icmp_gt (tgt := 105) hx hb d_DiscMakerModel_link_98 (by decide) (fun h_9 => ?_) (fun h_9 => ?_)
                  · skip
                    have g98_244 : 126 < v83.toInt := (i_lt (by decide) rfl).mp h_9
                    refine lv_iconst (v := 0) hx hb d_DiscMakerModel_link_105 (by decide) ?_
                    refine lv_istore hx hb d_DiscMakerModel_link_106 hl (by decide) rfl (fun ls hl => ?_)
                    have hl : lv_has ls 6 [(4, .int 0), (0, .ref h0), (1, .int x), (2, .int nn), (3, .int v45), (5, .int kx)] := hl
                    obtain ⟨v84, e_v84⟩ : ∃ z : Int32, z = kx + 1 := ⟨_, rfl⟩
                    refine lv_iinc (v := v84) hx hb d_DiscMakerModel_link_108 hl (k := 5) rfl e_v84.symm (by decide) rfl (fun ls hl => ?_)
                    have t_v84 : v84.toInt = kx.toInt + 1 := by rw [e_v84]; exact i_add rfl (by decide) (by omega) (by omega)
                    have hl : lv_has ls 6 [(5, .int v84), (4, .int 0), (0, .ref h0), (1, .int x), (2, .int nn), (3, .int v45)] := hl
                    refine lv_goto (tgt := 63) hx hb d_DiscMakerModel_link_111 (by decide) ?_
                    have hP := hP.sub (ws' := [(h0, .inr (11, MO ma 0 sv_length sv_nodes sv_many sv_directories sv_runsFrom sv_runs sv_read sv_wrong sv_isNamed sv_goes sv_goesSize sv_goesAt sv_targetParts sv_isRoot)), ((ma 0), .inl (cB, 400, .inl fX)), ((ma 1), .inl (cI, 40, .inl fK)), ((ma 2), .inl (cI, 40, .inl fP)), ((ma 4), .inl (cI, 40, .inl fO)), ((ma 5), .inl (cI, 40, .inl fG)), ((ma 6), .inl (cI, 40, .inl fSz)), ((ma 7), .inl (cI, 40, .inl fSd)), ((ma 8), .inl (cB, 1200, .inl fN)), ((ma 9), .inl (cI, 40, .inl fNS)), ((ma 10), .inl (cB, 8000, .inl fT)), ((ma 11), .inl (cI, 40, .inl fTS)), ((ma 3), .inl (cI, 40, .inl fM))]) [0, 1, 2, 3, 4, 5, 6, 7, 8, 9, 10, 11, 12] rfl
                    have hD := hD.sub (ws' := [(h0, .inr (11, MO ma 0 sv_length sv_nodes sv_many sv_directories sv_runsFrom sv_runs sv_read sv_wrong sv_isNamed sv_goes sv_goesSize sv_goesAt sv_targetParts sv_isRoot)), ((ma 0), .inl (cB, 400, .inl fX)), ((ma 1), .inl (cI, 40, .inl fK)), ((ma 2), .inl (cI, 40, .inl fP)), ((ma 4), .inl (cI, 40, .inl fO)), ((ma 5), .inl (cI, 40, .inl fG)), ((ma 6), .inl (cI, 40, .inl fSz)), ((ma 7), .inl (cI, 40, .inl fSd)), ((ma 8), .inl (cB, 1200, .inl fN)), ((ma 9), .inl (cI, 40, .inl fNS)), ((ma 10), .inl (cB, 8000, .inl fT)), ((ma 11), .inl (cI, 40, .inl fTS)), ((ma 3), .inl (cI, 40, .inl fM))]) [0, 1, 2, 3, 4, 5, 6, 7, 8, 9, 10, 11, 12] (by decide) rfl
                    have hl := lv_sub hl [2, 3, 4, 5, 1, 0] rfl
                    exact ih63 (_) (by first | omega | (dsimp only; omega)) _ _ _ _ ⟨0, v84, rfl, rfl, (by (try dsimp only); first | omega | assumption | trivial), (by (try dsimp only); first | omega | assumption | trivial), (by (try dsimp only); first | omega | assumption | trivial), hP, hD, hS, hl⟩
                  · skip
                    have g98_244 : ¬ 126 < v83.toInt := fun h8 => h_9 ((i_lt (by decide) rfl).mpr h8)
                    refine lv_iconst (v := 1) hx hb d_DiscMakerModel_link_101 (by decide) ?_
                    refine lv_goto (tgt := 106) hx hb d_DiscMakerModel_link_102 (by decide) ?_
                    refine lv_istore hx hb d_DiscMakerModel_link_106 hl (by decide) rfl (fun ls hl => ?_)
                    have hl : lv_has ls 6 [(4, .int 1), (0, .ref h0), (1, .int x), (2, .int nn), (3, .int v45), (5, .int kx)] := hl
                    obtain ⟨v85, e_v85⟩ : ∃ z : Int32, z = kx + 1 := ⟨_, rfl⟩
                    refine lv_iinc (v := v85) hx hb d_DiscMakerModel_link_108 hl (k := 5) rfl e_v85.symm (by decide) rfl (fun ls hl => ?_)
                    have t_v85 : v85.toInt = kx.toInt + 1 := by rw [e_v85]; exact i_add rfl (by decide) (by omega) (by omega)
                    have hl : lv_has ls 6 [(5, .int v85), (4, .int 1), (0, .ref h0), (1, .int x), (2, .int nn), (3, .int v45)] := hl
                    refine lv_goto (tgt := 63) hx hb d_DiscMakerModel_link_111 (by decide) ?_
                    have hP := hP.sub (ws' := [(h0, .inr (11, MO ma 0 sv_length sv_nodes sv_many sv_directories sv_runsFrom sv_runs sv_read sv_wrong sv_isNamed sv_goes sv_goesSize sv_goesAt sv_targetParts sv_isRoot)), ((ma 0), .inl (cB, 400, .inl fX)), ((ma 1), .inl (cI, 40, .inl fK)), ((ma 2), .inl (cI, 40, .inl fP)), ((ma 4), .inl (cI, 40, .inl fO)), ((ma 5), .inl (cI, 40, .inl fG)), ((ma 6), .inl (cI, 40, .inl fSz)), ((ma 7), .inl (cI, 40, .inl fSd)), ((ma 8), .inl (cB, 1200, .inl fN)), ((ma 9), .inl (cI, 40, .inl fNS)), ((ma 10), .inl (cB, 8000, .inl fT)), ((ma 11), .inl (cI, 40, .inl fTS)), ((ma 3), .inl (cI, 40, .inl fM))]) [0, 1, 2, 3, 4, 5, 6, 7, 8, 9, 10, 11, 12] rfl
                    have hD := hD.sub (ws' := [(h0, .inr (11, MO ma 0 sv_length sv_nodes sv_many sv_directories sv_runsFrom sv_runs sv_read sv_wrong sv_isNamed sv_goes sv_goesSize sv_goesAt sv_targetParts sv_isRoot)), ((ma 0), .inl (cB, 400, .inl fX)), ((ma 1), .inl (cI, 40, .inl fK)), ((ma 2), .inl (cI, 40, .inl fP)), ((ma 4), .inl (cI, 40, .inl fO)), ((ma 5), .inl (cI, 40, .inl fG)), ((ma 6), .inl (cI, 40, .inl fSz)), ((ma 7), .inl (cI, 40, .inl fSd)), ((ma 8), .inl (cB, 1200, .inl fN)), ((ma 9), .inl (cI, 40, .inl fNS)), ((ma 10), .inl (cB, 8000, .inl fT)), ((ma 11), .inl (cI, 40, .inl fTS)), ((ma 3), .inl (cI, 40, .inl fM))]) [0, 1, 2, 3, 4, 5, 6, 7, 8, 9, 10, 11, 12] (by decide) rfl
                    have hl := lv_sub hl [2, 3, 4, 5, 1, 0] rfl
                    exact ih63 (_) (by first | omega | (dsimp only; omega)) _ _ _ _ ⟨1, v85, rfl, rfl, (by (try dsimp only); first | omega | assumption | trivial), (by (try dsimp only); first | omega | assumption | trivial), (by (try dsimp only); first | omega | assumption | trivial), hP, hD, hS, hl⟩
          · skip
            intro kk63
            have hP := hP.sub (ws' := [(h0, .inr (11, MO ma 0 sv_length sv_nodes sv_many sv_directories sv_runsFrom sv_runs sv_read sv_wrong sv_isNamed sv_goes sv_goesSize sv_goesAt sv_targetParts sv_isRoot)), ((ma 0), .inl (cB, 400, .inl fX)), ((ma 1), .inl (cI, 40, .inl fK)), ((ma 2), .inl (cI, 40, .inl fP)), ((ma 4), .inl (cI, 40, .inl fO)), ((ma 5), .inl (cI, 40, .inl fG)), ((ma 6), .inl (cI, 40, .inl fSz)), ((ma 7), .inl (cI, 40, .inl fSd)), ((ma 8), .inl (cB, 1200, .inl fN)), ((ma 9), .inl (cI, 40, .inl fNS)), ((ma 10), .inl (cB, 8000, .inl fT)), ((ma 11), .inl (cI, 40, .inl fTS)), ((ma 3), .inl (cI, 40, .inl fM))]) [0, 1, 2, 3, 4, 5, 6, 7, 8, 9, 10, 11, 12] rfl
            have hD := hD.sub (ws' := [(h0, .inr (11, MO ma 0 sv_length sv_nodes sv_many sv_directories sv_runsFrom sv_runs sv_read sv_wrong sv_isNamed sv_goes sv_goesSize sv_goesAt sv_targetParts sv_isRoot)), ((ma 0), .inl (cB, 400, .inl fX)), ((ma 1), .inl (cI, 40, .inl fK)), ((ma 2), .inl (cI, 40, .inl fP)), ((ma 4), .inl (cI, 40, .inl fO)), ((ma 5), .inl (cI, 40, .inl fG)), ((ma 6), .inl (cI, 40, .inl fSz)), ((ma 7), .inl (cI, 40, .inl fSd)), ((ma 8), .inl (cB, 1200, .inl fN)), ((ma 9), .inl (cI, 40, .inl fNS)), ((ma 10), .inl (cB, 8000, .inl fT)), ((ma 11), .inl (cI, 40, .inl fTS)), ((ma 3), .inl (cI, 40, .inl fM))]) [0, 1, 2, 3, 4, 5, 6, 7, 8, 9, 10, 11, 12] (by decide) rfl
            have hl := lv_sub hl [2, 3, 4, 5, 1, 0] rfl
            exact kk63 _ _ _ _ _ ⟨rg, v46, rfl, rfl, (by (try dsimp only); first | omega | assumption | trivial), (by (try dsimp only); first | omega | assumption | trivial), (by (try dsimp only); first | omega | assumption | trivial), hP, hD, hS, hl⟩
        · skip
          intro kk56
          refine lv_iload_n hx hb d_DiscMakerModel_link_39 rfl (lv_at hl 0 rfl) ?_
          refine lv_iconst (v := 1) hx hb d_DiscMakerModel_link_40 (by decide) ?_
          refine lv_icmp_lt (tgt := 55) hx hb d_DiscMakerModel_link_41 (by decide) (fun h_9 => ?_) (fun h_9 => ?_)
          · skip
            have g41_258 : v45.toInt < 1 := (i_lt rfl (by decide)).mp h_9
            refine lv_iconst (v := 0) hx hb d_DiscMakerModel_link_55 (by decide) ?_
            have hP := hP.sub (ws' := [(h0, .inr (11, MO ma 0 sv_length sv_nodes sv_many sv_directories sv_runsFrom sv_runs sv_read sv_wrong sv_isNamed sv_goes sv_goesSize sv_goesAt sv_targetParts sv_isRoot)), ((ma 0), .inl (cB, 400, .inl fX)), ((ma 1), .inl (cI, 40, .inl fK)), ((ma 2), .inl (cI, 40, .inl fP)), ((ma 4), .inl (cI, 40, .inl fO)), ((ma 5), .inl (cI, 40, .inl fG)), ((ma 6), .inl (cI, 40, .inl fSz)), ((ma 7), .inl (cI, 40, .inl fSd)), ((ma 8), .inl (cB, 1200, .inl fN)), ((ma 9), .inl (cI, 40, .inl fNS)), ((ma 10), .inl (cB, 8000, .inl fT)), ((ma 11), .inl (cI, 40, .inl fTS)), ((ma 3), .inl (cI, 40, .inl fM))]) [0, 1, 2, 3, 4, 5, 6, 7, 8, 9, 10, 11, 12] rfl
            have hD := hD.sub (ws' := [(h0, .inr (11, MO ma 0 sv_length sv_nodes sv_many sv_directories sv_runsFrom sv_runs sv_read sv_wrong sv_isNamed sv_goes sv_goesSize sv_goesAt sv_targetParts sv_isRoot)), ((ma 0), .inl (cB, 400, .inl fX)), ((ma 1), .inl (cI, 40, .inl fK)), ((ma 2), .inl (cI, 40, .inl fP)), ((ma 4), .inl (cI, 40, .inl fO)), ((ma 5), .inl (cI, 40, .inl fG)), ((ma 6), .inl (cI, 40, .inl fSz)), ((ma 7), .inl (cI, 40, .inl fSd)), ((ma 8), .inl (cB, 1200, .inl fN)), ((ma 9), .inl (cI, 40, .inl fNS)), ((ma 10), .inl (cB, 8000, .inl fT)), ((ma 11), .inl (cI, 40, .inl fTS)), ((ma 3), .inl (cI, 40, .inl fM))]) [0, 1, 2, 3, 4, 5, 6, 7, 8, 9, 10, 11, 12] (by decide) rfl
            have hl := lv_sub hl [1, 2, 3, 0] rfl
            exact kk56 _ _ _ _ _ ⟨0, rfl, rfl, (by (try dsimp only); first | omega | assumption | trivial), (by (try dsimp only); first | omega | assumption | trivial), hP, hD, hS, hl⟩
          · skip
            have g41_258 : ¬ v45.toInt < 1 := fun h8 => h_9 ((i_lt rfl (by decide)).mpr h8)
            refine lv_iload_n hx hb d_DiscMakerModel_link_44 rfl (lv_at hl 0 rfl) ?_
            refine lv_sipush (v := 200) hx hb d_DiscMakerModel_link_45 (by decide) ?_
            refine lv_icmp_gt (tgt := 55) hx hb d_DiscMakerModel_link_48 (by decide) (fun h_9 => ?_) (fun h_9 => ?_)
            · skip
              have g48_263 : 200 < v45.toInt := (i_lt (by decide) rfl).mp h_9
              refine lv_iconst (v := 0) hx hb d_DiscMakerModel_link_55 (by decide) ?_
              have hP := hP.sub (ws' := [(h0, .inr (11, MO ma 0 sv_length sv_nodes sv_many sv_directories sv_runsFrom sv_runs sv_read sv_wrong sv_isNamed sv_goes sv_goesSize sv_goesAt sv_targetParts sv_isRoot)), ((ma 0), .inl (cB, 400, .inl fX)), ((ma 1), .inl (cI, 40, .inl fK)), ((ma 2), .inl (cI, 40, .inl fP)), ((ma 4), .inl (cI, 40, .inl fO)), ((ma 5), .inl (cI, 40, .inl fG)), ((ma 6), .inl (cI, 40, .inl fSz)), ((ma 7), .inl (cI, 40, .inl fSd)), ((ma 8), .inl (cB, 1200, .inl fN)), ((ma 9), .inl (cI, 40, .inl fNS)), ((ma 10), .inl (cB, 8000, .inl fT)), ((ma 11), .inl (cI, 40, .inl fTS)), ((ma 3), .inl (cI, 40, .inl fM))]) [0, 1, 2, 3, 4, 5, 6, 7, 8, 9, 10, 11, 12] rfl
              have hD := hD.sub (ws' := [(h0, .inr (11, MO ma 0 sv_length sv_nodes sv_many sv_directories sv_runsFrom sv_runs sv_read sv_wrong sv_isNamed sv_goes sv_goesSize sv_goesAt sv_targetParts sv_isRoot)), ((ma 0), .inl (cB, 400, .inl fX)), ((ma 1), .inl (cI, 40, .inl fK)), ((ma 2), .inl (cI, 40, .inl fP)), ((ma 4), .inl (cI, 40, .inl fO)), ((ma 5), .inl (cI, 40, .inl fG)), ((ma 6), .inl (cI, 40, .inl fSz)), ((ma 7), .inl (cI, 40, .inl fSd)), ((ma 8), .inl (cB, 1200, .inl fN)), ((ma 9), .inl (cI, 40, .inl fNS)), ((ma 10), .inl (cB, 8000, .inl fT)), ((ma 11), .inl (cI, 40, .inl fTS)), ((ma 3), .inl (cI, 40, .inl fM))]) [0, 1, 2, 3, 4, 5, 6, 7, 8, 9, 10, 11, 12] (by decide) rfl
              have hl := lv_sub hl [1, 2, 3, 0] rfl
              exact kk56 _ _ _ _ _ ⟨0, rfl, rfl, (by (try dsimp only); first | omega | assumption | trivial), (by (try dsimp only); first | omega | assumption | trivial), hP, hD, hS, hl⟩
            · skip
              have g48_263 : ¬ 200 < v45.toInt := fun h8 => h_9 ((i_lt (by decide) rfl).mpr h8)
              refine lv_iconst (v := 1) hx hb d_DiscMakerModel_link_51 (by decide) ?_
              refine lv_goto (tgt := 56) hx hb d_DiscMakerModel_link_52 (by decide) ?_
              have hP := hP.sub (ws' := [(h0, .inr (11, MO ma 0 sv_length sv_nodes sv_many sv_directories sv_runsFrom sv_runs sv_read sv_wrong sv_isNamed sv_goes sv_goesSize sv_goesAt sv_targetParts sv_isRoot)), ((ma 0), .inl (cB, 400, .inl fX)), ((ma 1), .inl (cI, 40, .inl fK)), ((ma 2), .inl (cI, 40, .inl fP)), ((ma 4), .inl (cI, 40, .inl fO)), ((ma 5), .inl (cI, 40, .inl fG)), ((ma 6), .inl (cI, 40, .inl fSz)), ((ma 7), .inl (cI, 40, .inl fSd)), ((ma 8), .inl (cB, 1200, .inl fN)), ((ma 9), .inl (cI, 40, .inl fNS)), ((ma 10), .inl (cB, 8000, .inl fT)), ((ma 11), .inl (cI, 40, .inl fTS)), ((ma 3), .inl (cI, 40, .inl fM))]) [0, 1, 2, 3, 4, 5, 6, 7, 8, 9, 10, 11, 12] rfl
              have hD := hD.sub (ws' := [(h0, .inr (11, MO ma 0 sv_length sv_nodes sv_many sv_directories sv_runsFrom sv_runs sv_read sv_wrong sv_isNamed sv_goes sv_goesSize sv_goesAt sv_targetParts sv_isRoot)), ((ma 0), .inl (cB, 400, .inl fX)), ((ma 1), .inl (cI, 40, .inl fK)), ((ma 2), .inl (cI, 40, .inl fP)), ((ma 4), .inl (cI, 40, .inl fO)), ((ma 5), .inl (cI, 40, .inl fG)), ((ma 6), .inl (cI, 40, .inl fSz)), ((ma 7), .inl (cI, 40, .inl fSd)), ((ma 8), .inl (cB, 1200, .inl fN)), ((ma 9), .inl (cI, 40, .inl fNS)), ((ma 10), .inl (cB, 8000, .inl fT)), ((ma 11), .inl (cI, 40, .inl fTS)), ((ma 3), .inl (cI, 40, .inl fM))]) [0, 1, 2, 3, 4, 5, 6, 7, 8, 9, 10, 11, 12] (by decide) rfl
              have hl := lv_sub hl [1, 2, 3, 0] rfl
              exact kk56 _ _ _ _ _ ⟨1, rfl, rfl, (by (try dsimp only); first | omega | assumption | trivial), (by (try dsimp only); first | omega | assumption | trivial), hP, hD, hS, hl⟩
      · skip
        have g21_141 : ¬ v43.toInt = 0 := fun h8 => h_9 ((i_eq rfl (by decide)).mpr h8)
        obtain ⟨v86, e_v86⟩ : ∃ z : Int32, z = nn + 1 := ⟨_, rfl⟩
        refine lv_iinc (v := v86) hx hb d_DiscMakerModel_link_24 hl (k := 2) rfl e_v86.symm (by decide) rfl (fun ls hl => ?_)
        have t_v86 : v86.toInt = nn.toInt + 1 := by rw [e_v86]; exact i_add rfl (by decide) (by omega) (by omega)
        have hl : lv_has ls 6 [(2, .int v86), (0, .ref h0), (1, .int x)] := hl
        refine lv_goto (tgt := 7) hx hb d_DiscMakerModel_link_27 (by decide) ?_
        have hP := hP.sub (ws' := [(h0, .inr (11, MO ma 0 sv_length sv_nodes sv_many sv_directories sv_runsFrom sv_runs sv_read sv_wrong sv_isNamed sv_goes sv_goesSize sv_goesAt sv_targetParts sv_isRoot)), ((ma 0), .inl (cB, 400, .inl fX)), ((ma 1), .inl (cI, 40, .inl fK)), ((ma 2), .inl (cI, 40, .inl fP)), ((ma 4), .inl (cI, 40, .inl fO)), ((ma 5), .inl (cI, 40, .inl fG)), ((ma 6), .inl (cI, 40, .inl fSz)), ((ma 7), .inl (cI, 40, .inl fSd)), ((ma 8), .inl (cB, 1200, .inl fN)), ((ma 9), .inl (cI, 40, .inl fNS)), ((ma 10), .inl (cB, 8000, .inl fT)), ((ma 11), .inl (cI, 40, .inl fTS)), ((ma 3), .inl (cI, 40, .inl fM))]) [0, 1, 2, 3, 4, 5, 6, 7, 8, 9, 10, 11, 12] rfl
        have hD := hD.sub (ws' := [(h0, .inr (11, MO ma 0 sv_length sv_nodes sv_many sv_directories sv_runsFrom sv_runs sv_read sv_wrong sv_isNamed sv_goes sv_goesSize sv_goesAt sv_targetParts sv_isRoot)), ((ma 0), .inl (cB, 400, .inl fX)), ((ma 1), .inl (cI, 40, .inl fK)), ((ma 2), .inl (cI, 40, .inl fP)), ((ma 4), .inl (cI, 40, .inl fO)), ((ma 5), .inl (cI, 40, .inl fG)), ((ma 6), .inl (cI, 40, .inl fSz)), ((ma 7), .inl (cI, 40, .inl fSd)), ((ma 8), .inl (cB, 1200, .inl fN)), ((ma 9), .inl (cI, 40, .inl fNS)), ((ma 10), .inl (cB, 8000, .inl fT)), ((ma 11), .inl (cI, 40, .inl fTS)), ((ma 3), .inl (cI, 40, .inl fM))]) [0, 1, 2, 3, 4, 5, 6, 7, 8, 9, 10, 11, 12] (by decide) rfl
        have hl := lv_sub hl [1, 2, 0] rfl
        exact ih7 (_) (by first | omega | (dsimp only; omega)) _ _ _ _ ⟨v86, rfl, rfl, (by (try dsimp only); first | omega | assumption | trivial), hP, hD, hS, hl⟩
  · skip
    intro kk7
    have hP := hP.sub (ws' := [(h0, .inr (11, MO ma 0 sv_length sv_nodes sv_many sv_directories sv_runsFrom sv_runs sv_read sv_wrong sv_isNamed sv_goes sv_goesSize sv_goesAt sv_targetParts sv_isRoot)), ((ma 0), .inl (cB, 400, .inl fX)), ((ma 1), .inl (cI, 40, .inl fK)), ((ma 2), .inl (cI, 40, .inl fP)), ((ma 4), .inl (cI, 40, .inl fO)), ((ma 5), .inl (cI, 40, .inl fG)), ((ma 6), .inl (cI, 40, .inl fSz)), ((ma 7), .inl (cI, 40, .inl fSd)), ((ma 8), .inl (cB, 1200, .inl fN)), ((ma 9), .inl (cI, 40, .inl fNS)), ((ma 10), .inl (cB, 8000, .inl fT)), ((ma 11), .inl (cI, 40, .inl fTS)), ((ma 3), .inl (cI, 40, .inl fM))]) [0, 1, 2, 3, 4, 5, 6, 7, 8, 9, 10, 11, 12] rfl
    have hD := hD.sub (ws' := [(h0, .inr (11, MO ma 0 sv_length sv_nodes sv_many sv_directories sv_runsFrom sv_runs sv_read sv_wrong sv_isNamed sv_goes sv_goesSize sv_goesAt sv_targetParts sv_isRoot)), ((ma 0), .inl (cB, 400, .inl fX)), ((ma 1), .inl (cI, 40, .inl fK)), ((ma 2), .inl (cI, 40, .inl fP)), ((ma 4), .inl (cI, 40, .inl fO)), ((ma 5), .inl (cI, 40, .inl fG)), ((ma 6), .inl (cI, 40, .inl fSz)), ((ma 7), .inl (cI, 40, .inl fSd)), ((ma 8), .inl (cB, 1200, .inl fN)), ((ma 9), .inl (cI, 40, .inl fNS)), ((ma 10), .inl (cB, 8000, .inl fT)), ((ma 11), .inl (cI, 40, .inl fTS)), ((ma 3), .inl (cI, 40, .inl fM))]) [0, 1, 2, 3, 4, 5, 6, 7, 8, 9, 10, 11, 12] (by decide) rfl
    have hl := lv_sub hl [1, 2, 0] rfl
    exact kk7 _ _ _ _ _ ⟨0, rfl, rfl, (by (try dsimp only); first | omega | assumption | trivial), hP, hD, hS, hl⟩

theorem d_DiscMakerModel_own_0 : decode b_DiscMakerModel_own 0 = .ok (.aload_n 0, 1) := by decide +kernel
theorem d_DiscMakerModel_own_1 : decode b_DiscMakerModel_own 1 = .ok (.iconst 0, 1) := by decide +kernel
theorem d_DiscMakerModel_own_2 : decode b_DiscMakerModel_own 2 = .ok (.putfield 118, 3) := by decide +kernel
theorem d_DiscMakerModel_own_5 : decode b_DiscMakerModel_own 5 = .ok (.iload_n 1, 1) := by decide +kernel
theorem d_DiscMakerModel_own_6 : decode b_DiscMakerModel_own 6 = .ok (.ifCond .lt 33, 3) := by decide +kernel
theorem d_DiscMakerModel_own_9 : decode b_DiscMakerModel_own 9 = .ok (.iload_n 1, 1) := by decide +kernel
theorem d_DiscMakerModel_own_10 : decode b_DiscMakerModel_own 10 = .ok (.aload_n 0, 1) := by decide +kernel
theorem d_DiscMakerModel_own_11 : decode b_DiscMakerModel_own 11 = .ok (.getfield 114, 3) := by decide +kernel
theorem d_DiscMakerModel_own_14 : decode b_DiscMakerModel_own 14 = .ok (.if_icmp .ge 25, 3) := by decide +kernel
theorem d_DiscMakerModel_own_17 : decode b_DiscMakerModel_own 17 = .ok (.iload_n 2, 1) := by decide +kernel
theorem d_DiscMakerModel_own_18 : decode b_DiscMakerModel_own 18 = .ok (.invokestatic 153, 3) := by decide +kernel
theorem d_DiscMakerModel_own_21 : decode b_DiscMakerModel_own 21 = .ok (.ifCond .eq 18, 3) := by decide +kernel
theorem d_DiscMakerModel_own_24 : decode b_DiscMakerModel_own 24 = .ok (.iload_n 3, 1) := by decide +kernel
theorem d_DiscMakerModel_own_25 : decode b_DiscMakerModel_own 25 = .ok (.invokestatic 153, 3) := by decide +kernel
theorem d_DiscMakerModel_own_28 : decode b_DiscMakerModel_own 28 = .ok (.ifCond .eq 11, 3) := by decide +kernel
theorem d_DiscMakerModel_own_31 : decode b_DiscMakerModel_own 31 = .ok (.iload 4, 2) := by decide +kernel
theorem d_DiscMakerModel_own_33 : decode b_DiscMakerModel_own 33 = .ok (.invokestatic 153, 3) := by decide +kernel
theorem d_DiscMakerModel_own_36 : decode b_DiscMakerModel_own 36 = .ok (.ifCond .ne 5, 3) := by decide +kernel
theorem d_DiscMakerModel_own_39 : decode b_DiscMakerModel_own 39 = .ok (.iconst 0, 1) := by decide +kernel
theorem d_DiscMakerModel_own_40 : decode b_DiscMakerModel_own 40 = .ok (.ireturn, 1) := by decide +kernel
theorem d_DiscMakerModel_own_41 : decode b_DiscMakerModel_own 41 = .ok (.aload_n 0, 1) := by decide +kernel
theorem d_DiscMakerModel_own_42 : decode b_DiscMakerModel_own 42 = .ok (.getfield 20, 3) := by decide +kernel
theorem d_DiscMakerModel_own_45 : decode b_DiscMakerModel_own 45 = .ok (.iload_n 1, 1) := by decide +kernel
theorem d_DiscMakerModel_own_46 : decode b_DiscMakerModel_own 46 = .ok (.iload_n 2, 1) := by decide +kernel
theorem d_DiscMakerModel_own_47 : decode b_DiscMakerModel_own 47 = .ok (.iastore, 1) := by decide +kernel
theorem d_DiscMakerModel_own_48 : decode b_DiscMakerModel_own 48 = .ok (.aload_n 0, 1) := by decide +kernel
theorem d_DiscMakerModel_own_49 : decode b_DiscMakerModel_own 49 = .ok (.getfield 23, 3) := by decide +kernel
theorem d_DiscMakerModel_own_52 : decode b_DiscMakerModel_own 52 = .ok (.iload_n 1, 1) := by decide +kernel
theorem d_DiscMakerModel_own_53 : decode b_DiscMakerModel_own 53 = .ok (.iload_n 3, 1) := by decide +kernel
theorem d_DiscMakerModel_own_54 : decode b_DiscMakerModel_own 54 = .ok (.iastore, 1) := by decide +kernel
theorem d_DiscMakerModel_own_55 : decode b_DiscMakerModel_own 55 = .ok (.aload_n 0, 1) := by decide +kernel
theorem d_DiscMakerModel_own_56 : decode b_DiscMakerModel_own 56 = .ok (.getfield 26, 3) := by decide +kernel
theorem d_DiscMakerModel_own_59 : decode b_DiscMakerModel_own 59 = .ok (.iload_n 1, 1) := by decide +kernel
theorem d_DiscMakerModel_own_60 : decode b_DiscMakerModel_own 60 = .ok (.iload 4, 2) := by decide +kernel
theorem d_DiscMakerModel_own_62 : decode b_DiscMakerModel_own 62 = .ok (.iastore, 1) := by decide +kernel
theorem d_DiscMakerModel_own_63 : decode b_DiscMakerModel_own 63 = .ok (.iconst 1, 1) := by decide +kernel
theorem d_DiscMakerModel_own_64 : decode b_DiscMakerModel_own 64 = .ok (.ireturn, 1) := by decide +kernel
set_option maxHeartbeats 4000000 in
set_option maxRecDepth 100000 in
theorem m_own (l : Launch) (D : va_G) (cB cI cJ cZ cN cF : ClassId) (sz : Nat) (h0 : Nat) (ma : Nat → Nat) (sv_thrown sv_length sv_nodes sv_many sv_directories sv_runsFrom sv_runs sv_read sv_wrong sv_isNamed sv_goes sv_goesSize sv_goesAt sv_targetParts sv_isRoot : Int32) (fM : Nat → Int32) (fO : Nat → Int32) (fG : Nat → Int32) (x : Int32) (y : Int32) (z : Int32) (w : Int32) (hn : 1 ≤ sv_nodes.toInt ∧ sv_nodes.toInt ≤ 40) : Met l y_DiscMakerModel_own w_DiscMakerModel_own ({ frames := 1, cells := 0, slots := 0, locals := 20 }) (va_Pc [.ref h0, .int x, .int y, .int z, .int w] (fun U => U.heap.size = sz ∧ va_P D CL [(h0, .inr (11, MO ma sv_thrown sv_length sv_nodes sv_many sv_directories sv_runsFrom sv_runs sv_read sv_wrong sv_isNamed sv_goes sv_goesSize sv_goesAt sv_targetParts sv_isRoot)), ((ma 3), .inl (cI, 40, .inl fM)), ((ma 4), .inl (cI, 40, .inl fO)), ((ma 5), .inl (cI, 40, .inl fG))] U.heap ∧ va_K D CL (TY cB cI cJ cZ cN cF) U ∧ NN U ∧ va_D (fun _ => True) [(h0, .inr (11, MO ma sv_thrown sv_length sv_nodes sv_many sv_directories sv_runsFrom sv_runs sv_read sv_wrong sv_isNamed sv_goes sv_goesSize sv_goesAt sv_targetParts sv_isRoot)), ((ma 3), .inl (cI, 40, .inl fM)), ((ma 4), .inl (cI, 40, .inl fO)), ((ma 5), .inl (cI, 40, .inl fG))])) (va_Qi (fun (r : Int32) (u : Int32 × (Nat → Int32) × (Nat → Int32) × (Nat → Int32)) => True) (fun (u : Int32 × (Nat → Int32) × (Nat → Int32) × (Nat → Int32)) (t : State) => match u with | (th, gM, gO, gG) => va_P D CL [(h0, .inr (11, MO ma th sv_length sv_nodes sv_many sv_directories sv_runsFrom sv_runs sv_read sv_wrong sv_isNamed sv_goes sv_goesSize sv_goesAt sv_targetParts sv_isRoot)), ((ma 3), .inl (cI, 40, .inl gM)), ((ma 4), .inl (cI, 40, .inl gO)), ((ma 5), .inl (cI, 40, .inl gG))] t.heap ∧ va_D (va_A [(h0, .inr (11, MO ma sv_thrown sv_length sv_nodes sv_many sv_directories sv_runsFrom sv_runs sv_read sv_wrong sv_isNamed sv_goes sv_goesSize sv_goesAt sv_targetParts sv_isRoot)), ((ma 3), .inl (cI, 40, .inl fM)), ((ma 4), .inl (cI, 40, .inl fO)), ((ma 5), .inl (cI, 40, .inl fG))] sz) [(h0, .inr (11, MO ma th sv_length sv_nodes sv_many sv_directories sv_runsFrom sv_runs sv_read sv_wrong sv_isNamed sv_goes sv_goesSize sv_goesAt sv_targetParts sv_isRoot)), ((ma 3), .inl (cI, 40, .inl gM)), ((ma 4), .inl (cI, 40, .inl gO)), ((ma 5), .inl (cI, 40, .inl gG))]) (va_A [(h0, .inr (11, MO ma sv_thrown sv_length sv_nodes sv_many sv_directories sv_runsFrom sv_runs sv_read sv_wrong sv_isNamed sv_goes sv_goesSize sv_goesAt sv_targetParts sv_isRoot)), ((ma 3), .inl (cI, 40, .inl fM)), ((ma 4), .inl (cI, 40, .inl fO)), ((ma 5), .inl (cI, 40, .inl fG))] sz)) 0 0 (va_A [(h0, .inr (11, MO ma sv_thrown sv_length sv_nodes sv_many sv_directories sv_runsFrom sv_runs sv_read sv_wrong sv_isNamed sv_goes sv_goesSize sv_goesAt sv_targetParts sv_isRoot)), ((ma 3), .inl (cI, 40, .inl fM)), ((ma 4), .inl (cI, 40, .inl fO)), ((ma 5), .inl (cI, 40, .inl fG))] sz) := by
  refine Met.ofW (cc := b_DiscMakerModel_own) (maxL := 5) (ret := some .boolean) (by decide) rfl ?_
  intro p e s m args below meth c s₁ B hml hv
  obtain ⟨rfl, hsz, hP, hK, hN, hD0⟩ := hv
  have hx := B.exec
  have hb := B.bytes
  have hr := B.returns
  have hts := atoms_spec (ws := w_DiscMakerModel_own) B.pre
  have ht9 := fun (w : Cond) (h : w ∈ lw_g) => hts w (List.mem_cons_of_mem _ h)
  have hown : s.vm.findClass "DiscMakerModel" = some m.cls := findClass_of_methodNamed B.named
  have hlocks := B.notSynchronized
  subst hsz
  have hD := hD0.self (sz := s.heap.size)
  generalize hAe : va_A [(h0, .inr (11, MO ma sv_thrown sv_length sv_nodes sv_many sv_directories sv_runsFrom sv_runs sv_read sv_wrong sv_isNamed sv_goes sv_goesSize sv_goesAt sv_targetParts sv_isRoot)), ((ma 3), .inl (cI, 40, .inl fM)), ((ma 4), .inl (cI, 40, .inl fO)), ((ma 5), .inl (cI, 40, .inl fG))] s.heap.size = A at hD ⊢
  have hA : ∀ q : Nat, s.heap.size ≤ q → A q := fun q h => by rw [← hAe]; exact Or.inr h
  have hS : va_S A s.heap s.heap [] := va_S.rf
  have hP : va_P D CL [(h0, .inr (11, MO ma sv_thrown sv_length sv_nodes sv_many sv_directories sv_runsFrom sv_runs sv_read sv_wrong sv_isNamed sv_goes sv_goesSize sv_goesAt sv_targetParts sv_isRoot)), ((ma 3), .inl (cI, 40, .inl fM)), ((ma 4), .inl (cI, 40, .inl fO)), ((ma 5), .inl (cI, 40, .inl fG))] s.heap := hP
  have hl := lv_entry [.ref h0, .int x, .int y, .int z, .int w] (n := 5) (Nat.le_of_ble_eq_true rfl)
  rw [lg_entry_eq]
  generalize (lg_sl [.ref h0, .int x, .int y, .int z, .int w] ++ List.replicate (5 - (lg_sl [.ref h0, .int x, .int y, .int z, .int w]).length) Slot.unset).toArray = ls at hl ⊢
  have hl : lv_has ls 5 [(0, .ref h0), (1, .int x), (2, .int y), (3, .int z), (4, .int w)] := hl
  have L_m1 : ((-1) : Int32).toInt = (-1) := by decide
  have L_0 : (0 : Int32).toInt = 0 := by decide
  have L_1 : (1 : Int32).toInt = 1 := by decide
  refine lv_aload_n hx hb d_DiscMakerModel_own_0 rfl (lv_at hl 0 rfl) ?_
  refine lv_iconst (v := 0) hx hb d_DiscMakerModel_own_1 (by decide) ?_
  refine va_put (D := D) (ci := 11) (v := .int 0) (ty := .int) (C := "DiscMakerModel") (T := F_DiscMakerModel) (N := 48) hx hb ht9 in_DiscMakerModel t_DiscMakerModel t_DiscMakerModel_ok n_DiscMakerModel hown hK hP hD hS 0 rfl rfl 0 (by decide) (ht9 _ k1431) (fun _ h9 => h9) rfl (by decide +kernel) rfl rfl (Nat.le_of_ble_eq_true rfl) d_DiscMakerModel_own_2 (fun H locs hP hD hS => ?_)
  have hP : va_P D CL [(h0, .inr (11, MO ma 0 sv_length sv_nodes sv_many sv_directories sv_runsFrom sv_runs sv_read sv_wrong sv_isNamed sv_goes sv_goesSize sv_goesAt sv_targetParts sv_isRoot)), ((ma 3), .inl (cI, 40, .inl fM)), ((ma 4), .inl (cI, 40, .inl fO)), ((ma 5), .inl (cI, 40, .inl fG))] H := hP
  have hD : va_D A [(h0, .inr (11, MO ma 0 sv_length sv_nodes sv_many sv_directories sv_runsFrom sv_runs sv_read sv_wrong sv_isNamed sv_goes sv_goesSize sv_goesAt sv_targetParts sv_isRoot)), ((ma 3), .inl (cI, 40, .inl fM)), ((ma 4), .inl (cI, 40, .inl fO)), ((ma 5), .inl (cI, 40, .inl fG))] := hD
  refine lv_iload_n hx hb d_DiscMakerModel_own_5 rfl (lv_at hl 1 rfl) ?_
  refine lv_if_lt (tgt := 39) hx hb d_DiscMakerModel_own_6 (by decide) (fun h_9 => ?_) (fun h_9 => ?_)
  · skip
    have g6_5 : x.toInt < 0 := (i_lt rfl (by decide)).mp h_9
    refine lv_iconst (v := 0) hx hb d_DiscMakerModel_own_39 (by decide) ?_
    have hP9 := hP.sub (ws' := [(h0, .inr (11, MO ma 0 sv_length sv_nodes sv_many sv_directories sv_runsFrom sv_runs sv_read sv_wrong sv_isNamed sv_goes sv_goesSize sv_goesAt sv_targetParts sv_isRoot)), ((ma 3), .inl (cI, 40, .inl fM)), ((ma 4), .inl (cI, 40, .inl fO)), ((ma 5), .inl (cI, 40, .inl fG))]) [0, 1, 2, 3] rfl
    have hD9 := hD.sub (ws' := [(h0, .inr (11, MO ma 0 sv_length sv_nodes sv_many sv_directories sv_runsFrom sv_runs sv_read sv_wrong sv_isNamed sv_goes sv_goesSize sv_goesAt sv_targetParts sv_isRoot)), ((ma 3), .inl (cI, 40, .inl fM)), ((ma 4), .inl (cI, 40, .inl fO)), ((ma 5), .inl (cI, 40, .inl fG))]) [0, 1, 2, 3] (by decide) rfl
    exact W.zret (v := 0) hx hb hr (by first | rfl | decide | exact i_narZ (by omega)) (fun t ht hW => ⟨⟨0, (0, fM, fO, fG), rfl, trivial, by rw [ht]; exact hP9, hD9⟩, hS.F ht⟩) hS.2.2 d_DiscMakerModel_own_40
  · skip
    have g6_5 : ¬ x.toInt < 0 := fun h8 => h_9 ((i_lt rfl (by decide)).mpr h8)
    refine lv_iload_n hx hb d_DiscMakerModel_own_9 rfl (lv_at hl 1 rfl) ?_
    refine lv_aload_n hx hb d_DiscMakerModel_own_10 rfl (lv_at hl 0 rfl) ?_
    refine va_get (D := D) (ci := 11) (v := .int sv_nodes) (C := "DiscMakerModel") (T := F_DiscMakerModel) (N := 48) hx hb ht9 in_DiscMakerModel hown hK hP 0 rfl rfl 3 (by decide) (ht9 _ k1434) (fun _ h9 => h9) rfl d_DiscMakerModel_own_11 ?_
    refine lv_icmp_ge (tgt := 39) hx hb d_DiscMakerModel_own_14 (by decide) (fun h_9 => ?_) (fun h_9 => ?_)
    · skip
      have g14_11 : sv_nodes.toInt ≤ x.toInt := (i_le rfl rfl).mp h_9
      refine lv_iconst (v := 0) hx hb d_DiscMakerModel_own_39 (by decide) ?_
      have hP9 := hP.sub (ws' := [(h0, .inr (11, MO ma 0 sv_length sv_nodes sv_many sv_directories sv_runsFrom sv_runs sv_read sv_wrong sv_isNamed sv_goes sv_goesSize sv_goesAt sv_targetParts sv_isRoot)), ((ma 3), .inl (cI, 40, .inl fM)), ((ma 4), .inl (cI, 40, .inl fO)), ((ma 5), .inl (cI, 40, .inl fG))]) [0, 1, 2, 3] rfl
      have hD9 := hD.sub (ws' := [(h0, .inr (11, MO ma 0 sv_length sv_nodes sv_many sv_directories sv_runsFrom sv_runs sv_read sv_wrong sv_isNamed sv_goes sv_goesSize sv_goesAt sv_targetParts sv_isRoot)), ((ma 3), .inl (cI, 40, .inl fM)), ((ma 4), .inl (cI, 40, .inl fO)), ((ma 5), .inl (cI, 40, .inl fG))]) [0, 1, 2, 3] (by decide) rfl
      exact W.zret (v := 0) hx hb hr (by first | rfl | decide | exact i_narZ (by omega)) (fun t ht hW => ⟨⟨0, (0, fM, fO, fG), rfl, trivial, by rw [ht]; exact hP9, hD9⟩, hS.F ht⟩) hS.2.2 d_DiscMakerModel_own_40
    · skip
      have g14_11 : ¬ sv_nodes.toInt ≤ x.toInt := fun h8 => h_9 ((i_le rfl rfl).mpr h8)
      refine lv_iload_n hx hb d_DiscMakerModel_own_17 rfl (lv_at hl 2 rfl) ?_
      have hPc := hP.sub (ws' := []) [] rfl
      have hDc := hD.sub (ws' := []) [] (by decide) rfl
      have hFc := va_free (wc := []) hD hS hA [] rfl
      have hkc : 0 ≤ 0 := by decide
      have hks : 0 ≤ 0 := by decide
      refine va_calli (va_runS (As := [.int y]) (rest := []) ⟨hx, hb, hml, hown, hts⟩ (m_isNumber l D cB cI cJ cZ cN cF H.size y) (cwS 1 hts (lg_goodS k1590 k1591 k125 kc_DiscMakerModel_isNumber) rfl rfl rfl (by decide +kernel) ⟨Nat.le_of_ble_eq_true rfl, Nat.le_of_ble_eq_true rfl⟩) ⟨fun a U g mk q => by obtain ⟨q0, q1, qP, qK, qN, qD⟩ := q; exact ⟨q0, q1, qP, va_K.moved (u := U) (U := U.calling g mk a) (Vm.Alike.refl U.vm) qK, qN.calling, qD⟩, fun U hU hW => ⟨rfl, by rw [hU], by rw [hU]; exact hPc, va_K.moved hW.alike hK, NN.warm hW hN, hDc.weaken (fun _ _ _ _ => trivial)⟩⟩ rfl rfl hl.1 rfl (lv_room (Nat.le_of_ble_eq_true rfl)) d_DiscMakerModel_own_18 ⟨hkc, hks⟩) hS (fun q _ h => hFc q h) hFc (fun r1 u t H1 locs ht hvm hp_r1 hB hz1 hk1 hS => ?_)
      obtain ⟨hP1, hD1⟩ := hB
      rw [ht] at hP1
      obtain ⟨hP, hD⟩ := va_join (wr := [(h0, .inr (11, MO ma 0 sv_length sv_nodes sv_many sv_directories sv_runsFrom sv_runs sv_read sv_wrong sv_isNamed sv_goes sv_goesSize sv_goesAt sv_targetParts sv_isRoot)), ((ma 3), .inl (cI, 40, .inl fM)), ((ma 4), .inl (cI, 40, .inl fO)), ((ma 5), .inl (cI, 40, .inl fG))]) (w1 := []) hP hD [] [0, 1, 2, 3] rfl rfl (by decide) (by decide) hk1 hFc hP1 hD1
      clear hPc hDc hFc hP1 hD1 hk1 hz1
      generalize H1 = H at hP hS ⊢
      have hP : va_P D CL [(h0, .inr (11, MO ma 0 sv_length sv_nodes sv_many sv_directories sv_runsFrom sv_runs sv_read sv_wrong sv_isNamed sv_goes sv_goesSize sv_goesAt sv_targetParts sv_isRoot)), ((ma 3), .inl (cI, 40, .inl fM)), ((ma 4), .inl (cI, 40, .inl fO)), ((ma 5), .inl (cI, 40, .inl fG))] H := hP
      have hD : va_D A [(h0, .inr (11, MO ma 0 sv_length sv_nodes sv_many sv_directories sv_runsFrom sv_runs sv_read sv_wrong sv_isNamed sv_goes sv_goesSize sv_goesAt sv_targetParts sv_isRoot)), ((ma 3), .inl (cI, 40, .inl fM)), ((ma 4), .inl (cI, 40, .inl fO)), ((ma 5), .inl (cI, 40, .inl fG))] := hD
      try dsimp only at hp_r1
      have hr_2 := hp_r1
      refine lv_if_eq (tgt := 39) hx hb d_DiscMakerModel_own_21 (by decide) (fun h_9 => ?_) (fun h_9 => ?_)
      · skip
        have g21_16 : r1.toInt = 0 := (i_eq rfl (by decide)).mp h_9
        refine lv_iconst (v := 0) hx hb d_DiscMakerModel_own_39 (by decide) ?_
        have hP9 := hP.sub (ws' := [(h0, .inr (11, MO ma 0 sv_length sv_nodes sv_many sv_directories sv_runsFrom sv_runs sv_read sv_wrong sv_isNamed sv_goes sv_goesSize sv_goesAt sv_targetParts sv_isRoot)), ((ma 3), .inl (cI, 40, .inl fM)), ((ma 4), .inl (cI, 40, .inl fO)), ((ma 5), .inl (cI, 40, .inl fG))]) [0, 1, 2, 3] rfl
        have hD9 := hD.sub (ws' := [(h0, .inr (11, MO ma 0 sv_length sv_nodes sv_many sv_directories sv_runsFrom sv_runs sv_read sv_wrong sv_isNamed sv_goes sv_goesSize sv_goesAt sv_targetParts sv_isRoot)), ((ma 3), .inl (cI, 40, .inl fM)), ((ma 4), .inl (cI, 40, .inl fO)), ((ma 5), .inl (cI, 40, .inl fG))]) [0, 1, 2, 3] (by decide) rfl
        exact W.zret (v := 0) hx hb hr (by first | rfl | decide | exact i_narZ (by omega)) (fun t ht hW => ⟨⟨0, (0, fM, fO, fG), rfl, trivial, by rw [ht]; exact hP9, hD9⟩, hS.F ht⟩) hS.2.2 d_DiscMakerModel_own_40
      · skip
        have g21_16 : ¬ r1.toInt = 0 := fun h8 => h_9 ((i_eq rfl (by decide)).mpr h8)
        refine lv_iload_n hx hb d_DiscMakerModel_own_24 rfl (lv_at hl 3 rfl) ?_
        have hPc := hP.sub (ws' := []) [] rfl
        have hDc := hD.sub (ws' := []) [] (by decide) rfl
        have hFc := va_free (wc := []) hD hS hA [] rfl
        have hkc : 0 ≤ 0 := by decide
        have hks : 0 ≤ 0 := by decide
        refine va_calli (va_runS (As := [.int z]) (rest := []) ⟨hx, hb, hml, hown, hts⟩ (m_isNumber l D cB cI cJ cZ cN cF H.size z) (cwS 1 hts (lg_goodS k1590 k1591 k125 kc_DiscMakerModel_isNumber) rfl rfl rfl (by decide +kernel) ⟨Nat.le_of_ble_eq_true rfl, Nat.le_of_ble_eq_true rfl⟩) ⟨fun a U g mk q => by obtain ⟨q0, q1, qP, qK, qN, qD⟩ := q; exact ⟨q0, q1, qP, va_K.moved (u := U) (U := U.calling g mk a) (Vm.Alike.refl U.vm) qK, qN.calling, qD⟩, fun U hU hW => ⟨rfl, by rw [hU], by rw [hU]; exact hPc, va_K.moved hW.alike hK, NN.warm hW hN, hDc.weaken (fun _ _ _ _ => trivial)⟩⟩ rfl rfl hl.1 rfl (lv_room (Nat.le_of_ble_eq_true rfl)) d_DiscMakerModel_own_25 ⟨hkc, hks⟩) hS (fun q _ h => hFc q h) hFc (fun r3 u t H1 locs ht hvm hp_r3 hB hz1 hk1 hS => ?_)
        obtain ⟨hP1, hD1⟩ := hB
        rw [ht] at hP1
        obtain ⟨hP, hD⟩ := va_join (wr := [(h0, .inr (11, MO ma 0 sv_length sv_nodes sv_many sv_directories sv_runsFrom sv_runs sv_read sv_wrong sv_isNamed sv_goes sv_goesSize sv_goesAt sv_targetParts sv_isRoot)), ((ma 3), .inl (cI, 40, .inl fM)), ((ma 4), .inl (cI, 40, .inl fO)), ((ma 5), .inl (cI, 40, .inl fG))]) (w1 := []) hP hD [] [0, 1, 2, 3] rfl rfl (by decide) (by decide) hk1 hFc hP1 hD1
        clear hPc hDc hFc hP1 hD1 hk1 hz1
        generalize H1 = H at hP hS ⊢
        have hP : va_P D CL [(h0, .inr (11, MO ma 0 sv_length sv_nodes sv_many sv_directories sv_runsFrom sv_runs sv_read sv_wrong sv_isNamed sv_goes sv_goesSize sv_goesAt sv_targetParts sv_isRoot)), ((ma 3), .inl (cI, 40, .inl fM)), ((ma 4), .inl (cI, 40, .inl fO)), ((ma 5), .inl (cI, 40, .inl fG))] H := hP
        have hD : va_D A [(h0, .inr (11, MO ma 0 sv_length sv_nodes sv_many sv_directories sv_runsFrom sv_runs sv_read sv_wrong sv_isNamed sv_goes sv_goesSize sv_goesAt sv_targetParts sv_isRoot)), ((ma 3), .inl (cI, 40, .inl fM)), ((ma 4), .inl (cI, 40, .inl fO)), ((ma 5), .inl (cI, 40, .inl fG))] := hD
        try dsimp only at hp_r3
        have hr_4 := hp_r3
        refine lv_if_eq (tgt := 39) hx hb d_DiscMakerModel_own_28 (by decide) (fun h_9 => ?_) (fun h_9 => ?_)
        · skip
          have g28_21 : r3.toInt = 0 := (i_eq rfl (by decide)).mp h_9
          refine lv_iconst (v := 0) hx hb d_DiscMakerModel_own_39 (by decide) ?_
          have hP9 := hP.sub (ws' := [(h0, .inr (11, MO ma 0 sv_length sv_nodes sv_many sv_directories sv_runsFrom sv_runs sv_read sv_wrong sv_isNamed sv_goes sv_goesSize sv_goesAt sv_targetParts sv_isRoot)), ((ma 3), .inl (cI, 40, .inl fM)), ((ma 4), .inl (cI, 40, .inl fO)), ((ma 5), .inl (cI, 40, .inl fG))]) [0, 1, 2, 3] rfl
          have hD9 := hD.sub (ws' := [(h0, .inr (11, MO ma 0 sv_length sv_nodes sv_many sv_directories sv_runsFrom sv_runs sv_read sv_wrong sv_isNamed sv_goes sv_goesSize sv_goesAt sv_targetParts sv_isRoot)), ((ma 3), .inl (cI, 40, .inl fM)), ((ma 4), .inl (cI, 40, .inl fO)), ((ma 5), .inl (cI, 40, .inl fG))]) [0, 1, 2, 3] (by decide) rfl
          exact W.zret (v := 0) hx hb hr (by first | rfl | decide | exact i_narZ (by omega)) (fun t ht hW => ⟨⟨0, (0, fM, fO, fG), rfl, trivial, by rw [ht]; exact hP9, hD9⟩, hS.F ht⟩) hS.2.2 d_DiscMakerModel_own_40
        · skip
          have g28_21 : ¬ r3.toInt = 0 := fun h8 => h_9 ((i_eq rfl (by decide)).mpr h8)
          refine lv_iload hx hb d_DiscMakerModel_own_31 (lv_at hl 4 rfl) ?_
          have hPc := hP.sub (ws' := []) [] rfl
          have hDc := hD.sub (ws' := []) [] (by decide) rfl
          have hFc := va_free (wc := []) hD hS hA [] rfl
          have hkc : 0 ≤ 0 := by decide
          have hks : 0 ≤ 0 := by decide
          refine va_calli (va_runS (As := [.int w]) (rest := []) ⟨hx, hb, hml, hown, hts⟩ (m_isNumber l D cB cI cJ cZ cN cF H.size w) (cwS 1 hts (lg_goodS k1590 k1591 k125 kc_DiscMakerModel_isNumber) rfl rfl rfl (by decide +kernel) ⟨Nat.le_of_ble_eq_true rfl, Nat.le_of_ble_eq_true rfl⟩) ⟨fun a U g mk q => by obtain ⟨q0, q1, qP, qK, qN, qD⟩ := q; exact ⟨q0, q1, qP, va_K.moved (u := U) (U := U.calling g mk a) (Vm.Alike.refl U.vm) qK, qN.calling, qD⟩, fun U hU hW => ⟨rfl, by rw [hU], by rw [hU]; exact hPc, va_K.moved hW.alike hK, NN.warm hW hN, hDc.weaken (fun _ _ _ _ => trivial)⟩⟩ rfl rfl hl.1 rfl (lv_room (Nat.le_of_ble_eq_true rfl)) d_DiscMakerModel_own_33 ⟨hkc, hks⟩) hS (fun q _ h => hFc q h) hFc (fun r5 u t H1 locs ht hvm hp_r5 hB hz1 hk1 hS => ?_)
          obtain ⟨hP1, hD1⟩ := hB
          rw [ht] at hP1
          obtain ⟨hP, hD⟩ := va_join (wr := [(h0, .inr (11, MO ma 0 sv_length sv_nodes sv_many sv_directories sv_runsFrom sv_runs sv_read sv_wrong sv_isNamed sv_goes sv_goesSize sv_goesAt sv_targetParts sv_isRoot)), ((ma 3), .inl (cI, 40, .inl fM)), ((ma 4), .inl (cI, 40, .inl fO)), ((ma 5), .inl (cI, 40, .inl fG))]) (w1 := []) hP hD [] [0, 1, 2, 3] rfl rfl (by decide) (by decide) hk1 hFc hP1 hD1
          clear hPc hDc hFc hP1 hD1 hk1 hz1
          generalize H1 = H at hP hS ⊢
          have hP : va_P D CL [(h0, .inr (11, MO ma 0 sv_length sv_nodes sv_many sv_directories sv_runsFrom sv_runs sv_read sv_wrong sv_isNamed sv_goes sv_goesSize sv_goesAt sv_targetParts sv_isRoot)), ((ma 3), .inl (cI, 40, .inl fM)), ((ma 4), .inl (cI, 40, .inl fO)), ((ma 5), .inl (cI, 40, .inl fG))] H := hP
          have hD : va_D A [(h0, .inr (11, MO ma 0 sv_length sv_nodes sv_many sv_directories sv_runsFrom sv_runs sv_read sv_wrong sv_isNamed sv_goes sv_goesSize sv_goesAt sv_targetParts sv_isRoot)), ((ma 3), .inl (cI, 40, .inl fM)), ((ma 4), .inl (cI, 40, .inl fO)), ((ma 5), .inl (cI, 40, .inl fG))] := hD
          try dsimp only at hp_r5
          have hr_6 := hp_r5
          refine lv_if_ne (tgt := 41) hx hb d_DiscMakerModel_own_36 (by decide) (fun h_9 => ?_) (fun h_9 => ?_)
          · skip
            have g36_26 : ¬ r5.toInt = 0 := fun h8 => h_9 ((i_eq rfl (by decide)).mpr h8)
            refine lv_aload_n hx hb d_DiscMakerModel_own_41 rfl (lv_at hl 0 rfl) ?_
            refine va_get (D := D) (ci := 11) (v := .ref (ma 3)) (C := "DiscMakerModel") (T := F_DiscMakerModel) (N := 48) hx hb ht9 in_DiscMakerModel hown hK hP 0 rfl rfl 6 (by decide) (ht9 _ k1437) (fun _ h9 => h9) rfl d_DiscMakerModel_own_42 ?_
            refine lv_iload_n hx hb d_DiscMakerModel_own_45 rfl (lv_at hl 1 rfl) ?_
            refine lv_iload_n hx hb d_DiscMakerModel_own_46 rfl (lv_at hl 2 rfl) ?_
            refine zq_iast hx hb hK hP hD hS 1 1 rfl rfl (vp_in_iff.mpr ⟨by omega, by omega⟩) d_DiscMakerModel_own_47 (fun f7 e_f7 H locs hP hD hS => ?_)
            have hP : va_P D CL [(h0, .inr (11, MO ma 0 sv_length sv_nodes sv_many sv_directories sv_runsFrom sv_runs sv_read sv_wrong sv_isNamed sv_goes sv_goesSize sv_goesAt sv_targetParts sv_isRoot)), ((ma 3), .inl (cI, 40, .inl f7)), ((ma 4), .inl (cI, 40, .inl fO)), ((ma 5), .inl (cI, 40, .inl fG))] H := hP
            have hD : va_D A [(h0, .inr (11, MO ma 0 sv_length sv_nodes sv_many sv_directories sv_runsFrom sv_runs sv_read sv_wrong sv_isNamed sv_goes sv_goesSize sv_goesAt sv_targetParts sv_isRoot)), ((ma 3), .inl (cI, 40, .inl f7)), ((ma 4), .inl (cI, 40, .inl fO)), ((ma 5), .inl (cI, 40, .inl fG))] := hD
            have s_f7 : f7 x.toNatClampNeg = y := by rw [e_f7]; unfold upd; rw [if_pos rfl]
            refine lv_aload_n hx hb d_DiscMakerModel_own_48 rfl (lv_at hl 0 rfl) ?_
            refine va_get (D := D) (ci := 11) (v := .ref (ma 4)) (C := "DiscMakerModel") (T := F_DiscMakerModel) (N := 48) hx hb ht9 in_DiscMakerModel hown hK hP 0 rfl rfl 7 (by decide) (ht9 _ k1438) (fun _ h9 => h9) rfl d_DiscMakerModel_own_49 ?_
            refine lv_iload_n hx hb d_DiscMakerModel_own_52 rfl (lv_at hl 1 rfl) ?_
            refine lv_iload_n hx hb d_DiscMakerModel_own_53 rfl (lv_at hl 3 rfl) ?_
            refine zq_iast hx hb hK hP hD hS 2 1 rfl rfl (vp_in_iff.mpr ⟨by omega, by omega⟩) d_DiscMakerModel_own_54 (fun f8 e_f8 H locs hP hD hS => ?_)
            have hP : va_P D CL [(h0, .inr (11, MO ma 0 sv_length sv_nodes sv_many sv_directories sv_runsFrom sv_runs sv_read sv_wrong sv_isNamed sv_goes sv_goesSize sv_goesAt sv_targetParts sv_isRoot)), ((ma 3), .inl (cI, 40, .inl f7)), ((ma 4), .inl (cI, 40, .inl f8)), ((ma 5), .inl (cI, 40, .inl fG))] H := hP
            have hD : va_D A [(h0, .inr (11, MO ma 0 sv_length sv_nodes sv_many sv_directories sv_runsFrom sv_runs sv_read sv_wrong sv_isNamed sv_goes sv_goesSize sv_goesAt sv_targetParts sv_isRoot)), ((ma 3), .inl (cI, 40, .inl f7)), ((ma 4), .inl (cI, 40, .inl f8)), ((ma 5), .inl (cI, 40, .inl fG))] := hD
            have s_f8 : f8 x.toNatClampNeg = z := by rw [e_f8]; unfold upd; rw [if_pos rfl]
            refine lv_aload_n hx hb d_DiscMakerModel_own_55 rfl (lv_at hl 0 rfl) ?_
            refine va_get (D := D) (ci := 11) (v := .ref (ma 5)) (C := "DiscMakerModel") (T := F_DiscMakerModel) (N := 48) hx hb ht9 in_DiscMakerModel hown hK hP 0 rfl rfl 8 (by decide) (ht9 _ k1439) (fun _ h9 => h9) rfl d_DiscMakerModel_own_56 ?_
            refine lv_iload_n hx hb d_DiscMakerModel_own_59 rfl (lv_at hl 1 rfl) ?_
            refine lv_iload hx hb d_DiscMakerModel_own_60 (lv_at hl 4 rfl) ?_
            refine zq_iast hx hb hK hP hD hS 3 1 rfl rfl (vp_in_iff.mpr ⟨by omega, by omega⟩) d_DiscMakerModel_own_62 (fun f9 e_f9 H locs hP hD hS => ?_)
            have hP : va_P D CL [(h0, .inr (11, MO ma 0 sv_length sv_nodes sv_many sv_directories sv_runsFrom sv_runs sv_read sv_wrong sv_isNamed sv_goes sv_goesSize sv_goesAt sv_targetParts sv_isRoot)), ((ma 3), .inl (cI, 40, .inl f7)), ((ma 4), .inl (cI, 40, .inl f8)), ((ma 5), .inl (cI, 40, .inl f9))] H := hP
            have hD : va_D A [(h0, .inr (11, MO ma 0 sv_length sv_nodes sv_many sv_directories sv_runsFrom sv_runs sv_read sv_wrong sv_isNamed sv_goes sv_goesSize sv_goesAt sv_targetParts sv_isRoot)), ((ma 3), .inl (cI, 40, .inl f7)), ((ma 4), .inl (cI, 40, .inl f8)), ((ma 5), .inl (cI, 40, .inl f9))] := hD
            have s_f9 : f9 x.toNatClampNeg = w := by rw [e_f9]; unfold upd; rw [if_pos rfl]
            refine lv_iconst (v := 1) hx hb d_DiscMakerModel_own_63 (by decide) ?_
            have hP9 := hP.sub (ws' := [(h0, .inr (11, MO ma 0 sv_length sv_nodes sv_many sv_directories sv_runsFrom sv_runs sv_read sv_wrong sv_isNamed sv_goes sv_goesSize sv_goesAt sv_targetParts sv_isRoot)), ((ma 3), .inl (cI, 40, .inl f7)), ((ma 4), .inl (cI, 40, .inl f8)), ((ma 5), .inl (cI, 40, .inl f9))]) [0, 1, 2, 3] rfl
            have hD9 := hD.sub (ws' := [(h0, .inr (11, MO ma 0 sv_length sv_nodes sv_many sv_directories sv_runsFrom sv_runs sv_read sv_wrong sv_isNamed sv_goes sv_goesSize sv_goesAt sv_targetParts sv_isRoot)), ((ma 3), .inl (cI, 40, .inl f7)), ((ma 4), .inl (cI, 40, .inl f8)), ((ma 5), .inl (cI, 40, .inl f9))]) [0, 1, 2, 3] (by decide) rfl
            exact W.zret (v := 1) hx hb hr (by first | rfl | decide | exact i_narZ (by omega)) (fun t ht hW => ⟨⟨1, (0, f7, f8, f9), rfl, trivial, by rw [ht]; exact hP9, hD9⟩, hS.F ht⟩) hS.2.2 d_DiscMakerModel_own_64
          · skip
            have g36_26 : r5.toInt = 0 := (i_eq rfl (by decide)).mp h_9
            refine lv_iconst (v := 0) hx hb d_DiscMakerModel_own_39 (by decide) ?_
            have hP9 := hP.sub (ws' := [(h0, .inr (11, MO ma 0 sv_length sv_nodes sv_many sv_directories sv_runsFrom sv_runs sv_read sv_wrong sv_isNamed sv_goes sv_goesSize sv_goesAt sv_targetParts sv_isRoot)), ((ma 3), .inl (cI, 40, .inl fM)), ((ma 4), .inl (cI, 40, .inl fO)), ((ma 5), .inl (cI, 40, .inl fG))]) [0, 1, 2, 3] rfl
            have hD9 := hD.sub (ws' := [(h0, .inr (11, MO ma 0 sv_length sv_nodes sv_many sv_directories sv_runsFrom sv_runs sv_read sv_wrong sv_isNamed sv_goes sv_goesSize sv_goesAt sv_targetParts sv_isRoot)), ((ma 3), .inl (cI, 40, .inl fM)), ((ma 4), .inl (cI, 40, .inl fO)), ((ma 5), .inl (cI, 40, .inl fG))]) [0, 1, 2, 3] (by decide) rfl
            exact W.zret (v := 0) hx hb hr (by first | rfl | decide | exact i_narZ (by omega)) (fun t ht hW => ⟨⟨0, (0, fM, fO, fG), rfl, trivial, by rw [ht]; exact hP9, hD9⟩, hS.F ht⟩) hS.2.2 d_DiscMakerModel_own_40
