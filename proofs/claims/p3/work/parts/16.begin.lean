theorem d_DiscMakerModel_begin_0 : decode b_DiscMakerModel_begin 0 = .ok (.aload_n 0, 1) := by decide +kernel
theorem d_DiscMakerModel_begin_1 : decode b_DiscMakerModel_begin 1 = .ok (.getfield 323, 3) := by decide +kernel
theorem d_DiscMakerModel_begin_4 : decode b_DiscMakerModel_begin 4 = .ok (.istore_n 3, 1) := by decide +kernel
theorem d_DiscMakerModel_begin_5 : decode b_DiscMakerModel_begin 5 = .ok (.aload_n 0, 1) := by decide +kernel
theorem d_DiscMakerModel_begin_6 : decode b_DiscMakerModel_begin 6 = .ok (.getfield 76, 3) := by decide +kernel
theorem d_DiscMakerModel_begin_9 : decode b_DiscMakerModel_begin 9 = .ok (.iload_n 3, 1) := by decide +kernel
theorem d_DiscMakerModel_begin_10 : decode b_DiscMakerModel_begin 10 = .ok (.iload_n 1, 1) := by decide +kernel
theorem d_DiscMakerModel_begin_11 : decode b_DiscMakerModel_begin 11 = .ok (.iastore, 1) := by decide +kernel
theorem d_DiscMakerModel_begin_12 : decode b_DiscMakerModel_begin 12 = .ok (.aload_n 0, 1) := by decide +kernel
theorem d_DiscMakerModel_begin_13 : decode b_DiscMakerModel_begin 13 = .ok (.getfield 79, 3) := by decide +kernel
theorem d_DiscMakerModel_begin_16 : decode b_DiscMakerModel_begin 16 = .ok (.iload_n 3, 1) := by decide +kernel
theorem d_DiscMakerModel_begin_17 : decode b_DiscMakerModel_begin 17 = .ok (.aload_n 0, 1) := by decide +kernel
theorem d_DiscMakerModel_begin_18 : decode b_DiscMakerModel_begin 18 = .ok (.iload_n 2, 1) := by decide +kernel
theorem d_DiscMakerModel_begin_19 : decode b_DiscMakerModel_begin 19 = .ok (.invokevirtual 318, 3) := by decide +kernel
theorem d_DiscMakerModel_begin_22 : decode b_DiscMakerModel_begin 22 = .ok (.bastore, 1) := by decide +kernel
theorem d_DiscMakerModel_begin_23 : decode b_DiscMakerModel_begin 23 = .ok (.aload_n 0, 1) := by decide +kernel
theorem d_DiscMakerModel_begin_24 : decode b_DiscMakerModel_begin 24 = .ok (.getfield 83, 3) := by decide +kernel
theorem d_DiscMakerModel_begin_27 : decode b_DiscMakerModel_begin 27 = .ok (.iload_n 3, 1) := by decide +kernel
theorem d_DiscMakerModel_begin_28 : decode b_DiscMakerModel_begin 28 = .ok (.aload_n 0, 1) := by decide +kernel
theorem d_DiscMakerModel_begin_29 : decode b_DiscMakerModel_begin 29 = .ok (.iload_n 2, 1) := by decide +kernel
theorem d_DiscMakerModel_begin_30 : decode b_DiscMakerModel_begin 30 = .ok (.bipush 10, 2) := by decide +kernel
theorem d_DiscMakerModel_begin_32 : decode b_DiscMakerModel_begin 32 = .ok (.iadd, 1) := by decide +kernel
theorem d_DiscMakerModel_begin_33 : decode b_DiscMakerModel_begin 33 = .ok (.iconst 4, 1) := by decide +kernel
theorem d_DiscMakerModel_begin_34 : decode b_DiscMakerModel_begin 34 = .ok (.invokevirtual 315, 3) := by decide +kernel
theorem d_DiscMakerModel_begin_37 : decode b_DiscMakerModel_begin 37 = .ok (.iastore, 1) := by decide +kernel
theorem d_DiscMakerModel_begin_38 : decode b_DiscMakerModel_begin 38 = .ok (.aload_n 0, 1) := by decide +kernel
theorem d_DiscMakerModel_begin_39 : decode b_DiscMakerModel_begin 39 = .ok (.getfield 86, 3) := by decide +kernel
theorem d_DiscMakerModel_begin_42 : decode b_DiscMakerModel_begin 42 = .ok (.iload_n 3, 1) := by decide +kernel
theorem d_DiscMakerModel_begin_43 : decode b_DiscMakerModel_begin 43 = .ok (.aload_n 0, 1) := by decide +kernel
theorem d_DiscMakerModel_begin_44 : decode b_DiscMakerModel_begin 44 = .ok (.iload_n 2, 1) := by decide +kernel
theorem d_DiscMakerModel_begin_45 : decode b_DiscMakerModel_begin 45 = .ok (.iconst 2, 1) := by decide +kernel
theorem d_DiscMakerModel_begin_46 : decode b_DiscMakerModel_begin 46 = .ok (.iadd, 1) := by decide +kernel
theorem d_DiscMakerModel_begin_47 : decode b_DiscMakerModel_begin 47 = .ok (.iconst 4, 1) := by decide +kernel
theorem d_DiscMakerModel_begin_48 : decode b_DiscMakerModel_begin 48 = .ok (.invokevirtual 315, 3) := by decide +kernel
theorem d_DiscMakerModel_begin_51 : decode b_DiscMakerModel_begin 51 = .ok (.iastore, 1) := by decide +kernel
theorem d_DiscMakerModel_begin_52 : decode b_DiscMakerModel_begin 52 = .ok (.aload_n 0, 1) := by decide +kernel
theorem d_DiscMakerModel_begin_53 : decode b_DiscMakerModel_begin 53 = .ok (.getfield 89, 3) := by decide +kernel
theorem d_DiscMakerModel_begin_56 : decode b_DiscMakerModel_begin 56 = .ok (.iload_n 3, 1) := by decide +kernel
theorem d_DiscMakerModel_begin_57 : decode b_DiscMakerModel_begin 57 = .ok (.iconst 0, 1) := by decide +kernel
theorem d_DiscMakerModel_begin_58 : decode b_DiscMakerModel_begin 58 = .ok (.iastore, 1) := by decide +kernel
theorem d_DiscMakerModel_begin_59 : decode b_DiscMakerModel_begin 59 = .ok (.aload_n 0, 1) := by decide +kernel
theorem d_DiscMakerModel_begin_60 : decode b_DiscMakerModel_begin 60 = .ok (.getfield 92, 3) := by decide +kernel
theorem d_DiscMakerModel_begin_63 : decode b_DiscMakerModel_begin 63 = .ok (.iload_n 3, 1) := by decide +kernel
theorem d_DiscMakerModel_begin_64 : decode b_DiscMakerModel_begin 64 = .ok (.iconst 0, 1) := by decide +kernel
theorem d_DiscMakerModel_begin_65 : decode b_DiscMakerModel_begin 65 = .ok (.iastore, 1) := by decide +kernel
theorem d_DiscMakerModel_begin_66 : decode b_DiscMakerModel_begin 66 = .ok (.aload_n 0, 1) := by decide +kernel
theorem d_DiscMakerModel_begin_67 : decode b_DiscMakerModel_begin 67 = .ok (.getfield 95, 3) := by decide +kernel
theorem d_DiscMakerModel_begin_70 : decode b_DiscMakerModel_begin 70 = .ok (.iload_n 3, 1) := by decide +kernel
theorem d_DiscMakerModel_begin_71 : decode b_DiscMakerModel_begin 71 = .ok (.iconst 0, 1) := by decide +kernel
theorem d_DiscMakerModel_begin_72 : decode b_DiscMakerModel_begin 72 = .ok (.iastore, 1) := by decide +kernel
theorem d_DiscMakerModel_begin_73 : decode b_DiscMakerModel_begin 73 = .ok (.aload_n 0, 1) := by decide +kernel
theorem d_DiscMakerModel_begin_74 : decode b_DiscMakerModel_begin 74 = .ok (.getfield 101, 3) := by decide +kernel
theorem d_DiscMakerModel_begin_77 : decode b_DiscMakerModel_begin 77 = .ok (.iload_n 3, 1) := by decide +kernel
theorem d_DiscMakerModel_begin_78 : decode b_DiscMakerModel_begin 78 = .ok (.iconst 0, 1) := by decide +kernel
theorem d_DiscMakerModel_begin_79 : decode b_DiscMakerModel_begin 79 = .ok (.iastore, 1) := by decide +kernel
theorem d_DiscMakerModel_begin_80 : decode b_DiscMakerModel_begin 80 = .ok (.aload_n 0, 1) := by decide +kernel
theorem d_DiscMakerModel_begin_81 : decode b_DiscMakerModel_begin 81 = .ok (.getfield 108, 3) := by decide +kernel
theorem d_DiscMakerModel_begin_84 : decode b_DiscMakerModel_begin 84 = .ok (.iload_n 3, 1) := by decide +kernel
theorem d_DiscMakerModel_begin_85 : decode b_DiscMakerModel_begin 85 = .ok (.iconst 0, 1) := by decide +kernel
theorem d_DiscMakerModel_begin_86 : decode b_DiscMakerModel_begin 86 = .ok (.iastore, 1) := by decide +kernel
theorem d_DiscMakerModel_begin_87 : decode b_DiscMakerModel_begin 87 = .ok (.aload_n 0, 1) := by decide +kernel
theorem d_DiscMakerModel_begin_88 : decode b_DiscMakerModel_begin 88 = .ok (.getfield 111, 3) := by decide +kernel
theorem d_DiscMakerModel_begin_91 : decode b_DiscMakerModel_begin 91 = .ok (.iload_n 3, 1) := by decide +kernel
theorem d_DiscMakerModel_begin_92 : decode b_DiscMakerModel_begin 92 = .ok (.iload_n 1, 1) := by decide +kernel
theorem d_DiscMakerModel_begin_93 : decode b_DiscMakerModel_begin 93 = .ok (.ifCond .ge 7, 3) := by decide +kernel
theorem d_DiscMakerModel_begin_96 : decode b_DiscMakerModel_begin 96 = .ok (.iconst 1, 1) := by decide +kernel
theorem d_DiscMakerModel_begin_97 : decode b_DiscMakerModel_begin 97 = .ok (.goto 11, 3) := by decide +kernel
theorem d_DiscMakerModel_begin_100 : decode b_DiscMakerModel_begin 100 = .ok (.aload_n 0, 1) := by decide +kernel
theorem d_DiscMakerModel_begin_101 : decode b_DiscMakerModel_begin 101 = .ok (.getfield 111, 3) := by decide +kernel
theorem d_DiscMakerModel_begin_104 : decode b_DiscMakerModel_begin 104 = .ok (.iload_n 1, 1) := by decide +kernel
theorem d_DiscMakerModel_begin_105 : decode b_DiscMakerModel_begin 105 = .ok (.iaload, 1) := by decide +kernel
theorem d_DiscMakerModel_begin_106 : decode b_DiscMakerModel_begin 106 = .ok (.iconst 1, 1) := by decide +kernel
theorem d_DiscMakerModel_begin_107 : decode b_DiscMakerModel_begin 107 = .ok (.iadd, 1) := by decide +kernel
theorem d_DiscMakerModel_begin_108 : decode b_DiscMakerModel_begin 108 = .ok (.iastore, 1) := by decide +kernel
theorem d_DiscMakerModel_begin_109 : decode b_DiscMakerModel_begin 109 = .ok (.return_, 1) := by decide +kernel
set_option maxHeartbeats 4000000 in
set_option maxRecDepth 100000 in
theorem m_begin (l : Launch) (D : va_G) (cB cI cJ cZ cN cF : ClassId) (sz : Nat) (h0 : Nat) (ma : Nat → Nat) (sv_thrown sv_length sv_nodes sv_many sv_directories sv_runsFrom sv_runs sv_read sv_wrong sv_isNamed sv_goes sv_goesSize sv_goesAt sv_targetParts sv_isRoot : Int32) (F : Nat → Int64) (fA : Nat → Int32) (fD : Nat → Int32) (fB : Nat → Int32) (fP : Nat → Int32) (fM : Nat → Int32) (fO : Nat → Int32) (fG : Nat → Int32) (fNS : Nat → Int32) (fTS : Nat → Int32) (fE : Nat → Int32) (x : Int32) (y : Int32) (hrd : 0 ≤ sv_read.toInt ∧ sv_read.toInt < 100) (hx0 : x.toInt < 100) (hy0 : 0 ≤ y.toInt ∧ y.toInt + 34 ≤ 368640) (hfNS : Rg 0 60 100 fNS) (hfTS : Rg 0 400 100 fTS) : Met l y_DiscMakerModel_begin w_DiscMakerModel_begin ({ frames := 2, cells := 0, slots := 0, locals := 45 }) (va_Pc [.ref h0, .int x, .int y] (fun U => U.heap.size = sz ∧ va_P D CL [(h0, .inr (11, MO ma sv_thrown sv_length sv_nodes sv_many sv_directories sv_runsFrom sv_runs sv_read sv_wrong sv_isNamed sv_goes sv_goesSize sv_goesAt sv_targetParts sv_isRoot)), ((ma 16), .inl (cJ, 46080, .inr (.inl F))), ((ma 21), .inl (cI, 100, .inl fA)), ((ma 22), .inl (cZ, 100, .inl fD)), ((ma 23), .inl (cI, 100, .inl fB)), ((ma 24), .inl (cI, 100, .inl fP)), ((ma 25), .inl (cI, 100, .inl fM)), ((ma 26), .inl (cI, 100, .inl fO)), ((ma 27), .inl (cI, 100, .inl fG)), ((ma 29), .inl (cI, 100, .inl fNS)), ((ma 31), .inl (cI, 100, .inl fTS)), ((ma 32), .inl (cI, 100, .inl fE))] U.heap ∧ va_K D CL (TY cB cI cJ cZ cN cF) U ∧ NN U ∧ va_D (fun _ => True) [(h0, .inr (11, MO ma sv_thrown sv_length sv_nodes sv_many sv_directories sv_runsFrom sv_runs sv_read sv_wrong sv_isNamed sv_goes sv_goesSize sv_goesAt sv_targetParts sv_isRoot)), ((ma 16), .inl (cJ, 46080, .inr (.inl F))), ((ma 21), .inl (cI, 100, .inl fA)), ((ma 22), .inl (cZ, 100, .inl fD)), ((ma 23), .inl (cI, 100, .inl fB)), ((ma 24), .inl (cI, 100, .inl fP)), ((ma 25), .inl (cI, 100, .inl fM)), ((ma 26), .inl (cI, 100, .inl fO)), ((ma 27), .inl (cI, 100, .inl fG)), ((ma 29), .inl (cI, 100, .inl fNS)), ((ma 31), .inl (cI, 100, .inl fTS)), ((ma 32), .inl (cI, 100, .inl fE))])) (va_Qv (fun (u : (Nat → Int32) × (Nat → Int32) × (Nat → Int32) × (Nat → Int32) × (Nat → Int32) × (Nat → Int32) × (Nat → Int32) × (Nat → Int32) × (Nat → Int32) × (Nat → Int32)) => match u with | (gA, gD, gB, gP, gM, gO, gG, gNS, gTS, gE) => (gD = upd fD sv_read.toNatClampNeg (vp_nar .boolean (mkF F y))) ∧ (gB = upd fB sv_read.toNatClampNeg (low4F F (y + 10))) ∧ (gP = upd fP sv_read.toNatClampNeg (low4F F (y + 2))) ∧ (Rg 0 60 100 gNS) ∧ (Rg 0 400 100 gTS)) (fun (u : (Nat → Int32) × (Nat → Int32) × (Nat → Int32) × (Nat → Int32) × (Nat → Int32) × (Nat → Int32) × (Nat → Int32) × (Nat → Int32) × (Nat → Int32) × (Nat → Int32)) (t : State) => match u with | (gA, gD, gB, gP, gM, gO, gG, gNS, gTS, gE) => va_P D CL [(h0, .inr (11, MO ma sv_thrown sv_length sv_nodes sv_many sv_directories sv_runsFrom sv_runs sv_read sv_wrong sv_isNamed sv_goes sv_goesSize sv_goesAt sv_targetParts sv_isRoot)), ((ma 16), .inl (cJ, 46080, .inr (.inl F))), ((ma 21), .inl (cI, 100, .inl gA)), ((ma 22), .inl (cZ, 100, .inl gD)), ((ma 23), .inl (cI, 100, .inl gB)), ((ma 24), .inl (cI, 100, .inl gP)), ((ma 25), .inl (cI, 100, .inl gM)), ((ma 26), .inl (cI, 100, .inl gO)), ((ma 27), .inl (cI, 100, .inl gG)), ((ma 29), .inl (cI, 100, .inl gNS)), ((ma 31), .inl (cI, 100, .inl gTS)), ((ma 32), .inl (cI, 100, .inl gE))] t.heap ∧ va_D (va_A [(h0, .inr (11, MO ma sv_thrown sv_length sv_nodes sv_many sv_directories sv_runsFrom sv_runs sv_read sv_wrong sv_isNamed sv_goes sv_goesSize sv_goesAt sv_targetParts sv_isRoot)), ((ma 16), .inl (cJ, 46080, .inr (.inl F))), ((ma 21), .inl (cI, 100, .inl fA)), ((ma 22), .inl (cZ, 100, .inl fD)), ((ma 23), .inl (cI, 100, .inl fB)), ((ma 24), .inl (cI, 100, .inl fP)), ((ma 25), .inl (cI, 100, .inl fM)), ((ma 26), .inl (cI, 100, .inl fO)), ((ma 27), .inl (cI, 100, .inl fG)), ((ma 29), .inl (cI, 100, .inl fNS)), ((ma 31), .inl (cI, 100, .inl fTS)), ((ma 32), .inl (cI, 100, .inl fE))] sz) [(h0, .inr (11, MO ma sv_thrown sv_length sv_nodes sv_many sv_directories sv_runsFrom sv_runs sv_read sv_wrong sv_isNamed sv_goes sv_goesSize sv_goesAt sv_targetParts sv_isRoot)), ((ma 16), .inl (cJ, 46080, .inr (.inl F))), ((ma 21), .inl (cI, 100, .inl gA)), ((ma 22), .inl (cZ, 100, .inl gD)), ((ma 23), .inl (cI, 100, .inl gB)), ((ma 24), .inl (cI, 100, .inl gP)), ((ma 25), .inl (cI, 100, .inl gM)), ((ma 26), .inl (cI, 100, .inl gO)), ((ma 27), .inl (cI, 100, .inl gG)), ((ma 29), .inl (cI, 100, .inl gNS)), ((ma 31), .inl (cI, 100, .inl gTS)), ((ma 32), .inl (cI, 100, .inl gE))]) (va_A [(h0, .inr (11, MO ma sv_thrown sv_length sv_nodes sv_many sv_directories sv_runsFrom sv_runs sv_read sv_wrong sv_isNamed sv_goes sv_goesSize sv_goesAt sv_targetParts sv_isRoot)), ((ma 16), .inl (cJ, 46080, .inr (.inl F))), ((ma 21), .inl (cI, 100, .inl fA)), ((ma 22), .inl (cZ, 100, .inl fD)), ((ma 23), .inl (cI, 100, .inl fB)), ((ma 24), .inl (cI, 100, .inl fP)), ((ma 25), .inl (cI, 100, .inl fM)), ((ma 26), .inl (cI, 100, .inl fO)), ((ma 27), .inl (cI, 100, .inl fG)), ((ma 29), .inl (cI, 100, .inl fNS)), ((ma 31), .inl (cI, 100, .inl fTS)), ((ma 32), .inl (cI, 100, .inl fE))] sz)) 0 0 (va_A [(h0, .inr (11, MO ma sv_thrown sv_length sv_nodes sv_many sv_directories sv_runsFrom sv_runs sv_read sv_wrong sv_isNamed sv_goes sv_goesSize sv_goesAt sv_targetParts sv_isRoot)), ((ma 16), .inl (cJ, 46080, .inr (.inl F))), ((ma 21), .inl (cI, 100, .inl fA)), ((ma 22), .inl (cZ, 100, .inl fD)), ((ma 23), .inl (cI, 100, .inl fB)), ((ma 24), .inl (cI, 100, .inl fP)), ((ma 25), .inl (cI, 100, .inl fM)), ((ma 26), .inl (cI, 100, .inl fO)), ((ma 27), .inl (cI, 100, .inl fG)), ((ma 29), .inl (cI, 100, .inl fNS)), ((ma 31), .inl (cI, 100, .inl fTS)), ((ma 32), .inl (cI, 100, .inl fE))] sz) := by
  refine Met.ofW (cc := b_DiscMakerModel_begin) (maxL := 4) (ret := none) (by decide) rfl ?_
  intro p e s m args below meth c s₁ B hml hv
  obtain ⟨rfl, hsz, hP, hK, hN, hD0⟩ := hv
  have hx := B.exec
  have hb := B.bytes
  have hr := B.returns
  have hts := atoms_spec (ws := w_DiscMakerModel_begin) B.pre
  have ht9 := fun (w : Cond) (h : w ∈ lw_g) => hts w (List.mem_cons_of_mem _ h)
  have hown : s.vm.findClass "DiscMakerModel" = some m.cls := findClass_of_methodNamed B.named
  have hlocks := B.notSynchronized
  subst hsz
  have hD := hD0.self (sz := s.heap.size)
  generalize hAe : va_A [(h0, .inr (11, MO ma sv_thrown sv_length sv_nodes sv_many sv_directories sv_runsFrom sv_runs sv_read sv_wrong sv_isNamed sv_goes sv_goesSize sv_goesAt sv_targetParts sv_isRoot)), ((ma 16), .inl (cJ, 46080, .inr (.inl F))), ((ma 21), .inl (cI, 100, .inl fA)), ((ma 22), .inl (cZ, 100, .inl fD)), ((ma 23), .inl (cI, 100, .inl fB)), ((ma 24), .inl (cI, 100, .inl fP)), ((ma 25), .inl (cI, 100, .inl fM)), ((ma 26), .inl (cI, 100, .inl fO)), ((ma 27), .inl (cI, 100, .inl fG)), ((ma 29), .inl (cI, 100, .inl fNS)), ((ma 31), .inl (cI, 100, .inl fTS)), ((ma 32), .inl (cI, 100, .inl fE))] s.heap.size = A at hD ⊢
  have hA : ∀ q : Nat, s.heap.size ≤ q → A q := fun q h => by rw [← hAe]; exact Or.inr h
  have hS : va_S A s.heap s.heap [] := va_S.rf
  have hP : va_P D CL [(h0, .inr (11, MO ma sv_thrown sv_length sv_nodes sv_many sv_directories sv_runsFrom sv_runs sv_read sv_wrong sv_isNamed sv_goes sv_goesSize sv_goesAt sv_targetParts sv_isRoot)), ((ma 16), .inl (cJ, 46080, .inr (.inl F))), ((ma 21), .inl (cI, 100, .inl fA)), ((ma 22), .inl (cZ, 100, .inl fD)), ((ma 23), .inl (cI, 100, .inl fB)), ((ma 24), .inl (cI, 100, .inl fP)), ((ma 25), .inl (cI, 100, .inl fM)), ((ma 26), .inl (cI, 100, .inl fO)), ((ma 27), .inl (cI, 100, .inl fG)), ((ma 29), .inl (cI, 100, .inl fNS)), ((ma 31), .inl (cI, 100, .inl fTS)), ((ma 32), .inl (cI, 100, .inl fE))] s.heap := hP
  have hl := lv_entry [.ref h0, .int x, .int y] (n := 4) (Nat.le_of_ble_eq_true rfl)
  rw [lg_entry_eq]
  generalize (lg_sl [.ref h0, .int x, .int y] ++ List.replicate (4 - (lg_sl [.ref h0, .int x, .int y]).length) Slot.unset).toArray = ls at hl ⊢
  have hl : lv_has ls 4 [(0, .ref h0), (1, .int x), (2, .int y)] := hl
  have L_m1 : ((-1) : Int32).toInt = (-1) := by decide
  have L_0 : (0 : Int32).toInt = 0 := by decide
  have L_1 : (1 : Int32).toInt = 1 := by decide
  have L_2 : (2 : Int32).toInt = 2 := by decide
  have L_4 : (4 : Int32).toInt = 4 := by decide
  have L_10 : (10 : Int32).toInt = 10 := by decide
  refine lv_aload_n hx hb d_DiscMakerModel_begin_0 rfl (lv_at hl 0 rfl) ?_
  refine va_get (D := D) (ci := 11) (v := .int sv_read) (C := "DiscMakerModel") (T := F_DiscMakerModel) (N := 48) hx hb ht9 in_DiscMakerModel hown hK hP 0 rfl rfl 28 (by decide) (ht9 _ k1459) (fun _ h9 => h9) rfl d_DiscMakerModel_begin_1 ?_
  refine lv_istore_n hx hb d_DiscMakerModel_begin_4 rfl hl (by decide) rfl (fun ls hl => ?_)
  have hl : lv_has ls 4 [(3, .int sv_read), (0, .ref h0), (1, .int x), (2, .int y)] := hl
  refine lv_aload_n hx hb d_DiscMakerModel_begin_5 rfl (lv_at hl 1 rfl) ?_
  refine va_get (D := D) (ci := 11) (v := .ref (ma 21)) (C := "DiscMakerModel") (T := F_DiscMakerModel) (N := 48) hx hb ht9 in_DiscMakerModel hown hK hP 0 rfl rfl 29 (by decide) (ht9 _ k1460) (fun _ h9 => h9) rfl d_DiscMakerModel_begin_6 ?_
  refine lv_iload_n hx hb d_DiscMakerModel_begin_9 rfl (lv_at hl 0 rfl) ?_
  refine lv_iload_n hx hb d_DiscMakerModel_begin_10 rfl (lv_at hl 2 rfl) ?_
  refine zq_iast hx hb hK hP hD hS 2 1 rfl rfl (vp_in_iff.mpr ⟨by omega, by omega⟩) d_DiscMakerModel_begin_11 (fun f1 e_f1 H locs hP hD hS => ?_)
  have hP : va_P D CL [(h0, .inr (11, MO ma sv_thrown sv_length sv_nodes sv_many sv_directories sv_runsFrom sv_runs sv_read sv_wrong sv_isNamed sv_goes sv_goesSize sv_goesAt sv_targetParts sv_isRoot)), ((ma 16), .inl (cJ, 46080, .inr (.inl F))), ((ma 21), .inl (cI, 100, .inl f1)), ((ma 22), .inl (cZ, 100, .inl fD)), ((ma 23), .inl (cI, 100, .inl fB)), ((ma 24), .inl (cI, 100, .inl fP)), ((ma 25), .inl (cI, 100, .inl fM)), ((ma 26), .inl (cI, 100, .inl fO)), ((ma 27), .inl (cI, 100, .inl fG)), ((ma 29), .inl (cI, 100, .inl fNS)), ((ma 31), .inl (cI, 100, .inl fTS)), ((ma 32), .inl (cI, 100, .inl fE))] H := hP
  have hD : va_D A [(h0, .inr (11, MO ma sv_thrown sv_length sv_nodes sv_many sv_directories sv_runsFrom sv_runs sv_read sv_wrong sv_isNamed sv_goes sv_goesSize sv_goesAt sv_targetParts sv_isRoot)), ((ma 16), .inl (cJ, 46080, .inr (.inl F))), ((ma 21), .inl (cI, 100, .inl f1)), ((ma 22), .inl (cZ, 100, .inl fD)), ((ma 23), .inl (cI, 100, .inl fB)), ((ma 24), .inl (cI, 100, .inl fP)), ((ma 25), .inl (cI, 100, .inl fM)), ((ma 26), .inl (cI, 100, .inl fO)), ((ma 27), .inl (cI, 100, .inl fG)), ((ma 29), .inl (cI, 100, .inl fNS)), ((ma 31), .inl (cI, 100, .inl fTS)), ((ma 32), .inl (cI, 100, .inl fE))] := hD
  have s_f1 : f1 (sv_read).toNatClampNeg = x := by rw [e_f1]; unfold upd; rw [if_pos (by first | rfl | decide)]
  refine lv_aload_n hx hb d_DiscMakerModel_begin_12 rfl (lv_at hl 1 rfl) ?_
  refine va_get (D := D) (ci := 11) (v := .ref (ma 22)) (C := "DiscMakerModel") (T := F_DiscMakerModel) (N := 48) hx hb ht9 in_DiscMakerModel hown hK hP 0 rfl rfl 30 (by decide) (ht9 _ k1461) (fun _ h9 => h9) rfl d_DiscMakerModel_begin_13 ?_
  refine lv_iload_n hx hb d_DiscMakerModel_begin_16 rfl (lv_at hl 0 rfl) ?_
  refine lv_aload_n hx hb d_DiscMakerModel_begin_17 rfl (lv_at hl 1 rfl) ?_
  refine lv_iload_n hx hb d_DiscMakerModel_begin_18 rfl (lv_at hl 3 rfl) ?_
  have hPc := hP.sub (ws' := [(h0, .inr (11, MO ma sv_thrown sv_length sv_nodes sv_many sv_directories sv_runsFrom sv_runs sv_read sv_wrong sv_isNamed sv_goes sv_goesSize sv_goesAt sv_targetParts sv_isRoot)), ((ma 16), .inl (cJ, 46080, .inr (.inl F)))]) [0, 1] rfl
  have hDc := hD.sub (ws' := [(h0, .inr (11, MO ma sv_thrown sv_length sv_nodes sv_many sv_directories sv_runsFrom sv_runs sv_read sv_wrong sv_isNamed sv_goes sv_goesSize sv_goesAt sv_targetParts sv_isRoot)), ((ma 16), .inl (cJ, 46080, .inr (.inl F)))]) [0, 1] (by decide +kernel) rfl
  have hFc := va_free (wc := [(h0, .inr (11, MO ma sv_thrown sv_length sv_nodes sv_many sv_directories sv_runsFrom sv_runs sv_read sv_wrong sv_isNamed sv_goes sv_goesSize sv_goesAt sv_targetParts sv_isRoot)), ((ma 16), .inl (cJ, 46080, .inr (.inl F)))]) hD hS hA [0, 1] rfl
  have hkc : 0 ≤ 0 := by decide
  have hks : 0 ≤ 0 := by decide
  refine va_calli (va_runV (C := "DiscMakerModel") (As := [.int y]) (rest := [.int sv_read, .ref (ma 22)]) ⟨hx, hb, hml, hown, hts⟩ (m_isMarked l D cB cI cJ cZ cN cF H.size h0 ma sv_thrown sv_length sv_nodes sv_many sv_directories sv_runsFrom sv_runs sv_read sv_wrong sv_isNamed sv_goes sv_goesSize sv_goesAt sv_targetParts sv_isRoot F y (by (try dsimp only); first | assumption | omega | trivial) (by (try dsimp only); first | assumption | omega | trivial)) (cwV 1 hts (lg_goodV k1849 k1851 k102 k125 kc_DiscMakerModel_isMarked) rfl rfl rfl (by decide +kernel) ⟨Nat.le_of_ble_eq_true rfl, Nat.le_of_ble_eq_true rfl⟩) ⟨fun a U g mk q => by obtain ⟨q0, q1, qP, qK, qN, qD⟩ := q; exact ⟨q0, q1, qP, va_K.moved (u := U) (U := U.calling g mk a) (Vm.Alike.refl U.vm) qK, qN.calling, qD⟩, va_recv hK hP (ci := 11) (q0 := 0) rfl rfl, fun U hU hW => ⟨rfl, by rw [hU], by rw [hU]; exact hPc, va_K.moved hW.alike hK, NN.warm hW hN, hDc.weaken (fun _ _ _ _ => trivial)⟩⟩ rfl rfl hl.1 rfl (lv_room (Nat.le_of_ble_eq_true rfl)) d_DiscMakerModel_begin_19 ⟨hkc, hks⟩) hS (fun q _ h => hFc q h) hFc (fun r2 u t H1 locs ht hvm hp_r2 hB hz1 hk1 hS => ?_)
  obtain ⟨hP1, hD1⟩ := hB
  rw [ht] at hP1
  obtain ⟨hP, hD⟩ := va_join (wr := [((ma 21), .inl (cI, 100, .inl f1)), ((ma 22), .inl (cZ, 100, .inl fD)), ((ma 23), .inl (cI, 100, .inl fB)), ((ma 24), .inl (cI, 100, .inl fP)), ((ma 25), .inl (cI, 100, .inl fM)), ((ma 26), .inl (cI, 100, .inl fO)), ((ma 27), .inl (cI, 100, .inl fG)), ((ma 29), .inl (cI, 100, .inl fNS)), ((ma 31), .inl (cI, 100, .inl fTS)), ((ma 32), .inl (cI, 100, .inl fE))]) (w1 := [(h0, .inr (11, MO ma sv_thrown sv_length sv_nodes sv_many sv_directories sv_runsFrom sv_runs sv_read sv_wrong sv_isNamed sv_goes sv_goesSize sv_goesAt sv_targetParts sv_isRoot)), ((ma 16), .inl (cJ, 46080, .inr (.inl F)))]) hP hD [0, 1] [2, 3, 4, 5, 6, 7, 8, 9, 10, 11] rfl rfl (by decide +kernel) (by decide +kernel) hk1 hFc hP1 hD1
  clear hPc hDc hFc hP1 hD1 hk1 hz1 hkc hks
  generalize H1 = H at hP hS ⊢
  have hP : va_P D CL [((ma 21), .inl (cI, 100, .inl f1)), ((ma 22), .inl (cZ, 100, .inl fD)), ((ma 23), .inl (cI, 100, .inl fB)), ((ma 24), .inl (cI, 100, .inl fP)), ((ma 25), .inl (cI, 100, .inl fM)), ((ma 26), .inl (cI, 100, .inl fO)), ((ma 27), .inl (cI, 100, .inl fG)), ((ma 29), .inl (cI, 100, .inl fNS)), ((ma 31), .inl (cI, 100, .inl fTS)), ((ma 32), .inl (cI, 100, .inl fE)), (h0, .inr (11, MO ma sv_thrown sv_length sv_nodes sv_many sv_directories sv_runsFrom sv_runs sv_read sv_wrong sv_isNamed sv_goes sv_goesSize sv_goesAt sv_targetParts sv_isRoot)), ((ma 16), .inl (cJ, 46080, .inr (.inl F)))] H := hP
  have hD : va_D A [((ma 21), .inl (cI, 100, .inl f1)), ((ma 22), .inl (cZ, 100, .inl fD)), ((ma 23), .inl (cI, 100, .inl fB)), ((ma 24), .inl (cI, 100, .inl fP)), ((ma 25), .inl (cI, 100, .inl fM)), ((ma 26), .inl (cI, 100, .inl fO)), ((ma 27), .inl (cI, 100, .inl fG)), ((ma 29), .inl (cI, 100, .inl fNS)), ((ma 31), .inl (cI, 100, .inl fTS)), ((ma 32), .inl (cI, 100, .inl fE)), (h0, .inr (11, MO ma sv_thrown sv_length sv_nodes sv_many sv_directories sv_runsFrom sv_runs sv_read sv_wrong sv_isNamed sv_goes sv_goesSize sv_goesAt sv_targetParts sv_isRoot)), ((ma 16), .inl (cJ, 46080, .inr (.inl F)))] := hD
  try dsimp only at hp_r2
  obtain ⟨hr_3, hv_4⟩ := hp_r2
  refine zq_zast hx hb hK hP hD hS 1 3 rfl rfl (vp_in_iff.mpr ⟨by omega, by omega⟩) d_DiscMakerModel_begin_22 (fun f5 e_f5 H locs hP hD hS => ?_)
  have hP : va_P D CL [((ma 21), .inl (cI, 100, .inl f1)), ((ma 22), .inl (cZ, 100, .inl f5)), ((ma 23), .inl (cI, 100, .inl fB)), ((ma 24), .inl (cI, 100, .inl fP)), ((ma 25), .inl (cI, 100, .inl fM)), ((ma 26), .inl (cI, 100, .inl fO)), ((ma 27), .inl (cI, 100, .inl fG)), ((ma 29), .inl (cI, 100, .inl fNS)), ((ma 31), .inl (cI, 100, .inl fTS)), ((ma 32), .inl (cI, 100, .inl fE)), (h0, .inr (11, MO ma sv_thrown sv_length sv_nodes sv_many sv_directories sv_runsFrom sv_runs sv_read sv_wrong sv_isNamed sv_goes sv_goesSize sv_goesAt sv_targetParts sv_isRoot)), ((ma 16), .inl (cJ, 46080, .inr (.inl F)))] H := hP
  have hD : va_D A [((ma 21), .inl (cI, 100, .inl f1)), ((ma 22), .inl (cZ, 100, .inl f5)), ((ma 23), .inl (cI, 100, .inl fB)), ((ma 24), .inl (cI, 100, .inl fP)), ((ma 25), .inl (cI, 100, .inl fM)), ((ma 26), .inl (cI, 100, .inl fO)), ((ma 27), .inl (cI, 100, .inl fG)), ((ma 29), .inl (cI, 100, .inl fNS)), ((ma 31), .inl (cI, 100, .inl fTS)), ((ma 32), .inl (cI, 100, .inl fE)), (h0, .inr (11, MO ma sv_thrown sv_length sv_nodes sv_many sv_directories sv_runsFrom sv_runs sv_read sv_wrong sv_isNamed sv_goes sv_goesSize sv_goesAt sv_targetParts sv_isRoot)), ((ma 16), .inl (cJ, 46080, .inr (.inl F)))] := hD
  refine lv_aload_n hx hb d_DiscMakerModel_begin_23 rfl (lv_at hl 1 rfl) ?_
  refine va_get (D := D) (ci := 11) (v := .ref (ma 23)) (C := "DiscMakerModel") (T := F_DiscMakerModel) (N := 48) hx hb ht9 in_DiscMakerModel hown hK hP 10 rfl rfl 31 (by decide) (ht9 _ k1462) (fun _ h9 => h9) rfl d_DiscMakerModel_begin_24 ?_
  refine lv_iload_n hx hb d_DiscMakerModel_begin_27 rfl (lv_at hl 0 rfl) ?_
  refine lv_aload_n hx hb d_DiscMakerModel_begin_28 rfl (lv_at hl 1 rfl) ?_
  refine lv_iload_n hx hb d_DiscMakerModel_begin_29 rfl (lv_at hl 3 rfl) ?_
  refine lv_bipush (v := 10) hx hb d_DiscMakerModel_begin_30 (by decide) ?_
  refine lv_iadd hx hb d_DiscMakerModel_begin_32 ?_
  refine lv_topi (fun v6 e_v6 => ?_)
  have t_v6 : v6.toInt = y.toInt + 10 := by rw [e_v6]; exact i_add rfl (by decide) (by omega) (by omega)
  refine lv_iconst (v := 4) hx hb d_DiscMakerModel_begin_33 (by decide) ?_
  have hPc := hP.sub (ws' := [(h0, .inr (11, MO ma sv_thrown sv_length sv_nodes sv_many sv_directories sv_runsFrom sv_runs sv_read sv_wrong sv_isNamed sv_goes sv_goesSize sv_goesAt sv_targetParts sv_isRoot)), ((ma 16), .inl (cJ, 46080, .inr (.inl F)))]) [10, 11] rfl
  have hDc := hD.sub (ws' := [(h0, .inr (11, MO ma sv_thrown sv_length sv_nodes sv_many sv_directories sv_runsFrom sv_runs sv_read sv_wrong sv_isNamed sv_goes sv_goesSize sv_goesAt sv_targetParts sv_isRoot)), ((ma 16), .inl (cJ, 46080, .inr (.inl F)))]) [10, 11] (by decide +kernel) rfl
  have hFc := va_free (wc := [(h0, .inr (11, MO ma sv_thrown sv_length sv_nodes sv_many sv_directories sv_runsFrom sv_runs sv_read sv_wrong sv_isNamed sv_goes sv_goesSize sv_goesAt sv_targetParts sv_isRoot)), ((ma 16), .inl (cJ, 46080, .inr (.inl F)))]) hD hS hA [10, 11] rfl
  have hkc : 0 ≤ 0 := by decide
  have hks : 0 ≤ 0 := by decide
  refine va_calli (va_runV (C := "DiscMakerModel") (As := [.int v6, .int 4]) (rest := [.int sv_read, .ref (ma 23)]) ⟨hx, hb, hml, hown, hts⟩ (m_lowAt4 l D cB cI cJ cZ cN cF H.size h0 ma sv_thrown sv_length sv_nodes sv_many sv_directories sv_runsFrom sv_runs sv_read sv_wrong sv_isNamed sv_goes sv_goesSize sv_goesAt sv_targetParts sv_isRoot F v6 (by (try dsimp only); first | assumption | omega | trivial) (by (try dsimp only); first | assumption | omega | trivial)) (cwV 2 hts (lg_goodV k1841 k1843 k100 k125 kc_DiscMakerModel_lowAt) rfl rfl rfl (by decide +kernel) ⟨Nat.le_of_ble_eq_true rfl, Nat.le_of_ble_eq_true rfl⟩) ⟨fun a U g mk q => by obtain ⟨q0, q1, qP, qK, qN, qD⟩ := q; exact ⟨q0, q1, qP, va_K.moved (u := U) (U := U.calling g mk a) (Vm.Alike.refl U.vm) qK, qN.calling, qD⟩, va_recv hK hP (ci := 11) (q0 := 10) rfl rfl, fun U hU hW => ⟨rfl, by rw [hU], by rw [hU]; exact hPc, va_K.moved hW.alike hK, NN.warm hW hN, hDc.weaken (fun _ _ _ _ => trivial)⟩⟩ rfl rfl hl.1 rfl (lv_room (Nat.le_of_ble_eq_true rfl)) d_DiscMakerModel_begin_34 ⟨hkc, hks⟩) hS (fun q _ h => hFc q h) hFc (fun r7 u t H1 locs ht hvm hp_r7 hB hz1 hk1 hS => ?_)
  obtain ⟨hP1, hD1⟩ := hB
  rw [ht] at hP1
  obtain ⟨hP, hD⟩ := va_join (wr := [((ma 21), .inl (cI, 100, .inl f1)), ((ma 22), .inl (cZ, 100, .inl f5)), ((ma 23), .inl (cI, 100, .inl fB)), ((ma 24), .inl (cI, 100, .inl fP)), ((ma 25), .inl (cI, 100, .inl fM)), ((ma 26), .inl (cI, 100, .inl fO)), ((ma 27), .inl (cI, 100, .inl fG)), ((ma 29), .inl (cI, 100, .inl fNS)), ((ma 31), .inl (cI, 100, .inl fTS)), ((ma 32), .inl (cI, 100, .inl fE))]) (w1 := [(h0, .inr (11, MO ma sv_thrown sv_length sv_nodes sv_many sv_directories sv_runsFrom sv_runs sv_read sv_wrong sv_isNamed sv_goes sv_goesSize sv_goesAt sv_targetParts sv_isRoot)), ((ma 16), .inl (cJ, 46080, .inr (.inl F)))]) hP hD [10, 11] [0, 1, 2, 3, 4, 5, 6, 7, 8, 9] rfl rfl (by decide +kernel) (by decide +kernel) hk1 hFc hP1 hD1
  clear hPc hDc hFc hP1 hD1 hk1 hz1 hkc hks
  generalize H1 = H at hP hS ⊢
  have hP : va_P D CL [((ma 21), .inl (cI, 100, .inl f1)), ((ma 22), .inl (cZ, 100, .inl f5)), ((ma 23), .inl (cI, 100, .inl fB)), ((ma 24), .inl (cI, 100, .inl fP)), ((ma 25), .inl (cI, 100, .inl fM)), ((ma 26), .inl (cI, 100, .inl fO)), ((ma 27), .inl (cI, 100, .inl fG)), ((ma 29), .inl (cI, 100, .inl fNS)), ((ma 31), .inl (cI, 100, .inl fTS)), ((ma 32), .inl (cI, 100, .inl fE)), (h0, .inr (11, MO ma sv_thrown sv_length sv_nodes sv_many sv_directories sv_runsFrom sv_runs sv_read sv_wrong sv_isNamed sv_goes sv_goesSize sv_goesAt sv_targetParts sv_isRoot)), ((ma 16), .inl (cJ, 46080, .inr (.inl F)))] H := hP
  have hD : va_D A [((ma 21), .inl (cI, 100, .inl f1)), ((ma 22), .inl (cZ, 100, .inl f5)), ((ma 23), .inl (cI, 100, .inl fB)), ((ma 24), .inl (cI, 100, .inl fP)), ((ma 25), .inl (cI, 100, .inl fM)), ((ma 26), .inl (cI, 100, .inl fO)), ((ma 27), .inl (cI, 100, .inl fG)), ((ma 29), .inl (cI, 100, .inl fNS)), ((ma 31), .inl (cI, 100, .inl fTS)), ((ma 32), .inl (cI, 100, .inl fE)), (h0, .inr (11, MO ma sv_thrown sv_length sv_nodes sv_many sv_directories sv_runsFrom sv_runs sv_read sv_wrong sv_isNamed sv_goes sv_goesSize sv_goesAt sv_targetParts sv_isRoot)), ((ma 16), .inl (cJ, 46080, .inr (.inl F)))] := hD
  try dsimp only at hp_r7
  have hv_8 := hp_r7
  refine zq_iast hx hb hK hP hD hS 2 1 rfl rfl (vp_in_iff.mpr ⟨by omega, by omega⟩) d_DiscMakerModel_begin_37 (fun f9 e_f9 H locs hP hD hS => ?_)
  have hP : va_P D CL [((ma 21), .inl (cI, 100, .inl f1)), ((ma 22), .inl (cZ, 100, .inl f5)), ((ma 23), .inl (cI, 100, .inl f9)), ((ma 24), .inl (cI, 100, .inl fP)), ((ma 25), .inl (cI, 100, .inl fM)), ((ma 26), .inl (cI, 100, .inl fO)), ((ma 27), .inl (cI, 100, .inl fG)), ((ma 29), .inl (cI, 100, .inl fNS)), ((ma 31), .inl (cI, 100, .inl fTS)), ((ma 32), .inl (cI, 100, .inl fE)), (h0, .inr (11, MO ma sv_thrown sv_length sv_nodes sv_many sv_directories sv_runsFrom sv_runs sv_read sv_wrong sv_isNamed sv_goes sv_goesSize sv_goesAt sv_targetParts sv_isRoot)), ((ma 16), .inl (cJ, 46080, .inr (.inl F)))] H := hP
  have hD : va_D A [((ma 21), .inl (cI, 100, .inl f1)), ((ma 22), .inl (cZ, 100, .inl f5)), ((ma 23), .inl (cI, 100, .inl f9)), ((ma 24), .inl (cI, 100, .inl fP)), ((ma 25), .inl (cI, 100, .inl fM)), ((ma 26), .inl (cI, 100, .inl fO)), ((ma 27), .inl (cI, 100, .inl fG)), ((ma 29), .inl (cI, 100, .inl fNS)), ((ma 31), .inl (cI, 100, .inl fTS)), ((ma 32), .inl (cI, 100, .inl fE)), (h0, .inr (11, MO ma sv_thrown sv_length sv_nodes sv_many sv_directories sv_runsFrom sv_runs sv_read sv_wrong sv_isNamed sv_goes sv_goesSize sv_goesAt sv_targetParts sv_isRoot)), ((ma 16), .inl (cJ, 46080, .inr (.inl F)))] := hD
  have s_f9 : f9 (sv_read).toNatClampNeg = r7 := by rw [e_f9]; unfold upd; rw [if_pos (by first | rfl | decide)]
  refine lv_aload_n hx hb d_DiscMakerModel_begin_38 rfl (lv_at hl 1 rfl) ?_
  refine va_get (D := D) (ci := 11) (v := .ref (ma 24)) (C := "DiscMakerModel") (T := F_DiscMakerModel) (N := 48) hx hb ht9 in_DiscMakerModel hown hK hP 10 rfl rfl 32 (by decide) (ht9 _ k1463) (fun _ h9 => h9) rfl d_DiscMakerModel_begin_39 ?_
  refine lv_iload_n hx hb d_DiscMakerModel_begin_42 rfl (lv_at hl 0 rfl) ?_
  refine lv_aload_n hx hb d_DiscMakerModel_begin_43 rfl (lv_at hl 1 rfl) ?_
  refine lv_iload_n hx hb d_DiscMakerModel_begin_44 rfl (lv_at hl 3 rfl) ?_
  refine lv_iconst (v := 2) hx hb d_DiscMakerModel_begin_45 (by decide) ?_
  refine lv_iadd hx hb d_DiscMakerModel_begin_46 ?_
  refine lv_topi (fun v10 e_v10 => ?_)
  have t_v10 : v10.toInt = y.toInt + 2 := by rw [e_v10]; exact i_add rfl (by decide) (by omega) (by omega)
  refine lv_iconst (v := 4) hx hb d_DiscMakerModel_begin_47 (by decide) ?_
  have hPc := hP.sub (ws' := [(h0, .inr (11, MO ma sv_thrown sv_length sv_nodes sv_many sv_directories sv_runsFrom sv_runs sv_read sv_wrong sv_isNamed sv_goes sv_goesSize sv_goesAt sv_targetParts sv_isRoot)), ((ma 16), .inl (cJ, 46080, .inr (.inl F)))]) [10, 11] rfl
  have hDc := hD.sub (ws' := [(h0, .inr (11, MO ma sv_thrown sv_length sv_nodes sv_many sv_directories sv_runsFrom sv_runs sv_read sv_wrong sv_isNamed sv_goes sv_goesSize sv_goesAt sv_targetParts sv_isRoot)), ((ma 16), .inl (cJ, 46080, .inr (.inl F)))]) [10, 11] (by decide +kernel) rfl
  have hFc := va_free (wc := [(h0, .inr (11, MO ma sv_thrown sv_length sv_nodes sv_many sv_directories sv_runsFrom sv_runs sv_read sv_wrong sv_isNamed sv_goes sv_goesSize sv_goesAt sv_targetParts sv_isRoot)), ((ma 16), .inl (cJ, 46080, .inr (.inl F)))]) hD hS hA [10, 11] rfl
  have hkc : 0 ≤ 0 := by decide
  have hks : 0 ≤ 0 := by decide
  refine va_calli (va_runV (C := "DiscMakerModel") (As := [.int v10, .int 4]) (rest := [.int sv_read, .ref (ma 24)]) ⟨hx, hb, hml, hown, hts⟩ (m_lowAt4 l D cB cI cJ cZ cN cF H.size h0 ma sv_thrown sv_length sv_nodes sv_many sv_directories sv_runsFrom sv_runs sv_read sv_wrong sv_isNamed sv_goes sv_goesSize sv_goesAt sv_targetParts sv_isRoot F v10 (by (try dsimp only); first | assumption | omega | trivial) (by (try dsimp only); first | assumption | omega | trivial)) (cwV 2 hts (lg_goodV k1841 k1843 k100 k125 kc_DiscMakerModel_lowAt) rfl rfl rfl (by decide +kernel) ⟨Nat.le_of_ble_eq_true rfl, Nat.le_of_ble_eq_true rfl⟩) ⟨fun a U g mk q => by obtain ⟨q0, q1, qP, qK, qN, qD⟩ := q; exact ⟨q0, q1, qP, va_K.moved (u := U) (U := U.calling g mk a) (Vm.Alike.refl U.vm) qK, qN.calling, qD⟩, va_recv hK hP (ci := 11) (q0 := 10) rfl rfl, fun U hU hW => ⟨rfl, by rw [hU], by rw [hU]; exact hPc, va_K.moved hW.alike hK, NN.warm hW hN, hDc.weaken (fun _ _ _ _ => trivial)⟩⟩ rfl rfl hl.1 rfl (lv_room (Nat.le_of_ble_eq_true rfl)) d_DiscMakerModel_begin_48 ⟨hkc, hks⟩) hS (fun q _ h => hFc q h) hFc (fun r11 u t H1 locs ht hvm hp_r11 hB hz1 hk1 hS => ?_)
  obtain ⟨hP1, hD1⟩ := hB
  rw [ht] at hP1
  obtain ⟨hP, hD⟩ := va_join (wr := [((ma 21), .inl (cI, 100, .inl f1)), ((ma 22), .inl (cZ, 100, .inl f5)), ((ma 23), .inl (cI, 100, .inl f9)), ((ma 24), .inl (cI, 100, .inl fP)), ((ma 25), .inl (cI, 100, .inl fM)), ((ma 26), .inl (cI, 100, .inl fO)), ((ma 27), .inl (cI, 100, .inl fG)), ((ma 29), .inl (cI, 100, .inl fNS)), ((ma 31), .inl (cI, 100, .inl fTS)), ((ma 32), .inl (cI, 100, .inl fE))]) (w1 := [(h0, .inr (11, MO ma sv_thrown sv_length sv_nodes sv_many sv_directories sv_runsFrom sv_runs sv_read sv_wrong sv_isNamed sv_goes sv_goesSize sv_goesAt sv_targetParts sv_isRoot)), ((ma 16), .inl (cJ, 46080, .inr (.inl F)))]) hP hD [10, 11] [0, 1, 2, 3, 4, 5, 6, 7, 8, 9] rfl rfl (by decide +kernel) (by decide +kernel) hk1 hFc hP1 hD1
  clear hPc hDc hFc hP1 hD1 hk1 hz1 hkc hks
  generalize H1 = H at hP hS ⊢
  have hP : va_P D CL [((ma 21), .inl (cI, 100, .inl f1)), ((ma 22), .inl (cZ, 100, .inl f5)), ((ma 23), .inl (cI, 100, .inl f9)), ((ma 24), .inl (cI, 100, .inl fP)), ((ma 25), .inl (cI, 100, .inl fM)), ((ma 26), .inl (cI, 100, .inl fO)), ((ma 27), .inl (cI, 100, .inl fG)), ((ma 29), .inl (cI, 100, .inl fNS)), ((ma 31), .inl (cI, 100, .inl fTS)), ((ma 32), .inl (cI, 100, .inl fE)), (h0, .inr (11, MO ma sv_thrown sv_length sv_nodes sv_many sv_directories sv_runsFrom sv_runs sv_read sv_wrong sv_isNamed sv_goes sv_goesSize sv_goesAt sv_targetParts sv_isRoot)), ((ma 16), .inl (cJ, 46080, .inr (.inl F)))] H := hP
  have hD : va_D A [((ma 21), .inl (cI, 100, .inl f1)), ((ma 22), .inl (cZ, 100, .inl f5)), ((ma 23), .inl (cI, 100, .inl f9)), ((ma 24), .inl (cI, 100, .inl fP)), ((ma 25), .inl (cI, 100, .inl fM)), ((ma 26), .inl (cI, 100, .inl fO)), ((ma 27), .inl (cI, 100, .inl fG)), ((ma 29), .inl (cI, 100, .inl fNS)), ((ma 31), .inl (cI, 100, .inl fTS)), ((ma 32), .inl (cI, 100, .inl fE)), (h0, .inr (11, MO ma sv_thrown sv_length sv_nodes sv_many sv_directories sv_runsFrom sv_runs sv_read sv_wrong sv_isNamed sv_goes sv_goesSize sv_goesAt sv_targetParts sv_isRoot)), ((ma 16), .inl (cJ, 46080, .inr (.inl F)))] := hD
  try dsimp only at hp_r11
  have hv_12 := hp_r11
  refine zq_iast hx hb hK hP hD hS 3 1 rfl rfl (vp_in_iff.mpr ⟨by omega, by omega⟩) d_DiscMakerModel_begin_51 (fun f13 e_f13 H locs hP hD hS => ?_)
  have hP : va_P D CL [((ma 21), .inl (cI, 100, .inl f1)), ((ma 22), .inl (cZ, 100, .inl f5)), ((ma 23), .inl (cI, 100, .inl f9)), ((ma 24), .inl (cI, 100, .inl f13)), ((ma 25), .inl (cI, 100, .inl fM)), ((ma 26), .inl (cI, 100, .inl fO)), ((ma 27), .inl (cI, 100, .inl fG)), ((ma 29), .inl (cI, 100, .inl fNS)), ((ma 31), .inl (cI, 100, .inl fTS)), ((ma 32), .inl (cI, 100, .inl fE)), (h0, .inr (11, MO ma sv_thrown sv_length sv_nodes sv_many sv_directories sv_runsFrom sv_runs sv_read sv_wrong sv_isNamed sv_goes sv_goesSize sv_goesAt sv_targetParts sv_isRoot)), ((ma 16), .inl (cJ, 46080, .inr (.inl F)))] H := hP
  have hD : va_D A [((ma 21), .inl (cI, 100, .inl f1)), ((ma 22), .inl (cZ, 100, .inl f5)), ((ma 23), .inl (cI, 100, .inl f9)), ((ma 24), .inl (cI, 100, .inl f13)), ((ma 25), .inl (cI, 100, .inl fM)), ((ma 26), .inl (cI, 100, .inl fO)), ((ma 27), .inl (cI, 100, .inl fG)), ((ma 29), .inl (cI, 100, .inl fNS)), ((ma 31), .inl (cI, 100, .inl fTS)), ((ma 32), .inl (cI, 100, .inl fE)), (h0, .inr (11, MO ma sv_thrown sv_length sv_nodes sv_many sv_directories sv_runsFrom sv_runs sv_read sv_wrong sv_isNamed sv_goes sv_goesSize sv_goesAt sv_targetParts sv_isRoot)), ((ma 16), .inl (cJ, 46080, .inr (.inl F)))] := hD
  have s_f13 : f13 (sv_read).toNatClampNeg = r11 := by rw [e_f13]; unfold upd; rw [if_pos (by first | rfl | decide)]
  refine lv_aload_n hx hb d_DiscMakerModel_begin_52 rfl (lv_at hl 1 rfl) ?_
  refine va_get (D := D) (ci := 11) (v := .ref (ma 25)) (C := "DiscMakerModel") (T := F_DiscMakerModel) (N := 48) hx hb ht9 in_DiscMakerModel hown hK hP 10 rfl rfl 33 (by decide) (ht9 _ k1464) (fun _ h9 => h9) rfl d_DiscMakerModel_begin_53 ?_
  refine lv_iload_n hx hb d_DiscMakerModel_begin_56 rfl (lv_at hl 0 rfl) ?_
  refine lv_iconst (v := 0) hx hb d_DiscMakerModel_begin_57 (by decide) ?_
  refine zq_iast hx hb hK hP hD hS 4 1 rfl rfl (vp_in_iff.mpr ⟨by omega, by omega⟩) d_DiscMakerModel_begin_58 (fun f14 e_f14 H locs hP hD hS => ?_)
  have hP : va_P D CL [((ma 21), .inl (cI, 100, .inl f1)), ((ma 22), .inl (cZ, 100, .inl f5)), ((ma 23), .inl (cI, 100, .inl f9)), ((ma 24), .inl (cI, 100, .inl f13)), ((ma 25), .inl (cI, 100, .inl f14)), ((ma 26), .inl (cI, 100, .inl fO)), ((ma 27), .inl (cI, 100, .inl fG)), ((ma 29), .inl (cI, 100, .inl fNS)), ((ma 31), .inl (cI, 100, .inl fTS)), ((ma 32), .inl (cI, 100, .inl fE)), (h0, .inr (11, MO ma sv_thrown sv_length sv_nodes sv_many sv_directories sv_runsFrom sv_runs sv_read sv_wrong sv_isNamed sv_goes sv_goesSize sv_goesAt sv_targetParts sv_isRoot)), ((ma 16), .inl (cJ, 46080, .inr (.inl F)))] H := hP
  have hD : va_D A [((ma 21), .inl (cI, 100, .inl f1)), ((ma 22), .inl (cZ, 100, .inl f5)), ((ma 23), .inl (cI, 100, .inl f9)), ((ma 24), .inl (cI, 100, .inl f13)), ((ma 25), .inl (cI, 100, .inl f14)), ((ma 26), .inl (cI, 100, .inl fO)), ((ma 27), .inl (cI, 100, .inl fG)), ((ma 29), .inl (cI, 100, .inl fNS)), ((ma 31), .inl (cI, 100, .inl fTS)), ((ma 32), .inl (cI, 100, .inl fE)), (h0, .inr (11, MO ma sv_thrown sv_length sv_nodes sv_many sv_directories sv_runsFrom sv_runs sv_read sv_wrong sv_isNamed sv_goes sv_goesSize sv_goesAt sv_targetParts sv_isRoot)), ((ma 16), .inl (cJ, 46080, .inr (.inl F)))] := hD
  have s_f14 : f14 (sv_read).toNatClampNeg = 0 := by rw [e_f14]; unfold upd; rw [if_pos (by first | rfl | decide)]
  refine lv_aload_n hx hb d_DiscMakerModel_begin_59 rfl (lv_at hl 1 rfl) ?_
  refine va_get (D := D) (ci := 11) (v := .ref (ma 26)) (C := "DiscMakerModel") (T := F_DiscMakerModel) (N := 48) hx hb ht9 in_DiscMakerModel hown hK hP 10 rfl rfl 34 (by decide) (ht9 _ k1465) (fun _ h9 => h9) rfl d_DiscMakerModel_begin_60 ?_
  refine lv_iload_n hx hb d_DiscMakerModel_begin_63 rfl (lv_at hl 0 rfl) ?_
  refine lv_iconst (v := 0) hx hb d_DiscMakerModel_begin_64 (by decide) ?_
  refine zq_iast hx hb hK hP hD hS 5 1 rfl rfl (vp_in_iff.mpr ⟨by omega, by omega⟩) d_DiscMakerModel_begin_65 (fun f15 e_f15 H locs hP hD hS => ?_)
  have hP : va_P D CL [((ma 21), .inl (cI, 100, .inl f1)), ((ma 22), .inl (cZ, 100, .inl f5)), ((ma 23), .inl (cI, 100, .inl f9)), ((ma 24), .inl (cI, 100, .inl f13)), ((ma 25), .inl (cI, 100, .inl f14)), ((ma 26), .inl (cI, 100, .inl f15)), ((ma 27), .inl (cI, 100, .inl fG)), ((ma 29), .inl (cI, 100, .inl fNS)), ((ma 31), .inl (cI, 100, .inl fTS)), ((ma 32), .inl (cI, 100, .inl fE)), (h0, .inr (11, MO ma sv_thrown sv_length sv_nodes sv_many sv_directories sv_runsFrom sv_runs sv_read sv_wrong sv_isNamed sv_goes sv_goesSize sv_goesAt sv_targetParts sv_isRoot)), ((ma 16), .inl (cJ, 46080, .inr (.inl F)))] H := hP
  have hD : va_D A [((ma 21), .inl (cI, 100, .inl f1)), ((ma 22), .inl (cZ, 100, .inl f5)), ((ma 23), .inl (cI, 100, .inl f9)), ((ma 24), .inl (cI, 100, .inl f13)), ((ma 25), .inl (cI, 100, .inl f14)), ((ma 26), .inl (cI, 100, .inl f15)), ((ma 27), .inl (cI, 100, .inl fG)), ((ma 29), .inl (cI, 100, .inl fNS)), ((ma 31), .inl (cI, 100, .inl fTS)), ((ma 32), .inl (cI, 100, .inl fE)), (h0, .inr (11, MO ma sv_thrown sv_length sv_nodes sv_many sv_directories sv_runsFrom sv_runs sv_read sv_wrong sv_isNamed sv_goes sv_goesSize sv_goesAt sv_targetParts sv_isRoot)), ((ma 16), .inl (cJ, 46080, .inr (.inl F)))] := hD
  have s_f15 : f15 (sv_read).toNatClampNeg = 0 := by rw [e_f15]; unfold upd; rw [if_pos (by first | rfl | decide)]
  refine lv_aload_n hx hb d_DiscMakerModel_begin_66 rfl (lv_at hl 1 rfl) ?_
  refine va_get (D := D) (ci := 11) (v := .ref (ma 27)) (C := "DiscMakerModel") (T := F_DiscMakerModel) (N := 48) hx hb ht9 in_DiscMakerModel hown hK hP 10 rfl rfl 35 (by decide) (ht9 _ k1466) (fun _ h9 => h9) rfl d_DiscMakerModel_begin_67 ?_
  refine lv_iload_n hx hb d_DiscMakerModel_begin_70 rfl (lv_at hl 0 rfl) ?_
  refine lv_iconst (v := 0) hx hb d_DiscMakerModel_begin_71 (by decide) ?_
  refine zq_iast hx hb hK hP hD hS 6 1 rfl rfl (vp_in_iff.mpr ⟨by omega, by omega⟩) d_DiscMakerModel_begin_72 (fun f16 e_f16 H locs hP hD hS => ?_)
  have hP : va_P D CL [((ma 21), .inl (cI, 100, .inl f1)), ((ma 22), .inl (cZ, 100, .inl f5)), ((ma 23), .inl (cI, 100, .inl f9)), ((ma 24), .inl (cI, 100, .inl f13)), ((ma 25), .inl (cI, 100, .inl f14)), ((ma 26), .inl (cI, 100, .inl f15)), ((ma 27), .inl (cI, 100, .inl f16)), ((ma 29), .inl (cI, 100, .inl fNS)), ((ma 31), .inl (cI, 100, .inl fTS)), ((ma 32), .inl (cI, 100, .inl fE)), (h0, .inr (11, MO ma sv_thrown sv_length sv_nodes sv_many sv_directories sv_runsFrom sv_runs sv_read sv_wrong sv_isNamed sv_goes sv_goesSize sv_goesAt sv_targetParts sv_isRoot)), ((ma 16), .inl (cJ, 46080, .inr (.inl F)))] H := hP
  have hD : va_D A [((ma 21), .inl (cI, 100, .inl f1)), ((ma 22), .inl (cZ, 100, .inl f5)), ((ma 23), .inl (cI, 100, .inl f9)), ((ma 24), .inl (cI, 100, .inl f13)), ((ma 25), .inl (cI, 100, .inl f14)), ((ma 26), .inl (cI, 100, .inl f15)), ((ma 27), .inl (cI, 100, .inl f16)), ((ma 29), .inl (cI, 100, .inl fNS)), ((ma 31), .inl (cI, 100, .inl fTS)), ((ma 32), .inl (cI, 100, .inl fE)), (h0, .inr (11, MO ma sv_thrown sv_length sv_nodes sv_many sv_directories sv_runsFrom sv_runs sv_read sv_wrong sv_isNamed sv_goes sv_goesSize sv_goesAt sv_targetParts sv_isRoot)), ((ma 16), .inl (cJ, 46080, .inr (.inl F)))] := hD
  have s_f16 : f16 (sv_read).toNatClampNeg = 0 := by rw [e_f16]; unfold upd; rw [if_pos (by first | rfl | decide)]
  refine lv_aload_n hx hb d_DiscMakerModel_begin_73 rfl (lv_at hl 1 rfl) ?_
  refine va_get (D := D) (ci := 11) (v := .ref (ma 29)) (C := "DiscMakerModel") (T := F_DiscMakerModel) (N := 48) hx hb ht9 in_DiscMakerModel hown hK hP 10 rfl rfl 37 (by decide) (ht9 _ k1468) (fun _ h9 => h9) rfl d_DiscMakerModel_begin_74 ?_
  refine lv_iload_n hx hb d_DiscMakerModel_begin_77 rfl (lv_at hl 0 rfl) ?_
  refine lv_iconst (v := 0) hx hb d_DiscMakerModel_begin_78 (by decide) ?_
  refine zq_iast hx hb hK hP hD hS 7 1 rfl rfl (vp_in_iff.mpr ⟨by omega, by omega⟩) d_DiscMakerModel_begin_79 (fun f17 e_f17 H locs hP hD hS => ?_)
  have hP : va_P D CL [((ma 21), .inl (cI, 100, .inl f1)), ((ma 22), .inl (cZ, 100, .inl f5)), ((ma 23), .inl (cI, 100, .inl f9)), ((ma 24), .inl (cI, 100, .inl f13)), ((ma 25), .inl (cI, 100, .inl f14)), ((ma 26), .inl (cI, 100, .inl f15)), ((ma 27), .inl (cI, 100, .inl f16)), ((ma 29), .inl (cI, 100, .inl f17)), ((ma 31), .inl (cI, 100, .inl fTS)), ((ma 32), .inl (cI, 100, .inl fE)), (h0, .inr (11, MO ma sv_thrown sv_length sv_nodes sv_many sv_directories sv_runsFrom sv_runs sv_read sv_wrong sv_isNamed sv_goes sv_goesSize sv_goesAt sv_targetParts sv_isRoot)), ((ma 16), .inl (cJ, 46080, .inr (.inl F)))] H := hP
  have hD : va_D A [((ma 21), .inl (cI, 100, .inl f1)), ((ma 22), .inl (cZ, 100, .inl f5)), ((ma 23), .inl (cI, 100, .inl f9)), ((ma 24), .inl (cI, 100, .inl f13)), ((ma 25), .inl (cI, 100, .inl f14)), ((ma 26), .inl (cI, 100, .inl f15)), ((ma 27), .inl (cI, 100, .inl f16)), ((ma 29), .inl (cI, 100, .inl f17)), ((ma 31), .inl (cI, 100, .inl fTS)), ((ma 32), .inl (cI, 100, .inl fE)), (h0, .inr (11, MO ma sv_thrown sv_length sv_nodes sv_many sv_directories sv_runsFrom sv_runs sv_read sv_wrong sv_isNamed sv_goes sv_goesSize sv_goesAt sv_targetParts sv_isRoot)), ((ma 16), .inl (cJ, 46080, .inr (.inl F)))] := hD
  have R_f17 : Rg 0 60 100 f17 := Rg_upd e_f17 hfNS (by omega) (by omega)
  have s_f17 : f17 (sv_read).toNatClampNeg = 0 := by rw [e_f17]; unfold upd; rw [if_pos (by first | rfl | decide)]
  refine lv_aload_n hx hb d_DiscMakerModel_begin_80 rfl (lv_at hl 1 rfl) ?_
  refine va_get (D := D) (ci := 11) (v := .ref (ma 31)) (C := "DiscMakerModel") (T := F_DiscMakerModel) (N := 48) hx hb ht9 in_DiscMakerModel hown hK hP 10 rfl rfl 39 (by decide) (ht9 _ k1470) (fun _ h9 => h9) rfl d_DiscMakerModel_begin_81 ?_
  refine lv_iload_n hx hb d_DiscMakerModel_begin_84 rfl (lv_at hl 0 rfl) ?_
  refine lv_iconst (v := 0) hx hb d_DiscMakerModel_begin_85 (by decide) ?_
  refine zq_iast hx hb hK hP hD hS 8 1 rfl rfl (vp_in_iff.mpr ⟨by omega, by omega⟩) d_DiscMakerModel_begin_86 (fun f18 e_f18 H locs hP hD hS => ?_)
  have hP : va_P D CL [((ma 21), .inl (cI, 100, .inl f1)), ((ma 22), .inl (cZ, 100, .inl f5)), ((ma 23), .inl (cI, 100, .inl f9)), ((ma 24), .inl (cI, 100, .inl f13)), ((ma 25), .inl (cI, 100, .inl f14)), ((ma 26), .inl (cI, 100, .inl f15)), ((ma 27), .inl (cI, 100, .inl f16)), ((ma 29), .inl (cI, 100, .inl f17)), ((ma 31), .inl (cI, 100, .inl f18)), ((ma 32), .inl (cI, 100, .inl fE)), (h0, .inr (11, MO ma sv_thrown sv_length sv_nodes sv_many sv_directories sv_runsFrom sv_runs sv_read sv_wrong sv_isNamed sv_goes sv_goesSize sv_goesAt sv_targetParts sv_isRoot)), ((ma 16), .inl (cJ, 46080, .inr (.inl F)))] H := hP
  have hD : va_D A [((ma 21), .inl (cI, 100, .inl f1)), ((ma 22), .inl (cZ, 100, .inl f5)), ((ma 23), .inl (cI, 100, .inl f9)), ((ma 24), .inl (cI, 100, .inl f13)), ((ma 25), .inl (cI, 100, .inl f14)), ((ma 26), .inl (cI, 100, .inl f15)), ((ma 27), .inl (cI, 100, .inl f16)), ((ma 29), .inl (cI, 100, .inl f17)), ((ma 31), .inl (cI, 100, .inl f18)), ((ma 32), .inl (cI, 100, .inl fE)), (h0, .inr (11, MO ma sv_thrown sv_length sv_nodes sv_many sv_directories sv_runsFrom sv_runs sv_read sv_wrong sv_isNamed sv_goes sv_goesSize sv_goesAt sv_targetParts sv_isRoot)), ((ma 16), .inl (cJ, 46080, .inr (.inl F)))] := hD
  have R_f18 : Rg 0 400 100 f18 := Rg_upd e_f18 hfTS (by omega) (by omega)
  have s_f18 : f18 (sv_read).toNatClampNeg = 0 := by rw [e_f18]; unfold upd; rw [if_pos (by first | rfl | decide)]
  refine lv_aload_n hx hb d_DiscMakerModel_begin_87 rfl (lv_at hl 1 rfl) ?_
  refine va_get (D := D) (ci := 11) (v := .ref (ma 32)) (C := "DiscMakerModel") (T := F_DiscMakerModel) (N := 48) hx hb ht9 in_DiscMakerModel hown hK hP 10 rfl rfl 40 (by decide) (ht9 _ k1471) (fun _ h9 => h9) rfl d_DiscMakerModel_begin_88 ?_
  refine lv_iload_n hx hb d_DiscMakerModel_begin_91 rfl (lv_at hl 0 rfl) ?_
  refine lv_iload_n hx hb d_DiscMakerModel_begin_92 rfl (lv_at hl 2 rfl) ?_
  refine lv_if_ge (tgt := 100) hx hb d_DiscMakerModel_begin_93 (by decide) (fun h_9 => ?_) (fun h_9 => ?_)
  · skip
    have g93_65 : 0 ≤ x.toInt := (i_le (by decide) rfl).mp h_9
    refine lv_aload_n hx hb d_DiscMakerModel_begin_100 rfl (lv_at hl 1 rfl) ?_
    refine va_get (D := D) (ci := 11) (v := .ref (ma 32)) (C := "DiscMakerModel") (T := F_DiscMakerModel) (N := 48) hx hb ht9 in_DiscMakerModel hown hK hP 10 rfl rfl 40 (by decide) (ht9 _ k1471) (fun _ h9 => h9) rfl d_DiscMakerModel_begin_101 ?_
    refine lv_iload_n hx hb d_DiscMakerModel_begin_104 rfl (lv_at hl 2 rfl) ?_
    refine va_iald hx hb hK hP 9 1 rfl rfl (vp_in_iff.mpr ⟨by omega, by omega⟩) d_DiscMakerModel_begin_105 ?_
    refine lv_topi (fun v19 e_v19 => ?_)
    refine lv_iconst (v := 1) hx hb d_DiscMakerModel_begin_106 (by decide) ?_
    refine lv_iadd hx hb d_DiscMakerModel_begin_107 ?_
    refine lv_topi (fun v20 e_v20 => ?_)
    refine zq_iast hx hb hK hP hD hS 9 1 rfl rfl (vp_in_iff.mpr ⟨by omega, by omega⟩) d_DiscMakerModel_begin_108 (fun f21 e_f21 H locs hP hD hS => ?_)
    have hP : va_P D CL [((ma 21), .inl (cI, 100, .inl f1)), ((ma 22), .inl (cZ, 100, .inl f5)), ((ma 23), .inl (cI, 100, .inl f9)), ((ma 24), .inl (cI, 100, .inl f13)), ((ma 25), .inl (cI, 100, .inl f14)), ((ma 26), .inl (cI, 100, .inl f15)), ((ma 27), .inl (cI, 100, .inl f16)), ((ma 29), .inl (cI, 100, .inl f17)), ((ma 31), .inl (cI, 100, .inl f18)), ((ma 32), .inl (cI, 100, .inl f21)), (h0, .inr (11, MO ma sv_thrown sv_length sv_nodes sv_many sv_directories sv_runsFrom sv_runs sv_read sv_wrong sv_isNamed sv_goes sv_goesSize sv_goesAt sv_targetParts sv_isRoot)), ((ma 16), .inl (cJ, 46080, .inr (.inl F)))] H := hP
    have hD : va_D A [((ma 21), .inl (cI, 100, .inl f1)), ((ma 22), .inl (cZ, 100, .inl f5)), ((ma 23), .inl (cI, 100, .inl f9)), ((ma 24), .inl (cI, 100, .inl f13)), ((ma 25), .inl (cI, 100, .inl f14)), ((ma 26), .inl (cI, 100, .inl f15)), ((ma 27), .inl (cI, 100, .inl f16)), ((ma 29), .inl (cI, 100, .inl f17)), ((ma 31), .inl (cI, 100, .inl f18)), ((ma 32), .inl (cI, 100, .inl f21)), (h0, .inr (11, MO ma sv_thrown sv_length sv_nodes sv_many sv_directories sv_runsFrom sv_runs sv_read sv_wrong sv_isNamed sv_goes sv_goesSize sv_goesAt sv_targetParts sv_isRoot)), ((ma 16), .inl (cJ, 46080, .inr (.inl F)))] := hD
    have s_f21 : f21 (sv_read).toNatClampNeg = v20 := by rw [e_f21]; unfold upd; rw [if_pos (by first | rfl | decide)]
    have hP9 := hP.sub (ws' := [(h0, .inr (11, MO ma sv_thrown sv_length sv_nodes sv_many sv_directories sv_runsFrom sv_runs sv_read sv_wrong sv_isNamed sv_goes sv_goesSize sv_goesAt sv_targetParts sv_isRoot)), ((ma 16), .inl (cJ, 46080, .inr (.inl F))), ((ma 21), .inl (cI, 100, .inl f1)), ((ma 22), .inl (cZ, 100, .inl f5)), ((ma 23), .inl (cI, 100, .inl f9)), ((ma 24), .inl (cI, 100, .inl f13)), ((ma 25), .inl (cI, 100, .inl f14)), ((ma 26), .inl (cI, 100, .inl f15)), ((ma 27), .inl (cI, 100, .inl f16)), ((ma 29), .inl (cI, 100, .inl f17)), ((ma 31), .inl (cI, 100, .inl f18)), ((ma 32), .inl (cI, 100, .inl f21))]) [10, 11, 0, 1, 2, 3, 4, 5, 6, 7, 8, 9] rfl
    have hD9 := hD.sub (ws' := [(h0, .inr (11, MO ma sv_thrown sv_length sv_nodes sv_many sv_directories sv_runsFrom sv_runs sv_read sv_wrong sv_isNamed sv_goes sv_goesSize sv_goesAt sv_targetParts sv_isRoot)), ((ma 16), .inl (cJ, 46080, .inr (.inl F))), ((ma 21), .inl (cI, 100, .inl f1)), ((ma 22), .inl (cZ, 100, .inl f5)), ((ma 23), .inl (cI, 100, .inl f9)), ((ma 24), .inl (cI, 100, .inl f13)), ((ma 25), .inl (cI, 100, .inl f14)), ((ma 26), .inl (cI, 100, .inl f15)), ((ma 27), .inl (cI, 100, .inl f16)), ((ma 29), .inl (cI, 100, .inl f17)), ((ma 31), .inl (cI, 100, .inl f18)), ((ma 32), .inl (cI, 100, .inl f21))]) [10, 11, 0, 1, 2, 3, 4, 5, 6, 7, 8, 9] (by decide +kernel) rfl
    exact W.vret hx hb hr (fun t ht hW => ⟨⟨(f1, f5, f9, f13, f14, f15, f16, f17, f18, f21), rfl, ⟨(by clear s_f1 s_f9 s_f13 s_f14 s_f15 s_f16 s_f17 s_f18 s_f21; subst_vars; rfl), (by clear s_f1 s_f9 s_f13 s_f14 s_f15 s_f16 s_f17 s_f18 s_f21; subst_vars; rfl), (by clear s_f1 s_f9 s_f13 s_f14 s_f15 s_f16 s_f17 s_f18 s_f21; subst_vars; rfl), (by (try dsimp only); first | assumption | omega | trivial), (by (try dsimp only); first | assumption | omega | trivial)⟩, by rw [ht]; exact hP9, hD9⟩, hS.F ht⟩) hS.2.2 d_DiscMakerModel_begin_109
  · skip
    have g93_65 : ¬ 0 ≤ x.toInt := fun h8 => h_9 ((i_le (by decide) rfl).mpr h8)
    refine lv_iconst (v := 1) hx hb d_DiscMakerModel_begin_96 (by decide) ?_
    refine lv_goto (tgt := 108) hx hb d_DiscMakerModel_begin_97 (by decide) ?_
    refine zq_iast hx hb hK hP hD hS 9 1 rfl rfl (vp_in_iff.mpr ⟨by omega, by omega⟩) d_DiscMakerModel_begin_108 (fun f22 e_f22 H locs hP hD hS => ?_)
    have hP : va_P D CL [((ma 21), .inl (cI, 100, .inl f1)), ((ma 22), .inl (cZ, 100, .inl f5)), ((ma 23), .inl (cI, 100, .inl f9)), ((ma 24), .inl (cI, 100, .inl f13)), ((ma 25), .inl (cI, 100, .inl f14)), ((ma 26), .inl (cI, 100, .inl f15)), ((ma 27), .inl (cI, 100, .inl f16)), ((ma 29), .inl (cI, 100, .inl f17)), ((ma 31), .inl (cI, 100, .inl f18)), ((ma 32), .inl (cI, 100, .inl f22)), (h0, .inr (11, MO ma sv_thrown sv_length sv_nodes sv_many sv_directories sv_runsFrom sv_runs sv_read sv_wrong sv_isNamed sv_goes sv_goesSize sv_goesAt sv_targetParts sv_isRoot)), ((ma 16), .inl (cJ, 46080, .inr (.inl F)))] H := hP
    have hD : va_D A [((ma 21), .inl (cI, 100, .inl f1)), ((ma 22), .inl (cZ, 100, .inl f5)), ((ma 23), .inl (cI, 100, .inl f9)), ((ma 24), .inl (cI, 100, .inl f13)), ((ma 25), .inl (cI, 100, .inl f14)), ((ma 26), .inl (cI, 100, .inl f15)), ((ma 27), .inl (cI, 100, .inl f16)), ((ma 29), .inl (cI, 100, .inl f17)), ((ma 31), .inl (cI, 100, .inl f18)), ((ma 32), .inl (cI, 100, .inl f22)), (h0, .inr (11, MO ma sv_thrown sv_length sv_nodes sv_many sv_directories sv_runsFrom sv_runs sv_read sv_wrong sv_isNamed sv_goes sv_goesSize sv_goesAt sv_targetParts sv_isRoot)), ((ma 16), .inl (cJ, 46080, .inr (.inl F)))] := hD
    have s_f22 : f22 (sv_read).toNatClampNeg = 1 := by rw [e_f22]; unfold upd; rw [if_pos (by first | rfl | decide)]
    have hP9 := hP.sub (ws' := [(h0, .inr (11, MO ma sv_thrown sv_length sv_nodes sv_many sv_directories sv_runsFrom sv_runs sv_read sv_wrong sv_isNamed sv_goes sv_goesSize sv_goesAt sv_targetParts sv_isRoot)), ((ma 16), .inl (cJ, 46080, .inr (.inl F))), ((ma 21), .inl (cI, 100, .inl f1)), ((ma 22), .inl (cZ, 100, .inl f5)), ((ma 23), .inl (cI, 100, .inl f9)), ((ma 24), .inl (cI, 100, .inl f13)), ((ma 25), .inl (cI, 100, .inl f14)), ((ma 26), .inl (cI, 100, .inl f15)), ((ma 27), .inl (cI, 100, .inl f16)), ((ma 29), .inl (cI, 100, .inl f17)), ((ma 31), .inl (cI, 100, .inl f18)), ((ma 32), .inl (cI, 100, .inl f22))]) [10, 11, 0, 1, 2, 3, 4, 5, 6, 7, 8, 9] rfl
    have hD9 := hD.sub (ws' := [(h0, .inr (11, MO ma sv_thrown sv_length sv_nodes sv_many sv_directories sv_runsFrom sv_runs sv_read sv_wrong sv_isNamed sv_goes sv_goesSize sv_goesAt sv_targetParts sv_isRoot)), ((ma 16), .inl (cJ, 46080, .inr (.inl F))), ((ma 21), .inl (cI, 100, .inl f1)), ((ma 22), .inl (cZ, 100, .inl f5)), ((ma 23), .inl (cI, 100, .inl f9)), ((ma 24), .inl (cI, 100, .inl f13)), ((ma 25), .inl (cI, 100, .inl f14)), ((ma 26), .inl (cI, 100, .inl f15)), ((ma 27), .inl (cI, 100, .inl f16)), ((ma 29), .inl (cI, 100, .inl f17)), ((ma 31), .inl (cI, 100, .inl f18)), ((ma 32), .inl (cI, 100, .inl f22))]) [10, 11, 0, 1, 2, 3, 4, 5, 6, 7, 8, 9] (by decide +kernel) rfl
    exact W.vret hx hb hr (fun t ht hW => ⟨⟨(f1, f5, f9, f13, f14, f15, f16, f17, f18, f22), rfl, ⟨(by clear s_f1 s_f9 s_f13 s_f14 s_f15 s_f16 s_f17 s_f18 s_f22; subst_vars; rfl), (by clear s_f1 s_f9 s_f13 s_f14 s_f15 s_f16 s_f17 s_f18 s_f22; subst_vars; rfl), (by clear s_f1 s_f9 s_f13 s_f14 s_f15 s_f16 s_f17 s_f18 s_f22; subst_vars; rfl), (by (try dsimp only); first | assumption | omega | trivial), (by (try dsimp only); first | assumption | omega | trivial)⟩, by rw [ht]; exact hP9, hD9⟩, hS.F ht⟩) hS.2.2 d_DiscMakerModel_begin_109

theorem d_DiscMakerModel_sortOf_0 : decode b_DiscMakerModel_sortOf 0 = .ok (.aload_n 0, 1) := by decide +kernel
theorem d_DiscMakerModel_sortOf_1 : decode b_DiscMakerModel_sortOf 1 = .ok (.getfield 79, 3) := by decide +kernel
theorem d_DiscMakerModel_sortOf_4 : decode b_DiscMakerModel_sortOf 4 = .ok (.iload_n 1, 1) := by decide +kernel
theorem d_DiscMakerModel_sortOf_5 : decode b_DiscMakerModel_sortOf 5 = .ok (.baload, 1) := by decide +kernel
theorem d_DiscMakerModel_sortOf_6 : decode b_DiscMakerModel_sortOf 6 = .ok (.ifCond .eq 7, 3) := by decide +kernel
theorem d_DiscMakerModel_sortOf_9 : decode b_DiscMakerModel_sortOf 9 = .ok (.iconst 0, 1) := by decide +kernel
theorem d_DiscMakerModel_sortOf_10 : decode b_DiscMakerModel_sortOf 10 = .ok (.goto 24, 3) := by decide +kernel
theorem d_DiscMakerModel_sortOf_13 : decode b_DiscMakerModel_sortOf 13 = .ok (.aload_n 0, 1) := by decide +kernel
theorem d_DiscMakerModel_sortOf_14 : decode b_DiscMakerModel_sortOf 14 = .ok (.getfield 89, 3) := by decide +kernel
theorem d_DiscMakerModel_sortOf_17 : decode b_DiscMakerModel_sortOf 17 = .ok (.iload_n 1, 1) := by decide +kernel
theorem d_DiscMakerModel_sortOf_18 : decode b_DiscMakerModel_sortOf 18 = .ok (.iaload, 1) := by decide +kernel
theorem d_DiscMakerModel_sortOf_19 : decode b_DiscMakerModel_sortOf 19 = .ok (.ldc_w 385, 3) := by decide +kernel
theorem d_DiscMakerModel_sortOf_22 : decode b_DiscMakerModel_sortOf 22 = .ok (.iand, 1) := by decide +kernel
theorem d_DiscMakerModel_sortOf_23 : decode b_DiscMakerModel_sortOf 23 = .ok (.ldc_w 265, 3) := by decide +kernel
theorem d_DiscMakerModel_sortOf_26 : decode b_DiscMakerModel_sortOf 26 = .ok (.if_icmp .ne 7, 3) := by decide +kernel
theorem d_DiscMakerModel_sortOf_29 : decode b_DiscMakerModel_sortOf 29 = .ok (.iconst 2, 1) := by decide +kernel
theorem d_DiscMakerModel_sortOf_30 : decode b_DiscMakerModel_sortOf 30 = .ok (.goto 4, 3) := by decide +kernel
theorem d_DiscMakerModel_sortOf_33 : decode b_DiscMakerModel_sortOf 33 = .ok (.iconst 1, 1) := by decide +kernel
theorem d_DiscMakerModel_sortOf_34 : decode b_DiscMakerModel_sortOf 34 = .ok (.ireturn, 1) := by decide +kernel
set_option maxHeartbeats 4000000 in
set_option maxRecDepth 100000 in
theorem m_sortOf (l : Launch) (D : va_G) (cB cI cJ cZ cN cF : ClassId) (sz : Nat) (h0 : Nat) (ma : Nat → Nat) (sv_thrown sv_length sv_nodes sv_many sv_directories sv_runsFrom sv_runs sv_read sv_wrong sv_isNamed sv_goes sv_goesSize sv_goesAt sv_targetParts sv_isRoot : Int32) (fD : Nat → Int32) (fM : Nat → Int32) (x : Int32) (hk0 : 0 ≤ x.toInt ∧ x.toInt < 100) : Met l y_DiscMakerModel_sortOf w_DiscMakerModel_sortOf ({ frames := 0, cells := 0, slots := 0, locals := 0 }) (va_Pc [.ref h0, .int x] (fun U => U.heap.size = sz ∧ va_P D CL [(h0, .inr (11, MO ma sv_thrown sv_length sv_nodes sv_many sv_directories sv_runsFrom sv_runs sv_read sv_wrong sv_isNamed sv_goes sv_goesSize sv_goesAt sv_targetParts sv_isRoot)), ((ma 22), .inl (cZ, 100, .inl fD)), ((ma 25), .inl (cI, 100, .inl fM))] U.heap ∧ va_K D CL (TY cB cI cJ cZ cN cF) U ∧ NN U ∧ va_D (fun _ => True) [(h0, .inr (11, MO ma sv_thrown sv_length sv_nodes sv_many sv_directories sv_runsFrom sv_runs sv_read sv_wrong sv_isNamed sv_goes sv_goesSize sv_goesAt sv_targetParts sv_isRoot)), ((ma 22), .inl (cZ, 100, .inl fD)), ((ma 25), .inl (cI, 100, .inl fM))])) (va_Qi (fun (r : Int32) (u : Unit) => (0 ≤ r.toInt ∧ r.toInt ≤ 2)) (fun (u : Unit) (t : State) => match u with | () => va_P D CL [(h0, .inr (11, MO ma sv_thrown sv_length sv_nodes sv_many sv_directories sv_runsFrom sv_runs sv_read sv_wrong sv_isNamed sv_goes sv_goesSize sv_goesAt sv_targetParts sv_isRoot)), ((ma 22), .inl (cZ, 100, .inl fD)), ((ma 25), .inl (cI, 100, .inl fM))] t.heap ∧ va_D (va_A [(h0, .inr (11, MO ma sv_thrown sv_length sv_nodes sv_many sv_directories sv_runsFrom sv_runs sv_read sv_wrong sv_isNamed sv_goes sv_goesSize sv_goesAt sv_targetParts sv_isRoot)), ((ma 22), .inl (cZ, 100, .inl fD)), ((ma 25), .inl (cI, 100, .inl fM))] sz) [(h0, .inr (11, MO ma sv_thrown sv_length sv_nodes sv_many sv_directories sv_runsFrom sv_runs sv_read sv_wrong sv_isNamed sv_goes sv_goesSize sv_goesAt sv_targetParts sv_isRoot)), ((ma 22), .inl (cZ, 100, .inl fD)), ((ma 25), .inl (cI, 100, .inl fM))]) (va_A [(h0, .inr (11, MO ma sv_thrown sv_length sv_nodes sv_many sv_directories sv_runsFrom sv_runs sv_read sv_wrong sv_isNamed sv_goes sv_goesSize sv_goesAt sv_targetParts sv_isRoot)), ((ma 22), .inl (cZ, 100, .inl fD)), ((ma 25), .inl (cI, 100, .inl fM))] sz)) 0 0 (va_A [(h0, .inr (11, MO ma sv_thrown sv_length sv_nodes sv_many sv_directories sv_runsFrom sv_runs sv_read sv_wrong sv_isNamed sv_goes sv_goesSize sv_goesAt sv_targetParts sv_isRoot)), ((ma 22), .inl (cZ, 100, .inl fD)), ((ma 25), .inl (cI, 100, .inl fM))] sz) := by
  refine Met.ofW (cc := b_DiscMakerModel_sortOf) (maxL := 2) (ret := some .int) (by decide) rfl ?_
  intro p e s m args below meth c s₁ B hml hv
  obtain ⟨rfl, hsz, hP, hK, hN, hD0⟩ := hv
  have hx := B.exec
  have hb := B.bytes
  have hr := B.returns
  have hts := atoms_spec (ws := w_DiscMakerModel_sortOf) B.pre
  have ht9 := fun (w : Cond) (h : w ∈ lw_g) => hts w (List.mem_cons_of_mem _ h)
  have hown : s.vm.findClass "DiscMakerModel" = some m.cls := findClass_of_methodNamed B.named
  have hlocks := B.notSynchronized
  subst hsz
  have hD := hD0.self (sz := s.heap.size)
  generalize hAe : va_A [(h0, .inr (11, MO ma sv_thrown sv_length sv_nodes sv_many sv_directories sv_runsFrom sv_runs sv_read sv_wrong sv_isNamed sv_goes sv_goesSize sv_goesAt sv_targetParts sv_isRoot)), ((ma 22), .inl (cZ, 100, .inl fD)), ((ma 25), .inl (cI, 100, .inl fM))] s.heap.size = A at hD ⊢
  have hA : ∀ q : Nat, s.heap.size ≤ q → A q := fun q h => by rw [← hAe]; exact Or.inr h
  have hS : va_S A s.heap s.heap [] := va_S.rf
  have hP : va_P D CL [(h0, .inr (11, MO ma sv_thrown sv_length sv_nodes sv_many sv_directories sv_runsFrom sv_runs sv_read sv_wrong sv_isNamed sv_goes sv_goesSize sv_goesAt sv_targetParts sv_isRoot)), ((ma 22), .inl (cZ, 100, .inl fD)), ((ma 25), .inl (cI, 100, .inl fM))] s.heap := hP
  have hl := lv_entry [.ref h0, .int x] (n := 2) (Nat.le_of_ble_eq_true rfl)
  rw [lg_entry_eq]
  generalize (lg_sl [.ref h0, .int x] ++ List.replicate (2 - (lg_sl [.ref h0, .int x]).length) Slot.unset).toArray = ls at hl ⊢
  have hl : lv_has ls 2 [(0, .ref h0), (1, .int x)] := hl
  have L_m1 : ((-1) : Int32).toInt = (-1) := by decide
  have L_0 : (0 : Int32).toInt = 0 := by decide
  have L_1 : (1 : Int32).toInt = 1 := by decide
  have L_2 : (2 : Int32).toInt = 2 := by decide
  have L_40960 : (40960 : Int32).toInt = 40960 := by decide
  have L_61440 : (61440 : Int32).toInt = 61440 := by decide
  refine lv_aload_n hx hb d_DiscMakerModel_sortOf_0 rfl (lv_at hl 0 rfl) ?_
  refine va_get (D := D) (ci := 11) (v := .ref (ma 22)) (C := "DiscMakerModel") (T := F_DiscMakerModel) (N := 48) hx hb ht9 in_DiscMakerModel hown hK hP 0 rfl rfl 30 (by decide) (ht9 _ k1461) (fun _ h9 => h9) rfl d_DiscMakerModel_sortOf_1 ?_
  refine lv_iload_n hx hb d_DiscMakerModel_sortOf_4 rfl (lv_at hl 1 rfl) ?_
  refine va_zald hx hb hK hP 1 3 rfl rfl (vp_in_iff.mpr ⟨by omega, by omega⟩) d_DiscMakerModel_sortOf_5 ?_
  refine lv_topi (fun v1 e_v1 => ?_)
  refine lv_if_eq (tgt := 13) hx hb d_DiscMakerModel_sortOf_6 (by decide) (fun h_9 => ?_) (fun h_9 => ?_)
  · skip
    have g6_5 : v1.toInt = 0 := (i_eq rfl (by decide)).mp h_9
    refine lv_aload_n hx hb d_DiscMakerModel_sortOf_13 rfl (lv_at hl 0 rfl) ?_
    refine va_get (D := D) (ci := 11) (v := .ref (ma 25)) (C := "DiscMakerModel") (T := F_DiscMakerModel) (N := 48) hx hb ht9 in_DiscMakerModel hown hK hP 0 rfl rfl 33 (by decide) (ht9 _ k1464) (fun _ h9 => h9) rfl d_DiscMakerModel_sortOf_14 ?_
    refine lv_iload_n hx hb d_DiscMakerModel_sortOf_17 rfl (lv_at hl 1 rfl) ?_
    refine va_iald hx hb hK hP 2 1 rfl rfl (vp_in_iff.mpr ⟨by omega, by omega⟩) d_DiscMakerModel_sortOf_18 ?_
    refine lv_topi (fun v2 e_v2 => ?_)
    refine lv_ldcw (v := 61440) hx hb hown (ht9 _ k1902) d_DiscMakerModel_sortOf_19 ?_
    refine lv_iand hx hb d_DiscMakerModel_sortOf_22 ?_
    refine lv_topi (fun v3 e_v3 => ?_)
    have t_v3 : 0 ≤ v3.toInt ∧ v3.toInt ≤ 61440 := by rw [e_v3]; exact i_and (by decide) (by decide)
    refine lv_ldcw (v := 40960) hx hb hown (ht9 _ k1769) d_DiscMakerModel_sortOf_23 ?_
    refine lv_icmp_ne (tgt := 33) hx hb d_DiscMakerModel_sortOf_26 (by decide) (fun h_9 => ?_) (fun h_9 => ?_)
    · skip
      have g26_13 : ¬ v3.toInt = 40960 := fun h8 => h_9 ((i_eq rfl (by decide)).mpr h8)
      refine lv_iconst (v := 1) hx hb d_DiscMakerModel_sortOf_33 (by decide) ?_
      have hP9 := hP.sub (ws' := [(h0, .inr (11, MO ma sv_thrown sv_length sv_nodes sv_many sv_directories sv_runsFrom sv_runs sv_read sv_wrong sv_isNamed sv_goes sv_goesSize sv_goesAt sv_targetParts sv_isRoot)), ((ma 22), .inl (cZ, 100, .inl fD)), ((ma 25), .inl (cI, 100, .inl fM))]) [0, 1, 2] rfl
      have hD9 := hD.sub (ws' := [(h0, .inr (11, MO ma sv_thrown sv_length sv_nodes sv_many sv_directories sv_runsFrom sv_runs sv_read sv_wrong sv_isNamed sv_goes sv_goesSize sv_goesAt sv_targetParts sv_isRoot)), ((ma 22), .inl (cZ, 100, .inl fD)), ((ma 25), .inl (cI, 100, .inl fM))]) [0, 1, 2] (by decide +kernel) rfl
      exact W.iret (v := 1) hx hb hr (fun t ht hW => ⟨⟨1, (), rfl, (by (try dsimp only); first | assumption | omega | trivial), by rw [ht]; exact hP9, hD9⟩, hS.F ht⟩) hS.2.2 d_DiscMakerModel_sortOf_34
    · skip
      have g26_13 : v3.toInt = 40960 := (i_eq rfl (by decide)).mp h_9
      refine lv_iconst (v := 2) hx hb d_DiscMakerModel_sortOf_29 (by decide) ?_
      refine lv_goto (tgt := 34) hx hb d_DiscMakerModel_sortOf_30 (by decide) ?_
      have hP9 := hP.sub (ws' := [(h0, .inr (11, MO ma sv_thrown sv_length sv_nodes sv_many sv_directories sv_runsFrom sv_runs sv_read sv_wrong sv_isNamed sv_goes sv_goesSize sv_goesAt sv_targetParts sv_isRoot)), ((ma 22), .inl (cZ, 100, .inl fD)), ((ma 25), .inl (cI, 100, .inl fM))]) [0, 1, 2] rfl
      have hD9 := hD.sub (ws' := [(h0, .inr (11, MO ma sv_thrown sv_length sv_nodes sv_many sv_directories sv_runsFrom sv_runs sv_read sv_wrong sv_isNamed sv_goes sv_goesSize sv_goesAt sv_targetParts sv_isRoot)), ((ma 22), .inl (cZ, 100, .inl fD)), ((ma 25), .inl (cI, 100, .inl fM))]) [0, 1, 2] (by decide +kernel) rfl
      exact W.iret (v := 2) hx hb hr (fun t ht hW => ⟨⟨2, (), rfl, (by (try dsimp only); first | assumption | omega | trivial), by rw [ht]; exact hP9, hD9⟩, hS.F ht⟩) hS.2.2 d_DiscMakerModel_sortOf_34
  · skip
    have g6_5 : ¬ v1.toInt = 0 := fun h8 => h_9 ((i_eq rfl (by decide)).mpr h8)
    refine lv_iconst (v := 0) hx hb d_DiscMakerModel_sortOf_9 (by decide) ?_
    refine lv_goto (tgt := 34) hx hb d_DiscMakerModel_sortOf_10 (by decide) ?_
    have hP9 := hP.sub (ws' := [(h0, .inr (11, MO ma sv_thrown sv_length sv_nodes sv_many sv_directories sv_runsFrom sv_runs sv_read sv_wrong sv_isNamed sv_goes sv_goesSize sv_goesAt sv_targetParts sv_isRoot)), ((ma 22), .inl (cZ, 100, .inl fD)), ((ma 25), .inl (cI, 100, .inl fM))]) [0, 1, 2] rfl
    have hD9 := hD.sub (ws' := [(h0, .inr (11, MO ma sv_thrown sv_length sv_nodes sv_many sv_directories sv_runsFrom sv_runs sv_read sv_wrong sv_isNamed sv_goes sv_goesSize sv_goesAt sv_targetParts sv_isRoot)), ((ma 22), .inl (cZ, 100, .inl fD)), ((ma 25), .inl (cI, 100, .inl fM))]) [0, 1, 2] (by decide +kernel) rfl
    exact W.iret (v := 0) hx hb hr (fun t ht hW => ⟨⟨0, (), rfl, (by (try dsimp only); first | assumption | omega | trivial), by rw [ht]; exact hP9, hD9⟩, hS.F ht⟩) hS.2.2 d_DiscMakerModel_sortOf_34

theorem d_DiscMakerModel_node_0 : decode b_DiscMakerModel_node 0 = .ok (.aload_n 0, 1) := by decide +kernel
theorem d_DiscMakerModel_node_1 : decode b_DiscMakerModel_node 1 = .ok (.iload_n 1, 1) := by decide +kernel
theorem d_DiscMakerModel_node_2 : decode b_DiscMakerModel_node 2 = .ok (.ifCond .lt 25, 3) := by decide +kernel
theorem d_DiscMakerModel_node_5 : decode b_DiscMakerModel_node 5 = .ok (.iload_n 1, 1) := by decide +kernel
theorem d_DiscMakerModel_node_6 : decode b_DiscMakerModel_node 6 = .ok (.aload_n 0, 1) := by decide +kernel
theorem d_DiscMakerModel_node_7 : decode b_DiscMakerModel_node 7 = .ok (.getfield 323, 3) := by decide +kernel
theorem d_DiscMakerModel_node_10 : decode b_DiscMakerModel_node 10 = .ok (.if_icmp .ge 17, 3) := by decide +kernel
theorem d_DiscMakerModel_node_13 : decode b_DiscMakerModel_node 13 = .ok (.iload_n 2, 1) := by decide +kernel
theorem d_DiscMakerModel_node_14 : decode b_DiscMakerModel_node 14 = .ok (.ifCond .lt 13, 3) := by decide +kernel
theorem d_DiscMakerModel_node_17 : decode b_DiscMakerModel_node 17 = .ok (.iload_n 2, 1) := by decide +kernel
theorem d_DiscMakerModel_node_18 : decode b_DiscMakerModel_node 18 = .ok (.bipush 8, 2) := by decide +kernel
theorem d_DiscMakerModel_node_20 : decode b_DiscMakerModel_node 20 = .ok (.if_icmp .gt 7, 3) := by decide +kernel
theorem d_DiscMakerModel_node_23 : decode b_DiscMakerModel_node 23 = .ok (.iconst 0, 1) := by decide +kernel
theorem d_DiscMakerModel_node_24 : decode b_DiscMakerModel_node 24 = .ok (.goto 4, 3) := by decide +kernel
theorem d_DiscMakerModel_node_27 : decode b_DiscMakerModel_node 27 = .ok (.iconst 1, 1) := by decide +kernel
theorem d_DiscMakerModel_node_28 : decode b_DiscMakerModel_node 28 = .ok (.putfield 118, 3) := by decide +kernel
theorem d_DiscMakerModel_node_31 : decode b_DiscMakerModel_node 31 = .ok (.aload_n 0, 1) := by decide +kernel
theorem d_DiscMakerModel_node_32 : decode b_DiscMakerModel_node 32 = .ok (.getfield 118, 3) := by decide +kernel
theorem d_DiscMakerModel_node_35 : decode b_DiscMakerModel_node 35 = .ok (.iconst 1, 1) := by decide +kernel
theorem d_DiscMakerModel_node_36 : decode b_DiscMakerModel_node 36 = .ok (.if_icmp .ne 5, 3) := by decide +kernel
theorem d_DiscMakerModel_node_39 : decode b_DiscMakerModel_node 39 = .ok (.iconst 0, 1) := by decide +kernel
theorem d_DiscMakerModel_node_40 : decode b_DiscMakerModel_node 40 = .ok (.ireturn, 1) := by decide +kernel
theorem d_DiscMakerModel_node_41 : decode b_DiscMakerModel_node 41 = .ok (.iload_n 2, 1) := by decide +kernel
theorem d_DiscMakerModel_node_42 : decode b_DiscMakerModel_node 42 = .ok (.tableswitch 101 0 7 #[46, 53, 59, 66, 73, 80, 87, 94], 46) := by decide +kernel
theorem d_DiscMakerModel_node_88 : decode b_DiscMakerModel_node 88 = .ok (.aload_n 0, 1) := by decide +kernel
theorem d_DiscMakerModel_node_89 : decode b_DiscMakerModel_node 89 = .ok (.getfield 76, 3) := by decide +kernel
theorem d_DiscMakerModel_node_92 : decode b_DiscMakerModel_node 92 = .ok (.iload_n 1, 1) := by decide +kernel
theorem d_DiscMakerModel_node_93 : decode b_DiscMakerModel_node 93 = .ok (.iaload, 1) := by decide +kernel
theorem d_DiscMakerModel_node_94 : decode b_DiscMakerModel_node 94 = .ok (.ireturn, 1) := by decide +kernel
theorem d_DiscMakerModel_node_95 : decode b_DiscMakerModel_node 95 = .ok (.aload_n 0, 1) := by decide +kernel
theorem d_DiscMakerModel_node_96 : decode b_DiscMakerModel_node 96 = .ok (.iload_n 1, 1) := by decide +kernel
theorem d_DiscMakerModel_node_97 : decode b_DiscMakerModel_node 97 = .ok (.invokevirtual 386, 3) := by decide +kernel
theorem d_DiscMakerModel_node_100 : decode b_DiscMakerModel_node 100 = .ok (.ireturn, 1) := by decide +kernel
theorem d_DiscMakerModel_node_101 : decode b_DiscMakerModel_node 101 = .ok (.aload_n 0, 1) := by decide +kernel
theorem d_DiscMakerModel_node_102 : decode b_DiscMakerModel_node 102 = .ok (.getfield 83, 3) := by decide +kernel
theorem d_DiscMakerModel_node_105 : decode b_DiscMakerModel_node 105 = .ok (.iload_n 1, 1) := by decide +kernel
theorem d_DiscMakerModel_node_106 : decode b_DiscMakerModel_node 106 = .ok (.iaload, 1) := by decide +kernel
theorem d_DiscMakerModel_node_107 : decode b_DiscMakerModel_node 107 = .ok (.ireturn, 1) := by decide +kernel
theorem d_DiscMakerModel_node_108 : decode b_DiscMakerModel_node 108 = .ok (.aload_n 0, 1) := by decide +kernel
theorem d_DiscMakerModel_node_109 : decode b_DiscMakerModel_node 109 = .ok (.getfield 86, 3) := by decide +kernel
theorem d_DiscMakerModel_node_112 : decode b_DiscMakerModel_node 112 = .ok (.iload_n 1, 1) := by decide +kernel
theorem d_DiscMakerModel_node_113 : decode b_DiscMakerModel_node 113 = .ok (.iaload, 1) := by decide +kernel
theorem d_DiscMakerModel_node_114 : decode b_DiscMakerModel_node 114 = .ok (.ireturn, 1) := by decide +kernel
theorem d_DiscMakerModel_node_115 : decode b_DiscMakerModel_node 115 = .ok (.aload_n 0, 1) := by decide +kernel
theorem d_DiscMakerModel_node_116 : decode b_DiscMakerModel_node 116 = .ok (.getfield 89, 3) := by decide +kernel
theorem d_DiscMakerModel_node_119 : decode b_DiscMakerModel_node 119 = .ok (.iload_n 1, 1) := by decide +kernel
theorem d_DiscMakerModel_node_120 : decode b_DiscMakerModel_node 120 = .ok (.iaload, 1) := by decide +kernel
theorem d_DiscMakerModel_node_121 : decode b_DiscMakerModel_node 121 = .ok (.ireturn, 1) := by decide +kernel
theorem d_DiscMakerModel_node_122 : decode b_DiscMakerModel_node 122 = .ok (.aload_n 0, 1) := by decide +kernel
theorem d_DiscMakerModel_node_123 : decode b_DiscMakerModel_node 123 = .ok (.getfield 92, 3) := by decide +kernel
theorem d_DiscMakerModel_node_126 : decode b_DiscMakerModel_node 126 = .ok (.iload_n 1, 1) := by decide +kernel
theorem d_DiscMakerModel_node_127 : decode b_DiscMakerModel_node 127 = .ok (.iaload, 1) := by decide +kernel
theorem d_DiscMakerModel_node_128 : decode b_DiscMakerModel_node 128 = .ok (.ireturn, 1) := by decide +kernel
theorem d_DiscMakerModel_node_129 : decode b_DiscMakerModel_node 129 = .ok (.aload_n 0, 1) := by decide +kernel
theorem d_DiscMakerModel_node_130 : decode b_DiscMakerModel_node 130 = .ok (.getfield 95, 3) := by decide +kernel
theorem d_DiscMakerModel_node_133 : decode b_DiscMakerModel_node 133 = .ok (.iload_n 1, 1) := by decide +kernel
theorem d_DiscMakerModel_node_134 : decode b_DiscMakerModel_node 134 = .ok (.iaload, 1) := by decide +kernel
theorem d_DiscMakerModel_node_135 : decode b_DiscMakerModel_node 135 = .ok (.ireturn, 1) := by decide +kernel
theorem d_DiscMakerModel_node_136 : decode b_DiscMakerModel_node 136 = .ok (.aload_n 0, 1) := by decide +kernel
theorem d_DiscMakerModel_node_137 : decode b_DiscMakerModel_node 137 = .ok (.getfield 101, 3) := by decide +kernel
theorem d_DiscMakerModel_node_140 : decode b_DiscMakerModel_node 140 = .ok (.iload_n 1, 1) := by decide +kernel
theorem d_DiscMakerModel_node_141 : decode b_DiscMakerModel_node 141 = .ok (.iaload, 1) := by decide +kernel
theorem d_DiscMakerModel_node_142 : decode b_DiscMakerModel_node 142 = .ok (.ireturn, 1) := by decide +kernel
theorem d_DiscMakerModel_node_143 : decode b_DiscMakerModel_node 143 = .ok (.aload_n 0, 1) := by decide +kernel
theorem d_DiscMakerModel_node_144 : decode b_DiscMakerModel_node 144 = .ok (.getfield 108, 3) := by decide +kernel
theorem d_DiscMakerModel_node_147 : decode b_DiscMakerModel_node 147 = .ok (.iload_n 1, 1) := by decide +kernel
theorem d_DiscMakerModel_node_148 : decode b_DiscMakerModel_node 148 = .ok (.iaload, 1) := by decide +kernel
theorem d_DiscMakerModel_node_149 : decode b_DiscMakerModel_node 149 = .ok (.ireturn, 1) := by decide +kernel
set_option maxHeartbeats 4000000 in
set_option maxRecDepth 100000 in
theorem m_node (l : Launch) (D : va_G) (cB cI cJ cZ cN cF : ClassId) (sz : Nat) (h0 : Nat) (ma : Nat → Nat) (sv_thrown sv_length sv_nodes sv_many sv_directories sv_runsFrom sv_runs sv_read sv_wrong sv_isNamed sv_goes sv_goesSize sv_goesAt sv_targetParts sv_isRoot : Int32) (fA : Nat → Int32) (fD : Nat → Int32) (fB : Nat → Int32) (fP : Nat → Int32) (fM : Nat → Int32) (fO : Nat → Int32) (fG : Nat → Int32) (fNS : Nat → Int32) (fTS : Nat → Int32) (x : Int32) (y : Int32) (hrd : 0 ≤ sv_read.toInt ∧ sv_read.toInt ≤ 99) : Met l y_DiscMakerModel_node w_DiscMakerModel_node ({ frames := 1, cells := 0, slots := 0, locals := 21 }) (va_Pc [.ref h0, .int x, .int y] (fun U => U.heap.size = sz ∧ va_P D CL [(h0, .inr (11, MO ma sv_thrown sv_length sv_nodes sv_many sv_directories sv_runsFrom sv_runs sv_read sv_wrong sv_isNamed sv_goes sv_goesSize sv_goesAt sv_targetParts sv_isRoot)), ((ma 21), .inl (cI, 100, .inl fA)), ((ma 22), .inl (cZ, 100, .inl fD)), ((ma 23), .inl (cI, 100, .inl fB)), ((ma 24), .inl (cI, 100, .inl fP)), ((ma 25), .inl (cI, 100, .inl fM)), ((ma 26), .inl (cI, 100, .inl fO)), ((ma 27), .inl (cI, 100, .inl fG)), ((ma 29), .inl (cI, 100, .inl fNS)), ((ma 31), .inl (cI, 100, .inl fTS))] U.heap ∧ va_K D CL (TY cB cI cJ cZ cN cF) U ∧ NN U ∧ va_D (fun _ => True) [(h0, .inr (11, MO ma sv_thrown sv_length sv_nodes sv_many sv_directories sv_runsFrom sv_runs sv_read sv_wrong sv_isNamed sv_goes sv_goesSize sv_goesAt sv_targetParts sv_isRoot)), ((ma 21), .inl (cI, 100, .inl fA)), ((ma 22), .inl (cZ, 100, .inl fD)), ((ma 23), .inl (cI, 100, .inl fB)), ((ma 24), .inl (cI, 100, .inl fP)), ((ma 25), .inl (cI, 100, .inl fM)), ((ma 26), .inl (cI, 100, .inl fO)), ((ma 27), .inl (cI, 100, .inl fG)), ((ma 29), .inl (cI, 100, .inl fNS)), ((ma 31), .inl (cI, 100, .inl fTS))])) (va_Qi (fun (r : Int32) (u : Int32) => True) (fun (u : Int32) (t : State) => match u with | th => va_P D CL [(h0, .inr (11, MO ma th sv_length sv_nodes sv_many sv_directories sv_runsFrom sv_runs sv_read sv_wrong sv_isNamed sv_goes sv_goesSize sv_goesAt sv_targetParts sv_isRoot)), ((ma 21), .inl (cI, 100, .inl fA)), ((ma 22), .inl (cZ, 100, .inl fD)), ((ma 23), .inl (cI, 100, .inl fB)), ((ma 24), .inl (cI, 100, .inl fP)), ((ma 25), .inl (cI, 100, .inl fM)), ((ma 26), .inl (cI, 100, .inl fO)), ((ma 27), .inl (cI, 100, .inl fG)), ((ma 29), .inl (cI, 100, .inl fNS)), ((ma 31), .inl (cI, 100, .inl fTS))] t.heap ∧ va_D (va_A [(h0, .inr (11, MO ma sv_thrown sv_length sv_nodes sv_many sv_directories sv_runsFrom sv_runs sv_read sv_wrong sv_isNamed sv_goes sv_goesSize sv_goesAt sv_targetParts sv_isRoot)), ((ma 21), .inl (cI, 100, .inl fA)), ((ma 22), .inl (cZ, 100, .inl fD)), ((ma 23), .inl (cI, 100, .inl fB)), ((ma 24), .inl (cI, 100, .inl fP)), ((ma 25), .inl (cI, 100, .inl fM)), ((ma 26), .inl (cI, 100, .inl fO)), ((ma 27), .inl (cI, 100, .inl fG)), ((ma 29), .inl (cI, 100, .inl fNS)), ((ma 31), .inl (cI, 100, .inl fTS))] sz) [(h0, .inr (11, MO ma th sv_length sv_nodes sv_many sv_directories sv_runsFrom sv_runs sv_read sv_wrong sv_isNamed sv_goes sv_goesSize sv_goesAt sv_targetParts sv_isRoot)), ((ma 21), .inl (cI, 100, .inl fA)), ((ma 22), .inl (cZ, 100, .inl fD)), ((ma 23), .inl (cI, 100, .inl fB)), ((ma 24), .inl (cI, 100, .inl fP)), ((ma 25), .inl (cI, 100, .inl fM)), ((ma 26), .inl (cI, 100, .inl fO)), ((ma 27), .inl (cI, 100, .inl fG)), ((ma 29), .inl (cI, 100, .inl fNS)), ((ma 31), .inl (cI, 100, .inl fTS))]) (va_A [(h0, .inr (11, MO ma sv_thrown sv_length sv_nodes sv_many sv_directories sv_runsFrom sv_runs sv_read sv_wrong sv_isNamed sv_goes sv_goesSize sv_goesAt sv_targetParts sv_isRoot)), ((ma 21), .inl (cI, 100, .inl fA)), ((ma 22), .inl (cZ, 100, .inl fD)), ((ma 23), .inl (cI, 100, .inl fB)), ((ma 24), .inl (cI, 100, .inl fP)), ((ma 25), .inl (cI, 100, .inl fM)), ((ma 26), .inl (cI, 100, .inl fO)), ((ma 27), .inl (cI, 100, .inl fG)), ((ma 29), .inl (cI, 100, .inl fNS)), ((ma 31), .inl (cI, 100, .inl fTS))] sz)) 0 0 (va_A [(h0, .inr (11, MO ma sv_thrown sv_length sv_nodes sv_many sv_directories sv_runsFrom sv_runs sv_read sv_wrong sv_isNamed sv_goes sv_goesSize sv_goesAt sv_targetParts sv_isRoot)), ((ma 21), .inl (cI, 100, .inl fA)), ((ma 22), .inl (cZ, 100, .inl fD)), ((ma 23), .inl (cI, 100, .inl fB)), ((ma 24), .inl (cI, 100, .inl fP)), ((ma 25), .inl (cI, 100, .inl fM)), ((ma 26), .inl (cI, 100, .inl fO)), ((ma 27), .inl (cI, 100, .inl fG)), ((ma 29), .inl (cI, 100, .inl fNS)), ((ma 31), .inl (cI, 100, .inl fTS))] sz) := by
  refine Met.ofW (cc := b_DiscMakerModel_node) (maxL := 3) (ret := some .int) (by decide) rfl ?_
  intro p e s m args below meth c s₁ B hml hv
  obtain ⟨rfl, hsz, hP, hK, hN, hD0⟩ := hv
  have hx := B.exec
  have hb := B.bytes
  have hr := B.returns
  have hts := atoms_spec (ws := w_DiscMakerModel_node) B.pre
  have ht9 := fun (w : Cond) (h : w ∈ lw_g) => hts w (List.mem_cons_of_mem _ h)
  have hown : s.vm.findClass "DiscMakerModel" = some m.cls := findClass_of_methodNamed B.named
  have hlocks := B.notSynchronized
  subst hsz
  have hD := hD0.self (sz := s.heap.size)
  generalize hAe : va_A [(h0, .inr (11, MO ma sv_thrown sv_length sv_nodes sv_many sv_directories sv_runsFrom sv_runs sv_read sv_wrong sv_isNamed sv_goes sv_goesSize sv_goesAt sv_targetParts sv_isRoot)), ((ma 21), .inl (cI, 100, .inl fA)), ((ma 22), .inl (cZ, 100, .inl fD)), ((ma 23), .inl (cI, 100, .inl fB)), ((ma 24), .inl (cI, 100, .inl fP)), ((ma 25), .inl (cI, 100, .inl fM)), ((ma 26), .inl (cI, 100, .inl fO)), ((ma 27), .inl (cI, 100, .inl fG)), ((ma 29), .inl (cI, 100, .inl fNS)), ((ma 31), .inl (cI, 100, .inl fTS))] s.heap.size = A at hD ⊢
  have hA : ∀ q : Nat, s.heap.size ≤ q → A q := fun q h => by rw [← hAe]; exact Or.inr h
  have hS : va_S A s.heap s.heap [] := va_S.rf
  have hP : va_P D CL [(h0, .inr (11, MO ma sv_thrown sv_length sv_nodes sv_many sv_directories sv_runsFrom sv_runs sv_read sv_wrong sv_isNamed sv_goes sv_goesSize sv_goesAt sv_targetParts sv_isRoot)), ((ma 21), .inl (cI, 100, .inl fA)), ((ma 22), .inl (cZ, 100, .inl fD)), ((ma 23), .inl (cI, 100, .inl fB)), ((ma 24), .inl (cI, 100, .inl fP)), ((ma 25), .inl (cI, 100, .inl fM)), ((ma 26), .inl (cI, 100, .inl fO)), ((ma 27), .inl (cI, 100, .inl fG)), ((ma 29), .inl (cI, 100, .inl fNS)), ((ma 31), .inl (cI, 100, .inl fTS))] s.heap := hP
  have hl := lv_entry [.ref h0, .int x, .int y] (n := 3) (Nat.le_of_ble_eq_true rfl)
  rw [lg_entry_eq]
  generalize (lg_sl [.ref h0, .int x, .int y] ++ List.replicate (3 - (lg_sl [.ref h0, .int x, .int y]).length) Slot.unset).toArray = ls at hl ⊢
  have hl : lv_has ls 3 [(0, .ref h0), (1, .int x), (2, .int y)] := hl
  have L_m1 : ((-1) : Int32).toInt = (-1) := by decide
  have L_0 : (0 : Int32).toInt = 0 := by decide
  have L_1 : (1 : Int32).toInt = 1 := by decide
  have L_8 : (8 : Int32).toInt = 8 := by decide
  refine lv_aload_n hx hb d_DiscMakerModel_node_0 rfl (lv_at hl 0 rfl) ?_
  refine lv_iload_n hx hb d_DiscMakerModel_node_1 rfl (lv_at hl 1 rfl) ?_
  refine lv_if_lt (tgt := 27) hx hb d_DiscMakerModel_node_2 (by decide) (fun h_9 => ?_) (fun h_9 => ?_)
  · skip
    have g2_3 : x.toInt < 0 := (i_lt rfl (by decide)).mp h_9
    refine lv_iconst (v := 1) hx hb d_DiscMakerModel_node_27 (by decide) ?_
    refine va_put (D := D) (ci := 11) (v := .int 1) (ty := .int) (C := "DiscMakerModel") (T := F_DiscMakerModel) (N := 48) hx hb ht9 in_DiscMakerModel t_DiscMakerModel t_DiscMakerModel_ok n_DiscMakerModel hown hK hP hD hS 0 rfl rfl 0 (by decide) (ht9 _ k1431) (fun _ h9 => h9) rfl (by decide +kernel) rfl rfl (Nat.le_of_ble_eq_true rfl) d_DiscMakerModel_node_28 (fun H locs hP hD hS => ?_)
    have hP : va_P D CL [(h0, .inr (11, MO ma 1 sv_length sv_nodes sv_many sv_directories sv_runsFrom sv_runs sv_read sv_wrong sv_isNamed sv_goes sv_goesSize sv_goesAt sv_targetParts sv_isRoot)), ((ma 21), .inl (cI, 100, .inl fA)), ((ma 22), .inl (cZ, 100, .inl fD)), ((ma 23), .inl (cI, 100, .inl fB)), ((ma 24), .inl (cI, 100, .inl fP)), ((ma 25), .inl (cI, 100, .inl fM)), ((ma 26), .inl (cI, 100, .inl fO)), ((ma 27), .inl (cI, 100, .inl fG)), ((ma 29), .inl (cI, 100, .inl fNS)), ((ma 31), .inl (cI, 100, .inl fTS))] H := hP
    have hD : va_D A [(h0, .inr (11, MO ma 1 sv_length sv_nodes sv_many sv_directories sv_runsFrom sv_runs sv_read sv_wrong sv_isNamed sv_goes sv_goesSize sv_goesAt sv_targetParts sv_isRoot)), ((ma 21), .inl (cI, 100, .inl fA)), ((ma 22), .inl (cZ, 100, .inl fD)), ((ma 23), .inl (cI, 100, .inl fB)), ((ma 24), .inl (cI, 100, .inl fP)), ((ma 25), .inl (cI, 100, .inl fM)), ((ma 26), .inl (cI, 100, .inl fO)), ((ma 27), .inl (cI, 100, .inl fG)), ((ma 29), .inl (cI, 100, .inl fNS)), ((ma 31), .inl (cI, 100, .inl fTS))] := hD
    refine lv_aload_n hx hb d_DiscMakerModel_node_31 rfl (lv_at hl 0 rfl) ?_
    refine va_get (D := D) (ci := 11) (v := .int 1) (C := "DiscMakerModel") (T := F_DiscMakerModel) (N := 48) hx hb ht9 in_DiscMakerModel hown hK hP 0 rfl rfl 0 (by decide) (ht9 _ k1431) (fun _ h9 => h9) rfl d_DiscMakerModel_node_32 ?_
    refine lv_iconst (v := 1) hx hb d_DiscMakerModel_node_35 (by decide) ?_
    refine lv_icmp_ne (tgt := 41) hx hb d_DiscMakerModel_node_36 (by decide) (fun h_9 => absurd (by decide) h_9) (fun _ => ?_)
    refine lv_iconst (v := 0) hx hb d_DiscMakerModel_node_39 (by decide) ?_
    have hP9 := hP.sub (ws' := [(h0, .inr (11, MO ma 1 sv_length sv_nodes sv_many sv_directories sv_runsFrom sv_runs sv_read sv_wrong sv_isNamed sv_goes sv_goesSize sv_goesAt sv_targetParts sv_isRoot)), ((ma 21), .inl (cI, 100, .inl fA)), ((ma 22), .inl (cZ, 100, .inl fD)), ((ma 23), .inl (cI, 100, .inl fB)), ((ma 24), .inl (cI, 100, .inl fP)), ((ma 25), .inl (cI, 100, .inl fM)), ((ma 26), .inl (cI, 100, .inl fO)), ((ma 27), .inl (cI, 100, .inl fG)), ((ma 29), .inl (cI, 100, .inl fNS)), ((ma 31), .inl (cI, 100, .inl fTS))]) [0, 1, 2, 3, 4, 5, 6, 7, 8, 9] rfl
    have hD9 := hD.sub (ws' := [(h0, .inr (11, MO ma 1 sv_length sv_nodes sv_many sv_directories sv_runsFrom sv_runs sv_read sv_wrong sv_isNamed sv_goes sv_goesSize sv_goesAt sv_targetParts sv_isRoot)), ((ma 21), .inl (cI, 100, .inl fA)), ((ma 22), .inl (cZ, 100, .inl fD)), ((ma 23), .inl (cI, 100, .inl fB)), ((ma 24), .inl (cI, 100, .inl fP)), ((ma 25), .inl (cI, 100, .inl fM)), ((ma 26), .inl (cI, 100, .inl fO)), ((ma 27), .inl (cI, 100, .inl fG)), ((ma 29), .inl (cI, 100, .inl fNS)), ((ma 31), .inl (cI, 100, .inl fTS))]) [0, 1, 2, 3, 4, 5, 6, 7, 8, 9] (by decide +kernel) rfl
    exact W.iret (v := 0) hx hb hr (fun t ht hW => ⟨⟨0, 1, rfl, trivial, by rw [ht]; exact hP9, hD9⟩, hS.F ht⟩) hS.2.2 d_DiscMakerModel_node_40
  · skip
    have g2_3 : ¬ x.toInt < 0 := fun h8 => h_9 ((i_lt rfl (by decide)).mpr h8)
    refine lv_iload_n hx hb d_DiscMakerModel_node_5 rfl (lv_at hl 1 rfl) ?_
    refine lv_aload_n hx hb d_DiscMakerModel_node_6 rfl (lv_at hl 0 rfl) ?_
    refine va_get (D := D) (ci := 11) (v := .int sv_read) (C := "DiscMakerModel") (T := F_DiscMakerModel) (N := 48) hx hb ht9 in_DiscMakerModel hown hK hP 0 rfl rfl 28 (by decide) (ht9 _ k1459) (fun _ h9 => h9) rfl d_DiscMakerModel_node_7 ?_
    refine lv_icmp_ge (tgt := 27) hx hb d_DiscMakerModel_node_10 (by decide) (fun h_9 => ?_) (fun h_9 => ?_)
    · skip
      have g10_15 : sv_read.toInt ≤ x.toInt := (i_le rfl rfl).mp h_9
      refine lv_iconst (v := 1) hx hb d_DiscMakerModel_node_27 (by decide) ?_
      refine va_put (D := D) (ci := 11) (v := .int 1) (ty := .int) (C := "DiscMakerModel") (T := F_DiscMakerModel) (N := 48) hx hb ht9 in_DiscMakerModel t_DiscMakerModel t_DiscMakerModel_ok n_DiscMakerModel hown hK hP hD hS 0 rfl rfl 0 (by decide) (ht9 _ k1431) (fun _ h9 => h9) rfl (by decide +kernel) rfl rfl (Nat.le_of_ble_eq_true rfl) d_DiscMakerModel_node_28 (fun H locs hP hD hS => ?_)
      have hP : va_P D CL [(h0, .inr (11, MO ma 1 sv_length sv_nodes sv_many sv_directories sv_runsFrom sv_runs sv_read sv_wrong sv_isNamed sv_goes sv_goesSize sv_goesAt sv_targetParts sv_isRoot)), ((ma 21), .inl (cI, 100, .inl fA)), ((ma 22), .inl (cZ, 100, .inl fD)), ((ma 23), .inl (cI, 100, .inl fB)), ((ma 24), .inl (cI, 100, .inl fP)), ((ma 25), .inl (cI, 100, .inl fM)), ((ma 26), .inl (cI, 100, .inl fO)), ((ma 27), .inl (cI, 100, .inl fG)), ((ma 29), .inl (cI, 100, .inl fNS)), ((ma 31), .inl (cI, 100, .inl fTS))] H := hP
      have hD : va_D A [(h0, .inr (11, MO ma 1 sv_length sv_nodes sv_many sv_directories sv_runsFrom sv_runs sv_read sv_wrong sv_isNamed sv_goes sv_goesSize sv_goesAt sv_targetParts sv_isRoot)), ((ma 21), .inl (cI, 100, .inl fA)), ((ma 22), .inl (cZ, 100, .inl fD)), ((ma 23), .inl (cI, 100, .inl fB)), ((ma 24), .inl (cI, 100, .inl fP)), ((ma 25), .inl (cI, 100, .inl fM)), ((ma 26), .inl (cI, 100, .inl fO)), ((ma 27), .inl (cI, 100, .inl fG)), ((ma 29), .inl (cI, 100, .inl fNS)), ((ma 31), .inl (cI, 100, .inl fTS))] := hD
      refine lv_aload_n hx hb d_DiscMakerModel_node_31 rfl (lv_at hl 0 rfl) ?_
      refine va_get (D := D) (ci := 11) (v := .int 1) (C := "DiscMakerModel") (T := F_DiscMakerModel) (N := 48) hx hb ht9 in_DiscMakerModel hown hK hP 0 rfl rfl 0 (by decide) (ht9 _ k1431) (fun _ h9 => h9) rfl d_DiscMakerModel_node_32 ?_
      refine lv_iconst (v := 1) hx hb d_DiscMakerModel_node_35 (by decide) ?_
      refine lv_icmp_ne (tgt := 41) hx hb d_DiscMakerModel_node_36 (by decide) (fun h_9 => absurd (by decide) h_9) (fun _ => ?_)
      refine lv_iconst (v := 0) hx hb d_DiscMakerModel_node_39 (by decide) ?_
      have hP9 := hP.sub (ws' := [(h0, .inr (11, MO ma 1 sv_length sv_nodes sv_many sv_directories sv_runsFrom sv_runs sv_read sv_wrong sv_isNamed sv_goes sv_goesSize sv_goesAt sv_targetParts sv_isRoot)), ((ma 21), .inl (cI, 100, .inl fA)), ((ma 22), .inl (cZ, 100, .inl fD)), ((ma 23), .inl (cI, 100, .inl fB)), ((ma 24), .inl (cI, 100, .inl fP)), ((ma 25), .inl (cI, 100, .inl fM)), ((ma 26), .inl (cI, 100, .inl fO)), ((ma 27), .inl (cI, 100, .inl fG)), ((ma 29), .inl (cI, 100, .inl fNS)), ((ma 31), .inl (cI, 100, .inl fTS))]) [0, 1, 2, 3, 4, 5, 6, 7, 8, 9] rfl
      have hD9 := hD.sub (ws' := [(h0, .inr (11, MO ma 1 sv_length sv_nodes sv_many sv_directories sv_runsFrom sv_runs sv_read sv_wrong sv_isNamed sv_goes sv_goesSize sv_goesAt sv_targetParts sv_isRoot)), ((ma 21), .inl (cI, 100, .inl fA)), ((ma 22), .inl (cZ, 100, .inl fD)), ((ma 23), .inl (cI, 100, .inl fB)), ((ma 24), .inl (cI, 100, .inl fP)), ((ma 25), .inl (cI, 100, .inl fM)), ((ma 26), .inl (cI, 100, .inl fO)), ((ma 27), .inl (cI, 100, .inl fG)), ((ma 29), .inl (cI, 100, .inl fNS)), ((ma 31), .inl (cI, 100, .inl fTS))]) [0, 1, 2, 3, 4, 5, 6, 7, 8, 9] (by decide +kernel) rfl
      exact W.iret (v := 0) hx hb hr (fun t ht hW => ⟨⟨0, 1, rfl, trivial, by rw [ht]; exact hP9, hD9⟩, hS.F ht⟩) hS.2.2 d_DiscMakerModel_node_40
    · skip
      have g10_15 : ¬ sv_read.toInt ≤ x.toInt := fun h8 => h_9 ((i_le rfl rfl).mpr h8)
      refine lv_iload_n hx hb d_DiscMakerModel_node_13 rfl (lv_at hl 2 rfl) ?_
      refine lv_if_lt (tgt := 27) hx hb d_DiscMakerModel_node_14 (by decide) (fun h_9 => ?_) (fun h_9 => ?_)
      · skip
        have g14_25 : y.toInt < 0 := (i_lt rfl (by decide)).mp h_9
        refine lv_iconst (v := 1) hx hb d_DiscMakerModel_node_27 (by decide) ?_
        refine va_put (D := D) (ci := 11) (v := .int 1) (ty := .int) (C := "DiscMakerModel") (T := F_DiscMakerModel) (N := 48) hx hb ht9 in_DiscMakerModel t_DiscMakerModel t_DiscMakerModel_ok n_DiscMakerModel hown hK hP hD hS 0 rfl rfl 0 (by decide) (ht9 _ k1431) (fun _ h9 => h9) rfl (by decide +kernel) rfl rfl (Nat.le_of_ble_eq_true rfl) d_DiscMakerModel_node_28 (fun H locs hP hD hS => ?_)
        have hP : va_P D CL [(h0, .inr (11, MO ma 1 sv_length sv_nodes sv_many sv_directories sv_runsFrom sv_runs sv_read sv_wrong sv_isNamed sv_goes sv_goesSize sv_goesAt sv_targetParts sv_isRoot)), ((ma 21), .inl (cI, 100, .inl fA)), ((ma 22), .inl (cZ, 100, .inl fD)), ((ma 23), .inl (cI, 100, .inl fB)), ((ma 24), .inl (cI, 100, .inl fP)), ((ma 25), .inl (cI, 100, .inl fM)), ((ma 26), .inl (cI, 100, .inl fO)), ((ma 27), .inl (cI, 100, .inl fG)), ((ma 29), .inl (cI, 100, .inl fNS)), ((ma 31), .inl (cI, 100, .inl fTS))] H := hP
        have hD : va_D A [(h0, .inr (11, MO ma 1 sv_length sv_nodes sv_many sv_directories sv_runsFrom sv_runs sv_read sv_wrong sv_isNamed sv_goes sv_goesSize sv_goesAt sv_targetParts sv_isRoot)), ((ma 21), .inl (cI, 100, .inl fA)), ((ma 22), .inl (cZ, 100, .inl fD)), ((ma 23), .inl (cI, 100, .inl fB)), ((ma 24), .inl (cI, 100, .inl fP)), ((ma 25), .inl (cI, 100, .inl fM)), ((ma 26), .inl (cI, 100, .inl fO)), ((ma 27), .inl (cI, 100, .inl fG)), ((ma 29), .inl (cI, 100, .inl fNS)), ((ma 31), .inl (cI, 100, .inl fTS))] := hD
        refine lv_aload_n hx hb d_DiscMakerModel_node_31 rfl (lv_at hl 0 rfl) ?_
        refine va_get (D := D) (ci := 11) (v := .int 1) (C := "DiscMakerModel") (T := F_DiscMakerModel) (N := 48) hx hb ht9 in_DiscMakerModel hown hK hP 0 rfl rfl 0 (by decide) (ht9 _ k1431) (fun _ h9 => h9) rfl d_DiscMakerModel_node_32 ?_
        refine lv_iconst (v := 1) hx hb d_DiscMakerModel_node_35 (by decide) ?_
        refine lv_icmp_ne (tgt := 41) hx hb d_DiscMakerModel_node_36 (by decide) (fun h_9 => absurd (by decide) h_9) (fun _ => ?_)
        refine lv_iconst (v := 0) hx hb d_DiscMakerModel_node_39 (by decide) ?_
        have hP9 := hP.sub (ws' := [(h0, .inr (11, MO ma 1 sv_length sv_nodes sv_many sv_directories sv_runsFrom sv_runs sv_read sv_wrong sv_isNamed sv_goes sv_goesSize sv_goesAt sv_targetParts sv_isRoot)), ((ma 21), .inl (cI, 100, .inl fA)), ((ma 22), .inl (cZ, 100, .inl fD)), ((ma 23), .inl (cI, 100, .inl fB)), ((ma 24), .inl (cI, 100, .inl fP)), ((ma 25), .inl (cI, 100, .inl fM)), ((ma 26), .inl (cI, 100, .inl fO)), ((ma 27), .inl (cI, 100, .inl fG)), ((ma 29), .inl (cI, 100, .inl fNS)), ((ma 31), .inl (cI, 100, .inl fTS))]) [0, 1, 2, 3, 4, 5, 6, 7, 8, 9] rfl
        have hD9 := hD.sub (ws' := [(h0, .inr (11, MO ma 1 sv_length sv_nodes sv_many sv_directories sv_runsFrom sv_runs sv_read sv_wrong sv_isNamed sv_goes sv_goesSize sv_goesAt sv_targetParts sv_isRoot)), ((ma 21), .inl (cI, 100, .inl fA)), ((ma 22), .inl (cZ, 100, .inl fD)), ((ma 23), .inl (cI, 100, .inl fB)), ((ma 24), .inl (cI, 100, .inl fP)), ((ma 25), .inl (cI, 100, .inl fM)), ((ma 26), .inl (cI, 100, .inl fO)), ((ma 27), .inl (cI, 100, .inl fG)), ((ma 29), .inl (cI, 100, .inl fNS)), ((ma 31), .inl (cI, 100, .inl fTS))]) [0, 1, 2, 3, 4, 5, 6, 7, 8, 9] (by decide +kernel) rfl
        exact W.iret (v := 0) hx hb hr (fun t ht hW => ⟨⟨0, 1, rfl, trivial, by rw [ht]; exact hP9, hD9⟩, hS.F ht⟩) hS.2.2 d_DiscMakerModel_node_40
      · skip
        have g14_25 : ¬ y.toInt < 0 := fun h8 => h_9 ((i_lt rfl (by decide)).mpr h8)
        refine lv_iload_n hx hb d_DiscMakerModel_node_17 rfl (lv_at hl 2 rfl) ?_
        refine lv_bipush (v := 8) hx hb d_DiscMakerModel_node_18 (by decide) ?_
        refine lv_icmp_gt (tgt := 27) hx hb d_DiscMakerModel_node_20 (by decide) (fun h_9 => ?_) (fun h_9 => ?_)
        · skip
          have g20_36 : 8 < y.toInt := (i_lt (by decide) rfl).mp h_9
          refine lv_iconst (v := 1) hx hb d_DiscMakerModel_node_27 (by decide) ?_
          refine va_put (D := D) (ci := 11) (v := .int 1) (ty := .int) (C := "DiscMakerModel") (T := F_DiscMakerModel) (N := 48) hx hb ht9 in_DiscMakerModel t_DiscMakerModel t_DiscMakerModel_ok n_DiscMakerModel hown hK hP hD hS 0 rfl rfl 0 (by decide) (ht9 _ k1431) (fun _ h9 => h9) rfl (by decide +kernel) rfl rfl (Nat.le_of_ble_eq_true rfl) d_DiscMakerModel_node_28 (fun H locs hP hD hS => ?_)
          have hP : va_P D CL [(h0, .inr (11, MO ma 1 sv_length sv_nodes sv_many sv_directories sv_runsFrom sv_runs sv_read sv_wrong sv_isNamed sv_goes sv_goesSize sv_goesAt sv_targetParts sv_isRoot)), ((ma 21), .inl (cI, 100, .inl fA)), ((ma 22), .inl (cZ, 100, .inl fD)), ((ma 23), .inl (cI, 100, .inl fB)), ((ma 24), .inl (cI, 100, .inl fP)), ((ma 25), .inl (cI, 100, .inl fM)), ((ma 26), .inl (cI, 100, .inl fO)), ((ma 27), .inl (cI, 100, .inl fG)), ((ma 29), .inl (cI, 100, .inl fNS)), ((ma 31), .inl (cI, 100, .inl fTS))] H := hP
          have hD : va_D A [(h0, .inr (11, MO ma 1 sv_length sv_nodes sv_many sv_directories sv_runsFrom sv_runs sv_read sv_wrong sv_isNamed sv_goes sv_goesSize sv_goesAt sv_targetParts sv_isRoot)), ((ma 21), .inl (cI, 100, .inl fA)), ((ma 22), .inl (cZ, 100, .inl fD)), ((ma 23), .inl (cI, 100, .inl fB)), ((ma 24), .inl (cI, 100, .inl fP)), ((ma 25), .inl (cI, 100, .inl fM)), ((ma 26), .inl (cI, 100, .inl fO)), ((ma 27), .inl (cI, 100, .inl fG)), ((ma 29), .inl (cI, 100, .inl fNS)), ((ma 31), .inl (cI, 100, .inl fTS))] := hD
          refine lv_aload_n hx hb d_DiscMakerModel_node_31 rfl (lv_at hl 0 rfl) ?_
          refine va_get (D := D) (ci := 11) (v := .int 1) (C := "DiscMakerModel") (T := F_DiscMakerModel) (N := 48) hx hb ht9 in_DiscMakerModel hown hK hP 0 rfl rfl 0 (by decide) (ht9 _ k1431) (fun _ h9 => h9) rfl d_DiscMakerModel_node_32 ?_
          refine lv_iconst (v := 1) hx hb d_DiscMakerModel_node_35 (by decide) ?_
          refine lv_icmp_ne (tgt := 41) hx hb d_DiscMakerModel_node_36 (by decide) (fun h_9 => absurd (by decide) h_9) (fun _ => ?_)
          refine lv_iconst (v := 0) hx hb d_DiscMakerModel_node_39 (by decide) ?_
          have hP9 := hP.sub (ws' := [(h0, .inr (11, MO ma 1 sv_length sv_nodes sv_many sv_directories sv_runsFrom sv_runs sv_read sv_wrong sv_isNamed sv_goes sv_goesSize sv_goesAt sv_targetParts sv_isRoot)), ((ma 21), .inl (cI, 100, .inl fA)), ((ma 22), .inl (cZ, 100, .inl fD)), ((ma 23), .inl (cI, 100, .inl fB)), ((ma 24), .inl (cI, 100, .inl fP)), ((ma 25), .inl (cI, 100, .inl fM)), ((ma 26), .inl (cI, 100, .inl fO)), ((ma 27), .inl (cI, 100, .inl fG)), ((ma 29), .inl (cI, 100, .inl fNS)), ((ma 31), .inl (cI, 100, .inl fTS))]) [0, 1, 2, 3, 4, 5, 6, 7, 8, 9] rfl
          have hD9 := hD.sub (ws' := [(h0, .inr (11, MO ma 1 sv_length sv_nodes sv_many sv_directories sv_runsFrom sv_runs sv_read sv_wrong sv_isNamed sv_goes sv_goesSize sv_goesAt sv_targetParts sv_isRoot)), ((ma 21), .inl (cI, 100, .inl fA)), ((ma 22), .inl (cZ, 100, .inl fD)), ((ma 23), .inl (cI, 100, .inl fB)), ((ma 24), .inl (cI, 100, .inl fP)), ((ma 25), .inl (cI, 100, .inl fM)), ((ma 26), .inl (cI, 100, .inl fO)), ((ma 27), .inl (cI, 100, .inl fG)), ((ma 29), .inl (cI, 100, .inl fNS)), ((ma 31), .inl (cI, 100, .inl fTS))]) [0, 1, 2, 3, 4, 5, 6, 7, 8, 9] (by decide +kernel) rfl
          exact W.iret (v := 0) hx hb hr (fun t ht hW => ⟨⟨0, 1, rfl, trivial, by rw [ht]; exact hP9, hD9⟩, hS.F ht⟩) hS.2.2 d_DiscMakerModel_node_40
        · skip
          have g20_36 : ¬ 8 < y.toInt := fun h8 => h_9 ((i_lt (by decide) rfl).mpr h8)
          refine lv_iconst (v := 0) hx hb d_DiscMakerModel_node_23 (by decide) ?_
          refine lv_goto (tgt := 28) hx hb d_DiscMakerModel_node_24 (by decide) ?_
          refine va_put (D := D) (ci := 11) (v := .int 0) (ty := .int) (C := "DiscMakerModel") (T := F_DiscMakerModel) (N := 48) hx hb ht9 in_DiscMakerModel t_DiscMakerModel t_DiscMakerModel_ok n_DiscMakerModel hown hK hP hD hS 0 rfl rfl 0 (by decide) (ht9 _ k1431) (fun _ h9 => h9) rfl (by decide +kernel) rfl rfl (Nat.le_of_ble_eq_true rfl) d_DiscMakerModel_node_28 (fun H locs hP hD hS => ?_)
          have hP : va_P D CL [(h0, .inr (11, MO ma 0 sv_length sv_nodes sv_many sv_directories sv_runsFrom sv_runs sv_read sv_wrong sv_isNamed sv_goes sv_goesSize sv_goesAt sv_targetParts sv_isRoot)), ((ma 21), .inl (cI, 100, .inl fA)), ((ma 22), .inl (cZ, 100, .inl fD)), ((ma 23), .inl (cI, 100, .inl fB)), ((ma 24), .inl (cI, 100, .inl fP)), ((ma 25), .inl (cI, 100, .inl fM)), ((ma 26), .inl (cI, 100, .inl fO)), ((ma 27), .inl (cI, 100, .inl fG)), ((ma 29), .inl (cI, 100, .inl fNS)), ((ma 31), .inl (cI, 100, .inl fTS))] H := hP
          have hD : va_D A [(h0, .inr (11, MO ma 0 sv_length sv_nodes sv_many sv_directories sv_runsFrom sv_runs sv_read sv_wrong sv_isNamed sv_goes sv_goesSize sv_goesAt sv_targetParts sv_isRoot)), ((ma 21), .inl (cI, 100, .inl fA)), ((ma 22), .inl (cZ, 100, .inl fD)), ((ma 23), .inl (cI, 100, .inl fB)), ((ma 24), .inl (cI, 100, .inl fP)), ((ma 25), .inl (cI, 100, .inl fM)), ((ma 26), .inl (cI, 100, .inl fO)), ((ma 27), .inl (cI, 100, .inl fG)), ((ma 29), .inl (cI, 100, .inl fNS)), ((ma 31), .inl (cI, 100, .inl fTS))] := hD
          refine lv_aload_n hx hb d_DiscMakerModel_node_31 rfl (lv_at hl 0 rfl) ?_
          refine va_get (D := D) (ci := 11) (v := .int 0) (C := "DiscMakerModel") (T := F_DiscMakerModel) (N := 48) hx hb ht9 in_DiscMakerModel hown hK hP 0 rfl rfl 0 (by decide) (ht9 _ k1431) (fun _ h9 => h9) rfl d_DiscMakerModel_node_32 ?_
          refine lv_iconst (v := 1) hx hb d_DiscMakerModel_node_35 (by decide) ?_
          refine lv_icmp_ne (tgt := 41) hx hb d_DiscMakerModel_node_36 (by decide) (fun _ => ?_) (fun h_9 => absurd h_9 (by decide))
          refine lv_iload_n hx hb d_DiscMakerModel_node_41 rfl (lv_at hl 2 rfl) ?_
          rcases (show y.toInt = 0 ∨ y.toInt = 1 ∨ y.toInt = 2 ∨ y.toInt = 3 ∨ y.toInt = 4 ∨ y.toInt = 5 ∨ y.toInt = 6 ∨ y.toInt = 7 ∨ (y.toInt < 0 ∨ 7 < y.toInt) by omega) with h_9 | h_9 | h_9 | h_9 | h_9 | h_9 | h_9 | h_9 | h_9
          · skip
            refine lv_tableIn (off := 46) (tgt := 88) hx hb d_DiscMakerModel_node_42 (by omega) (by omega) (by rw [h_9]; rfl) (by decide) ?_
            refine lv_aload_n hx hb d_DiscMakerModel_node_88 rfl (lv_at hl 0 rfl) ?_
            refine va_get (D := D) (ci := 11) (v := .ref (ma 21)) (C := "DiscMakerModel") (T := F_DiscMakerModel) (N := 48) hx hb ht9 in_DiscMakerModel hown hK hP 0 rfl rfl 29 (by decide) (ht9 _ k1460) (fun _ h9 => h9) rfl d_DiscMakerModel_node_89 ?_
            refine lv_iload_n hx hb d_DiscMakerModel_node_92 rfl (lv_at hl 1 rfl) ?_
            refine va_iald hx hb hK hP 1 1 rfl rfl (vp_in_iff.mpr ⟨by omega, by omega⟩) d_DiscMakerModel_node_93 ?_
            refine lv_topi (fun v1 e_v1 => ?_)
            have hP9 := hP.sub (ws' := [(h0, .inr (11, MO ma 0 sv_length sv_nodes sv_many sv_directories sv_runsFrom sv_runs sv_read sv_wrong sv_isNamed sv_goes sv_goesSize sv_goesAt sv_targetParts sv_isRoot)), ((ma 21), .inl (cI, 100, .inl fA)), ((ma 22), .inl (cZ, 100, .inl fD)), ((ma 23), .inl (cI, 100, .inl fB)), ((ma 24), .inl (cI, 100, .inl fP)), ((ma 25), .inl (cI, 100, .inl fM)), ((ma 26), .inl (cI, 100, .inl fO)), ((ma 27), .inl (cI, 100, .inl fG)), ((ma 29), .inl (cI, 100, .inl fNS)), ((ma 31), .inl (cI, 100, .inl fTS))]) [0, 1, 2, 3, 4, 5, 6, 7, 8, 9] rfl
            have hD9 := hD.sub (ws' := [(h0, .inr (11, MO ma 0 sv_length sv_nodes sv_many sv_directories sv_runsFrom sv_runs sv_read sv_wrong sv_isNamed sv_goes sv_goesSize sv_goesAt sv_targetParts sv_isRoot)), ((ma 21), .inl (cI, 100, .inl fA)), ((ma 22), .inl (cZ, 100, .inl fD)), ((ma 23), .inl (cI, 100, .inl fB)), ((ma 24), .inl (cI, 100, .inl fP)), ((ma 25), .inl (cI, 100, .inl fM)), ((ma 26), .inl (cI, 100, .inl fO)), ((ma 27), .inl (cI, 100, .inl fG)), ((ma 29), .inl (cI, 100, .inl fNS)), ((ma 31), .inl (cI, 100, .inl fTS))]) [0, 1, 2, 3, 4, 5, 6, 7, 8, 9] (by decide +kernel) rfl
            exact W.iret (v := v1) hx hb hr (fun t ht hW => ⟨⟨v1, 0, rfl, trivial, by rw [ht]; exact hP9, hD9⟩, hS.F ht⟩) hS.2.2 d_DiscMakerModel_node_94
          · skip
            refine lv_tableIn (off := 53) (tgt := 95) hx hb d_DiscMakerModel_node_42 (by omega) (by omega) (by rw [h_9]; rfl) (by decide) ?_
            refine lv_aload_n hx hb d_DiscMakerModel_node_95 rfl (lv_at hl 0 rfl) ?_
            refine lv_iload_n hx hb d_DiscMakerModel_node_96 rfl (lv_at hl 1 rfl) ?_
            have hPc := hP.sub (ws' := [(h0, .inr (11, MO ma 0 sv_length sv_nodes sv_many sv_directories sv_runsFrom sv_runs sv_read sv_wrong sv_isNamed sv_goes sv_goesSize sv_goesAt sv_targetParts sv_isRoot)), ((ma 22), .inl (cZ, 100, .inl fD)), ((ma 25), .inl (cI, 100, .inl fM))]) [0, 2, 5] rfl
            have hDc := hD.sub (ws' := [(h0, .inr (11, MO ma 0 sv_length sv_nodes sv_many sv_directories sv_runsFrom sv_runs sv_read sv_wrong sv_isNamed sv_goes sv_goesSize sv_goesAt sv_targetParts sv_isRoot)), ((ma 22), .inl (cZ, 100, .inl fD)), ((ma 25), .inl (cI, 100, .inl fM))]) [0, 2, 5] (by decide +kernel) rfl
            have hFc := va_free (wc := [(h0, .inr (11, MO ma 0 sv_length sv_nodes sv_many sv_directories sv_runsFrom sv_runs sv_read sv_wrong sv_isNamed sv_goes sv_goesSize sv_goesAt sv_targetParts sv_isRoot)), ((ma 22), .inl (cZ, 100, .inl fD)), ((ma 25), .inl (cI, 100, .inl fM))]) hD hS hA [0, 2, 5] rfl
            have hkc : 0 ≤ 0 := by decide
            have hks : 0 ≤ 0 := by decide
            refine va_calli (va_runV (C := "DiscMakerModel") (As := [.int x]) (rest := []) ⟨hx, hb, hml, hown, hts⟩ (m_sortOf l D cB cI cJ cZ cN cF H.size h0 ma 0 sv_length sv_nodes sv_many sv_directories sv_runsFrom sv_runs sv_read sv_wrong sv_isNamed sv_goes sv_goesSize sv_goesAt sv_targetParts sv_isRoot fD fM x (by (try dsimp only); first | assumption | omega | trivial)) (cwV 1 hts (lg_goodV k1898 k1900 k113 k125 kc_DiscMakerModel_sortOf) rfl rfl rfl (by decide +kernel) ⟨Nat.le_of_ble_eq_true rfl, Nat.le_of_ble_eq_true rfl⟩) ⟨fun a U g mk q => by obtain ⟨q0, q1, qP, qK, qN, qD⟩ := q; exact ⟨q0, q1, qP, va_K.moved (u := U) (U := U.calling g mk a) (Vm.Alike.refl U.vm) qK, qN.calling, qD⟩, va_recv hK hP (ci := 11) (q0 := 0) rfl rfl, fun U hU hW => ⟨rfl, by rw [hU], by rw [hU]; exact hPc, va_K.moved hW.alike hK, NN.warm hW hN, hDc.weaken (fun _ _ _ _ => trivial)⟩⟩ rfl rfl hl.1 rfl (lv_room (Nat.le_of_ble_eq_true rfl)) d_DiscMakerModel_node_97 ⟨hkc, hks⟩) hS (fun q _ h => hFc q h) hFc (fun r2 u t H1 locs ht hvm hp_r2 hB hz1 hk1 hS => ?_)
            obtain ⟨hP1, hD1⟩ := hB
            rw [ht] at hP1
            obtain ⟨hP, hD⟩ := va_join (wr := [((ma 21), .inl (cI, 100, .inl fA)), ((ma 23), .inl (cI, 100, .inl fB)), ((ma 24), .inl (cI, 100, .inl fP)), ((ma 26), .inl (cI, 100, .inl fO)), ((ma 27), .inl (cI, 100, .inl fG)), ((ma 29), .inl (cI, 100, .inl fNS)), ((ma 31), .inl (cI, 100, .inl fTS))]) (w1 := [(h0, .inr (11, MO ma 0 sv_length sv_nodes sv_many sv_directories sv_runsFrom sv_runs sv_read sv_wrong sv_isNamed sv_goes sv_goesSize sv_goesAt sv_targetParts sv_isRoot)), ((ma 22), .inl (cZ, 100, .inl fD)), ((ma 25), .inl (cI, 100, .inl fM))]) hP hD [0, 2, 5] [1, 3, 4, 6, 7, 8, 9] rfl rfl (by decide +kernel) (by decide +kernel) hk1 hFc hP1 hD1
            clear hPc hDc hFc hP1 hD1 hk1 hz1 hkc hks
            generalize H1 = H at hP hS ⊢
            have hP : va_P D CL [((ma 21), .inl (cI, 100, .inl fA)), ((ma 23), .inl (cI, 100, .inl fB)), ((ma 24), .inl (cI, 100, .inl fP)), ((ma 26), .inl (cI, 100, .inl fO)), ((ma 27), .inl (cI, 100, .inl fG)), ((ma 29), .inl (cI, 100, .inl fNS)), ((ma 31), .inl (cI, 100, .inl fTS)), (h0, .inr (11, MO ma 0 sv_length sv_nodes sv_many sv_directories sv_runsFrom sv_runs sv_read sv_wrong sv_isNamed sv_goes sv_goesSize sv_goesAt sv_targetParts sv_isRoot)), ((ma 22), .inl (cZ, 100, .inl fD)), ((ma 25), .inl (cI, 100, .inl fM))] H := hP
            have hD : va_D A [((ma 21), .inl (cI, 100, .inl fA)), ((ma 23), .inl (cI, 100, .inl fB)), ((ma 24), .inl (cI, 100, .inl fP)), ((ma 26), .inl (cI, 100, .inl fO)), ((ma 27), .inl (cI, 100, .inl fG)), ((ma 29), .inl (cI, 100, .inl fNS)), ((ma 31), .inl (cI, 100, .inl fTS)), (h0, .inr (11, MO ma 0 sv_length sv_nodes sv_many sv_directories sv_runsFrom sv_runs sv_read sv_wrong sv_isNamed sv_goes sv_goesSize sv_goesAt sv_targetParts sv_isRoot)), ((ma 22), .inl (cZ, 100, .inl fD)), ((ma 25), .inl (cI, 100, .inl fM))] := hD
            try dsimp only at hp_r2
            have hr_3 := hp_r2
            have hP9 := hP.sub (ws' := [(h0, .inr (11, MO ma 0 sv_length sv_nodes sv_many sv_directories sv_runsFrom sv_runs sv_read sv_wrong sv_isNamed sv_goes sv_goesSize sv_goesAt sv_targetParts sv_isRoot)), ((ma 21), .inl (cI, 100, .inl fA)), ((ma 22), .inl (cZ, 100, .inl fD)), ((ma 23), .inl (cI, 100, .inl fB)), ((ma 24), .inl (cI, 100, .inl fP)), ((ma 25), .inl (cI, 100, .inl fM)), ((ma 26), .inl (cI, 100, .inl fO)), ((ma 27), .inl (cI, 100, .inl fG)), ((ma 29), .inl (cI, 100, .inl fNS)), ((ma 31), .inl (cI, 100, .inl fTS))]) [7, 0, 8, 1, 2, 9, 3, 4, 5, 6] rfl
            have hD9 := hD.sub (ws' := [(h0, .inr (11, MO ma 0 sv_length sv_nodes sv_many sv_directories sv_runsFrom sv_runs sv_read sv_wrong sv_isNamed sv_goes sv_goesSize sv_goesAt sv_targetParts sv_isRoot)), ((ma 21), .inl (cI, 100, .inl fA)), ((ma 22), .inl (cZ, 100, .inl fD)), ((ma 23), .inl (cI, 100, .inl fB)), ((ma 24), .inl (cI, 100, .inl fP)), ((ma 25), .inl (cI, 100, .inl fM)), ((ma 26), .inl (cI, 100, .inl fO)), ((ma 27), .inl (cI, 100, .inl fG)), ((ma 29), .inl (cI, 100, .inl fNS)), ((ma 31), .inl (cI, 100, .inl fTS))]) [7, 0, 8, 1, 2, 9, 3, 4, 5, 6] (by decide +kernel) rfl
            exact W.iret (v := r2) hx hb hr (fun t ht hW => ⟨⟨r2, 0, rfl, trivial, by rw [ht]; exact hP9, hD9⟩, hS.F ht⟩) hS.2.2 d_DiscMakerModel_node_100
          · skip
            refine lv_tableIn (off := 59) (tgt := 101) hx hb d_DiscMakerModel_node_42 (by omega) (by omega) (by rw [h_9]; rfl) (by decide) ?_
            refine lv_aload_n hx hb d_DiscMakerModel_node_101 rfl (lv_at hl 0 rfl) ?_
            refine va_get (D := D) (ci := 11) (v := .ref (ma 23)) (C := "DiscMakerModel") (T := F_DiscMakerModel) (N := 48) hx hb ht9 in_DiscMakerModel hown hK hP 0 rfl rfl 31 (by decide) (ht9 _ k1462) (fun _ h9 => h9) rfl d_DiscMakerModel_node_102 ?_
            refine lv_iload_n hx hb d_DiscMakerModel_node_105 rfl (lv_at hl 1 rfl) ?_
            refine va_iald hx hb hK hP 3 1 rfl rfl (vp_in_iff.mpr ⟨by omega, by omega⟩) d_DiscMakerModel_node_106 ?_
            refine lv_topi (fun v4 e_v4 => ?_)
            have hP9 := hP.sub (ws' := [(h0, .inr (11, MO ma 0 sv_length sv_nodes sv_many sv_directories sv_runsFrom sv_runs sv_read sv_wrong sv_isNamed sv_goes sv_goesSize sv_goesAt sv_targetParts sv_isRoot)), ((ma 21), .inl (cI, 100, .inl fA)), ((ma 22), .inl (cZ, 100, .inl fD)), ((ma 23), .inl (cI, 100, .inl fB)), ((ma 24), .inl (cI, 100, .inl fP)), ((ma 25), .inl (cI, 100, .inl fM)), ((ma 26), .inl (cI, 100, .inl fO)), ((ma 27), .inl (cI, 100, .inl fG)), ((ma 29), .inl (cI, 100, .inl fNS)), ((ma 31), .inl (cI, 100, .inl fTS))]) [0, 1, 2, 3, 4, 5, 6, 7, 8, 9] rfl
            have hD9 := hD.sub (ws' := [(h0, .inr (11, MO ma 0 sv_length sv_nodes sv_many sv_directories sv_runsFrom sv_runs sv_read sv_wrong sv_isNamed sv_goes sv_goesSize sv_goesAt sv_targetParts sv_isRoot)), ((ma 21), .inl (cI, 100, .inl fA)), ((ma 22), .inl (cZ, 100, .inl fD)), ((ma 23), .inl (cI, 100, .inl fB)), ((ma 24), .inl (cI, 100, .inl fP)), ((ma 25), .inl (cI, 100, .inl fM)), ((ma 26), .inl (cI, 100, .inl fO)), ((ma 27), .inl (cI, 100, .inl fG)), ((ma 29), .inl (cI, 100, .inl fNS)), ((ma 31), .inl (cI, 100, .inl fTS))]) [0, 1, 2, 3, 4, 5, 6, 7, 8, 9] (by decide +kernel) rfl
            exact W.iret (v := v4) hx hb hr (fun t ht hW => ⟨⟨v4, 0, rfl, trivial, by rw [ht]; exact hP9, hD9⟩, hS.F ht⟩) hS.2.2 d_DiscMakerModel_node_107
          · skip
            refine lv_tableIn (off := 66) (tgt := 108) hx hb d_DiscMakerModel_node_42 (by omega) (by omega) (by rw [h_9]; rfl) (by decide) ?_
            refine lv_aload_n hx hb d_DiscMakerModel_node_108 rfl (lv_at hl 0 rfl) ?_
            refine va_get (D := D) (ci := 11) (v := .ref (ma 24)) (C := "DiscMakerModel") (T := F_DiscMakerModel) (N := 48) hx hb ht9 in_DiscMakerModel hown hK hP 0 rfl rfl 32 (by decide) (ht9 _ k1463) (fun _ h9 => h9) rfl d_DiscMakerModel_node_109 ?_
            refine lv_iload_n hx hb d_DiscMakerModel_node_112 rfl (lv_at hl 1 rfl) ?_
            refine va_iald hx hb hK hP 4 1 rfl rfl (vp_in_iff.mpr ⟨by omega, by omega⟩) d_DiscMakerModel_node_113 ?_
            refine lv_topi (fun v5 e_v5 => ?_)
            have hP9 := hP.sub (ws' := [(h0, .inr (11, MO ma 0 sv_length sv_nodes sv_many sv_directories sv_runsFrom sv_runs sv_read sv_wrong sv_isNamed sv_goes sv_goesSize sv_goesAt sv_targetParts sv_isRoot)), ((ma 21), .inl (cI, 100, .inl fA)), ((ma 22), .inl (cZ, 100, .inl fD)), ((ma 23), .inl (cI, 100, .inl fB)), ((ma 24), .inl (cI, 100, .inl fP)), ((ma 25), .inl (cI, 100, .inl fM)), ((ma 26), .inl (cI, 100, .inl fO)), ((ma 27), .inl (cI, 100, .inl fG)), ((ma 29), .inl (cI, 100, .inl fNS)), ((ma 31), .inl (cI, 100, .inl fTS))]) [0, 1, 2, 3, 4, 5, 6, 7, 8, 9] rfl
            have hD9 := hD.sub (ws' := [(h0, .inr (11, MO ma 0 sv_length sv_nodes sv_many sv_directories sv_runsFrom sv_runs sv_read sv_wrong sv_isNamed sv_goes sv_goesSize sv_goesAt sv_targetParts sv_isRoot)), ((ma 21), .inl (cI, 100, .inl fA)), ((ma 22), .inl (cZ, 100, .inl fD)), ((ma 23), .inl (cI, 100, .inl fB)), ((ma 24), .inl (cI, 100, .inl fP)), ((ma 25), .inl (cI, 100, .inl fM)), ((ma 26), .inl (cI, 100, .inl fO)), ((ma 27), .inl (cI, 100, .inl fG)), ((ma 29), .inl (cI, 100, .inl fNS)), ((ma 31), .inl (cI, 100, .inl fTS))]) [0, 1, 2, 3, 4, 5, 6, 7, 8, 9] (by decide +kernel) rfl
            exact W.iret (v := v5) hx hb hr (fun t ht hW => ⟨⟨v5, 0, rfl, trivial, by rw [ht]; exact hP9, hD9⟩, hS.F ht⟩) hS.2.2 d_DiscMakerModel_node_114
          · skip
            refine lv_tableIn (off := 73) (tgt := 115) hx hb d_DiscMakerModel_node_42 (by omega) (by omega) (by rw [h_9]; rfl) (by decide) ?_
            refine lv_aload_n hx hb d_DiscMakerModel_node_115 rfl (lv_at hl 0 rfl) ?_
            refine va_get (D := D) (ci := 11) (v := .ref (ma 25)) (C := "DiscMakerModel") (T := F_DiscMakerModel) (N := 48) hx hb ht9 in_DiscMakerModel hown hK hP 0 rfl rfl 33 (by decide) (ht9 _ k1464) (fun _ h9 => h9) rfl d_DiscMakerModel_node_116 ?_
            refine lv_iload_n hx hb d_DiscMakerModel_node_119 rfl (lv_at hl 1 rfl) ?_
            refine va_iald hx hb hK hP 5 1 rfl rfl (vp_in_iff.mpr ⟨by omega, by omega⟩) d_DiscMakerModel_node_120 ?_
            refine lv_topi (fun v6 e_v6 => ?_)
            have hP9 := hP.sub (ws' := [(h0, .inr (11, MO ma 0 sv_length sv_nodes sv_many sv_directories sv_runsFrom sv_runs sv_read sv_wrong sv_isNamed sv_goes sv_goesSize sv_goesAt sv_targetParts sv_isRoot)), ((ma 21), .inl (cI, 100, .inl fA)), ((ma 22), .inl (cZ, 100, .inl fD)), ((ma 23), .inl (cI, 100, .inl fB)), ((ma 24), .inl (cI, 100, .inl fP)), ((ma 25), .inl (cI, 100, .inl fM)), ((ma 26), .inl (cI, 100, .inl fO)), ((ma 27), .inl (cI, 100, .inl fG)), ((ma 29), .inl (cI, 100, .inl fNS)), ((ma 31), .inl (cI, 100, .inl fTS))]) [0, 1, 2, 3, 4, 5, 6, 7, 8, 9] rfl
            have hD9 := hD.sub (ws' := [(h0, .inr (11, MO ma 0 sv_length sv_nodes sv_many sv_directories sv_runsFrom sv_runs sv_read sv_wrong sv_isNamed sv_goes sv_goesSize sv_goesAt sv_targetParts sv_isRoot)), ((ma 21), .inl (cI, 100, .inl fA)), ((ma 22), .inl (cZ, 100, .inl fD)), ((ma 23), .inl (cI, 100, .inl fB)), ((ma 24), .inl (cI, 100, .inl fP)), ((ma 25), .inl (cI, 100, .inl fM)), ((ma 26), .inl (cI, 100, .inl fO)), ((ma 27), .inl (cI, 100, .inl fG)), ((ma 29), .inl (cI, 100, .inl fNS)), ((ma 31), .inl (cI, 100, .inl fTS))]) [0, 1, 2, 3, 4, 5, 6, 7, 8, 9] (by decide +kernel) rfl
            exact W.iret (v := v6) hx hb hr (fun t ht hW => ⟨⟨v6, 0, rfl, trivial, by rw [ht]; exact hP9, hD9⟩, hS.F ht⟩) hS.2.2 d_DiscMakerModel_node_121
          · skip
            refine lv_tableIn (off := 80) (tgt := 122) hx hb d_DiscMakerModel_node_42 (by omega) (by omega) (by rw [h_9]; rfl) (by decide) ?_
            refine lv_aload_n hx hb d_DiscMakerModel_node_122 rfl (lv_at hl 0 rfl) ?_
            refine va_get (D := D) (ci := 11) (v := .ref (ma 26)) (C := "DiscMakerModel") (T := F_DiscMakerModel) (N := 48) hx hb ht9 in_DiscMakerModel hown hK hP 0 rfl rfl 34 (by decide) (ht9 _ k1465) (fun _ h9 => h9) rfl d_DiscMakerModel_node_123 ?_
            refine lv_iload_n hx hb d_DiscMakerModel_node_126 rfl (lv_at hl 1 rfl) ?_
            refine va_iald hx hb hK hP 6 1 rfl rfl (vp_in_iff.mpr ⟨by omega, by omega⟩) d_DiscMakerModel_node_127 ?_
            refine lv_topi (fun v7 e_v7 => ?_)
            have hP9 := hP.sub (ws' := [(h0, .inr (11, MO ma 0 sv_length sv_nodes sv_many sv_directories sv_runsFrom sv_runs sv_read sv_wrong sv_isNamed sv_goes sv_goesSize sv_goesAt sv_targetParts sv_isRoot)), ((ma 21), .inl (cI, 100, .inl fA)), ((ma 22), .inl (cZ, 100, .inl fD)), ((ma 23), .inl (cI, 100, .inl fB)), ((ma 24), .inl (cI, 100, .inl fP)), ((ma 25), .inl (cI, 100, .inl fM)), ((ma 26), .inl (cI, 100, .inl fO)), ((ma 27), .inl (cI, 100, .inl fG)), ((ma 29), .inl (cI, 100, .inl fNS)), ((ma 31), .inl (cI, 100, .inl fTS))]) [0, 1, 2, 3, 4, 5, 6, 7, 8, 9] rfl
            have hD9 := hD.sub (ws' := [(h0, .inr (11, MO ma 0 sv_length sv_nodes sv_many sv_directories sv_runsFrom sv_runs sv_read sv_wrong sv_isNamed sv_goes sv_goesSize sv_goesAt sv_targetParts sv_isRoot)), ((ma 21), .inl (cI, 100, .inl fA)), ((ma 22), .inl (cZ, 100, .inl fD)), ((ma 23), .inl (cI, 100, .inl fB)), ((ma 24), .inl (cI, 100, .inl fP)), ((ma 25), .inl (cI, 100, .inl fM)), ((ma 26), .inl (cI, 100, .inl fO)), ((ma 27), .inl (cI, 100, .inl fG)), ((ma 29), .inl (cI, 100, .inl fNS)), ((ma 31), .inl (cI, 100, .inl fTS))]) [0, 1, 2, 3, 4, 5, 6, 7, 8, 9] (by decide +kernel) rfl
            exact W.iret (v := v7) hx hb hr (fun t ht hW => ⟨⟨v7, 0, rfl, trivial, by rw [ht]; exact hP9, hD9⟩, hS.F ht⟩) hS.2.2 d_DiscMakerModel_node_128
          · skip
            refine lv_tableIn (off := 87) (tgt := 129) hx hb d_DiscMakerModel_node_42 (by omega) (by omega) (by rw [h_9]; rfl) (by decide) ?_
            refine lv_aload_n hx hb d_DiscMakerModel_node_129 rfl (lv_at hl 0 rfl) ?_
            refine va_get (D := D) (ci := 11) (v := .ref (ma 27)) (C := "DiscMakerModel") (T := F_DiscMakerModel) (N := 48) hx hb ht9 in_DiscMakerModel hown hK hP 0 rfl rfl 35 (by decide) (ht9 _ k1466) (fun _ h9 => h9) rfl d_DiscMakerModel_node_130 ?_
            refine lv_iload_n hx hb d_DiscMakerModel_node_133 rfl (lv_at hl 1 rfl) ?_
            refine va_iald hx hb hK hP 7 1 rfl rfl (vp_in_iff.mpr ⟨by omega, by omega⟩) d_DiscMakerModel_node_134 ?_
            refine lv_topi (fun v8 e_v8 => ?_)
            have hP9 := hP.sub (ws' := [(h0, .inr (11, MO ma 0 sv_length sv_nodes sv_many sv_directories sv_runsFrom sv_runs sv_read sv_wrong sv_isNamed sv_goes sv_goesSize sv_goesAt sv_targetParts sv_isRoot)), ((ma 21), .inl (cI, 100, .inl fA)), ((ma 22), .inl (cZ, 100, .inl fD)), ((ma 23), .inl (cI, 100, .inl fB)), ((ma 24), .inl (cI, 100, .inl fP)), ((ma 25), .inl (cI, 100, .inl fM)), ((ma 26), .inl (cI, 100, .inl fO)), ((ma 27), .inl (cI, 100, .inl fG)), ((ma 29), .inl (cI, 100, .inl fNS)), ((ma 31), .inl (cI, 100, .inl fTS))]) [0, 1, 2, 3, 4, 5, 6, 7, 8, 9] rfl
            have hD9 := hD.sub (ws' := [(h0, .inr (11, MO ma 0 sv_length sv_nodes sv_many sv_directories sv_runsFrom sv_runs sv_read sv_wrong sv_isNamed sv_goes sv_goesSize sv_goesAt sv_targetParts sv_isRoot)), ((ma 21), .inl (cI, 100, .inl fA)), ((ma 22), .inl (cZ, 100, .inl fD)), ((ma 23), .inl (cI, 100, .inl fB)), ((ma 24), .inl (cI, 100, .inl fP)), ((ma 25), .inl (cI, 100, .inl fM)), ((ma 26), .inl (cI, 100, .inl fO)), ((ma 27), .inl (cI, 100, .inl fG)), ((ma 29), .inl (cI, 100, .inl fNS)), ((ma 31), .inl (cI, 100, .inl fTS))]) [0, 1, 2, 3, 4, 5, 6, 7, 8, 9] (by decide +kernel) rfl
            exact W.iret (v := v8) hx hb hr (fun t ht hW => ⟨⟨v8, 0, rfl, trivial, by rw [ht]; exact hP9, hD9⟩, hS.F ht⟩) hS.2.2 d_DiscMakerModel_node_135
          · skip
            refine lv_tableIn (off := 94) (tgt := 136) hx hb d_DiscMakerModel_node_42 (by omega) (by omega) (by rw [h_9]; rfl) (by decide) ?_
            refine lv_aload_n hx hb d_DiscMakerModel_node_136 rfl (lv_at hl 0 rfl) ?_
            refine va_get (D := D) (ci := 11) (v := .ref (ma 29)) (C := "DiscMakerModel") (T := F_DiscMakerModel) (N := 48) hx hb ht9 in_DiscMakerModel hown hK hP 0 rfl rfl 37 (by decide) (ht9 _ k1468) (fun _ h9 => h9) rfl d_DiscMakerModel_node_137 ?_
            refine lv_iload_n hx hb d_DiscMakerModel_node_140 rfl (lv_at hl 1 rfl) ?_
            refine va_iald hx hb hK hP 8 1 rfl rfl (vp_in_iff.mpr ⟨by omega, by omega⟩) d_DiscMakerModel_node_141 ?_
            refine lv_topi (fun v9 e_v9 => ?_)
            have hP9 := hP.sub (ws' := [(h0, .inr (11, MO ma 0 sv_length sv_nodes sv_many sv_directories sv_runsFrom sv_runs sv_read sv_wrong sv_isNamed sv_goes sv_goesSize sv_goesAt sv_targetParts sv_isRoot)), ((ma 21), .inl (cI, 100, .inl fA)), ((ma 22), .inl (cZ, 100, .inl fD)), ((ma 23), .inl (cI, 100, .inl fB)), ((ma 24), .inl (cI, 100, .inl fP)), ((ma 25), .inl (cI, 100, .inl fM)), ((ma 26), .inl (cI, 100, .inl fO)), ((ma 27), .inl (cI, 100, .inl fG)), ((ma 29), .inl (cI, 100, .inl fNS)), ((ma 31), .inl (cI, 100, .inl fTS))]) [0, 1, 2, 3, 4, 5, 6, 7, 8, 9] rfl
            have hD9 := hD.sub (ws' := [(h0, .inr (11, MO ma 0 sv_length sv_nodes sv_many sv_directories sv_runsFrom sv_runs sv_read sv_wrong sv_isNamed sv_goes sv_goesSize sv_goesAt sv_targetParts sv_isRoot)), ((ma 21), .inl (cI, 100, .inl fA)), ((ma 22), .inl (cZ, 100, .inl fD)), ((ma 23), .inl (cI, 100, .inl fB)), ((ma 24), .inl (cI, 100, .inl fP)), ((ma 25), .inl (cI, 100, .inl fM)), ((ma 26), .inl (cI, 100, .inl fO)), ((ma 27), .inl (cI, 100, .inl fG)), ((ma 29), .inl (cI, 100, .inl fNS)), ((ma 31), .inl (cI, 100, .inl fTS))]) [0, 1, 2, 3, 4, 5, 6, 7, 8, 9] (by decide +kernel) rfl
            exact W.iret (v := v9) hx hb hr (fun t ht hW => ⟨⟨v9, 0, rfl, trivial, by rw [ht]; exact hP9, hD9⟩, hS.F ht⟩) hS.2.2 d_DiscMakerModel_node_142
          · skip
            refine lv_tableOut (tgt := 143) hx hb d_DiscMakerModel_node_42 h_9 (by decide) ?_
            refine lv_aload_n hx hb d_DiscMakerModel_node_143 rfl (lv_at hl 0 rfl) ?_
            refine va_get (D := D) (ci := 11) (v := .ref (ma 31)) (C := "DiscMakerModel") (T := F_DiscMakerModel) (N := 48) hx hb ht9 in_DiscMakerModel hown hK hP 0 rfl rfl 39 (by decide) (ht9 _ k1470) (fun _ h9 => h9) rfl d_DiscMakerModel_node_144 ?_
            refine lv_iload_n hx hb d_DiscMakerModel_node_147 rfl (lv_at hl 1 rfl) ?_
            refine va_iald hx hb hK hP 9 1 rfl rfl (vp_in_iff.mpr ⟨by omega, by omega⟩) d_DiscMakerModel_node_148 ?_
            refine lv_topi (fun v10 e_v10 => ?_)
            have hP9 := hP.sub (ws' := [(h0, .inr (11, MO ma 0 sv_length sv_nodes sv_many sv_directories sv_runsFrom sv_runs sv_read sv_wrong sv_isNamed sv_goes sv_goesSize sv_goesAt sv_targetParts sv_isRoot)), ((ma 21), .inl (cI, 100, .inl fA)), ((ma 22), .inl (cZ, 100, .inl fD)), ((ma 23), .inl (cI, 100, .inl fB)), ((ma 24), .inl (cI, 100, .inl fP)), ((ma 25), .inl (cI, 100, .inl fM)), ((ma 26), .inl (cI, 100, .inl fO)), ((ma 27), .inl (cI, 100, .inl fG)), ((ma 29), .inl (cI, 100, .inl fNS)), ((ma 31), .inl (cI, 100, .inl fTS))]) [0, 1, 2, 3, 4, 5, 6, 7, 8, 9] rfl
            have hD9 := hD.sub (ws' := [(h0, .inr (11, MO ma 0 sv_length sv_nodes sv_many sv_directories sv_runsFrom sv_runs sv_read sv_wrong sv_isNamed sv_goes sv_goesSize sv_goesAt sv_targetParts sv_isRoot)), ((ma 21), .inl (cI, 100, .inl fA)), ((ma 22), .inl (cZ, 100, .inl fD)), ((ma 23), .inl (cI, 100, .inl fB)), ((ma 24), .inl (cI, 100, .inl fP)), ((ma 25), .inl (cI, 100, .inl fM)), ((ma 26), .inl (cI, 100, .inl fO)), ((ma 27), .inl (cI, 100, .inl fG)), ((ma 29), .inl (cI, 100, .inl fNS)), ((ma 31), .inl (cI, 100, .inl fTS))]) [0, 1, 2, 3, 4, 5, 6, 7, 8, 9] (by decide +kernel) rfl
            exact W.iret (v := v10) hx hb hr (fun t ht hW => ⟨⟨v10, 0, rfl, trivial, by rw [ht]; exact hP9, hD9⟩, hS.F ht⟩) hS.2.2 d_DiscMakerModel_node_149

theorem d_DiscMakerModel_name_0 : decode b_DiscMakerModel_name 0 = .ok (.aload_n 0, 1) := by decide +kernel
theorem d_DiscMakerModel_name_1 : decode b_DiscMakerModel_name 1 = .ok (.iload_n 1, 1) := by decide +kernel
theorem d_DiscMakerModel_name_2 : decode b_DiscMakerModel_name 2 = .ok (.ifCond .lt 29, 3) := by decide +kernel
theorem d_DiscMakerModel_name_5 : decode b_DiscMakerModel_name 5 = .ok (.iload_n 1, 1) := by decide +kernel
theorem d_DiscMakerModel_name_6 : decode b_DiscMakerModel_name 6 = .ok (.aload_n 0, 1) := by decide +kernel
theorem d_DiscMakerModel_name_7 : decode b_DiscMakerModel_name 7 = .ok (.getfield 323, 3) := by decide +kernel
theorem d_DiscMakerModel_name_10 : decode b_DiscMakerModel_name 10 = .ok (.if_icmp .ge 21, 3) := by decide +kernel
theorem d_DiscMakerModel_name_13 : decode b_DiscMakerModel_name 13 = .ok (.iload_n 2, 1) := by decide +kernel
theorem d_DiscMakerModel_name_14 : decode b_DiscMakerModel_name 14 = .ok (.ifCond .lt 17, 3) := by decide +kernel
theorem d_DiscMakerModel_name_17 : decode b_DiscMakerModel_name 17 = .ok (.iload_n 2, 1) := by decide +kernel
theorem d_DiscMakerModel_name_18 : decode b_DiscMakerModel_name 18 = .ok (.aload_n 0, 1) := by decide +kernel
theorem d_DiscMakerModel_name_19 : decode b_DiscMakerModel_name 19 = .ok (.getfield 101, 3) := by decide +kernel
theorem d_DiscMakerModel_name_22 : decode b_DiscMakerModel_name 22 = .ok (.iload_n 1, 1) := by decide +kernel
theorem d_DiscMakerModel_name_23 : decode b_DiscMakerModel_name 23 = .ok (.iaload, 1) := by decide +kernel
theorem d_DiscMakerModel_name_24 : decode b_DiscMakerModel_name 24 = .ok (.if_icmp .ge 7, 3) := by decide +kernel
theorem d_DiscMakerModel_name_27 : decode b_DiscMakerModel_name 27 = .ok (.iconst 0, 1) := by decide +kernel
theorem d_DiscMakerModel_name_28 : decode b_DiscMakerModel_name 28 = .ok (.goto 4, 3) := by decide +kernel
theorem d_DiscMakerModel_name_31 : decode b_DiscMakerModel_name 31 = .ok (.iconst 1, 1) := by decide +kernel
theorem d_DiscMakerModel_name_32 : decode b_DiscMakerModel_name 32 = .ok (.putfield 118, 3) := by decide +kernel
theorem d_DiscMakerModel_name_35 : decode b_DiscMakerModel_name 35 = .ok (.aload_n 0, 1) := by decide +kernel
theorem d_DiscMakerModel_name_36 : decode b_DiscMakerModel_name 36 = .ok (.getfield 118, 3) := by decide +kernel
theorem d_DiscMakerModel_name_39 : decode b_DiscMakerModel_name 39 = .ok (.iconst 1, 1) := by decide +kernel
theorem d_DiscMakerModel_name_40 : decode b_DiscMakerModel_name 40 = .ok (.if_icmp .ne 7, 3) := by decide +kernel
theorem d_DiscMakerModel_name_43 : decode b_DiscMakerModel_name 43 = .ok (.iconst 0, 1) := by decide +kernel
theorem d_DiscMakerModel_name_44 : decode b_DiscMakerModel_name 44 = .ok (.goto 18, 3) := by decide +kernel
theorem d_DiscMakerModel_name_47 : decode b_DiscMakerModel_name 47 = .ok (.aload_n 0, 1) := by decide +kernel
theorem d_DiscMakerModel_name_48 : decode b_DiscMakerModel_name 48 = .ok (.getfield 98, 3) := by decide +kernel
theorem d_DiscMakerModel_name_51 : decode b_DiscMakerModel_name 51 = .ok (.bipush 60, 2) := by decide +kernel
theorem d_DiscMakerModel_name_53 : decode b_DiscMakerModel_name 53 = .ok (.iload_n 1, 1) := by decide +kernel
theorem d_DiscMakerModel_name_54 : decode b_DiscMakerModel_name 54 = .ok (.imul, 1) := by decide +kernel
theorem d_DiscMakerModel_name_55 : decode b_DiscMakerModel_name 55 = .ok (.iload_n 2, 1) := by decide +kernel
theorem d_DiscMakerModel_name_56 : decode b_DiscMakerModel_name 56 = .ok (.iadd, 1) := by decide +kernel
theorem d_DiscMakerModel_name_57 : decode b_DiscMakerModel_name 57 = .ok (.baload, 1) := by decide +kernel
theorem d_DiscMakerModel_name_58 : decode b_DiscMakerModel_name 58 = .ok (.sipush 255, 3) := by decide +kernel
theorem d_DiscMakerModel_name_61 : decode b_DiscMakerModel_name 61 = .ok (.iand, 1) := by decide +kernel
theorem d_DiscMakerModel_name_62 : decode b_DiscMakerModel_name 62 = .ok (.ireturn, 1) := by decide +kernel
set_option maxHeartbeats 4000000 in
set_option maxRecDepth 100000 in
theorem m_name (l : Launch) (D : va_G) (cB cI cJ cZ cN cF : ClassId) (sz : Nat) (h0 : Nat) (ma : Nat → Nat) (sv_thrown sv_length sv_nodes sv_many sv_directories sv_runsFrom sv_runs sv_read sv_wrong sv_isNamed sv_goes sv_goesSize sv_goesAt sv_targetParts sv_isRoot : Int32) (fN : Nat → Int32) (fNS : Nat → Int32) (x : Int32) (y : Int32) (hrd : 0 ≤ sv_read.toInt ∧ sv_read.toInt ≤ 99) (hfNS : Rg 0 60 100 fNS) : Met l y_DiscMakerModel_name w_DiscMakerModel_name ({ frames := 0, cells := 0, slots := 0, locals := 0 }) (va_Pc [.ref h0, .int x, .int y] (fun U => U.heap.size = sz ∧ va_P D CL [(h0, .inr (11, MO ma sv_thrown sv_length sv_nodes sv_many sv_directories sv_runsFrom sv_runs sv_read sv_wrong sv_isNamed sv_goes sv_goesSize sv_goesAt sv_targetParts sv_isRoot)), ((ma 28), .inl (cB, 6000, .inl fN)), ((ma 29), .inl (cI, 100, .inl fNS))] U.heap ∧ va_K D CL (TY cB cI cJ cZ cN cF) U ∧ NN U ∧ va_D (fun _ => True) [(h0, .inr (11, MO ma sv_thrown sv_length sv_nodes sv_many sv_directories sv_runsFrom sv_runs sv_read sv_wrong sv_isNamed sv_goes sv_goesSize sv_goesAt sv_targetParts sv_isRoot)), ((ma 28), .inl (cB, 6000, .inl fN)), ((ma 29), .inl (cI, 100, .inl fNS))])) (va_Qi (fun (r : Int32) (u : Int32) => True) (fun (u : Int32) (t : State) => match u with | th => va_P D CL [(h0, .inr (11, MO ma th sv_length sv_nodes sv_many sv_directories sv_runsFrom sv_runs sv_read sv_wrong sv_isNamed sv_goes sv_goesSize sv_goesAt sv_targetParts sv_isRoot)), ((ma 28), .inl (cB, 6000, .inl fN)), ((ma 29), .inl (cI, 100, .inl fNS))] t.heap ∧ va_D (va_A [(h0, .inr (11, MO ma sv_thrown sv_length sv_nodes sv_many sv_directories sv_runsFrom sv_runs sv_read sv_wrong sv_isNamed sv_goes sv_goesSize sv_goesAt sv_targetParts sv_isRoot)), ((ma 28), .inl (cB, 6000, .inl fN)), ((ma 29), .inl (cI, 100, .inl fNS))] sz) [(h0, .inr (11, MO ma th sv_length sv_nodes sv_many sv_directories sv_runsFrom sv_runs sv_read sv_wrong sv_isNamed sv_goes sv_goesSize sv_goesAt sv_targetParts sv_isRoot)), ((ma 28), .inl (cB, 6000, .inl fN)), ((ma 29), .inl (cI, 100, .inl fNS))]) (va_A [(h0, .inr (11, MO ma sv_thrown sv_length sv_nodes sv_many sv_directories sv_runsFrom sv_runs sv_read sv_wrong sv_isNamed sv_goes sv_goesSize sv_goesAt sv_targetParts sv_isRoot)), ((ma 28), .inl (cB, 6000, .inl fN)), ((ma 29), .inl (cI, 100, .inl fNS))] sz)) 0 0 (va_A [(h0, .inr (11, MO ma sv_thrown sv_length sv_nodes sv_many sv_directories sv_runsFrom sv_runs sv_read sv_wrong sv_isNamed sv_goes sv_goesSize sv_goesAt sv_targetParts sv_isRoot)), ((ma 28), .inl (cB, 6000, .inl fN)), ((ma 29), .inl (cI, 100, .inl fNS))] sz) := by
  refine Met.ofW (cc := b_DiscMakerModel_name) (maxL := 3) (ret := some .int) (by decide) rfl ?_
  intro p e s m args below meth c s₁ B hml hv
  obtain ⟨rfl, hsz, hP, hK, hN, hD0⟩ := hv
  have hx := B.exec
  have hb := B.bytes
  have hr := B.returns
  have hts := atoms_spec (ws := w_DiscMakerModel_name) B.pre
  have ht9 := fun (w : Cond) (h : w ∈ lw_g) => hts w (List.mem_cons_of_mem _ h)
  have hown : s.vm.findClass "DiscMakerModel" = some m.cls := findClass_of_methodNamed B.named
  have hlocks := B.notSynchronized
  subst hsz
  have hD := hD0.self (sz := s.heap.size)
  generalize hAe : va_A [(h0, .inr (11, MO ma sv_thrown sv_length sv_nodes sv_many sv_directories sv_runsFrom sv_runs sv_read sv_wrong sv_isNamed sv_goes sv_goesSize sv_goesAt sv_targetParts sv_isRoot)), ((ma 28), .inl (cB, 6000, .inl fN)), ((ma 29), .inl (cI, 100, .inl fNS))] s.heap.size = A at hD ⊢
  have hA : ∀ q : Nat, s.heap.size ≤ q → A q := fun q h => by rw [← hAe]; exact Or.inr h
  have hS : va_S A s.heap s.heap [] := va_S.rf
  have hP : va_P D CL [(h0, .inr (11, MO ma sv_thrown sv_length sv_nodes sv_many sv_directories sv_runsFrom sv_runs sv_read sv_wrong sv_isNamed sv_goes sv_goesSize sv_goesAt sv_targetParts sv_isRoot)), ((ma 28), .inl (cB, 6000, .inl fN)), ((ma 29), .inl (cI, 100, .inl fNS))] s.heap := hP
  have hl := lv_entry [.ref h0, .int x, .int y] (n := 3) (Nat.le_of_ble_eq_true rfl)
  rw [lg_entry_eq]
  generalize (lg_sl [.ref h0, .int x, .int y] ++ List.replicate (3 - (lg_sl [.ref h0, .int x, .int y]).length) Slot.unset).toArray = ls at hl ⊢
  have hl : lv_has ls 3 [(0, .ref h0), (1, .int x), (2, .int y)] := hl
  have L_m1 : ((-1) : Int32).toInt = (-1) := by decide
  have L_0 : (0 : Int32).toInt = 0 := by decide
  have L_1 : (1 : Int32).toInt = 1 := by decide
  have L_60 : (60 : Int32).toInt = 60 := by decide
  have L_255 : (255 : Int32).toInt = 255 := by decide
  refine lv_aload_n hx hb d_DiscMakerModel_name_0 rfl (lv_at hl 0 rfl) ?_
  refine lv_iload_n hx hb d_DiscMakerModel_name_1 rfl (lv_at hl 1 rfl) ?_
  refine lv_if_lt (tgt := 31) hx hb d_DiscMakerModel_name_2 (by decide) (fun h_9 => ?_) (fun h_9 => ?_)
  · skip
    have g2_3 : x.toInt < 0 := (i_lt rfl (by decide)).mp h_9
    refine lv_iconst (v := 1) hx hb d_DiscMakerModel_name_31 (by decide) ?_
    refine va_put (D := D) (ci := 11) (v := .int 1) (ty := .int) (C := "DiscMakerModel") (T := F_DiscMakerModel) (N := 48) hx hb ht9 in_DiscMakerModel t_DiscMakerModel t_DiscMakerModel_ok n_DiscMakerModel hown hK hP hD hS 0 rfl rfl 0 (by decide) (ht9 _ k1431) (fun _ h9 => h9) rfl (by decide +kernel) rfl rfl (Nat.le_of_ble_eq_true rfl) d_DiscMakerModel_name_32 (fun H locs hP hD hS => ?_)
    have hP : va_P D CL [(h0, .inr (11, MO ma 1 sv_length sv_nodes sv_many sv_directories sv_runsFrom sv_runs sv_read sv_wrong sv_isNamed sv_goes sv_goesSize sv_goesAt sv_targetParts sv_isRoot)), ((ma 28), .inl (cB, 6000, .inl fN)), ((ma 29), .inl (cI, 100, .inl fNS))] H := hP
    have hD : va_D A [(h0, .inr (11, MO ma 1 sv_length sv_nodes sv_many sv_directories sv_runsFrom sv_runs sv_read sv_wrong sv_isNamed sv_goes sv_goesSize sv_goesAt sv_targetParts sv_isRoot)), ((ma 28), .inl (cB, 6000, .inl fN)), ((ma 29), .inl (cI, 100, .inl fNS))] := hD
    refine lv_aload_n hx hb d_DiscMakerModel_name_35 rfl (lv_at hl 0 rfl) ?_
    refine va_get (D := D) (ci := 11) (v := .int 1) (C := "DiscMakerModel") (T := F_DiscMakerModel) (N := 48) hx hb ht9 in_DiscMakerModel hown hK hP 0 rfl rfl 0 (by decide) (ht9 _ k1431) (fun _ h9 => h9) rfl d_DiscMakerModel_name_36 ?_
    refine lv_iconst (v := 1) hx hb d_DiscMakerModel_name_39 (by decide) ?_
    refine lv_icmp_ne (tgt := 47) hx hb d_DiscMakerModel_name_40 (by decide) (fun h_9 => absurd (by decide) h_9) (fun _ => ?_)
    refine lv_iconst (v := 0) hx hb d_DiscMakerModel_name_43 (by decide) ?_
    refine lv_goto (tgt := 62) hx hb d_DiscMakerModel_name_44 (by decide) ?_
    have hP9 := hP.sub (ws' := [(h0, .inr (11, MO ma 1 sv_length sv_nodes sv_many sv_directories sv_runsFrom sv_runs sv_read sv_wrong sv_isNamed sv_goes sv_goesSize sv_goesAt sv_targetParts sv_isRoot)), ((ma 28), .inl (cB, 6000, .inl fN)), ((ma 29), .inl (cI, 100, .inl fNS))]) [0, 1, 2] rfl
    have hD9 := hD.sub (ws' := [(h0, .inr (11, MO ma 1 sv_length sv_nodes sv_many sv_directories sv_runsFrom sv_runs sv_read sv_wrong sv_isNamed sv_goes sv_goesSize sv_goesAt sv_targetParts sv_isRoot)), ((ma 28), .inl (cB, 6000, .inl fN)), ((ma 29), .inl (cI, 100, .inl fNS))]) [0, 1, 2] (by decide +kernel) rfl
    exact W.iret (v := 0) hx hb hr (fun t ht hW => ⟨⟨0, 1, rfl, trivial, by rw [ht]; exact hP9, hD9⟩, hS.F ht⟩) hS.2.2 d_DiscMakerModel_name_62
  · skip
    have g2_3 : ¬ x.toInt < 0 := fun h8 => h_9 ((i_lt rfl (by decide)).mpr h8)
    refine lv_iload_n hx hb d_DiscMakerModel_name_5 rfl (lv_at hl 1 rfl) ?_
    refine lv_aload_n hx hb d_DiscMakerModel_name_6 rfl (lv_at hl 0 rfl) ?_
    refine va_get (D := D) (ci := 11) (v := .int sv_read) (C := "DiscMakerModel") (T := F_DiscMakerModel) (N := 48) hx hb ht9 in_DiscMakerModel hown hK hP 0 rfl rfl 28 (by decide) (ht9 _ k1459) (fun _ h9 => h9) rfl d_DiscMakerModel_name_7 ?_
    refine lv_icmp_ge (tgt := 31) hx hb d_DiscMakerModel_name_10 (by decide) (fun h_9 => ?_) (fun h_9 => ?_)
    · skip
      have g10_16 : sv_read.toInt ≤ x.toInt := (i_le rfl rfl).mp h_9
      refine lv_iconst (v := 1) hx hb d_DiscMakerModel_name_31 (by decide) ?_
      refine va_put (D := D) (ci := 11) (v := .int 1) (ty := .int) (C := "DiscMakerModel") (T := F_DiscMakerModel) (N := 48) hx hb ht9 in_DiscMakerModel t_DiscMakerModel t_DiscMakerModel_ok n_DiscMakerModel hown hK hP hD hS 0 rfl rfl 0 (by decide) (ht9 _ k1431) (fun _ h9 => h9) rfl (by decide +kernel) rfl rfl (Nat.le_of_ble_eq_true rfl) d_DiscMakerModel_name_32 (fun H locs hP hD hS => ?_)
      have hP : va_P D CL [(h0, .inr (11, MO ma 1 sv_length sv_nodes sv_many sv_directories sv_runsFrom sv_runs sv_read sv_wrong sv_isNamed sv_goes sv_goesSize sv_goesAt sv_targetParts sv_isRoot)), ((ma 28), .inl (cB, 6000, .inl fN)), ((ma 29), .inl (cI, 100, .inl fNS))] H := hP
      have hD : va_D A [(h0, .inr (11, MO ma 1 sv_length sv_nodes sv_many sv_directories sv_runsFrom sv_runs sv_read sv_wrong sv_isNamed sv_goes sv_goesSize sv_goesAt sv_targetParts sv_isRoot)), ((ma 28), .inl (cB, 6000, .inl fN)), ((ma 29), .inl (cI, 100, .inl fNS))] := hD
      refine lv_aload_n hx hb d_DiscMakerModel_name_35 rfl (lv_at hl 0 rfl) ?_
      refine va_get (D := D) (ci := 11) (v := .int 1) (C := "DiscMakerModel") (T := F_DiscMakerModel) (N := 48) hx hb ht9 in_DiscMakerModel hown hK hP 0 rfl rfl 0 (by decide) (ht9 _ k1431) (fun _ h9 => h9) rfl d_DiscMakerModel_name_36 ?_
      refine lv_iconst (v := 1) hx hb d_DiscMakerModel_name_39 (by decide) ?_
      refine lv_icmp_ne (tgt := 47) hx hb d_DiscMakerModel_name_40 (by decide) (fun h_9 => absurd (by decide) h_9) (fun _ => ?_)
      refine lv_iconst (v := 0) hx hb d_DiscMakerModel_name_43 (by decide) ?_
      refine lv_goto (tgt := 62) hx hb d_DiscMakerModel_name_44 (by decide) ?_
      have hP9 := hP.sub (ws' := [(h0, .inr (11, MO ma 1 sv_length sv_nodes sv_many sv_directories sv_runsFrom sv_runs sv_read sv_wrong sv_isNamed sv_goes sv_goesSize sv_goesAt sv_targetParts sv_isRoot)), ((ma 28), .inl (cB, 6000, .inl fN)), ((ma 29), .inl (cI, 100, .inl fNS))]) [0, 1, 2] rfl
      have hD9 := hD.sub (ws' := [(h0, .inr (11, MO ma 1 sv_length sv_nodes sv_many sv_directories sv_runsFrom sv_runs sv_read sv_wrong sv_isNamed sv_goes sv_goesSize sv_goesAt sv_targetParts sv_isRoot)), ((ma 28), .inl (cB, 6000, .inl fN)), ((ma 29), .inl (cI, 100, .inl fNS))]) [0, 1, 2] (by decide +kernel) rfl
      exact W.iret (v := 0) hx hb hr (fun t ht hW => ⟨⟨0, 1, rfl, trivial, by rw [ht]; exact hP9, hD9⟩, hS.F ht⟩) hS.2.2 d_DiscMakerModel_name_62
    · skip
      have g10_16 : ¬ sv_read.toInt ≤ x.toInt := fun h8 => h_9 ((i_le rfl rfl).mpr h8)
      refine lv_iload_n hx hb d_DiscMakerModel_name_13 rfl (lv_at hl 2 rfl) ?_
      refine lv_if_lt (tgt := 31) hx hb d_DiscMakerModel_name_14 (by decide) (fun h_9 => ?_) (fun h_9 => ?_)
      · skip
        have g14_27 : y.toInt < 0 := (i_lt rfl (by decide)).mp h_9
        refine lv_iconst (v := 1) hx hb d_DiscMakerModel_name_31 (by decide) ?_
        refine va_put (D := D) (ci := 11) (v := .int 1) (ty := .int) (C := "DiscMakerModel") (T := F_DiscMakerModel) (N := 48) hx hb ht9 in_DiscMakerModel t_DiscMakerModel t_DiscMakerModel_ok n_DiscMakerModel hown hK hP hD hS 0 rfl rfl 0 (by decide) (ht9 _ k1431) (fun _ h9 => h9) rfl (by decide +kernel) rfl rfl (Nat.le_of_ble_eq_true rfl) d_DiscMakerModel_name_32 (fun H locs hP hD hS => ?_)
        have hP : va_P D CL [(h0, .inr (11, MO ma 1 sv_length sv_nodes sv_many sv_directories sv_runsFrom sv_runs sv_read sv_wrong sv_isNamed sv_goes sv_goesSize sv_goesAt sv_targetParts sv_isRoot)), ((ma 28), .inl (cB, 6000, .inl fN)), ((ma 29), .inl (cI, 100, .inl fNS))] H := hP
        have hD : va_D A [(h0, .inr (11, MO ma 1 sv_length sv_nodes sv_many sv_directories sv_runsFrom sv_runs sv_read sv_wrong sv_isNamed sv_goes sv_goesSize sv_goesAt sv_targetParts sv_isRoot)), ((ma 28), .inl (cB, 6000, .inl fN)), ((ma 29), .inl (cI, 100, .inl fNS))] := hD
        refine lv_aload_n hx hb d_DiscMakerModel_name_35 rfl (lv_at hl 0 rfl) ?_
        refine va_get (D := D) (ci := 11) (v := .int 1) (C := "DiscMakerModel") (T := F_DiscMakerModel) (N := 48) hx hb ht9 in_DiscMakerModel hown hK hP 0 rfl rfl 0 (by decide) (ht9 _ k1431) (fun _ h9 => h9) rfl d_DiscMakerModel_name_36 ?_
        refine lv_iconst (v := 1) hx hb d_DiscMakerModel_name_39 (by decide) ?_
        refine lv_icmp_ne (tgt := 47) hx hb d_DiscMakerModel_name_40 (by decide) (fun h_9 => absurd (by decide) h_9) (fun _ => ?_)
        refine lv_iconst (v := 0) hx hb d_DiscMakerModel_name_43 (by decide) ?_
        refine lv_goto (tgt := 62) hx hb d_DiscMakerModel_name_44 (by decide) ?_
        have hP9 := hP.sub (ws' := [(h0, .inr (11, MO ma 1 sv_length sv_nodes sv_many sv_directories sv_runsFrom sv_runs sv_read sv_wrong sv_isNamed sv_goes sv_goesSize sv_goesAt sv_targetParts sv_isRoot)), ((ma 28), .inl (cB, 6000, .inl fN)), ((ma 29), .inl (cI, 100, .inl fNS))]) [0, 1, 2] rfl
        have hD9 := hD.sub (ws' := [(h0, .inr (11, MO ma 1 sv_length sv_nodes sv_many sv_directories sv_runsFrom sv_runs sv_read sv_wrong sv_isNamed sv_goes sv_goesSize sv_goesAt sv_targetParts sv_isRoot)), ((ma 28), .inl (cB, 6000, .inl fN)), ((ma 29), .inl (cI, 100, .inl fNS))]) [0, 1, 2] (by decide +kernel) rfl
        exact W.iret (v := 0) hx hb hr (fun t ht hW => ⟨⟨0, 1, rfl, trivial, by rw [ht]; exact hP9, hD9⟩, hS.F ht⟩) hS.2.2 d_DiscMakerModel_name_62
      · skip
        have g14_27 : ¬ y.toInt < 0 := fun h8 => h_9 ((i_lt rfl (by decide)).mpr h8)
        refine lv_iload_n hx hb d_DiscMakerModel_name_17 rfl (lv_at hl 2 rfl) ?_
        refine lv_aload_n hx hb d_DiscMakerModel_name_18 rfl (lv_at hl 0 rfl) ?_
        refine va_get (D := D) (ci := 11) (v := .ref (ma 29)) (C := "DiscMakerModel") (T := F_DiscMakerModel) (N := 48) hx hb ht9 in_DiscMakerModel hown hK hP 0 rfl rfl 37 (by decide) (ht9 _ k1468) (fun _ h9 => h9) rfl d_DiscMakerModel_name_19 ?_
        refine lv_iload_n hx hb d_DiscMakerModel_name_22 rfl (lv_at hl 1 rfl) ?_
        refine va_iald hx hb hK hP 2 1 rfl rfl (vp_in_iff.mpr ⟨by omega, by omega⟩) d_DiscMakerModel_name_23 ?_
        refine lv_topi (fun v1 e_v1 => ?_)
        have t_v1 : 0 ≤ v1.toInt ∧ v1.toInt ≤ 60 := by
          rw [e_v1]; exact hfNS _ (by have := i_cl (a := x) (by omega); omega)
        refine lv_icmp_ge (tgt := 31) hx hb d_DiscMakerModel_name_24 (by decide) (fun h_9 => ?_) (fun h_9 => ?_)
        · skip
          have g24_42 : v1.toInt ≤ y.toInt := (i_le rfl rfl).mp h_9
          refine lv_iconst (v := 1) hx hb d_DiscMakerModel_name_31 (by decide) ?_
          refine va_put (D := D) (ci := 11) (v := .int 1) (ty := .int) (C := "DiscMakerModel") (T := F_DiscMakerModel) (N := 48) hx hb ht9 in_DiscMakerModel t_DiscMakerModel t_DiscMakerModel_ok n_DiscMakerModel hown hK hP hD hS 0 rfl rfl 0 (by decide) (ht9 _ k1431) (fun _ h9 => h9) rfl (by decide +kernel) rfl rfl (Nat.le_of_ble_eq_true rfl) d_DiscMakerModel_name_32 (fun H locs hP hD hS => ?_)
          have hP : va_P D CL [(h0, .inr (11, MO ma 1 sv_length sv_nodes sv_many sv_directories sv_runsFrom sv_runs sv_read sv_wrong sv_isNamed sv_goes sv_goesSize sv_goesAt sv_targetParts sv_isRoot)), ((ma 28), .inl (cB, 6000, .inl fN)), ((ma 29), .inl (cI, 100, .inl fNS))] H := hP
          have hD : va_D A [(h0, .inr (11, MO ma 1 sv_length sv_nodes sv_many sv_directories sv_runsFrom sv_runs sv_read sv_wrong sv_isNamed sv_goes sv_goesSize sv_goesAt sv_targetParts sv_isRoot)), ((ma 28), .inl (cB, 6000, .inl fN)), ((ma 29), .inl (cI, 100, .inl fNS))] := hD
          refine lv_aload_n hx hb d_DiscMakerModel_name_35 rfl (lv_at hl 0 rfl) ?_
          refine va_get (D := D) (ci := 11) (v := .int 1) (C := "DiscMakerModel") (T := F_DiscMakerModel) (N := 48) hx hb ht9 in_DiscMakerModel hown hK hP 0 rfl rfl 0 (by decide) (ht9 _ k1431) (fun _ h9 => h9) rfl d_DiscMakerModel_name_36 ?_
          refine lv_iconst (v := 1) hx hb d_DiscMakerModel_name_39 (by decide) ?_
          refine lv_icmp_ne (tgt := 47) hx hb d_DiscMakerModel_name_40 (by decide) (fun h_9 => absurd (by decide) h_9) (fun _ => ?_)
          refine lv_iconst (v := 0) hx hb d_DiscMakerModel_name_43 (by decide) ?_
          refine lv_goto (tgt := 62) hx hb d_DiscMakerModel_name_44 (by decide) ?_
          have hP9 := hP.sub (ws' := [(h0, .inr (11, MO ma 1 sv_length sv_nodes sv_many sv_directories sv_runsFrom sv_runs sv_read sv_wrong sv_isNamed sv_goes sv_goesSize sv_goesAt sv_targetParts sv_isRoot)), ((ma 28), .inl (cB, 6000, .inl fN)), ((ma 29), .inl (cI, 100, .inl fNS))]) [0, 1, 2] rfl
          have hD9 := hD.sub (ws' := [(h0, .inr (11, MO ma 1 sv_length sv_nodes sv_many sv_directories sv_runsFrom sv_runs sv_read sv_wrong sv_isNamed sv_goes sv_goesSize sv_goesAt sv_targetParts sv_isRoot)), ((ma 28), .inl (cB, 6000, .inl fN)), ((ma 29), .inl (cI, 100, .inl fNS))]) [0, 1, 2] (by decide +kernel) rfl
          exact W.iret (v := 0) hx hb hr (fun t ht hW => ⟨⟨0, 1, rfl, trivial, by rw [ht]; exact hP9, hD9⟩, hS.F ht⟩) hS.2.2 d_DiscMakerModel_name_62
        · skip
          have g24_42 : ¬ v1.toInt ≤ y.toInt := fun h8 => h_9 ((i_le rfl rfl).mpr h8)
          refine lv_iconst (v := 0) hx hb d_DiscMakerModel_name_27 (by decide) ?_
          refine lv_goto (tgt := 32) hx hb d_DiscMakerModel_name_28 (by decide) ?_
          refine va_put (D := D) (ci := 11) (v := .int 0) (ty := .int) (C := "DiscMakerModel") (T := F_DiscMakerModel) (N := 48) hx hb ht9 in_DiscMakerModel t_DiscMakerModel t_DiscMakerModel_ok n_DiscMakerModel hown hK hP hD hS 0 rfl rfl 0 (by decide) (ht9 _ k1431) (fun _ h9 => h9) rfl (by decide +kernel) rfl rfl (Nat.le_of_ble_eq_true rfl) d_DiscMakerModel_name_32 (fun H locs hP hD hS => ?_)
          have hP : va_P D CL [(h0, .inr (11, MO ma 0 sv_length sv_nodes sv_many sv_directories sv_runsFrom sv_runs sv_read sv_wrong sv_isNamed sv_goes sv_goesSize sv_goesAt sv_targetParts sv_isRoot)), ((ma 28), .inl (cB, 6000, .inl fN)), ((ma 29), .inl (cI, 100, .inl fNS))] H := hP
          have hD : va_D A [(h0, .inr (11, MO ma 0 sv_length sv_nodes sv_many sv_directories sv_runsFrom sv_runs sv_read sv_wrong sv_isNamed sv_goes sv_goesSize sv_goesAt sv_targetParts sv_isRoot)), ((ma 28), .inl (cB, 6000, .inl fN)), ((ma 29), .inl (cI, 100, .inl fNS))] := hD
          refine lv_aload_n hx hb d_DiscMakerModel_name_35 rfl (lv_at hl 0 rfl) ?_
          refine va_get (D := D) (ci := 11) (v := .int 0) (C := "DiscMakerModel") (T := F_DiscMakerModel) (N := 48) hx hb ht9 in_DiscMakerModel hown hK hP 0 rfl rfl 0 (by decide) (ht9 _ k1431) (fun _ h9 => h9) rfl d_DiscMakerModel_name_36 ?_
          refine lv_iconst (v := 1) hx hb d_DiscMakerModel_name_39 (by decide) ?_
          refine lv_icmp_ne (tgt := 47) hx hb d_DiscMakerModel_name_40 (by decide) (fun _ => ?_) (fun h_9 => absurd h_9 (by decide))
          refine lv_aload_n hx hb d_DiscMakerModel_name_47 rfl (lv_at hl 0 rfl) ?_
          refine va_get (D := D) (ci := 11) (v := .ref (ma 28)) (C := "DiscMakerModel") (T := F_DiscMakerModel) (N := 48) hx hb ht9 in_DiscMakerModel hown hK hP 0 rfl rfl 36 (by decide) (ht9 _ k1467) (fun _ h9 => h9) rfl d_DiscMakerModel_name_48 ?_
          refine lv_bipush (v := 60) hx hb d_DiscMakerModel_name_51 (by decide) ?_
          refine lv_iload_n hx hb d_DiscMakerModel_name_53 rfl (lv_at hl 1 rfl) ?_
          refine lv_imul hx hb d_DiscMakerModel_name_54 ?_
          refine lv_topi (fun v2 e_v2 => ?_)
          have t_v2 : v2.toInt = 60 * x.toInt := by rw [e_v2]; exact i_mul (by decide) rfl (by omega) (by omega)
          refine lv_iload_n hx hb d_DiscMakerModel_name_55 rfl (lv_at hl 2 rfl) ?_
          refine lv_iadd hx hb d_DiscMakerModel_name_56 ?_
          refine lv_topi (fun v3 e_v3 => ?_)
          have t_v3 : v3.toInt = v2.toInt + y.toInt := by rw [e_v3]; exact i_add rfl rfl (by omega) (by omega)
          refine va_bald hx hb hK hP 1 0 rfl rfl (vp_in_iff.mpr ⟨by omega, by omega⟩) d_DiscMakerModel_name_57 ?_
          refine lv_topi (fun v4 e_v4 => ?_)
          refine lv_sipush (v := 255) hx hb d_DiscMakerModel_name_58 (by decide) ?_
          refine lv_iand hx hb d_DiscMakerModel_name_61 ?_
          refine lv_topi (fun v5 e_v5 => ?_)
          have t_v5 : 0 ≤ v5.toInt ∧ v5.toInt ≤ 255 := by rw [e_v5]; exact i_and (by decide) (by decide)
          have hP9 := hP.sub (ws' := [(h0, .inr (11, MO ma 0 sv_length sv_nodes sv_many sv_directories sv_runsFrom sv_runs sv_read sv_wrong sv_isNamed sv_goes sv_goesSize sv_goesAt sv_targetParts sv_isRoot)), ((ma 28), .inl (cB, 6000, .inl fN)), ((ma 29), .inl (cI, 100, .inl fNS))]) [0, 1, 2] rfl
          have hD9 := hD.sub (ws' := [(h0, .inr (11, MO ma 0 sv_length sv_nodes sv_many sv_directories sv_runsFrom sv_runs sv_read sv_wrong sv_isNamed sv_goes sv_goesSize sv_goesAt sv_targetParts sv_isRoot)), ((ma 28), .inl (cB, 6000, .inl fN)), ((ma 29), .inl (cI, 100, .inl fNS))]) [0, 1, 2] (by decide +kernel) rfl
          exact W.iret (v := v5) hx hb hr (fun t ht hW => ⟨⟨v5, 0, rfl, trivial, by rw [ht]; exact hP9, hD9⟩, hS.F ht⟩) hS.2.2 d_DiscMakerModel_name_62

theorem d_DiscMakerModel_target_0 : decode b_DiscMakerModel_target 0 = .ok (.aload_n 0, 1) := by decide +kernel
theorem d_DiscMakerModel_target_1 : decode b_DiscMakerModel_target 1 = .ok (.iload_n 1, 1) := by decide +kernel
theorem d_DiscMakerModel_target_2 : decode b_DiscMakerModel_target 2 = .ok (.ifCond .lt 29, 3) := by decide +kernel
theorem d_DiscMakerModel_target_5 : decode b_DiscMakerModel_target 5 = .ok (.iload_n 1, 1) := by decide +kernel
theorem d_DiscMakerModel_target_6 : decode b_DiscMakerModel_target 6 = .ok (.aload_n 0, 1) := by decide +kernel
theorem d_DiscMakerModel_target_7 : decode b_DiscMakerModel_target 7 = .ok (.getfield 323, 3) := by decide +kernel
theorem d_DiscMakerModel_target_10 : decode b_DiscMakerModel_target 10 = .ok (.if_icmp .ge 21, 3) := by decide +kernel
theorem d_DiscMakerModel_target_13 : decode b_DiscMakerModel_target 13 = .ok (.iload_n 2, 1) := by decide +kernel
theorem d_DiscMakerModel_target_14 : decode b_DiscMakerModel_target 14 = .ok (.ifCond .lt 17, 3) := by decide +kernel
theorem d_DiscMakerModel_target_17 : decode b_DiscMakerModel_target 17 = .ok (.iload_n 2, 1) := by decide +kernel
theorem d_DiscMakerModel_target_18 : decode b_DiscMakerModel_target 18 = .ok (.aload_n 0, 1) := by decide +kernel
theorem d_DiscMakerModel_target_19 : decode b_DiscMakerModel_target 19 = .ok (.getfield 108, 3) := by decide +kernel
theorem d_DiscMakerModel_target_22 : decode b_DiscMakerModel_target 22 = .ok (.iload_n 1, 1) := by decide +kernel
theorem d_DiscMakerModel_target_23 : decode b_DiscMakerModel_target 23 = .ok (.iaload, 1) := by decide +kernel
theorem d_DiscMakerModel_target_24 : decode b_DiscMakerModel_target 24 = .ok (.if_icmp .ge 7, 3) := by decide +kernel
theorem d_DiscMakerModel_target_27 : decode b_DiscMakerModel_target 27 = .ok (.iconst 0, 1) := by decide +kernel
theorem d_DiscMakerModel_target_28 : decode b_DiscMakerModel_target 28 = .ok (.goto 4, 3) := by decide +kernel
theorem d_DiscMakerModel_target_31 : decode b_DiscMakerModel_target 31 = .ok (.iconst 1, 1) := by decide +kernel
theorem d_DiscMakerModel_target_32 : decode b_DiscMakerModel_target 32 = .ok (.putfield 118, 3) := by decide +kernel
theorem d_DiscMakerModel_target_35 : decode b_DiscMakerModel_target 35 = .ok (.aload_n 0, 1) := by decide +kernel
theorem d_DiscMakerModel_target_36 : decode b_DiscMakerModel_target 36 = .ok (.getfield 118, 3) := by decide +kernel
theorem d_DiscMakerModel_target_39 : decode b_DiscMakerModel_target 39 = .ok (.iconst 1, 1) := by decide +kernel
theorem d_DiscMakerModel_target_40 : decode b_DiscMakerModel_target 40 = .ok (.if_icmp .ne 7, 3) := by decide +kernel
theorem d_DiscMakerModel_target_43 : decode b_DiscMakerModel_target 43 = .ok (.iconst 0, 1) := by decide +kernel
theorem d_DiscMakerModel_target_44 : decode b_DiscMakerModel_target 44 = .ok (.goto 19, 3) := by decide +kernel
theorem d_DiscMakerModel_target_47 : decode b_DiscMakerModel_target 47 = .ok (.aload_n 0, 1) := by decide +kernel
theorem d_DiscMakerModel_target_48 : decode b_DiscMakerModel_target 48 = .ok (.getfield 105, 3) := by decide +kernel
theorem d_DiscMakerModel_target_51 : decode b_DiscMakerModel_target 51 = .ok (.sipush 400, 3) := by decide +kernel
theorem d_DiscMakerModel_target_54 : decode b_DiscMakerModel_target 54 = .ok (.iload_n 1, 1) := by decide +kernel
theorem d_DiscMakerModel_target_55 : decode b_DiscMakerModel_target 55 = .ok (.imul, 1) := by decide +kernel
theorem d_DiscMakerModel_target_56 : decode b_DiscMakerModel_target 56 = .ok (.iload_n 2, 1) := by decide +kernel
theorem d_DiscMakerModel_target_57 : decode b_DiscMakerModel_target 57 = .ok (.iadd, 1) := by decide +kernel
theorem d_DiscMakerModel_target_58 : decode b_DiscMakerModel_target 58 = .ok (.baload, 1) := by decide +kernel
theorem d_DiscMakerModel_target_59 : decode b_DiscMakerModel_target 59 = .ok (.sipush 255, 3) := by decide +kernel
theorem d_DiscMakerModel_target_62 : decode b_DiscMakerModel_target 62 = .ok (.iand, 1) := by decide +kernel
theorem d_DiscMakerModel_target_63 : decode b_DiscMakerModel_target 63 = .ok (.ireturn, 1) := by decide +kernel
set_option maxHeartbeats 4000000 in
set_option maxRecDepth 100000 in
theorem m_target (l : Launch) (D : va_G) (cB cI cJ cZ cN cF : ClassId) (sz : Nat) (h0 : Nat) (ma : Nat → Nat) (sv_thrown sv_length sv_nodes sv_many sv_directories sv_runsFrom sv_runs sv_read sv_wrong sv_isNamed sv_goes sv_goesSize sv_goesAt sv_targetParts sv_isRoot : Int32) (fT : Nat → Int32) (fTS : Nat → Int32) (x : Int32) (y : Int32) (hrd : 0 ≤ sv_read.toInt ∧ sv_read.toInt ≤ 99) (hfTS : Rg 0 400 100 fTS) : Met l y_DiscMakerModel_target w_DiscMakerModel_target ({ frames := 0, cells := 0, slots := 0, locals := 0 }) (va_Pc [.ref h0, .int x, .int y] (fun U => U.heap.size = sz ∧ va_P D CL [(h0, .inr (11, MO ma sv_thrown sv_length sv_nodes sv_many sv_directories sv_runsFrom sv_runs sv_read sv_wrong sv_isNamed sv_goes sv_goesSize sv_goesAt sv_targetParts sv_isRoot)), ((ma 30), .inl (cB, 40000, .inl fT)), ((ma 31), .inl (cI, 100, .inl fTS))] U.heap ∧ va_K D CL (TY cB cI cJ cZ cN cF) U ∧ NN U ∧ va_D (fun _ => True) [(h0, .inr (11, MO ma sv_thrown sv_length sv_nodes sv_many sv_directories sv_runsFrom sv_runs sv_read sv_wrong sv_isNamed sv_goes sv_goesSize sv_goesAt sv_targetParts sv_isRoot)), ((ma 30), .inl (cB, 40000, .inl fT)), ((ma 31), .inl (cI, 100, .inl fTS))])) (va_Qi (fun (r : Int32) (u : Int32) => True) (fun (u : Int32) (t : State) => match u with | th => va_P D CL [(h0, .inr (11, MO ma th sv_length sv_nodes sv_many sv_directories sv_runsFrom sv_runs sv_read sv_wrong sv_isNamed sv_goes sv_goesSize sv_goesAt sv_targetParts sv_isRoot)), ((ma 30), .inl (cB, 40000, .inl fT)), ((ma 31), .inl (cI, 100, .inl fTS))] t.heap ∧ va_D (va_A [(h0, .inr (11, MO ma sv_thrown sv_length sv_nodes sv_many sv_directories sv_runsFrom sv_runs sv_read sv_wrong sv_isNamed sv_goes sv_goesSize sv_goesAt sv_targetParts sv_isRoot)), ((ma 30), .inl (cB, 40000, .inl fT)), ((ma 31), .inl (cI, 100, .inl fTS))] sz) [(h0, .inr (11, MO ma th sv_length sv_nodes sv_many sv_directories sv_runsFrom sv_runs sv_read sv_wrong sv_isNamed sv_goes sv_goesSize sv_goesAt sv_targetParts sv_isRoot)), ((ma 30), .inl (cB, 40000, .inl fT)), ((ma 31), .inl (cI, 100, .inl fTS))]) (va_A [(h0, .inr (11, MO ma sv_thrown sv_length sv_nodes sv_many sv_directories sv_runsFrom sv_runs sv_read sv_wrong sv_isNamed sv_goes sv_goesSize sv_goesAt sv_targetParts sv_isRoot)), ((ma 30), .inl (cB, 40000, .inl fT)), ((ma 31), .inl (cI, 100, .inl fTS))] sz)) 0 0 (va_A [(h0, .inr (11, MO ma sv_thrown sv_length sv_nodes sv_many sv_directories sv_runsFrom sv_runs sv_read sv_wrong sv_isNamed sv_goes sv_goesSize sv_goesAt sv_targetParts sv_isRoot)), ((ma 30), .inl (cB, 40000, .inl fT)), ((ma 31), .inl (cI, 100, .inl fTS))] sz) := by
  refine Met.ofW (cc := b_DiscMakerModel_target) (maxL := 3) (ret := some .int) (by decide) rfl ?_
  intro p e s m args below meth c s₁ B hml hv
  obtain ⟨rfl, hsz, hP, hK, hN, hD0⟩ := hv
  have hx := B.exec
  have hb := B.bytes
  have hr := B.returns
  have hts := atoms_spec (ws := w_DiscMakerModel_target) B.pre
  have ht9 := fun (w : Cond) (h : w ∈ lw_g) => hts w (List.mem_cons_of_mem _ h)
  have hown : s.vm.findClass "DiscMakerModel" = some m.cls := findClass_of_methodNamed B.named
  have hlocks := B.notSynchronized
  subst hsz
  have hD := hD0.self (sz := s.heap.size)
  generalize hAe : va_A [(h0, .inr (11, MO ma sv_thrown sv_length sv_nodes sv_many sv_directories sv_runsFrom sv_runs sv_read sv_wrong sv_isNamed sv_goes sv_goesSize sv_goesAt sv_targetParts sv_isRoot)), ((ma 30), .inl (cB, 40000, .inl fT)), ((ma 31), .inl (cI, 100, .inl fTS))] s.heap.size = A at hD ⊢
  have hA : ∀ q : Nat, s.heap.size ≤ q → A q := fun q h => by rw [← hAe]; exact Or.inr h
  have hS : va_S A s.heap s.heap [] := va_S.rf
  have hP : va_P D CL [(h0, .inr (11, MO ma sv_thrown sv_length sv_nodes sv_many sv_directories sv_runsFrom sv_runs sv_read sv_wrong sv_isNamed sv_goes sv_goesSize sv_goesAt sv_targetParts sv_isRoot)), ((ma 30), .inl (cB, 40000, .inl fT)), ((ma 31), .inl (cI, 100, .inl fTS))] s.heap := hP
  have hl := lv_entry [.ref h0, .int x, .int y] (n := 3) (Nat.le_of_ble_eq_true rfl)
  rw [lg_entry_eq]
  generalize (lg_sl [.ref h0, .int x, .int y] ++ List.replicate (3 - (lg_sl [.ref h0, .int x, .int y]).length) Slot.unset).toArray = ls at hl ⊢
  have hl : lv_has ls 3 [(0, .ref h0), (1, .int x), (2, .int y)] := hl
  have L_m1 : ((-1) : Int32).toInt = (-1) := by decide
  have L_0 : (0 : Int32).toInt = 0 := by decide
  have L_1 : (1 : Int32).toInt = 1 := by decide
  have L_255 : (255 : Int32).toInt = 255 := by decide
  have L_400 : (400 : Int32).toInt = 400 := by decide
  refine lv_aload_n hx hb d_DiscMakerModel_target_0 rfl (lv_at hl 0 rfl) ?_
  refine lv_iload_n hx hb d_DiscMakerModel_target_1 rfl (lv_at hl 1 rfl) ?_
  refine lv_if_lt (tgt := 31) hx hb d_DiscMakerModel_target_2 (by decide) (fun h_9 => ?_) (fun h_9 => ?_)
  · skip
    have g2_3 : x.toInt < 0 := (i_lt rfl (by decide)).mp h_9
    refine lv_iconst (v := 1) hx hb d_DiscMakerModel_target_31 (by decide) ?_
    refine va_put (D := D) (ci := 11) (v := .int 1) (ty := .int) (C := "DiscMakerModel") (T := F_DiscMakerModel) (N := 48) hx hb ht9 in_DiscMakerModel t_DiscMakerModel t_DiscMakerModel_ok n_DiscMakerModel hown hK hP hD hS 0 rfl rfl 0 (by decide) (ht9 _ k1431) (fun _ h9 => h9) rfl (by decide +kernel) rfl rfl (Nat.le_of_ble_eq_true rfl) d_DiscMakerModel_target_32 (fun H locs hP hD hS => ?_)
    have hP : va_P D CL [(h0, .inr (11, MO ma 1 sv_length sv_nodes sv_many sv_directories sv_runsFrom sv_runs sv_read sv_wrong sv_isNamed sv_goes sv_goesSize sv_goesAt sv_targetParts sv_isRoot)), ((ma 30), .inl (cB, 40000, .inl fT)), ((ma 31), .inl (cI, 100, .inl fTS))] H := hP
    have hD : va_D A [(h0, .inr (11, MO ma 1 sv_length sv_nodes sv_many sv_directories sv_runsFrom sv_runs sv_read sv_wrong sv_isNamed sv_goes sv_goesSize sv_goesAt sv_targetParts sv_isRoot)), ((ma 30), .inl (cB, 40000, .inl fT)), ((ma 31), .inl (cI, 100, .inl fTS))] := hD
    refine lv_aload_n hx hb d_DiscMakerModel_target_35 rfl (lv_at hl 0 rfl) ?_
    refine va_get (D := D) (ci := 11) (v := .int 1) (C := "DiscMakerModel") (T := F_DiscMakerModel) (N := 48) hx hb ht9 in_DiscMakerModel hown hK hP 0 rfl rfl 0 (by decide) (ht9 _ k1431) (fun _ h9 => h9) rfl d_DiscMakerModel_target_36 ?_
    refine lv_iconst (v := 1) hx hb d_DiscMakerModel_target_39 (by decide) ?_
    refine lv_icmp_ne (tgt := 47) hx hb d_DiscMakerModel_target_40 (by decide) (fun h_9 => absurd (by decide) h_9) (fun _ => ?_)
    refine lv_iconst (v := 0) hx hb d_DiscMakerModel_target_43 (by decide) ?_
    refine lv_goto (tgt := 63) hx hb d_DiscMakerModel_target_44 (by decide) ?_
    have hP9 := hP.sub (ws' := [(h0, .inr (11, MO ma 1 sv_length sv_nodes sv_many sv_directories sv_runsFrom sv_runs sv_read sv_wrong sv_isNamed sv_goes sv_goesSize sv_goesAt sv_targetParts sv_isRoot)), ((ma 30), .inl (cB, 40000, .inl fT)), ((ma 31), .inl (cI, 100, .inl fTS))]) [0, 1, 2] rfl
    have hD9 := hD.sub (ws' := [(h0, .inr (11, MO ma 1 sv_length sv_nodes sv_many sv_directories sv_runsFrom sv_runs sv_read sv_wrong sv_isNamed sv_goes sv_goesSize sv_goesAt sv_targetParts sv_isRoot)), ((ma 30), .inl (cB, 40000, .inl fT)), ((ma 31), .inl (cI, 100, .inl fTS))]) [0, 1, 2] (by decide +kernel) rfl
    exact W.iret (v := 0) hx hb hr (fun t ht hW => ⟨⟨0, 1, rfl, trivial, by rw [ht]; exact hP9, hD9⟩, hS.F ht⟩) hS.2.2 d_DiscMakerModel_target_63
  · skip
    have g2_3 : ¬ x.toInt < 0 := fun h8 => h_9 ((i_lt rfl (by decide)).mpr h8)
    refine lv_iload_n hx hb d_DiscMakerModel_target_5 rfl (lv_at hl 1 rfl) ?_
    refine lv_aload_n hx hb d_DiscMakerModel_target_6 rfl (lv_at hl 0 rfl) ?_
    refine va_get (D := D) (ci := 11) (v := .int sv_read) (C := "DiscMakerModel") (T := F_DiscMakerModel) (N := 48) hx hb ht9 in_DiscMakerModel hown hK hP 0 rfl rfl 28 (by decide) (ht9 _ k1459) (fun _ h9 => h9) rfl d_DiscMakerModel_target_7 ?_
    refine lv_icmp_ge (tgt := 31) hx hb d_DiscMakerModel_target_10 (by decide) (fun h_9 => ?_) (fun h_9 => ?_)
    · skip
      have g10_16 : sv_read.toInt ≤ x.toInt := (i_le rfl rfl).mp h_9
      refine lv_iconst (v := 1) hx hb d_DiscMakerModel_target_31 (by decide) ?_
      refine va_put (D := D) (ci := 11) (v := .int 1) (ty := .int) (C := "DiscMakerModel") (T := F_DiscMakerModel) (N := 48) hx hb ht9 in_DiscMakerModel t_DiscMakerModel t_DiscMakerModel_ok n_DiscMakerModel hown hK hP hD hS 0 rfl rfl 0 (by decide) (ht9 _ k1431) (fun _ h9 => h9) rfl (by decide +kernel) rfl rfl (Nat.le_of_ble_eq_true rfl) d_DiscMakerModel_target_32 (fun H locs hP hD hS => ?_)
      have hP : va_P D CL [(h0, .inr (11, MO ma 1 sv_length sv_nodes sv_many sv_directories sv_runsFrom sv_runs sv_read sv_wrong sv_isNamed sv_goes sv_goesSize sv_goesAt sv_targetParts sv_isRoot)), ((ma 30), .inl (cB, 40000, .inl fT)), ((ma 31), .inl (cI, 100, .inl fTS))] H := hP
      have hD : va_D A [(h0, .inr (11, MO ma 1 sv_length sv_nodes sv_many sv_directories sv_runsFrom sv_runs sv_read sv_wrong sv_isNamed sv_goes sv_goesSize sv_goesAt sv_targetParts sv_isRoot)), ((ma 30), .inl (cB, 40000, .inl fT)), ((ma 31), .inl (cI, 100, .inl fTS))] := hD
      refine lv_aload_n hx hb d_DiscMakerModel_target_35 rfl (lv_at hl 0 rfl) ?_
      refine va_get (D := D) (ci := 11) (v := .int 1) (C := "DiscMakerModel") (T := F_DiscMakerModel) (N := 48) hx hb ht9 in_DiscMakerModel hown hK hP 0 rfl rfl 0 (by decide) (ht9 _ k1431) (fun _ h9 => h9) rfl d_DiscMakerModel_target_36 ?_
      refine lv_iconst (v := 1) hx hb d_DiscMakerModel_target_39 (by decide) ?_
      refine lv_icmp_ne (tgt := 47) hx hb d_DiscMakerModel_target_40 (by decide) (fun h_9 => absurd (by decide) h_9) (fun _ => ?_)
      refine lv_iconst (v := 0) hx hb d_DiscMakerModel_target_43 (by decide) ?_
      refine lv_goto (tgt := 63) hx hb d_DiscMakerModel_target_44 (by decide) ?_
      have hP9 := hP.sub (ws' := [(h0, .inr (11, MO ma 1 sv_length sv_nodes sv_many sv_directories sv_runsFrom sv_runs sv_read sv_wrong sv_isNamed sv_goes sv_goesSize sv_goesAt sv_targetParts sv_isRoot)), ((ma 30), .inl (cB, 40000, .inl fT)), ((ma 31), .inl (cI, 100, .inl fTS))]) [0, 1, 2] rfl
      have hD9 := hD.sub (ws' := [(h0, .inr (11, MO ma 1 sv_length sv_nodes sv_many sv_directories sv_runsFrom sv_runs sv_read sv_wrong sv_isNamed sv_goes sv_goesSize sv_goesAt sv_targetParts sv_isRoot)), ((ma 30), .inl (cB, 40000, .inl fT)), ((ma 31), .inl (cI, 100, .inl fTS))]) [0, 1, 2] (by decide +kernel) rfl
      exact W.iret (v := 0) hx hb hr (fun t ht hW => ⟨⟨0, 1, rfl, trivial, by rw [ht]; exact hP9, hD9⟩, hS.F ht⟩) hS.2.2 d_DiscMakerModel_target_63
    · skip
      have g10_16 : ¬ sv_read.toInt ≤ x.toInt := fun h8 => h_9 ((i_le rfl rfl).mpr h8)
      refine lv_iload_n hx hb d_DiscMakerModel_target_13 rfl (lv_at hl 2 rfl) ?_
      refine lv_if_lt (tgt := 31) hx hb d_DiscMakerModel_target_14 (by decide) (fun h_9 => ?_) (fun h_9 => ?_)
      · skip
        have g14_27 : y.toInt < 0 := (i_lt rfl (by decide)).mp h_9
        refine lv_iconst (v := 1) hx hb d_DiscMakerModel_target_31 (by decide) ?_
        refine va_put (D := D) (ci := 11) (v := .int 1) (ty := .int) (C := "DiscMakerModel") (T := F_DiscMakerModel) (N := 48) hx hb ht9 in_DiscMakerModel t_DiscMakerModel t_DiscMakerModel_ok n_DiscMakerModel hown hK hP hD hS 0 rfl rfl 0 (by decide) (ht9 _ k1431) (fun _ h9 => h9) rfl (by decide +kernel) rfl rfl (Nat.le_of_ble_eq_true rfl) d_DiscMakerModel_target_32 (fun H locs hP hD hS => ?_)
        have hP : va_P D CL [(h0, .inr (11, MO ma 1 sv_length sv_nodes sv_many sv_directories sv_runsFrom sv_runs sv_read sv_wrong sv_isNamed sv_goes sv_goesSize sv_goesAt sv_targetParts sv_isRoot)), ((ma 30), .inl (cB, 40000, .inl fT)), ((ma 31), .inl (cI, 100, .inl fTS))] H := hP
        have hD : va_D A [(h0, .inr (11, MO ma 1 sv_length sv_nodes sv_many sv_directories sv_runsFrom sv_runs sv_read sv_wrong sv_isNamed sv_goes sv_goesSize sv_goesAt sv_targetParts sv_isRoot)), ((ma 30), .inl (cB, 40000, .inl fT)), ((ma 31), .inl (cI, 100, .inl fTS))] := hD
        refine lv_aload_n hx hb d_DiscMakerModel_target_35 rfl (lv_at hl 0 rfl) ?_
        refine va_get (D := D) (ci := 11) (v := .int 1) (C := "DiscMakerModel") (T := F_DiscMakerModel) (N := 48) hx hb ht9 in_DiscMakerModel hown hK hP 0 rfl rfl 0 (by decide) (ht9 _ k1431) (fun _ h9 => h9) rfl d_DiscMakerModel_target_36 ?_
        refine lv_iconst (v := 1) hx hb d_DiscMakerModel_target_39 (by decide) ?_
        refine lv_icmp_ne (tgt := 47) hx hb d_DiscMakerModel_target_40 (by decide) (fun h_9 => absurd (by decide) h_9) (fun _ => ?_)
        refine lv_iconst (v := 0) hx hb d_DiscMakerModel_target_43 (by decide) ?_
        refine lv_goto (tgt := 63) hx hb d_DiscMakerModel_target_44 (by decide) ?_
        have hP9 := hP.sub (ws' := [(h0, .inr (11, MO ma 1 sv_length sv_nodes sv_many sv_directories sv_runsFrom sv_runs sv_read sv_wrong sv_isNamed sv_goes sv_goesSize sv_goesAt sv_targetParts sv_isRoot)), ((ma 30), .inl (cB, 40000, .inl fT)), ((ma 31), .inl (cI, 100, .inl fTS))]) [0, 1, 2] rfl
        have hD9 := hD.sub (ws' := [(h0, .inr (11, MO ma 1 sv_length sv_nodes sv_many sv_directories sv_runsFrom sv_runs sv_read sv_wrong sv_isNamed sv_goes sv_goesSize sv_goesAt sv_targetParts sv_isRoot)), ((ma 30), .inl (cB, 40000, .inl fT)), ((ma 31), .inl (cI, 100, .inl fTS))]) [0, 1, 2] (by decide +kernel) rfl
        exact W.iret (v := 0) hx hb hr (fun t ht hW => ⟨⟨0, 1, rfl, trivial, by rw [ht]; exact hP9, hD9⟩, hS.F ht⟩) hS.2.2 d_DiscMakerModel_target_63
      · skip
        have g14_27 : ¬ y.toInt < 0 := fun h8 => h_9 ((i_lt rfl (by decide)).mpr h8)
        refine lv_iload_n hx hb d_DiscMakerModel_target_17 rfl (lv_at hl 2 rfl) ?_
        refine lv_aload_n hx hb d_DiscMakerModel_target_18 rfl (lv_at hl 0 rfl) ?_
        refine va_get (D := D) (ci := 11) (v := .ref (ma 31)) (C := "DiscMakerModel") (T := F_DiscMakerModel) (N := 48) hx hb ht9 in_DiscMakerModel hown hK hP 0 rfl rfl 39 (by decide) (ht9 _ k1470) (fun _ h9 => h9) rfl d_DiscMakerModel_target_19 ?_
        refine lv_iload_n hx hb d_DiscMakerModel_target_22 rfl (lv_at hl 1 rfl) ?_
        refine va_iald hx hb hK hP 2 1 rfl rfl (vp_in_iff.mpr ⟨by omega, by omega⟩) d_DiscMakerModel_target_23 ?_
        refine lv_topi (fun v1 e_v1 => ?_)
        have t_v1 : 0 ≤ v1.toInt ∧ v1.toInt ≤ 400 := by
          rw [e_v1]; exact hfTS _ (by have := i_cl (a := x) (by omega); omega)
        refine lv_icmp_ge (tgt := 31) hx hb d_DiscMakerModel_target_24 (by decide) (fun h_9 => ?_) (fun h_9 => ?_)
        · skip
          have g24_42 : v1.toInt ≤ y.toInt := (i_le rfl rfl).mp h_9
          refine lv_iconst (v := 1) hx hb d_DiscMakerModel_target_31 (by decide) ?_
          refine va_put (D := D) (ci := 11) (v := .int 1) (ty := .int) (C := "DiscMakerModel") (T := F_DiscMakerModel) (N := 48) hx hb ht9 in_DiscMakerModel t_DiscMakerModel t_DiscMakerModel_ok n_DiscMakerModel hown hK hP hD hS 0 rfl rfl 0 (by decide) (ht9 _ k1431) (fun _ h9 => h9) rfl (by decide +kernel) rfl rfl (Nat.le_of_ble_eq_true rfl) d_DiscMakerModel_target_32 (fun H locs hP hD hS => ?_)
          have hP : va_P D CL [(h0, .inr (11, MO ma 1 sv_length sv_nodes sv_many sv_directories sv_runsFrom sv_runs sv_read sv_wrong sv_isNamed sv_goes sv_goesSize sv_goesAt sv_targetParts sv_isRoot)), ((ma 30), .inl (cB, 40000, .inl fT)), ((ma 31), .inl (cI, 100, .inl fTS))] H := hP
          have hD : va_D A [(h0, .inr (11, MO ma 1 sv_length sv_nodes sv_many sv_directories sv_runsFrom sv_runs sv_read sv_wrong sv_isNamed sv_goes sv_goesSize sv_goesAt sv_targetParts sv_isRoot)), ((ma 30), .inl (cB, 40000, .inl fT)), ((ma 31), .inl (cI, 100, .inl fTS))] := hD
          refine lv_aload_n hx hb d_DiscMakerModel_target_35 rfl (lv_at hl 0 rfl) ?_
          refine va_get (D := D) (ci := 11) (v := .int 1) (C := "DiscMakerModel") (T := F_DiscMakerModel) (N := 48) hx hb ht9 in_DiscMakerModel hown hK hP 0 rfl rfl 0 (by decide) (ht9 _ k1431) (fun _ h9 => h9) rfl d_DiscMakerModel_target_36 ?_
          refine lv_iconst (v := 1) hx hb d_DiscMakerModel_target_39 (by decide) ?_
          refine lv_icmp_ne (tgt := 47) hx hb d_DiscMakerModel_target_40 (by decide) (fun h_9 => absurd (by decide) h_9) (fun _ => ?_)
          refine lv_iconst (v := 0) hx hb d_DiscMakerModel_target_43 (by decide) ?_
          refine lv_goto (tgt := 63) hx hb d_DiscMakerModel_target_44 (by decide) ?_
          have hP9 := hP.sub (ws' := [(h0, .inr (11, MO ma 1 sv_length sv_nodes sv_many sv_directories sv_runsFrom sv_runs sv_read sv_wrong sv_isNamed sv_goes sv_goesSize sv_goesAt sv_targetParts sv_isRoot)), ((ma 30), .inl (cB, 40000, .inl fT)), ((ma 31), .inl (cI, 100, .inl fTS))]) [0, 1, 2] rfl
          have hD9 := hD.sub (ws' := [(h0, .inr (11, MO ma 1 sv_length sv_nodes sv_many sv_directories sv_runsFrom sv_runs sv_read sv_wrong sv_isNamed sv_goes sv_goesSize sv_goesAt sv_targetParts sv_isRoot)), ((ma 30), .inl (cB, 40000, .inl fT)), ((ma 31), .inl (cI, 100, .inl fTS))]) [0, 1, 2] (by decide +kernel) rfl
          exact W.iret (v := 0) hx hb hr (fun t ht hW => ⟨⟨0, 1, rfl, trivial, by rw [ht]; exact hP9, hD9⟩, hS.F ht⟩) hS.2.2 d_DiscMakerModel_target_63
        · skip
          have g24_42 : ¬ v1.toInt ≤ y.toInt := fun h8 => h_9 ((i_le rfl rfl).mpr h8)
          refine lv_iconst (v := 0) hx hb d_DiscMakerModel_target_27 (by decide) ?_
          refine lv_goto (tgt := 32) hx hb d_DiscMakerModel_target_28 (by decide) ?_
          refine va_put (D := D) (ci := 11) (v := .int 0) (ty := .int) (C := "DiscMakerModel") (T := F_DiscMakerModel) (N := 48) hx hb ht9 in_DiscMakerModel t_DiscMakerModel t_DiscMakerModel_ok n_DiscMakerModel hown hK hP hD hS 0 rfl rfl 0 (by decide) (ht9 _ k1431) (fun _ h9 => h9) rfl (by decide +kernel) rfl rfl (Nat.le_of_ble_eq_true rfl) d_DiscMakerModel_target_32 (fun H locs hP hD hS => ?_)
          have hP : va_P D CL [(h0, .inr (11, MO ma 0 sv_length sv_nodes sv_many sv_directories sv_runsFrom sv_runs sv_read sv_wrong sv_isNamed sv_goes sv_goesSize sv_goesAt sv_targetParts sv_isRoot)), ((ma 30), .inl (cB, 40000, .inl fT)), ((ma 31), .inl (cI, 100, .inl fTS))] H := hP
          have hD : va_D A [(h0, .inr (11, MO ma 0 sv_length sv_nodes sv_many sv_directories sv_runsFrom sv_runs sv_read sv_wrong sv_isNamed sv_goes sv_goesSize sv_goesAt sv_targetParts sv_isRoot)), ((ma 30), .inl (cB, 40000, .inl fT)), ((ma 31), .inl (cI, 100, .inl fTS))] := hD
          refine lv_aload_n hx hb d_DiscMakerModel_target_35 rfl (lv_at hl 0 rfl) ?_
          refine va_get (D := D) (ci := 11) (v := .int 0) (C := "DiscMakerModel") (T := F_DiscMakerModel) (N := 48) hx hb ht9 in_DiscMakerModel hown hK hP 0 rfl rfl 0 (by decide) (ht9 _ k1431) (fun _ h9 => h9) rfl d_DiscMakerModel_target_36 ?_
          refine lv_iconst (v := 1) hx hb d_DiscMakerModel_target_39 (by decide) ?_
          refine lv_icmp_ne (tgt := 47) hx hb d_DiscMakerModel_target_40 (by decide) (fun _ => ?_) (fun h_9 => absurd h_9 (by decide))
          refine lv_aload_n hx hb d_DiscMakerModel_target_47 rfl (lv_at hl 0 rfl) ?_
          refine va_get (D := D) (ci := 11) (v := .ref (ma 30)) (C := "DiscMakerModel") (T := F_DiscMakerModel) (N := 48) hx hb ht9 in_DiscMakerModel hown hK hP 0 rfl rfl 38 (by decide) (ht9 _ k1469) (fun _ h9 => h9) rfl d_DiscMakerModel_target_48 ?_
          refine lv_sipush (v := 400) hx hb d_DiscMakerModel_target_51 (by decide) ?_
          refine lv_iload_n hx hb d_DiscMakerModel_target_54 rfl (lv_at hl 1 rfl) ?_
          refine lv_imul hx hb d_DiscMakerModel_target_55 ?_
          refine lv_topi (fun v2 e_v2 => ?_)
          have t_v2 : v2.toInt = 400 * x.toInt := by rw [e_v2]; exact i_mul (by decide) rfl (by omega) (by omega)
          refine lv_iload_n hx hb d_DiscMakerModel_target_56 rfl (lv_at hl 2 rfl) ?_
          refine lv_iadd hx hb d_DiscMakerModel_target_57 ?_
          refine lv_topi (fun v3 e_v3 => ?_)
          have t_v3 : v3.toInt = v2.toInt + y.toInt := by rw [e_v3]; exact i_add rfl rfl (by omega) (by omega)
          refine va_bald hx hb hK hP 1 0 rfl rfl (vp_in_iff.mpr ⟨by omega, by omega⟩) d_DiscMakerModel_target_58 ?_
          refine lv_topi (fun v4 e_v4 => ?_)
          refine lv_sipush (v := 255) hx hb d_DiscMakerModel_target_59 (by decide) ?_
          refine lv_iand hx hb d_DiscMakerModel_target_62 ?_
          refine lv_topi (fun v5 e_v5 => ?_)
          have t_v5 : 0 ≤ v5.toInt ∧ v5.toInt ≤ 255 := by rw [e_v5]; exact i_and (by decide) (by decide)
          have hP9 := hP.sub (ws' := [(h0, .inr (11, MO ma 0 sv_length sv_nodes sv_many sv_directories sv_runsFrom sv_runs sv_read sv_wrong sv_isNamed sv_goes sv_goesSize sv_goesAt sv_targetParts sv_isRoot)), ((ma 30), .inl (cB, 40000, .inl fT)), ((ma 31), .inl (cI, 100, .inl fTS))]) [0, 1, 2] rfl
          have hD9 := hD.sub (ws' := [(h0, .inr (11, MO ma 0 sv_length sv_nodes sv_many sv_directories sv_runsFrom sv_runs sv_read sv_wrong sv_isNamed sv_goes sv_goesSize sv_goesAt sv_targetParts sv_isRoot)), ((ma 30), .inl (cB, 40000, .inl fT)), ((ma 31), .inl (cI, 100, .inl fTS))]) [0, 1, 2] (by decide +kernel) rfl
          exact W.iret (v := v5) hx hb hr (fun t ht hW => ⟨⟨v5, 0, rfl, trivial, by rw [ht]; exact hP9, hD9⟩, hS.F ht⟩) hS.2.2 d_DiscMakerModel_target_63

theorem d_DiscMakerModel_read_0 : decode b_DiscMakerModel_read 0 = .ok (.aload_n 0, 1) := by decide +kernel
theorem d_DiscMakerModel_read_1 : decode b_DiscMakerModel_read 1 = .ok (.iload_n 1, 1) := by decide +kernel
theorem d_DiscMakerModel_read_2 : decode b_DiscMakerModel_read 2 = .ok (.ifCond .lt 38, 3) := by decide +kernel
theorem d_DiscMakerModel_read_5 : decode b_DiscMakerModel_read 5 = .ok (.iload_n 1, 1) := by decide +kernel
theorem d_DiscMakerModel_read_6 : decode b_DiscMakerModel_read 6 = .ok (.aload_n 0, 1) := by decide +kernel
theorem d_DiscMakerModel_read_7 : decode b_DiscMakerModel_read 7 = .ok (.getfield 323, 3) := by decide +kernel
theorem d_DiscMakerModel_read_10 : decode b_DiscMakerModel_read 10 = .ok (.if_icmp .ge 30, 3) := by decide +kernel
theorem d_DiscMakerModel_read_13 : decode b_DiscMakerModel_read 13 = .ok (.aload_n 0, 1) := by decide +kernel
theorem d_DiscMakerModel_read_14 : decode b_DiscMakerModel_read 14 = .ok (.iload_n 1, 1) := by decide +kernel
theorem d_DiscMakerModel_read_15 : decode b_DiscMakerModel_read 15 = .ok (.invokevirtual 386, 3) := by decide +kernel
theorem d_DiscMakerModel_read_18 : decode b_DiscMakerModel_read 18 = .ok (.iconst 1, 1) := by decide +kernel
theorem d_DiscMakerModel_read_19 : decode b_DiscMakerModel_read 19 = .ok (.if_icmp .ne 21, 3) := by decide +kernel
theorem d_DiscMakerModel_read_22 : decode b_DiscMakerModel_read 22 = .ok (.iload_n 2, 1) := by decide +kernel
theorem d_DiscMakerModel_read_23 : decode b_DiscMakerModel_read 23 = .ok (.ifCond .lt 17, 3) := by decide +kernel
theorem d_DiscMakerModel_read_26 : decode b_DiscMakerModel_read 26 = .ok (.iload_n 2, 1) := by decide +kernel
theorem d_DiscMakerModel_read_27 : decode b_DiscMakerModel_read 27 = .ok (.aload_n 0, 1) := by decide +kernel
theorem d_DiscMakerModel_read_28 : decode b_DiscMakerModel_read 28 = .ok (.getfield 83, 3) := by decide +kernel
theorem d_DiscMakerModel_read_31 : decode b_DiscMakerModel_read 31 = .ok (.iload_n 1, 1) := by decide +kernel
theorem d_DiscMakerModel_read_32 : decode b_DiscMakerModel_read 32 = .ok (.iaload, 1) := by decide +kernel
theorem d_DiscMakerModel_read_33 : decode b_DiscMakerModel_read 33 = .ok (.if_icmp .ge 7, 3) := by decide +kernel
theorem d_DiscMakerModel_read_36 : decode b_DiscMakerModel_read 36 = .ok (.iconst 0, 1) := by decide +kernel
theorem d_DiscMakerModel_read_37 : decode b_DiscMakerModel_read 37 = .ok (.goto 4, 3) := by decide +kernel
theorem d_DiscMakerModel_read_40 : decode b_DiscMakerModel_read 40 = .ok (.iconst 1, 1) := by decide +kernel
theorem d_DiscMakerModel_read_41 : decode b_DiscMakerModel_read 41 = .ok (.putfield 118, 3) := by decide +kernel
theorem d_DiscMakerModel_read_44 : decode b_DiscMakerModel_read 44 = .ok (.aload_n 0, 1) := by decide +kernel
theorem d_DiscMakerModel_read_45 : decode b_DiscMakerModel_read 45 = .ok (.getfield 118, 3) := by decide +kernel
theorem d_DiscMakerModel_read_48 : decode b_DiscMakerModel_read 48 = .ok (.iconst 1, 1) := by decide +kernel
theorem d_DiscMakerModel_read_49 : decode b_DiscMakerModel_read 49 = .ok (.if_icmp .ne 5, 3) := by decide +kernel
theorem d_DiscMakerModel_read_52 : decode b_DiscMakerModel_read 52 = .ok (.iconst 0, 1) := by decide +kernel
theorem d_DiscMakerModel_read_53 : decode b_DiscMakerModel_read 53 = .ok (.ireturn, 1) := by decide +kernel
theorem d_DiscMakerModel_read_54 : decode b_DiscMakerModel_read 54 = .ok (.ldc2_w 321, 3) := by decide +kernel
theorem d_DiscMakerModel_read_57 : decode b_DiscMakerModel_read 57 = .ok (.aload_n 0, 1) := by decide +kernel
theorem d_DiscMakerModel_read_58 : decode b_DiscMakerModel_read 58 = .ok (.getfield 86, 3) := by decide +kernel
theorem d_DiscMakerModel_read_61 : decode b_DiscMakerModel_read 61 = .ok (.iload_n 1, 1) := by decide +kernel
theorem d_DiscMakerModel_read_62 : decode b_DiscMakerModel_read 62 = .ok (.iaload, 1) := by decide +kernel
theorem d_DiscMakerModel_read_63 : decode b_DiscMakerModel_read 63 = .ok (.i2l, 1) := by decide +kernel
theorem d_DiscMakerModel_read_64 : decode b_DiscMakerModel_read 64 = .ok (.lmul, 1) := by decide +kernel
theorem d_DiscMakerModel_read_65 : decode b_DiscMakerModel_read 65 = .ok (.iload_n 2, 1) := by decide +kernel
theorem d_DiscMakerModel_read_66 : decode b_DiscMakerModel_read 66 = .ok (.i2l, 1) := by decide +kernel
theorem d_DiscMakerModel_read_67 : decode b_DiscMakerModel_read 67 = .ok (.ladd, 1) := by decide +kernel
theorem d_DiscMakerModel_read_68 : decode b_DiscMakerModel_read 68 = .ok (.lstore_n 3, 1) := by decide +kernel
theorem d_DiscMakerModel_read_69 : decode b_DiscMakerModel_read 69 = .ok (.lload_n 3, 1) := by decide +kernel
theorem d_DiscMakerModel_read_70 : decode b_DiscMakerModel_read 70 = .ok (.ldc2_w 321, 3) := by decide +kernel
theorem d_DiscMakerModel_read_73 : decode b_DiscMakerModel_read 73 = .ok (.aload_n 0, 1) := by decide +kernel
theorem d_DiscMakerModel_read_74 : decode b_DiscMakerModel_read 74 = .ok (.getfield 282, 3) := by decide +kernel
theorem d_DiscMakerModel_read_77 : decode b_DiscMakerModel_read 77 = .ok (.i2l, 1) := by decide +kernel
theorem d_DiscMakerModel_read_78 : decode b_DiscMakerModel_read 78 = .ok (.lmul, 1) := by decide +kernel
theorem d_DiscMakerModel_read_79 : decode b_DiscMakerModel_read 79 = .ok (.lcmp, 1) := by decide +kernel
theorem d_DiscMakerModel_read_80 : decode b_DiscMakerModel_read 80 = .ok (.ifCond .ge 12, 3) := by decide +kernel
theorem d_DiscMakerModel_read_83 : decode b_DiscMakerModel_read 83 = .ok (.aload_n 0, 1) := by decide +kernel
theorem d_DiscMakerModel_read_84 : decode b_DiscMakerModel_read 84 = .ok (.lload_n 3, 1) := by decide +kernel
theorem d_DiscMakerModel_read_85 : decode b_DiscMakerModel_read 85 = .ok (.l2i, 1) := by decide +kernel
theorem d_DiscMakerModel_read_86 : decode b_DiscMakerModel_read 86 = .ok (.invokevirtual 303, 3) := by decide +kernel
theorem d_DiscMakerModel_read_89 : decode b_DiscMakerModel_read 89 = .ok (.goto 4, 3) := by decide +kernel
theorem d_DiscMakerModel_read_92 : decode b_DiscMakerModel_read 92 = .ok (.iconst 0, 1) := by decide +kernel
theorem d_DiscMakerModel_read_93 : decode b_DiscMakerModel_read 93 = .ok (.ireturn, 1) := by decide +kernel
set_option maxHeartbeats 4000000 in
set_option maxRecDepth 100000 in
theorem m_read (l : Launch) (D : va_G) (cB cI cJ cZ cN cF : ClassId) (sz : Nat) (h0 : Nat) (ma : Nat → Nat) (sv_thrown sv_length sv_nodes sv_many sv_directories sv_runsFrom sv_runs sv_read sv_wrong sv_isNamed sv_goes sv_goesSize sv_goesAt sv_targetParts sv_isRoot : Int32) (F : Nat → Int64) (fD : Nat → Int32) (fB : Nat → Int32) (fP : Nat → Int32) (fM : Nat → Int32) (x : Int32) (y : Int32) (hm0 : 0 ≤ sv_many.toInt ∧ sv_many.toInt ≤ 180) (hrd : 0 ≤ sv_read.toInt ∧ sv_read.toInt ≤ 99) (hR2 : R2 sv_read.toInt fB fP) : Met l y_DiscMakerModel_read w_DiscMakerModel_read ({ frames := 1, cells := 0, slots := 0, locals := 21 }) (va_Pc [.ref h0, .int x, .int y] (fun U => U.heap.size = sz ∧ va_P D CL [(h0, .inr (11, MO ma sv_thrown sv_length sv_nodes sv_many sv_directories sv_runsFrom sv_runs sv_read sv_wrong sv_isNamed sv_goes sv_goesSize sv_goesAt sv_targetParts sv_isRoot)), ((ma 16), .inl (cJ, 46080, .inr (.inl F))), ((ma 22), .inl (cZ, 100, .inl fD)), ((ma 23), .inl (cI, 100, .inl fB)), ((ma 24), .inl (cI, 100, .inl fP)), ((ma 25), .inl (cI, 100, .inl fM))] U.heap ∧ va_K D CL (TY cB cI cJ cZ cN cF) U ∧ NN U ∧ va_D (fun _ => True) [(h0, .inr (11, MO ma sv_thrown sv_length sv_nodes sv_many sv_directories sv_runsFrom sv_runs sv_read sv_wrong sv_isNamed sv_goes sv_goesSize sv_goesAt sv_targetParts sv_isRoot)), ((ma 16), .inl (cJ, 46080, .inr (.inl F))), ((ma 22), .inl (cZ, 100, .inl fD)), ((ma 23), .inl (cI, 100, .inl fB)), ((ma 24), .inl (cI, 100, .inl fP)), ((ma 25), .inl (cI, 100, .inl fM))])) (va_Qi (fun (r : Int32) (u : Int32) => True) (fun (u : Int32) (t : State) => match u with | th => va_P D CL [(h0, .inr (11, MO ma th sv_length sv_nodes sv_many sv_directories sv_runsFrom sv_runs sv_read sv_wrong sv_isNamed sv_goes sv_goesSize sv_goesAt sv_targetParts sv_isRoot)), ((ma 16), .inl (cJ, 46080, .inr (.inl F))), ((ma 22), .inl (cZ, 100, .inl fD)), ((ma 23), .inl (cI, 100, .inl fB)), ((ma 24), .inl (cI, 100, .inl fP)), ((ma 25), .inl (cI, 100, .inl fM))] t.heap ∧ va_D (va_A [(h0, .inr (11, MO ma sv_thrown sv_length sv_nodes sv_many sv_directories sv_runsFrom sv_runs sv_read sv_wrong sv_isNamed sv_goes sv_goesSize sv_goesAt sv_targetParts sv_isRoot)), ((ma 16), .inl (cJ, 46080, .inr (.inl F))), ((ma 22), .inl (cZ, 100, .inl fD)), ((ma 23), .inl (cI, 100, .inl fB)), ((ma 24), .inl (cI, 100, .inl fP)), ((ma 25), .inl (cI, 100, .inl fM))] sz) [(h0, .inr (11, MO ma th sv_length sv_nodes sv_many sv_directories sv_runsFrom sv_runs sv_read sv_wrong sv_isNamed sv_goes sv_goesSize sv_goesAt sv_targetParts sv_isRoot)), ((ma 16), .inl (cJ, 46080, .inr (.inl F))), ((ma 22), .inl (cZ, 100, .inl fD)), ((ma 23), .inl (cI, 100, .inl fB)), ((ma 24), .inl (cI, 100, .inl fP)), ((ma 25), .inl (cI, 100, .inl fM))]) (va_A [(h0, .inr (11, MO ma sv_thrown sv_length sv_nodes sv_many sv_directories sv_runsFrom sv_runs sv_read sv_wrong sv_isNamed sv_goes sv_goesSize sv_goesAt sv_targetParts sv_isRoot)), ((ma 16), .inl (cJ, 46080, .inr (.inl F))), ((ma 22), .inl (cZ, 100, .inl fD)), ((ma 23), .inl (cI, 100, .inl fB)), ((ma 24), .inl (cI, 100, .inl fP)), ((ma 25), .inl (cI, 100, .inl fM))] sz)) 0 0 (va_A [(h0, .inr (11, MO ma sv_thrown sv_length sv_nodes sv_many sv_directories sv_runsFrom sv_runs sv_read sv_wrong sv_isNamed sv_goes sv_goesSize sv_goesAt sv_targetParts sv_isRoot)), ((ma 16), .inl (cJ, 46080, .inr (.inl F))), ((ma 22), .inl (cZ, 100, .inl fD)), ((ma 23), .inl (cI, 100, .inl fB)), ((ma 24), .inl (cI, 100, .inl fP)), ((ma 25), .inl (cI, 100, .inl fM))] sz) := by
  refine Met.ofW (cc := b_DiscMakerModel_read) (maxL := 5) (ret := some .int) (by decide) rfl ?_
  intro p e s m args below meth c s₁ B hml hv
  obtain ⟨rfl, hsz, hP, hK, hN, hD0⟩ := hv
  have hx := B.exec
  have hb := B.bytes
  have hr := B.returns
  have hts := atoms_spec (ws := w_DiscMakerModel_read) B.pre
  have ht9 := fun (w : Cond) (h : w ∈ lw_g) => hts w (List.mem_cons_of_mem _ h)
  have hown : s.vm.findClass "DiscMakerModel" = some m.cls := findClass_of_methodNamed B.named
  have hlocks := B.notSynchronized
  subst hsz
  have hD := hD0.self (sz := s.heap.size)
  generalize hAe : va_A [(h0, .inr (11, MO ma sv_thrown sv_length sv_nodes sv_many sv_directories sv_runsFrom sv_runs sv_read sv_wrong sv_isNamed sv_goes sv_goesSize sv_goesAt sv_targetParts sv_isRoot)), ((ma 16), .inl (cJ, 46080, .inr (.inl F))), ((ma 22), .inl (cZ, 100, .inl fD)), ((ma 23), .inl (cI, 100, .inl fB)), ((ma 24), .inl (cI, 100, .inl fP)), ((ma 25), .inl (cI, 100, .inl fM))] s.heap.size = A at hD ⊢
  have hA : ∀ q : Nat, s.heap.size ≤ q → A q := fun q h => by rw [← hAe]; exact Or.inr h
  have hS : va_S A s.heap s.heap [] := va_S.rf
  have hP : va_P D CL [(h0, .inr (11, MO ma sv_thrown sv_length sv_nodes sv_many sv_directories sv_runsFrom sv_runs sv_read sv_wrong sv_isNamed sv_goes sv_goesSize sv_goesAt sv_targetParts sv_isRoot)), ((ma 16), .inl (cJ, 46080, .inr (.inl F))), ((ma 22), .inl (cZ, 100, .inl fD)), ((ma 23), .inl (cI, 100, .inl fB)), ((ma 24), .inl (cI, 100, .inl fP)), ((ma 25), .inl (cI, 100, .inl fM))] s.heap := hP
  have hl := lv_entry [.ref h0, .int x, .int y] (n := 5) (Nat.le_of_ble_eq_true rfl)
  rw [lg_entry_eq]
  generalize (lg_sl [.ref h0, .int x, .int y] ++ List.replicate (5 - (lg_sl [.ref h0, .int x, .int y]).length) Slot.unset).toArray = ls at hl ⊢
  have hl : lv_has ls 5 [(0, .ref h0), (1, .int x), (2, .int y)] := hl
  have L_m1 : ((-1) : Int32).toInt = (-1) := by decide
  have L_0 : (0 : Int32).toInt = 0 := by decide
  have L_1 : (1 : Int32).toInt = 1 := by decide
  refine lv_aload_n hx hb d_DiscMakerModel_read_0 rfl (lv_at hl 0 rfl) ?_
  refine lv_iload_n hx hb d_DiscMakerModel_read_1 rfl (lv_at hl 1 rfl) ?_
  refine lv_if_lt (tgt := 40) hx hb d_DiscMakerModel_read_2 (by decide) (fun h_9 => ?_) (fun h_9 => ?_)
  · skip
    have g2_3 : x.toInt < 0 := (i_lt rfl (by decide)).mp h_9
    refine lv_iconst (v := 1) hx hb d_DiscMakerModel_read_40 (by decide) ?_
    refine va_put (D := D) (ci := 11) (v := .int 1) (ty := .int) (C := "DiscMakerModel") (T := F_DiscMakerModel) (N := 48) hx hb ht9 in_DiscMakerModel t_DiscMakerModel t_DiscMakerModel_ok n_DiscMakerModel hown hK hP hD hS 0 rfl rfl 0 (by decide) (ht9 _ k1431) (fun _ h9 => h9) rfl (by decide +kernel) rfl rfl (Nat.le_of_ble_eq_true rfl) d_DiscMakerModel_read_41 (fun H locs hP hD hS => ?_)
    have hP : va_P D CL [(h0, .inr (11, MO ma 1 sv_length sv_nodes sv_many sv_directories sv_runsFrom sv_runs sv_read sv_wrong sv_isNamed sv_goes sv_goesSize sv_goesAt sv_targetParts sv_isRoot)), ((ma 16), .inl (cJ, 46080, .inr (.inl F))), ((ma 22), .inl (cZ, 100, .inl fD)), ((ma 23), .inl (cI, 100, .inl fB)), ((ma 24), .inl (cI, 100, .inl fP)), ((ma 25), .inl (cI, 100, .inl fM))] H := hP
    have hD : va_D A [(h0, .inr (11, MO ma 1 sv_length sv_nodes sv_many sv_directories sv_runsFrom sv_runs sv_read sv_wrong sv_isNamed sv_goes sv_goesSize sv_goesAt sv_targetParts sv_isRoot)), ((ma 16), .inl (cJ, 46080, .inr (.inl F))), ((ma 22), .inl (cZ, 100, .inl fD)), ((ma 23), .inl (cI, 100, .inl fB)), ((ma 24), .inl (cI, 100, .inl fP)), ((ma 25), .inl (cI, 100, .inl fM))] := hD
    refine lv_aload_n hx hb d_DiscMakerModel_read_44 rfl (lv_at hl 0 rfl) ?_
    refine va_get (D := D) (ci := 11) (v := .int 1) (C := "DiscMakerModel") (T := F_DiscMakerModel) (N := 48) hx hb ht9 in_DiscMakerModel hown hK hP 0 rfl rfl 0 (by decide) (ht9 _ k1431) (fun _ h9 => h9) rfl d_DiscMakerModel_read_45 ?_
    refine lv_iconst (v := 1) hx hb d_DiscMakerModel_read_48 (by decide) ?_
    refine lv_icmp_ne (tgt := 54) hx hb d_DiscMakerModel_read_49 (by decide) (fun h_9 => absurd (by decide) h_9) (fun _ => ?_)
    refine lv_iconst (v := 0) hx hb d_DiscMakerModel_read_52 (by decide) ?_
    have hP9 := hP.sub (ws' := [(h0, .inr (11, MO ma 1 sv_length sv_nodes sv_many sv_directories sv_runsFrom sv_runs sv_read sv_wrong sv_isNamed sv_goes sv_goesSize sv_goesAt sv_targetParts sv_isRoot)), ((ma 16), .inl (cJ, 46080, .inr (.inl F))), ((ma 22), .inl (cZ, 100, .inl fD)), ((ma 23), .inl (cI, 100, .inl fB)), ((ma 24), .inl (cI, 100, .inl fP)), ((ma 25), .inl (cI, 100, .inl fM))]) [0, 1, 2, 3, 4, 5] rfl
    have hD9 := hD.sub (ws' := [(h0, .inr (11, MO ma 1 sv_length sv_nodes sv_many sv_directories sv_runsFrom sv_runs sv_read sv_wrong sv_isNamed sv_goes sv_goesSize sv_goesAt sv_targetParts sv_isRoot)), ((ma 16), .inl (cJ, 46080, .inr (.inl F))), ((ma 22), .inl (cZ, 100, .inl fD)), ((ma 23), .inl (cI, 100, .inl fB)), ((ma 24), .inl (cI, 100, .inl fP)), ((ma 25), .inl (cI, 100, .inl fM))]) [0, 1, 2, 3, 4, 5] (by decide +kernel) rfl
    exact W.iret (v := 0) hx hb hr (fun t ht hW => ⟨⟨0, 1, rfl, trivial, by rw [ht]; exact hP9, hD9⟩, hS.F ht⟩) hS.2.2 d_DiscMakerModel_read_53
  · skip
    have g2_3 : ¬ x.toInt < 0 := fun h8 => h_9 ((i_lt rfl (by decide)).mpr h8)
    refine lv_iload_n hx hb d_DiscMakerModel_read_5 rfl (lv_at hl 1 rfl) ?_
    refine lv_aload_n hx hb d_DiscMakerModel_read_6 rfl (lv_at hl 0 rfl) ?_
    refine va_get (D := D) (ci := 11) (v := .int sv_read) (C := "DiscMakerModel") (T := F_DiscMakerModel) (N := 48) hx hb ht9 in_DiscMakerModel hown hK hP 0 rfl rfl 28 (by decide) (ht9 _ k1459) (fun _ h9 => h9) rfl d_DiscMakerModel_read_7 ?_
    refine lv_icmp_ge (tgt := 40) hx hb d_DiscMakerModel_read_10 (by decide) (fun h_9 => ?_) (fun h_9 => ?_)
    · skip
      have g10_15 : sv_read.toInt ≤ x.toInt := (i_le rfl rfl).mp h_9
      refine lv_iconst (v := 1) hx hb d_DiscMakerModel_read_40 (by decide) ?_
      refine va_put (D := D) (ci := 11) (v := .int 1) (ty := .int) (C := "DiscMakerModel") (T := F_DiscMakerModel) (N := 48) hx hb ht9 in_DiscMakerModel t_DiscMakerModel t_DiscMakerModel_ok n_DiscMakerModel hown hK hP hD hS 0 rfl rfl 0 (by decide) (ht9 _ k1431) (fun _ h9 => h9) rfl (by decide +kernel) rfl rfl (Nat.le_of_ble_eq_true rfl) d_DiscMakerModel_read_41 (fun H locs hP hD hS => ?_)
      have hP : va_P D CL [(h0, .inr (11, MO ma 1 sv_length sv_nodes sv_many sv_directories sv_runsFrom sv_runs sv_read sv_wrong sv_isNamed sv_goes sv_goesSize sv_goesAt sv_targetParts sv_isRoot)), ((ma 16), .inl (cJ, 46080, .inr (.inl F))), ((ma 22), .inl (cZ, 100, .inl fD)), ((ma 23), .inl (cI, 100, .inl fB)), ((ma 24), .inl (cI, 100, .inl fP)), ((ma 25), .inl (cI, 100, .inl fM))] H := hP
      have hD : va_D A [(h0, .inr (11, MO ma 1 sv_length sv_nodes sv_many sv_directories sv_runsFrom sv_runs sv_read sv_wrong sv_isNamed sv_goes sv_goesSize sv_goesAt sv_targetParts sv_isRoot)), ((ma 16), .inl (cJ, 46080, .inr (.inl F))), ((ma 22), .inl (cZ, 100, .inl fD)), ((ma 23), .inl (cI, 100, .inl fB)), ((ma 24), .inl (cI, 100, .inl fP)), ((ma 25), .inl (cI, 100, .inl fM))] := hD
      refine lv_aload_n hx hb d_DiscMakerModel_read_44 rfl (lv_at hl 0 rfl) ?_
      refine va_get (D := D) (ci := 11) (v := .int 1) (C := "DiscMakerModel") (T := F_DiscMakerModel) (N := 48) hx hb ht9 in_DiscMakerModel hown hK hP 0 rfl rfl 0 (by decide) (ht9 _ k1431) (fun _ h9 => h9) rfl d_DiscMakerModel_read_45 ?_
      refine lv_iconst (v := 1) hx hb d_DiscMakerModel_read_48 (by decide) ?_
      refine lv_icmp_ne (tgt := 54) hx hb d_DiscMakerModel_read_49 (by decide) (fun h_9 => absurd (by decide) h_9) (fun _ => ?_)
      refine lv_iconst (v := 0) hx hb d_DiscMakerModel_read_52 (by decide) ?_
      have hP9 := hP.sub (ws' := [(h0, .inr (11, MO ma 1 sv_length sv_nodes sv_many sv_directories sv_runsFrom sv_runs sv_read sv_wrong sv_isNamed sv_goes sv_goesSize sv_goesAt sv_targetParts sv_isRoot)), ((ma 16), .inl (cJ, 46080, .inr (.inl F))), ((ma 22), .inl (cZ, 100, .inl fD)), ((ma 23), .inl (cI, 100, .inl fB)), ((ma 24), .inl (cI, 100, .inl fP)), ((ma 25), .inl (cI, 100, .inl fM))]) [0, 1, 2, 3, 4, 5] rfl
      have hD9 := hD.sub (ws' := [(h0, .inr (11, MO ma 1 sv_length sv_nodes sv_many sv_directories sv_runsFrom sv_runs sv_read sv_wrong sv_isNamed sv_goes sv_goesSize sv_goesAt sv_targetParts sv_isRoot)), ((ma 16), .inl (cJ, 46080, .inr (.inl F))), ((ma 22), .inl (cZ, 100, .inl fD)), ((ma 23), .inl (cI, 100, .inl fB)), ((ma 24), .inl (cI, 100, .inl fP)), ((ma 25), .inl (cI, 100, .inl fM))]) [0, 1, 2, 3, 4, 5] (by decide +kernel) rfl
      exact W.iret (v := 0) hx hb hr (fun t ht hW => ⟨⟨0, 1, rfl, trivial, by rw [ht]; exact hP9, hD9⟩, hS.F ht⟩) hS.2.2 d_DiscMakerModel_read_53
    · skip
      have g10_15 : ¬ sv_read.toInt ≤ x.toInt := fun h8 => h_9 ((i_le rfl rfl).mpr h8)
      refine lv_aload_n hx hb d_DiscMakerModel_read_13 rfl (lv_at hl 0 rfl) ?_
      refine lv_iload_n hx hb d_DiscMakerModel_read_14 rfl (lv_at hl 1 rfl) ?_
      have hPc := hP.sub (ws' := [(h0, .inr (11, MO ma sv_thrown sv_length sv_nodes sv_many sv_directories sv_runsFrom sv_runs sv_read sv_wrong sv_isNamed sv_goes sv_goesSize sv_goesAt sv_targetParts sv_isRoot)), ((ma 22), .inl (cZ, 100, .inl fD)), ((ma 25), .inl (cI, 100, .inl fM))]) [0, 2, 5] rfl
      have hDc := hD.sub (ws' := [(h0, .inr (11, MO ma sv_thrown sv_length sv_nodes sv_many sv_directories sv_runsFrom sv_runs sv_read sv_wrong sv_isNamed sv_goes sv_goesSize sv_goesAt sv_targetParts sv_isRoot)), ((ma 22), .inl (cZ, 100, .inl fD)), ((ma 25), .inl (cI, 100, .inl fM))]) [0, 2, 5] (by decide +kernel) rfl
      have hFc := va_free (wc := [(h0, .inr (11, MO ma sv_thrown sv_length sv_nodes sv_many sv_directories sv_runsFrom sv_runs sv_read sv_wrong sv_isNamed sv_goes sv_goesSize sv_goesAt sv_targetParts sv_isRoot)), ((ma 22), .inl (cZ, 100, .inl fD)), ((ma 25), .inl (cI, 100, .inl fM))]) hD hS hA [0, 2, 5] rfl
      have hkc : 0 ≤ 0 := by decide
      have hks : 0 ≤ 0 := by decide
      refine va_calli (va_runV (C := "DiscMakerModel") (As := [.int x]) (rest := [.ref h0]) ⟨hx, hb, hml, hown, hts⟩ (m_sortOf l D cB cI cJ cZ cN cF s.heap.size h0 ma sv_thrown sv_length sv_nodes sv_many sv_directories sv_runsFrom sv_runs sv_read sv_wrong sv_isNamed sv_goes sv_goesSize sv_goesAt sv_targetParts sv_isRoot fD fM x (by (try dsimp only); first | assumption | omega | trivial)) (cwV 1 hts (lg_goodV k1898 k1900 k113 k125 kc_DiscMakerModel_sortOf) rfl rfl rfl (by decide +kernel) ⟨Nat.le_of_ble_eq_true rfl, Nat.le_of_ble_eq_true rfl⟩) ⟨fun a U g mk q => by obtain ⟨q0, q1, qP, qK, qN, qD⟩ := q; exact ⟨q0, q1, qP, va_K.moved (u := U) (U := U.calling g mk a) (Vm.Alike.refl U.vm) qK, qN.calling, qD⟩, va_recv hK hP (ci := 11) (q0 := 0) rfl rfl, fun U hU hW => ⟨rfl, by rw [hU], by rw [hU]; exact hPc, va_K.moved hW.alike hK, NN.warm hW hN, hDc.weaken (fun _ _ _ _ => trivial)⟩⟩ rfl rfl hl.1 rfl (lv_room (Nat.le_of_ble_eq_true rfl)) d_DiscMakerModel_read_15 ⟨hkc, hks⟩) hS (fun q _ h => hFc q h) hFc (fun r1 u t H1 locs ht hvm hp_r1 hB hz1 hk1 hS => ?_)
      obtain ⟨hP1, hD1⟩ := hB
      rw [ht] at hP1
      obtain ⟨hP, hD⟩ := va_join (wr := [((ma 16), .inl (cJ, 46080, .inr (.inl F))), ((ma 23), .inl (cI, 100, .inl fB)), ((ma 24), .inl (cI, 100, .inl fP))]) (w1 := [(h0, .inr (11, MO ma sv_thrown sv_length sv_nodes sv_many sv_directories sv_runsFrom sv_runs sv_read sv_wrong sv_isNamed sv_goes sv_goesSize sv_goesAt sv_targetParts sv_isRoot)), ((ma 22), .inl (cZ, 100, .inl fD)), ((ma 25), .inl (cI, 100, .inl fM))]) hP hD [0, 2, 5] [1, 3, 4] rfl rfl (by decide +kernel) (by decide +kernel) hk1 hFc hP1 hD1
      clear hPc hDc hFc hP1 hD1 hk1 hz1 hkc hks
      generalize H1 = H at hP hS ⊢
      have hP : va_P D CL [((ma 16), .inl (cJ, 46080, .inr (.inl F))), ((ma 23), .inl (cI, 100, .inl fB)), ((ma 24), .inl (cI, 100, .inl fP)), (h0, .inr (11, MO ma sv_thrown sv_length sv_nodes sv_many sv_directories sv_runsFrom sv_runs sv_read sv_wrong sv_isNamed sv_goes sv_goesSize sv_goesAt sv_targetParts sv_isRoot)), ((ma 22), .inl (cZ, 100, .inl fD)), ((ma 25), .inl (cI, 100, .inl fM))] H := hP
      have hD : va_D A [((ma 16), .inl (cJ, 46080, .inr (.inl F))), ((ma 23), .inl (cI, 100, .inl fB)), ((ma 24), .inl (cI, 100, .inl fP)), (h0, .inr (11, MO ma sv_thrown sv_length sv_nodes sv_many sv_directories sv_runsFrom sv_runs sv_read sv_wrong sv_isNamed sv_goes sv_goesSize sv_goesAt sv_targetParts sv_isRoot)), ((ma 22), .inl (cZ, 100, .inl fD)), ((ma 25), .inl (cI, 100, .inl fM))] := hD
      try dsimp only at hp_r1
      have hr_2 := hp_r1
      refine lv_iconst (v := 1) hx hb d_DiscMakerModel_read_18 (by decide) ?_
      refine lv_icmp_ne (tgt := 40) hx hb d_DiscMakerModel_read_19 (by decide) (fun h_9 => ?_) (fun h_9 => ?_)
      · skip
        have g19_28 : ¬ r1.toInt = 1 := fun h8 => h_9 ((i_eq rfl (by decide)).mpr h8)
        refine lv_iconst (v := 1) hx hb d_DiscMakerModel_read_40 (by decide) ?_
        refine va_put (D := D) (ci := 11) (v := .int 1) (ty := .int) (C := "DiscMakerModel") (T := F_DiscMakerModel) (N := 48) hx hb ht9 in_DiscMakerModel t_DiscMakerModel t_DiscMakerModel_ok n_DiscMakerModel hown hK hP hD hS 3 rfl rfl 0 (by decide) (ht9 _ k1431) (fun _ h9 => h9) rfl (by decide +kernel) rfl rfl (Nat.le_of_ble_eq_true rfl) d_DiscMakerModel_read_41 (fun H locs hP hD hS => ?_)
        have hP : va_P D CL [((ma 16), .inl (cJ, 46080, .inr (.inl F))), ((ma 23), .inl (cI, 100, .inl fB)), ((ma 24), .inl (cI, 100, .inl fP)), (h0, .inr (11, MO ma 1 sv_length sv_nodes sv_many sv_directories sv_runsFrom sv_runs sv_read sv_wrong sv_isNamed sv_goes sv_goesSize sv_goesAt sv_targetParts sv_isRoot)), ((ma 22), .inl (cZ, 100, .inl fD)), ((ma 25), .inl (cI, 100, .inl fM))] H := hP
        have hD : va_D A [((ma 16), .inl (cJ, 46080, .inr (.inl F))), ((ma 23), .inl (cI, 100, .inl fB)), ((ma 24), .inl (cI, 100, .inl fP)), (h0, .inr (11, MO ma 1 sv_length sv_nodes sv_many sv_directories sv_runsFrom sv_runs sv_read sv_wrong sv_isNamed sv_goes sv_goesSize sv_goesAt sv_targetParts sv_isRoot)), ((ma 22), .inl (cZ, 100, .inl fD)), ((ma 25), .inl (cI, 100, .inl fM))] := hD
        refine lv_aload_n hx hb d_DiscMakerModel_read_44 rfl (lv_at hl 0 rfl) ?_
        refine va_get (D := D) (ci := 11) (v := .int 1) (C := "DiscMakerModel") (T := F_DiscMakerModel) (N := 48) hx hb ht9 in_DiscMakerModel hown hK hP 3 rfl rfl 0 (by decide) (ht9 _ k1431) (fun _ h9 => h9) rfl d_DiscMakerModel_read_45 ?_
        refine lv_iconst (v := 1) hx hb d_DiscMakerModel_read_48 (by decide) ?_
        refine lv_icmp_ne (tgt := 54) hx hb d_DiscMakerModel_read_49 (by decide) (fun h_9 => absurd (by decide) h_9) (fun _ => ?_)
        refine lv_iconst (v := 0) hx hb d_DiscMakerModel_read_52 (by decide) ?_
        have hP9 := hP.sub (ws' := [(h0, .inr (11, MO ma 1 sv_length sv_nodes sv_many sv_directories sv_runsFrom sv_runs sv_read sv_wrong sv_isNamed sv_goes sv_goesSize sv_goesAt sv_targetParts sv_isRoot)), ((ma 16), .inl (cJ, 46080, .inr (.inl F))), ((ma 22), .inl (cZ, 100, .inl fD)), ((ma 23), .inl (cI, 100, .inl fB)), ((ma 24), .inl (cI, 100, .inl fP)), ((ma 25), .inl (cI, 100, .inl fM))]) [3, 0, 4, 1, 2, 5] rfl
        have hD9 := hD.sub (ws' := [(h0, .inr (11, MO ma 1 sv_length sv_nodes sv_many sv_directories sv_runsFrom sv_runs sv_read sv_wrong sv_isNamed sv_goes sv_goesSize sv_goesAt sv_targetParts sv_isRoot)), ((ma 16), .inl (cJ, 46080, .inr (.inl F))), ((ma 22), .inl (cZ, 100, .inl fD)), ((ma 23), .inl (cI, 100, .inl fB)), ((ma 24), .inl (cI, 100, .inl fP)), ((ma 25), .inl (cI, 100, .inl fM))]) [3, 0, 4, 1, 2, 5] (by decide +kernel) rfl
        exact W.iret (v := 0) hx hb hr (fun t ht hW => ⟨⟨0, 1, rfl, trivial, by rw [ht]; exact hP9, hD9⟩, hS.F ht⟩) hS.2.2 d_DiscMakerModel_read_53
      · skip
        have g19_28 : r1.toInt = 1 := (i_eq rfl (by decide)).mp h_9
        refine lv_iload_n hx hb d_DiscMakerModel_read_22 rfl (lv_at hl 2 rfl) ?_
        refine lv_if_lt (tgt := 40) hx hb d_DiscMakerModel_read_23 (by decide) (fun h_9 => ?_) (fun h_9 => ?_)
        · skip
          have g23_38 : y.toInt < 0 := (i_lt rfl (by decide)).mp h_9
          refine lv_iconst (v := 1) hx hb d_DiscMakerModel_read_40 (by decide) ?_
          refine va_put (D := D) (ci := 11) (v := .int 1) (ty := .int) (C := "DiscMakerModel") (T := F_DiscMakerModel) (N := 48) hx hb ht9 in_DiscMakerModel t_DiscMakerModel t_DiscMakerModel_ok n_DiscMakerModel hown hK hP hD hS 3 rfl rfl 0 (by decide) (ht9 _ k1431) (fun _ h9 => h9) rfl (by decide +kernel) rfl rfl (Nat.le_of_ble_eq_true rfl) d_DiscMakerModel_read_41 (fun H locs hP hD hS => ?_)
          have hP : va_P D CL [((ma 16), .inl (cJ, 46080, .inr (.inl F))), ((ma 23), .inl (cI, 100, .inl fB)), ((ma 24), .inl (cI, 100, .inl fP)), (h0, .inr (11, MO ma 1 sv_length sv_nodes sv_many sv_directories sv_runsFrom sv_runs sv_read sv_wrong sv_isNamed sv_goes sv_goesSize sv_goesAt sv_targetParts sv_isRoot)), ((ma 22), .inl (cZ, 100, .inl fD)), ((ma 25), .inl (cI, 100, .inl fM))] H := hP
          have hD : va_D A [((ma 16), .inl (cJ, 46080, .inr (.inl F))), ((ma 23), .inl (cI, 100, .inl fB)), ((ma 24), .inl (cI, 100, .inl fP)), (h0, .inr (11, MO ma 1 sv_length sv_nodes sv_many sv_directories sv_runsFrom sv_runs sv_read sv_wrong sv_isNamed sv_goes sv_goesSize sv_goesAt sv_targetParts sv_isRoot)), ((ma 22), .inl (cZ, 100, .inl fD)), ((ma 25), .inl (cI, 100, .inl fM))] := hD
          refine lv_aload_n hx hb d_DiscMakerModel_read_44 rfl (lv_at hl 0 rfl) ?_
          refine va_get (D := D) (ci := 11) (v := .int 1) (C := "DiscMakerModel") (T := F_DiscMakerModel) (N := 48) hx hb ht9 in_DiscMakerModel hown hK hP 3 rfl rfl 0 (by decide) (ht9 _ k1431) (fun _ h9 => h9) rfl d_DiscMakerModel_read_45 ?_
          refine lv_iconst (v := 1) hx hb d_DiscMakerModel_read_48 (by decide) ?_
          refine lv_icmp_ne (tgt := 54) hx hb d_DiscMakerModel_read_49 (by decide) (fun h_9 => absurd (by decide) h_9) (fun _ => ?_)
          refine lv_iconst (v := 0) hx hb d_DiscMakerModel_read_52 (by decide) ?_
          have hP9 := hP.sub (ws' := [(h0, .inr (11, MO ma 1 sv_length sv_nodes sv_many sv_directories sv_runsFrom sv_runs sv_read sv_wrong sv_isNamed sv_goes sv_goesSize sv_goesAt sv_targetParts sv_isRoot)), ((ma 16), .inl (cJ, 46080, .inr (.inl F))), ((ma 22), .inl (cZ, 100, .inl fD)), ((ma 23), .inl (cI, 100, .inl fB)), ((ma 24), .inl (cI, 100, .inl fP)), ((ma 25), .inl (cI, 100, .inl fM))]) [3, 0, 4, 1, 2, 5] rfl
          have hD9 := hD.sub (ws' := [(h0, .inr (11, MO ma 1 sv_length sv_nodes sv_many sv_directories sv_runsFrom sv_runs sv_read sv_wrong sv_isNamed sv_goes sv_goesSize sv_goesAt sv_targetParts sv_isRoot)), ((ma 16), .inl (cJ, 46080, .inr (.inl F))), ((ma 22), .inl (cZ, 100, .inl fD)), ((ma 23), .inl (cI, 100, .inl fB)), ((ma 24), .inl (cI, 100, .inl fP)), ((ma 25), .inl (cI, 100, .inl fM))]) [3, 0, 4, 1, 2, 5] (by decide +kernel) rfl
          exact W.iret (v := 0) hx hb hr (fun t ht hW => ⟨⟨0, 1, rfl, trivial, by rw [ht]; exact hP9, hD9⟩, hS.F ht⟩) hS.2.2 d_DiscMakerModel_read_53
        · skip
          have g23_38 : ¬ y.toInt < 0 := fun h8 => h_9 ((i_lt rfl (by decide)).mpr h8)
          refine lv_iload_n hx hb d_DiscMakerModel_read_26 rfl (lv_at hl 2 rfl) ?_
          refine lv_aload_n hx hb d_DiscMakerModel_read_27 rfl (lv_at hl 0 rfl) ?_
          refine va_get (D := D) (ci := 11) (v := .ref (ma 23)) (C := "DiscMakerModel") (T := F_DiscMakerModel) (N := 48) hx hb ht9 in_DiscMakerModel hown hK hP 3 rfl rfl 31 (by decide) (ht9 _ k1462) (fun _ h9 => h9) rfl d_DiscMakerModel_read_28 ?_
          refine lv_iload_n hx hb d_DiscMakerModel_read_31 rfl (lv_at hl 1 rfl) ?_
          refine va_iald hx hb hK hP 1 1 rfl rfl (vp_in_iff.mpr ⟨by omega, by omega⟩) d_DiscMakerModel_read_32 ?_
          refine lv_topi (fun v3 e_v3 => ?_)
          refine lv_icmp_ge (tgt := 40) hx hb d_DiscMakerModel_read_33 (by decide) (fun h_9 => ?_) (fun h_9 => ?_)
          · skip
            have g33_52 : v3.toInt ≤ y.toInt := (i_le rfl rfl).mp h_9
            refine lv_iconst (v := 1) hx hb d_DiscMakerModel_read_40 (by decide) ?_
            refine va_put (D := D) (ci := 11) (v := .int 1) (ty := .int) (C := "DiscMakerModel") (T := F_DiscMakerModel) (N := 48) hx hb ht9 in_DiscMakerModel t_DiscMakerModel t_DiscMakerModel_ok n_DiscMakerModel hown hK hP hD hS 3 rfl rfl 0 (by decide) (ht9 _ k1431) (fun _ h9 => h9) rfl (by decide +kernel) rfl rfl (Nat.le_of_ble_eq_true rfl) d_DiscMakerModel_read_41 (fun H locs hP hD hS => ?_)
            have hP : va_P D CL [((ma 16), .inl (cJ, 46080, .inr (.inl F))), ((ma 23), .inl (cI, 100, .inl fB)), ((ma 24), .inl (cI, 100, .inl fP)), (h0, .inr (11, MO ma 1 sv_length sv_nodes sv_many sv_directories sv_runsFrom sv_runs sv_read sv_wrong sv_isNamed sv_goes sv_goesSize sv_goesAt sv_targetParts sv_isRoot)), ((ma 22), .inl (cZ, 100, .inl fD)), ((ma 25), .inl (cI, 100, .inl fM))] H := hP
            have hD : va_D A [((ma 16), .inl (cJ, 46080, .inr (.inl F))), ((ma 23), .inl (cI, 100, .inl fB)), ((ma 24), .inl (cI, 100, .inl fP)), (h0, .inr (11, MO ma 1 sv_length sv_nodes sv_many sv_directories sv_runsFrom sv_runs sv_read sv_wrong sv_isNamed sv_goes sv_goesSize sv_goesAt sv_targetParts sv_isRoot)), ((ma 22), .inl (cZ, 100, .inl fD)), ((ma 25), .inl (cI, 100, .inl fM))] := hD
            refine lv_aload_n hx hb d_DiscMakerModel_read_44 rfl (lv_at hl 0 rfl) ?_
            refine va_get (D := D) (ci := 11) (v := .int 1) (C := "DiscMakerModel") (T := F_DiscMakerModel) (N := 48) hx hb ht9 in_DiscMakerModel hown hK hP 3 rfl rfl 0 (by decide) (ht9 _ k1431) (fun _ h9 => h9) rfl d_DiscMakerModel_read_45 ?_
            refine lv_iconst (v := 1) hx hb d_DiscMakerModel_read_48 (by decide) ?_
            refine lv_icmp_ne (tgt := 54) hx hb d_DiscMakerModel_read_49 (by decide) (fun h_9 => absurd (by decide) h_9) (fun _ => ?_)
            refine lv_iconst (v := 0) hx hb d_DiscMakerModel_read_52 (by decide) ?_
            have hP9 := hP.sub (ws' := [(h0, .inr (11, MO ma 1 sv_length sv_nodes sv_many sv_directories sv_runsFrom sv_runs sv_read sv_wrong sv_isNamed sv_goes sv_goesSize sv_goesAt sv_targetParts sv_isRoot)), ((ma 16), .inl (cJ, 46080, .inr (.inl F))), ((ma 22), .inl (cZ, 100, .inl fD)), ((ma 23), .inl (cI, 100, .inl fB)), ((ma 24), .inl (cI, 100, .inl fP)), ((ma 25), .inl (cI, 100, .inl fM))]) [3, 0, 4, 1, 2, 5] rfl
            have hD9 := hD.sub (ws' := [(h0, .inr (11, MO ma 1 sv_length sv_nodes sv_many sv_directories sv_runsFrom sv_runs sv_read sv_wrong sv_isNamed sv_goes sv_goesSize sv_goesAt sv_targetParts sv_isRoot)), ((ma 16), .inl (cJ, 46080, .inr (.inl F))), ((ma 22), .inl (cZ, 100, .inl fD)), ((ma 23), .inl (cI, 100, .inl fB)), ((ma 24), .inl (cI, 100, .inl fP)), ((ma 25), .inl (cI, 100, .inl fM))]) [3, 0, 4, 1, 2, 5] (by decide +kernel) rfl
            exact W.iret (v := 0) hx hb hr (fun t ht hW => ⟨⟨0, 1, rfl, trivial, by rw [ht]; exact hP9, hD9⟩, hS.F ht⟩) hS.2.2 d_DiscMakerModel_read_53
          · skip
            have g33_52 : ¬ v3.toInt ≤ y.toInt := fun h8 => h_9 ((i_le rfl rfl).mpr h8)
            refine lv_iconst (v := 0) hx hb d_DiscMakerModel_read_36 (by decide) ?_
            refine lv_goto (tgt := 41) hx hb d_DiscMakerModel_read_37 (by decide) ?_
            refine va_put (D := D) (ci := 11) (v := .int 0) (ty := .int) (C := "DiscMakerModel") (T := F_DiscMakerModel) (N := 48) hx hb ht9 in_DiscMakerModel t_DiscMakerModel t_DiscMakerModel_ok n_DiscMakerModel hown hK hP hD hS 3 rfl rfl 0 (by decide) (ht9 _ k1431) (fun _ h9 => h9) rfl (by decide +kernel) rfl rfl (Nat.le_of_ble_eq_true rfl) d_DiscMakerModel_read_41 (fun H locs hP hD hS => ?_)
            have hP : va_P D CL [((ma 16), .inl (cJ, 46080, .inr (.inl F))), ((ma 23), .inl (cI, 100, .inl fB)), ((ma 24), .inl (cI, 100, .inl fP)), (h0, .inr (11, MO ma 0 sv_length sv_nodes sv_many sv_directories sv_runsFrom sv_runs sv_read sv_wrong sv_isNamed sv_goes sv_goesSize sv_goesAt sv_targetParts sv_isRoot)), ((ma 22), .inl (cZ, 100, .inl fD)), ((ma 25), .inl (cI, 100, .inl fM))] H := hP
            have hD : va_D A [((ma 16), .inl (cJ, 46080, .inr (.inl F))), ((ma 23), .inl (cI, 100, .inl fB)), ((ma 24), .inl (cI, 100, .inl fP)), (h0, .inr (11, MO ma 0 sv_length sv_nodes sv_many sv_directories sv_runsFrom sv_runs sv_read sv_wrong sv_isNamed sv_goes sv_goesSize sv_goesAt sv_targetParts sv_isRoot)), ((ma 22), .inl (cZ, 100, .inl fD)), ((ma 25), .inl (cI, 100, .inl fM))] := hD
            refine lv_aload_n hx hb d_DiscMakerModel_read_44 rfl (lv_at hl 0 rfl) ?_
            refine va_get (D := D) (ci := 11) (v := .int 0) (C := "DiscMakerModel") (T := F_DiscMakerModel) (N := 48) hx hb ht9 in_DiscMakerModel hown hK hP 3 rfl rfl 0 (by decide) (ht9 _ k1431) (fun _ h9 => h9) rfl d_DiscMakerModel_read_45 ?_
            refine lv_iconst (v := 1) hx hb d_DiscMakerModel_read_48 (by decide) ?_
            refine lv_icmp_ne (tgt := 54) hx hb d_DiscMakerModel_read_49 (by decide) (fun _ => ?_) (fun h_9 => absurd h_9 (by decide))
            refine lv_ldc2 (v := 2048) hx hb hown (ht9 _ k1853) d_DiscMakerModel_read_54 ?_
            refine lv_aload_n hx hb d_DiscMakerModel_read_57 rfl (lv_at hl 0 rfl) ?_
            refine va_get (D := D) (ci := 11) (v := .ref (ma 24)) (C := "DiscMakerModel") (T := F_DiscMakerModel) (N := 48) hx hb ht9 in_DiscMakerModel hown hK hP 3 rfl rfl 32 (by decide) (ht9 _ k1463) (fun _ h9 => h9) rfl d_DiscMakerModel_read_58 ?_
            refine lv_iload_n hx hb d_DiscMakerModel_read_61 rfl (lv_at hl 1 rfl) ?_
            refine va_iald hx hb hK hP 2 1 rfl rfl (vp_in_iff.mpr ⟨by omega, by omega⟩) d_DiscMakerModel_read_62 ?_
            refine lv_topi (fun v4 e_v4 => ?_)
            have qv4 : 0 ≤ v4.toInt := by rw [e_v4]; exact hR2 _ (by have := i_cl (a := x) (by omega); omega) (by rw [← e_v3]; omega)
            refine lv_i2l hx hb d_DiscMakerModel_read_63 rfl ?_
            refine lv_topl (fun w5 e_w5 => ?_)
            have t_w5 : w5.toInt = v4.toInt ∧ (-2147483648) ≤ v4.toInt ∧ v4.toInt ≤ 2147483647 := by rw [e_w5]; exact ⟨l_i rfl, i_rng _⟩
            refine lv_lmul hx hb d_DiscMakerModel_read_64 ?_
            refine lv_topl (fun w6 e_w6 => ?_)
            have t_w6 : w6.toInt = 2048 * w5.toInt := by rw [e_w6]; exact l_mul (by decide) rfl (by omega) (by omega)
            refine lv_iload_n hx hb d_DiscMakerModel_read_65 rfl (lv_at hl 2 rfl) ?_
            refine lv_i2l hx hb d_DiscMakerModel_read_66 rfl ?_
            refine lv_topl (fun w7 e_w7 => ?_)
            have t_w7 : w7.toInt = y.toInt ∧ (-2147483648) ≤ y.toInt ∧ y.toInt ≤ 2147483647 := by rw [e_w7]; exact ⟨l_i rfl, i_rng _⟩
            refine lv_ladd hx hb d_DiscMakerModel_read_67 ?_
            refine lv_topl (fun w8 e_w8 => ?_)
            have t_w8 : w8.toInt = w6.toInt + w7.toInt := by rw [e_w8]; exact l_add rfl rfl (by omega) (by omega)
            refine lv_lstore_n hx hb d_DiscMakerModel_read_68 rfl hl (by decide) rfl (fun ls hl => ?_)
            have hl : lv_has ls 5 [(3, .long w8), (0, .ref h0), (1, .int x), (2, .int y)] := hl
            refine lv_lload_n hx hb d_DiscMakerModel_read_69 rfl (lv_at hl 0 rfl) ?_
            refine lv_ldc2 (v := 2048) hx hb hown (ht9 _ k1853) d_DiscMakerModel_read_70 ?_
            refine lv_aload_n hx hb d_DiscMakerModel_read_73 rfl (lv_at hl 1 rfl) ?_
            refine va_get (D := D) (ci := 11) (v := .int sv_many) (C := "DiscMakerModel") (T := F_DiscMakerModel) (N := 48) hx hb ht9 in_DiscMakerModel hown hK hP 3 rfl rfl 20 (by decide) (ht9 _ k1451) (fun _ h9 => h9) rfl d_DiscMakerModel_read_74 ?_
            refine lv_i2l hx hb d_DiscMakerModel_read_77 rfl ?_
            refine lv_topl (fun w9 e_w9 => ?_)
            have t_w9 : w9.toInt = sv_many.toInt ∧ (-2147483648) ≤ sv_many.toInt ∧ sv_many.toInt ≤ 2147483647 := by rw [e_w9]; exact ⟨l_i rfl, i_rng _⟩
            refine lv_lmul hx hb d_DiscMakerModel_read_78 ?_
            refine lv_topl (fun w10 e_w10 => ?_)
            have t_w10 : w10.toInt = 2048 * w9.toInt := by rw [e_w10]; exact l_mul (by decide) rfl (by omega) (by omega)
            refine W.lcmp hx hb d_DiscMakerModel_read_79 ?_
            refine lv_topi (fun v11 e_v11 => ?_)
            have t_v11 : (v11.toInt = 1 ∧ w10.toInt < w8.toInt) ∨ (v11.toInt = 0 ∧ w8.toInt = w10.toInt) ∨ (v11.toInt = -1 ∧ w8.toInt < w10.toInt) := by rw [e_v11]; exact l_cmp rfl rfl
            refine lv_if_ge (tgt := 92) hx hb d_DiscMakerModel_read_80 (by decide) (fun h_9 => ?_) (fun h_9 => ?_)
            · skip
              have g80_86 : 0 ≤ v11.toInt := (i_le (by decide) rfl).mp h_9
              refine lv_iconst (v := 0) hx hb d_DiscMakerModel_read_92 (by decide) ?_
              have hP9 := hP.sub (ws' := [(h0, .inr (11, MO ma 0 sv_length sv_nodes sv_many sv_directories sv_runsFrom sv_runs sv_read sv_wrong sv_isNamed sv_goes sv_goesSize sv_goesAt sv_targetParts sv_isRoot)), ((ma 16), .inl (cJ, 46080, .inr (.inl F))), ((ma 22), .inl (cZ, 100, .inl fD)), ((ma 23), .inl (cI, 100, .inl fB)), ((ma 24), .inl (cI, 100, .inl fP)), ((ma 25), .inl (cI, 100, .inl fM))]) [3, 0, 4, 1, 2, 5] rfl
              have hD9 := hD.sub (ws' := [(h0, .inr (11, MO ma 0 sv_length sv_nodes sv_many sv_directories sv_runsFrom sv_runs sv_read sv_wrong sv_isNamed sv_goes sv_goesSize sv_goesAt sv_targetParts sv_isRoot)), ((ma 16), .inl (cJ, 46080, .inr (.inl F))), ((ma 22), .inl (cZ, 100, .inl fD)), ((ma 23), .inl (cI, 100, .inl fB)), ((ma 24), .inl (cI, 100, .inl fP)), ((ma 25), .inl (cI, 100, .inl fM))]) [3, 0, 4, 1, 2, 5] (by decide +kernel) rfl
              exact W.iret (v := 0) hx hb hr (fun t ht hW => ⟨⟨0, 0, rfl, trivial, by rw [ht]; exact hP9, hD9⟩, hS.F ht⟩) hS.2.2 d_DiscMakerModel_read_93
            · skip
              have g80_86 : ¬ 0 ≤ v11.toInt := fun h8 => h_9 ((i_le (by decide) rfl).mpr h8)
              refine lv_aload_n hx hb d_DiscMakerModel_read_83 rfl (lv_at hl 1 rfl) ?_
              refine lv_lload_n hx hb d_DiscMakerModel_read_84 rfl (lv_at hl 0 rfl) ?_
              refine lv_l2i hx hb d_DiscMakerModel_read_85 rfl ?_
              refine lv_topi (fun v12 e_v12 => ?_)
              have t_v12 : v12.toInt = w8.toInt := by rw [e_v12]; exact l_int rfl (by omega) (by omega)
              have hPc := hP.sub (ws' := [(h0, .inr (11, MO ma 0 sv_length sv_nodes sv_many sv_directories sv_runsFrom sv_runs sv_read sv_wrong sv_isNamed sv_goes sv_goesSize sv_goesAt sv_targetParts sv_isRoot)), ((ma 16), .inl (cJ, 46080, .inr (.inl F)))]) [3, 0] rfl
              have hDc := hD.sub (ws' := [(h0, .inr (11, MO ma 0 sv_length sv_nodes sv_many sv_directories sv_runsFrom sv_runs sv_read sv_wrong sv_isNamed sv_goes sv_goesSize sv_goesAt sv_targetParts sv_isRoot)), ((ma 16), .inl (cJ, 46080, .inr (.inl F)))]) [3, 0] (by decide +kernel) rfl
              have hFc := va_free (wc := [(h0, .inr (11, MO ma 0 sv_length sv_nodes sv_many sv_directories sv_runsFrom sv_runs sv_read sv_wrong sv_isNamed sv_goes sv_goesSize sv_goesAt sv_targetParts sv_isRoot)), ((ma 16), .inl (cJ, 46080, .inr (.inl F)))]) hD hS hA [3, 0] rfl
              have hkc : 0 ≤ 0 := by decide
              have hks : 0 ≤ 0 := by decide
              refine va_calli (va_runV (C := "DiscMakerModel") (As := [.int v12]) (rest := []) ⟨hx, hb, hml, hown, hts⟩ (m_at l D cB cI cJ cZ cN cF H.size h0 ma 0 sv_length sv_nodes sv_many sv_directories sv_runsFrom sv_runs sv_read sv_wrong sv_isNamed sv_goes sv_goesSize sv_goesAt sv_targetParts sv_isRoot F v12 (by (try dsimp only); first | assumption | omega | trivial) (by (try dsimp only); first | assumption | omega | trivial)) (cwV 1 hts (lg_goodV k1809 k1811 k95 k125 kc_DiscMakerModel_at) rfl rfl rfl (by decide +kernel) ⟨Nat.le_of_ble_eq_true rfl, Nat.le_of_ble_eq_true rfl⟩) ⟨fun a U g mk q => by obtain ⟨q0, q1, qP, qK, qN, qD⟩ := q; exact ⟨q0, q1, qP, va_K.moved (u := U) (U := U.calling g mk a) (Vm.Alike.refl U.vm) qK, qN.calling, qD⟩, va_recv hK hP (ci := 11) (q0 := 3) rfl rfl, fun U hU hW => ⟨rfl, by rw [hU], by rw [hU]; exact hPc, va_K.moved hW.alike hK, NN.warm hW hN, hDc.weaken (fun _ _ _ _ => trivial)⟩⟩ rfl rfl hl.1 rfl (lv_room (Nat.le_of_ble_eq_true rfl)) d_DiscMakerModel_read_86 ⟨hkc, hks⟩) hS (fun q _ h => hFc q h) hFc (fun r13 u t H1 locs ht hvm hp_r13 hB hz1 hk1 hS => ?_)
              obtain ⟨hP1, hD1⟩ := hB
              rw [ht] at hP1
              obtain ⟨hP, hD⟩ := va_join (wr := [((ma 23), .inl (cI, 100, .inl fB)), ((ma 24), .inl (cI, 100, .inl fP)), ((ma 22), .inl (cZ, 100, .inl fD)), ((ma 25), .inl (cI, 100, .inl fM))]) (w1 := [(h0, .inr (11, MO ma 0 sv_length sv_nodes sv_many sv_directories sv_runsFrom sv_runs sv_read sv_wrong sv_isNamed sv_goes sv_goesSize sv_goesAt sv_targetParts sv_isRoot)), ((ma 16), .inl (cJ, 46080, .inr (.inl F)))]) hP hD [3, 0] [1, 2, 4, 5] rfl rfl (by decide +kernel) (by decide +kernel) hk1 hFc hP1 hD1
              clear hPc hDc hFc hP1 hD1 hk1 hz1 hkc hks
              generalize H1 = H at hP hS ⊢
              have hP : va_P D CL [((ma 23), .inl (cI, 100, .inl fB)), ((ma 24), .inl (cI, 100, .inl fP)), ((ma 22), .inl (cZ, 100, .inl fD)), ((ma 25), .inl (cI, 100, .inl fM)), (h0, .inr (11, MO ma 0 sv_length sv_nodes sv_many sv_directories sv_runsFrom sv_runs sv_read sv_wrong sv_isNamed sv_goes sv_goesSize sv_goesAt sv_targetParts sv_isRoot)), ((ma 16), .inl (cJ, 46080, .inr (.inl F)))] H := hP
              have hD : va_D A [((ma 23), .inl (cI, 100, .inl fB)), ((ma 24), .inl (cI, 100, .inl fP)), ((ma 22), .inl (cZ, 100, .inl fD)), ((ma 25), .inl (cI, 100, .inl fM)), (h0, .inr (11, MO ma 0 sv_length sv_nodes sv_many sv_directories sv_runsFrom sv_runs sv_read sv_wrong sv_isNamed sv_goes sv_goesSize sv_goesAt sv_targetParts sv_isRoot)), ((ma 16), .inl (cJ, 46080, .inr (.inl F)))] := hD
              try dsimp only at hp_r13
              obtain ⟨hr_14, hv_15, hw_16⟩ := hp_r13
              refine lv_goto (tgt := 93) hx hb d_DiscMakerModel_read_89 (by decide) ?_
              have hP9 := hP.sub (ws' := [(h0, .inr (11, MO ma 0 sv_length sv_nodes sv_many sv_directories sv_runsFrom sv_runs sv_read sv_wrong sv_isNamed sv_goes sv_goesSize sv_goesAt sv_targetParts sv_isRoot)), ((ma 16), .inl (cJ, 46080, .inr (.inl F))), ((ma 22), .inl (cZ, 100, .inl fD)), ((ma 23), .inl (cI, 100, .inl fB)), ((ma 24), .inl (cI, 100, .inl fP)), ((ma 25), .inl (cI, 100, .inl fM))]) [4, 5, 2, 0, 1, 3] rfl
              have hD9 := hD.sub (ws' := [(h0, .inr (11, MO ma 0 sv_length sv_nodes sv_many sv_directories sv_runsFrom sv_runs sv_read sv_wrong sv_isNamed sv_goes sv_goesSize sv_goesAt sv_targetParts sv_isRoot)), ((ma 16), .inl (cJ, 46080, .inr (.inl F))), ((ma 22), .inl (cZ, 100, .inl fD)), ((ma 23), .inl (cI, 100, .inl fB)), ((ma 24), .inl (cI, 100, .inl fP)), ((ma 25), .inl (cI, 100, .inl fM))]) [4, 5, 2, 0, 1, 3] (by decide +kernel) rfl
              exact W.iret (v := r13) hx hb hr (fun t ht hW => ⟨⟨r13, 0, rfl, trivial, by rw [ht]; exact hP9, hD9⟩, hS.F ht⟩) hS.2.2 d_DiscMakerModel_read_93

theorem d_DiscMakerModel_sectors_0 : decode b_DiscMakerModel_sectors 0 = .ok (.aload_n 0, 1) := by decide +kernel
theorem d_DiscMakerModel_sectors_1 : decode b_DiscMakerModel_sectors 1 = .ok (.iconst 0, 1) := by decide +kernel
theorem d_DiscMakerModel_sectors_2 : decode b_DiscMakerModel_sectors 2 = .ok (.putfield 118, 3) := by decide +kernel
theorem d_DiscMakerModel_sectors_5 : decode b_DiscMakerModel_sectors 5 = .ok (.aload_n 0, 1) := by decide +kernel
theorem d_DiscMakerModel_sectors_6 : decode b_DiscMakerModel_sectors 6 = .ok (.getfield 282, 3) := by decide +kernel
theorem d_DiscMakerModel_sectors_9 : decode b_DiscMakerModel_sectors 9 = .ok (.ireturn, 1) := by decide +kernel
set_option maxHeartbeats 4000000 in
set_option maxRecDepth 100000 in
theorem m_sectors (l : Launch) (D : va_G) (cB cI cJ cZ cN cF : ClassId) (sz : Nat) (h0 : Nat) (ma : Nat → Nat) (sv_thrown sv_length sv_nodes sv_many sv_directories sv_runsFrom sv_runs sv_read sv_wrong sv_isNamed sv_goes sv_goesSize sv_goesAt sv_targetParts sv_isRoot : Int32) : Met l y_DiscMakerModel_sectors w_DiscMakerModel_sectors ({ frames := 0, cells := 0, slots := 0, locals := 0 }) (va_Pc [.ref h0] (fun U => U.heap.size = sz ∧ va_P D CL [(h0, .inr (11, MO ma sv_thrown sv_length sv_nodes sv_many sv_directories sv_runsFrom sv_runs sv_read sv_wrong sv_isNamed sv_goes sv_goesSize sv_goesAt sv_targetParts sv_isRoot))] U.heap ∧ va_K D CL (TY cB cI cJ cZ cN cF) U ∧ NN U ∧ va_D (fun _ => True) [(h0, .inr (11, MO ma sv_thrown sv_length sv_nodes sv_many sv_directories sv_runsFrom sv_runs sv_read sv_wrong sv_isNamed sv_goes sv_goesSize sv_goesAt sv_targetParts sv_isRoot))])) (va_Qi (fun (r : Int32) (u : Int32) => match u with | th => (r = sv_many)) (fun (u : Int32) (t : State) => match u with | th => va_P D CL [(h0, .inr (11, MO ma th sv_length sv_nodes sv_many sv_directories sv_runsFrom sv_runs sv_read sv_wrong sv_isNamed sv_goes sv_goesSize sv_goesAt sv_targetParts sv_isRoot))] t.heap ∧ va_D (va_A [(h0, .inr (11, MO ma sv_thrown sv_length sv_nodes sv_many sv_directories sv_runsFrom sv_runs sv_read sv_wrong sv_isNamed sv_goes sv_goesSize sv_goesAt sv_targetParts sv_isRoot))] sz) [(h0, .inr (11, MO ma th sv_length sv_nodes sv_many sv_directories sv_runsFrom sv_runs sv_read sv_wrong sv_isNamed sv_goes sv_goesSize sv_goesAt sv_targetParts sv_isRoot))]) (va_A [(h0, .inr (11, MO ma sv_thrown sv_length sv_nodes sv_many sv_directories sv_runsFrom sv_runs sv_read sv_wrong sv_isNamed sv_goes sv_goesSize sv_goesAt sv_targetParts sv_isRoot))] sz)) 0 0 (va_A [(h0, .inr (11, MO ma sv_thrown sv_length sv_nodes sv_many sv_directories sv_runsFrom sv_runs sv_read sv_wrong sv_isNamed sv_goes sv_goesSize sv_goesAt sv_targetParts sv_isRoot))] sz) := by
  refine Met.ofW (cc := b_DiscMakerModel_sectors) (maxL := 1) (ret := some .int) (by decide) rfl ?_
  intro p e s m args below meth c s₁ B hml hv
  obtain ⟨rfl, hsz, hP, hK, hN, hD0⟩ := hv
  have hx := B.exec
  have hb := B.bytes
  have hr := B.returns
  have hts := atoms_spec (ws := w_DiscMakerModel_sectors) B.pre
  have ht9 := fun (w : Cond) (h : w ∈ lw_g) => hts w (List.mem_cons_of_mem _ h)
  have hown : s.vm.findClass "DiscMakerModel" = some m.cls := findClass_of_methodNamed B.named
  have hlocks := B.notSynchronized
  subst hsz
  have hD := hD0.self (sz := s.heap.size)
  generalize hAe : va_A [(h0, .inr (11, MO ma sv_thrown sv_length sv_nodes sv_many sv_directories sv_runsFrom sv_runs sv_read sv_wrong sv_isNamed sv_goes sv_goesSize sv_goesAt sv_targetParts sv_isRoot))] s.heap.size = A at hD ⊢
  have hA : ∀ q : Nat, s.heap.size ≤ q → A q := fun q h => by rw [← hAe]; exact Or.inr h
  have hS : va_S A s.heap s.heap [] := va_S.rf
  have hP : va_P D CL [(h0, .inr (11, MO ma sv_thrown sv_length sv_nodes sv_many sv_directories sv_runsFrom sv_runs sv_read sv_wrong sv_isNamed sv_goes sv_goesSize sv_goesAt sv_targetParts sv_isRoot))] s.heap := hP
  have hl := lv_entry [.ref h0] (n := 1) (Nat.le_of_ble_eq_true rfl)
  rw [lg_entry_eq]
  generalize (lg_sl [.ref h0] ++ List.replicate (1 - (lg_sl [.ref h0]).length) Slot.unset).toArray = ls at hl ⊢
  have hl : lv_has ls 1 [(0, .ref h0)] := hl
  have L_m1 : ((-1) : Int32).toInt = (-1) := by decide
  have L_0 : (0 : Int32).toInt = 0 := by decide
  have L_1 : (1 : Int32).toInt = 1 := by decide
  refine lv_aload_n hx hb d_DiscMakerModel_sectors_0 rfl (lv_at hl 0 rfl) ?_
  refine lv_iconst (v := 0) hx hb d_DiscMakerModel_sectors_1 (by decide) ?_
  refine va_put (D := D) (ci := 11) (v := .int 0) (ty := .int) (C := "DiscMakerModel") (T := F_DiscMakerModel) (N := 48) hx hb ht9 in_DiscMakerModel t_DiscMakerModel t_DiscMakerModel_ok n_DiscMakerModel hown hK hP hD hS 0 rfl rfl 0 (by decide) (ht9 _ k1431) (fun _ h9 => h9) rfl (by decide +kernel) rfl rfl (Nat.le_of_ble_eq_true rfl) d_DiscMakerModel_sectors_2 (fun H locs hP hD hS => ?_)
  have hP : va_P D CL [(h0, .inr (11, MO ma 0 sv_length sv_nodes sv_many sv_directories sv_runsFrom sv_runs sv_read sv_wrong sv_isNamed sv_goes sv_goesSize sv_goesAt sv_targetParts sv_isRoot))] H := hP
  have hD : va_D A [(h0, .inr (11, MO ma 0 sv_length sv_nodes sv_many sv_directories sv_runsFrom sv_runs sv_read sv_wrong sv_isNamed sv_goes sv_goesSize sv_goesAt sv_targetParts sv_isRoot))] := hD
  refine lv_aload_n hx hb d_DiscMakerModel_sectors_5 rfl (lv_at hl 0 rfl) ?_
  refine va_get (D := D) (ci := 11) (v := .int sv_many) (C := "DiscMakerModel") (T := F_DiscMakerModel) (N := 48) hx hb ht9 in_DiscMakerModel hown hK hP 0 rfl rfl 20 (by decide) (ht9 _ k1451) (fun _ h9 => h9) rfl d_DiscMakerModel_sectors_6 ?_
  have hP9 := hP.sub (ws' := [(h0, .inr (11, MO ma 0 sv_length sv_nodes sv_many sv_directories sv_runsFrom sv_runs sv_read sv_wrong sv_isNamed sv_goes sv_goesSize sv_goesAt sv_targetParts sv_isRoot))]) [0] rfl
  have hD9 := hD.sub (ws' := [(h0, .inr (11, MO ma 0 sv_length sv_nodes sv_many sv_directories sv_runsFrom sv_runs sv_read sv_wrong sv_isNamed sv_goes sv_goesSize sv_goesAt sv_targetParts sv_isRoot))]) [0] (by decide +kernel) rfl
  exact W.iret (v := sv_many) hx hb hr (fun t ht hW => ⟨⟨sv_many, 0, rfl, rfl, by rw [ht]; exact hP9, hD9⟩, hS.F ht⟩) hS.2.2 d_DiscMakerModel_sectors_9

theorem d_DiscMakerModel_byteAt_0 : decode b_DiscMakerModel_byteAt 0 = .ok (.aload_n 0, 1) := by decide +kernel
theorem d_DiscMakerModel_byteAt_1 : decode b_DiscMakerModel_byteAt 1 = .ok (.iconst 0, 1) := by decide +kernel
theorem d_DiscMakerModel_byteAt_2 : decode b_DiscMakerModel_byteAt 2 = .ok (.putfield 118, 3) := by decide +kernel
theorem d_DiscMakerModel_byteAt_5 : decode b_DiscMakerModel_byteAt 5 = .ok (.iload_n 1, 1) := by decide +kernel
theorem d_DiscMakerModel_byteAt_6 : decode b_DiscMakerModel_byteAt 6 = .ok (.ifCond .lt 23, 3) := by decide +kernel
theorem d_DiscMakerModel_byteAt_9 : decode b_DiscMakerModel_byteAt 9 = .ok (.iload_n 1, 1) := by decide +kernel
theorem d_DiscMakerModel_byteAt_10 : decode b_DiscMakerModel_byteAt 10 = .ok (.sipush 2048, 3) := by decide +kernel
theorem d_DiscMakerModel_byteAt_13 : decode b_DiscMakerModel_byteAt 13 = .ok (.aload_n 0, 1) := by decide +kernel
theorem d_DiscMakerModel_byteAt_14 : decode b_DiscMakerModel_byteAt 14 = .ok (.getfield 282, 3) := by decide +kernel
theorem d_DiscMakerModel_byteAt_17 : decode b_DiscMakerModel_byteAt 17 = .ok (.imul, 1) := by decide +kernel
theorem d_DiscMakerModel_byteAt_18 : decode b_DiscMakerModel_byteAt 18 = .ok (.if_icmp .ge 11, 3) := by decide +kernel
theorem d_DiscMakerModel_byteAt_21 : decode b_DiscMakerModel_byteAt 21 = .ok (.aload_n 0, 1) := by decide +kernel
theorem d_DiscMakerModel_byteAt_22 : decode b_DiscMakerModel_byteAt 22 = .ok (.iload_n 1, 1) := by decide +kernel
theorem d_DiscMakerModel_byteAt_23 : decode b_DiscMakerModel_byteAt 23 = .ok (.invokevirtual 303, 3) := by decide +kernel
theorem d_DiscMakerModel_byteAt_26 : decode b_DiscMakerModel_byteAt 26 = .ok (.goto 4, 3) := by decide +kernel
theorem d_DiscMakerModel_byteAt_29 : decode b_DiscMakerModel_byteAt 29 = .ok (.iconst (-1), 1) := by decide +kernel
theorem d_DiscMakerModel_byteAt_30 : decode b_DiscMakerModel_byteAt 30 = .ok (.ireturn, 1) := by decide +kernel
set_option maxHeartbeats 4000000 in
set_option maxRecDepth 100000 in
theorem m_byteAt (l : Launch) (D : va_G) (cB cI cJ cZ cN cF : ClassId) (sz : Nat) (h0 : Nat) (ma : Nat → Nat) (sv_thrown sv_length sv_nodes sv_many sv_directories sv_runsFrom sv_runs sv_read sv_wrong sv_isNamed sv_goes sv_goesSize sv_goesAt sv_targetParts sv_isRoot : Int32) (F : Nat → Int64) (x : Int32) (hm0 : 0 ≤ sv_many.toInt ∧ sv_many.toInt ≤ 180) : Met l y_DiscMakerModel_byteAt w_DiscMakerModel_byteAt ({ frames := 1, cells := 0, slots := 0, locals := 21 }) (va_Pc [.ref h0, .int x] (fun U => U.heap.size = sz ∧ va_P D CL [(h0, .inr (11, MO ma sv_thrown sv_length sv_nodes sv_many sv_directories sv_runsFrom sv_runs sv_read sv_wrong sv_isNamed sv_goes sv_goesSize sv_goesAt sv_targetParts sv_isRoot)), ((ma 16), .inl (cJ, 46080, .inr (.inl F)))] U.heap ∧ va_K D CL (TY cB cI cJ cZ cN cF) U ∧ NN U ∧ va_D (fun _ => True) [(h0, .inr (11, MO ma sv_thrown sv_length sv_nodes sv_many sv_directories sv_runsFrom sv_runs sv_read sv_wrong sv_isNamed sv_goes sv_goesSize sv_goesAt sv_targetParts sv_isRoot)), ((ma 16), .inl (cJ, 46080, .inr (.inl F)))])) (va_Qi (fun (r : Int32) (u : Int32) => True) (fun (u : Int32) (t : State) => match u with | th => va_P D CL [(h0, .inr (11, MO ma th sv_length sv_nodes sv_many sv_directories sv_runsFrom sv_runs sv_read sv_wrong sv_isNamed sv_goes sv_goesSize sv_goesAt sv_targetParts sv_isRoot)), ((ma 16), .inl (cJ, 46080, .inr (.inl F)))] t.heap ∧ va_D (va_A [(h0, .inr (11, MO ma sv_thrown sv_length sv_nodes sv_many sv_directories sv_runsFrom sv_runs sv_read sv_wrong sv_isNamed sv_goes sv_goesSize sv_goesAt sv_targetParts sv_isRoot)), ((ma 16), .inl (cJ, 46080, .inr (.inl F)))] sz) [(h0, .inr (11, MO ma th sv_length sv_nodes sv_many sv_directories sv_runsFrom sv_runs sv_read sv_wrong sv_isNamed sv_goes sv_goesSize sv_goesAt sv_targetParts sv_isRoot)), ((ma 16), .inl (cJ, 46080, .inr (.inl F)))]) (va_A [(h0, .inr (11, MO ma sv_thrown sv_length sv_nodes sv_many sv_directories sv_runsFrom sv_runs sv_read sv_wrong sv_isNamed sv_goes sv_goesSize sv_goesAt sv_targetParts sv_isRoot)), ((ma 16), .inl (cJ, 46080, .inr (.inl F)))] sz)) 0 0 (va_A [(h0, .inr (11, MO ma sv_thrown sv_length sv_nodes sv_many sv_directories sv_runsFrom sv_runs sv_read sv_wrong sv_isNamed sv_goes sv_goesSize sv_goesAt sv_targetParts sv_isRoot)), ((ma 16), .inl (cJ, 46080, .inr (.inl F)))] sz) := by
  refine Met.ofW (cc := b_DiscMakerModel_byteAt) (maxL := 2) (ret := some .int) (by decide) rfl ?_
  intro p e s m args below meth c s₁ B hml hv
  obtain ⟨rfl, hsz, hP, hK, hN, hD0⟩ := hv
  have hx := B.exec
  have hb := B.bytes
  have hr := B.returns
  have hts := atoms_spec (ws := w_DiscMakerModel_byteAt) B.pre
  have ht9 := fun (w : Cond) (h : w ∈ lw_g) => hts w (List.mem_cons_of_mem _ h)
  have hown : s.vm.findClass "DiscMakerModel" = some m.cls := findClass_of_methodNamed B.named
  have hlocks := B.notSynchronized
  subst hsz
  have hD := hD0.self (sz := s.heap.size)
  generalize hAe : va_A [(h0, .inr (11, MO ma sv_thrown sv_length sv_nodes sv_many sv_directories sv_runsFrom sv_runs sv_read sv_wrong sv_isNamed sv_goes sv_goesSize sv_goesAt sv_targetParts sv_isRoot)), ((ma 16), .inl (cJ, 46080, .inr (.inl F)))] s.heap.size = A at hD ⊢
  have hA : ∀ q : Nat, s.heap.size ≤ q → A q := fun q h => by rw [← hAe]; exact Or.inr h
  have hS : va_S A s.heap s.heap [] := va_S.rf
  have hP : va_P D CL [(h0, .inr (11, MO ma sv_thrown sv_length sv_nodes sv_many sv_directories sv_runsFrom sv_runs sv_read sv_wrong sv_isNamed sv_goes sv_goesSize sv_goesAt sv_targetParts sv_isRoot)), ((ma 16), .inl (cJ, 46080, .inr (.inl F)))] s.heap := hP
  have hl := lv_entry [.ref h0, .int x] (n := 2) (Nat.le_of_ble_eq_true rfl)
  rw [lg_entry_eq]
  generalize (lg_sl [.ref h0, .int x] ++ List.replicate (2 - (lg_sl [.ref h0, .int x]).length) Slot.unset).toArray = ls at hl ⊢
  have hl : lv_has ls 2 [(0, .ref h0), (1, .int x)] := hl
  have L_m1 : ((-1) : Int32).toInt = (-1) := by decide
  have L_0 : (0 : Int32).toInt = 0 := by decide
  have L_1 : (1 : Int32).toInt = 1 := by decide
  have L_2048 : (2048 : Int32).toInt = 2048 := by decide
  refine lv_aload_n hx hb d_DiscMakerModel_byteAt_0 rfl (lv_at hl 0 rfl) ?_
  refine lv_iconst (v := 0) hx hb d_DiscMakerModel_byteAt_1 (by decide) ?_
  refine va_put (D := D) (ci := 11) (v := .int 0) (ty := .int) (C := "DiscMakerModel") (T := F_DiscMakerModel) (N := 48) hx hb ht9 in_DiscMakerModel t_DiscMakerModel t_DiscMakerModel_ok n_DiscMakerModel hown hK hP hD hS 0 rfl rfl 0 (by decide) (ht9 _ k1431) (fun _ h9 => h9) rfl (by decide +kernel) rfl rfl (Nat.le_of_ble_eq_true rfl) d_DiscMakerModel_byteAt_2 (fun H locs hP hD hS => ?_)
  have hP : va_P D CL [(h0, .inr (11, MO ma 0 sv_length sv_nodes sv_many sv_directories sv_runsFrom sv_runs sv_read sv_wrong sv_isNamed sv_goes sv_goesSize sv_goesAt sv_targetParts sv_isRoot)), ((ma 16), .inl (cJ, 46080, .inr (.inl F)))] H := hP
  have hD : va_D A [(h0, .inr (11, MO ma 0 sv_length sv_nodes sv_many sv_directories sv_runsFrom sv_runs sv_read sv_wrong sv_isNamed sv_goes sv_goesSize sv_goesAt sv_targetParts sv_isRoot)), ((ma 16), .inl (cJ, 46080, .inr (.inl F)))] := hD
  refine lv_iload_n hx hb d_DiscMakerModel_byteAt_5 rfl (lv_at hl 1 rfl) ?_
  refine lv_if_lt (tgt := 29) hx hb d_DiscMakerModel_byteAt_6 (by decide) (fun h_9 => ?_) (fun h_9 => ?_)
  · skip
    have g6_5 : x.toInt < 0 := (i_lt rfl (by decide)).mp h_9
    refine lv_iconst (v := (-1)) hx hb d_DiscMakerModel_byteAt_29 (by decide) ?_
    have hP9 := hP.sub (ws' := [(h0, .inr (11, MO ma 0 sv_length sv_nodes sv_many sv_directories sv_runsFrom sv_runs sv_read sv_wrong sv_isNamed sv_goes sv_goesSize sv_goesAt sv_targetParts sv_isRoot)), ((ma 16), .inl (cJ, 46080, .inr (.inl F)))]) [0, 1] rfl
    have hD9 := hD.sub (ws' := [(h0, .inr (11, MO ma 0 sv_length sv_nodes sv_many sv_directories sv_runsFrom sv_runs sv_read sv_wrong sv_isNamed sv_goes sv_goesSize sv_goesAt sv_targetParts sv_isRoot)), ((ma 16), .inl (cJ, 46080, .inr (.inl F)))]) [0, 1] (by decide +kernel) rfl
    exact W.iret (v := (-1)) hx hb hr (fun t ht hW => ⟨⟨(-1), 0, rfl, trivial, by rw [ht]; exact hP9, hD9⟩, hS.F ht⟩) hS.2.2 d_DiscMakerModel_byteAt_30
  · skip
    have g6_5 : ¬ x.toInt < 0 := fun h8 => h_9 ((i_lt rfl (by decide)).mpr h8)
    refine lv_iload_n hx hb d_DiscMakerModel_byteAt_9 rfl (lv_at hl 1 rfl) ?_
    refine lv_sipush (v := 2048) hx hb d_DiscMakerModel_byteAt_10 (by decide) ?_
    refine lv_aload_n hx hb d_DiscMakerModel_byteAt_13 rfl (lv_at hl 0 rfl) ?_
    refine va_get (D := D) (ci := 11) (v := .int sv_many) (C := "DiscMakerModel") (T := F_DiscMakerModel) (N := 48) hx hb ht9 in_DiscMakerModel hown hK hP 0 rfl rfl 20 (by decide) (ht9 _ k1451) (fun _ h9 => h9) rfl d_DiscMakerModel_byteAt_14 ?_
    refine lv_imul hx hb d_DiscMakerModel_byteAt_17 ?_
    refine lv_topi (fun v1 e_v1 => ?_)
    have t_v1 : v1.toInt = 2048 * sv_many.toInt := by rw [e_v1]; exact i_mul (by decide) rfl (by omega) (by omega)
    refine lv_icmp_ge (tgt := 29) hx hb d_DiscMakerModel_byteAt_18 (by decide) (fun h_9 => ?_) (fun h_9 => ?_)
    · skip
      have g18_13 : v1.toInt ≤ x.toInt := (i_le rfl rfl).mp h_9
      refine lv_iconst (v := (-1)) hx hb d_DiscMakerModel_byteAt_29 (by decide) ?_
      have hP9 := hP.sub (ws' := [(h0, .inr (11, MO ma 0 sv_length sv_nodes sv_many sv_directories sv_runsFrom sv_runs sv_read sv_wrong sv_isNamed sv_goes sv_goesSize sv_goesAt sv_targetParts sv_isRoot)), ((ma 16), .inl (cJ, 46080, .inr (.inl F)))]) [0, 1] rfl
      have hD9 := hD.sub (ws' := [(h0, .inr (11, MO ma 0 sv_length sv_nodes sv_many sv_directories sv_runsFrom sv_runs sv_read sv_wrong sv_isNamed sv_goes sv_goesSize sv_goesAt sv_targetParts sv_isRoot)), ((ma 16), .inl (cJ, 46080, .inr (.inl F)))]) [0, 1] (by decide +kernel) rfl
      exact W.iret (v := (-1)) hx hb hr (fun t ht hW => ⟨⟨(-1), 0, rfl, trivial, by rw [ht]; exact hP9, hD9⟩, hS.F ht⟩) hS.2.2 d_DiscMakerModel_byteAt_30
    · skip
      have g18_13 : ¬ v1.toInt ≤ x.toInt := fun h8 => h_9 ((i_le rfl rfl).mpr h8)
      refine lv_aload_n hx hb d_DiscMakerModel_byteAt_21 rfl (lv_at hl 0 rfl) ?_
      refine lv_iload_n hx hb d_DiscMakerModel_byteAt_22 rfl (lv_at hl 1 rfl) ?_
      have hPc := hP.sub (ws' := [(h0, .inr (11, MO ma 0 sv_length sv_nodes sv_many sv_directories sv_runsFrom sv_runs sv_read sv_wrong sv_isNamed sv_goes sv_goesSize sv_goesAt sv_targetParts sv_isRoot)), ((ma 16), .inl (cJ, 46080, .inr (.inl F)))]) [0, 1] rfl
      have hDc := hD.sub (ws' := [(h0, .inr (11, MO ma 0 sv_length sv_nodes sv_many sv_directories sv_runsFrom sv_runs sv_read sv_wrong sv_isNamed sv_goes sv_goesSize sv_goesAt sv_targetParts sv_isRoot)), ((ma 16), .inl (cJ, 46080, .inr (.inl F)))]) [0, 1] (by decide +kernel) rfl
      have hFc := va_free (wc := [(h0, .inr (11, MO ma 0 sv_length sv_nodes sv_many sv_directories sv_runsFrom sv_runs sv_read sv_wrong sv_isNamed sv_goes sv_goesSize sv_goesAt sv_targetParts sv_isRoot)), ((ma 16), .inl (cJ, 46080, .inr (.inl F)))]) hD hS hA [0, 1] rfl
      have hkc : 0 ≤ 0 := by decide
      have hks : 0 ≤ 0 := by decide
      refine va_calli (va_runV (C := "DiscMakerModel") (As := [.int x]) (rest := []) ⟨hx, hb, hml, hown, hts⟩ (m_at l D cB cI cJ cZ cN cF H.size h0 ma 0 sv_length sv_nodes sv_many sv_directories sv_runsFrom sv_runs sv_read sv_wrong sv_isNamed sv_goes sv_goesSize sv_goesAt sv_targetParts sv_isRoot F x (by (try dsimp only); first | assumption | omega | trivial) (by (try dsimp only); first | assumption | omega | trivial)) (cwV 1 hts (lg_goodV k1809 k1811 k95 k125 kc_DiscMakerModel_at) rfl rfl rfl (by decide +kernel) ⟨Nat.le_of_ble_eq_true rfl, Nat.le_of_ble_eq_true rfl⟩) ⟨fun a U g mk q => by obtain ⟨q0, q1, qP, qK, qN, qD⟩ := q; exact ⟨q0, q1, qP, va_K.moved (u := U) (U := U.calling g mk a) (Vm.Alike.refl U.vm) qK, qN.calling, qD⟩, va_recv hK hP (ci := 11) (q0 := 0) rfl rfl, fun U hU hW => ⟨rfl, by rw [hU], by rw [hU]; exact hPc, va_K.moved hW.alike hK, NN.warm hW hN, hDc.weaken (fun _ _ _ _ => trivial)⟩⟩ rfl rfl hl.1 rfl (lv_room (Nat.le_of_ble_eq_true rfl)) d_DiscMakerModel_byteAt_23 ⟨hkc, hks⟩) hS (fun q _ h => hFc q h) hFc (fun r2 u t H1 locs ht hvm hp_r2 hB hz1 hk1 hS => ?_)
      obtain ⟨hP1, hD1⟩ := hB
      rw [ht] at hP1
      obtain ⟨hP, hD⟩ := va_join (wr := []) (w1 := [(h0, .inr (11, MO ma 0 sv_length sv_nodes sv_many sv_directories sv_runsFrom sv_runs sv_read sv_wrong sv_isNamed sv_goes sv_goesSize sv_goesAt sv_targetParts sv_isRoot)), ((ma 16), .inl (cJ, 46080, .inr (.inl F)))]) hP hD [0, 1] [] rfl rfl (by decide +kernel) (by decide +kernel) hk1 hFc hP1 hD1
      clear hPc hDc hFc hP1 hD1 hk1 hz1 hkc hks
      generalize H1 = H at hP hS ⊢
      have hP : va_P D CL [(h0, .inr (11, MO ma 0 sv_length sv_nodes sv_many sv_directories sv_runsFrom sv_runs sv_read sv_wrong sv_isNamed sv_goes sv_goesSize sv_goesAt sv_targetParts sv_isRoot)), ((ma 16), .inl (cJ, 46080, .inr (.inl F)))] H := hP
      have hD : va_D A [(h0, .inr (11, MO ma 0 sv_length sv_nodes sv_many sv_directories sv_runsFrom sv_runs sv_read sv_wrong sv_isNamed sv_goes sv_goesSize sv_goesAt sv_targetParts sv_isRoot)), ((ma 16), .inl (cJ, 46080, .inr (.inl F)))] := hD
      try dsimp only at hp_r2
      obtain ⟨hr_3, hv_4, hw_5⟩ := hp_r2
      refine lv_goto (tgt := 30) hx hb d_DiscMakerModel_byteAt_26 (by decide) ?_
      have hP9 := hP.sub (ws' := [(h0, .inr (11, MO ma 0 sv_length sv_nodes sv_many sv_directories sv_runsFrom sv_runs sv_read sv_wrong sv_isNamed sv_goes sv_goesSize sv_goesAt sv_targetParts sv_isRoot)), ((ma 16), .inl (cJ, 46080, .inr (.inl F)))]) [0, 1] rfl
      have hD9 := hD.sub (ws' := [(h0, .inr (11, MO ma 0 sv_length sv_nodes sv_many sv_directories sv_runsFrom sv_runs sv_read sv_wrong sv_isNamed sv_goes sv_goesSize sv_goesAt sv_targetParts sv_isRoot)), ((ma 16), .inl (cJ, 46080, .inr (.inl F)))]) [0, 1] (by decide +kernel) rfl
      exact W.iret (v := r2) hx hb hr (fun t ht hW => ⟨⟨r2, 0, rfl, trivial, by rw [ht]; exact hP9, hD9⟩, hS.F ht⟩) hS.2.2 d_DiscMakerModel_byteAt_30

theorem d_DiscMakerModel_set_0 : decode b_DiscMakerModel_set 0 = .ok (.bipush 8, 2) := by decide +kernel
theorem d_DiscMakerModel_set_2 : decode b_DiscMakerModel_set 2 = .ok (.iload_n 1, 1) := by decide +kernel
theorem d_DiscMakerModel_set_3 : decode b_DiscMakerModel_set 3 = .ok (.bipush 7, 2) := by decide +kernel
theorem d_DiscMakerModel_set_5 : decode b_DiscMakerModel_set 5 = .ok (.iand, 1) := by decide +kernel
theorem d_DiscMakerModel_set_6 : decode b_DiscMakerModel_set 6 = .ok (.imul, 1) := by decide +kernel
theorem d_DiscMakerModel_set_7 : decode b_DiscMakerModel_set 7 = .ok (.istore_n 3, 1) := by decide +kernel
theorem d_DiscMakerModel_set_8 : decode b_DiscMakerModel_set 8 = .ok (.aload_n 0, 1) := by decide +kernel
theorem d_DiscMakerModel_set_9 : decode b_DiscMakerModel_set 9 = .ok (.getfield 60, 3) := by decide +kernel
theorem d_DiscMakerModel_set_12 : decode b_DiscMakerModel_set 12 = .ok (.iload_n 1, 1) := by decide +kernel
theorem d_DiscMakerModel_set_13 : decode b_DiscMakerModel_set 13 = .ok (.iconst 3, 1) := by decide +kernel
theorem d_DiscMakerModel_set_14 : decode b_DiscMakerModel_set 14 = .ok (.ishr, 1) := by decide +kernel
theorem d_DiscMakerModel_set_15 : decode b_DiscMakerModel_set 15 = .ok (.aload_n 0, 1) := by decide +kernel
theorem d_DiscMakerModel_set_16 : decode b_DiscMakerModel_set 16 = .ok (.getfield 60, 3) := by decide +kernel
theorem d_DiscMakerModel_set_19 : decode b_DiscMakerModel_set 19 = .ok (.iload_n 1, 1) := by decide +kernel
theorem d_DiscMakerModel_set_20 : decode b_DiscMakerModel_set 20 = .ok (.iconst 3, 1) := by decide +kernel
theorem d_DiscMakerModel_set_21 : decode b_DiscMakerModel_set 21 = .ok (.ishr, 1) := by decide +kernel
theorem d_DiscMakerModel_set_22 : decode b_DiscMakerModel_set 22 = .ok (.laload, 1) := by decide +kernel
theorem d_DiscMakerModel_set_23 : decode b_DiscMakerModel_set 23 = .ok (.ldc2_w 188, 3) := by decide +kernel
theorem d_DiscMakerModel_set_26 : decode b_DiscMakerModel_set 26 = .ok (.iload_n 3, 1) := by decide +kernel
theorem d_DiscMakerModel_set_27 : decode b_DiscMakerModel_set 27 = .ok (.lshl, 1) := by decide +kernel
theorem d_DiscMakerModel_set_28 : decode b_DiscMakerModel_set 28 = .ok (.ldc2_w 190, 3) := by decide +kernel
theorem d_DiscMakerModel_set_31 : decode b_DiscMakerModel_set 31 = .ok (.lxor, 1) := by decide +kernel
theorem d_DiscMakerModel_set_32 : decode b_DiscMakerModel_set 32 = .ok (.land, 1) := by decide +kernel
theorem d_DiscMakerModel_set_33 : decode b_DiscMakerModel_set 33 = .ok (.iload_n 2, 1) := by decide +kernel
theorem d_DiscMakerModel_set_34 : decode b_DiscMakerModel_set 34 = .ok (.i2l, 1) := by decide +kernel
theorem d_DiscMakerModel_set_35 : decode b_DiscMakerModel_set 35 = .ok (.ldc2_w 188, 3) := by decide +kernel
theorem d_DiscMakerModel_set_38 : decode b_DiscMakerModel_set 38 = .ok (.land, 1) := by decide +kernel
theorem d_DiscMakerModel_set_39 : decode b_DiscMakerModel_set 39 = .ok (.iload_n 3, 1) := by decide +kernel
theorem d_DiscMakerModel_set_40 : decode b_DiscMakerModel_set 40 = .ok (.lshl, 1) := by decide +kernel
theorem d_DiscMakerModel_set_41 : decode b_DiscMakerModel_set 41 = .ok (.lor, 1) := by decide +kernel
theorem d_DiscMakerModel_set_42 : decode b_DiscMakerModel_set 42 = .ok (.lastore, 1) := by decide +kernel
theorem d_DiscMakerModel_set_43 : decode b_DiscMakerModel_set 43 = .ok (.return_, 1) := by decide +kernel
set_option maxHeartbeats 4000000 in
set_option maxRecDepth 100000 in
theorem m_set (l : Launch) (D : va_G) (cB cI cJ cZ cN cF : ClassId) (sz : Nat) (h0 : Nat) (ma : Nat → Nat) (sv_thrown sv_length sv_nodes sv_many sv_directories sv_runsFrom sv_runs sv_read sv_wrong sv_isNamed sv_goes sv_goesSize sv_goesAt sv_targetParts sv_isRoot : Int32) (F : Nat → Int64) (x : Int32) (y : Int32) (hx0 : 0 ≤ x.toInt) (hx1 : x.toInt < 368640) : Met l y_DiscMakerModel_set w_DiscMakerModel_set ({ frames := 0, cells := 0, slots := 0, locals := 0 }) (va_Pc [.ref h0, .int x, .int y] (fun U => U.heap.size = sz ∧ va_P D CL [(h0, .inr (11, MO ma sv_thrown sv_length sv_nodes sv_many sv_directories sv_runsFrom sv_runs sv_read sv_wrong sv_isNamed sv_goes sv_goesSize sv_goesAt sv_targetParts sv_isRoot)), ((ma 16), .inl (cJ, 46080, .inr (.inl F)))] U.heap ∧ va_K D CL (TY cB cI cJ cZ cN cF) U ∧ NN U ∧ va_D (fun _ => True) [(h0, .inr (11, MO ma sv_thrown sv_length sv_nodes sv_many sv_directories sv_runsFrom sv_runs sv_read sv_wrong sv_isNamed sv_goes sv_goesSize sv_goesAt sv_targetParts sv_isRoot)), ((ma 16), .inl (cJ, 46080, .inr (.inl F)))])) (va_Qv (fun (u : (Nat → Int64)) => True) (fun (u : (Nat → Int64)) (t : State) => match u with | G => va_P D CL [(h0, .inr (11, MO ma sv_thrown sv_length sv_nodes sv_many sv_directories sv_runsFrom sv_runs sv_read sv_wrong sv_isNamed sv_goes sv_goesSize sv_goesAt sv_targetParts sv_isRoot)), ((ma 16), .inl (cJ, 46080, .inr (.inl G)))] t.heap ∧ va_D (va_A [(h0, .inr (11, MO ma sv_thrown sv_length sv_nodes sv_many sv_directories sv_runsFrom sv_runs sv_read sv_wrong sv_isNamed sv_goes sv_goesSize sv_goesAt sv_targetParts sv_isRoot)), ((ma 16), .inl (cJ, 46080, .inr (.inl F)))] sz) [(h0, .inr (11, MO ma sv_thrown sv_length sv_nodes sv_many sv_directories sv_runsFrom sv_runs sv_read sv_wrong sv_isNamed sv_goes sv_goesSize sv_goesAt sv_targetParts sv_isRoot)), ((ma 16), .inl (cJ, 46080, .inr (.inl G)))]) (va_A [(h0, .inr (11, MO ma sv_thrown sv_length sv_nodes sv_many sv_directories sv_runsFrom sv_runs sv_read sv_wrong sv_isNamed sv_goes sv_goesSize sv_goesAt sv_targetParts sv_isRoot)), ((ma 16), .inl (cJ, 46080, .inr (.inl F)))] sz)) 0 0 (va_A [(h0, .inr (11, MO ma sv_thrown sv_length sv_nodes sv_many sv_directories sv_runsFrom sv_runs sv_read sv_wrong sv_isNamed sv_goes sv_goesSize sv_goesAt sv_targetParts sv_isRoot)), ((ma 16), .inl (cJ, 46080, .inr (.inl F)))] sz) := by
  refine Met.ofW (cc := b_DiscMakerModel_set) (maxL := 4) (ret := none) (by decide) rfl ?_
  intro p e s m args below meth c s₁ B hml hv
  obtain ⟨rfl, hsz, hP, hK, hN, hD0⟩ := hv
  have hx := B.exec
  have hb := B.bytes
  have hr := B.returns
  have hts := atoms_spec (ws := w_DiscMakerModel_set) B.pre
  have ht9 := fun (w : Cond) (h : w ∈ lw_g) => hts w (List.mem_cons_of_mem _ h)
  have hown : s.vm.findClass "DiscMakerModel" = some m.cls := findClass_of_methodNamed B.named
  have hlocks := B.notSynchronized
  subst hsz
  have hD := hD0.self (sz := s.heap.size)
  generalize hAe : va_A [(h0, .inr (11, MO ma sv_thrown sv_length sv_nodes sv_many sv_directories sv_runsFrom sv_runs sv_read sv_wrong sv_isNamed sv_goes sv_goesSize sv_goesAt sv_targetParts sv_isRoot)), ((ma 16), .inl (cJ, 46080, .inr (.inl F)))] s.heap.size = A at hD ⊢
  have hA : ∀ q : Nat, s.heap.size ≤ q → A q := fun q h => by rw [← hAe]; exact Or.inr h
  have hS : va_S A s.heap s.heap [] := va_S.rf
  have hP : va_P D CL [(h0, .inr (11, MO ma sv_thrown sv_length sv_nodes sv_many sv_directories sv_runsFrom sv_runs sv_read sv_wrong sv_isNamed sv_goes sv_goesSize sv_goesAt sv_targetParts sv_isRoot)), ((ma 16), .inl (cJ, 46080, .inr (.inl F)))] s.heap := hP
  have hl := lv_entry [.ref h0, .int x, .int y] (n := 4) (Nat.le_of_ble_eq_true rfl)
  rw [lg_entry_eq]
  generalize (lg_sl [.ref h0, .int x, .int y] ++ List.replicate (4 - (lg_sl [.ref h0, .int x, .int y]).length) Slot.unset).toArray = ls at hl ⊢
  have hl : lv_has ls 4 [(0, .ref h0), (1, .int x), (2, .int y)] := hl
  have L_m1 : ((-1) : Int32).toInt = (-1) := by decide
  have L_0 : (0 : Int32).toInt = 0 := by decide
  have L_1 : (1 : Int32).toInt = 1 := by decide
  have L_3 : (3 : Int32).toInt = 3 := by decide
  have L_7 : (7 : Int32).toInt = 7 := by decide
  have L_8 : (8 : Int32).toInt = 8 := by decide
  refine lv_bipush (v := 8) hx hb d_DiscMakerModel_set_0 (by decide) ?_
  refine lv_iload_n hx hb d_DiscMakerModel_set_2 rfl (lv_at hl 1 rfl) ?_
  refine lv_bipush (v := 7) hx hb d_DiscMakerModel_set_3 (by decide) ?_
  refine lv_iand hx hb d_DiscMakerModel_set_5 ?_
  refine lv_topi (fun v1 e_v1 => ?_)
  have t_v1 : 0 ≤ v1.toInt ∧ v1.toInt ≤ 7 := by rw [e_v1]; exact i_and (by decide) (by decide)
  refine lv_imul hx hb d_DiscMakerModel_set_6 ?_
  refine lv_topi (fun v2 e_v2 => ?_)
  have t_v2 : v2.toInt = 8 * v1.toInt := by rw [e_v2]; exact i_mul (by decide) rfl (by omega) (by omega)
  refine lv_istore_n hx hb d_DiscMakerModel_set_7 rfl hl (by decide) rfl (fun ls hl => ?_)
  have hl : lv_has ls 4 [(3, .int v2), (0, .ref h0), (1, .int x), (2, .int y)] := hl
  refine lv_aload_n hx hb d_DiscMakerModel_set_8 rfl (lv_at hl 1 rfl) ?_
  refine va_get (D := D) (ci := 11) (v := .ref (ma 16)) (C := "DiscMakerModel") (T := F_DiscMakerModel) (N := 48) hx hb ht9 in_DiscMakerModel hown hK hP 0 rfl rfl 19 (by decide) (ht9 _ k1450) (fun _ h9 => h9) rfl d_DiscMakerModel_set_9 ?_
  refine lv_iload_n hx hb d_DiscMakerModel_set_12 rfl (lv_at hl 2 rfl) ?_
  refine lv_iconst (v := 3) hx hb d_DiscMakerModel_set_13 (by decide) ?_
  refine lv_ishr hx hb d_DiscMakerModel_set_14 ?_
  refine lv_topi (fun v3 e_v3 => ?_)
  have t_v3 : v3.toInt = x.toInt / 8 := by rw [e_v3]; exact i_shr (k := 3) rfl (by decide) (by decide)
  refine lv_aload_n hx hb d_DiscMakerModel_set_15 rfl (lv_at hl 1 rfl) ?_
  refine va_get (D := D) (ci := 11) (v := .ref (ma 16)) (C := "DiscMakerModel") (T := F_DiscMakerModel) (N := 48) hx hb ht9 in_DiscMakerModel hown hK hP 0 rfl rfl 19 (by decide) (ht9 _ k1450) (fun _ h9 => h9) rfl d_DiscMakerModel_set_16 ?_
  refine lv_iload_n hx hb d_DiscMakerModel_set_19 rfl (lv_at hl 2 rfl) ?_
  refine lv_iconst (v := 3) hx hb d_DiscMakerModel_set_20 (by decide) ?_
  refine lv_ishr hx hb d_DiscMakerModel_set_21 ?_
  refine lv_topi (fun v4 e_v4 => ?_)
  have t_v4 : v4.toInt = x.toInt / 8 := by rw [e_v4]; exact i_shr (k := 3) rfl (by decide) (by decide)
  refine va_lald hx hb hK hP 1 2 rfl rfl (vp_in_iff.mpr ⟨by omega, by omega⟩) d_DiscMakerModel_set_22 ?_
  refine lv_ldc2 (v := 255) hx hb hown (ht9 _ k1731) d_DiscMakerModel_set_23 ?_
  refine lv_iload_n hx hb d_DiscMakerModel_set_26 rfl (lv_at hl 0 rfl) ?_
  refine lv_lshl hx hb d_DiscMakerModel_set_27 rfl ?_
  refine lv_ldc2 (v := (-1)) hx hb hown (ht9 _ k1732) d_DiscMakerModel_set_28 ?_
  refine lv_lxor hx hb d_DiscMakerModel_set_31 ?_
  refine lv_land hx hb d_DiscMakerModel_set_32 ?_
  refine lv_iload_n hx hb d_DiscMakerModel_set_33 rfl (lv_at hl 3 rfl) ?_
  refine lv_i2l hx hb d_DiscMakerModel_set_34 rfl ?_
  refine lv_topl (fun w5 e_w5 => ?_)
  have t_w5 : w5.toInt = y.toInt ∧ (-2147483648) ≤ y.toInt ∧ y.toInt ≤ 2147483647 := by rw [e_w5]; exact ⟨l_i rfl, i_rng _⟩
  refine lv_ldc2 (v := 255) hx hb hown (ht9 _ k1731) d_DiscMakerModel_set_35 ?_
  refine lv_land hx hb d_DiscMakerModel_set_38 ?_
  refine lv_iload_n hx hb d_DiscMakerModel_set_39 rfl (lv_at hl 0 rfl) ?_
  refine lv_lshl hx hb d_DiscMakerModel_set_40 rfl ?_
  refine lv_lor hx hb d_DiscMakerModel_set_41 ?_
  refine zq_last hx hb hK hP hD hS 1 2 rfl rfl (vp_in_iff.mpr ⟨by omega, by omega⟩) d_DiscMakerModel_set_42 (fun f6 e_f6 H locs hP hD hS => ?_)
  have hP : va_P D CL [(h0, .inr (11, MO ma sv_thrown sv_length sv_nodes sv_many sv_directories sv_runsFrom sv_runs sv_read sv_wrong sv_isNamed sv_goes sv_goesSize sv_goesAt sv_targetParts sv_isRoot)), ((ma 16), .inl (cJ, 46080, .inr (.inl f6)))] H := hP
  have hD : va_D A [(h0, .inr (11, MO ma sv_thrown sv_length sv_nodes sv_many sv_directories sv_runsFrom sv_runs sv_read sv_wrong sv_isNamed sv_goes sv_goesSize sv_goesAt sv_targetParts sv_isRoot)), ((ma 16), .inl (cJ, 46080, .inr (.inl f6)))] := hD
  have hP9 := hP.sub (ws' := [(h0, .inr (11, MO ma sv_thrown sv_length sv_nodes sv_many sv_directories sv_runsFrom sv_runs sv_read sv_wrong sv_isNamed sv_goes sv_goesSize sv_goesAt sv_targetParts sv_isRoot)), ((ma 16), .inl (cJ, 46080, .inr (.inl f6)))]) [0, 1] rfl
  have hD9 := hD.sub (ws' := [(h0, .inr (11, MO ma sv_thrown sv_length sv_nodes sv_many sv_directories sv_runsFrom sv_runs sv_read sv_wrong sv_isNamed sv_goes sv_goesSize sv_goesAt sv_targetParts sv_isRoot)), ((ma 16), .inl (cJ, 46080, .inr (.inl f6)))]) [0, 1] (by decide +kernel) rfl
  exact W.vret hx hb hr (fun t ht hW => ⟨⟨f6, rfl, trivial, by rw [ht]; exact hP9, hD9⟩, hS.F ht⟩) hS.2.2 d_DiscMakerModel_set_43

theorem d_DiscMakerModel_poke_0 : decode b_DiscMakerModel_poke 0 = .ok (.aload_n 0, 1) := by decide +kernel
theorem d_DiscMakerModel_poke_1 : decode b_DiscMakerModel_poke 1 = .ok (.iconst 0, 1) := by decide +kernel
theorem d_DiscMakerModel_poke_2 : decode b_DiscMakerModel_poke 2 = .ok (.putfield 118, 3) := by decide +kernel
theorem d_DiscMakerModel_poke_5 : decode b_DiscMakerModel_poke 5 = .ok (.iload_n 1, 1) := by decide +kernel
theorem d_DiscMakerModel_poke_6 : decode b_DiscMakerModel_poke 6 = .ok (.ifCond .lt 15, 3) := by decide +kernel
theorem d_DiscMakerModel_poke_9 : decode b_DiscMakerModel_poke 9 = .ok (.iload_n 1, 1) := by decide +kernel
theorem d_DiscMakerModel_poke_10 : decode b_DiscMakerModel_poke 10 = .ok (.sipush 2048, 3) := by decide +kernel
theorem d_DiscMakerModel_poke_13 : decode b_DiscMakerModel_poke 13 = .ok (.aload_n 0, 1) := by decide +kernel
theorem d_DiscMakerModel_poke_14 : decode b_DiscMakerModel_poke 14 = .ok (.getfield 282, 3) := by decide +kernel
theorem d_DiscMakerModel_poke_17 : decode b_DiscMakerModel_poke 17 = .ok (.imul, 1) := by decide +kernel
theorem d_DiscMakerModel_poke_18 : decode b_DiscMakerModel_poke 18 = .ok (.if_icmp .lt 5, 3) := by decide +kernel
theorem d_DiscMakerModel_poke_21 : decode b_DiscMakerModel_poke 21 = .ok (.iconst (-1), 1) := by decide +kernel
theorem d_DiscMakerModel_poke_22 : decode b_DiscMakerModel_poke 22 = .ok (.ireturn, 1) := by decide +kernel
theorem d_DiscMakerModel_poke_23 : decode b_DiscMakerModel_poke 23 = .ok (.aload_n 0, 1) := by decide +kernel
theorem d_DiscMakerModel_poke_24 : decode b_DiscMakerModel_poke 24 = .ok (.iload_n 1, 1) := by decide +kernel
theorem d_DiscMakerModel_poke_25 : decode b_DiscMakerModel_poke 25 = .ok (.invokevirtual 303, 3) := by decide +kernel
theorem d_DiscMakerModel_poke_28 : decode b_DiscMakerModel_poke 28 = .ok (.istore_n 3, 1) := by decide +kernel
theorem d_DiscMakerModel_poke_29 : decode b_DiscMakerModel_poke 29 = .ok (.aload_n 0, 1) := by decide +kernel
theorem d_DiscMakerModel_poke_30 : decode b_DiscMakerModel_poke 30 = .ok (.iload_n 1, 1) := by decide +kernel
theorem d_DiscMakerModel_poke_31 : decode b_DiscMakerModel_poke 31 = .ok (.iload_n 2, 1) := by decide +kernel
theorem d_DiscMakerModel_poke_32 : decode b_DiscMakerModel_poke 32 = .ok (.invokevirtual 192, 3) := by decide +kernel
theorem d_DiscMakerModel_poke_35 : decode b_DiscMakerModel_poke 35 = .ok (.iload_n 3, 1) := by decide +kernel
theorem d_DiscMakerModel_poke_36 : decode b_DiscMakerModel_poke 36 = .ok (.ireturn, 1) := by decide +kernel
set_option maxHeartbeats 4000000 in
set_option maxRecDepth 100000 in
theorem m_poke (l : Launch) (D : va_G) (cB cI cJ cZ cN cF : ClassId) (sz : Nat) (h0 : Nat) (ma : Nat → Nat) (sv_thrown sv_length sv_nodes sv_many sv_directories sv_runsFrom sv_runs sv_read sv_wrong sv_isNamed sv_goes sv_goesSize sv_goesAt sv_targetParts sv_isRoot : Int32) (F : Nat → Int64) (x : Int32) (y : Int32) (hm0 : 0 ≤ sv_many.toInt ∧ sv_many.toInt ≤ 180) : Met l y_DiscMakerModel_poke w_DiscMakerModel_poke ({ frames := 1, cells := 0, slots := 0, locals := 23 }) (va_Pc [.ref h0, .int x, .int y] (fun U => U.heap.size = sz ∧ va_P D CL [(h0, .inr (11, MO ma sv_thrown sv_length sv_nodes sv_many sv_directories sv_runsFrom sv_runs sv_read sv_wrong sv_isNamed sv_goes sv_goesSize sv_goesAt sv_targetParts sv_isRoot)), ((ma 16), .inl (cJ, 46080, .inr (.inl F)))] U.heap ∧ va_K D CL (TY cB cI cJ cZ cN cF) U ∧ NN U ∧ va_D (fun _ => True) [(h0, .inr (11, MO ma sv_thrown sv_length sv_nodes sv_many sv_directories sv_runsFrom sv_runs sv_read sv_wrong sv_isNamed sv_goes sv_goesSize sv_goesAt sv_targetParts sv_isRoot)), ((ma 16), .inl (cJ, 46080, .inr (.inl F)))])) (va_Qi (fun (r : Int32) (u : Int32 × (Nat → Int64)) => True) (fun (u : Int32 × (Nat → Int64)) (t : State) => match u with | (th, G) => va_P D CL [(h0, .inr (11, MO ma th sv_length sv_nodes sv_many sv_directories sv_runsFrom sv_runs sv_read sv_wrong sv_isNamed sv_goes sv_goesSize sv_goesAt sv_targetParts sv_isRoot)), ((ma 16), .inl (cJ, 46080, .inr (.inl G)))] t.heap ∧ va_D (va_A [(h0, .inr (11, MO ma sv_thrown sv_length sv_nodes sv_many sv_directories sv_runsFrom sv_runs sv_read sv_wrong sv_isNamed sv_goes sv_goesSize sv_goesAt sv_targetParts sv_isRoot)), ((ma 16), .inl (cJ, 46080, .inr (.inl F)))] sz) [(h0, .inr (11, MO ma th sv_length sv_nodes sv_many sv_directories sv_runsFrom sv_runs sv_read sv_wrong sv_isNamed sv_goes sv_goesSize sv_goesAt sv_targetParts sv_isRoot)), ((ma 16), .inl (cJ, 46080, .inr (.inl G)))]) (va_A [(h0, .inr (11, MO ma sv_thrown sv_length sv_nodes sv_many sv_directories sv_runsFrom sv_runs sv_read sv_wrong sv_isNamed sv_goes sv_goesSize sv_goesAt sv_targetParts sv_isRoot)), ((ma 16), .inl (cJ, 46080, .inr (.inl F)))] sz)) 0 0 (va_A [(h0, .inr (11, MO ma sv_thrown sv_length sv_nodes sv_many sv_directories sv_runsFrom sv_runs sv_read sv_wrong sv_isNamed sv_goes sv_goesSize sv_goesAt sv_targetParts sv_isRoot)), ((ma 16), .inl (cJ, 46080, .inr (.inl F)))] sz) := by
  refine Met.ofW (cc := b_DiscMakerModel_poke) (maxL := 4) (ret := some .int) (by decide) rfl ?_
  intro p e s m args below meth c s₁ B hml hv
  obtain ⟨rfl, hsz, hP, hK, hN, hD0⟩ := hv
  have hx := B.exec
  have hb := B.bytes
  have hr := B.returns
  have hts := atoms_spec (ws := w_DiscMakerModel_poke) B.pre
  have ht9 := fun (w : Cond) (h : w ∈ lw_g) => hts w (List.mem_cons_of_mem _ h)
  have hown : s.vm.findClass "DiscMakerModel" = some m.cls := findClass_of_methodNamed B.named
  have hlocks := B.notSynchronized
  subst hsz
  have hD := hD0.self (sz := s.heap.size)
  generalize hAe : va_A [(h0, .inr (11, MO ma sv_thrown sv_length sv_nodes sv_many sv_directories sv_runsFrom sv_runs sv_read sv_wrong sv_isNamed sv_goes sv_goesSize sv_goesAt sv_targetParts sv_isRoot)), ((ma 16), .inl (cJ, 46080, .inr (.inl F)))] s.heap.size = A at hD ⊢
  have hA : ∀ q : Nat, s.heap.size ≤ q → A q := fun q h => by rw [← hAe]; exact Or.inr h
  have hS : va_S A s.heap s.heap [] := va_S.rf
  have hP : va_P D CL [(h0, .inr (11, MO ma sv_thrown sv_length sv_nodes sv_many sv_directories sv_runsFrom sv_runs sv_read sv_wrong sv_isNamed sv_goes sv_goesSize sv_goesAt sv_targetParts sv_isRoot)), ((ma 16), .inl (cJ, 46080, .inr (.inl F)))] s.heap := hP
  have hl := lv_entry [.ref h0, .int x, .int y] (n := 4) (Nat.le_of_ble_eq_true rfl)
  rw [lg_entry_eq]
  generalize (lg_sl [.ref h0, .int x, .int y] ++ List.replicate (4 - (lg_sl [.ref h0, .int x, .int y]).length) Slot.unset).toArray = ls at hl ⊢
  have hl : lv_has ls 4 [(0, .ref h0), (1, .int x), (2, .int y)] := hl
  have L_m1 : ((-1) : Int32).toInt = (-1) := by decide
  have L_0 : (0 : Int32).toInt = 0 := by decide
  have L_1 : (1 : Int32).toInt = 1 := by decide
  have L_2048 : (2048 : Int32).toInt = 2048 := by decide
  refine lv_aload_n hx hb d_DiscMakerModel_poke_0 rfl (lv_at hl 0 rfl) ?_
  refine lv_iconst (v := 0) hx hb d_DiscMakerModel_poke_1 (by decide) ?_
  refine va_put (D := D) (ci := 11) (v := .int 0) (ty := .int) (C := "DiscMakerModel") (T := F_DiscMakerModel) (N := 48) hx hb ht9 in_DiscMakerModel t_DiscMakerModel t_DiscMakerModel_ok n_DiscMakerModel hown hK hP hD hS 0 rfl rfl 0 (by decide) (ht9 _ k1431) (fun _ h9 => h9) rfl (by decide +kernel) rfl rfl (Nat.le_of_ble_eq_true rfl) d_DiscMakerModel_poke_2 (fun H locs hP hD hS => ?_)
  have hP : va_P D CL [(h0, .inr (11, MO ma 0 sv_length sv_nodes sv_many sv_directories sv_runsFrom sv_runs sv_read sv_wrong sv_isNamed sv_goes sv_goesSize sv_goesAt sv_targetParts sv_isRoot)), ((ma 16), .inl (cJ, 46080, .inr (.inl F)))] H := hP
  have hD : va_D A [(h0, .inr (11, MO ma 0 sv_length sv_nodes sv_many sv_directories sv_runsFrom sv_runs sv_read sv_wrong sv_isNamed sv_goes sv_goesSize sv_goesAt sv_targetParts sv_isRoot)), ((ma 16), .inl (cJ, 46080, .inr (.inl F)))] := hD
  refine lv_iload_n hx hb d_DiscMakerModel_poke_5 rfl (lv_at hl 1 rfl) ?_
  refine lv_if_lt (tgt := 21) hx hb d_DiscMakerModel_poke_6 (by decide) (fun h_9 => ?_) (fun h_9 => ?_)
  · skip
    have g6_5 : x.toInt < 0 := (i_lt rfl (by decide)).mp h_9
    refine lv_iconst (v := (-1)) hx hb d_DiscMakerModel_poke_21 (by decide) ?_
    have hP9 := hP.sub (ws' := [(h0, .inr (11, MO ma 0 sv_length sv_nodes sv_many sv_directories sv_runsFrom sv_runs sv_read sv_wrong sv_isNamed sv_goes sv_goesSize sv_goesAt sv_targetParts sv_isRoot)), ((ma 16), .inl (cJ, 46080, .inr (.inl F)))]) [0, 1] rfl
    have hD9 := hD.sub (ws' := [(h0, .inr (11, MO ma 0 sv_length sv_nodes sv_many sv_directories sv_runsFrom sv_runs sv_read sv_wrong sv_isNamed sv_goes sv_goesSize sv_goesAt sv_targetParts sv_isRoot)), ((ma 16), .inl (cJ, 46080, .inr (.inl F)))]) [0, 1] (by decide +kernel) rfl
    exact W.iret (v := (-1)) hx hb hr (fun t ht hW => ⟨⟨(-1), (0, F), rfl, trivial, by rw [ht]; exact hP9, hD9⟩, hS.F ht⟩) hS.2.2 d_DiscMakerModel_poke_22
  · skip
    have g6_5 : ¬ x.toInt < 0 := fun h8 => h_9 ((i_lt rfl (by decide)).mpr h8)
    refine lv_iload_n hx hb d_DiscMakerModel_poke_9 rfl (lv_at hl 1 rfl) ?_
    refine lv_sipush (v := 2048) hx hb d_DiscMakerModel_poke_10 (by decide) ?_
    refine lv_aload_n hx hb d_DiscMakerModel_poke_13 rfl (lv_at hl 0 rfl) ?_
    refine va_get (D := D) (ci := 11) (v := .int sv_many) (C := "DiscMakerModel") (T := F_DiscMakerModel) (N := 48) hx hb ht9 in_DiscMakerModel hown hK hP 0 rfl rfl 20 (by decide) (ht9 _ k1451) (fun _ h9 => h9) rfl d_DiscMakerModel_poke_14 ?_
    refine lv_imul hx hb d_DiscMakerModel_poke_17 ?_
    refine lv_topi (fun v1 e_v1 => ?_)
    have t_v1 : v1.toInt = 2048 * sv_many.toInt := by rw [e_v1]; exact i_mul (by decide) rfl (by omega) (by omega)
    refine lv_icmp_lt (tgt := 23) hx hb d_DiscMakerModel_poke_18 (by decide) (fun h_9 => ?_) (fun h_9 => ?_)
    · skip
      have g18_13 : x.toInt < v1.toInt := (i_lt rfl rfl).mp h_9
      refine lv_aload_n hx hb d_DiscMakerModel_poke_23 rfl (lv_at hl 0 rfl) ?_
      refine lv_iload_n hx hb d_DiscMakerModel_poke_24 rfl (lv_at hl 1 rfl) ?_
      have hPc := hP.sub (ws' := [(h0, .inr (11, MO ma 0 sv_length sv_nodes sv_many sv_directories sv_runsFrom sv_runs sv_read sv_wrong sv_isNamed sv_goes sv_goesSize sv_goesAt sv_targetParts sv_isRoot)), ((ma 16), .inl (cJ, 46080, .inr (.inl F)))]) [0, 1] rfl
      have hDc := hD.sub (ws' := [(h0, .inr (11, MO ma 0 sv_length sv_nodes sv_many sv_directories sv_runsFrom sv_runs sv_read sv_wrong sv_isNamed sv_goes sv_goesSize sv_goesAt sv_targetParts sv_isRoot)), ((ma 16), .inl (cJ, 46080, .inr (.inl F)))]) [0, 1] (by decide +kernel) rfl
      have hFc := va_free (wc := [(h0, .inr (11, MO ma 0 sv_length sv_nodes sv_many sv_directories sv_runsFrom sv_runs sv_read sv_wrong sv_isNamed sv_goes sv_goesSize sv_goesAt sv_targetParts sv_isRoot)), ((ma 16), .inl (cJ, 46080, .inr (.inl F)))]) hD hS hA [0, 1] rfl
      have hkc : 0 ≤ 0 := by decide
      have hks : 0 ≤ 0 := by decide
      refine va_calli (va_runV (C := "DiscMakerModel") (As := [.int x]) (rest := []) ⟨hx, hb, hml, hown, hts⟩ (m_at l D cB cI cJ cZ cN cF H.size h0 ma 0 sv_length sv_nodes sv_many sv_directories sv_runsFrom sv_runs sv_read sv_wrong sv_isNamed sv_goes sv_goesSize sv_goesAt sv_targetParts sv_isRoot F x (by (try dsimp only); first | assumption | omega | trivial) (by (try dsimp only); first | assumption | omega | trivial)) (cwV 1 hts (lg_goodV k1809 k1811 k95 k125 kc_DiscMakerModel_at) rfl rfl rfl (by decide +kernel) ⟨Nat.le_of_ble_eq_true rfl, Nat.le_of_ble_eq_true rfl⟩) ⟨fun a U g mk q => by obtain ⟨q0, q1, qP, qK, qN, qD⟩ := q; exact ⟨q0, q1, qP, va_K.moved (u := U) (U := U.calling g mk a) (Vm.Alike.refl U.vm) qK, qN.calling, qD⟩, va_recv hK hP (ci := 11) (q0 := 0) rfl rfl, fun U hU hW => ⟨rfl, by rw [hU], by rw [hU]; exact hPc, va_K.moved hW.alike hK, NN.warm hW hN, hDc.weaken (fun _ _ _ _ => trivial)⟩⟩ rfl rfl hl.1 rfl (lv_room (Nat.le_of_ble_eq_true rfl)) d_DiscMakerModel_poke_25 ⟨hkc, hks⟩) hS (fun q _ h => hFc q h) hFc (fun r2 u t H1 locs ht hvm hp_r2 hB hz1 hk1 hS => ?_)
      obtain ⟨hP1, hD1⟩ := hB
      rw [ht] at hP1
      obtain ⟨hP, hD⟩ := va_join (wr := []) (w1 := [(h0, .inr (11, MO ma 0 sv_length sv_nodes sv_many sv_directories sv_runsFrom sv_runs sv_read sv_wrong sv_isNamed sv_goes sv_goesSize sv_goesAt sv_targetParts sv_isRoot)), ((ma 16), .inl (cJ, 46080, .inr (.inl F)))]) hP hD [0, 1] [] rfl rfl (by decide +kernel) (by decide +kernel) hk1 hFc hP1 hD1
      clear hPc hDc hFc hP1 hD1 hk1 hz1 hkc hks
      generalize H1 = H at hP hS ⊢
      have hP : va_P D CL [(h0, .inr (11, MO ma 0 sv_length sv_nodes sv_many sv_directories sv_runsFrom sv_runs sv_read sv_wrong sv_isNamed sv_goes sv_goesSize sv_goesAt sv_targetParts sv_isRoot)), ((ma 16), .inl (cJ, 46080, .inr (.inl F)))] H := hP
      have hD : va_D A [(h0, .inr (11, MO ma 0 sv_length sv_nodes sv_many sv_directories sv_runsFrom sv_runs sv_read sv_wrong sv_isNamed sv_goes sv_goesSize sv_goesAt sv_targetParts sv_isRoot)), ((ma 16), .inl (cJ, 46080, .inr (.inl F)))] := hD
      try dsimp only at hp_r2
      obtain ⟨hr_3, hv_4, hw_5⟩ := hp_r2
      refine lv_istore_n hx hb d_DiscMakerModel_poke_28 rfl hl (by decide) rfl (fun ls hl => ?_)
      have hl : lv_has ls 4 [(3, .int r2), (0, .ref h0), (1, .int x), (2, .int y)] := hl
      refine lv_aload_n hx hb d_DiscMakerModel_poke_29 rfl (lv_at hl 1 rfl) ?_
      refine lv_iload_n hx hb d_DiscMakerModel_poke_30 rfl (lv_at hl 2 rfl) ?_
      refine lv_iload_n hx hb d_DiscMakerModel_poke_31 rfl (lv_at hl 3 rfl) ?_
      have hPc := hP.sub (ws' := [(h0, .inr (11, MO ma 0 sv_length sv_nodes sv_many sv_directories sv_runsFrom sv_runs sv_read sv_wrong sv_isNamed sv_goes sv_goesSize sv_goesAt sv_targetParts sv_isRoot)), ((ma 16), .inl (cJ, 46080, .inr (.inl F)))]) [0, 1] rfl
      have hDc := hD.sub (ws' := [(h0, .inr (11, MO ma 0 sv_length sv_nodes sv_many sv_directories sv_runsFrom sv_runs sv_read sv_wrong sv_isNamed sv_goes sv_goesSize sv_goesAt sv_targetParts sv_isRoot)), ((ma 16), .inl (cJ, 46080, .inr (.inl F)))]) [0, 1] (by decide +kernel) rfl
      have hFc := va_free (wc := [(h0, .inr (11, MO ma 0 sv_length sv_nodes sv_many sv_directories sv_runsFrom sv_runs sv_read sv_wrong sv_isNamed sv_goes sv_goesSize sv_goesAt sv_targetParts sv_isRoot)), ((ma 16), .inl (cJ, 46080, .inr (.inl F)))]) hD hS hA [0, 1] rfl
      have hkc : 0 ≤ 0 := by decide
      have hks : 0 ≤ 0 := by decide
      refine va_callv (va_runV (C := "DiscMakerModel") (As := [.int x, .int y]) (rest := []) ⟨hx, hb, hml, hown, hts⟩ (m_set l D cB cI cJ cZ cN cF H.size h0 ma 0 sv_length sv_nodes sv_many sv_directories sv_runsFrom sv_runs sv_read sv_wrong sv_isNamed sv_goes sv_goesSize sv_goesAt sv_targetParts sv_isRoot F x y (by (try dsimp only); first | assumption | omega | trivial) (by (try dsimp only); first | assumption | omega | trivial)) (cwV 2 hts (lg_goodV k1727 k1729 k79 k125 kc_DiscMakerModel_set) rfl rfl rfl (by decide +kernel) ⟨Nat.le_of_ble_eq_true rfl, Nat.le_of_ble_eq_true rfl⟩) ⟨fun a U g mk q => by obtain ⟨q0, q1, qP, qK, qN, qD⟩ := q; exact ⟨q0, q1, qP, va_K.moved (u := U) (U := U.calling g mk a) (Vm.Alike.refl U.vm) qK, qN.calling, qD⟩, va_recv hK hP (ci := 11) (q0 := 0) rfl rfl, fun U hU hW => ⟨rfl, by rw [hU], by rw [hU]; exact hPc, va_K.moved hW.alike hK, NN.warm hW hN, hDc.weaken (fun _ _ _ _ => trivial)⟩⟩ rfl rfl hl.1 rfl (lv_room (Nat.le_of_ble_eq_true rfl)) d_DiscMakerModel_poke_32 ⟨hkc, hks⟩) hS (fun q _ h => hFc q h) hFc (fun u t H1 locs ht hvm hp_r6 hB hz1 hk1 hS => ?_)
      obtain ⟨G_7, rfl⟩ : ∃ z, z = u := ⟨_, rfl⟩
      obtain ⟨hP1, hD1⟩ := hB
      rw [ht] at hP1
      obtain ⟨hP, hD⟩ := va_join (wr := []) (w1 := [(h0, .inr (11, MO ma 0 sv_length sv_nodes sv_many sv_directories sv_runsFrom sv_runs sv_read sv_wrong sv_isNamed sv_goes sv_goesSize sv_goesAt sv_targetParts sv_isRoot)), ((ma 16), .inl (cJ, 46080, .inr (.inl G_7)))]) hP hD [0, 1] [] rfl rfl (by decide +kernel) (by decide +kernel) hk1 hFc hP1 hD1
      clear hPc hDc hFc hP1 hD1 hk1 hz1 hkc hks
      generalize H1 = H at hP hS ⊢
      have hP : va_P D CL [(h0, .inr (11, MO ma 0 sv_length sv_nodes sv_many sv_directories sv_runsFrom sv_runs sv_read sv_wrong sv_isNamed sv_goes sv_goesSize sv_goesAt sv_targetParts sv_isRoot)), ((ma 16), .inl (cJ, 46080, .inr (.inl G_7)))] H := hP
      have hD : va_D A [(h0, .inr (11, MO ma 0 sv_length sv_nodes sv_many sv_directories sv_runsFrom sv_runs sv_read sv_wrong sv_isNamed sv_goes sv_goesSize sv_goesAt sv_targetParts sv_isRoot)), ((ma 16), .inl (cJ, 46080, .inr (.inl G_7)))] := hD
      refine lv_iload_n hx hb d_DiscMakerModel_poke_35 rfl (lv_at hl 0 rfl) ?_
      have hP9 := hP.sub (ws' := [(h0, .inr (11, MO ma 0 sv_length sv_nodes sv_many sv_directories sv_runsFrom sv_runs sv_read sv_wrong sv_isNamed sv_goes sv_goesSize sv_goesAt sv_targetParts sv_isRoot)), ((ma 16), .inl (cJ, 46080, .inr (.inl G_7)))]) [0, 1] rfl
      have hD9 := hD.sub (ws' := [(h0, .inr (11, MO ma 0 sv_length sv_nodes sv_many sv_directories sv_runsFrom sv_runs sv_read sv_wrong sv_isNamed sv_goes sv_goesSize sv_goesAt sv_targetParts sv_isRoot)), ((ma 16), .inl (cJ, 46080, .inr (.inl G_7)))]) [0, 1] (by decide +kernel) rfl
      exact W.iret (v := r2) hx hb hr (fun t ht hW => ⟨⟨r2, (0, G_7), rfl, trivial, by rw [ht]; exact hP9, hD9⟩, hS.F ht⟩) hS.2.2 d_DiscMakerModel_poke_36
    · skip
      have g18_13 : ¬ x.toInt < v1.toInt := fun h8 => h_9 ((i_lt rfl rfl).mpr h8)
      refine lv_iconst (v := (-1)) hx hb d_DiscMakerModel_poke_21 (by decide) ?_
      have hP9 := hP.sub (ws' := [(h0, .inr (11, MO ma 0 sv_length sv_nodes sv_many sv_directories sv_runsFrom sv_runs sv_read sv_wrong sv_isNamed sv_goes sv_goesSize sv_goesAt sv_targetParts sv_isRoot)), ((ma 16), .inl (cJ, 46080, .inr (.inl F)))]) [0, 1] rfl
      have hD9 := hD.sub (ws' := [(h0, .inr (11, MO ma 0 sv_length sv_nodes sv_many sv_directories sv_runsFrom sv_runs sv_read sv_wrong sv_isNamed sv_goes sv_goesSize sv_goesAt sv_targetParts sv_isRoot)), ((ma 16), .inl (cJ, 46080, .inr (.inl F)))]) [0, 1] (by decide +kernel) rfl
      exact W.iret (v := (-1)) hx hb hr (fun t ht hW => ⟨⟨(-1), (0, F), rfl, trivial, by rw [ht]; exact hP9, hD9⟩, hS.F ht⟩) hS.2.2 d_DiscMakerModel_poke_22

theorem d_DiscMakerModel_cut_0 : decode b_DiscMakerModel_cut 0 = .ok (.aload_n 0, 1) := by decide +kernel
theorem d_DiscMakerModel_cut_1 : decode b_DiscMakerModel_cut 1 = .ok (.iconst 0, 1) := by decide +kernel
theorem d_DiscMakerModel_cut_2 : decode b_DiscMakerModel_cut 2 = .ok (.putfield 118, 3) := by decide +kernel
theorem d_DiscMakerModel_cut_5 : decode b_DiscMakerModel_cut 5 = .ok (.iload_n 1, 1) := by decide +kernel
theorem d_DiscMakerModel_cut_6 : decode b_DiscMakerModel_cut 6 = .ok (.ifCond .lt 11, 3) := by decide +kernel
theorem d_DiscMakerModel_cut_9 : decode b_DiscMakerModel_cut 9 = .ok (.iload_n 1, 1) := by decide +kernel
theorem d_DiscMakerModel_cut_10 : decode b_DiscMakerModel_cut 10 = .ok (.aload_n 0, 1) := by decide +kernel
theorem d_DiscMakerModel_cut_11 : decode b_DiscMakerModel_cut 11 = .ok (.getfield 282, 3) := by decide +kernel
theorem d_DiscMakerModel_cut_14 : decode b_DiscMakerModel_cut 14 = .ok (.if_icmp .le 5, 3) := by decide +kernel
theorem d_DiscMakerModel_cut_17 : decode b_DiscMakerModel_cut 17 = .ok (.iconst 0, 1) := by decide +kernel
theorem d_DiscMakerModel_cut_18 : decode b_DiscMakerModel_cut 18 = .ok (.ireturn, 1) := by decide +kernel
theorem d_DiscMakerModel_cut_19 : decode b_DiscMakerModel_cut 19 = .ok (.aload_n 0, 1) := by decide +kernel
theorem d_DiscMakerModel_cut_20 : decode b_DiscMakerModel_cut 20 = .ok (.iload_n 1, 1) := by decide +kernel
theorem d_DiscMakerModel_cut_21 : decode b_DiscMakerModel_cut 21 = .ok (.putfield 282, 3) := by decide +kernel
theorem d_DiscMakerModel_cut_24 : decode b_DiscMakerModel_cut 24 = .ok (.iconst 1, 1) := by decide +kernel
theorem d_DiscMakerModel_cut_25 : decode b_DiscMakerModel_cut 25 = .ok (.ireturn, 1) := by decide +kernel
set_option maxHeartbeats 4000000 in
set_option maxRecDepth 100000 in
theorem m_cut (l : Launch) (D : va_G) (cB cI cJ cZ cN cF : ClassId) (sz : Nat) (h0 : Nat) (ma : Nat → Nat) (sv_thrown sv_length sv_nodes sv_many sv_directories sv_runsFrom sv_runs sv_read sv_wrong sv_isNamed sv_goes sv_goesSize sv_goesAt sv_targetParts sv_isRoot : Int32) (x : Int32) (hm0 : 0 ≤ sv_many.toInt ∧ sv_many.toInt ≤ 180) : Met l y_DiscMakerModel_cut w_DiscMakerModel_cut ({ frames := 0, cells := 0, slots := 0, locals := 0 }) (va_Pc [.ref h0, .int x] (fun U => U.heap.size = sz ∧ va_P D CL [(h0, .inr (11, MO ma sv_thrown sv_length sv_nodes sv_many sv_directories sv_runsFrom sv_runs sv_read sv_wrong sv_isNamed sv_goes sv_goesSize sv_goesAt sv_targetParts sv_isRoot))] U.heap ∧ va_K D CL (TY cB cI cJ cZ cN cF) U ∧ NN U ∧ va_D (fun _ => True) [(h0, .inr (11, MO ma sv_thrown sv_length sv_nodes sv_many sv_directories sv_runsFrom sv_runs sv_read sv_wrong sv_isNamed sv_goes sv_goesSize sv_goesAt sv_targetParts sv_isRoot))])) (va_Qi (fun (r : Int32) (u : Int32 × Int32) => match u with | (th, mn) => (0 ≤ mn.toInt ∧ mn.toInt ≤ sv_many.toInt)) (fun (u : Int32 × Int32) (t : State) => match u with | (th, mn) => va_P D CL [(h0, .inr (11, MO ma th sv_length sv_nodes mn sv_directories sv_runsFrom sv_runs sv_read sv_wrong sv_isNamed sv_goes sv_goesSize sv_goesAt sv_targetParts sv_isRoot))] t.heap ∧ va_D (va_A [(h0, .inr (11, MO ma sv_thrown sv_length sv_nodes sv_many sv_directories sv_runsFrom sv_runs sv_read sv_wrong sv_isNamed sv_goes sv_goesSize sv_goesAt sv_targetParts sv_isRoot))] sz) [(h0, .inr (11, MO ma th sv_length sv_nodes mn sv_directories sv_runsFrom sv_runs sv_read sv_wrong sv_isNamed sv_goes sv_goesSize sv_goesAt sv_targetParts sv_isRoot))]) (va_A [(h0, .inr (11, MO ma sv_thrown sv_length sv_nodes sv_many sv_directories sv_runsFrom sv_runs sv_read sv_wrong sv_isNamed sv_goes sv_goesSize sv_goesAt sv_targetParts sv_isRoot))] sz)) 0 0 (va_A [(h0, .inr (11, MO ma sv_thrown sv_length sv_nodes sv_many sv_directories sv_runsFrom sv_runs sv_read sv_wrong sv_isNamed sv_goes sv_goesSize sv_goesAt sv_targetParts sv_isRoot))] sz) := by
  refine Met.ofW (cc := b_DiscMakerModel_cut) (maxL := 2) (ret := some .boolean) (by decide) rfl ?_
  intro p e s m args below meth c s₁ B hml hv
  obtain ⟨rfl, hsz, hP, hK, hN, hD0⟩ := hv
  have hx := B.exec
  have hb := B.bytes
  have hr := B.returns
  have hts := atoms_spec (ws := w_DiscMakerModel_cut) B.pre
  have ht9 := fun (w : Cond) (h : w ∈ lw_g) => hts w (List.mem_cons_of_mem _ h)
  have hown : s.vm.findClass "DiscMakerModel" = some m.cls := findClass_of_methodNamed B.named
  have hlocks := B.notSynchronized
  subst hsz
  have hD := hD0.self (sz := s.heap.size)
  generalize hAe : va_A [(h0, .inr (11, MO ma sv_thrown sv_length sv_nodes sv_many sv_directories sv_runsFrom sv_runs sv_read sv_wrong sv_isNamed sv_goes sv_goesSize sv_goesAt sv_targetParts sv_isRoot))] s.heap.size = A at hD ⊢
  have hA : ∀ q : Nat, s.heap.size ≤ q → A q := fun q h => by rw [← hAe]; exact Or.inr h
  have hS : va_S A s.heap s.heap [] := va_S.rf
  have hP : va_P D CL [(h0, .inr (11, MO ma sv_thrown sv_length sv_nodes sv_many sv_directories sv_runsFrom sv_runs sv_read sv_wrong sv_isNamed sv_goes sv_goesSize sv_goesAt sv_targetParts sv_isRoot))] s.heap := hP
  have hl := lv_entry [.ref h0, .int x] (n := 2) (Nat.le_of_ble_eq_true rfl)
  rw [lg_entry_eq]
  generalize (lg_sl [.ref h0, .int x] ++ List.replicate (2 - (lg_sl [.ref h0, .int x]).length) Slot.unset).toArray = ls at hl ⊢
  have hl : lv_has ls 2 [(0, .ref h0), (1, .int x)] := hl
  have L_m1 : ((-1) : Int32).toInt = (-1) := by decide
  have L_0 : (0 : Int32).toInt = 0 := by decide
  have L_1 : (1 : Int32).toInt = 1 := by decide
  refine lv_aload_n hx hb d_DiscMakerModel_cut_0 rfl (lv_at hl 0 rfl) ?_
  refine lv_iconst (v := 0) hx hb d_DiscMakerModel_cut_1 (by decide) ?_
  refine va_put (D := D) (ci := 11) (v := .int 0) (ty := .int) (C := "DiscMakerModel") (T := F_DiscMakerModel) (N := 48) hx hb ht9 in_DiscMakerModel t_DiscMakerModel t_DiscMakerModel_ok n_DiscMakerModel hown hK hP hD hS 0 rfl rfl 0 (by decide) (ht9 _ k1431) (fun _ h9 => h9) rfl (by decide +kernel) rfl rfl (Nat.le_of_ble_eq_true rfl) d_DiscMakerModel_cut_2 (fun H locs hP hD hS => ?_)
  have hP : va_P D CL [(h0, .inr (11, MO ma 0 sv_length sv_nodes sv_many sv_directories sv_runsFrom sv_runs sv_read sv_wrong sv_isNamed sv_goes sv_goesSize sv_goesAt sv_targetParts sv_isRoot))] H := hP
  have hD : va_D A [(h0, .inr (11, MO ma 0 sv_length sv_nodes sv_many sv_directories sv_runsFrom sv_runs sv_read sv_wrong sv_isNamed sv_goes sv_goesSize sv_goesAt sv_targetParts sv_isRoot))] := hD
  refine lv_iload_n hx hb d_DiscMakerModel_cut_5 rfl (lv_at hl 1 rfl) ?_
  refine lv_if_lt (tgt := 17) hx hb d_DiscMakerModel_cut_6 (by decide) (fun h_9 => ?_) (fun h_9 => ?_)
  · skip
    have g6_5 : x.toInt < 0 := (i_lt rfl (by decide)).mp h_9
    refine lv_iconst (v := 0) hx hb d_DiscMakerModel_cut_17 (by decide) ?_
    have hP9 := hP.sub (ws' := [(h0, .inr (11, MO ma 0 sv_length sv_nodes sv_many sv_directories sv_runsFrom sv_runs sv_read sv_wrong sv_isNamed sv_goes sv_goesSize sv_goesAt sv_targetParts sv_isRoot))]) [0] rfl
    have hD9 := hD.sub (ws' := [(h0, .inr (11, MO ma 0 sv_length sv_nodes sv_many sv_directories sv_runsFrom sv_runs sv_read sv_wrong sv_isNamed sv_goes sv_goesSize sv_goesAt sv_targetParts sv_isRoot))]) [0] (by decide +kernel) rfl
    exact W.zret (v := 0) hx hb hr (by first | rfl | decide | exact i_narZ (by omega)) (fun t ht hW => ⟨⟨0, (0, sv_many), rfl, (by (try dsimp only); first | assumption | omega | trivial), by rw [ht]; exact hP9, hD9⟩, hS.F ht⟩) hS.2.2 d_DiscMakerModel_cut_18
  · skip
    have g6_5 : ¬ x.toInt < 0 := fun h8 => h_9 ((i_lt rfl (by decide)).mpr h8)
    refine lv_iload_n hx hb d_DiscMakerModel_cut_9 rfl (lv_at hl 1 rfl) ?_
    refine lv_aload_n hx hb d_DiscMakerModel_cut_10 rfl (lv_at hl 0 rfl) ?_
    refine va_get (D := D) (ci := 11) (v := .int sv_many) (C := "DiscMakerModel") (T := F_DiscMakerModel) (N := 48) hx hb ht9 in_DiscMakerModel hown hK hP 0 rfl rfl 20 (by decide) (ht9 _ k1451) (fun _ h9 => h9) rfl d_DiscMakerModel_cut_11 ?_
    refine lv_icmp_le (tgt := 19) hx hb d_DiscMakerModel_cut_14 (by decide) (fun h_9 => ?_) (fun h_9 => ?_)
    · skip
      have g14_11 : x.toInt ≤ sv_many.toInt := (i_le rfl rfl).mp h_9
      refine lv_aload_n hx hb d_DiscMakerModel_cut_19 rfl (lv_at hl 0 rfl) ?_
      refine lv_iload_n hx hb d_DiscMakerModel_cut_20 rfl (lv_at hl 1 rfl) ?_
      refine va_put (D := D) (ci := 11) (v := .int x) (ty := .int) (C := "DiscMakerModel") (T := F_DiscMakerModel) (N := 48) hx hb ht9 in_DiscMakerModel t_DiscMakerModel t_DiscMakerModel_ok n_DiscMakerModel hown hK hP hD hS 0 rfl rfl 20 (by decide) (ht9 _ k1451) (fun _ h9 => h9) rfl (by decide +kernel) rfl rfl (Nat.le_of_ble_eq_true rfl) d_DiscMakerModel_cut_21 (fun H locs hP hD hS => ?_)
      have hP : va_P D CL [(h0, .inr (11, MO ma 0 sv_length sv_nodes x sv_directories sv_runsFrom sv_runs sv_read sv_wrong sv_isNamed sv_goes sv_goesSize sv_goesAt sv_targetParts sv_isRoot))] H := hP
      have hD : va_D A [(h0, .inr (11, MO ma 0 sv_length sv_nodes x sv_directories sv_runsFrom sv_runs sv_read sv_wrong sv_isNamed sv_goes sv_goesSize sv_goesAt sv_targetParts sv_isRoot))] := hD
      refine lv_iconst (v := 1) hx hb d_DiscMakerModel_cut_24 (by decide) ?_
      have hP9 := hP.sub (ws' := [(h0, .inr (11, MO ma 0 sv_length sv_nodes x sv_directories sv_runsFrom sv_runs sv_read sv_wrong sv_isNamed sv_goes sv_goesSize sv_goesAt sv_targetParts sv_isRoot))]) [0] rfl
      have hD9 := hD.sub (ws' := [(h0, .inr (11, MO ma 0 sv_length sv_nodes x sv_directories sv_runsFrom sv_runs sv_read sv_wrong sv_isNamed sv_goes sv_goesSize sv_goesAt sv_targetParts sv_isRoot))]) [0] (by decide +kernel) rfl
      exact W.zret (v := 1) hx hb hr (by first | rfl | decide | exact i_narZ (by omega)) (fun t ht hW => ⟨⟨1, (0, x), rfl, (by (try dsimp only); first | assumption | omega | trivial), by rw [ht]; exact hP9, hD9⟩, hS.F ht⟩) hS.2.2 d_DiscMakerModel_cut_25
    · skip
      have g14_11 : ¬ x.toInt ≤ sv_many.toInt := fun h8 => h_9 ((i_le rfl rfl).mpr h8)
      refine lv_iconst (v := 0) hx hb d_DiscMakerModel_cut_17 (by decide) ?_
      have hP9 := hP.sub (ws' := [(h0, .inr (11, MO ma 0 sv_length sv_nodes sv_many sv_directories sv_runsFrom sv_runs sv_read sv_wrong sv_isNamed sv_goes sv_goesSize sv_goesAt sv_targetParts sv_isRoot))]) [0] rfl
      have hD9 := hD.sub (ws' := [(h0, .inr (11, MO ma 0 sv_length sv_nodes sv_many sv_directories sv_runsFrom sv_runs sv_read sv_wrong sv_isNamed sv_goes sv_goesSize sv_goesAt sv_targetParts sv_isRoot))]) [0] (by decide +kernel) rfl
      exact W.zret (v := 0) hx hb hr (by first | rfl | decide | exact i_narZ (by omega)) (fun t ht hW => ⟨⟨0, (0, sv_many), rfl, (by (try dsimp only); first | assumption | omega | trivial), by rw [ht]; exact hP9, hD9⟩, hS.F ht⟩) hS.2.2 d_DiscMakerModel_cut_18
