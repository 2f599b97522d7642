theorem d_DiscMakerModel_partsInside_0 : decode b_DiscMakerModel_partsInside 0 = .ok (.sipush 254, 3) := by decide +kernel
theorem d_DiscMakerModel_partsInside_3 : decode b_DiscMakerModel_partsInside 3 = .ok (.aload_n 0, 1) := by decide +kernel
theorem d_DiscMakerModel_partsInside_4 : decode b_DiscMakerModel_partsInside 4 = .ok (.iconst 0, 1) := by decide +kernel
theorem d_DiscMakerModel_partsInside_5 : decode b_DiscMakerModel_partsInside 5 = .ok (.iload_n 1, 1) := by decide +kernel
theorem d_DiscMakerModel_partsInside_6 : decode b_DiscMakerModel_partsInside 6 = .ok (.iload_n 2, 1) := by decide +kernel
theorem d_DiscMakerModel_partsInside_7 : decode b_DiscMakerModel_partsInside 7 = .ok (.invokevirtual 216, 3) := by decide +kernel
theorem d_DiscMakerModel_partsInside_10 : decode b_DiscMakerModel_partsInside 10 = .ok (.isub, 1) := by decide +kernel
theorem d_DiscMakerModel_partsInside_11 : decode b_DiscMakerModel_partsInside 11 = .ok (.istore_n 3, 1) := by decide +kernel
theorem d_DiscMakerModel_partsInside_12 : decode b_DiscMakerModel_partsInside 12 = .ok (.aload_n 0, 1) := by decide +kernel
theorem d_DiscMakerModel_partsInside_13 : decode b_DiscMakerModel_partsInside 13 = .ok (.iload_n 1, 1) := by decide +kernel
theorem d_DiscMakerModel_partsInside_14 : decode b_DiscMakerModel_partsInside 14 = .ok (.iload_n 2, 1) := by decide +kernel
theorem d_DiscMakerModel_partsInside_15 : decode b_DiscMakerModel_partsInside 15 = .ok (.invokevirtual 219, 3) := by decide +kernel
theorem d_DiscMakerModel_partsInside_18 : decode b_DiscMakerModel_partsInside 18 = .ok (.iload_n 3, 1) := by decide +kernel
theorem d_DiscMakerModel_partsInside_19 : decode b_DiscMakerModel_partsInside 19 = .ok (.if_icmp .gt 5, 3) := by decide +kernel
theorem d_DiscMakerModel_partsInside_22 : decode b_DiscMakerModel_partsInside 22 = .ok (.iconst 4, 1) := by decide +kernel
theorem d_DiscMakerModel_partsInside_23 : decode b_DiscMakerModel_partsInside 23 = .ok (.ireturn, 1) := by decide +kernel
theorem d_DiscMakerModel_partsInside_24 : decode b_DiscMakerModel_partsInside 24 = .ok (.bipush 28, 2) := by decide +kernel
theorem d_DiscMakerModel_partsInside_26 : decode b_DiscMakerModel_partsInside 26 = .ok (.istore 4, 2) := by decide +kernel
theorem d_DiscMakerModel_partsInside_28 : decode b_DiscMakerModel_partsInside 28 = .ok (.iconst 0, 1) := by decide +kernel
theorem d_DiscMakerModel_partsInside_29 : decode b_DiscMakerModel_partsInside 29 = .ok (.istore 5, 2) := by decide +kernel
theorem d_DiscMakerModel_partsInside_31 : decode b_DiscMakerModel_partsInside 31 = .ok (.iload 4, 2) := by decide +kernel
theorem d_DiscMakerModel_partsInside_33 : decode b_DiscMakerModel_partsInside 33 = .ok (.aload_n 0, 1) := by decide +kernel
theorem d_DiscMakerModel_partsInside_34 : decode b_DiscMakerModel_partsInside 34 = .ok (.iload 5, 2) := by decide +kernel
theorem d_DiscMakerModel_partsInside_36 : decode b_DiscMakerModel_partsInside 36 = .ok (.iload_n 1, 1) := by decide +kernel
theorem d_DiscMakerModel_partsInside_37 : decode b_DiscMakerModel_partsInside 37 = .ok (.iload_n 2, 1) := by decide +kernel
theorem d_DiscMakerModel_partsInside_38 : decode b_DiscMakerModel_partsInside 38 = .ok (.invokevirtual 213, 3) := by decide +kernel
theorem d_DiscMakerModel_partsInside_41 : decode b_DiscMakerModel_partsInside 41 = .ok (.iadd, 1) := by decide +kernel
theorem d_DiscMakerModel_partsInside_42 : decode b_DiscMakerModel_partsInside 42 = .ok (.iload_n 3, 1) := by decide +kernel
theorem d_DiscMakerModel_partsInside_43 : decode b_DiscMakerModel_partsInside 43 = .ok (.if_icmp .gt 22, 3) := by decide +kernel
theorem d_DiscMakerModel_partsInside_46 : decode b_DiscMakerModel_partsInside 46 = .ok (.iload 4, 2) := by decide +kernel
theorem d_DiscMakerModel_partsInside_48 : decode b_DiscMakerModel_partsInside 48 = .ok (.aload_n 0, 1) := by decide +kernel
theorem d_DiscMakerModel_partsInside_49 : decode b_DiscMakerModel_partsInside 49 = .ok (.iload 5, 2) := by decide +kernel
theorem d_DiscMakerModel_partsInside_51 : decode b_DiscMakerModel_partsInside 51 = .ok (.iload_n 1, 1) := by decide +kernel
theorem d_DiscMakerModel_partsInside_52 : decode b_DiscMakerModel_partsInside 52 = .ok (.iload_n 2, 1) := by decide +kernel
theorem d_DiscMakerModel_partsInside_53 : decode b_DiscMakerModel_partsInside 53 = .ok (.invokevirtual 213, 3) := by decide +kernel
theorem d_DiscMakerModel_partsInside_56 : decode b_DiscMakerModel_partsInside 56 = .ok (.iadd, 1) := by decide +kernel
theorem d_DiscMakerModel_partsInside_57 : decode b_DiscMakerModel_partsInside 57 = .ok (.istore 4, 2) := by decide +kernel
theorem d_DiscMakerModel_partsInside_59 : decode b_DiscMakerModel_partsInside 59 = .ok (.iinc 5 1, 3) := by decide +kernel
theorem d_DiscMakerModel_partsInside_62 : decode b_DiscMakerModel_partsInside 62 = .ok (.goto (-31), 3) := by decide +kernel
theorem d_DiscMakerModel_partsInside_65 : decode b_DiscMakerModel_partsInside 65 = .ok (.iload 5, 2) := by decide +kernel
theorem d_DiscMakerModel_partsInside_67 : decode b_DiscMakerModel_partsInside 67 = .ok (.ireturn, 1) := by decide +kernel
set_option maxHeartbeats 4000000 in
set_option maxRecDepth 100000 in
theorem m_partsInside (l : Launch) (D : va_G) (cB cI cJ cZ cN cF : ClassId) (sz : Nat) (h0 : Nat) (ma : Nat → Nat) (sv_thrown sv_length sv_nodes sv_many sv_directories sv_runsFrom sv_runs sv_read sv_wrong sv_isNamed sv_goes sv_goesSize sv_goesAt sv_targetParts sv_isRoot : Int32) (F : Nat → Int64) (fK : Nat → Int32) (fNS : Nat → Int32) (fT : Nat → Int32) (fTS : Nat → Int32) (fBs : Nat → Int32) (fEs : Nat → Int32) (x : Int32) (y : Int32) (hy0 : 0 ≤ y.toInt ∧ y.toInt < 40) (hKi : Rg 0 2 40 fK) (hNS : Rg 0 30 40 fNS) (hTS : Rg 0 200 40 fTS) (hBs : Rg 0 8 40 fBs) (hEs : Rg 0 3 40 fEs) : Met l y_DiscMakerModel_partsInside w_DiscMakerModel_partsInside ({ frames := 5, cells := 0, slots := 0, locals := 123 }) (va_Pc [.ref h0, .int x, .int y] (fun U => U.heap.size = sz ∧ va_P D CL [(h0, .inr (11, MO ma sv_thrown sv_length sv_nodes sv_many sv_directories sv_runsFrom sv_runs sv_read sv_wrong sv_isNamed sv_goes sv_goesSize sv_goesAt sv_targetParts sv_isRoot)), ((ma 16), .inl (cJ, 46080, .inr (.inl F))), ((ma 1), .inl (cI, 40, .inl fK)), ((ma 9), .inl (cI, 40, .inl fNS)), ((ma 10), .inl (cB, 8000, .inl fT)), ((ma 11), .inl (cI, 40, .inl fTS)), ((ma 13), .inl (cI, 40, .inl fBs)), ((ma 15), .inl (cI, 40, .inl fEs))] U.heap ∧ va_K D CL (TY cB cI cJ cZ cN cF) U ∧ NN U ∧ va_D (fun _ => True) [(h0, .inr (11, MO ma sv_thrown sv_length sv_nodes sv_many sv_directories sv_runsFrom sv_runs sv_read sv_wrong sv_isNamed sv_goes sv_goesSize sv_goesAt sv_targetParts sv_isRoot)), ((ma 16), .inl (cJ, 46080, .inr (.inl F))), ((ma 1), .inl (cI, 40, .inl fK)), ((ma 9), .inl (cI, 40, .inl fNS)), ((ma 10), .inl (cB, 8000, .inl fT)), ((ma 11), .inl (cI, 40, .inl fTS)), ((ma 13), .inl (cI, 40, .inl fBs)), ((ma 15), .inl (cI, 40, .inl fEs))])) (va_Qi (fun (r : Int32) (u : (Nat → Int64)) => match u with | G => ((r.toInt = 4 ∧ psF fK fNS fT fTS 0 x.toInt y.toNatClampNeg + psF fK fNS fT fTS 1 x.toInt y.toNatClampNeg + psF fK fNS fT fTS 2 x.toInt y.toNatClampNeg + psF fK fNS fT fTS 3 x.toInt y.toNatClampNeg ≤ (254 - (33 + idF fK fNS fBs fEs 0 x.toInt y.toNatClampNeg + (33 + idF fK fNS fBs fEs 0 x.toInt y.toNatClampNeg) % 2))) ∨ (r.toInt = 0 ∧ (254 - (33 + idF fK fNS fBs fEs 0 x.toInt y.toNatClampNeg + (33 + idF fK fNS fBs fEs 0 x.toInt y.toNatClampNeg) % 2)) < psF fK fNS fT fTS 0 x.toInt y.toNatClampNeg + psF fK fNS fT fTS 1 x.toInt y.toNatClampNeg + psF fK fNS fT fTS 2 x.toInt y.toNatClampNeg + psF fK fNS fT fTS 3 x.toInt y.toNatClampNeg) ∨ (r.toInt = 1 ∧ 28 + psF fK fNS fT fTS 0 x.toInt y.toNatClampNeg ≤ (254 - (33 + idF fK fNS fBs fEs 0 x.toInt y.toNatClampNeg + (33 + idF fK fNS fBs fEs 0 x.toInt y.toNatClampNeg) % 2)) ∧ (254 - (33 + idF fK fNS fBs fEs 0 x.toInt y.toNatClampNeg + (33 + idF fK fNS fBs fEs 0 x.toInt y.toNatClampNeg) % 2)) < psF fK fNS fT fTS 0 x.toInt y.toNatClampNeg + psF fK fNS fT fTS 1 x.toInt y.toNatClampNeg + psF fK fNS fT fTS 2 x.toInt y.toNatClampNeg + psF fK fNS fT fTS 3 x.toInt y.toNatClampNeg) ∨ (r.toInt = 2 ∧ 28 + psF fK fNS fT fTS 0 x.toInt y.toNatClampNeg + psF fK fNS fT fTS 1 x.toInt y.toNatClampNeg ≤ (254 - (33 + idF fK fNS fBs fEs 0 x.toInt y.toNatClampNeg + (33 + idF fK fNS fBs fEs 0 x.toInt y.toNatClampNeg) % 2)) ∧ (254 - (33 + idF fK fNS fBs fEs 0 x.toInt y.toNatClampNeg + (33 + idF fK fNS fBs fEs 0 x.toInt y.toNatClampNeg) % 2)) < psF fK fNS fT fTS 0 x.toInt y.toNatClampNeg + psF fK fNS fT fTS 1 x.toInt y.toNatClampNeg + psF fK fNS fT fTS 2 x.toInt y.toNatClampNeg + psF fK fNS fT fTS 3 x.toInt y.toNatClampNeg) ∨ (r.toInt = 3 ∧ 28 + psF fK fNS fT fTS 0 x.toInt y.toNatClampNeg + psF fK fNS fT fTS 1 x.toInt y.toNatClampNeg + psF fK fNS fT fTS 2 x.toInt y.toNatClampNeg ≤ (254 - (33 + idF fK fNS fBs fEs 0 x.toInt y.toNatClampNeg + (33 + idF fK fNS fBs fEs 0 x.toInt y.toNatClampNeg) % 2)) ∧ (254 - (33 + idF fK fNS fBs fEs 0 x.toInt y.toNatClampNeg + (33 + idF fK fNS fBs fEs 0 x.toInt y.toNatClampNeg) % 2)) < psF fK fNS fT fTS 0 x.toInt y.toNatClampNeg + psF fK fNS fT fTS 1 x.toInt y.toNatClampNeg + psF fK fNS fT fTS 2 x.toInt y.toNatClampNeg + psF fK fNS fT fTS 3 x.toInt y.toNatClampNeg))) (fun (u : (Nat → Int64)) (t : State) => match u with | G => va_P D CL [(h0, .inr (11, MO ma sv_thrown sv_length sv_nodes sv_many sv_directories sv_runsFrom sv_runs sv_read sv_wrong sv_isNamed sv_goes sv_goesSize sv_goesAt sv_targetParts sv_isRoot)), ((ma 16), .inl (cJ, 46080, .inr (.inl G))), ((ma 1), .inl (cI, 40, .inl fK)), ((ma 9), .inl (cI, 40, .inl fNS)), ((ma 10), .inl (cB, 8000, .inl fT)), ((ma 11), .inl (cI, 40, .inl fTS)), ((ma 13), .inl (cI, 40, .inl fBs)), ((ma 15), .inl (cI, 40, .inl fEs))] t.heap ∧ va_D (va_A [(h0, .inr (11, MO ma sv_thrown sv_length sv_nodes sv_many sv_directories sv_runsFrom sv_runs sv_read sv_wrong sv_isNamed sv_goes sv_goesSize sv_goesAt sv_targetParts sv_isRoot)), ((ma 16), .inl (cJ, 46080, .inr (.inl F))), ((ma 1), .inl (cI, 40, .inl fK)), ((ma 9), .inl (cI, 40, .inl fNS)), ((ma 10), .inl (cB, 8000, .inl fT)), ((ma 11), .inl (cI, 40, .inl fTS)), ((ma 13), .inl (cI, 40, .inl fBs)), ((ma 15), .inl (cI, 40, .inl fEs))] sz) [(h0, .inr (11, MO ma sv_thrown sv_length sv_nodes sv_many sv_directories sv_runsFrom sv_runs sv_read sv_wrong sv_isNamed sv_goes sv_goesSize sv_goesAt sv_targetParts sv_isRoot)), ((ma 16), .inl (cJ, 46080, .inr (.inl G))), ((ma 1), .inl (cI, 40, .inl fK)), ((ma 9), .inl (cI, 40, .inl fNS)), ((ma 10), .inl (cB, 8000, .inl fT)), ((ma 11), .inl (cI, 40, .inl fTS)), ((ma 13), .inl (cI, 40, .inl fBs)), ((ma 15), .inl (cI, 40, .inl fEs))]) (va_A [(h0, .inr (11, MO ma sv_thrown sv_length sv_nodes sv_many sv_directories sv_runsFrom sv_runs sv_read sv_wrong sv_isNamed sv_goes sv_goesSize sv_goesAt sv_targetParts sv_isRoot)), ((ma 16), .inl (cJ, 46080, .inr (.inl F))), ((ma 1), .inl (cI, 40, .inl fK)), ((ma 9), .inl (cI, 40, .inl fNS)), ((ma 10), .inl (cB, 8000, .inl fT)), ((ma 11), .inl (cI, 40, .inl fTS)), ((ma 13), .inl (cI, 40, .inl fBs)), ((ma 15), .inl (cI, 40, .inl fEs))] sz)) 0 0 (va_A [(h0, .inr (11, MO ma sv_thrown sv_length sv_nodes sv_many sv_directories sv_runsFrom sv_runs sv_read sv_wrong sv_isNamed sv_goes sv_goesSize sv_goesAt sv_targetParts sv_isRoot)), ((ma 16), .inl (cJ, 46080, .inr (.inl F))), ((ma 1), .inl (cI, 40, .inl fK)), ((ma 9), .inl (cI, 40, .inl fNS)), ((ma 10), .inl (cB, 8000, .inl fT)), ((ma 11), .inl (cI, 40, .inl fTS)), ((ma 13), .inl (cI, 40, .inl fBs)), ((ma 15), .inl (cI, 40, .inl fEs))] sz) := by
  refine Met.ofW (cc := b_DiscMakerModel_partsInside) (maxL := 6) (ret := some .int) (by decide) rfl ?_
  intro p e s m args below meth c s₁ B hml hv
  obtain ⟨rfl, hsz, hP, hK, hN, hD0⟩ := hv
  have hx := B.exec
  have hb := B.bytes
  have hr := B.returns
  have hts := atoms_spec (ws := w_DiscMakerModel_partsInside) B.pre
  have ht9 := fun (w : Cond) (h : w ∈ lw_g) => hts w (List.mem_cons_of_mem _ h)
  have hown : s.vm.findClass "DiscMakerModel" = some m.cls := findClass_of_methodNamed B.named
  have hlocks := B.notSynchronized
  subst hsz
  have hD := hD0.self (sz := s.heap.size)
  generalize hAe : va_A [(h0, .inr (11, MO ma sv_thrown sv_length sv_nodes sv_many sv_directories sv_runsFrom sv_runs sv_read sv_wrong sv_isNamed sv_goes sv_goesSize sv_goesAt sv_targetParts sv_isRoot)), ((ma 16), .inl (cJ, 46080, .inr (.inl F))), ((ma 1), .inl (cI, 40, .inl fK)), ((ma 9), .inl (cI, 40, .inl fNS)), ((ma 10), .inl (cB, 8000, .inl fT)), ((ma 11), .inl (cI, 40, .inl fTS)), ((ma 13), .inl (cI, 40, .inl fBs)), ((ma 15), .inl (cI, 40, .inl fEs))] s.heap.size = A at hD ⊢
  have hA : ∀ q : Nat, s.heap.size ≤ q → A q := fun q h => by rw [← hAe]; exact Or.inr h
  have hS : va_S A s.heap s.heap [] := va_S.rf
  have hP : va_P D CL [(h0, .inr (11, MO ma sv_thrown sv_length sv_nodes sv_many sv_directories sv_runsFrom sv_runs sv_read sv_wrong sv_isNamed sv_goes sv_goesSize sv_goesAt sv_targetParts sv_isRoot)), ((ma 16), .inl (cJ, 46080, .inr (.inl F))), ((ma 1), .inl (cI, 40, .inl fK)), ((ma 9), .inl (cI, 40, .inl fNS)), ((ma 10), .inl (cB, 8000, .inl fT)), ((ma 11), .inl (cI, 40, .inl fTS)), ((ma 13), .inl (cI, 40, .inl fBs)), ((ma 15), .inl (cI, 40, .inl fEs))] s.heap := hP
  have hl := lv_entry [.ref h0, .int x, .int y] (n := 6) (Nat.le_of_ble_eq_true rfl)
  rw [lg_entry_eq]
  generalize (lg_sl [.ref h0, .int x, .int y] ++ List.replicate (6 - (lg_sl [.ref h0, .int x, .int y]).length) Slot.unset).toArray = ls at hl ⊢
  have hl : lv_has ls 6 [(0, .ref h0), (1, .int x), (2, .int y)] := hl
  have L_m1 : ((-1) : Int32).toInt = (-1) := by decide
  have L_0 : (0 : Int32).toInt = 0 := by decide
  have L_1 : (1 : Int32).toInt = 1 := by decide
  have L_4 : (4 : Int32).toInt = 4 := by decide
  have L_28 : (28 : Int32).toInt = 28 := by decide
  have L_254 : (254 : Int32).toInt = 254 := by decide
  refine lv_sipush (v := 254) hx hb d_DiscMakerModel_partsInside_0 (by decide) ?_
  refine lv_aload_n hx hb d_DiscMakerModel_partsInside_3 rfl (lv_at hl 0 rfl) ?_
  refine lv_iconst (v := 0) hx hb d_DiscMakerModel_partsInside_4 (by decide) ?_
  refine lv_iload_n hx hb d_DiscMakerModel_partsInside_5 rfl (lv_at hl 1 rfl) ?_
  refine lv_iload_n hx hb d_DiscMakerModel_partsInside_6 rfl (lv_at hl 2 rfl) ?_
  have hPc := hP.sub (ws' := [(h0, .inr (11, MO ma sv_thrown sv_length sv_nodes sv_many sv_directories sv_runsFrom sv_runs sv_read sv_wrong sv_isNamed sv_goes sv_goesSize sv_goesAt sv_targetParts sv_isRoot)), ((ma 1), .inl (cI, 40, .inl fK)), ((ma 9), .inl (cI, 40, .inl fNS)), ((ma 13), .inl (cI, 40, .inl fBs)), ((ma 15), .inl (cI, 40, .inl fEs))]) [0, 2, 3, 6, 7] rfl
  have hDc := hD.sub (ws' := [(h0, .inr (11, MO ma sv_thrown sv_length sv_nodes sv_many sv_directories sv_runsFrom sv_runs sv_read sv_wrong sv_isNamed sv_goes sv_goesSize sv_goesAt sv_targetParts sv_isRoot)), ((ma 1), .inl (cI, 40, .inl fK)), ((ma 9), .inl (cI, 40, .inl fNS)), ((ma 13), .inl (cI, 40, .inl fBs)), ((ma 15), .inl (cI, 40, .inl fEs))]) [0, 2, 3, 6, 7] (by decide +kernel) rfl
  have hFc := va_free (wc := [(h0, .inr (11, MO ma sv_thrown sv_length sv_nodes sv_many sv_directories sv_runsFrom sv_runs sv_read sv_wrong sv_isNamed sv_goes sv_goesSize sv_goesAt sv_targetParts sv_isRoot)), ((ma 1), .inl (cI, 40, .inl fK)), ((ma 9), .inl (cI, 40, .inl fNS)), ((ma 13), .inl (cI, 40, .inl fBs)), ((ma 15), .inl (cI, 40, .inl fEs))]) hD hS hA [0, 2, 3, 6, 7] rfl
  have hkc : 0 ≤ 0 := by decide
  have hks : 0 ≤ 0 := by decide
  refine va_calli (va_runV (C := "DiscMakerModel") (As := [.int 0, .int x, .int y]) (rest := [.int 254]) ⟨hx, hb, hml, hown, hts⟩ (m_headSize l D cB cI cJ cZ cN cF s.heap.size h0 ma sv_thrown sv_length sv_nodes sv_many sv_directories sv_runsFrom sv_runs sv_read sv_wrong sv_isNamed sv_goes sv_goesSize sv_goesAt sv_targetParts sv_isRoot fK fNS fBs fEs 0 x y (by (try dsimp only); first | assumption | omega | trivial) (by (try dsimp only); first | assumption | omega | trivial) (by (try dsimp only); first | assumption | omega | trivial) (by (try dsimp only); first | assumption | omega | trivial) (by (try dsimp only); first | assumption | omega | trivial)) (cwV 3 hts (lg_goodV k1695 k1697 k71 k125 kc_DiscMakerModel_headSize) rfl rfl rfl (by decide +kernel) ⟨Nat.le_of_ble_eq_true rfl, Nat.le_of_ble_eq_true rfl⟩) ⟨fun a U g mk q => by obtain ⟨q0, q1, qP, qK, qN, qD⟩ := q; exact ⟨q0, q1, qP, va_K.moved (u := U) (U := U.calling g mk a) (Vm.Alike.refl U.vm) qK, qN.calling, qD⟩, va_recv hK hP (ci := 11) (q0 := 0) rfl rfl, fun U hU hW => ⟨rfl, by rw [hU], by rw [hU]; exact hPc, va_K.moved hW.alike hK, NN.warm hW hN, hDc.weaken (fun _ _ _ _ => trivial)⟩⟩ rfl rfl hl.1 rfl (lv_room (Nat.le_of_ble_eq_true rfl)) d_DiscMakerModel_partsInside_7 ⟨hkc, hks⟩) hS (fun q _ h => hFc q h) hFc (fun r1 u t H1 locs ht hvm hp_r1 hB hz1 hk1 hS => ?_)
  obtain ⟨hP1, hD1⟩ := hB
  rw [ht] at hP1
  obtain ⟨hP, hD⟩ := va_join (wr := [((ma 16), .inl (cJ, 46080, .inr (.inl F))), ((ma 10), .inl (cB, 8000, .inl fT)), ((ma 11), .inl (cI, 40, .inl fTS))]) (w1 := [(h0, .inr (11, MO ma sv_thrown sv_length sv_nodes sv_many sv_directories sv_runsFrom sv_runs sv_read sv_wrong sv_isNamed sv_goes sv_goesSize sv_goesAt sv_targetParts sv_isRoot)), ((ma 1), .inl (cI, 40, .inl fK)), ((ma 9), .inl (cI, 40, .inl fNS)), ((ma 13), .inl (cI, 40, .inl fBs)), ((ma 15), .inl (cI, 40, .inl fEs))]) hP hD [0, 2, 3, 6, 7] [1, 4, 5] rfl rfl (by decide +kernel) (by decide +kernel) hk1 hFc hP1 hD1
  clear hPc hDc hFc hP1 hD1 hk1 hz1 hkc hks
  generalize H1 = H at hP hS ⊢
  have hP : va_P D CL [((ma 16), .inl (cJ, 46080, .inr (.inl F))), ((ma 10), .inl (cB, 8000, .inl fT)), ((ma 11), .inl (cI, 40, .inl fTS)), (h0, .inr (11, MO ma sv_thrown sv_length sv_nodes sv_many sv_directories sv_runsFrom sv_runs sv_read sv_wrong sv_isNamed sv_goes sv_goesSize sv_goesAt sv_targetParts sv_isRoot)), ((ma 1), .inl (cI, 40, .inl fK)), ((ma 9), .inl (cI, 40, .inl fNS)), ((ma 13), .inl (cI, 40, .inl fBs)), ((ma 15), .inl (cI, 40, .inl fEs))] H := hP
  have hD : va_D A [((ma 16), .inl (cJ, 46080, .inr (.inl F))), ((ma 10), .inl (cB, 8000, .inl fT)), ((ma 11), .inl (cI, 40, .inl fTS)), (h0, .inr (11, MO ma sv_thrown sv_length sv_nodes sv_many sv_directories sv_runsFrom sv_runs sv_read sv_wrong sv_isNamed sv_goes sv_goesSize sv_goesAt sv_targetParts sv_isRoot)), ((ma 1), .inl (cI, 40, .inl fK)), ((ma 9), .inl (cI, 40, .inl fNS)), ((ma 13), .inl (cI, 40, .inl fBs)), ((ma 15), .inl (cI, 40, .inl fEs))] := hD
  try dsimp only at hp_r1
  obtain ⟨hv_2, hr_3⟩ := hp_r1
  try rw [L_0] at hv_2
  try rw [L_0] at hr_3
  refine lv_isub hx hb d_DiscMakerModel_partsInside_10 ?_
  refine lv_topi (fun v4 e_v4 => ?_)
  have t_v4 : v4.toInt = 254 - r1.toInt := by rw [e_v4]; exact i_sub (by decide) rfl (by omega) (by omega)
  refine lv_istore_n hx hb d_DiscMakerModel_partsInside_11 rfl hl (by decide) rfl (fun ls hl => ?_)
  have hl : lv_has ls 6 [(3, .int v4), (0, .ref h0), (1, .int x), (2, .int y)] := hl
  refine lv_aload_n hx hb d_DiscMakerModel_partsInside_12 rfl (lv_at hl 1 rfl) ?_
  refine lv_iload_n hx hb d_DiscMakerModel_partsInside_13 rfl (lv_at hl 2 rfl) ?_
  refine lv_iload_n hx hb d_DiscMakerModel_partsInside_14 rfl (lv_at hl 3 rfl) ?_
  have hPc := hP.sub (ws' := [(h0, .inr (11, MO ma sv_thrown sv_length sv_nodes sv_many sv_directories sv_runsFrom sv_runs sv_read sv_wrong sv_isNamed sv_goes sv_goesSize sv_goesAt sv_targetParts sv_isRoot)), ((ma 16), .inl (cJ, 46080, .inr (.inl F))), ((ma 1), .inl (cI, 40, .inl fK)), ((ma 9), .inl (cI, 40, .inl fNS)), ((ma 10), .inl (cB, 8000, .inl fT)), ((ma 11), .inl (cI, 40, .inl fTS))]) [3, 0, 4, 5, 1, 2] rfl
  have hDc := hD.sub (ws' := [(h0, .inr (11, MO ma sv_thrown sv_length sv_nodes sv_many sv_directories sv_runsFrom sv_runs sv_read sv_wrong sv_isNamed sv_goes sv_goesSize sv_goesAt sv_targetParts sv_isRoot)), ((ma 16), .inl (cJ, 46080, .inr (.inl F))), ((ma 1), .inl (cI, 40, .inl fK)), ((ma 9), .inl (cI, 40, .inl fNS)), ((ma 10), .inl (cB, 8000, .inl fT)), ((ma 11), .inl (cI, 40, .inl fTS))]) [3, 0, 4, 5, 1, 2] (by decide +kernel) rfl
  have hFc := va_free (wc := [(h0, .inr (11, MO ma sv_thrown sv_length sv_nodes sv_many sv_directories sv_runsFrom sv_runs sv_read sv_wrong sv_isNamed sv_goes sv_goesSize sv_goesAt sv_targetParts sv_isRoot)), ((ma 16), .inl (cJ, 46080, .inr (.inl F))), ((ma 1), .inl (cI, 40, .inl fK)), ((ma 9), .inl (cI, 40, .inl fNS)), ((ma 10), .inl (cB, 8000, .inl fT)), ((ma 11), .inl (cI, 40, .inl fTS))]) hD hS hA [3, 0, 4, 5, 1, 2] rfl
  have hkc : 0 ≤ 0 := by decide
  have hks : 0 ≤ 0 := by decide
  refine va_calli (va_runV (C := "DiscMakerModel") (As := [.int x, .int y]) (rest := []) ⟨hx, hb, hml, hown, hts⟩ (m_allParts l D cB cI cJ cZ cN cF H.size h0 ma sv_thrown sv_length sv_nodes sv_many sv_directories sv_runsFrom sv_runs sv_read sv_wrong sv_isNamed sv_goes sv_goesSize sv_goesAt sv_targetParts sv_isRoot F fK fNS fT fTS x y (by (try dsimp only); first | assumption | omega | trivial) (by (try dsimp only); first | assumption | omega | trivial) (by (try dsimp only); first | assumption | omega | trivial) (by (try dsimp only); first | assumption | omega | trivial)) (cwV 2 hts (lg_goodV k1711 k1713 k75 k125 kc_DiscMakerModel_allParts) rfl rfl rfl (by decide +kernel) ⟨Nat.le_of_ble_eq_true rfl, Nat.le_of_ble_eq_true rfl⟩) ⟨fun a U g mk q => by obtain ⟨q0, q1, qP, qK, qN, qD⟩ := q; exact ⟨q0, q1, qP, va_K.moved (u := U) (U := U.calling g mk a) (Vm.Alike.refl U.vm) qK, qN.calling, qD⟩, va_recv hK hP (ci := 11) (q0 := 3) rfl rfl, fun U hU hW => ⟨rfl, by rw [hU], by rw [hU]; exact hPc, va_K.moved hW.alike hK, NN.warm hW hN, hDc.weaken (fun _ _ _ _ => trivial)⟩⟩ rfl rfl hl.1 rfl (lv_room (Nat.le_of_ble_eq_true rfl)) d_DiscMakerModel_partsInside_15 ⟨hkc, hks⟩) hS (fun q _ h => hFc q h) hFc (fun r5 u t H1 locs ht hvm hp_r5 hB hz1 hk1 hS => ?_)
  obtain ⟨G_6, rfl⟩ : ∃ z, z = u := ⟨_, rfl⟩
  obtain ⟨hP1, hD1⟩ := hB
  rw [ht] at hP1
  obtain ⟨hP, hD⟩ := va_join (wr := [((ma 13), .inl (cI, 40, .inl fBs)), ((ma 15), .inl (cI, 40, .inl fEs))]) (w1 := [(h0, .inr (11, MO ma sv_thrown sv_length sv_nodes sv_many sv_directories sv_runsFrom sv_runs sv_read sv_wrong sv_isNamed sv_goes sv_goesSize sv_goesAt sv_targetParts sv_isRoot)), ((ma 16), .inl (cJ, 46080, .inr (.inl G_6))), ((ma 1), .inl (cI, 40, .inl fK)), ((ma 9), .inl (cI, 40, .inl fNS)), ((ma 10), .inl (cB, 8000, .inl fT)), ((ma 11), .inl (cI, 40, .inl fTS))]) hP hD [3, 0, 4, 5, 1, 2] [6, 7] rfl rfl (by decide +kernel) (by decide +kernel) hk1 hFc hP1 hD1
  clear hPc hDc hFc hP1 hD1 hk1 hz1 hkc hks
  generalize H1 = H at hP hS ⊢
  have hP : va_P D CL [((ma 13), .inl (cI, 40, .inl fBs)), ((ma 15), .inl (cI, 40, .inl fEs)), (h0, .inr (11, MO ma sv_thrown sv_length sv_nodes sv_many sv_directories sv_runsFrom sv_runs sv_read sv_wrong sv_isNamed sv_goes sv_goesSize sv_goesAt sv_targetParts sv_isRoot)), ((ma 16), .inl (cJ, 46080, .inr (.inl G_6))), ((ma 1), .inl (cI, 40, .inl fK)), ((ma 9), .inl (cI, 40, .inl fNS)), ((ma 10), .inl (cB, 8000, .inl fT)), ((ma 11), .inl (cI, 40, .inl fTS))] H := hP
  have hD : va_D A [((ma 13), .inl (cI, 40, .inl fBs)), ((ma 15), .inl (cI, 40, .inl fEs)), (h0, .inr (11, MO ma sv_thrown sv_length sv_nodes sv_many sv_directories sv_runsFrom sv_runs sv_read sv_wrong sv_isNamed sv_goes sv_goesSize sv_goesAt sv_targetParts sv_isRoot)), ((ma 16), .inl (cJ, 46080, .inr (.inl G_6))), ((ma 1), .inl (cI, 40, .inl fK)), ((ma 9), .inl (cI, 40, .inl fNS)), ((ma 10), .inl (cB, 8000, .inl fT)), ((ma 11), .inl (cI, 40, .inl fTS))] := hD
  try dsimp only at hp_r5
  obtain ⟨hv_7, hr_8⟩ := hp_r5
  refine lv_iload_n hx hb d_DiscMakerModel_partsInside_18 rfl (lv_at hl 0 rfl) ?_
  refine lv_icmp_gt (tgt := 24) hx hb d_DiscMakerModel_partsInside_19 (by decide) (fun h_9 => ?_) (fun h_9 => ?_)
  · skip
    have g19_14 : v4.toInt < r5.toInt := (i_lt rfl rfl).mp h_9
    refine lv_bipush (v := 28) hx hb d_DiscMakerModel_partsInside_24 (by decide) ?_
    refine lv_istore hx hb d_DiscMakerModel_partsInside_26 hl (by decide) rfl (fun ls hl => ?_)
    have hl : lv_has ls 6 [(4, .int 28), (3, .int v4), (0, .ref h0), (1, .int x), (2, .int y)] := hl
    refine lv_iconst (v := 0) hx hb d_DiscMakerModel_partsInside_28 (by decide) ?_
    refine lv_istore hx hb d_DiscMakerModel_partsInside_29 hl (by decide) rfl (fun ls hl => ?_)
    have hl : lv_has ls 6 [(5, .int 0), (4, .int 28), (3, .int v4), (0, .ref h0), (1, .int x), (2, .int y)] := hl
    refine lv_iload hx hb d_DiscMakerModel_partsInside_31 (lv_at hl 1 rfl) ?_
    refine lv_aload_n hx hb d_DiscMakerModel_partsInside_33 rfl (lv_at hl 3 rfl) ?_
    refine lv_iload hx hb d_DiscMakerModel_partsInside_34 (lv_at hl 0 rfl) ?_
    refine lv_iload_n hx hb d_DiscMakerModel_partsInside_36 rfl (lv_at hl 4 rfl) ?_
    refine lv_iload_n hx hb d_DiscMakerModel_partsInside_37 rfl (lv_at hl 5 rfl) ?_
    have hPc := hP.sub (ws' := [(h0, .inr (11, MO ma sv_thrown sv_length sv_nodes sv_many sv_directories sv_runsFrom sv_runs sv_read sv_wrong sv_isNamed sv_goes sv_goesSize sv_goesAt sv_targetParts sv_isRoot)), ((ma 16), .inl (cJ, 46080, .inr (.inl G_6))), ((ma 1), .inl (cI, 40, .inl fK)), ((ma 9), .inl (cI, 40, .inl fNS)), ((ma 10), .inl (cB, 8000, .inl fT)), ((ma 11), .inl (cI, 40, .inl fTS))]) [2, 3, 4, 5, 6, 7] rfl
    have hDc := hD.sub (ws' := [(h0, .inr (11, MO ma sv_thrown sv_length sv_nodes sv_many sv_directories sv_runsFrom sv_runs sv_read sv_wrong sv_isNamed sv_goes sv_goesSize sv_goesAt sv_targetParts sv_isRoot)), ((ma 16), .inl (cJ, 46080, .inr (.inl G_6))), ((ma 1), .inl (cI, 40, .inl fK)), ((ma 9), .inl (cI, 40, .inl fNS)), ((ma 10), .inl (cB, 8000, .inl fT)), ((ma 11), .inl (cI, 40, .inl fTS))]) [2, 3, 4, 5, 6, 7] (by decide +kernel) rfl
    have hFc := va_free (wc := [(h0, .inr (11, MO ma sv_thrown sv_length sv_nodes sv_many sv_directories sv_runsFrom sv_runs sv_read sv_wrong sv_isNamed sv_goes sv_goesSize sv_goesAt sv_targetParts sv_isRoot)), ((ma 16), .inl (cJ, 46080, .inr (.inl G_6))), ((ma 1), .inl (cI, 40, .inl fK)), ((ma 9), .inl (cI, 40, .inl fNS)), ((ma 10), .inl (cB, 8000, .inl fT)), ((ma 11), .inl (cI, 40, .inl fTS))]) hD hS hA [2, 3, 4, 5, 6, 7] rfl
    have hkc : 0 ≤ 0 := by decide
    have hks : 0 ≤ 0 := by decide
    refine va_calli (va_runV (C := "DiscMakerModel") (As := [.int 0, .int x, .int y]) (rest := [.int 28]) ⟨hx, hb, hml, hown, hts⟩ (m_partSize l D cB cI cJ cZ cN cF H.size h0 ma sv_thrown sv_length sv_nodes sv_many sv_directories sv_runsFrom sv_runs sv_read sv_wrong sv_isNamed sv_goes sv_goesSize sv_goesAt sv_targetParts sv_isRoot G_6 fK fNS fT fTS 0 x y (by (try dsimp only); first | assumption | omega | trivial) (by (try dsimp only); first | assumption | omega | trivial) (by (try dsimp only); first | assumption | omega | trivial) (by (try dsimp only); first | assumption | omega | trivial) (by (try dsimp only); first | assumption | omega | trivial)) (cwV 3 hts (lg_goodV k1715 k1717 k76 k125 kc_DiscMakerModel_partSize) rfl rfl rfl (by decide +kernel) ⟨Nat.le_of_ble_eq_true rfl, Nat.le_of_ble_eq_true rfl⟩) ⟨fun a U g mk q => by obtain ⟨q0, q1, qP, qK, qN, qD⟩ := q; exact ⟨q0, q1, qP, va_K.moved (u := U) (U := U.calling g mk a) (Vm.Alike.refl U.vm) qK, qN.calling, qD⟩, va_recv hK hP (ci := 11) (q0 := 2) rfl rfl, fun U hU hW => ⟨rfl, by rw [hU], by rw [hU]; exact hPc, va_K.moved hW.alike hK, NN.warm hW hN, hDc.weaken (fun _ _ _ _ => trivial)⟩⟩ rfl rfl hl.1 rfl (lv_room (Nat.le_of_ble_eq_true rfl)) d_DiscMakerModel_partsInside_38 ⟨hkc, hks⟩) hS (fun q _ h => hFc q h) hFc (fun r9 u t H1 locs ht hvm hp_r9 hB hz1 hk1 hS => ?_)
    obtain ⟨G_10, rfl⟩ : ∃ z, z = u := ⟨_, rfl⟩
    obtain ⟨hP1, hD1⟩ := hB
    rw [ht] at hP1
    obtain ⟨hP, hD⟩ := va_join (wr := [((ma 13), .inl (cI, 40, .inl fBs)), ((ma 15), .inl (cI, 40, .inl fEs))]) (w1 := [(h0, .inr (11, MO ma sv_thrown sv_length sv_nodes sv_many sv_directories sv_runsFrom sv_runs sv_read sv_wrong sv_isNamed sv_goes sv_goesSize sv_goesAt sv_targetParts sv_isRoot)), ((ma 16), .inl (cJ, 46080, .inr (.inl G_10))), ((ma 1), .inl (cI, 40, .inl fK)), ((ma 9), .inl (cI, 40, .inl fNS)), ((ma 10), .inl (cB, 8000, .inl fT)), ((ma 11), .inl (cI, 40, .inl fTS))]) hP hD [2, 3, 4, 5, 6, 7] [0, 1] rfl rfl (by decide +kernel) (by decide +kernel) hk1 hFc hP1 hD1
    clear hPc hDc hFc hP1 hD1 hk1 hz1 hkc hks
    generalize H1 = H at hP hS ⊢
    have hP : va_P D CL [((ma 13), .inl (cI, 40, .inl fBs)), ((ma 15), .inl (cI, 40, .inl fEs)), (h0, .inr (11, MO ma sv_thrown sv_length sv_nodes sv_many sv_directories sv_runsFrom sv_runs sv_read sv_wrong sv_isNamed sv_goes sv_goesSize sv_goesAt sv_targetParts sv_isRoot)), ((ma 16), .inl (cJ, 46080, .inr (.inl G_10))), ((ma 1), .inl (cI, 40, .inl fK)), ((ma 9), .inl (cI, 40, .inl fNS)), ((ma 10), .inl (cB, 8000, .inl fT)), ((ma 11), .inl (cI, 40, .inl fTS))] H := hP
    have hD : va_D A [((ma 13), .inl (cI, 40, .inl fBs)), ((ma 15), .inl (cI, 40, .inl fEs)), (h0, .inr (11, MO ma sv_thrown sv_length sv_nodes sv_many sv_directories sv_runsFrom sv_runs sv_read sv_wrong sv_isNamed sv_goes sv_goesSize sv_goesAt sv_targetParts sv_isRoot)), ((ma 16), .inl (cJ, 46080, .inr (.inl G_10))), ((ma 1), .inl (cI, 40, .inl fK)), ((ma 9), .inl (cI, 40, .inl fNS)), ((ma 10), .inl (cB, 8000, .inl fT)), ((ma 11), .inl (cI, 40, .inl fTS))] := hD
    try dsimp only at hp_r9
    obtain ⟨hv_11, hr_12⟩ := hp_r9
    try rw [L_0] at hv_11
    refine lv_iadd hx hb d_DiscMakerModel_partsInside_41 ?_
    refine lv_topi (fun v13 e_v13 => ?_)
    have t_v13 : v13.toInt = 28 + r9.toInt := by rw [e_v13]; exact i_add (by decide) rfl (by omega) (by omega)
    refine lv_iload_n hx hb d_DiscMakerModel_partsInside_42 rfl (lv_at hl 2 rfl) ?_
    refine lv_icmp_gt (tgt := 65) hx hb d_DiscMakerModel_partsInside_43 (by decide) (fun h_9 => ?_) (fun h_9 => ?_)
    · skip
      have g43_27 : v4.toInt < v13.toInt := (i_lt rfl rfl).mp h_9
      refine lv_iload hx hb d_DiscMakerModel_partsInside_65 (lv_at hl 0 rfl) ?_
      have hP9 := hP.sub (ws' := [(h0, .inr (11, MO ma sv_thrown sv_length sv_nodes sv_many sv_directories sv_runsFrom sv_runs sv_read sv_wrong sv_isNamed sv_goes sv_goesSize sv_goesAt sv_targetParts sv_isRoot)), ((ma 16), .inl (cJ, 46080, .inr (.inl G_10))), ((ma 1), .inl (cI, 40, .inl fK)), ((ma 9), .inl (cI, 40, .inl fNS)), ((ma 10), .inl (cB, 8000, .inl fT)), ((ma 11), .inl (cI, 40, .inl fTS)), ((ma 13), .inl (cI, 40, .inl fBs)), ((ma 15), .inl (cI, 40, .inl fEs))]) [2, 3, 4, 5, 6, 7, 0, 1] rfl
      have hD9 := hD.sub (ws' := [(h0, .inr (11, MO ma sv_thrown sv_length sv_nodes sv_many sv_directories sv_runsFrom sv_runs sv_read sv_wrong sv_isNamed sv_goes sv_goesSize sv_goesAt sv_targetParts sv_isRoot)), ((ma 16), .inl (cJ, 46080, .inr (.inl G_10))), ((ma 1), .inl (cI, 40, .inl fK)), ((ma 9), .inl (cI, 40, .inl fNS)), ((ma 10), .inl (cB, 8000, .inl fT)), ((ma 11), .inl (cI, 40, .inl fTS)), ((ma 13), .inl (cI, 40, .inl fBs)), ((ma 15), .inl (cI, 40, .inl fEs))]) [2, 3, 4, 5, 6, 7, 0, 1] (by decide +kernel) rfl
      exact W.iret (v := 0) hx hb hr (fun t ht hW => ⟨⟨0, G_10, rfl, (by (try dsimp only); first | assumption | omega | trivial), by rw [ht]; exact hP9, hD9⟩, hS.F ht⟩) hS.2.2 d_DiscMakerModel_partsInside_67
    · skip
      have g43_27 : ¬ v4.toInt < v13.toInt := fun h8 => h_9 ((i_lt rfl rfl).mpr h8)
      refine lv_iload hx hb d_DiscMakerModel_partsInside_46 (lv_at hl 1 rfl) ?_
      refine lv_aload_n hx hb d_DiscMakerModel_partsInside_48 rfl (lv_at hl 3 rfl) ?_
      refine lv_iload hx hb d_DiscMakerModel_partsInside_49 (lv_at hl 0 rfl) ?_
      refine lv_iload_n hx hb d_DiscMakerModel_partsInside_51 rfl (lv_at hl 4 rfl) ?_
      refine lv_iload_n hx hb d_DiscMakerModel_partsInside_52 rfl (lv_at hl 5 rfl) ?_
      have hPc := hP.sub (ws' := [(h0, .inr (11, MO ma sv_thrown sv_length sv_nodes sv_many sv_directories sv_runsFrom sv_runs sv_read sv_wrong sv_isNamed sv_goes sv_goesSize sv_goesAt sv_targetParts sv_isRoot)), ((ma 16), .inl (cJ, 46080, .inr (.inl G_10))), ((ma 1), .inl (cI, 40, .inl fK)), ((ma 9), .inl (cI, 40, .inl fNS)), ((ma 10), .inl (cB, 8000, .inl fT)), ((ma 11), .inl (cI, 40, .inl fTS))]) [2, 3, 4, 5, 6, 7] rfl
      have hDc := hD.sub (ws' := [(h0, .inr (11, MO ma sv_thrown sv_length sv_nodes sv_many sv_directories sv_runsFrom sv_runs sv_read sv_wrong sv_isNamed sv_goes sv_goesSize sv_goesAt sv_targetParts sv_isRoot)), ((ma 16), .inl (cJ, 46080, .inr (.inl G_10))), ((ma 1), .inl (cI, 40, .inl fK)), ((ma 9), .inl (cI, 40, .inl fNS)), ((ma 10), .inl (cB, 8000, .inl fT)), ((ma 11), .inl (cI, 40, .inl fTS))]) [2, 3, 4, 5, 6, 7] (by decide +kernel) rfl
      have hFc := va_free (wc := [(h0, .inr (11, MO ma sv_thrown sv_length sv_nodes sv_many sv_directories sv_runsFrom sv_runs sv_read sv_wrong sv_isNamed sv_goes sv_goesSize sv_goesAt sv_targetParts sv_isRoot)), ((ma 16), .inl (cJ, 46080, .inr (.inl G_10))), ((ma 1), .inl (cI, 40, .inl fK)), ((ma 9), .inl (cI, 40, .inl fNS)), ((ma 10), .inl (cB, 8000, .inl fT)), ((ma 11), .inl (cI, 40, .inl fTS))]) hD hS hA [2, 3, 4, 5, 6, 7] rfl
      have hkc : 0 ≤ 0 := by decide
      have hks : 0 ≤ 0 := by decide
      refine va_calli (va_runV (C := "DiscMakerModel") (As := [.int 0, .int x, .int y]) (rest := [.int 28]) ⟨hx, hb, hml, hown, hts⟩ (m_partSize l D cB cI cJ cZ cN cF H.size h0 ma sv_thrown sv_length sv_nodes sv_many sv_directories sv_runsFrom sv_runs sv_read sv_wrong sv_isNamed sv_goes sv_goesSize sv_goesAt sv_targetParts sv_isRoot G_10 fK fNS fT fTS 0 x y (by (try dsimp only); first | assumption | omega | trivial) (by (try dsimp only); first | assumption | omega | trivial) (by (try dsimp only); first | assumption | omega | trivial) (by (try dsimp only); first | assumption | omega | trivial) (by (try dsimp only); first | assumption | omega | trivial)) (cwV 3 hts (lg_goodV k1715 k1717 k76 k125 kc_DiscMakerModel_partSize) rfl rfl rfl (by decide +kernel) ⟨Nat.le_of_ble_eq_true rfl, Nat.le_of_ble_eq_true rfl⟩) ⟨fun a U g mk q => by obtain ⟨q0, q1, qP, qK, qN, qD⟩ := q; exact ⟨q0, q1, qP, va_K.moved (u := U) (U := U.calling g mk a) (Vm.Alike.refl U.vm) qK, qN.calling, qD⟩, va_recv hK hP (ci := 11) (q0 := 2) rfl rfl, fun U hU hW => ⟨rfl, by rw [hU], by rw [hU]; exact hPc, va_K.moved hW.alike hK, NN.warm hW hN, hDc.weaken (fun _ _ _ _ => trivial)⟩⟩ rfl rfl hl.1 rfl (lv_room (Nat.le_of_ble_eq_true rfl)) d_DiscMakerModel_partsInside_53 ⟨hkc, hks⟩) hS (fun q _ h => hFc q h) hFc (fun r14 u t H1 locs ht hvm hp_r14 hB hz1 hk1 hS => ?_)
      obtain ⟨G_15, rfl⟩ : ∃ z, z = u := ⟨_, rfl⟩
      obtain ⟨hP1, hD1⟩ := hB
      rw [ht] at hP1
      obtain ⟨hP, hD⟩ := va_join (wr := [((ma 13), .inl (cI, 40, .inl fBs)), ((ma 15), .inl (cI, 40, .inl fEs))]) (w1 := [(h0, .inr (11, MO ma sv_thrown sv_length sv_nodes sv_many sv_directories sv_runsFrom sv_runs sv_read sv_wrong sv_isNamed sv_goes sv_goesSize sv_goesAt sv_targetParts sv_isRoot)), ((ma 16), .inl (cJ, 46080, .inr (.inl G_15))), ((ma 1), .inl (cI, 40, .inl fK)), ((ma 9), .inl (cI, 40, .inl fNS)), ((ma 10), .inl (cB, 8000, .inl fT)), ((ma 11), .inl (cI, 40, .inl fTS))]) hP hD [2, 3, 4, 5, 6, 7] [0, 1] rfl rfl (by decide +kernel) (by decide +kernel) hk1 hFc hP1 hD1
      clear hPc hDc hFc hP1 hD1 hk1 hz1 hkc hks
      generalize H1 = H at hP hS ⊢
      have hP : va_P D CL [((ma 13), .inl (cI, 40, .inl fBs)), ((ma 15), .inl (cI, 40, .inl fEs)), (h0, .inr (11, MO ma sv_thrown sv_length sv_nodes sv_many sv_directories sv_runsFrom sv_runs sv_read sv_wrong sv_isNamed sv_goes sv_goesSize sv_goesAt sv_targetParts sv_isRoot)), ((ma 16), .inl (cJ, 46080, .inr (.inl G_15))), ((ma 1), .inl (cI, 40, .inl fK)), ((ma 9), .inl (cI, 40, .inl fNS)), ((ma 10), .inl (cB, 8000, .inl fT)), ((ma 11), .inl (cI, 40, .inl fTS))] H := hP
      have hD : va_D A [((ma 13), .inl (cI, 40, .inl fBs)), ((ma 15), .inl (cI, 40, .inl fEs)), (h0, .inr (11, MO ma sv_thrown sv_length sv_nodes sv_many sv_directories sv_runsFrom sv_runs sv_read sv_wrong sv_isNamed sv_goes sv_goesSize sv_goesAt sv_targetParts sv_isRoot)), ((ma 16), .inl (cJ, 46080, .inr (.inl G_15))), ((ma 1), .inl (cI, 40, .inl fK)), ((ma 9), .inl (cI, 40, .inl fNS)), ((ma 10), .inl (cB, 8000, .inl fT)), ((ma 11), .inl (cI, 40, .inl fTS))] := hD
      try dsimp only at hp_r14
      obtain ⟨hv_16, hr_17⟩ := hp_r14
      try rw [L_0] at hv_16
      refine lv_iadd hx hb d_DiscMakerModel_partsInside_56 ?_
      refine lv_topi (fun v18 e_v18 => ?_)
      have t_v18 : v18.toInt = 28 + r14.toInt := by rw [e_v18]; exact i_add (by decide) rfl (by omega) (by omega)
      refine lv_istore hx hb d_DiscMakerModel_partsInside_57 hl (by decide) rfl (fun ls hl => ?_)
      have hl : lv_has ls 6 [(4, .int v18), (5, .int 0), (3, .int v4), (0, .ref h0), (1, .int x), (2, .int y)] := hl
      refine lv_iinc (v := 1) hx hb d_DiscMakerModel_partsInside_59 hl (k := 1) rfl (by decide) (by decide +kernel) rfl (fun ls hl => ?_)
      have hl : lv_has ls 6 [(5, .int 1), (4, .int v18), (3, .int v4), (0, .ref h0), (1, .int x), (2, .int y)] := hl
      refine lv_goto (tgt := 31) hx hb d_DiscMakerModel_partsInside_62 (by decide) ?_
      refine lv_iload hx hb d_DiscMakerModel_partsInside_31 (lv_at hl 1 rfl) ?_
      refine lv_aload_n hx hb d_DiscMakerModel_partsInside_33 rfl (lv_at hl 3 rfl) ?_
      refine lv_iload hx hb d_DiscMakerModel_partsInside_34 (lv_at hl 0 rfl) ?_
      refine lv_iload_n hx hb d_DiscMakerModel_partsInside_36 rfl (lv_at hl 4 rfl) ?_
      refine lv_iload_n hx hb d_DiscMakerModel_partsInside_37 rfl (lv_at hl 5 rfl) ?_
      have hPc := hP.sub (ws' := [(h0, .inr (11, MO ma sv_thrown sv_length sv_nodes sv_many sv_directories sv_runsFrom sv_runs sv_read sv_wrong sv_isNamed sv_goes sv_goesSize sv_goesAt sv_targetParts sv_isRoot)), ((ma 16), .inl (cJ, 46080, .inr (.inl G_15))), ((ma 1), .inl (cI, 40, .inl fK)), ((ma 9), .inl (cI, 40, .inl fNS)), ((ma 10), .inl (cB, 8000, .inl fT)), ((ma 11), .inl (cI, 40, .inl fTS))]) [2, 3, 4, 5, 6, 7] rfl
      have hDc := hD.sub (ws' := [(h0, .inr (11, MO ma sv_thrown sv_length sv_nodes sv_many sv_directories sv_runsFrom sv_runs sv_read sv_wrong sv_isNamed sv_goes sv_goesSize sv_goesAt sv_targetParts sv_isRoot)), ((ma 16), .inl (cJ, 46080, .inr (.inl G_15))), ((ma 1), .inl (cI, 40, .inl fK)), ((ma 9), .inl (cI, 40, .inl fNS)), ((ma 10), .inl (cB, 8000, .inl fT)), ((ma 11), .inl (cI, 40, .inl fTS))]) [2, 3, 4, 5, 6, 7] (by decide +kernel) rfl
      have hFc := va_free (wc := [(h0, .inr (11, MO ma sv_thrown sv_length sv_nodes sv_many sv_directories sv_runsFrom sv_runs sv_read sv_wrong sv_isNamed sv_goes sv_goesSize sv_goesAt sv_targetParts sv_isRoot)), ((ma 16), .inl (cJ, 46080, .inr (.inl G_15))), ((ma 1), .inl (cI, 40, .inl fK)), ((ma 9), .inl (cI, 40, .inl fNS)), ((ma 10), .inl (cB, 8000, .inl fT)), ((ma 11), .inl (cI, 40, .inl fTS))]) hD hS hA [2, 3, 4, 5, 6, 7] rfl
      have hkc : 0 ≤ 0 := by decide
      have hks : 0 ≤ 0 := by decide
      refine va_calli (va_runV (C := "DiscMakerModel") (As := [.int 1, .int x, .int y]) (rest := [.int v18]) ⟨hx, hb, hml, hown, hts⟩ (m_partSize l D cB cI cJ cZ cN cF H.size h0 ma sv_thrown sv_length sv_nodes sv_many sv_directories sv_runsFrom sv_runs sv_read sv_wrong sv_isNamed sv_goes sv_goesSize sv_goesAt sv_targetParts sv_isRoot G_15 fK fNS fT fTS 1 x y (by (try dsimp only); first | assumption | omega | trivial) (by (try dsimp only); first | assumption | omega | trivial) (by (try dsimp only); first | assumption | omega | trivial) (by (try dsimp only); first | assumption | omega | trivial) (by (try dsimp only); first | assumption | omega | trivial)) (cwV 3 hts (lg_goodV k1715 k1717 k76 k125 kc_DiscMakerModel_partSize) rfl rfl rfl (by decide +kernel) ⟨Nat.le_of_ble_eq_true rfl, Nat.le_of_ble_eq_true rfl⟩) ⟨fun a U g mk q => by obtain ⟨q0, q1, qP, qK, qN, qD⟩ := q; exact ⟨q0, q1, qP, va_K.moved (u := U) (U := U.calling g mk a) (Vm.Alike.refl U.vm) qK, qN.calling, qD⟩, va_recv hK hP (ci := 11) (q0 := 2) rfl rfl, fun U hU hW => ⟨rfl, by rw [hU], by rw [hU]; exact hPc, va_K.moved hW.alike hK, NN.warm hW hN, hDc.weaken (fun _ _ _ _ => trivial)⟩⟩ rfl rfl hl.1 rfl (lv_room (Nat.le_of_ble_eq_true rfl)) d_DiscMakerModel_partsInside_38 ⟨hkc, hks⟩) hS (fun q _ h => hFc q h) hFc (fun r19 u t H1 locs ht hvm hp_r19 hB hz1 hk1 hS => ?_)
      obtain ⟨G_20, rfl⟩ : ∃ z, z = u := ⟨_, rfl⟩
      obtain ⟨hP1, hD1⟩ := hB
      rw [ht] at hP1
      obtain ⟨hP, hD⟩ := va_join (wr := [((ma 13), .inl (cI, 40, .inl fBs)), ((ma 15), .inl (cI, 40, .inl fEs))]) (w1 := [(h0, .inr (11, MO ma sv_thrown sv_length sv_nodes sv_many sv_directories sv_runsFrom sv_runs sv_read sv_wrong sv_isNamed sv_goes sv_goesSize sv_goesAt sv_targetParts sv_isRoot)), ((ma 16), .inl (cJ, 46080, .inr (.inl G_20))), ((ma 1), .inl (cI, 40, .inl fK)), ((ma 9), .inl (cI, 40, .inl fNS)), ((ma 10), .inl (cB, 8000, .inl fT)), ((ma 11), .inl (cI, 40, .inl fTS))]) hP hD [2, 3, 4, 5, 6, 7] [0, 1] rfl rfl (by decide +kernel) (by decide +kernel) hk1 hFc hP1 hD1
      clear hPc hDc hFc hP1 hD1 hk1 hz1 hkc hks
      generalize H1 = H at hP hS ⊢
      have hP : va_P D CL [((ma 13), .inl (cI, 40, .inl fBs)), ((ma 15), .inl (cI, 40, .inl fEs)), (h0, .inr (11, MO ma sv_thrown sv_length sv_nodes sv_many sv_directories sv_runsFrom sv_runs sv_read sv_wrong sv_isNamed sv_goes sv_goesSize sv_goesAt sv_targetParts sv_isRoot)), ((ma 16), .inl (cJ, 46080, .inr (.inl G_20))), ((ma 1), .inl (cI, 40, .inl fK)), ((ma 9), .inl (cI, 40, .inl fNS)), ((ma 10), .inl (cB, 8000, .inl fT)), ((ma 11), .inl (cI, 40, .inl fTS))] H := hP
      have hD : va_D A [((ma 13), .inl (cI, 40, .inl fBs)), ((ma 15), .inl (cI, 40, .inl fEs)), (h0, .inr (11, MO ma sv_thrown sv_length sv_nodes sv_many sv_directories sv_runsFrom sv_runs sv_read sv_wrong sv_isNamed sv_goes sv_goesSize sv_goesAt sv_targetParts sv_isRoot)), ((ma 16), .inl (cJ, 46080, .inr (.inl G_20))), ((ma 1), .inl (cI, 40, .inl fK)), ((ma 9), .inl (cI, 40, .inl fNS)), ((ma 10), .inl (cB, 8000, .inl fT)), ((ma 11), .inl (cI, 40, .inl fTS))] := hD
      try dsimp only at hp_r19
      obtain ⟨hv_21, hr_22⟩ := hp_r19
      try rw [L_1] at hv_21
      refine lv_iadd hx hb d_DiscMakerModel_partsInside_41 ?_
      refine lv_topi (fun v23 e_v23 => ?_)
      have t_v23 : v23.toInt = v18.toInt + r19.toInt := by rw [e_v23]; exact i_add rfl rfl (by omega) (by omega)
      refine lv_iload_n hx hb d_DiscMakerModel_partsInside_42 rfl (lv_at hl 2 rfl) ?_
      refine lv_icmp_gt (tgt := 65) hx hb d_DiscMakerModel_partsInside_43 (by decide) (fun h_9 => ?_) (fun h_9 => ?_)
      · skip
        have g43_48 : v4.toInt < v23.toInt := (i_lt rfl rfl).mp h_9
        refine lv_iload hx hb d_DiscMakerModel_partsInside_65 (lv_at hl 0 rfl) ?_
        have hP9 := hP.sub (ws' := [(h0, .inr (11, MO ma sv_thrown sv_length sv_nodes sv_many sv_directories sv_runsFrom sv_runs sv_read sv_wrong sv_isNamed sv_goes sv_goesSize sv_goesAt sv_targetParts sv_isRoot)), ((ma 16), .inl (cJ, 46080, .inr (.inl G_20))), ((ma 1), .inl (cI, 40, .inl fK)), ((ma 9), .inl (cI, 40, .inl fNS)), ((ma 10), .inl (cB, 8000, .inl fT)), ((ma 11), .inl (cI, 40, .inl fTS)), ((ma 13), .inl (cI, 40, .inl fBs)), ((ma 15), .inl (cI, 40, .inl fEs))]) [2, 3, 4, 5, 6, 7, 0, 1] rfl
        have hD9 := hD.sub (ws' := [(h0, .inr (11, MO ma sv_thrown sv_length sv_nodes sv_many sv_directories sv_runsFrom sv_runs sv_read sv_wrong sv_isNamed sv_goes sv_goesSize sv_goesAt sv_targetParts sv_isRoot)), ((ma 16), .inl (cJ, 46080, .inr (.inl G_20))), ((ma 1), .inl (cI, 40, .inl fK)), ((ma 9), .inl (cI, 40, .inl fNS)), ((ma 10), .inl (cB, 8000, .inl fT)), ((ma 11), .inl (cI, 40, .inl fTS)), ((ma 13), .inl (cI, 40, .inl fBs)), ((ma 15), .inl (cI, 40, .inl fEs))]) [2, 3, 4, 5, 6, 7, 0, 1] (by decide +kernel) rfl
        exact W.iret (v := 1) hx hb hr (fun t ht hW => ⟨⟨1, G_20, rfl, (by (try dsimp only); first | assumption | omega | trivial), by rw [ht]; exact hP9, hD9⟩, hS.F ht⟩) hS.2.2 d_DiscMakerModel_partsInside_67
      · skip
        have g43_48 : ¬ v4.toInt < v23.toInt := fun h8 => h_9 ((i_lt rfl rfl).mpr h8)
        refine lv_iload hx hb d_DiscMakerModel_partsInside_46 (lv_at hl 1 rfl) ?_
        refine lv_aload_n hx hb d_DiscMakerModel_partsInside_48 rfl (lv_at hl 3 rfl) ?_
        refine lv_iload hx hb d_DiscMakerModel_partsInside_49 (lv_at hl 0 rfl) ?_
        refine lv_iload_n hx hb d_DiscMakerModel_partsInside_51 rfl (lv_at hl 4 rfl) ?_
        refine lv_iload_n hx hb d_DiscMakerModel_partsInside_52 rfl (lv_at hl 5 rfl) ?_
        have hPc := hP.sub (ws' := [(h0, .inr (11, MO ma sv_thrown sv_length sv_nodes sv_many sv_directories sv_runsFrom sv_runs sv_read sv_wrong sv_isNamed sv_goes sv_goesSize sv_goesAt sv_targetParts sv_isRoot)), ((ma 16), .inl (cJ, 46080, .inr (.inl G_20))), ((ma 1), .inl (cI, 40, .inl fK)), ((ma 9), .inl (cI, 40, .inl fNS)), ((ma 10), .inl (cB, 8000, .inl fT)), ((ma 11), .inl (cI, 40, .inl fTS))]) [2, 3, 4, 5, 6, 7] rfl
        have hDc := hD.sub (ws' := [(h0, .inr (11, MO ma sv_thrown sv_length sv_nodes sv_many sv_directories sv_runsFrom sv_runs sv_read sv_wrong sv_isNamed sv_goes sv_goesSize sv_goesAt sv_targetParts sv_isRoot)), ((ma 16), .inl (cJ, 46080, .inr (.inl G_20))), ((ma 1), .inl (cI, 40, .inl fK)), ((ma 9), .inl (cI, 40, .inl fNS)), ((ma 10), .inl (cB, 8000, .inl fT)), ((ma 11), .inl (cI, 40, .inl fTS))]) [2, 3, 4, 5, 6, 7] (by decide +kernel) rfl
        have hFc := va_free (wc := [(h0, .inr (11, MO ma sv_thrown sv_length sv_nodes sv_many sv_directories sv_runsFrom sv_runs sv_read sv_wrong sv_isNamed sv_goes sv_goesSize sv_goesAt sv_targetParts sv_isRoot)), ((ma 16), .inl (cJ, 46080, .inr (.inl G_20))), ((ma 1), .inl (cI, 40, .inl fK)), ((ma 9), .inl (cI, 40, .inl fNS)), ((ma 10), .inl (cB, 8000, .inl fT)), ((ma 11), .inl (cI, 40, .inl fTS))]) hD hS hA [2, 3, 4, 5, 6, 7] rfl
        have hkc : 0 ≤ 0 := by decide
        have hks : 0 ≤ 0 := by decide
        refine va_calli (va_runV (C := "DiscMakerModel") (As := [.int 1, .int x, .int y]) (rest := [.int v18]) ⟨hx, hb, hml, hown, hts⟩ (m_partSize l D cB cI cJ cZ cN cF H.size h0 ma sv_thrown sv_length sv_nodes sv_many sv_directories sv_runsFrom sv_runs sv_read sv_wrong sv_isNamed sv_goes sv_goesSize sv_goesAt sv_targetParts sv_isRoot G_20 fK fNS fT fTS 1 x y (by (try dsimp only); first | assumption | omega | trivial) (by (try dsimp only); first | assumption | omega | trivial) (by (try dsimp only); first | assumption | omega | trivial) (by (try dsimp only); first | assumption | omega | trivial) (by (try dsimp only); first | assumption | omega | trivial)) (cwV 3 hts (lg_goodV k1715 k1717 k76 k125 kc_DiscMakerModel_partSize) rfl rfl rfl (by decide +kernel) ⟨Nat.le_of_ble_eq_true rfl, Nat.le_of_ble_eq_true rfl⟩) ⟨fun a U g mk q => by obtain ⟨q0, q1, qP, qK, qN, qD⟩ := q; exact ⟨q0, q1, qP, va_K.moved (u := U) (U := U.calling g mk a) (Vm.Alike.refl U.vm) qK, qN.calling, qD⟩, va_recv hK hP (ci := 11) (q0 := 2) rfl rfl, fun U hU hW => ⟨rfl, by rw [hU], by rw [hU]; exact hPc, va_K.moved hW.alike hK, NN.warm hW hN, hDc.weaken (fun _ _ _ _ => trivial)⟩⟩ rfl rfl hl.1 rfl (lv_room (Nat.le_of_ble_eq_true rfl)) d_DiscMakerModel_partsInside_53 ⟨hkc, hks⟩) hS (fun q _ h => hFc q h) hFc (fun r24 u t H1 locs ht hvm hp_r24 hB hz1 hk1 hS => ?_)
        obtain ⟨G_25, rfl⟩ : ∃ z, z = u := ⟨_, rfl⟩
        obtain ⟨hP1, hD1⟩ := hB
        rw [ht] at hP1
        obtain ⟨hP, hD⟩ := va_join (wr := [((ma 13), .inl (cI, 40, .inl fBs)), ((ma 15), .inl (cI, 40, .inl fEs))]) (w1 := [(h0, .inr (11, MO ma sv_thrown sv_length sv_nodes sv_many sv_directories sv_runsFrom sv_runs sv_read sv_wrong sv_isNamed sv_goes sv_goesSize sv_goesAt sv_targetParts sv_isRoot)), ((ma 16), .inl (cJ, 46080, .inr (.inl G_25))), ((ma 1), .inl (cI, 40, .inl fK)), ((ma 9), .inl (cI, 40, .inl fNS)), ((ma 10), .inl (cB, 8000, .inl fT)), ((ma 11), .inl (cI, 40, .inl fTS))]) hP hD [2, 3, 4, 5, 6, 7] [0, 1] rfl rfl (by decide +kernel) (by decide +kernel) hk1 hFc hP1 hD1
        clear hPc hDc hFc hP1 hD1 hk1 hz1 hkc hks
        generalize H1 = H at hP hS ⊢
        have hP : va_P D CL [((ma 13), .inl (cI, 40, .inl fBs)), ((ma 15), .inl (cI, 40, .inl fEs)), (h0, .inr (11, MO ma sv_thrown sv_length sv_nodes sv_many sv_directories sv_runsFrom sv_runs sv_read sv_wrong sv_isNamed sv_goes sv_goesSize sv_goesAt sv_targetParts sv_isRoot)), ((ma 16), .inl (cJ, 46080, .inr (.inl G_25))), ((ma 1), .inl (cI, 40, .inl fK)), ((ma 9), .inl (cI, 40, .inl fNS)), ((ma 10), .inl (cB, 8000, .inl fT)), ((ma 11), .inl (cI, 40, .inl fTS))] H := hP
        have hD : va_D A [((ma 13), .inl (cI, 40, .inl fBs)), ((ma 15), .inl (cI, 40, .inl fEs)), (h0, .inr (11, MO ma sv_thrown sv_length sv_nodes sv_many sv_directories sv_runsFrom sv_runs sv_read sv_wrong sv_isNamed sv_goes sv_goesSize sv_goesAt sv_targetParts sv_isRoot)), ((ma 16), .inl (cJ, 46080, .inr (.inl G_25))), ((ma 1), .inl (cI, 40, .inl fK)), ((ma 9), .inl (cI, 40, .inl fNS)), ((ma 10), .inl (cB, 8000, .inl fT)), ((ma 11), .inl (cI, 40, .inl fTS))] := hD
        try dsimp only at hp_r24
        obtain ⟨hv_26, hr_27⟩ := hp_r24
        try rw [L_1] at hv_26
        refine lv_iadd hx hb d_DiscMakerModel_partsInside_56 ?_
        refine lv_topi (fun v28 e_v28 => ?_)
        have t_v28 : v28.toInt = v18.toInt + r24.toInt := by rw [e_v28]; exact i_add rfl rfl (by omega) (by omega)
        refine lv_istore hx hb d_DiscMakerModel_partsInside_57 hl (by decide) rfl (fun ls hl => ?_)
        have hl : lv_has ls 6 [(4, .int v28), (5, .int 1), (3, .int v4), (0, .ref h0), (1, .int x), (2, .int y)] := hl
        refine lv_iinc (v := 2) hx hb d_DiscMakerModel_partsInside_59 hl (k := 1) rfl (by decide) (by decide +kernel) rfl (fun ls hl => ?_)
        have L_2 : (2 : Int32).toInt = 2 := by decide
        have hl : lv_has ls 6 [(5, .int 2), (4, .int v28), (3, .int v4), (0, .ref h0), (1, .int x), (2, .int y)] := hl
        refine lv_goto (tgt := 31) hx hb d_DiscMakerModel_partsInside_62 (by decide) ?_
        refine lv_iload hx hb d_DiscMakerModel_partsInside_31 (lv_at hl 1 rfl) ?_
        refine lv_aload_n hx hb d_DiscMakerModel_partsInside_33 rfl (lv_at hl 3 rfl) ?_
        refine lv_iload hx hb d_DiscMakerModel_partsInside_34 (lv_at hl 0 rfl) ?_
        refine lv_iload_n hx hb d_DiscMakerModel_partsInside_36 rfl (lv_at hl 4 rfl) ?_
        refine lv_iload_n hx hb d_DiscMakerModel_partsInside_37 rfl (lv_at hl 5 rfl) ?_
        have hPc := hP.sub (ws' := [(h0, .inr (11, MO ma sv_thrown sv_length sv_nodes sv_many sv_directories sv_runsFrom sv_runs sv_read sv_wrong sv_isNamed sv_goes sv_goesSize sv_goesAt sv_targetParts sv_isRoot)), ((ma 16), .inl (cJ, 46080, .inr (.inl G_25))), ((ma 1), .inl (cI, 40, .inl fK)), ((ma 9), .inl (cI, 40, .inl fNS)), ((ma 10), .inl (cB, 8000, .inl fT)), ((ma 11), .inl (cI, 40, .inl fTS))]) [2, 3, 4, 5, 6, 7] rfl
        have hDc := hD.sub (ws' := [(h0, .inr (11, MO ma sv_thrown sv_length sv_nodes sv_many sv_directories sv_runsFrom sv_runs sv_read sv_wrong sv_isNamed sv_goes sv_goesSize sv_goesAt sv_targetParts sv_isRoot)), ((ma 16), .inl (cJ, 46080, .inr (.inl G_25))), ((ma 1), .inl (cI, 40, .inl fK)), ((ma 9), .inl (cI, 40, .inl fNS)), ((ma 10), .inl (cB, 8000, .inl fT)), ((ma 11), .inl (cI, 40, .inl fTS))]) [2, 3, 4, 5, 6, 7] (by decide +kernel) rfl
        have hFc := va_free (wc := [(h0, .inr (11, MO ma sv_thrown sv_length sv_nodes sv_many sv_directories sv_runsFrom sv_runs sv_read sv_wrong sv_isNamed sv_goes sv_goesSize sv_goesAt sv_targetParts sv_isRoot)), ((ma 16), .inl (cJ, 46080, .inr (.inl G_25))), ((ma 1), .inl (cI, 40, .inl fK)), ((ma 9), .inl (cI, 40, .inl fNS)), ((ma 10), .inl (cB, 8000, .inl fT)), ((ma 11), .inl (cI, 40, .inl fTS))]) hD hS hA [2, 3, 4, 5, 6, 7] rfl
        have hkc : 0 ≤ 0 := by decide
        have hks : 0 ≤ 0 := by decide
        refine va_calli (va_runV (C := "DiscMakerModel") (As := [.int 2, .int x, .int y]) (rest := [.int v28]) ⟨hx, hb, hml, hown, hts⟩ (m_partSize l D cB cI cJ cZ cN cF H.size h0 ma sv_thrown sv_length sv_nodes sv_many sv_directories sv_runsFrom sv_runs sv_read sv_wrong sv_isNamed sv_goes sv_goesSize sv_goesAt sv_targetParts sv_isRoot G_25 fK fNS fT fTS 2 x y (by (try dsimp only); first | assumption | omega | trivial) (by (try dsimp only); first | assumption | omega | trivial) (by (try dsimp only); first | assumption | omega | trivial) (by (try dsimp only); first | assumption | omega | trivial) (by (try dsimp only); first | assumption | omega | trivial)) (cwV 3 hts (lg_goodV k1715 k1717 k76 k125 kc_DiscMakerModel_partSize) rfl rfl rfl (by decide +kernel) ⟨Nat.le_of_ble_eq_true rfl, Nat.le_of_ble_eq_true rfl⟩) ⟨fun a U g mk q => by obtain ⟨q0, q1, qP, qK, qN, qD⟩ := q; exact ⟨q0, q1, qP, va_K.moved (u := U) (U := U.calling g mk a) (Vm.Alike.refl U.vm) qK, qN.calling, qD⟩, va_recv hK hP (ci := 11) (q0 := 2) rfl rfl, fun U hU hW => ⟨rfl, by rw [hU], by rw [hU]; exact hPc, va_K.moved hW.alike hK, NN.warm hW hN, hDc.weaken (fun _ _ _ _ => trivial)⟩⟩ rfl rfl hl.1 rfl (lv_room (Nat.le_of_ble_eq_true rfl)) d_DiscMakerModel_partsInside_38 ⟨hkc, hks⟩) hS (fun q _ h => hFc q h) hFc (fun r29 u t H1 locs ht hvm hp_r29 hB hz1 hk1 hS => ?_)
        obtain ⟨G_30, rfl⟩ : ∃ z, z = u := ⟨_, rfl⟩
        obtain ⟨hP1, hD1⟩ := hB
        rw [ht] at hP1
        obtain ⟨hP, hD⟩ := va_join (wr := [((ma 13), .inl (cI, 40, .inl fBs)), ((ma 15), .inl (cI, 40, .inl fEs))]) (w1 := [(h0, .inr (11, MO ma sv_thrown sv_length sv_nodes sv_many sv_directories sv_runsFrom sv_runs sv_read sv_wrong sv_isNamed sv_goes sv_goesSize sv_goesAt sv_targetParts sv_isRoot)), ((ma 16), .inl (cJ, 46080, .inr (.inl G_30))), ((ma 1), .inl (cI, 40, .inl fK)), ((ma 9), .inl (cI, 40, .inl fNS)), ((ma 10), .inl (cB, 8000, .inl fT)), ((ma 11), .inl (cI, 40, .inl fTS))]) hP hD [2, 3, 4, 5, 6, 7] [0, 1] rfl rfl (by decide +kernel) (by decide +kernel) hk1 hFc hP1 hD1
        clear hPc hDc hFc hP1 hD1 hk1 hz1 hkc hks
        generalize H1 = H at hP hS ⊢
        have hP : va_P D CL [((ma 13), .inl (cI, 40, .inl fBs)), ((ma 15), .inl (cI, 40, .inl fEs)), (h0, .inr (11, MO ma sv_thrown sv_length sv_nodes sv_many sv_directories sv_runsFrom sv_runs sv_read sv_wrong sv_isNamed sv_goes sv_goesSize sv_goesAt sv_targetParts sv_isRoot)), ((ma 16), .inl (cJ, 46080, .inr (.inl G_30))), ((ma 1), .inl (cI, 40, .inl fK)), ((ma 9), .inl (cI, 40, .inl fNS)), ((ma 10), .inl (cB, 8000, .inl fT)), ((ma 11), .inl (cI, 40, .inl fTS))] H := hP
        have hD : va_D A [((ma 13), .inl (cI, 40, .inl fBs)), ((ma 15), .inl (cI, 40, .inl fEs)), (h0, .inr (11, MO ma sv_thrown sv_length sv_nodes sv_many sv_directories sv_runsFrom sv_runs sv_read sv_wrong sv_isNamed sv_goes sv_goesSize sv_goesAt sv_targetParts sv_isRoot)), ((ma 16), .inl (cJ, 46080, .inr (.inl G_30))), ((ma 1), .inl (cI, 40, .inl fK)), ((ma 9), .inl (cI, 40, .inl fNS)), ((ma 10), .inl (cB, 8000, .inl fT)), ((ma 11), .inl (cI, 40, .inl fTS))] := hD
        try dsimp only at hp_r29
        obtain ⟨hv_31, hr_32⟩ := hp_r29
        try rw [L_2] at hv_31
        refine lv_iadd hx hb d_DiscMakerModel_partsInside_41 ?_
        refine lv_topi (fun v33 e_v33 => ?_)
        have t_v33 : v33.toInt = v28.toInt + r29.toInt := by rw [e_v33]; exact i_add rfl rfl (by omega) (by omega)
        refine lv_iload_n hx hb d_DiscMakerModel_partsInside_42 rfl (lv_at hl 2 rfl) ?_
        refine lv_icmp_gt (tgt := 65) hx hb d_DiscMakerModel_partsInside_43 (by decide) (fun h_9 => ?_) (fun h_9 => ?_)
        · skip
          have g43_69 : v4.toInt < v33.toInt := (i_lt rfl rfl).mp h_9
          refine lv_iload hx hb d_DiscMakerModel_partsInside_65 (lv_at hl 0 rfl) ?_
          have hP9 := hP.sub (ws' := [(h0, .inr (11, MO ma sv_thrown sv_length sv_nodes sv_many sv_directories sv_runsFrom sv_runs sv_read sv_wrong sv_isNamed sv_goes sv_goesSize sv_goesAt sv_targetParts sv_isRoot)), ((ma 16), .inl (cJ, 46080, .inr (.inl G_30))), ((ma 1), .inl (cI, 40, .inl fK)), ((ma 9), .inl (cI, 40, .inl fNS)), ((ma 10), .inl (cB, 8000, .inl fT)), ((ma 11), .inl (cI, 40, .inl fTS)), ((ma 13), .inl (cI, 40, .inl fBs)), ((ma 15), .inl (cI, 40, .inl fEs))]) [2, 3, 4, 5, 6, 7, 0, 1] rfl
          have hD9 := hD.sub (ws' := [(h0, .inr (11, MO ma sv_thrown sv_length sv_nodes sv_many sv_directories sv_runsFrom sv_runs sv_read sv_wrong sv_isNamed sv_goes sv_goesSize sv_goesAt sv_targetParts sv_isRoot)), ((ma 16), .inl (cJ, 46080, .inr (.inl G_30))), ((ma 1), .inl (cI, 40, .inl fK)), ((ma 9), .inl (cI, 40, .inl fNS)), ((ma 10), .inl (cB, 8000, .inl fT)), ((ma 11), .inl (cI, 40, .inl fTS)), ((ma 13), .inl (cI, 40, .inl fBs)), ((ma 15), .inl (cI, 40, .inl fEs))]) [2, 3, 4, 5, 6, 7, 0, 1] (by decide +kernel) rfl
          exact W.iret (v := 2) hx hb hr (fun t ht hW => ⟨⟨2, G_30, rfl, (by (try dsimp only); first | assumption | omega | trivial), by rw [ht]; exact hP9, hD9⟩, hS.F ht⟩) hS.2.2 d_DiscMakerModel_partsInside_67
        · skip
          have g43_69 : ¬ v4.toInt < v33.toInt := fun h8 => h_9 ((i_lt rfl rfl).mpr h8)
          refine lv_iload hx hb d_DiscMakerModel_partsInside_46 (lv_at hl 1 rfl) ?_
          refine lv_aload_n hx hb d_DiscMakerModel_partsInside_48 rfl (lv_at hl 3 rfl) ?_
          refine lv_iload hx hb d_DiscMakerModel_partsInside_49 (lv_at hl 0 rfl) ?_
          refine lv_iload_n hx hb d_DiscMakerModel_partsInside_51 rfl (lv_at hl 4 rfl) ?_
          refine lv_iload_n hx hb d_DiscMakerModel_partsInside_52 rfl (lv_at hl 5 rfl) ?_
          have hPc := hP.sub (ws' := [(h0, .inr (11, MO ma sv_thrown sv_length sv_nodes sv_many sv_directories sv_runsFrom sv_runs sv_read sv_wrong sv_isNamed sv_goes sv_goesSize sv_goesAt sv_targetParts sv_isRoot)), ((ma 16), .inl (cJ, 46080, .inr (.inl G_30))), ((ma 1), .inl (cI, 40, .inl fK)), ((ma 9), .inl (cI, 40, .inl fNS)), ((ma 10), .inl (cB, 8000, .inl fT)), ((ma 11), .inl (cI, 40, .inl fTS))]) [2, 3, 4, 5, 6, 7] rfl
          have hDc := hD.sub (ws' := [(h0, .inr (11, MO ma sv_thrown sv_length sv_nodes sv_many sv_directories sv_runsFrom sv_runs sv_read sv_wrong sv_isNamed sv_goes sv_goesSize sv_goesAt sv_targetParts sv_isRoot)), ((ma 16), .inl (cJ, 46080, .inr (.inl G_30))), ((ma 1), .inl (cI, 40, .inl fK)), ((ma 9), .inl (cI, 40, .inl fNS)), ((ma 10), .inl (cB, 8000, .inl fT)), ((ma 11), .inl (cI, 40, .inl fTS))]) [2, 3, 4, 5, 6, 7] (by decide +kernel) rfl
          have hFc := va_free (wc := [(h0, .inr (11, MO ma sv_thrown sv_length sv_nodes sv_many sv_directories sv_runsFrom sv_runs sv_read sv_wrong sv_isNamed sv_goes sv_goesSize sv_goesAt sv_targetParts sv_isRoot)), ((ma 16), .inl (cJ, 46080, .inr (.inl G_30))), ((ma 1), .inl (cI, 40, .inl fK)), ((ma 9), .inl (cI, 40, .inl fNS)), ((ma 10), .inl (cB, 8000, .inl fT)), ((ma 11), .inl (cI, 40, .inl fTS))]) hD hS hA [2, 3, 4, 5, 6, 7] rfl
          have hkc : 0 ≤ 0 := by decide
          have hks : 0 ≤ 0 := by decide
          refine va_calli (va_runV (C := "DiscMakerModel") (As := [.int 2, .int x, .int y]) (rest := [.int v28]) ⟨hx, hb, hml, hown, hts⟩ (m_partSize l D cB cI cJ cZ cN cF H.size h0 ma sv_thrown sv_length sv_nodes sv_many sv_directories sv_runsFrom sv_runs sv_read sv_wrong sv_isNamed sv_goes sv_goesSize sv_goesAt sv_targetParts sv_isRoot G_30 fK fNS fT fTS 2 x y (by (try dsimp only); first | assumption | omega | trivial) (by (try dsimp only); first | assumption | omega | trivial) (by (try dsimp only); first | assumption | omega | trivial) (by (try dsimp only); first | assumption | omega | trivial) (by (try dsimp only); first | assumption | omega | trivial)) (cwV 3 hts (lg_goodV k1715 k1717 k76 k125 kc_DiscMakerModel_partSize) rfl rfl rfl (by decide +kernel) ⟨Nat.le_of_ble_eq_true rfl, Nat.le_of_ble_eq_true rfl⟩) ⟨fun a U g mk q => by obtain ⟨q0, q1, qP, qK, qN, qD⟩ := q; exact ⟨q0, q1, qP, va_K.moved (u := U) (U := U.calling g mk a) (Vm.Alike.refl U.vm) qK, qN.calling, qD⟩, va_recv hK hP (ci := 11) (q0 := 2) rfl rfl, fun U hU hW => ⟨rfl, by rw [hU], by rw [hU]; exact hPc, va_K.moved hW.alike hK, NN.warm hW hN, hDc.weaken (fun _ _ _ _ => trivial)⟩⟩ rfl rfl hl.1 rfl (lv_room (Nat.le_of_ble_eq_true rfl)) d_DiscMakerModel_partsInside_53 ⟨hkc, hks⟩) hS (fun q _ h => hFc q h) hFc (fun r34 u t H1 locs ht hvm hp_r34 hB hz1 hk1 hS => ?_)
          obtain ⟨G_35, rfl⟩ : ∃ z, z = u := ⟨_, rfl⟩
          obtain ⟨hP1, hD1⟩ := hB
          rw [ht] at hP1
          obtain ⟨hP, hD⟩ := va_join (wr := [((ma 13), .inl (cI, 40, .inl fBs)), ((ma 15), .inl (cI, 40, .inl fEs))]) (w1 := [(h0, .inr (11, MO ma sv_thrown sv_length sv_nodes sv_many sv_directories sv_runsFrom sv_runs sv_read sv_wrong sv_isNamed sv_goes sv_goesSize sv_goesAt sv_targetParts sv_isRoot)), ((ma 16), .inl (cJ, 46080, .inr (.inl G_35))), ((ma 1), .inl (cI, 40, .inl fK)), ((ma 9), .inl (cI, 40, .inl fNS)), ((ma 10), .inl (cB, 8000, .inl fT)), ((ma 11), .inl (cI, 40, .inl fTS))]) hP hD [2, 3, 4, 5, 6, 7] [0, 1] rfl rfl (by decide +kernel) (by decide +kernel) hk1 hFc hP1 hD1
          clear hPc hDc hFc hP1 hD1 hk1 hz1 hkc hks
          generalize H1 = H at hP hS ⊢
          have hP : va_P D CL [((ma 13), .inl (cI, 40, .inl fBs)), ((ma 15), .inl (cI, 40, .inl fEs)), (h0, .inr (11, MO ma sv_thrown sv_length sv_nodes sv_many sv_directories sv_runsFrom sv_runs sv_read sv_wrong sv_isNamed sv_goes sv_goesSize sv_goesAt sv_targetParts sv_isRoot)), ((ma 16), .inl (cJ, 46080, .inr (.inl G_35))), ((ma 1), .inl (cI, 40, .inl fK)), ((ma 9), .inl (cI, 40, .inl fNS)), ((ma 10), .inl (cB, 8000, .inl fT)), ((ma 11), .inl (cI, 40, .inl fTS))] H := hP
          have hD : va_D A [((ma 13), .inl (cI, 40, .inl fBs)), ((ma 15), .inl (cI, 40, .inl fEs)), (h0, .inr (11, MO ma sv_thrown sv_length sv_nodes sv_many sv_directories sv_runsFrom sv_runs sv_read sv_wrong sv_isNamed sv_goes sv_goesSize sv_goesAt sv_targetParts sv_isRoot)), ((ma 16), .inl (cJ, 46080, .inr (.inl G_35))), ((ma 1), .inl (cI, 40, .inl fK)), ((ma 9), .inl (cI, 40, .inl fNS)), ((ma 10), .inl (cB, 8000, .inl fT)), ((ma 11), .inl (cI, 40, .inl fTS))] := hD
          try dsimp only at hp_r34
          obtain ⟨hv_36, hr_37⟩ := hp_r34
          try rw [L_2] at hv_36
          refine lv_iadd hx hb d_DiscMakerModel_partsInside_56 ?_
          refine lv_topi (fun v38 e_v38 => ?_)
          have t_v38 : v38.toInt = v28.toInt + r34.toInt := by rw [e_v38]; exact i_add rfl rfl (by omega) (by omega)
          refine lv_istore hx hb d_DiscMakerModel_partsInside_57 hl (by decide) rfl (fun ls hl => ?_)
          have hl : lv_has ls 6 [(4, .int v38), (5, .int 2), (3, .int v4), (0, .ref h0), (1, .int x), (2, .int y)] := hl
          refine lv_iinc (v := 3) hx hb d_DiscMakerModel_partsInside_59 hl (k := 1) rfl (by decide) (by decide +kernel) rfl (fun ls hl => ?_)
          have L_3 : (3 : Int32).toInt = 3 := by decide
          have hl : lv_has ls 6 [(5, .int 3), (4, .int v38), (3, .int v4), (0, .ref h0), (1, .int x), (2, .int y)] := hl
          refine lv_goto (tgt := 31) hx hb d_DiscMakerModel_partsInside_62 (by decide) ?_
          refine lv_iload hx hb d_DiscMakerModel_partsInside_31 (lv_at hl 1 rfl) ?_
          refine lv_aload_n hx hb d_DiscMakerModel_partsInside_33 rfl (lv_at hl 3 rfl) ?_
          refine lv_iload hx hb d_DiscMakerModel_partsInside_34 (lv_at hl 0 rfl) ?_
          refine lv_iload_n hx hb d_DiscMakerModel_partsInside_36 rfl (lv_at hl 4 rfl) ?_
          refine lv_iload_n hx hb d_DiscMakerModel_partsInside_37 rfl (lv_at hl 5 rfl) ?_
          have hPc := hP.sub (ws' := [(h0, .inr (11, MO ma sv_thrown sv_length sv_nodes sv_many sv_directories sv_runsFrom sv_runs sv_read sv_wrong sv_isNamed sv_goes sv_goesSize sv_goesAt sv_targetParts sv_isRoot)), ((ma 16), .inl (cJ, 46080, .inr (.inl G_35))), ((ma 1), .inl (cI, 40, .inl fK)), ((ma 9), .inl (cI, 40, .inl fNS)), ((ma 10), .inl (cB, 8000, .inl fT)), ((ma 11), .inl (cI, 40, .inl fTS))]) [2, 3, 4, 5, 6, 7] rfl
          have hDc := hD.sub (ws' := [(h0, .inr (11, MO ma sv_thrown sv_length sv_nodes sv_many sv_directories sv_runsFrom sv_runs sv_read sv_wrong sv_isNamed sv_goes sv_goesSize sv_goesAt sv_targetParts sv_isRoot)), ((ma 16), .inl (cJ, 46080, .inr (.inl G_35))), ((ma 1), .inl (cI, 40, .inl fK)), ((ma 9), .inl (cI, 40, .inl fNS)), ((ma 10), .inl (cB, 8000, .inl fT)), ((ma 11), .inl (cI, 40, .inl fTS))]) [2, 3, 4, 5, 6, 7] (by decide +kernel) rfl
          have hFc := va_free (wc := [(h0, .inr (11, MO ma sv_thrown sv_length sv_nodes sv_many sv_directories sv_runsFrom sv_runs sv_read sv_wrong sv_isNamed sv_goes sv_goesSize sv_goesAt sv_targetParts sv_isRoot)), ((ma 16), .inl (cJ, 46080, .inr (.inl G_35))), ((ma 1), .inl (cI, 40, .inl fK)), ((ma 9), .inl (cI, 40, .inl fNS)), ((ma 10), .inl (cB, 8000, .inl fT)), ((ma 11), .inl (cI, 40, .inl fTS))]) hD hS hA [2, 3, 4, 5, 6, 7] rfl
          have hkc : 0 ≤ 0 := by decide
          have hks : 0 ≤ 0 := by decide
          refine va_calli (va_runV (C := "DiscMakerModel") (As := [.int 3, .int x, .int y]) (rest := [.int v38]) ⟨hx, hb, hml, hown, hts⟩ (m_partSize l D cB cI cJ cZ cN cF H.size h0 ma sv_thrown sv_length sv_nodes sv_many sv_directories sv_runsFrom sv_runs sv_read sv_wrong sv_isNamed sv_goes sv_goesSize sv_goesAt sv_targetParts sv_isRoot G_35 fK fNS fT fTS 3 x y (by (try dsimp only); first | assumption | omega | trivial) (by (try dsimp only); first | assumption | omega | trivial) (by (try dsimp only); first | assumption | omega | trivial) (by (try dsimp only); first | assumption | omega | trivial) (by (try dsimp only); first | assumption | omega | trivial)) (cwV 3 hts (lg_goodV k1715 k1717 k76 k125 kc_DiscMakerModel_partSize) rfl rfl rfl (by decide +kernel) ⟨Nat.le_of_ble_eq_true rfl, Nat.le_of_ble_eq_true rfl⟩) ⟨fun a U g mk q => by obtain ⟨q0, q1, qP, qK, qN, qD⟩ := q; exact ⟨q0, q1, qP, va_K.moved (u := U) (U := U.calling g mk a) (Vm.Alike.refl U.vm) qK, qN.calling, qD⟩, va_recv hK hP (ci := 11) (q0 := 2) rfl rfl, fun U hU hW => ⟨rfl, by rw [hU], by rw [hU]; exact hPc, va_K.moved hW.alike hK, NN.warm hW hN, hDc.weaken (fun _ _ _ _ => trivial)⟩⟩ rfl rfl hl.1 rfl (lv_room (Nat.le_of_ble_eq_true rfl)) d_DiscMakerModel_partsInside_38 ⟨hkc, hks⟩) hS (fun q _ h => hFc q h) hFc (fun r39 u t H1 locs ht hvm hp_r39 hB hz1 hk1 hS => ?_)
          obtain ⟨G_40, rfl⟩ : ∃ z, z = u := ⟨_, rfl⟩
          obtain ⟨hP1, hD1⟩ := hB
          rw [ht] at hP1
          obtain ⟨hP, hD⟩ := va_join (wr := [((ma 13), .inl (cI, 40, .inl fBs)), ((ma 15), .inl (cI, 40, .inl fEs))]) (w1 := [(h0, .inr (11, MO ma sv_thrown sv_length sv_nodes sv_many sv_directories sv_runsFrom sv_runs sv_read sv_wrong sv_isNamed sv_goes sv_goesSize sv_goesAt sv_targetParts sv_isRoot)), ((ma 16), .inl (cJ, 46080, .inr (.inl G_40))), ((ma 1), .inl (cI, 40, .inl fK)), ((ma 9), .inl (cI, 40, .inl fNS)), ((ma 10), .inl (cB, 8000, .inl fT)), ((ma 11), .inl (cI, 40, .inl fTS))]) hP hD [2, 3, 4, 5, 6, 7] [0, 1] rfl rfl (by decide +kernel) (by decide +kernel) hk1 hFc hP1 hD1
          clear hPc hDc hFc hP1 hD1 hk1 hz1 hkc hks
          generalize H1 = H at hP hS ⊢
          have hP : va_P D CL [((ma 13), .inl (cI, 40, .inl fBs)), ((ma 15), .inl (cI, 40, .inl fEs)), (h0, .inr (11, MO ma sv_thrown sv_length sv_nodes sv_many sv_directories sv_runsFrom sv_runs sv_read sv_wrong sv_isNamed sv_goes sv_goesSize sv_goesAt sv_targetParts sv_isRoot)), ((ma 16), .inl (cJ, 46080, .inr (.inl G_40))), ((ma 1), .inl (cI, 40, .inl fK)), ((ma 9), .inl (cI, 40, .inl fNS)), ((ma 10), .inl (cB, 8000, .inl fT)), ((ma 11), .inl (cI, 40, .inl fTS))] H := hP
          have hD : va_D A [((ma 13), .inl (cI, 40, .inl fBs)), ((ma 15), .inl (cI, 40, .inl fEs)), (h0, .inr (11, MO ma sv_thrown sv_length sv_nodes sv_many sv_directories sv_runsFrom sv_runs sv_read sv_wrong sv_isNamed sv_goes sv_goesSize sv_goesAt sv_targetParts sv_isRoot)), ((ma 16), .inl (cJ, 46080, .inr (.inl G_40))), ((ma 1), .inl (cI, 40, .inl fK)), ((ma 9), .inl (cI, 40, .inl fNS)), ((ma 10), .inl (cB, 8000, .inl fT)), ((ma 11), .inl (cI, 40, .inl fTS))] := hD
          try dsimp only at hp_r39
          obtain ⟨hv_41, hr_42⟩ := hp_r39
          try rw [L_3] at hv_41
          refine lv_iadd hx hb d_DiscMakerModel_partsInside_41 ?_
          refine lv_topi (fun v43 e_v43 => ?_)
          have t_v43 : v43.toInt = v38.toInt + r39.toInt := by rw [e_v43]; exact i_add rfl rfl (by omega) (by omega)
          refine lv_iload_n hx hb d_DiscMakerModel_partsInside_42 rfl (lv_at hl 2 rfl) ?_
          refine lv_icmp_gt (tgt := 65) hx hb d_DiscMakerModel_partsInside_43 (by decide) (fun h_9 => ?_) (fun h_9 => ?_)
          · skip
            have g43_90 : v4.toInt < v43.toInt := (i_lt rfl rfl).mp h_9
            refine lv_iload hx hb d_DiscMakerModel_partsInside_65 (lv_at hl 0 rfl) ?_
            have hP9 := hP.sub (ws' := [(h0, .inr (11, MO ma sv_thrown sv_length sv_nodes sv_many sv_directories sv_runsFrom sv_runs sv_read sv_wrong sv_isNamed sv_goes sv_goesSize sv_goesAt sv_targetParts sv_isRoot)), ((ma 16), .inl (cJ, 46080, .inr (.inl G_40))), ((ma 1), .inl (cI, 40, .inl fK)), ((ma 9), .inl (cI, 40, .inl fNS)), ((ma 10), .inl (cB, 8000, .inl fT)), ((ma 11), .inl (cI, 40, .inl fTS)), ((ma 13), .inl (cI, 40, .inl fBs)), ((ma 15), .inl (cI, 40, .inl fEs))]) [2, 3, 4, 5, 6, 7, 0, 1] rfl
            have hD9 := hD.sub (ws' := [(h0, .inr (11, MO ma sv_thrown sv_length sv_nodes sv_many sv_directories sv_runsFrom sv_runs sv_read sv_wrong sv_isNamed sv_goes sv_goesSize sv_goesAt sv_targetParts sv_isRoot)), ((ma 16), .inl (cJ, 46080, .inr (.inl G_40))), ((ma 1), .inl (cI, 40, .inl fK)), ((ma 9), .inl (cI, 40, .inl fNS)), ((ma 10), .inl (cB, 8000, .inl fT)), ((ma 11), .inl (cI, 40, .inl fTS)), ((ma 13), .inl (cI, 40, .inl fBs)), ((ma 15), .inl (cI, 40, .inl fEs))]) [2, 3, 4, 5, 6, 7, 0, 1] (by decide +kernel) rfl
            exact W.iret (v := 3) hx hb hr (fun t ht hW => ⟨⟨3, G_40, rfl, (by (try dsimp only); first | assumption | omega | trivial), by rw [ht]; exact hP9, hD9⟩, hS.F ht⟩) hS.2.2 d_DiscMakerModel_partsInside_67
          · skip
            have g43_90 : ¬ v4.toInt < v43.toInt := fun h8 => h_9 ((i_lt rfl rfl).mpr h8)
            exfalso
            omega
  · skip
    have g19_14 : ¬ v4.toInt < r5.toInt := fun h8 => h_9 ((i_lt rfl rfl).mpr h8)
    refine lv_iconst (v := 4) hx hb d_DiscMakerModel_partsInside_22 (by decide) ?_
    have hP9 := hP.sub (ws' := [(h0, .inr (11, MO ma sv_thrown sv_length sv_nodes sv_many sv_directories sv_runsFrom sv_runs sv_read sv_wrong sv_isNamed sv_goes sv_goesSize sv_goesAt sv_targetParts sv_isRoot)), ((ma 16), .inl (cJ, 46080, .inr (.inl G_6))), ((ma 1), .inl (cI, 40, .inl fK)), ((ma 9), .inl (cI, 40, .inl fNS)), ((ma 10), .inl (cB, 8000, .inl fT)), ((ma 11), .inl (cI, 40, .inl fTS)), ((ma 13), .inl (cI, 40, .inl fBs)), ((ma 15), .inl (cI, 40, .inl fEs))]) [2, 3, 4, 5, 6, 7, 0, 1] rfl
    have hD9 := hD.sub (ws' := [(h0, .inr (11, MO ma sv_thrown sv_length sv_nodes sv_many sv_directories sv_runsFrom sv_runs sv_read sv_wrong sv_isNamed sv_goes sv_goesSize sv_goesAt sv_targetParts sv_isRoot)), ((ma 16), .inl (cJ, 46080, .inr (.inl G_6))), ((ma 1), .inl (cI, 40, .inl fK)), ((ma 9), .inl (cI, 40, .inl fNS)), ((ma 10), .inl (cB, 8000, .inl fT)), ((ma 11), .inl (cI, 40, .inl fTS)), ((ma 13), .inl (cI, 40, .inl fBs)), ((ma 15), .inl (cI, 40, .inl fEs))]) [2, 3, 4, 5, 6, 7, 0, 1] (by decide +kernel) rfl
    exact W.iret (v := 4) hx hb hr (fun t ht hW => ⟨⟨4, G_6, rfl, (by (try dsimp only); first | assumption | omega | trivial), by rw [ht]; exact hP9, hD9⟩, hS.F ht⟩) hS.2.2 d_DiscMakerModel_partsInside_23

theorem d_DiscMakerModel_outside_0 : decode b_DiscMakerModel_outside 0 = .ok (.iconst 0, 1) := by decide +kernel
theorem d_DiscMakerModel_outside_1 : decode b_DiscMakerModel_outside 1 = .ok (.istore_n 3, 1) := by decide +kernel
theorem d_DiscMakerModel_outside_2 : decode b_DiscMakerModel_outside 2 = .ok (.aload_n 0, 1) := by decide +kernel
theorem d_DiscMakerModel_outside_3 : decode b_DiscMakerModel_outside 3 = .ok (.iload_n 1, 1) := by decide +kernel
theorem d_DiscMakerModel_outside_4 : decode b_DiscMakerModel_outside 4 = .ok (.iload_n 2, 1) := by decide +kernel
theorem d_DiscMakerModel_outside_5 : decode b_DiscMakerModel_outside 5 = .ok (.invokevirtual 222, 3) := by decide +kernel
theorem d_DiscMakerModel_outside_8 : decode b_DiscMakerModel_outside 8 = .ok (.istore 4, 2) := by decide +kernel
theorem d_DiscMakerModel_outside_10 : decode b_DiscMakerModel_outside 10 = .ok (.iload 4, 2) := by decide +kernel
theorem d_DiscMakerModel_outside_12 : decode b_DiscMakerModel_outside 12 = .ok (.iconst 4, 1) := by decide +kernel
theorem d_DiscMakerModel_outside_13 : decode b_DiscMakerModel_outside 13 = .ok (.if_icmp .ge 20, 3) := by decide +kernel
theorem d_DiscMakerModel_outside_16 : decode b_DiscMakerModel_outside 16 = .ok (.iload_n 3, 1) := by decide +kernel
theorem d_DiscMakerModel_outside_17 : decode b_DiscMakerModel_outside 17 = .ok (.aload_n 0, 1) := by decide +kernel
theorem d_DiscMakerModel_outside_18 : decode b_DiscMakerModel_outside 18 = .ok (.iload 4, 2) := by decide +kernel
theorem d_DiscMakerModel_outside_20 : decode b_DiscMakerModel_outside 20 = .ok (.iload_n 1, 1) := by decide +kernel
theorem d_DiscMakerModel_outside_21 : decode b_DiscMakerModel_outside 21 = .ok (.iload_n 2, 1) := by decide +kernel
theorem d_DiscMakerModel_outside_22 : decode b_DiscMakerModel_outside 22 = .ok (.invokevirtual 213, 3) := by decide +kernel
theorem d_DiscMakerModel_outside_25 : decode b_DiscMakerModel_outside 25 = .ok (.iadd, 1) := by decide +kernel
theorem d_DiscMakerModel_outside_26 : decode b_DiscMakerModel_outside 26 = .ok (.istore_n 3, 1) := by decide +kernel
theorem d_DiscMakerModel_outside_27 : decode b_DiscMakerModel_outside 27 = .ok (.iinc 4 1, 3) := by decide +kernel
theorem d_DiscMakerModel_outside_30 : decode b_DiscMakerModel_outside 30 = .ok (.goto (-20), 3) := by decide +kernel
theorem d_DiscMakerModel_outside_33 : decode b_DiscMakerModel_outside 33 = .ok (.iload_n 3, 1) := by decide +kernel
theorem d_DiscMakerModel_outside_34 : decode b_DiscMakerModel_outside 34 = .ok (.ireturn, 1) := by decide +kernel
set_option maxHeartbeats 4000000 in
set_option maxRecDepth 100000 in
theorem m_outside (l : Launch) (D : va_G) (cB cI cJ cZ cN cF : ClassId) (sz : Nat) (h0 : Nat) (ma : Nat → Nat) (sv_thrown sv_length sv_nodes sv_many sv_directories sv_runsFrom sv_runs sv_read sv_wrong sv_isNamed sv_goes sv_goesSize sv_goesAt sv_targetParts sv_isRoot : Int32) (F : Nat → Int64) (fK : Nat → Int32) (fNS : Nat → Int32) (fT : Nat → Int32) (fTS : Nat → Int32) (fBs : Nat → Int32) (fEs : Nat → Int32) (x : Int32) (y : Int32) (hy0 : 0 ≤ y.toInt ∧ y.toInt < 40) (hKi : Rg 0 2 40 fK) (hNS : Rg 0 30 40 fNS) (hTS : Rg 0 200 40 fTS) (hBs : Rg 0 8 40 fBs) (hEs : Rg 0 3 40 fEs) : Met l y_DiscMakerModel_outside w_DiscMakerModel_outside ({ frames := 6, cells := 0, slots := 0, locals := 148 }) (va_Pc [.ref h0, .int x, .int y] (fun U => U.heap.size = sz ∧ va_P D CL [(h0, .inr (11, MO ma sv_thrown sv_length sv_nodes sv_many sv_directories sv_runsFrom sv_runs sv_read sv_wrong sv_isNamed sv_goes sv_goesSize sv_goesAt sv_targetParts sv_isRoot)), ((ma 16), .inl (cJ, 46080, .inr (.inl F))), ((ma 1), .inl (cI, 40, .inl fK)), ((ma 9), .inl (cI, 40, .inl fNS)), ((ma 10), .inl (cB, 8000, .inl fT)), ((ma 11), .inl (cI, 40, .inl fTS)), ((ma 13), .inl (cI, 40, .inl fBs)), ((ma 15), .inl (cI, 40, .inl fEs))] U.heap ∧ va_K D CL (TY cB cI cJ cZ cN cF) U ∧ NN U ∧ va_D (fun _ => True) [(h0, .inr (11, MO ma sv_thrown sv_length sv_nodes sv_many sv_directories sv_runsFrom sv_runs sv_read sv_wrong sv_isNamed sv_goes sv_goesSize sv_goesAt sv_targetParts sv_isRoot)), ((ma 16), .inl (cJ, 46080, .inr (.inl F))), ((ma 1), .inl (cI, 40, .inl fK)), ((ma 9), .inl (cI, 40, .inl fNS)), ((ma 10), .inl (cB, 8000, .inl fT)), ((ma 11), .inl (cI, 40, .inl fTS)), ((ma 13), .inl (cI, 40, .inl fBs)), ((ma 15), .inl (cI, 40, .inl fEs))])) (va_Qi (fun (r : Int32) (u : (Nat → Int64)) => match u with | G => ((psF fK fNS fT fTS 0 x.toInt y.toNatClampNeg + psF fK fNS fT fTS 1 x.toInt y.toNatClampNeg + psF fK fNS fT fTS 2 x.toInt y.toNatClampNeg + psF fK fNS fT fTS 3 x.toInt y.toNatClampNeg ≤ (254 - (33 + idF fK fNS fBs fEs 0 x.toInt y.toNatClampNeg + (33 + idF fK fNS fBs fEs 0 x.toInt y.toNatClampNeg) % 2)) ∧ r.toInt = 0) ∨ ((254 - (33 + idF fK fNS fBs fEs 0 x.toInt y.toNatClampNeg + (33 + idF fK fNS fBs fEs 0 x.toInt y.toNatClampNeg) % 2)) < psF fK fNS fT fTS 0 x.toInt y.toNatClampNeg + psF fK fNS fT fTS 1 x.toInt y.toNatClampNeg + psF fK fNS fT fTS 2 x.toInt y.toNatClampNeg + psF fK fNS fT fTS 3 x.toInt y.toNatClampNeg ∧ (r.toInt = psF fK fNS fT fTS 0 x.toInt y.toNatClampNeg + psF fK fNS fT fTS 1 x.toInt y.toNatClampNeg + psF fK fNS fT fTS 2 x.toInt y.toNatClampNeg + psF fK fNS fT fTS 3 x.toInt y.toNatClampNeg ∨ (28 + psF fK fNS fT fTS 0 x.toInt y.toNatClampNeg ≤ (254 - (33 + idF fK fNS fBs fEs 0 x.toInt y.toNatClampNeg + (33 + idF fK fNS fBs fEs 0 x.toInt y.toNatClampNeg) % 2)) ∧ r.toInt = psF fK fNS fT fTS 1 x.toInt y.toNatClampNeg + psF fK fNS fT fTS 2 x.toInt y.toNatClampNeg + psF fK fNS fT fTS 3 x.toInt y.toNatClampNeg) ∨ (28 + psF fK fNS fT fTS 0 x.toInt y.toNatClampNeg + psF fK fNS fT fTS 1 x.toInt y.toNatClampNeg ≤ (254 - (33 + idF fK fNS fBs fEs 0 x.toInt y.toNatClampNeg + (33 + idF fK fNS fBs fEs 0 x.toInt y.toNatClampNeg) % 2)) ∧ r.toInt = psF fK fNS fT fTS 2 x.toInt y.toNatClampNeg + psF fK fNS fT fTS 3 x.toInt y.toNatClampNeg) ∨ (28 + psF fK fNS fT fTS 0 x.toInt y.toNatClampNeg + psF fK fNS fT fTS 1 x.toInt y.toNatClampNeg + psF fK fNS fT fTS 2 x.toInt y.toNatClampNeg ≤ (254 - (33 + idF fK fNS fBs fEs 0 x.toInt y.toNatClampNeg + (33 + idF fK fNS fBs fEs 0 x.toInt y.toNatClampNeg) % 2)) ∧ r.toInt = psF fK fNS fT fTS 3 x.toInt y.toNatClampNeg)))) ∧ (0 ≤ r.toInt ∧ r.toInt ≤ 386) ∧ (x.toInt < 2 → r.toInt = 0)) (fun (u : (Nat → Int64)) (t : State) => match u with | G => va_P D CL [(h0, .inr (11, MO ma sv_thrown sv_length sv_nodes sv_many sv_directories sv_runsFrom sv_runs sv_read sv_wrong sv_isNamed sv_goes sv_goesSize sv_goesAt sv_targetParts sv_isRoot)), ((ma 16), .inl (cJ, 46080, .inr (.inl G))), ((ma 1), .inl (cI, 40, .inl fK)), ((ma 9), .inl (cI, 40, .inl fNS)), ((ma 10), .inl (cB, 8000, .inl fT)), ((ma 11), .inl (cI, 40, .inl fTS)), ((ma 13), .inl (cI, 40, .inl fBs)), ((ma 15), .inl (cI, 40, .inl fEs))] t.heap ∧ va_D (va_A [(h0, .inr (11, MO ma sv_thrown sv_length sv_nodes sv_many sv_directories sv_runsFrom sv_runs sv_read sv_wrong sv_isNamed sv_goes sv_goesSize sv_goesAt sv_targetParts sv_isRoot)), ((ma 16), .inl (cJ, 46080, .inr (.inl F))), ((ma 1), .inl (cI, 40, .inl fK)), ((ma 9), .inl (cI, 40, .inl fNS)), ((ma 10), .inl (cB, 8000, .inl fT)), ((ma 11), .inl (cI, 40, .inl fTS)), ((ma 13), .inl (cI, 40, .inl fBs)), ((ma 15), .inl (cI, 40, .inl fEs))] sz) [(h0, .inr (11, MO ma sv_thrown sv_length sv_nodes sv_many sv_directories sv_runsFrom sv_runs sv_read sv_wrong sv_isNamed sv_goes sv_goesSize sv_goesAt sv_targetParts sv_isRoot)), ((ma 16), .inl (cJ, 46080, .inr (.inl G))), ((ma 1), .inl (cI, 40, .inl fK)), ((ma 9), .inl (cI, 40, .inl fNS)), ((ma 10), .inl (cB, 8000, .inl fT)), ((ma 11), .inl (cI, 40, .inl fTS)), ((ma 13), .inl (cI, 40, .inl fBs)), ((ma 15), .inl (cI, 40, .inl fEs))]) (va_A [(h0, .inr (11, MO ma sv_thrown sv_length sv_nodes sv_many sv_directories sv_runsFrom sv_runs sv_read sv_wrong sv_isNamed sv_goes sv_goesSize sv_goesAt sv_targetParts sv_isRoot)), ((ma 16), .inl (cJ, 46080, .inr (.inl F))), ((ma 1), .inl (cI, 40, .inl fK)), ((ma 9), .inl (cI, 40, .inl fNS)), ((ma 10), .inl (cB, 8000, .inl fT)), ((ma 11), .inl (cI, 40, .inl fTS)), ((ma 13), .inl (cI, 40, .inl fBs)), ((ma 15), .inl (cI, 40, .inl fEs))] sz)) 0 0 (va_A [(h0, .inr (11, MO ma sv_thrown sv_length sv_nodes sv_many sv_directories sv_runsFrom sv_runs sv_read sv_wrong sv_isNamed sv_goes sv_goesSize sv_goesAt sv_targetParts sv_isRoot)), ((ma 16), .inl (cJ, 46080, .inr (.inl F))), ((ma 1), .inl (cI, 40, .inl fK)), ((ma 9), .inl (cI, 40, .inl fNS)), ((ma 10), .inl (cB, 8000, .inl fT)), ((ma 11), .inl (cI, 40, .inl fTS)), ((ma 13), .inl (cI, 40, .inl fBs)), ((ma 15), .inl (cI, 40, .inl fEs))] sz) := by
  refine Met.ofW (cc := b_DiscMakerModel_outside) (maxL := 5) (ret := some .int) (by decide) rfl ?_
  intro p e s m args below meth c s₁ B hml hv
  obtain ⟨rfl, hsz, hP, hK, hN, hD0⟩ := hv
  have hx := B.exec
  have hb := B.bytes
  have hr := B.returns
  have hts := atoms_spec (ws := w_DiscMakerModel_outside) B.pre
  have ht9 := fun (w : Cond) (h : w ∈ lw_g) => hts w (List.mem_cons_of_mem _ h)
  have hown : s.vm.findClass "DiscMakerModel" = some m.cls := findClass_of_methodNamed B.named
  have hlocks := B.notSynchronized
  subst hsz
  have hD := hD0.self (sz := s.heap.size)
  generalize hAe : va_A [(h0, .inr (11, MO ma sv_thrown sv_length sv_nodes sv_many sv_directories sv_runsFrom sv_runs sv_read sv_wrong sv_isNamed sv_goes sv_goesSize sv_goesAt sv_targetParts sv_isRoot)), ((ma 16), .inl (cJ, 46080, .inr (.inl F))), ((ma 1), .inl (cI, 40, .inl fK)), ((ma 9), .inl (cI, 40, .inl fNS)), ((ma 10), .inl (cB, 8000, .inl fT)), ((ma 11), .inl (cI, 40, .inl fTS)), ((ma 13), .inl (cI, 40, .inl fBs)), ((ma 15), .inl (cI, 40, .inl fEs))] s.heap.size = A at hD ⊢
  have hA : ∀ q : Nat, s.heap.size ≤ q → A q := fun q h => by rw [← hAe]; exact Or.inr h
  have hS : va_S A s.heap s.heap [] := va_S.rf
  have hP : va_P D CL [(h0, .inr (11, MO ma sv_thrown sv_length sv_nodes sv_many sv_directories sv_runsFrom sv_runs sv_read sv_wrong sv_isNamed sv_goes sv_goesSize sv_goesAt sv_targetParts sv_isRoot)), ((ma 16), .inl (cJ, 46080, .inr (.inl F))), ((ma 1), .inl (cI, 40, .inl fK)), ((ma 9), .inl (cI, 40, .inl fNS)), ((ma 10), .inl (cB, 8000, .inl fT)), ((ma 11), .inl (cI, 40, .inl fTS)), ((ma 13), .inl (cI, 40, .inl fBs)), ((ma 15), .inl (cI, 40, .inl fEs))] s.heap := hP
  have hl := lv_entry [.ref h0, .int x, .int y] (n := 5) (Nat.le_of_ble_eq_true rfl)
  rw [lg_entry_eq]
  generalize (lg_sl [.ref h0, .int x, .int y] ++ List.replicate (5 - (lg_sl [.ref h0, .int x, .int y]).length) Slot.unset).toArray = ls at hl ⊢
  have hl : lv_has ls 5 [(0, .ref h0), (1, .int x), (2, .int y)] := hl
  have L_m1 : ((-1) : Int32).toInt = (-1) := by decide
  have L_0 : (0 : Int32).toInt = 0 := by decide
  have L_1 : (1 : Int32).toInt = 1 := by decide
  have L_4 : (4 : Int32).toInt = 4 := by decide
  have hyc := i_cl (a := y) (by omega)
  have hb0 := psF_le (fK := fK) (fT := fT) 0 x.toInt (hNS y.toNatClampNeg (by omega)) (hTS y.toNatClampNeg (by omega)).2
  have hb1 := psF_le (fK := fK) (fT := fT) 1 x.toInt (hNS y.toNatClampNeg (by omega)) (hTS y.toNatClampNeg (by omega)).2
  have hb2 := psF_le (fK := fK) (fT := fT) 2 x.toInt (hNS y.toNatClampNeg (by omega)) (hTS y.toNatClampNeg (by omega)).2
  have hb3 := psF_le (fK := fK) (fT := fT) 3 x.toInt (hNS y.toNatClampNeg (by omega)) (hTS y.toNatClampNeg (by omega)).2
  have hbb := psF_b (fK := fK) (fT := fT) (fTS := fTS) x.toInt (hNS y.toNatClampNeg (by omega))
  have hib := idF_le (fK := fK) 0 x.toInt (hNS y.toNatClampNeg (by omega)) (hBs y.toNatClampNeg (by omega)) (hEs y.toNatClampNeg (by omega))
  have hlo := fun h => psF_low (fK := fK) (fNS := fNS) (fT := fT) (fTS := fTS) (k := y.toNatClampNeg) (so := x.toInt) h
  have L_2 : (2 : Int32).toInt = 2 := by decide
  have L_3 : (3 : Int32).toInt = 3 := by decide
  refine lv_iconst (v := 0) hx hb d_DiscMakerModel_outside_0 (by decide) ?_
  refine lv_istore_n hx hb d_DiscMakerModel_outside_1 rfl hl (by decide) rfl (fun ls hl => ?_)
  have hl : lv_has ls 5 [(3, .int 0), (0, .ref h0), (1, .int x), (2, .int y)] := hl
  refine lv_aload_n hx hb d_DiscMakerModel_outside_2 rfl (lv_at hl 1 rfl) ?_
  refine lv_iload_n hx hb d_DiscMakerModel_outside_3 rfl (lv_at hl 2 rfl) ?_
  refine lv_iload_n hx hb d_DiscMakerModel_outside_4 rfl (lv_at hl 3 rfl) ?_
  have hPc := hP.sub (ws' := [(h0, .inr (11, MO ma sv_thrown sv_length sv_nodes sv_many sv_directories sv_runsFrom sv_runs sv_read sv_wrong sv_isNamed sv_goes sv_goesSize sv_goesAt sv_targetParts sv_isRoot)), ((ma 16), .inl (cJ, 46080, .inr (.inl F))), ((ma 1), .inl (cI, 40, .inl fK)), ((ma 9), .inl (cI, 40, .inl fNS)), ((ma 10), .inl (cB, 8000, .inl fT)), ((ma 11), .inl (cI, 40, .inl fTS)), ((ma 13), .inl (cI, 40, .inl fBs)), ((ma 15), .inl (cI, 40, .inl fEs))]) [0, 1, 2, 3, 4, 5, 6, 7] rfl
  have hDc := hD.sub (ws' := [(h0, .inr (11, MO ma sv_thrown sv_length sv_nodes sv_many sv_directories sv_runsFrom sv_runs sv_read sv_wrong sv_isNamed sv_goes sv_goesSize sv_goesAt sv_targetParts sv_isRoot)), ((ma 16), .inl (cJ, 46080, .inr (.inl F))), ((ma 1), .inl (cI, 40, .inl fK)), ((ma 9), .inl (cI, 40, .inl fNS)), ((ma 10), .inl (cB, 8000, .inl fT)), ((ma 11), .inl (cI, 40, .inl fTS)), ((ma 13), .inl (cI, 40, .inl fBs)), ((ma 15), .inl (cI, 40, .inl fEs))]) [0, 1, 2, 3, 4, 5, 6, 7] (by decide +kernel) rfl
  have hFc := va_free (wc := [(h0, .inr (11, MO ma sv_thrown sv_length sv_nodes sv_many sv_directories sv_runsFrom sv_runs sv_read sv_wrong sv_isNamed sv_goes sv_goesSize sv_goesAt sv_targetParts sv_isRoot)), ((ma 16), .inl (cJ, 46080, .inr (.inl F))), ((ma 1), .inl (cI, 40, .inl fK)), ((ma 9), .inl (cI, 40, .inl fNS)), ((ma 10), .inl (cB, 8000, .inl fT)), ((ma 11), .inl (cI, 40, .inl fTS)), ((ma 13), .inl (cI, 40, .inl fBs)), ((ma 15), .inl (cI, 40, .inl fEs))]) hD hS hA [0, 1, 2, 3, 4, 5, 6, 7] rfl
  have hkc : 0 ≤ 0 := by decide
  have hks : 0 ≤ 0 := by decide
  refine va_calli (va_runV (C := "DiscMakerModel") (As := [.int x, .int y]) (rest := []) ⟨hx, hb, hml, hown, hts⟩ (m_partsInside l D cB cI cJ cZ cN cF s.heap.size h0 ma sv_thrown sv_length sv_nodes sv_many sv_directories sv_runsFrom sv_runs sv_read sv_wrong sv_isNamed sv_goes sv_goesSize sv_goesAt sv_targetParts sv_isRoot F fK fNS fT fTS fBs fEs x y (by (try dsimp only); first | assumption | omega | trivial) (by (try dsimp only); first | assumption | omega | trivial) (by (try dsimp only); first | assumption | omega | trivial) (by (try dsimp only); first | assumption | omega | trivial) (by (try dsimp only); first | assumption | omega | trivial) (by (try dsimp only); first | assumption | omega | trivial)) (cwV 2 hts (lg_goodV k1707 k1709 k74 k125 kc_DiscMakerModel_partsInside) rfl rfl rfl (by decide +kernel) ⟨Nat.le_of_ble_eq_true rfl, Nat.le_of_ble_eq_true rfl⟩) ⟨fun a U g mk q => by obtain ⟨q0, q1, qP, qK, qN, qD⟩ := q; exact ⟨q0, q1, qP, va_K.moved (u := U) (U := U.calling g mk a) (Vm.Alike.refl U.vm) qK, qN.calling, qD⟩, va_recv hK hP (ci := 11) (q0 := 0) rfl rfl, fun U hU hW => ⟨rfl, by rw [hU], by rw [hU]; exact hPc, va_K.moved hW.alike hK, NN.warm hW hN, hDc.weaken (fun _ _ _ _ => trivial)⟩⟩ rfl rfl hl.1 rfl (lv_room (Nat.le_of_ble_eq_true rfl)) d_DiscMakerModel_outside_5 ⟨hkc, hks⟩) hS (fun q _ h => hFc q h) hFc (fun r1 u t H1 locs ht hvm hp_r1 hB hz1 hk1 hS => ?_)
  obtain ⟨G_2, rfl⟩ : ∃ z, z = u := ⟨_, rfl⟩
  obtain ⟨hP1, hD1⟩ := hB
  rw [ht] at hP1
  obtain ⟨hP, hD⟩ := va_join (wr := []) (w1 := [(h0, .inr (11, MO ma sv_thrown sv_length sv_nodes sv_many sv_directories sv_runsFrom sv_runs sv_read sv_wrong sv_isNamed sv_goes sv_goesSize sv_goesAt sv_targetParts sv_isRoot)), ((ma 16), .inl (cJ, 46080, .inr (.inl G_2))), ((ma 1), .inl (cI, 40, .inl fK)), ((ma 9), .inl (cI, 40, .inl fNS)), ((ma 10), .inl (cB, 8000, .inl fT)), ((ma 11), .inl (cI, 40, .inl fTS)), ((ma 13), .inl (cI, 40, .inl fBs)), ((ma 15), .inl (cI, 40, .inl fEs))]) hP hD [0, 1, 2, 3, 4, 5, 6, 7] [] rfl rfl (by decide +kernel) (by decide +kernel) hk1 hFc hP1 hD1
  clear hPc hDc hFc hP1 hD1 hk1 hz1 hkc hks
  generalize H1 = H at hP hS ⊢
  have hP : va_P D CL [(h0, .inr (11, MO ma sv_thrown sv_length sv_nodes sv_many sv_directories sv_runsFrom sv_runs sv_read sv_wrong sv_isNamed sv_goes sv_goesSize sv_goesAt sv_targetParts sv_isRoot)), ((ma 16), .inl (cJ, 46080, .inr (.inl G_2))), ((ma 1), .inl (cI, 40, .inl fK)), ((ma 9), .inl (cI, 40, .inl fNS)), ((ma 10), .inl (cB, 8000, .inl fT)), ((ma 11), .inl (cI, 40, .inl fTS)), ((ma 13), .inl (cI, 40, .inl fBs)), ((ma 15), .inl (cI, 40, .inl fEs))] H := hP
  have hD : va_D A [(h0, .inr (11, MO ma sv_thrown sv_length sv_nodes sv_many sv_directories sv_runsFrom sv_runs sv_read sv_wrong sv_isNamed sv_goes sv_goesSize sv_goesAt sv_targetParts sv_isRoot)), ((ma 16), .inl (cJ, 46080, .inr (.inl G_2))), ((ma 1), .inl (cI, 40, .inl fK)), ((ma 9), .inl (cI, 40, .inl fNS)), ((ma 10), .inl (cB, 8000, .inl fT)), ((ma 11), .inl (cI, 40, .inl fTS)), ((ma 13), .inl (cI, 40, .inl fBs)), ((ma 15), .inl (cI, 40, .inl fEs))] := hD
  try dsimp only at hp_r1
  have hv_3 := hp_r1
  rcases (show r1.toInt = 0 ∨ r1.toInt = 1 ∨ r1.toInt = 2 ∨ r1.toInt = 3 ∨ r1.toInt = 4 by omega) with h_9 | h_9 | h_9 | h_9 | h_9
  · skip
    have e_9 : r1 = 0 := Int32.toInt_inj.mp (by rw [h_9]; decide)
    subst e_9
    refine lv_istore hx hb d_DiscMakerModel_outside_8 hl (by decide) rfl (fun ls hl => ?_)
    have hl : lv_has ls 5 [(4, .int 0), (3, .int 0), (0, .ref h0), (1, .int x), (2, .int y)] := hl
    refine lv_iload hx hb d_DiscMakerModel_outside_10 (lv_at hl 0 rfl) ?_
    refine lv_iconst (v := 4) hx hb d_DiscMakerModel_outside_12 (by decide) ?_
    refine lv_icmp_ge (tgt := 33) hx hb d_DiscMakerModel_outside_13 (by decide) (fun h_9 => absurd h_9 (by decide)) (fun _ => ?_)
    refine lv_iload_n hx hb d_DiscMakerModel_outside_16 rfl (lv_at hl 1 rfl) ?_
    refine lv_aload_n hx hb d_DiscMakerModel_outside_17 rfl (lv_at hl 2 rfl) ?_
    refine lv_iload hx hb d_DiscMakerModel_outside_18 (lv_at hl 0 rfl) ?_
    refine lv_iload_n hx hb d_DiscMakerModel_outside_20 rfl (lv_at hl 3 rfl) ?_
    refine lv_iload_n hx hb d_DiscMakerModel_outside_21 rfl (lv_at hl 4 rfl) ?_
    have hPc := hP.sub (ws' := [(h0, .inr (11, MO ma sv_thrown sv_length sv_nodes sv_many sv_directories sv_runsFrom sv_runs sv_read sv_wrong sv_isNamed sv_goes sv_goesSize sv_goesAt sv_targetParts sv_isRoot)), ((ma 16), .inl (cJ, 46080, .inr (.inl G_2))), ((ma 1), .inl (cI, 40, .inl fK)), ((ma 9), .inl (cI, 40, .inl fNS)), ((ma 10), .inl (cB, 8000, .inl fT)), ((ma 11), .inl (cI, 40, .inl fTS))]) [0, 1, 2, 3, 4, 5] rfl
    have hDc := hD.sub (ws' := [(h0, .inr (11, MO ma sv_thrown sv_length sv_nodes sv_many sv_directories sv_runsFrom sv_runs sv_read sv_wrong sv_isNamed sv_goes sv_goesSize sv_goesAt sv_targetParts sv_isRoot)), ((ma 16), .inl (cJ, 46080, .inr (.inl G_2))), ((ma 1), .inl (cI, 40, .inl fK)), ((ma 9), .inl (cI, 40, .inl fNS)), ((ma 10), .inl (cB, 8000, .inl fT)), ((ma 11), .inl (cI, 40, .inl fTS))]) [0, 1, 2, 3, 4, 5] (by decide +kernel) rfl
    have hFc := va_free (wc := [(h0, .inr (11, MO ma sv_thrown sv_length sv_nodes sv_many sv_directories sv_runsFrom sv_runs sv_read sv_wrong sv_isNamed sv_goes sv_goesSize sv_goesAt sv_targetParts sv_isRoot)), ((ma 16), .inl (cJ, 46080, .inr (.inl G_2))), ((ma 1), .inl (cI, 40, .inl fK)), ((ma 9), .inl (cI, 40, .inl fNS)), ((ma 10), .inl (cB, 8000, .inl fT)), ((ma 11), .inl (cI, 40, .inl fTS))]) hD hS hA [0, 1, 2, 3, 4, 5] rfl
    have hkc : 0 ≤ 0 := by decide
    have hks : 0 ≤ 0 := by decide
    refine va_calli (va_runV (C := "DiscMakerModel") (As := [.int 0, .int x, .int y]) (rest := [.int 0]) ⟨hx, hb, hml, hown, hts⟩ (m_partSize l D cB cI cJ cZ cN cF H.size h0 ma sv_thrown sv_length sv_nodes sv_many sv_directories sv_runsFrom sv_runs sv_read sv_wrong sv_isNamed sv_goes sv_goesSize sv_goesAt sv_targetParts sv_isRoot G_2 fK fNS fT fTS 0 x y (by (try dsimp only); first | assumption | omega | trivial) (by (try dsimp only); first | assumption | omega | trivial) (by (try dsimp only); first | assumption | omega | trivial) (by (try dsimp only); first | assumption | omega | trivial) (by (try dsimp only); first | assumption | omega | trivial)) (cwV 3 hts (lg_goodV k1715 k1717 k76 k125 kc_DiscMakerModel_partSize) rfl rfl rfl (by decide +kernel) ⟨Nat.le_of_ble_eq_true rfl, Nat.le_of_ble_eq_true rfl⟩) ⟨fun a U g mk q => by obtain ⟨q0, q1, qP, qK, qN, qD⟩ := q; exact ⟨q0, q1, qP, va_K.moved (u := U) (U := U.calling g mk a) (Vm.Alike.refl U.vm) qK, qN.calling, qD⟩, va_recv hK hP (ci := 11) (q0 := 0) rfl rfl, fun U hU hW => ⟨rfl, by rw [hU], by rw [hU]; exact hPc, va_K.moved hW.alike hK, NN.warm hW hN, hDc.weaken (fun _ _ _ _ => trivial)⟩⟩ rfl rfl hl.1 rfl (lv_room (Nat.le_of_ble_eq_true rfl)) d_DiscMakerModel_outside_22 ⟨hkc, hks⟩) hS (fun q _ h => hFc q h) hFc (fun r4 u t H1 locs ht hvm hp_r4 hB hz1 hk1 hS => ?_)
    obtain ⟨G_5, rfl⟩ : ∃ z, z = u := ⟨_, rfl⟩
    obtain ⟨hP1, hD1⟩ := hB
    rw [ht] at hP1
    obtain ⟨hP, hD⟩ := va_join (wr := [((ma 13), .inl (cI, 40, .inl fBs)), ((ma 15), .inl (cI, 40, .inl fEs))]) (w1 := [(h0, .inr (11, MO ma sv_thrown sv_length sv_nodes sv_many sv_directories sv_runsFrom sv_runs sv_read sv_wrong sv_isNamed sv_goes sv_goesSize sv_goesAt sv_targetParts sv_isRoot)), ((ma 16), .inl (cJ, 46080, .inr (.inl G_5))), ((ma 1), .inl (cI, 40, .inl fK)), ((ma 9), .inl (cI, 40, .inl fNS)), ((ma 10), .inl (cB, 8000, .inl fT)), ((ma 11), .inl (cI, 40, .inl fTS))]) hP hD [0, 1, 2, 3, 4, 5] [6, 7] rfl rfl (by decide +kernel) (by decide +kernel) hk1 hFc hP1 hD1
    clear hPc hDc hFc hP1 hD1 hk1 hz1 hkc hks
    generalize H1 = H at hP hS ⊢
    have hP : va_P D CL [((ma 13), .inl (cI, 40, .inl fBs)), ((ma 15), .inl (cI, 40, .inl fEs)), (h0, .inr (11, MO ma sv_thrown sv_length sv_nodes sv_many sv_directories sv_runsFrom sv_runs sv_read sv_wrong sv_isNamed sv_goes sv_goesSize sv_goesAt sv_targetParts sv_isRoot)), ((ma 16), .inl (cJ, 46080, .inr (.inl G_5))), ((ma 1), .inl (cI, 40, .inl fK)), ((ma 9), .inl (cI, 40, .inl fNS)), ((ma 10), .inl (cB, 8000, .inl fT)), ((ma 11), .inl (cI, 40, .inl fTS))] H := hP
    have hD : va_D A [((ma 13), .inl (cI, 40, .inl fBs)), ((ma 15), .inl (cI, 40, .inl fEs)), (h0, .inr (11, MO ma sv_thrown sv_length sv_nodes sv_many sv_directories sv_runsFrom sv_runs sv_read sv_wrong sv_isNamed sv_goes sv_goesSize sv_goesAt sv_targetParts sv_isRoot)), ((ma 16), .inl (cJ, 46080, .inr (.inl G_5))), ((ma 1), .inl (cI, 40, .inl fK)), ((ma 9), .inl (cI, 40, .inl fNS)), ((ma 10), .inl (cB, 8000, .inl fT)), ((ma 11), .inl (cI, 40, .inl fTS))] := hD
    try dsimp only at hp_r4
    obtain ⟨hv_6, hr_7⟩ := hp_r4
    try rw [L_0] at hv_6
    refine lv_iadd hx hb d_DiscMakerModel_outside_25 ?_
    refine lv_topi (fun v8 e_v8 => ?_)
    have t_v8 : v8.toInt = 0 + r4.toInt := by rw [e_v8]; exact i_add (by decide) rfl (by omega) (by omega)
    refine lv_istore_n hx hb d_DiscMakerModel_outside_26 rfl hl (by decide) rfl (fun ls hl => ?_)
    have hl : lv_has ls 5 [(3, .int v8), (4, .int 0), (0, .ref h0), (1, .int x), (2, .int y)] := hl
    refine lv_iinc (v := 1) hx hb d_DiscMakerModel_outside_27 hl (k := 1) rfl (by decide) (by decide +kernel) rfl (fun ls hl => ?_)
    have hl : lv_has ls 5 [(4, .int 1), (3, .int v8), (0, .ref h0), (1, .int x), (2, .int y)] := hl
    refine lv_goto (tgt := 10) hx hb d_DiscMakerModel_outside_30 (by decide) ?_
    refine lv_iload hx hb d_DiscMakerModel_outside_10 (lv_at hl 0 rfl) ?_
    refine lv_iconst (v := 4) hx hb d_DiscMakerModel_outside_12 (by decide) ?_
    refine lv_icmp_ge (tgt := 33) hx hb d_DiscMakerModel_outside_13 (by decide) (fun h_9 => absurd h_9 (by decide)) (fun _ => ?_)
    refine lv_iload_n hx hb d_DiscMakerModel_outside_16 rfl (lv_at hl 1 rfl) ?_
    refine lv_aload_n hx hb d_DiscMakerModel_outside_17 rfl (lv_at hl 2 rfl) ?_
    refine lv_iload hx hb d_DiscMakerModel_outside_18 (lv_at hl 0 rfl) ?_
    refine lv_iload_n hx hb d_DiscMakerModel_outside_20 rfl (lv_at hl 3 rfl) ?_
    refine lv_iload_n hx hb d_DiscMakerModel_outside_21 rfl (lv_at hl 4 rfl) ?_
    have hPc := hP.sub (ws' := [(h0, .inr (11, MO ma sv_thrown sv_length sv_nodes sv_many sv_directories sv_runsFrom sv_runs sv_read sv_wrong sv_isNamed sv_goes sv_goesSize sv_goesAt sv_targetParts sv_isRoot)), ((ma 16), .inl (cJ, 46080, .inr (.inl G_5))), ((ma 1), .inl (cI, 40, .inl fK)), ((ma 9), .inl (cI, 40, .inl fNS)), ((ma 10), .inl (cB, 8000, .inl fT)), ((ma 11), .inl (cI, 40, .inl fTS))]) [2, 3, 4, 5, 6, 7] rfl
    have hDc := hD.sub (ws' := [(h0, .inr (11, MO ma sv_thrown sv_length sv_nodes sv_many sv_directories sv_runsFrom sv_runs sv_read sv_wrong sv_isNamed sv_goes sv_goesSize sv_goesAt sv_targetParts sv_isRoot)), ((ma 16), .inl (cJ, 46080, .inr (.inl G_5))), ((ma 1), .inl (cI, 40, .inl fK)), ((ma 9), .inl (cI, 40, .inl fNS)), ((ma 10), .inl (cB, 8000, .inl fT)), ((ma 11), .inl (cI, 40, .inl fTS))]) [2, 3, 4, 5, 6, 7] (by decide +kernel) rfl
    have hFc := va_free (wc := [(h0, .inr (11, MO ma sv_thrown sv_length sv_nodes sv_many sv_directories sv_runsFrom sv_runs sv_read sv_wrong sv_isNamed sv_goes sv_goesSize sv_goesAt sv_targetParts sv_isRoot)), ((ma 16), .inl (cJ, 46080, .inr (.inl G_5))), ((ma 1), .inl (cI, 40, .inl fK)), ((ma 9), .inl (cI, 40, .inl fNS)), ((ma 10), .inl (cB, 8000, .inl fT)), ((ma 11), .inl (cI, 40, .inl fTS))]) hD hS hA [2, 3, 4, 5, 6, 7] rfl
    have hkc : 0 ≤ 0 := by decide
    have hks : 0 ≤ 0 := by decide
    refine va_calli (va_runV (C := "DiscMakerModel") (As := [.int 1, .int x, .int y]) (rest := [.int v8]) ⟨hx, hb, hml, hown, hts⟩ (m_partSize l D cB cI cJ cZ cN cF H.size h0 ma sv_thrown sv_length sv_nodes sv_many sv_directories sv_runsFrom sv_runs sv_read sv_wrong sv_isNamed sv_goes sv_goesSize sv_goesAt sv_targetParts sv_isRoot G_5 fK fNS fT fTS 1 x y (by (try dsimp only); first | assumption | omega | trivial) (by (try dsimp only); first | assumption | omega | trivial) (by (try dsimp only); first | assumption | omega | trivial) (by (try dsimp only); first | assumption | omega | trivial) (by (try dsimp only); first | assumption | omega | trivial)) (cwV 3 hts (lg_goodV k1715 k1717 k76 k125 kc_DiscMakerModel_partSize) rfl rfl rfl (by decide +kernel) ⟨Nat.le_of_ble_eq_true rfl, Nat.le_of_ble_eq_true rfl⟩) ⟨fun a U g mk q => by obtain ⟨q0, q1, qP, qK, qN, qD⟩ := q; exact ⟨q0, q1, qP, va_K.moved (u := U) (U := U.calling g mk a) (Vm.Alike.refl U.vm) qK, qN.calling, qD⟩, va_recv hK hP (ci := 11) (q0 := 2) rfl rfl, fun U hU hW => ⟨rfl, by rw [hU], by rw [hU]; exact hPc, va_K.moved hW.alike hK, NN.warm hW hN, hDc.weaken (fun _ _ _ _ => trivial)⟩⟩ rfl rfl hl.1 rfl (lv_room (Nat.le_of_ble_eq_true rfl)) d_DiscMakerModel_outside_22 ⟨hkc, hks⟩) hS (fun q _ h => hFc q h) hFc (fun r9 u t H1 locs ht hvm hp_r9 hB hz1 hk1 hS => ?_)
    obtain ⟨G_10, rfl⟩ : ∃ z, z = u := ⟨_, rfl⟩
    obtain ⟨hP1, hD1⟩ := hB
    rw [ht] at hP1
    obtain ⟨hP, hD⟩ := va_join (wr := [((ma 13), .inl (cI, 40, .inl fBs)), ((ma 15), .inl (cI, 40, .inl fEs))]) (w1 := [(h0, .inr (11, MO ma sv_thrown sv_length sv_nodes sv_many sv_directories sv_runsFrom sv_runs sv_read sv_wrong sv_isNamed sv_goes sv_goesSize sv_goesAt sv_targetParts sv_isRoot)), ((ma 16), .inl (cJ, 46080, .inr (.inl G_10))), ((ma 1), .inl (cI, 40, .inl fK)), ((ma 9), .inl (cI, 40, .inl fNS)), ((ma 10), .inl (cB, 8000, .inl fT)), ((ma 11), .inl (cI, 40, .inl fTS))]) hP hD [2, 3, 4, 5, 6, 7] [0, 1] rfl rfl (by decide +kernel) (by decide +kernel) hk1 hFc hP1 hD1
    clear hPc hDc hFc hP1 hD1 hk1 hz1 hkc hks
    generalize H1 = H at hP hS ⊢
    have hP : va_P D CL [((ma 13), .inl (cI, 40, .inl fBs)), ((ma 15), .inl (cI, 40, .inl fEs)), (h0, .inr (11, MO ma sv_thrown sv_length sv_nodes sv_many sv_directories sv_runsFrom sv_runs sv_read sv_wrong sv_isNamed sv_goes sv_goesSize sv_goesAt sv_targetParts sv_isRoot)), ((ma 16), .inl (cJ, 46080, .inr (.inl G_10))), ((ma 1), .inl (cI, 40, .inl fK)), ((ma 9), .inl (cI, 40, .inl fNS)), ((ma 10), .inl (cB, 8000, .inl fT)), ((ma 11), .inl (cI, 40, .inl fTS))] H := hP
    have hD : va_D A [((ma 13), .inl (cI, 40, .inl fBs)), ((ma 15), .inl (cI, 40, .inl fEs)), (h0, .inr (11, MO ma sv_thrown sv_length sv_nodes sv_many sv_directories sv_runsFrom sv_runs sv_read sv_wrong sv_isNamed sv_goes sv_goesSize sv_goesAt sv_targetParts sv_isRoot)), ((ma 16), .inl (cJ, 46080, .inr (.inl G_10))), ((ma 1), .inl (cI, 40, .inl fK)), ((ma 9), .inl (cI, 40, .inl fNS)), ((ma 10), .inl (cB, 8000, .inl fT)), ((ma 11), .inl (cI, 40, .inl fTS))] := hD
    try dsimp only at hp_r9
    obtain ⟨hv_11, hr_12⟩ := hp_r9
    try rw [L_1] at hv_11
    refine lv_iadd hx hb d_DiscMakerModel_outside_25 ?_
    refine lv_topi (fun v13 e_v13 => ?_)
    have t_v13 : v13.toInt = v8.toInt + r9.toInt := by rw [e_v13]; exact i_add rfl rfl (by omega) (by omega)
    refine lv_istore_n hx hb d_DiscMakerModel_outside_26 rfl hl (by decide) rfl (fun ls hl => ?_)
    have hl : lv_has ls 5 [(3, .int v13), (4, .int 1), (0, .ref h0), (1, .int x), (2, .int y)] := hl
    refine lv_iinc (v := 2) hx hb d_DiscMakerModel_outside_27 hl (k := 1) rfl (by decide) (by decide +kernel) rfl (fun ls hl => ?_)
    have L_2 : (2 : Int32).toInt = 2 := by decide
    have hl : lv_has ls 5 [(4, .int 2), (3, .int v13), (0, .ref h0), (1, .int x), (2, .int y)] := hl
    refine lv_goto (tgt := 10) hx hb d_DiscMakerModel_outside_30 (by decide) ?_
    refine lv_iload hx hb d_DiscMakerModel_outside_10 (lv_at hl 0 rfl) ?_
    refine lv_iconst (v := 4) hx hb d_DiscMakerModel_outside_12 (by decide) ?_
    refine lv_icmp_ge (tgt := 33) hx hb d_DiscMakerModel_outside_13 (by decide) (fun h_9 => absurd h_9 (by decide)) (fun _ => ?_)
    refine lv_iload_n hx hb d_DiscMakerModel_outside_16 rfl (lv_at hl 1 rfl) ?_
    refine lv_aload_n hx hb d_DiscMakerModel_outside_17 rfl (lv_at hl 2 rfl) ?_
    refine lv_iload hx hb d_DiscMakerModel_outside_18 (lv_at hl 0 rfl) ?_
    refine lv_iload_n hx hb d_DiscMakerModel_outside_20 rfl (lv_at hl 3 rfl) ?_
    refine lv_iload_n hx hb d_DiscMakerModel_outside_21 rfl (lv_at hl 4 rfl) ?_
    have hPc := hP.sub (ws' := [(h0, .inr (11, MO ma sv_thrown sv_length sv_nodes sv_many sv_directories sv_runsFrom sv_runs sv_read sv_wrong sv_isNamed sv_goes sv_goesSize sv_goesAt sv_targetParts sv_isRoot)), ((ma 16), .inl (cJ, 46080, .inr (.inl G_10))), ((ma 1), .inl (cI, 40, .inl fK)), ((ma 9), .inl (cI, 40, .inl fNS)), ((ma 10), .inl (cB, 8000, .inl fT)), ((ma 11), .inl (cI, 40, .inl fTS))]) [2, 3, 4, 5, 6, 7] rfl
    have hDc := hD.sub (ws' := [(h0, .inr (11, MO ma sv_thrown sv_length sv_nodes sv_many sv_directories sv_runsFrom sv_runs sv_read sv_wrong sv_isNamed sv_goes sv_goesSize sv_goesAt sv_targetParts sv_isRoot)), ((ma 16), .inl (cJ, 46080, .inr (.inl G_10))), ((ma 1), .inl (cI, 40, .inl fK)), ((ma 9), .inl (cI, 40, .inl fNS)), ((ma 10), .inl (cB, 8000, .inl fT)), ((ma 11), .inl (cI, 40, .inl fTS))]) [2, 3, 4, 5, 6, 7] (by decide +kernel) rfl
    have hFc := va_free (wc := [(h0, .inr (11, MO ma sv_thrown sv_length sv_nodes sv_many sv_directories sv_runsFrom sv_runs sv_read sv_wrong sv_isNamed sv_goes sv_goesSize sv_goesAt sv_targetParts sv_isRoot)), ((ma 16), .inl (cJ, 46080, .inr (.inl G_10))), ((ma 1), .inl (cI, 40, .inl fK)), ((ma 9), .inl (cI, 40, .inl fNS)), ((ma 10), .inl (cB, 8000, .inl fT)), ((ma 11), .inl (cI, 40, .inl fTS))]) hD hS hA [2, 3, 4, 5, 6, 7] rfl
    have hkc : 0 ≤ 0 := by decide
    have hks : 0 ≤ 0 := by decide
    refine va_calli (va_runV (C := "DiscMakerModel") (As := [.int 2, .int x, .int y]) (rest := [.int v13]) ⟨hx, hb, hml, hown, hts⟩ (m_partSize l D cB cI cJ cZ cN cF H.size h0 ma sv_thrown sv_length sv_nodes sv_many sv_directories sv_runsFrom sv_runs sv_read sv_wrong sv_isNamed sv_goes sv_goesSize sv_goesAt sv_targetParts sv_isRoot G_10 fK fNS fT fTS 2 x y (by (try dsimp only); first | assumption | omega | trivial) (by (try dsimp only); first | assumption | omega | trivial) (by (try dsimp only); first | assumption | omega | trivial) (by (try dsimp only); first | assumption | omega | trivial) (by (try dsimp only); first | assumption | omega | trivial)) (cwV 3 hts (lg_goodV k1715 k1717 k76 k125 kc_DiscMakerModel_partSize) rfl rfl rfl (by decide +kernel) ⟨Nat.le_of_ble_eq_true rfl, Nat.le_of_ble_eq_true rfl⟩) ⟨fun a U g mk q => by obtain ⟨q0, q1, qP, qK, qN, qD⟩ := q; exact ⟨q0, q1, qP, va_K.moved (u := U) (U := U.calling g mk a) (Vm.Alike.refl U.vm) qK, qN.calling, qD⟩, va_recv hK hP (ci := 11) (q0 := 2) rfl rfl, fun U hU hW => ⟨rfl, by rw [hU], by rw [hU]; exact hPc, va_K.moved hW.alike hK, NN.warm hW hN, hDc.weaken (fun _ _ _ _ => trivial)⟩⟩ rfl rfl hl.1 rfl (lv_room (Nat.le_of_ble_eq_true rfl)) d_DiscMakerModel_outside_22 ⟨hkc, hks⟩) hS (fun q _ h => hFc q h) hFc (fun r14 u t H1 locs ht hvm hp_r14 hB hz1 hk1 hS => ?_)
    obtain ⟨G_15, rfl⟩ : ∃ z, z = u := ⟨_, rfl⟩
    obtain ⟨hP1, hD1⟩ := hB
    rw [ht] at hP1
    obtain ⟨hP, hD⟩ := va_join (wr := [((ma 13), .inl (cI, 40, .inl fBs)), ((ma 15), .inl (cI, 40, .inl fEs))]) (w1 := [(h0, .inr (11, MO ma sv_thrown sv_length sv_nodes sv_many sv_directories sv_runsFrom sv_runs sv_read sv_wrong sv_isNamed sv_goes sv_goesSize sv_goesAt sv_targetParts sv_isRoot)), ((ma 16), .inl (cJ, 46080, .inr (.inl G_15))), ((ma 1), .inl (cI, 40, .inl fK)), ((ma 9), .inl (cI, 40, .inl fNS)), ((ma 10), .inl (cB, 8000, .inl fT)), ((ma 11), .inl (cI, 40, .inl fTS))]) hP hD [2, 3, 4, 5, 6, 7] [0, 1] rfl rfl (by decide +kernel) (by decide +kernel) hk1 hFc hP1 hD1
    clear hPc hDc hFc hP1 hD1 hk1 hz1 hkc hks
    generalize H1 = H at hP hS ⊢
    have hP : va_P D CL [((ma 13), .inl (cI, 40, .inl fBs)), ((ma 15), .inl (cI, 40, .inl fEs)), (h0, .inr (11, MO ma sv_thrown sv_length sv_nodes sv_many sv_directories sv_runsFrom sv_runs sv_read sv_wrong sv_isNamed sv_goes sv_goesSize sv_goesAt sv_targetParts sv_isRoot)), ((ma 16), .inl (cJ, 46080, .inr (.inl G_15))), ((ma 1), .inl (cI, 40, .inl fK)), ((ma 9), .inl (cI, 40, .inl fNS)), ((ma 10), .inl (cB, 8000, .inl fT)), ((ma 11), .inl (cI, 40, .inl fTS))] H := hP
    have hD : va_D A [((ma 13), .inl (cI, 40, .inl fBs)), ((ma 15), .inl (cI, 40, .inl fEs)), (h0, .inr (11, MO ma sv_thrown sv_length sv_nodes sv_many sv_directories sv_runsFrom sv_runs sv_read sv_wrong sv_isNamed sv_goes sv_goesSize sv_goesAt sv_targetParts sv_isRoot)), ((ma 16), .inl (cJ, 46080, .inr (.inl G_15))), ((ma 1), .inl (cI, 40, .inl fK)), ((ma 9), .inl (cI, 40, .inl fNS)), ((ma 10), .inl (cB, 8000, .inl fT)), ((ma 11), .inl (cI, 40, .inl fTS))] := hD
    try dsimp only at hp_r14
    obtain ⟨hv_16, hr_17⟩ := hp_r14
    try rw [L_2] at hv_16
    refine lv_iadd hx hb d_DiscMakerModel_outside_25 ?_
    refine lv_topi (fun v18 e_v18 => ?_)
    have t_v18 : v18.toInt = v13.toInt + r14.toInt := by rw [e_v18]; exact i_add rfl rfl (by omega) (by omega)
    refine lv_istore_n hx hb d_DiscMakerModel_outside_26 rfl hl (by decide) rfl (fun ls hl => ?_)
    have hl : lv_has ls 5 [(3, .int v18), (4, .int 2), (0, .ref h0), (1, .int x), (2, .int y)] := hl
    refine lv_iinc (v := 3) hx hb d_DiscMakerModel_outside_27 hl (k := 1) rfl (by decide) (by decide +kernel) rfl (fun ls hl => ?_)
    have L_3 : (3 : Int32).toInt = 3 := by decide
    have hl : lv_has ls 5 [(4, .int 3), (3, .int v18), (0, .ref h0), (1, .int x), (2, .int y)] := hl
    refine lv_goto (tgt := 10) hx hb d_DiscMakerModel_outside_30 (by decide) ?_
    refine lv_iload hx hb d_DiscMakerModel_outside_10 (lv_at hl 0 rfl) ?_
    refine lv_iconst (v := 4) hx hb d_DiscMakerModel_outside_12 (by decide) ?_
    refine lv_icmp_ge (tgt := 33) hx hb d_DiscMakerModel_outside_13 (by decide) (fun h_9 => absurd h_9 (by decide)) (fun _ => ?_)
    refine lv_iload_n hx hb d_DiscMakerModel_outside_16 rfl (lv_at hl 1 rfl) ?_
    refine lv_aload_n hx hb d_DiscMakerModel_outside_17 rfl (lv_at hl 2 rfl) ?_
    refine lv_iload hx hb d_DiscMakerModel_outside_18 (lv_at hl 0 rfl) ?_
    refine lv_iload_n hx hb d_DiscMakerModel_outside_20 rfl (lv_at hl 3 rfl) ?_
    refine lv_iload_n hx hb d_DiscMakerModel_outside_21 rfl (lv_at hl 4 rfl) ?_
    have hPc := hP.sub (ws' := [(h0, .inr (11, MO ma sv_thrown sv_length sv_nodes sv_many sv_directories sv_runsFrom sv_runs sv_read sv_wrong sv_isNamed sv_goes sv_goesSize sv_goesAt sv_targetParts sv_isRoot)), ((ma 16), .inl (cJ, 46080, .inr (.inl G_15))), ((ma 1), .inl (cI, 40, .inl fK)), ((ma 9), .inl (cI, 40, .inl fNS)), ((ma 10), .inl (cB, 8000, .inl fT)), ((ma 11), .inl (cI, 40, .inl fTS))]) [2, 3, 4, 5, 6, 7] rfl
    have hDc := hD.sub (ws' := [(h0, .inr (11, MO ma sv_thrown sv_length sv_nodes sv_many sv_directories sv_runsFrom sv_runs sv_read sv_wrong sv_isNamed sv_goes sv_goesSize sv_goesAt sv_targetParts sv_isRoot)), ((ma 16), .inl (cJ, 46080, .inr (.inl G_15))), ((ma 1), .inl (cI, 40, .inl fK)), ((ma 9), .inl (cI, 40, .inl fNS)), ((ma 10), .inl (cB, 8000, .inl fT)), ((ma 11), .inl (cI, 40, .inl fTS))]) [2, 3, 4, 5, 6, 7] (by decide +kernel) rfl
    have hFc := va_free (wc := [(h0, .inr (11, MO ma sv_thrown sv_length sv_nodes sv_many sv_directories sv_runsFrom sv_runs sv_read sv_wrong sv_isNamed sv_goes sv_goesSize sv_goesAt sv_targetParts sv_isRoot)), ((ma 16), .inl (cJ, 46080, .inr (.inl G_15))), ((ma 1), .inl (cI, 40, .inl fK)), ((ma 9), .inl (cI, 40, .inl fNS)), ((ma 10), .inl (cB, 8000, .inl fT)), ((ma 11), .inl (cI, 40, .inl fTS))]) hD hS hA [2, 3, 4, 5, 6, 7] rfl
    have hkc : 0 ≤ 0 := by decide
    have hks : 0 ≤ 0 := by decide
    refine va_calli (va_runV (C := "DiscMakerModel") (As := [.int 3, .int x, .int y]) (rest := [.int v18]) ⟨hx, hb, hml, hown, hts⟩ (m_partSize l D cB cI cJ cZ cN cF H.size h0 ma sv_thrown sv_length sv_nodes sv_many sv_directories sv_runsFrom sv_runs sv_read sv_wrong sv_isNamed sv_goes sv_goesSize sv_goesAt sv_targetParts sv_isRoot G_15 fK fNS fT fTS 3 x y (by (try dsimp only); first | assumption | omega | trivial) (by (try dsimp only); first | assumption | omega | trivial) (by (try dsimp only); first | assumption | omega | trivial) (by (try dsimp only); first | assumption | omega | trivial) (by (try dsimp only); first | assumption | omega | trivial)) (cwV 3 hts (lg_goodV k1715 k1717 k76 k125 kc_DiscMakerModel_partSize) rfl rfl rfl (by decide +kernel) ⟨Nat.le_of_ble_eq_true rfl, Nat.le_of_ble_eq_true rfl⟩) ⟨fun a U g mk q => by obtain ⟨q0, q1, qP, qK, qN, qD⟩ := q; exact ⟨q0, q1, qP, va_K.moved (u := U) (U := U.calling g mk a) (Vm.Alike.refl U.vm) qK, qN.calling, qD⟩, va_recv hK hP (ci := 11) (q0 := 2) rfl rfl, fun U hU hW => ⟨rfl, by rw [hU], by rw [hU]; exact hPc, va_K.moved hW.alike hK, NN.warm hW hN, hDc.weaken (fun _ _ _ _ => trivial)⟩⟩ rfl rfl hl.1 rfl (lv_room (Nat.le_of_ble_eq_true rfl)) d_DiscMakerModel_outside_22 ⟨hkc, hks⟩) hS (fun q _ h => hFc q h) hFc (fun r19 u t H1 locs ht hvm hp_r19 hB hz1 hk1 hS => ?_)
    obtain ⟨G_20, rfl⟩ : ∃ z, z = u := ⟨_, rfl⟩
    obtain ⟨hP1, hD1⟩ := hB
    rw [ht] at hP1
    obtain ⟨hP, hD⟩ := va_join (wr := [((ma 13), .inl (cI, 40, .inl fBs)), ((ma 15), .inl (cI, 40, .inl fEs))]) (w1 := [(h0, .inr (11, MO ma sv_thrown sv_length sv_nodes sv_many sv_directories sv_runsFrom sv_runs sv_read sv_wrong sv_isNamed sv_goes sv_goesSize sv_goesAt sv_targetParts sv_isRoot)), ((ma 16), .inl (cJ, 46080, .inr (.inl G_20))), ((ma 1), .inl (cI, 40, .inl fK)), ((ma 9), .inl (cI, 40, .inl fNS)), ((ma 10), .inl (cB, 8000, .inl fT)), ((ma 11), .inl (cI, 40, .inl fTS))]) hP hD [2, 3, 4, 5, 6, 7] [0, 1] rfl rfl (by decide +kernel) (by decide +kernel) hk1 hFc hP1 hD1
    clear hPc hDc hFc hP1 hD1 hk1 hz1 hkc hks
    generalize H1 = H at hP hS ⊢
    have hP : va_P D CL [((ma 13), .inl (cI, 40, .inl fBs)), ((ma 15), .inl (cI, 40, .inl fEs)), (h0, .inr (11, MO ma sv_thrown sv_length sv_nodes sv_many sv_directories sv_runsFrom sv_runs sv_read sv_wrong sv_isNamed sv_goes sv_goesSize sv_goesAt sv_targetParts sv_isRoot)), ((ma 16), .inl (cJ, 46080, .inr (.inl G_20))), ((ma 1), .inl (cI, 40, .inl fK)), ((ma 9), .inl (cI, 40, .inl fNS)), ((ma 10), .inl (cB, 8000, .inl fT)), ((ma 11), .inl (cI, 40, .inl fTS))] H := hP
    have hD : va_D A [((ma 13), .inl (cI, 40, .inl fBs)), ((ma 15), .inl (cI, 40, .inl fEs)), (h0, .inr (11, MO ma sv_thrown sv_length sv_nodes sv_many sv_directories sv_runsFrom sv_runs sv_read sv_wrong sv_isNamed sv_goes sv_goesSize sv_goesAt sv_targetParts sv_isRoot)), ((ma 16), .inl (cJ, 46080, .inr (.inl G_20))), ((ma 1), .inl (cI, 40, .inl fK)), ((ma 9), .inl (cI, 40, .inl fNS)), ((ma 10), .inl (cB, 8000, .inl fT)), ((ma 11), .inl (cI, 40, .inl fTS))] := hD
    try dsimp only at hp_r19
    obtain ⟨hv_21, hr_22⟩ := hp_r19
    try rw [L_3] at hv_21
    refine lv_iadd hx hb d_DiscMakerModel_outside_25 ?_
    refine lv_topi (fun v23 e_v23 => ?_)
    have t_v23 : v23.toInt = v18.toInt + r19.toInt := by rw [e_v23]; exact i_add rfl rfl (by omega) (by omega)
    refine lv_istore_n hx hb d_DiscMakerModel_outside_26 rfl hl (by decide) rfl (fun ls hl => ?_)
    have hl : lv_has ls 5 [(3, .int v23), (4, .int 3), (0, .ref h0), (1, .int x), (2, .int y)] := hl
    refine lv_iinc (v := 4) hx hb d_DiscMakerModel_outside_27 hl (k := 1) rfl (by decide) (by decide +kernel) rfl (fun ls hl => ?_)
    have hl : lv_has ls 5 [(4, .int 4), (3, .int v23), (0, .ref h0), (1, .int x), (2, .int y)] := hl
    refine lv_goto (tgt := 10) hx hb d_DiscMakerModel_outside_30 (by decide) ?_
    refine lv_iload hx hb d_DiscMakerModel_outside_10 (lv_at hl 0 rfl) ?_
    refine lv_iconst (v := 4) hx hb d_DiscMakerModel_outside_12 (by decide) ?_
    refine lv_icmp_ge (tgt := 33) hx hb d_DiscMakerModel_outside_13 (by decide) (fun _ => ?_) (fun h_9 => absurd (by decide) h_9)
    refine lv_iload_n hx hb d_DiscMakerModel_outside_33 rfl (lv_at hl 1 rfl) ?_
    have hP9 := hP.sub (ws' := [(h0, .inr (11, MO ma sv_thrown sv_length sv_nodes sv_many sv_directories sv_runsFrom sv_runs sv_read sv_wrong sv_isNamed sv_goes sv_goesSize sv_goesAt sv_targetParts sv_isRoot)), ((ma 16), .inl (cJ, 46080, .inr (.inl G_20))), ((ma 1), .inl (cI, 40, .inl fK)), ((ma 9), .inl (cI, 40, .inl fNS)), ((ma 10), .inl (cB, 8000, .inl fT)), ((ma 11), .inl (cI, 40, .inl fTS)), ((ma 13), .inl (cI, 40, .inl fBs)), ((ma 15), .inl (cI, 40, .inl fEs))]) [2, 3, 4, 5, 6, 7, 0, 1] rfl
    have hD9 := hD.sub (ws' := [(h0, .inr (11, MO ma sv_thrown sv_length sv_nodes sv_many sv_directories sv_runsFrom sv_runs sv_read sv_wrong sv_isNamed sv_goes sv_goesSize sv_goesAt sv_targetParts sv_isRoot)), ((ma 16), .inl (cJ, 46080, .inr (.inl G_20))), ((ma 1), .inl (cI, 40, .inl fK)), ((ma 9), .inl (cI, 40, .inl fNS)), ((ma 10), .inl (cB, 8000, .inl fT)), ((ma 11), .inl (cI, 40, .inl fTS)), ((ma 13), .inl (cI, 40, .inl fBs)), ((ma 15), .inl (cI, 40, .inl fEs))]) [2, 3, 4, 5, 6, 7, 0, 1] (by decide +kernel) rfl
    exact W.iret (v := v23) hx hb hr (fun t ht hW => ⟨⟨v23, G_20, rfl, ⟨(by (try dsimp only); first | assumption | omega | trivial), (by (try dsimp only); first | assumption | omega | trivial), (by (try dsimp only); intro h9; have := hlo h9; omega)⟩, by rw [ht]; exact hP9, hD9⟩, hS.F ht⟩) hS.2.2 d_DiscMakerModel_outside_34
  · skip
    have e_9 : r1 = 1 := Int32.toInt_inj.mp (by rw [h_9]; decide)
    subst e_9
    refine lv_istore hx hb d_DiscMakerModel_outside_8 hl (by decide) rfl (fun ls hl => ?_)
    have hl : lv_has ls 5 [(4, .int 1), (3, .int 0), (0, .ref h0), (1, .int x), (2, .int y)] := hl
    refine lv_iload hx hb d_DiscMakerModel_outside_10 (lv_at hl 0 rfl) ?_
    refine lv_iconst (v := 4) hx hb d_DiscMakerModel_outside_12 (by decide) ?_
    refine lv_icmp_ge (tgt := 33) hx hb d_DiscMakerModel_outside_13 (by decide) (fun h_9 => absurd h_9 (by decide)) (fun _ => ?_)
    refine lv_iload_n hx hb d_DiscMakerModel_outside_16 rfl (lv_at hl 1 rfl) ?_
    refine lv_aload_n hx hb d_DiscMakerModel_outside_17 rfl (lv_at hl 2 rfl) ?_
    refine lv_iload hx hb d_DiscMakerModel_outside_18 (lv_at hl 0 rfl) ?_
    refine lv_iload_n hx hb d_DiscMakerModel_outside_20 rfl (lv_at hl 3 rfl) ?_
    refine lv_iload_n hx hb d_DiscMakerModel_outside_21 rfl (lv_at hl 4 rfl) ?_
    have hPc := hP.sub (ws' := [(h0, .inr (11, MO ma sv_thrown sv_length sv_nodes sv_many sv_directories sv_runsFrom sv_runs sv_read sv_wrong sv_isNamed sv_goes sv_goesSize sv_goesAt sv_targetParts sv_isRoot)), ((ma 16), .inl (cJ, 46080, .inr (.inl G_2))), ((ma 1), .inl (cI, 40, .inl fK)), ((ma 9), .inl (cI, 40, .inl fNS)), ((ma 10), .inl (cB, 8000, .inl fT)), ((ma 11), .inl (cI, 40, .inl fTS))]) [0, 1, 2, 3, 4, 5] rfl
    have hDc := hD.sub (ws' := [(h0, .inr (11, MO ma sv_thrown sv_length sv_nodes sv_many sv_directories sv_runsFrom sv_runs sv_read sv_wrong sv_isNamed sv_goes sv_goesSize sv_goesAt sv_targetParts sv_isRoot)), ((ma 16), .inl (cJ, 46080, .inr (.inl G_2))), ((ma 1), .inl (cI, 40, .inl fK)), ((ma 9), .inl (cI, 40, .inl fNS)), ((ma 10), .inl (cB, 8000, .inl fT)), ((ma 11), .inl (cI, 40, .inl fTS))]) [0, 1, 2, 3, 4, 5] (by decide +kernel) rfl
    have hFc := va_free (wc := [(h0, .inr (11, MO ma sv_thrown sv_length sv_nodes sv_many sv_directories sv_runsFrom sv_runs sv_read sv_wrong sv_isNamed sv_goes sv_goesSize sv_goesAt sv_targetParts sv_isRoot)), ((ma 16), .inl (cJ, 46080, .inr (.inl G_2))), ((ma 1), .inl (cI, 40, .inl fK)), ((ma 9), .inl (cI, 40, .inl fNS)), ((ma 10), .inl (cB, 8000, .inl fT)), ((ma 11), .inl (cI, 40, .inl fTS))]) hD hS hA [0, 1, 2, 3, 4, 5] rfl
    have hkc : 0 ≤ 0 := by decide
    have hks : 0 ≤ 0 := by decide
    refine va_calli (va_runV (C := "DiscMakerModel") (As := [.int 1, .int x, .int y]) (rest := [.int 0]) ⟨hx, hb, hml, hown, hts⟩ (m_partSize l D cB cI cJ cZ cN cF H.size h0 ma sv_thrown sv_length sv_nodes sv_many sv_directories sv_runsFrom sv_runs sv_read sv_wrong sv_isNamed sv_goes sv_goesSize sv_goesAt sv_targetParts sv_isRoot G_2 fK fNS fT fTS 1 x y (by (try dsimp only); first | assumption | omega | trivial) (by (try dsimp only); first | assumption | omega | trivial) (by (try dsimp only); first | assumption | omega | trivial) (by (try dsimp only); first | assumption | omega | trivial) (by (try dsimp only); first | assumption | omega | trivial)) (cwV 3 hts (lg_goodV k1715 k1717 k76 k125 kc_DiscMakerModel_partSize) rfl rfl rfl (by decide +kernel) ⟨Nat.le_of_ble_eq_true rfl, Nat.le_of_ble_eq_true rfl⟩) ⟨fun a U g mk q => by obtain ⟨q0, q1, qP, qK, qN, qD⟩ := q; exact ⟨q0, q1, qP, va_K.moved (u := U) (U := U.calling g mk a) (Vm.Alike.refl U.vm) qK, qN.calling, qD⟩, va_recv hK hP (ci := 11) (q0 := 0) rfl rfl, fun U hU hW => ⟨rfl, by rw [hU], by rw [hU]; exact hPc, va_K.moved hW.alike hK, NN.warm hW hN, hDc.weaken (fun _ _ _ _ => trivial)⟩⟩ rfl rfl hl.1 rfl (lv_room (Nat.le_of_ble_eq_true rfl)) d_DiscMakerModel_outside_22 ⟨hkc, hks⟩) hS (fun q _ h => hFc q h) hFc (fun r24 u t H1 locs ht hvm hp_r24 hB hz1 hk1 hS => ?_)
    obtain ⟨G_25, rfl⟩ : ∃ z, z = u := ⟨_, rfl⟩
    obtain ⟨hP1, hD1⟩ := hB
    rw [ht] at hP1
    obtain ⟨hP, hD⟩ := va_join (wr := [((ma 13), .inl (cI, 40, .inl fBs)), ((ma 15), .inl (cI, 40, .inl fEs))]) (w1 := [(h0, .inr (11, MO ma sv_thrown sv_length sv_nodes sv_many sv_directories sv_runsFrom sv_runs sv_read sv_wrong sv_isNamed sv_goes sv_goesSize sv_goesAt sv_targetParts sv_isRoot)), ((ma 16), .inl (cJ, 46080, .inr (.inl G_25))), ((ma 1), .inl (cI, 40, .inl fK)), ((ma 9), .inl (cI, 40, .inl fNS)), ((ma 10), .inl (cB, 8000, .inl fT)), ((ma 11), .inl (cI, 40, .inl fTS))]) hP hD [0, 1, 2, 3, 4, 5] [6, 7] rfl rfl (by decide +kernel) (by decide +kernel) hk1 hFc hP1 hD1
    clear hPc hDc hFc hP1 hD1 hk1 hz1 hkc hks
    generalize H1 = H at hP hS ⊢
    have hP : va_P D CL [((ma 13), .inl (cI, 40, .inl fBs)), ((ma 15), .inl (cI, 40, .inl fEs)), (h0, .inr (11, MO ma sv_thrown sv_length sv_nodes sv_many sv_directories sv_runsFrom sv_runs sv_read sv_wrong sv_isNamed sv_goes sv_goesSize sv_goesAt sv_targetParts sv_isRoot)), ((ma 16), .inl (cJ, 46080, .inr (.inl G_25))), ((ma 1), .inl (cI, 40, .inl fK)), ((ma 9), .inl (cI, 40, .inl fNS)), ((ma 10), .inl (cB, 8000, .inl fT)), ((ma 11), .inl (cI, 40, .inl fTS))] H := hP
    have hD : va_D A [((ma 13), .inl (cI, 40, .inl fBs)), ((ma 15), .inl (cI, 40, .inl fEs)), (h0, .inr (11, MO ma sv_thrown sv_length sv_nodes sv_many sv_directories sv_runsFrom sv_runs sv_read sv_wrong sv_isNamed sv_goes sv_goesSize sv_goesAt sv_targetParts sv_isRoot)), ((ma 16), .inl (cJ, 46080, .inr (.inl G_25))), ((ma 1), .inl (cI, 40, .inl fK)), ((ma 9), .inl (cI, 40, .inl fNS)), ((ma 10), .inl (cB, 8000, .inl fT)), ((ma 11), .inl (cI, 40, .inl fTS))] := hD
    try dsimp only at hp_r24
    obtain ⟨hv_26, hr_27⟩ := hp_r24
    try rw [L_1] at hv_26
    refine lv_iadd hx hb d_DiscMakerModel_outside_25 ?_
    refine lv_topi (fun v28 e_v28 => ?_)
    have t_v28 : v28.toInt = 0 + r24.toInt := by rw [e_v28]; exact i_add (by decide) rfl (by omega) (by omega)
    refine lv_istore_n hx hb d_DiscMakerModel_outside_26 rfl hl (by decide) rfl (fun ls hl => ?_)
    have hl : lv_has ls 5 [(3, .int v28), (4, .int 1), (0, .ref h0), (1, .int x), (2, .int y)] := hl
    refine lv_iinc (v := 2) hx hb d_DiscMakerModel_outside_27 hl (k := 1) rfl (by decide) (by decide +kernel) rfl (fun ls hl => ?_)
    have L_2 : (2 : Int32).toInt = 2 := by decide
    have hl : lv_has ls 5 [(4, .int 2), (3, .int v28), (0, .ref h0), (1, .int x), (2, .int y)] := hl
    refine lv_goto (tgt := 10) hx hb d_DiscMakerModel_outside_30 (by decide) ?_
    refine lv_iload hx hb d_DiscMakerModel_outside_10 (lv_at hl 0 rfl) ?_
    refine lv_iconst (v := 4) hx hb d_DiscMakerModel_outside_12 (by decide) ?_
    refine lv_icmp_ge (tgt := 33) hx hb d_DiscMakerModel_outside_13 (by decide) (fun h_9 => absurd h_9 (by decide)) (fun _ => ?_)
    refine lv_iload_n hx hb d_DiscMakerModel_outside_16 rfl (lv_at hl 1 rfl) ?_
    refine lv_aload_n hx hb d_DiscMakerModel_outside_17 rfl (lv_at hl 2 rfl) ?_
    refine lv_iload hx hb d_DiscMakerModel_outside_18 (lv_at hl 0 rfl) ?_
    refine lv_iload_n hx hb d_DiscMakerModel_outside_20 rfl (lv_at hl 3 rfl) ?_
    refine lv_iload_n hx hb d_DiscMakerModel_outside_21 rfl (lv_at hl 4 rfl) ?_
    have hPc := hP.sub (ws' := [(h0, .inr (11, MO ma sv_thrown sv_length sv_nodes sv_many sv_directories sv_runsFrom sv_runs sv_read sv_wrong sv_isNamed sv_goes sv_goesSize sv_goesAt sv_targetParts sv_isRoot)), ((ma 16), .inl (cJ, 46080, .inr (.inl G_25))), ((ma 1), .inl (cI, 40, .inl fK)), ((ma 9), .inl (cI, 40, .inl fNS)), ((ma 10), .inl (cB, 8000, .inl fT)), ((ma 11), .inl (cI, 40, .inl fTS))]) [2, 3, 4, 5, 6, 7] rfl
    have hDc := hD.sub (ws' := [(h0, .inr (11, MO ma sv_thrown sv_length sv_nodes sv_many sv_directories sv_runsFrom sv_runs sv_read sv_wrong sv_isNamed sv_goes sv_goesSize sv_goesAt sv_targetParts sv_isRoot)), ((ma 16), .inl (cJ, 46080, .inr (.inl G_25))), ((ma 1), .inl (cI, 40, .inl fK)), ((ma 9), .inl (cI, 40, .inl fNS)), ((ma 10), .inl (cB, 8000, .inl fT)), ((ma 11), .inl (cI, 40, .inl fTS))]) [2, 3, 4, 5, 6, 7] (by decide +kernel) rfl
    have hFc := va_free (wc := [(h0, .inr (11, MO ma sv_thrown sv_length sv_nodes sv_many sv_directories sv_runsFrom sv_runs sv_read sv_wrong sv_isNamed sv_goes sv_goesSize sv_goesAt sv_targetParts sv_isRoot)), ((ma 16), .inl (cJ, 46080, .inr (.inl G_25))), ((ma 1), .inl (cI, 40, .inl fK)), ((ma 9), .inl (cI, 40, .inl fNS)), ((ma 10), .inl (cB, 8000, .inl fT)), ((ma 11), .inl (cI, 40, .inl fTS))]) hD hS hA [2, 3, 4, 5, 6, 7] rfl
    have hkc : 0 ≤ 0 := by decide
    have hks : 0 ≤ 0 := by decide
    refine va_calli (va_runV (C := "DiscMakerModel") (As := [.int 2, .int x, .int y]) (rest := [.int v28]) ⟨hx, hb, hml, hown, hts⟩ (m_partSize l D cB cI cJ cZ cN cF H.size h0 ma sv_thrown sv_length sv_nodes sv_many sv_directories sv_runsFrom sv_runs sv_read sv_wrong sv_isNamed sv_goes sv_goesSize sv_goesAt sv_targetParts sv_isRoot G_25 fK fNS fT fTS 2 x y (by (try dsimp only); first | assumption | omega | trivial) (by (try dsimp only); first | assumption | omega | trivial) (by (try dsimp only); first | assumption | omega | trivial) (by (try dsimp only); first | assumption | omega | trivial) (by (try dsimp only); first | assumption | omega | trivial)) (cwV 3 hts (lg_goodV k1715 k1717 k76 k125 kc_DiscMakerModel_partSize) rfl rfl rfl (by decide +kernel) ⟨Nat.le_of_ble_eq_true rfl, Nat.le_of_ble_eq_true rfl⟩) ⟨fun a U g mk q => by obtain ⟨q0, q1, qP, qK, qN, qD⟩ := q; exact ⟨q0, q1, qP, va_K.moved (u := U) (U := U.calling g mk a) (Vm.Alike.refl U.vm) qK, qN.calling, qD⟩, va_recv hK hP (ci := 11) (q0 := 2) rfl rfl, fun U hU hW => ⟨rfl, by rw [hU], by rw [hU]; exact hPc, va_K.moved hW.alike hK, NN.warm hW hN, hDc.weaken (fun _ _ _ _ => trivial)⟩⟩ rfl rfl hl.1 rfl (lv_room (Nat.le_of_ble_eq_true rfl)) d_DiscMakerModel_outside_22 ⟨hkc, hks⟩) hS (fun q _ h => hFc q h) hFc (fun r29 u t H1 locs ht hvm hp_r29 hB hz1 hk1 hS => ?_)
    obtain ⟨G_30, rfl⟩ : ∃ z, z = u := ⟨_, rfl⟩
    obtain ⟨hP1, hD1⟩ := hB
    rw [ht] at hP1
    obtain ⟨hP, hD⟩ := va_join (wr := [((ma 13), .inl (cI, 40, .inl fBs)), ((ma 15), .inl (cI, 40, .inl fEs))]) (w1 := [(h0, .inr (11, MO ma sv_thrown sv_length sv_nodes sv_many sv_directories sv_runsFrom sv_runs sv_read sv_wrong sv_isNamed sv_goes sv_goesSize sv_goesAt sv_targetParts sv_isRoot)), ((ma 16), .inl (cJ, 46080, .inr (.inl G_30))), ((ma 1), .inl (cI, 40, .inl fK)), ((ma 9), .inl (cI, 40, .inl fNS)), ((ma 10), .inl (cB, 8000, .inl fT)), ((ma 11), .inl (cI, 40, .inl fTS))]) hP hD [2, 3, 4, 5, 6, 7] [0, 1] rfl rfl (by decide +kernel) (by decide +kernel) hk1 hFc hP1 hD1
    clear hPc hDc hFc hP1 hD1 hk1 hz1 hkc hks
    generalize H1 = H at hP hS ⊢
    have hP : va_P D CL [((ma 13), .inl (cI, 40, .inl fBs)), ((ma 15), .inl (cI, 40, .inl fEs)), (h0, .inr (11, MO ma sv_thrown sv_length sv_nodes sv_many sv_directories sv_runsFrom sv_runs sv_read sv_wrong sv_isNamed sv_goes sv_goesSize sv_goesAt sv_targetParts sv_isRoot)), ((ma 16), .inl (cJ, 46080, .inr (.inl G_30))), ((ma 1), .inl (cI, 40, .inl fK)), ((ma 9), .inl (cI, 40, .inl fNS)), ((ma 10), .inl (cB, 8000, .inl fT)), ((ma 11), .inl (cI, 40, .inl fTS))] H := hP
    have hD : va_D A [((ma 13), .inl (cI, 40, .inl fBs)), ((ma 15), .inl (cI, 40, .inl fEs)), (h0, .inr (11, MO ma sv_thrown sv_length sv_nodes sv_many sv_directories sv_runsFrom sv_runs sv_read sv_wrong sv_isNamed sv_goes sv_goesSize sv_goesAt sv_targetParts sv_isRoot)), ((ma 16), .inl (cJ, 46080, .inr (.inl G_30))), ((ma 1), .inl (cI, 40, .inl fK)), ((ma 9), .inl (cI, 40, .inl fNS)), ((ma 10), .inl (cB, 8000, .inl fT)), ((ma 11), .inl (cI, 40, .inl fTS))] := hD
    try dsimp only at hp_r29
    obtain ⟨hv_31, hr_32⟩ := hp_r29
    try rw [L_2] at hv_31
    refine lv_iadd hx hb d_DiscMakerModel_outside_25 ?_
    refine lv_topi (fun v33 e_v33 => ?_)
    have t_v33 : v33.toInt = v28.toInt + r29.toInt := by rw [e_v33]; exact i_add rfl rfl (by omega) (by omega)
    refine lv_istore_n hx hb d_DiscMakerModel_outside_26 rfl hl (by decide) rfl (fun ls hl => ?_)
    have hl : lv_has ls 5 [(3, .int v33), (4, .int 2), (0, .ref h0), (1, .int x), (2, .int y)] := hl
    refine lv_iinc (v := 3) hx hb d_DiscMakerModel_outside_27 hl (k := 1) rfl (by decide) (by decide +kernel) rfl (fun ls hl => ?_)
    have L_3 : (3 : Int32).toInt = 3 := by decide
    have hl : lv_has ls 5 [(4, .int 3), (3, .int v33), (0, .ref h0), (1, .int x), (2, .int y)] := hl
    refine lv_goto (tgt := 10) hx hb d_DiscMakerModel_outside_30 (by decide) ?_
    refine lv_iload hx hb d_DiscMakerModel_outside_10 (lv_at hl 0 rfl) ?_
    refine lv_iconst (v := 4) hx hb d_DiscMakerModel_outside_12 (by decide) ?_
    refine lv_icmp_ge (tgt := 33) hx hb d_DiscMakerModel_outside_13 (by decide) (fun h_9 => absurd h_9 (by decide)) (fun _ => ?_)
    refine lv_iload_n hx hb d_DiscMakerModel_outside_16 rfl (lv_at hl 1 rfl) ?_
    refine lv_aload_n hx hb d_DiscMakerModel_outside_17 rfl (lv_at hl 2 rfl) ?_
    refine lv_iload hx hb d_DiscMakerModel_outside_18 (lv_at hl 0 rfl) ?_
    refine lv_iload_n hx hb d_DiscMakerModel_outside_20 rfl (lv_at hl 3 rfl) ?_
    refine lv_iload_n hx hb d_DiscMakerModel_outside_21 rfl (lv_at hl 4 rfl) ?_
    have hPc := hP.sub (ws' := [(h0, .inr (11, MO ma sv_thrown sv_length sv_nodes sv_many sv_directories sv_runsFrom sv_runs sv_read sv_wrong sv_isNamed sv_goes sv_goesSize sv_goesAt sv_targetParts sv_isRoot)), ((ma 16), .inl (cJ, 46080, .inr (.inl G_30))), ((ma 1), .inl (cI, 40, .inl fK)), ((ma 9), .inl (cI, 40, .inl fNS)), ((ma 10), .inl (cB, 8000, .inl fT)), ((ma 11), .inl (cI, 40, .inl fTS))]) [2, 3, 4, 5, 6, 7] rfl
    have hDc := hD.sub (ws' := [(h0, .inr (11, MO ma sv_thrown sv_length sv_nodes sv_many sv_directories sv_runsFrom sv_runs sv_read sv_wrong sv_isNamed sv_goes sv_goesSize sv_goesAt sv_targetParts sv_isRoot)), ((ma 16), .inl (cJ, 46080, .inr (.inl G_30))), ((ma 1), .inl (cI, 40, .inl fK)), ((ma 9), .inl (cI, 40, .inl fNS)), ((ma 10), .inl (cB, 8000, .inl fT)), ((ma 11), .inl (cI, 40, .inl fTS))]) [2, 3, 4, 5, 6, 7] (by decide +kernel) rfl
    have hFc := va_free (wc := [(h0, .inr (11, MO ma sv_thrown sv_length sv_nodes sv_many sv_directories sv_runsFrom sv_runs sv_read sv_wrong sv_isNamed sv_goes sv_goesSize sv_goesAt sv_targetParts sv_isRoot)), ((ma 16), .inl (cJ, 46080, .inr (.inl G_30))), ((ma 1), .inl (cI, 40, .inl fK)), ((ma 9), .inl (cI, 40, .inl fNS)), ((ma 10), .inl (cB, 8000, .inl fT)), ((ma 11), .inl (cI, 40, .inl fTS))]) hD hS hA [2, 3, 4, 5, 6, 7] rfl
    have hkc : 0 ≤ 0 := by decide
    have hks : 0 ≤ 0 := by decide
    refine va_calli (va_runV (C := "DiscMakerModel") (As := [.int 3, .int x, .int y]) (rest := [.int v33]) ⟨hx, hb, hml, hown, hts⟩ (m_partSize l D cB cI cJ cZ cN cF H.size h0 ma sv_thrown sv_length sv_nodes sv_many sv_directories sv_runsFrom sv_runs sv_read sv_wrong sv_isNamed sv_goes sv_goesSize sv_goesAt sv_targetParts sv_isRoot G_30 fK fNS fT fTS 3 x y (by (try dsimp only); first | assumption | omega | trivial) (by (try dsimp only); first | assumption | omega | trivial) (by (try dsimp only); first | assumption | omega | trivial) (by (try dsimp only); first | assumption | omega | trivial) (by (try dsimp only); first | assumption | omega | trivial)) (cwV 3 hts (lg_goodV k1715 k1717 k76 k125 kc_DiscMakerModel_partSize) rfl rfl rfl (by decide +kernel) ⟨Nat.le_of_ble_eq_true rfl, Nat.le_of_ble_eq_true rfl⟩) ⟨fun a U g mk q => by obtain ⟨q0, q1, qP, qK, qN, qD⟩ := q; exact ⟨q0, q1, qP, va_K.moved (u := U) (U := U.calling g mk a) (Vm.Alike.refl U.vm) qK, qN.calling, qD⟩, va_recv hK hP (ci := 11) (q0 := 2) rfl rfl, fun U hU hW => ⟨rfl, by rw [hU], by rw [hU]; exact hPc, va_K.moved hW.alike hK, NN.warm hW hN, hDc.weaken (fun _ _ _ _ => trivial)⟩⟩ rfl rfl hl.1 rfl (lv_room (Nat.le_of_ble_eq_true rfl)) d_DiscMakerModel_outside_22 ⟨hkc, hks⟩) hS (fun q _ h => hFc q h) hFc (fun r34 u t H1 locs ht hvm hp_r34 hB hz1 hk1 hS => ?_)
    obtain ⟨G_35, rfl⟩ : ∃ z, z = u := ⟨_, rfl⟩
    obtain ⟨hP1, hD1⟩ := hB
    rw [ht] at hP1
    obtain ⟨hP, hD⟩ := va_join (wr := [((ma 13), .inl (cI, 40, .inl fBs)), ((ma 15), .inl (cI, 40, .inl fEs))]) (w1 := [(h0, .inr (11, MO ma sv_thrown sv_length sv_nodes sv_many sv_directories sv_runsFrom sv_runs sv_read sv_wrong sv_isNamed sv_goes sv_goesSize sv_goesAt sv_targetParts sv_isRoot)), ((ma 16), .inl (cJ, 46080, .inr (.inl G_35))), ((ma 1), .inl (cI, 40, .inl fK)), ((ma 9), .inl (cI, 40, .inl fNS)), ((ma 10), .inl (cB, 8000, .inl fT)), ((ma 11), .inl (cI, 40, .inl fTS))]) hP hD [2, 3, 4, 5, 6, 7] [0, 1] rfl rfl (by decide +kernel) (by decide +kernel) hk1 hFc hP1 hD1
    clear hPc hDc hFc hP1 hD1 hk1 hz1 hkc hks
    generalize H1 = H at hP hS ⊢
    have hP : va_P D CL [((ma 13), .inl (cI, 40, .inl fBs)), ((ma 15), .inl (cI, 40, .inl fEs)), (h0, .inr (11, MO ma sv_thrown sv_length sv_nodes sv_many sv_directories sv_runsFrom sv_runs sv_read sv_wrong sv_isNamed sv_goes sv_goesSize sv_goesAt sv_targetParts sv_isRoot)), ((ma 16), .inl (cJ, 46080, .inr (.inl G_35))), ((ma 1), .inl (cI, 40, .inl fK)), ((ma 9), .inl (cI, 40, .inl fNS)), ((ma 10), .inl (cB, 8000, .inl fT)), ((ma 11), .inl (cI, 40, .inl fTS))] H := hP
    have hD : va_D A [((ma 13), .inl (cI, 40, .inl fBs)), ((ma 15), .inl (cI, 40, .inl fEs)), (h0, .inr (11, MO ma sv_thrown sv_length sv_nodes sv_many sv_directories sv_runsFrom sv_runs sv_read sv_wrong sv_isNamed sv_goes sv_goesSize sv_goesAt sv_targetParts sv_isRoot)), ((ma 16), .inl (cJ, 46080, .inr (.inl G_35))), ((ma 1), .inl (cI, 40, .inl fK)), ((ma 9), .inl (cI, 40, .inl fNS)), ((ma 10), .inl (cB, 8000, .inl fT)), ((ma 11), .inl (cI, 40, .inl fTS))] := hD
    try dsimp only at hp_r34
    obtain ⟨hv_36, hr_37⟩ := hp_r34
    try rw [L_3] at hv_36
    refine lv_iadd hx hb d_DiscMakerModel_outside_25 ?_
    refine lv_topi (fun v38 e_v38 => ?_)
    have t_v38 : v38.toInt = v33.toInt + r34.toInt := by rw [e_v38]; exact i_add rfl rfl (by omega) (by omega)
    refine lv_istore_n hx hb d_DiscMakerModel_outside_26 rfl hl (by decide) rfl (fun ls hl => ?_)
    have hl : lv_has ls 5 [(3, .int v38), (4, .int 3), (0, .ref h0), (1, .int x), (2, .int y)] := hl
    refine lv_iinc (v := 4) hx hb d_DiscMakerModel_outside_27 hl (k := 1) rfl (by decide) (by decide +kernel) rfl (fun ls hl => ?_)
    have hl : lv_has ls 5 [(4, .int 4), (3, .int v38), (0, .ref h0), (1, .int x), (2, .int y)] := hl
    refine lv_goto (tgt := 10) hx hb d_DiscMakerModel_outside_30 (by decide) ?_
    refine lv_iload hx hb d_DiscMakerModel_outside_10 (lv_at hl 0 rfl) ?_
    refine lv_iconst (v := 4) hx hb d_DiscMakerModel_outside_12 (by decide) ?_
    refine lv_icmp_ge (tgt := 33) hx hb d_DiscMakerModel_outside_13 (by decide) (fun _ => ?_) (fun h_9 => absurd (by decide) h_9)
    refine lv_iload_n hx hb d_DiscMakerModel_outside_33 rfl (lv_at hl 1 rfl) ?_
    have hP9 := hP.sub (ws' := [(h0, .inr (11, MO ma sv_thrown sv_length sv_nodes sv_many sv_directories sv_runsFrom sv_runs sv_read sv_wrong sv_isNamed sv_goes sv_goesSize sv_goesAt sv_targetParts sv_isRoot)), ((ma 16), .inl (cJ, 46080, .inr (.inl G_35))), ((ma 1), .inl (cI, 40, .inl fK)), ((ma 9), .inl (cI, 40, .inl fNS)), ((ma 10), .inl (cB, 8000, .inl fT)), ((ma 11), .inl (cI, 40, .inl fTS)), ((ma 13), .inl (cI, 40, .inl fBs)), ((ma 15), .inl (cI, 40, .inl fEs))]) [2, 3, 4, 5, 6, 7, 0, 1] rfl
    have hD9 := hD.sub (ws' := [(h0, .inr (11, MO ma sv_thrown sv_length sv_nodes sv_many sv_directories sv_runsFrom sv_runs sv_read sv_wrong sv_isNamed sv_goes sv_goesSize sv_goesAt sv_targetParts sv_isRoot)), ((ma 16), .inl (cJ, 46080, .inr (.inl G_35))), ((ma 1), .inl (cI, 40, .inl fK)), ((ma 9), .inl (cI, 40, .inl fNS)), ((ma 10), .inl (cB, 8000, .inl fT)), ((ma 11), .inl (cI, 40, .inl fTS)), ((ma 13), .inl (cI, 40, .inl fBs)), ((ma 15), .inl (cI, 40, .inl fEs))]) [2, 3, 4, 5, 6, 7, 0, 1] (by decide +kernel) rfl
    exact W.iret (v := v38) hx hb hr (fun t ht hW => ⟨⟨v38, G_35, rfl, ⟨(by (try dsimp only); first | assumption | omega | trivial), (by (try dsimp only); first | assumption | omega | trivial), (by (try dsimp only); intro h9; have := hlo h9; omega)⟩, by rw [ht]; exact hP9, hD9⟩, hS.F ht⟩) hS.2.2 d_DiscMakerModel_outside_34
  · skip
    have e_9 : r1 = 2 := Int32.toInt_inj.mp (by rw [h_9]; decide)
    subst e_9
    refine lv_istore hx hb d_DiscMakerModel_outside_8 hl (by decide) rfl (fun ls hl => ?_)
    have hl : lv_has ls 5 [(4, .int 2), (3, .int 0), (0, .ref h0), (1, .int x), (2, .int y)] := hl
    refine lv_iload hx hb d_DiscMakerModel_outside_10 (lv_at hl 0 rfl) ?_
    refine lv_iconst (v := 4) hx hb d_DiscMakerModel_outside_12 (by decide) ?_
    refine lv_icmp_ge (tgt := 33) hx hb d_DiscMakerModel_outside_13 (by decide) (fun h_9 => absurd h_9 (by decide)) (fun _ => ?_)
    refine lv_iload_n hx hb d_DiscMakerModel_outside_16 rfl (lv_at hl 1 rfl) ?_
    refine lv_aload_n hx hb d_DiscMakerModel_outside_17 rfl (lv_at hl 2 rfl) ?_
    refine lv_iload hx hb d_DiscMakerModel_outside_18 (lv_at hl 0 rfl) ?_
    refine lv_iload_n hx hb d_DiscMakerModel_outside_20 rfl (lv_at hl 3 rfl) ?_
    refine lv_iload_n hx hb d_DiscMakerModel_outside_21 rfl (lv_at hl 4 rfl) ?_
    have hPc := hP.sub (ws' := [(h0, .inr (11, MO ma sv_thrown sv_length sv_nodes sv_many sv_directories sv_runsFrom sv_runs sv_read sv_wrong sv_isNamed sv_goes sv_goesSize sv_goesAt sv_targetParts sv_isRoot)), ((ma 16), .inl (cJ, 46080, .inr (.inl G_2))), ((ma 1), .inl (cI, 40, .inl fK)), ((ma 9), .inl (cI, 40, .inl fNS)), ((ma 10), .inl (cB, 8000, .inl fT)), ((ma 11), .inl (cI, 40, .inl fTS))]) [0, 1, 2, 3, 4, 5] rfl
    have hDc := hD.sub (ws' := [(h0, .inr (11, MO ma sv_thrown sv_length sv_nodes sv_many sv_directories sv_runsFrom sv_runs sv_read sv_wrong sv_isNamed sv_goes sv_goesSize sv_goesAt sv_targetParts sv_isRoot)), ((ma 16), .inl (cJ, 46080, .inr (.inl G_2))), ((ma 1), .inl (cI, 40, .inl fK)), ((ma 9), .inl (cI, 40, .inl fNS)), ((ma 10), .inl (cB, 8000, .inl fT)), ((ma 11), .inl (cI, 40, .inl fTS))]) [0, 1, 2, 3, 4, 5] (by decide +kernel) rfl
    have hFc := va_free (wc := [(h0, .inr (11, MO ma sv_thrown sv_length sv_nodes sv_many sv_directories sv_runsFrom sv_runs sv_read sv_wrong sv_isNamed sv_goes sv_goesSize sv_goesAt sv_targetParts sv_isRoot)), ((ma 16), .inl (cJ, 46080, .inr (.inl G_2))), ((ma 1), .inl (cI, 40, .inl fK)), ((ma 9), .inl (cI, 40, .inl fNS)), ((ma 10), .inl (cB, 8000, .inl fT)), ((ma 11), .inl (cI, 40, .inl fTS))]) hD hS hA [0, 1, 2, 3, 4, 5] rfl
    have hkc : 0 ≤ 0 := by decide
    have hks : 0 ≤ 0 := by decide
    refine va_calli (va_runV (C := "DiscMakerModel") (As := [.int 2, .int x, .int y]) (rest := [.int 0]) ⟨hx, hb, hml, hown, hts⟩ (m_partSize l D cB cI cJ cZ cN cF H.size h0 ma sv_thrown sv_length sv_nodes sv_many sv_directories sv_runsFrom sv_runs sv_read sv_wrong sv_isNamed sv_goes sv_goesSize sv_goesAt sv_targetParts sv_isRoot G_2 fK fNS fT fTS 2 x y (by (try dsimp only); first | assumption | omega | trivial) (by (try dsimp only); first | assumption | omega | trivial) (by (try dsimp only); first | assumption | omega | trivial) (by (try dsimp only); first | assumption | omega | trivial) (by (try dsimp only); first | assumption | omega | trivial)) (cwV 3 hts (lg_goodV k1715 k1717 k76 k125 kc_DiscMakerModel_partSize) rfl rfl rfl (by decide +kernel) ⟨Nat.le_of_ble_eq_true rfl, Nat.le_of_ble_eq_true rfl⟩) ⟨fun a U g mk q => by obtain ⟨q0, q1, qP, qK, qN, qD⟩ := q; exact ⟨q0, q1, qP, va_K.moved (u := U) (U := U.calling g mk a) (Vm.Alike.refl U.vm) qK, qN.calling, qD⟩, va_recv hK hP (ci := 11) (q0 := 0) rfl rfl, fun U hU hW => ⟨rfl, by rw [hU], by rw [hU]; exact hPc, va_K.moved hW.alike hK, NN.warm hW hN, hDc.weaken (fun _ _ _ _ => trivial)⟩⟩ rfl rfl hl.1 rfl (lv_room (Nat.le_of_ble_eq_true rfl)) d_DiscMakerModel_outside_22 ⟨hkc, hks⟩) hS (fun q _ h => hFc q h) hFc (fun r39 u t H1 locs ht hvm hp_r39 hB hz1 hk1 hS => ?_)
    obtain ⟨G_40, rfl⟩ : ∃ z, z = u := ⟨_, rfl⟩
    obtain ⟨hP1, hD1⟩ := hB
    rw [ht] at hP1
    obtain ⟨hP, hD⟩ := va_join (wr := [((ma 13), .inl (cI, 40, .inl fBs)), ((ma 15), .inl (cI, 40, .inl fEs))]) (w1 := [(h0, .inr (11, MO ma sv_thrown sv_length sv_nodes sv_many sv_directories sv_runsFrom sv_runs sv_read sv_wrong sv_isNamed sv_goes sv_goesSize sv_goesAt sv_targetParts sv_isRoot)), ((ma 16), .inl (cJ, 46080, .inr (.inl G_40))), ((ma 1), .inl (cI, 40, .inl fK)), ((ma 9), .inl (cI, 40, .inl fNS)), ((ma 10), .inl (cB, 8000, .inl fT)), ((ma 11), .inl (cI, 40, .inl fTS))]) hP hD [0, 1, 2, 3, 4, 5] [6, 7] rfl rfl (by decide +kernel) (by decide +kernel) hk1 hFc hP1 hD1
    clear hPc hDc hFc hP1 hD1 hk1 hz1 hkc hks
    generalize H1 = H at hP hS ⊢
    have hP : va_P D CL [((ma 13), .inl (cI, 40, .inl fBs)), ((ma 15), .inl (cI, 40, .inl fEs)), (h0, .inr (11, MO ma sv_thrown sv_length sv_nodes sv_many sv_directories sv_runsFrom sv_runs sv_read sv_wrong sv_isNamed sv_goes sv_goesSize sv_goesAt sv_targetParts sv_isRoot)), ((ma 16), .inl (cJ, 46080, .inr (.inl G_40))), ((ma 1), .inl (cI, 40, .inl fK)), ((ma 9), .inl (cI, 40, .inl fNS)), ((ma 10), .inl (cB, 8000, .inl fT)), ((ma 11), .inl (cI, 40, .inl fTS))] H := hP
    have hD : va_D A [((ma 13), .inl (cI, 40, .inl fBs)), ((ma 15), .inl (cI, 40, .inl fEs)), (h0, .inr (11, MO ma sv_thrown sv_length sv_nodes sv_many sv_directories sv_runsFrom sv_runs sv_read sv_wrong sv_isNamed sv_goes sv_goesSize sv_goesAt sv_targetParts sv_isRoot)), ((ma 16), .inl (cJ, 46080, .inr (.inl G_40))), ((ma 1), .inl (cI, 40, .inl fK)), ((ma 9), .inl (cI, 40, .inl fNS)), ((ma 10), .inl (cB, 8000, .inl fT)), ((ma 11), .inl (cI, 40, .inl fTS))] := hD
    try dsimp only at hp_r39
    obtain ⟨hv_41, hr_42⟩ := hp_r39
    try rw [L_2] at hv_41
    refine lv_iadd hx hb d_DiscMakerModel_outside_25 ?_
    refine lv_topi (fun v43 e_v43 => ?_)
    have t_v43 : v43.toInt = 0 + r39.toInt := by rw [e_v43]; exact i_add (by decide) rfl (by omega) (by omega)
    refine lv_istore_n hx hb d_DiscMakerModel_outside_26 rfl hl (by decide) rfl (fun ls hl => ?_)
    have hl : lv_has ls 5 [(3, .int v43), (4, .int 2), (0, .ref h0), (1, .int x), (2, .int y)] := hl
    refine lv_iinc (v := 3) hx hb d_DiscMakerModel_outside_27 hl (k := 1) rfl (by decide) (by decide +kernel) rfl (fun ls hl => ?_)
    have L_3 : (3 : Int32).toInt = 3 := by decide
    have hl : lv_has ls 5 [(4, .int 3), (3, .int v43), (0, .ref h0), (1, .int x), (2, .int y)] := hl
    refine lv_goto (tgt := 10) hx hb d_DiscMakerModel_outside_30 (by decide) ?_
    refine lv_iload hx hb d_DiscMakerModel_outside_10 (lv_at hl 0 rfl) ?_
    refine lv_iconst (v := 4) hx hb d_DiscMakerModel_outside_12 (by decide) ?_
    refine lv_icmp_ge (tgt := 33) hx hb d_DiscMakerModel_outside_13 (by decide) (fun h_9 => absurd h_9 (by decide)) (fun _ => ?_)
    refine lv_iload_n hx hb d_DiscMakerModel_outside_16 rfl (lv_at hl 1 rfl) ?_
    refine lv_aload_n hx hb d_DiscMakerModel_outside_17 rfl (lv_at hl 2 rfl) ?_
    refine lv_iload hx hb d_DiscMakerModel_outside_18 (lv_at hl 0 rfl) ?_
    refine lv_iload_n hx hb d_DiscMakerModel_outside_20 rfl (lv_at hl 3 rfl) ?_
    refine lv_iload_n hx hb d_DiscMakerModel_outside_21 rfl (lv_at hl 4 rfl) ?_
    have hPc := hP.sub (ws' := [(h0, .inr (11, MO ma sv_thrown sv_length sv_nodes sv_many sv_directories sv_runsFrom sv_runs sv_read sv_wrong sv_isNamed sv_goes sv_goesSize sv_goesAt sv_targetParts sv_isRoot)), ((ma 16), .inl (cJ, 46080, .inr (.inl G_40))), ((ma 1), .inl (cI, 40, .inl fK)), ((ma 9), .inl (cI, 40, .inl fNS)), ((ma 10), .inl (cB, 8000, .inl fT)), ((ma 11), .inl (cI, 40, .inl fTS))]) [2, 3, 4, 5, 6, 7] rfl
    have hDc := hD.sub (ws' := [(h0, .inr (11, MO ma sv_thrown sv_length sv_nodes sv_many sv_directories sv_runsFrom sv_runs sv_read sv_wrong sv_isNamed sv_goes sv_goesSize sv_goesAt sv_targetParts sv_isRoot)), ((ma 16), .inl (cJ, 46080, .inr (.inl G_40))), ((ma 1), .inl (cI, 40, .inl fK)), ((ma 9), .inl (cI, 40, .inl fNS)), ((ma 10), .inl (cB, 8000, .inl fT)), ((ma 11), .inl (cI, 40, .inl fTS))]) [2, 3, 4, 5, 6, 7] (by decide +kernel) rfl
    have hFc := va_free (wc := [(h0, .inr (11, MO ma sv_thrown sv_length sv_nodes sv_many sv_directories sv_runsFrom sv_runs sv_read sv_wrong sv_isNamed sv_goes sv_goesSize sv_goesAt sv_targetParts sv_isRoot)), ((ma 16), .inl (cJ, 46080, .inr (.inl G_40))), ((ma 1), .inl (cI, 40, .inl fK)), ((ma 9), .inl (cI, 40, .inl fNS)), ((ma 10), .inl (cB, 8000, .inl fT)), ((ma 11), .inl (cI, 40, .inl fTS))]) hD hS hA [2, 3, 4, 5, 6, 7] rfl
    have hkc : 0 ≤ 0 := by decide
    have hks : 0 ≤ 0 := by decide
    refine va_calli (va_runV (C := "DiscMakerModel") (As := [.int 3, .int x, .int y]) (rest := [.int v43]) ⟨hx, hb, hml, hown, hts⟩ (m_partSize l D cB cI cJ cZ cN cF H.size h0 ma sv_thrown sv_length sv_nodes sv_many sv_directories sv_runsFrom sv_runs sv_read sv_wrong sv_isNamed sv_goes sv_goesSize sv_goesAt sv_targetParts sv_isRoot G_40 fK fNS fT fTS 3 x y (by (try dsimp only); first | assumption | omega | trivial) (by (try dsimp only); first | assumption | omega | trivial) (by (try dsimp only); first | assumption | omega | trivial) (by (try dsimp only); first | assumption | omega | trivial) (by (try dsimp only); first | assumption | omega | trivial)) (cwV 3 hts (lg_goodV k1715 k1717 k76 k125 kc_DiscMakerModel_partSize) rfl rfl rfl (by decide +kernel) ⟨Nat.le_of_ble_eq_true rfl, Nat.le_of_ble_eq_true rfl⟩) ⟨fun a U g mk q => by obtain ⟨q0, q1, qP, qK, qN, qD⟩ := q; exact ⟨q0, q1, qP, va_K.moved (u := U) (U := U.calling g mk a) (Vm.Alike.refl U.vm) qK, qN.calling, qD⟩, va_recv hK hP (ci := 11) (q0 := 2) rfl rfl, fun U hU hW => ⟨rfl, by rw [hU], by rw [hU]; exact hPc, va_K.moved hW.alike hK, NN.warm hW hN, hDc.weaken (fun _ _ _ _ => trivial)⟩⟩ rfl rfl hl.1 rfl (lv_room (Nat.le_of_ble_eq_true rfl)) d_DiscMakerModel_outside_22 ⟨hkc, hks⟩) hS (fun q _ h => hFc q h) hFc (fun r44 u t H1 locs ht hvm hp_r44 hB hz1 hk1 hS => ?_)
    obtain ⟨G_45, rfl⟩ : ∃ z, z = u := ⟨_, rfl⟩
    obtain ⟨hP1, hD1⟩ := hB
    rw [ht] at hP1
    obtain ⟨hP, hD⟩ := va_join (wr := [((ma 13), .inl (cI, 40, .inl fBs)), ((ma 15), .inl (cI, 40, .inl fEs))]) (w1 := [(h0, .inr (11, MO ma sv_thrown sv_length sv_nodes sv_many sv_directories sv_runsFrom sv_runs sv_read sv_wrong sv_isNamed sv_goes sv_goesSize sv_goesAt sv_targetParts sv_isRoot)), ((ma 16), .inl (cJ, 46080, .inr (.inl G_45))), ((ma 1), .inl (cI, 40, .inl fK)), ((ma 9), .inl (cI, 40, .inl fNS)), ((ma 10), .inl (cB, 8000, .inl fT)), ((ma 11), .inl (cI, 40, .inl fTS))]) hP hD [2, 3, 4, 5, 6, 7] [0, 1] rfl rfl (by decide +kernel) (by decide +kernel) hk1 hFc hP1 hD1
    clear hPc hDc hFc hP1 hD1 hk1 hz1 hkc hks
    generalize H1 = H at hP hS ⊢
    have hP : va_P D CL [((ma 13), .inl (cI, 40, .inl fBs)), ((ma 15), .inl (cI, 40, .inl fEs)), (h0, .inr (11, MO ma sv_thrown sv_length sv_nodes sv_many sv_directories sv_runsFrom sv_runs sv_read sv_wrong sv_isNamed sv_goes sv_goesSize sv_goesAt sv_targetParts sv_isRoot)), ((ma 16), .inl (cJ, 46080, .inr (.inl G_45))), ((ma 1), .inl (cI, 40, .inl fK)), ((ma 9), .inl (cI, 40, .inl fNS)), ((ma 10), .inl (cB, 8000, .inl fT)), ((ma 11), .inl (cI, 40, .inl fTS))] H := hP
    have hD : va_D A [((ma 13), .inl (cI, 40, .inl fBs)), ((ma 15), .inl (cI, 40, .inl fEs)), (h0, .inr (11, MO ma sv_thrown sv_length sv_nodes sv_many sv_directories sv_runsFrom sv_runs sv_read sv_wrong sv_isNamed sv_goes sv_goesSize sv_goesAt sv_targetParts sv_isRoot)), ((ma 16), .inl (cJ, 46080, .inr (.inl G_45))), ((ma 1), .inl (cI, 40, .inl fK)), ((ma 9), .inl (cI, 40, .inl fNS)), ((ma 10), .inl (cB, 8000, .inl fT)), ((ma 11), .inl (cI, 40, .inl fTS))] := hD
    try dsimp only at hp_r44
    obtain ⟨hv_46, hr_47⟩ := hp_r44
    try rw [L_3] at hv_46
    refine lv_iadd hx hb d_DiscMakerModel_outside_25 ?_
    refine lv_topi (fun v48 e_v48 => ?_)
    have t_v48 : v48.toInt = v43.toInt + r44.toInt := by rw [e_v48]; exact i_add rfl rfl (by omega) (by omega)
    refine lv_istore_n hx hb d_DiscMakerModel_outside_26 rfl hl (by decide) rfl (fun ls hl => ?_)
    have hl : lv_has ls 5 [(3, .int v48), (4, .int 3), (0, .ref h0), (1, .int x), (2, .int y)] := hl
    refine lv_iinc (v := 4) hx hb d_DiscMakerModel_outside_27 hl (k := 1) rfl (by decide) (by decide +kernel) rfl (fun ls hl => ?_)
    have hl : lv_has ls 5 [(4, .int 4), (3, .int v48), (0, .ref h0), (1, .int x), (2, .int y)] := hl
    refine lv_goto (tgt := 10) hx hb d_DiscMakerModel_outside_30 (by decide) ?_
    refine lv_iload hx hb d_DiscMakerModel_outside_10 (lv_at hl 0 rfl) ?_
    refine lv_iconst (v := 4) hx hb d_DiscMakerModel_outside_12 (by decide) ?_
    refine lv_icmp_ge (tgt := 33) hx hb d_DiscMakerModel_outside_13 (by decide) (fun _ => ?_) (fun h_9 => absurd (by decide) h_9)
    refine lv_iload_n hx hb d_DiscMakerModel_outside_33 rfl (lv_at hl 1 rfl) ?_
    have hP9 := hP.sub (ws' := [(h0, .inr (11, MO ma sv_thrown sv_length sv_nodes sv_many sv_directories sv_runsFrom sv_runs sv_read sv_wrong sv_isNamed sv_goes sv_goesSize sv_goesAt sv_targetParts sv_isRoot)), ((ma 16), .inl (cJ, 46080, .inr (.inl G_45))), ((ma 1), .inl (cI, 40, .inl fK)), ((ma 9), .inl (cI, 40, .inl fNS)), ((ma 10), .inl (cB, 8000, .inl fT)), ((ma 11), .inl (cI, 40, .inl fTS)), ((ma 13), .inl (cI, 40, .inl fBs)), ((ma 15), .inl (cI, 40, .inl fEs))]) [2, 3, 4, 5, 6, 7, 0, 1] rfl
    have hD9 := hD.sub (ws' := [(h0, .inr (11, MO ma sv_thrown sv_length sv_nodes sv_many sv_directories sv_runsFrom sv_runs sv_read sv_wrong sv_isNamed sv_goes sv_goesSize sv_goesAt sv_targetParts sv_isRoot)), ((ma 16), .inl (cJ, 46080, .inr (.inl G_45))), ((ma 1), .inl (cI, 40, .inl fK)), ((ma 9), .inl (cI, 40, .inl fNS)), ((ma 10), .inl (cB, 8000, .inl fT)), ((ma 11), .inl (cI, 40, .inl fTS)), ((ma 13), .inl (cI, 40, .inl fBs)), ((ma 15), .inl (cI, 40, .inl fEs))]) [2, 3, 4, 5, 6, 7, 0, 1] (by decide +kernel) rfl
    exact W.iret (v := v48) hx hb hr (fun t ht hW => ⟨⟨v48, G_45, rfl, ⟨(by (try dsimp only); first | assumption | omega | trivial), (by (try dsimp only); first | assumption | omega | trivial), (by (try dsimp only); intro h9; have := hlo h9; omega)⟩, by rw [ht]; exact hP9, hD9⟩, hS.F ht⟩) hS.2.2 d_DiscMakerModel_outside_34
  · skip
    have e_9 : r1 = 3 := Int32.toInt_inj.mp (by rw [h_9]; decide)
    subst e_9
    refine lv_istore hx hb d_DiscMakerModel_outside_8 hl (by decide) rfl (fun ls hl => ?_)
    have hl : lv_has ls 5 [(4, .int 3), (3, .int 0), (0, .ref h0), (1, .int x), (2, .int y)] := hl
    refine lv_iload hx hb d_DiscMakerModel_outside_10 (lv_at hl 0 rfl) ?_
    refine lv_iconst (v := 4) hx hb d_DiscMakerModel_outside_12 (by decide) ?_
    refine lv_icmp_ge (tgt := 33) hx hb d_DiscMakerModel_outside_13 (by decide) (fun h_9 => absurd h_9 (by decide)) (fun _ => ?_)
    refine lv_iload_n hx hb d_DiscMakerModel_outside_16 rfl (lv_at hl 1 rfl) ?_
    refine lv_aload_n hx hb d_DiscMakerModel_outside_17 rfl (lv_at hl 2 rfl) ?_
    refine lv_iload hx hb d_DiscMakerModel_outside_18 (lv_at hl 0 rfl) ?_
    refine lv_iload_n hx hb d_DiscMakerModel_outside_20 rfl (lv_at hl 3 rfl) ?_
    refine lv_iload_n hx hb d_DiscMakerModel_outside_21 rfl (lv_at hl 4 rfl) ?_
    have hPc := hP.sub (ws' := [(h0, .inr (11, MO ma sv_thrown sv_length sv_nodes sv_many sv_directories sv_runsFrom sv_runs sv_read sv_wrong sv_isNamed sv_goes sv_goesSize sv_goesAt sv_targetParts sv_isRoot)), ((ma 16), .inl (cJ, 46080, .inr (.inl G_2))), ((ma 1), .inl (cI, 40, .inl fK)), ((ma 9), .inl (cI, 40, .inl fNS)), ((ma 10), .inl (cB, 8000, .inl fT)), ((ma 11), .inl (cI, 40, .inl fTS))]) [0, 1, 2, 3, 4, 5] rfl
    have hDc := hD.sub (ws' := [(h0, .inr (11, MO ma sv_thrown sv_length sv_nodes sv_many sv_directories sv_runsFrom sv_runs sv_read sv_wrong sv_isNamed sv_goes sv_goesSize sv_goesAt sv_targetParts sv_isRoot)), ((ma 16), .inl (cJ, 46080, .inr (.inl G_2))), ((ma 1), .inl (cI, 40, .inl fK)), ((ma 9), .inl (cI, 40, .inl fNS)), ((ma 10), .inl (cB, 8000, .inl fT)), ((ma 11), .inl (cI, 40, .inl fTS))]) [0, 1, 2, 3, 4, 5] (by decide +kernel) rfl
    have hFc := va_free (wc := [(h0, .inr (11, MO ma sv_thrown sv_length sv_nodes sv_many sv_directories sv_runsFrom sv_runs sv_read sv_wrong sv_isNamed sv_goes sv_goesSize sv_goesAt sv_targetParts sv_isRoot)), ((ma 16), .inl (cJ, 46080, .inr (.inl G_2))), ((ma 1), .inl (cI, 40, .inl fK)), ((ma 9), .inl (cI, 40, .inl fNS)), ((ma 10), .inl (cB, 8000, .inl fT)), ((ma 11), .inl (cI, 40, .inl fTS))]) hD hS hA [0, 1, 2, 3, 4, 5] rfl
    have hkc : 0 ≤ 0 := by decide
    have hks : 0 ≤ 0 := by decide
    refine va_calli (va_runV (C := "DiscMakerModel") (As := [.int 3, .int x, .int y]) (rest := [.int 0]) ⟨hx, hb, hml, hown, hts⟩ (m_partSize l D cB cI cJ cZ cN cF H.size h0 ma sv_thrown sv_length sv_nodes sv_many sv_directories sv_runsFrom sv_runs sv_read sv_wrong sv_isNamed sv_goes sv_goesSize sv_goesAt sv_targetParts sv_isRoot G_2 fK fNS fT fTS 3 x y (by (try dsimp only); first | assumption | omega | trivial) (by (try dsimp only); first | assumption | omega | trivial) (by (try dsimp only); first | assumption | omega | trivial) (by (try dsimp only); first | assumption | omega | trivial) (by (try dsimp only); first | assumption | omega | trivial)) (cwV 3 hts (lg_goodV k1715 k1717 k76 k125 kc_DiscMakerModel_partSize) rfl rfl rfl (by decide +kernel) ⟨Nat.le_of_ble_eq_true rfl, Nat.le_of_ble_eq_true rfl⟩) ⟨fun a U g mk q => by obtain ⟨q0, q1, qP, qK, qN, qD⟩ := q; exact ⟨q0, q1, qP, va_K.moved (u := U) (U := U.calling g mk a) (Vm.Alike.refl U.vm) qK, qN.calling, qD⟩, va_recv hK hP (ci := 11) (q0 := 0) rfl rfl, fun U hU hW => ⟨rfl, by rw [hU], by rw [hU]; exact hPc, va_K.moved hW.alike hK, NN.warm hW hN, hDc.weaken (fun _ _ _ _ => trivial)⟩⟩ rfl rfl hl.1 rfl (lv_room (Nat.le_of_ble_eq_true rfl)) d_DiscMakerModel_outside_22 ⟨hkc, hks⟩) hS (fun q _ h => hFc q h) hFc (fun r49 u t H1 locs ht hvm hp_r49 hB hz1 hk1 hS => ?_)
    obtain ⟨G_50, rfl⟩ : ∃ z, z = u := ⟨_, rfl⟩
    obtain ⟨hP1, hD1⟩ := hB
    rw [ht] at hP1
    obtain ⟨hP, hD⟩ := va_join (wr := [((ma 13), .inl (cI, 40, .inl fBs)), ((ma 15), .inl (cI, 40, .inl fEs))]) (w1 := [(h0, .inr (11, MO ma sv_thrown sv_length sv_nodes sv_many sv_directories sv_runsFrom sv_runs sv_read sv_wrong sv_isNamed sv_goes sv_goesSize sv_goesAt sv_targetParts sv_isRoot)), ((ma 16), .inl (cJ, 46080, .inr (.inl G_50))), ((ma 1), .inl (cI, 40, .inl fK)), ((ma 9), .inl (cI, 40, .inl fNS)), ((ma 10), .inl (cB, 8000, .inl fT)), ((ma 11), .inl (cI, 40, .inl fTS))]) hP hD [0, 1, 2, 3, 4, 5] [6, 7] rfl rfl (by decide +kernel) (by decide +kernel) hk1 hFc hP1 hD1
    clear hPc hDc hFc hP1 hD1 hk1 hz1 hkc hks
    generalize H1 = H at hP hS ⊢
    have hP : va_P D CL [((ma 13), .inl (cI, 40, .inl fBs)), ((ma 15), .inl (cI, 40, .inl fEs)), (h0, .inr (11, MO ma sv_thrown sv_length sv_nodes sv_many sv_directories sv_runsFrom sv_runs sv_read sv_wrong sv_isNamed sv_goes sv_goesSize sv_goesAt sv_targetParts sv_isRoot)), ((ma 16), .inl (cJ, 46080, .inr (.inl G_50))), ((ma 1), .inl (cI, 40, .inl fK)), ((ma 9), .inl (cI, 40, .inl fNS)), ((ma 10), .inl (cB, 8000, .inl fT)), ((ma 11), .inl (cI, 40, .inl fTS))] H := hP
    have hD : va_D A [((ma 13), .inl (cI, 40, .inl fBs)), ((ma 15), .inl (cI, 40, .inl fEs)), (h0, .inr (11, MO ma sv_thrown sv_length sv_nodes sv_many sv_directories sv_runsFrom sv_runs sv_read sv_wrong sv_isNamed sv_goes sv_goesSize sv_goesAt sv_targetParts sv_isRoot)), ((ma 16), .inl (cJ, 46080, .inr (.inl G_50))), ((ma 1), .inl (cI, 40, .inl fK)), ((ma 9), .inl (cI, 40, .inl fNS)), ((ma 10), .inl (cB, 8000, .inl fT)), ((ma 11), .inl (cI, 40, .inl fTS))] := hD
    try dsimp only at hp_r49
    obtain ⟨hv_51, hr_52⟩ := hp_r49
    try rw [L_3] at hv_51
    refine lv_iadd hx hb d_DiscMakerModel_outside_25 ?_
    refine lv_topi (fun v53 e_v53 => ?_)
    have t_v53 : v53.toInt = 0 + r49.toInt := by rw [e_v53]; exact i_add (by decide) rfl (by omega) (by omega)
    refine lv_istore_n hx hb d_DiscMakerModel_outside_26 rfl hl (by decide) rfl (fun ls hl => ?_)
    have hl : lv_has ls 5 [(3, .int v53), (4, .int 3), (0, .ref h0), (1, .int x), (2, .int y)] := hl
    refine lv_iinc (v := 4) hx hb d_DiscMakerModel_outside_27 hl (k := 1) rfl (by decide) (by decide +kernel) rfl (fun ls hl => ?_)
    have hl : lv_has ls 5 [(4, .int 4), (3, .int v53), (0, .ref h0), (1, .int x), (2, .int y)] := hl
    refine lv_goto (tgt := 10) hx hb d_DiscMakerModel_outside_30 (by decide) ?_
    refine lv_iload hx hb d_DiscMakerModel_outside_10 (lv_at hl 0 rfl) ?_
    refine lv_iconst (v := 4) hx hb d_DiscMakerModel_outside_12 (by decide) ?_
    refine lv_icmp_ge (tgt := 33) hx hb d_DiscMakerModel_outside_13 (by decide) (fun _ => ?_) (fun h_9 => absurd (by decide) h_9)
    refine lv_iload_n hx hb d_DiscMakerModel_outside_33 rfl (lv_at hl 1 rfl) ?_
    have hP9 := hP.sub (ws' := [(h0, .inr (11, MO ma sv_thrown sv_length sv_nodes sv_many sv_directories sv_runsFrom sv_runs sv_read sv_wrong sv_isNamed sv_goes sv_goesSize sv_goesAt sv_targetParts sv_isRoot)), ((ma 16), .inl (cJ, 46080, .inr (.inl G_50))), ((ma 1), .inl (cI, 40, .inl fK)), ((ma 9), .inl (cI, 40, .inl fNS)), ((ma 10), .inl (cB, 8000, .inl fT)), ((ma 11), .inl (cI, 40, .inl fTS)), ((ma 13), .inl (cI, 40, .inl fBs)), ((ma 15), .inl (cI, 40, .inl fEs))]) [2, 3, 4, 5, 6, 7, 0, 1] rfl
    have hD9 := hD.sub (ws' := [(h0, .inr (11, MO ma sv_thrown sv_length sv_nodes sv_many sv_directories sv_runsFrom sv_runs sv_read sv_wrong sv_isNamed sv_goes sv_goesSize sv_goesAt sv_targetParts sv_isRoot)), ((ma 16), .inl (cJ, 46080, .inr (.inl G_50))), ((ma 1), .inl (cI, 40, .inl fK)), ((ma 9), .inl (cI, 40, .inl fNS)), ((ma 10), .inl (cB, 8000, .inl fT)), ((ma 11), .inl (cI, 40, .inl fTS)), ((ma 13), .inl (cI, 40, .inl fBs)), ((ma 15), .inl (cI, 40, .inl fEs))]) [2, 3, 4, 5, 6, 7, 0, 1] (by decide +kernel) rfl
    exact W.iret (v := v53) hx hb hr (fun t ht hW => ⟨⟨v53, G_50, rfl, ⟨(by (try dsimp only); first | assumption | omega | trivial), (by (try dsimp only); first | assumption | omega | trivial), (by (try dsimp only); intro h9; have := hlo h9; omega)⟩, by rw [ht]; exact hP9, hD9⟩, hS.F ht⟩) hS.2.2 d_DiscMakerModel_outside_34
  · skip
    have e_9 : r1 = 4 := Int32.toInt_inj.mp (by rw [h_9]; decide)
    subst e_9
    refine lv_istore hx hb d_DiscMakerModel_outside_8 hl (by decide) rfl (fun ls hl => ?_)
    have hl : lv_has ls 5 [(4, .int 4), (3, .int 0), (0, .ref h0), (1, .int x), (2, .int y)] := hl
    refine lv_iload hx hb d_DiscMakerModel_outside_10 (lv_at hl 0 rfl) ?_
    refine lv_iconst (v := 4) hx hb d_DiscMakerModel_outside_12 (by decide) ?_
    refine lv_icmp_ge (tgt := 33) hx hb d_DiscMakerModel_outside_13 (by decide) (fun _ => ?_) (fun h_9 => absurd (by decide) h_9)
    refine lv_iload_n hx hb d_DiscMakerModel_outside_33 rfl (lv_at hl 1 rfl) ?_
    have hP9 := hP.sub (ws' := [(h0, .inr (11, MO ma sv_thrown sv_length sv_nodes sv_many sv_directories sv_runsFrom sv_runs sv_read sv_wrong sv_isNamed sv_goes sv_goesSize sv_goesAt sv_targetParts sv_isRoot)), ((ma 16), .inl (cJ, 46080, .inr (.inl G_2))), ((ma 1), .inl (cI, 40, .inl fK)), ((ma 9), .inl (cI, 40, .inl fNS)), ((ma 10), .inl (cB, 8000, .inl fT)), ((ma 11), .inl (cI, 40, .inl fTS)), ((ma 13), .inl (cI, 40, .inl fBs)), ((ma 15), .inl (cI, 40, .inl fEs))]) [0, 1, 2, 3, 4, 5, 6, 7] rfl
    have hD9 := hD.sub (ws' := [(h0, .inr (11, MO ma sv_thrown sv_length sv_nodes sv_many sv_directories sv_runsFrom sv_runs sv_read sv_wrong sv_isNamed sv_goes sv_goesSize sv_goesAt sv_targetParts sv_isRoot)), ((ma 16), .inl (cJ, 46080, .inr (.inl G_2))), ((ma 1), .inl (cI, 40, .inl fK)), ((ma 9), .inl (cI, 40, .inl fNS)), ((ma 10), .inl (cB, 8000, .inl fT)), ((ma 11), .inl (cI, 40, .inl fTS)), ((ma 13), .inl (cI, 40, .inl fBs)), ((ma 15), .inl (cI, 40, .inl fEs))]) [0, 1, 2, 3, 4, 5, 6, 7] (by decide +kernel) rfl
    exact W.iret (v := 0) hx hb hr (fun t ht hW => ⟨⟨0, G_2, rfl, ⟨(by (try dsimp only); first | assumption | omega | trivial), (by (try dsimp only); first | assumption | omega | trivial), (by (try dsimp only); intro h9; have := hlo h9; omega)⟩, by rw [ht]; exact hP9, hD9⟩, hS.F ht⟩) hS.2.2 d_DiscMakerModel_outside_34

theorem d_DiscMakerModel_recordSize_0 : decode b_DiscMakerModel_recordSize 0 = .ok (.aload_n 0, 1) := by decide +kernel
theorem d_DiscMakerModel_recordSize_1 : decode b_DiscMakerModel_recordSize 1 = .ok (.iload_n 1, 1) := by decide +kernel
theorem d_DiscMakerModel_recordSize_2 : decode b_DiscMakerModel_recordSize 2 = .ok (.iload_n 2, 1) := by decide +kernel
theorem d_DiscMakerModel_recordSize_3 : decode b_DiscMakerModel_recordSize 3 = .ok (.iload_n 3, 1) := by decide +kernel
theorem d_DiscMakerModel_recordSize_4 : decode b_DiscMakerModel_recordSize 4 = .ok (.invokevirtual 216, 3) := by decide +kernel
theorem d_DiscMakerModel_recordSize_7 : decode b_DiscMakerModel_recordSize 7 = .ok (.istore 4, 2) := by decide +kernel
theorem d_DiscMakerModel_recordSize_9 : decode b_DiscMakerModel_recordSize 9 = .ok (.iload_n 1, 1) := by decide +kernel
theorem d_DiscMakerModel_recordSize_10 : decode b_DiscMakerModel_recordSize 10 = .ok (.iconst 1, 1) := by decide +kernel
theorem d_DiscMakerModel_recordSize_11 : decode b_DiscMakerModel_recordSize 11 = .ok (.if_icmp .ne 6, 3) := by decide +kernel
theorem d_DiscMakerModel_recordSize_14 : decode b_DiscMakerModel_recordSize 14 = .ok (.iload 4, 2) := by decide +kernel
theorem d_DiscMakerModel_recordSize_16 : decode b_DiscMakerModel_recordSize 16 = .ok (.ireturn, 1) := by decide +kernel
theorem d_DiscMakerModel_recordSize_17 : decode b_DiscMakerModel_recordSize 17 = .ok (.aload_n 0, 1) := by decide +kernel
theorem d_DiscMakerModel_recordSize_18 : decode b_DiscMakerModel_recordSize 18 = .ok (.iload_n 2, 1) := by decide +kernel
theorem d_DiscMakerModel_recordSize_19 : decode b_DiscMakerModel_recordSize 19 = .ok (.iload_n 3, 1) := by decide +kernel
theorem d_DiscMakerModel_recordSize_20 : decode b_DiscMakerModel_recordSize 20 = .ok (.invokevirtual 225, 3) := by decide +kernel
theorem d_DiscMakerModel_recordSize_23 : decode b_DiscMakerModel_recordSize 23 = .ok (.istore 5, 2) := by decide +kernel
theorem d_DiscMakerModel_recordSize_25 : decode b_DiscMakerModel_recordSize 25 = .ok (.aload_n 0, 1) := by decide +kernel
theorem d_DiscMakerModel_recordSize_26 : decode b_DiscMakerModel_recordSize 26 = .ok (.iload_n 2, 1) := by decide +kernel
theorem d_DiscMakerModel_recordSize_27 : decode b_DiscMakerModel_recordSize 27 = .ok (.iload_n 3, 1) := by decide +kernel
theorem d_DiscMakerModel_recordSize_28 : decode b_DiscMakerModel_recordSize 28 = .ok (.invokevirtual 219, 3) := by decide +kernel
theorem d_DiscMakerModel_recordSize_31 : decode b_DiscMakerModel_recordSize 31 = .ok (.iload 5, 2) := by decide +kernel
theorem d_DiscMakerModel_recordSize_33 : decode b_DiscMakerModel_recordSize 33 = .ok (.isub, 1) := by decide +kernel
theorem d_DiscMakerModel_recordSize_34 : decode b_DiscMakerModel_recordSize 34 = .ok (.iload 5, 2) := by decide +kernel
theorem d_DiscMakerModel_recordSize_36 : decode b_DiscMakerModel_recordSize 36 = .ok (.ifCond .le 8, 3) := by decide +kernel
theorem d_DiscMakerModel_recordSize_39 : decode b_DiscMakerModel_recordSize 39 = .ok (.bipush 28, 2) := by decide +kernel
theorem d_DiscMakerModel_recordSize_41 : decode b_DiscMakerModel_recordSize 41 = .ok (.goto 4, 3) := by decide +kernel
theorem d_DiscMakerModel_recordSize_44 : decode b_DiscMakerModel_recordSize 44 = .ok (.iconst 0, 1) := by decide +kernel
theorem d_DiscMakerModel_recordSize_45 : decode b_DiscMakerModel_recordSize 45 = .ok (.iadd, 1) := by decide +kernel
theorem d_DiscMakerModel_recordSize_46 : decode b_DiscMakerModel_recordSize 46 = .ok (.istore 6, 2) := by decide +kernel
theorem d_DiscMakerModel_recordSize_48 : decode b_DiscMakerModel_recordSize 48 = .ok (.iload 4, 2) := by decide +kernel
theorem d_DiscMakerModel_recordSize_50 : decode b_DiscMakerModel_recordSize 50 = .ok (.iload 6, 2) := by decide +kernel
theorem d_DiscMakerModel_recordSize_52 : decode b_DiscMakerModel_recordSize 52 = .ok (.iadd, 1) := by decide +kernel
theorem d_DiscMakerModel_recordSize_53 : decode b_DiscMakerModel_recordSize 53 = .ok (.iload 6, 2) := by decide +kernel
theorem d_DiscMakerModel_recordSize_55 : decode b_DiscMakerModel_recordSize 55 = .ok (.iconst 2, 1) := by decide +kernel
theorem d_DiscMakerModel_recordSize_56 : decode b_DiscMakerModel_recordSize 56 = .ok (.irem, 1) := by decide +kernel
theorem d_DiscMakerModel_recordSize_57 : decode b_DiscMakerModel_recordSize 57 = .ok (.iadd, 1) := by decide +kernel
theorem d_DiscMakerModel_recordSize_58 : decode b_DiscMakerModel_recordSize 58 = .ok (.ireturn, 1) := by decide +kernel
set_option maxHeartbeats 4000000 in
set_option maxRecDepth 100000 in
theorem m_recordSize (l : Launch) (D : va_G) (cB cI cJ cZ cN cF : ClassId) (sz : Nat) (h0 : Nat) (ma : Nat → Nat) (sv_thrown sv_length sv_nodes sv_many sv_directories sv_runsFrom sv_runs sv_read sv_wrong sv_isNamed sv_goes sv_goesSize sv_goesAt sv_targetParts sv_isRoot : Int32) (F : Nat → Int64) (fK : Nat → Int32) (fNS : Nat → Int32) (fT : Nat → Int32) (fTS : Nat → Int32) (fBs : Nat → Int32) (fEs : Nat → Int32) (x : Int32) (y : Int32) (z : Int32) (hz0 : 0 ≤ z.toInt ∧ z.toInt < 40) (hx0 : 0 ≤ x.toInt ∧ x.toInt ≤ 1) (hKi : Rg 0 2 40 fK) (hNS : Rg 0 30 40 fNS) (hTS : Rg 0 200 40 fTS) (hBs : Rg 0 8 40 fBs) (hEs : Rg 0 3 40 fEs) : Met l y_DiscMakerModel_recordSize w_DiscMakerModel_recordSize ({ frames := 7, cells := 0, slots := 0, locals := 172 }) (va_Pc [.ref h0, .int x, .int y, .int z] (fun U => U.heap.size = sz ∧ va_P D CL [(h0, .inr (11, MO ma sv_thrown sv_length sv_nodes sv_many sv_directories sv_runsFrom sv_runs sv_read sv_wrong sv_isNamed sv_goes sv_goesSize sv_goesAt sv_targetParts sv_isRoot)), ((ma 16), .inl (cJ, 46080, .inr (.inl F))), ((ma 1), .inl (cI, 40, .inl fK)), ((ma 9), .inl (cI, 40, .inl fNS)), ((ma 10), .inl (cB, 8000, .inl fT)), ((ma 11), .inl (cI, 40, .inl fTS)), ((ma 13), .inl (cI, 40, .inl fBs)), ((ma 15), .inl (cI, 40, .inl fEs))] U.heap ∧ va_K D CL (TY cB cI cJ cZ cN cF) U ∧ NN U ∧ va_D (fun _ => True) [(h0, .inr (11, MO ma sv_thrown sv_length sv_nodes sv_many sv_directories sv_runsFrom sv_runs sv_read sv_wrong sv_isNamed sv_goes sv_goesSize sv_goesAt sv_targetParts sv_isRoot)), ((ma 16), .inl (cJ, 46080, .inr (.inl F))), ((ma 1), .inl (cI, 40, .inl fK)), ((ma 9), .inl (cI, 40, .inl fNS)), ((ma 10), .inl (cB, 8000, .inl fT)), ((ma 11), .inl (cI, 40, .inl fTS)), ((ma 13), .inl (cI, 40, .inl fBs)), ((ma 15), .inl (cI, 40, .inl fEs))])) (va_Qi (fun (r : Int32) (u : (Nat → Int64)) => match u with | G => (33 ≤ r.toInt ∧ r.toInt ≤ 254 ∧ (x.toInt = 1 → r.toInt ≤ 94))) (fun (u : (Nat → Int64)) (t : State) => match u with | G => va_P D CL [(h0, .inr (11, MO ma sv_thrown sv_length sv_nodes sv_many sv_directories sv_runsFrom sv_runs sv_read sv_wrong sv_isNamed sv_goes sv_goesSize sv_goesAt sv_targetParts sv_isRoot)), ((ma 16), .inl (cJ, 46080, .inr (.inl G))), ((ma 1), .inl (cI, 40, .inl fK)), ((ma 9), .inl (cI, 40, .inl fNS)), ((ma 10), .inl (cB, 8000, .inl fT)), ((ma 11), .inl (cI, 40, .inl fTS)), ((ma 13), .inl (cI, 40, .inl fBs)), ((ma 15), .inl (cI, 40, .inl fEs))] t.heap ∧ va_D (va_A [(h0, .inr (11, MO ma sv_thrown sv_length sv_nodes sv_many sv_directories sv_runsFrom sv_runs sv_read sv_wrong sv_isNamed sv_goes sv_goesSize sv_goesAt sv_targetParts sv_isRoot)), ((ma 16), .inl (cJ, 46080, .inr (.inl F))), ((ma 1), .inl (cI, 40, .inl fK)), ((ma 9), .inl (cI, 40, .inl fNS)), ((ma 10), .inl (cB, 8000, .inl fT)), ((ma 11), .inl (cI, 40, .inl fTS)), ((ma 13), .inl (cI, 40, .inl fBs)), ((ma 15), .inl (cI, 40, .inl fEs))] sz) [(h0, .inr (11, MO ma sv_thrown sv_length sv_nodes sv_many sv_directories sv_runsFrom sv_runs sv_read sv_wrong sv_isNamed sv_goes sv_goesSize sv_goesAt sv_targetParts sv_isRoot)), ((ma 16), .inl (cJ, 46080, .inr (.inl G))), ((ma 1), .inl (cI, 40, .inl fK)), ((ma 9), .inl (cI, 40, .inl fNS)), ((ma 10), .inl (cB, 8000, .inl fT)), ((ma 11), .inl (cI, 40, .inl fTS)), ((ma 13), .inl (cI, 40, .inl fBs)), ((ma 15), .inl (cI, 40, .inl fEs))]) (va_A [(h0, .inr (11, MO ma sv_thrown sv_length sv_nodes sv_many sv_directories sv_runsFrom sv_runs sv_read sv_wrong sv_isNamed sv_goes sv_goesSize sv_goesAt sv_targetParts sv_isRoot)), ((ma 16), .inl (cJ, 46080, .inr (.inl F))), ((ma 1), .inl (cI, 40, .inl fK)), ((ma 9), .inl (cI, 40, .inl fNS)), ((ma 10), .inl (cB, 8000, .inl fT)), ((ma 11), .inl (cI, 40, .inl fTS)), ((ma 13), .inl (cI, 40, .inl fBs)), ((ma 15), .inl (cI, 40, .inl fEs))] sz)) 0 0 (va_A [(h0, .inr (11, MO ma sv_thrown sv_length sv_nodes sv_many sv_directories sv_runsFrom sv_runs sv_read sv_wrong sv_isNamed sv_goes sv_goesSize sv_goesAt sv_targetParts sv_isRoot)), ((ma 16), .inl (cJ, 46080, .inr (.inl F))), ((ma 1), .inl (cI, 40, .inl fK)), ((ma 9), .inl (cI, 40, .inl fNS)), ((ma 10), .inl (cB, 8000, .inl fT)), ((ma 11), .inl (cI, 40, .inl fTS)), ((ma 13), .inl (cI, 40, .inl fBs)), ((ma 15), .inl (cI, 40, .inl fEs))] sz) := by
  refine Met.ofW (cc := b_DiscMakerModel_recordSize) (maxL := 7) (ret := some .int) (by decide) rfl ?_
  intro p e s m args below meth c s₁ B hml hv
  obtain ⟨rfl, hsz, hP, hK, hN, hD0⟩ := hv
  have hx := B.exec
  have hb := B.bytes
  have hr := B.returns
  have hts := atoms_spec (ws := w_DiscMakerModel_recordSize) B.pre
  have ht9 := fun (w : Cond) (h : w ∈ lw_g) => hts w (List.mem_cons_of_mem _ h)
  have hown : s.vm.findClass "DiscMakerModel" = some m.cls := findClass_of_methodNamed B.named
  have hlocks := B.notSynchronized
  subst hsz
  have hD := hD0.self (sz := s.heap.size)
  generalize hAe : va_A [(h0, .inr (11, MO ma sv_thrown sv_length sv_nodes sv_many sv_directories sv_runsFrom sv_runs sv_read sv_wrong sv_isNamed sv_goes sv_goesSize sv_goesAt sv_targetParts sv_isRoot)), ((ma 16), .inl (cJ, 46080, .inr (.inl F))), ((ma 1), .inl (cI, 40, .inl fK)), ((ma 9), .inl (cI, 40, .inl fNS)), ((ma 10), .inl (cB, 8000, .inl fT)), ((ma 11), .inl (cI, 40, .inl fTS)), ((ma 13), .inl (cI, 40, .inl fBs)), ((ma 15), .inl (cI, 40, .inl fEs))] s.heap.size = A at hD ⊢
  have hA : ∀ q : Nat, s.heap.size ≤ q → A q := fun q h => by rw [← hAe]; exact Or.inr h
  have hS : va_S A s.heap s.heap [] := va_S.rf
  have hP : va_P D CL [(h0, .inr (11, MO ma sv_thrown sv_length sv_nodes sv_many sv_directories sv_runsFrom sv_runs sv_read sv_wrong sv_isNamed sv_goes sv_goesSize sv_goesAt sv_targetParts sv_isRoot)), ((ma 16), .inl (cJ, 46080, .inr (.inl F))), ((ma 1), .inl (cI, 40, .inl fK)), ((ma 9), .inl (cI, 40, .inl fNS)), ((ma 10), .inl (cB, 8000, .inl fT)), ((ma 11), .inl (cI, 40, .inl fTS)), ((ma 13), .inl (cI, 40, .inl fBs)), ((ma 15), .inl (cI, 40, .inl fEs))] s.heap := hP
  have hl := lv_entry [.ref h0, .int x, .int y, .int z] (n := 7) (Nat.le_of_ble_eq_true rfl)
  rw [lg_entry_eq]
  generalize (lg_sl [.ref h0, .int x, .int y, .int z] ++ List.replicate (7 - (lg_sl [.ref h0, .int x, .int y, .int z]).length) Slot.unset).toArray = ls at hl ⊢
  have hl : lv_has ls 7 [(0, .ref h0), (1, .int x), (2, .int y), (3, .int z)] := hl
  have L_m1 : ((-1) : Int32).toInt = (-1) := by decide
  have L_0 : (0 : Int32).toInt = 0 := by decide
  have L_1 : (1 : Int32).toInt = 1 := by decide
  have L_2 : (2 : Int32).toInt = 2 := by decide
  have L_28 : (28 : Int32).toInt = 28 := by decide
  have hzc := i_cl (a := z) (by omega)
  have hb0 := psF_le (fK := fK) (fT := fT) 0 y.toInt (hNS z.toNatClampNeg (by omega)) (hTS z.toNatClampNeg (by omega)).2
  have hb1 := psF_le (fK := fK) (fT := fT) 1 y.toInt (hNS z.toNatClampNeg (by omega)) (hTS z.toNatClampNeg (by omega)).2
  have hb2 := psF_le (fK := fK) (fT := fT) 2 y.toInt (hNS z.toNatClampNeg (by omega)) (hTS z.toNatClampNeg (by omega)).2
  have hb3 := psF_le (fK := fK) (fT := fT) 3 y.toInt (hNS z.toNatClampNeg (by omega)) (hTS z.toNatClampNeg (by omega)).2
  have hbb := psF_b (fK := fK) (fT := fT) (fTS := fTS) y.toInt (hNS z.toNatClampNeg (by omega))
  have hib := idF_le (fK := fK) 0 y.toInt (hNS z.toNatClampNeg (by omega)) (hBs z.toNatClampNeg (by omega)) (hEs z.toNatClampNeg (by omega))
  have hlo := fun h => psF_low (fK := fK) (fNS := fNS) (fT := fT) (fTS := fTS) (k := z.toNatClampNeg) (so := y.toInt) h
  refine lv_aload_n hx hb d_DiscMakerModel_recordSize_0 rfl (lv_at hl 0 rfl) ?_
  refine lv_iload_n hx hb d_DiscMakerModel_recordSize_1 rfl (lv_at hl 1 rfl) ?_
  refine lv_iload_n hx hb d_DiscMakerModel_recordSize_2 rfl (lv_at hl 2 rfl) ?_
  refine lv_iload_n hx hb d_DiscMakerModel_recordSize_3 rfl (lv_at hl 3 rfl) ?_
  have hPc := hP.sub (ws' := [(h0, .inr (11, MO ma sv_thrown sv_length sv_nodes sv_many sv_directories sv_runsFrom sv_runs sv_read sv_wrong sv_isNamed sv_goes sv_goesSize sv_goesAt sv_targetParts sv_isRoot)), ((ma 1), .inl (cI, 40, .inl fK)), ((ma 9), .inl (cI, 40, .inl fNS)), ((ma 13), .inl (cI, 40, .inl fBs)), ((ma 15), .inl (cI, 40, .inl fEs))]) [0, 2, 3, 6, 7] rfl
  have hDc := hD.sub (ws' := [(h0, .inr (11, MO ma sv_thrown sv_length sv_nodes sv_many sv_directories sv_runsFrom sv_runs sv_read sv_wrong sv_isNamed sv_goes sv_goesSize sv_goesAt sv_targetParts sv_isRoot)), ((ma 1), .inl (cI, 40, .inl fK)), ((ma 9), .inl (cI, 40, .inl fNS)), ((ma 13), .inl (cI, 40, .inl fBs)), ((ma 15), .inl (cI, 40, .inl fEs))]) [0, 2, 3, 6, 7] (by decide +kernel) rfl
  have hFc := va_free (wc := [(h0, .inr (11, MO ma sv_thrown sv_length sv_nodes sv_many sv_directories sv_runsFrom sv_runs sv_read sv_wrong sv_isNamed sv_goes sv_goesSize sv_goesAt sv_targetParts sv_isRoot)), ((ma 1), .inl (cI, 40, .inl fK)), ((ma 9), .inl (cI, 40, .inl fNS)), ((ma 13), .inl (cI, 40, .inl fBs)), ((ma 15), .inl (cI, 40, .inl fEs))]) hD hS hA [0, 2, 3, 6, 7] rfl
  have hkc : 0 ≤ 0 := by decide
  have hks : 0 ≤ 0 := by decide
  refine va_calli (va_runV (C := "DiscMakerModel") (As := [.int x, .int y, .int z]) (rest := []) ⟨hx, hb, hml, hown, hts⟩ (m_headSize l D cB cI cJ cZ cN cF s.heap.size h0 ma sv_thrown sv_length sv_nodes sv_many sv_directories sv_runsFrom sv_runs sv_read sv_wrong sv_isNamed sv_goes sv_goesSize sv_goesAt sv_targetParts sv_isRoot fK fNS fBs fEs x y z (by (try dsimp only); first | assumption | omega | trivial) (by (try dsimp only); first | assumption | omega | trivial) (by (try dsimp only); first | assumption | omega | trivial) (by (try dsimp only); first | assumption | omega | trivial) (by (try dsimp only); first | assumption | omega | trivial)) (cwV 3 hts (lg_goodV k1695 k1697 k71 k125 kc_DiscMakerModel_headSize) rfl rfl rfl (by decide +kernel) ⟨Nat.le_of_ble_eq_true rfl, Nat.le_of_ble_eq_true rfl⟩) ⟨fun a U g mk q => by obtain ⟨q0, q1, qP, qK, qN, qD⟩ := q; exact ⟨q0, q1, qP, va_K.moved (u := U) (U := U.calling g mk a) (Vm.Alike.refl U.vm) qK, qN.calling, qD⟩, va_recv hK hP (ci := 11) (q0 := 0) rfl rfl, fun U hU hW => ⟨rfl, by rw [hU], by rw [hU]; exact hPc, va_K.moved hW.alike hK, NN.warm hW hN, hDc.weaken (fun _ _ _ _ => trivial)⟩⟩ rfl rfl hl.1 rfl (lv_room (Nat.le_of_ble_eq_true rfl)) d_DiscMakerModel_recordSize_4 ⟨hkc, hks⟩) hS (fun q _ h => hFc q h) hFc (fun r1 u t H1 locs ht hvm hp_r1 hB hz1 hk1 hS => ?_)
  obtain ⟨hP1, hD1⟩ := hB
  rw [ht] at hP1
  obtain ⟨hP, hD⟩ := va_join (wr := [((ma 16), .inl (cJ, 46080, .inr (.inl F))), ((ma 10), .inl (cB, 8000, .inl fT)), ((ma 11), .inl (cI, 40, .inl fTS))]) (w1 := [(h0, .inr (11, MO ma sv_thrown sv_length sv_nodes sv_many sv_directories sv_runsFrom sv_runs sv_read sv_wrong sv_isNamed sv_goes sv_goesSize sv_goesAt sv_targetParts sv_isRoot)), ((ma 1), .inl (cI, 40, .inl fK)), ((ma 9), .inl (cI, 40, .inl fNS)), ((ma 13), .inl (cI, 40, .inl fBs)), ((ma 15), .inl (cI, 40, .inl fEs))]) hP hD [0, 2, 3, 6, 7] [1, 4, 5] rfl rfl (by decide +kernel) (by decide +kernel) hk1 hFc hP1 hD1
  clear hPc hDc hFc hP1 hD1 hk1 hz1 hkc hks
  generalize H1 = H at hP hS ⊢
  have hP : va_P D CL [((ma 16), .inl (cJ, 46080, .inr (.inl F))), ((ma 10), .inl (cB, 8000, .inl fT)), ((ma 11), .inl (cI, 40, .inl fTS)), (h0, .inr (11, MO ma sv_thrown sv_length sv_nodes sv_many sv_directories sv_runsFrom sv_runs sv_read sv_wrong sv_isNamed sv_goes sv_goesSize sv_goesAt sv_targetParts sv_isRoot)), ((ma 1), .inl (cI, 40, .inl fK)), ((ma 9), .inl (cI, 40, .inl fNS)), ((ma 13), .inl (cI, 40, .inl fBs)), ((ma 15), .inl (cI, 40, .inl fEs))] H := hP
  have hD : va_D A [((ma 16), .inl (cJ, 46080, .inr (.inl F))), ((ma 10), .inl (cB, 8000, .inl fT)), ((ma 11), .inl (cI, 40, .inl fTS)), (h0, .inr (11, MO ma sv_thrown sv_length sv_nodes sv_many sv_directories sv_runsFrom sv_runs sv_read sv_wrong sv_isNamed sv_goes sv_goesSize sv_goesAt sv_targetParts sv_isRoot)), ((ma 1), .inl (cI, 40, .inl fK)), ((ma 9), .inl (cI, 40, .inl fNS)), ((ma 13), .inl (cI, 40, .inl fBs)), ((ma 15), .inl (cI, 40, .inl fEs))] := hD
  try dsimp only at hp_r1
  obtain ⟨hv_2, hr_3⟩ := hp_r1
  refine lv_istore hx hb d_DiscMakerModel_recordSize_7 hl (by decide) rfl (fun ls hl => ?_)
  have hl : lv_has ls 7 [(4, .int r1), (0, .ref h0), (1, .int x), (2, .int y), (3, .int z)] := hl
  refine lv_iload_n hx hb d_DiscMakerModel_recordSize_9 rfl (lv_at hl 2 rfl) ?_
  refine lv_iconst (v := 1) hx hb d_DiscMakerModel_recordSize_10 (by decide) ?_
  refine lv_icmp_ne (tgt := 17) hx hb d_DiscMakerModel_recordSize_11 (by decide) (fun h_9 => ?_) (fun h_9 => ?_)
  · skip
    have g11_9 : ¬ x.toInt = 1 := fun h8 => h_9 ((i_eq rfl (by decide)).mpr h8)
    have hx00 : x.toInt = 0 := by omega
    rw [hx00] at hv_2
    refine lv_aload_n hx hb d_DiscMakerModel_recordSize_17 rfl (lv_at hl 1 rfl) ?_
    refine lv_iload_n hx hb d_DiscMakerModel_recordSize_18 rfl (lv_at hl 3 rfl) ?_
    refine lv_iload_n hx hb d_DiscMakerModel_recordSize_19 rfl (lv_at hl 4 rfl) ?_
    have hPc := hP.sub (ws' := [(h0, .inr (11, MO ma sv_thrown sv_length sv_nodes sv_many sv_directories sv_runsFrom sv_runs sv_read sv_wrong sv_isNamed sv_goes sv_goesSize sv_goesAt sv_targetParts sv_isRoot)), ((ma 16), .inl (cJ, 46080, .inr (.inl F))), ((ma 1), .inl (cI, 40, .inl fK)), ((ma 9), .inl (cI, 40, .inl fNS)), ((ma 10), .inl (cB, 8000, .inl fT)), ((ma 11), .inl (cI, 40, .inl fTS)), ((ma 13), .inl (cI, 40, .inl fBs)), ((ma 15), .inl (cI, 40, .inl fEs))]) [3, 0, 4, 5, 1, 2, 6, 7] rfl
    have hDc := hD.sub (ws' := [(h0, .inr (11, MO ma sv_thrown sv_length sv_nodes sv_many sv_directories sv_runsFrom sv_runs sv_read sv_wrong sv_isNamed sv_goes sv_goesSize sv_goesAt sv_targetParts sv_isRoot)), ((ma 16), .inl (cJ, 46080, .inr (.inl F))), ((ma 1), .inl (cI, 40, .inl fK)), ((ma 9), .inl (cI, 40, .inl fNS)), ((ma 10), .inl (cB, 8000, .inl fT)), ((ma 11), .inl (cI, 40, .inl fTS)), ((ma 13), .inl (cI, 40, .inl fBs)), ((ma 15), .inl (cI, 40, .inl fEs))]) [3, 0, 4, 5, 1, 2, 6, 7] (by decide +kernel) rfl
    have hFc := va_free (wc := [(h0, .inr (11, MO ma sv_thrown sv_length sv_nodes sv_many sv_directories sv_runsFrom sv_runs sv_read sv_wrong sv_isNamed sv_goes sv_goesSize sv_goesAt sv_targetParts sv_isRoot)), ((ma 16), .inl (cJ, 46080, .inr (.inl F))), ((ma 1), .inl (cI, 40, .inl fK)), ((ma 9), .inl (cI, 40, .inl fNS)), ((ma 10), .inl (cB, 8000, .inl fT)), ((ma 11), .inl (cI, 40, .inl fTS)), ((ma 13), .inl (cI, 40, .inl fBs)), ((ma 15), .inl (cI, 40, .inl fEs))]) hD hS hA [3, 0, 4, 5, 1, 2, 6, 7] rfl
    have hkc : 0 ≤ 0 := by decide
    have hks : 0 ≤ 0 := by decide
    refine va_calli (va_runV (C := "DiscMakerModel") (As := [.int y, .int z]) (rest := []) ⟨hx, hb, hml, hown, hts⟩ (m_outside l D cB cI cJ cZ cN cF H.size h0 ma sv_thrown sv_length sv_nodes sv_many sv_directories sv_runsFrom sv_runs sv_read sv_wrong sv_isNamed sv_goes sv_goesSize sv_goesAt sv_targetParts sv_isRoot F fK fNS fT fTS fBs fEs y z (by (try dsimp only); first | assumption | omega | trivial) (by (try dsimp only); first | assumption | omega | trivial) (by (try dsimp only); first | assumption | omega | trivial) (by (try dsimp only); first | assumption | omega | trivial) (by (try dsimp only); first | assumption | omega | trivial) (by (try dsimp only); first | assumption | omega | trivial)) (cwV 2 hts (lg_goodV k1703 k1705 k73 k125 kc_DiscMakerModel_outside) rfl rfl rfl (by decide +kernel) ⟨Nat.le_of_ble_eq_true rfl, Nat.le_of_ble_eq_true rfl⟩) ⟨fun a U g mk q => by obtain ⟨q0, q1, qP, qK, qN, qD⟩ := q; exact ⟨q0, q1, qP, va_K.moved (u := U) (U := U.calling g mk a) (Vm.Alike.refl U.vm) qK, qN.calling, qD⟩, va_recv hK hP (ci := 11) (q0 := 3) rfl rfl, fun U hU hW => ⟨rfl, by rw [hU], by rw [hU]; exact hPc, va_K.moved hW.alike hK, NN.warm hW hN, hDc.weaken (fun _ _ _ _ => trivial)⟩⟩ rfl rfl hl.1 rfl (lv_room (Nat.le_of_ble_eq_true rfl)) d_DiscMakerModel_recordSize_20 ⟨hkc, hks⟩) hS (fun q _ h => hFc q h) hFc (fun r4 u t H1 locs ht hvm hp_r4 hB hz1 hk1 hS => ?_)
    obtain ⟨G_5, rfl⟩ : ∃ z, z = u := ⟨_, rfl⟩
    obtain ⟨hP1, hD1⟩ := hB
    rw [ht] at hP1
    obtain ⟨hP, hD⟩ := va_join (wr := []) (w1 := [(h0, .inr (11, MO ma sv_thrown sv_length sv_nodes sv_many sv_directories sv_runsFrom sv_runs sv_read sv_wrong sv_isNamed sv_goes sv_goesSize sv_goesAt sv_targetParts sv_isRoot)), ((ma 16), .inl (cJ, 46080, .inr (.inl G_5))), ((ma 1), .inl (cI, 40, .inl fK)), ((ma 9), .inl (cI, 40, .inl fNS)), ((ma 10), .inl (cB, 8000, .inl fT)), ((ma 11), .inl (cI, 40, .inl fTS)), ((ma 13), .inl (cI, 40, .inl fBs)), ((ma 15), .inl (cI, 40, .inl fEs))]) hP hD [3, 0, 4, 5, 1, 2, 6, 7] [] rfl rfl (by decide +kernel) (by decide +kernel) hk1 hFc hP1 hD1
    clear hPc hDc hFc hP1 hD1 hk1 hz1 hkc hks
    generalize H1 = H at hP hS ⊢
    have hP : va_P D CL [(h0, .inr (11, MO ma sv_thrown sv_length sv_nodes sv_many sv_directories sv_runsFrom sv_runs sv_read sv_wrong sv_isNamed sv_goes sv_goesSize sv_goesAt sv_targetParts sv_isRoot)), ((ma 16), .inl (cJ, 46080, .inr (.inl G_5))), ((ma 1), .inl (cI, 40, .inl fK)), ((ma 9), .inl (cI, 40, .inl fNS)), ((ma 10), .inl (cB, 8000, .inl fT)), ((ma 11), .inl (cI, 40, .inl fTS)), ((ma 13), .inl (cI, 40, .inl fBs)), ((ma 15), .inl (cI, 40, .inl fEs))] H := hP
    have hD : va_D A [(h0, .inr (11, MO ma sv_thrown sv_length sv_nodes sv_many sv_directories sv_runsFrom sv_runs sv_read sv_wrong sv_isNamed sv_goes sv_goesSize sv_goesAt sv_targetParts sv_isRoot)), ((ma 16), .inl (cJ, 46080, .inr (.inl G_5))), ((ma 1), .inl (cI, 40, .inl fK)), ((ma 9), .inl (cI, 40, .inl fNS)), ((ma 10), .inl (cB, 8000, .inl fT)), ((ma 11), .inl (cI, 40, .inl fTS)), ((ma 13), .inl (cI, 40, .inl fBs)), ((ma 15), .inl (cI, 40, .inl fEs))] := hD
    try dsimp only at hp_r4
    obtain ⟨hv_6, hr_7, ho_8⟩ := hp_r4
    refine lv_istore hx hb d_DiscMakerModel_recordSize_23 hl (by decide) rfl (fun ls hl => ?_)
    have hl : lv_has ls 7 [(5, .int r4), (4, .int r1), (0, .ref h0), (1, .int x), (2, .int y), (3, .int z)] := hl
    refine lv_aload_n hx hb d_DiscMakerModel_recordSize_25 rfl (lv_at hl 2 rfl) ?_
    refine lv_iload_n hx hb d_DiscMakerModel_recordSize_26 rfl (lv_at hl 4 rfl) ?_
    refine lv_iload_n hx hb d_DiscMakerModel_recordSize_27 rfl (lv_at hl 5 rfl) ?_
    have hPc := hP.sub (ws' := [(h0, .inr (11, MO ma sv_thrown sv_length sv_nodes sv_many sv_directories sv_runsFrom sv_runs sv_read sv_wrong sv_isNamed sv_goes sv_goesSize sv_goesAt sv_targetParts sv_isRoot)), ((ma 16), .inl (cJ, 46080, .inr (.inl G_5))), ((ma 1), .inl (cI, 40, .inl fK)), ((ma 9), .inl (cI, 40, .inl fNS)), ((ma 10), .inl (cB, 8000, .inl fT)), ((ma 11), .inl (cI, 40, .inl fTS))]) [0, 1, 2, 3, 4, 5] rfl
    have hDc := hD.sub (ws' := [(h0, .inr (11, MO ma sv_thrown sv_length sv_nodes sv_many sv_directories sv_runsFrom sv_runs sv_read sv_wrong sv_isNamed sv_goes sv_goesSize sv_goesAt sv_targetParts sv_isRoot)), ((ma 16), .inl (cJ, 46080, .inr (.inl G_5))), ((ma 1), .inl (cI, 40, .inl fK)), ((ma 9), .inl (cI, 40, .inl fNS)), ((ma 10), .inl (cB, 8000, .inl fT)), ((ma 11), .inl (cI, 40, .inl fTS))]) [0, 1, 2, 3, 4, 5] (by decide +kernel) rfl
    have hFc := va_free (wc := [(h0, .inr (11, MO ma sv_thrown sv_length sv_nodes sv_many sv_directories sv_runsFrom sv_runs sv_read sv_wrong sv_isNamed sv_goes sv_goesSize sv_goesAt sv_targetParts sv_isRoot)), ((ma 16), .inl (cJ, 46080, .inr (.inl G_5))), ((ma 1), .inl (cI, 40, .inl fK)), ((ma 9), .inl (cI, 40, .inl fNS)), ((ma 10), .inl (cB, 8000, .inl fT)), ((ma 11), .inl (cI, 40, .inl fTS))]) hD hS hA [0, 1, 2, 3, 4, 5] rfl
    have hkc : 0 ≤ 0 := by decide
    have hks : 0 ≤ 0 := by decide
    refine va_calli (va_runV (C := "DiscMakerModel") (As := [.int y, .int z]) (rest := []) ⟨hx, hb, hml, hown, hts⟩ (m_allParts l D cB cI cJ cZ cN cF H.size h0 ma sv_thrown sv_length sv_nodes sv_many sv_directories sv_runsFrom sv_runs sv_read sv_wrong sv_isNamed sv_goes sv_goesSize sv_goesAt sv_targetParts sv_isRoot G_5 fK fNS fT fTS y z (by (try dsimp only); first | assumption | omega | trivial) (by (try dsimp only); first | assumption | omega | trivial) (by (try dsimp only); first | assumption | omega | trivial) (by (try dsimp only); first | assumption | omega | trivial)) (cwV 2 hts (lg_goodV k1711 k1713 k75 k125 kc_DiscMakerModel_allParts) rfl rfl rfl (by decide +kernel) ⟨Nat.le_of_ble_eq_true rfl, Nat.le_of_ble_eq_true rfl⟩) ⟨fun a U g mk q => by obtain ⟨q0, q1, qP, qK, qN, qD⟩ := q; exact ⟨q0, q1, qP, va_K.moved (u := U) (U := U.calling g mk a) (Vm.Alike.refl U.vm) qK, qN.calling, qD⟩, va_recv hK hP (ci := 11) (q0 := 0) rfl rfl, fun U hU hW => ⟨rfl, by rw [hU], by rw [hU]; exact hPc, va_K.moved hW.alike hK, NN.warm hW hN, hDc.weaken (fun _ _ _ _ => trivial)⟩⟩ rfl rfl hl.1 rfl (lv_room (Nat.le_of_ble_eq_true rfl)) d_DiscMakerModel_recordSize_28 ⟨hkc, hks⟩) hS (fun q _ h => hFc q h) hFc (fun r9 u t H1 locs ht hvm hp_r9 hB hz1 hk1 hS => ?_)
    obtain ⟨G_10, rfl⟩ : ∃ z, z = u := ⟨_, rfl⟩
    obtain ⟨hP1, hD1⟩ := hB
    rw [ht] at hP1
    obtain ⟨hP, hD⟩ := va_join (wr := [((ma 13), .inl (cI, 40, .inl fBs)), ((ma 15), .inl (cI, 40, .inl fEs))]) (w1 := [(h0, .inr (11, MO ma sv_thrown sv_length sv_nodes sv_many sv_directories sv_runsFrom sv_runs sv_read sv_wrong sv_isNamed sv_goes sv_goesSize sv_goesAt sv_targetParts sv_isRoot)), ((ma 16), .inl (cJ, 46080, .inr (.inl G_10))), ((ma 1), .inl (cI, 40, .inl fK)), ((ma 9), .inl (cI, 40, .inl fNS)), ((ma 10), .inl (cB, 8000, .inl fT)), ((ma 11), .inl (cI, 40, .inl fTS))]) hP hD [0, 1, 2, 3, 4, 5] [6, 7] rfl rfl (by decide +kernel) (by decide +kernel) hk1 hFc hP1 hD1
    clear hPc hDc hFc hP1 hD1 hk1 hz1 hkc hks
    generalize H1 = H at hP hS ⊢
    have hP : va_P D CL [((ma 13), .inl (cI, 40, .inl fBs)), ((ma 15), .inl (cI, 40, .inl fEs)), (h0, .inr (11, MO ma sv_thrown sv_length sv_nodes sv_many sv_directories sv_runsFrom sv_runs sv_read sv_wrong sv_isNamed sv_goes sv_goesSize sv_goesAt sv_targetParts sv_isRoot)), ((ma 16), .inl (cJ, 46080, .inr (.inl G_10))), ((ma 1), .inl (cI, 40, .inl fK)), ((ma 9), .inl (cI, 40, .inl fNS)), ((ma 10), .inl (cB, 8000, .inl fT)), ((ma 11), .inl (cI, 40, .inl fTS))] H := hP
    have hD : va_D A [((ma 13), .inl (cI, 40, .inl fBs)), ((ma 15), .inl (cI, 40, .inl fEs)), (h0, .inr (11, MO ma sv_thrown sv_length sv_nodes sv_many sv_directories sv_runsFrom sv_runs sv_read sv_wrong sv_isNamed sv_goes sv_goesSize sv_goesAt sv_targetParts sv_isRoot)), ((ma 16), .inl (cJ, 46080, .inr (.inl G_10))), ((ma 1), .inl (cI, 40, .inl fK)), ((ma 9), .inl (cI, 40, .inl fNS)), ((ma 10), .inl (cB, 8000, .inl fT)), ((ma 11), .inl (cI, 40, .inl fTS))] := hD
    try dsimp only at hp_r9
    obtain ⟨hv_11, hr_12⟩ := hp_r9
    refine lv_iload hx hb d_DiscMakerModel_recordSize_31 (lv_at hl 0 rfl) ?_
    refine lv_isub hx hb d_DiscMakerModel_recordSize_33 ?_
    refine lv_topi (fun v13 e_v13 => ?_)
    have t_v13 : v13.toInt = r9.toInt - r4.toInt := by rw [e_v13]; exact i_sub rfl rfl (by omega) (by omega)
    refine lv_iload hx hb d_DiscMakerModel_recordSize_34 (lv_at hl 0 rfl) ?_
    refine lv_if_le (tgt := 44) hx hb d_DiscMakerModel_recordSize_36 (by decide) (fun h_9 => ?_) (fun h_9 => ?_)
    · skip
      have g36_22 : r4.toInt ≤ 0 := (i_le rfl (by decide)).mp h_9
      refine lv_iconst (v := 0) hx hb d_DiscMakerModel_recordSize_44 (by decide) ?_
      refine lv_iadd hx hb d_DiscMakerModel_recordSize_45 ?_
      refine lv_topi (fun v14 e_v14 => ?_)
      have t_v14 : v14.toInt = v13.toInt + 0 := by rw [e_v14]; exact i_add rfl (by decide) (by omega) (by omega)
      refine lv_istore hx hb d_DiscMakerModel_recordSize_46 hl (by decide) rfl (fun ls hl => ?_)
      have hl : lv_has ls 7 [(6, .int v14), (5, .int r4), (4, .int r1), (0, .ref h0), (1, .int x), (2, .int y), (3, .int z)] := hl
      refine lv_iload hx hb d_DiscMakerModel_recordSize_48 (lv_at hl 2 rfl) ?_
      refine lv_iload hx hb d_DiscMakerModel_recordSize_50 (lv_at hl 0 rfl) ?_
      refine lv_iadd hx hb d_DiscMakerModel_recordSize_52 ?_
      refine lv_topi (fun v15 e_v15 => ?_)
      have t_v15 : v15.toInt = r1.toInt + v14.toInt := by rw [e_v15]; exact i_add rfl rfl (by omega) (by omega)
      refine lv_iload hx hb d_DiscMakerModel_recordSize_53 (lv_at hl 0 rfl) ?_
      refine lv_iconst (v := 2) hx hb d_DiscMakerModel_recordSize_55 (by decide) ?_
      refine lv_irem hx hb d_DiscMakerModel_recordSize_56 (by decide) ?_
      refine lv_topi (fun v16 e_v16 => ?_)
      have t_v16 : v16.toInt = v14.toInt % 2 := by rw [e_v16]; exact i_rem rfl (by decide) (by omega) (by omega)
      refine lv_iadd hx hb d_DiscMakerModel_recordSize_57 ?_
      refine lv_topi (fun v17 e_v17 => ?_)
      have t_v17 : v17.toInt = v15.toInt + v16.toInt := by rw [e_v17]; exact i_add rfl rfl (by omega) (by omega)
      have hP9 := hP.sub (ws' := [(h0, .inr (11, MO ma sv_thrown sv_length sv_nodes sv_many sv_directories sv_runsFrom sv_runs sv_read sv_wrong sv_isNamed sv_goes sv_goesSize sv_goesAt sv_targetParts sv_isRoot)), ((ma 16), .inl (cJ, 46080, .inr (.inl G_10))), ((ma 1), .inl (cI, 40, .inl fK)), ((ma 9), .inl (cI, 40, .inl fNS)), ((ma 10), .inl (cB, 8000, .inl fT)), ((ma 11), .inl (cI, 40, .inl fTS)), ((ma 13), .inl (cI, 40, .inl fBs)), ((ma 15), .inl (cI, 40, .inl fEs))]) [2, 3, 4, 5, 6, 7, 0, 1] rfl
      have hD9 := hD.sub (ws' := [(h0, .inr (11, MO ma sv_thrown sv_length sv_nodes sv_many sv_directories sv_runsFrom sv_runs sv_read sv_wrong sv_isNamed sv_goes sv_goesSize sv_goesAt sv_targetParts sv_isRoot)), ((ma 16), .inl (cJ, 46080, .inr (.inl G_10))), ((ma 1), .inl (cI, 40, .inl fK)), ((ma 9), .inl (cI, 40, .inl fNS)), ((ma 10), .inl (cB, 8000, .inl fT)), ((ma 11), .inl (cI, 40, .inl fTS)), ((ma 13), .inl (cI, 40, .inl fBs)), ((ma 15), .inl (cI, 40, .inl fEs))]) [2, 3, 4, 5, 6, 7, 0, 1] (by decide +kernel) rfl
      exact W.iret (v := v17) hx hb hr (fun t ht hW => ⟨⟨v17, G_10, rfl, (by (try dsimp only); first | assumption | omega | trivial), by rw [ht]; exact hP9, hD9⟩, hS.F ht⟩) hS.2.2 d_DiscMakerModel_recordSize_58
    · skip
      have g36_22 : ¬ r4.toInt ≤ 0 := fun h8 => h_9 ((i_le rfl (by decide)).mpr h8)
      refine lv_bipush (v := 28) hx hb d_DiscMakerModel_recordSize_39 (by decide) ?_
      refine lv_goto (tgt := 45) hx hb d_DiscMakerModel_recordSize_41 (by decide) ?_
      refine lv_iadd hx hb d_DiscMakerModel_recordSize_45 ?_
      refine lv_topi (fun v18 e_v18 => ?_)
      have t_v18 : v18.toInt = v13.toInt + 28 := by rw [e_v18]; exact i_add rfl (by decide) (by omega) (by omega)
      refine lv_istore hx hb d_DiscMakerModel_recordSize_46 hl (by decide) rfl (fun ls hl => ?_)
      have hl : lv_has ls 7 [(6, .int v18), (5, .int r4), (4, .int r1), (0, .ref h0), (1, .int x), (2, .int y), (3, .int z)] := hl
      refine lv_iload hx hb d_DiscMakerModel_recordSize_48 (lv_at hl 2 rfl) ?_
      refine lv_iload hx hb d_DiscMakerModel_recordSize_50 (lv_at hl 0 rfl) ?_
      refine lv_iadd hx hb d_DiscMakerModel_recordSize_52 ?_
      refine lv_topi (fun v19 e_v19 => ?_)
      have t_v19 : v19.toInt = r1.toInt + v18.toInt := by rw [e_v19]; exact i_add rfl rfl (by omega) (by omega)
      refine lv_iload hx hb d_DiscMakerModel_recordSize_53 (lv_at hl 0 rfl) ?_
      refine lv_iconst (v := 2) hx hb d_DiscMakerModel_recordSize_55 (by decide) ?_
      refine lv_irem hx hb d_DiscMakerModel_recordSize_56 (by decide) ?_
      refine lv_topi (fun v20 e_v20 => ?_)
      have t_v20 : v20.toInt = v18.toInt % 2 := by rw [e_v20]; exact i_rem rfl (by decide) (by omega) (by omega)
      refine lv_iadd hx hb d_DiscMakerModel_recordSize_57 ?_
      refine lv_topi (fun v21 e_v21 => ?_)
      have t_v21 : v21.toInt = v19.toInt + v20.toInt := by rw [e_v21]; exact i_add rfl rfl (by omega) (by omega)
      have hP9 := hP.sub (ws' := [(h0, .inr (11, MO ma sv_thrown sv_length sv_nodes sv_many sv_directories sv_runsFrom sv_runs sv_read sv_wrong sv_isNamed sv_goes sv_goesSize sv_goesAt sv_targetParts sv_isRoot)), ((ma 16), .inl (cJ, 46080, .inr (.inl G_10))), ((ma 1), .inl (cI, 40, .inl fK)), ((ma 9), .inl (cI, 40, .inl fNS)), ((ma 10), .inl (cB, 8000, .inl fT)), ((ma 11), .inl (cI, 40, .inl fTS)), ((ma 13), .inl (cI, 40, .inl fBs)), ((ma 15), .inl (cI, 40, .inl fEs))]) [2, 3, 4, 5, 6, 7, 0, 1] rfl
      have hD9 := hD.sub (ws' := [(h0, .inr (11, MO ma sv_thrown sv_length sv_nodes sv_many sv_directories sv_runsFrom sv_runs sv_read sv_wrong sv_isNamed sv_goes sv_goesSize sv_goesAt sv_targetParts sv_isRoot)), ((ma 16), .inl (cJ, 46080, .inr (.inl G_10))), ((ma 1), .inl (cI, 40, .inl fK)), ((ma 9), .inl (cI, 40, .inl fNS)), ((ma 10), .inl (cB, 8000, .inl fT)), ((ma 11), .inl (cI, 40, .inl fTS)), ((ma 13), .inl (cI, 40, .inl fBs)), ((ma 15), .inl (cI, 40, .inl fEs))]) [2, 3, 4, 5, 6, 7, 0, 1] (by decide +kernel) rfl
      exact W.iret (v := v21) hx hb hr (fun t ht hW => ⟨⟨v21, G_10, rfl, (by (try dsimp only); first | assumption | omega | trivial), by rw [ht]; exact hP9, hD9⟩, hS.F ht⟩) hS.2.2 d_DiscMakerModel_recordSize_58
  · skip
    have g11_9 : x.toInt = 1 := (i_eq rfl (by decide)).mp h_9
    refine lv_iload hx hb d_DiscMakerModel_recordSize_14 (lv_at hl 0 rfl) ?_
    have hP9 := hP.sub (ws' := [(h0, .inr (11, MO ma sv_thrown sv_length sv_nodes sv_many sv_directories sv_runsFrom sv_runs sv_read sv_wrong sv_isNamed sv_goes sv_goesSize sv_goesAt sv_targetParts sv_isRoot)), ((ma 16), .inl (cJ, 46080, .inr (.inl F))), ((ma 1), .inl (cI, 40, .inl fK)), ((ma 9), .inl (cI, 40, .inl fNS)), ((ma 10), .inl (cB, 8000, .inl fT)), ((ma 11), .inl (cI, 40, .inl fTS)), ((ma 13), .inl (cI, 40, .inl fBs)), ((ma 15), .inl (cI, 40, .inl fEs))]) [3, 0, 4, 5, 1, 2, 6, 7] rfl
    have hD9 := hD.sub (ws' := [(h0, .inr (11, MO ma sv_thrown sv_length sv_nodes sv_many sv_directories sv_runsFrom sv_runs sv_read sv_wrong sv_isNamed sv_goes sv_goesSize sv_goesAt sv_targetParts sv_isRoot)), ((ma 16), .inl (cJ, 46080, .inr (.inl F))), ((ma 1), .inl (cI, 40, .inl fK)), ((ma 9), .inl (cI, 40, .inl fNS)), ((ma 10), .inl (cB, 8000, .inl fT)), ((ma 11), .inl (cI, 40, .inl fTS)), ((ma 13), .inl (cI, 40, .inl fBs)), ((ma 15), .inl (cI, 40, .inl fEs))]) [3, 0, 4, 5, 1, 2, 6, 7] (by decide +kernel) rfl
    exact W.iret (v := r1) hx hb hr (fun t ht hW => ⟨⟨r1, F, rfl, (by (try dsimp only); first | assumption | omega | trivial), by rw [ht]; exact hP9, hD9⟩, hS.F ht⟩) hS.2.2 d_DiscMakerModel_recordSize_16

theorem d_DiscMakerModel_idByte_0 : decode b_DiscMakerModel_idByte 0 = .ok (.iload_n 2, 1) := by decide +kernel
theorem d_DiscMakerModel_idByte_1 : decode b_DiscMakerModel_idByte 1 = .ok (.iconst 2, 1) := by decide +kernel
theorem d_DiscMakerModel_idByte_2 : decode b_DiscMakerModel_idByte 2 = .ok (.if_icmp .ge 5, 3) := by decide +kernel
theorem d_DiscMakerModel_idByte_5 : decode b_DiscMakerModel_idByte 5 = .ok (.iload_n 2, 1) := by decide +kernel
theorem d_DiscMakerModel_idByte_6 : decode b_DiscMakerModel_idByte 6 = .ok (.ireturn, 1) := by decide +kernel
theorem d_DiscMakerModel_idByte_7 : decode b_DiscMakerModel_idByte 7 = .ok (.iload_n 1, 1) := by decide +kernel
theorem d_DiscMakerModel_idByte_8 : decode b_DiscMakerModel_idByte 8 = .ok (.iconst 1, 1) := by decide +kernel
theorem d_DiscMakerModel_idByte_9 : decode b_DiscMakerModel_idByte 9 = .ok (.if_icmp .ne 24, 3) := by decide +kernel
theorem d_DiscMakerModel_idByte_12 : decode b_DiscMakerModel_idByte 12 = .ok (.iload 4, 2) := by decide +kernel
theorem d_DiscMakerModel_idByte_14 : decode b_DiscMakerModel_idByte 14 = .ok (.iconst 2, 1) := by decide +kernel
theorem d_DiscMakerModel_idByte_15 : decode b_DiscMakerModel_idByte 15 = .ok (.irem, 1) := by decide +kernel
theorem d_DiscMakerModel_idByte_16 : decode b_DiscMakerModel_idByte 16 = .ok (.ifCond .ne 7, 3) := by decide +kernel
theorem d_DiscMakerModel_idByte_19 : decode b_DiscMakerModel_idByte 19 = .ok (.iconst 0, 1) := by decide +kernel
theorem d_DiscMakerModel_idByte_20 : decode b_DiscMakerModel_idByte 20 = .ok (.goto 12, 3) := by decide +kernel
theorem d_DiscMakerModel_idByte_23 : decode b_DiscMakerModel_idByte 23 = .ok (.aload_n 0, 1) := by decide +kernel
theorem d_DiscMakerModel_idByte_24 : decode b_DiscMakerModel_idByte 24 = .ok (.iload_n 3, 1) := by decide +kernel
theorem d_DiscMakerModel_idByte_25 : decode b_DiscMakerModel_idByte 25 = .ok (.iload 4, 2) := by decide +kernel
theorem d_DiscMakerModel_idByte_27 : decode b_DiscMakerModel_idByte 27 = .ok (.iconst 2, 1) := by decide +kernel
theorem d_DiscMakerModel_idByte_28 : decode b_DiscMakerModel_idByte 28 = .ok (.idiv, 1) := by decide +kernel
theorem d_DiscMakerModel_idByte_29 : decode b_DiscMakerModel_idByte 29 = .ok (.invokevirtual 131, 3) := by decide +kernel
theorem d_DiscMakerModel_idByte_32 : decode b_DiscMakerModel_idByte 32 = .ok (.ireturn, 1) := by decide +kernel
theorem d_DiscMakerModel_idByte_33 : decode b_DiscMakerModel_idByte 33 = .ok (.aload_n 0, 1) := by decide +kernel
theorem d_DiscMakerModel_idByte_34 : decode b_DiscMakerModel_idByte 34 = .ok (.getfield 50, 3) := by decide +kernel
theorem d_DiscMakerModel_idByte_37 : decode b_DiscMakerModel_idByte 37 = .ok (.iload_n 3, 1) := by decide +kernel
theorem d_DiscMakerModel_idByte_38 : decode b_DiscMakerModel_idByte 38 = .ok (.iaload, 1) := by decide +kernel
theorem d_DiscMakerModel_idByte_39 : decode b_DiscMakerModel_idByte 39 = .ok (.istore 5, 2) := by decide +kernel
theorem d_DiscMakerModel_idByte_41 : decode b_DiscMakerModel_idByte 41 = .ok (.iload 4, 2) := by decide +kernel
theorem d_DiscMakerModel_idByte_43 : decode b_DiscMakerModel_idByte 43 = .ok (.iload 5, 2) := by decide +kernel
theorem d_DiscMakerModel_idByte_45 : decode b_DiscMakerModel_idByte 45 = .ok (.if_icmp .ge 16, 3) := by decide +kernel
theorem d_DiscMakerModel_idByte_48 : decode b_DiscMakerModel_idByte 48 = .ok (.aload_n 0, 1) := by decide +kernel
theorem d_DiscMakerModel_idByte_49 : decode b_DiscMakerModel_idByte 49 = .ok (.getfield 47, 3) := by decide +kernel
theorem d_DiscMakerModel_idByte_52 : decode b_DiscMakerModel_idByte 52 = .ok (.bipush 8, 2) := by decide +kernel
theorem d_DiscMakerModel_idByte_54 : decode b_DiscMakerModel_idByte 54 = .ok (.iload_n 3, 1) := by decide +kernel
theorem d_DiscMakerModel_idByte_55 : decode b_DiscMakerModel_idByte 55 = .ok (.imul, 1) := by decide +kernel
theorem d_DiscMakerModel_idByte_56 : decode b_DiscMakerModel_idByte 56 = .ok (.iload 4, 2) := by decide +kernel
theorem d_DiscMakerModel_idByte_58 : decode b_DiscMakerModel_idByte 58 = .ok (.iadd, 1) := by decide +kernel
theorem d_DiscMakerModel_idByte_59 : decode b_DiscMakerModel_idByte 59 = .ok (.baload, 1) := by decide +kernel
theorem d_DiscMakerModel_idByte_60 : decode b_DiscMakerModel_idByte 60 = .ok (.ireturn, 1) := by decide +kernel
theorem d_DiscMakerModel_idByte_61 : decode b_DiscMakerModel_idByte 61 = .ok (.iload 4, 2) := by decide +kernel
theorem d_DiscMakerModel_idByte_63 : decode b_DiscMakerModel_idByte 63 = .ok (.iload 5, 2) := by decide +kernel
theorem d_DiscMakerModel_idByte_65 : decode b_DiscMakerModel_idByte 65 = .ok (.if_icmp .ne 6, 3) := by decide +kernel
theorem d_DiscMakerModel_idByte_68 : decode b_DiscMakerModel_idByte 68 = .ok (.bipush 46, 2) := by decide +kernel
theorem d_DiscMakerModel_idByte_70 : decode b_DiscMakerModel_idByte 70 = .ok (.ireturn, 1) := by decide +kernel
theorem d_DiscMakerModel_idByte_71 : decode b_DiscMakerModel_idByte 71 = .ok (.iload 4, 2) := by decide +kernel
theorem d_DiscMakerModel_idByte_73 : decode b_DiscMakerModel_idByte 73 = .ok (.iload 5, 2) := by decide +kernel
theorem d_DiscMakerModel_idByte_75 : decode b_DiscMakerModel_idByte 75 = .ok (.aload_n 0, 1) := by decide +kernel
theorem d_DiscMakerModel_idByte_76 : decode b_DiscMakerModel_idByte 76 = .ok (.getfield 56, 3) := by decide +kernel
theorem d_DiscMakerModel_idByte_79 : decode b_DiscMakerModel_idByte 79 = .ok (.iload_n 3, 1) := by decide +kernel
theorem d_DiscMakerModel_idByte_80 : decode b_DiscMakerModel_idByte 80 = .ok (.iaload, 1) := by decide +kernel
theorem d_DiscMakerModel_idByte_81 : decode b_DiscMakerModel_idByte 81 = .ok (.iadd, 1) := by decide +kernel
theorem d_DiscMakerModel_idByte_82 : decode b_DiscMakerModel_idByte 82 = .ok (.if_icmp .gt 20, 3) := by decide +kernel
theorem d_DiscMakerModel_idByte_85 : decode b_DiscMakerModel_idByte 85 = .ok (.aload_n 0, 1) := by decide +kernel
theorem d_DiscMakerModel_idByte_86 : decode b_DiscMakerModel_idByte 86 = .ok (.getfield 53, 3) := by decide +kernel
theorem d_DiscMakerModel_idByte_89 : decode b_DiscMakerModel_idByte 89 = .ok (.iconst 3, 1) := by decide +kernel
theorem d_DiscMakerModel_idByte_90 : decode b_DiscMakerModel_idByte 90 = .ok (.iload_n 3, 1) := by decide +kernel
theorem d_DiscMakerModel_idByte_91 : decode b_DiscMakerModel_idByte 91 = .ok (.imul, 1) := by decide +kernel
theorem d_DiscMakerModel_idByte_92 : decode b_DiscMakerModel_idByte 92 = .ok (.iload 4, 2) := by decide +kernel
theorem d_DiscMakerModel_idByte_94 : decode b_DiscMakerModel_idByte 94 = .ok (.iadd, 1) := by decide +kernel
theorem d_DiscMakerModel_idByte_95 : decode b_DiscMakerModel_idByte 95 = .ok (.iload 5, 2) := by decide +kernel
theorem d_DiscMakerModel_idByte_97 : decode b_DiscMakerModel_idByte 97 = .ok (.isub, 1) := by decide +kernel
theorem d_DiscMakerModel_idByte_98 : decode b_DiscMakerModel_idByte 98 = .ok (.iconst 1, 1) := by decide +kernel
theorem d_DiscMakerModel_idByte_99 : decode b_DiscMakerModel_idByte 99 = .ok (.isub, 1) := by decide +kernel
theorem d_DiscMakerModel_idByte_100 : decode b_DiscMakerModel_idByte 100 = .ok (.baload, 1) := by decide +kernel
theorem d_DiscMakerModel_idByte_101 : decode b_DiscMakerModel_idByte 101 = .ok (.ireturn, 1) := by decide +kernel
theorem d_DiscMakerModel_idByte_102 : decode b_DiscMakerModel_idByte 102 = .ok (.iload 4, 2) := by decide +kernel
theorem d_DiscMakerModel_idByte_104 : decode b_DiscMakerModel_idByte 104 = .ok (.iload 5, 2) := by decide +kernel
theorem d_DiscMakerModel_idByte_106 : decode b_DiscMakerModel_idByte 106 = .ok (.aload_n 0, 1) := by decide +kernel
theorem d_DiscMakerModel_idByte_107 : decode b_DiscMakerModel_idByte 107 = .ok (.getfield 56, 3) := by decide +kernel
theorem d_DiscMakerModel_idByte_110 : decode b_DiscMakerModel_idByte 110 = .ok (.iload_n 3, 1) := by decide +kernel
theorem d_DiscMakerModel_idByte_111 : decode b_DiscMakerModel_idByte 111 = .ok (.iaload, 1) := by decide +kernel
theorem d_DiscMakerModel_idByte_112 : decode b_DiscMakerModel_idByte 112 = .ok (.iadd, 1) := by decide +kernel
theorem d_DiscMakerModel_idByte_113 : decode b_DiscMakerModel_idByte 113 = .ok (.iconst 1, 1) := by decide +kernel
theorem d_DiscMakerModel_idByte_114 : decode b_DiscMakerModel_idByte 114 = .ok (.iadd, 1) := by decide +kernel
theorem d_DiscMakerModel_idByte_115 : decode b_DiscMakerModel_idByte 115 = .ok (.if_icmp .ne 8, 3) := by decide +kernel
theorem d_DiscMakerModel_idByte_118 : decode b_DiscMakerModel_idByte 118 = .ok (.bipush 59, 2) := by decide +kernel
theorem d_DiscMakerModel_idByte_120 : decode b_DiscMakerModel_idByte 120 = .ok (.goto 5, 3) := by decide +kernel
theorem d_DiscMakerModel_idByte_123 : decode b_DiscMakerModel_idByte 123 = .ok (.bipush 49, 2) := by decide +kernel
theorem d_DiscMakerModel_idByte_125 : decode b_DiscMakerModel_idByte 125 = .ok (.ireturn, 1) := by decide +kernel
set_option maxHeartbeats 4000000 in
set_option maxRecDepth 100000 in
theorem m_idByte (l : Launch) (D : va_G) (cB cI cJ cZ cN cF : ClassId) (sz : Nat) (h0 : Nat) (ma : Nat → Nat) (sv_thrown sv_length sv_nodes sv_many sv_directories sv_runsFrom sv_runs sv_read sv_wrong sv_isNamed sv_goes sv_goesSize sv_goesAt sv_targetParts sv_isRoot : Int32) (fN : Nat → Int32) (fNS : Nat → Int32) (fBa : Nat → Int32) (fBs : Nat → Int32) (fEx : Nat → Int32) (fEs : Nat → Int32) (x : Int32) (y : Int32) (z : Int32) (w : Int32) (hz0 : 0 ≤ z.toInt ∧ z.toInt < 40) (hw0 : 0 ≤ w.toInt ∧ w.toInt < 60) (hNS : Rg 0 30 40 fNS) (hBs : Rg 0 8 40 fBs) (hEs : Rg 0 3 40 fEs) : Met l y_DiscMakerModel_idByte w_DiscMakerModel_idByte ({ frames := 1, cells := 0, slots := 0, locals := 22 }) (va_Pc [.ref h0, .int x, .int y, .int z, .int w] (fun U => U.heap.size = sz ∧ va_P D CL [(h0, .inr (11, MO ma sv_thrown sv_length sv_nodes sv_many sv_directories sv_runsFrom sv_runs sv_read sv_wrong sv_isNamed sv_goes sv_goesSize sv_goesAt sv_targetParts sv_isRoot)), ((ma 8), .inl (cB, 1200, .inl fN)), ((ma 9), .inl (cI, 40, .inl fNS)), ((ma 12), .inl (cB, 320, .inl fBa)), ((ma 13), .inl (cI, 40, .inl fBs)), ((ma 14), .inl (cB, 120, .inl fEx)), ((ma 15), .inl (cI, 40, .inl fEs))] U.heap ∧ va_K D CL (TY cB cI cJ cZ cN cF) U ∧ NN U ∧ va_D (fun _ => True) [(h0, .inr (11, MO ma sv_thrown sv_length sv_nodes sv_many sv_directories sv_runsFrom sv_runs sv_read sv_wrong sv_isNamed sv_goes sv_goesSize sv_goesAt sv_targetParts sv_isRoot)), ((ma 8), .inl (cB, 1200, .inl fN)), ((ma 9), .inl (cI, 40, .inl fNS)), ((ma 12), .inl (cB, 320, .inl fBa)), ((ma 13), .inl (cI, 40, .inl fBs)), ((ma 14), .inl (cB, 120, .inl fEx)), ((ma 15), .inl (cI, 40, .inl fEs))])) (va_Qi (fun (r : Int32) (u : Unit) => True) (fun (u : Unit) (t : State) => match u with | () => va_P D CL [(h0, .inr (11, MO ma sv_thrown sv_length sv_nodes sv_many sv_directories sv_runsFrom sv_runs sv_read sv_wrong sv_isNamed sv_goes sv_goesSize sv_goesAt sv_targetParts sv_isRoot)), ((ma 8), .inl (cB, 1200, .inl fN)), ((ma 9), .inl (cI, 40, .inl fNS)), ((ma 12), .inl (cB, 320, .inl fBa)), ((ma 13), .inl (cI, 40, .inl fBs)), ((ma 14), .inl (cB, 120, .inl fEx)), ((ma 15), .inl (cI, 40, .inl fEs))] t.heap ∧ va_D (va_A [(h0, .inr (11, MO ma sv_thrown sv_length sv_nodes sv_many sv_directories sv_runsFrom sv_runs sv_read sv_wrong sv_isNamed sv_goes sv_goesSize sv_goesAt sv_targetParts sv_isRoot)), ((ma 8), .inl (cB, 1200, .inl fN)), ((ma 9), .inl (cI, 40, .inl fNS)), ((ma 12), .inl (cB, 320, .inl fBa)), ((ma 13), .inl (cI, 40, .inl fBs)), ((ma 14), .inl (cB, 120, .inl fEx)), ((ma 15), .inl (cI, 40, .inl fEs))] sz) [(h0, .inr (11, MO ma sv_thrown sv_length sv_nodes sv_many sv_directories sv_runsFrom sv_runs sv_read sv_wrong sv_isNamed sv_goes sv_goesSize sv_goesAt sv_targetParts sv_isRoot)), ((ma 8), .inl (cB, 1200, .inl fN)), ((ma 9), .inl (cI, 40, .inl fNS)), ((ma 12), .inl (cB, 320, .inl fBa)), ((ma 13), .inl (cI, 40, .inl fBs)), ((ma 14), .inl (cB, 120, .inl fEx)), ((ma 15), .inl (cI, 40, .inl fEs))]) (va_A [(h0, .inr (11, MO ma sv_thrown sv_length sv_nodes sv_many sv_directories sv_runsFrom sv_runs sv_read sv_wrong sv_isNamed sv_goes sv_goesSize sv_goesAt sv_targetParts sv_isRoot)), ((ma 8), .inl (cB, 1200, .inl fN)), ((ma 9), .inl (cI, 40, .inl fNS)), ((ma 12), .inl (cB, 320, .inl fBa)), ((ma 13), .inl (cI, 40, .inl fBs)), ((ma 14), .inl (cB, 120, .inl fEx)), ((ma 15), .inl (cI, 40, .inl fEs))] sz)) 0 0 (va_A [(h0, .inr (11, MO ma sv_thrown sv_length sv_nodes sv_many sv_directories sv_runsFrom sv_runs sv_read sv_wrong sv_isNamed sv_goes sv_goesSize sv_goesAt sv_targetParts sv_isRoot)), ((ma 8), .inl (cB, 1200, .inl fN)), ((ma 9), .inl (cI, 40, .inl fNS)), ((ma 12), .inl (cB, 320, .inl fBa)), ((ma 13), .inl (cI, 40, .inl fBs)), ((ma 14), .inl (cB, 120, .inl fEx)), ((ma 15), .inl (cI, 40, .inl fEs))] sz) := by
  refine Met.ofW (cc := b_DiscMakerModel_idByte) (maxL := 6) (ret := some .int) (by decide) rfl ?_
  intro p e s m args below meth c s₁ B hml hv
  obtain ⟨rfl, hsz, hP, hK, hN, hD0⟩ := hv
  have hx := B.exec
  have hb := B.bytes
  have hr := B.returns
  have hts := atoms_spec (ws := w_DiscMakerModel_idByte) B.pre
  have ht9 := fun (w : Cond) (h : w ∈ lw_g) => hts w (List.mem_cons_of_mem _ h)
  have hown : s.vm.findClass "DiscMakerModel" = some m.cls := findClass_of_methodNamed B.named
  have hlocks := B.notSynchronized
  subst hsz
  have hD := hD0.self (sz := s.heap.size)
  generalize hAe : va_A [(h0, .inr (11, MO ma sv_thrown sv_length sv_nodes sv_many sv_directories sv_runsFrom sv_runs sv_read sv_wrong sv_isNamed sv_goes sv_goesSize sv_goesAt sv_targetParts sv_isRoot)), ((ma 8), .inl (cB, 1200, .inl fN)), ((ma 9), .inl (cI, 40, .inl fNS)), ((ma 12), .inl (cB, 320, .inl fBa)), ((ma 13), .inl (cI, 40, .inl fBs)), ((ma 14), .inl (cB, 120, .inl fEx)), ((ma 15), .inl (cI, 40, .inl fEs))] s.heap.size = A at hD ⊢
  have hA : ∀ q : Nat, s.heap.size ≤ q → A q := fun q h => by rw [← hAe]; exact Or.inr h
  have hS : va_S A s.heap s.heap [] := va_S.rf
  have hP : va_P D CL [(h0, .inr (11, MO ma sv_thrown sv_length sv_nodes sv_many sv_directories sv_runsFrom sv_runs sv_read sv_wrong sv_isNamed sv_goes sv_goesSize sv_goesAt sv_targetParts sv_isRoot)), ((ma 8), .inl (cB, 1200, .inl fN)), ((ma 9), .inl (cI, 40, .inl fNS)), ((ma 12), .inl (cB, 320, .inl fBa)), ((ma 13), .inl (cI, 40, .inl fBs)), ((ma 14), .inl (cB, 120, .inl fEx)), ((ma 15), .inl (cI, 40, .inl fEs))] s.heap := hP
  have hl := lv_entry [.ref h0, .int x, .int y, .int z, .int w] (n := 6) (Nat.le_of_ble_eq_true rfl)
  rw [lg_entry_eq]
  generalize (lg_sl [.ref h0, .int x, .int y, .int z, .int w] ++ List.replicate (6 - (lg_sl [.ref h0, .int x, .int y, .int z, .int w]).length) Slot.unset).toArray = ls at hl ⊢
  have hl : lv_has ls 6 [(0, .ref h0), (1, .int x), (2, .int y), (3, .int z), (4, .int w)] := hl
  have L_m1 : ((-1) : Int32).toInt = (-1) := by decide
  have L_0 : (0 : Int32).toInt = 0 := by decide
  have L_1 : (1 : Int32).toInt = 1 := by decide
  have L_2 : (2 : Int32).toInt = 2 := by decide
  have L_3 : (3 : Int32).toInt = 3 := by decide
  have L_8 : (8 : Int32).toInt = 8 := by decide
  have L_46 : (46 : Int32).toInt = 46 := by decide
  have L_49 : (49 : Int32).toInt = 49 := by decide
  have L_59 : (59 : Int32).toInt = 59 := by decide
  refine lv_iload_n hx hb d_DiscMakerModel_idByte_0 rfl (lv_at hl 2 rfl) ?_
  refine lv_iconst (v := 2) hx hb d_DiscMakerModel_idByte_1 (by decide) ?_
  refine lv_icmp_ge (tgt := 7) hx hb d_DiscMakerModel_idByte_2 (by decide) (fun h_9 => ?_) (fun h_9 => ?_)
  · skip
    have g2_3 : 2 ≤ y.toInt := (i_le (by decide) rfl).mp h_9
    refine lv_iload_n hx hb d_DiscMakerModel_idByte_7 rfl (lv_at hl 1 rfl) ?_
    refine lv_iconst (v := 1) hx hb d_DiscMakerModel_idByte_8 (by decide) ?_
    refine lv_icmp_ne (tgt := 33) hx hb d_DiscMakerModel_idByte_9 (by decide) (fun h_9 => ?_) (fun h_9 => ?_)
    · skip
      have g9_6 : ¬ x.toInt = 1 := fun h8 => h_9 ((i_eq rfl (by decide)).mpr h8)
      refine lv_aload_n hx hb d_DiscMakerModel_idByte_33 rfl (lv_at hl 0 rfl) ?_
      refine va_get (D := D) (ci := 11) (v := .ref (ma 13)) (C := "DiscMakerModel") (T := F_DiscMakerModel) (N := 48) hx hb ht9 in_DiscMakerModel hown hK hP 0 rfl rfl 16 (by decide) (ht9 _ k1447) (fun _ h9 => h9) rfl d_DiscMakerModel_idByte_34 ?_
      refine lv_iload_n hx hb d_DiscMakerModel_idByte_37 rfl (lv_at hl 3 rfl) ?_
      refine va_iald hx hb hK hP 4 1 rfl rfl (vp_in_iff.mpr ⟨by omega, by omega⟩) d_DiscMakerModel_idByte_38 ?_
      refine lv_topi (fun v1 e_v1 => ?_)
      have t_v1 : 0 ≤ v1.toInt ∧ v1.toInt ≤ 8 := by
        rw [e_v1]; exact hBs _ (by have := i_cl (a := z) (by omega); omega)
      refine lv_istore hx hb d_DiscMakerModel_idByte_39 hl (by decide) rfl (fun ls hl => ?_)
      have hl : lv_has ls 6 [(5, .int v1), (0, .ref h0), (1, .int x), (2, .int y), (3, .int z), (4, .int w)] := hl
      refine lv_iload hx hb d_DiscMakerModel_idByte_41 (lv_at hl 5 rfl) ?_
      refine lv_iload hx hb d_DiscMakerModel_idByte_43 (lv_at hl 0 rfl) ?_
      refine lv_icmp_ge (tgt := 61) hx hb d_DiscMakerModel_idByte_45 (by decide) (fun h_9 => ?_) (fun h_9 => ?_)
      · skip
        have g45_14 : v1.toInt ≤ w.toInt := (i_le rfl rfl).mp h_9
        refine lv_iload hx hb d_DiscMakerModel_idByte_61 (lv_at hl 5 rfl) ?_
        refine lv_iload hx hb d_DiscMakerModel_idByte_63 (lv_at hl 0 rfl) ?_
        refine lv_icmp_ne (tgt := 71) hx hb d_DiscMakerModel_idByte_65 (by decide) (fun h_9 => ?_) (fun h_9 => ?_)
        · skip
          have g65_17 : ¬ w.toInt = v1.toInt := fun h8 => h_9 ((i_eq rfl rfl).mpr h8)
          refine lv_iload hx hb d_DiscMakerModel_idByte_71 (lv_at hl 5 rfl) ?_
          refine lv_iload hx hb d_DiscMakerModel_idByte_73 (lv_at hl 0 rfl) ?_
          refine lv_aload_n hx hb d_DiscMakerModel_idByte_75 rfl (lv_at hl 1 rfl) ?_
          refine va_get (D := D) (ci := 11) (v := .ref (ma 15)) (C := "DiscMakerModel") (T := F_DiscMakerModel) (N := 48) hx hb ht9 in_DiscMakerModel hown hK hP 0 rfl rfl 18 (by decide) (ht9 _ k1449) (fun _ h9 => h9) rfl d_DiscMakerModel_idByte_76 ?_
          refine lv_iload_n hx hb d_DiscMakerModel_idByte_79 rfl (lv_at hl 4 rfl) ?_
          refine va_iald hx hb hK hP 6 1 rfl rfl (vp_in_iff.mpr ⟨by omega, by omega⟩) d_DiscMakerModel_idByte_80 ?_
          refine lv_topi (fun v2 e_v2 => ?_)
          have t_v2 : 0 ≤ v2.toInt ∧ v2.toInt ≤ 3 := by
            rw [e_v2]; exact hEs _ (by have := i_cl (a := z) (by omega); omega)
          refine lv_iadd hx hb d_DiscMakerModel_idByte_81 ?_
          refine lv_topi (fun v3 e_v3 => ?_)
          have t_v3 : v3.toInt = v1.toInt + v2.toInt := by rw [e_v3]; exact i_add rfl rfl (by omega) (by omega)
          refine lv_icmp_gt (tgt := 102) hx hb d_DiscMakerModel_idByte_82 (by decide) (fun h_9 => ?_) (fun h_9 => ?_)
          · skip
            have g82_25 : v3.toInt < w.toInt := (i_lt rfl rfl).mp h_9
            refine lv_iload hx hb d_DiscMakerModel_idByte_102 (lv_at hl 5 rfl) ?_
            refine lv_iload hx hb d_DiscMakerModel_idByte_104 (lv_at hl 0 rfl) ?_
            refine lv_aload_n hx hb d_DiscMakerModel_idByte_106 rfl (lv_at hl 1 rfl) ?_
            refine va_get (D := D) (ci := 11) (v := .ref (ma 15)) (C := "DiscMakerModel") (T := F_DiscMakerModel) (N := 48) hx hb ht9 in_DiscMakerModel hown hK hP 0 rfl rfl 18 (by decide) (ht9 _ k1449) (fun _ h9 => h9) rfl d_DiscMakerModel_idByte_107 ?_
            refine lv_iload_n hx hb d_DiscMakerModel_idByte_110 rfl (lv_at hl 4 rfl) ?_
            refine va_iald hx hb hK hP 6 1 rfl rfl (vp_in_iff.mpr ⟨by omega, by omega⟩) d_DiscMakerModel_idByte_111 ?_
            refine lv_topi (fun v4 e_v4 => ?_)
            have t_v4 : 0 ≤ v4.toInt ∧ v4.toInt ≤ 3 := by
              rw [e_v4]; exact hEs _ (by have := i_cl (a := z) (by omega); omega)
            have q_v4 : v4.toInt = v2.toInt := by rw [e_v4, e_v2]
            refine lv_iadd hx hb d_DiscMakerModel_idByte_112 ?_
            refine lv_topi (fun v5 e_v5 => ?_)
            have t_v5 : v5.toInt = v1.toInt + v4.toInt := by rw [e_v5]; exact i_add rfl rfl (by omega) (by omega)
            refine lv_iconst (v := 1) hx hb d_DiscMakerModel_idByte_113 (by decide) ?_
            refine lv_iadd hx hb d_DiscMakerModel_idByte_114 ?_
            refine lv_topi (fun v6 e_v6 => ?_)
            have t_v6 : v6.toInt = v5.toInt + 1 := by rw [e_v6]; exact i_add rfl (by decide) (by omega) (by omega)
            refine lv_icmp_ne (tgt := 123) hx hb d_DiscMakerModel_idByte_115 (by decide) (fun h_9 => ?_) (fun h_9 => ?_)
            · skip
              have g115_35 : ¬ w.toInt = v6.toInt := fun h8 => h_9 ((i_eq rfl rfl).mpr h8)
              refine lv_bipush (v := 49) hx hb d_DiscMakerModel_idByte_123 (by decide) ?_
              have hP9 := hP.sub (ws' := [(h0, .inr (11, MO ma sv_thrown sv_length sv_nodes sv_many sv_directories sv_runsFrom sv_runs sv_read sv_wrong sv_isNamed sv_goes sv_goesSize sv_goesAt sv_targetParts sv_isRoot)), ((ma 8), .inl (cB, 1200, .inl fN)), ((ma 9), .inl (cI, 40, .inl fNS)), ((ma 12), .inl (cB, 320, .inl fBa)), ((ma 13), .inl (cI, 40, .inl fBs)), ((ma 14), .inl (cB, 120, .inl fEx)), ((ma 15), .inl (cI, 40, .inl fEs))]) [0, 1, 2, 3, 4, 5, 6] rfl
              have hD9 := hD.sub (ws' := [(h0, .inr (11, MO ma sv_thrown sv_length sv_nodes sv_many sv_directories sv_runsFrom sv_runs sv_read sv_wrong sv_isNamed sv_goes sv_goesSize sv_goesAt sv_targetParts sv_isRoot)), ((ma 8), .inl (cB, 1200, .inl fN)), ((ma 9), .inl (cI, 40, .inl fNS)), ((ma 12), .inl (cB, 320, .inl fBa)), ((ma 13), .inl (cI, 40, .inl fBs)), ((ma 14), .inl (cB, 120, .inl fEx)), ((ma 15), .inl (cI, 40, .inl fEs))]) [0, 1, 2, 3, 4, 5, 6] (by decide +kernel) rfl
              exact W.iret (v := 49) hx hb hr (fun t ht hW => ⟨⟨49, (), rfl, trivial, by rw [ht]; exact hP9, hD9⟩, hS.F ht⟩) hS.2.2 d_DiscMakerModel_idByte_125
            · skip
              have g115_35 : w.toInt = v6.toInt := (i_eq rfl rfl).mp h_9
              refine lv_bipush (v := 59) hx hb d_DiscMakerModel_idByte_118 (by decide) ?_
              refine lv_goto (tgt := 125) hx hb d_DiscMakerModel_idByte_120 (by decide) ?_
              have hP9 := hP.sub (ws' := [(h0, .inr (11, MO ma sv_thrown sv_length sv_nodes sv_many sv_directories sv_runsFrom sv_runs sv_read sv_wrong sv_isNamed sv_goes sv_goesSize sv_goesAt sv_targetParts sv_isRoot)), ((ma 8), .inl (cB, 1200, .inl fN)), ((ma 9), .inl (cI, 40, .inl fNS)), ((ma 12), .inl (cB, 320, .inl fBa)), ((ma 13), .inl (cI, 40, .inl fBs)), ((ma 14), .inl (cB, 120, .inl fEx)), ((ma 15), .inl (cI, 40, .inl fEs))]) [0, 1, 2, 3, 4, 5, 6] rfl
              have hD9 := hD.sub (ws' := [(h0, .inr (11, MO ma sv_thrown sv_length sv_nodes sv_many sv_directories sv_runsFrom sv_runs sv_read sv_wrong sv_isNamed sv_goes sv_goesSize sv_goesAt sv_targetParts sv_isRoot)), ((ma 8), .inl (cB, 1200, .inl fN)), ((ma 9), .inl (cI, 40, .inl fNS)), ((ma 12), .inl (cB, 320, .inl fBa)), ((ma 13), .inl (cI, 40, .inl fBs)), ((ma 14), .inl (cB, 120, .inl fEx)), ((ma 15), .inl (cI, 40, .inl fEs))]) [0, 1, 2, 3, 4, 5, 6] (by decide +kernel) rfl
              exact W.iret (v := 59) hx hb hr (fun t ht hW => ⟨⟨59, (), rfl, trivial, by rw [ht]; exact hP9, hD9⟩, hS.F ht⟩) hS.2.2 d_DiscMakerModel_idByte_125
          · skip
            have g82_25 : ¬ v3.toInt < w.toInt := fun h8 => h_9 ((i_lt rfl rfl).mpr h8)
            refine lv_aload_n hx hb d_DiscMakerModel_idByte_85 rfl (lv_at hl 1 rfl) ?_
            refine va_get (D := D) (ci := 11) (v := .ref (ma 14)) (C := "DiscMakerModel") (T := F_DiscMakerModel) (N := 48) hx hb ht9 in_DiscMakerModel hown hK hP 0 rfl rfl 17 (by decide) (ht9 _ k1448) (fun _ h9 => h9) rfl d_DiscMakerModel_idByte_86 ?_
            refine lv_iconst (v := 3) hx hb d_DiscMakerModel_idByte_89 (by decide) ?_
            refine lv_iload_n hx hb d_DiscMakerModel_idByte_90 rfl (lv_at hl 4 rfl) ?_
            refine lv_imul hx hb d_DiscMakerModel_idByte_91 ?_
            refine lv_topi (fun v7 e_v7 => ?_)
            have t_v7 : v7.toInt = 3 * z.toInt := by rw [e_v7]; exact i_mul (by decide) rfl (by omega) (by omega)
            refine lv_iload hx hb d_DiscMakerModel_idByte_92 (lv_at hl 5 rfl) ?_
            refine lv_iadd hx hb d_DiscMakerModel_idByte_94 ?_
            refine lv_topi (fun v8 e_v8 => ?_)
            have t_v8 : v8.toInt = v7.toInt + w.toInt := by rw [e_v8]; exact i_add rfl rfl (by omega) (by omega)
            refine lv_iload hx hb d_DiscMakerModel_idByte_95 (lv_at hl 0 rfl) ?_
            refine lv_isub hx hb d_DiscMakerModel_idByte_97 ?_
            refine lv_topi (fun v9 e_v9 => ?_)
            have t_v9 : v9.toInt = v8.toInt - v1.toInt := by rw [e_v9]; exact i_sub rfl rfl (by omega) (by omega)
            refine lv_iconst (v := 1) hx hb d_DiscMakerModel_idByte_98 (by decide) ?_
            refine lv_isub hx hb d_DiscMakerModel_idByte_99 ?_
            refine lv_topi (fun v10 e_v10 => ?_)
            have t_v10 : v10.toInt = v9.toInt - 1 := by rw [e_v10]; exact i_sub rfl (by decide) (by omega) (by omega)
            refine va_bald hx hb hK hP 5 0 rfl rfl (vp_in_iff.mpr ⟨by omega, by omega⟩) d_DiscMakerModel_idByte_100 ?_
            refine lv_topi (fun v11 e_v11 => ?_)
            have hP9 := hP.sub (ws' := [(h0, .inr (11, MO ma sv_thrown sv_length sv_nodes sv_many sv_directories sv_runsFrom sv_runs sv_read sv_wrong sv_isNamed sv_goes sv_goesSize sv_goesAt sv_targetParts sv_isRoot)), ((ma 8), .inl (cB, 1200, .inl fN)), ((ma 9), .inl (cI, 40, .inl fNS)), ((ma 12), .inl (cB, 320, .inl fBa)), ((ma 13), .inl (cI, 40, .inl fBs)), ((ma 14), .inl (cB, 120, .inl fEx)), ((ma 15), .inl (cI, 40, .inl fEs))]) [0, 1, 2, 3, 4, 5, 6] rfl
            have hD9 := hD.sub (ws' := [(h0, .inr (11, MO ma sv_thrown sv_length sv_nodes sv_many sv_directories sv_runsFrom sv_runs sv_read sv_wrong sv_isNamed sv_goes sv_goesSize sv_goesAt sv_targetParts sv_isRoot)), ((ma 8), .inl (cB, 1200, .inl fN)), ((ma 9), .inl (cI, 40, .inl fNS)), ((ma 12), .inl (cB, 320, .inl fBa)), ((ma 13), .inl (cI, 40, .inl fBs)), ((ma 14), .inl (cB, 120, .inl fEx)), ((ma 15), .inl (cI, 40, .inl fEs))]) [0, 1, 2, 3, 4, 5, 6] (by decide +kernel) rfl
            exact W.iret (v := v11) hx hb hr (fun t ht hW => ⟨⟨v11, (), rfl, trivial, by rw [ht]; exact hP9, hD9⟩, hS.F ht⟩) hS.2.2 d_DiscMakerModel_idByte_101
        · skip
          have g65_17 : w.toInt = v1.toInt := (i_eq rfl rfl).mp h_9
          refine lv_bipush (v := 46) hx hb d_DiscMakerModel_idByte_68 (by decide) ?_
          have hP9 := hP.sub (ws' := [(h0, .inr (11, MO ma sv_thrown sv_length sv_nodes sv_many sv_directories sv_runsFrom sv_runs sv_read sv_wrong sv_isNamed sv_goes sv_goesSize sv_goesAt sv_targetParts sv_isRoot)), ((ma 8), .inl (cB, 1200, .inl fN)), ((ma 9), .inl (cI, 40, .inl fNS)), ((ma 12), .inl (cB, 320, .inl fBa)), ((ma 13), .inl (cI, 40, .inl fBs)), ((ma 14), .inl (cB, 120, .inl fEx)), ((ma 15), .inl (cI, 40, .inl fEs))]) [0, 1, 2, 3, 4, 5, 6] rfl
          have hD9 := hD.sub (ws' := [(h0, .inr (11, MO ma sv_thrown sv_length sv_nodes sv_many sv_directories sv_runsFrom sv_runs sv_read sv_wrong sv_isNamed sv_goes sv_goesSize sv_goesAt sv_targetParts sv_isRoot)), ((ma 8), .inl (cB, 1200, .inl fN)), ((ma 9), .inl (cI, 40, .inl fNS)), ((ma 12), .inl (cB, 320, .inl fBa)), ((ma 13), .inl (cI, 40, .inl fBs)), ((ma 14), .inl (cB, 120, .inl fEx)), ((ma 15), .inl (cI, 40, .inl fEs))]) [0, 1, 2, 3, 4, 5, 6] (by decide +kernel) rfl
          exact W.iret (v := 46) hx hb hr (fun t ht hW => ⟨⟨46, (), rfl, trivial, by rw [ht]; exact hP9, hD9⟩, hS.F ht⟩) hS.2.2 d_DiscMakerModel_idByte_70
      · skip
        have g45_14 : ¬ v1.toInt ≤ w.toInt := fun h8 => h_9 ((i_le rfl rfl).mpr h8)
        refine lv_aload_n hx hb d_DiscMakerModel_idByte_48 rfl (lv_at hl 1 rfl) ?_
        refine va_get (D := D) (ci := 11) (v := .ref (ma 12)) (C := "DiscMakerModel") (T := F_DiscMakerModel) (N := 48) hx hb ht9 in_DiscMakerModel hown hK hP 0 rfl rfl 15 (by decide) (ht9 _ k1446) (fun _ h9 => h9) rfl d_DiscMakerModel_idByte_49 ?_
        refine lv_bipush (v := 8) hx hb d_DiscMakerModel_idByte_52 (by decide) ?_
        refine lv_iload_n hx hb d_DiscMakerModel_idByte_54 rfl (lv_at hl 4 rfl) ?_
        refine lv_imul hx hb d_DiscMakerModel_idByte_55 ?_
        refine lv_topi (fun v12 e_v12 => ?_)
        have t_v12 : v12.toInt = 8 * z.toInt := by rw [e_v12]; exact i_mul (by decide) rfl (by omega) (by omega)
        refine lv_iload hx hb d_DiscMakerModel_idByte_56 (lv_at hl 5 rfl) ?_
        refine lv_iadd hx hb d_DiscMakerModel_idByte_58 ?_
        refine lv_topi (fun v13 e_v13 => ?_)
        have t_v13 : v13.toInt = v12.toInt + w.toInt := by rw [e_v13]; exact i_add rfl rfl (by omega) (by omega)
        refine va_bald hx hb hK hP 3 0 rfl rfl (vp_in_iff.mpr ⟨by omega, by omega⟩) d_DiscMakerModel_idByte_59 ?_
        refine lv_topi (fun v14 e_v14 => ?_)
        have hP9 := hP.sub (ws' := [(h0, .inr (11, MO ma sv_thrown sv_length sv_nodes sv_many sv_directories sv_runsFrom sv_runs sv_read sv_wrong sv_isNamed sv_goes sv_goesSize sv_goesAt sv_targetParts sv_isRoot)), ((ma 8), .inl (cB, 1200, .inl fN)), ((ma 9), .inl (cI, 40, .inl fNS)), ((ma 12), .inl (cB, 320, .inl fBa)), ((ma 13), .inl (cI, 40, .inl fBs)), ((ma 14), .inl (cB, 120, .inl fEx)), ((ma 15), .inl (cI, 40, .inl fEs))]) [0, 1, 2, 3, 4, 5, 6] rfl
        have hD9 := hD.sub (ws' := [(h0, .inr (11, MO ma sv_thrown sv_length sv_nodes sv_many sv_directories sv_runsFrom sv_runs sv_read sv_wrong sv_isNamed sv_goes sv_goesSize sv_goesAt sv_targetParts sv_isRoot)), ((ma 8), .inl (cB, 1200, .inl fN)), ((ma 9), .inl (cI, 40, .inl fNS)), ((ma 12), .inl (cB, 320, .inl fBa)), ((ma 13), .inl (cI, 40, .inl fBs)), ((ma 14), .inl (cB, 120, .inl fEx)), ((ma 15), .inl (cI, 40, .inl fEs))]) [0, 1, 2, 3, 4, 5, 6] (by decide +kernel) rfl
        exact W.iret (v := v14) hx hb hr (fun t ht hW => ⟨⟨v14, (), rfl, trivial, by rw [ht]; exact hP9, hD9⟩, hS.F ht⟩) hS.2.2 d_DiscMakerModel_idByte_60
    · skip
      have g9_6 : x.toInt = 1 := (i_eq rfl (by decide)).mp h_9
      refine lv_iload hx hb d_DiscMakerModel_idByte_12 (lv_at hl 4 rfl) ?_
      refine lv_iconst (v := 2) hx hb d_DiscMakerModel_idByte_14 (by decide) ?_
      refine lv_irem hx hb d_DiscMakerModel_idByte_15 (by decide) ?_
      refine lv_topi (fun v15 e_v15 => ?_)
      have t_v15 : v15.toInt = w.toInt % 2 := by rw [e_v15]; exact i_rem rfl (by decide) (by omega) (by omega)
      refine lv_if_ne (tgt := 23) hx hb d_DiscMakerModel_idByte_16 (by decide) (fun h_9 => ?_) (fun h_9 => ?_)
      · skip
        have g16_68 : ¬ v15.toInt = 0 := fun h8 => h_9 ((i_eq rfl (by decide)).mpr h8)
        refine lv_aload_n hx hb d_DiscMakerModel_idByte_23 rfl (lv_at hl 0 rfl) ?_
        refine lv_iload_n hx hb d_DiscMakerModel_idByte_24 rfl (lv_at hl 3 rfl) ?_
        refine lv_iload hx hb d_DiscMakerModel_idByte_25 (lv_at hl 4 rfl) ?_
        refine lv_iconst (v := 2) hx hb d_DiscMakerModel_idByte_27 (by decide) ?_
        refine lv_idiv hx hb d_DiscMakerModel_idByte_28 (by decide) ?_
        refine lv_topi (fun v16 e_v16 => ?_)
        have t_v16 : v16.toInt = w.toInt / 2 := by rw [e_v16]; exact i_div rfl (by decide) (by omega) (by omega)
        have hPc := hP.sub (ws' := [(h0, .inr (11, MO ma sv_thrown sv_length sv_nodes sv_many sv_directories sv_runsFrom sv_runs sv_read sv_wrong sv_isNamed sv_goes sv_goesSize sv_goesAt sv_targetParts sv_isRoot)), ((ma 8), .inl (cB, 1200, .inl fN)), ((ma 9), .inl (cI, 40, .inl fNS))]) [0, 1, 2] rfl
        have hDc := hD.sub (ws' := [(h0, .inr (11, MO ma sv_thrown sv_length sv_nodes sv_many sv_directories sv_runsFrom sv_runs sv_read sv_wrong sv_isNamed sv_goes sv_goesSize sv_goesAt sv_targetParts sv_isRoot)), ((ma 8), .inl (cB, 1200, .inl fN)), ((ma 9), .inl (cI, 40, .inl fNS))]) [0, 1, 2] (by decide +kernel) rfl
        have hFc := va_free (wc := [(h0, .inr (11, MO ma sv_thrown sv_length sv_nodes sv_many sv_directories sv_runsFrom sv_runs sv_read sv_wrong sv_isNamed sv_goes sv_goesSize sv_goesAt sv_targetParts sv_isRoot)), ((ma 8), .inl (cB, 1200, .inl fN)), ((ma 9), .inl (cI, 40, .inl fNS))]) hD hS hA [0, 1, 2] rfl
        have hkc : 0 ≤ 0 := by decide
        have hks : 0 ≤ 0 := by decide
        refine va_calli (va_runV (C := "DiscMakerModel") (As := [.int z, .int v16]) (rest := []) ⟨hx, hb, hml, hown, hts⟩ (m_nameOf l D cB cI cJ cZ cN cF s.heap.size h0 ma sv_thrown sv_length sv_nodes sv_many sv_directories sv_runsFrom sv_runs sv_read sv_wrong sv_isNamed sv_goes sv_goesSize sv_goesAt sv_targetParts sv_isRoot fN fNS z v16 (by (try dsimp only); first | assumption | omega | trivial) (by (try dsimp only); first | assumption | omega | trivial) (by (try dsimp only); first | assumption | omega | trivial)) (cwV 2 hts (lg_goodV k1616 k1618 k56 k125 kc_DiscMakerModel_nameOf) rfl rfl rfl (by decide +kernel) ⟨Nat.le_of_ble_eq_true rfl, Nat.le_of_ble_eq_true rfl⟩) ⟨fun a U g mk q => by obtain ⟨q0, q1, qP, qK, qN, qD⟩ := q; exact ⟨q0, q1, qP, va_K.moved (u := U) (U := U.calling g mk a) (Vm.Alike.refl U.vm) qK, qN.calling, qD⟩, va_recv hK hP (ci := 11) (q0 := 0) rfl rfl, fun U hU hW => ⟨rfl, by rw [hU], by rw [hU]; exact hPc, va_K.moved hW.alike hK, NN.warm hW hN, hDc.weaken (fun _ _ _ _ => trivial)⟩⟩ rfl rfl hl.1 rfl (lv_room (Nat.le_of_ble_eq_true rfl)) d_DiscMakerModel_idByte_29 ⟨hkc, hks⟩) hS (fun q _ h => hFc q h) hFc (fun r17 u t H1 locs ht hvm hp_r17 hB hz1 hk1 hS => ?_)
        obtain ⟨hP1, hD1⟩ := hB
        rw [ht] at hP1
        obtain ⟨hP, hD⟩ := va_join (wr := [((ma 12), .inl (cB, 320, .inl fBa)), ((ma 13), .inl (cI, 40, .inl fBs)), ((ma 14), .inl (cB, 120, .inl fEx)), ((ma 15), .inl (cI, 40, .inl fEs))]) (w1 := [(h0, .inr (11, MO ma sv_thrown sv_length sv_nodes sv_many sv_directories sv_runsFrom sv_runs sv_read sv_wrong sv_isNamed sv_goes sv_goesSize sv_goesAt sv_targetParts sv_isRoot)), ((ma 8), .inl (cB, 1200, .inl fN)), ((ma 9), .inl (cI, 40, .inl fNS))]) hP hD [0, 1, 2] [3, 4, 5, 6] rfl rfl (by decide +kernel) (by decide +kernel) hk1 hFc hP1 hD1
        clear hPc hDc hFc hP1 hD1 hk1 hz1 hkc hks
        generalize H1 = H at hP hS ⊢
        have hP : va_P D CL [((ma 12), .inl (cB, 320, .inl fBa)), ((ma 13), .inl (cI, 40, .inl fBs)), ((ma 14), .inl (cB, 120, .inl fEx)), ((ma 15), .inl (cI, 40, .inl fEs)), (h0, .inr (11, MO ma sv_thrown sv_length sv_nodes sv_many sv_directories sv_runsFrom sv_runs sv_read sv_wrong sv_isNamed sv_goes sv_goesSize sv_goesAt sv_targetParts sv_isRoot)), ((ma 8), .inl (cB, 1200, .inl fN)), ((ma 9), .inl (cI, 40, .inl fNS))] H := hP
        have hD : va_D A [((ma 12), .inl (cB, 320, .inl fBa)), ((ma 13), .inl (cI, 40, .inl fBs)), ((ma 14), .inl (cB, 120, .inl fEx)), ((ma 15), .inl (cI, 40, .inl fEs)), (h0, .inr (11, MO ma sv_thrown sv_length sv_nodes sv_many sv_directories sv_runsFrom sv_runs sv_read sv_wrong sv_isNamed sv_goes sv_goesSize sv_goesAt sv_targetParts sv_isRoot)), ((ma 8), .inl (cB, 1200, .inl fN)), ((ma 9), .inl (cI, 40, .inl fNS))] := hD
        try dsimp only at hp_r17
        obtain ⟨hr_18, hv_19⟩ := hp_r17
        have hP9 := hP.sub (ws' := [(h0, .inr (11, MO ma sv_thrown sv_length sv_nodes sv_many sv_directories sv_runsFrom sv_runs sv_read sv_wrong sv_isNamed sv_goes sv_goesSize sv_goesAt sv_targetParts sv_isRoot)), ((ma 8), .inl (cB, 1200, .inl fN)), ((ma 9), .inl (cI, 40, .inl fNS)), ((ma 12), .inl (cB, 320, .inl fBa)), ((ma 13), .inl (cI, 40, .inl fBs)), ((ma 14), .inl (cB, 120, .inl fEx)), ((ma 15), .inl (cI, 40, .inl fEs))]) [4, 5, 6, 0, 1, 2, 3] rfl
        have hD9 := hD.sub (ws' := [(h0, .inr (11, MO ma sv_thrown sv_length sv_nodes sv_many sv_directories sv_runsFrom sv_runs sv_read sv_wrong sv_isNamed sv_goes sv_goesSize sv_goesAt sv_targetParts sv_isRoot)), ((ma 8), .inl (cB, 1200, .inl fN)), ((ma 9), .inl (cI, 40, .inl fNS)), ((ma 12), .inl (cB, 320, .inl fBa)), ((ma 13), .inl (cI, 40, .inl fBs)), ((ma 14), .inl (cB, 120, .inl fEx)), ((ma 15), .inl (cI, 40, .inl fEs))]) [4, 5, 6, 0, 1, 2, 3] (by decide +kernel) rfl
        exact W.iret (v := r17) hx hb hr (fun t ht hW => ⟨⟨r17, (), rfl, trivial, by rw [ht]; exact hP9, hD9⟩, hS.F ht⟩) hS.2.2 d_DiscMakerModel_idByte_32
      · skip
        have g16_68 : v15.toInt = 0 := (i_eq rfl (by decide)).mp h_9
        refine lv_iconst (v := 0) hx hb d_DiscMakerModel_idByte_19 (by decide) ?_
        refine lv_goto (tgt := 32) hx hb d_DiscMakerModel_idByte_20 (by decide) ?_
        have hP9 := hP.sub (ws' := [(h0, .inr (11, MO ma sv_thrown sv_length sv_nodes sv_many sv_directories sv_runsFrom sv_runs sv_read sv_wrong sv_isNamed sv_goes sv_goesSize sv_goesAt sv_targetParts sv_isRoot)), ((ma 8), .inl (cB, 1200, .inl fN)), ((ma 9), .inl (cI, 40, .inl fNS)), ((ma 12), .inl (cB, 320, .inl fBa)), ((ma 13), .inl (cI, 40, .inl fBs)), ((ma 14), .inl (cB, 120, .inl fEx)), ((ma 15), .inl (cI, 40, .inl fEs))]) [0, 1, 2, 3, 4, 5, 6] rfl
        have hD9 := hD.sub (ws' := [(h0, .inr (11, MO ma sv_thrown sv_length sv_nodes sv_many sv_directories sv_runsFrom sv_runs sv_read sv_wrong sv_isNamed sv_goes sv_goesSize sv_goesAt sv_targetParts sv_isRoot)), ((ma 8), .inl (cB, 1200, .inl fN)), ((ma 9), .inl (cI, 40, .inl fNS)), ((ma 12), .inl (cB, 320, .inl fBa)), ((ma 13), .inl (cI, 40, .inl fBs)), ((ma 14), .inl (cB, 120, .inl fEx)), ((ma 15), .inl (cI, 40, .inl fEs))]) [0, 1, 2, 3, 4, 5, 6] (by decide +kernel) rfl
        exact W.iret (v := 0) hx hb hr (fun t ht hW => ⟨⟨0, (), rfl, trivial, by rw [ht]; exact hP9, hD9⟩, hS.F ht⟩) hS.2.2 d_DiscMakerModel_idByte_32
  · skip
    have g2_3 : ¬ 2 ≤ y.toInt := fun h8 => h_9 ((i_le (by decide) rfl).mpr h8)
    refine lv_iload_n hx hb d_DiscMakerModel_idByte_5 rfl (lv_at hl 2 rfl) ?_
    have hP9 := hP.sub (ws' := [(h0, .inr (11, MO ma sv_thrown sv_length sv_nodes sv_many sv_directories sv_runsFrom sv_runs sv_read sv_wrong sv_isNamed sv_goes sv_goesSize sv_goesAt sv_targetParts sv_isRoot)), ((ma 8), .inl (cB, 1200, .inl fN)), ((ma 9), .inl (cI, 40, .inl fNS)), ((ma 12), .inl (cB, 320, .inl fBa)), ((ma 13), .inl (cI, 40, .inl fBs)), ((ma 14), .inl (cB, 120, .inl fEx)), ((ma 15), .inl (cI, 40, .inl fEs))]) [0, 1, 2, 3, 4, 5, 6] rfl
    have hD9 := hD.sub (ws' := [(h0, .inr (11, MO ma sv_thrown sv_length sv_nodes sv_many sv_directories sv_runsFrom sv_runs sv_read sv_wrong sv_isNamed sv_goes sv_goesSize sv_goesAt sv_targetParts sv_isRoot)), ((ma 8), .inl (cB, 1200, .inl fN)), ((ma 9), .inl (cI, 40, .inl fNS)), ((ma 12), .inl (cB, 320, .inl fBa)), ((ma 13), .inl (cI, 40, .inl fBs)), ((ma 14), .inl (cB, 120, .inl fEx)), ((ma 15), .inl (cI, 40, .inl fEs))]) [0, 1, 2, 3, 4, 5, 6] (by decide +kernel) rfl
    exact W.iret (v := y) hx hb hr (fun t ht hW => ⟨⟨y, (), rfl, trivial, by rw [ht]; exact hP9, hD9⟩, hS.F ht⟩) hS.2.2 d_DiscMakerModel_idByte_6
