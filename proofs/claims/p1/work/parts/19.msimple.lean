theorem d_DiscMakerModel_thrown_0 : decode b_DiscMakerModel_thrown 0 = .ok (.aload_n 0, 1) := by decide +kernel
theorem d_DiscMakerModel_thrown_1 : decode b_DiscMakerModel_thrown 1 = .ok (.getfield 118, 3) := by decide +kernel
theorem d_DiscMakerModel_thrown_4 : decode b_DiscMakerModel_thrown 4 = .ok (.ireturn, 1) := by decide +kernel
set_option maxHeartbeats 4000000 in
set_option maxRecDepth 100000 in
theorem c_m_thrown (l : Launch) (D : va_G) (cB cI cJ cZ cN cF : ClassId) (sz : Nat) (h0 atext akind aparent amode aowner agroup asize aseed aname anameSize atarget atargetSize abase abaseSize aextension aextensionSize aimage atable asector asectors acontents aabove aisDirectory abytes aplace areadMode areadOwner areadGroup areadName areadNameSize areadTarget areadTargetSize adepth : Nat) (tv wv : Int32) : Met l y_DiscMakerModel_thrown w_DiscMakerModel_thrown ({ frames := 0, cells := 0, slots := 0, locals := 0 }) (va_Pc [.ref h0] (fun U => U.heap.size = sz ∧ va_P D CL [(h0, .inr (11, [.int tv, .ref atext, .int 0, .int 1, .ref akind, .ref aparent, .ref amode, .ref aowner, .ref agroup, .ref asize, .ref aseed, .ref aname, .ref anameSize, .ref atarget, .ref atargetSize, .ref abase, .ref abaseSize, .ref aextension, .ref aextensionSize, .ref aimage, .int 0, .ref atable, .ref asector, .ref asectors, .ref acontents, .int 0, .int 0, .int 0, .int 0, .ref aabove, .ref aisDirectory, .ref abytes, .ref aplace, .ref areadMode, .ref areadOwner, .ref areadGroup, .ref areadName, .ref areadNameSize, .ref areadTarget, .ref areadTargetSize, .ref adepth, .int wv, .int 0, .int 0, .int 0, .int 0, .int 0, .int 0]))] U.heap ∧ va_K D CL (TY cB cI cJ cZ cN cF) U ∧ NN U ∧ va_D (fun _ => True) [(h0, .inr (11, [.int tv, .ref atext, .int 0, .int 1, .ref akind, .ref aparent, .ref amode, .ref aowner, .ref agroup, .ref asize, .ref aseed, .ref aname, .ref anameSize, .ref atarget, .ref atargetSize, .ref abase, .ref abaseSize, .ref aextension, .ref aextensionSize, .ref aimage, .int 0, .ref atable, .ref asector, .ref asectors, .ref acontents, .int 0, .int 0, .int 0, .int 0, .ref aabove, .ref aisDirectory, .ref abytes, .ref aplace, .ref areadMode, .ref areadOwner, .ref areadGroup, .ref areadName, .ref areadNameSize, .ref areadTarget, .ref areadTargetSize, .ref adepth, .int wv, .int 0, .int 0, .int 0, .int 0, .int 0, .int 0]))])) (va_Qi (fun (r : Int32) (u : Unit) => r = tv) (fun (u : Unit) (t : State) => match u with | () => va_P D CL [] t.heap ∧ va_D (va_A [(h0, .inr (11, [.int tv, .ref atext, .int 0, .int 1, .ref akind, .ref aparent, .ref amode, .ref aowner, .ref agroup, .ref asize, .ref aseed, .ref aname, .ref anameSize, .ref atarget, .ref atargetSize, .ref abase, .ref abaseSize, .ref aextension, .ref aextensionSize, .ref aimage, .int 0, .ref atable, .ref asector, .ref asectors, .ref acontents, .int 0, .int 0, .int 0, .int 0, .ref aabove, .ref aisDirectory, .ref abytes, .ref aplace, .ref areadMode, .ref areadOwner, .ref areadGroup, .ref areadName, .ref areadNameSize, .ref areadTarget, .ref areadTargetSize, .ref adepth, .int wv, .int 0, .int 0, .int 0, .int 0, .int 0, .int 0]))] sz) []) (va_A [(h0, .inr (11, [.int tv, .ref atext, .int 0, .int 1, .ref akind, .ref aparent, .ref amode, .ref aowner, .ref agroup, .ref asize, .ref aseed, .ref aname, .ref anameSize, .ref atarget, .ref atargetSize, .ref abase, .ref abaseSize, .ref aextension, .ref aextensionSize, .ref aimage, .int 0, .ref atable, .ref asector, .ref asectors, .ref acontents, .int 0, .int 0, .int 0, .int 0, .ref aabove, .ref aisDirectory, .ref abytes, .ref aplace, .ref areadMode, .ref areadOwner, .ref areadGroup, .ref areadName, .ref areadNameSize, .ref areadTarget, .ref areadTargetSize, .ref adepth, .int wv, .int 0, .int 0, .int 0, .int 0, .int 0, .int 0]))] sz)) 0 0 (va_A [(h0, .inr (11, [.int tv, .ref atext, .int 0, .int 1, .ref akind, .ref aparent, .ref amode, .ref aowner, .ref agroup, .ref asize, .ref aseed, .ref aname, .ref anameSize, .ref atarget, .ref atargetSize, .ref abase, .ref abaseSize, .ref aextension, .ref aextensionSize, .ref aimage, .int 0, .ref atable, .ref asector, .ref asectors, .ref acontents, .int 0, .int 0, .int 0, .int 0, .ref aabove, .ref aisDirectory, .ref abytes, .ref aplace, .ref areadMode, .ref areadOwner, .ref areadGroup, .ref areadName, .ref areadNameSize, .ref areadTarget, .ref areadTargetSize, .ref adepth, .int wv, .int 0, .int 0, .int 0, .int 0, .int 0, .int 0]))] sz) := by
  refine Met.ofW (cc := b_DiscMakerModel_thrown) (maxL := 1) (ret := some .int) (by decide) rfl ?_
  intro p e s m args below meth c s₁ B hml hv
  obtain ⟨rfl, hsz, hP, hK, hN, hD0⟩ := hv
  have hx := B.exec
  have hb := B.bytes
  have hr := B.returns
  have hts := atoms_spec (ws := w_DiscMakerModel_thrown) B.pre
  have ht9 := fun (w : Cond) (h : w ∈ lw_g) => hts w (List.mem_cons_of_mem _ h)
  have hown : s.vm.findClass "DiscMakerModel" = some m.cls := findClass_of_methodNamed B.named
  have hlocks := B.notSynchronized
  subst hsz
  have hD := hD0.self (sz := s.heap.size)
  generalize hAe : va_A [(h0, .inr (11, [.int tv, .ref atext, .int 0, .int 1, .ref akind, .ref aparent, .ref amode, .ref aowner, .ref agroup, .ref asize, .ref aseed, .ref aname, .ref anameSize, .ref atarget, .ref atargetSize, .ref abase, .ref abaseSize, .ref aextension, .ref aextensionSize, .ref aimage, .int 0, .ref atable, .ref asector, .ref asectors, .ref acontents, .int 0, .int 0, .int 0, .int 0, .ref aabove, .ref aisDirectory, .ref abytes, .ref aplace, .ref areadMode, .ref areadOwner, .ref areadGroup, .ref areadName, .ref areadNameSize, .ref areadTarget, .ref areadTargetSize, .ref adepth, .int wv, .int 0, .int 0, .int 0, .int 0, .int 0, .int 0]))] s.heap.size = A at hD ⊢
  have hA : ∀ q : Nat, s.heap.size ≤ q → A q := fun q h => by rw [← hAe]; exact Or.inr h
  have hS : va_S A s.heap s.heap [] := va_S.rf
  have hP : va_P D CL [(h0, .inr (11, [.int tv, .ref atext, .int 0, .int 1, .ref akind, .ref aparent, .ref amode, .ref aowner, .ref agroup, .ref asize, .ref aseed, .ref aname, .ref anameSize, .ref atarget, .ref atargetSize, .ref abase, .ref abaseSize, .ref aextension, .ref aextensionSize, .ref aimage, .int 0, .ref atable, .ref asector, .ref asectors, .ref acontents, .int 0, .int 0, .int 0, .int 0, .ref aabove, .ref aisDirectory, .ref abytes, .ref aplace, .ref areadMode, .ref areadOwner, .ref areadGroup, .ref areadName, .ref areadNameSize, .ref areadTarget, .ref areadTargetSize, .ref adepth, .int wv, .int 0, .int 0, .int 0, .int 0, .int 0, .int 0]))] s.heap := hP
  have hl := lv_entry [.ref h0] (n := 1) (Nat.le_of_ble_eq_true rfl)
  rw [lg_entry_eq]
  generalize (lg_sl [.ref h0] ++ List.replicate (1 - (lg_sl [.ref h0]).length) Slot.unset).toArray = ls at hl ⊢
  have hl : lv_has ls 1 [(0, .ref h0)] := hl
  refine lv_aload_n hx hb d_DiscMakerModel_thrown_0 rfl (lv_at hl 0 rfl) ?_
  refine va_get (D := D) (ci := 11) (v := .int tv) (C := "DiscMakerModel") (T := F_DiscMakerModel) (N := 48) hx hb ht9 in_DiscMakerModel hown hK hP 0 rfl rfl 0 (by decide) (ht9 _ k1431) (fun _ h9 => h9) rfl d_DiscMakerModel_thrown_1 ?_
  have hP9 := hP.sub (ws' := []) [] rfl
  have hD9 := hD.sub (ws' := []) [] (by decide) rfl
  exact W.iret (v := tv) hx hb hr (fun t ht hW => ⟨⟨tv, (), rfl, rfl, by rw [ht]; exact hP9, hD9⟩, hS.F ht⟩) hS.2.2 d_DiscMakerModel_thrown_4

theorem d_DiscMakerModel_feed_0 : decode b_DiscMakerModel_feed 0 = .ok (.aload_n 0, 1) := by decide +kernel
theorem d_DiscMakerModel_feed_1 : decode b_DiscMakerModel_feed 1 = .ok (.iconst 0, 1) := by decide +kernel
theorem d_DiscMakerModel_feed_2 : decode b_DiscMakerModel_feed 2 = .ok (.putfield 118, 3) := by decide +kernel
theorem d_DiscMakerModel_feed_5 : decode b_DiscMakerModel_feed 5 = .ok (.aload_n 0, 1) := by decide +kernel
theorem d_DiscMakerModel_feed_6 : decode b_DiscMakerModel_feed 6 = .ok (.getfield 121, 3) := by decide +kernel
theorem d_DiscMakerModel_feed_9 : decode b_DiscMakerModel_feed 9 = .ok (.bipush 20, 2) := by decide +kernel
theorem d_DiscMakerModel_feed_11 : decode b_DiscMakerModel_feed 11 = .ok (.iadd, 1) := by decide +kernel
theorem d_DiscMakerModel_feed_12 : decode b_DiscMakerModel_feed 12 = .ok (.sipush 400, 3) := by decide +kernel
theorem d_DiscMakerModel_feed_15 : decode b_DiscMakerModel_feed 15 = .ok (.if_icmp .le 5, 3) := by decide +kernel
theorem d_DiscMakerModel_feed_20 : decode b_DiscMakerModel_feed 20 = .ok (.iconst 0, 1) := by decide +kernel
theorem d_DiscMakerModel_feed_21 : decode b_DiscMakerModel_feed 21 = .ok (.istore 6, 2) := by decide +kernel
theorem d_DiscMakerModel_feed_23 : decode b_DiscMakerModel_feed 23 = .ok (.iload 6, 2) := by decide +kernel
theorem d_DiscMakerModel_feed_25 : decode b_DiscMakerModel_feed 25 = .ok (.bipush 20, 2) := by decide +kernel
theorem d_DiscMakerModel_feed_27 : decode b_DiscMakerModel_feed 27 = .ok (.if_icmp .ge 83, 3) := by decide +kernel
theorem d_DiscMakerModel_feed_30 : decode b_DiscMakerModel_feed 30 = .ok (.iload 6, 2) := by decide +kernel
theorem d_DiscMakerModel_feed_32 : decode b_DiscMakerModel_feed 32 = .ok (.iconst 4, 1) := by decide +kernel
theorem d_DiscMakerModel_feed_33 : decode b_DiscMakerModel_feed 33 = .ok (.if_icmp .ge 7, 3) := by decide +kernel
theorem d_DiscMakerModel_feed_36 : decode b_DiscMakerModel_feed 36 = .ok (.iload_n 1, 1) := by decide +kernel
theorem d_DiscMakerModel_feed_37 : decode b_DiscMakerModel_feed 37 = .ok (.goto 39, 3) := by decide +kernel
theorem d_DiscMakerModel_feed_40 : decode b_DiscMakerModel_feed 40 = .ok (.iload 6, 2) := by decide +kernel
theorem d_DiscMakerModel_feed_42 : decode b_DiscMakerModel_feed 42 = .ok (.bipush 8, 2) := by decide +kernel
theorem d_DiscMakerModel_feed_44 : decode b_DiscMakerModel_feed 44 = .ok (.if_icmp .ge 7, 3) := by decide +kernel
theorem d_DiscMakerModel_feed_47 : decode b_DiscMakerModel_feed 47 = .ok (.iload_n 2, 1) := by decide +kernel
theorem d_DiscMakerModel_feed_48 : decode b_DiscMakerModel_feed 48 = .ok (.goto 28, 3) := by decide +kernel
theorem d_DiscMakerModel_feed_51 : decode b_DiscMakerModel_feed 51 = .ok (.iload 6, 2) := by decide +kernel
theorem d_DiscMakerModel_feed_53 : decode b_DiscMakerModel_feed 53 = .ok (.bipush 12, 2) := by decide +kernel
theorem d_DiscMakerModel_feed_55 : decode b_DiscMakerModel_feed 55 = .ok (.if_icmp .ge 7, 3) := by decide +kernel
theorem d_DiscMakerModel_feed_58 : decode b_DiscMakerModel_feed 58 = .ok (.iload_n 3, 1) := by decide +kernel
theorem d_DiscMakerModel_feed_59 : decode b_DiscMakerModel_feed 59 = .ok (.goto 17, 3) := by decide +kernel
theorem d_DiscMakerModel_feed_62 : decode b_DiscMakerModel_feed 62 = .ok (.iload 6, 2) := by decide +kernel
theorem d_DiscMakerModel_feed_64 : decode b_DiscMakerModel_feed 64 = .ok (.bipush 16, 2) := by decide +kernel
theorem d_DiscMakerModel_feed_66 : decode b_DiscMakerModel_feed 66 = .ok (.if_icmp .ge 8, 3) := by decide +kernel
theorem d_DiscMakerModel_feed_69 : decode b_DiscMakerModel_feed 69 = .ok (.iload 4, 2) := by decide +kernel
theorem d_DiscMakerModel_feed_71 : decode b_DiscMakerModel_feed 71 = .ok (.goto 5, 3) := by decide +kernel
theorem d_DiscMakerModel_feed_74 : decode b_DiscMakerModel_feed 74 = .ok (.iload 5, 2) := by decide +kernel
theorem d_DiscMakerModel_feed_76 : decode b_DiscMakerModel_feed 76 = .ok (.istore 7, 2) := by decide +kernel
theorem d_DiscMakerModel_feed_78 : decode b_DiscMakerModel_feed 78 = .ok (.aload_n 0, 1) := by decide +kernel
theorem d_DiscMakerModel_feed_79 : decode b_DiscMakerModel_feed 79 = .ok (.getfield 7, 3) := by decide +kernel
theorem d_DiscMakerModel_feed_82 : decode b_DiscMakerModel_feed 82 = .ok (.aload_n 0, 1) := by decide +kernel
theorem d_DiscMakerModel_feed_83 : decode b_DiscMakerModel_feed 83 = .ok (.getfield 121, 3) := by decide +kernel
theorem d_DiscMakerModel_feed_86 : decode b_DiscMakerModel_feed 86 = .ok (.iload 6, 2) := by decide +kernel
theorem d_DiscMakerModel_feed_88 : decode b_DiscMakerModel_feed 88 = .ok (.iadd, 1) := by decide +kernel
theorem d_DiscMakerModel_feed_89 : decode b_DiscMakerModel_feed 89 = .ok (.iload 7, 2) := by decide +kernel
theorem d_DiscMakerModel_feed_91 : decode b_DiscMakerModel_feed 91 = .ok (.bipush 24, 2) := by decide +kernel
theorem d_DiscMakerModel_feed_93 : decode b_DiscMakerModel_feed 93 = .ok (.bipush 8, 2) := by decide +kernel
theorem d_DiscMakerModel_feed_95 : decode b_DiscMakerModel_feed 95 = .ok (.iload 6, 2) := by decide +kernel
theorem d_DiscMakerModel_feed_97 : decode b_DiscMakerModel_feed 97 = .ok (.iconst 4, 1) := by decide +kernel
theorem d_DiscMakerModel_feed_98 : decode b_DiscMakerModel_feed 98 = .ok (.irem, 1) := by decide +kernel
theorem d_DiscMakerModel_feed_99 : decode b_DiscMakerModel_feed 99 = .ok (.imul, 1) := by decide +kernel
theorem d_DiscMakerModel_feed_100 : decode b_DiscMakerModel_feed 100 = .ok (.isub, 1) := by decide +kernel
theorem d_DiscMakerModel_feed_101 : decode b_DiscMakerModel_feed 101 = .ok (.ishr, 1) := by decide +kernel
theorem d_DiscMakerModel_feed_102 : decode b_DiscMakerModel_feed 102 = .ok (.i2b, 1) := by decide +kernel
theorem d_DiscMakerModel_feed_103 : decode b_DiscMakerModel_feed 103 = .ok (.bastore, 1) := by decide +kernel
theorem d_DiscMakerModel_feed_104 : decode b_DiscMakerModel_feed 104 = .ok (.iinc 6 1, 3) := by decide +kernel
theorem d_DiscMakerModel_feed_107 : decode b_DiscMakerModel_feed 107 = .ok (.goto (-84), 3) := by decide +kernel
theorem d_DiscMakerModel_feed_110 : decode b_DiscMakerModel_feed 110 = .ok (.aload_n 0, 1) := by decide +kernel
theorem d_DiscMakerModel_feed_111 : decode b_DiscMakerModel_feed 111 = .ok (.dup, 1) := by decide +kernel
theorem d_DiscMakerModel_feed_112 : decode b_DiscMakerModel_feed 112 = .ok (.getfield 121, 3) := by decide +kernel
theorem d_DiscMakerModel_feed_115 : decode b_DiscMakerModel_feed 115 = .ok (.bipush 20, 2) := by decide +kernel
theorem d_DiscMakerModel_feed_117 : decode b_DiscMakerModel_feed 117 = .ok (.iadd, 1) := by decide +kernel
theorem d_DiscMakerModel_feed_118 : decode b_DiscMakerModel_feed 118 = .ok (.putfield 121, 3) := by decide +kernel
theorem d_DiscMakerModel_feed_121 : decode b_DiscMakerModel_feed 121 = .ok (.iconst 1, 1) := by decide +kernel
theorem d_DiscMakerModel_feed_122 : decode b_DiscMakerModel_feed 122 = .ok (.ireturn, 1) := by decide +kernel
set_option maxHeartbeats 4000000 in
set_option maxRecDepth 100000 in
theorem c_m_feed (l : Launch) (D : va_G) (cB cI cJ cZ cN cF : ClassId) (sz : Nat) (h0 atext akind aparent amode aowner agroup asize aseed aname anameSize atarget atargetSize abase abaseSize aextension aextensionSize aimage atable asector asectors acontents aabove aisDirectory abytes aplace areadMode areadOwner areadGroup areadName areadNameSize areadTarget areadTargetSize adepth : Nat) (f : Nat → Int32) (x1 x2 x3 x4 x5 : Int32) : Met l y_DiscMakerModel_feed w_DiscMakerModel_feed ({ frames := 0, cells := 0, slots := 0, locals := 0 }) (va_Pc [.ref h0, .int x1, .int x2, .int x3, .int x4, .int x5] (fun U => U.heap.size = sz ∧ va_P D CL [(h0, .inr (11, [.int 0, .ref atext, .int 0, .int 1, .ref akind, .ref aparent, .ref amode, .ref aowner, .ref agroup, .ref asize, .ref aseed, .ref aname, .ref anameSize, .ref atarget, .ref atargetSize, .ref abase, .ref abaseSize, .ref aextension, .ref aextensionSize, .ref aimage, .int 0, .ref atable, .ref asector, .ref asectors, .ref acontents, .int 0, .int 0, .int 0, .int 0, .ref aabove, .ref aisDirectory, .ref abytes, .ref aplace, .ref areadMode, .ref areadOwner, .ref areadGroup, .ref areadName, .ref areadNameSize, .ref areadTarget, .ref areadTargetSize, .ref adepth, .int 0, .int 0, .int 0, .int 0, .int 0, .int 0, .int 0])), (atext, .inl (cB, 400, .inl f))] U.heap ∧ va_K D CL (TY cB cI cJ cZ cN cF) U ∧ NN U ∧ va_D (fun _ => True) [(h0, .inr (11, [.int 0, .ref atext, .int 0, .int 1, .ref akind, .ref aparent, .ref amode, .ref aowner, .ref agroup, .ref asize, .ref aseed, .ref aname, .ref anameSize, .ref atarget, .ref atargetSize, .ref abase, .ref abaseSize, .ref aextension, .ref aextensionSize, .ref aimage, .int 0, .ref atable, .ref asector, .ref asectors, .ref acontents, .int 0, .int 0, .int 0, .int 0, .ref aabove, .ref aisDirectory, .ref abytes, .ref aplace, .ref areadMode, .ref areadOwner, .ref areadGroup, .ref areadName, .ref areadNameSize, .ref areadTarget, .ref areadTargetSize, .ref adepth, .int 0, .int 0, .int 0, .int 0, .int 0, .int 0, .int 0])), (atext, .inl (cB, 400, .inl f))])) (va_Qi (fun (r : Int32) (u : Unit) => r = 1) (fun (u : Unit) (t : State) => match u with | () => va_P D CL [] t.heap ∧ va_D (va_A [(h0, .inr (11, [.int 0, .ref atext, .int 0, .int 1, .ref akind, .ref aparent, .ref amode, .ref aowner, .ref agroup, .ref asize, .ref aseed, .ref aname, .ref anameSize, .ref atarget, .ref atargetSize, .ref abase, .ref abaseSize, .ref aextension, .ref aextensionSize, .ref aimage, .int 0, .ref atable, .ref asector, .ref asectors, .ref acontents, .int 0, .int 0, .int 0, .int 0, .ref aabove, .ref aisDirectory, .ref abytes, .ref aplace, .ref areadMode, .ref areadOwner, .ref areadGroup, .ref areadName, .ref areadNameSize, .ref areadTarget, .ref areadTargetSize, .ref adepth, .int 0, .int 0, .int 0, .int 0, .int 0, .int 0, .int 0])), (atext, .inl (cB, 400, .inl f))] sz) []) (va_A [(h0, .inr (11, [.int 0, .ref atext, .int 0, .int 1, .ref akind, .ref aparent, .ref amode, .ref aowner, .ref agroup, .ref asize, .ref aseed, .ref aname, .ref anameSize, .ref atarget, .ref atargetSize, .ref abase, .ref abaseSize, .ref aextension, .ref aextensionSize, .ref aimage, .int 0, .ref atable, .ref asector, .ref asectors, .ref acontents, .int 0, .int 0, .int 0, .int 0, .ref aabove, .ref aisDirectory, .ref abytes, .ref aplace, .ref areadMode, .ref areadOwner, .ref areadGroup, .ref areadName, .ref areadNameSize, .ref areadTarget, .ref areadTargetSize, .ref adepth, .int 0, .int 0, .int 0, .int 0, .int 0, .int 0, .int 0])), (atext, .inl (cB, 400, .inl f))] sz)) 0 0 (va_A [(h0, .inr (11, [.int 0, .ref atext, .int 0, .int 1, .ref akind, .ref aparent, .ref amode, .ref aowner, .ref agroup, .ref asize, .ref aseed, .ref aname, .ref anameSize, .ref atarget, .ref atargetSize, .ref abase, .ref abaseSize, .ref aextension, .ref aextensionSize, .ref aimage, .int 0, .ref atable, .ref asector, .ref asectors, .ref acontents, .int 0, .int 0, .int 0, .int 0, .ref aabove, .ref aisDirectory, .ref abytes, .ref aplace, .ref areadMode, .ref areadOwner, .ref areadGroup, .ref areadName, .ref areadNameSize, .ref areadTarget, .ref areadTargetSize, .ref adepth, .int 0, .int 0, .int 0, .int 0, .int 0, .int 0, .int 0])), (atext, .inl (cB, 400, .inl f))] sz) := by
  refine Met.ofW (cc := b_DiscMakerModel_feed) (maxL := 8) (ret := some .boolean) (by decide) rfl ?_
  intro p e s m args below meth c s₁ B hml hv
  obtain ⟨rfl, hsz, hP, hK, hN, hD0⟩ := hv
  have hx := B.exec
  have hb := B.bytes
  have hr := B.returns
  have hts := atoms_spec (ws := w_DiscMakerModel_feed) B.pre
  have ht9 := fun (w : Cond) (h : w ∈ lw_g) => hts w (List.mem_cons_of_mem _ h)
  have hown : s.vm.findClass "DiscMakerModel" = some m.cls := findClass_of_methodNamed B.named
  have hlocks := B.notSynchronized
  subst hsz
  have hD := hD0.self (sz := s.heap.size)
  generalize hAe : va_A [(h0, .inr (11, [.int 0, .ref atext, .int 0, .int 1, .ref akind, .ref aparent, .ref amode, .ref aowner, .ref agroup, .ref asize, .ref aseed, .ref aname, .ref anameSize, .ref atarget, .ref atargetSize, .ref abase, .ref abaseSize, .ref aextension, .ref aextensionSize, .ref aimage, .int 0, .ref atable, .ref asector, .ref asectors, .ref acontents, .int 0, .int 0, .int 0, .int 0, .ref aabove, .ref aisDirectory, .ref abytes, .ref aplace, .ref areadMode, .ref areadOwner, .ref areadGroup, .ref areadName, .ref areadNameSize, .ref areadTarget, .ref areadTargetSize, .ref adepth, .int 0, .int 0, .int 0, .int 0, .int 0, .int 0, .int 0])), (atext, .inl (cB, 400, .inl f))] s.heap.size = A at hD ⊢
  have hA : ∀ q : Nat, s.heap.size ≤ q → A q := fun q h => by rw [← hAe]; exact Or.inr h
  have hS : va_S A s.heap s.heap [] := va_S.rf
  have hP : va_P D CL [(h0, .inr (11, [.int 0, .ref atext, .int 0, .int 1, .ref akind, .ref aparent, .ref amode, .ref aowner, .ref agroup, .ref asize, .ref aseed, .ref aname, .ref anameSize, .ref atarget, .ref atargetSize, .ref abase, .ref abaseSize, .ref aextension, .ref aextensionSize, .ref aimage, .int 0, .ref atable, .ref asector, .ref asectors, .ref acontents, .int 0, .int 0, .int 0, .int 0, .ref aabove, .ref aisDirectory, .ref abytes, .ref aplace, .ref areadMode, .ref areadOwner, .ref areadGroup, .ref areadName, .ref areadNameSize, .ref areadTarget, .ref areadTargetSize, .ref adepth, .int 0, .int 0, .int 0, .int 0, .int 0, .int 0, .int 0])), (atext, .inl (cB, 400, .inl f))] s.heap := hP
  have hl := lv_entry [.ref h0, .int x1, .int x2, .int x3, .int x4, .int x5] (n := 8) (Nat.le_of_ble_eq_true rfl)
  rw [lg_entry_eq]
  generalize (lg_sl [.ref h0, .int x1, .int x2, .int x3, .int x4, .int x5] ++ List.replicate (8 - (lg_sl [.ref h0, .int x1, .int x2, .int x3, .int x4, .int x5]).length) Slot.unset).toArray = ls at hl ⊢
  have hl : lv_has ls 8 [(0, .ref h0), (1, .int x1), (2, .int x2), (3, .int x3), (4, .int x4), (5, .int x5)] := hl
  refine lv_aload_n hx hb d_DiscMakerModel_feed_0 rfl (lv_at hl 0 rfl) ?_
  refine lv_iconst (v := 0) hx hb d_DiscMakerModel_feed_1 (by decide) ?_
  refine va_put (D := D) (ci := 11) (v := .int 0) (ty := .int) (C := "DiscMakerModel") (T := F_DiscMakerModel) (N := 48) hx hb ht9 in_DiscMakerModel t_DiscMakerModel t_DiscMakerModel_ok n_DiscMakerModel hown hK hP hD hS 0 rfl rfl 0 (by decide) (ht9 _ k1431) (fun _ h9 => h9) rfl (by decide +kernel) rfl rfl (Nat.le_of_ble_eq_true rfl) d_DiscMakerModel_feed_2 (fun H locs hP hD hS => ?_)
  have hP : va_P D CL [(h0, .inr (11, [.int 0, .ref atext, .int 0, .int 1, .ref akind, .ref aparent, .ref amode, .ref aowner, .ref agroup, .ref asize, .ref aseed, .ref aname, .ref anameSize, .ref atarget, .ref atargetSize, .ref abase, .ref abaseSize, .ref aextension, .ref aextensionSize, .ref aimage, .int 0, .ref atable, .ref asector, .ref asectors, .ref acontents, .int 0, .int 0, .int 0, .int 0, .ref aabove, .ref aisDirectory, .ref abytes, .ref aplace, .ref areadMode, .ref areadOwner, .ref areadGroup, .ref areadName, .ref areadNameSize, .ref areadTarget, .ref areadTargetSize, .ref adepth, .int 0, .int 0, .int 0, .int 0, .int 0, .int 0, .int 0])), (atext, .inl (cB, 400, .inl f))] H := hP
  have hD : va_D A [(h0, .inr (11, [.int 0, .ref atext, .int 0, .int 1, .ref akind, .ref aparent, .ref amode, .ref aowner, .ref agroup, .ref asize, .ref aseed, .ref aname, .ref anameSize, .ref atarget, .ref atargetSize, .ref abase, .ref abaseSize, .ref aextension, .ref aextensionSize, .ref aimage, .int 0, .ref atable, .ref asector, .ref asectors, .ref acontents, .int 0, .int 0, .int 0, .int 0, .ref aabove, .ref aisDirectory, .ref abytes, .ref aplace, .ref areadMode, .ref areadOwner, .ref areadGroup, .ref areadName, .ref areadNameSize, .ref areadTarget, .ref areadTargetSize, .ref adepth, .int 0, .int 0, .int 0, .int 0, .int 0, .int 0, .int 0])), (atext, .inl (cB, 400, .inl f))] := hD
  refine lv_aload_n hx hb d_DiscMakerModel_feed_5 rfl (lv_at hl 0 rfl) ?_
  refine va_get (D := D) (ci := 11) (v := .int 0) (C := "DiscMakerModel") (T := F_DiscMakerModel) (N := 48) hx hb ht9 in_DiscMakerModel hown hK hP 0 rfl rfl 2 (by decide) (ht9 _ k1433) (fun _ h9 => h9) rfl d_DiscMakerModel_feed_6 ?_
  refine lv_bipush (v := 20) hx hb d_DiscMakerModel_feed_9 (by decide) ?_
  refine lv_iadd hx hb d_DiscMakerModel_feed_11 ?_
  refine W.eq (g2 := F0 m 12 ls [.int 20]) (by rw [show ((0 + 20) : Int32) = 20 from by decide]) ?_
  refine lv_sipush (v := 400) hx hb d_DiscMakerModel_feed_12 (by decide) ?_
  refine lv_icmp_le (tgt := 20) hx hb d_DiscMakerModel_feed_15 (by decide) (fun h_15 => ?_) (fun h_15 => absurd (by decide) h_15)
  refine lv_iconst (v := 0) hx hb d_DiscMakerModel_feed_20 (by decide) ?_
  refine lv_istore hx hb d_DiscMakerModel_feed_21 hl (by decide) rfl (fun ls hl => ?_)
  have hl : lv_has ls 8 [(6, .int 0), (0, .ref h0), (1, .int x1), (2, .int x2), (3, .int x3), (4, .int x4), (5, .int x5)] := hl
  refine lv_iload hx hb d_DiscMakerModel_feed_23 (lv_at hl 0 rfl) ?_
  refine lv_bipush (v := 20) hx hb d_DiscMakerModel_feed_25 (by decide) ?_
  refine lv_icmp_ge (tgt := 110) hx hb d_DiscMakerModel_feed_27 (by decide) (fun h_27 => absurd h_27 (by decide)) (fun h_27 => ?_)
  refine lv_iload hx hb d_DiscMakerModel_feed_30 (lv_at hl 0 rfl) ?_
  refine lv_iconst (v := 4) hx hb d_DiscMakerModel_feed_32 (by decide) ?_
  refine lv_icmp_ge (tgt := 40) hx hb d_DiscMakerModel_feed_33 (by decide) (fun h_33 => absurd h_33 (by decide)) (fun h_33 => ?_)
  refine lv_iload_n hx hb d_DiscMakerModel_feed_36 rfl (lv_at hl 2 rfl) ?_
  refine lv_goto (tgt := 76) hx hb d_DiscMakerModel_feed_37 (by decide) ?_
  refine lv_istore hx hb d_DiscMakerModel_feed_76 hl (by decide) rfl (fun ls hl => ?_)
  have hl : lv_has ls 8 [(7, .int x1), (6, .int 0), (0, .ref h0), (1, .int x1), (2, .int x2), (3, .int x3), (4, .int x4), (5, .int x5)] := hl
  refine lv_aload_n hx hb d_DiscMakerModel_feed_78 rfl (lv_at hl 2 rfl) ?_
  refine va_get (D := D) (ci := 11) (v := .ref atext) (C := "DiscMakerModel") (T := F_DiscMakerModel) (N := 48) hx hb ht9 in_DiscMakerModel hown hK hP 0 rfl rfl 1 (by decide) (ht9 _ k1432) (fun _ h9 => h9) rfl d_DiscMakerModel_feed_79 ?_
  refine lv_aload_n hx hb d_DiscMakerModel_feed_82 rfl (lv_at hl 2 rfl) ?_
  refine va_get (D := D) (ci := 11) (v := .int 0) (C := "DiscMakerModel") (T := F_DiscMakerModel) (N := 48) hx hb ht9 in_DiscMakerModel hown hK hP 0 rfl rfl 2 (by decide) (ht9 _ k1433) (fun _ h9 => h9) rfl d_DiscMakerModel_feed_83 ?_
  refine lv_iload hx hb d_DiscMakerModel_feed_86 (lv_at hl 1 rfl) ?_
  refine lv_iadd hx hb d_DiscMakerModel_feed_88 ?_
  refine W.eq (g2 := F0 m 89 ls [.int 0, .ref atext]) (by rw [show ((0 + 0) : Int32) = 0 from by decide]) ?_
  refine lv_iload hx hb d_DiscMakerModel_feed_89 (lv_at hl 0 rfl) ?_
  refine lv_bipush (v := 24) hx hb d_DiscMakerModel_feed_91 (by decide) ?_
  refine lv_bipush (v := 8) hx hb d_DiscMakerModel_feed_93 (by decide) ?_
  refine lv_iload hx hb d_DiscMakerModel_feed_95 (lv_at hl 1 rfl) ?_
  refine lv_iconst (v := 4) hx hb d_DiscMakerModel_feed_97 (by decide) ?_
  refine lv_irem hx hb d_DiscMakerModel_feed_98 (by decide) ?_
  refine W.eq (g2 := F0 m 99 ls [.int 0, .int 8, .int 24, .int x1, .int 0, .ref atext]) (by rw [show ((0 - 0 / 4 * 4) : Int32) = 0 from by decide]) ?_
  refine lv_imul hx hb d_DiscMakerModel_feed_99 ?_
  refine W.eq (g2 := F0 m 100 ls [.int 0, .int 24, .int x1, .int 0, .ref atext]) (by rw [show ((8 * 0) : Int32) = 0 from by decide]) ?_
  refine lv_isub hx hb d_DiscMakerModel_feed_100 ?_
  refine W.eq (g2 := F0 m 101 ls [.int 24, .int x1, .int 0, .ref atext]) (by rw [show ((24 - 0) : Int32) = 24 from by decide]) ?_
  refine lv_ishr hx hb d_DiscMakerModel_feed_101 ?_
  refine lv_i2b hx hb d_DiscMakerModel_feed_102 rfl ?_
  refine zz_bast hx hb hK hP hD hS 1 0 rfl rfl (by unfold vp_in; decide) d_DiscMakerModel_feed_103 (fun f_37 H locs hP hD hS => ?_)
  have hP : va_P D CL [(h0, .inr (11, [.int 0, .ref atext, .int 0, .int 1, .ref akind, .ref aparent, .ref amode, .ref aowner, .ref agroup, .ref asize, .ref aseed, .ref aname, .ref anameSize, .ref atarget, .ref atargetSize, .ref abase, .ref abaseSize, .ref aextension, .ref aextensionSize, .ref aimage, .int 0, .ref atable, .ref asector, .ref asectors, .ref acontents, .int 0, .int 0, .int 0, .int 0, .ref aabove, .ref aisDirectory, .ref abytes, .ref aplace, .ref areadMode, .ref areadOwner, .ref areadGroup, .ref areadName, .ref areadNameSize, .ref areadTarget, .ref areadTargetSize, .ref adepth, .int 0, .int 0, .int 0, .int 0, .int 0, .int 0, .int 0])), (atext, .inl (cB, 400, .inl f_37))] H := hP
  have hD : va_D A [(h0, .inr (11, [.int 0, .ref atext, .int 0, .int 1, .ref akind, .ref aparent, .ref amode, .ref aowner, .ref agroup, .ref asize, .ref aseed, .ref aname, .ref anameSize, .ref atarget, .ref atargetSize, .ref abase, .ref abaseSize, .ref aextension, .ref aextensionSize, .ref aimage, .int 0, .ref atable, .ref asector, .ref asectors, .ref acontents, .int 0, .int 0, .int 0, .int 0, .ref aabove, .ref aisDirectory, .ref abytes, .ref aplace, .ref areadMode, .ref areadOwner, .ref areadGroup, .ref areadName, .ref areadNameSize, .ref areadTarget, .ref areadTargetSize, .ref adepth, .int 0, .int 0, .int 0, .int 0, .int 0, .int 0, .int 0])), (atext, .inl (cB, 400, .inl f_37))] := hD
  refine lv_iinc (v := 1) hx hb d_DiscMakerModel_feed_104 hl (k := 1) rfl (by decide) (by decide) rfl (fun ls hl => ?_)
  have hl : lv_has ls 8 [(6, .int 1), (7, .int x1), (0, .ref h0), (1, .int x1), (2, .int x2), (3, .int x3), (4, .int x4), (5, .int x5)] := hl
  refine lv_goto (tgt := 23) hx hb d_DiscMakerModel_feed_107 (by decide) ?_
  refine lv_iload hx hb d_DiscMakerModel_feed_23 (lv_at hl 0 rfl) ?_
  refine lv_bipush (v := 20) hx hb d_DiscMakerModel_feed_25 (by decide) ?_
  refine lv_icmp_ge (tgt := 110) hx hb d_DiscMakerModel_feed_27 (by decide) (fun h_27 => absurd h_27 (by decide)) (fun h_27 => ?_)
  refine lv_iload hx hb d_DiscMakerModel_feed_30 (lv_at hl 0 rfl) ?_
  refine lv_iconst (v := 4) hx hb d_DiscMakerModel_feed_32 (by decide) ?_
  refine lv_icmp_ge (tgt := 40) hx hb d_DiscMakerModel_feed_33 (by decide) (fun h_33 => absurd h_33 (by decide)) (fun h_33 => ?_)
  refine lv_iload_n hx hb d_DiscMakerModel_feed_36 rfl (lv_at hl 3 rfl) ?_
  refine lv_goto (tgt := 76) hx hb d_DiscMakerModel_feed_37 (by decide) ?_
  refine lv_istore hx hb d_DiscMakerModel_feed_76 hl (by decide) rfl (fun ls hl => ?_)
  have hl : lv_has ls 8 [(7, .int x1), (6, .int 1), (0, .ref h0), (1, .int x1), (2, .int x2), (3, .int x3), (4, .int x4), (5, .int x5)] := hl
  refine lv_aload_n hx hb d_DiscMakerModel_feed_78 rfl (lv_at hl 2 rfl) ?_
  refine va_get (D := D) (ci := 11) (v := .ref atext) (C := "DiscMakerModel") (T := F_DiscMakerModel) (N := 48) hx hb ht9 in_DiscMakerModel hown hK hP 0 rfl rfl 1 (by decide) (ht9 _ k1432) (fun _ h9 => h9) rfl d_DiscMakerModel_feed_79 ?_
  refine lv_aload_n hx hb d_DiscMakerModel_feed_82 rfl (lv_at hl 2 rfl) ?_
  refine va_get (D := D) (ci := 11) (v := .int 0) (C := "DiscMakerModel") (T := F_DiscMakerModel) (N := 48) hx hb ht9 in_DiscMakerModel hown hK hP 0 rfl rfl 2 (by decide) (ht9 _ k1433) (fun _ h9 => h9) rfl d_DiscMakerModel_feed_83 ?_
  refine lv_iload hx hb d_DiscMakerModel_feed_86 (lv_at hl 1 rfl) ?_
  refine lv_iadd hx hb d_DiscMakerModel_feed_88 ?_
  refine W.eq (g2 := F0 m 89 ls [.int 1, .ref atext]) (by rw [show ((0 + 1) : Int32) = 1 from by decide]) ?_
  refine lv_iload hx hb d_DiscMakerModel_feed_89 (lv_at hl 0 rfl) ?_
  refine lv_bipush (v := 24) hx hb d_DiscMakerModel_feed_91 (by decide) ?_
  refine lv_bipush (v := 8) hx hb d_DiscMakerModel_feed_93 (by decide) ?_
  refine lv_iload hx hb d_DiscMakerModel_feed_95 (lv_at hl 1 rfl) ?_
  refine lv_iconst (v := 4) hx hb d_DiscMakerModel_feed_97 (by decide) ?_
  refine lv_irem hx hb d_DiscMakerModel_feed_98 (by decide) ?_
  refine W.eq (g2 := F0 m 99 ls [.int 1, .int 8, .int 24, .int x1, .int 1, .ref atext]) (by rw [show ((1 - 1 / 4 * 4) : Int32) = 1 from by decide]) ?_
  refine lv_imul hx hb d_DiscMakerModel_feed_99 ?_
  refine W.eq (g2 := F0 m 100 ls [.int 8, .int 24, .int x1, .int 1, .ref atext]) (by rw [show ((8 * 1) : Int32) = 8 from by decide]) ?_
  refine lv_isub hx hb d_DiscMakerModel_feed_100 ?_
  refine W.eq (g2 := F0 m 101 ls [.int 16, .int x1, .int 1, .ref atext]) (by rw [show ((24 - 8) : Int32) = 16 from by decide]) ?_
  refine lv_ishr hx hb d_DiscMakerModel_feed_101 ?_
  refine lv_i2b hx hb d_DiscMakerModel_feed_102 rfl ?_
  refine zz_bast hx hb hK hP hD hS 1 0 rfl rfl (by unfold vp_in; decide) d_DiscMakerModel_feed_103 (fun f_65 H locs hP hD hS => ?_)
  have hP : va_P D CL [(h0, .inr (11, [.int 0, .ref atext, .int 0, .int 1, .ref akind, .ref aparent, .ref amode, .ref aowner, .ref agroup, .ref asize, .ref aseed, .ref aname, .ref anameSize, .ref atarget, .ref atargetSize, .ref abase, .ref abaseSize, .ref aextension, .ref aextensionSize, .ref aimage, .int 0, .ref atable, .ref asector, .ref asectors, .ref acontents, .int 0, .int 0, .int 0, .int 0, .ref aabove, .ref aisDirectory, .ref abytes, .ref aplace, .ref areadMode, .ref areadOwner, .ref areadGroup, .ref areadName, .ref areadNameSize, .ref areadTarget, .ref areadTargetSize, .ref adepth, .int 0, .int 0, .int 0, .int 0, .int 0, .int 0, .int 0])), (atext, .inl (cB, 400, .inl f_65))] H := hP
  have hD : va_D A [(h0, .inr (11, [.int 0, .ref atext, .int 0, .int 1, .ref akind, .ref aparent, .ref amode, .ref aowner, .ref agroup, .ref asize, .ref aseed, .ref aname, .ref anameSize, .ref atarget, .ref atargetSize, .ref abase, .ref abaseSize, .ref aextension, .ref aextensionSize, .ref aimage, .int 0, .ref atable, .ref asector, .ref asectors, .ref acontents, .int 0, .int 0, .int 0, .int 0, .ref aabove, .ref aisDirectory, .ref abytes, .ref aplace, .ref areadMode, .ref areadOwner, .ref areadGroup, .ref areadName, .ref areadNameSize, .ref areadTarget, .ref areadTargetSize, .ref adepth, .int 0, .int 0, .int 0, .int 0, .int 0, .int 0, .int 0])), (atext, .inl (cB, 400, .inl f_65))] := hD
  refine lv_iinc (v := 2) hx hb d_DiscMakerModel_feed_104 hl (k := 1) rfl (by decide) (by decide) rfl (fun ls hl => ?_)
  have hl : lv_has ls 8 [(6, .int 2), (7, .int x1), (0, .ref h0), (1, .int x1), (2, .int x2), (3, .int x3), (4, .int x4), (5, .int x5)] := hl
  refine lv_goto (tgt := 23) hx hb d_DiscMakerModel_feed_107 (by decide) ?_
  refine lv_iload hx hb d_DiscMakerModel_feed_23 (lv_at hl 0 rfl) ?_
  refine lv_bipush (v := 20) hx hb d_DiscMakerModel_feed_25 (by decide) ?_
  refine lv_icmp_ge (tgt := 110) hx hb d_DiscMakerModel_feed_27 (by decide) (fun h_27 => absurd h_27 (by decide)) (fun h_27 => ?_)
  refine lv_iload hx hb d_DiscMakerModel_feed_30 (lv_at hl 0 rfl) ?_
  refine lv_iconst (v := 4) hx hb d_DiscMakerModel_feed_32 (by decide) ?_
  refine lv_icmp_ge (tgt := 40) hx hb d_DiscMakerModel_feed_33 (by decide) (fun h_33 => absurd h_33 (by decide)) (fun h_33 => ?_)
  refine lv_iload_n hx hb d_DiscMakerModel_feed_36 rfl (lv_at hl 3 rfl) ?_
  refine lv_goto (tgt := 76) hx hb d_DiscMakerModel_feed_37 (by decide) ?_
  refine lv_istore hx hb d_DiscMakerModel_feed_76 hl (by decide) rfl (fun ls hl => ?_)
  have hl : lv_has ls 8 [(7, .int x1), (6, .int 2), (0, .ref h0), (1, .int x1), (2, .int x2), (3, .int x3), (4, .int x4), (5, .int x5)] := hl
  refine lv_aload_n hx hb d_DiscMakerModel_feed_78 rfl (lv_at hl 2 rfl) ?_
  refine va_get (D := D) (ci := 11) (v := .ref atext) (C := "DiscMakerModel") (T := F_DiscMakerModel) (N := 48) hx hb ht9 in_DiscMakerModel hown hK hP 0 rfl rfl 1 (by decide) (ht9 _ k1432) (fun _ h9 => h9) rfl d_DiscMakerModel_feed_79 ?_
  refine lv_aload_n hx hb d_DiscMakerModel_feed_82 rfl (lv_at hl 2 rfl) ?_
  refine va_get (D := D) (ci := 11) (v := .int 0) (C := "DiscMakerModel") (T := F_DiscMakerModel) (N := 48) hx hb ht9 in_DiscMakerModel hown hK hP 0 rfl rfl 2 (by decide) (ht9 _ k1433) (fun _ h9 => h9) rfl d_DiscMakerModel_feed_83 ?_
  refine lv_iload hx hb d_DiscMakerModel_feed_86 (lv_at hl 1 rfl) ?_
  refine lv_iadd hx hb d_DiscMakerModel_feed_88 ?_
  refine W.eq (g2 := F0 m 89 ls [.int 2, .ref atext]) (by rw [show ((0 + 2) : Int32) = 2 from by decide]) ?_
  refine lv_iload hx hb d_DiscMakerModel_feed_89 (lv_at hl 0 rfl) ?_
  refine lv_bipush (v := 24) hx hb d_DiscMakerModel_feed_91 (by decide) ?_
  refine lv_bipush (v := 8) hx hb d_DiscMakerModel_feed_93 (by decide) ?_
  refine lv_iload hx hb d_DiscMakerModel_feed_95 (lv_at hl 1 rfl) ?_
  refine lv_iconst (v := 4) hx hb d_DiscMakerModel_feed_97 (by decide) ?_
  refine lv_irem hx hb d_DiscMakerModel_feed_98 (by decide) ?_
  refine W.eq (g2 := F0 m 99 ls [.int 2, .int 8, .int 24, .int x1, .int 2, .ref atext]) (by rw [show ((2 - 2 / 4 * 4) : Int32) = 2 from by decide]) ?_
  refine lv_imul hx hb d_DiscMakerModel_feed_99 ?_
  refine W.eq (g2 := F0 m 100 ls [.int 16, .int 24, .int x1, .int 2, .ref atext]) (by rw [show ((8 * 2) : Int32) = 16 from by decide]) ?_
  refine lv_isub hx hb d_DiscMakerModel_feed_100 ?_
  refine W.eq (g2 := F0 m 101 ls [.int 8, .int x1, .int 2, .ref atext]) (by rw [show ((24 - 16) : Int32) = 8 from by decide]) ?_
  refine lv_ishr hx hb d_DiscMakerModel_feed_101 ?_
  refine lv_i2b hx hb d_DiscMakerModel_feed_102 rfl ?_
  refine zz_bast hx hb hK hP hD hS 1 0 rfl rfl (by unfold vp_in; decide) d_DiscMakerModel_feed_103 (fun f_93 H locs hP hD hS => ?_)
  have hP : va_P D CL [(h0, .inr (11, [.int 0, .ref atext, .int 0, .int 1, .ref akind, .ref aparent, .ref amode, .ref aowner, .ref agroup, .ref asize, .ref aseed, .ref aname, .ref anameSize, .ref atarget, .ref atargetSize, .ref abase, .ref abaseSize, .ref aextension, .ref aextensionSize, .ref aimage, .int 0, .ref atable, .ref asector, .ref asectors, .ref acontents, .int 0, .int 0, .int 0, .int 0, .ref aabove, .ref aisDirectory, .ref abytes, .ref aplace, .ref areadMode, .ref areadOwner, .ref areadGroup, .ref areadName, .ref areadNameSize, .ref areadTarget, .ref areadTargetSize, .ref adepth, .int 0, .int 0, .int 0, .int 0, .int 0, .int 0, .int 0])), (atext, .inl (cB, 400, .inl f_93))] H := hP
  have hD : va_D A [(h0, .inr (11, [.int 0, .ref atext, .int 0, .int 1, .ref akind, .ref aparent, .ref amode, .ref aowner, .ref agroup, .ref asize, .ref aseed, .ref aname, .ref anameSize, .ref atarget, .ref atargetSize, .ref abase, .ref abaseSize, .ref aextension, .ref aextensionSize, .ref aimage, .int 0, .ref atable, .ref asector, .ref asectors, .ref acontents, .int 0, .int 0, .int 0, .int 0, .ref aabove, .ref aisDirectory, .ref abytes, .ref aplace, .ref areadMode, .ref areadOwner, .ref areadGroup, .ref areadName, .ref areadNameSize, .ref areadTarget, .ref areadTargetSize, .ref adepth, .int 0, .int 0, .int 0, .int 0, .int 0, .int 0, .int 0])), (atext, .inl (cB, 400, .inl f_93))] := hD
  refine lv_iinc (v := 3) hx hb d_DiscMakerModel_feed_104 hl (k := 1) rfl (by decide) (by decide) rfl (fun ls hl => ?_)
  have hl : lv_has ls 8 [(6, .int 3), (7, .int x1), (0, .ref h0), (1, .int x1), (2, .int x2), (3, .int x3), (4, .int x4), (5, .int x5)] := hl
  refine lv_goto (tgt := 23) hx hb d_DiscMakerModel_feed_107 (by decide) ?_
  refine lv_iload hx hb d_DiscMakerModel_feed_23 (lv_at hl 0 rfl) ?_
  refine lv_bipush (v := 20) hx hb d_DiscMakerModel_feed_25 (by decide) ?_
  refine lv_icmp_ge (tgt := 110) hx hb d_DiscMakerModel_feed_27 (by decide) (fun h_27 => absurd h_27 (by decide)) (fun h_27 => ?_)
  refine lv_iload hx hb d_DiscMakerModel_feed_30 (lv_at hl 0 rfl) ?_
  refine lv_iconst (v := 4) hx hb d_DiscMakerModel_feed_32 (by decide) ?_
  refine lv_icmp_ge (tgt := 40) hx hb d_DiscMakerModel_feed_33 (by decide) (fun h_33 => absurd h_33 (by decide)) (fun h_33 => ?_)
  refine lv_iload_n hx hb d_DiscMakerModel_feed_36 rfl (lv_at hl 3 rfl) ?_
  refine lv_goto (tgt := 76) hx hb d_DiscMakerModel_feed_37 (by decide) ?_
  refine lv_istore hx hb d_DiscMakerModel_feed_76 hl (by decide) rfl (fun ls hl => ?_)
  have hl : lv_has ls 8 [(7, .int x1), (6, .int 3), (0, .ref h0), (1, .int x1), (2, .int x2), (3, .int x3), (4, .int x4), (5, .int x5)] := hl
  refine lv_aload_n hx hb d_DiscMakerModel_feed_78 rfl (lv_at hl 2 rfl) ?_
  refine va_get (D := D) (ci := 11) (v := .ref atext) (C := "DiscMakerModel") (T := F_DiscMakerModel) (N := 48) hx hb ht9 in_DiscMakerModel hown hK hP 0 rfl rfl 1 (by decide) (ht9 _ k1432) (fun _ h9 => h9) rfl d_DiscMakerModel_feed_79 ?_
  refine lv_aload_n hx hb d_DiscMakerModel_feed_82 rfl (lv_at hl 2 rfl) ?_
  refine va_get (D := D) (ci := 11) (v := .int 0) (C := "DiscMakerModel") (T := F_DiscMakerModel) (N := 48) hx hb ht9 in_DiscMakerModel hown hK hP 0 rfl rfl 2 (by decide) (ht9 _ k1433) (fun _ h9 => h9) rfl d_DiscMakerModel_feed_83 ?_
  refine lv_iload hx hb d_DiscMakerModel_feed_86 (lv_at hl 1 rfl) ?_
  refine lv_iadd hx hb d_DiscMakerModel_feed_88 ?_
  refine W.eq (g2 := F0 m 89 ls [.int 3, .ref atext]) (by rw [show ((0 + 3) : Int32) = 3 from by decide]) ?_
  refine lv_iload hx hb d_DiscMakerModel_feed_89 (lv_at hl 0 rfl) ?_
  refine lv_bipush (v := 24) hx hb d_DiscMakerModel_feed_91 (by decide) ?_
  refine lv_bipush (v := 8) hx hb d_DiscMakerModel_feed_93 (by decide) ?_
  refine lv_iload hx hb d_DiscMakerModel_feed_95 (lv_at hl 1 rfl) ?_
  refine lv_iconst (v := 4) hx hb d_DiscMakerModel_feed_97 (by decide) ?_
  refine lv_irem hx hb d_DiscMakerModel_feed_98 (by decide) ?_
  refine W.eq (g2 := F0 m 99 ls [.int 3, .int 8, .int 24, .int x1, .int 3, .ref atext]) (by rw [show ((3 - 3 / 4 * 4) : Int32) = 3 from by decide]) ?_
  refine lv_imul hx hb d_DiscMakerModel_feed_99 ?_
  refine W.eq (g2 := F0 m 100 ls [.int 24, .int 24, .int x1, .int 3, .ref atext]) (by rw [show ((8 * 3) : Int32) = 24 from by decide]) ?_
  refine lv_isub hx hb d_DiscMakerModel_feed_100 ?_
  refine W.eq (g2 := F0 m 101 ls [.int 0, .int x1, .int 3, .ref atext]) (by rw [show ((24 - 24) : Int32) = 0 from by decide]) ?_
  refine lv_ishr hx hb d_DiscMakerModel_feed_101 ?_
  refine lv_i2b hx hb d_DiscMakerModel_feed_102 rfl ?_
  refine zz_bast hx hb hK hP hD hS 1 0 rfl rfl (by unfold vp_in; decide) d_DiscMakerModel_feed_103 (fun f_121 H locs hP hD hS => ?_)
  have hP : va_P D CL [(h0, .inr (11, [.int 0, .ref atext, .int 0, .int 1, .ref akind, .ref aparent, .ref amode, .ref aowner, .ref agroup, .ref asize, .ref aseed, .ref aname, .ref anameSize, .ref atarget, .ref atargetSize, .ref abase, .ref abaseSize, .ref aextension, .ref aextensionSize, .ref aimage, .int 0, .ref atable, .ref asector, .ref asectors, .ref acontents, .int 0, .int 0, .int 0, .int 0, .ref aabove, .ref aisDirectory, .ref abytes, .ref aplace, .ref areadMode, .ref areadOwner, .ref areadGroup, .ref areadName, .ref areadNameSize, .ref areadTarget, .ref areadTargetSize, .ref adepth, .int 0, .int 0, .int 0, .int 0, .int 0, .int 0, .int 0])), (atext, .inl (cB, 400, .inl f_121))] H := hP
  have hD : va_D A [(h0, .inr (11, [.int 0, .ref atext, .int 0, .int 1, .ref akind, .ref aparent, .ref amode, .ref aowner, .ref agroup, .ref asize, .ref aseed, .ref aname, .ref anameSize, .ref atarget, .ref atargetSize, .ref abase, .ref abaseSize, .ref aextension, .ref aextensionSize, .ref aimage, .int 0, .ref atable, .ref asector, .ref asectors, .ref acontents, .int 0, .int 0, .int 0, .int 0, .ref aabove, .ref aisDirectory, .ref abytes, .ref aplace, .ref areadMode, .ref areadOwner, .ref areadGroup, .ref areadName, .ref areadNameSize, .ref areadTarget, .ref areadTargetSize, .ref adepth, .int 0, .int 0, .int 0, .int 0, .int 0, .int 0, .int 0])), (atext, .inl (cB, 400, .inl f_121))] := hD
  refine lv_iinc (v := 4) hx hb d_DiscMakerModel_feed_104 hl (k := 1) rfl (by decide) (by decide) rfl (fun ls hl => ?_)
  have hl : lv_has ls 8 [(6, .int 4), (7, .int x1), (0, .ref h0), (1, .int x1), (2, .int x2), (3, .int x3), (4, .int x4), (5, .int x5)] := hl
  refine lv_goto (tgt := 23) hx hb d_DiscMakerModel_feed_107 (by decide) ?_
  refine lv_iload hx hb d_DiscMakerModel_feed_23 (lv_at hl 0 rfl) ?_
  refine lv_bipush (v := 20) hx hb d_DiscMakerModel_feed_25 (by decide) ?_
  refine lv_icmp_ge (tgt := 110) hx hb d_DiscMakerModel_feed_27 (by decide) (fun h_27 => absurd h_27 (by decide)) (fun h_27 => ?_)
  refine lv_iload hx hb d_DiscMakerModel_feed_30 (lv_at hl 0 rfl) ?_
  refine lv_iconst (v := 4) hx hb d_DiscMakerModel_feed_32 (by decide) ?_
  refine lv_icmp_ge (tgt := 40) hx hb d_DiscMakerModel_feed_33 (by decide) (fun h_33 => ?_) (fun h_33 => absurd (by decide) h_33)
  refine lv_iload hx hb d_DiscMakerModel_feed_40 (lv_at hl 0 rfl) ?_
  refine lv_bipush (v := 8) hx hb d_DiscMakerModel_feed_42 (by decide) ?_
  refine lv_icmp_ge (tgt := 51) hx hb d_DiscMakerModel_feed_44 (by decide) (fun h_44 => absurd h_44 (by decide)) (fun h_44 => ?_)
  refine lv_iload_n hx hb d_DiscMakerModel_feed_47 rfl (lv_at hl 4 rfl) ?_
  refine lv_goto (tgt := 76) hx hb d_DiscMakerModel_feed_48 (by decide) ?_
  refine lv_istore hx hb d_DiscMakerModel_feed_76 hl (by decide) rfl (fun ls hl => ?_)
  have hl : lv_has ls 8 [(7, .int x2), (6, .int 4), (0, .ref h0), (1, .int x1), (2, .int x2), (3, .int x3), (4, .int x4), (5, .int x5)] := hl
  refine lv_aload_n hx hb d_DiscMakerModel_feed_78 rfl (lv_at hl 2 rfl) ?_
  refine va_get (D := D) (ci := 11) (v := .ref atext) (C := "DiscMakerModel") (T := F_DiscMakerModel) (N := 48) hx hb ht9 in_DiscMakerModel hown hK hP 0 rfl rfl 1 (by decide) (ht9 _ k1432) (fun _ h9 => h9) rfl d_DiscMakerModel_feed_79 ?_
  refine lv_aload_n hx hb d_DiscMakerModel_feed_82 rfl (lv_at hl 2 rfl) ?_
  refine va_get (D := D) (ci := 11) (v := .int 0) (C := "DiscMakerModel") (T := F_DiscMakerModel) (N := 48) hx hb ht9 in_DiscMakerModel hown hK hP 0 rfl rfl 2 (by decide) (ht9 _ k1433) (fun _ h9 => h9) rfl d_DiscMakerModel_feed_83 ?_
  refine lv_iload hx hb d_DiscMakerModel_feed_86 (lv_at hl 1 rfl) ?_
  refine lv_iadd hx hb d_DiscMakerModel_feed_88 ?_
  refine W.eq (g2 := F0 m 89 ls [.int 4, .ref atext]) (by rw [show ((0 + 4) : Int32) = 4 from by decide]) ?_
  refine lv_iload hx hb d_DiscMakerModel_feed_89 (lv_at hl 0 rfl) ?_
  refine lv_bipush (v := 24) hx hb d_DiscMakerModel_feed_91 (by decide) ?_
  refine lv_bipush (v := 8) hx hb d_DiscMakerModel_feed_93 (by decide) ?_
  refine lv_iload hx hb d_DiscMakerModel_feed_95 (lv_at hl 1 rfl) ?_
  refine lv_iconst (v := 4) hx hb d_DiscMakerModel_feed_97 (by decide) ?_
  refine lv_irem hx hb d_DiscMakerModel_feed_98 (by decide) ?_
  refine W.eq (g2 := F0 m 99 ls [.int 0, .int 8, .int 24, .int x2, .int 4, .ref atext]) (by rw [show ((4 - 4 / 4 * 4) : Int32) = 0 from by decide]) ?_
  refine lv_imul hx hb d_DiscMakerModel_feed_99 ?_
  refine W.eq (g2 := F0 m 100 ls [.int 0, .int 24, .int x2, .int 4, .ref atext]) (by rw [show ((8 * 0) : Int32) = 0 from by decide]) ?_
  refine lv_isub hx hb d_DiscMakerModel_feed_100 ?_
  refine W.eq (g2 := F0 m 101 ls [.int 24, .int x2, .int 4, .ref atext]) (by rw [show ((24 - 0) : Int32) = 24 from by decide]) ?_
  refine lv_ishr hx hb d_DiscMakerModel_feed_101 ?_
  refine lv_i2b hx hb d_DiscMakerModel_feed_102 rfl ?_
  refine zz_bast hx hb hK hP hD hS 1 0 rfl rfl (by unfold vp_in; decide) d_DiscMakerModel_feed_103 (fun f_152 H locs hP hD hS => ?_)
  have hP : va_P D CL [(h0, .inr (11, [.int 0, .ref atext, .int 0, .int 1, .ref akind, .ref aparent, .ref amode, .ref aowner, .ref agroup, .ref asize, .ref aseed, .ref aname, .ref anameSize, .ref atarget, .ref atargetSize, .ref abase, .ref abaseSize, .ref aextension, .ref aextensionSize, .ref aimage, .int 0, .ref atable, .ref asector, .ref asectors, .ref acontents, .int 0, .int 0, .int 0, .int 0, .ref aabove, .ref aisDirectory, .ref abytes, .ref aplace, .ref areadMode, .ref areadOwner, .ref areadGroup, .ref areadName, .ref areadNameSize, .ref areadTarget, .ref areadTargetSize, .ref adepth, .int 0, .int 0, .int 0, .int 0, .int 0, .int 0, .int 0])), (atext, .inl (cB, 400, .inl f_152))] H := hP
  have hD : va_D A [(h0, .inr (11, [.int 0, .ref atext, .int 0, .int 1, .ref akind, .ref aparent, .ref amode, .ref aowner, .ref agroup, .ref asize, .ref aseed, .ref aname, .ref anameSize, .ref atarget, .ref atargetSize, .ref abase, .ref abaseSize, .ref aextension, .ref aextensionSize, .ref aimage, .int 0, .ref atable, .ref asector, .ref asectors, .ref acontents, .int 0, .int 0, .int 0, .int 0, .ref aabove, .ref aisDirectory, .ref abytes, .ref aplace, .ref areadMode, .ref areadOwner, .ref areadGroup, .ref areadName, .ref areadNameSize, .ref areadTarget, .ref areadTargetSize, .ref adepth, .int 0, .int 0, .int 0, .int 0, .int 0, .int 0, .int 0])), (atext, .inl (cB, 400, .inl f_152))] := hD
  refine lv_iinc (v := 5) hx hb d_DiscMakerModel_feed_104 hl (k := 1) rfl (by decide) (by decide) rfl (fun ls hl => ?_)
  have hl : lv_has ls 8 [(6, .int 5), (7, .int x2), (0, .ref h0), (1, .int x1), (2, .int x2), (3, .int x3), (4, .int x4), (5, .int x5)] := hl
  refine lv_goto (tgt := 23) hx hb d_DiscMakerModel_feed_107 (by decide) ?_
  refine lv_iload hx hb d_DiscMakerModel_feed_23 (lv_at hl 0 rfl) ?_
  refine lv_bipush (v := 20) hx hb d_DiscMakerModel_feed_25 (by decide) ?_
  refine lv_icmp_ge (tgt := 110) hx hb d_DiscMakerModel_feed_27 (by decide) (fun h_27 => absurd h_27 (by decide)) (fun h_27 => ?_)
  refine lv_iload hx hb d_DiscMakerModel_feed_30 (lv_at hl 0 rfl) ?_
  refine lv_iconst (v := 4) hx hb d_DiscMakerModel_feed_32 (by decide) ?_
  refine lv_icmp_ge (tgt := 40) hx hb d_DiscMakerModel_feed_33 (by decide) (fun h_33 => ?_) (fun h_33 => absurd (by decide) h_33)
  refine lv_iload hx hb d_DiscMakerModel_feed_40 (lv_at hl 0 rfl) ?_
  refine lv_bipush (v := 8) hx hb d_DiscMakerModel_feed_42 (by decide) ?_
  refine lv_icmp_ge (tgt := 51) hx hb d_DiscMakerModel_feed_44 (by decide) (fun h_44 => absurd h_44 (by decide)) (fun h_44 => ?_)
  refine lv_iload_n hx hb d_DiscMakerModel_feed_47 rfl (lv_at hl 4 rfl) ?_
  refine lv_goto (tgt := 76) hx hb d_DiscMakerModel_feed_48 (by decide) ?_
  refine lv_istore hx hb d_DiscMakerModel_feed_76 hl (by decide) rfl (fun ls hl => ?_)
  have hl : lv_has ls 8 [(7, .int x2), (6, .int 5), (0, .ref h0), (1, .int x1), (2, .int x2), (3, .int x3), (4, .int x4), (5, .int x5)] := hl
  refine lv_aload_n hx hb d_DiscMakerModel_feed_78 rfl (lv_at hl 2 rfl) ?_
  refine va_get (D := D) (ci := 11) (v := .ref atext) (C := "DiscMakerModel") (T := F_DiscMakerModel) (N := 48) hx hb ht9 in_DiscMakerModel hown hK hP 0 rfl rfl 1 (by decide) (ht9 _ k1432) (fun _ h9 => h9) rfl d_DiscMakerModel_feed_79 ?_
  refine lv_aload_n hx hb d_DiscMakerModel_feed_82 rfl (lv_at hl 2 rfl) ?_
  refine va_get (D := D) (ci := 11) (v := .int 0) (C := "DiscMakerModel") (T := F_DiscMakerModel) (N := 48) hx hb ht9 in_DiscMakerModel hown hK hP 0 rfl rfl 2 (by decide) (ht9 _ k1433) (fun _ h9 => h9) rfl d_DiscMakerModel_feed_83 ?_
  refine lv_iload hx hb d_DiscMakerModel_feed_86 (lv_at hl 1 rfl) ?_
  refine lv_iadd hx hb d_DiscMakerModel_feed_88 ?_
  refine W.eq (g2 := F0 m 89 ls [.int 5, .ref atext]) (by rw [show ((0 + 5) : Int32) = 5 from by decide]) ?_
  refine lv_iload hx hb d_DiscMakerModel_feed_89 (lv_at hl 0 rfl) ?_
  refine lv_bipush (v := 24) hx hb d_DiscMakerModel_feed_91 (by decide) ?_
  refine lv_bipush (v := 8) hx hb d_DiscMakerModel_feed_93 (by decide) ?_
  refine lv_iload hx hb d_DiscMakerModel_feed_95 (lv_at hl 1 rfl) ?_
  refine lv_iconst (v := 4) hx hb d_DiscMakerModel_feed_97 (by decide) ?_
  refine lv_irem hx hb d_DiscMakerModel_feed_98 (by decide) ?_
  refine W.eq (g2 := F0 m 99 ls [.int 1, .int 8, .int 24, .int x2, .int 5, .ref atext]) (by rw [show ((5 - 5 / 4 * 4) : Int32) = 1 from by decide]) ?_
  refine lv_imul hx hb d_DiscMakerModel_feed_99 ?_
  refine W.eq (g2 := F0 m 100 ls [.int 8, .int 24, .int x2, .int 5, .ref atext]) (by rw [show ((8 * 1) : Int32) = 8 from by decide]) ?_
  refine lv_isub hx hb d_DiscMakerModel_feed_100 ?_
  refine W.eq (g2 := F0 m 101 ls [.int 16, .int x2, .int 5, .ref atext]) (by rw [show ((24 - 8) : Int32) = 16 from by decide]) ?_
  refine lv_ishr hx hb d_DiscMakerModel_feed_101 ?_
  refine lv_i2b hx hb d_DiscMakerModel_feed_102 rfl ?_
  refine zz_bast hx hb hK hP hD hS 1 0 rfl rfl (by unfold vp_in; decide) d_DiscMakerModel_feed_103 (fun f_183 H locs hP hD hS => ?_)
  have hP : va_P D CL [(h0, .inr (11, [.int 0, .ref atext, .int 0, .int 1, .ref akind, .ref aparent, .ref amode, .ref aowner, .ref agroup, .ref asize, .ref aseed, .ref aname, .ref anameSize, .ref atarget, .ref atargetSize, .ref abase, .ref abaseSize, .ref aextension, .ref aextensionSize, .ref aimage, .int 0, .ref atable, .ref asector, .ref asectors, .ref acontents, .int 0, .int 0, .int 0, .int 0, .ref aabove, .ref aisDirectory, .ref abytes, .ref aplace, .ref areadMode, .ref areadOwner, .ref areadGroup, .ref areadName, .ref areadNameSize, .ref areadTarget, .ref areadTargetSize, .ref adepth, .int 0, .int 0, .int 0, .int 0, .int 0, .int 0, .int 0])), (atext, .inl (cB, 400, .inl f_183))] H := hP
  have hD : va_D A [(h0, .inr (11, [.int 0, .ref atext, .int 0, .int 1, .ref akind, .ref aparent, .ref amode, .ref aowner, .ref agroup, .ref asize, .ref aseed, .ref aname, .ref anameSize, .ref atarget, .ref atargetSize, .ref abase, .ref abaseSize, .ref aextension, .ref aextensionSize, .ref aimage, .int 0, .ref atable, .ref asector, .ref asectors, .ref acontents, .int 0, .int 0, .int 0, .int 0, .ref aabove, .ref aisDirectory, .ref abytes, .ref aplace, .ref areadMode, .ref areadOwner, .ref areadGroup, .ref areadName, .ref areadNameSize, .ref areadTarget, .ref areadTargetSize, .ref adepth, .int 0, .int 0, .int 0, .int 0, .int 0, .int 0, .int 0])), (atext, .inl (cB, 400, .inl f_183))] := hD
  refine lv_iinc (v := 6) hx hb d_DiscMakerModel_feed_104 hl (k := 1) rfl (by decide) (by decide) rfl (fun ls hl => ?_)
  have hl : lv_has ls 8 [(6, .int 6), (7, .int x2), (0, .ref h0), (1, .int x1), (2, .int x2), (3, .int x3), (4, .int x4), (5, .int x5)] := hl
  refine lv_goto (tgt := 23) hx hb d_DiscMakerModel_feed_107 (by decide) ?_
  refine lv_iload hx hb d_DiscMakerModel_feed_23 (lv_at hl 0 rfl) ?_
  refine lv_bipush (v := 20) hx hb d_DiscMakerModel_feed_25 (by decide) ?_
  refine lv_icmp_ge (tgt := 110) hx hb d_DiscMakerModel_feed_27 (by decide) (fun h_27 => absurd h_27 (by decide)) (fun h_27 => ?_)
  refine lv_iload hx hb d_DiscMakerModel_feed_30 (lv_at hl 0 rfl) ?_
  refine lv_iconst (v := 4) hx hb d_DiscMakerModel_feed_32 (by decide) ?_
  refine lv_icmp_ge (tgt := 40) hx hb d_DiscMakerModel_feed_33 (by decide) (fun h_33 => ?_) (fun h_33 => absurd (by decide) h_33)
  refine lv_iload hx hb d_DiscMakerModel_feed_40 (lv_at hl 0 rfl) ?_
  refine lv_bipush (v := 8) hx hb d_DiscMakerModel_feed_42 (by decide) ?_
  refine lv_icmp_ge (tgt := 51) hx hb d_DiscMakerModel_feed_44 (by decide) (fun h_44 => absurd h_44 (by decide)) (fun h_44 => ?_)
  refine lv_iload_n hx hb d_DiscMakerModel_feed_47 rfl (lv_at hl 4 rfl) ?_
  refine lv_goto (tgt := 76) hx hb d_DiscMakerModel_feed_48 (by decide) ?_
  refine lv_istore hx hb d_DiscMakerModel_feed_76 hl (by decide) rfl (fun ls hl => ?_)
  have hl : lv_has ls 8 [(7, .int x2), (6, .int 6), (0, .ref h0), (1, .int x1), (2, .int x2), (3, .int x3), (4, .int x4), (5, .int x5)] := hl
  refine lv_aload_n hx hb d_DiscMakerModel_feed_78 rfl (lv_at hl 2 rfl) ?_
  refine va_get (D := D) (ci := 11) (v := .ref atext) (C := "DiscMakerModel") (T := F_DiscMakerModel) (N := 48) hx hb ht9 in_DiscMakerModel hown hK hP 0 rfl rfl 1 (by decide) (ht9 _ k1432) (fun _ h9 => h9) rfl d_DiscMakerModel_feed_79 ?_
  refine lv_aload_n hx hb d_DiscMakerModel_feed_82 rfl (lv_at hl 2 rfl) ?_
  refine va_get (D := D) (ci := 11) (v := .int 0) (C := "DiscMakerModel") (T := F_DiscMakerModel) (N := 48) hx hb ht9 in_DiscMakerModel hown hK hP 0 rfl rfl 2 (by decide) (ht9 _ k1433) (fun _ h9 => h9) rfl d_DiscMakerModel_feed_83 ?_
  refine lv_iload hx hb d_DiscMakerModel_feed_86 (lv_at hl 1 rfl) ?_
  refine lv_iadd hx hb d_DiscMakerModel_feed_88 ?_
  refine W.eq (g2 := F0 m 89 ls [.int 6, .ref atext]) (by rw [show ((0 + 6) : Int32) = 6 from by decide]) ?_
  refine lv_iload hx hb d_DiscMakerModel_feed_89 (lv_at hl 0 rfl) ?_
  refine lv_bipush (v := 24) hx hb d_DiscMakerModel_feed_91 (by decide) ?_
  refine lv_bipush (v := 8) hx hb d_DiscMakerModel_feed_93 (by decide) ?_
  refine lv_iload hx hb d_DiscMakerModel_feed_95 (lv_at hl 1 rfl) ?_
  refine lv_iconst (v := 4) hx hb d_DiscMakerModel_feed_97 (by decide) ?_
  refine lv_irem hx hb d_DiscMakerModel_feed_98 (by decide) ?_
  refine W.eq (g2 := F0 m 99 ls [.int 2, .int 8, .int 24, .int x2, .int 6, .ref atext]) (by rw [show ((6 - 6 / 4 * 4) : Int32) = 2 from by decide]) ?_
  refine lv_imul hx hb d_DiscMakerModel_feed_99 ?_
  refine W.eq (g2 := F0 m 100 ls [.int 16, .int 24, .int x2, .int 6, .ref atext]) (by rw [show ((8 * 2) : Int32) = 16 from by decide]) ?_
  refine lv_isub hx hb d_DiscMakerModel_feed_100 ?_
  refine W.eq (g2 := F0 m 101 ls [.int 8, .int x2, .int 6, .ref atext]) (by rw [show ((24 - 16) : Int32) = 8 from by decide]) ?_
  refine lv_ishr hx hb d_DiscMakerModel_feed_101 ?_
  refine lv_i2b hx hb d_DiscMakerModel_feed_102 rfl ?_
  refine zz_bast hx hb hK hP hD hS 1 0 rfl rfl (by unfold vp_in; decide) d_DiscMakerModel_feed_103 (fun f_214 H locs hP hD hS => ?_)
  have hP : va_P D CL [(h0, .inr (11, [.int 0, .ref atext, .int 0, .int 1, .ref akind, .ref aparent, .ref amode, .ref aowner, .ref agroup, .ref asize, .ref aseed, .ref aname, .ref anameSize, .ref atarget, .ref atargetSize, .ref abase, .ref abaseSize, .ref aextension, .ref aextensionSize, .ref aimage, .int 0, .ref atable, .ref asector, .ref asectors, .ref acontents, .int 0, .int 0, .int 0, .int 0, .ref aabove, .ref aisDirectory, .ref abytes, .ref aplace, .ref areadMode, .ref areadOwner, .ref areadGroup, .ref areadName, .ref areadNameSize, .ref areadTarget, .ref areadTargetSize, .ref adepth, .int 0, .int 0, .int 0, .int 0, .int 0, .int 0, .int 0])), (atext, .inl (cB, 400, .inl f_214))] H := hP
  have hD : va_D A [(h0, .inr (11, [.int 0, .ref atext, .int 0, .int 1, .ref akind, .ref aparent, .ref amode, .ref aowner, .ref agroup, .ref asize, .ref aseed, .ref aname, .ref anameSize, .ref atarget, .ref atargetSize, .ref abase, .ref abaseSize, .ref aextension, .ref aextensionSize, .ref aimage, .int 0, .ref atable, .ref asector, .ref asectors, .ref acontents, .int 0, .int 0, .int 0, .int 0, .ref aabove, .ref aisDirectory, .ref abytes, .ref aplace, .ref areadMode, .ref areadOwner, .ref areadGroup, .ref areadName, .ref areadNameSize, .ref areadTarget, .ref areadTargetSize, .ref adepth, .int 0, .int 0, .int 0, .int 0, .int 0, .int 0, .int 0])), (atext, .inl (cB, 400, .inl f_214))] := hD
  refine lv_iinc (v := 7) hx hb d_DiscMakerModel_feed_104 hl (k := 1) rfl (by decide) (by decide) rfl (fun ls hl => ?_)
  have hl : lv_has ls 8 [(6, .int 7), (7, .int x2), (0, .ref h0), (1, .int x1), (2, .int x2), (3, .int x3), (4, .int x4), (5, .int x5)] := hl
  refine lv_goto (tgt := 23) hx hb d_DiscMakerModel_feed_107 (by decide) ?_
  refine lv_iload hx hb d_DiscMakerModel_feed_23 (lv_at hl 0 rfl) ?_
  refine lv_bipush (v := 20) hx hb d_DiscMakerModel_feed_25 (by decide) ?_
  refine lv_icmp_ge (tgt := 110) hx hb d_DiscMakerModel_feed_27 (by decide) (fun h_27 => absurd h_27 (by decide)) (fun h_27 => ?_)
  refine lv_iload hx hb d_DiscMakerModel_feed_30 (lv_at hl 0 rfl) ?_
  refine lv_iconst (v := 4) hx hb d_DiscMakerModel_feed_32 (by decide) ?_
  refine lv_icmp_ge (tgt := 40) hx hb d_DiscMakerModel_feed_33 (by decide) (fun h_33 => ?_) (fun h_33 => absurd (by decide) h_33)
  refine lv_iload hx hb d_DiscMakerModel_feed_40 (lv_at hl 0 rfl) ?_
  refine lv_bipush (v := 8) hx hb d_DiscMakerModel_feed_42 (by decide) ?_
  refine lv_icmp_ge (tgt := 51) hx hb d_DiscMakerModel_feed_44 (by decide) (fun h_44 => absurd h_44 (by decide)) (fun h_44 => ?_)
  refine lv_iload_n hx hb d_DiscMakerModel_feed_47 rfl (lv_at hl 4 rfl) ?_
  refine lv_goto (tgt := 76) hx hb d_DiscMakerModel_feed_48 (by decide) ?_
  refine lv_istore hx hb d_DiscMakerModel_feed_76 hl (by decide) rfl (fun ls hl => ?_)
  have hl : lv_has ls 8 [(7, .int x2), (6, .int 7), (0, .ref h0), (1, .int x1), (2, .int x2), (3, .int x3), (4, .int x4), (5, .int x5)] := hl
  refine lv_aload_n hx hb d_DiscMakerModel_feed_78 rfl (lv_at hl 2 rfl) ?_
  refine va_get (D := D) (ci := 11) (v := .ref atext) (C := "DiscMakerModel") (T := F_DiscMakerModel) (N := 48) hx hb ht9 in_DiscMakerModel hown hK hP 0 rfl rfl 1 (by decide) (ht9 _ k1432) (fun _ h9 => h9) rfl d_DiscMakerModel_feed_79 ?_
  refine lv_aload_n hx hb d_DiscMakerModel_feed_82 rfl (lv_at hl 2 rfl) ?_
  refine va_get (D := D) (ci := 11) (v := .int 0) (C := "DiscMakerModel") (T := F_DiscMakerModel) (N := 48) hx hb ht9 in_DiscMakerModel hown hK hP 0 rfl rfl 2 (by decide) (ht9 _ k1433) (fun _ h9 => h9) rfl d_DiscMakerModel_feed_83 ?_
  refine lv_iload hx hb d_DiscMakerModel_feed_86 (lv_at hl 1 rfl) ?_
  refine lv_iadd hx hb d_DiscMakerModel_feed_88 ?_
  refine W.eq (g2 := F0 m 89 ls [.int 7, .ref atext]) (by rw [show ((0 + 7) : Int32) = 7 from by decide]) ?_
  refine lv_iload hx hb d_DiscMakerModel_feed_89 (lv_at hl 0 rfl) ?_
  refine lv_bipush (v := 24) hx hb d_DiscMakerModel_feed_91 (by decide) ?_
  refine lv_bipush (v := 8) hx hb d_DiscMakerModel_feed_93 (by decide) ?_
  refine lv_iload hx hb d_DiscMakerModel_feed_95 (lv_at hl 1 rfl) ?_
  refine lv_iconst (v := 4) hx hb d_DiscMakerModel_feed_97 (by decide) ?_
  refine lv_irem hx hb d_DiscMakerModel_feed_98 (by decide) ?_
  refine W.eq (g2 := F0 m 99 ls [.int 3, .int 8, .int 24, .int x2, .int 7, .ref atext]) (by rw [show ((7 - 7 / 4 * 4) : Int32) = 3 from by decide]) ?_
  refine lv_imul hx hb d_DiscMakerModel_feed_99 ?_
  refine W.eq (g2 := F0 m 100 ls [.int 24, .int 24, .int x2, .int 7, .ref atext]) (by rw [show ((8 * 3) : Int32) = 24 from by decide]) ?_
  refine lv_isub hx hb d_DiscMakerModel_feed_100 ?_
  refine W.eq (g2 := F0 m 101 ls [.int 0, .int x2, .int 7, .ref atext]) (by rw [show ((24 - 24) : Int32) = 0 from by decide]) ?_
  refine lv_ishr hx hb d_DiscMakerModel_feed_101 ?_
  refine lv_i2b hx hb d_DiscMakerModel_feed_102 rfl ?_
  refine zz_bast hx hb hK hP hD hS 1 0 rfl rfl (by unfold vp_in; decide) d_DiscMakerModel_feed_103 (fun f_245 H locs hP hD hS => ?_)
  have hP : va_P D CL [(h0, .inr (11, [.int 0, .ref atext, .int 0, .int 1, .ref akind, .ref aparent, .ref amode, .ref aowner, .ref agroup, .ref asize, .ref aseed, .ref aname, .ref anameSize, .ref atarget, .ref atargetSize, .ref abase, .ref abaseSize, .ref aextension, .ref aextensionSize, .ref aimage, .int 0, .ref atable, .ref asector, .ref asectors, .ref acontents, .int 0, .int 0, .int 0, .int 0, .ref aabove, .ref aisDirectory, .ref abytes, .ref aplace, .ref areadMode, .ref areadOwner, .ref areadGroup, .ref areadName, .ref areadNameSize, .ref areadTarget, .ref areadTargetSize, .ref adepth, .int 0, .int 0, .int 0, .int 0, .int 0, .int 0, .int 0])), (atext, .inl (cB, 400, .inl f_245))] H := hP
  have hD : va_D A [(h0, .inr (11, [.int 0, .ref atext, .int 0, .int 1, .ref akind, .ref aparent, .ref amode, .ref aowner, .ref agroup, .ref asize, .ref aseed, .ref aname, .ref anameSize, .ref atarget, .ref atargetSize, .ref abase, .ref abaseSize, .ref aextension, .ref aextensionSize, .ref aimage, .int 0, .ref atable, .ref asector, .ref asectors, .ref acontents, .int 0, .int 0, .int 0, .int 0, .ref aabove, .ref aisDirectory, .ref abytes, .ref aplace, .ref areadMode, .ref areadOwner, .ref areadGroup, .ref areadName, .ref areadNameSize, .ref areadTarget, .ref areadTargetSize, .ref adepth, .int 0, .int 0, .int 0, .int 0, .int 0, .int 0, .int 0])), (atext, .inl (cB, 400, .inl f_245))] := hD
  refine lv_iinc (v := 8) hx hb d_DiscMakerModel_feed_104 hl (k := 1) rfl (by decide) (by decide) rfl (fun ls hl => ?_)
  have hl : lv_has ls 8 [(6, .int 8), (7, .int x2), (0, .ref h0), (1, .int x1), (2, .int x2), (3, .int x3), (4, .int x4), (5, .int x5)] := hl
  refine lv_goto (tgt := 23) hx hb d_DiscMakerModel_feed_107 (by decide) ?_
  refine lv_iload hx hb d_DiscMakerModel_feed_23 (lv_at hl 0 rfl) ?_
  refine lv_bipush (v := 20) hx hb d_DiscMakerModel_feed_25 (by decide) ?_
  refine lv_icmp_ge (tgt := 110) hx hb d_DiscMakerModel_feed_27 (by decide) (fun h_27 => absurd h_27 (by decide)) (fun h_27 => ?_)
  refine lv_iload hx hb d_DiscMakerModel_feed_30 (lv_at hl 0 rfl) ?_
  refine lv_iconst (v := 4) hx hb d_DiscMakerModel_feed_32 (by decide) ?_
  refine lv_icmp_ge (tgt := 40) hx hb d_DiscMakerModel_feed_33 (by decide) (fun h_33 => ?_) (fun h_33 => absurd (by decide) h_33)
  refine lv_iload hx hb d_DiscMakerModel_feed_40 (lv_at hl 0 rfl) ?_
  refine lv_bipush (v := 8) hx hb d_DiscMakerModel_feed_42 (by decide) ?_
  refine lv_icmp_ge (tgt := 51) hx hb d_DiscMakerModel_feed_44 (by decide) (fun h_44 => ?_) (fun h_44 => absurd (by decide) h_44)
  refine lv_iload hx hb d_DiscMakerModel_feed_51 (lv_at hl 0 rfl) ?_
  refine lv_bipush (v := 12) hx hb d_DiscMakerModel_feed_53 (by decide) ?_
  refine lv_icmp_ge (tgt := 62) hx hb d_DiscMakerModel_feed_55 (by decide) (fun h_55 => absurd h_55 (by decide)) (fun h_55 => ?_)
  refine lv_iload_n hx hb d_DiscMakerModel_feed_58 rfl (lv_at hl 5 rfl) ?_
  refine lv_goto (tgt := 76) hx hb d_DiscMakerModel_feed_59 (by decide) ?_
  refine lv_istore hx hb d_DiscMakerModel_feed_76 hl (by decide) rfl (fun ls hl => ?_)
  have hl : lv_has ls 8 [(7, .int x3), (6, .int 8), (0, .ref h0), (1, .int x1), (2, .int x2), (3, .int x3), (4, .int x4), (5, .int x5)] := hl
  refine lv_aload_n hx hb d_DiscMakerModel_feed_78 rfl (lv_at hl 2 rfl) ?_
  refine va_get (D := D) (ci := 11) (v := .ref atext) (C := "DiscMakerModel") (T := F_DiscMakerModel) (N := 48) hx hb ht9 in_DiscMakerModel hown hK hP 0 rfl rfl 1 (by decide) (ht9 _ k1432) (fun _ h9 => h9) rfl d_DiscMakerModel_feed_79 ?_
  refine lv_aload_n hx hb d_DiscMakerModel_feed_82 rfl (lv_at hl 2 rfl) ?_
  refine va_get (D := D) (ci := 11) (v := .int 0) (C := "DiscMakerModel") (T := F_DiscMakerModel) (N := 48) hx hb ht9 in_DiscMakerModel hown hK hP 0 rfl rfl 2 (by decide) (ht9 _ k1433) (fun _ h9 => h9) rfl d_DiscMakerModel_feed_83 ?_
  refine lv_iload hx hb d_DiscMakerModel_feed_86 (lv_at hl 1 rfl) ?_
  refine lv_iadd hx hb d_DiscMakerModel_feed_88 ?_
  refine W.eq (g2 := F0 m 89 ls [.int 8, .ref atext]) (by rw [show ((0 + 8) : Int32) = 8 from by decide]) ?_
  refine lv_iload hx hb d_DiscMakerModel_feed_89 (lv_at hl 0 rfl) ?_
  refine lv_bipush (v := 24) hx hb d_DiscMakerModel_feed_91 (by decide) ?_
  refine lv_bipush (v := 8) hx hb d_DiscMakerModel_feed_93 (by decide) ?_
  refine lv_iload hx hb d_DiscMakerModel_feed_95 (lv_at hl 1 rfl) ?_
  refine lv_iconst (v := 4) hx hb d_DiscMakerModel_feed_97 (by decide) ?_
  refine lv_irem hx hb d_DiscMakerModel_feed_98 (by decide) ?_
  refine W.eq (g2 := F0 m 99 ls [.int 0, .int 8, .int 24, .int x3, .int 8, .ref atext]) (by rw [show ((8 - 8 / 4 * 4) : Int32) = 0 from by decide]) ?_
  refine lv_imul hx hb d_DiscMakerModel_feed_99 ?_
  refine W.eq (g2 := F0 m 100 ls [.int 0, .int 24, .int x3, .int 8, .ref atext]) (by rw [show ((8 * 0) : Int32) = 0 from by decide]) ?_
  refine lv_isub hx hb d_DiscMakerModel_feed_100 ?_
  refine W.eq (g2 := F0 m 101 ls [.int 24, .int x3, .int 8, .ref atext]) (by rw [show ((24 - 0) : Int32) = 24 from by decide]) ?_
  refine lv_ishr hx hb d_DiscMakerModel_feed_101 ?_
  refine lv_i2b hx hb d_DiscMakerModel_feed_102 rfl ?_
  refine zz_bast hx hb hK hP hD hS 1 0 rfl rfl (by unfold vp_in; decide) d_DiscMakerModel_feed_103 (fun f_279 H locs hP hD hS => ?_)
  have hP : va_P D CL [(h0, .inr (11, [.int 0, .ref atext, .int 0, .int 1, .ref akind, .ref aparent, .ref amode, .ref aowner, .ref agroup, .ref asize, .ref aseed, .ref aname, .ref anameSize, .ref atarget, .ref atargetSize, .ref abase, .ref abaseSize, .ref aextension, .ref aextensionSize, .ref aimage, .int 0, .ref atable, .ref asector, .ref asectors, .ref acontents, .int 0, .int 0, .int 0, .int 0, .ref aabove, .ref aisDirectory, .ref abytes, .ref aplace, .ref areadMode, .ref areadOwner, .ref areadGroup, .ref areadName, .ref areadNameSize, .ref areadTarget, .ref areadTargetSize, .ref adepth, .int 0, .int 0, .int 0, .int 0, .int 0, .int 0, .int 0])), (atext, .inl (cB, 400, .inl f_279))] H := hP
  have hD : va_D A [(h0, .inr (11, [.int 0, .ref atext, .int 0, .int 1, .ref akind, .ref aparent, .ref amode, .ref aowner, .ref agroup, .ref asize, .ref aseed, .ref aname, .ref anameSize, .ref atarget, .ref atargetSize, .ref abase, .ref abaseSize, .ref aextension, .ref aextensionSize, .ref aimage, .int 0, .ref atable, .ref asector, .ref asectors, .ref acontents, .int 0, .int 0, .int 0, .int 0, .ref aabove, .ref aisDirectory, .ref abytes, .ref aplace, .ref areadMode, .ref areadOwner, .ref areadGroup, .ref areadName, .ref areadNameSize, .ref areadTarget, .ref areadTargetSize, .ref adepth, .int 0, .int 0, .int 0, .int 0, .int 0, .int 0, .int 0])), (atext, .inl (cB, 400, .inl f_279))] := hD
  refine lv_iinc (v := 9) hx hb d_DiscMakerModel_feed_104 hl (k := 1) rfl (by decide) (by decide) rfl (fun ls hl => ?_)
  have hl : lv_has ls 8 [(6, .int 9), (7, .int x3), (0, .ref h0), (1, .int x1), (2, .int x2), (3, .int x3), (4, .int x4), (5, .int x5)] := hl
  refine lv_goto (tgt := 23) hx hb d_DiscMakerModel_feed_107 (by decide) ?_
  refine lv_iload hx hb d_DiscMakerModel_feed_23 (lv_at hl 0 rfl) ?_
  refine lv_bipush (v := 20) hx hb d_DiscMakerModel_feed_25 (by decide) ?_
  refine lv_icmp_ge (tgt := 110) hx hb d_DiscMakerModel_feed_27 (by decide) (fun h_27 => absurd h_27 (by decide)) (fun h_27 => ?_)
  refine lv_iload hx hb d_DiscMakerModel_feed_30 (lv_at hl 0 rfl) ?_
  refine lv_iconst (v := 4) hx hb d_DiscMakerModel_feed_32 (by decide) ?_
  refine lv_icmp_ge (tgt := 40) hx hb d_DiscMakerModel_feed_33 (by decide) (fun h_33 => ?_) (fun h_33 => absurd (by decide) h_33)
  refine lv_iload hx hb d_DiscMakerModel_feed_40 (lv_at hl 0 rfl) ?_
  refine lv_bipush (v := 8) hx hb d_DiscMakerModel_feed_42 (by decide) ?_
  refine lv_icmp_ge (tgt := 51) hx hb d_DiscMakerModel_feed_44 (by decide) (fun h_44 => ?_) (fun h_44 => absurd (by decide) h_44)
  refine lv_iload hx hb d_DiscMakerModel_feed_51 (lv_at hl 0 rfl) ?_
  refine lv_bipush (v := 12) hx hb d_DiscMakerModel_feed_53 (by decide) ?_
  refine lv_icmp_ge (tgt := 62) hx hb d_DiscMakerModel_feed_55 (by decide) (fun h_55 => absurd h_55 (by decide)) (fun h_55 => ?_)
  refine lv_iload_n hx hb d_DiscMakerModel_feed_58 rfl (lv_at hl 5 rfl) ?_
  refine lv_goto (tgt := 76) hx hb d_DiscMakerModel_feed_59 (by decide) ?_
  refine lv_istore hx hb d_DiscMakerModel_feed_76 hl (by decide) rfl (fun ls hl => ?_)
  have hl : lv_has ls 8 [(7, .int x3), (6, .int 9), (0, .ref h0), (1, .int x1), (2, .int x2), (3, .int x3), (4, .int x4), (5, .int x5)] := hl
  refine lv_aload_n hx hb d_DiscMakerModel_feed_78 rfl (lv_at hl 2 rfl) ?_
  refine va_get (D := D) (ci := 11) (v := .ref atext) (C := "DiscMakerModel") (T := F_DiscMakerModel) (N := 48) hx hb ht9 in_DiscMakerModel hown hK hP 0 rfl rfl 1 (by decide) (ht9 _ k1432) (fun _ h9 => h9) rfl d_DiscMakerModel_feed_79 ?_
  refine lv_aload_n hx hb d_DiscMakerModel_feed_82 rfl (lv_at hl 2 rfl) ?_
  refine va_get (D := D) (ci := 11) (v := .int 0) (C := "DiscMakerModel") (T := F_DiscMakerModel) (N := 48) hx hb ht9 in_DiscMakerModel hown hK hP 0 rfl rfl 2 (by decide) (ht9 _ k1433) (fun _ h9 => h9) rfl d_DiscMakerModel_feed_83 ?_
  refine lv_iload hx hb d_DiscMakerModel_feed_86 (lv_at hl 1 rfl) ?_
  refine lv_iadd hx hb d_DiscMakerModel_feed_88 ?_
  refine W.eq (g2 := F0 m 89 ls [.int 9, .ref atext]) (by rw [show ((0 + 9) : Int32) = 9 from by decide]) ?_
  refine lv_iload hx hb d_DiscMakerModel_feed_89 (lv_at hl 0 rfl) ?_
  refine lv_bipush (v := 24) hx hb d_DiscMakerModel_feed_91 (by decide) ?_
  refine lv_bipush (v := 8) hx hb d_DiscMakerModel_feed_93 (by decide) ?_
  refine lv_iload hx hb d_DiscMakerModel_feed_95 (lv_at hl 1 rfl) ?_
  refine lv_iconst (v := 4) hx hb d_DiscMakerModel_feed_97 (by decide) ?_
  refine lv_irem hx hb d_DiscMakerModel_feed_98 (by decide) ?_
  refine W.eq (g2 := F0 m 99 ls [.int 1, .int 8, .int 24, .int x3, .int 9, .ref atext]) (by rw [show ((9 - 9 / 4 * 4) : Int32) = 1 from by decide]) ?_
  refine lv_imul hx hb d_DiscMakerModel_feed_99 ?_
  refine W.eq (g2 := F0 m 100 ls [.int 8, .int 24, .int x3, .int 9, .ref atext]) (by rw [show ((8 * 1) : Int32) = 8 from by decide]) ?_
  refine lv_isub hx hb d_DiscMakerModel_feed_100 ?_
  refine W.eq (g2 := F0 m 101 ls [.int 16, .int x3, .int 9, .ref atext]) (by rw [show ((24 - 8) : Int32) = 16 from by decide]) ?_
  refine lv_ishr hx hb d_DiscMakerModel_feed_101 ?_
  refine lv_i2b hx hb d_DiscMakerModel_feed_102 rfl ?_
  refine zz_bast hx hb hK hP hD hS 1 0 rfl rfl (by unfold vp_in; decide) d_DiscMakerModel_feed_103 (fun f_313 H locs hP hD hS => ?_)
  have hP : va_P D CL [(h0, .inr (11, [.int 0, .ref atext, .int 0, .int 1, .ref akind, .ref aparent, .ref amode, .ref aowner, .ref agroup, .ref asize, .ref aseed, .ref aname, .ref anameSize, .ref atarget, .ref atargetSize, .ref abase, .ref abaseSize, .ref aextension, .ref aextensionSize, .ref aimage, .int 0, .ref atable, .ref asector, .ref asectors, .ref acontents, .int 0, .int 0, .int 0, .int 0, .ref aabove, .ref aisDirectory, .ref abytes, .ref aplace, .ref areadMode, .ref areadOwner, .ref areadGroup, .ref areadName, .ref areadNameSize, .ref areadTarget, .ref areadTargetSize, .ref adepth, .int 0, .int 0, .int 0, .int 0, .int 0, .int 0, .int 0])), (atext, .inl (cB, 400, .inl f_313))] H := hP
  have hD : va_D A [(h0, .inr (11, [.int 0, .ref atext, .int 0, .int 1, .ref akind, .ref aparent, .ref amode, .ref aowner, .ref agroup, .ref asize, .ref aseed, .ref aname, .ref anameSize, .ref atarget, .ref atargetSize, .ref abase, .ref abaseSize, .ref aextension, .ref aextensionSize, .ref aimage, .int 0, .ref atable, .ref asector, .ref asectors, .ref acontents, .int 0, .int 0, .int 0, .int 0, .ref aabove, .ref aisDirectory, .ref abytes, .ref aplace, .ref areadMode, .ref areadOwner, .ref areadGroup, .ref areadName, .ref areadNameSize, .ref areadTarget, .ref areadTargetSize, .ref adepth, .int 0, .int 0, .int 0, .int 0, .int 0, .int 0, .int 0])), (atext, .inl (cB, 400, .inl f_313))] := hD
  refine lv_iinc (v := 10) hx hb d_DiscMakerModel_feed_104 hl (k := 1) rfl (by decide) (by decide) rfl (fun ls hl => ?_)
  have hl : lv_has ls 8 [(6, .int 10), (7, .int x3), (0, .ref h0), (1, .int x1), (2, .int x2), (3, .int x3), (4, .int x4), (5, .int x5)] := hl
  refine lv_goto (tgt := 23) hx hb d_DiscMakerModel_feed_107 (by decide) ?_
  refine lv_iload hx hb d_DiscMakerModel_feed_23 (lv_at hl 0 rfl) ?_
  refine lv_bipush (v := 20) hx hb d_DiscMakerModel_feed_25 (by decide) ?_
  refine lv_icmp_ge (tgt := 110) hx hb d_DiscMakerModel_feed_27 (by decide) (fun h_27 => absurd h_27 (by decide)) (fun h_27 => ?_)
  refine lv_iload hx hb d_DiscMakerModel_feed_30 (lv_at hl 0 rfl) ?_
  refine lv_iconst (v := 4) hx hb d_DiscMakerModel_feed_32 (by decide) ?_
  refine lv_icmp_ge (tgt := 40) hx hb d_DiscMakerModel_feed_33 (by decide) (fun h_33 => ?_) (fun h_33 => absurd (by decide) h_33)
  refine lv_iload hx hb d_DiscMakerModel_feed_40 (lv_at hl 0 rfl) ?_
  refine lv_bipush (v := 8) hx hb d_DiscMakerModel_feed_42 (by decide) ?_
  refine lv_icmp_ge (tgt := 51) hx hb d_DiscMakerModel_feed_44 (by decide) (fun h_44 => ?_) (fun h_44 => absurd (by decide) h_44)
  refine lv_iload hx hb d_DiscMakerModel_feed_51 (lv_at hl 0 rfl) ?_
  refine lv_bipush (v := 12) hx hb d_DiscMakerModel_feed_53 (by decide) ?_
  refine lv_icmp_ge (tgt := 62) hx hb d_DiscMakerModel_feed_55 (by decide) (fun h_55 => absurd h_55 (by decide)) (fun h_55 => ?_)
  refine lv_iload_n hx hb d_DiscMakerModel_feed_58 rfl (lv_at hl 5 rfl) ?_
  refine lv_goto (tgt := 76) hx hb d_DiscMakerModel_feed_59 (by decide) ?_
  refine lv_istore hx hb d_DiscMakerModel_feed_76 hl (by decide) rfl (fun ls hl => ?_)
  have hl : lv_has ls 8 [(7, .int x3), (6, .int 10), (0, .ref h0), (1, .int x1), (2, .int x2), (3, .int x3), (4, .int x4), (5, .int x5)] := hl
  refine lv_aload_n hx hb d_DiscMakerModel_feed_78 rfl (lv_at hl 2 rfl) ?_
  refine va_get (D := D) (ci := 11) (v := .ref atext) (C := "DiscMakerModel") (T := F_DiscMakerModel) (N := 48) hx hb ht9 in_DiscMakerModel hown hK hP 0 rfl rfl 1 (by decide) (ht9 _ k1432) (fun _ h9 => h9) rfl d_DiscMakerModel_feed_79 ?_
  refine lv_aload_n hx hb d_DiscMakerModel_feed_82 rfl (lv_at hl 2 rfl) ?_
  refine va_get (D := D) (ci := 11) (v := .int 0) (C := "DiscMakerModel") (T := F_DiscMakerModel) (N := 48) hx hb ht9 in_DiscMakerModel hown hK hP 0 rfl rfl 2 (by decide) (ht9 _ k1433) (fun _ h9 => h9) rfl d_DiscMakerModel_feed_83 ?_
  refine lv_iload hx hb d_DiscMakerModel_feed_86 (lv_at hl 1 rfl) ?_
  refine lv_iadd hx hb d_DiscMakerModel_feed_88 ?_
  refine W.eq (g2 := F0 m 89 ls [.int 10, .ref atext]) (by rw [show ((0 + 10) : Int32) = 10 from by decide]) ?_
  refine lv_iload hx hb d_DiscMakerModel_feed_89 (lv_at hl 0 rfl) ?_
  refine lv_bipush (v := 24) hx hb d_DiscMakerModel_feed_91 (by decide) ?_
  refine lv_bipush (v := 8) hx hb d_DiscMakerModel_feed_93 (by decide) ?_
  refine lv_iload hx hb d_DiscMakerModel_feed_95 (lv_at hl 1 rfl) ?_
  refine lv_iconst (v := 4) hx hb d_DiscMakerModel_feed_97 (by decide) ?_
  refine lv_irem hx hb d_DiscMakerModel_feed_98 (by decide) ?_
  refine W.eq (g2 := F0 m 99 ls [.int 2, .int 8, .int 24, .int x3, .int 10, .ref atext]) (by rw [show ((10 - 10 / 4 * 4) : Int32) = 2 from by decide]) ?_
  refine lv_imul hx hb d_DiscMakerModel_feed_99 ?_
  refine W.eq (g2 := F0 m 100 ls [.int 16, .int 24, .int x3, .int 10, .ref atext]) (by rw [show ((8 * 2) : Int32) = 16 from by decide]) ?_
  refine lv_isub hx hb d_DiscMakerModel_feed_100 ?_
  refine W.eq (g2 := F0 m 101 ls [.int 8, .int x3, .int 10, .ref atext]) (by rw [show ((24 - 16) : Int32) = 8 from by decide]) ?_
  refine lv_ishr hx hb d_DiscMakerModel_feed_101 ?_
  refine lv_i2b hx hb d_DiscMakerModel_feed_102 rfl ?_
  refine zz_bast hx hb hK hP hD hS 1 0 rfl rfl (by unfold vp_in; decide) d_DiscMakerModel_feed_103 (fun f_347 H locs hP hD hS => ?_)
  have hP : va_P D CL [(h0, .inr (11, [.int 0, .ref atext, .int 0, .int 1, .ref akind, .ref aparent, .ref amode, .ref aowner, .ref agroup, .ref asize, .ref aseed, .ref aname, .ref anameSize, .ref atarget, .ref atargetSize, .ref abase, .ref abaseSize, .ref aextension, .ref aextensionSize, .ref aimage, .int 0, .ref atable, .ref asector, .ref asectors, .ref acontents, .int 0, .int 0, .int 0, .int 0, .ref aabove, .ref aisDirectory, .ref abytes, .ref aplace, .ref areadMode, .ref areadOwner, .ref areadGroup, .ref areadName, .ref areadNameSize, .ref areadTarget, .ref areadTargetSize, .ref adepth, .int 0, .int 0, .int 0, .int 0, .int 0, .int 0, .int 0])), (atext, .inl (cB, 400, .inl f_347))] H := hP
  have hD : va_D A [(h0, .inr (11, [.int 0, .ref atext, .int 0, .int 1, .ref akind, .ref aparent, .ref amode, .ref aowner, .ref agroup, .ref asize, .ref aseed, .ref aname, .ref anameSize, .ref atarget, .ref atargetSize, .ref abase, .ref abaseSize, .ref aextension, .ref aextensionSize, .ref aimage, .int 0, .ref atable, .ref asector, .ref asectors, .ref acontents, .int 0, .int 0, .int 0, .int 0, .ref aabove, .ref aisDirectory, .ref abytes, .ref aplace, .ref areadMode, .ref areadOwner, .ref areadGroup, .ref areadName, .ref areadNameSize, .ref areadTarget, .ref areadTargetSize, .ref adepth, .int 0, .int 0, .int 0, .int 0, .int 0, .int 0, .int 0])), (atext, .inl (cB, 400, .inl f_347))] := hD
  refine lv_iinc (v := 11) hx hb d_DiscMakerModel_feed_104 hl (k := 1) rfl (by decide) (by decide) rfl (fun ls hl => ?_)
  have hl : lv_has ls 8 [(6, .int 11), (7, .int x3), (0, .ref h0), (1, .int x1), (2, .int x2), (3, .int x3), (4, .int x4), (5, .int x5)] := hl
  refine lv_goto (tgt := 23) hx hb d_DiscMakerModel_feed_107 (by decide) ?_
  refine lv_iload hx hb d_DiscMakerModel_feed_23 (lv_at hl 0 rfl) ?_
  refine lv_bipush (v := 20) hx hb d_DiscMakerModel_feed_25 (by decide) ?_
  refine lv_icmp_ge (tgt := 110) hx hb d_DiscMakerModel_feed_27 (by decide) (fun h_27 => absurd h_27 (by decide)) (fun h_27 => ?_)
  refine lv_iload hx hb d_DiscMakerModel_feed_30 (lv_at hl 0 rfl) ?_
  refine lv_iconst (v := 4) hx hb d_DiscMakerModel_feed_32 (by decide) ?_
  refine lv_icmp_ge (tgt := 40) hx hb d_DiscMakerModel_feed_33 (by decide) (fun h_33 => ?_) (fun h_33 => absurd (by decide) h_33)
  refine lv_iload hx hb d_DiscMakerModel_feed_40 (lv_at hl 0 rfl) ?_
  refine lv_bipush (v := 8) hx hb d_DiscMakerModel_feed_42 (by decide) ?_
  refine lv_icmp_ge (tgt := 51) hx hb d_DiscMakerModel_feed_44 (by decide) (fun h_44 => ?_) (fun h_44 => absurd (by decide) h_44)
  refine lv_iload hx hb d_DiscMakerModel_feed_51 (lv_at hl 0 rfl) ?_
  refine lv_bipush (v := 12) hx hb d_DiscMakerModel_feed_53 (by decide) ?_
  refine lv_icmp_ge (tgt := 62) hx hb d_DiscMakerModel_feed_55 (by decide) (fun h_55 => absurd h_55 (by decide)) (fun h_55 => ?_)
  refine lv_iload_n hx hb d_DiscMakerModel_feed_58 rfl (lv_at hl 5 rfl) ?_
  refine lv_goto (tgt := 76) hx hb d_DiscMakerModel_feed_59 (by decide) ?_
  refine lv_istore hx hb d_DiscMakerModel_feed_76 hl (by decide) rfl (fun ls hl => ?_)
  have hl : lv_has ls 8 [(7, .int x3), (6, .int 11), (0, .ref h0), (1, .int x1), (2, .int x2), (3, .int x3), (4, .int x4), (5, .int x5)] := hl
  refine lv_aload_n hx hb d_DiscMakerModel_feed_78 rfl (lv_at hl 2 rfl) ?_
  refine va_get (D := D) (ci := 11) (v := .ref atext) (C := "DiscMakerModel") (T := F_DiscMakerModel) (N := 48) hx hb ht9 in_DiscMakerModel hown hK hP 0 rfl rfl 1 (by decide) (ht9 _ k1432) (fun _ h9 => h9) rfl d_DiscMakerModel_feed_79 ?_
  refine lv_aload_n hx hb d_DiscMakerModel_feed_82 rfl (lv_at hl 2 rfl) ?_
  refine va_get (D := D) (ci := 11) (v := .int 0) (C := "DiscMakerModel") (T := F_DiscMakerModel) (N := 48) hx hb ht9 in_DiscMakerModel hown hK hP 0 rfl rfl 2 (by decide) (ht9 _ k1433) (fun _ h9 => h9) rfl d_DiscMakerModel_feed_83 ?_
  refine lv_iload hx hb d_DiscMakerModel_feed_86 (lv_at hl 1 rfl) ?_
  refine lv_iadd hx hb d_DiscMakerModel_feed_88 ?_
  refine W.eq (g2 := F0 m 89 ls [.int 11, .ref atext]) (by rw [show ((0 + 11) : Int32) = 11 from by decide]) ?_
  refine lv_iload hx hb d_DiscMakerModel_feed_89 (lv_at hl 0 rfl) ?_
  refine lv_bipush (v := 24) hx hb d_DiscMakerModel_feed_91 (by decide) ?_
  refine lv_bipush (v := 8) hx hb d_DiscMakerModel_feed_93 (by decide) ?_
  refine lv_iload hx hb d_DiscMakerModel_feed_95 (lv_at hl 1 rfl) ?_
  refine lv_iconst (v := 4) hx hb d_DiscMakerModel_feed_97 (by decide) ?_
  refine lv_irem hx hb d_DiscMakerModel_feed_98 (by decide) ?_
  refine W.eq (g2 := F0 m 99 ls [.int 3, .int 8, .int 24, .int x3, .int 11, .ref atext]) (by rw [show ((11 - 11 / 4 * 4) : Int32) = 3 from by decide]) ?_
  refine lv_imul hx hb d_DiscMakerModel_feed_99 ?_
  refine W.eq (g2 := F0 m 100 ls [.int 24, .int 24, .int x3, .int 11, .ref atext]) (by rw [show ((8 * 3) : Int32) = 24 from by decide]) ?_
  refine lv_isub hx hb d_DiscMakerModel_feed_100 ?_
  refine W.eq (g2 := F0 m 101 ls [.int 0, .int x3, .int 11, .ref atext]) (by rw [show ((24 - 24) : Int32) = 0 from by decide]) ?_
  refine lv_ishr hx hb d_DiscMakerModel_feed_101 ?_
  refine lv_i2b hx hb d_DiscMakerModel_feed_102 rfl ?_
  refine zz_bast hx hb hK hP hD hS 1 0 rfl rfl (by unfold vp_in; decide) d_DiscMakerModel_feed_103 (fun f_381 H locs hP hD hS => ?_)
  have hP : va_P D CL [(h0, .inr (11, [.int 0, .ref atext, .int 0, .int 1, .ref akind, .ref aparent, .ref amode, .ref aowner, .ref agroup, .ref asize, .ref aseed, .ref aname, .ref anameSize, .ref atarget, .ref atargetSize, .ref abase, .ref abaseSize, .ref aextension, .ref aextensionSize, .ref aimage, .int 0, .ref atable, .ref asector, .ref asectors, .ref acontents, .int 0, .int 0, .int 0, .int 0, .ref aabove, .ref aisDirectory, .ref abytes, .ref aplace, .ref areadMode, .ref areadOwner, .ref areadGroup, .ref areadName, .ref areadNameSize, .ref areadTarget, .ref areadTargetSize, .ref adepth, .int 0, .int 0, .int 0, .int 0, .int 0, .int 0, .int 0])), (atext, .inl (cB, 400, .inl f_381))] H := hP
  have hD : va_D A [(h0, .inr (11, [.int 0, .ref atext, .int 0, .int 1, .ref akind, .ref aparent, .ref amode, .ref aowner, .ref agroup, .ref asize, .ref aseed, .ref aname, .ref anameSize, .ref atarget, .ref atargetSize, .ref abase, .ref abaseSize, .ref aextension, .ref aextensionSize, .ref aimage, .int 0, .ref atable, .ref asector, .ref asectors, .ref acontents, .int 0, .int 0, .int 0, .int 0, .ref aabove, .ref aisDirectory, .ref abytes, .ref aplace, .ref areadMode, .ref areadOwner, .ref areadGroup, .ref areadName, .ref areadNameSize, .ref areadTarget, .ref areadTargetSize, .ref adepth, .int 0, .int 0, .int 0, .int 0, .int 0, .int 0, .int 0])), (atext, .inl (cB, 400, .inl f_381))] := hD
  refine lv_iinc (v := 12) hx hb d_DiscMakerModel_feed_104 hl (k := 1) rfl (by decide) (by decide) rfl (fun ls hl => ?_)
  have hl : lv_has ls 8 [(6, .int 12), (7, .int x3), (0, .ref h0), (1, .int x1), (2, .int x2), (3, .int x3), (4, .int x4), (5, .int x5)] := hl
  refine lv_goto (tgt := 23) hx hb d_DiscMakerModel_feed_107 (by decide) ?_
  refine lv_iload hx hb d_DiscMakerModel_feed_23 (lv_at hl 0 rfl) ?_
  refine lv_bipush (v := 20) hx hb d_DiscMakerModel_feed_25 (by decide) ?_
  refine lv_icmp_ge (tgt := 110) hx hb d_DiscMakerModel_feed_27 (by decide) (fun h_27 => absurd h_27 (by decide)) (fun h_27 => ?_)
  refine lv_iload hx hb d_DiscMakerModel_feed_30 (lv_at hl 0 rfl) ?_
  refine lv_iconst (v := 4) hx hb d_DiscMakerModel_feed_32 (by decide) ?_
  refine lv_icmp_ge (tgt := 40) hx hb d_DiscMakerModel_feed_33 (by decide) (fun h_33 => ?_) (fun h_33 => absurd (by decide) h_33)
  refine lv_iload hx hb d_DiscMakerModel_feed_40 (lv_at hl 0 rfl) ?_
  refine lv_bipush (v := 8) hx hb d_DiscMakerModel_feed_42 (by decide) ?_
  refine lv_icmp_ge (tgt := 51) hx hb d_DiscMakerModel_feed_44 (by decide) (fun h_44 => ?_) (fun h_44 => absurd (by decide) h_44)
  refine lv_iload hx hb d_DiscMakerModel_feed_51 (lv_at hl 0 rfl) ?_
  refine lv_bipush (v := 12) hx hb d_DiscMakerModel_feed_53 (by decide) ?_
  refine lv_icmp_ge (tgt := 62) hx hb d_DiscMakerModel_feed_55 (by decide) (fun h_55 => ?_) (fun h_55 => absurd (by decide) h_55)
  refine lv_iload hx hb d_DiscMakerModel_feed_62 (lv_at hl 0 rfl) ?_
  refine lv_bipush (v := 16) hx hb d_DiscMakerModel_feed_64 (by decide) ?_
  refine lv_icmp_ge (tgt := 74) hx hb d_DiscMakerModel_feed_66 (by decide) (fun h_66 => absurd h_66 (by decide)) (fun h_66 => ?_)
  refine lv_iload hx hb d_DiscMakerModel_feed_69 (lv_at hl 6 rfl) ?_
  refine lv_goto (tgt := 76) hx hb d_DiscMakerModel_feed_71 (by decide) ?_
  refine lv_istore hx hb d_DiscMakerModel_feed_76 hl (by decide) rfl (fun ls hl => ?_)
  have hl : lv_has ls 8 [(7, .int x4), (6, .int 12), (0, .ref h0), (1, .int x1), (2, .int x2), (3, .int x3), (4, .int x4), (5, .int x5)] := hl
  refine lv_aload_n hx hb d_DiscMakerModel_feed_78 rfl (lv_at hl 2 rfl) ?_
  refine va_get (D := D) (ci := 11) (v := .ref atext) (C := "DiscMakerModel") (T := F_DiscMakerModel) (N := 48) hx hb ht9 in_DiscMakerModel hown hK hP 0 rfl rfl 1 (by decide) (ht9 _ k1432) (fun _ h9 => h9) rfl d_DiscMakerModel_feed_79 ?_
  refine lv_aload_n hx hb d_DiscMakerModel_feed_82 rfl (lv_at hl 2 rfl) ?_
  refine va_get (D := D) (ci := 11) (v := .int 0) (C := "DiscMakerModel") (T := F_DiscMakerModel) (N := 48) hx hb ht9 in_DiscMakerModel hown hK hP 0 rfl rfl 2 (by decide) (ht9 _ k1433) (fun _ h9 => h9) rfl d_DiscMakerModel_feed_83 ?_
  refine lv_iload hx hb d_DiscMakerModel_feed_86 (lv_at hl 1 rfl) ?_
  refine lv_iadd hx hb d_DiscMakerModel_feed_88 ?_
  refine W.eq (g2 := F0 m 89 ls [.int 12, .ref atext]) (by rw [show ((0 + 12) : Int32) = 12 from by decide]) ?_
  refine lv_iload hx hb d_DiscMakerModel_feed_89 (lv_at hl 0 rfl) ?_
  refine lv_bipush (v := 24) hx hb d_DiscMakerModel_feed_91 (by decide) ?_
  refine lv_bipush (v := 8) hx hb d_DiscMakerModel_feed_93 (by decide) ?_
  refine lv_iload hx hb d_DiscMakerModel_feed_95 (lv_at hl 1 rfl) ?_
  refine lv_iconst (v := 4) hx hb d_DiscMakerModel_feed_97 (by decide) ?_
  refine lv_irem hx hb d_DiscMakerModel_feed_98 (by decide) ?_
  refine W.eq (g2 := F0 m 99 ls [.int 0, .int 8, .int 24, .int x4, .int 12, .ref atext]) (by rw [show ((12 - 12 / 4 * 4) : Int32) = 0 from by decide]) ?_
  refine lv_imul hx hb d_DiscMakerModel_feed_99 ?_
  refine W.eq (g2 := F0 m 100 ls [.int 0, .int 24, .int x4, .int 12, .ref atext]) (by rw [show ((8 * 0) : Int32) = 0 from by decide]) ?_
  refine lv_isub hx hb d_DiscMakerModel_feed_100 ?_
  refine W.eq (g2 := F0 m 101 ls [.int 24, .int x4, .int 12, .ref atext]) (by rw [show ((24 - 0) : Int32) = 24 from by decide]) ?_
  refine lv_ishr hx hb d_DiscMakerModel_feed_101 ?_
  refine lv_i2b hx hb d_DiscMakerModel_feed_102 rfl ?_
  refine zz_bast hx hb hK hP hD hS 1 0 rfl rfl (by unfold vp_in; decide) d_DiscMakerModel_feed_103 (fun f_418 H locs hP hD hS => ?_)
  have hP : va_P D CL [(h0, .inr (11, [.int 0, .ref atext, .int 0, .int 1, .ref akind, .ref aparent, .ref amode, .ref aowner, .ref agroup, .ref asize, .ref aseed, .ref aname, .ref anameSize, .ref atarget, .ref atargetSize, .ref abase, .ref abaseSize, .ref aextension, .ref aextensionSize, .ref aimage, .int 0, .ref atable, .ref asector, .ref asectors, .ref acontents, .int 0, .int 0, .int 0, .int 0, .ref aabove, .ref aisDirectory, .ref abytes, .ref aplace, .ref areadMode, .ref areadOwner, .ref areadGroup, .ref areadName, .ref areadNameSize, .ref areadTarget, .ref areadTargetSize, .ref adepth, .int 0, .int 0, .int 0, .int 0, .int 0, .int 0, .int 0])), (atext, .inl (cB, 400, .inl f_418))] H := hP
  have hD : va_D A [(h0, .inr (11, [.int 0, .ref atext, .int 0, .int 1, .ref akind, .ref aparent, .ref amode, .ref aowner, .ref agroup, .ref asize, .ref aseed, .ref aname, .ref anameSize, .ref atarget, .ref atargetSize, .ref abase, .ref abaseSize, .ref aextension, .ref aextensionSize, .ref aimage, .int 0, .ref atable, .ref asector, .ref asectors, .ref acontents, .int 0, .int 0, .int 0, .int 0, .ref aabove, .ref aisDirectory, .ref abytes, .ref aplace, .ref areadMode, .ref areadOwner, .ref areadGroup, .ref areadName, .ref areadNameSize, .ref areadTarget, .ref areadTargetSize, .ref adepth, .int 0, .int 0, .int 0, .int 0, .int 0, .int 0, .int 0])), (atext, .inl (cB, 400, .inl f_418))] := hD
  refine lv_iinc (v := 13) hx hb d_DiscMakerModel_feed_104 hl (k := 1) rfl (by decide) (by decide) rfl (fun ls hl => ?_)
  have hl : lv_has ls 8 [(6, .int 13), (7, .int x4), (0, .ref h0), (1, .int x1), (2, .int x2), (3, .int x3), (4, .int x4), (5, .int x5)] := hl
  refine lv_goto (tgt := 23) hx hb d_DiscMakerModel_feed_107 (by decide) ?_
  refine lv_iload hx hb d_DiscMakerModel_feed_23 (lv_at hl 0 rfl) ?_
  refine lv_bipush (v := 20) hx hb d_DiscMakerModel_feed_25 (by decide) ?_
  refine lv_icmp_ge (tgt := 110) hx hb d_DiscMakerModel_feed_27 (by decide) (fun h_27 => absurd h_27 (by decide)) (fun h_27 => ?_)
  refine lv_iload hx hb d_DiscMakerModel_feed_30 (lv_at hl 0 rfl) ?_
  refine lv_iconst (v := 4) hx hb d_DiscMakerModel_feed_32 (by decide) ?_
  refine lv_icmp_ge (tgt := 40) hx hb d_DiscMakerModel_feed_33 (by decide) (fun h_33 => ?_) (fun h_33 => absurd (by decide) h_33)
  refine lv_iload hx hb d_DiscMakerModel_feed_40 (lv_at hl 0 rfl) ?_
  refine lv_bipush (v := 8) hx hb d_DiscMakerModel_feed_42 (by decide) ?_
  refine lv_icmp_ge (tgt := 51) hx hb d_DiscMakerModel_feed_44 (by decide) (fun h_44 => ?_) (fun h_44 => absurd (by decide) h_44)
  refine lv_iload hx hb d_DiscMakerModel_feed_51 (lv_at hl 0 rfl) ?_
  refine lv_bipush (v := 12) hx hb d_DiscMakerModel_feed_53 (by decide) ?_
  refine lv_icmp_ge (tgt := 62) hx hb d_DiscMakerModel_feed_55 (by decide) (fun h_55 => ?_) (fun h_55 => absurd (by decide) h_55)
  refine lv_iload hx hb d_DiscMakerModel_feed_62 (lv_at hl 0 rfl) ?_
  refine lv_bipush (v := 16) hx hb d_DiscMakerModel_feed_64 (by decide) ?_
  refine lv_icmp_ge (tgt := 74) hx hb d_DiscMakerModel_feed_66 (by decide) (fun h_66 => absurd h_66 (by decide)) (fun h_66 => ?_)
  refine lv_iload hx hb d_DiscMakerModel_feed_69 (lv_at hl 6 rfl) ?_
  refine lv_goto (tgt := 76) hx hb d_DiscMakerModel_feed_71 (by decide) ?_
  refine lv_istore hx hb d_DiscMakerModel_feed_76 hl (by decide) rfl (fun ls hl => ?_)
  have hl : lv_has ls 8 [(7, .int x4), (6, .int 13), (0, .ref h0), (1, .int x1), (2, .int x2), (3, .int x3), (4, .int x4), (5, .int x5)] := hl
  refine lv_aload_n hx hb d_DiscMakerModel_feed_78 rfl (lv_at hl 2 rfl) ?_
  refine va_get (D := D) (ci := 11) (v := .ref atext) (C := "DiscMakerModel") (T := F_DiscMakerModel) (N := 48) hx hb ht9 in_DiscMakerModel hown hK hP 0 rfl rfl 1 (by decide) (ht9 _ k1432) (fun _ h9 => h9) rfl d_DiscMakerModel_feed_79 ?_
  refine lv_aload_n hx hb d_DiscMakerModel_feed_82 rfl (lv_at hl 2 rfl) ?_
  refine va_get (D := D) (ci := 11) (v := .int 0) (C := "DiscMakerModel") (T := F_DiscMakerModel) (N := 48) hx hb ht9 in_DiscMakerModel hown hK hP 0 rfl rfl 2 (by decide) (ht9 _ k1433) (fun _ h9 => h9) rfl d_DiscMakerModel_feed_83 ?_
  refine lv_iload hx hb d_DiscMakerModel_feed_86 (lv_at hl 1 rfl) ?_
  refine lv_iadd hx hb d_DiscMakerModel_feed_88 ?_
  refine W.eq (g2 := F0 m 89 ls [.int 13, .ref atext]) (by rw [show ((0 + 13) : Int32) = 13 from by decide]) ?_
  refine lv_iload hx hb d_DiscMakerModel_feed_89 (lv_at hl 0 rfl) ?_
  refine lv_bipush (v := 24) hx hb d_DiscMakerModel_feed_91 (by decide) ?_
  refine lv_bipush (v := 8) hx hb d_DiscMakerModel_feed_93 (by decide) ?_
  refine lv_iload hx hb d_DiscMakerModel_feed_95 (lv_at hl 1 rfl) ?_
  refine lv_iconst (v := 4) hx hb d_DiscMakerModel_feed_97 (by decide) ?_
  refine lv_irem hx hb d_DiscMakerModel_feed_98 (by decide) ?_
  refine W.eq (g2 := F0 m 99 ls [.int 1, .int 8, .int 24, .int x4, .int 13, .ref atext]) (by rw [show ((13 - 13 / 4 * 4) : Int32) = 1 from by decide]) ?_
  refine lv_imul hx hb d_DiscMakerModel_feed_99 ?_
  refine W.eq (g2 := F0 m 100 ls [.int 8, .int 24, .int x4, .int 13, .ref atext]) (by rw [show ((8 * 1) : Int32) = 8 from by decide]) ?_
  refine lv_isub hx hb d_DiscMakerModel_feed_100 ?_
  refine W.eq (g2 := F0 m 101 ls [.int 16, .int x4, .int 13, .ref atext]) (by rw [show ((24 - 8) : Int32) = 16 from by decide]) ?_
  refine lv_ishr hx hb d_DiscMakerModel_feed_101 ?_
  refine lv_i2b hx hb d_DiscMakerModel_feed_102 rfl ?_
  refine zz_bast hx hb hK hP hD hS 1 0 rfl rfl (by unfold vp_in; decide) d_DiscMakerModel_feed_103 (fun f_455 H locs hP hD hS => ?_)
  have hP : va_P D CL [(h0, .inr (11, [.int 0, .ref atext, .int 0, .int 1, .ref akind, .ref aparent, .ref amode, .ref aowner, .ref agroup, .ref asize, .ref aseed, .ref aname, .ref anameSize, .ref atarget, .ref atargetSize, .ref abase, .ref abaseSize, .ref aextension, .ref aextensionSize, .ref aimage, .int 0, .ref atable, .ref asector, .ref asectors, .ref acontents, .int 0, .int 0, .int 0, .int 0, .ref aabove, .ref aisDirectory, .ref abytes, .ref aplace, .ref areadMode, .ref areadOwner, .ref areadGroup, .ref areadName, .ref areadNameSize, .ref areadTarget, .ref areadTargetSize, .ref adepth, .int 0, .int 0, .int 0, .int 0, .int 0, .int 0, .int 0])), (atext, .inl (cB, 400, .inl f_455))] H := hP
  have hD : va_D A [(h0, .inr (11, [.int 0, .ref atext, .int 0, .int 1, .ref akind, .ref aparent, .ref amode, .ref aowner, .ref agroup, .ref asize, .ref aseed, .ref aname, .ref anameSize, .ref atarget, .ref atargetSize, .ref abase, .ref abaseSize, .ref aextension, .ref aextensionSize, .ref aimage, .int 0, .ref atable, .ref asector, .ref asectors, .ref acontents, .int 0, .int 0, .int 0, .int 0, .ref aabove, .ref aisDirectory, .ref abytes, .ref aplace, .ref areadMode, .ref areadOwner, .ref areadGroup, .ref areadName, .ref areadNameSize, .ref areadTarget, .ref areadTargetSize, .ref adepth, .int 0, .int 0, .int 0, .int 0, .int 0, .int 0, .int 0])), (atext, .inl (cB, 400, .inl f_455))] := hD
  refine lv_iinc (v := 14) hx hb d_DiscMakerModel_feed_104 hl (k := 1) rfl (by decide) (by decide) rfl (fun ls hl => ?_)
  have hl : lv_has ls 8 [(6, .int 14), (7, .int x4), (0, .ref h0), (1, .int x1), (2, .int x2), (3, .int x3), (4, .int x4), (5, .int x5)] := hl
  refine lv_goto (tgt := 23) hx hb d_DiscMakerModel_feed_107 (by decide) ?_
  refine lv_iload hx hb d_DiscMakerModel_feed_23 (lv_at hl 0 rfl) ?_
  refine lv_bipush (v := 20) hx hb d_DiscMakerModel_feed_25 (by decide) ?_
  refine lv_icmp_ge (tgt := 110) hx hb d_DiscMakerModel_feed_27 (by decide) (fun h_27 => absurd h_27 (by decide)) (fun h_27 => ?_)
  refine lv_iload hx hb d_DiscMakerModel_feed_30 (lv_at hl 0 rfl) ?_
  refine lv_iconst (v := 4) hx hb d_DiscMakerModel_feed_32 (by decide) ?_
  refine lv_icmp_ge (tgt := 40) hx hb d_DiscMakerModel_feed_33 (by decide) (fun h_33 => ?_) (fun h_33 => absurd (by decide) h_33)
  refine lv_iload hx hb d_DiscMakerModel_feed_40 (lv_at hl 0 rfl) ?_
  refine lv_bipush (v := 8) hx hb d_DiscMakerModel_feed_42 (by decide) ?_
  refine lv_icmp_ge (tgt := 51) hx hb d_DiscMakerModel_feed_44 (by decide) (fun h_44 => ?_) (fun h_44 => absurd (by decide) h_44)
  refine lv_iload hx hb d_DiscMakerModel_feed_51 (lv_at hl 0 rfl) ?_
  refine lv_bipush (v := 12) hx hb d_DiscMakerModel_feed_53 (by decide) ?_
  refine lv_icmp_ge (tgt := 62) hx hb d_DiscMakerModel_feed_55 (by decide) (fun h_55 => ?_) (fun h_55 => absurd (by decide) h_55)
  refine lv_iload hx hb d_DiscMakerModel_feed_62 (lv_at hl 0 rfl) ?_
  refine lv_bipush (v := 16) hx hb d_DiscMakerModel_feed_64 (by decide) ?_
  refine lv_icmp_ge (tgt := 74) hx hb d_DiscMakerModel_feed_66 (by decide) (fun h_66 => absurd h_66 (by decide)) (fun h_66 => ?_)
  refine lv_iload hx hb d_DiscMakerModel_feed_69 (lv_at hl 6 rfl) ?_
  refine lv_goto (tgt := 76) hx hb d_DiscMakerModel_feed_71 (by decide) ?_
  refine lv_istore hx hb d_DiscMakerModel_feed_76 hl (by decide) rfl (fun ls hl => ?_)
  have hl : lv_has ls 8 [(7, .int x4), (6, .int 14), (0, .ref h0), (1, .int x1), (2, .int x2), (3, .int x3), (4, .int x4), (5, .int x5)] := hl
  refine lv_aload_n hx hb d_DiscMakerModel_feed_78 rfl (lv_at hl 2 rfl) ?_
  refine va_get (D := D) (ci := 11) (v := .ref atext) (C := "DiscMakerModel") (T := F_DiscMakerModel) (N := 48) hx hb ht9 in_DiscMakerModel hown hK hP 0 rfl rfl 1 (by decide) (ht9 _ k1432) (fun _ h9 => h9) rfl d_DiscMakerModel_feed_79 ?_
  refine lv_aload_n hx hb d_DiscMakerModel_feed_82 rfl (lv_at hl 2 rfl) ?_
  refine va_get (D := D) (ci := 11) (v := .int 0) (C := "DiscMakerModel") (T := F_DiscMakerModel) (N := 48) hx hb ht9 in_DiscMakerModel hown hK hP 0 rfl rfl 2 (by decide) (ht9 _ k1433) (fun _ h9 => h9) rfl d_DiscMakerModel_feed_83 ?_
  refine lv_iload hx hb d_DiscMakerModel_feed_86 (lv_at hl 1 rfl) ?_
  refine lv_iadd hx hb d_DiscMakerModel_feed_88 ?_
  refine W.eq (g2 := F0 m 89 ls [.int 14, .ref atext]) (by rw [show ((0 + 14) : Int32) = 14 from by decide]) ?_
  refine lv_iload hx hb d_DiscMakerModel_feed_89 (lv_at hl 0 rfl) ?_
  refine lv_bipush (v := 24) hx hb d_DiscMakerModel_feed_91 (by decide) ?_
  refine lv_bipush (v := 8) hx hb d_DiscMakerModel_feed_93 (by decide) ?_
  refine lv_iload hx hb d_DiscMakerModel_feed_95 (lv_at hl 1 rfl) ?_
  refine lv_iconst (v := 4) hx hb d_DiscMakerModel_feed_97 (by decide) ?_
  refine lv_irem hx hb d_DiscMakerModel_feed_98 (by decide) ?_
  refine W.eq (g2 := F0 m 99 ls [.int 2, .int 8, .int 24, .int x4, .int 14, .ref atext]) (by rw [show ((14 - 14 / 4 * 4) : Int32) = 2 from by decide]) ?_
  refine lv_imul hx hb d_DiscMakerModel_feed_99 ?_
  refine W.eq (g2 := F0 m 100 ls [.int 16, .int 24, .int x4, .int 14, .ref atext]) (by rw [show ((8 * 2) : Int32) = 16 from by decide]) ?_
  refine lv_isub hx hb d_DiscMakerModel_feed_100 ?_
  refine W.eq (g2 := F0 m 101 ls [.int 8, .int x4, .int 14, .ref atext]) (by rw [show ((24 - 16) : Int32) = 8 from by decide]) ?_
  refine lv_ishr hx hb d_DiscMakerModel_feed_101 ?_
  refine lv_i2b hx hb d_DiscMakerModel_feed_102 rfl ?_
  refine zz_bast hx hb hK hP hD hS 1 0 rfl rfl (by unfold vp_in; decide) d_DiscMakerModel_feed_103 (fun f_492 H locs hP hD hS => ?_)
  have hP : va_P D CL [(h0, .inr (11, [.int 0, .ref atext, .int 0, .int 1, .ref akind, .ref aparent, .ref amode, .ref aowner, .ref agroup, .ref asize, .ref aseed, .ref aname, .ref anameSize, .ref atarget, .ref atargetSize, .ref abase, .ref abaseSize, .ref aextension, .ref aextensionSize, .ref aimage, .int 0, .ref atable, .ref asector, .ref asectors, .ref acontents, .int 0, .int 0, .int 0, .int 0, .ref aabove, .ref aisDirectory, .ref abytes, .ref aplace, .ref areadMode, .ref areadOwner, .ref areadGroup, .ref areadName, .ref areadNameSize, .ref areadTarget, .ref areadTargetSize, .ref adepth, .int 0, .int 0, .int 0, .int 0, .int 0, .int 0, .int 0])), (atext, .inl (cB, 400, .inl f_492))] H := hP
  have hD : va_D A [(h0, .inr (11, [.int 0, .ref atext, .int 0, .int 1, .ref akind, .ref aparent, .ref amode, .ref aowner, .ref agroup, .ref asize, .ref aseed, .ref aname, .ref anameSize, .ref atarget, .ref atargetSize, .ref abase, .ref abaseSize, .ref aextension, .ref aextensionSize, .ref aimage, .int 0, .ref atable, .ref asector, .ref asectors, .ref acontents, .int 0, .int 0, .int 0, .int 0, .ref aabove, .ref aisDirectory, .ref abytes, .ref aplace, .ref areadMode, .ref areadOwner, .ref areadGroup, .ref areadName, .ref areadNameSize, .ref areadTarget, .ref areadTargetSize, .ref adepth, .int 0, .int 0, .int 0, .int 0, .int 0, .int 0, .int 0])), (atext, .inl (cB, 400, .inl f_492))] := hD
  refine lv_iinc (v := 15) hx hb d_DiscMakerModel_feed_104 hl (k := 1) rfl (by decide) (by decide) rfl (fun ls hl => ?_)
  have hl : lv_has ls 8 [(6, .int 15), (7, .int x4), (0, .ref h0), (1, .int x1), (2, .int x2), (3, .int x3), (4, .int x4), (5, .int x5)] := hl
  refine lv_goto (tgt := 23) hx hb d_DiscMakerModel_feed_107 (by decide) ?_
  refine lv_iload hx hb d_DiscMakerModel_feed_23 (lv_at hl 0 rfl) ?_
  refine lv_bipush (v := 20) hx hb d_DiscMakerModel_feed_25 (by decide) ?_
  refine lv_icmp_ge (tgt := 110) hx hb d_DiscMakerModel_feed_27 (by decide) (fun h_27 => absurd h_27 (by decide)) (fun h_27 => ?_)
  refine lv_iload hx hb d_DiscMakerModel_feed_30 (lv_at hl 0 rfl) ?_
  refine lv_iconst (v := 4) hx hb d_DiscMakerModel_feed_32 (by decide) ?_
  refine lv_icmp_ge (tgt := 40) hx hb d_DiscMakerModel_feed_33 (by decide) (fun h_33 => ?_) (fun h_33 => absurd (by decide) h_33)
  refine lv_iload hx hb d_DiscMakerModel_feed_40 (lv_at hl 0 rfl) ?_
  refine lv_bipush (v := 8) hx hb d_DiscMakerModel_feed_42 (by decide) ?_
  refine lv_icmp_ge (tgt := 51) hx hb d_DiscMakerModel_feed_44 (by decide) (fun h_44 => ?_) (fun h_44 => absurd (by decide) h_44)
  refine lv_iload hx hb d_DiscMakerModel_feed_51 (lv_at hl 0 rfl) ?_
  refine lv_bipush (v := 12) hx hb d_DiscMakerModel_feed_53 (by decide) ?_
  refine lv_icmp_ge (tgt := 62) hx hb d_DiscMakerModel_feed_55 (by decide) (fun h_55 => ?_) (fun h_55 => absurd (by decide) h_55)
  refine lv_iload hx hb d_DiscMakerModel_feed_62 (lv_at hl 0 rfl) ?_
  refine lv_bipush (v := 16) hx hb d_DiscMakerModel_feed_64 (by decide) ?_
  refine lv_icmp_ge (tgt := 74) hx hb d_DiscMakerModel_feed_66 (by decide) (fun h_66 => absurd h_66 (by decide)) (fun h_66 => ?_)
  refine lv_iload hx hb d_DiscMakerModel_feed_69 (lv_at hl 6 rfl) ?_
  refine lv_goto (tgt := 76) hx hb d_DiscMakerModel_feed_71 (by decide) ?_
  refine lv_istore hx hb d_DiscMakerModel_feed_76 hl (by decide) rfl (fun ls hl => ?_)
  have hl : lv_has ls 8 [(7, .int x4), (6, .int 15), (0, .ref h0), (1, .int x1), (2, .int x2), (3, .int x3), (4, .int x4), (5, .int x5)] := hl
  refine lv_aload_n hx hb d_DiscMakerModel_feed_78 rfl (lv_at hl 2 rfl) ?_
  refine va_get (D := D) (ci := 11) (v := .ref atext) (C := "DiscMakerModel") (T := F_DiscMakerModel) (N := 48) hx hb ht9 in_DiscMakerModel hown hK hP 0 rfl rfl 1 (by decide) (ht9 _ k1432) (fun _ h9 => h9) rfl d_DiscMakerModel_feed_79 ?_
  refine lv_aload_n hx hb d_DiscMakerModel_feed_82 rfl (lv_at hl 2 rfl) ?_
  refine va_get (D := D) (ci := 11) (v := .int 0) (C := "DiscMakerModel") (T := F_DiscMakerModel) (N := 48) hx hb ht9 in_DiscMakerModel hown hK hP 0 rfl rfl 2 (by decide) (ht9 _ k1433) (fun _ h9 => h9) rfl d_DiscMakerModel_feed_83 ?_
  refine lv_iload hx hb d_DiscMakerModel_feed_86 (lv_at hl 1 rfl) ?_
  refine lv_iadd hx hb d_DiscMakerModel_feed_88 ?_
  refine W.eq (g2 := F0 m 89 ls [.int 15, .ref atext]) (by rw [show ((0 + 15) : Int32) = 15 from by decide]) ?_
  refine lv_iload hx hb d_DiscMakerModel_feed_89 (lv_at hl 0 rfl) ?_
  refine lv_bipush (v := 24) hx hb d_DiscMakerModel_feed_91 (by decide) ?_
  refine lv_bipush (v := 8) hx hb d_DiscMakerModel_feed_93 (by decide) ?_
  refine lv_iload hx hb d_DiscMakerModel_feed_95 (lv_at hl 1 rfl) ?_
  refine lv_iconst (v := 4) hx hb d_DiscMakerModel_feed_97 (by decide) ?_
  refine lv_irem hx hb d_DiscMakerModel_feed_98 (by decide) ?_
  refine W.eq (g2 := F0 m 99 ls [.int 3, .int 8, .int 24, .int x4, .int 15, .ref atext]) (by rw [show ((15 - 15 / 4 * 4) : Int32) = 3 from by decide]) ?_
  refine lv_imul hx hb d_DiscMakerModel_feed_99 ?_
  refine W.eq (g2 := F0 m 100 ls [.int 24, .int 24, .int x4, .int 15, .ref atext]) (by rw [show ((8 * 3) : Int32) = 24 from by decide]) ?_
  refine lv_isub hx hb d_DiscMakerModel_feed_100 ?_
  refine W.eq (g2 := F0 m 101 ls [.int 0, .int x4, .int 15, .ref atext]) (by rw [show ((24 - 24) : Int32) = 0 from by decide]) ?_
  refine lv_ishr hx hb d_DiscMakerModel_feed_101 ?_
  refine lv_i2b hx hb d_DiscMakerModel_feed_102 rfl ?_
  refine zz_bast hx hb hK hP hD hS 1 0 rfl rfl (by unfold vp_in; decide) d_DiscMakerModel_feed_103 (fun f_529 H locs hP hD hS => ?_)
  have hP : va_P D CL [(h0, .inr (11, [.int 0, .ref atext, .int 0, .int 1, .ref akind, .ref aparent, .ref amode, .ref aowner, .ref agroup, .ref asize, .ref aseed, .ref aname, .ref anameSize, .ref atarget, .ref atargetSize, .ref abase, .ref abaseSize, .ref aextension, .ref aextensionSize, .ref aimage, .int 0, .ref atable, .ref asector, .ref asectors, .ref acontents, .int 0, .int 0, .int 0, .int 0, .ref aabove, .ref aisDirectory, .ref abytes, .ref aplace, .ref areadMode, .ref areadOwner, .ref areadGroup, .ref areadName, .ref areadNameSize, .ref areadTarget, .ref areadTargetSize, .ref adepth, .int 0, .int 0, .int 0, .int 0, .int 0, .int 0, .int 0])), (atext, .inl (cB, 400, .inl f_529))] H := hP
  have hD : va_D A [(h0, .inr (11, [.int 0, .ref atext, .int 0, .int 1, .ref akind, .ref aparent, .ref amode, .ref aowner, .ref agroup, .ref asize, .ref aseed, .ref aname, .ref anameSize, .ref atarget, .ref atargetSize, .ref abase, .ref abaseSize, .ref aextension, .ref aextensionSize, .ref aimage, .int 0, .ref atable, .ref asector, .ref asectors, .ref acontents, .int 0, .int 0, .int 0, .int 0, .ref aabove, .ref aisDirectory, .ref abytes, .ref aplace, .ref areadMode, .ref areadOwner, .ref areadGroup, .ref areadName, .ref areadNameSize, .ref areadTarget, .ref areadTargetSize, .ref adepth, .int 0, .int 0, .int 0, .int 0, .int 0, .int 0, .int 0])), (atext, .inl (cB, 400, .inl f_529))] := hD
  refine lv_iinc (v := 16) hx hb d_DiscMakerModel_feed_104 hl (k := 1) rfl (by decide) (by decide) rfl (fun ls hl => ?_)
  have hl : lv_has ls 8 [(6, .int 16), (7, .int x4), (0, .ref h0), (1, .int x1), (2, .int x2), (3, .int x3), (4, .int x4), (5, .int x5)] := hl
  refine lv_goto (tgt := 23) hx hb d_DiscMakerModel_feed_107 (by decide) ?_
  refine lv_iload hx hb d_DiscMakerModel_feed_23 (lv_at hl 0 rfl) ?_
  refine lv_bipush (v := 20) hx hb d_DiscMakerModel_feed_25 (by decide) ?_
  refine lv_icmp_ge (tgt := 110) hx hb d_DiscMakerModel_feed_27 (by decide) (fun h_27 => absurd h_27 (by decide)) (fun h_27 => ?_)
  refine lv_iload hx hb d_DiscMakerModel_feed_30 (lv_at hl 0 rfl) ?_
  refine lv_iconst (v := 4) hx hb d_DiscMakerModel_feed_32 (by decide) ?_
  refine lv_icmp_ge (tgt := 40) hx hb d_DiscMakerModel_feed_33 (by decide) (fun h_33 => ?_) (fun h_33 => absurd (by decide) h_33)
  refine lv_iload hx hb d_DiscMakerModel_feed_40 (lv_at hl 0 rfl) ?_
  refine lv_bipush (v := 8) hx hb d_DiscMakerModel_feed_42 (by decide) ?_
  refine lv_icmp_ge (tgt := 51) hx hb d_DiscMakerModel_feed_44 (by decide) (fun h_44 => ?_) (fun h_44 => absurd (by decide) h_44)
  refine lv_iload hx hb d_DiscMakerModel_feed_51 (lv_at hl 0 rfl) ?_
  refine lv_bipush (v := 12) hx hb d_DiscMakerModel_feed_53 (by decide) ?_
  refine lv_icmp_ge (tgt := 62) hx hb d_DiscMakerModel_feed_55 (by decide) (fun h_55 => ?_) (fun h_55 => absurd (by decide) h_55)
  refine lv_iload hx hb d_DiscMakerModel_feed_62 (lv_at hl 0 rfl) ?_
  refine lv_bipush (v := 16) hx hb d_DiscMakerModel_feed_64 (by decide) ?_
  refine lv_icmp_ge (tgt := 74) hx hb d_DiscMakerModel_feed_66 (by decide) (fun h_66 => ?_) (fun h_66 => absurd (by decide) h_66)
  refine lv_iload hx hb d_DiscMakerModel_feed_74 (lv_at hl 7 rfl) ?_
  refine lv_istore hx hb d_DiscMakerModel_feed_76 hl (by decide) rfl (fun ls hl => ?_)
  have hl : lv_has ls 8 [(7, .int x5), (6, .int 16), (0, .ref h0), (1, .int x1), (2, .int x2), (3, .int x3), (4, .int x4), (5, .int x5)] := hl
  refine lv_aload_n hx hb d_DiscMakerModel_feed_78 rfl (lv_at hl 2 rfl) ?_
  refine va_get (D := D) (ci := 11) (v := .ref atext) (C := "DiscMakerModel") (T := F_DiscMakerModel) (N := 48) hx hb ht9 in_DiscMakerModel hown hK hP 0 rfl rfl 1 (by decide) (ht9 _ k1432) (fun _ h9 => h9) rfl d_DiscMakerModel_feed_79 ?_
  refine lv_aload_n hx hb d_DiscMakerModel_feed_82 rfl (lv_at hl 2 rfl) ?_
  refine va_get (D := D) (ci := 11) (v := .int 0) (C := "DiscMakerModel") (T := F_DiscMakerModel) (N := 48) hx hb ht9 in_DiscMakerModel hown hK hP 0 rfl rfl 2 (by decide) (ht9 _ k1433) (fun _ h9 => h9) rfl d_DiscMakerModel_feed_83 ?_
  refine lv_iload hx hb d_DiscMakerModel_feed_86 (lv_at hl 1 rfl) ?_
  refine lv_iadd hx hb d_DiscMakerModel_feed_88 ?_
  refine W.eq (g2 := F0 m 89 ls [.int 16, .ref atext]) (by rw [show ((0 + 16) : Int32) = 16 from by decide]) ?_
  refine lv_iload hx hb d_DiscMakerModel_feed_89 (lv_at hl 0 rfl) ?_
  refine lv_bipush (v := 24) hx hb d_DiscMakerModel_feed_91 (by decide) ?_
  refine lv_bipush (v := 8) hx hb d_DiscMakerModel_feed_93 (by decide) ?_
  refine lv_iload hx hb d_DiscMakerModel_feed_95 (lv_at hl 1 rfl) ?_
  refine lv_iconst (v := 4) hx hb d_DiscMakerModel_feed_97 (by decide) ?_
  refine lv_irem hx hb d_DiscMakerModel_feed_98 (by decide) ?_
  refine W.eq (g2 := F0 m 99 ls [.int 0, .int 8, .int 24, .int x5, .int 16, .ref atext]) (by rw [show ((16 - 16 / 4 * 4) : Int32) = 0 from by decide]) ?_
  refine lv_imul hx hb d_DiscMakerModel_feed_99 ?_
  refine W.eq (g2 := F0 m 100 ls [.int 0, .int 24, .int x5, .int 16, .ref atext]) (by rw [show ((8 * 0) : Int32) = 0 from by decide]) ?_
  refine lv_isub hx hb d_DiscMakerModel_feed_100 ?_
  refine W.eq (g2 := F0 m 101 ls [.int 24, .int x5, .int 16, .ref atext]) (by rw [show ((24 - 0) : Int32) = 24 from by decide]) ?_
  refine lv_ishr hx hb d_DiscMakerModel_feed_101 ?_
  refine lv_i2b hx hb d_DiscMakerModel_feed_102 rfl ?_
  refine zz_bast hx hb hK hP hD hS 1 0 rfl rfl (by unfold vp_in; decide) d_DiscMakerModel_feed_103 (fun f_565 H locs hP hD hS => ?_)
  have hP : va_P D CL [(h0, .inr (11, [.int 0, .ref atext, .int 0, .int 1, .ref akind, .ref aparent, .ref amode, .ref aowner, .ref agroup, .ref asize, .ref aseed, .ref aname, .ref anameSize, .ref atarget, .ref atargetSize, .ref abase, .ref abaseSize, .ref aextension, .ref aextensionSize, .ref aimage, .int 0, .ref atable, .ref asector, .ref asectors, .ref acontents, .int 0, .int 0, .int 0, .int 0, .ref aabove, .ref aisDirectory, .ref abytes, .ref aplace, .ref areadMode, .ref areadOwner, .ref areadGroup, .ref areadName, .ref areadNameSize, .ref areadTarget, .ref areadTargetSize, .ref adepth, .int 0, .int 0, .int 0, .int 0, .int 0, .int 0, .int 0])), (atext, .inl (cB, 400, .inl f_565))] H := hP
  have hD : va_D A [(h0, .inr (11, [.int 0, .ref atext, .int 0, .int 1, .ref akind, .ref aparent, .ref amode, .ref aowner, .ref agroup, .ref asize, .ref aseed, .ref aname, .ref anameSize, .ref atarget, .ref atargetSize, .ref abase, .ref abaseSize, .ref aextension, .ref aextensionSize, .ref aimage, .int 0, .ref atable, .ref asector, .ref asectors, .ref acontents, .int 0, .int 0, .int 0, .int 0, .ref aabove, .ref aisDirectory, .ref abytes, .ref aplace, .ref areadMode, .ref areadOwner, .ref areadGroup, .ref areadName, .ref areadNameSize, .ref areadTarget, .ref areadTargetSize, .ref adepth, .int 0, .int 0, .int 0, .int 0, .int 0, .int 0, .int 0])), (atext, .inl (cB, 400, .inl f_565))] := hD
  refine lv_iinc (v := 17) hx hb d_DiscMakerModel_feed_104 hl (k := 1) rfl (by decide) (by decide) rfl (fun ls hl => ?_)
  have hl : lv_has ls 8 [(6, .int 17), (7, .int x5), (0, .ref h0), (1, .int x1), (2, .int x2), (3, .int x3), (4, .int x4), (5, .int x5)] := hl
  refine lv_goto (tgt := 23) hx hb d_DiscMakerModel_feed_107 (by decide) ?_
  refine lv_iload hx hb d_DiscMakerModel_feed_23 (lv_at hl 0 rfl) ?_
  refine lv_bipush (v := 20) hx hb d_DiscMakerModel_feed_25 (by decide) ?_
  refine lv_icmp_ge (tgt := 110) hx hb d_DiscMakerModel_feed_27 (by decide) (fun h_27 => absurd h_27 (by decide)) (fun h_27 => ?_)
  refine lv_iload hx hb d_DiscMakerModel_feed_30 (lv_at hl 0 rfl) ?_
  refine lv_iconst (v := 4) hx hb d_DiscMakerModel_feed_32 (by decide) ?_
  refine lv_icmp_ge (tgt := 40) hx hb d_DiscMakerModel_feed_33 (by decide) (fun h_33 => ?_) (fun h_33 => absurd (by decide) h_33)
  refine lv_iload hx hb d_DiscMakerModel_feed_40 (lv_at hl 0 rfl) ?_
  refine lv_bipush (v := 8) hx hb d_DiscMakerModel_feed_42 (by decide) ?_
  refine lv_icmp_ge (tgt := 51) hx hb d_DiscMakerModel_feed_44 (by decide) (fun h_44 => ?_) (fun h_44 => absurd (by decide) h_44)
  refine lv_iload hx hb d_DiscMakerModel_feed_51 (lv_at hl 0 rfl) ?_
  refine lv_bipush (v := 12) hx hb d_DiscMakerModel_feed_53 (by decide) ?_
  refine lv_icmp_ge (tgt := 62) hx hb d_DiscMakerModel_feed_55 (by decide) (fun h_55 => ?_) (fun h_55 => absurd (by decide) h_55)
  refine lv_iload hx hb d_DiscMakerModel_feed_62 (lv_at hl 0 rfl) ?_
  refine lv_bipush (v := 16) hx hb d_DiscMakerModel_feed_64 (by decide) ?_
  refine lv_icmp_ge (tgt := 74) hx hb d_DiscMakerModel_feed_66 (by decide) (fun h_66 => ?_) (fun h_66 => absurd (by decide) h_66)
  refine lv_iload hx hb d_DiscMakerModel_feed_74 (lv_at hl 7 rfl) ?_
  refine lv_istore hx hb d_DiscMakerModel_feed_76 hl (by decide) rfl (fun ls hl => ?_)
  have hl : lv_has ls 8 [(7, .int x5), (6, .int 17), (0, .ref h0), (1, .int x1), (2, .int x2), (3, .int x3), (4, .int x4), (5, .int x5)] := hl
  refine lv_aload_n hx hb d_DiscMakerModel_feed_78 rfl (lv_at hl 2 rfl) ?_
  refine va_get (D := D) (ci := 11) (v := .ref atext) (C := "DiscMakerModel") (T := F_DiscMakerModel) (N := 48) hx hb ht9 in_DiscMakerModel hown hK hP 0 rfl rfl 1 (by decide) (ht9 _ k1432) (fun _ h9 => h9) rfl d_DiscMakerModel_feed_79 ?_
  refine lv_aload_n hx hb d_DiscMakerModel_feed_82 rfl (lv_at hl 2 rfl) ?_
  refine va_get (D := D) (ci := 11) (v := .int 0) (C := "DiscMakerModel") (T := F_DiscMakerModel) (N := 48) hx hb ht9 in_DiscMakerModel hown hK hP 0 rfl rfl 2 (by decide) (ht9 _ k1433) (fun _ h9 => h9) rfl d_DiscMakerModel_feed_83 ?_
  refine lv_iload hx hb d_DiscMakerModel_feed_86 (lv_at hl 1 rfl) ?_
  refine lv_iadd hx hb d_DiscMakerModel_feed_88 ?_
  refine W.eq (g2 := F0 m 89 ls [.int 17, .ref atext]) (by rw [show ((0 + 17) : Int32) = 17 from by decide]) ?_
  refine lv_iload hx hb d_DiscMakerModel_feed_89 (lv_at hl 0 rfl) ?_
  refine lv_bipush (v := 24) hx hb d_DiscMakerModel_feed_91 (by decide) ?_
  refine lv_bipush (v := 8) hx hb d_DiscMakerModel_feed_93 (by decide) ?_
  refine lv_iload hx hb d_DiscMakerModel_feed_95 (lv_at hl 1 rfl) ?_
  refine lv_iconst (v := 4) hx hb d_DiscMakerModel_feed_97 (by decide) ?_
  refine lv_irem hx hb d_DiscMakerModel_feed_98 (by decide) ?_
  refine W.eq (g2 := F0 m 99 ls [.int 1, .int 8, .int 24, .int x5, .int 17, .ref atext]) (by rw [show ((17 - 17 / 4 * 4) : Int32) = 1 from by decide]) ?_
  refine lv_imul hx hb d_DiscMakerModel_feed_99 ?_
  refine W.eq (g2 := F0 m 100 ls [.int 8, .int 24, .int x5, .int 17, .ref atext]) (by rw [show ((8 * 1) : Int32) = 8 from by decide]) ?_
  refine lv_isub hx hb d_DiscMakerModel_feed_100 ?_
  refine W.eq (g2 := F0 m 101 ls [.int 16, .int x5, .int 17, .ref atext]) (by rw [show ((24 - 8) : Int32) = 16 from by decide]) ?_
  refine lv_ishr hx hb d_DiscMakerModel_feed_101 ?_
  refine lv_i2b hx hb d_DiscMakerModel_feed_102 rfl ?_
  refine zz_bast hx hb hK hP hD hS 1 0 rfl rfl (by unfold vp_in; decide) d_DiscMakerModel_feed_103 (fun f_601 H locs hP hD hS => ?_)
  have hP : va_P D CL [(h0, .inr (11, [.int 0, .ref atext, .int 0, .int 1, .ref akind, .ref aparent, .ref amode, .ref aowner, .ref agroup, .ref asize, .ref aseed, .ref aname, .ref anameSize, .ref atarget, .ref atargetSize, .ref abase, .ref abaseSize, .ref aextension, .ref aextensionSize, .ref aimage, .int 0, .ref atable, .ref asector, .ref asectors, .ref acontents, .int 0, .int 0, .int 0, .int 0, .ref aabove, .ref aisDirectory, .ref abytes, .ref aplace, .ref areadMode, .ref areadOwner, .ref areadGroup, .ref areadName, .ref areadNameSize, .ref areadTarget, .ref areadTargetSize, .ref adepth, .int 0, .int 0, .int 0, .int 0, .int 0, .int 0, .int 0])), (atext, .inl (cB, 400, .inl f_601))] H := hP
  have hD : va_D A [(h0, .inr (11, [.int 0, .ref atext, .int 0, .int 1, .ref akind, .ref aparent, .ref amode, .ref aowner, .ref agroup, .ref asize, .ref aseed, .ref aname, .ref anameSize, .ref atarget, .ref atargetSize, .ref abase, .ref abaseSize, .ref aextension, .ref aextensionSize, .ref aimage, .int 0, .ref atable, .ref asector, .ref asectors, .ref acontents, .int 0, .int 0, .int 0, .int 0, .ref aabove, .ref aisDirectory, .ref abytes, .ref aplace, .ref areadMode, .ref areadOwner, .ref areadGroup, .ref areadName, .ref areadNameSize, .ref areadTarget, .ref areadTargetSize, .ref adepth, .int 0, .int 0, .int 0, .int 0, .int 0, .int 0, .int 0])), (atext, .inl (cB, 400, .inl f_601))] := hD
  refine lv_iinc (v := 18) hx hb d_DiscMakerModel_feed_104 hl (k := 1) rfl (by decide) (by decide) rfl (fun ls hl => ?_)
  have hl : lv_has ls 8 [(6, .int 18), (7, .int x5), (0, .ref h0), (1, .int x1), (2, .int x2), (3, .int x3), (4, .int x4), (5, .int x5)] := hl
  refine lv_goto (tgt := 23) hx hb d_DiscMakerModel_feed_107 (by decide) ?_
  refine lv_iload hx hb d_DiscMakerModel_feed_23 (lv_at hl 0 rfl) ?_
  refine lv_bipush (v := 20) hx hb d_DiscMakerModel_feed_25 (by decide) ?_
  refine lv_icmp_ge (tgt := 110) hx hb d_DiscMakerModel_feed_27 (by decide) (fun h_27 => absurd h_27 (by decide)) (fun h_27 => ?_)
  refine lv_iload hx hb d_DiscMakerModel_feed_30 (lv_at hl 0 rfl) ?_
  refine lv_iconst (v := 4) hx hb d_DiscMakerModel_feed_32 (by decide) ?_
  refine lv_icmp_ge (tgt := 40) hx hb d_DiscMakerModel_feed_33 (by decide) (fun h_33 => ?_) (fun h_33 => absurd (by decide) h_33)
  refine lv_iload hx hb d_DiscMakerModel_feed_40 (lv_at hl 0 rfl) ?_
  refine lv_bipush (v := 8) hx hb d_DiscMakerModel_feed_42 (by decide) ?_
  refine lv_icmp_ge (tgt := 51) hx hb d_DiscMakerModel_feed_44 (by decide) (fun h_44 => ?_) (fun h_44 => absurd (by decide) h_44)
  refine lv_iload hx hb d_DiscMakerModel_feed_51 (lv_at hl 0 rfl) ?_
  refine lv_bipush (v := 12) hx hb d_DiscMakerModel_feed_53 (by decide) ?_
  refine lv_icmp_ge (tgt := 62) hx hb d_DiscMakerModel_feed_55 (by decide) (fun h_55 => ?_) (fun h_55 => absurd (by decide) h_55)
  refine lv_iload hx hb d_DiscMakerModel_feed_62 (lv_at hl 0 rfl) ?_
  refine lv_bipush (v := 16) hx hb d_DiscMakerModel_feed_64 (by decide) ?_
  refine lv_icmp_ge (tgt := 74) hx hb d_DiscMakerModel_feed_66 (by decide) (fun h_66 => ?_) (fun h_66 => absurd (by decide) h_66)
  refine lv_iload hx hb d_DiscMakerModel_feed_74 (lv_at hl 7 rfl) ?_
  refine lv_istore hx hb d_DiscMakerModel_feed_76 hl (by decide) rfl (fun ls hl => ?_)
  have hl : lv_has ls 8 [(7, .int x5), (6, .int 18), (0, .ref h0), (1, .int x1), (2, .int x2), (3, .int x3), (4, .int x4), (5, .int x5)] := hl
  refine lv_aload_n hx hb d_DiscMakerModel_feed_78 rfl (lv_at hl 2 rfl) ?_
  refine va_get (D := D) (ci := 11) (v := .ref atext) (C := "DiscMakerModel") (T := F_DiscMakerModel) (N := 48) hx hb ht9 in_DiscMakerModel hown hK hP 0 rfl rfl 1 (by decide) (ht9 _ k1432) (fun _ h9 => h9) rfl d_DiscMakerModel_feed_79 ?_
  refine lv_aload_n hx hb d_DiscMakerModel_feed_82 rfl (lv_at hl 2 rfl) ?_
  refine va_get (D := D) (ci := 11) (v := .int 0) (C := "DiscMakerModel") (T := F_DiscMakerModel) (N := 48) hx hb ht9 in_DiscMakerModel hown hK hP 0 rfl rfl 2 (by decide) (ht9 _ k1433) (fun _ h9 => h9) rfl d_DiscMakerModel_feed_83 ?_
  refine lv_iload hx hb d_DiscMakerModel_feed_86 (lv_at hl 1 rfl) ?_
  refine lv_iadd hx hb d_DiscMakerModel_feed_88 ?_
  refine W.eq (g2 := F0 m 89 ls [.int 18, .ref atext]) (by rw [show ((0 + 18) : Int32) = 18 from by decide]) ?_
  refine lv_iload hx hb d_DiscMakerModel_feed_89 (lv_at hl 0 rfl) ?_
  refine lv_bipush (v := 24) hx hb d_DiscMakerModel_feed_91 (by decide) ?_
  refine lv_bipush (v := 8) hx hb d_DiscMakerModel_feed_93 (by decide) ?_
  refine lv_iload hx hb d_DiscMakerModel_feed_95 (lv_at hl 1 rfl) ?_
  refine lv_iconst (v := 4) hx hb d_DiscMakerModel_feed_97 (by decide) ?_
  refine lv_irem hx hb d_DiscMakerModel_feed_98 (by decide) ?_
  refine W.eq (g2 := F0 m 99 ls [.int 2, .int 8, .int 24, .int x5, .int 18, .ref atext]) (by rw [show ((18 - 18 / 4 * 4) : Int32) = 2 from by decide]) ?_
  refine lv_imul hx hb d_DiscMakerModel_feed_99 ?_
  refine W.eq (g2 := F0 m 100 ls [.int 16, .int 24, .int x5, .int 18, .ref atext]) (by rw [show ((8 * 2) : Int32) = 16 from by decide]) ?_
  refine lv_isub hx hb d_DiscMakerModel_feed_100 ?_
  refine W.eq (g2 := F0 m 101 ls [.int 8, .int x5, .int 18, .ref atext]) (by rw [show ((24 - 16) : Int32) = 8 from by decide]) ?_
  refine lv_ishr hx hb d_DiscMakerModel_feed_101 ?_
  refine lv_i2b hx hb d_DiscMakerModel_feed_102 rfl ?_
  refine zz_bast hx hb hK hP hD hS 1 0 rfl rfl (by unfold vp_in; decide) d_DiscMakerModel_feed_103 (fun f_637 H locs hP hD hS => ?_)
  have hP : va_P D CL [(h0, .inr (11, [.int 0, .ref atext, .int 0, .int 1, .ref akind, .ref aparent, .ref amode, .ref aowner, .ref agroup, .ref asize, .ref aseed, .ref aname, .ref anameSize, .ref atarget, .ref atargetSize, .ref abase, .ref abaseSize, .ref aextension, .ref aextensionSize, .ref aimage, .int 0, .ref atable, .ref asector, .ref asectors, .ref acontents, .int 0, .int 0, .int 0, .int 0, .ref aabove, .ref aisDirectory, .ref abytes, .ref aplace, .ref areadMode, .ref areadOwner, .ref areadGroup, .ref areadName, .ref areadNameSize, .ref areadTarget, .ref areadTargetSize, .ref adepth, .int 0, .int 0, .int 0, .int 0, .int 0, .int 0, .int 0])), (atext, .inl (cB, 400, .inl f_637))] H := hP
  have hD : va_D A [(h0, .inr (11, [.int 0, .ref atext, .int 0, .int 1, .ref akind, .ref aparent, .ref amode, .ref aowner, .ref agroup, .ref asize, .ref aseed, .ref aname, .ref anameSize, .ref atarget, .ref atargetSize, .ref abase, .ref abaseSize, .ref aextension, .ref aextensionSize, .ref aimage, .int 0, .ref atable, .ref asector, .ref asectors, .ref acontents, .int 0, .int 0, .int 0, .int 0, .ref aabove, .ref aisDirectory, .ref abytes, .ref aplace, .ref areadMode, .ref areadOwner, .ref areadGroup, .ref areadName, .ref areadNameSize, .ref areadTarget, .ref areadTargetSize, .ref adepth, .int 0, .int 0, .int 0, .int 0, .int 0, .int 0, .int 0])), (atext, .inl (cB, 400, .inl f_637))] := hD
  refine lv_iinc (v := 19) hx hb d_DiscMakerModel_feed_104 hl (k := 1) rfl (by decide) (by decide) rfl (fun ls hl => ?_)
  have hl : lv_has ls 8 [(6, .int 19), (7, .int x5), (0, .ref h0), (1, .int x1), (2, .int x2), (3, .int x3), (4, .int x4), (5, .int x5)] := hl
  refine lv_goto (tgt := 23) hx hb d_DiscMakerModel_feed_107 (by decide) ?_
  refine lv_iload hx hb d_DiscMakerModel_feed_23 (lv_at hl 0 rfl) ?_
  refine lv_bipush (v := 20) hx hb d_DiscMakerModel_feed_25 (by decide) ?_
  refine lv_icmp_ge (tgt := 110) hx hb d_DiscMakerModel_feed_27 (by decide) (fun h_27 => absurd h_27 (by decide)) (fun h_27 => ?_)
  refine lv_iload hx hb d_DiscMakerModel_feed_30 (lv_at hl 0 rfl) ?_
  refine lv_iconst (v := 4) hx hb d_DiscMakerModel_feed_32 (by decide) ?_
  refine lv_icmp_ge (tgt := 40) hx hb d_DiscMakerModel_feed_33 (by decide) (fun h_33 => ?_) (fun h_33 => absurd (by decide) h_33)
  refine lv_iload hx hb d_DiscMakerModel_feed_40 (lv_at hl 0 rfl) ?_
  refine lv_bipush (v := 8) hx hb d_DiscMakerModel_feed_42 (by decide) ?_
  refine lv_icmp_ge (tgt := 51) hx hb d_DiscMakerModel_feed_44 (by decide) (fun h_44 => ?_) (fun h_44 => absurd (by decide) h_44)
  refine lv_iload hx hb d_DiscMakerModel_feed_51 (lv_at hl 0 rfl) ?_
  refine lv_bipush (v := 12) hx hb d_DiscMakerModel_feed_53 (by decide) ?_
  refine lv_icmp_ge (tgt := 62) hx hb d_DiscMakerModel_feed_55 (by decide) (fun h_55 => ?_) (fun h_55 => absurd (by decide) h_55)
  refine lv_iload hx hb d_DiscMakerModel_feed_62 (lv_at hl 0 rfl) ?_
  refine lv_bipush (v := 16) hx hb d_DiscMakerModel_feed_64 (by decide) ?_
  refine lv_icmp_ge (tgt := 74) hx hb d_DiscMakerModel_feed_66 (by decide) (fun h_66 => ?_) (fun h_66 => absurd (by decide) h_66)
  refine lv_iload hx hb d_DiscMakerModel_feed_74 (lv_at hl 7 rfl) ?_
  refine lv_istore hx hb d_DiscMakerModel_feed_76 hl (by decide) rfl (fun ls hl => ?_)
  have hl : lv_has ls 8 [(7, .int x5), (6, .int 19), (0, .ref h0), (1, .int x1), (2, .int x2), (3, .int x3), (4, .int x4), (5, .int x5)] := hl
  refine lv_aload_n hx hb d_DiscMakerModel_feed_78 rfl (lv_at hl 2 rfl) ?_
  refine va_get (D := D) (ci := 11) (v := .ref atext) (C := "DiscMakerModel") (T := F_DiscMakerModel) (N := 48) hx hb ht9 in_DiscMakerModel hown hK hP 0 rfl rfl 1 (by decide) (ht9 _ k1432) (fun _ h9 => h9) rfl d_DiscMakerModel_feed_79 ?_
  refine lv_aload_n hx hb d_DiscMakerModel_feed_82 rfl (lv_at hl 2 rfl) ?_
  refine va_get (D := D) (ci := 11) (v := .int 0) (C := "DiscMakerModel") (T := F_DiscMakerModel) (N := 48) hx hb ht9 in_DiscMakerModel hown hK hP 0 rfl rfl 2 (by decide) (ht9 _ k1433) (fun _ h9 => h9) rfl d_DiscMakerModel_feed_83 ?_
  refine lv_iload hx hb d_DiscMakerModel_feed_86 (lv_at hl 1 rfl) ?_
  refine lv_iadd hx hb d_DiscMakerModel_feed_88 ?_
  refine W.eq (g2 := F0 m 89 ls [.int 19, .ref atext]) (by rw [show ((0 + 19) : Int32) = 19 from by decide]) ?_
  refine lv_iload hx hb d_DiscMakerModel_feed_89 (lv_at hl 0 rfl) ?_
  refine lv_bipush (v := 24) hx hb d_DiscMakerModel_feed_91 (by decide) ?_
  refine lv_bipush (v := 8) hx hb d_DiscMakerModel_feed_93 (by decide) ?_
  refine lv_iload hx hb d_DiscMakerModel_feed_95 (lv_at hl 1 rfl) ?_
  refine lv_iconst (v := 4) hx hb d_DiscMakerModel_feed_97 (by decide) ?_
  refine lv_irem hx hb d_DiscMakerModel_feed_98 (by decide) ?_
  refine W.eq (g2 := F0 m 99 ls [.int 3, .int 8, .int 24, .int x5, .int 19, .ref atext]) (by rw [show ((19 - 19 / 4 * 4) : Int32) = 3 from by decide]) ?_
  refine lv_imul hx hb d_DiscMakerModel_feed_99 ?_
  refine W.eq (g2 := F0 m 100 ls [.int 24, .int 24, .int x5, .int 19, .ref atext]) (by rw [show ((8 * 3) : Int32) = 24 from by decide]) ?_
  refine lv_isub hx hb d_DiscMakerModel_feed_100 ?_
  refine W.eq (g2 := F0 m 101 ls [.int 0, .int x5, .int 19, .ref atext]) (by rw [show ((24 - 24) : Int32) = 0 from by decide]) ?_
  refine lv_ishr hx hb d_DiscMakerModel_feed_101 ?_
  refine lv_i2b hx hb d_DiscMakerModel_feed_102 rfl ?_
  refine zz_bast hx hb hK hP hD hS 1 0 rfl rfl (by unfold vp_in; decide) d_DiscMakerModel_feed_103 (fun f_673 H locs hP hD hS => ?_)
  have hP : va_P D CL [(h0, .inr (11, [.int 0, .ref atext, .int 0, .int 1, .ref akind, .ref aparent, .ref amode, .ref aowner, .ref agroup, .ref asize, .ref aseed, .ref aname, .ref anameSize, .ref atarget, .ref atargetSize, .ref abase, .ref abaseSize, .ref aextension, .ref aextensionSize, .ref aimage, .int 0, .ref atable, .ref asector, .ref asectors, .ref acontents, .int 0, .int 0, .int 0, .int 0, .ref aabove, .ref aisDirectory, .ref abytes, .ref aplace, .ref areadMode, .ref areadOwner, .ref areadGroup, .ref areadName, .ref areadNameSize, .ref areadTarget, .ref areadTargetSize, .ref adepth, .int 0, .int 0, .int 0, .int 0, .int 0, .int 0, .int 0])), (atext, .inl (cB, 400, .inl f_673))] H := hP
  have hD : va_D A [(h0, .inr (11, [.int 0, .ref atext, .int 0, .int 1, .ref akind, .ref aparent, .ref amode, .ref aowner, .ref agroup, .ref asize, .ref aseed, .ref aname, .ref anameSize, .ref atarget, .ref atargetSize, .ref abase, .ref abaseSize, .ref aextension, .ref aextensionSize, .ref aimage, .int 0, .ref atable, .ref asector, .ref asectors, .ref acontents, .int 0, .int 0, .int 0, .int 0, .ref aabove, .ref aisDirectory, .ref abytes, .ref aplace, .ref areadMode, .ref areadOwner, .ref areadGroup, .ref areadName, .ref areadNameSize, .ref areadTarget, .ref areadTargetSize, .ref adepth, .int 0, .int 0, .int 0, .int 0, .int 0, .int 0, .int 0])), (atext, .inl (cB, 400, .inl f_673))] := hD
  refine lv_iinc (v := 20) hx hb d_DiscMakerModel_feed_104 hl (k := 1) rfl (by decide) (by decide) rfl (fun ls hl => ?_)
  have hl : lv_has ls 8 [(6, .int 20), (7, .int x5), (0, .ref h0), (1, .int x1), (2, .int x2), (3, .int x3), (4, .int x4), (5, .int x5)] := hl
  refine lv_goto (tgt := 23) hx hb d_DiscMakerModel_feed_107 (by decide) ?_
  refine lv_iload hx hb d_DiscMakerModel_feed_23 (lv_at hl 0 rfl) ?_
  refine lv_bipush (v := 20) hx hb d_DiscMakerModel_feed_25 (by decide) ?_
  refine lv_icmp_ge (tgt := 110) hx hb d_DiscMakerModel_feed_27 (by decide) (fun h_27 => ?_) (fun h_27 => absurd (by decide) h_27)
  refine lv_aload_n hx hb d_DiscMakerModel_feed_110 rfl (lv_at hl 2 rfl) ?_
  refine lv_dup hx hb d_DiscMakerModel_feed_111 rfl ?_
  refine va_get (D := D) (ci := 11) (v := .int 0) (C := "DiscMakerModel") (T := F_DiscMakerModel) (N := 48) hx hb ht9 in_DiscMakerModel hown hK hP 0 rfl rfl 2 (by decide) (ht9 _ k1433) (fun _ h9 => h9) rfl d_DiscMakerModel_feed_112 ?_
  refine lv_bipush (v := 20) hx hb d_DiscMakerModel_feed_115 (by decide) ?_
  refine lv_iadd hx hb d_DiscMakerModel_feed_117 ?_
  refine W.eq (g2 := F0 m 118 ls [.int 20, .ref h0]) (by rw [show ((0 + 20) : Int32) = 20 from by decide]) ?_
  refine va_put (D := D) (ci := 11) (v := .int 20) (ty := .int) (C := "DiscMakerModel") (T := F_DiscMakerModel) (N := 48) hx hb ht9 in_DiscMakerModel t_DiscMakerModel t_DiscMakerModel_ok n_DiscMakerModel hown hK hP hD hS 0 rfl rfl 2 (by decide) (ht9 _ k1433) (fun _ h9 => h9) rfl (by decide +kernel) rfl rfl (Nat.le_of_ble_eq_true rfl) d_DiscMakerModel_feed_118 (fun H locs hP hD hS => ?_)
  have hP : va_P D CL [(h0, .inr (11, [.int 0, .ref atext, .int 20, .int 1, .ref akind, .ref aparent, .ref amode, .ref aowner, .ref agroup, .ref asize, .ref aseed, .ref aname, .ref anameSize, .ref atarget, .ref atargetSize, .ref abase, .ref abaseSize, .ref aextension, .ref aextensionSize, .ref aimage, .int 0, .ref atable, .ref asector, .ref asectors, .ref acontents, .int 0, .int 0, .int 0, .int 0, .ref aabove, .ref aisDirectory, .ref abytes, .ref aplace, .ref areadMode, .ref areadOwner, .ref areadGroup, .ref areadName, .ref areadNameSize, .ref areadTarget, .ref areadTargetSize, .ref adepth, .int 0, .int 0, .int 0, .int 0, .int 0, .int 0, .int 0])), (atext, .inl (cB, 400, .inl f_673))] H := hP
  have hD : va_D A [(h0, .inr (11, [.int 0, .ref atext, .int 20, .int 1, .ref akind, .ref aparent, .ref amode, .ref aowner, .ref agroup, .ref asize, .ref aseed, .ref aname, .ref anameSize, .ref atarget, .ref atargetSize, .ref abase, .ref abaseSize, .ref aextension, .ref aextensionSize, .ref aimage, .int 0, .ref atable, .ref asector, .ref asectors, .ref acontents, .int 0, .int 0, .int 0, .int 0, .ref aabove, .ref aisDirectory, .ref abytes, .ref aplace, .ref areadMode, .ref areadOwner, .ref areadGroup, .ref areadName, .ref areadNameSize, .ref areadTarget, .ref areadTargetSize, .ref adepth, .int 0, .int 0, .int 0, .int 0, .int 0, .int 0, .int 0])), (atext, .inl (cB, 400, .inl f_673))] := hD
  refine lv_iconst (v := 1) hx hb d_DiscMakerModel_feed_121 (by decide) ?_
  have hP9 := hP.sub (ws' := []) [] rfl
  have hD9 := hD.sub (ws' := []) [] (by decide) rfl
  exact W.zret (v := 1) hx hb hr (by first | rfl | decide) (fun t ht hW => ⟨⟨1, (), rfl, rfl, by rw [ht]; exact hP9, hD9⟩, hS.F ht⟩) hS.2.2 d_DiscMakerModel_feed_122

theorem d_DiscMakerModel_end_0 : decode b_DiscMakerModel_end 0 = .ok (.aload_n 0, 1) := by decide +kernel
theorem d_DiscMakerModel_end_1 : decode b_DiscMakerModel_end 1 = .ok (.iconst 0, 1) := by decide +kernel
theorem d_DiscMakerModel_end_2 : decode b_DiscMakerModel_end 2 = .ok (.putfield 118, 3) := by decide +kernel
theorem d_DiscMakerModel_end_5 : decode b_DiscMakerModel_end 5 = .ok (.iload_n 1, 1) := by decide +kernel
theorem d_DiscMakerModel_end_6 : decode b_DiscMakerModel_end 6 = .ok (.ifCond .lt 11, 3) := by decide +kernel
theorem d_DiscMakerModel_end_9 : decode b_DiscMakerModel_end 9 = .ok (.iload_n 1, 1) := by decide +kernel
theorem d_DiscMakerModel_end_10 : decode b_DiscMakerModel_end 10 = .ok (.aload_n 0, 1) := by decide +kernel
theorem d_DiscMakerModel_end_11 : decode b_DiscMakerModel_end 11 = .ok (.getfield 121, 3) := by decide +kernel
theorem d_DiscMakerModel_end_14 : decode b_DiscMakerModel_end 14 = .ok (.if_icmp .le 5, 3) := by decide +kernel
theorem d_DiscMakerModel_end_17 : decode b_DiscMakerModel_end 17 = .ok (.iconst 0, 1) := by decide +kernel
theorem d_DiscMakerModel_end_18 : decode b_DiscMakerModel_end 18 = .ok (.ireturn, 1) := by decide +kernel
theorem d_DiscMakerModel_end_19 : decode b_DiscMakerModel_end 19 = .ok (.aload_n 0, 1) := by decide +kernel
theorem d_DiscMakerModel_end_20 : decode b_DiscMakerModel_end 20 = .ok (.iload_n 1, 1) := by decide +kernel
theorem d_DiscMakerModel_end_21 : decode b_DiscMakerModel_end 21 = .ok (.putfield 121, 3) := by decide +kernel
theorem d_DiscMakerModel_end_24 : decode b_DiscMakerModel_end 24 = .ok (.iconst 1, 1) := by decide +kernel
theorem d_DiscMakerModel_end_25 : decode b_DiscMakerModel_end 25 = .ok (.ireturn, 1) := by decide +kernel
set_option maxHeartbeats 4000000 in
set_option maxRecDepth 100000 in
theorem c_m_end (l : Launch) (D : va_G) (cB cI cJ cZ cN cF : ClassId) (sz : Nat) (h0 atext akind aparent amode aowner agroup asize aseed aname anameSize atarget atargetSize abase abaseSize aextension aextensionSize aimage atable asector asectors acontents aabove aisDirectory abytes aplace areadMode areadOwner areadGroup areadName areadNameSize areadTarget areadTargetSize adepth : Nat) (n : Int32) : Met l y_DiscMakerModel_end w_DiscMakerModel_end ({ frames := 0, cells := 0, slots := 0, locals := 0 }) (va_Pc [.ref h0, .int n] (fun U => U.heap.size = sz ∧ va_P D CL [(h0, .inr (11, [.int 0, .ref atext, .int 0, .int 1, .ref akind, .ref aparent, .ref amode, .ref aowner, .ref agroup, .ref asize, .ref aseed, .ref aname, .ref anameSize, .ref atarget, .ref atargetSize, .ref abase, .ref abaseSize, .ref aextension, .ref aextensionSize, .ref aimage, .int 0, .ref atable, .ref asector, .ref asectors, .ref acontents, .int 0, .int 0, .int 0, .int 0, .ref aabove, .ref aisDirectory, .ref abytes, .ref aplace, .ref areadMode, .ref areadOwner, .ref areadGroup, .ref areadName, .ref areadNameSize, .ref areadTarget, .ref areadTargetSize, .ref adepth, .int 0, .int 0, .int 0, .int 0, .int 0, .int 0, .int 0]))] U.heap ∧ va_K D CL (TY cB cI cJ cZ cN cF) U ∧ NN U ∧ va_D (fun _ => True) [(h0, .inr (11, [.int 0, .ref atext, .int 0, .int 1, .ref akind, .ref aparent, .ref amode, .ref aowner, .ref agroup, .ref asize, .ref aseed, .ref aname, .ref anameSize, .ref atarget, .ref atargetSize, .ref abase, .ref abaseSize, .ref aextension, .ref aextensionSize, .ref aimage, .int 0, .ref atable, .ref asector, .ref asectors, .ref acontents, .int 0, .int 0, .int 0, .int 0, .ref aabove, .ref aisDirectory, .ref abytes, .ref aplace, .ref areadMode, .ref areadOwner, .ref areadGroup, .ref areadName, .ref areadNameSize, .ref areadTarget, .ref areadTargetSize, .ref adepth, .int 0, .int 0, .int 0, .int 0, .int 0, .int 0, .int 0]))])) (va_Qi (fun (r : Int32) (u : Unit) => (r = 1 ∧ n = 0) ∨ (r = 0 ∧ ¬ n = 0)) (fun (u : Unit) (t : State) => match u with | () => va_P D CL [] t.heap ∧ va_D (va_A [(h0, .inr (11, [.int 0, .ref atext, .int 0, .int 1, .ref akind, .ref aparent, .ref amode, .ref aowner, .ref agroup, .ref asize, .ref aseed, .ref aname, .ref anameSize, .ref atarget, .ref atargetSize, .ref abase, .ref abaseSize, .ref aextension, .ref aextensionSize, .ref aimage, .int 0, .ref atable, .ref asector, .ref asectors, .ref acontents, .int 0, .int 0, .int 0, .int 0, .ref aabove, .ref aisDirectory, .ref abytes, .ref aplace, .ref areadMode, .ref areadOwner, .ref areadGroup, .ref areadName, .ref areadNameSize, .ref areadTarget, .ref areadTargetSize, .ref adepth, .int 0, .int 0, .int 0, .int 0, .int 0, .int 0, .int 0]))] sz) []) (va_A [(h0, .inr (11, [.int 0, .ref atext, .int 0, .int 1, .ref akind, .ref aparent, .ref amode, .ref aowner, .ref agroup, .ref asize, .ref aseed, .ref aname, .ref anameSize, .ref atarget, .ref atargetSize, .ref abase, .ref abaseSize, .ref aextension, .ref aextensionSize, .ref aimage, .int 0, .ref atable, .ref asector, .ref asectors, .ref acontents, .int 0, .int 0, .int 0, .int 0, .ref aabove, .ref aisDirectory, .ref abytes, .ref aplace, .ref areadMode, .ref areadOwner, .ref areadGroup, .ref areadName, .ref areadNameSize, .ref areadTarget, .ref areadTargetSize, .ref adepth, .int 0, .int 0, .int 0, .int 0, .int 0, .int 0, .int 0]))] sz)) 0 0 (va_A [(h0, .inr (11, [.int 0, .ref atext, .int 0, .int 1, .ref akind, .ref aparent, .ref amode, .ref aowner, .ref agroup, .ref asize, .ref aseed, .ref aname, .ref anameSize, .ref atarget, .ref atargetSize, .ref abase, .ref abaseSize, .ref aextension, .ref aextensionSize, .ref aimage, .int 0, .ref atable, .ref asector, .ref asectors, .ref acontents, .int 0, .int 0, .int 0, .int 0, .ref aabove, .ref aisDirectory, .ref abytes, .ref aplace, .ref areadMode, .ref areadOwner, .ref areadGroup, .ref areadName, .ref areadNameSize, .ref areadTarget, .ref areadTargetSize, .ref adepth, .int 0, .int 0, .int 0, .int 0, .int 0, .int 0, .int 0]))] sz) := by
  refine Met.ofW (cc := b_DiscMakerModel_end) (maxL := 2) (ret := some .boolean) (by decide) rfl ?_
  intro p e s m args below meth c s₁ B hml hv
  obtain ⟨rfl, hsz, hP, hK, hN, hD0⟩ := hv
  have hx := B.exec
  have hb := B.bytes
  have hr := B.returns
  have hts := atoms_spec (ws := w_DiscMakerModel_end) B.pre
  have ht9 := fun (w : Cond) (h : w ∈ lw_g) => hts w (List.mem_cons_of_mem _ h)
  have hown : s.vm.findClass "DiscMakerModel" = some m.cls := findClass_of_methodNamed B.named
  have hlocks := B.notSynchronized
  subst hsz
  have hD := hD0.self (sz := s.heap.size)
  generalize hAe : va_A [(h0, .inr (11, [.int 0, .ref atext, .int 0, .int 1, .ref akind, .ref aparent, .ref amode, .ref aowner, .ref agroup, .ref asize, .ref aseed, .ref aname, .ref anameSize, .ref atarget, .ref atargetSize, .ref abase, .ref abaseSize, .ref aextension, .ref aextensionSize, .ref aimage, .int 0, .ref atable, .ref asector, .ref asectors, .ref acontents, .int 0, .int 0, .int 0, .int 0, .ref aabove, .ref aisDirectory, .ref abytes, .ref aplace, .ref areadMode, .ref areadOwner, .ref areadGroup, .ref areadName, .ref areadNameSize, .ref areadTarget, .ref areadTargetSize, .ref adepth, .int 0, .int 0, .int 0, .int 0, .int 0, .int 0, .int 0]))] s.heap.size = A at hD ⊢
  have hA : ∀ q : Nat, s.heap.size ≤ q → A q := fun q h => by rw [← hAe]; exact Or.inr h
  have hS : va_S A s.heap s.heap [] := va_S.rf
  have hP : va_P D CL [(h0, .inr (11, [.int 0, .ref atext, .int 0, .int 1, .ref akind, .ref aparent, .ref amode, .ref aowner, .ref agroup, .ref asize, .ref aseed, .ref aname, .ref anameSize, .ref atarget, .ref atargetSize, .ref abase, .ref abaseSize, .ref aextension, .ref aextensionSize, .ref aimage, .int 0, .ref atable, .ref asector, .ref asectors, .ref acontents, .int 0, .int 0, .int 0, .int 0, .ref aabove, .ref aisDirectory, .ref abytes, .ref aplace, .ref areadMode, .ref areadOwner, .ref areadGroup, .ref areadName, .ref areadNameSize, .ref areadTarget, .ref areadTargetSize, .ref adepth, .int 0, .int 0, .int 0, .int 0, .int 0, .int 0, .int 0]))] s.heap := hP
  have hl := lv_entry [.ref h0, .int n] (n := 2) (Nat.le_of_ble_eq_true rfl)
  rw [lg_entry_eq]
  generalize (lg_sl [.ref h0, .int n] ++ List.replicate (2 - (lg_sl [.ref h0, .int n]).length) Slot.unset).toArray = ls at hl ⊢
  have hl : lv_has ls 2 [(0, .ref h0), (1, .int n)] := hl
  refine lv_aload_n hx hb d_DiscMakerModel_end_0 rfl (lv_at hl 0 rfl) ?_
  refine lv_iconst (v := 0) hx hb d_DiscMakerModel_end_1 (by decide) ?_
  refine va_put (D := D) (ci := 11) (v := .int 0) (ty := .int) (C := "DiscMakerModel") (T := F_DiscMakerModel) (N := 48) hx hb ht9 in_DiscMakerModel t_DiscMakerModel t_DiscMakerModel_ok n_DiscMakerModel hown hK hP hD hS 0 rfl rfl 0 (by decide) (ht9 _ k1431) (fun _ h9 => h9) rfl (by decide +kernel) rfl rfl (Nat.le_of_ble_eq_true rfl) d_DiscMakerModel_end_2 (fun H locs hP hD hS => ?_)
  have hP : va_P D CL [(h0, .inr (11, [.int 0, .ref atext, .int 0, .int 1, .ref akind, .ref aparent, .ref amode, .ref aowner, .ref agroup, .ref asize, .ref aseed, .ref aname, .ref anameSize, .ref atarget, .ref atargetSize, .ref abase, .ref abaseSize, .ref aextension, .ref aextensionSize, .ref aimage, .int 0, .ref atable, .ref asector, .ref asectors, .ref acontents, .int 0, .int 0, .int 0, .int 0, .ref aabove, .ref aisDirectory, .ref abytes, .ref aplace, .ref areadMode, .ref areadOwner, .ref areadGroup, .ref areadName, .ref areadNameSize, .ref areadTarget, .ref areadTargetSize, .ref adepth, .int 0, .int 0, .int 0, .int 0, .int 0, .int 0, .int 0]))] H := hP
  have hD : va_D A [(h0, .inr (11, [.int 0, .ref atext, .int 0, .int 1, .ref akind, .ref aparent, .ref amode, .ref aowner, .ref agroup, .ref asize, .ref aseed, .ref aname, .ref anameSize, .ref atarget, .ref atargetSize, .ref abase, .ref abaseSize, .ref aextension, .ref aextensionSize, .ref aimage, .int 0, .ref atable, .ref asector, .ref asectors, .ref acontents, .int 0, .int 0, .int 0, .int 0, .ref aabove, .ref aisDirectory, .ref abytes, .ref aplace, .ref areadMode, .ref areadOwner, .ref areadGroup, .ref areadName, .ref areadNameSize, .ref areadTarget, .ref areadTargetSize, .ref adepth, .int 0, .int 0, .int 0, .int 0, .int 0, .int 0, .int 0]))] := hD
  refine lv_iload_n hx hb d_DiscMakerModel_end_5 rfl (lv_at hl 1 rfl) ?_
  refine lv_if_lt (tgt := 17) hx hb d_DiscMakerModel_end_6 (by decide) (fun h_6 => ?_) (fun h_6 => ?_)
  · skip
    refine lv_iconst (v := 0) hx hb d_DiscMakerModel_end_17 (by decide) ?_
    have hP9 := hP.sub (ws' := []) [] rfl
    have hD9 := hD.sub (ws' := []) [] (by decide) rfl
    exact W.zret (v := 0) hx hb hr (by first | rfl | decide) (fun t ht hW => ⟨⟨0, (), rfl, by first | exact Or.inr ⟨rfl, z_ne_lt h_6⟩ | exact Or.inl ⟨rfl, z_eq0' h_6 h_14⟩ | exact Or.inr ⟨rfl, z_ne_nle h_14⟩, by rw [ht]; exact hP9, hD9⟩, hS.F ht⟩) hS.2.2 d_DiscMakerModel_end_18
  · skip
    refine lv_iload_n hx hb d_DiscMakerModel_end_9 rfl (lv_at hl 1 rfl) ?_
    refine lv_aload_n hx hb d_DiscMakerModel_end_10 rfl (lv_at hl 0 rfl) ?_
    refine va_get (D := D) (ci := 11) (v := .int 0) (C := "DiscMakerModel") (T := F_DiscMakerModel) (N := 48) hx hb ht9 in_DiscMakerModel hown hK hP 0 rfl rfl 2 (by decide) (ht9 _ k1433) (fun _ h9 => h9) rfl d_DiscMakerModel_end_11 ?_
    refine lv_icmp_le (tgt := 19) hx hb d_DiscMakerModel_end_14 (by decide) (fun h_14 => ?_) (fun h_14 => ?_)
    · skip
      refine lv_aload_n hx hb d_DiscMakerModel_end_19 rfl (lv_at hl 0 rfl) ?_
      refine lv_iload_n hx hb d_DiscMakerModel_end_20 rfl (lv_at hl 1 rfl) ?_
      refine va_put (D := D) (ci := 11) (v := .int n) (ty := .int) (C := "DiscMakerModel") (T := F_DiscMakerModel) (N := 48) hx hb ht9 in_DiscMakerModel t_DiscMakerModel t_DiscMakerModel_ok n_DiscMakerModel hown hK hP hD hS 0 rfl rfl 2 (by decide) (ht9 _ k1433) (fun _ h9 => h9) rfl (by decide +kernel) rfl rfl (Nat.le_of_ble_eq_true rfl) d_DiscMakerModel_end_21 (fun H locs hP hD hS => ?_)
      have hP : va_P D CL [(h0, .inr (11, [.int 0, .ref atext, .int n, .int 1, .ref akind, .ref aparent, .ref amode, .ref aowner, .ref agroup, .ref asize, .ref aseed, .ref aname, .ref anameSize, .ref atarget, .ref atargetSize, .ref abase, .ref abaseSize, .ref aextension, .ref aextensionSize, .ref aimage, .int 0, .ref atable, .ref asector, .ref asectors, .ref acontents, .int 0, .int 0, .int 0, .int 0, .ref aabove, .ref aisDirectory, .ref abytes, .ref aplace, .ref areadMode, .ref areadOwner, .ref areadGroup, .ref areadName, .ref areadNameSize, .ref areadTarget, .ref areadTargetSize, .ref adepth, .int 0, .int 0, .int 0, .int 0, .int 0, .int 0, .int 0]))] H := hP
      have hD : va_D A [(h0, .inr (11, [.int 0, .ref atext, .int n, .int 1, .ref akind, .ref aparent, .ref amode, .ref aowner, .ref agroup, .ref asize, .ref aseed, .ref aname, .ref anameSize, .ref atarget, .ref atargetSize, .ref abase, .ref abaseSize, .ref aextension, .ref aextensionSize, .ref aimage, .int 0, .ref atable, .ref asector, .ref asectors, .ref acontents, .int 0, .int 0, .int 0, .int 0, .ref aabove, .ref aisDirectory, .ref abytes, .ref aplace, .ref areadMode, .ref areadOwner, .ref areadGroup, .ref areadName, .ref areadNameSize, .ref areadTarget, .ref areadTargetSize, .ref adepth, .int 0, .int 0, .int 0, .int 0, .int 0, .int 0, .int 0]))] := hD
      refine lv_iconst (v := 1) hx hb d_DiscMakerModel_end_24 (by decide) ?_
      have hP9 := hP.sub (ws' := []) [] rfl
      have hD9 := hD.sub (ws' := []) [] (by decide) rfl
      exact W.zret (v := 1) hx hb hr (by first | rfl | decide) (fun t ht hW => ⟨⟨1, (), rfl, by first | exact Or.inr ⟨rfl, z_ne_lt h_6⟩ | exact Or.inl ⟨rfl, z_eq0' h_6 h_14⟩ | exact Or.inr ⟨rfl, z_ne_nle h_14⟩, by rw [ht]; exact hP9, hD9⟩, hS.F ht⟩) hS.2.2 d_DiscMakerModel_end_25
    · skip
      refine lv_iconst (v := 0) hx hb d_DiscMakerModel_end_17 (by decide) ?_
      have hP9 := hP.sub (ws' := []) [] rfl
      have hD9 := hD.sub (ws' := []) [] (by decide) rfl
      exact W.zret (v := 0) hx hb hr (by first | rfl | decide) (fun t ht hW => ⟨⟨0, (), rfl, by first | exact Or.inr ⟨rfl, z_ne_lt h_6⟩ | exact Or.inl ⟨rfl, z_eq0' h_6 h_14⟩ | exact Or.inr ⟨rfl, z_ne_nle h_14⟩, by rw [ht]; exact hP9, hD9⟩, hS.F ht⟩) hS.2.2 d_DiscMakerModel_end_18

theorem d_DiscMakerModel_cut_0 : decode b_DiscMakerModel_cut 0 = .ok (.aload_n 0, 1) := by decide +kernel
theorem d_DiscMakerModel_cut_1 : decode b_DiscMakerModel_cut 1 = .ok (.iconst 0, 1) := by decide +kernel
theorem d_DiscMakerModel_cut_2 : decode b_DiscMakerModel_cut 2 = .ok (.putfield 118, 3) := by decide +kernel
theorem d_DiscMakerModel_cut_5 : decode b_DiscMakerModel_cut 5 = .ok (.iload_n 1, 1) := by decide +kernel
theorem d_DiscMakerModel_cut_6 : decode b_DiscMakerModel_cut 6 = .ok (.ifCond .lt 11, 3) := by decide +kernel
theorem d_DiscMakerModel_cut_9 : decode b_DiscMakerModel_cut 9 = .ok (.iload_n 1, 1) := by decide +kernel
theorem d_DiscMakerModel_cut_10 : decode b_DiscMakerModel_cut 10 = .ok (.aload_n 0, 1) := by decide +kernel
theorem d_DiscMakerModel_cut_11 : decode b_DiscMakerModel_cut 11 = .ok (.getfield 282, 3) := by decide +kernel
theorem d_DiscMakerModel_cut_14 : decode b_DiscMakerModel_cut 14 = .ok (.if_icmp .le 5, 3) := by decide +kernel
theorem d_DiscMakerModel_cut_17 : decode b_DiscMakerModel_cut 17 = .ok (.iconst 0, 1) := by decide +kernel
theorem d_DiscMakerModel_cut_18 : decode b_DiscMakerModel_cut 18 = .ok (.ireturn, 1) := by decide +kernel
theorem d_DiscMakerModel_cut_19 : decode b_DiscMakerModel_cut 19 = .ok (.aload_n 0, 1) := by decide +kernel
theorem d_DiscMakerModel_cut_20 : decode b_DiscMakerModel_cut 20 = .ok (.iload_n 1, 1) := by decide +kernel
theorem d_DiscMakerModel_cut_21 : decode b_DiscMakerModel_cut 21 = .ok (.putfield 282, 3) := by decide +kernel
theorem d_DiscMakerModel_cut_24 : decode b_DiscMakerModel_cut 24 = .ok (.iconst 1, 1) := by decide +kernel
theorem d_DiscMakerModel_cut_25 : decode b_DiscMakerModel_cut 25 = .ok (.ireturn, 1) := by decide +kernel
set_option maxHeartbeats 4000000 in
set_option maxRecDepth 100000 in
theorem c_m_cut (l : Launch) (D : va_G) (cB cI cJ cZ cN cF : ClassId) (sz : Nat) (h0 atext akind aparent amode aowner agroup asize aseed aname anameSize atarget atargetSize abase abaseSize aextension aextensionSize aimage atable asector asectors acontents aabove aisDirectory abytes aplace areadMode areadOwner areadGroup areadName areadNameSize areadTarget areadTargetSize adepth : Nat) (n : Int32) : Met l y_DiscMakerModel_cut w_DiscMakerModel_cut ({ frames := 0, cells := 0, slots := 0, locals := 0 }) (va_Pc [.ref h0, .int n] (fun U => U.heap.size = sz ∧ va_P D CL [(h0, .inr (11, [.int 0, .ref atext, .int 0, .int 1, .ref akind, .ref aparent, .ref amode, .ref aowner, .ref agroup, .ref asize, .ref aseed, .ref aname, .ref anameSize, .ref atarget, .ref atargetSize, .ref abase, .ref abaseSize, .ref aextension, .ref aextensionSize, .ref aimage, .int 0, .ref atable, .ref asector, .ref asectors, .ref acontents, .int 0, .int 0, .int 0, .int 0, .ref aabove, .ref aisDirectory, .ref abytes, .ref aplace, .ref areadMode, .ref areadOwner, .ref areadGroup, .ref areadName, .ref areadNameSize, .ref areadTarget, .ref areadTargetSize, .ref adepth, .int 0, .int 0, .int 0, .int 0, .int 0, .int 0, .int 0]))] U.heap ∧ va_K D CL (TY cB cI cJ cZ cN cF) U ∧ NN U ∧ va_D (fun _ => True) [(h0, .inr (11, [.int 0, .ref atext, .int 0, .int 1, .ref akind, .ref aparent, .ref amode, .ref aowner, .ref agroup, .ref asize, .ref aseed, .ref aname, .ref anameSize, .ref atarget, .ref atargetSize, .ref abase, .ref abaseSize, .ref aextension, .ref aextensionSize, .ref aimage, .int 0, .ref atable, .ref asector, .ref asectors, .ref acontents, .int 0, .int 0, .int 0, .int 0, .ref aabove, .ref aisDirectory, .ref abytes, .ref aplace, .ref areadMode, .ref areadOwner, .ref areadGroup, .ref areadName, .ref areadNameSize, .ref areadTarget, .ref areadTargetSize, .ref adepth, .int 0, .int 0, .int 0, .int 0, .int 0, .int 0, .int 0]))])) (va_Qi (fun (r : Int32) (u : Unit) => (r = 1 ∧ n = 0) ∨ (r = 0 ∧ ¬ n = 0)) (fun (u : Unit) (t : State) => match u with | () => va_P D CL [] t.heap ∧ va_D (va_A [(h0, .inr (11, [.int 0, .ref atext, .int 0, .int 1, .ref akind, .ref aparent, .ref amode, .ref aowner, .ref agroup, .ref asize, .ref aseed, .ref aname, .ref anameSize, .ref atarget, .ref atargetSize, .ref abase, .ref abaseSize, .ref aextension, .ref aextensionSize, .ref aimage, .int 0, .ref atable, .ref asector, .ref asectors, .ref acontents, .int 0, .int 0, .int 0, .int 0, .ref aabove, .ref aisDirectory, .ref abytes, .ref aplace, .ref areadMode, .ref areadOwner, .ref areadGroup, .ref areadName, .ref areadNameSize, .ref areadTarget, .ref areadTargetSize, .ref adepth, .int 0, .int 0, .int 0, .int 0, .int 0, .int 0, .int 0]))] sz) []) (va_A [(h0, .inr (11, [.int 0, .ref atext, .int 0, .int 1, .ref akind, .ref aparent, .ref amode, .ref aowner, .ref agroup, .ref asize, .ref aseed, .ref aname, .ref anameSize, .ref atarget, .ref atargetSize, .ref abase, .ref abaseSize, .ref aextension, .ref aextensionSize, .ref aimage, .int 0, .ref atable, .ref asector, .ref asectors, .ref acontents, .int 0, .int 0, .int 0, .int 0, .ref aabove, .ref aisDirectory, .ref abytes, .ref aplace, .ref areadMode, .ref areadOwner, .ref areadGroup, .ref areadName, .ref areadNameSize, .ref areadTarget, .ref areadTargetSize, .ref adepth, .int 0, .int 0, .int 0, .int 0, .int 0, .int 0, .int 0]))] sz)) 0 0 (va_A [(h0, .inr (11, [.int 0, .ref atext, .int 0, .int 1, .ref akind, .ref aparent, .ref amode, .ref aowner, .ref agroup, .ref asize, .ref aseed, .ref aname, .ref anameSize, .ref atarget, .ref atargetSize, .ref abase, .ref abaseSize, .ref aextension, .ref aextensionSize, .ref aimage, .int 0, .ref atable, .ref asector, .ref asectors, .ref acontents, .int 0, .int 0, .int 0, .int 0, .ref aabove, .ref aisDirectory, .ref abytes, .ref aplace, .ref areadMode, .ref areadOwner, .ref areadGroup, .ref areadName, .ref areadNameSize, .ref areadTarget, .ref areadTargetSize, .ref adepth, .int 0, .int 0, .int 0, .int 0, .int 0, .int 0, .int 0]))] sz) := by
  refine Met.ofW (cc := b_DiscMakerModel_cut) (maxL := 2) (ret := some .boolean) (by decide) rfl ?_
  intro p e s m args below meth c s₁ B hml hv
  obtain ⟨rfl, hsz, hP, hK, hN, hD0⟩ := hv
  have hx := B.exec
  have hb := B.bytes
  have hr := B.returns
  have hts := atoms_spec (ws := w_DiscMakerModel_cut) B.pre
  have ht9 := fun (w : Cond) (h : w ∈ lw_g) => hts w (List.mem_cons_of_mem _ h)
  have hown : s.vm.findClass "DiscMakerModel" = some m.cls := findClass_of_methodNamed B.named
  have hlocks := B.notSynchronized
  subst hsz
  have hD := hD0.self (sz := s.heap.size)
  generalize hAe : va_A [(h0, .inr (11, [.int 0, .ref atext, .int 0, .int 1, .ref akind, .ref aparent, .ref amode, .ref aowner, .ref agroup, .ref asize, .ref aseed, .ref aname, .ref anameSize, .ref atarget, .ref atargetSize, .ref abase, .ref abaseSize, .ref aextension, .ref aextensionSize, .ref aimage, .int 0, .ref atable, .ref asector, .ref asectors, .ref acontents, .int 0, .int 0, .int 0, .int 0, .ref aabove, .ref aisDirectory, .ref abytes, .ref aplace, .ref areadMode, .ref areadOwner, .ref areadGroup, .ref areadName, .ref areadNameSize, .ref areadTarget, .ref areadTargetSize, .ref adepth, .int 0, .int 0, .int 0, .int 0, .int 0, .int 0, .int 0]))] s.heap.size = A at hD ⊢
  have hA : ∀ q : Nat, s.heap.size ≤ q → A q := fun q h => by rw [← hAe]; exact Or.inr h
  have hS : va_S A s.heap s.heap [] := va_S.rf
  have hP : va_P D CL [(h0, .inr (11, [.int 0, .ref atext, .int 0, .int 1, .ref akind, .ref aparent, .ref amode, .ref aowner, .ref agroup, .ref asize, .ref aseed, .ref aname, .ref anameSize, .ref atarget, .ref atargetSize, .ref abase, .ref abaseSize, .ref aextension, .ref aextensionSize, .ref aimage, .int 0, .ref atable, .ref asector, .ref asectors, .ref acontents, .int 0, .int 0, .int 0, .int 0, .ref aabove, .ref aisDirectory, .ref abytes, .ref aplace, .ref areadMode, .ref areadOwner, .ref areadGroup, .ref areadName, .ref areadNameSize, .ref areadTarget, .ref areadTargetSize, .ref adepth, .int 0, .int 0, .int 0, .int 0, .int 0, .int 0, .int 0]))] s.heap := hP
  have hl := lv_entry [.ref h0, .int n] (n := 2) (Nat.le_of_ble_eq_true rfl)
  rw [lg_entry_eq]
  generalize (lg_sl [.ref h0, .int n] ++ List.replicate (2 - (lg_sl [.ref h0, .int n]).length) Slot.unset).toArray = ls at hl ⊢
  have hl : lv_has ls 2 [(0, .ref h0), (1, .int n)] := hl
  refine lv_aload_n hx hb d_DiscMakerModel_cut_0 rfl (lv_at hl 0 rfl) ?_
  refine lv_iconst (v := 0) hx hb d_DiscMakerModel_cut_1 (by decide) ?_
  refine va_put (D := D) (ci := 11) (v := .int 0) (ty := .int) (C := "DiscMakerModel") (T := F_DiscMakerModel) (N := 48) hx hb ht9 in_DiscMakerModel t_DiscMakerModel t_DiscMakerModel_ok n_DiscMakerModel hown hK hP hD hS 0 rfl rfl 0 (by decide) (ht9 _ k1431) (fun _ h9 => h9) rfl (by decide +kernel) rfl rfl (Nat.le_of_ble_eq_true rfl) d_DiscMakerModel_cut_2 (fun H locs hP hD hS => ?_)
  have hP : va_P D CL [(h0, .inr (11, [.int 0, .ref atext, .int 0, .int 1, .ref akind, .ref aparent, .ref amode, .ref aowner, .ref agroup, .ref asize, .ref aseed, .ref aname, .ref anameSize, .ref atarget, .ref atargetSize, .ref abase, .ref abaseSize, .ref aextension, .ref aextensionSize, .ref aimage, .int 0, .ref atable, .ref asector, .ref asectors, .ref acontents, .int 0, .int 0, .int 0, .int 0, .ref aabove, .ref aisDirectory, .ref abytes, .ref aplace, .ref areadMode, .ref areadOwner, .ref areadGroup, .ref areadName, .ref areadNameSize, .ref areadTarget, .ref areadTargetSize, .ref adepth, .int 0, .int 0, .int 0, .int 0, .int 0, .int 0, .int 0]))] H := hP
  have hD : va_D A [(h0, .inr (11, [.int 0, .ref atext, .int 0, .int 1, .ref akind, .ref aparent, .ref amode, .ref aowner, .ref agroup, .ref asize, .ref aseed, .ref aname, .ref anameSize, .ref atarget, .ref atargetSize, .ref abase, .ref abaseSize, .ref aextension, .ref aextensionSize, .ref aimage, .int 0, .ref atable, .ref asector, .ref asectors, .ref acontents, .int 0, .int 0, .int 0, .int 0, .ref aabove, .ref aisDirectory, .ref abytes, .ref aplace, .ref areadMode, .ref areadOwner, .ref areadGroup, .ref areadName, .ref areadNameSize, .ref areadTarget, .ref areadTargetSize, .ref adepth, .int 0, .int 0, .int 0, .int 0, .int 0, .int 0, .int 0]))] := hD
  refine lv_iload_n hx hb d_DiscMakerModel_cut_5 rfl (lv_at hl 1 rfl) ?_
  refine lv_if_lt (tgt := 17) hx hb d_DiscMakerModel_cut_6 (by decide) (fun h_6 => ?_) (fun h_6 => ?_)
  · skip
    refine lv_iconst (v := 0) hx hb d_DiscMakerModel_cut_17 (by decide) ?_
    have hP9 := hP.sub (ws' := []) [] rfl
    have hD9 := hD.sub (ws' := []) [] (by decide) rfl
    exact W.zret (v := 0) hx hb hr (by first | rfl | decide) (fun t ht hW => ⟨⟨0, (), rfl, by first | exact Or.inr ⟨rfl, z_ne_lt h_6⟩ | exact Or.inl ⟨rfl, z_eq0' h_6 h_14⟩ | exact Or.inr ⟨rfl, z_ne_nle h_14⟩, by rw [ht]; exact hP9, hD9⟩, hS.F ht⟩) hS.2.2 d_DiscMakerModel_cut_18
  · skip
    refine lv_iload_n hx hb d_DiscMakerModel_cut_9 rfl (lv_at hl 1 rfl) ?_
    refine lv_aload_n hx hb d_DiscMakerModel_cut_10 rfl (lv_at hl 0 rfl) ?_
    refine va_get (D := D) (ci := 11) (v := .int 0) (C := "DiscMakerModel") (T := F_DiscMakerModel) (N := 48) hx hb ht9 in_DiscMakerModel hown hK hP 0 rfl rfl 20 (by decide) (ht9 _ k1451) (fun _ h9 => h9) rfl d_DiscMakerModel_cut_11 ?_
    refine lv_icmp_le (tgt := 19) hx hb d_DiscMakerModel_cut_14 (by decide) (fun h_14 => ?_) (fun h_14 => ?_)
    · skip
      refine lv_aload_n hx hb d_DiscMakerModel_cut_19 rfl (lv_at hl 0 rfl) ?_
      refine lv_iload_n hx hb d_DiscMakerModel_cut_20 rfl (lv_at hl 1 rfl) ?_
      refine va_put (D := D) (ci := 11) (v := .int n) (ty := .int) (C := "DiscMakerModel") (T := F_DiscMakerModel) (N := 48) hx hb ht9 in_DiscMakerModel t_DiscMakerModel t_DiscMakerModel_ok n_DiscMakerModel hown hK hP hD hS 0 rfl rfl 20 (by decide) (ht9 _ k1451) (fun _ h9 => h9) rfl (by decide +kernel) rfl rfl (Nat.le_of_ble_eq_true rfl) d_DiscMakerModel_cut_21 (fun H locs hP hD hS => ?_)
      have hP : va_P D CL [(h0, .inr (11, [.int 0, .ref atext, .int 0, .int 1, .ref akind, .ref aparent, .ref amode, .ref aowner, .ref agroup, .ref asize, .ref aseed, .ref aname, .ref anameSize, .ref atarget, .ref atargetSize, .ref abase, .ref abaseSize, .ref aextension, .ref aextensionSize, .ref aimage, .int n, .ref atable, .ref asector, .ref asectors, .ref acontents, .int 0, .int 0, .int 0, .int 0, .ref aabove, .ref aisDirectory, .ref abytes, .ref aplace, .ref areadMode, .ref areadOwner, .ref areadGroup, .ref areadName, .ref areadNameSize, .ref areadTarget, .ref areadTargetSize, .ref adepth, .int 0, .int 0, .int 0, .int 0, .int 0, .int 0, .int 0]))] H := hP
      have hD : va_D A [(h0, .inr (11, [.int 0, .ref atext, .int 0, .int 1, .ref akind, .ref aparent, .ref amode, .ref aowner, .ref agroup, .ref asize, .ref aseed, .ref aname, .ref anameSize, .ref atarget, .ref atargetSize, .ref abase, .ref abaseSize, .ref aextension, .ref aextensionSize, .ref aimage, .int n, .ref atable, .ref asector, .ref asectors, .ref acontents, .int 0, .int 0, .int 0, .int 0, .ref aabove, .ref aisDirectory, .ref abytes, .ref aplace, .ref areadMode, .ref areadOwner, .ref areadGroup, .ref areadName, .ref areadNameSize, .ref areadTarget, .ref areadTargetSize, .ref adepth, .int 0, .int 0, .int 0, .int 0, .int 0, .int 0, .int 0]))] := hD
      refine lv_iconst (v := 1) hx hb d_DiscMakerModel_cut_24 (by decide) ?_
      have hP9 := hP.sub (ws' := []) [] rfl
      have hD9 := hD.sub (ws' := []) [] (by decide) rfl
      exact W.zret (v := 1) hx hb hr (by first | rfl | decide) (fun t ht hW => ⟨⟨1, (), rfl, by first | exact Or.inr ⟨rfl, z_ne_lt h_6⟩ | exact Or.inl ⟨rfl, z_eq0' h_6 h_14⟩ | exact Or.inr ⟨rfl, z_ne_nle h_14⟩, by rw [ht]; exact hP9, hD9⟩, hS.F ht⟩) hS.2.2 d_DiscMakerModel_cut_25
    · skip
      refine lv_iconst (v := 0) hx hb d_DiscMakerModel_cut_17 (by decide) ?_
      have hP9 := hP.sub (ws' := []) [] rfl
      have hD9 := hD.sub (ws' := []) [] (by decide) rfl
      exact W.zret (v := 0) hx hb hr (by first | rfl | decide) (fun t ht hW => ⟨⟨0, (), rfl, by first | exact Or.inr ⟨rfl, z_ne_lt h_6⟩ | exact Or.inl ⟨rfl, z_eq0' h_6 h_14⟩ | exact Or.inr ⟨rfl, z_ne_nle h_14⟩, by rw [ht]; exact hP9, hD9⟩, hS.F ht⟩) hS.2.2 d_DiscMakerModel_cut_18

theorem d_DiscMakerModel_isNumber_0 : decode b_DiscMakerModel_isNumber 0 = .ok (.iload_n 0, 1) := by decide +kernel
theorem d_DiscMakerModel_isNumber_1 : decode b_DiscMakerModel_isNumber 1 = .ok (.ifCond .lt 13, 3) := by decide +kernel
theorem d_DiscMakerModel_isNumber_4 : decode b_DiscMakerModel_isNumber 4 = .ok (.iload_n 0, 1) := by decide +kernel
theorem d_DiscMakerModel_isNumber_5 : decode b_DiscMakerModel_isNumber 5 = .ok (.ldc 135, 2) := by decide +kernel
theorem d_DiscMakerModel_isNumber_7 : decode b_DiscMakerModel_isNumber 7 = .ok (.if_icmp .gt 7, 3) := by decide +kernel
theorem d_DiscMakerModel_isNumber_10 : decode b_DiscMakerModel_isNumber 10 = .ok (.iconst 1, 1) := by decide +kernel
theorem d_DiscMakerModel_isNumber_11 : decode b_DiscMakerModel_isNumber 11 = .ok (.goto 4, 3) := by decide +kernel
theorem d_DiscMakerModel_isNumber_14 : decode b_DiscMakerModel_isNumber 14 = .ok (.iconst 0, 1) := by decide +kernel
theorem d_DiscMakerModel_isNumber_15 : decode b_DiscMakerModel_isNumber 15 = .ok (.ireturn, 1) := by decide +kernel
set_option maxHeartbeats 4000000 in
set_option maxRecDepth 100000 in
theorem c_m_isNumber (l : Launch) (D : va_G) (cB cI cJ cZ cN cF : ClassId) (sz : Nat) (x : Int32) : Met l y_DiscMakerModel_isNumber w_DiscMakerModel_isNumber ({ frames := 0, cells := 0, slots := 0, locals := 0 }) (va_Pc [.int x] (fun U => U.heap.size = sz ∧ va_P D CL [] U.heap ∧ va_K D CL (TY cB cI cJ cZ cN cF) U ∧ NN U ∧ va_D (fun _ => True) [])) (va_Qi (fun (r : Int32) (u : Unit) => (r = 1 ∧ zIn x 1000000) ∨ (r = 0 ∧ ¬ zIn x 1000000)) (fun (u : Unit) (t : State) => match u with | () => va_P D CL [] t.heap ∧ va_D (va_A [] sz) []) (va_A [] sz)) 0 0 (va_A [] sz) := by
  refine Met.ofW (cc := b_DiscMakerModel_isNumber) (maxL := 1) (ret := some .boolean) (by decide) rfl ?_
  intro p e s m args below meth c s₁ B hml hv
  obtain ⟨rfl, hsz, hP, hK, hN, hD0⟩ := hv
  have hx := B.exec
  have hb := B.bytes
  have hr := B.returns
  have hts := atoms_spec (ws := w_DiscMakerModel_isNumber) B.pre
  have ht9 := fun (w : Cond) (h : w ∈ lw_g) => hts w (List.mem_cons_of_mem _ h)
  have hown : s.vm.findClass "DiscMakerModel" = some m.cls := findClass_of_methodNamed B.named
  have hlocks := B.notSynchronized
  subst hsz
  have hD := hD0.self (sz := s.heap.size)
  generalize hAe : va_A [] s.heap.size = A at hD ⊢
  have hA : ∀ q : Nat, s.heap.size ≤ q → A q := fun q h => by rw [← hAe]; exact Or.inr h
  have hS : va_S A s.heap s.heap [] := va_S.rf
  have hP : va_P D CL [] s.heap := hP
  have hl := lv_entry [.int x] (n := 1) (Nat.le_of_ble_eq_true rfl)
  rw [lg_entry_eq]
  generalize (lg_sl [.int x] ++ List.replicate (1 - (lg_sl [.int x]).length) Slot.unset).toArray = ls at hl ⊢
  have hl : lv_has ls 1 [(0, .int x)] := hl
  refine lv_iload_n hx hb d_DiscMakerModel_isNumber_0 rfl (lv_at hl 0 rfl) ?_
  refine lv_if_lt (tgt := 14) hx hb d_DiscMakerModel_isNumber_1 (by decide) (fun h_1 => ?_) (fun h_1 => ?_)
  · skip
    refine lv_iconst (v := 0) hx hb d_DiscMakerModel_isNumber_14 (by decide) ?_
    have hP9 := hP.sub (ws' := []) [] rfl
    have hD9 := hD.sub (ws' := []) [] (by decide) rfl
    exact W.zret (v := 0) hx hb hr (by first | rfl | decide) (fun t ht hW => ⟨⟨0, (), rfl, by first | exact Or.inl ⟨rfl, h_1, h_7⟩ | exact Or.inr ⟨rfl, fun h => h.1 h_1⟩ | exact Or.inr ⟨rfl, fun h => h.2 h_7⟩, by rw [ht]; exact hP9, hD9⟩, hS.F ht⟩) hS.2.2 d_DiscMakerModel_isNumber_15
  · skip
    refine lv_iload_n hx hb d_DiscMakerModel_isNumber_4 rfl (lv_at hl 0 rfl) ?_
    refine lv_ldc (v := 1000000) hx hb hown (ht9 _ k1597) d_DiscMakerModel_isNumber_5 ?_
    refine lv_icmp_gt (tgt := 14) hx hb d_DiscMakerModel_isNumber_7 (by decide) (fun h_7 => ?_) (fun h_7 => ?_)
    · skip
      refine lv_iconst (v := 0) hx hb d_DiscMakerModel_isNumber_14 (by decide) ?_
      have hP9 := hP.sub (ws' := []) [] rfl
      have hD9 := hD.sub (ws' := []) [] (by decide) rfl
      exact W.zret (v := 0) hx hb hr (by first | rfl | decide) (fun t ht hW => ⟨⟨0, (), rfl, by first | exact Or.inl ⟨rfl, h_1, h_7⟩ | exact Or.inr ⟨rfl, fun h => h.1 h_1⟩ | exact Or.inr ⟨rfl, fun h => h.2 h_7⟩, by rw [ht]; exact hP9, hD9⟩, hS.F ht⟩) hS.2.2 d_DiscMakerModel_isNumber_15
    · skip
      refine lv_iconst (v := 1) hx hb d_DiscMakerModel_isNumber_10 (by decide) ?_
      refine lv_goto (tgt := 15) hx hb d_DiscMakerModel_isNumber_11 (by decide) ?_
      have hP9 := hP.sub (ws' := []) [] rfl
      have hD9 := hD.sub (ws' := []) [] (by decide) rfl
      exact W.zret (v := 1) hx hb hr (by first | rfl | decide) (fun t ht hW => ⟨⟨1, (), rfl, by first | exact Or.inl ⟨rfl, h_1, h_7⟩ | exact Or.inr ⟨rfl, fun h => h.1 h_1⟩ | exact Or.inr ⟨rfl, fun h => h.2 h_7⟩, by rw [ht]; exact hP9, hD9⟩, hS.F ht⟩) hS.2.2 d_DiscMakerModel_isNumber_15

theorem d_DiscMakerModel_own_0 : decode b_DiscMakerModel_own 0 = .ok (.aload_n 0, 1) := by decide +kernel
theorem d_DiscMakerModel_own_1 : decode b_DiscMakerModel_own 1 = .ok (.iconst 0, 1) := by decide +kernel
theorem d_DiscMakerModel_own_2 : decode b_DiscMakerModel_own 2 = .ok (.putfield 118, 3) := by decide +kernel
theorem d_DiscMakerModel_own_5 : decode b_DiscMakerModel_own 5 = .ok (.iload_n 1, 1) := by decide +kernel
theorem d_DiscMakerModel_own_6 : decode b_DiscMakerModel_own 6 = .ok (.ifCond .lt 33, 3) := by decide +kernel
theorem d_DiscMakerModel_own_9 : decode b_DiscMakerModel_own 9 = .ok (.iload_n 1, 1) := by decide +kernel
theorem d_DiscMakerModel_own_10 : decode b_DiscMakerModel_own 10 = .ok (.aload_n 0, 1) := by decide +kernel
theorem d_DiscMakerModel_own_11 : decode b_DiscMakerModel_own 11 = .ok (.getfield 114, 3) := by decide +kernel
theorem d_DiscMakerModel_own_14 : decode b_DiscMakerModel_own 14 = .ok (.if_icmp .ge 25, 3) := by decide +kernel
theorem d_DiscMakerModel_own_17 : decode b_DiscMakerModel_own 17 = .ok (.iload_n 2, 1) := by decide +kernel
theorem d_DiscMakerModel_own_18 : decode b_DiscMakerModel_own 18 = .ok (.invokestatic 153, 3) := by decide +kernel
theorem d_DiscMakerModel_own_21 : decode b_DiscMakerModel_own 21 = .ok (.ifCond .eq 18, 3) := by decide +kernel
theorem d_DiscMakerModel_own_24 : decode b_DiscMakerModel_own 24 = .ok (.iload_n 3, 1) := by decide +kernel
theorem d_DiscMakerModel_own_25 : decode b_DiscMakerModel_own 25 = .ok (.invokestatic 153, 3) := by decide +kernel
theorem d_DiscMakerModel_own_28 : decode b_DiscMakerModel_own 28 = .ok (.ifCond .eq 11, 3) := by decide +kernel
theorem d_DiscMakerModel_own_31 : decode b_DiscMakerModel_own 31 = .ok (.iload 4, 2) := by decide +kernel
theorem d_DiscMakerModel_own_33 : decode b_DiscMakerModel_own 33 = .ok (.invokestatic 153, 3) := by decide +kernel
theorem d_DiscMakerModel_own_36 : decode b_DiscMakerModel_own 36 = .ok (.ifCond .ne 5, 3) := by decide +kernel
theorem d_DiscMakerModel_own_39 : decode b_DiscMakerModel_own 39 = .ok (.iconst 0, 1) := by decide +kernel
theorem d_DiscMakerModel_own_40 : decode b_DiscMakerModel_own 40 = .ok (.ireturn, 1) := by decide +kernel
theorem d_DiscMakerModel_own_41 : decode b_DiscMakerModel_own 41 = .ok (.aload_n 0, 1) := by decide +kernel
theorem d_DiscMakerModel_own_42 : decode b_DiscMakerModel_own 42 = .ok (.getfield 20, 3) := by decide +kernel
theorem d_DiscMakerModel_own_45 : decode b_DiscMakerModel_own 45 = .ok (.iload_n 1, 1) := by decide +kernel
theorem d_DiscMakerModel_own_46 : decode b_DiscMakerModel_own 46 = .ok (.iload_n 2, 1) := by decide +kernel
theorem d_DiscMakerModel_own_47 : decode b_DiscMakerModel_own 47 = .ok (.iastore, 1) := by decide +kernel
theorem d_DiscMakerModel_own_48 : decode b_DiscMakerModel_own 48 = .ok (.aload_n 0, 1) := by decide +kernel
theorem d_DiscMakerModel_own_49 : decode b_DiscMakerModel_own 49 = .ok (.getfield 23, 3) := by decide +kernel
theorem d_DiscMakerModel_own_52 : decode b_DiscMakerModel_own 52 = .ok (.iload_n 1, 1) := by decide +kernel
theorem d_DiscMakerModel_own_53 : decode b_DiscMakerModel_own 53 = .ok (.iload_n 3, 1) := by decide +kernel
theorem d_DiscMakerModel_own_54 : decode b_DiscMakerModel_own 54 = .ok (.iastore, 1) := by decide +kernel
theorem d_DiscMakerModel_own_55 : decode b_DiscMakerModel_own 55 = .ok (.aload_n 0, 1) := by decide +kernel
theorem d_DiscMakerModel_own_56 : decode b_DiscMakerModel_own 56 = .ok (.getfield 26, 3) := by decide +kernel
theorem d_DiscMakerModel_own_59 : decode b_DiscMakerModel_own 59 = .ok (.iload_n 1, 1) := by decide +kernel
theorem d_DiscMakerModel_own_60 : decode b_DiscMakerModel_own 60 = .ok (.iload 4, 2) := by decide +kernel
theorem d_DiscMakerModel_own_62 : decode b_DiscMakerModel_own 62 = .ok (.iastore, 1) := by decide +kernel
theorem d_DiscMakerModel_own_63 : decode b_DiscMakerModel_own 63 = .ok (.iconst 1, 1) := by decide +kernel
theorem d_DiscMakerModel_own_64 : decode b_DiscMakerModel_own 64 = .ok (.ireturn, 1) := by decide +kernel
set_option maxHeartbeats 4000000 in
set_option maxRecDepth 100000 in
theorem c_m_own (l : Launch) (D : va_G) (cB cI cJ cZ cN cF : ClassId) (sz : Nat) (h0 atext akind aparent amode aowner agroup asize aseed aname anameSize atarget atargetSize abase abaseSize aextension aextensionSize aimage atable asector asectors acontents aabove aisDirectory abytes aplace areadMode areadOwner areadGroup areadName areadNameSize areadTarget areadTargetSize adepth : Nat) (f1 f2 f3 : Nat → Int32) (n x y z : Int32) : Met l y_DiscMakerModel_own w_DiscMakerModel_own ({ frames := 1, cells := 0, slots := 0, locals := 20 }) (va_Pc [.ref h0, .int n, .int x, .int y, .int z] (fun U => U.heap.size = sz ∧ va_P D CL [(h0, .inr (11, [.int 0, .ref atext, .int 0, .int 1, .ref akind, .ref aparent, .ref amode, .ref aowner, .ref agroup, .ref asize, .ref aseed, .ref aname, .ref anameSize, .ref atarget, .ref atargetSize, .ref abase, .ref abaseSize, .ref aextension, .ref aextensionSize, .ref aimage, .int 0, .ref atable, .ref asector, .ref asectors, .ref acontents, .int 0, .int 0, .int 0, .int 0, .ref aabove, .ref aisDirectory, .ref abytes, .ref aplace, .ref areadMode, .ref areadOwner, .ref areadGroup, .ref areadName, .ref areadNameSize, .ref areadTarget, .ref areadTargetSize, .ref adepth, .int 0, .int 0, .int 0, .int 0, .int 0, .int 0, .int 0])), (amode, .inl (cI, 40, .inl f1)), (aowner, .inl (cI, 40, .inl f2)), (agroup, .inl (cI, 40, .inl f3))] U.heap ∧ va_K D CL (TY cB cI cJ cZ cN cF) U ∧ NN U ∧ va_D (fun _ => True) [(h0, .inr (11, [.int 0, .ref atext, .int 0, .int 1, .ref akind, .ref aparent, .ref amode, .ref aowner, .ref agroup, .ref asize, .ref aseed, .ref aname, .ref anameSize, .ref atarget, .ref atargetSize, .ref abase, .ref abaseSize, .ref aextension, .ref aextensionSize, .ref aimage, .int 0, .ref atable, .ref asector, .ref asectors, .ref acontents, .int 0, .int 0, .int 0, .int 0, .ref aabove, .ref aisDirectory, .ref abytes, .ref aplace, .ref areadMode, .ref areadOwner, .ref areadGroup, .ref areadName, .ref areadNameSize, .ref areadTarget, .ref areadTargetSize, .ref adepth, .int 0, .int 0, .int 0, .int 0, .int 0, .int 0, .int 0])), (amode, .inl (cI, 40, .inl f1)), (aowner, .inl (cI, 40, .inl f2)), (agroup, .inl (cI, 40, .inl f3))])) (va_Qi (fun (r : Int32) (u : Unit) => (r = 1 ∧ (n = 0 ∧ zIn x 1000000 ∧ zIn y 1000000 ∧ zIn z 1000000)) ∨ (r = 0 ∧ ¬ (n = 0 ∧ zIn x 1000000 ∧ zIn y 1000000 ∧ zIn z 1000000))) (fun (u : Unit) (t : State) => match u with | () => va_P D CL [] t.heap ∧ va_D (va_A [(h0, .inr (11, [.int 0, .ref atext, .int 0, .int 1, .ref akind, .ref aparent, .ref amode, .ref aowner, .ref agroup, .ref asize, .ref aseed, .ref aname, .ref anameSize, .ref atarget, .ref atargetSize, .ref abase, .ref abaseSize, .ref aextension, .ref aextensionSize, .ref aimage, .int 0, .ref atable, .ref asector, .ref asectors, .ref acontents, .int 0, .int 0, .int 0, .int 0, .ref aabove, .ref aisDirectory, .ref abytes, .ref aplace, .ref areadMode, .ref areadOwner, .ref areadGroup, .ref areadName, .ref areadNameSize, .ref areadTarget, .ref areadTargetSize, .ref adepth, .int 0, .int 0, .int 0, .int 0, .int 0, .int 0, .int 0])), (amode, .inl (cI, 40, .inl f1)), (aowner, .inl (cI, 40, .inl f2)), (agroup, .inl (cI, 40, .inl f3))] sz) []) (va_A [(h0, .inr (11, [.int 0, .ref atext, .int 0, .int 1, .ref akind, .ref aparent, .ref amode, .ref aowner, .ref agroup, .ref asize, .ref aseed, .ref aname, .ref anameSize, .ref atarget, .ref atargetSize, .ref abase, .ref abaseSize, .ref aextension, .ref aextensionSize, .ref aimage, .int 0, .ref atable, .ref asector, .ref asectors, .ref acontents, .int 0, .int 0, .int 0, .int 0, .ref aabove, .ref aisDirectory, .ref abytes, .ref aplace, .ref areadMode, .ref areadOwner, .ref areadGroup, .ref areadName, .ref areadNameSize, .ref areadTarget, .ref areadTargetSize, .ref adepth, .int 0, .int 0, .int 0, .int 0, .int 0, .int 0, .int 0])), (amode, .inl (cI, 40, .inl f1)), (aowner, .inl (cI, 40, .inl f2)), (agroup, .inl (cI, 40, .inl f3))] sz)) 0 0 (va_A [(h0, .inr (11, [.int 0, .ref atext, .int 0, .int 1, .ref akind, .ref aparent, .ref amode, .ref aowner, .ref agroup, .ref asize, .ref aseed, .ref aname, .ref anameSize, .ref atarget, .ref atargetSize, .ref abase, .ref abaseSize, .ref aextension, .ref aextensionSize, .ref aimage, .int 0, .ref atable, .ref asector, .ref asectors, .ref acontents, .int 0, .int 0, .int 0, .int 0, .ref aabove, .ref aisDirectory, .ref abytes, .ref aplace, .ref areadMode, .ref areadOwner, .ref areadGroup, .ref areadName, .ref areadNameSize, .ref areadTarget, .ref areadTargetSize, .ref adepth, .int 0, .int 0, .int 0, .int 0, .int 0, .int 0, .int 0])), (amode, .inl (cI, 40, .inl f1)), (aowner, .inl (cI, 40, .inl f2)), (agroup, .inl (cI, 40, .inl f3))] sz) := by
  refine Met.ofW (cc := b_DiscMakerModel_own) (maxL := 5) (ret := some .boolean) (by decide) rfl ?_
  intro p e s m args below meth c s₁ B hml hv
  obtain ⟨rfl, hsz, hP, hK, hN, hD0⟩ := hv
  have hx := B.exec
  have hb := B.bytes
  have hr := B.returns
  have hts := atoms_spec (ws := w_DiscMakerModel_own) B.pre
  have ht9 := fun (w : Cond) (h : w ∈ lw_g) => hts w (List.mem_cons_of_mem _ h)
  have hown : s.vm.findClass "DiscMakerModel" = some m.cls := findClass_of_methodNamed B.named
  have hlocks := B.notSynchronized
  subst hsz
  have hD := hD0.self (sz := s.heap.size)
  generalize hAe : va_A [(h0, .inr (11, [.int 0, .ref atext, .int 0, .int 1, .ref akind, .ref aparent, .ref amode, .ref aowner, .ref agroup, .ref asize, .ref aseed, .ref aname, .ref anameSize, .ref atarget, .ref atargetSize, .ref abase, .ref abaseSize, .ref aextension, .ref aextensionSize, .ref aimage, .int 0, .ref atable, .ref asector, .ref asectors, .ref acontents, .int 0, .int 0, .int 0, .int 0, .ref aabove, .ref aisDirectory, .ref abytes, .ref aplace, .ref areadMode, .ref areadOwner, .ref areadGroup, .ref areadName, .ref areadNameSize, .ref areadTarget, .ref areadTargetSize, .ref adepth, .int 0, .int 0, .int 0, .int 0, .int 0, .int 0, .int 0])), (amode, .inl (cI, 40, .inl f1)), (aowner, .inl (cI, 40, .inl f2)), (agroup, .inl (cI, 40, .inl f3))] s.heap.size = A at hD ⊢
  have hA : ∀ q : Nat, s.heap.size ≤ q → A q := fun q h => by rw [← hAe]; exact Or.inr h
  have hS : va_S A s.heap s.heap [] := va_S.rf
  have hP : va_P D CL [(h0, .inr (11, [.int 0, .ref atext, .int 0, .int 1, .ref akind, .ref aparent, .ref amode, .ref aowner, .ref agroup, .ref asize, .ref aseed, .ref aname, .ref anameSize, .ref atarget, .ref atargetSize, .ref abase, .ref abaseSize, .ref aextension, .ref aextensionSize, .ref aimage, .int 0, .ref atable, .ref asector, .ref asectors, .ref acontents, .int 0, .int 0, .int 0, .int 0, .ref aabove, .ref aisDirectory, .ref abytes, .ref aplace, .ref areadMode, .ref areadOwner, .ref areadGroup, .ref areadName, .ref areadNameSize, .ref areadTarget, .ref areadTargetSize, .ref adepth, .int 0, .int 0, .int 0, .int 0, .int 0, .int 0, .int 0])), (amode, .inl (cI, 40, .inl f1)), (aowner, .inl (cI, 40, .inl f2)), (agroup, .inl (cI, 40, .inl f3))] s.heap := hP
  have hl := lv_entry [.ref h0, .int n, .int x, .int y, .int z] (n := 5) (Nat.le_of_ble_eq_true rfl)
  rw [lg_entry_eq]
  generalize (lg_sl [.ref h0, .int n, .int x, .int y, .int z] ++ List.replicate (5 - (lg_sl [.ref h0, .int n, .int x, .int y, .int z]).length) Slot.unset).toArray = ls at hl ⊢
  have hl : lv_has ls 5 [(0, .ref h0), (1, .int n), (2, .int x), (3, .int y), (4, .int z)] := hl
  refine lv_aload_n hx hb d_DiscMakerModel_own_0 rfl (lv_at hl 0 rfl) ?_
  refine lv_iconst (v := 0) hx hb d_DiscMakerModel_own_1 (by decide) ?_
  refine va_put (D := D) (ci := 11) (v := .int 0) (ty := .int) (C := "DiscMakerModel") (T := F_DiscMakerModel) (N := 48) hx hb ht9 in_DiscMakerModel t_DiscMakerModel t_DiscMakerModel_ok n_DiscMakerModel hown hK hP hD hS 0 rfl rfl 0 (by decide) (ht9 _ k1431) (fun _ h9 => h9) rfl (by decide +kernel) rfl rfl (Nat.le_of_ble_eq_true rfl) d_DiscMakerModel_own_2 (fun H locs hP hD hS => ?_)
  have hP : va_P D CL [(h0, .inr (11, [.int 0, .ref atext, .int 0, .int 1, .ref akind, .ref aparent, .ref amode, .ref aowner, .ref agroup, .ref asize, .ref aseed, .ref aname, .ref anameSize, .ref atarget, .ref atargetSize, .ref abase, .ref abaseSize, .ref aextension, .ref aextensionSize, .ref aimage, .int 0, .ref atable, .ref asector, .ref asectors, .ref acontents, .int 0, .int 0, .int 0, .int 0, .ref aabove, .ref aisDirectory, .ref abytes, .ref aplace, .ref areadMode, .ref areadOwner, .ref areadGroup, .ref areadName, .ref areadNameSize, .ref areadTarget, .ref areadTargetSize, .ref adepth, .int 0, .int 0, .int 0, .int 0, .int 0, .int 0, .int 0])), (amode, .inl (cI, 40, .inl f1)), (aowner, .inl (cI, 40, .inl f2)), (agroup, .inl (cI, 40, .inl f3))] H := hP
  have hD : va_D A [(h0, .inr (11, [.int 0, .ref atext, .int 0, .int 1, .ref akind, .ref aparent, .ref amode, .ref aowner, .ref agroup, .ref asize, .ref aseed, .ref aname, .ref anameSize, .ref atarget, .ref atargetSize, .ref abase, .ref abaseSize, .ref aextension, .ref aextensionSize, .ref aimage, .int 0, .ref atable, .ref asector, .ref asectors, .ref acontents, .int 0, .int 0, .int 0, .int 0, .ref aabove, .ref aisDirectory, .ref abytes, .ref aplace, .ref areadMode, .ref areadOwner, .ref areadGroup, .ref areadName, .ref areadNameSize, .ref areadTarget, .ref areadTargetSize, .ref adepth, .int 0, .int 0, .int 0, .int 0, .int 0, .int 0, .int 0])), (amode, .inl (cI, 40, .inl f1)), (aowner, .inl (cI, 40, .inl f2)), (agroup, .inl (cI, 40, .inl f3))] := hD
  refine lv_iload_n hx hb d_DiscMakerModel_own_5 rfl (lv_at hl 1 rfl) ?_
  refine lv_if_lt (tgt := 39) hx hb d_DiscMakerModel_own_6 (by decide) (fun h_6 => ?_) (fun h_6 => ?_)
  · skip
    refine lv_iconst (v := 0) hx hb d_DiscMakerModel_own_39 (by decide) ?_
    have hP9 := hP.sub (ws' := []) [] rfl
    have hD9 := hD.sub (ws' := []) [] (by decide) rfl
    exact W.zret (v := 0) hx hb hr (by first | rfl | decide) (fun t ht hW => ⟨⟨0, (), rfl, by first | exact Or.inl ⟨rfl, rfl, hx1, hy1, hz1⟩ | exact Or.inr ⟨rfl, fun h => hz1 h.2.2.2⟩ | exact Or.inr ⟨rfl, fun h => hy1 h.2.2.1⟩ | exact Or.inr ⟨rfl, fun h => hx1 h.2.1⟩ | exact Or.inr ⟨rfl, fun h => z_ne_ge h_14 h.1⟩ | exact Or.inr ⟨rfl, fun h => z_ne_lt h_6 h.1⟩, by rw [ht]; exact hP9, hD9⟩, hS.F ht⟩) hS.2.2 d_DiscMakerModel_own_40
  · skip
    refine lv_iload_n hx hb d_DiscMakerModel_own_9 rfl (lv_at hl 1 rfl) ?_
    refine lv_aload_n hx hb d_DiscMakerModel_own_10 rfl (lv_at hl 0 rfl) ?_
    refine va_get (D := D) (ci := 11) (v := .int 1) (C := "DiscMakerModel") (T := F_DiscMakerModel) (N := 48) hx hb ht9 in_DiscMakerModel hown hK hP 0 rfl rfl 3 (by decide) (ht9 _ k1434) (fun _ h9 => h9) rfl d_DiscMakerModel_own_11 ?_
    refine lv_icmp_ge (tgt := 39) hx hb d_DiscMakerModel_own_14 (by decide) (fun h_14 => ?_) (fun h_14 => ?_)
    · skip
      refine lv_iconst (v := 0) hx hb d_DiscMakerModel_own_39 (by decide) ?_
      have hP9 := hP.sub (ws' := []) [] rfl
      have hD9 := hD.sub (ws' := []) [] (by decide) rfl
      exact W.zret (v := 0) hx hb hr (by first | rfl | decide) (fun t ht hW => ⟨⟨0, (), rfl, by first | exact Or.inl ⟨rfl, rfl, hx1, hy1, hz1⟩ | exact Or.inr ⟨rfl, fun h => hz1 h.2.2.2⟩ | exact Or.inr ⟨rfl, fun h => hy1 h.2.2.1⟩ | exact Or.inr ⟨rfl, fun h => hx1 h.2.1⟩ | exact Or.inr ⟨rfl, fun h => z_ne_ge h_14 h.1⟩ | exact Or.inr ⟨rfl, fun h => z_ne_lt h_6 h.1⟩, by rw [ht]; exact hP9, hD9⟩, hS.F ht⟩) hS.2.2 d_DiscMakerModel_own_40
    · skip
      have hn0 : n = 0 := z_eq0 h_6 h_14
      subst hn0
      refine lv_iload_n hx hb d_DiscMakerModel_own_17 rfl (lv_at hl 2 rfl) ?_
      have hPc := hP.sub (ws' := []) [] rfl
      have hDc := hD.sub (ws' := []) [] (by decide) rfl
      have hFc := va_free (wc := []) hD hS hA [] rfl
      have hkc : 0 ≤ 0 := by decide
      have hks : 0 ≤ 0 := by decide
      refine va_calli (va_runS (As := [.int x]) (rest := []) ⟨hx, hb, hml, hown, hts⟩ (c_m_isNumber l D cB cI cJ cZ cN cF H.size x) (cwS 1 hts (lg_goodS k1594 k1595 k125 kc_DiscMakerModel_isNumber) rfl rfl rfl (by decide +kernel) ⟨Nat.le_of_ble_eq_true rfl, Nat.le_of_ble_eq_true rfl⟩) ⟨fun a U g mk q => by obtain ⟨q0, q1, qP, qK, qN, qD⟩ := q; exact ⟨q0, q1, qP, va_K.moved (u := U) (U := U.calling g mk a) (Vm.Alike.refl U.vm) qK, qN.calling, qD⟩, fun U hU hW => ⟨rfl, by rw [hU], by rw [hU]; exact hPc, va_K.moved hW.alike hK, NN.warm hW hN, hDc.weaken (fun _ _ _ _ => trivial)⟩⟩ rfl rfl hl.1 rfl (lv_room (Nat.le_of_ble_eq_true rfl)) d_DiscMakerModel_own_18 ⟨hkc, hks⟩) hS (fun q _ h => hFc q h) hFc (fun r18 u t H1 locs ht hvm hp_18 hB hz1 hk1 hS => ?_)
      obtain ⟨hP1, hD1⟩ := hB
      rw [ht] at hP1
      try dsimp only at hp_18
      obtain ⟨hP, hD⟩ := va_join (wr := [(h0, .inr (11, [.int 0, .ref atext, .int 0, .int 1, .ref akind, .ref aparent, .ref amode, .ref aowner, .ref agroup, .ref asize, .ref aseed, .ref aname, .ref anameSize, .ref atarget, .ref atargetSize, .ref abase, .ref abaseSize, .ref aextension, .ref aextensionSize, .ref aimage, .int 0, .ref atable, .ref asector, .ref asectors, .ref acontents, .int 0, .int 0, .int 0, .int 0, .ref aabove, .ref aisDirectory, .ref abytes, .ref aplace, .ref areadMode, .ref areadOwner, .ref areadGroup, .ref areadName, .ref areadNameSize, .ref areadTarget, .ref areadTargetSize, .ref adepth, .int 0, .int 0, .int 0, .int 0, .int 0, .int 0, .int 0])), (amode, .inl (cI, 40, .inl f1)), (aowner, .inl (cI, 40, .inl f2)), (agroup, .inl (cI, 40, .inl f3))]) (w1 := []) hP hD [] [0, 1, 2, 3] rfl rfl (by decide) (by decide) hk1 hFc hP1 hD1
      clear hPc hDc hFc hP1 hD1 hk1 hz1
      generalize H1 = H at hP hS ⊢
      have hP : va_P D CL [(h0, .inr (11, [.int 0, .ref atext, .int 0, .int 1, .ref akind, .ref aparent, .ref amode, .ref aowner, .ref agroup, .ref asize, .ref aseed, .ref aname, .ref anameSize, .ref atarget, .ref atargetSize, .ref abase, .ref abaseSize, .ref aextension, .ref aextensionSize, .ref aimage, .int 0, .ref atable, .ref asector, .ref asectors, .ref acontents, .int 0, .int 0, .int 0, .int 0, .ref aabove, .ref aisDirectory, .ref abytes, .ref aplace, .ref areadMode, .ref areadOwner, .ref areadGroup, .ref areadName, .ref areadNameSize, .ref areadTarget, .ref areadTargetSize, .ref adepth, .int 0, .int 0, .int 0, .int 0, .int 0, .int 0, .int 0])), (amode, .inl (cI, 40, .inl f1)), (aowner, .inl (cI, 40, .inl f2)), (agroup, .inl (cI, 40, .inl f3))] H := hP
      have hD : va_D A [(h0, .inr (11, [.int 0, .ref atext, .int 0, .int 1, .ref akind, .ref aparent, .ref amode, .ref aowner, .ref agroup, .ref asize, .ref aseed, .ref aname, .ref anameSize, .ref atarget, .ref atargetSize, .ref abase, .ref abaseSize, .ref aextension, .ref aextensionSize, .ref aimage, .int 0, .ref atable, .ref asector, .ref asectors, .ref acontents, .int 0, .int 0, .int 0, .int 0, .ref aabove, .ref aisDirectory, .ref abytes, .ref aplace, .ref areadMode, .ref areadOwner, .ref areadGroup, .ref areadName, .ref areadNameSize, .ref areadTarget, .ref areadTargetSize, .ref adepth, .int 0, .int 0, .int 0, .int 0, .int 0, .int 0, .int 0])), (amode, .inl (cI, 40, .inl f1)), (aowner, .inl (cI, 40, .inl f2)), (agroup, .inl (cI, 40, .inl f3))] := hD
      rcases hp_18 with ⟨rfl, hx1⟩ | ⟨rfl, hx1⟩
      · skip
        refine lv_if_eq (tgt := 39) hx hb d_DiscMakerModel_own_21 (by decide) (fun h_21 => absurd h_21 (by decide)) (fun h_21 => ?_)
        refine lv_iload_n hx hb d_DiscMakerModel_own_24 rfl (lv_at hl 3 rfl) ?_
        have hPc := hP.sub (ws' := []) [] rfl
        have hDc := hD.sub (ws' := []) [] (by decide) rfl
        have hFc := va_free (wc := []) hD hS hA [] rfl
        have hkc : 0 ≤ 0 := by decide
        have hks : 0 ≤ 0 := by decide
        refine va_calli (va_runS (As := [.int y]) (rest := []) ⟨hx, hb, hml, hown, hts⟩ (c_m_isNumber l D cB cI cJ cZ cN cF H.size y) (cwS 1 hts (lg_goodS k1594 k1595 k125 kc_DiscMakerModel_isNumber) rfl rfl rfl (by decide +kernel) ⟨Nat.le_of_ble_eq_true rfl, Nat.le_of_ble_eq_true rfl⟩) ⟨fun a U g mk q => by obtain ⟨q0, q1, qP, qK, qN, qD⟩ := q; exact ⟨q0, q1, qP, va_K.moved (u := U) (U := U.calling g mk a) (Vm.Alike.refl U.vm) qK, qN.calling, qD⟩, fun U hU hW => ⟨rfl, by rw [hU], by rw [hU]; exact hPc, va_K.moved hW.alike hK, NN.warm hW hN, hDc.weaken (fun _ _ _ _ => trivial)⟩⟩ rfl rfl hl.1 rfl (lv_room (Nat.le_of_ble_eq_true rfl)) d_DiscMakerModel_own_25 ⟨hkc, hks⟩) hS (fun q _ h => hFc q h) hFc (fun r25 u t H1 locs ht hvm hp_25 hB hz1 hk1 hS => ?_)
        obtain ⟨hP1, hD1⟩ := hB
        rw [ht] at hP1
        try dsimp only at hp_25
        obtain ⟨hP, hD⟩ := va_join (wr := [(h0, .inr (11, [.int 0, .ref atext, .int 0, .int 1, .ref akind, .ref aparent, .ref amode, .ref aowner, .ref agroup, .ref asize, .ref aseed, .ref aname, .ref anameSize, .ref atarget, .ref atargetSize, .ref abase, .ref abaseSize, .ref aextension, .ref aextensionSize, .ref aimage, .int 0, .ref atable, .ref asector, .ref asectors, .ref acontents, .int 0, .int 0, .int 0, .int 0, .ref aabove, .ref aisDirectory, .ref abytes, .ref aplace, .ref areadMode, .ref areadOwner, .ref areadGroup, .ref areadName, .ref areadNameSize, .ref areadTarget, .ref areadTargetSize, .ref adepth, .int 0, .int 0, .int 0, .int 0, .int 0, .int 0, .int 0])), (amode, .inl (cI, 40, .inl f1)), (aowner, .inl (cI, 40, .inl f2)), (agroup, .inl (cI, 40, .inl f3))]) (w1 := []) hP hD [] [0, 1, 2, 3] rfl rfl (by decide) (by decide) hk1 hFc hP1 hD1
        clear hPc hDc hFc hP1 hD1 hk1 hz1
        generalize H1 = H at hP hS ⊢
        have hP : va_P D CL [(h0, .inr (11, [.int 0, .ref atext, .int 0, .int 1, .ref akind, .ref aparent, .ref amode, .ref aowner, .ref agroup, .ref asize, .ref aseed, .ref aname, .ref anameSize, .ref atarget, .ref atargetSize, .ref abase, .ref abaseSize, .ref aextension, .ref aextensionSize, .ref aimage, .int 0, .ref atable, .ref asector, .ref asectors, .ref acontents, .int 0, .int 0, .int 0, .int 0, .ref aabove, .ref aisDirectory, .ref abytes, .ref aplace, .ref areadMode, .ref areadOwner, .ref areadGroup, .ref areadName, .ref areadNameSize, .ref areadTarget, .ref areadTargetSize, .ref adepth, .int 0, .int 0, .int 0, .int 0, .int 0, .int 0, .int 0])), (amode, .inl (cI, 40, .inl f1)), (aowner, .inl (cI, 40, .inl f2)), (agroup, .inl (cI, 40, .inl f3))] H := hP
        have hD : va_D A [(h0, .inr (11, [.int 0, .ref atext, .int 0, .int 1, .ref akind, .ref aparent, .ref amode, .ref aowner, .ref agroup, .ref asize, .ref aseed, .ref aname, .ref anameSize, .ref atarget, .ref atargetSize, .ref abase, .ref abaseSize, .ref aextension, .ref aextensionSize, .ref aimage, .int 0, .ref atable, .ref asector, .ref asectors, .ref acontents, .int 0, .int 0, .int 0, .int 0, .ref aabove, .ref aisDirectory, .ref abytes, .ref aplace, .ref areadMode, .ref areadOwner, .ref areadGroup, .ref areadName, .ref areadNameSize, .ref areadTarget, .ref areadTargetSize, .ref adepth, .int 0, .int 0, .int 0, .int 0, .int 0, .int 0, .int 0])), (amode, .inl (cI, 40, .inl f1)), (aowner, .inl (cI, 40, .inl f2)), (agroup, .inl (cI, 40, .inl f3))] := hD
        rcases hp_25 with ⟨rfl, hy1⟩ | ⟨rfl, hy1⟩
        · skip
          refine lv_if_eq (tgt := 39) hx hb d_DiscMakerModel_own_28 (by decide) (fun h_28 => absurd h_28 (by decide)) (fun h_28 => ?_)
          refine lv_iload hx hb d_DiscMakerModel_own_31 (lv_at hl 4 rfl) ?_
          have hPc := hP.sub (ws' := []) [] rfl
          have hDc := hD.sub (ws' := []) [] (by decide) rfl
          have hFc := va_free (wc := []) hD hS hA [] rfl
          have hkc : 0 ≤ 0 := by decide
          have hks : 0 ≤ 0 := by decide
          refine va_calli (va_runS (As := [.int z]) (rest := []) ⟨hx, hb, hml, hown, hts⟩ (c_m_isNumber l D cB cI cJ cZ cN cF H.size z) (cwS 1 hts (lg_goodS k1594 k1595 k125 kc_DiscMakerModel_isNumber) rfl rfl rfl (by decide +kernel) ⟨Nat.le_of_ble_eq_true rfl, Nat.le_of_ble_eq_true rfl⟩) ⟨fun a U g mk q => by obtain ⟨q0, q1, qP, qK, qN, qD⟩ := q; exact ⟨q0, q1, qP, va_K.moved (u := U) (U := U.calling g mk a) (Vm.Alike.refl U.vm) qK, qN.calling, qD⟩, fun U hU hW => ⟨rfl, by rw [hU], by rw [hU]; exact hPc, va_K.moved hW.alike hK, NN.warm hW hN, hDc.weaken (fun _ _ _ _ => trivial)⟩⟩ rfl rfl hl.1 rfl (lv_room (Nat.le_of_ble_eq_true rfl)) d_DiscMakerModel_own_33 ⟨hkc, hks⟩) hS (fun q _ h => hFc q h) hFc (fun r33 u t H1 locs ht hvm hp_33 hB hz1 hk1 hS => ?_)
          obtain ⟨hP1, hD1⟩ := hB
          rw [ht] at hP1
          try dsimp only at hp_33
          obtain ⟨hP, hD⟩ := va_join (wr := [(h0, .inr (11, [.int 0, .ref atext, .int 0, .int 1, .ref akind, .ref aparent, .ref amode, .ref aowner, .ref agroup, .ref asize, .ref aseed, .ref aname, .ref anameSize, .ref atarget, .ref atargetSize, .ref abase, .ref abaseSize, .ref aextension, .ref aextensionSize, .ref aimage, .int 0, .ref atable, .ref asector, .ref asectors, .ref acontents, .int 0, .int 0, .int 0, .int 0, .ref aabove, .ref aisDirectory, .ref abytes, .ref aplace, .ref areadMode, .ref areadOwner, .ref areadGroup, .ref areadName, .ref areadNameSize, .ref areadTarget, .ref areadTargetSize, .ref adepth, .int 0, .int 0, .int 0, .int 0, .int 0, .int 0, .int 0])), (amode, .inl (cI, 40, .inl f1)), (aowner, .inl (cI, 40, .inl f2)), (agroup, .inl (cI, 40, .inl f3))]) (w1 := []) hP hD [] [0, 1, 2, 3] rfl rfl (by decide) (by decide) hk1 hFc hP1 hD1
          clear hPc hDc hFc hP1 hD1 hk1 hz1
          generalize H1 = H at hP hS ⊢
          have hP : va_P D CL [(h0, .inr (11, [.int 0, .ref atext, .int 0, .int 1, .ref akind, .ref aparent, .ref amode, .ref aowner, .ref agroup, .ref asize, .ref aseed, .ref aname, .ref anameSize, .ref atarget, .ref atargetSize, .ref abase, .ref abaseSize, .ref aextension, .ref aextensionSize, .ref aimage, .int 0, .ref atable, .ref asector, .ref asectors, .ref acontents, .int 0, .int 0, .int 0, .int 0, .ref aabove, .ref aisDirectory, .ref abytes, .ref aplace, .ref areadMode, .ref areadOwner, .ref areadGroup, .ref areadName, .ref areadNameSize, .ref areadTarget, .ref areadTargetSize, .ref adepth, .int 0, .int 0, .int 0, .int 0, .int 0, .int 0, .int 0])), (amode, .inl (cI, 40, .inl f1)), (aowner, .inl (cI, 40, .inl f2)), (agroup, .inl (cI, 40, .inl f3))] H := hP
          have hD : va_D A [(h0, .inr (11, [.int 0, .ref atext, .int 0, .int 1, .ref akind, .ref aparent, .ref amode, .ref aowner, .ref agroup, .ref asize, .ref aseed, .ref aname, .ref anameSize, .ref atarget, .ref atargetSize, .ref abase, .ref abaseSize, .ref aextension, .ref aextensionSize, .ref aimage, .int 0, .ref atable, .ref asector, .ref asectors, .ref acontents, .int 0, .int 0, .int 0, .int 0, .ref aabove, .ref aisDirectory, .ref abytes, .ref aplace, .ref areadMode, .ref areadOwner, .ref areadGroup, .ref areadName, .ref areadNameSize, .ref areadTarget, .ref areadTargetSize, .ref adepth, .int 0, .int 0, .int 0, .int 0, .int 0, .int 0, .int 0])), (amode, .inl (cI, 40, .inl f1)), (aowner, .inl (cI, 40, .inl f2)), (agroup, .inl (cI, 40, .inl f3))] := hD
          rcases hp_33 with ⟨rfl, hz1⟩ | ⟨rfl, hz1⟩
          · skip
            refine lv_if_ne (tgt := 41) hx hb d_DiscMakerModel_own_36 (by decide) (fun h_36 => ?_) (fun h_36 => absurd h_36 (by decide))
            refine lv_aload_n hx hb d_DiscMakerModel_own_41 rfl (lv_at hl 0 rfl) ?_
            refine va_get (D := D) (ci := 11) (v := .ref amode) (C := "DiscMakerModel") (T := F_DiscMakerModel) (N := 48) hx hb ht9 in_DiscMakerModel hown hK hP 0 rfl rfl 6 (by decide) (ht9 _ k1437) (fun _ h9 => h9) rfl d_DiscMakerModel_own_42 ?_
            refine lv_iload_n hx hb d_DiscMakerModel_own_45 rfl (lv_at hl 1 rfl) ?_
            refine lv_iload_n hx hb d_DiscMakerModel_own_46 rfl (lv_at hl 2 rfl) ?_
            refine zz_iast hx hb hK hP hD hS 1 1 rfl rfl (by unfold vp_in; decide) d_DiscMakerModel_own_47 (fun g47 H locs hP hD hS => ?_)
            have hP : va_P D CL [(h0, .inr (11, [.int 0, .ref atext, .int 0, .int 1, .ref akind, .ref aparent, .ref amode, .ref aowner, .ref agroup, .ref asize, .ref aseed, .ref aname, .ref anameSize, .ref atarget, .ref atargetSize, .ref abase, .ref abaseSize, .ref aextension, .ref aextensionSize, .ref aimage, .int 0, .ref atable, .ref asector, .ref asectors, .ref acontents, .int 0, .int 0, .int 0, .int 0, .ref aabove, .ref aisDirectory, .ref abytes, .ref aplace, .ref areadMode, .ref areadOwner, .ref areadGroup, .ref areadName, .ref areadNameSize, .ref areadTarget, .ref areadTargetSize, .ref adepth, .int 0, .int 0, .int 0, .int 0, .int 0, .int 0, .int 0])), (amode, .inl (cI, 40, .inl g47)), (aowner, .inl (cI, 40, .inl f2)), (agroup, .inl (cI, 40, .inl f3))] H := hP
            have hD : va_D A [(h0, .inr (11, [.int 0, .ref atext, .int 0, .int 1, .ref akind, .ref aparent, .ref amode, .ref aowner, .ref agroup, .ref asize, .ref aseed, .ref aname, .ref anameSize, .ref atarget, .ref atargetSize, .ref abase, .ref abaseSize, .ref aextension, .ref aextensionSize, .ref aimage, .int 0, .ref atable, .ref asector, .ref asectors, .ref acontents, .int 0, .int 0, .int 0, .int 0, .ref aabove, .ref aisDirectory, .ref abytes, .ref aplace, .ref areadMode, .ref areadOwner, .ref areadGroup, .ref areadName, .ref areadNameSize, .ref areadTarget, .ref areadTargetSize, .ref adepth, .int 0, .int 0, .int 0, .int 0, .int 0, .int 0, .int 0])), (amode, .inl (cI, 40, .inl g47)), (aowner, .inl (cI, 40, .inl f2)), (agroup, .inl (cI, 40, .inl f3))] := hD
            refine lv_aload_n hx hb d_DiscMakerModel_own_48 rfl (lv_at hl 0 rfl) ?_
            refine va_get (D := D) (ci := 11) (v := .ref aowner) (C := "DiscMakerModel") (T := F_DiscMakerModel) (N := 48) hx hb ht9 in_DiscMakerModel hown hK hP 0 rfl rfl 7 (by decide) (ht9 _ k1438) (fun _ h9 => h9) rfl d_DiscMakerModel_own_49 ?_
            refine lv_iload_n hx hb d_DiscMakerModel_own_52 rfl (lv_at hl 1 rfl) ?_
            refine lv_iload_n hx hb d_DiscMakerModel_own_53 rfl (lv_at hl 3 rfl) ?_
            refine zz_iast hx hb hK hP hD hS 2 1 rfl rfl (by unfold vp_in; decide) d_DiscMakerModel_own_54 (fun g54 H locs hP hD hS => ?_)
            have hP : va_P D CL [(h0, .inr (11, [.int 0, .ref atext, .int 0, .int 1, .ref akind, .ref aparent, .ref amode, .ref aowner, .ref agroup, .ref asize, .ref aseed, .ref aname, .ref anameSize, .ref atarget, .ref atargetSize, .ref abase, .ref abaseSize, .ref aextension, .ref aextensionSize, .ref aimage, .int 0, .ref atable, .ref asector, .ref asectors, .ref acontents, .int 0, .int 0, .int 0, .int 0, .ref aabove, .ref aisDirectory, .ref abytes, .ref aplace, .ref areadMode, .ref areadOwner, .ref areadGroup, .ref areadName, .ref areadNameSize, .ref areadTarget, .ref areadTargetSize, .ref adepth, .int 0, .int 0, .int 0, .int 0, .int 0, .int 0, .int 0])), (amode, .inl (cI, 40, .inl g47)), (aowner, .inl (cI, 40, .inl g54)), (agroup, .inl (cI, 40, .inl f3))] H := hP
            have hD : va_D A [(h0, .inr (11, [.int 0, .ref atext, .int 0, .int 1, .ref akind, .ref aparent, .ref amode, .ref aowner, .ref agroup, .ref asize, .ref aseed, .ref aname, .ref anameSize, .ref atarget, .ref atargetSize, .ref abase, .ref abaseSize, .ref aextension, .ref aextensionSize, .ref aimage, .int 0, .ref atable, .ref asector, .ref asectors, .ref acontents, .int 0, .int 0, .int 0, .int 0, .ref aabove, .ref aisDirectory, .ref abytes, .ref aplace, .ref areadMode, .ref areadOwner, .ref areadGroup, .ref areadName, .ref areadNameSize, .ref areadTarget, .ref areadTargetSize, .ref adepth, .int 0, .int 0, .int 0, .int 0, .int 0, .int 0, .int 0])), (amode, .inl (cI, 40, .inl g47)), (aowner, .inl (cI, 40, .inl g54)), (agroup, .inl (cI, 40, .inl f3))] := hD
            refine lv_aload_n hx hb d_DiscMakerModel_own_55 rfl (lv_at hl 0 rfl) ?_
            refine va_get (D := D) (ci := 11) (v := .ref agroup) (C := "DiscMakerModel") (T := F_DiscMakerModel) (N := 48) hx hb ht9 in_DiscMakerModel hown hK hP 0 rfl rfl 8 (by decide) (ht9 _ k1439) (fun _ h9 => h9) rfl d_DiscMakerModel_own_56 ?_
            refine lv_iload_n hx hb d_DiscMakerModel_own_59 rfl (lv_at hl 1 rfl) ?_
            refine lv_iload hx hb d_DiscMakerModel_own_60 (lv_at hl 4 rfl) ?_
            refine zz_iast hx hb hK hP hD hS 3 1 rfl rfl (by unfold vp_in; decide) d_DiscMakerModel_own_62 (fun g62 H locs hP hD hS => ?_)
            have hP : va_P D CL [(h0, .inr (11, [.int 0, .ref atext, .int 0, .int 1, .ref akind, .ref aparent, .ref amode, .ref aowner, .ref agroup, .ref asize, .ref aseed, .ref aname, .ref anameSize, .ref atarget, .ref atargetSize, .ref abase, .ref abaseSize, .ref aextension, .ref aextensionSize, .ref aimage, .int 0, .ref atable, .ref asector, .ref asectors, .ref acontents, .int 0, .int 0, .int 0, .int 0, .ref aabove, .ref aisDirectory, .ref abytes, .ref aplace, .ref areadMode, .ref areadOwner, .ref areadGroup, .ref areadName, .ref areadNameSize, .ref areadTarget, .ref areadTargetSize, .ref adepth, .int 0, .int 0, .int 0, .int 0, .int 0, .int 0, .int 0])), (amode, .inl (cI, 40, .inl g47)), (aowner, .inl (cI, 40, .inl g54)), (agroup, .inl (cI, 40, .inl g62))] H := hP
            have hD : va_D A [(h0, .inr (11, [.int 0, .ref atext, .int 0, .int 1, .ref akind, .ref aparent, .ref amode, .ref aowner, .ref agroup, .ref asize, .ref aseed, .ref aname, .ref anameSize, .ref atarget, .ref atargetSize, .ref abase, .ref abaseSize, .ref aextension, .ref aextensionSize, .ref aimage, .int 0, .ref atable, .ref asector, .ref asectors, .ref acontents, .int 0, .int 0, .int 0, .int 0, .ref aabove, .ref aisDirectory, .ref abytes, .ref aplace, .ref areadMode, .ref areadOwner, .ref areadGroup, .ref areadName, .ref areadNameSize, .ref areadTarget, .ref areadTargetSize, .ref adepth, .int 0, .int 0, .int 0, .int 0, .int 0, .int 0, .int 0])), (amode, .inl (cI, 40, .inl g47)), (aowner, .inl (cI, 40, .inl g54)), (agroup, .inl (cI, 40, .inl g62))] := hD
            refine lv_iconst (v := 1) hx hb d_DiscMakerModel_own_63 (by decide) ?_
            have hP9 := hP.sub (ws' := []) [] rfl
            have hD9 := hD.sub (ws' := []) [] (by decide) rfl
            exact W.zret (v := 1) hx hb hr (by first | rfl | decide) (fun t ht hW => ⟨⟨1, (), rfl, by first | exact Or.inl ⟨rfl, rfl, hx1, hy1, hz1⟩ | exact Or.inr ⟨rfl, fun h => hz1 h.2.2.2⟩ | exact Or.inr ⟨rfl, fun h => hy1 h.2.2.1⟩ | exact Or.inr ⟨rfl, fun h => hx1 h.2.1⟩ | exact Or.inr ⟨rfl, fun h => z_ne_ge h_14 h.1⟩ | exact Or.inr ⟨rfl, fun h => z_ne_lt h_6 h.1⟩, by rw [ht]; exact hP9, hD9⟩, hS.F ht⟩) hS.2.2 d_DiscMakerModel_own_64
          · skip
            refine lv_if_ne (tgt := 41) hx hb d_DiscMakerModel_own_36 (by decide) (fun h_36 => absurd (by decide) h_36) (fun h_36 => ?_)
            refine lv_iconst (v := 0) hx hb d_DiscMakerModel_own_39 (by decide) ?_
            have hP9 := hP.sub (ws' := []) [] rfl
            have hD9 := hD.sub (ws' := []) [] (by decide) rfl
            exact W.zret (v := 0) hx hb hr (by first | rfl | decide) (fun t ht hW => ⟨⟨0, (), rfl, by first | exact Or.inl ⟨rfl, rfl, hx1, hy1, hz1⟩ | exact Or.inr ⟨rfl, fun h => hz1 h.2.2.2⟩ | exact Or.inr ⟨rfl, fun h => hy1 h.2.2.1⟩ | exact Or.inr ⟨rfl, fun h => hx1 h.2.1⟩ | exact Or.inr ⟨rfl, fun h => z_ne_ge h_14 h.1⟩ | exact Or.inr ⟨rfl, fun h => z_ne_lt h_6 h.1⟩, by rw [ht]; exact hP9, hD9⟩, hS.F ht⟩) hS.2.2 d_DiscMakerModel_own_40
        · skip
          refine lv_if_eq (tgt := 39) hx hb d_DiscMakerModel_own_28 (by decide) (fun h_28 => ?_) (fun h_28 => absurd (by decide) h_28)
          refine lv_iconst (v := 0) hx hb d_DiscMakerModel_own_39 (by decide) ?_
          have hP9 := hP.sub (ws' := []) [] rfl
          have hD9 := hD.sub (ws' := []) [] (by decide) rfl
          exact W.zret (v := 0) hx hb hr (by first | rfl | decide) (fun t ht hW => ⟨⟨0, (), rfl, by first | exact Or.inl ⟨rfl, rfl, hx1, hy1, hz1⟩ | exact Or.inr ⟨rfl, fun h => hz1 h.2.2.2⟩ | exact Or.inr ⟨rfl, fun h => hy1 h.2.2.1⟩ | exact Or.inr ⟨rfl, fun h => hx1 h.2.1⟩ | exact Or.inr ⟨rfl, fun h => z_ne_ge h_14 h.1⟩ | exact Or.inr ⟨rfl, fun h => z_ne_lt h_6 h.1⟩, by rw [ht]; exact hP9, hD9⟩, hS.F ht⟩) hS.2.2 d_DiscMakerModel_own_40
      · skip
        refine lv_if_eq (tgt := 39) hx hb d_DiscMakerModel_own_21 (by decide) (fun h_21 => ?_) (fun h_21 => absurd (by decide) h_21)
        refine lv_iconst (v := 0) hx hb d_DiscMakerModel_own_39 (by decide) ?_
        have hP9 := hP.sub (ws' := []) [] rfl
        have hD9 := hD.sub (ws' := []) [] (by decide) rfl
        exact W.zret (v := 0) hx hb hr (by first | rfl | decide) (fun t ht hW => ⟨⟨0, (), rfl, by first | exact Or.inl ⟨rfl, rfl, hx1, hy1, hz1⟩ | exact Or.inr ⟨rfl, fun h => hz1 h.2.2.2⟩ | exact Or.inr ⟨rfl, fun h => hy1 h.2.2.1⟩ | exact Or.inr ⟨rfl, fun h => hx1 h.2.1⟩ | exact Or.inr ⟨rfl, fun h => z_ne_ge h_14 h.1⟩ | exact Or.inr ⟨rfl, fun h => z_ne_lt h_6 h.1⟩, by rw [ht]; exact hP9, hD9⟩, hS.F ht⟩) hS.2.2 d_DiscMakerModel_own_40

theorem d_DiscMakerModel_isIn_0 : decode b_DiscMakerModel_isIn 0 = .ok (.iload_n 1, 1) := by decide +kernel
theorem d_DiscMakerModel_isIn_1 : decode b_DiscMakerModel_isIn 1 = .ok (.ifCond .lt 24, 3) := by decide +kernel
theorem d_DiscMakerModel_isIn_4 : decode b_DiscMakerModel_isIn 4 = .ok (.iload_n 1, 1) := by decide +kernel
theorem d_DiscMakerModel_isIn_5 : decode b_DiscMakerModel_isIn 5 = .ok (.aload_n 0, 1) := by decide +kernel
theorem d_DiscMakerModel_isIn_6 : decode b_DiscMakerModel_isIn 6 = .ok (.getfield 114, 3) := by decide +kernel
theorem d_DiscMakerModel_isIn_9 : decode b_DiscMakerModel_isIn 9 = .ok (.if_icmp .ge 16, 3) := by decide +kernel
theorem d_DiscMakerModel_isIn_12 : decode b_DiscMakerModel_isIn 12 = .ok (.aload_n 0, 1) := by decide +kernel
theorem d_DiscMakerModel_isIn_13 : decode b_DiscMakerModel_isIn 13 = .ok (.getfield 13, 3) := by decide +kernel
theorem d_DiscMakerModel_isIn_16 : decode b_DiscMakerModel_isIn 16 = .ok (.iload_n 1, 1) := by decide +kernel
theorem d_DiscMakerModel_isIn_17 : decode b_DiscMakerModel_isIn 17 = .ok (.iaload, 1) := by decide +kernel
theorem d_DiscMakerModel_isIn_18 : decode b_DiscMakerModel_isIn 18 = .ok (.ifCond .ne 7, 3) := by decide +kernel
theorem d_DiscMakerModel_isIn_21 : decode b_DiscMakerModel_isIn 21 = .ok (.iconst 1, 1) := by decide +kernel
theorem d_DiscMakerModel_isIn_22 : decode b_DiscMakerModel_isIn 22 = .ok (.goto 4, 3) := by decide +kernel
theorem d_DiscMakerModel_isIn_25 : decode b_DiscMakerModel_isIn 25 = .ok (.iconst 0, 1) := by decide +kernel
theorem d_DiscMakerModel_isIn_26 : decode b_DiscMakerModel_isIn 26 = .ok (.ireturn, 1) := by decide +kernel
set_option maxHeartbeats 4000000 in
set_option maxRecDepth 100000 in
theorem c_m_isIn (l : Launch) (D : va_G) (cB cI cJ cZ cN cF : ClassId) (sz : Nat) (h0 atext akind aparent amode aowner agroup asize aseed aname anameSize atarget atargetSize abase abaseSize aextension aextensionSize aimage atable asector asectors acontents aabove aisDirectory abytes aplace areadMode areadOwner areadGroup areadName areadNameSize areadTarget areadTargetSize adepth : Nat) (n : Int32) : Met l y_DiscMakerModel_isIn w_DiscMakerModel_isIn ({ frames := 0, cells := 0, slots := 0, locals := 0 }) (va_Pc [.ref h0, .int n] (fun U => U.heap.size = sz ∧ va_P D CL [(h0, .inr (11, [.int 0, .ref atext, .int 0, .int 1, .ref akind, .ref aparent, .ref amode, .ref aowner, .ref agroup, .ref asize, .ref aseed, .ref aname, .ref anameSize, .ref atarget, .ref atargetSize, .ref abase, .ref abaseSize, .ref aextension, .ref aextensionSize, .ref aimage, .int 0, .ref atable, .ref asector, .ref asectors, .ref acontents, .int 0, .int 0, .int 0, .int 0, .ref aabove, .ref aisDirectory, .ref abytes, .ref aplace, .ref areadMode, .ref areadOwner, .ref areadGroup, .ref areadName, .ref areadNameSize, .ref areadTarget, .ref areadTargetSize, .ref adepth, .int 0, .int 0, .int 0, .int 0, .int 0, .int 0, .int 0])), (akind, .inl (cI, 40, .inl (fun _ => 0)))] U.heap ∧ va_K D CL (TY cB cI cJ cZ cN cF) U ∧ NN U ∧ va_D (fun _ => True) [(h0, .inr (11, [.int 0, .ref atext, .int 0, .int 1, .ref akind, .ref aparent, .ref amode, .ref aowner, .ref agroup, .ref asize, .ref aseed, .ref aname, .ref anameSize, .ref atarget, .ref atargetSize, .ref abase, .ref abaseSize, .ref aextension, .ref aextensionSize, .ref aimage, .int 0, .ref atable, .ref asector, .ref asectors, .ref acontents, .int 0, .int 0, .int 0, .int 0, .ref aabove, .ref aisDirectory, .ref abytes, .ref aplace, .ref areadMode, .ref areadOwner, .ref areadGroup, .ref areadName, .ref areadNameSize, .ref areadTarget, .ref areadTargetSize, .ref adepth, .int 0, .int 0, .int 0, .int 0, .int 0, .int 0, .int 0])), (akind, .inl (cI, 40, .inl (fun _ => 0)))])) (va_Qi (fun (r : Int32) (u : Unit) => (r = 1 ∧ True) ∨ (r = 0 ∧ True)) (fun (u : Unit) (t : State) => match u with | () => va_P D CL [(h0, .inr (11, [.int 0, .ref atext, .int 0, .int 1, .ref akind, .ref aparent, .ref amode, .ref aowner, .ref agroup, .ref asize, .ref aseed, .ref aname, .ref anameSize, .ref atarget, .ref atargetSize, .ref abase, .ref abaseSize, .ref aextension, .ref aextensionSize, .ref aimage, .int 0, .ref atable, .ref asector, .ref asectors, .ref acontents, .int 0, .int 0, .int 0, .int 0, .ref aabove, .ref aisDirectory, .ref abytes, .ref aplace, .ref areadMode, .ref areadOwner, .ref areadGroup, .ref areadName, .ref areadNameSize, .ref areadTarget, .ref areadTargetSize, .ref adepth, .int 0, .int 0, .int 0, .int 0, .int 0, .int 0, .int 0])), (akind, .inl (cI, 40, .inl (fun _ => 0)))] t.heap ∧ va_D (va_A [(h0, .inr (11, [.int 0, .ref atext, .int 0, .int 1, .ref akind, .ref aparent, .ref amode, .ref aowner, .ref agroup, .ref asize, .ref aseed, .ref aname, .ref anameSize, .ref atarget, .ref atargetSize, .ref abase, .ref abaseSize, .ref aextension, .ref aextensionSize, .ref aimage, .int 0, .ref atable, .ref asector, .ref asectors, .ref acontents, .int 0, .int 0, .int 0, .int 0, .ref aabove, .ref aisDirectory, .ref abytes, .ref aplace, .ref areadMode, .ref areadOwner, .ref areadGroup, .ref areadName, .ref areadNameSize, .ref areadTarget, .ref areadTargetSize, .ref adepth, .int 0, .int 0, .int 0, .int 0, .int 0, .int 0, .int 0])), (akind, .inl (cI, 40, .inl (fun _ => 0)))] sz) [(h0, .inr (11, [.int 0, .ref atext, .int 0, .int 1, .ref akind, .ref aparent, .ref amode, .ref aowner, .ref agroup, .ref asize, .ref aseed, .ref aname, .ref anameSize, .ref atarget, .ref atargetSize, .ref abase, .ref abaseSize, .ref aextension, .ref aextensionSize, .ref aimage, .int 0, .ref atable, .ref asector, .ref asectors, .ref acontents, .int 0, .int 0, .int 0, .int 0, .ref aabove, .ref aisDirectory, .ref abytes, .ref aplace, .ref areadMode, .ref areadOwner, .ref areadGroup, .ref areadName, .ref areadNameSize, .ref areadTarget, .ref areadTargetSize, .ref adepth, .int 0, .int 0, .int 0, .int 0, .int 0, .int 0, .int 0])), (akind, .inl (cI, 40, .inl (fun _ => 0)))]) (va_A [(h0, .inr (11, [.int 0, .ref atext, .int 0, .int 1, .ref akind, .ref aparent, .ref amode, .ref aowner, .ref agroup, .ref asize, .ref aseed, .ref aname, .ref anameSize, .ref atarget, .ref atargetSize, .ref abase, .ref abaseSize, .ref aextension, .ref aextensionSize, .ref aimage, .int 0, .ref atable, .ref asector, .ref asectors, .ref acontents, .int 0, .int 0, .int 0, .int 0, .ref aabove, .ref aisDirectory, .ref abytes, .ref aplace, .ref areadMode, .ref areadOwner, .ref areadGroup, .ref areadName, .ref areadNameSize, .ref areadTarget, .ref areadTargetSize, .ref adepth, .int 0, .int 0, .int 0, .int 0, .int 0, .int 0, .int 0])), (akind, .inl (cI, 40, .inl (fun _ => 0)))] sz)) 0 0 (va_A [(h0, .inr (11, [.int 0, .ref atext, .int 0, .int 1, .ref akind, .ref aparent, .ref amode, .ref aowner, .ref agroup, .ref asize, .ref aseed, .ref aname, .ref anameSize, .ref atarget, .ref atargetSize, .ref abase, .ref abaseSize, .ref aextension, .ref aextensionSize, .ref aimage, .int 0, .ref atable, .ref asector, .ref asectors, .ref acontents, .int 0, .int 0, .int 0, .int 0, .ref aabove, .ref aisDirectory, .ref abytes, .ref aplace, .ref areadMode, .ref areadOwner, .ref areadGroup, .ref areadName, .ref areadNameSize, .ref areadTarget, .ref areadTargetSize, .ref adepth, .int 0, .int 0, .int 0, .int 0, .int 0, .int 0, .int 0])), (akind, .inl (cI, 40, .inl (fun _ => 0)))] sz) := by
  refine Met.ofW (cc := b_DiscMakerModel_isIn) (maxL := 2) (ret := some .boolean) (by decide) rfl ?_
  intro p e s m args below meth c s₁ B hml hv
  obtain ⟨rfl, hsz, hP, hK, hN, hD0⟩ := hv
  have hx := B.exec
  have hb := B.bytes
  have hr := B.returns
  have hts := atoms_spec (ws := w_DiscMakerModel_isIn) B.pre
  have ht9 := fun (w : Cond) (h : w ∈ lw_g) => hts w (List.mem_cons_of_mem _ h)
  have hown : s.vm.findClass "DiscMakerModel" = some m.cls := findClass_of_methodNamed B.named
  have hlocks := B.notSynchronized
  subst hsz
  have hD := hD0.self (sz := s.heap.size)
  generalize hAe : va_A [(h0, .inr (11, [.int 0, .ref atext, .int 0, .int 1, .ref akind, .ref aparent, .ref amode, .ref aowner, .ref agroup, .ref asize, .ref aseed, .ref aname, .ref anameSize, .ref atarget, .ref atargetSize, .ref abase, .ref abaseSize, .ref aextension, .ref aextensionSize, .ref aimage, .int 0, .ref atable, .ref asector, .ref asectors, .ref acontents, .int 0, .int 0, .int 0, .int 0, .ref aabove, .ref aisDirectory, .ref abytes, .ref aplace, .ref areadMode, .ref areadOwner, .ref areadGroup, .ref areadName, .ref areadNameSize, .ref areadTarget, .ref areadTargetSize, .ref adepth, .int 0, .int 0, .int 0, .int 0, .int 0, .int 0, .int 0])), (akind, .inl (cI, 40, .inl (fun _ => 0)))] s.heap.size = A at hD ⊢
  have hA : ∀ q : Nat, s.heap.size ≤ q → A q := fun q h => by rw [← hAe]; exact Or.inr h
  have hS : va_S A s.heap s.heap [] := va_S.rf
  have hP : va_P D CL [(h0, .inr (11, [.int 0, .ref atext, .int 0, .int 1, .ref akind, .ref aparent, .ref amode, .ref aowner, .ref agroup, .ref asize, .ref aseed, .ref aname, .ref anameSize, .ref atarget, .ref atargetSize, .ref abase, .ref abaseSize, .ref aextension, .ref aextensionSize, .ref aimage, .int 0, .ref atable, .ref asector, .ref asectors, .ref acontents, .int 0, .int 0, .int 0, .int 0, .ref aabove, .ref aisDirectory, .ref abytes, .ref aplace, .ref areadMode, .ref areadOwner, .ref areadGroup, .ref areadName, .ref areadNameSize, .ref areadTarget, .ref areadTargetSize, .ref adepth, .int 0, .int 0, .int 0, .int 0, .int 0, .int 0, .int 0])), (akind, .inl (cI, 40, .inl (fun _ => 0)))] s.heap := hP
  have hl := lv_entry [.ref h0, .int n] (n := 2) (Nat.le_of_ble_eq_true rfl)
  rw [lg_entry_eq]
  generalize (lg_sl [.ref h0, .int n] ++ List.replicate (2 - (lg_sl [.ref h0, .int n]).length) Slot.unset).toArray = ls at hl ⊢
  have hl : lv_has ls 2 [(0, .ref h0), (1, .int n)] := hl
  refine lv_iload_n hx hb d_DiscMakerModel_isIn_0 rfl (lv_at hl 1 rfl) ?_
  refine lv_if_lt (tgt := 25) hx hb d_DiscMakerModel_isIn_1 (by decide) (fun h_1 => ?_) (fun h_1 => ?_)
  · skip
    refine lv_iconst (v := 0) hx hb d_DiscMakerModel_isIn_25 (by decide) ?_
    have hP9 := hP.sub (ws' := [(h0, .inr (11, [.int 0, .ref atext, .int 0, .int 1, .ref akind, .ref aparent, .ref amode, .ref aowner, .ref agroup, .ref asize, .ref aseed, .ref aname, .ref anameSize, .ref atarget, .ref atargetSize, .ref abase, .ref abaseSize, .ref aextension, .ref aextensionSize, .ref aimage, .int 0, .ref atable, .ref asector, .ref asectors, .ref acontents, .int 0, .int 0, .int 0, .int 0, .ref aabove, .ref aisDirectory, .ref abytes, .ref aplace, .ref areadMode, .ref areadOwner, .ref areadGroup, .ref areadName, .ref areadNameSize, .ref areadTarget, .ref areadTargetSize, .ref adepth, .int 0, .int 0, .int 0, .int 0, .int 0, .int 0, .int 0])), (akind, .inl (cI, 40, .inl (fun _ => 0)))]) [0, 1] rfl
    have hD9 := hD.sub (ws' := [(h0, .inr (11, [.int 0, .ref atext, .int 0, .int 1, .ref akind, .ref aparent, .ref amode, .ref aowner, .ref agroup, .ref asize, .ref aseed, .ref aname, .ref anameSize, .ref atarget, .ref atargetSize, .ref abase, .ref abaseSize, .ref aextension, .ref aextensionSize, .ref aimage, .int 0, .ref atable, .ref asector, .ref asectors, .ref acontents, .int 0, .int 0, .int 0, .int 0, .ref aabove, .ref aisDirectory, .ref abytes, .ref aplace, .ref areadMode, .ref areadOwner, .ref areadGroup, .ref areadName, .ref areadNameSize, .ref areadTarget, .ref areadTargetSize, .ref adepth, .int 0, .int 0, .int 0, .int 0, .int 0, .int 0, .int 0])), (akind, .inl (cI, 40, .inl (fun _ => 0)))]) [0, 1] (by decide) rfl
    exact W.zret (v := 0) hx hb hr (by first | rfl | decide) (fun t ht hW => ⟨⟨0, (), rfl, by first | exact Or.inl ⟨rfl, trivial⟩ | exact Or.inr ⟨rfl, trivial⟩, by rw [ht]; exact hP9, hD9⟩, hS.F ht⟩) hS.2.2 d_DiscMakerModel_isIn_26
  · skip
    refine lv_iload_n hx hb d_DiscMakerModel_isIn_4 rfl (lv_at hl 1 rfl) ?_
    refine lv_aload_n hx hb d_DiscMakerModel_isIn_5 rfl (lv_at hl 0 rfl) ?_
    refine va_get (D := D) (ci := 11) (v := .int 1) (C := "DiscMakerModel") (T := F_DiscMakerModel) (N := 48) hx hb ht9 in_DiscMakerModel hown hK hP 0 rfl rfl 3 (by decide) (ht9 _ k1434) (fun _ h9 => h9) rfl d_DiscMakerModel_isIn_6 ?_
    refine lv_icmp_ge (tgt := 25) hx hb d_DiscMakerModel_isIn_9 (by decide) (fun h_9 => ?_) (fun h_9 => ?_)
    · skip
      refine lv_iconst (v := 0) hx hb d_DiscMakerModel_isIn_25 (by decide) ?_
      have hP9 := hP.sub (ws' := [(h0, .inr (11, [.int 0, .ref atext, .int 0, .int 1, .ref akind, .ref aparent, .ref amode, .ref aowner, .ref agroup, .ref asize, .ref aseed, .ref aname, .ref anameSize, .ref atarget, .ref atargetSize, .ref abase, .ref abaseSize, .ref aextension, .ref aextensionSize, .ref aimage, .int 0, .ref atable, .ref asector, .ref asectors, .ref acontents, .int 0, .int 0, .int 0, .int 0, .ref aabove, .ref aisDirectory, .ref abytes, .ref aplace, .ref areadMode, .ref areadOwner, .ref areadGroup, .ref areadName, .ref areadNameSize, .ref areadTarget, .ref areadTargetSize, .ref adepth, .int 0, .int 0, .int 0, .int 0, .int 0, .int 0, .int 0])), (akind, .inl (cI, 40, .inl (fun _ => 0)))]) [0, 1] rfl
      have hD9 := hD.sub (ws' := [(h0, .inr (11, [.int 0, .ref atext, .int 0, .int 1, .ref akind, .ref aparent, .ref amode, .ref aowner, .ref agroup, .ref asize, .ref aseed, .ref aname, .ref anameSize, .ref atarget, .ref atargetSize, .ref abase, .ref abaseSize, .ref aextension, .ref aextensionSize, .ref aimage, .int 0, .ref atable, .ref asector, .ref asectors, .ref acontents, .int 0, .int 0, .int 0, .int 0, .ref aabove, .ref aisDirectory, .ref abytes, .ref aplace, .ref areadMode, .ref areadOwner, .ref areadGroup, .ref areadName, .ref areadNameSize, .ref areadTarget, .ref areadTargetSize, .ref adepth, .int 0, .int 0, .int 0, .int 0, .int 0, .int 0, .int 0])), (akind, .inl (cI, 40, .inl (fun _ => 0)))]) [0, 1] (by decide) rfl
      exact W.zret (v := 0) hx hb hr (by first | rfl | decide) (fun t ht hW => ⟨⟨0, (), rfl, by first | exact Or.inl ⟨rfl, trivial⟩ | exact Or.inr ⟨rfl, trivial⟩, by rw [ht]; exact hP9, hD9⟩, hS.F ht⟩) hS.2.2 d_DiscMakerModel_isIn_26
    · skip
      have hn0 : n = 0 := z_eq0 h_1 h_9
      subst hn0
      refine lv_aload_n hx hb d_DiscMakerModel_isIn_12 rfl (lv_at hl 0 rfl) ?_
      refine va_get (D := D) (ci := 11) (v := .ref akind) (C := "DiscMakerModel") (T := F_DiscMakerModel) (N := 48) hx hb ht9 in_DiscMakerModel hown hK hP 0 rfl rfl 4 (by decide) (ht9 _ k1435) (fun _ h9 => h9) rfl d_DiscMakerModel_isIn_13 ?_
      refine lv_iload_n hx hb d_DiscMakerModel_isIn_16 rfl (lv_at hl 1 rfl) ?_
      refine va_iald hx hb hK hP 1 1 rfl rfl (by unfold vp_in; decide) d_DiscMakerModel_isIn_17 ?_
      refine W.eq (g2 := F0 m 18 ls [.int 0]) rfl ?_
      refine lv_if_ne (tgt := 25) hx hb d_DiscMakerModel_isIn_18 (by decide) (fun h_18 => absurd (by decide) h_18) (fun h_18 => ?_)
      refine lv_iconst (v := 1) hx hb d_DiscMakerModel_isIn_21 (by decide) ?_
      refine lv_goto (tgt := 26) hx hb d_DiscMakerModel_isIn_22 (by decide) ?_
      have hP9 := hP.sub (ws' := [(h0, .inr (11, [.int 0, .ref atext, .int 0, .int 1, .ref akind, .ref aparent, .ref amode, .ref aowner, .ref agroup, .ref asize, .ref aseed, .ref aname, .ref anameSize, .ref atarget, .ref atargetSize, .ref abase, .ref abaseSize, .ref aextension, .ref aextensionSize, .ref aimage, .int 0, .ref atable, .ref asector, .ref asectors, .ref acontents, .int 0, .int 0, .int 0, .int 0, .ref aabove, .ref aisDirectory, .ref abytes, .ref aplace, .ref areadMode, .ref areadOwner, .ref areadGroup, .ref areadName, .ref areadNameSize, .ref areadTarget, .ref areadTargetSize, .ref adepth, .int 0, .int 0, .int 0, .int 0, .int 0, .int 0, .int 0])), (akind, .inl (cI, 40, .inl (fun _ => 0)))]) [0, 1] rfl
      have hD9 := hD.sub (ws' := [(h0, .inr (11, [.int 0, .ref atext, .int 0, .int 1, .ref akind, .ref aparent, .ref amode, .ref aowner, .ref agroup, .ref asize, .ref aseed, .ref aname, .ref anameSize, .ref atarget, .ref atargetSize, .ref abase, .ref abaseSize, .ref aextension, .ref aextensionSize, .ref aimage, .int 0, .ref atable, .ref asector, .ref asectors, .ref acontents, .int 0, .int 0, .int 0, .int 0, .ref aabove, .ref aisDirectory, .ref abytes, .ref aplace, .ref areadMode, .ref areadOwner, .ref areadGroup, .ref areadName, .ref areadNameSize, .ref areadTarget, .ref areadTargetSize, .ref adepth, .int 0, .int 0, .int 0, .int 0, .int 0, .int 0, .int 0])), (akind, .inl (cI, 40, .inl (fun _ => 0)))]) [0, 1] (by decide) rfl
      exact W.zret (v := 1) hx hb hr (by first | rfl | decide) (fun t ht hW => ⟨⟨1, (), rfl, by first | exact Or.inl ⟨rfl, trivial⟩ | exact Or.inr ⟨rfl, trivial⟩, by rw [ht]; exact hP9, hD9⟩, hS.F ht⟩) hS.2.2 d_DiscMakerModel_isIn_26

theorem d_DiscMakerModel_isName_0 : decode b_DiscMakerModel_isName 0 = .ok (.iload_n 1, 1) := by decide +kernel
theorem d_DiscMakerModel_isName_1 : decode b_DiscMakerModel_isName 1 = .ok (.iconst 1, 1) := by decide +kernel
theorem d_DiscMakerModel_isName_2 : decode b_DiscMakerModel_isName 2 = .ok (.if_icmp .lt 45, 3) := by decide +kernel
theorem d_DiscMakerModel_isName_47 : decode b_DiscMakerModel_isName 47 = .ok (.iconst 0, 1) := by decide +kernel
theorem d_DiscMakerModel_isName_48 : decode b_DiscMakerModel_isName 48 = .ok (.istore_n 2, 1) := by decide +kernel
theorem d_DiscMakerModel_isName_49 : decode b_DiscMakerModel_isName 49 = .ok (.iconst 0, 1) := by decide +kernel
theorem d_DiscMakerModel_isName_50 : decode b_DiscMakerModel_isName 50 = .ok (.istore_n 3, 1) := by decide +kernel
theorem d_DiscMakerModel_isName_51 : decode b_DiscMakerModel_isName 51 = .ok (.iload_n 3, 1) := by decide +kernel
theorem d_DiscMakerModel_isName_52 : decode b_DiscMakerModel_isName 52 = .ok (.iload_n 1, 1) := by decide +kernel
theorem d_DiscMakerModel_isName_53 : decode b_DiscMakerModel_isName 53 = .ok (.if_icmp .ge 71, 3) := by decide +kernel
theorem d_DiscMakerModel_isName_124 : decode b_DiscMakerModel_isName 124 = .ok (.iload_n 2, 1) := by decide +kernel
theorem d_DiscMakerModel_isName_125 : decode b_DiscMakerModel_isName 125 = .ok (.ireturn, 1) := by decide +kernel
set_option maxHeartbeats 4000000 in
set_option maxRecDepth 100000 in
theorem c_m_isName (l : Launch) (D : va_G) (cB cI cJ cZ cN cF : ClassId) (sz : Nat) (h0 atext akind aparent amode aowner agroup asize aseed aname anameSize atarget atargetSize abase abaseSize aextension aextensionSize aimage atable asector asectors acontents aabove aisDirectory abytes aplace areadMode areadOwner areadGroup areadName areadNameSize areadTarget areadTargetSize adepth : Nat) : Met l y_DiscMakerModel_isName w_DiscMakerModel_isName ({ frames := 0, cells := 0, slots := 0, locals := 0 }) (va_Pc [.ref h0, .int 0] (fun U => U.heap.size = sz ∧ va_P D CL [(h0, .inr (11, [.int 0, .ref atext, .int 0, .int 1, .ref akind, .ref aparent, .ref amode, .ref aowner, .ref agroup, .ref asize, .ref aseed, .ref aname, .ref anameSize, .ref atarget, .ref atargetSize, .ref abase, .ref abaseSize, .ref aextension, .ref aextensionSize, .ref aimage, .int 0, .ref atable, .ref asector, .ref asectors, .ref acontents, .int 0, .int 0, .int 0, .int 0, .ref aabove, .ref aisDirectory, .ref abytes, .ref aplace, .ref areadMode, .ref areadOwner, .ref areadGroup, .ref areadName, .ref areadNameSize, .ref areadTarget, .ref areadTargetSize, .ref adepth, .int 0, .int 0, .int 0, .int 0, .int 0, .int 0, .int 0]))] U.heap ∧ va_K D CL (TY cB cI cJ cZ cN cF) U ∧ NN U ∧ va_D (fun _ => True) [(h0, .inr (11, [.int 0, .ref atext, .int 0, .int 1, .ref akind, .ref aparent, .ref amode, .ref aowner, .ref agroup, .ref asize, .ref aseed, .ref aname, .ref anameSize, .ref atarget, .ref atargetSize, .ref abase, .ref abaseSize, .ref aextension, .ref aextensionSize, .ref aimage, .int 0, .ref atable, .ref asector, .ref asectors, .ref acontents, .int 0, .int 0, .int 0, .int 0, .ref aabove, .ref aisDirectory, .ref abytes, .ref aplace, .ref areadMode, .ref areadOwner, .ref areadGroup, .ref areadName, .ref areadNameSize, .ref areadTarget, .ref areadTargetSize, .ref adepth, .int 0, .int 0, .int 0, .int 0, .int 0, .int 0, .int 0]))])) (va_Qi (fun (r : Int32) (u : Unit) => r = 0) (fun (u : Unit) (t : State) => match u with | () => va_P D CL [(h0, .inr (11, [.int 0, .ref atext, .int 0, .int 1, .ref akind, .ref aparent, .ref amode, .ref aowner, .ref agroup, .ref asize, .ref aseed, .ref aname, .ref anameSize, .ref atarget, .ref atargetSize, .ref abase, .ref abaseSize, .ref aextension, .ref aextensionSize, .ref aimage, .int 0, .ref atable, .ref asector, .ref asectors, .ref acontents, .int 0, .int 0, .int 0, .int 0, .ref aabove, .ref aisDirectory, .ref abytes, .ref aplace, .ref areadMode, .ref areadOwner, .ref areadGroup, .ref areadName, .ref areadNameSize, .ref areadTarget, .ref areadTargetSize, .ref adepth, .int 0, .int 0, .int 0, .int 0, .int 0, .int 0, .int 0]))] t.heap ∧ va_D (va_A [(h0, .inr (11, [.int 0, .ref atext, .int 0, .int 1, .ref akind, .ref aparent, .ref amode, .ref aowner, .ref agroup, .ref asize, .ref aseed, .ref aname, .ref anameSize, .ref atarget, .ref atargetSize, .ref abase, .ref abaseSize, .ref aextension, .ref aextensionSize, .ref aimage, .int 0, .ref atable, .ref asector, .ref asectors, .ref acontents, .int 0, .int 0, .int 0, .int 0, .ref aabove, .ref aisDirectory, .ref abytes, .ref aplace, .ref areadMode, .ref areadOwner, .ref areadGroup, .ref areadName, .ref areadNameSize, .ref areadTarget, .ref areadTargetSize, .ref adepth, .int 0, .int 0, .int 0, .int 0, .int 0, .int 0, .int 0]))] sz) [(h0, .inr (11, [.int 0, .ref atext, .int 0, .int 1, .ref akind, .ref aparent, .ref amode, .ref aowner, .ref agroup, .ref asize, .ref aseed, .ref aname, .ref anameSize, .ref atarget, .ref atargetSize, .ref abase, .ref abaseSize, .ref aextension, .ref aextensionSize, .ref aimage, .int 0, .ref atable, .ref asector, .ref asectors, .ref acontents, .int 0, .int 0, .int 0, .int 0, .ref aabove, .ref aisDirectory, .ref abytes, .ref aplace, .ref areadMode, .ref areadOwner, .ref areadGroup, .ref areadName, .ref areadNameSize, .ref areadTarget, .ref areadTargetSize, .ref adepth, .int 0, .int 0, .int 0, .int 0, .int 0, .int 0, .int 0]))]) (va_A [(h0, .inr (11, [.int 0, .ref atext, .int 0, .int 1, .ref akind, .ref aparent, .ref amode, .ref aowner, .ref agroup, .ref asize, .ref aseed, .ref aname, .ref anameSize, .ref atarget, .ref atargetSize, .ref abase, .ref abaseSize, .ref aextension, .ref aextensionSize, .ref aimage, .int 0, .ref atable, .ref asector, .ref asectors, .ref acontents, .int 0, .int 0, .int 0, .int 0, .ref aabove, .ref aisDirectory, .ref abytes, .ref aplace, .ref areadMode, .ref areadOwner, .ref areadGroup, .ref areadName, .ref areadNameSize, .ref areadTarget, .ref areadTargetSize, .ref adepth, .int 0, .int 0, .int 0, .int 0, .int 0, .int 0, .int 0]))] sz)) 0 0 (va_A [(h0, .inr (11, [.int 0, .ref atext, .int 0, .int 1, .ref akind, .ref aparent, .ref amode, .ref aowner, .ref agroup, .ref asize, .ref aseed, .ref aname, .ref anameSize, .ref atarget, .ref atargetSize, .ref abase, .ref abaseSize, .ref aextension, .ref aextensionSize, .ref aimage, .int 0, .ref atable, .ref asector, .ref asectors, .ref acontents, .int 0, .int 0, .int 0, .int 0, .ref aabove, .ref aisDirectory, .ref abytes, .ref aplace, .ref areadMode, .ref areadOwner, .ref areadGroup, .ref areadName, .ref areadNameSize, .ref areadTarget, .ref areadTargetSize, .ref adepth, .int 0, .int 0, .int 0, .int 0, .int 0, .int 0, .int 0]))] sz) := by
  refine Met.ofW (cc := b_DiscMakerModel_isName) (maxL := 5) (ret := some .boolean) (by decide) rfl ?_
  intro p e s m args below meth c s₁ B hml hv
  obtain ⟨rfl, hsz, hP, hK, hN, hD0⟩ := hv
  have hx := B.exec
  have hb := B.bytes
  have hr := B.returns
  have hts := atoms_spec (ws := w_DiscMakerModel_isName) B.pre
  have ht9 := fun (w : Cond) (h : w ∈ lw_g) => hts w (List.mem_cons_of_mem _ h)
  have hown : s.vm.findClass "DiscMakerModel" = some m.cls := findClass_of_methodNamed B.named
  have hlocks := B.notSynchronized
  subst hsz
  have hD := hD0.self (sz := s.heap.size)
  generalize hAe : va_A [(h0, .inr (11, [.int 0, .ref atext, .int 0, .int 1, .ref akind, .ref aparent, .ref amode, .ref aowner, .ref agroup, .ref asize, .ref aseed, .ref aname, .ref anameSize, .ref atarget, .ref atargetSize, .ref abase, .ref abaseSize, .ref aextension, .ref aextensionSize, .ref aimage, .int 0, .ref atable, .ref asector, .ref asectors, .ref acontents, .int 0, .int 0, .int 0, .int 0, .ref aabove, .ref aisDirectory, .ref abytes, .ref aplace, .ref areadMode, .ref areadOwner, .ref areadGroup, .ref areadName, .ref areadNameSize, .ref areadTarget, .ref areadTargetSize, .ref adepth, .int 0, .int 0, .int 0, .int 0, .int 0, .int 0, .int 0]))] s.heap.size = A at hD ⊢
  have hA : ∀ q : Nat, s.heap.size ≤ q → A q := fun q h => by rw [← hAe]; exact Or.inr h
  have hS : va_S A s.heap s.heap [] := va_S.rf
  have hP : va_P D CL [(h0, .inr (11, [.int 0, .ref atext, .int 0, .int 1, .ref akind, .ref aparent, .ref amode, .ref aowner, .ref agroup, .ref asize, .ref aseed, .ref aname, .ref anameSize, .ref atarget, .ref atargetSize, .ref abase, .ref abaseSize, .ref aextension, .ref aextensionSize, .ref aimage, .int 0, .ref atable, .ref asector, .ref asectors, .ref acontents, .int 0, .int 0, .int 0, .int 0, .ref aabove, .ref aisDirectory, .ref abytes, .ref aplace, .ref areadMode, .ref areadOwner, .ref areadGroup, .ref areadName, .ref areadNameSize, .ref areadTarget, .ref areadTargetSize, .ref adepth, .int 0, .int 0, .int 0, .int 0, .int 0, .int 0, .int 0]))] s.heap := hP
  have hl := lv_entry [.ref h0, .int 0] (n := 5) (Nat.le_of_ble_eq_true rfl)
  rw [lg_entry_eq]
  generalize (lg_sl [.ref h0, .int 0] ++ List.replicate (5 - (lg_sl [.ref h0, .int 0]).length) Slot.unset).toArray = ls at hl ⊢
  have hl : lv_has ls 5 [(0, .ref h0), (1, .int 0)] := hl
  refine lv_iload_n hx hb d_DiscMakerModel_isName_0 rfl (lv_at hl 1 rfl) ?_
  refine lv_iconst (v := 1) hx hb d_DiscMakerModel_isName_1 (by decide) ?_
  refine lv_icmp_lt (tgt := 47) hx hb d_DiscMakerModel_isName_2 (by decide) (fun h_2 => ?_) (fun h_2 => absurd (by decide) h_2)
  refine lv_iconst (v := 0) hx hb d_DiscMakerModel_isName_47 (by decide) ?_
  refine lv_istore_n hx hb d_DiscMakerModel_isName_48 rfl hl (by decide) rfl (fun ls hl => ?_)
  have hl : lv_has ls 5 [(2, .int 0), (0, .ref h0), (1, .int 0)] := hl
  refine lv_iconst (v := 0) hx hb d_DiscMakerModel_isName_49 (by decide) ?_
  refine lv_istore_n hx hb d_DiscMakerModel_isName_50 rfl hl (by decide) rfl (fun ls hl => ?_)
  have hl : lv_has ls 5 [(3, .int 0), (2, .int 0), (0, .ref h0), (1, .int 0)] := hl
  refine lv_iload_n hx hb d_DiscMakerModel_isName_51 rfl (lv_at hl 0 rfl) ?_
  refine lv_iload_n hx hb d_DiscMakerModel_isName_52 rfl (lv_at hl 3 rfl) ?_
  refine lv_icmp_ge (tgt := 124) hx hb d_DiscMakerModel_isName_53 (by decide) (fun h_53 => ?_) (fun h_53 => absurd (by decide) h_53)
  refine lv_iload_n hx hb d_DiscMakerModel_isName_124 rfl (lv_at hl 1 rfl) ?_
  have hP9 := hP.sub (ws' := [(h0, .inr (11, [.int 0, .ref atext, .int 0, .int 1, .ref akind, .ref aparent, .ref amode, .ref aowner, .ref agroup, .ref asize, .ref aseed, .ref aname, .ref anameSize, .ref atarget, .ref atargetSize, .ref abase, .ref abaseSize, .ref aextension, .ref aextensionSize, .ref aimage, .int 0, .ref atable, .ref asector, .ref asectors, .ref acontents, .int 0, .int 0, .int 0, .int 0, .ref aabove, .ref aisDirectory, .ref abytes, .ref aplace, .ref areadMode, .ref areadOwner, .ref areadGroup, .ref areadName, .ref areadNameSize, .ref areadTarget, .ref areadTargetSize, .ref adepth, .int 0, .int 0, .int 0, .int 0, .int 0, .int 0, .int 0]))]) [0] rfl
  have hD9 := hD.sub (ws' := [(h0, .inr (11, [.int 0, .ref atext, .int 0, .int 1, .ref akind, .ref aparent, .ref amode, .ref aowner, .ref agroup, .ref asize, .ref aseed, .ref aname, .ref anameSize, .ref atarget, .ref atargetSize, .ref abase, .ref abaseSize, .ref aextension, .ref aextensionSize, .ref aimage, .int 0, .ref atable, .ref asector, .ref asectors, .ref acontents, .int 0, .int 0, .int 0, .int 0, .ref aabove, .ref aisDirectory, .ref abytes, .ref aplace, .ref areadMode, .ref areadOwner, .ref areadGroup, .ref areadName, .ref areadNameSize, .ref areadTarget, .ref areadTargetSize, .ref adepth, .int 0, .int 0, .int 0, .int 0, .int 0, .int 0, .int 0]))]) [0] (by decide) rfl
  exact W.zret (v := 0) hx hb hr (by first | rfl | decide) (fun t ht hW => ⟨⟨0, (), rfl, rfl, by rw [ht]; exact hP9, hD9⟩, hS.F ht⟩) hS.2.2 d_DiscMakerModel_isName_125

theorem d_DiscMakerModel_add_0 : decode b_DiscMakerModel_add 0 = .ok (.aload_n 0, 1) := by decide +kernel
theorem d_DiscMakerModel_add_1 : decode b_DiscMakerModel_add 1 = .ok (.getfield 121, 3) := by decide +kernel
theorem d_DiscMakerModel_add_4 : decode b_DiscMakerModel_add 4 = .ok (.istore 5, 2) := by decide +kernel
theorem d_DiscMakerModel_add_6 : decode b_DiscMakerModel_add 6 = .ok (.aload_n 0, 1) := by decide +kernel
theorem d_DiscMakerModel_add_7 : decode b_DiscMakerModel_add 7 = .ok (.iconst 0, 1) := by decide +kernel
theorem d_DiscMakerModel_add_8 : decode b_DiscMakerModel_add 8 = .ok (.putfield 121, 3) := by decide +kernel
theorem d_DiscMakerModel_add_11 : decode b_DiscMakerModel_add 11 = .ok (.iload 4, 2) := by decide +kernel
theorem d_DiscMakerModel_add_13 : decode b_DiscMakerModel_add 13 = .ok (.ifCond .eq 19, 3) := by decide +kernel
theorem d_DiscMakerModel_add_32 : decode b_DiscMakerModel_add 32 = .ok (.bipush (-4), 2) := by decide +kernel
theorem d_DiscMakerModel_add_34 : decode b_DiscMakerModel_add 34 = .ok (.ireturn, 1) := by decide +kernel
set_option maxHeartbeats 4000000 in
set_option maxRecDepth 100000 in
theorem c_m_add0 (l : Launch) (D : va_G) (cB cI cJ cZ cN cF : ClassId) (sz : Nat) (h0 atext akind aparent amode aowner agroup asize aseed aname anameSize atarget atargetSize abase abaseSize aextension aextensionSize aimage atable asector asectors acontents aabove aisDirectory abytes aplace areadMode areadOwner areadGroup areadName areadNameSize areadTarget areadTargetSize adepth : Nat) (n so : Int32) : Met l y_DiscMakerModel_add w_DiscMakerModel_add ({ frames := 0, cells := 0, slots := 0, locals := 0 }) (va_Pc [.ref h0, .int n, .int so, .int 0, .int 0] (fun U => U.heap.size = sz ∧ va_P D CL [(h0, .inr (11, [.int 0, .ref atext, .int 0, .int 1, .ref akind, .ref aparent, .ref amode, .ref aowner, .ref agroup, .ref asize, .ref aseed, .ref aname, .ref anameSize, .ref atarget, .ref atargetSize, .ref abase, .ref abaseSize, .ref aextension, .ref aextensionSize, .ref aimage, .int 0, .ref atable, .ref asector, .ref asectors, .ref acontents, .int 0, .int 0, .int 0, .int 0, .ref aabove, .ref aisDirectory, .ref abytes, .ref aplace, .ref areadMode, .ref areadOwner, .ref areadGroup, .ref areadName, .ref areadNameSize, .ref areadTarget, .ref areadTargetSize, .ref adepth, .int 0, .int 0, .int 0, .int 0, .int 0, .int 0, .int 0])), (akind, .inl (cI, 40, .inl (fun _ => 0)))] U.heap ∧ va_K D CL (TY cB cI cJ cZ cN cF) U ∧ NN U ∧ va_D (fun _ => True) [(h0, .inr (11, [.int 0, .ref atext, .int 0, .int 1, .ref akind, .ref aparent, .ref amode, .ref aowner, .ref agroup, .ref asize, .ref aseed, .ref aname, .ref anameSize, .ref atarget, .ref atargetSize, .ref abase, .ref abaseSize, .ref aextension, .ref aextensionSize, .ref aimage, .int 0, .ref atable, .ref asector, .ref asectors, .ref acontents, .int 0, .int 0, .int 0, .int 0, .ref aabove, .ref aisDirectory, .ref abytes, .ref aplace, .ref areadMode, .ref areadOwner, .ref areadGroup, .ref areadName, .ref areadNameSize, .ref areadTarget, .ref areadTargetSize, .ref adepth, .int 0, .int 0, .int 0, .int 0, .int 0, .int 0, .int 0])), (akind, .inl (cI, 40, .inl (fun _ => 0)))])) (va_Qi (fun (r : Int32) (u : Unit) => r = (-4)) (fun (u : Unit) (t : State) => match u with | () => va_P D CL [] t.heap ∧ va_D (va_A [(h0, .inr (11, [.int 0, .ref atext, .int 0, .int 1, .ref akind, .ref aparent, .ref amode, .ref aowner, .ref agroup, .ref asize, .ref aseed, .ref aname, .ref anameSize, .ref atarget, .ref atargetSize, .ref abase, .ref abaseSize, .ref aextension, .ref aextensionSize, .ref aimage, .int 0, .ref atable, .ref asector, .ref asectors, .ref acontents, .int 0, .int 0, .int 0, .int 0, .ref aabove, .ref aisDirectory, .ref abytes, .ref aplace, .ref areadMode, .ref areadOwner, .ref areadGroup, .ref areadName, .ref areadNameSize, .ref areadTarget, .ref areadTargetSize, .ref adepth, .int 0, .int 0, .int 0, .int 0, .int 0, .int 0, .int 0])), (akind, .inl (cI, 40, .inl (fun _ => 0)))] sz) []) (va_A [(h0, .inr (11, [.int 0, .ref atext, .int 0, .int 1, .ref akind, .ref aparent, .ref amode, .ref aowner, .ref agroup, .ref asize, .ref aseed, .ref aname, .ref anameSize, .ref atarget, .ref atargetSize, .ref abase, .ref abaseSize, .ref aextension, .ref aextensionSize, .ref aimage, .int 0, .ref atable, .ref asector, .ref asectors, .ref acontents, .int 0, .int 0, .int 0, .int 0, .ref aabove, .ref aisDirectory, .ref abytes, .ref aplace, .ref areadMode, .ref areadOwner, .ref areadGroup, .ref areadName, .ref areadNameSize, .ref areadTarget, .ref areadTargetSize, .ref adepth, .int 0, .int 0, .int 0, .int 0, .int 0, .int 0, .int 0])), (akind, .inl (cI, 40, .inl (fun _ => 0)))] sz)) 0 0 (va_A [(h0, .inr (11, [.int 0, .ref atext, .int 0, .int 1, .ref akind, .ref aparent, .ref amode, .ref aowner, .ref agroup, .ref asize, .ref aseed, .ref aname, .ref anameSize, .ref atarget, .ref atargetSize, .ref abase, .ref abaseSize, .ref aextension, .ref aextensionSize, .ref aimage, .int 0, .ref atable, .ref asector, .ref asectors, .ref acontents, .int 0, .int 0, .int 0, .int 0, .ref aabove, .ref aisDirectory, .ref abytes, .ref aplace, .ref areadMode, .ref areadOwner, .ref areadGroup, .ref areadName, .ref areadNameSize, .ref areadTarget, .ref areadTargetSize, .ref adepth, .int 0, .int 0, .int 0, .int 0, .int 0, .int 0, .int 0])), (akind, .inl (cI, 40, .inl (fun _ => 0)))] sz) := by
  refine Met.ofW (cc := b_DiscMakerModel_add) (maxL := 8) (ret := some .int) (by decide) rfl ?_
  intro p e s m args below meth c s₁ B hml hv
  obtain ⟨rfl, hsz, hP, hK, hN, hD0⟩ := hv
  have hx := B.exec
  have hb := B.bytes
  have hr := B.returns
  have hts := atoms_spec (ws := w_DiscMakerModel_add) B.pre
  have ht9 := fun (w : Cond) (h : w ∈ lw_g) => hts w (List.mem_cons_of_mem _ h)
  have hown : s.vm.findClass "DiscMakerModel" = some m.cls := findClass_of_methodNamed B.named
  have hlocks := B.notSynchronized
  subst hsz
  have hD := hD0.self (sz := s.heap.size)
  generalize hAe : va_A [(h0, .inr (11, [.int 0, .ref atext, .int 0, .int 1, .ref akind, .ref aparent, .ref amode, .ref aowner, .ref agroup, .ref asize, .ref aseed, .ref aname, .ref anameSize, .ref atarget, .ref atargetSize, .ref abase, .ref abaseSize, .ref aextension, .ref aextensionSize, .ref aimage, .int 0, .ref atable, .ref asector, .ref asectors, .ref acontents, .int 0, .int 0, .int 0, .int 0, .ref aabove, .ref aisDirectory, .ref abytes, .ref aplace, .ref areadMode, .ref areadOwner, .ref areadGroup, .ref areadName, .ref areadNameSize, .ref areadTarget, .ref areadTargetSize, .ref adepth, .int 0, .int 0, .int 0, .int 0, .int 0, .int 0, .int 0])), (akind, .inl (cI, 40, .inl (fun _ => 0)))] s.heap.size = A at hD ⊢
  have hA : ∀ q : Nat, s.heap.size ≤ q → A q := fun q h => by rw [← hAe]; exact Or.inr h
  have hS : va_S A s.heap s.heap [] := va_S.rf
  have hP : va_P D CL [(h0, .inr (11, [.int 0, .ref atext, .int 0, .int 1, .ref akind, .ref aparent, .ref amode, .ref aowner, .ref agroup, .ref asize, .ref aseed, .ref aname, .ref anameSize, .ref atarget, .ref atargetSize, .ref abase, .ref abaseSize, .ref aextension, .ref aextensionSize, .ref aimage, .int 0, .ref atable, .ref asector, .ref asectors, .ref acontents, .int 0, .int 0, .int 0, .int 0, .ref aabove, .ref aisDirectory, .ref abytes, .ref aplace, .ref areadMode, .ref areadOwner, .ref areadGroup, .ref areadName, .ref areadNameSize, .ref areadTarget, .ref areadTargetSize, .ref adepth, .int 0, .int 0, .int 0, .int 0, .int 0, .int 0, .int 0])), (akind, .inl (cI, 40, .inl (fun _ => 0)))] s.heap := hP
  have hl := lv_entry [.ref h0, .int n, .int so, .int 0, .int 0] (n := 8) (Nat.le_of_ble_eq_true rfl)
  rw [lg_entry_eq]
  generalize (lg_sl [.ref h0, .int n, .int so, .int 0, .int 0] ++ List.replicate (8 - (lg_sl [.ref h0, .int n, .int so, .int 0, .int 0]).length) Slot.unset).toArray = ls at hl ⊢
  have hl : lv_has ls 8 [(0, .ref h0), (1, .int n), (2, .int so), (3, .int 0), (4, .int 0)] := hl
  refine lv_aload_n hx hb d_DiscMakerModel_add_0 rfl (lv_at hl 0 rfl) ?_
  refine va_get (D := D) (ci := 11) (v := .int 0) (C := "DiscMakerModel") (T := F_DiscMakerModel) (N := 48) hx hb ht9 in_DiscMakerModel hown hK hP 0 rfl rfl 2 (by decide) (ht9 _ k1433) (fun _ h9 => h9) rfl d_DiscMakerModel_add_1 ?_
  refine lv_istore hx hb d_DiscMakerModel_add_4 hl (by decide) rfl (fun ls hl => ?_)
  have hl : lv_has ls 8 [(5, .int 0), (0, .ref h0), (1, .int n), (2, .int so), (3, .int 0), (4, .int 0)] := hl
  refine lv_aload_n hx hb d_DiscMakerModel_add_6 rfl (lv_at hl 1 rfl) ?_
  refine lv_iconst (v := 0) hx hb d_DiscMakerModel_add_7 (by decide) ?_
  refine va_put (D := D) (ci := 11) (v := .int 0) (ty := .int) (C := "DiscMakerModel") (T := F_DiscMakerModel) (N := 48) hx hb ht9 in_DiscMakerModel t_DiscMakerModel t_DiscMakerModel_ok n_DiscMakerModel hown hK hP hD hS 0 rfl rfl 2 (by decide) (ht9 _ k1433) (fun _ h9 => h9) rfl (by decide +kernel) rfl rfl (Nat.le_of_ble_eq_true rfl) d_DiscMakerModel_add_8 (fun H locs hP hD hS => ?_)
  have hP : va_P D CL [(h0, .inr (11, [.int 0, .ref atext, .int 0, .int 1, .ref akind, .ref aparent, .ref amode, .ref aowner, .ref agroup, .ref asize, .ref aseed, .ref aname, .ref anameSize, .ref atarget, .ref atargetSize, .ref abase, .ref abaseSize, .ref aextension, .ref aextensionSize, .ref aimage, .int 0, .ref atable, .ref asector, .ref asectors, .ref acontents, .int 0, .int 0, .int 0, .int 0, .ref aabove, .ref aisDirectory, .ref abytes, .ref aplace, .ref areadMode, .ref areadOwner, .ref areadGroup, .ref areadName, .ref areadNameSize, .ref areadTarget, .ref areadTargetSize, .ref adepth, .int 0, .int 0, .int 0, .int 0, .int 0, .int 0, .int 0])), (akind, .inl (cI, 40, .inl (fun _ => 0)))] H := hP
  have hD : va_D A [(h0, .inr (11, [.int 0, .ref atext, .int 0, .int 1, .ref akind, .ref aparent, .ref amode, .ref aowner, .ref agroup, .ref asize, .ref aseed, .ref aname, .ref anameSize, .ref atarget, .ref atargetSize, .ref abase, .ref abaseSize, .ref aextension, .ref aextensionSize, .ref aimage, .int 0, .ref atable, .ref asector, .ref asectors, .ref acontents, .int 0, .int 0, .int 0, .int 0, .ref aabove, .ref aisDirectory, .ref abytes, .ref aplace, .ref areadMode, .ref areadOwner, .ref areadGroup, .ref areadName, .ref areadNameSize, .ref areadTarget, .ref areadTargetSize, .ref adepth, .int 0, .int 0, .int 0, .int 0, .int 0, .int 0, .int 0])), (akind, .inl (cI, 40, .inl (fun _ => 0)))] := hD
  refine lv_iload hx hb d_DiscMakerModel_add_11 (lv_at hl 5 rfl) ?_
  refine lv_if_eq (tgt := 32) hx hb d_DiscMakerModel_add_13 (by decide) (fun h_13 => ?_) (fun h_13 => absurd (by decide) h_13)
  refine lv_bipush (v := (-4)) hx hb d_DiscMakerModel_add_32 (by decide) ?_
  have hP9 := hP.sub (ws' := []) [] rfl
  have hD9 := hD.sub (ws' := []) [] (by decide) rfl
  exact W.iret (v := (-4)) hx hb hr (fun t ht hW => ⟨⟨(-4), (), rfl, rfl, by rw [ht]; exact hP9, hD9⟩, hS.F ht⟩) hS.2.2 d_DiscMakerModel_add_34

theorem d_DiscMakerModel_add_16 : decode b_DiscMakerModel_add 16 = .ok (.aload_n 0, 1) := by decide +kernel
theorem d_DiscMakerModel_add_17 : decode b_DiscMakerModel_add 17 = .ok (.iload_n 1, 1) := by decide +kernel
theorem d_DiscMakerModel_add_18 : decode b_DiscMakerModel_add 18 = .ok (.invokevirtual 136, 3) := by decide +kernel
theorem d_DiscMakerModel_add_21 : decode b_DiscMakerModel_add 21 = .ok (.ifCond .eq 11, 3) := by decide +kernel
theorem d_DiscMakerModel_add_24 : decode b_DiscMakerModel_add 24 = .ok (.aload_n 0, 1) := by decide +kernel
theorem d_DiscMakerModel_add_25 : decode b_DiscMakerModel_add 25 = .ok (.iload_n 3, 1) := by decide +kernel
theorem d_DiscMakerModel_add_26 : decode b_DiscMakerModel_add 26 = .ok (.invokevirtual 139, 3) := by decide +kernel
theorem d_DiscMakerModel_add_29 : decode b_DiscMakerModel_add 29 = .ok (.ifCond .ne 6, 3) := by decide +kernel
set_option maxHeartbeats 4000000 in
set_option maxRecDepth 100000 in
theorem c_m_add1 (l : Launch) (D : va_G) (cB cI cJ cZ cN cF : ClassId) (sz : Nat) (h0 atext akind aparent amode aowner agroup asize aseed aname anameSize atarget atargetSize abase abaseSize aextension aextensionSize aimage atable asector asectors acontents aabove aisDirectory abytes aplace areadMode areadOwner areadGroup areadName areadNameSize areadTarget areadTargetSize adepth : Nat) (n so : Int32) : Met l y_DiscMakerModel_add w_DiscMakerModel_add ({ frames := 1, cells := 0, slots := 0, locals := 24 }) (va_Pc [.ref h0, .int n, .int so, .int 0, .int 1] (fun U => U.heap.size = sz ∧ va_P D CL [(h0, .inr (11, [.int 0, .ref atext, .int 0, .int 1, .ref akind, .ref aparent, .ref amode, .ref aowner, .ref agroup, .ref asize, .ref aseed, .ref aname, .ref anameSize, .ref atarget, .ref atargetSize, .ref abase, .ref abaseSize, .ref aextension, .ref aextensionSize, .ref aimage, .int 0, .ref atable, .ref asector, .ref asectors, .ref acontents, .int 0, .int 0, .int 0, .int 0, .ref aabove, .ref aisDirectory, .ref abytes, .ref aplace, .ref areadMode, .ref areadOwner, .ref areadGroup, .ref areadName, .ref areadNameSize, .ref areadTarget, .ref areadTargetSize, .ref adepth, .int 0, .int 0, .int 0, .int 0, .int 0, .int 0, .int 0])), (akind, .inl (cI, 40, .inl (fun _ => 0)))] U.heap ∧ va_K D CL (TY cB cI cJ cZ cN cF) U ∧ NN U ∧ va_D (fun _ => True) [(h0, .inr (11, [.int 0, .ref atext, .int 0, .int 1, .ref akind, .ref aparent, .ref amode, .ref aowner, .ref agroup, .ref asize, .ref aseed, .ref aname, .ref anameSize, .ref atarget, .ref atargetSize, .ref abase, .ref abaseSize, .ref aextension, .ref aextensionSize, .ref aimage, .int 0, .ref atable, .ref asector, .ref asectors, .ref acontents, .int 0, .int 0, .int 0, .int 0, .ref aabove, .ref aisDirectory, .ref abytes, .ref aplace, .ref areadMode, .ref areadOwner, .ref areadGroup, .ref areadName, .ref areadNameSize, .ref areadTarget, .ref areadTargetSize, .ref adepth, .int 0, .int 0, .int 0, .int 0, .int 0, .int 0, .int 0])), (akind, .inl (cI, 40, .inl (fun _ => 0)))])) (va_Qi (fun (r : Int32) (u : Unit) => r = (-4)) (fun (u : Unit) (t : State) => match u with | () => va_P D CL [] t.heap ∧ va_D (va_A [(h0, .inr (11, [.int 0, .ref atext, .int 0, .int 1, .ref akind, .ref aparent, .ref amode, .ref aowner, .ref agroup, .ref asize, .ref aseed, .ref aname, .ref anameSize, .ref atarget, .ref atargetSize, .ref abase, .ref abaseSize, .ref aextension, .ref aextensionSize, .ref aimage, .int 0, .ref atable, .ref asector, .ref asectors, .ref acontents, .int 0, .int 0, .int 0, .int 0, .ref aabove, .ref aisDirectory, .ref abytes, .ref aplace, .ref areadMode, .ref areadOwner, .ref areadGroup, .ref areadName, .ref areadNameSize, .ref areadTarget, .ref areadTargetSize, .ref adepth, .int 0, .int 0, .int 0, .int 0, .int 0, .int 0, .int 0])), (akind, .inl (cI, 40, .inl (fun _ => 0)))] sz) []) (va_A [(h0, .inr (11, [.int 0, .ref atext, .int 0, .int 1, .ref akind, .ref aparent, .ref amode, .ref aowner, .ref agroup, .ref asize, .ref aseed, .ref aname, .ref anameSize, .ref atarget, .ref atargetSize, .ref abase, .ref abaseSize, .ref aextension, .ref aextensionSize, .ref aimage, .int 0, .ref atable, .ref asector, .ref asectors, .ref acontents, .int 0, .int 0, .int 0, .int 0, .ref aabove, .ref aisDirectory, .ref abytes, .ref aplace, .ref areadMode, .ref areadOwner, .ref areadGroup, .ref areadName, .ref areadNameSize, .ref areadTarget, .ref areadTargetSize, .ref adepth, .int 0, .int 0, .int 0, .int 0, .int 0, .int 0, .int 0])), (akind, .inl (cI, 40, .inl (fun _ => 0)))] sz)) 0 0 (va_A [(h0, .inr (11, [.int 0, .ref atext, .int 0, .int 1, .ref akind, .ref aparent, .ref amode, .ref aowner, .ref agroup, .ref asize, .ref aseed, .ref aname, .ref anameSize, .ref atarget, .ref atargetSize, .ref abase, .ref abaseSize, .ref aextension, .ref aextensionSize, .ref aimage, .int 0, .ref atable, .ref asector, .ref asectors, .ref acontents, .int 0, .int 0, .int 0, .int 0, .ref aabove, .ref aisDirectory, .ref abytes, .ref aplace, .ref areadMode, .ref areadOwner, .ref areadGroup, .ref areadName, .ref areadNameSize, .ref areadTarget, .ref areadTargetSize, .ref adepth, .int 0, .int 0, .int 0, .int 0, .int 0, .int 0, .int 0])), (akind, .inl (cI, 40, .inl (fun _ => 0)))] sz) := by
  refine Met.ofW (cc := b_DiscMakerModel_add) (maxL := 8) (ret := some .int) (by decide) rfl ?_
  intro p e s m args below meth c s₁ B hml hv
  obtain ⟨rfl, hsz, hP, hK, hN, hD0⟩ := hv
  have hx := B.exec
  have hb := B.bytes
  have hr := B.returns
  have hts := atoms_spec (ws := w_DiscMakerModel_add) B.pre
  have ht9 := fun (w : Cond) (h : w ∈ lw_g) => hts w (List.mem_cons_of_mem _ h)
  have hown : s.vm.findClass "DiscMakerModel" = some m.cls := findClass_of_methodNamed B.named
  have hlocks := B.notSynchronized
  subst hsz
  have hD := hD0.self (sz := s.heap.size)
  generalize hAe : va_A [(h0, .inr (11, [.int 0, .ref atext, .int 0, .int 1, .ref akind, .ref aparent, .ref amode, .ref aowner, .ref agroup, .ref asize, .ref aseed, .ref aname, .ref anameSize, .ref atarget, .ref atargetSize, .ref abase, .ref abaseSize, .ref aextension, .ref aextensionSize, .ref aimage, .int 0, .ref atable, .ref asector, .ref asectors, .ref acontents, .int 0, .int 0, .int 0, .int 0, .ref aabove, .ref aisDirectory, .ref abytes, .ref aplace, .ref areadMode, .ref areadOwner, .ref areadGroup, .ref areadName, .ref areadNameSize, .ref areadTarget, .ref areadTargetSize, .ref adepth, .int 0, .int 0, .int 0, .int 0, .int 0, .int 0, .int 0])), (akind, .inl (cI, 40, .inl (fun _ => 0)))] s.heap.size = A at hD ⊢
  have hA : ∀ q : Nat, s.heap.size ≤ q → A q := fun q h => by rw [← hAe]; exact Or.inr h
  have hS : va_S A s.heap s.heap [] := va_S.rf
  have hP : va_P D CL [(h0, .inr (11, [.int 0, .ref atext, .int 0, .int 1, .ref akind, .ref aparent, .ref amode, .ref aowner, .ref agroup, .ref asize, .ref aseed, .ref aname, .ref anameSize, .ref atarget, .ref atargetSize, .ref abase, .ref abaseSize, .ref aextension, .ref aextensionSize, .ref aimage, .int 0, .ref atable, .ref asector, .ref asectors, .ref acontents, .int 0, .int 0, .int 0, .int 0, .ref aabove, .ref aisDirectory, .ref abytes, .ref aplace, .ref areadMode, .ref areadOwner, .ref areadGroup, .ref areadName, .ref areadNameSize, .ref areadTarget, .ref areadTargetSize, .ref adepth, .int 0, .int 0, .int 0, .int 0, .int 0, .int 0, .int 0])), (akind, .inl (cI, 40, .inl (fun _ => 0)))] s.heap := hP
  have hl := lv_entry [.ref h0, .int n, .int so, .int 0, .int 1] (n := 8) (Nat.le_of_ble_eq_true rfl)
  rw [lg_entry_eq]
  generalize (lg_sl [.ref h0, .int n, .int so, .int 0, .int 1] ++ List.replicate (8 - (lg_sl [.ref h0, .int n, .int so, .int 0, .int 1]).length) Slot.unset).toArray = ls at hl ⊢
  have hl : lv_has ls 8 [(0, .ref h0), (1, .int n), (2, .int so), (3, .int 0), (4, .int 1)] := hl
  refine lv_aload_n hx hb d_DiscMakerModel_add_0 rfl (lv_at hl 0 rfl) ?_
  refine va_get (D := D) (ci := 11) (v := .int 0) (C := "DiscMakerModel") (T := F_DiscMakerModel) (N := 48) hx hb ht9 in_DiscMakerModel hown hK hP 0 rfl rfl 2 (by decide) (ht9 _ k1433) (fun _ h9 => h9) rfl d_DiscMakerModel_add_1 ?_
  refine lv_istore hx hb d_DiscMakerModel_add_4 hl (by decide) rfl (fun ls hl => ?_)
  have hl : lv_has ls 8 [(5, .int 0), (0, .ref h0), (1, .int n), (2, .int so), (3, .int 0), (4, .int 1)] := hl
  refine lv_aload_n hx hb d_DiscMakerModel_add_6 rfl (lv_at hl 1 rfl) ?_
  refine lv_iconst (v := 0) hx hb d_DiscMakerModel_add_7 (by decide) ?_
  refine va_put (D := D) (ci := 11) (v := .int 0) (ty := .int) (C := "DiscMakerModel") (T := F_DiscMakerModel) (N := 48) hx hb ht9 in_DiscMakerModel t_DiscMakerModel t_DiscMakerModel_ok n_DiscMakerModel hown hK hP hD hS 0 rfl rfl 2 (by decide) (ht9 _ k1433) (fun _ h9 => h9) rfl (by decide +kernel) rfl rfl (Nat.le_of_ble_eq_true rfl) d_DiscMakerModel_add_8 (fun H locs hP hD hS => ?_)
  have hP : va_P D CL [(h0, .inr (11, [.int 0, .ref atext, .int 0, .int 1, .ref akind, .ref aparent, .ref amode, .ref aowner, .ref agroup, .ref asize, .ref aseed, .ref aname, .ref anameSize, .ref atarget, .ref atargetSize, .ref abase, .ref abaseSize, .ref aextension, .ref aextensionSize, .ref aimage, .int 0, .ref atable, .ref asector, .ref asectors, .ref acontents, .int 0, .int 0, .int 0, .int 0, .ref aabove, .ref aisDirectory, .ref abytes, .ref aplace, .ref areadMode, .ref areadOwner, .ref areadGroup, .ref areadName, .ref areadNameSize, .ref areadTarget, .ref areadTargetSize, .ref adepth, .int 0, .int 0, .int 0, .int 0, .int 0, .int 0, .int 0])), (akind, .inl (cI, 40, .inl (fun _ => 0)))] H := hP
  have hD : va_D A [(h0, .inr (11, [.int 0, .ref atext, .int 0, .int 1, .ref akind, .ref aparent, .ref amode, .ref aowner, .ref agroup, .ref asize, .ref aseed, .ref aname, .ref anameSize, .ref atarget, .ref atargetSize, .ref abase, .ref abaseSize, .ref aextension, .ref aextensionSize, .ref aimage, .int 0, .ref atable, .ref asector, .ref asectors, .ref acontents, .int 0, .int 0, .int 0, .int 0, .ref aabove, .ref aisDirectory, .ref abytes, .ref aplace, .ref areadMode, .ref areadOwner, .ref areadGroup, .ref areadName, .ref areadNameSize, .ref areadTarget, .ref areadTargetSize, .ref adepth, .int 0, .int 0, .int 0, .int 0, .int 0, .int 0, .int 0])), (akind, .inl (cI, 40, .inl (fun _ => 0)))] := hD
  refine lv_iload hx hb d_DiscMakerModel_add_11 (lv_at hl 5 rfl) ?_
  refine lv_if_eq (tgt := 32) hx hb d_DiscMakerModel_add_13 (by decide) (fun h_13 => absurd h_13 (by decide)) (fun h_13 => ?_)
  refine lv_aload_n hx hb d_DiscMakerModel_add_16 rfl (lv_at hl 1 rfl) ?_
  refine lv_iload_n hx hb d_DiscMakerModel_add_17 rfl (lv_at hl 2 rfl) ?_
  have hPc := hP.sub (ws' := [(h0, .inr (11, [.int 0, .ref atext, .int 0, .int 1, .ref akind, .ref aparent, .ref amode, .ref aowner, .ref agroup, .ref asize, .ref aseed, .ref aname, .ref anameSize, .ref atarget, .ref atargetSize, .ref abase, .ref abaseSize, .ref aextension, .ref aextensionSize, .ref aimage, .int 0, .ref atable, .ref asector, .ref asectors, .ref acontents, .int 0, .int 0, .int 0, .int 0, .ref aabove, .ref aisDirectory, .ref abytes, .ref aplace, .ref areadMode, .ref areadOwner, .ref areadGroup, .ref areadName, .ref areadNameSize, .ref areadTarget, .ref areadTargetSize, .ref adepth, .int 0, .int 0, .int 0, .int 0, .int 0, .int 0, .int 0])), (akind, .inl (cI, 40, .inl (fun _ => 0)))]) [0, 1] rfl
  have hDc := hD.sub (ws' := [(h0, .inr (11, [.int 0, .ref atext, .int 0, .int 1, .ref akind, .ref aparent, .ref amode, .ref aowner, .ref agroup, .ref asize, .ref aseed, .ref aname, .ref anameSize, .ref atarget, .ref atargetSize, .ref abase, .ref abaseSize, .ref aextension, .ref aextensionSize, .ref aimage, .int 0, .ref atable, .ref asector, .ref asectors, .ref acontents, .int 0, .int 0, .int 0, .int 0, .ref aabove, .ref aisDirectory, .ref abytes, .ref aplace, .ref areadMode, .ref areadOwner, .ref areadGroup, .ref areadName, .ref areadNameSize, .ref areadTarget, .ref areadTargetSize, .ref adepth, .int 0, .int 0, .int 0, .int 0, .int 0, .int 0, .int 0])), (akind, .inl (cI, 40, .inl (fun _ => 0)))]) [0, 1] (by decide) rfl
  have hFc := va_free (wc := [(h0, .inr (11, [.int 0, .ref atext, .int 0, .int 1, .ref akind, .ref aparent, .ref amode, .ref aowner, .ref agroup, .ref asize, .ref aseed, .ref aname, .ref anameSize, .ref atarget, .ref atargetSize, .ref abase, .ref abaseSize, .ref aextension, .ref aextensionSize, .ref aimage, .int 0, .ref atable, .ref asector, .ref asectors, .ref acontents, .int 0, .int 0, .int 0, .int 0, .ref aabove, .ref aisDirectory, .ref abytes, .ref aplace, .ref areadMode, .ref areadOwner, .ref areadGroup, .ref areadName, .ref areadNameSize, .ref areadTarget, .ref areadTargetSize, .ref adepth, .int 0, .int 0, .int 0, .int 0, .int 0, .int 0, .int 0])), (akind, .inl (cI, 40, .inl (fun _ => 0)))]) hD hS hA [0, 1] rfl
  have hkc : 0 ≤ 0 := by decide
  have hks : 0 ≤ 0 := by decide
  refine va_calli (va_runV (C := "DiscMakerModel") (As := [.int n]) (rest := []) ⟨hx, hb, hml, hown, hts⟩ (c_m_isIn l D cB cI cJ cZ cN cF H.size h0 atext akind aparent amode aowner agroup asize aseed aname anameSize atarget atargetSize abase abaseSize aextension aextensionSize aimage atable asector asectors acontents aabove aisDirectory abytes aplace areadMode areadOwner areadGroup areadName areadNameSize areadTarget areadTargetSize adepth n) (cwV 1 hts (lg_goodV k1602 k1604 k53 k125 kc_DiscMakerModel_isIn) rfl rfl rfl (by decide +kernel) ⟨Nat.le_of_ble_eq_true rfl, Nat.le_of_ble_eq_true rfl⟩) ⟨fun a U g mk q => by obtain ⟨q0, q1, qP, qK, qN, qD⟩ := q; exact ⟨q0, q1, qP, va_K.moved (u := U) (U := U.calling g mk a) (Vm.Alike.refl U.vm) qK, qN.calling, qD⟩, va_recv hK hP (ci := 11) (q0 := 0) rfl rfl, fun U hU hW => ⟨rfl, by rw [hU], by rw [hU]; exact hPc, va_K.moved hW.alike hK, NN.warm hW hN, hDc.weaken (fun _ _ _ _ => trivial)⟩⟩ rfl rfl hl.1 rfl (lv_room (Nat.le_of_ble_eq_true rfl)) d_DiscMakerModel_add_18 ⟨hkc, hks⟩) hS (fun q _ h => hFc q h) hFc (fun r18 u t H1 locs ht hvm hp_18 hB hz1 hk1 hS => ?_)
  obtain ⟨hP1, hD1⟩ := hB
  rw [ht] at hP1
  try dsimp only at hp_18
  obtain ⟨hP, hD⟩ := va_join (wr := []) (w1 := [(h0, .inr (11, [.int 0, .ref atext, .int 0, .int 1, .ref akind, .ref aparent, .ref amode, .ref aowner, .ref agroup, .ref asize, .ref aseed, .ref aname, .ref anameSize, .ref atarget, .ref atargetSize, .ref abase, .ref abaseSize, .ref aextension, .ref aextensionSize, .ref aimage, .int 0, .ref atable, .ref asector, .ref asectors, .ref acontents, .int 0, .int 0, .int 0, .int 0, .ref aabove, .ref aisDirectory, .ref abytes, .ref aplace, .ref areadMode, .ref areadOwner, .ref areadGroup, .ref areadName, .ref areadNameSize, .ref areadTarget, .ref areadTargetSize, .ref adepth, .int 0, .int 0, .int 0, .int 0, .int 0, .int 0, .int 0])), (akind, .inl (cI, 40, .inl (fun _ => 0)))]) hP hD [0, 1] [] rfl rfl (by decide) (by decide) hk1 hFc hP1 hD1
  clear hPc hDc hFc hP1 hD1 hk1 hz1
  generalize H1 = H at hP hS ⊢
  have hP : va_P D CL [(h0, .inr (11, [.int 0, .ref atext, .int 0, .int 1, .ref akind, .ref aparent, .ref amode, .ref aowner, .ref agroup, .ref asize, .ref aseed, .ref aname, .ref anameSize, .ref atarget, .ref atargetSize, .ref abase, .ref abaseSize, .ref aextension, .ref aextensionSize, .ref aimage, .int 0, .ref atable, .ref asector, .ref asectors, .ref acontents, .int 0, .int 0, .int 0, .int 0, .ref aabove, .ref aisDirectory, .ref abytes, .ref aplace, .ref areadMode, .ref areadOwner, .ref areadGroup, .ref areadName, .ref areadNameSize, .ref areadTarget, .ref areadTargetSize, .ref adepth, .int 0, .int 0, .int 0, .int 0, .int 0, .int 0, .int 0])), (akind, .inl (cI, 40, .inl (fun _ => 0)))] H := hP
  have hD : va_D A [(h0, .inr (11, [.int 0, .ref atext, .int 0, .int 1, .ref akind, .ref aparent, .ref amode, .ref aowner, .ref agroup, .ref asize, .ref aseed, .ref aname, .ref anameSize, .ref atarget, .ref atargetSize, .ref abase, .ref abaseSize, .ref aextension, .ref aextensionSize, .ref aimage, .int 0, .ref atable, .ref asector, .ref asectors, .ref acontents, .int 0, .int 0, .int 0, .int 0, .ref aabove, .ref aisDirectory, .ref abytes, .ref aplace, .ref areadMode, .ref areadOwner, .ref areadGroup, .ref areadName, .ref areadNameSize, .ref areadTarget, .ref areadTargetSize, .ref adepth, .int 0, .int 0, .int 0, .int 0, .int 0, .int 0, .int 0])), (akind, .inl (cI, 40, .inl (fun _ => 0)))] := hD
  rcases hp_18 with ⟨rfl, hi⟩ | ⟨rfl, hi⟩
  · skip
    refine lv_if_eq (tgt := 32) hx hb d_DiscMakerModel_add_21 (by decide) (fun h_21 => absurd h_21 (by decide)) (fun h_21 => ?_)
    refine lv_aload_n hx hb d_DiscMakerModel_add_24 rfl (lv_at hl 1 rfl) ?_
    refine lv_iload_n hx hb d_DiscMakerModel_add_25 rfl (lv_at hl 4 rfl) ?_
    have hPc := hP.sub (ws' := [(h0, .inr (11, [.int 0, .ref atext, .int 0, .int 1, .ref akind, .ref aparent, .ref amode, .ref aowner, .ref agroup, .ref asize, .ref aseed, .ref aname, .ref anameSize, .ref atarget, .ref atargetSize, .ref abase, .ref abaseSize, .ref aextension, .ref aextensionSize, .ref aimage, .int 0, .ref atable, .ref asector, .ref asectors, .ref acontents, .int 0, .int 0, .int 0, .int 0, .ref aabove, .ref aisDirectory, .ref abytes, .ref aplace, .ref areadMode, .ref areadOwner, .ref areadGroup, .ref areadName, .ref areadNameSize, .ref areadTarget, .ref areadTargetSize, .ref adepth, .int 0, .int 0, .int 0, .int 0, .int 0, .int 0, .int 0]))]) [0] rfl
    have hDc := hD.sub (ws' := [(h0, .inr (11, [.int 0, .ref atext, .int 0, .int 1, .ref akind, .ref aparent, .ref amode, .ref aowner, .ref agroup, .ref asize, .ref aseed, .ref aname, .ref anameSize, .ref atarget, .ref atargetSize, .ref abase, .ref abaseSize, .ref aextension, .ref aextensionSize, .ref aimage, .int 0, .ref atable, .ref asector, .ref asectors, .ref acontents, .int 0, .int 0, .int 0, .int 0, .ref aabove, .ref aisDirectory, .ref abytes, .ref aplace, .ref areadMode, .ref areadOwner, .ref areadGroup, .ref areadName, .ref areadNameSize, .ref areadTarget, .ref areadTargetSize, .ref adepth, .int 0, .int 0, .int 0, .int 0, .int 0, .int 0, .int 0]))]) [0] (by decide) rfl
    have hFc := va_free (wc := [(h0, .inr (11, [.int 0, .ref atext, .int 0, .int 1, .ref akind, .ref aparent, .ref amode, .ref aowner, .ref agroup, .ref asize, .ref aseed, .ref aname, .ref anameSize, .ref atarget, .ref atargetSize, .ref abase, .ref abaseSize, .ref aextension, .ref aextensionSize, .ref aimage, .int 0, .ref atable, .ref asector, .ref asectors, .ref acontents, .int 0, .int 0, .int 0, .int 0, .ref aabove, .ref aisDirectory, .ref abytes, .ref aplace, .ref areadMode, .ref areadOwner, .ref areadGroup, .ref areadName, .ref areadNameSize, .ref areadTarget, .ref areadTargetSize, .ref adepth, .int 0, .int 0, .int 0, .int 0, .int 0, .int 0, .int 0]))]) hD hS hA [0] rfl
    have hkc : 0 ≤ 0 := by decide
    have hks : 0 ≤ 0 := by decide
    refine va_calli (va_runV (C := "DiscMakerModel") (As := [.int 0]) (rest := []) ⟨hx, hb, hml, hown, hts⟩ (c_m_isName l D cB cI cJ cZ cN cF H.size h0 atext akind aparent amode aowner agroup asize aseed aname anameSize atarget atargetSize abase abaseSize aextension aextensionSize aimage atable asector asectors acontents aabove aisDirectory abytes aplace areadMode areadOwner areadGroup areadName areadNameSize areadTarget areadTargetSize adepth) (cwV 1 hts (lg_goodV k1606 k1608 k54 k125 kc_DiscMakerModel_isName) rfl rfl rfl (by decide +kernel) ⟨Nat.le_of_ble_eq_true rfl, Nat.le_of_ble_eq_true rfl⟩) ⟨fun a U g mk q => by obtain ⟨q0, q1, qP, qK, qN, qD⟩ := q; exact ⟨q0, q1, qP, va_K.moved (u := U) (U := U.calling g mk a) (Vm.Alike.refl U.vm) qK, qN.calling, qD⟩, va_recv hK hP (ci := 11) (q0 := 0) rfl rfl, fun U hU hW => ⟨rfl, by rw [hU], by rw [hU]; exact hPc, va_K.moved hW.alike hK, NN.warm hW hN, hDc.weaken (fun _ _ _ _ => trivial)⟩⟩ rfl rfl hl.1 rfl (lv_room (Nat.le_of_ble_eq_true rfl)) d_DiscMakerModel_add_26 ⟨hkc, hks⟩) hS (fun q _ h => hFc q h) hFc (fun r26 u t H1 locs ht hvm hp_26 hB hz1 hk1 hS => ?_)
    obtain ⟨hP1, hD1⟩ := hB
    rw [ht] at hP1
    try dsimp only at hp_26
    obtain ⟨hP, hD⟩ := va_join (wr := [(akind, .inl (cI, 40, .inl (fun _ => 0)))]) (w1 := [(h0, .inr (11, [.int 0, .ref atext, .int 0, .int 1, .ref akind, .ref aparent, .ref amode, .ref aowner, .ref agroup, .ref asize, .ref aseed, .ref aname, .ref anameSize, .ref atarget, .ref atargetSize, .ref abase, .ref abaseSize, .ref aextension, .ref aextensionSize, .ref aimage, .int 0, .ref atable, .ref asector, .ref asectors, .ref acontents, .int 0, .int 0, .int 0, .int 0, .ref aabove, .ref aisDirectory, .ref abytes, .ref aplace, .ref areadMode, .ref areadOwner, .ref areadGroup, .ref areadName, .ref areadNameSize, .ref areadTarget, .ref areadTargetSize, .ref adepth, .int 0, .int 0, .int 0, .int 0, .int 0, .int 0, .int 0]))]) hP hD [0] [1] rfl rfl (by decide) (by decide) hk1 hFc hP1 hD1
    clear hPc hDc hFc hP1 hD1 hk1 hz1
    generalize H1 = H at hP hS ⊢
    have hP : va_P D CL [(akind, .inl (cI, 40, .inl (fun _ => 0))), (h0, .inr (11, [.int 0, .ref atext, .int 0, .int 1, .ref akind, .ref aparent, .ref amode, .ref aowner, .ref agroup, .ref asize, .ref aseed, .ref aname, .ref anameSize, .ref atarget, .ref atargetSize, .ref abase, .ref abaseSize, .ref aextension, .ref aextensionSize, .ref aimage, .int 0, .ref atable, .ref asector, .ref asectors, .ref acontents, .int 0, .int 0, .int 0, .int 0, .ref aabove, .ref aisDirectory, .ref abytes, .ref aplace, .ref areadMode, .ref areadOwner, .ref areadGroup, .ref areadName, .ref areadNameSize, .ref areadTarget, .ref areadTargetSize, .ref adepth, .int 0, .int 0, .int 0, .int 0, .int 0, .int 0, .int 0]))] H := hP
    have hD : va_D A [(akind, .inl (cI, 40, .inl (fun _ => 0))), (h0, .inr (11, [.int 0, .ref atext, .int 0, .int 1, .ref akind, .ref aparent, .ref amode, .ref aowner, .ref agroup, .ref asize, .ref aseed, .ref aname, .ref anameSize, .ref atarget, .ref atargetSize, .ref abase, .ref abaseSize, .ref aextension, .ref aextensionSize, .ref aimage, .int 0, .ref atable, .ref asector, .ref asectors, .ref acontents, .int 0, .int 0, .int 0, .int 0, .ref aabove, .ref aisDirectory, .ref abytes, .ref aplace, .ref areadMode, .ref areadOwner, .ref areadGroup, .ref areadName, .ref areadNameSize, .ref areadTarget, .ref areadTargetSize, .ref adepth, .int 0, .int 0, .int 0, .int 0, .int 0, .int 0, .int 0]))] := hD
    refine W.eq (g2 := F0 m 29 ls [.int 0]) (by rw [show r26 = 0 from hp_26]) ?_
    refine lv_if_ne (tgt := 35) hx hb d_DiscMakerModel_add_29 (by decide) (fun h_29 => absurd (by decide) h_29) (fun h_29 => ?_)
    refine lv_bipush (v := (-4)) hx hb d_DiscMakerModel_add_32 (by decide) ?_
    have hP9 := hP.sub (ws' := []) [] rfl
    have hD9 := hD.sub (ws' := []) [] (by decide) rfl
    exact W.iret (v := (-4)) hx hb hr (fun t ht hW => ⟨⟨(-4), (), rfl, rfl, by rw [ht]; exact hP9, hD9⟩, hS.F ht⟩) hS.2.2 d_DiscMakerModel_add_34
  · skip
    refine lv_if_eq (tgt := 32) hx hb d_DiscMakerModel_add_21 (by decide) (fun h_21 => ?_) (fun h_21 => absurd (by decide) h_21)
    refine lv_bipush (v := (-4)) hx hb d_DiscMakerModel_add_32 (by decide) ?_
    have hP9 := hP.sub (ws' := []) [] rfl
    have hD9 := hD.sub (ws' := []) [] (by decide) rfl
    exact W.iret (v := (-4)) hx hb hr (fun t ht hW => ⟨⟨(-4), (), rfl, rfl, by rw [ht]; exact hP9, hD9⟩, hS.F ht⟩) hS.2.2 d_DiscMakerModel_add_34

theorem d_DiscMakerModel_directory_0 : decode b_DiscMakerModel_directory 0 = .ok (.aload_n 0, 1) := by decide +kernel
theorem d_DiscMakerModel_directory_1 : decode b_DiscMakerModel_directory 1 = .ok (.iconst 0, 1) := by decide +kernel
theorem d_DiscMakerModel_directory_2 : decode b_DiscMakerModel_directory 2 = .ok (.putfield 118, 3) := by decide +kernel
theorem d_DiscMakerModel_directory_5 : decode b_DiscMakerModel_directory 5 = .ok (.aload_n 0, 1) := by decide +kernel
theorem d_DiscMakerModel_directory_6 : decode b_DiscMakerModel_directory 6 = .ok (.iload_n 1, 1) := by decide +kernel
theorem d_DiscMakerModel_directory_7 : decode b_DiscMakerModel_directory 7 = .ok (.iconst 0, 1) := by decide +kernel
theorem d_DiscMakerModel_directory_8 : decode b_DiscMakerModel_directory 8 = .ok (.aload_n 0, 1) := by decide +kernel
theorem d_DiscMakerModel_directory_9 : decode b_DiscMakerModel_directory 9 = .ok (.getfield 121, 3) := by decide +kernel
theorem d_DiscMakerModel_directory_12 : decode b_DiscMakerModel_directory 12 = .ok (.iload_n 2, 1) := by decide +kernel
theorem d_DiscMakerModel_directory_13 : decode b_DiscMakerModel_directory 13 = .ok (.invokestatic 153, 3) := by decide +kernel
theorem d_DiscMakerModel_directory_16 : decode b_DiscMakerModel_directory 16 = .ok (.ifCond .eq 22, 3) := by decide +kernel
theorem d_DiscMakerModel_directory_19 : decode b_DiscMakerModel_directory 19 = .ok (.iload_n 3, 1) := by decide +kernel
theorem d_DiscMakerModel_directory_20 : decode b_DiscMakerModel_directory 20 = .ok (.invokestatic 153, 3) := by decide +kernel
theorem d_DiscMakerModel_directory_23 : decode b_DiscMakerModel_directory 23 = .ok (.ifCond .eq 15, 3) := by decide +kernel
theorem d_DiscMakerModel_directory_26 : decode b_DiscMakerModel_directory 26 = .ok (.iload 4, 2) := by decide +kernel
theorem d_DiscMakerModel_directory_28 : decode b_DiscMakerModel_directory 28 = .ok (.invokestatic 153, 3) := by decide +kernel
theorem d_DiscMakerModel_directory_31 : decode b_DiscMakerModel_directory 31 = .ok (.ifCond .eq 7, 3) := by decide +kernel
theorem d_DiscMakerModel_directory_34 : decode b_DiscMakerModel_directory 34 = .ok (.iconst 1, 1) := by decide +kernel
theorem d_DiscMakerModel_directory_35 : decode b_DiscMakerModel_directory 35 = .ok (.goto 4, 3) := by decide +kernel
theorem d_DiscMakerModel_directory_38 : decode b_DiscMakerModel_directory 38 = .ok (.iconst 0, 1) := by decide +kernel
theorem d_DiscMakerModel_directory_39 : decode b_DiscMakerModel_directory 39 = .ok (.invokevirtual 156, 3) := by decide +kernel
theorem d_DiscMakerModel_directory_42 : decode b_DiscMakerModel_directory 42 = .ok (.istore 5, 2) := by decide +kernel
theorem d_DiscMakerModel_directory_44 : decode b_DiscMakerModel_directory 44 = .ok (.iload 5, 2) := by decide +kernel
theorem d_DiscMakerModel_directory_46 : decode b_DiscMakerModel_directory 46 = .ok (.ifCond .ge 6, 3) := by decide +kernel
theorem d_DiscMakerModel_directory_49 : decode b_DiscMakerModel_directory 49 = .ok (.iload 5, 2) := by decide +kernel
theorem d_DiscMakerModel_directory_51 : decode b_DiscMakerModel_directory 51 = .ok (.ireturn, 1) := by decide +kernel
set_option maxHeartbeats 4000000 in
set_option maxRecDepth 100000 in
theorem c_m_directory (l : Launch) (D : va_G) (cB cI cJ cZ cN cF : ClassId) (sz : Nat) (h0 atext akind aparent amode aowner agroup asize aseed aname anameSize atarget atargetSize abase abaseSize aextension aextensionSize aimage atable asector asectors acontents aabove aisDirectory abytes aplace areadMode areadOwner areadGroup areadName areadNameSize areadTarget areadTargetSize adepth : Nat) (n x y z : Int32) : Met l y_DiscMakerModel_directory w_DiscMakerModel_directory ({ frames := 2, cells := 0, slots := 0, locals := 51 }) (va_Pc [.ref h0, .int n, .int x, .int y, .int z] (fun U => U.heap.size = sz ∧ va_P D CL [(h0, .inr (11, [.int 0, .ref atext, .int 0, .int 1, .ref akind, .ref aparent, .ref amode, .ref aowner, .ref agroup, .ref asize, .ref aseed, .ref aname, .ref anameSize, .ref atarget, .ref atargetSize, .ref abase, .ref abaseSize, .ref aextension, .ref aextensionSize, .ref aimage, .int 0, .ref atable, .ref asector, .ref asectors, .ref acontents, .int 0, .int 0, .int 0, .int 0, .ref aabove, .ref aisDirectory, .ref abytes, .ref aplace, .ref areadMode, .ref areadOwner, .ref areadGroup, .ref areadName, .ref areadNameSize, .ref areadTarget, .ref areadTargetSize, .ref adepth, .int 0, .int 0, .int 0, .int 0, .int 0, .int 0, .int 0])), (akind, .inl (cI, 40, .inl (fun _ => 0)))] U.heap ∧ va_K D CL (TY cB cI cJ cZ cN cF) U ∧ NN U ∧ va_D (fun _ => True) [(h0, .inr (11, [.int 0, .ref atext, .int 0, .int 1, .ref akind, .ref aparent, .ref amode, .ref aowner, .ref agroup, .ref asize, .ref aseed, .ref aname, .ref anameSize, .ref atarget, .ref atargetSize, .ref abase, .ref abaseSize, .ref aextension, .ref aextensionSize, .ref aimage, .int 0, .ref atable, .ref asector, .ref asectors, .ref acontents, .int 0, .int 0, .int 0, .int 0, .ref aabove, .ref aisDirectory, .ref abytes, .ref aplace, .ref areadMode, .ref areadOwner, .ref areadGroup, .ref areadName, .ref areadNameSize, .ref areadTarget, .ref areadTargetSize, .ref adepth, .int 0, .int 0, .int 0, .int 0, .int 0, .int 0, .int 0])), (akind, .inl (cI, 40, .inl (fun _ => 0)))])) (va_Qi (fun (r : Int32) (u : Unit) => r = (-4)) (fun (u : Unit) (t : State) => match u with | () => va_P D CL [] t.heap ∧ va_D (va_A [(h0, .inr (11, [.int 0, .ref atext, .int 0, .int 1, .ref akind, .ref aparent, .ref amode, .ref aowner, .ref agroup, .ref asize, .ref aseed, .ref aname, .ref anameSize, .ref atarget, .ref atargetSize, .ref abase, .ref abaseSize, .ref aextension, .ref aextensionSize, .ref aimage, .int 0, .ref atable, .ref asector, .ref asectors, .ref acontents, .int 0, .int 0, .int 0, .int 0, .ref aabove, .ref aisDirectory, .ref abytes, .ref aplace, .ref areadMode, .ref areadOwner, .ref areadGroup, .ref areadName, .ref areadNameSize, .ref areadTarget, .ref areadTargetSize, .ref adepth, .int 0, .int 0, .int 0, .int 0, .int 0, .int 0, .int 0])), (akind, .inl (cI, 40, .inl (fun _ => 0)))] sz) []) (va_A [(h0, .inr (11, [.int 0, .ref atext, .int 0, .int 1, .ref akind, .ref aparent, .ref amode, .ref aowner, .ref agroup, .ref asize, .ref aseed, .ref aname, .ref anameSize, .ref atarget, .ref atargetSize, .ref abase, .ref abaseSize, .ref aextension, .ref aextensionSize, .ref aimage, .int 0, .ref atable, .ref asector, .ref asectors, .ref acontents, .int 0, .int 0, .int 0, .int 0, .ref aabove, .ref aisDirectory, .ref abytes, .ref aplace, .ref areadMode, .ref areadOwner, .ref areadGroup, .ref areadName, .ref areadNameSize, .ref areadTarget, .ref areadTargetSize, .ref adepth, .int 0, .int 0, .int 0, .int 0, .int 0, .int 0, .int 0])), (akind, .inl (cI, 40, .inl (fun _ => 0)))] sz)) 0 0 (va_A [(h0, .inr (11, [.int 0, .ref atext, .int 0, .int 1, .ref akind, .ref aparent, .ref amode, .ref aowner, .ref agroup, .ref asize, .ref aseed, .ref aname, .ref anameSize, .ref atarget, .ref atargetSize, .ref abase, .ref abaseSize, .ref aextension, .ref aextensionSize, .ref aimage, .int 0, .ref atable, .ref asector, .ref asectors, .ref acontents, .int 0, .int 0, .int 0, .int 0, .ref aabove, .ref aisDirectory, .ref abytes, .ref aplace, .ref areadMode, .ref areadOwner, .ref areadGroup, .ref areadName, .ref areadNameSize, .ref areadTarget, .ref areadTargetSize, .ref adepth, .int 0, .int 0, .int 0, .int 0, .int 0, .int 0, .int 0])), (akind, .inl (cI, 40, .inl (fun _ => 0)))] sz) := by
  refine Met.ofW (cc := b_DiscMakerModel_directory) (maxL := 6) (ret := some .int) (by decide) rfl ?_
  intro p e s m args below meth c s₁ B hml hv
  obtain ⟨rfl, hsz, hP, hK, hN, hD0⟩ := hv
  have hx := B.exec
  have hb := B.bytes
  have hr := B.returns
  have hts := atoms_spec (ws := w_DiscMakerModel_directory) B.pre
  have ht9 := fun (w : Cond) (h : w ∈ lw_g) => hts w (List.mem_cons_of_mem _ h)
  have hown : s.vm.findClass "DiscMakerModel" = some m.cls := findClass_of_methodNamed B.named
  have hlocks := B.notSynchronized
  subst hsz
  have hD := hD0.self (sz := s.heap.size)
  generalize hAe : va_A [(h0, .inr (11, [.int 0, .ref atext, .int 0, .int 1, .ref akind, .ref aparent, .ref amode, .ref aowner, .ref agroup, .ref asize, .ref aseed, .ref aname, .ref anameSize, .ref atarget, .ref atargetSize, .ref abase, .ref abaseSize, .ref aextension, .ref aextensionSize, .ref aimage, .int 0, .ref atable, .ref asector, .ref asectors, .ref acontents, .int 0, .int 0, .int 0, .int 0, .ref aabove, .ref aisDirectory, .ref abytes, .ref aplace, .ref areadMode, .ref areadOwner, .ref areadGroup, .ref areadName, .ref areadNameSize, .ref areadTarget, .ref areadTargetSize, .ref adepth, .int 0, .int 0, .int 0, .int 0, .int 0, .int 0, .int 0])), (akind, .inl (cI, 40, .inl (fun _ => 0)))] s.heap.size = A at hD ⊢
  have hA : ∀ q : Nat, s.heap.size ≤ q → A q := fun q h => by rw [← hAe]; exact Or.inr h
  have hS : va_S A s.heap s.heap [] := va_S.rf
  have hP : va_P D CL [(h0, .inr (11, [.int 0, .ref atext, .int 0, .int 1, .ref akind, .ref aparent, .ref amode, .ref aowner, .ref agroup, .ref asize, .ref aseed, .ref aname, .ref anameSize, .ref atarget, .ref atargetSize, .ref abase, .ref abaseSize, .ref aextension, .ref aextensionSize, .ref aimage, .int 0, .ref atable, .ref asector, .ref asectors, .ref acontents, .int 0, .int 0, .int 0, .int 0, .ref aabove, .ref aisDirectory, .ref abytes, .ref aplace, .ref areadMode, .ref areadOwner, .ref areadGroup, .ref areadName, .ref areadNameSize, .ref areadTarget, .ref areadTargetSize, .ref adepth, .int 0, .int 0, .int 0, .int 0, .int 0, .int 0, .int 0])), (akind, .inl (cI, 40, .inl (fun _ => 0)))] s.heap := hP
  have hl := lv_entry [.ref h0, .int n, .int x, .int y, .int z] (n := 6) (Nat.le_of_ble_eq_true rfl)
  rw [lg_entry_eq]
  generalize (lg_sl [.ref h0, .int n, .int x, .int y, .int z] ++ List.replicate (6 - (lg_sl [.ref h0, .int n, .int x, .int y, .int z]).length) Slot.unset).toArray = ls at hl ⊢
  have hl : lv_has ls 6 [(0, .ref h0), (1, .int n), (2, .int x), (3, .int y), (4, .int z)] := hl
  refine lv_aload_n hx hb d_DiscMakerModel_directory_0 rfl (lv_at hl 0 rfl) ?_
  refine lv_iconst (v := 0) hx hb d_DiscMakerModel_directory_1 (by decide) ?_
  refine va_put (D := D) (ci := 11) (v := .int 0) (ty := .int) (C := "DiscMakerModel") (T := F_DiscMakerModel) (N := 48) hx hb ht9 in_DiscMakerModel t_DiscMakerModel t_DiscMakerModel_ok n_DiscMakerModel hown hK hP hD hS 0 rfl rfl 0 (by decide) (ht9 _ k1431) (fun _ h9 => h9) rfl (by decide +kernel) rfl rfl (Nat.le_of_ble_eq_true rfl) d_DiscMakerModel_directory_2 (fun H locs hP hD hS => ?_)
  have hP : va_P D CL [(h0, .inr (11, [.int 0, .ref atext, .int 0, .int 1, .ref akind, .ref aparent, .ref amode, .ref aowner, .ref agroup, .ref asize, .ref aseed, .ref aname, .ref anameSize, .ref atarget, .ref atargetSize, .ref abase, .ref abaseSize, .ref aextension, .ref aextensionSize, .ref aimage, .int 0, .ref atable, .ref asector, .ref asectors, .ref acontents, .int 0, .int 0, .int 0, .int 0, .ref aabove, .ref aisDirectory, .ref abytes, .ref aplace, .ref areadMode, .ref areadOwner, .ref areadGroup, .ref areadName, .ref areadNameSize, .ref areadTarget, .ref areadTargetSize, .ref adepth, .int 0, .int 0, .int 0, .int 0, .int 0, .int 0, .int 0])), (akind, .inl (cI, 40, .inl (fun _ => 0)))] H := hP
  have hD : va_D A [(h0, .inr (11, [.int 0, .ref atext, .int 0, .int 1, .ref akind, .ref aparent, .ref amode, .ref aowner, .ref agroup, .ref asize, .ref aseed, .ref aname, .ref anameSize, .ref atarget, .ref atargetSize, .ref abase, .ref abaseSize, .ref aextension, .ref aextensionSize, .ref aimage, .int 0, .ref atable, .ref asector, .ref asectors, .ref acontents, .int 0, .int 0, .int 0, .int 0, .ref aabove, .ref aisDirectory, .ref abytes, .ref aplace, .ref areadMode, .ref areadOwner, .ref areadGroup, .ref areadName, .ref areadNameSize, .ref areadTarget, .ref areadTargetSize, .ref adepth, .int 0, .int 0, .int 0, .int 0, .int 0, .int 0, .int 0])), (akind, .inl (cI, 40, .inl (fun _ => 0)))] := hD
  refine lv_aload_n hx hb d_DiscMakerModel_directory_5 rfl (lv_at hl 0 rfl) ?_
  refine lv_iload_n hx hb d_DiscMakerModel_directory_6 rfl (lv_at hl 1 rfl) ?_
  refine lv_iconst (v := 0) hx hb d_DiscMakerModel_directory_7 (by decide) ?_
  refine lv_aload_n hx hb d_DiscMakerModel_directory_8 rfl (lv_at hl 0 rfl) ?_
  refine va_get (D := D) (ci := 11) (v := .int 0) (C := "DiscMakerModel") (T := F_DiscMakerModel) (N := 48) hx hb ht9 in_DiscMakerModel hown hK hP 0 rfl rfl 2 (by decide) (ht9 _ k1433) (fun _ h9 => h9) rfl d_DiscMakerModel_directory_9 ?_
  refine lv_iload_n hx hb d_DiscMakerModel_directory_12 rfl (lv_at hl 2 rfl) ?_
  have hPc := hP.sub (ws' := []) [] rfl
  have hDc := hD.sub (ws' := []) [] (by decide) rfl
  have hFc := va_free (wc := []) hD hS hA [] rfl
  have hkc : 0 ≤ 0 := by decide
  have hks : 0 ≤ 0 := by decide
  refine va_calli (va_runS (As := [.int x]) (rest := [.int 0, .int 0, .int n, .ref h0]) ⟨hx, hb, hml, hown, hts⟩ (c_m_isNumber l D cB cI cJ cZ cN cF H.size x) (cwS 1 hts (lg_goodS k1594 k1595 k125 kc_DiscMakerModel_isNumber) rfl rfl rfl (by decide +kernel) ⟨Nat.le_of_ble_eq_true rfl, Nat.le_of_ble_eq_true rfl⟩) ⟨fun a U g mk q => by obtain ⟨q0, q1, qP, qK, qN, qD⟩ := q; exact ⟨q0, q1, qP, va_K.moved (u := U) (U := U.calling g mk a) (Vm.Alike.refl U.vm) qK, qN.calling, qD⟩, fun U hU hW => ⟨rfl, by rw [hU], by rw [hU]; exact hPc, va_K.moved hW.alike hK, NN.warm hW hN, hDc.weaken (fun _ _ _ _ => trivial)⟩⟩ rfl rfl hl.1 rfl (lv_room (Nat.le_of_ble_eq_true rfl)) d_DiscMakerModel_directory_13 ⟨hkc, hks⟩) hS (fun q _ h => hFc q h) hFc (fun r13 u t H1 locs ht hvm hp_13 hB hz1 hk1 hS => ?_)
  obtain ⟨hP1, hD1⟩ := hB
  rw [ht] at hP1
  try dsimp only at hp_13
  obtain ⟨hP, hD⟩ := va_join (wr := [(h0, .inr (11, [.int 0, .ref atext, .int 0, .int 1, .ref akind, .ref aparent, .ref amode, .ref aowner, .ref agroup, .ref asize, .ref aseed, .ref aname, .ref anameSize, .ref atarget, .ref atargetSize, .ref abase, .ref abaseSize, .ref aextension, .ref aextensionSize, .ref aimage, .int 0, .ref atable, .ref asector, .ref asectors, .ref acontents, .int 0, .int 0, .int 0, .int 0, .ref aabove, .ref aisDirectory, .ref abytes, .ref aplace, .ref areadMode, .ref areadOwner, .ref areadGroup, .ref areadName, .ref areadNameSize, .ref areadTarget, .ref areadTargetSize, .ref adepth, .int 0, .int 0, .int 0, .int 0, .int 0, .int 0, .int 0])), (akind, .inl (cI, 40, .inl (fun _ => 0)))]) (w1 := []) hP hD [] [0, 1] rfl rfl (by decide) (by decide) hk1 hFc hP1 hD1
  clear hPc hDc hFc hP1 hD1 hk1 hz1
  generalize H1 = H at hP hS ⊢
  have hP : va_P D CL [(h0, .inr (11, [.int 0, .ref atext, .int 0, .int 1, .ref akind, .ref aparent, .ref amode, .ref aowner, .ref agroup, .ref asize, .ref aseed, .ref aname, .ref anameSize, .ref atarget, .ref atargetSize, .ref abase, .ref abaseSize, .ref aextension, .ref aextensionSize, .ref aimage, .int 0, .ref atable, .ref asector, .ref asectors, .ref acontents, .int 0, .int 0, .int 0, .int 0, .ref aabove, .ref aisDirectory, .ref abytes, .ref aplace, .ref areadMode, .ref areadOwner, .ref areadGroup, .ref areadName, .ref areadNameSize, .ref areadTarget, .ref areadTargetSize, .ref adepth, .int 0, .int 0, .int 0, .int 0, .int 0, .int 0, .int 0])), (akind, .inl (cI, 40, .inl (fun _ => 0)))] H := hP
  have hD : va_D A [(h0, .inr (11, [.int 0, .ref atext, .int 0, .int 1, .ref akind, .ref aparent, .ref amode, .ref aowner, .ref agroup, .ref asize, .ref aseed, .ref aname, .ref anameSize, .ref atarget, .ref atargetSize, .ref abase, .ref abaseSize, .ref aextension, .ref aextensionSize, .ref aimage, .int 0, .ref atable, .ref asector, .ref asectors, .ref acontents, .int 0, .int 0, .int 0, .int 0, .ref aabove, .ref aisDirectory, .ref abytes, .ref aplace, .ref areadMode, .ref areadOwner, .ref areadGroup, .ref areadName, .ref areadNameSize, .ref areadTarget, .ref areadTargetSize, .ref adepth, .int 0, .int 0, .int 0, .int 0, .int 0, .int 0, .int 0])), (akind, .inl (cI, 40, .inl (fun _ => 0)))] := hD
  rcases hp_13 with ⟨rfl, hx1⟩ | ⟨rfl, hx1⟩
  · skip
    refine lv_if_eq (tgt := 38) hx hb d_DiscMakerModel_directory_16 (by decide) (fun h_16 => absurd h_16 (by decide)) (fun h_16 => ?_)
    refine lv_iload_n hx hb d_DiscMakerModel_directory_19 rfl (lv_at hl 3 rfl) ?_
    have hPc := hP.sub (ws' := []) [] rfl
    have hDc := hD.sub (ws' := []) [] (by decide) rfl
    have hFc := va_free (wc := []) hD hS hA [] rfl
    have hkc : 0 ≤ 0 := by decide
    have hks : 0 ≤ 0 := by decide
    refine va_calli (va_runS (As := [.int y]) (rest := [.int 0, .int 0, .int n, .ref h0]) ⟨hx, hb, hml, hown, hts⟩ (c_m_isNumber l D cB cI cJ cZ cN cF H.size y) (cwS 1 hts (lg_goodS k1594 k1595 k125 kc_DiscMakerModel_isNumber) rfl rfl rfl (by decide +kernel) ⟨Nat.le_of_ble_eq_true rfl, Nat.le_of_ble_eq_true rfl⟩) ⟨fun a U g mk q => by obtain ⟨q0, q1, qP, qK, qN, qD⟩ := q; exact ⟨q0, q1, qP, va_K.moved (u := U) (U := U.calling g mk a) (Vm.Alike.refl U.vm) qK, qN.calling, qD⟩, fun U hU hW => ⟨rfl, by rw [hU], by rw [hU]; exact hPc, va_K.moved hW.alike hK, NN.warm hW hN, hDc.weaken (fun _ _ _ _ => trivial)⟩⟩ rfl rfl hl.1 rfl (lv_room (Nat.le_of_ble_eq_true rfl)) d_DiscMakerModel_directory_20 ⟨hkc, hks⟩) hS (fun q _ h => hFc q h) hFc (fun r20 u t H1 locs ht hvm hp_20 hB hz1 hk1 hS => ?_)
    obtain ⟨hP1, hD1⟩ := hB
    rw [ht] at hP1
    try dsimp only at hp_20
    obtain ⟨hP, hD⟩ := va_join (wr := [(h0, .inr (11, [.int 0, .ref atext, .int 0, .int 1, .ref akind, .ref aparent, .ref amode, .ref aowner, .ref agroup, .ref asize, .ref aseed, .ref aname, .ref anameSize, .ref atarget, .ref atargetSize, .ref abase, .ref abaseSize, .ref aextension, .ref aextensionSize, .ref aimage, .int 0, .ref atable, .ref asector, .ref asectors, .ref acontents, .int 0, .int 0, .int 0, .int 0, .ref aabove, .ref aisDirectory, .ref abytes, .ref aplace, .ref areadMode, .ref areadOwner, .ref areadGroup, .ref areadName, .ref areadNameSize, .ref areadTarget, .ref areadTargetSize, .ref adepth, .int 0, .int 0, .int 0, .int 0, .int 0, .int 0, .int 0])), (akind, .inl (cI, 40, .inl (fun _ => 0)))]) (w1 := []) hP hD [] [0, 1] rfl rfl (by decide) (by decide) hk1 hFc hP1 hD1
    clear hPc hDc hFc hP1 hD1 hk1 hz1
    generalize H1 = H at hP hS ⊢
    have hP : va_P D CL [(h0, .inr (11, [.int 0, .ref atext, .int 0, .int 1, .ref akind, .ref aparent, .ref amode, .ref aowner, .ref agroup, .ref asize, .ref aseed, .ref aname, .ref anameSize, .ref atarget, .ref atargetSize, .ref abase, .ref abaseSize, .ref aextension, .ref aextensionSize, .ref aimage, .int 0, .ref atable, .ref asector, .ref asectors, .ref acontents, .int 0, .int 0, .int 0, .int 0, .ref aabove, .ref aisDirectory, .ref abytes, .ref aplace, .ref areadMode, .ref areadOwner, .ref areadGroup, .ref areadName, .ref areadNameSize, .ref areadTarget, .ref areadTargetSize, .ref adepth, .int 0, .int 0, .int 0, .int 0, .int 0, .int 0, .int 0])), (akind, .inl (cI, 40, .inl (fun _ => 0)))] H := hP
    have hD : va_D A [(h0, .inr (11, [.int 0, .ref atext, .int 0, .int 1, .ref akind, .ref aparent, .ref amode, .ref aowner, .ref agroup, .ref asize, .ref aseed, .ref aname, .ref anameSize, .ref atarget, .ref atargetSize, .ref abase, .ref abaseSize, .ref aextension, .ref aextensionSize, .ref aimage, .int 0, .ref atable, .ref asector, .ref asectors, .ref acontents, .int 0, .int 0, .int 0, .int 0, .ref aabove, .ref aisDirectory, .ref abytes, .ref aplace, .ref areadMode, .ref areadOwner, .ref areadGroup, .ref areadName, .ref areadNameSize, .ref areadTarget, .ref areadTargetSize, .ref adepth, .int 0, .int 0, .int 0, .int 0, .int 0, .int 0, .int 0])), (akind, .inl (cI, 40, .inl (fun _ => 0)))] := hD
    rcases hp_20 with ⟨rfl, hy1⟩ | ⟨rfl, hy1⟩
    · skip
      refine lv_if_eq (tgt := 38) hx hb d_DiscMakerModel_directory_23 (by decide) (fun h_23 => absurd h_23 (by decide)) (fun h_23 => ?_)
      refine lv_iload hx hb d_DiscMakerModel_directory_26 (lv_at hl 4 rfl) ?_
      have hPc := hP.sub (ws' := []) [] rfl
      have hDc := hD.sub (ws' := []) [] (by decide) rfl
      have hFc := va_free (wc := []) hD hS hA [] rfl
      have hkc : 0 ≤ 0 := by decide
      have hks : 0 ≤ 0 := by decide
      refine va_calli (va_runS (As := [.int z]) (rest := [.int 0, .int 0, .int n, .ref h0]) ⟨hx, hb, hml, hown, hts⟩ (c_m_isNumber l D cB cI cJ cZ cN cF H.size z) (cwS 1 hts (lg_goodS k1594 k1595 k125 kc_DiscMakerModel_isNumber) rfl rfl rfl (by decide +kernel) ⟨Nat.le_of_ble_eq_true rfl, Nat.le_of_ble_eq_true rfl⟩) ⟨fun a U g mk q => by obtain ⟨q0, q1, qP, qK, qN, qD⟩ := q; exact ⟨q0, q1, qP, va_K.moved (u := U) (U := U.calling g mk a) (Vm.Alike.refl U.vm) qK, qN.calling, qD⟩, fun U hU hW => ⟨rfl, by rw [hU], by rw [hU]; exact hPc, va_K.moved hW.alike hK, NN.warm hW hN, hDc.weaken (fun _ _ _ _ => trivial)⟩⟩ rfl rfl hl.1 rfl (lv_room (Nat.le_of_ble_eq_true rfl)) d_DiscMakerModel_directory_28 ⟨hkc, hks⟩) hS (fun q _ h => hFc q h) hFc (fun r28 u t H1 locs ht hvm hp_28 hB hz1 hk1 hS => ?_)
      obtain ⟨hP1, hD1⟩ := hB
      rw [ht] at hP1
      try dsimp only at hp_28
      obtain ⟨hP, hD⟩ := va_join (wr := [(h0, .inr (11, [.int 0, .ref atext, .int 0, .int 1, .ref akind, .ref aparent, .ref amode, .ref aowner, .ref agroup, .ref asize, .ref aseed, .ref aname, .ref anameSize, .ref atarget, .ref atargetSize, .ref abase, .ref abaseSize, .ref aextension, .ref aextensionSize, .ref aimage, .int 0, .ref atable, .ref asector, .ref asectors, .ref acontents, .int 0, .int 0, .int 0, .int 0, .ref aabove, .ref aisDirectory, .ref abytes, .ref aplace, .ref areadMode, .ref areadOwner, .ref areadGroup, .ref areadName, .ref areadNameSize, .ref areadTarget, .ref areadTargetSize, .ref adepth, .int 0, .int 0, .int 0, .int 0, .int 0, .int 0, .int 0])), (akind, .inl (cI, 40, .inl (fun _ => 0)))]) (w1 := []) hP hD [] [0, 1] rfl rfl (by decide) (by decide) hk1 hFc hP1 hD1
      clear hPc hDc hFc hP1 hD1 hk1 hz1
      generalize H1 = H at hP hS ⊢
      have hP : va_P D CL [(h0, .inr (11, [.int 0, .ref atext, .int 0, .int 1, .ref akind, .ref aparent, .ref amode, .ref aowner, .ref agroup, .ref asize, .ref aseed, .ref aname, .ref anameSize, .ref atarget, .ref atargetSize, .ref abase, .ref abaseSize, .ref aextension, .ref aextensionSize, .ref aimage, .int 0, .ref atable, .ref asector, .ref asectors, .ref acontents, .int 0, .int 0, .int 0, .int 0, .ref aabove, .ref aisDirectory, .ref abytes, .ref aplace, .ref areadMode, .ref areadOwner, .ref areadGroup, .ref areadName, .ref areadNameSize, .ref areadTarget, .ref areadTargetSize, .ref adepth, .int 0, .int 0, .int 0, .int 0, .int 0, .int 0, .int 0])), (akind, .inl (cI, 40, .inl (fun _ => 0)))] H := hP
      have hD : va_D A [(h0, .inr (11, [.int 0, .ref atext, .int 0, .int 1, .ref akind, .ref aparent, .ref amode, .ref aowner, .ref agroup, .ref asize, .ref aseed, .ref aname, .ref anameSize, .ref atarget, .ref atargetSize, .ref abase, .ref abaseSize, .ref aextension, .ref aextensionSize, .ref aimage, .int 0, .ref atable, .ref asector, .ref asectors, .ref acontents, .int 0, .int 0, .int 0, .int 0, .ref aabove, .ref aisDirectory, .ref abytes, .ref aplace, .ref areadMode, .ref areadOwner, .ref areadGroup, .ref areadName, .ref areadNameSize, .ref areadTarget, .ref areadTargetSize, .ref adepth, .int 0, .int 0, .int 0, .int 0, .int 0, .int 0, .int 0])), (akind, .inl (cI, 40, .inl (fun _ => 0)))] := hD
      rcases hp_28 with ⟨rfl, hz1⟩ | ⟨rfl, hz1⟩
      · skip
        refine lv_if_eq (tgt := 38) hx hb d_DiscMakerModel_directory_31 (by decide) (fun h_31 => absurd h_31 (by decide)) (fun h_31 => ?_)
        refine lv_iconst (v := 1) hx hb d_DiscMakerModel_directory_34 (by decide) ?_
        refine lv_goto (tgt := 39) hx hb d_DiscMakerModel_directory_35 (by decide) ?_
        have hPc := hP.sub (ws' := [(h0, .inr (11, [.int 0, .ref atext, .int 0, .int 1, .ref akind, .ref aparent, .ref amode, .ref aowner, .ref agroup, .ref asize, .ref aseed, .ref aname, .ref anameSize, .ref atarget, .ref atargetSize, .ref abase, .ref abaseSize, .ref aextension, .ref aextensionSize, .ref aimage, .int 0, .ref atable, .ref asector, .ref asectors, .ref acontents, .int 0, .int 0, .int 0, .int 0, .ref aabove, .ref aisDirectory, .ref abytes, .ref aplace, .ref areadMode, .ref areadOwner, .ref areadGroup, .ref areadName, .ref areadNameSize, .ref areadTarget, .ref areadTargetSize, .ref adepth, .int 0, .int 0, .int 0, .int 0, .int 0, .int 0, .int 0])), (akind, .inl (cI, 40, .inl (fun _ => 0)))]) [0, 1] rfl
        have hDc := hD.sub (ws' := [(h0, .inr (11, [.int 0, .ref atext, .int 0, .int 1, .ref akind, .ref aparent, .ref amode, .ref aowner, .ref agroup, .ref asize, .ref aseed, .ref aname, .ref anameSize, .ref atarget, .ref atargetSize, .ref abase, .ref abaseSize, .ref aextension, .ref aextensionSize, .ref aimage, .int 0, .ref atable, .ref asector, .ref asectors, .ref acontents, .int 0, .int 0, .int 0, .int 0, .ref aabove, .ref aisDirectory, .ref abytes, .ref aplace, .ref areadMode, .ref areadOwner, .ref areadGroup, .ref areadName, .ref areadNameSize, .ref areadTarget, .ref areadTargetSize, .ref adepth, .int 0, .int 0, .int 0, .int 0, .int 0, .int 0, .int 0])), (akind, .inl (cI, 40, .inl (fun _ => 0)))]) [0, 1] (by decide) rfl
        have hFc := va_free (wc := [(h0, .inr (11, [.int 0, .ref atext, .int 0, .int 1, .ref akind, .ref aparent, .ref amode, .ref aowner, .ref agroup, .ref asize, .ref aseed, .ref aname, .ref anameSize, .ref atarget, .ref atargetSize, .ref abase, .ref abaseSize, .ref aextension, .ref aextensionSize, .ref aimage, .int 0, .ref atable, .ref asector, .ref asectors, .ref acontents, .int 0, .int 0, .int 0, .int 0, .ref aabove, .ref aisDirectory, .ref abytes, .ref aplace, .ref areadMode, .ref areadOwner, .ref areadGroup, .ref areadName, .ref areadNameSize, .ref areadTarget, .ref areadTargetSize, .ref adepth, .int 0, .int 0, .int 0, .int 0, .int 0, .int 0, .int 0])), (akind, .inl (cI, 40, .inl (fun _ => 0)))]) hD hS hA [0, 1] rfl
        have hkc : 0 ≤ 0 := by decide
        have hks : 0 ≤ 0 := by decide
        refine va_calli (va_runV (C := "DiscMakerModel") (As := [.int n, .int 0, .int 0, .int 1]) (rest := []) ⟨hx, hb, hml, hown, hts⟩ (c_m_add1 l D cB cI cJ cZ cN cF H.size h0 atext akind aparent amode aowner agroup asize aseed aname anameSize atarget atargetSize abase abaseSize aextension aextensionSize aimage atable asector asectors acontents aabove aisDirectory abytes aplace areadMode areadOwner areadGroup areadName areadNameSize areadTarget areadTargetSize adepth n 0) (cwV 4 hts (lg_goodV k1598 k1600 k52 k125 kc_DiscMakerModel_add) rfl rfl rfl (by decide +kernel) ⟨Nat.le_of_ble_eq_true rfl, Nat.le_of_ble_eq_true rfl⟩) ⟨fun a U g mk q => by obtain ⟨q0, q1, qP, qK, qN, qD⟩ := q; exact ⟨q0, q1, qP, va_K.moved (u := U) (U := U.calling g mk a) (Vm.Alike.refl U.vm) qK, qN.calling, qD⟩, va_recv hK hP (ci := 11) (q0 := 0) rfl rfl, fun U hU hW => ⟨rfl, by rw [hU], by rw [hU]; exact hPc, va_K.moved hW.alike hK, NN.warm hW hN, hDc.weaken (fun _ _ _ _ => trivial)⟩⟩ rfl rfl hl.1 rfl (lv_room (Nat.le_of_ble_eq_true rfl)) d_DiscMakerModel_directory_39 ⟨hkc, hks⟩) hS (fun q _ h => hFc q h) hFc (fun r39 u t H1 locs ht hvm hp_39 hB hz1 hk1 hS => ?_)
        obtain ⟨hP1, hD1⟩ := hB
        rw [ht] at hP1
        try dsimp only at hp_39
        obtain ⟨hP, hD⟩ := va_join (wr := []) (w1 := []) hP hD [0, 1] [] rfl rfl (by decide) (by decide) hk1 hFc hP1 hD1
        clear hPc hDc hFc hP1 hD1 hk1 hz1
        generalize H1 = H at hP hS ⊢
        have hP : va_P D CL [] H := hP
        have hD : va_D A [] := hD
        refine W.eq (g2 := F0 m 42 ls [.int (-4)]) (by rw [show r39 = (-4) from hp_39]) ?_
        refine lv_istore hx hb d_DiscMakerModel_directory_42 hl (by decide) rfl (fun ls hl => ?_)
        have hl : lv_has ls 6 [(5, .int (-4)), (0, .ref h0), (1, .int n), (2, .int x), (3, .int y), (4, .int z)] := hl
        refine lv_iload hx hb d_DiscMakerModel_directory_44 (lv_at hl 0 rfl) ?_
        refine lv_if_ge (tgt := 52) hx hb d_DiscMakerModel_directory_46 (by decide) (fun h_46 => absurd h_46 (by decide)) (fun h_46 => ?_)
        refine lv_iload hx hb d_DiscMakerModel_directory_49 (lv_at hl 0 rfl) ?_
        have hP9 := hP.sub (ws' := []) [] rfl
        have hD9 := hD.sub (ws' := []) [] (by decide) rfl
        exact W.iret (v := (-4)) hx hb hr (fun t ht hW => ⟨⟨(-4), (), rfl, rfl, by rw [ht]; exact hP9, hD9⟩, hS.F ht⟩) hS.2.2 d_DiscMakerModel_directory_51
      · skip
        refine lv_if_eq (tgt := 38) hx hb d_DiscMakerModel_directory_31 (by decide) (fun h_31 => ?_) (fun h_31 => absurd (by decide) h_31)
        refine lv_iconst (v := 0) hx hb d_DiscMakerModel_directory_38 (by decide) ?_
        have hPc := hP.sub (ws' := [(h0, .inr (11, [.int 0, .ref atext, .int 0, .int 1, .ref akind, .ref aparent, .ref amode, .ref aowner, .ref agroup, .ref asize, .ref aseed, .ref aname, .ref anameSize, .ref atarget, .ref atargetSize, .ref abase, .ref abaseSize, .ref aextension, .ref aextensionSize, .ref aimage, .int 0, .ref atable, .ref asector, .ref asectors, .ref acontents, .int 0, .int 0, .int 0, .int 0, .ref aabove, .ref aisDirectory, .ref abytes, .ref aplace, .ref areadMode, .ref areadOwner, .ref areadGroup, .ref areadName, .ref areadNameSize, .ref areadTarget, .ref areadTargetSize, .ref adepth, .int 0, .int 0, .int 0, .int 0, .int 0, .int 0, .int 0])), (akind, .inl (cI, 40, .inl (fun _ => 0)))]) [0, 1] rfl
        have hDc := hD.sub (ws' := [(h0, .inr (11, [.int 0, .ref atext, .int 0, .int 1, .ref akind, .ref aparent, .ref amode, .ref aowner, .ref agroup, .ref asize, .ref aseed, .ref aname, .ref anameSize, .ref atarget, .ref atargetSize, .ref abase, .ref abaseSize, .ref aextension, .ref aextensionSize, .ref aimage, .int 0, .ref atable, .ref asector, .ref asectors, .ref acontents, .int 0, .int 0, .int 0, .int 0, .ref aabove, .ref aisDirectory, .ref abytes, .ref aplace, .ref areadMode, .ref areadOwner, .ref areadGroup, .ref areadName, .ref areadNameSize, .ref areadTarget, .ref areadTargetSize, .ref adepth, .int 0, .int 0, .int 0, .int 0, .int 0, .int 0, .int 0])), (akind, .inl (cI, 40, .inl (fun _ => 0)))]) [0, 1] (by decide) rfl
        have hFc := va_free (wc := [(h0, .inr (11, [.int 0, .ref atext, .int 0, .int 1, .ref akind, .ref aparent, .ref amode, .ref aowner, .ref agroup, .ref asize, .ref aseed, .ref aname, .ref anameSize, .ref atarget, .ref atargetSize, .ref abase, .ref abaseSize, .ref aextension, .ref aextensionSize, .ref aimage, .int 0, .ref atable, .ref asector, .ref asectors, .ref acontents, .int 0, .int 0, .int 0, .int 0, .ref aabove, .ref aisDirectory, .ref abytes, .ref aplace, .ref areadMode, .ref areadOwner, .ref areadGroup, .ref areadName, .ref areadNameSize, .ref areadTarget, .ref areadTargetSize, .ref adepth, .int 0, .int 0, .int 0, .int 0, .int 0, .int 0, .int 0])), (akind, .inl (cI, 40, .inl (fun _ => 0)))]) hD hS hA [0, 1] rfl
        have hkc : 0 ≤ 0 := by decide
        have hks : 0 ≤ 0 := by decide
        refine va_calli (va_runV (C := "DiscMakerModel") (As := [.int n, .int 0, .int 0, .int 0]) (rest := []) ⟨hx, hb, hml, hown, hts⟩ (c_m_add0 l D cB cI cJ cZ cN cF H.size h0 atext akind aparent amode aowner agroup asize aseed aname anameSize atarget atargetSize abase abaseSize aextension aextensionSize aimage atable asector asectors acontents aabove aisDirectory abytes aplace areadMode areadOwner areadGroup areadName areadNameSize areadTarget areadTargetSize adepth n 0) (cwV 4 hts (lg_goodV k1598 k1600 k52 k125 kc_DiscMakerModel_add) rfl rfl rfl (by decide +kernel) ⟨Nat.le_of_ble_eq_true rfl, Nat.le_of_ble_eq_true rfl⟩) ⟨fun a U g mk q => by obtain ⟨q0, q1, qP, qK, qN, qD⟩ := q; exact ⟨q0, q1, qP, va_K.moved (u := U) (U := U.calling g mk a) (Vm.Alike.refl U.vm) qK, qN.calling, qD⟩, va_recv hK hP (ci := 11) (q0 := 0) rfl rfl, fun U hU hW => ⟨rfl, by rw [hU], by rw [hU]; exact hPc, va_K.moved hW.alike hK, NN.warm hW hN, hDc.weaken (fun _ _ _ _ => trivial)⟩⟩ rfl rfl hl.1 rfl (lv_room (Nat.le_of_ble_eq_true rfl)) d_DiscMakerModel_directory_39 ⟨hkc, hks⟩) hS (fun q _ h => hFc q h) hFc (fun r39 u t H1 locs ht hvm hp_39 hB hz1 hk1 hS => ?_)
        obtain ⟨hP1, hD1⟩ := hB
        rw [ht] at hP1
        try dsimp only at hp_39
        obtain ⟨hP, hD⟩ := va_join (wr := []) (w1 := []) hP hD [0, 1] [] rfl rfl (by decide) (by decide) hk1 hFc hP1 hD1
        clear hPc hDc hFc hP1 hD1 hk1 hz1
        generalize H1 = H at hP hS ⊢
        have hP : va_P D CL [] H := hP
        have hD : va_D A [] := hD
        refine W.eq (g2 := F0 m 42 ls [.int (-4)]) (by rw [show r39 = (-4) from hp_39]) ?_
        refine lv_istore hx hb d_DiscMakerModel_directory_42 hl (by decide) rfl (fun ls hl => ?_)
        have hl : lv_has ls 6 [(5, .int (-4)), (0, .ref h0), (1, .int n), (2, .int x), (3, .int y), (4, .int z)] := hl
        refine lv_iload hx hb d_DiscMakerModel_directory_44 (lv_at hl 0 rfl) ?_
        refine lv_if_ge (tgt := 52) hx hb d_DiscMakerModel_directory_46 (by decide) (fun h_46 => absurd h_46 (by decide)) (fun h_46 => ?_)
        refine lv_iload hx hb d_DiscMakerModel_directory_49 (lv_at hl 0 rfl) ?_
        have hP9 := hP.sub (ws' := []) [] rfl
        have hD9 := hD.sub (ws' := []) [] (by decide) rfl
        exact W.iret (v := (-4)) hx hb hr (fun t ht hW => ⟨⟨(-4), (), rfl, rfl, by rw [ht]; exact hP9, hD9⟩, hS.F ht⟩) hS.2.2 d_DiscMakerModel_directory_51
    · skip
      refine lv_if_eq (tgt := 38) hx hb d_DiscMakerModel_directory_23 (by decide) (fun h_23 => ?_) (fun h_23 => absurd (by decide) h_23)
      refine lv_iconst (v := 0) hx hb d_DiscMakerModel_directory_38 (by decide) ?_
      have hPc := hP.sub (ws' := [(h0, .inr (11, [.int 0, .ref atext, .int 0, .int 1, .ref akind, .ref aparent, .ref amode, .ref aowner, .ref agroup, .ref asize, .ref aseed, .ref aname, .ref anameSize, .ref atarget, .ref atargetSize, .ref abase, .ref abaseSize, .ref aextension, .ref aextensionSize, .ref aimage, .int 0, .ref atable, .ref asector, .ref asectors, .ref acontents, .int 0, .int 0, .int 0, .int 0, .ref aabove, .ref aisDirectory, .ref abytes, .ref aplace, .ref areadMode, .ref areadOwner, .ref areadGroup, .ref areadName, .ref areadNameSize, .ref areadTarget, .ref areadTargetSize, .ref adepth, .int 0, .int 0, .int 0, .int 0, .int 0, .int 0, .int 0])), (akind, .inl (cI, 40, .inl (fun _ => 0)))]) [0, 1] rfl
      have hDc := hD.sub (ws' := [(h0, .inr (11, [.int 0, .ref atext, .int 0, .int 1, .ref akind, .ref aparent, .ref amode, .ref aowner, .ref agroup, .ref asize, .ref aseed, .ref aname, .ref anameSize, .ref atarget, .ref atargetSize, .ref abase, .ref abaseSize, .ref aextension, .ref aextensionSize, .ref aimage, .int 0, .ref atable, .ref asector, .ref asectors, .ref acontents, .int 0, .int 0, .int 0, .int 0, .ref aabove, .ref aisDirectory, .ref abytes, .ref aplace, .ref areadMode, .ref areadOwner, .ref areadGroup, .ref areadName, .ref areadNameSize, .ref areadTarget, .ref areadTargetSize, .ref adepth, .int 0, .int 0, .int 0, .int 0, .int 0, .int 0, .int 0])), (akind, .inl (cI, 40, .inl (fun _ => 0)))]) [0, 1] (by decide) rfl
      have hFc := va_free (wc := [(h0, .inr (11, [.int 0, .ref atext, .int 0, .int 1, .ref akind, .ref aparent, .ref amode, .ref aowner, .ref agroup, .ref asize, .ref aseed, .ref aname, .ref anameSize, .ref atarget, .ref atargetSize, .ref abase, .ref abaseSize, .ref aextension, .ref aextensionSize, .ref aimage, .int 0, .ref atable, .ref asector, .ref asectors, .ref acontents, .int 0, .int 0, .int 0, .int 0, .ref aabove, .ref aisDirectory, .ref abytes, .ref aplace, .ref areadMode, .ref areadOwner, .ref areadGroup, .ref areadName, .ref areadNameSize, .ref areadTarget, .ref areadTargetSize, .ref adepth, .int 0, .int 0, .int 0, .int 0, .int 0, .int 0, .int 0])), (akind, .inl (cI, 40, .inl (fun _ => 0)))]) hD hS hA [0, 1] rfl
      have hkc : 0 ≤ 0 := by decide
      have hks : 0 ≤ 0 := by decide
      refine va_calli (va_runV (C := "DiscMakerModel") (As := [.int n, .int 0, .int 0, .int 0]) (rest := []) ⟨hx, hb, hml, hown, hts⟩ (c_m_add0 l D cB cI cJ cZ cN cF H.size h0 atext akind aparent amode aowner agroup asize aseed aname anameSize atarget atargetSize abase abaseSize aextension aextensionSize aimage atable asector asectors acontents aabove aisDirectory abytes aplace areadMode areadOwner areadGroup areadName areadNameSize areadTarget areadTargetSize adepth n 0) (cwV 4 hts (lg_goodV k1598 k1600 k52 k125 kc_DiscMakerModel_add) rfl rfl rfl (by decide +kernel) ⟨Nat.le_of_ble_eq_true rfl, Nat.le_of_ble_eq_true rfl⟩) ⟨fun a U g mk q => by obtain ⟨q0, q1, qP, qK, qN, qD⟩ := q; exact ⟨q0, q1, qP, va_K.moved (u := U) (U := U.calling g mk a) (Vm.Alike.refl U.vm) qK, qN.calling, qD⟩, va_recv hK hP (ci := 11) (q0 := 0) rfl rfl, fun U hU hW => ⟨rfl, by rw [hU], by rw [hU]; exact hPc, va_K.moved hW.alike hK, NN.warm hW hN, hDc.weaken (fun _ _ _ _ => trivial)⟩⟩ rfl rfl hl.1 rfl (lv_room (Nat.le_of_ble_eq_true rfl)) d_DiscMakerModel_directory_39 ⟨hkc, hks⟩) hS (fun q _ h => hFc q h) hFc (fun r39 u t H1 locs ht hvm hp_39 hB hz1 hk1 hS => ?_)
      obtain ⟨hP1, hD1⟩ := hB
      rw [ht] at hP1
      try dsimp only at hp_39
      obtain ⟨hP, hD⟩ := va_join (wr := []) (w1 := []) hP hD [0, 1] [] rfl rfl (by decide) (by decide) hk1 hFc hP1 hD1
      clear hPc hDc hFc hP1 hD1 hk1 hz1
      generalize H1 = H at hP hS ⊢
      have hP : va_P D CL [] H := hP
      have hD : va_D A [] := hD
      refine W.eq (g2 := F0 m 42 ls [.int (-4)]) (by rw [show r39 = (-4) from hp_39]) ?_
      refine lv_istore hx hb d_DiscMakerModel_directory_42 hl (by decide) rfl (fun ls hl => ?_)
      have hl : lv_has ls 6 [(5, .int (-4)), (0, .ref h0), (1, .int n), (2, .int x), (3, .int y), (4, .int z)] := hl
      refine lv_iload hx hb d_DiscMakerModel_directory_44 (lv_at hl 0 rfl) ?_
      refine lv_if_ge (tgt := 52) hx hb d_DiscMakerModel_directory_46 (by decide) (fun h_46 => absurd h_46 (by decide)) (fun h_46 => ?_)
      refine lv_iload hx hb d_DiscMakerModel_directory_49 (lv_at hl 0 rfl) ?_
      have hP9 := hP.sub (ws' := []) [] rfl
      have hD9 := hD.sub (ws' := []) [] (by decide) rfl
      exact W.iret (v := (-4)) hx hb hr (fun t ht hW => ⟨⟨(-4), (), rfl, rfl, by rw [ht]; exact hP9, hD9⟩, hS.F ht⟩) hS.2.2 d_DiscMakerModel_directory_51
  · skip
    refine lv_if_eq (tgt := 38) hx hb d_DiscMakerModel_directory_16 (by decide) (fun h_16 => ?_) (fun h_16 => absurd (by decide) h_16)
    refine lv_iconst (v := 0) hx hb d_DiscMakerModel_directory_38 (by decide) ?_
    have hPc := hP.sub (ws' := [(h0, .inr (11, [.int 0, .ref atext, .int 0, .int 1, .ref akind, .ref aparent, .ref amode, .ref aowner, .ref agroup, .ref asize, .ref aseed, .ref aname, .ref anameSize, .ref atarget, .ref atargetSize, .ref abase, .ref abaseSize, .ref aextension, .ref aextensionSize, .ref aimage, .int 0, .ref atable, .ref asector, .ref asectors, .ref acontents, .int 0, .int 0, .int 0, .int 0, .ref aabove, .ref aisDirectory, .ref abytes, .ref aplace, .ref areadMode, .ref areadOwner, .ref areadGroup, .ref areadName, .ref areadNameSize, .ref areadTarget, .ref areadTargetSize, .ref adepth, .int 0, .int 0, .int 0, .int 0, .int 0, .int 0, .int 0])), (akind, .inl (cI, 40, .inl (fun _ => 0)))]) [0, 1] rfl
    have hDc := hD.sub (ws' := [(h0, .inr (11, [.int 0, .ref atext, .int 0, .int 1, .ref akind, .ref aparent, .ref amode, .ref aowner, .ref agroup, .ref asize, .ref aseed, .ref aname, .ref anameSize, .ref atarget, .ref atargetSize, .ref abase, .ref abaseSize, .ref aextension, .ref aextensionSize, .ref aimage, .int 0, .ref atable, .ref asector, .ref asectors, .ref acontents, .int 0, .int 0, .int 0, .int 0, .ref aabove, .ref aisDirectory, .ref abytes, .ref aplace, .ref areadMode, .ref areadOwner, .ref areadGroup, .ref areadName, .ref areadNameSize, .ref areadTarget, .ref areadTargetSize, .ref adepth, .int 0, .int 0, .int 0, .int 0, .int 0, .int 0, .int 0])), (akind, .inl (cI, 40, .inl (fun _ => 0)))]) [0, 1] (by decide) rfl
    have hFc := va_free (wc := [(h0, .inr (11, [.int 0, .ref atext, .int 0, .int 1, .ref akind, .ref aparent, .ref amode, .ref aowner, .ref agroup, .ref asize, .ref aseed, .ref aname, .ref anameSize, .ref atarget, .ref atargetSize, .ref abase, .ref abaseSize, .ref aextension, .ref aextensionSize, .ref aimage, .int 0, .ref atable, .ref asector, .ref asectors, .ref acontents, .int 0, .int 0, .int 0, .int 0, .ref aabove, .ref aisDirectory, .ref abytes, .ref aplace, .ref areadMode, .ref areadOwner, .ref areadGroup, .ref areadName, .ref areadNameSize, .ref areadTarget, .ref areadTargetSize, .ref adepth, .int 0, .int 0, .int 0, .int 0, .int 0, .int 0, .int 0])), (akind, .inl (cI, 40, .inl (fun _ => 0)))]) hD hS hA [0, 1] rfl
    have hkc : 0 ≤ 0 := by decide
    have hks : 0 ≤ 0 := by decide
    refine va_calli (va_runV (C := "DiscMakerModel") (As := [.int n, .int 0, .int 0, .int 0]) (rest := []) ⟨hx, hb, hml, hown, hts⟩ (c_m_add0 l D cB cI cJ cZ cN cF H.size h0 atext akind aparent amode aowner agroup asize aseed aname anameSize atarget atargetSize abase abaseSize aextension aextensionSize aimage atable asector asectors acontents aabove aisDirectory abytes aplace areadMode areadOwner areadGroup areadName areadNameSize areadTarget areadTargetSize adepth n 0) (cwV 4 hts (lg_goodV k1598 k1600 k52 k125 kc_DiscMakerModel_add) rfl rfl rfl (by decide +kernel) ⟨Nat.le_of_ble_eq_true rfl, Nat.le_of_ble_eq_true rfl⟩) ⟨fun a U g mk q => by obtain ⟨q0, q1, qP, qK, qN, qD⟩ := q; exact ⟨q0, q1, qP, va_K.moved (u := U) (U := U.calling g mk a) (Vm.Alike.refl U.vm) qK, qN.calling, qD⟩, va_recv hK hP (ci := 11) (q0 := 0) rfl rfl, fun U hU hW => ⟨rfl, by rw [hU], by rw [hU]; exact hPc, va_K.moved hW.alike hK, NN.warm hW hN, hDc.weaken (fun _ _ _ _ => trivial)⟩⟩ rfl rfl hl.1 rfl (lv_room (Nat.le_of_ble_eq_true rfl)) d_DiscMakerModel_directory_39 ⟨hkc, hks⟩) hS (fun q _ h => hFc q h) hFc (fun r39 u t H1 locs ht hvm hp_39 hB hz1 hk1 hS => ?_)
    obtain ⟨hP1, hD1⟩ := hB
    rw [ht] at hP1
    try dsimp only at hp_39
    obtain ⟨hP, hD⟩ := va_join (wr := []) (w1 := []) hP hD [0, 1] [] rfl rfl (by decide) (by decide) hk1 hFc hP1 hD1
    clear hPc hDc hFc hP1 hD1 hk1 hz1
    generalize H1 = H at hP hS ⊢
    have hP : va_P D CL [] H := hP
    have hD : va_D A [] := hD
    refine W.eq (g2 := F0 m 42 ls [.int (-4)]) (by rw [show r39 = (-4) from hp_39]) ?_
    refine lv_istore hx hb d_DiscMakerModel_directory_42 hl (by decide) rfl (fun ls hl => ?_)
    have hl : lv_has ls 6 [(5, .int (-4)), (0, .ref h0), (1, .int n), (2, .int x), (3, .int y), (4, .int z)] := hl
    refine lv_iload hx hb d_DiscMakerModel_directory_44 (lv_at hl 0 rfl) ?_
    refine lv_if_ge (tgt := 52) hx hb d_DiscMakerModel_directory_46 (by decide) (fun h_46 => absurd h_46 (by decide)) (fun h_46 => ?_)
    refine lv_iload hx hb d_DiscMakerModel_directory_49 (lv_at hl 0 rfl) ?_
    have hP9 := hP.sub (ws' := []) [] rfl
    have hD9 := hD.sub (ws' := []) [] (by decide) rfl
    exact W.iret (v := (-4)) hx hb hr (fun t ht hW => ⟨⟨(-4), (), rfl, rfl, by rw [ht]; exact hP9, hD9⟩, hS.F ht⟩) hS.2.2 d_DiscMakerModel_directory_51

theorem d_DiscMakerModel_file_0 : decode b_DiscMakerModel_file 0 = .ok (.aload_n 0, 1) := by decide +kernel
theorem d_DiscMakerModel_file_1 : decode b_DiscMakerModel_file 1 = .ok (.iconst 0, 1) := by decide +kernel
theorem d_DiscMakerModel_file_2 : decode b_DiscMakerModel_file 2 = .ok (.putfield 118, 3) := by decide +kernel
theorem d_DiscMakerModel_file_5 : decode b_DiscMakerModel_file 5 = .ok (.aload_n 0, 1) := by decide +kernel
theorem d_DiscMakerModel_file_6 : decode b_DiscMakerModel_file 6 = .ok (.iload_n 1, 1) := by decide +kernel
theorem d_DiscMakerModel_file_7 : decode b_DiscMakerModel_file 7 = .ok (.iconst 1, 1) := by decide +kernel
theorem d_DiscMakerModel_file_8 : decode b_DiscMakerModel_file 8 = .ok (.aload_n 0, 1) := by decide +kernel
theorem d_DiscMakerModel_file_9 : decode b_DiscMakerModel_file 9 = .ok (.getfield 121, 3) := by decide +kernel
theorem d_DiscMakerModel_file_12 : decode b_DiscMakerModel_file 12 = .ok (.iload_n 2, 1) := by decide +kernel
theorem d_DiscMakerModel_file_13 : decode b_DiscMakerModel_file 13 = .ok (.ifCond .lt 25, 3) := by decide +kernel
theorem d_DiscMakerModel_file_16 : decode b_DiscMakerModel_file 16 = .ok (.iload_n 2, 1) := by decide +kernel
theorem d_DiscMakerModel_file_17 : decode b_DiscMakerModel_file 17 = .ok (.sipush 4100, 3) := by decide +kernel
theorem d_DiscMakerModel_file_20 : decode b_DiscMakerModel_file 20 = .ok (.if_icmp .gt 18, 3) := by decide +kernel
theorem d_DiscMakerModel_file_23 : decode b_DiscMakerModel_file 23 = .ok (.iload_n 3, 1) := by decide +kernel
theorem d_DiscMakerModel_file_24 : decode b_DiscMakerModel_file 24 = .ok (.ifCond .lt 14, 3) := by decide +kernel
theorem d_DiscMakerModel_file_27 : decode b_DiscMakerModel_file 27 = .ok (.iload_n 3, 1) := by decide +kernel
theorem d_DiscMakerModel_file_28 : decode b_DiscMakerModel_file 28 = .ok (.sipush 255, 3) := by decide +kernel
theorem d_DiscMakerModel_file_31 : decode b_DiscMakerModel_file 31 = .ok (.if_icmp .gt 7, 3) := by decide +kernel
theorem d_DiscMakerModel_file_34 : decode b_DiscMakerModel_file 34 = .ok (.iconst 1, 1) := by decide +kernel
theorem d_DiscMakerModel_file_35 : decode b_DiscMakerModel_file 35 = .ok (.goto 4, 3) := by decide +kernel
theorem d_DiscMakerModel_file_38 : decode b_DiscMakerModel_file 38 = .ok (.iconst 0, 1) := by decide +kernel
theorem d_DiscMakerModel_file_39 : decode b_DiscMakerModel_file 39 = .ok (.invokevirtual 156, 3) := by decide +kernel
theorem d_DiscMakerModel_file_42 : decode b_DiscMakerModel_file 42 = .ok (.istore 4, 2) := by decide +kernel
theorem d_DiscMakerModel_file_44 : decode b_DiscMakerModel_file 44 = .ok (.iload 4, 2) := by decide +kernel
theorem d_DiscMakerModel_file_46 : decode b_DiscMakerModel_file 46 = .ok (.ifCond .ge 6, 3) := by decide +kernel
theorem d_DiscMakerModel_file_49 : decode b_DiscMakerModel_file 49 = .ok (.iload 4, 2) := by decide +kernel
theorem d_DiscMakerModel_file_51 : decode b_DiscMakerModel_file 51 = .ok (.ireturn, 1) := by decide +kernel
set_option maxHeartbeats 4000000 in
set_option maxRecDepth 100000 in
theorem c_m_file (l : Launch) (D : va_G) (cB cI cJ cZ cN cF : ClassId) (sz : Nat) (h0 atext akind aparent amode aowner agroup asize aseed aname anameSize atarget atargetSize abase abaseSize aextension aextensionSize aimage atable asector asectors acontents aabove aisDirectory abytes aplace areadMode areadOwner areadGroup areadName areadNameSize areadTarget areadTargetSize adepth : Nat) (n x y : Int32) : Met l y_DiscMakerModel_file w_DiscMakerModel_file ({ frames := 2, cells := 0, slots := 0, locals := 51 }) (va_Pc [.ref h0, .int n, .int x, .int y] (fun U => U.heap.size = sz ∧ va_P D CL [(h0, .inr (11, [.int 0, .ref atext, .int 0, .int 1, .ref akind, .ref aparent, .ref amode, .ref aowner, .ref agroup, .ref asize, .ref aseed, .ref aname, .ref anameSize, .ref atarget, .ref atargetSize, .ref abase, .ref abaseSize, .ref aextension, .ref aextensionSize, .ref aimage, .int 0, .ref atable, .ref asector, .ref asectors, .ref acontents, .int 0, .int 0, .int 0, .int 0, .ref aabove, .ref aisDirectory, .ref abytes, .ref aplace, .ref areadMode, .ref areadOwner, .ref areadGroup, .ref areadName, .ref areadNameSize, .ref areadTarget, .ref areadTargetSize, .ref adepth, .int 0, .int 0, .int 0, .int 0, .int 0, .int 0, .int 0])), (akind, .inl (cI, 40, .inl (fun _ => 0)))] U.heap ∧ va_K D CL (TY cB cI cJ cZ cN cF) U ∧ NN U ∧ va_D (fun _ => True) [(h0, .inr (11, [.int 0, .ref atext, .int 0, .int 1, .ref akind, .ref aparent, .ref amode, .ref aowner, .ref agroup, .ref asize, .ref aseed, .ref aname, .ref anameSize, .ref atarget, .ref atargetSize, .ref abase, .ref abaseSize, .ref aextension, .ref aextensionSize, .ref aimage, .int 0, .ref atable, .ref asector, .ref asectors, .ref acontents, .int 0, .int 0, .int 0, .int 0, .ref aabove, .ref aisDirectory, .ref abytes, .ref aplace, .ref areadMode, .ref areadOwner, .ref areadGroup, .ref areadName, .ref areadNameSize, .ref areadTarget, .ref areadTargetSize, .ref adepth, .int 0, .int 0, .int 0, .int 0, .int 0, .int 0, .int 0])), (akind, .inl (cI, 40, .inl (fun _ => 0)))])) (va_Qi (fun (r : Int32) (u : Unit) => r = (-4)) (fun (u : Unit) (t : State) => match u with | () => va_P D CL [] t.heap ∧ va_D (va_A [(h0, .inr (11, [.int 0, .ref atext, .int 0, .int 1, .ref akind, .ref aparent, .ref amode, .ref aowner, .ref agroup, .ref asize, .ref aseed, .ref aname, .ref anameSize, .ref atarget, .ref atargetSize, .ref abase, .ref abaseSize, .ref aextension, .ref aextensionSize, .ref aimage, .int 0, .ref atable, .ref asector, .ref asectors, .ref acontents, .int 0, .int 0, .int 0, .int 0, .ref aabove, .ref aisDirectory, .ref abytes, .ref aplace, .ref areadMode, .ref areadOwner, .ref areadGroup, .ref areadName, .ref areadNameSize, .ref areadTarget, .ref areadTargetSize, .ref adepth, .int 0, .int 0, .int 0, .int 0, .int 0, .int 0, .int 0])), (akind, .inl (cI, 40, .inl (fun _ => 0)))] sz) []) (va_A [(h0, .inr (11, [.int 0, .ref atext, .int 0, .int 1, .ref akind, .ref aparent, .ref amode, .ref aowner, .ref agroup, .ref asize, .ref aseed, .ref aname, .ref anameSize, .ref atarget, .ref atargetSize, .ref abase, .ref abaseSize, .ref aextension, .ref aextensionSize, .ref aimage, .int 0, .ref atable, .ref asector, .ref asectors, .ref acontents, .int 0, .int 0, .int 0, .int 0, .ref aabove, .ref aisDirectory, .ref abytes, .ref aplace, .ref areadMode, .ref areadOwner, .ref areadGroup, .ref areadName, .ref areadNameSize, .ref areadTarget, .ref areadTargetSize, .ref adepth, .int 0, .int 0, .int 0, .int 0, .int 0, .int 0, .int 0])), (akind, .inl (cI, 40, .inl (fun _ => 0)))] sz)) 0 0 (va_A [(h0, .inr (11, [.int 0, .ref atext, .int 0, .int 1, .ref akind, .ref aparent, .ref amode, .ref aowner, .ref agroup, .ref asize, .ref aseed, .ref aname, .ref anameSize, .ref atarget, .ref atargetSize, .ref abase, .ref abaseSize, .ref aextension, .ref aextensionSize, .ref aimage, .int 0, .ref atable, .ref asector, .ref asectors, .ref acontents, .int 0, .int 0, .int 0, .int 0, .ref aabove, .ref aisDirectory, .ref abytes, .ref aplace, .ref areadMode, .ref areadOwner, .ref areadGroup, .ref areadName, .ref areadNameSize, .ref areadTarget, .ref areadTargetSize, .ref adepth, .int 0, .int 0, .int 0, .int 0, .int 0, .int 0, .int 0])), (akind, .inl (cI, 40, .inl (fun _ => 0)))] sz) := by
  refine Met.ofW (cc := b_DiscMakerModel_file) (maxL := 5) (ret := some .int) (by decide) rfl ?_
  intro p e s m args below meth c s₁ B hml hv
  obtain ⟨rfl, hsz, hP, hK, hN, hD0⟩ := hv
  have hx := B.exec
  have hb := B.bytes
  have hr := B.returns
  have hts := atoms_spec (ws := w_DiscMakerModel_file) B.pre
  have ht9 := fun (w : Cond) (h : w ∈ lw_g) => hts w (List.mem_cons_of_mem _ h)
  have hown : s.vm.findClass "DiscMakerModel" = some m.cls := findClass_of_methodNamed B.named
  have hlocks := B.notSynchronized
  subst hsz
  have hD := hD0.self (sz := s.heap.size)
  generalize hAe : va_A [(h0, .inr (11, [.int 0, .ref atext, .int 0, .int 1, .ref akind, .ref aparent, .ref amode, .ref aowner, .ref agroup, .ref asize, .ref aseed, .ref aname, .ref anameSize, .ref atarget, .ref atargetSize, .ref abase, .ref abaseSize, .ref aextension, .ref aextensionSize, .ref aimage, .int 0, .ref atable, .ref asector, .ref asectors, .ref acontents, .int 0, .int 0, .int 0, .int 0, .ref aabove, .ref aisDirectory, .ref abytes, .ref aplace, .ref areadMode, .ref areadOwner, .ref areadGroup, .ref areadName, .ref areadNameSize, .ref areadTarget, .ref areadTargetSize, .ref adepth, .int 0, .int 0, .int 0, .int 0, .int 0, .int 0, .int 0])), (akind, .inl (cI, 40, .inl (fun _ => 0)))] s.heap.size = A at hD ⊢
  have hA : ∀ q : Nat, s.heap.size ≤ q → A q := fun q h => by rw [← hAe]; exact Or.inr h
  have hS : va_S A s.heap s.heap [] := va_S.rf
  have hP : va_P D CL [(h0, .inr (11, [.int 0, .ref atext, .int 0, .int 1, .ref akind, .ref aparent, .ref amode, .ref aowner, .ref agroup, .ref asize, .ref aseed, .ref aname, .ref anameSize, .ref atarget, .ref atargetSize, .ref abase, .ref abaseSize, .ref aextension, .ref aextensionSize, .ref aimage, .int 0, .ref atable, .ref asector, .ref asectors, .ref acontents, .int 0, .int 0, .int 0, .int 0, .ref aabove, .ref aisDirectory, .ref abytes, .ref aplace, .ref areadMode, .ref areadOwner, .ref areadGroup, .ref areadName, .ref areadNameSize, .ref areadTarget, .ref areadTargetSize, .ref adepth, .int 0, .int 0, .int 0, .int 0, .int 0, .int 0, .int 0])), (akind, .inl (cI, 40, .inl (fun _ => 0)))] s.heap := hP
  have hl := lv_entry [.ref h0, .int n, .int x, .int y] (n := 5) (Nat.le_of_ble_eq_true rfl)
  rw [lg_entry_eq]
  generalize (lg_sl [.ref h0, .int n, .int x, .int y] ++ List.replicate (5 - (lg_sl [.ref h0, .int n, .int x, .int y]).length) Slot.unset).toArray = ls at hl ⊢
  have hl : lv_has ls 5 [(0, .ref h0), (1, .int n), (2, .int x), (3, .int y)] := hl
  refine lv_aload_n hx hb d_DiscMakerModel_file_0 rfl (lv_at hl 0 rfl) ?_
  refine lv_iconst (v := 0) hx hb d_DiscMakerModel_file_1 (by decide) ?_
  refine va_put (D := D) (ci := 11) (v := .int 0) (ty := .int) (C := "DiscMakerModel") (T := F_DiscMakerModel) (N := 48) hx hb ht9 in_DiscMakerModel t_DiscMakerModel t_DiscMakerModel_ok n_DiscMakerModel hown hK hP hD hS 0 rfl rfl 0 (by decide) (ht9 _ k1431) (fun _ h9 => h9) rfl (by decide +kernel) rfl rfl (Nat.le_of_ble_eq_true rfl) d_DiscMakerModel_file_2 (fun H locs hP hD hS => ?_)
  have hP : va_P D CL [(h0, .inr (11, [.int 0, .ref atext, .int 0, .int 1, .ref akind, .ref aparent, .ref amode, .ref aowner, .ref agroup, .ref asize, .ref aseed, .ref aname, .ref anameSize, .ref atarget, .ref atargetSize, .ref abase, .ref abaseSize, .ref aextension, .ref aextensionSize, .ref aimage, .int 0, .ref atable, .ref asector, .ref asectors, .ref acontents, .int 0, .int 0, .int 0, .int 0, .ref aabove, .ref aisDirectory, .ref abytes, .ref aplace, .ref areadMode, .ref areadOwner, .ref areadGroup, .ref areadName, .ref areadNameSize, .ref areadTarget, .ref areadTargetSize, .ref adepth, .int 0, .int 0, .int 0, .int 0, .int 0, .int 0, .int 0])), (akind, .inl (cI, 40, .inl (fun _ => 0)))] H := hP
  have hD : va_D A [(h0, .inr (11, [.int 0, .ref atext, .int 0, .int 1, .ref akind, .ref aparent, .ref amode, .ref aowner, .ref agroup, .ref asize, .ref aseed, .ref aname, .ref anameSize, .ref atarget, .ref atargetSize, .ref abase, .ref abaseSize, .ref aextension, .ref aextensionSize, .ref aimage, .int 0, .ref atable, .ref asector, .ref asectors, .ref acontents, .int 0, .int 0, .int 0, .int 0, .ref aabove, .ref aisDirectory, .ref abytes, .ref aplace, .ref areadMode, .ref areadOwner, .ref areadGroup, .ref areadName, .ref areadNameSize, .ref areadTarget, .ref areadTargetSize, .ref adepth, .int 0, .int 0, .int 0, .int 0, .int 0, .int 0, .int 0])), (akind, .inl (cI, 40, .inl (fun _ => 0)))] := hD
  refine lv_aload_n hx hb d_DiscMakerModel_file_5 rfl (lv_at hl 0 rfl) ?_
  refine lv_iload_n hx hb d_DiscMakerModel_file_6 rfl (lv_at hl 1 rfl) ?_
  refine lv_iconst (v := 1) hx hb d_DiscMakerModel_file_7 (by decide) ?_
  refine lv_aload_n hx hb d_DiscMakerModel_file_8 rfl (lv_at hl 0 rfl) ?_
  refine va_get (D := D) (ci := 11) (v := .int 0) (C := "DiscMakerModel") (T := F_DiscMakerModel) (N := 48) hx hb ht9 in_DiscMakerModel hown hK hP 0 rfl rfl 2 (by decide) (ht9 _ k1433) (fun _ h9 => h9) rfl d_DiscMakerModel_file_9 ?_
  refine lv_iload_n hx hb d_DiscMakerModel_file_12 rfl (lv_at hl 2 rfl) ?_
  refine lv_if_lt (tgt := 38) hx hb d_DiscMakerModel_file_13 (by decide) (fun h_13 => ?_) (fun h_13 => ?_)
  · skip
    refine lv_iconst (v := 0) hx hb d_DiscMakerModel_file_38 (by decide) ?_
    have hPc := hP.sub (ws' := [(h0, .inr (11, [.int 0, .ref atext, .int 0, .int 1, .ref akind, .ref aparent, .ref amode, .ref aowner, .ref agroup, .ref asize, .ref aseed, .ref aname, .ref anameSize, .ref atarget, .ref atargetSize, .ref abase, .ref abaseSize, .ref aextension, .ref aextensionSize, .ref aimage, .int 0, .ref atable, .ref asector, .ref asectors, .ref acontents, .int 0, .int 0, .int 0, .int 0, .ref aabove, .ref aisDirectory, .ref abytes, .ref aplace, .ref areadMode, .ref areadOwner, .ref areadGroup, .ref areadName, .ref areadNameSize, .ref areadTarget, .ref areadTargetSize, .ref adepth, .int 0, .int 0, .int 0, .int 0, .int 0, .int 0, .int 0])), (akind, .inl (cI, 40, .inl (fun _ => 0)))]) [0, 1] rfl
    have hDc := hD.sub (ws' := [(h0, .inr (11, [.int 0, .ref atext, .int 0, .int 1, .ref akind, .ref aparent, .ref amode, .ref aowner, .ref agroup, .ref asize, .ref aseed, .ref aname, .ref anameSize, .ref atarget, .ref atargetSize, .ref abase, .ref abaseSize, .ref aextension, .ref aextensionSize, .ref aimage, .int 0, .ref atable, .ref asector, .ref asectors, .ref acontents, .int 0, .int 0, .int 0, .int 0, .ref aabove, .ref aisDirectory, .ref abytes, .ref aplace, .ref areadMode, .ref areadOwner, .ref areadGroup, .ref areadName, .ref areadNameSize, .ref areadTarget, .ref areadTargetSize, .ref adepth, .int 0, .int 0, .int 0, .int 0, .int 0, .int 0, .int 0])), (akind, .inl (cI, 40, .inl (fun _ => 0)))]) [0, 1] (by decide) rfl
    have hFc := va_free (wc := [(h0, .inr (11, [.int 0, .ref atext, .int 0, .int 1, .ref akind, .ref aparent, .ref amode, .ref aowner, .ref agroup, .ref asize, .ref aseed, .ref aname, .ref anameSize, .ref atarget, .ref atargetSize, .ref abase, .ref abaseSize, .ref aextension, .ref aextensionSize, .ref aimage, .int 0, .ref atable, .ref asector, .ref asectors, .ref acontents, .int 0, .int 0, .int 0, .int 0, .ref aabove, .ref aisDirectory, .ref abytes, .ref aplace, .ref areadMode, .ref areadOwner, .ref areadGroup, .ref areadName, .ref areadNameSize, .ref areadTarget, .ref areadTargetSize, .ref adepth, .int 0, .int 0, .int 0, .int 0, .int 0, .int 0, .int 0])), (akind, .inl (cI, 40, .inl (fun _ => 0)))]) hD hS hA [0, 1] rfl
    have hkc : 0 ≤ 0 := by decide
    have hks : 0 ≤ 0 := by decide
    refine va_calli (va_runV (C := "DiscMakerModel") (As := [.int n, .int 1, .int 0, .int 0]) (rest := []) ⟨hx, hb, hml, hown, hts⟩ (c_m_add0 l D cB cI cJ cZ cN cF H.size h0 atext akind aparent amode aowner agroup asize aseed aname anameSize atarget atargetSize abase abaseSize aextension aextensionSize aimage atable asector asectors acontents aabove aisDirectory abytes aplace areadMode areadOwner areadGroup areadName areadNameSize areadTarget areadTargetSize adepth n 1) (cwV 4 hts (lg_goodV k1598 k1600 k52 k125 kc_DiscMakerModel_add) rfl rfl rfl (by decide +kernel) ⟨Nat.le_of_ble_eq_true rfl, Nat.le_of_ble_eq_true rfl⟩) ⟨fun a U g mk q => by obtain ⟨q0, q1, qP, qK, qN, qD⟩ := q; exact ⟨q0, q1, qP, va_K.moved (u := U) (U := U.calling g mk a) (Vm.Alike.refl U.vm) qK, qN.calling, qD⟩, va_recv hK hP (ci := 11) (q0 := 0) rfl rfl, fun U hU hW => ⟨rfl, by rw [hU], by rw [hU]; exact hPc, va_K.moved hW.alike hK, NN.warm hW hN, hDc.weaken (fun _ _ _ _ => trivial)⟩⟩ rfl rfl hl.1 rfl (lv_room (Nat.le_of_ble_eq_true rfl)) d_DiscMakerModel_file_39 ⟨hkc, hks⟩) hS (fun q _ h => hFc q h) hFc (fun r39 u t H1 locs ht hvm hp_39 hB hz1 hk1 hS => ?_)
    obtain ⟨hP1, hD1⟩ := hB
    rw [ht] at hP1
    try dsimp only at hp_39
    obtain ⟨hP, hD⟩ := va_join (wr := []) (w1 := []) hP hD [0, 1] [] rfl rfl (by decide) (by decide) hk1 hFc hP1 hD1
    clear hPc hDc hFc hP1 hD1 hk1 hz1
    generalize H1 = H at hP hS ⊢
    have hP : va_P D CL [] H := hP
    have hD : va_D A [] := hD
    refine W.eq (g2 := F0 m 42 ls [.int (-4)]) (by rw [show r39 = (-4) from hp_39]) ?_
    refine lv_istore hx hb d_DiscMakerModel_file_42 hl (by decide) rfl (fun ls hl => ?_)
    have hl : lv_has ls 5 [(4, .int (-4)), (0, .ref h0), (1, .int n), (2, .int x), (3, .int y)] := hl
    refine lv_iload hx hb d_DiscMakerModel_file_44 (lv_at hl 0 rfl) ?_
    refine lv_if_ge (tgt := 52) hx hb d_DiscMakerModel_file_46 (by decide) (fun h_46 => absurd h_46 (by decide)) (fun h_46 => ?_)
    refine lv_iload hx hb d_DiscMakerModel_file_49 (lv_at hl 0 rfl) ?_
    have hP9 := hP.sub (ws' := []) [] rfl
    have hD9 := hD.sub (ws' := []) [] (by decide) rfl
    exact W.iret (v := (-4)) hx hb hr (fun t ht hW => ⟨⟨(-4), (), rfl, rfl, by rw [ht]; exact hP9, hD9⟩, hS.F ht⟩) hS.2.2 d_DiscMakerModel_file_51
  · skip
    refine lv_iload_n hx hb d_DiscMakerModel_file_16 rfl (lv_at hl 2 rfl) ?_
    refine lv_sipush (v := 4100) hx hb d_DiscMakerModel_file_17 (by decide) ?_
    refine lv_icmp_gt (tgt := 38) hx hb d_DiscMakerModel_file_20 (by decide) (fun h_20 => ?_) (fun h_20 => ?_)
    · skip
      refine lv_iconst (v := 0) hx hb d_DiscMakerModel_file_38 (by decide) ?_
      have hPc := hP.sub (ws' := [(h0, .inr (11, [.int 0, .ref atext, .int 0, .int 1, .ref akind, .ref aparent, .ref amode, .ref aowner, .ref agroup, .ref asize, .ref aseed, .ref aname, .ref anameSize, .ref atarget, .ref atargetSize, .ref abase, .ref abaseSize, .ref aextension, .ref aextensionSize, .ref aimage, .int 0, .ref atable, .ref asector, .ref asectors, .ref acontents, .int 0, .int 0, .int 0, .int 0, .ref aabove, .ref aisDirectory, .ref abytes, .ref aplace, .ref areadMode, .ref areadOwner, .ref areadGroup, .ref areadName, .ref areadNameSize, .ref areadTarget, .ref areadTargetSize, .ref adepth, .int 0, .int 0, .int 0, .int 0, .int 0, .int 0, .int 0])), (akind, .inl (cI, 40, .inl (fun _ => 0)))]) [0, 1] rfl
      have hDc := hD.sub (ws' := [(h0, .inr (11, [.int 0, .ref atext, .int 0, .int 1, .ref akind, .ref aparent, .ref amode, .ref aowner, .ref agroup, .ref asize, .ref aseed, .ref aname, .ref anameSize, .ref atarget, .ref atargetSize, .ref abase, .ref abaseSize, .ref aextension, .ref aextensionSize, .ref aimage, .int 0, .ref atable, .ref asector, .ref asectors, .ref acontents, .int 0, .int 0, .int 0, .int 0, .ref aabove, .ref aisDirectory, .ref abytes, .ref aplace, .ref areadMode, .ref areadOwner, .ref areadGroup, .ref areadName, .ref areadNameSize, .ref areadTarget, .ref areadTargetSize, .ref adepth, .int 0, .int 0, .int 0, .int 0, .int 0, .int 0, .int 0])), (akind, .inl (cI, 40, .inl (fun _ => 0)))]) [0, 1] (by decide) rfl
      have hFc := va_free (wc := [(h0, .inr (11, [.int 0, .ref atext, .int 0, .int 1, .ref akind, .ref aparent, .ref amode, .ref aowner, .ref agroup, .ref asize, .ref aseed, .ref aname, .ref anameSize, .ref atarget, .ref atargetSize, .ref abase, .ref abaseSize, .ref aextension, .ref aextensionSize, .ref aimage, .int 0, .ref atable, .ref asector, .ref asectors, .ref acontents, .int 0, .int 0, .int 0, .int 0, .ref aabove, .ref aisDirectory, .ref abytes, .ref aplace, .ref areadMode, .ref areadOwner, .ref areadGroup, .ref areadName, .ref areadNameSize, .ref areadTarget, .ref areadTargetSize, .ref adepth, .int 0, .int 0, .int 0, .int 0, .int 0, .int 0, .int 0])), (akind, .inl (cI, 40, .inl (fun _ => 0)))]) hD hS hA [0, 1] rfl
      have hkc : 0 ≤ 0 := by decide
      have hks : 0 ≤ 0 := by decide
      refine va_calli (va_runV (C := "DiscMakerModel") (As := [.int n, .int 1, .int 0, .int 0]) (rest := []) ⟨hx, hb, hml, hown, hts⟩ (c_m_add0 l D cB cI cJ cZ cN cF H.size h0 atext akind aparent amode aowner agroup asize aseed aname anameSize atarget atargetSize abase abaseSize aextension aextensionSize aimage atable asector asectors acontents aabove aisDirectory abytes aplace areadMode areadOwner areadGroup areadName areadNameSize areadTarget areadTargetSize adepth n 1) (cwV 4 hts (lg_goodV k1598 k1600 k52 k125 kc_DiscMakerModel_add) rfl rfl rfl (by decide +kernel) ⟨Nat.le_of_ble_eq_true rfl, Nat.le_of_ble_eq_true rfl⟩) ⟨fun a U g mk q => by obtain ⟨q0, q1, qP, qK, qN, qD⟩ := q; exact ⟨q0, q1, qP, va_K.moved (u := U) (U := U.calling g mk a) (Vm.Alike.refl U.vm) qK, qN.calling, qD⟩, va_recv hK hP (ci := 11) (q0 := 0) rfl rfl, fun U hU hW => ⟨rfl, by rw [hU], by rw [hU]; exact hPc, va_K.moved hW.alike hK, NN.warm hW hN, hDc.weaken (fun _ _ _ _ => trivial)⟩⟩ rfl rfl hl.1 rfl (lv_room (Nat.le_of_ble_eq_true rfl)) d_DiscMakerModel_file_39 ⟨hkc, hks⟩) hS (fun q _ h => hFc q h) hFc (fun r39 u t H1 locs ht hvm hp_39 hB hz1 hk1 hS => ?_)
      obtain ⟨hP1, hD1⟩ := hB
      rw [ht] at hP1
      try dsimp only at hp_39
      obtain ⟨hP, hD⟩ := va_join (wr := []) (w1 := []) hP hD [0, 1] [] rfl rfl (by decide) (by decide) hk1 hFc hP1 hD1
      clear hPc hDc hFc hP1 hD1 hk1 hz1
      generalize H1 = H at hP hS ⊢
      have hP : va_P D CL [] H := hP
      have hD : va_D A [] := hD
      refine W.eq (g2 := F0 m 42 ls [.int (-4)]) (by rw [show r39 = (-4) from hp_39]) ?_
      refine lv_istore hx hb d_DiscMakerModel_file_42 hl (by decide) rfl (fun ls hl => ?_)
      have hl : lv_has ls 5 [(4, .int (-4)), (0, .ref h0), (1, .int n), (2, .int x), (3, .int y)] := hl
      refine lv_iload hx hb d_DiscMakerModel_file_44 (lv_at hl 0 rfl) ?_
      refine lv_if_ge (tgt := 52) hx hb d_DiscMakerModel_file_46 (by decide) (fun h_46 => absurd h_46 (by decide)) (fun h_46 => ?_)
      refine lv_iload hx hb d_DiscMakerModel_file_49 (lv_at hl 0 rfl) ?_
      have hP9 := hP.sub (ws' := []) [] rfl
      have hD9 := hD.sub (ws' := []) [] (by decide) rfl
      exact W.iret (v := (-4)) hx hb hr (fun t ht hW => ⟨⟨(-4), (), rfl, rfl, by rw [ht]; exact hP9, hD9⟩, hS.F ht⟩) hS.2.2 d_DiscMakerModel_file_51
    · skip
      refine lv_iload_n hx hb d_DiscMakerModel_file_23 rfl (lv_at hl 3 rfl) ?_
      refine lv_if_lt (tgt := 38) hx hb d_DiscMakerModel_file_24 (by decide) (fun h_24 => ?_) (fun h_24 => ?_)
      · skip
        refine lv_iconst (v := 0) hx hb d_DiscMakerModel_file_38 (by decide) ?_
        have hPc := hP.sub (ws' := [(h0, .inr (11, [.int 0, .ref atext, .int 0, .int 1, .ref akind, .ref aparent, .ref amode, .ref aowner, .ref agroup, .ref asize, .ref aseed, .ref aname, .ref anameSize, .ref atarget, .ref atargetSize, .ref abase, .ref abaseSize, .ref aextension, .ref aextensionSize, .ref aimage, .int 0, .ref atable, .ref asector, .ref asectors, .ref acontents, .int 0, .int 0, .int 0, .int 0, .ref aabove, .ref aisDirectory, .ref abytes, .ref aplace, .ref areadMode, .ref areadOwner, .ref areadGroup, .ref areadName, .ref areadNameSize, .ref areadTarget, .ref areadTargetSize, .ref adepth, .int 0, .int 0, .int 0, .int 0, .int 0, .int 0, .int 0])), (akind, .inl (cI, 40, .inl (fun _ => 0)))]) [0, 1] rfl
        have hDc := hD.sub (ws' := [(h0, .inr (11, [.int 0, .ref atext, .int 0, .int 1, .ref akind, .ref aparent, .ref amode, .ref aowner, .ref agroup, .ref asize, .ref aseed, .ref aname, .ref anameSize, .ref atarget, .ref atargetSize, .ref abase, .ref abaseSize, .ref aextension, .ref aextensionSize, .ref aimage, .int 0, .ref atable, .ref asector, .ref asectors, .ref acontents, .int 0, .int 0, .int 0, .int 0, .ref aabove, .ref aisDirectory, .ref abytes, .ref aplace, .ref areadMode, .ref areadOwner, .ref areadGroup, .ref areadName, .ref areadNameSize, .ref areadTarget, .ref areadTargetSize, .ref adepth, .int 0, .int 0, .int 0, .int 0, .int 0, .int 0, .int 0])), (akind, .inl (cI, 40, .inl (fun _ => 0)))]) [0, 1] (by decide) rfl
        have hFc := va_free (wc := [(h0, .inr (11, [.int 0, .ref atext, .int 0, .int 1, .ref akind, .ref aparent, .ref amode, .ref aowner, .ref agroup, .ref asize, .ref aseed, .ref aname, .ref anameSize, .ref atarget, .ref atargetSize, .ref abase, .ref abaseSize, .ref aextension, .ref aextensionSize, .ref aimage, .int 0, .ref atable, .ref asector, .ref asectors, .ref acontents, .int 0, .int 0, .int 0, .int 0, .ref aabove, .ref aisDirectory, .ref abytes, .ref aplace, .ref areadMode, .ref areadOwner, .ref areadGroup, .ref areadName, .ref areadNameSize, .ref areadTarget, .ref areadTargetSize, .ref adepth, .int 0, .int 0, .int 0, .int 0, .int 0, .int 0, .int 0])), (akind, .inl (cI, 40, .inl (fun _ => 0)))]) hD hS hA [0, 1] rfl
        have hkc : 0 ≤ 0 := by decide
        have hks : 0 ≤ 0 := by decide
        refine va_calli (va_runV (C := "DiscMakerModel") (As := [.int n, .int 1, .int 0, .int 0]) (rest := []) ⟨hx, hb, hml, hown, hts⟩ (c_m_add0 l D cB cI cJ cZ cN cF H.size h0 atext akind aparent amode aowner agroup asize aseed aname anameSize atarget atargetSize abase abaseSize aextension aextensionSize aimage atable asector asectors acontents aabove aisDirectory abytes aplace areadMode areadOwner areadGroup areadName areadNameSize areadTarget areadTargetSize adepth n 1) (cwV 4 hts (lg_goodV k1598 k1600 k52 k125 kc_DiscMakerModel_add) rfl rfl rfl (by decide +kernel) ⟨Nat.le_of_ble_eq_true rfl, Nat.le_of_ble_eq_true rfl⟩) ⟨fun a U g mk q => by obtain ⟨q0, q1, qP, qK, qN, qD⟩ := q; exact ⟨q0, q1, qP, va_K.moved (u := U) (U := U.calling g mk a) (Vm.Alike.refl U.vm) qK, qN.calling, qD⟩, va_recv hK hP (ci := 11) (q0 := 0) rfl rfl, fun U hU hW => ⟨rfl, by rw [hU], by rw [hU]; exact hPc, va_K.moved hW.alike hK, NN.warm hW hN, hDc.weaken (fun _ _ _ _ => trivial)⟩⟩ rfl rfl hl.1 rfl (lv_room (Nat.le_of_ble_eq_true rfl)) d_DiscMakerModel_file_39 ⟨hkc, hks⟩) hS (fun q _ h => hFc q h) hFc (fun r39 u t H1 locs ht hvm hp_39 hB hz1 hk1 hS => ?_)
        obtain ⟨hP1, hD1⟩ := hB
        rw [ht] at hP1
        try dsimp only at hp_39
        obtain ⟨hP, hD⟩ := va_join (wr := []) (w1 := []) hP hD [0, 1] [] rfl rfl (by decide) (by decide) hk1 hFc hP1 hD1
        clear hPc hDc hFc hP1 hD1 hk1 hz1
        generalize H1 = H at hP hS ⊢
        have hP : va_P D CL [] H := hP
        have hD : va_D A [] := hD
        refine W.eq (g2 := F0 m 42 ls [.int (-4)]) (by rw [show r39 = (-4) from hp_39]) ?_
        refine lv_istore hx hb d_DiscMakerModel_file_42 hl (by decide) rfl (fun ls hl => ?_)
        have hl : lv_has ls 5 [(4, .int (-4)), (0, .ref h0), (1, .int n), (2, .int x), (3, .int y)] := hl
        refine lv_iload hx hb d_DiscMakerModel_file_44 (lv_at hl 0 rfl) ?_
        refine lv_if_ge (tgt := 52) hx hb d_DiscMakerModel_file_46 (by decide) (fun h_46 => absurd h_46 (by decide)) (fun h_46 => ?_)
        refine lv_iload hx hb d_DiscMakerModel_file_49 (lv_at hl 0 rfl) ?_
        have hP9 := hP.sub (ws' := []) [] rfl
        have hD9 := hD.sub (ws' := []) [] (by decide) rfl
        exact W.iret (v := (-4)) hx hb hr (fun t ht hW => ⟨⟨(-4), (), rfl, rfl, by rw [ht]; exact hP9, hD9⟩, hS.F ht⟩) hS.2.2 d_DiscMakerModel_file_51
      · skip
        refine lv_iload_n hx hb d_DiscMakerModel_file_27 rfl (lv_at hl 3 rfl) ?_
        refine lv_sipush (v := 255) hx hb d_DiscMakerModel_file_28 (by decide) ?_
        refine lv_icmp_gt (tgt := 38) hx hb d_DiscMakerModel_file_31 (by decide) (fun h_31 => ?_) (fun h_31 => ?_)
        · skip
          refine lv_iconst (v := 0) hx hb d_DiscMakerModel_file_38 (by decide) ?_
          have hPc := hP.sub (ws' := [(h0, .inr (11, [.int 0, .ref atext, .int 0, .int 1, .ref akind, .ref aparent, .ref amode, .ref aowner, .ref agroup, .ref asize, .ref aseed, .ref aname, .ref anameSize, .ref atarget, .ref atargetSize, .ref abase, .ref abaseSize, .ref aextension, .ref aextensionSize, .ref aimage, .int 0, .ref atable, .ref asector, .ref asectors, .ref acontents, .int 0, .int 0, .int 0, .int 0, .ref aabove, .ref aisDirectory, .ref abytes, .ref aplace, .ref areadMode, .ref areadOwner, .ref areadGroup, .ref areadName, .ref areadNameSize, .ref areadTarget, .ref areadTargetSize, .ref adepth, .int 0, .int 0, .int 0, .int 0, .int 0, .int 0, .int 0])), (akind, .inl (cI, 40, .inl (fun _ => 0)))]) [0, 1] rfl
          have hDc := hD.sub (ws' := [(h0, .inr (11, [.int 0, .ref atext, .int 0, .int 1, .ref akind, .ref aparent, .ref amode, .ref aowner, .ref agroup, .ref asize, .ref aseed, .ref aname, .ref anameSize, .ref atarget, .ref atargetSize, .ref abase, .ref abaseSize, .ref aextension, .ref aextensionSize, .ref aimage, .int 0, .ref atable, .ref asector, .ref asectors, .ref acontents, .int 0, .int 0, .int 0, .int 0, .ref aabove, .ref aisDirectory, .ref abytes, .ref aplace, .ref areadMode, .ref areadOwner, .ref areadGroup, .ref areadName, .ref areadNameSize, .ref areadTarget, .ref areadTargetSize, .ref adepth, .int 0, .int 0, .int 0, .int 0, .int 0, .int 0, .int 0])), (akind, .inl (cI, 40, .inl (fun _ => 0)))]) [0, 1] (by decide) rfl
          have hFc := va_free (wc := [(h0, .inr (11, [.int 0, .ref atext, .int 0, .int 1, .ref akind, .ref aparent, .ref amode, .ref aowner, .ref agroup, .ref asize, .ref aseed, .ref aname, .ref anameSize, .ref atarget, .ref atargetSize, .ref abase, .ref abaseSize, .ref aextension, .ref aextensionSize, .ref aimage, .int 0, .ref atable, .ref asector, .ref asectors, .ref acontents, .int 0, .int 0, .int 0, .int 0, .ref aabove, .ref aisDirectory, .ref abytes, .ref aplace, .ref areadMode, .ref areadOwner, .ref areadGroup, .ref areadName, .ref areadNameSize, .ref areadTarget, .ref areadTargetSize, .ref adepth, .int 0, .int 0, .int 0, .int 0, .int 0, .int 0, .int 0])), (akind, .inl (cI, 40, .inl (fun _ => 0)))]) hD hS hA [0, 1] rfl
          have hkc : 0 ≤ 0 := by decide
          have hks : 0 ≤ 0 := by decide
          refine va_calli (va_runV (C := "DiscMakerModel") (As := [.int n, .int 1, .int 0, .int 0]) (rest := []) ⟨hx, hb, hml, hown, hts⟩ (c_m_add0 l D cB cI cJ cZ cN cF H.size h0 atext akind aparent amode aowner agroup asize aseed aname anameSize atarget atargetSize abase abaseSize aextension aextensionSize aimage atable asector asectors acontents aabove aisDirectory abytes aplace areadMode areadOwner areadGroup areadName areadNameSize areadTarget areadTargetSize adepth n 1) (cwV 4 hts (lg_goodV k1598 k1600 k52 k125 kc_DiscMakerModel_add) rfl rfl rfl (by decide +kernel) ⟨Nat.le_of_ble_eq_true rfl, Nat.le_of_ble_eq_true rfl⟩) ⟨fun a U g mk q => by obtain ⟨q0, q1, qP, qK, qN, qD⟩ := q; exact ⟨q0, q1, qP, va_K.moved (u := U) (U := U.calling g mk a) (Vm.Alike.refl U.vm) qK, qN.calling, qD⟩, va_recv hK hP (ci := 11) (q0 := 0) rfl rfl, fun U hU hW => ⟨rfl, by rw [hU], by rw [hU]; exact hPc, va_K.moved hW.alike hK, NN.warm hW hN, hDc.weaken (fun _ _ _ _ => trivial)⟩⟩ rfl rfl hl.1 rfl (lv_room (Nat.le_of_ble_eq_true rfl)) d_DiscMakerModel_file_39 ⟨hkc, hks⟩) hS (fun q _ h => hFc q h) hFc (fun r39 u t H1 locs ht hvm hp_39 hB hz1 hk1 hS => ?_)
          obtain ⟨hP1, hD1⟩ := hB
          rw [ht] at hP1
          try dsimp only at hp_39
          obtain ⟨hP, hD⟩ := va_join (wr := []) (w1 := []) hP hD [0, 1] [] rfl rfl (by decide) (by decide) hk1 hFc hP1 hD1
          clear hPc hDc hFc hP1 hD1 hk1 hz1
          generalize H1 = H at hP hS ⊢
          have hP : va_P D CL [] H := hP
          have hD : va_D A [] := hD
          refine W.eq (g2 := F0 m 42 ls [.int (-4)]) (by rw [show r39 = (-4) from hp_39]) ?_
          refine lv_istore hx hb d_DiscMakerModel_file_42 hl (by decide) rfl (fun ls hl => ?_)
          have hl : lv_has ls 5 [(4, .int (-4)), (0, .ref h0), (1, .int n), (2, .int x), (3, .int y)] := hl
          refine lv_iload hx hb d_DiscMakerModel_file_44 (lv_at hl 0 rfl) ?_
          refine lv_if_ge (tgt := 52) hx hb d_DiscMakerModel_file_46 (by decide) (fun h_46 => absurd h_46 (by decide)) (fun h_46 => ?_)
          refine lv_iload hx hb d_DiscMakerModel_file_49 (lv_at hl 0 rfl) ?_
          have hP9 := hP.sub (ws' := []) [] rfl
          have hD9 := hD.sub (ws' := []) [] (by decide) rfl
          exact W.iret (v := (-4)) hx hb hr (fun t ht hW => ⟨⟨(-4), (), rfl, rfl, by rw [ht]; exact hP9, hD9⟩, hS.F ht⟩) hS.2.2 d_DiscMakerModel_file_51
        · skip
          refine lv_iconst (v := 1) hx hb d_DiscMakerModel_file_34 (by decide) ?_
          refine lv_goto (tgt := 39) hx hb d_DiscMakerModel_file_35 (by decide) ?_
          have hPc := hP.sub (ws' := [(h0, .inr (11, [.int 0, .ref atext, .int 0, .int 1, .ref akind, .ref aparent, .ref amode, .ref aowner, .ref agroup, .ref asize, .ref aseed, .ref aname, .ref anameSize, .ref atarget, .ref atargetSize, .ref abase, .ref abaseSize, .ref aextension, .ref aextensionSize, .ref aimage, .int 0, .ref atable, .ref asector, .ref asectors, .ref acontents, .int 0, .int 0, .int 0, .int 0, .ref aabove, .ref aisDirectory, .ref abytes, .ref aplace, .ref areadMode, .ref areadOwner, .ref areadGroup, .ref areadName, .ref areadNameSize, .ref areadTarget, .ref areadTargetSize, .ref adepth, .int 0, .int 0, .int 0, .int 0, .int 0, .int 0, .int 0])), (akind, .inl (cI, 40, .inl (fun _ => 0)))]) [0, 1] rfl
          have hDc := hD.sub (ws' := [(h0, .inr (11, [.int 0, .ref atext, .int 0, .int 1, .ref akind, .ref aparent, .ref amode, .ref aowner, .ref agroup, .ref asize, .ref aseed, .ref aname, .ref anameSize, .ref atarget, .ref atargetSize, .ref abase, .ref abaseSize, .ref aextension, .ref aextensionSize, .ref aimage, .int 0, .ref atable, .ref asector, .ref asectors, .ref acontents, .int 0, .int 0, .int 0, .int 0, .ref aabove, .ref aisDirectory, .ref abytes, .ref aplace, .ref areadMode, .ref areadOwner, .ref areadGroup, .ref areadName, .ref areadNameSize, .ref areadTarget, .ref areadTargetSize, .ref adepth, .int 0, .int 0, .int 0, .int 0, .int 0, .int 0, .int 0])), (akind, .inl (cI, 40, .inl (fun _ => 0)))]) [0, 1] (by decide) rfl
          have hFc := va_free (wc := [(h0, .inr (11, [.int 0, .ref atext, .int 0, .int 1, .ref akind, .ref aparent, .ref amode, .ref aowner, .ref agroup, .ref asize, .ref aseed, .ref aname, .ref anameSize, .ref atarget, .ref atargetSize, .ref abase, .ref abaseSize, .ref aextension, .ref aextensionSize, .ref aimage, .int 0, .ref atable, .ref asector, .ref asectors, .ref acontents, .int 0, .int 0, .int 0, .int 0, .ref aabove, .ref aisDirectory, .ref abytes, .ref aplace, .ref areadMode, .ref areadOwner, .ref areadGroup, .ref areadName, .ref areadNameSize, .ref areadTarget, .ref areadTargetSize, .ref adepth, .int 0, .int 0, .int 0, .int 0, .int 0, .int 0, .int 0])), (akind, .inl (cI, 40, .inl (fun _ => 0)))]) hD hS hA [0, 1] rfl
          have hkc : 0 ≤ 0 := by decide
          have hks : 0 ≤ 0 := by decide
          refine va_calli (va_runV (C := "DiscMakerModel") (As := [.int n, .int 1, .int 0, .int 1]) (rest := []) ⟨hx, hb, hml, hown, hts⟩ (c_m_add1 l D cB cI cJ cZ cN cF H.size h0 atext akind aparent amode aowner agroup asize aseed aname anameSize atarget atargetSize abase abaseSize aextension aextensionSize aimage atable asector asectors acontents aabove aisDirectory abytes aplace areadMode areadOwner areadGroup areadName areadNameSize areadTarget areadTargetSize adepth n 1) (cwV 4 hts (lg_goodV k1598 k1600 k52 k125 kc_DiscMakerModel_add) rfl rfl rfl (by decide +kernel) ⟨Nat.le_of_ble_eq_true rfl, Nat.le_of_ble_eq_true rfl⟩) ⟨fun a U g mk q => by obtain ⟨q0, q1, qP, qK, qN, qD⟩ := q; exact ⟨q0, q1, qP, va_K.moved (u := U) (U := U.calling g mk a) (Vm.Alike.refl U.vm) qK, qN.calling, qD⟩, va_recv hK hP (ci := 11) (q0 := 0) rfl rfl, fun U hU hW => ⟨rfl, by rw [hU], by rw [hU]; exact hPc, va_K.moved hW.alike hK, NN.warm hW hN, hDc.weaken (fun _ _ _ _ => trivial)⟩⟩ rfl rfl hl.1 rfl (lv_room (Nat.le_of_ble_eq_true rfl)) d_DiscMakerModel_file_39 ⟨hkc, hks⟩) hS (fun q _ h => hFc q h) hFc (fun r39 u t H1 locs ht hvm hp_39 hB hz1 hk1 hS => ?_)
          obtain ⟨hP1, hD1⟩ := hB
          rw [ht] at hP1
          try dsimp only at hp_39
          obtain ⟨hP, hD⟩ := va_join (wr := []) (w1 := []) hP hD [0, 1] [] rfl rfl (by decide) (by decide) hk1 hFc hP1 hD1
          clear hPc hDc hFc hP1 hD1 hk1 hz1
          generalize H1 = H at hP hS ⊢
          have hP : va_P D CL [] H := hP
          have hD : va_D A [] := hD
          refine W.eq (g2 := F0 m 42 ls [.int (-4)]) (by rw [show r39 = (-4) from hp_39]) ?_
          refine lv_istore hx hb d_DiscMakerModel_file_42 hl (by decide) rfl (fun ls hl => ?_)
          have hl : lv_has ls 5 [(4, .int (-4)), (0, .ref h0), (1, .int n), (2, .int x), (3, .int y)] := hl
          refine lv_iload hx hb d_DiscMakerModel_file_44 (lv_at hl 0 rfl) ?_
          refine lv_if_ge (tgt := 52) hx hb d_DiscMakerModel_file_46 (by decide) (fun h_46 => absurd h_46 (by decide)) (fun h_46 => ?_)
          refine lv_iload hx hb d_DiscMakerModel_file_49 (lv_at hl 0 rfl) ?_
          have hP9 := hP.sub (ws' := []) [] rfl
          have hD9 := hD.sub (ws' := []) [] (by decide) rfl
          exact W.iret (v := (-4)) hx hb hr (fun t ht hW => ⟨⟨(-4), (), rfl, rfl, by rw [ht]; exact hP9, hD9⟩, hS.F ht⟩) hS.2.2 d_DiscMakerModel_file_51

theorem d_DiscMakerModel_link_0 : decode b_DiscMakerModel_link 0 = .ok (.aload_n 0, 1) := by decide +kernel
theorem d_DiscMakerModel_link_1 : decode b_DiscMakerModel_link 1 = .ok (.iconst 0, 1) := by decide +kernel
theorem d_DiscMakerModel_link_2 : decode b_DiscMakerModel_link 2 = .ok (.putfield 118, 3) := by decide +kernel
theorem d_DiscMakerModel_link_5 : decode b_DiscMakerModel_link 5 = .ok (.iconst 0, 1) := by decide +kernel
theorem d_DiscMakerModel_link_6 : decode b_DiscMakerModel_link 6 = .ok (.istore_n 2, 1) := by decide +kernel
theorem d_DiscMakerModel_link_7 : decode b_DiscMakerModel_link 7 = .ok (.iload_n 2, 1) := by decide +kernel
theorem d_DiscMakerModel_link_8 : decode b_DiscMakerModel_link 8 = .ok (.aload_n 0, 1) := by decide +kernel
theorem d_DiscMakerModel_link_9 : decode b_DiscMakerModel_link 9 = .ok (.getfield 121, 3) := by decide +kernel
theorem d_DiscMakerModel_link_12 : decode b_DiscMakerModel_link 12 = .ok (.if_icmp .ge 18, 3) := by decide +kernel
theorem d_DiscMakerModel_link_30 : decode b_DiscMakerModel_link 30 = .ok (.aload_n 0, 1) := by decide +kernel
theorem d_DiscMakerModel_link_31 : decode b_DiscMakerModel_link 31 = .ok (.getfield 121, 3) := by decide +kernel
theorem d_DiscMakerModel_link_34 : decode b_DiscMakerModel_link 34 = .ok (.iload_n 2, 1) := by decide +kernel
theorem d_DiscMakerModel_link_35 : decode b_DiscMakerModel_link 35 = .ok (.isub, 1) := by decide +kernel
theorem d_DiscMakerModel_link_36 : decode b_DiscMakerModel_link 36 = .ok (.iconst 1, 1) := by decide +kernel
theorem d_DiscMakerModel_link_37 : decode b_DiscMakerModel_link 37 = .ok (.isub, 1) := by decide +kernel
theorem d_DiscMakerModel_link_38 : decode b_DiscMakerModel_link 38 = .ok (.istore_n 3, 1) := by decide +kernel
theorem d_DiscMakerModel_link_39 : decode b_DiscMakerModel_link 39 = .ok (.iload_n 3, 1) := by decide +kernel
theorem d_DiscMakerModel_link_40 : decode b_DiscMakerModel_link 40 = .ok (.iconst 1, 1) := by decide +kernel
theorem d_DiscMakerModel_link_41 : decode b_DiscMakerModel_link 41 = .ok (.if_icmp .lt 14, 3) := by decide +kernel
theorem d_DiscMakerModel_link_55 : decode b_DiscMakerModel_link 55 = .ok (.iconst 0, 1) := by decide +kernel
theorem d_DiscMakerModel_link_56 : decode b_DiscMakerModel_link 56 = .ok (.istore 4, 2) := by decide +kernel
theorem d_DiscMakerModel_link_58 : decode b_DiscMakerModel_link 58 = .ok (.iload_n 2, 1) := by decide +kernel
theorem d_DiscMakerModel_link_59 : decode b_DiscMakerModel_link 59 = .ok (.iconst 1, 1) := by decide +kernel
theorem d_DiscMakerModel_link_60 : decode b_DiscMakerModel_link 60 = .ok (.iadd, 1) := by decide +kernel
theorem d_DiscMakerModel_link_61 : decode b_DiscMakerModel_link 61 = .ok (.istore 5, 2) := by decide +kernel
theorem d_DiscMakerModel_link_63 : decode b_DiscMakerModel_link 63 = .ok (.iload 5, 2) := by decide +kernel
theorem d_DiscMakerModel_link_65 : decode b_DiscMakerModel_link 65 = .ok (.aload_n 0, 1) := by decide +kernel
theorem d_DiscMakerModel_link_66 : decode b_DiscMakerModel_link 66 = .ok (.getfield 121, 3) := by decide +kernel
theorem d_DiscMakerModel_link_69 : decode b_DiscMakerModel_link 69 = .ok (.if_icmp .ge 45, 3) := by decide +kernel
theorem d_DiscMakerModel_link_114 : decode b_DiscMakerModel_link 114 = .ok (.aload_n 0, 1) := by decide +kernel
theorem d_DiscMakerModel_link_115 : decode b_DiscMakerModel_link 115 = .ok (.iload_n 1, 1) := by decide +kernel
theorem d_DiscMakerModel_link_116 : decode b_DiscMakerModel_link 116 = .ok (.iconst 2, 1) := by decide +kernel
theorem d_DiscMakerModel_link_117 : decode b_DiscMakerModel_link 117 = .ok (.iload_n 2, 1) := by decide +kernel
theorem d_DiscMakerModel_link_118 : decode b_DiscMakerModel_link 118 = .ok (.iload 4, 2) := by decide +kernel
theorem d_DiscMakerModel_link_120 : decode b_DiscMakerModel_link 120 = .ok (.ifCond .eq 21, 3) := by decide +kernel
theorem d_DiscMakerModel_link_141 : decode b_DiscMakerModel_link 141 = .ok (.iconst 0, 1) := by decide +kernel
theorem d_DiscMakerModel_link_142 : decode b_DiscMakerModel_link 142 = .ok (.invokevirtual 156, 3) := by decide +kernel
theorem d_DiscMakerModel_link_145 : decode b_DiscMakerModel_link 145 = .ok (.istore 5, 2) := by decide +kernel
theorem d_DiscMakerModel_link_147 : decode b_DiscMakerModel_link 147 = .ok (.iload 5, 2) := by decide +kernel
theorem d_DiscMakerModel_link_149 : decode b_DiscMakerModel_link 149 = .ok (.ifCond .lt 13, 3) := by decide +kernel
theorem d_DiscMakerModel_link_162 : decode b_DiscMakerModel_link 162 = .ok (.iload 5, 2) := by decide +kernel
theorem d_DiscMakerModel_link_164 : decode b_DiscMakerModel_link 164 = .ok (.ireturn, 1) := by decide +kernel
set_option maxHeartbeats 4000000 in
set_option maxRecDepth 100000 in
theorem c_m_link (l : Launch) (D : va_G) (cB cI cJ cZ cN cF : ClassId) (sz : Nat) (h0 atext akind aparent amode aowner agroup asize aseed aname anameSize atarget atargetSize abase abaseSize aextension aextensionSize aimage atable asector asectors acontents aabove aisDirectory abytes aplace areadMode areadOwner areadGroup areadName areadNameSize areadTarget areadTargetSize adepth : Nat) (n : Int32) : Met l y_DiscMakerModel_link w_DiscMakerModel_link ({ frames := 1, cells := 0, slots := 0, locals := 27 }) (va_Pc [.ref h0, .int n] (fun U => U.heap.size = sz ∧ va_P D CL [(h0, .inr (11, [.int 0, .ref atext, .int 0, .int 1, .ref akind, .ref aparent, .ref amode, .ref aowner, .ref agroup, .ref asize, .ref aseed, .ref aname, .ref anameSize, .ref atarget, .ref atargetSize, .ref abase, .ref abaseSize, .ref aextension, .ref aextensionSize, .ref aimage, .int 0, .ref atable, .ref asector, .ref asectors, .ref acontents, .int 0, .int 0, .int 0, .int 0, .ref aabove, .ref aisDirectory, .ref abytes, .ref aplace, .ref areadMode, .ref areadOwner, .ref areadGroup, .ref areadName, .ref areadNameSize, .ref areadTarget, .ref areadTargetSize, .ref adepth, .int 0, .int 0, .int 0, .int 0, .int 0, .int 0, .int 0])), (akind, .inl (cI, 40, .inl (fun _ => 0)))] U.heap ∧ va_K D CL (TY cB cI cJ cZ cN cF) U ∧ NN U ∧ va_D (fun _ => True) [(h0, .inr (11, [.int 0, .ref atext, .int 0, .int 1, .ref akind, .ref aparent, .ref amode, .ref aowner, .ref agroup, .ref asize, .ref aseed, .ref aname, .ref anameSize, .ref atarget, .ref atargetSize, .ref abase, .ref abaseSize, .ref aextension, .ref aextensionSize, .ref aimage, .int 0, .ref atable, .ref asector, .ref asectors, .ref acontents, .int 0, .int 0, .int 0, .int 0, .ref aabove, .ref aisDirectory, .ref abytes, .ref aplace, .ref areadMode, .ref areadOwner, .ref areadGroup, .ref areadName, .ref areadNameSize, .ref areadTarget, .ref areadTargetSize, .ref adepth, .int 0, .int 0, .int 0, .int 0, .int 0, .int 0, .int 0])), (akind, .inl (cI, 40, .inl (fun _ => 0)))])) (va_Qi (fun (r : Int32) (u : Unit) => r = (-4)) (fun (u : Unit) (t : State) => match u with | () => va_P D CL [] t.heap ∧ va_D (va_A [(h0, .inr (11, [.int 0, .ref atext, .int 0, .int 1, .ref akind, .ref aparent, .ref amode, .ref aowner, .ref agroup, .ref asize, .ref aseed, .ref aname, .ref anameSize, .ref atarget, .ref atargetSize, .ref abase, .ref abaseSize, .ref aextension, .ref aextensionSize, .ref aimage, .int 0, .ref atable, .ref asector, .ref asectors, .ref acontents, .int 0, .int 0, .int 0, .int 0, .ref aabove, .ref aisDirectory, .ref abytes, .ref aplace, .ref areadMode, .ref areadOwner, .ref areadGroup, .ref areadName, .ref areadNameSize, .ref areadTarget, .ref areadTargetSize, .ref adepth, .int 0, .int 0, .int 0, .int 0, .int 0, .int 0, .int 0])), (akind, .inl (cI, 40, .inl (fun _ => 0)))] sz) []) (va_A [(h0, .inr (11, [.int 0, .ref atext, .int 0, .int 1, .ref akind, .ref aparent, .ref amode, .ref aowner, .ref agroup, .ref asize, .ref aseed, .ref aname, .ref anameSize, .ref atarget, .ref atargetSize, .ref abase, .ref abaseSize, .ref aextension, .ref aextensionSize, .ref aimage, .int 0, .ref atable, .ref asector, .ref asectors, .ref acontents, .int 0, .int 0, .int 0, .int 0, .ref aabove, .ref aisDirectory, .ref abytes, .ref aplace, .ref areadMode, .ref areadOwner, .ref areadGroup, .ref areadName, .ref areadNameSize, .ref areadTarget, .ref areadTargetSize, .ref adepth, .int 0, .int 0, .int 0, .int 0, .int 0, .int 0, .int 0])), (akind, .inl (cI, 40, .inl (fun _ => 0)))] sz)) 0 0 (va_A [(h0, .inr (11, [.int 0, .ref atext, .int 0, .int 1, .ref akind, .ref aparent, .ref amode, .ref aowner, .ref agroup, .ref asize, .ref aseed, .ref aname, .ref anameSize, .ref atarget, .ref atargetSize, .ref abase, .ref abaseSize, .ref aextension, .ref aextensionSize, .ref aimage, .int 0, .ref atable, .ref asector, .ref asectors, .ref acontents, .int 0, .int 0, .int 0, .int 0, .ref aabove, .ref aisDirectory, .ref abytes, .ref aplace, .ref areadMode, .ref areadOwner, .ref areadGroup, .ref areadName, .ref areadNameSize, .ref areadTarget, .ref areadTargetSize, .ref adepth, .int 0, .int 0, .int 0, .int 0, .int 0, .int 0, .int 0])), (akind, .inl (cI, 40, .inl (fun _ => 0)))] sz) := by
  refine Met.ofW (cc := b_DiscMakerModel_link) (maxL := 6) (ret := some .int) (by decide) rfl ?_
  intro p e s m args below meth c s₁ B hml hv
  obtain ⟨rfl, hsz, hP, hK, hN, hD0⟩ := hv
  have hx := B.exec
  have hb := B.bytes
  have hr := B.returns
  have hts := atoms_spec (ws := w_DiscMakerModel_link) B.pre
  have ht9 := fun (w : Cond) (h : w ∈ lw_g) => hts w (List.mem_cons_of_mem _ h)
  have hown : s.vm.findClass "DiscMakerModel" = some m.cls := findClass_of_methodNamed B.named
  have hlocks := B.notSynchronized
  subst hsz
  have hD := hD0.self (sz := s.heap.size)
  generalize hAe : va_A [(h0, .inr (11, [.int 0, .ref atext, .int 0, .int 1, .ref akind, .ref aparent, .ref amode, .ref aowner, .ref agroup, .ref asize, .ref aseed, .ref aname, .ref anameSize, .ref atarget, .ref atargetSize, .ref abase, .ref abaseSize, .ref aextension, .ref aextensionSize, .ref aimage, .int 0, .ref atable, .ref asector, .ref asectors, .ref acontents, .int 0, .int 0, .int 0, .int 0, .ref aabove, .ref aisDirectory, .ref abytes, .ref aplace, .ref areadMode, .ref areadOwner, .ref areadGroup, .ref areadName, .ref areadNameSize, .ref areadTarget, .ref areadTargetSize, .ref adepth, .int 0, .int 0, .int 0, .int 0, .int 0, .int 0, .int 0])), (akind, .inl (cI, 40, .inl (fun _ => 0)))] s.heap.size = A at hD ⊢
  have hA : ∀ q : Nat, s.heap.size ≤ q → A q := fun q h => by rw [← hAe]; exact Or.inr h
  have hS : va_S A s.heap s.heap [] := va_S.rf
  have hP : va_P D CL [(h0, .inr (11, [.int 0, .ref atext, .int 0, .int 1, .ref akind, .ref aparent, .ref amode, .ref aowner, .ref agroup, .ref asize, .ref aseed, .ref aname, .ref anameSize, .ref atarget, .ref atargetSize, .ref abase, .ref abaseSize, .ref aextension, .ref aextensionSize, .ref aimage, .int 0, .ref atable, .ref asector, .ref asectors, .ref acontents, .int 0, .int 0, .int 0, .int 0, .ref aabove, .ref aisDirectory, .ref abytes, .ref aplace, .ref areadMode, .ref areadOwner, .ref areadGroup, .ref areadName, .ref areadNameSize, .ref areadTarget, .ref areadTargetSize, .ref adepth, .int 0, .int 0, .int 0, .int 0, .int 0, .int 0, .int 0])), (akind, .inl (cI, 40, .inl (fun _ => 0)))] s.heap := hP
  have hl := lv_entry [.ref h0, .int n] (n := 6) (Nat.le_of_ble_eq_true rfl)
  rw [lg_entry_eq]
  generalize (lg_sl [.ref h0, .int n] ++ List.replicate (6 - (lg_sl [.ref h0, .int n]).length) Slot.unset).toArray = ls at hl ⊢
  have hl : lv_has ls 6 [(0, .ref h0), (1, .int n)] := hl
  refine lv_aload_n hx hb d_DiscMakerModel_link_0 rfl (lv_at hl 0 rfl) ?_
  refine lv_iconst (v := 0) hx hb d_DiscMakerModel_link_1 (by decide) ?_
  refine va_put (D := D) (ci := 11) (v := .int 0) (ty := .int) (C := "DiscMakerModel") (T := F_DiscMakerModel) (N := 48) hx hb ht9 in_DiscMakerModel t_DiscMakerModel t_DiscMakerModel_ok n_DiscMakerModel hown hK hP hD hS 0 rfl rfl 0 (by decide) (ht9 _ k1431) (fun _ h9 => h9) rfl (by decide +kernel) rfl rfl (Nat.le_of_ble_eq_true rfl) d_DiscMakerModel_link_2 (fun H locs hP hD hS => ?_)
  have hP : va_P D CL [(h0, .inr (11, [.int 0, .ref atext, .int 0, .int 1, .ref akind, .ref aparent, .ref amode, .ref aowner, .ref agroup, .ref asize, .ref aseed, .ref aname, .ref anameSize, .ref atarget, .ref atargetSize, .ref abase, .ref abaseSize, .ref aextension, .ref aextensionSize, .ref aimage, .int 0, .ref atable, .ref asector, .ref asectors, .ref acontents, .int 0, .int 0, .int 0, .int 0, .ref aabove, .ref aisDirectory, .ref abytes, .ref aplace, .ref areadMode, .ref areadOwner, .ref areadGroup, .ref areadName, .ref areadNameSize, .ref areadTarget, .ref areadTargetSize, .ref adepth, .int 0, .int 0, .int 0, .int 0, .int 0, .int 0, .int 0])), (akind, .inl (cI, 40, .inl (fun _ => 0)))] H := hP
  have hD : va_D A [(h0, .inr (11, [.int 0, .ref atext, .int 0, .int 1, .ref akind, .ref aparent, .ref amode, .ref aowner, .ref agroup, .ref asize, .ref aseed, .ref aname, .ref anameSize, .ref atarget, .ref atargetSize, .ref abase, .ref abaseSize, .ref aextension, .ref aextensionSize, .ref aimage, .int 0, .ref atable, .ref asector, .ref asectors, .ref acontents, .int 0, .int 0, .int 0, .int 0, .ref aabove, .ref aisDirectory, .ref abytes, .ref aplace, .ref areadMode, .ref areadOwner, .ref areadGroup, .ref areadName, .ref areadNameSize, .ref areadTarget, .ref areadTargetSize, .ref adepth, .int 0, .int 0, .int 0, .int 0, .int 0, .int 0, .int 0])), (akind, .inl (cI, 40, .inl (fun _ => 0)))] := hD
  refine lv_iconst (v := 0) hx hb d_DiscMakerModel_link_5 (by decide) ?_
  refine lv_istore_n hx hb d_DiscMakerModel_link_6 rfl hl (by decide) rfl (fun ls hl => ?_)
  have hl : lv_has ls 6 [(2, .int 0), (0, .ref h0), (1, .int n)] := hl
  refine lv_iload_n hx hb d_DiscMakerModel_link_7 rfl (lv_at hl 0 rfl) ?_
  refine lv_aload_n hx hb d_DiscMakerModel_link_8 rfl (lv_at hl 1 rfl) ?_
  refine va_get (D := D) (ci := 11) (v := .int 0) (C := "DiscMakerModel") (T := F_DiscMakerModel) (N := 48) hx hb ht9 in_DiscMakerModel hown hK hP 0 rfl rfl 2 (by decide) (ht9 _ k1433) (fun _ h9 => h9) rfl d_DiscMakerModel_link_9 ?_
  refine lv_icmp_ge (tgt := 30) hx hb d_DiscMakerModel_link_12 (by decide) (fun h_12 => ?_) (fun h_12 => absurd (by decide) h_12)
  refine lv_aload_n hx hb d_DiscMakerModel_link_30 rfl (lv_at hl 1 rfl) ?_
  refine va_get (D := D) (ci := 11) (v := .int 0) (C := "DiscMakerModel") (T := F_DiscMakerModel) (N := 48) hx hb ht9 in_DiscMakerModel hown hK hP 0 rfl rfl 2 (by decide) (ht9 _ k1433) (fun _ h9 => h9) rfl d_DiscMakerModel_link_31 ?_
  refine lv_iload_n hx hb d_DiscMakerModel_link_34 rfl (lv_at hl 0 rfl) ?_
  refine lv_isub hx hb d_DiscMakerModel_link_35 ?_
  refine W.eq (g2 := F0 m 36 ls [.int 0]) (by rw [show ((0 - 0) : Int32) = 0 from by decide]) ?_
  refine lv_iconst (v := 1) hx hb d_DiscMakerModel_link_36 (by decide) ?_
  refine lv_isub hx hb d_DiscMakerModel_link_37 ?_
  refine W.eq (g2 := F0 m 38 ls [.int (-1)]) (by rw [show ((0 - 1) : Int32) = (-1) from by decide]) ?_
  refine lv_istore_n hx hb d_DiscMakerModel_link_38 rfl hl (by decide) rfl (fun ls hl => ?_)
  have hl : lv_has ls 6 [(3, .int (-1)), (2, .int 0), (0, .ref h0), (1, .int n)] := hl
  refine lv_iload_n hx hb d_DiscMakerModel_link_39 rfl (lv_at hl 0 rfl) ?_
  refine lv_iconst (v := 1) hx hb d_DiscMakerModel_link_40 (by decide) ?_
  refine lv_icmp_lt (tgt := 55) hx hb d_DiscMakerModel_link_41 (by decide) (fun h_41 => ?_) (fun h_41 => absurd (by decide) h_41)
  refine lv_iconst (v := 0) hx hb d_DiscMakerModel_link_55 (by decide) ?_
  refine lv_istore hx hb d_DiscMakerModel_link_56 hl (by decide) rfl (fun ls hl => ?_)
  have hl : lv_has ls 6 [(4, .int 0), (3, .int (-1)), (2, .int 0), (0, .ref h0), (1, .int n)] := hl
  refine lv_iload_n hx hb d_DiscMakerModel_link_58 rfl (lv_at hl 2 rfl) ?_
  refine lv_iconst (v := 1) hx hb d_DiscMakerModel_link_59 (by decide) ?_
  refine lv_iadd hx hb d_DiscMakerModel_link_60 ?_
  refine W.eq (g2 := F0 m 61 ls [.int 1]) (by rw [show ((0 + 1) : Int32) = 1 from by decide]) ?_
  refine lv_istore hx hb d_DiscMakerModel_link_61 hl (by decide) rfl (fun ls hl => ?_)
  have hl : lv_has ls 6 [(5, .int 1), (4, .int 0), (3, .int (-1)), (2, .int 0), (0, .ref h0), (1, .int n)] := hl
  refine lv_iload hx hb d_DiscMakerModel_link_63 (lv_at hl 0 rfl) ?_
  refine lv_aload_n hx hb d_DiscMakerModel_link_65 rfl (lv_at hl 4 rfl) ?_
  refine va_get (D := D) (ci := 11) (v := .int 0) (C := "DiscMakerModel") (T := F_DiscMakerModel) (N := 48) hx hb ht9 in_DiscMakerModel hown hK hP 0 rfl rfl 2 (by decide) (ht9 _ k1433) (fun _ h9 => h9) rfl d_DiscMakerModel_link_66 ?_
  refine lv_icmp_ge (tgt := 114) hx hb d_DiscMakerModel_link_69 (by decide) (fun h_69 => ?_) (fun h_69 => absurd (by decide) h_69)
  refine lv_aload_n hx hb d_DiscMakerModel_link_114 rfl (lv_at hl 4 rfl) ?_
  refine lv_iload_n hx hb d_DiscMakerModel_link_115 rfl (lv_at hl 5 rfl) ?_
  refine lv_iconst (v := 2) hx hb d_DiscMakerModel_link_116 (by decide) ?_
  refine lv_iload_n hx hb d_DiscMakerModel_link_117 rfl (lv_at hl 3 rfl) ?_
  refine lv_iload hx hb d_DiscMakerModel_link_118 (lv_at hl 1 rfl) ?_
  refine lv_if_eq (tgt := 141) hx hb d_DiscMakerModel_link_120 (by decide) (fun h_120 => ?_) (fun h_120 => absurd (by decide) h_120)
  refine lv_iconst (v := 0) hx hb d_DiscMakerModel_link_141 (by decide) ?_
  have hPc := hP.sub (ws' := [(h0, .inr (11, [.int 0, .ref atext, .int 0, .int 1, .ref akind, .ref aparent, .ref amode, .ref aowner, .ref agroup, .ref asize, .ref aseed, .ref aname, .ref anameSize, .ref atarget, .ref atargetSize, .ref abase, .ref abaseSize, .ref aextension, .ref aextensionSize, .ref aimage, .int 0, .ref atable, .ref asector, .ref asectors, .ref acontents, .int 0, .int 0, .int 0, .int 0, .ref aabove, .ref aisDirectory, .ref abytes, .ref aplace, .ref areadMode, .ref areadOwner, .ref areadGroup, .ref areadName, .ref areadNameSize, .ref areadTarget, .ref areadTargetSize, .ref adepth, .int 0, .int 0, .int 0, .int 0, .int 0, .int 0, .int 0])), (akind, .inl (cI, 40, .inl (fun _ => 0)))]) [0, 1] rfl
  have hDc := hD.sub (ws' := [(h0, .inr (11, [.int 0, .ref atext, .int 0, .int 1, .ref akind, .ref aparent, .ref amode, .ref aowner, .ref agroup, .ref asize, .ref aseed, .ref aname, .ref anameSize, .ref atarget, .ref atargetSize, .ref abase, .ref abaseSize, .ref aextension, .ref aextensionSize, .ref aimage, .int 0, .ref atable, .ref asector, .ref asectors, .ref acontents, .int 0, .int 0, .int 0, .int 0, .ref aabove, .ref aisDirectory, .ref abytes, .ref aplace, .ref areadMode, .ref areadOwner, .ref areadGroup, .ref areadName, .ref areadNameSize, .ref areadTarget, .ref areadTargetSize, .ref adepth, .int 0, .int 0, .int 0, .int 0, .int 0, .int 0, .int 0])), (akind, .inl (cI, 40, .inl (fun _ => 0)))]) [0, 1] (by decide) rfl
  have hFc := va_free (wc := [(h0, .inr (11, [.int 0, .ref atext, .int 0, .int 1, .ref akind, .ref aparent, .ref amode, .ref aowner, .ref agroup, .ref asize, .ref aseed, .ref aname, .ref anameSize, .ref atarget, .ref atargetSize, .ref abase, .ref abaseSize, .ref aextension, .ref aextensionSize, .ref aimage, .int 0, .ref atable, .ref asector, .ref asectors, .ref acontents, .int 0, .int 0, .int 0, .int 0, .ref aabove, .ref aisDirectory, .ref abytes, .ref aplace, .ref areadMode, .ref areadOwner, .ref areadGroup, .ref areadName, .ref areadNameSize, .ref areadTarget, .ref areadTargetSize, .ref adepth, .int 0, .int 0, .int 0, .int 0, .int 0, .int 0, .int 0])), (akind, .inl (cI, 40, .inl (fun _ => 0)))]) hD hS hA [0, 1] rfl
  have hkc : 0 ≤ 0 := by decide
  have hks : 0 ≤ 0 := by decide
  refine va_calli (va_runV (C := "DiscMakerModel") (As := [.int n, .int 2, .int 0, .int 0]) (rest := []) ⟨hx, hb, hml, hown, hts⟩ (c_m_add0 l D cB cI cJ cZ cN cF H.size h0 atext akind aparent amode aowner agroup asize aseed aname anameSize atarget atargetSize abase abaseSize aextension aextensionSize aimage atable asector asectors acontents aabove aisDirectory abytes aplace areadMode areadOwner areadGroup areadName areadNameSize areadTarget areadTargetSize adepth n 2) (cwV 4 hts (lg_goodV k1598 k1600 k52 k125 kc_DiscMakerModel_add) rfl rfl rfl (by decide +kernel) ⟨Nat.le_of_ble_eq_true rfl, Nat.le_of_ble_eq_true rfl⟩) ⟨fun a U g mk q => by obtain ⟨q0, q1, qP, qK, qN, qD⟩ := q; exact ⟨q0, q1, qP, va_K.moved (u := U) (U := U.calling g mk a) (Vm.Alike.refl U.vm) qK, qN.calling, qD⟩, va_recv hK hP (ci := 11) (q0 := 0) rfl rfl, fun U hU hW => ⟨rfl, by rw [hU], by rw [hU]; exact hPc, va_K.moved hW.alike hK, NN.warm hW hN, hDc.weaken (fun _ _ _ _ => trivial)⟩⟩ rfl rfl hl.1 rfl (lv_room (Nat.le_of_ble_eq_true rfl)) d_DiscMakerModel_link_142 ⟨hkc, hks⟩) hS (fun q _ h => hFc q h) hFc (fun r142 u t H1 locs ht hvm hp_142 hB hz1 hk1 hS => ?_)
  obtain ⟨hP1, hD1⟩ := hB
  rw [ht] at hP1
  try dsimp only at hp_142
  obtain ⟨hP, hD⟩ := va_join (wr := []) (w1 := []) hP hD [0, 1] [] rfl rfl (by decide) (by decide) hk1 hFc hP1 hD1
  clear hPc hDc hFc hP1 hD1 hk1 hz1
  generalize H1 = H at hP hS ⊢
  have hP : va_P D CL [] H := hP
  have hD : va_D A [] := hD
  refine W.eq (g2 := F0 m 145 ls [.int (-4)]) (by rw [show r142 = (-4) from hp_142]) ?_
  refine lv_istore hx hb d_DiscMakerModel_link_145 hl (by decide) rfl (fun ls hl => ?_)
  have hl : lv_has ls 6 [(5, .int (-4)), (4, .int 0), (3, .int (-1)), (2, .int 0), (0, .ref h0), (1, .int n)] := hl
  refine lv_iload hx hb d_DiscMakerModel_link_147 (lv_at hl 0 rfl) ?_
  refine lv_if_lt (tgt := 162) hx hb d_DiscMakerModel_link_149 (by decide) (fun h_149 => ?_) (fun h_149 => absurd (by decide) h_149)
  refine lv_iload hx hb d_DiscMakerModel_link_162 (lv_at hl 0 rfl) ?_
  have hP9 := hP.sub (ws' := []) [] rfl
  have hD9 := hD.sub (ws' := []) [] (by decide) rfl
  exact W.iret (v := (-4)) hx hb hr (fun t ht hW => ⟨⟨(-4), (), rfl, rfl, by rw [ht]; exact hP9, hD9⟩, hS.F ht⟩) hS.2.2 d_DiscMakerModel_link_164

theorem d_DiscMakerModel_sectors_0 : decode b_DiscMakerModel_sectors 0 = .ok (.aload_n 0, 1) := by decide +kernel
theorem d_DiscMakerModel_sectors_1 : decode b_DiscMakerModel_sectors 1 = .ok (.iconst 0, 1) := by decide +kernel
theorem d_DiscMakerModel_sectors_2 : decode b_DiscMakerModel_sectors 2 = .ok (.putfield 118, 3) := by decide +kernel
theorem d_DiscMakerModel_sectors_5 : decode b_DiscMakerModel_sectors 5 = .ok (.aload_n 0, 1) := by decide +kernel
theorem d_DiscMakerModel_sectors_6 : decode b_DiscMakerModel_sectors 6 = .ok (.getfield 282, 3) := by decide +kernel
theorem d_DiscMakerModel_sectors_9 : decode b_DiscMakerModel_sectors 9 = .ok (.ireturn, 1) := by decide +kernel
set_option maxHeartbeats 4000000 in
set_option maxRecDepth 100000 in
theorem c_m_sectors (l : Launch) (D : va_G) (cB cI cJ cZ cN cF : ClassId) (sz : Nat) (h0 atext akind aparent amode aowner agroup asize aseed aname anameSize atarget atargetSize abase abaseSize aextension aextensionSize aimage atable asector asectors acontents aabove aisDirectory abytes aplace areadMode areadOwner areadGroup areadName areadNameSize areadTarget areadTargetSize adepth : Nat) : Met l y_DiscMakerModel_sectors w_DiscMakerModel_sectors ({ frames := 0, cells := 0, slots := 0, locals := 0 }) (va_Pc [.ref h0] (fun U => U.heap.size = sz ∧ va_P D CL [(h0, .inr (11, [.int 0, .ref atext, .int 0, .int 1, .ref akind, .ref aparent, .ref amode, .ref aowner, .ref agroup, .ref asize, .ref aseed, .ref aname, .ref anameSize, .ref atarget, .ref atargetSize, .ref abase, .ref abaseSize, .ref aextension, .ref aextensionSize, .ref aimage, .int 0, .ref atable, .ref asector, .ref asectors, .ref acontents, .int 0, .int 0, .int 0, .int 0, .ref aabove, .ref aisDirectory, .ref abytes, .ref aplace, .ref areadMode, .ref areadOwner, .ref areadGroup, .ref areadName, .ref areadNameSize, .ref areadTarget, .ref areadTargetSize, .ref adepth, .int 0, .int 0, .int 0, .int 0, .int 0, .int 0, .int 0]))] U.heap ∧ va_K D CL (TY cB cI cJ cZ cN cF) U ∧ NN U ∧ va_D (fun _ => True) [(h0, .inr (11, [.int 0, .ref atext, .int 0, .int 1, .ref akind, .ref aparent, .ref amode, .ref aowner, .ref agroup, .ref asize, .ref aseed, .ref aname, .ref anameSize, .ref atarget, .ref atargetSize, .ref abase, .ref abaseSize, .ref aextension, .ref aextensionSize, .ref aimage, .int 0, .ref atable, .ref asector, .ref asectors, .ref acontents, .int 0, .int 0, .int 0, .int 0, .ref aabove, .ref aisDirectory, .ref abytes, .ref aplace, .ref areadMode, .ref areadOwner, .ref areadGroup, .ref areadName, .ref areadNameSize, .ref areadTarget, .ref areadTargetSize, .ref adepth, .int 0, .int 0, .int 0, .int 0, .int 0, .int 0, .int 0]))])) (va_Qi (fun (r : Int32) (u : Unit) => r = 0) (fun (u : Unit) (t : State) => match u with | () => va_P D CL [] t.heap ∧ va_D (va_A [(h0, .inr (11, [.int 0, .ref atext, .int 0, .int 1, .ref akind, .ref aparent, .ref amode, .ref aowner, .ref agroup, .ref asize, .ref aseed, .ref aname, .ref anameSize, .ref atarget, .ref atargetSize, .ref abase, .ref abaseSize, .ref aextension, .ref aextensionSize, .ref aimage, .int 0, .ref atable, .ref asector, .ref asectors, .ref acontents, .int 0, .int 0, .int 0, .int 0, .ref aabove, .ref aisDirectory, .ref abytes, .ref aplace, .ref areadMode, .ref areadOwner, .ref areadGroup, .ref areadName, .ref areadNameSize, .ref areadTarget, .ref areadTargetSize, .ref adepth, .int 0, .int 0, .int 0, .int 0, .int 0, .int 0, .int 0]))] sz) []) (va_A [(h0, .inr (11, [.int 0, .ref atext, .int 0, .int 1, .ref akind, .ref aparent, .ref amode, .ref aowner, .ref agroup, .ref asize, .ref aseed, .ref aname, .ref anameSize, .ref atarget, .ref atargetSize, .ref abase, .ref abaseSize, .ref aextension, .ref aextensionSize, .ref aimage, .int 0, .ref atable, .ref asector, .ref asectors, .ref acontents, .int 0, .int 0, .int 0, .int 0, .ref aabove, .ref aisDirectory, .ref abytes, .ref aplace, .ref areadMode, .ref areadOwner, .ref areadGroup, .ref areadName, .ref areadNameSize, .ref areadTarget, .ref areadTargetSize, .ref adepth, .int 0, .int 0, .int 0, .int 0, .int 0, .int 0, .int 0]))] sz)) 0 0 (va_A [(h0, .inr (11, [.int 0, .ref atext, .int 0, .int 1, .ref akind, .ref aparent, .ref amode, .ref aowner, .ref agroup, .ref asize, .ref aseed, .ref aname, .ref anameSize, .ref atarget, .ref atargetSize, .ref abase, .ref abaseSize, .ref aextension, .ref aextensionSize, .ref aimage, .int 0, .ref atable, .ref asector, .ref asectors, .ref acontents, .int 0, .int 0, .int 0, .int 0, .ref aabove, .ref aisDirectory, .ref abytes, .ref aplace, .ref areadMode, .ref areadOwner, .ref areadGroup, .ref areadName, .ref areadNameSize, .ref areadTarget, .ref areadTargetSize, .ref adepth, .int 0, .int 0, .int 0, .int 0, .int 0, .int 0, .int 0]))] sz) := by
  refine Met.ofW (cc := b_DiscMakerModel_sectors) (maxL := 1) (ret := some .int) (by decide) rfl ?_
  intro p e s m args below meth c s₁ B hml hv
  obtain ⟨rfl, hsz, hP, hK, hN, hD0⟩ := hv
  have hx := B.exec
  have hb := B.bytes
  have hr := B.returns
  have hts := atoms_spec (ws := w_DiscMakerModel_sectors) B.pre
  have ht9 := fun (w : Cond) (h : w ∈ lw_g) => hts w (List.mem_cons_of_mem _ h)
  have hown : s.vm.findClass "DiscMakerModel" = some m.cls := findClass_of_methodNamed B.named
  have hlocks := B.notSynchronized
  subst hsz
  have hD := hD0.self (sz := s.heap.size)
  generalize hAe : va_A [(h0, .inr (11, [.int 0, .ref atext, .int 0, .int 1, .ref akind, .ref aparent, .ref amode, .ref aowner, .ref agroup, .ref asize, .ref aseed, .ref aname, .ref anameSize, .ref atarget, .ref atargetSize, .ref abase, .ref abaseSize, .ref aextension, .ref aextensionSize, .ref aimage, .int 0, .ref atable, .ref asector, .ref asectors, .ref acontents, .int 0, .int 0, .int 0, .int 0, .ref aabove, .ref aisDirectory, .ref abytes, .ref aplace, .ref areadMode, .ref areadOwner, .ref areadGroup, .ref areadName, .ref areadNameSize, .ref areadTarget, .ref areadTargetSize, .ref adepth, .int 0, .int 0, .int 0, .int 0, .int 0, .int 0, .int 0]))] s.heap.size = A at hD ⊢
  have hA : ∀ q : Nat, s.heap.size ≤ q → A q := fun q h => by rw [← hAe]; exact Or.inr h
  have hS : va_S A s.heap s.heap [] := va_S.rf
  have hP : va_P D CL [(h0, .inr (11, [.int 0, .ref atext, .int 0, .int 1, .ref akind, .ref aparent, .ref amode, .ref aowner, .ref agroup, .ref asize, .ref aseed, .ref aname, .ref anameSize, .ref atarget, .ref atargetSize, .ref abase, .ref abaseSize, .ref aextension, .ref aextensionSize, .ref aimage, .int 0, .ref atable, .ref asector, .ref asectors, .ref acontents, .int 0, .int 0, .int 0, .int 0, .ref aabove, .ref aisDirectory, .ref abytes, .ref aplace, .ref areadMode, .ref areadOwner, .ref areadGroup, .ref areadName, .ref areadNameSize, .ref areadTarget, .ref areadTargetSize, .ref adepth, .int 0, .int 0, .int 0, .int 0, .int 0, .int 0, .int 0]))] s.heap := hP
  have hl := lv_entry [.ref h0] (n := 1) (Nat.le_of_ble_eq_true rfl)
  rw [lg_entry_eq]
  generalize (lg_sl [.ref h0] ++ List.replicate (1 - (lg_sl [.ref h0]).length) Slot.unset).toArray = ls at hl ⊢
  have hl : lv_has ls 1 [(0, .ref h0)] := hl
  refine lv_aload_n hx hb d_DiscMakerModel_sectors_0 rfl (lv_at hl 0 rfl) ?_
  refine lv_iconst (v := 0) hx hb d_DiscMakerModel_sectors_1 (by decide) ?_
  refine va_put (D := D) (ci := 11) (v := .int 0) (ty := .int) (C := "DiscMakerModel") (T := F_DiscMakerModel) (N := 48) hx hb ht9 in_DiscMakerModel t_DiscMakerModel t_DiscMakerModel_ok n_DiscMakerModel hown hK hP hD hS 0 rfl rfl 0 (by decide) (ht9 _ k1431) (fun _ h9 => h9) rfl (by decide +kernel) rfl rfl (Nat.le_of_ble_eq_true rfl) d_DiscMakerModel_sectors_2 (fun H locs hP hD hS => ?_)
  have hP : va_P D CL [(h0, .inr (11, [.int 0, .ref atext, .int 0, .int 1, .ref akind, .ref aparent, .ref amode, .ref aowner, .ref agroup, .ref asize, .ref aseed, .ref aname, .ref anameSize, .ref atarget, .ref atargetSize, .ref abase, .ref abaseSize, .ref aextension, .ref aextensionSize, .ref aimage, .int 0, .ref atable, .ref asector, .ref asectors, .ref acontents, .int 0, .int 0, .int 0, .int 0, .ref aabove, .ref aisDirectory, .ref abytes, .ref aplace, .ref areadMode, .ref areadOwner, .ref areadGroup, .ref areadName, .ref areadNameSize, .ref areadTarget, .ref areadTargetSize, .ref adepth, .int 0, .int 0, .int 0, .int 0, .int 0, .int 0, .int 0]))] H := hP
  have hD : va_D A [(h0, .inr (11, [.int 0, .ref atext, .int 0, .int 1, .ref akind, .ref aparent, .ref amode, .ref aowner, .ref agroup, .ref asize, .ref aseed, .ref aname, .ref anameSize, .ref atarget, .ref atargetSize, .ref abase, .ref abaseSize, .ref aextension, .ref aextensionSize, .ref aimage, .int 0, .ref atable, .ref asector, .ref asectors, .ref acontents, .int 0, .int 0, .int 0, .int 0, .ref aabove, .ref aisDirectory, .ref abytes, .ref aplace, .ref areadMode, .ref areadOwner, .ref areadGroup, .ref areadName, .ref areadNameSize, .ref areadTarget, .ref areadTargetSize, .ref adepth, .int 0, .int 0, .int 0, .int 0, .int 0, .int 0, .int 0]))] := hD
  refine lv_aload_n hx hb d_DiscMakerModel_sectors_5 rfl (lv_at hl 0 rfl) ?_
  refine va_get (D := D) (ci := 11) (v := .int 0) (C := "DiscMakerModel") (T := F_DiscMakerModel) (N := 48) hx hb ht9 in_DiscMakerModel hown hK hP 0 rfl rfl 20 (by decide) (ht9 _ k1451) (fun _ h9 => h9) rfl d_DiscMakerModel_sectors_6 ?_
  have hP9 := hP.sub (ws' := []) [] rfl
  have hD9 := hD.sub (ws' := []) [] (by decide) rfl
  exact W.iret (v := 0) hx hb hr (fun t ht hW => ⟨⟨0, (), rfl, rfl, by rw [ht]; exact hP9, hD9⟩, hS.F ht⟩) hS.2.2 d_DiscMakerModel_sectors_9

theorem d_DiscMakerModel_byteAt_0 : decode b_DiscMakerModel_byteAt 0 = .ok (.aload_n 0, 1) := by decide +kernel
theorem d_DiscMakerModel_byteAt_1 : decode b_DiscMakerModel_byteAt 1 = .ok (.iconst 0, 1) := by decide +kernel
theorem d_DiscMakerModel_byteAt_2 : decode b_DiscMakerModel_byteAt 2 = .ok (.putfield 118, 3) := by decide +kernel
theorem d_DiscMakerModel_byteAt_5 : decode b_DiscMakerModel_byteAt 5 = .ok (.iload_n 1, 1) := by decide +kernel
theorem d_DiscMakerModel_byteAt_6 : decode b_DiscMakerModel_byteAt 6 = .ok (.ifCond .lt 23, 3) := by decide +kernel
theorem d_DiscMakerModel_byteAt_9 : decode b_DiscMakerModel_byteAt 9 = .ok (.iload_n 1, 1) := by decide +kernel
theorem d_DiscMakerModel_byteAt_10 : decode b_DiscMakerModel_byteAt 10 = .ok (.sipush 2048, 3) := by decide +kernel
theorem d_DiscMakerModel_byteAt_13 : decode b_DiscMakerModel_byteAt 13 = .ok (.aload_n 0, 1) := by decide +kernel
theorem d_DiscMakerModel_byteAt_14 : decode b_DiscMakerModel_byteAt 14 = .ok (.getfield 282, 3) := by decide +kernel
theorem d_DiscMakerModel_byteAt_17 : decode b_DiscMakerModel_byteAt 17 = .ok (.imul, 1) := by decide +kernel
theorem d_DiscMakerModel_byteAt_18 : decode b_DiscMakerModel_byteAt 18 = .ok (.if_icmp .ge 11, 3) := by decide +kernel
theorem d_DiscMakerModel_byteAt_29 : decode b_DiscMakerModel_byteAt 29 = .ok (.iconst (-1), 1) := by decide +kernel
theorem d_DiscMakerModel_byteAt_30 : decode b_DiscMakerModel_byteAt 30 = .ok (.ireturn, 1) := by decide +kernel
set_option maxHeartbeats 4000000 in
set_option maxRecDepth 100000 in
theorem c_m_byteAt (l : Launch) (D : va_G) (cB cI cJ cZ cN cF : ClassId) (sz : Nat) (h0 atext akind aparent amode aowner agroup asize aseed aname anameSize atarget atargetSize abase abaseSize aextension aextensionSize aimage atable asector asectors acontents aabove aisDirectory abytes aplace areadMode areadOwner areadGroup areadName areadNameSize areadTarget areadTargetSize adepth : Nat) (n : Int32) : Met l y_DiscMakerModel_byteAt w_DiscMakerModel_byteAt ({ frames := 0, cells := 0, slots := 0, locals := 0 }) (va_Pc [.ref h0, .int n] (fun U => U.heap.size = sz ∧ va_P D CL [(h0, .inr (11, [.int 0, .ref atext, .int 0, .int 1, .ref akind, .ref aparent, .ref amode, .ref aowner, .ref agroup, .ref asize, .ref aseed, .ref aname, .ref anameSize, .ref atarget, .ref atargetSize, .ref abase, .ref abaseSize, .ref aextension, .ref aextensionSize, .ref aimage, .int 0, .ref atable, .ref asector, .ref asectors, .ref acontents, .int 0, .int 0, .int 0, .int 0, .ref aabove, .ref aisDirectory, .ref abytes, .ref aplace, .ref areadMode, .ref areadOwner, .ref areadGroup, .ref areadName, .ref areadNameSize, .ref areadTarget, .ref areadTargetSize, .ref adepth, .int 0, .int 0, .int 0, .int 0, .int 0, .int 0, .int 0]))] U.heap ∧ va_K D CL (TY cB cI cJ cZ cN cF) U ∧ NN U ∧ va_D (fun _ => True) [(h0, .inr (11, [.int 0, .ref atext, .int 0, .int 1, .ref akind, .ref aparent, .ref amode, .ref aowner, .ref agroup, .ref asize, .ref aseed, .ref aname, .ref anameSize, .ref atarget, .ref atargetSize, .ref abase, .ref abaseSize, .ref aextension, .ref aextensionSize, .ref aimage, .int 0, .ref atable, .ref asector, .ref asectors, .ref acontents, .int 0, .int 0, .int 0, .int 0, .ref aabove, .ref aisDirectory, .ref abytes, .ref aplace, .ref areadMode, .ref areadOwner, .ref areadGroup, .ref areadName, .ref areadNameSize, .ref areadTarget, .ref areadTargetSize, .ref adepth, .int 0, .int 0, .int 0, .int 0, .int 0, .int 0, .int 0]))])) (va_Qi (fun (r : Int32) (u : Unit) => r = (-1)) (fun (u : Unit) (t : State) => match u with | () => va_P D CL [] t.heap ∧ va_D (va_A [(h0, .inr (11, [.int 0, .ref atext, .int 0, .int 1, .ref akind, .ref aparent, .ref amode, .ref aowner, .ref agroup, .ref asize, .ref aseed, .ref aname, .ref anameSize, .ref atarget, .ref atargetSize, .ref abase, .ref abaseSize, .ref aextension, .ref aextensionSize, .ref aimage, .int 0, .ref atable, .ref asector, .ref asectors, .ref acontents, .int 0, .int 0, .int 0, .int 0, .ref aabove, .ref aisDirectory, .ref abytes, .ref aplace, .ref areadMode, .ref areadOwner, .ref areadGroup, .ref areadName, .ref areadNameSize, .ref areadTarget, .ref areadTargetSize, .ref adepth, .int 0, .int 0, .int 0, .int 0, .int 0, .int 0, .int 0]))] sz) []) (va_A [(h0, .inr (11, [.int 0, .ref atext, .int 0, .int 1, .ref akind, .ref aparent, .ref amode, .ref aowner, .ref agroup, .ref asize, .ref aseed, .ref aname, .ref anameSize, .ref atarget, .ref atargetSize, .ref abase, .ref abaseSize, .ref aextension, .ref aextensionSize, .ref aimage, .int 0, .ref atable, .ref asector, .ref asectors, .ref acontents, .int 0, .int 0, .int 0, .int 0, .ref aabove, .ref aisDirectory, .ref abytes, .ref aplace, .ref areadMode, .ref areadOwner, .ref areadGroup, .ref areadName, .ref areadNameSize, .ref areadTarget, .ref areadTargetSize, .ref adepth, .int 0, .int 0, .int 0, .int 0, .int 0, .int 0, .int 0]))] sz)) 0 0 (va_A [(h0, .inr (11, [.int 0, .ref atext, .int 0, .int 1, .ref akind, .ref aparent, .ref amode, .ref aowner, .ref agroup, .ref asize, .ref aseed, .ref aname, .ref anameSize, .ref atarget, .ref atargetSize, .ref abase, .ref abaseSize, .ref aextension, .ref aextensionSize, .ref aimage, .int 0, .ref atable, .ref asector, .ref asectors, .ref acontents, .int 0, .int 0, .int 0, .int 0, .ref aabove, .ref aisDirectory, .ref abytes, .ref aplace, .ref areadMode, .ref areadOwner, .ref areadGroup, .ref areadName, .ref areadNameSize, .ref areadTarget, .ref areadTargetSize, .ref adepth, .int 0, .int 0, .int 0, .int 0, .int 0, .int 0, .int 0]))] sz) := by
  refine Met.ofW (cc := b_DiscMakerModel_byteAt) (maxL := 2) (ret := some .int) (by decide) rfl ?_
  intro p e s m args below meth c s₁ B hml hv
  obtain ⟨rfl, hsz, hP, hK, hN, hD0⟩ := hv
  have hx := B.exec
  have hb := B.bytes
  have hr := B.returns
  have hts := atoms_spec (ws := w_DiscMakerModel_byteAt) B.pre
  have ht9 := fun (w : Cond) (h : w ∈ lw_g) => hts w (List.mem_cons_of_mem _ h)
  have hown : s.vm.findClass "DiscMakerModel" = some m.cls := findClass_of_methodNamed B.named
  have hlocks := B.notSynchronized
  subst hsz
  have hD := hD0.self (sz := s.heap.size)
  generalize hAe : va_A [(h0, .inr (11, [.int 0, .ref atext, .int 0, .int 1, .ref akind, .ref aparent, .ref amode, .ref aowner, .ref agroup, .ref asize, .ref aseed, .ref aname, .ref anameSize, .ref atarget, .ref atargetSize, .ref abase, .ref abaseSize, .ref aextension, .ref aextensionSize, .ref aimage, .int 0, .ref atable, .ref asector, .ref asectors, .ref acontents, .int 0, .int 0, .int 0, .int 0, .ref aabove, .ref aisDirectory, .ref abytes, .ref aplace, .ref areadMode, .ref areadOwner, .ref areadGroup, .ref areadName, .ref areadNameSize, .ref areadTarget, .ref areadTargetSize, .ref adepth, .int 0, .int 0, .int 0, .int 0, .int 0, .int 0, .int 0]))] s.heap.size = A at hD ⊢
  have hA : ∀ q : Nat, s.heap.size ≤ q → A q := fun q h => by rw [← hAe]; exact Or.inr h
  have hS : va_S A s.heap s.heap [] := va_S.rf
  have hP : va_P D CL [(h0, .inr (11, [.int 0, .ref atext, .int 0, .int 1, .ref akind, .ref aparent, .ref amode, .ref aowner, .ref agroup, .ref asize, .ref aseed, .ref aname, .ref anameSize, .ref atarget, .ref atargetSize, .ref abase, .ref abaseSize, .ref aextension, .ref aextensionSize, .ref aimage, .int 0, .ref atable, .ref asector, .ref asectors, .ref acontents, .int 0, .int 0, .int 0, .int 0, .ref aabove, .ref aisDirectory, .ref abytes, .ref aplace, .ref areadMode, .ref areadOwner, .ref areadGroup, .ref areadName, .ref areadNameSize, .ref areadTarget, .ref areadTargetSize, .ref adepth, .int 0, .int 0, .int 0, .int 0, .int 0, .int 0, .int 0]))] s.heap := hP
  have hl := lv_entry [.ref h0, .int n] (n := 2) (Nat.le_of_ble_eq_true rfl)
  rw [lg_entry_eq]
  generalize (lg_sl [.ref h0, .int n] ++ List.replicate (2 - (lg_sl [.ref h0, .int n]).length) Slot.unset).toArray = ls at hl ⊢
  have hl : lv_has ls 2 [(0, .ref h0), (1, .int n)] := hl
  refine lv_aload_n hx hb d_DiscMakerModel_byteAt_0 rfl (lv_at hl 0 rfl) ?_
  refine lv_iconst (v := 0) hx hb d_DiscMakerModel_byteAt_1 (by decide) ?_
  refine va_put (D := D) (ci := 11) (v := .int 0) (ty := .int) (C := "DiscMakerModel") (T := F_DiscMakerModel) (N := 48) hx hb ht9 in_DiscMakerModel t_DiscMakerModel t_DiscMakerModel_ok n_DiscMakerModel hown hK hP hD hS 0 rfl rfl 0 (by decide) (ht9 _ k1431) (fun _ h9 => h9) rfl (by decide +kernel) rfl rfl (Nat.le_of_ble_eq_true rfl) d_DiscMakerModel_byteAt_2 (fun H locs hP hD hS => ?_)
  have hP : va_P D CL [(h0, .inr (11, [.int 0, .ref atext, .int 0, .int 1, .ref akind, .ref aparent, .ref amode, .ref aowner, .ref agroup, .ref asize, .ref aseed, .ref aname, .ref anameSize, .ref atarget, .ref atargetSize, .ref abase, .ref abaseSize, .ref aextension, .ref aextensionSize, .ref aimage, .int 0, .ref atable, .ref asector, .ref asectors, .ref acontents, .int 0, .int 0, .int 0, .int 0, .ref aabove, .ref aisDirectory, .ref abytes, .ref aplace, .ref areadMode, .ref areadOwner, .ref areadGroup, .ref areadName, .ref areadNameSize, .ref areadTarget, .ref areadTargetSize, .ref adepth, .int 0, .int 0, .int 0, .int 0, .int 0, .int 0, .int 0]))] H := hP
  have hD : va_D A [(h0, .inr (11, [.int 0, .ref atext, .int 0, .int 1, .ref akind, .ref aparent, .ref amode, .ref aowner, .ref agroup, .ref asize, .ref aseed, .ref aname, .ref anameSize, .ref atarget, .ref atargetSize, .ref abase, .ref abaseSize, .ref aextension, .ref aextensionSize, .ref aimage, .int 0, .ref atable, .ref asector, .ref asectors, .ref acontents, .int 0, .int 0, .int 0, .int 0, .ref aabove, .ref aisDirectory, .ref abytes, .ref aplace, .ref areadMode, .ref areadOwner, .ref areadGroup, .ref areadName, .ref areadNameSize, .ref areadTarget, .ref areadTargetSize, .ref adepth, .int 0, .int 0, .int 0, .int 0, .int 0, .int 0, .int 0]))] := hD
  refine lv_iload_n hx hb d_DiscMakerModel_byteAt_5 rfl (lv_at hl 1 rfl) ?_
  refine lv_if_lt (tgt := 29) hx hb d_DiscMakerModel_byteAt_6 (by decide) (fun h_6 => ?_) (fun h_6 => ?_)
  · skip
    refine lv_iconst (v := (-1)) hx hb d_DiscMakerModel_byteAt_29 (by decide) ?_
    have hP9 := hP.sub (ws' := []) [] rfl
    have hD9 := hD.sub (ws' := []) [] (by decide) rfl
    exact W.iret (v := (-1)) hx hb hr (fun t ht hW => ⟨⟨(-1), (), rfl, rfl, by rw [ht]; exact hP9, hD9⟩, hS.F ht⟩) hS.2.2 d_DiscMakerModel_byteAt_30
  · skip
    refine lv_iload_n hx hb d_DiscMakerModel_byteAt_9 rfl (lv_at hl 1 rfl) ?_
    refine lv_sipush (v := 2048) hx hb d_DiscMakerModel_byteAt_10 (by decide) ?_
    refine lv_aload_n hx hb d_DiscMakerModel_byteAt_13 rfl (lv_at hl 0 rfl) ?_
    refine va_get (D := D) (ci := 11) (v := .int 0) (C := "DiscMakerModel") (T := F_DiscMakerModel) (N := 48) hx hb ht9 in_DiscMakerModel hown hK hP 0 rfl rfl 20 (by decide) (ht9 _ k1451) (fun _ h9 => h9) rfl d_DiscMakerModel_byteAt_14 ?_
    refine lv_imul hx hb d_DiscMakerModel_byteAt_17 ?_
    refine W.eq (g2 := F0 m 18 ls [.int 0, .int n]) (by rw [show ((2048 * 0) : Int32) = 0 from by decide]) ?_
    refine lv_icmp_ge (tgt := 29) hx hb d_DiscMakerModel_byteAt_18 (by decide) (fun h_18 => ?_) (fun h_18 => absurd (z_ge0 h_6) h_18)
    refine lv_iconst (v := (-1)) hx hb d_DiscMakerModel_byteAt_29 (by decide) ?_
    have hP9 := hP.sub (ws' := []) [] rfl
    have hD9 := hD.sub (ws' := []) [] (by decide) rfl
    exact W.iret (v := (-1)) hx hb hr (fun t ht hW => ⟨⟨(-1), (), rfl, rfl, by rw [ht]; exact hP9, hD9⟩, hS.F ht⟩) hS.2.2 d_DiscMakerModel_byteAt_30

theorem d_DiscMakerModel_poke_0 : decode b_DiscMakerModel_poke 0 = .ok (.aload_n 0, 1) := by decide +kernel
theorem d_DiscMakerModel_poke_1 : decode b_DiscMakerModel_poke 1 = .ok (.iconst 0, 1) := by decide +kernel
theorem d_DiscMakerModel_poke_2 : decode b_DiscMakerModel_poke 2 = .ok (.putfield 118, 3) := by decide +kernel
theorem d_DiscMakerModel_poke_5 : decode b_DiscMakerModel_poke 5 = .ok (.iload_n 1, 1) := by decide +kernel
theorem d_DiscMakerModel_poke_6 : decode b_DiscMakerModel_poke 6 = .ok (.ifCond .lt 15, 3) := by decide +kernel
theorem d_DiscMakerModel_poke_9 : decode b_DiscMakerModel_poke 9 = .ok (.iload_n 1, 1) := by decide +kernel
theorem d_DiscMakerModel_poke_10 : decode b_DiscMakerModel_poke 10 = .ok (.sipush 2048, 3) := by decide +kernel
theorem d_DiscMakerModel_poke_13 : decode b_DiscMakerModel_poke 13 = .ok (.aload_n 0, 1) := by decide +kernel
theorem d_DiscMakerModel_poke_14 : decode b_DiscMakerModel_poke 14 = .ok (.getfield 282, 3) := by decide +kernel
theorem d_DiscMakerModel_poke_17 : decode b_DiscMakerModel_poke 17 = .ok (.imul, 1) := by decide +kernel
theorem d_DiscMakerModel_poke_18 : decode b_DiscMakerModel_poke 18 = .ok (.if_icmp .lt 5, 3) := by decide +kernel
theorem d_DiscMakerModel_poke_21 : decode b_DiscMakerModel_poke 21 = .ok (.iconst (-1), 1) := by decide +kernel
theorem d_DiscMakerModel_poke_22 : decode b_DiscMakerModel_poke 22 = .ok (.ireturn, 1) := by decide +kernel
set_option maxHeartbeats 4000000 in
set_option maxRecDepth 100000 in
theorem c_m_poke (l : Launch) (D : va_G) (cB cI cJ cZ cN cF : ClassId) (sz : Nat) (h0 atext akind aparent amode aowner agroup asize aseed aname anameSize atarget atargetSize abase abaseSize aextension aextensionSize aimage atable asector asectors acontents aabove aisDirectory abytes aplace areadMode areadOwner areadGroup areadName areadNameSize areadTarget areadTargetSize adepth : Nat) (n v : Int32) : Met l y_DiscMakerModel_poke w_DiscMakerModel_poke ({ frames := 0, cells := 0, slots := 0, locals := 0 }) (va_Pc [.ref h0, .int n, .int v] (fun U => U.heap.size = sz ∧ va_P D CL [(h0, .inr (11, [.int 0, .ref atext, .int 0, .int 1, .ref akind, .ref aparent, .ref amode, .ref aowner, .ref agroup, .ref asize, .ref aseed, .ref aname, .ref anameSize, .ref atarget, .ref atargetSize, .ref abase, .ref abaseSize, .ref aextension, .ref aextensionSize, .ref aimage, .int 0, .ref atable, .ref asector, .ref asectors, .ref acontents, .int 0, .int 0, .int 0, .int 0, .ref aabove, .ref aisDirectory, .ref abytes, .ref aplace, .ref areadMode, .ref areadOwner, .ref areadGroup, .ref areadName, .ref areadNameSize, .ref areadTarget, .ref areadTargetSize, .ref adepth, .int 0, .int 0, .int 0, .int 0, .int 0, .int 0, .int 0]))] U.heap ∧ va_K D CL (TY cB cI cJ cZ cN cF) U ∧ NN U ∧ va_D (fun _ => True) [(h0, .inr (11, [.int 0, .ref atext, .int 0, .int 1, .ref akind, .ref aparent, .ref amode, .ref aowner, .ref agroup, .ref asize, .ref aseed, .ref aname, .ref anameSize, .ref atarget, .ref atargetSize, .ref abase, .ref abaseSize, .ref aextension, .ref aextensionSize, .ref aimage, .int 0, .ref atable, .ref asector, .ref asectors, .ref acontents, .int 0, .int 0, .int 0, .int 0, .ref aabove, .ref aisDirectory, .ref abytes, .ref aplace, .ref areadMode, .ref areadOwner, .ref areadGroup, .ref areadName, .ref areadNameSize, .ref areadTarget, .ref areadTargetSize, .ref adepth, .int 0, .int 0, .int 0, .int 0, .int 0, .int 0, .int 0]))])) (va_Qi (fun (r : Int32) (u : Unit) => r = (-1)) (fun (u : Unit) (t : State) => match u with | () => va_P D CL [] t.heap ∧ va_D (va_A [(h0, .inr (11, [.int 0, .ref atext, .int 0, .int 1, .ref akind, .ref aparent, .ref amode, .ref aowner, .ref agroup, .ref asize, .ref aseed, .ref aname, .ref anameSize, .ref atarget, .ref atargetSize, .ref abase, .ref abaseSize, .ref aextension, .ref aextensionSize, .ref aimage, .int 0, .ref atable, .ref asector, .ref asectors, .ref acontents, .int 0, .int 0, .int 0, .int 0, .ref aabove, .ref aisDirectory, .ref abytes, .ref aplace, .ref areadMode, .ref areadOwner, .ref areadGroup, .ref areadName, .ref areadNameSize, .ref areadTarget, .ref areadTargetSize, .ref adepth, .int 0, .int 0, .int 0, .int 0, .int 0, .int 0, .int 0]))] sz) []) (va_A [(h0, .inr (11, [.int 0, .ref atext, .int 0, .int 1, .ref akind, .ref aparent, .ref amode, .ref aowner, .ref agroup, .ref asize, .ref aseed, .ref aname, .ref anameSize, .ref atarget, .ref atargetSize, .ref abase, .ref abaseSize, .ref aextension, .ref aextensionSize, .ref aimage, .int 0, .ref atable, .ref asector, .ref asectors, .ref acontents, .int 0, .int 0, .int 0, .int 0, .ref aabove, .ref aisDirectory, .ref abytes, .ref aplace, .ref areadMode, .ref areadOwner, .ref areadGroup, .ref areadName, .ref areadNameSize, .ref areadTarget, .ref areadTargetSize, .ref adepth, .int 0, .int 0, .int 0, .int 0, .int 0, .int 0, .int 0]))] sz)) 0 0 (va_A [(h0, .inr (11, [.int 0, .ref atext, .int 0, .int 1, .ref akind, .ref aparent, .ref amode, .ref aowner, .ref agroup, .ref asize, .ref aseed, .ref aname, .ref anameSize, .ref atarget, .ref atargetSize, .ref abase, .ref abaseSize, .ref aextension, .ref aextensionSize, .ref aimage, .int 0, .ref atable, .ref asector, .ref asectors, .ref acontents, .int 0, .int 0, .int 0, .int 0, .ref aabove, .ref aisDirectory, .ref abytes, .ref aplace, .ref areadMode, .ref areadOwner, .ref areadGroup, .ref areadName, .ref areadNameSize, .ref areadTarget, .ref areadTargetSize, .ref adepth, .int 0, .int 0, .int 0, .int 0, .int 0, .int 0, .int 0]))] sz) := by
  refine Met.ofW (cc := b_DiscMakerModel_poke) (maxL := 4) (ret := some .int) (by decide) rfl ?_
  intro p e s m args below meth c s₁ B hml hv
  obtain ⟨rfl, hsz, hP, hK, hN, hD0⟩ := hv
  have hx := B.exec
  have hb := B.bytes
  have hr := B.returns
  have hts := atoms_spec (ws := w_DiscMakerModel_poke) B.pre
  have ht9 := fun (w : Cond) (h : w ∈ lw_g) => hts w (List.mem_cons_of_mem _ h)
  have hown : s.vm.findClass "DiscMakerModel" = some m.cls := findClass_of_methodNamed B.named
  have hlocks := B.notSynchronized
  subst hsz
  have hD := hD0.self (sz := s.heap.size)
  generalize hAe : va_A [(h0, .inr (11, [.int 0, .ref atext, .int 0, .int 1, .ref akind, .ref aparent, .ref amode, .ref aowner, .ref agroup, .ref asize, .ref aseed, .ref aname, .ref anameSize, .ref atarget, .ref atargetSize, .ref abase, .ref abaseSize, .ref aextension, .ref aextensionSize, .ref aimage, .int 0, .ref atable, .ref asector, .ref asectors, .ref acontents, .int 0, .int 0, .int 0, .int 0, .ref aabove, .ref aisDirectory, .ref abytes, .ref aplace, .ref areadMode, .ref areadOwner, .ref areadGroup, .ref areadName, .ref areadNameSize, .ref areadTarget, .ref areadTargetSize, .ref adepth, .int 0, .int 0, .int 0, .int 0, .int 0, .int 0, .int 0]))] s.heap.size = A at hD ⊢
  have hA : ∀ q : Nat, s.heap.size ≤ q → A q := fun q h => by rw [← hAe]; exact Or.inr h
  have hS : va_S A s.heap s.heap [] := va_S.rf
  have hP : va_P D CL [(h0, .inr (11, [.int 0, .ref atext, .int 0, .int 1, .ref akind, .ref aparent, .ref amode, .ref aowner, .ref agroup, .ref asize, .ref aseed, .ref aname, .ref anameSize, .ref atarget, .ref atargetSize, .ref abase, .ref abaseSize, .ref aextension, .ref aextensionSize, .ref aimage, .int 0, .ref atable, .ref asector, .ref asectors, .ref acontents, .int 0, .int 0, .int 0, .int 0, .ref aabove, .ref aisDirectory, .ref abytes, .ref aplace, .ref areadMode, .ref areadOwner, .ref areadGroup, .ref areadName, .ref areadNameSize, .ref areadTarget, .ref areadTargetSize, .ref adepth, .int 0, .int 0, .int 0, .int 0, .int 0, .int 0, .int 0]))] s.heap := hP
  have hl := lv_entry [.ref h0, .int n, .int v] (n := 4) (Nat.le_of_ble_eq_true rfl)
  rw [lg_entry_eq]
  generalize (lg_sl [.ref h0, .int n, .int v] ++ List.replicate (4 - (lg_sl [.ref h0, .int n, .int v]).length) Slot.unset).toArray = ls at hl ⊢
  have hl : lv_has ls 4 [(0, .ref h0), (1, .int n), (2, .int v)] := hl
  refine lv_aload_n hx hb d_DiscMakerModel_poke_0 rfl (lv_at hl 0 rfl) ?_
  refine lv_iconst (v := 0) hx hb d_DiscMakerModel_poke_1 (by decide) ?_
  refine va_put (D := D) (ci := 11) (v := .int 0) (ty := .int) (C := "DiscMakerModel") (T := F_DiscMakerModel) (N := 48) hx hb ht9 in_DiscMakerModel t_DiscMakerModel t_DiscMakerModel_ok n_DiscMakerModel hown hK hP hD hS 0 rfl rfl 0 (by decide) (ht9 _ k1431) (fun _ h9 => h9) rfl (by decide +kernel) rfl rfl (Nat.le_of_ble_eq_true rfl) d_DiscMakerModel_poke_2 (fun H locs hP hD hS => ?_)
  have hP : va_P D CL [(h0, .inr (11, [.int 0, .ref atext, .int 0, .int 1, .ref akind, .ref aparent, .ref amode, .ref aowner, .ref agroup, .ref asize, .ref aseed, .ref aname, .ref anameSize, .ref atarget, .ref atargetSize, .ref abase, .ref abaseSize, .ref aextension, .ref aextensionSize, .ref aimage, .int 0, .ref atable, .ref asector, .ref asectors, .ref acontents, .int 0, .int 0, .int 0, .int 0, .ref aabove, .ref aisDirectory, .ref abytes, .ref aplace, .ref areadMode, .ref areadOwner, .ref areadGroup, .ref areadName, .ref areadNameSize, .ref areadTarget, .ref areadTargetSize, .ref adepth, .int 0, .int 0, .int 0, .int 0, .int 0, .int 0, .int 0]))] H := hP
  have hD : va_D A [(h0, .inr (11, [.int 0, .ref atext, .int 0, .int 1, .ref akind, .ref aparent, .ref amode, .ref aowner, .ref agroup, .ref asize, .ref aseed, .ref aname, .ref anameSize, .ref atarget, .ref atargetSize, .ref abase, .ref abaseSize, .ref aextension, .ref aextensionSize, .ref aimage, .int 0, .ref atable, .ref asector, .ref asectors, .ref acontents, .int 0, .int 0, .int 0, .int 0, .ref aabove, .ref aisDirectory, .ref abytes, .ref aplace, .ref areadMode, .ref areadOwner, .ref areadGroup, .ref areadName, .ref areadNameSize, .ref areadTarget, .ref areadTargetSize, .ref adepth, .int 0, .int 0, .int 0, .int 0, .int 0, .int 0, .int 0]))] := hD
  refine lv_iload_n hx hb d_DiscMakerModel_poke_5 rfl (lv_at hl 1 rfl) ?_
  refine lv_if_lt (tgt := 21) hx hb d_DiscMakerModel_poke_6 (by decide) (fun h_6 => ?_) (fun h_6 => ?_)
  · skip
    refine lv_iconst (v := (-1)) hx hb d_DiscMakerModel_poke_21 (by decide) ?_
    have hP9 := hP.sub (ws' := []) [] rfl
    have hD9 := hD.sub (ws' := []) [] (by decide) rfl
    exact W.iret (v := (-1)) hx hb hr (fun t ht hW => ⟨⟨(-1), (), rfl, rfl, by rw [ht]; exact hP9, hD9⟩, hS.F ht⟩) hS.2.2 d_DiscMakerModel_poke_22
  · skip
    refine lv_iload_n hx hb d_DiscMakerModel_poke_9 rfl (lv_at hl 1 rfl) ?_
    refine lv_sipush (v := 2048) hx hb d_DiscMakerModel_poke_10 (by decide) ?_
    refine lv_aload_n hx hb d_DiscMakerModel_poke_13 rfl (lv_at hl 0 rfl) ?_
    refine va_get (D := D) (ci := 11) (v := .int 0) (C := "DiscMakerModel") (T := F_DiscMakerModel) (N := 48) hx hb ht9 in_DiscMakerModel hown hK hP 0 rfl rfl 20 (by decide) (ht9 _ k1451) (fun _ h9 => h9) rfl d_DiscMakerModel_poke_14 ?_
    refine lv_imul hx hb d_DiscMakerModel_poke_17 ?_
    refine W.eq (g2 := F0 m 18 ls [.int 0, .int n]) (by rw [show ((2048 * 0) : Int32) = 0 from by decide]) ?_
    refine lv_icmp_lt (tgt := 23) hx hb d_DiscMakerModel_poke_18 (by decide) (fun h_18 => absurd h_18 (h_6)) (fun h_18 => ?_)
    refine lv_iconst (v := (-1)) hx hb d_DiscMakerModel_poke_21 (by decide) ?_
    have hP9 := hP.sub (ws' := []) [] rfl
    have hD9 := hD.sub (ws' := []) [] (by decide) rfl
    exact W.iret (v := (-1)) hx hb hr (fun t ht hW => ⟨⟨(-1), (), rfl, rfl, by rw [ht]; exact hP9, hD9⟩, hS.F ht⟩) hS.2.2 d_DiscMakerModel_poke_22

theorem d_DiscMakerModel_isWrong_0 : decode b_DiscMakerModel_isWrong 0 = .ok (.aload_n 0, 1) := by decide +kernel
theorem d_DiscMakerModel_isWrong_1 : decode b_DiscMakerModel_isWrong 1 = .ok (.getfield 306, 3) := by decide +kernel
theorem d_DiscMakerModel_isWrong_4 : decode b_DiscMakerModel_isWrong 4 = .ok (.ifCond .ge 8, 3) := by decide +kernel
theorem d_DiscMakerModel_isWrong_7 : decode b_DiscMakerModel_isWrong 7 = .ok (.aload_n 0, 1) := by decide +kernel
theorem d_DiscMakerModel_isWrong_8 : decode b_DiscMakerModel_isWrong 8 = .ok (.iload_n 1, 1) := by decide +kernel
theorem d_DiscMakerModel_isWrong_9 : decode b_DiscMakerModel_isWrong 9 = .ok (.putfield 306, 3) := by decide +kernel
theorem d_DiscMakerModel_isWrong_12 : decode b_DiscMakerModel_isWrong 12 = .ok (.iconst 0, 1) := by decide +kernel
theorem d_DiscMakerModel_isWrong_13 : decode b_DiscMakerModel_isWrong 13 = .ok (.ireturn, 1) := by decide +kernel
set_option maxHeartbeats 4000000 in
set_option maxRecDepth 100000 in
theorem c_m_isWrong (l : Launch) (D : va_G) (cB cI cJ cZ cN cF : ClassId) (sz : Nat) (h0 atext akind aparent amode aowner agroup asize aseed aname anameSize atarget atargetSize abase abaseSize aextension aextensionSize aimage atable asector asectors acontents aabove aisDirectory abytes aplace areadMode areadOwner areadGroup areadName areadNameSize areadTarget areadTargetSize adepth : Nat) (n : Int32) : Met l y_DiscMakerModel_isWrong w_DiscMakerModel_isWrong ({ frames := 0, cells := 0, slots := 0, locals := 0 }) (va_Pc [.ref h0, .int n] (fun U => U.heap.size = sz ∧ va_P D CL [(h0, .inr (11, [.int 0, .ref atext, .int 0, .int 1, .ref akind, .ref aparent, .ref amode, .ref aowner, .ref agroup, .ref asize, .ref aseed, .ref aname, .ref anameSize, .ref atarget, .ref atargetSize, .ref abase, .ref abaseSize, .ref aextension, .ref aextensionSize, .ref aimage, .int 0, .ref atable, .ref asector, .ref asectors, .ref acontents, .int 0, .int 0, .int 0, .int 0, .ref aabove, .ref aisDirectory, .ref abytes, .ref aplace, .ref areadMode, .ref areadOwner, .ref areadGroup, .ref areadName, .ref areadNameSize, .ref areadTarget, .ref areadTargetSize, .ref adepth, .int (-1), .int 0, .int 0, .int 0, .int 0, .int 0, .int 0]))] U.heap ∧ va_K D CL (TY cB cI cJ cZ cN cF) U ∧ NN U ∧ va_D (fun _ => True) [(h0, .inr (11, [.int 0, .ref atext, .int 0, .int 1, .ref akind, .ref aparent, .ref amode, .ref aowner, .ref agroup, .ref asize, .ref aseed, .ref aname, .ref anameSize, .ref atarget, .ref atargetSize, .ref abase, .ref abaseSize, .ref aextension, .ref aextensionSize, .ref aimage, .int 0, .ref atable, .ref asector, .ref asectors, .ref acontents, .int 0, .int 0, .int 0, .int 0, .ref aabove, .ref aisDirectory, .ref abytes, .ref aplace, .ref areadMode, .ref areadOwner, .ref areadGroup, .ref areadName, .ref areadNameSize, .ref areadTarget, .ref areadTargetSize, .ref adepth, .int (-1), .int 0, .int 0, .int 0, .int 0, .int 0, .int 0]))])) (va_Qi (fun (r : Int32) (u : Unit) => r = 0) (fun (u : Unit) (t : State) => match u with | () => va_P D CL [(h0, .inr (11, [.int 0, .ref atext, .int 0, .int 1, .ref akind, .ref aparent, .ref amode, .ref aowner, .ref agroup, .ref asize, .ref aseed, .ref aname, .ref anameSize, .ref atarget, .ref atargetSize, .ref abase, .ref abaseSize, .ref aextension, .ref aextensionSize, .ref aimage, .int 0, .ref atable, .ref asector, .ref asectors, .ref acontents, .int 0, .int 0, .int 0, .int 0, .ref aabove, .ref aisDirectory, .ref abytes, .ref aplace, .ref areadMode, .ref areadOwner, .ref areadGroup, .ref areadName, .ref areadNameSize, .ref areadTarget, .ref areadTargetSize, .ref adepth, .int n, .int 0, .int 0, .int 0, .int 0, .int 0, .int 0]))] t.heap ∧ va_D (va_A [(h0, .inr (11, [.int 0, .ref atext, .int 0, .int 1, .ref akind, .ref aparent, .ref amode, .ref aowner, .ref agroup, .ref asize, .ref aseed, .ref aname, .ref anameSize, .ref atarget, .ref atargetSize, .ref abase, .ref abaseSize, .ref aextension, .ref aextensionSize, .ref aimage, .int 0, .ref atable, .ref asector, .ref asectors, .ref acontents, .int 0, .int 0, .int 0, .int 0, .ref aabove, .ref aisDirectory, .ref abytes, .ref aplace, .ref areadMode, .ref areadOwner, .ref areadGroup, .ref areadName, .ref areadNameSize, .ref areadTarget, .ref areadTargetSize, .ref adepth, .int (-1), .int 0, .int 0, .int 0, .int 0, .int 0, .int 0]))] sz) [(h0, .inr (11, [.int 0, .ref atext, .int 0, .int 1, .ref akind, .ref aparent, .ref amode, .ref aowner, .ref agroup, .ref asize, .ref aseed, .ref aname, .ref anameSize, .ref atarget, .ref atargetSize, .ref abase, .ref abaseSize, .ref aextension, .ref aextensionSize, .ref aimage, .int 0, .ref atable, .ref asector, .ref asectors, .ref acontents, .int 0, .int 0, .int 0, .int 0, .ref aabove, .ref aisDirectory, .ref abytes, .ref aplace, .ref areadMode, .ref areadOwner, .ref areadGroup, .ref areadName, .ref areadNameSize, .ref areadTarget, .ref areadTargetSize, .ref adepth, .int n, .int 0, .int 0, .int 0, .int 0, .int 0, .int 0]))]) (va_A [(h0, .inr (11, [.int 0, .ref atext, .int 0, .int 1, .ref akind, .ref aparent, .ref amode, .ref aowner, .ref agroup, .ref asize, .ref aseed, .ref aname, .ref anameSize, .ref atarget, .ref atargetSize, .ref abase, .ref abaseSize, .ref aextension, .ref aextensionSize, .ref aimage, .int 0, .ref atable, .ref asector, .ref asectors, .ref acontents, .int 0, .int 0, .int 0, .int 0, .ref aabove, .ref aisDirectory, .ref abytes, .ref aplace, .ref areadMode, .ref areadOwner, .ref areadGroup, .ref areadName, .ref areadNameSize, .ref areadTarget, .ref areadTargetSize, .ref adepth, .int (-1), .int 0, .int 0, .int 0, .int 0, .int 0, .int 0]))] sz)) 0 0 (va_A [(h0, .inr (11, [.int 0, .ref atext, .int 0, .int 1, .ref akind, .ref aparent, .ref amode, .ref aowner, .ref agroup, .ref asize, .ref aseed, .ref aname, .ref anameSize, .ref atarget, .ref atargetSize, .ref abase, .ref abaseSize, .ref aextension, .ref aextensionSize, .ref aimage, .int 0, .ref atable, .ref asector, .ref asectors, .ref acontents, .int 0, .int 0, .int 0, .int 0, .ref aabove, .ref aisDirectory, .ref abytes, .ref aplace, .ref areadMode, .ref areadOwner, .ref areadGroup, .ref areadName, .ref areadNameSize, .ref areadTarget, .ref areadTargetSize, .ref adepth, .int (-1), .int 0, .int 0, .int 0, .int 0, .int 0, .int 0]))] sz) := by
  refine Met.ofW (cc := b_DiscMakerModel_isWrong) (maxL := 2) (ret := some .boolean) (by decide) rfl ?_
  intro p e s m args below meth c s₁ B hml hv
  obtain ⟨rfl, hsz, hP, hK, hN, hD0⟩ := hv
  have hx := B.exec
  have hb := B.bytes
  have hr := B.returns
  have hts := atoms_spec (ws := w_DiscMakerModel_isWrong) B.pre
  have ht9 := fun (w : Cond) (h : w ∈ lw_g) => hts w (List.mem_cons_of_mem _ h)
  have hown : s.vm.findClass "DiscMakerModel" = some m.cls := findClass_of_methodNamed B.named
  have hlocks := B.notSynchronized
  subst hsz
  have hD := hD0.self (sz := s.heap.size)
  generalize hAe : va_A [(h0, .inr (11, [.int 0, .ref atext, .int 0, .int 1, .ref akind, .ref aparent, .ref amode, .ref aowner, .ref agroup, .ref asize, .ref aseed, .ref aname, .ref anameSize, .ref atarget, .ref atargetSize, .ref abase, .ref abaseSize, .ref aextension, .ref aextensionSize, .ref aimage, .int 0, .ref atable, .ref asector, .ref asectors, .ref acontents, .int 0, .int 0, .int 0, .int 0, .ref aabove, .ref aisDirectory, .ref abytes, .ref aplace, .ref areadMode, .ref areadOwner, .ref areadGroup, .ref areadName, .ref areadNameSize, .ref areadTarget, .ref areadTargetSize, .ref adepth, .int (-1), .int 0, .int 0, .int 0, .int 0, .int 0, .int 0]))] s.heap.size = A at hD ⊢
  have hA : ∀ q : Nat, s.heap.size ≤ q → A q := fun q h => by rw [← hAe]; exact Or.inr h
  have hS : va_S A s.heap s.heap [] := va_S.rf
  have hP : va_P D CL [(h0, .inr (11, [.int 0, .ref atext, .int 0, .int 1, .ref akind, .ref aparent, .ref amode, .ref aowner, .ref agroup, .ref asize, .ref aseed, .ref aname, .ref anameSize, .ref atarget, .ref atargetSize, .ref abase, .ref abaseSize, .ref aextension, .ref aextensionSize, .ref aimage, .int 0, .ref atable, .ref asector, .ref asectors, .ref acontents, .int 0, .int 0, .int 0, .int 0, .ref aabove, .ref aisDirectory, .ref abytes, .ref aplace, .ref areadMode, .ref areadOwner, .ref areadGroup, .ref areadName, .ref areadNameSize, .ref areadTarget, .ref areadTargetSize, .ref adepth, .int (-1), .int 0, .int 0, .int 0, .int 0, .int 0, .int 0]))] s.heap := hP
  have hl := lv_entry [.ref h0, .int n] (n := 2) (Nat.le_of_ble_eq_true rfl)
  rw [lg_entry_eq]
  generalize (lg_sl [.ref h0, .int n] ++ List.replicate (2 - (lg_sl [.ref h0, .int n]).length) Slot.unset).toArray = ls at hl ⊢
  have hl : lv_has ls 2 [(0, .ref h0), (1, .int n)] := hl
  refine lv_aload_n hx hb d_DiscMakerModel_isWrong_0 rfl (lv_at hl 0 rfl) ?_
  refine va_get (D := D) (ci := 11) (v := .int (-1)) (C := "DiscMakerModel") (T := F_DiscMakerModel) (N := 48) hx hb ht9 in_DiscMakerModel hown hK hP 0 rfl rfl 41 (by decide) (ht9 _ k1472) (fun _ h9 => h9) rfl d_DiscMakerModel_isWrong_1 ?_
  refine lv_if_ge (tgt := 12) hx hb d_DiscMakerModel_isWrong_4 (by decide) (fun h_4 => absurd h_4 (by decide)) (fun h_4 => ?_)
  refine lv_aload_n hx hb d_DiscMakerModel_isWrong_7 rfl (lv_at hl 0 rfl) ?_
  refine lv_iload_n hx hb d_DiscMakerModel_isWrong_8 rfl (lv_at hl 1 rfl) ?_
  refine va_put (D := D) (ci := 11) (v := .int n) (ty := .int) (C := "DiscMakerModel") (T := F_DiscMakerModel) (N := 48) hx hb ht9 in_DiscMakerModel t_DiscMakerModel t_DiscMakerModel_ok n_DiscMakerModel hown hK hP hD hS 0 rfl rfl 41 (by decide) (ht9 _ k1472) (fun _ h9 => h9) rfl (by decide +kernel) rfl rfl (Nat.le_of_ble_eq_true rfl) d_DiscMakerModel_isWrong_9 (fun H locs hP hD hS => ?_)
  have hP : va_P D CL [(h0, .inr (11, [.int 0, .ref atext, .int 0, .int 1, .ref akind, .ref aparent, .ref amode, .ref aowner, .ref agroup, .ref asize, .ref aseed, .ref aname, .ref anameSize, .ref atarget, .ref atargetSize, .ref abase, .ref abaseSize, .ref aextension, .ref aextensionSize, .ref aimage, .int 0, .ref atable, .ref asector, .ref asectors, .ref acontents, .int 0, .int 0, .int 0, .int 0, .ref aabove, .ref aisDirectory, .ref abytes, .ref aplace, .ref areadMode, .ref areadOwner, .ref areadGroup, .ref areadName, .ref areadNameSize, .ref areadTarget, .ref areadTargetSize, .ref adepth, .int n, .int 0, .int 0, .int 0, .int 0, .int 0, .int 0]))] H := hP
  have hD : va_D A [(h0, .inr (11, [.int 0, .ref atext, .int 0, .int 1, .ref akind, .ref aparent, .ref amode, .ref aowner, .ref agroup, .ref asize, .ref aseed, .ref aname, .ref anameSize, .ref atarget, .ref atargetSize, .ref abase, .ref abaseSize, .ref aextension, .ref aextensionSize, .ref aimage, .int 0, .ref atable, .ref asector, .ref asectors, .ref acontents, .int 0, .int 0, .int 0, .int 0, .ref aabove, .ref aisDirectory, .ref abytes, .ref aplace, .ref areadMode, .ref areadOwner, .ref areadGroup, .ref areadName, .ref areadNameSize, .ref areadTarget, .ref areadTargetSize, .ref adepth, .int n, .int 0, .int 0, .int 0, .int 0, .int 0, .int 0]))] := hD
  refine lv_iconst (v := 0) hx hb d_DiscMakerModel_isWrong_12 (by decide) ?_
  have hP9 := hP.sub (ws' := [(h0, .inr (11, [.int 0, .ref atext, .int 0, .int 1, .ref akind, .ref aparent, .ref amode, .ref aowner, .ref agroup, .ref asize, .ref aseed, .ref aname, .ref anameSize, .ref atarget, .ref atargetSize, .ref abase, .ref abaseSize, .ref aextension, .ref aextensionSize, .ref aimage, .int 0, .ref atable, .ref asector, .ref asectors, .ref acontents, .int 0, .int 0, .int 0, .int 0, .ref aabove, .ref aisDirectory, .ref abytes, .ref aplace, .ref areadMode, .ref areadOwner, .ref areadGroup, .ref areadName, .ref areadNameSize, .ref areadTarget, .ref areadTargetSize, .ref adepth, .int n, .int 0, .int 0, .int 0, .int 0, .int 0, .int 0]))]) [0] rfl
  have hD9 := hD.sub (ws' := [(h0, .inr (11, [.int 0, .ref atext, .int 0, .int 1, .ref akind, .ref aparent, .ref amode, .ref aowner, .ref agroup, .ref asize, .ref aseed, .ref aname, .ref anameSize, .ref atarget, .ref atargetSize, .ref abase, .ref abaseSize, .ref aextension, .ref aextensionSize, .ref aimage, .int 0, .ref atable, .ref asector, .ref asectors, .ref acontents, .int 0, .int 0, .int 0, .int 0, .ref aabove, .ref aisDirectory, .ref abytes, .ref aplace, .ref areadMode, .ref areadOwner, .ref areadGroup, .ref areadName, .ref areadNameSize, .ref areadTarget, .ref areadTargetSize, .ref adepth, .int n, .int 0, .int 0, .int 0, .int 0, .int 0, .int 0]))]) [0] (by decide) rfl
  exact W.zret (v := 0) hx hb hr (by first | rfl | decide) (fun t ht hW => ⟨⟨0, (), rfl, rfl, by rw [ht]; exact hP9, hD9⟩, hS.F ht⟩) hS.2.2 d_DiscMakerModel_isWrong_13

theorem d_DiscMakerModel_descriptor_0 : decode b_DiscMakerModel_descriptor 0 = .ok (.iconst (-1), 1) := by decide +kernel
theorem d_DiscMakerModel_descriptor_1 : decode b_DiscMakerModel_descriptor 1 = .ok (.istore_n 2, 1) := by decide +kernel
theorem d_DiscMakerModel_descriptor_2 : decode b_DiscMakerModel_descriptor 2 = .ok (.bipush 16, 2) := by decide +kernel
theorem d_DiscMakerModel_descriptor_4 : decode b_DiscMakerModel_descriptor 4 = .ok (.istore_n 3, 1) := by decide +kernel
theorem d_DiscMakerModel_descriptor_5 : decode b_DiscMakerModel_descriptor 5 = .ok (.sipush 2048, 3) := by decide +kernel
theorem d_DiscMakerModel_descriptor_8 : decode b_DiscMakerModel_descriptor 8 = .ok (.iload_n 3, 1) := by decide +kernel
theorem d_DiscMakerModel_descriptor_9 : decode b_DiscMakerModel_descriptor 9 = .ok (.imul, 1) := by decide +kernel
theorem d_DiscMakerModel_descriptor_10 : decode b_DiscMakerModel_descriptor 10 = .ok (.istore 4, 2) := by decide +kernel
theorem d_DiscMakerModel_descriptor_12 : decode b_DiscMakerModel_descriptor 12 = .ok (.iload_n 3, 1) := by decide +kernel
theorem d_DiscMakerModel_descriptor_13 : decode b_DiscMakerModel_descriptor 13 = .ok (.aload_n 0, 1) := by decide +kernel
theorem d_DiscMakerModel_descriptor_14 : decode b_DiscMakerModel_descriptor 14 = .ok (.getfield 282, 3) := by decide +kernel
theorem d_DiscMakerModel_descriptor_17 : decode b_DiscMakerModel_descriptor 17 = .ok (.if_icmp .ge 85, 3) := by decide +kernel
theorem d_DiscMakerModel_descriptor_102 : decode b_DiscMakerModel_descriptor 102 = .ok (.iconst 0, 1) := by decide +kernel
theorem d_DiscMakerModel_descriptor_103 : decode b_DiscMakerModel_descriptor 103 = .ok (.istore 5, 2) := by decide +kernel
theorem d_DiscMakerModel_descriptor_105 : decode b_DiscMakerModel_descriptor 105 = .ok (.iload 5, 2) := by decide +kernel
theorem d_DiscMakerModel_descriptor_107 : decode b_DiscMakerModel_descriptor 107 = .ok (.ifCond .ne 12, 3) := by decide +kernel
theorem d_DiscMakerModel_descriptor_110 : decode b_DiscMakerModel_descriptor 110 = .ok (.aload_n 0, 1) := by decide +kernel
theorem d_DiscMakerModel_descriptor_111 : decode b_DiscMakerModel_descriptor 111 = .ok (.iload 4, 2) := by decide +kernel
theorem d_DiscMakerModel_descriptor_113 : decode b_DiscMakerModel_descriptor 113 = .ok (.invokevirtual 309, 3) := by decide +kernel
theorem d_DiscMakerModel_descriptor_116 : decode b_DiscMakerModel_descriptor 116 = .ok (.pop, 1) := by decide +kernel
theorem d_DiscMakerModel_descriptor_117 : decode b_DiscMakerModel_descriptor 117 = .ok (.iconst (-1), 1) := by decide +kernel
theorem d_DiscMakerModel_descriptor_118 : decode b_DiscMakerModel_descriptor 118 = .ok (.ireturn, 1) := by decide +kernel
set_option maxHeartbeats 4000000 in
set_option maxRecDepth 100000 in
theorem c_m_descriptor (l : Launch) (D : va_G) (cB cI cJ cZ cN cF : ClassId) (sz : Nat) (h0 atext akind aparent amode aowner agroup asize aseed aname anameSize atarget atargetSize abase abaseSize aextension aextensionSize aimage atable asector asectors acontents aabove aisDirectory abytes aplace areadMode areadOwner areadGroup areadName areadNameSize areadTarget areadTargetSize adepth : Nat) (n : Int32) : Met l y_DiscMakerModel_descriptor w_DiscMakerModel_descriptor ({ frames := 1, cells := 0, slots := 0, locals := 21 }) (va_Pc [.ref h0, .int n] (fun U => U.heap.size = sz ∧ va_P D CL [(h0, .inr (11, [.int 0, .ref atext, .int 0, .int 1, .ref akind, .ref aparent, .ref amode, .ref aowner, .ref agroup, .ref asize, .ref aseed, .ref aname, .ref anameSize, .ref atarget, .ref atargetSize, .ref abase, .ref abaseSize, .ref aextension, .ref aextensionSize, .ref aimage, .int 0, .ref atable, .ref asector, .ref asectors, .ref acontents, .int 0, .int 0, .int 0, .int 0, .ref aabove, .ref aisDirectory, .ref abytes, .ref aplace, .ref areadMode, .ref areadOwner, .ref areadGroup, .ref areadName, .ref areadNameSize, .ref areadTarget, .ref areadTargetSize, .ref adepth, .int (-1), .int 0, .int 0, .int 0, .int 0, .int 0, .int 0]))] U.heap ∧ va_K D CL (TY cB cI cJ cZ cN cF) U ∧ NN U ∧ va_D (fun _ => True) [(h0, .inr (11, [.int 0, .ref atext, .int 0, .int 1, .ref akind, .ref aparent, .ref amode, .ref aowner, .ref agroup, .ref asize, .ref aseed, .ref aname, .ref anameSize, .ref atarget, .ref atargetSize, .ref abase, .ref abaseSize, .ref aextension, .ref aextensionSize, .ref aimage, .int 0, .ref atable, .ref asector, .ref asectors, .ref acontents, .int 0, .int 0, .int 0, .int 0, .ref aabove, .ref aisDirectory, .ref abytes, .ref aplace, .ref areadMode, .ref areadOwner, .ref areadGroup, .ref areadName, .ref areadNameSize, .ref areadTarget, .ref areadTargetSize, .ref adepth, .int (-1), .int 0, .int 0, .int 0, .int 0, .int 0, .int 0]))])) (va_Qi (fun (r : Int32) (u : Unit) => r = (-1)) (fun (u : Unit) (t : State) => match u with | () => va_P D CL [(h0, .inr (11, [.int 0, .ref atext, .int 0, .int 1, .ref akind, .ref aparent, .ref amode, .ref aowner, .ref agroup, .ref asize, .ref aseed, .ref aname, .ref anameSize, .ref atarget, .ref atargetSize, .ref abase, .ref abaseSize, .ref aextension, .ref aextensionSize, .ref aimage, .int 0, .ref atable, .ref asector, .ref asectors, .ref acontents, .int 0, .int 0, .int 0, .int 0, .ref aabove, .ref aisDirectory, .ref abytes, .ref aplace, .ref areadMode, .ref areadOwner, .ref areadGroup, .ref areadName, .ref areadNameSize, .ref areadTarget, .ref areadTargetSize, .ref adepth, .int 32768, .int 0, .int 0, .int 0, .int 0, .int 0, .int 0]))] t.heap ∧ va_D (va_A [(h0, .inr (11, [.int 0, .ref atext, .int 0, .int 1, .ref akind, .ref aparent, .ref amode, .ref aowner, .ref agroup, .ref asize, .ref aseed, .ref aname, .ref anameSize, .ref atarget, .ref atargetSize, .ref abase, .ref abaseSize, .ref aextension, .ref aextensionSize, .ref aimage, .int 0, .ref atable, .ref asector, .ref asectors, .ref acontents, .int 0, .int 0, .int 0, .int 0, .ref aabove, .ref aisDirectory, .ref abytes, .ref aplace, .ref areadMode, .ref areadOwner, .ref areadGroup, .ref areadName, .ref areadNameSize, .ref areadTarget, .ref areadTargetSize, .ref adepth, .int (-1), .int 0, .int 0, .int 0, .int 0, .int 0, .int 0]))] sz) [(h0, .inr (11, [.int 0, .ref atext, .int 0, .int 1, .ref akind, .ref aparent, .ref amode, .ref aowner, .ref agroup, .ref asize, .ref aseed, .ref aname, .ref anameSize, .ref atarget, .ref atargetSize, .ref abase, .ref abaseSize, .ref aextension, .ref aextensionSize, .ref aimage, .int 0, .ref atable, .ref asector, .ref asectors, .ref acontents, .int 0, .int 0, .int 0, .int 0, .ref aabove, .ref aisDirectory, .ref abytes, .ref aplace, .ref areadMode, .ref areadOwner, .ref areadGroup, .ref areadName, .ref areadNameSize, .ref areadTarget, .ref areadTargetSize, .ref adepth, .int 32768, .int 0, .int 0, .int 0, .int 0, .int 0, .int 0]))]) (va_A [(h0, .inr (11, [.int 0, .ref atext, .int 0, .int 1, .ref akind, .ref aparent, .ref amode, .ref aowner, .ref agroup, .ref asize, .ref aseed, .ref aname, .ref anameSize, .ref atarget, .ref atargetSize, .ref abase, .ref abaseSize, .ref aextension, .ref aextensionSize, .ref aimage, .int 0, .ref atable, .ref asector, .ref asectors, .ref acontents, .int 0, .int 0, .int 0, .int 0, .ref aabove, .ref aisDirectory, .ref abytes, .ref aplace, .ref areadMode, .ref areadOwner, .ref areadGroup, .ref areadName, .ref areadNameSize, .ref areadTarget, .ref areadTargetSize, .ref adepth, .int (-1), .int 0, .int 0, .int 0, .int 0, .int 0, .int 0]))] sz)) 0 0 (va_A [(h0, .inr (11, [.int 0, .ref atext, .int 0, .int 1, .ref akind, .ref aparent, .ref amode, .ref aowner, .ref agroup, .ref asize, .ref aseed, .ref aname, .ref anameSize, .ref atarget, .ref atargetSize, .ref abase, .ref abaseSize, .ref aextension, .ref aextensionSize, .ref aimage, .int 0, .ref atable, .ref asector, .ref asectors, .ref acontents, .int 0, .int 0, .int 0, .int 0, .ref aabove, .ref aisDirectory, .ref abytes, .ref aplace, .ref areadMode, .ref areadOwner, .ref areadGroup, .ref areadName, .ref areadNameSize, .ref areadTarget, .ref areadTargetSize, .ref adepth, .int (-1), .int 0, .int 0, .int 0, .int 0, .int 0, .int 0]))] sz) := by
  refine Met.ofW (cc := b_DiscMakerModel_descriptor) (maxL := 7) (ret := some .int) (by decide) rfl ?_
  intro p e s m args below meth c s₁ B hml hv
  obtain ⟨rfl, hsz, hP, hK, hN, hD0⟩ := hv
  have hx := B.exec
  have hb := B.bytes
  have hr := B.returns
  have hts := atoms_spec (ws := w_DiscMakerModel_descriptor) B.pre
  have ht9 := fun (w : Cond) (h : w ∈ lw_g) => hts w (List.mem_cons_of_mem _ h)
  have hown : s.vm.findClass "DiscMakerModel" = some m.cls := findClass_of_methodNamed B.named
  have hlocks := B.notSynchronized
  subst hsz
  have hD := hD0.self (sz := s.heap.size)
  generalize hAe : va_A [(h0, .inr (11, [.int 0, .ref atext, .int 0, .int 1, .ref akind, .ref aparent, .ref amode, .ref aowner, .ref agroup, .ref asize, .ref aseed, .ref aname, .ref anameSize, .ref atarget, .ref atargetSize, .ref abase, .ref abaseSize, .ref aextension, .ref aextensionSize, .ref aimage, .int 0, .ref atable, .ref asector, .ref asectors, .ref acontents, .int 0, .int 0, .int 0, .int 0, .ref aabove, .ref aisDirectory, .ref abytes, .ref aplace, .ref areadMode, .ref areadOwner, .ref areadGroup, .ref areadName, .ref areadNameSize, .ref areadTarget, .ref areadTargetSize, .ref adepth, .int (-1), .int 0, .int 0, .int 0, .int 0, .int 0, .int 0]))] s.heap.size = A at hD ⊢
  have hA : ∀ q : Nat, s.heap.size ≤ q → A q := fun q h => by rw [← hAe]; exact Or.inr h
  have hS : va_S A s.heap s.heap [] := va_S.rf
  have hP : va_P D CL [(h0, .inr (11, [.int 0, .ref atext, .int 0, .int 1, .ref akind, .ref aparent, .ref amode, .ref aowner, .ref agroup, .ref asize, .ref aseed, .ref aname, .ref anameSize, .ref atarget, .ref atargetSize, .ref abase, .ref abaseSize, .ref aextension, .ref aextensionSize, .ref aimage, .int 0, .ref atable, .ref asector, .ref asectors, .ref acontents, .int 0, .int 0, .int 0, .int 0, .ref aabove, .ref aisDirectory, .ref abytes, .ref aplace, .ref areadMode, .ref areadOwner, .ref areadGroup, .ref areadName, .ref areadNameSize, .ref areadTarget, .ref areadTargetSize, .ref adepth, .int (-1), .int 0, .int 0, .int 0, .int 0, .int 0, .int 0]))] s.heap := hP
  have hl := lv_entry [.ref h0, .int n] (n := 7) (Nat.le_of_ble_eq_true rfl)
  rw [lg_entry_eq]
  generalize (lg_sl [.ref h0, .int n] ++ List.replicate (7 - (lg_sl [.ref h0, .int n]).length) Slot.unset).toArray = ls at hl ⊢
  have hl : lv_has ls 7 [(0, .ref h0), (1, .int n)] := hl
  refine lv_iconst (v := (-1)) hx hb d_DiscMakerModel_descriptor_0 (by decide) ?_
  refine lv_istore_n hx hb d_DiscMakerModel_descriptor_1 rfl hl (by decide) rfl (fun ls hl => ?_)
  have hl : lv_has ls 7 [(2, .int (-1)), (0, .ref h0), (1, .int n)] := hl
  refine lv_bipush (v := 16) hx hb d_DiscMakerModel_descriptor_2 (by decide) ?_
  refine lv_istore_n hx hb d_DiscMakerModel_descriptor_4 rfl hl (by decide) rfl (fun ls hl => ?_)
  have hl : lv_has ls 7 [(3, .int 16), (2, .int (-1)), (0, .ref h0), (1, .int n)] := hl
  refine lv_sipush (v := 2048) hx hb d_DiscMakerModel_descriptor_5 (by decide) ?_
  refine lv_iload_n hx hb d_DiscMakerModel_descriptor_8 rfl (lv_at hl 0 rfl) ?_
  refine lv_imul hx hb d_DiscMakerModel_descriptor_9 ?_
  refine W.eq (g2 := F0 m 10 ls [.int 32768]) (by rw [show ((2048 * 16) : Int32) = 32768 from by decide]) ?_
  refine lv_istore hx hb d_DiscMakerModel_descriptor_10 hl (by decide) rfl (fun ls hl => ?_)
  have hl : lv_has ls 7 [(4, .int 32768), (3, .int 16), (2, .int (-1)), (0, .ref h0), (1, .int n)] := hl
  refine lv_iload_n hx hb d_DiscMakerModel_descriptor_12 rfl (lv_at hl 1 rfl) ?_
  refine lv_aload_n hx hb d_DiscMakerModel_descriptor_13 rfl (lv_at hl 3 rfl) ?_
  refine va_get (D := D) (ci := 11) (v := .int 0) (C := "DiscMakerModel") (T := F_DiscMakerModel) (N := 48) hx hb ht9 in_DiscMakerModel hown hK hP 0 rfl rfl 20 (by decide) (ht9 _ k1451) (fun _ h9 => h9) rfl d_DiscMakerModel_descriptor_14 ?_
  refine lv_icmp_ge (tgt := 102) hx hb d_DiscMakerModel_descriptor_17 (by decide) (fun h_17 => ?_) (fun h_17 => absurd (by decide) h_17)
  refine lv_iconst (v := 0) hx hb d_DiscMakerModel_descriptor_102 (by decide) ?_
  refine lv_istore hx hb d_DiscMakerModel_descriptor_103 hl (by decide) rfl (fun ls hl => ?_)
  have hl : lv_has ls 7 [(5, .int 0), (4, .int 32768), (3, .int 16), (2, .int (-1)), (0, .ref h0), (1, .int n)] := hl
  refine lv_iload hx hb d_DiscMakerModel_descriptor_105 (lv_at hl 0 rfl) ?_
  refine lv_if_ne (tgt := 119) hx hb d_DiscMakerModel_descriptor_107 (by decide) (fun h_107 => absurd (by decide) h_107) (fun h_107 => ?_)
  refine lv_aload_n hx hb d_DiscMakerModel_descriptor_110 rfl (lv_at hl 4 rfl) ?_
  refine lv_iload hx hb d_DiscMakerModel_descriptor_111 (lv_at hl 1 rfl) ?_
  have hPc := hP.sub (ws' := [(h0, .inr (11, [.int 0, .ref atext, .int 0, .int 1, .ref akind, .ref aparent, .ref amode, .ref aowner, .ref agroup, .ref asize, .ref aseed, .ref aname, .ref anameSize, .ref atarget, .ref atargetSize, .ref abase, .ref abaseSize, .ref aextension, .ref aextensionSize, .ref aimage, .int 0, .ref atable, .ref asector, .ref asectors, .ref acontents, .int 0, .int 0, .int 0, .int 0, .ref aabove, .ref aisDirectory, .ref abytes, .ref aplace, .ref areadMode, .ref areadOwner, .ref areadGroup, .ref areadName, .ref areadNameSize, .ref areadTarget, .ref areadTargetSize, .ref adepth, .int (-1), .int 0, .int 0, .int 0, .int 0, .int 0, .int 0]))]) [0] rfl
  have hDc := hD.sub (ws' := [(h0, .inr (11, [.int 0, .ref atext, .int 0, .int 1, .ref akind, .ref aparent, .ref amode, .ref aowner, .ref agroup, .ref asize, .ref aseed, .ref aname, .ref anameSize, .ref atarget, .ref atargetSize, .ref abase, .ref abaseSize, .ref aextension, .ref aextensionSize, .ref aimage, .int 0, .ref atable, .ref asector, .ref asectors, .ref acontents, .int 0, .int 0, .int 0, .int 0, .ref aabove, .ref aisDirectory, .ref abytes, .ref aplace, .ref areadMode, .ref areadOwner, .ref areadGroup, .ref areadName, .ref areadNameSize, .ref areadTarget, .ref areadTargetSize, .ref adepth, .int (-1), .int 0, .int 0, .int 0, .int 0, .int 0, .int 0]))]) [0] (by decide) rfl
  have hFc := va_free (wc := [(h0, .inr (11, [.int 0, .ref atext, .int 0, .int 1, .ref akind, .ref aparent, .ref amode, .ref aowner, .ref agroup, .ref asize, .ref aseed, .ref aname, .ref anameSize, .ref atarget, .ref atargetSize, .ref abase, .ref abaseSize, .ref aextension, .ref aextensionSize, .ref aimage, .int 0, .ref atable, .ref asector, .ref asectors, .ref acontents, .int 0, .int 0, .int 0, .int 0, .ref aabove, .ref aisDirectory, .ref abytes, .ref aplace, .ref areadMode, .ref areadOwner, .ref areadGroup, .ref areadName, .ref areadNameSize, .ref areadTarget, .ref areadTargetSize, .ref adepth, .int (-1), .int 0, .int 0, .int 0, .int 0, .int 0, .int 0]))]) hD hS hA [0] rfl
  have hkc : 0 ≤ 0 := by decide
  have hks : 0 ≤ 0 := by decide
  refine va_calli (va_runV (C := "DiscMakerModel") (As := [.int 32768]) (rest := []) ⟨hx, hb, hml, hown, hts⟩ (c_m_isWrong l D cB cI cJ cZ cN cF s.heap.size h0 atext akind aparent amode aowner agroup asize aseed aname anameSize atarget atargetSize abase abaseSize aextension aextensionSize aimage atable asector asectors acontents aabove aisDirectory abytes aplace areadMode areadOwner areadGroup areadName areadNameSize areadTarget areadTargetSize adepth 32768) (cwV 1 hts (lg_goodV k1837 k1839 k98 k125 kc_DiscMakerModel_isWrong) rfl rfl rfl (by decide +kernel) ⟨Nat.le_of_ble_eq_true rfl, Nat.le_of_ble_eq_true rfl⟩) ⟨fun a U g mk q => by obtain ⟨q0, q1, qP, qK, qN, qD⟩ := q; exact ⟨q0, q1, qP, va_K.moved (u := U) (U := U.calling g mk a) (Vm.Alike.refl U.vm) qK, qN.calling, qD⟩, va_recv hK hP (ci := 11) (q0 := 0) rfl rfl, fun U hU hW => ⟨rfl, by rw [hU], by rw [hU]; exact hPc, va_K.moved hW.alike hK, NN.warm hW hN, hDc.weaken (fun _ _ _ _ => trivial)⟩⟩ rfl rfl hl.1 rfl (lv_room (Nat.le_of_ble_eq_true rfl)) d_DiscMakerModel_descriptor_113 ⟨hkc, hks⟩) hS (fun q _ h => hFc q h) hFc (fun r113 u t H1 locs ht hvm hp_113 hB hz1 hk1 hS => ?_)
  obtain ⟨hP1, hD1⟩ := hB
  rw [ht] at hP1
  try dsimp only at hp_113
  obtain ⟨hP, hD⟩ := va_join (wr := []) (w1 := [(h0, .inr (11, [.int 0, .ref atext, .int 0, .int 1, .ref akind, .ref aparent, .ref amode, .ref aowner, .ref agroup, .ref asize, .ref aseed, .ref aname, .ref anameSize, .ref atarget, .ref atargetSize, .ref abase, .ref abaseSize, .ref aextension, .ref aextensionSize, .ref aimage, .int 0, .ref atable, .ref asector, .ref asectors, .ref acontents, .int 0, .int 0, .int 0, .int 0, .ref aabove, .ref aisDirectory, .ref abytes, .ref aplace, .ref areadMode, .ref areadOwner, .ref areadGroup, .ref areadName, .ref areadNameSize, .ref areadTarget, .ref areadTargetSize, .ref adepth, .int 32768, .int 0, .int 0, .int 0, .int 0, .int 0, .int 0]))]) hP hD [0] [] rfl rfl (by decide) (by decide) hk1 hFc hP1 hD1
  clear hPc hDc hFc hP1 hD1 hk1 hz1
  generalize H1 = H at hP hS ⊢
  have hP : va_P D CL [(h0, .inr (11, [.int 0, .ref atext, .int 0, .int 1, .ref akind, .ref aparent, .ref amode, .ref aowner, .ref agroup, .ref asize, .ref aseed, .ref aname, .ref anameSize, .ref atarget, .ref atargetSize, .ref abase, .ref abaseSize, .ref aextension, .ref aextensionSize, .ref aimage, .int 0, .ref atable, .ref asector, .ref asectors, .ref acontents, .int 0, .int 0, .int 0, .int 0, .ref aabove, .ref aisDirectory, .ref abytes, .ref aplace, .ref areadMode, .ref areadOwner, .ref areadGroup, .ref areadName, .ref areadNameSize, .ref areadTarget, .ref areadTargetSize, .ref adepth, .int 32768, .int 0, .int 0, .int 0, .int 0, .int 0, .int 0]))] H := hP
  have hD : va_D A [(h0, .inr (11, [.int 0, .ref atext, .int 0, .int 1, .ref akind, .ref aparent, .ref amode, .ref aowner, .ref agroup, .ref asize, .ref aseed, .ref aname, .ref anameSize, .ref atarget, .ref atargetSize, .ref abase, .ref abaseSize, .ref aextension, .ref aextensionSize, .ref aimage, .int 0, .ref atable, .ref asector, .ref asectors, .ref acontents, .int 0, .int 0, .int 0, .int 0, .ref aabove, .ref aisDirectory, .ref abytes, .ref aplace, .ref areadMode, .ref areadOwner, .ref areadGroup, .ref areadName, .ref areadNameSize, .ref areadTarget, .ref areadTargetSize, .ref adepth, .int 32768, .int 0, .int 0, .int 0, .int 0, .int 0, .int 0]))] := hD
  refine lv_pop hx hb d_DiscMakerModel_descriptor_116 rfl ?_
  refine lv_iconst (v := (-1)) hx hb d_DiscMakerModel_descriptor_117 (by decide) ?_
  have hP9 := hP.sub (ws' := [(h0, .inr (11, [.int 0, .ref atext, .int 0, .int 1, .ref akind, .ref aparent, .ref amode, .ref aowner, .ref agroup, .ref asize, .ref aseed, .ref aname, .ref anameSize, .ref atarget, .ref atargetSize, .ref abase, .ref abaseSize, .ref aextension, .ref aextensionSize, .ref aimage, .int 0, .ref atable, .ref asector, .ref asectors, .ref acontents, .int 0, .int 0, .int 0, .int 0, .ref aabove, .ref aisDirectory, .ref abytes, .ref aplace, .ref areadMode, .ref areadOwner, .ref areadGroup, .ref areadName, .ref areadNameSize, .ref areadTarget, .ref areadTargetSize, .ref adepth, .int 32768, .int 0, .int 0, .int 0, .int 0, .int 0, .int 0]))]) [0] rfl
  have hD9 := hD.sub (ws' := [(h0, .inr (11, [.int 0, .ref atext, .int 0, .int 1, .ref akind, .ref aparent, .ref amode, .ref aowner, .ref agroup, .ref asize, .ref aseed, .ref aname, .ref anameSize, .ref atarget, .ref atargetSize, .ref abase, .ref abaseSize, .ref aextension, .ref aextensionSize, .ref aimage, .int 0, .ref atable, .ref asector, .ref asectors, .ref acontents, .int 0, .int 0, .int 0, .int 0, .ref aabove, .ref aisDirectory, .ref abytes, .ref aplace, .ref areadMode, .ref areadOwner, .ref areadGroup, .ref areadName, .ref areadNameSize, .ref areadTarget, .ref areadTargetSize, .ref adepth, .int 32768, .int 0, .int 0, .int 0, .int 0, .int 0, .int 0]))]) [0] (by decide) rfl
  exact W.iret (v := (-1)) hx hb hr (fun t ht hW => ⟨⟨(-1), (), rfl, rfl, by rw [ht]; exact hP9, hD9⟩, hS.F ht⟩) hS.2.2 d_DiscMakerModel_descriptor_118

theorem d_DiscMakerModel_opened_0 : decode b_DiscMakerModel_opened 0 = .ok (.aload_n 0, 1) := by decide +kernel
theorem d_DiscMakerModel_opened_1 : decode b_DiscMakerModel_opened 1 = .ok (.iload_n 1, 1) := by decide +kernel
theorem d_DiscMakerModel_opened_2 : decode b_DiscMakerModel_opened 2 = .ok (.iconst 1, 1) := by decide +kernel
theorem d_DiscMakerModel_opened_3 : decode b_DiscMakerModel_opened 3 = .ok (.if_icmp .ne 7, 3) := by decide +kernel
theorem d_DiscMakerModel_opened_6 : decode b_DiscMakerModel_opened 6 = .ok (.iconst 1, 1) := by decide +kernel
theorem d_DiscMakerModel_opened_7 : decode b_DiscMakerModel_opened 7 = .ok (.goto 4, 3) := by decide +kernel
theorem d_DiscMakerModel_opened_10 : decode b_DiscMakerModel_opened 10 = .ok (.iconst 0, 1) := by decide +kernel
theorem d_DiscMakerModel_opened_11 : decode b_DiscMakerModel_opened 11 = .ok (.invokevirtual 329, 3) := by decide +kernel
theorem d_DiscMakerModel_opened_14 : decode b_DiscMakerModel_opened 14 = .ok (.istore_n 2, 1) := by decide +kernel
theorem d_DiscMakerModel_opened_15 : decode b_DiscMakerModel_opened 15 = .ok (.iload_n 2, 1) := by decide +kernel
theorem d_DiscMakerModel_opened_16 : decode b_DiscMakerModel_opened 16 = .ok (.ifCond .ge 5, 3) := by decide +kernel
theorem d_DiscMakerModel_opened_19 : decode b_DiscMakerModel_opened 19 = .ok (.iconst 0, 1) := by decide +kernel
theorem d_DiscMakerModel_opened_20 : decode b_DiscMakerModel_opened 20 = .ok (.ireturn, 1) := by decide +kernel
set_option maxHeartbeats 4000000 in
set_option maxRecDepth 100000 in
theorem c_m_opened (l : Launch) (D : va_G) (cB cI cJ cZ cN cF : ClassId) (sz : Nat) (h0 atext akind aparent amode aowner agroup asize aseed aname anameSize atarget atargetSize abase abaseSize aextension aextensionSize aimage atable asector asectors acontents aabove aisDirectory abytes aplace areadMode areadOwner areadGroup areadName areadNameSize areadTarget areadTargetSize adepth : Nat) (n : Int32) : Met l y_DiscMakerModel_opened w_DiscMakerModel_opened ({ frames := 2, cells := 0, slots := 0, locals := 47 }) (va_Pc [.ref h0, .int n] (fun U => U.heap.size = sz ∧ va_P D CL [(h0, .inr (11, [.int 0, .ref atext, .int 0, .int 1, .ref akind, .ref aparent, .ref amode, .ref aowner, .ref agroup, .ref asize, .ref aseed, .ref aname, .ref anameSize, .ref atarget, .ref atargetSize, .ref abase, .ref abaseSize, .ref aextension, .ref aextensionSize, .ref aimage, .int 0, .ref atable, .ref asector, .ref asectors, .ref acontents, .int 0, .int 0, .int 0, .int 0, .ref aabove, .ref aisDirectory, .ref abytes, .ref aplace, .ref areadMode, .ref areadOwner, .ref areadGroup, .ref areadName, .ref areadNameSize, .ref areadTarget, .ref areadTargetSize, .ref adepth, .int (-1), .int 0, .int 0, .int 0, .int 0, .int 0, .int 0]))] U.heap ∧ va_K D CL (TY cB cI cJ cZ cN cF) U ∧ NN U ∧ va_D (fun _ => True) [(h0, .inr (11, [.int 0, .ref atext, .int 0, .int 1, .ref akind, .ref aparent, .ref amode, .ref aowner, .ref agroup, .ref asize, .ref aseed, .ref aname, .ref anameSize, .ref atarget, .ref atargetSize, .ref abase, .ref abaseSize, .ref aextension, .ref aextensionSize, .ref aimage, .int 0, .ref atable, .ref asector, .ref asectors, .ref acontents, .int 0, .int 0, .int 0, .int 0, .ref aabove, .ref aisDirectory, .ref abytes, .ref aplace, .ref areadMode, .ref areadOwner, .ref areadGroup, .ref areadName, .ref areadNameSize, .ref areadTarget, .ref areadTargetSize, .ref adepth, .int (-1), .int 0, .int 0, .int 0, .int 0, .int 0, .int 0]))])) (va_Qi (fun (r : Int32) (u : Unit) => r = 0) (fun (u : Unit) (t : State) => match u with | () => va_P D CL [(h0, .inr (11, [.int 0, .ref atext, .int 0, .int 1, .ref akind, .ref aparent, .ref amode, .ref aowner, .ref agroup, .ref asize, .ref aseed, .ref aname, .ref anameSize, .ref atarget, .ref atargetSize, .ref abase, .ref abaseSize, .ref aextension, .ref aextensionSize, .ref aimage, .int 0, .ref atable, .ref asector, .ref asectors, .ref acontents, .int 0, .int 0, .int 0, .int 0, .ref aabove, .ref aisDirectory, .ref abytes, .ref aplace, .ref areadMode, .ref areadOwner, .ref areadGroup, .ref areadName, .ref areadNameSize, .ref areadTarget, .ref areadTargetSize, .ref adepth, .int 32768, .int 0, .int 0, .int 0, .int 0, .int 0, .int 0]))] t.heap ∧ va_D (va_A [(h0, .inr (11, [.int 0, .ref atext, .int 0, .int 1, .ref akind, .ref aparent, .ref amode, .ref aowner, .ref agroup, .ref asize, .ref aseed, .ref aname, .ref anameSize, .ref atarget, .ref atargetSize, .ref abase, .ref abaseSize, .ref aextension, .ref aextensionSize, .ref aimage, .int 0, .ref atable, .ref asector, .ref asectors, .ref acontents, .int 0, .int 0, .int 0, .int 0, .ref aabove, .ref aisDirectory, .ref abytes, .ref aplace, .ref areadMode, .ref areadOwner, .ref areadGroup, .ref areadName, .ref areadNameSize, .ref areadTarget, .ref areadTargetSize, .ref adepth, .int (-1), .int 0, .int 0, .int 0, .int 0, .int 0, .int 0]))] sz) [(h0, .inr (11, [.int 0, .ref atext, .int 0, .int 1, .ref akind, .ref aparent, .ref amode, .ref aowner, .ref agroup, .ref asize, .ref aseed, .ref aname, .ref anameSize, .ref atarget, .ref atargetSize, .ref abase, .ref abaseSize, .ref aextension, .ref aextensionSize, .ref aimage, .int 0, .ref atable, .ref asector, .ref asectors, .ref acontents, .int 0, .int 0, .int 0, .int 0, .ref aabove, .ref aisDirectory, .ref abytes, .ref aplace, .ref areadMode, .ref areadOwner, .ref areadGroup, .ref areadName, .ref areadNameSize, .ref areadTarget, .ref areadTargetSize, .ref adepth, .int 32768, .int 0, .int 0, .int 0, .int 0, .int 0, .int 0]))]) (va_A [(h0, .inr (11, [.int 0, .ref atext, .int 0, .int 1, .ref akind, .ref aparent, .ref amode, .ref aowner, .ref agroup, .ref asize, .ref aseed, .ref aname, .ref anameSize, .ref atarget, .ref atargetSize, .ref abase, .ref abaseSize, .ref aextension, .ref aextensionSize, .ref aimage, .int 0, .ref atable, .ref asector, .ref asectors, .ref acontents, .int 0, .int 0, .int 0, .int 0, .ref aabove, .ref aisDirectory, .ref abytes, .ref aplace, .ref areadMode, .ref areadOwner, .ref areadGroup, .ref areadName, .ref areadNameSize, .ref areadTarget, .ref areadTargetSize, .ref adepth, .int (-1), .int 0, .int 0, .int 0, .int 0, .int 0, .int 0]))] sz)) 0 0 (va_A [(h0, .inr (11, [.int 0, .ref atext, .int 0, .int 1, .ref akind, .ref aparent, .ref amode, .ref aowner, .ref agroup, .ref asize, .ref aseed, .ref aname, .ref anameSize, .ref atarget, .ref atargetSize, .ref abase, .ref abaseSize, .ref aextension, .ref aextensionSize, .ref aimage, .int 0, .ref atable, .ref asector, .ref asectors, .ref acontents, .int 0, .int 0, .int 0, .int 0, .ref aabove, .ref aisDirectory, .ref abytes, .ref aplace, .ref areadMode, .ref areadOwner, .ref areadGroup, .ref areadName, .ref areadNameSize, .ref areadTarget, .ref areadTargetSize, .ref adepth, .int (-1), .int 0, .int 0, .int 0, .int 0, .int 0, .int 0]))] sz) := by
  refine Met.ofW (cc := b_DiscMakerModel_opened) (maxL := 4) (ret := some .boolean) (by decide) rfl ?_
  intro p e s m args below meth c s₁ B hml hv
  obtain ⟨rfl, hsz, hP, hK, hN, hD0⟩ := hv
  have hx := B.exec
  have hb := B.bytes
  have hr := B.returns
  have hts := atoms_spec (ws := w_DiscMakerModel_opened) B.pre
  have ht9 := fun (w : Cond) (h : w ∈ lw_g) => hts w (List.mem_cons_of_mem _ h)
  have hown : s.vm.findClass "DiscMakerModel" = some m.cls := findClass_of_methodNamed B.named
  have hlocks := B.notSynchronized
  subst hsz
  have hD := hD0.self (sz := s.heap.size)
  generalize hAe : va_A [(h0, .inr (11, [.int 0, .ref atext, .int 0, .int 1, .ref akind, .ref aparent, .ref amode, .ref aowner, .ref agroup, .ref asize, .ref aseed, .ref aname, .ref anameSize, .ref atarget, .ref atargetSize, .ref abase, .ref abaseSize, .ref aextension, .ref aextensionSize, .ref aimage, .int 0, .ref atable, .ref asector, .ref asectors, .ref acontents, .int 0, .int 0, .int 0, .int 0, .ref aabove, .ref aisDirectory, .ref abytes, .ref aplace, .ref areadMode, .ref areadOwner, .ref areadGroup, .ref areadName, .ref areadNameSize, .ref areadTarget, .ref areadTargetSize, .ref adepth, .int (-1), .int 0, .int 0, .int 0, .int 0, .int 0, .int 0]))] s.heap.size = A at hD ⊢
  have hA : ∀ q : Nat, s.heap.size ≤ q → A q := fun q h => by rw [← hAe]; exact Or.inr h
  have hS : va_S A s.heap s.heap [] := va_S.rf
  have hP : va_P D CL [(h0, .inr (11, [.int 0, .ref atext, .int 0, .int 1, .ref akind, .ref aparent, .ref amode, .ref aowner, .ref agroup, .ref asize, .ref aseed, .ref aname, .ref anameSize, .ref atarget, .ref atargetSize, .ref abase, .ref abaseSize, .ref aextension, .ref aextensionSize, .ref aimage, .int 0, .ref atable, .ref asector, .ref asectors, .ref acontents, .int 0, .int 0, .int 0, .int 0, .ref aabove, .ref aisDirectory, .ref abytes, .ref aplace, .ref areadMode, .ref areadOwner, .ref areadGroup, .ref areadName, .ref areadNameSize, .ref areadTarget, .ref areadTargetSize, .ref adepth, .int (-1), .int 0, .int 0, .int 0, .int 0, .int 0, .int 0]))] s.heap := hP
  have hl := lv_entry [.ref h0, .int n] (n := 4) (Nat.le_of_ble_eq_true rfl)
  rw [lg_entry_eq]
  generalize (lg_sl [.ref h0, .int n] ++ List.replicate (4 - (lg_sl [.ref h0, .int n]).length) Slot.unset).toArray = ls at hl ⊢
  have hl : lv_has ls 4 [(0, .ref h0), (1, .int n)] := hl
  refine lv_aload_n hx hb d_DiscMakerModel_opened_0 rfl (lv_at hl 0 rfl) ?_
  refine lv_iload_n hx hb d_DiscMakerModel_opened_1 rfl (lv_at hl 1 rfl) ?_
  refine lv_iconst (v := 1) hx hb d_DiscMakerModel_opened_2 (by decide) ?_
  refine lv_icmp_ne (tgt := 10) hx hb d_DiscMakerModel_opened_3 (by decide) (fun h_3 => ?_) (fun h_3 => ?_)
  · skip
    refine lv_iconst (v := 0) hx hb d_DiscMakerModel_opened_10 (by decide) ?_
    have hPc := hP.sub (ws' := [(h0, .inr (11, [.int 0, .ref atext, .int 0, .int 1, .ref akind, .ref aparent, .ref amode, .ref aowner, .ref agroup, .ref asize, .ref aseed, .ref aname, .ref anameSize, .ref atarget, .ref atargetSize, .ref abase, .ref abaseSize, .ref aextension, .ref aextensionSize, .ref aimage, .int 0, .ref atable, .ref asector, .ref asectors, .ref acontents, .int 0, .int 0, .int 0, .int 0, .ref aabove, .ref aisDirectory, .ref abytes, .ref aplace, .ref areadMode, .ref areadOwner, .ref areadGroup, .ref areadName, .ref areadNameSize, .ref areadTarget, .ref areadTargetSize, .ref adepth, .int (-1), .int 0, .int 0, .int 0, .int 0, .int 0, .int 0]))]) [0] rfl
    have hDc := hD.sub (ws' := [(h0, .inr (11, [.int 0, .ref atext, .int 0, .int 1, .ref akind, .ref aparent, .ref amode, .ref aowner, .ref agroup, .ref asize, .ref aseed, .ref aname, .ref anameSize, .ref atarget, .ref atargetSize, .ref abase, .ref abaseSize, .ref aextension, .ref aextensionSize, .ref aimage, .int 0, .ref atable, .ref asector, .ref asectors, .ref acontents, .int 0, .int 0, .int 0, .int 0, .ref aabove, .ref aisDirectory, .ref abytes, .ref aplace, .ref areadMode, .ref areadOwner, .ref areadGroup, .ref areadName, .ref areadNameSize, .ref areadTarget, .ref areadTargetSize, .ref adepth, .int (-1), .int 0, .int 0, .int 0, .int 0, .int 0, .int 0]))]) [0] (by decide) rfl
    have hFc := va_free (wc := [(h0, .inr (11, [.int 0, .ref atext, .int 0, .int 1, .ref akind, .ref aparent, .ref amode, .ref aowner, .ref agroup, .ref asize, .ref aseed, .ref aname, .ref anameSize, .ref atarget, .ref atargetSize, .ref abase, .ref abaseSize, .ref aextension, .ref aextensionSize, .ref aimage, .int 0, .ref atable, .ref asector, .ref asectors, .ref acontents, .int 0, .int 0, .int 0, .int 0, .ref aabove, .ref aisDirectory, .ref abytes, .ref aplace, .ref areadMode, .ref areadOwner, .ref areadGroup, .ref areadName, .ref areadNameSize, .ref areadTarget, .ref areadTargetSize, .ref adepth, .int (-1), .int 0, .int 0, .int 0, .int 0, .int 0, .int 0]))]) hD hS hA [0] rfl
    have hkc : 0 ≤ 0 := by decide
    have hks : 0 ≤ 0 := by decide
    refine va_calli (va_runV (C := "DiscMakerModel") (As := [.int 0]) (rest := []) ⟨hx, hb, hml, hown, hts⟩ (c_m_descriptor l D cB cI cJ cZ cN cF s.heap.size h0 atext akind aparent amode aowner agroup asize aseed aname anameSize atarget atargetSize abase abaseSize aextension aextensionSize aimage atable asector asectors acontents aabove aisDirectory abytes aplace areadMode areadOwner areadGroup areadName areadNameSize areadTarget areadTargetSize adepth 0) (cwV 1 hts (lg_goodV k1833 k1835 k97 k125 kc_DiscMakerModel_descriptor) rfl rfl rfl (by decide +kernel) ⟨Nat.le_of_ble_eq_true rfl, Nat.le_of_ble_eq_true rfl⟩) ⟨fun a U g mk q => by obtain ⟨q0, q1, qP, qK, qN, qD⟩ := q; exact ⟨q0, q1, qP, va_K.moved (u := U) (U := U.calling g mk a) (Vm.Alike.refl U.vm) qK, qN.calling, qD⟩, va_recv hK hP (ci := 11) (q0 := 0) rfl rfl, fun U hU hW => ⟨rfl, by rw [hU], by rw [hU]; exact hPc, va_K.moved hW.alike hK, NN.warm hW hN, hDc.weaken (fun _ _ _ _ => trivial)⟩⟩ rfl rfl hl.1 rfl (lv_room (Nat.le_of_ble_eq_true rfl)) d_DiscMakerModel_opened_11 ⟨hkc, hks⟩) hS (fun q _ h => hFc q h) hFc (fun r11 u t H1 locs ht hvm hp_11 hB hz1 hk1 hS => ?_)
    obtain ⟨hP1, hD1⟩ := hB
    rw [ht] at hP1
    try dsimp only at hp_11
    obtain ⟨hP, hD⟩ := va_join (wr := []) (w1 := [(h0, .inr (11, [.int 0, .ref atext, .int 0, .int 1, .ref akind, .ref aparent, .ref amode, .ref aowner, .ref agroup, .ref asize, .ref aseed, .ref aname, .ref anameSize, .ref atarget, .ref atargetSize, .ref abase, .ref abaseSize, .ref aextension, .ref aextensionSize, .ref aimage, .int 0, .ref atable, .ref asector, .ref asectors, .ref acontents, .int 0, .int 0, .int 0, .int 0, .ref aabove, .ref aisDirectory, .ref abytes, .ref aplace, .ref areadMode, .ref areadOwner, .ref areadGroup, .ref areadName, .ref areadNameSize, .ref areadTarget, .ref areadTargetSize, .ref adepth, .int 32768, .int 0, .int 0, .int 0, .int 0, .int 0, .int 0]))]) hP hD [0] [] rfl rfl (by decide) (by decide) hk1 hFc hP1 hD1
    clear hPc hDc hFc hP1 hD1 hk1 hz1
    generalize H1 = H at hP hS ⊢
    have hP : va_P D CL [(h0, .inr (11, [.int 0, .ref atext, .int 0, .int 1, .ref akind, .ref aparent, .ref amode, .ref aowner, .ref agroup, .ref asize, .ref aseed, .ref aname, .ref anameSize, .ref atarget, .ref atargetSize, .ref abase, .ref abaseSize, .ref aextension, .ref aextensionSize, .ref aimage, .int 0, .ref atable, .ref asector, .ref asectors, .ref acontents, .int 0, .int 0, .int 0, .int 0, .ref aabove, .ref aisDirectory, .ref abytes, .ref aplace, .ref areadMode, .ref areadOwner, .ref areadGroup, .ref areadName, .ref areadNameSize, .ref areadTarget, .ref areadTargetSize, .ref adepth, .int 32768, .int 0, .int 0, .int 0, .int 0, .int 0, .int 0]))] H := hP
    have hD : va_D A [(h0, .inr (11, [.int 0, .ref atext, .int 0, .int 1, .ref akind, .ref aparent, .ref amode, .ref aowner, .ref agroup, .ref asize, .ref aseed, .ref aname, .ref anameSize, .ref atarget, .ref atargetSize, .ref abase, .ref abaseSize, .ref aextension, .ref aextensionSize, .ref aimage, .int 0, .ref atable, .ref asector, .ref asectors, .ref acontents, .int 0, .int 0, .int 0, .int 0, .ref aabove, .ref aisDirectory, .ref abytes, .ref aplace, .ref areadMode, .ref areadOwner, .ref areadGroup, .ref areadName, .ref areadNameSize, .ref areadTarget, .ref areadTargetSize, .ref adepth, .int 32768, .int 0, .int 0, .int 0, .int 0, .int 0, .int 0]))] := hD
    refine W.eq (g2 := F0 m 14 ls [.int (-1)]) (by rw [show r11 = (-1) from hp_11]) ?_
    refine lv_istore_n hx hb d_DiscMakerModel_opened_14 rfl hl (by decide) rfl (fun ls hl => ?_)
    have hl : lv_has ls 4 [(2, .int (-1)), (0, .ref h0), (1, .int n)] := hl
    refine lv_iload_n hx hb d_DiscMakerModel_opened_15 rfl (lv_at hl 0 rfl) ?_
    refine lv_if_ge (tgt := 21) hx hb d_DiscMakerModel_opened_16 (by decide) (fun h_16 => absurd h_16 (by decide)) (fun h_16 => ?_)
    refine lv_iconst (v := 0) hx hb d_DiscMakerModel_opened_19 (by decide) ?_
    have hP9 := hP.sub (ws' := [(h0, .inr (11, [.int 0, .ref atext, .int 0, .int 1, .ref akind, .ref aparent, .ref amode, .ref aowner, .ref agroup, .ref asize, .ref aseed, .ref aname, .ref anameSize, .ref atarget, .ref atargetSize, .ref abase, .ref abaseSize, .ref aextension, .ref aextensionSize, .ref aimage, .int 0, .ref atable, .ref asector, .ref asectors, .ref acontents, .int 0, .int 0, .int 0, .int 0, .ref aabove, .ref aisDirectory, .ref abytes, .ref aplace, .ref areadMode, .ref areadOwner, .ref areadGroup, .ref areadName, .ref areadNameSize, .ref areadTarget, .ref areadTargetSize, .ref adepth, .int 32768, .int 0, .int 0, .int 0, .int 0, .int 0, .int 0]))]) [0] rfl
    have hD9 := hD.sub (ws' := [(h0, .inr (11, [.int 0, .ref atext, .int 0, .int 1, .ref akind, .ref aparent, .ref amode, .ref aowner, .ref agroup, .ref asize, .ref aseed, .ref aname, .ref anameSize, .ref atarget, .ref atargetSize, .ref abase, .ref abaseSize, .ref aextension, .ref aextensionSize, .ref aimage, .int 0, .ref atable, .ref asector, .ref asectors, .ref acontents, .int 0, .int 0, .int 0, .int 0, .ref aabove, .ref aisDirectory, .ref abytes, .ref aplace, .ref areadMode, .ref areadOwner, .ref areadGroup, .ref areadName, .ref areadNameSize, .ref areadTarget, .ref areadTargetSize, .ref adepth, .int 32768, .int 0, .int 0, .int 0, .int 0, .int 0, .int 0]))]) [0] (by decide) rfl
    exact W.zret (v := 0) hx hb hr (by first | rfl | decide) (fun t ht hW => ⟨⟨0, (), rfl, rfl, by rw [ht]; exact hP9, hD9⟩, hS.F ht⟩) hS.2.2 d_DiscMakerModel_opened_20
  · skip
    refine lv_iconst (v := 1) hx hb d_DiscMakerModel_opened_6 (by decide) ?_
    refine lv_goto (tgt := 11) hx hb d_DiscMakerModel_opened_7 (by decide) ?_
    have hPc := hP.sub (ws' := [(h0, .inr (11, [.int 0, .ref atext, .int 0, .int 1, .ref akind, .ref aparent, .ref amode, .ref aowner, .ref agroup, .ref asize, .ref aseed, .ref aname, .ref anameSize, .ref atarget, .ref atargetSize, .ref abase, .ref abaseSize, .ref aextension, .ref aextensionSize, .ref aimage, .int 0, .ref atable, .ref asector, .ref asectors, .ref acontents, .int 0, .int 0, .int 0, .int 0, .ref aabove, .ref aisDirectory, .ref abytes, .ref aplace, .ref areadMode, .ref areadOwner, .ref areadGroup, .ref areadName, .ref areadNameSize, .ref areadTarget, .ref areadTargetSize, .ref adepth, .int (-1), .int 0, .int 0, .int 0, .int 0, .int 0, .int 0]))]) [0] rfl
    have hDc := hD.sub (ws' := [(h0, .inr (11, [.int 0, .ref atext, .int 0, .int 1, .ref akind, .ref aparent, .ref amode, .ref aowner, .ref agroup, .ref asize, .ref aseed, .ref aname, .ref anameSize, .ref atarget, .ref atargetSize, .ref abase, .ref abaseSize, .ref aextension, .ref aextensionSize, .ref aimage, .int 0, .ref atable, .ref asector, .ref asectors, .ref acontents, .int 0, .int 0, .int 0, .int 0, .ref aabove, .ref aisDirectory, .ref abytes, .ref aplace, .ref areadMode, .ref areadOwner, .ref areadGroup, .ref areadName, .ref areadNameSize, .ref areadTarget, .ref areadTargetSize, .ref adepth, .int (-1), .int 0, .int 0, .int 0, .int 0, .int 0, .int 0]))]) [0] (by decide) rfl
    have hFc := va_free (wc := [(h0, .inr (11, [.int 0, .ref atext, .int 0, .int 1, .ref akind, .ref aparent, .ref amode, .ref aowner, .ref agroup, .ref asize, .ref aseed, .ref aname, .ref anameSize, .ref atarget, .ref atargetSize, .ref abase, .ref abaseSize, .ref aextension, .ref aextensionSize, .ref aimage, .int 0, .ref atable, .ref asector, .ref asectors, .ref acontents, .int 0, .int 0, .int 0, .int 0, .ref aabove, .ref aisDirectory, .ref abytes, .ref aplace, .ref areadMode, .ref areadOwner, .ref areadGroup, .ref areadName, .ref areadNameSize, .ref areadTarget, .ref areadTargetSize, .ref adepth, .int (-1), .int 0, .int 0, .int 0, .int 0, .int 0, .int 0]))]) hD hS hA [0] rfl
    have hkc : 0 ≤ 0 := by decide
    have hks : 0 ≤ 0 := by decide
    refine va_calli (va_runV (C := "DiscMakerModel") (As := [.int 1]) (rest := []) ⟨hx, hb, hml, hown, hts⟩ (c_m_descriptor l D cB cI cJ cZ cN cF s.heap.size h0 atext akind aparent amode aowner agroup asize aseed aname anameSize atarget atargetSize abase abaseSize aextension aextensionSize aimage atable asector asectors acontents aabove aisDirectory abytes aplace areadMode areadOwner areadGroup areadName areadNameSize areadTarget areadTargetSize adepth 1) (cwV 1 hts (lg_goodV k1833 k1835 k97 k125 kc_DiscMakerModel_descriptor) rfl rfl rfl (by decide +kernel) ⟨Nat.le_of_ble_eq_true rfl, Nat.le_of_ble_eq_true rfl⟩) ⟨fun a U g mk q => by obtain ⟨q0, q1, qP, qK, qN, qD⟩ := q; exact ⟨q0, q1, qP, va_K.moved (u := U) (U := U.calling g mk a) (Vm.Alike.refl U.vm) qK, qN.calling, qD⟩, va_recv hK hP (ci := 11) (q0 := 0) rfl rfl, fun U hU hW => ⟨rfl, by rw [hU], by rw [hU]; exact hPc, va_K.moved hW.alike hK, NN.warm hW hN, hDc.weaken (fun _ _ _ _ => trivial)⟩⟩ rfl rfl hl.1 rfl (lv_room (Nat.le_of_ble_eq_true rfl)) d_DiscMakerModel_opened_11 ⟨hkc, hks⟩) hS (fun q _ h => hFc q h) hFc (fun r11 u t H1 locs ht hvm hp_11 hB hz1 hk1 hS => ?_)
    obtain ⟨hP1, hD1⟩ := hB
    rw [ht] at hP1
    try dsimp only at hp_11
    obtain ⟨hP, hD⟩ := va_join (wr := []) (w1 := [(h0, .inr (11, [.int 0, .ref atext, .int 0, .int 1, .ref akind, .ref aparent, .ref amode, .ref aowner, .ref agroup, .ref asize, .ref aseed, .ref aname, .ref anameSize, .ref atarget, .ref atargetSize, .ref abase, .ref abaseSize, .ref aextension, .ref aextensionSize, .ref aimage, .int 0, .ref atable, .ref asector, .ref asectors, .ref acontents, .int 0, .int 0, .int 0, .int 0, .ref aabove, .ref aisDirectory, .ref abytes, .ref aplace, .ref areadMode, .ref areadOwner, .ref areadGroup, .ref areadName, .ref areadNameSize, .ref areadTarget, .ref areadTargetSize, .ref adepth, .int 32768, .int 0, .int 0, .int 0, .int 0, .int 0, .int 0]))]) hP hD [0] [] rfl rfl (by decide) (by decide) hk1 hFc hP1 hD1
    clear hPc hDc hFc hP1 hD1 hk1 hz1
    generalize H1 = H at hP hS ⊢
    have hP : va_P D CL [(h0, .inr (11, [.int 0, .ref atext, .int 0, .int 1, .ref akind, .ref aparent, .ref amode, .ref aowner, .ref agroup, .ref asize, .ref aseed, .ref aname, .ref anameSize, .ref atarget, .ref atargetSize, .ref abase, .ref abaseSize, .ref aextension, .ref aextensionSize, .ref aimage, .int 0, .ref atable, .ref asector, .ref asectors, .ref acontents, .int 0, .int 0, .int 0, .int 0, .ref aabove, .ref aisDirectory, .ref abytes, .ref aplace, .ref areadMode, .ref areadOwner, .ref areadGroup, .ref areadName, .ref areadNameSize, .ref areadTarget, .ref areadTargetSize, .ref adepth, .int 32768, .int 0, .int 0, .int 0, .int 0, .int 0, .int 0]))] H := hP
    have hD : va_D A [(h0, .inr (11, [.int 0, .ref atext, .int 0, .int 1, .ref akind, .ref aparent, .ref amode, .ref aowner, .ref agroup, .ref asize, .ref aseed, .ref aname, .ref anameSize, .ref atarget, .ref atargetSize, .ref abase, .ref abaseSize, .ref aextension, .ref aextensionSize, .ref aimage, .int 0, .ref atable, .ref asector, .ref asectors, .ref acontents, .int 0, .int 0, .int 0, .int 0, .ref aabove, .ref aisDirectory, .ref abytes, .ref aplace, .ref areadMode, .ref areadOwner, .ref areadGroup, .ref areadName, .ref areadNameSize, .ref areadTarget, .ref areadTargetSize, .ref adepth, .int 32768, .int 0, .int 0, .int 0, .int 0, .int 0, .int 0]))] := hD
    refine W.eq (g2 := F0 m 14 ls [.int (-1)]) (by rw [show r11 = (-1) from hp_11]) ?_
    refine lv_istore_n hx hb d_DiscMakerModel_opened_14 rfl hl (by decide) rfl (fun ls hl => ?_)
    have hl : lv_has ls 4 [(2, .int (-1)), (0, .ref h0), (1, .int n)] := hl
    refine lv_iload_n hx hb d_DiscMakerModel_opened_15 rfl (lv_at hl 0 rfl) ?_
    refine lv_if_ge (tgt := 21) hx hb d_DiscMakerModel_opened_16 (by decide) (fun h_16 => absurd h_16 (by decide)) (fun h_16 => ?_)
    refine lv_iconst (v := 0) hx hb d_DiscMakerModel_opened_19 (by decide) ?_
    have hP9 := hP.sub (ws' := [(h0, .inr (11, [.int 0, .ref atext, .int 0, .int 1, .ref akind, .ref aparent, .ref amode, .ref aowner, .ref agroup, .ref asize, .ref aseed, .ref aname, .ref anameSize, .ref atarget, .ref atargetSize, .ref abase, .ref abaseSize, .ref aextension, .ref aextensionSize, .ref aimage, .int 0, .ref atable, .ref asector, .ref asectors, .ref acontents, .int 0, .int 0, .int 0, .int 0, .ref aabove, .ref aisDirectory, .ref abytes, .ref aplace, .ref areadMode, .ref areadOwner, .ref areadGroup, .ref areadName, .ref areadNameSize, .ref areadTarget, .ref areadTargetSize, .ref adepth, .int 32768, .int 0, .int 0, .int 0, .int 0, .int 0, .int 0]))]) [0] rfl
    have hD9 := hD.sub (ws' := [(h0, .inr (11, [.int 0, .ref atext, .int 0, .int 1, .ref akind, .ref aparent, .ref amode, .ref aowner, .ref agroup, .ref asize, .ref aseed, .ref aname, .ref anameSize, .ref atarget, .ref atargetSize, .ref abase, .ref abaseSize, .ref aextension, .ref aextensionSize, .ref aimage, .int 0, .ref atable, .ref asector, .ref asectors, .ref acontents, .int 0, .int 0, .int 0, .int 0, .ref aabove, .ref aisDirectory, .ref abytes, .ref aplace, .ref areadMode, .ref areadOwner, .ref areadGroup, .ref areadName, .ref areadNameSize, .ref areadTarget, .ref areadTargetSize, .ref adepth, .int 32768, .int 0, .int 0, .int 0, .int 0, .int 0, .int 0]))]) [0] (by decide) rfl
    exact W.zret (v := 0) hx hb hr (by first | rfl | decide) (fun t ht hW => ⟨⟨0, (), rfl, rfl, by rw [ht]; exact hP9, hD9⟩, hS.F ht⟩) hS.2.2 d_DiscMakerModel_opened_20

theorem z_le2 {n : Int32} (h : ¬ 3 ≤ n) : n ≤ 2 := by
  rw [z_le, show (3 : Int32).toInt = 3 from by decide] at h
  rw [z_le, show (2 : Int32).toInt = 2 from by decide]
  omega
theorem z_nle2 {n : Int32} (h : 3 ≤ n) : ¬ n ≤ 2 := by
  rw [z_le, show (3 : Int32).toInt = 3 from by decide] at h
  rw [z_le, show (2 : Int32).toInt = 2 from by decide]
  omega

theorem d_DiscMakerModel_mount_0 : decode b_DiscMakerModel_mount 0 = .ok (.aload_n 0, 1) := by decide +kernel
theorem d_DiscMakerModel_mount_1 : decode b_DiscMakerModel_mount 1 = .ok (.iload_n 1, 1) := by decide +kernel
theorem d_DiscMakerModel_mount_2 : decode b_DiscMakerModel_mount 2 = .ok (.ifCond .lt 12, 3) := by decide +kernel
theorem d_DiscMakerModel_mount_5 : decode b_DiscMakerModel_mount 5 = .ok (.iload_n 1, 1) := by decide +kernel
theorem d_DiscMakerModel_mount_6 : decode b_DiscMakerModel_mount 6 = .ok (.iconst 3, 1) := by decide +kernel
theorem d_DiscMakerModel_mount_7 : decode b_DiscMakerModel_mount 7 = .ok (.if_icmp .ge 7, 3) := by decide +kernel
theorem d_DiscMakerModel_mount_10 : decode b_DiscMakerModel_mount 10 = .ok (.iconst 0, 1) := by decide +kernel
theorem d_DiscMakerModel_mount_11 : decode b_DiscMakerModel_mount 11 = .ok (.goto 4, 3) := by decide +kernel
theorem d_DiscMakerModel_mount_14 : decode b_DiscMakerModel_mount 14 = .ok (.iconst 1, 1) := by decide +kernel
theorem d_DiscMakerModel_mount_15 : decode b_DiscMakerModel_mount 15 = .ok (.putfield 118, 3) := by decide +kernel
theorem d_DiscMakerModel_mount_18 : decode b_DiscMakerModel_mount 18 = .ok (.aload_n 0, 1) := by decide +kernel
theorem d_DiscMakerModel_mount_19 : decode b_DiscMakerModel_mount 19 = .ok (.getfield 118, 3) := by decide +kernel
theorem d_DiscMakerModel_mount_22 : decode b_DiscMakerModel_mount 22 = .ok (.iconst 1, 1) := by decide +kernel
theorem d_DiscMakerModel_mount_23 : decode b_DiscMakerModel_mount 23 = .ok (.if_icmp .ne 5, 3) := by decide +kernel
theorem d_DiscMakerModel_mount_26 : decode b_DiscMakerModel_mount 26 = .ok (.iconst 0, 1) := by decide +kernel
theorem d_DiscMakerModel_mount_27 : decode b_DiscMakerModel_mount 27 = .ok (.ireturn, 1) := by decide +kernel
theorem d_DiscMakerModel_mount_28 : decode b_DiscMakerModel_mount 28 = .ok (.aload_n 0, 1) := by decide +kernel
theorem d_DiscMakerModel_mount_29 : decode b_DiscMakerModel_mount 29 = .ok (.iconst 0, 1) := by decide +kernel
theorem d_DiscMakerModel_mount_30 : decode b_DiscMakerModel_mount 30 = .ok (.putfield 323, 3) := by decide +kernel
theorem d_DiscMakerModel_mount_33 : decode b_DiscMakerModel_mount 33 = .ok (.aload_n 0, 1) := by decide +kernel
theorem d_DiscMakerModel_mount_34 : decode b_DiscMakerModel_mount 34 = .ok (.iconst (-1), 1) := by decide +kernel
theorem d_DiscMakerModel_mount_35 : decode b_DiscMakerModel_mount 35 = .ok (.putfield 306, 3) := by decide +kernel
theorem d_DiscMakerModel_mount_38 : decode b_DiscMakerModel_mount 38 = .ok (.aload_n 0, 1) := by decide +kernel
theorem d_DiscMakerModel_mount_39 : decode b_DiscMakerModel_mount 39 = .ok (.iload_n 1, 1) := by decide +kernel
theorem d_DiscMakerModel_mount_40 : decode b_DiscMakerModel_mount 40 = .ok (.invokevirtual 326, 3) := by decide +kernel
theorem d_DiscMakerModel_mount_43 : decode b_DiscMakerModel_mount 43 = .ok (.ifCond .ne 15, 3) := by decide +kernel
theorem d_DiscMakerModel_mount_46 : decode b_DiscMakerModel_mount 46 = .ok (.aload_n 0, 1) := by decide +kernel
theorem d_DiscMakerModel_mount_47 : decode b_DiscMakerModel_mount 47 = .ok (.iconst 0, 1) := by decide +kernel
theorem d_DiscMakerModel_mount_48 : decode b_DiscMakerModel_mount 48 = .ok (.putfield 323, 3) := by decide +kernel
theorem d_DiscMakerModel_mount_51 : decode b_DiscMakerModel_mount 51 = .ok (.iconst (-1), 1) := by decide +kernel
theorem d_DiscMakerModel_mount_52 : decode b_DiscMakerModel_mount 52 = .ok (.aload_n 0, 1) := by decide +kernel
theorem d_DiscMakerModel_mount_53 : decode b_DiscMakerModel_mount 53 = .ok (.getfield 306, 3) := by decide +kernel
theorem d_DiscMakerModel_mount_56 : decode b_DiscMakerModel_mount 56 = .ok (.isub, 1) := by decide +kernel
theorem d_DiscMakerModel_mount_57 : decode b_DiscMakerModel_mount 57 = .ok (.ireturn, 1) := by decide +kernel
set_option maxHeartbeats 4000000 in
set_option maxRecDepth 100000 in
theorem c_m_mount (l : Launch) (D : va_G) (cB cI cJ cZ cN cF : ClassId) (sz : Nat) (h0 atext akind aparent amode aowner agroup asize aseed aname anameSize atarget atargetSize abase abaseSize aextension aextensionSize aimage atable asector asectors acontents aabove aisDirectory abytes aplace areadMode areadOwner areadGroup areadName areadNameSize areadTarget areadTargetSize adepth : Nat) (n : Int32) : Met l y_DiscMakerModel_mount w_DiscMakerModel_mount ({ frames := 3, cells := 0, slots := 0, locals := 70 }) (va_Pc [.ref h0, .int n] (fun U => U.heap.size = sz ∧ va_P D CL [(h0, .inr (11, [.int 0, .ref atext, .int 0, .int 1, .ref akind, .ref aparent, .ref amode, .ref aowner, .ref agroup, .ref asize, .ref aseed, .ref aname, .ref anameSize, .ref atarget, .ref atargetSize, .ref abase, .ref abaseSize, .ref aextension, .ref aextensionSize, .ref aimage, .int 0, .ref atable, .ref asector, .ref asectors, .ref acontents, .int 0, .int 0, .int 0, .int 0, .ref aabove, .ref aisDirectory, .ref abytes, .ref aplace, .ref areadMode, .ref areadOwner, .ref areadGroup, .ref areadName, .ref areadNameSize, .ref areadTarget, .ref areadTargetSize, .ref adepth, .int 0, .int 0, .int 0, .int 0, .int 0, .int 0, .int 0]))] U.heap ∧ va_K D CL (TY cB cI cJ cZ cN cF) U ∧ NN U ∧ va_D (fun _ => True) [(h0, .inr (11, [.int 0, .ref atext, .int 0, .int 1, .ref akind, .ref aparent, .ref amode, .ref aowner, .ref agroup, .ref asize, .ref aseed, .ref aname, .ref anameSize, .ref atarget, .ref atargetSize, .ref abase, .ref abaseSize, .ref aextension, .ref aextensionSize, .ref aimage, .int 0, .ref atable, .ref asector, .ref asectors, .ref acontents, .int 0, .int 0, .int 0, .int 0, .ref aabove, .ref aisDirectory, .ref abytes, .ref aplace, .ref areadMode, .ref areadOwner, .ref areadGroup, .ref areadName, .ref areadNameSize, .ref areadTarget, .ref areadTargetSize, .ref adepth, .int 0, .int 0, .int 0, .int 0, .int 0, .int 0, .int 0]))])) (va_Qi (fun (r : Int32) (u : Int32 × Int32) => (r = (-32769) ∧ u.1 = 0 ∧ (¬ n < 0 ∧ n ≤ 2)) ∨ (u.1 = 1 ∧ ¬ (¬ n < 0 ∧ n ≤ 2))) (fun (u : Int32 × Int32) (t : State) => match u with | (ut, uw) => va_P D CL [(h0, .inr (11, [.int ut, .ref atext, .int 0, .int 1, .ref akind, .ref aparent, .ref amode, .ref aowner, .ref agroup, .ref asize, .ref aseed, .ref aname, .ref anameSize, .ref atarget, .ref atargetSize, .ref abase, .ref abaseSize, .ref aextension, .ref aextensionSize, .ref aimage, .int 0, .ref atable, .ref asector, .ref asectors, .ref acontents, .int 0, .int 0, .int 0, .int 0, .ref aabove, .ref aisDirectory, .ref abytes, .ref aplace, .ref areadMode, .ref areadOwner, .ref areadGroup, .ref areadName, .ref areadNameSize, .ref areadTarget, .ref areadTargetSize, .ref adepth, .int uw, .int 0, .int 0, .int 0, .int 0, .int 0, .int 0]))] t.heap ∧ va_D (va_A [(h0, .inr (11, [.int 0, .ref atext, .int 0, .int 1, .ref akind, .ref aparent, .ref amode, .ref aowner, .ref agroup, .ref asize, .ref aseed, .ref aname, .ref anameSize, .ref atarget, .ref atargetSize, .ref abase, .ref abaseSize, .ref aextension, .ref aextensionSize, .ref aimage, .int 0, .ref atable, .ref asector, .ref asectors, .ref acontents, .int 0, .int 0, .int 0, .int 0, .ref aabove, .ref aisDirectory, .ref abytes, .ref aplace, .ref areadMode, .ref areadOwner, .ref areadGroup, .ref areadName, .ref areadNameSize, .ref areadTarget, .ref areadTargetSize, .ref adepth, .int 0, .int 0, .int 0, .int 0, .int 0, .int 0, .int 0]))] sz) [(h0, .inr (11, [.int ut, .ref atext, .int 0, .int 1, .ref akind, .ref aparent, .ref amode, .ref aowner, .ref agroup, .ref asize, .ref aseed, .ref aname, .ref anameSize, .ref atarget, .ref atargetSize, .ref abase, .ref abaseSize, .ref aextension, .ref aextensionSize, .ref aimage, .int 0, .ref atable, .ref asector, .ref asectors, .ref acontents, .int 0, .int 0, .int 0, .int 0, .ref aabove, .ref aisDirectory, .ref abytes, .ref aplace, .ref areadMode, .ref areadOwner, .ref areadGroup, .ref areadName, .ref areadNameSize, .ref areadTarget, .ref areadTargetSize, .ref adepth, .int uw, .int 0, .int 0, .int 0, .int 0, .int 0, .int 0]))]) (va_A [(h0, .inr (11, [.int 0, .ref atext, .int 0, .int 1, .ref akind, .ref aparent, .ref amode, .ref aowner, .ref agroup, .ref asize, .ref aseed, .ref aname, .ref anameSize, .ref atarget, .ref atargetSize, .ref abase, .ref abaseSize, .ref aextension, .ref aextensionSize, .ref aimage, .int 0, .ref atable, .ref asector, .ref asectors, .ref acontents, .int 0, .int 0, .int 0, .int 0, .ref aabove, .ref aisDirectory, .ref abytes, .ref aplace, .ref areadMode, .ref areadOwner, .ref areadGroup, .ref areadName, .ref areadNameSize, .ref areadTarget, .ref areadTargetSize, .ref adepth, .int 0, .int 0, .int 0, .int 0, .int 0, .int 0, .int 0]))] sz)) 0 0 (va_A [(h0, .inr (11, [.int 0, .ref atext, .int 0, .int 1, .ref akind, .ref aparent, .ref amode, .ref aowner, .ref agroup, .ref asize, .ref aseed, .ref aname, .ref anameSize, .ref atarget, .ref atargetSize, .ref abase, .ref abaseSize, .ref aextension, .ref aextensionSize, .ref aimage, .int 0, .ref atable, .ref asector, .ref asectors, .ref acontents, .int 0, .int 0, .int 0, .int 0, .ref aabove, .ref aisDirectory, .ref abytes, .ref aplace, .ref areadMode, .ref areadOwner, .ref areadGroup, .ref areadName, .ref areadNameSize, .ref areadTarget, .ref areadTargetSize, .ref adepth, .int 0, .int 0, .int 0, .int 0, .int 0, .int 0, .int 0]))] sz) := by
  refine Met.ofW (cc := b_DiscMakerModel_mount) (maxL := 2) (ret := some .int) (by decide) rfl ?_
  intro p e s m args below meth c s₁ B hml hv
  obtain ⟨rfl, hsz, hP, hK, hN, hD0⟩ := hv
  have hx := B.exec
  have hb := B.bytes
  have hr := B.returns
  have hts := atoms_spec (ws := w_DiscMakerModel_mount) B.pre
  have ht9 := fun (w : Cond) (h : w ∈ lw_g) => hts w (List.mem_cons_of_mem _ h)
  have hown : s.vm.findClass "DiscMakerModel" = some m.cls := findClass_of_methodNamed B.named
  have hlocks := B.notSynchronized
  subst hsz
  have hD := hD0.self (sz := s.heap.size)
  generalize hAe : va_A [(h0, .inr (11, [.int 0, .ref atext, .int 0, .int 1, .ref akind, .ref aparent, .ref amode, .ref aowner, .ref agroup, .ref asize, .ref aseed, .ref aname, .ref anameSize, .ref atarget, .ref atargetSize, .ref abase, .ref abaseSize, .ref aextension, .ref aextensionSize, .ref aimage, .int 0, .ref atable, .ref asector, .ref asectors, .ref acontents, .int 0, .int 0, .int 0, .int 0, .ref aabove, .ref aisDirectory, .ref abytes, .ref aplace, .ref areadMode, .ref areadOwner, .ref areadGroup, .ref areadName, .ref areadNameSize, .ref areadTarget, .ref areadTargetSize, .ref adepth, .int 0, .int 0, .int 0, .int 0, .int 0, .int 0, .int 0]))] s.heap.size = A at hD ⊢
  have hA : ∀ q : Nat, s.heap.size ≤ q → A q := fun q h => by rw [← hAe]; exact Or.inr h
  have hS : va_S A s.heap s.heap [] := va_S.rf
  have hP : va_P D CL [(h0, .inr (11, [.int 0, .ref atext, .int 0, .int 1, .ref akind, .ref aparent, .ref amode, .ref aowner, .ref agroup, .ref asize, .ref aseed, .ref aname, .ref anameSize, .ref atarget, .ref atargetSize, .ref abase, .ref abaseSize, .ref aextension, .ref aextensionSize, .ref aimage, .int 0, .ref atable, .ref asector, .ref asectors, .ref acontents, .int 0, .int 0, .int 0, .int 0, .ref aabove, .ref aisDirectory, .ref abytes, .ref aplace, .ref areadMode, .ref areadOwner, .ref areadGroup, .ref areadName, .ref areadNameSize, .ref areadTarget, .ref areadTargetSize, .ref adepth, .int 0, .int 0, .int 0, .int 0, .int 0, .int 0, .int 0]))] s.heap := hP
  have hl := lv_entry [.ref h0, .int n] (n := 2) (Nat.le_of_ble_eq_true rfl)
  rw [lg_entry_eq]
  generalize (lg_sl [.ref h0, .int n] ++ List.replicate (2 - (lg_sl [.ref h0, .int n]).length) Slot.unset).toArray = ls at hl ⊢
  have hl : lv_has ls 2 [(0, .ref h0), (1, .int n)] := hl
  refine lv_aload_n hx hb d_DiscMakerModel_mount_0 rfl (lv_at hl 0 rfl) ?_
  refine lv_iload_n hx hb d_DiscMakerModel_mount_1 rfl (lv_at hl 1 rfl) ?_
  refine lv_if_lt (tgt := 14) hx hb d_DiscMakerModel_mount_2 (by decide) (fun h_2 => ?_) (fun h_2 => ?_)
  · skip
    refine lv_iconst (v := 1) hx hb d_DiscMakerModel_mount_14 (by decide) ?_
    refine va_put (D := D) (ci := 11) (v := .int 1) (ty := .int) (C := "DiscMakerModel") (T := F_DiscMakerModel) (N := 48) hx hb ht9 in_DiscMakerModel t_DiscMakerModel t_DiscMakerModel_ok n_DiscMakerModel hown hK hP hD hS 0 rfl rfl 0 (by decide) (ht9 _ k1431) (fun _ h9 => h9) rfl (by decide +kernel) rfl rfl (Nat.le_of_ble_eq_true rfl) d_DiscMakerModel_mount_15 (fun H locs hP hD hS => ?_)
    have hP : va_P D CL [(h0, .inr (11, [.int 1, .ref atext, .int 0, .int 1, .ref akind, .ref aparent, .ref amode, .ref aowner, .ref agroup, .ref asize, .ref aseed, .ref aname, .ref anameSize, .ref atarget, .ref atargetSize, .ref abase, .ref abaseSize, .ref aextension, .ref aextensionSize, .ref aimage, .int 0, .ref atable, .ref asector, .ref asectors, .ref acontents, .int 0, .int 0, .int 0, .int 0, .ref aabove, .ref aisDirectory, .ref abytes, .ref aplace, .ref areadMode, .ref areadOwner, .ref areadGroup, .ref areadName, .ref areadNameSize, .ref areadTarget, .ref areadTargetSize, .ref adepth, .int 0, .int 0, .int 0, .int 0, .int 0, .int 0, .int 0]))] H := hP
    have hD : va_D A [(h0, .inr (11, [.int 1, .ref atext, .int 0, .int 1, .ref akind, .ref aparent, .ref amode, .ref aowner, .ref agroup, .ref asize, .ref aseed, .ref aname, .ref anameSize, .ref atarget, .ref atargetSize, .ref abase, .ref abaseSize, .ref aextension, .ref aextensionSize, .ref aimage, .int 0, .ref atable, .ref asector, .ref asectors, .ref acontents, .int 0, .int 0, .int 0, .int 0, .ref aabove, .ref aisDirectory, .ref abytes, .ref aplace, .ref areadMode, .ref areadOwner, .ref areadGroup, .ref areadName, .ref areadNameSize, .ref areadTarget, .ref areadTargetSize, .ref adepth, .int 0, .int 0, .int 0, .int 0, .int 0, .int 0, .int 0]))] := hD
    refine lv_aload_n hx hb d_DiscMakerModel_mount_18 rfl (lv_at hl 0 rfl) ?_
    refine va_get (D := D) (ci := 11) (v := .int 1) (C := "DiscMakerModel") (T := F_DiscMakerModel) (N := 48) hx hb ht9 in_DiscMakerModel hown hK hP 0 rfl rfl 0 (by decide) (ht9 _ k1431) (fun _ h9 => h9) rfl d_DiscMakerModel_mount_19 ?_
    refine lv_iconst (v := 1) hx hb d_DiscMakerModel_mount_22 (by decide) ?_
    refine lv_icmp_ne (tgt := 28) hx hb d_DiscMakerModel_mount_23 (by decide) (fun h_23 => absurd (by decide) h_23) (fun h_23 => ?_)
    refine lv_iconst (v := 0) hx hb d_DiscMakerModel_mount_26 (by decide) ?_
    have hP9 := hP.sub (ws' := [(h0, .inr (11, [.int 1, .ref atext, .int 0, .int 1, .ref akind, .ref aparent, .ref amode, .ref aowner, .ref agroup, .ref asize, .ref aseed, .ref aname, .ref anameSize, .ref atarget, .ref atargetSize, .ref abase, .ref abaseSize, .ref aextension, .ref aextensionSize, .ref aimage, .int 0, .ref atable, .ref asector, .ref asectors, .ref acontents, .int 0, .int 0, .int 0, .int 0, .ref aabove, .ref aisDirectory, .ref abytes, .ref aplace, .ref areadMode, .ref areadOwner, .ref areadGroup, .ref areadName, .ref areadNameSize, .ref areadTarget, .ref areadTargetSize, .ref adepth, .int 0, .int 0, .int 0, .int 0, .int 0, .int 0, .int 0]))]) [0] rfl
    have hD9 := hD.sub (ws' := [(h0, .inr (11, [.int 1, .ref atext, .int 0, .int 1, .ref akind, .ref aparent, .ref amode, .ref aowner, .ref agroup, .ref asize, .ref aseed, .ref aname, .ref anameSize, .ref atarget, .ref atargetSize, .ref abase, .ref abaseSize, .ref aextension, .ref aextensionSize, .ref aimage, .int 0, .ref atable, .ref asector, .ref asectors, .ref acontents, .int 0, .int 0, .int 0, .int 0, .ref aabove, .ref aisDirectory, .ref abytes, .ref aplace, .ref areadMode, .ref areadOwner, .ref areadGroup, .ref areadName, .ref areadNameSize, .ref areadTarget, .ref areadTargetSize, .ref adepth, .int 0, .int 0, .int 0, .int 0, .int 0, .int 0, .int 0]))]) [0] (by decide) rfl
    exact W.iret (v := 0) hx hb hr (fun t ht hW => ⟨⟨0, (1, 0), rfl, by first | exact Or.inl ⟨rfl, rfl, h_2, z_le2 h_7⟩ | exact Or.inr ⟨rfl, fun h => h.1 h_2⟩ | exact Or.inr ⟨rfl, fun h => z_nle2 h_7 h.2⟩, by rw [ht]; exact hP9, hD9⟩, hS.F ht⟩) hS.2.2 d_DiscMakerModel_mount_27
  · skip
    refine lv_iload_n hx hb d_DiscMakerModel_mount_5 rfl (lv_at hl 1 rfl) ?_
    refine lv_iconst (v := 3) hx hb d_DiscMakerModel_mount_6 (by decide) ?_
    refine lv_icmp_ge (tgt := 14) hx hb d_DiscMakerModel_mount_7 (by decide) (fun h_7 => ?_) (fun h_7 => ?_)
    · skip
      refine lv_iconst (v := 1) hx hb d_DiscMakerModel_mount_14 (by decide) ?_
      refine va_put (D := D) (ci := 11) (v := .int 1) (ty := .int) (C := "DiscMakerModel") (T := F_DiscMakerModel) (N := 48) hx hb ht9 in_DiscMakerModel t_DiscMakerModel t_DiscMakerModel_ok n_DiscMakerModel hown hK hP hD hS 0 rfl rfl 0 (by decide) (ht9 _ k1431) (fun _ h9 => h9) rfl (by decide +kernel) rfl rfl (Nat.le_of_ble_eq_true rfl) d_DiscMakerModel_mount_15 (fun H locs hP hD hS => ?_)
      have hP : va_P D CL [(h0, .inr (11, [.int 1, .ref atext, .int 0, .int 1, .ref akind, .ref aparent, .ref amode, .ref aowner, .ref agroup, .ref asize, .ref aseed, .ref aname, .ref anameSize, .ref atarget, .ref atargetSize, .ref abase, .ref abaseSize, .ref aextension, .ref aextensionSize, .ref aimage, .int 0, .ref atable, .ref asector, .ref asectors, .ref acontents, .int 0, .int 0, .int 0, .int 0, .ref aabove, .ref aisDirectory, .ref abytes, .ref aplace, .ref areadMode, .ref areadOwner, .ref areadGroup, .ref areadName, .ref areadNameSize, .ref areadTarget, .ref areadTargetSize, .ref adepth, .int 0, .int 0, .int 0, .int 0, .int 0, .int 0, .int 0]))] H := hP
      have hD : va_D A [(h0, .inr (11, [.int 1, .ref atext, .int 0, .int 1, .ref akind, .ref aparent, .ref amode, .ref aowner, .ref agroup, .ref asize, .ref aseed, .ref aname, .ref anameSize, .ref atarget, .ref atargetSize, .ref abase, .ref abaseSize, .ref aextension, .ref aextensionSize, .ref aimage, .int 0, .ref atable, .ref asector, .ref asectors, .ref acontents, .int 0, .int 0, .int 0, .int 0, .ref aabove, .ref aisDirectory, .ref abytes, .ref aplace, .ref areadMode, .ref areadOwner, .ref areadGroup, .ref areadName, .ref areadNameSize, .ref areadTarget, .ref areadTargetSize, .ref adepth, .int 0, .int 0, .int 0, .int 0, .int 0, .int 0, .int 0]))] := hD
      refine lv_aload_n hx hb d_DiscMakerModel_mount_18 rfl (lv_at hl 0 rfl) ?_
      refine va_get (D := D) (ci := 11) (v := .int 1) (C := "DiscMakerModel") (T := F_DiscMakerModel) (N := 48) hx hb ht9 in_DiscMakerModel hown hK hP 0 rfl rfl 0 (by decide) (ht9 _ k1431) (fun _ h9 => h9) rfl d_DiscMakerModel_mount_19 ?_
      refine lv_iconst (v := 1) hx hb d_DiscMakerModel_mount_22 (by decide) ?_
      refine lv_icmp_ne (tgt := 28) hx hb d_DiscMakerModel_mount_23 (by decide) (fun h_23 => absurd (by decide) h_23) (fun h_23 => ?_)
      refine lv_iconst (v := 0) hx hb d_DiscMakerModel_mount_26 (by decide) ?_
      have hP9 := hP.sub (ws' := [(h0, .inr (11, [.int 1, .ref atext, .int 0, .int 1, .ref akind, .ref aparent, .ref amode, .ref aowner, .ref agroup, .ref asize, .ref aseed, .ref aname, .ref anameSize, .ref atarget, .ref atargetSize, .ref abase, .ref abaseSize, .ref aextension, .ref aextensionSize, .ref aimage, .int 0, .ref atable, .ref asector, .ref asectors, .ref acontents, .int 0, .int 0, .int 0, .int 0, .ref aabove, .ref aisDirectory, .ref abytes, .ref aplace, .ref areadMode, .ref areadOwner, .ref areadGroup, .ref areadName, .ref areadNameSize, .ref areadTarget, .ref areadTargetSize, .ref adepth, .int 0, .int 0, .int 0, .int 0, .int 0, .int 0, .int 0]))]) [0] rfl
      have hD9 := hD.sub (ws' := [(h0, .inr (11, [.int 1, .ref atext, .int 0, .int 1, .ref akind, .ref aparent, .ref amode, .ref aowner, .ref agroup, .ref asize, .ref aseed, .ref aname, .ref anameSize, .ref atarget, .ref atargetSize, .ref abase, .ref abaseSize, .ref aextension, .ref aextensionSize, .ref aimage, .int 0, .ref atable, .ref asector, .ref asectors, .ref acontents, .int 0, .int 0, .int 0, .int 0, .ref aabove, .ref aisDirectory, .ref abytes, .ref aplace, .ref areadMode, .ref areadOwner, .ref areadGroup, .ref areadName, .ref areadNameSize, .ref areadTarget, .ref areadTargetSize, .ref adepth, .int 0, .int 0, .int 0, .int 0, .int 0, .int 0, .int 0]))]) [0] (by decide) rfl
      exact W.iret (v := 0) hx hb hr (fun t ht hW => ⟨⟨0, (1, 0), rfl, by first | exact Or.inl ⟨rfl, rfl, h_2, z_le2 h_7⟩ | exact Or.inr ⟨rfl, fun h => h.1 h_2⟩ | exact Or.inr ⟨rfl, fun h => z_nle2 h_7 h.2⟩, by rw [ht]; exact hP9, hD9⟩, hS.F ht⟩) hS.2.2 d_DiscMakerModel_mount_27
    · skip
      refine lv_iconst (v := 0) hx hb d_DiscMakerModel_mount_10 (by decide) ?_
      refine lv_goto (tgt := 15) hx hb d_DiscMakerModel_mount_11 (by decide) ?_
      refine va_put (D := D) (ci := 11) (v := .int 0) (ty := .int) (C := "DiscMakerModel") (T := F_DiscMakerModel) (N := 48) hx hb ht9 in_DiscMakerModel t_DiscMakerModel t_DiscMakerModel_ok n_DiscMakerModel hown hK hP hD hS 0 rfl rfl 0 (by decide) (ht9 _ k1431) (fun _ h9 => h9) rfl (by decide +kernel) rfl rfl (Nat.le_of_ble_eq_true rfl) d_DiscMakerModel_mount_15 (fun H locs hP hD hS => ?_)
      have hP : va_P D CL [(h0, .inr (11, [.int 0, .ref atext, .int 0, .int 1, .ref akind, .ref aparent, .ref amode, .ref aowner, .ref agroup, .ref asize, .ref aseed, .ref aname, .ref anameSize, .ref atarget, .ref atargetSize, .ref abase, .ref abaseSize, .ref aextension, .ref aextensionSize, .ref aimage, .int 0, .ref atable, .ref asector, .ref asectors, .ref acontents, .int 0, .int 0, .int 0, .int 0, .ref aabove, .ref aisDirectory, .ref abytes, .ref aplace, .ref areadMode, .ref areadOwner, .ref areadGroup, .ref areadName, .ref areadNameSize, .ref areadTarget, .ref areadTargetSize, .ref adepth, .int 0, .int 0, .int 0, .int 0, .int 0, .int 0, .int 0]))] H := hP
      have hD : va_D A [(h0, .inr (11, [.int 0, .ref atext, .int 0, .int 1, .ref akind, .ref aparent, .ref amode, .ref aowner, .ref agroup, .ref asize, .ref aseed, .ref aname, .ref anameSize, .ref atarget, .ref atargetSize, .ref abase, .ref abaseSize, .ref aextension, .ref aextensionSize, .ref aimage, .int 0, .ref atable, .ref asector, .ref asectors, .ref acontents, .int 0, .int 0, .int 0, .int 0, .ref aabove, .ref aisDirectory, .ref abytes, .ref aplace, .ref areadMode, .ref areadOwner, .ref areadGroup, .ref areadName, .ref areadNameSize, .ref areadTarget, .ref areadTargetSize, .ref adepth, .int 0, .int 0, .int 0, .int 0, .int 0, .int 0, .int 0]))] := hD
      refine lv_aload_n hx hb d_DiscMakerModel_mount_18 rfl (lv_at hl 0 rfl) ?_
      refine va_get (D := D) (ci := 11) (v := .int 0) (C := "DiscMakerModel") (T := F_DiscMakerModel) (N := 48) hx hb ht9 in_DiscMakerModel hown hK hP 0 rfl rfl 0 (by decide) (ht9 _ k1431) (fun _ h9 => h9) rfl d_DiscMakerModel_mount_19 ?_
      refine lv_iconst (v := 1) hx hb d_DiscMakerModel_mount_22 (by decide) ?_
      refine lv_icmp_ne (tgt := 28) hx hb d_DiscMakerModel_mount_23 (by decide) (fun h_23 => ?_) (fun h_23 => absurd h_23 (by decide))
      refine lv_aload_n hx hb d_DiscMakerModel_mount_28 rfl (lv_at hl 0 rfl) ?_
      refine lv_iconst (v := 0) hx hb d_DiscMakerModel_mount_29 (by decide) ?_
      refine va_put (D := D) (ci := 11) (v := .int 0) (ty := .int) (C := "DiscMakerModel") (T := F_DiscMakerModel) (N := 48) hx hb ht9 in_DiscMakerModel t_DiscMakerModel t_DiscMakerModel_ok n_DiscMakerModel hown hK hP hD hS 0 rfl rfl 28 (by decide) (ht9 _ k1459) (fun _ h9 => h9) rfl (by decide +kernel) rfl rfl (Nat.le_of_ble_eq_true rfl) d_DiscMakerModel_mount_30 (fun H locs hP hD hS => ?_)
      have hP : va_P D CL [(h0, .inr (11, [.int 0, .ref atext, .int 0, .int 1, .ref akind, .ref aparent, .ref amode, .ref aowner, .ref agroup, .ref asize, .ref aseed, .ref aname, .ref anameSize, .ref atarget, .ref atargetSize, .ref abase, .ref abaseSize, .ref aextension, .ref aextensionSize, .ref aimage, .int 0, .ref atable, .ref asector, .ref asectors, .ref acontents, .int 0, .int 0, .int 0, .int 0, .ref aabove, .ref aisDirectory, .ref abytes, .ref aplace, .ref areadMode, .ref areadOwner, .ref areadGroup, .ref areadName, .ref areadNameSize, .ref areadTarget, .ref areadTargetSize, .ref adepth, .int 0, .int 0, .int 0, .int 0, .int 0, .int 0, .int 0]))] H := hP
      have hD : va_D A [(h0, .inr (11, [.int 0, .ref atext, .int 0, .int 1, .ref akind, .ref aparent, .ref amode, .ref aowner, .ref agroup, .ref asize, .ref aseed, .ref aname, .ref anameSize, .ref atarget, .ref atargetSize, .ref abase, .ref abaseSize, .ref aextension, .ref aextensionSize, .ref aimage, .int 0, .ref atable, .ref asector, .ref asectors, .ref acontents, .int 0, .int 0, .int 0, .int 0, .ref aabove, .ref aisDirectory, .ref abytes, .ref aplace, .ref areadMode, .ref areadOwner, .ref areadGroup, .ref areadName, .ref areadNameSize, .ref areadTarget, .ref areadTargetSize, .ref adepth, .int 0, .int 0, .int 0, .int 0, .int 0, .int 0, .int 0]))] := hD
      refine lv_aload_n hx hb d_DiscMakerModel_mount_33 rfl (lv_at hl 0 rfl) ?_
      refine lv_iconst (v := (-1)) hx hb d_DiscMakerModel_mount_34 (by decide) ?_
      refine va_put (D := D) (ci := 11) (v := .int (-1)) (ty := .int) (C := "DiscMakerModel") (T := F_DiscMakerModel) (N := 48) hx hb ht9 in_DiscMakerModel t_DiscMakerModel t_DiscMakerModel_ok n_DiscMakerModel hown hK hP hD hS 0 rfl rfl 41 (by decide) (ht9 _ k1472) (fun _ h9 => h9) rfl (by decide +kernel) rfl rfl (Nat.le_of_ble_eq_true rfl) d_DiscMakerModel_mount_35 (fun H locs hP hD hS => ?_)
      have hP : va_P D CL [(h0, .inr (11, [.int 0, .ref atext, .int 0, .int 1, .ref akind, .ref aparent, .ref amode, .ref aowner, .ref agroup, .ref asize, .ref aseed, .ref aname, .ref anameSize, .ref atarget, .ref atargetSize, .ref abase, .ref abaseSize, .ref aextension, .ref aextensionSize, .ref aimage, .int 0, .ref atable, .ref asector, .ref asectors, .ref acontents, .int 0, .int 0, .int 0, .int 0, .ref aabove, .ref aisDirectory, .ref abytes, .ref aplace, .ref areadMode, .ref areadOwner, .ref areadGroup, .ref areadName, .ref areadNameSize, .ref areadTarget, .ref areadTargetSize, .ref adepth, .int (-1), .int 0, .int 0, .int 0, .int 0, .int 0, .int 0]))] H := hP
      have hD : va_D A [(h0, .inr (11, [.int 0, .ref atext, .int 0, .int 1, .ref akind, .ref aparent, .ref amode, .ref aowner, .ref agroup, .ref asize, .ref aseed, .ref aname, .ref anameSize, .ref atarget, .ref atargetSize, .ref abase, .ref abaseSize, .ref aextension, .ref aextensionSize, .ref aimage, .int 0, .ref atable, .ref asector, .ref asectors, .ref acontents, .int 0, .int 0, .int 0, .int 0, .ref aabove, .ref aisDirectory, .ref abytes, .ref aplace, .ref areadMode, .ref areadOwner, .ref areadGroup, .ref areadName, .ref areadNameSize, .ref areadTarget, .ref areadTargetSize, .ref adepth, .int (-1), .int 0, .int 0, .int 0, .int 0, .int 0, .int 0]))] := hD
      refine lv_aload_n hx hb d_DiscMakerModel_mount_38 rfl (lv_at hl 0 rfl) ?_
      refine lv_iload_n hx hb d_DiscMakerModel_mount_39 rfl (lv_at hl 1 rfl) ?_
      have hPc := hP.sub (ws' := [(h0, .inr (11, [.int 0, .ref atext, .int 0, .int 1, .ref akind, .ref aparent, .ref amode, .ref aowner, .ref agroup, .ref asize, .ref aseed, .ref aname, .ref anameSize, .ref atarget, .ref atargetSize, .ref abase, .ref abaseSize, .ref aextension, .ref aextensionSize, .ref aimage, .int 0, .ref atable, .ref asector, .ref asectors, .ref acontents, .int 0, .int 0, .int 0, .int 0, .ref aabove, .ref aisDirectory, .ref abytes, .ref aplace, .ref areadMode, .ref areadOwner, .ref areadGroup, .ref areadName, .ref areadNameSize, .ref areadTarget, .ref areadTargetSize, .ref adepth, .int (-1), .int 0, .int 0, .int 0, .int 0, .int 0, .int 0]))]) [0] rfl
      have hDc := hD.sub (ws' := [(h0, .inr (11, [.int 0, .ref atext, .int 0, .int 1, .ref akind, .ref aparent, .ref amode, .ref aowner, .ref agroup, .ref asize, .ref aseed, .ref aname, .ref anameSize, .ref atarget, .ref atargetSize, .ref abase, .ref abaseSize, .ref aextension, .ref aextensionSize, .ref aimage, .int 0, .ref atable, .ref asector, .ref asectors, .ref acontents, .int 0, .int 0, .int 0, .int 0, .ref aabove, .ref aisDirectory, .ref abytes, .ref aplace, .ref areadMode, .ref areadOwner, .ref areadGroup, .ref areadName, .ref areadNameSize, .ref areadTarget, .ref areadTargetSize, .ref adepth, .int (-1), .int 0, .int 0, .int 0, .int 0, .int 0, .int 0]))]) [0] (by decide) rfl
      have hFc := va_free (wc := [(h0, .inr (11, [.int 0, .ref atext, .int 0, .int 1, .ref akind, .ref aparent, .ref amode, .ref aowner, .ref agroup, .ref asize, .ref aseed, .ref aname, .ref anameSize, .ref atarget, .ref atargetSize, .ref abase, .ref abaseSize, .ref aextension, .ref aextensionSize, .ref aimage, .int 0, .ref atable, .ref asector, .ref asectors, .ref acontents, .int 0, .int 0, .int 0, .int 0, .ref aabove, .ref aisDirectory, .ref abytes, .ref aplace, .ref areadMode, .ref areadOwner, .ref areadGroup, .ref areadName, .ref areadNameSize, .ref areadTarget, .ref areadTargetSize, .ref adepth, .int (-1), .int 0, .int 0, .int 0, .int 0, .int 0, .int 0]))]) hD hS hA [0] rfl
      have hkc : 0 ≤ 0 := by decide
      have hks : 0 ≤ 0 := by decide
      refine va_calli (va_runV (C := "DiscMakerModel") (As := [.int n]) (rest := []) ⟨hx, hb, hml, hown, hts⟩ (c_m_opened l D cB cI cJ cZ cN cF H.size h0 atext akind aparent amode aowner agroup asize aseed aname anameSize atarget atargetSize abase abaseSize aextension aextensionSize aimage atable asector asectors acontents aabove aisDirectory abytes aplace areadMode areadOwner areadGroup areadName areadNameSize areadTarget areadTargetSize adepth n) (cwV 1 hts (lg_goodV k1829 k1831 k96 k125 kc_DiscMakerModel_opened) rfl rfl rfl (by decide +kernel) ⟨Nat.le_of_ble_eq_true rfl, Nat.le_of_ble_eq_true rfl⟩) ⟨fun a U g mk q => by obtain ⟨q0, q1, qP, qK, qN, qD⟩ := q; exact ⟨q0, q1, qP, va_K.moved (u := U) (U := U.calling g mk a) (Vm.Alike.refl U.vm) qK, qN.calling, qD⟩, va_recv hK hP (ci := 11) (q0 := 0) rfl rfl, fun U hU hW => ⟨rfl, by rw [hU], by rw [hU]; exact hPc, va_K.moved hW.alike hK, NN.warm hW hN, hDc.weaken (fun _ _ _ _ => trivial)⟩⟩ rfl rfl hl.1 rfl (lv_room (Nat.le_of_ble_eq_true rfl)) d_DiscMakerModel_mount_40 ⟨hkc, hks⟩) hS (fun q _ h => hFc q h) hFc (fun r40 u t H1 locs ht hvm hp_40 hB hz1 hk1 hS => ?_)
      obtain ⟨hP1, hD1⟩ := hB
      rw [ht] at hP1
      try dsimp only at hp_40
      obtain ⟨hP, hD⟩ := va_join (wr := []) (w1 := [(h0, .inr (11, [.int 0, .ref atext, .int 0, .int 1, .ref akind, .ref aparent, .ref amode, .ref aowner, .ref agroup, .ref asize, .ref aseed, .ref aname, .ref anameSize, .ref atarget, .ref atargetSize, .ref abase, .ref abaseSize, .ref aextension, .ref aextensionSize, .ref aimage, .int 0, .ref atable, .ref asector, .ref asectors, .ref acontents, .int 0, .int 0, .int 0, .int 0, .ref aabove, .ref aisDirectory, .ref abytes, .ref aplace, .ref areadMode, .ref areadOwner, .ref areadGroup, .ref areadName, .ref areadNameSize, .ref areadTarget, .ref areadTargetSize, .ref adepth, .int 32768, .int 0, .int 0, .int 0, .int 0, .int 0, .int 0]))]) hP hD [0] [] rfl rfl (by decide) (by decide) hk1 hFc hP1 hD1
      clear hPc hDc hFc hP1 hD1 hk1 hz1
      generalize H1 = H at hP hS ⊢
      have hP : va_P D CL [(h0, .inr (11, [.int 0, .ref atext, .int 0, .int 1, .ref akind, .ref aparent, .ref amode, .ref aowner, .ref agroup, .ref asize, .ref aseed, .ref aname, .ref anameSize, .ref atarget, .ref atargetSize, .ref abase, .ref abaseSize, .ref aextension, .ref aextensionSize, .ref aimage, .int 0, .ref atable, .ref asector, .ref asectors, .ref acontents, .int 0, .int 0, .int 0, .int 0, .ref aabove, .ref aisDirectory, .ref abytes, .ref aplace, .ref areadMode, .ref areadOwner, .ref areadGroup, .ref areadName, .ref areadNameSize, .ref areadTarget, .ref areadTargetSize, .ref adepth, .int 32768, .int 0, .int 0, .int 0, .int 0, .int 0, .int 0]))] H := hP
      have hD : va_D A [(h0, .inr (11, [.int 0, .ref atext, .int 0, .int 1, .ref akind, .ref aparent, .ref amode, .ref aowner, .ref agroup, .ref asize, .ref aseed, .ref aname, .ref anameSize, .ref atarget, .ref atargetSize, .ref abase, .ref abaseSize, .ref aextension, .ref aextensionSize, .ref aimage, .int 0, .ref atable, .ref asector, .ref asectors, .ref acontents, .int 0, .int 0, .int 0, .int 0, .ref aabove, .ref aisDirectory, .ref abytes, .ref aplace, .ref areadMode, .ref areadOwner, .ref areadGroup, .ref areadName, .ref areadNameSize, .ref areadTarget, .ref areadTargetSize, .ref adepth, .int 32768, .int 0, .int 0, .int 0, .int 0, .int 0, .int 0]))] := hD
      refine W.eq (g2 := F0 m 43 ls [.int 0]) (by rw [show r40 = 0 from hp_40]) ?_
      refine lv_if_ne (tgt := 58) hx hb d_DiscMakerModel_mount_43 (by decide) (fun h_43 => absurd (by decide) h_43) (fun h_43 => ?_)
      refine lv_aload_n hx hb d_DiscMakerModel_mount_46 rfl (lv_at hl 0 rfl) ?_
      refine lv_iconst (v := 0) hx hb d_DiscMakerModel_mount_47 (by decide) ?_
      refine va_put (D := D) (ci := 11) (v := .int 0) (ty := .int) (C := "DiscMakerModel") (T := F_DiscMakerModel) (N := 48) hx hb ht9 in_DiscMakerModel t_DiscMakerModel t_DiscMakerModel_ok n_DiscMakerModel hown hK hP hD hS 0 rfl rfl 28 (by decide) (ht9 _ k1459) (fun _ h9 => h9) rfl (by decide +kernel) rfl rfl (Nat.le_of_ble_eq_true rfl) d_DiscMakerModel_mount_48 (fun H locs hP hD hS => ?_)
      have hP : va_P D CL [(h0, .inr (11, [.int 0, .ref atext, .int 0, .int 1, .ref akind, .ref aparent, .ref amode, .ref aowner, .ref agroup, .ref asize, .ref aseed, .ref aname, .ref anameSize, .ref atarget, .ref atargetSize, .ref abase, .ref abaseSize, .ref aextension, .ref aextensionSize, .ref aimage, .int 0, .ref atable, .ref asector, .ref asectors, .ref acontents, .int 0, .int 0, .int 0, .int 0, .ref aabove, .ref aisDirectory, .ref abytes, .ref aplace, .ref areadMode, .ref areadOwner, .ref areadGroup, .ref areadName, .ref areadNameSize, .ref areadTarget, .ref areadTargetSize, .ref adepth, .int 32768, .int 0, .int 0, .int 0, .int 0, .int 0, .int 0]))] H := hP
      have hD : va_D A [(h0, .inr (11, [.int 0, .ref atext, .int 0, .int 1, .ref akind, .ref aparent, .ref amode, .ref aowner, .ref agroup, .ref asize, .ref aseed, .ref aname, .ref anameSize, .ref atarget, .ref atargetSize, .ref abase, .ref abaseSize, .ref aextension, .ref aextensionSize, .ref aimage, .int 0, .ref atable, .ref asector, .ref asectors, .ref acontents, .int 0, .int 0, .int 0, .int 0, .ref aabove, .ref aisDirectory, .ref abytes, .ref aplace, .ref areadMode, .ref areadOwner, .ref areadGroup, .ref areadName, .ref areadNameSize, .ref areadTarget, .ref areadTargetSize, .ref adepth, .int 32768, .int 0, .int 0, .int 0, .int 0, .int 0, .int 0]))] := hD
      refine lv_iconst (v := (-1)) hx hb d_DiscMakerModel_mount_51 (by decide) ?_
      refine lv_aload_n hx hb d_DiscMakerModel_mount_52 rfl (lv_at hl 0 rfl) ?_
      refine va_get (D := D) (ci := 11) (v := .int 32768) (C := "DiscMakerModel") (T := F_DiscMakerModel) (N := 48) hx hb ht9 in_DiscMakerModel hown hK hP 0 rfl rfl 41 (by decide) (ht9 _ k1472) (fun _ h9 => h9) rfl d_DiscMakerModel_mount_53 ?_
      refine lv_isub hx hb d_DiscMakerModel_mount_56 ?_
      refine W.eq (g2 := F0 m 57 ls [.int (-32769)]) (by rw [show (((-1) - 32768) : Int32) = (-32769) from by decide]) ?_
      have hP9 := hP.sub (ws' := [(h0, .inr (11, [.int 0, .ref atext, .int 0, .int 1, .ref akind, .ref aparent, .ref amode, .ref aowner, .ref agroup, .ref asize, .ref aseed, .ref aname, .ref anameSize, .ref atarget, .ref atargetSize, .ref abase, .ref abaseSize, .ref aextension, .ref aextensionSize, .ref aimage, .int 0, .ref atable, .ref asector, .ref asectors, .ref acontents, .int 0, .int 0, .int 0, .int 0, .ref aabove, .ref aisDirectory, .ref abytes, .ref aplace, .ref areadMode, .ref areadOwner, .ref areadGroup, .ref areadName, .ref areadNameSize, .ref areadTarget, .ref areadTargetSize, .ref adepth, .int 32768, .int 0, .int 0, .int 0, .int 0, .int 0, .int 0]))]) [0] rfl
      have hD9 := hD.sub (ws' := [(h0, .inr (11, [.int 0, .ref atext, .int 0, .int 1, .ref akind, .ref aparent, .ref amode, .ref aowner, .ref agroup, .ref asize, .ref aseed, .ref aname, .ref anameSize, .ref atarget, .ref atargetSize, .ref abase, .ref abaseSize, .ref aextension, .ref aextensionSize, .ref aimage, .int 0, .ref atable, .ref asector, .ref asectors, .ref acontents, .int 0, .int 0, .int 0, .int 0, .ref aabove, .ref aisDirectory, .ref abytes, .ref aplace, .ref areadMode, .ref areadOwner, .ref areadGroup, .ref areadName, .ref areadNameSize, .ref areadTarget, .ref areadTargetSize, .ref adepth, .int 32768, .int 0, .int 0, .int 0, .int 0, .int 0, .int 0]))]) [0] (by decide) rfl
      exact W.iret (v := (-32769)) hx hb hr (fun t ht hW => ⟨⟨(-32769), (0, 32768), rfl, by first | exact Or.inl ⟨rfl, rfl, h_2, z_le2 h_7⟩ | exact Or.inr ⟨rfl, fun h => h.1 h_2⟩ | exact Or.inr ⟨rfl, fun h => z_nle2 h_7 h.2⟩, by rw [ht]; exact hP9, hD9⟩, hS.F ht⟩) hS.2.2 d_DiscMakerModel_mount_57

theorem d_DiscMakerModel_node_0 : decode b_DiscMakerModel_node 0 = .ok (.aload_n 0, 1) := by decide +kernel
theorem d_DiscMakerModel_node_1 : decode b_DiscMakerModel_node 1 = .ok (.iload_n 1, 1) := by decide +kernel
theorem d_DiscMakerModel_node_2 : decode b_DiscMakerModel_node 2 = .ok (.ifCond .lt 25, 3) := by decide +kernel
theorem d_DiscMakerModel_node_5 : decode b_DiscMakerModel_node 5 = .ok (.iload_n 1, 1) := by decide +kernel
theorem d_DiscMakerModel_node_6 : decode b_DiscMakerModel_node 6 = .ok (.aload_n 0, 1) := by decide +kernel
theorem d_DiscMakerModel_node_7 : decode b_DiscMakerModel_node 7 = .ok (.getfield 323, 3) := by decide +kernel
theorem d_DiscMakerModel_node_10 : decode b_DiscMakerModel_node 10 = .ok (.if_icmp .ge 17, 3) := by decide +kernel
theorem d_DiscMakerModel_node_27 : decode b_DiscMakerModel_node 27 = .ok (.iconst 1, 1) := by decide +kernel
theorem d_DiscMakerModel_node_28 : decode b_DiscMakerModel_node 28 = .ok (.putfield 118, 3) := by decide +kernel
theorem d_DiscMakerModel_node_31 : decode b_DiscMakerModel_node 31 = .ok (.aload_n 0, 1) := by decide +kernel
theorem d_DiscMakerModel_node_32 : decode b_DiscMakerModel_node 32 = .ok (.getfield 118, 3) := by decide +kernel
theorem d_DiscMakerModel_node_35 : decode b_DiscMakerModel_node 35 = .ok (.iconst 1, 1) := by decide +kernel
theorem d_DiscMakerModel_node_36 : decode b_DiscMakerModel_node 36 = .ok (.if_icmp .ne 5, 3) := by decide +kernel
theorem d_DiscMakerModel_node_39 : decode b_DiscMakerModel_node 39 = .ok (.iconst 0, 1) := by decide +kernel
theorem d_DiscMakerModel_node_40 : decode b_DiscMakerModel_node 40 = .ok (.ireturn, 1) := by decide +kernel
set_option maxHeartbeats 4000000 in
set_option maxRecDepth 100000 in
theorem c_m_node (l : Launch) (D : va_G) (cB cI cJ cZ cN cF : ClassId) (sz : Nat) (h0 atext akind aparent amode aowner agroup asize aseed aname anameSize atarget atargetSize abase abaseSize aextension aextensionSize aimage atable asector asectors acontents aabove aisDirectory abytes aplace areadMode areadOwner areadGroup areadName areadNameSize areadTarget areadTargetSize adepth : Nat) (n v : Int32) : Met l y_DiscMakerModel_node w_DiscMakerModel_node ({ frames := 0, cells := 0, slots := 0, locals := 0 }) (va_Pc [.ref h0, .int n, .int v] (fun U => U.heap.size = sz ∧ va_P D CL [(h0, .inr (11, [.int 0, .ref atext, .int 0, .int 1, .ref akind, .ref aparent, .ref amode, .ref aowner, .ref agroup, .ref asize, .ref aseed, .ref aname, .ref anameSize, .ref atarget, .ref atargetSize, .ref abase, .ref abaseSize, .ref aextension, .ref aextensionSize, .ref aimage, .int 0, .ref atable, .ref asector, .ref asectors, .ref acontents, .int 0, .int 0, .int 0, .int 0, .ref aabove, .ref aisDirectory, .ref abytes, .ref aplace, .ref areadMode, .ref areadOwner, .ref areadGroup, .ref areadName, .ref areadNameSize, .ref areadTarget, .ref areadTargetSize, .ref adepth, .int 0, .int 0, .int 0, .int 0, .int 0, .int 0, .int 0]))] U.heap ∧ va_K D CL (TY cB cI cJ cZ cN cF) U ∧ NN U ∧ va_D (fun _ => True) [(h0, .inr (11, [.int 0, .ref atext, .int 0, .int 1, .ref akind, .ref aparent, .ref amode, .ref aowner, .ref agroup, .ref asize, .ref aseed, .ref aname, .ref anameSize, .ref atarget, .ref atargetSize, .ref abase, .ref abaseSize, .ref aextension, .ref aextensionSize, .ref aimage, .int 0, .ref atable, .ref asector, .ref asectors, .ref acontents, .int 0, .int 0, .int 0, .int 0, .ref aabove, .ref aisDirectory, .ref abytes, .ref aplace, .ref areadMode, .ref areadOwner, .ref areadGroup, .ref areadName, .ref areadNameSize, .ref areadTarget, .ref areadTargetSize, .ref adepth, .int 0, .int 0, .int 0, .int 0, .int 0, .int 0, .int 0]))])) (va_Qi (fun (r : Int32) (u : Unit) => True) (fun (u : Unit) (t : State) => match u with | () => va_P D CL [(h0, .inr (11, [.int 1, .ref atext, .int 0, .int 1, .ref akind, .ref aparent, .ref amode, .ref aowner, .ref agroup, .ref asize, .ref aseed, .ref aname, .ref anameSize, .ref atarget, .ref atargetSize, .ref abase, .ref abaseSize, .ref aextension, .ref aextensionSize, .ref aimage, .int 0, .ref atable, .ref asector, .ref asectors, .ref acontents, .int 0, .int 0, .int 0, .int 0, .ref aabove, .ref aisDirectory, .ref abytes, .ref aplace, .ref areadMode, .ref areadOwner, .ref areadGroup, .ref areadName, .ref areadNameSize, .ref areadTarget, .ref areadTargetSize, .ref adepth, .int 0, .int 0, .int 0, .int 0, .int 0, .int 0, .int 0]))] t.heap ∧ va_D (va_A [(h0, .inr (11, [.int 0, .ref atext, .int 0, .int 1, .ref akind, .ref aparent, .ref amode, .ref aowner, .ref agroup, .ref asize, .ref aseed, .ref aname, .ref anameSize, .ref atarget, .ref atargetSize, .ref abase, .ref abaseSize, .ref aextension, .ref aextensionSize, .ref aimage, .int 0, .ref atable, .ref asector, .ref asectors, .ref acontents, .int 0, .int 0, .int 0, .int 0, .ref aabove, .ref aisDirectory, .ref abytes, .ref aplace, .ref areadMode, .ref areadOwner, .ref areadGroup, .ref areadName, .ref areadNameSize, .ref areadTarget, .ref areadTargetSize, .ref adepth, .int 0, .int 0, .int 0, .int 0, .int 0, .int 0, .int 0]))] sz) [(h0, .inr (11, [.int 1, .ref atext, .int 0, .int 1, .ref akind, .ref aparent, .ref amode, .ref aowner, .ref agroup, .ref asize, .ref aseed, .ref aname, .ref anameSize, .ref atarget, .ref atargetSize, .ref abase, .ref abaseSize, .ref aextension, .ref aextensionSize, .ref aimage, .int 0, .ref atable, .ref asector, .ref asectors, .ref acontents, .int 0, .int 0, .int 0, .int 0, .ref aabove, .ref aisDirectory, .ref abytes, .ref aplace, .ref areadMode, .ref areadOwner, .ref areadGroup, .ref areadName, .ref areadNameSize, .ref areadTarget, .ref areadTargetSize, .ref adepth, .int 0, .int 0, .int 0, .int 0, .int 0, .int 0, .int 0]))]) (va_A [(h0, .inr (11, [.int 0, .ref atext, .int 0, .int 1, .ref akind, .ref aparent, .ref amode, .ref aowner, .ref agroup, .ref asize, .ref aseed, .ref aname, .ref anameSize, .ref atarget, .ref atargetSize, .ref abase, .ref abaseSize, .ref aextension, .ref aextensionSize, .ref aimage, .int 0, .ref atable, .ref asector, .ref asectors, .ref acontents, .int 0, .int 0, .int 0, .int 0, .ref aabove, .ref aisDirectory, .ref abytes, .ref aplace, .ref areadMode, .ref areadOwner, .ref areadGroup, .ref areadName, .ref areadNameSize, .ref areadTarget, .ref areadTargetSize, .ref adepth, .int 0, .int 0, .int 0, .int 0, .int 0, .int 0, .int 0]))] sz)) 0 0 (va_A [(h0, .inr (11, [.int 0, .ref atext, .int 0, .int 1, .ref akind, .ref aparent, .ref amode, .ref aowner, .ref agroup, .ref asize, .ref aseed, .ref aname, .ref anameSize, .ref atarget, .ref atargetSize, .ref abase, .ref abaseSize, .ref aextension, .ref aextensionSize, .ref aimage, .int 0, .ref atable, .ref asector, .ref asectors, .ref acontents, .int 0, .int 0, .int 0, .int 0, .ref aabove, .ref aisDirectory, .ref abytes, .ref aplace, .ref areadMode, .ref areadOwner, .ref areadGroup, .ref areadName, .ref areadNameSize, .ref areadTarget, .ref areadTargetSize, .ref adepth, .int 0, .int 0, .int 0, .int 0, .int 0, .int 0, .int 0]))] sz) := by
  refine Met.ofW (cc := b_DiscMakerModel_node) (maxL := 3) (ret := some .int) (by decide) rfl ?_
  intro p e s m args below meth c s₁ B hml hv
  obtain ⟨rfl, hsz, hP, hK, hN, hD0⟩ := hv
  have hx := B.exec
  have hb := B.bytes
  have hr := B.returns
  have hts := atoms_spec (ws := w_DiscMakerModel_node) B.pre
  have ht9 := fun (w : Cond) (h : w ∈ lw_g) => hts w (List.mem_cons_of_mem _ h)
  have hown : s.vm.findClass "DiscMakerModel" = some m.cls := findClass_of_methodNamed B.named
  have hlocks := B.notSynchronized
  subst hsz
  have hD := hD0.self (sz := s.heap.size)
  generalize hAe : va_A [(h0, .inr (11, [.int 0, .ref atext, .int 0, .int 1, .ref akind, .ref aparent, .ref amode, .ref aowner, .ref agroup, .ref asize, .ref aseed, .ref aname, .ref anameSize, .ref atarget, .ref atargetSize, .ref abase, .ref abaseSize, .ref aextension, .ref aextensionSize, .ref aimage, .int 0, .ref atable, .ref asector, .ref asectors, .ref acontents, .int 0, .int 0, .int 0, .int 0, .ref aabove, .ref aisDirectory, .ref abytes, .ref aplace, .ref areadMode, .ref areadOwner, .ref areadGroup, .ref areadName, .ref areadNameSize, .ref areadTarget, .ref areadTargetSize, .ref adepth, .int 0, .int 0, .int 0, .int 0, .int 0, .int 0, .int 0]))] s.heap.size = A at hD ⊢
  have hA : ∀ q : Nat, s.heap.size ≤ q → A q := fun q h => by rw [← hAe]; exact Or.inr h
  have hS : va_S A s.heap s.heap [] := va_S.rf
  have hP : va_P D CL [(h0, .inr (11, [.int 0, .ref atext, .int 0, .int 1, .ref akind, .ref aparent, .ref amode, .ref aowner, .ref agroup, .ref asize, .ref aseed, .ref aname, .ref anameSize, .ref atarget, .ref atargetSize, .ref abase, .ref abaseSize, .ref aextension, .ref aextensionSize, .ref aimage, .int 0, .ref atable, .ref asector, .ref asectors, .ref acontents, .int 0, .int 0, .int 0, .int 0, .ref aabove, .ref aisDirectory, .ref abytes, .ref aplace, .ref areadMode, .ref areadOwner, .ref areadGroup, .ref areadName, .ref areadNameSize, .ref areadTarget, .ref areadTargetSize, .ref adepth, .int 0, .int 0, .int 0, .int 0, .int 0, .int 0, .int 0]))] s.heap := hP
  have hl := lv_entry [.ref h0, .int n, .int v] (n := 3) (Nat.le_of_ble_eq_true rfl)
  rw [lg_entry_eq]
  generalize (lg_sl [.ref h0, .int n, .int v] ++ List.replicate (3 - (lg_sl [.ref h0, .int n, .int v]).length) Slot.unset).toArray = ls at hl ⊢
  have hl : lv_has ls 3 [(0, .ref h0), (1, .int n), (2, .int v)] := hl
  refine lv_aload_n hx hb d_DiscMakerModel_node_0 rfl (lv_at hl 0 rfl) ?_
  refine lv_iload_n hx hb d_DiscMakerModel_node_1 rfl (lv_at hl 1 rfl) ?_
  refine lv_if_lt (tgt := 27) hx hb d_DiscMakerModel_node_2 (by decide) (fun h_2 => ?_) (fun h_2 => ?_)
  · skip
    refine lv_iconst (v := 1) hx hb d_DiscMakerModel_node_27 (by decide) ?_
    refine va_put (D := D) (ci := 11) (v := .int 1) (ty := .int) (C := "DiscMakerModel") (T := F_DiscMakerModel) (N := 48) hx hb ht9 in_DiscMakerModel t_DiscMakerModel t_DiscMakerModel_ok n_DiscMakerModel hown hK hP hD hS 0 rfl rfl 0 (by decide) (ht9 _ k1431) (fun _ h9 => h9) rfl (by decide +kernel) rfl rfl (Nat.le_of_ble_eq_true rfl) d_DiscMakerModel_node_28 (fun H locs hP hD hS => ?_)
    have hP : va_P D CL [(h0, .inr (11, [.int 1, .ref atext, .int 0, .int 1, .ref akind, .ref aparent, .ref amode, .ref aowner, .ref agroup, .ref asize, .ref aseed, .ref aname, .ref anameSize, .ref atarget, .ref atargetSize, .ref abase, .ref abaseSize, .ref aextension, .ref aextensionSize, .ref aimage, .int 0, .ref atable, .ref asector, .ref asectors, .ref acontents, .int 0, .int 0, .int 0, .int 0, .ref aabove, .ref aisDirectory, .ref abytes, .ref aplace, .ref areadMode, .ref areadOwner, .ref areadGroup, .ref areadName, .ref areadNameSize, .ref areadTarget, .ref areadTargetSize, .ref adepth, .int 0, .int 0, .int 0, .int 0, .int 0, .int 0, .int 0]))] H := hP
    have hD : va_D A [(h0, .inr (11, [.int 1, .ref atext, .int 0, .int 1, .ref akind, .ref aparent, .ref amode, .ref aowner, .ref agroup, .ref asize, .ref aseed, .ref aname, .ref anameSize, .ref atarget, .ref atargetSize, .ref abase, .ref abaseSize, .ref aextension, .ref aextensionSize, .ref aimage, .int 0, .ref atable, .ref asector, .ref asectors, .ref acontents, .int 0, .int 0, .int 0, .int 0, .ref aabove, .ref aisDirectory, .ref abytes, .ref aplace, .ref areadMode, .ref areadOwner, .ref areadGroup, .ref areadName, .ref areadNameSize, .ref areadTarget, .ref areadTargetSize, .ref adepth, .int 0, .int 0, .int 0, .int 0, .int 0, .int 0, .int 0]))] := hD
    refine lv_aload_n hx hb d_DiscMakerModel_node_31 rfl (lv_at hl 0 rfl) ?_
    refine va_get (D := D) (ci := 11) (v := .int 1) (C := "DiscMakerModel") (T := F_DiscMakerModel) (N := 48) hx hb ht9 in_DiscMakerModel hown hK hP 0 rfl rfl 0 (by decide) (ht9 _ k1431) (fun _ h9 => h9) rfl d_DiscMakerModel_node_32 ?_
    refine lv_iconst (v := 1) hx hb d_DiscMakerModel_node_35 (by decide) ?_
    refine lv_icmp_ne (tgt := 41) hx hb d_DiscMakerModel_node_36 (by decide) (fun h_36 => absurd (by decide) h_36) (fun h_36 => ?_)
    refine lv_iconst (v := 0) hx hb d_DiscMakerModel_node_39 (by decide) ?_
    have hP9 := hP.sub (ws' := [(h0, .inr (11, [.int 1, .ref atext, .int 0, .int 1, .ref akind, .ref aparent, .ref amode, .ref aowner, .ref agroup, .ref asize, .ref aseed, .ref aname, .ref anameSize, .ref atarget, .ref atargetSize, .ref abase, .ref abaseSize, .ref aextension, .ref aextensionSize, .ref aimage, .int 0, .ref atable, .ref asector, .ref asectors, .ref acontents, .int 0, .int 0, .int 0, .int 0, .ref aabove, .ref aisDirectory, .ref abytes, .ref aplace, .ref areadMode, .ref areadOwner, .ref areadGroup, .ref areadName, .ref areadNameSize, .ref areadTarget, .ref areadTargetSize, .ref adepth, .int 0, .int 0, .int 0, .int 0, .int 0, .int 0, .int 0]))]) [0] rfl
    have hD9 := hD.sub (ws' := [(h0, .inr (11, [.int 1, .ref atext, .int 0, .int 1, .ref akind, .ref aparent, .ref amode, .ref aowner, .ref agroup, .ref asize, .ref aseed, .ref aname, .ref anameSize, .ref atarget, .ref atargetSize, .ref abase, .ref abaseSize, .ref aextension, .ref aextensionSize, .ref aimage, .int 0, .ref atable, .ref asector, .ref asectors, .ref acontents, .int 0, .int 0, .int 0, .int 0, .ref aabove, .ref aisDirectory, .ref abytes, .ref aplace, .ref areadMode, .ref areadOwner, .ref areadGroup, .ref areadName, .ref areadNameSize, .ref areadTarget, .ref areadTargetSize, .ref adepth, .int 0, .int 0, .int 0, .int 0, .int 0, .int 0, .int 0]))]) [0] (by decide) rfl
    exact W.iret (v := 0) hx hb hr (fun t ht hW => ⟨⟨0, (), rfl, trivial, by rw [ht]; exact hP9, hD9⟩, hS.F ht⟩) hS.2.2 d_DiscMakerModel_node_40
  · skip
    refine lv_iload_n hx hb d_DiscMakerModel_node_5 rfl (lv_at hl 1 rfl) ?_
    refine lv_aload_n hx hb d_DiscMakerModel_node_6 rfl (lv_at hl 0 rfl) ?_
    refine va_get (D := D) (ci := 11) (v := .int 0) (C := "DiscMakerModel") (T := F_DiscMakerModel) (N := 48) hx hb ht9 in_DiscMakerModel hown hK hP 0 rfl rfl 28 (by decide) (ht9 _ k1459) (fun _ h9 => h9) rfl d_DiscMakerModel_node_7 ?_
    refine lv_icmp_ge (tgt := 27) hx hb d_DiscMakerModel_node_10 (by decide) (fun h_10 => ?_) (fun h_10 => absurd (z_ge0 h_2) h_10)
    refine lv_iconst (v := 1) hx hb d_DiscMakerModel_node_27 (by decide) ?_
    refine va_put (D := D) (ci := 11) (v := .int 1) (ty := .int) (C := "DiscMakerModel") (T := F_DiscMakerModel) (N := 48) hx hb ht9 in_DiscMakerModel t_DiscMakerModel t_DiscMakerModel_ok n_DiscMakerModel hown hK hP hD hS 0 rfl rfl 0 (by decide) (ht9 _ k1431) (fun _ h9 => h9) rfl (by decide +kernel) rfl rfl (Nat.le_of_ble_eq_true rfl) d_DiscMakerModel_node_28 (fun H locs hP hD hS => ?_)
    have hP : va_P D CL [(h0, .inr (11, [.int 1, .ref atext, .int 0, .int 1, .ref akind, .ref aparent, .ref amode, .ref aowner, .ref agroup, .ref asize, .ref aseed, .ref aname, .ref anameSize, .ref atarget, .ref atargetSize, .ref abase, .ref abaseSize, .ref aextension, .ref aextensionSize, .ref aimage, .int 0, .ref atable, .ref asector, .ref asectors, .ref acontents, .int 0, .int 0, .int 0, .int 0, .ref aabove, .ref aisDirectory, .ref abytes, .ref aplace, .ref areadMode, .ref areadOwner, .ref areadGroup, .ref areadName, .ref areadNameSize, .ref areadTarget, .ref areadTargetSize, .ref adepth, .int 0, .int 0, .int 0, .int 0, .int 0, .int 0, .int 0]))] H := hP
    have hD : va_D A [(h0, .inr (11, [.int 1, .ref atext, .int 0, .int 1, .ref akind, .ref aparent, .ref amode, .ref aowner, .ref agroup, .ref asize, .ref aseed, .ref aname, .ref anameSize, .ref atarget, .ref atargetSize, .ref abase, .ref abaseSize, .ref aextension, .ref aextensionSize, .ref aimage, .int 0, .ref atable, .ref asector, .ref asectors, .ref acontents, .int 0, .int 0, .int 0, .int 0, .ref aabove, .ref aisDirectory, .ref abytes, .ref aplace, .ref areadMode, .ref areadOwner, .ref areadGroup, .ref areadName, .ref areadNameSize, .ref areadTarget, .ref areadTargetSize, .ref adepth, .int 0, .int 0, .int 0, .int 0, .int 0, .int 0, .int 0]))] := hD
    refine lv_aload_n hx hb d_DiscMakerModel_node_31 rfl (lv_at hl 0 rfl) ?_
    refine va_get (D := D) (ci := 11) (v := .int 1) (C := "DiscMakerModel") (T := F_DiscMakerModel) (N := 48) hx hb ht9 in_DiscMakerModel hown hK hP 0 rfl rfl 0 (by decide) (ht9 _ k1431) (fun _ h9 => h9) rfl d_DiscMakerModel_node_32 ?_
    refine lv_iconst (v := 1) hx hb d_DiscMakerModel_node_35 (by decide) ?_
    refine lv_icmp_ne (tgt := 41) hx hb d_DiscMakerModel_node_36 (by decide) (fun h_36 => absurd (by decide) h_36) (fun h_36 => ?_)
    refine lv_iconst (v := 0) hx hb d_DiscMakerModel_node_39 (by decide) ?_
    have hP9 := hP.sub (ws' := [(h0, .inr (11, [.int 1, .ref atext, .int 0, .int 1, .ref akind, .ref aparent, .ref amode, .ref aowner, .ref agroup, .ref asize, .ref aseed, .ref aname, .ref anameSize, .ref atarget, .ref atargetSize, .ref abase, .ref abaseSize, .ref aextension, .ref aextensionSize, .ref aimage, .int 0, .ref atable, .ref asector, .ref asectors, .ref acontents, .int 0, .int 0, .int 0, .int 0, .ref aabove, .ref aisDirectory, .ref abytes, .ref aplace, .ref areadMode, .ref areadOwner, .ref areadGroup, .ref areadName, .ref areadNameSize, .ref areadTarget, .ref areadTargetSize, .ref adepth, .int 0, .int 0, .int 0, .int 0, .int 0, .int 0, .int 0]))]) [0] rfl
    have hD9 := hD.sub (ws' := [(h0, .inr (11, [.int 1, .ref atext, .int 0, .int 1, .ref akind, .ref aparent, .ref amode, .ref aowner, .ref agroup, .ref asize, .ref aseed, .ref aname, .ref anameSize, .ref atarget, .ref atargetSize, .ref abase, .ref abaseSize, .ref aextension, .ref aextensionSize, .ref aimage, .int 0, .ref atable, .ref asector, .ref asectors, .ref acontents, .int 0, .int 0, .int 0, .int 0, .ref aabove, .ref aisDirectory, .ref abytes, .ref aplace, .ref areadMode, .ref areadOwner, .ref areadGroup, .ref areadName, .ref areadNameSize, .ref areadTarget, .ref areadTargetSize, .ref adepth, .int 0, .int 0, .int 0, .int 0, .int 0, .int 0, .int 0]))]) [0] (by decide) rfl
    exact W.iret (v := 0) hx hb hr (fun t ht hW => ⟨⟨0, (), rfl, trivial, by rw [ht]; exact hP9, hD9⟩, hS.F ht⟩) hS.2.2 d_DiscMakerModel_node_40

theorem d_DiscMakerModel_name_0 : decode b_DiscMakerModel_name 0 = .ok (.aload_n 0, 1) := by decide +kernel
theorem d_DiscMakerModel_name_1 : decode b_DiscMakerModel_name 1 = .ok (.iload_n 1, 1) := by decide +kernel
theorem d_DiscMakerModel_name_2 : decode b_DiscMakerModel_name 2 = .ok (.ifCond .lt 29, 3) := by decide +kernel
theorem d_DiscMakerModel_name_5 : decode b_DiscMakerModel_name 5 = .ok (.iload_n 1, 1) := by decide +kernel
theorem d_DiscMakerModel_name_6 : decode b_DiscMakerModel_name 6 = .ok (.aload_n 0, 1) := by decide +kernel
theorem d_DiscMakerModel_name_7 : decode b_DiscMakerModel_name 7 = .ok (.getfield 323, 3) := by decide +kernel
theorem d_DiscMakerModel_name_10 : decode b_DiscMakerModel_name 10 = .ok (.if_icmp .ge 21, 3) := by decide +kernel
theorem d_DiscMakerModel_name_31 : decode b_DiscMakerModel_name 31 = .ok (.iconst 1, 1) := by decide +kernel
theorem d_DiscMakerModel_name_32 : decode b_DiscMakerModel_name 32 = .ok (.putfield 118, 3) := by decide +kernel
theorem d_DiscMakerModel_name_35 : decode b_DiscMakerModel_name 35 = .ok (.aload_n 0, 1) := by decide +kernel
theorem d_DiscMakerModel_name_36 : decode b_DiscMakerModel_name 36 = .ok (.getfield 118, 3) := by decide +kernel
theorem d_DiscMakerModel_name_39 : decode b_DiscMakerModel_name 39 = .ok (.iconst 1, 1) := by decide +kernel
theorem d_DiscMakerModel_name_40 : decode b_DiscMakerModel_name 40 = .ok (.if_icmp .ne 7, 3) := by decide +kernel
theorem d_DiscMakerModel_name_43 : decode b_DiscMakerModel_name 43 = .ok (.iconst 0, 1) := by decide +kernel
theorem d_DiscMakerModel_name_44 : decode b_DiscMakerModel_name 44 = .ok (.goto 18, 3) := by decide +kernel
theorem d_DiscMakerModel_name_62 : decode b_DiscMakerModel_name 62 = .ok (.ireturn, 1) := by decide +kernel
set_option maxHeartbeats 4000000 in
set_option maxRecDepth 100000 in
theorem c_m_name (l : Launch) (D : va_G) (cB cI cJ cZ cN cF : ClassId) (sz : Nat) (h0 atext akind aparent amode aowner agroup asize aseed aname anameSize atarget atargetSize abase abaseSize aextension aextensionSize aimage atable asector asectors acontents aabove aisDirectory abytes aplace areadMode areadOwner areadGroup areadName areadNameSize areadTarget areadTargetSize adepth : Nat) (n v : Int32) : Met l y_DiscMakerModel_name w_DiscMakerModel_name ({ frames := 0, cells := 0, slots := 0, locals := 0 }) (va_Pc [.ref h0, .int n, .int v] (fun U => U.heap.size = sz ∧ va_P D CL [(h0, .inr (11, [.int 0, .ref atext, .int 0, .int 1, .ref akind, .ref aparent, .ref amode, .ref aowner, .ref agroup, .ref asize, .ref aseed, .ref aname, .ref anameSize, .ref atarget, .ref atargetSize, .ref abase, .ref abaseSize, .ref aextension, .ref aextensionSize, .ref aimage, .int 0, .ref atable, .ref asector, .ref asectors, .ref acontents, .int 0, .int 0, .int 0, .int 0, .ref aabove, .ref aisDirectory, .ref abytes, .ref aplace, .ref areadMode, .ref areadOwner, .ref areadGroup, .ref areadName, .ref areadNameSize, .ref areadTarget, .ref areadTargetSize, .ref adepth, .int 0, .int 0, .int 0, .int 0, .int 0, .int 0, .int 0]))] U.heap ∧ va_K D CL (TY cB cI cJ cZ cN cF) U ∧ NN U ∧ va_D (fun _ => True) [(h0, .inr (11, [.int 0, .ref atext, .int 0, .int 1, .ref akind, .ref aparent, .ref amode, .ref aowner, .ref agroup, .ref asize, .ref aseed, .ref aname, .ref anameSize, .ref atarget, .ref atargetSize, .ref abase, .ref abaseSize, .ref aextension, .ref aextensionSize, .ref aimage, .int 0, .ref atable, .ref asector, .ref asectors, .ref acontents, .int 0, .int 0, .int 0, .int 0, .ref aabove, .ref aisDirectory, .ref abytes, .ref aplace, .ref areadMode, .ref areadOwner, .ref areadGroup, .ref areadName, .ref areadNameSize, .ref areadTarget, .ref areadTargetSize, .ref adepth, .int 0, .int 0, .int 0, .int 0, .int 0, .int 0, .int 0]))])) (va_Qi (fun (r : Int32) (u : Unit) => True) (fun (u : Unit) (t : State) => match u with | () => va_P D CL [(h0, .inr (11, [.int 1, .ref atext, .int 0, .int 1, .ref akind, .ref aparent, .ref amode, .ref aowner, .ref agroup, .ref asize, .ref aseed, .ref aname, .ref anameSize, .ref atarget, .ref atargetSize, .ref abase, .ref abaseSize, .ref aextension, .ref aextensionSize, .ref aimage, .int 0, .ref atable, .ref asector, .ref asectors, .ref acontents, .int 0, .int 0, .int 0, .int 0, .ref aabove, .ref aisDirectory, .ref abytes, .ref aplace, .ref areadMode, .ref areadOwner, .ref areadGroup, .ref areadName, .ref areadNameSize, .ref areadTarget, .ref areadTargetSize, .ref adepth, .int 0, .int 0, .int 0, .int 0, .int 0, .int 0, .int 0]))] t.heap ∧ va_D (va_A [(h0, .inr (11, [.int 0, .ref atext, .int 0, .int 1, .ref akind, .ref aparent, .ref amode, .ref aowner, .ref agroup, .ref asize, .ref aseed, .ref aname, .ref anameSize, .ref atarget, .ref atargetSize, .ref abase, .ref abaseSize, .ref aextension, .ref aextensionSize, .ref aimage, .int 0, .ref atable, .ref asector, .ref asectors, .ref acontents, .int 0, .int 0, .int 0, .int 0, .ref aabove, .ref aisDirectory, .ref abytes, .ref aplace, .ref areadMode, .ref areadOwner, .ref areadGroup, .ref areadName, .ref areadNameSize, .ref areadTarget, .ref areadTargetSize, .ref adepth, .int 0, .int 0, .int 0, .int 0, .int 0, .int 0, .int 0]))] sz) [(h0, .inr (11, [.int 1, .ref atext, .int 0, .int 1, .ref akind, .ref aparent, .ref amode, .ref aowner, .ref agroup, .ref asize, .ref aseed, .ref aname, .ref anameSize, .ref atarget, .ref atargetSize, .ref abase, .ref abaseSize, .ref aextension, .ref aextensionSize, .ref aimage, .int 0, .ref atable, .ref asector, .ref asectors, .ref acontents, .int 0, .int 0, .int 0, .int 0, .ref aabove, .ref aisDirectory, .ref abytes, .ref aplace, .ref areadMode, .ref areadOwner, .ref areadGroup, .ref areadName, .ref areadNameSize, .ref areadTarget, .ref areadTargetSize, .ref adepth, .int 0, .int 0, .int 0, .int 0, .int 0, .int 0, .int 0]))]) (va_A [(h0, .inr (11, [.int 0, .ref atext, .int 0, .int 1, .ref akind, .ref aparent, .ref amode, .ref aowner, .ref agroup, .ref asize, .ref aseed, .ref aname, .ref anameSize, .ref atarget, .ref atargetSize, .ref abase, .ref abaseSize, .ref aextension, .ref aextensionSize, .ref aimage, .int 0, .ref atable, .ref asector, .ref asectors, .ref acontents, .int 0, .int 0, .int 0, .int 0, .ref aabove, .ref aisDirectory, .ref abytes, .ref aplace, .ref areadMode, .ref areadOwner, .ref areadGroup, .ref areadName, .ref areadNameSize, .ref areadTarget, .ref areadTargetSize, .ref adepth, .int 0, .int 0, .int 0, .int 0, .int 0, .int 0, .int 0]))] sz)) 0 0 (va_A [(h0, .inr (11, [.int 0, .ref atext, .int 0, .int 1, .ref akind, .ref aparent, .ref amode, .ref aowner, .ref agroup, .ref asize, .ref aseed, .ref aname, .ref anameSize, .ref atarget, .ref atargetSize, .ref abase, .ref abaseSize, .ref aextension, .ref aextensionSize, .ref aimage, .int 0, .ref atable, .ref asector, .ref asectors, .ref acontents, .int 0, .int 0, .int 0, .int 0, .ref aabove, .ref aisDirectory, .ref abytes, .ref aplace, .ref areadMode, .ref areadOwner, .ref areadGroup, .ref areadName, .ref areadNameSize, .ref areadTarget, .ref areadTargetSize, .ref adepth, .int 0, .int 0, .int 0, .int 0, .int 0, .int 0, .int 0]))] sz) := by
  refine Met.ofW (cc := b_DiscMakerModel_name) (maxL := 3) (ret := some .int) (by decide) rfl ?_
  intro p e s m args below meth c s₁ B hml hv
  obtain ⟨rfl, hsz, hP, hK, hN, hD0⟩ := hv
  have hx := B.exec
  have hb := B.bytes
  have hr := B.returns
  have hts := atoms_spec (ws := w_DiscMakerModel_name) B.pre
  have ht9 := fun (w : Cond) (h : w ∈ lw_g) => hts w (List.mem_cons_of_mem _ h)
  have hown : s.vm.findClass "DiscMakerModel" = some m.cls := findClass_of_methodNamed B.named
  have hlocks := B.notSynchronized
  subst hsz
  have hD := hD0.self (sz := s.heap.size)
  generalize hAe : va_A [(h0, .inr (11, [.int 0, .ref atext, .int 0, .int 1, .ref akind, .ref aparent, .ref amode, .ref aowner, .ref agroup, .ref asize, .ref aseed, .ref aname, .ref anameSize, .ref atarget, .ref atargetSize, .ref abase, .ref abaseSize, .ref aextension, .ref aextensionSize, .ref aimage, .int 0, .ref atable, .ref asector, .ref asectors, .ref acontents, .int 0, .int 0, .int 0, .int 0, .ref aabove, .ref aisDirectory, .ref abytes, .ref aplace, .ref areadMode, .ref areadOwner, .ref areadGroup, .ref areadName, .ref areadNameSize, .ref areadTarget, .ref areadTargetSize, .ref adepth, .int 0, .int 0, .int 0, .int 0, .int 0, .int 0, .int 0]))] s.heap.size = A at hD ⊢
  have hA : ∀ q : Nat, s.heap.size ≤ q → A q := fun q h => by rw [← hAe]; exact Or.inr h
  have hS : va_S A s.heap s.heap [] := va_S.rf
  have hP : va_P D CL [(h0, .inr (11, [.int 0, .ref atext, .int 0, .int 1, .ref akind, .ref aparent, .ref amode, .ref aowner, .ref agroup, .ref asize, .ref aseed, .ref aname, .ref anameSize, .ref atarget, .ref atargetSize, .ref abase, .ref abaseSize, .ref aextension, .ref aextensionSize, .ref aimage, .int 0, .ref atable, .ref asector, .ref asectors, .ref acontents, .int 0, .int 0, .int 0, .int 0, .ref aabove, .ref aisDirectory, .ref abytes, .ref aplace, .ref areadMode, .ref areadOwner, .ref areadGroup, .ref areadName, .ref areadNameSize, .ref areadTarget, .ref areadTargetSize, .ref adepth, .int 0, .int 0, .int 0, .int 0, .int 0, .int 0, .int 0]))] s.heap := hP
  have hl := lv_entry [.ref h0, .int n, .int v] (n := 3) (Nat.le_of_ble_eq_true rfl)
  rw [lg_entry_eq]
  generalize (lg_sl [.ref h0, .int n, .int v] ++ List.replicate (3 - (lg_sl [.ref h0, .int n, .int v]).length) Slot.unset).toArray = ls at hl ⊢
  have hl : lv_has ls 3 [(0, .ref h0), (1, .int n), (2, .int v)] := hl
  refine lv_aload_n hx hb d_DiscMakerModel_name_0 rfl (lv_at hl 0 rfl) ?_
  refine lv_iload_n hx hb d_DiscMakerModel_name_1 rfl (lv_at hl 1 rfl) ?_
  refine lv_if_lt (tgt := 31) hx hb d_DiscMakerModel_name_2 (by decide) (fun h_2 => ?_) (fun h_2 => ?_)
  · skip
    refine lv_iconst (v := 1) hx hb d_DiscMakerModel_name_31 (by decide) ?_
    refine va_put (D := D) (ci := 11) (v := .int 1) (ty := .int) (C := "DiscMakerModel") (T := F_DiscMakerModel) (N := 48) hx hb ht9 in_DiscMakerModel t_DiscMakerModel t_DiscMakerModel_ok n_DiscMakerModel hown hK hP hD hS 0 rfl rfl 0 (by decide) (ht9 _ k1431) (fun _ h9 => h9) rfl (by decide +kernel) rfl rfl (Nat.le_of_ble_eq_true rfl) d_DiscMakerModel_name_32 (fun H locs hP hD hS => ?_)
    have hP : va_P D CL [(h0, .inr (11, [.int 1, .ref atext, .int 0, .int 1, .ref akind, .ref aparent, .ref amode, .ref aowner, .ref agroup, .ref asize, .ref aseed, .ref aname, .ref anameSize, .ref atarget, .ref atargetSize, .ref abase, .ref abaseSize, .ref aextension, .ref aextensionSize, .ref aimage, .int 0, .ref atable, .ref asector, .ref asectors, .ref acontents, .int 0, .int 0, .int 0, .int 0, .ref aabove, .ref aisDirectory, .ref abytes, .ref aplace, .ref areadMode, .ref areadOwner, .ref areadGroup, .ref areadName, .ref areadNameSize, .ref areadTarget, .ref areadTargetSize, .ref adepth, .int 0, .int 0, .int 0, .int 0, .int 0, .int 0, .int 0]))] H := hP
    have hD : va_D A [(h0, .inr (11, [.int 1, .ref atext, .int 0, .int 1, .ref akind, .ref aparent, .ref amode, .ref aowner, .ref agroup, .ref asize, .ref aseed, .ref aname, .ref anameSize, .ref atarget, .ref atargetSize, .ref abase, .ref abaseSize, .ref aextension, .ref aextensionSize, .ref aimage, .int 0, .ref atable, .ref asector, .ref asectors, .ref acontents, .int 0, .int 0, .int 0, .int 0, .ref aabove, .ref aisDirectory, .ref abytes, .ref aplace, .ref areadMode, .ref areadOwner, .ref areadGroup, .ref areadName, .ref areadNameSize, .ref areadTarget, .ref areadTargetSize, .ref adepth, .int 0, .int 0, .int 0, .int 0, .int 0, .int 0, .int 0]))] := hD
    refine lv_aload_n hx hb d_DiscMakerModel_name_35 rfl (lv_at hl 0 rfl) ?_
    refine va_get (D := D) (ci := 11) (v := .int 1) (C := "DiscMakerModel") (T := F_DiscMakerModel) (N := 48) hx hb ht9 in_DiscMakerModel hown hK hP 0 rfl rfl 0 (by decide) (ht9 _ k1431) (fun _ h9 => h9) rfl d_DiscMakerModel_name_36 ?_
    refine lv_iconst (v := 1) hx hb d_DiscMakerModel_name_39 (by decide) ?_
    refine lv_icmp_ne (tgt := 47) hx hb d_DiscMakerModel_name_40 (by decide) (fun h_40 => absurd (by decide) h_40) (fun h_40 => ?_)
    refine lv_iconst (v := 0) hx hb d_DiscMakerModel_name_43 (by decide) ?_
    refine lv_goto (tgt := 62) hx hb d_DiscMakerModel_name_44 (by decide) ?_
    have hP9 := hP.sub (ws' := [(h0, .inr (11, [.int 1, .ref atext, .int 0, .int 1, .ref akind, .ref aparent, .ref amode, .ref aowner, .ref agroup, .ref asize, .ref aseed, .ref aname, .ref anameSize, .ref atarget, .ref atargetSize, .ref abase, .ref abaseSize, .ref aextension, .ref aextensionSize, .ref aimage, .int 0, .ref atable, .ref asector, .ref asectors, .ref acontents, .int 0, .int 0, .int 0, .int 0, .ref aabove, .ref aisDirectory, .ref abytes, .ref aplace, .ref areadMode, .ref areadOwner, .ref areadGroup, .ref areadName, .ref areadNameSize, .ref areadTarget, .ref areadTargetSize, .ref adepth, .int 0, .int 0, .int 0, .int 0, .int 0, .int 0, .int 0]))]) [0] rfl
    have hD9 := hD.sub (ws' := [(h0, .inr (11, [.int 1, .ref atext, .int 0, .int 1, .ref akind, .ref aparent, .ref amode, .ref aowner, .ref agroup, .ref asize, .ref aseed, .ref aname, .ref anameSize, .ref atarget, .ref atargetSize, .ref abase, .ref abaseSize, .ref aextension, .ref aextensionSize, .ref aimage, .int 0, .ref atable, .ref asector, .ref asectors, .ref acontents, .int 0, .int 0, .int 0, .int 0, .ref aabove, .ref aisDirectory, .ref abytes, .ref aplace, .ref areadMode, .ref areadOwner, .ref areadGroup, .ref areadName, .ref areadNameSize, .ref areadTarget, .ref areadTargetSize, .ref adepth, .int 0, .int 0, .int 0, .int 0, .int 0, .int 0, .int 0]))]) [0] (by decide) rfl
    exact W.iret (v := 0) hx hb hr (fun t ht hW => ⟨⟨0, (), rfl, trivial, by rw [ht]; exact hP9, hD9⟩, hS.F ht⟩) hS.2.2 d_DiscMakerModel_name_62
  · skip
    refine lv_iload_n hx hb d_DiscMakerModel_name_5 rfl (lv_at hl 1 rfl) ?_
    refine lv_aload_n hx hb d_DiscMakerModel_name_6 rfl (lv_at hl 0 rfl) ?_
    refine va_get (D := D) (ci := 11) (v := .int 0) (C := "DiscMakerModel") (T := F_DiscMakerModel) (N := 48) hx hb ht9 in_DiscMakerModel hown hK hP 0 rfl rfl 28 (by decide) (ht9 _ k1459) (fun _ h9 => h9) rfl d_DiscMakerModel_name_7 ?_
    refine lv_icmp_ge (tgt := 31) hx hb d_DiscMakerModel_name_10 (by decide) (fun h_10 => ?_) (fun h_10 => absurd (z_ge0 h_2) h_10)
    refine lv_iconst (v := 1) hx hb d_DiscMakerModel_name_31 (by decide) ?_
    refine va_put (D := D) (ci := 11) (v := .int 1) (ty := .int) (C := "DiscMakerModel") (T := F_DiscMakerModel) (N := 48) hx hb ht9 in_DiscMakerModel t_DiscMakerModel t_DiscMakerModel_ok n_DiscMakerModel hown hK hP hD hS 0 rfl rfl 0 (by decide) (ht9 _ k1431) (fun _ h9 => h9) rfl (by decide +kernel) rfl rfl (Nat.le_of_ble_eq_true rfl) d_DiscMakerModel_name_32 (fun H locs hP hD hS => ?_)
    have hP : va_P D CL [(h0, .inr (11, [.int 1, .ref atext, .int 0, .int 1, .ref akind, .ref aparent, .ref amode, .ref aowner, .ref agroup, .ref asize, .ref aseed, .ref aname, .ref anameSize, .ref atarget, .ref atargetSize, .ref abase, .ref abaseSize, .ref aextension, .ref aextensionSize, .ref aimage, .int 0, .ref atable, .ref asector, .ref asectors, .ref acontents, .int 0, .int 0, .int 0, .int 0, .ref aabove, .ref aisDirectory, .ref abytes, .ref aplace, .ref areadMode, .ref areadOwner, .ref areadGroup, .ref areadName, .ref areadNameSize, .ref areadTarget, .ref areadTargetSize, .ref adepth, .int 0, .int 0, .int 0, .int 0, .int 0, .int 0, .int 0]))] H := hP
    have hD : va_D A [(h0, .inr (11, [.int 1, .ref atext, .int 0, .int 1, .ref akind, .ref aparent, .ref amode, .ref aowner, .ref agroup, .ref asize, .ref aseed, .ref aname, .ref anameSize, .ref atarget, .ref atargetSize, .ref abase, .ref abaseSize, .ref aextension, .ref aextensionSize, .ref aimage, .int 0, .ref atable, .ref asector, .ref asectors, .ref acontents, .int 0, .int 0, .int 0, .int 0, .ref aabove, .ref aisDirectory, .ref abytes, .ref aplace, .ref areadMode, .ref areadOwner, .ref areadGroup, .ref areadName, .ref areadNameSize, .ref areadTarget, .ref areadTargetSize, .ref adepth, .int 0, .int 0, .int 0, .int 0, .int 0, .int 0, .int 0]))] := hD
    refine lv_aload_n hx hb d_DiscMakerModel_name_35 rfl (lv_at hl 0 rfl) ?_
    refine va_get (D := D) (ci := 11) (v := .int 1) (C := "DiscMakerModel") (T := F_DiscMakerModel) (N := 48) hx hb ht9 in_DiscMakerModel hown hK hP 0 rfl rfl 0 (by decide) (ht9 _ k1431) (fun _ h9 => h9) rfl d_DiscMakerModel_name_36 ?_
    refine lv_iconst (v := 1) hx hb d_DiscMakerModel_name_39 (by decide) ?_
    refine lv_icmp_ne (tgt := 47) hx hb d_DiscMakerModel_name_40 (by decide) (fun h_40 => absurd (by decide) h_40) (fun h_40 => ?_)
    refine lv_iconst (v := 0) hx hb d_DiscMakerModel_name_43 (by decide) ?_
    refine lv_goto (tgt := 62) hx hb d_DiscMakerModel_name_44 (by decide) ?_
    have hP9 := hP.sub (ws' := [(h0, .inr (11, [.int 1, .ref atext, .int 0, .int 1, .ref akind, .ref aparent, .ref amode, .ref aowner, .ref agroup, .ref asize, .ref aseed, .ref aname, .ref anameSize, .ref atarget, .ref atargetSize, .ref abase, .ref abaseSize, .ref aextension, .ref aextensionSize, .ref aimage, .int 0, .ref atable, .ref asector, .ref asectors, .ref acontents, .int 0, .int 0, .int 0, .int 0, .ref aabove, .ref aisDirectory, .ref abytes, .ref aplace, .ref areadMode, .ref areadOwner, .ref areadGroup, .ref areadName, .ref areadNameSize, .ref areadTarget, .ref areadTargetSize, .ref adepth, .int 0, .int 0, .int 0, .int 0, .int 0, .int 0, .int 0]))]) [0] rfl
    have hD9 := hD.sub (ws' := [(h0, .inr (11, [.int 1, .ref atext, .int 0, .int 1, .ref akind, .ref aparent, .ref amode, .ref aowner, .ref agroup, .ref asize, .ref aseed, .ref aname, .ref anameSize, .ref atarget, .ref atargetSize, .ref abase, .ref abaseSize, .ref aextension, .ref aextensionSize, .ref aimage, .int 0, .ref atable, .ref asector, .ref asectors, .ref acontents, .int 0, .int 0, .int 0, .int 0, .ref aabove, .ref aisDirectory, .ref abytes, .ref aplace, .ref areadMode, .ref areadOwner, .ref areadGroup, .ref areadName, .ref areadNameSize, .ref areadTarget, .ref areadTargetSize, .ref adepth, .int 0, .int 0, .int 0, .int 0, .int 0, .int 0, .int 0]))]) [0] (by decide) rfl
    exact W.iret (v := 0) hx hb hr (fun t ht hW => ⟨⟨0, (), rfl, trivial, by rw [ht]; exact hP9, hD9⟩, hS.F ht⟩) hS.2.2 d_DiscMakerModel_name_62

theorem d_DiscMakerModel_target_0 : decode b_DiscMakerModel_target 0 = .ok (.aload_n 0, 1) := by decide +kernel
theorem d_DiscMakerModel_target_1 : decode b_DiscMakerModel_target 1 = .ok (.iload_n 1, 1) := by decide +kernel
theorem d_DiscMakerModel_target_2 : decode b_DiscMakerModel_target 2 = .ok (.ifCond .lt 29, 3) := by decide +kernel
theorem d_DiscMakerModel_target_5 : decode b_DiscMakerModel_target 5 = .ok (.iload_n 1, 1) := by decide +kernel
theorem d_DiscMakerModel_target_6 : decode b_DiscMakerModel_target 6 = .ok (.aload_n 0, 1) := by decide +kernel
theorem d_DiscMakerModel_target_7 : decode b_DiscMakerModel_target 7 = .ok (.getfield 323, 3) := by decide +kernel
theorem d_DiscMakerModel_target_10 : decode b_DiscMakerModel_target 10 = .ok (.if_icmp .ge 21, 3) := by decide +kernel
theorem d_DiscMakerModel_target_31 : decode b_DiscMakerModel_target 31 = .ok (.iconst 1, 1) := by decide +kernel
theorem d_DiscMakerModel_target_32 : decode b_DiscMakerModel_target 32 = .ok (.putfield 118, 3) := by decide +kernel
theorem d_DiscMakerModel_target_35 : decode b_DiscMakerModel_target 35 = .ok (.aload_n 0, 1) := by decide +kernel
theorem d_DiscMakerModel_target_36 : decode b_DiscMakerModel_target 36 = .ok (.getfield 118, 3) := by decide +kernel
theorem d_DiscMakerModel_target_39 : decode b_DiscMakerModel_target 39 = .ok (.iconst 1, 1) := by decide +kernel
theorem d_DiscMakerModel_target_40 : decode b_DiscMakerModel_target 40 = .ok (.if_icmp .ne 7, 3) := by decide +kernel
theorem d_DiscMakerModel_target_43 : decode b_DiscMakerModel_target 43 = .ok (.iconst 0, 1) := by decide +kernel
theorem d_DiscMakerModel_target_44 : decode b_DiscMakerModel_target 44 = .ok (.goto 19, 3) := by decide +kernel
theorem d_DiscMakerModel_target_63 : decode b_DiscMakerModel_target 63 = .ok (.ireturn, 1) := by decide +kernel
set_option maxHeartbeats 4000000 in
set_option maxRecDepth 100000 in
theorem c_m_target (l : Launch) (D : va_G) (cB cI cJ cZ cN cF : ClassId) (sz : Nat) (h0 atext akind aparent amode aowner agroup asize aseed aname anameSize atarget atargetSize abase abaseSize aextension aextensionSize aimage atable asector asectors acontents aabove aisDirectory abytes aplace areadMode areadOwner areadGroup areadName areadNameSize areadTarget areadTargetSize adepth : Nat) (n v : Int32) : Met l y_DiscMakerModel_target w_DiscMakerModel_target ({ frames := 0, cells := 0, slots := 0, locals := 0 }) (va_Pc [.ref h0, .int n, .int v] (fun U => U.heap.size = sz ∧ va_P D CL [(h0, .inr (11, [.int 0, .ref atext, .int 0, .int 1, .ref akind, .ref aparent, .ref amode, .ref aowner, .ref agroup, .ref asize, .ref aseed, .ref aname, .ref anameSize, .ref atarget, .ref atargetSize, .ref abase, .ref abaseSize, .ref aextension, .ref aextensionSize, .ref aimage, .int 0, .ref atable, .ref asector, .ref asectors, .ref acontents, .int 0, .int 0, .int 0, .int 0, .ref aabove, .ref aisDirectory, .ref abytes, .ref aplace, .ref areadMode, .ref areadOwner, .ref areadGroup, .ref areadName, .ref areadNameSize, .ref areadTarget, .ref areadTargetSize, .ref adepth, .int 0, .int 0, .int 0, .int 0, .int 0, .int 0, .int 0]))] U.heap ∧ va_K D CL (TY cB cI cJ cZ cN cF) U ∧ NN U ∧ va_D (fun _ => True) [(h0, .inr (11, [.int 0, .ref atext, .int 0, .int 1, .ref akind, .ref aparent, .ref amode, .ref aowner, .ref agroup, .ref asize, .ref aseed, .ref aname, .ref anameSize, .ref atarget, .ref atargetSize, .ref abase, .ref abaseSize, .ref aextension, .ref aextensionSize, .ref aimage, .int 0, .ref atable, .ref asector, .ref asectors, .ref acontents, .int 0, .int 0, .int 0, .int 0, .ref aabove, .ref aisDirectory, .ref abytes, .ref aplace, .ref areadMode, .ref areadOwner, .ref areadGroup, .ref areadName, .ref areadNameSize, .ref areadTarget, .ref areadTargetSize, .ref adepth, .int 0, .int 0, .int 0, .int 0, .int 0, .int 0, .int 0]))])) (va_Qi (fun (r : Int32) (u : Unit) => True) (fun (u : Unit) (t : State) => match u with | () => va_P D CL [(h0, .inr (11, [.int 1, .ref atext, .int 0, .int 1, .ref akind, .ref aparent, .ref amode, .ref aowner, .ref agroup, .ref asize, .ref aseed, .ref aname, .ref anameSize, .ref atarget, .ref atargetSize, .ref abase, .ref abaseSize, .ref aextension, .ref aextensionSize, .ref aimage, .int 0, .ref atable, .ref asector, .ref asectors, .ref acontents, .int 0, .int 0, .int 0, .int 0, .ref aabove, .ref aisDirectory, .ref abytes, .ref aplace, .ref areadMode, .ref areadOwner, .ref areadGroup, .ref areadName, .ref areadNameSize, .ref areadTarget, .ref areadTargetSize, .ref adepth, .int 0, .int 0, .int 0, .int 0, .int 0, .int 0, .int 0]))] t.heap ∧ va_D (va_A [(h0, .inr (11, [.int 0, .ref atext, .int 0, .int 1, .ref akind, .ref aparent, .ref amode, .ref aowner, .ref agroup, .ref asize, .ref aseed, .ref aname, .ref anameSize, .ref atarget, .ref atargetSize, .ref abase, .ref abaseSize, .ref aextension, .ref aextensionSize, .ref aimage, .int 0, .ref atable, .ref asector, .ref asectors, .ref acontents, .int 0, .int 0, .int 0, .int 0, .ref aabove, .ref aisDirectory, .ref abytes, .ref aplace, .ref areadMode, .ref areadOwner, .ref areadGroup, .ref areadName, .ref areadNameSize, .ref areadTarget, .ref areadTargetSize, .ref adepth, .int 0, .int 0, .int 0, .int 0, .int 0, .int 0, .int 0]))] sz) [(h0, .inr (11, [.int 1, .ref atext, .int 0, .int 1, .ref akind, .ref aparent, .ref amode, .ref aowner, .ref agroup, .ref asize, .ref aseed, .ref aname, .ref anameSize, .ref atarget, .ref atargetSize, .ref abase, .ref abaseSize, .ref aextension, .ref aextensionSize, .ref aimage, .int 0, .ref atable, .ref asector, .ref asectors, .ref acontents, .int 0, .int 0, .int 0, .int 0, .ref aabove, .ref aisDirectory, .ref abytes, .ref aplace, .ref areadMode, .ref areadOwner, .ref areadGroup, .ref areadName, .ref areadNameSize, .ref areadTarget, .ref areadTargetSize, .ref adepth, .int 0, .int 0, .int 0, .int 0, .int 0, .int 0, .int 0]))]) (va_A [(h0, .inr (11, [.int 0, .ref atext, .int 0, .int 1, .ref akind, .ref aparent, .ref amode, .ref aowner, .ref agroup, .ref asize, .ref aseed, .ref aname, .ref anameSize, .ref atarget, .ref atargetSize, .ref abase, .ref abaseSize, .ref aextension, .ref aextensionSize, .ref aimage, .int 0, .ref atable, .ref asector, .ref asectors, .ref acontents, .int 0, .int 0, .int 0, .int 0, .ref aabove, .ref aisDirectory, .ref abytes, .ref aplace, .ref areadMode, .ref areadOwner, .ref areadGroup, .ref areadName, .ref areadNameSize, .ref areadTarget, .ref areadTargetSize, .ref adepth, .int 0, .int 0, .int 0, .int 0, .int 0, .int 0, .int 0]))] sz)) 0 0 (va_A [(h0, .inr (11, [.int 0, .ref atext, .int 0, .int 1, .ref akind, .ref aparent, .ref amode, .ref aowner, .ref agroup, .ref asize, .ref aseed, .ref aname, .ref anameSize, .ref atarget, .ref atargetSize, .ref abase, .ref abaseSize, .ref aextension, .ref aextensionSize, .ref aimage, .int 0, .ref atable, .ref asector, .ref asectors, .ref acontents, .int 0, .int 0, .int 0, .int 0, .ref aabove, .ref aisDirectory, .ref abytes, .ref aplace, .ref areadMode, .ref areadOwner, .ref areadGroup, .ref areadName, .ref areadNameSize, .ref areadTarget, .ref areadTargetSize, .ref adepth, .int 0, .int 0, .int 0, .int 0, .int 0, .int 0, .int 0]))] sz) := by
  refine Met.ofW (cc := b_DiscMakerModel_target) (maxL := 3) (ret := some .int) (by decide) rfl ?_
  intro p e s m args below meth c s₁ B hml hv
  obtain ⟨rfl, hsz, hP, hK, hN, hD0⟩ := hv
  have hx := B.exec
  have hb := B.bytes
  have hr := B.returns
  have hts := atoms_spec (ws := w_DiscMakerModel_target) B.pre
  have ht9 := fun (w : Cond) (h : w ∈ lw_g) => hts w (List.mem_cons_of_mem _ h)
  have hown : s.vm.findClass "DiscMakerModel" = some m.cls := findClass_of_methodNamed B.named
  have hlocks := B.notSynchronized
  subst hsz
  have hD := hD0.self (sz := s.heap.size)
  generalize hAe : va_A [(h0, .inr (11, [.int 0, .ref atext, .int 0, .int 1, .ref akind, .ref aparent, .ref amode, .ref aowner, .ref agroup, .ref asize, .ref aseed, .ref aname, .ref anameSize, .ref atarget, .ref atargetSize, .ref abase, .ref abaseSize, .ref aextension, .ref aextensionSize, .ref aimage, .int 0, .ref atable, .ref asector, .ref asectors, .ref acontents, .int 0, .int 0, .int 0, .int 0, .ref aabove, .ref aisDirectory, .ref abytes, .ref aplace, .ref areadMode, .ref areadOwner, .ref areadGroup, .ref areadName, .ref areadNameSize, .ref areadTarget, .ref areadTargetSize, .ref adepth, .int 0, .int 0, .int 0, .int 0, .int 0, .int 0, .int 0]))] s.heap.size = A at hD ⊢
  have hA : ∀ q : Nat, s.heap.size ≤ q → A q := fun q h => by rw [← hAe]; exact Or.inr h
  have hS : va_S A s.heap s.heap [] := va_S.rf
  have hP : va_P D CL [(h0, .inr (11, [.int 0, .ref atext, .int 0, .int 1, .ref akind, .ref aparent, .ref amode, .ref aowner, .ref agroup, .ref asize, .ref aseed, .ref aname, .ref anameSize, .ref atarget, .ref atargetSize, .ref abase, .ref abaseSize, .ref aextension, .ref aextensionSize, .ref aimage, .int 0, .ref atable, .ref asector, .ref asectors, .ref acontents, .int 0, .int 0, .int 0, .int 0, .ref aabove, .ref aisDirectory, .ref abytes, .ref aplace, .ref areadMode, .ref areadOwner, .ref areadGroup, .ref areadName, .ref areadNameSize, .ref areadTarget, .ref areadTargetSize, .ref adepth, .int 0, .int 0, .int 0, .int 0, .int 0, .int 0, .int 0]))] s.heap := hP
  have hl := lv_entry [.ref h0, .int n, .int v] (n := 3) (Nat.le_of_ble_eq_true rfl)
  rw [lg_entry_eq]
  generalize (lg_sl [.ref h0, .int n, .int v] ++ List.replicate (3 - (lg_sl [.ref h0, .int n, .int v]).length) Slot.unset).toArray = ls at hl ⊢
  have hl : lv_has ls 3 [(0, .ref h0), (1, .int n), (2, .int v)] := hl
  refine lv_aload_n hx hb d_DiscMakerModel_target_0 rfl (lv_at hl 0 rfl) ?_
  refine lv_iload_n hx hb d_DiscMakerModel_target_1 rfl (lv_at hl 1 rfl) ?_
  refine lv_if_lt (tgt := 31) hx hb d_DiscMakerModel_target_2 (by decide) (fun h_2 => ?_) (fun h_2 => ?_)
  · skip
    refine lv_iconst (v := 1) hx hb d_DiscMakerModel_target_31 (by decide) ?_
    refine va_put (D := D) (ci := 11) (v := .int 1) (ty := .int) (C := "DiscMakerModel") (T := F_DiscMakerModel) (N := 48) hx hb ht9 in_DiscMakerModel t_DiscMakerModel t_DiscMakerModel_ok n_DiscMakerModel hown hK hP hD hS 0 rfl rfl 0 (by decide) (ht9 _ k1431) (fun _ h9 => h9) rfl (by decide +kernel) rfl rfl (Nat.le_of_ble_eq_true rfl) d_DiscMakerModel_target_32 (fun H locs hP hD hS => ?_)
    have hP : va_P D CL [(h0, .inr (11, [.int 1, .ref atext, .int 0, .int 1, .ref akind, .ref aparent, .ref amode, .ref aowner, .ref agroup, .ref asize, .ref aseed, .ref aname, .ref anameSize, .ref atarget, .ref atargetSize, .ref abase, .ref abaseSize, .ref aextension, .ref aextensionSize, .ref aimage, .int 0, .ref atable, .ref asector, .ref asectors, .ref acontents, .int 0, .int 0, .int 0, .int 0, .ref aabove, .ref aisDirectory, .ref abytes, .ref aplace, .ref areadMode, .ref areadOwner, .ref areadGroup, .ref areadName, .ref areadNameSize, .ref areadTarget, .ref areadTargetSize, .ref adepth, .int 0, .int 0, .int 0, .int 0, .int 0, .int 0, .int 0]))] H := hP
    have hD : va_D A [(h0, .inr (11, [.int 1, .ref atext, .int 0, .int 1, .ref akind, .ref aparent, .ref amode, .ref aowner, .ref agroup, .ref asize, .ref aseed, .ref aname, .ref anameSize, .ref atarget, .ref atargetSize, .ref abase, .ref abaseSize, .ref aextension, .ref aextensionSize, .ref aimage, .int 0, .ref atable, .ref asector, .ref asectors, .ref acontents, .int 0, .int 0, .int 0, .int 0, .ref aabove, .ref aisDirectory, .ref abytes, .ref aplace, .ref areadMode, .ref areadOwner, .ref areadGroup, .ref areadName, .ref areadNameSize, .ref areadTarget, .ref areadTargetSize, .ref adepth, .int 0, .int 0, .int 0, .int 0, .int 0, .int 0, .int 0]))] := hD
    refine lv_aload_n hx hb d_DiscMakerModel_target_35 rfl (lv_at hl 0 rfl) ?_
    refine va_get (D := D) (ci := 11) (v := .int 1) (C := "DiscMakerModel") (T := F_DiscMakerModel) (N := 48) hx hb ht9 in_DiscMakerModel hown hK hP 0 rfl rfl 0 (by decide) (ht9 _ k1431) (fun _ h9 => h9) rfl d_DiscMakerModel_target_36 ?_
    refine lv_iconst (v := 1) hx hb d_DiscMakerModel_target_39 (by decide) ?_
    refine lv_icmp_ne (tgt := 47) hx hb d_DiscMakerModel_target_40 (by decide) (fun h_40 => absurd (by decide) h_40) (fun h_40 => ?_)
    refine lv_iconst (v := 0) hx hb d_DiscMakerModel_target_43 (by decide) ?_
    refine lv_goto (tgt := 63) hx hb d_DiscMakerModel_target_44 (by decide) ?_
    have hP9 := hP.sub (ws' := [(h0, .inr (11, [.int 1, .ref atext, .int 0, .int 1, .ref akind, .ref aparent, .ref amode, .ref aowner, .ref agroup, .ref asize, .ref aseed, .ref aname, .ref anameSize, .ref atarget, .ref atargetSize, .ref abase, .ref abaseSize, .ref aextension, .ref aextensionSize, .ref aimage, .int 0, .ref atable, .ref asector, .ref asectors, .ref acontents, .int 0, .int 0, .int 0, .int 0, .ref aabove, .ref aisDirectory, .ref abytes, .ref aplace, .ref areadMode, .ref areadOwner, .ref areadGroup, .ref areadName, .ref areadNameSize, .ref areadTarget, .ref areadTargetSize, .ref adepth, .int 0, .int 0, .int 0, .int 0, .int 0, .int 0, .int 0]))]) [0] rfl
    have hD9 := hD.sub (ws' := [(h0, .inr (11, [.int 1, .ref atext, .int 0, .int 1, .ref akind, .ref aparent, .ref amode, .ref aowner, .ref agroup, .ref asize, .ref aseed, .ref aname, .ref anameSize, .ref atarget, .ref atargetSize, .ref abase, .ref abaseSize, .ref aextension, .ref aextensionSize, .ref aimage, .int 0, .ref atable, .ref asector, .ref asectors, .ref acontents, .int 0, .int 0, .int 0, .int 0, .ref aabove, .ref aisDirectory, .ref abytes, .ref aplace, .ref areadMode, .ref areadOwner, .ref areadGroup, .ref areadName, .ref areadNameSize, .ref areadTarget, .ref areadTargetSize, .ref adepth, .int 0, .int 0, .int 0, .int 0, .int 0, .int 0, .int 0]))]) [0] (by decide) rfl
    exact W.iret (v := 0) hx hb hr (fun t ht hW => ⟨⟨0, (), rfl, trivial, by rw [ht]; exact hP9, hD9⟩, hS.F ht⟩) hS.2.2 d_DiscMakerModel_target_63
  · skip
    refine lv_iload_n hx hb d_DiscMakerModel_target_5 rfl (lv_at hl 1 rfl) ?_
    refine lv_aload_n hx hb d_DiscMakerModel_target_6 rfl (lv_at hl 0 rfl) ?_
    refine va_get (D := D) (ci := 11) (v := .int 0) (C := "DiscMakerModel") (T := F_DiscMakerModel) (N := 48) hx hb ht9 in_DiscMakerModel hown hK hP 0 rfl rfl 28 (by decide) (ht9 _ k1459) (fun _ h9 => h9) rfl d_DiscMakerModel_target_7 ?_
    refine lv_icmp_ge (tgt := 31) hx hb d_DiscMakerModel_target_10 (by decide) (fun h_10 => ?_) (fun h_10 => absurd (z_ge0 h_2) h_10)
    refine lv_iconst (v := 1) hx hb d_DiscMakerModel_target_31 (by decide) ?_
    refine va_put (D := D) (ci := 11) (v := .int 1) (ty := .int) (C := "DiscMakerModel") (T := F_DiscMakerModel) (N := 48) hx hb ht9 in_DiscMakerModel t_DiscMakerModel t_DiscMakerModel_ok n_DiscMakerModel hown hK hP hD hS 0 rfl rfl 0 (by decide) (ht9 _ k1431) (fun _ h9 => h9) rfl (by decide +kernel) rfl rfl (Nat.le_of_ble_eq_true rfl) d_DiscMakerModel_target_32 (fun H locs hP hD hS => ?_)
    have hP : va_P D CL [(h0, .inr (11, [.int 1, .ref atext, .int 0, .int 1, .ref akind, .ref aparent, .ref amode, .ref aowner, .ref agroup, .ref asize, .ref aseed, .ref aname, .ref anameSize, .ref atarget, .ref atargetSize, .ref abase, .ref abaseSize, .ref aextension, .ref aextensionSize, .ref aimage, .int 0, .ref atable, .ref asector, .ref asectors, .ref acontents, .int 0, .int 0, .int 0, .int 0, .ref aabove, .ref aisDirectory, .ref abytes, .ref aplace, .ref areadMode, .ref areadOwner, .ref areadGroup, .ref areadName, .ref areadNameSize, .ref areadTarget, .ref areadTargetSize, .ref adepth, .int 0, .int 0, .int 0, .int 0, .int 0, .int 0, .int 0]))] H := hP
    have hD : va_D A [(h0, .inr (11, [.int 1, .ref atext, .int 0, .int 1, .ref akind, .ref aparent, .ref amode, .ref aowner, .ref agroup, .ref asize, .ref aseed, .ref aname, .ref anameSize, .ref atarget, .ref atargetSize, .ref abase, .ref abaseSize, .ref aextension, .ref aextensionSize, .ref aimage, .int 0, .ref atable, .ref asector, .ref asectors, .ref acontents, .int 0, .int 0, .int 0, .int 0, .ref aabove, .ref aisDirectory, .ref abytes, .ref aplace, .ref areadMode, .ref areadOwner, .ref areadGroup, .ref areadName, .ref areadNameSize, .ref areadTarget, .ref areadTargetSize, .ref adepth, .int 0, .int 0, .int 0, .int 0, .int 0, .int 0, .int 0]))] := hD
    refine lv_aload_n hx hb d_DiscMakerModel_target_35 rfl (lv_at hl 0 rfl) ?_
    refine va_get (D := D) (ci := 11) (v := .int 1) (C := "DiscMakerModel") (T := F_DiscMakerModel) (N := 48) hx hb ht9 in_DiscMakerModel hown hK hP 0 rfl rfl 0 (by decide) (ht9 _ k1431) (fun _ h9 => h9) rfl d_DiscMakerModel_target_36 ?_
    refine lv_iconst (v := 1) hx hb d_DiscMakerModel_target_39 (by decide) ?_
    refine lv_icmp_ne (tgt := 47) hx hb d_DiscMakerModel_target_40 (by decide) (fun h_40 => absurd (by decide) h_40) (fun h_40 => ?_)
    refine lv_iconst (v := 0) hx hb d_DiscMakerModel_target_43 (by decide) ?_
    refine lv_goto (tgt := 63) hx hb d_DiscMakerModel_target_44 (by decide) ?_
    have hP9 := hP.sub (ws' := [(h0, .inr (11, [.int 1, .ref atext, .int 0, .int 1, .ref akind, .ref aparent, .ref amode, .ref aowner, .ref agroup, .ref asize, .ref aseed, .ref aname, .ref anameSize, .ref atarget, .ref atargetSize, .ref abase, .ref abaseSize, .ref aextension, .ref aextensionSize, .ref aimage, .int 0, .ref atable, .ref asector, .ref asectors, .ref acontents, .int 0, .int 0, .int 0, .int 0, .ref aabove, .ref aisDirectory, .ref abytes, .ref aplace, .ref areadMode, .ref areadOwner, .ref areadGroup, .ref areadName, .ref areadNameSize, .ref areadTarget, .ref areadTargetSize, .ref adepth, .int 0, .int 0, .int 0, .int 0, .int 0, .int 0, .int 0]))]) [0] rfl
    have hD9 := hD.sub (ws' := [(h0, .inr (11, [.int 1, .ref atext, .int 0, .int 1, .ref akind, .ref aparent, .ref amode, .ref aowner, .ref agroup, .ref asize, .ref aseed, .ref aname, .ref anameSize, .ref atarget, .ref atargetSize, .ref abase, .ref abaseSize, .ref aextension, .ref aextensionSize, .ref aimage, .int 0, .ref atable, .ref asector, .ref asectors, .ref acontents, .int 0, .int 0, .int 0, .int 0, .ref aabove, .ref aisDirectory, .ref abytes, .ref aplace, .ref areadMode, .ref areadOwner, .ref areadGroup, .ref areadName, .ref areadNameSize, .ref areadTarget, .ref areadTargetSize, .ref adepth, .int 0, .int 0, .int 0, .int 0, .int 0, .int 0, .int 0]))]) [0] (by decide) rfl
    exact W.iret (v := 0) hx hb hr (fun t ht hW => ⟨⟨0, (), rfl, trivial, by rw [ht]; exact hP9, hD9⟩, hS.F ht⟩) hS.2.2 d_DiscMakerModel_target_63

theorem d_DiscMakerModel_read_0 : decode b_DiscMakerModel_read 0 = .ok (.aload_n 0, 1) := by decide +kernel
theorem d_DiscMakerModel_read_1 : decode b_DiscMakerModel_read 1 = .ok (.iload_n 1, 1) := by decide +kernel
theorem d_DiscMakerModel_read_2 : decode b_DiscMakerModel_read 2 = .ok (.ifCond .lt 38, 3) := by decide +kernel
theorem d_DiscMakerModel_read_5 : decode b_DiscMakerModel_read 5 = .ok (.iload_n 1, 1) := by decide +kernel
theorem d_DiscMakerModel_read_6 : decode b_DiscMakerModel_read 6 = .ok (.aload_n 0, 1) := by decide +kernel
theorem d_DiscMakerModel_read_7 : decode b_DiscMakerModel_read 7 = .ok (.getfield 323, 3) := by decide +kernel
theorem d_DiscMakerModel_read_10 : decode b_DiscMakerModel_read 10 = .ok (.if_icmp .ge 30, 3) := by decide +kernel
theorem d_DiscMakerModel_read_40 : decode b_DiscMakerModel_read 40 = .ok (.iconst 1, 1) := by decide +kernel
theorem d_DiscMakerModel_read_41 : decode b_DiscMakerModel_read 41 = .ok (.putfield 118, 3) := by decide +kernel
theorem d_DiscMakerModel_read_44 : decode b_DiscMakerModel_read 44 = .ok (.aload_n 0, 1) := by decide +kernel
theorem d_DiscMakerModel_read_45 : decode b_DiscMakerModel_read 45 = .ok (.getfield 118, 3) := by decide +kernel
theorem d_DiscMakerModel_read_48 : decode b_DiscMakerModel_read 48 = .ok (.iconst 1, 1) := by decide +kernel
theorem d_DiscMakerModel_read_49 : decode b_DiscMakerModel_read 49 = .ok (.if_icmp .ne 5, 3) := by decide +kernel
theorem d_DiscMakerModel_read_52 : decode b_DiscMakerModel_read 52 = .ok (.iconst 0, 1) := by decide +kernel
theorem d_DiscMakerModel_read_53 : decode b_DiscMakerModel_read 53 = .ok (.ireturn, 1) := by decide +kernel
set_option maxHeartbeats 4000000 in
set_option maxRecDepth 100000 in
theorem c_m_read (l : Launch) (D : va_G) (cB cI cJ cZ cN cF : ClassId) (sz : Nat) (h0 atext akind aparent amode aowner agroup asize aseed aname anameSize atarget atargetSize abase abaseSize aextension aextensionSize aimage atable asector asectors acontents aabove aisDirectory abytes aplace areadMode areadOwner areadGroup areadName areadNameSize areadTarget areadTargetSize adepth : Nat) (n v : Int32) : Met l y_DiscMakerModel_read w_DiscMakerModel_read ({ frames := 0, cells := 0, slots := 0, locals := 0 }) (va_Pc [.ref h0, .int n, .int v] (fun U => U.heap.size = sz ∧ va_P D CL [(h0, .inr (11, [.int 0, .ref atext, .int 0, .int 1, .ref akind, .ref aparent, .ref amode, .ref aowner, .ref agroup, .ref asize, .ref aseed, .ref aname, .ref anameSize, .ref atarget, .ref atargetSize, .ref abase, .ref abaseSize, .ref aextension, .ref aextensionSize, .ref aimage, .int 0, .ref atable, .ref asector, .ref asectors, .ref acontents, .int 0, .int 0, .int 0, .int 0, .ref aabove, .ref aisDirectory, .ref abytes, .ref aplace, .ref areadMode, .ref areadOwner, .ref areadGroup, .ref areadName, .ref areadNameSize, .ref areadTarget, .ref areadTargetSize, .ref adepth, .int 0, .int 0, .int 0, .int 0, .int 0, .int 0, .int 0]))] U.heap ∧ va_K D CL (TY cB cI cJ cZ cN cF) U ∧ NN U ∧ va_D (fun _ => True) [(h0, .inr (11, [.int 0, .ref atext, .int 0, .int 1, .ref akind, .ref aparent, .ref amode, .ref aowner, .ref agroup, .ref asize, .ref aseed, .ref aname, .ref anameSize, .ref atarget, .ref atargetSize, .ref abase, .ref abaseSize, .ref aextension, .ref aextensionSize, .ref aimage, .int 0, .ref atable, .ref asector, .ref asectors, .ref acontents, .int 0, .int 0, .int 0, .int 0, .ref aabove, .ref aisDirectory, .ref abytes, .ref aplace, .ref areadMode, .ref areadOwner, .ref areadGroup, .ref areadName, .ref areadNameSize, .ref areadTarget, .ref areadTargetSize, .ref adepth, .int 0, .int 0, .int 0, .int 0, .int 0, .int 0, .int 0]))])) (va_Qi (fun (r : Int32) (u : Unit) => True) (fun (u : Unit) (t : State) => match u with | () => va_P D CL [(h0, .inr (11, [.int 1, .ref atext, .int 0, .int 1, .ref akind, .ref aparent, .ref amode, .ref aowner, .ref agroup, .ref asize, .ref aseed, .ref aname, .ref anameSize, .ref atarget, .ref atargetSize, .ref abase, .ref abaseSize, .ref aextension, .ref aextensionSize, .ref aimage, .int 0, .ref atable, .ref asector, .ref asectors, .ref acontents, .int 0, .int 0, .int 0, .int 0, .ref aabove, .ref aisDirectory, .ref abytes, .ref aplace, .ref areadMode, .ref areadOwner, .ref areadGroup, .ref areadName, .ref areadNameSize, .ref areadTarget, .ref areadTargetSize, .ref adepth, .int 0, .int 0, .int 0, .int 0, .int 0, .int 0, .int 0]))] t.heap ∧ va_D (va_A [(h0, .inr (11, [.int 0, .ref atext, .int 0, .int 1, .ref akind, .ref aparent, .ref amode, .ref aowner, .ref agroup, .ref asize, .ref aseed, .ref aname, .ref anameSize, .ref atarget, .ref atargetSize, .ref abase, .ref abaseSize, .ref aextension, .ref aextensionSize, .ref aimage, .int 0, .ref atable, .ref asector, .ref asectors, .ref acontents, .int 0, .int 0, .int 0, .int 0, .ref aabove, .ref aisDirectory, .ref abytes, .ref aplace, .ref areadMode, .ref areadOwner, .ref areadGroup, .ref areadName, .ref areadNameSize, .ref areadTarget, .ref areadTargetSize, .ref adepth, .int 0, .int 0, .int 0, .int 0, .int 0, .int 0, .int 0]))] sz) [(h0, .inr (11, [.int 1, .ref atext, .int 0, .int 1, .ref akind, .ref aparent, .ref amode, .ref aowner, .ref agroup, .ref asize, .ref aseed, .ref aname, .ref anameSize, .ref atarget, .ref atargetSize, .ref abase, .ref abaseSize, .ref aextension, .ref aextensionSize, .ref aimage, .int 0, .ref atable, .ref asector, .ref asectors, .ref acontents, .int 0, .int 0, .int 0, .int 0, .ref aabove, .ref aisDirectory, .ref abytes, .ref aplace, .ref areadMode, .ref areadOwner, .ref areadGroup, .ref areadName, .ref areadNameSize, .ref areadTarget, .ref areadTargetSize, .ref adepth, .int 0, .int 0, .int 0, .int 0, .int 0, .int 0, .int 0]))]) (va_A [(h0, .inr (11, [.int 0, .ref atext, .int 0, .int 1, .ref akind, .ref aparent, .ref amode, .ref aowner, .ref agroup, .ref asize, .ref aseed, .ref aname, .ref anameSize, .ref atarget, .ref atargetSize, .ref abase, .ref abaseSize, .ref aextension, .ref aextensionSize, .ref aimage, .int 0, .ref atable, .ref asector, .ref asectors, .ref acontents, .int 0, .int 0, .int 0, .int 0, .ref aabove, .ref aisDirectory, .ref abytes, .ref aplace, .ref areadMode, .ref areadOwner, .ref areadGroup, .ref areadName, .ref areadNameSize, .ref areadTarget, .ref areadTargetSize, .ref adepth, .int 0, .int 0, .int 0, .int 0, .int 0, .int 0, .int 0]))] sz)) 0 0 (va_A [(h0, .inr (11, [.int 0, .ref atext, .int 0, .int 1, .ref akind, .ref aparent, .ref amode, .ref aowner, .ref agroup, .ref asize, .ref aseed, .ref aname, .ref anameSize, .ref atarget, .ref atargetSize, .ref abase, .ref abaseSize, .ref aextension, .ref aextensionSize, .ref aimage, .int 0, .ref atable, .ref asector, .ref asectors, .ref acontents, .int 0, .int 0, .int 0, .int 0, .ref aabove, .ref aisDirectory, .ref abytes, .ref aplace, .ref areadMode, .ref areadOwner, .ref areadGroup, .ref areadName, .ref areadNameSize, .ref areadTarget, .ref areadTargetSize, .ref adepth, .int 0, .int 0, .int 0, .int 0, .int 0, .int 0, .int 0]))] sz) := by
  refine Met.ofW (cc := b_DiscMakerModel_read) (maxL := 5) (ret := some .int) (by decide) rfl ?_
  intro p e s m args below meth c s₁ B hml hv
  obtain ⟨rfl, hsz, hP, hK, hN, hD0⟩ := hv
  have hx := B.exec
  have hb := B.bytes
  have hr := B.returns
  have hts := atoms_spec (ws := w_DiscMakerModel_read) B.pre
  have ht9 := fun (w : Cond) (h : w ∈ lw_g) => hts w (List.mem_cons_of_mem _ h)
  have hown : s.vm.findClass "DiscMakerModel" = some m.cls := findClass_of_methodNamed B.named
  have hlocks := B.notSynchronized
  subst hsz
  have hD := hD0.self (sz := s.heap.size)
  generalize hAe : va_A [(h0, .inr (11, [.int 0, .ref atext, .int 0, .int 1, .ref akind, .ref aparent, .ref amode, .ref aowner, .ref agroup, .ref asize, .ref aseed, .ref aname, .ref anameSize, .ref atarget, .ref atargetSize, .ref abase, .ref abaseSize, .ref aextension, .ref aextensionSize, .ref aimage, .int 0, .ref atable, .ref asector, .ref asectors, .ref acontents, .int 0, .int 0, .int 0, .int 0, .ref aabove, .ref aisDirectory, .ref abytes, .ref aplace, .ref areadMode, .ref areadOwner, .ref areadGroup, .ref areadName, .ref areadNameSize, .ref areadTarget, .ref areadTargetSize, .ref adepth, .int 0, .int 0, .int 0, .int 0, .int 0, .int 0, .int 0]))] s.heap.size = A at hD ⊢
  have hA : ∀ q : Nat, s.heap.size ≤ q → A q := fun q h => by rw [← hAe]; exact Or.inr h
  have hS : va_S A s.heap s.heap [] := va_S.rf
  have hP : va_P D CL [(h0, .inr (11, [.int 0, .ref atext, .int 0, .int 1, .ref akind, .ref aparent, .ref amode, .ref aowner, .ref agroup, .ref asize, .ref aseed, .ref aname, .ref anameSize, .ref atarget, .ref atargetSize, .ref abase, .ref abaseSize, .ref aextension, .ref aextensionSize, .ref aimage, .int 0, .ref atable, .ref asector, .ref asectors, .ref acontents, .int 0, .int 0, .int 0, .int 0, .ref aabove, .ref aisDirectory, .ref abytes, .ref aplace, .ref areadMode, .ref areadOwner, .ref areadGroup, .ref areadName, .ref areadNameSize, .ref areadTarget, .ref areadTargetSize, .ref adepth, .int 0, .int 0, .int 0, .int 0, .int 0, .int 0, .int 0]))] s.heap := hP
  have hl := lv_entry [.ref h0, .int n, .int v] (n := 5) (Nat.le_of_ble_eq_true rfl)
  rw [lg_entry_eq]
  generalize (lg_sl [.ref h0, .int n, .int v] ++ List.replicate (5 - (lg_sl [.ref h0, .int n, .int v]).length) Slot.unset).toArray = ls at hl ⊢
  have hl : lv_has ls 5 [(0, .ref h0), (1, .int n), (2, .int v)] := hl
  refine lv_aload_n hx hb d_DiscMakerModel_read_0 rfl (lv_at hl 0 rfl) ?_
  refine lv_iload_n hx hb d_DiscMakerModel_read_1 rfl (lv_at hl 1 rfl) ?_
  refine lv_if_lt (tgt := 40) hx hb d_DiscMakerModel_read_2 (by decide) (fun h_2 => ?_) (fun h_2 => ?_)
  · skip
    refine lv_iconst (v := 1) hx hb d_DiscMakerModel_read_40 (by decide) ?_
    refine va_put (D := D) (ci := 11) (v := .int 1) (ty := .int) (C := "DiscMakerModel") (T := F_DiscMakerModel) (N := 48) hx hb ht9 in_DiscMakerModel t_DiscMakerModel t_DiscMakerModel_ok n_DiscMakerModel hown hK hP hD hS 0 rfl rfl 0 (by decide) (ht9 _ k1431) (fun _ h9 => h9) rfl (by decide +kernel) rfl rfl (Nat.le_of_ble_eq_true rfl) d_DiscMakerModel_read_41 (fun H locs hP hD hS => ?_)
    have hP : va_P D CL [(h0, .inr (11, [.int 1, .ref atext, .int 0, .int 1, .ref akind, .ref aparent, .ref amode, .ref aowner, .ref agroup, .ref asize, .ref aseed, .ref aname, .ref anameSize, .ref atarget, .ref atargetSize, .ref abase, .ref abaseSize, .ref aextension, .ref aextensionSize, .ref aimage, .int 0, .ref atable, .ref asector, .ref asectors, .ref acontents, .int 0, .int 0, .int 0, .int 0, .ref aabove, .ref aisDirectory, .ref abytes, .ref aplace, .ref areadMode, .ref areadOwner, .ref areadGroup, .ref areadName, .ref areadNameSize, .ref areadTarget, .ref areadTargetSize, .ref adepth, .int 0, .int 0, .int 0, .int 0, .int 0, .int 0, .int 0]))] H := hP
    have hD : va_D A [(h0, .inr (11, [.int 1, .ref atext, .int 0, .int 1, .ref akind, .ref aparent, .ref amode, .ref aowner, .ref agroup, .ref asize, .ref aseed, .ref aname, .ref anameSize, .ref atarget, .ref atargetSize, .ref abase, .ref abaseSize, .ref aextension, .ref aextensionSize, .ref aimage, .int 0, .ref atable, .ref asector, .ref asectors, .ref acontents, .int 0, .int 0, .int 0, .int 0, .ref aabove, .ref aisDirectory, .ref abytes, .ref aplace, .ref areadMode, .ref areadOwner, .ref areadGroup, .ref areadName, .ref areadNameSize, .ref areadTarget, .ref areadTargetSize, .ref adepth, .int 0, .int 0, .int 0, .int 0, .int 0, .int 0, .int 0]))] := hD
    refine lv_aload_n hx hb d_DiscMakerModel_read_44 rfl (lv_at hl 0 rfl) ?_
    refine va_get (D := D) (ci := 11) (v := .int 1) (C := "DiscMakerModel") (T := F_DiscMakerModel) (N := 48) hx hb ht9 in_DiscMakerModel hown hK hP 0 rfl rfl 0 (by decide) (ht9 _ k1431) (fun _ h9 => h9) rfl d_DiscMakerModel_read_45 ?_
    refine lv_iconst (v := 1) hx hb d_DiscMakerModel_read_48 (by decide) ?_
    refine lv_icmp_ne (tgt := 54) hx hb d_DiscMakerModel_read_49 (by decide) (fun h_49 => absurd (by decide) h_49) (fun h_49 => ?_)
    refine lv_iconst (v := 0) hx hb d_DiscMakerModel_read_52 (by decide) ?_
    have hP9 := hP.sub (ws' := [(h0, .inr (11, [.int 1, .ref atext, .int 0, .int 1, .ref akind, .ref aparent, .ref amode, .ref aowner, .ref agroup, .ref asize, .ref aseed, .ref aname, .ref anameSize, .ref atarget, .ref atargetSize, .ref abase, .ref abaseSize, .ref aextension, .ref aextensionSize, .ref aimage, .int 0, .ref atable, .ref asector, .ref asectors, .ref acontents, .int 0, .int 0, .int 0, .int 0, .ref aabove, .ref aisDirectory, .ref abytes, .ref aplace, .ref areadMode, .ref areadOwner, .ref areadGroup, .ref areadName, .ref areadNameSize, .ref areadTarget, .ref areadTargetSize, .ref adepth, .int 0, .int 0, .int 0, .int 0, .int 0, .int 0, .int 0]))]) [0] rfl
    have hD9 := hD.sub (ws' := [(h0, .inr (11, [.int 1, .ref atext, .int 0, .int 1, .ref akind, .ref aparent, .ref amode, .ref aowner, .ref agroup, .ref asize, .ref aseed, .ref aname, .ref anameSize, .ref atarget, .ref atargetSize, .ref abase, .ref abaseSize, .ref aextension, .ref aextensionSize, .ref aimage, .int 0, .ref atable, .ref asector, .ref asectors, .ref acontents, .int 0, .int 0, .int 0, .int 0, .ref aabove, .ref aisDirectory, .ref abytes, .ref aplace, .ref areadMode, .ref areadOwner, .ref areadGroup, .ref areadName, .ref areadNameSize, .ref areadTarget, .ref areadTargetSize, .ref adepth, .int 0, .int 0, .int 0, .int 0, .int 0, .int 0, .int 0]))]) [0] (by decide) rfl
    exact W.iret (v := 0) hx hb hr (fun t ht hW => ⟨⟨0, (), rfl, trivial, by rw [ht]; exact hP9, hD9⟩, hS.F ht⟩) hS.2.2 d_DiscMakerModel_read_53
  · skip
    refine lv_iload_n hx hb d_DiscMakerModel_read_5 rfl (lv_at hl 1 rfl) ?_
    refine lv_aload_n hx hb d_DiscMakerModel_read_6 rfl (lv_at hl 0 rfl) ?_
    refine va_get (D := D) (ci := 11) (v := .int 0) (C := "DiscMakerModel") (T := F_DiscMakerModel) (N := 48) hx hb ht9 in_DiscMakerModel hown hK hP 0 rfl rfl 28 (by decide) (ht9 _ k1459) (fun _ h9 => h9) rfl d_DiscMakerModel_read_7 ?_
    refine lv_icmp_ge (tgt := 40) hx hb d_DiscMakerModel_read_10 (by decide) (fun h_10 => ?_) (fun h_10 => absurd (z_ge0 h_2) h_10)
    refine lv_iconst (v := 1) hx hb d_DiscMakerModel_read_40 (by decide) ?_
    refine va_put (D := D) (ci := 11) (v := .int 1) (ty := .int) (C := "DiscMakerModel") (T := F_DiscMakerModel) (N := 48) hx hb ht9 in_DiscMakerModel t_DiscMakerModel t_DiscMakerModel_ok n_DiscMakerModel hown hK hP hD hS 0 rfl rfl 0 (by decide) (ht9 _ k1431) (fun _ h9 => h9) rfl (by decide +kernel) rfl rfl (Nat.le_of_ble_eq_true rfl) d_DiscMakerModel_read_41 (fun H locs hP hD hS => ?_)
    have hP : va_P D CL [(h0, .inr (11, [.int 1, .ref atext, .int 0, .int 1, .ref akind, .ref aparent, .ref amode, .ref aowner, .ref agroup, .ref asize, .ref aseed, .ref aname, .ref anameSize, .ref atarget, .ref atargetSize, .ref abase, .ref abaseSize, .ref aextension, .ref aextensionSize, .ref aimage, .int 0, .ref atable, .ref asector, .ref asectors, .ref acontents, .int 0, .int 0, .int 0, .int 0, .ref aabove, .ref aisDirectory, .ref abytes, .ref aplace, .ref areadMode, .ref areadOwner, .ref areadGroup, .ref areadName, .ref areadNameSize, .ref areadTarget, .ref areadTargetSize, .ref adepth, .int 0, .int 0, .int 0, .int 0, .int 0, .int 0, .int 0]))] H := hP
    have hD : va_D A [(h0, .inr (11, [.int 1, .ref atext, .int 0, .int 1, .ref akind, .ref aparent, .ref amode, .ref aowner, .ref agroup, .ref asize, .ref aseed, .ref aname, .ref anameSize, .ref atarget, .ref atargetSize, .ref abase, .ref abaseSize, .ref aextension, .ref aextensionSize, .ref aimage, .int 0, .ref atable, .ref asector, .ref asectors, .ref acontents, .int 0, .int 0, .int 0, .int 0, .ref aabove, .ref aisDirectory, .ref abytes, .ref aplace, .ref areadMode, .ref areadOwner, .ref areadGroup, .ref areadName, .ref areadNameSize, .ref areadTarget, .ref areadTargetSize, .ref adepth, .int 0, .int 0, .int 0, .int 0, .int 0, .int 0, .int 0]))] := hD
    refine lv_aload_n hx hb d_DiscMakerModel_read_44 rfl (lv_at hl 0 rfl) ?_
    refine va_get (D := D) (ci := 11) (v := .int 1) (C := "DiscMakerModel") (T := F_DiscMakerModel) (N := 48) hx hb ht9 in_DiscMakerModel hown hK hP 0 rfl rfl 0 (by decide) (ht9 _ k1431) (fun _ h9 => h9) rfl d_DiscMakerModel_read_45 ?_
    refine lv_iconst (v := 1) hx hb d_DiscMakerModel_read_48 (by decide) ?_
    refine lv_icmp_ne (tgt := 54) hx hb d_DiscMakerModel_read_49 (by decide) (fun h_49 => absurd (by decide) h_49) (fun h_49 => ?_)
    refine lv_iconst (v := 0) hx hb d_DiscMakerModel_read_52 (by decide) ?_
    have hP9 := hP.sub (ws' := [(h0, .inr (11, [.int 1, .ref atext, .int 0, .int 1, .ref akind, .ref aparent, .ref amode, .ref aowner, .ref agroup, .ref asize, .ref aseed, .ref aname, .ref anameSize, .ref atarget, .ref atargetSize, .ref abase, .ref abaseSize, .ref aextension, .ref aextensionSize, .ref aimage, .int 0, .ref atable, .ref asector, .ref asectors, .ref acontents, .int 0, .int 0, .int 0, .int 0, .ref aabove, .ref aisDirectory, .ref abytes, .ref aplace, .ref areadMode, .ref areadOwner, .ref areadGroup, .ref areadName, .ref areadNameSize, .ref areadTarget, .ref areadTargetSize, .ref adepth, .int 0, .int 0, .int 0, .int 0, .int 0, .int 0, .int 0]))]) [0] rfl
    have hD9 := hD.sub (ws' := [(h0, .inr (11, [.int 1, .ref atext, .int 0, .int 1, .ref akind, .ref aparent, .ref amode, .ref aowner, .ref agroup, .ref asize, .ref aseed, .ref aname, .ref anameSize, .ref atarget, .ref atargetSize, .ref abase, .ref abaseSize, .ref aextension, .ref aextensionSize, .ref aimage, .int 0, .ref atable, .ref asector, .ref asectors, .ref acontents, .int 0, .int 0, .int 0, .int 0, .ref aabove, .ref aisDirectory, .ref abytes, .ref aplace, .ref areadMode, .ref areadOwner, .ref areadGroup, .ref areadName, .ref areadNameSize, .ref areadTarget, .ref areadTargetSize, .ref adepth, .int 0, .int 0, .int 0, .int 0, .int 0, .int 0, .int 0]))]) [0] (by decide) rfl
    exact W.iret (v := 0) hx hb hr (fun t ht hW => ⟨⟨0, (), rfl, trivial, by rw [ht]; exact hP9, hD9⟩, hS.F ht⟩) hS.2.2 d_DiscMakerModel_read_53
