set_option maxRecDepth 100000 in
set_option maxHeartbeats 4000000 in
theorem law_SZ {b : Nat} {s : State} (hts : ∀ w ∈ lw_tbl, w.before #[Value.ref b] s = true) (hgv : (Jvm.Cond.and given_1 narrow_1).before #[Value.ref b] s = true) {A : Nat → Prop} (hA : ∀ a : Nat, a < s.heap.size → ¬ A a) : ∃ (td ts tl : Nat) (gd gs gl : Nat → Int32), SZ td ts tl gd gs gl A s s.heap := by
  have hs := flat_of_before _ hgv
  have hld := va_eqt (hs (.eq (.length (Term.static "DiscMaker" "DAY" "[B")) (.int 7)) (by decide +kernel))
  have hed0 := va_eqt (hs (.eq (.elem (Term.static "DiscMaker" "DAY" "[B") (.int 0)) (.int 100)) (by decide +kernel))
  have hed1 := va_eqt (hs (.eq (.elem (Term.static "DiscMaker" "DAY" "[B") (.int 1)) (.int 1)) (by decide +kernel))
  have hed2 := va_eqt (hs (.eq (.elem (Term.static "DiscMaker" "DAY" "[B") (.int 2)) (.int 1)) (by decide +kernel))
  have hed3 := va_eqt (hs (.eq (.elem (Term.static "DiscMaker" "DAY" "[B") (.int 3)) (.int 0)) (by decide +kernel))
  have hed4 := va_eqt (hs (.eq (.elem (Term.static "DiscMaker" "DAY" "[B") (.int 4)) (.int 0)) (by decide +kernel))
  have hed5 := va_eqt (hs (.eq (.elem (Term.static "DiscMaker" "DAY" "[B") (.int 5)) (.int 0)) (by decide +kernel))
  have hed6 := va_eqt (hs (.eq (.elem (Term.static "DiscMaker" "DAY" "[B") (.int 6)) (.int 0)) (by decide +kernel))
  obtain ⟨td, ed, kd⟩ := va_Tof (tm := (Term.static "DiscMaker" "DAY" "[B")) (ty := .byte) (N := 7) (f := fun j => .int (([100, 1, 1, 0, 0, 0, 0] : List Int32).getD j 0)) (A := A) (by decide) (hs (.arrayOf (Term.static "DiscMaker" "DAY" "[B") .byte) (by decide +kernel)) hld (fun j hj => by
    rcases (show j = 0 ∨ j = 1 ∨ j = 2 ∨ j = 3 ∨ j = 4 ∨ j = 5 ∨ j = 6 by omega) with rfl | rfl | rfl | rfl | rfl | rfl | rfl
    · exact hed0
    · exact hed1
    · exact hed2
    · exact hed3
    · exact hed4
    · exact hed5
    · exact hed6) hA
  have zd := va_Zref (t := td) (A := A) (hts (.laysStatic "DiscMaker" "DAY" "[B") (List.mem_of_getElem? (i := 1058) (by decide +kernel))) (law_g hts _ k115) ed hA
  have hls := va_eqt (hs (.eq (.length (Term.static "DiscMaker" "STANDARD" "[B")) (.int 6)) (by decide +kernel))
  have hes0 := va_eqt (hs (.eq (.elem (Term.static "DiscMaker" "STANDARD" "[B") (.int 0)) (.int 67)) (by decide +kernel))
  have hes1 := va_eqt (hs (.eq (.elem (Term.static "DiscMaker" "STANDARD" "[B") (.int 1)) (.int 68)) (by decide +kernel))
  have hes2 := va_eqt (hs (.eq (.elem (Term.static "DiscMaker" "STANDARD" "[B") (.int 2)) (.int 48)) (by decide +kernel))
  have hes3 := va_eqt (hs (.eq (.elem (Term.static "DiscMaker" "STANDARD" "[B") (.int 3)) (.int 48)) (by decide +kernel))
  have hes4 := va_eqt (hs (.eq (.elem (Term.static "DiscMaker" "STANDARD" "[B") (.int 4)) (.int 49)) (by decide +kernel))
  have hes5 := va_eqt (hs (.eq (.elem (Term.static "DiscMaker" "STANDARD" "[B") (.int 5)) (.int 1)) (by decide +kernel))
  obtain ⟨ts, es, ks⟩ := va_Tof (tm := (Term.static "DiscMaker" "STANDARD" "[B")) (ty := .byte) (N := 6) (f := fun j => .int (([67, 68, 48, 48, 49, 1] : List Int32).getD j 0)) (A := A) (by decide) (hs (.arrayOf (Term.static "DiscMaker" "STANDARD" "[B") .byte) (by decide +kernel)) hls (fun j hj => by
    rcases (show j = 0 ∨ j = 1 ∨ j = 2 ∨ j = 3 ∨ j = 4 ∨ j = 5 by omega) with rfl | rfl | rfl | rfl | rfl | rfl
    · exact hes0
    · exact hes1
    · exact hes2
    · exact hes3
    · exact hes4
    · exact hes5) hA
  have zs := va_Zref (t := ts) (A := A) (hts (.laysStatic "DiscMaker" "STANDARD" "[B") (List.mem_of_getElem? (i := 1108) (by decide +kernel))) (law_g hts _ k115) es hA
  have hll := va_eqt (hs (.eq (.length (Term.static "DiscMaker" "LONG_NAMES" "[B")) (.int 3)) (by decide +kernel))
  have hel0 := va_eqt (hs (.eq (.elem (Term.static "DiscMaker" "LONG_NAMES" "[B") (.int 0)) (.int 37)) (by decide +kernel))
  have hel1 := va_eqt (hs (.eq (.elem (Term.static "DiscMaker" "LONG_NAMES" "[B") (.int 1)) (.int 47)) (by decide +kernel))
  have hel2 := va_eqt (hs (.eq (.elem (Term.static "DiscMaker" "LONG_NAMES" "[B") (.int 2)) (.int 69)) (by decide +kernel))
  obtain ⟨tl, el, kl⟩ := va_Tof (tm := (Term.static "DiscMaker" "LONG_NAMES" "[B")) (ty := .byte) (N := 3) (f := fun j => .int (([37, 47, 69] : List Int32).getD j 0)) (A := A) (by decide) (hs (.arrayOf (Term.static "DiscMaker" "LONG_NAMES" "[B") .byte) (by decide +kernel)) hll (fun j hj => by
    rcases (show j = 0 ∨ j = 1 ∨ j = 2 by omega) with rfl | rfl | rfl
    · exact hel0
    · exact hel1
    · exact hel2) hA
  have zl := va_Zref (t := tl) (A := A) (hts (.laysStatic "DiscMaker" "LONG_NAMES" "[B") (List.mem_of_getElem? (i := 1114) (by decide +kernel))) (law_g hts _ k115) el hA
  exact ⟨td, ts, tl, _, _, _, ⟨zd, kd⟩, ⟨zs, ks⟩, ⟨zl, kl⟩⟩
set_option maxRecDepth 100000 in
theorem law_TX {b : Nat} {s : State} (hts : ∀ w ∈ lw_tbl, w.before #[Value.ref b] s = true) (hgv : (Jvm.Cond.and given_1 narrow_1).before #[Value.ref b] s = true) {A : Nat → Prop} (hA : ∀ a : Nat, a < s.heap.size → ¬ A a) : TX A s s.heap := by
  have hs := flat_of_before _ hgv
  refine ⟨fun w hw => ?_, zL.of (hts (.laysStatic Bundle.tN "UNASSIGNED_STACK" Bundle.steD) (List.mem_of_getElem? (i := 523) (by decide +kernel))) (hs (.isRef (.static Bundle.tN "UNASSIGNED_STACK" Bundle.steD)) (by decide +kernel)) hA, zL.of (hts (.laysStatic Bundle.tN "SUPPRESSED_SENTINEL" Bundle.listD) (List.mem_of_getElem? (i := 525) (by decide +kernel))) (hs (.isRef (.static Bundle.tN "SUPPRESSED_SENTINEL" Bundle.listD)) (by decide +kernel)) hA⟩
  have h1 := (List.mem_filter.mp hw).2
  have h2 := hts w (List.mem_filter.mp hw).1
  cases w <;> first | exact va_Nw.of rfl h2 | (simp [isDW] at h1)
