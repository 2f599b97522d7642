set_option maxRecDepth 100000 in
theorem law_TX {b : Nat} {s : State} (hts : ∀ w ∈ lw_tbl, w.before #[Value.ref b] s = true) (hgv : (Jvm.Cond.and given_1 narrow_1).before #[Value.ref b] s = true) {A : Nat → Prop} (hA : ∀ a : Nat, a < s.heap.size → ¬ A a) : TX A s s.heap := by
  have hs := flat_of_before _ hgv
  refine ⟨fun w hw => ?_, zL.of (hts (.laysStatic Bundle.tN "UNASSIGNED_STACK" Bundle.steD) (List.mem_of_getElem? (i := 523) (by decide +kernel))) (hs (.isRef (.static Bundle.tN "UNASSIGNED_STACK" Bundle.steD)) (by decide +kernel)) hA, zL.of (hts (.laysStatic Bundle.tN "SUPPRESSED_SENTINEL" Bundle.listD) (List.mem_of_getElem? (i := 525) (by decide +kernel))) (hs (.isRef (.static Bundle.tN "SUPPRESSED_SENTINEL" Bundle.listD)) (by decide +kernel)) hA⟩
  have h1 := (List.mem_filter.mp hw).2
  have h2 := hts w (List.mem_filter.mp hw).1
  cases w <;> first | exact va_Nw.of rfl h2 | (simp [isDW] at h1)
set_option maxHeartbeats 8000000 in
set_option maxRecDepth 100000 in
theorem whole_start {p : Program} {e : Env} {s : State} {m : MethodId} {below : List Frame} {meth : Method} {c : Code} (l : Launch) (htl : l.stackTraces = false) {b L : Nat} {xs : Nat → Int32} (hL : L ≤ 6) (C0 : lw_At p s m meth c b L xs) : W p l e room_1 s m #[Value.ref b] below meth c s.heap [] 0 0 (lw_Z below #[Value.ref b] s) (entryFrame m ([Value.ref b] : List Value).toArray 7) := by
  obtain ⟨hx, hb, hr, hml, hown0, hts0, hX, hbl, hlocks, hgv⟩ := C0
  have hown : s.vm.findClass "DiscMakerLaw" = some m.cls := hown0
  have ht9 := law_g hts0
  have hts : ∀ w ∈ (Cond.initialized "DiscMaker" :: lw_g), w.before #[Value.ref b] s = true := fun w h => (List.mem_cons.mp h).elim (fun h1 => h1 ▸ ht9 _ k115) (ht9 w)
  have hN := law_NN hts0
  obtain ⟨D, cB, cI, cJ, cZ, cN, cF, hK⟩ := law_K hts0
  obtain ⟨A, hAe⟩ : ∃ A : Nat → Prop, A = fun q => s.heap.size ≤ q := ⟨_, rfl⟩
  have hA : ∀ q, s.heap.size ≤ q → A q := fun q h => by rw [hAe]; exact h
  have hbA : ¬ A b := by rw [hAe]; exact Nat.not_le.mpr hbl
  have hS : va_S A s.heap s.heap [] := va_S.rf
  have hP : va_P D CL [] s.heap := fun k q h => by simp at h
  have hD : va_D A [] := ⟨fun i j p q h => by simp at h, fun k q h => by simp at h⟩
  obtain ⟨td, ts, tl, gd, gs, gl, hZ⟩ := law_SZ hts0 hgv (A := A) (fun a ha h => by rw [hAe] at h; exact absurd h (Nat.not_le.mpr ha))
  have hTX := law_TX hts0 hgv (A := A) (fun a ha h => by rw [hAe] at h; exact absurd h (Nat.not_le.mpr ha))
  have hl := lv_entry [Value.ref b] (n := 7) (Nat.le_of_ble_eq_true rfl)
  rw [lg_entry_eq]
  generalize (lg_sl [Value.ref b] ++ List.replicate (7 - (lg_sl [Value.ref b]).length) Slot.unset).toArray = ls at hl ⊢
  have hl : lv_has ls 7 [(0, .ref b)] := hl
  have hc_0 : 1 ≤ 600002 := by decide
  have hs_0 : 5 ≤ 7302232 := by decide
  refine va_new (ci := 0) (fs := [.null, .null, .null, .null, .null]) (C := "DiscMaker") (T := F_DiscMaker) (N := 5) hx hb ht9 in_DiscMaker t_DiscMaker t_DiscMaker_ok hown (ht9 _ k143) (ht9 _ k144) (ht9 _ k115) hK hP hD hS hA rfl (by decide) hc_0 hs_0 d_law_0 (fun xd H hP hD hS => ?_)
  have hP : va_P D CL [(xd, .inr (0, [.null, .null, .null, .null, .null]))] H := hP
  have hD : va_D A [(xd, .inr (0, [.null, .null, .null, .null, .null]))] := hD
  refine W.widen (k := 1) (n := 5) (by decide) (by decide) ?_
  refine lv_dup hx hb d_law_3 rfl ?_
  have hPc := hP.sub (ws' := [(xd, .inr (0, [.null, .null, .null, .null, .null]))]) [0] rfl
  have hDc := hD.sub (ws' := [(xd, .inr (0, [.null, .null, .null, .null, .null]))]) [0] (by decide) rfl
  have hFc := va_free (wc := [(xd, .inr (0, [.null, .null, .null, .null, .null]))]) hD hS hA [0] rfl
  have hkc : 34 ≤ 600002 := by decide
  have hks : 1472 ≤ 7302232 := by decide
  refine va_callv (va_runI (As := []) (rest := [.ref xd]) ⟨hx, hb, hml, hown, hts⟩ (c_DiscMaker_init l D cB cI cJ cZ cN cF H.size xd) (cwI 0 hts (lg_good kc_DiscMaker_init) rfl rfl rfl (ht9 _ k115) (ht9 _ k145) (ht9 _ k146) rfl (by decide +kernel) ⟨Nat.le_of_ble_eq_true rfl, Nat.le_of_ble_eq_true rfl⟩) ⟨fun a U g mk q => by obtain ⟨q0, q1, qP, qK, qN, qD⟩ := q; exact ⟨q0, q1, qP, va_K.moved (u := U) (U := U.calling g mk a) (Vm.Alike.refl U.vm) qK, qN.calling, qD⟩, fun U hU hW => ⟨rfl, by rw [hU], by rw [hU]; exact hPc, va_K.moved hW.alike hK, NN.warm hW hN, hDc.weaken (fun _ _ _ _ => trivial)⟩⟩ rfl rfl hl.1 rfl (lv_room (Nat.le_of_ble_eq_true rfl)) d_law_4 ⟨hkc, hks⟩) hS (fun q _ h => hFc q h) hFc (fun u t H1 locs ht hvm hp_4 hB hz1 hk1 hS => ?_)
  obtain ⟨tx, tq, tr, qa, qn, qm, qt, qk, im, iq, mkr, x, xo, xp, xt, xb, xe, y, yo, yp, yt, yb, ye, z, zb, zr, ze, i, ir, ct, rd, rr, rp⟩ := u
  obtain ⟨hP1, hD1⟩ := hB
  rw [ht] at hP1
  obtain ⟨hP, hD⟩ := va_join (wr := []) (w1 := [(xd, .inr (0, [.ref tx, .ref tr, .ref im, .ref mkr, .ref rd])), (tx, .inr (9, [.ref tq, .int 0])), (tq, .inl (cB, 400, .inl (fun _ => 0))), (tr, .inr (10, [.ref qa, .int 1, .int 1])), (qa, .inl (cN, 40, .inr (.inr (.inr (.inr (va_up (fun _ => none) 0 (some qn))))))), (qn, .inr (5, [.int 0, .ref qm, .ref qk, .ref qt, .int 0, .int 0, .int 0, .int 16877, .int 0, .int 0, .int 0, .int 0])), (qm, .inl (cB, 0, .inl (fun _ => 0))), (qt, .inl (cB, 0, .inl (fun _ => 0))), (qk, .inl (cB, 11, .inl (fun _ => 0))), (im, .inr (1, [.ref iq, .int 0])), (iq, .inl (cB, 0, .inl (fun _ => 0))), (mkr, .inr (4, [.ref tr, .ref im, .ref x, .ref y, .ref z, .ref i, .ref ct, .int 0, .int 0, .int 0])), (x, .inr (3, [.int 0, .int 16, .int 19, .ref xo, .ref xp, .ref xt, .ref xb, .ref xe, .int 0, .int 0])), (xo, .inl (cI, 40, .inl (fun _ => 0))), (xp, .inl (cI, 12, .inl (fun _ => 0))), (xt, .inl (cI, 40, .inl (fun _ => 0))), (xb, .inl (cI, 40, .inl (fun _ => 0))), (xe, .inl (cI, 40, .inl (fun _ => 0))), (y, .inr (3, [.int 1, .int 17, .int 21, .ref yo, .ref yp, .ref yt, .ref yb, .ref ye, .int 0, .int 0])), (yo, .inl (cI, 40, .inl (fun _ => 0))), (yp, .inl (cI, 12, .inl (fun _ => 0))), (yt, .inl (cI, 40, .inl (fun _ => 0))), (yb, .inl (cI, 40, .inl (fun _ => 0))), (ye, .inl (cI, 40, .inl (fun _ => 0))), (z, .inr (8, [.ref zb, .ref ze, .int 0, .int 0])), (zb, .inr (1, [.ref zr, .int 0])), (zr, .inl (cB, 400, .inl (fun _ => 0))), (ze, .inl (cI, 4, .inl (fun _ => 0))), (i, .inr (1, [.ref ir, .int 0])), (ir, .inl (cB, 60, .inl (fun _ => 0))), (ct, .inl (cI, 40, .inl (fun _ => 0))), (rd, .inr (7, [.ref im, .ref rp, .ref rr, .int 0, .int 0, .int 0])), (rp, .inr (6, [.ref im, .null, .int 0, .int 0, .int 0, .int 0])), (rr, .inl (cF, 99, .inr (.inr (.inr (.inr (fun _ => none))))))]) hP hD [0] [] rfl rfl (by decide) (by decide) hk1 hFc hP1 hD1
  clear hPc hDc hFc hP1 hD1 hk1 hz1
  generalize H1 = H at hP hS ⊢
  have hP : va_P D CL [(xd, .inr (0, [.ref tx, .ref tr, .ref im, .ref mkr, .ref rd])), (tx, .inr (9, [.ref tq, .int 0])), (tq, .inl (cB, 400, .inl (fun _ => 0))), (tr, .inr (10, [.ref qa, .int 1, .int 1])), (qa, .inl (cN, 40, .inr (.inr (.inr (.inr (va_up (fun _ => none) 0 (some qn))))))), (qn, .inr (5, [.int 0, .ref qm, .ref qk, .ref qt, .int 0, .int 0, .int 0, .int 16877, .int 0, .int 0, .int 0, .int 0])), (qm, .inl (cB, 0, .inl (fun _ => 0))), (qt, .inl (cB, 0, .inl (fun _ => 0))), (qk, .inl (cB, 11, .inl (fun _ => 0))), (im, .inr (1, [.ref iq, .int 0])), (iq, .inl (cB, 0, .inl (fun _ => 0))), (mkr, .inr (4, [.ref tr, .ref im, .ref x, .ref y, .ref z, .ref i, .ref ct, .int 0, .int 0, .int 0])), (x, .inr (3, [.int 0, .int 16, .int 19, .ref xo, .ref xp, .ref xt, .ref xb, .ref xe, .int 0, .int 0])), (xo, .inl (cI, 40, .inl (fun _ => 0))), (xp, .inl (cI, 12, .inl (fun _ => 0))), (xt, .inl (cI, 40, .inl (fun _ => 0))), (xb, .inl (cI, 40, .inl (fun _ => 0))), (xe, .inl (cI, 40, .inl (fun _ => 0))), (y, .inr (3, [.int 1, .int 17, .int 21, .ref yo, .ref yp, .ref yt, .ref yb, .ref ye, .int 0, .int 0])), (yo, .inl (cI, 40, .inl (fun _ => 0))), (yp, .inl (cI, 12, .inl (fun _ => 0))), (yt, .inl (cI, 40, .inl (fun _ => 0))), (yb, .inl (cI, 40, .inl (fun _ => 0))), (ye, .inl (cI, 40, .inl (fun _ => 0))), (z, .inr (8, [.ref zb, .ref ze, .int 0, .int 0])), (zb, .inr (1, [.ref zr, .int 0])), (zr, .inl (cB, 400, .inl (fun _ => 0))), (ze, .inl (cI, 4, .inl (fun _ => 0))), (i, .inr (1, [.ref ir, .int 0])), (ir, .inl (cB, 60, .inl (fun _ => 0))), (ct, .inl (cI, 40, .inl (fun _ => 0))), (rd, .inr (7, [.ref im, .ref rp, .ref rr, .int 0, .int 0, .int 0])), (rp, .inr (6, [.ref im, .null, .int 0, .int 0, .int 0, .int 0])), (rr, .inl (cF, 99, .inr (.inr (.inr (.inr (fun _ => none))))))] H := hP
  have hD : va_D A [(xd, .inr (0, [.ref tx, .ref tr, .ref im, .ref mkr, .ref rd])), (tx, .inr (9, [.ref tq, .int 0])), (tq, .inl (cB, 400, .inl (fun _ => 0))), (tr, .inr (10, [.ref qa, .int 1, .int 1])), (qa, .inl (cN, 40, .inr (.inr (.inr (.inr (va_up (fun _ => none) 0 (some qn))))))), (qn, .inr (5, [.int 0, .ref qm, .ref qk, .ref qt, .int 0, .int 0, .int 0, .int 16877, .int 0, .int 0, .int 0, .int 0])), (qm, .inl (cB, 0, .inl (fun _ => 0))), (qt, .inl (cB, 0, .inl (fun _ => 0))), (qk, .inl (cB, 11, .inl (fun _ => 0))), (im, .inr (1, [.ref iq, .int 0])), (iq, .inl (cB, 0, .inl (fun _ => 0))), (mkr, .inr (4, [.ref tr, .ref im, .ref x, .ref y, .ref z, .ref i, .ref ct, .int 0, .int 0, .int 0])), (x, .inr (3, [.int 0, .int 16, .int 19, .ref xo, .ref xp, .ref xt, .ref xb, .ref xe, .int 0, .int 0])), (xo, .inl (cI, 40, .inl (fun _ => 0))), (xp, .inl (cI, 12, .inl (fun _ => 0))), (xt, .inl (cI, 40, .inl (fun _ => 0))), (xb, .inl (cI, 40, .inl (fun _ => 0))), (xe, .inl (cI, 40, .inl (fun _ => 0))), (y, .inr (3, [.int 1, .int 17, .int 21, .ref yo, .ref yp, .ref yt, .ref yb, .ref ye, .int 0, .int 0])), (yo, .inl (cI, 40, .inl (fun _ => 0))), (yp, .inl (cI, 12, .inl (fun _ => 0))), (yt, .inl (cI, 40, .inl (fun _ => 0))), (yb, .inl (cI, 40, .inl (fun _ => 0))), (ye, .inl (cI, 40, .inl (fun _ => 0))), (z, .inr (8, [.ref zb, .ref ze, .int 0, .int 0])), (zb, .inr (1, [.ref zr, .int 0])), (zr, .inl (cB, 400, .inl (fun _ => 0))), (ze, .inl (cI, 4, .inl (fun _ => 0))), (i, .inr (1, [.ref ir, .int 0])), (ir, .inl (cB, 60, .inl (fun _ => 0))), (ct, .inl (cI, 40, .inl (fun _ => 0))), (rd, .inr (7, [.ref im, .ref rp, .ref rr, .int 0, .int 0, .int 0])), (rp, .inr (6, [.ref im, .null, .int 0, .int 0, .int 0, .int 0])), (rr, .inl (cF, 99, .inr (.inr (.inr (.inr (fun _ => none))))))] := hD
  refine W.widen (k := 34) (n := 1472) (by decide) (by decide) ?_
  refine lv_astore_n hx hb d_law_7 rfl hl (by decide) rfl (fun ls hl => ?_)
  have hl : lv_has ls 7 [(1, .ref xd), (0, .ref b)] := hl
  have hc_8 : 35 ≤ 600002 := by decide
  have hs_8 : 1520 ≤ 7302232 := by decide
  refine va_new (ci := 11) (fs := [.int 0, .null, .int 0, .int 0, .null, .null, .null, .null, .null, .null, .null, .null, .null, .null, .null, .null, .null, .null, .null, .null, .int 0, .null, .null, .null, .null, .int 0, .int 0, .int 0, .int 0, .null, .null, .null, .null, .null, .null, .null, .null, .null, .null, .null, .null, .int 0, .int 0, .int 0, .int 0, .int 0, .int 0, .int 0]) (C := "DiscMakerModel") (T := F_DiscMakerModel) (N := 48) hx hb ht9 in_DiscMakerModel t_DiscMakerModel t_DiscMakerModel_ok hown (ht9 _ k1423) (ht9 _ k1424) (ht9 _ k125) hK hP hD hS hA rfl (by decide) hc_8 hs_8 d_law_8 (fun xm H hP hD hS => ?_)
  have hP : va_P D CL [(xd, .inr (0, [.ref tx, .ref tr, .ref im, .ref mkr, .ref rd])), (tx, .inr (9, [.ref tq, .int 0])), (tq, .inl (cB, 400, .inl (fun _ => 0))), (tr, .inr (10, [.ref qa, .int 1, .int 1])), (qa, .inl (cN, 40, .inr (.inr (.inr (.inr (va_up (fun _ => none) 0 (some qn))))))), (qn, .inr (5, [.int 0, .ref qm, .ref qk, .ref qt, .int 0, .int 0, .int 0, .int 16877, .int 0, .int 0, .int 0, .int 0])), (qm, .inl (cB, 0, .inl (fun _ => 0))), (qt, .inl (cB, 0, .inl (fun _ => 0))), (qk, .inl (cB, 11, .inl (fun _ => 0))), (im, .inr (1, [.ref iq, .int 0])), (iq, .inl (cB, 0, .inl (fun _ => 0))), (mkr, .inr (4, [.ref tr, .ref im, .ref x, .ref y, .ref z, .ref i, .ref ct, .int 0, .int 0, .int 0])), (x, .inr (3, [.int 0, .int 16, .int 19, .ref xo, .ref xp, .ref xt, .ref xb, .ref xe, .int 0, .int 0])), (xo, .inl (cI, 40, .inl (fun _ => 0))), (xp, .inl (cI, 12, .inl (fun _ => 0))), (xt, .inl (cI, 40, .inl (fun _ => 0))), (xb, .inl (cI, 40, .inl (fun _ => 0))), (xe, .inl (cI, 40, .inl (fun _ => 0))), (y, .inr (3, [.int 1, .int 17, .int 21, .ref yo, .ref yp, .ref yt, .ref yb, .ref ye, .int 0, .int 0])), (yo, .inl (cI, 40, .inl (fun _ => 0))), (yp, .inl (cI, 12, .inl (fun _ => 0))), (yt, .inl (cI, 40, .inl (fun _ => 0))), (yb, .inl (cI, 40, .inl (fun _ => 0))), (ye, .inl (cI, 40, .inl (fun _ => 0))), (z, .inr (8, [.ref zb, .ref ze, .int 0, .int 0])), (zb, .inr (1, [.ref zr, .int 0])), (zr, .inl (cB, 400, .inl (fun _ => 0))), (ze, .inl (cI, 4, .inl (fun _ => 0))), (i, .inr (1, [.ref ir, .int 0])), (ir, .inl (cB, 60, .inl (fun _ => 0))), (ct, .inl (cI, 40, .inl (fun _ => 0))), (rd, .inr (7, [.ref im, .ref rp, .ref rr, .int 0, .int 0, .int 0])), (rp, .inr (6, [.ref im, .null, .int 0, .int 0, .int 0, .int 0])), (rr, .inl (cF, 99, .inr (.inr (.inr (.inr (fun _ => none)))))), (xm, .inr (11, [.int 0, .null, .int 0, .int 0, .null, .null, .null, .null, .null, .null, .null, .null, .null, .null, .null, .null, .null, .null, .null, .null, .int 0, .null, .null, .null, .null, .int 0, .int 0, .int 0, .int 0, .null, .null, .null, .null, .null, .null, .null, .null, .null, .null, .null, .null, .int 0, .int 0, .int 0, .int 0, .int 0, .int 0, .int 0]))] H := hP
  have hD : va_D A [(xd, .inr (0, [.ref tx, .ref tr, .ref im, .ref mkr, .ref rd])), (tx, .inr (9, [.ref tq, .int 0])), (tq, .inl (cB, 400, .inl (fun _ => 0))), (tr, .inr (10, [.ref qa, .int 1, .int 1])), (qa, .inl (cN, 40, .inr (.inr (.inr (.inr (va_up (fun _ => none) 0 (some qn))))))), (qn, .inr (5, [.int 0, .ref qm, .ref qk, .ref qt, .int 0, .int 0, .int 0, .int 16877, .int 0, .int 0, .int 0, .int 0])), (qm, .inl (cB, 0, .inl (fun _ => 0))), (qt, .inl (cB, 0, .inl (fun _ => 0))), (qk, .inl (cB, 11, .inl (fun _ => 0))), (im, .inr (1, [.ref iq, .int 0])), (iq, .inl (cB, 0, .inl (fun _ => 0))), (mkr, .inr (4, [.ref tr, .ref im, .ref x, .ref y, .ref z, .ref i, .ref ct, .int 0, .int 0, .int 0])), (x, .inr (3, [.int 0, .int 16, .int 19, .ref xo, .ref xp, .ref xt, .ref xb, .ref xe, .int 0, .int 0])), (xo, .inl (cI, 40, .inl (fun _ => 0))), (xp, .inl (cI, 12, .inl (fun _ => 0))), (xt, .inl (cI, 40, .inl (fun _ => 0))), (xb, .inl (cI, 40, .inl (fun _ => 0))), (xe, .inl (cI, 40, .inl (fun _ => 0))), (y, .inr (3, [.int 1, .int 17, .int 21, .ref yo, .ref yp, .ref yt, .ref yb, .ref ye, .int 0, .int 0])), (yo, .inl (cI, 40, .inl (fun _ => 0))), (yp, .inl (cI, 12, .inl (fun _ => 0))), (yt, .inl (cI, 40, .inl (fun _ => 0))), (yb, .inl (cI, 40, .inl (fun _ => 0))), (ye, .inl (cI, 40, .inl (fun _ => 0))), (z, .inr (8, [.ref zb, .ref ze, .int 0, .int 0])), (zb, .inr (1, [.ref zr, .int 0])), (zr, .inl (cB, 400, .inl (fun _ => 0))), (ze, .inl (cI, 4, .inl (fun _ => 0))), (i, .inr (1, [.ref ir, .int 0])), (ir, .inl (cB, 60, .inl (fun _ => 0))), (ct, .inl (cI, 40, .inl (fun _ => 0))), (rd, .inr (7, [.ref im, .ref rp, .ref rr, .int 0, .int 0, .int 0])), (rp, .inr (6, [.ref im, .null, .int 0, .int 0, .int 0, .int 0])), (rr, .inl (cF, 99, .inr (.inr (.inr (.inr (fun _ => none)))))), (xm, .inr (11, [.int 0, .null, .int 0, .int 0, .null, .null, .null, .null, .null, .null, .null, .null, .null, .null, .null, .null, .null, .null, .null, .null, .int 0, .null, .null, .null, .null, .int 0, .int 0, .int 0, .int 0, .null, .null, .null, .null, .null, .null, .null, .null, .null, .null, .null, .null, .int 0, .int 0, .int 0, .int 0, .int 0, .int 0, .int 0]))] := hD
  refine W.widen (k := 35) (n := 1520) (by decide) (by decide) ?_
  refine lv_dup hx hb d_law_11 rfl ?_
  have hPc := hP.sub (ws' := [(xm, .inr (11, [.int 0, .null, .int 0, .int 0, .null, .null, .null, .null, .null, .null, .null, .null, .null, .null, .null, .null, .null, .null, .null, .null, .int 0, .null, .null, .null, .null, .int 0, .int 0, .int 0, .int 0, .null, .null, .null, .null, .null, .null, .null, .null, .null, .null, .null, .null, .int 0, .int 0, .int 0, .int 0, .int 0, .int 0, .int 0]))]) [34] rfl
  have hDc := hD.sub (ws' := [(xm, .inr (11, [.int 0, .null, .int 0, .int 0, .null, .null, .null, .null, .null, .null, .null, .null, .null, .null, .null, .null, .null, .null, .null, .null, .int 0, .null, .null, .null, .null, .int 0, .int 0, .int 0, .int 0, .null, .null, .null, .null, .null, .null, .null, .null, .null, .null, .null, .null, .int 0, .int 0, .int 0, .int 0, .int 0, .int 0, .int 0]))]) [34] (by decide) rfl
  have hFc := va_free (wc := [(xm, .inr (11, [.int 0, .null, .int 0, .int 0, .null, .null, .null, .null, .null, .null, .null, .null, .null, .null, .null, .null, .null, .null, .null, .null, .int 0, .null, .null, .null, .null, .int 0, .int 0, .int 0, .int 0, .null, .null, .null, .null, .null, .null, .null, .null, .null, .null, .null, .null, .int 0, .int 0, .int 0, .int 0, .int 0, .int 0, .int 0]))]) hD hS hA [34] rfl
  have hkc : 68 ≤ 600002 := by decide
  have hks : 105304 ≤ 7302232 := by decide
  refine va_callv (va_runI (As := []) (rest := [.ref xm]) ⟨hx, hb, hml, hown, hts⟩ (c_Model_init l D cB cI cJ cZ cN cF H.size xm) (cwI 0 hts (lg_good kc_DiscMakerModel_init) rfl rfl rfl (ht9 _ k125) (ht9 _ k1425) (ht9 _ k1426) rfl (by decide +kernel) ⟨Nat.le_of_ble_eq_true rfl, Nat.le_of_ble_eq_true rfl⟩) ⟨fun a U g mk q => by obtain ⟨q0, q1, qP, qK, qN, qD⟩ := q; exact ⟨q0, q1, qP, va_K.moved (u := U) (U := U.calling g mk a) (Vm.Alike.refl U.vm) qK, qN.calling, qD⟩, fun U hU hW => ⟨rfl, by rw [hU], by rw [hU]; exact hPc, va_K.moved hW.alike hK, NN.warm hW hN, hDc.weaken (fun _ _ _ _ => trivial)⟩⟩ rfl rfl hl.1 rfl (lv_room (Nat.le_of_ble_eq_true rfl)) d_law_12 ⟨hkc, hks⟩) hS (fun q _ h => hFc q h) hFc (fun u t H1 locs ht hvm hp_12 hB hz1 hk1 hS => ?_)
  obtain ⟨atext, akind, aparent, amode, aowner, agroup, asize, aseed, aname, anameSize, atarget, atargetSize, abase, abaseSize, aextension, aextensionSize, aimage, atable, asector, asectors, acontents, aabove, aisDirectory, abytes, aplace, areadMode, areadOwner, areadGroup, areadName, areadNameSize, areadTarget, areadTargetSize, adepth⟩ := u
  obtain ⟨hP1, hD1⟩ := hB
  rw [ht] at hP1
  obtain ⟨hP, hD⟩ := va_join (wr := [(xd, .inr (0, [.ref tx, .ref tr, .ref im, .ref mkr, .ref rd])), (tx, .inr (9, [.ref tq, .int 0])), (tq, .inl (cB, 400, .inl (fun _ => 0))), (tr, .inr (10, [.ref qa, .int 1, .int 1])), (qa, .inl (cN, 40, .inr (.inr (.inr (.inr (va_up (fun _ => none) 0 (some qn))))))), (qn, .inr (5, [.int 0, .ref qm, .ref qk, .ref qt, .int 0, .int 0, .int 0, .int 16877, .int 0, .int 0, .int 0, .int 0])), (qm, .inl (cB, 0, .inl (fun _ => 0))), (qt, .inl (cB, 0, .inl (fun _ => 0))), (qk, .inl (cB, 11, .inl (fun _ => 0))), (im, .inr (1, [.ref iq, .int 0])), (iq, .inl (cB, 0, .inl (fun _ => 0))), (mkr, .inr (4, [.ref tr, .ref im, .ref x, .ref y, .ref z, .ref i, .ref ct, .int 0, .int 0, .int 0])), (x, .inr (3, [.int 0, .int 16, .int 19, .ref xo, .ref xp, .ref xt, .ref xb, .ref xe, .int 0, .int 0])), (xo, .inl (cI, 40, .inl (fun _ => 0))), (xp, .inl (cI, 12, .inl (fun _ => 0))), (xt, .inl (cI, 40, .inl (fun _ => 0))), (xb, .inl (cI, 40, .inl (fun _ => 0))), (xe, .inl (cI, 40, .inl (fun _ => 0))), (y, .inr (3, [.int 1, .int 17, .int 21, .ref yo, .ref yp, .ref yt, .ref yb, .ref ye, .int 0, .int 0])), (yo, .inl (cI, 40, .inl (fun _ => 0))), (yp, .inl (cI, 12, .inl (fun _ => 0))), (yt, .inl (cI, 40, .inl (fun _ => 0))), (yb, .inl (cI, 40, .inl (fun _ => 0))), (ye, .inl (cI, 40, .inl (fun _ => 0))), (z, .inr (8, [.ref zb, .ref ze, .int 0, .int 0])), (zb, .inr (1, [.ref zr, .int 0])), (zr, .inl (cB, 400, .inl (fun _ => 0))), (ze, .inl (cI, 4, .inl (fun _ => 0))), (i, .inr (1, [.ref ir, .int 0])), (ir, .inl (cB, 60, .inl (fun _ => 0))), (ct, .inl (cI, 40, .inl (fun _ => 0))), (rd, .inr (7, [.ref im, .ref rp, .ref rr, .int 0, .int 0, .int 0])), (rp, .inr (6, [.ref im, .null, .int 0, .int 0, .int 0, .int 0])), (rr, .inl (cF, 99, .inr (.inr (.inr (.inr (fun _ => none))))))]) (w1 := [(xm, .inr (11, [.int 0, .ref atext, .int 0, .int 1, .ref akind, .ref aparent, .ref amode, .ref aowner, .ref agroup, .ref asize, .ref aseed, .ref aname, .ref anameSize, .ref atarget, .ref atargetSize, .ref abase, .ref abaseSize, .ref aextension, .ref aextensionSize, .ref aimage, .int 0, .ref atable, .ref asector, .ref asectors, .ref acontents, .int 0, .int 0, .int 0, .int 0, .ref aabove, .ref aisDirectory, .ref abytes, .ref aplace, .ref areadMode, .ref areadOwner, .ref areadGroup, .ref areadName, .ref areadNameSize, .ref areadTarget, .ref areadTargetSize, .ref adepth, .int 0, .int 0, .int 0, .int 0, .int 0, .int 0, .int 0])), (atext, .inl (cB, 400, .inl (fun _ => 0))), (akind, .inl (cI, 40, .inl (fun _ => 0))), (aparent, .inl (cI, 40, .inl (upd (fun _ => 0) 0 (-1)))), (amode, .inl (cI, 40, .inl (upd (fun _ => 0) 0 16877))), (aowner, .inl (cI, 40, .inl (fun _ => 0))), (agroup, .inl (cI, 40, .inl (fun _ => 0))), (asize, .inl (cI, 40, .inl (fun _ => 0))), (aseed, .inl (cI, 40, .inl (fun _ => 0))), (aname, .inl (cB, 1200, .inl (fun _ => 0))), (anameSize, .inl (cI, 40, .inl (fun _ => 0))), (atarget, .inl (cB, 8000, .inl (fun _ => 0))), (atargetSize, .inl (cI, 40, .inl (fun _ => 0))), (abase, .inl (cB, 320, .inl (fun _ => 0))), (abaseSize, .inl (cI, 40, .inl (fun _ => 0))), (aextension, .inl (cB, 120, .inl (fun _ => 0))), (aextensionSize, .inl (cI, 40, .inl (fun _ => 0))), (aimage, .inl (cJ, 46080, .inr (.inl (fun _ => 0)))), (atable, .inl (cI, 24, .inl (fun _ => 0))), (asector, .inl (cI, 80, .inl (fun _ => 0))), (asectors, .inl (cI, 80, .inl (fun _ => 0))), (acontents, .inl (cI, 40, .inl (fun _ => 0))), (aabove, .inl (cI, 100, .inl (fun _ => 0))), (aisDirectory, .inl (cZ, 100, .inl (fun _ => 0))), (abytes, .inl (cI, 100, .inl (fun _ => 0))), (aplace, .inl (cI, 100, .inl (fun _ => 0))), (areadMode, .inl (cI, 100, .inl (fun _ => 0))), (areadOwner, .inl (cI, 100, .inl (fun _ => 0))), (areadGroup, .inl (cI, 100, .inl (fun _ => 0))), (areadName, .inl (cB, 6000, .inl (fun _ => 0))), (areadNameSize, .inl (cI, 100, .inl (fun _ => 0))), (areadTarget, .inl (cB, 40000, .inl (fun _ => 0))), (areadTargetSize, .inl (cI, 100, .inl (fun _ => 0))), (adepth, .inl (cI, 100, .inl (fun _ => 0)))]) hP hD [34] [0, 1, 2, 3, 4, 5, 6, 7, 8, 9, 10, 11, 12, 13, 14, 15, 16, 17, 18, 19, 20, 21, 22, 23, 24, 25, 26, 27, 28, 29, 30, 31, 32, 33] rfl rfl (by decide) (by decide) hk1 hFc hP1 hD1
  clear hPc hDc hFc hP1 hD1 hk1 hz1
  generalize H1 = H at hP hS ⊢
  have hP : va_P D CL [(xd, .inr (0, [.ref tx, .ref tr, .ref im, .ref mkr, .ref rd])), (tx, .inr (9, [.ref tq, .int 0])), (tq, .inl (cB, 400, .inl (fun _ => 0))), (tr, .inr (10, [.ref qa, .int 1, .int 1])), (qa, .inl (cN, 40, .inr (.inr (.inr (.inr (va_up (fun _ => none) 0 (some qn))))))), (qn, .inr (5, [.int 0, .ref qm, .ref qk, .ref qt, .int 0, .int 0, .int 0, .int 16877, .int 0, .int 0, .int 0, .int 0])), (qm, .inl (cB, 0, .inl (fun _ => 0))), (qt, .inl (cB, 0, .inl (fun _ => 0))), (qk, .inl (cB, 11, .inl (fun _ => 0))), (im, .inr (1, [.ref iq, .int 0])), (iq, .inl (cB, 0, .inl (fun _ => 0))), (mkr, .inr (4, [.ref tr, .ref im, .ref x, .ref y, .ref z, .ref i, .ref ct, .int 0, .int 0, .int 0])), (x, .inr (3, [.int 0, .int 16, .int 19, .ref xo, .ref xp, .ref xt, .ref xb, .ref xe, .int 0, .int 0])), (xo, .inl (cI, 40, .inl (fun _ => 0))), (xp, .inl (cI, 12, .inl (fun _ => 0))), (xt, .inl (cI, 40, .inl (fun _ => 0))), (xb, .inl (cI, 40, .inl (fun _ => 0))), (xe, .inl (cI, 40, .inl (fun _ => 0))), (y, .inr (3, [.int 1, .int 17, .int 21, .ref yo, .ref yp, .ref yt, .ref yb, .ref ye, .int 0, .int 0])), (yo, .inl (cI, 40, .inl (fun _ => 0))), (yp, .inl (cI, 12, .inl (fun _ => 0))), (yt, .inl (cI, 40, .inl (fun _ => 0))), (yb, .inl (cI, 40, .inl (fun _ => 0))), (ye, .inl (cI, 40, .inl (fun _ => 0))), (z, .inr (8, [.ref zb, .ref ze, .int 0, .int 0])), (zb, .inr (1, [.ref zr, .int 0])), (zr, .inl (cB, 400, .inl (fun _ => 0))), (ze, .inl (cI, 4, .inl (fun _ => 0))), (i, .inr (1, [.ref ir, .int 0])), (ir, .inl (cB, 60, .inl (fun _ => 0))), (ct, .inl (cI, 40, .inl (fun _ => 0))), (rd, .inr (7, [.ref im, .ref rp, .ref rr, .int 0, .int 0, .int 0])), (rp, .inr (6, [.ref im, .null, .int 0, .int 0, .int 0, .int 0])), (rr, .inl (cF, 99, .inr (.inr (.inr (.inr (fun _ => none)))))), (xm, .inr (11, [.int 0, .ref atext, .int 0, .int 1, .ref akind, .ref aparent, .ref amode, .ref aowner, .ref agroup, .ref asize, .ref aseed, .ref aname, .ref anameSize, .ref atarget, .ref atargetSize, .ref abase, .ref abaseSize, .ref aextension, .ref aextensionSize, .ref aimage, .int 0, .ref atable, .ref asector, .ref asectors, .ref acontents, .int 0, .int 0, .int 0, .int 0, .ref aabove, .ref aisDirectory, .ref abytes, .ref aplace, .ref areadMode, .ref areadOwner, .ref areadGroup, .ref areadName, .ref areadNameSize, .ref areadTarget, .ref areadTargetSize, .ref adepth, .int 0, .int 0, .int 0, .int 0, .int 0, .int 0, .int 0])), (atext, .inl (cB, 400, .inl (fun _ => 0))), (akind, .inl (cI, 40, .inl (fun _ => 0))), (aparent, .inl (cI, 40, .inl (upd (fun _ => 0) 0 (-1)))), (amode, .inl (cI, 40, .inl (upd (fun _ => 0) 0 16877))), (aowner, .inl (cI, 40, .inl (fun _ => 0))), (agroup, .inl (cI, 40, .inl (fun _ => 0))), (asize, .inl (cI, 40, .inl (fun _ => 0))), (aseed, .inl (cI, 40, .inl (fun _ => 0))), (aname, .inl (cB, 1200, .inl (fun _ => 0))), (anameSize, .inl (cI, 40, .inl (fun _ => 0))), (atarget, .inl (cB, 8000, .inl (fun _ => 0))), (atargetSize, .inl (cI, 40, .inl (fun _ => 0))), (abase, .inl (cB, 320, .inl (fun _ => 0))), (abaseSize, .inl (cI, 40, .inl (fun _ => 0))), (aextension, .inl (cB, 120, .inl (fun _ => 0))), (aextensionSize, .inl (cI, 40, .inl (fun _ => 0))), (aimage, .inl (cJ, 46080, .inr (.inl (fun _ => 0)))), (atable, .inl (cI, 24, .inl (fun _ => 0))), (asector, .inl (cI, 80, .inl (fun _ => 0))), (asectors, .inl (cI, 80, .inl (fun _ => 0))), (acontents, .inl (cI, 40, .inl (fun _ => 0))), (aabove, .inl (cI, 100, .inl (fun _ => 0))), (aisDirectory, .inl (cZ, 100, .inl (fun _ => 0))), (abytes, .inl (cI, 100, .inl (fun _ => 0))), (aplace, .inl (cI, 100, .inl (fun _ => 0))), (areadMode, .inl (cI, 100, .inl (fun _ => 0))), (areadOwner, .inl (cI, 100, .inl (fun _ => 0))), (areadGroup, .inl (cI, 100, .inl (fun _ => 0))), (areadName, .inl (cB, 6000, .inl (fun _ => 0))), (areadNameSize, .inl (cI, 100, .inl (fun _ => 0))), (areadTarget, .inl (cB, 40000, .inl (fun _ => 0))), (areadTargetSize, .inl (cI, 100, .inl (fun _ => 0))), (adepth, .inl (cI, 100, .inl (fun _ => 0)))] H := hP
  have hD : va_D A [(xd, .inr (0, [.ref tx, .ref tr, .ref im, .ref mkr, .ref rd])), (tx, .inr (9, [.ref tq, .int 0])), (tq, .inl (cB, 400, .inl (fun _ => 0))), (tr, .inr (10, [.ref qa, .int 1, .int 1])), (qa, .inl (cN, 40, .inr (.inr (.inr (.inr (va_up (fun _ => none) 0 (some qn))))))), (qn, .inr (5, [.int 0, .ref qm, .ref qk, .ref qt, .int 0, .int 0, .int 0, .int 16877, .int 0, .int 0, .int 0, .int 0])), (qm, .inl (cB, 0, .inl (fun _ => 0))), (qt, .inl (cB, 0, .inl (fun _ => 0))), (qk, .inl (cB, 11, .inl (fun _ => 0))), (im, .inr (1, [.ref iq, .int 0])), (iq, .inl (cB, 0, .inl (fun _ => 0))), (mkr, .inr (4, [.ref tr, .ref im, .ref x, .ref y, .ref z, .ref i, .ref ct, .int 0, .int 0, .int 0])), (x, .inr (3, [.int 0, .int 16, .int 19, .ref xo, .ref xp, .ref xt, .ref xb, .ref xe, .int 0, .int 0])), (xo, .inl (cI, 40, .inl (fun _ => 0))), (xp, .inl (cI, 12, .inl (fun _ => 0))), (xt, .inl (cI, 40, .inl (fun _ => 0))), (xb, .inl (cI, 40, .inl (fun _ => 0))), (xe, .inl (cI, 40, .inl (fun _ => 0))), (y, .inr (3, [.int 1, .int 17, .int 21, .ref yo, .ref yp, .ref yt, .ref yb, .ref ye, .int 0, .int 0])), (yo, .inl (cI, 40, .inl (fun _ => 0))), (yp, .inl (cI, 12, .inl (fun _ => 0))), (yt, .inl (cI, 40, .inl (fun _ => 0))), (yb, .inl (cI, 40, .inl (fun _ => 0))), (ye, .inl (cI, 40, .inl (fun _ => 0))), (z, .inr (8, [.ref zb, .ref ze, .int 0, .int 0])), (zb, .inr (1, [.ref zr, .int 0])), (zr, .inl (cB, 400, .inl (fun _ => 0))), (ze, .inl (cI, 4, .inl (fun _ => 0))), (i, .inr (1, [.ref ir, .int 0])), (ir, .inl (cB, 60, .inl (fun _ => 0))), (ct, .inl (cI, 40, .inl (fun _ => 0))), (rd, .inr (7, [.ref im, .ref rp, .ref rr, .int 0, .int 0, .int 0])), (rp, .inr (6, [.ref im, .null, .int 0, .int 0, .int 0, .int 0])), (rr, .inl (cF, 99, .inr (.inr (.inr (.inr (fun _ => none)))))), (xm, .inr (11, [.int 0, .ref atext, .int 0, .int 1, .ref akind, .ref aparent, .ref amode, .ref aowner, .ref agroup, .ref asize, .ref aseed, .ref aname, .ref anameSize, .ref atarget, .ref atargetSize, .ref abase, .ref abaseSize, .ref aextension, .ref aextensionSize, .ref aimage, .int 0, .ref atable, .ref asector, .ref asectors, .ref acontents, .int 0, .int 0, .int 0, .int 0, .ref aabove, .ref aisDirectory, .ref abytes, .ref aplace, .ref areadMode, .ref areadOwner, .ref areadGroup, .ref areadName, .ref areadNameSize, .ref areadTarget, .ref areadTargetSize, .ref adepth, .int 0, .int 0, .int 0, .int 0, .int 0, .int 0, .int 0])), (atext, .inl (cB, 400, .inl (fun _ => 0))), (akind, .inl (cI, 40, .inl (fun _ => 0))), (aparent, .inl (cI, 40, .inl (upd (fun _ => 0) 0 (-1)))), (amode, .inl (cI, 40, .inl (upd (fun _ => 0) 0 16877))), (aowner, .inl (cI, 40, .inl (fun _ => 0))), (agroup, .inl (cI, 40, .inl (fun _ => 0))), (asize, .inl (cI, 40, .inl (fun _ => 0))), (aseed, .inl (cI, 40, .inl (fun _ => 0))), (aname, .inl (cB, 1200, .inl (fun _ => 0))), (anameSize, .inl (cI, 40, .inl (fun _ => 0))), (atarget, .inl (cB, 8000, .inl (fun _ => 0))), (atargetSize, .inl (cI, 40, .inl (fun _ => 0))), (abase, .inl (cB, 320, .inl (fun _ => 0))), (abaseSize, .inl (cI, 40, .inl (fun _ => 0))), (aextension, .inl (cB, 120, .inl (fun _ => 0))), (aextensionSize, .inl (cI, 40, .inl (fun _ => 0))), (aimage, .inl (cJ, 46080, .inr (.inl (fun _ => 0)))), (atable, .inl (cI, 24, .inl (fun _ => 0))), (asector, .inl (cI, 80, .inl (fun _ => 0))), (asectors, .inl (cI, 80, .inl (fun _ => 0))), (acontents, .inl (cI, 40, .inl (fun _ => 0))), (aabove, .inl (cI, 100, .inl (fun _ => 0))), (aisDirectory, .inl (cZ, 100, .inl (fun _ => 0))), (abytes, .inl (cI, 100, .inl (fun _ => 0))), (aplace, .inl (cI, 100, .inl (fun _ => 0))), (areadMode, .inl (cI, 100, .inl (fun _ => 0))), (areadOwner, .inl (cI, 100, .inl (fun _ => 0))), (areadGroup, .inl (cI, 100, .inl (fun _ => 0))), (areadName, .inl (cB, 6000, .inl (fun _ => 0))), (areadNameSize, .inl (cI, 100, .inl (fun _ => 0))), (areadTarget, .inl (cB, 40000, .inl (fun _ => 0))), (areadTargetSize, .inl (cI, 100, .inl (fun _ => 0))), (adepth, .inl (cI, 100, .inl (fun _ => 0)))] := hD
  refine W.widen (k := 68) (n := 105304) (by decide) (by decide) ?_
  refine lv_astore_n hx hb d_law_15 rfl hl (by decide) rfl (fun ls hl => ?_)
  have hl : lv_has ls 7 [(2, .ref xm), (1, .ref xd), (0, .ref b)] := hl
  refine lv_iconst (v := 1) hx hb d_law_16 (by decide) ?_
  have hc_17 : 69 ≤ 600002 := by decide
  have hs_17 : 105305 ≤ 7302232 := by decide
  refine zz_newa (atype := .long) (cK := cJ) (ty := .long) (N' := 1) (a0 := (1, .inr (.inl (fun _ => 0)))) 2 (fun _ _ _ h1 h2 => Option.some.inj (h1.symm.trans h2)) rfl hx hb (ht9 _ k1576) rfl hK hP hD hS hA (fun _ => rfl) (by decide) (by decide) (by decide) hc_17 hs_17 d_law_17 (fun xq H hP hD hS => ?_)
  have hP : va_P D CL [(xd, .inr (0, [.ref tx, .ref tr, .ref im, .ref mkr, .ref rd])), (tx, .inr (9, [.ref tq, .int 0])), (tq, .inl (cB, 400, .inl (fun _ => 0))), (tr, .inr (10, [.ref qa, .int 1, .int 1])), (qa, .inl (cN, 40, .inr (.inr (.inr (.inr (va_up (fun _ => none) 0 (some qn))))))), (qn, .inr (5, [.int 0, .ref qm, .ref qk, .ref qt, .int 0, .int 0, .int 0, .int 16877, .int 0, .int 0, .int 0, .int 0])), (qm, .inl (cB, 0, .inl (fun _ => 0))), (qt, .inl (cB, 0, .inl (fun _ => 0))), (qk, .inl (cB, 11, .inl (fun _ => 0))), (im, .inr (1, [.ref iq, .int 0])), (iq, .inl (cB, 0, .inl (fun _ => 0))), (mkr, .inr (4, [.ref tr, .ref im, .ref x, .ref y, .ref z, .ref i, .ref ct, .int 0, .int 0, .int 0])), (x, .inr (3, [.int 0, .int 16, .int 19, .ref xo, .ref xp, .ref xt, .ref xb, .ref xe, .int 0, .int 0])), (xo, .inl (cI, 40, .inl (fun _ => 0))), (xp, .inl (cI, 12, .inl (fun _ => 0))), (xt, .inl (cI, 40, .inl (fun _ => 0))), (xb, .inl (cI, 40, .inl (fun _ => 0))), (xe, .inl (cI, 40, .inl (fun _ => 0))), (y, .inr (3, [.int 1, .int 17, .int 21, .ref yo, .ref yp, .ref yt, .ref yb, .ref ye, .int 0, .int 0])), (yo, .inl (cI, 40, .inl (fun _ => 0))), (yp, .inl (cI, 12, .inl (fun _ => 0))), (yt, .inl (cI, 40, .inl (fun _ => 0))), (yb, .inl (cI, 40, .inl (fun _ => 0))), (ye, .inl (cI, 40, .inl (fun _ => 0))), (z, .inr (8, [.ref zb, .ref ze, .int 0, .int 0])), (zb, .inr (1, [.ref zr, .int 0])), (zr, .inl (cB, 400, .inl (fun _ => 0))), (ze, .inl (cI, 4, .inl (fun _ => 0))), (i, .inr (1, [.ref ir, .int 0])), (ir, .inl (cB, 60, .inl (fun _ => 0))), (ct, .inl (cI, 40, .inl (fun _ => 0))), (rd, .inr (7, [.ref im, .ref rp, .ref rr, .int 0, .int 0, .int 0])), (rp, .inr (6, [.ref im, .null, .int 0, .int 0, .int 0, .int 0])), (rr, .inl (cF, 99, .inr (.inr (.inr (.inr (fun _ => none)))))), (xm, .inr (11, [.int 0, .ref atext, .int 0, .int 1, .ref akind, .ref aparent, .ref amode, .ref aowner, .ref agroup, .ref asize, .ref aseed, .ref aname, .ref anameSize, .ref atarget, .ref atargetSize, .ref abase, .ref abaseSize, .ref aextension, .ref aextensionSize, .ref aimage, .int 0, .ref atable, .ref asector, .ref asectors, .ref acontents, .int 0, .int 0, .int 0, .int 0, .ref aabove, .ref aisDirectory, .ref abytes, .ref aplace, .ref areadMode, .ref areadOwner, .ref areadGroup, .ref areadName, .ref areadNameSize, .ref areadTarget, .ref areadTargetSize, .ref adepth, .int 0, .int 0, .int 0, .int 0, .int 0, .int 0, .int 0])), (atext, .inl (cB, 400, .inl (fun _ => 0))), (akind, .inl (cI, 40, .inl (fun _ => 0))), (aparent, .inl (cI, 40, .inl (upd (fun _ => 0) 0 (-1)))), (amode, .inl (cI, 40, .inl (upd (fun _ => 0) 0 16877))), (aowner, .inl (cI, 40, .inl (fun _ => 0))), (agroup, .inl (cI, 40, .inl (fun _ => 0))), (asize, .inl (cI, 40, .inl (fun _ => 0))), (aseed, .inl (cI, 40, .inl (fun _ => 0))), (aname, .inl (cB, 1200, .inl (fun _ => 0))), (anameSize, .inl (cI, 40, .inl (fun _ => 0))), (atarget, .inl (cB, 8000, .inl (fun _ => 0))), (atargetSize, .inl (cI, 40, .inl (fun _ => 0))), (abase, .inl (cB, 320, .inl (fun _ => 0))), (abaseSize, .inl (cI, 40, .inl (fun _ => 0))), (aextension, .inl (cB, 120, .inl (fun _ => 0))), (aextensionSize, .inl (cI, 40, .inl (fun _ => 0))), (aimage, .inl (cJ, 46080, .inr (.inl (fun _ => 0)))), (atable, .inl (cI, 24, .inl (fun _ => 0))), (asector, .inl (cI, 80, .inl (fun _ => 0))), (asectors, .inl (cI, 80, .inl (fun _ => 0))), (acontents, .inl (cI, 40, .inl (fun _ => 0))), (aabove, .inl (cI, 100, .inl (fun _ => 0))), (aisDirectory, .inl (cZ, 100, .inl (fun _ => 0))), (abytes, .inl (cI, 100, .inl (fun _ => 0))), (aplace, .inl (cI, 100, .inl (fun _ => 0))), (areadMode, .inl (cI, 100, .inl (fun _ => 0))), (areadOwner, .inl (cI, 100, .inl (fun _ => 0))), (areadGroup, .inl (cI, 100, .inl (fun _ => 0))), (areadName, .inl (cB, 6000, .inl (fun _ => 0))), (areadNameSize, .inl (cI, 100, .inl (fun _ => 0))), (areadTarget, .inl (cB, 40000, .inl (fun _ => 0))), (areadTargetSize, .inl (cI, 100, .inl (fun _ => 0))), (adepth, .inl (cI, 100, .inl (fun _ => 0))), (xq, .inl (cJ, 1, .inr (.inl (fun _ => 0))))] H := hP
  have hD : va_D A [(xd, .inr (0, [.ref tx, .ref tr, .ref im, .ref mkr, .ref rd])), (tx, .inr (9, [.ref tq, .int 0])), (tq, .inl (cB, 400, .inl (fun _ => 0))), (tr, .inr (10, [.ref qa, .int 1, .int 1])), (qa, .inl (cN, 40, .inr (.inr (.inr (.inr (va_up (fun _ => none) 0 (some qn))))))), (qn, .inr (5, [.int 0, .ref qm, .ref qk, .ref qt, .int 0, .int 0, .int 0, .int 16877, .int 0, .int 0, .int 0, .int 0])), (qm, .inl (cB, 0, .inl (fun _ => 0))), (qt, .inl (cB, 0, .inl (fun _ => 0))), (qk, .inl (cB, 11, .inl (fun _ => 0))), (im, .inr (1, [.ref iq, .int 0])), (iq, .inl (cB, 0, .inl (fun _ => 0))), (mkr, .inr (4, [.ref tr, .ref im, .ref x, .ref y, .ref z, .ref i, .ref ct, .int 0, .int 0, .int 0])), (x, .inr (3, [.int 0, .int 16, .int 19, .ref xo, .ref xp, .ref xt, .ref xb, .ref xe, .int 0, .int 0])), (xo, .inl (cI, 40, .inl (fun _ => 0))), (xp, .inl (cI, 12, .inl (fun _ => 0))), (xt, .inl (cI, 40, .inl (fun _ => 0))), (xb, .inl (cI, 40, .inl (fun _ => 0))), (xe, .inl (cI, 40, .inl (fun _ => 0))), (y, .inr (3, [.int 1, .int 17, .int 21, .ref yo, .ref yp, .ref yt, .ref yb, .ref ye, .int 0, .int 0])), (yo, .inl (cI, 40, .inl (fun _ => 0))), (yp, .inl (cI, 12, .inl (fun _ => 0))), (yt, .inl (cI, 40, .inl (fun _ => 0))), (yb, .inl (cI, 40, .inl (fun _ => 0))), (ye, .inl (cI, 40, .inl (fun _ => 0))), (z, .inr (8, [.ref zb, .ref ze, .int 0, .int 0])), (zb, .inr (1, [.ref zr, .int 0])), (zr, .inl (cB, 400, .inl (fun _ => 0))), (ze, .inl (cI, 4, .inl (fun _ => 0))), (i, .inr (1, [.ref ir, .int 0])), (ir, .inl (cB, 60, .inl (fun _ => 0))), (ct, .inl (cI, 40, .inl (fun _ => 0))), (rd, .inr (7, [.ref im, .ref rp, .ref rr, .int 0, .int 0, .int 0])), (rp, .inr (6, [.ref im, .null, .int 0, .int 0, .int 0, .int 0])), (rr, .inl (cF, 99, .inr (.inr (.inr (.inr (fun _ => none)))))), (xm, .inr (11, [.int 0, .ref atext, .int 0, .int 1, .ref akind, .ref aparent, .ref amode, .ref aowner, .ref agroup, .ref asize, .ref aseed, .ref aname, .ref anameSize, .ref atarget, .ref atargetSize, .ref abase, .ref abaseSize, .ref aextension, .ref aextensionSize, .ref aimage, .int 0, .ref atable, .ref asector, .ref asectors, .ref acontents, .int 0, .int 0, .int 0, .int 0, .ref aabove, .ref aisDirectory, .ref abytes, .ref aplace, .ref areadMode, .ref areadOwner, .ref areadGroup, .ref areadName, .ref areadNameSize, .ref areadTarget, .ref areadTargetSize, .ref adepth, .int 0, .int 0, .int 0, .int 0, .int 0, .int 0, .int 0])), (atext, .inl (cB, 400, .inl (fun _ => 0))), (akind, .inl (cI, 40, .inl (fun _ => 0))), (aparent, .inl (cI, 40, .inl (upd (fun _ => 0) 0 (-1)))), (amode, .inl (cI, 40, .inl (upd (fun _ => 0) 0 16877))), (aowner, .inl (cI, 40, .inl (fun _ => 0))), (agroup, .inl (cI, 40, .inl (fun _ => 0))), (asize, .inl (cI, 40, .inl (fun _ => 0))), (aseed, .inl (cI, 40, .inl (fun _ => 0))), (aname, .inl (cB, 1200, .inl (fun _ => 0))), (anameSize, .inl (cI, 40, .inl (fun _ => 0))), (atarget, .inl (cB, 8000, .inl (fun _ => 0))), (atargetSize, .inl (cI, 40, .inl (fun _ => 0))), (abase, .inl (cB, 320, .inl (fun _ => 0))), (abaseSize, .inl (cI, 40, .inl (fun _ => 0))), (aextension, .inl (cB, 120, .inl (fun _ => 0))), (aextensionSize, .inl (cI, 40, .inl (fun _ => 0))), (aimage, .inl (cJ, 46080, .inr (.inl (fun _ => 0)))), (atable, .inl (cI, 24, .inl (fun _ => 0))), (asector, .inl (cI, 80, .inl (fun _ => 0))), (asectors, .inl (cI, 80, .inl (fun _ => 0))), (acontents, .inl (cI, 40, .inl (fun _ => 0))), (aabove, .inl (cI, 100, .inl (fun _ => 0))), (aisDirectory, .inl (cZ, 100, .inl (fun _ => 0))), (abytes, .inl (cI, 100, .inl (fun _ => 0))), (aplace, .inl (cI, 100, .inl (fun _ => 0))), (areadMode, .inl (cI, 100, .inl (fun _ => 0))), (areadOwner, .inl (cI, 100, .inl (fun _ => 0))), (areadGroup, .inl (cI, 100, .inl (fun _ => 0))), (areadName, .inl (cB, 6000, .inl (fun _ => 0))), (areadNameSize, .inl (cI, 100, .inl (fun _ => 0))), (areadTarget, .inl (cB, 40000, .inl (fun _ => 0))), (areadTargetSize, .inl (cI, 100, .inl (fun _ => 0))), (adepth, .inl (cI, 100, .inl (fun _ => 0))), (xq, .inl (cJ, 1, .inr (.inl (fun _ => 0))))] := hD
  refine W.widen (k := 69) (n := 105305) (by decide) (by decide) ?_
  refine lv_astore_n hx hb d_law_19 rfl hl (by decide) rfl (fun ls hl => ?_)
  have hl : lv_has ls 7 [(3, .ref xq), (2, .ref xm), (1, .ref xd), (0, .ref b)] := hl
  refine lv_iconst (v := 0) hx hb d_law_20 (by decide) ?_
  refine lv_istore hx hb d_law_21 hl (by decide) rfl (fun ls hl => ?_)
  have hl : lv_has ls 7 [(4, .int 0), (3, .ref xq), (2, .ref xm), (1, .ref xd), (0, .ref b)] := hl
  refine lv_iload hx hb d_law_23 (lv_at hl 0 rfl) ?_
  refine lv_aload_n hx hb d_law_25 rfl (lv_at hl 4 rfl) ?_
  refine va_slen hx hb hX hbl hbA hS d_law_26 ?_
  rcases (show L = 0 ∨ L = 1 ∨ L = 2 ∨ L = 3 ∨ L = 4 ∨ L = 5 ∨ L = 6 by omega) with rfl | rfl | rfl | rfl | rfl | rfl | rfl
  · skip
    refine W.eq (g2 := F0 m 27 ls [.int 0, .int 0]) rfl ?_
    refine lv_bipush (v := 6) hx hb d_law_27 (by decide) ?_
    refine lv_isub hx hb d_law_29 ?_
    refine W.eq (g2 := F0 m 30 ls [.int (-6), .int 0]) (by rw [show ((0 - 6) : Int32) = (-6) from by decide]) ?_
    refine lv_icmp_gt (tgt := 861) hx hb d_law_30 (by decide) (fun h_30 => ?_) (fun h_30 => absurd (by decide) h_30)
    refine lv_iconst (v := 1) hx hb d_law_861 (by decide) ?_
    refine va_forget (fun q hq => by have h9 := hS.2.2 q hq; rw [hAe] at h9; exact h9) ?_
    refine W.widen (k := 600002) (n := 7302232) (by decide) (by decide) ?_
    exact lw_ret hx hb hr hlocks d_law_862
  · skip
    refine W.eq (g2 := F0 m 27 ls [.int 1, .int 0]) rfl ?_
    refine lv_bipush (v := 6) hx hb d_law_27 (by decide) ?_
    refine lv_isub hx hb d_law_29 ?_
    refine W.eq (g2 := F0 m 30 ls [.int (-5), .int 0]) (by rw [show ((1 - 6) : Int32) = (-5) from by decide]) ?_
    refine lv_icmp_gt (tgt := 861) hx hb d_law_30 (by decide) (fun h_30 => ?_) (fun h_30 => absurd (by decide) h_30)
    refine lv_iconst (v := 1) hx hb d_law_861 (by decide) ?_
    refine va_forget (fun q hq => by have h9 := hS.2.2 q hq; rw [hAe] at h9; exact h9) ?_
    refine W.widen (k := 600002) (n := 7302232) (by decide) (by decide) ?_
    exact lw_ret hx hb hr hlocks d_law_862
  · skip
    refine W.eq (g2 := F0 m 27 ls [.int 2, .int 0]) rfl ?_
    refine lv_bipush (v := 6) hx hb d_law_27 (by decide) ?_
    refine lv_isub hx hb d_law_29 ?_
    refine W.eq (g2 := F0 m 30 ls [.int (-4), .int 0]) (by rw [show ((2 - 6) : Int32) = (-4) from by decide]) ?_
    refine lv_icmp_gt (tgt := 861) hx hb d_law_30 (by decide) (fun h_30 => ?_) (fun h_30 => absurd (by decide) h_30)
    refine lv_iconst (v := 1) hx hb d_law_861 (by decide) ?_
    refine va_forget (fun q hq => by have h9 := hS.2.2 q hq; rw [hAe] at h9; exact h9) ?_
    refine W.widen (k := 600002) (n := 7302232) (by decide) (by decide) ?_
    exact lw_ret hx hb hr hlocks d_law_862
  · skip
    refine W.eq (g2 := F0 m 27 ls [.int 3, .int 0]) rfl ?_
    refine lv_bipush (v := 6) hx hb d_law_27 (by decide) ?_
    refine lv_isub hx hb d_law_29 ?_
    refine W.eq (g2 := F0 m 30 ls [.int (-3), .int 0]) (by rw [show ((3 - 6) : Int32) = (-3) from by decide]) ?_
    refine lv_icmp_gt (tgt := 861) hx hb d_law_30 (by decide) (fun h_30 => ?_) (fun h_30 => absurd (by decide) h_30)
    refine lv_iconst (v := 1) hx hb d_law_861 (by decide) ?_
    refine va_forget (fun q hq => by have h9 := hS.2.2 q hq; rw [hAe] at h9; exact h9) ?_
    refine W.widen (k := 600002) (n := 7302232) (by decide) (by decide) ?_
    exact lw_ret hx hb hr hlocks d_law_862
  · skip
    refine W.eq (g2 := F0 m 27 ls [.int 4, .int 0]) rfl ?_
    refine lv_bipush (v := 6) hx hb d_law_27 (by decide) ?_
    refine lv_isub hx hb d_law_29 ?_
    refine W.eq (g2 := F0 m 30 ls [.int (-2), .int 0]) (by rw [show ((4 - 6) : Int32) = (-2) from by decide]) ?_
    refine lv_icmp_gt (tgt := 861) hx hb d_law_30 (by decide) (fun h_30 => ?_) (fun h_30 => absurd (by decide) h_30)
    refine lv_iconst (v := 1) hx hb d_law_861 (by decide) ?_
    refine va_forget (fun q hq => by have h9 := hS.2.2 q hq; rw [hAe] at h9; exact h9) ?_
    refine W.widen (k := 600002) (n := 7302232) (by decide) (by decide) ?_
    exact lw_ret hx hb hr hlocks d_law_862
  · skip
    refine W.eq (g2 := F0 m 27 ls [.int 5, .int 0]) rfl ?_
    refine lv_bipush (v := 6) hx hb d_law_27 (by decide) ?_
    refine lv_isub hx hb d_law_29 ?_
    refine W.eq (g2 := F0 m 30 ls [.int (-1), .int 0]) (by rw [show ((5 - 6) : Int32) = (-1) from by decide]) ?_
    refine lv_icmp_gt (tgt := 861) hx hb d_law_30 (by decide) (fun h_30 => ?_) (fun h_30 => absurd (by decide) h_30)
    refine lv_iconst (v := 1) hx hb d_law_861 (by decide) ?_
    refine va_forget (fun q hq => by have h9 := hS.2.2 q hq; rw [hAe] at h9; exact h9) ?_
    refine W.widen (k := 600002) (n := 7302232) (by decide) (by decide) ?_
    exact lw_ret hx hb hr hlocks d_law_862
  · skip
    refine W.eq (g2 := F0 m 27 ls [.int 6, .int 0]) rfl ?_
    refine lv_bipush (v := 6) hx hb d_law_27 (by decide) ?_
    refine lv_isub hx hb d_law_29 ?_
    refine W.eq (g2 := F0 m 30 ls [.int 0, .int 0]) (by rw [show ((6 - 6) : Int32) = 0 from by decide]) ?_
    refine lv_icmp_gt (tgt := 861) hx hb d_law_30 (by decide) (fun h_30 => absurd h_30 (by decide)) (fun h_30 => ?_)
    refine lv_aload_n hx hb d_law_33 rfl (lv_at hl 4 rfl) ?_
    refine lv_iload hx hb d_law_34 (lv_at hl 0 rfl) ?_
    refine va_sld hx hb hX hbl hbA hS (by unfold vp_in; decide) d_law_36 ?_
    refine W.eq (g2 := F0 m 37 ls [.int (xs 0)]) rfl ?_
    refine lv_bipush (v := 15) hx hb d_law_37 (by decide) ?_
    refine lv_iand hx hb d_law_39 ?_
    obtain ⟨j9, hj9, ej9⟩ := pk_andE (xs 0) (m := 15) 4 (by decide)
    refine W.eq (g2 := F0 m 40 ls [.int (nI j9)]) (by rw [show (((xs 0) &&& 15) : Int32) = nI j9 from ej9]) ?_
    have hj16 : j9 < 16 := hj9
    clear ej9 hj9
    rcases (show j9 = 0 ∨ j9 = 1 ∨ j9 = 2 ∨ j9 = 3 ∨ j9 = 4 ∨ j9 = 5 ∨ j9 = 6 ∨ j9 = 7 ∨ j9 = 8 ∨ j9 = 9 ∨ j9 = 10 ∨ j9 = 11 ∨ j9 = 12 ∨ j9 = 13 ∨ j9 = 14 ∨ j9 = 15 by omega) with rfl | rfl | rfl | rfl | rfl | rfl | rfl | rfl | rfl | rfl | rfl | rfl | rfl | rfl | rfl | rfl
    · skip
      refine lv_tableIn (off := 80) (tgt := 120) hx hb d_law_40 (by decide) (by decide) (by decide) (by decide) ?_
      have hP := hP.sub (ws' := [(xd, .inr (0, [.ref tx, .ref tr, .ref im, .ref mkr, .ref rd])), (tx, .inr (9, [.ref tq, .int 0])), (tq, .inl (cB, 400, .inl (fun _ => 0))), (xm, .inr (11, [.int 0, .ref atext, .int 0, .int 1, .ref akind, .ref aparent, .ref amode, .ref aowner, .ref agroup, .ref asize, .ref aseed, .ref aname, .ref anameSize, .ref atarget, .ref atargetSize, .ref abase, .ref abaseSize, .ref aextension, .ref aextensionSize, .ref aimage, .int 0, .ref atable, .ref asector, .ref asectors, .ref acontents, .int 0, .int 0, .int 0, .int 0, .ref aabove, .ref aisDirectory, .ref abytes, .ref aplace, .ref areadMode, .ref areadOwner, .ref areadGroup, .ref areadName, .ref areadNameSize, .ref areadTarget, .ref areadTargetSize, .ref adepth, .int 0, .int 0, .int 0, .int 0, .int 0, .int 0, .int 0])), (atext, .inl (cB, 400, .inl (fun _ => 0)))]) [0, 1, 2, 34, 35] rfl
      have hD := hD.sub (ws' := [(xd, .inr (0, [.ref tx, .ref tr, .ref im, .ref mkr, .ref rd])), (tx, .inr (9, [.ref tq, .int 0])), (tq, .inl (cB, 400, .inl (fun _ => 0))), (xm, .inr (11, [.int 0, .ref atext, .int 0, .int 1, .ref akind, .ref aparent, .ref amode, .ref aowner, .ref agroup, .ref asize, .ref aseed, .ref aname, .ref anameSize, .ref atarget, .ref atargetSize, .ref abase, .ref abaseSize, .ref aextension, .ref aextensionSize, .ref aimage, .int 0, .ref atable, .ref asector, .ref asectors, .ref acontents, .int 0, .int 0, .int 0, .int 0, .ref aabove, .ref aisDirectory, .ref abytes, .ref aplace, .ref areadMode, .ref areadOwner, .ref areadGroup, .ref areadName, .ref areadNameSize, .ref areadTarget, .ref areadTargetSize, .ref adepth, .int 0, .int 0, .int 0, .int 0, .int 0, .int 0, .int 0])), (atext, .inl (cB, 400, .inl (fun _ => 0)))]) [0, 1, 2, 34, 35] (by decide) rfl
      refine lv_aload_n hx hb d_law_120 rfl (lv_at hl 3 rfl) ?_
      refine lv_aload_n hx hb d_law_121 rfl (lv_at hl 4 rfl) ?_
      refine lv_iload hx hb d_law_122 (lv_at hl 0 rfl) ?_
      refine lv_iconst (v := 1) hx hb d_law_124 (by decide) ?_
      refine lv_iadd hx hb d_law_125 ?_
      refine W.eq (g2 := F0 m 126 ls [.int 1, .ref b, .ref xd]) (by rw [show ((0 + 1) : Int32) = 1 from by decide]) ?_
      refine va_sld hx hb hX hbl hbA hS (by unfold vp_in; decide) d_law_126 ?_
      refine W.eq (g2 := F0 m 127 ls [.int (xs 1), .ref xd]) rfl ?_
      refine lv_aload_n hx hb d_law_127 rfl (lv_at hl 4 rfl) ?_
      refine lv_iload hx hb d_law_128 (lv_at hl 0 rfl) ?_
      refine lv_iconst (v := 2) hx hb d_law_130 (by decide) ?_
      refine lv_iadd hx hb d_law_131 ?_
      refine W.eq (g2 := F0 m 132 ls [.int 2, .ref b, .int (xs 1), .ref xd]) (by rw [show ((0 + 2) : Int32) = 2 from by decide]) ?_
      refine va_sld hx hb hX hbl hbA hS (by unfold vp_in; decide) d_law_132 ?_
      refine W.eq (g2 := F0 m 133 ls [.int (xs 2), .int (xs 1), .ref xd]) rfl ?_
      refine lv_aload_n hx hb d_law_133 rfl (lv_at hl 4 rfl) ?_
      refine lv_iload hx hb d_law_134 (lv_at hl 0 rfl) ?_
      refine lv_iconst (v := 3) hx hb d_law_136 (by decide) ?_
      refine lv_iadd hx hb d_law_137 ?_
      refine W.eq (g2 := F0 m 138 ls [.int 3, .ref b, .int (xs 2), .int (xs 1), .ref xd]) (by rw [show ((0 + 3) : Int32) = 3 from by decide]) ?_
      refine va_sld hx hb hX hbl hbA hS (by unfold vp_in; decide) d_law_138 ?_
      refine W.eq (g2 := F0 m 139 ls [.int (xs 3), .int (xs 2), .int (xs 1), .ref xd]) rfl ?_
      refine lv_aload_n hx hb d_law_139 rfl (lv_at hl 4 rfl) ?_
      refine lv_iload hx hb d_law_140 (lv_at hl 0 rfl) ?_
      refine lv_iconst (v := 4) hx hb d_law_142 (by decide) ?_
      refine lv_iadd hx hb d_law_143 ?_
      refine W.eq (g2 := F0 m 144 ls [.int 4, .ref b, .int (xs 3), .int (xs 2), .int (xs 1), .ref xd]) (by rw [show ((0 + 4) : Int32) = 4 from by decide]) ?_
      refine va_sld hx hb hX hbl hbA hS (by unfold vp_in; decide) d_law_144 ?_
      refine W.eq (g2 := F0 m 145 ls [.int (xs 4), .int (xs 3), .int (xs 2), .int (xs 1), .ref xd]) rfl ?_
      refine lv_aload_n hx hb d_law_145 rfl (lv_at hl 4 rfl) ?_
      refine lv_iload hx hb d_law_146 (lv_at hl 0 rfl) ?_
      refine lv_iconst (v := 5) hx hb d_law_148 (by decide) ?_
      refine lv_iadd hx hb d_law_149 ?_
      refine W.eq (g2 := F0 m 150 ls [.int 5, .ref b, .int (xs 4), .int (xs 3), .int (xs 2), .int (xs 1), .ref xd]) (by rw [show ((0 + 5) : Int32) = 5 from by decide]) ?_
      refine va_sld hx hb hX hbl hbA hS (by unfold vp_in; decide) d_law_150 ?_
      refine W.eq (g2 := F0 m 151 ls [.int (xs 5), .int (xs 4), .int (xs 3), .int (xs 2), .int (xs 1), .ref xd]) rfl ?_
      have hPc := hP.sub (ws' := [(xd, .inr (0, [.ref tx, .ref tr, .ref im, .ref mkr, .ref rd])), (tx, .inr (9, [.ref tq, .int 0])), (tq, .inl (cB, 400, .inl (fun _ => 0)))]) [0, 1, 2] rfl
      have hDc := hD.sub (ws' := [(xd, .inr (0, [.ref tx, .ref tr, .ref im, .ref mkr, .ref rd])), (tx, .inr (9, [.ref tq, .int 0])), (tq, .inl (cB, 400, .inl (fun _ => 0)))]) [0, 1, 2] (by decide) rfl
      have hFc := va_free (wc := [(xd, .inr (0, [.ref tx, .ref tr, .ref im, .ref mkr, .ref rd])), (tx, .inr (9, [.ref tq, .int 0])), (tq, .inl (cB, 400, .inl (fun _ => 0)))]) hD hS hA [0, 1, 2] rfl
      have hkc : 69 ≤ 600002 := by decide
      have hks : 105305 ≤ 7302232 := by decide
      refine va_calli (va_runV (C := "DiscMaker") (As := [.int (xs 1), .int (xs 2), .int (xs 3), .int (xs 4), .int (xs 5)]) (rest := []) ⟨hx, hb, hml, hown, hts⟩ (c_feed l D cB cI cJ cZ cN cF H.size xd tx tr im mkr rd tq (fun _ => 0) (xs 1) (xs 2) (xs 3) (xs 4) (xs 5)) (cwV 5 hts (lg_goodV k447 k448 k449 k115 kc_DiscMaker_feed) rfl rfl rfl (by decide +kernel) ⟨Nat.le_of_ble_eq_true rfl, Nat.le_of_ble_eq_true rfl⟩) ⟨fun a U g mk q => by obtain ⟨q0, q1, qP, qK, qN, qD⟩ := q; exact ⟨q0, q1, qP, va_K.moved (u := U) (U := U.calling g mk a) (Vm.Alike.refl U.vm) qK, qN.calling, qD⟩, va_recv hK hP (ci := 0) (q0 := 0) rfl rfl, fun U hU hW => ⟨rfl, by rw [hU], by rw [hU]; exact hPc, va_K.moved hW.alike hK, NN.warm hW hN, hDc.weaken (fun _ _ _ _ => trivial)⟩⟩ rfl rfl hl.1 rfl (lv_room (Nat.le_of_ble_eq_true rfl)) d_law_151 ⟨hkc, hks⟩) hS (fun q _ h => hFc q h) hFc (fun r151 u t H1 locs ht hvm hp_151 hB hz1 hk1 hS => ?_)
      obtain ⟨hP1, hD1⟩ := hB
      rw [ht] at hP1
      try dsimp only at hp_151
      obtain ⟨hP, hD⟩ := va_join (wr := [(xm, .inr (11, [.int 0, .ref atext, .int 0, .int 1, .ref akind, .ref aparent, .ref amode, .ref aowner, .ref agroup, .ref asize, .ref aseed, .ref aname, .ref anameSize, .ref atarget, .ref atargetSize, .ref abase, .ref abaseSize, .ref aextension, .ref aextensionSize, .ref aimage, .int 0, .ref atable, .ref asector, .ref asectors, .ref acontents, .int 0, .int 0, .int 0, .int 0, .ref aabove, .ref aisDirectory, .ref abytes, .ref aplace, .ref areadMode, .ref areadOwner, .ref areadGroup, .ref areadName, .ref areadNameSize, .ref areadTarget, .ref areadTargetSize, .ref adepth, .int 0, .int 0, .int 0, .int 0, .int 0, .int 0, .int 0])), (atext, .inl (cB, 400, .inl (fun _ => 0)))]) (w1 := []) hP hD [0, 1, 2] [3, 4] rfl rfl (by decide) (by decide) hk1 hFc hP1 hD1
      clear hPc hDc hFc hP1 hD1 hk1 hz1
      generalize H1 = H at hP hS ⊢
      have hP : va_P D CL [(xm, .inr (11, [.int 0, .ref atext, .int 0, .int 1, .ref akind, .ref aparent, .ref amode, .ref aowner, .ref agroup, .ref asize, .ref aseed, .ref aname, .ref anameSize, .ref atarget, .ref atargetSize, .ref abase, .ref abaseSize, .ref aextension, .ref aextensionSize, .ref aimage, .int 0, .ref atable, .ref asector, .ref asectors, .ref acontents, .int 0, .int 0, .int 0, .int 0, .ref aabove, .ref aisDirectory, .ref abytes, .ref aplace, .ref areadMode, .ref areadOwner, .ref areadGroup, .ref areadName, .ref areadNameSize, .ref areadTarget, .ref areadTargetSize, .ref adepth, .int 0, .int 0, .int 0, .int 0, .int 0, .int 0, .int 0])), (atext, .inl (cB, 400, .inl (fun _ => 0)))] H := hP
      have hD : va_D A [(xm, .inr (11, [.int 0, .ref atext, .int 0, .int 1, .ref akind, .ref aparent, .ref amode, .ref aowner, .ref agroup, .ref asize, .ref aseed, .ref aname, .ref anameSize, .ref atarget, .ref atargetSize, .ref abase, .ref abaseSize, .ref aextension, .ref aextensionSize, .ref aimage, .int 0, .ref atable, .ref asector, .ref asectors, .ref acontents, .int 0, .int 0, .int 0, .int 0, .ref aabove, .ref aisDirectory, .ref abytes, .ref aplace, .ref areadMode, .ref areadOwner, .ref areadGroup, .ref areadName, .ref areadNameSize, .ref areadTarget, .ref areadTargetSize, .ref adepth, .int 0, .int 0, .int 0, .int 0, .int 0, .int 0, .int 0])), (atext, .inl (cB, 400, .inl (fun _ => 0)))] := hD
      refine lv_aload_n hx hb d_law_154 rfl (lv_at hl 2 rfl) ?_
      refine lv_aload_n hx hb d_law_155 rfl (lv_at hl 4 rfl) ?_
      refine lv_iload hx hb d_law_156 (lv_at hl 0 rfl) ?_
      refine lv_iconst (v := 1) hx hb d_law_158 (by decide) ?_
      refine lv_iadd hx hb d_law_159 ?_
      refine W.eq (g2 := F0 m 160 ls [.int 1, .ref b, .ref xm, .int r151]) (by rw [show ((0 + 1) : Int32) = 1 from by decide]) ?_
      refine va_sld hx hb hX hbl hbA hS (by unfold vp_in; decide) d_law_160 ?_
      refine W.eq (g2 := F0 m 161 ls [.int (xs 1), .ref xm, .int r151]) rfl ?_
      refine lv_aload_n hx hb d_law_161 rfl (lv_at hl 4 rfl) ?_
      refine lv_iload hx hb d_law_162 (lv_at hl 0 rfl) ?_
      refine lv_iconst (v := 2) hx hb d_law_164 (by decide) ?_
      refine lv_iadd hx hb d_law_165 ?_
      refine W.eq (g2 := F0 m 166 ls [.int 2, .ref b, .int (xs 1), .ref xm, .int r151]) (by rw [show ((0 + 2) : Int32) = 2 from by decide]) ?_
      refine va_sld hx hb hX hbl hbA hS (by unfold vp_in; decide) d_law_166 ?_
      refine W.eq (g2 := F0 m 167 ls [.int (xs 2), .int (xs 1), .ref xm, .int r151]) rfl ?_
      refine lv_aload_n hx hb d_law_167 rfl (lv_at hl 4 rfl) ?_
      refine lv_iload hx hb d_law_168 (lv_at hl 0 rfl) ?_
      refine lv_iconst (v := 3) hx hb d_law_170 (by decide) ?_
      refine lv_iadd hx hb d_law_171 ?_
      refine W.eq (g2 := F0 m 172 ls [.int 3, .ref b, .int (xs 2), .int (xs 1), .ref xm, .int r151]) (by rw [show ((0 + 3) : Int32) = 3 from by decide]) ?_
      refine va_sld hx hb hX hbl hbA hS (by unfold vp_in; decide) d_law_172 ?_
      refine W.eq (g2 := F0 m 173 ls [.int (xs 3), .int (xs 2), .int (xs 1), .ref xm, .int r151]) rfl ?_
      refine lv_aload_n hx hb d_law_173 rfl (lv_at hl 4 rfl) ?_
      refine lv_iload hx hb d_law_174 (lv_at hl 0 rfl) ?_
      refine lv_iconst (v := 4) hx hb d_law_176 (by decide) ?_
      refine lv_iadd hx hb d_law_177 ?_
      refine W.eq (g2 := F0 m 178 ls [.int 4, .ref b, .int (xs 3), .int (xs 2), .int (xs 1), .ref xm, .int r151]) (by rw [show ((0 + 4) : Int32) = 4 from by decide]) ?_
      refine va_sld hx hb hX hbl hbA hS (by unfold vp_in; decide) d_law_178 ?_
      refine W.eq (g2 := F0 m 179 ls [.int (xs 4), .int (xs 3), .int (xs 2), .int (xs 1), .ref xm, .int r151]) rfl ?_
      refine lv_aload_n hx hb d_law_179 rfl (lv_at hl 4 rfl) ?_
      refine lv_iload hx hb d_law_180 (lv_at hl 0 rfl) ?_
      refine lv_iconst (v := 5) hx hb d_law_182 (by decide) ?_
      refine lv_iadd hx hb d_law_183 ?_
      refine W.eq (g2 := F0 m 184 ls [.int 5, .ref b, .int (xs 4), .int (xs 3), .int (xs 2), .int (xs 1), .ref xm, .int r151]) (by rw [show ((0 + 5) : Int32) = 5 from by decide]) ?_
      refine va_sld hx hb hX hbl hbA hS (by unfold vp_in; decide) d_law_184 ?_
      refine W.eq (g2 := F0 m 185 ls [.int (xs 5), .int (xs 4), .int (xs 3), .int (xs 2), .int (xs 1), .ref xm, .int r151]) rfl ?_
      have hPc := hP.sub (ws' := [(xm, .inr (11, [.int 0, .ref atext, .int 0, .int 1, .ref akind, .ref aparent, .ref amode, .ref aowner, .ref agroup, .ref asize, .ref aseed, .ref aname, .ref anameSize, .ref atarget, .ref atargetSize, .ref abase, .ref abaseSize, .ref aextension, .ref aextensionSize, .ref aimage, .int 0, .ref atable, .ref asector, .ref asectors, .ref acontents, .int 0, .int 0, .int 0, .int 0, .ref aabove, .ref aisDirectory, .ref abytes, .ref aplace, .ref areadMode, .ref areadOwner, .ref areadGroup, .ref areadName, .ref areadNameSize, .ref areadTarget, .ref areadTargetSize, .ref adepth, .int 0, .int 0, .int 0, .int 0, .int 0, .int 0, .int 0])), (atext, .inl (cB, 400, .inl (fun _ => 0)))]) [0, 1] rfl
      have hDc := hD.sub (ws' := [(xm, .inr (11, [.int 0, .ref atext, .int 0, .int 1, .ref akind, .ref aparent, .ref amode, .ref aowner, .ref agroup, .ref asize, .ref aseed, .ref aname, .ref anameSize, .ref atarget, .ref atargetSize, .ref abase, .ref abaseSize, .ref aextension, .ref aextensionSize, .ref aimage, .int 0, .ref atable, .ref asector, .ref asectors, .ref acontents, .int 0, .int 0, .int 0, .int 0, .ref aabove, .ref aisDirectory, .ref abytes, .ref aplace, .ref areadMode, .ref areadOwner, .ref areadGroup, .ref areadName, .ref areadNameSize, .ref areadTarget, .ref areadTargetSize, .ref adepth, .int 0, .int 0, .int 0, .int 0, .int 0, .int 0, .int 0])), (atext, .inl (cB, 400, .inl (fun _ => 0)))]) [0, 1] (by decide) rfl
      have hFc := va_free (wc := [(xm, .inr (11, [.int 0, .ref atext, .int 0, .int 1, .ref akind, .ref aparent, .ref amode, .ref aowner, .ref agroup, .ref asize, .ref aseed, .ref aname, .ref anameSize, .ref atarget, .ref atargetSize, .ref abase, .ref abaseSize, .ref aextension, .ref aextensionSize, .ref aimage, .int 0, .ref atable, .ref asector, .ref asectors, .ref acontents, .int 0, .int 0, .int 0, .int 0, .ref aabove, .ref aisDirectory, .ref abytes, .ref aplace, .ref areadMode, .ref areadOwner, .ref areadGroup, .ref areadName, .ref areadNameSize, .ref areadTarget, .ref areadTargetSize, .ref adepth, .int 0, .int 0, .int 0, .int 0, .int 0, .int 0, .int 0])), (atext, .inl (cB, 400, .inl (fun _ => 0)))]) hD hS hA [0, 1] rfl
      have hkc : 69 ≤ 600002 := by decide
      have hks : 105305 ≤ 7302232 := by decide
      refine va_calli (va_runV (C := "DiscMakerModel") (As := [.int (xs 1), .int (xs 2), .int (xs 3), .int (xs 4), .int (xs 5)]) (rest := [.int r151]) ⟨hx, hb, hml, hown, hts⟩ (c_m_feed l D cB cI cJ cZ cN cF H.size xm atext akind aparent amode aowner agroup asize aseed aname anameSize atarget atargetSize abase abaseSize aextension aextensionSize aimage atable asector asectors acontents aabove aisDirectory abytes aplace areadMode areadOwner areadGroup areadName areadNameSize areadTarget areadTargetSize adepth (fun _ => 0) (xs 1) (xs 2) (xs 3) (xs 4) (xs 5)) (cwV 5 hts (lg_goodV k1582 k1583 k1584 k125 kc_DiscMakerModel_feed) rfl rfl rfl (by decide +kernel) ⟨Nat.le_of_ble_eq_true rfl, Nat.le_of_ble_eq_true rfl⟩) ⟨fun a U g mk q => by obtain ⟨q0, q1, qP, qK, qN, qD⟩ := q; exact ⟨q0, q1, qP, va_K.moved (u := U) (U := U.calling g mk a) (Vm.Alike.refl U.vm) qK, qN.calling, qD⟩, va_recv hK hP (ci := 11) (q0 := 0) rfl rfl, fun U hU hW => ⟨rfl, by rw [hU], by rw [hU]; exact hPc, va_K.moved hW.alike hK, NN.warm hW hN, hDc.weaken (fun _ _ _ _ => trivial)⟩⟩ rfl rfl hl.1 rfl (lv_room (Nat.le_of_ble_eq_true rfl)) d_law_185 ⟨hkc, hks⟩) hS (fun q _ h => hFc q h) hFc (fun r185 u t H1 locs ht hvm hp_185 hB hz1 hk1 hS => ?_)
      obtain ⟨hP1, hD1⟩ := hB
      rw [ht] at hP1
      try dsimp only at hp_185
      obtain ⟨hP, hD⟩ := va_join (wr := []) (w1 := []) hP hD [0, 1] [] rfl rfl (by decide) (by decide) hk1 hFc hP1 hD1
      clear hPc hDc hFc hP1 hD1 hk1 hz1
      generalize H1 = H at hP hS ⊢
      have hP : va_P D CL [] H := hP
      have hD : va_D A [] := hD
      refine lv_icmp_eq (tgt := 855) hx hb d_law_188 (by decide) (fun h_188 => ?_) (fun h_188 => absurd (hp_151.trans hp_185.symm) h_188)
      refine lv_iinc (v := 6) hx hb d_law_855 hl (k := 0) rfl (by decide) (by decide) rfl (fun ls hl => ?_)
      have hl : lv_has ls 7 [(4, .int 6), (3, .ref xq), (2, .ref xm), (1, .ref xd), (0, .ref b)] := hl
      refine lv_goto (tgt := 23) hx hb d_law_858 (by decide) ?_
      refine lv_iload hx hb d_law_23 (lv_at hl 0 rfl) ?_
      refine lv_aload_n hx hb d_law_25 rfl (lv_at hl 4 rfl) ?_
      refine va_slen hx hb hX hbl hbA hS d_law_26 ?_
      refine W.eq (g2 := F0 m 27 ls [.int 6, .int 6]) rfl ?_
      refine lv_bipush (v := 6) hx hb d_law_27 (by decide) ?_
      refine lv_isub hx hb d_law_29 ?_
      refine W.eq (g2 := F0 m 30 ls [.int 0, .int 6]) (by rw [show ((6 - 6) : Int32) = 0 from by decide]) ?_
      refine lv_icmp_gt (tgt := 861) hx hb d_law_30 (by decide) (fun h_30 => ?_) (fun h_30 => absurd (by decide) h_30)
      refine lv_iconst (v := 1) hx hb d_law_861 (by decide) ?_
      refine va_forget (fun q hq => by have h9 := hS.2.2 q hq; rw [hAe] at h9; exact h9) ?_
      refine W.widen (k := 600002) (n := 7302232) (by decide) (by decide) ?_
      exact lw_ret hx hb hr hlocks d_law_862
    · skip
      refine lv_tableIn (off := 153) (tgt := 193) hx hb d_law_40 (by decide) (by decide) (by decide) (by decide) ?_
      have hP := hP.sub (ws' := [(xd, .inr (0, [.ref tx, .ref tr, .ref im, .ref mkr, .ref rd])), (tx, .inr (9, [.ref tq, .int 0])), (xm, .inr (11, [.int 0, .ref atext, .int 0, .int 1, .ref akind, .ref aparent, .ref amode, .ref aowner, .ref agroup, .ref asize, .ref aseed, .ref aname, .ref anameSize, .ref atarget, .ref atargetSize, .ref abase, .ref abaseSize, .ref aextension, .ref aextensionSize, .ref aimage, .int 0, .ref atable, .ref asector, .ref asectors, .ref acontents, .int 0, .int 0, .int 0, .int 0, .ref aabove, .ref aisDirectory, .ref abytes, .ref aplace, .ref areadMode, .ref areadOwner, .ref areadGroup, .ref areadName, .ref areadNameSize, .ref areadTarget, .ref areadTargetSize, .ref adepth, .int 0, .int 0, .int 0, .int 0, .int 0, .int 0, .int 0]))]) [0, 1, 34] rfl
      have hD := hD.sub (ws' := [(xd, .inr (0, [.ref tx, .ref tr, .ref im, .ref mkr, .ref rd])), (tx, .inr (9, [.ref tq, .int 0])), (xm, .inr (11, [.int 0, .ref atext, .int 0, .int 1, .ref akind, .ref aparent, .ref amode, .ref aowner, .ref agroup, .ref asize, .ref aseed, .ref aname, .ref anameSize, .ref atarget, .ref atargetSize, .ref abase, .ref abaseSize, .ref aextension, .ref aextensionSize, .ref aimage, .int 0, .ref atable, .ref asector, .ref asectors, .ref acontents, .int 0, .int 0, .int 0, .int 0, .ref aabove, .ref aisDirectory, .ref abytes, .ref aplace, .ref areadMode, .ref areadOwner, .ref areadGroup, .ref areadName, .ref areadNameSize, .ref areadTarget, .ref areadTargetSize, .ref adepth, .int 0, .int 0, .int 0, .int 0, .int 0, .int 0, .int 0]))]) [0, 1, 34] (by decide) rfl
      refine lv_aload_n hx hb d_law_193 rfl (lv_at hl 3 rfl) ?_
      refine lv_aload_n hx hb d_law_194 rfl (lv_at hl 4 rfl) ?_
      refine lv_iload hx hb d_law_195 (lv_at hl 0 rfl) ?_
      refine lv_iconst (v := 1) hx hb d_law_197 (by decide) ?_
      refine lv_iadd hx hb d_law_198 ?_
      refine W.eq (g2 := F0 m 199 ls [.int 1, .ref b, .ref xd]) (by rw [show ((0 + 1) : Int32) = 1 from by decide]) ?_
      refine va_sld hx hb hX hbl hbA hS (by unfold vp_in; decide) d_law_199 ?_
      refine W.eq (g2 := F0 m 200 ls [.int (xs 1), .ref xd]) rfl ?_
      have hPc := hP.sub (ws' := [(xd, .inr (0, [.ref tx, .ref tr, .ref im, .ref mkr, .ref rd])), (tx, .inr (9, [.ref tq, .int 0]))]) [0, 1] rfl
      have hDc := hD.sub (ws' := [(xd, .inr (0, [.ref tx, .ref tr, .ref im, .ref mkr, .ref rd])), (tx, .inr (9, [.ref tq, .int 0]))]) [0, 1] (by decide) rfl
      have hFc := va_free (wc := [(xd, .inr (0, [.ref tx, .ref tr, .ref im, .ref mkr, .ref rd])), (tx, .inr (9, [.ref tq, .int 0]))]) hD hS hA [0, 1] rfl
      have hkc : 69 ≤ 600002 := by decide
      have hks : 105305 ≤ 7302232 := by decide
      refine va_calli (va_runV (C := "DiscMaker") (As := [.int (xs 1)]) (rest := []) ⟨hx, hb, hml, hown, hts⟩ (c_end l D cB cI cJ cZ cN cF H.size xd tx tr im mkr rd tq (xs 1)) (cwV 1 hts (lg_goodV k459 k460 k461 k115 kc_DiscMaker_end) rfl rfl rfl (by decide +kernel) ⟨Nat.le_of_ble_eq_true rfl, Nat.le_of_ble_eq_true rfl⟩) ⟨fun a U g mk q => by obtain ⟨q0, q1, qP, qK, qN, qD⟩ := q; exact ⟨q0, q1, qP, va_K.moved (u := U) (U := U.calling g mk a) (Vm.Alike.refl U.vm) qK, qN.calling, qD⟩, va_recv hK hP (ci := 0) (q0 := 0) rfl rfl, fun U hU hW => ⟨rfl, by rw [hU], by rw [hU]; exact hPc, va_K.moved hW.alike hK, NN.warm hW hN, hDc.weaken (fun _ _ _ _ => trivial)⟩⟩ rfl rfl hl.1 rfl (lv_room (Nat.le_of_ble_eq_true rfl)) d_law_200 ⟨hkc, hks⟩) hS (fun q _ h => hFc q h) hFc (fun r200 u t H1 locs ht hvm hp_200 hB hz1 hk1 hS => ?_)
      obtain ⟨hP1, hD1⟩ := hB
      rw [ht] at hP1
      try dsimp only at hp_200
      obtain ⟨hP, hD⟩ := va_join (wr := [(xm, .inr (11, [.int 0, .ref atext, .int 0, .int 1, .ref akind, .ref aparent, .ref amode, .ref aowner, .ref agroup, .ref asize, .ref aseed, .ref aname, .ref anameSize, .ref atarget, .ref atargetSize, .ref abase, .ref abaseSize, .ref aextension, .ref aextensionSize, .ref aimage, .int 0, .ref atable, .ref asector, .ref asectors, .ref acontents, .int 0, .int 0, .int 0, .int 0, .ref aabove, .ref aisDirectory, .ref abytes, .ref aplace, .ref areadMode, .ref areadOwner, .ref areadGroup, .ref areadName, .ref areadNameSize, .ref areadTarget, .ref areadTargetSize, .ref adepth, .int 0, .int 0, .int 0, .int 0, .int 0, .int 0, .int 0]))]) (w1 := []) hP hD [0, 1] [2] rfl rfl (by decide) (by decide) hk1 hFc hP1 hD1
      clear hPc hDc hFc hP1 hD1 hk1 hz1
      generalize H1 = H at hP hS ⊢
      have hP : va_P D CL [(xm, .inr (11, [.int 0, .ref atext, .int 0, .int 1, .ref akind, .ref aparent, .ref amode, .ref aowner, .ref agroup, .ref asize, .ref aseed, .ref aname, .ref anameSize, .ref atarget, .ref atargetSize, .ref abase, .ref abaseSize, .ref aextension, .ref aextensionSize, .ref aimage, .int 0, .ref atable, .ref asector, .ref asectors, .ref acontents, .int 0, .int 0, .int 0, .int 0, .ref aabove, .ref aisDirectory, .ref abytes, .ref aplace, .ref areadMode, .ref areadOwner, .ref areadGroup, .ref areadName, .ref areadNameSize, .ref areadTarget, .ref areadTargetSize, .ref adepth, .int 0, .int 0, .int 0, .int 0, .int 0, .int 0, .int 0]))] H := hP
      have hD : va_D A [(xm, .inr (11, [.int 0, .ref atext, .int 0, .int 1, .ref akind, .ref aparent, .ref amode, .ref aowner, .ref agroup, .ref asize, .ref aseed, .ref aname, .ref anameSize, .ref atarget, .ref atargetSize, .ref abase, .ref abaseSize, .ref aextension, .ref aextensionSize, .ref aimage, .int 0, .ref atable, .ref asector, .ref asectors, .ref acontents, .int 0, .int 0, .int 0, .int 0, .ref aabove, .ref aisDirectory, .ref abytes, .ref aplace, .ref areadMode, .ref areadOwner, .ref areadGroup, .ref areadName, .ref areadNameSize, .ref areadTarget, .ref areadTargetSize, .ref adepth, .int 0, .int 0, .int 0, .int 0, .int 0, .int 0, .int 0]))] := hD
      refine lv_aload_n hx hb d_law_203 rfl (lv_at hl 2 rfl) ?_
      refine lv_aload_n hx hb d_law_204 rfl (lv_at hl 4 rfl) ?_
      refine lv_iload hx hb d_law_205 (lv_at hl 0 rfl) ?_
      refine lv_iconst (v := 1) hx hb d_law_207 (by decide) ?_
      refine lv_iadd hx hb d_law_208 ?_
      refine W.eq (g2 := F0 m 209 ls [.int 1, .ref b, .ref xm, .int r200]) (by rw [show ((0 + 1) : Int32) = 1 from by decide]) ?_
      refine va_sld hx hb hX hbl hbA hS (by unfold vp_in; decide) d_law_209 ?_
      refine W.eq (g2 := F0 m 210 ls [.int (xs 1), .ref xm, .int r200]) rfl ?_
      have hPc := hP.sub (ws' := [(xm, .inr (11, [.int 0, .ref atext, .int 0, .int 1, .ref akind, .ref aparent, .ref amode, .ref aowner, .ref agroup, .ref asize, .ref aseed, .ref aname, .ref anameSize, .ref atarget, .ref atargetSize, .ref abase, .ref abaseSize, .ref aextension, .ref aextensionSize, .ref aimage, .int 0, .ref atable, .ref asector, .ref asectors, .ref acontents, .int 0, .int 0, .int 0, .int 0, .ref aabove, .ref aisDirectory, .ref abytes, .ref aplace, .ref areadMode, .ref areadOwner, .ref areadGroup, .ref areadName, .ref areadNameSize, .ref areadTarget, .ref areadTargetSize, .ref adepth, .int 0, .int 0, .int 0, .int 0, .int 0, .int 0, .int 0]))]) [0] rfl
      have hDc := hD.sub (ws' := [(xm, .inr (11, [.int 0, .ref atext, .int 0, .int 1, .ref akind, .ref aparent, .ref amode, .ref aowner, .ref agroup, .ref asize, .ref aseed, .ref aname, .ref anameSize, .ref atarget, .ref atargetSize, .ref abase, .ref abaseSize, .ref aextension, .ref aextensionSize, .ref aimage, .int 0, .ref atable, .ref asector, .ref asectors, .ref acontents, .int 0, .int 0, .int 0, .int 0, .ref aabove, .ref aisDirectory, .ref abytes, .ref aplace, .ref areadMode, .ref areadOwner, .ref areadGroup, .ref areadName, .ref areadNameSize, .ref areadTarget, .ref areadTargetSize, .ref adepth, .int 0, .int 0, .int 0, .int 0, .int 0, .int 0, .int 0]))]) [0] (by decide) rfl
      have hFc := va_free (wc := [(xm, .inr (11, [.int 0, .ref atext, .int 0, .int 1, .ref akind, .ref aparent, .ref amode, .ref aowner, .ref agroup, .ref asize, .ref aseed, .ref aname, .ref anameSize, .ref atarget, .ref atargetSize, .ref abase, .ref abaseSize, .ref aextension, .ref aextensionSize, .ref aimage, .int 0, .ref atable, .ref asector, .ref asectors, .ref acontents, .int 0, .int 0, .int 0, .int 0, .ref aabove, .ref aisDirectory, .ref abytes, .ref aplace, .ref areadMode, .ref areadOwner, .ref areadGroup, .ref areadName, .ref areadNameSize, .ref areadTarget, .ref areadTargetSize, .ref adepth, .int 0, .int 0, .int 0, .int 0, .int 0, .int 0, .int 0]))]) hD hS hA [0] rfl
      have hkc : 69 ≤ 600002 := by decide
      have hks : 105305 ≤ 7302232 := by decide
      refine va_calli (va_runV (C := "DiscMakerModel") (As := [.int (xs 1)]) (rest := [.int r200]) ⟨hx, hb, hml, hown, hts⟩ (c_m_end l D cB cI cJ cZ cN cF H.size xm atext akind aparent amode aowner agroup asize aseed aname anameSize atarget atargetSize abase abaseSize aextension aextensionSize aimage atable asector asectors acontents aabove aisDirectory abytes aplace areadMode areadOwner areadGroup areadName areadNameSize areadTarget areadTargetSize adepth (xs 1)) (cwV 1 hts (lg_goodV k1586 k1587 k1588 k125 kc_DiscMakerModel_end) rfl rfl rfl (by decide +kernel) ⟨Nat.le_of_ble_eq_true rfl, Nat.le_of_ble_eq_true rfl⟩) ⟨fun a U g mk q => by obtain ⟨q0, q1, qP, qK, qN, qD⟩ := q; exact ⟨q0, q1, qP, va_K.moved (u := U) (U := U.calling g mk a) (Vm.Alike.refl U.vm) qK, qN.calling, qD⟩, va_recv hK hP (ci := 11) (q0 := 0) rfl rfl, fun U hU hW => ⟨rfl, by rw [hU], by rw [hU]; exact hPc, va_K.moved hW.alike hK, NN.warm hW hN, hDc.weaken (fun _ _ _ _ => trivial)⟩⟩ rfl rfl hl.1 rfl (lv_room (Nat.le_of_ble_eq_true rfl)) d_law_210 ⟨hkc, hks⟩) hS (fun q _ h => hFc q h) hFc (fun r210 u t H1 locs ht hvm hp_210 hB hz1 hk1 hS => ?_)
      obtain ⟨hP1, hD1⟩ := hB
      rw [ht] at hP1
      try dsimp only at hp_210
      obtain ⟨hP, hD⟩ := va_join (wr := []) (w1 := []) hP hD [0] [] rfl rfl (by decide) (by decide) hk1 hFc hP1 hD1
      clear hPc hDc hFc hP1 hD1 hk1 hz1
      generalize H1 = H at hP hS ⊢
      have hP : va_P D CL [] H := hP
      have hD : va_D A [] := hD
      refine lv_icmp_eq (tgt := 855) hx hb d_law_213 (by decide) (fun h_213 => ?_) (fun h_213 => absurd (z_same hp_200 hp_210) h_213)
      refine lv_iinc (v := 6) hx hb d_law_855 hl (k := 0) rfl (by decide) (by decide) rfl (fun ls hl => ?_)
      have hl : lv_has ls 7 [(4, .int 6), (3, .ref xq), (2, .ref xm), (1, .ref xd), (0, .ref b)] := hl
      refine lv_goto (tgt := 23) hx hb d_law_858 (by decide) ?_
      refine lv_iload hx hb d_law_23 (lv_at hl 0 rfl) ?_
      refine lv_aload_n hx hb d_law_25 rfl (lv_at hl 4 rfl) ?_
      refine va_slen hx hb hX hbl hbA hS d_law_26 ?_
      refine W.eq (g2 := F0 m 27 ls [.int 6, .int 6]) rfl ?_
      refine lv_bipush (v := 6) hx hb d_law_27 (by decide) ?_
      refine lv_isub hx hb d_law_29 ?_
      refine W.eq (g2 := F0 m 30 ls [.int 0, .int 6]) (by rw [show ((6 - 6) : Int32) = 0 from by decide]) ?_
      refine lv_icmp_gt (tgt := 861) hx hb d_law_30 (by decide) (fun h_30 => ?_) (fun h_30 => absurd (by decide) h_30)
      refine lv_iconst (v := 1) hx hb d_law_861 (by decide) ?_
      refine va_forget (fun q hq => by have h9 := hS.2.2 q hq; rw [hAe] at h9; exact h9) ?_
      refine W.widen (k := 600002) (n := 7302232) (by decide) (by decide) ?_
      exact lw_ret hx hb hr hlocks d_law_862
    · skip
      refine lv_tableIn (off := 178) (tgt := 218) hx hb d_law_40 (by decide) (by decide) (by decide) (by decide) ?_
      have hP := hP.sub (ws' := [(xd, .inr (0, [.ref tx, .ref tr, .ref im, .ref mkr, .ref rd])), (tr, .inr (10, [.ref qa, .int 1, .int 1])), (qa, .inl (cN, 40, .inr (.inr (.inr (.inr (va_up (fun _ => none) 0 (some qn))))))), (qn, .inr (5, [.int 0, .ref qm, .ref qk, .ref qt, .int 0, .int 0, .int 0, .int 16877, .int 0, .int 0, .int 0, .int 0])), (tx, .inr (9, [.ref tq, .int 0])), (xm, .inr (11, [.int 0, .ref atext, .int 0, .int 1, .ref akind, .ref aparent, .ref amode, .ref aowner, .ref agroup, .ref asize, .ref aseed, .ref aname, .ref anameSize, .ref atarget, .ref atargetSize, .ref abase, .ref abaseSize, .ref aextension, .ref aextensionSize, .ref aimage, .int 0, .ref atable, .ref asector, .ref asectors, .ref acontents, .int 0, .int 0, .int 0, .int 0, .ref aabove, .ref aisDirectory, .ref abytes, .ref aplace, .ref areadMode, .ref areadOwner, .ref areadGroup, .ref areadName, .ref areadNameSize, .ref areadTarget, .ref areadTargetSize, .ref adepth, .int 0, .int 0, .int 0, .int 0, .int 0, .int 0, .int 0])), (akind, .inl (cI, 40, .inl (fun _ => 0)))]) [0, 3, 4, 5, 1, 34, 36] rfl
      have hD := hD.sub (ws' := [(xd, .inr (0, [.ref tx, .ref tr, .ref im, .ref mkr, .ref rd])), (tr, .inr (10, [.ref qa, .int 1, .int 1])), (qa, .inl (cN, 40, .inr (.inr (.inr (.inr (va_up (fun _ => none) 0 (some qn))))))), (qn, .inr (5, [.int 0, .ref qm, .ref qk, .ref qt, .int 0, .int 0, .int 0, .int 16877, .int 0, .int 0, .int 0, .int 0])), (tx, .inr (9, [.ref tq, .int 0])), (xm, .inr (11, [.int 0, .ref atext, .int 0, .int 1, .ref akind, .ref aparent, .ref amode, .ref aowner, .ref agroup, .ref asize, .ref aseed, .ref aname, .ref anameSize, .ref atarget, .ref atargetSize, .ref abase, .ref abaseSize, .ref aextension, .ref aextensionSize, .ref aimage, .int 0, .ref atable, .ref asector, .ref asectors, .ref acontents, .int 0, .int 0, .int 0, .int 0, .ref aabove, .ref aisDirectory, .ref abytes, .ref aplace, .ref areadMode, .ref areadOwner, .ref areadGroup, .ref areadName, .ref areadNameSize, .ref areadTarget, .ref areadTargetSize, .ref adepth, .int 0, .int 0, .int 0, .int 0, .int 0, .int 0, .int 0])), (akind, .inl (cI, 40, .inl (fun _ => 0)))]) [0, 3, 4, 5, 1, 34, 36] (by decide) rfl
      refine lv_aload_n hx hb d_law_218 rfl (lv_at hl 3 rfl) ?_
      refine lv_aload_n hx hb d_law_219 rfl (lv_at hl 4 rfl) ?_
      refine lv_iload hx hb d_law_220 (lv_at hl 0 rfl) ?_
      refine lv_iconst (v := 1) hx hb d_law_222 (by decide) ?_
      refine lv_iadd hx hb d_law_223 ?_
      refine W.eq (g2 := F0 m 224 ls [.int 1, .ref b, .ref xd]) (by rw [show ((0 + 1) : Int32) = 1 from by decide]) ?_
      refine va_sld hx hb hX hbl hbA hS (by unfold vp_in; decide) d_law_224 ?_
      refine W.eq (g2 := F0 m 225 ls [.int (xs 1), .ref xd]) rfl ?_
      refine lv_aload_n hx hb d_law_225 rfl (lv_at hl 4 rfl) ?_
      refine lv_iload hx hb d_law_226 (lv_at hl 0 rfl) ?_
      refine lv_iconst (v := 2) hx hb d_law_228 (by decide) ?_
      refine lv_iadd hx hb d_law_229 ?_
      refine W.eq (g2 := F0 m 230 ls [.int 2, .ref b, .int (xs 1), .ref xd]) (by rw [show ((0 + 2) : Int32) = 2 from by decide]) ?_
      refine va_sld hx hb hX hbl hbA hS (by unfold vp_in; decide) d_law_230 ?_
      refine W.eq (g2 := F0 m 231 ls [.int (xs 2), .int (xs 1), .ref xd]) rfl ?_
      refine lv_aload_n hx hb d_law_231 rfl (lv_at hl 4 rfl) ?_
      refine lv_iload hx hb d_law_232 (lv_at hl 0 rfl) ?_
      refine lv_iconst (v := 3) hx hb d_law_234 (by decide) ?_
      refine lv_iadd hx hb d_law_235 ?_
      refine W.eq (g2 := F0 m 236 ls [.int 3, .ref b, .int (xs 2), .int (xs 1), .ref xd]) (by rw [show ((0 + 3) : Int32) = 3 from by decide]) ?_
      refine va_sld hx hb hX hbl hbA hS (by unfold vp_in; decide) d_law_236 ?_
      refine W.eq (g2 := F0 m 237 ls [.int (xs 3), .int (xs 2), .int (xs 1), .ref xd]) rfl ?_
      refine lv_aload_n hx hb d_law_237 rfl (lv_at hl 4 rfl) ?_
      refine lv_iload hx hb d_law_238 (lv_at hl 0 rfl) ?_
      refine lv_iconst (v := 4) hx hb d_law_240 (by decide) ?_
      refine lv_iadd hx hb d_law_241 ?_
      refine W.eq (g2 := F0 m 242 ls [.int 4, .ref b, .int (xs 3), .int (xs 2), .int (xs 1), .ref xd]) (by rw [show ((0 + 4) : Int32) = 4 from by decide]) ?_
      refine va_sld hx hb hX hbl hbA hS (by unfold vp_in; decide) d_law_242 ?_
      refine W.eq (g2 := F0 m 243 ls [.int (xs 4), .int (xs 3), .int (xs 2), .int (xs 1), .ref xd]) rfl ?_
      have hPc := hP.sub (ws' := [(xd, .inr (0, [.ref tx, .ref tr, .ref im, .ref mkr, .ref rd])), (tr, .inr (10, [.ref qa, .int 1, .int 1])), (qa, .inl (cN, 40, .inr (.inr (.inr (.inr (va_up (fun _ => none) 0 (some qn))))))), (qn, .inr (5, [.int 0, .ref qm, .ref qk, .ref qt, .int 0, .int 0, .int 0, .int 16877, .int 0, .int 0, .int 0, .int 0])), (tx, .inr (9, [.ref tq, .int 0]))]) [0, 1, 2, 3, 4] rfl
      have hDc := hD.sub (ws' := [(xd, .inr (0, [.ref tx, .ref tr, .ref im, .ref mkr, .ref rd])), (tr, .inr (10, [.ref qa, .int 1, .int 1])), (qa, .inl (cN, 40, .inr (.inr (.inr (.inr (va_up (fun _ => none) 0 (some qn))))))), (qn, .inr (5, [.int 0, .ref qm, .ref qk, .ref qt, .int 0, .int 0, .int 0, .int 16877, .int 0, .int 0, .int 0, .int 0])), (tx, .inr (9, [.ref tq, .int 0]))]) [0, 1, 2, 3, 4] (by decide) rfl
      have hFc := va_free (wc := [(xd, .inr (0, [.ref tx, .ref tr, .ref im, .ref mkr, .ref rd])), (tr, .inr (10, [.ref qa, .int 1, .int 1])), (qa, .inl (cN, 40, .inr (.inr (.inr (.inr (va_up (fun _ => none) 0 (some qn))))))), (qn, .inr (5, [.int 0, .ref qm, .ref qk, .ref qt, .int 0, .int 0, .int 0, .int 16877, .int 0, .int 0, .int 0, .int 0])), (tx, .inr (9, [.ref tq, .int 0]))]) hD hS hA [0, 1, 2, 3, 4] rfl
      have hkc : 73 ≤ 600002 := by decide
      have hks : 105328 ≤ 7302232 := by decide
      refine va_calli (va_runV (C := "DiscMaker") (As := [.int (xs 1), .int (xs 2), .int (xs 3), .int (xs 4)]) (rest := []) ⟨hx, hb, hml, hown, hts⟩ (c_directory l D cB cI cJ cZ cN cF H.size xd tx tr im mkr rd qa qn qm qk qt tq (xs 1) (xs 2) (xs 3) (xs 4)) (cwV 4 hts (lg_goodV k467 k468 k469 k115 kc_DiscMaker_directory) rfl rfl rfl (by decide +kernel) ⟨Nat.le_of_ble_eq_true rfl, Nat.le_of_ble_eq_true rfl⟩) ⟨fun a U g mk q => by obtain ⟨q0, q1, qP, qK, qN, qD⟩ := q; exact ⟨q0, q1, qP, va_K.moved (u := U) (U := U.calling g mk a) (Vm.Alike.refl U.vm) qK, qN.calling, qD⟩, va_recv hK hP (ci := 0) (q0 := 0) rfl rfl, fun U hU hW => ⟨rfl, by rw [hU], by rw [hU]; exact hPc, va_K.moved hW.alike hK, NN.warm hW hN, hDc.weaken (fun _ _ _ _ => trivial)⟩⟩ rfl rfl hl.1 rfl (lv_room (Nat.le_of_ble_eq_true rfl)) d_law_243 ⟨hkc, hks⟩) hS (fun q _ h => hFc q h) hFc (fun r243 u t H1 locs ht hvm hp_243 hB hz1 hk1 hS => ?_)
      obtain ⟨hP1, hD1⟩ := hB
      rw [ht] at hP1
      try dsimp only at hp_243
      obtain ⟨hP, hD⟩ := va_join (wr := [(xm, .inr (11, [.int 0, .ref atext, .int 0, .int 1, .ref akind, .ref aparent, .ref amode, .ref aowner, .ref agroup, .ref asize, .ref aseed, .ref aname, .ref anameSize, .ref atarget, .ref atargetSize, .ref abase, .ref abaseSize, .ref aextension, .ref aextensionSize, .ref aimage, .int 0, .ref atable, .ref asector, .ref asectors, .ref acontents, .int 0, .int 0, .int 0, .int 0, .ref aabove, .ref aisDirectory, .ref abytes, .ref aplace, .ref areadMode, .ref areadOwner, .ref areadGroup, .ref areadName, .ref areadNameSize, .ref areadTarget, .ref areadTargetSize, .ref adepth, .int 0, .int 0, .int 0, .int 0, .int 0, .int 0, .int 0])), (akind, .inl (cI, 40, .inl (fun _ => 0)))]) (w1 := []) hP hD [0, 1, 2, 3, 4] [5, 6] rfl rfl (by decide) (by decide) hk1 hFc hP1 hD1
      clear hPc hDc hFc hP1 hD1 hk1 hz1
      generalize H1 = H at hP hS ⊢
      have hP : va_P D CL [(xm, .inr (11, [.int 0, .ref atext, .int 0, .int 1, .ref akind, .ref aparent, .ref amode, .ref aowner, .ref agroup, .ref asize, .ref aseed, .ref aname, .ref anameSize, .ref atarget, .ref atargetSize, .ref abase, .ref abaseSize, .ref aextension, .ref aextensionSize, .ref aimage, .int 0, .ref atable, .ref asector, .ref asectors, .ref acontents, .int 0, .int 0, .int 0, .int 0, .ref aabove, .ref aisDirectory, .ref abytes, .ref aplace, .ref areadMode, .ref areadOwner, .ref areadGroup, .ref areadName, .ref areadNameSize, .ref areadTarget, .ref areadTargetSize, .ref adepth, .int 0, .int 0, .int 0, .int 0, .int 0, .int 0, .int 0])), (akind, .inl (cI, 40, .inl (fun _ => 0)))] H := hP
      have hD : va_D A [(xm, .inr (11, [.int 0, .ref atext, .int 0, .int 1, .ref akind, .ref aparent, .ref amode, .ref aowner, .ref agroup, .ref asize, .ref aseed, .ref aname, .ref anameSize, .ref atarget, .ref atargetSize, .ref abase, .ref abaseSize, .ref aextension, .ref aextensionSize, .ref aimage, .int 0, .ref atable, .ref asector, .ref asectors, .ref acontents, .int 0, .int 0, .int 0, .int 0, .ref aabove, .ref aisDirectory, .ref abytes, .ref aplace, .ref areadMode, .ref areadOwner, .ref areadGroup, .ref areadName, .ref areadNameSize, .ref areadTarget, .ref areadTargetSize, .ref adepth, .int 0, .int 0, .int 0, .int 0, .int 0, .int 0, .int 0])), (akind, .inl (cI, 40, .inl (fun _ => 0)))] := hD
      refine W.widen (k := 73) (n := 105328) (by decide) (by decide) ?_
      refine lv_aload_n hx hb d_law_246 rfl (lv_at hl 2 rfl) ?_
      refine lv_aload_n hx hb d_law_247 rfl (lv_at hl 4 rfl) ?_
      refine lv_iload hx hb d_law_248 (lv_at hl 0 rfl) ?_
      refine lv_iconst (v := 1) hx hb d_law_250 (by decide) ?_
      refine lv_iadd hx hb d_law_251 ?_
      refine W.eq (g2 := F0 m 252 ls [.int 1, .ref b, .ref xm, .int r243]) (by rw [show ((0 + 1) : Int32) = 1 from by decide]) ?_
      refine va_sld hx hb hX hbl hbA hS (by unfold vp_in; decide) d_law_252 ?_
      refine W.eq (g2 := F0 m 253 ls [.int (xs 1), .ref xm, .int r243]) rfl ?_
      refine lv_aload_n hx hb d_law_253 rfl (lv_at hl 4 rfl) ?_
      refine lv_iload hx hb d_law_254 (lv_at hl 0 rfl) ?_
      refine lv_iconst (v := 2) hx hb d_law_256 (by decide) ?_
      refine lv_iadd hx hb d_law_257 ?_
      refine W.eq (g2 := F0 m 258 ls [.int 2, .ref b, .int (xs 1), .ref xm, .int r243]) (by rw [show ((0 + 2) : Int32) = 2 from by decide]) ?_
      refine va_sld hx hb hX hbl hbA hS (by unfold vp_in; decide) d_law_258 ?_
      refine W.eq (g2 := F0 m 259 ls [.int (xs 2), .int (xs 1), .ref xm, .int r243]) rfl ?_
      refine lv_aload_n hx hb d_law_259 rfl (lv_at hl 4 rfl) ?_
      refine lv_iload hx hb d_law_260 (lv_at hl 0 rfl) ?_
      refine lv_iconst (v := 3) hx hb d_law_262 (by decide) ?_
      refine lv_iadd hx hb d_law_263 ?_
      refine W.eq (g2 := F0 m 264 ls [.int 3, .ref b, .int (xs 2), .int (xs 1), .ref xm, .int r243]) (by rw [show ((0 + 3) : Int32) = 3 from by decide]) ?_
      refine va_sld hx hb hX hbl hbA hS (by unfold vp_in; decide) d_law_264 ?_
      refine W.eq (g2 := F0 m 265 ls [.int (xs 3), .int (xs 2), .int (xs 1), .ref xm, .int r243]) rfl ?_
      refine lv_aload_n hx hb d_law_265 rfl (lv_at hl 4 rfl) ?_
      refine lv_iload hx hb d_law_266 (lv_at hl 0 rfl) ?_
      refine lv_iconst (v := 4) hx hb d_law_268 (by decide) ?_
      refine lv_iadd hx hb d_law_269 ?_
      refine W.eq (g2 := F0 m 270 ls [.int 4, .ref b, .int (xs 3), .int (xs 2), .int (xs 1), .ref xm, .int r243]) (by rw [show ((0 + 4) : Int32) = 4 from by decide]) ?_
      refine va_sld hx hb hX hbl hbA hS (by unfold vp_in; decide) d_law_270 ?_
      refine W.eq (g2 := F0 m 271 ls [.int (xs 4), .int (xs 3), .int (xs 2), .int (xs 1), .ref xm, .int r243]) rfl ?_
      have hPc := hP.sub (ws' := [(xm, .inr (11, [.int 0, .ref atext, .int 0, .int 1, .ref akind, .ref aparent, .ref amode, .ref aowner, .ref agroup, .ref asize, .ref aseed, .ref aname, .ref anameSize, .ref atarget, .ref atargetSize, .ref abase, .ref abaseSize, .ref aextension, .ref aextensionSize, .ref aimage, .int 0, .ref atable, .ref asector, .ref asectors, .ref acontents, .int 0, .int 0, .int 0, .int 0, .ref aabove, .ref aisDirectory, .ref abytes, .ref aplace, .ref areadMode, .ref areadOwner, .ref areadGroup, .ref areadName, .ref areadNameSize, .ref areadTarget, .ref areadTargetSize, .ref adepth, .int 0, .int 0, .int 0, .int 0, .int 0, .int 0, .int 0])), (akind, .inl (cI, 40, .inl (fun _ => 0)))]) [0, 1] rfl
      have hDc := hD.sub (ws' := [(xm, .inr (11, [.int 0, .ref atext, .int 0, .int 1, .ref akind, .ref aparent, .ref amode, .ref aowner, .ref agroup, .ref asize, .ref aseed, .ref aname, .ref anameSize, .ref atarget, .ref atargetSize, .ref abase, .ref abaseSize, .ref aextension, .ref aextensionSize, .ref aimage, .int 0, .ref atable, .ref asector, .ref asectors, .ref acontents, .int 0, .int 0, .int 0, .int 0, .ref aabove, .ref aisDirectory, .ref abytes, .ref aplace, .ref areadMode, .ref areadOwner, .ref areadGroup, .ref areadName, .ref areadNameSize, .ref areadTarget, .ref areadTargetSize, .ref adepth, .int 0, .int 0, .int 0, .int 0, .int 0, .int 0, .int 0])), (akind, .inl (cI, 40, .inl (fun _ => 0)))]) [0, 1] (by decide) rfl
      have hFc := va_free (wc := [(xm, .inr (11, [.int 0, .ref atext, .int 0, .int 1, .ref akind, .ref aparent, .ref amode, .ref aowner, .ref agroup, .ref asize, .ref aseed, .ref aname, .ref anameSize, .ref atarget, .ref atargetSize, .ref abase, .ref abaseSize, .ref aextension, .ref aextensionSize, .ref aimage, .int 0, .ref atable, .ref asector, .ref asectors, .ref acontents, .int 0, .int 0, .int 0, .int 0, .ref aabove, .ref aisDirectory, .ref abytes, .ref aplace, .ref areadMode, .ref areadOwner, .ref areadGroup, .ref areadName, .ref areadNameSize, .ref areadTarget, .ref areadTargetSize, .ref adepth, .int 0, .int 0, .int 0, .int 0, .int 0, .int 0, .int 0])), (akind, .inl (cI, 40, .inl (fun _ => 0)))]) hD hS hA [0, 1] rfl
      have hkc : 73 ≤ 600002 := by decide
      have hks : 105328 ≤ 7302232 := by decide
      refine va_calli (va_runV (C := "DiscMakerModel") (As := [.int (xs 1), .int (xs 2), .int (xs 3), .int (xs 4)]) (rest := [.int r243]) ⟨hx, hb, hml, hown, hts⟩ (c_m_directory l D cB cI cJ cZ cN cF H.size xm atext akind aparent amode aowner agroup asize aseed aname anameSize atarget atargetSize abase abaseSize aextension aextensionSize aimage atable asector asectors acontents aabove aisDirectory abytes aplace areadMode areadOwner areadGroup areadName areadNameSize areadTarget areadTargetSize adepth (xs 1) (xs 2) (xs 3) (xs 4)) (cwV 4 hts (lg_goodV k1590 k1591 k1592 k125 kc_DiscMakerModel_directory) rfl rfl rfl (by decide +kernel) ⟨Nat.le_of_ble_eq_true rfl, Nat.le_of_ble_eq_true rfl⟩) ⟨fun a U g mk q => by obtain ⟨q0, q1, qP, qK, qN, qD⟩ := q; exact ⟨q0, q1, qP, va_K.moved (u := U) (U := U.calling g mk a) (Vm.Alike.refl U.vm) qK, qN.calling, qD⟩, va_recv hK hP (ci := 11) (q0 := 0) rfl rfl, fun U hU hW => ⟨rfl, by rw [hU], by rw [hU]; exact hPc, va_K.moved hW.alike hK, NN.warm hW hN, hDc.weaken (fun _ _ _ _ => trivial)⟩⟩ rfl rfl hl.1 rfl (lv_room (Nat.le_of_ble_eq_true rfl)) d_law_271 ⟨hkc, hks⟩) hS (fun q _ h => hFc q h) hFc (fun r271 u t H1 locs ht hvm hp_271 hB hz1 hk1 hS => ?_)
      obtain ⟨hP1, hD1⟩ := hB
      rw [ht] at hP1
      try dsimp only at hp_271
      obtain ⟨hP, hD⟩ := va_join (wr := []) (w1 := []) hP hD [0, 1] [] rfl rfl (by decide) (by decide) hk1 hFc hP1 hD1
      clear hPc hDc hFc hP1 hD1 hk1 hz1
      generalize H1 = H at hP hS ⊢
      have hP : va_P D CL [] H := hP
      have hD : va_D A [] := hD
      refine lv_icmp_eq (tgt := 855) hx hb d_law_274 (by decide) (fun h_274 => ?_) (fun h_274 => absurd (hp_243.trans hp_271.symm) h_274)
      refine lv_iinc (v := 6) hx hb d_law_855 hl (k := 0) rfl (by decide) (by decide) rfl (fun ls hl => ?_)
      have hl : lv_has ls 7 [(4, .int 6), (3, .ref xq), (2, .ref xm), (1, .ref xd), (0, .ref b)] := hl
      refine lv_goto (tgt := 23) hx hb d_law_858 (by decide) ?_
      refine lv_iload hx hb d_law_23 (lv_at hl 0 rfl) ?_
      refine lv_aload_n hx hb d_law_25 rfl (lv_at hl 4 rfl) ?_
      refine va_slen hx hb hX hbl hbA hS d_law_26 ?_
      refine W.eq (g2 := F0 m 27 ls [.int 6, .int 6]) rfl ?_
      refine lv_bipush (v := 6) hx hb d_law_27 (by decide) ?_
      refine lv_isub hx hb d_law_29 ?_
      refine W.eq (g2 := F0 m 30 ls [.int 0, .int 6]) (by rw [show ((6 - 6) : Int32) = 0 from by decide]) ?_
      refine lv_icmp_gt (tgt := 861) hx hb d_law_30 (by decide) (fun h_30 => ?_) (fun h_30 => absurd (by decide) h_30)
      refine lv_iconst (v := 1) hx hb d_law_861 (by decide) ?_
      refine va_forget (fun q hq => by have h9 := hS.2.2 q hq; rw [hAe] at h9; exact h9) ?_
      refine W.widen (k := 600002) (n := 7302232) (by decide) (by decide) ?_
      exact lw_ret hx hb hr hlocks d_law_862
    · skip
      refine lv_tableIn (off := 239) (tgt := 279) hx hb d_law_40 (by decide) (by decide) (by decide) (by decide) ?_
      have hP := hP.sub (ws' := [(xd, .inr (0, [.ref tx, .ref tr, .ref im, .ref mkr, .ref rd])), (tr, .inr (10, [.ref qa, .int 1, .int 1])), (qa, .inl (cN, 40, .inr (.inr (.inr (.inr (va_up (fun _ => none) 0 (some qn))))))), (qn, .inr (5, [.int 0, .ref qm, .ref qk, .ref qt, .int 0, .int 0, .int 0, .int 16877, .int 0, .int 0, .int 0, .int 0])), (tx, .inr (9, [.ref tq, .int 0])), (xm, .inr (11, [.int 0, .ref atext, .int 0, .int 1, .ref akind, .ref aparent, .ref amode, .ref aowner, .ref agroup, .ref asize, .ref aseed, .ref aname, .ref anameSize, .ref atarget, .ref atargetSize, .ref abase, .ref abaseSize, .ref aextension, .ref aextensionSize, .ref aimage, .int 0, .ref atable, .ref asector, .ref asectors, .ref acontents, .int 0, .int 0, .int 0, .int 0, .ref aabove, .ref aisDirectory, .ref abytes, .ref aplace, .ref areadMode, .ref areadOwner, .ref areadGroup, .ref areadName, .ref areadNameSize, .ref areadTarget, .ref areadTargetSize, .ref adepth, .int 0, .int 0, .int 0, .int 0, .int 0, .int 0, .int 0])), (akind, .inl (cI, 40, .inl (fun _ => 0)))]) [0, 3, 4, 5, 1, 34, 36] rfl
      have hD := hD.sub (ws' := [(xd, .inr (0, [.ref tx, .ref tr, .ref im, .ref mkr, .ref rd])), (tr, .inr (10, [.ref qa, .int 1, .int 1])), (qa, .inl (cN, 40, .inr (.inr (.inr (.inr (va_up (fun _ => none) 0 (some qn))))))), (qn, .inr (5, [.int 0, .ref qm, .ref qk, .ref qt, .int 0, .int 0, .int 0, .int 16877, .int 0, .int 0, .int 0, .int 0])), (tx, .inr (9, [.ref tq, .int 0])), (xm, .inr (11, [.int 0, .ref atext, .int 0, .int 1, .ref akind, .ref aparent, .ref amode, .ref aowner, .ref agroup, .ref asize, .ref aseed, .ref aname, .ref anameSize, .ref atarget, .ref atargetSize, .ref abase, .ref abaseSize, .ref aextension, .ref aextensionSize, .ref aimage, .int 0, .ref atable, .ref asector, .ref asectors, .ref acontents, .int 0, .int 0, .int 0, .int 0, .ref aabove, .ref aisDirectory, .ref abytes, .ref aplace, .ref areadMode, .ref areadOwner, .ref areadGroup, .ref areadName, .ref areadNameSize, .ref areadTarget, .ref areadTargetSize, .ref adepth, .int 0, .int 0, .int 0, .int 0, .int 0, .int 0, .int 0])), (akind, .inl (cI, 40, .inl (fun _ => 0)))]) [0, 3, 4, 5, 1, 34, 36] (by decide) rfl
      refine lv_aload_n hx hb d_law_279 rfl (lv_at hl 3 rfl) ?_
      refine lv_aload_n hx hb d_law_280 rfl (lv_at hl 4 rfl) ?_
      refine lv_iload hx hb d_law_281 (lv_at hl 0 rfl) ?_
      refine lv_iconst (v := 1) hx hb d_law_283 (by decide) ?_
      refine lv_iadd hx hb d_law_284 ?_
      refine W.eq (g2 := F0 m 285 ls [.int 1, .ref b, .ref xd]) (by rw [show ((0 + 1) : Int32) = 1 from by decide]) ?_
      refine va_sld hx hb hX hbl hbA hS (by unfold vp_in; decide) d_law_285 ?_
      refine W.eq (g2 := F0 m 286 ls [.int (xs 1), .ref xd]) rfl ?_
      refine lv_aload_n hx hb d_law_286 rfl (lv_at hl 4 rfl) ?_
      refine lv_iload hx hb d_law_287 (lv_at hl 0 rfl) ?_
      refine lv_iconst (v := 2) hx hb d_law_289 (by decide) ?_
      refine lv_iadd hx hb d_law_290 ?_
      refine W.eq (g2 := F0 m 291 ls [.int 2, .ref b, .int (xs 1), .ref xd]) (by rw [show ((0 + 2) : Int32) = 2 from by decide]) ?_
      refine va_sld hx hb hX hbl hbA hS (by unfold vp_in; decide) d_law_291 ?_
      refine W.eq (g2 := F0 m 292 ls [.int (xs 2), .int (xs 1), .ref xd]) rfl ?_
      refine lv_aload_n hx hb d_law_292 rfl (lv_at hl 4 rfl) ?_
      refine lv_iload hx hb d_law_293 (lv_at hl 0 rfl) ?_
      refine lv_iconst (v := 3) hx hb d_law_295 (by decide) ?_
      refine lv_iadd hx hb d_law_296 ?_
      refine W.eq (g2 := F0 m 297 ls [.int 3, .ref b, .int (xs 2), .int (xs 1), .ref xd]) (by rw [show ((0 + 3) : Int32) = 3 from by decide]) ?_
      refine va_sld hx hb hX hbl hbA hS (by unfold vp_in; decide) d_law_297 ?_
      refine W.eq (g2 := F0 m 298 ls [.int (xs 3), .int (xs 2), .int (xs 1), .ref xd]) rfl ?_
      have hPc := hP.sub (ws' := [(xd, .inr (0, [.ref tx, .ref tr, .ref im, .ref mkr, .ref rd])), (tr, .inr (10, [.ref qa, .int 1, .int 1])), (qa, .inl (cN, 40, .inr (.inr (.inr (.inr (va_up (fun _ => none) 0 (some qn))))))), (qn, .inr (5, [.int 0, .ref qm, .ref qk, .ref qt, .int 0, .int 0, .int 0, .int 16877, .int 0, .int 0, .int 0, .int 0])), (tx, .inr (9, [.ref tq, .int 0]))]) [0, 1, 2, 3, 4] rfl
      have hDc := hD.sub (ws' := [(xd, .inr (0, [.ref tx, .ref tr, .ref im, .ref mkr, .ref rd])), (tr, .inr (10, [.ref qa, .int 1, .int 1])), (qa, .inl (cN, 40, .inr (.inr (.inr (.inr (va_up (fun _ => none) 0 (some qn))))))), (qn, .inr (5, [.int 0, .ref qm, .ref qk, .ref qt, .int 0, .int 0, .int 0, .int 16877, .int 0, .int 0, .int 0, .int 0])), (tx, .inr (9, [.ref tq, .int 0]))]) [0, 1, 2, 3, 4] (by decide) rfl
      have hFc := va_free (wc := [(xd, .inr (0, [.ref tx, .ref tr, .ref im, .ref mkr, .ref rd])), (tr, .inr (10, [.ref qa, .int 1, .int 1])), (qa, .inl (cN, 40, .inr (.inr (.inr (.inr (va_up (fun _ => none) 0 (some qn))))))), (qn, .inr (5, [.int 0, .ref qm, .ref qk, .ref qt, .int 0, .int 0, .int 0, .int 16877, .int 0, .int 0, .int 0, .int 0])), (tx, .inr (9, [.ref tq, .int 0]))]) hD hS hA [0, 1, 2, 3, 4] rfl
      have hkc : 73 ≤ 600002 := by decide
      have hks : 105328 ≤ 7302232 := by decide
      refine va_calli (va_runV (C := "DiscMaker") (As := [.int (xs 1), .int (xs 2), .int (xs 3)]) (rest := []) ⟨hx, hb, hml, hown, hts⟩ (c_file l D cB cI cJ cZ cN cF H.size xd tx tr im mkr rd qa qn qm qk qt tq (xs 1) (xs 2) (xs 3)) (cwV 3 hts (lg_goodV k872 k873 k874 k115 kc_DiscMaker_file) rfl rfl rfl (by decide +kernel) ⟨Nat.le_of_ble_eq_true rfl, Nat.le_of_ble_eq_true rfl⟩) ⟨fun a U g mk q => by obtain ⟨q0, q1, qP, qK, qN, qD⟩ := q; exact ⟨q0, q1, qP, va_K.moved (u := U) (U := U.calling g mk a) (Vm.Alike.refl U.vm) qK, qN.calling, qD⟩, va_recv hK hP (ci := 0) (q0 := 0) rfl rfl, fun U hU hW => ⟨rfl, by rw [hU], by rw [hU]; exact hPc, va_K.moved hW.alike hK, NN.warm hW hN, hDc.weaken (fun _ _ _ _ => trivial)⟩⟩ rfl rfl hl.1 rfl (lv_room (Nat.le_of_ble_eq_true rfl)) d_law_298 ⟨hkc, hks⟩) hS (fun q _ h => hFc q h) hFc (fun r298 u t H1 locs ht hvm hp_298 hB hz1 hk1 hS => ?_)
      obtain ⟨hP1, hD1⟩ := hB
      rw [ht] at hP1
      try dsimp only at hp_298
      obtain ⟨hP, hD⟩ := va_join (wr := [(xm, .inr (11, [.int 0, .ref atext, .int 0, .int 1, .ref akind, .ref aparent, .ref amode, .ref aowner, .ref agroup, .ref asize, .ref aseed, .ref aname, .ref anameSize, .ref atarget, .ref atargetSize, .ref abase, .ref abaseSize, .ref aextension, .ref aextensionSize, .ref aimage, .int 0, .ref atable, .ref asector, .ref asectors, .ref acontents, .int 0, .int 0, .int 0, .int 0, .ref aabove, .ref aisDirectory, .ref abytes, .ref aplace, .ref areadMode, .ref areadOwner, .ref areadGroup, .ref areadName, .ref areadNameSize, .ref areadTarget, .ref areadTargetSize, .ref adepth, .int 0, .int 0, .int 0, .int 0, .int 0, .int 0, .int 0])), (akind, .inl (cI, 40, .inl (fun _ => 0)))]) (w1 := []) hP hD [0, 1, 2, 3, 4] [5, 6] rfl rfl (by decide) (by decide) hk1 hFc hP1 hD1
      clear hPc hDc hFc hP1 hD1 hk1 hz1
      generalize H1 = H at hP hS ⊢
      have hP : va_P D CL [(xm, .inr (11, [.int 0, .ref atext, .int 0, .int 1, .ref akind, .ref aparent, .ref amode, .ref aowner, .ref agroup, .ref asize, .ref aseed, .ref aname, .ref anameSize, .ref atarget, .ref atargetSize, .ref abase, .ref abaseSize, .ref aextension, .ref aextensionSize, .ref aimage, .int 0, .ref atable, .ref asector, .ref asectors, .ref acontents, .int 0, .int 0, .int 0, .int 0, .ref aabove, .ref aisDirectory, .ref abytes, .ref aplace, .ref areadMode, .ref areadOwner, .ref areadGroup, .ref areadName, .ref areadNameSize, .ref areadTarget, .ref areadTargetSize, .ref adepth, .int 0, .int 0, .int 0, .int 0, .int 0, .int 0, .int 0])), (akind, .inl (cI, 40, .inl (fun _ => 0)))] H := hP
      have hD : va_D A [(xm, .inr (11, [.int 0, .ref atext, .int 0, .int 1, .ref akind, .ref aparent, .ref amode, .ref aowner, .ref agroup, .ref asize, .ref aseed, .ref aname, .ref anameSize, .ref atarget, .ref atargetSize, .ref abase, .ref abaseSize, .ref aextension, .ref aextensionSize, .ref aimage, .int 0, .ref atable, .ref asector, .ref asectors, .ref acontents, .int 0, .int 0, .int 0, .int 0, .ref aabove, .ref aisDirectory, .ref abytes, .ref aplace, .ref areadMode, .ref areadOwner, .ref areadGroup, .ref areadName, .ref areadNameSize, .ref areadTarget, .ref areadTargetSize, .ref adepth, .int 0, .int 0, .int 0, .int 0, .int 0, .int 0, .int 0])), (akind, .inl (cI, 40, .inl (fun _ => 0)))] := hD
      refine W.widen (k := 73) (n := 105328) (by decide) (by decide) ?_
      refine lv_aload_n hx hb d_law_301 rfl (lv_at hl 2 rfl) ?_
      refine lv_aload_n hx hb d_law_302 rfl (lv_at hl 4 rfl) ?_
      refine lv_iload hx hb d_law_303 (lv_at hl 0 rfl) ?_
      refine lv_iconst (v := 1) hx hb d_law_305 (by decide) ?_
      refine lv_iadd hx hb d_law_306 ?_
      refine W.eq (g2 := F0 m 307 ls [.int 1, .ref b, .ref xm, .int r298]) (by rw [show ((0 + 1) : Int32) = 1 from by decide]) ?_
      refine va_sld hx hb hX hbl hbA hS (by unfold vp_in; decide) d_law_307 ?_
      refine W.eq (g2 := F0 m 308 ls [.int (xs 1), .ref xm, .int r298]) rfl ?_
      refine lv_aload_n hx hb d_law_308 rfl (lv_at hl 4 rfl) ?_
      refine lv_iload hx hb d_law_309 (lv_at hl 0 rfl) ?_
      refine lv_iconst (v := 2) hx hb d_law_311 (by decide) ?_
      refine lv_iadd hx hb d_law_312 ?_
      refine W.eq (g2 := F0 m 313 ls [.int 2, .ref b, .int (xs 1), .ref xm, .int r298]) (by rw [show ((0 + 2) : Int32) = 2 from by decide]) ?_
      refine va_sld hx hb hX hbl hbA hS (by unfold vp_in; decide) d_law_313 ?_
      refine W.eq (g2 := F0 m 314 ls [.int (xs 2), .int (xs 1), .ref xm, .int r298]) rfl ?_
      refine lv_aload_n hx hb d_law_314 rfl (lv_at hl 4 rfl) ?_
      refine lv_iload hx hb d_law_315 (lv_at hl 0 rfl) ?_
      refine lv_iconst (v := 3) hx hb d_law_317 (by decide) ?_
      refine lv_iadd hx hb d_law_318 ?_
      refine W.eq (g2 := F0 m 319 ls [.int 3, .ref b, .int (xs 2), .int (xs 1), .ref xm, .int r298]) (by rw [show ((0 + 3) : Int32) = 3 from by decide]) ?_
      refine va_sld hx hb hX hbl hbA hS (by unfold vp_in; decide) d_law_319 ?_
      refine W.eq (g2 := F0 m 320 ls [.int (xs 3), .int (xs 2), .int (xs 1), .ref xm, .int r298]) rfl ?_
      have hPc := hP.sub (ws' := [(xm, .inr (11, [.int 0, .ref atext, .int 0, .int 1, .ref akind, .ref aparent, .ref amode, .ref aowner, .ref agroup, .ref asize, .ref aseed, .ref aname, .ref anameSize, .ref atarget, .ref atargetSize, .ref abase, .ref abaseSize, .ref aextension, .ref aextensionSize, .ref aimage, .int 0, .ref atable, .ref asector, .ref asectors, .ref acontents, .int 0, .int 0, .int 0, .int 0, .ref aabove, .ref aisDirectory, .ref abytes, .ref aplace, .ref areadMode, .ref areadOwner, .ref areadGroup, .ref areadName, .ref areadNameSize, .ref areadTarget, .ref areadTargetSize, .ref adepth, .int 0, .int 0, .int 0, .int 0, .int 0, .int 0, .int 0])), (akind, .inl (cI, 40, .inl (fun _ => 0)))]) [0, 1] rfl
      have hDc := hD.sub (ws' := [(xm, .inr (11, [.int 0, .ref atext, .int 0, .int 1, .ref akind, .ref aparent, .ref amode, .ref aowner, .ref agroup, .ref asize, .ref aseed, .ref aname, .ref anameSize, .ref atarget, .ref atargetSize, .ref abase, .ref abaseSize, .ref aextension, .ref aextensionSize, .ref aimage, .int 0, .ref atable, .ref asector, .ref asectors, .ref acontents, .int 0, .int 0, .int 0, .int 0, .ref aabove, .ref aisDirectory, .ref abytes, .ref aplace, .ref areadMode, .ref areadOwner, .ref areadGroup, .ref areadName, .ref areadNameSize, .ref areadTarget, .ref areadTargetSize, .ref adepth, .int 0, .int 0, .int 0, .int 0, .int 0, .int 0, .int 0])), (akind, .inl (cI, 40, .inl (fun _ => 0)))]) [0, 1] (by decide) rfl
      have hFc := va_free (wc := [(xm, .inr (11, [.int 0, .ref atext, .int 0, .int 1, .ref akind, .ref aparent, .ref amode, .ref aowner, .ref agroup, .ref asize, .ref aseed, .ref aname, .ref anameSize, .ref atarget, .ref atargetSize, .ref abase, .ref abaseSize, .ref aextension, .ref aextensionSize, .ref aimage, .int 0, .ref atable, .ref asector, .ref asectors, .ref acontents, .int 0, .int 0, .int 0, .int 0, .ref aabove, .ref aisDirectory, .ref abytes, .ref aplace, .ref areadMode, .ref areadOwner, .ref areadGroup, .ref areadName, .ref areadNameSize, .ref areadTarget, .ref areadTargetSize, .ref adepth, .int 0, .int 0, .int 0, .int 0, .int 0, .int 0, .int 0])), (akind, .inl (cI, 40, .inl (fun _ => 0)))]) hD hS hA [0, 1] rfl
      have hkc : 73 ≤ 600002 := by decide
      have hks : 105328 ≤ 7302232 := by decide
      refine va_calli (va_runV (C := "DiscMakerModel") (As := [.int (xs 1), .int (xs 2), .int (xs 3)]) (rest := [.int r298]) ⟨hx, hb, hml, hown, hts⟩ (c_m_file l D cB cI cJ cZ cN cF H.size xm atext akind aparent amode aowner agroup asize aseed aname anameSize atarget atargetSize abase abaseSize aextension aextensionSize aimage atable asector asectors acontents aabove aisDirectory abytes aplace areadMode areadOwner areadGroup areadName areadNameSize areadTarget areadTargetSize adepth (xs 1) (xs 2) (xs 3)) (cwV 3 hts (lg_goodV k1632 k1633 k1634 k125 kc_DiscMakerModel_file) rfl rfl rfl (by decide +kernel) ⟨Nat.le_of_ble_eq_true rfl, Nat.le_of_ble_eq_true rfl⟩) ⟨fun a U g mk q => by obtain ⟨q0, q1, qP, qK, qN, qD⟩ := q; exact ⟨q0, q1, qP, va_K.moved (u := U) (U := U.calling g mk a) (Vm.Alike.refl U.vm) qK, qN.calling, qD⟩, va_recv hK hP (ci := 11) (q0 := 0) rfl rfl, fun U hU hW => ⟨rfl, by rw [hU], by rw [hU]; exact hPc, va_K.moved hW.alike hK, NN.warm hW hN, hDc.weaken (fun _ _ _ _ => trivial)⟩⟩ rfl rfl hl.1 rfl (lv_room (Nat.le_of_ble_eq_true rfl)) d_law_320 ⟨hkc, hks⟩) hS (fun q _ h => hFc q h) hFc (fun r320 u t H1 locs ht hvm hp_320 hB hz1 hk1 hS => ?_)
      obtain ⟨hP1, hD1⟩ := hB
      rw [ht] at hP1
      try dsimp only at hp_320
      obtain ⟨hP, hD⟩ := va_join (wr := []) (w1 := []) hP hD [0, 1] [] rfl rfl (by decide) (by decide) hk1 hFc hP1 hD1
      clear hPc hDc hFc hP1 hD1 hk1 hz1
      generalize H1 = H at hP hS ⊢
      have hP : va_P D CL [] H := hP
      have hD : va_D A [] := hD
      refine lv_icmp_eq (tgt := 855) hx hb d_law_323 (by decide) (fun h_323 => ?_) (fun h_323 => absurd (hp_298.trans hp_320.symm) h_323)
      refine lv_iinc (v := 6) hx hb d_law_855 hl (k := 0) rfl (by decide) (by decide) rfl (fun ls hl => ?_)
      have hl : lv_has ls 7 [(4, .int 6), (3, .ref xq), (2, .ref xm), (1, .ref xd), (0, .ref b)] := hl
      refine lv_goto (tgt := 23) hx hb d_law_858 (by decide) ?_
      refine lv_iload hx hb d_law_23 (lv_at hl 0 rfl) ?_
      refine lv_aload_n hx hb d_law_25 rfl (lv_at hl 4 rfl) ?_
      refine va_slen hx hb hX hbl hbA hS d_law_26 ?_
      refine W.eq (g2 := F0 m 27 ls [.int 6, .int 6]) rfl ?_
      refine lv_bipush (v := 6) hx hb d_law_27 (by decide) ?_
      refine lv_isub hx hb d_law_29 ?_
      refine W.eq (g2 := F0 m 30 ls [.int 0, .int 6]) (by rw [show ((6 - 6) : Int32) = 0 from by decide]) ?_
      refine lv_icmp_gt (tgt := 861) hx hb d_law_30 (by decide) (fun h_30 => ?_) (fun h_30 => absurd (by decide) h_30)
      refine lv_iconst (v := 1) hx hb d_law_861 (by decide) ?_
      refine va_forget (fun q hq => by have h9 := hS.2.2 q hq; rw [hAe] at h9; exact h9) ?_
      refine W.widen (k := 600002) (n := 7302232) (by decide) (by decide) ?_
      exact lw_ret hx hb hr hlocks d_law_862
    · skip
      refine lv_tableIn (off := 288) (tgt := 328) hx hb d_law_40 (by decide) (by decide) (by decide) (by decide) ?_
      have hP := hP.sub (ws' := [(xd, .inr (0, [.ref tx, .ref tr, .ref im, .ref mkr, .ref rd])), (tx, .inr (9, [.ref tq, .int 0])), (xm, .inr (11, [.int 0, .ref atext, .int 0, .int 1, .ref akind, .ref aparent, .ref amode, .ref aowner, .ref agroup, .ref asize, .ref aseed, .ref aname, .ref anameSize, .ref atarget, .ref atargetSize, .ref abase, .ref abaseSize, .ref aextension, .ref aextensionSize, .ref aimage, .int 0, .ref atable, .ref asector, .ref asectors, .ref acontents, .int 0, .int 0, .int 0, .int 0, .ref aabove, .ref aisDirectory, .ref abytes, .ref aplace, .ref areadMode, .ref areadOwner, .ref areadGroup, .ref areadName, .ref areadNameSize, .ref areadTarget, .ref areadTargetSize, .ref adepth, .int 0, .int 0, .int 0, .int 0, .int 0, .int 0, .int 0])), (akind, .inl (cI, 40, .inl (fun _ => 0)))]) [0, 1, 34, 36] rfl
      have hD := hD.sub (ws' := [(xd, .inr (0, [.ref tx, .ref tr, .ref im, .ref mkr, .ref rd])), (tx, .inr (9, [.ref tq, .int 0])), (xm, .inr (11, [.int 0, .ref atext, .int 0, .int 1, .ref akind, .ref aparent, .ref amode, .ref aowner, .ref agroup, .ref asize, .ref aseed, .ref aname, .ref anameSize, .ref atarget, .ref atargetSize, .ref abase, .ref abaseSize, .ref aextension, .ref aextensionSize, .ref aimage, .int 0, .ref atable, .ref asector, .ref asectors, .ref acontents, .int 0, .int 0, .int 0, .int 0, .ref aabove, .ref aisDirectory, .ref abytes, .ref aplace, .ref areadMode, .ref areadOwner, .ref areadGroup, .ref areadName, .ref areadNameSize, .ref areadTarget, .ref areadTargetSize, .ref adepth, .int 0, .int 0, .int 0, .int 0, .int 0, .int 0, .int 0])), (akind, .inl (cI, 40, .inl (fun _ => 0)))]) [0, 1, 34, 36] (by decide) rfl
      refine lv_aload_n hx hb d_law_328 rfl (lv_at hl 3 rfl) ?_
      refine lv_aload_n hx hb d_law_329 rfl (lv_at hl 4 rfl) ?_
      refine lv_iload hx hb d_law_330 (lv_at hl 0 rfl) ?_
      refine lv_iconst (v := 1) hx hb d_law_332 (by decide) ?_
      refine lv_iadd hx hb d_law_333 ?_
      refine W.eq (g2 := F0 m 334 ls [.int 1, .ref b, .ref xd]) (by rw [show ((0 + 1) : Int32) = 1 from by decide]) ?_
      refine va_sld hx hb hX hbl hbA hS (by unfold vp_in; decide) d_law_334 ?_
      refine W.eq (g2 := F0 m 335 ls [.int (xs 1), .ref xd]) rfl ?_
      have hPc := hP.sub (ws' := [(xd, .inr (0, [.ref tx, .ref tr, .ref im, .ref mkr, .ref rd])), (tx, .inr (9, [.ref tq, .int 0]))]) [0, 1] rfl
      have hDc := hD.sub (ws' := [(xd, .inr (0, [.ref tx, .ref tr, .ref im, .ref mkr, .ref rd])), (tx, .inr (9, [.ref tq, .int 0]))]) [0, 1] (by decide) rfl
      have hFc := va_free (wc := [(xd, .inr (0, [.ref tx, .ref tr, .ref im, .ref mkr, .ref rd])), (tx, .inr (9, [.ref tq, .int 0]))]) hD hS hA [0, 1] rfl
      have hkc : 70 ≤ 600002 := by decide
      have hks : 105305 ≤ 7302232 := by decide
      refine va_calli (va_runV (C := "DiscMaker") (As := [.int (xs 1)]) (rest := []) ⟨hx, hb, hml, hown, hts⟩ (c_link l D cB cI cJ cZ cN cF H.size xd tx tr im mkr rd tq (xs 1)) (cwV 1 hts (lg_goodV k876 k877 k878 k115 kc_DiscMaker_link) rfl rfl rfl (by decide +kernel) ⟨Nat.le_of_ble_eq_true rfl, Nat.le_of_ble_eq_true rfl⟩) ⟨fun a U g mk q => by obtain ⟨q0, q1, qP, qK, qN, qD⟩ := q; exact ⟨q0, q1, qP, va_K.moved (u := U) (U := U.calling g mk a) (Vm.Alike.refl U.vm) qK, qN.calling, qD⟩, va_recv hK hP (ci := 0) (q0 := 0) rfl rfl, fun U hU hW => ⟨rfl, by rw [hU], by rw [hU]; exact hPc, va_K.moved hW.alike hK, NN.warm hW hN, hDc.weaken (fun _ _ _ _ => trivial)⟩⟩ rfl rfl hl.1 rfl (lv_room (Nat.le_of_ble_eq_true rfl)) d_law_335 ⟨hkc, hks⟩) hS (fun q _ h => hFc q h) hFc (fun r335 u t H1 locs ht hvm hp_335 hB hz1 hk1 hS => ?_)
      obtain ⟨hP1, hD1⟩ := hB
      rw [ht] at hP1
      try dsimp only at hp_335
      obtain ⟨hP, hD⟩ := va_join (wr := [(xm, .inr (11, [.int 0, .ref atext, .int 0, .int 1, .ref akind, .ref aparent, .ref amode, .ref aowner, .ref agroup, .ref asize, .ref aseed, .ref aname, .ref anameSize, .ref atarget, .ref atargetSize, .ref abase, .ref abaseSize, .ref aextension, .ref aextensionSize, .ref aimage, .int 0, .ref atable, .ref asector, .ref asectors, .ref acontents, .int 0, .int 0, .int 0, .int 0, .ref aabove, .ref aisDirectory, .ref abytes, .ref aplace, .ref areadMode, .ref areadOwner, .ref areadGroup, .ref areadName, .ref areadNameSize, .ref areadTarget, .ref areadTargetSize, .ref adepth, .int 0, .int 0, .int 0, .int 0, .int 0, .int 0, .int 0])), (akind, .inl (cI, 40, .inl (fun _ => 0)))]) (w1 := []) hP hD [0, 1] [2, 3] rfl rfl (by decide) (by decide) hk1 hFc hP1 hD1
      clear hPc hDc hFc hP1 hD1 hk1 hz1
      generalize H1 = H at hP hS ⊢
      have hP : va_P D CL [(xm, .inr (11, [.int 0, .ref atext, .int 0, .int 1, .ref akind, .ref aparent, .ref amode, .ref aowner, .ref agroup, .ref asize, .ref aseed, .ref aname, .ref anameSize, .ref atarget, .ref atargetSize, .ref abase, .ref abaseSize, .ref aextension, .ref aextensionSize, .ref aimage, .int 0, .ref atable, .ref asector, .ref asectors, .ref acontents, .int 0, .int 0, .int 0, .int 0, .ref aabove, .ref aisDirectory, .ref abytes, .ref aplace, .ref areadMode, .ref areadOwner, .ref areadGroup, .ref areadName, .ref areadNameSize, .ref areadTarget, .ref areadTargetSize, .ref adepth, .int 0, .int 0, .int 0, .int 0, .int 0, .int 0, .int 0])), (akind, .inl (cI, 40, .inl (fun _ => 0)))] H := hP
      have hD : va_D A [(xm, .inr (11, [.int 0, .ref atext, .int 0, .int 1, .ref akind, .ref aparent, .ref amode, .ref aowner, .ref agroup, .ref asize, .ref aseed, .ref aname, .ref anameSize, .ref atarget, .ref atargetSize, .ref abase, .ref abaseSize, .ref aextension, .ref aextensionSize, .ref aimage, .int 0, .ref atable, .ref asector, .ref asectors, .ref acontents, .int 0, .int 0, .int 0, .int 0, .ref aabove, .ref aisDirectory, .ref abytes, .ref aplace, .ref areadMode, .ref areadOwner, .ref areadGroup, .ref areadName, .ref areadNameSize, .ref areadTarget, .ref areadTargetSize, .ref adepth, .int 0, .int 0, .int 0, .int 0, .int 0, .int 0, .int 0])), (akind, .inl (cI, 40, .inl (fun _ => 0)))] := hD
      refine W.widen (k := 70) (n := 105305) (by decide) (by decide) ?_
      refine lv_aload_n hx hb d_law_338 rfl (lv_at hl 2 rfl) ?_
      refine lv_aload_n hx hb d_law_339 rfl (lv_at hl 4 rfl) ?_
      refine lv_iload hx hb d_law_340 (lv_at hl 0 rfl) ?_
      refine lv_iconst (v := 1) hx hb d_law_342 (by decide) ?_
      refine lv_iadd hx hb d_law_343 ?_
      refine W.eq (g2 := F0 m 344 ls [.int 1, .ref b, .ref xm, .int r335]) (by rw [show ((0 + 1) : Int32) = 1 from by decide]) ?_
      refine va_sld hx hb hX hbl hbA hS (by unfold vp_in; decide) d_law_344 ?_
      refine W.eq (g2 := F0 m 345 ls [.int (xs 1), .ref xm, .int r335]) rfl ?_
      have hPc := hP.sub (ws' := [(xm, .inr (11, [.int 0, .ref atext, .int 0, .int 1, .ref akind, .ref aparent, .ref amode, .ref aowner, .ref agroup, .ref asize, .ref aseed, .ref aname, .ref anameSize, .ref atarget, .ref atargetSize, .ref abase, .ref abaseSize, .ref aextension, .ref aextensionSize, .ref aimage, .int 0, .ref atable, .ref asector, .ref asectors, .ref acontents, .int 0, .int 0, .int 0, .int 0, .ref aabove, .ref aisDirectory, .ref abytes, .ref aplace, .ref areadMode, .ref areadOwner, .ref areadGroup, .ref areadName, .ref areadNameSize, .ref areadTarget, .ref areadTargetSize, .ref adepth, .int 0, .int 0, .int 0, .int 0, .int 0, .int 0, .int 0])), (akind, .inl (cI, 40, .inl (fun _ => 0)))]) [0, 1] rfl
      have hDc := hD.sub (ws' := [(xm, .inr (11, [.int 0, .ref atext, .int 0, .int 1, .ref akind, .ref aparent, .ref amode, .ref aowner, .ref agroup, .ref asize, .ref aseed, .ref aname, .ref anameSize, .ref atarget, .ref atargetSize, .ref abase, .ref abaseSize, .ref aextension, .ref aextensionSize, .ref aimage, .int 0, .ref atable, .ref asector, .ref asectors, .ref acontents, .int 0, .int 0, .int 0, .int 0, .ref aabove, .ref aisDirectory, .ref abytes, .ref aplace, .ref areadMode, .ref areadOwner, .ref areadGroup, .ref areadName, .ref areadNameSize, .ref areadTarget, .ref areadTargetSize, .ref adepth, .int 0, .int 0, .int 0, .int 0, .int 0, .int 0, .int 0])), (akind, .inl (cI, 40, .inl (fun _ => 0)))]) [0, 1] (by decide) rfl
      have hFc := va_free (wc := [(xm, .inr (11, [.int 0, .ref atext, .int 0, .int 1, .ref akind, .ref aparent, .ref amode, .ref aowner, .ref agroup, .ref asize, .ref aseed, .ref aname, .ref anameSize, .ref atarget, .ref atargetSize, .ref abase, .ref abaseSize, .ref aextension, .ref aextensionSize, .ref aimage, .int 0, .ref atable, .ref asector, .ref asectors, .ref acontents, .int 0, .int 0, .int 0, .int 0, .ref aabove, .ref aisDirectory, .ref abytes, .ref aplace, .ref areadMode, .ref areadOwner, .ref areadGroup, .ref areadName, .ref areadNameSize, .ref areadTarget, .ref areadTargetSize, .ref adepth, .int 0, .int 0, .int 0, .int 0, .int 0, .int 0, .int 0])), (akind, .inl (cI, 40, .inl (fun _ => 0)))]) hD hS hA [0, 1] rfl
      have hkc : 70 ≤ 600002 := by decide
      have hks : 105305 ≤ 7302232 := by decide
      refine va_calli (va_runV (C := "DiscMakerModel") (As := [.int (xs 1)]) (rest := [.int r335]) ⟨hx, hb, hml, hown, hts⟩ (c_m_link l D cB cI cJ cZ cN cF H.size xm atext akind aparent amode aowner agroup asize aseed aname anameSize atarget atargetSize abase abaseSize aextension aextensionSize aimage atable asector asectors acontents aabove aisDirectory abytes aplace areadMode areadOwner areadGroup areadName areadNameSize areadTarget areadTargetSize adepth (xs 1)) (cwV 1 hts (lg_goodV k1636 k1637 k1638 k125 kc_DiscMakerModel_link) rfl rfl rfl (by decide +kernel) ⟨Nat.le_of_ble_eq_true rfl, Nat.le_of_ble_eq_true rfl⟩) ⟨fun a U g mk q => by obtain ⟨q0, q1, qP, qK, qN, qD⟩ := q; exact ⟨q0, q1, qP, va_K.moved (u := U) (U := U.calling g mk a) (Vm.Alike.refl U.vm) qK, qN.calling, qD⟩, va_recv hK hP (ci := 11) (q0 := 0) rfl rfl, fun U hU hW => ⟨rfl, by rw [hU], by rw [hU]; exact hPc, va_K.moved hW.alike hK, NN.warm hW hN, hDc.weaken (fun _ _ _ _ => trivial)⟩⟩ rfl rfl hl.1 rfl (lv_room (Nat.le_of_ble_eq_true rfl)) d_law_345 ⟨hkc, hks⟩) hS (fun q _ h => hFc q h) hFc (fun r345 u t H1 locs ht hvm hp_345 hB hz1 hk1 hS => ?_)
      obtain ⟨hP1, hD1⟩ := hB
      rw [ht] at hP1
      try dsimp only at hp_345
      obtain ⟨hP, hD⟩ := va_join (wr := []) (w1 := []) hP hD [0, 1] [] rfl rfl (by decide) (by decide) hk1 hFc hP1 hD1
      clear hPc hDc hFc hP1 hD1 hk1 hz1
      generalize H1 = H at hP hS ⊢
      have hP : va_P D CL [] H := hP
      have hD : va_D A [] := hD
      refine lv_icmp_eq (tgt := 855) hx hb d_law_348 (by decide) (fun h_348 => ?_) (fun h_348 => absurd (hp_335.trans hp_345.symm) h_348)
      refine lv_iinc (v := 6) hx hb d_law_855 hl (k := 0) rfl (by decide) (by decide) rfl (fun ls hl => ?_)
      have hl : lv_has ls 7 [(4, .int 6), (3, .ref xq), (2, .ref xm), (1, .ref xd), (0, .ref b)] := hl
      refine lv_goto (tgt := 23) hx hb d_law_858 (by decide) ?_
      refine lv_iload hx hb d_law_23 (lv_at hl 0 rfl) ?_
      refine lv_aload_n hx hb d_law_25 rfl (lv_at hl 4 rfl) ?_
      refine va_slen hx hb hX hbl hbA hS d_law_26 ?_
      refine W.eq (g2 := F0 m 27 ls [.int 6, .int 6]) rfl ?_
      refine lv_bipush (v := 6) hx hb d_law_27 (by decide) ?_
      refine lv_isub hx hb d_law_29 ?_
      refine W.eq (g2 := F0 m 30 ls [.int 0, .int 6]) (by rw [show ((6 - 6) : Int32) = 0 from by decide]) ?_
      refine lv_icmp_gt (tgt := 861) hx hb d_law_30 (by decide) (fun h_30 => ?_) (fun h_30 => absurd (by decide) h_30)
      refine lv_iconst (v := 1) hx hb d_law_861 (by decide) ?_
      refine va_forget (fun q hq => by have h9 := hS.2.2 q hq; rw [hAe] at h9; exact h9) ?_
      refine W.widen (k := 600002) (n := 7302232) (by decide) (by decide) ?_
      exact lw_ret hx hb hr hlocks d_law_862
    · skip
      refine lv_tableIn (off := 313) (tgt := 353) hx hb d_law_40 (by decide) (by decide) (by decide) (by decide) ?_
      have hP := hP.sub (ws' := [(xd, .inr (0, [.ref tx, .ref tr, .ref im, .ref mkr, .ref rd])), (tr, .inr (10, [.ref qa, .int 1, .int 1])), (qa, .inl (cN, 40, .inr (.inr (.inr (.inr (va_up (fun _ => none) 0 (some qn))))))), (qn, .inr (5, [.int 0, .ref qm, .ref qk, .ref qt, .int 0, .int 0, .int 0, .int 16877, .int 0, .int 0, .int 0, .int 0])), (xm, .inr (11, [.int 0, .ref atext, .int 0, .int 1, .ref akind, .ref aparent, .ref amode, .ref aowner, .ref agroup, .ref asize, .ref aseed, .ref aname, .ref anameSize, .ref atarget, .ref atargetSize, .ref abase, .ref abaseSize, .ref aextension, .ref aextensionSize, .ref aimage, .int 0, .ref atable, .ref asector, .ref asectors, .ref acontents, .int 0, .int 0, .int 0, .int 0, .ref aabove, .ref aisDirectory, .ref abytes, .ref aplace, .ref areadMode, .ref areadOwner, .ref areadGroup, .ref areadName, .ref areadNameSize, .ref areadTarget, .ref areadTargetSize, .ref adepth, .int 0, .int 0, .int 0, .int 0, .int 0, .int 0, .int 0])), (amode, .inl (cI, 40, .inl (upd (fun _ => 0) 0 16877))), (aowner, .inl (cI, 40, .inl (fun _ => 0))), (agroup, .inl (cI, 40, .inl (fun _ => 0)))]) [0, 3, 4, 5, 34, 38, 39, 40] rfl
      have hD := hD.sub (ws' := [(xd, .inr (0, [.ref tx, .ref tr, .ref im, .ref mkr, .ref rd])), (tr, .inr (10, [.ref qa, .int 1, .int 1])), (qa, .inl (cN, 40, .inr (.inr (.inr (.inr (va_up (fun _ => none) 0 (some qn))))))), (qn, .inr (5, [.int 0, .ref qm, .ref qk, .ref qt, .int 0, .int 0, .int 0, .int 16877, .int 0, .int 0, .int 0, .int 0])), (xm, .inr (11, [.int 0, .ref atext, .int 0, .int 1, .ref akind, .ref aparent, .ref amode, .ref aowner, .ref agroup, .ref asize, .ref aseed, .ref aname, .ref anameSize, .ref atarget, .ref atargetSize, .ref abase, .ref abaseSize, .ref aextension, .ref aextensionSize, .ref aimage, .int 0, .ref atable, .ref asector, .ref asectors, .ref acontents, .int 0, .int 0, .int 0, .int 0, .ref aabove, .ref aisDirectory, .ref abytes, .ref aplace, .ref areadMode, .ref areadOwner, .ref areadGroup, .ref areadName, .ref areadNameSize, .ref areadTarget, .ref areadTargetSize, .ref adepth, .int 0, .int 0, .int 0, .int 0, .int 0, .int 0, .int 0])), (amode, .inl (cI, 40, .inl (upd (fun _ => 0) 0 16877))), (aowner, .inl (cI, 40, .inl (fun _ => 0))), (agroup, .inl (cI, 40, .inl (fun _ => 0)))]) [0, 3, 4, 5, 34, 38, 39, 40] (by decide) rfl
      refine lv_aload_n hx hb d_law_353 rfl (lv_at hl 3 rfl) ?_
      refine lv_aload_n hx hb d_law_354 rfl (lv_at hl 4 rfl) ?_
      refine lv_iload hx hb d_law_355 (lv_at hl 0 rfl) ?_
      refine lv_iconst (v := 1) hx hb d_law_357 (by decide) ?_
      refine lv_iadd hx hb d_law_358 ?_
      refine W.eq (g2 := F0 m 359 ls [.int 1, .ref b, .ref xd]) (by rw [show ((0 + 1) : Int32) = 1 from by decide]) ?_
      refine va_sld hx hb hX hbl hbA hS (by unfold vp_in; decide) d_law_359 ?_
      refine W.eq (g2 := F0 m 360 ls [.int (xs 1), .ref xd]) rfl ?_
      refine lv_aload_n hx hb d_law_360 rfl (lv_at hl 4 rfl) ?_
      refine lv_iload hx hb d_law_361 (lv_at hl 0 rfl) ?_
      refine lv_iconst (v := 2) hx hb d_law_363 (by decide) ?_
      refine lv_iadd hx hb d_law_364 ?_
      refine W.eq (g2 := F0 m 365 ls [.int 2, .ref b, .int (xs 1), .ref xd]) (by rw [show ((0 + 2) : Int32) = 2 from by decide]) ?_
      refine va_sld hx hb hX hbl hbA hS (by unfold vp_in; decide) d_law_365 ?_
      refine W.eq (g2 := F0 m 366 ls [.int (xs 2), .int (xs 1), .ref xd]) rfl ?_
      refine lv_aload_n hx hb d_law_366 rfl (lv_at hl 4 rfl) ?_
      refine lv_iload hx hb d_law_367 (lv_at hl 0 rfl) ?_
      refine lv_iconst (v := 3) hx hb d_law_369 (by decide) ?_
      refine lv_iadd hx hb d_law_370 ?_
      refine W.eq (g2 := F0 m 371 ls [.int 3, .ref b, .int (xs 2), .int (xs 1), .ref xd]) (by rw [show ((0 + 3) : Int32) = 3 from by decide]) ?_
      refine va_sld hx hb hX hbl hbA hS (by unfold vp_in; decide) d_law_371 ?_
      refine W.eq (g2 := F0 m 372 ls [.int (xs 3), .int (xs 2), .int (xs 1), .ref xd]) rfl ?_
      refine lv_aload_n hx hb d_law_372 rfl (lv_at hl 4 rfl) ?_
      refine lv_iload hx hb d_law_373 (lv_at hl 0 rfl) ?_
      refine lv_iconst (v := 4) hx hb d_law_375 (by decide) ?_
      refine lv_iadd hx hb d_law_376 ?_
      refine W.eq (g2 := F0 m 377 ls [.int 4, .ref b, .int (xs 3), .int (xs 2), .int (xs 1), .ref xd]) (by rw [show ((0 + 4) : Int32) = 4 from by decide]) ?_
      refine va_sld hx hb hX hbl hbA hS (by unfold vp_in; decide) d_law_377 ?_
      refine W.eq (g2 := F0 m 378 ls [.int (xs 4), .int (xs 3), .int (xs 2), .int (xs 1), .ref xd]) rfl ?_
      have hPc := hP.sub (ws' := [(xd, .inr (0, [.ref tx, .ref tr, .ref im, .ref mkr, .ref rd])), (tr, .inr (10, [.ref qa, .int 1, .int 1])), (qa, .inl (cN, 40, .inr (.inr (.inr (.inr (va_up (fun _ => none) 0 (some qn))))))), (qn, .inr (5, [.int 0, .ref qm, .ref qk, .ref qt, .int 0, .int 0, .int 0, .int 16877, .int 0, .int 0, .int 0, .int 0]))]) [0, 1, 2, 3] rfl
      have hDc := hD.sub (ws' := [(xd, .inr (0, [.ref tx, .ref tr, .ref im, .ref mkr, .ref rd])), (tr, .inr (10, [.ref qa, .int 1, .int 1])), (qa, .inl (cN, 40, .inr (.inr (.inr (.inr (va_up (fun _ => none) 0 (some qn))))))), (qn, .inr (5, [.int 0, .ref qm, .ref qk, .ref qt, .int 0, .int 0, .int 0, .int 16877, .int 0, .int 0, .int 0, .int 0]))]) [0, 1, 2, 3] (by decide) rfl
      have hFc := va_free (wc := [(xd, .inr (0, [.ref tx, .ref tr, .ref im, .ref mkr, .ref rd])), (tr, .inr (10, [.ref qa, .int 1, .int 1])), (qa, .inl (cN, 40, .inr (.inr (.inr (.inr (va_up (fun _ => none) 0 (some qn))))))), (qn, .inr (5, [.int 0, .ref qm, .ref qk, .ref qt, .int 0, .int 0, .int 0, .int 16877, .int 0, .int 0, .int 0, .int 0]))]) hD hS hA [0, 1, 2, 3] rfl
      have hkc : 69 ≤ 600002 := by decide
      have hks : 105305 ≤ 7302232 := by decide
      refine va_calli (va_runV (C := "DiscMaker") (As := [.int (xs 1), .int (xs 2), .int (xs 3), .int (xs 4)]) (rest := []) ⟨hx, hb, hml, hown, hts⟩ (c_own l D cB cI cJ cZ cN cF H.size xd tx tr im mkr rd qa qn qm qk qt (xs 1) (xs 2) (xs 3) (xs 4)) (cwV 4 hts (lg_goodV k926 k927 k928 k115 kc_DiscMaker_own) rfl rfl rfl (by decide +kernel) ⟨Nat.le_of_ble_eq_true rfl, Nat.le_of_ble_eq_true rfl⟩) ⟨fun a U g mk q => by obtain ⟨q0, q1, qP, qK, qN, qD⟩ := q; exact ⟨q0, q1, qP, va_K.moved (u := U) (U := U.calling g mk a) (Vm.Alike.refl U.vm) qK, qN.calling, qD⟩, va_recv hK hP (ci := 0) (q0 := 0) rfl rfl, fun U hU hW => ⟨rfl, by rw [hU], by rw [hU]; exact hPc, va_K.moved hW.alike hK, NN.warm hW hN, hDc.weaken (fun _ _ _ _ => trivial)⟩⟩ rfl rfl hl.1 rfl (lv_room (Nat.le_of_ble_eq_true rfl)) d_law_378 ⟨hkc, hks⟩) hS (fun q _ h => hFc q h) hFc (fun r378 u t H1 locs ht hvm hp_378 hB hz1 hk1 hS => ?_)
      obtain ⟨hP1, hD1⟩ := hB
      rw [ht] at hP1
      try dsimp only at hp_378
      obtain ⟨hP, hD⟩ := va_join (wr := [(xm, .inr (11, [.int 0, .ref atext, .int 0, .int 1, .ref akind, .ref aparent, .ref amode, .ref aowner, .ref agroup, .ref asize, .ref aseed, .ref aname, .ref anameSize, .ref atarget, .ref atargetSize, .ref abase, .ref abaseSize, .ref aextension, .ref aextensionSize, .ref aimage, .int 0, .ref atable, .ref asector, .ref asectors, .ref acontents, .int 0, .int 0, .int 0, .int 0, .ref aabove, .ref aisDirectory, .ref abytes, .ref aplace, .ref areadMode, .ref areadOwner, .ref areadGroup, .ref areadName, .ref areadNameSize, .ref areadTarget, .ref areadTargetSize, .ref adepth, .int 0, .int 0, .int 0, .int 0, .int 0, .int 0, .int 0])), (amode, .inl (cI, 40, .inl (upd (fun _ => 0) 0 16877))), (aowner, .inl (cI, 40, .inl (fun _ => 0))), (agroup, .inl (cI, 40, .inl (fun _ => 0)))]) (w1 := []) hP hD [0, 1, 2, 3] [4, 5, 6, 7] rfl rfl (by decide) (by decide) hk1 hFc hP1 hD1
      clear hPc hDc hFc hP1 hD1 hk1 hz1
      generalize H1 = H at hP hS ⊢
      have hP : va_P D CL [(xm, .inr (11, [.int 0, .ref atext, .int 0, .int 1, .ref akind, .ref aparent, .ref amode, .ref aowner, .ref agroup, .ref asize, .ref aseed, .ref aname, .ref anameSize, .ref atarget, .ref atargetSize, .ref abase, .ref abaseSize, .ref aextension, .ref aextensionSize, .ref aimage, .int 0, .ref atable, .ref asector, .ref asectors, .ref acontents, .int 0, .int 0, .int 0, .int 0, .ref aabove, .ref aisDirectory, .ref abytes, .ref aplace, .ref areadMode, .ref areadOwner, .ref areadGroup, .ref areadName, .ref areadNameSize, .ref areadTarget, .ref areadTargetSize, .ref adepth, .int 0, .int 0, .int 0, .int 0, .int 0, .int 0, .int 0])), (amode, .inl (cI, 40, .inl (upd (fun _ => 0) 0 16877))), (aowner, .inl (cI, 40, .inl (fun _ => 0))), (agroup, .inl (cI, 40, .inl (fun _ => 0)))] H := hP
      have hD : va_D A [(xm, .inr (11, [.int 0, .ref atext, .int 0, .int 1, .ref akind, .ref aparent, .ref amode, .ref aowner, .ref agroup, .ref asize, .ref aseed, .ref aname, .ref anameSize, .ref atarget, .ref atargetSize, .ref abase, .ref abaseSize, .ref aextension, .ref aextensionSize, .ref aimage, .int 0, .ref atable, .ref asector, .ref asectors, .ref acontents, .int 0, .int 0, .int 0, .int 0, .ref aabove, .ref aisDirectory, .ref abytes, .ref aplace, .ref areadMode, .ref areadOwner, .ref areadGroup, .ref areadName, .ref areadNameSize, .ref areadTarget, .ref areadTargetSize, .ref adepth, .int 0, .int 0, .int 0, .int 0, .int 0, .int 0, .int 0])), (amode, .inl (cI, 40, .inl (upd (fun _ => 0) 0 16877))), (aowner, .inl (cI, 40, .inl (fun _ => 0))), (agroup, .inl (cI, 40, .inl (fun _ => 0)))] := hD
      refine lv_aload_n hx hb d_law_381 rfl (lv_at hl 2 rfl) ?_
      refine lv_aload_n hx hb d_law_382 rfl (lv_at hl 4 rfl) ?_
      refine lv_iload hx hb d_law_383 (lv_at hl 0 rfl) ?_
      refine lv_iconst (v := 1) hx hb d_law_385 (by decide) ?_
      refine lv_iadd hx hb d_law_386 ?_
      refine W.eq (g2 := F0 m 387 ls [.int 1, .ref b, .ref xm, .int r378]) (by rw [show ((0 + 1) : Int32) = 1 from by decide]) ?_
      refine va_sld hx hb hX hbl hbA hS (by unfold vp_in; decide) d_law_387 ?_
      refine W.eq (g2 := F0 m 388 ls [.int (xs 1), .ref xm, .int r378]) rfl ?_
      refine lv_aload_n hx hb d_law_388 rfl (lv_at hl 4 rfl) ?_
      refine lv_iload hx hb d_law_389 (lv_at hl 0 rfl) ?_
      refine lv_iconst (v := 2) hx hb d_law_391 (by decide) ?_
      refine lv_iadd hx hb d_law_392 ?_
      refine W.eq (g2 := F0 m 393 ls [.int 2, .ref b, .int (xs 1), .ref xm, .int r378]) (by rw [show ((0 + 2) : Int32) = 2 from by decide]) ?_
      refine va_sld hx hb hX hbl hbA hS (by unfold vp_in; decide) d_law_393 ?_
      refine W.eq (g2 := F0 m 394 ls [.int (xs 2), .int (xs 1), .ref xm, .int r378]) rfl ?_
      refine lv_aload_n hx hb d_law_394 rfl (lv_at hl 4 rfl) ?_
      refine lv_iload hx hb d_law_395 (lv_at hl 0 rfl) ?_
      refine lv_iconst (v := 3) hx hb d_law_397 (by decide) ?_
      refine lv_iadd hx hb d_law_398 ?_
      refine W.eq (g2 := F0 m 399 ls [.int 3, .ref b, .int (xs 2), .int (xs 1), .ref xm, .int r378]) (by rw [show ((0 + 3) : Int32) = 3 from by decide]) ?_
      refine va_sld hx hb hX hbl hbA hS (by unfold vp_in; decide) d_law_399 ?_
      refine W.eq (g2 := F0 m 400 ls [.int (xs 3), .int (xs 2), .int (xs 1), .ref xm, .int r378]) rfl ?_
      refine lv_aload_n hx hb d_law_400 rfl (lv_at hl 4 rfl) ?_
      refine lv_iload hx hb d_law_401 (lv_at hl 0 rfl) ?_
      refine lv_iconst (v := 4) hx hb d_law_403 (by decide) ?_
      refine lv_iadd hx hb d_law_404 ?_
      refine W.eq (g2 := F0 m 405 ls [.int 4, .ref b, .int (xs 3), .int (xs 2), .int (xs 1), .ref xm, .int r378]) (by rw [show ((0 + 4) : Int32) = 4 from by decide]) ?_
      refine va_sld hx hb hX hbl hbA hS (by unfold vp_in; decide) d_law_405 ?_
      refine W.eq (g2 := F0 m 406 ls [.int (xs 4), .int (xs 3), .int (xs 2), .int (xs 1), .ref xm, .int r378]) rfl ?_
      have hPc := hP.sub (ws' := [(xm, .inr (11, [.int 0, .ref atext, .int 0, .int 1, .ref akind, .ref aparent, .ref amode, .ref aowner, .ref agroup, .ref asize, .ref aseed, .ref aname, .ref anameSize, .ref atarget, .ref atargetSize, .ref abase, .ref abaseSize, .ref aextension, .ref aextensionSize, .ref aimage, .int 0, .ref atable, .ref asector, .ref asectors, .ref acontents, .int 0, .int 0, .int 0, .int 0, .ref aabove, .ref aisDirectory, .ref abytes, .ref aplace, .ref areadMode, .ref areadOwner, .ref areadGroup, .ref areadName, .ref areadNameSize, .ref areadTarget, .ref areadTargetSize, .ref adepth, .int 0, .int 0, .int 0, .int 0, .int 0, .int 0, .int 0])), (amode, .inl (cI, 40, .inl (upd (fun _ => 0) 0 16877))), (aowner, .inl (cI, 40, .inl (fun _ => 0))), (agroup, .inl (cI, 40, .inl (fun _ => 0)))]) [0, 1, 2, 3] rfl
      have hDc := hD.sub (ws' := [(xm, .inr (11, [.int 0, .ref atext, .int 0, .int 1, .ref akind, .ref aparent, .ref amode, .ref aowner, .ref agroup, .ref asize, .ref aseed, .ref aname, .ref anameSize, .ref atarget, .ref atargetSize, .ref abase, .ref abaseSize, .ref aextension, .ref aextensionSize, .ref aimage, .int 0, .ref atable, .ref asector, .ref asectors, .ref acontents, .int 0, .int 0, .int 0, .int 0, .ref aabove, .ref aisDirectory, .ref abytes, .ref aplace, .ref areadMode, .ref areadOwner, .ref areadGroup, .ref areadName, .ref areadNameSize, .ref areadTarget, .ref areadTargetSize, .ref adepth, .int 0, .int 0, .int 0, .int 0, .int 0, .int 0, .int 0])), (amode, .inl (cI, 40, .inl (upd (fun _ => 0) 0 16877))), (aowner, .inl (cI, 40, .inl (fun _ => 0))), (agroup, .inl (cI, 40, .inl (fun _ => 0)))]) [0, 1, 2, 3] (by decide) rfl
      have hFc := va_free (wc := [(xm, .inr (11, [.int 0, .ref atext, .int 0, .int 1, .ref akind, .ref aparent, .ref amode, .ref aowner, .ref agroup, .ref asize, .ref aseed, .ref aname, .ref anameSize, .ref atarget, .ref atargetSize, .ref abase, .ref abaseSize, .ref aextension, .ref aextensionSize, .ref aimage, .int 0, .ref atable, .ref asector, .ref asectors, .ref acontents, .int 0, .int 0, .int 0, .int 0, .ref aabove, .ref aisDirectory, .ref abytes, .ref aplace, .ref areadMode, .ref areadOwner, .ref areadGroup, .ref areadName, .ref areadNameSize, .ref areadTarget, .ref areadTargetSize, .ref adepth, .int 0, .int 0, .int 0, .int 0, .int 0, .int 0, .int 0])), (amode, .inl (cI, 40, .inl (upd (fun _ => 0) 0 16877))), (aowner, .inl (cI, 40, .inl (fun _ => 0))), (agroup, .inl (cI, 40, .inl (fun _ => 0)))]) hD hS hA [0, 1, 2, 3] rfl
      have hkc : 69 ≤ 600002 := by decide
      have hks : 105305 ≤ 7302232 := by decide
      refine va_calli (va_runV (C := "DiscMakerModel") (As := [.int (xs 1), .int (xs 2), .int (xs 3), .int (xs 4)]) (rest := [.int r378]) ⟨hx, hb, hml, hown, hts⟩ (c_m_own l D cB cI cJ cZ cN cF H.size xm atext akind aparent amode aowner agroup asize aseed aname anameSize atarget atargetSize abase abaseSize aextension aextensionSize aimage atable asector asectors acontents aabove aisDirectory abytes aplace areadMode areadOwner areadGroup areadName areadNameSize areadTarget areadTargetSize adepth (upd (fun _ => 0) 0 16877) (fun _ => 0) (fun _ => 0) (xs 1) (xs 2) (xs 3) (xs 4)) (cwV 4 hts (lg_goodV k1644 k1645 k1646 k125 kc_DiscMakerModel_own) rfl rfl rfl (by decide +kernel) ⟨Nat.le_of_ble_eq_true rfl, Nat.le_of_ble_eq_true rfl⟩) ⟨fun a U g mk q => by obtain ⟨q0, q1, qP, qK, qN, qD⟩ := q; exact ⟨q0, q1, qP, va_K.moved (u := U) (U := U.calling g mk a) (Vm.Alike.refl U.vm) qK, qN.calling, qD⟩, va_recv hK hP (ci := 11) (q0 := 0) rfl rfl, fun U hU hW => ⟨rfl, by rw [hU], by rw [hU]; exact hPc, va_K.moved hW.alike hK, NN.warm hW hN, hDc.weaken (fun _ _ _ _ => trivial)⟩⟩ rfl rfl hl.1 rfl (lv_room (Nat.le_of_ble_eq_true rfl)) d_law_406 ⟨hkc, hks⟩) hS (fun q _ h => hFc q h) hFc (fun r406 u t H1 locs ht hvm hp_406 hB hz1 hk1 hS => ?_)
      obtain ⟨hP1, hD1⟩ := hB
      rw [ht] at hP1
      try dsimp only at hp_406
      obtain ⟨hP, hD⟩ := va_join (wr := []) (w1 := []) hP hD [0, 1, 2, 3] [] rfl rfl (by decide) (by decide) hk1 hFc hP1 hD1
      clear hPc hDc hFc hP1 hD1 hk1 hz1
      generalize H1 = H at hP hS ⊢
      have hP : va_P D CL [] H := hP
      have hD : va_D A [] := hD
      refine lv_icmp_eq (tgt := 855) hx hb d_law_409 (by decide) (fun h_409 => ?_) (fun h_409 => absurd (z_same hp_378 hp_406) h_409)
      refine lv_iinc (v := 6) hx hb d_law_855 hl (k := 0) rfl (by decide) (by decide) rfl (fun ls hl => ?_)
      have hl : lv_has ls 7 [(4, .int 6), (3, .ref xq), (2, .ref xm), (1, .ref xd), (0, .ref b)] := hl
      refine lv_goto (tgt := 23) hx hb d_law_858 (by decide) ?_
      refine lv_iload hx hb d_law_23 (lv_at hl 0 rfl) ?_
      refine lv_aload_n hx hb d_law_25 rfl (lv_at hl 4 rfl) ?_
      refine va_slen hx hb hX hbl hbA hS d_law_26 ?_
      refine W.eq (g2 := F0 m 27 ls [.int 6, .int 6]) rfl ?_
      refine lv_bipush (v := 6) hx hb d_law_27 (by decide) ?_
      refine lv_isub hx hb d_law_29 ?_
      refine W.eq (g2 := F0 m 30 ls [.int 0, .int 6]) (by rw [show ((6 - 6) : Int32) = 0 from by decide]) ?_
      refine lv_icmp_gt (tgt := 861) hx hb d_law_30 (by decide) (fun h_30 => ?_) (fun h_30 => absurd (by decide) h_30)
      refine lv_iconst (v := 1) hx hb d_law_861 (by decide) ?_
      refine va_forget (fun q hq => by have h9 := hS.2.2 q hq; rw [hAe] at h9; exact h9) ?_
      refine W.widen (k := 600002) (n := 7302232) (by decide) (by decide) ?_
      exact lw_ret hx hb hr hlocks d_law_862
    · skip
      refine lv_tableIn (off := 374) (tgt := 414) hx hb d_law_40 (by decide) (by decide) (by decide) (by decide) ?_
      have hP := hP.sub (ws' := [(xd, .inr (0, [.ref tx, .ref tr, .ref im, .ref mkr, .ref rd])), (mkr, .inr (4, [.ref tr, .ref im, .ref x, .ref y, .ref z, .ref i, .ref ct, .int 0, .int 0, .int 0])), (x, .inr (3, [.int 0, .int 16, .int 19, .ref xo, .ref xp, .ref xt, .ref xb, .ref xe, .int 0, .int 0])), (xo, .inl (cI, 40, .inl (fun _ => 0))), (xp, .inl (cI, 12, .inl (fun _ => 0))), (xt, .inl (cI, 40, .inl (fun _ => 0))), (xb, .inl (cI, 40, .inl (fun _ => 0))), (xe, .inl (cI, 40, .inl (fun _ => 0))), (y, .inr (3, [.int 1, .int 17, .int 21, .ref yo, .ref yp, .ref yt, .ref yb, .ref ye, .int 0, .int 0])), (yo, .inl (cI, 40, .inl (fun _ => 0))), (yp, .inl (cI, 12, .inl (fun _ => 0))), (yt, .inl (cI, 40, .inl (fun _ => 0))), (yb, .inl (cI, 40, .inl (fun _ => 0))), (ye, .inl (cI, 40, .inl (fun _ => 0))), (z, .inr (8, [.ref zb, .ref ze, .int 0, .int 0])), (zb, .inr (1, [.ref zr, .int 0])), (zr, .inl (cB, 400, .inl (fun _ => 0))), (ze, .inl (cI, 4, .inl (fun _ => 0))), (i, .inr (1, [.ref ir, .int 0])), (ir, .inl (cB, 60, .inl (fun _ => 0))), (ct, .inl (cI, 40, .inl (fun _ => 0))), (tr, .inr (10, [.ref qa, .int 1, .int 1])), (qa, .inl (cN, 40, .inr (.inr (.inr (.inr (va_up (fun _ => none) 0 (some qn))))))), (qn, .inr (5, [.int 0, .ref qm, .ref qk, .ref qt, .int 0, .int 0, .int 0, .int 16877, .int 0, .int 0, .int 0, .int 0])), (im, .inr (1, [.ref iq, .int 0])), (iq, .inl (cB, 0, .inl (fun _ => 0))), (xm, .inr (11, [.int 0, .ref atext, .int 0, .int 1, .ref akind, .ref aparent, .ref amode, .ref aowner, .ref agroup, .ref asize, .ref aseed, .ref aname, .ref anameSize, .ref atarget, .ref atargetSize, .ref abase, .ref abaseSize, .ref aextension, .ref aextensionSize, .ref aimage, .int 0, .ref atable, .ref asector, .ref asectors, .ref acontents, .int 0, .int 0, .int 0, .int 0, .ref aabove, .ref aisDirectory, .ref abytes, .ref aplace, .ref areadMode, .ref areadOwner, .ref areadGroup, .ref areadName, .ref areadNameSize, .ref areadTarget, .ref areadTargetSize, .ref adepth, .int 0, .int 0, .int 0, .int 0, .int 0, .int 0, .int 0])), (aimage, .inl (cJ, 46080, .inr (.inl (fun _ => 0)))), (atable, .inl (cI, 24, .inl (fun _ => 0))), (asector, .inl (cI, 80, .inl (fun _ => 0))), (asectors, .inl (cI, 80, .inl (fun _ => 0))), (akind, .inl (cI, 40, .inl (fun _ => 0))), (amode, .inl (cI, 40, .inl (upd (fun _ => 0) 0 16877))), (aowner, .inl (cI, 40, .inl (fun _ => 0))), (agroup, .inl (cI, 40, .inl (fun _ => 0)))]) [0, 11, 12, 13, 14, 15, 16, 17, 18, 19, 20, 21, 22, 23, 24, 25, 26, 27, 28, 29, 30, 3, 4, 5, 9, 10, 34, 51, 52, 53, 54, 36, 38, 39, 40] rfl
      have hD := hD.sub (ws' := [(xd, .inr (0, [.ref tx, .ref tr, .ref im, .ref mkr, .ref rd])), (mkr, .inr (4, [.ref tr, .ref im, .ref x, .ref y, .ref z, .ref i, .ref ct, .int 0, .int 0, .int 0])), (x, .inr (3, [.int 0, .int 16, .int 19, .ref xo, .ref xp, .ref xt, .ref xb, .ref xe, .int 0, .int 0])), (xo, .inl (cI, 40, .inl (fun _ => 0))), (xp, .inl (cI, 12, .inl (fun _ => 0))), (xt, .inl (cI, 40, .inl (fun _ => 0))), (xb, .inl (cI, 40, .inl (fun _ => 0))), (xe, .inl (cI, 40, .inl (fun _ => 0))), (y, .inr (3, [.int 1, .int 17, .int 21, .ref yo, .ref yp, .ref yt, .ref yb, .ref ye, .int 0, .int 0])), (yo, .inl (cI, 40, .inl (fun _ => 0))), (yp, .inl (cI, 12, .inl (fun _ => 0))), (yt, .inl (cI, 40, .inl (fun _ => 0))), (yb, .inl (cI, 40, .inl (fun _ => 0))), (ye, .inl (cI, 40, .inl (fun _ => 0))), (z, .inr (8, [.ref zb, .ref ze, .int 0, .int 0])), (zb, .inr (1, [.ref zr, .int 0])), (zr, .inl (cB, 400, .inl (fun _ => 0))), (ze, .inl (cI, 4, .inl (fun _ => 0))), (i, .inr (1, [.ref ir, .int 0])), (ir, .inl (cB, 60, .inl (fun _ => 0))), (ct, .inl (cI, 40, .inl (fun _ => 0))), (tr, .inr (10, [.ref qa, .int 1, .int 1])), (qa, .inl (cN, 40, .inr (.inr (.inr (.inr (va_up (fun _ => none) 0 (some qn))))))), (qn, .inr (5, [.int 0, .ref qm, .ref qk, .ref qt, .int 0, .int 0, .int 0, .int 16877, .int 0, .int 0, .int 0, .int 0])), (im, .inr (1, [.ref iq, .int 0])), (iq, .inl (cB, 0, .inl (fun _ => 0))), (xm, .inr (11, [.int 0, .ref atext, .int 0, .int 1, .ref akind, .ref aparent, .ref amode, .ref aowner, .ref agroup, .ref asize, .ref aseed, .ref aname, .ref anameSize, .ref atarget, .ref atargetSize, .ref abase, .ref abaseSize, .ref aextension, .ref aextensionSize, .ref aimage, .int 0, .ref atable, .ref asector, .ref asectors, .ref acontents, .int 0, .int 0, .int 0, .int 0, .ref aabove, .ref aisDirectory, .ref abytes, .ref aplace, .ref areadMode, .ref areadOwner, .ref areadGroup, .ref areadName, .ref areadNameSize, .ref areadTarget, .ref areadTargetSize, .ref adepth, .int 0, .int 0, .int 0, .int 0, .int 0, .int 0, .int 0])), (aimage, .inl (cJ, 46080, .inr (.inl (fun _ => 0)))), (atable, .inl (cI, 24, .inl (fun _ => 0))), (asector, .inl (cI, 80, .inl (fun _ => 0))), (asectors, .inl (cI, 80, .inl (fun _ => 0))), (akind, .inl (cI, 40, .inl (fun _ => 0))), (amode, .inl (cI, 40, .inl (upd (fun _ => 0) 0 16877))), (aowner, .inl (cI, 40, .inl (fun _ => 0))), (agroup, .inl (cI, 40, .inl (fun _ => 0)))]) [0, 11, 12, 13, 14, 15, 16, 17, 18, 19, 20, 21, 22, 23, 24, 25, 26, 27, 28, 29, 30, 3, 4, 5, 9, 10, 34, 51, 52, 53, 54, 36, 38, 39, 40] (by decide) rfl
      refine lv_aload_n hx hb d_law_414 rfl (lv_at hl 3 rfl) ?_
      have hPc := hP.sub (ws' := [(xd, .inr (0, [.ref tx, .ref tr, .ref im, .ref mkr, .ref rd])), (mkr, .inr (4, [.ref tr, .ref im, .ref x, .ref y, .ref z, .ref i, .ref ct, .int 0, .int 0, .int 0])), (x, .inr (3, [.int 0, .int 16, .int 19, .ref xo, .ref xp, .ref xt, .ref xb, .ref xe, .int 0, .int 0])), (xo, .inl (cI, 40, .inl (fun _ => 0))), (xp, .inl (cI, 12, .inl (fun _ => 0))), (xt, .inl (cI, 40, .inl (fun _ => 0))), (xb, .inl (cI, 40, .inl (fun _ => 0))), (xe, .inl (cI, 40, .inl (fun _ => 0))), (y, .inr (3, [.int 1, .int 17, .int 21, .ref yo, .ref yp, .ref yt, .ref yb, .ref ye, .int 0, .int 0])), (yo, .inl (cI, 40, .inl (fun _ => 0))), (yp, .inl (cI, 12, .inl (fun _ => 0))), (yt, .inl (cI, 40, .inl (fun _ => 0))), (yb, .inl (cI, 40, .inl (fun _ => 0))), (ye, .inl (cI, 40, .inl (fun _ => 0))), (z, .inr (8, [.ref zb, .ref ze, .int 0, .int 0])), (zb, .inr (1, [.ref zr, .int 0])), (zr, .inl (cB, 400, .inl (fun _ => 0))), (ze, .inl (cI, 4, .inl (fun _ => 0))), (i, .inr (1, [.ref ir, .int 0])), (ir, .inl (cB, 60, .inl (fun _ => 0))), (ct, .inl (cI, 40, .inl (fun _ => 0))), (tr, .inr (10, [.ref qa, .int 1, .int 1])), (qa, .inl (cN, 40, .inr (.inr (.inr (.inr (va_up (fun _ => none) 0 (some qn))))))), (qn, .inr (5, [.int 0, .ref qm, .ref qk, .ref qt, .int 0, .int 0, .int 0, .int 16877, .int 0, .int 0, .int 0, .int 0])), (im, .inr (1, [.ref iq, .int 0])), (iq, .inl (cB, 0, .inl (fun _ => 0)))]) [0, 1, 2, 3, 4, 5, 6, 7, 8, 9, 10, 11, 12, 13, 14, 15, 16, 17, 18, 19, 20, 21, 22, 23, 24, 25] rfl
      have hDc := hD.sub (ws' := [(xd, .inr (0, [.ref tx, .ref tr, .ref im, .ref mkr, .ref rd])), (mkr, .inr (4, [.ref tr, .ref im, .ref x, .ref y, .ref z, .ref i, .ref ct, .int 0, .int 0, .int 0])), (x, .inr (3, [.int 0, .int 16, .int 19, .ref xo, .ref xp, .ref xt, .ref xb, .ref xe, .int 0, .int 0])), (xo, .inl (cI, 40, .inl (fun _ => 0))), (xp, .inl (cI, 12, .inl (fun _ => 0))), (xt, .inl (cI, 40, .inl (fun _ => 0))), (xb, .inl (cI, 40, .inl (fun _ => 0))), (xe, .inl (cI, 40, .inl (fun _ => 0))), (y, .inr (3, [.int 1, .int 17, .int 21, .ref yo, .ref yp, .ref yt, .ref yb, .ref ye, .int 0, .int 0])), (yo, .inl (cI, 40, .inl (fun _ => 0))), (yp, .inl (cI, 12, .inl (fun _ => 0))), (yt, .inl (cI, 40, .inl (fun _ => 0))), (yb, .inl (cI, 40, .inl (fun _ => 0))), (ye, .inl (cI, 40, .inl (fun _ => 0))), (z, .inr (8, [.ref zb, .ref ze, .int 0, .int 0])), (zb, .inr (1, [.ref zr, .int 0])), (zr, .inl (cB, 400, .inl (fun _ => 0))), (ze, .inl (cI, 4, .inl (fun _ => 0))), (i, .inr (1, [.ref ir, .int 0])), (ir, .inl (cB, 60, .inl (fun _ => 0))), (ct, .inl (cI, 40, .inl (fun _ => 0))), (tr, .inr (10, [.ref qa, .int 1, .int 1])), (qa, .inl (cN, 40, .inr (.inr (.inr (.inr (va_up (fun _ => none) 0 (some qn))))))), (qn, .inr (5, [.int 0, .ref qm, .ref qk, .ref qt, .int 0, .int 0, .int 0, .int 16877, .int 0, .int 0, .int 0, .int 0])), (im, .inr (1, [.ref iq, .int 0])), (iq, .inl (cB, 0, .inl (fun _ => 0)))]) [0, 1, 2, 3, 4, 5, 6, 7, 8, 9, 10, 11, 12, 13, 14, 15, 16, 17, 18, 19, 20, 21, 22, 23, 24, 25] (by decide) rfl
      have hFc := va_free (wc := [(xd, .inr (0, [.ref tx, .ref tr, .ref im, .ref mkr, .ref rd])), (mkr, .inr (4, [.ref tr, .ref im, .ref x, .ref y, .ref z, .ref i, .ref ct, .int 0, .int 0, .int 0])), (x, .inr (3, [.int 0, .int 16, .int 19, .ref xo, .ref xp, .ref xt, .ref xb, .ref xe, .int 0, .int 0])), (xo, .inl (cI, 40, .inl (fun _ => 0))), (xp, .inl (cI, 12, .inl (fun _ => 0))), (xt, .inl (cI, 40, .inl (fun _ => 0))), (xb, .inl (cI, 40, .inl (fun _ => 0))), (xe, .inl (cI, 40, .inl (fun _ => 0))), (y, .inr (3, [.int 1, .int 17, .int 21, .ref yo, .ref yp, .ref yt, .ref yb, .ref ye, .int 0, .int 0])), (yo, .inl (cI, 40, .inl (fun _ => 0))), (yp, .inl (cI, 12, .inl (fun _ => 0))), (yt, .inl (cI, 40, .inl (fun _ => 0))), (yb, .inl (cI, 40, .inl (fun _ => 0))), (ye, .inl (cI, 40, .inl (fun _ => 0))), (z, .inr (8, [.ref zb, .ref ze, .int 0, .int 0])), (zb, .inr (1, [.ref zr, .int 0])), (zr, .inl (cB, 400, .inl (fun _ => 0))), (ze, .inl (cI, 4, .inl (fun _ => 0))), (i, .inr (1, [.ref ir, .int 0])), (ir, .inl (cB, 60, .inl (fun _ => 0))), (ct, .inl (cI, 40, .inl (fun _ => 0))), (tr, .inr (10, [.ref qa, .int 1, .int 1])), (qa, .inl (cN, 40, .inr (.inr (.inr (.inr (va_up (fun _ => none) 0 (some qn))))))), (qn, .inr (5, [.int 0, .ref qm, .ref qk, .ref qt, .int 0, .int 0, .int 0, .int 16877, .int 0, .int 0, .int 0, .int 0])), (im, .inr (1, [.ref iq, .int 0])), (iq, .inl (cB, 0, .inl (fun _ => 0)))]) hD hS hA [0, 1, 2, 3, 4, 5, 6, 7, 8, 9, 10, 11, 12, 13, 14, 15, 16, 17, 18, 19, 20, 21, 22, 23, 24, 25] rfl
      have hkc : 70 ≤ 600002 := by decide
      have hks : 156505 ≤ 7302232 := by decide
      refine va_calli (va_runV (C := "DiscMaker") (As := []) (rest := []) ⟨hx, hb, hml, hown, hts⟩ (c_master l D cB cI cJ cZ cN cF H.size xd tx rd mkr x xo xp xt xb xe y yo yp yt yb ye z zb zr ze i ir ct tr qa qn qm qk qt im iq td ts tl gd gs gl) (cwV 0 hts (lg_goodV k935 k936 k937 k115 kc_DiscMaker_master) rfl rfl rfl (by decide +kernel) ⟨Nat.le_of_ble_eq_true rfl, Nat.le_of_ble_eq_true rfl⟩) ⟨fun a U g mk q => by obtain ⟨q0, q1, qP, qK, qN, qD, qZ⟩ := q; exact ⟨q0, q1, qP, va_K.moved (u := U) (U := U.calling g mk a) (Vm.Alike.refl U.vm) qK, qN.calling, qD, SZ_blind qZ⟩, va_recv hK hP (ci := 0) (q0 := 0) rfl rfl, fun U hU hW => ⟨rfl, by rw [hU], by rw [hU]; exact hPc, va_K.moved hW.alike hK, NN.warm hW hN, hDc.weaken (fun _ _ _ _ => trivial), SZ_pass (hZ) hS hFc hW.alike hU⟩⟩ rfl rfl hl.1 rfl (lv_room (Nat.le_of_ble_eq_true rfl)) d_law_415 ⟨hkc, hks⟩) hS (fun q _ h => hFc q h) hFc (fun r415 u t H1 locs ht hvm hp_415 hB hz1 hk1 hS => ?_)
      obtain ⟨hP1, hD1⟩ := hB
      rw [ht] at hP1
      try dsimp only at hp_415
      obtain ⟨hP, hD⟩ := va_join (wr := [(xm, .inr (11, [.int 0, .ref atext, .int 0, .int 1, .ref akind, .ref aparent, .ref amode, .ref aowner, .ref agroup, .ref asize, .ref aseed, .ref aname, .ref anameSize, .ref atarget, .ref atargetSize, .ref abase, .ref abaseSize, .ref aextension, .ref aextensionSize, .ref aimage, .int 0, .ref atable, .ref asector, .ref asectors, .ref acontents, .int 0, .int 0, .int 0, .int 0, .ref aabove, .ref aisDirectory, .ref abytes, .ref aplace, .ref areadMode, .ref areadOwner, .ref areadGroup, .ref areadName, .ref areadNameSize, .ref areadTarget, .ref areadTargetSize, .ref adepth, .int 0, .int 0, .int 0, .int 0, .int 0, .int 0, .int 0])), (aimage, .inl (cJ, 46080, .inr (.inl (fun _ => 0)))), (atable, .inl (cI, 24, .inl (fun _ => 0))), (asector, .inl (cI, 80, .inl (fun _ => 0))), (asectors, .inl (cI, 80, .inl (fun _ => 0))), (akind, .inl (cI, 40, .inl (fun _ => 0))), (amode, .inl (cI, 40, .inl (upd (fun _ => 0) 0 16877))), (aowner, .inl (cI, 40, .inl (fun _ => 0))), (agroup, .inl (cI, 40, .inl (fun _ => 0)))]) (w1 := []) hP hD [0, 1, 2, 3, 4, 5, 6, 7, 8, 9, 10, 11, 12, 13, 14, 15, 16, 17, 18, 19, 20, 21, 22, 23, 24, 25] [26, 27, 28, 29, 30, 31, 32, 33, 34] rfl rfl (by decide) (by decide) hk1 hFc hP1 hD1
      clear hPc hDc hFc hP1 hD1 hk1 hz1
      generalize H1 = H at hP hS ⊢
      have hP : va_P D CL [(xm, .inr (11, [.int 0, .ref atext, .int 0, .int 1, .ref akind, .ref aparent, .ref amode, .ref aowner, .ref agroup, .ref asize, .ref aseed, .ref aname, .ref anameSize, .ref atarget, .ref atargetSize, .ref abase, .ref abaseSize, .ref aextension, .ref aextensionSize, .ref aimage, .int 0, .ref atable, .ref asector, .ref asectors, .ref acontents, .int 0, .int 0, .int 0, .int 0, .ref aabove, .ref aisDirectory, .ref abytes, .ref aplace, .ref areadMode, .ref areadOwner, .ref areadGroup, .ref areadName, .ref areadNameSize, .ref areadTarget, .ref areadTargetSize, .ref adepth, .int 0, .int 0, .int 0, .int 0, .int 0, .int 0, .int 0])), (aimage, .inl (cJ, 46080, .inr (.inl (fun _ => 0)))), (atable, .inl (cI, 24, .inl (fun _ => 0))), (asector, .inl (cI, 80, .inl (fun _ => 0))), (asectors, .inl (cI, 80, .inl (fun _ => 0))), (akind, .inl (cI, 40, .inl (fun _ => 0))), (amode, .inl (cI, 40, .inl (upd (fun _ => 0) 0 16877))), (aowner, .inl (cI, 40, .inl (fun _ => 0))), (agroup, .inl (cI, 40, .inl (fun _ => 0)))] H := hP
      have hD : va_D A [(xm, .inr (11, [.int 0, .ref atext, .int 0, .int 1, .ref akind, .ref aparent, .ref amode, .ref aowner, .ref agroup, .ref asize, .ref aseed, .ref aname, .ref anameSize, .ref atarget, .ref atargetSize, .ref abase, .ref abaseSize, .ref aextension, .ref aextensionSize, .ref aimage, .int 0, .ref atable, .ref asector, .ref asectors, .ref acontents, .int 0, .int 0, .int 0, .int 0, .ref aabove, .ref aisDirectory, .ref abytes, .ref aplace, .ref areadMode, .ref areadOwner, .ref areadGroup, .ref areadName, .ref areadNameSize, .ref areadTarget, .ref areadTargetSize, .ref adepth, .int 0, .int 0, .int 0, .int 0, .int 0, .int 0, .int 0])), (aimage, .inl (cJ, 46080, .inr (.inl (fun _ => 0)))), (atable, .inl (cI, 24, .inl (fun _ => 0))), (asector, .inl (cI, 80, .inl (fun _ => 0))), (asectors, .inl (cI, 80, .inl (fun _ => 0))), (akind, .inl (cI, 40, .inl (fun _ => 0))), (amode, .inl (cI, 40, .inl (upd (fun _ => 0) 0 16877))), (aowner, .inl (cI, 40, .inl (fun _ => 0))), (agroup, .inl (cI, 40, .inl (fun _ => 0)))] := hD
      refine W.widen (k := 70) (n := 156505) (by decide) (by decide) ?_
      refine lv_aload_n hx hb d_law_418 rfl (lv_at hl 2 rfl) ?_
      have hPc := hP.sub (ws' := [(xm, .inr (11, [.int 0, .ref atext, .int 0, .int 1, .ref akind, .ref aparent, .ref amode, .ref aowner, .ref agroup, .ref asize, .ref aseed, .ref aname, .ref anameSize, .ref atarget, .ref atargetSize, .ref abase, .ref abaseSize, .ref aextension, .ref aextensionSize, .ref aimage, .int 0, .ref atable, .ref asector, .ref asectors, .ref acontents, .int 0, .int 0, .int 0, .int 0, .ref aabove, .ref aisDirectory, .ref abytes, .ref aplace, .ref areadMode, .ref areadOwner, .ref areadGroup, .ref areadName, .ref areadNameSize, .ref areadTarget, .ref areadTargetSize, .ref adepth, .int 0, .int 0, .int 0, .int 0, .int 0, .int 0, .int 0])), (aimage, .inl (cJ, 46080, .inr (.inl (fun _ => 0)))), (atable, .inl (cI, 24, .inl (fun _ => 0))), (asector, .inl (cI, 80, .inl (fun _ => 0))), (asectors, .inl (cI, 80, .inl (fun _ => 0))), (akind, .inl (cI, 40, .inl (fun _ => 0))), (amode, .inl (cI, 40, .inl (upd (fun _ => 0) 0 16877))), (aowner, .inl (cI, 40, .inl (fun _ => 0))), (agroup, .inl (cI, 40, .inl (fun _ => 0)))]) [0, 1, 2, 3, 4, 5, 6, 7, 8] rfl
      have hDc := hD.sub (ws' := [(xm, .inr (11, [.int 0, .ref atext, .int 0, .int 1, .ref akind, .ref aparent, .ref amode, .ref aowner, .ref agroup, .ref asize, .ref aseed, .ref aname, .ref anameSize, .ref atarget, .ref atargetSize, .ref abase, .ref abaseSize, .ref aextension, .ref aextensionSize, .ref aimage, .int 0, .ref atable, .ref asector, .ref asectors, .ref acontents, .int 0, .int 0, .int 0, .int 0, .ref aabove, .ref aisDirectory, .ref abytes, .ref aplace, .ref areadMode, .ref areadOwner, .ref areadGroup, .ref areadName, .ref areadNameSize, .ref areadTarget, .ref areadTargetSize, .ref adepth, .int 0, .int 0, .int 0, .int 0, .int 0, .int 0, .int 0])), (aimage, .inl (cJ, 46080, .inr (.inl (fun _ => 0)))), (atable, .inl (cI, 24, .inl (fun _ => 0))), (asector, .inl (cI, 80, .inl (fun _ => 0))), (asectors, .inl (cI, 80, .inl (fun _ => 0))), (akind, .inl (cI, 40, .inl (fun _ => 0))), (amode, .inl (cI, 40, .inl (upd (fun _ => 0) 0 16877))), (aowner, .inl (cI, 40, .inl (fun _ => 0))), (agroup, .inl (cI, 40, .inl (fun _ => 0)))]) [0, 1, 2, 3, 4, 5, 6, 7, 8] (by decide) rfl
      have hFc := va_free (wc := [(xm, .inr (11, [.int 0, .ref atext, .int 0, .int 1, .ref akind, .ref aparent, .ref amode, .ref aowner, .ref agroup, .ref asize, .ref aseed, .ref aname, .ref anameSize, .ref atarget, .ref atargetSize, .ref abase, .ref abaseSize, .ref aextension, .ref aextensionSize, .ref aimage, .int 0, .ref atable, .ref asector, .ref asectors, .ref acontents, .int 0, .int 0, .int 0, .int 0, .ref aabove, .ref aisDirectory, .ref abytes, .ref aplace, .ref areadMode, .ref areadOwner, .ref areadGroup, .ref areadName, .ref areadNameSize, .ref areadTarget, .ref areadTargetSize, .ref adepth, .int 0, .int 0, .int 0, .int 0, .int 0, .int 0, .int 0])), (aimage, .inl (cJ, 46080, .inr (.inl (fun _ => 0)))), (atable, .inl (cI, 24, .inl (fun _ => 0))), (asector, .inl (cI, 80, .inl (fun _ => 0))), (asectors, .inl (cI, 80, .inl (fun _ => 0))), (akind, .inl (cI, 40, .inl (fun _ => 0))), (amode, .inl (cI, 40, .inl (upd (fun _ => 0) 0 16877))), (aowner, .inl (cI, 40, .inl (fun _ => 0))), (agroup, .inl (cI, 40, .inl (fun _ => 0)))]) hD hS hA [0, 1, 2, 3, 4, 5, 6, 7, 8] rfl
      have hkc : 70 ≤ 600002 := by decide
      have hks : 156505 ≤ 7302232 := by decide
      refine va_calli (va_runV (C := "DiscMakerModel") (As := []) (rest := [.int r415]) ⟨hx, hb, hml, hown, hts⟩ (c_m_master l D cB cI cJ cZ cN cF H.size xm atext akind aparent amode aowner agroup asize aseed aname anameSize atarget atargetSize abase abaseSize aextension aextensionSize aimage atable asector asectors acontents aabove aisDirectory abytes aplace areadMode areadOwner areadGroup areadName areadNameSize areadTarget areadTargetSize adepth) (cwV 0 hts (lg_goodV k1648 k1649 k1650 k125 kc_DiscMakerModel_master) rfl rfl rfl (by decide +kernel) ⟨Nat.le_of_ble_eq_true rfl, Nat.le_of_ble_eq_true rfl⟩) ⟨fun a U g mk q => by obtain ⟨q0, q1, qP, qK, qN, qD⟩ := q; exact ⟨q0, q1, qP, va_K.moved (u := U) (U := U.calling g mk a) (Vm.Alike.refl U.vm) qK, qN.calling, qD⟩, va_recv hK hP (ci := 11) (q0 := 0) rfl rfl, fun U hU hW => ⟨rfl, by rw [hU], by rw [hU]; exact hPc, va_K.moved hW.alike hK, NN.warm hW hN, hDc.weaken (fun _ _ _ _ => trivial)⟩⟩ rfl rfl hl.1 rfl (lv_room (Nat.le_of_ble_eq_true rfl)) d_law_419 ⟨hkc, hks⟩) hS (fun q _ h => hFc q h) hFc (fun r419 u t H1 locs ht hvm hp_419 hB hz1 hk1 hS => ?_)
      obtain ⟨hP1, hD1⟩ := hB
      rw [ht] at hP1
      try dsimp only at hp_419
      obtain ⟨hP, hD⟩ := va_join (wr := []) (w1 := []) hP hD [0, 1, 2, 3, 4, 5, 6, 7, 8] [] rfl rfl (by decide) (by decide) hk1 hFc hP1 hD1
      clear hPc hDc hFc hP1 hD1 hk1 hz1
      generalize H1 = H at hP hS ⊢
      have hP : va_P D CL [] H := hP
      have hD : va_D A [] := hD
      refine lv_icmp_eq (tgt := 855) hx hb d_law_422 (by decide) (fun h_422 => ?_) (fun h_422 => absurd (hp_415.trans hp_419.symm) h_422)
      refine lv_iinc (v := 6) hx hb d_law_855 hl (k := 0) rfl (by decide) (by decide) rfl (fun ls hl => ?_)
      have hl : lv_has ls 7 [(4, .int 6), (3, .ref xq), (2, .ref xm), (1, .ref xd), (0, .ref b)] := hl
      refine lv_goto (tgt := 23) hx hb d_law_858 (by decide) ?_
      refine lv_iload hx hb d_law_23 (lv_at hl 0 rfl) ?_
      refine lv_aload_n hx hb d_law_25 rfl (lv_at hl 4 rfl) ?_
      refine va_slen hx hb hX hbl hbA hS d_law_26 ?_
      refine W.eq (g2 := F0 m 27 ls [.int 6, .int 6]) rfl ?_
      refine lv_bipush (v := 6) hx hb d_law_27 (by decide) ?_
      refine lv_isub hx hb d_law_29 ?_
      refine W.eq (g2 := F0 m 30 ls [.int 0, .int 6]) (by rw [show ((6 - 6) : Int32) = 0 from by decide]) ?_
      refine lv_icmp_gt (tgt := 861) hx hb d_law_30 (by decide) (fun h_30 => ?_) (fun h_30 => absurd (by decide) h_30)
      refine lv_iconst (v := 1) hx hb d_law_861 (by decide) ?_
      refine va_forget (fun q hq => by have h9 := hS.2.2 q hq; rw [hAe] at h9; exact h9) ?_
      refine W.widen (k := 600002) (n := 7302232) (by decide) (by decide) ?_
      exact lw_ret hx hb hr hlocks d_law_862
    · skip
      refine lv_tableIn (off := 387) (tgt := 427) hx hb d_law_40 (by decide) (by decide) (by decide) (by decide) ?_
      have hP := hP.sub (ws' := [(xd, .inr (0, [.ref tx, .ref tr, .ref im, .ref mkr, .ref rd])), (im, .inr (1, [.ref iq, .int 0])), (xm, .inr (11, [.int 0, .ref atext, .int 0, .int 1, .ref akind, .ref aparent, .ref amode, .ref aowner, .ref agroup, .ref asize, .ref aseed, .ref aname, .ref anameSize, .ref atarget, .ref atargetSize, .ref abase, .ref abaseSize, .ref aextension, .ref aextensionSize, .ref aimage, .int 0, .ref atable, .ref asector, .ref asectors, .ref acontents, .int 0, .int 0, .int 0, .int 0, .ref aabove, .ref aisDirectory, .ref abytes, .ref aplace, .ref areadMode, .ref areadOwner, .ref areadGroup, .ref areadName, .ref areadNameSize, .ref areadTarget, .ref areadTargetSize, .ref adepth, .int 0, .int 0, .int 0, .int 0, .int 0, .int 0, .int 0]))]) [0, 9, 34] rfl
      have hD := hD.sub (ws' := [(xd, .inr (0, [.ref tx, .ref tr, .ref im, .ref mkr, .ref rd])), (im, .inr (1, [.ref iq, .int 0])), (xm, .inr (11, [.int 0, .ref atext, .int 0, .int 1, .ref akind, .ref aparent, .ref amode, .ref aowner, .ref agroup, .ref asize, .ref aseed, .ref aname, .ref anameSize, .ref atarget, .ref atargetSize, .ref abase, .ref abaseSize, .ref aextension, .ref aextensionSize, .ref aimage, .int 0, .ref atable, .ref asector, .ref asectors, .ref acontents, .int 0, .int 0, .int 0, .int 0, .ref aabove, .ref aisDirectory, .ref abytes, .ref aplace, .ref areadMode, .ref areadOwner, .ref areadGroup, .ref areadName, .ref areadNameSize, .ref areadTarget, .ref areadTargetSize, .ref adepth, .int 0, .int 0, .int 0, .int 0, .int 0, .int 0, .int 0]))]) [0, 9, 34] (by decide) rfl
      refine lv_aload_n hx hb d_law_427 rfl (lv_at hl 3 rfl) ?_
      have hPc := hP.sub (ws' := [(xd, .inr (0, [.ref tx, .ref tr, .ref im, .ref mkr, .ref rd])), (im, .inr (1, [.ref iq, .int 0]))]) [0, 1] rfl
      have hDc := hD.sub (ws' := [(xd, .inr (0, [.ref tx, .ref tr, .ref im, .ref mkr, .ref rd])), (im, .inr (1, [.ref iq, .int 0]))]) [0, 1] (by decide) rfl
      have hFc := va_free (wc := [(xd, .inr (0, [.ref tx, .ref tr, .ref im, .ref mkr, .ref rd])), (im, .inr (1, [.ref iq, .int 0]))]) hD hS hA [0, 1] rfl
      have hkc : 69 ≤ 600002 := by decide
      have hks : 105305 ≤ 7302232 := by decide
      refine va_calli (va_runV (C := "DiscMaker") (As := []) (rest := []) ⟨hx, hb, hml, hown, hts⟩ (c_sectors l D cB cI cJ cZ cN cF H.size xd tx tr im mkr rd iq) (cwV 0 hts (lg_goodV k1123 k1124 k1125 k115 kc_DiscMaker_sectors) rfl rfl rfl (by decide +kernel) ⟨Nat.le_of_ble_eq_true rfl, Nat.le_of_ble_eq_true rfl⟩) ⟨fun a U g mk q => by obtain ⟨q0, q1, qP, qK, qN, qD⟩ := q; exact ⟨q0, q1, qP, va_K.moved (u := U) (U := U.calling g mk a) (Vm.Alike.refl U.vm) qK, qN.calling, qD⟩, va_recv hK hP (ci := 0) (q0 := 0) rfl rfl, fun U hU hW => ⟨rfl, by rw [hU], by rw [hU]; exact hPc, va_K.moved hW.alike hK, NN.warm hW hN, hDc.weaken (fun _ _ _ _ => trivial)⟩⟩ rfl rfl hl.1 rfl (lv_room (Nat.le_of_ble_eq_true rfl)) d_law_428 ⟨hkc, hks⟩) hS (fun q _ h => hFc q h) hFc (fun r428 u t H1 locs ht hvm hp_428 hB hz1 hk1 hS => ?_)
      obtain ⟨hP1, hD1⟩ := hB
      rw [ht] at hP1
      try dsimp only at hp_428
      obtain ⟨hP, hD⟩ := va_join (wr := [(xm, .inr (11, [.int 0, .ref atext, .int 0, .int 1, .ref akind, .ref aparent, .ref amode, .ref aowner, .ref agroup, .ref asize, .ref aseed, .ref aname, .ref anameSize, .ref atarget, .ref atargetSize, .ref abase, .ref abaseSize, .ref aextension, .ref aextensionSize, .ref aimage, .int 0, .ref atable, .ref asector, .ref asectors, .ref acontents, .int 0, .int 0, .int 0, .int 0, .ref aabove, .ref aisDirectory, .ref abytes, .ref aplace, .ref areadMode, .ref areadOwner, .ref areadGroup, .ref areadName, .ref areadNameSize, .ref areadTarget, .ref areadTargetSize, .ref adepth, .int 0, .int 0, .int 0, .int 0, .int 0, .int 0, .int 0]))]) (w1 := []) hP hD [0, 1] [2] rfl rfl (by decide) (by decide) hk1 hFc hP1 hD1
      clear hPc hDc hFc hP1 hD1 hk1 hz1
      generalize H1 = H at hP hS ⊢
      have hP : va_P D CL [(xm, .inr (11, [.int 0, .ref atext, .int 0, .int 1, .ref akind, .ref aparent, .ref amode, .ref aowner, .ref agroup, .ref asize, .ref aseed, .ref aname, .ref anameSize, .ref atarget, .ref atargetSize, .ref abase, .ref abaseSize, .ref aextension, .ref aextensionSize, .ref aimage, .int 0, .ref atable, .ref asector, .ref asectors, .ref acontents, .int 0, .int 0, .int 0, .int 0, .ref aabove, .ref aisDirectory, .ref abytes, .ref aplace, .ref areadMode, .ref areadOwner, .ref areadGroup, .ref areadName, .ref areadNameSize, .ref areadTarget, .ref areadTargetSize, .ref adepth, .int 0, .int 0, .int 0, .int 0, .int 0, .int 0, .int 0]))] H := hP
      have hD : va_D A [(xm, .inr (11, [.int 0, .ref atext, .int 0, .int 1, .ref akind, .ref aparent, .ref amode, .ref aowner, .ref agroup, .ref asize, .ref aseed, .ref aname, .ref anameSize, .ref atarget, .ref atargetSize, .ref abase, .ref abaseSize, .ref aextension, .ref aextensionSize, .ref aimage, .int 0, .ref atable, .ref asector, .ref asectors, .ref acontents, .int 0, .int 0, .int 0, .int 0, .ref aabove, .ref aisDirectory, .ref abytes, .ref aplace, .ref areadMode, .ref areadOwner, .ref areadGroup, .ref areadName, .ref areadNameSize, .ref areadTarget, .ref areadTargetSize, .ref adepth, .int 0, .int 0, .int 0, .int 0, .int 0, .int 0, .int 0]))] := hD
      refine lv_aload_n hx hb d_law_431 rfl (lv_at hl 2 rfl) ?_
      have hPc := hP.sub (ws' := [(xm, .inr (11, [.int 0, .ref atext, .int 0, .int 1, .ref akind, .ref aparent, .ref amode, .ref aowner, .ref agroup, .ref asize, .ref aseed, .ref aname, .ref anameSize, .ref atarget, .ref atargetSize, .ref abase, .ref abaseSize, .ref aextension, .ref aextensionSize, .ref aimage, .int 0, .ref atable, .ref asector, .ref asectors, .ref acontents, .int 0, .int 0, .int 0, .int 0, .ref aabove, .ref aisDirectory, .ref abytes, .ref aplace, .ref areadMode, .ref areadOwner, .ref areadGroup, .ref areadName, .ref areadNameSize, .ref areadTarget, .ref areadTargetSize, .ref adepth, .int 0, .int 0, .int 0, .int 0, .int 0, .int 0, .int 0]))]) [0] rfl
      have hDc := hD.sub (ws' := [(xm, .inr (11, [.int 0, .ref atext, .int 0, .int 1, .ref akind, .ref aparent, .ref amode, .ref aowner, .ref agroup, .ref asize, .ref aseed, .ref aname, .ref anameSize, .ref atarget, .ref atargetSize, .ref abase, .ref abaseSize, .ref aextension, .ref aextensionSize, .ref aimage, .int 0, .ref atable, .ref asector, .ref asectors, .ref acontents, .int 0, .int 0, .int 0, .int 0, .ref aabove, .ref aisDirectory, .ref abytes, .ref aplace, .ref areadMode, .ref areadOwner, .ref areadGroup, .ref areadName, .ref areadNameSize, .ref areadTarget, .ref areadTargetSize, .ref adepth, .int 0, .int 0, .int 0, .int 0, .int 0, .int 0, .int 0]))]) [0] (by decide) rfl
      have hFc := va_free (wc := [(xm, .inr (11, [.int 0, .ref atext, .int 0, .int 1, .ref akind, .ref aparent, .ref amode, .ref aowner, .ref agroup, .ref asize, .ref aseed, .ref aname, .ref anameSize, .ref atarget, .ref atargetSize, .ref abase, .ref abaseSize, .ref aextension, .ref aextensionSize, .ref aimage, .int 0, .ref atable, .ref asector, .ref asectors, .ref acontents, .int 0, .int 0, .int 0, .int 0, .ref aabove, .ref aisDirectory, .ref abytes, .ref aplace, .ref areadMode, .ref areadOwner, .ref areadGroup, .ref areadName, .ref areadNameSize, .ref areadTarget, .ref areadTargetSize, .ref adepth, .int 0, .int 0, .int 0, .int 0, .int 0, .int 0, .int 0]))]) hD hS hA [0] rfl
      have hkc : 69 ≤ 600002 := by decide
      have hks : 105305 ≤ 7302232 := by decide
      refine va_calli (va_runV (C := "DiscMakerModel") (As := []) (rest := [.int r428]) ⟨hx, hb, hml, hown, hts⟩ (c_m_sectors l D cB cI cJ cZ cN cF H.size xm atext akind aparent amode aowner agroup asize aseed aname anameSize atarget atargetSize abase abaseSize aextension aextensionSize aimage atable asector asectors acontents aabove aisDirectory abytes aplace areadMode areadOwner areadGroup areadName areadNameSize areadTarget areadTargetSize adepth) (cwV 0 hts (lg_goodV k1805 k1806 k1807 k125 kc_DiscMakerModel_sectors) rfl rfl rfl (by decide +kernel) ⟨Nat.le_of_ble_eq_true rfl, Nat.le_of_ble_eq_true rfl⟩) ⟨fun a U g mk q => by obtain ⟨q0, q1, qP, qK, qN, qD⟩ := q; exact ⟨q0, q1, qP, va_K.moved (u := U) (U := U.calling g mk a) (Vm.Alike.refl U.vm) qK, qN.calling, qD⟩, va_recv hK hP (ci := 11) (q0 := 0) rfl rfl, fun U hU hW => ⟨rfl, by rw [hU], by rw [hU]; exact hPc, va_K.moved hW.alike hK, NN.warm hW hN, hDc.weaken (fun _ _ _ _ => trivial)⟩⟩ rfl rfl hl.1 rfl (lv_room (Nat.le_of_ble_eq_true rfl)) d_law_432 ⟨hkc, hks⟩) hS (fun q _ h => hFc q h) hFc (fun r432 u t H1 locs ht hvm hp_432 hB hz1 hk1 hS => ?_)
      obtain ⟨hP1, hD1⟩ := hB
      rw [ht] at hP1
      try dsimp only at hp_432
      obtain ⟨hP, hD⟩ := va_join (wr := []) (w1 := []) hP hD [0] [] rfl rfl (by decide) (by decide) hk1 hFc hP1 hD1
      clear hPc hDc hFc hP1 hD1 hk1 hz1
      generalize H1 = H at hP hS ⊢
      have hP : va_P D CL [] H := hP
      have hD : va_D A [] := hD
      refine lv_icmp_eq (tgt := 855) hx hb d_law_435 (by decide) (fun h_435 => ?_) (fun h_435 => absurd (hp_428.trans hp_432.symm) h_435)
      refine lv_iinc (v := 6) hx hb d_law_855 hl (k := 0) rfl (by decide) (by decide) rfl (fun ls hl => ?_)
      have hl : lv_has ls 7 [(4, .int 6), (3, .ref xq), (2, .ref xm), (1, .ref xd), (0, .ref b)] := hl
      refine lv_goto (tgt := 23) hx hb d_law_858 (by decide) ?_
      refine lv_iload hx hb d_law_23 (lv_at hl 0 rfl) ?_
      refine lv_aload_n hx hb d_law_25 rfl (lv_at hl 4 rfl) ?_
      refine va_slen hx hb hX hbl hbA hS d_law_26 ?_
      refine W.eq (g2 := F0 m 27 ls [.int 6, .int 6]) rfl ?_
      refine lv_bipush (v := 6) hx hb d_law_27 (by decide) ?_
      refine lv_isub hx hb d_law_29 ?_
      refine W.eq (g2 := F0 m 30 ls [.int 0, .int 6]) (by rw [show ((6 - 6) : Int32) = 0 from by decide]) ?_
      refine lv_icmp_gt (tgt := 861) hx hb d_law_30 (by decide) (fun h_30 => ?_) (fun h_30 => absurd (by decide) h_30)
      refine lv_iconst (v := 1) hx hb d_law_861 (by decide) ?_
      refine va_forget (fun q hq => by have h9 := hS.2.2 q hq; rw [hAe] at h9; exact h9) ?_
      refine W.widen (k := 600002) (n := 7302232) (by decide) (by decide) ?_
      exact lw_ret hx hb hr hlocks d_law_862
    · skip
      refine lv_tableIn (off := 400) (tgt := 440) hx hb d_law_40 (by decide) (by decide) (by decide) (by decide) ?_
      have hP := hP.sub (ws' := [(xd, .inr (0, [.ref tx, .ref tr, .ref im, .ref mkr, .ref rd])), (im, .inr (1, [.ref iq, .int 0])), (xm, .inr (11, [.int 0, .ref atext, .int 0, .int 1, .ref akind, .ref aparent, .ref amode, .ref aowner, .ref agroup, .ref asize, .ref aseed, .ref aname, .ref anameSize, .ref atarget, .ref atargetSize, .ref abase, .ref abaseSize, .ref aextension, .ref aextensionSize, .ref aimage, .int 0, .ref atable, .ref asector, .ref asectors, .ref acontents, .int 0, .int 0, .int 0, .int 0, .ref aabove, .ref aisDirectory, .ref abytes, .ref aplace, .ref areadMode, .ref areadOwner, .ref areadGroup, .ref areadName, .ref areadNameSize, .ref areadTarget, .ref areadTargetSize, .ref adepth, .int 0, .int 0, .int 0, .int 0, .int 0, .int 0, .int 0]))]) [0, 9, 34] rfl
      have hD := hD.sub (ws' := [(xd, .inr (0, [.ref tx, .ref tr, .ref im, .ref mkr, .ref rd])), (im, .inr (1, [.ref iq, .int 0])), (xm, .inr (11, [.int 0, .ref atext, .int 0, .int 1, .ref akind, .ref aparent, .ref amode, .ref aowner, .ref agroup, .ref asize, .ref aseed, .ref aname, .ref anameSize, .ref atarget, .ref atargetSize, .ref abase, .ref abaseSize, .ref aextension, .ref aextensionSize, .ref aimage, .int 0, .ref atable, .ref asector, .ref asectors, .ref acontents, .int 0, .int 0, .int 0, .int 0, .ref aabove, .ref aisDirectory, .ref abytes, .ref aplace, .ref areadMode, .ref areadOwner, .ref areadGroup, .ref areadName, .ref areadNameSize, .ref areadTarget, .ref areadTargetSize, .ref adepth, .int 0, .int 0, .int 0, .int 0, .int 0, .int 0, .int 0]))]) [0, 9, 34] (by decide) rfl
      refine lv_aload_n hx hb d_law_440 rfl (lv_at hl 3 rfl) ?_
      refine lv_aload_n hx hb d_law_441 rfl (lv_at hl 4 rfl) ?_
      refine lv_iload hx hb d_law_442 (lv_at hl 0 rfl) ?_
      refine lv_iconst (v := 1) hx hb d_law_444 (by decide) ?_
      refine lv_iadd hx hb d_law_445 ?_
      refine W.eq (g2 := F0 m 446 ls [.int 1, .ref b, .ref xd]) (by rw [show ((0 + 1) : Int32) = 1 from by decide]) ?_
      refine va_sld hx hb hX hbl hbA hS (by unfold vp_in; decide) d_law_446 ?_
      refine W.eq (g2 := F0 m 447 ls [.int (xs 1), .ref xd]) rfl ?_
      have hPc := hP.sub (ws' := [(xd, .inr (0, [.ref tx, .ref tr, .ref im, .ref mkr, .ref rd])), (im, .inr (1, [.ref iq, .int 0]))]) [0, 1] rfl
      have hDc := hD.sub (ws' := [(xd, .inr (0, [.ref tx, .ref tr, .ref im, .ref mkr, .ref rd])), (im, .inr (1, [.ref iq, .int 0]))]) [0, 1] (by decide) rfl
      have hFc := va_free (wc := [(xd, .inr (0, [.ref tx, .ref tr, .ref im, .ref mkr, .ref rd])), (im, .inr (1, [.ref iq, .int 0]))]) hD hS hA [0, 1] rfl
      have hkc : 69 ≤ 600002 := by decide
      have hks : 105305 ≤ 7302232 := by decide
      refine va_calli (va_runV (C := "DiscMaker") (As := [.int (xs 1)]) (rest := []) ⟨hx, hb, hml, hown, hts⟩ (c_byteAt l D cB cI cJ cZ cN cF H.size xd tx tr im mkr rd iq (xs 1)) (cwV 1 hts (lg_goodV k1127 k1128 k1129 k115 kc_DiscMaker_byteAt) rfl rfl rfl (by decide +kernel) ⟨Nat.le_of_ble_eq_true rfl, Nat.le_of_ble_eq_true rfl⟩) ⟨fun a U g mk q => by obtain ⟨q0, q1, qP, qK, qN, qD⟩ := q; exact ⟨q0, q1, qP, va_K.moved (u := U) (U := U.calling g mk a) (Vm.Alike.refl U.vm) qK, qN.calling, qD⟩, va_recv hK hP (ci := 0) (q0 := 0) rfl rfl, fun U hU hW => ⟨rfl, by rw [hU], by rw [hU]; exact hPc, va_K.moved hW.alike hK, NN.warm hW hN, hDc.weaken (fun _ _ _ _ => trivial)⟩⟩ rfl rfl hl.1 rfl (lv_room (Nat.le_of_ble_eq_true rfl)) d_law_447 ⟨hkc, hks⟩) hS (fun q _ h => hFc q h) hFc (fun r447 u t H1 locs ht hvm hp_447 hB hz1 hk1 hS => ?_)
      obtain ⟨hP1, hD1⟩ := hB
      rw [ht] at hP1
      try dsimp only at hp_447
      obtain ⟨hP, hD⟩ := va_join (wr := [(xm, .inr (11, [.int 0, .ref atext, .int 0, .int 1, .ref akind, .ref aparent, .ref amode, .ref aowner, .ref agroup, .ref asize, .ref aseed, .ref aname, .ref anameSize, .ref atarget, .ref atargetSize, .ref abase, .ref abaseSize, .ref aextension, .ref aextensionSize, .ref aimage, .int 0, .ref atable, .ref asector, .ref asectors, .ref acontents, .int 0, .int 0, .int 0, .int 0, .ref aabove, .ref aisDirectory, .ref abytes, .ref aplace, .ref areadMode, .ref areadOwner, .ref areadGroup, .ref areadName, .ref areadNameSize, .ref areadTarget, .ref areadTargetSize, .ref adepth, .int 0, .int 0, .int 0, .int 0, .int 0, .int 0, .int 0]))]) (w1 := []) hP hD [0, 1] [2] rfl rfl (by decide) (by decide) hk1 hFc hP1 hD1
      clear hPc hDc hFc hP1 hD1 hk1 hz1
      generalize H1 = H at hP hS ⊢
      have hP : va_P D CL [(xm, .inr (11, [.int 0, .ref atext, .int 0, .int 1, .ref akind, .ref aparent, .ref amode, .ref aowner, .ref agroup, .ref asize, .ref aseed, .ref aname, .ref anameSize, .ref atarget, .ref atargetSize, .ref abase, .ref abaseSize, .ref aextension, .ref aextensionSize, .ref aimage, .int 0, .ref atable, .ref asector, .ref asectors, .ref acontents, .int 0, .int 0, .int 0, .int 0, .ref aabove, .ref aisDirectory, .ref abytes, .ref aplace, .ref areadMode, .ref areadOwner, .ref areadGroup, .ref areadName, .ref areadNameSize, .ref areadTarget, .ref areadTargetSize, .ref adepth, .int 0, .int 0, .int 0, .int 0, .int 0, .int 0, .int 0]))] H := hP
      have hD : va_D A [(xm, .inr (11, [.int 0, .ref atext, .int 0, .int 1, .ref akind, .ref aparent, .ref amode, .ref aowner, .ref agroup, .ref asize, .ref aseed, .ref aname, .ref anameSize, .ref atarget, .ref atargetSize, .ref abase, .ref abaseSize, .ref aextension, .ref aextensionSize, .ref aimage, .int 0, .ref atable, .ref asector, .ref asectors, .ref acontents, .int 0, .int 0, .int 0, .int 0, .ref aabove, .ref aisDirectory, .ref abytes, .ref aplace, .ref areadMode, .ref areadOwner, .ref areadGroup, .ref areadName, .ref areadNameSize, .ref areadTarget, .ref areadTargetSize, .ref adepth, .int 0, .int 0, .int 0, .int 0, .int 0, .int 0, .int 0]))] := hD
      refine lv_aload_n hx hb d_law_450 rfl (lv_at hl 2 rfl) ?_
      refine lv_aload_n hx hb d_law_451 rfl (lv_at hl 4 rfl) ?_
      refine lv_iload hx hb d_law_452 (lv_at hl 0 rfl) ?_
      refine lv_iconst (v := 1) hx hb d_law_454 (by decide) ?_
      refine lv_iadd hx hb d_law_455 ?_
      refine W.eq (g2 := F0 m 456 ls [.int 1, .ref b, .ref xm, .int r447]) (by rw [show ((0 + 1) : Int32) = 1 from by decide]) ?_
      refine va_sld hx hb hX hbl hbA hS (by unfold vp_in; decide) d_law_456 ?_
      refine W.eq (g2 := F0 m 457 ls [.int (xs 1), .ref xm, .int r447]) rfl ?_
      have hPc := hP.sub (ws' := [(xm, .inr (11, [.int 0, .ref atext, .int 0, .int 1, .ref akind, .ref aparent, .ref amode, .ref aowner, .ref agroup, .ref asize, .ref aseed, .ref aname, .ref anameSize, .ref atarget, .ref atargetSize, .ref abase, .ref abaseSize, .ref aextension, .ref aextensionSize, .ref aimage, .int 0, .ref atable, .ref asector, .ref asectors, .ref acontents, .int 0, .int 0, .int 0, .int 0, .ref aabove, .ref aisDirectory, .ref abytes, .ref aplace, .ref areadMode, .ref areadOwner, .ref areadGroup, .ref areadName, .ref areadNameSize, .ref areadTarget, .ref areadTargetSize, .ref adepth, .int 0, .int 0, .int 0, .int 0, .int 0, .int 0, .int 0]))]) [0] rfl
      have hDc := hD.sub (ws' := [(xm, .inr (11, [.int 0, .ref atext, .int 0, .int 1, .ref akind, .ref aparent, .ref amode, .ref aowner, .ref agroup, .ref asize, .ref aseed, .ref aname, .ref anameSize, .ref atarget, .ref atargetSize, .ref abase, .ref abaseSize, .ref aextension, .ref aextensionSize, .ref aimage, .int 0, .ref atable, .ref asector, .ref asectors, .ref acontents, .int 0, .int 0, .int 0, .int 0, .ref aabove, .ref aisDirectory, .ref abytes, .ref aplace, .ref areadMode, .ref areadOwner, .ref areadGroup, .ref areadName, .ref areadNameSize, .ref areadTarget, .ref areadTargetSize, .ref adepth, .int 0, .int 0, .int 0, .int 0, .int 0, .int 0, .int 0]))]) [0] (by decide) rfl
      have hFc := va_free (wc := [(xm, .inr (11, [.int 0, .ref atext, .int 0, .int 1, .ref akind, .ref aparent, .ref amode, .ref aowner, .ref agroup, .ref asize, .ref aseed, .ref aname, .ref anameSize, .ref atarget, .ref atargetSize, .ref abase, .ref abaseSize, .ref aextension, .ref aextensionSize, .ref aimage, .int 0, .ref atable, .ref asector, .ref asectors, .ref acontents, .int 0, .int 0, .int 0, .int 0, .ref aabove, .ref aisDirectory, .ref abytes, .ref aplace, .ref areadMode, .ref areadOwner, .ref areadGroup, .ref areadName, .ref areadNameSize, .ref areadTarget, .ref areadTargetSize, .ref adepth, .int 0, .int 0, .int 0, .int 0, .int 0, .int 0, .int 0]))]) hD hS hA [0] rfl
      have hkc : 69 ≤ 600002 := by decide
      have hks : 105305 ≤ 7302232 := by decide
      refine va_calli (va_runV (C := "DiscMakerModel") (As := [.int (xs 1)]) (rest := [.int r447]) ⟨hx, hb, hml, hown, hts⟩ (c_m_byteAt l D cB cI cJ cZ cN cF H.size xm atext akind aparent amode aowner agroup asize aseed aname anameSize atarget atargetSize abase abaseSize aextension aextensionSize aimage atable asector asectors acontents aabove aisDirectory abytes aplace areadMode areadOwner areadGroup areadName areadNameSize areadTarget areadTargetSize adepth (xs 1)) (cwV 1 hts (lg_goodV k1809 k1810 k1811 k125 kc_DiscMakerModel_byteAt) rfl rfl rfl (by decide +kernel) ⟨Nat.le_of_ble_eq_true rfl, Nat.le_of_ble_eq_true rfl⟩) ⟨fun a U g mk q => by obtain ⟨q0, q1, qP, qK, qN, qD⟩ := q; exact ⟨q0, q1, qP, va_K.moved (u := U) (U := U.calling g mk a) (Vm.Alike.refl U.vm) qK, qN.calling, qD⟩, va_recv hK hP (ci := 11) (q0 := 0) rfl rfl, fun U hU hW => ⟨rfl, by rw [hU], by rw [hU]; exact hPc, va_K.moved hW.alike hK, NN.warm hW hN, hDc.weaken (fun _ _ _ _ => trivial)⟩⟩ rfl rfl hl.1 rfl (lv_room (Nat.le_of_ble_eq_true rfl)) d_law_457 ⟨hkc, hks⟩) hS (fun q _ h => hFc q h) hFc (fun r457 u t H1 locs ht hvm hp_457 hB hz1 hk1 hS => ?_)
      obtain ⟨hP1, hD1⟩ := hB
      rw [ht] at hP1
      try dsimp only at hp_457
      obtain ⟨hP, hD⟩ := va_join (wr := []) (w1 := []) hP hD [0] [] rfl rfl (by decide) (by decide) hk1 hFc hP1 hD1
      clear hPc hDc hFc hP1 hD1 hk1 hz1
      generalize H1 = H at hP hS ⊢
      have hP : va_P D CL [] H := hP
      have hD : va_D A [] := hD
      refine lv_icmp_eq (tgt := 855) hx hb d_law_460 (by decide) (fun h_460 => ?_) (fun h_460 => absurd (hp_447.trans hp_457.symm) h_460)
      refine lv_iinc (v := 6) hx hb d_law_855 hl (k := 0) rfl (by decide) (by decide) rfl (fun ls hl => ?_)
      have hl : lv_has ls 7 [(4, .int 6), (3, .ref xq), (2, .ref xm), (1, .ref xd), (0, .ref b)] := hl
      refine lv_goto (tgt := 23) hx hb d_law_858 (by decide) ?_
      refine lv_iload hx hb d_law_23 (lv_at hl 0 rfl) ?_
      refine lv_aload_n hx hb d_law_25 rfl (lv_at hl 4 rfl) ?_
      refine va_slen hx hb hX hbl hbA hS d_law_26 ?_
      refine W.eq (g2 := F0 m 27 ls [.int 6, .int 6]) rfl ?_
      refine lv_bipush (v := 6) hx hb d_law_27 (by decide) ?_
      refine lv_isub hx hb d_law_29 ?_
      refine W.eq (g2 := F0 m 30 ls [.int 0, .int 6]) (by rw [show ((6 - 6) : Int32) = 0 from by decide]) ?_
      refine lv_icmp_gt (tgt := 861) hx hb d_law_30 (by decide) (fun h_30 => ?_) (fun h_30 => absurd (by decide) h_30)
      refine lv_iconst (v := 1) hx hb d_law_861 (by decide) ?_
      refine va_forget (fun q hq => by have h9 := hS.2.2 q hq; rw [hAe] at h9; exact h9) ?_
      refine W.widen (k := 600002) (n := 7302232) (by decide) (by decide) ?_
      exact lw_ret hx hb hr hlocks d_law_862
    · skip
      refine lv_tableIn (off := 425) (tgt := 465) hx hb d_law_40 (by decide) (by decide) (by decide) (by decide) ?_
      have hP := hP.sub (ws' := [(xd, .inr (0, [.ref tx, .ref tr, .ref im, .ref mkr, .ref rd])), (im, .inr (1, [.ref iq, .int 0])), (xm, .inr (11, [.int 0, .ref atext, .int 0, .int 1, .ref akind, .ref aparent, .ref amode, .ref aowner, .ref agroup, .ref asize, .ref aseed, .ref aname, .ref anameSize, .ref atarget, .ref atargetSize, .ref abase, .ref abaseSize, .ref aextension, .ref aextensionSize, .ref aimage, .int 0, .ref atable, .ref asector, .ref asectors, .ref acontents, .int 0, .int 0, .int 0, .int 0, .ref aabove, .ref aisDirectory, .ref abytes, .ref aplace, .ref areadMode, .ref areadOwner, .ref areadGroup, .ref areadName, .ref areadNameSize, .ref areadTarget, .ref areadTargetSize, .ref adepth, .int 0, .int 0, .int 0, .int 0, .int 0, .int 0, .int 0]))]) [0, 9, 34] rfl
      have hD := hD.sub (ws' := [(xd, .inr (0, [.ref tx, .ref tr, .ref im, .ref mkr, .ref rd])), (im, .inr (1, [.ref iq, .int 0])), (xm, .inr (11, [.int 0, .ref atext, .int 0, .int 1, .ref akind, .ref aparent, .ref amode, .ref aowner, .ref agroup, .ref asize, .ref aseed, .ref aname, .ref anameSize, .ref atarget, .ref atargetSize, .ref abase, .ref abaseSize, .ref aextension, .ref aextensionSize, .ref aimage, .int 0, .ref atable, .ref asector, .ref asectors, .ref acontents, .int 0, .int 0, .int 0, .int 0, .ref aabove, .ref aisDirectory, .ref abytes, .ref aplace, .ref areadMode, .ref areadOwner, .ref areadGroup, .ref areadName, .ref areadNameSize, .ref areadTarget, .ref areadTargetSize, .ref adepth, .int 0, .int 0, .int 0, .int 0, .int 0, .int 0, .int 0]))]) [0, 9, 34] (by decide) rfl
      refine lv_aload_n hx hb d_law_465 rfl (lv_at hl 3 rfl) ?_
      refine lv_aload_n hx hb d_law_466 rfl (lv_at hl 4 rfl) ?_
      refine lv_iload hx hb d_law_467 (lv_at hl 0 rfl) ?_
      refine lv_iconst (v := 1) hx hb d_law_469 (by decide) ?_
      refine lv_iadd hx hb d_law_470 ?_
      refine W.eq (g2 := F0 m 471 ls [.int 1, .ref b, .ref xd]) (by rw [show ((0 + 1) : Int32) = 1 from by decide]) ?_
      refine va_sld hx hb hX hbl hbA hS (by unfold vp_in; decide) d_law_471 ?_
      refine W.eq (g2 := F0 m 472 ls [.int (xs 1), .ref xd]) rfl ?_
      refine lv_aload_n hx hb d_law_472 rfl (lv_at hl 4 rfl) ?_
      refine lv_iload hx hb d_law_473 (lv_at hl 0 rfl) ?_
      refine lv_iconst (v := 2) hx hb d_law_475 (by decide) ?_
      refine lv_iadd hx hb d_law_476 ?_
      refine W.eq (g2 := F0 m 477 ls [.int 2, .ref b, .int (xs 1), .ref xd]) (by rw [show ((0 + 2) : Int32) = 2 from by decide]) ?_
      refine va_sld hx hb hX hbl hbA hS (by unfold vp_in; decide) d_law_477 ?_
      refine W.eq (g2 := F0 m 478 ls [.int (xs 2), .int (xs 1), .ref xd]) rfl ?_
      have hPc := hP.sub (ws' := [(xd, .inr (0, [.ref tx, .ref tr, .ref im, .ref mkr, .ref rd])), (im, .inr (1, [.ref iq, .int 0]))]) [0, 1] rfl
      have hDc := hD.sub (ws' := [(xd, .inr (0, [.ref tx, .ref tr, .ref im, .ref mkr, .ref rd])), (im, .inr (1, [.ref iq, .int 0]))]) [0, 1] (by decide) rfl
      have hFc := va_free (wc := [(xd, .inr (0, [.ref tx, .ref tr, .ref im, .ref mkr, .ref rd])), (im, .inr (1, [.ref iq, .int 0]))]) hD hS hA [0, 1] rfl
      have hkc : 69 ≤ 600002 := by decide
      have hks : 105305 ≤ 7302232 := by decide
      refine va_calli (va_runV (C := "DiscMaker") (As := [.int (xs 1), .int (xs 2)]) (rest := []) ⟨hx, hb, hml, hown, hts⟩ (c_poke l D cB cI cJ cZ cN cF H.size xd tx tr im mkr rd iq (xs 1) (xs 2)) (cwV 2 hts (lg_goodV k1136 k1137 k1138 k115 kc_DiscMaker_poke) rfl rfl rfl (by decide +kernel) ⟨Nat.le_of_ble_eq_true rfl, Nat.le_of_ble_eq_true rfl⟩) ⟨fun a U g mk q => by obtain ⟨q0, q1, qP, qK, qN, qD⟩ := q; exact ⟨q0, q1, qP, va_K.moved (u := U) (U := U.calling g mk a) (Vm.Alike.refl U.vm) qK, qN.calling, qD⟩, va_recv hK hP (ci := 0) (q0 := 0) rfl rfl, fun U hU hW => ⟨rfl, by rw [hU], by rw [hU]; exact hPc, va_K.moved hW.alike hK, NN.warm hW hN, hDc.weaken (fun _ _ _ _ => trivial)⟩⟩ rfl rfl hl.1 rfl (lv_room (Nat.le_of_ble_eq_true rfl)) d_law_478 ⟨hkc, hks⟩) hS (fun q _ h => hFc q h) hFc (fun r478 u t H1 locs ht hvm hp_478 hB hz1 hk1 hS => ?_)
      obtain ⟨hP1, hD1⟩ := hB
      rw [ht] at hP1
      try dsimp only at hp_478
      obtain ⟨hP, hD⟩ := va_join (wr := [(xm, .inr (11, [.int 0, .ref atext, .int 0, .int 1, .ref akind, .ref aparent, .ref amode, .ref aowner, .ref agroup, .ref asize, .ref aseed, .ref aname, .ref anameSize, .ref atarget, .ref atargetSize, .ref abase, .ref abaseSize, .ref aextension, .ref aextensionSize, .ref aimage, .int 0, .ref atable, .ref asector, .ref asectors, .ref acontents, .int 0, .int 0, .int 0, .int 0, .ref aabove, .ref aisDirectory, .ref abytes, .ref aplace, .ref areadMode, .ref areadOwner, .ref areadGroup, .ref areadName, .ref areadNameSize, .ref areadTarget, .ref areadTargetSize, .ref adepth, .int 0, .int 0, .int 0, .int 0, .int 0, .int 0, .int 0]))]) (w1 := []) hP hD [0, 1] [2] rfl rfl (by decide) (by decide) hk1 hFc hP1 hD1
      clear hPc hDc hFc hP1 hD1 hk1 hz1
      generalize H1 = H at hP hS ⊢
      have hP : va_P D CL [(xm, .inr (11, [.int 0, .ref atext, .int 0, .int 1, .ref akind, .ref aparent, .ref amode, .ref aowner, .ref agroup, .ref asize, .ref aseed, .ref aname, .ref anameSize, .ref atarget, .ref atargetSize, .ref abase, .ref abaseSize, .ref aextension, .ref aextensionSize, .ref aimage, .int 0, .ref atable, .ref asector, .ref asectors, .ref acontents, .int 0, .int 0, .int 0, .int 0, .ref aabove, .ref aisDirectory, .ref abytes, .ref aplace, .ref areadMode, .ref areadOwner, .ref areadGroup, .ref areadName, .ref areadNameSize, .ref areadTarget, .ref areadTargetSize, .ref adepth, .int 0, .int 0, .int 0, .int 0, .int 0, .int 0, .int 0]))] H := hP
      have hD : va_D A [(xm, .inr (11, [.int 0, .ref atext, .int 0, .int 1, .ref akind, .ref aparent, .ref amode, .ref aowner, .ref agroup, .ref asize, .ref aseed, .ref aname, .ref anameSize, .ref atarget, .ref atargetSize, .ref abase, .ref abaseSize, .ref aextension, .ref aextensionSize, .ref aimage, .int 0, .ref atable, .ref asector, .ref asectors, .ref acontents, .int 0, .int 0, .int 0, .int 0, .ref aabove, .ref aisDirectory, .ref abytes, .ref aplace, .ref areadMode, .ref areadOwner, .ref areadGroup, .ref areadName, .ref areadNameSize, .ref areadTarget, .ref areadTargetSize, .ref adepth, .int 0, .int 0, .int 0, .int 0, .int 0, .int 0, .int 0]))] := hD
      refine lv_aload_n hx hb d_law_481 rfl (lv_at hl 2 rfl) ?_
      refine lv_aload_n hx hb d_law_482 rfl (lv_at hl 4 rfl) ?_
      refine lv_iload hx hb d_law_483 (lv_at hl 0 rfl) ?_
      refine lv_iconst (v := 1) hx hb d_law_485 (by decide) ?_
      refine lv_iadd hx hb d_law_486 ?_
      refine W.eq (g2 := F0 m 487 ls [.int 1, .ref b, .ref xm, .int r478]) (by rw [show ((0 + 1) : Int32) = 1 from by decide]) ?_
      refine va_sld hx hb hX hbl hbA hS (by unfold vp_in; decide) d_law_487 ?_
      refine W.eq (g2 := F0 m 488 ls [.int (xs 1), .ref xm, .int r478]) rfl ?_
      refine lv_aload_n hx hb d_law_488 rfl (lv_at hl 4 rfl) ?_
      refine lv_iload hx hb d_law_489 (lv_at hl 0 rfl) ?_
      refine lv_iconst (v := 2) hx hb d_law_491 (by decide) ?_
      refine lv_iadd hx hb d_law_492 ?_
      refine W.eq (g2 := F0 m 493 ls [.int 2, .ref b, .int (xs 1), .ref xm, .int r478]) (by rw [show ((0 + 2) : Int32) = 2 from by decide]) ?_
      refine va_sld hx hb hX hbl hbA hS (by unfold vp_in; decide) d_law_493 ?_
      refine W.eq (g2 := F0 m 494 ls [.int (xs 2), .int (xs 1), .ref xm, .int r478]) rfl ?_
      have hPc := hP.sub (ws' := [(xm, .inr (11, [.int 0, .ref atext, .int 0, .int 1, .ref akind, .ref aparent, .ref amode, .ref aowner, .ref agroup, .ref asize, .ref aseed, .ref aname, .ref anameSize, .ref atarget, .ref atargetSize, .ref abase, .ref abaseSize, .ref aextension, .ref aextensionSize, .ref aimage, .int 0, .ref atable, .ref asector, .ref asectors, .ref acontents, .int 0, .int 0, .int 0, .int 0, .ref aabove, .ref aisDirectory, .ref abytes, .ref aplace, .ref areadMode, .ref areadOwner, .ref areadGroup, .ref areadName, .ref areadNameSize, .ref areadTarget, .ref areadTargetSize, .ref adepth, .int 0, .int 0, .int 0, .int 0, .int 0, .int 0, .int 0]))]) [0] rfl
      have hDc := hD.sub (ws' := [(xm, .inr (11, [.int 0, .ref atext, .int 0, .int 1, .ref akind, .ref aparent, .ref amode, .ref aowner, .ref agroup, .ref asize, .ref aseed, .ref aname, .ref anameSize, .ref atarget, .ref atargetSize, .ref abase, .ref abaseSize, .ref aextension, .ref aextensionSize, .ref aimage, .int 0, .ref atable, .ref asector, .ref asectors, .ref acontents, .int 0, .int 0, .int 0, .int 0, .ref aabove, .ref aisDirectory, .ref abytes, .ref aplace, .ref areadMode, .ref areadOwner, .ref areadGroup, .ref areadName, .ref areadNameSize, .ref areadTarget, .ref areadTargetSize, .ref adepth, .int 0, .int 0, .int 0, .int 0, .int 0, .int 0, .int 0]))]) [0] (by decide) rfl
      have hFc := va_free (wc := [(xm, .inr (11, [.int 0, .ref atext, .int 0, .int 1, .ref akind, .ref aparent, .ref amode, .ref aowner, .ref agroup, .ref asize, .ref aseed, .ref aname, .ref anameSize, .ref atarget, .ref atargetSize, .ref abase, .ref abaseSize, .ref aextension, .ref aextensionSize, .ref aimage, .int 0, .ref atable, .ref asector, .ref asectors, .ref acontents, .int 0, .int 0, .int 0, .int 0, .ref aabove, .ref aisDirectory, .ref abytes, .ref aplace, .ref areadMode, .ref areadOwner, .ref areadGroup, .ref areadName, .ref areadNameSize, .ref areadTarget, .ref areadTargetSize, .ref adepth, .int 0, .int 0, .int 0, .int 0, .int 0, .int 0, .int 0]))]) hD hS hA [0] rfl
      have hkc : 69 ≤ 600002 := by decide
      have hks : 105305 ≤ 7302232 := by decide
      refine va_calli (va_runV (C := "DiscMakerModel") (As := [.int (xs 1), .int (xs 2)]) (rest := [.int r478]) ⟨hx, hb, hml, hown, hts⟩ (c_m_poke l D cB cI cJ cZ cN cF H.size xm atext akind aparent amode aowner agroup asize aseed aname anameSize atarget atargetSize abase abaseSize aextension aextensionSize aimage atable asector asectors acontents aabove aisDirectory abytes aplace areadMode areadOwner areadGroup areadName areadNameSize areadTarget areadTargetSize adepth (xs 1) (xs 2)) (cwV 2 hts (lg_goodV k1817 k1818 k1819 k125 kc_DiscMakerModel_poke) rfl rfl rfl (by decide +kernel) ⟨Nat.le_of_ble_eq_true rfl, Nat.le_of_ble_eq_true rfl⟩) ⟨fun a U g mk q => by obtain ⟨q0, q1, qP, qK, qN, qD⟩ := q; exact ⟨q0, q1, qP, va_K.moved (u := U) (U := U.calling g mk a) (Vm.Alike.refl U.vm) qK, qN.calling, qD⟩, va_recv hK hP (ci := 11) (q0 := 0) rfl rfl, fun U hU hW => ⟨rfl, by rw [hU], by rw [hU]; exact hPc, va_K.moved hW.alike hK, NN.warm hW hN, hDc.weaken (fun _ _ _ _ => trivial)⟩⟩ rfl rfl hl.1 rfl (lv_room (Nat.le_of_ble_eq_true rfl)) d_law_494 ⟨hkc, hks⟩) hS (fun q _ h => hFc q h) hFc (fun r494 u t H1 locs ht hvm hp_494 hB hz1 hk1 hS => ?_)
      obtain ⟨hP1, hD1⟩ := hB
      rw [ht] at hP1
      try dsimp only at hp_494
      obtain ⟨hP, hD⟩ := va_join (wr := []) (w1 := []) hP hD [0] [] rfl rfl (by decide) (by decide) hk1 hFc hP1 hD1
      clear hPc hDc hFc hP1 hD1 hk1 hz1
      generalize H1 = H at hP hS ⊢
      have hP : va_P D CL [] H := hP
      have hD : va_D A [] := hD
      refine lv_icmp_eq (tgt := 855) hx hb d_law_497 (by decide) (fun h_497 => ?_) (fun h_497 => absurd (hp_478.trans hp_494.symm) h_497)
      refine lv_iinc (v := 6) hx hb d_law_855 hl (k := 0) rfl (by decide) (by decide) rfl (fun ls hl => ?_)
      have hl : lv_has ls 7 [(4, .int 6), (3, .ref xq), (2, .ref xm), (1, .ref xd), (0, .ref b)] := hl
      refine lv_goto (tgt := 23) hx hb d_law_858 (by decide) ?_
      refine lv_iload hx hb d_law_23 (lv_at hl 0 rfl) ?_
      refine lv_aload_n hx hb d_law_25 rfl (lv_at hl 4 rfl) ?_
      refine va_slen hx hb hX hbl hbA hS d_law_26 ?_
      refine W.eq (g2 := F0 m 27 ls [.int 6, .int 6]) rfl ?_
      refine lv_bipush (v := 6) hx hb d_law_27 (by decide) ?_
      refine lv_isub hx hb d_law_29 ?_
      refine W.eq (g2 := F0 m 30 ls [.int 0, .int 6]) (by rw [show ((6 - 6) : Int32) = 0 from by decide]) ?_
      refine lv_icmp_gt (tgt := 861) hx hb d_law_30 (by decide) (fun h_30 => ?_) (fun h_30 => absurd (by decide) h_30)
      refine lv_iconst (v := 1) hx hb d_law_861 (by decide) ?_
      refine va_forget (fun q hq => by have h9 := hS.2.2 q hq; rw [hAe] at h9; exact h9) ?_
      refine W.widen (k := 600002) (n := 7302232) (by decide) (by decide) ?_
      exact lw_ret hx hb hr hlocks d_law_862
    · skip
      refine lv_tableIn (off := 462) (tgt := 502) hx hb d_law_40 (by decide) (by decide) (by decide) (by decide) ?_
      have hP := hP.sub (ws' := [(xd, .inr (0, [.ref tx, .ref tr, .ref im, .ref mkr, .ref rd])), (im, .inr (1, [.ref iq, .int 0])), (xm, .inr (11, [.int 0, .ref atext, .int 0, .int 1, .ref akind, .ref aparent, .ref amode, .ref aowner, .ref agroup, .ref asize, .ref aseed, .ref aname, .ref anameSize, .ref atarget, .ref atargetSize, .ref abase, .ref abaseSize, .ref aextension, .ref aextensionSize, .ref aimage, .int 0, .ref atable, .ref asector, .ref asectors, .ref acontents, .int 0, .int 0, .int 0, .int 0, .ref aabove, .ref aisDirectory, .ref abytes, .ref aplace, .ref areadMode, .ref areadOwner, .ref areadGroup, .ref areadName, .ref areadNameSize, .ref areadTarget, .ref areadTargetSize, .ref adepth, .int 0, .int 0, .int 0, .int 0, .int 0, .int 0, .int 0]))]) [0, 9, 34] rfl
      have hD := hD.sub (ws' := [(xd, .inr (0, [.ref tx, .ref tr, .ref im, .ref mkr, .ref rd])), (im, .inr (1, [.ref iq, .int 0])), (xm, .inr (11, [.int 0, .ref atext, .int 0, .int 1, .ref akind, .ref aparent, .ref amode, .ref aowner, .ref agroup, .ref asize, .ref aseed, .ref aname, .ref anameSize, .ref atarget, .ref atargetSize, .ref abase, .ref abaseSize, .ref aextension, .ref aextensionSize, .ref aimage, .int 0, .ref atable, .ref asector, .ref asectors, .ref acontents, .int 0, .int 0, .int 0, .int 0, .ref aabove, .ref aisDirectory, .ref abytes, .ref aplace, .ref areadMode, .ref areadOwner, .ref areadGroup, .ref areadName, .ref areadNameSize, .ref areadTarget, .ref areadTargetSize, .ref adepth, .int 0, .int 0, .int 0, .int 0, .int 0, .int 0, .int 0]))]) [0, 9, 34] (by decide) rfl
      refine lv_aload_n hx hb d_law_502 rfl (lv_at hl 3 rfl) ?_
      refine lv_aload_n hx hb d_law_503 rfl (lv_at hl 4 rfl) ?_
      refine lv_iload hx hb d_law_504 (lv_at hl 0 rfl) ?_
      refine lv_iconst (v := 1) hx hb d_law_506 (by decide) ?_
      refine lv_iadd hx hb d_law_507 ?_
      refine W.eq (g2 := F0 m 508 ls [.int 1, .ref b, .ref xd]) (by rw [show ((0 + 1) : Int32) = 1 from by decide]) ?_
      refine va_sld hx hb hX hbl hbA hS (by unfold vp_in; decide) d_law_508 ?_
      refine W.eq (g2 := F0 m 509 ls [.int (xs 1), .ref xd]) rfl ?_
      have hPc := hP.sub (ws' := [(xd, .inr (0, [.ref tx, .ref tr, .ref im, .ref mkr, .ref rd])), (im, .inr (1, [.ref iq, .int 0]))]) [0, 1] rfl
      have hDc := hD.sub (ws' := [(xd, .inr (0, [.ref tx, .ref tr, .ref im, .ref mkr, .ref rd])), (im, .inr (1, [.ref iq, .int 0]))]) [0, 1] (by decide) rfl
      have hFc := va_free (wc := [(xd, .inr (0, [.ref tx, .ref tr, .ref im, .ref mkr, .ref rd])), (im, .inr (1, [.ref iq, .int 0]))]) hD hS hA [0, 1] rfl
      have hkc : 69 ≤ 600002 := by decide
      have hks : 105305 ≤ 7302232 := by decide
      refine va_calli (va_runV (C := "DiscMaker") (As := [.int (xs 1)]) (rest := []) ⟨hx, hb, hml, hown, hts⟩ (c_cut l D cB cI cJ cZ cN cF H.size xd tx tr im mkr rd iq (xs 1)) (cwV 1 hts (lg_goodV k1141 k1142 k1143 k115 kc_DiscMaker_cut) rfl rfl rfl (by decide +kernel) ⟨Nat.le_of_ble_eq_true rfl, Nat.le_of_ble_eq_true rfl⟩) ⟨fun a U g mk q => by obtain ⟨q0, q1, qP, qK, qN, qD⟩ := q; exact ⟨q0, q1, qP, va_K.moved (u := U) (U := U.calling g mk a) (Vm.Alike.refl U.vm) qK, qN.calling, qD⟩, va_recv hK hP (ci := 0) (q0 := 0) rfl rfl, fun U hU hW => ⟨rfl, by rw [hU], by rw [hU]; exact hPc, va_K.moved hW.alike hK, NN.warm hW hN, hDc.weaken (fun _ _ _ _ => trivial)⟩⟩ rfl rfl hl.1 rfl (lv_room (Nat.le_of_ble_eq_true rfl)) d_law_509 ⟨hkc, hks⟩) hS (fun q _ h => hFc q h) hFc (fun r509 u t H1 locs ht hvm hp_509 hB hz1 hk1 hS => ?_)
      obtain ⟨hP1, hD1⟩ := hB
      rw [ht] at hP1
      try dsimp only at hp_509
      obtain ⟨hP, hD⟩ := va_join (wr := [(xm, .inr (11, [.int 0, .ref atext, .int 0, .int 1, .ref akind, .ref aparent, .ref amode, .ref aowner, .ref agroup, .ref asize, .ref aseed, .ref aname, .ref anameSize, .ref atarget, .ref atargetSize, .ref abase, .ref abaseSize, .ref aextension, .ref aextensionSize, .ref aimage, .int 0, .ref atable, .ref asector, .ref asectors, .ref acontents, .int 0, .int 0, .int 0, .int 0, .ref aabove, .ref aisDirectory, .ref abytes, .ref aplace, .ref areadMode, .ref areadOwner, .ref areadGroup, .ref areadName, .ref areadNameSize, .ref areadTarget, .ref areadTargetSize, .ref adepth, .int 0, .int 0, .int 0, .int 0, .int 0, .int 0, .int 0]))]) (w1 := []) hP hD [0, 1] [2] rfl rfl (by decide) (by decide) hk1 hFc hP1 hD1
      clear hPc hDc hFc hP1 hD1 hk1 hz1
      generalize H1 = H at hP hS ⊢
      have hP : va_P D CL [(xm, .inr (11, [.int 0, .ref atext, .int 0, .int 1, .ref akind, .ref aparent, .ref amode, .ref aowner, .ref agroup, .ref asize, .ref aseed, .ref aname, .ref anameSize, .ref atarget, .ref atargetSize, .ref abase, .ref abaseSize, .ref aextension, .ref aextensionSize, .ref aimage, .int 0, .ref atable, .ref asector, .ref asectors, .ref acontents, .int 0, .int 0, .int 0, .int 0, .ref aabove, .ref aisDirectory, .ref abytes, .ref aplace, .ref areadMode, .ref areadOwner, .ref areadGroup, .ref areadName, .ref areadNameSize, .ref areadTarget, .ref areadTargetSize, .ref adepth, .int 0, .int 0, .int 0, .int 0, .int 0, .int 0, .int 0]))] H := hP
      have hD : va_D A [(xm, .inr (11, [.int 0, .ref atext, .int 0, .int 1, .ref akind, .ref aparent, .ref amode, .ref aowner, .ref agroup, .ref asize, .ref aseed, .ref aname, .ref anameSize, .ref atarget, .ref atargetSize, .ref abase, .ref abaseSize, .ref aextension, .ref aextensionSize, .ref aimage, .int 0, .ref atable, .ref asector, .ref asectors, .ref acontents, .int 0, .int 0, .int 0, .int 0, .ref aabove, .ref aisDirectory, .ref abytes, .ref aplace, .ref areadMode, .ref areadOwner, .ref areadGroup, .ref areadName, .ref areadNameSize, .ref areadTarget, .ref areadTargetSize, .ref adepth, .int 0, .int 0, .int 0, .int 0, .int 0, .int 0, .int 0]))] := hD
      refine lv_aload_n hx hb d_law_512 rfl (lv_at hl 2 rfl) ?_
      refine lv_aload_n hx hb d_law_513 rfl (lv_at hl 4 rfl) ?_
      refine lv_iload hx hb d_law_514 (lv_at hl 0 rfl) ?_
      refine lv_iconst (v := 1) hx hb d_law_516 (by decide) ?_
      refine lv_iadd hx hb d_law_517 ?_
      refine W.eq (g2 := F0 m 518 ls [.int 1, .ref b, .ref xm, .int r509]) (by rw [show ((0 + 1) : Int32) = 1 from by decide]) ?_
      refine va_sld hx hb hX hbl hbA hS (by unfold vp_in; decide) d_law_518 ?_
      refine W.eq (g2 := F0 m 519 ls [.int (xs 1), .ref xm, .int r509]) rfl ?_
      have hPc := hP.sub (ws' := [(xm, .inr (11, [.int 0, .ref atext, .int 0, .int 1, .ref akind, .ref aparent, .ref amode, .ref aowner, .ref agroup, .ref asize, .ref aseed, .ref aname, .ref anameSize, .ref atarget, .ref atargetSize, .ref abase, .ref abaseSize, .ref aextension, .ref aextensionSize, .ref aimage, .int 0, .ref atable, .ref asector, .ref asectors, .ref acontents, .int 0, .int 0, .int 0, .int 0, .ref aabove, .ref aisDirectory, .ref abytes, .ref aplace, .ref areadMode, .ref areadOwner, .ref areadGroup, .ref areadName, .ref areadNameSize, .ref areadTarget, .ref areadTargetSize, .ref adepth, .int 0, .int 0, .int 0, .int 0, .int 0, .int 0, .int 0]))]) [0] rfl
      have hDc := hD.sub (ws' := [(xm, .inr (11, [.int 0, .ref atext, .int 0, .int 1, .ref akind, .ref aparent, .ref amode, .ref aowner, .ref agroup, .ref asize, .ref aseed, .ref aname, .ref anameSize, .ref atarget, .ref atargetSize, .ref abase, .ref abaseSize, .ref aextension, .ref aextensionSize, .ref aimage, .int 0, .ref atable, .ref asector, .ref asectors, .ref acontents, .int 0, .int 0, .int 0, .int 0, .ref aabove, .ref aisDirectory, .ref abytes, .ref aplace, .ref areadMode, .ref areadOwner, .ref areadGroup, .ref areadName, .ref areadNameSize, .ref areadTarget, .ref areadTargetSize, .ref adepth, .int 0, .int 0, .int 0, .int 0, .int 0, .int 0, .int 0]))]) [0] (by decide) rfl
      have hFc := va_free (wc := [(xm, .inr (11, [.int 0, .ref atext, .int 0, .int 1, .ref akind, .ref aparent, .ref amode, .ref aowner, .ref agroup, .ref asize, .ref aseed, .ref aname, .ref anameSize, .ref atarget, .ref atargetSize, .ref abase, .ref abaseSize, .ref aextension, .ref aextensionSize, .ref aimage, .int 0, .ref atable, .ref asector, .ref asectors, .ref acontents, .int 0, .int 0, .int 0, .int 0, .ref aabove, .ref aisDirectory, .ref abytes, .ref aplace, .ref areadMode, .ref areadOwner, .ref areadGroup, .ref areadName, .ref areadNameSize, .ref areadTarget, .ref areadTargetSize, .ref adepth, .int 0, .int 0, .int 0, .int 0, .int 0, .int 0, .int 0]))]) hD hS hA [0] rfl
      have hkc : 69 ≤ 600002 := by decide
      have hks : 105305 ≤ 7302232 := by decide
      refine va_calli (va_runV (C := "DiscMakerModel") (As := [.int (xs 1)]) (rest := [.int r509]) ⟨hx, hb, hml, hown, hts⟩ (c_m_cut l D cB cI cJ cZ cN cF H.size xm atext akind aparent amode aowner agroup asize aseed aname anameSize atarget atargetSize abase abaseSize aextension aextensionSize aimage atable asector asectors acontents aabove aisDirectory abytes aplace areadMode areadOwner areadGroup areadName areadNameSize areadTarget areadTargetSize adepth (xs 1)) (cwV 1 hts (lg_goodV k1821 k1822 k1823 k125 kc_DiscMakerModel_cut) rfl rfl rfl (by decide +kernel) ⟨Nat.le_of_ble_eq_true rfl, Nat.le_of_ble_eq_true rfl⟩) ⟨fun a U g mk q => by obtain ⟨q0, q1, qP, qK, qN, qD⟩ := q; exact ⟨q0, q1, qP, va_K.moved (u := U) (U := U.calling g mk a) (Vm.Alike.refl U.vm) qK, qN.calling, qD⟩, va_recv hK hP (ci := 11) (q0 := 0) rfl rfl, fun U hU hW => ⟨rfl, by rw [hU], by rw [hU]; exact hPc, va_K.moved hW.alike hK, NN.warm hW hN, hDc.weaken (fun _ _ _ _ => trivial)⟩⟩ rfl rfl hl.1 rfl (lv_room (Nat.le_of_ble_eq_true rfl)) d_law_519 ⟨hkc, hks⟩) hS (fun q _ h => hFc q h) hFc (fun r519 u t H1 locs ht hvm hp_519 hB hz1 hk1 hS => ?_)
      obtain ⟨hP1, hD1⟩ := hB
      rw [ht] at hP1
      try dsimp only at hp_519
      obtain ⟨hP, hD⟩ := va_join (wr := []) (w1 := []) hP hD [0] [] rfl rfl (by decide) (by decide) hk1 hFc hP1 hD1
      clear hPc hDc hFc hP1 hD1 hk1 hz1
      generalize H1 = H at hP hS ⊢
      have hP : va_P D CL [] H := hP
      have hD : va_D A [] := hD
      refine lv_icmp_eq (tgt := 855) hx hb d_law_522 (by decide) (fun h_522 => ?_) (fun h_522 => absurd (z_same hp_509 hp_519) h_522)
      refine lv_iinc (v := 6) hx hb d_law_855 hl (k := 0) rfl (by decide) (by decide) rfl (fun ls hl => ?_)
      have hl : lv_has ls 7 [(4, .int 6), (3, .ref xq), (2, .ref xm), (1, .ref xd), (0, .ref b)] := hl
      refine lv_goto (tgt := 23) hx hb d_law_858 (by decide) ?_
      refine lv_iload hx hb d_law_23 (lv_at hl 0 rfl) ?_
      refine lv_aload_n hx hb d_law_25 rfl (lv_at hl 4 rfl) ?_
      refine va_slen hx hb hX hbl hbA hS d_law_26 ?_
      refine W.eq (g2 := F0 m 27 ls [.int 6, .int 6]) rfl ?_
      refine lv_bipush (v := 6) hx hb d_law_27 (by decide) ?_
      refine lv_isub hx hb d_law_29 ?_
      refine W.eq (g2 := F0 m 30 ls [.int 0, .int 6]) (by rw [show ((6 - 6) : Int32) = 0 from by decide]) ?_
      refine lv_icmp_gt (tgt := 861) hx hb d_law_30 (by decide) (fun h_30 => ?_) (fun h_30 => absurd (by decide) h_30)
      refine lv_iconst (v := 1) hx hb d_law_861 (by decide) ?_
      refine va_forget (fun q hq => by have h9 := hS.2.2 q hq; rw [hAe] at h9; exact h9) ?_
      refine W.widen (k := 600002) (n := 7302232) (by decide) (by decide) ?_
      exact lw_ret hx hb hr hlocks d_law_862
    · skip
      refine lv_tableIn (off := 487) (tgt := 527) hx hb d_law_40 (by decide) (by decide) (by decide) (by decide) ?_
      have hP := hP.sub (ws' := [(xd, .inr (0, [.ref tx, .ref tr, .ref im, .ref mkr, .ref rd])), (rd, .inr (7, [.ref im, .ref rp, .ref rr, .int 0, .int 0, .int 0])), (im, .inr (1, [.ref iq, .int 0])), (xm, .inr (11, [.int 0, .ref atext, .int 0, .int 1, .ref akind, .ref aparent, .ref amode, .ref aowner, .ref agroup, .ref asize, .ref aseed, .ref aname, .ref anameSize, .ref atarget, .ref atargetSize, .ref abase, .ref abaseSize, .ref aextension, .ref aextensionSize, .ref aimage, .int 0, .ref atable, .ref asector, .ref asectors, .ref acontents, .int 0, .int 0, .int 0, .int 0, .ref aabove, .ref aisDirectory, .ref abytes, .ref aplace, .ref areadMode, .ref areadOwner, .ref areadGroup, .ref areadName, .ref areadNameSize, .ref areadTarget, .ref areadTargetSize, .ref adepth, .int 0, .int 0, .int 0, .int 0, .int 0, .int 0, .int 0])), (xq, .inl (cJ, 1, .inr (.inl (fun _ => 0))))]) [0, 31, 9, 34, 68] rfl
      have hD := hD.sub (ws' := [(xd, .inr (0, [.ref tx, .ref tr, .ref im, .ref mkr, .ref rd])), (rd, .inr (7, [.ref im, .ref rp, .ref rr, .int 0, .int 0, .int 0])), (im, .inr (1, [.ref iq, .int 0])), (xm, .inr (11, [.int 0, .ref atext, .int 0, .int 1, .ref akind, .ref aparent, .ref amode, .ref aowner, .ref agroup, .ref asize, .ref aseed, .ref aname, .ref anameSize, .ref atarget, .ref atargetSize, .ref abase, .ref abaseSize, .ref aextension, .ref aextensionSize, .ref aimage, .int 0, .ref atable, .ref asector, .ref asectors, .ref acontents, .int 0, .int 0, .int 0, .int 0, .ref aabove, .ref aisDirectory, .ref abytes, .ref aplace, .ref areadMode, .ref areadOwner, .ref areadGroup, .ref areadName, .ref areadNameSize, .ref areadTarget, .ref areadTargetSize, .ref adepth, .int 0, .int 0, .int 0, .int 0, .int 0, .int 0, .int 0])), (xq, .inl (cJ, 1, .inr (.inl (fun _ => 0))))]) [0, 31, 9, 34, 68] (by decide) rfl
      refine lv_aload_n hx hb d_law_527 rfl (lv_at hl 3 rfl) ?_
      refine lv_aload_n hx hb d_law_528 rfl (lv_at hl 4 rfl) ?_
      refine lv_iload hx hb d_law_529 (lv_at hl 0 rfl) ?_
      refine lv_iconst (v := 1) hx hb d_law_531 (by decide) ?_
      refine lv_iadd hx hb d_law_532 ?_
      refine W.eq (g2 := F0 m 533 ls [.int 1, .ref b, .ref xd]) (by rw [show ((0 + 1) : Int32) = 1 from by decide]) ?_
      refine va_sld hx hb hX hbl hbA hS (by unfold vp_in; decide) d_law_533 ?_
      refine W.eq (g2 := F0 m 534 ls [.int (xs 1), .ref xd]) rfl ?_
      refine lv_aload_n hx hb d_law_534 rfl (lv_at hl 1 rfl) ?_
      have hPc := hP.sub (ws' := [(xd, .inr (0, [.ref tx, .ref tr, .ref im, .ref mkr, .ref rd])), (rd, .inr (7, [.ref im, .ref rp, .ref rr, .int 0, .int 0, .int 0])), (im, .inr (1, [.ref iq, .int 0])), (xq, .inl (cJ, 1, .inr (.inl (fun _ => 0))))]) [0, 1, 2, 4] rfl
      have hDc := hD.sub (ws' := [(xd, .inr (0, [.ref tx, .ref tr, .ref im, .ref mkr, .ref rd])), (rd, .inr (7, [.ref im, .ref rp, .ref rr, .int 0, .int 0, .int 0])), (im, .inr (1, [.ref iq, .int 0])), (xq, .inl (cJ, 1, .inr (.inl (fun _ => 0))))]) [0, 1, 2, 4] (by decide) rfl
      have hFc := va_free (wc := [(xd, .inr (0, [.ref tx, .ref tr, .ref im, .ref mkr, .ref rd])), (rd, .inr (7, [.ref im, .ref rp, .ref rr, .int 0, .int 0, .int 0])), (im, .inr (1, [.ref iq, .int 0])), (xq, .inl (cJ, 1, .inr (.inl (fun _ => 0))))]) hD hS hA [0, 1, 2, 4] rfl
      have hkc : 70 ≤ 600002 := by decide
      have hks : 105311 ≤ 7302232 := by decide
      refine va_calli (zz_runSW (n := 3) (As := [.ref xd, .int (xs 1), .ref xq]) (rest := []) ⟨hx, hb, hml, hown, hts⟩ (c_l_mount l htl D cB cI cJ cZ cN cF H.size xd tx tr im mkr rd rp rr iq xq (fun _ => 0) (xs 1)) (lg_good kc_DiscMakerLaw_mount) rfl rfl rfl (ht9 _ k1146) (ht9 _ k1147) (ht9 _ k114) (by decide +kernel) ⟨Nat.le_of_ble_eq_true rfl, Nat.le_of_ble_eq_true rfl⟩ ⟨fun a U g mk q => by obtain ⟨q0, q1, qP, qK, qN, qD, qZ⟩ := q; exact ⟨q0, q1, qP, va_K.moved (u := U) (U := U.calling g mk a) (Vm.Alike.refl U.vm) qK, qN.calling, qD, TX_blind qZ⟩, fun U hU hW => ⟨rfl, by rw [hU], by rw [hU]; exact hPc, va_K.moved hW.alike hK, NN.warm hW hN, hDc.weaken (fun _ _ _ _ => trivial), TX_pass (hTX) hS hFc hW.alike hU⟩⟩ rfl rfl hl.1 rfl (lv_room (Nat.le_of_ble_eq_true rfl)) d_law_535 ⟨hkc, hks⟩) hS (fun q _ h => hFc q h) hFc (fun r535 u t H1 locs ht hvm hp_535 hB hz1 hk1 hS => ?_)
      obtain ⟨Gq, rfl⟩ : ∃ z, z = u := ⟨_, rfl⟩
      obtain ⟨hP1, hD1⟩ := hB
      rw [ht] at hP1
      try dsimp only at hp_535
      obtain ⟨hP, hD⟩ := va_join (wr := [(xm, .inr (11, [.int 0, .ref atext, .int 0, .int 1, .ref akind, .ref aparent, .ref amode, .ref aowner, .ref agroup, .ref asize, .ref aseed, .ref aname, .ref anameSize, .ref atarget, .ref atargetSize, .ref abase, .ref abaseSize, .ref aextension, .ref aextensionSize, .ref aimage, .int 0, .ref atable, .ref asector, .ref asectors, .ref acontents, .int 0, .int 0, .int 0, .int 0, .ref aabove, .ref aisDirectory, .ref abytes, .ref aplace, .ref areadMode, .ref areadOwner, .ref areadGroup, .ref areadName, .ref areadNameSize, .ref areadTarget, .ref areadTargetSize, .ref adepth, .int 0, .int 0, .int 0, .int 0, .int 0, .int 0, .int 0]))]) (w1 := [(xq, .inl (cJ, 1, .inr (.inl Gq)))]) hP hD [0, 1, 2, 4] [3] rfl rfl (by decide) (by decide) hk1 hFc hP1 hD1
      clear hPc hDc hFc hP1 hD1 hk1 hz1
      generalize H1 = H at hP hS ⊢
      have hP : va_P D CL [(xm, .inr (11, [.int 0, .ref atext, .int 0, .int 1, .ref akind, .ref aparent, .ref amode, .ref aowner, .ref agroup, .ref asize, .ref aseed, .ref aname, .ref anameSize, .ref atarget, .ref atargetSize, .ref abase, .ref abaseSize, .ref aextension, .ref aextensionSize, .ref aimage, .int 0, .ref atable, .ref asector, .ref asectors, .ref acontents, .int 0, .int 0, .int 0, .int 0, .ref aabove, .ref aisDirectory, .ref abytes, .ref aplace, .ref areadMode, .ref areadOwner, .ref areadGroup, .ref areadName, .ref areadNameSize, .ref areadTarget, .ref areadTargetSize, .ref adepth, .int 0, .int 0, .int 0, .int 0, .int 0, .int 0, .int 0])), (xq, .inl (cJ, 1, .inr (.inl Gq)))] H := hP
      have hD : va_D A [(xm, .inr (11, [.int 0, .ref atext, .int 0, .int 1, .ref akind, .ref aparent, .ref amode, .ref aowner, .ref agroup, .ref asize, .ref aseed, .ref aname, .ref anameSize, .ref atarget, .ref atargetSize, .ref abase, .ref abaseSize, .ref aextension, .ref aextensionSize, .ref aimage, .int 0, .ref atable, .ref asector, .ref asectors, .ref acontents, .int 0, .int 0, .int 0, .int 0, .ref aabove, .ref aisDirectory, .ref abytes, .ref aplace, .ref areadMode, .ref areadOwner, .ref areadGroup, .ref areadName, .ref areadNameSize, .ref areadTarget, .ref areadTargetSize, .ref adepth, .int 0, .int 0, .int 0, .int 0, .int 0, .int 0, .int 0])), (xq, .inl (cJ, 1, .inr (.inl Gq)))] := hD
      refine W.widen (k := 70) (n := 105311) (by decide) (by decide) ?_
      refine lv_istore hx hb d_law_538 hl (by decide) rfl (fun ls hl => ?_)
      have hl : lv_has ls 7 [(5, .int r535), (4, .int 0), (3, .ref xq), (2, .ref xm), (1, .ref xd), (0, .ref b)] := hl
      refine lv_aload_n hx hb d_law_540 rfl (lv_at hl 3 rfl) ?_
      refine lv_aload_n hx hb d_law_541 rfl (lv_at hl 5 rfl) ?_
      refine lv_iload hx hb d_law_542 (lv_at hl 1 rfl) ?_
      refine lv_iconst (v := 1) hx hb d_law_544 (by decide) ?_
      refine lv_iadd hx hb d_law_545 ?_
      refine W.eq (g2 := F0 m 546 ls [.int 1, .ref b, .ref xm]) (by rw [show ((0 + 1) : Int32) = 1 from by decide]) ?_
      refine va_sld hx hb hX hbl hbA hS (by unfold vp_in; decide) d_law_546 ?_
      refine W.eq (g2 := F0 m 547 ls [.int (xs 1), .ref xm]) rfl ?_
      have hPc := hP.sub (ws' := [(xm, .inr (11, [.int 0, .ref atext, .int 0, .int 1, .ref akind, .ref aparent, .ref amode, .ref aowner, .ref agroup, .ref asize, .ref aseed, .ref aname, .ref anameSize, .ref atarget, .ref atargetSize, .ref abase, .ref abaseSize, .ref aextension, .ref aextensionSize, .ref aimage, .int 0, .ref atable, .ref asector, .ref asectors, .ref acontents, .int 0, .int 0, .int 0, .int 0, .ref aabove, .ref aisDirectory, .ref abytes, .ref aplace, .ref areadMode, .ref areadOwner, .ref areadGroup, .ref areadName, .ref areadNameSize, .ref areadTarget, .ref areadTargetSize, .ref adepth, .int 0, .int 0, .int 0, .int 0, .int 0, .int 0, .int 0]))]) [0] rfl
      have hDc := hD.sub (ws' := [(xm, .inr (11, [.int 0, .ref atext, .int 0, .int 1, .ref akind, .ref aparent, .ref amode, .ref aowner, .ref agroup, .ref asize, .ref aseed, .ref aname, .ref anameSize, .ref atarget, .ref atargetSize, .ref abase, .ref abaseSize, .ref aextension, .ref aextensionSize, .ref aimage, .int 0, .ref atable, .ref asector, .ref asectors, .ref acontents, .int 0, .int 0, .int 0, .int 0, .ref aabove, .ref aisDirectory, .ref abytes, .ref aplace, .ref areadMode, .ref areadOwner, .ref areadGroup, .ref areadName, .ref areadNameSize, .ref areadTarget, .ref areadTargetSize, .ref adepth, .int 0, .int 0, .int 0, .int 0, .int 0, .int 0, .int 0]))]) [0] (by decide) rfl
      have hFc := va_free (wc := [(xm, .inr (11, [.int 0, .ref atext, .int 0, .int 1, .ref akind, .ref aparent, .ref amode, .ref aowner, .ref agroup, .ref asize, .ref aseed, .ref aname, .ref anameSize, .ref atarget, .ref atargetSize, .ref abase, .ref abaseSize, .ref aextension, .ref aextensionSize, .ref aimage, .int 0, .ref atable, .ref asector, .ref asectors, .ref acontents, .int 0, .int 0, .int 0, .int 0, .ref aabove, .ref aisDirectory, .ref abytes, .ref aplace, .ref areadMode, .ref areadOwner, .ref areadGroup, .ref areadName, .ref areadNameSize, .ref areadTarget, .ref areadTargetSize, .ref adepth, .int 0, .int 0, .int 0, .int 0, .int 0, .int 0, .int 0]))]) hD hS hA [0] rfl
      have hkc : 70 ≤ 600002 := by decide
      have hks : 105311 ≤ 7302232 := by decide
      refine va_calli (va_runV (C := "DiscMakerModel") (As := [.int (xs 1)]) (rest := []) ⟨hx, hb, hml, hown, hts⟩ (c_m_mount l D cB cI cJ cZ cN cF H.size xm atext akind aparent amode aowner agroup asize aseed aname anameSize atarget atargetSize abase abaseSize aextension aextensionSize aimage atable asector asectors acontents aabove aisDirectory abytes aplace areadMode areadOwner areadGroup areadName areadNameSize areadTarget areadTargetSize adepth (xs 1)) (cwV 1 hts (lg_goodV k1825 k1826 k1827 k125 kc_DiscMakerModel_mount) rfl rfl rfl (by decide +kernel) ⟨Nat.le_of_ble_eq_true rfl, Nat.le_of_ble_eq_true rfl⟩) ⟨fun a U g mk q => by obtain ⟨q0, q1, qP, qK, qN, qD⟩ := q; exact ⟨q0, q1, qP, va_K.moved (u := U) (U := U.calling g mk a) (Vm.Alike.refl U.vm) qK, qN.calling, qD⟩, va_recv hK hP (ci := 11) (q0 := 0) rfl rfl, fun U hU hW => ⟨rfl, by rw [hU], by rw [hU]; exact hPc, va_K.moved hW.alike hK, NN.warm hW hN, hDc.weaken (fun _ _ _ _ => trivial)⟩⟩ rfl rfl hl.1 rfl (lv_room (Nat.le_of_ble_eq_true rfl)) d_law_547 ⟨hkc, hks⟩) hS (fun q _ h => hFc q h) hFc (fun r547 u t H1 locs ht hvm hp_547 hB hz1 hk1 hS => ?_)
      obtain ⟨ut, uw⟩ := u
      obtain ⟨hP1, hD1⟩ := hB
      rw [ht] at hP1
      try dsimp only at hp_547
      obtain ⟨hP, hD⟩ := va_join (wr := [(xq, .inl (cJ, 1, .inr (.inl Gq)))]) (w1 := [(xm, .inr (11, [.int ut, .ref atext, .int 0, .int 1, .ref akind, .ref aparent, .ref amode, .ref aowner, .ref agroup, .ref asize, .ref aseed, .ref aname, .ref anameSize, .ref atarget, .ref atargetSize, .ref abase, .ref abaseSize, .ref aextension, .ref aextensionSize, .ref aimage, .int 0, .ref atable, .ref asector, .ref asectors, .ref acontents, .int 0, .int 0, .int 0, .int 0, .ref aabove, .ref aisDirectory, .ref abytes, .ref aplace, .ref areadMode, .ref areadOwner, .ref areadGroup, .ref areadName, .ref areadNameSize, .ref areadTarget, .ref areadTargetSize, .ref adepth, .int uw, .int 0, .int 0, .int 0, .int 0, .int 0, .int 0]))]) hP hD [0] [1] rfl rfl (by decide) (by decide) hk1 hFc hP1 hD1
      clear hPc hDc hFc hP1 hD1 hk1 hz1
      generalize H1 = H at hP hS ⊢
      have hP : va_P D CL [(xq, .inl (cJ, 1, .inr (.inl Gq))), (xm, .inr (11, [.int ut, .ref atext, .int 0, .int 1, .ref akind, .ref aparent, .ref amode, .ref aowner, .ref agroup, .ref asize, .ref aseed, .ref aname, .ref anameSize, .ref atarget, .ref atargetSize, .ref abase, .ref abaseSize, .ref aextension, .ref aextensionSize, .ref aimage, .int 0, .ref atable, .ref asector, .ref asectors, .ref acontents, .int 0, .int 0, .int 0, .int 0, .ref aabove, .ref aisDirectory, .ref abytes, .ref aplace, .ref areadMode, .ref areadOwner, .ref areadGroup, .ref areadName, .ref areadNameSize, .ref areadTarget, .ref areadTargetSize, .ref adepth, .int uw, .int 0, .int 0, .int 0, .int 0, .int 0, .int 0]))] H := hP
      have hD : va_D A [(xq, .inl (cJ, 1, .inr (.inl Gq))), (xm, .inr (11, [.int ut, .ref atext, .int 0, .int 1, .ref akind, .ref aparent, .ref amode, .ref aowner, .ref agroup, .ref asize, .ref aseed, .ref aname, .ref anameSize, .ref atarget, .ref atargetSize, .ref abase, .ref abaseSize, .ref aextension, .ref aextensionSize, .ref aimage, .int 0, .ref atable, .ref asector, .ref asectors, .ref acontents, .int 0, .int 0, .int 0, .int 0, .ref aabove, .ref aisDirectory, .ref abytes, .ref aplace, .ref areadMode, .ref areadOwner, .ref areadGroup, .ref areadName, .ref areadNameSize, .ref areadTarget, .ref areadTargetSize, .ref adepth, .int uw, .int 0, .int 0, .int 0, .int 0, .int 0, .int 0]))] := hD
      rcases hp_535 with ⟨rfl, hG0, hv⟩ | ⟨rfl, hv⟩
      · skip
        rcases hp_547 with ⟨rfl, h0, -⟩ | ⟨-, hv2⟩
        · skip
          have h0 : ut = 0 := h0
          subst h0
          refine lv_istore hx hb d_law_550 hl (by decide) rfl (fun ls hl => ?_)
          have hl : lv_has ls 7 [(6, .int (-32769)), (5, .int 0), (4, .int 0), (3, .ref xq), (2, .ref xm), (1, .ref xd), (0, .ref b)] := hl
          refine lv_aload_n hx hb d_law_552 rfl (lv_at hl 4 rfl) ?_
          have hPc := hP.sub (ws' := [(xm, .inr (11, [.int 0, .ref atext, .int 0, .int 1, .ref akind, .ref aparent, .ref amode, .ref aowner, .ref agroup, .ref asize, .ref aseed, .ref aname, .ref anameSize, .ref atarget, .ref atargetSize, .ref abase, .ref abaseSize, .ref aextension, .ref aextensionSize, .ref aimage, .int 0, .ref atable, .ref asector, .ref asectors, .ref acontents, .int 0, .int 0, .int 0, .int 0, .ref aabove, .ref aisDirectory, .ref abytes, .ref aplace, .ref areadMode, .ref areadOwner, .ref areadGroup, .ref areadName, .ref areadNameSize, .ref areadTarget, .ref areadTargetSize, .ref adepth, .int uw, .int 0, .int 0, .int 0, .int 0, .int 0, .int 0]))]) [1] rfl
          have hDc := hD.sub (ws' := [(xm, .inr (11, [.int 0, .ref atext, .int 0, .int 1, .ref akind, .ref aparent, .ref amode, .ref aowner, .ref agroup, .ref asize, .ref aseed, .ref aname, .ref anameSize, .ref atarget, .ref atargetSize, .ref abase, .ref abaseSize, .ref aextension, .ref aextensionSize, .ref aimage, .int 0, .ref atable, .ref asector, .ref asectors, .ref acontents, .int 0, .int 0, .int 0, .int 0, .ref aabove, .ref aisDirectory, .ref abytes, .ref aplace, .ref areadMode, .ref areadOwner, .ref areadGroup, .ref areadName, .ref areadNameSize, .ref areadTarget, .ref areadTargetSize, .ref adepth, .int uw, .int 0, .int 0, .int 0, .int 0, .int 0, .int 0]))]) [1] (by decide) rfl
          have hFc := va_free (wc := [(xm, .inr (11, [.int 0, .ref atext, .int 0, .int 1, .ref akind, .ref aparent, .ref amode, .ref aowner, .ref agroup, .ref asize, .ref aseed, .ref aname, .ref anameSize, .ref atarget, .ref atargetSize, .ref abase, .ref abaseSize, .ref aextension, .ref aextensionSize, .ref aimage, .int 0, .ref atable, .ref asector, .ref asectors, .ref acontents, .int 0, .int 0, .int 0, .int 0, .ref aabove, .ref aisDirectory, .ref abytes, .ref aplace, .ref areadMode, .ref areadOwner, .ref areadGroup, .ref areadName, .ref areadNameSize, .ref areadTarget, .ref areadTargetSize, .ref adepth, .int uw, .int 0, .int 0, .int 0, .int 0, .int 0, .int 0]))]) hD hS hA [1] rfl
          have hkc : 70 ≤ 600002 := by decide
          have hks : 105311 ≤ 7302232 := by decide
          refine va_calli (va_runV (C := "DiscMakerModel") (As := []) (rest := []) ⟨hx, hb, hml, hown, hts⟩ (c_m_thrown l D cB cI cJ cZ cN cF H.size xm atext akind aparent amode aowner agroup asize aseed aname anameSize atarget atargetSize abase abaseSize aextension aextensionSize aimage atable asector asectors acontents aabove aisDirectory abytes aplace areadMode areadOwner areadGroup areadName areadNameSize areadTarget areadTargetSize adepth 0 uw) (cwV 0 hts (lg_goodV k1578 k1579 k1580 k125 kc_DiscMakerModel_thrown) rfl rfl rfl (by decide +kernel) ⟨Nat.le_of_ble_eq_true rfl, Nat.le_of_ble_eq_true rfl⟩) ⟨fun a U g mk q => by obtain ⟨q0, q1, qP, qK, qN, qD⟩ := q; exact ⟨q0, q1, qP, va_K.moved (u := U) (U := U.calling g mk a) (Vm.Alike.refl U.vm) qK, qN.calling, qD⟩, va_recv hK hP (ci := 11) (q0 := 1) rfl rfl, fun U hU hW => ⟨rfl, by rw [hU], by rw [hU]; exact hPc, va_K.moved hW.alike hK, NN.warm hW hN, hDc.weaken (fun _ _ _ _ => trivial)⟩⟩ rfl rfl hl.1 rfl (lv_room (Nat.le_of_ble_eq_true rfl)) d_law_553 ⟨hkc, hks⟩) hS (fun q _ h => hFc q h) hFc (fun r553 u t H1 locs ht hvm hp_553 hB hz1 hk1 hS => ?_)
          obtain ⟨hP1, hD1⟩ := hB
          rw [ht] at hP1
          try dsimp only at hp_553
          obtain ⟨hP, hD⟩ := va_join (wr := [(xq, .inl (cJ, 1, .inr (.inl Gq)))]) (w1 := []) hP hD [1] [0] rfl rfl (by decide) (by decide) hk1 hFc hP1 hD1
          clear hPc hDc hFc hP1 hD1 hk1 hz1
          generalize H1 = H at hP hS ⊢
          have hP : va_P D CL [(xq, .inl (cJ, 1, .inr (.inl Gq)))] H := hP
          have hD : va_D A [(xq, .inl (cJ, 1, .inr (.inl Gq)))] := hD
          refine W.eq (g2 := F0 m 556 ls [.int 0]) (by rw [show r553 = 0 from hp_553]) ?_
          refine lv_iload hx hb d_law_556 (lv_at hl 1 rfl) ?_
          refine lv_icmp_eq (tgt := 563) hx hb d_law_558 (by decide) (fun h_558 => ?_) (fun h_558 => absurd (by decide) h_558)
          refine lv_iload hx hb d_law_563 (lv_at hl 1 rfl) ?_
          refine lv_if_ne (tgt := 580) hx hb d_law_565 (by decide) (fun h_565 => absurd (by decide) h_565) (fun h_565 => ?_)
          refine lv_aload_n hx hb d_law_568 rfl (lv_at hl 3 rfl) ?_
          refine lv_iconst (v := 0) hx hb d_law_569 (by decide) ?_
          refine va_lald hx hb hK hP 0 2 rfl rfl (by unfold vp_in; decide) d_law_570 ?_
          refine lv_iload hx hb d_law_571 (lv_at hl 0 rfl) ?_
          refine lv_i2l hx hb d_law_573 rfl ?_
          refine W.lcmp hx hb d_law_574 ?_
          refine W.eq (g2 := F0 m 575 ls [.int 0]) (by rw [show Gq (0 : Int32).toNatClampNeg = (-32769 : Int32).toInt64 from hG0]; rfl) ?_
          refine lv_if_eq (tgt := 580) hx hb d_law_575 (by decide) (fun h_575 => ?_) (fun h_575 => absurd (by decide) h_575)
          refine lv_goto (tgt := 855) hx hb d_law_580 (by decide) ?_
          refine lv_iinc (v := 6) hx hb d_law_855 hl (k := 2) rfl (by decide) (by decide) rfl (fun ls hl => ?_)
          have hl : lv_has ls 7 [(4, .int 6), (6, .int (-32769)), (5, .int 0), (3, .ref xq), (2, .ref xm), (1, .ref xd), (0, .ref b)] := hl
          refine lv_goto (tgt := 23) hx hb d_law_858 (by decide) ?_
          refine lv_iload hx hb d_law_23 (lv_at hl 0 rfl) ?_
          refine lv_aload_n hx hb d_law_25 rfl (lv_at hl 6 rfl) ?_
          refine va_slen hx hb hX hbl hbA hS d_law_26 ?_
          refine W.eq (g2 := F0 m 27 ls [.int 6, .int 6]) rfl ?_
          refine lv_bipush (v := 6) hx hb d_law_27 (by decide) ?_
          refine lv_isub hx hb d_law_29 ?_
          refine W.eq (g2 := F0 m 30 ls [.int 0, .int 6]) (by rw [show ((6 - 6) : Int32) = 0 from by decide]) ?_
          refine lv_icmp_gt (tgt := 861) hx hb d_law_30 (by decide) (fun h_30 => ?_) (fun h_30 => absurd (by decide) h_30)
          refine lv_iconst (v := 1) hx hb d_law_861 (by decide) ?_
          refine va_forget (fun q hq => by have h9 := hS.2.2 q hq; rw [hAe] at h9; exact h9) ?_
          refine W.widen (k := 600002) (n := 7302232) (by decide) (by decide) ?_
          exact lw_ret hx hb hr hlocks d_law_862
        · skip
          exact absurd hv hv2
      · skip
        rcases hp_547 with ⟨-, -, hv2⟩ | ⟨h0, -⟩
        · skip
          exact absurd hv2 hv
        · skip
          have h0 : ut = 1 := h0
          subst h0
          refine lv_istore hx hb d_law_550 hl (by decide) rfl (fun ls hl => ?_)
          have hl : lv_has ls 7 [(6, .int r547), (5, .int 1), (4, .int 0), (3, .ref xq), (2, .ref xm), (1, .ref xd), (0, .ref b)] := hl
          refine lv_aload_n hx hb d_law_552 rfl (lv_at hl 4 rfl) ?_
          have hPc := hP.sub (ws' := [(xm, .inr (11, [.int 1, .ref atext, .int 0, .int 1, .ref akind, .ref aparent, .ref amode, .ref aowner, .ref agroup, .ref asize, .ref aseed, .ref aname, .ref anameSize, .ref atarget, .ref atargetSize, .ref abase, .ref abaseSize, .ref aextension, .ref aextensionSize, .ref aimage, .int 0, .ref atable, .ref asector, .ref asectors, .ref acontents, .int 0, .int 0, .int 0, .int 0, .ref aabove, .ref aisDirectory, .ref abytes, .ref aplace, .ref areadMode, .ref areadOwner, .ref areadGroup, .ref areadName, .ref areadNameSize, .ref areadTarget, .ref areadTargetSize, .ref adepth, .int uw, .int 0, .int 0, .int 0, .int 0, .int 0, .int 0]))]) [1] rfl
          have hDc := hD.sub (ws' := [(xm, .inr (11, [.int 1, .ref atext, .int 0, .int 1, .ref akind, .ref aparent, .ref amode, .ref aowner, .ref agroup, .ref asize, .ref aseed, .ref aname, .ref anameSize, .ref atarget, .ref atargetSize, .ref abase, .ref abaseSize, .ref aextension, .ref aextensionSize, .ref aimage, .int 0, .ref atable, .ref asector, .ref asectors, .ref acontents, .int 0, .int 0, .int 0, .int 0, .ref aabove, .ref aisDirectory, .ref abytes, .ref aplace, .ref areadMode, .ref areadOwner, .ref areadGroup, .ref areadName, .ref areadNameSize, .ref areadTarget, .ref areadTargetSize, .ref adepth, .int uw, .int 0, .int 0, .int 0, .int 0, .int 0, .int 0]))]) [1] (by decide) rfl
          have hFc := va_free (wc := [(xm, .inr (11, [.int 1, .ref atext, .int 0, .int 1, .ref akind, .ref aparent, .ref amode, .ref aowner, .ref agroup, .ref asize, .ref aseed, .ref aname, .ref anameSize, .ref atarget, .ref atargetSize, .ref abase, .ref abaseSize, .ref aextension, .ref aextensionSize, .ref aimage, .int 0, .ref atable, .ref asector, .ref asectors, .ref acontents, .int 0, .int 0, .int 0, .int 0, .ref aabove, .ref aisDirectory, .ref abytes, .ref aplace, .ref areadMode, .ref areadOwner, .ref areadGroup, .ref areadName, .ref areadNameSize, .ref areadTarget, .ref areadTargetSize, .ref adepth, .int uw, .int 0, .int 0, .int 0, .int 0, .int 0, .int 0]))]) hD hS hA [1] rfl
          have hkc : 70 ≤ 600002 := by decide
          have hks : 105311 ≤ 7302232 := by decide
          refine va_calli (va_runV (C := "DiscMakerModel") (As := []) (rest := []) ⟨hx, hb, hml, hown, hts⟩ (c_m_thrown l D cB cI cJ cZ cN cF H.size xm atext akind aparent amode aowner agroup asize aseed aname anameSize atarget atargetSize abase abaseSize aextension aextensionSize aimage atable asector asectors acontents aabove aisDirectory abytes aplace areadMode areadOwner areadGroup areadName areadNameSize areadTarget areadTargetSize adepth 1 uw) (cwV 0 hts (lg_goodV k1578 k1579 k1580 k125 kc_DiscMakerModel_thrown) rfl rfl rfl (by decide +kernel) ⟨Nat.le_of_ble_eq_true rfl, Nat.le_of_ble_eq_true rfl⟩) ⟨fun a U g mk q => by obtain ⟨q0, q1, qP, qK, qN, qD⟩ := q; exact ⟨q0, q1, qP, va_K.moved (u := U) (U := U.calling g mk a) (Vm.Alike.refl U.vm) qK, qN.calling, qD⟩, va_recv hK hP (ci := 11) (q0 := 1) rfl rfl, fun U hU hW => ⟨rfl, by rw [hU], by rw [hU]; exact hPc, va_K.moved hW.alike hK, NN.warm hW hN, hDc.weaken (fun _ _ _ _ => trivial)⟩⟩ rfl rfl hl.1 rfl (lv_room (Nat.le_of_ble_eq_true rfl)) d_law_553 ⟨hkc, hks⟩) hS (fun q _ h => hFc q h) hFc (fun r553 u t H1 locs ht hvm hp_553 hB hz1 hk1 hS => ?_)
          obtain ⟨hP1, hD1⟩ := hB
          rw [ht] at hP1
          try dsimp only at hp_553
          obtain ⟨hP, hD⟩ := va_join (wr := [(xq, .inl (cJ, 1, .inr (.inl Gq)))]) (w1 := []) hP hD [1] [0] rfl rfl (by decide) (by decide) hk1 hFc hP1 hD1
          clear hPc hDc hFc hP1 hD1 hk1 hz1
          generalize H1 = H at hP hS ⊢
          have hP : va_P D CL [(xq, .inl (cJ, 1, .inr (.inl Gq)))] H := hP
          have hD : va_D A [(xq, .inl (cJ, 1, .inr (.inl Gq)))] := hD
          refine W.eq (g2 := F0 m 556 ls [.int 1]) (by rw [show r553 = 1 from hp_553]) ?_
          refine lv_iload hx hb d_law_556 (lv_at hl 1 rfl) ?_
          refine lv_icmp_eq (tgt := 563) hx hb d_law_558 (by decide) (fun h_558 => ?_) (fun h_558 => absurd (by decide) h_558)
          refine lv_iload hx hb d_law_563 (lv_at hl 1 rfl) ?_
          refine lv_if_ne (tgt := 580) hx hb d_law_565 (by decide) (fun h_565 => ?_) (fun h_565 => absurd h_565 (by decide))
          refine lv_goto (tgt := 855) hx hb d_law_580 (by decide) ?_
          refine lv_iinc (v := 6) hx hb d_law_855 hl (k := 2) rfl (by decide) (by decide) rfl (fun ls hl => ?_)
          have hl : lv_has ls 7 [(4, .int 6), (6, .int r547), (5, .int 1), (3, .ref xq), (2, .ref xm), (1, .ref xd), (0, .ref b)] := hl
          refine lv_goto (tgt := 23) hx hb d_law_858 (by decide) ?_
          refine lv_iload hx hb d_law_23 (lv_at hl 0 rfl) ?_
          refine lv_aload_n hx hb d_law_25 rfl (lv_at hl 6 rfl) ?_
          refine va_slen hx hb hX hbl hbA hS d_law_26 ?_
          refine W.eq (g2 := F0 m 27 ls [.int 6, .int 6]) rfl ?_
          refine lv_bipush (v := 6) hx hb d_law_27 (by decide) ?_
          refine lv_isub hx hb d_law_29 ?_
          refine W.eq (g2 := F0 m 30 ls [.int 0, .int 6]) (by rw [show ((6 - 6) : Int32) = 0 from by decide]) ?_
          refine lv_icmp_gt (tgt := 861) hx hb d_law_30 (by decide) (fun h_30 => ?_) (fun h_30 => absurd (by decide) h_30)
          refine lv_iconst (v := 1) hx hb d_law_861 (by decide) ?_
          refine va_forget (fun q hq => by have h9 := hS.2.2 q hq; rw [hAe] at h9; exact h9) ?_
          refine W.widen (k := 600002) (n := 7302232) (by decide) (by decide) ?_
          exact lw_ret hx hb hr hlocks d_law_862
    · skip
      refine lv_tableIn (off := 543) (tgt := 583) hx hb d_law_40 (by decide) (by decide) (by decide) (by decide) ?_
      have hP := hP.sub (ws' := [(xd, .inr (0, [.ref tx, .ref tr, .ref im, .ref mkr, .ref rd])), (rd, .inr (7, [.ref im, .ref rp, .ref rr, .int 0, .int 0, .int 0])), (xm, .inr (11, [.int 0, .ref atext, .int 0, .int 1, .ref akind, .ref aparent, .ref amode, .ref aowner, .ref agroup, .ref asize, .ref aseed, .ref aname, .ref anameSize, .ref atarget, .ref atargetSize, .ref abase, .ref abaseSize, .ref aextension, .ref aextensionSize, .ref aimage, .int 0, .ref atable, .ref asector, .ref asectors, .ref acontents, .int 0, .int 0, .int 0, .int 0, .ref aabove, .ref aisDirectory, .ref abytes, .ref aplace, .ref areadMode, .ref areadOwner, .ref areadGroup, .ref areadName, .ref areadNameSize, .ref areadTarget, .ref areadTargetSize, .ref adepth, .int 0, .int 0, .int 0, .int 0, .int 0, .int 0, .int 0])), (xq, .inl (cJ, 1, .inr (.inl (fun _ => 0))))]) [0, 31, 34, 68] rfl
      have hD := hD.sub (ws' := [(xd, .inr (0, [.ref tx, .ref tr, .ref im, .ref mkr, .ref rd])), (rd, .inr (7, [.ref im, .ref rp, .ref rr, .int 0, .int 0, .int 0])), (xm, .inr (11, [.int 0, .ref atext, .int 0, .int 1, .ref akind, .ref aparent, .ref amode, .ref aowner, .ref agroup, .ref asize, .ref aseed, .ref aname, .ref anameSize, .ref atarget, .ref atargetSize, .ref abase, .ref abaseSize, .ref aextension, .ref aextensionSize, .ref aimage, .int 0, .ref atable, .ref asector, .ref asectors, .ref acontents, .int 0, .int 0, .int 0, .int 0, .ref aabove, .ref aisDirectory, .ref abytes, .ref aplace, .ref areadMode, .ref areadOwner, .ref areadGroup, .ref areadName, .ref areadNameSize, .ref areadTarget, .ref areadTargetSize, .ref adepth, .int 0, .int 0, .int 0, .int 0, .int 0, .int 0, .int 0])), (xq, .inl (cJ, 1, .inr (.inl (fun _ => 0))))]) [0, 31, 34, 68] (by decide) rfl
      refine lv_aload_n hx hb d_law_583 rfl (lv_at hl 3 rfl) ?_
      refine lv_aload_n hx hb d_law_584 rfl (lv_at hl 4 rfl) ?_
      refine lv_iload hx hb d_law_585 (lv_at hl 0 rfl) ?_
      refine lv_iconst (v := 1) hx hb d_law_587 (by decide) ?_
      refine lv_iadd hx hb d_law_588 ?_
      refine W.eq (g2 := F0 m 589 ls [.int 1, .ref b, .ref xd]) (by rw [show ((0 + 1) : Int32) = 1 from by decide]) ?_
      refine va_sld hx hb hX hbl hbA hS (by unfold vp_in; decide) d_law_589 ?_
      refine W.eq (g2 := F0 m 590 ls [.int (xs 1), .ref xd]) rfl ?_
      refine lv_aload_n hx hb d_law_590 rfl (lv_at hl 4 rfl) ?_
      refine lv_iload hx hb d_law_591 (lv_at hl 0 rfl) ?_
      refine lv_iconst (v := 2) hx hb d_law_593 (by decide) ?_
      refine lv_iadd hx hb d_law_594 ?_
      refine W.eq (g2 := F0 m 595 ls [.int 2, .ref b, .int (xs 1), .ref xd]) (by rw [show ((0 + 2) : Int32) = 2 from by decide]) ?_
      refine va_sld hx hb hX hbl hbA hS (by unfold vp_in; decide) d_law_595 ?_
      refine W.eq (g2 := F0 m 596 ls [.int (xs 2), .int (xs 1), .ref xd]) rfl ?_
      refine lv_aload_n hx hb d_law_596 rfl (lv_at hl 1 rfl) ?_
      have hPc := hP.sub (ws' := [(xd, .inr (0, [.ref tx, .ref tr, .ref im, .ref mkr, .ref rd])), (rd, .inr (7, [.ref im, .ref rp, .ref rr, .int 0, .int 0, .int 0])), (xq, .inl (cJ, 1, .inr (.inl (fun _ => 0))))]) [0, 1, 3] rfl
      have hDc := hD.sub (ws' := [(xd, .inr (0, [.ref tx, .ref tr, .ref im, .ref mkr, .ref rd])), (rd, .inr (7, [.ref im, .ref rp, .ref rr, .int 0, .int 0, .int 0])), (xq, .inl (cJ, 1, .inr (.inl (fun _ => 0))))]) [0, 1, 3] (by decide) rfl
      have hFc := va_free (wc := [(xd, .inr (0, [.ref tx, .ref tr, .ref im, .ref mkr, .ref rd])), (rd, .inr (7, [.ref im, .ref rp, .ref rr, .int 0, .int 0, .int 0])), (xq, .inl (cJ, 1, .inr (.inl (fun _ => 0))))]) hD hS hA [0, 1, 3] rfl
      have hkc : 70 ≤ 600002 := by decide
      have hks : 105311 ≤ 7302232 := by decide
      refine va_calli (zz_runSW (n := 4) (As := [.ref xd, .int (xs 1), .int (xs 2), .ref xq]) (rest := []) ⟨hx, hb, hml, hown, hts⟩ (c_l_node l htl D cB cI cJ cZ cN cF H.size xd tx tr im mkr rd rp rr xq (fun _ => 0) (xs 1) (xs 2)) (lg_good kc_DiscMakerLaw_node) rfl rfl rfl (ht9 _ k1371) (ht9 _ k1372) (ht9 _ k114) (by decide +kernel) ⟨Nat.le_of_ble_eq_true rfl, Nat.le_of_ble_eq_true rfl⟩ ⟨fun a U g mk q => by obtain ⟨q0, q1, qP, qK, qN, qD, qZ⟩ := q; exact ⟨q0, q1, qP, va_K.moved (u := U) (U := U.calling g mk a) (Vm.Alike.refl U.vm) qK, qN.calling, qD, TX_blind qZ⟩, fun U hU hW => ⟨rfl, by rw [hU], by rw [hU]; exact hPc, va_K.moved hW.alike hK, NN.warm hW hN, hDc.weaken (fun _ _ _ _ => trivial), TX_pass (hTX) hS hFc hW.alike hU⟩⟩ rfl rfl hl.1 rfl (lv_room (Nat.le_of_ble_eq_true rfl)) d_law_597 ⟨hkc, hks⟩) hS (fun q _ h => hFc q h) hFc (fun r597 u t H1 locs ht hvm hp_597 hB hz1 hk1 hS => ?_)
      obtain ⟨hP1, hD1⟩ := hB
      rw [ht] at hP1
      try dsimp only at hp_597
      obtain ⟨hP, hD⟩ := va_join (wr := [(xm, .inr (11, [.int 0, .ref atext, .int 0, .int 1, .ref akind, .ref aparent, .ref amode, .ref aowner, .ref agroup, .ref asize, .ref aseed, .ref aname, .ref anameSize, .ref atarget, .ref atargetSize, .ref abase, .ref abaseSize, .ref aextension, .ref aextensionSize, .ref aimage, .int 0, .ref atable, .ref asector, .ref asectors, .ref acontents, .int 0, .int 0, .int 0, .int 0, .ref aabove, .ref aisDirectory, .ref abytes, .ref aplace, .ref areadMode, .ref areadOwner, .ref areadGroup, .ref areadName, .ref areadNameSize, .ref areadTarget, .ref areadTargetSize, .ref adepth, .int 0, .int 0, .int 0, .int 0, .int 0, .int 0, .int 0]))]) (w1 := [(xq, .inl (cJ, 1, .inr (.inl (fun _ => 0))))]) hP hD [0, 1, 3] [2] rfl rfl (by decide) (by decide) hk1 hFc hP1 hD1
      clear hPc hDc hFc hP1 hD1 hk1 hz1
      generalize H1 = H at hP hS ⊢
      have hP : va_P D CL [(xm, .inr (11, [.int 0, .ref atext, .int 0, .int 1, .ref akind, .ref aparent, .ref amode, .ref aowner, .ref agroup, .ref asize, .ref aseed, .ref aname, .ref anameSize, .ref atarget, .ref atargetSize, .ref abase, .ref abaseSize, .ref aextension, .ref aextensionSize, .ref aimage, .int 0, .ref atable, .ref asector, .ref asectors, .ref acontents, .int 0, .int 0, .int 0, .int 0, .ref aabove, .ref aisDirectory, .ref abytes, .ref aplace, .ref areadMode, .ref areadOwner, .ref areadGroup, .ref areadName, .ref areadNameSize, .ref areadTarget, .ref areadTargetSize, .ref adepth, .int 0, .int 0, .int 0, .int 0, .int 0, .int 0, .int 0])), (xq, .inl (cJ, 1, .inr (.inl (fun _ => 0))))] H := hP
      have hD : va_D A [(xm, .inr (11, [.int 0, .ref atext, .int 0, .int 1, .ref akind, .ref aparent, .ref amode, .ref aowner, .ref agroup, .ref asize, .ref aseed, .ref aname, .ref anameSize, .ref atarget, .ref atargetSize, .ref abase, .ref abaseSize, .ref aextension, .ref aextensionSize, .ref aimage, .int 0, .ref atable, .ref asector, .ref asectors, .ref acontents, .int 0, .int 0, .int 0, .int 0, .ref aabove, .ref aisDirectory, .ref abytes, .ref aplace, .ref areadMode, .ref areadOwner, .ref areadGroup, .ref areadName, .ref areadNameSize, .ref areadTarget, .ref areadTargetSize, .ref adepth, .int 0, .int 0, .int 0, .int 0, .int 0, .int 0, .int 0])), (xq, .inl (cJ, 1, .inr (.inl (fun _ => 0))))] := hD
      refine W.widen (k := 70) (n := 105311) (by decide) (by decide) ?_
      refine W.eq (g2 := F0 m 600 ls [.int 1]) (by rw [show r597 = 1 from hp_597]) ?_
      refine lv_istore hx hb d_law_600 hl (by decide) rfl (fun ls hl => ?_)
      have hl : lv_has ls 7 [(5, .int 1), (4, .int 0), (3, .ref xq), (2, .ref xm), (1, .ref xd), (0, .ref b)] := hl
      refine lv_aload_n hx hb d_law_602 rfl (lv_at hl 3 rfl) ?_
      refine lv_aload_n hx hb d_law_603 rfl (lv_at hl 5 rfl) ?_
      refine lv_iload hx hb d_law_604 (lv_at hl 1 rfl) ?_
      refine lv_iconst (v := 1) hx hb d_law_606 (by decide) ?_
      refine lv_iadd hx hb d_law_607 ?_
      refine W.eq (g2 := F0 m 608 ls [.int 1, .ref b, .ref xm]) (by rw [show ((0 + 1) : Int32) = 1 from by decide]) ?_
      refine va_sld hx hb hX hbl hbA hS (by unfold vp_in; decide) d_law_608 ?_
      refine W.eq (g2 := F0 m 609 ls [.int (xs 1), .ref xm]) rfl ?_
      refine lv_aload_n hx hb d_law_609 rfl (lv_at hl 5 rfl) ?_
      refine lv_iload hx hb d_law_610 (lv_at hl 1 rfl) ?_
      refine lv_iconst (v := 2) hx hb d_law_612 (by decide) ?_
      refine lv_iadd hx hb d_law_613 ?_
      refine W.eq (g2 := F0 m 614 ls [.int 2, .ref b, .int (xs 1), .ref xm]) (by rw [show ((0 + 2) : Int32) = 2 from by decide]) ?_
      refine va_sld hx hb hX hbl hbA hS (by unfold vp_in; decide) d_law_614 ?_
      refine W.eq (g2 := F0 m 615 ls [.int (xs 2), .int (xs 1), .ref xm]) rfl ?_
      have hPc := hP.sub (ws' := [(xm, .inr (11, [.int 0, .ref atext, .int 0, .int 1, .ref akind, .ref aparent, .ref amode, .ref aowner, .ref agroup, .ref asize, .ref aseed, .ref aname, .ref anameSize, .ref atarget, .ref atargetSize, .ref abase, .ref abaseSize, .ref aextension, .ref aextensionSize, .ref aimage, .int 0, .ref atable, .ref asector, .ref asectors, .ref acontents, .int 0, .int 0, .int 0, .int 0, .ref aabove, .ref aisDirectory, .ref abytes, .ref aplace, .ref areadMode, .ref areadOwner, .ref areadGroup, .ref areadName, .ref areadNameSize, .ref areadTarget, .ref areadTargetSize, .ref adepth, .int 0, .int 0, .int 0, .int 0, .int 0, .int 0, .int 0]))]) [0] rfl
      have hDc := hD.sub (ws' := [(xm, .inr (11, [.int 0, .ref atext, .int 0, .int 1, .ref akind, .ref aparent, .ref amode, .ref aowner, .ref agroup, .ref asize, .ref aseed, .ref aname, .ref anameSize, .ref atarget, .ref atargetSize, .ref abase, .ref abaseSize, .ref aextension, .ref aextensionSize, .ref aimage, .int 0, .ref atable, .ref asector, .ref asectors, .ref acontents, .int 0, .int 0, .int 0, .int 0, .ref aabove, .ref aisDirectory, .ref abytes, .ref aplace, .ref areadMode, .ref areadOwner, .ref areadGroup, .ref areadName, .ref areadNameSize, .ref areadTarget, .ref areadTargetSize, .ref adepth, .int 0, .int 0, .int 0, .int 0, .int 0, .int 0, .int 0]))]) [0] (by decide) rfl
      have hFc := va_free (wc := [(xm, .inr (11, [.int 0, .ref atext, .int 0, .int 1, .ref akind, .ref aparent, .ref amode, .ref aowner, .ref agroup, .ref asize, .ref aseed, .ref aname, .ref anameSize, .ref atarget, .ref atargetSize, .ref abase, .ref abaseSize, .ref aextension, .ref aextensionSize, .ref aimage, .int 0, .ref atable, .ref asector, .ref asectors, .ref acontents, .int 0, .int 0, .int 0, .int 0, .ref aabove, .ref aisDirectory, .ref abytes, .ref aplace, .ref areadMode, .ref areadOwner, .ref areadGroup, .ref areadName, .ref areadNameSize, .ref areadTarget, .ref areadTargetSize, .ref adepth, .int 0, .int 0, .int 0, .int 0, .int 0, .int 0, .int 0]))]) hD hS hA [0] rfl
      have hkc : 70 ≤ 600002 := by decide
      have hks : 105311 ≤ 7302232 := by decide
      refine va_calli (va_runV (C := "DiscMakerModel") (As := [.int (xs 1), .int (xs 2)]) (rest := []) ⟨hx, hb, hml, hown, hts⟩ (c_m_node l D cB cI cJ cZ cN cF H.size xm atext akind aparent amode aowner agroup asize aseed aname anameSize atarget atargetSize abase abaseSize aextension aextensionSize aimage atable asector asectors acontents aabove aisDirectory abytes aplace areadMode areadOwner areadGroup areadName areadNameSize areadTarget areadTargetSize adepth (xs 1) (xs 2)) (cwV 2 hts (lg_goodV k1898 k1899 k1900 k125 kc_DiscMakerModel_node) rfl rfl rfl (by decide +kernel) ⟨Nat.le_of_ble_eq_true rfl, Nat.le_of_ble_eq_true rfl⟩) ⟨fun a U g mk q => by obtain ⟨q0, q1, qP, qK, qN, qD⟩ := q; exact ⟨q0, q1, qP, va_K.moved (u := U) (U := U.calling g mk a) (Vm.Alike.refl U.vm) qK, qN.calling, qD⟩, va_recv hK hP (ci := 11) (q0 := 0) rfl rfl, fun U hU hW => ⟨rfl, by rw [hU], by rw [hU]; exact hPc, va_K.moved hW.alike hK, NN.warm hW hN, hDc.weaken (fun _ _ _ _ => trivial)⟩⟩ rfl rfl hl.1 rfl (lv_room (Nat.le_of_ble_eq_true rfl)) d_law_615 ⟨hkc, hks⟩) hS (fun q _ h => hFc q h) hFc (fun r615 u t H1 locs ht hvm hp_615 hB hz1 hk1 hS => ?_)
      obtain ⟨hP1, hD1⟩ := hB
      rw [ht] at hP1
      obtain ⟨hP, hD⟩ := va_join (wr := [(xq, .inl (cJ, 1, .inr (.inl (fun _ => 0))))]) (w1 := [(xm, .inr (11, [.int 1, .ref atext, .int 0, .int 1, .ref akind, .ref aparent, .ref amode, .ref aowner, .ref agroup, .ref asize, .ref aseed, .ref aname, .ref anameSize, .ref atarget, .ref atargetSize, .ref abase, .ref abaseSize, .ref aextension, .ref aextensionSize, .ref aimage, .int 0, .ref atable, .ref asector, .ref asectors, .ref acontents, .int 0, .int 0, .int 0, .int 0, .ref aabove, .ref aisDirectory, .ref abytes, .ref aplace, .ref areadMode, .ref areadOwner, .ref areadGroup, .ref areadName, .ref areadNameSize, .ref areadTarget, .ref areadTargetSize, .ref adepth, .int 0, .int 0, .int 0, .int 0, .int 0, .int 0, .int 0]))]) hP hD [0] [1] rfl rfl (by decide) (by decide) hk1 hFc hP1 hD1
      clear hPc hDc hFc hP1 hD1 hk1 hz1
      generalize H1 = H at hP hS ⊢
      have hP : va_P D CL [(xq, .inl (cJ, 1, .inr (.inl (fun _ => 0)))), (xm, .inr (11, [.int 1, .ref atext, .int 0, .int 1, .ref akind, .ref aparent, .ref amode, .ref aowner, .ref agroup, .ref asize, .ref aseed, .ref aname, .ref anameSize, .ref atarget, .ref atargetSize, .ref abase, .ref abaseSize, .ref aextension, .ref aextensionSize, .ref aimage, .int 0, .ref atable, .ref asector, .ref asectors, .ref acontents, .int 0, .int 0, .int 0, .int 0, .ref aabove, .ref aisDirectory, .ref abytes, .ref aplace, .ref areadMode, .ref areadOwner, .ref areadGroup, .ref areadName, .ref areadNameSize, .ref areadTarget, .ref areadTargetSize, .ref adepth, .int 0, .int 0, .int 0, .int 0, .int 0, .int 0, .int 0]))] H := hP
      have hD : va_D A [(xq, .inl (cJ, 1, .inr (.inl (fun _ => 0)))), (xm, .inr (11, [.int 1, .ref atext, .int 0, .int 1, .ref akind, .ref aparent, .ref amode, .ref aowner, .ref agroup, .ref asize, .ref aseed, .ref aname, .ref anameSize, .ref atarget, .ref atargetSize, .ref abase, .ref abaseSize, .ref aextension, .ref aextensionSize, .ref aimage, .int 0, .ref atable, .ref asector, .ref asectors, .ref acontents, .int 0, .int 0, .int 0, .int 0, .ref aabove, .ref aisDirectory, .ref abytes, .ref aplace, .ref areadMode, .ref areadOwner, .ref areadGroup, .ref areadName, .ref areadNameSize, .ref areadTarget, .ref areadTargetSize, .ref adepth, .int 0, .int 0, .int 0, .int 0, .int 0, .int 0, .int 0]))] := hD
      refine lv_istore hx hb d_law_618 hl (by decide) rfl (fun ls hl => ?_)
      have hl : lv_has ls 7 [(6, .int r615), (5, .int 1), (4, .int 0), (3, .ref xq), (2, .ref xm), (1, .ref xd), (0, .ref b)] := hl
      refine lv_aload_n hx hb d_law_620 rfl (lv_at hl 4 rfl) ?_
      have hPc := hP.sub (ws' := [(xm, .inr (11, [.int 1, .ref atext, .int 0, .int 1, .ref akind, .ref aparent, .ref amode, .ref aowner, .ref agroup, .ref asize, .ref aseed, .ref aname, .ref anameSize, .ref atarget, .ref atargetSize, .ref abase, .ref abaseSize, .ref aextension, .ref aextensionSize, .ref aimage, .int 0, .ref atable, .ref asector, .ref asectors, .ref acontents, .int 0, .int 0, .int 0, .int 0, .ref aabove, .ref aisDirectory, .ref abytes, .ref aplace, .ref areadMode, .ref areadOwner, .ref areadGroup, .ref areadName, .ref areadNameSize, .ref areadTarget, .ref areadTargetSize, .ref adepth, .int 0, .int 0, .int 0, .int 0, .int 0, .int 0, .int 0]))]) [1] rfl
      have hDc := hD.sub (ws' := [(xm, .inr (11, [.int 1, .ref atext, .int 0, .int 1, .ref akind, .ref aparent, .ref amode, .ref aowner, .ref agroup, .ref asize, .ref aseed, .ref aname, .ref anameSize, .ref atarget, .ref atargetSize, .ref abase, .ref abaseSize, .ref aextension, .ref aextensionSize, .ref aimage, .int 0, .ref atable, .ref asector, .ref asectors, .ref acontents, .int 0, .int 0, .int 0, .int 0, .ref aabove, .ref aisDirectory, .ref abytes, .ref aplace, .ref areadMode, .ref areadOwner, .ref areadGroup, .ref areadName, .ref areadNameSize, .ref areadTarget, .ref areadTargetSize, .ref adepth, .int 0, .int 0, .int 0, .int 0, .int 0, .int 0, .int 0]))]) [1] (by decide) rfl
      have hFc := va_free (wc := [(xm, .inr (11, [.int 1, .ref atext, .int 0, .int 1, .ref akind, .ref aparent, .ref amode, .ref aowner, .ref agroup, .ref asize, .ref aseed, .ref aname, .ref anameSize, .ref atarget, .ref atargetSize, .ref abase, .ref abaseSize, .ref aextension, .ref aextensionSize, .ref aimage, .int 0, .ref atable, .ref asector, .ref asectors, .ref acontents, .int 0, .int 0, .int 0, .int 0, .ref aabove, .ref aisDirectory, .ref abytes, .ref aplace, .ref areadMode, .ref areadOwner, .ref areadGroup, .ref areadName, .ref areadNameSize, .ref areadTarget, .ref areadTargetSize, .ref adepth, .int 0, .int 0, .int 0, .int 0, .int 0, .int 0, .int 0]))]) hD hS hA [1] rfl
      have hkc : 70 ≤ 600002 := by decide
      have hks : 105311 ≤ 7302232 := by decide
      refine va_calli (va_runV (C := "DiscMakerModel") (As := []) (rest := []) ⟨hx, hb, hml, hown, hts⟩ (c_m_thrown l D cB cI cJ cZ cN cF H.size xm atext akind aparent amode aowner agroup asize aseed aname anameSize atarget atargetSize abase abaseSize aextension aextensionSize aimage atable asector asectors acontents aabove aisDirectory abytes aplace areadMode areadOwner areadGroup areadName areadNameSize areadTarget areadTargetSize adepth 1 0) (cwV 0 hts (lg_goodV k1578 k1579 k1580 k125 kc_DiscMakerModel_thrown) rfl rfl rfl (by decide +kernel) ⟨Nat.le_of_ble_eq_true rfl, Nat.le_of_ble_eq_true rfl⟩) ⟨fun a U g mk q => by obtain ⟨q0, q1, qP, qK, qN, qD⟩ := q; exact ⟨q0, q1, qP, va_K.moved (u := U) (U := U.calling g mk a) (Vm.Alike.refl U.vm) qK, qN.calling, qD⟩, va_recv hK hP (ci := 11) (q0 := 1) rfl rfl, fun U hU hW => ⟨rfl, by rw [hU], by rw [hU]; exact hPc, va_K.moved hW.alike hK, NN.warm hW hN, hDc.weaken (fun _ _ _ _ => trivial)⟩⟩ rfl rfl hl.1 rfl (lv_room (Nat.le_of_ble_eq_true rfl)) d_law_621 ⟨hkc, hks⟩) hS (fun q _ h => hFc q h) hFc (fun r621 u t H1 locs ht hvm hp_621 hB hz1 hk1 hS => ?_)
      obtain ⟨hP1, hD1⟩ := hB
      rw [ht] at hP1
      try dsimp only at hp_621
      obtain ⟨hP, hD⟩ := va_join (wr := [(xq, .inl (cJ, 1, .inr (.inl (fun _ => 0))))]) (w1 := []) hP hD [1] [0] rfl rfl (by decide) (by decide) hk1 hFc hP1 hD1
      clear hPc hDc hFc hP1 hD1 hk1 hz1
      generalize H1 = H at hP hS ⊢
      have hP : va_P D CL [(xq, .inl (cJ, 1, .inr (.inl (fun _ => 0))))] H := hP
      have hD : va_D A [(xq, .inl (cJ, 1, .inr (.inl (fun _ => 0))))] := hD
      refine W.eq (g2 := F0 m 624 ls [.int 1]) (by rw [show r621 = 1 from hp_621]) ?_
      refine lv_iload hx hb d_law_624 (lv_at hl 1 rfl) ?_
      refine lv_icmp_eq (tgt := 631) hx hb d_law_626 (by decide) (fun h_626 => ?_) (fun h_626 => absurd (by decide) h_626)
      refine lv_iload hx hb d_law_631 (lv_at hl 1 rfl) ?_
      refine lv_if_ne (tgt := 648) hx hb d_law_633 (by decide) (fun h_633 => ?_) (fun h_633 => absurd h_633 (by decide))
      refine lv_goto (tgt := 855) hx hb d_law_648 (by decide) ?_
      refine lv_iinc (v := 6) hx hb d_law_855 hl (k := 2) rfl (by decide) (by decide) rfl (fun ls hl => ?_)
      have hl : lv_has ls 7 [(4, .int 6), (6, .int r615), (5, .int 1), (3, .ref xq), (2, .ref xm), (1, .ref xd), (0, .ref b)] := hl
      refine lv_goto (tgt := 23) hx hb d_law_858 (by decide) ?_
      refine lv_iload hx hb d_law_23 (lv_at hl 0 rfl) ?_
      refine lv_aload_n hx hb d_law_25 rfl (lv_at hl 6 rfl) ?_
      refine va_slen hx hb hX hbl hbA hS d_law_26 ?_
      refine W.eq (g2 := F0 m 27 ls [.int 6, .int 6]) rfl ?_
      refine lv_bipush (v := 6) hx hb d_law_27 (by decide) ?_
      refine lv_isub hx hb d_law_29 ?_
      refine W.eq (g2 := F0 m 30 ls [.int 0, .int 6]) (by rw [show ((6 - 6) : Int32) = 0 from by decide]) ?_
      refine lv_icmp_gt (tgt := 861) hx hb d_law_30 (by decide) (fun h_30 => ?_) (fun h_30 => absurd (by decide) h_30)
      refine lv_iconst (v := 1) hx hb d_law_861 (by decide) ?_
      refine va_forget (fun q hq => by have h9 := hS.2.2 q hq; rw [hAe] at h9; exact h9) ?_
      refine W.widen (k := 600002) (n := 7302232) (by decide) (by decide) ?_
      exact lw_ret hx hb hr hlocks d_law_862
    · skip
      refine lv_tableIn (off := 611) (tgt := 651) hx hb d_law_40 (by decide) (by decide) (by decide) (by decide) ?_
      have hP := hP.sub (ws' := [(xd, .inr (0, [.ref tx, .ref tr, .ref im, .ref mkr, .ref rd])), (rd, .inr (7, [.ref im, .ref rp, .ref rr, .int 0, .int 0, .int 0])), (xm, .inr (11, [.int 0, .ref atext, .int 0, .int 1, .ref akind, .ref aparent, .ref amode, .ref aowner, .ref agroup, .ref asize, .ref aseed, .ref aname, .ref anameSize, .ref atarget, .ref atargetSize, .ref abase, .ref abaseSize, .ref aextension, .ref aextensionSize, .ref aimage, .int 0, .ref atable, .ref asector, .ref asectors, .ref acontents, .int 0, .int 0, .int 0, .int 0, .ref aabove, .ref aisDirectory, .ref abytes, .ref aplace, .ref areadMode, .ref areadOwner, .ref areadGroup, .ref areadName, .ref areadNameSize, .ref areadTarget, .ref areadTargetSize, .ref adepth, .int 0, .int 0, .int 0, .int 0, .int 0, .int 0, .int 0])), (xq, .inl (cJ, 1, .inr (.inl (fun _ => 0))))]) [0, 31, 34, 68] rfl
      have hD := hD.sub (ws' := [(xd, .inr (0, [.ref tx, .ref tr, .ref im, .ref mkr, .ref rd])), (rd, .inr (7, [.ref im, .ref rp, .ref rr, .int 0, .int 0, .int 0])), (xm, .inr (11, [.int 0, .ref atext, .int 0, .int 1, .ref akind, .ref aparent, .ref amode, .ref aowner, .ref agroup, .ref asize, .ref aseed, .ref aname, .ref anameSize, .ref atarget, .ref atargetSize, .ref abase, .ref abaseSize, .ref aextension, .ref aextensionSize, .ref aimage, .int 0, .ref atable, .ref asector, .ref asectors, .ref acontents, .int 0, .int 0, .int 0, .int 0, .ref aabove, .ref aisDirectory, .ref abytes, .ref aplace, .ref areadMode, .ref areadOwner, .ref areadGroup, .ref areadName, .ref areadNameSize, .ref areadTarget, .ref areadTargetSize, .ref adepth, .int 0, .int 0, .int 0, .int 0, .int 0, .int 0, .int 0])), (xq, .inl (cJ, 1, .inr (.inl (fun _ => 0))))]) [0, 31, 34, 68] (by decide) rfl
      refine lv_aload_n hx hb d_law_651 rfl (lv_at hl 3 rfl) ?_
      refine lv_aload_n hx hb d_law_652 rfl (lv_at hl 4 rfl) ?_
      refine lv_iload hx hb d_law_653 (lv_at hl 0 rfl) ?_
      refine lv_iconst (v := 1) hx hb d_law_655 (by decide) ?_
      refine lv_iadd hx hb d_law_656 ?_
      refine W.eq (g2 := F0 m 657 ls [.int 1, .ref b, .ref xd]) (by rw [show ((0 + 1) : Int32) = 1 from by decide]) ?_
      refine va_sld hx hb hX hbl hbA hS (by unfold vp_in; decide) d_law_657 ?_
      refine W.eq (g2 := F0 m 658 ls [.int (xs 1), .ref xd]) rfl ?_
      refine lv_aload_n hx hb d_law_658 rfl (lv_at hl 4 rfl) ?_
      refine lv_iload hx hb d_law_659 (lv_at hl 0 rfl) ?_
      refine lv_iconst (v := 2) hx hb d_law_661 (by decide) ?_
      refine lv_iadd hx hb d_law_662 ?_
      refine W.eq (g2 := F0 m 663 ls [.int 2, .ref b, .int (xs 1), .ref xd]) (by rw [show ((0 + 2) : Int32) = 2 from by decide]) ?_
      refine va_sld hx hb hX hbl hbA hS (by unfold vp_in; decide) d_law_663 ?_
      refine W.eq (g2 := F0 m 664 ls [.int (xs 2), .int (xs 1), .ref xd]) rfl ?_
      refine lv_aload_n hx hb d_law_664 rfl (lv_at hl 1 rfl) ?_
      have hPc := hP.sub (ws' := [(xd, .inr (0, [.ref tx, .ref tr, .ref im, .ref mkr, .ref rd])), (rd, .inr (7, [.ref im, .ref rp, .ref rr, .int 0, .int 0, .int 0])), (xq, .inl (cJ, 1, .inr (.inl (fun _ => 0))))]) [0, 1, 3] rfl
      have hDc := hD.sub (ws' := [(xd, .inr (0, [.ref tx, .ref tr, .ref im, .ref mkr, .ref rd])), (rd, .inr (7, [.ref im, .ref rp, .ref rr, .int 0, .int 0, .int 0])), (xq, .inl (cJ, 1, .inr (.inl (fun _ => 0))))]) [0, 1, 3] (by decide) rfl
      have hFc := va_free (wc := [(xd, .inr (0, [.ref tx, .ref tr, .ref im, .ref mkr, .ref rd])), (rd, .inr (7, [.ref im, .ref rp, .ref rr, .int 0, .int 0, .int 0])), (xq, .inl (cJ, 1, .inr (.inl (fun _ => 0))))]) hD hS hA [0, 1, 3] rfl
      have hkc : 70 ≤ 600002 := by decide
      have hks : 105311 ≤ 7302232 := by decide
      refine va_calli (zz_runSW (n := 4) (As := [.ref xd, .int (xs 1), .int (xs 2), .ref xq]) (rest := []) ⟨hx, hb, hml, hown, hts⟩ (c_l_name l htl D cB cI cJ cZ cN cF H.size xd tx tr im mkr rd rp rr xq (fun _ => 0) (xs 1) (xs 2)) (lg_good kc_DiscMakerLaw_name) rfl rfl rfl (ht9 _ k1402) (ht9 _ k1403) (ht9 _ k114) (by decide +kernel) ⟨Nat.le_of_ble_eq_true rfl, Nat.le_of_ble_eq_true rfl⟩ ⟨fun a U g mk q => by obtain ⟨q0, q1, qP, qK, qN, qD, qZ⟩ := q; exact ⟨q0, q1, qP, va_K.moved (u := U) (U := U.calling g mk a) (Vm.Alike.refl U.vm) qK, qN.calling, qD, TX_blind qZ⟩, fun U hU hW => ⟨rfl, by rw [hU], by rw [hU]; exact hPc, va_K.moved hW.alike hK, NN.warm hW hN, hDc.weaken (fun _ _ _ _ => trivial), TX_pass (hTX) hS hFc hW.alike hU⟩⟩ rfl rfl hl.1 rfl (lv_room (Nat.le_of_ble_eq_true rfl)) d_law_665 ⟨hkc, hks⟩) hS (fun q _ h => hFc q h) hFc (fun r665 u t H1 locs ht hvm hp_665 hB hz1 hk1 hS => ?_)
      obtain ⟨hP1, hD1⟩ := hB
      rw [ht] at hP1
      try dsimp only at hp_665
      obtain ⟨hP, hD⟩ := va_join (wr := [(xm, .inr (11, [.int 0, .ref atext, .int 0, .int 1, .ref akind, .ref aparent, .ref amode, .ref aowner, .ref agroup, .ref asize, .ref aseed, .ref aname, .ref anameSize, .ref atarget, .ref atargetSize, .ref abase, .ref abaseSize, .ref aextension, .ref aextensionSize, .ref aimage, .int 0, .ref atable, .ref asector, .ref asectors, .ref acontents, .int 0, .int 0, .int 0, .int 0, .ref aabove, .ref aisDirectory, .ref abytes, .ref aplace, .ref areadMode, .ref areadOwner, .ref areadGroup, .ref areadName, .ref areadNameSize, .ref areadTarget, .ref areadTargetSize, .ref adepth, .int 0, .int 0, .int 0, .int 0, .int 0, .int 0, .int 0]))]) (w1 := [(xq, .inl (cJ, 1, .inr (.inl (fun _ => 0))))]) hP hD [0, 1, 3] [2] rfl rfl (by decide) (by decide) hk1 hFc hP1 hD1
      clear hPc hDc hFc hP1 hD1 hk1 hz1
      generalize H1 = H at hP hS ⊢
      have hP : va_P D CL [(xm, .inr (11, [.int 0, .ref atext, .int 0, .int 1, .ref akind, .ref aparent, .ref amode, .ref aowner, .ref agroup, .ref asize, .ref aseed, .ref aname, .ref anameSize, .ref atarget, .ref atargetSize, .ref abase, .ref abaseSize, .ref aextension, .ref aextensionSize, .ref aimage, .int 0, .ref atable, .ref asector, .ref asectors, .ref acontents, .int 0, .int 0, .int 0, .int 0, .ref aabove, .ref aisDirectory, .ref abytes, .ref aplace, .ref areadMode, .ref areadOwner, .ref areadGroup, .ref areadName, .ref areadNameSize, .ref areadTarget, .ref areadTargetSize, .ref adepth, .int 0, .int 0, .int 0, .int 0, .int 0, .int 0, .int 0])), (xq, .inl (cJ, 1, .inr (.inl (fun _ => 0))))] H := hP
      have hD : va_D A [(xm, .inr (11, [.int 0, .ref atext, .int 0, .int 1, .ref akind, .ref aparent, .ref amode, .ref aowner, .ref agroup, .ref asize, .ref aseed, .ref aname, .ref anameSize, .ref atarget, .ref atargetSize, .ref abase, .ref abaseSize, .ref aextension, .ref aextensionSize, .ref aimage, .int 0, .ref atable, .ref asector, .ref asectors, .ref acontents, .int 0, .int 0, .int 0, .int 0, .ref aabove, .ref aisDirectory, .ref abytes, .ref aplace, .ref areadMode, .ref areadOwner, .ref areadGroup, .ref areadName, .ref areadNameSize, .ref areadTarget, .ref areadTargetSize, .ref adepth, .int 0, .int 0, .int 0, .int 0, .int 0, .int 0, .int 0])), (xq, .inl (cJ, 1, .inr (.inl (fun _ => 0))))] := hD
      refine W.widen (k := 70) (n := 105311) (by decide) (by decide) ?_
      refine W.eq (g2 := F0 m 668 ls [.int 1]) (by rw [show r665 = 1 from hp_665]) ?_
      refine lv_istore hx hb d_law_668 hl (by decide) rfl (fun ls hl => ?_)
      have hl : lv_has ls 7 [(5, .int 1), (4, .int 0), (3, .ref xq), (2, .ref xm), (1, .ref xd), (0, .ref b)] := hl
      refine lv_aload_n hx hb d_law_670 rfl (lv_at hl 3 rfl) ?_
      refine lv_aload_n hx hb d_law_671 rfl (lv_at hl 5 rfl) ?_
      refine lv_iload hx hb d_law_672 (lv_at hl 1 rfl) ?_
      refine lv_iconst (v := 1) hx hb d_law_674 (by decide) ?_
      refine lv_iadd hx hb d_law_675 ?_
      refine W.eq (g2 := F0 m 676 ls [.int 1, .ref b, .ref xm]) (by rw [show ((0 + 1) : Int32) = 1 from by decide]) ?_
      refine va_sld hx hb hX hbl hbA hS (by unfold vp_in; decide) d_law_676 ?_
      refine W.eq (g2 := F0 m 677 ls [.int (xs 1), .ref xm]) rfl ?_
      refine lv_aload_n hx hb d_law_677 rfl (lv_at hl 5 rfl) ?_
      refine lv_iload hx hb d_law_678 (lv_at hl 1 rfl) ?_
      refine lv_iconst (v := 2) hx hb d_law_680 (by decide) ?_
      refine lv_iadd hx hb d_law_681 ?_
      refine W.eq (g2 := F0 m 682 ls [.int 2, .ref b, .int (xs 1), .ref xm]) (by rw [show ((0 + 2) : Int32) = 2 from by decide]) ?_
      refine va_sld hx hb hX hbl hbA hS (by unfold vp_in; decide) d_law_682 ?_
      refine W.eq (g2 := F0 m 683 ls [.int (xs 2), .int (xs 1), .ref xm]) rfl ?_
      have hPc := hP.sub (ws' := [(xm, .inr (11, [.int 0, .ref atext, .int 0, .int 1, .ref akind, .ref aparent, .ref amode, .ref aowner, .ref agroup, .ref asize, .ref aseed, .ref aname, .ref anameSize, .ref atarget, .ref atargetSize, .ref abase, .ref abaseSize, .ref aextension, .ref aextensionSize, .ref aimage, .int 0, .ref atable, .ref asector, .ref asectors, .ref acontents, .int 0, .int 0, .int 0, .int 0, .ref aabove, .ref aisDirectory, .ref abytes, .ref aplace, .ref areadMode, .ref areadOwner, .ref areadGroup, .ref areadName, .ref areadNameSize, .ref areadTarget, .ref areadTargetSize, .ref adepth, .int 0, .int 0, .int 0, .int 0, .int 0, .int 0, .int 0]))]) [0] rfl
      have hDc := hD.sub (ws' := [(xm, .inr (11, [.int 0, .ref atext, .int 0, .int 1, .ref akind, .ref aparent, .ref amode, .ref aowner, .ref agroup, .ref asize, .ref aseed, .ref aname, .ref anameSize, .ref atarget, .ref atargetSize, .ref abase, .ref abaseSize, .ref aextension, .ref aextensionSize, .ref aimage, .int 0, .ref atable, .ref asector, .ref asectors, .ref acontents, .int 0, .int 0, .int 0, .int 0, .ref aabove, .ref aisDirectory, .ref abytes, .ref aplace, .ref areadMode, .ref areadOwner, .ref areadGroup, .ref areadName, .ref areadNameSize, .ref areadTarget, .ref areadTargetSize, .ref adepth, .int 0, .int 0, .int 0, .int 0, .int 0, .int 0, .int 0]))]) [0] (by decide) rfl
      have hFc := va_free (wc := [(xm, .inr (11, [.int 0, .ref atext, .int 0, .int 1, .ref akind, .ref aparent, .ref amode, .ref aowner, .ref agroup, .ref asize, .ref aseed, .ref aname, .ref anameSize, .ref atarget, .ref atargetSize, .ref abase, .ref abaseSize, .ref aextension, .ref aextensionSize, .ref aimage, .int 0, .ref atable, .ref asector, .ref asectors, .ref acontents, .int 0, .int 0, .int 0, .int 0, .ref aabove, .ref aisDirectory, .ref abytes, .ref aplace, .ref areadMode, .ref areadOwner, .ref areadGroup, .ref areadName, .ref areadNameSize, .ref areadTarget, .ref areadTargetSize, .ref adepth, .int 0, .int 0, .int 0, .int 0, .int 0, .int 0, .int 0]))]) hD hS hA [0] rfl
      have hkc : 70 ≤ 600002 := by decide
      have hks : 105311 ≤ 7302232 := by decide
      refine va_calli (va_runV (C := "DiscMakerModel") (As := [.int (xs 1), .int (xs 2)]) (rest := []) ⟨hx, hb, hml, hown, hts⟩ (c_m_name l D cB cI cJ cZ cN cF H.size xm atext akind aparent amode aowner agroup asize aseed aname anameSize atarget atargetSize abase abaseSize aextension aextensionSize aimage atable asector asectors acontents aabove aisDirectory abytes aplace areadMode areadOwner areadGroup areadName areadNameSize areadTarget areadTargetSize adepth (xs 1) (xs 2)) (cwV 2 hts (lg_goodV k1907 k1908 k1909 k125 kc_DiscMakerModel_name) rfl rfl rfl (by decide +kernel) ⟨Nat.le_of_ble_eq_true rfl, Nat.le_of_ble_eq_true rfl⟩) ⟨fun a U g mk q => by obtain ⟨q0, q1, qP, qK, qN, qD⟩ := q; exact ⟨q0, q1, qP, va_K.moved (u := U) (U := U.calling g mk a) (Vm.Alike.refl U.vm) qK, qN.calling, qD⟩, va_recv hK hP (ci := 11) (q0 := 0) rfl rfl, fun U hU hW => ⟨rfl, by rw [hU], by rw [hU]; exact hPc, va_K.moved hW.alike hK, NN.warm hW hN, hDc.weaken (fun _ _ _ _ => trivial)⟩⟩ rfl rfl hl.1 rfl (lv_room (Nat.le_of_ble_eq_true rfl)) d_law_683 ⟨hkc, hks⟩) hS (fun q _ h => hFc q h) hFc (fun r683 u t H1 locs ht hvm hp_683 hB hz1 hk1 hS => ?_)
      obtain ⟨hP1, hD1⟩ := hB
      rw [ht] at hP1
      obtain ⟨hP, hD⟩ := va_join (wr := [(xq, .inl (cJ, 1, .inr (.inl (fun _ => 0))))]) (w1 := [(xm, .inr (11, [.int 1, .ref atext, .int 0, .int 1, .ref akind, .ref aparent, .ref amode, .ref aowner, .ref agroup, .ref asize, .ref aseed, .ref aname, .ref anameSize, .ref atarget, .ref atargetSize, .ref abase, .ref abaseSize, .ref aextension, .ref aextensionSize, .ref aimage, .int 0, .ref atable, .ref asector, .ref asectors, .ref acontents, .int 0, .int 0, .int 0, .int 0, .ref aabove, .ref aisDirectory, .ref abytes, .ref aplace, .ref areadMode, .ref areadOwner, .ref areadGroup, .ref areadName, .ref areadNameSize, .ref areadTarget, .ref areadTargetSize, .ref adepth, .int 0, .int 0, .int 0, .int 0, .int 0, .int 0, .int 0]))]) hP hD [0] [1] rfl rfl (by decide) (by decide) hk1 hFc hP1 hD1
      clear hPc hDc hFc hP1 hD1 hk1 hz1
      generalize H1 = H at hP hS ⊢
      have hP : va_P D CL [(xq, .inl (cJ, 1, .inr (.inl (fun _ => 0)))), (xm, .inr (11, [.int 1, .ref atext, .int 0, .int 1, .ref akind, .ref aparent, .ref amode, .ref aowner, .ref agroup, .ref asize, .ref aseed, .ref aname, .ref anameSize, .ref atarget, .ref atargetSize, .ref abase, .ref abaseSize, .ref aextension, .ref aextensionSize, .ref aimage, .int 0, .ref atable, .ref asector, .ref asectors, .ref acontents, .int 0, .int 0, .int 0, .int 0, .ref aabove, .ref aisDirectory, .ref abytes, .ref aplace, .ref areadMode, .ref areadOwner, .ref areadGroup, .ref areadName, .ref areadNameSize, .ref areadTarget, .ref areadTargetSize, .ref adepth, .int 0, .int 0, .int 0, .int 0, .int 0, .int 0, .int 0]))] H := hP
      have hD : va_D A [(xq, .inl (cJ, 1, .inr (.inl (fun _ => 0)))), (xm, .inr (11, [.int 1, .ref atext, .int 0, .int 1, .ref akind, .ref aparent, .ref amode, .ref aowner, .ref agroup, .ref asize, .ref aseed, .ref aname, .ref anameSize, .ref atarget, .ref atargetSize, .ref abase, .ref abaseSize, .ref aextension, .ref aextensionSize, .ref aimage, .int 0, .ref atable, .ref asector, .ref asectors, .ref acontents, .int 0, .int 0, .int 0, .int 0, .ref aabove, .ref aisDirectory, .ref abytes, .ref aplace, .ref areadMode, .ref areadOwner, .ref areadGroup, .ref areadName, .ref areadNameSize, .ref areadTarget, .ref areadTargetSize, .ref adepth, .int 0, .int 0, .int 0, .int 0, .int 0, .int 0, .int 0]))] := hD
      refine lv_istore hx hb d_law_686 hl (by decide) rfl (fun ls hl => ?_)
      have hl : lv_has ls 7 [(6, .int r683), (5, .int 1), (4, .int 0), (3, .ref xq), (2, .ref xm), (1, .ref xd), (0, .ref b)] := hl
      refine lv_aload_n hx hb d_law_688 rfl (lv_at hl 4 rfl) ?_
      have hPc := hP.sub (ws' := [(xm, .inr (11, [.int 1, .ref atext, .int 0, .int 1, .ref akind, .ref aparent, .ref amode, .ref aowner, .ref agroup, .ref asize, .ref aseed, .ref aname, .ref anameSize, .ref atarget, .ref atargetSize, .ref abase, .ref abaseSize, .ref aextension, .ref aextensionSize, .ref aimage, .int 0, .ref atable, .ref asector, .ref asectors, .ref acontents, .int 0, .int 0, .int 0, .int 0, .ref aabove, .ref aisDirectory, .ref abytes, .ref aplace, .ref areadMode, .ref areadOwner, .ref areadGroup, .ref areadName, .ref areadNameSize, .ref areadTarget, .ref areadTargetSize, .ref adepth, .int 0, .int 0, .int 0, .int 0, .int 0, .int 0, .int 0]))]) [1] rfl
      have hDc := hD.sub (ws' := [(xm, .inr (11, [.int 1, .ref atext, .int 0, .int 1, .ref akind, .ref aparent, .ref amode, .ref aowner, .ref agroup, .ref asize, .ref aseed, .ref aname, .ref anameSize, .ref atarget, .ref atargetSize, .ref abase, .ref abaseSize, .ref aextension, .ref aextensionSize, .ref aimage, .int 0, .ref atable, .ref asector, .ref asectors, .ref acontents, .int 0, .int 0, .int 0, .int 0, .ref aabove, .ref aisDirectory, .ref abytes, .ref aplace, .ref areadMode, .ref areadOwner, .ref areadGroup, .ref areadName, .ref areadNameSize, .ref areadTarget, .ref areadTargetSize, .ref adepth, .int 0, .int 0, .int 0, .int 0, .int 0, .int 0, .int 0]))]) [1] (by decide) rfl
      have hFc := va_free (wc := [(xm, .inr (11, [.int 1, .ref atext, .int 0, .int 1, .ref akind, .ref aparent, .ref amode, .ref aowner, .ref agroup, .ref asize, .ref aseed, .ref aname, .ref anameSize, .ref atarget, .ref atargetSize, .ref abase, .ref abaseSize, .ref aextension, .ref aextensionSize, .ref aimage, .int 0, .ref atable, .ref asector, .ref asectors, .ref acontents, .int 0, .int 0, .int 0, .int 0, .ref aabove, .ref aisDirectory, .ref abytes, .ref aplace, .ref areadMode, .ref areadOwner, .ref areadGroup, .ref areadName, .ref areadNameSize, .ref areadTarget, .ref areadTargetSize, .ref adepth, .int 0, .int 0, .int 0, .int 0, .int 0, .int 0, .int 0]))]) hD hS hA [1] rfl
      have hkc : 70 ≤ 600002 := by decide
      have hks : 105311 ≤ 7302232 := by decide
      refine va_calli (va_runV (C := "DiscMakerModel") (As := []) (rest := []) ⟨hx, hb, hml, hown, hts⟩ (c_m_thrown l D cB cI cJ cZ cN cF H.size xm atext akind aparent amode aowner agroup asize aseed aname anameSize atarget atargetSize abase abaseSize aextension aextensionSize aimage atable asector asectors acontents aabove aisDirectory abytes aplace areadMode areadOwner areadGroup areadName areadNameSize areadTarget areadTargetSize adepth 1 0) (cwV 0 hts (lg_goodV k1578 k1579 k1580 k125 kc_DiscMakerModel_thrown) rfl rfl rfl (by decide +kernel) ⟨Nat.le_of_ble_eq_true rfl, Nat.le_of_ble_eq_true rfl⟩) ⟨fun a U g mk q => by obtain ⟨q0, q1, qP, qK, qN, qD⟩ := q; exact ⟨q0, q1, qP, va_K.moved (u := U) (U := U.calling g mk a) (Vm.Alike.refl U.vm) qK, qN.calling, qD⟩, va_recv hK hP (ci := 11) (q0 := 1) rfl rfl, fun U hU hW => ⟨rfl, by rw [hU], by rw [hU]; exact hPc, va_K.moved hW.alike hK, NN.warm hW hN, hDc.weaken (fun _ _ _ _ => trivial)⟩⟩ rfl rfl hl.1 rfl (lv_room (Nat.le_of_ble_eq_true rfl)) d_law_689 ⟨hkc, hks⟩) hS (fun q _ h => hFc q h) hFc (fun r689 u t H1 locs ht hvm hp_689 hB hz1 hk1 hS => ?_)
      obtain ⟨hP1, hD1⟩ := hB
      rw [ht] at hP1
      try dsimp only at hp_689
      obtain ⟨hP, hD⟩ := va_join (wr := [(xq, .inl (cJ, 1, .inr (.inl (fun _ => 0))))]) (w1 := []) hP hD [1] [0] rfl rfl (by decide) (by decide) hk1 hFc hP1 hD1
      clear hPc hDc hFc hP1 hD1 hk1 hz1
      generalize H1 = H at hP hS ⊢
      have hP : va_P D CL [(xq, .inl (cJ, 1, .inr (.inl (fun _ => 0))))] H := hP
      have hD : va_D A [(xq, .inl (cJ, 1, .inr (.inl (fun _ => 0))))] := hD
      refine W.eq (g2 := F0 m 692 ls [.int 1]) (by rw [show r689 = 1 from hp_689]) ?_
      refine lv_iload hx hb d_law_692 (lv_at hl 1 rfl) ?_
      refine lv_icmp_eq (tgt := 699) hx hb d_law_694 (by decide) (fun h_694 => ?_) (fun h_694 => absurd (by decide) h_694)
      refine lv_iload hx hb d_law_699 (lv_at hl 1 rfl) ?_
      refine lv_if_ne (tgt := 716) hx hb d_law_701 (by decide) (fun h_701 => ?_) (fun h_701 => absurd h_701 (by decide))
      refine lv_goto (tgt := 855) hx hb d_law_716 (by decide) ?_
      refine lv_iinc (v := 6) hx hb d_law_855 hl (k := 2) rfl (by decide) (by decide) rfl (fun ls hl => ?_)
      have hl : lv_has ls 7 [(4, .int 6), (6, .int r683), (5, .int 1), (3, .ref xq), (2, .ref xm), (1, .ref xd), (0, .ref b)] := hl
      refine lv_goto (tgt := 23) hx hb d_law_858 (by decide) ?_
      refine lv_iload hx hb d_law_23 (lv_at hl 0 rfl) ?_
      refine lv_aload_n hx hb d_law_25 rfl (lv_at hl 6 rfl) ?_
      refine va_slen hx hb hX hbl hbA hS d_law_26 ?_
      refine W.eq (g2 := F0 m 27 ls [.int 6, .int 6]) rfl ?_
      refine lv_bipush (v := 6) hx hb d_law_27 (by decide) ?_
      refine lv_isub hx hb d_law_29 ?_
      refine W.eq (g2 := F0 m 30 ls [.int 0, .int 6]) (by rw [show ((6 - 6) : Int32) = 0 from by decide]) ?_
      refine lv_icmp_gt (tgt := 861) hx hb d_law_30 (by decide) (fun h_30 => ?_) (fun h_30 => absurd (by decide) h_30)
      refine lv_iconst (v := 1) hx hb d_law_861 (by decide) ?_
      refine va_forget (fun q hq => by have h9 := hS.2.2 q hq; rw [hAe] at h9; exact h9) ?_
      refine W.widen (k := 600002) (n := 7302232) (by decide) (by decide) ?_
      exact lw_ret hx hb hr hlocks d_law_862
    · skip
      refine lv_tableIn (off := 679) (tgt := 719) hx hb d_law_40 (by decide) (by decide) (by decide) (by decide) ?_
      have hP := hP.sub (ws' := [(xd, .inr (0, [.ref tx, .ref tr, .ref im, .ref mkr, .ref rd])), (rd, .inr (7, [.ref im, .ref rp, .ref rr, .int 0, .int 0, .int 0])), (xm, .inr (11, [.int 0, .ref atext, .int 0, .int 1, .ref akind, .ref aparent, .ref amode, .ref aowner, .ref agroup, .ref asize, .ref aseed, .ref aname, .ref anameSize, .ref atarget, .ref atargetSize, .ref abase, .ref abaseSize, .ref aextension, .ref aextensionSize, .ref aimage, .int 0, .ref atable, .ref asector, .ref asectors, .ref acontents, .int 0, .int 0, .int 0, .int 0, .ref aabove, .ref aisDirectory, .ref abytes, .ref aplace, .ref areadMode, .ref areadOwner, .ref areadGroup, .ref areadName, .ref areadNameSize, .ref areadTarget, .ref areadTargetSize, .ref adepth, .int 0, .int 0, .int 0, .int 0, .int 0, .int 0, .int 0])), (xq, .inl (cJ, 1, .inr (.inl (fun _ => 0))))]) [0, 31, 34, 68] rfl
      have hD := hD.sub (ws' := [(xd, .inr (0, [.ref tx, .ref tr, .ref im, .ref mkr, .ref rd])), (rd, .inr (7, [.ref im, .ref rp, .ref rr, .int 0, .int 0, .int 0])), (xm, .inr (11, [.int 0, .ref atext, .int 0, .int 1, .ref akind, .ref aparent, .ref amode, .ref aowner, .ref agroup, .ref asize, .ref aseed, .ref aname, .ref anameSize, .ref atarget, .ref atargetSize, .ref abase, .ref abaseSize, .ref aextension, .ref aextensionSize, .ref aimage, .int 0, .ref atable, .ref asector, .ref asectors, .ref acontents, .int 0, .int 0, .int 0, .int 0, .ref aabove, .ref aisDirectory, .ref abytes, .ref aplace, .ref areadMode, .ref areadOwner, .ref areadGroup, .ref areadName, .ref areadNameSize, .ref areadTarget, .ref areadTargetSize, .ref adepth, .int 0, .int 0, .int 0, .int 0, .int 0, .int 0, .int 0])), (xq, .inl (cJ, 1, .inr (.inl (fun _ => 0))))]) [0, 31, 34, 68] (by decide) rfl
      refine lv_aload_n hx hb d_law_719 rfl (lv_at hl 3 rfl) ?_
      refine lv_aload_n hx hb d_law_720 rfl (lv_at hl 4 rfl) ?_
      refine lv_iload hx hb d_law_721 (lv_at hl 0 rfl) ?_
      refine lv_iconst (v := 1) hx hb d_law_723 (by decide) ?_
      refine lv_iadd hx hb d_law_724 ?_
      refine W.eq (g2 := F0 m 725 ls [.int 1, .ref b, .ref xd]) (by rw [show ((0 + 1) : Int32) = 1 from by decide]) ?_
      refine va_sld hx hb hX hbl hbA hS (by unfold vp_in; decide) d_law_725 ?_
      refine W.eq (g2 := F0 m 726 ls [.int (xs 1), .ref xd]) rfl ?_
      refine lv_aload_n hx hb d_law_726 rfl (lv_at hl 4 rfl) ?_
      refine lv_iload hx hb d_law_727 (lv_at hl 0 rfl) ?_
      refine lv_iconst (v := 2) hx hb d_law_729 (by decide) ?_
      refine lv_iadd hx hb d_law_730 ?_
      refine W.eq (g2 := F0 m 731 ls [.int 2, .ref b, .int (xs 1), .ref xd]) (by rw [show ((0 + 2) : Int32) = 2 from by decide]) ?_
      refine va_sld hx hb hX hbl hbA hS (by unfold vp_in; decide) d_law_731 ?_
      refine W.eq (g2 := F0 m 732 ls [.int (xs 2), .int (xs 1), .ref xd]) rfl ?_
      refine lv_aload_n hx hb d_law_732 rfl (lv_at hl 1 rfl) ?_
      have hPc := hP.sub (ws' := [(xd, .inr (0, [.ref tx, .ref tr, .ref im, .ref mkr, .ref rd])), (rd, .inr (7, [.ref im, .ref rp, .ref rr, .int 0, .int 0, .int 0])), (xq, .inl (cJ, 1, .inr (.inl (fun _ => 0))))]) [0, 1, 3] rfl
      have hDc := hD.sub (ws' := [(xd, .inr (0, [.ref tx, .ref tr, .ref im, .ref mkr, .ref rd])), (rd, .inr (7, [.ref im, .ref rp, .ref rr, .int 0, .int 0, .int 0])), (xq, .inl (cJ, 1, .inr (.inl (fun _ => 0))))]) [0, 1, 3] (by decide) rfl
      have hFc := va_free (wc := [(xd, .inr (0, [.ref tx, .ref tr, .ref im, .ref mkr, .ref rd])), (rd, .inr (7, [.ref im, .ref rp, .ref rr, .int 0, .int 0, .int 0])), (xq, .inl (cJ, 1, .inr (.inl (fun _ => 0))))]) hD hS hA [0, 1, 3] rfl
      have hkc : 70 ≤ 600002 := by decide
      have hks : 105311 ≤ 7302232 := by decide
      refine va_calli (zz_runSW (n := 4) (As := [.ref xd, .int (xs 1), .int (xs 2), .ref xq]) (rest := []) ⟨hx, hb, hml, hown, hts⟩ (c_l_target l htl D cB cI cJ cZ cN cF H.size xd tx tr im mkr rd rp rr xq (fun _ => 0) (xs 1) (xs 2)) (lg_good kc_DiscMakerLaw_target) rfl rfl rfl (ht9 _ k1409) (ht9 _ k1410) (ht9 _ k114) (by decide +kernel) ⟨Nat.le_of_ble_eq_true rfl, Nat.le_of_ble_eq_true rfl⟩ ⟨fun a U g mk q => by obtain ⟨q0, q1, qP, qK, qN, qD, qZ⟩ := q; exact ⟨q0, q1, qP, va_K.moved (u := U) (U := U.calling g mk a) (Vm.Alike.refl U.vm) qK, qN.calling, qD, TX_blind qZ⟩, fun U hU hW => ⟨rfl, by rw [hU], by rw [hU]; exact hPc, va_K.moved hW.alike hK, NN.warm hW hN, hDc.weaken (fun _ _ _ _ => trivial), TX_pass (hTX) hS hFc hW.alike hU⟩⟩ rfl rfl hl.1 rfl (lv_room (Nat.le_of_ble_eq_true rfl)) d_law_733 ⟨hkc, hks⟩) hS (fun q _ h => hFc q h) hFc (fun r733 u t H1 locs ht hvm hp_733 hB hz1 hk1 hS => ?_)
      obtain ⟨hP1, hD1⟩ := hB
      rw [ht] at hP1
      try dsimp only at hp_733
      obtain ⟨hP, hD⟩ := va_join (wr := [(xm, .inr (11, [.int 0, .ref atext, .int 0, .int 1, .ref akind, .ref aparent, .ref amode, .ref aowner, .ref agroup, .ref asize, .ref aseed, .ref aname, .ref anameSize, .ref atarget, .ref atargetSize, .ref abase, .ref abaseSize, .ref aextension, .ref aextensionSize, .ref aimage, .int 0, .ref atable, .ref asector, .ref asectors, .ref acontents, .int 0, .int 0, .int 0, .int 0, .ref aabove, .ref aisDirectory, .ref abytes, .ref aplace, .ref areadMode, .ref areadOwner, .ref areadGroup, .ref areadName, .ref areadNameSize, .ref areadTarget, .ref areadTargetSize, .ref adepth, .int 0, .int 0, .int 0, .int 0, .int 0, .int 0, .int 0]))]) (w1 := [(xq, .inl (cJ, 1, .inr (.inl (fun _ => 0))))]) hP hD [0, 1, 3] [2] rfl rfl (by decide) (by decide) hk1 hFc hP1 hD1
      clear hPc hDc hFc hP1 hD1 hk1 hz1
      generalize H1 = H at hP hS ⊢
      have hP : va_P D CL [(xm, .inr (11, [.int 0, .ref atext, .int 0, .int 1, .ref akind, .ref aparent, .ref amode, .ref aowner, .ref agroup, .ref asize, .ref aseed, .ref aname, .ref anameSize, .ref atarget, .ref atargetSize, .ref abase, .ref abaseSize, .ref aextension, .ref aextensionSize, .ref aimage, .int 0, .ref atable, .ref asector, .ref asectors, .ref acontents, .int 0, .int 0, .int 0, .int 0, .ref aabove, .ref aisDirectory, .ref abytes, .ref aplace, .ref areadMode, .ref areadOwner, .ref areadGroup, .ref areadName, .ref areadNameSize, .ref areadTarget, .ref areadTargetSize, .ref adepth, .int 0, .int 0, .int 0, .int 0, .int 0, .int 0, .int 0])), (xq, .inl (cJ, 1, .inr (.inl (fun _ => 0))))] H := hP
      have hD : va_D A [(xm, .inr (11, [.int 0, .ref atext, .int 0, .int 1, .ref akind, .ref aparent, .ref amode, .ref aowner, .ref agroup, .ref asize, .ref aseed, .ref aname, .ref anameSize, .ref atarget, .ref atargetSize, .ref abase, .ref abaseSize, .ref aextension, .ref aextensionSize, .ref aimage, .int 0, .ref atable, .ref asector, .ref asectors, .ref acontents, .int 0, .int 0, .int 0, .int 0, .ref aabove, .ref aisDirectory, .ref abytes, .ref aplace, .ref areadMode, .ref areadOwner, .ref areadGroup, .ref areadName, .ref areadNameSize, .ref areadTarget, .ref areadTargetSize, .ref adepth, .int 0, .int 0, .int 0, .int 0, .int 0, .int 0, .int 0])), (xq, .inl (cJ, 1, .inr (.inl (fun _ => 0))))] := hD
      refine W.widen (k := 70) (n := 105311) (by decide) (by decide) ?_
      refine W.eq (g2 := F0 m 736 ls [.int 1]) (by rw [show r733 = 1 from hp_733]) ?_
      refine lv_istore hx hb d_law_736 hl (by decide) rfl (fun ls hl => ?_)
      have hl : lv_has ls 7 [(5, .int 1), (4, .int 0), (3, .ref xq), (2, .ref xm), (1, .ref xd), (0, .ref b)] := hl
      refine lv_aload_n hx hb d_law_738 rfl (lv_at hl 3 rfl) ?_
      refine lv_aload_n hx hb d_law_739 rfl (lv_at hl 5 rfl) ?_
      refine lv_iload hx hb d_law_740 (lv_at hl 1 rfl) ?_
      refine lv_iconst (v := 1) hx hb d_law_742 (by decide) ?_
      refine lv_iadd hx hb d_law_743 ?_
      refine W.eq (g2 := F0 m 744 ls [.int 1, .ref b, .ref xm]) (by rw [show ((0 + 1) : Int32) = 1 from by decide]) ?_
      refine va_sld hx hb hX hbl hbA hS (by unfold vp_in; decide) d_law_744 ?_
      refine W.eq (g2 := F0 m 745 ls [.int (xs 1), .ref xm]) rfl ?_
      refine lv_aload_n hx hb d_law_745 rfl (lv_at hl 5 rfl) ?_
      refine lv_iload hx hb d_law_746 (lv_at hl 1 rfl) ?_
      refine lv_iconst (v := 2) hx hb d_law_748 (by decide) ?_
      refine lv_iadd hx hb d_law_749 ?_
      refine W.eq (g2 := F0 m 750 ls [.int 2, .ref b, .int (xs 1), .ref xm]) (by rw [show ((0 + 2) : Int32) = 2 from by decide]) ?_
      refine va_sld hx hb hX hbl hbA hS (by unfold vp_in; decide) d_law_750 ?_
      refine W.eq (g2 := F0 m 751 ls [.int (xs 2), .int (xs 1), .ref xm]) rfl ?_
      have hPc := hP.sub (ws' := [(xm, .inr (11, [.int 0, .ref atext, .int 0, .int 1, .ref akind, .ref aparent, .ref amode, .ref aowner, .ref agroup, .ref asize, .ref aseed, .ref aname, .ref anameSize, .ref atarget, .ref atargetSize, .ref abase, .ref abaseSize, .ref aextension, .ref aextensionSize, .ref aimage, .int 0, .ref atable, .ref asector, .ref asectors, .ref acontents, .int 0, .int 0, .int 0, .int 0, .ref aabove, .ref aisDirectory, .ref abytes, .ref aplace, .ref areadMode, .ref areadOwner, .ref areadGroup, .ref areadName, .ref areadNameSize, .ref areadTarget, .ref areadTargetSize, .ref adepth, .int 0, .int 0, .int 0, .int 0, .int 0, .int 0, .int 0]))]) [0] rfl
      have hDc := hD.sub (ws' := [(xm, .inr (11, [.int 0, .ref atext, .int 0, .int 1, .ref akind, .ref aparent, .ref amode, .ref aowner, .ref agroup, .ref asize, .ref aseed, .ref aname, .ref anameSize, .ref atarget, .ref atargetSize, .ref abase, .ref abaseSize, .ref aextension, .ref aextensionSize, .ref aimage, .int 0, .ref atable, .ref asector, .ref asectors, .ref acontents, .int 0, .int 0, .int 0, .int 0, .ref aabove, .ref aisDirectory, .ref abytes, .ref aplace, .ref areadMode, .ref areadOwner, .ref areadGroup, .ref areadName, .ref areadNameSize, .ref areadTarget, .ref areadTargetSize, .ref adepth, .int 0, .int 0, .int 0, .int 0, .int 0, .int 0, .int 0]))]) [0] (by decide) rfl
      have hFc := va_free (wc := [(xm, .inr (11, [.int 0, .ref atext, .int 0, .int 1, .ref akind, .ref aparent, .ref amode, .ref aowner, .ref agroup, .ref asize, .ref aseed, .ref aname, .ref anameSize, .ref atarget, .ref atargetSize, .ref abase, .ref abaseSize, .ref aextension, .ref aextensionSize, .ref aimage, .int 0, .ref atable, .ref asector, .ref asectors, .ref acontents, .int 0, .int 0, .int 0, .int 0, .ref aabove, .ref aisDirectory, .ref abytes, .ref aplace, .ref areadMode, .ref areadOwner, .ref areadGroup, .ref areadName, .ref areadNameSize, .ref areadTarget, .ref areadTargetSize, .ref adepth, .int 0, .int 0, .int 0, .int 0, .int 0, .int 0, .int 0]))]) hD hS hA [0] rfl
      have hkc : 70 ≤ 600002 := by decide
      have hks : 105311 ≤ 7302232 := by decide
      refine va_calli (va_runV (C := "DiscMakerModel") (As := [.int (xs 1), .int (xs 2)]) (rest := []) ⟨hx, hb, hml, hown, hts⟩ (c_m_target l D cB cI cJ cZ cN cF H.size xm atext akind aparent amode aowner agroup asize aseed aname anameSize atarget atargetSize abase abaseSize aextension aextensionSize aimage atable asector asectors acontents aabove aisDirectory abytes aplace areadMode areadOwner areadGroup areadName areadNameSize areadTarget areadTargetSize adepth (xs 1) (xs 2)) (cwV 2 hts (lg_goodV k1911 k1912 k1913 k125 kc_DiscMakerModel_target) rfl rfl rfl (by decide +kernel) ⟨Nat.le_of_ble_eq_true rfl, Nat.le_of_ble_eq_true rfl⟩) ⟨fun a U g mk q => by obtain ⟨q0, q1, qP, qK, qN, qD⟩ := q; exact ⟨q0, q1, qP, va_K.moved (u := U) (U := U.calling g mk a) (Vm.Alike.refl U.vm) qK, qN.calling, qD⟩, va_recv hK hP (ci := 11) (q0 := 0) rfl rfl, fun U hU hW => ⟨rfl, by rw [hU], by rw [hU]; exact hPc, va_K.moved hW.alike hK, NN.warm hW hN, hDc.weaken (fun _ _ _ _ => trivial)⟩⟩ rfl rfl hl.1 rfl (lv_room (Nat.le_of_ble_eq_true rfl)) d_law_751 ⟨hkc, hks⟩) hS (fun q _ h => hFc q h) hFc (fun r751 u t H1 locs ht hvm hp_751 hB hz1 hk1 hS => ?_)
      obtain ⟨hP1, hD1⟩ := hB
      rw [ht] at hP1
      obtain ⟨hP, hD⟩ := va_join (wr := [(xq, .inl (cJ, 1, .inr (.inl (fun _ => 0))))]) (w1 := [(xm, .inr (11, [.int 1, .ref atext, .int 0, .int 1, .ref akind, .ref aparent, .ref amode, .ref aowner, .ref agroup, .ref asize, .ref aseed, .ref aname, .ref anameSize, .ref atarget, .ref atargetSize, .ref abase, .ref abaseSize, .ref aextension, .ref aextensionSize, .ref aimage, .int 0, .ref atable, .ref asector, .ref asectors, .ref acontents, .int 0, .int 0, .int 0, .int 0, .ref aabove, .ref aisDirectory, .ref abytes, .ref aplace, .ref areadMode, .ref areadOwner, .ref areadGroup, .ref areadName, .ref areadNameSize, .ref areadTarget, .ref areadTargetSize, .ref adepth, .int 0, .int 0, .int 0, .int 0, .int 0, .int 0, .int 0]))]) hP hD [0] [1] rfl rfl (by decide) (by decide) hk1 hFc hP1 hD1
      clear hPc hDc hFc hP1 hD1 hk1 hz1
      generalize H1 = H at hP hS ⊢
      have hP : va_P D CL [(xq, .inl (cJ, 1, .inr (.inl (fun _ => 0)))), (xm, .inr (11, [.int 1, .ref atext, .int 0, .int 1, .ref akind, .ref aparent, .ref amode, .ref aowner, .ref agroup, .ref asize, .ref aseed, .ref aname, .ref anameSize, .ref atarget, .ref atargetSize, .ref abase, .ref abaseSize, .ref aextension, .ref aextensionSize, .ref aimage, .int 0, .ref atable, .ref asector, .ref asectors, .ref acontents, .int 0, .int 0, .int 0, .int 0, .ref aabove, .ref aisDirectory, .ref abytes, .ref aplace, .ref areadMode, .ref areadOwner, .ref areadGroup, .ref areadName, .ref areadNameSize, .ref areadTarget, .ref areadTargetSize, .ref adepth, .int 0, .int 0, .int 0, .int 0, .int 0, .int 0, .int 0]))] H := hP
      have hD : va_D A [(xq, .inl (cJ, 1, .inr (.inl (fun _ => 0)))), (xm, .inr (11, [.int 1, .ref atext, .int 0, .int 1, .ref akind, .ref aparent, .ref amode, .ref aowner, .ref agroup, .ref asize, .ref aseed, .ref aname, .ref anameSize, .ref atarget, .ref atargetSize, .ref abase, .ref abaseSize, .ref aextension, .ref aextensionSize, .ref aimage, .int 0, .ref atable, .ref asector, .ref asectors, .ref acontents, .int 0, .int 0, .int 0, .int 0, .ref aabove, .ref aisDirectory, .ref abytes, .ref aplace, .ref areadMode, .ref areadOwner, .ref areadGroup, .ref areadName, .ref areadNameSize, .ref areadTarget, .ref areadTargetSize, .ref adepth, .int 0, .int 0, .int 0, .int 0, .int 0, .int 0, .int 0]))] := hD
      refine lv_istore hx hb d_law_754 hl (by decide) rfl (fun ls hl => ?_)
      have hl : lv_has ls 7 [(6, .int r751), (5, .int 1), (4, .int 0), (3, .ref xq), (2, .ref xm), (1, .ref xd), (0, .ref b)] := hl
      refine lv_aload_n hx hb d_law_756 rfl (lv_at hl 4 rfl) ?_
      have hPc := hP.sub (ws' := [(xm, .inr (11, [.int 1, .ref atext, .int 0, .int 1, .ref akind, .ref aparent, .ref amode, .ref aowner, .ref agroup, .ref asize, .ref aseed, .ref aname, .ref anameSize, .ref atarget, .ref atargetSize, .ref abase, .ref abaseSize, .ref aextension, .ref aextensionSize, .ref aimage, .int 0, .ref atable, .ref asector, .ref asectors, .ref acontents, .int 0, .int 0, .int 0, .int 0, .ref aabove, .ref aisDirectory, .ref abytes, .ref aplace, .ref areadMode, .ref areadOwner, .ref areadGroup, .ref areadName, .ref areadNameSize, .ref areadTarget, .ref areadTargetSize, .ref adepth, .int 0, .int 0, .int 0, .int 0, .int 0, .int 0, .int 0]))]) [1] rfl
      have hDc := hD.sub (ws' := [(xm, .inr (11, [.int 1, .ref atext, .int 0, .int 1, .ref akind, .ref aparent, .ref amode, .ref aowner, .ref agroup, .ref asize, .ref aseed, .ref aname, .ref anameSize, .ref atarget, .ref atargetSize, .ref abase, .ref abaseSize, .ref aextension, .ref aextensionSize, .ref aimage, .int 0, .ref atable, .ref asector, .ref asectors, .ref acontents, .int 0, .int 0, .int 0, .int 0, .ref aabove, .ref aisDirectory, .ref abytes, .ref aplace, .ref areadMode, .ref areadOwner, .ref areadGroup, .ref areadName, .ref areadNameSize, .ref areadTarget, .ref areadTargetSize, .ref adepth, .int 0, .int 0, .int 0, .int 0, .int 0, .int 0, .int 0]))]) [1] (by decide) rfl
      have hFc := va_free (wc := [(xm, .inr (11, [.int 1, .ref atext, .int 0, .int 1, .ref akind, .ref aparent, .ref amode, .ref aowner, .ref agroup, .ref asize, .ref aseed, .ref aname, .ref anameSize, .ref atarget, .ref atargetSize, .ref abase, .ref abaseSize, .ref aextension, .ref aextensionSize, .ref aimage, .int 0, .ref atable, .ref asector, .ref asectors, .ref acontents, .int 0, .int 0, .int 0, .int 0, .ref aabove, .ref aisDirectory, .ref abytes, .ref aplace, .ref areadMode, .ref areadOwner, .ref areadGroup, .ref areadName, .ref areadNameSize, .ref areadTarget, .ref areadTargetSize, .ref adepth, .int 0, .int 0, .int 0, .int 0, .int 0, .int 0, .int 0]))]) hD hS hA [1] rfl
      have hkc : 70 ≤ 600002 := by decide
      have hks : 105311 ≤ 7302232 := by decide
      refine va_calli (va_runV (C := "DiscMakerModel") (As := []) (rest := []) ⟨hx, hb, hml, hown, hts⟩ (c_m_thrown l D cB cI cJ cZ cN cF H.size xm atext akind aparent amode aowner agroup asize aseed aname anameSize atarget atargetSize abase abaseSize aextension aextensionSize aimage atable asector asectors acontents aabove aisDirectory abytes aplace areadMode areadOwner areadGroup areadName areadNameSize areadTarget areadTargetSize adepth 1 0) (cwV 0 hts (lg_goodV k1578 k1579 k1580 k125 kc_DiscMakerModel_thrown) rfl rfl rfl (by decide +kernel) ⟨Nat.le_of_ble_eq_true rfl, Nat.le_of_ble_eq_true rfl⟩) ⟨fun a U g mk q => by obtain ⟨q0, q1, qP, qK, qN, qD⟩ := q; exact ⟨q0, q1, qP, va_K.moved (u := U) (U := U.calling g mk a) (Vm.Alike.refl U.vm) qK, qN.calling, qD⟩, va_recv hK hP (ci := 11) (q0 := 1) rfl rfl, fun U hU hW => ⟨rfl, by rw [hU], by rw [hU]; exact hPc, va_K.moved hW.alike hK, NN.warm hW hN, hDc.weaken (fun _ _ _ _ => trivial)⟩⟩ rfl rfl hl.1 rfl (lv_room (Nat.le_of_ble_eq_true rfl)) d_law_757 ⟨hkc, hks⟩) hS (fun q _ h => hFc q h) hFc (fun r757 u t H1 locs ht hvm hp_757 hB hz1 hk1 hS => ?_)
      obtain ⟨hP1, hD1⟩ := hB
      rw [ht] at hP1
      try dsimp only at hp_757
      obtain ⟨hP, hD⟩ := va_join (wr := [(xq, .inl (cJ, 1, .inr (.inl (fun _ => 0))))]) (w1 := []) hP hD [1] [0] rfl rfl (by decide) (by decide) hk1 hFc hP1 hD1
      clear hPc hDc hFc hP1 hD1 hk1 hz1
      generalize H1 = H at hP hS ⊢
      have hP : va_P D CL [(xq, .inl (cJ, 1, .inr (.inl (fun _ => 0))))] H := hP
      have hD : va_D A [(xq, .inl (cJ, 1, .inr (.inl (fun _ => 0))))] := hD
      refine W.eq (g2 := F0 m 760 ls [.int 1]) (by rw [show r757 = 1 from hp_757]) ?_
      refine lv_iload hx hb d_law_760 (lv_at hl 1 rfl) ?_
      refine lv_icmp_eq (tgt := 767) hx hb d_law_762 (by decide) (fun h_762 => ?_) (fun h_762 => absurd (by decide) h_762)
      refine lv_iload hx hb d_law_767 (lv_at hl 1 rfl) ?_
      refine lv_if_ne (tgt := 784) hx hb d_law_769 (by decide) (fun h_769 => ?_) (fun h_769 => absurd h_769 (by decide))
      refine lv_goto (tgt := 855) hx hb d_law_784 (by decide) ?_
      refine lv_iinc (v := 6) hx hb d_law_855 hl (k := 2) rfl (by decide) (by decide) rfl (fun ls hl => ?_)
      have hl : lv_has ls 7 [(4, .int 6), (6, .int r751), (5, .int 1), (3, .ref xq), (2, .ref xm), (1, .ref xd), (0, .ref b)] := hl
      refine lv_goto (tgt := 23) hx hb d_law_858 (by decide) ?_
      refine lv_iload hx hb d_law_23 (lv_at hl 0 rfl) ?_
      refine lv_aload_n hx hb d_law_25 rfl (lv_at hl 6 rfl) ?_
      refine va_slen hx hb hX hbl hbA hS d_law_26 ?_
      refine W.eq (g2 := F0 m 27 ls [.int 6, .int 6]) rfl ?_
      refine lv_bipush (v := 6) hx hb d_law_27 (by decide) ?_
      refine lv_isub hx hb d_law_29 ?_
      refine W.eq (g2 := F0 m 30 ls [.int 0, .int 6]) (by rw [show ((6 - 6) : Int32) = 0 from by decide]) ?_
      refine lv_icmp_gt (tgt := 861) hx hb d_law_30 (by decide) (fun h_30 => ?_) (fun h_30 => absurd (by decide) h_30)
      refine lv_iconst (v := 1) hx hb d_law_861 (by decide) ?_
      refine va_forget (fun q hq => by have h9 := hS.2.2 q hq; rw [hAe] at h9; exact h9) ?_
      refine W.widen (k := 600002) (n := 7302232) (by decide) (by decide) ?_
      exact lw_ret hx hb hr hlocks d_law_862
    · skip
      refine lv_tableIn (off := 747) (tgt := 787) hx hb d_law_40 (by decide) (by decide) (by decide) (by decide) ?_
      have hP := hP.sub (ws' := [(xd, .inr (0, [.ref tx, .ref tr, .ref im, .ref mkr, .ref rd])), (rd, .inr (7, [.ref im, .ref rp, .ref rr, .int 0, .int 0, .int 0])), (xm, .inr (11, [.int 0, .ref atext, .int 0, .int 1, .ref akind, .ref aparent, .ref amode, .ref aowner, .ref agroup, .ref asize, .ref aseed, .ref aname, .ref anameSize, .ref atarget, .ref atargetSize, .ref abase, .ref abaseSize, .ref aextension, .ref aextensionSize, .ref aimage, .int 0, .ref atable, .ref asector, .ref asectors, .ref acontents, .int 0, .int 0, .int 0, .int 0, .ref aabove, .ref aisDirectory, .ref abytes, .ref aplace, .ref areadMode, .ref areadOwner, .ref areadGroup, .ref areadName, .ref areadNameSize, .ref areadTarget, .ref areadTargetSize, .ref adepth, .int 0, .int 0, .int 0, .int 0, .int 0, .int 0, .int 0])), (xq, .inl (cJ, 1, .inr (.inl (fun _ => 0))))]) [0, 31, 34, 68] rfl
      have hD := hD.sub (ws' := [(xd, .inr (0, [.ref tx, .ref tr, .ref im, .ref mkr, .ref rd])), (rd, .inr (7, [.ref im, .ref rp, .ref rr, .int 0, .int 0, .int 0])), (xm, .inr (11, [.int 0, .ref atext, .int 0, .int 1, .ref akind, .ref aparent, .ref amode, .ref aowner, .ref agroup, .ref asize, .ref aseed, .ref aname, .ref anameSize, .ref atarget, .ref atargetSize, .ref abase, .ref abaseSize, .ref aextension, .ref aextensionSize, .ref aimage, .int 0, .ref atable, .ref asector, .ref asectors, .ref acontents, .int 0, .int 0, .int 0, .int 0, .ref aabove, .ref aisDirectory, .ref abytes, .ref aplace, .ref areadMode, .ref areadOwner, .ref areadGroup, .ref areadName, .ref areadNameSize, .ref areadTarget, .ref areadTargetSize, .ref adepth, .int 0, .int 0, .int 0, .int 0, .int 0, .int 0, .int 0])), (xq, .inl (cJ, 1, .inr (.inl (fun _ => 0))))]) [0, 31, 34, 68] (by decide) rfl
      refine lv_aload_n hx hb d_law_787 rfl (lv_at hl 3 rfl) ?_
      refine lv_aload_n hx hb d_law_788 rfl (lv_at hl 4 rfl) ?_
      refine lv_iload hx hb d_law_789 (lv_at hl 0 rfl) ?_
      refine lv_iconst (v := 1) hx hb d_law_791 (by decide) ?_
      refine lv_iadd hx hb d_law_792 ?_
      refine W.eq (g2 := F0 m 793 ls [.int 1, .ref b, .ref xd]) (by rw [show ((0 + 1) : Int32) = 1 from by decide]) ?_
      refine va_sld hx hb hX hbl hbA hS (by unfold vp_in; decide) d_law_793 ?_
      refine W.eq (g2 := F0 m 794 ls [.int (xs 1), .ref xd]) rfl ?_
      refine lv_aload_n hx hb d_law_794 rfl (lv_at hl 4 rfl) ?_
      refine lv_iload hx hb d_law_795 (lv_at hl 0 rfl) ?_
      refine lv_iconst (v := 2) hx hb d_law_797 (by decide) ?_
      refine lv_iadd hx hb d_law_798 ?_
      refine W.eq (g2 := F0 m 799 ls [.int 2, .ref b, .int (xs 1), .ref xd]) (by rw [show ((0 + 2) : Int32) = 2 from by decide]) ?_
      refine va_sld hx hb hX hbl hbA hS (by unfold vp_in; decide) d_law_799 ?_
      refine W.eq (g2 := F0 m 800 ls [.int (xs 2), .int (xs 1), .ref xd]) rfl ?_
      refine lv_aload_n hx hb d_law_800 rfl (lv_at hl 1 rfl) ?_
      have hPc := hP.sub (ws' := [(xd, .inr (0, [.ref tx, .ref tr, .ref im, .ref mkr, .ref rd])), (rd, .inr (7, [.ref im, .ref rp, .ref rr, .int 0, .int 0, .int 0])), (xq, .inl (cJ, 1, .inr (.inl (fun _ => 0))))]) [0, 1, 3] rfl
      have hDc := hD.sub (ws' := [(xd, .inr (0, [.ref tx, .ref tr, .ref im, .ref mkr, .ref rd])), (rd, .inr (7, [.ref im, .ref rp, .ref rr, .int 0, .int 0, .int 0])), (xq, .inl (cJ, 1, .inr (.inl (fun _ => 0))))]) [0, 1, 3] (by decide) rfl
      have hFc := va_free (wc := [(xd, .inr (0, [.ref tx, .ref tr, .ref im, .ref mkr, .ref rd])), (rd, .inr (7, [.ref im, .ref rp, .ref rr, .int 0, .int 0, .int 0])), (xq, .inl (cJ, 1, .inr (.inl (fun _ => 0))))]) hD hS hA [0, 1, 3] rfl
      have hkc : 70 ≤ 600002 := by decide
      have hks : 105311 ≤ 7302232 := by decide
      refine va_calli (zz_runSW (n := 4) (As := [.ref xd, .int (xs 1), .int (xs 2), .ref xq]) (rest := []) ⟨hx, hb, hml, hown, hts⟩ (c_l_read l htl D cB cI cJ cZ cN cF H.size xd tx tr im mkr rd rp rr xq (fun _ => 0) (xs 1) (xs 2)) (lg_good kc_DiscMakerLaw_read) rfl rfl rfl (ht9 _ k1416) (ht9 _ k1417) (ht9 _ k114) (by decide +kernel) ⟨Nat.le_of_ble_eq_true rfl, Nat.le_of_ble_eq_true rfl⟩ ⟨fun a U g mk q => by obtain ⟨q0, q1, qP, qK, qN, qD, qZ⟩ := q; exact ⟨q0, q1, qP, va_K.moved (u := U) (U := U.calling g mk a) (Vm.Alike.refl U.vm) qK, qN.calling, qD, TX_blind qZ⟩, fun U hU hW => ⟨rfl, by rw [hU], by rw [hU]; exact hPc, va_K.moved hW.alike hK, NN.warm hW hN, hDc.weaken (fun _ _ _ _ => trivial), TX_pass (hTX) hS hFc hW.alike hU⟩⟩ rfl rfl hl.1 rfl (lv_room (Nat.le_of_ble_eq_true rfl)) d_law_801 ⟨hkc, hks⟩) hS (fun q _ h => hFc q h) hFc (fun r801 u t H1 locs ht hvm hp_801 hB hz1 hk1 hS => ?_)
      obtain ⟨hP1, hD1⟩ := hB
      rw [ht] at hP1
      try dsimp only at hp_801
      obtain ⟨hP, hD⟩ := va_join (wr := [(xm, .inr (11, [.int 0, .ref atext, .int 0, .int 1, .ref akind, .ref aparent, .ref amode, .ref aowner, .ref agroup, .ref asize, .ref aseed, .ref aname, .ref anameSize, .ref atarget, .ref atargetSize, .ref abase, .ref abaseSize, .ref aextension, .ref aextensionSize, .ref aimage, .int 0, .ref atable, .ref asector, .ref asectors, .ref acontents, .int 0, .int 0, .int 0, .int 0, .ref aabove, .ref aisDirectory, .ref abytes, .ref aplace, .ref areadMode, .ref areadOwner, .ref areadGroup, .ref areadName, .ref areadNameSize, .ref areadTarget, .ref areadTargetSize, .ref adepth, .int 0, .int 0, .int 0, .int 0, .int 0, .int 0, .int 0]))]) (w1 := [(xq, .inl (cJ, 1, .inr (.inl (fun _ => 0))))]) hP hD [0, 1, 3] [2] rfl rfl (by decide) (by decide) hk1 hFc hP1 hD1
      clear hPc hDc hFc hP1 hD1 hk1 hz1
      generalize H1 = H at hP hS ⊢
      have hP : va_P D CL [(xm, .inr (11, [.int 0, .ref atext, .int 0, .int 1, .ref akind, .ref aparent, .ref amode, .ref aowner, .ref agroup, .ref asize, .ref aseed, .ref aname, .ref anameSize, .ref atarget, .ref atargetSize, .ref abase, .ref abaseSize, .ref aextension, .ref aextensionSize, .ref aimage, .int 0, .ref atable, .ref asector, .ref asectors, .ref acontents, .int 0, .int 0, .int 0, .int 0, .ref aabove, .ref aisDirectory, .ref abytes, .ref aplace, .ref areadMode, .ref areadOwner, .ref areadGroup, .ref areadName, .ref areadNameSize, .ref areadTarget, .ref areadTargetSize, .ref adepth, .int 0, .int 0, .int 0, .int 0, .int 0, .int 0, .int 0])), (xq, .inl (cJ, 1, .inr (.inl (fun _ => 0))))] H := hP
      have hD : va_D A [(xm, .inr (11, [.int 0, .ref atext, .int 0, .int 1, .ref akind, .ref aparent, .ref amode, .ref aowner, .ref agroup, .ref asize, .ref aseed, .ref aname, .ref anameSize, .ref atarget, .ref atargetSize, .ref abase, .ref abaseSize, .ref aextension, .ref aextensionSize, .ref aimage, .int 0, .ref atable, .ref asector, .ref asectors, .ref acontents, .int 0, .int 0, .int 0, .int 0, .ref aabove, .ref aisDirectory, .ref abytes, .ref aplace, .ref areadMode, .ref areadOwner, .ref areadGroup, .ref areadName, .ref areadNameSize, .ref areadTarget, .ref areadTargetSize, .ref adepth, .int 0, .int 0, .int 0, .int 0, .int 0, .int 0, .int 0])), (xq, .inl (cJ, 1, .inr (.inl (fun _ => 0))))] := hD
      refine W.widen (k := 70) (n := 105311) (by decide) (by decide) ?_
      refine W.eq (g2 := F0 m 804 ls [.int 1]) (by rw [show r801 = 1 from hp_801]) ?_
      refine lv_istore hx hb d_law_804 hl (by decide) rfl (fun ls hl => ?_)
      have hl : lv_has ls 7 [(5, .int 1), (4, .int 0), (3, .ref xq), (2, .ref xm), (1, .ref xd), (0, .ref b)] := hl
      refine lv_aload_n hx hb d_law_806 rfl (lv_at hl 3 rfl) ?_
      refine lv_aload_n hx hb d_law_807 rfl (lv_at hl 5 rfl) ?_
      refine lv_iload hx hb d_law_808 (lv_at hl 1 rfl) ?_
      refine lv_iconst (v := 1) hx hb d_law_810 (by decide) ?_
      refine lv_iadd hx hb d_law_811 ?_
      refine W.eq (g2 := F0 m 812 ls [.int 1, .ref b, .ref xm]) (by rw [show ((0 + 1) : Int32) = 1 from by decide]) ?_
      refine va_sld hx hb hX hbl hbA hS (by unfold vp_in; decide) d_law_812 ?_
      refine W.eq (g2 := F0 m 813 ls [.int (xs 1), .ref xm]) rfl ?_
      refine lv_aload_n hx hb d_law_813 rfl (lv_at hl 5 rfl) ?_
      refine lv_iload hx hb d_law_814 (lv_at hl 1 rfl) ?_
      refine lv_iconst (v := 2) hx hb d_law_816 (by decide) ?_
      refine lv_iadd hx hb d_law_817 ?_
      refine W.eq (g2 := F0 m 818 ls [.int 2, .ref b, .int (xs 1), .ref xm]) (by rw [show ((0 + 2) : Int32) = 2 from by decide]) ?_
      refine va_sld hx hb hX hbl hbA hS (by unfold vp_in; decide) d_law_818 ?_
      refine W.eq (g2 := F0 m 819 ls [.int (xs 2), .int (xs 1), .ref xm]) rfl ?_
      have hPc := hP.sub (ws' := [(xm, .inr (11, [.int 0, .ref atext, .int 0, .int 1, .ref akind, .ref aparent, .ref amode, .ref aowner, .ref agroup, .ref asize, .ref aseed, .ref aname, .ref anameSize, .ref atarget, .ref atargetSize, .ref abase, .ref abaseSize, .ref aextension, .ref aextensionSize, .ref aimage, .int 0, .ref atable, .ref asector, .ref asectors, .ref acontents, .int 0, .int 0, .int 0, .int 0, .ref aabove, .ref aisDirectory, .ref abytes, .ref aplace, .ref areadMode, .ref areadOwner, .ref areadGroup, .ref areadName, .ref areadNameSize, .ref areadTarget, .ref areadTargetSize, .ref adepth, .int 0, .int 0, .int 0, .int 0, .int 0, .int 0, .int 0]))]) [0] rfl
      have hDc := hD.sub (ws' := [(xm, .inr (11, [.int 0, .ref atext, .int 0, .int 1, .ref akind, .ref aparent, .ref amode, .ref aowner, .ref agroup, .ref asize, .ref aseed, .ref aname, .ref anameSize, .ref atarget, .ref atargetSize, .ref abase, .ref abaseSize, .ref aextension, .ref aextensionSize, .ref aimage, .int 0, .ref atable, .ref asector, .ref asectors, .ref acontents, .int 0, .int 0, .int 0, .int 0, .ref aabove, .ref aisDirectory, .ref abytes, .ref aplace, .ref areadMode, .ref areadOwner, .ref areadGroup, .ref areadName, .ref areadNameSize, .ref areadTarget, .ref areadTargetSize, .ref adepth, .int 0, .int 0, .int 0, .int 0, .int 0, .int 0, .int 0]))]) [0] (by decide) rfl
      have hFc := va_free (wc := [(xm, .inr (11, [.int 0, .ref atext, .int 0, .int 1, .ref akind, .ref aparent, .ref amode, .ref aowner, .ref agroup, .ref asize, .ref aseed, .ref aname, .ref anameSize, .ref atarget, .ref atargetSize, .ref abase, .ref abaseSize, .ref aextension, .ref aextensionSize, .ref aimage, .int 0, .ref atable, .ref asector, .ref asectors, .ref acontents, .int 0, .int 0, .int 0, .int 0, .ref aabove, .ref aisDirectory, .ref abytes, .ref aplace, .ref areadMode, .ref areadOwner, .ref areadGroup, .ref areadName, .ref areadNameSize, .ref areadTarget, .ref areadTargetSize, .ref adepth, .int 0, .int 0, .int 0, .int 0, .int 0, .int 0, .int 0]))]) hD hS hA [0] rfl
      have hkc : 70 ≤ 600002 := by decide
      have hks : 105311 ≤ 7302232 := by decide
      refine va_calli (va_runV (C := "DiscMakerModel") (As := [.int (xs 1), .int (xs 2)]) (rest := []) ⟨hx, hb, hml, hown, hts⟩ (c_m_read l D cB cI cJ cZ cN cF H.size xm atext akind aparent amode aowner agroup asize aseed aname anameSize atarget atargetSize abase abaseSize aextension aextensionSize aimage atable asector asectors acontents aabove aisDirectory abytes aplace areadMode areadOwner areadGroup areadName areadNameSize areadTarget areadTargetSize adepth (xs 1) (xs 2)) (cwV 2 hts (lg_goodV k1915 k1916 k1917 k125 kc_DiscMakerModel_read) rfl rfl rfl (by decide +kernel) ⟨Nat.le_of_ble_eq_true rfl, Nat.le_of_ble_eq_true rfl⟩) ⟨fun a U g mk q => by obtain ⟨q0, q1, qP, qK, qN, qD⟩ := q; exact ⟨q0, q1, qP, va_K.moved (u := U) (U := U.calling g mk a) (Vm.Alike.refl U.vm) qK, qN.calling, qD⟩, va_recv hK hP (ci := 11) (q0 := 0) rfl rfl, fun U hU hW => ⟨rfl, by rw [hU], by rw [hU]; exact hPc, va_K.moved hW.alike hK, NN.warm hW hN, hDc.weaken (fun _ _ _ _ => trivial)⟩⟩ rfl rfl hl.1 rfl (lv_room (Nat.le_of_ble_eq_true rfl)) d_law_819 ⟨hkc, hks⟩) hS (fun q _ h => hFc q h) hFc (fun r819 u t H1 locs ht hvm hp_819 hB hz1 hk1 hS => ?_)
      obtain ⟨hP1, hD1⟩ := hB
      rw [ht] at hP1
      obtain ⟨hP, hD⟩ := va_join (wr := [(xq, .inl (cJ, 1, .inr (.inl (fun _ => 0))))]) (w1 := [(xm, .inr (11, [.int 1, .ref atext, .int 0, .int 1, .ref akind, .ref aparent, .ref amode, .ref aowner, .ref agroup, .ref asize, .ref aseed, .ref aname, .ref anameSize, .ref atarget, .ref atargetSize, .ref abase, .ref abaseSize, .ref aextension, .ref aextensionSize, .ref aimage, .int 0, .ref atable, .ref asector, .ref asectors, .ref acontents, .int 0, .int 0, .int 0, .int 0, .ref aabove, .ref aisDirectory, .ref abytes, .ref aplace, .ref areadMode, .ref areadOwner, .ref areadGroup, .ref areadName, .ref areadNameSize, .ref areadTarget, .ref areadTargetSize, .ref adepth, .int 0, .int 0, .int 0, .int 0, .int 0, .int 0, .int 0]))]) hP hD [0] [1] rfl rfl (by decide) (by decide) hk1 hFc hP1 hD1
      clear hPc hDc hFc hP1 hD1 hk1 hz1
      generalize H1 = H at hP hS ⊢
      have hP : va_P D CL [(xq, .inl (cJ, 1, .inr (.inl (fun _ => 0)))), (xm, .inr (11, [.int 1, .ref atext, .int 0, .int 1, .ref akind, .ref aparent, .ref amode, .ref aowner, .ref agroup, .ref asize, .ref aseed, .ref aname, .ref anameSize, .ref atarget, .ref atargetSize, .ref abase, .ref abaseSize, .ref aextension, .ref aextensionSize, .ref aimage, .int 0, .ref atable, .ref asector, .ref asectors, .ref acontents, .int 0, .int 0, .int 0, .int 0, .ref aabove, .ref aisDirectory, .ref abytes, .ref aplace, .ref areadMode, .ref areadOwner, .ref areadGroup, .ref areadName, .ref areadNameSize, .ref areadTarget, .ref areadTargetSize, .ref adepth, .int 0, .int 0, .int 0, .int 0, .int 0, .int 0, .int 0]))] H := hP
      have hD : va_D A [(xq, .inl (cJ, 1, .inr (.inl (fun _ => 0)))), (xm, .inr (11, [.int 1, .ref atext, .int 0, .int 1, .ref akind, .ref aparent, .ref amode, .ref aowner, .ref agroup, .ref asize, .ref aseed, .ref aname, .ref anameSize, .ref atarget, .ref atargetSize, .ref abase, .ref abaseSize, .ref aextension, .ref aextensionSize, .ref aimage, .int 0, .ref atable, .ref asector, .ref asectors, .ref acontents, .int 0, .int 0, .int 0, .int 0, .ref aabove, .ref aisDirectory, .ref abytes, .ref aplace, .ref areadMode, .ref areadOwner, .ref areadGroup, .ref areadName, .ref areadNameSize, .ref areadTarget, .ref areadTargetSize, .ref adepth, .int 0, .int 0, .int 0, .int 0, .int 0, .int 0, .int 0]))] := hD
      refine lv_istore hx hb d_law_822 hl (by decide) rfl (fun ls hl => ?_)
      have hl : lv_has ls 7 [(6, .int r819), (5, .int 1), (4, .int 0), (3, .ref xq), (2, .ref xm), (1, .ref xd), (0, .ref b)] := hl
      refine lv_aload_n hx hb d_law_824 rfl (lv_at hl 4 rfl) ?_
      have hPc := hP.sub (ws' := [(xm, .inr (11, [.int 1, .ref atext, .int 0, .int 1, .ref akind, .ref aparent, .ref amode, .ref aowner, .ref agroup, .ref asize, .ref aseed, .ref aname, .ref anameSize, .ref atarget, .ref atargetSize, .ref abase, .ref abaseSize, .ref aextension, .ref aextensionSize, .ref aimage, .int 0, .ref atable, .ref asector, .ref asectors, .ref acontents, .int 0, .int 0, .int 0, .int 0, .ref aabove, .ref aisDirectory, .ref abytes, .ref aplace, .ref areadMode, .ref areadOwner, .ref areadGroup, .ref areadName, .ref areadNameSize, .ref areadTarget, .ref areadTargetSize, .ref adepth, .int 0, .int 0, .int 0, .int 0, .int 0, .int 0, .int 0]))]) [1] rfl
      have hDc := hD.sub (ws' := [(xm, .inr (11, [.int 1, .ref atext, .int 0, .int 1, .ref akind, .ref aparent, .ref amode, .ref aowner, .ref agroup, .ref asize, .ref aseed, .ref aname, .ref anameSize, .ref atarget, .ref atargetSize, .ref abase, .ref abaseSize, .ref aextension, .ref aextensionSize, .ref aimage, .int 0, .ref atable, .ref asector, .ref asectors, .ref acontents, .int 0, .int 0, .int 0, .int 0, .ref aabove, .ref aisDirectory, .ref abytes, .ref aplace, .ref areadMode, .ref areadOwner, .ref areadGroup, .ref areadName, .ref areadNameSize, .ref areadTarget, .ref areadTargetSize, .ref adepth, .int 0, .int 0, .int 0, .int 0, .int 0, .int 0, .int 0]))]) [1] (by decide) rfl
      have hFc := va_free (wc := [(xm, .inr (11, [.int 1, .ref atext, .int 0, .int 1, .ref akind, .ref aparent, .ref amode, .ref aowner, .ref agroup, .ref asize, .ref aseed, .ref aname, .ref anameSize, .ref atarget, .ref atargetSize, .ref abase, .ref abaseSize, .ref aextension, .ref aextensionSize, .ref aimage, .int 0, .ref atable, .ref asector, .ref asectors, .ref acontents, .int 0, .int 0, .int 0, .int 0, .ref aabove, .ref aisDirectory, .ref abytes, .ref aplace, .ref areadMode, .ref areadOwner, .ref areadGroup, .ref areadName, .ref areadNameSize, .ref areadTarget, .ref areadTargetSize, .ref adepth, .int 0, .int 0, .int 0, .int 0, .int 0, .int 0, .int 0]))]) hD hS hA [1] rfl
      have hkc : 70 ≤ 600002 := by decide
      have hks : 105311 ≤ 7302232 := by decide
      refine va_calli (va_runV (C := "DiscMakerModel") (As := []) (rest := []) ⟨hx, hb, hml, hown, hts⟩ (c_m_thrown l D cB cI cJ cZ cN cF H.size xm atext akind aparent amode aowner agroup asize aseed aname anameSize atarget atargetSize abase abaseSize aextension aextensionSize aimage atable asector asectors acontents aabove aisDirectory abytes aplace areadMode areadOwner areadGroup areadName areadNameSize areadTarget areadTargetSize adepth 1 0) (cwV 0 hts (lg_goodV k1578 k1579 k1580 k125 kc_DiscMakerModel_thrown) rfl rfl rfl (by decide +kernel) ⟨Nat.le_of_ble_eq_true rfl, Nat.le_of_ble_eq_true rfl⟩) ⟨fun a U g mk q => by obtain ⟨q0, q1, qP, qK, qN, qD⟩ := q; exact ⟨q0, q1, qP, va_K.moved (u := U) (U := U.calling g mk a) (Vm.Alike.refl U.vm) qK, qN.calling, qD⟩, va_recv hK hP (ci := 11) (q0 := 1) rfl rfl, fun U hU hW => ⟨rfl, by rw [hU], by rw [hU]; exact hPc, va_K.moved hW.alike hK, NN.warm hW hN, hDc.weaken (fun _ _ _ _ => trivial)⟩⟩ rfl rfl hl.1 rfl (lv_room (Nat.le_of_ble_eq_true rfl)) d_law_825 ⟨hkc, hks⟩) hS (fun q _ h => hFc q h) hFc (fun r825 u t H1 locs ht hvm hp_825 hB hz1 hk1 hS => ?_)
      obtain ⟨hP1, hD1⟩ := hB
      rw [ht] at hP1
      try dsimp only at hp_825
      obtain ⟨hP, hD⟩ := va_join (wr := [(xq, .inl (cJ, 1, .inr (.inl (fun _ => 0))))]) (w1 := []) hP hD [1] [0] rfl rfl (by decide) (by decide) hk1 hFc hP1 hD1
      clear hPc hDc hFc hP1 hD1 hk1 hz1
      generalize H1 = H at hP hS ⊢
      have hP : va_P D CL [(xq, .inl (cJ, 1, .inr (.inl (fun _ => 0))))] H := hP
      have hD : va_D A [(xq, .inl (cJ, 1, .inr (.inl (fun _ => 0))))] := hD
      refine W.eq (g2 := F0 m 828 ls [.int 1]) (by rw [show r825 = 1 from hp_825]) ?_
      refine lv_iload hx hb d_law_828 (lv_at hl 1 rfl) ?_
      refine lv_icmp_eq (tgt := 835) hx hb d_law_830 (by decide) (fun h_830 => ?_) (fun h_830 => absurd (by decide) h_830)
      refine lv_iload hx hb d_law_835 (lv_at hl 1 rfl) ?_
      refine lv_if_ne (tgt := 852) hx hb d_law_837 (by decide) (fun h_837 => ?_) (fun h_837 => absurd h_837 (by decide))
      refine lv_goto (tgt := 855) hx hb d_law_852 (by decide) ?_
      refine lv_iinc (v := 6) hx hb d_law_855 hl (k := 2) rfl (by decide) (by decide) rfl (fun ls hl => ?_)
      have hl : lv_has ls 7 [(4, .int 6), (6, .int r819), (5, .int 1), (3, .ref xq), (2, .ref xm), (1, .ref xd), (0, .ref b)] := hl
      refine lv_goto (tgt := 23) hx hb d_law_858 (by decide) ?_
      refine lv_iload hx hb d_law_23 (lv_at hl 0 rfl) ?_
      refine lv_aload_n hx hb d_law_25 rfl (lv_at hl 6 rfl) ?_
      refine va_slen hx hb hX hbl hbA hS d_law_26 ?_
      refine W.eq (g2 := F0 m 27 ls [.int 6, .int 6]) rfl ?_
      refine lv_bipush (v := 6) hx hb d_law_27 (by decide) ?_
      refine lv_isub hx hb d_law_29 ?_
      refine W.eq (g2 := F0 m 30 ls [.int 0, .int 6]) (by rw [show ((6 - 6) : Int32) = 0 from by decide]) ?_
      refine lv_icmp_gt (tgt := 861) hx hb d_law_30 (by decide) (fun h_30 => ?_) (fun h_30 => absurd (by decide) h_30)
      refine lv_iconst (v := 1) hx hb d_law_861 (by decide) ?_
      refine va_forget (fun q hq => by have h9 := hS.2.2 q hq; rw [hAe] at h9; exact h9) ?_
      refine W.widen (k := 600002) (n := 7302232) (by decide) (by decide) ?_
      exact lw_ret hx hb hr hlocks d_law_862
