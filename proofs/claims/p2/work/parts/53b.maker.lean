theorem d_Maker_passRecord_0 : decode b_Maker_passRecord 0 = .ok (.aload_n 0, 1) := by decide +kernel
theorem d_Maker_passRecord_1 : decode b_Maker_passRecord 1 = .ok (.aload_n 1, 1) := by decide +kernel
theorem d_Maker_passRecord_2 : decode b_Maker_passRecord 2 = .ok (.aload_n 2, 1) := by decide +kernel
theorem d_Maker_passRecord_3 : decode b_Maker_passRecord 3 = .ok (.iload_n 3, 1) := by decide +kernel
theorem d_Maker_passRecord_4 : decode b_Maker_passRecord 4 = .ok (.invokevirtual 156, 3) := by decide +kernel
theorem d_Maker_passRecord_7 : decode b_Maker_passRecord 7 = .ok (.bipush 33, 2) := by decide +kernel
theorem d_Maker_passRecord_9 : decode b_Maker_passRecord 9 = .ok (.aload_n 0, 1) := by decide +kernel
theorem d_Maker_passRecord_10 : decode b_Maker_passRecord 10 = .ok (.getfield 35, 3) := by decide +kernel
theorem d_Maker_passRecord_13 : decode b_Maker_passRecord 13 = .ok (.getfield 60, 3) := by decide +kernel
theorem d_Maker_passRecord_16 : decode b_Maker_passRecord 16 = .ok (.iadd, 1) := by decide +kernel
theorem d_Maker_passRecord_17 : decode b_Maker_passRecord 17 = .ok (.invokestatic 159, 3) := by decide +kernel
theorem d_Maker_passRecord_20 : decode b_Maker_passRecord 20 = .ok (.istore 4, 2) := by decide +kernel
theorem d_Maker_passRecord_22 : decode b_Maker_passRecord 22 = .ok (.aload_n 0, 1) := by decide +kernel
theorem d_Maker_passRecord_23 : decode b_Maker_passRecord 23 = .ok (.getfield 26, 3) := by decide +kernel
theorem d_Maker_passRecord_26 : decode b_Maker_passRecord 26 = .ok (.invokevirtual 50, 3) := by decide +kernel
theorem d_Maker_passRecord_29 : decode b_Maker_passRecord 29 = .ok (.aload_n 1, 1) := by decide +kernel
theorem d_Maker_passRecord_30 : decode b_Maker_passRecord 30 = .ok (.getfield 162, 3) := by decide +kernel
theorem d_Maker_passRecord_33 : decode b_Maker_passRecord 33 = .ok (.ifCond .ne 22, 3) := by decide +kernel
theorem d_Maker_passRecord_36 : decode b_Maker_passRecord 36 = .ok (.aload_n 0, 1) := by decide +kernel
theorem d_Maker_passRecord_37 : decode b_Maker_passRecord 37 = .ok (.aload_n 2, 1) := by decide +kernel
theorem d_Maker_passRecord_38 : decode b_Maker_passRecord 38 = .ok (.iload_n 3, 1) := by decide +kernel
theorem d_Maker_passRecord_39 : decode b_Maker_passRecord 39 = .ok (.invokevirtual 165, 3) := by decide +kernel
theorem d_Maker_passRecord_42 : decode b_Maker_passRecord 42 = .ok (.aload_n 0, 1) := by decide +kernel
theorem d_Maker_passRecord_43 : decode b_Maker_passRecord 43 = .ok (.getfield 26, 3) := by decide +kernel
theorem d_Maker_passRecord_46 : decode b_Maker_passRecord 46 = .ok (.sipush 254, 3) := by decide +kernel
theorem d_Maker_passRecord_49 : decode b_Maker_passRecord 49 = .ok (.iload 4, 2) := by decide +kernel
theorem d_Maker_passRecord_51 : decode b_Maker_passRecord 51 = .ok (.isub, 1) := by decide +kernel
theorem d_Maker_passRecord_52 : decode b_Maker_passRecord 52 = .ok (.invokevirtual 169, 3) := by decide +kernel
theorem d_Maker_passRecord_55 : decode b_Maker_passRecord 55 = .ok (.iload 4, 2) := by decide +kernel
theorem d_Maker_passRecord_57 : decode b_Maker_passRecord 57 = .ok (.aload_n 0, 1) := by decide +kernel
theorem d_Maker_passRecord_58 : decode b_Maker_passRecord 58 = .ok (.getfield 26, 3) := by decide +kernel
theorem d_Maker_passRecord_61 : decode b_Maker_passRecord 61 = .ok (.invokevirtual 172, 3) := by decide +kernel
theorem d_Maker_passRecord_64 : decode b_Maker_passRecord 64 = .ok (.invokestatic 159, 3) := by decide +kernel
theorem d_Maker_passRecord_67 : decode b_Maker_passRecord 67 = .ok (.iadd, 1) := by decide +kernel
theorem d_Maker_passRecord_68 : decode b_Maker_passRecord 68 = .ok (.istore 5, 2) := by decide +kernel
theorem d_Maker_passRecord_70 : decode b_Maker_passRecord 70 = .ok (.aload_n 0, 1) := by decide +kernel
theorem d_Maker_passRecord_71 : decode b_Maker_passRecord 71 = .ok (.aload_n 0, 1) := by decide +kernel
theorem d_Maker_passRecord_72 : decode b_Maker_passRecord 72 = .ok (.getfield 116, 3) := by decide +kernel
theorem d_Maker_passRecord_75 : decode b_Maker_passRecord 75 = .ok (.iload 5, 2) := by decide +kernel
theorem d_Maker_passRecord_77 : decode b_Maker_passRecord 77 = .ok (.invokestatic 176, 3) := by decide +kernel
theorem d_Maker_passRecord_80 : decode b_Maker_passRecord 80 = .ok (.putfield 116, 3) := by decide +kernel
theorem d_Maker_passRecord_83 : decode b_Maker_passRecord 83 = .ok (.aload_n 0, 1) := by decide +kernel
theorem d_Maker_passRecord_84 : decode b_Maker_passRecord 84 = .ok (.aload_n 0, 1) := by decide +kernel
theorem d_Maker_passRecord_85 : decode b_Maker_passRecord 85 = .ok (.getfield 72, 3) := by decide +kernel
theorem d_Maker_passRecord_88 : decode b_Maker_passRecord 88 = .ok (.aload_n 0, 1) := by decide +kernel
theorem d_Maker_passRecord_89 : decode b_Maker_passRecord 89 = .ok (.getfield 26, 3) := by decide +kernel
theorem d_Maker_passRecord_92 : decode b_Maker_passRecord 92 = .ok (.invokevirtual 180, 3) := by decide +kernel
theorem d_Maker_passRecord_95 : decode b_Maker_passRecord 95 = .ok (.invokestatic 176, 3) := by decide +kernel
theorem d_Maker_passRecord_98 : decode b_Maker_passRecord 98 = .ok (.putfield 72, 3) := by decide +kernel
theorem d_Maker_passRecord_101 : decode b_Maker_passRecord 101 = .ok (.aload_n 0, 1) := by decide +kernel
theorem d_Maker_passRecord_102 : decode b_Maker_passRecord 102 = .ok (.getfield 68, 3) := by decide +kernel
theorem d_Maker_passRecord_105 : decode b_Maker_passRecord 105 = .ok (.ifCond .eq 26, 3) := by decide +kernel
theorem d_Maker_passRecord_108 : decode b_Maker_passRecord 108 = .ok (.aload_n 0, 1) := by decide +kernel
theorem d_Maker_passRecord_109 : decode b_Maker_passRecord 109 = .ok (.aload_n 1, 1) := by decide +kernel
theorem d_Maker_passRecord_110 : decode b_Maker_passRecord 110 = .ok (.aload_n 2, 1) := by decide +kernel
theorem d_Maker_passRecord_111 : decode b_Maker_passRecord 111 = .ok (.aload_n 0, 1) := by decide +kernel
theorem d_Maker_passRecord_112 : decode b_Maker_passRecord 112 = .ok (.getfield 116, 3) := by decide +kernel
theorem d_Maker_passRecord_115 : decode b_Maker_passRecord 115 = .ok (.iload 5, 2) := by decide +kernel
theorem d_Maker_passRecord_117 : decode b_Maker_passRecord 117 = .ok (.invokevirtual 183, 3) := by decide +kernel
theorem d_Maker_passRecord_120 : decode b_Maker_passRecord 120 = .ok (.aload_n 0, 1) := by decide +kernel
theorem d_Maker_passRecord_121 : decode b_Maker_passRecord 121 = .ok (.aload_n 0, 1) := by decide +kernel
theorem d_Maker_passRecord_122 : decode b_Maker_passRecord 122 = .ok (.getfield 116, 3) := by decide +kernel
theorem d_Maker_passRecord_125 : decode b_Maker_passRecord 125 = .ok (.iload 4, 2) := by decide +kernel
theorem d_Maker_passRecord_127 : decode b_Maker_passRecord 127 = .ok (.iadd, 1) := by decide +kernel
theorem d_Maker_passRecord_128 : decode b_Maker_passRecord 128 = .ok (.invokevirtual 187, 3) := by decide +kernel
theorem d_Maker_passRecord_131 : decode b_Maker_passRecord 131 = .ok (.aload_n 0, 1) := by decide +kernel
theorem d_Maker_passRecord_132 : decode b_Maker_passRecord 132 = .ok (.dup, 1) := by decide +kernel
theorem d_Maker_passRecord_133 : decode b_Maker_passRecord 133 = .ok (.getfield 116, 3) := by decide +kernel
theorem d_Maker_passRecord_136 : decode b_Maker_passRecord 136 = .ok (.iload 5, 2) := by decide +kernel
theorem d_Maker_passRecord_138 : decode b_Maker_passRecord 138 = .ok (.iadd, 1) := by decide +kernel
theorem d_Maker_passRecord_139 : decode b_Maker_passRecord 139 = .ok (.putfield 116, 3) := by decide +kernel
theorem d_Maker_passRecord_142 : decode b_Maker_passRecord 142 = .ok (.aload_n 0, 1) := by decide +kernel
theorem d_Maker_passRecord_143 : decode b_Maker_passRecord 143 = .ok (.dup, 1) := by decide +kernel
theorem d_Maker_passRecord_144 : decode b_Maker_passRecord 144 = .ok (.getfield 72, 3) := by decide +kernel
theorem d_Maker_passRecord_147 : decode b_Maker_passRecord 147 = .ok (.aload_n 0, 1) := by decide +kernel
theorem d_Maker_passRecord_148 : decode b_Maker_passRecord 148 = .ok (.getfield 26, 3) := by decide +kernel
theorem d_Maker_passRecord_151 : decode b_Maker_passRecord 151 = .ok (.invokevirtual 180, 3) := by decide +kernel
theorem d_Maker_passRecord_154 : decode b_Maker_passRecord 154 = .ok (.iadd, 1) := by decide +kernel
theorem d_Maker_passRecord_155 : decode b_Maker_passRecord 155 = .ok (.putfield 72, 3) := by decide +kernel
theorem d_Maker_passRecord_158 : decode b_Maker_passRecord 158 = .ok (.return_, 1) := by decide +kernel
set_option maxHeartbeats 4000000 in
set_option maxRecDepth 100000 in
theorem c3_passRecord (l : Launch) (D : va_G) (cB cI cJ cZ cN cF : ClassId) (sz : Nat) (m0 : Nat) (tr : Nat) (im : Nat) (fi : Nat) (se : Nat) (u0 : Nat) (id : Nat) (ct : Nat) (ra : Int32) (ru : Int32) (wg : Int32) (l0 : Nat) (lo : Nat) (lp : Nat) (lt : Nat) (lb : Nat) (le : Nat) (ln : Int32) (lds : Int32) (ltb : Int32) (lc : Int32) (ld : Int32) (fb : Nat → Int32) (fe : Nat → Int32) (pb : Nat) (pq : Nat) (en : Nat) (uc : Int32) (uk : Int32) (pL : Int32) (pf : Nat → Int32) (ef : Nat → Int32) (cc : Nat → Int32) (jq : Nat) (il : Int32) (jf : Nat → Int32) (iq : Nat) (n : Nat) (L : Int32) (f : Nat → Int32) (ta : Nat) (cn : Int32) (dr : Int32) (na : Nat → Nat → Nat) (ng : Nat → Nat → Int32) (nn : Nat → Nat → Nat) (nf : Nat → Nat → Nat → Int32) (cm : Nat) (h0 : Nat) (kna : Nat) (kke : Nat) (kta : Nat) (so : Int32) (nu : Int32) (pa : Int32) (ab : Int32) (mo : Int32) (ow : Int32) (gr : Int32) (si : Int32) (sd : Int32) (l1 : Nat) (c1 : Nat → Int32) (c2 : Nat → Int32) (l3 : Nat) (c3 : Nat → Int32) (td : Nat) (ts : Nat) (tl : Nat) (gd : Nat → Int32) (gs : Nat → Int32) (gl : Nat → Int32) (x : Int32) (hL : 0 ≤ L.toInt ∧ L.toInt ≤ n) (hn : n ≤ 3000000) (hcn : cn.toInt = cm) (hcm : cm ≤ 40) (htok : TOK cm ng nn) (hl1 : l1 ≤ 400) (hl3 : l3 ≤ 400) (hnu : 0 ≤ nu.toInt ∧ nu.toInt < cm) (hra : 0 ≤ ra.toInt ∧ ra.toInt ≤ 50000000) (hru : 0 ≤ ru.toInt ∧ ru.toInt ≤ 50000000) : Met l y_Maker_passRecord w_Maker_passRecord ({ frames := 4, cells := 0, slots := 0, locals := 120 }) (va_Pc [.ref m0, .ref l0, .ref h0, .int x] (fun U => U.heap.size = sz ∧ va_P D CL [(m0, .inr (4, [.ref tr, .ref im, .ref fi, .ref se, .ref u0, .ref id, .ref ct, .int ra, .int ru, .int wg])), (l0, .inr (3, [.int ln, .int lds, .int ltb, .ref lo, .ref lp, .ref lt, .ref lb, .ref le, .int lc, .int ld])), (lb, .inl (cI, 40, .inl fb)), (le, .inl (cI, 40, .inl fe)), (u0, .inr (8, [.ref pb, .ref en, .int uc, .int uk])), (pb, .inr (1, [.ref pq, .int pL])), (pq, .inl (cB, 400, .inl pf)), (en, .inl (cI, 4, .inl ef)), (ct, .inl (cI, 40, .inl cc)), (id, .inr (1, [.ref jq, .int il])), (jq, .inl (cB, 60, .inl jf)), (im, .inr (1, [.ref iq, .int L])), (iq, .inl (cB, n, .inl f))] U.heap ∧ va_K D CL (TY cB cI cJ cZ cN cF) U ∧ NN U ∧ va_D (fun _ => True) [(m0, .inr (4, [.ref tr, .ref im, .ref fi, .ref se, .ref u0, .ref id, .ref ct, .int ra, .int ru, .int wg])), (l0, .inr (3, [.int ln, .int lds, .int ltb, .ref lo, .ref lp, .ref lt, .ref lb, .ref le, .int lc, .int ld])), (lb, .inl (cI, 40, .inl fb)), (le, .inl (cI, 40, .inl fe)), (u0, .inr (8, [.ref pb, .ref en, .int uc, .int uk])), (pb, .inr (1, [.ref pq, .int pL])), (pq, .inl (cB, 400, .inl pf)), (en, .inl (cI, 4, .inl ef)), (ct, .inl (cI, 40, .inl cc)), (id, .inr (1, [.ref jq, .int il])), (jq, .inl (cB, 60, .inl jf)), (im, .inr (1, [.ref iq, .int L])), (iq, .inl (cB, n, .inl f))] ∧ SZ td ts tl gd gs gl (va_A [(m0, .inr (4, [.ref tr, .ref im, .ref fi, .ref se, .ref u0, .ref id, .ref ct, .int ra, .int ru, .int wg])), (l0, .inr (3, [.int ln, .int lds, .int ltb, .ref lo, .ref lp, .ref lt, .ref lb, .ref le, .int lc, .int ld])), (lb, .inl (cI, 40, .inl fb)), (le, .inl (cI, 40, .inl fe)), (u0, .inr (8, [.ref pb, .ref en, .int uc, .int uk])), (pb, .inr (1, [.ref pq, .int pL])), (pq, .inl (cB, 400, .inl pf)), (en, .inl (cI, 4, .inl ef)), (ct, .inl (cI, 40, .inl cc)), (id, .inr (1, [.ref jq, .int il])), (jq, .inl (cB, 60, .inl jf)), (im, .inr (1, [.ref iq, .int L])), (iq, .inl (cB, n, .inl f))] sz) U U.heap ∧ RO D ([(tr, .inr (10, [.ref ta, .int cn, .int dr])), (ta, .inl (cN, 40, .inr (.inr (.inr (.inr (rowF na cm)))))), (h0, .inr (5, [.int so, .ref kna, .ref kke, .ref kta, .int nu, .int pa, .int ab, .int mo, .int ow, .int gr, .int si, .int sd])), (kna, .inl (cB, l1, .inl c1)), (kke, .inl (cB, 11, .inl c2)), (kta, .inl (cB, l3, .inl c3))] ++ (PL (NC cB na ng nn nf) cm)) (va_A [(m0, .inr (4, [.ref tr, .ref im, .ref fi, .ref se, .ref u0, .ref id, .ref ct, .int ra, .int ru, .int wg])), (l0, .inr (3, [.int ln, .int lds, .int ltb, .ref lo, .ref lp, .ref lt, .ref lb, .ref le, .int lc, .int ld])), (lb, .inl (cI, 40, .inl fb)), (le, .inl (cI, 40, .inl fe)), (u0, .inr (8, [.ref pb, .ref en, .int uc, .int uk])), (pb, .inr (1, [.ref pq, .int pL])), (pq, .inl (cB, 400, .inl pf)), (en, .inl (cI, 4, .inl ef)), (ct, .inl (cI, 40, .inl cc)), (id, .inr (1, [.ref jq, .int il])), (jq, .inl (cB, 60, .inl jf)), (im, .inr (1, [.ref iq, .int L])), (iq, .inl (cB, n, .inl f))] sz) U U.heap)) (va_Qv (fun (u : Int32 × Int32 × Int32 × Int32 × Int32 × (Nat → Int32) × (Nat → Int32) × Int32 × (Nat → Int32) × (Nat → Int32)) => match u with | (ra2, ru2, uc2, uk2, L2, pg, eg, il2, jg, g) => (ra.toInt ≤ ra2.toInt ∧ ra2.toInt ≤ ra.toInt + 1046) ∧ (ru.toInt ≤ ru2.toInt ∧ ru2.toInt ≤ ru.toInt + 800) ∧ (ln.toInt ≠ 0 → ra2.toInt ≤ ra.toInt + 200 ∧ ru2.toInt = ru.toInt)) (fun (u : Int32 × Int32 × Int32 × Int32 × Int32 × (Nat → Int32) × (Nat → Int32) × Int32 × (Nat → Int32) × (Nat → Int32)) (t : State) => match u with | (ra2, ru2, uc2, uk2, L2, pg, eg, il2, jg, g) => va_P D CL [(m0, .inr (4, [.ref tr, .ref im, .ref fi, .ref se, .ref u0, .ref id, .ref ct, .int ra2, .int ru2, .int wg])), (l0, .inr (3, [.int ln, .int lds, .int ltb, .ref lo, .ref lp, .ref lt, .ref lb, .ref le, .int lc, .int ld])), (lb, .inl (cI, 40, .inl fb)), (le, .inl (cI, 40, .inl fe)), (u0, .inr (8, [.ref pb, .ref en, .int uc2, .int uk2])), (pb, .inr (1, [.ref pq, .int L2])), (pq, .inl (cB, 400, .inl pg)), (en, .inl (cI, 4, .inl eg)), (ct, .inl (cI, 40, .inl cc)), (id, .inr (1, [.ref jq, .int il2])), (jq, .inl (cB, 60, .inl jg)), (im, .inr (1, [.ref iq, .int L])), (iq, .inl (cB, n, .inl g))] t.heap ∧ va_D (va_A [(m0, .inr (4, [.ref tr, .ref im, .ref fi, .ref se, .ref u0, .ref id, .ref ct, .int ra, .int ru, .int wg])), (l0, .inr (3, [.int ln, .int lds, .int ltb, .ref lo, .ref lp, .ref lt, .ref lb, .ref le, .int lc, .int ld])), (lb, .inl (cI, 40, .inl fb)), (le, .inl (cI, 40, .inl fe)), (u0, .inr (8, [.ref pb, .ref en, .int uc, .int uk])), (pb, .inr (1, [.ref pq, .int pL])), (pq, .inl (cB, 400, .inl pf)), (en, .inl (cI, 4, .inl ef)), (ct, .inl (cI, 40, .inl cc)), (id, .inr (1, [.ref jq, .int il])), (jq, .inl (cB, 60, .inl jf)), (im, .inr (1, [.ref iq, .int L])), (iq, .inl (cB, n, .inl f))] sz) [(m0, .inr (4, [.ref tr, .ref im, .ref fi, .ref se, .ref u0, .ref id, .ref ct, .int ra2, .int ru2, .int wg])), (l0, .inr (3, [.int ln, .int lds, .int ltb, .ref lo, .ref lp, .ref lt, .ref lb, .ref le, .int lc, .int ld])), (lb, .inl (cI, 40, .inl fb)), (le, .inl (cI, 40, .inl fe)), (u0, .inr (8, [.ref pb, .ref en, .int uc2, .int uk2])), (pb, .inr (1, [.ref pq, .int L2])), (pq, .inl (cB, 400, .inl pg)), (en, .inl (cI, 4, .inl eg)), (ct, .inl (cI, 40, .inl cc)), (id, .inr (1, [.ref jq, .int il2])), (jq, .inl (cB, 60, .inl jg)), (im, .inr (1, [.ref iq, .int L])), (iq, .inl (cB, n, .inl g))]) (va_A [(m0, .inr (4, [.ref tr, .ref im, .ref fi, .ref se, .ref u0, .ref id, .ref ct, .int ra, .int ru, .int wg])), (l0, .inr (3, [.int ln, .int lds, .int ltb, .ref lo, .ref lp, .ref lt, .ref lb, .ref le, .int lc, .int ld])), (lb, .inl (cI, 40, .inl fb)), (le, .inl (cI, 40, .inl fe)), (u0, .inr (8, [.ref pb, .ref en, .int uc, .int uk])), (pb, .inr (1, [.ref pq, .int pL])), (pq, .inl (cB, 400, .inl pf)), (en, .inl (cI, 4, .inl ef)), (ct, .inl (cI, 40, .inl cc)), (id, .inr (1, [.ref jq, .int il])), (jq, .inl (cB, 60, .inl jf)), (im, .inr (1, [.ref iq, .int L])), (iq, .inl (cB, n, .inl f))] sz)) 0 0 (va_A [(m0, .inr (4, [.ref tr, .ref im, .ref fi, .ref se, .ref u0, .ref id, .ref ct, .int ra, .int ru, .int wg])), (l0, .inr (3, [.int ln, .int lds, .int ltb, .ref lo, .ref lp, .ref lt, .ref lb, .ref le, .int lc, .int ld])), (lb, .inl (cI, 40, .inl fb)), (le, .inl (cI, 40, .inl fe)), (u0, .inr (8, [.ref pb, .ref en, .int uc, .int uk])), (pb, .inr (1, [.ref pq, .int pL])), (pq, .inl (cB, 400, .inl pf)), (en, .inl (cI, 4, .inl ef)), (ct, .inl (cI, 40, .inl cc)), (id, .inr (1, [.ref jq, .int il])), (jq, .inl (cB, 60, .inl jf)), (im, .inr (1, [.ref iq, .int L])), (iq, .inl (cB, n, .inl f))] sz) := by
  refine Met.ofW (cc := b_Maker_passRecord) (maxL := 6) (ret := none) (by decide) rfl ?_
  intro p e s m args below meth c s₁ B hml hv
  obtain ⟨rfl, hsz, hP, hK, hN, hD0, hZs, hZr⟩ := hv
  have hx := B.exec
  have hb := B.bytes
  have hr := B.returns
  have hts := atoms_spec (ws := w_Maker_passRecord) B.pre
  have ht9 := fun (w : Cond) (h : w ∈ lw_g) => hts w (List.mem_cons_of_mem _ h)
  have hown : s.vm.findClass "DiscMaker$Maker" = some m.cls := findClass_of_methodNamed B.named
  have hlocks := B.notSynchronized
  subst hsz
  have hD := hD0.self (sz := s.heap.size)
  generalize hAe : va_A [(m0, .inr (4, [.ref tr, .ref im, .ref fi, .ref se, .ref u0, .ref id, .ref ct, .int ra, .int ru, .int wg])), (l0, .inr (3, [.int ln, .int lds, .int ltb, .ref lo, .ref lp, .ref lt, .ref lb, .ref le, .int lc, .int ld])), (lb, .inl (cI, 40, .inl fb)), (le, .inl (cI, 40, .inl fe)), (u0, .inr (8, [.ref pb, .ref en, .int uc, .int uk])), (pb, .inr (1, [.ref pq, .int pL])), (pq, .inl (cB, 400, .inl pf)), (en, .inl (cI, 4, .inl ef)), (ct, .inl (cI, 40, .inl cc)), (id, .inr (1, [.ref jq, .int il])), (jq, .inl (cB, 60, .inl jf)), (im, .inr (1, [.ref iq, .int L])), (iq, .inl (cB, n, .inl f))] s.heap.size = A at hD hZs hZr ⊢
  have hA : ∀ q : Nat, s.heap.size ≤ q → A q := fun q h => by rw [← hAe]; exact Or.inr h
  have hS : va_S A s.heap s.heap [] := va_S.rf
  have hP : va_P D CL [(m0, .inr (4, [.ref tr, .ref im, .ref fi, .ref se, .ref u0, .ref id, .ref ct, .int ra, .int ru, .int wg])), (l0, .inr (3, [.int ln, .int lds, .int ltb, .ref lo, .ref lp, .ref lt, .ref lb, .ref le, .int lc, .int ld])), (lb, .inl (cI, 40, .inl fb)), (le, .inl (cI, 40, .inl fe)), (u0, .inr (8, [.ref pb, .ref en, .int uc, .int uk])), (pb, .inr (1, [.ref pq, .int pL])), (pq, .inl (cB, 400, .inl pf)), (en, .inl (cI, 4, .inl ef)), (ct, .inl (cI, 40, .inl cc)), (id, .inr (1, [.ref jq, .int il])), (jq, .inl (cB, 60, .inl jf)), (im, .inr (1, [.ref iq, .int L])), (iq, .inl (cB, n, .inl f))] s.heap := hP
  have hl := lv_entry [.ref m0, .ref l0, .ref h0, .int x] (n := 6) (Nat.le_of_ble_eq_true rfl)
  rw [lg_entry_eq]
  generalize (lg_sl [.ref m0, .ref l0, .ref h0, .int x] ++ List.replicate (6 - (lg_sl [.ref m0, .ref l0, .ref h0, .int x]).length) Slot.unset).toArray = ls at hl ⊢
  have hl : lv_has ls 6 [(0, .ref m0), (1, .ref l0), (2, .ref h0), (3, .int x)] := hl
  have L_m1 : ((-1) : Int32).toInt = (-1) := by decide
  have L_0 : (0 : Int32).toInt = 0 := by decide
  have L_1 : (1 : Int32).toInt = 1 := by decide
  have L_33 : (33 : Int32).toInt = 33 := by decide
  have L_94 : (94 : Int32).toInt = 94 := by decide
  have L_254 : (254 : Int32).toInt = 254 := by decide
  refine lv_aload_n hx hb d_Maker_passRecord_0 rfl (lv_at hl 0 rfl) ?_
  refine lv_aload_n hx hb d_Maker_passRecord_1 rfl (lv_at hl 1 rfl) ?_
  refine lv_aload_n hx hb d_Maker_passRecord_2 rfl (lv_at hl 2 rfl) ?_
  refine lv_iload_n hx hb d_Maker_passRecord_3 rfl (lv_at hl 3 rfl) ?_
  have hPc := hP.sub (ws' := [(m0, .inr (4, [.ref tr, .ref im, .ref fi, .ref se, .ref u0, .ref id, .ref ct, .int ra, .int ru, .int wg])), (l0, .inr (3, [.int ln, .int lds, .int ltb, .ref lo, .ref lp, .ref lt, .ref lb, .ref le, .int lc, .int ld])), (id, .inr (1, [.ref jq, .int il])), (jq, .inl (cB, 60, .inl jf))]) [0, 1, 9, 10] rfl
  have hDc := hD.sub (ws' := [(m0, .inr (4, [.ref tr, .ref im, .ref fi, .ref se, .ref u0, .ref id, .ref ct, .int ra, .int ru, .int wg])), (l0, .inr (3, [.int ln, .int lds, .int ltb, .ref lo, .ref lp, .ref lt, .ref lb, .ref le, .int lc, .int ld])), (id, .inr (1, [.ref jq, .int il])), (jq, .inl (cB, 60, .inl jf))]) [0, 1, 9, 10] (by decide) rfl
  have hFc := va_free (wc := [(m0, .inr (4, [.ref tr, .ref im, .ref fi, .ref se, .ref u0, .ref id, .ref ct, .int ra, .int ru, .int wg])), (l0, .inr (3, [.int ln, .int lds, .int ltb, .ref lo, .ref lp, .ref lt, .ref lb, .ref le, .int lc, .int ld])), (id, .inr (1, [.ref jq, .int il])), (jq, .inl (cB, 60, .inl jf))]) hD hS hA [0, 1, 9, 10] rfl
  have hkc : 0 ≤ 0 := by decide
  have hks : 0 ≤ 0 := by decide
  refine va_callv (va_runV (C := "DiscMaker$Maker") (As := [.ref l0, .ref h0, .int x]) (rest := []) ⟨hx, hb, hml, hown, hts⟩ (c3_Maker_identify l D cB cI cJ cZ cN cF s.heap.size m0 tr im fi se u0 id ct ra ru wg l0 lo lp lt lb le ln lds ltb lc ld jq il jf h0 kna kke kta so nu pa ab mo ow gr si sd l1 c1 c2 x (by (try dsimp only); first | assumption | omega | trivial)) (cwV 3 hts (lg_goodV k972 k974 k18 k120 kc_Maker_identify) rfl rfl rfl (by decide +kernel) ⟨Nat.le_of_ble_eq_true rfl, Nat.le_of_ble_eq_true rfl⟩) ⟨fun a U g mk q => by obtain ⟨q0, q1, qP, qK, qN, qD, qZ0⟩ := q; exact ⟨q0, q1, qP, va_K.moved (u := U) (U := U.calling g mk a) (Vm.Alike.refl U.vm) qK, qN.calling, qD, RO_blind qZ0⟩, va_recv hK hP (ci := 4) (q0 := 0) rfl rfl, fun U hU hW => ⟨rfl, by rw [hU], by rw [hU]; exact hPc, va_K.moved hW.alike hK, NN.warm hW hN, hDc.weaken (fun _ _ _ _ => trivial), (RO_app (w1 := [(h0, .inr (5, [.int so, .ref kna, .ref kke, .ref kta, .int nu, .int pa, .int ab, .int mo, .int ow, .int gr, .int si, .int sd]))]) (w2 := [(kna, .inl (cB, l1, .inl c1)), (kke, .inl (cB, 11, .inl c2))]) (RO_pass (RO_one hZr 2 rfl) hS hFc hU) (RO_app (w1 := [(kna, .inl (cB, l1, .inl c1))]) (w2 := [(kke, .inl (cB, 11, .inl c2))]) (RO_pass (RO_one hZr 3 rfl) hS hFc hU) (RO_pass (RO_one hZr 4 rfl) hS hFc hU)))⟩⟩ rfl rfl hl.1 rfl (lv_room (Nat.le_of_ble_eq_true rfl)) d_Maker_passRecord_4 ⟨hkc, hks⟩) hS (fun q _ h => hFc q h) hFc (fun u t H1 locs ht hvm hp_r1 hB hz1 hk1 hS => ?_)
  obtain ⟨il2_2, g_3⟩ := u
  obtain ⟨hP1, hD1⟩ := hB
  rw [ht] at hP1
  obtain ⟨hP, hD⟩ := va_join (wr := [(lb, .inl (cI, 40, .inl fb)), (le, .inl (cI, 40, .inl fe)), (u0, .inr (8, [.ref pb, .ref en, .int uc, .int uk])), (pb, .inr (1, [.ref pq, .int pL])), (pq, .inl (cB, 400, .inl pf)), (en, .inl (cI, 4, .inl ef)), (ct, .inl (cI, 40, .inl cc)), (im, .inr (1, [.ref iq, .int L])), (iq, .inl (cB, n, .inl f))]) (w1 := [(m0, .inr (4, [.ref tr, .ref im, .ref fi, .ref se, .ref u0, .ref id, .ref ct, .int ra, .int ru, .int wg])), (l0, .inr (3, [.int ln, .int lds, .int ltb, .ref lo, .ref lp, .ref lt, .ref lb, .ref le, .int lc, .int ld])), (id, .inr (1, [.ref jq, .int il2_2])), (jq, .inl (cB, 60, .inl g_3))]) hP hD [0, 1, 9, 10] [2, 3, 4, 5, 6, 7, 8, 11, 12] rfl rfl (by decide) (by decide) hk1 hFc hP1 hD1
  clear hPc hDc hFc hP1 hD1 hk1 hz1
  generalize H1 = H at hP hS ⊢
  have hP : va_P D CL [(lb, .inl (cI, 40, .inl fb)), (le, .inl (cI, 40, .inl fe)), (u0, .inr (8, [.ref pb, .ref en, .int uc, .int uk])), (pb, .inr (1, [.ref pq, .int pL])), (pq, .inl (cB, 400, .inl pf)), (en, .inl (cI, 4, .inl ef)), (ct, .inl (cI, 40, .inl cc)), (im, .inr (1, [.ref iq, .int L])), (iq, .inl (cB, n, .inl f)), (m0, .inr (4, [.ref tr, .ref im, .ref fi, .ref se, .ref u0, .ref id, .ref ct, .int ra, .int ru, .int wg])), (l0, .inr (3, [.int ln, .int lds, .int ltb, .ref lo, .ref lp, .ref lt, .ref lb, .ref le, .int lc, .int ld])), (id, .inr (1, [.ref jq, .int il2_2])), (jq, .inl (cB, 60, .inl g_3))] H := hP
  have hD : va_D A [(lb, .inl (cI, 40, .inl fb)), (le, .inl (cI, 40, .inl fe)), (u0, .inr (8, [.ref pb, .ref en, .int uc, .int uk])), (pb, .inr (1, [.ref pq, .int pL])), (pq, .inl (cB, 400, .inl pf)), (en, .inl (cI, 4, .inl ef)), (ct, .inl (cI, 40, .inl cc)), (im, .inr (1, [.ref iq, .int L])), (iq, .inl (cB, n, .inl f)), (m0, .inr (4, [.ref tr, .ref im, .ref fi, .ref se, .ref u0, .ref id, .ref ct, .int ra, .int ru, .int wg])), (l0, .inr (3, [.int ln, .int lds, .int ltb, .ref lo, .ref lp, .ref lt, .ref lb, .ref le, .int lc, .int ld])), (id, .inr (1, [.ref jq, .int il2_2])), (jq, .inl (cB, 60, .inl g_3))] := hD
  try dsimp only at hp_r1
  have hil2_4 := hp_r1
  refine lv_bipush (v := 33) hx hb d_Maker_passRecord_7 (by decide) ?_
  refine lv_aload_n hx hb d_Maker_passRecord_9 rfl (lv_at hl 0 rfl) ?_
  refine va_get (D := D) (ci := 4) (v := .ref id) (C := "DiscMaker$Maker") (T := F_Maker) (N := 10) hx hb ht9 in_Maker hown hK hP 9 rfl rfl 5 (by decide) (ht9 _ k352) (fun _ h9 => h9) rfl d_Maker_passRecord_10 ?_
  refine va_getN (D := D) (ci := 1) (v := .int il2_2) (C := "DiscMaker$Bytes") (T := F_Bytes) (N := 2) hx hb ht9 in_Bytes hown hK hP 11 rfl rfl 1 (by decide) (va_Nw.use rfl (hN _ k257)) (fun _ h9 => h9) rfl d_Maker_passRecord_13 ?_
  refine lv_iadd hx hb d_Maker_passRecord_16 ?_
  refine lv_topi (fun v5 e_v5 => ?_)
  have t_v5 : v5.toInt = 33 + il2_2.toInt := by rw [e_v5]; exact i_add (by decide) rfl (by omega) (by omega)
  have hPc := hP.sub (ws' := []) [] rfl
  have hDc := hD.sub (ws' := []) [] (by decide) rfl
  have hFc := va_free (wc := []) hD hS hA [] rfl
  have hkc : 0 ≤ 0 := by decide
  have hks : 0 ≤ 0 := by decide
  refine va_calli (va_runSN (As := [.int v5]) (rest := []) ⟨hx, hb, hml, hown, hts⟩ (c3_even l D cB cI cJ cZ cN cF H.size v5 (by (try dsimp only); first | assumption | omega | trivial)) ⟨va_cnB 1 hts (lg_good kc_DiscMaker_even) rfl rfl rfl (hN _ k998) (ht9 _ k115) (by decide +kernel) ⟨Nat.le_of_ble_eq_true rfl, Nat.le_of_ble_eq_true rfl⟩, ht9 _ k999, trivial⟩ ⟨fun a U g mk q => by obtain ⟨q0, q1, qP, qK, qN, qD⟩ := q; exact ⟨q0, q1, qP, va_K.moved (u := U) (U := U.calling g mk a) (Vm.Alike.refl U.vm) qK, qN.calling, qD⟩, fun U hU hW => ⟨rfl, by rw [hU], by rw [hU]; exact hPc, va_K.moved hW.alike hK, NN.warm hW hN, hDc.weaken (fun _ _ _ _ => trivial)⟩⟩ rfl rfl hl.1 rfl (lv_room (Nat.le_of_ble_eq_true rfl)) d_Maker_passRecord_17 ⟨hkc, hks⟩) hS (fun q _ h => hFc q h) hFc (fun r6 u t H1 locs ht hvm hp_r6 hB hz1 hk1 hS => ?_)
  obtain ⟨hP1, hD1⟩ := hB
  rw [ht] at hP1
  obtain ⟨hP, hD⟩ := va_join (wr := [(lb, .inl (cI, 40, .inl fb)), (le, .inl (cI, 40, .inl fe)), (u0, .inr (8, [.ref pb, .ref en, .int uc, .int uk])), (pb, .inr (1, [.ref pq, .int pL])), (pq, .inl (cB, 400, .inl pf)), (en, .inl (cI, 4, .inl ef)), (ct, .inl (cI, 40, .inl cc)), (im, .inr (1, [.ref iq, .int L])), (iq, .inl (cB, n, .inl f)), (m0, .inr (4, [.ref tr, .ref im, .ref fi, .ref se, .ref u0, .ref id, .ref ct, .int ra, .int ru, .int wg])), (l0, .inr (3, [.int ln, .int lds, .int ltb, .ref lo, .ref lp, .ref lt, .ref lb, .ref le, .int lc, .int ld])), (id, .inr (1, [.ref jq, .int il2_2])), (jq, .inl (cB, 60, .inl g_3))]) (w1 := []) hP hD [] [0, 1, 2, 3, 4, 5, 6, 7, 8, 9, 10, 11, 12] rfl rfl (by decide) (by decide) hk1 hFc hP1 hD1
  clear hPc hDc hFc hP1 hD1 hk1 hz1
  generalize H1 = H at hP hS ⊢
  have hP : va_P D CL [(lb, .inl (cI, 40, .inl fb)), (le, .inl (cI, 40, .inl fe)), (u0, .inr (8, [.ref pb, .ref en, .int uc, .int uk])), (pb, .inr (1, [.ref pq, .int pL])), (pq, .inl (cB, 400, .inl pf)), (en, .inl (cI, 4, .inl ef)), (ct, .inl (cI, 40, .inl cc)), (im, .inr (1, [.ref iq, .int L])), (iq, .inl (cB, n, .inl f)), (m0, .inr (4, [.ref tr, .ref im, .ref fi, .ref se, .ref u0, .ref id, .ref ct, .int ra, .int ru, .int wg])), (l0, .inr (3, [.int ln, .int lds, .int ltb, .ref lo, .ref lp, .ref lt, .ref lb, .ref le, .int lc, .int ld])), (id, .inr (1, [.ref jq, .int il2_2])), (jq, .inl (cB, 60, .inl g_3))] H := hP
  have hD : va_D A [(lb, .inl (cI, 40, .inl fb)), (le, .inl (cI, 40, .inl fe)), (u0, .inr (8, [.ref pb, .ref en, .int uc, .int uk])), (pb, .inr (1, [.ref pq, .int pL])), (pq, .inl (cB, 400, .inl pf)), (en, .inl (cI, 4, .inl ef)), (ct, .inl (cI, 40, .inl cc)), (im, .inr (1, [.ref iq, .int L])), (iq, .inl (cB, n, .inl f)), (m0, .inr (4, [.ref tr, .ref im, .ref fi, .ref se, .ref u0, .ref id, .ref ct, .int ra, .int ru, .int wg])), (l0, .inr (3, [.int ln, .int lds, .int ltb, .ref lo, .ref lp, .ref lt, .ref lb, .ref le, .int lc, .int ld])), (id, .inr (1, [.ref jq, .int il2_2])), (jq, .inl (cB, 60, .inl g_3))] := hD
  try dsimp only at hp_r6
  have hv_7 := hp_r6
  refine lv_istore hx hb d_Maker_passRecord_20 hl (by decide) rfl (fun ls hl => ?_)
  have hl : lv_has ls 6 [(4, .int r6), (0, .ref m0), (1, .ref l0), (2, .ref h0), (3, .int x)] := hl
  refine lv_aload_n hx hb d_Maker_passRecord_22 rfl (lv_at hl 1 rfl) ?_
  refine va_get (D := D) (ci := 4) (v := .ref u0) (C := "DiscMaker$Maker") (T := F_Maker) (N := 10) hx hb ht9 in_Maker hown hK hP 9 rfl rfl 4 (by decide) (ht9 _ k351) (fun _ h9 => h9) rfl d_Maker_passRecord_23 ?_
  have hPc := hP.sub (ws' := [(u0, .inr (8, [.ref pb, .ref en, .int uc, .int uk])), (pb, .inr (1, [.ref pq, .int pL])), (pq, .inl (cB, 400, .inl pf))]) [2, 3, 4] rfl
  have hDc := hD.sub (ws' := [(u0, .inr (8, [.ref pb, .ref en, .int uc, .int uk])), (pb, .inr (1, [.ref pq, .int pL])), (pq, .inl (cB, 400, .inl pf))]) [2, 3, 4] (by decide) rfl
  have hFc := va_free (wc := [(u0, .inr (8, [.ref pb, .ref en, .int uc, .int uk])), (pb, .inr (1, [.ref pq, .int pL])), (pq, .inl (cB, 400, .inl pf))]) hD hS hA [2, 3, 4] rfl
  have hkc : 0 ≤ 0 := by decide
  have hks : 0 ≤ 0 := by decide
  refine va_callv (va_runV (C := "DiscMaker$SystemUse") (As := []) (rest := []) ⟨hx, hb, hml, hown, hts⟩ (c3_clear l D cB cI cJ cZ cN cF H.size u0 pb pq en uc uk pL pf) (cwV 0 hts (lg_goodV k891 k892 k893 k122 kc_SystemUse_clear) rfl rfl rfl (by decide +kernel) ⟨Nat.le_of_ble_eq_true rfl, Nat.le_of_ble_eq_true rfl⟩) ⟨fun a U g mk q => by obtain ⟨q0, q1, qP, qK, qN, qD⟩ := q; exact ⟨q0, q1, qP, va_K.moved (u := U) (U := U.calling g mk a) (Vm.Alike.refl U.vm) qK, qN.calling, qD⟩, va_recv hK hP (ci := 8) (q0 := 2) rfl rfl, fun U hU hW => ⟨rfl, by rw [hU], by rw [hU]; exact hPc, va_K.moved hW.alike hK, NN.warm hW hN, hDc.weaken (fun _ _ _ _ => trivial)⟩⟩ rfl rfl hl.1 rfl (lv_room (Nat.le_of_ble_eq_true rfl)) d_Maker_passRecord_26 ⟨hkc, hks⟩) hS (fun q _ h => hFc q h) hFc (fun u t H1 locs ht hvm hp_r8 hB hz1 hk1 hS => ?_)
  obtain ⟨hP1, hD1⟩ := hB
  rw [ht] at hP1
  obtain ⟨hP, hD⟩ := va_join (wr := [(lb, .inl (cI, 40, .inl fb)), (le, .inl (cI, 40, .inl fe)), (en, .inl (cI, 4, .inl ef)), (ct, .inl (cI, 40, .inl cc)), (im, .inr (1, [.ref iq, .int L])), (iq, .inl (cB, n, .inl f)), (m0, .inr (4, [.ref tr, .ref im, .ref fi, .ref se, .ref u0, .ref id, .ref ct, .int ra, .int ru, .int wg])), (l0, .inr (3, [.int ln, .int lds, .int ltb, .ref lo, .ref lp, .ref lt, .ref lb, .ref le, .int lc, .int ld])), (id, .inr (1, [.ref jq, .int il2_2])), (jq, .inl (cB, 60, .inl g_3))]) (w1 := [(u0, .inr (8, [.ref pb, .ref en, .int 0, .int 0])), (pb, .inr (1, [.ref pq, .int 0])), (pq, .inl (cB, 400, .inl pf))]) hP hD [2, 3, 4] [0, 1, 5, 6, 7, 8, 9, 10, 11, 12] rfl rfl (by decide) (by decide) hk1 hFc hP1 hD1
  clear hPc hDc hFc hP1 hD1 hk1 hz1
  generalize H1 = H at hP hS ⊢
  have hP : va_P D CL [(lb, .inl (cI, 40, .inl fb)), (le, .inl (cI, 40, .inl fe)), (en, .inl (cI, 4, .inl ef)), (ct, .inl (cI, 40, .inl cc)), (im, .inr (1, [.ref iq, .int L])), (iq, .inl (cB, n, .inl f)), (m0, .inr (4, [.ref tr, .ref im, .ref fi, .ref se, .ref u0, .ref id, .ref ct, .int ra, .int ru, .int wg])), (l0, .inr (3, [.int ln, .int lds, .int ltb, .ref lo, .ref lp, .ref lt, .ref lb, .ref le, .int lc, .int ld])), (id, .inr (1, [.ref jq, .int il2_2])), (jq, .inl (cB, 60, .inl g_3)), (u0, .inr (8, [.ref pb, .ref en, .int 0, .int 0])), (pb, .inr (1, [.ref pq, .int 0])), (pq, .inl (cB, 400, .inl pf))] H := hP
  have hD : va_D A [(lb, .inl (cI, 40, .inl fb)), (le, .inl (cI, 40, .inl fe)), (en, .inl (cI, 4, .inl ef)), (ct, .inl (cI, 40, .inl cc)), (im, .inr (1, [.ref iq, .int L])), (iq, .inl (cB, n, .inl f)), (m0, .inr (4, [.ref tr, .ref im, .ref fi, .ref se, .ref u0, .ref id, .ref ct, .int ra, .int ru, .int wg])), (l0, .inr (3, [.int ln, .int lds, .int ltb, .ref lo, .ref lp, .ref lt, .ref lb, .ref le, .int lc, .int ld])), (id, .inr (1, [.ref jq, .int il2_2])), (jq, .inl (cB, 60, .inl g_3)), (u0, .inr (8, [.ref pb, .ref en, .int 0, .int 0])), (pb, .inr (1, [.ref pq, .int 0])), (pq, .inl (cB, 400, .inl pf))] := hD
  refine zz_lab (P := fun (lk : Nat) (H : Heap) (locs : List Loc) (ls : Array Slot) (stk : List Value) => ∃ (hd9 : Int32) (juc : Int32) (juk : Int32) (jpL : Int32) (jpf : Nat → Int32) (jef : Nat → Int32) , lk = 0 ∧ stk = [] ∧ (33 ≤ hd9.toInt ∧ hd9.toInt ≤ 94) ∧ (0 ≤ juk.toInt ∧ juk.toInt ≤ jpL.toInt ∧ jpL.toInt ≤ 400) ∧ (ln.toInt ≠ 0 → jpL.toInt = 0) ∧ va_P D CL [(lb, .inl (cI, 40, .inl fb)), (le, .inl (cI, 40, .inl fe)), (en, .inl (cI, 4, .inl jef)), (ct, .inl (cI, 40, .inl cc)), (im, .inr (1, [.ref iq, .int L])), (iq, .inl (cB, n, .inl f)), (m0, .inr (4, [.ref tr, .ref im, .ref fi, .ref se, .ref u0, .ref id, .ref ct, .int ra, .int ru, .int wg])), (l0, .inr (3, [.int ln, .int lds, .int ltb, .ref lo, .ref lp, .ref lt, .ref lb, .ref le, .int lc, .int ld])), (id, .inr (1, [.ref jq, .int il2_2])), (jq, .inl (cB, 60, .inl g_3)), (u0, .inr (8, [.ref pb, .ref en, .int juc, .int juk])), (pb, .inr (1, [.ref pq, .int jpL])), (pq, .inl (cB, 400, .inl jpf))] H ∧ va_D A [(lb, .inl (cI, 40, .inl fb)), (le, .inl (cI, 40, .inl fe)), (en, .inl (cI, 4, .inl jef)), (ct, .inl (cI, 40, .inl cc)), (im, .inr (1, [.ref iq, .int L])), (iq, .inl (cB, n, .inl f)), (m0, .inr (4, [.ref tr, .ref im, .ref fi, .ref se, .ref u0, .ref id, .ref ct, .int ra, .int ru, .int wg])), (l0, .inr (3, [.int ln, .int lds, .int ltb, .ref lo, .ref lp, .ref lt, .ref lb, .ref le, .int lc, .int ld])), (id, .inr (1, [.ref jq, .int il2_2])), (jq, .inl (cB, 60, .inl g_3)), (u0, .inr (8, [.ref pb, .ref en, .int juc, .int juk])), (pb, .inr (1, [.ref pq, .int jpL])), (pq, .inl (cB, 400, .inl jpf))] ∧ va_S A s.heap H locs ∧ lv_has ls 6 [(0, .ref m0), (1, .ref l0), (2, .ref h0), (3, .int x), (4, .int hd9)]) 55 ?_ ?_
  · skip
    intro lk ih55 H locs ls stk hI
    obtain ⟨hd9, juc, juk, jpL, jpf, jef, hm55, rfl, e0, e1, e2, hP, hD, hS, hl⟩ := hI
    refine lv_iload hx hb d_Maker_passRecord_55 (lv_at hl 4 rfl) ?_
    refine lv_aload_n hx hb d_Maker_passRecord_57 rfl (lv_at hl 0 rfl) ?_
    refine va_get (D := D) (ci := 4) (v := .ref u0) (C := "DiscMaker$Maker") (T := F_Maker) (N := 10) hx hb ht9 in_Maker hown hK hP 6 rfl rfl 4 (by decide) (ht9 _ k351) (fun _ h9 => h9) rfl d_Maker_passRecord_58 ?_
    have hPc := hP.sub (ws' := [(u0, .inr (8, [.ref pb, .ref en, .int juc, .int juk])), (pb, .inr (1, [.ref pq, .int jpL])), (pq, .inl (cB, 400, .inl jpf))]) [10, 11, 12] rfl
    have hDc := hD.sub (ws' := [(u0, .inr (8, [.ref pb, .ref en, .int juc, .int juk])), (pb, .inr (1, [.ref pq, .int jpL])), (pq, .inl (cB, 400, .inl jpf))]) [10, 11, 12] (by decide) rfl
    have hFc := va_free (wc := [(u0, .inr (8, [.ref pb, .ref en, .int juc, .int juk])), (pb, .inr (1, [.ref pq, .int jpL])), (pq, .inl (cB, 400, .inl jpf))]) hD hS hA [10, 11, 12] rfl
    have hkc : 0 ≤ 0 := by decide
    have hks : 0 ≤ 0 := by decide
    refine va_calli (va_runV (C := "DiscMaker$SystemUse") (As := []) (rest := [.int hd9]) ⟨hx, hb, hml, hown, hts⟩ (c3_bytesInRecord l D cB cI cJ cZ cN cF H.size u0 pb pq en juc juk jpL jpf (by (try dsimp only); first | assumption | omega | trivial) (by (try dsimp only); first | assumption | omega | trivial)) (cwV 0 hts (lg_goodV k1038 k1039 k1040 k122 kc_SystemUse_bytesInRecord) rfl rfl rfl (by decide +kernel) ⟨Nat.le_of_ble_eq_true rfl, Nat.le_of_ble_eq_true rfl⟩) ⟨fun a U g mk q => by obtain ⟨q0, q1, qP, qK, qN, qD⟩ := q; exact ⟨q0, q1, qP, va_K.moved (u := U) (U := U.calling g mk a) (Vm.Alike.refl U.vm) qK, qN.calling, qD⟩, va_recv hK hP (ci := 8) (q0 := 10) rfl rfl, fun U hU hW => ⟨rfl, by rw [hU], by rw [hU]; exact hPc, va_K.moved hW.alike hK, NN.warm hW hN, hDc.weaken (fun _ _ _ _ => trivial)⟩⟩ rfl rfl hl.1 rfl (lv_room (Nat.le_of_ble_eq_true rfl)) d_Maker_passRecord_61 ⟨hkc, hks⟩) hS (fun q _ h => hFc q h) hFc (fun r9 u t H1 locs ht hvm hp_r9 hB hz1 hk1 hS => ?_)
    obtain ⟨hP1, hD1⟩ := hB
    rw [ht] at hP1
    obtain ⟨hP, hD⟩ := va_join (wr := [(lb, .inl (cI, 40, .inl fb)), (le, .inl (cI, 40, .inl fe)), (en, .inl (cI, 4, .inl jef)), (ct, .inl (cI, 40, .inl cc)), (im, .inr (1, [.ref iq, .int L])), (iq, .inl (cB, n, .inl f)), (m0, .inr (4, [.ref tr, .ref im, .ref fi, .ref se, .ref u0, .ref id, .ref ct, .int ra, .int ru, .int wg])), (l0, .inr (3, [.int ln, .int lds, .int ltb, .ref lo, .ref lp, .ref lt, .ref lb, .ref le, .int lc, .int ld])), (id, .inr (1, [.ref jq, .int il2_2])), (jq, .inl (cB, 60, .inl g_3))]) (w1 := [(u0, .inr (8, [.ref pb, .ref en, .int juc, .int juk])), (pb, .inr (1, [.ref pq, .int jpL])), (pq, .inl (cB, 400, .inl jpf))]) hP hD [10, 11, 12] [0, 1, 2, 3, 4, 5, 6, 7, 8, 9] rfl rfl (by decide) (by decide) hk1 hFc hP1 hD1
    clear hPc hDc hFc hP1 hD1 hk1 hz1
    generalize H1 = H at hP hS ⊢
    have hP : va_P D CL [(lb, .inl (cI, 40, .inl fb)), (le, .inl (cI, 40, .inl fe)), (en, .inl (cI, 4, .inl jef)), (ct, .inl (cI, 40, .inl cc)), (im, .inr (1, [.ref iq, .int L])), (iq, .inl (cB, n, .inl f)), (m0, .inr (4, [.ref tr, .ref im, .ref fi, .ref se, .ref u0, .ref id, .ref ct, .int ra, .int ru, .int wg])), (l0, .inr (3, [.int ln, .int lds, .int ltb, .ref lo, .ref lp, .ref lt, .ref lb, .ref le, .int lc, .int ld])), (id, .inr (1, [.ref jq, .int il2_2])), (jq, .inl (cB, 60, .inl g_3)), (u0, .inr (8, [.ref pb, .ref en, .int juc, .int juk])), (pb, .inr (1, [.ref pq, .int jpL])), (pq, .inl (cB, 400, .inl jpf))] H := hP
    have hD : va_D A [(lb, .inl (cI, 40, .inl fb)), (le, .inl (cI, 40, .inl fe)), (en, .inl (cI, 4, .inl jef)), (ct, .inl (cI, 40, .inl cc)), (im, .inr (1, [.ref iq, .int L])), (iq, .inl (cB, n, .inl f)), (m0, .inr (4, [.ref tr, .ref im, .ref fi, .ref se, .ref u0, .ref id, .ref ct, .int ra, .int ru, .int wg])), (l0, .inr (3, [.int ln, .int lds, .int ltb, .ref lo, .ref lp, .ref lt, .ref lb, .ref le, .int lc, .int ld])), (id, .inr (1, [.ref jq, .int il2_2])), (jq, .inl (cB, 60, .inl g_3)), (u0, .inr (8, [.ref pb, .ref en, .int juc, .int juk])), (pb, .inr (1, [.ref pq, .int jpL])), (pq, .inl (cB, 400, .inl jpf))] := hD
    try dsimp only at hp_r9
    obtain ⟨hr_10, hr0_11⟩ := hp_r9
    have hPc := hP.sub (ws' := []) [] rfl
    have hDc := hD.sub (ws' := []) [] (by decide) rfl
    have hFc := va_free (wc := []) hD hS hA [] rfl
    have hkc : 0 ≤ 0 := by decide
    have hks : 0 ≤ 0 := by decide
    refine va_calli (va_runSN (As := [.int r9]) (rest := [.int hd9]) ⟨hx, hb, hml, hown, hts⟩ (c3_even l D cB cI cJ cZ cN cF H.size r9 (by (try dsimp only); first | assumption | omega | trivial)) ⟨va_cnB 1 hts (lg_good kc_DiscMaker_even) rfl rfl rfl (hN _ k998) (ht9 _ k115) (by decide +kernel) ⟨Nat.le_of_ble_eq_true rfl, Nat.le_of_ble_eq_true rfl⟩, ht9 _ k999, trivial⟩ ⟨fun a U g mk q => by obtain ⟨q0, q1, qP, qK, qN, qD⟩ := q; exact ⟨q0, q1, qP, va_K.moved (u := U) (U := U.calling g mk a) (Vm.Alike.refl U.vm) qK, qN.calling, qD⟩, fun U hU hW => ⟨rfl, by rw [hU], by rw [hU]; exact hPc, va_K.moved hW.alike hK, NN.warm hW hN, hDc.weaken (fun _ _ _ _ => trivial)⟩⟩ rfl rfl hl.1 rfl (lv_room (Nat.le_of_ble_eq_true rfl)) d_Maker_passRecord_64 ⟨hkc, hks⟩) hS (fun q _ h => hFc q h) hFc (fun r12 u t H1 locs ht hvm hp_r12 hB hz1 hk1 hS => ?_)
    obtain ⟨hP1, hD1⟩ := hB
    rw [ht] at hP1
    obtain ⟨hP, hD⟩ := va_join (wr := [(lb, .inl (cI, 40, .inl fb)), (le, .inl (cI, 40, .inl fe)), (en, .inl (cI, 4, .inl jef)), (ct, .inl (cI, 40, .inl cc)), (im, .inr (1, [.ref iq, .int L])), (iq, .inl (cB, n, .inl f)), (m0, .inr (4, [.ref tr, .ref im, .ref fi, .ref se, .ref u0, .ref id, .ref ct, .int ra, .int ru, .int wg])), (l0, .inr (3, [.int ln, .int lds, .int ltb, .ref lo, .ref lp, .ref lt, .ref lb, .ref le, .int lc, .int ld])), (id, .inr (1, [.ref jq, .int il2_2])), (jq, .inl (cB, 60, .inl g_3)), (u0, .inr (8, [.ref pb, .ref en, .int juc, .int juk])), (pb, .inr (1, [.ref pq, .int jpL])), (pq, .inl (cB, 400, .inl jpf))]) (w1 := []) hP hD [] [0, 1, 2, 3, 4, 5, 6, 7, 8, 9, 10, 11, 12] rfl rfl (by decide) (by decide) hk1 hFc hP1 hD1
    clear hPc hDc hFc hP1 hD1 hk1 hz1
    generalize H1 = H at hP hS ⊢
    have hP : va_P D CL [(lb, .inl (cI, 40, .inl fb)), (le, .inl (cI, 40, .inl fe)), (en, .inl (cI, 4, .inl jef)), (ct, .inl (cI, 40, .inl cc)), (im, .inr (1, [.ref iq, .int L])), (iq, .inl (cB, n, .inl f)), (m0, .inr (4, [.ref tr, .ref im, .ref fi, .ref se, .ref u0, .ref id, .ref ct, .int ra, .int ru, .int wg])), (l0, .inr (3, [.int ln, .int lds, .int ltb, .ref lo, .ref lp, .ref lt, .ref lb, .ref le, .int lc, .int ld])), (id, .inr (1, [.ref jq, .int il2_2])), (jq, .inl (cB, 60, .inl g_3)), (u0, .inr (8, [.ref pb, .ref en, .int juc, .int juk])), (pb, .inr (1, [.ref pq, .int jpL])), (pq, .inl (cB, 400, .inl jpf))] H := hP
    have hD : va_D A [(lb, .inl (cI, 40, .inl fb)), (le, .inl (cI, 40, .inl fe)), (en, .inl (cI, 4, .inl jef)), (ct, .inl (cI, 40, .inl cc)), (im, .inr (1, [.ref iq, .int L])), (iq, .inl (cB, n, .inl f)), (m0, .inr (4, [.ref tr, .ref im, .ref fi, .ref se, .ref u0, .ref id, .ref ct, .int ra, .int ru, .int wg])), (l0, .inr (3, [.int ln, .int lds, .int ltb, .ref lo, .ref lp, .ref lt, .ref lb, .ref le, .int lc, .int ld])), (id, .inr (1, [.ref jq, .int il2_2])), (jq, .inl (cB, 60, .inl g_3)), (u0, .inr (8, [.ref pb, .ref en, .int juc, .int juk])), (pb, .inr (1, [.ref pq, .int jpL])), (pq, .inl (cB, 400, .inl jpf))] := hD
    try dsimp only at hp_r12
    have hv_13 := hp_r12
    refine lv_iadd hx hb d_Maker_passRecord_67 ?_
    refine lv_topi (fun v14 e_v14 => ?_)
    have t_v14 : v14.toInt = hd9.toInt + r12.toInt := by rw [e_v14]; exact i_add rfl rfl (by omega) (by omega)
    refine lv_istore hx hb d_Maker_passRecord_68 hl (by decide) rfl (fun ls hl => ?_)
    have hl : lv_has ls 6 [(5, .int v14), (0, .ref m0), (1, .ref l0), (2, .ref h0), (3, .int x), (4, .int hd9)] := hl
    refine lv_aload_n hx hb d_Maker_passRecord_70 rfl (lv_at hl 1 rfl) ?_
    refine lv_aload_n hx hb d_Maker_passRecord_71 rfl (lv_at hl 1 rfl) ?_
    refine va_get (D := D) (ci := 4) (v := .int ra) (C := "DiscMaker$Maker") (T := F_Maker) (N := 10) hx hb ht9 in_Maker hown hK hP 6 rfl rfl 7 (by decide) (ht9 _ k354) (fun _ h9 => h9) rfl d_Maker_passRecord_72 ?_
    refine lv_iload hx hb d_Maker_passRecord_75 (lv_at hl 0 rfl) ?_
    have hPc := hP.sub (ws' := []) [] rfl
    have hDc := hD.sub (ws' := []) [] (by decide) rfl
    have hFc := va_free (wc := []) hD hS hA [] rfl
    have hkc : 0 ≤ 0 := by decide
    have hks : 0 ≤ 0 := by decide
    refine va_calli (va_runS (As := [.int ra, .int v14]) (rest := [.ref m0]) ⟨hx, hb, hml, hown, hts⟩ (c3_withinOneSector l D cB cI cJ cZ cN cF H.size ra v14 (by (try dsimp only); first | assumption | omega | trivial) (by (try dsimp only); first | assumption | omega | trivial)) (cwS 2 hts (lg_goodS k1042 k1043 k120 kc_Maker_withinOneSector) rfl rfl rfl (by decide +kernel) ⟨Nat.le_of_ble_eq_true rfl, Nat.le_of_ble_eq_true rfl⟩) ⟨fun a U g mk q => by obtain ⟨q0, q1, qP, qK, qN, qD⟩ := q; exact ⟨q0, q1, qP, va_K.moved (u := U) (U := U.calling g mk a) (Vm.Alike.refl U.vm) qK, qN.calling, qD⟩, fun U hU hW => ⟨rfl, by rw [hU], by rw [hU]; exact hPc, va_K.moved hW.alike hK, NN.warm hW hN, hDc.weaken (fun _ _ _ _ => trivial)⟩⟩ rfl rfl hl.1 rfl (lv_room (Nat.le_of_ble_eq_true rfl)) d_Maker_passRecord_77 ⟨hkc, hks⟩) hS (fun q _ h => hFc q h) hFc (fun r15 u t H1 locs ht hvm hp_r15 hB hz1 hk1 hS => ?_)
    obtain ⟨hP1, hD1⟩ := hB
    rw [ht] at hP1
    obtain ⟨hP, hD⟩ := va_join (wr := [(lb, .inl (cI, 40, .inl fb)), (le, .inl (cI, 40, .inl fe)), (en, .inl (cI, 4, .inl jef)), (ct, .inl (cI, 40, .inl cc)), (im, .inr (1, [.ref iq, .int L])), (iq, .inl (cB, n, .inl f)), (m0, .inr (4, [.ref tr, .ref im, .ref fi, .ref se, .ref u0, .ref id, .ref ct, .int ra, .int ru, .int wg])), (l0, .inr (3, [.int ln, .int lds, .int ltb, .ref lo, .ref lp, .ref lt, .ref lb, .ref le, .int lc, .int ld])), (id, .inr (1, [.ref jq, .int il2_2])), (jq, .inl (cB, 60, .inl g_3)), (u0, .inr (8, [.ref pb, .ref en, .int juc, .int juk])), (pb, .inr (1, [.ref pq, .int jpL])), (pq, .inl (cB, 400, .inl jpf))]) (w1 := []) hP hD [] [0, 1, 2, 3, 4, 5, 6, 7, 8, 9, 10, 11, 12] rfl rfl (by decide) (by decide) hk1 hFc hP1 hD1
    clear hPc hDc hFc hP1 hD1 hk1 hz1
    generalize H1 = H at hP hS ⊢
    have hP : va_P D CL [(lb, .inl (cI, 40, .inl fb)), (le, .inl (cI, 40, .inl fe)), (en, .inl (cI, 4, .inl jef)), (ct, .inl (cI, 40, .inl cc)), (im, .inr (1, [.ref iq, .int L])), (iq, .inl (cB, n, .inl f)), (m0, .inr (4, [.ref tr, .ref im, .ref fi, .ref se, .ref u0, .ref id, .ref ct, .int ra, .int ru, .int wg])), (l0, .inr (3, [.int ln, .int lds, .int ltb, .ref lo, .ref lp, .ref lt, .ref lb, .ref le, .int lc, .int ld])), (id, .inr (1, [.ref jq, .int il2_2])), (jq, .inl (cB, 60, .inl g_3)), (u0, .inr (8, [.ref pb, .ref en, .int juc, .int juk])), (pb, .inr (1, [.ref pq, .int jpL])), (pq, .inl (cB, 400, .inl jpf))] H := hP
    have hD : va_D A [(lb, .inl (cI, 40, .inl fb)), (le, .inl (cI, 40, .inl fe)), (en, .inl (cI, 4, .inl jef)), (ct, .inl (cI, 40, .inl cc)), (im, .inr (1, [.ref iq, .int L])), (iq, .inl (cB, n, .inl f)), (m0, .inr (4, [.ref tr, .ref im, .ref fi, .ref se, .ref u0, .ref id, .ref ct, .int ra, .int ru, .int wg])), (l0, .inr (3, [.int ln, .int lds, .int ltb, .ref lo, .ref lp, .ref lt, .ref lb, .ref le, .int lc, .int ld])), (id, .inr (1, [.ref jq, .int il2_2])), (jq, .inl (cB, 60, .inl g_3)), (u0, .inr (8, [.ref pb, .ref en, .int juc, .int juk])), (pb, .inr (1, [.ref pq, .int jpL])), (pq, .inl (cB, 400, .inl jpf))] := hD
    try dsimp only at hp_r15
    have hv_16 := hp_r15
    refine va_put (D := D) (ci := 4) (v := .int r15) (ty := .int) (C := "DiscMaker$Maker") (T := F_Maker) (N := 10) hx hb ht9 in_Maker t_Maker t_Maker_ok n_Maker hown hK hP hD hS 6 rfl rfl 7 (by decide) (ht9 _ k354) (fun _ h9 => h9) rfl (by decide +kernel) rfl rfl (Nat.le_of_ble_eq_true rfl) d_Maker_passRecord_80 (fun H locs hP hD hS => ?_)
    have hP : va_P D CL [(lb, .inl (cI, 40, .inl fb)), (le, .inl (cI, 40, .inl fe)), (en, .inl (cI, 4, .inl jef)), (ct, .inl (cI, 40, .inl cc)), (im, .inr (1, [.ref iq, .int L])), (iq, .inl (cB, n, .inl f)), (m0, .inr (4, [.ref tr, .ref im, .ref fi, .ref se, .ref u0, .ref id, .ref ct, .int r15, .int ru, .int wg])), (l0, .inr (3, [.int ln, .int lds, .int ltb, .ref lo, .ref lp, .ref lt, .ref lb, .ref le, .int lc, .int ld])), (id, .inr (1, [.ref jq, .int il2_2])), (jq, .inl (cB, 60, .inl g_3)), (u0, .inr (8, [.ref pb, .ref en, .int juc, .int juk])), (pb, .inr (1, [.ref pq, .int jpL])), (pq, .inl (cB, 400, .inl jpf))] H := hP
    have hD : va_D A [(lb, .inl (cI, 40, .inl fb)), (le, .inl (cI, 40, .inl fe)), (en, .inl (cI, 4, .inl jef)), (ct, .inl (cI, 40, .inl cc)), (im, .inr (1, [.ref iq, .int L])), (iq, .inl (cB, n, .inl f)), (m0, .inr (4, [.ref tr, .ref im, .ref fi, .ref se, .ref u0, .ref id, .ref ct, .int r15, .int ru, .int wg])), (l0, .inr (3, [.int ln, .int lds, .int ltb, .ref lo, .ref lp, .ref lt, .ref lb, .ref le, .int lc, .int ld])), (id, .inr (1, [.ref jq, .int il2_2])), (jq, .inl (cB, 60, .inl g_3)), (u0, .inr (8, [.ref pb, .ref en, .int juc, .int juk])), (pb, .inr (1, [.ref pq, .int jpL])), (pq, .inl (cB, 400, .inl jpf))] := hD
    refine lv_aload_n hx hb d_Maker_passRecord_83 rfl (lv_at hl 1 rfl) ?_
    refine lv_aload_n hx hb d_Maker_passRecord_84 rfl (lv_at hl 1 rfl) ?_
    refine va_get (D := D) (ci := 4) (v := .int ru) (C := "DiscMaker$Maker") (T := F_Maker) (N := 10) hx hb ht9 in_Maker hown hK hP 6 rfl rfl 8 (by decide) (ht9 _ k355) (fun _ h9 => h9) rfl d_Maker_passRecord_85 ?_
    refine lv_aload_n hx hb d_Maker_passRecord_88 rfl (lv_at hl 1 rfl) ?_
    refine va_get (D := D) (ci := 4) (v := .ref u0) (C := "DiscMaker$Maker") (T := F_Maker) (N := 10) hx hb ht9 in_Maker hown hK hP 6 rfl rfl 4 (by decide) (ht9 _ k351) (fun _ h9 => h9) rfl d_Maker_passRecord_89 ?_
    have hPc := hP.sub (ws' := [(u0, .inr (8, [.ref pb, .ref en, .int juc, .int juk])), (pb, .inr (1, [.ref pq, .int jpL])), (pq, .inl (cB, 400, .inl jpf))]) [10, 11, 12] rfl
    have hDc := hD.sub (ws' := [(u0, .inr (8, [.ref pb, .ref en, .int juc, .int juk])), (pb, .inr (1, [.ref pq, .int jpL])), (pq, .inl (cB, 400, .inl jpf))]) [10, 11, 12] (by decide) rfl
    have hFc := va_free (wc := [(u0, .inr (8, [.ref pb, .ref en, .int juc, .int juk])), (pb, .inr (1, [.ref pq, .int jpL])), (pq, .inl (cB, 400, .inl jpf))]) hD hS hA [10, 11, 12] rfl
    have hkc : 0 ≤ 0 := by decide
    have hks : 0 ≤ 0 := by decide
    refine va_calli (va_runV (C := "DiscMaker$SystemUse") (As := []) (rest := [.int ru, .ref m0]) ⟨hx, hb, hml, hown, hts⟩ (c3_bytesBehind l D cB cI cJ cZ cN cF H.size u0 pb pq en juc juk jpL jpf (by (try dsimp only); first | assumption | omega | trivial) (by (try dsimp only); first | assumption | omega | trivial)) (cwV 0 hts (lg_goodV k1048 k1049 k1050 k122 kc_SystemUse_bytesBehind) rfl rfl rfl (by decide +kernel) ⟨Nat.le_of_ble_eq_true rfl, Nat.le_of_ble_eq_true rfl⟩) ⟨fun a U g mk q => by obtain ⟨q0, q1, qP, qK, qN, qD⟩ := q; exact ⟨q0, q1, qP, va_K.moved (u := U) (U := U.calling g mk a) (Vm.Alike.refl U.vm) qK, qN.calling, qD⟩, va_recv hK hP (ci := 8) (q0 := 10) rfl rfl, fun U hU hW => ⟨rfl, by rw [hU], by rw [hU]; exact hPc, va_K.moved hW.alike hK, NN.warm hW hN, hDc.weaken (fun _ _ _ _ => trivial)⟩⟩ rfl rfl hl.1 rfl (lv_room (Nat.le_of_ble_eq_true rfl)) d_Maker_passRecord_92 ⟨hkc, hks⟩) hS (fun q _ h => hFc q h) hFc (fun r17 u t H1 locs ht hvm hp_r17 hB hz1 hk1 hS => ?_)
    obtain ⟨hP1, hD1⟩ := hB
    rw [ht] at hP1
    obtain ⟨hP, hD⟩ := va_join (wr := [(lb, .inl (cI, 40, .inl fb)), (le, .inl (cI, 40, .inl fe)), (en, .inl (cI, 4, .inl jef)), (ct, .inl (cI, 40, .inl cc)), (im, .inr (1, [.ref iq, .int L])), (iq, .inl (cB, n, .inl f)), (m0, .inr (4, [.ref tr, .ref im, .ref fi, .ref se, .ref u0, .ref id, .ref ct, .int r15, .int ru, .int wg])), (l0, .inr (3, [.int ln, .int lds, .int ltb, .ref lo, .ref lp, .ref lt, .ref lb, .ref le, .int lc, .int ld])), (id, .inr (1, [.ref jq, .int il2_2])), (jq, .inl (cB, 60, .inl g_3))]) (w1 := [(u0, .inr (8, [.ref pb, .ref en, .int juc, .int juk])), (pb, .inr (1, [.ref pq, .int jpL])), (pq, .inl (cB, 400, .inl jpf))]) hP hD [10, 11, 12] [0, 1, 2, 3, 4, 5, 6, 7, 8, 9] rfl rfl (by decide) (by decide) hk1 hFc hP1 hD1
    clear hPc hDc hFc hP1 hD1 hk1 hz1
    generalize H1 = H at hP hS ⊢
    have hP : va_P D CL [(lb, .inl (cI, 40, .inl fb)), (le, .inl (cI, 40, .inl fe)), (en, .inl (cI, 4, .inl jef)), (ct, .inl (cI, 40, .inl cc)), (im, .inr (1, [.ref iq, .int L])), (iq, .inl (cB, n, .inl f)), (m0, .inr (4, [.ref tr, .ref im, .ref fi, .ref se, .ref u0, .ref id, .ref ct, .int r15, .int ru, .int wg])), (l0, .inr (3, [.int ln, .int lds, .int ltb, .ref lo, .ref lp, .ref lt, .ref lb, .ref le, .int lc, .int ld])), (id, .inr (1, [.ref jq, .int il2_2])), (jq, .inl (cB, 60, .inl g_3)), (u0, .inr (8, [.ref pb, .ref en, .int juc, .int juk])), (pb, .inr (1, [.ref pq, .int jpL])), (pq, .inl (cB, 400, .inl jpf))] H := hP
    have hD : va_D A [(lb, .inl (cI, 40, .inl fb)), (le, .inl (cI, 40, .inl fe)), (en, .inl (cI, 4, .inl jef)), (ct, .inl (cI, 40, .inl cc)), (im, .inr (1, [.ref iq, .int L])), (iq, .inl (cB, n, .inl f)), (m0, .inr (4, [.ref tr, .ref im, .ref fi, .ref se, .ref u0, .ref id, .ref ct, .int r15, .int ru, .int wg])), (l0, .inr (3, [.int ln, .int lds, .int ltb, .ref lo, .ref lp, .ref lt, .ref lb, .ref le, .int lc, .int ld])), (id, .inr (1, [.ref jq, .int il2_2])), (jq, .inl (cB, 60, .inl g_3)), (u0, .inr (8, [.ref pb, .ref en, .int juc, .int juk])), (pb, .inr (1, [.ref pq, .int jpL])), (pq, .inl (cB, 400, .inl jpf))] := hD
    try dsimp only at hp_r17
    have hr_18 := hp_r17
    have hPc := hP.sub (ws' := []) [] rfl
    have hDc := hD.sub (ws' := []) [] (by decide) rfl
    have hFc := va_free (wc := []) hD hS hA [] rfl
    have hkc : 0 ≤ 0 := by decide
    have hks : 0 ≤ 0 := by decide
    refine va_calli (va_runS (As := [.int ru, .int r17]) (rest := [.ref m0]) ⟨hx, hb, hml, hown, hts⟩ (c3_withinOneSector l D cB cI cJ cZ cN cF H.size ru r17 (by (try dsimp only); first | assumption | omega | trivial) (by (try dsimp only); first | assumption | omega | trivial)) (cwS 2 hts (lg_goodS k1042 k1043 k120 kc_Maker_withinOneSector) rfl rfl rfl (by decide +kernel) ⟨Nat.le_of_ble_eq_true rfl, Nat.le_of_ble_eq_true rfl⟩) ⟨fun a U g mk q => by obtain ⟨q0, q1, qP, qK, qN, qD⟩ := q; exact ⟨q0, q1, qP, va_K.moved (u := U) (U := U.calling g mk a) (Vm.Alike.refl U.vm) qK, qN.calling, qD⟩, fun U hU hW => ⟨rfl, by rw [hU], by rw [hU]; exact hPc, va_K.moved hW.alike hK, NN.warm hW hN, hDc.weaken (fun _ _ _ _ => trivial)⟩⟩ rfl rfl hl.1 rfl (lv_room (Nat.le_of_ble_eq_true rfl)) d_Maker_passRecord_95 ⟨hkc, hks⟩) hS (fun q _ h => hFc q h) hFc (fun r19 u t H1 locs ht hvm hp_r19 hB hz1 hk1 hS => ?_)
    obtain ⟨hP1, hD1⟩ := hB
    rw [ht] at hP1
    obtain ⟨hP, hD⟩ := va_join (wr := [(lb, .inl (cI, 40, .inl fb)), (le, .inl (cI, 40, .inl fe)), (en, .inl (cI, 4, .inl jef)), (ct, .inl (cI, 40, .inl cc)), (im, .inr (1, [.ref iq, .int L])), (iq, .inl (cB, n, .inl f)), (m0, .inr (4, [.ref tr, .ref im, .ref fi, .ref se, .ref u0, .ref id, .ref ct, .int r15, .int ru, .int wg])), (l0, .inr (3, [.int ln, .int lds, .int ltb, .ref lo, .ref lp, .ref lt, .ref lb, .ref le, .int lc, .int ld])), (id, .inr (1, [.ref jq, .int il2_2])), (jq, .inl (cB, 60, .inl g_3)), (u0, .inr (8, [.ref pb, .ref en, .int juc, .int juk])), (pb, .inr (1, [.ref pq, .int jpL])), (pq, .inl (cB, 400, .inl jpf))]) (w1 := []) hP hD [] [0, 1, 2, 3, 4, 5, 6, 7, 8, 9, 10, 11, 12] rfl rfl (by decide) (by decide) hk1 hFc hP1 hD1
    clear hPc hDc hFc hP1 hD1 hk1 hz1
    generalize H1 = H at hP hS ⊢
    have hP : va_P D CL [(lb, .inl (cI, 40, .inl fb)), (le, .inl (cI, 40, .inl fe)), (en, .inl (cI, 4, .inl jef)), (ct, .inl (cI, 40, .inl cc)), (im, .inr (1, [.ref iq, .int L])), (iq, .inl (cB, n, .inl f)), (m0, .inr (4, [.ref tr, .ref im, .ref fi, .ref se, .ref u0, .ref id, .ref ct, .int r15, .int ru, .int wg])), (l0, .inr (3, [.int ln, .int lds, .int ltb, .ref lo, .ref lp, .ref lt, .ref lb, .ref le, .int lc, .int ld])), (id, .inr (1, [.ref jq, .int il2_2])), (jq, .inl (cB, 60, .inl g_3)), (u0, .inr (8, [.ref pb, .ref en, .int juc, .int juk])), (pb, .inr (1, [.ref pq, .int jpL])), (pq, .inl (cB, 400, .inl jpf))] H := hP
    have hD : va_D A [(lb, .inl (cI, 40, .inl fb)), (le, .inl (cI, 40, .inl fe)), (en, .inl (cI, 4, .inl jef)), (ct, .inl (cI, 40, .inl cc)), (im, .inr (1, [.ref iq, .int L])), (iq, .inl (cB, n, .inl f)), (m0, .inr (4, [.ref tr, .ref im, .ref fi, .ref se, .ref u0, .ref id, .ref ct, .int r15, .int ru, .int wg])), (l0, .inr (3, [.int ln, .int lds, .int ltb, .ref lo, .ref lp, .ref lt, .ref lb, .ref le, .int lc, .int ld])), (id, .inr (1, [.ref jq, .int il2_2])), (jq, .inl (cB, 60, .inl g_3)), (u0, .inr (8, [.ref pb, .ref en, .int juc, .int juk])), (pb, .inr (1, [.ref pq, .int jpL])), (pq, .inl (cB, 400, .inl jpf))] := hD
    try dsimp only at hp_r19
    have hv_20 := hp_r19
    refine va_put (D := D) (ci := 4) (v := .int r19) (ty := .int) (C := "DiscMaker$Maker") (T := F_Maker) (N := 10) hx hb ht9 in_Maker t_Maker t_Maker_ok n_Maker hown hK hP hD hS 6 rfl rfl 8 (by decide) (ht9 _ k355) (fun _ h9 => h9) rfl (by decide +kernel) rfl rfl (Nat.le_of_ble_eq_true rfl) d_Maker_passRecord_98 (fun H locs hP hD hS => ?_)
    have hP : va_P D CL [(lb, .inl (cI, 40, .inl fb)), (le, .inl (cI, 40, .inl fe)), (en, .inl (cI, 4, .inl jef)), (ct, .inl (cI, 40, .inl cc)), (im, .inr (1, [.ref iq, .int L])), (iq, .inl (cB, n, .inl f)), (m0, .inr (4, [.ref tr, .ref im, .ref fi, .ref se, .ref u0, .ref id, .ref ct, .int r15, .int r19, .int wg])), (l0, .inr (3, [.int ln, .int lds, .int ltb, .ref lo, .ref lp, .ref lt, .ref lb, .ref le, .int lc, .int ld])), (id, .inr (1, [.ref jq, .int il2_2])), (jq, .inl (cB, 60, .inl g_3)), (u0, .inr (8, [.ref pb, .ref en, .int juc, .int juk])), (pb, .inr (1, [.ref pq, .int jpL])), (pq, .inl (cB, 400, .inl jpf))] H := hP
    have hD : va_D A [(lb, .inl (cI, 40, .inl fb)), (le, .inl (cI, 40, .inl fe)), (en, .inl (cI, 4, .inl jef)), (ct, .inl (cI, 40, .inl cc)), (im, .inr (1, [.ref iq, .int L])), (iq, .inl (cB, n, .inl f)), (m0, .inr (4, [.ref tr, .ref im, .ref fi, .ref se, .ref u0, .ref id, .ref ct, .int r15, .int r19, .int wg])), (l0, .inr (3, [.int ln, .int lds, .int ltb, .ref lo, .ref lp, .ref lt, .ref lb, .ref le, .int lc, .int ld])), (id, .inr (1, [.ref jq, .int il2_2])), (jq, .inl (cB, 60, .inl g_3)), (u0, .inr (8, [.ref pb, .ref en, .int juc, .int juk])), (pb, .inr (1, [.ref pq, .int jpL])), (pq, .inl (cB, 400, .inl jpf))] := hD
    refine zz_lab (P := fun (lk : Nat) (H : Heap) (locs : List Loc) (ls : Array Slot) (stk : List Value) => ∃ (jm : Nat → Int32) , lk = 0 ∧ stk = [] ∧ va_P D CL [(lb, .inl (cI, 40, .inl fb)), (le, .inl (cI, 40, .inl fe)), (en, .inl (cI, 4, .inl jef)), (ct, .inl (cI, 40, .inl cc)), (im, .inr (1, [.ref iq, .int L])), (iq, .inl (cB, n, .inl jm)), (m0, .inr (4, [.ref tr, .ref im, .ref fi, .ref se, .ref u0, .ref id, .ref ct, .int r15, .int r19, .int wg])), (l0, .inr (3, [.int ln, .int lds, .int ltb, .ref lo, .ref lp, .ref lt, .ref lb, .ref le, .int lc, .int ld])), (id, .inr (1, [.ref jq, .int il2_2])), (jq, .inl (cB, 60, .inl g_3)), (u0, .inr (8, [.ref pb, .ref en, .int juc, .int juk])), (pb, .inr (1, [.ref pq, .int jpL])), (pq, .inl (cB, 400, .inl jpf))] H ∧ va_D A [(lb, .inl (cI, 40, .inl fb)), (le, .inl (cI, 40, .inl fe)), (en, .inl (cI, 4, .inl jef)), (ct, .inl (cI, 40, .inl cc)), (im, .inr (1, [.ref iq, .int L])), (iq, .inl (cB, n, .inl jm)), (m0, .inr (4, [.ref tr, .ref im, .ref fi, .ref se, .ref u0, .ref id, .ref ct, .int r15, .int r19, .int wg])), (l0, .inr (3, [.int ln, .int lds, .int ltb, .ref lo, .ref lp, .ref lt, .ref lb, .ref le, .int lc, .int ld])), (id, .inr (1, [.ref jq, .int il2_2])), (jq, .inl (cB, 60, .inl g_3)), (u0, .inr (8, [.ref pb, .ref en, .int juc, .int juk])), (pb, .inr (1, [.ref pq, .int jpL])), (pq, .inl (cB, 400, .inl jpf))] ∧ va_S A s.heap H locs ∧ lv_has ls 6 [(0, .ref m0), (1, .ref l0), (2, .ref h0), (3, .int x), (4, .int hd9), (5, .int v14)]) 131 ?_ ?_
    · skip
      intro lk ih131 H locs ls stk hI
      obtain ⟨jm, hm131, rfl, hP, hD, hS, hl⟩ := hI
      refine lv_aload_n hx hb d_Maker_passRecord_131 rfl (lv_at hl 0 rfl) ?_
      refine lv_dup hx hb d_Maker_passRecord_132 rfl ?_
      refine va_get (D := D) (ci := 4) (v := .int r15) (C := "DiscMaker$Maker") (T := F_Maker) (N := 10) hx hb ht9 in_Maker hown hK hP 6 rfl rfl 7 (by decide) (ht9 _ k354) (fun _ h9 => h9) rfl d_Maker_passRecord_133 ?_
      refine lv_iload hx hb d_Maker_passRecord_136 (lv_at hl 5 rfl) ?_
      refine lv_iadd hx hb d_Maker_passRecord_138 ?_
      refine lv_topi (fun v21 e_v21 => ?_)
      have t_v21 : v21.toInt = r15.toInt + v14.toInt := by rw [e_v21]; exact i_add rfl rfl (by omega) (by omega)
      refine va_put (D := D) (ci := 4) (v := .int v21) (ty := .int) (C := "DiscMaker$Maker") (T := F_Maker) (N := 10) hx hb ht9 in_Maker t_Maker t_Maker_ok n_Maker hown hK hP hD hS 6 rfl rfl 7 (by decide) (ht9 _ k354) (fun _ h9 => h9) rfl (by decide +kernel) rfl rfl (Nat.le_of_ble_eq_true rfl) d_Maker_passRecord_139 (fun H locs hP hD hS => ?_)
      have hP : va_P D CL [(lb, .inl (cI, 40, .inl fb)), (le, .inl (cI, 40, .inl fe)), (en, .inl (cI, 4, .inl jef)), (ct, .inl (cI, 40, .inl cc)), (im, .inr (1, [.ref iq, .int L])), (iq, .inl (cB, n, .inl jm)), (m0, .inr (4, [.ref tr, .ref im, .ref fi, .ref se, .ref u0, .ref id, .ref ct, .int v21, .int r19, .int wg])), (l0, .inr (3, [.int ln, .int lds, .int ltb, .ref lo, .ref lp, .ref lt, .ref lb, .ref le, .int lc, .int ld])), (id, .inr (1, [.ref jq, .int il2_2])), (jq, .inl (cB, 60, .inl g_3)), (u0, .inr (8, [.ref pb, .ref en, .int juc, .int juk])), (pb, .inr (1, [.ref pq, .int jpL])), (pq, .inl (cB, 400, .inl jpf))] H := hP
      have hD : va_D A [(lb, .inl (cI, 40, .inl fb)), (le, .inl (cI, 40, .inl fe)), (en, .inl (cI, 4, .inl jef)), (ct, .inl (cI, 40, .inl cc)), (im, .inr (1, [.ref iq, .int L])), (iq, .inl (cB, n, .inl jm)), (m0, .inr (4, [.ref tr, .ref im, .ref fi, .ref se, .ref u0, .ref id, .ref ct, .int v21, .int r19, .int wg])), (l0, .inr (3, [.int ln, .int lds, .int ltb, .ref lo, .ref lp, .ref lt, .ref lb, .ref le, .int lc, .int ld])), (id, .inr (1, [.ref jq, .int il2_2])), (jq, .inl (cB, 60, .inl g_3)), (u0, .inr (8, [.ref pb, .ref en, .int juc, .int juk])), (pb, .inr (1, [.ref pq, .int jpL])), (pq, .inl (cB, 400, .inl jpf))] := hD
      refine lv_aload_n hx hb d_Maker_passRecord_142 rfl (lv_at hl 0 rfl) ?_
      refine lv_dup hx hb d_Maker_passRecord_143 rfl ?_
      refine va_get (D := D) (ci := 4) (v := .int r19) (C := "DiscMaker$Maker") (T := F_Maker) (N := 10) hx hb ht9 in_Maker hown hK hP 6 rfl rfl 8 (by decide) (ht9 _ k355) (fun _ h9 => h9) rfl d_Maker_passRecord_144 ?_
      refine lv_aload_n hx hb d_Maker_passRecord_147 rfl (lv_at hl 0 rfl) ?_
      refine va_get (D := D) (ci := 4) (v := .ref u0) (C := "DiscMaker$Maker") (T := F_Maker) (N := 10) hx hb ht9 in_Maker hown hK hP 6 rfl rfl 4 (by decide) (ht9 _ k351) (fun _ h9 => h9) rfl d_Maker_passRecord_148 ?_
      have hPc := hP.sub (ws' := [(u0, .inr (8, [.ref pb, .ref en, .int juc, .int juk])), (pb, .inr (1, [.ref pq, .int jpL])), (pq, .inl (cB, 400, .inl jpf))]) [10, 11, 12] rfl
      have hDc := hD.sub (ws' := [(u0, .inr (8, [.ref pb, .ref en, .int juc, .int juk])), (pb, .inr (1, [.ref pq, .int jpL])), (pq, .inl (cB, 400, .inl jpf))]) [10, 11, 12] (by decide) rfl
      have hFc := va_free (wc := [(u0, .inr (8, [.ref pb, .ref en, .int juc, .int juk])), (pb, .inr (1, [.ref pq, .int jpL])), (pq, .inl (cB, 400, .inl jpf))]) hD hS hA [10, 11, 12] rfl
      have hkc : 0 ≤ 0 := by decide
      have hks : 0 ≤ 0 := by decide
      refine va_calli (va_runV (C := "DiscMaker$SystemUse") (As := []) (rest := [.int r19, .ref m0]) ⟨hx, hb, hml, hown, hts⟩ (c3_bytesBehind l D cB cI cJ cZ cN cF H.size u0 pb pq en juc juk jpL jpf (by (try dsimp only); first | assumption | omega | trivial) (by (try dsimp only); first | assumption | omega | trivial)) (cwV 0 hts (lg_goodV k1048 k1049 k1050 k122 kc_SystemUse_bytesBehind) rfl rfl rfl (by decide +kernel) ⟨Nat.le_of_ble_eq_true rfl, Nat.le_of_ble_eq_true rfl⟩) ⟨fun a U g mk q => by obtain ⟨q0, q1, qP, qK, qN, qD⟩ := q; exact ⟨q0, q1, qP, va_K.moved (u := U) (U := U.calling g mk a) (Vm.Alike.refl U.vm) qK, qN.calling, qD⟩, va_recv hK hP (ci := 8) (q0 := 10) rfl rfl, fun U hU hW => ⟨rfl, by rw [hU], by rw [hU]; exact hPc, va_K.moved hW.alike hK, NN.warm hW hN, hDc.weaken (fun _ _ _ _ => trivial)⟩⟩ rfl rfl hl.1 rfl (lv_room (Nat.le_of_ble_eq_true rfl)) d_Maker_passRecord_151 ⟨hkc, hks⟩) hS (fun q _ h => hFc q h) hFc (fun r22 u t H1 locs ht hvm hp_r22 hB hz1 hk1 hS => ?_)
      obtain ⟨hP1, hD1⟩ := hB
      rw [ht] at hP1
      obtain ⟨hP, hD⟩ := va_join (wr := [(lb, .inl (cI, 40, .inl fb)), (le, .inl (cI, 40, .inl fe)), (en, .inl (cI, 4, .inl jef)), (ct, .inl (cI, 40, .inl cc)), (im, .inr (1, [.ref iq, .int L])), (iq, .inl (cB, n, .inl jm)), (m0, .inr (4, [.ref tr, .ref im, .ref fi, .ref se, .ref u0, .ref id, .ref ct, .int v21, .int r19, .int wg])), (l0, .inr (3, [.int ln, .int lds, .int ltb, .ref lo, .ref lp, .ref lt, .ref lb, .ref le, .int lc, .int ld])), (id, .inr (1, [.ref jq, .int il2_2])), (jq, .inl (cB, 60, .inl g_3))]) (w1 := [(u0, .inr (8, [.ref pb, .ref en, .int juc, .int juk])), (pb, .inr (1, [.ref pq, .int jpL])), (pq, .inl (cB, 400, .inl jpf))]) hP hD [10, 11, 12] [0, 1, 2, 3, 4, 5, 6, 7, 8, 9] rfl rfl (by decide) (by decide) hk1 hFc hP1 hD1
      clear hPc hDc hFc hP1 hD1 hk1 hz1
      generalize H1 = H at hP hS ⊢
      have hP : va_P D CL [(lb, .inl (cI, 40, .inl fb)), (le, .inl (cI, 40, .inl fe)), (en, .inl (cI, 4, .inl jef)), (ct, .inl (cI, 40, .inl cc)), (im, .inr (1, [.ref iq, .int L])), (iq, .inl (cB, n, .inl jm)), (m0, .inr (4, [.ref tr, .ref im, .ref fi, .ref se, .ref u0, .ref id, .ref ct, .int v21, .int r19, .int wg])), (l0, .inr (3, [.int ln, .int lds, .int ltb, .ref lo, .ref lp, .ref lt, .ref lb, .ref le, .int lc, .int ld])), (id, .inr (1, [.ref jq, .int il2_2])), (jq, .inl (cB, 60, .inl g_3)), (u0, .inr (8, [.ref pb, .ref en, .int juc, .int juk])), (pb, .inr (1, [.ref pq, .int jpL])), (pq, .inl (cB, 400, .inl jpf))] H := hP
      have hD : va_D A [(lb, .inl (cI, 40, .inl fb)), (le, .inl (cI, 40, .inl fe)), (en, .inl (cI, 4, .inl jef)), (ct, .inl (cI, 40, .inl cc)), (im, .inr (1, [.ref iq, .int L])), (iq, .inl (cB, n, .inl jm)), (m0, .inr (4, [.ref tr, .ref im, .ref fi, .ref se, .ref u0, .ref id, .ref ct, .int v21, .int r19, .int wg])), (l0, .inr (3, [.int ln, .int lds, .int ltb, .ref lo, .ref lp, .ref lt, .ref lb, .ref le, .int lc, .int ld])), (id, .inr (1, [.ref jq, .int il2_2])), (jq, .inl (cB, 60, .inl g_3)), (u0, .inr (8, [.ref pb, .ref en, .int juc, .int juk])), (pb, .inr (1, [.ref pq, .int jpL])), (pq, .inl (cB, 400, .inl jpf))] := hD
      try dsimp only at hp_r22
      have hr_23 := hp_r22
      refine lv_iadd hx hb d_Maker_passRecord_154 ?_
      refine lv_topi (fun v24 e_v24 => ?_)
      have t_v24 : v24.toInt = r19.toInt + r22.toInt := by rw [e_v24]; exact i_add rfl rfl (by omega) (by omega)
      refine va_put (D := D) (ci := 4) (v := .int v24) (ty := .int) (C := "DiscMaker$Maker") (T := F_Maker) (N := 10) hx hb ht9 in_Maker t_Maker t_Maker_ok n_Maker hown hK hP hD hS 6 rfl rfl 8 (by decide) (ht9 _ k355) (fun _ h9 => h9) rfl (by decide +kernel) rfl rfl (Nat.le_of_ble_eq_true rfl) d_Maker_passRecord_155 (fun H locs hP hD hS => ?_)
      have hP : va_P D CL [(lb, .inl (cI, 40, .inl fb)), (le, .inl (cI, 40, .inl fe)), (en, .inl (cI, 4, .inl jef)), (ct, .inl (cI, 40, .inl cc)), (im, .inr (1, [.ref iq, .int L])), (iq, .inl (cB, n, .inl jm)), (m0, .inr (4, [.ref tr, .ref im, .ref fi, .ref se, .ref u0, .ref id, .ref ct, .int v21, .int v24, .int wg])), (l0, .inr (3, [.int ln, .int lds, .int ltb, .ref lo, .ref lp, .ref lt, .ref lb, .ref le, .int lc, .int ld])), (id, .inr (1, [.ref jq, .int il2_2])), (jq, .inl (cB, 60, .inl g_3)), (u0, .inr (8, [.ref pb, .ref en, .int juc, .int juk])), (pb, .inr (1, [.ref pq, .int jpL])), (pq, .inl (cB, 400, .inl jpf))] H := hP
      have hD : va_D A [(lb, .inl (cI, 40, .inl fb)), (le, .inl (cI, 40, .inl fe)), (en, .inl (cI, 4, .inl jef)), (ct, .inl (cI, 40, .inl cc)), (im, .inr (1, [.ref iq, .int L])), (iq, .inl (cB, n, .inl jm)), (m0, .inr (4, [.ref tr, .ref im, .ref fi, .ref se, .ref u0, .ref id, .ref ct, .int v21, .int v24, .int wg])), (l0, .inr (3, [.int ln, .int lds, .int ltb, .ref lo, .ref lp, .ref lt, .ref lb, .ref le, .int lc, .int ld])), (id, .inr (1, [.ref jq, .int il2_2])), (jq, .inl (cB, 60, .inl g_3)), (u0, .inr (8, [.ref pb, .ref en, .int juc, .int juk])), (pb, .inr (1, [.ref pq, .int jpL])), (pq, .inl (cB, 400, .inl jpf))] := hD
      have hP9 := hP.sub (ws' := [(m0, .inr (4, [.ref tr, .ref im, .ref fi, .ref se, .ref u0, .ref id, .ref ct, .int v21, .int v24, .int wg])), (l0, .inr (3, [.int ln, .int lds, .int ltb, .ref lo, .ref lp, .ref lt, .ref lb, .ref le, .int lc, .int ld])), (lb, .inl (cI, 40, .inl fb)), (le, .inl (cI, 40, .inl fe)), (u0, .inr (8, [.ref pb, .ref en, .int juc, .int juk])), (pb, .inr (1, [.ref pq, .int jpL])), (pq, .inl (cB, 400, .inl jpf)), (en, .inl (cI, 4, .inl jef)), (ct, .inl (cI, 40, .inl cc)), (id, .inr (1, [.ref jq, .int il2_2])), (jq, .inl (cB, 60, .inl g_3)), (im, .inr (1, [.ref iq, .int L])), (iq, .inl (cB, n, .inl jm))]) [6, 7, 0, 1, 10, 11, 12, 2, 3, 8, 9, 4, 5] rfl
      have hD9 := hD.sub (ws' := [(m0, .inr (4, [.ref tr, .ref im, .ref fi, .ref se, .ref u0, .ref id, .ref ct, .int v21, .int v24, .int wg])), (l0, .inr (3, [.int ln, .int lds, .int ltb, .ref lo, .ref lp, .ref lt, .ref lb, .ref le, .int lc, .int ld])), (lb, .inl (cI, 40, .inl fb)), (le, .inl (cI, 40, .inl fe)), (u0, .inr (8, [.ref pb, .ref en, .int juc, .int juk])), (pb, .inr (1, [.ref pq, .int jpL])), (pq, .inl (cB, 400, .inl jpf)), (en, .inl (cI, 4, .inl jef)), (ct, .inl (cI, 40, .inl cc)), (id, .inr (1, [.ref jq, .int il2_2])), (jq, .inl (cB, 60, .inl g_3)), (im, .inr (1, [.ref iq, .int L])), (iq, .inl (cB, n, .inl jm))]) [6, 7, 0, 1, 10, 11, 12, 2, 3, 8, 9, 4, 5] (by decide) rfl
      exact W.vret hx hb hr (fun t ht hW => ⟨⟨(v21, v24, juc, juk, jpL, jpf, jef, il2_2, g_3, jm), rfl, ⟨(by (try dsimp only); first | assumption | omega | trivial), (by (try dsimp only); first | assumption | omega | trivial), (by (try dsimp only); intro h7; first | (exfalso; omega) | omega | assumption)⟩, by rw [ht]; exact hP9, hD9⟩, hS.F ht⟩) hS.2.2 d_Maker_passRecord_158
    · skip
      intro kk131
      refine lv_aload_n hx hb d_Maker_passRecord_101 rfl (lv_at hl 1 rfl) ?_
      refine va_get (D := D) (ci := 4) (v := .int wg) (C := "DiscMaker$Maker") (T := F_Maker) (N := 10) hx hb ht9 in_Maker hown hK hP 6 rfl rfl 9 (by decide) (ht9 _ k356) (fun _ h9 => h9) rfl d_Maker_passRecord_102 ?_
      refine lv_if_eq (tgt := 131) hx hb d_Maker_passRecord_105 (by decide) (fun h_9 => ?_) (fun h_9 => ?_)
      · skip
        have g105_54 : wg.toInt = 0 := (i_eq rfl (by decide)).mp h_9
        have hP := hP.sub (ws' := [(lb, .inl (cI, 40, .inl fb)), (le, .inl (cI, 40, .inl fe)), (en, .inl (cI, 4, .inl jef)), (ct, .inl (cI, 40, .inl cc)), (im, .inr (1, [.ref iq, .int L])), (iq, .inl (cB, n, .inl f)), (m0, .inr (4, [.ref tr, .ref im, .ref fi, .ref se, .ref u0, .ref id, .ref ct, .int r15, .int r19, .int wg])), (l0, .inr (3, [.int ln, .int lds, .int ltb, .ref lo, .ref lp, .ref lt, .ref lb, .ref le, .int lc, .int ld])), (id, .inr (1, [.ref jq, .int il2_2])), (jq, .inl (cB, 60, .inl g_3)), (u0, .inr (8, [.ref pb, .ref en, .int juc, .int juk])), (pb, .inr (1, [.ref pq, .int jpL])), (pq, .inl (cB, 400, .inl jpf))]) [0, 1, 2, 3, 4, 5, 6, 7, 8, 9, 10, 11, 12] rfl
        have hD := hD.sub (ws' := [(lb, .inl (cI, 40, .inl fb)), (le, .inl (cI, 40, .inl fe)), (en, .inl (cI, 4, .inl jef)), (ct, .inl (cI, 40, .inl cc)), (im, .inr (1, [.ref iq, .int L])), (iq, .inl (cB, n, .inl f)), (m0, .inr (4, [.ref tr, .ref im, .ref fi, .ref se, .ref u0, .ref id, .ref ct, .int r15, .int r19, .int wg])), (l0, .inr (3, [.int ln, .int lds, .int ltb, .ref lo, .ref lp, .ref lt, .ref lb, .ref le, .int lc, .int ld])), (id, .inr (1, [.ref jq, .int il2_2])), (jq, .inl (cB, 60, .inl g_3)), (u0, .inr (8, [.ref pb, .ref en, .int juc, .int juk])), (pb, .inr (1, [.ref pq, .int jpL])), (pq, .inl (cB, 400, .inl jpf))]) [0, 1, 2, 3, 4, 5, 6, 7, 8, 9, 10, 11, 12] (by decide) rfl
        have hl := lv_sub hl [1, 2, 3, 4, 5, 0] rfl
        exact kk131 _ _ _ _ _ ⟨f, rfl, rfl, hP, hD, hS, hl⟩
      · skip
        have g105_54 : ¬ wg.toInt = 0 := fun h8 => h_9 ((i_eq rfl (by decide)).mpr h8)
        refine lv_aload_n hx hb d_Maker_passRecord_108 rfl (lv_at hl 1 rfl) ?_
        refine lv_aload_n hx hb d_Maker_passRecord_109 rfl (lv_at hl 2 rfl) ?_
        refine lv_aload_n hx hb d_Maker_passRecord_110 rfl (lv_at hl 3 rfl) ?_
        refine lv_aload_n hx hb d_Maker_passRecord_111 rfl (lv_at hl 1 rfl) ?_
        refine va_get (D := D) (ci := 4) (v := .int r15) (C := "DiscMaker$Maker") (T := F_Maker) (N := 10) hx hb ht9 in_Maker hown hK hP 6 rfl rfl 7 (by decide) (ht9 _ k354) (fun _ h9 => h9) rfl d_Maker_passRecord_112 ?_
        refine lv_iload hx hb d_Maker_passRecord_115 (lv_at hl 0 rfl) ?_
        have hPc := hP.sub (ws' := [(m0, .inr (4, [.ref tr, .ref im, .ref fi, .ref se, .ref u0, .ref id, .ref ct, .int r15, .int r19, .int wg])), (l0, .inr (3, [.int ln, .int lds, .int ltb, .ref lo, .ref lp, .ref lt, .ref lb, .ref le, .int lc, .int ld])), (lb, .inl (cI, 40, .inl fb)), (le, .inl (cI, 40, .inl fe)), (ct, .inl (cI, 40, .inl cc)), (id, .inr (1, [.ref jq, .int il2_2])), (jq, .inl (cB, 60, .inl g_3)), (im, .inr (1, [.ref iq, .int L])), (iq, .inl (cB, n, .inl f))]) [6, 7, 0, 1, 3, 8, 9, 4, 5] rfl
        have hDc := hD.sub (ws' := [(m0, .inr (4, [.ref tr, .ref im, .ref fi, .ref se, .ref u0, .ref id, .ref ct, .int r15, .int r19, .int wg])), (l0, .inr (3, [.int ln, .int lds, .int ltb, .ref lo, .ref lp, .ref lt, .ref lb, .ref le, .int lc, .int ld])), (lb, .inl (cI, 40, .inl fb)), (le, .inl (cI, 40, .inl fe)), (ct, .inl (cI, 40, .inl cc)), (id, .inr (1, [.ref jq, .int il2_2])), (jq, .inl (cB, 60, .inl g_3)), (im, .inr (1, [.ref iq, .int L])), (iq, .inl (cB, n, .inl f))]) [6, 7, 0, 1, 3, 8, 9, 4, 5] (by decide) rfl
        have hFc := va_free (wc := [(m0, .inr (4, [.ref tr, .ref im, .ref fi, .ref se, .ref u0, .ref id, .ref ct, .int r15, .int r19, .int wg])), (l0, .inr (3, [.int ln, .int lds, .int ltb, .ref lo, .ref lp, .ref lt, .ref lb, .ref le, .int lc, .int ld])), (lb, .inl (cI, 40, .inl fb)), (le, .inl (cI, 40, .inl fe)), (ct, .inl (cI, 40, .inl cc)), (id, .inr (1, [.ref jq, .int il2_2])), (jq, .inl (cB, 60, .inl g_3)), (im, .inr (1, [.ref iq, .int L])), (iq, .inl (cB, n, .inl f))]) hD hS hA [6, 7, 0, 1, 3, 8, 9, 4, 5] rfl
        have hkc : 0 ≤ 0 := by decide
        have hks : 0 ≤ 0 := by decide
        refine va_callv (va_runV (C := "DiscMaker$Maker") (As := [.ref l0, .ref h0, .int r15, .int v14]) (rest := []) ⟨hx, hb, hml, hown, hts⟩ (c3_writeRecord l D cB cI cJ cZ cN cF H.size m0 tr im fi se u0 id ct r15 r19 wg l0 lo lp lt lb le ln lds ltb lc ld fb fe cc jq il2_2 g_3 iq n L f h0 kna kke kta so nu pa ab mo ow gr si sd td ts tl gd gs gl r15 v14 (by (try dsimp only); first | assumption | omega | trivial) (by (try dsimp only); first | assumption | omega | trivial) (by (try dsimp only); first | assumption | omega | trivial) (by (try dsimp only); first | assumption | omega | trivial)) (cwV 4 hts (lg_goodV k1052 k1054 k21 k120 kc_Maker_writeRecord) rfl rfl rfl (by decide +kernel) ⟨Nat.le_of_ble_eq_true rfl, Nat.le_of_ble_eq_true rfl⟩) ⟨fun a U g mk q => by obtain ⟨q0, q1, qP, qK, qN, qD, qZ0, qZ1⟩ := q; exact ⟨q0, q1, qP, va_K.moved (u := U) (U := U.calling g mk a) (Vm.Alike.refl U.vm) qK, qN.calling, qD, SZ_blind qZ0, RO_blind qZ1⟩, va_recv hK hP (ci := 4) (q0 := 6) rfl rfl, fun U hU hW => ⟨rfl, by rw [hU], by rw [hU]; exact hPc, va_K.moved hW.alike hK, NN.warm hW hN, hDc.weaken (fun _ _ _ _ => trivial), SZ_pass hZs hS hFc hW.alike hU, (RO_pass (RO_one hZr 2 rfl) hS hFc hU)⟩⟩ rfl rfl hl.1 rfl (lv_room (Nat.le_of_ble_eq_true rfl)) d_Maker_passRecord_117 ⟨hkc, hks⟩) hS (fun q _ h => hFc q h) hFc (fun u t H1 locs ht hvm hp_r25 hB hz1 hk1 hS => ?_)
        obtain ⟨g_26, rfl⟩ : ∃ z, z = u := ⟨_, rfl⟩
        obtain ⟨hP1, hD1⟩ := hB
        rw [ht] at hP1
        obtain ⟨hP, hD⟩ := va_join (wr := [(en, .inl (cI, 4, .inl jef)), (u0, .inr (8, [.ref pb, .ref en, .int juc, .int juk])), (pb, .inr (1, [.ref pq, .int jpL])), (pq, .inl (cB, 400, .inl jpf))]) (w1 := [(m0, .inr (4, [.ref tr, .ref im, .ref fi, .ref se, .ref u0, .ref id, .ref ct, .int r15, .int r19, .int wg])), (l0, .inr (3, [.int ln, .int lds, .int ltb, .ref lo, .ref lp, .ref lt, .ref lb, .ref le, .int lc, .int ld])), (lb, .inl (cI, 40, .inl fb)), (le, .inl (cI, 40, .inl fe)), (ct, .inl (cI, 40, .inl cc)), (id, .inr (1, [.ref jq, .int il2_2])), (jq, .inl (cB, 60, .inl g_3)), (im, .inr (1, [.ref iq, .int L])), (iq, .inl (cB, n, .inl g_26))]) hP hD [6, 7, 0, 1, 3, 8, 9, 4, 5] [2, 10, 11, 12] rfl rfl (by decide) (by decide) hk1 hFc hP1 hD1
        clear hPc hDc hFc hP1 hD1 hk1 hz1
        generalize H1 = H at hP hS ⊢
        have hP : va_P D CL [(en, .inl (cI, 4, .inl jef)), (u0, .inr (8, [.ref pb, .ref en, .int juc, .int juk])), (pb, .inr (1, [.ref pq, .int jpL])), (pq, .inl (cB, 400, .inl jpf)), (m0, .inr (4, [.ref tr, .ref im, .ref fi, .ref se, .ref u0, .ref id, .ref ct, .int r15, .int r19, .int wg])), (l0, .inr (3, [.int ln, .int lds, .int ltb, .ref lo, .ref lp, .ref lt, .ref lb, .ref le, .int lc, .int ld])), (lb, .inl (cI, 40, .inl fb)), (le, .inl (cI, 40, .inl fe)), (ct, .inl (cI, 40, .inl cc)), (id, .inr (1, [.ref jq, .int il2_2])), (jq, .inl (cB, 60, .inl g_3)), (im, .inr (1, [.ref iq, .int L])), (iq, .inl (cB, n, .inl g_26))] H := hP
        have hD : va_D A [(en, .inl (cI, 4, .inl jef)), (u0, .inr (8, [.ref pb, .ref en, .int juc, .int juk])), (pb, .inr (1, [.ref pq, .int jpL])), (pq, .inl (cB, 400, .inl jpf)), (m0, .inr (4, [.ref tr, .ref im, .ref fi, .ref se, .ref u0, .ref id, .ref ct, .int r15, .int r19, .int wg])), (l0, .inr (3, [.int ln, .int lds, .int ltb, .ref lo, .ref lp, .ref lt, .ref lb, .ref le, .int lc, .int ld])), (lb, .inl (cI, 40, .inl fb)), (le, .inl (cI, 40, .inl fe)), (ct, .inl (cI, 40, .inl cc)), (id, .inr (1, [.ref jq, .int il2_2])), (jq, .inl (cB, 60, .inl g_3)), (im, .inr (1, [.ref iq, .int L])), (iq, .inl (cB, n, .inl g_26))] := hD
        refine lv_aload_n hx hb d_Maker_passRecord_120 rfl (lv_at hl 1 rfl) ?_
        refine lv_aload_n hx hb d_Maker_passRecord_121 rfl (lv_at hl 1 rfl) ?_
        refine va_get (D := D) (ci := 4) (v := .int r15) (C := "DiscMaker$Maker") (T := F_Maker) (N := 10) hx hb ht9 in_Maker hown hK hP 4 rfl rfl 7 (by decide) (ht9 _ k354) (fun _ h9 => h9) rfl d_Maker_passRecord_122 ?_
        refine lv_iload hx hb d_Maker_passRecord_125 (lv_at hl 5 rfl) ?_
        refine lv_iadd hx hb d_Maker_passRecord_127 ?_
        refine lv_topi (fun v27 e_v27 => ?_)
        have t_v27 : v27.toInt = r15.toInt + hd9.toInt := by rw [e_v27]; exact i_add rfl rfl (by omega) (by omega)
        have hPc := hP.sub (ws' := [(m0, .inr (4, [.ref tr, .ref im, .ref fi, .ref se, .ref u0, .ref id, .ref ct, .int r15, .int r19, .int wg])), (u0, .inr (8, [.ref pb, .ref en, .int juc, .int juk])), (pb, .inr (1, [.ref pq, .int jpL])), (pq, .inl (cB, 400, .inl jpf)), (im, .inr (1, [.ref iq, .int L])), (iq, .inl (cB, n, .inl g_26))]) [4, 1, 2, 3, 11, 12] rfl
        have hDc := hD.sub (ws' := [(m0, .inr (4, [.ref tr, .ref im, .ref fi, .ref se, .ref u0, .ref id, .ref ct, .int r15, .int r19, .int wg])), (u0, .inr (8, [.ref pb, .ref en, .int juc, .int juk])), (pb, .inr (1, [.ref pq, .int jpL])), (pq, .inl (cB, 400, .inl jpf)), (im, .inr (1, [.ref iq, .int L])), (iq, .inl (cB, n, .inl g_26))]) [4, 1, 2, 3, 11, 12] (by decide) rfl
        have hFc := va_free (wc := [(m0, .inr (4, [.ref tr, .ref im, .ref fi, .ref se, .ref u0, .ref id, .ref ct, .int r15, .int r19, .int wg])), (u0, .inr (8, [.ref pb, .ref en, .int juc, .int juk])), (pb, .inr (1, [.ref pq, .int jpL])), (pq, .inl (cB, 400, .inl jpf)), (im, .inr (1, [.ref iq, .int L])), (iq, .inl (cB, n, .inl g_26))]) hD hS hA [4, 1, 2, 3, 11, 12] rfl
        have hkc : 0 ≤ 0 := by decide
        have hks : 0 ≤ 0 := by decide
        refine va_callv (va_runV (C := "DiscMaker$Maker") (As := [.int v27]) (rest := []) ⟨hx, hb, hml, hown, hts⟩ (c3_writeParts l D cB cI cJ cZ cN cF H.size m0 tr im fi se u0 id ct r15 r19 wg pb pq en juc juk jpL jpf iq n L g_26 v27 (by (try dsimp only); first | assumption | omega | trivial) (by (try dsimp only); first | assumption | omega | trivial) (by (try dsimp only); first | assumption | omega | trivial) (by (try dsimp only); first | assumption | omega | trivial)) (cwV 1 hts (lg_goodV k1068 k1070 k22 k120 kc_Maker_writeParts) rfl rfl rfl (by decide +kernel) ⟨Nat.le_of_ble_eq_true rfl, Nat.le_of_ble_eq_true rfl⟩) ⟨fun a U g mk q => by obtain ⟨q0, q1, qP, qK, qN, qD⟩ := q; exact ⟨q0, q1, qP, va_K.moved (u := U) (U := U.calling g mk a) (Vm.Alike.refl U.vm) qK, qN.calling, qD⟩, va_recv hK hP (ci := 4) (q0 := 4) rfl rfl, fun U hU hW => ⟨rfl, by rw [hU], by rw [hU]; exact hPc, va_K.moved hW.alike hK, NN.warm hW hN, hDc.weaken (fun _ _ _ _ => trivial)⟩⟩ rfl rfl hl.1 rfl (lv_room (Nat.le_of_ble_eq_true rfl)) d_Maker_passRecord_128 ⟨hkc, hks⟩) hS (fun q _ h => hFc q h) hFc (fun u t H1 locs ht hvm hp_r28 hB hz1 hk1 hS => ?_)
        obtain ⟨g_29, rfl⟩ : ∃ z, z = u := ⟨_, rfl⟩
        obtain ⟨hP1, hD1⟩ := hB
        rw [ht] at hP1
        obtain ⟨hP, hD⟩ := va_join (wr := [(en, .inl (cI, 4, .inl jef)), (l0, .inr (3, [.int ln, .int lds, .int ltb, .ref lo, .ref lp, .ref lt, .ref lb, .ref le, .int lc, .int ld])), (lb, .inl (cI, 40, .inl fb)), (le, .inl (cI, 40, .inl fe)), (ct, .inl (cI, 40, .inl cc)), (id, .inr (1, [.ref jq, .int il2_2])), (jq, .inl (cB, 60, .inl g_3))]) (w1 := [(m0, .inr (4, [.ref tr, .ref im, .ref fi, .ref se, .ref u0, .ref id, .ref ct, .int r15, .int r19, .int wg])), (u0, .inr (8, [.ref pb, .ref en, .int juc, .int juk])), (pb, .inr (1, [.ref pq, .int jpL])), (pq, .inl (cB, 400, .inl jpf)), (im, .inr (1, [.ref iq, .int L])), (iq, .inl (cB, n, .inl g_29))]) hP hD [4, 1, 2, 3, 11, 12] [0, 5, 6, 7, 8, 9, 10] rfl rfl (by decide) (by decide) hk1 hFc hP1 hD1
        clear hPc hDc hFc hP1 hD1 hk1 hz1
        generalize H1 = H at hP hS ⊢
        have hP : va_P D CL [(en, .inl (cI, 4, .inl jef)), (l0, .inr (3, [.int ln, .int lds, .int ltb, .ref lo, .ref lp, .ref lt, .ref lb, .ref le, .int lc, .int ld])), (lb, .inl (cI, 40, .inl fb)), (le, .inl (cI, 40, .inl fe)), (ct, .inl (cI, 40, .inl cc)), (id, .inr (1, [.ref jq, .int il2_2])), (jq, .inl (cB, 60, .inl g_3)), (m0, .inr (4, [.ref tr, .ref im, .ref fi, .ref se, .ref u0, .ref id, .ref ct, .int r15, .int r19, .int wg])), (u0, .inr (8, [.ref pb, .ref en, .int juc, .int juk])), (pb, .inr (1, [.ref pq, .int jpL])), (pq, .inl (cB, 400, .inl jpf)), (im, .inr (1, [.ref iq, .int L])), (iq, .inl (cB, n, .inl g_29))] H := hP
        have hD : va_D A [(en, .inl (cI, 4, .inl jef)), (l0, .inr (3, [.int ln, .int lds, .int ltb, .ref lo, .ref lp, .ref lt, .ref lb, .ref le, .int lc, .int ld])), (lb, .inl (cI, 40, .inl fb)), (le, .inl (cI, 40, .inl fe)), (ct, .inl (cI, 40, .inl cc)), (id, .inr (1, [.ref jq, .int il2_2])), (jq, .inl (cB, 60, .inl g_3)), (m0, .inr (4, [.ref tr, .ref im, .ref fi, .ref se, .ref u0, .ref id, .ref ct, .int r15, .int r19, .int wg])), (u0, .inr (8, [.ref pb, .ref en, .int juc, .int juk])), (pb, .inr (1, [.ref pq, .int jpL])), (pq, .inl (cB, 400, .inl jpf)), (im, .inr (1, [.ref iq, .int L])), (iq, .inl (cB, n, .inl g_29))] := hD
        have hP := hP.sub (ws' := [(lb, .inl (cI, 40, .inl fb)), (le, .inl (cI, 40, .inl fe)), (en, .inl (cI, 4, .inl jef)), (ct, .inl (cI, 40, .inl cc)), (im, .inr (1, [.ref iq, .int L])), (iq, .inl (cB, n, .inl g_29)), (m0, .inr (4, [.ref tr, .ref im, .ref fi, .ref se, .ref u0, .ref id, .ref ct, .int r15, .int r19, .int wg])), (l0, .inr (3, [.int ln, .int lds, .int ltb, .ref lo, .ref lp, .ref lt, .ref lb, .ref le, .int lc, .int ld])), (id, .inr (1, [.ref jq, .int il2_2])), (jq, .inl (cB, 60, .inl g_3)), (u0, .inr (8, [.ref pb, .ref en, .int juc, .int juk])), (pb, .inr (1, [.ref pq, .int jpL])), (pq, .inl (cB, 400, .inl jpf))]) [2, 3, 0, 4, 11, 12, 7, 1, 5, 6, 8, 9, 10] rfl
        have hD := hD.sub (ws' := [(lb, .inl (cI, 40, .inl fb)), (le, .inl (cI, 40, .inl fe)), (en, .inl (cI, 4, .inl jef)), (ct, .inl (cI, 40, .inl cc)), (im, .inr (1, [.ref iq, .int L])), (iq, .inl (cB, n, .inl g_29)), (m0, .inr (4, [.ref tr, .ref im, .ref fi, .ref se, .ref u0, .ref id, .ref ct, .int r15, .int r19, .int wg])), (l0, .inr (3, [.int ln, .int lds, .int ltb, .ref lo, .ref lp, .ref lt, .ref lb, .ref le, .int lc, .int ld])), (id, .inr (1, [.ref jq, .int il2_2])), (jq, .inl (cB, 60, .inl g_3)), (u0, .inr (8, [.ref pb, .ref en, .int juc, .int juk])), (pb, .inr (1, [.ref pq, .int jpL])), (pq, .inl (cB, 400, .inl jpf))]) [2, 3, 0, 4, 11, 12, 7, 1, 5, 6, 8, 9, 10] (by decide) rfl
        have hl := lv_sub hl [1, 2, 3, 4, 5, 0] rfl
        exact kk131 _ _ _ _ _ ⟨g_29, rfl, rfl, hP, hD, hS, hl⟩
  · skip
    intro kk55
    refine lv_aload_n hx hb d_Maker_passRecord_29 rfl (lv_at hl 2 rfl) ?_
    refine va_getN (D := D) (ci := 3) (v := .int ln) (C := "DiscMaker$Layout") (T := F_Layout) (N := 10) hx hb ht9 in_Layout hown hK hP 7 rfl rfl 0 (by decide) (va_Nw.use rfl (hN _ k281)) (fun _ h9 => h9) rfl d_Maker_passRecord_30 ?_
    refine lv_if_ne (tgt := 55) hx hb d_Maker_passRecord_33 (by decide) (fun h_9 => ?_) (fun h_9 => ?_)
    · skip
      have g33_72 : ¬ ln.toInt = 0 := fun h8 => h_9 ((i_eq rfl (by decide)).mpr h8)
      have hP := hP.sub (ws' := [(lb, .inl (cI, 40, .inl fb)), (le, .inl (cI, 40, .inl fe)), (en, .inl (cI, 4, .inl ef)), (ct, .inl (cI, 40, .inl cc)), (im, .inr (1, [.ref iq, .int L])), (iq, .inl (cB, n, .inl f)), (m0, .inr (4, [.ref tr, .ref im, .ref fi, .ref se, .ref u0, .ref id, .ref ct, .int ra, .int ru, .int wg])), (l0, .inr (3, [.int ln, .int lds, .int ltb, .ref lo, .ref lp, .ref lt, .ref lb, .ref le, .int lc, .int ld])), (id, .inr (1, [.ref jq, .int il2_2])), (jq, .inl (cB, 60, .inl g_3)), (u0, .inr (8, [.ref pb, .ref en, .int 0, .int 0])), (pb, .inr (1, [.ref pq, .int 0])), (pq, .inl (cB, 400, .inl pf))]) [0, 1, 2, 3, 4, 5, 6, 7, 8, 9, 10, 11, 12] rfl
      have hD := hD.sub (ws' := [(lb, .inl (cI, 40, .inl fb)), (le, .inl (cI, 40, .inl fe)), (en, .inl (cI, 4, .inl ef)), (ct, .inl (cI, 40, .inl cc)), (im, .inr (1, [.ref iq, .int L])), (iq, .inl (cB, n, .inl f)), (m0, .inr (4, [.ref tr, .ref im, .ref fi, .ref se, .ref u0, .ref id, .ref ct, .int ra, .int ru, .int wg])), (l0, .inr (3, [.int ln, .int lds, .int ltb, .ref lo, .ref lp, .ref lt, .ref lb, .ref le, .int lc, .int ld])), (id, .inr (1, [.ref jq, .int il2_2])), (jq, .inl (cB, 60, .inl g_3)), (u0, .inr (8, [.ref pb, .ref en, .int 0, .int 0])), (pb, .inr (1, [.ref pq, .int 0])), (pq, .inl (cB, 400, .inl pf))]) [0, 1, 2, 3, 4, 5, 6, 7, 8, 9, 10, 11, 12] (by decide) rfl
      have hl := lv_sub hl [1, 2, 3, 4, 0] rfl
      exact kk55 _ _ _ _ _ ⟨r6, 0, 0, 0, pf, ef, rfl, rfl, (by (try dsimp only); first | assumption | omega | trivial), (by (try dsimp only); first | assumption | omega | trivial), (by (try dsimp only); first | assumption | omega | trivial), hP, hD, hS, hl⟩
    · skip
      have g33_72 : ln.toInt = 0 := (i_eq rfl (by decide)).mp h_9
      refine lv_aload_n hx hb d_Maker_passRecord_36 rfl (lv_at hl 1 rfl) ?_
      refine lv_aload_n hx hb d_Maker_passRecord_37 rfl (lv_at hl 3 rfl) ?_
      refine lv_iload_n hx hb d_Maker_passRecord_38 rfl (lv_at hl 4 rfl) ?_
      have hPc := hP.sub (ws' := [(m0, .inr (4, [.ref tr, .ref im, .ref fi, .ref se, .ref u0, .ref id, .ref ct, .int ra, .int ru, .int wg])), (u0, .inr (8, [.ref pb, .ref en, .int 0, .int 0])), (pb, .inr (1, [.ref pq, .int 0])), (pq, .inl (cB, 400, .inl pf)), (en, .inl (cI, 4, .inl ef))]) [6, 10, 11, 12, 2] rfl
      have hDc := hD.sub (ws' := [(m0, .inr (4, [.ref tr, .ref im, .ref fi, .ref se, .ref u0, .ref id, .ref ct, .int ra, .int ru, .int wg])), (u0, .inr (8, [.ref pb, .ref en, .int 0, .int 0])), (pb, .inr (1, [.ref pq, .int 0])), (pq, .inl (cB, 400, .inl pf)), (en, .inl (cI, 4, .inl ef))]) [6, 10, 11, 12, 2] (by decide) rfl
      have hFc := va_free (wc := [(m0, .inr (4, [.ref tr, .ref im, .ref fi, .ref se, .ref u0, .ref id, .ref ct, .int ra, .int ru, .int wg])), (u0, .inr (8, [.ref pb, .ref en, .int 0, .int 0])), (pb, .inr (1, [.ref pq, .int 0])), (pq, .inl (cB, 400, .inl pf)), (en, .inl (cI, 4, .inl ef))]) hD hS hA [6, 10, 11, 12, 2] rfl
      have hkc : 0 ≤ 0 := by decide
      have hks : 0 ≤ 0 := by decide
      refine va_callv (va_runV (C := "DiscMaker$Maker") (As := [.ref h0, .int x]) (rest := []) ⟨hx, hb, hml, hown, hts⟩ (c3_buildParts l D cB cI cJ cZ cN cF H.size m0 tr im fi se u0 id ct ra ru wg pb pq en 0 0 0 pf ef ta cn dr na ng nn nf cm h0 kna kke kta so nu pa ab mo ow gr si sd l1 c1 l3 c3 x (by (try dsimp only); first | assumption | omega | trivial) (by (try dsimp only); first | assumption | omega | trivial) (EnOK_0 (by omega)) (by (try dsimp only); first | assumption | omega | trivial) (by (try dsimp only); first | assumption | omega | trivial) (by (try dsimp only); first | assumption | omega | trivial) (by (try dsimp only); first | assumption | omega | trivial) (by (try dsimp only); first | assumption | omega | trivial)) (cwV 2 hts (lg_goodV k1001 k1003 k20 k120 kc_Maker_buildParts) rfl rfl rfl (by decide +kernel) ⟨Nat.le_of_ble_eq_true rfl, Nat.le_of_ble_eq_true rfl⟩) ⟨fun a U g mk q => by obtain ⟨q0, q1, qP, qK, qN, qD, qZ0⟩ := q; exact ⟨q0, q1, qP, va_K.moved (u := U) (U := U.calling g mk a) (Vm.Alike.refl U.vm) qK, qN.calling, qD, RO_blind qZ0⟩, va_recv hK hP (ci := 4) (q0 := 6) rfl rfl, fun U hU hW => ⟨rfl, by rw [hU], by rw [hU]; exact hPc, va_K.moved hW.alike hK, NN.warm hW hN, hDc.weaken (fun _ _ _ _ => trivial), (RO_app (w1 := [(tr, .inr (10, [.ref ta, .int cn, .int dr]))]) (w2 := ([(ta, .inl (cN, 40, .inr (.inr (.inr (.inr (rowF na cm)))))), (h0, .inr (5, [.int so, .ref kna, .ref kke, .ref kta, .int nu, .int pa, .int ab, .int mo, .int ow, .int gr, .int si, .int sd])), (kna, .inl (cB, l1, .inl c1)), (kta, .inl (cB, l3, .inl c3))] ++ (PL (NC cB na ng nn nf) cm))) (RO_pass (RO_one hZr 0 rfl) hS hFc hU) (RO_app (w1 := [(ta, .inl (cN, 40, .inr (.inr (.inr (.inr (rowF na cm))))))]) (w2 := ([(h0, .inr (5, [.int so, .ref kna, .ref kke, .ref kta, .int nu, .int pa, .int ab, .int mo, .int ow, .int gr, .int si, .int sd])), (kna, .inl (cB, l1, .inl c1)), (kta, .inl (cB, l3, .inl c3))] ++ (PL (NC cB na ng nn nf) cm))) (RO_pass (RO_one hZr 1 rfl) hS hFc hU) (RO_app (w1 := [(h0, .inr (5, [.int so, .ref kna, .ref kke, .ref kta, .int nu, .int pa, .int ab, .int mo, .int ow, .int gr, .int si, .int sd]))]) (w2 := ([(kna, .inl (cB, l1, .inl c1)), (kta, .inl (cB, l3, .inl c3))] ++ (PL (NC cB na ng nn nf) cm))) (RO_pass (RO_one hZr 2 rfl) hS hFc hU) (RO_app (w1 := [(kna, .inl (cB, l1, .inl c1))]) (w2 := ([(kta, .inl (cB, l3, .inl c3))] ++ (PL (NC cB na ng nn nf) cm))) (RO_pass (RO_one hZr 3 rfl) hS hFc hU) (RO_app (w1 := [(kta, .inl (cB, l3, .inl c3))]) (w2 := (PL (NC cB na ng nn nf) cm)) (RO_pass (RO_one hZr 5 rfl) hS hFc hU) (RO_pass (RO_tail (X := [(tr, .inr (10, [.ref ta, .int cn, .int dr])), (ta, .inl (cN, 40, .inr (.inr (.inr (.inr (rowF na cm)))))), (h0, .inr (5, [.int so, .ref kna, .ref kke, .ref kta, .int nu, .int pa, .int ab, .int mo, .int ow, .int gr, .int si, .int sd])), (kna, .inl (cB, l1, .inl c1)), (kke, .inl (cB, 11, .inl c2)), (kta, .inl (cB, l3, .inl c3))]) hZr) hS hFc hU))))))⟩⟩ rfl rfl hl.1 rfl (lv_room (Nat.le_of_ble_eq_true rfl)) d_Maker_passRecord_39 ⟨hkc, hks⟩) hS (fun q _ h => hFc q h) hFc (fun u t H1 locs ht hvm hp_r30 hB hz1 hk1 hS => ?_)
      obtain ⟨uc2_31, L2_32, g_33, ef2_34⟩ := u
      obtain ⟨hP1, hD1⟩ := hB
      rw [ht] at hP1
      obtain ⟨hP, hD⟩ := va_join (wr := [(lb, .inl (cI, 40, .inl fb)), (le, .inl (cI, 40, .inl fe)), (ct, .inl (cI, 40, .inl cc)), (im, .inr (1, [.ref iq, .int L])), (iq, .inl (cB, n, .inl f)), (l0, .inr (3, [.int ln, .int lds, .int ltb, .ref lo, .ref lp, .ref lt, .ref lb, .ref le, .int lc, .int ld])), (id, .inr (1, [.ref jq, .int il2_2])), (jq, .inl (cB, 60, .inl g_3))]) (w1 := [(m0, .inr (4, [.ref tr, .ref im, .ref fi, .ref se, .ref u0, .ref id, .ref ct, .int ra, .int ru, .int wg])), (u0, .inr (8, [.ref pb, .ref en, .int uc2_31, .int 0])), (pb, .inr (1, [.ref pq, .int L2_32])), (pq, .inl (cB, 400, .inl g_33)), (en, .inl (cI, 4, .inl ef2_34))]) hP hD [6, 10, 11, 12, 2] [0, 1, 3, 4, 5, 7, 8, 9] rfl rfl (by decide) (by decide) hk1 hFc hP1 hD1
      clear hPc hDc hFc hP1 hD1 hk1 hz1
      generalize H1 = H at hP hS ⊢
      have hP : va_P D CL [(lb, .inl (cI, 40, .inl fb)), (le, .inl (cI, 40, .inl fe)), (ct, .inl (cI, 40, .inl cc)), (im, .inr (1, [.ref iq, .int L])), (iq, .inl (cB, n, .inl f)), (l0, .inr (3, [.int ln, .int lds, .int ltb, .ref lo, .ref lp, .ref lt, .ref lb, .ref le, .int lc, .int ld])), (id, .inr (1, [.ref jq, .int il2_2])), (jq, .inl (cB, 60, .inl g_3)), (m0, .inr (4, [.ref tr, .ref im, .ref fi, .ref se, .ref u0, .ref id, .ref ct, .int ra, .int ru, .int wg])), (u0, .inr (8, [.ref pb, .ref en, .int uc2_31, .int 0])), (pb, .inr (1, [.ref pq, .int L2_32])), (pq, .inl (cB, 400, .inl g_33)), (en, .inl (cI, 4, .inl ef2_34))] H := hP
      have hD : va_D A [(lb, .inl (cI, 40, .inl fb)), (le, .inl (cI, 40, .inl fe)), (ct, .inl (cI, 40, .inl cc)), (im, .inr (1, [.ref iq, .int L])), (iq, .inl (cB, n, .inl f)), (l0, .inr (3, [.int ln, .int lds, .int ltb, .ref lo, .ref lp, .ref lt, .ref lb, .ref le, .int lc, .int ld])), (id, .inr (1, [.ref jq, .int il2_2])), (jq, .inl (cB, 60, .inl g_3)), (m0, .inr (4, [.ref tr, .ref im, .ref fi, .ref se, .ref u0, .ref id, .ref ct, .int ra, .int ru, .int wg])), (u0, .inr (8, [.ref pb, .ref en, .int uc2_31, .int 0])), (pb, .inr (1, [.ref pq, .int L2_32])), (pq, .inl (cB, 400, .inl g_33)), (en, .inl (cI, 4, .inl ef2_34))] := hD
      try dsimp only at hp_r30
      obtain ⟨hL2_35, huc2_36, hen2_37⟩ := hp_r30
      refine lv_aload_n hx hb d_Maker_passRecord_42 rfl (lv_at hl 1 rfl) ?_
      refine va_get (D := D) (ci := 4) (v := .ref u0) (C := "DiscMaker$Maker") (T := F_Maker) (N := 10) hx hb ht9 in_Maker hown hK hP 8 rfl rfl 4 (by decide) (ht9 _ k351) (fun _ h9 => h9) rfl d_Maker_passRecord_43 ?_
      refine lv_sipush (v := 254) hx hb d_Maker_passRecord_46 (by decide) ?_
      refine lv_iload hx hb d_Maker_passRecord_49 (lv_at hl 0 rfl) ?_
      refine lv_isub hx hb d_Maker_passRecord_51 ?_
      refine lv_topi (fun v38 e_v38 => ?_)
      have t_v38 : v38.toInt = 254 - r6.toInt := by rw [e_v38]; exact i_sub (by decide) rfl (by omega) (by omega)
      have hPc := hP.sub (ws' := [(u0, .inr (8, [.ref pb, .ref en, .int uc2_31, .int 0])), (pb, .inr (1, [.ref pq, .int L2_32])), (pq, .inl (cB, 400, .inl g_33)), (en, .inl (cI, 4, .inl ef2_34))]) [9, 10, 11, 12] rfl
      have hDc := hD.sub (ws' := [(u0, .inr (8, [.ref pb, .ref en, .int uc2_31, .int 0])), (pb, .inr (1, [.ref pq, .int L2_32])), (pq, .inl (cB, 400, .inl g_33)), (en, .inl (cI, 4, .inl ef2_34))]) [9, 10, 11, 12] (by decide) rfl
      have hFc := va_free (wc := [(u0, .inr (8, [.ref pb, .ref en, .int uc2_31, .int 0])), (pb, .inr (1, [.ref pq, .int L2_32])), (pq, .inl (cB, 400, .inl g_33)), (en, .inl (cI, 4, .inl ef2_34))]) hD hS hA [9, 10, 11, 12] rfl
      have hkc : 0 ≤ 0 := by decide
      have hks : 0 ≤ 0 := by decide
      refine va_callv (va_runV (C := "DiscMaker$SystemUse") (As := [.int v38]) (rest := []) ⟨hx, hb, hml, hown, hts⟩ (c3_fit l D cB cI cJ cZ cN cF H.size u0 pb pq en uc2_31 0 L2_32 g_33 ef2_34 v38 (by (try dsimp only); first | assumption | omega | trivial) (by (try dsimp only); first | assumption | omega | trivial) (hen2_37)) (cwV 1 hts (lg_goodV k1034 k1035 k1036 k122 kc_SystemUse_fit) rfl rfl rfl (by decide +kernel) ⟨Nat.le_of_ble_eq_true rfl, Nat.le_of_ble_eq_true rfl⟩) ⟨fun a U g mk q => by obtain ⟨q0, q1, qP, qK, qN, qD⟩ := q; exact ⟨q0, q1, qP, va_K.moved (u := U) (U := U.calling g mk a) (Vm.Alike.refl U.vm) qK, qN.calling, qD⟩, va_recv hK hP (ci := 8) (q0 := 9) rfl rfl, fun U hU hW => ⟨rfl, by rw [hU], by rw [hU]; exact hPc, va_K.moved hW.alike hK, NN.warm hW hN, hDc.weaken (fun _ _ _ _ => trivial)⟩⟩ rfl rfl hl.1 rfl (lv_room (Nat.le_of_ble_eq_true rfl)) d_Maker_passRecord_52 ⟨hkc, hks⟩) hS (fun q _ h => hFc q h) hFc (fun u t H1 locs ht hvm hp_r39 hB hz1 hk1 hS => ?_)
      obtain ⟨uk2_40, rfl⟩ : ∃ z, z = u := ⟨_, rfl⟩
      obtain ⟨hP1, hD1⟩ := hB
      rw [ht] at hP1
      obtain ⟨hP, hD⟩ := va_join (wr := [(lb, .inl (cI, 40, .inl fb)), (le, .inl (cI, 40, .inl fe)), (ct, .inl (cI, 40, .inl cc)), (im, .inr (1, [.ref iq, .int L])), (iq, .inl (cB, n, .inl f)), (l0, .inr (3, [.int ln, .int lds, .int ltb, .ref lo, .ref lp, .ref lt, .ref lb, .ref le, .int lc, .int ld])), (id, .inr (1, [.ref jq, .int il2_2])), (jq, .inl (cB, 60, .inl g_3)), (m0, .inr (4, [.ref tr, .ref im, .ref fi, .ref se, .ref u0, .ref id, .ref ct, .int ra, .int ru, .int wg]))]) (w1 := [(u0, .inr (8, [.ref pb, .ref en, .int uc2_31, .int uk2_40])), (pb, .inr (1, [.ref pq, .int L2_32])), (pq, .inl (cB, 400, .inl g_33)), (en, .inl (cI, 4, .inl ef2_34))]) hP hD [9, 10, 11, 12] [0, 1, 2, 3, 4, 5, 6, 7, 8] rfl rfl (by decide) (by decide) hk1 hFc hP1 hD1
      clear hPc hDc hFc hP1 hD1 hk1 hz1
      generalize H1 = H at hP hS ⊢
      have hP : va_P D CL [(lb, .inl (cI, 40, .inl fb)), (le, .inl (cI, 40, .inl fe)), (ct, .inl (cI, 40, .inl cc)), (im, .inr (1, [.ref iq, .int L])), (iq, .inl (cB, n, .inl f)), (l0, .inr (3, [.int ln, .int lds, .int ltb, .ref lo, .ref lp, .ref lt, .ref lb, .ref le, .int lc, .int ld])), (id, .inr (1, [.ref jq, .int il2_2])), (jq, .inl (cB, 60, .inl g_3)), (m0, .inr (4, [.ref tr, .ref im, .ref fi, .ref se, .ref u0, .ref id, .ref ct, .int ra, .int ru, .int wg])), (u0, .inr (8, [.ref pb, .ref en, .int uc2_31, .int uk2_40])), (pb, .inr (1, [.ref pq, .int L2_32])), (pq, .inl (cB, 400, .inl g_33)), (en, .inl (cI, 4, .inl ef2_34))] H := hP
      have hD : va_D A [(lb, .inl (cI, 40, .inl fb)), (le, .inl (cI, 40, .inl fe)), (ct, .inl (cI, 40, .inl cc)), (im, .inr (1, [.ref iq, .int L])), (iq, .inl (cB, n, .inl f)), (l0, .inr (3, [.int ln, .int lds, .int ltb, .ref lo, .ref lp, .ref lt, .ref lb, .ref le, .int lc, .int ld])), (id, .inr (1, [.ref jq, .int il2_2])), (jq, .inl (cB, 60, .inl g_3)), (m0, .inr (4, [.ref tr, .ref im, .ref fi, .ref se, .ref u0, .ref id, .ref ct, .int ra, .int ru, .int wg])), (u0, .inr (8, [.ref pb, .ref en, .int uc2_31, .int uk2_40])), (pb, .inr (1, [.ref pq, .int L2_32])), (pq, .inl (cB, 400, .inl g_33)), (en, .inl (cI, 4, .inl ef2_34))] := hD
      try dsimp only at hp_r39
      have hk_41 := hp_r39
      have hP := hP.sub (ws' := [(lb, .inl (cI, 40, .inl fb)), (le, .inl (cI, 40, .inl fe)), (en, .inl (cI, 4, .inl ef2_34)), (ct, .inl (cI, 40, .inl cc)), (im, .inr (1, [.ref iq, .int L])), (iq, .inl (cB, n, .inl f)), (m0, .inr (4, [.ref tr, .ref im, .ref fi, .ref se, .ref u0, .ref id, .ref ct, .int ra, .int ru, .int wg])), (l0, .inr (3, [.int ln, .int lds, .int ltb, .ref lo, .ref lp, .ref lt, .ref lb, .ref le, .int lc, .int ld])), (id, .inr (1, [.ref jq, .int il2_2])), (jq, .inl (cB, 60, .inl g_3)), (u0, .inr (8, [.ref pb, .ref en, .int uc2_31, .int uk2_40])), (pb, .inr (1, [.ref pq, .int L2_32])), (pq, .inl (cB, 400, .inl g_33))]) [0, 1, 12, 2, 3, 4, 8, 5, 6, 7, 9, 10, 11] rfl
      have hD := hD.sub (ws' := [(lb, .inl (cI, 40, .inl fb)), (le, .inl (cI, 40, .inl fe)), (en, .inl (cI, 4, .inl ef2_34)), (ct, .inl (cI, 40, .inl cc)), (im, .inr (1, [.ref iq, .int L])), (iq, .inl (cB, n, .inl f)), (m0, .inr (4, [.ref tr, .ref im, .ref fi, .ref se, .ref u0, .ref id, .ref ct, .int ra, .int ru, .int wg])), (l0, .inr (3, [.int ln, .int lds, .int ltb, .ref lo, .ref lp, .ref lt, .ref lb, .ref le, .int lc, .int ld])), (id, .inr (1, [.ref jq, .int il2_2])), (jq, .inl (cB, 60, .inl g_3)), (u0, .inr (8, [.ref pb, .ref en, .int uc2_31, .int uk2_40])), (pb, .inr (1, [.ref pq, .int L2_32])), (pq, .inl (cB, 400, .inl g_33))]) [0, 1, 12, 2, 3, 4, 8, 5, 6, 7, 9, 10, 11] (by decide) rfl
      have hl := lv_sub hl [1, 2, 3, 4, 0] rfl
      exact kk55 _ _ _ _ _ ⟨r6, uc2_31, uk2_40, L2_32, g_33, ef2_34, rfl, rfl, (by (try dsimp only); first | assumption | omega | trivial), (by (try dsimp only); first | assumption | omega | trivial), (by (try dsimp only); first | assumption | omega | trivial), hP, hD, hS, hl⟩

theorem d_Maker_walk_0 : decode b_Maker_walk 0 = .ok (.iload_n 2, 1) := by decide +kernel
theorem d_Maker_walk_1 : decode b_Maker_walk 1 = .ok (.istore_n 3, 1) := by decide +kernel
theorem d_Maker_walk_2 : decode b_Maker_walk 2 = .ok (.iconst 0, 1) := by decide +kernel
theorem d_Maker_walk_3 : decode b_Maker_walk 3 = .ok (.istore 4, 2) := by decide +kernel
theorem d_Maker_walk_5 : decode b_Maker_walk 5 = .ok (.iload 4, 2) := by decide +kernel
theorem d_Maker_walk_7 : decode b_Maker_walk 7 = .ok (.aload_n 1, 1) := by decide +kernel
theorem d_Maker_walk_8 : decode b_Maker_walk 8 = .ok (.getfield 104, 3) := by decide +kernel
theorem d_Maker_walk_11 : decode b_Maker_walk 11 = .ok (.if_icmp .ge 156, 3) := by decide +kernel
theorem d_Maker_walk_14 : decode b_Maker_walk 14 = .ok (.aload_n 0, 1) := by decide +kernel
theorem d_Maker_walk_15 : decode b_Maker_walk 15 = .ok (.getfield 43, 3) := by decide +kernel
theorem d_Maker_walk_18 : decode b_Maker_walk 18 = .ok (.getfield 107, 3) := by decide +kernel
theorem d_Maker_walk_21 : decode b_Maker_walk 21 = .ok (.aload_n 1, 1) := by decide +kernel
theorem d_Maker_walk_22 : decode b_Maker_walk 22 = .ok (.getfield 113, 3) := by decide +kernel
theorem d_Maker_walk_25 : decode b_Maker_walk 25 = .ok (.iload 4, 2) := by decide +kernel
theorem d_Maker_walk_27 : decode b_Maker_walk 27 = .ok (.iaload, 1) := by decide +kernel
theorem d_Maker_walk_28 : decode b_Maker_walk 28 = .ok (.aaload, 1) := by decide +kernel
theorem d_Maker_walk_29 : decode b_Maker_walk 29 = .ok (.astore 5, 2) := by decide +kernel
theorem d_Maker_walk_31 : decode b_Maker_walk 31 = .ok (.aload_n 0, 1) := by decide +kernel
theorem d_Maker_walk_32 : decode b_Maker_walk 32 = .ok (.iload_n 3, 1) := by decide +kernel
theorem d_Maker_walk_33 : decode b_Maker_walk 33 = .ok (.sipush 2048, 3) := by decide +kernel
theorem d_Maker_walk_36 : decode b_Maker_walk 36 = .ok (.imul, 1) := by decide +kernel
theorem d_Maker_walk_37 : decode b_Maker_walk 37 = .ok (.putfield 116, 3) := by decide +kernel
theorem d_Maker_walk_40 : decode b_Maker_walk 40 = .ok (.aload_n 0, 1) := by decide +kernel
theorem d_Maker_walk_41 : decode b_Maker_walk 41 = .ok (.aload_n 1, 1) := by decide +kernel
theorem d_Maker_walk_42 : decode b_Maker_walk 42 = .ok (.aload 5, 2) := by decide +kernel
theorem d_Maker_walk_44 : decode b_Maker_walk 44 = .ok (.iconst 0, 1) := by decide +kernel
theorem d_Maker_walk_45 : decode b_Maker_walk 45 = .ok (.invokevirtual 119, 3) := by decide +kernel
theorem d_Maker_walk_48 : decode b_Maker_walk 48 = .ok (.aload_n 0, 1) := by decide +kernel
theorem d_Maker_walk_49 : decode b_Maker_walk 49 = .ok (.aload_n 1, 1) := by decide +kernel
theorem d_Maker_walk_50 : decode b_Maker_walk 50 = .ok (.aload_n 0, 1) := by decide +kernel
theorem d_Maker_walk_51 : decode b_Maker_walk 51 = .ok (.getfield 43, 3) := by decide +kernel
theorem d_Maker_walk_54 : decode b_Maker_walk 54 = .ok (.getfield 107, 3) := by decide +kernel
theorem d_Maker_walk_57 : decode b_Maker_walk 57 = .ok (.aload 5, 2) := by decide +kernel
theorem d_Maker_walk_59 : decode b_Maker_walk 59 = .ok (.getfield 123, 3) := by decide +kernel
theorem d_Maker_walk_62 : decode b_Maker_walk 62 = .ok (.aaload, 1) := by decide +kernel
theorem d_Maker_walk_63 : decode b_Maker_walk 63 = .ok (.iconst 1, 1) := by decide +kernel
theorem d_Maker_walk_64 : decode b_Maker_walk 64 = .ok (.invokevirtual 119, 3) := by decide +kernel
theorem d_Maker_walk_67 : decode b_Maker_walk 67 = .ok (.iconst 0, 1) := by decide +kernel
theorem d_Maker_walk_68 : decode b_Maker_walk 68 = .ok (.istore 6, 2) := by decide +kernel
theorem d_Maker_walk_70 : decode b_Maker_walk 70 = .ok (.iload 6, 2) := by decide +kernel
theorem d_Maker_walk_72 : decode b_Maker_walk 72 = .ok (.aload_n 1, 1) := by decide +kernel
theorem d_Maker_walk_73 : decode b_Maker_walk 73 = .ok (.getfield 128, 3) := by decide +kernel
theorem d_Maker_walk_76 : decode b_Maker_walk 76 = .ok (.if_icmp .ge 47, 3) := by decide +kernel
theorem d_Maker_walk_79 : decode b_Maker_walk 79 = .ok (.aload_n 0, 1) := by decide +kernel
theorem d_Maker_walk_80 : decode b_Maker_walk 80 = .ok (.getfield 43, 3) := by decide +kernel
theorem d_Maker_walk_83 : decode b_Maker_walk 83 = .ok (.getfield 107, 3) := by decide +kernel
theorem d_Maker_walk_86 : decode b_Maker_walk 86 = .ok (.aload_n 1, 1) := by decide +kernel
theorem d_Maker_walk_87 : decode b_Maker_walk 87 = .ok (.getfield 131, 3) := by decide +kernel
theorem d_Maker_walk_90 : decode b_Maker_walk 90 = .ok (.iload 6, 2) := by decide +kernel
theorem d_Maker_walk_92 : decode b_Maker_walk 92 = .ok (.iaload, 1) := by decide +kernel
theorem d_Maker_walk_93 : decode b_Maker_walk 93 = .ok (.aaload, 1) := by decide +kernel
theorem d_Maker_walk_94 : decode b_Maker_walk 94 = .ok (.astore 7, 2) := by decide +kernel
theorem d_Maker_walk_96 : decode b_Maker_walk 96 = .ok (.aload 7, 2) := by decide +kernel
theorem d_Maker_walk_98 : decode b_Maker_walk 98 = .ok (.getfield 123, 3) := by decide +kernel
theorem d_Maker_walk_101 : decode b_Maker_walk 101 = .ok (.aload 5, 2) := by decide +kernel
theorem d_Maker_walk_103 : decode b_Maker_walk 103 = .ok (.getfield 134, 3) := by decide +kernel
theorem d_Maker_walk_106 : decode b_Maker_walk 106 = .ok (.if_icmp .ne 11, 3) := by decide +kernel
theorem d_Maker_walk_109 : decode b_Maker_walk 109 = .ok (.aload_n 0, 1) := by decide +kernel
theorem d_Maker_walk_110 : decode b_Maker_walk 110 = .ok (.aload_n 1, 1) := by decide +kernel
theorem d_Maker_walk_111 : decode b_Maker_walk 111 = .ok (.aload 7, 2) := by decide +kernel
theorem d_Maker_walk_113 : decode b_Maker_walk 113 = .ok (.iconst 2, 1) := by decide +kernel
theorem d_Maker_walk_114 : decode b_Maker_walk 114 = .ok (.invokevirtual 119, 3) := by decide +kernel
theorem d_Maker_walk_117 : decode b_Maker_walk 117 = .ok (.iinc 6 1, 3) := by decide +kernel
theorem d_Maker_walk_120 : decode b_Maker_walk 120 = .ok (.goto (-50), 3) := by decide +kernel
theorem d_Maker_walk_123 : decode b_Maker_walk 123 = .ok (.aload_n 1, 1) := by decide +kernel
theorem d_Maker_walk_124 : decode b_Maker_walk 124 = .ok (.getfield 137, 3) := by decide +kernel
theorem d_Maker_walk_127 : decode b_Maker_walk 127 = .ok (.aload 5, 2) := by decide +kernel
theorem d_Maker_walk_129 : decode b_Maker_walk 129 = .ok (.getfield 134, 3) := by decide +kernel
theorem d_Maker_walk_132 : decode b_Maker_walk 132 = .ok (.iload_n 3, 1) := by decide +kernel
theorem d_Maker_walk_133 : decode b_Maker_walk 133 = .ok (.iastore, 1) := by decide +kernel
theorem d_Maker_walk_134 : decode b_Maker_walk 134 = .ok (.aload_n 1, 1) := by decide +kernel
theorem d_Maker_walk_135 : decode b_Maker_walk 135 = .ok (.getfield 140, 3) := by decide +kernel
theorem d_Maker_walk_138 : decode b_Maker_walk 138 = .ok (.aload 5, 2) := by decide +kernel
theorem d_Maker_walk_140 : decode b_Maker_walk 140 = .ok (.getfield 134, 3) := by decide +kernel
theorem d_Maker_walk_143 : decode b_Maker_walk 143 = .ok (.aload_n 0, 1) := by decide +kernel
theorem d_Maker_walk_144 : decode b_Maker_walk 144 = .ok (.getfield 116, 3) := by decide +kernel
theorem d_Maker_walk_147 : decode b_Maker_walk 147 = .ok (.invokestatic 79, 3) := by decide +kernel
theorem d_Maker_walk_150 : decode b_Maker_walk 150 = .ok (.iload_n 3, 1) := by decide +kernel
theorem d_Maker_walk_151 : decode b_Maker_walk 151 = .ok (.isub, 1) := by decide +kernel
theorem d_Maker_walk_152 : decode b_Maker_walk 152 = .ok (.iastore, 1) := by decide +kernel
theorem d_Maker_walk_153 : decode b_Maker_walk 153 = .ok (.aload_n 0, 1) := by decide +kernel
theorem d_Maker_walk_154 : decode b_Maker_walk 154 = .ok (.getfield 116, 3) := by decide +kernel
theorem d_Maker_walk_157 : decode b_Maker_walk 157 = .ok (.invokestatic 79, 3) := by decide +kernel
theorem d_Maker_walk_160 : decode b_Maker_walk 160 = .ok (.istore_n 3, 1) := by decide +kernel
theorem d_Maker_walk_161 : decode b_Maker_walk 161 = .ok (.iinc 4 1, 3) := by decide +kernel
theorem d_Maker_walk_164 : decode b_Maker_walk 164 = .ok (.goto (-159), 3) := by decide +kernel
theorem d_Maker_walk_167 : decode b_Maker_walk 167 = .ok (.iload_n 3, 1) := by decide +kernel
theorem d_Maker_walk_168 : decode b_Maker_walk 168 = .ok (.ireturn, 1) := by decide +kernel
set_option maxHeartbeats 4000000 in
set_option maxRecDepth 100000 in
theorem c3_walk (l : Launch) (D : va_G) (cB cI cJ cZ cN cF : ClassId) (sz : Nat) (m0 : Nat) (tr : Nat) (im : Nat) (fi : Nat) (se : Nat) (u0 : Nat) (id : Nat) (ct : Nat) (ra : Int32) (ru : Int32) (wg : Int32) (l0 : Nat) (lo : Nat) (lp : Nat) (lt : Nat) (lb : Nat) (le : Nat) (ln : Int32) (lds : Int32) (ltb : Int32) (lc : Int32) (ld : Int32) (fo : Nat → Int32) (fp : Nat → Int32) (fb : Nat → Int32) (fe : Nat → Int32) (pb : Nat) (pq : Nat) (en : Nat) (uc : Int32) (uk : Int32) (pL : Int32) (pf : Nat → Int32) (ef : Nat → Int32) (cc : Nat → Int32) (jq : Nat) (il : Int32) (jf : Nat → Int32) (iq : Nat) (n : Nat) (L : Int32) (f : Nat → Int32) (ta : Nat) (cn : Int32) (dr : Int32) (na : Nat → Nat → Nat) (ng : Nat → Nat → Int32) (nn : Nat → Nat → Nat) (nf : Nat → Nat → Nat → Int32) (cm : Nat) (td : Nat) (ts : Nat) (tl : Nat) (gd : Nat → Int32) (gs : Nat → Int32) (gl : Nat → Int32) (x : Int32) (hL : 0 ≤ L.toInt ∧ L.toInt ≤ n) (hn : n ≤ 3000000) (hcn : cn.toInt = cm) (hcm : cm ≤ 40) (htok : TOK cm ng nn) (hlc : 0 ≤ lc.toInt ∧ lc.toInt < 40) (hoo : OrdOK lc.toInt cm fo) (hld : 0 ≤ ld.toInt ∧ ld.toInt ≤ 12) (hpo : OrdOK ld.toInt cm fp) (hx : 0 ≤ x.toInt ∧ x.toInt ≤ 2000) (hru : 0 ≤ ru.toInt ∧ ru.toInt ≤ 10000000) : Met l y_Maker_walk w_Maker_walk ({ frames := 5, cells := 0, slots := 0, locals := 151 }) (va_Pc [.ref m0, .ref l0, .int x] (fun U => U.heap.size = sz ∧ va_P D CL [(m0, .inr (4, [.ref tr, .ref im, .ref fi, .ref se, .ref u0, .ref id, .ref ct, .int ra, .int ru, .int wg])), (l0, .inr (3, [.int ln, .int lds, .int ltb, .ref lo, .ref lp, .ref lt, .ref lb, .ref le, .int lc, .int ld])), (lb, .inl (cI, 40, .inl fb)), (le, .inl (cI, 40, .inl fe)), (u0, .inr (8, [.ref pb, .ref en, .int uc, .int uk])), (pb, .inr (1, [.ref pq, .int pL])), (pq, .inl (cB, 400, .inl pf)), (en, .inl (cI, 4, .inl ef)), (ct, .inl (cI, 40, .inl cc)), (id, .inr (1, [.ref jq, .int il])), (jq, .inl (cB, 60, .inl jf)), (im, .inr (1, [.ref iq, .int L])), (iq, .inl (cB, n, .inl f)), (lo, .inl (cI, 40, .inl fo)), (lp, .inl (cI, 12, .inl fp))] U.heap ∧ va_K D CL (TY cB cI cJ cZ cN cF) U ∧ NN U ∧ va_D (fun _ => True) [(m0, .inr (4, [.ref tr, .ref im, .ref fi, .ref se, .ref u0, .ref id, .ref ct, .int ra, .int ru, .int wg])), (l0, .inr (3, [.int ln, .int lds, .int ltb, .ref lo, .ref lp, .ref lt, .ref lb, .ref le, .int lc, .int ld])), (lb, .inl (cI, 40, .inl fb)), (le, .inl (cI, 40, .inl fe)), (u0, .inr (8, [.ref pb, .ref en, .int uc, .int uk])), (pb, .inr (1, [.ref pq, .int pL])), (pq, .inl (cB, 400, .inl pf)), (en, .inl (cI, 4, .inl ef)), (ct, .inl (cI, 40, .inl cc)), (id, .inr (1, [.ref jq, .int il])), (jq, .inl (cB, 60, .inl jf)), (im, .inr (1, [.ref iq, .int L])), (iq, .inl (cB, n, .inl f)), (lo, .inl (cI, 40, .inl fo)), (lp, .inl (cI, 12, .inl fp))] ∧ SZ td ts tl gd gs gl (va_A [(m0, .inr (4, [.ref tr, .ref im, .ref fi, .ref se, .ref u0, .ref id, .ref ct, .int ra, .int ru, .int wg])), (l0, .inr (3, [.int ln, .int lds, .int ltb, .ref lo, .ref lp, .ref lt, .ref lb, .ref le, .int lc, .int ld])), (lb, .inl (cI, 40, .inl fb)), (le, .inl (cI, 40, .inl fe)), (u0, .inr (8, [.ref pb, .ref en, .int uc, .int uk])), (pb, .inr (1, [.ref pq, .int pL])), (pq, .inl (cB, 400, .inl pf)), (en, .inl (cI, 4, .inl ef)), (ct, .inl (cI, 40, .inl cc)), (id, .inr (1, [.ref jq, .int il])), (jq, .inl (cB, 60, .inl jf)), (im, .inr (1, [.ref iq, .int L])), (iq, .inl (cB, n, .inl f)), (lo, .inl (cI, 40, .inl fo)), (lp, .inl (cI, 12, .inl fp))] sz) U U.heap ∧ RO D ([(tr, .inr (10, [.ref ta, .int cn, .int dr])), (ta, .inl (cN, 40, .inr (.inr (.inr (.inr (rowF na cm))))))] ++ (PL (NC cB na ng nn nf) cm)) (va_A [(m0, .inr (4, [.ref tr, .ref im, .ref fi, .ref se, .ref u0, .ref id, .ref ct, .int ra, .int ru, .int wg])), (l0, .inr (3, [.int ln, .int lds, .int ltb, .ref lo, .ref lp, .ref lt, .ref lb, .ref le, .int lc, .int ld])), (lb, .inl (cI, 40, .inl fb)), (le, .inl (cI, 40, .inl fe)), (u0, .inr (8, [.ref pb, .ref en, .int uc, .int uk])), (pb, .inr (1, [.ref pq, .int pL])), (pq, .inl (cB, 400, .inl pf)), (en, .inl (cI, 4, .inl ef)), (ct, .inl (cI, 40, .inl cc)), (id, .inr (1, [.ref jq, .int il])), (jq, .inl (cB, 60, .inl jf)), (im, .inr (1, [.ref iq, .int L])), (iq, .inl (cB, n, .inl f)), (lo, .inl (cI, 40, .inl fo)), (lp, .inl (cI, 12, .inl fp))] sz) U U.heap)) (va_Qi (fun (r : Int32) (u : Int32 × Int32 × Int32 × Int32 × Int32 × (Nat → Int32) × (Nat → Int32) × Int32 × (Nat → Int32) × (Nat → Int32) × (Nat → Int32) × (Nat → Int32)) => match u with | (ra2, ru2, uc2, uk2, L2, pg, eg, il2, jg, g, gb, ge) => (x.toInt ≤ r.toInt ∧ r.toInt ≤ x.toInt + 252) ∧ (ru.toInt ≤ ru2.toInt ∧ ru2.toInt ≤ ru.toInt + 393600) ∧ (ln.toInt ≠ 0 → r.toInt ≤ x.toInt + 60 ∧ ru2.toInt = ru.toInt)) (fun (u : Int32 × Int32 × Int32 × Int32 × Int32 × (Nat → Int32) × (Nat → Int32) × Int32 × (Nat → Int32) × (Nat → Int32) × (Nat → Int32) × (Nat → Int32)) (t : State) => match u with | (ra2, ru2, uc2, uk2, L2, pg, eg, il2, jg, g, gb, ge) => va_P D CL [(m0, .inr (4, [.ref tr, .ref im, .ref fi, .ref se, .ref u0, .ref id, .ref ct, .int ra2, .int ru2, .int wg])), (l0, .inr (3, [.int ln, .int lds, .int ltb, .ref lo, .ref lp, .ref lt, .ref lb, .ref le, .int lc, .int ld])), (lb, .inl (cI, 40, .inl gb)), (le, .inl (cI, 40, .inl ge)), (u0, .inr (8, [.ref pb, .ref en, .int uc2, .int uk2])), (pb, .inr (1, [.ref pq, .int L2])), (pq, .inl (cB, 400, .inl pg)), (en, .inl (cI, 4, .inl eg)), (ct, .inl (cI, 40, .inl cc)), (id, .inr (1, [.ref jq, .int il2])), (jq, .inl (cB, 60, .inl jg)), (im, .inr (1, [.ref iq, .int L])), (iq, .inl (cB, n, .inl g)), (lo, .inl (cI, 40, .inl fo)), (lp, .inl (cI, 12, .inl fp))] t.heap ∧ va_D (va_A [(m0, .inr (4, [.ref tr, .ref im, .ref fi, .ref se, .ref u0, .ref id, .ref ct, .int ra, .int ru, .int wg])), (l0, .inr (3, [.int ln, .int lds, .int ltb, .ref lo, .ref lp, .ref lt, .ref lb, .ref le, .int lc, .int ld])), (lb, .inl (cI, 40, .inl fb)), (le, .inl (cI, 40, .inl fe)), (u0, .inr (8, [.ref pb, .ref en, .int uc, .int uk])), (pb, .inr (1, [.ref pq, .int pL])), (pq, .inl (cB, 400, .inl pf)), (en, .inl (cI, 4, .inl ef)), (ct, .inl (cI, 40, .inl cc)), (id, .inr (1, [.ref jq, .int il])), (jq, .inl (cB, 60, .inl jf)), (im, .inr (1, [.ref iq, .int L])), (iq, .inl (cB, n, .inl f)), (lo, .inl (cI, 40, .inl fo)), (lp, .inl (cI, 12, .inl fp))] sz) [(m0, .inr (4, [.ref tr, .ref im, .ref fi, .ref se, .ref u0, .ref id, .ref ct, .int ra2, .int ru2, .int wg])), (l0, .inr (3, [.int ln, .int lds, .int ltb, .ref lo, .ref lp, .ref lt, .ref lb, .ref le, .int lc, .int ld])), (lb, .inl (cI, 40, .inl gb)), (le, .inl (cI, 40, .inl ge)), (u0, .inr (8, [.ref pb, .ref en, .int uc2, .int uk2])), (pb, .inr (1, [.ref pq, .int L2])), (pq, .inl (cB, 400, .inl pg)), (en, .inl (cI, 4, .inl eg)), (ct, .inl (cI, 40, .inl cc)), (id, .inr (1, [.ref jq, .int il2])), (jq, .inl (cB, 60, .inl jg)), (im, .inr (1, [.ref iq, .int L])), (iq, .inl (cB, n, .inl g)), (lo, .inl (cI, 40, .inl fo)), (lp, .inl (cI, 12, .inl fp))]) (va_A [(m0, .inr (4, [.ref tr, .ref im, .ref fi, .ref se, .ref u0, .ref id, .ref ct, .int ra, .int ru, .int wg])), (l0, .inr (3, [.int ln, .int lds, .int ltb, .ref lo, .ref lp, .ref lt, .ref lb, .ref le, .int lc, .int ld])), (lb, .inl (cI, 40, .inl fb)), (le, .inl (cI, 40, .inl fe)), (u0, .inr (8, [.ref pb, .ref en, .int uc, .int uk])), (pb, .inr (1, [.ref pq, .int pL])), (pq, .inl (cB, 400, .inl pf)), (en, .inl (cI, 4, .inl ef)), (ct, .inl (cI, 40, .inl cc)), (id, .inr (1, [.ref jq, .int il])), (jq, .inl (cB, 60, .inl jf)), (im, .inr (1, [.ref iq, .int L])), (iq, .inl (cB, n, .inl f)), (lo, .inl (cI, 40, .inl fo)), (lp, .inl (cI, 12, .inl fp))] sz)) 0 0 (va_A [(m0, .inr (4, [.ref tr, .ref im, .ref fi, .ref se, .ref u0, .ref id, .ref ct, .int ra, .int ru, .int wg])), (l0, .inr (3, [.int ln, .int lds, .int ltb, .ref lo, .ref lp, .ref lt, .ref lb, .ref le, .int lc, .int ld])), (lb, .inl (cI, 40, .inl fb)), (le, .inl (cI, 40, .inl fe)), (u0, .inr (8, [.ref pb, .ref en, .int uc, .int uk])), (pb, .inr (1, [.ref pq, .int pL])), (pq, .inl (cB, 400, .inl pf)), (en, .inl (cI, 4, .inl ef)), (ct, .inl (cI, 40, .inl cc)), (id, .inr (1, [.ref jq, .int il])), (jq, .inl (cB, 60, .inl jf)), (im, .inr (1, [.ref iq, .int L])), (iq, .inl (cB, n, .inl f)), (lo, .inl (cI, 40, .inl fo)), (lp, .inl (cI, 12, .inl fp))] sz) := by
  refine Met.ofW (cc := b_Maker_walk) (maxL := 8) (ret := some .int) (by decide) rfl ?_
  intro p e s m args below meth c s₁ B hml hv
  obtain ⟨rfl, hsz, hP, hK, hN, hD0, hZs, hZr⟩ := hv
  have hx := B.exec
  have hb := B.bytes
  have hr := B.returns
  have hts := atoms_spec (ws := w_Maker_walk) B.pre
  have ht9 := fun (w : Cond) (h : w ∈ lw_g) => hts w (List.mem_cons_of_mem _ h)
  have hown : s.vm.findClass "DiscMaker$Maker" = some m.cls := findClass_of_methodNamed B.named
  have hlocks := B.notSynchronized
  subst hsz
  have hD := hD0.self (sz := s.heap.size)
  generalize hAe : va_A [(m0, .inr (4, [.ref tr, .ref im, .ref fi, .ref se, .ref u0, .ref id, .ref ct, .int ra, .int ru, .int wg])), (l0, .inr (3, [.int ln, .int lds, .int ltb, .ref lo, .ref lp, .ref lt, .ref lb, .ref le, .int lc, .int ld])), (lb, .inl (cI, 40, .inl fb)), (le, .inl (cI, 40, .inl fe)), (u0, .inr (8, [.ref pb, .ref en, .int uc, .int uk])), (pb, .inr (1, [.ref pq, .int pL])), (pq, .inl (cB, 400, .inl pf)), (en, .inl (cI, 4, .inl ef)), (ct, .inl (cI, 40, .inl cc)), (id, .inr (1, [.ref jq, .int il])), (jq, .inl (cB, 60, .inl jf)), (im, .inr (1, [.ref iq, .int L])), (iq, .inl (cB, n, .inl f)), (lo, .inl (cI, 40, .inl fo)), (lp, .inl (cI, 12, .inl fp))] s.heap.size = A at hD hZs hZr ⊢
  have hA : ∀ q : Nat, s.heap.size ≤ q → A q := fun q h => by rw [← hAe]; exact Or.inr h
  have hS : va_S A s.heap s.heap [] := va_S.rf
  have hP : va_P D CL [(m0, .inr (4, [.ref tr, .ref im, .ref fi, .ref se, .ref u0, .ref id, .ref ct, .int ra, .int ru, .int wg])), (l0, .inr (3, [.int ln, .int lds, .int ltb, .ref lo, .ref lp, .ref lt, .ref lb, .ref le, .int lc, .int ld])), (lb, .inl (cI, 40, .inl fb)), (le, .inl (cI, 40, .inl fe)), (u0, .inr (8, [.ref pb, .ref en, .int uc, .int uk])), (pb, .inr (1, [.ref pq, .int pL])), (pq, .inl (cB, 400, .inl pf)), (en, .inl (cI, 4, .inl ef)), (ct, .inl (cI, 40, .inl cc)), (id, .inr (1, [.ref jq, .int il])), (jq, .inl (cB, 60, .inl jf)), (im, .inr (1, [.ref iq, .int L])), (iq, .inl (cB, n, .inl f)), (lo, .inl (cI, 40, .inl fo)), (lp, .inl (cI, 12, .inl fp))] s.heap := hP
  have hl := lv_entry [.ref m0, .ref l0, .int x] (n := 8) (Nat.le_of_ble_eq_true rfl)
  rw [lg_entry_eq]
  generalize (lg_sl [.ref m0, .ref l0, .int x] ++ List.replicate (8 - (lg_sl [.ref m0, .ref l0, .int x]).length) Slot.unset).toArray = ls at hl ⊢
  have hl : lv_has ls 8 [(0, .ref m0), (1, .ref l0), (2, .int x)] := hl
  have L_m1 : ((-1) : Int32).toInt = (-1) := by decide
  have L_0 : (0 : Int32).toInt = 0 := by decide
  have L_1 : (1 : Int32).toInt = 1 := by decide
  have L_2 : (2 : Int32).toInt = 2 := by decide
  have L_2048 : (2048 : Int32).toInt = 2048 := by decide
  refine lv_iload_n hx hb d_Maker_walk_0 rfl (lv_at hl 2 rfl) ?_
  refine lv_istore_n hx hb d_Maker_walk_1 rfl hl (by decide) rfl (fun ls hl => ?_)
  have hl : lv_has ls 8 [(3, .int x), (0, .ref m0), (1, .ref l0), (2, .int x)] := hl
  refine lv_iconst (v := 0) hx hb d_Maker_walk_2 (by decide) ?_
  refine lv_istore hx hb d_Maker_walk_3 hl (by decide) rfl (fun ls hl => ?_)
  have hl : lv_has ls 8 [(4, .int 0), (3, .int x), (0, .ref m0), (1, .ref l0), (2, .int x)] := hl
  refine zz_lab (P := fun (lk : Nat) (H : Heap) (locs : List Loc) (ls : Array Slot) (stk : List Value) => ∃ (nx : Int32) (kx : Int32) (lra : Int32) (lru : Int32) (luc : Int32) (luk : Int32) (lpL : Int32) (lpf : Nat → Int32) (lef : Nat → Int32) (lil : Int32) (ljf : Nat → Int32) (lf : Nat → Int32) (lfb : Nat → Int32) (lfe : Nat → Int32) , lk = (ld.toInt - kx.toInt).toNat ∧ stk = [] ∧ (0 ≤ kx.toInt ∧ kx.toInt ≤ ld.toInt) ∧ (x.toInt ≤ nx.toInt ∧ nx.toInt ≤ x.toInt + 21 * kx.toInt) ∧ (ru.toInt ≤ lru.toInt ∧ lru.toInt ≤ ru.toInt + 32800 * kx.toInt) ∧ (ln.toInt ≠ 0 → nx.toInt ≤ x.toInt + 5 * kx.toInt ∧ lru.toInt = ru.toInt) ∧ va_P D CL [(m0, .inr (4, [.ref tr, .ref im, .ref fi, .ref se, .ref u0, .ref id, .ref ct, .int lra, .int lru, .int wg])), (l0, .inr (3, [.int ln, .int lds, .int ltb, .ref lo, .ref lp, .ref lt, .ref lb, .ref le, .int lc, .int ld])), (lb, .inl (cI, 40, .inl lfb)), (le, .inl (cI, 40, .inl lfe)), (u0, .inr (8, [.ref pb, .ref en, .int luc, .int luk])), (pb, .inr (1, [.ref pq, .int lpL])), (pq, .inl (cB, 400, .inl lpf)), (en, .inl (cI, 4, .inl lef)), (ct, .inl (cI, 40, .inl cc)), (id, .inr (1, [.ref jq, .int lil])), (jq, .inl (cB, 60, .inl ljf)), (im, .inr (1, [.ref iq, .int L])), (iq, .inl (cB, n, .inl lf)), (lo, .inl (cI, 40, .inl fo)), (lp, .inl (cI, 12, .inl fp))] H ∧ va_D A [(m0, .inr (4, [.ref tr, .ref im, .ref fi, .ref se, .ref u0, .ref id, .ref ct, .int lra, .int lru, .int wg])), (l0, .inr (3, [.int ln, .int lds, .int ltb, .ref lo, .ref lp, .ref lt, .ref lb, .ref le, .int lc, .int ld])), (lb, .inl (cI, 40, .inl lfb)), (le, .inl (cI, 40, .inl lfe)), (u0, .inr (8, [.ref pb, .ref en, .int luc, .int luk])), (pb, .inr (1, [.ref pq, .int lpL])), (pq, .inl (cB, 400, .inl lpf)), (en, .inl (cI, 4, .inl lef)), (ct, .inl (cI, 40, .inl cc)), (id, .inr (1, [.ref jq, .int lil])), (jq, .inl (cB, 60, .inl ljf)), (im, .inr (1, [.ref iq, .int L])), (iq, .inl (cB, n, .inl lf)), (lo, .inl (cI, 40, .inl fo)), (lp, .inl (cI, 12, .inl fp))] ∧ va_S A s.heap H locs ∧ lv_has ls 8 [(0, .ref m0), (1, .ref l0), (2, .int x), (3, .int nx), (4, .int kx)]) 5 ?_ ?_
  · skip
    intro lk ih5 H locs ls stk hI
    obtain ⟨nx, kx, lra, lru, luc, luk, lpL, lpf, lef, lil, ljf, lf, lfb, lfe, hm5, rfl, e1, e2, e3, e4, hP, hD, hS, hl⟩ := hI
    refine lv_iload hx hb d_Maker_walk_5 (lv_at hl 4 rfl) ?_
    refine lv_aload_n hx hb d_Maker_walk_7 rfl (lv_at hl 1 rfl) ?_
    refine va_getN (D := D) (ci := 3) (v := .int ld) (C := "DiscMaker$Layout") (T := F_Layout) (N := 10) hx hb ht9 in_Layout hown hK hP 1 rfl rfl 9 (by decide) (va_Nw.use rfl (hN _ k299)) (fun _ h9 => h9) rfl d_Maker_walk_8 ?_
    refine lv_icmp_ge (tgt := 167) hx hb d_Maker_walk_11 (by decide) (fun h_9 => ?_) (fun h_9 => ?_)
    · skip
      have g11_8 : ld.toInt ≤ kx.toInt := (i_le rfl rfl).mp h_9
      refine lv_iload_n hx hb d_Maker_walk_167 rfl (lv_at hl 3 rfl) ?_
      have hP9 := hP.sub (ws' := [(m0, .inr (4, [.ref tr, .ref im, .ref fi, .ref se, .ref u0, .ref id, .ref ct, .int lra, .int lru, .int wg])), (l0, .inr (3, [.int ln, .int lds, .int ltb, .ref lo, .ref lp, .ref lt, .ref lb, .ref le, .int lc, .int ld])), (lb, .inl (cI, 40, .inl lfb)), (le, .inl (cI, 40, .inl lfe)), (u0, .inr (8, [.ref pb, .ref en, .int luc, .int luk])), (pb, .inr (1, [.ref pq, .int lpL])), (pq, .inl (cB, 400, .inl lpf)), (en, .inl (cI, 4, .inl lef)), (ct, .inl (cI, 40, .inl cc)), (id, .inr (1, [.ref jq, .int lil])), (jq, .inl (cB, 60, .inl ljf)), (im, .inr (1, [.ref iq, .int L])), (iq, .inl (cB, n, .inl lf)), (lo, .inl (cI, 40, .inl fo)), (lp, .inl (cI, 12, .inl fp))]) [0, 1, 2, 3, 4, 5, 6, 7, 8, 9, 10, 11, 12, 13, 14] rfl
      have hD9 := hD.sub (ws' := [(m0, .inr (4, [.ref tr, .ref im, .ref fi, .ref se, .ref u0, .ref id, .ref ct, .int lra, .int lru, .int wg])), (l0, .inr (3, [.int ln, .int lds, .int ltb, .ref lo, .ref lp, .ref lt, .ref lb, .ref le, .int lc, .int ld])), (lb, .inl (cI, 40, .inl lfb)), (le, .inl (cI, 40, .inl lfe)), (u0, .inr (8, [.ref pb, .ref en, .int luc, .int luk])), (pb, .inr (1, [.ref pq, .int lpL])), (pq, .inl (cB, 400, .inl lpf)), (en, .inl (cI, 4, .inl lef)), (ct, .inl (cI, 40, .inl cc)), (id, .inr (1, [.ref jq, .int lil])), (jq, .inl (cB, 60, .inl ljf)), (im, .inr (1, [.ref iq, .int L])), (iq, .inl (cB, n, .inl lf)), (lo, .inl (cI, 40, .inl fo)), (lp, .inl (cI, 12, .inl fp))]) [0, 1, 2, 3, 4, 5, 6, 7, 8, 9, 10, 11, 12, 13, 14] (by decide) rfl
      exact W.iret (v := nx) hx hb hr (fun t ht hW => ⟨⟨nx, (lra, lru, luc, luk, lpL, lpf, lef, lil, ljf, lf, lfb, lfe), rfl, ⟨(by (try dsimp only); first | assumption | omega | trivial), (by (try dsimp only); first | assumption | omega | trivial), (by (try dsimp only); intro h7; first | (exfalso; omega) | omega | assumption)⟩, by rw [ht]; exact hP9, hD9⟩, hS.F ht⟩) hS.2.2 d_Maker_walk_168
    · skip
      have g11_8 : ¬ ld.toInt ≤ kx.toInt := fun h8 => h_9 ((i_le rfl rfl).mpr h8)
      refine lv_aload_n hx hb d_Maker_walk_14 rfl (lv_at hl 0 rfl) ?_
      refine va_get (D := D) (ci := 4) (v := .ref tr) (C := "DiscMaker$Maker") (T := F_Maker) (N := 10) hx hb ht9 in_Maker hown hK hP 0 rfl rfl 0 (by decide) (ht9 _ k347) (fun _ h9 => h9) rfl d_Maker_walk_15 ?_
      have hPR := RO_at hZr hS
      refine va_getN (D := D) (ci := 10) (v := .ref ta) (C := "DiscMaker$Tree") (T := F_Tree) (N := 3) hx hb ht9 in_Tree hown hK hPR 0 rfl rfl 0 (by decide) (va_Nw.use rfl (hN _ k237)) (fun _ h9 => h9) rfl d_Maker_walk_18 ?_
      refine lv_aload_n hx hb d_Maker_walk_21 rfl (lv_at hl 1 rfl) ?_
      refine va_getN (D := D) (ci := 3) (v := .ref lp) (C := "DiscMaker$Layout") (T := F_Layout) (N := 10) hx hb ht9 in_Layout hown hK hP 1 rfl rfl 4 (by decide) (va_Nw.use rfl (hN _ k289)) (fun _ h9 => h9) rfl d_Maker_walk_22 ?_
      refine lv_iload hx hb d_Maker_walk_25 (lv_at hl 4 rfl) ?_
      refine va_iald hx hb hK hP 14 1 rfl rfl (vp_in_iff.mpr ⟨by omega, by omega⟩) d_Maker_walk_27 ?_
      refine lv_topi (fun v1 e_v1 => ?_)
      have qv1 := OrdOK_at hpo e_v1 (by have := i_cl (a := kx) (by omega); omega)
      have hPR := RO_at hZr hS
      refine va_aldq hx hb hK hPR 1 4 rfl rfl (vp_in_iff.mpr ⟨by omega, by omega⟩) d_Maker_walk_28 ?_
      have c_hk2 := i_cl (a := v1) (by omega)
      have hk2 : v1.toNatClampNeg < cm := by omega
      have o_hk2 := htok v1.toNatClampNeg hk2
      obtain ⟨i_hj3, hj3⟩ : ∃ j : Nat, (PL (NC cB na ng nn nf) cm)[j]? = some ((na v1.toNatClampNeg 0), .inr (5, [.int (ng v1.toNatClampNeg 0), .ref (na v1.toNatClampNeg 1), .ref (na v1.toNatClampNeg 2), .ref (na v1.toNatClampNeg 3), .int (ng v1.toNatClampNeg 1), .int (ng v1.toNatClampNeg 2), .int (ng v1.toNatClampNeg 3), .int (ng v1.toNatClampNeg 4), .int (ng v1.toNatClampNeg 5), .int (ng v1.toNatClampNeg 6), .int (ng v1.toNatClampNeg 7), .int (ng v1.toNatClampNeg 8)])) := PL_get (i := 0) hk2 rfl
      obtain ⟨i_hj4, hj4⟩ : ∃ j : Nat, (PL (NC cB na ng nn nf) cm)[j]? = some ((na v1.toNatClampNeg 1), .inl (cB, (nn v1.toNatClampNeg 1), .inl (nf v1.toNatClampNeg 1))) := PL_get (i := 1) hk2 rfl
      obtain ⟨i_hj5, hj5⟩ : ∃ j : Nat, (PL (NC cB na ng nn nf) cm)[j]? = some ((na v1.toNatClampNeg 2), .inl (cB, 11, .inl (nf v1.toNatClampNeg 2))) := PL_get (i := 2) hk2 rfl
      obtain ⟨i_hj6, hj6⟩ : ∃ j : Nat, (PL (NC cB na ng nn nf) cm)[j]? = some ((na v1.toNatClampNeg 3), .inl (cB, (nn v1.toNatClampNeg 3), .inl (nf v1.toNatClampNeg 3))) := PL_get (i := 3) hk2 rfl
      refine W.eq (g2 := F0 m 29 ls [.ref (na v1.toNatClampNeg 0)]) (by rw [show rowF na cm v1.toNatClampNeg = some (na v1.toNatClampNeg 0) from rowF_some hk2]; rfl) ?_
      refine lv_astore hx hb d_Maker_walk_29 hl (by decide) rfl (fun ls hl => ?_)
      have hl : lv_has ls 8 [(5, .ref (na v1.toNatClampNeg 0)), (0, .ref m0), (1, .ref l0), (2, .int x), (3, .int nx), (4, .int kx)] := hl
      refine lv_aload_n hx hb d_Maker_walk_31 rfl (lv_at hl 1 rfl) ?_
      refine lv_iload_n hx hb d_Maker_walk_32 rfl (lv_at hl 4 rfl) ?_
      refine lv_sipush (v := 2048) hx hb d_Maker_walk_33 (by decide) ?_
      refine lv_imul hx hb d_Maker_walk_36 ?_
      refine lv_topi (fun v7 e_v7 => ?_)
      have t_v7 : v7.toInt = nx.toInt * 2048 := by rw [e_v7]; exact i_mul rfl (by decide) (by omega) (by omega)
      refine va_put (D := D) (ci := 4) (v := .int v7) (ty := .int) (C := "DiscMaker$Maker") (T := F_Maker) (N := 10) hx hb ht9 in_Maker t_Maker t_Maker_ok n_Maker hown hK hP hD hS 0 rfl rfl 7 (by decide) (ht9 _ k354) (fun _ h9 => h9) rfl (by decide +kernel) rfl rfl (Nat.le_of_ble_eq_true rfl) d_Maker_walk_37 (fun H locs hP hD hS => ?_)
      have hP : va_P D CL [(m0, .inr (4, [.ref tr, .ref im, .ref fi, .ref se, .ref u0, .ref id, .ref ct, .int v7, .int lru, .int wg])), (l0, .inr (3, [.int ln, .int lds, .int ltb, .ref lo, .ref lp, .ref lt, .ref lb, .ref le, .int lc, .int ld])), (lb, .inl (cI, 40, .inl lfb)), (le, .inl (cI, 40, .inl lfe)), (u0, .inr (8, [.ref pb, .ref en, .int luc, .int luk])), (pb, .inr (1, [.ref pq, .int lpL])), (pq, .inl (cB, 400, .inl lpf)), (en, .inl (cI, 4, .inl lef)), (ct, .inl (cI, 40, .inl cc)), (id, .inr (1, [.ref jq, .int lil])), (jq, .inl (cB, 60, .inl ljf)), (im, .inr (1, [.ref iq, .int L])), (iq, .inl (cB, n, .inl lf)), (lo, .inl (cI, 40, .inl fo)), (lp, .inl (cI, 12, .inl fp))] H := hP
      have hD : va_D A [(m0, .inr (4, [.ref tr, .ref im, .ref fi, .ref se, .ref u0, .ref id, .ref ct, .int v7, .int lru, .int wg])), (l0, .inr (3, [.int ln, .int lds, .int ltb, .ref lo, .ref lp, .ref lt, .ref lb, .ref le, .int lc, .int ld])), (lb, .inl (cI, 40, .inl lfb)), (le, .inl (cI, 40, .inl lfe)), (u0, .inr (8, [.ref pb, .ref en, .int luc, .int luk])), (pb, .inr (1, [.ref pq, .int lpL])), (pq, .inl (cB, 400, .inl lpf)), (en, .inl (cI, 4, .inl lef)), (ct, .inl (cI, 40, .inl cc)), (id, .inr (1, [.ref jq, .int lil])), (jq, .inl (cB, 60, .inl ljf)), (im, .inr (1, [.ref iq, .int L])), (iq, .inl (cB, n, .inl lf)), (lo, .inl (cI, 40, .inl fo)), (lp, .inl (cI, 12, .inl fp))] := hD
      refine lv_aload_n hx hb d_Maker_walk_40 rfl (lv_at hl 1 rfl) ?_
      refine lv_aload_n hx hb d_Maker_walk_41 rfl (lv_at hl 2 rfl) ?_
      refine lv_aload hx hb d_Maker_walk_42 (lv_at hl 0 rfl) ?_
      refine lv_iconst (v := 0) hx hb d_Maker_walk_44 (by decide) ?_
      have hPc := hP.sub (ws' := [(m0, .inr (4, [.ref tr, .ref im, .ref fi, .ref se, .ref u0, .ref id, .ref ct, .int v7, .int lru, .int wg])), (l0, .inr (3, [.int ln, .int lds, .int ltb, .ref lo, .ref lp, .ref lt, .ref lb, .ref le, .int lc, .int ld])), (lb, .inl (cI, 40, .inl lfb)), (le, .inl (cI, 40, .inl lfe)), (u0, .inr (8, [.ref pb, .ref en, .int luc, .int luk])), (pb, .inr (1, [.ref pq, .int lpL])), (pq, .inl (cB, 400, .inl lpf)), (en, .inl (cI, 4, .inl lef)), (ct, .inl (cI, 40, .inl cc)), (id, .inr (1, [.ref jq, .int lil])), (jq, .inl (cB, 60, .inl ljf)), (im, .inr (1, [.ref iq, .int L])), (iq, .inl (cB, n, .inl lf))]) [0, 1, 2, 3, 4, 5, 6, 7, 8, 9, 10, 11, 12] rfl
      have hDc := hD.sub (ws' := [(m0, .inr (4, [.ref tr, .ref im, .ref fi, .ref se, .ref u0, .ref id, .ref ct, .int v7, .int lru, .int wg])), (l0, .inr (3, [.int ln, .int lds, .int ltb, .ref lo, .ref lp, .ref lt, .ref lb, .ref le, .int lc, .int ld])), (lb, .inl (cI, 40, .inl lfb)), (le, .inl (cI, 40, .inl lfe)), (u0, .inr (8, [.ref pb, .ref en, .int luc, .int luk])), (pb, .inr (1, [.ref pq, .int lpL])), (pq, .inl (cB, 400, .inl lpf)), (en, .inl (cI, 4, .inl lef)), (ct, .inl (cI, 40, .inl cc)), (id, .inr (1, [.ref jq, .int lil])), (jq, .inl (cB, 60, .inl ljf)), (im, .inr (1, [.ref iq, .int L])), (iq, .inl (cB, n, .inl lf))]) [0, 1, 2, 3, 4, 5, 6, 7, 8, 9, 10, 11, 12] (by decide) rfl
      have hFc := va_free (wc := [(m0, .inr (4, [.ref tr, .ref im, .ref fi, .ref se, .ref u0, .ref id, .ref ct, .int v7, .int lru, .int wg])), (l0, .inr (3, [.int ln, .int lds, .int ltb, .ref lo, .ref lp, .ref lt, .ref lb, .ref le, .int lc, .int ld])), (lb, .inl (cI, 40, .inl lfb)), (le, .inl (cI, 40, .inl lfe)), (u0, .inr (8, [.ref pb, .ref en, .int luc, .int luk])), (pb, .inr (1, [.ref pq, .int lpL])), (pq, .inl (cB, 400, .inl lpf)), (en, .inl (cI, 4, .inl lef)), (ct, .inl (cI, 40, .inl cc)), (id, .inr (1, [.ref jq, .int lil])), (jq, .inl (cB, 60, .inl ljf)), (im, .inr (1, [.ref iq, .int L])), (iq, .inl (cB, n, .inl lf))]) hD hS hA [0, 1, 2, 3, 4, 5, 6, 7, 8, 9, 10, 11, 12] rfl
      have hkc : 0 ≤ 0 := by decide
      have hks : 0 ≤ 0 := by decide
      refine va_callv (va_runV (C := "DiscMaker$Maker") (As := [.ref l0, .ref (na v1.toNatClampNeg 0), .int 0]) (rest := []) ⟨hx, hb, hml, hown, hts⟩ (c3_passRecord l D cB cI cJ cZ cN cF H.size m0 tr im fi se u0 id ct v7 lru wg l0 lo lp lt lb le ln lds ltb lc ld lfb lfe pb pq en luc luk lpL lpf lef cc jq lil ljf iq n L lf ta cn dr na ng nn nf cm (na v1.toNatClampNeg 0) (na v1.toNatClampNeg 1) (na v1.toNatClampNeg 2) (na v1.toNatClampNeg 3) (ng v1.toNatClampNeg 0) (ng v1.toNatClampNeg 1) (ng v1.toNatClampNeg 2) (ng v1.toNatClampNeg 3) (ng v1.toNatClampNeg 4) (ng v1.toNatClampNeg 5) (ng v1.toNatClampNeg 6) (ng v1.toNatClampNeg 7) (ng v1.toNatClampNeg 8) (nn v1.toNatClampNeg 1) (nf v1.toNatClampNeg 1) (nf v1.toNatClampNeg 2) (nn v1.toNatClampNeg 3) (nf v1.toNatClampNeg 3) td ts tl gd gs gl 0 (by (try dsimp only); first | assumption | omega | trivial) (by (try dsimp only); first | assumption | omega | trivial) (by (try dsimp only); first | assumption | omega | trivial) (by (try dsimp only); first | assumption | omega | trivial) (by (try dsimp only); first | assumption | omega | trivial) (by (try dsimp only); first | assumption | omega | trivial) (by (try dsimp only); first | assumption | omega | trivial) (by (try dsimp only); first | assumption | omega | trivial) (by (try dsimp only); first | assumption | omega | trivial) (by (try dsimp only); first | assumption | omega | trivial)) (cwV 3 hts (lg_goodV k968 k970 k17 k120 kc_Maker_passRecord) rfl rfl rfl (by decide +kernel) ⟨Nat.le_of_ble_eq_true rfl, Nat.le_of_ble_eq_true rfl⟩) ⟨fun a U g mk q => by obtain ⟨q0, q1, qP, qK, qN, qD, qZ0, qZ1⟩ := q; exact ⟨q0, q1, qP, va_K.moved (u := U) (U := U.calling g mk a) (Vm.Alike.refl U.vm) qK, qN.calling, qD, SZ_blind qZ0, RO_blind qZ1⟩, va_recv hK hP (ci := 4) (q0 := 0) rfl rfl, fun U hU hW => ⟨rfl, by rw [hU], by rw [hU]; exact hPc, va_K.moved hW.alike hK, NN.warm hW hN, hDc.weaken (fun _ _ _ _ => trivial), SZ_pass hZs hS hFc hW.alike hU, (RO_app (w1 := [(tr, .inr (10, [.ref ta, .int cn, .int dr]))]) (w2 := ([(ta, .inl (cN, 40, .inr (.inr (.inr (.inr (rowF na cm)))))), ((na v1.toNatClampNeg 0), .inr (5, [.int (ng v1.toNatClampNeg 0), .ref (na v1.toNatClampNeg 1), .ref (na v1.toNatClampNeg 2), .ref (na v1.toNatClampNeg 3), .int (ng v1.toNatClampNeg 1), .int (ng v1.toNatClampNeg 2), .int (ng v1.toNatClampNeg 3), .int (ng v1.toNatClampNeg 4), .int (ng v1.toNatClampNeg 5), .int (ng v1.toNatClampNeg 6), .int (ng v1.toNatClampNeg 7), .int (ng v1.toNatClampNeg 8)])), ((na v1.toNatClampNeg 1), .inl (cB, (nn v1.toNatClampNeg 1), .inl (nf v1.toNatClampNeg 1))), ((na v1.toNatClampNeg 2), .inl (cB, 11, .inl (nf v1.toNatClampNeg 2))), ((na v1.toNatClampNeg 3), .inl (cB, (nn v1.toNatClampNeg 3), .inl (nf v1.toNatClampNeg 3)))] ++ (PL (NC cB na ng nn nf) cm))) (RO_pass (RO_one hZr 0 rfl) hS hFc hU) (RO_app (w1 := [(ta, .inl (cN, 40, .inr (.inr (.inr (.inr (rowF na cm))))))]) (w2 := ([((na v1.toNatClampNeg 0), .inr (5, [.int (ng v1.toNatClampNeg 0), .ref (na v1.toNatClampNeg 1), .ref (na v1.toNatClampNeg 2), .ref (na v1.toNatClampNeg 3), .int (ng v1.toNatClampNeg 1), .int (ng v1.toNatClampNeg 2), .int (ng v1.toNatClampNeg 3), .int (ng v1.toNatClampNeg 4), .int (ng v1.toNatClampNeg 5), .int (ng v1.toNatClampNeg 6), .int (ng v1.toNatClampNeg 7), .int (ng v1.toNatClampNeg 8)])), ((na v1.toNatClampNeg 1), .inl (cB, (nn v1.toNatClampNeg 1), .inl (nf v1.toNatClampNeg 1))), ((na v1.toNatClampNeg 2), .inl (cB, 11, .inl (nf v1.toNatClampNeg 2))), ((na v1.toNatClampNeg 3), .inl (cB, (nn v1.toNatClampNeg 3), .inl (nf v1.toNatClampNeg 3)))] ++ (PL (NC cB na ng nn nf) cm))) (RO_pass (RO_one hZr 1 rfl) hS hFc hU) (RO_app (w1 := [((na v1.toNatClampNeg 0), .inr (5, [.int (ng v1.toNatClampNeg 0), .ref (na v1.toNatClampNeg 1), .ref (na v1.toNatClampNeg 2), .ref (na v1.toNatClampNeg 3), .int (ng v1.toNatClampNeg 1), .int (ng v1.toNatClampNeg 2), .int (ng v1.toNatClampNeg 3), .int (ng v1.toNatClampNeg 4), .int (ng v1.toNatClampNeg 5), .int (ng v1.toNatClampNeg 6), .int (ng v1.toNatClampNeg 7), .int (ng v1.toNatClampNeg 8)]))]) (w2 := ([((na v1.toNatClampNeg 1), .inl (cB, (nn v1.toNatClampNeg 1), .inl (nf v1.toNatClampNeg 1))), ((na v1.toNatClampNeg 2), .inl (cB, 11, .inl (nf v1.toNatClampNeg 2))), ((na v1.toNatClampNeg 3), .inl (cB, (nn v1.toNatClampNeg 3), .inl (nf v1.toNatClampNeg 3)))] ++ (PL (NC cB na ng nn nf) cm))) (RO_pass (RO_one hZr _ (pix (X := [(tr, .inr (10, [.ref ta, .int cn, .int dr])), (ta, .inl (cN, 40, .inr (.inr (.inr (.inr (rowF na cm))))))]) hj3)) hS hFc hU) (RO_app (w1 := [((na v1.toNatClampNeg 1), .inl (cB, (nn v1.toNatClampNeg 1), .inl (nf v1.toNatClampNeg 1)))]) (w2 := ([((na v1.toNatClampNeg 2), .inl (cB, 11, .inl (nf v1.toNatClampNeg 2))), ((na v1.toNatClampNeg 3), .inl (cB, (nn v1.toNatClampNeg 3), .inl (nf v1.toNatClampNeg 3)))] ++ (PL (NC cB na ng nn nf) cm))) (RO_pass (RO_one hZr _ (pix (X := [(tr, .inr (10, [.ref ta, .int cn, .int dr])), (ta, .inl (cN, 40, .inr (.inr (.inr (.inr (rowF na cm))))))]) hj4)) hS hFc hU) (RO_app (w1 := [((na v1.toNatClampNeg 2), .inl (cB, 11, .inl (nf v1.toNatClampNeg 2)))]) (w2 := ([((na v1.toNatClampNeg 3), .inl (cB, (nn v1.toNatClampNeg 3), .inl (nf v1.toNatClampNeg 3)))] ++ (PL (NC cB na ng nn nf) cm))) (RO_pass (RO_one hZr _ (pix (X := [(tr, .inr (10, [.ref ta, .int cn, .int dr])), (ta, .inl (cN, 40, .inr (.inr (.inr (.inr (rowF na cm))))))]) hj5)) hS hFc hU) (RO_app (w1 := [((na v1.toNatClampNeg 3), .inl (cB, (nn v1.toNatClampNeg 3), .inl (nf v1.toNatClampNeg 3)))]) (w2 := (PL (NC cB na ng nn nf) cm)) (RO_pass (RO_one hZr _ (pix (X := [(tr, .inr (10, [.ref ta, .int cn, .int dr])), (ta, .inl (cN, 40, .inr (.inr (.inr (.inr (rowF na cm))))))]) hj6)) hS hFc hU) (RO_pass (RO_tail (X := [(tr, .inr (10, [.ref ta, .int cn, .int dr])), (ta, .inl (cN, 40, .inr (.inr (.inr (.inr (rowF na cm))))))]) hZr) hS hFc hU)))))))⟩⟩ rfl rfl hl.1 rfl (lv_room (Nat.le_of_ble_eq_true rfl)) d_Maker_walk_45 ⟨hkc, hks⟩) hS (fun q _ h => hFc q h) hFc (fun u t H1 locs ht hvm hp_r8 hB hz1 hk1 hS => ?_)
      obtain ⟨ra2_9, ru2_10, uc2_11, uk2_12, L2_13, pg_14, eg_15, il2_16, jg_17, g_18⟩ := u
      obtain ⟨hP1, hD1⟩ := hB
      rw [ht] at hP1
      obtain ⟨hP, hD⟩ := va_join (wr := [(lo, .inl (cI, 40, .inl fo)), (lp, .inl (cI, 12, .inl fp))]) (w1 := [(m0, .inr (4, [.ref tr, .ref im, .ref fi, .ref se, .ref u0, .ref id, .ref ct, .int ra2_9, .int ru2_10, .int wg])), (l0, .inr (3, [.int ln, .int lds, .int ltb, .ref lo, .ref lp, .ref lt, .ref lb, .ref le, .int lc, .int ld])), (lb, .inl (cI, 40, .inl lfb)), (le, .inl (cI, 40, .inl lfe)), (u0, .inr (8, [.ref pb, .ref en, .int uc2_11, .int uk2_12])), (pb, .inr (1, [.ref pq, .int L2_13])), (pq, .inl (cB, 400, .inl pg_14)), (en, .inl (cI, 4, .inl eg_15)), (ct, .inl (cI, 40, .inl cc)), (id, .inr (1, [.ref jq, .int il2_16])), (jq, .inl (cB, 60, .inl jg_17)), (im, .inr (1, [.ref iq, .int L])), (iq, .inl (cB, n, .inl g_18))]) hP hD [0, 1, 2, 3, 4, 5, 6, 7, 8, 9, 10, 11, 12] [13, 14] rfl rfl (by decide) (by decide) hk1 hFc hP1 hD1
      clear hPc hDc hFc hP1 hD1 hk1 hz1
      generalize H1 = H at hP hS ⊢
      have hP : va_P D CL [(lo, .inl (cI, 40, .inl fo)), (lp, .inl (cI, 12, .inl fp)), (m0, .inr (4, [.ref tr, .ref im, .ref fi, .ref se, .ref u0, .ref id, .ref ct, .int ra2_9, .int ru2_10, .int wg])), (l0, .inr (3, [.int ln, .int lds, .int ltb, .ref lo, .ref lp, .ref lt, .ref lb, .ref le, .int lc, .int ld])), (lb, .inl (cI, 40, .inl lfb)), (le, .inl (cI, 40, .inl lfe)), (u0, .inr (8, [.ref pb, .ref en, .int uc2_11, .int uk2_12])), (pb, .inr (1, [.ref pq, .int L2_13])), (pq, .inl (cB, 400, .inl pg_14)), (en, .inl (cI, 4, .inl eg_15)), (ct, .inl (cI, 40, .inl cc)), (id, .inr (1, [.ref jq, .int il2_16])), (jq, .inl (cB, 60, .inl jg_17)), (im, .inr (1, [.ref iq, .int L])), (iq, .inl (cB, n, .inl g_18))] H := hP
      have hD : va_D A [(lo, .inl (cI, 40, .inl fo)), (lp, .inl (cI, 12, .inl fp)), (m0, .inr (4, [.ref tr, .ref im, .ref fi, .ref se, .ref u0, .ref id, .ref ct, .int ra2_9, .int ru2_10, .int wg])), (l0, .inr (3, [.int ln, .int lds, .int ltb, .ref lo, .ref lp, .ref lt, .ref lb, .ref le, .int lc, .int ld])), (lb, .inl (cI, 40, .inl lfb)), (le, .inl (cI, 40, .inl lfe)), (u0, .inr (8, [.ref pb, .ref en, .int uc2_11, .int uk2_12])), (pb, .inr (1, [.ref pq, .int L2_13])), (pq, .inl (cB, 400, .inl pg_14)), (en, .inl (cI, 4, .inl eg_15)), (ct, .inl (cI, 40, .inl cc)), (id, .inr (1, [.ref jq, .int il2_16])), (jq, .inl (cB, 60, .inl jg_17)), (im, .inr (1, [.ref iq, .int L])), (iq, .inl (cB, n, .inl g_18))] := hD
      try dsimp only at hp_r8
      obtain ⟨hra_19, hru_20, hln_21⟩ := hp_r8
      refine lv_aload_n hx hb d_Maker_walk_48 rfl (lv_at hl 1 rfl) ?_
      refine lv_aload_n hx hb d_Maker_walk_49 rfl (lv_at hl 2 rfl) ?_
      refine lv_aload_n hx hb d_Maker_walk_50 rfl (lv_at hl 1 rfl) ?_
      refine va_get (D := D) (ci := 4) (v := .ref tr) (C := "DiscMaker$Maker") (T := F_Maker) (N := 10) hx hb ht9 in_Maker hown hK hP 2 rfl rfl 0 (by decide) (ht9 _ k347) (fun _ h9 => h9) rfl d_Maker_walk_51 ?_
      have hPR := RO_at hZr hS
      refine va_getN (D := D) (ci := 10) (v := .ref ta) (C := "DiscMaker$Tree") (T := F_Tree) (N := 3) hx hb ht9 in_Tree hown hK hPR 0 rfl rfl 0 (by decide) (va_Nw.use rfl (hN _ k237)) (fun _ h9 => h9) rfl d_Maker_walk_54 ?_
      refine lv_aload hx hb d_Maker_walk_57 (lv_at hl 0 rfl) ?_
      have hPR := RO_at hZr hS
      refine va_getN (D := D) (ci := 5) (v := .int (ng v1.toNatClampNeg 2)) (C := "DiscMaker$Node") (T := F_Node) (N := 12) hx hb ht9 in_Node hown hK hPR _ (pix (X := [(tr, .inr (10, [.ref ta, .int cn, .int dr])), (ta, .inl (cN, 40, .inr (.inr (.inr (.inr (rowF na cm))))))]) hj3) rfl 5 (by decide) (va_Nw.use rfl (hN _ k197)) (fun _ h9 => h9) rfl d_Maker_walk_59 ?_
      have hPR := RO_at hZr hS
      refine va_aldq hx hb hK hPR 1 4 rfl rfl (vp_in_iff.mpr ⟨by omega, by omega⟩) d_Maker_walk_62 ?_
      have c_hk22 := i_cl (a := (ng v1.toNatClampNeg 2)) (by omega)
      have hk22 : ((ng v1.toNatClampNeg 2)).toNatClampNeg < cm := by omega
      have o_hk22 := htok ((ng v1.toNatClampNeg 2)).toNatClampNeg hk22
      obtain ⟨i_hj23, hj23⟩ : ∃ j : Nat, (PL (NC cB na ng nn nf) cm)[j]? = some ((na ((ng v1.toNatClampNeg 2)).toNatClampNeg 0), .inr (5, [.int (ng ((ng v1.toNatClampNeg 2)).toNatClampNeg 0), .ref (na ((ng v1.toNatClampNeg 2)).toNatClampNeg 1), .ref (na ((ng v1.toNatClampNeg 2)).toNatClampNeg 2), .ref (na ((ng v1.toNatClampNeg 2)).toNatClampNeg 3), .int (ng ((ng v1.toNatClampNeg 2)).toNatClampNeg 1), .int (ng ((ng v1.toNatClampNeg 2)).toNatClampNeg 2), .int (ng ((ng v1.toNatClampNeg 2)).toNatClampNeg 3), .int (ng ((ng v1.toNatClampNeg 2)).toNatClampNeg 4), .int (ng ((ng v1.toNatClampNeg 2)).toNatClampNeg 5), .int (ng ((ng v1.toNatClampNeg 2)).toNatClampNeg 6), .int (ng ((ng v1.toNatClampNeg 2)).toNatClampNeg 7), .int (ng ((ng v1.toNatClampNeg 2)).toNatClampNeg 8)])) := PL_get (i := 0) hk22 rfl
      obtain ⟨i_hj24, hj24⟩ : ∃ j : Nat, (PL (NC cB na ng nn nf) cm)[j]? = some ((na ((ng v1.toNatClampNeg 2)).toNatClampNeg 1), .inl (cB, (nn ((ng v1.toNatClampNeg 2)).toNatClampNeg 1), .inl (nf ((ng v1.toNatClampNeg 2)).toNatClampNeg 1))) := PL_get (i := 1) hk22 rfl
      obtain ⟨i_hj25, hj25⟩ : ∃ j : Nat, (PL (NC cB na ng nn nf) cm)[j]? = some ((na ((ng v1.toNatClampNeg 2)).toNatClampNeg 2), .inl (cB, 11, .inl (nf ((ng v1.toNatClampNeg 2)).toNatClampNeg 2))) := PL_get (i := 2) hk22 rfl
      obtain ⟨i_hj26, hj26⟩ : ∃ j : Nat, (PL (NC cB na ng nn nf) cm)[j]? = some ((na ((ng v1.toNatClampNeg 2)).toNatClampNeg 3), .inl (cB, (nn ((ng v1.toNatClampNeg 2)).toNatClampNeg 3), .inl (nf ((ng v1.toNatClampNeg 2)).toNatClampNeg 3))) := PL_get (i := 3) hk22 rfl
      refine W.eq (g2 := F0 m 63 ls [.ref (na ((ng v1.toNatClampNeg 2)).toNatClampNeg 0), .ref l0, .ref m0]) (by rw [show rowF na cm ((ng v1.toNatClampNeg 2)).toNatClampNeg = some (na ((ng v1.toNatClampNeg 2)).toNatClampNeg 0) from rowF_some hk22]; rfl) ?_
      refine lv_iconst (v := 1) hx hb d_Maker_walk_63 (by decide) ?_
      have hPc := hP.sub (ws' := [(m0, .inr (4, [.ref tr, .ref im, .ref fi, .ref se, .ref u0, .ref id, .ref ct, .int ra2_9, .int ru2_10, .int wg])), (l0, .inr (3, [.int ln, .int lds, .int ltb, .ref lo, .ref lp, .ref lt, .ref lb, .ref le, .int lc, .int ld])), (lb, .inl (cI, 40, .inl lfb)), (le, .inl (cI, 40, .inl lfe)), (u0, .inr (8, [.ref pb, .ref en, .int uc2_11, .int uk2_12])), (pb, .inr (1, [.ref pq, .int L2_13])), (pq, .inl (cB, 400, .inl pg_14)), (en, .inl (cI, 4, .inl eg_15)), (ct, .inl (cI, 40, .inl cc)), (id, .inr (1, [.ref jq, .int il2_16])), (jq, .inl (cB, 60, .inl jg_17)), (im, .inr (1, [.ref iq, .int L])), (iq, .inl (cB, n, .inl g_18))]) [2, 3, 4, 5, 6, 7, 8, 9, 10, 11, 12, 13, 14] rfl
      have hDc := hD.sub (ws' := [(m0, .inr (4, [.ref tr, .ref im, .ref fi, .ref se, .ref u0, .ref id, .ref ct, .int ra2_9, .int ru2_10, .int wg])), (l0, .inr (3, [.int ln, .int lds, .int ltb, .ref lo, .ref lp, .ref lt, .ref lb, .ref le, .int lc, .int ld])), (lb, .inl (cI, 40, .inl lfb)), (le, .inl (cI, 40, .inl lfe)), (u0, .inr (8, [.ref pb, .ref en, .int uc2_11, .int uk2_12])), (pb, .inr (1, [.ref pq, .int L2_13])), (pq, .inl (cB, 400, .inl pg_14)), (en, .inl (cI, 4, .inl eg_15)), (ct, .inl (cI, 40, .inl cc)), (id, .inr (1, [.ref jq, .int il2_16])), (jq, .inl (cB, 60, .inl jg_17)), (im, .inr (1, [.ref iq, .int L])), (iq, .inl (cB, n, .inl g_18))]) [2, 3, 4, 5, 6, 7, 8, 9, 10, 11, 12, 13, 14] (by decide) rfl
      have hFc := va_free (wc := [(m0, .inr (4, [.ref tr, .ref im, .ref fi, .ref se, .ref u0, .ref id, .ref ct, .int ra2_9, .int ru2_10, .int wg])), (l0, .inr (3, [.int ln, .int lds, .int ltb, .ref lo, .ref lp, .ref lt, .ref lb, .ref le, .int lc, .int ld])), (lb, .inl (cI, 40, .inl lfb)), (le, .inl (cI, 40, .inl lfe)), (u0, .inr (8, [.ref pb, .ref en, .int uc2_11, .int uk2_12])), (pb, .inr (1, [.ref pq, .int L2_13])), (pq, .inl (cB, 400, .inl pg_14)), (en, .inl (cI, 4, .inl eg_15)), (ct, .inl (cI, 40, .inl cc)), (id, .inr (1, [.ref jq, .int il2_16])), (jq, .inl (cB, 60, .inl jg_17)), (im, .inr (1, [.ref iq, .int L])), (iq, .inl (cB, n, .inl g_18))]) hD hS hA [2, 3, 4, 5, 6, 7, 8, 9, 10, 11, 12, 13, 14] rfl
      have hkc : 0 ≤ 0 := by decide
      have hks : 0 ≤ 0 := by decide
      refine va_callv (va_runV (C := "DiscMaker$Maker") (As := [.ref l0, .ref (na ((ng v1.toNatClampNeg 2)).toNatClampNeg 0), .int 1]) (rest := []) ⟨hx, hb, hml, hown, hts⟩ (c3_passRecord l D cB cI cJ cZ cN cF H.size m0 tr im fi se u0 id ct ra2_9 ru2_10 wg l0 lo lp lt lb le ln lds ltb lc ld lfb lfe pb pq en uc2_11 uk2_12 L2_13 pg_14 eg_15 cc jq il2_16 jg_17 iq n L g_18 ta cn dr na ng nn nf cm (na ((ng v1.toNatClampNeg 2)).toNatClampNeg 0) (na ((ng v1.toNatClampNeg 2)).toNatClampNeg 1) (na ((ng v1.toNatClampNeg 2)).toNatClampNeg 2) (na ((ng v1.toNatClampNeg 2)).toNatClampNeg 3) (ng ((ng v1.toNatClampNeg 2)).toNatClampNeg 0) (ng ((ng v1.toNatClampNeg 2)).toNatClampNeg 1) (ng ((ng v1.toNatClampNeg 2)).toNatClampNeg 2) (ng ((ng v1.toNatClampNeg 2)).toNatClampNeg 3) (ng ((ng v1.toNatClampNeg 2)).toNatClampNeg 4) (ng ((ng v1.toNatClampNeg 2)).toNatClampNeg 5) (ng ((ng v1.toNatClampNeg 2)).toNatClampNeg 6) (ng ((ng v1.toNatClampNeg 2)).toNatClampNeg 7) (ng ((ng v1.toNatClampNeg 2)).toNatClampNeg 8) (nn ((ng v1.toNatClampNeg 2)).toNatClampNeg 1) (nf ((ng v1.toNatClampNeg 2)).toNatClampNeg 1) (nf ((ng v1.toNatClampNeg 2)).toNatClampNeg 2) (nn ((ng v1.toNatClampNeg 2)).toNatClampNeg 3) (nf ((ng v1.toNatClampNeg 2)).toNatClampNeg 3) td ts tl gd gs gl 1 (by (try dsimp only); first | assumption | omega | trivial) (by (try dsimp only); first | assumption | omega | trivial) (by (try dsimp only); first | assumption | omega | trivial) (by (try dsimp only); first | assumption | omega | trivial) (by (try dsimp only); first | assumption | omega | trivial) (by (try dsimp only); first | assumption | omega | trivial) (by (try dsimp only); first | assumption | omega | trivial) (by (try dsimp only); first | assumption | omega | trivial) (by (try dsimp only); first | assumption | omega | trivial) (by (try dsimp only); first | assumption | omega | trivial)) (cwV 3 hts (lg_goodV k968 k970 k17 k120 kc_Maker_passRecord) rfl rfl rfl (by decide +kernel) ⟨Nat.le_of_ble_eq_true rfl, Nat.le_of_ble_eq_true rfl⟩) ⟨fun a U g mk q => by obtain ⟨q0, q1, qP, qK, qN, qD, qZ0, qZ1⟩ := q; exact ⟨q0, q1, qP, va_K.moved (u := U) (U := U.calling g mk a) (Vm.Alike.refl U.vm) qK, qN.calling, qD, SZ_blind qZ0, RO_blind qZ1⟩, va_recv hK hP (ci := 4) (q0 := 2) rfl rfl, fun U hU hW => ⟨rfl, by rw [hU], by rw [hU]; exact hPc, va_K.moved hW.alike hK, NN.warm hW hN, hDc.weaken (fun _ _ _ _ => trivial), SZ_pass hZs hS hFc hW.alike hU, (RO_app (w1 := [(tr, .inr (10, [.ref ta, .int cn, .int dr]))]) (w2 := ([(ta, .inl (cN, 40, .inr (.inr (.inr (.inr (rowF na cm)))))), ((na ((ng v1.toNatClampNeg 2)).toNatClampNeg 0), .inr (5, [.int (ng ((ng v1.toNatClampNeg 2)).toNatClampNeg 0), .ref (na ((ng v1.toNatClampNeg 2)).toNatClampNeg 1), .ref (na ((ng v1.toNatClampNeg 2)).toNatClampNeg 2), .ref (na ((ng v1.toNatClampNeg 2)).toNatClampNeg 3), .int (ng ((ng v1.toNatClampNeg 2)).toNatClampNeg 1), .int (ng ((ng v1.toNatClampNeg 2)).toNatClampNeg 2), .int (ng ((ng v1.toNatClampNeg 2)).toNatClampNeg 3), .int (ng ((ng v1.toNatClampNeg 2)).toNatClampNeg 4), .int (ng ((ng v1.toNatClampNeg 2)).toNatClampNeg 5), .int (ng ((ng v1.toNatClampNeg 2)).toNatClampNeg 6), .int (ng ((ng v1.toNatClampNeg 2)).toNatClampNeg 7), .int (ng ((ng v1.toNatClampNeg 2)).toNatClampNeg 8)])), ((na ((ng v1.toNatClampNeg 2)).toNatClampNeg 1), .inl (cB, (nn ((ng v1.toNatClampNeg 2)).toNatClampNeg 1), .inl (nf ((ng v1.toNatClampNeg 2)).toNatClampNeg 1))), ((na ((ng v1.toNatClampNeg 2)).toNatClampNeg 2), .inl (cB, 11, .inl (nf ((ng v1.toNatClampNeg 2)).toNatClampNeg 2))), ((na ((ng v1.toNatClampNeg 2)).toNatClampNeg 3), .inl (cB, (nn ((ng v1.toNatClampNeg 2)).toNatClampNeg 3), .inl (nf ((ng v1.toNatClampNeg 2)).toNatClampNeg 3)))] ++ (PL (NC cB na ng nn nf) cm))) (RO_pass (RO_one hZr 0 rfl) hS hFc hU) (RO_app (w1 := [(ta, .inl (cN, 40, .inr (.inr (.inr (.inr (rowF na cm))))))]) (w2 := ([((na ((ng v1.toNatClampNeg 2)).toNatClampNeg 0), .inr (5, [.int (ng ((ng v1.toNatClampNeg 2)).toNatClampNeg 0), .ref (na ((ng v1.toNatClampNeg 2)).toNatClampNeg 1), .ref (na ((ng v1.toNatClampNeg 2)).toNatClampNeg 2), .ref (na ((ng v1.toNatClampNeg 2)).toNatClampNeg 3), .int (ng ((ng v1.toNatClampNeg 2)).toNatClampNeg 1), .int (ng ((ng v1.toNatClampNeg 2)).toNatClampNeg 2), .int (ng ((ng v1.toNatClampNeg 2)).toNatClampNeg 3), .int (ng ((ng v1.toNatClampNeg 2)).toNatClampNeg 4), .int (ng ((ng v1.toNatClampNeg 2)).toNatClampNeg 5), .int (ng ((ng v1.toNatClampNeg 2)).toNatClampNeg 6), .int (ng ((ng v1.toNatClampNeg 2)).toNatClampNeg 7), .int (ng ((ng v1.toNatClampNeg 2)).toNatClampNeg 8)])), ((na ((ng v1.toNatClampNeg 2)).toNatClampNeg 1), .inl (cB, (nn ((ng v1.toNatClampNeg 2)).toNatClampNeg 1), .inl (nf ((ng v1.toNatClampNeg 2)).toNatClampNeg 1))), ((na ((ng v1.toNatClampNeg 2)).toNatClampNeg 2), .inl (cB, 11, .inl (nf ((ng v1.toNatClampNeg 2)).toNatClampNeg 2))), ((na ((ng v1.toNatClampNeg 2)).toNatClampNeg 3), .inl (cB, (nn ((ng v1.toNatClampNeg 2)).toNatClampNeg 3), .inl (nf ((ng v1.toNatClampNeg 2)).toNatClampNeg 3)))] ++ (PL (NC cB na ng nn nf) cm))) (RO_pass (RO_one hZr 1 rfl) hS hFc hU) (RO_app (w1 := [((na ((ng v1.toNatClampNeg 2)).toNatClampNeg 0), .inr (5, [.int (ng ((ng v1.toNatClampNeg 2)).toNatClampNeg 0), .ref (na ((ng v1.toNatClampNeg 2)).toNatClampNeg 1), .ref (na ((ng v1.toNatClampNeg 2)).toNatClampNeg 2), .ref (na ((ng v1.toNatClampNeg 2)).toNatClampNeg 3), .int (ng ((ng v1.toNatClampNeg 2)).toNatClampNeg 1), .int (ng ((ng v1.toNatClampNeg 2)).toNatClampNeg 2), .int (ng ((ng v1.toNatClampNeg 2)).toNatClampNeg 3), .int (ng ((ng v1.toNatClampNeg 2)).toNatClampNeg 4), .int (ng ((ng v1.toNatClampNeg 2)).toNatClampNeg 5), .int (ng ((ng v1.toNatClampNeg 2)).toNatClampNeg 6), .int (ng ((ng v1.toNatClampNeg 2)).toNatClampNeg 7), .int (ng ((ng v1.toNatClampNeg 2)).toNatClampNeg 8)]))]) (w2 := ([((na ((ng v1.toNatClampNeg 2)).toNatClampNeg 1), .inl (cB, (nn ((ng v1.toNatClampNeg 2)).toNatClampNeg 1), .inl (nf ((ng v1.toNatClampNeg 2)).toNatClampNeg 1))), ((na ((ng v1.toNatClampNeg 2)).toNatClampNeg 2), .inl (cB, 11, .inl (nf ((ng v1.toNatClampNeg 2)).toNatClampNeg 2))), ((na ((ng v1.toNatClampNeg 2)).toNatClampNeg 3), .inl (cB, (nn ((ng v1.toNatClampNeg 2)).toNatClampNeg 3), .inl (nf ((ng v1.toNatClampNeg 2)).toNatClampNeg 3)))] ++ (PL (NC cB na ng nn nf) cm))) (RO_pass (RO_one hZr _ (pix (X := [(tr, .inr (10, [.ref ta, .int cn, .int dr])), (ta, .inl (cN, 40, .inr (.inr (.inr (.inr (rowF na cm))))))]) hj23)) hS hFc hU) (RO_app (w1 := [((na ((ng v1.toNatClampNeg 2)).toNatClampNeg 1), .inl (cB, (nn ((ng v1.toNatClampNeg 2)).toNatClampNeg 1), .inl (nf ((ng v1.toNatClampNeg 2)).toNatClampNeg 1)))]) (w2 := ([((na ((ng v1.toNatClampNeg 2)).toNatClampNeg 2), .inl (cB, 11, .inl (nf ((ng v1.toNatClampNeg 2)).toNatClampNeg 2))), ((na ((ng v1.toNatClampNeg 2)).toNatClampNeg 3), .inl (cB, (nn ((ng v1.toNatClampNeg 2)).toNatClampNeg 3), .inl (nf ((ng v1.toNatClampNeg 2)).toNatClampNeg 3)))] ++ (PL (NC cB na ng nn nf) cm))) (RO_pass (RO_one hZr _ (pix (X := [(tr, .inr (10, [.ref ta, .int cn, .int dr])), (ta, .inl (cN, 40, .inr (.inr (.inr (.inr (rowF na cm))))))]) hj24)) hS hFc hU) (RO_app (w1 := [((na ((ng v1.toNatClampNeg 2)).toNatClampNeg 2), .inl (cB, 11, .inl (nf ((ng v1.toNatClampNeg 2)).toNatClampNeg 2)))]) (w2 := ([((na ((ng v1.toNatClampNeg 2)).toNatClampNeg 3), .inl (cB, (nn ((ng v1.toNatClampNeg 2)).toNatClampNeg 3), .inl (nf ((ng v1.toNatClampNeg 2)).toNatClampNeg 3)))] ++ (PL (NC cB na ng nn nf) cm))) (RO_pass (RO_one hZr _ (pix (X := [(tr, .inr (10, [.ref ta, .int cn, .int dr])), (ta, .inl (cN, 40, .inr (.inr (.inr (.inr (rowF na cm))))))]) hj25)) hS hFc hU) (RO_app (w1 := [((na ((ng v1.toNatClampNeg 2)).toNatClampNeg 3), .inl (cB, (nn ((ng v1.toNatClampNeg 2)).toNatClampNeg 3), .inl (nf ((ng v1.toNatClampNeg 2)).toNatClampNeg 3)))]) (w2 := (PL (NC cB na ng nn nf) cm)) (RO_pass (RO_one hZr _ (pix (X := [(tr, .inr (10, [.ref ta, .int cn, .int dr])), (ta, .inl (cN, 40, .inr (.inr (.inr (.inr (rowF na cm))))))]) hj26)) hS hFc hU) (RO_pass (RO_tail (X := [(tr, .inr (10, [.ref ta, .int cn, .int dr])), (ta, .inl (cN, 40, .inr (.inr (.inr (.inr (rowF na cm))))))]) hZr) hS hFc hU)))))))⟩⟩ rfl rfl hl.1 rfl (lv_room (Nat.le_of_ble_eq_true rfl)) d_Maker_walk_64 ⟨hkc, hks⟩) hS (fun q _ h => hFc q h) hFc (fun u t H1 locs ht hvm hp_r27 hB hz1 hk1 hS => ?_)
      obtain ⟨ra2_28, ru2_29, uc2_30, uk2_31, L2_32, pg_33, eg_34, il2_35, jg_36, g_37⟩ := u
      obtain ⟨hP1, hD1⟩ := hB
      rw [ht] at hP1
      obtain ⟨hP, hD⟩ := va_join (wr := [(lo, .inl (cI, 40, .inl fo)), (lp, .inl (cI, 12, .inl fp))]) (w1 := [(m0, .inr (4, [.ref tr, .ref im, .ref fi, .ref se, .ref u0, .ref id, .ref ct, .int ra2_28, .int ru2_29, .int wg])), (l0, .inr (3, [.int ln, .int lds, .int ltb, .ref lo, .ref lp, .ref lt, .ref lb, .ref le, .int lc, .int ld])), (lb, .inl (cI, 40, .inl lfb)), (le, .inl (cI, 40, .inl lfe)), (u0, .inr (8, [.ref pb, .ref en, .int uc2_30, .int uk2_31])), (pb, .inr (1, [.ref pq, .int L2_32])), (pq, .inl (cB, 400, .inl pg_33)), (en, .inl (cI, 4, .inl eg_34)), (ct, .inl (cI, 40, .inl cc)), (id, .inr (1, [.ref jq, .int il2_35])), (jq, .inl (cB, 60, .inl jg_36)), (im, .inr (1, [.ref iq, .int L])), (iq, .inl (cB, n, .inl g_37))]) hP hD [2, 3, 4, 5, 6, 7, 8, 9, 10, 11, 12, 13, 14] [0, 1] rfl rfl (by decide) (by decide) hk1 hFc hP1 hD1
      clear hPc hDc hFc hP1 hD1 hk1 hz1
      generalize H1 = H at hP hS ⊢
      have hP : va_P D CL [(lo, .inl (cI, 40, .inl fo)), (lp, .inl (cI, 12, .inl fp)), (m0, .inr (4, [.ref tr, .ref im, .ref fi, .ref se, .ref u0, .ref id, .ref ct, .int ra2_28, .int ru2_29, .int wg])), (l0, .inr (3, [.int ln, .int lds, .int ltb, .ref lo, .ref lp, .ref lt, .ref lb, .ref le, .int lc, .int ld])), (lb, .inl (cI, 40, .inl lfb)), (le, .inl (cI, 40, .inl lfe)), (u0, .inr (8, [.ref pb, .ref en, .int uc2_30, .int uk2_31])), (pb, .inr (1, [.ref pq, .int L2_32])), (pq, .inl (cB, 400, .inl pg_33)), (en, .inl (cI, 4, .inl eg_34)), (ct, .inl (cI, 40, .inl cc)), (id, .inr (1, [.ref jq, .int il2_35])), (jq, .inl (cB, 60, .inl jg_36)), (im, .inr (1, [.ref iq, .int L])), (iq, .inl (cB, n, .inl g_37))] H := hP
      have hD : va_D A [(lo, .inl (cI, 40, .inl fo)), (lp, .inl (cI, 12, .inl fp)), (m0, .inr (4, [.ref tr, .ref im, .ref fi, .ref se, .ref u0, .ref id, .ref ct, .int ra2_28, .int ru2_29, .int wg])), (l0, .inr (3, [.int ln, .int lds, .int ltb, .ref lo, .ref lp, .ref lt, .ref lb, .ref le, .int lc, .int ld])), (lb, .inl (cI, 40, .inl lfb)), (le, .inl (cI, 40, .inl lfe)), (u0, .inr (8, [.ref pb, .ref en, .int uc2_30, .int uk2_31])), (pb, .inr (1, [.ref pq, .int L2_32])), (pq, .inl (cB, 400, .inl pg_33)), (en, .inl (cI, 4, .inl eg_34)), (ct, .inl (cI, 40, .inl cc)), (id, .inr (1, [.ref jq, .int il2_35])), (jq, .inl (cB, 60, .inl jg_36)), (im, .inr (1, [.ref iq, .int L])), (iq, .inl (cB, n, .inl g_37))] := hD
      try dsimp only at hp_r27
      obtain ⟨hra_38, hru_39, hln_40⟩ := hp_r27
      refine lv_iconst (v := 0) hx hb d_Maker_walk_67 (by decide) ?_
      refine lv_istore hx hb d_Maker_walk_68 hl (by decide) rfl (fun ls hl => ?_)
      have hl : lv_has ls 8 [(6, .int 0), (5, .ref (na v1.toNatClampNeg 0)), (0, .ref m0), (1, .ref l0), (2, .int x), (3, .int nx), (4, .int kx)] := hl
      refine zz_lab (P := fun (lk : Nat) (H : Heap) (locs : List Loc) (ls : Array Slot) (stk : List Value) => ∃ (jx : Int32) (bra : Int32) (bru : Int32) (buc : Int32) (buk : Int32) (bpL : Int32) (bpf : Nat → Int32) (bef : Nat → Int32) (bil : Int32) (bjf : Nat → Int32) (bf : Nat → Int32) , lk = (lc.toInt - jx.toInt).toNat ∧ stk = [] ∧ (0 ≤ jx.toInt ∧ jx.toInt ≤ lc.toInt) ∧ (nx.toInt * 2048 ≤ bra.toInt ∧ bra.toInt ≤ nx.toInt * 2048 + 1046 * (2 + jx.toInt)) ∧ (lru.toInt ≤ bru.toInt ∧ bru.toInt ≤ lru.toInt + 800 * (2 + jx.toInt)) ∧ (ln.toInt ≠ 0 → bra.toInt ≤ nx.toInt * 2048 + 200 * (2 + jx.toInt) ∧ bru.toInt = lru.toInt) ∧ va_P D CL [(lo, .inl (cI, 40, .inl fo)), (lp, .inl (cI, 12, .inl fp)), (m0, .inr (4, [.ref tr, .ref im, .ref fi, .ref se, .ref u0, .ref id, .ref ct, .int bra, .int bru, .int wg])), (l0, .inr (3, [.int ln, .int lds, .int ltb, .ref lo, .ref lp, .ref lt, .ref lb, .ref le, .int lc, .int ld])), (lb, .inl (cI, 40, .inl lfb)), (le, .inl (cI, 40, .inl lfe)), (u0, .inr (8, [.ref pb, .ref en, .int buc, .int buk])), (pb, .inr (1, [.ref pq, .int bpL])), (pq, .inl (cB, 400, .inl bpf)), (en, .inl (cI, 4, .inl bef)), (ct, .inl (cI, 40, .inl cc)), (id, .inr (1, [.ref jq, .int bil])), (jq, .inl (cB, 60, .inl bjf)), (im, .inr (1, [.ref iq, .int L])), (iq, .inl (cB, n, .inl bf))] H ∧ va_D A [(lo, .inl (cI, 40, .inl fo)), (lp, .inl (cI, 12, .inl fp)), (m0, .inr (4, [.ref tr, .ref im, .ref fi, .ref se, .ref u0, .ref id, .ref ct, .int bra, .int bru, .int wg])), (l0, .inr (3, [.int ln, .int lds, .int ltb, .ref lo, .ref lp, .ref lt, .ref lb, .ref le, .int lc, .int ld])), (lb, .inl (cI, 40, .inl lfb)), (le, .inl (cI, 40, .inl lfe)), (u0, .inr (8, [.ref pb, .ref en, .int buc, .int buk])), (pb, .inr (1, [.ref pq, .int bpL])), (pq, .inl (cB, 400, .inl bpf)), (en, .inl (cI, 4, .inl bef)), (ct, .inl (cI, 40, .inl cc)), (id, .inr (1, [.ref jq, .int bil])), (jq, .inl (cB, 60, .inl bjf)), (im, .inr (1, [.ref iq, .int L])), (iq, .inl (cB, n, .inl bf))] ∧ va_S A s.heap H locs ∧ lv_has ls 8 [(0, .ref m0), (1, .ref l0), (2, .int x), (3, .int nx), (4, .int kx), (5, .ref (na v1.toNatClampNeg 0)), (6, .int jx)]) 70 ?_ ?_
      · skip
        intro lk ih70 H locs ls stk hI
        obtain ⟨jx, bra, bru, buc, buk, bpL, bpf, bef, bil, bjf, bf, hm70, rfl, e5, e6, e7, e8, hP, hD, hS, hl⟩ := hI
        refine lv_iload hx hb d_Maker_walk_70 (lv_at hl 6 rfl) ?_
        refine lv_aload_n hx hb d_Maker_walk_72 rfl (lv_at hl 1 rfl) ?_
        refine va_getN (D := D) (ci := 3) (v := .int lc) (C := "DiscMaker$Layout") (T := F_Layout) (N := 10) hx hb ht9 in_Layout hown hK hP 3 rfl rfl 8 (by decide) (va_Nw.use rfl (hN _ k297)) (fun _ h9 => h9) rfl d_Maker_walk_73 ?_
        refine lv_icmp_ge (tgt := 123) hx hb d_Maker_walk_76 (by decide) (fun h_9 => ?_) (fun h_9 => ?_)
        · skip
          have g76_45 : lc.toInt ≤ jx.toInt := (i_le rfl rfl).mp h_9
          refine lv_aload_n hx hb d_Maker_walk_123 rfl (lv_at hl 1 rfl) ?_
          refine va_getN (D := D) (ci := 3) (v := .ref lb) (C := "DiscMaker$Layout") (T := F_Layout) (N := 10) hx hb ht9 in_Layout hown hK hP 3 rfl rfl 6 (by decide) (va_Nw.use rfl (hN _ k293)) (fun _ h9 => h9) rfl d_Maker_walk_124 ?_
          refine lv_aload hx hb d_Maker_walk_127 (lv_at hl 5 rfl) ?_
          have hPR := RO_at hZr hS
          refine va_getN (D := D) (ci := 5) (v := .int (ng v1.toNatClampNeg 1)) (C := "DiscMaker$Node") (T := F_Node) (N := 12) hx hb ht9 in_Node hown hK hPR _ (pix (X := [(tr, .inr (10, [.ref ta, .int cn, .int dr])), (ta, .inl (cN, 40, .inr (.inr (.inr (.inr (rowF na cm))))))]) hj3) rfl 4 (by decide) (va_Nw.use rfl (hN _ k195)) (fun _ h9 => h9) rfl d_Maker_walk_129 ?_
          refine lv_iload_n hx hb d_Maker_walk_132 rfl (lv_at hl 3 rfl) ?_
          refine zq_iast hx hb hK hP hD hS 4 1 rfl rfl (vp_in_iff.mpr ⟨by omega, by omega⟩) d_Maker_walk_133 (fun fz41 e_fz41 H locs hP hD hS => ?_)
          have hP : va_P D CL [(lo, .inl (cI, 40, .inl fo)), (lp, .inl (cI, 12, .inl fp)), (m0, .inr (4, [.ref tr, .ref im, .ref fi, .ref se, .ref u0, .ref id, .ref ct, .int bra, .int bru, .int wg])), (l0, .inr (3, [.int ln, .int lds, .int ltb, .ref lo, .ref lp, .ref lt, .ref lb, .ref le, .int lc, .int ld])), (lb, .inl (cI, 40, .inl fz41)), (le, .inl (cI, 40, .inl lfe)), (u0, .inr (8, [.ref pb, .ref en, .int buc, .int buk])), (pb, .inr (1, [.ref pq, .int bpL])), (pq, .inl (cB, 400, .inl bpf)), (en, .inl (cI, 4, .inl bef)), (ct, .inl (cI, 40, .inl cc)), (id, .inr (1, [.ref jq, .int bil])), (jq, .inl (cB, 60, .inl bjf)), (im, .inr (1, [.ref iq, .int L])), (iq, .inl (cB, n, .inl bf))] H := hP
          have hD : va_D A [(lo, .inl (cI, 40, .inl fo)), (lp, .inl (cI, 12, .inl fp)), (m0, .inr (4, [.ref tr, .ref im, .ref fi, .ref se, .ref u0, .ref id, .ref ct, .int bra, .int bru, .int wg])), (l0, .inr (3, [.int ln, .int lds, .int ltb, .ref lo, .ref lp, .ref lt, .ref lb, .ref le, .int lc, .int ld])), (lb, .inl (cI, 40, .inl fz41)), (le, .inl (cI, 40, .inl lfe)), (u0, .inr (8, [.ref pb, .ref en, .int buc, .int buk])), (pb, .inr (1, [.ref pq, .int bpL])), (pq, .inl (cB, 400, .inl bpf)), (en, .inl (cI, 4, .inl bef)), (ct, .inl (cI, 40, .inl cc)), (id, .inr (1, [.ref jq, .int bil])), (jq, .inl (cB, 60, .inl bjf)), (im, .inr (1, [.ref iq, .int L])), (iq, .inl (cB, n, .inl bf))] := hD
          have s_fz41 : fz41 ((ng v1.toNatClampNeg 1)).toNatClampNeg = nx := by rw [e_fz41]; unfold upd; rw [if_pos (by first | rfl | decide)]
          refine lv_aload_n hx hb d_Maker_walk_134 rfl (lv_at hl 1 rfl) ?_
          refine va_getN (D := D) (ci := 3) (v := .ref le) (C := "DiscMaker$Layout") (T := F_Layout) (N := 10) hx hb ht9 in_Layout hown hK hP 3 rfl rfl 7 (by decide) (va_Nw.use rfl (hN _ k295)) (fun _ h9 => h9) rfl d_Maker_walk_135 ?_
          refine lv_aload hx hb d_Maker_walk_138 (lv_at hl 5 rfl) ?_
          have hPR := RO_at hZr hS
          refine va_getN (D := D) (ci := 5) (v := .int (ng v1.toNatClampNeg 1)) (C := "DiscMaker$Node") (T := F_Node) (N := 12) hx hb ht9 in_Node hown hK hPR _ (pix (X := [(tr, .inr (10, [.ref ta, .int cn, .int dr])), (ta, .inl (cN, 40, .inr (.inr (.inr (.inr (rowF na cm))))))]) hj3) rfl 4 (by decide) (va_Nw.use rfl (hN _ k195)) (fun _ h9 => h9) rfl d_Maker_walk_140 ?_
          refine lv_aload_n hx hb d_Maker_walk_143 rfl (lv_at hl 0 rfl) ?_
          refine va_get (D := D) (ci := 4) (v := .int bra) (C := "DiscMaker$Maker") (T := F_Maker) (N := 10) hx hb ht9 in_Maker hown hK hP 2 rfl rfl 7 (by decide) (ht9 _ k354) (fun _ h9 => h9) rfl d_Maker_walk_144 ?_
          have hPc := hP.sub (ws' := []) [] rfl
          have hDc := hD.sub (ws' := []) [] (by decide) rfl
          have hFc := va_free (wc := []) hD hS hA [] rfl
          have hkc : 0 ≤ 0 := by decide
          have hks : 0 ≤ 0 := by decide
          refine va_calli (va_runSN (As := [.int bra]) (rest := [.int (ng v1.toNatClampNeg 1), .ref le]) ⟨hx, hb, hml, hown, hts⟩ (c3_sectorsFor l D cB cI cJ cZ cN cF H.size bra (by (try dsimp only); first | assumption | omega | trivial)) ⟨va_cnB 1 hts (lg_good kc_DiscMaker_sectorsFor) rfl rfl rfl (hN _ k1045) (ht9 _ k115) (by decide +kernel) ⟨Nat.le_of_ble_eq_true rfl, Nat.le_of_ble_eq_true rfl⟩, ht9 _ k1046, trivial⟩ ⟨fun a U g mk q => by obtain ⟨q0, q1, qP, qK, qN, qD⟩ := q; exact ⟨q0, q1, qP, va_K.moved (u := U) (U := U.calling g mk a) (Vm.Alike.refl U.vm) qK, qN.calling, qD⟩, fun U hU hW => ⟨rfl, by rw [hU], by rw [hU]; exact hPc, va_K.moved hW.alike hK, NN.warm hW hN, hDc.weaken (fun _ _ _ _ => trivial)⟩⟩ rfl rfl hl.1 rfl (lv_room (Nat.le_of_ble_eq_true rfl)) d_Maker_walk_147 ⟨hkc, hks⟩) hS (fun q _ h => hFc q h) hFc (fun r42 u t H1 locs ht hvm hp_r42 hB hz1 hk1 hS => ?_)
          obtain ⟨hP1, hD1⟩ := hB
          rw [ht] at hP1
          obtain ⟨hP, hD⟩ := va_join (wr := [(lo, .inl (cI, 40, .inl fo)), (lp, .inl (cI, 12, .inl fp)), (m0, .inr (4, [.ref tr, .ref im, .ref fi, .ref se, .ref u0, .ref id, .ref ct, .int bra, .int bru, .int wg])), (l0, .inr (3, [.int ln, .int lds, .int ltb, .ref lo, .ref lp, .ref lt, .ref lb, .ref le, .int lc, .int ld])), (lb, .inl (cI, 40, .inl fz41)), (le, .inl (cI, 40, .inl lfe)), (u0, .inr (8, [.ref pb, .ref en, .int buc, .int buk])), (pb, .inr (1, [.ref pq, .int bpL])), (pq, .inl (cB, 400, .inl bpf)), (en, .inl (cI, 4, .inl bef)), (ct, .inl (cI, 40, .inl cc)), (id, .inr (1, [.ref jq, .int bil])), (jq, .inl (cB, 60, .inl bjf)), (im, .inr (1, [.ref iq, .int L])), (iq, .inl (cB, n, .inl bf))]) (w1 := []) hP hD [] [0, 1, 2, 3, 4, 5, 6, 7, 8, 9, 10, 11, 12, 13, 14] rfl rfl (by decide) (by decide) hk1 hFc hP1 hD1
          clear hPc hDc hFc hP1 hD1 hk1 hz1
          generalize H1 = H at hP hS ⊢
          have hP : va_P D CL [(lo, .inl (cI, 40, .inl fo)), (lp, .inl (cI, 12, .inl fp)), (m0, .inr (4, [.ref tr, .ref im, .ref fi, .ref se, .ref u0, .ref id, .ref ct, .int bra, .int bru, .int wg])), (l0, .inr (3, [.int ln, .int lds, .int ltb, .ref lo, .ref lp, .ref lt, .ref lb, .ref le, .int lc, .int ld])), (lb, .inl (cI, 40, .inl fz41)), (le, .inl (cI, 40, .inl lfe)), (u0, .inr (8, [.ref pb, .ref en, .int buc, .int buk])), (pb, .inr (1, [.ref pq, .int bpL])), (pq, .inl (cB, 400, .inl bpf)), (en, .inl (cI, 4, .inl bef)), (ct, .inl (cI, 40, .inl cc)), (id, .inr (1, [.ref jq, .int bil])), (jq, .inl (cB, 60, .inl bjf)), (im, .inr (1, [.ref iq, .int L])), (iq, .inl (cB, n, .inl bf))] H := hP
          have hD : va_D A [(lo, .inl (cI, 40, .inl fo)), (lp, .inl (cI, 12, .inl fp)), (m0, .inr (4, [.ref tr, .ref im, .ref fi, .ref se, .ref u0, .ref id, .ref ct, .int bra, .int bru, .int wg])), (l0, .inr (3, [.int ln, .int lds, .int ltb, .ref lo, .ref lp, .ref lt, .ref lb, .ref le, .int lc, .int ld])), (lb, .inl (cI, 40, .inl fz41)), (le, .inl (cI, 40, .inl lfe)), (u0, .inr (8, [.ref pb, .ref en, .int buc, .int buk])), (pb, .inr (1, [.ref pq, .int bpL])), (pq, .inl (cB, 400, .inl bpf)), (en, .inl (cI, 4, .inl bef)), (ct, .inl (cI, 40, .inl cc)), (id, .inr (1, [.ref jq, .int bil])), (jq, .inl (cB, 60, .inl bjf)), (im, .inr (1, [.ref iq, .int L])), (iq, .inl (cB, n, .inl bf))] := hD
          try dsimp only at hp_r42
          have hv_43 := hp_r42
          refine lv_iload_n hx hb d_Maker_walk_150 rfl (lv_at hl 3 rfl) ?_
          refine lv_isub hx hb d_Maker_walk_151 ?_
          refine lv_topi (fun v44 e_v44 => ?_)
          have t_v44 : v44.toInt = r42.toInt - nx.toInt := by rw [e_v44]; exact i_sub rfl rfl (by omega) (by omega)
          refine zq_iast hx hb hK hP hD hS 5 1 rfl rfl (vp_in_iff.mpr ⟨by omega, by omega⟩) d_Maker_walk_152 (fun fz45 e_fz45 H locs hP hD hS => ?_)
          have hP : va_P D CL [(lo, .inl (cI, 40, .inl fo)), (lp, .inl (cI, 12, .inl fp)), (m0, .inr (4, [.ref tr, .ref im, .ref fi, .ref se, .ref u0, .ref id, .ref ct, .int bra, .int bru, .int wg])), (l0, .inr (3, [.int ln, .int lds, .int ltb, .ref lo, .ref lp, .ref lt, .ref lb, .ref le, .int lc, .int ld])), (lb, .inl (cI, 40, .inl fz41)), (le, .inl (cI, 40, .inl fz45)), (u0, .inr (8, [.ref pb, .ref en, .int buc, .int buk])), (pb, .inr (1, [.ref pq, .int bpL])), (pq, .inl (cB, 400, .inl bpf)), (en, .inl (cI, 4, .inl bef)), (ct, .inl (cI, 40, .inl cc)), (id, .inr (1, [.ref jq, .int bil])), (jq, .inl (cB, 60, .inl bjf)), (im, .inr (1, [.ref iq, .int L])), (iq, .inl (cB, n, .inl bf))] H := hP
          have hD : va_D A [(lo, .inl (cI, 40, .inl fo)), (lp, .inl (cI, 12, .inl fp)), (m0, .inr (4, [.ref tr, .ref im, .ref fi, .ref se, .ref u0, .ref id, .ref ct, .int bra, .int bru, .int wg])), (l0, .inr (3, [.int ln, .int lds, .int ltb, .ref lo, .ref lp, .ref lt, .ref lb, .ref le, .int lc, .int ld])), (lb, .inl (cI, 40, .inl fz41)), (le, .inl (cI, 40, .inl fz45)), (u0, .inr (8, [.ref pb, .ref en, .int buc, .int buk])), (pb, .inr (1, [.ref pq, .int bpL])), (pq, .inl (cB, 400, .inl bpf)), (en, .inl (cI, 4, .inl bef)), (ct, .inl (cI, 40, .inl cc)), (id, .inr (1, [.ref jq, .int bil])), (jq, .inl (cB, 60, .inl bjf)), (im, .inr (1, [.ref iq, .int L])), (iq, .inl (cB, n, .inl bf))] := hD
          have s_fz45 : fz45 ((ng v1.toNatClampNeg 1)).toNatClampNeg = v44 := by rw [e_fz45]; unfold upd; rw [if_pos (by first | rfl | decide)]
          refine lv_aload_n hx hb d_Maker_walk_153 rfl (lv_at hl 0 rfl) ?_
          refine va_get (D := D) (ci := 4) (v := .int bra) (C := "DiscMaker$Maker") (T := F_Maker) (N := 10) hx hb ht9 in_Maker hown hK hP 2 rfl rfl 7 (by decide) (ht9 _ k354) (fun _ h9 => h9) rfl d_Maker_walk_154 ?_
          have hPc := hP.sub (ws' := []) [] rfl
          have hDc := hD.sub (ws' := []) [] (by decide) rfl
          have hFc := va_free (wc := []) hD hS hA [] rfl
          have hkc : 0 ≤ 0 := by decide
          have hks : 0 ≤ 0 := by decide
          refine va_calli (va_runSN (As := [.int bra]) (rest := []) ⟨hx, hb, hml, hown, hts⟩ (c3_sectorsFor l D cB cI cJ cZ cN cF H.size bra (by (try dsimp only); first | assumption | omega | trivial)) ⟨va_cnB 1 hts (lg_good kc_DiscMaker_sectorsFor) rfl rfl rfl (hN _ k1045) (ht9 _ k115) (by decide +kernel) ⟨Nat.le_of_ble_eq_true rfl, Nat.le_of_ble_eq_true rfl⟩, ht9 _ k1046, trivial⟩ ⟨fun a U g mk q => by obtain ⟨q0, q1, qP, qK, qN, qD⟩ := q; exact ⟨q0, q1, qP, va_K.moved (u := U) (U := U.calling g mk a) (Vm.Alike.refl U.vm) qK, qN.calling, qD⟩, fun U hU hW => ⟨rfl, by rw [hU], by rw [hU]; exact hPc, va_K.moved hW.alike hK, NN.warm hW hN, hDc.weaken (fun _ _ _ _ => trivial)⟩⟩ rfl rfl hl.1 rfl (lv_room (Nat.le_of_ble_eq_true rfl)) d_Maker_walk_157 ⟨hkc, hks⟩) hS (fun q _ h => hFc q h) hFc (fun r46 u t H1 locs ht hvm hp_r46 hB hz1 hk1 hS => ?_)
          obtain ⟨hP1, hD1⟩ := hB
          rw [ht] at hP1
          obtain ⟨hP, hD⟩ := va_join (wr := [(lo, .inl (cI, 40, .inl fo)), (lp, .inl (cI, 12, .inl fp)), (m0, .inr (4, [.ref tr, .ref im, .ref fi, .ref se, .ref u0, .ref id, .ref ct, .int bra, .int bru, .int wg])), (l0, .inr (3, [.int ln, .int lds, .int ltb, .ref lo, .ref lp, .ref lt, .ref lb, .ref le, .int lc, .int ld])), (lb, .inl (cI, 40, .inl fz41)), (le, .inl (cI, 40, .inl fz45)), (u0, .inr (8, [.ref pb, .ref en, .int buc, .int buk])), (pb, .inr (1, [.ref pq, .int bpL])), (pq, .inl (cB, 400, .inl bpf)), (en, .inl (cI, 4, .inl bef)), (ct, .inl (cI, 40, .inl cc)), (id, .inr (1, [.ref jq, .int bil])), (jq, .inl (cB, 60, .inl bjf)), (im, .inr (1, [.ref iq, .int L])), (iq, .inl (cB, n, .inl bf))]) (w1 := []) hP hD [] [0, 1, 2, 3, 4, 5, 6, 7, 8, 9, 10, 11, 12, 13, 14] rfl rfl (by decide) (by decide) hk1 hFc hP1 hD1
          clear hPc hDc hFc hP1 hD1 hk1 hz1
          generalize H1 = H at hP hS ⊢
          have hP : va_P D CL [(lo, .inl (cI, 40, .inl fo)), (lp, .inl (cI, 12, .inl fp)), (m0, .inr (4, [.ref tr, .ref im, .ref fi, .ref se, .ref u0, .ref id, .ref ct, .int bra, .int bru, .int wg])), (l0, .inr (3, [.int ln, .int lds, .int ltb, .ref lo, .ref lp, .ref lt, .ref lb, .ref le, .int lc, .int ld])), (lb, .inl (cI, 40, .inl fz41)), (le, .inl (cI, 40, .inl fz45)), (u0, .inr (8, [.ref pb, .ref en, .int buc, .int buk])), (pb, .inr (1, [.ref pq, .int bpL])), (pq, .inl (cB, 400, .inl bpf)), (en, .inl (cI, 4, .inl bef)), (ct, .inl (cI, 40, .inl cc)), (id, .inr (1, [.ref jq, .int bil])), (jq, .inl (cB, 60, .inl bjf)), (im, .inr (1, [.ref iq, .int L])), (iq, .inl (cB, n, .inl bf))] H := hP
          have hD : va_D A [(lo, .inl (cI, 40, .inl fo)), (lp, .inl (cI, 12, .inl fp)), (m0, .inr (4, [.ref tr, .ref im, .ref fi, .ref se, .ref u0, .ref id, .ref ct, .int bra, .int bru, .int wg])), (l0, .inr (3, [.int ln, .int lds, .int ltb, .ref lo, .ref lp, .ref lt, .ref lb, .ref le, .int lc, .int ld])), (lb, .inl (cI, 40, .inl fz41)), (le, .inl (cI, 40, .inl fz45)), (u0, .inr (8, [.ref pb, .ref en, .int buc, .int buk])), (pb, .inr (1, [.ref pq, .int bpL])), (pq, .inl (cB, 400, .inl bpf)), (en, .inl (cI, 4, .inl bef)), (ct, .inl (cI, 40, .inl cc)), (id, .inr (1, [.ref jq, .int bil])), (jq, .inl (cB, 60, .inl bjf)), (im, .inr (1, [.ref iq, .int L])), (iq, .inl (cB, n, .inl bf))] := hD
          try dsimp only at hp_r46
          have hv_47 := hp_r46
          refine lv_istore_n hx hb d_Maker_walk_160 rfl hl (by decide) rfl (fun ls hl => ?_)
          have hl : lv_has ls 8 [(3, .int r46), (0, .ref m0), (1, .ref l0), (2, .int x), (4, .int kx), (5, .ref (na v1.toNatClampNeg 0)), (6, .int jx)] := hl
          obtain ⟨v48, e_v48⟩ : ∃ z : Int32, z = kx + 1 := ⟨_, rfl⟩
          refine lv_iinc (v := v48) hx hb d_Maker_walk_161 hl (k := 4) rfl e_v48.symm (by decide) rfl (fun ls hl => ?_)
          have t_v48 : v48.toInt = kx.toInt + 1 := by rw [e_v48]; exact i_add rfl (by decide) (by omega) (by omega)
          have hl : lv_has ls 8 [(4, .int v48), (3, .int r46), (0, .ref m0), (1, .ref l0), (2, .int x), (5, .ref (na v1.toNatClampNeg 0)), (6, .int jx)] := hl
          refine lv_goto (tgt := 5) hx hb d_Maker_walk_164 (by decide) ?_
          have hP := hP.sub (ws' := [(m0, .inr (4, [.ref tr, .ref im, .ref fi, .ref se, .ref u0, .ref id, .ref ct, .int bra, .int bru, .int wg])), (l0, .inr (3, [.int ln, .int lds, .int ltb, .ref lo, .ref lp, .ref lt, .ref lb, .ref le, .int lc, .int ld])), (lb, .inl (cI, 40, .inl fz41)), (le, .inl (cI, 40, .inl fz45)), (u0, .inr (8, [.ref pb, .ref en, .int buc, .int buk])), (pb, .inr (1, [.ref pq, .int bpL])), (pq, .inl (cB, 400, .inl bpf)), (en, .inl (cI, 4, .inl bef)), (ct, .inl (cI, 40, .inl cc)), (id, .inr (1, [.ref jq, .int bil])), (jq, .inl (cB, 60, .inl bjf)), (im, .inr (1, [.ref iq, .int L])), (iq, .inl (cB, n, .inl bf)), (lo, .inl (cI, 40, .inl fo)), (lp, .inl (cI, 12, .inl fp))]) [2, 3, 4, 5, 6, 7, 8, 9, 10, 11, 12, 13, 14, 0, 1] rfl
          have hD := hD.sub (ws' := [(m0, .inr (4, [.ref tr, .ref im, .ref fi, .ref se, .ref u0, .ref id, .ref ct, .int bra, .int bru, .int wg])), (l0, .inr (3, [.int ln, .int lds, .int ltb, .ref lo, .ref lp, .ref lt, .ref lb, .ref le, .int lc, .int ld])), (lb, .inl (cI, 40, .inl fz41)), (le, .inl (cI, 40, .inl fz45)), (u0, .inr (8, [.ref pb, .ref en, .int buc, .int buk])), (pb, .inr (1, [.ref pq, .int bpL])), (pq, .inl (cB, 400, .inl bpf)), (en, .inl (cI, 4, .inl bef)), (ct, .inl (cI, 40, .inl cc)), (id, .inr (1, [.ref jq, .int bil])), (jq, .inl (cB, 60, .inl bjf)), (im, .inr (1, [.ref iq, .int L])), (iq, .inl (cB, n, .inl bf)), (lo, .inl (cI, 40, .inl fo)), (lp, .inl (cI, 12, .inl fp))]) [2, 3, 4, 5, 6, 7, 8, 9, 10, 11, 12, 13, 14, 0, 1] (by decide) rfl
          have hl := lv_sub hl [2, 3, 4, 1, 0] rfl
          exact ih5 (_) (by first | omega | (dsimp only; omega)) _ _ _ _ ⟨r46, v48, bra, bru, buc, buk, bpL, bpf, bef, bil, bjf, bf, fz41, fz45, rfl, rfl, (by (try dsimp only); first | assumption | omega | trivial), (by (try dsimp only); first | assumption | omega | trivial), (by (try dsimp only); first | assumption | omega | trivial), (by (try dsimp only); first | assumption | omega | trivial), hP, hD, hS, hl⟩
        · skip
          have g76_45 : ¬ lc.toInt ≤ jx.toInt := fun h8 => h_9 ((i_le rfl rfl).mpr h8)
          refine lv_aload_n hx hb d_Maker_walk_79 rfl (lv_at hl 0 rfl) ?_
          refine va_get (D := D) (ci := 4) (v := .ref tr) (C := "DiscMaker$Maker") (T := F_Maker) (N := 10) hx hb ht9 in_Maker hown hK hP 2 rfl rfl 0 (by decide) (ht9 _ k347) (fun _ h9 => h9) rfl d_Maker_walk_80 ?_
          have hPR := RO_at hZr hS
          refine va_getN (D := D) (ci := 10) (v := .ref ta) (C := "DiscMaker$Tree") (T := F_Tree) (N := 3) hx hb ht9 in_Tree hown hK hPR 0 rfl rfl 0 (by decide) (va_Nw.use rfl (hN _ k237)) (fun _ h9 => h9) rfl d_Maker_walk_83 ?_
          refine lv_aload_n hx hb d_Maker_walk_86 rfl (lv_at hl 1 rfl) ?_
          refine va_getN (D := D) (ci := 3) (v := .ref lo) (C := "DiscMaker$Layout") (T := F_Layout) (N := 10) hx hb ht9 in_Layout hown hK hP 3 rfl rfl 3 (by decide) (va_Nw.use rfl (hN _ k287)) (fun _ h9 => h9) rfl d_Maker_walk_87 ?_
          refine lv_iload hx hb d_Maker_walk_90 (lv_at hl 6 rfl) ?_
          refine va_iald hx hb hK hP 0 1 rfl rfl (vp_in_iff.mpr ⟨by omega, by omega⟩) d_Maker_walk_92 ?_
          refine lv_topi (fun v49 e_v49 => ?_)
          have qv49 := OrdOK_at hoo e_v49 (by have := i_cl (a := jx) (by omega); omega)
          have hPR := RO_at hZr hS
          refine va_aldq hx hb hK hPR 1 4 rfl rfl (vp_in_iff.mpr ⟨by omega, by omega⟩) d_Maker_walk_93 ?_
          have c_hk50 := i_cl (a := v49) (by omega)
          have hk50 : v49.toNatClampNeg < cm := by omega
          have o_hk50 := htok v49.toNatClampNeg hk50
          obtain ⟨i_hj51, hj51⟩ : ∃ j : Nat, (PL (NC cB na ng nn nf) cm)[j]? = some ((na v49.toNatClampNeg 0), .inr (5, [.int (ng v49.toNatClampNeg 0), .ref (na v49.toNatClampNeg 1), .ref (na v49.toNatClampNeg 2), .ref (na v49.toNatClampNeg 3), .int (ng v49.toNatClampNeg 1), .int (ng v49.toNatClampNeg 2), .int (ng v49.toNatClampNeg 3), .int (ng v49.toNatClampNeg 4), .int (ng v49.toNatClampNeg 5), .int (ng v49.toNatClampNeg 6), .int (ng v49.toNatClampNeg 7), .int (ng v49.toNatClampNeg 8)])) := PL_get (i := 0) hk50 rfl
          obtain ⟨i_hj52, hj52⟩ : ∃ j : Nat, (PL (NC cB na ng nn nf) cm)[j]? = some ((na v49.toNatClampNeg 1), .inl (cB, (nn v49.toNatClampNeg 1), .inl (nf v49.toNatClampNeg 1))) := PL_get (i := 1) hk50 rfl
          obtain ⟨i_hj53, hj53⟩ : ∃ j : Nat, (PL (NC cB na ng nn nf) cm)[j]? = some ((na v49.toNatClampNeg 2), .inl (cB, 11, .inl (nf v49.toNatClampNeg 2))) := PL_get (i := 2) hk50 rfl
          obtain ⟨i_hj54, hj54⟩ : ∃ j : Nat, (PL (NC cB na ng nn nf) cm)[j]? = some ((na v49.toNatClampNeg 3), .inl (cB, (nn v49.toNatClampNeg 3), .inl (nf v49.toNatClampNeg 3))) := PL_get (i := 3) hk50 rfl
          refine W.eq (g2 := F0 m 94 ls [.ref (na v49.toNatClampNeg 0)]) (by rw [show rowF na cm v49.toNatClampNeg = some (na v49.toNatClampNeg 0) from rowF_some hk50]; rfl) ?_
          refine lv_astore hx hb d_Maker_walk_94 hl (by decide) rfl (fun ls hl => ?_)
          have hl : lv_has ls 8 [(7, .ref (na v49.toNatClampNeg 0)), (0, .ref m0), (1, .ref l0), (2, .int x), (3, .int nx), (4, .int kx), (5, .ref (na v1.toNatClampNeg 0)), (6, .int jx)] := hl
          refine lv_aload hx hb d_Maker_walk_96 (lv_at hl 0 rfl) ?_
          have hPR := RO_at hZr hS
          refine va_getN (D := D) (ci := 5) (v := .int (ng v49.toNatClampNeg 2)) (C := "DiscMaker$Node") (T := F_Node) (N := 12) hx hb ht9 in_Node hown hK hPR _ (pix (X := [(tr, .inr (10, [.ref ta, .int cn, .int dr])), (ta, .inl (cN, 40, .inr (.inr (.inr (.inr (rowF na cm))))))]) hj51) rfl 5 (by decide) (va_Nw.use rfl (hN _ k197)) (fun _ h9 => h9) rfl d_Maker_walk_98 ?_
          refine lv_aload hx hb d_Maker_walk_101 (lv_at hl 6 rfl) ?_
          have hPR := RO_at hZr hS
          refine va_getN (D := D) (ci := 5) (v := .int (ng v1.toNatClampNeg 1)) (C := "DiscMaker$Node") (T := F_Node) (N := 12) hx hb ht9 in_Node hown hK hPR _ (pix (X := [(tr, .inr (10, [.ref ta, .int cn, .int dr])), (ta, .inl (cN, 40, .inr (.inr (.inr (.inr (rowF na cm))))))]) hj3) rfl 4 (by decide) (va_Nw.use rfl (hN _ k195)) (fun _ h9 => h9) rfl d_Maker_walk_103 ?_
          refine lv_icmp_ne (tgt := 117) hx hb d_Maker_walk_106 (by decide) (fun h_9 => ?_) (fun h_9 => ?_)
          · skip
            have g106_82 : ¬ (ng v49.toNatClampNeg 2).toInt = (ng v1.toNatClampNeg 1).toInt := fun h8 => h_9 ((i_eq rfl rfl).mpr h8)
            obtain ⟨v55, e_v55⟩ : ∃ z : Int32, z = jx + 1 := ⟨_, rfl⟩
            refine lv_iinc (v := v55) hx hb d_Maker_walk_117 hl (k := 7) rfl e_v55.symm (by decide) rfl (fun ls hl => ?_)
            have t_v55 : v55.toInt = jx.toInt + 1 := by rw [e_v55]; exact i_add rfl (by decide) (by omega) (by omega)
            have hl : lv_has ls 8 [(6, .int v55), (7, .ref (na v49.toNatClampNeg 0)), (0, .ref m0), (1, .ref l0), (2, .int x), (3, .int nx), (4, .int kx), (5, .ref (na v1.toNatClampNeg 0))] := hl
            refine lv_goto (tgt := 70) hx hb d_Maker_walk_120 (by decide) ?_
            have hP := hP.sub (ws' := [(lo, .inl (cI, 40, .inl fo)), (lp, .inl (cI, 12, .inl fp)), (m0, .inr (4, [.ref tr, .ref im, .ref fi, .ref se, .ref u0, .ref id, .ref ct, .int bra, .int bru, .int wg])), (l0, .inr (3, [.int ln, .int lds, .int ltb, .ref lo, .ref lp, .ref lt, .ref lb, .ref le, .int lc, .int ld])), (lb, .inl (cI, 40, .inl lfb)), (le, .inl (cI, 40, .inl lfe)), (u0, .inr (8, [.ref pb, .ref en, .int buc, .int buk])), (pb, .inr (1, [.ref pq, .int bpL])), (pq, .inl (cB, 400, .inl bpf)), (en, .inl (cI, 4, .inl bef)), (ct, .inl (cI, 40, .inl cc)), (id, .inr (1, [.ref jq, .int bil])), (jq, .inl (cB, 60, .inl bjf)), (im, .inr (1, [.ref iq, .int L])), (iq, .inl (cB, n, .inl bf))]) [0, 1, 2, 3, 4, 5, 6, 7, 8, 9, 10, 11, 12, 13, 14] rfl
            have hD := hD.sub (ws' := [(lo, .inl (cI, 40, .inl fo)), (lp, .inl (cI, 12, .inl fp)), (m0, .inr (4, [.ref tr, .ref im, .ref fi, .ref se, .ref u0, .ref id, .ref ct, .int bra, .int bru, .int wg])), (l0, .inr (3, [.int ln, .int lds, .int ltb, .ref lo, .ref lp, .ref lt, .ref lb, .ref le, .int lc, .int ld])), (lb, .inl (cI, 40, .inl lfb)), (le, .inl (cI, 40, .inl lfe)), (u0, .inr (8, [.ref pb, .ref en, .int buc, .int buk])), (pb, .inr (1, [.ref pq, .int bpL])), (pq, .inl (cB, 400, .inl bpf)), (en, .inl (cI, 4, .inl bef)), (ct, .inl (cI, 40, .inl cc)), (id, .inr (1, [.ref jq, .int bil])), (jq, .inl (cB, 60, .inl bjf)), (im, .inr (1, [.ref iq, .int L])), (iq, .inl (cB, n, .inl bf))]) [0, 1, 2, 3, 4, 5, 6, 7, 8, 9, 10, 11, 12, 13, 14] (by decide) rfl
            have hl := lv_sub hl [2, 3, 4, 5, 6, 7, 0] rfl
            exact ih70 (_) (by first | omega | (dsimp only; omega)) _ _ _ _ ⟨v55, bra, bru, buc, buk, bpL, bpf, bef, bil, bjf, bf, rfl, rfl, (by (try dsimp only); first | assumption | omega | trivial), (by (try dsimp only); first | assumption | omega | trivial), (by (try dsimp only); first | assumption | omega | trivial), (by (try dsimp only); first | assumption | omega | trivial), hP, hD, hS, hl⟩
          · skip
            have g106_82 : (ng v49.toNatClampNeg 2).toInt = (ng v1.toNatClampNeg 1).toInt := (i_eq rfl rfl).mp h_9
            refine lv_aload_n hx hb d_Maker_walk_109 rfl (lv_at hl 1 rfl) ?_
            refine lv_aload_n hx hb d_Maker_walk_110 rfl (lv_at hl 2 rfl) ?_
            refine lv_aload hx hb d_Maker_walk_111 (lv_at hl 0 rfl) ?_
            refine lv_iconst (v := 2) hx hb d_Maker_walk_113 (by decide) ?_
            have hPc := hP.sub (ws' := [(m0, .inr (4, [.ref tr, .ref im, .ref fi, .ref se, .ref u0, .ref id, .ref ct, .int bra, .int bru, .int wg])), (l0, .inr (3, [.int ln, .int lds, .int ltb, .ref lo, .ref lp, .ref lt, .ref lb, .ref le, .int lc, .int ld])), (lb, .inl (cI, 40, .inl lfb)), (le, .inl (cI, 40, .inl lfe)), (u0, .inr (8, [.ref pb, .ref en, .int buc, .int buk])), (pb, .inr (1, [.ref pq, .int bpL])), (pq, .inl (cB, 400, .inl bpf)), (en, .inl (cI, 4, .inl bef)), (ct, .inl (cI, 40, .inl cc)), (id, .inr (1, [.ref jq, .int bil])), (jq, .inl (cB, 60, .inl bjf)), (im, .inr (1, [.ref iq, .int L])), (iq, .inl (cB, n, .inl bf))]) [2, 3, 4, 5, 6, 7, 8, 9, 10, 11, 12, 13, 14] rfl
            have hDc := hD.sub (ws' := [(m0, .inr (4, [.ref tr, .ref im, .ref fi, .ref se, .ref u0, .ref id, .ref ct, .int bra, .int bru, .int wg])), (l0, .inr (3, [.int ln, .int lds, .int ltb, .ref lo, .ref lp, .ref lt, .ref lb, .ref le, .int lc, .int ld])), (lb, .inl (cI, 40, .inl lfb)), (le, .inl (cI, 40, .inl lfe)), (u0, .inr (8, [.ref pb, .ref en, .int buc, .int buk])), (pb, .inr (1, [.ref pq, .int bpL])), (pq, .inl (cB, 400, .inl bpf)), (en, .inl (cI, 4, .inl bef)), (ct, .inl (cI, 40, .inl cc)), (id, .inr (1, [.ref jq, .int bil])), (jq, .inl (cB, 60, .inl bjf)), (im, .inr (1, [.ref iq, .int L])), (iq, .inl (cB, n, .inl bf))]) [2, 3, 4, 5, 6, 7, 8, 9, 10, 11, 12, 13, 14] (by decide) rfl
            have hFc := va_free (wc := [(m0, .inr (4, [.ref tr, .ref im, .ref fi, .ref se, .ref u0, .ref id, .ref ct, .int bra, .int bru, .int wg])), (l0, .inr (3, [.int ln, .int lds, .int ltb, .ref lo, .ref lp, .ref lt, .ref lb, .ref le, .int lc, .int ld])), (lb, .inl (cI, 40, .inl lfb)), (le, .inl (cI, 40, .inl lfe)), (u0, .inr (8, [.ref pb, .ref en, .int buc, .int buk])), (pb, .inr (1, [.ref pq, .int bpL])), (pq, .inl (cB, 400, .inl bpf)), (en, .inl (cI, 4, .inl bef)), (ct, .inl (cI, 40, .inl cc)), (id, .inr (1, [.ref jq, .int bil])), (jq, .inl (cB, 60, .inl bjf)), (im, .inr (1, [.ref iq, .int L])), (iq, .inl (cB, n, .inl bf))]) hD hS hA [2, 3, 4, 5, 6, 7, 8, 9, 10, 11, 12, 13, 14] rfl
            have hkc : 0 ≤ 0 := by decide
            have hks : 0 ≤ 0 := by decide
            refine va_callv (va_runV (C := "DiscMaker$Maker") (As := [.ref l0, .ref (na v49.toNatClampNeg 0), .int 2]) (rest := []) ⟨hx, hb, hml, hown, hts⟩ (c3_passRecord l D cB cI cJ cZ cN cF H.size m0 tr im fi se u0 id ct bra bru wg l0 lo lp lt lb le ln lds ltb lc ld lfb lfe pb pq en buc buk bpL bpf bef cc jq bil bjf iq n L bf ta cn dr na ng nn nf cm (na v49.toNatClampNeg 0) (na v49.toNatClampNeg 1) (na v49.toNatClampNeg 2) (na v49.toNatClampNeg 3) (ng v49.toNatClampNeg 0) (ng v49.toNatClampNeg 1) (ng v49.toNatClampNeg 2) (ng v49.toNatClampNeg 3) (ng v49.toNatClampNeg 4) (ng v49.toNatClampNeg 5) (ng v49.toNatClampNeg 6) (ng v49.toNatClampNeg 7) (ng v49.toNatClampNeg 8) (nn v49.toNatClampNeg 1) (nf v49.toNatClampNeg 1) (nf v49.toNatClampNeg 2) (nn v49.toNatClampNeg 3) (nf v49.toNatClampNeg 3) td ts tl gd gs gl 2 (by (try dsimp only); first | assumption | omega | trivial) (by (try dsimp only); first | assumption | omega | trivial) (by (try dsimp only); first | assumption | omega | trivial) (by (try dsimp only); first | assumption | omega | trivial) (by (try dsimp only); first | assumption | omega | trivial) (by (try dsimp only); first | assumption | omega | trivial) (by (try dsimp only); first | assumption | omega | trivial) (by (try dsimp only); first | assumption | omega | trivial) (by (try dsimp only); first | assumption | omega | trivial) (by (try dsimp only); first | assumption | omega | trivial)) (cwV 3 hts (lg_goodV k968 k970 k17 k120 kc_Maker_passRecord) rfl rfl rfl (by decide +kernel) ⟨Nat.le_of_ble_eq_true rfl, Nat.le_of_ble_eq_true rfl⟩) ⟨fun a U g mk q => by obtain ⟨q0, q1, qP, qK, qN, qD, qZ0, qZ1⟩ := q; exact ⟨q0, q1, qP, va_K.moved (u := U) (U := U.calling g mk a) (Vm.Alike.refl U.vm) qK, qN.calling, qD, SZ_blind qZ0, RO_blind qZ1⟩, va_recv hK hP (ci := 4) (q0 := 2) rfl rfl, fun U hU hW => ⟨rfl, by rw [hU], by rw [hU]; exact hPc, va_K.moved hW.alike hK, NN.warm hW hN, hDc.weaken (fun _ _ _ _ => trivial), SZ_pass hZs hS hFc hW.alike hU, (RO_app (w1 := [(tr, .inr (10, [.ref ta, .int cn, .int dr]))]) (w2 := ([(ta, .inl (cN, 40, .inr (.inr (.inr (.inr (rowF na cm)))))), ((na v49.toNatClampNeg 0), .inr (5, [.int (ng v49.toNatClampNeg 0), .ref (na v49.toNatClampNeg 1), .ref (na v49.toNatClampNeg 2), .ref (na v49.toNatClampNeg 3), .int (ng v49.toNatClampNeg 1), .int (ng v49.toNatClampNeg 2), .int (ng v49.toNatClampNeg 3), .int (ng v49.toNatClampNeg 4), .int (ng v49.toNatClampNeg 5), .int (ng v49.toNatClampNeg 6), .int (ng v49.toNatClampNeg 7), .int (ng v49.toNatClampNeg 8)])), ((na v49.toNatClampNeg 1), .inl (cB, (nn v49.toNatClampNeg 1), .inl (nf v49.toNatClampNeg 1))), ((na v49.toNatClampNeg 2), .inl (cB, 11, .inl (nf v49.toNatClampNeg 2))), ((na v49.toNatClampNeg 3), .inl (cB, (nn v49.toNatClampNeg 3), .inl (nf v49.toNatClampNeg 3)))] ++ (PL (NC cB na ng nn nf) cm))) (RO_pass (RO_one hZr 0 rfl) hS hFc hU) (RO_app (w1 := [(ta, .inl (cN, 40, .inr (.inr (.inr (.inr (rowF na cm))))))]) (w2 := ([((na v49.toNatClampNeg 0), .inr (5, [.int (ng v49.toNatClampNeg 0), .ref (na v49.toNatClampNeg 1), .ref (na v49.toNatClampNeg 2), .ref (na v49.toNatClampNeg 3), .int (ng v49.toNatClampNeg 1), .int (ng v49.toNatClampNeg 2), .int (ng v49.toNatClampNeg 3), .int (ng v49.toNatClampNeg 4), .int (ng v49.toNatClampNeg 5), .int (ng v49.toNatClampNeg 6), .int (ng v49.toNatClampNeg 7), .int (ng v49.toNatClampNeg 8)])), ((na v49.toNatClampNeg 1), .inl (cB, (nn v49.toNatClampNeg 1), .inl (nf v49.toNatClampNeg 1))), ((na v49.toNatClampNeg 2), .inl (cB, 11, .inl (nf v49.toNatClampNeg 2))), ((na v49.toNatClampNeg 3), .inl (cB, (nn v49.toNatClampNeg 3), .inl (nf v49.toNatClampNeg 3)))] ++ (PL (NC cB na ng nn nf) cm))) (RO_pass (RO_one hZr 1 rfl) hS hFc hU) (RO_app (w1 := [((na v49.toNatClampNeg 0), .inr (5, [.int (ng v49.toNatClampNeg 0), .ref (na v49.toNatClampNeg 1), .ref (na v49.toNatClampNeg 2), .ref (na v49.toNatClampNeg 3), .int (ng v49.toNatClampNeg 1), .int (ng v49.toNatClampNeg 2), .int (ng v49.toNatClampNeg 3), .int (ng v49.toNatClampNeg 4), .int (ng v49.toNatClampNeg 5), .int (ng v49.toNatClampNeg 6), .int (ng v49.toNatClampNeg 7), .int (ng v49.toNatClampNeg 8)]))]) (w2 := ([((na v49.toNatClampNeg 1), .inl (cB, (nn v49.toNatClampNeg 1), .inl (nf v49.toNatClampNeg 1))), ((na v49.toNatClampNeg 2), .inl (cB, 11, .inl (nf v49.toNatClampNeg 2))), ((na v49.toNatClampNeg 3), .inl (cB, (nn v49.toNatClampNeg 3), .inl (nf v49.toNatClampNeg 3)))] ++ (PL (NC cB na ng nn nf) cm))) (RO_pass (RO_one hZr _ (pix (X := [(tr, .inr (10, [.ref ta, .int cn, .int dr])), (ta, .inl (cN, 40, .inr (.inr (.inr (.inr (rowF na cm))))))]) hj51)) hS hFc hU) (RO_app (w1 := [((na v49.toNatClampNeg 1), .inl (cB, (nn v49.toNatClampNeg 1), .inl (nf v49.toNatClampNeg 1)))]) (w2 := ([((na v49.toNatClampNeg 2), .inl (cB, 11, .inl (nf v49.toNatClampNeg 2))), ((na v49.toNatClampNeg 3), .inl (cB, (nn v49.toNatClampNeg 3), .inl (nf v49.toNatClampNeg 3)))] ++ (PL (NC cB na ng nn nf) cm))) (RO_pass (RO_one hZr _ (pix (X := [(tr, .inr (10, [.ref ta, .int cn, .int dr])), (ta, .inl (cN, 40, .inr (.inr (.inr (.inr (rowF na cm))))))]) hj52)) hS hFc hU) (RO_app (w1 := [((na v49.toNatClampNeg 2), .inl (cB, 11, .inl (nf v49.toNatClampNeg 2)))]) (w2 := ([((na v49.toNatClampNeg 3), .inl (cB, (nn v49.toNatClampNeg 3), .inl (nf v49.toNatClampNeg 3)))] ++ (PL (NC cB na ng nn nf) cm))) (RO_pass (RO_one hZr _ (pix (X := [(tr, .inr (10, [.ref ta, .int cn, .int dr])), (ta, .inl (cN, 40, .inr (.inr (.inr (.inr (rowF na cm))))))]) hj53)) hS hFc hU) (RO_app (w1 := [((na v49.toNatClampNeg 3), .inl (cB, (nn v49.toNatClampNeg 3), .inl (nf v49.toNatClampNeg 3)))]) (w2 := (PL (NC cB na ng nn nf) cm)) (RO_pass (RO_one hZr _ (pix (X := [(tr, .inr (10, [.ref ta, .int cn, .int dr])), (ta, .inl (cN, 40, .inr (.inr (.inr (.inr (rowF na cm))))))]) hj54)) hS hFc hU) (RO_pass (RO_tail (X := [(tr, .inr (10, [.ref ta, .int cn, .int dr])), (ta, .inl (cN, 40, .inr (.inr (.inr (.inr (rowF na cm))))))]) hZr) hS hFc hU)))))))⟩⟩ rfl rfl hl.1 rfl (lv_room (Nat.le_of_ble_eq_true rfl)) d_Maker_walk_114 ⟨hkc, hks⟩) hS (fun q _ h => hFc q h) hFc (fun u t H1 locs ht hvm hp_r56 hB hz1 hk1 hS => ?_)
            obtain ⟨ra2_57, ru2_58, uc2_59, uk2_60, L2_61, pg_62, eg_63, il2_64, jg_65, g_66⟩ := u
            obtain ⟨hP1, hD1⟩ := hB
            rw [ht] at hP1
            obtain ⟨hP, hD⟩ := va_join (wr := [(lo, .inl (cI, 40, .inl fo)), (lp, .inl (cI, 12, .inl fp))]) (w1 := [(m0, .inr (4, [.ref tr, .ref im, .ref fi, .ref se, .ref u0, .ref id, .ref ct, .int ra2_57, .int ru2_58, .int wg])), (l0, .inr (3, [.int ln, .int lds, .int ltb, .ref lo, .ref lp, .ref lt, .ref lb, .ref le, .int lc, .int ld])), (lb, .inl (cI, 40, .inl lfb)), (le, .inl (cI, 40, .inl lfe)), (u0, .inr (8, [.ref pb, .ref en, .int uc2_59, .int uk2_60])), (pb, .inr (1, [.ref pq, .int L2_61])), (pq, .inl (cB, 400, .inl pg_62)), (en, .inl (cI, 4, .inl eg_63)), (ct, .inl (cI, 40, .inl cc)), (id, .inr (1, [.ref jq, .int il2_64])), (jq, .inl (cB, 60, .inl jg_65)), (im, .inr (1, [.ref iq, .int L])), (iq, .inl (cB, n, .inl g_66))]) hP hD [2, 3, 4, 5, 6, 7, 8, 9, 10, 11, 12, 13, 14] [0, 1] rfl rfl (by decide) (by decide) hk1 hFc hP1 hD1
            clear hPc hDc hFc hP1 hD1 hk1 hz1
            generalize H1 = H at hP hS ⊢
            have hP : va_P D CL [(lo, .inl (cI, 40, .inl fo)), (lp, .inl (cI, 12, .inl fp)), (m0, .inr (4, [.ref tr, .ref im, .ref fi, .ref se, .ref u0, .ref id, .ref ct, .int ra2_57, .int ru2_58, .int wg])), (l0, .inr (3, [.int ln, .int lds, .int ltb, .ref lo, .ref lp, .ref lt, .ref lb, .ref le, .int lc, .int ld])), (lb, .inl (cI, 40, .inl lfb)), (le, .inl (cI, 40, .inl lfe)), (u0, .inr (8, [.ref pb, .ref en, .int uc2_59, .int uk2_60])), (pb, .inr (1, [.ref pq, .int L2_61])), (pq, .inl (cB, 400, .inl pg_62)), (en, .inl (cI, 4, .inl eg_63)), (ct, .inl (cI, 40, .inl cc)), (id, .inr (1, [.ref jq, .int il2_64])), (jq, .inl (cB, 60, .inl jg_65)), (im, .inr (1, [.ref iq, .int L])), (iq, .inl (cB, n, .inl g_66))] H := hP
            have hD : va_D A [(lo, .inl (cI, 40, .inl fo)), (lp, .inl (cI, 12, .inl fp)), (m0, .inr (4, [.ref tr, .ref im, .ref fi, .ref se, .ref u0, .ref id, .ref ct, .int ra2_57, .int ru2_58, .int wg])), (l0, .inr (3, [.int ln, .int lds, .int ltb, .ref lo, .ref lp, .ref lt, .ref lb, .ref le, .int lc, .int ld])), (lb, .inl (cI, 40, .inl lfb)), (le, .inl (cI, 40, .inl lfe)), (u0, .inr (8, [.ref pb, .ref en, .int uc2_59, .int uk2_60])), (pb, .inr (1, [.ref pq, .int L2_61])), (pq, .inl (cB, 400, .inl pg_62)), (en, .inl (cI, 4, .inl eg_63)), (ct, .inl (cI, 40, .inl cc)), (id, .inr (1, [.ref jq, .int il2_64])), (jq, .inl (cB, 60, .inl jg_65)), (im, .inr (1, [.ref iq, .int L])), (iq, .inl (cB, n, .inl g_66))] := hD
            try dsimp only at hp_r56
            obtain ⟨hra_67, hru_68, hln_69⟩ := hp_r56
            obtain ⟨v70, e_v70⟩ : ∃ z : Int32, z = jx + 1 := ⟨_, rfl⟩
            refine lv_iinc (v := v70) hx hb d_Maker_walk_117 hl (k := 7) rfl e_v70.symm (by decide) rfl (fun ls hl => ?_)
            have t_v70 : v70.toInt = jx.toInt + 1 := by rw [e_v70]; exact i_add rfl (by decide) (by omega) (by omega)
            have hl : lv_has ls 8 [(6, .int v70), (7, .ref (na v49.toNatClampNeg 0)), (0, .ref m0), (1, .ref l0), (2, .int x), (3, .int nx), (4, .int kx), (5, .ref (na v1.toNatClampNeg 0))] := hl
            refine lv_goto (tgt := 70) hx hb d_Maker_walk_120 (by decide) ?_
            have hP := hP.sub (ws' := [(lo, .inl (cI, 40, .inl fo)), (lp, .inl (cI, 12, .inl fp)), (m0, .inr (4, [.ref tr, .ref im, .ref fi, .ref se, .ref u0, .ref id, .ref ct, .int ra2_57, .int ru2_58, .int wg])), (l0, .inr (3, [.int ln, .int lds, .int ltb, .ref lo, .ref lp, .ref lt, .ref lb, .ref le, .int lc, .int ld])), (lb, .inl (cI, 40, .inl lfb)), (le, .inl (cI, 40, .inl lfe)), (u0, .inr (8, [.ref pb, .ref en, .int uc2_59, .int uk2_60])), (pb, .inr (1, [.ref pq, .int L2_61])), (pq, .inl (cB, 400, .inl pg_62)), (en, .inl (cI, 4, .inl eg_63)), (ct, .inl (cI, 40, .inl cc)), (id, .inr (1, [.ref jq, .int il2_64])), (jq, .inl (cB, 60, .inl jg_65)), (im, .inr (1, [.ref iq, .int L])), (iq, .inl (cB, n, .inl g_66))]) [0, 1, 2, 3, 4, 5, 6, 7, 8, 9, 10, 11, 12, 13, 14] rfl
            have hD := hD.sub (ws' := [(lo, .inl (cI, 40, .inl fo)), (lp, .inl (cI, 12, .inl fp)), (m0, .inr (4, [.ref tr, .ref im, .ref fi, .ref se, .ref u0, .ref id, .ref ct, .int ra2_57, .int ru2_58, .int wg])), (l0, .inr (3, [.int ln, .int lds, .int ltb, .ref lo, .ref lp, .ref lt, .ref lb, .ref le, .int lc, .int ld])), (lb, .inl (cI, 40, .inl lfb)), (le, .inl (cI, 40, .inl lfe)), (u0, .inr (8, [.ref pb, .ref en, .int uc2_59, .int uk2_60])), (pb, .inr (1, [.ref pq, .int L2_61])), (pq, .inl (cB, 400, .inl pg_62)), (en, .inl (cI, 4, .inl eg_63)), (ct, .inl (cI, 40, .inl cc)), (id, .inr (1, [.ref jq, .int il2_64])), (jq, .inl (cB, 60, .inl jg_65)), (im, .inr (1, [.ref iq, .int L])), (iq, .inl (cB, n, .inl g_66))]) [0, 1, 2, 3, 4, 5, 6, 7, 8, 9, 10, 11, 12, 13, 14] (by decide) rfl
            have hl := lv_sub hl [2, 3, 4, 5, 6, 7, 0] rfl
            exact ih70 (_) (by first | omega | (dsimp only; omega)) _ _ _ _ ⟨v70, ra2_57, ru2_58, uc2_59, uk2_60, L2_61, pg_62, eg_63, il2_64, jg_65, g_66, rfl, rfl, (by (try dsimp only); first | assumption | omega | trivial), (by (try dsimp only); first | assumption | omega | trivial), (by (try dsimp only); first | assumption | omega | trivial), (by (try dsimp only); first | assumption | omega | trivial), hP, hD, hS, hl⟩
      · skip
        intro kk70
        have hP := hP.sub (ws' := [(lo, .inl (cI, 40, .inl fo)), (lp, .inl (cI, 12, .inl fp)), (m0, .inr (4, [.ref tr, .ref im, .ref fi, .ref se, .ref u0, .ref id, .ref ct, .int ra2_28, .int ru2_29, .int wg])), (l0, .inr (3, [.int ln, .int lds, .int ltb, .ref lo, .ref lp, .ref lt, .ref lb, .ref le, .int lc, .int ld])), (lb, .inl (cI, 40, .inl lfb)), (le, .inl (cI, 40, .inl lfe)), (u0, .inr (8, [.ref pb, .ref en, .int uc2_30, .int uk2_31])), (pb, .inr (1, [.ref pq, .int L2_32])), (pq, .inl (cB, 400, .inl pg_33)), (en, .inl (cI, 4, .inl eg_34)), (ct, .inl (cI, 40, .inl cc)), (id, .inr (1, [.ref jq, .int il2_35])), (jq, .inl (cB, 60, .inl jg_36)), (im, .inr (1, [.ref iq, .int L])), (iq, .inl (cB, n, .inl g_37))]) [0, 1, 2, 3, 4, 5, 6, 7, 8, 9, 10, 11, 12, 13, 14] rfl
        have hD := hD.sub (ws' := [(lo, .inl (cI, 40, .inl fo)), (lp, .inl (cI, 12, .inl fp)), (m0, .inr (4, [.ref tr, .ref im, .ref fi, .ref se, .ref u0, .ref id, .ref ct, .int ra2_28, .int ru2_29, .int wg])), (l0, .inr (3, [.int ln, .int lds, .int ltb, .ref lo, .ref lp, .ref lt, .ref lb, .ref le, .int lc, .int ld])), (lb, .inl (cI, 40, .inl lfb)), (le, .inl (cI, 40, .inl lfe)), (u0, .inr (8, [.ref pb, .ref en, .int uc2_30, .int uk2_31])), (pb, .inr (1, [.ref pq, .int L2_32])), (pq, .inl (cB, 400, .inl pg_33)), (en, .inl (cI, 4, .inl eg_34)), (ct, .inl (cI, 40, .inl cc)), (id, .inr (1, [.ref jq, .int il2_35])), (jq, .inl (cB, 60, .inl jg_36)), (im, .inr (1, [.ref iq, .int L])), (iq, .inl (cB, n, .inl g_37))]) [0, 1, 2, 3, 4, 5, 6, 7, 8, 9, 10, 11, 12, 13, 14] (by decide) rfl
        have hl := lv_sub hl [2, 3, 4, 5, 6, 1, 0] rfl
        exact kk70 _ _ _ _ _ ⟨0, ra2_28, ru2_29, uc2_30, uk2_31, L2_32, pg_33, eg_34, il2_35, jg_36, g_37, rfl, rfl, (by (try dsimp only); first | assumption | omega | trivial), (by (try dsimp only); first | assumption | omega | trivial), (by (try dsimp only); first | assumption | omega | trivial), (by (try dsimp only); first | assumption | omega | trivial), hP, hD, hS, hl⟩
  · skip
    intro kk5
    have hP := hP.sub (ws' := [(m0, .inr (4, [.ref tr, .ref im, .ref fi, .ref se, .ref u0, .ref id, .ref ct, .int ra, .int ru, .int wg])), (l0, .inr (3, [.int ln, .int lds, .int ltb, .ref lo, .ref lp, .ref lt, .ref lb, .ref le, .int lc, .int ld])), (lb, .inl (cI, 40, .inl fb)), (le, .inl (cI, 40, .inl fe)), (u0, .inr (8, [.ref pb, .ref en, .int uc, .int uk])), (pb, .inr (1, [.ref pq, .int pL])), (pq, .inl (cB, 400, .inl pf)), (en, .inl (cI, 4, .inl ef)), (ct, .inl (cI, 40, .inl cc)), (id, .inr (1, [.ref jq, .int il])), (jq, .inl (cB, 60, .inl jf)), (im, .inr (1, [.ref iq, .int L])), (iq, .inl (cB, n, .inl f)), (lo, .inl (cI, 40, .inl fo)), (lp, .inl (cI, 12, .inl fp))]) [0, 1, 2, 3, 4, 5, 6, 7, 8, 9, 10, 11, 12, 13, 14] rfl
    have hD := hD.sub (ws' := [(m0, .inr (4, [.ref tr, .ref im, .ref fi, .ref se, .ref u0, .ref id, .ref ct, .int ra, .int ru, .int wg])), (l0, .inr (3, [.int ln, .int lds, .int ltb, .ref lo, .ref lp, .ref lt, .ref lb, .ref le, .int lc, .int ld])), (lb, .inl (cI, 40, .inl fb)), (le, .inl (cI, 40, .inl fe)), (u0, .inr (8, [.ref pb, .ref en, .int uc, .int uk])), (pb, .inr (1, [.ref pq, .int pL])), (pq, .inl (cB, 400, .inl pf)), (en, .inl (cI, 4, .inl ef)), (ct, .inl (cI, 40, .inl cc)), (id, .inr (1, [.ref jq, .int il])), (jq, .inl (cB, 60, .inl jf)), (im, .inr (1, [.ref iq, .int L])), (iq, .inl (cB, n, .inl f)), (lo, .inl (cI, 40, .inl fo)), (lp, .inl (cI, 12, .inl fp))]) [0, 1, 2, 3, 4, 5, 6, 7, 8, 9, 10, 11, 12, 13, 14] (by decide) rfl
    have hl := lv_sub hl [2, 3, 4, 1, 0] rfl
    exact kk5 _ _ _ _ _ ⟨x, 0, ra, ru, uc, uk, pL, pf, ef, il, jf, f, fb, fe, rfl, rfl, (by (try dsimp only); first | assumption | omega | trivial), (by (try dsimp only); first | assumption | omega | trivial), (by (try dsimp only); first | assumption | omega | trivial), (by (try dsimp only); first | assumption | omega | trivial), hP, hD, hS, hl⟩

theorem d_Maker_firstWithContents_0 : decode b_Maker_firstWithContents 0 = .ok (.aload_n 0, 1) := by decide +kernel
theorem d_Maker_firstWithContents_1 : decode b_Maker_firstWithContents 1 = .ok (.getfield 43, 3) := by decide +kernel
theorem d_Maker_firstWithContents_4 : decode b_Maker_firstWithContents 4 = .ok (.getfield 107, 3) := by decide +kernel
theorem d_Maker_firstWithContents_7 : decode b_Maker_firstWithContents 7 = .ok (.iload_n 1, 1) := by decide +kernel
theorem d_Maker_firstWithContents_8 : decode b_Maker_firstWithContents 8 = .ok (.aaload, 1) := by decide +kernel
theorem d_Maker_firstWithContents_9 : decode b_Maker_firstWithContents 9 = .ok (.astore_n 2, 1) := by decide +kernel
theorem d_Maker_firstWithContents_10 : decode b_Maker_firstWithContents 10 = .ok (.aload_n 2, 1) := by decide +kernel
theorem d_Maker_firstWithContents_11 : decode b_Maker_firstWithContents 11 = .ok (.getfield 150, 3) := by decide +kernel
theorem d_Maker_firstWithContents_14 : decode b_Maker_firstWithContents 14 = .ok (.iconst 1, 1) := by decide +kernel
theorem d_Maker_firstWithContents_15 : decode b_Maker_firstWithContents 15 = .ok (.if_icmp .ne 10, 3) := by decide +kernel
theorem d_Maker_firstWithContents_18 : decode b_Maker_firstWithContents 18 = .ok (.aload_n 2, 1) := by decide +kernel
theorem d_Maker_firstWithContents_19 : decode b_Maker_firstWithContents 19 = .ok (.getfield 147, 3) := by decide +kernel
theorem d_Maker_firstWithContents_22 : decode b_Maker_firstWithContents 22 = .ok (.ifCond .ne 5, 3) := by decide +kernel
theorem d_Maker_firstWithContents_25 : decode b_Maker_firstWithContents 25 = .ok (.iconst (-1), 1) := by decide +kernel
theorem d_Maker_firstWithContents_26 : decode b_Maker_firstWithContents 26 = .ok (.ireturn, 1) := by decide +kernel
theorem d_Maker_firstWithContents_27 : decode b_Maker_firstWithContents 27 = .ok (.iconst 0, 1) := by decide +kernel
theorem d_Maker_firstWithContents_28 : decode b_Maker_firstWithContents 28 = .ok (.istore_n 3, 1) := by decide +kernel
theorem d_Maker_firstWithContents_29 : decode b_Maker_firstWithContents 29 = .ok (.iload_n 3, 1) := by decide +kernel
theorem d_Maker_firstWithContents_30 : decode b_Maker_firstWithContents 30 = .ok (.iload_n 1, 1) := by decide +kernel
theorem d_Maker_firstWithContents_31 : decode b_Maker_firstWithContents 31 = .ok (.if_icmp .ge 55, 3) := by decide +kernel
theorem d_Maker_firstWithContents_34 : decode b_Maker_firstWithContents 34 = .ok (.aload_n 0, 1) := by decide +kernel
theorem d_Maker_firstWithContents_35 : decode b_Maker_firstWithContents 35 = .ok (.getfield 43, 3) := by decide +kernel
theorem d_Maker_firstWithContents_38 : decode b_Maker_firstWithContents 38 = .ok (.getfield 107, 3) := by decide +kernel
theorem d_Maker_firstWithContents_41 : decode b_Maker_firstWithContents 41 = .ok (.iload_n 3, 1) := by decide +kernel
theorem d_Maker_firstWithContents_42 : decode b_Maker_firstWithContents 42 = .ok (.aaload, 1) := by decide +kernel
theorem d_Maker_firstWithContents_43 : decode b_Maker_firstWithContents 43 = .ok (.astore 4, 2) := by decide +kernel
theorem d_Maker_firstWithContents_45 : decode b_Maker_firstWithContents 45 = .ok (.aload 4, 2) := by decide +kernel
theorem d_Maker_firstWithContents_47 : decode b_Maker_firstWithContents 47 = .ok (.getfield 150, 3) := by decide +kernel
theorem d_Maker_firstWithContents_50 : decode b_Maker_firstWithContents 50 = .ok (.iconst 1, 1) := by decide +kernel
theorem d_Maker_firstWithContents_51 : decode b_Maker_firstWithContents 51 = .ok (.if_icmp .ne 29, 3) := by decide +kernel
theorem d_Maker_firstWithContents_54 : decode b_Maker_firstWithContents 54 = .ok (.aload 4, 2) := by decide +kernel
theorem d_Maker_firstWithContents_56 : decode b_Maker_firstWithContents 56 = .ok (.getfield 147, 3) := by decide +kernel
theorem d_Maker_firstWithContents_59 : decode b_Maker_firstWithContents 59 = .ok (.aload_n 2, 1) := by decide +kernel
theorem d_Maker_firstWithContents_60 : decode b_Maker_firstWithContents 60 = .ok (.getfield 147, 3) := by decide +kernel
theorem d_Maker_firstWithContents_63 : decode b_Maker_firstWithContents 63 = .ok (.if_icmp .ne 17, 3) := by decide +kernel
theorem d_Maker_firstWithContents_66 : decode b_Maker_firstWithContents 66 = .ok (.aload 4, 2) := by decide +kernel
theorem d_Maker_firstWithContents_68 : decode b_Maker_firstWithContents 68 = .ok (.getfield 153, 3) := by decide +kernel
theorem d_Maker_firstWithContents_71 : decode b_Maker_firstWithContents 71 = .ok (.aload_n 2, 1) := by decide +kernel
theorem d_Maker_firstWithContents_72 : decode b_Maker_firstWithContents 72 = .ok (.getfield 153, 3) := by decide +kernel
theorem d_Maker_firstWithContents_75 : decode b_Maker_firstWithContents 75 = .ok (.if_icmp .ne 5, 3) := by decide +kernel
theorem d_Maker_firstWithContents_78 : decode b_Maker_firstWithContents 78 = .ok (.iload_n 3, 1) := by decide +kernel
theorem d_Maker_firstWithContents_79 : decode b_Maker_firstWithContents 79 = .ok (.ireturn, 1) := by decide +kernel
theorem d_Maker_firstWithContents_80 : decode b_Maker_firstWithContents 80 = .ok (.iinc 3 1, 3) := by decide +kernel
theorem d_Maker_firstWithContents_83 : decode b_Maker_firstWithContents 83 = .ok (.goto (-54), 3) := by decide +kernel
theorem d_Maker_firstWithContents_86 : decode b_Maker_firstWithContents 86 = .ok (.iload_n 1, 1) := by decide +kernel
theorem d_Maker_firstWithContents_87 : decode b_Maker_firstWithContents 87 = .ok (.ireturn, 1) := by decide +kernel
set_option maxHeartbeats 4000000 in
set_option maxRecDepth 100000 in
theorem c3_firstWithContents (l : Launch) (D : va_G) (cB cI cJ cZ cN cF : ClassId) (sz : Nat) (m0 : Nat) (tr : Nat) (im : Nat) (fi : Nat) (se : Nat) (u0 : Nat) (id : Nat) (ct : Nat) (ra : Int32) (ru : Int32) (wg : Int32) (ta : Nat) (cn : Int32) (dr : Int32) (na : Nat → Nat → Nat) (ng : Nat → Nat → Int32) (nn : Nat → Nat → Nat) (nf : Nat → Nat → Nat → Int32) (cm : Nat) (x : Int32) (hcn : cn.toInt = cm) (hcm : cm ≤ 40) (htok : TOK cm ng nn) (hx : 0 ≤ x.toInt ∧ x.toInt < cn.toInt) : Met l y_Maker_firstWithContents w_Maker_firstWithContents ({ frames := 0, cells := 0, slots := 0, locals := 0 }) (va_Pc [.ref m0, .int x] (fun U => U.heap.size = sz ∧ va_P D CL [(m0, .inr (4, [.ref tr, .ref im, .ref fi, .ref se, .ref u0, .ref id, .ref ct, .int ra, .int ru, .int wg]))] U.heap ∧ va_K D CL (TY cB cI cJ cZ cN cF) U ∧ NN U ∧ va_D (fun _ => True) [(m0, .inr (4, [.ref tr, .ref im, .ref fi, .ref se, .ref u0, .ref id, .ref ct, .int ra, .int ru, .int wg]))] ∧ RO D ([(tr, .inr (10, [.ref ta, .int cn, .int dr])), (ta, .inl (cN, 40, .inr (.inr (.inr (.inr (rowF na cm))))))] ++ (PL (NC cB na ng nn nf) cm)) (va_A [(m0, .inr (4, [.ref tr, .ref im, .ref fi, .ref se, .ref u0, .ref id, .ref ct, .int ra, .int ru, .int wg]))] sz) U U.heap)) (va_Qi (fun (r : Int32) (u : Unit) => ((-1) ≤ r.toInt ∧ r.toInt ≤ x.toInt)) (fun (u : Unit) (t : State) => match u with | () => va_P D CL [(m0, .inr (4, [.ref tr, .ref im, .ref fi, .ref se, .ref u0, .ref id, .ref ct, .int ra, .int ru, .int wg]))] t.heap ∧ va_D (va_A [(m0, .inr (4, [.ref tr, .ref im, .ref fi, .ref se, .ref u0, .ref id, .ref ct, .int ra, .int ru, .int wg]))] sz) [(m0, .inr (4, [.ref tr, .ref im, .ref fi, .ref se, .ref u0, .ref id, .ref ct, .int ra, .int ru, .int wg]))]) (va_A [(m0, .inr (4, [.ref tr, .ref im, .ref fi, .ref se, .ref u0, .ref id, .ref ct, .int ra, .int ru, .int wg]))] sz)) 0 0 (va_A [(m0, .inr (4, [.ref tr, .ref im, .ref fi, .ref se, .ref u0, .ref id, .ref ct, .int ra, .int ru, .int wg]))] sz) := by
  refine Met.ofW (cc := b_Maker_firstWithContents) (maxL := 5) (ret := some .int) (by decide) rfl ?_
  intro p e s m args below meth c s₁ B hml hv
  obtain ⟨rfl, hsz, hP, hK, hN, hD0, hZr⟩ := hv
  have hx := B.exec
  have hb := B.bytes
  have hr := B.returns
  have hts := atoms_spec (ws := w_Maker_firstWithContents) B.pre
  have ht9 := fun (w : Cond) (h : w ∈ lw_g) => hts w (List.mem_cons_of_mem _ h)
  have hown : s.vm.findClass "DiscMaker$Maker" = some m.cls := findClass_of_methodNamed B.named
  have hlocks := B.notSynchronized
  subst hsz
  have hD := hD0.self (sz := s.heap.size)
  generalize hAe : va_A [(m0, .inr (4, [.ref tr, .ref im, .ref fi, .ref se, .ref u0, .ref id, .ref ct, .int ra, .int ru, .int wg]))] s.heap.size = A at hD hZr ⊢
  have hA : ∀ q : Nat, s.heap.size ≤ q → A q := fun q h => by rw [← hAe]; exact Or.inr h
  have hS : va_S A s.heap s.heap [] := va_S.rf
  have hP : va_P D CL [(m0, .inr (4, [.ref tr, .ref im, .ref fi, .ref se, .ref u0, .ref id, .ref ct, .int ra, .int ru, .int wg]))] s.heap := hP
  have hl := lv_entry [.ref m0, .int x] (n := 5) (Nat.le_of_ble_eq_true rfl)
  rw [lg_entry_eq]
  generalize (lg_sl [.ref m0, .int x] ++ List.replicate (5 - (lg_sl [.ref m0, .int x]).length) Slot.unset).toArray = ls at hl ⊢
  have hl : lv_has ls 5 [(0, .ref m0), (1, .int x)] := hl
  have L_m1 : ((-1) : Int32).toInt = (-1) := by decide
  have L_0 : (0 : Int32).toInt = 0 := by decide
  have L_1 : (1 : Int32).toInt = 1 := by decide
  refine lv_aload_n hx hb d_Maker_firstWithContents_0 rfl (lv_at hl 0 rfl) ?_
  refine va_get (D := D) (ci := 4) (v := .ref tr) (C := "DiscMaker$Maker") (T := F_Maker) (N := 10) hx hb ht9 in_Maker hown hK hP 0 rfl rfl 0 (by decide) (ht9 _ k347) (fun _ h9 => h9) rfl d_Maker_firstWithContents_1 ?_
  have hPR := RO_at hZr hS
  refine va_getN (D := D) (ci := 10) (v := .ref ta) (C := "DiscMaker$Tree") (T := F_Tree) (N := 3) hx hb ht9 in_Tree hown hK hPR 0 rfl rfl 0 (by decide) (va_Nw.use rfl (hN _ k237)) (fun _ h9 => h9) rfl d_Maker_firstWithContents_4 ?_
  refine lv_iload_n hx hb d_Maker_firstWithContents_7 rfl (lv_at hl 1 rfl) ?_
  have hPR := RO_at hZr hS
  refine va_aldq hx hb hK hPR 1 4 rfl rfl (vp_in_iff.mpr ⟨by omega, by omega⟩) d_Maker_firstWithContents_8 ?_
  have c_hk1 := i_cl (a := x) (by omega)
  have hk1 : x.toNatClampNeg < cm := by omega
  have o_hk1 := htok x.toNatClampNeg hk1
  obtain ⟨i_hj2, hj2⟩ : ∃ j : Nat, (PL (NC cB na ng nn nf) cm)[j]? = some ((na x.toNatClampNeg 0), .inr (5, [.int (ng x.toNatClampNeg 0), .ref (na x.toNatClampNeg 1), .ref (na x.toNatClampNeg 2), .ref (na x.toNatClampNeg 3), .int (ng x.toNatClampNeg 1), .int (ng x.toNatClampNeg 2), .int (ng x.toNatClampNeg 3), .int (ng x.toNatClampNeg 4), .int (ng x.toNatClampNeg 5), .int (ng x.toNatClampNeg 6), .int (ng x.toNatClampNeg 7), .int (ng x.toNatClampNeg 8)])) := PL_get (i := 0) hk1 rfl
  obtain ⟨i_hj3, hj3⟩ : ∃ j : Nat, (PL (NC cB na ng nn nf) cm)[j]? = some ((na x.toNatClampNeg 1), .inl (cB, (nn x.toNatClampNeg 1), .inl (nf x.toNatClampNeg 1))) := PL_get (i := 1) hk1 rfl
  obtain ⟨i_hj4, hj4⟩ : ∃ j : Nat, (PL (NC cB na ng nn nf) cm)[j]? = some ((na x.toNatClampNeg 2), .inl (cB, 11, .inl (nf x.toNatClampNeg 2))) := PL_get (i := 2) hk1 rfl
  obtain ⟨i_hj5, hj5⟩ : ∃ j : Nat, (PL (NC cB na ng nn nf) cm)[j]? = some ((na x.toNatClampNeg 3), .inl (cB, (nn x.toNatClampNeg 3), .inl (nf x.toNatClampNeg 3))) := PL_get (i := 3) hk1 rfl
  refine W.eq (g2 := F0 m 9 ls [.ref (na x.toNatClampNeg 0)]) (by rw [show rowF na cm x.toNatClampNeg = some (na x.toNatClampNeg 0) from rowF_some hk1]; rfl) ?_
  refine lv_astore_n hx hb d_Maker_firstWithContents_9 rfl hl (by decide) rfl (fun ls hl => ?_)
  have hl : lv_has ls 5 [(2, .ref (na x.toNatClampNeg 0)), (0, .ref m0), (1, .int x)] := hl
  refine lv_aload_n hx hb d_Maker_firstWithContents_10 rfl (lv_at hl 0 rfl) ?_
  have hPR := RO_at hZr hS
  refine va_getN (D := D) (ci := 5) (v := .int (ng x.toNatClampNeg 0)) (C := "DiscMaker$Node") (T := F_Node) (N := 12) hx hb ht9 in_Node hown hK hPR _ (pix (X := [(tr, .inr (10, [.ref ta, .int cn, .int dr])), (ta, .inl (cN, 40, .inr (.inr (.inr (.inr (rowF na cm))))))]) hj2) rfl 0 (by decide) (va_Nw.use rfl (hN _ k181)) (fun _ h9 => h9) rfl d_Maker_firstWithContents_11 ?_
  refine lv_iconst (v := 1) hx hb d_Maker_firstWithContents_14 (by decide) ?_
  refine lv_icmp_ne (tgt := 25) hx hb d_Maker_firstWithContents_15 (by decide) (fun h_9 => ?_) (fun h_9 => ?_)
  · skip
    have g15_10 : ¬ (ng x.toNatClampNeg 0).toInt = 1 := fun h8 => h_9 ((i_eq rfl (by decide)).mpr h8)
    refine lv_iconst (v := (-1)) hx hb d_Maker_firstWithContents_25 (by decide) ?_
    have hP9 := hP.sub (ws' := [(m0, .inr (4, [.ref tr, .ref im, .ref fi, .ref se, .ref u0, .ref id, .ref ct, .int ra, .int ru, .int wg]))]) [0] rfl
    have hD9 := hD.sub (ws' := [(m0, .inr (4, [.ref tr, .ref im, .ref fi, .ref se, .ref u0, .ref id, .ref ct, .int ra, .int ru, .int wg]))]) [0] (by decide) rfl
    exact W.iret (v := (-1)) hx hb hr (fun t ht hW => ⟨⟨(-1), (), rfl, (by (try dsimp only); first | assumption | omega | trivial), by rw [ht]; exact hP9, hD9⟩, hS.F ht⟩) hS.2.2 d_Maker_firstWithContents_26
  · skip
    have g15_10 : (ng x.toNatClampNeg 0).toInt = 1 := (i_eq rfl (by decide)).mp h_9
    refine lv_aload_n hx hb d_Maker_firstWithContents_18 rfl (lv_at hl 0 rfl) ?_
    have hPR := RO_at hZr hS
    refine va_getN (D := D) (ci := 5) (v := .int (ng x.toNatClampNeg 7)) (C := "DiscMaker$Node") (T := F_Node) (N := 12) hx hb ht9 in_Node hown hK hPR _ (pix (X := [(tr, .inr (10, [.ref ta, .int cn, .int dr])), (ta, .inl (cN, 40, .inr (.inr (.inr (.inr (rowF na cm))))))]) hj2) rfl 10 (by decide) (va_Nw.use rfl (hN _ k207)) (fun _ h9 => h9) rfl d_Maker_firstWithContents_19 ?_
    refine lv_if_ne (tgt := 27) hx hb d_Maker_firstWithContents_22 (by decide) (fun h_9 => ?_) (fun h_9 => ?_)
    · skip
      have g22_15 : ¬ (ng x.toNatClampNeg 7).toInt = 0 := fun h8 => h_9 ((i_eq rfl (by decide)).mpr h8)
      refine lv_iconst (v := 0) hx hb d_Maker_firstWithContents_27 (by decide) ?_
      refine lv_istore_n hx hb d_Maker_firstWithContents_28 rfl hl (by decide) rfl (fun ls hl => ?_)
      have hl : lv_has ls 5 [(3, .int 0), (2, .ref (na x.toNatClampNeg 0)), (0, .ref m0), (1, .int x)] := hl
      refine zz_lab (P := fun (lk : Nat) (H : Heap) (locs : List Loc) (ls : Array Slot) (stk : List Value) => ∃ (kx : Int32) , lk = (x.toInt - kx.toInt).toNat ∧ stk = [] ∧ (0 ≤ kx.toInt ∧ kx.toInt ≤ x.toInt) ∧ va_P D CL [(m0, .inr (4, [.ref tr, .ref im, .ref fi, .ref se, .ref u0, .ref id, .ref ct, .int ra, .int ru, .int wg]))] H ∧ va_D A [(m0, .inr (4, [.ref tr, .ref im, .ref fi, .ref se, .ref u0, .ref id, .ref ct, .int ra, .int ru, .int wg]))] ∧ va_S A s.heap H locs ∧ lv_has ls 5 [(0, .ref m0), (1, .int x), (2, .ref (na x.toNatClampNeg 0)), (3, .int kx)]) 29 ?_ ?_
      · skip
        intro lk ih29 H locs ls stk hI
        obtain ⟨kx, hm29, rfl, e1, hP, hD, hS, hl⟩ := hI
        refine lv_iload_n hx hb d_Maker_firstWithContents_29 rfl (lv_at hl 3 rfl) ?_
        refine lv_iload_n hx hb d_Maker_firstWithContents_30 rfl (lv_at hl 1 rfl) ?_
        refine lv_icmp_ge (tgt := 86) hx hb d_Maker_firstWithContents_31 (by decide) (fun h_9 => ?_) (fun h_9 => ?_)
        · skip
          have g31_20 : x.toInt ≤ kx.toInt := (i_le rfl rfl).mp h_9
          refine lv_iload_n hx hb d_Maker_firstWithContents_86 rfl (lv_at hl 1 rfl) ?_
          have hP9 := hP.sub (ws' := [(m0, .inr (4, [.ref tr, .ref im, .ref fi, .ref se, .ref u0, .ref id, .ref ct, .int ra, .int ru, .int wg]))]) [0] rfl
          have hD9 := hD.sub (ws' := [(m0, .inr (4, [.ref tr, .ref im, .ref fi, .ref se, .ref u0, .ref id, .ref ct, .int ra, .int ru, .int wg]))]) [0] (by decide) rfl
          exact W.iret (v := x) hx hb hr (fun t ht hW => ⟨⟨x, (), rfl, (by (try dsimp only); first | assumption | omega | trivial), by rw [ht]; exact hP9, hD9⟩, hS.F ht⟩) hS.2.2 d_Maker_firstWithContents_87
        · skip
          have g31_20 : ¬ x.toInt ≤ kx.toInt := fun h8 => h_9 ((i_le rfl rfl).mpr h8)
          refine lv_aload_n hx hb d_Maker_firstWithContents_34 rfl (lv_at hl 0 rfl) ?_
          refine va_get (D := D) (ci := 4) (v := .ref tr) (C := "DiscMaker$Maker") (T := F_Maker) (N := 10) hx hb ht9 in_Maker hown hK hP 0 rfl rfl 0 (by decide) (ht9 _ k347) (fun _ h9 => h9) rfl d_Maker_firstWithContents_35 ?_
          have hPR := RO_at hZr hS
          refine va_getN (D := D) (ci := 10) (v := .ref ta) (C := "DiscMaker$Tree") (T := F_Tree) (N := 3) hx hb ht9 in_Tree hown hK hPR 0 rfl rfl 0 (by decide) (va_Nw.use rfl (hN _ k237)) (fun _ h9 => h9) rfl d_Maker_firstWithContents_38 ?_
          refine lv_iload_n hx hb d_Maker_firstWithContents_41 rfl (lv_at hl 3 rfl) ?_
          have hPR := RO_at hZr hS
          refine va_aldq hx hb hK hPR 1 4 rfl rfl (vp_in_iff.mpr ⟨by omega, by omega⟩) d_Maker_firstWithContents_42 ?_
          have c_hk6 := i_cl (a := kx) (by omega)
          have hk6 : kx.toNatClampNeg < cm := by omega
          have o_hk6 := htok kx.toNatClampNeg hk6
          obtain ⟨i_hj7, hj7⟩ : ∃ j : Nat, (PL (NC cB na ng nn nf) cm)[j]? = some ((na kx.toNatClampNeg 0), .inr (5, [.int (ng kx.toNatClampNeg 0), .ref (na kx.toNatClampNeg 1), .ref (na kx.toNatClampNeg 2), .ref (na kx.toNatClampNeg 3), .int (ng kx.toNatClampNeg 1), .int (ng kx.toNatClampNeg 2), .int (ng kx.toNatClampNeg 3), .int (ng kx.toNatClampNeg 4), .int (ng kx.toNatClampNeg 5), .int (ng kx.toNatClampNeg 6), .int (ng kx.toNatClampNeg 7), .int (ng kx.toNatClampNeg 8)])) := PL_get (i := 0) hk6 rfl
          obtain ⟨i_hj8, hj8⟩ : ∃ j : Nat, (PL (NC cB na ng nn nf) cm)[j]? = some ((na kx.toNatClampNeg 1), .inl (cB, (nn kx.toNatClampNeg 1), .inl (nf kx.toNatClampNeg 1))) := PL_get (i := 1) hk6 rfl
          obtain ⟨i_hj9, hj9⟩ : ∃ j : Nat, (PL (NC cB na ng nn nf) cm)[j]? = some ((na kx.toNatClampNeg 2), .inl (cB, 11, .inl (nf kx.toNatClampNeg 2))) := PL_get (i := 2) hk6 rfl
          obtain ⟨i_hj10, hj10⟩ : ∃ j : Nat, (PL (NC cB na ng nn nf) cm)[j]? = some ((na kx.toNatClampNeg 3), .inl (cB, (nn kx.toNatClampNeg 3), .inl (nf kx.toNatClampNeg 3))) := PL_get (i := 3) hk6 rfl
          refine W.eq (g2 := F0 m 43 ls [.ref (na kx.toNatClampNeg 0)]) (by rw [show rowF na cm kx.toNatClampNeg = some (na kx.toNatClampNeg 0) from rowF_some hk6]; rfl) ?_
          refine lv_astore hx hb d_Maker_firstWithContents_43 hl (by decide) rfl (fun ls hl => ?_)
          have hl : lv_has ls 5 [(4, .ref (na kx.toNatClampNeg 0)), (0, .ref m0), (1, .int x), (2, .ref (na x.toNatClampNeg 0)), (3, .int kx)] := hl
          refine lv_aload hx hb d_Maker_firstWithContents_45 (lv_at hl 0 rfl) ?_
          have hPR := RO_at hZr hS
          refine va_getN (D := D) (ci := 5) (v := .int (ng kx.toNatClampNeg 0)) (C := "DiscMaker$Node") (T := F_Node) (N := 12) hx hb ht9 in_Node hown hK hPR _ (pix (X := [(tr, .inr (10, [.ref ta, .int cn, .int dr])), (ta, .inl (cN, 40, .inr (.inr (.inr (.inr (rowF na cm))))))]) hj7) rfl 0 (by decide) (va_Nw.use rfl (hN _ k181)) (fun _ h9 => h9) rfl d_Maker_firstWithContents_47 ?_
          refine lv_iconst (v := 1) hx hb d_Maker_firstWithContents_50 (by decide) ?_
          refine lv_icmp_ne (tgt := 80) hx hb d_Maker_firstWithContents_51 (by decide) (fun h_9 => ?_) (fun h_9 => ?_)
          · skip
            have g51_32 : ¬ (ng kx.toNatClampNeg 0).toInt = 1 := fun h8 => h_9 ((i_eq rfl (by decide)).mpr h8)
            obtain ⟨v11, e_v11⟩ : ∃ z : Int32, z = kx + 1 := ⟨_, rfl⟩
            refine lv_iinc (v := v11) hx hb d_Maker_firstWithContents_80 hl (k := 4) rfl e_v11.symm (by decide) rfl (fun ls hl => ?_)
            have t_v11 : v11.toInt = kx.toInt + 1 := by rw [e_v11]; exact i_add rfl (by decide) (by omega) (by omega)
            have hl : lv_has ls 5 [(3, .int v11), (4, .ref (na kx.toNatClampNeg 0)), (0, .ref m0), (1, .int x), (2, .ref (na x.toNatClampNeg 0))] := hl
            refine lv_goto (tgt := 29) hx hb d_Maker_firstWithContents_83 (by decide) ?_
            have hP := hP.sub (ws' := [(m0, .inr (4, [.ref tr, .ref im, .ref fi, .ref se, .ref u0, .ref id, .ref ct, .int ra, .int ru, .int wg]))]) [0] rfl
            have hD := hD.sub (ws' := [(m0, .inr (4, [.ref tr, .ref im, .ref fi, .ref se, .ref u0, .ref id, .ref ct, .int ra, .int ru, .int wg]))]) [0] (by decide) rfl
            have hl := lv_sub hl [2, 3, 4, 0] rfl
            exact ih29 (_) (by first | omega | (dsimp only; omega)) _ _ _ _ ⟨v11, rfl, rfl, (by (try dsimp only); first | assumption | omega | trivial), hP, hD, hS, hl⟩
          · skip
            have g51_32 : (ng kx.toNatClampNeg 0).toInt = 1 := (i_eq rfl (by decide)).mp h_9
            refine lv_aload hx hb d_Maker_firstWithContents_54 (lv_at hl 0 rfl) ?_
            have hPR := RO_at hZr hS
            refine va_getN (D := D) (ci := 5) (v := .int (ng kx.toNatClampNeg 7)) (C := "DiscMaker$Node") (T := F_Node) (N := 12) hx hb ht9 in_Node hown hK hPR _ (pix (X := [(tr, .inr (10, [.ref ta, .int cn, .int dr])), (ta, .inl (cN, 40, .inr (.inr (.inr (.inr (rowF na cm))))))]) hj7) rfl 10 (by decide) (va_Nw.use rfl (hN _ k207)) (fun _ h9 => h9) rfl d_Maker_firstWithContents_56 ?_
            refine lv_aload_n hx hb d_Maker_firstWithContents_59 rfl (lv_at hl 3 rfl) ?_
            have hPR := RO_at hZr hS
            refine va_getN (D := D) (ci := 5) (v := .int (ng x.toNatClampNeg 7)) (C := "DiscMaker$Node") (T := F_Node) (N := 12) hx hb ht9 in_Node hown hK hPR _ (pix (X := [(tr, .inr (10, [.ref ta, .int cn, .int dr])), (ta, .inl (cN, 40, .inr (.inr (.inr (.inr (rowF na cm))))))]) hj2) rfl 10 (by decide) (va_Nw.use rfl (hN _ k207)) (fun _ h9 => h9) rfl d_Maker_firstWithContents_60 ?_
            refine lv_icmp_ne (tgt := 80) hx hb d_Maker_firstWithContents_63 (by decide) (fun h_9 => ?_) (fun h_9 => ?_)
            · skip
              have g63_40 : ¬ (ng kx.toNatClampNeg 7).toInt = (ng x.toNatClampNeg 7).toInt := fun h8 => h_9 ((i_eq rfl rfl).mpr h8)
              obtain ⟨v12, e_v12⟩ : ∃ z : Int32, z = kx + 1 := ⟨_, rfl⟩
              refine lv_iinc (v := v12) hx hb d_Maker_firstWithContents_80 hl (k := 4) rfl e_v12.symm (by decide) rfl (fun ls hl => ?_)
              have t_v12 : v12.toInt = kx.toInt + 1 := by rw [e_v12]; exact i_add rfl (by decide) (by omega) (by omega)
              have hl : lv_has ls 5 [(3, .int v12), (4, .ref (na kx.toNatClampNeg 0)), (0, .ref m0), (1, .int x), (2, .ref (na x.toNatClampNeg 0))] := hl
              refine lv_goto (tgt := 29) hx hb d_Maker_firstWithContents_83 (by decide) ?_
              have hP := hP.sub (ws' := [(m0, .inr (4, [.ref tr, .ref im, .ref fi, .ref se, .ref u0, .ref id, .ref ct, .int ra, .int ru, .int wg]))]) [0] rfl
              have hD := hD.sub (ws' := [(m0, .inr (4, [.ref tr, .ref im, .ref fi, .ref se, .ref u0, .ref id, .ref ct, .int ra, .int ru, .int wg]))]) [0] (by decide) rfl
              have hl := lv_sub hl [2, 3, 4, 0] rfl
              exact ih29 (_) (by first | omega | (dsimp only; omega)) _ _ _ _ ⟨v12, rfl, rfl, (by (try dsimp only); first | assumption | omega | trivial), hP, hD, hS, hl⟩
            · skip
              have g63_40 : (ng kx.toNatClampNeg 7).toInt = (ng x.toNatClampNeg 7).toInt := (i_eq rfl rfl).mp h_9
              refine lv_aload hx hb d_Maker_firstWithContents_66 (lv_at hl 0 rfl) ?_
              have hPR := RO_at hZr hS
              refine va_getN (D := D) (ci := 5) (v := .int (ng kx.toNatClampNeg 8)) (C := "DiscMaker$Node") (T := F_Node) (N := 12) hx hb ht9 in_Node hown hK hPR _ (pix (X := [(tr, .inr (10, [.ref ta, .int cn, .int dr])), (ta, .inl (cN, 40, .inr (.inr (.inr (.inr (rowF na cm))))))]) hj7) rfl 11 (by decide) (va_Nw.use rfl (hN _ k209)) (fun _ h9 => h9) rfl d_Maker_firstWithContents_68 ?_
              refine lv_aload_n hx hb d_Maker_firstWithContents_71 rfl (lv_at hl 3 rfl) ?_
              have hPR := RO_at hZr hS
              refine va_getN (D := D) (ci := 5) (v := .int (ng x.toNatClampNeg 8)) (C := "DiscMaker$Node") (T := F_Node) (N := 12) hx hb ht9 in_Node hown hK hPR _ (pix (X := [(tr, .inr (10, [.ref ta, .int cn, .int dr])), (ta, .inl (cN, 40, .inr (.inr (.inr (.inr (rowF na cm))))))]) hj2) rfl 11 (by decide) (va_Nw.use rfl (hN _ k209)) (fun _ h9 => h9) rfl d_Maker_firstWithContents_72 ?_
              refine lv_icmp_ne (tgt := 80) hx hb d_Maker_firstWithContents_75 (by decide) (fun h_9 => ?_) (fun h_9 => ?_)
              · skip
                have g75_48 : ¬ (ng kx.toNatClampNeg 8).toInt = (ng x.toNatClampNeg 8).toInt := fun h8 => h_9 ((i_eq rfl rfl).mpr h8)
                obtain ⟨v13, e_v13⟩ : ∃ z : Int32, z = kx + 1 := ⟨_, rfl⟩
                refine lv_iinc (v := v13) hx hb d_Maker_firstWithContents_80 hl (k := 4) rfl e_v13.symm (by decide) rfl (fun ls hl => ?_)
                have t_v13 : v13.toInt = kx.toInt + 1 := by rw [e_v13]; exact i_add rfl (by decide) (by omega) (by omega)
                have hl : lv_has ls 5 [(3, .int v13), (4, .ref (na kx.toNatClampNeg 0)), (0, .ref m0), (1, .int x), (2, .ref (na x.toNatClampNeg 0))] := hl
                refine lv_goto (tgt := 29) hx hb d_Maker_firstWithContents_83 (by decide) ?_
                have hP := hP.sub (ws' := [(m0, .inr (4, [.ref tr, .ref im, .ref fi, .ref se, .ref u0, .ref id, .ref ct, .int ra, .int ru, .int wg]))]) [0] rfl
                have hD := hD.sub (ws' := [(m0, .inr (4, [.ref tr, .ref im, .ref fi, .ref se, .ref u0, .ref id, .ref ct, .int ra, .int ru, .int wg]))]) [0] (by decide) rfl
                have hl := lv_sub hl [2, 3, 4, 0] rfl
                exact ih29 (_) (by first | omega | (dsimp only; omega)) _ _ _ _ ⟨v13, rfl, rfl, (by (try dsimp only); first | assumption | omega | trivial), hP, hD, hS, hl⟩
              · skip
                have g75_48 : (ng kx.toNatClampNeg 8).toInt = (ng x.toNatClampNeg 8).toInt := (i_eq rfl rfl).mp h_9
                refine lv_iload_n hx hb d_Maker_firstWithContents_78 rfl (lv_at hl 4 rfl) ?_
                have hP9 := hP.sub (ws' := [(m0, .inr (4, [.ref tr, .ref im, .ref fi, .ref se, .ref u0, .ref id, .ref ct, .int ra, .int ru, .int wg]))]) [0] rfl
                have hD9 := hD.sub (ws' := [(m0, .inr (4, [.ref tr, .ref im, .ref fi, .ref se, .ref u0, .ref id, .ref ct, .int ra, .int ru, .int wg]))]) [0] (by decide) rfl
                exact W.iret (v := kx) hx hb hr (fun t ht hW => ⟨⟨kx, (), rfl, (by (try dsimp only); first | assumption | omega | trivial), by rw [ht]; exact hP9, hD9⟩, hS.F ht⟩) hS.2.2 d_Maker_firstWithContents_79
      · skip
        intro kk29
        have hP := hP.sub (ws' := [(m0, .inr (4, [.ref tr, .ref im, .ref fi, .ref se, .ref u0, .ref id, .ref ct, .int ra, .int ru, .int wg]))]) [0] rfl
        have hD := hD.sub (ws' := [(m0, .inr (4, [.ref tr, .ref im, .ref fi, .ref se, .ref u0, .ref id, .ref ct, .int ra, .int ru, .int wg]))]) [0] (by decide) rfl
        have hl := lv_sub hl [2, 3, 1, 0] rfl
        exact kk29 _ _ _ _ _ ⟨0, rfl, rfl, (by (try dsimp only); first | assumption | omega | trivial), hP, hD, hS, hl⟩
    · skip
      have g22_15 : (ng x.toNatClampNeg 7).toInt = 0 := (i_eq rfl (by decide)).mp h_9
      refine lv_iconst (v := (-1)) hx hb d_Maker_firstWithContents_25 (by decide) ?_
      have hP9 := hP.sub (ws' := [(m0, .inr (4, [.ref tr, .ref im, .ref fi, .ref se, .ref u0, .ref id, .ref ct, .int ra, .int ru, .int wg]))]) [0] rfl
      have hD9 := hD.sub (ws' := [(m0, .inr (4, [.ref tr, .ref im, .ref fi, .ref se, .ref u0, .ref id, .ref ct, .int ra, .int ru, .int wg]))]) [0] (by decide) rfl
      exact W.iret (v := (-1)) hx hb hr (fun t ht hW => ⟨⟨(-1), (), rfl, (by (try dsimp only); first | assumption | omega | trivial), by rw [ht]; exact hP9, hD9⟩, hS.F ht⟩) hS.2.2 d_Maker_firstWithContents_26

theorem d_Maker_placeContents_0 : decode b_Maker_placeContents 0 = .ok (.iload_n 1, 1) := by decide +kernel
theorem d_Maker_placeContents_1 : decode b_Maker_placeContents 1 = .ok (.istore_n 2, 1) := by decide +kernel
theorem d_Maker_placeContents_2 : decode b_Maker_placeContents 2 = .ok (.iconst 0, 1) := by decide +kernel
theorem d_Maker_placeContents_3 : decode b_Maker_placeContents 3 = .ok (.istore_n 3, 1) := by decide +kernel
theorem d_Maker_placeContents_4 : decode b_Maker_placeContents 4 = .ok (.iload_n 3, 1) := by decide +kernel
theorem d_Maker_placeContents_5 : decode b_Maker_placeContents 5 = .ok (.aload_n 0, 1) := by decide +kernel
theorem d_Maker_placeContents_6 : decode b_Maker_placeContents 6 = .ok (.getfield 43, 3) := by decide +kernel
theorem d_Maker_placeContents_9 : decode b_Maker_placeContents 9 = .ok (.getfield 143, 3) := by decide +kernel
theorem d_Maker_placeContents_12 : decode b_Maker_placeContents 12 = .ok (.if_icmp .ge 77, 3) := by decide +kernel
theorem d_Maker_placeContents_15 : decode b_Maker_placeContents 15 = .ok (.aload_n 0, 1) := by decide +kernel
theorem d_Maker_placeContents_16 : decode b_Maker_placeContents 16 = .ok (.iload_n 3, 1) := by decide +kernel
theorem d_Maker_placeContents_17 : decode b_Maker_placeContents 17 = .ok (.invokevirtual 144, 3) := by decide +kernel
theorem d_Maker_placeContents_20 : decode b_Maker_placeContents 20 = .ok (.istore 4, 2) := by decide +kernel
theorem d_Maker_placeContents_22 : decode b_Maker_placeContents 22 = .ok (.aload_n 0, 1) := by decide +kernel
theorem d_Maker_placeContents_23 : decode b_Maker_placeContents 23 = .ok (.getfield 39, 3) := by decide +kernel
theorem d_Maker_placeContents_26 : decode b_Maker_placeContents 26 = .ok (.iload_n 3, 1) := by decide +kernel
theorem d_Maker_placeContents_27 : decode b_Maker_placeContents 27 = .ok (.iload 4, 2) := by decide +kernel
theorem d_Maker_placeContents_29 : decode b_Maker_placeContents 29 = .ok (.iload_n 3, 1) := by decide +kernel
theorem d_Maker_placeContents_30 : decode b_Maker_placeContents 30 = .ok (.if_icmp .ne 7, 3) := by decide +kernel
theorem d_Maker_placeContents_33 : decode b_Maker_placeContents 33 = .ok (.iload_n 2, 1) := by decide +kernel
theorem d_Maker_placeContents_34 : decode b_Maker_placeContents 34 = .ok (.goto 20, 3) := by decide +kernel
theorem d_Maker_placeContents_37 : decode b_Maker_placeContents 37 = .ok (.iload 4, 2) := by decide +kernel
theorem d_Maker_placeContents_39 : decode b_Maker_placeContents 39 = .ok (.iconst (-1), 1) := by decide +kernel
theorem d_Maker_placeContents_40 : decode b_Maker_placeContents 40 = .ok (.if_icmp .ne 7, 3) := by decide +kernel
theorem d_Maker_placeContents_43 : decode b_Maker_placeContents 43 = .ok (.iconst 0, 1) := by decide +kernel
theorem d_Maker_placeContents_44 : decode b_Maker_placeContents 44 = .ok (.goto 10, 3) := by decide +kernel
theorem d_Maker_placeContents_47 : decode b_Maker_placeContents 47 = .ok (.aload_n 0, 1) := by decide +kernel
theorem d_Maker_placeContents_48 : decode b_Maker_placeContents 48 = .ok (.getfield 39, 3) := by decide +kernel
theorem d_Maker_placeContents_51 : decode b_Maker_placeContents 51 = .ok (.iload 4, 2) := by decide +kernel
theorem d_Maker_placeContents_53 : decode b_Maker_placeContents 53 = .ok (.iaload, 1) := by decide +kernel
theorem d_Maker_placeContents_54 : decode b_Maker_placeContents 54 = .ok (.iastore, 1) := by decide +kernel
theorem d_Maker_placeContents_55 : decode b_Maker_placeContents 55 = .ok (.iload_n 2, 1) := by decide +kernel
theorem d_Maker_placeContents_56 : decode b_Maker_placeContents 56 = .ok (.iload 4, 2) := by decide +kernel
theorem d_Maker_placeContents_58 : decode b_Maker_placeContents 58 = .ok (.iload_n 3, 1) := by decide +kernel
theorem d_Maker_placeContents_59 : decode b_Maker_placeContents 59 = .ok (.if_icmp .ne 21, 3) := by decide +kernel
theorem d_Maker_placeContents_62 : decode b_Maker_placeContents 62 = .ok (.aload_n 0, 1) := by decide +kernel
theorem d_Maker_placeContents_63 : decode b_Maker_placeContents 63 = .ok (.getfield 43, 3) := by decide +kernel
theorem d_Maker_placeContents_66 : decode b_Maker_placeContents 66 = .ok (.getfield 107, 3) := by decide +kernel
theorem d_Maker_placeContents_69 : decode b_Maker_placeContents 69 = .ok (.iload_n 3, 1) := by decide +kernel
theorem d_Maker_placeContents_70 : decode b_Maker_placeContents 70 = .ok (.aaload, 1) := by decide +kernel
theorem d_Maker_placeContents_71 : decode b_Maker_placeContents 71 = .ok (.getfield 147, 3) := by decide +kernel
theorem d_Maker_placeContents_74 : decode b_Maker_placeContents 74 = .ok (.invokestatic 79, 3) := by decide +kernel
theorem d_Maker_placeContents_77 : decode b_Maker_placeContents 77 = .ok (.goto 4, 3) := by decide +kernel
theorem d_Maker_placeContents_80 : decode b_Maker_placeContents 80 = .ok (.iconst 0, 1) := by decide +kernel
theorem d_Maker_placeContents_81 : decode b_Maker_placeContents 81 = .ok (.iadd, 1) := by decide +kernel
theorem d_Maker_placeContents_82 : decode b_Maker_placeContents 82 = .ok (.istore_n 2, 1) := by decide +kernel
theorem d_Maker_placeContents_83 : decode b_Maker_placeContents 83 = .ok (.iinc 3 1, 3) := by decide +kernel
theorem d_Maker_placeContents_86 : decode b_Maker_placeContents 86 = .ok (.goto (-82), 3) := by decide +kernel
theorem d_Maker_placeContents_89 : decode b_Maker_placeContents 89 = .ok (.iload_n 2, 1) := by decide +kernel
theorem d_Maker_placeContents_90 : decode b_Maker_placeContents 90 = .ok (.ireturn, 1) := by decide +kernel
set_option maxHeartbeats 4000000 in
set_option maxRecDepth 100000 in
theorem c3_placeContents (l : Launch) (D : va_G) (cB cI cJ cZ cN cF : ClassId) (sz : Nat) (m0 : Nat) (tr : Nat) (im : Nat) (fi : Nat) (se : Nat) (u0 : Nat) (id : Nat) (ct : Nat) (ra : Int32) (ru : Int32) (wg : Int32) (cc : Nat → Int32) (ta : Nat) (cn : Int32) (dr : Int32) (na : Nat → Nat → Nat) (ng : Nat → Nat → Int32) (nn : Nat → Nat → Nat) (nf : Nat → Nat → Nat → Int32) (cm : Nat) (x : Int32) (hcn : cn.toInt = cm) (hcm : cm ≤ 40) (htok : TOK cm ng nn) (hx : 0 ≤ x.toInt ∧ x.toInt ≤ 100000) : Met l y_Maker_placeContents w_Maker_placeContents ({ frames := 1, cells := 0, slots := 0, locals := 30 }) (va_Pc [.ref m0, .int x] (fun U => U.heap.size = sz ∧ va_P D CL [(m0, .inr (4, [.ref tr, .ref im, .ref fi, .ref se, .ref u0, .ref id, .ref ct, .int ra, .int ru, .int wg])), (ct, .inl (cI, 40, .inl cc))] U.heap ∧ va_K D CL (TY cB cI cJ cZ cN cF) U ∧ NN U ∧ va_D (fun _ => True) [(m0, .inr (4, [.ref tr, .ref im, .ref fi, .ref se, .ref u0, .ref id, .ref ct, .int ra, .int ru, .int wg])), (ct, .inl (cI, 40, .inl cc))] ∧ RO D ([(tr, .inr (10, [.ref ta, .int cn, .int dr])), (ta, .inl (cN, 40, .inr (.inr (.inr (.inr (rowF na cm))))))] ++ (PL (NC cB na ng nn nf) cm)) (va_A [(m0, .inr (4, [.ref tr, .ref im, .ref fi, .ref se, .ref u0, .ref id, .ref ct, .int ra, .int ru, .int wg])), (ct, .inl (cI, 40, .inl cc))] sz) U U.heap)) (va_Qi (fun (r : Int32) (u : (Nat → Int32)) => match u with | g => (x.toInt ≤ r.toInt ∧ r.toInt ≤ x.toInt + 120)) (fun (u : (Nat → Int32)) (t : State) => match u with | g => va_P D CL [(m0, .inr (4, [.ref tr, .ref im, .ref fi, .ref se, .ref u0, .ref id, .ref ct, .int ra, .int ru, .int wg])), (ct, .inl (cI, 40, .inl g))] t.heap ∧ va_D (va_A [(m0, .inr (4, [.ref tr, .ref im, .ref fi, .ref se, .ref u0, .ref id, .ref ct, .int ra, .int ru, .int wg])), (ct, .inl (cI, 40, .inl cc))] sz) [(m0, .inr (4, [.ref tr, .ref im, .ref fi, .ref se, .ref u0, .ref id, .ref ct, .int ra, .int ru, .int wg])), (ct, .inl (cI, 40, .inl g))]) (va_A [(m0, .inr (4, [.ref tr, .ref im, .ref fi, .ref se, .ref u0, .ref id, .ref ct, .int ra, .int ru, .int wg])), (ct, .inl (cI, 40, .inl cc))] sz)) 0 0 (va_A [(m0, .inr (4, [.ref tr, .ref im, .ref fi, .ref se, .ref u0, .ref id, .ref ct, .int ra, .int ru, .int wg])), (ct, .inl (cI, 40, .inl cc))] sz) := by
  refine Met.ofW (cc := b_Maker_placeContents) (maxL := 5) (ret := some .int) (by decide) rfl ?_
  intro p e s m args below meth c s₁ B hml hv
  obtain ⟨rfl, hsz, hP, hK, hN, hD0, hZr⟩ := hv
  have hx := B.exec
  have hb := B.bytes
  have hr := B.returns
  have hts := atoms_spec (ws := w_Maker_placeContents) B.pre
  have ht9 := fun (w : Cond) (h : w ∈ lw_g) => hts w (List.mem_cons_of_mem _ h)
  have hown : s.vm.findClass "DiscMaker$Maker" = some m.cls := findClass_of_methodNamed B.named
  have hlocks := B.notSynchronized
  subst hsz
  have hD := hD0.self (sz := s.heap.size)
  generalize hAe : va_A [(m0, .inr (4, [.ref tr, .ref im, .ref fi, .ref se, .ref u0, .ref id, .ref ct, .int ra, .int ru, .int wg])), (ct, .inl (cI, 40, .inl cc))] s.heap.size = A at hD hZr ⊢
  have hA : ∀ q : Nat, s.heap.size ≤ q → A q := fun q h => by rw [← hAe]; exact Or.inr h
  have hS : va_S A s.heap s.heap [] := va_S.rf
  have hP : va_P D CL [(m0, .inr (4, [.ref tr, .ref im, .ref fi, .ref se, .ref u0, .ref id, .ref ct, .int ra, .int ru, .int wg])), (ct, .inl (cI, 40, .inl cc))] s.heap := hP
  have hl := lv_entry [.ref m0, .int x] (n := 5) (Nat.le_of_ble_eq_true rfl)
  rw [lg_entry_eq]
  generalize (lg_sl [.ref m0, .int x] ++ List.replicate (5 - (lg_sl [.ref m0, .int x]).length) Slot.unset).toArray = ls at hl ⊢
  have hl : lv_has ls 5 [(0, .ref m0), (1, .int x)] := hl
  have L_m1 : ((-1) : Int32).toInt = (-1) := by decide
  have L_0 : (0 : Int32).toInt = 0 := by decide
  have L_1 : (1 : Int32).toInt = 1 := by decide
  refine lv_iload_n hx hb d_Maker_placeContents_0 rfl (lv_at hl 1 rfl) ?_
  refine lv_istore_n hx hb d_Maker_placeContents_1 rfl hl (by decide) rfl (fun ls hl => ?_)
  have hl : lv_has ls 5 [(2, .int x), (0, .ref m0), (1, .int x)] := hl
  refine lv_iconst (v := 0) hx hb d_Maker_placeContents_2 (by decide) ?_
  refine lv_istore_n hx hb d_Maker_placeContents_3 rfl hl (by decide) rfl (fun ls hl => ?_)
  have hl : lv_has ls 5 [(3, .int 0), (2, .int x), (0, .ref m0), (1, .int x)] := hl
  refine zz_lab (P := fun (lk : Nat) (H : Heap) (locs : List Loc) (ls : Array Slot) (stk : List Value) => ∃ (nx : Int32) (kx : Int32) (lcc : Nat → Int32) , lk = (cn.toInt - kx.toInt).toNat ∧ stk = [] ∧ (0 ≤ kx.toInt ∧ kx.toInt ≤ cn.toInt) ∧ (x.toInt ≤ nx.toInt ∧ nx.toInt ≤ x.toInt + 3 * kx.toInt) ∧ va_P D CL [(m0, .inr (4, [.ref tr, .ref im, .ref fi, .ref se, .ref u0, .ref id, .ref ct, .int ra, .int ru, .int wg])), (ct, .inl (cI, 40, .inl lcc))] H ∧ va_D A [(m0, .inr (4, [.ref tr, .ref im, .ref fi, .ref se, .ref u0, .ref id, .ref ct, .int ra, .int ru, .int wg])), (ct, .inl (cI, 40, .inl lcc))] ∧ va_S A s.heap H locs ∧ lv_has ls 5 [(0, .ref m0), (1, .int x), (2, .int nx), (3, .int kx)]) 4 ?_ ?_
  · skip
    intro lk ih4 H locs ls stk hI
    obtain ⟨nx, kx, lcc, hm4, rfl, e1, e2, hP, hD, hS, hl⟩ := hI
    refine lv_iload_n hx hb d_Maker_placeContents_4 rfl (lv_at hl 3 rfl) ?_
    refine lv_aload_n hx hb d_Maker_placeContents_5 rfl (lv_at hl 0 rfl) ?_
    refine va_get (D := D) (ci := 4) (v := .ref tr) (C := "DiscMaker$Maker") (T := F_Maker) (N := 10) hx hb ht9 in_Maker hown hK hP 0 rfl rfl 0 (by decide) (ht9 _ k347) (fun _ h9 => h9) rfl d_Maker_placeContents_6 ?_
    have hPR := RO_at hZr hS
    refine va_getN (D := D) (ci := 10) (v := .int cn) (C := "DiscMaker$Tree") (T := F_Tree) (N := 3) hx hb ht9 in_Tree hown hK hPR 0 rfl rfl 1 (by decide) (va_Nw.use rfl (hN _ k241)) (fun _ h9 => h9) rfl d_Maker_placeContents_9 ?_
    refine lv_icmp_ge (tgt := 89) hx hb d_Maker_placeContents_12 (by decide) (fun h_9 => ?_) (fun h_9 => ?_)
    · skip
      have g12_9 : cn.toInt ≤ kx.toInt := (i_le rfl rfl).mp h_9
      refine lv_iload_n hx hb d_Maker_placeContents_89 rfl (lv_at hl 2 rfl) ?_
      have hP9 := hP.sub (ws' := [(m0, .inr (4, [.ref tr, .ref im, .ref fi, .ref se, .ref u0, .ref id, .ref ct, .int ra, .int ru, .int wg])), (ct, .inl (cI, 40, .inl lcc))]) [0, 1] rfl
      have hD9 := hD.sub (ws' := [(m0, .inr (4, [.ref tr, .ref im, .ref fi, .ref se, .ref u0, .ref id, .ref ct, .int ra, .int ru, .int wg])), (ct, .inl (cI, 40, .inl lcc))]) [0, 1] (by decide) rfl
      exact W.iret (v := nx) hx hb hr (fun t ht hW => ⟨⟨nx, lcc, rfl, (by (try dsimp only); first | assumption | omega | trivial), by rw [ht]; exact hP9, hD9⟩, hS.F ht⟩) hS.2.2 d_Maker_placeContents_90
    · skip
      have g12_9 : ¬ cn.toInt ≤ kx.toInt := fun h8 => h_9 ((i_le rfl rfl).mpr h8)
      refine lv_aload_n hx hb d_Maker_placeContents_15 rfl (lv_at hl 0 rfl) ?_
      refine lv_iload_n hx hb d_Maker_placeContents_16 rfl (lv_at hl 3 rfl) ?_
      have hPc := hP.sub (ws' := [(m0, .inr (4, [.ref tr, .ref im, .ref fi, .ref se, .ref u0, .ref id, .ref ct, .int ra, .int ru, .int wg]))]) [0] rfl
      have hDc := hD.sub (ws' := [(m0, .inr (4, [.ref tr, .ref im, .ref fi, .ref se, .ref u0, .ref id, .ref ct, .int ra, .int ru, .int wg]))]) [0] (by decide) rfl
      have hFc := va_free (wc := [(m0, .inr (4, [.ref tr, .ref im, .ref fi, .ref se, .ref u0, .ref id, .ref ct, .int ra, .int ru, .int wg]))]) hD hS hA [0] rfl
      have hkc : 0 ≤ 0 := by decide
      have hks : 0 ≤ 0 := by decide
      refine va_calli (va_runV (C := "DiscMaker$Maker") (As := [.int kx]) (rest := []) ⟨hx, hb, hml, hown, hts⟩ (c3_firstWithContents l D cB cI cJ cZ cN cF H.size m0 tr im fi se u0 id ct ra ru wg ta cn dr na ng nn nf cm kx (by (try dsimp only); first | assumption | omega | trivial) (by (try dsimp only); first | assumption | omega | trivial) (by (try dsimp only); first | assumption | omega | trivial) (by (try dsimp only); first | assumption | omega | trivial)) (cwV 1 hts (lg_goodV k1077 k1079 k24 k120 kc_Maker_firstWithContents) rfl rfl rfl (by decide +kernel) ⟨Nat.le_of_ble_eq_true rfl, Nat.le_of_ble_eq_true rfl⟩) ⟨fun a U g mk q => by obtain ⟨q0, q1, qP, qK, qN, qD, qZ0⟩ := q; exact ⟨q0, q1, qP, va_K.moved (u := U) (U := U.calling g mk a) (Vm.Alike.refl U.vm) qK, qN.calling, qD, RO_blind qZ0⟩, va_recv hK hP (ci := 4) (q0 := 0) rfl rfl, fun U hU hW => ⟨rfl, by rw [hU], by rw [hU]; exact hPc, va_K.moved hW.alike hK, NN.warm hW hN, hDc.weaken (fun _ _ _ _ => trivial), (RO_app (w1 := [(tr, .inr (10, [.ref ta, .int cn, .int dr]))]) (w2 := ([(ta, .inl (cN, 40, .inr (.inr (.inr (.inr (rowF na cm))))))] ++ (PL (NC cB na ng nn nf) cm))) (RO_pass (RO_one hZr 0 rfl) hS hFc hU) (RO_app (w1 := [(ta, .inl (cN, 40, .inr (.inr (.inr (.inr (rowF na cm))))))]) (w2 := (PL (NC cB na ng nn nf) cm)) (RO_pass (RO_one hZr 1 rfl) hS hFc hU) (RO_pass (RO_tail (X := [(tr, .inr (10, [.ref ta, .int cn, .int dr])), (ta, .inl (cN, 40, .inr (.inr (.inr (.inr (rowF na cm))))))]) hZr) hS hFc hU)))⟩⟩ rfl rfl hl.1 rfl (lv_room (Nat.le_of_ble_eq_true rfl)) d_Maker_placeContents_17 ⟨hkc, hks⟩) hS (fun q _ h => hFc q h) hFc (fun r1 u t H1 locs ht hvm hp_r1 hB hz1 hk1 hS => ?_)
      obtain ⟨hP1, hD1⟩ := hB
      rw [ht] at hP1
      obtain ⟨hP, hD⟩ := va_join (wr := [(ct, .inl (cI, 40, .inl lcc))]) (w1 := [(m0, .inr (4, [.ref tr, .ref im, .ref fi, .ref se, .ref u0, .ref id, .ref ct, .int ra, .int ru, .int wg]))]) hP hD [0] [1] rfl rfl (by decide) (by decide) hk1 hFc hP1 hD1
      clear hPc hDc hFc hP1 hD1 hk1 hz1
      generalize H1 = H at hP hS ⊢
      have hP : va_P D CL [(ct, .inl (cI, 40, .inl lcc)), (m0, .inr (4, [.ref tr, .ref im, .ref fi, .ref se, .ref u0, .ref id, .ref ct, .int ra, .int ru, .int wg]))] H := hP
      have hD : va_D A [(ct, .inl (cI, 40, .inl lcc)), (m0, .inr (4, [.ref tr, .ref im, .ref fi, .ref se, .ref u0, .ref id, .ref ct, .int ra, .int ru, .int wg]))] := hD
      try dsimp only at hp_r1
      have hr_2 := hp_r1
      refine lv_istore hx hb d_Maker_placeContents_20 hl (by decide) rfl (fun ls hl => ?_)
      have hl : lv_has ls 5 [(4, .int r1), (0, .ref m0), (1, .int x), (2, .int nx), (3, .int kx)] := hl
      refine zz_lab (P := fun (lk : Nat) (H : Heap) (locs : List Loc) (ls : Array Slot) (stk : List Value) => ∃ (cv : Int32) , lk = 0 ∧ stk = [.int cv, .int kx, .ref ct] ∧ va_P D CL [(ct, .inl (cI, 40, .inl lcc)), (m0, .inr (4, [.ref tr, .ref im, .ref fi, .ref se, .ref u0, .ref id, .ref ct, .int ra, .int ru, .int wg]))] H ∧ va_D A [(ct, .inl (cI, 40, .inl lcc)), (m0, .inr (4, [.ref tr, .ref im, .ref fi, .ref se, .ref u0, .ref id, .ref ct, .int ra, .int ru, .int wg]))] ∧ va_S A s.heap H locs ∧ lv_has ls 5 [(0, .ref m0), (1, .int x), (2, .int nx), (3, .int kx), (4, .int r1)]) 54 ?_ ?_
      · skip
        intro lk ih54 H locs ls stk hI
        obtain ⟨cv, hm54, rfl, hP, hD, hS, hl⟩ := hI
        refine zq_iast hx hb hK hP hD hS 0 1 rfl rfl (vp_in_iff.mpr ⟨by omega, by omega⟩) d_Maker_placeContents_54 (fun fz3 e_fz3 H locs hP hD hS => ?_)
        have hP : va_P D CL [(ct, .inl (cI, 40, .inl fz3)), (m0, .inr (4, [.ref tr, .ref im, .ref fi, .ref se, .ref u0, .ref id, .ref ct, .int ra, .int ru, .int wg]))] H := hP
        have hD : va_D A [(ct, .inl (cI, 40, .inl fz3)), (m0, .inr (4, [.ref tr, .ref im, .ref fi, .ref se, .ref u0, .ref id, .ref ct, .int ra, .int ru, .int wg]))] := hD
        have s_fz3 : fz3 kx.toNatClampNeg = cv := by rw [e_fz3]; unfold upd; rw [if_pos (by first | rfl | decide)]
        refine zz_lab (P := fun (lk : Nat) (H : Heap) (locs : List Loc) (ls : Array Slot) (stk : List Value) => ∃ (sv9 : Int32) , lk = 0 ∧ stk = [.int sv9, .int nx] ∧ (0 ≤ sv9.toInt ∧ sv9.toInt ≤ 3) ∧ va_P D CL [(ct, .inl (cI, 40, .inl fz3)), (m0, .inr (4, [.ref tr, .ref im, .ref fi, .ref se, .ref u0, .ref id, .ref ct, .int ra, .int ru, .int wg]))] H ∧ va_D A [(ct, .inl (cI, 40, .inl fz3)), (m0, .inr (4, [.ref tr, .ref im, .ref fi, .ref se, .ref u0, .ref id, .ref ct, .int ra, .int ru, .int wg]))] ∧ va_S A s.heap H locs ∧ lv_has ls 5 [(0, .ref m0), (1, .int x), (2, .int nx), (3, .int kx), (4, .int r1)]) 81 ?_ ?_
        · skip
          intro lk ih81 H locs ls stk hI
          obtain ⟨sv9, hm81, rfl, e3, hP, hD, hS, hl⟩ := hI
          refine lv_iadd hx hb d_Maker_placeContents_81 ?_
          refine lv_topi (fun v4 e_v4 => ?_)
          have t_v4 : v4.toInt = nx.toInt + sv9.toInt := by rw [e_v4]; exact i_add rfl rfl (by omega) (by omega)
          refine lv_istore_n hx hb d_Maker_placeContents_82 rfl hl (by decide) rfl (fun ls hl => ?_)
          have hl : lv_has ls 5 [(2, .int v4), (0, .ref m0), (1, .int x), (3, .int kx), (4, .int r1)] := hl
          obtain ⟨v5, e_v5⟩ : ∃ z : Int32, z = kx + 1 := ⟨_, rfl⟩
          refine lv_iinc (v := v5) hx hb d_Maker_placeContents_83 hl (k := 3) rfl e_v5.symm (by decide) rfl (fun ls hl => ?_)
          have t_v5 : v5.toInt = kx.toInt + 1 := by rw [e_v5]; exact i_add rfl (by decide) (by omega) (by omega)
          have hl : lv_has ls 5 [(3, .int v5), (2, .int v4), (0, .ref m0), (1, .int x), (4, .int r1)] := hl
          refine lv_goto (tgt := 4) hx hb d_Maker_placeContents_86 (by decide) ?_
          have hP := hP.sub (ws' := [(m0, .inr (4, [.ref tr, .ref im, .ref fi, .ref se, .ref u0, .ref id, .ref ct, .int ra, .int ru, .int wg])), (ct, .inl (cI, 40, .inl fz3))]) [1, 0] rfl
          have hD := hD.sub (ws' := [(m0, .inr (4, [.ref tr, .ref im, .ref fi, .ref se, .ref u0, .ref id, .ref ct, .int ra, .int ru, .int wg])), (ct, .inl (cI, 40, .inl fz3))]) [1, 0] (by decide) rfl
          have hl := lv_sub hl [2, 3, 1, 0] rfl
          exact ih4 (_) (by first | omega | (dsimp only; omega)) _ _ _ _ ⟨v4, v5, fz3, rfl, rfl, (by (try dsimp only); first | assumption | omega | trivial), (by (try dsimp only); first | assumption | omega | trivial), hP, hD, hS, hl⟩
        · skip
          intro kk81
          refine lv_iload_n hx hb d_Maker_placeContents_55 rfl (lv_at hl 2 rfl) ?_
          refine lv_iload hx hb d_Maker_placeContents_56 (lv_at hl 4 rfl) ?_
          refine lv_iload_n hx hb d_Maker_placeContents_58 rfl (lv_at hl 3 rfl) ?_
          refine lv_icmp_ne (tgt := 80) hx hb d_Maker_placeContents_59 (by decide) (fun h_9 => ?_) (fun h_9 => ?_)
          · skip
            have g59_25 : ¬ r1.toInt = kx.toInt := fun h8 => h_9 ((i_eq rfl rfl).mpr h8)
            refine lv_iconst (v := 0) hx hb d_Maker_placeContents_80 (by decide) ?_
            have hP := hP.sub (ws' := [(ct, .inl (cI, 40, .inl fz3)), (m0, .inr (4, [.ref tr, .ref im, .ref fi, .ref se, .ref u0, .ref id, .ref ct, .int ra, .int ru, .int wg]))]) [0, 1] rfl
            have hD := hD.sub (ws' := [(ct, .inl (cI, 40, .inl fz3)), (m0, .inr (4, [.ref tr, .ref im, .ref fi, .ref se, .ref u0, .ref id, .ref ct, .int ra, .int ru, .int wg]))]) [0, 1] (by decide) rfl
            have hl := lv_sub hl [0, 1, 2, 3, 4] rfl
            exact kk81 _ _ _ _ _ ⟨0, rfl, rfl, (by (try dsimp only); first | assumption | omega | trivial), hP, hD, hS, hl⟩
          · skip
            have g59_25 : r1.toInt = kx.toInt := (i_eq rfl rfl).mp h_9
            refine lv_aload_n hx hb d_Maker_placeContents_62 rfl (lv_at hl 0 rfl) ?_
            refine va_get (D := D) (ci := 4) (v := .ref tr) (C := "DiscMaker$Maker") (T := F_Maker) (N := 10) hx hb ht9 in_Maker hown hK hP 1 rfl rfl 0 (by decide) (ht9 _ k347) (fun _ h9 => h9) rfl d_Maker_placeContents_63 ?_
            have hPR := RO_at hZr hS
            refine va_getN (D := D) (ci := 10) (v := .ref ta) (C := "DiscMaker$Tree") (T := F_Tree) (N := 3) hx hb ht9 in_Tree hown hK hPR 0 rfl rfl 0 (by decide) (va_Nw.use rfl (hN _ k237)) (fun _ h9 => h9) rfl d_Maker_placeContents_66 ?_
            refine lv_iload_n hx hb d_Maker_placeContents_69 rfl (lv_at hl 3 rfl) ?_
            have hPR := RO_at hZr hS
            refine va_aldq hx hb hK hPR 1 4 rfl rfl (vp_in_iff.mpr ⟨by omega, by omega⟩) d_Maker_placeContents_70 ?_
            have c_hk6 := i_cl (a := kx) (by omega)
            have hk6 : kx.toNatClampNeg < cm := by omega
            have o_hk6 := htok kx.toNatClampNeg hk6
            obtain ⟨i_hj7, hj7⟩ : ∃ j : Nat, (PL (NC cB na ng nn nf) cm)[j]? = some ((na kx.toNatClampNeg 0), .inr (5, [.int (ng kx.toNatClampNeg 0), .ref (na kx.toNatClampNeg 1), .ref (na kx.toNatClampNeg 2), .ref (na kx.toNatClampNeg 3), .int (ng kx.toNatClampNeg 1), .int (ng kx.toNatClampNeg 2), .int (ng kx.toNatClampNeg 3), .int (ng kx.toNatClampNeg 4), .int (ng kx.toNatClampNeg 5), .int (ng kx.toNatClampNeg 6), .int (ng kx.toNatClampNeg 7), .int (ng kx.toNatClampNeg 8)])) := PL_get (i := 0) hk6 rfl
            obtain ⟨i_hj8, hj8⟩ : ∃ j : Nat, (PL (NC cB na ng nn nf) cm)[j]? = some ((na kx.toNatClampNeg 1), .inl (cB, (nn kx.toNatClampNeg 1), .inl (nf kx.toNatClampNeg 1))) := PL_get (i := 1) hk6 rfl
            obtain ⟨i_hj9, hj9⟩ : ∃ j : Nat, (PL (NC cB na ng nn nf) cm)[j]? = some ((na kx.toNatClampNeg 2), .inl (cB, 11, .inl (nf kx.toNatClampNeg 2))) := PL_get (i := 2) hk6 rfl
            obtain ⟨i_hj10, hj10⟩ : ∃ j : Nat, (PL (NC cB na ng nn nf) cm)[j]? = some ((na kx.toNatClampNeg 3), .inl (cB, (nn kx.toNatClampNeg 3), .inl (nf kx.toNatClampNeg 3))) := PL_get (i := 3) hk6 rfl
            refine W.eq (g2 := F0 m 71 ls [.ref (na kx.toNatClampNeg 0), .int nx]) (by rw [show rowF na cm kx.toNatClampNeg = some (na kx.toNatClampNeg 0) from rowF_some hk6]; rfl) ?_
            have hPR := RO_at hZr hS
            refine va_getN (D := D) (ci := 5) (v := .int (ng kx.toNatClampNeg 7)) (C := "DiscMaker$Node") (T := F_Node) (N := 12) hx hb ht9 in_Node hown hK hPR _ (pix (X := [(tr, .inr (10, [.ref ta, .int cn, .int dr])), (ta, .inl (cN, 40, .inr (.inr (.inr (.inr (rowF na cm))))))]) hj7) rfl 10 (by decide) (va_Nw.use rfl (hN _ k207)) (fun _ h9 => h9) rfl d_Maker_placeContents_71 ?_
            have hPc := hP.sub (ws' := []) [] rfl
            have hDc := hD.sub (ws' := []) [] (by decide) rfl
            have hFc := va_free (wc := []) hD hS hA [] rfl
            have hkc : 0 ≤ 0 := by decide
            have hks : 0 ≤ 0 := by decide
            refine va_calli (va_runSN (As := [.int (ng kx.toNatClampNeg 7)]) (rest := [.int nx]) ⟨hx, hb, hml, hown, hts⟩ (c3_sectorsFor l D cB cI cJ cZ cN cF H.size (ng kx.toNatClampNeg 7) (by (try dsimp only); first | assumption | omega | trivial)) ⟨va_cnB 1 hts (lg_good kc_DiscMaker_sectorsFor) rfl rfl rfl (hN _ k1045) (ht9 _ k115) (by decide +kernel) ⟨Nat.le_of_ble_eq_true rfl, Nat.le_of_ble_eq_true rfl⟩, ht9 _ k1046, trivial⟩ ⟨fun a U g mk q => by obtain ⟨q0, q1, qP, qK, qN, qD⟩ := q; exact ⟨q0, q1, qP, va_K.moved (u := U) (U := U.calling g mk a) (Vm.Alike.refl U.vm) qK, qN.calling, qD⟩, fun U hU hW => ⟨rfl, by rw [hU], by rw [hU]; exact hPc, va_K.moved hW.alike hK, NN.warm hW hN, hDc.weaken (fun _ _ _ _ => trivial)⟩⟩ rfl rfl hl.1 rfl (lv_room (Nat.le_of_ble_eq_true rfl)) d_Maker_placeContents_74 ⟨hkc, hks⟩) hS (fun q _ h => hFc q h) hFc (fun r11 u t H1 locs ht hvm hp_r11 hB hz1 hk1 hS => ?_)
            obtain ⟨hP1, hD1⟩ := hB
            rw [ht] at hP1
            obtain ⟨hP, hD⟩ := va_join (wr := [(ct, .inl (cI, 40, .inl fz3)), (m0, .inr (4, [.ref tr, .ref im, .ref fi, .ref se, .ref u0, .ref id, .ref ct, .int ra, .int ru, .int wg]))]) (w1 := []) hP hD [] [0, 1] rfl rfl (by decide) (by decide) hk1 hFc hP1 hD1
            clear hPc hDc hFc hP1 hD1 hk1 hz1
            generalize H1 = H at hP hS ⊢
            have hP : va_P D CL [(ct, .inl (cI, 40, .inl fz3)), (m0, .inr (4, [.ref tr, .ref im, .ref fi, .ref se, .ref u0, .ref id, .ref ct, .int ra, .int ru, .int wg]))] H := hP
            have hD : va_D A [(ct, .inl (cI, 40, .inl fz3)), (m0, .inr (4, [.ref tr, .ref im, .ref fi, .ref se, .ref u0, .ref id, .ref ct, .int ra, .int ru, .int wg]))] := hD
            try dsimp only at hp_r11
            have hv_12 := hp_r11
            refine lv_goto (tgt := 81) hx hb d_Maker_placeContents_77 (by decide) ?_
            have hP := hP.sub (ws' := [(ct, .inl (cI, 40, .inl fz3)), (m0, .inr (4, [.ref tr, .ref im, .ref fi, .ref se, .ref u0, .ref id, .ref ct, .int ra, .int ru, .int wg]))]) [0, 1] rfl
            have hD := hD.sub (ws' := [(ct, .inl (cI, 40, .inl fz3)), (m0, .inr (4, [.ref tr, .ref im, .ref fi, .ref se, .ref u0, .ref id, .ref ct, .int ra, .int ru, .int wg]))]) [0, 1] (by decide) rfl
            have hl := lv_sub hl [0, 1, 2, 3, 4] rfl
            exact kk81 _ _ _ _ _ ⟨r11, rfl, rfl, (by (try dsimp only); first | assumption | omega | trivial), hP, hD, hS, hl⟩
      · skip
        intro kk54
        refine lv_aload_n hx hb d_Maker_placeContents_22 rfl (lv_at hl 1 rfl) ?_
        refine va_get (D := D) (ci := 4) (v := .ref ct) (C := "DiscMaker$Maker") (T := F_Maker) (N := 10) hx hb ht9 in_Maker hown hK hP 1 rfl rfl 6 (by decide) (ht9 _ k353) (fun _ h9 => h9) rfl d_Maker_placeContents_23 ?_
        refine lv_iload_n hx hb d_Maker_placeContents_26 rfl (lv_at hl 4 rfl) ?_
        refine lv_iload hx hb d_Maker_placeContents_27 (lv_at hl 0 rfl) ?_
        refine lv_iload_n hx hb d_Maker_placeContents_29 rfl (lv_at hl 4 rfl) ?_
        refine lv_icmp_ne (tgt := 37) hx hb d_Maker_placeContents_30 (by decide) (fun h_9 => ?_) (fun h_9 => ?_)
        · skip
          have g30_42 : ¬ r1.toInt = kx.toInt := fun h8 => h_9 ((i_eq rfl rfl).mpr h8)
          refine lv_iload hx hb d_Maker_placeContents_37 (lv_at hl 0 rfl) ?_
          refine lv_iconst (v := (-1)) hx hb d_Maker_placeContents_39 (by decide) ?_
          refine lv_icmp_ne (tgt := 47) hx hb d_Maker_placeContents_40 (by decide) (fun h_9 => ?_) (fun h_9 => ?_)
          · skip
            have g40_45 : ¬ r1.toInt = (-1) := fun h8 => h_9 ((i_eq rfl (by decide)).mpr h8)
            refine lv_aload_n hx hb d_Maker_placeContents_47 rfl (lv_at hl 1 rfl) ?_
            refine va_get (D := D) (ci := 4) (v := .ref ct) (C := "DiscMaker$Maker") (T := F_Maker) (N := 10) hx hb ht9 in_Maker hown hK hP 1 rfl rfl 6 (by decide) (ht9 _ k353) (fun _ h9 => h9) rfl d_Maker_placeContents_48 ?_
            refine lv_iload hx hb d_Maker_placeContents_51 (lv_at hl 0 rfl) ?_
            refine va_iald hx hb hK hP 0 1 rfl rfl (vp_in_iff.mpr ⟨by omega, by omega⟩) d_Maker_placeContents_53 ?_
            refine lv_topi (fun v13 e_v13 => ?_)
            have hP := hP.sub (ws' := [(ct, .inl (cI, 40, .inl lcc)), (m0, .inr (4, [.ref tr, .ref im, .ref fi, .ref se, .ref u0, .ref id, .ref ct, .int ra, .int ru, .int wg]))]) [0, 1] rfl
            have hD := hD.sub (ws' := [(ct, .inl (cI, 40, .inl lcc)), (m0, .inr (4, [.ref tr, .ref im, .ref fi, .ref se, .ref u0, .ref id, .ref ct, .int ra, .int ru, .int wg]))]) [0, 1] (by decide) rfl
            have hl := lv_sub hl [1, 2, 3, 4, 0] rfl
            exact kk54 _ _ _ _ _ ⟨v13, rfl, rfl, hP, hD, hS, hl⟩
          · skip
            have g40_45 : r1.toInt = (-1) := (i_eq rfl (by decide)).mp h_9
            refine lv_iconst (v := 0) hx hb d_Maker_placeContents_43 (by decide) ?_
            refine lv_goto (tgt := 54) hx hb d_Maker_placeContents_44 (by decide) ?_
            have hP := hP.sub (ws' := [(ct, .inl (cI, 40, .inl lcc)), (m0, .inr (4, [.ref tr, .ref im, .ref fi, .ref se, .ref u0, .ref id, .ref ct, .int ra, .int ru, .int wg]))]) [0, 1] rfl
            have hD := hD.sub (ws' := [(ct, .inl (cI, 40, .inl lcc)), (m0, .inr (4, [.ref tr, .ref im, .ref fi, .ref se, .ref u0, .ref id, .ref ct, .int ra, .int ru, .int wg]))]) [0, 1] (by decide) rfl
            have hl := lv_sub hl [1, 2, 3, 4, 0] rfl
            exact kk54 _ _ _ _ _ ⟨0, rfl, rfl, hP, hD, hS, hl⟩
        · skip
          have g30_42 : r1.toInt = kx.toInt := (i_eq rfl rfl).mp h_9
          refine lv_iload_n hx hb d_Maker_placeContents_33 rfl (lv_at hl 3 rfl) ?_
          refine lv_goto (tgt := 54) hx hb d_Maker_placeContents_34 (by decide) ?_
          have hP := hP.sub (ws' := [(ct, .inl (cI, 40, .inl lcc)), (m0, .inr (4, [.ref tr, .ref im, .ref fi, .ref se, .ref u0, .ref id, .ref ct, .int ra, .int ru, .int wg]))]) [0, 1] rfl
          have hD := hD.sub (ws' := [(ct, .inl (cI, 40, .inl lcc)), (m0, .inr (4, [.ref tr, .ref im, .ref fi, .ref se, .ref u0, .ref id, .ref ct, .int ra, .int ru, .int wg]))]) [0, 1] (by decide) rfl
          have hl := lv_sub hl [1, 2, 3, 4, 0] rfl
          exact kk54 _ _ _ _ _ ⟨nx, rfl, rfl, hP, hD, hS, hl⟩
  · skip
    intro kk4
    have hP := hP.sub (ws' := [(m0, .inr (4, [.ref tr, .ref im, .ref fi, .ref se, .ref u0, .ref id, .ref ct, .int ra, .int ru, .int wg])), (ct, .inl (cI, 40, .inl cc))]) [0, 1] rfl
    have hD := hD.sub (ws' := [(m0, .inr (4, [.ref tr, .ref im, .ref fi, .ref se, .ref u0, .ref id, .ref ct, .int ra, .int ru, .int wg])), (ct, .inl (cI, 40, .inl cc))]) [0, 1] (by decide) rfl
    have hl := lv_sub hl [2, 3, 1, 0] rfl
    exact kk4 _ _ _ _ _ ⟨x, 0, cc, rfl, rfl, (by (try dsimp only); first | assumption | omega | trivial), (by (try dsimp only); first | assumption | omega | trivial), hP, hD, hS, hl⟩
