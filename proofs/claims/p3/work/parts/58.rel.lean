/-- the text of both sides -/
def TXR (n : Int) (f g : Nat → Int32) : Prop := ∀ j : Nat, (j : Int) < n → f j = g j
theorem TXR_fed {a b a2 : Int} {n m : Nat} {f g F G : Nat → Int32} {x1 x2 x3 x4 x5 : Int32} (h : TXR a f F) (hl : a = b) (c0 : 400 < a + 20 → g = f) (c1 : a + 20 ≤ 400 → FT f g n 20 x1 x2 x3 x4 x5) (d0 : 400 < b + 20 → G = F) (d1 : b + 20 ≤ 400 → FT F G m 20 x1 x2 x3 x4 x5) (hn : (n : Int) = a) (hm : (m : Int) = b) (h2 : (400 < a + 20 ∧ a2 = a) ∨ (a + 20 ≤ 400 ∧ a2 = a + 20)) : TXR a2 g G := fun j hj => by
  rcases h2 with ⟨h3, h4⟩ | ⟨h3, h4⟩
  · rw [c0 h3, d0 (by omega)]
    exact h j (by omega)
  · have k1 := c1 h3
    have k2 := d1 (by omega)
    have e : m = n := by omega
    rw [e] at k2
    by_cases c : j < n
    · rw [k1.1 j c, k2.1 j c]
      exact h j (by omega)
    · have h5 := k1.2 (j - n) (by omega)
      have h6 := k2.2 (j - n) (by omega)
      rw [show n + (j - n) = j by omega] at h5 h6
      rw [h5, h6]
/-- the tree of both sides -/
def TREL (m : Nat) (dr : Int32) (g : Nat → Nat → Int32) (n : Nat → Nat → Nat) (c : Nat → Nat → Nat → Int32) (fK fP fN fNS fM fO fG fSz fSd fT fTS : Nat → Int32) : Prop :=
  dr.toInt = cntK fK m ∧ ∀ k : Nat, k < m → (g k 0 = fK k ∧ (1 ≤ k → g k 2 = fP k) ∧ (g k 3).toInt = depN fP 40 k) ∧
    ((n k 1 : Int) = (fNS k).toInt ∧ ∀ j : Nat, j < n k 1 → c k 1 j = fN (30 * k + j) ∧ 0 ≤ (c k 1 j).toInt ∧ (c k 1 j).toInt ≤ 127) ∧
    (g k 4 = fM k ∧ g k 5 = fO k ∧ g k 6 = fG k ∧ g k 7 = fSz k ∧ g k 8 = fSd k) ∧
    ((n k 3 : Int) = (fTS k).toInt ∧ ∀ j : Nat, j < n k 3 → c k 3 j = fT (200 * k + j))
section
variable {ok ok2 : Prop} {r r2 x so mo ow gr si sd dr dr2 : Int32} {cm cm2 l1 l3 : Nat} {ng ng2 : Nat → Nat → Int32} {nn nn2 : Nat → Nat → Nat} {nf nf2 : Nat → Nat → Nat → Int32} {c1 c3 : Nat → Int32}
variable {n n2 z ts : Int} {fX fK fP fN fNS fM fO fG fSz fSd fT fTS gK gP gN gNS gM gO gG gSz gSd gT gTS : Nat → Int32}
theorem rel_W (hR : TREL cm dr ng nn nf fK fP fN fNS fM fO fG fSz fSd fT fTS) (hn : n = cm) (hok : ok ↔ ok2) (hz : z = l1) (h1 : ∀ j, j < l1 → c1 j = fX j) : WgC ok x cm ng l1 c1 ↔ WgM ok2 x n fK z fX := by
  have hN : NameP l1 c1 ↔ NameP z fX := by
    rw [hz]; exact NameP_iff (fun j hj => h1 j (by omega))
  have hD : DirC x cm ng ↔ (0 ≤ x.toInt ∧ x.toInt < n ∧ (fK x.toNatClampNeg).toInt = 0) := by
    constructor
    · intro h
      have hc := i_cl (a := x) h.1
      have h2 := h.2.1
      have e := (hR.2 x.toNatClampNeg (by omega)).1.1
      exact ⟨h.1, by omega, by rw [← e]; exact h.2.2⟩
    · intro h
      have hc := i_cl (a := x) h.1
      have h2 := h.2.1
      have e := (hR.2 x.toNatClampNeg (by omega)).1.1
      exact ⟨h.1, by omega, by rw [e]; exact h.2.2⟩
  exact ⟨fun h => ⟨hok.mp h.1, hD.mp h.2.1, hN.mp h.2.2⟩, fun h => ⟨hok.mpr h.1, hD.mpr h.2.1, hN.mpr h.2.2⟩⟩
theorem rel_nm (hR : TREL cm dr ng nn nf fK fP fN fNS fM fO fG fSz fSd fT fTS) {k j : Nat} (hk : k < cm) (hj : j < nn k 1) : nmF fN fNS k j = (nf k 1 j).toInt := by
  have h1 := (hR.2 k hk).2.1
  have h2 := h1.2 j hj
  unfold nmF
  rw [if_pos (by have := h1.1; omega), ← h2.1]
  exact i_and255s h2.2
theorem rel_N (hR : TREL cm dr ng nn nf fK fP fN fNS fM fO fG fSz fSd fT fTS) (hn : n = cm) (hz : z = l1) (h1 : ∀ j, j < l1 → c1 j = fX j) : NmdC cm ng nn nf x l1 c1 ↔ NmdM n fP fN fNS x z fX := by
  constructor
  · intro ⟨k, a1, a2, a3, a4, a5⟩
    have h2 := (hR.2 k a2)
    have h3 := h2.2.1.1
    refine ⟨k, a1, by omega, by rw [← h2.1.2.1 a1]; exact a3, by omega, fun j hj => ?_⟩
    rw [rel_nm hR a2 (by omega), a5 j (by omega), h1 j (by omega)]
  · intro ⟨k, a1, a2, a3, a4, a5⟩
    have h2 := (hR.2 k (by omega))
    have h3 := h2.2.1.1
    refine ⟨k, a1, by omega, by rw [h2.1.2.1 a1]; exact a3, by omega, fun j hj => ?_⟩
    have h4 := a5 j (by omega)
    rw [rel_nm hR (by omega) hj] at h4
    rw [h1 j (by omega)]
    exact Int32.toInt_inj.mp h4
theorem rel_F (hR : TREL cm dr ng nn nf fK fP fN fNS fM fO fG fSz fSd fT fTS) (hn : n = cm) (hT : TI n fK fP fNS fSz fTS) (hA : TOA cm ng) (hd : DirC x cm ng) : FulC cm dr so ((ng x.toNatClampNeg 3).toInt + 1) ↔ FulM n so fK fP x := by
  have h1 := hT.n1
  have h2 := hT.cc
  have h3 := hR.1
  have hc := i_cl (a := x) hd.1
  have h4 := hd.2.1
  have h5 := (hR.2 x.toNatClampNeg (by omega)).1.2.2
  have h6 := (hA x.toNatClampNeg (by omega)).2 hd.2.2
  rw [show n.toNat = cm by omega] at h2
  unfold FulC FulM
  rw [show n.toNat = cm by omega]
  constructor
  · intro h
    rcases h with h | ⟨h, h7 | h7⟩
    · exact Or.inl (by omega)
    · exact Or.inr ⟨h, Or.inl (by omega)⟩
    · exact Or.inr ⟨h, Or.inr (by omega)⟩
  · intro h
    rcases h with h | ⟨h, h7 | h7⟩
    · exact Or.inl (by omega)
    · exact Or.inr ⟨h, Or.inl (by omega)⟩
    · exact Or.inr ⟨h, Or.inr (by omega)⟩
theorem rel_push (hR : TREL cm dr ng nn nf fK fP fN fNS fM fO fG fSz fSd fT fTS) (hn : n = cm) (hT : TI n fK fP fNS fSz fTS) (hn9 : NameP z fX) (hx : 0 ≤ x.toInt ∧ x.toInt < n) (hz : z = l1) (hts : ts = l3) (h1 : ∀ j, j < l1 → c1 j = fX j) (h3 : ∀ j, j < l3 → c3 j = fX (z.toNat + 1 + j) ∧ 0 ≤ (c3 j).toInt ∧ (c3 j).toInt ≤ 127)
    (hp : PushC x so mo ow gr si sd dr dr2 cm cm2 ng ng2 nn nn2 nf nf2 l1 c1 l3 c3)
    (eK : gK = upd fK n.toNat so) (eP : gP = upd fP n.toNat x) (eN : (∀ q, q < 30 * n.toNat → gN q = fN q) ∧ ∀ j : Nat, (j : Int) < z → gN (30 * n.toNat + j) = vp_nar .byte (fX j)) (eNS : ∃ v : Int32, gNS = upd fNS n.toNat v ∧ v.toInt = z)
    (eM : gM = upd fM n.toNat mo) (eO : gO = upd fO n.toNat ow) (eG : gG = upd fG n.toNat gr) (eS : gSz = upd fSz n.toNat si) (eD : gSd = upd fSd n.toNat sd)
    (eT : (∀ q, q < 200 * n.toNat → gT q = fT q) ∧ ∀ j : Nat, (j : Int) < ts → gT (200 * n.toNat + j) = vp_nar .byte (fX (z.toNat + 1 + j))) (eTS : ∃ v : Int32, gTS = upd fTS n.toNat v ∧ v.toInt = ts) : TREL cm2 dr2 ng2 nn2 nf2 gK gP gN gNS gM gO gG gSz gSd gT gTS := by
  obtain ⟨p1, p2, ⟨nu, ab, p3, p4⟩, ⟨y, p5, p6, p7⟩, c9, p8, p9, p10⟩ := hp
  obtain ⟨v, eNS, hv⟩ := eNS
  obtain ⟨w, eTS, hw⟩ := eTS
  have h0 := hT.n1
  have hc := i_cl (a := x) hx.1
  have en : n.toNat = cm := by omega
  rw [en] at eK eP eN eNS eM eO eG eS eD eT eTS
  rw [p1]
  have hpp : ∀ k : Nat, 1 ≤ k → (k : Int) < n → 0 ≤ (fP k).toInt ∧ (fP k).toInt < k := fun k a b => ⟨(hT.pp k a b).1, (hT.pp k a b).2.1⟩
  have hold : ∀ k : Nat, 1 ≤ k → (k : Int) < n → gP k = fP k := fun k _ b => by rw [eP]; exact upd_off (by omega)
  have hpg : ∀ k : Nat, 1 ≤ k → (k : Int) < n + 1 → 0 ≤ (gP k).toInt ∧ (gP k).toInt < k := fun k a b => by
    by_cases e : k = cm
    · rw [eP, e, upd_at]; omega
    · rw [hold k a (by omega)]; exact hpp k a (by omega)
  refine ⟨?_, fun k hk => ?_⟩
  · have q1 : cntK gK cm = cntK fK cm := cntK_congr (fun k hk => by rw [eK]; exact upd_off (by omega))
    have q2 : gK cm = so := by rw [eK]; exact upd_at _ _ _
    have q3 := hR.1
    simp only [cntK]
    rw [q1, q2]
    rcases p2 with ⟨a, b⟩ | ⟨a, b⟩
    · rw [if_pos a]; omega
    · rw [if_neg a]; omega
  · by_cases e : k = cm
    · subst e
      have hb : ∀ u : Int32, 0 ≤ u.toInt ∧ u.toInt ≤ 127 → vp_nar .byte u = u := fun u hu => i_bsmall hu
      rw [p3, p5, p8, upK_at, upK_at, upK_at]
      refine ⟨⟨?_, fun _ => ?_, ?_⟩, ⟨?_, fun j hj => ?_⟩, ⟨?_, ?_, ?_, ?_, ?_⟩, ?_, fun j hj => ?_⟩
      · rw [eK, upd_at]; rfl
      · rw [eP, upd_at]; rfl
      · show ab.toInt = _
        have q1 := (hR.2 x.toNatClampNeg (by omega)).1.2.2
        have q2 : gP k = x := by rw [eP]; exact upd_at _ _ _
        by_cases k0 : k = 0
        · omega
        · rw [depN_succ hpg (by omega) (by omega) (by omega), q2, depN_congr hpp hold 40 x.toNatClampNeg (by omega)]
          omega
      · rw [p6, eNS, upd_at]; omega
      · rw [p6] at hj
        have q1 := hn9.chr (j := j) (by omega)
        have q2 := p9 j hj
        rw [h1 j hj] at q2
        rw [q2]
        refine ⟨?_, by omega⟩
        rw [eN.2 j (by omega), hb _ (by omega)]
      · rw [eM, upd_at]; rfl
      · rw [eO, upd_at]; rfl
      · rw [eG, upd_at]; rfl
      · rw [eS, upd_at]; rfl
      · rw [eD, upd_at]; rfl
      · rw [p7, eTS, upd_at]; omega
      · rw [p7] at hj
        have q1 := h3 j hj
        rw [p10 j hj, eT.2 j (by omega), ← q1.1, hb _ q1.2]
    · have hk2 : k < cm := by omega
      have q := hR.2 k hk2
      have qn := hT.ns k (by omega)
      have qt := hT.ts k (by omega)
      obtain ⟨⟨a1, a2, a3⟩, ⟨a4, a5⟩, ⟨a6, a7, a8, a9, a10⟩, a11, a12⟩ := q
      rw [p3, p5, p8, upK_off e, upK_off e, upK_off e]
      refine ⟨⟨?_, fun h => ?_, ?_⟩, ⟨?_, fun j hj => ⟨?_, (a5 j hj).2⟩⟩, ⟨?_, ?_, ?_, ?_, ?_⟩, ?_, fun j hj => ?_⟩
      · rw [eK, upd_off e]; exact a1
      · rw [eP, upd_off e]; exact a2 h
      · rw [depN_congr hpp hold 40 k (by omega)]; exact a3
      · rw [eNS, upd_off e]; exact a4
      · rw [eN.1 (30 * k + j) (by omega)]; exact (a5 j hj).1
      · rw [eM, upd_off e]; exact a6
      · rw [eO, upd_off e]; exact a7
      · rw [eG, upd_off e]; exact a8
      · rw [eS, upd_off e]; exact a9
      · rw [eD, upd_off e]; exact a10
      · rw [eTS, upd_off e]; exact a11
      · rw [eT.1 (200 * k + j) (by omega)]; exact a12 j hj
theorem grow_rel (hR : TREL cm dr ng nn nf fK fP fN fNS fM fO fG fSz fSd fT fTS) (hn : n = cm) (hT : TI n fK fP fNS fSz fTS) (hA : TOA cm ng)
    (hc : GrowC ok r x so mo ow gr si sd dr dr2 cm cm2 ng ng2 nn nn2 nf nf2 l1 c1 l3 c3) (hm : GrowM ok2 r2 x so mo ow gr si sd n n2 z ts fX fK fP fN fNS fM fO fG fSz fSd fT fTS gK gP gN gNS gM gO gG gSz gSd gT gTS)
    (hok : ok ↔ ok2) (hz : z = l1) (hts : ok → ts = l3) (h1 : ∀ j, j < l1 → c1 j = fX j) (h3 : ok → ∀ j, j < l3 → c3 j = fX (z.toNat + 1 + j) ∧ 0 ≤ (c3 j).toInt ∧ (c3 j).toInt ≤ 127) :
    r.toInt = r2.toInt ∧ n2 = cm2 ∧ TREL cm2 dr2 ng2 nn2 nf2 gK gP gN gNS gM gO gG gSz gSd gT gTS := by
  have hW : WgC ok x cm ng l1 c1 ↔ WgM ok2 x n fK z fX := rel_W hR hn hok hz h1
  have hN : NmdC cm ng nn nf x l1 c1 ↔ NmdM n fP fN fNS x z fX := rel_N hR hn hz h1
  have hF : DirC x cm ng → (FulC cm dr so ((ng x.toNatClampNeg 3).toInt + 1) ↔ FulM n so fK fP x) := fun hd => rel_F hR hn hT hA hd
  rcases hc with ⟨a, s1, s2, s3, s4, s5⟩ | ⟨a1, a2, a3, a4, a5⟩
  · rcases hm with ⟨b, t1, t2, t3, t4, t5, t6, t7, t8, t9, t10, t11, t12⟩ | ⟨b1, b2, b3, -⟩
    · refine ⟨?_, by omega, by rw [s1, s2, s3, s4, s5, t2, t3, t4, t5, t6, t7, t8, t9, t10, t11, t12]; exact hR⟩
      rcases a with a | a | a
      · rcases b with b | b | b
        · rw [a.1, b.1]
        · exact absurd (hW.mpr b.1) a.2
        · exact absurd (hW.mpr b.1) a.2
      · rcases b with b | b | b
        · exact absurd (hW.mp a.1) b.2
        · rw [a.2.1, b.2.1]
        · exact absurd (hN.mp a.2.2) b.2.2.1
      · rcases b with b | b | b
        · exact absurd (hW.mp a.1) b.2
        · exact absurd (hN.mpr b.2.2) a.2.2.1
        · rw [a.2.1, b.2.1]
    · exfalso
      rcases a with a | a | a
      · exact a.2 (hW.mpr b1)
      · exact b2 (hN.mp a.2.2)
      · exact b3 ((hF a.1.2.1).mp a.2.2.2)
  · rcases hm with ⟨b, -⟩ | ⟨b1, b2, b3, b4, b5, b6, b7, b8, b9, b10, b11, b12, b13, b14, b15, b16⟩
    · exfalso
      rcases b with b | b | b
      · exact b.2 (hW.mp a1)
      · exact a2 (hN.mpr b.2.2)
      · exact a3 ((hF a1.2.1).mpr b.2.2.2)
    · exact ⟨by omega, by have := a5.1; omega, rel_push hR hn hT b1.2.2 ⟨b1.2.1.1, b1.2.1.2.1⟩ hz (hts a1.1) h1 (h3 a1.1) a5 b6 b7 b8 b9 b10 b11 b12 b13 b14 b15 b16⟩
theorem own_rel {y0 z0 w0 : Int32} (hR : TREL cm dr ng nn nf fK fP fN fNS fM fO fG fSz fSd fT fTS) (hn : n = cm) (hb : BoolIs r (0 ≤ x.toInt ∧ x.toInt < cm ∧ OwnP y0 z0 w0)) (hM : r.toInt ≠ 0 → ng2 = upK ng x.toNatClampNeg (v9 (ng x.toNatClampNeg 0) (ng x.toNatClampNeg 1) (ng x.toNatClampNeg 2) (ng x.toNatClampNeg 3) y0 z0 w0 (ng x.toNatClampNeg 7) (ng x.toNatClampNeg 8))) (hM0 : r.toInt = 0 → ng2 = ng)
    (kb : BoolIs r2 (0 ≤ x.toInt ∧ x.toInt < n ∧ OwnP y0 z0 w0)) (kM : r2.toInt ≠ 0 → gM = upd fM x.toNatClampNeg y0 ∧ gO = upd fO x.toNatClampNeg z0 ∧ gG = upd fG x.toNatClampNeg w0) (kM0 : r2.toInt = 0 → gM = fM ∧ gO = fO ∧ gG = fG) :
    r.toInt = r2.toInt ∧ TREL cm dr ng2 nn nf fK fP fN fNS gM gO gG fSz fSd fT fTS := by
  have e : r.toInt = r2.toInt := hb.same kb (by rw [hn])
  refine ⟨e, ?_⟩
  by_cases c : r.toInt = 0
  · rw [hM0 c, (kM0 (by omega)).1, (kM0 (by omega)).2.1, (kM0 (by omega)).2.2]
    exact hR
  · rw [hM c, (kM (by omega)).1, (kM (by omega)).2.1, (kM (by omega)).2.2]
    refine ⟨hR.1, fun k hk => ?_⟩
    have q := hR.2 k hk
    by_cases d : k = x.toNatClampNeg
    · subst d
      rw [upK_at]
      exact ⟨q.1, q.2.1, ⟨(upd_at _ _ _).symm, (upd_at _ _ _).symm, (upd_at _ _ _).symm, q.2.2.1.2.2.2.1, q.2.2.1.2.2.2.2⟩, q.2.2.2⟩
    · rw [upK_off d]
      exact ⟨q.1, q.2.1, ⟨by rw [upd_off d]; exact q.2.2.1.1, by rw [upd_off d]; exact q.2.2.1.2.1, by rw [upd_off d]; exact q.2.2.1.2.2.1, q.2.2.1.2.2.2.1, q.2.2.1.2.2.2.2⟩, q.2.2.2⟩
end
theorem TREL_1 : TREL 1 1 (fun _ => v9 0 0 0 0 16877 0 0 0 0) (fun _ => ad4 0 0 0 0) (fun _ => c123 (fun _ => 0) (fun _ => 0) (fun _ => 0)) (fun _ => 0) (upd (fun _ => 0) 0 (-1)) (fun _ => 0) (fun _ => 0) (upd (fun _ => 0) 0 16877) (fun _ => 0) (fun _ => 0) (fun _ => 0) (fun _ => 0) (fun _ => 0) (fun _ => 0) := by
  refine ⟨by decide, fun k hk => ?_⟩
  have e : k = 0 := by omega
  rw [e]
  refine ⟨⟨rfl, fun h => absurd h (by omega), ?_⟩, ⟨by decide, fun j hj => absurd hj (Nat.not_lt_zero j)⟩, ⟨?_, rfl, rfl, rfl, rfl⟩, by decide, fun j hj => absurd hj (Nat.not_lt_zero j)⟩
  · rw [depN_z]; decide
  · rw [upd_at]; rfl
theorem TOA_1 : TOA 1 (fun _ => v9 0 0 0 0 16877 0 0 0 0) := fun k hk => by
  have e : k = 0 := by omega
  rw [e]
  exact ⟨by decide, fun _ => by decide⟩
theorem LnkP_iff {n m : Int} {f g : Nat → Int32} (e : n = m) (h : ∀ j : Nat, (j : Int) < n → f j = g j) : LnkP n f ↔ LnkP m g := by
  rw [← e]
  have hc : TgtP n f → compS f n.toNat = compS g n.toNat := fun h2 => compS_congr (fun j hj => h j (by have := h2.1; omega))
  constructor
  · intro a
    refine ⟨TgtP_congr h a.1, ?_⟩
    rw [← hc a.1]
    exact a.2
  · intro a
    have b : TgtP n f := TgtP_congr (fun j hj => (h j hj).symm) a.1
    refine ⟨b, ?_⟩
    rw [hc b]
    exact a.2
