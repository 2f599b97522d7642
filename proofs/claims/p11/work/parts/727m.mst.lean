theorem KeyP_cg {N : Nat} {par kd par2 kd2 : Nat → Int} {ln ln2 : Nat → Nat} {nm nm2 K : Nat → Nat → Int} (h : KeyP N par kd ln nm K) (e1 : ∀ k, 1 ≤ k → k < N → par k = par2 k) (e2 : ∀ k, k < N → kd k = kd2 k) (e3 : ∀ k, k < N → ln k = ln2 k) (e4 : ∀ k, k < N → ∀ j, j < ln k → nm k j = nm2 k j) : KeyP N par2 kd2 ln2 nm2 K := by
  intro k h1 hk
  have q := h k h1 hk
  have e6 := e4 k hk
  rw [e3 k hk, e2 k hk] at q
  rw [e3 k hk] at e6
  exact KeyAt_to (fun Z Z2 hZ => ⟨Tkn_to hZ (fun _ _ _ _ _ => rfl) (fun q h3 h4 => e1 q h3 (by omega)), Tkn_to (fun j hj => (hZ j hj).symm) (fun _ _ _ _ _ => rfl) (fun q h3 h4 => (e1 q h3 (by omega)).symm)⟩) (fun j _ => pkF_congr e6 j) (kpF_congr e6) (fun _ _ => rfl) q
theorem pkF_rng (nm : Nat → Int) (ln : Nat) (kd : Int) (j : Nat) : 32 ≤ pkF nm ln kd j ∧ pkF nm ln kd j ≤ 95 := by
  unfold pkF
  have a := capF_rng (nm j)
  have b := capF_rng (nm (dtF nm ln kd + 1 + (j - 8)))
  split
  · split <;> omega
  · split <;> omega
theorem KeyAt_rng {T : (Nat → Int) → Prop} {nm : Nat → Int} {ln m : Nat} {kd : Int} {Y : Nat → Int} (h : KeyAt T (pkF nm ln kd) m Y) : ∀ j, j < 11 → 32 ≤ Y j ∧ Y j ≤ 95 := by
  intro j hj
  have r := pkF_rng nm ln kd j
  rcases h with ⟨_, b⟩ | ⟨_, v, hv, _, _, d⟩
  · rw [b j hj]; exact r
  · rw [d j hj]
    unfold nkF
    split
    · omega
    · split
      · omega
      · split <;> omega
theorem cP_cg {p q : Nat → Prop} {n : Nat} (h : ∀ k, k < n → (p k ↔ q k)) : cP p n = cP q n := by
  have a : cP p n ≤ cP q n := cP_mono (fun k hk hp => (h k hk).mp hp)
  have b : cP q n ≤ cP p n := cP_mono (fun k hk hp => (h k hk).mpr hp)
  omega
section
variable {cm : Nat} {dr : Int32} {ng ng2 : Nat → Nat → Int32} {nn : Nat → Nat → Nat} {nf : Nat → Nat → Nat → Int32} {n : Int} {fK fP fN fNS fM fO fG fSz fSd fT fTS : Nat → Int32} {dt : Nat → Nat → Int}
theorem mst_c (hR : TREL cm dr ng nn nf fK fP fN fNS fM fO fG fSz fSd fT fTS) (hn : n = cm) (hT : TI n fK fP fNS fSz fTS) (hU : TU n fP fN fNS) (hk : KeyC cm ng nn nf) (hz : (ng 0 2).toInt = 0) (hdt : DtC dt cm ng nn nf) :
    NmOK cm nn nf ∧ (ng 0 0).toInt = 0 ∧ (∀ k, k < cm → (ng (ng k 2).toNatClampNeg 0).toInt = 0) ∧ cP (fun q => dt 0 q = 0) cm ≤ 12 := by
  have h0 := hT.n1
  have r0 : (ng 0 0).toInt = 0 := by
    rw [(hR.2 0 (by omega)).1.1]; exact hT.k0
  refine ⟨fun k hk1 => ?_, r0, fun k hk1 => ?_, ?_⟩
  · have q := hR.2 k hk1
    have ns := hT.ns k (by omega)
    have ts := hT.ts k (by omega)
    refine ⟨⟨by have := q.2.1.1; omega, by have := q.2.2.2.1; omega⟩, fun j hj => ?_, fun h1 j hj => ?_⟩
    · have c := q.2.1.2 j hj
      have u := hU.1 k (by omega) j (by have := q.2.1.1; omega)
      rw [rel_nm hR hk1 hj] at u
      omega
    · have := KeyAt_rng (hk k h1 hk1) j hj
      have e : (nf k 2 j).toInt = (fun k j => (nf k 2 j).toInt) k j := rfl
      omega
  · by_cases c : k = 0
    · subst c
      have h1 := i_cl (a := ng 0 2) (by omega)
      rw [show (ng 0 2).toNatClampNeg = 0 by omega]; exact r0
    · have q := (hR.2 k hk1).1.2.1 (by omega)
      have p := hT.pp k (by omega) (by omega)
      have h1 := i_cl (a := fP k) p.1
      rw [q, (hR.2 (fP k).toNatClampNeg (by omega)).1.1]
      exact p.2.2
  · have c := hT.cc
    rw [← cntK_cP] at c
    rw [cP_cg (q := fun q => (fK q).toInt = 0) (fun k hk1 => by rw [(hdt k hk1).1.1, (hR.2 k hk1).1.1])]
    rw [show n.toNat = cm by omega] at c
    exact c
theorem mst_m (hR : TREL cm dr ng nn nf fK fP fN fNS fM fO fG fSz fSd fT fTS) (hn : n = cm) (hT : TI n fK fP fNS fSz fTS) (hk : KeyC cm ng nn nf) (hl : ∀ k : Nat, k < cm → (fK k).toInt = 2 → 1 ≤ (fTS k).toInt) (hdt : DtC dt cm ng nn nf) :
    DtM dt n fK fP fNS fSz fSd ∧ (∀ k : Nat, (k : Int) < n → DtR dt k) ∧ (∀ k : Nat, (k : Int) < n → (fK k).toInt = 2 → dt 4 k = ((cmF (tgF fT k) (fTS k).toInt.toNat : Nat) : Int)) ∧
    KeyP n.toNat (fun k => (fP k).toInt) (fun k => (fK k).toInt) (fun k => (fNS k).toInt.toNat) (nmF fN fNS) (fun k j => (nf k 2 j).toInt) ∧ (∀ k : Nat, 1 ≤ k → (k : Int) < n → LenP ((fun k j => (nf k 2 j).toInt) k) 0 8 (dt 2 k) ∧ LenP ((fun k j => (nf k 2 j).toInt) k) 8 3 (dt 3 k)) := by
  have h0 := hT.n1
  refine ⟨fun k hk1 => ?_, fun k hk1 => ?_, fun k hk1 h2 => ?_, ?_, fun k h1 hk1 => ⟨(hdt k (by omega)).2.1, (hdt k (by omega)).2.2⟩⟩
  · obtain ⟨⟨a1, a2, a3⟩, ⟨a4, a5⟩, ⟨a6, a7, a8, a9, a10⟩, a11, a12⟩ := hR.2 k (by omega)
    obtain ⟨d0, d1, d4, d5, d6, d7⟩ := (hdt k (by omega)).1
    exact ⟨⟨by rw [d0, a1], by omega, by rw [d6, a9], by rw [d7, a10]⟩, fun h => by rw [d5, a2 h]⟩
  · have q := hR.2 k (by omega)
    have ns := hT.ns k (by omega)
    have ts := hT.ts k (by omega)
    have kk := hT.kk k (by omega)
    exact DtN_R (hdt k (by omega)) (by rw [q.1.1]; exact kk) (by have := q.2.1.1; omega) (by have := q.2.2.2.1; omega)
  · obtain ⟨⟨a1, a2, a3⟩, ⟨a4, a5⟩, ⟨a6, a7, a8, a9, a10⟩, a11, a12⟩ := hR.2 k (by omega)
    obtain ⟨d0, d1, d4, d5, d6, d7⟩ := (hdt k (by omega)).1
    have l := hl k (by omega) h2
    rw [d4, cm_comp (tgF fT k) (by omega), show (fTS k).toInt.toNat = nn k 3 by omega]
    exact compS_congr (fun j hj => by rw [a12 j hj]; rfl)
  · refine KeyP_cg (N := n.toNat) (show KeyP n.toNat _ _ _ _ _ from by rw [show n.toNat = cm by omega]; exact hk) (fun k h1 h2 => ?_) (fun k h2 => ?_) (fun k h2 => ?_) (fun k h2 j hj => ?_)
    · show (ng k 2).toInt = (fP k).toInt
      rw [(hR.2 k (by omega)).1.2.1 h1]
    · show (ng k 0).toInt = (fK k).toInt
      rw [(hR.2 k (by omega)).1.1]
    · show nn k 1 = (fNS k).toInt.toNat
      have := (hR.2 k (by omega)).2.1.1
      omega
    · show (nf k 1 j).toInt = nmF fN fNS k j
      exact (rel_nm hR (by omega) hj).symm
theorem ord_0 {f : Nat → Int32} {c : Nat} (hn : n = cm) (h : OrdC 0 ng nn nf f c cm) : OrdP (fun k j => (nf k 2 j).toInt) 11 (fun k => (0 : Int) = 0 ∨ (fK k).toInt ≠ 2) (oN f) c n.toNat := by
  rw [show n.toNat = cm by omega]
  unfold OrdC at h
  rw [show KC 0 nn nf = (fun k j => (nf k 2 j).toInt) from if_pos rfl, show NLC 0 = 11 from if_pos rfl] at h
  exact OrdP_congr h (fun _ _ _ _ _ => rfl) (fun _ _ _ => ⟨fun _ => Or.inl rfl, fun _ => Or.inl rfl⟩)
theorem ord_1 {f : Nat → Int32} {c : Nat} (hR : TREL cm dr ng nn nf fK fP fN fNS fM fO fG fSz fSd fT fTS) (hn : n = cm) (h : OrdC 1 ng nn nf f c cm) : OrdP (nmF fN fNS) 30 (fun k => (1 : Int) = 0 ∨ (fK k).toInt ≠ 2) (oN f) c n.toNat := by
  rw [show n.toNat = cm by omega]
  unfold OrdC at h
  rw [show KC 1 nn nf = (fun k j => if j < nn k 1 then (nf k 1 j).toInt else 0) from if_neg (by decide), show NLC 1 = 30 from if_neg (by decide)] at h
  refine OrdP_congr h (fun k h1 hk1 j hj => ?_) (fun k h1 hk1 => ?_)
  · by_cases c1 : j < nn k 1
    · rw [if_pos c1, rel_nm hR hk1 c1]
    · rw [if_neg c1]
      unfold nmF
      rw [if_neg (by have := (hR.2 k hk1).2.1.1; omega)]
  · unfold Cnd
    rw [(hR.2 k hk1).1.1]
theorem KeyC_own (h : KeyC cm ng nn nf) (e : ∀ k, ng2 k 0 = ng k 0 ∧ ng2 k 2 = ng k 2) : KeyC cm ng2 nn nf :=
  KeyP_cg h (fun k _ _ => by show (ng k 2).toInt = (ng2 k 2).toInt; rw [(e k).2]) (fun k _ => by show (ng k 0).toInt = (ng2 k 0).toInt; rw [(e k).1]) (fun _ _ => rfl) (fun _ _ _ _ => rfl)
theorem own_same {r x y0 z0 w0 : Int32} (hM : r.toInt ≠ 0 → ng2 = upK ng x.toNatClampNeg (v9 (ng x.toNatClampNeg 0) (ng x.toNatClampNeg 1) (ng x.toNatClampNeg 2) (ng x.toNatClampNeg 3) y0 z0 w0 (ng x.toNatClampNeg 7) (ng x.toNatClampNeg 8))) (hM0 : r.toInt = 0 → ng2 = ng) : ∀ k, ng2 k 0 = ng k 0 ∧ ng2 k 2 = ng k 2 := by
  intro k
  by_cases c : r.toInt = 0
  · rw [hM0 c]; exact ⟨rfl, rfl⟩
  · rw [hM c]
    by_cases d : k = x.toNatClampNeg
    · subst d; rw [upK_at]; exact ⟨rfl, rfl⟩
    · rw [upK_off d]; exact ⟨rfl, rfl⟩
end
theorem ql_grow {ok : Prop} {r x so mo ow gr si sd : Int32} {n n2 z ts : Int} {cm cm2 : Nat} {fX fK fP fN fNS fM fO fG fSz fSd fT fTS gK gP gN gNS gM gO gG gSz gSd gT gTS : Nat → Int32} (hq : ∀ k : Nat, k < cm → (fK k).toInt = 2 → 1 ≤ (fTS k).toInt) (hm : GrowM ok r x so mo ow gr si sd n n2 z ts fX fK fP fN fNS fM fO fG fSz fSd fT fTS gK gP gN gNS gM gO gG gSz gSd gT gTS) (hn : n = cm) (hn2 : n2 = cm2) (hs : ok → so.toInt = 2 → 1 ≤ ts) : ∀ k : Nat, k < cm2 → (gK k).toInt = 2 → 1 ≤ (gTS k).toInt := by
  rcases hm with ⟨b, t1, t2, t3, t4, t5, t6, t7, t8, t9, t10, t11, t12⟩ | ⟨b1, b2, b3, b4, b5, b6, b7, b8, b9, b10, b11, b12, b13, b14, b15, v, b16, b17⟩
  · rw [t2, t12]
    exact fun k hk => hq k (by omega)
  · intro k hk h
    rw [b6] at h
    rw [b16]
    by_cases c : k = n.toNat
    · rw [c, upd_at] at h
      rw [c, upd_at, b17]
      exact hs b1.1 h
    · rw [upd_off c] at h
      rw [upd_off c]
      exact hq k (by omega) h
