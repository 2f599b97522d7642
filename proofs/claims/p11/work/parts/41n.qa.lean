theorem QA_of {ln : Int} {dt : Nat → Nat → Int} {ng : Nat → Nat → Int32} {nn : Nat → Nat → Nat} {nf : Nat → Nat → Nat → Int32} {f : Nat → Int32} {c cm : Nat} {Q : List Nat} (h : OrdC ln ng nn nf f c cm) (hdt : DtC dt cm ng nn nf) (hc1 : 1 ≤ cm) (hr0 : (ng 0 0).toInt = 0) (htok : TOK cm ng nn) (hpk : ∀ k : Nat, 1 ≤ k → k < cm → (ng k 2).toInt < k) (hpd : ∀ k, k < cm → (ng (ng k 2).toNatClampNeg 0).toInt = 0) (h12 : cP (fun q => dt 0 q = 0) cm ≤ 12) (hQ : qF (dt 5) (dt 0) (oN f) c 40 = Q) : (1 ≤ Q.length ∧ Q.getD 0 0 = 0) ∧ (∀ a, a < Q.length → Q.getD a 0 < cm ∧ dt 0 (Q.getD a 0) = 0) ∧ NdL Q ∧ ∀ k, k < cm → dt 0 k = 0 → ∃ a, a < Q.length ∧ Q.getD a 0 = k := by
  have h' : OrdP (KC ln nn nf) (NLC ln) (Cnd ln ng) (oN f) c cm := h
  have d0 : dt 0 0 = 0 := by rw [(hdt 0 (by omega)).1.1]; exact hr0
  have q := qF_QI (par := dt 5) (kd := dt 0) (fun j hj => ⟨(h'.1 j hj).1, (h'.1 j hj).2.1⟩) h'.2.2.2 hc1 d0 40
  have l := QI_len q
  have a := fun (k : Nat) (hk : k < cm) (hd : dt 0 k = 0) => q_all (par := dt 5) (kd := dt 0) h' (fun k hk hd => Or.inr (by rw [← (hdt k hk).1.1, hd]; decide)) ⟨hc1, d0⟩ (fun k h1 hk => by
    have t := (htok k hk).2.2.1
    have c1 := i_cl (a := ng k 2) t.1
    have p := hpk k h1 hk
    exact ⟨(ng k 2).toNatClampNeg, by omega, by rw [(hdt k hk).1.2.2.2.1]; omega, by rw [(hdt _ (by omega)).1.1]; exact hpd k hk⟩) (by omega) k hk hd
  rw [hQ] at q a
  exact ⟨q.1, q.2.1, q.2.2.1, a⟩
theorem RQ_of {dt : Nat → Nat → Int} {ng : Nat → Nat → Int32} {nn : Nat → Nat → Nat} {nf : Nat → Nat → Nat → Int32} {cm : Nat} {Q : List Nat} (hdt : DtC dt cm ng nn nf) (htok : TOK cm ng nn) (hnm : NmOK cm nn nf) (hc1 : 1 ≤ cm) (hQ : ∀ a, a < Q.length → Q.getD a 0 < cm ∧ dt 0 (Q.getD a 0) = 0) : (∀ k, k < cm → DtR dt k) ∧ ∀ i, i < Q.length → DtR dt (Q.getD i 0) ∧ DtR dt (if Q.getD i 0 = 0 then 0 else (dt 5 (Q.getD i 0)).toNat) := by
  have hR : ∀ k, k < cm → DtR dt k := fun k hk => DtN_R (hdt k hk) (htok k hk).1 (hnm k hk).1.1 (hnm k hk).1.2
  refine ⟨hR, fun i hi => ⟨hR _ (hQ i hi).1, hR _ ?_⟩⟩
  by_cases c : Q.getD i 0 = 0
  · rw [if_pos c]; omega
  · have t := (htok _ (hQ i hi).1).2.2.1
    rw [if_neg c, (hdt _ (hQ i hi).1).1.2.2.2.1]
    omega
/-- dx and all that is known of it -/
theorem mk_dx {dt : Nat → Nat → Int} {ng : Nat → Nat → Int32} {nn : Nat → Nat → Nat} {nf : Nat → Nat → Nat → Int32} {cm xc yc : Nat} {xb xe yb ye cc xt yt xo yo : Nat → Int32} {Q0 Q1 : List Nat} {x1 rf rn z : Int} (hdt : DtC dt cm ng nn nf) (htok : TOK cm ng nn) (hnm : NmOK cm nn nf) (hc1 : 1 ≤ cm) (hrp : (ng 0 2).toInt = 0) (hpd : ∀ k, k < cm → (ng (ng k 2).toNatClampNeg 0).toInt = 0) (hoX : OrdC 0 ng nn nf xo xc cm) (hoY : OrdC 1 ng nn nf yo yc cm)
    (hg0 : ∀ a, a < Q0.length → Q0.getD a 0 < cm ∧ dt 0 (Q0.getD a 0) = 0) (ha0 : ∀ k, k < cm → dt 0 k = 0 → ∃ a, a < Q0.length ∧ Q0.getD a 0 = k) (hg1 : ∀ a, a < Q1.length → Q1.getD a 0 < cm ∧ dt 0 (Q1.getD a 0) = 0) (ha1 : ∀ k, k < cm → dt 0 k = 0 → ∃ a, a < Q1.length ∧ Q1.getD a 0 = k) (ht0 : TnL Q0 xt) (ht1 : TnL Q1 yt)
    (hb0 : BgL dt 0 (oN xo) xc Q0 (23, 0) xb xe Q0.length) (hb1 : BgL dt 1 (oN yo) yc Q1 (x1, rn) yb ye Q1.length) (hw0 : wkS dt 0 (oN xo) xc Q0 (23, 0) Q0.length = (x1, rn)) (hw1 : wkS dt 1 (oN yo) yc Q1 (x1, rn) Q1.length = (rf, rn)) (hz : 0 ≤ x1 ∧ x1 ≤ 2000 ∧ rf ≤ 2000 ∧ 0 ≤ rn) (hcp : CtP dt z cc cm) (hc0 : ∀ k, k < cm → ¬ (dt 0 k = 1 ∧ dt 6 k ≠ 0) → (cc k).toInt = 0) :
    ∃ dx : Nat → Nat → Int, DxC dt dx cm ng nn ∧ DxL dt dx 0 cm xb xe cc ∧ DxL dt dx 1 cm yb ye cc ∧ (∀ k, k < cm → dxU dx 0 k = (xt (ng k 2).toNatClampNeg).toInt) ∧ (∀ k, k < cm → dxU dx 1 k = (yt (ng k 2).toNatClampNeg).toInt) ∧ WkX dt dx 0 (oN xo) xc Q0 (23, 0) ∧ WkX dt dx 1 (oN yo) yc Q1 (x1, 0) ∧ UpX dt dx 0 Q0 ∧ UpX dt dx 1 Q1 ∧ CoX dt dx z cm := by
  have oX : OrdP (KC 0 nn nf) (NLC 0) (Cnd 0 ng) (oN xo) xc cm := hoX
  have oY : OrdP (KC 1 nn nf) (NLC 1) (Cnd 1 ng) (oN yo) yc cm := hoY
  obtain ⟨hR, hR0⟩ := RQ_of hdt htok hnm hc1 hg0
  obtain ⟨_, hR1⟩ := RQ_of hdt htok hnm hc1 hg1
  have e0 := BgL_rng (z := 2000) hb0 (Or.inl rfl) (fun j hj => hR _ (oX.1 j hj).2.1) hR0 ⟨by decide, by decide⟩ (by rw [hw0]; exact hz.2.1) ha0
  have e1 := BgL_rng (z := 2000) hb1 (Or.inr rfl) (fun j hj => hR _ (oY.1 j hj).2.1) hR1 ⟨hz.1, hz.2.2.2⟩ (by rw [hw1]; exact hz.2.2.1) ha1
  obtain ⟨dx, c1, c2, c3, c4, c5⟩ := dx_ex (ng := ng) (nn := nn) (xb := xb) (yb := yb) (cc := cc) (xt := xt) (yt := yt) e0 e1
  have h5 : ∀ k, k < cm → dt 5 k = (ng k 2).toInt ∧ 0 ≤ (ng k 2).toInt ∧ (ng k 2).toNatClampNeg < cm ∧ dt 0 (ng k 2).toNatClampNeg = 0 := fun k hk => by
    have t := (htok k hk).2.2.1
    have q := i_cl (a := ng k 2) t.1
    exact ⟨(hdt k hk).1.2.2.2.1, t.1, by omega, by rw [(hdt _ (by omega)).1.1]; exact hpd k hk⟩
  exact ⟨dx, c1, c2, c3, c4, c5, WkX_of hb0 c2 hg0, WkX_r1 (WkX_of hb1 c3 hg1) 0, UpX_of ht0 c4 (fun a ha => (hg0 a ha).1) ha0 h5 hrp, UpX_of ht1 c5 (fun a ha => (hg1 a ha).1) ha1 h5 hrp, CoX_of c2 c3 hcp hc0⟩
