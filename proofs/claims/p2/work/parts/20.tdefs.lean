def cntK (f : Nat → Int32) : Nat → Nat
  | 0 => 0
  | n + 1 => cntK f n + (if (f n).toInt = 0 then 1 else 0)
theorem cntK_le (f : Nat → Int32) (n : Nat) : cntK f n ≤ n := by
  induction n with
  | zero => exact Nat.le_refl _
  | succ n ih => simp only [cntK]; split <;> omega
theorem cntK_congr {f g : Nat → Int32} {n : Nat} (h : ∀ k, k < n → f k = g k) : cntK f n = cntK g n := by
  induction n with
  | zero => rfl
  | succ n ih => simp only [cntK]; rw [ih (fun k hk => h k (by omega)), h n (by omega)]
def nmF (fN fNS : Nat → Int32) (k i : Nat) : Int := if (i : Int) < (fNS k).toInt then (fN (30 * k + i) &&& 255).toInt else 0
/-- the tree as the reference keeps it -/
def TI (n : Int) (fK fP fNS fSz fTS : Nat → Int32) : Prop :=
  (1 ≤ n ∧ n ≤ 40) ∧ Rg 0 2 40 fK ∧ Rg 0 30 40 fNS ∧ Rg 0 4100 40 fSz ∧ Rg 0 200 40 fTS ∧
  (∀ k : Nat, 1 ≤ k → (k : Int) < n → 0 ≤ (fP k).toInt ∧ (fP k).toInt < k ∧ (fK (fP k).toNatClampNeg).toInt = 0) ∧ cntK fK n.toNat ≤ 12 ∧ (fK 0).toInt = 0
section
variable {n : Int} {fK fP fNS fSz fTS : Nat → Int32}
theorem TI.n1 (h : TI n fK fP fNS fSz fTS) : 1 ≤ n ∧ n ≤ 40 := h.1
theorem TI.kk (h : TI n fK fP fNS fSz fTS) : Rg 0 2 40 fK := h.2.1
theorem TI.ns (h : TI n fK fP fNS fSz fTS) : Rg 0 30 40 fNS := h.2.2.1
theorem TI.sz (h : TI n fK fP fNS fSz fTS) : Rg 0 4100 40 fSz := h.2.2.2.1
theorem TI.ts (h : TI n fK fP fNS fSz fTS) : Rg 0 200 40 fTS := h.2.2.2.2.1
theorem TI.pp (h : TI n fK fP fNS fSz fTS) : ∀ k : Nat, 1 ≤ k → (k : Int) < n → 0 ≤ (fP k).toInt ∧ (fP k).toInt < k ∧ (fK (fP k).toNatClampNeg).toInt = 0 := h.2.2.2.2.2.1
theorem TI.cc (h : TI n fK fP fNS fSz fTS) : cntK fK n.toNat ≤ 12 := h.2.2.2.2.2.2.1
theorem TI.k0 (h : TI n fK fP fNS fSz fTS) : (fK 0).toInt = 0 := h.2.2.2.2.2.2.2
end
theorem TI_push {n : Int} {fK fP fNS fSz fTS gK gP gNS gSz gTS : Nat → Int32} {i : Nat} {so inn ns ts sz : Int32} (h : TI n fK fP fNS fSz fTS) (hi : (i : Int) = n) (hn : n < 40) (e1 : gK = upd fK i so) (e2 : gP = upd fP i inn) (e3 : gNS = upd fNS i ns) (e4 : gTS = upd fTS i ts) (e5 : gSz = upd fSz i sz)
    (h1 : 0 ≤ so.toInt ∧ so.toInt ≤ 2) (h2 : 0 ≤ inn.toInt ∧ inn.toInt < n) (h2k : (fK inn.toNatClampNeg).toInt = 0) (h3 : 0 ≤ ns.toInt ∧ ns.toInt ≤ 30) (h4 : 0 ≤ ts.toInt ∧ ts.toInt ≤ 200) (h5 : 0 ≤ sz.toInt ∧ sz.toInt ≤ 4100) (h6 : so.toInt = 0 → cntK fK n.toNat ≠ 12) : TI (n + 1) gK gP gNS gSz gTS := by
  have h0 := h.n1
  refine ⟨by omega, Rg_upd e1 h.kk h1.1 h1.2, Rg_upd e3 h.ns h3.1 h3.2, Rg_upd e5 h.sz h5.1 h5.2, Rg_upd e4 h.ts h4.1 h4.2, fun k hk1 hk => ?_, ?_, ?_⟩
  · have hcl : (inn.toNatClampNeg : Int) = inn.toInt := i_cl h2.1
    rw [e1, e2]
    by_cases hki : k = i
    · have e : upd fP i inn k = inn := by unfold upd; rw [if_pos hki]
      rw [e]
      refine ⟨h2.1, by omega, ?_⟩
      unfold upd
      rw [if_neg (by omega)]
      exact h2k
    · have e : upd fP i inn k = fP k := by unfold upd; rw [if_neg hki]
      rw [e]
      obtain ⟨q1, q2, q3⟩ := h.pp k hk1 (by omega)
      refine ⟨q1, q2, ?_⟩
      have hc2 : ((fP k).toNatClampNeg : Int) = (fP k).toInt := i_cl q1
      unfold upd
      rw [if_neg (by omega)]
      exact q3
  · rw [show (n + 1).toNat = n.toNat + 1 by omega]
    simp only [cntK]
    have e0 : cntK gK n.toNat = cntK fK n.toNat := cntK_congr (fun k hk => by rw [e1]; unfold upd; rw [if_neg (by omega)])
    have hc := h.cc
    have e6 : gK n.toNat = so := by rw [e1]; unfold upd; rw [if_pos (by omega)]
    rw [e0, e6]
    split
    · rename_i h7
      have := h6 h7
      omega
    · omega
  · rw [e1]; unfold upd; rw [if_neg (by omega)]
    exact h.k0
theorem TI.szset {n : Int} {fK fP fNS fSz fTS gSz : Nat → Int32} {i : Nat} {x : Int32} (h : TI n fK fP fNS fSz fTS) (e : gSz = upd fSz i x) (h1 : 0 ≤ x.toInt ∧ x.toInt ≤ 4100) : TI n fK fP fNS gSz fTS :=
  ⟨h.n1, h.kk, h.ns, Rg_upd e h.sz h1.1 h1.2, h.ts, h.pp, h.cc, h.k0⟩
