def cntK (f : Nat → Int32) : Nat → Nat
  | 0 => 0
  | n + 1 => cntK f n + (if (f n).toInt = 0 then 1 else 0)
theorem cntK_le (f : Nat → Int32) (n : Nat) : cntK f n ≤ n := by
  induction n with
  | zero => exact Nat.le_refl _
  | succ n ih => simp only [cntK]; split <;> omega
theorem cntK_congr {f g : Nat → Int32} {n : Nat} (h : ∀ k, k < n → f k = g k) : cntK f n = cntK g n := by
  induction n with
  | zero => rfl
  | succ n ih => simp only [cntK]; rw [ih (fun k hk => h k (by omega)), h n (by omega)]
def nmF (fN fNS : Nat → Int32) (k i : Nat) : Int := if (i : Int) < (fNS k).toInt then (fN (30 * k + i) &&& 255).toInt else 0
/-- the tree as the reference keeps it -/
def TI (n : Int) (fK fP fNS fSz fTS : Nat → Int32) : Prop :=
  (1 ≤ n ∧ n ≤ 40) ∧ Rg 0 2 40 fK ∧ Rg 0 30 40 fNS ∧ Rg 0 4100 40 fSz ∧ Rg 0 200 40 fTS ∧
  (∀ k : Nat, 1 ≤ k → (k : Int) < n → 0 ≤ (fP k).toInt ∧ (fP k).toInt < k ∧ (fK (fP k).toNatClampNeg).toInt = 0) ∧ cntK fK n.toNat ≤ 12 ∧ (fK 0).toInt = 0
section
variable {n : Int} {fK fP fNS fSz fTS : Nat → Int32}
theorem TI.n1 (h : TI n fK fP fNS fSz fTS) : 1 ≤ n ∧ n ≤ 40 := h.1
theorem TI.kk (h : TI n fK fP fNS fSz fTS) : Rg 0 2 40 fK := h.2.1
theorem TI.ns (h : TI n fK fP fNS fSz fTS) : Rg 0 30 40 fNS := h.2.2.1
theorem TI.sz (h : TI n fK fP fNS fSz fTS) : Rg 0 4100 40 fSz := h.2.2.2.1
theorem TI.ts (h : TI n fK fP fNS fSz fTS) : Rg 0 200 40 fTS := h.2.2.2.2.1
theorem TI.pp (h : TI n fK fP fNS fSz fTS) : ∀ k : Nat, 1 ≤ k → (k : Int) < n → 0 ≤ (fP k).toInt ∧ (fP k).toInt < k ∧ (fK (fP k).toNatClampNeg).toInt = 0 := h.2.2.2.2.2.1
theorem TI.cc (h : TI n fK fP fNS fSz fTS) : cntK fK n.toNat ≤ 12 := h.2.2.2.2.2.2.1
theorem TI.k0 (h : TI n fK fP fNS fSz fTS) : (fK 0).toInt = 0 := h.2.2.2.2.2.2.2
end
theorem TI_push {n : Int} {fK fP fNS fSz fTS gK gP gNS gSz gTS : Nat → Int32} {i : Nat} {so inn ns ts sz : Int32} (h : TI n fK fP fNS fSz fTS) (hi : (i : Int) = n) (hn : n < 40) (e1 : gK = upd fK i so) (e2 : gP = upd fP i inn) (e3 : gNS = upd fNS i ns) (e4 : gTS = upd fTS i ts) (e5 : gSz = upd fSz i sz)
    (h1 : 0 ≤ so.toInt ∧ so.toInt ≤ 2) (h2 : 0 ≤ inn.toInt ∧ inn.toInt < n) (h2k : (fK inn.toNatClampNeg).toInt = 0) (h3 : 0 ≤ ns.toInt ∧ ns.toInt ≤ 30) (h4 : 0 ≤ ts.toInt ∧ ts.toInt ≤ 200) (h5 : 0 ≤ sz.toInt ∧ sz.toInt ≤ 4100) (h6 : so.toInt = 0 → cntK fK n.toNat ≠ 12) : TI (n + 1) gK gP gNS gSz gTS := by
  have h0 := h.n1
  refine ⟨by omega, Rg_upd e1 h.kk h1.1 h1.2, Rg_upd e3 h.ns h3.1 h3.2, Rg_upd e5 h.sz h5.1 h5.2, Rg_upd e4 h.ts h4.1 h4.2, fun k hk1 hk => ?_, ?_, ?_⟩
  · have hcl : (inn.toNatClampNeg : Int) = inn.toInt := i_cl h2.1
    rw [e1, e2]
    by_cases hki : k = i
    · have e : upd fP i inn k = inn := by unfold upd; rw [if_pos hki]
      rw [e]
      refine ⟨h2.1, by omega, ?_⟩
      unfold upd
      rw [if_neg (by omega)]
      exact h2k
    · have e : upd fP i inn k = fP k := by unfold upd; rw [if_neg hki]
      rw [e]
      obtain ⟨q1, q2, q3⟩ := h.pp k hk1 (by omega)
      refine ⟨q1, q2, ?_⟩
      have hc2 : ((fP k).toNatClampNeg : Int) = (fP k).toInt := i_cl q1
      unfold upd
      rw [if_neg (by omega)]
      exact q3
  · rw [show (n + 1).toNat = n.toNat + 1 by omega]
    simp only [cntK]
    have e0 : cntK gK n.toNat = cntK fK n.toNat := cntK_congr (fun k hk => by rw [e1]; unfold upd; rw [if_neg (by omega)])
    have hc := h.cc
    have e6 : gK n.toNat = so := by rw [e1]; unfold upd; rw [if_pos (by omega)]
    rw [e0, e6]
    split
    · rename_i h7
      have := h6 h7
      omega
    · omega
  · rw [e1]; unfold upd; rw [if_neg (by omega)]
    exact h.k0
/-- names: no byte is 0, and two nodes of one directory have two names -/
def TU (n : Int) (fP fN fNS : Nat → Int32) : Prop := (∀ a : Nat, (a : Int) < n → ∀ i : Nat, (i : Int) < (fNS a).toInt → nmF fN fNS a i ≠ 0) ∧ ∀ a b : Nat, 1 ≤ a → (a : Int) < n → 1 ≤ b → (b : Int) < n → fP a = fP b → a ≠ b → ¬ ∀ j, j < 30 → nmF fN fNS a j = nmF fN fNS b j
theorem nmF_old {fN fNS gN gNS : Nat → Int32} {i a : Nat} {ns : Int32} (e : gNS = upd fNS i ns) (h : ∀ q, q < 30 * i → gN q = fN q) (ha : a < i) {j : Nat} (hj : j < 30) : nmF gN gNS a j = nmF fN fNS a j := by
  have e2 : gNS a = fNS a := by rw [e]; unfold upd; rw [if_neg (by omega)]
  unfold nmF
  rw [e2, h (30 * a + j) (by omega)]
theorem nmF_new {fNS gN gNS fX : Nat → Int32} {i : Nat} {ns : Int32} (e : gNS = upd fNS i ns) (h : ∀ j : Nat, (j : Int) < ns.toInt → gN (30 * i + j) = vp_nar .byte (fX j)) (hX : ∀ j : Nat, (j : Int) < ns.toInt → 43 ≤ (fX j).toInt ∧ (fX j).toInt ≤ 122) (j : Nat) : nmF gN gNS i j = if (j : Int) < ns.toInt then (fX j).toInt else 0 := by
  unfold nmF
  have e2 : gNS i = ns := by rw [e]; unfold upd; rw [if_pos rfl]
  rw [e2]
  by_cases hj : (j : Int) < ns.toInt
  · rw [if_pos hj, if_pos hj, h j hj]
    have h1 := hX j hj
    have h2 : vp_nar .byte (fX j) = fX j := i_bsmall ⟨by omega, by omega⟩
    rw [h2]
    exact i_and255s ⟨by omega, by omega⟩
  · rw [if_neg hj, if_neg hj]
theorem TU_push {n : Int} {fP fN fNS gP gN gNS fX : Nat → Int32} {i : Nat} {inn ns : Int32} (h : TU n fP fN fNS) (hi : (i : Int) = n) (hR : Rg 0 30 40 fNS) (h40 : n < 40) (e2 : gP = upd fP i inn) (e3 : gNS = upd fNS i ns) (hns : 1 ≤ ns.toInt ∧ ns.toInt ≤ 30) (h1 : ∀ q, q < 30 * i → gN q = fN q) (h2 : ∀ j : Nat, (j : Int) < ns.toInt → gN (30 * i + j) = vp_nar .byte (fX j)) (hX : ∀ j : Nat, (j : Int) < ns.toInt → 43 ≤ (fX j).toInt ∧ (fX j).toInt ≤ 122)
    (hth : ∀ k : Nat, 1 ≤ k → (k : Int) < n → (fP k).toInt = inn.toInt → ¬ ((fNS k).toInt = ns.toInt ∧ ∀ j : Nat, (j : Int) < ns.toInt → nmF fN fNS k j = (fX j).toInt)) : TU (n + 1) gP gN gNS := by
  have new := nmF_new e3 h2 hX
  have old : ∀ a, a < i → ∀ j, j < 30 → nmF gN gNS a j = nmF fN fNS a j := fun a ha j hj => nmF_old e3 h1 ha hj
  have nsO : ∀ a, a ≠ i → gNS a = fNS a := fun a ha => by rw [e3]; unfold upd; rw [if_neg ha]
  have pO : ∀ a, a ≠ i → gP a = fP a := fun a ha => by rw [e2]; unfold upd; rw [if_neg ha]
  have pN : gP i = inn := by rw [e2]; unfold upd; rw [if_pos rfl]
  have key : ∀ a : Nat, 1 ≤ a → (a : Int) < n → gP a = gP i → ¬ ∀ j, j < 30 → nmF gN gNS a j = nmF gN gNS i j := by
    intro a ha1 ha hp hall
    have hai : a < i := by omega
    rw [pO a (by omega), pN] at hp
    have hrg := hR a (by omega)
    have hsz : (fNS a).toInt = ns.toInt := by
      rcases Int.lt_trichotomy (fNS a).toInt ns.toInt with hlt | he | hgt
      · exfalso
        have h3 := hall (fNS a).toInt.toNat (by omega)
        rw [old a hai _ (by omega), new, if_pos (by omega)] at h3
        have h4 : nmF fN fNS a (fNS a).toInt.toNat = 0 := by unfold nmF; rw [if_neg (by omega)]
        have h5 := hX (fNS a).toInt.toNat (by omega)
        omega
      · exact he
      · exfalso
        have h3 := hall ns.toInt.toNat (by omega)
        rw [old a hai _ (by omega), new, if_neg (by omega)] at h3
        exact h.1 a ha ns.toInt.toNat (by omega) h3
    refine hth a ha1 ha (by rw [hp]) ⟨hsz, fun j hj => ?_⟩
    have h3 := hall j (by omega)
    rw [old a hai _ (by omega), new, if_pos hj] at h3
    exact h3
  refine ⟨fun a ha j hj => ?_, fun a b ha1 ha hb1 hb hp hab hall => ?_⟩
  · by_cases e : a = i
    · subst e
      have e4 : gNS a = ns := by rw [e3]; unfold upd; rw [if_pos rfl]
      rw [e4] at hj
      rw [new, if_pos hj]
      have := hX j hj
      omega
    · rw [nsO a e] at hj
      have hrg := hR a (by omega)
      rw [old a (by omega) j (by omega)]
      exact h.1 a (by omega) j hj
  · by_cases ea : a = i
    · rw [ea] at hp hall
      exact key b hb1 (by omega) hp.symm (fun j hj => (hall j hj).symm)
    · by_cases eb : b = i
      · rw [eb] at hp hall
        exact key a ha1 (by omega) hp hall
      · rw [pO a ea, pO b eb] at hp
        exact h.2 a b ha1 (by omega) hb1 (by omega) hp hab (fun j hj => by
          have := hall j hj
          rw [old a (by omega) j hj, old b (by omega) j hj] at this
          exact this)
theorem TI.szset {n : Int} {fK fP fNS fSz fTS gSz : Nat → Int32} {i : Nat} {x : Int32} (h : TI n fK fP fNS fSz fTS) (e : gSz = upd fSz i x) (h1 : 0 ≤ x.toInt ∧ x.toInt ≤ 4100) : TI n fK fP fNS gSz fTS :=
  ⟨h.n1, h.kk, h.ns, Rg_upd e h.sz h1.1 h1.2, h.ts, h.pp, h.cc, h.k0⟩
