theorem LX_total {K : Nat → Nat → Int} {n a b : Nat} (h : ¬ ∀ j, j < n → K a j = K b j) : LX K n a b ∨ LX K n b a := by
  induction n with
  | zero => exact (h (fun j hj => by omega)).elim
  | succ n ih =>
    by_cases h1 : ∀ j, j < n → K a j = K b j
    · have h2 : K a n ≠ K b n := fun e => h (fun j hj => by
        by_cases ej : j = n
        · rw [ej]; exact e
        · exact h1 j (by omega))
      rcases Int.lt_trichotomy (K a n) (K b n) with h3 | h3 | h3
      · exact Or.inl ⟨n, by omega, h1, h3⟩
      · exact (h2 h3).elim
      · exact Or.inr ⟨n, by omega, fun j hj => (h1 j hj).symm, h3⟩
    · rcases ih h1 with ⟨i, hi, h2⟩ | ⟨i, hi, h2⟩
      · exact Or.inl ⟨i, by omega, h2⟩
      · exact Or.inr ⟨i, by omega, h2⟩
/-- the keys below k differ, within a directory -/
def UK (k : Int) (fP : Nat → Int32) (K : Nat → Nat → Int) : Prop := ∀ a b : Nat, 1 ≤ a → a < b → (b : Int) < k → fP a = fP b → ¬ ∀ j, j < 11 → K a j = K b j
theorem UK_0 {k : Int} {fP : Nat → Int32} {K : Nat → Nat → Int} (h : k ≤ 1) : UK k fP K := fun a b h1 h2 h3 => by omega
theorem UK_push {k : Int} {i : Nat} {fP : Nat → Int32} {K K2 : Nat → Nat → Int} (h : UK k fP K) (hi : (i : Int) = k) (ho : ∀ q, q ≠ i → ∀ j, j < 11 → K2 q j = K q j) (hn : ∀ q : Nat, 1 ≤ q → (q : Int) < k → fP q = fP i → ¬ ∀ j, j < 11 → K2 q j = K2 i j) : UK (k + 1) fP K2 := by
  intro a b h1 h2 h3 h4 h5
  by_cases e : b = i
  · subst e; exact hn a h1 (by omega) h4 h5
  · exact h a b h1 h2 (by omega) h4 (fun j hj => by
      have := h5 j hj
      rw [ho a (by omega) j hj, ho b e j hj] at this
      exact this)
theorem UN_0 {N : Int} {fP fN fNS fBa fBs fEx fEs : Nat → Int32} (h : UK N fP (kyF fBa fBs fEx fEs)) : UN (KF 0 fN fNS fBa fBs fEx fEs) (NL 0) fP N := by
  intro a b h1 h2 h3 h4 h5 h6
  rw [KF_0 rfl, NL_0 rfl]
  rcases Nat.lt_or_ge a b with h7 | h7
  · exact LX_total (h a b h1 h7 h4 h5)
  · rcases LX_total (h b a h3 (by omega) h2 h5.symm) with h8 | h8
    · exact Or.inr h8
    · exact Or.inl h8
theorem UN_1 {N : Int} {fP fN fNS fBa fBs fEx fEs : Nat → Int32} (h : TU N fP fN fNS) : UN (KF 1 fN fNS fBa fBs fEx fEs) (NL 1) fP N := by
  intro a b h1 h2 h3 h4 h5 h6
  rw [KF_1 (by decide), NL_1 (by decide)]
  exact LX_total (h.2 a b h1 h2 h3 h4 h5 h6)
def cntF (f : Nat → Int32) : Nat → Nat
  | 0 => 0
  | n + 1 => cntF f n + (if (f n).toInt = 1 then 1 else 0)
theorem cntF_le (f : Nat → Int32) (n : Nat) : cntK f n + cntF f n ≤ n := by
  induction n with
  | zero => exact Nat.le_refl _
  | succ n ih =>
    simp only [cntK, cntF]
    by_cases h0 : (f n).toInt = 0
    · rw [if_pos h0, if_neg (by omega)]; omega
    · rw [if_neg h0]; split <;> omega
theorem TBi.par {t : Nat} {N : Int} {fK fP fTb : Nat → Int32} {n i : Nat} {C E : Nat → Prop} (h : TBi t N fK fP fTb n i C E) {j : Nat} (hj : j < n) (h0 : tbv fTb t j ≠ 0) : ∃ i' : Nat, i' < 12 ∧ tbv fTb t i' = (fP (tbv fTb t j).toNat).toInt := by
  have hn := h.n1
  rcases Nat.eq_zero_or_pos j with e | e
  · subst e; exact (h0 h.z0).elim
  · obtain ⟨i', h1, h2, -⟩ := h.up j e hj
    exact ⟨i', by omega, h2.symm⟩
theorem cntF_mono (f : Nat → Int32) {k n : Nat} (h : k ≤ n) : cntF f k ≤ cntF f n := by
  induction n with
  | zero => rw [show k = 0 by omega]; exact Nat.le_refl _
  | succ n ih =>
    by_cases e : k = n + 1
    · rw [e]; exact Nat.le_refl _
    · have := ih (by omega)
      simp only [cntF]
      omega
theorem TBi_congr {t : Nat} {N : Int} {fK fP fTb gTb : Nat → Int32} {n i : Nat} {C E : Nat → Prop} (h : TBi t N fK fP fTb n i C E) (hg : ∀ j, j < 12 → gTb (12 * t + j) = fTb (12 * t + j)) : TBi t N fK fP gTb n i C E := by
  have hn := h.n1
  have e : ∀ j, j < n → tbv gTb t j = tbv fTb t j := fun j hj => by unfold tbv; rw [hg j (by omega)]
  refine ⟨hn, by rw [e 0 (by omega)]; exact h.z0, fun j hj => by rw [e j hj]; exact h.rg j hj, fun a b ha hb hab => h.inj a b ha hb (by rw [← e a ha, ← e b hb]; exact hab), fun j h1 hj => ?_, fun q h1 h2 h3 i' hi' h4 h5 => ?_⟩
  · obtain ⟨i', q1, q2, q3⟩ := h.up j h1 hj
    refine ⟨i', q1, ?_, ?_⟩
    · rw [e j hj, e i' q1]; exact q2
    · rw [e j hj]; exact q3
  · rw [e i' hi'] at h4
    obtain ⟨j, hj, q⟩ := h.all q h1 h2 h3 i' hi' h4 h5
    exact ⟨j, hj, by rw [e j hj]; exact q⟩
theorem tb_both {N : Int} {fK fP fTb : Nat → Int32} {dr : Int32} {C0 E0 C1 E1 : Nat → Prop} {i0 i1 : Nat} (h0 : TBi 0 N fK fP fTb dr.toNatClampNeg i0 C0 E0) (h1 : TBi 1 N fK fP fTb dr.toNatClampNeg i1 C1 E1) (hd : 0 ≤ dr.toInt) (hN : N ≤ 40) : ∀ t : Nat, t < 2 → ∀ j : Nat, (j : Int) < dr.toInt → 0 ≤ tbv fTb t j ∧ tbv fTb t j < 40 := by
  intro t ht j hj
  have hc := i_cl hd
  rcases (show t = 0 ∨ t = 1 by omega) with e | e
  · subst e; have := h0.rg j (by omega); omega
  · subst e; have := h1.rg j (by omega); omega
