def Cand (fK fP : Nat → Int32) (t d : Int) (j : Nat) : Prop := (fP j).toInt = d ∧ (t = 0 ∨ (fK j).toInt ≠ 2)
def Fol (K : Nat → Nat → Int) (nl : Nat) (z : Int) (j : Nat) : Prop := z < 0 ∨ LX K nl z.toNat j
/-- what 'next' answers, having looked at those below N -/
def NextP (K : Nat → Nat → Int) (nl : Nat) (fK fP : Nat → Int32) (t d z N r : Int) : Prop :=
  (r = -1 ∧ ∀ j : Nat, 1 ≤ j → (j : Int) < N → Cand fK fP t d j → ¬ Fol K nl z j) ∨
  (1 ≤ r ∧ r < N ∧ Cand fK fP t d r.toNat ∧ Fol K nl z r.toNat ∧ ∀ j : Nat, 1 ≤ j → (j : Int) < N → Cand fK fP t d j → Fol K nl z j → ¬ LX K nl j r.toNat)
theorem NextP_0 {K : Nat → Nat → Int} {nl : Nat} {fK fP : Nat → Int32} {t d z r N : Int} (hr : r = -1) (hN : N ≤ 1) : NextP K nl fK fP t d z N r := Or.inl ⟨hr, fun j h1 h2 => by omega⟩
theorem NextP_no {K : Nat → Nat → Int} {nl : Nat} {fK fP : Nat → Int32} {t d z r N : Int} {k : Nat} (h : NextP K nl fK fP t d z N r) (hk : (k : Int) = N) (hn : ¬ (Cand fK fP t d k ∧ Fol K nl z k)) : NextP K nl fK fP t d z (N + 1) r := by
  rcases h with ⟨h1, h2⟩ | ⟨h1, h2, h3, h4, h5⟩
  · refine Or.inl ⟨h1, fun j hj1 hj hc hf => ?_⟩
    by_cases e : j = k
    · subst e; exact hn ⟨hc, hf⟩
    · exact h2 j hj1 (by omega) hc hf
  · refine Or.inr ⟨h1, by omega, h3, h4, fun j hj1 hj hc hf => ?_⟩
    by_cases e : j = k
    · subst e; exact (hn ⟨hc, hf⟩).elim
    · exact h5 j hj1 (by omega) hc hf
theorem NextP_keep {K : Nat → Nat → Int} {nl : Nat} {fK fP : Nat → Int32} {t d z r N : Int} {k : Nat} (h : NextP K nl fK fP t d z N r) (hk : (k : Int) = N) (hr : 0 ≤ r) (hl : ¬ LX K nl k r.toNat) : NextP K nl fK fP t d z (N + 1) r := by
  rcases h with ⟨h1, h2⟩ | ⟨h1, h2, h3, h4, h5⟩
  · omega
  · refine Or.inr ⟨h1, by omega, h3, h4, fun j hj1 hj hc hf => ?_⟩
    by_cases e : j = k
    · subst e; exact hl
    · exact h5 j hj1 (by omega) hc hf
theorem NextP_take {K : Nat → Nat → Int} {nl : Nat} {fK fP : Nat → Int32} {t d z r N : Int} {k : Nat} (h : NextP K nl fK fP t d z N r) (hk : (k : Int) = N) (h0 : 1 ≤ k) (hc : Cand fK fP t d k) (hf : Fol K nl z k) (hl : r < 0 ∨ LX K nl k r.toNat) : NextP K nl fK fP t d z (N + 1) k := by
  refine Or.inr ⟨by omega, by omega, by rw [show (k : Int).toNat = k by omega]; exact hc, by rw [show (k : Int).toNat = k by omega]; exact hf, fun j hj1 hj hcj hfj hlj => ?_⟩
  rw [show (k : Int).toNat = k by omega] at hlj
  by_cases e : j = k
  · subst e; exact LX_irr hlj
  · rcases h with ⟨h1, h2⟩ | ⟨h1, h2, h3, h4, h5⟩
    · exact h2 j hj1 (by omega) hcj hfj
    · rcases hl with hl | hl
      · omega
      · exact h5 j hj1 (by omega) hcj hfj (LX_trans hlj hl)
/-- among the children of one directory any two differ in their keys -/
def UN (K : Nat → Nat → Int) (nl : Nat) (fP : Nat → Int32) (N : Int) : Prop := ∀ a b : Nat, 1 ≤ a → (a : Int) < N → 1 ≤ b → (b : Int) < N → fP a = fP b → a ≠ b → LX K nl a b ∨ LX K nl b a
def tbv (fTb : Nat → Int32) (t j : Nat) : Int := (fTb (12 * t + j)).toInt
def TBi (t : Nat) (N : Int) (fK fP fTb : Nat → Int32) (n i : Nat) (C E : Nat → Prop) : Prop :=
  (1 ≤ n ∧ n ≤ 12) ∧ tbv fTb t 0 = 0 ∧ (∀ j, j < n → 0 ≤ tbv fTb t j ∧ tbv fTb t j < N ∧ (fK (tbv fTb t j).toNat).toInt = 0) ∧
  (∀ a b, a < n → b < n → tbv fTb t a = tbv fTb t b → a = b) ∧
  (∀ j, 1 ≤ j → j < n → ∃ i', i' < n ∧ (fP (tbv fTb t j).toNat).toInt = tbv fTb t i' ∧ (i' < i ∨ (i' = i ∧ C (tbv fTb t j).toNat))) ∧
  (∀ q : Nat, 1 ≤ q → (q : Int) < N → (fK q).toInt = 0 → ∀ i', i' < n → (fP q).toInt = tbv fTb t i' → i' < i ∨ (i' = i ∧ ¬ E q) → ∃ j, j < n ∧ tbv fTb t j = q)
section
variable {t : Nat} {N : Int} {fK fP fTb : Nat → Int32} {n i : Nat} {C E : Nat → Prop}
theorem TBi.n1 (h : TBi t N fK fP fTb n i C E) : 1 ≤ n ∧ n ≤ 12 := h.1
theorem TBi.z0 (h : TBi t N fK fP fTb n i C E) : tbv fTb t 0 = 0 := h.2.1
theorem TBi.rg (h : TBi t N fK fP fTb n i C E) : ∀ j, j < n → 0 ≤ tbv fTb t j ∧ tbv fTb t j < N ∧ (fK (tbv fTb t j).toNat).toInt = 0 := h.2.2.1
theorem TBi.inj (h : TBi t N fK fP fTb n i C E) : ∀ a b, a < n → b < n → tbv fTb t a = tbv fTb t b → a = b := h.2.2.2.1
theorem TBi.up (h : TBi t N fK fP fTb n i C E) : ∀ j, 1 ≤ j → j < n → ∃ i', i' < n ∧ (fP (tbv fTb t j).toNat).toInt = tbv fTb t i' ∧ (i' < i ∨ (i' = i ∧ C (tbv fTb t j).toNat)) := h.2.2.2.2.1
theorem TBi.all (h : TBi t N fK fP fTb n i C E) : ∀ q : Nat, 1 ≤ q → (q : Int) < N → (fK q).toInt = 0 → ∀ i', i' < n → (fP q).toInt = tbv fTb t i' → i' < i ∨ (i' = i ∧ ¬ E q) → ∃ j, j < n ∧ tbv fTb t j = q := h.2.2.2.2.2
end
theorem cntK_cP (f : Nat → Int32) (n : Nat) : cP (fun q => (f q).toInt = 0) n = cntK f n := by
  induction n with
  | zero => rfl
  | succ n ih =>
    simp only [cP, cntK]
    rw [ih]
    by_cases h : (f n).toInt = 0
    · rw [if_pos h, if_pos h]
    · rw [if_neg h, if_neg h]
/-- a directory more: at most as many as there are -/
theorem TBi.room {t : Nat} {N : Int} {fK fP fTb : Nat → Int32} {n i : Nat} {C E : Nat → Prop} (h : TBi t N fK fP fTb n i C E) {k : Nat} (hkN : (k : Int) < N) (hk : (fK k).toInt = 0) (hnew : ∀ j, j < n → tbv fTb t j ≠ k) (hc : cntK fK N.toNat ≤ 12) : n < 12 := by
  have := cP_inj (p := fun q => (fK q).toInt = 0) N.toNat (n + 1) (fun j => if j = n then k else (tbv fTb t j).toNat) (fun j hj => by
    by_cases e : j = n
    · simp only [if_pos e]; exact ⟨by omega, hk⟩
    · simp only [if_neg e]
      have := h.rg j (by omega)
      exact ⟨by omega, this.2.2⟩) (fun a b ha hb e => by
    by_cases ea : a = n
    · by_cases eb : b = n
      · omega
      · simp only [if_pos ea, if_neg eb] at e
        have := h.rg b (by omega)
        exact (hnew b (by omega) (by omega)).elim
    · by_cases eb : b = n
      · simp only [if_neg ea, if_pos eb] at e
        have := h.rg a (by omega)
        exact (hnew a (by omega) (by omega)).elim
      · simp only [if_neg ea, if_neg eb] at e
        have h1 := h.rg a (by omega)
        have h2 := h.rg b (by omega)
        exact h.inj a b (by omega) (by omega) (by omega))
  rw [cntK_cP] at this
  omega
theorem TBi.new {t : Nat} {N : Int} {fK fP fTb : Nat → Int32} {n i k : Nat} {K : Nat → Nat → Int} {nl : Nat} {C E : Nat → Prop} (h : TBi t N fK fP fTb n i C E) (hC : ∀ q, C q → LX K nl q k) (hi : i < n) (h1 : 1 ≤ k) (hp : (fP k).toInt = tbv fTb t i) : ∀ j, j < n → tbv fTb t j ≠ k := by
  intro j hj e
  rcases Nat.eq_zero_or_pos j with h0 | h0
  · subst h0
    have := h.z0
    omega
  · obtain ⟨i', hi', e1, e2⟩ := h.up j h0 hj
    rw [e, show ((k : Int)).toNat = k by omega, hp] at e1
    have := h.inj i i' hi hi' e1
    subst this
    rcases e2 with e2 | ⟨-, e2⟩
    · omega
    · rw [e, show ((k : Int)).toNat = k by omega] at e2
      exact LX_irr (hC _ e2)
theorem TBi.push {t : Nat} {N : Int} {fK fP fTb gTb : Nat → Int32} {n i k : Nat} {kv : Int32} {C E C2 E2 : Nat → Prop} (h : TBi t N fK fP fTb n i C E) (hn : n < 12) (hi : i < n) (hkv : kv.toInt = k) (hkN : (k : Int) < N) (hk : (fK k).toInt = 0) (hnew : ∀ j, j < n → tbv fTb t j ≠ k) (hp : (fP k).toInt = tbv fTb t i) (e : gTb = upd fTb (12 * t + n) kv)
    (hC : ∀ q, C q ∨ q = k → C2 q) (hE : ∀ q : Nat, 1 ≤ q → (q : Int) < N → (fK q).toInt = 0 → (fP q).toInt = tbv fTb t i → ¬ E2 q → ¬ E q ∨ q = k) : TBi t N fK fP gTb (n + 1) i C2 E2 := by
  have old : ∀ j, j < n → tbv gTb t j = tbv fTb t j := fun j hj => by unfold tbv; rw [e]; unfold upd; rw [if_neg (by omega)]
  have new : tbv gTb t n = k := by unfold tbv; rw [e]; unfold upd; rw [if_pos rfl]; exact hkv
  refine ⟨⟨by omega, by omega⟩, by rw [old 0 (by have := h.n1; omega)]; exact h.z0, fun j hj => ?_, fun a b ha hb hab => ?_, fun j h1 hj => ?_, fun q h1 h2 h3 i' hi' h4 h5 => ?_⟩
  · by_cases ej : j = n
    · subst ej
      rw [new, show ((k : Int)).toNat = k by omega]
      exact ⟨by omega, hkN, hk⟩
    · rw [old j (by omega)]; exact h.rg j (by omega)
  · by_cases ea : a = n
    · by_cases eb : b = n
      · omega
      · rw [ea, new, old b (by omega)] at hab
        exact (hnew b (by omega) hab.symm).elim
    · by_cases eb : b = n
      · rw [eb, new, old a (by omega)] at hab
        exact (hnew a (by omega) hab).elim
      · rw [old a (by omega), old b (by omega)] at hab
        exact h.inj a b (by omega) (by omega) hab
  · by_cases ej : j = n
    · subst ej
      refine ⟨i, by omega, ?_, Or.inr ⟨rfl, ?_⟩⟩
      · rw [new, show ((k : Int)).toNat = k by omega, old i hi]; exact hp
      · rw [new, show ((k : Int)).toNat = k by omega]; exact hC k (Or.inr rfl)
    · obtain ⟨i', hi', e1, e2⟩ := h.up j h1 (by omega)
      refine ⟨i', by omega, ?_, ?_⟩
      · rw [old j (by omega), old i' hi']; exact e1
      · rw [old j (by omega)]
        rcases e2 with e2 | ⟨e2, e3⟩
        · exact Or.inl e2
        · exact Or.inr ⟨e2, hC _ (Or.inl e3)⟩
  · by_cases eq : q = k
    · exact ⟨n, by omega, by rw [new, eq]⟩
    · by_cases ei : i' = n
      · omega
      · rw [old i' (by omega)] at h4
        obtain ⟨j, hj, e1⟩ := h.all q h1 h2 h3 i' (by omega) h4 (by
          rcases h5 with h5 | ⟨h5, h6⟩
          · exact Or.inl h5
          · rcases hE q h1 h2 h3 (by rw [← h5]; exact h4) h6 with h7 | h7
            · exact Or.inr ⟨h5, h7⟩
            · exact (eq h7).elim)
        exact ⟨j, by omega, by rw [old j hj]; exact e1⟩
theorem TBi.to {t : Nat} {N : Int} {fK fP fTb : Nat → Int32} {n i : Nat} {C E C2 E2 : Nat → Prop} (h : TBi t N fK fP fTb n i C E) (hC : ∀ q, C q → C2 q) (hE : ∀ q : Nat, 1 ≤ q → (q : Int) < N → (fK q).toInt = 0 → (fP q).toInt = tbv fTb t i → ¬ E2 q → ¬ E q) : TBi t N fK fP fTb n i C2 E2 :=
  ⟨h.n1, h.z0, h.rg, h.inj, fun j h1 hj => by
      obtain ⟨i', hi', e1, e2⟩ := h.up j h1 hj
      exact ⟨i', hi', e1, e2.imp id (fun q => ⟨q.1, hC _ q.2⟩)⟩,
    fun q h1 h2 h3 i' hi' h4 h5 => h.all q h1 h2 h3 i' hi' h4 (by
      rcases h5 with h5 | ⟨h5, h6⟩
      · exact Or.inl h5
      · subst h5; exact Or.inr ⟨rfl, hE q h1 h2 h3 h4 h6⟩)⟩
theorem TBi.done {t : Nat} {N : Int} {fK fP fTb : Nat → Int32} {n i : Nat} {C E : Nat → Prop} (h : TBi t N fK fP fTb n i C E) (hE : ∀ q, ¬ E q) : TBi t N fK fP fTb n (i + 1) (fun _ => False) (fun _ => True) :=
  ⟨h.n1, h.z0, h.rg, h.inj, fun j h1 hj => by
      obtain ⟨i', hi', e1, e2⟩ := h.up j h1 hj
      exact ⟨i', hi', e1, Or.inl (by rcases e2 with e2 | e2 <;> omega)⟩,
    fun q h1 h2 h3 i' hi' h4 h5 => h.all q h1 h2 h3 i' hi' h4 (by
      rcases h5 with h5 | ⟨-, h6⟩
      · by_cases e : i' = i
        · exact Or.inr ⟨e, hE q⟩
        · exact Or.inl (by omega)
      · exact (h6 trivial).elim)⟩
/-- all directories stand in the table -/
theorem TBi.full {t : Nat} {N : Int} {fK fP fTb fNS fSz fTS : Nat → Int32} {n : Nat} {E : Nat → Prop} (h : TBi t N fK fP fTb n n (fun _ => False) E) (hT : TI N fK fP fNS fSz fTS) : ∀ q : Nat, (q : Int) < N → (fK q).toInt = 0 → ∃ j, j < n ∧ tbv fTb t j = q := by
  intro q
  induction q using Nat.strongRecOn with
  | _ q ih =>
    intro hq hk
    rcases Nat.eq_zero_or_pos q with h0 | h0
    · subst h0
      exact ⟨0, by have := h.n1; omega, h.z0⟩
    · obtain ⟨p1, p2, p3⟩ := hT.pp q h0 hq
      have hc := i_cl p1
      obtain ⟨j, hj, e⟩ := ih (fP q).toNatClampNeg (by omega) (by omega) p3
      exact h.all q h0 hq hk j hj (by omega) (Or.inl hj)
theorem TBi.count {t : Nat} {N : Int} {fK fP fTb fNS fSz fTS : Nat → Int32} {n : Nat} {E : Nat → Prop} (h : TBi t N fK fP fTb n n (fun _ => False) E) (hT : TI N fK fP fNS fSz fTS) : n = cntK fK N.toNat := by
  have h1 : n ≤ cP (fun q => (fK q).toInt = 0) N.toNat := cP_inj N.toNat n (fun j => (tbv fTb t j).toNat) (fun j hj => by have := h.rg j hj; exact ⟨by omega, this.2.2⟩) (fun a b ha hb e => by
    have e : (tbv fTb t a).toNat = (tbv fTb t b).toNat := e
    have q1 := h.rg a ha
    have q2 := h.rg b hb
    exact h.inj a b ha hb (by omega))
  have h2 : ∀ m : Nat, m ≤ N.toNat → cP (fun q => (fK q).toInt = 0) m ≤ cP (fun j => tbv fTb t j < m) n := by
    intro m
    induction m with
    | zero => intro _; simp only [cP]; omega
    | succ m ih =>
      intro hm
      simp only [cP]
      have i1 := ih (by omega)
      have mono : cP (fun j => tbv fTb t j < (m : Int)) n ≤ cP (fun j => tbv fTb t j < ((m + 1 : Nat) : Int)) n := cP_mono (fun k _ hk => by omega)
      by_cases hk : (fK m).toInt = 0
      · rw [if_pos hk]
        obtain ⟨j, hj, e⟩ := h.full hT m (by omega) hk
        have := cP_lt (p := fun j => tbv fTb t j < (m : Int)) (q := fun j => tbv fTb t j < ((m + 1 : Nat) : Int)) (n := n) (x := j) (fun k _ hk => by omega) hj (by omega) (by omega)
        omega
      · rw [if_neg hk]; omega
  have h3 := h2 N.toNat (Nat.le_refl _)
  have h4 := cP_le (fun j => tbv fTb t j < (N.toNat : Int)) n
  rw [cntK_cP] at h1 h3
  omega
def Cq (K : Nat → Nat → Int) (nl : Nat) (k : Int) (q : Nat) : Prop := k < 0 ∨ LX K nl q k.toNat
theorem Cq_ge {K : Nat → Nat → Int} {nl : Nat} {k : Int} {q : Nat} (h : Cq K nl k q) (hk : 0 ≤ k) : LX K nl q k.toNat := by
  rcases h with h | h
  · omega
  · exact h
def Eq_ (K : Nat → Nat → Int) (nl : Nat) (k : Int) (q : Nat) : Prop := 0 ≤ k ∧ (q = k.toNat ∨ LX K nl k.toNat q)
theorem next_E {K : Nat → Nat → Int} {nl : Nat} {fK fP : Nat → Int32} {t d z N r : Int} (h : NextP K nl fK fP t d z N r) (hU : UN K nl fP N) {q : Nat} (h1 : 1 ≤ q) (h2 : (q : Int) < N) (hk : (fK q).toInt = 0) (hp : (fP q).toInt = d) (hf : Fol K nl z q) : Eq_ K nl r q := by
  have hc : Cand fK fP t d q := ⟨hp, Or.inr (by omega)⟩
  rcases h with ⟨-, h⟩ | ⟨r1, r2, r3, r4, r5⟩
  · exact (h q h1 h2 hc hf).elim
  · refine ⟨by omega, ?_⟩
    by_cases e : q = r.toNat
    · exact Or.inl e
    · rcases hU q r.toNat h1 h2 (by omega) (by omega) (Int32.toInt_inj.mp (hp.trans r3.1.symm)) e with h6 | h6
      · exact (r5 q h1 h2 hc hf h6).elim
      · exact Or.inr h6
theorem next_C {K : Nat → Nat → Int} {nl : Nat} {fK fP : Nat → Int32} {t d z N r : Int} (h : NextP K nl fK fP t d z N r) (hz : 0 ≤ z) {q : Nat} (hq : q = z.toNat ∨ LX K nl q z.toNat) : Cq K nl r q := by
  rcases h with ⟨h, -⟩ | ⟨r1, r2, r3, r4, r5⟩
  · exact Or.inl (by omega)
  · refine Or.inr ?_
    rcases r4 with r4 | r4
    · omega
    · rcases hq with hq | hq
      · rw [hq]; exact r4
      · exact LX_trans hq r4
theorem TBi.first {t : Nat} {N : Int} {fK fP fTb : Nat → Int32} {n i : Nat} {K : Nat → Nat → Int} {nl : Nat} {tt d r : Int} (h : TBi t N fK fP fTb n i (fun _ => False) (fun _ => True)) (hN : NextP K nl fK fP tt d (-1) N r) (hU : UN K nl fP N) (hd : d = tbv fTb t i) : TBi t N fK fP fTb n i (Cq K nl r) (Eq_ K nl r) :=
  h.to (fun q hq => hq.elim) (fun q h1 h2 h3 h4 h5 => (h5 (next_E hN hU h1 h2 h3 (h4.trans hd.symm) (Or.inl (by omega)))).elim)
theorem TBi.skip {t : Nat} {N : Int} {fK fP fTb : Nat → Int32} {n i : Nat} {K : Nat → Nat → Int} {nl : Nat} {tt d k r : Int} (h : TBi t N fK fP fTb n i (Cq K nl k) (Eq_ K nl k)) (hN : NextP K nl fK fP tt d k N r) (hU : UN K nl fP N) (hd : d = tbv fTb t i) (hk : 0 ≤ k) (hkk : (fK k.toNat).toInt ≠ 0) : TBi t N fK fP fTb n i (Cq K nl r) (Eq_ K nl r) :=
  h.to (fun q hq => next_C hN hk (Or.inr (Cq_ge hq (by omega)))) (fun q h1 h2 h3 h4 h5 h6 => by
    rcases h6.2 with h7 | h7
    · rw [← h7] at hkk; exact hkk h3
    · exact h5 (next_E hN hU h1 h2 h3 (h4.trans hd.symm) (Or.inr h7)))
theorem TBi.add {t : Nat} {N : Int} {fK fP fTb gTb : Nat → Int32} {n i : Nat} {kv : Int32} {K : Nat → Nat → Int} {nl : Nat} {tt d k r : Int} (h : TBi t N fK fP fTb n i (Cq K nl k) (Eq_ K nl k)) (hN : NextP K nl fK fP tt d k N r) (hU : UN K nl fP N) (hd : d = tbv fTb t i) (hk1 : 1 ≤ k) (hkN : k < N) (hkk : (fK k.toNat).toInt = 0) (hp : (fP k.toNat).toInt = d) (hi : i < n) (hn : n < 12) (hkv : kv.toInt = k) (e : gTb = upd fTb (12 * t + n) kv) : TBi t N fK fP gTb (n + 1) i (Cq K nl r) (Eq_ K nl r) := by
  have hnew := h.new (K := K) (nl := nl) (k := k.toNat) (fun q hq => Cq_ge hq (by omega)) hi (by omega) (hp.trans hd)
  refine h.push (k := k.toNat) hn hi (by omega) (by omega) hkk hnew (hp.trans hd) e (fun q hq => next_C hN (by omega) ?_) (fun q h1 h2 h3 h4 h5 => ?_)
  · rcases hq with hq | hq
    · rcases hq with hq | hq
      · omega
      · exact Or.inr hq
    · exact Or.inl hq
  · by_cases eq : q = k.toNat
    · exact Or.inr eq
    · refine Or.inl (fun h6 => ?_)
      rcases h6.2 with h7 | h7
      · exact eq h7
      · exact h5 (next_E hN hU h1 h2 h3 (h4.trans hd.symm) (Or.inr h7))
theorem TBi.fits {t : Nat} {N : Int} {fK fP fTb : Nat → Int32} {n i : Nat} {K : Nat → Nat → Int} {nl : Nat} {d k : Int} (h : TBi t N fK fP fTb n i (Cq K nl k) (Eq_ K nl k)) (hd : d = tbv fTb t i) (hk1 : 1 ≤ k) (hkN : k < N) (hkk : (fK k.toNat).toInt = 0) (hp : (fP k.toNat).toInt = d) (hi : i < n) (hc : cntK fK N.toNat ≤ 12) : n < 12 :=
  h.room (k := k.toNat) (by omega) hkk (h.new (K := K) (nl := nl) (k := k.toNat) (fun q hq => Cq_ge hq (by omega)) hi (by omega) (hp.trans hd)) hc
theorem next_rest {K : Nat → Nat → Int} {nl : Nat} {fK fP : Nat → Int32} {t d z N r : Int} (h : NextP K nl fK fP t d z N r) (hr : 0 ≤ r) : rest K nl fP d r N.toNat + 1 ≤ rest K nl fP d z N.toNat := by
  rcases h with ⟨h, -⟩ | ⟨r1, r2, r3, r4, r5⟩
  · omega
  · exact rest_next (by omega) (by omega) ⟨by omega, r3.1, r4⟩
theorem next_par {K : Nat → Nat → Int} {nl : Nat} {fK fP : Nat → Int32} {t d z N r : Int} (h : NextP K nl fK fP t d z N r) : (r = -1) ∨ (1 ≤ r ∧ r < N ∧ (fP r.toNat).toInt = d) := by
  rcases h with ⟨h, -⟩ | ⟨r1, r2, r3, r4, r5⟩
  · exact Or.inl h
  · exact Or.inr ⟨r1, r2, r3.1⟩
theorem TBi_0 {t : Nat} {N : Int} {fK fP fTb : Nat → Int32} {n i : Nat} (hn : n = 1) (hi : i = 0) (hz : (fTb (12 * t)).toInt = 0) (hk : (fK 0).toInt = 0) (hN : 1 ≤ N) : TBi t N fK fP fTb n i (fun _ => False) (fun _ => True) := by
  subst hn; subst hi
  have z : tbv fTb t 0 = 0 := hz
  refine ⟨⟨by omega, by omega⟩, z, fun j hj => ?_, fun a b ha hb _ => by omega, fun j h1 hj => by omega, fun q h1 h2 h3 i' hi' h4 h5 => ?_⟩
  · obtain rfl : j = 0 := by omega
    rw [z]
    exact ⟨by omega, by omega, hk⟩
  · rcases h5 with h5 | ⟨-, h5⟩
    · omega
    · exact (h5 trivial).elim
theorem numb {fTb : Nat → Int32} {t i k : Nat} {y : Int} {v : Int32} (h : ∃ j : Nat, i ≤ j ∧ j < 12 ∧ tbv fTb t j = y) (e : v = fTb (12 * t + i)) (hv : ¬ v.toInt = y) (hk : k = i + 1) : (∃ j : Nat, k ≤ j ∧ j < 12 ∧ tbv fTb t j = y) ∧ k < 12 := by
  obtain ⟨j, h1, h2, h3⟩ := h
  have h4 : j ≠ i := fun h5 => hv (by rw [e, ← h5]; exact h3)
  exact ⟨⟨j, by omega, h2, h3⟩, by omega⟩
