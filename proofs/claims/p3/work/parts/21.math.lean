/-- an order by the first place at which two rows differ -/
def LX (K : Nat → Nat → Int) (n a b : Nat) : Prop := ∃ i, i < n ∧ (∀ j, j < i → K a j = K b j) ∧ K a i < K b i
theorem LX_irr {K : Nat → Nat → Int} {n a : Nat} (h : LX K n a a) : False := by
  obtain ⟨i, -, -, h⟩ := h
  omega
theorem LX_trans {K : Nat → Nat → Int} {n a b c : Nat} (h1 : LX K n a b) (h2 : LX K n b c) : LX K n a c := by
  obtain ⟨i, hi, ei, li⟩ := h1
  obtain ⟨j, hj, ej, lj⟩ := h2
  rcases Nat.lt_trichotomy i j with h | h | h
  · exact ⟨i, hi, fun k hk => (ei k hk).trans (ej k (by omega)), by rw [← ej i h]; exact li⟩
  · subst h
    exact ⟨i, hi, fun k hk => (ei k hk).trans (ej k hk), by omega⟩
  · exact ⟨j, hj, fun k hk => (ei k (by omega)).trans (ej k hk), by rw [ei j h]; exact lj⟩
/-- how many below n -/
noncomputable def cP (p : Nat → Prop) : Nat → Nat
  | 0 => 0
  | n + 1 => cP p n + @ite Nat (p n) (Classical.propDecidable (p n)) 1 0
theorem cP_mono {p q : Nat → Prop} {n : Nat} (h : ∀ k, k < n → p k → q k) : cP p n ≤ cP q n := by
  induction n with
  | zero => exact Nat.le_refl _
  | succ n ih =>
    have := ih (fun k hk => h k (by omega))
    simp only [cP]
    by_cases hp : p n
    · rw [if_pos hp, if_pos (h n (by omega) hp)]; omega
    · rw [if_neg hp]; omega
theorem cP_lt {p q : Nat → Prop} {n x : Nat} (h : ∀ k, k < n → p k → q k) (hx : x < n) (h1 : q x) (h2 : ¬ p x) : cP p n + 1 ≤ cP q n := by
  induction n with
  | zero => omega
  | succ n ih =>
    simp only [cP]
    by_cases hxn : x = n
    · subst hxn
      rw [if_neg h2, if_pos h1]
      have := cP_mono (p := p) (q := q) (n := x) (fun k hk => h k (by omega))
      omega
    · have := ih (fun k hk => h k (by omega)) (by omega)
      by_cases hp : p n
      · rw [if_pos hp, if_pos (h n (by omega) hp)]; omega
      · rw [if_neg hp]; omega
theorem cP_le (p : Nat → Prop) (n : Nat) : cP p n ≤ n := by
  induction n with
  | zero => exact Nat.le_refl _
  | succ n ih => simp only [cP]; split <;> omega
theorem cP_inj {p : Nat → Prop} (n : Nat) : ∀ (v : Nat) (g : Nat → Nat), (∀ i, i < v → g i < n ∧ p (g i)) → (∀ i j, i < v → j < v → g i = g j → i = j) → v ≤ cP p n := by
  induction n with
  | zero =>
    intro v g h _
    rcases Nat.eq_zero_or_pos v with rfl | hv
    · exact Nat.le_refl _
    · exact absurd (h 0 hv).1 (by omega)
  | succ n ih =>
    intro v g h hi
    simp only [cP]
    by_cases hx : ∃ i, i < v ∧ g i = n
    · obtain ⟨i, hiv, hgi⟩ := hx
      have hp : p n := by rw [← hgi]; exact (h i hiv).2
      rw [if_pos hp]
      have := ih (v - 1) (fun k => g (if k < i then k else k + 1)) (fun k hk => by
        have hb : (if k < i then k else k + 1) < v := by split <;> omega
        have h1 := h _ hb
        have h2 : g (if k < i then k else k + 1) ≠ n := fun e => by
          have := hi _ _ hb hiv (e.trans hgi.symm)
          split at this <;> omega
        refine ⟨?_, h1.2⟩
        show g (if k < i then k else k + 1) < n
        have := h1.1
        omega) (fun a b ha hb he => by
        have e := hi _ _ (by split <;> omega) (by split <;> omega) he
        split at e <;> split at e <;> omega)
      omega
    · have := ih v g (fun k hk => by
        have h1 := h k hk
        have h2 : g k ≠ n := fun e => hx ⟨k, hk, e⟩
        exact ⟨by omega, h1.2⟩) hi
      omega
/-- the children of d that follow k (all of them, if k is none) -/
def Ch (K : Nat → Nat → Int) (n : Nat) (fP : Nat → Int32) (d k : Int) (j : Nat) : Prop := 1 ≤ j ∧ (fP j).toInt = d ∧ (k < 0 ∨ LX K n k.toNat j)
noncomputable def rest (K : Nat → Nat → Int) (n : Nat) (fP : Nat → Int32) (d k : Int) (N : Nat) : Nat := cP (Ch K n fP d k) N
theorem rest_next {K : Nat → Nat → Int} {n N : Nat} {fP : Nat → Int32} {d k k2 : Int} (h0 : 0 ≤ k2) (hN : k2 < N) (h : Ch K n fP d k k2.toNat) : rest K n fP d k2 N + 1 ≤ rest K n fP d k N := by
  refine cP_lt (x := k2.toNat) (fun j _ hj => ?_) (by omega) h (fun hj => ?_)
  · obtain ⟨q1, q2, q3⟩ := hj
    refine ⟨q1, q2, ?_⟩
    rcases h.2.2 with h1 | h1
    · exact Or.inl h1
    · rcases q3 with q3 | q3
      · omega
      · exact Or.inr (LX_trans h1 q3)
  · rcases hj.2.2 with q3 | q3
    · omega
    · exact LX_irr q3
/-- how many children -/
noncomputable def ch (fP : Nat → Int32) (d : Int) (N : Nat) : Nat := cP (fun j => 1 ≤ j ∧ (fP j).toInt = d) N
theorem rest_ch {K : Nat → Nat → Int} {n N : Nat} {fP : Nat → Int32} {d k : Int} : rest K n fP d k N ≤ ch fP d N := cP_mono (fun j _ h => ⟨h.1, h.2.1⟩)
noncomputable def sch (fP : Nat → Int32) (N : Nat) (tb : Nat → Int) : Nat → Nat
  | 0 => 0
  | n + 1 => sch fP N tb n + ch fP (tb n) N
theorem sch_succ {fP : Nat → Int32} {N : Nat} {tb : Nat → Int} (n : Nat) : sch fP (N + 1) tb n = sch fP N tb n + (if 1 ≤ N then cP (fun i => (fP N).toInt = tb i) n else 0) := by
  induction n with
  | zero => simp only [sch, cP]; split <;> rfl
  | succ n ih =>
    simp only [sch]
    rw [ih]
    show _ + (cP _ N + _) = _
    simp only [ch]
    by_cases h1 : 1 ≤ N
    · rw [if_pos h1, if_pos h1]
      simp only [cP]
      by_cases h2 : (fP N).toInt = tb n
      · rw [if_pos ⟨h1, h2⟩, if_pos h2]; omega
      · rw [if_neg (fun h => h2 h.2), if_neg h2]; omega
    · rw [if_neg h1, if_neg h1, if_neg (fun h => h1 h.1)]; omega
theorem cP_none (n : Nat) : cP (fun _ => False) n = 0 := by
  induction n with
  | zero => rfl
  | succ n ih => simp only [cP]; rw [if_neg (fun h => h)]; omega
theorem cP_one {c : Int} {tb : Nat → Int} {n : Nat} (h : ∀ i j, i < n → j < n → tb i = tb j → i = j) : cP (fun i => c = tb i) n ≤ 1 := by
  induction n with
  | zero => simp only [cP]; omega
  | succ n ih =>
    have h0 := ih (fun i j hi hj => h i j (by omega) (by omega))
    simp only [cP]
    by_cases h2 : c = tb n
    · have : cP (fun i => c = tb i) n ≤ cP (fun _ => False) n := cP_mono (fun k hk e => by
        have := h k n (by omega) (by omega) (e.symm.trans h2)
        omega)
      have h3 := cP_none n
      rw [if_pos h2]
      omega
    · rw [if_neg h2]; omega
theorem sch_le {fP : Nat → Int32} {tb : Nat → Int} {n : Nat} (h : ∀ i j, i < n → j < n → tb i = tb j → i = j) (N : Nat) : sch fP N tb n ≤ N - 1 := by
  induction N with
  | zero =>
    clear h
    induction n with
    | zero => exact Nat.le_refl _
    | succ n ih => simp only [sch, ch, cP]; omega
  | succ N ih =>
    rw [sch_succ]
    have := cP_one (c := (fP N).toInt) h
    split <;> omega
