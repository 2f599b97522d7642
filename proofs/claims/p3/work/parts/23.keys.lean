def leF (fBa fBs : Nat → Int32) (k i : Nat) : Int := if (i : Int) < (fBs k).toInt then (fBa (8 * k + i)).toInt else 32
def exF (fEx fEs : Nat → Int32) (k i : Nat) : Int := if (i : Int) < (fEs k).toInt then (fEx (3 * k + i)).toInt else 32
def kyF (fBa fBs fEx fEs : Nat → Int32) (k i : Nat) : Int := if i < 8 then leF fBa fBs k i else exF fEx fEs k (i - 8)
theorem kyF_le {fBa fBs fEx fEs : Nat → Int32} {k i : Nat} (h : i < 8) : kyF fBa fBs fEx fEs k i = leF fBa fBs k i := if_pos h
theorem kyF_ex {fBa fBs fEx fEs : Nat → Int32} {k i : Nat} : kyF fBa fBs fEx fEs k (8 + i) = exF fEx fEs k i := by
  unfold kyF
  rw [if_neg (by omega), show 8 + i - 8 = i by omega]
/-- how far two rows were compared -/
def DX (K : Nat → Nat → Int) (N a b i : Nat) (d : Int) : Prop := (d = 0 ∧ ∀ j, j < i → K a j = K b j) ∨ (d ≠ 0 ∧ ∃ j, j < N ∧ (∀ j', j' < j → K a j' = K b j') ∧ d = K a j - K b j)
theorem DX_0 {K : Nat → Nat → Int} {N a b i : Nat} {d : Int} (h : d = 0) (hi : i = 0) : DX K N a b i d := Or.inl ⟨h, fun j hj => absurd hj (by omega)⟩
theorem DX_step {K : Nat → Nat → Int} {N a b i : Nat} {d d' : Int} (h : DX K N a b i d) (h0 : d = 0) (hN : i < N) (hd : d' = K a i - K b i) : DX K N a b (i + 1) d' := by
  rcases h with ⟨-, h⟩ | ⟨h, -⟩
  · by_cases hz : d' = 0
    · refine Or.inl ⟨hz, fun j hj => ?_⟩
      by_cases hji : j = i
      · subst hji; omega
      · exact h j (by omega)
    · exact Or.inr ⟨hz, i, hN, h, hd⟩
  · exact absurd h0 h
theorem DX_exit {K : Nat → Nat → Int} {N a b i i2 : Nat} {d : Int} (h : DX K N a b i d) (h2 : i2 ≤ i ∨ d ≠ 0) : DX K N a b i2 d := by
  rcases h with ⟨h0, h⟩ | h
  · exact Or.inl ⟨h0, fun j hj => h j (by omega)⟩
  · exact Or.inr h
theorem DX_lt {K : Nat → Nat → Int} {N a b i : Nat} {d : Int} (h : DX K N a b i d) (hd : d < 0) : LX K N a b := by
  rcases h with ⟨h0, -⟩ | ⟨-, j, hj, h1, h2⟩
  · omega
  · exact ⟨j, hj, h1, by omega⟩
theorem DX_eq {K : Nat → Nat → Int} {N a b i : Nat} {d : Int} (h : DX K N a b i d) (hd : d = 0) (hi : N ≤ i) : ∀ j, j < N → K a j = K b j := by
  rcases h with ⟨-, h⟩ | ⟨h, -⟩
  · exact fun j hj => h j (by omega)
  · exact absurd hd h
/-- the numbers that were tried, each of them another's -/
def DG (K : Nat → Nat → Int) (n x v : Nat) : Prop := ∃ g : Nat → Nat, ∀ w, w < v → 1 ≤ g w ∧ g w < x ∧ K (g w) n = 48 + ((w / 100 : Nat) : Int) ∧ K (g w) (n + 1) = 48 + ((w / 10 % 10 : Nat) : Int) ∧ K (g w) (n + 2) = 48 + ((w % 10 : Nat) : Int)
theorem DG_le {K : Nat → Nat → Int} {n x v : Nat} (h : DG K n x v) (hv : v ≤ 1000) (hx : 1 ≤ x) : v + 1 ≤ x := by
  obtain ⟨g, h⟩ := h
  have := z_pig (x - 1) v (fun w => g w - 1) (fun i hi => by have := h i hi; show g i - 1 < x - 1; omega) (fun i j hi hj e => by
    have h1 := h i hi
    have h2 := h j hj
    have e : g i - 1 = g j - 1 := e
    have e2 : g i = g j := by omega
    rw [e2] at h1
    omega)
  omega
theorem DG_0 {K : Nat → Nat → Int} {n x : Nat} : DG K n x 0 := ⟨fun _ => 0, fun w hw => absurd hw (by omega)⟩
theorem DG_step {K : Nat → Nat → Int} {n x v q : Nat} (h : DG K n x v) (h1 : 1 ≤ q) (h2 : q < x) (h3 : K q n = 48 + ((v / 100 : Nat) : Int)) (h4 : K q (n + 1) = 48 + ((v / 10 % 10 : Nat) : Int)) (h5 : K q (n + 2) = 48 + ((v % 10 : Nat) : Int)) : DG K n x (v + 1) := by
  obtain ⟨g, h⟩ := h
  refine ⟨fun w => if w = v then q else g w, fun w hw => ?_⟩
  by_cases hwv : w = v
  · subst hwv
    simp only [if_pos]
    exact ⟨h1, h2, h3, h4, h5⟩
  · simp only [if_neg hwv]
    exact h w (by omega)
def KF (t : Int) (fN fNS fBa fBs fEx fEs : Nat → Int32) : Nat → Nat → Int := if t = 0 then kyF fBa fBs fEx fEs else nmF fN fNS
def NL (t : Int) : Nat := if t = 0 then 11 else 30
theorem KF_0 {t : Int} {fN fNS fBa fBs fEx fEs : Nat → Int32} (h : t = 0) : KF t fN fNS fBa fBs fEx fEs = kyF fBa fBs fEx fEs := if_pos h
theorem KF_1 {t : Int} {fN fNS fBa fBs fEx fEs : Nat → Int32} (h : ¬ t = 0) : KF t fN fNS fBa fBs fEx fEs = nmF fN fNS := if_neg h
theorem NL_0 {t : Int} (h : t = 0) : NL t = 11 := if_pos h
theorem NL_1 {t : Int} (h : ¬ t = 0) : NL t = 30 := if_neg h
theorem DX_ltI {K : Nat → Nat → Int} {N a b i : Nat} {d : Int} (h : DX K N a b i d) (hi : N ≤ i ∨ d ≠ 0) : d < 0 ↔ LX K N a b := by
  refine ⟨DX_lt h, fun hl => ?_⟩
  rcases h with ⟨h0, h⟩ | ⟨h0, j, hj, h1, h2⟩
  · obtain ⟨k, hk, -, h3⟩ := hl
    have := h k (by omega)
    omega
  · by_cases hd : d < 0
    · exact hd
    · exact (LX_irr (LX_trans hl ⟨j, hj, fun k hk => (h1 k hk).symm, by omega⟩)).elim
theorem DX_eqI {K : Nat → Nat → Int} {N a b i : Nat} {d : Int} (h : DX K N a b i d) (hi : N ≤ i ∨ d ≠ 0) : d = 0 ↔ ∀ j, j < N → K a j = K b j := by
  refine ⟨fun hd => DX_eq h hd (by omega), fun hl => ?_⟩
  rcases h with ⟨h0, h⟩ | ⟨h0, j, hj, h1, h2⟩
  · exact h0
  · have := hl j hj
    omega
theorem kyF_row {fBa fBs fEx fEs gBa gBs gEx gEs : Nat → Int32} {q : Nat} (h1 : ∀ i, i < 8 → gBa (8 * q + i) = fBa (8 * q + i)) (h2 : gBs q = fBs q) (h3 : ∀ i, i < 3 → gEx (3 * q + i) = fEx (3 * q + i)) (h4 : gEs q = fEs q) : ∀ j, j < 11 → kyF gBa gBs gEx gEs q j = kyF fBa fBs fEx fEs q j := by
  intro j hj
  unfold kyF
  split
  · unfold leF; rw [h2, h1 j (by omega)]
  · unfold exF; rw [h4, h3 (j - 8) (by omega)]
theorem DG_congr {K K2 : Nat → Nat → Int} {n x v : Nat} (h : DG K n x v) (hn : n + 2 < 11) (hk : ∀ q, q < x → ∀ j, j < 11 → K2 q j = K q j) : DG K2 n x v := by
  obtain ⟨g, h⟩ := h
  refine ⟨g, fun w hw => ?_⟩
  obtain ⟨h1, h2, h3, h4, h5⟩ := h w hw
  exact ⟨h1, h2, by rw [hk _ h2 _ (by omega)]; exact h3, by rw [hk _ h2 _ (by omega)]; exact h4, by rw [hk _ h2 _ (by omega)]; exact h5⟩
theorem idy {lBa b1 b2 b3 gBs gEx gEs : Nat → Int32} {X n v q : Nat} {c1 c2 c3 : Int32} (e1 : b1 = upd lBa (8 * X + n) c1) (e2 : b2 = upd b1 (8 * X + n + 1) c2) (e3 : b3 = upd b2 (8 * X + n + 2) c3) (hs : (gBs X).toInt = n + 3) (hn : n ≤ 5) (hc1 : c1.toInt = 48 + ((v / 100 : Nat) : Int)) (hc2 : c2.toInt = 48 + ((v / 10 % 10 : Nat) : Int)) (hc3 : c3.toInt = 48 + ((v % 10 : Nat) : Int))
    (hD : DG (kyF lBa gBs gEx gEs) n X v) (q1 : 1 ≤ q) (q2 : q < X) (q3 : ∀ j, j < 11 → kyF b3 gBs gEx gEs q j = kyF b3 gBs gEx gEs X j) : DG (kyF b3 gBs gEx gEs) n X (v + 1) := by
  have row : ∀ q, q < X → ∀ j, j < 11 → kyF b3 gBs gEx gEs q j = kyF lBa gBs gEx gEs q j := fun q hq => kyF_row (fun i hi => by
    rw [e3, e2, e1]; unfold upd; rw [if_neg (by omega), if_neg (by omega), if_neg (by omega)]) rfl (fun _ _ => rfl) rfl
  have at' : ∀ j, j < 3 → kyF b3 gBs gEx gEs X (n + j) = (b3 (8 * X + (n + j))).toInt := fun j hj => by
    rw [kyF_le (by omega)]; unfold leF; rw [if_pos (by omega)]
  have v1 : b3 (8 * X + (n + 0)) = c1 := by rw [e3, e2, e1]; unfold upd; rw [if_neg (by omega), if_neg (by omega), if_pos (by omega)]
  have v2 : b3 (8 * X + (n + 1)) = c2 := by rw [e3, e2]; unfold upd; rw [if_neg (by omega), if_pos (by omega)]
  have v3 : b3 (8 * X + (n + 2)) = c3 := by rw [e3]; unfold upd; rw [if_pos (by omega)]
  refine DG_step (q := q) (DG_congr hD (by omega) row) q1 q2 ?_ ?_ ?_
  · rw [q3 n (by omega)]; have := at' 0 (by omega); rw [v1, hc1] at this; exact this
  · rw [q3 (n + 1) (by omega), at' 1 (by omega), v2, hc2]
  · rw [q3 (n + 2) (by omega), at' 2 (by omega), v3, hc3]
