theorem RW.one {I J : Nat → Int} {a n ha b m hb : Int} {A B : List Int} (h : RW I J a A n ha b B m hb) (hm : m = 0) : BL I J a A := fun p => by
  obtain ⟨h1, ⟨l1, l2⟩, _⟩ := h
  rw [h1 p, l1]
  by_cases r : a ≤ (p : Int) ∧ (p : Int) < a + n
  · rw [if_pos r, if_pos r]
  · rw [if_neg r, if_neg r, if_neg (by omega)]
/-- the second tree has no continuation -/
theorem dirS_z1 {dt : Nat → Nat → Int} {o : Nat → Nat} {r : Int} {d : Nat} (j : Nat) : (dirS dt 1 o r d j).2 = r := by
  induction j with
  | zero =>
    show runS dt 1 1 (runS dt 1 0 r d) (if d = 0 then 0 else (dt 5 d).toNat) = r
    unfold runS
    rw [if_pos (Or.inl rfl), if_pos (Or.inl rfl)]
  | succ j ih =>
    by_cases e : dt 5 (o j) = d
    · rw [dirS_hit e rfl]
      show runS dt 1 2 (dirS dt 1 o r d j).2 (o j) = r
      unfold runS
      rw [if_pos (Or.inl rfl)]
      exact ih
    · rw [dirS_miss e rfl]; exact ih
theorem wkS_z1 {dt : Nat → Nat → Int} {o : Nat → Nat} {c : Nat} {Q : List Nat} {x r : Int} (i : Nat) : (wkS dt 1 o c Q (x, r) i).2 = r := by
  induction i with
  | zero => rfl
  | succ i ih =>
    rw [wkS_succ]
    show (dirS dt 1 o (wkS dt 1 o c Q (x, r) i).2 (Q.getD i 0) c).2 = r
    rw [dirS_z1]; exact ih
/-- where directories, contents and numbers lie, by the lists alone -/
def WkX (dt dx : Nat → Nat → Int) (t : Int) (o : Nat → Nat) (c : Nat) (Q : List Nat) (s : Int × Int) : Prop := ∀ i, i < Q.length → dxE dx t (Q.getD i 0) = (wkS dt t o c Q s i).1 ∧ dxZ dx t (Q.getD i 0) = ((wkS dt t o c Q s (i + 1)).1 - (wkS dt t o c Q s i).1) * 2048
def UpX (dt dx : Nat → Nat → Int) (t : Int) (Q : List Nat) : Prop := ∀ i, i < Q.length → ∃ j, j < Q.length ∧ Q.getD j 0 = (if Q.getD i 0 = 0 then 0 else (dt 5 (Q.getD i 0)).toNat) ∧ dxU dx t (Q.getD i 0) = (j : Int) + 1
def CoX (dt dx : Nat → Nat → Int) (x : Int) (N : Nat) : Prop := ∀ k, k < N → dt 0 k ≠ 0 → (dx 6 k = dt 6 k ∧ dx 8 k = dt 6 k ∧ dx 7 k = dx 5 k) ∧ (dt 0 k = 1 → dt 6 k ≠ 0 → ∃ j, j ≤ k ∧ FwP dt k j ∧ dx 5 k = x + ctS dt j) ∧ (¬ (dt 0 k = 1 ∧ dt 6 k ≠ 0) → dx 5 k = 0)
theorem BgL_r1 {dt : Nat → Nat → Int} {o : Nat → Nat} {c n : Nat} {Q : List Nat} {x r : Int} {fb fe : Nat → Int32} (h : BgL dt 1 o c Q (x, r) fb fe n) (r2 : Int) : BgL dt 1 o c Q (x, r2) fb fe n := fun i hi => by
  rw [wkS_r1 (r := r2) (r2 := r) i, wkS_r1 (r := r2) (r2 := r) (i + 1)]
  exact h i hi
theorem WkX_of {dt dx : Nat → Nat → Int} {t : Int} {o : Nat → Nat} {c cm : Nat} {Q : List Nat} {s : Int × Int} {fb fe cc : Nat → Int32} (hb : BgL dt t o c Q s fb fe Q.length) (hl : DxL dt dx t cm fb fe cc) (hQ : ∀ a, a < Q.length → Q.getD a 0 < cm ∧ dt 0 (Q.getD a 0) = 0) : WkX dt dx t o c Q s := fun i hi => by
  have q := hQ i hi
  have l := hl _ q.1
  have b := hb i hi
  rw [if_pos q.2, if_pos q.2] at l
  exact ⟨by rw [← l.1]; exact b.1, by rw [← l.2.1, b.2]⟩
theorem WkX_r1 {dt dx : Nat → Nat → Int} {o : Nat → Nat} {c : Nat} {Q : List Nat} {x r : Int} (h : WkX dt dx 1 o c Q (x, r)) (r2 : Int) : WkX dt dx 1 o c Q (x, r2) := fun i hi => by
  rw [wkS_r1 (r := r2) (r2 := r) i, wkS_r1 (r := r2) (r2 := r) (i + 1)]
  exact h i hi
theorem CoX_of {dt dx : Nat → Nat → Int} {cm : Nat} {x : Int} {fb fe gb ge cc : Nat → Int32} (h0 : DxL dt dx 0 cm fb fe cc) (h1 : DxL dt dx 1 cm gb ge cc) (hc : CtP dt x cc cm) (hz : ∀ k, k < cm → ¬ (dt 0 k = 1 ∧ dt 6 k ≠ 0) → (cc k).toInt = 0) : CoX dt dx x cm := fun k hk hd => by
  have a := h0 k hk
  have b := h1 k hk
  rw [if_neg hd, if_neg hd] at a b
  have a1 : (cc k).toInt = dx 5 k := a.1
  have a2 : dt 6 k = dx 6 k := a.2
  have b1 : (cc k).toInt = dx 7 k := b.1
  have b2 : dt 6 k = dx 8 k := b.2
  refine ⟨⟨a2.symm, b2.symm, by rw [← a1, ← b1]⟩, fun e1 e6 => ?_, fun hn => by rw [← a1]; exact hz k hk hn⟩
  obtain ⟨j, g1, g2, g3⟩ := hc k hk e1 e6
  exact ⟨j, g1, g2, by rw [← a1]; exact g3⟩
theorem UpX_of {dt dx : Nat → Nat → Int} {t : Int} {cm : Nat} {Q : List Nat} {ng : Nat → Nat → Int32} {ft : Nat → Int32} (hT : TnL Q ft) (hu : ∀ k, k < cm → dxU dx t k = (ft (ng k 2).toNatClampNeg).toInt) (hQ : ∀ a, a < Q.length → Q.getD a 0 < cm) (hA : ∀ k, k < cm → dt 0 k = 0 → ∃ a, a < Q.length ∧ Q.getD a 0 = k) (h5 : ∀ k, k < cm → dt 5 k = (ng k 2).toInt ∧ 0 ≤ (ng k 2).toInt ∧ (ng k 2).toNatClampNeg < cm ∧ dt 0 (ng k 2).toNatClampNeg = 0) (hr : (ng 0 2).toInt = 0) : UpX dt dx t Q := fun i hi => by
  have q := hQ i hi
  have w := h5 _ q
  obtain ⟨j, h1, h2⟩ := hA _ w.2.2.1 w.2.2.2
  refine ⟨j, h1, ?_, ?_⟩
  · rw [h2]
    have c1 := i_cl (a := ng (Q.getD i 0) 2) w.2.1
    by_cases e : Q.getD i 0 = 0
    · rw [if_pos e]
      rw [e] at c1 ⊢
      omega
    · rw [if_neg e, w.1]
      rfl
  · rw [hu _ q, ← h2]
    exact hT j h1
theorem UpX_0 {dt dx : Nat → Nat → Int} {t : Int} {Q : List Nat} (h : UpX dt dx t Q) (hN : NdL Q) (h0 : 1 ≤ Q.length ∧ Q.getD 0 0 = 0) : dxU dx t 0 = 1 := by
  obtain ⟨j, h1, h2, h3⟩ := h 0 (by omega)
  rw [h0.2] at h2 h3
  rw [if_pos rfl] at h2
  have e : j = 0 := by
    by_cases c : j = 0
    · exact c
    · exact absurd (by rw [h0.2, h2]) (hN 0 j (by omega) h1)
  rw [e] at h3
  omega
/-- dx, out of what the class has -/
def dxMk (dt : Nat → Nat → Int) (cm : Nat) (ng : Nat → Nat → Int32) (nn : Nat → Nat → Nat) (xb xe yb ye cc xt yt : Nat → Int32) (i k : Nat) : Int :=
  if i = 0 then (nn k 3 : Int) else if i = 1 then (mdW (ng k 0) (ng k 4)).toInt else if i = 2 then (if (ng k 0).toInt = 0 then dnF (dt 5) (dt 0) k cm + 2 else 1) else if i = 3 then (ng k 5).toInt else if i = 4 then (ng k 6).toInt else
  if i = 5 then (if dt 0 k = 0 then (xb k).toInt else (cc k).toInt) else if i = 6 then (if dt 0 k = 0 then (xe k).toInt * 2048 else dt 6 k) else if i = 7 then (if dt 0 k = 0 then (yb k).toInt else (cc k).toInt) else if i = 8 then (if dt 0 k = 0 then (ye k).toInt * 2048 else dt 6 k) else
  if i = 9 then (xt (ng k 2).toNatClampNeg).toInt else (yt (ng k 2).toNatClampNeg).toInt
theorem dx_ex {dt : Nat → Nat → Int} {cm : Nat} {ng : Nat → Nat → Int32} {nn : Nat → Nat → Nat} {xb xe yb ye cc xt yt : Nat → Int32} (hx : ∀ k, k < cm → dt 0 k = 0 → 0 ≤ (xe k).toInt ∧ (xe k).toInt ≤ 2000) (hy : ∀ k, k < cm → dt 0 k = 0 → 0 ≤ (ye k).toInt ∧ (ye k).toInt ≤ 2000) : ∃ dx : Nat → Nat → Int, DxC dt dx cm ng nn ∧ DxL dt dx 0 cm xb xe cc ∧ DxL dt dx 1 cm yb ye cc ∧ (∀ k, k < cm → dxU dx 0 k = (xt (ng k 2).toNatClampNeg).toInt) ∧ (∀ k, k < cm → dxU dx 1 k = (yt (ng k 2).toNatClampNeg).toInt) := by
  refine ⟨dxMk dt cm ng nn xb xe yb ye cc xt yt, fun k _ => ⟨rfl, rfl, rfl, rfl, rfl⟩, fun k hk => ?_, fun k hk => ?_, fun k _ => rfl, fun k _ => rfl⟩
  · have e5 : dxE (dxMk dt cm ng nn xb xe yb ye cc xt yt) 0 k = if dt 0 k = 0 then (xb k).toInt else (cc k).toInt := rfl
    have e6 : dxZ (dxMk dt cm ng nn xb xe yb ye cc xt yt) 0 k = if dt 0 k = 0 then (xe k).toInt * 2048 else dt 6 k := rfl
    rw [e5, e6]
    by_cases c : dt 0 k = 0
    · refine ⟨?_, ?_⟩
      · rw [if_pos c, if_pos c]
      · rw [if_pos c, if_pos c]; exact ⟨rfl, hx k hk c⟩
    · refine ⟨?_, ?_⟩
      · rw [if_neg c, if_neg c]
      · rw [if_neg c, if_neg c]
  · have e5 : dxE (dxMk dt cm ng nn xb xe yb ye cc xt yt) 1 k = if dt 0 k = 0 then (yb k).toInt else (cc k).toInt := rfl
    have e6 : dxZ (dxMk dt cm ng nn xb xe yb ye cc xt yt) 1 k = if dt 0 k = 0 then (ye k).toInt * 2048 else dt 6 k := rfl
    rw [e5, e6]
    by_cases c : dt 0 k = 0
    · refine ⟨?_, ?_⟩
      · rw [if_pos c, if_pos c]
      · rw [if_pos c, if_pos c]; exact ⟨rfl, hy k hk c⟩
    · refine ⟨?_, ?_⟩
      · rw [if_neg c, if_neg c]
      · rw [if_neg c, if_neg c]
/-- extents, out of the walk -/
theorem BgL_rng {dt : Nat → Nat → Int} {t : Int} {o : Nat → Nat} {c cm : Nat} {Q : List Nat} {s : Int × Int} {fb fe : Nat → Int32} {z : Int} (hb : BgL dt t o c Q s fb fe Q.length) (ht : t = 0 ∨ t = 1) (hR : ∀ j, j < c → DtR dt (o j)) (hRQ : ∀ i, i < Q.length → DtR dt (Q.getD i 0) ∧ DtR dt (if Q.getD i 0 = 0 then 0 else (dt 5 (Q.getD i 0)).toNat)) (h0 : 0 ≤ s.1 ∧ 0 ≤ s.2) (hz : (wkS dt t o c Q s Q.length).1 ≤ z) (hA : ∀ k, k < cm → dt 0 k = 0 → ∃ a, a < Q.length ∧ Q.getD a 0 = k) : ∀ k, k < cm → dt 0 k = 0 → 0 ≤ (fe k).toInt ∧ (fe k).toInt ≤ z := fun k hk hd => by
  obtain ⟨a, h1, h2⟩ := hA k hk hd
  have b := (hb a h1).2
  rw [h2] at b
  have g := wkS_ge (o := o) (c := c) (Q := Q) (s := s) ht hR hRQ h0 (i := a) (j := a + 1) (by omega) (by omega)
  have g2 := wkS_ge (o := o) (c := c) (Q := Q) (s := s) ht hR hRQ h0 (i := a + 1) (j := Q.length) (by omega) (Nat.le_refl _)
  rw [b]
  omega
theorem ctT_congr {dt : Nat → Nat → Int} {sd sd2 v w : Nat → Int32} {n : Nat} (h : ∀ k, k < n → newC dt k → sd k = sd2 k ∧ (v k).toInt = (w k).toInt) : ctT dt sd v n = ctT dt sd2 w n := by
  induction n with
  | zero => rfl
  | succ n ih =>
    have e := ih (fun k hk => h k (by omega))
    by_cases c : newC dt n
    · rw [ctT_hit c, ctT_hit c, e, (h n (by omega) c).1, (h n (by omega) c).2]
    · rw [ctT_miss c, ctT_miss c, e]
theorem Img.mem {Z : Int} {J : Nat → Int} {T U : List (Int × List Int)} (h : Img Z J T) (e : ∀ c, c ∈ T ↔ c ∈ U) : Img Z J U :=
  ⟨fun c hc => h.1 c ((e c).mpr hc), fun p hz hp => h.2 p hz (fun c hc => hp c ((e c).mp hc))⟩
/-- all but the contents, the newest first, as the class writes them -/
def imL (rf x1 : Int) (W0 R W1 P1 P2 D1 P3 P4 D2 D3 : List Int) : List (Int × List Int) := [(36864, D3), (34816, D2), (45056, P4), (43008, P3), (32768, D1), (40960, P2), (38912, P1), (x1 * 2048, W1), (rf * 2048, R), (47104, W0)]
section
variable {Z rf x1 : Int} {I J1 J2 J3 J4 J5 J6 J7 J8 J9 K : Nat → Int} {W0 R W1 P1 P2 D1 P3 P4 D2 D3 : List Int}
theorem im_C (h0 : ∀ p : Nat, (p : Int) < Z → I p = 0) (h1 : BL I J1 47104 W0) (h2 : BL J1 J2 (rf * 2048) R) (h3 : BL J2 J3 (x1 * 2048) W1) (h4 : BL J3 J4 38912 P1) (h5 : BL J4 J5 40960 P2) (h6 : BL J5 J6 32768 D1) (h7 : BL J6 J7 43008 P3) (h8 : BL J7 J8 45056 P4) (h9 : BL J8 J9 34816 D2) (h10 : BL J9 K 36864 D3)
    (l0 : 47104 + (W0.length : Int) ≤ x1 * 2048) (l1 : x1 * 2048 + (W1.length : Int) ≤ rf * 2048) (p1 : P1.length ≤ 2048) (p2 : P2.length ≤ 2048) (p3 : P3.length ≤ 2048) (p4 : P4.length ≤ 2048) (d1 : D1.length ≤ 2048) (d2 : D2.length ≤ 2048) (d3 : D3.length ≤ 2048) : Img Z K (imL rf x1 W0 R W1 P1 P2 D1 P3 P4 D2 D3) := by
  have i1 := (Img_0 h0).add h1 (fun c hc => absurd hc List.not_mem_nil)
  have i2 := i1.add h2 (fun c hc => by
    simp only [List.mem_cons, List.not_mem_nil, or_false] at hc
    subst hc; dsimp only; omega)
  have i3 := i2.add h3 (fun c hc => by
    simp only [List.mem_cons, List.not_mem_nil, or_false] at hc
    rcases hc with e | e <;> subst e <;> dsimp only <;> omega)
  have i4 := i3.add h4 (fun c hc => by
    simp only [List.mem_cons, List.not_mem_nil, or_false] at hc
    rcases hc with e | e | e <;> subst e <;> dsimp only <;> omega)
  have i5 := i4.add h5 (fun c hc => by
    simp only [List.mem_cons, List.not_mem_nil, or_false] at hc
    rcases hc with e | e | e | e <;> subst e <;> dsimp only <;> omega)
  have i6 := i5.add h6 (fun c hc => by
    simp only [List.mem_cons, List.not_mem_nil, or_false] at hc
    rcases hc with e | e | e | e | e <;> subst e <;> dsimp only <;> omega)
  have i7 := i6.add h7 (fun c hc => by
    simp only [List.mem_cons, List.not_mem_nil, or_false] at hc
    rcases hc with e | e | e | e | e | e <;> subst e <;> dsimp only <;> omega)
  have i8 := i7.add h8 (fun c hc => by
    simp only [List.mem_cons, List.not_mem_nil, or_false] at hc
    rcases hc with e | e | e | e | e | e | e <;> subst e <;> dsimp only <;> omega)
  have i9 := i8.add h9 (fun c hc => by
    simp only [List.mem_cons, List.not_mem_nil, or_false] at hc
    rcases hc with e | e | e | e | e | e | e | e <;> subst e <;> dsimp only <;> omega)
  exact i9.add h10 (fun c hc => by
    simp only [List.mem_cons, List.not_mem_nil, or_false] at hc
    rcases hc with e | e | e | e | e | e | e | e | e <;> subst e <;> dsimp only <;> omega)
theorem im_M (h0 : ∀ p : Nat, (p : Int) < Z → I p = 0) (h1 : BL I J1 32768 D1) (h2 : BL J1 J2 34816 D2) (h3 : BL J2 J3 36864 D3) (h4 : BL J3 J4 38912 P1) (h5 : BL J4 J5 40960 P2) (h6 : BL J5 J6 47104 W0) (h7 : BL J6 J7 (rf * 2048) R) (h8 : BL J7 J8 43008 P3) (h9 : BL J8 J9 45056 P4) (h10 : BL J9 K (x1 * 2048) W1)
    (l0 : 47104 + (W0.length : Int) ≤ x1 * 2048) (l1 : x1 * 2048 + (W1.length : Int) ≤ rf * 2048) (p1 : P1.length ≤ 2048) (p2 : P2.length ≤ 2048) (p3 : P3.length ≤ 2048) (p4 : P4.length ≤ 2048) (d1 : D1.length ≤ 2048) (d2 : D2.length ≤ 2048) (d3 : D3.length ≤ 2048) : Img Z K (imL rf x1 W0 R W1 P1 P2 D1 P3 P4 D2 D3) := by
  have i1 := (Img_0 h0).add h1 (fun c hc => absurd hc List.not_mem_nil)
  have i2 := i1.add h2 (fun c hc => by
    simp only [List.mem_cons, List.not_mem_nil, or_false] at hc
    subst hc; dsimp only; omega)
  have i3 := i2.add h3 (fun c hc => by
    simp only [List.mem_cons, List.not_mem_nil, or_false] at hc
    rcases hc with e | e <;> subst e <;> dsimp only <;> omega)
  have i4 := i3.add h4 (fun c hc => by
    simp only [List.mem_cons, List.not_mem_nil, or_false] at hc
    rcases hc with e | e | e <;> subst e <;> dsimp only <;> omega)
  have i5 := i4.add h5 (fun c hc => by
    simp only [List.mem_cons, List.not_mem_nil, or_false] at hc
    rcases hc with e | e | e | e <;> subst e <;> dsimp only <;> omega)
  have i6 := i5.add h6 (fun c hc => by
    simp only [List.mem_cons, List.not_mem_nil, or_false] at hc
    rcases hc with e | e | e | e | e <;> subst e <;> dsimp only <;> omega)
  have i7 := i6.add h7 (fun c hc => by
    simp only [List.mem_cons, List.not_mem_nil, or_false] at hc
    rcases hc with e | e | e | e | e | e <;> subst e <;> dsimp only <;> omega)
  have i8 := i7.add h8 (fun c hc => by
    simp only [List.mem_cons, List.not_mem_nil, or_false] at hc
    rcases hc with e | e | e | e | e | e | e <;> subst e <;> dsimp only <;> omega)
  have i9 := i8.add h9 (fun c hc => by
    simp only [List.mem_cons, List.not_mem_nil, or_false] at hc
    rcases hc with e | e | e | e | e | e | e | e <;> subst e <;> dsimp only <;> omega)
  have i10 := i9.add h10 (fun c hc => by
    simp only [List.mem_cons, List.not_mem_nil, or_false] at hc
    rcases hc with e | e | e | e | e | e | e | e | e <;> subst e <;> dsimp only <;> omega)
  refine i10.mem (fun c => ?_)
  unfold imL
  simp only [List.mem_cons, List.not_mem_nil, or_false]
  constructor
  · rintro (h | h | h | h | h | h | h | h | h | h) <;> simp only [h, true_or, or_true]
  · rintro (h | h | h | h | h | h | h | h | h | h) <;> simp only [h, true_or, or_true]
theorem imL_top (l1 : x1 * 2048 + (W1.length : Int) ≤ rf * 2048) (l0 : 47104 + (W0.length : Int) ≤ x1 * 2048) (lR : rf * 2048 + (R.length : Int) ≤ Z) (p1 : P1.length ≤ 2048) (p2 : P2.length ≤ 2048) (p3 : P3.length ≤ 2048) (p4 : P4.length ≤ 2048) (d1 : D1.length ≤ 2048) (d2 : D2.length ≤ 2048) (d3 : D3.length ≤ 2048) : ∀ c ∈ imL rf x1 W0 R W1 P1 P2 D1 P3 P4 D2 D3, c.1 + c.2.length ≤ Z := fun c hc => by
  unfold imL at hc
  simp only [List.mem_cons, List.not_mem_nil, or_false] at hc
  rcases hc with e | e | e | e | e | e | e | e | e | e <;> subst e <;> dsimp only <;> omega
end
theorem dh_len (so : Int) : (dhL so).length = 7 := rfl
theorem ptB_len {dt dx : Nat → Nat → Int} {nf : Nat → Nat → Nat → Int32} {t : Int} {lw : Bool} {Q : List Nat} {n : Nat} (hR : ∀ i, i < n → DtR dt (Q.getD i 0)) : ((ptB dt dx nf t lw Q n).length : Int) = ptS dt t Q n := by
  induction n with
  | zero => rfl
  | succ n ih =>
    have a := ih (fun i hi => hR i (by omega))
    have b := idL_len (hR n (by omega)) nf t (if Q.getD n 0 = 0 then 0 else 2)
    show (((ptB dt dx nf t lw Q n ++ peL lw _ _ _).length : Nat) : Int) = ptS dt t Q n + _
    rw [List.length_append, pe_len]
    omega
/-- all but the contents, by the lists -/
def imF (dt dx : Nat → Nat → Int) (nf : Nat → Nat → Nat → Int32) (rf x1 many : Int) (Q0 : List Nat) (o0 : Nat → Nat) (c0 : Nat) (Q1 : List Nat) (o1 : Nat → Nat) (c1 : Nat) : List (Int × List Int) :=
  imL rf x1 (wkB dt dx nf rf 0 o0 c0 Q0 ([], []) Q0.length).1 (wkB dt dx nf rf 0 o0 c0 Q0 ([], []) Q0.length).2 (wkB dt dx nf rf 1 o1 c1 Q1 ([], []) Q1.length).1 (ptB dt dx nf 0 true Q0 Q0.length) (ptB dt dx nf 0 false Q0 Q0.length) (dsL 0 many (ptS dt 0 Q0 Q0.length) (dxE dx 0 0) (dxZ dx 0 0)) (ptB dt dx nf 1 true Q1 Q1.length) (ptB dt dx nf 1 false Q1 Q1.length) (dsL 1 many (ptS dt 1 Q1 Q1.length) (dxE dx 1 0) (dxZ dx 1 0)) (dhL 255)
theorem ds_len (t many tab ext siz : Int) (_ : t = 0 ∨ t = 1) : (dsL t many tab ext siz).length = 882 := by
  have a : (dhL (t + 1)).length = 7 := rfl
  have b : (rhL 34 ext siz 2 [0]).length = 34 := rh_len 34 ext siz 2 [0]
  have z : z68.length = 68 := by
    unfold z68
    simp only [List.length_append, List.length_replicate, List.length_cons, List.length_nil] <;> rfl
  have e : (if t = 1 then ([37, 47, 69] : List Int) ++ List.replicate 29 0 else List.replicate 32 0).length = 32 := by
    by_cases c : t = 1
    · rw [if_pos c, List.length_append, List.length_replicate]; rfl
    · rw [if_neg c, List.length_replicate]
  have l1 : (bL4 many).length = 8 := rfl
  have l2 : (bL4 tab).length = 8 := rfl
  have l3 : (bL2 1).length = 4 := rfl
  have l4 : (bL2 2048).length = 4 := rfl
  have l5 : (lL4 (19 + 2 * t)).length = 4 := rfl
  have l6 : (hL4 (20 + 2 * t)).length = 4 := rfl
  have l7 : ([1] : List Int).length = 1 := rfl
  unfold dsL dsP
  simp only [List.length_append, List.length_replicate, a, b, z, e, l1, l2, l3, l4, l5, l6, l7] <;> rfl
theorem Img.same {Z a : Int} {J K : Nat → Int} {T : List (Int × List Int)} (h : Img Z J T) (h2 : BL J K a []) : Img Z K T := by
  have e : ∀ p, K p = J p := fun p => h2.outs (by rw [List.length_nil]; omega)
  exact ⟨fun c hc p h3 h4 => by rw [e]; exact h.1 c hc p h3 h4, fun p hz hp => by rw [e]; exact h.2 p hz hp⟩
/-- the bytes of one file more -/
theorem im_ct {Z x : Int} {dt : Nat → Nat → Int} {sd v : Nat → Int32} {k n : Nat} {J K : Nat → Int} {T : List (Int × List Int)} (h : Img Z J (ctT dt sd v k ++ T)) (h2 : BL J K ((v k).toInt * 2048) (tbL (cbyF (sd k)) (dt 6 k).toNat)) (hcp : CtP dt x v n) (h6 : ∀ k, k < n → 0 ≤ dt 6 k) (hsd : ∀ k, k < n → dt 7 k = (sd k).toInt) (hT : ∀ c ∈ T, c.1 + c.2.length ≤ x * 2048) (hk : k < n) (h0 : dt 0 k = 1) : Img Z K (ctT dt sd v (k + 1) ++ T) := by
  by_cases hn : newC dt k
  · have a := ct_at hcp hk hn
    have s0 := ctS_mono (dt := dt) (i := 0) (j := k) (Nat.zero_le k) (fun i hi => h6 i (by omega))
    have z0 : ctS dt 0 = 0 := rfl
    rw [ctT_hit hn, List.cons_append]
    refine h.add h2 (fun c hc => ?_)
    rcases List.mem_append.mp hc with hc | hc
    · have m := ctT_mem hcp h6 (by omega) c hc
      omega
    · have m := hT c hc
      omega
  · rw [ctT_miss hn]
    by_cases z : dt 6 k = 0
    · rw [z] at h2
      exact h.same h2
    · obtain ⟨j, g1, g2, g3⟩ := hcp k hk h0 z
      have nj := FwP_first g2 z
      have jk : j < k := by
        by_cases e : j = k
        · subst e; exact absurd nj hn
        · omega
      have aj := ct_at hcp (by omega) nj
      have es : sd j = sd k := Int32.toInt_inj.mp (by rw [← hsd j (by omega), ← hsd k hk]; exact g2.1.2.2)
      have m := ctT_in (dt := dt) (x := x) (sd := sd) (v := v) (n := n) jk nj
      rw [aj, es, g2.1.2.1, ← g3] at m
      exact h.again h2 (List.mem_append_left _ m)
