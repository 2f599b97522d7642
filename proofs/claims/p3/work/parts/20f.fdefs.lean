/-- an answer that is 1 or 0, as P holds -/
def BoolIs (r : Int32) (P : Prop) : Prop := (r.toInt = 1 ∧ P) ∨ (r.toInt = 0 ∧ ¬ P)
theorem BoolIs.t {r : Int32} {P : Prop} (h : BoolIs r P) (h1 : r.toInt ≠ 0) : P := h.elim (fun h2 => h2.2) (fun h2 => absurd h2.1 h1)
theorem BoolIs.f {r : Int32} {P : Prop} (h : BoolIs r P) (h1 : r.toInt = 0) : ¬ P := h.elim (fun h2 => by have := h2.1; omega) (fun h2 => h2.2)
theorem BoolIs.yes {P : Prop} (h : P) : BoolIs 1 P := Or.inl ⟨by decide, h⟩
theorem BoolIs.no {P : Prop} (h : ¬ P) : BoolIs 0 P := Or.inr ⟨by decide, h⟩
theorem BoolIs.same {r q : Int32} {P Q : Prop} (h : BoolIs r P) (h2 : BoolIs q Q) (e : P ↔ Q) : r.toInt = q.toInt := by
  rcases h with ⟨a, b⟩ | ⟨a, b⟩
  · rcases h2 with ⟨c, d⟩ | ⟨c, d⟩
    · omega
    · exact absurd (e.mp b) d
  · rcases h2 with ⟨c, d⟩ | ⟨c, d⟩
    · exact absurd (e.mpr d) b
    · omega
theorem BoolIs.to {r : Int32} {P Q : Prop} (h : BoolIs r P) (e : P ↔ Q) : BoolIs r Q := h.elim (fun h2 => Or.inl ⟨h2.1, e.mp h2.2⟩) (fun h2 => Or.inr ⟨h2.1, fun q => h2.2 (e.mpr q)⟩)
theorem BoolIs.copy {r q : Int32} {P : Prop} (h : BoolIs r P) (e : q.toInt = r.toInt) : BoolIs q P := h.elim (fun h2 => Or.inl ⟨e.trans h2.1, h2.2⟩) (fun h2 => Or.inr ⟨e.trans h2.1, h2.2⟩)
def isLet (x : Int) : Prop := (97 ≤ x ∧ x ≤ 122) ∨ (65 ≤ x ∧ x ≤ 90)
def isDig (x : Int) : Prop := 48 ≤ x ∧ x ≤ 57
def isNum (x : Int) : Prop := 0 ≤ x ∧ x ≤ 1000000
def OwnP (x y z : Int32) : Prop := isNum x.toInt ∧ isNum y.toInt ∧ isNum z.toInt
/-- a letter of a name -/
def nch (x : Int) : Prop := isLet x ∨ isDig x ∨ x = 46 ∨ x = 45 ∨ x = 95 ∨ x = 43
theorem nch_rng {x : Int} (h : nch x) : 43 ≤ x ∧ x ≤ 122 := by
  unfold nch isLet isDig at h
  omega
/-- a name but for its letters -/
def PreN (n a b : Int) : Prop := (1 ≤ n ∧ n ≤ 30) ∧ ¬ (n = 1 ∧ a = 46) ∧ ¬ (n = 2 ∧ a = 46 ∧ b = 46)
def NameP (n : Int) (f : Nat → Int32) : Prop := PreN n (f 0).toInt (f 1).toInt ∧ ∀ j : Nat, (j : Int) < n → nch (f j).toInt
theorem NameP.rng {n : Int} {f : Nat → Int32} (h : NameP n f) : 1 ≤ n ∧ n ≤ 30 := h.1.1
theorem NameP.chr {n : Int} {f : Nat → Int32} (h : NameP n f) {j : Nat} (hj : (j : Int) < n) : 43 ≤ (f j).toInt ∧ (f j).toInt ≤ 122 := nch_rng (h.2 j hj)
theorem NameP_congr {n : Int} {f g : Nat → Int32} (e : ∀ j : Nat, (j : Int) < n → f j = g j) (h : NameP n f) : NameP n g := by
  refine ⟨⟨h.1.1, fun h2 => h.1.2.1 ⟨h2.1, ?_⟩, fun h2 => h.1.2.2 ⟨h2.1, ?_, ?_⟩⟩, fun j hj => by rw [← e j hj]; exact h.2 j hj⟩
  · rw [e 0 (by omega)]; exact h2.2
  · rw [e 0 (by omega)]; exact h2.2.1
  · rw [e 1 (by omega)]; exact h2.2.2
theorem NameP_iff {n : Int} {f g : Nat → Int32} (e : ∀ j : Nat, (j : Int) < n → f j = g j) : NameP n f ↔ NameP n g := ⟨NameP_congr e, NameP_congr (fun j hj => (e j hj).symm)⟩
/-- what is fed -/
def sb (x y : Int32) : Int32 := vp_nar .byte (x >>> (y &&& 31)).toInt8.toInt32
def shA (j : Nat) : Int32 := if j % 4 = 0 then 24 else if j % 4 = 1 then 16 else if j % 4 = 2 then 8 else 0
def pick (x1 x2 x3 x4 x5 : Int32) (j : Nat) : Int32 := if j < 4 then x1 else if j < 8 then x2 else if j < 12 then x3 else if j < 16 then x4 else x5
def fb (x1 x2 x3 x4 x5 : Int32) (j : Nat) : Int32 := sb (pick x1 x2 x3 x4 x5 j) (shA j)
theorem shA_mod {j k : Nat} (h : j % 4 = k % 4) : shA j = shA k := by
  unfold shA
  rw [h]
theorem amt_eq {v : Int32} {k : Nat} (h : v.toInt = 24 - 8 * ((k : Int) % 4)) : v = shA k := by
  refine Int32.toInt_inj.mp ?_
  rw [h]
  unfold shA
  have e1 : (24 : Int32).toInt = 24 := by decide
  have e2 : (16 : Int32).toInt = 16 := by decide
  have e3 : (8 : Int32).toInt = 8 := by decide
  have e4 : (0 : Int32).toInt = 0 := by decide
  by_cases a : k % 4 = 0
  · rw [if_pos a, e1]; omega
  · rw [if_neg a]
    by_cases b : k % 4 = 1
    · rw [if_pos b, e2]; omega
    · rw [if_neg b]
      by_cases c : k % 4 = 2
      · rw [if_pos c, e3]; omega
      · rw [if_neg c, e4]; omega
/-- of what is fed, k bytes lie behind the first n -/
def FT (f l : Nat → Int32) (n k : Nat) (x1 x2 x3 x4 x5 : Int32) : Prop := (∀ j, j < n → l j = f j) ∧ ∀ j, j < k → l (n + j) = fb x1 x2 x3 x4 x5 j
theorem FT_0 {f : Nat → Int32} {n : Nat} {x1 x2 x3 x4 x5 : Int32} : FT f f n 0 x1 x2 x3 x4 x5 := ⟨fun _ _ => rfl, fun j hj => absurd hj (by omega)⟩
theorem FT_step {f l l2 : Nat → Int32} {n k i q : Nat} {x1 x2 x3 x4 x5 b : Int32} (h : FT f l n k x1 x2 x3 x4 x5) (e : l2 = upd l i b) (hi : i = n + k) (hq : q = k + 1) (hb : b = fb x1 x2 x3 x4 x5 k) : FT f l2 n q x1 x2 x3 x4 x5 := by
  subst hq
  refine ⟨fun j hj => ?_, fun j hj => ?_⟩
  · rw [e]; unfold upd; rw [if_neg (by omega)]; exact h.1 j hj
  · rw [e]; unfold upd
    by_cases c : j = k
    · rw [if_pos (by omega), hb, c]
    · rw [if_neg (by omega)]; exact h.2 j (by omega)
/-- one number of it -/
def T4 (f g : Nat → Int32) (L : Nat) (x : Int32) : Prop := (∀ j, j < L → g j = f j) ∧ g L = sb x 24 ∧ g (L + 1) = sb x 16 ∧ g (L + 2) = sb x 8 ∧ g (L + 3) = sb x 0
theorem T4_of {f f1 f2 f3 f4 : Nat → Int32} {i0 i1 i2 i3 : Nat} {a b c d x : Int32} (e1 : f1 = upd f i0 a) (e2 : f2 = upd f1 i1 b) (e3 : f3 = upd f2 i2 c) (e4 : f4 = upd f3 i3 d) (h1 : i1 = i0 + 1) (h2 : i2 = i0 + 2) (h3 : i3 = i0 + 3) (ha : a = sb x 24) (hb : b = sb x 16) (hc : c = sb x 8) (hd : d = sb x 0) : T4 f f4 i0 x := by
  refine ⟨fun j hj => ?_, ?_, ?_, ?_, ?_⟩
  · rw [e4, e3, e2, e1]; unfold upd; rw [if_neg (by omega), if_neg (by omega), if_neg (by omega), if_neg (by omega)]
  · rw [e4, e3, e2, e1]; unfold upd; rw [if_neg (by omega), if_neg (by omega), if_neg (by omega), if_pos rfl]; exact ha
  · rw [e4, e3, e2]; unfold upd; rw [if_neg (by omega), if_neg (by omega), if_pos (by omega)]; exact hb
  · rw [e4, e3]; unfold upd; rw [if_neg (by omega), if_pos (by omega)]; exact hc
  · rw [e4]; unfold upd; rw [if_pos (by omega)]; exact hd
theorem T4.byt {f g : Nat → Int32} {L : Nat} {x : Int32} (h : T4 f g L x) {j k : Nat} (hj : j < 4) (hk : k = L + j) : g k = sb x (shA j) := by
  subst hk
  have hc : j = 0 ∨ j = 1 ∨ j = 2 ∨ j = 3 := by omega
  rcases hc with e | e | e | e
  · rw [e, show shA 0 = 24 by decide]; exact h.2.1
  · rw [e, show shA 1 = 16 by decide]; exact h.2.2.1
  · rw [e, show shA 2 = 8 by decide]; exact h.2.2.2.1
  · rw [e, show shA 3 = 0 by decide]; exact h.2.2.2.2
theorem FT_of {f f1 f2 f3 f4 f5 : Nat → Int32} {L L1 L2 L3 L4 : Nat} {x1 x2 x3 x4 x5 : Int32} (h1 : T4 f f1 L x1) (h2 : T4 f1 f2 L1 x2) (h3 : T4 f2 f3 L2 x3) (h4 : T4 f3 f4 L3 x4) (h5 : T4 f4 f5 L4 x5) (e1 : L1 = L + 4) (e2 : L2 = L + 8) (e3 : L3 = L + 12) (e4 : L4 = L + 16) : FT f f5 L 20 x1 x2 x3 x4 x5 := by
  refine ⟨fun j hj => ?_, fun j hj => ?_⟩
  · rw [h5.1 j (by omega), h4.1 j (by omega), h3.1 j (by omega), h2.1 j (by omega), h1.1 j hj]
  · unfold fb pick
    by_cases a1 : j < 4
    · rw [if_pos a1, h5.1 (L + j) (by omega), h4.1 (L + j) (by omega), h3.1 (L + j) (by omega), h2.1 (L + j) (by omega)]
      exact h1.byt a1 rfl
    · rw [if_neg a1]
      by_cases a2 : j < 8
      · rw [if_pos a2, h5.1 (L + j) (by omega), h4.1 (L + j) (by omega), h3.1 (L + j) (by omega), ← shA_mod (show (j - 4) % 4 = j % 4 by omega)]
        exact h2.byt (by omega) (by omega)
      · rw [if_neg a2]
        by_cases a3 : j < 12
        · rw [if_pos a3, h5.1 (L + j) (by omega), h4.1 (L + j) (by omega), ← shA_mod (show (j - 8) % 4 = j % 4 by omega)]
          exact h3.byt (by omega) (by omega)
        · rw [if_neg a3]
          by_cases a4 : j < 16
          · rw [if_pos a4, h5.1 (L + j) (by omega), ← shA_mod (show (j - 12) % 4 = j % 4 by omega)]
            exact h4.byt (by omega) (by omega)
          · rw [if_neg a4, ← shA_mod (show (j - 16) % 4 = j % 4 by omega)]
            exact h5.byt (by omega) (by omega)
/-- the first byte 0, or L -/
def FZ (f : Nat → Int32) (L r : Int) : Prop := (0 ≤ r ∧ r ≤ L) ∧ (∀ j : Nat, (j : Int) < r → (f j).toInt ≠ 0) ∧ (r < L → (f r.toNat).toInt = 0)
theorem FZ_same {f g : Nat → Int32} {L r q : Int} (h : FZ f L r) (h2 : FZ g L q) (e : ∀ j : Nat, (j : Int) < L → f j = g j) : r = q := by
  have h3 := h.1
  have h4 := h2.1
  rcases Int.lt_trichotomy r q with hlt | he | hgt
  · exfalso
    have a := h.2.2 (by omega)
    have b := h2.2.1 r.toNat (by omega)
    rw [← e r.toNat (by omega)] at b
    exact b a
  · exact he
  · exfalso
    have a := h2.2.2 (by omega)
    have b := h.2.1 q.toNat (by omega)
    rw [e q.toNat (by omega)] at b
    exact b a
/-- a target -/
def TgtP (n : Int) (f : Nat → Int32) : Prop := (1 ≤ n ∧ n ≤ 200) ∧ ∀ j : Nat, (j : Int) < n → 33 ≤ (f j).toInt ∧ (f j).toInt ≤ 126
theorem TgtP_congr {n : Int} {f g : Nat → Int32} (e : ∀ j : Nat, (j : Int) < n → f j = g j) (h : TgtP n f) : TgtP n g := ⟨h.1, fun j hj => by rw [← e j hj]; exact h.2 j hj⟩
/-- its components: marks, bytes, where the one at hand began, all bytes so far -/
def mrk (f : Nat → Int32) (p q : Nat) : Int := if (f p).toInt = 46 then (if q = p + 1 then 2 else if q = p + 2 ∧ (f (p + 1)).toInt = 46 then 4 else 0) else 0
def csz (f : Nat → Int32) (p q : Nat) : Int := if p < q then (if mrk f p q = 0 then 2 + ((q : Int) - p) else 2) else 0
def cpF (f : Nat → Int32) (n : Nat) : Nat → Nat
  | 0 => 0
  | i + 1 => if i = n ∨ (f i).toInt = 47 then i + 1 else cpF f n i
def cpT (f : Nat → Int32) (n : Nat) : Nat → Int
  | 0 => 0
  | i + 1 => if i = n ∨ (f i).toInt = 47 then cpT f n i + csz f (cpF f n i) i else cpT f n i
def t0F (f : Nat → Int32) (n : Nat) : Int := if 0 < n ∧ (f 0).toInt = 47 then 2 else 0
def compS (f : Nat → Int32) (n : Nat) : Int := t0F f n + cpT f n (n + 1)
theorem cpF_hit {f : Nat → Int32} {n i : Nat} (h : i = n ∨ (f i).toInt = 47) : cpF f n (i + 1) = i + 1 := by
  simp only [cpF]
  exact if_pos h
theorem cpF_miss {f : Nat → Int32} {n i : Nat} (h : ¬ (i = n ∨ (f i).toInt = 47)) : cpF f n (i + 1) = cpF f n i := by
  simp only [cpF]
  exact if_neg h
theorem cpT_hit {f : Nat → Int32} {n i : Nat} (h : i = n ∨ (f i).toInt = 47) : cpT f n (i + 1) = cpT f n i + csz f (cpF f n i) i := by
  simp only [cpT]
  exact if_pos h
theorem cpT_miss {f : Nat → Int32} {n i : Nat} (h : ¬ (i = n ∨ (f i).toInt = 47)) : cpT f n (i + 1) = cpT f n i := by
  simp only [cpT]
  exact if_neg h
theorem cpF_le (f : Nat → Int32) (n i : Nat) : cpF f n i ≤ i := by
  induction i with
  | zero => exact Nat.le_refl _
  | succ i ih =>
    by_cases c : i = n ∨ (f i).toInt = 47
    · rw [cpF_hit c]
      exact Nat.le_refl _
    · rw [cpF_miss c]
      omega
theorem csz_0 (f : Nat → Int32) (p : Nat) : csz f p p = 0 := if_neg (Nat.lt_irrefl p)
theorem csz_rng (f : Nat → Int32) {p q : Nat} (h : p ≤ q) : 0 ≤ csz f p q ∧ 2 * csz f p q ≤ 3 * ((q : Int) + 1 - p) := by
  unfold csz
  by_cases a : p < q
  · rw [if_pos a]
    by_cases b : mrk f p q = 0
    · rw [if_pos b]; omega
    · rw [if_neg b]; omega
  · rw [if_neg a]
    omega
theorem cpT_rng (f : Nat → Int32) (n i : Nat) : 0 ≤ cpT f n i ∧ 2 * cpT f n i ≤ 3 * (cpF f n i : Int) := by
  induction i with
  | zero => exact ⟨Int.le_refl _, Int.le_refl _⟩
  | succ i ih =>
    have h1 := cpF_le f n i
    have h2 := csz_rng f h1
    by_cases c : i = n ∨ (f i).toInt = 47
    · rw [cpF_hit c, cpT_hit c]
      omega
    · rw [cpF_miss c, cpT_miss c]
      omega
theorem t0F_rng (f : Nat → Int32) (n : Nat) : 0 ≤ t0F f n ∧ t0F f n ≤ 2 := by
  unfold t0F
  by_cases c : 0 < n ∧ (f 0).toInt = 47
  · rw [if_pos c]; omega
  · rw [if_neg c]; omega
theorem mrk_congr {f g : Nat → Int32} {n p q : Nat} (e : ∀ j, j < n → f j = g j) (h1 : p < q) (h2 : q ≤ n) : mrk f p q = mrk g p q := by
  unfold mrk
  rw [e p (by omega)]
  by_cases c : q = p + 2
  · rw [e (p + 1) (by omega)]
  · have a : ¬ (q = p + 2 ∧ (f (p + 1)).toInt = 46) := fun h => c h.1
    have b : ¬ (q = p + 2 ∧ (g (p + 1)).toInt = 46) := fun h => c h.1
    rw [if_neg a, if_neg b]
theorem csz_congr {f g : Nat → Int32} {n p q : Nat} (e : ∀ j, j < n → f j = g j) (h2 : q ≤ n) : csz f p q = csz g p q := by
  unfold csz
  by_cases c : p < q
  · rw [if_pos c, if_pos c, mrk_congr e c h2]
  · rw [if_neg c, if_neg c]
theorem cpF_congr {f g : Nat → Int32} {n i : Nat} (e : ∀ j, j < n → f j = g j) (h : i ≤ n + 1) : cpF f n i = cpF g n i := by
  induction i with
  | zero => rfl
  | succ i ih =>
    simp only [cpF]
    rw [ih (by omega)]
    by_cases c : i = n
    · rw [if_pos (Or.inl c), if_pos (Or.inl c)]
    · rw [e i (by omega)]
theorem cpT_congr {f g : Nat → Int32} {n i : Nat} (e : ∀ j, j < n → f j = g j) (h : i ≤ n + 1) : cpT f n i = cpT g n i := by
  induction i with
  | zero => rfl
  | succ i ih =>
    simp only [cpT]
    rw [ih (by omega), cpF_congr e (by omega), csz_congr (p := cpF g n i) e (show i ≤ n by omega)]
    by_cases c : i = n
    · rw [if_pos (Or.inl c), if_pos (Or.inl c)]
    · rw [e i (by omega)]
theorem compS_congr {f g : Nat → Int32} {n : Nat} (e : ∀ j, j < n → f j = g j) : compS f n = compS g n := by
  unfold compS t0F
  rw [cpT_congr e (Nat.le_refl _)]
  by_cases c : 0 < n
  · rw [e 0 c]
  · have a : ¬ (0 < n ∧ (f 0).toInt = 47) := fun h => c h.1
    have b : ¬ (0 < n ∧ (g 0).toInt = 47) := fun h => c h.1
    rw [if_neg a, if_neg b]
/-- how many directories a node lies in -/
def depN (fP : Nat → Int32) : Nat → Nat → Nat
  | 0, _ => 0
  | n + 1, k => if k = 0 then 0 else 1 + depN fP n (fP k).toNatClampNeg
theorem depN_z (fP : Nat → Int32) (n : Nat) : depN fP n 0 = 0 := by
  cases n with
  | zero => rfl
  | succ n => exact if_pos rfl
theorem depN_s (fP : Nat → Int32) (n : Nat) {k : Nat} (h : k ≠ 0) : depN fP (n + 1) k = 1 + depN fP n (fP k).toNatClampNeg := by
  simp only [depN]
  exact if_neg h
theorem depN_fuel {fP : Nat → Int32} {N : Int} (hp : ∀ k : Nat, 1 ≤ k → (k : Int) < N → 0 ≤ (fP k).toInt ∧ (fP k).toInt < k) : ∀ (n m k : Nat), k ≤ n → k ≤ m → (k : Int) < N → depN fP n k = depN fP m k := by
  intro n
  induction n with
  | zero =>
    intro m k h1 _ _
    have e : k = 0 := by omega
    rw [e, depN_z, depN_z]
  | succ n ih =>
    intro m k h1 h2 h3
    by_cases e : k = 0
    · rw [e, depN_z, depN_z]
    · cases m with
      | zero => exact absurd h2 (by omega)
      | succ m =>
        have h4 := hp k (by omega) h3
        have h5 := i_cl (a := fP k) h4.1
        rw [depN_s fP n e, depN_s fP m e, ih m (fP k).toNatClampNeg (by omega) (by omega) (by omega)]
theorem depN_succ {fP : Nat → Int32} {N : Int} {k : Nat} (hp : ∀ k : Nat, 1 ≤ k → (k : Int) < N → 0 ≤ (fP k).toInt ∧ (fP k).toInt < k) (h1 : 1 ≤ k) (h2 : (k : Int) < N) (h3 : k ≤ 40) : depN fP 40 k = 1 + depN fP 40 (fP k).toNatClampNeg := by
  have h4 := hp k h1 h2
  have h5 := i_cl (a := fP k) h4.1
  have e : depN fP 40 k = 1 + depN fP 39 (fP k).toNatClampNeg := depN_s fP 39 (by omega)
  rw [e, depN_fuel hp 39 40 (fP k).toNatClampNeg (by omega) (by omega) (by omega)]
theorem depN_congr {fP gP : Nat → Int32} {N : Int} (hp : ∀ k : Nat, 1 ≤ k → (k : Int) < N → 0 ≤ (fP k).toInt ∧ (fP k).toInt < k) (e : ∀ k : Nat, 1 ≤ k → (k : Int) < N → gP k = fP k) : ∀ (n k : Nat), (k : Int) < N → depN gP n k = depN fP n k := by
  intro n
  induction n with
  | zero => intro k _; rfl
  | succ n ih =>
    intro k hk
    by_cases c : k = 0
    · rw [c, depN_z, depN_z]
    · have h4 := hp k (by omega) hk
      have h5 := i_cl (a := fP k) h4.1
      rw [depN_s gP n c, depN_s fP n c, e k (by omega) hk, ih (fP k).toNatClampNeg (by omega)]
theorem upd_at (f : Nat → Int32) (i : Nat) (x : Int32) : upd f i x i = x := by unfold upd; rw [if_pos rfl]
theorem upd_off {f : Nat → Int32} {i j : Nat} {x : Int32} (h : j ≠ i) : upd f i x j = f j := by unfold upd; rw [if_neg h]
theorem upd_upd (f : Nat → Int32) (i : Nat) (x y : Int32) : upd (upd f i x) i y = upd f i y := by
  funext j
  by_cases h : j = i
  · subst h; rw [upd_at, upd_at]
  · rw [upd_off h, upd_off h, upd_off h]
def FilP (x y : Int32) : Prop := (0 ≤ x.toInt ∧ x.toInt ≤ 4100) ∧ 0 ≤ y.toInt ∧ y.toInt ≤ 255
def LnkP (n : Int) (f : Nat → Int32) : Prop := TgtP n f ∧ compS f n.toNat ≤ 245
/-- a node that the reference is asked to make: may it be, is the name there, is it full -/
def WgM (ok : Prop) (x : Int32) (n : Int) (fK : Nat → Int32) (z : Int) (fX : Nat → Int32) : Prop := ok ∧ (0 ≤ x.toInt ∧ x.toInt < n ∧ (fK x.toNatClampNeg).toInt = 0) ∧ NameP z fX
def EqM (fN fNS : Nat → Int32) (k : Nat) (z : Int) (fX : Nat → Int32) : Prop := (fNS k).toInt = z ∧ ∀ j : Nat, (j : Int) < z → nmF fN fNS k j = (fX j).toInt
def NmdM (n : Int) (fP fN fNS : Nat → Int32) (x : Int32) (z : Int) (fX : Nat → Int32) : Prop := ∃ k : Nat, 1 ≤ k ∧ (k : Int) < n ∧ (fP k).toInt = x.toInt ∧ EqM fN fNS k z fX
def FulM (n : Int) (so : Int32) (fK fP : Nat → Int32) (x : Int32) : Prop := n = 40 ∨ (so.toInt = 0 ∧ (cntK fK n.toNat = 12 ∨ depN fP 40 x.toNatClampNeg = 7))
def AddM (ok : Prop) (r x so : Int32) (n n2 z ts : Int) (fX fK fP fN fNS fO fG fSz fSd fT fTS gK gP gN gNS gO gG gSz gSd gT gTS : Nat → Int32) : Prop :=
  (((r.toInt = -4 ∧ ¬ WgM ok x n fK z fX) ∨ (WgM ok x n fK z fX ∧ r.toInt = -2 ∧ NmdM n fP fN fNS x z fX) ∨ (WgM ok x n fK z fX ∧ r.toInt = -3 ∧ ¬ NmdM n fP fN fNS x z fX ∧ FulM n so fK fP x)) ∧
    n2 = n ∧ gK = fK ∧ gP = fP ∧ gN = fN ∧ gNS = fNS ∧ gO = fO ∧ gG = fG ∧ gSz = fSz ∧ gSd = fSd ∧ gT = fT ∧ gTS = fTS) ∨
  (WgM ok x n fK z fX ∧ ¬ NmdM n fP fN fNS x z fX ∧ ¬ FulM n so fK fP x ∧ r.toInt = n ∧ n2 = n + 1 ∧
    gK = upd fK n.toNat so ∧ gP = upd fP n.toNat x ∧ ((∀ q, q < 30 * n.toNat → gN q = fN q) ∧ ∀ j : Nat, (j : Int) < z → gN (30 * n.toNat + j) = vp_nar .byte (fX j)) ∧ (∃ v : Int32, gNS = upd fNS n.toNat v ∧ v.toInt = z) ∧
    gO = upd fO n.toNat 0 ∧ gG = upd fG n.toNat 0 ∧ gSz = upd fSz n.toNat 0 ∧ gSd = upd fSd n.toNat 0 ∧
    ((∀ q, q < 200 * n.toNat → gT q = fT q) ∧ ∀ j : Nat, (j : Int) < ts → gT (200 * n.toNat + j) = vp_nar .byte (fX (z.toNat + 1 + j))) ∧ ∃ v : Int32, gTS = upd fTS n.toNat v ∧ v.toInt = ts)
def GrowM (ok : Prop) (r x so mo ow gr si sd : Int32) (n n2 z ts : Int) (fX fK fP fN fNS fM fO fG fSz fSd fT fTS gK gP gN gNS gM gO gG gSz gSd gT gTS : Nat → Int32) : Prop :=
  (((r.toInt = -4 ∧ ¬ WgM ok x n fK z fX) ∨ (WgM ok x n fK z fX ∧ r.toInt = -2 ∧ NmdM n fP fN fNS x z fX) ∨ (WgM ok x n fK z fX ∧ r.toInt = -3 ∧ ¬ NmdM n fP fN fNS x z fX ∧ FulM n so fK fP x)) ∧
    n2 = n ∧ gK = fK ∧ gP = fP ∧ gN = fN ∧ gNS = fNS ∧ gM = fM ∧ gO = fO ∧ gG = fG ∧ gSz = fSz ∧ gSd = fSd ∧ gT = fT ∧ gTS = fTS) ∨
  (WgM ok x n fK z fX ∧ ¬ NmdM n fP fN fNS x z fX ∧ ¬ FulM n so fK fP x ∧ r.toInt = n ∧ n2 = n + 1 ∧
    gK = upd fK n.toNat so ∧ gP = upd fP n.toNat x ∧ ((∀ q, q < 30 * n.toNat → gN q = fN q) ∧ ∀ j : Nat, (j : Int) < z → gN (30 * n.toNat + j) = vp_nar .byte (fX j)) ∧ (∃ v : Int32, gNS = upd fNS n.toNat v ∧ v.toInt = z) ∧
    gM = upd fM n.toNat mo ∧ gO = upd fO n.toNat ow ∧ gG = upd fG n.toNat gr ∧ gSz = upd fSz n.toNat si ∧ gSd = upd fSd n.toNat sd ∧
    ((∀ q, q < 200 * n.toNat → gT q = fT q) ∧ ∀ j : Nat, (j : Int) < ts → gT (200 * n.toNat + j) = vp_nar .byte (fX (z.toNat + 1 + j))) ∧ ∃ v : Int32, gTS = upd fTS n.toNat v ∧ v.toInt = ts)
/-- a row with another value at i, or as it was where that value is 0 already -/
def UpZ (g g2 : Nat → Int32) (i : Nat) (v : Int32) : Prop := g2 = upd g i v ∨ (g2 = g ∧ v = 0)
theorem UpZ.of {f g g2 : Nat → Int32} {i i2 : Nat} {v : Int32} (h : UpZ g g2 i2 v) (e : g = upd f i 0) (hi : i2 = i) : g2 = upd f i v := by
  subst hi
  rcases h with h | ⟨h, hv⟩
  · rw [h, e, upd_upd]
  · rw [h, e, hv]
section
variable {ok : Prop} {r x so mo ow gr si sd : Int32} {n n2 z ts : Int} {fX fK fP fN fNS fM fO fG fSz fSd fT fTS gK gP gN gNS gM gO gG gSz gSd gT gTS hM hO hG hSz hSd : Nat → Int32}
theorem AddM.neg (h : AddM ok r x so n n2 z ts fX fK fP fN fNS fO fG fSz fSd fT fTS gK gP gN gNS gO gG gSz gSd gT gTS) (hr : r.toInt < 0) (hn : 0 ≤ n) : GrowM ok r x so mo ow gr si sd n n2 z ts fX fK fP fN fNS fM fO fG fSz fSd fT fTS gK gP gN gNS fM gO gG gSz gSd gT gTS := by
  rcases h with ⟨h1, a1, a2, a3, a4, a5, a6, a7, a8, a9, a10, a11⟩ | h1
  · exact Or.inl ⟨h1, a1, a2, a3, a4, a5, rfl, a6, a7, a8, a9, a10, a11⟩
  · obtain ⟨-, -, -, h4, -⟩ := h1
    omega
theorem AddM.pos (h : AddM ok r x so n n2 z ts fX fK fP fN fNS fO fG fSz fSd fT fTS gK gP gN gNS gO gG gSz gSd gT gTS) (hr : ¬ r.toInt < 0) (eM : hM = upd fM r.toNatClampNeg mo) (eO : UpZ gO hO r.toNatClampNeg ow) (eG : UpZ gG hG r.toNatClampNeg gr) (eS : UpZ gSz hSz r.toNatClampNeg si) (eD : UpZ gSd hSd r.toNatClampNeg sd) : GrowM ok r x so mo ow gr si sd n n2 z ts fX fK fP fN fNS fM fO fG fSz fSd fT fTS gK gP gN gNS hM hO hG hSz hSd gT gTS := by
  have hc := i_cl (a := r) (by omega)
  rcases h with ⟨h1, -⟩ | ⟨b1, b2, b3, b4, b5, b6, b7, b8, b9, b10, b11, b12, b13, b14, b15⟩
  · exfalso
    rcases h1 with h1 | h1 | h1
    · omega
    · have := h1.2.1
      omega
    · have := h1.2.1
      omega
  · have hi : r.toNatClampNeg = n.toNat := by omega
    exact Or.inr ⟨b1, b2, b3, b4, b5, b6, b7, b8, b9, by rw [eM, hi], eO.of b10 hi, eG.of b11 hi, eS.of b12 hi, eD.of b13 hi, b14, b15⟩
end
