/-- a letter as the first tree has it -/
def capF (c : Int) : Int := if 97 ≤ c ∧ c ≤ 122 then c - 32 else if (65 ≤ c ∧ c ≤ 90) ∨ (48 ≤ c ∧ c ≤ 57) then c else 95
theorem capF_rng (c : Int) : 48 ≤ capF c ∧ capF c ≤ 95 := by
  unfold capF
  split
  · omega
  · split <;> omega
/-- the last dot below i that isn't the first character; 0: none -/
def ldF (nm : Nat → Int) : Nat → Nat
  | 0 => 0
  | i + 1 => if 1 ≤ i ∧ nm i = 46 then i else ldF nm i
theorem ldF_hit {nm : Nat → Int} {i : Nat} (h : 1 ≤ i) (h2 : nm i = 46) : ldF nm (i + 1) = i := by
  simp only [ldF]
  exact if_pos ⟨h, h2⟩
theorem ldF_miss {nm : Nat → Int} {i : Nat} (h : ¬ (1 ≤ i ∧ nm i = 46)) : ldF nm (i + 1) = ldF nm i := by
  simp only [ldF]
  exact if_neg h
theorem ldF_1 (nm : Nat → Int) : ldF nm 1 = 0 := ldF_miss (fun h => absurd h.1 (by omega))
theorem ldF_lt (nm : Nat → Int) (i : Nat) : ldF nm i = 0 ∨ ldF nm i < i := by
  induction i with
  | zero => exact Or.inl rfl
  | succ i ih =>
    by_cases c : 1 ≤ i ∧ nm i = 46
    · rw [ldF_hit c.1 c.2]; omega
    · rw [ldF_miss c]; omega
theorem ldF_congr {f g : Nat → Int} {n : Nat} (e : ∀ j, j < n → f j = g j) {i : Nat} (h : i ≤ n) : ldF f i = ldF g i := by
  induction i with
  | zero => rfl
  | succ i ih =>
    simp only [ldF]
    rw [ih (by omega), e i (by omega)]
def dtF (nm : Nat → Int) (ln : Nat) (kd : Int) : Nat := if kd = 0 ∨ ldF nm ln = 0 then ln else ldF nm ln
theorem dtF_le (nm : Nat → Int) (ln : Nat) (kd : Int) : dtF nm ln kd ≤ ln := by
  have := ldF_lt nm ln
  unfold dtF
  split <;> omega
theorem dtF_congr {f g : Nat → Int} {n : Nat} {kd : Int} (e : ∀ j, j < n → f j = g j) : dtF f n kd = dtF g n kd := by
  unfold dtF
  rw [ldF_congr e (Nat.le_refl n)]
/-- the key of a name -/
def pkF (nm : Nat → Int) (ln : Nat) (kd : Int) (j : Nat) : Int :=
  if j < 8 then (if j < dtF nm ln kd then capF (nm j) else 32) else (if dtF nm ln kd + 1 + (j - 8) < ln then capF (nm (dtF nm ln kd + 1 + (j - 8))) else 32)
theorem pkF_congr {f g : Nat → Int} {n : Nat} {kd : Int} (e : ∀ j, j < n → f j = g j) (j : Nat) : pkF f n kd j = pkF g n kd j := by
  have h := dtF_le g n kd
  unfold pkF
  rw [dtF_congr e]
  by_cases a : j < 8
  · rw [if_pos a, if_pos a]
    by_cases b : j < dtF g n kd
    · rw [if_pos b, if_pos b, e j (by omega)]
    · rw [if_neg b, if_neg b]
  · rw [if_neg a, if_neg a]
    by_cases b : dtF g n kd + 1 + (j - 8) < n
    · rw [if_pos b, if_pos b, e _ b]
    · rw [if_neg b, if_neg b]
/-- what is kept of the base -/
def kpF (nm : Nat → Int) (ln : Nat) (kd : Int) : Nat := if dtF nm ln kd < 5 then dtF nm ln kd else 5
theorem kpF_le (nm : Nat → Int) (ln : Nat) (kd : Int) : kpF nm ln kd ≤ 5 := by
  unfold kpF
  split <;> omega
theorem kpF_congr {f g : Nat → Int} {n : Nat} {kd : Int} (e : ∀ j, j < n → f j = g j) : kpF f n kd = kpF g n kd := by
  unfold kpF
  rw [dtF_congr e]
/-- with a number -/
def nkF (X : Nat → Int) (m v j : Nat) : Int := if j = m then 48 + ((v / 100 : Nat) : Int) else if j = m + 1 then 48 + ((v / 10 % 10 : Nat) : Int) else if j = m + 2 then 48 + ((v % 10 : Nat) : Int) else X j
theorem nkF_congr {X Y : Nat → Int} {m v j : Nat} (h : X j = Y j) : nkF X m v j = nkF Y m v j := by
  unfold nkF
  rw [h]
theorem nkF_nk {X Y : Nat → Int} {m v w j : Nat} (h : ∀ i, i ≠ m → i ≠ m + 1 → i ≠ m + 2 → X i = Y i) : nkF X m v j = nkF Y m v j := by
  unfold nkF
  by_cases a : j = m
  · rw [if_pos a, if_pos a]
  · rw [if_neg a, if_neg a]
    by_cases b : j = m + 1
    · rw [if_pos b, if_pos b]
    · rw [if_neg b, if_neg b]
      by_cases c : j = m + 2
      · rw [if_pos c, if_pos c]
      · rw [if_neg c, if_neg c]
        exact h j a b c
/-- a lower one of the directory has it -/
def Tkn (K : Nat → Nat → Int) (par : Nat → Int) (k : Nat) (Z : Nat → Int) : Prop := ∃ q, 1 ≤ q ∧ q < k ∧ par q = par k ∧ ∀ j, j < 11 → K q j = Z j
def KeyAt (T : (Nat → Int) → Prop) (X : Nat → Int) (m : Nat) (Y : Nat → Int) : Prop :=
  (¬ T X ∧ ∀ j, j < 11 → Y j = X j) ∨ (T X ∧ ∃ v, v < 1000 ∧ (∀ w, w < v → T (nkF X m w)) ∧ ¬ T (nkF X m v) ∧ ∀ j, j < 11 → Y j = nkF X m v j)
theorem KeyAt_uniq {T T2 : (Nat → Int) → Prop} {X X2 Y Y2 : Nat → Int} {m m2 : Nat} (hT : ∀ Z Z2 : Nat → Int, (∀ j, j < 11 → Z j = Z2 j) → (T Z ↔ T2 Z2)) (hX : ∀ j, j < 11 → X j = X2 j) (hm : m = m2) (h : KeyAt T X m Y) (h2 : KeyAt T2 X2 m2 Y2) : ∀ j, j < 11 → Y j = Y2 j := by
  subst hm
  intro j hj
  have hn : ∀ v, T (nkF X m v) ↔ T2 (nkF X2 m v) := fun v => hT _ _ (fun i hi => nkF_congr (hX i hi))
  rcases h with ⟨a, b⟩ | ⟨a, v, hv, b, c, d⟩
  · rcases h2 with ⟨_, e⟩ | ⟨e, _⟩
    · rw [b j hj, e j hj, hX j hj]
    · exact absurd ((hT X X2 hX).mpr e) a
  · rcases h2 with ⟨e, _⟩ | ⟨_, w, hw, e, f, g⟩
    · exact absurd ((hT X X2 hX).mp a) e
    · have hvw : v = w := by
        rcases Nat.lt_trichotomy v w with l | l | l
        · exact absurd ((hn v).mpr (e v l)) c
        · exact l
        · exact absurd ((hn w).mp (b w l)) f
      subst hvw
      rw [d j hj, g j hj, nkF_congr (hX j hj)]
theorem KeyAt.new {T : (Nat → Int) → Prop} {X Y : Nat → Int} {m : Nat} (hT : ∀ Z Z2 : Nat → Int, (∀ j, j < 11 → Z j = Z2 j) → T Z → T Z2) (h : KeyAt T X m Y) : ¬ T Y := by
  rcases h with ⟨a, b⟩ | ⟨_, v, _, _, c, d⟩
  · exact fun t => a (hT _ _ b t)
  · exact fun t => c (hT _ _ d t)
theorem Tkn_congr {K : Nat → Nat → Int} {par : Nat → Int} {k : Nat} {Z Z2 : Nat → Int} (h : ∀ j, j < 11 → Z j = Z2 j) (t : Tkn K par k Z) : Tkn K par k Z2 := by
  obtain ⟨q, a, b, c, d⟩ := t
  exact ⟨q, a, b, c, fun j hj => (d j hj).trans (h j hj)⟩
theorem Tkn_to {K K2 : Nat → Nat → Int} {par par2 : Nat → Int} {k : Nat} {Z Z2 : Nat → Int} (h : ∀ j, j < 11 → Z j = Z2 j) (hK : ∀ q, 1 ≤ q → q < k → ∀ j, j < 11 → K q j = K2 q j) (hp : ∀ q, 1 ≤ q → q ≤ k → par q = par2 q) (t : Tkn K par k Z) : Tkn K2 par2 k Z2 := by
  obtain ⟨q, a, b, c, d⟩ := t
  exact ⟨q, a, b, by rw [← hp q a (by omega), ← hp k (by omega) (Nat.le_refl k)]; exact c, fun j hj => by rw [← hK q a b j hj, d j hj, h j hj]⟩
/-- the keys of all nodes below N -/
def KeyP (N : Nat) (par kd : Nat → Int) (ln : Nat → Nat) (nm K : Nat → Nat → Int) : Prop := ∀ k, 1 ≤ k → k < N → KeyAt (Tkn K par k) (pkF (nm k) (ln k) (kd k)) (kpF (nm k) (ln k) (kd k)) (K k)
theorem KeyP_0 {N : Nat} {par kd : Nat → Int} {ln : Nat → Nat} {nm K : Nat → Nat → Int} (h : N ≤ 1) : KeyP N par kd ln nm K := fun k h1 h2 => absurd h2 (by omega)
theorem KeyAt_to {T T2 : (Nat → Int) → Prop} {X X2 Y Y2 : Nat → Int} {m m2 : Nat} (hT : ∀ Z Z2 : Nat → Int, (∀ j, j < 11 → Z j = Z2 j) → (T Z ↔ T2 Z2)) (hX : ∀ j, j < 11 → X j = X2 j) (hm : m = m2) (hY : ∀ j, j < 11 → Y j = Y2 j) (h : KeyAt T X m Y) : KeyAt T2 X2 m2 Y2 := by
  subst hm
  have hn : ∀ v, T (nkF X m v) ↔ T2 (nkF X2 m v) := fun v => hT _ _ (fun i hi => nkF_congr (hX i hi))
  rcases h with ⟨a, b⟩ | ⟨a, v, hv, b, c, d⟩
  · exact Or.inl ⟨fun t => a ((hT X X2 hX).mpr t), fun j hj => by rw [← hY j hj, b j hj, hX j hj]⟩
  · exact Or.inr ⟨(hT X X2 hX).mp a, v, hv, fun w hw => (hn w).mp (b w hw), fun t => c ((hn v).mpr t), fun j hj => by rw [← hY j hj, d j hj, nkF_congr (hX j hj)]⟩
theorem KeyP_push {N : Nat} {par kd par2 kd2 : Nat → Int} {ln ln2 : Nat → Nat} {nm K nm2 K2 : Nat → Nat → Int} (h : KeyP N par kd ln nm K) (e1 : ∀ k, 1 ≤ k → k < N → par k = par2 k) (e2 : ∀ k, k < N → kd k = kd2 k) (e3 : ∀ k, k < N → ln k = ln2 k) (e4 : ∀ k, k < N → ∀ j, j < ln k → nm k j = nm2 k j) (e5 : ∀ k, k < N → ∀ j, j < 11 → K k j = K2 k j)
    (hn : 1 ≤ N → KeyAt (Tkn K2 par2 N) (pkF (nm2 N) (ln2 N) (kd2 N)) (kpF (nm2 N) (ln2 N) (kd2 N)) (K2 N)) : KeyP (N + 1) par2 kd2 ln2 nm2 K2 := by
  intro k h1 h2
  by_cases e : k = N
  · subst e; exact hn h1
  · have hk : k < N := by omega
    have q := h k h1 hk
    have e6 := e4 k hk
    rw [e3 k hk, e2 k hk] at q
    rw [e3 k hk] at e6
    refine KeyAt_to (fun Z Z2 hZ => ⟨Tkn_to hZ (fun q h3 h4 => e5 q (by omega)) (fun q h3 h4 => e1 q h3 (by omega)), Tkn_to (fun j hj => (hZ j hj).symm) (fun q h3 h4 j hj => (e5 q (by omega) j hj).symm) (fun q h3 h4 => (e1 q h3 (by omega)).symm)⟩) (fun j _ => pkF_congr e6 j) (kpF_congr e6) (e5 k hk) q
theorem KeyP_uniq {N : Nat} {par kd par2 kd2 : Nat → Int} {ln ln2 : Nat → Nat} {nm K nm2 K2 : Nat → Nat → Int} (h : KeyP N par kd ln nm K) (h2 : KeyP N par2 kd2 ln2 nm2 K2) (e1 : ∀ k, 1 ≤ k → k < N → par k = par2 k) (e2 : ∀ k, k < N → kd k = kd2 k) (e3 : ∀ k, k < N → ln k = ln2 k) (e4 : ∀ k, k < N → ∀ j, j < ln k → nm k j = nm2 k j) : ∀ k, 1 ≤ k → k < N → ∀ j, j < 11 → K k j = K2 k j := by
  intro k
  induction k using Nat.strongRecOn with
  | _ k ih =>
    intro h1 hk
    have q := h k h1 hk
    have q2 := h2 k h1 hk
    have e6 := e4 k hk
    rw [e3 k hk, e2 k hk] at q
    rw [e3 k hk] at e6
    exact KeyAt_uniq (fun Z Z2 hZ => ⟨Tkn_to hZ (fun q h3 h4 => ih q h4 h3 (by omega)) (fun q h3 h4 => e1 q h3 (by omega)), Tkn_to (fun j hj => (hZ j hj).symm) (fun q h3 h4 j hj => (ih q h4 h3 (by omega) j hj).symm) (fun q h3 h4 => (e1 q h3 (by omega)).symm)⟩) (fun j _ => pkF_congr e6 j) (kpF_congr e6) q q2
/-- how many letters stand ahead of the blanks -/
def LenP (Y : Nat → Int) (x y : Nat) (r : Int) : Prop := (0 ≤ r ∧ r ≤ y) ∧ (∀ i : Nat, (i : Int) < r → Y (x + i) ≠ 32) ∧ (r < y → Y (x + r.toNat) = 32)
theorem LenP_uniq {Y Y2 : Nat → Int} {x y : Nat} {r r2 : Int} (h : LenP Y x y r) (h2 : LenP Y2 x y r2) (e : ∀ i, i < y → Y (x + i) = Y2 (x + i)) : r = r2 := by
  have a := h.1
  have b := h2.1
  rcases Int.lt_trichotomy r r2 with l | l | l
  · exfalso
    have c := h.2.2 (by omega)
    rw [e r.toNat (by omega)] at c
    exact h2.2.1 r.toNat (by omega) c
  · exact l
  · exfalso
    have c := h2.2.2 (by omega)
    rw [← e r2.toNat (by omega)] at c
    exact h.2.1 r2.toNat (by omega) c
theorem LenP_ex (Y : Nat → Int) (x y : Nat) : ∃ r, LenP Y x y r := by
  induction y with
  | zero => exact ⟨0, by omega, fun i hi => absurd hi (by omega), fun h => absurd h (by omega)⟩
  | succ y ih =>
    obtain ⟨r, a, b, c⟩ := ih
    by_cases e : r = y
    · by_cases f : Y (x + y) = 32
      · exact ⟨r, by omega, b, fun _ => by rw [e]; exact f⟩
      · refine ⟨r + 1, by omega, fun i hi => ?_, fun h => absurd h (by omega)⟩
        by_cases g : (i : Int) < r
        · exact b i g
        · rw [show i = y by omega]; exact f
    · exact ⟨r, by omega, b, fun _ => c (by omega)⟩
theorem pk_kp {nm : Nat → Int} {ln : Nat} {kd r : Int} {Y : Nat → Int} (e : ∀ j, j < 11 → Y j = pkF nm ln kd j) (h : LenP Y 0 8 r) : ((kpF nm ln kd : Nat) : Int) = if r < 5 then r else 5 := by
  have a := h.1
  have hin : ∀ i : Nat, i < 8 → i < dtF nm ln kd → Y (0 + i) ≠ 32 := fun i h1 h2 => by
    rw [Nat.zero_add, e i (by omega)]
    unfold pkF
    rw [if_pos h1, if_pos h2]
    have := capF_rng (nm i)
    omega
  have hout : ∀ i : Nat, i < 8 → ¬ i < dtF nm ln kd → Y (0 + i) = 32 := fun i h1 h2 => by
    rw [Nat.zero_add, e i (by omega)]
    unfold pkF
    rw [if_pos h1, if_neg h2]
  unfold kpF
  by_cases c : r < 5
  · have b := h.2.2 (by omega)
    have d : ¬ r.toNat < dtF nm ln kd := fun z => hin r.toNat (by omega) z b
    have f : ¬ dtF nm ln kd < r.toNat := fun z => h.2.1 (dtF nm ln kd) (by omega) (hout _ (by omega) (Nat.lt_irrefl _))
    rw [if_pos c, if_pos (by omega)]
    omega
  · have d : ¬ dtF nm ln kd < 5 := fun z => h.2.1 (dtF nm ln kd) (by omega) (hout _ (by omega) (Nat.lt_irrefl _))
    rw [if_neg c, if_neg d]
    rfl
theorem i_and1 {w : Int32} (h : 0 ≤ w.toInt) : (w &&& 1).toInt = w.toInt % 2 := by
  have h1 : w.toBitVec.toNat < 2147483648 := by
    have h2 : w.toBitVec.toInt = w.toInt := rfl
    rw [BitVec.toInt_eq_toNat_cond] at h2
    have := w.toBitVec.isLt
    split at h2 <;> omega
  have h3 : (w &&& 1).toBitVec.toNat = w.toBitVec.toNat % 2 := by
    rw [Int32.toBitVec_and, BitVec.toNat_and]
    exact Nat.and_two_pow_sub_one_eq_mod w.toBitVec.toNat 1
  rw [i_tn (a := w &&& 1) (by omega), i_tn (a := w) h1, h3]
  omega
/-- the ends of parts, as a list -/
def EnL (uc : Int) (ef : Nat → Int32) (cs : List Int) : Prop := uc = cs.length ∧ ∀ j, j < cs.length → (ef j).toInt = cs.getD j 0
theorem EnL_0 {uc : Int} {ef : Nat → Int32} (h : uc = 0) : EnL uc ef [] := ⟨h, fun j hj => absurd hj (Nat.not_lt_zero j)⟩
theorem EnL_push {uc uc2 : Int} {ef eg : Nat → Int32} {cs : List Int} {i : Nat} {x : Int32} {y : Int} (h : EnL uc ef cs) (e : eg = upd ef i x) (hi : (i : Int) = uc) (hu : uc2 = uc + 1) (hx : x.toInt = y) : EnL uc2 eg (cs ++ [y]) := by
  have hl := h.1
  have hlen : (cs ++ [y]).length = cs.length + 1 := by rw [List.length_append]; rfl
  refine ⟨by omega, fun j hj => ?_⟩
  by_cases c : j = cs.length
  · rw [List.getD_eq_getElem?_getD, List.getElem?_append_right (by omega), show j - cs.length = 0 by omega, e, show j = i by omega, upd_at]
    exact hx
  · rw [List.getD_eq_getElem?_getD, List.getElem?_append_left (by omega), ← List.getD_eq_getElem?_getD, e, upd_off (by omega)]
    exact h.2 j (by omega)
/-- what stays in the record, beginning with part i -/
def kpL (room : Int) (cs : List Int) : Nat → Int → Int
  | 0, k => k
  | n + 1, k => if cs.getD (cs.length - (n + 1)) 0 + 28 ≤ room then kpL room cs n (cs.getD (cs.length - (n + 1)) 0) else k
theorem kpL_go {room k : Int} {cs : List Int} {i : Nat} (hi : i < cs.length) (h : cs.getD i 0 + 28 ≤ room) : kpL room cs (cs.length - i) k = kpL room cs (cs.length - (i + 1)) (cs.getD i 0) := by
  rw [show cs.length - i = cs.length - (i + 1) + 1 by omega]
  simp only [kpL]
  rw [show cs.length - (cs.length - (i + 1) + 1) = i by omega, if_pos h]
theorem kpL_stop {room k : Int} {cs : List Int} {i : Nat} (hi : i < cs.length) (h : ¬ cs.getD i 0 + 28 ≤ room) : kpL room cs (cs.length - i) k = k := by
  rw [show cs.length - i = cs.length - (i + 1) + 1 by omega]
  simp only [kpL]
  rw [show cs.length - (cs.length - (i + 1) + 1) = i by omega, if_neg h]
theorem kpL_end {room k : Int} {cs : List Int} {i : Nat} (hi : ¬ i < cs.length) : kpL room cs (cs.length - i) k = k := by
  rw [show cs.length - i = 0 by omega]
  rfl
def ktL (room all : Int) (cs : List Int) : Int := if all ≤ room then all else kpL room cs cs.length 0
/-- the numbers that were tried -/
def MdI (T : (Nat → Int) → Prop) (X : Nat → Int) (m k : Nat) (f : Nat → Int) : Prop :=
  (k = 0 ∧ ∀ j, j < 11 → f j = X j) ∨ (1 ≤ k ∧ T X ∧ (∀ w, w + 1 < k → T (nkF X m w)) ∧ ∀ j, j < 11 → f j = nkF X m (k - 1) j)
theorem MdI_step {T : (Nat → Int) → Prop} {X f g : Nat → Int} {m k k2 : Nat} (hT : ∀ Z Z2 : Nat → Int, (∀ j, j < 11 → Z j = Z2 j) → T Z → T Z2) (h : MdI T X m k f) (ht : T f) (e : ∀ j, j < 11 → g j = nkF f m k j) (hk : k2 = k + 1) : MdI T X m k2 g := by
  subst hk
  rcases h with ⟨a, b⟩ | ⟨a, b, c, d⟩
  · refine Or.inr ⟨by omega, hT _ _ b ht, fun w hw => absurd hw (by omega), fun j hj => ?_⟩
    rw [e j hj, show k + 1 - 1 = k by omega]
    exact nkF_congr (b j hj)
  · refine Or.inr ⟨by omega, b, fun w hw => ?_, fun j hj => ?_⟩
    · by_cases c1 : w + 1 < k
      · exact c w c1
      · rw [show w = k - 1 by omega]; exact hT _ _ d ht
    · rw [e j hj, show k + 1 - 1 = k by omega]
      unfold nkF
      by_cases c0 : j = m
      · rw [if_pos c0, if_pos c0]
      · rw [if_neg c0, if_neg c0]
        by_cases c1 : j = m + 1
        · rw [if_pos c1, if_pos c1]
        · rw [if_neg c1, if_neg c1]
          by_cases c2 : j = m + 2
          · rw [if_pos c2, if_pos c2]
          · rw [if_neg c2, if_neg c2, d j hj]
            unfold nkF
            rw [if_neg c0, if_neg c1, if_neg c2]
theorem MdI_end {T : (Nat → Int) → Prop} {X f : Nat → Int} {m k : Nat} (hT : ∀ Z Z2 : Nat → Int, (∀ j, j < 11 → Z j = Z2 j) → T Z → T Z2) (h : MdI T X m k f) (ht : ¬ T f) (hk : k ≤ 1000) : KeyAt T X m f := by
  rcases h with ⟨a, b⟩ | ⟨a, b, c, d⟩
  · exact Or.inl ⟨fun t => ht (hT _ _ (fun j hj => (b j hj).symm) t), b⟩
  · exact Or.inr ⟨b, k - 1, by omega, fun w hw => c w (by omega), fun t => ht (hT _ _ (fun j hj => (d j hj).symm) t), d⟩
