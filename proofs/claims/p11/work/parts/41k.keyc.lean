theorem nar_small {v : Int32} (h : 0 ≤ v.toInt ∧ v.toInt ≤ 127) : vp_nar .byte v = v := i_bsmall h
/-- how far a plain key is laid -/
def PkA (f : Nat → Int32) (nm : Nat → Int) (k : Int) : Prop := ∀ j, j < 11 → (f j).toInt = if (j : Int) < k then capF (nm j) else 32
theorem PkA_0 {f : Nat → Int32} {nm : Nat → Int} {k : Int} (h : ∀ j, j < 11 → f j = 32) (hk : k = 0) : PkA f nm k := fun j hj => by
  rw [if_neg (by omega), h j hj]; decide
theorem PkA_step {f g : Nat → Int32} {nm : Nat → Int} {k k2 : Int} {i : Nat} {v : Int32} (h : PkA f nm k) (e : g = upd f i (vp_nar .byte v)) (hi : (i : Int) = k) (hv : v.toInt = capF (nm i)) (hk : k2 = k + 1) : PkA g nm k2 := fun j hj => by
  have hr := capF_rng (nm i)
  rw [e, nar_small (by omega)]
  by_cases c : j = i
  · rw [c, upd_at, if_pos (by omega)]; exact hv
  · rw [upd_off c, h j hj]
    by_cases d : (j : Int) < k
    · rw [if_pos d, if_pos (by omega)]
    · rw [if_neg d, if_neg (by omega)]
def PkB (f : Nat → Int32) (nm : Nat → Int) (d : Nat) (k : Int) : Prop := ∀ j, j < 11 → (f j).toInt = if j < 8 then (if j < d then capF (nm j) else 32) else if (j : Int) < 8 + k then capF (nm (d + 1 + (j - 8))) else 32
theorem PkB_0 {f : Nat → Int32} {nm : Nat → Int} {d : Nat} {k k2 : Int} (h : PkA f nm k) (h1 : 8 ≤ k ∨ (d : Int) ≤ k) (h2 : k ≤ 8 ∧ k ≤ d) (h3 : k2 = 0) : PkB f nm d k2 := fun j hj => by
  rw [h j hj]
  by_cases a : j < 8
  · rw [if_pos a]
    by_cases b : j < d
    · rw [if_pos b, if_pos (by omega)]
    · rw [if_neg b, if_neg (by omega)]
  · rw [if_neg a, if_neg (by omega), if_neg (by omega)]
theorem PkB_step {f g : Nat → Int32} {nm : Nat → Int} {d i q : Nat} {k k2 : Int} {v : Int32} (h : PkB f nm d k) (e : g = upd f i (vp_nar .byte v)) (hi : (i : Int) = 8 + k) (h0 : 0 ≤ k) (hv : v.toInt = capF (nm q)) (hq : (q : Int) = d + 1 + k) (hk : k2 = k + 1) : PkB g nm d k2 := fun j hj => by
  have hr := capF_rng (nm q)
  rw [e, nar_small (by omega)]
  by_cases c : j = i
  · rw [c, upd_at, if_neg (by omega), if_pos (by omega), show d + 1 + (i - 8) = q by omega]; exact hv
  · rw [upd_off c, h j hj]
    by_cases a : j < 8
    · rw [if_pos a, if_pos a]
    · rw [if_neg a, if_neg a]
      by_cases b : (j : Int) < 8 + k
      · rw [if_pos b, if_pos (by omega)]
      · rw [if_neg b, if_neg (by omega)]
theorem PkB_end {f : Nat → Int32} {nm : Nat → Int} {d ln : Nat} {k kd : Int} (h : PkB f nm d k) (hd : d = dtF nm ln kd) (h1 : 3 ≤ k ∨ (ln : Int) ≤ d + 1 + k) (h2 : k = 0 ∨ (d : Int) + k < ln) (h3 : 0 ≤ k ∧ k ≤ 3) : ∀ j, j < 11 → (f j).toInt = pkF nm ln kd j := fun j hj => by
  rw [h j hj]
  unfold pkF
  rw [← hd]
  by_cases a : j < 8
  · rw [if_pos a, if_pos a]
  · rw [if_neg a, if_neg a]
    by_cases b : (j : Int) < 8 + k
    · rw [if_pos b, if_pos (by omega)]
    · rw [if_neg b, if_neg (by omega)]
theorem nk_of {f f1 f2 f3 : Nat → Int32} {m i1 i2 v : Nat} {a b c : Int32} (e1 : f1 = upd f m (vp_nar .byte a)) (e2 : f2 = upd f1 i1 (vp_nar .byte b)) (e3 : f3 = upd f2 i2 (vp_nar .byte c)) (h1 : i1 = m + 1) (h2 : i2 = m + 2) (ha : a.toInt = 48 + ((v / 100 : Nat) : Int)) (hb : b.toInt = 48 + ((v / 10 % 10 : Nat) : Int)) (hc : c.toInt = 48 + ((v % 10 : Nat) : Int)) (hv : v < 1000) : ∀ j, j < 11 → (f3 j).toInt = nkF (fun i => (f i).toInt) m v j := fun j _ => by
  rw [e3, nar_small (by omega), e2, nar_small (by omega), e1, nar_small (by omega)]
  unfold nkF
  by_cases c0 : j = m
  · rw [if_pos c0, upd_off (by omega), upd_off (by omega), c0, upd_at]; exact ha
  · rw [if_neg c0]
    by_cases c1 : j = m + 1
    · rw [if_pos c1, upd_off (by omega), h1, c1, upd_at]; exact hb
    · rw [if_neg c1]
      by_cases c2 : j = m + 2
      · rw [if_pos c2, h2, c2, upd_at]; exact hc
      · rw [if_neg c2, upd_off (by omega), upd_off (by omega), upd_off c0]
/-- a lower one of the directory has the key -/
def TknZ (cm : Nat) (ng : Nat → Nat → Int32) (nf : Nat → Nat → Nat → Int32) (pa : Int32) (Z : Nat → Int) : Prop := ∃ q, 1 ≤ q ∧ q < cm ∧ (ng q 2).toInt = pa.toInt ∧ ∀ j, j < 11 → (nf q 2 j).toInt = Z j
theorem TknZ_congr {cm : Nat} {ng : Nat → Nat → Int32} {nf : Nat → Nat → Nat → Int32} {pa : Int32} {Z Z2 : Nat → Int} (h : ∀ j, j < 11 → Z j = Z2 j) (t : TknZ cm ng nf pa Z) : TknZ cm ng nf pa Z2 := by
  obtain ⟨q, a, b, c, d⟩ := t
  exact ⟨q, a, b, c, fun j hj => (d j hj).trans (h j hj)⟩
theorem Md_lt {cm m v : Nat} {ng : Nat → Nat → Int32} {nf : Nat → Nat → Nat → Int32} {pa : Int32} {X : Nat → Int} (h : ∀ w, w < v → TknZ cm ng nf pa (nkF X m w)) (hm : m ≤ 5) (hv : v ≤ 1000) (h1 : 1 ≤ cm) : v + 1 ≤ cm := by
  have hd : DG (fun q j => (nf q 2 j).toInt) m cm v := by
    refine ⟨fun w => @dite Nat (w < v) (Nat.decLt w v) (fun h2 => Classical.choose (h w h2)) (fun _ => 0), fun w hw => ?_⟩
    have q := Classical.choose_spec (h w hw)
    simp only [dif_pos hw]
    refine ⟨q.1, q.2.1, ?_, ?_, ?_⟩
    · rw [q.2.2.2 m (by omega)]; unfold nkF; rw [if_pos rfl]
    · rw [q.2.2.2 (m + 1) (by omega)]; unfold nkF; rw [if_neg (by omega), if_pos rfl]
    · rw [q.2.2.2 (m + 2) (by omega)]; unfold nkF; rw [if_neg (by omega), if_neg (by omega), if_pos rfl]
  exact DG_le hd hv h1
theorem MdI_lt {cm m k : Nat} {ng : Nat → Nat → Int32} {nf : Nat → Nat → Nat → Int32} {pa : Int32} {X f : Nat → Int} (h : MdI (TknZ cm ng nf pa) X m k f) (hm : m ≤ 5) (hk : k ≤ 1000) (h1 : 1 ≤ cm) (h40 : cm ≤ 40) : k ≤ 41 := by
  rcases h with ⟨a, _⟩ | ⟨a, b, c, d⟩
  · omega
  · have := Md_lt (v := k - 1) (fun w hw => c w (by omega)) hm (by omega) h1
    omega
/-- the keys of the class's nodes -/
def KeyC (cm : Nat) (ng : Nat → Nat → Int32) (nn : Nat → Nat → Nat) (nf : Nat → Nat → Nat → Int32) : Prop := KeyP cm (fun k => (ng k 2).toInt) (fun k => (ng k 0).toInt) (fun k => nn k 1) (fun k j => (nf k 1 j).toInt) (fun k j => (nf k 2 j).toInt)
theorem KeyC_push {cm : Nat} {ng ng2 : Nat → Nat → Int32} {nn nn2 : Nat → Nat → Nat} {nf nf2 : Nat → Nat → Nat → Int32} {v : Nat → Int32} {y : Nat → Nat} {c : Nat → Nat → Int32} {pa so : Int32} {l1 : Nat} {c1 c2 : Nat → Int32} (h : KeyC cm ng nn nf) (e1 : ng2 = upK ng cm v) (e2 : nn2 = upK nn cm y) (e3 : nf2 = upK nf cm c) (v0 : v 0 = so) (v2 : v 2 = pa) (y1 : y 1 = l1) (h1 : c 1 = c1) (h2 : c 2 = c2)
    (hk : KeyAt (TknZ cm ng nf pa) (pkF (fun i => (c1 i).toInt) l1 so.toInt) (kpF (fun i => (c1 i).toInt) l1 so.toInt) (fun j => (c2 j).toInt)) : KeyC (cm + 1) ng2 nn2 nf2 := by
  have og : ∀ k, k < cm → ng2 k = ng k := fun k hk => by rw [e1]; exact upK_off (by omega)
  have on : ∀ k, k < cm → nn2 k = nn k := fun k hk => by rw [e2]; exact upK_off (by omega)
  have ofk : ∀ k, k < cm → nf2 k = nf k := fun k hk => by rw [e3]; exact upK_off (by omega)
  have ngn : ng2 cm = v := by rw [e1]; exact upK_at
  have nnn : nn2 cm = y := by rw [e2]; exact upK_at
  have nfn : nf2 cm = c := by rw [e3]; exact upK_at
  refine KeyP_push h (fun k _ hk => by show (ng k 2).toInt = (ng2 k 2).toInt; rw [og k hk]) (fun k hk => by show (ng k 0).toInt = (ng2 k 0).toInt; rw [og k hk]) (fun k hk => by show nn k 1 = nn2 k 1; rw [on k hk]) (fun k hk j _ => by show (nf k 1 j).toInt = (nf2 k 1 j).toInt; rw [ofk k hk]) (fun k hk j _ => by show (nf k 2 j).toInt = (nf2 k 2 j).toInt; rw [ofk k hk]) (fun _ => ?_)
  show KeyAt (Tkn (fun k j => (nf2 k 2 j).toInt) (fun k => (ng2 k 2).toInt) cm) (pkF (fun j => (nf2 cm 1 j).toInt) (nn2 cm 1) (ng2 cm 0).toInt) (kpF (fun j => (nf2 cm 1 j).toInt) (nn2 cm 1) (ng2 cm 0).toInt) (fun j => (nf2 cm 2 j).toInt)
  rw [ngn, nnn, nfn, h1, h2, y1, v0]
  refine KeyAt_to (fun Z Z2 hZ => ⟨fun t => ?_, fun t => ?_⟩) (fun _ _ => rfl) rfl (fun _ _ => rfl) hk
  · obtain ⟨q, a, b, c3, d⟩ := t
    exact ⟨q, a, b, by show (ng2 q 2).toInt = (ng2 cm 2).toInt; rw [og q b, ngn, v2]; exact c3, fun j hj => by show (nf2 q 2 j).toInt = Z2 j; rw [ofk q b, d j hj, hZ j hj]⟩
  · obtain ⟨q, a, b, c3, d⟩ := t
    have c4 : (ng2 q 2).toInt = (ng2 cm 2).toInt := c3
    rw [og q b, ngn, v2] at c4
    exact ⟨q, a, b, c4, fun j hj => by
      have d2 : (nf2 q 2 j).toInt = Z2 j := d j hj
      rw [ofk q b] at d2
      rw [d2, hZ j hj]⟩
/-- what is known of a node by its numbers -/
def DtN (dt : Nat → Nat → Int) (k : Nat) (so : Int32) (l1 : Nat) (c2 : Nat → Int32) (l3 : Nat) (c3 : Nat → Int32) (pa si sd : Int32) : Prop :=
  (dt 0 k = so.toInt ∧ dt 1 k = l1 ∧ dt 4 k = compS c3 l3 ∧ dt 5 k = pa.toInt ∧ dt 6 k = si.toInt ∧ dt 7 k = sd.toInt) ∧ LenP (fun j => (c2 j).toInt) 0 8 (dt 2 k) ∧ LenP (fun j => (c2 j).toInt) 8 3 (dt 3 k)
def DtC (dt : Nat → Nat → Int) (cm : Nat) (ng : Nat → Nat → Int32) (nn : Nat → Nat → Nat) (nf : Nat → Nat → Nat → Int32) : Prop := ∀ k, k < cm → DtN dt k (ng k 0) (nn k 1) (nf k 2) (nn k 3) (nf k 3) (ng k 2) (ng k 7) (ng k 8)
theorem DtC_ex (cm : Nat) (ng : Nat → Nat → Int32) (nn : Nat → Nat → Nat) (nf : Nat → Nat → Nat → Int32) : ∃ dt, DtC dt cm ng nn nf := by
  refine ⟨fun i k => if i = 0 then (ng k 0).toInt else if i = 1 then (nn k 1 : Int) else if i = 2 then Classical.choose (LenP_ex (fun j => (nf k 2 j).toInt) 0 8) else if i = 3 then Classical.choose (LenP_ex (fun j => (nf k 2 j).toInt) 8 3) else if i = 4 then compS (nf k 3) (nn k 3) else if i = 5 then (ng k 2).toInt else if i = 6 then (ng k 7).toInt else (ng k 8).toInt, fun k _ => ⟨⟨rfl, rfl, rfl, rfl, rfl, rfl⟩, ?_, ?_⟩⟩
  · exact Classical.choose_spec (LenP_ex (fun j => (nf k 2 j).toInt) 0 8)
  · exact Classical.choose_spec (LenP_ex (fun j => (nf k 2 j).toInt) 8 3)
/-- the keys by which the class orders -/
def KC (ln : Int) (nn : Nat → Nat → Nat) (nf : Nat → Nat → Nat → Int32) : Nat → Nat → Int := if ln = 0 then (fun k j => (nf k 2 j).toInt) else (fun k j => if j < nn k 1 then (nf k 1 j).toInt else 0)
def NLC (ln : Int) : Nat := if ln = 0 then 11 else 30
/-- bytes of names and keys -/
def NmOK (cm : Nat) (nn : Nat → Nat → Nat) (nf : Nat → Nat → Nat → Int32) : Prop := ∀ k, k < cm → (nn k 1 ≤ 30 ∧ nn k 3 ≤ 200) ∧ (∀ j, j < nn k 1 → 1 ≤ (nf k 1 j).toInt ∧ (nf k 1 j).toInt ≤ 127) ∧ (1 ≤ k → ∀ j, j < 11 → (-128) ≤ (nf k 2 j).toInt ∧ (nf k 2 j).toInt ≤ 127)
theorem cmp_lx {r : Int32} {m1 m2 a b N : Nat} {g1 g2 : Nat → Int32} {K : Nat → Nat → Int} (h : Cmp3 r m1 g1 m2 g2) (ha : ∀ j, j < N → K a j = if j < m1 then (g1 j).toInt else 0) (hb : ∀ j, j < N → K b j = if j < m2 then (g2 j).toInt else 0) (h1 : m1 ≤ N) (h2 : m2 ≤ N) (r1 : ∀ j, j < m1 → (-128) ≤ (g1 j).toInt ∧ (g1 j).toInt ≤ 127) (r2 : ∀ j, j < m2 → (-128) ≤ (g2 j).toInt ∧ (g2 j).toInt ≤ 127) (hz : m1 = m2 ∨ ((∀ j, j < m1 → 1 ≤ (g1 j).toInt) ∧ ∀ j, j < m2 → 1 ≤ (g2 j).toInt)) : 0 < r.toInt ↔ LX K N b a := by
  have irr : LX K N a b → ¬ LX K N b a := fun x y => LX_irr (LX_trans x y)
  rcases h with ⟨e, em, eg⟩ | ⟨k, k1, k2, k3, k4, k5⟩ | ⟨e, k4, k5⟩
  · constructor
    · intro h0; omega
    · intro ⟨i, hi, _, l⟩
      rw [ha i hi, hb i hi, ← em] at l
      by_cases c : i < m1
      · rw [if_pos c, if_pos c, eg i c] at l; omega
      · rw [if_neg c, if_neg c] at l; omega
  · have q1 := r1 k k1
    have q2 := r2 k k2
    have hr : r.toInt = (g1 k).toInt - (g2 k).toInt := by rw [k5]; exact i_sub rfl rfl (by omega) (by omega)
    have pre : ∀ j, j < k → K b j = K a j := fun j hj => by rw [ha j (by omega), hb j (by omega), if_pos (by omega), if_pos (by omega), k3 j hj]
    have ea : K a k = (g1 k).toInt := by rw [ha k (by omega), if_pos k1]
    have eb : K b k = (g2 k).toInt := by rw [hb k (by omega), if_pos k2]
    constructor
    · intro h0
      exact ⟨k, by omega, pre, by omega⟩
    · intro h0
      by_cases c : 0 < r.toInt
      · exact c
      · have hne : (g1 k).toInt ≠ (g2 k).toInt := fun x => k4 (Int32.toInt_inj.mp x)
        exact absurd h0 (irr ⟨k, by omega, fun j hj => (pre j hj).symm, by omega⟩)
  · have hz2 : (∀ j, j < m1 → 1 ≤ (g1 j).toInt) ∧ ∀ j, j < m2 → 1 ≤ (g2 j).toInt := hz.resolve_left k4
    rcases Nat.lt_trichotomy m1 m2 with l | l | l
    · have : LX K N a b := ⟨m1, by omega, fun j hj => by rw [ha j (by omega), hb j (by omega), if_pos hj, if_pos (by omega), e j hj (by omega)], by
        rw [ha m1 (by omega), hb m1 (by omega), if_neg (Nat.lt_irrefl m1), if_pos l]
        have := hz2.2 m1 l
        omega⟩
      exact ⟨fun h0 => absurd h0 (by omega), fun h0 => absurd h0 (irr this)⟩
    · exact absurd l k4
    · have : LX K N b a := ⟨m2, by omega, fun j hj => by rw [ha j (by omega), hb j (by omega), if_pos hj, if_pos (by omega), e j (by omega) hj], by
        rw [ha m2 (by omega), hb m2 (by omega), if_pos l, if_neg (Nat.lt_irrefl m2)]
        have := hz2.1 m2 l
        omega⟩
      exact ⟨fun _ => this, fun _ => by omega⟩
theorem cmp_ky {ln : Int} {r : Int32} {nn : Nat → Nat → Nat} {nf : Nat → Nat → Nat → Int32} {cm a b : Nat} {c2 : Nat → Int32} (hl : ln = 0) (H : Cmp3 r 11 (nf a 2) 11 c2) (hc : c2 = nf b 2) (hn : NmOK cm nn nf) (ha : a < cm) (hb : b < cm) (ha1 : 1 ≤ a) (hb1 : 1 ≤ b) : 0 < r.toInt ↔ LX (KC ln nn nf) (NLC ln) b a := by
  have e1 : KC ln nn nf = (fun k j => (nf k 2 j).toInt) := if_pos hl
  have e2 : NLC ln = 11 := if_pos hl
  rw [e1, e2]
  rw [hc] at H
  exact cmp_lx H (fun j hj => (if_pos hj).symm) (fun j hj => (if_pos hj).symm) (Nat.le_refl _) (Nat.le_refl _) ((hn a ha).2.2 ha1) ((hn b hb).2.2 hb1) (Or.inl rfl)
theorem cmp_nm {ln : Int} {r : Int32} {nn : Nat → Nat → Nat} {nf : Nat → Nat → Nat → Int32} {cm a b l1 : Nat} {c1 : Nat → Int32} (hl : ¬ ln = 0) (H : Cmp3 r (nn a 1) (nf a 1) l1 c1) (hl1 : l1 = nn b 1) (hc : c1 = nf b 1) (hn : NmOK cm nn nf) (ha : a < cm) (hb : b < cm) : 0 < r.toInt ↔ LX (KC ln nn nf) (NLC ln) b a := by
  have e1 : KC ln nn nf = (fun k j => if j < nn k 1 then (nf k 1 j).toInt else 0) := if_neg hl
  have e2 : NLC ln = 30 := if_neg hl
  rw [e1, e2]
  rw [hc, hl1] at H
  have q1 := hn a ha
  have q2 := hn b hb
  exact cmp_lx H (fun j _ => rfl) (fun j _ => rfl) q1.1.1 q2.1.1 (fun j hj => ⟨by have := q1.2.1 j hj; omega, (q1.2.1 j hj).2⟩) (fun j hj => ⟨by have := q2.2.1 j hj; omega, (q2.2.1 j hj).2⟩) (Or.inr ⟨fun j hj => (q1.2.1 j hj).1, fun j hj => (q2.2.1 j hj).1⟩)
theorem compS_rng (f : Nat → Int32) {n : Nat} (h : n ≤ 200) : 0 ≤ compS f n ∧ compS f n ≤ 303 := by
  have h1 := cpT_rng f n (n + 1)
  have h2 := cpF_le f n (n + 1)
  have h3 := t0F_rng f n
  unfold compS
  omega
theorem DtN_R {dt : Nat → Nat → Int} {k : Nat} {so : Int32} {l1 : Nat} {c2 : Nat → Int32} {l3 : Nat} {c3 : Nat → Int32} {pa si sd : Int32} (h : DtN dt k so l1 c2 l3 c3 pa si sd) (h0 : 0 ≤ so.toInt ∧ so.toInt ≤ 2) (h1 : l1 ≤ 30) (h3 : l3 ≤ 200) : DtR dt k := by
  obtain ⟨⟨a0, a1, a4, -⟩, b, c⟩ := h
  have r := compS_rng c3 h3
  have b1 := b.1
  have c1 := c.1
  exact ⟨by omega, by omega, by omega, by omega, by omega⟩
/-- which nodes an order has -/
def Cnd (ln : Int) (ng : Nat → Nat → Int32) (k : Nat) : Prop := ln = 0 ∨ (ng k 0).toInt ≠ 2
def oN (f : Nat → Int32) (i : Nat) : Nat := (f i).toNatClampNeg
def OrdC (ln : Int) (ng : Nat → Nat → Int32) (nn : Nat → Nat → Nat) (nf : Nat → Nat → Nat → Int32) (f : Nat → Int32) (c n : Nat) : Prop := OrdP (KC ln nn nf) (NLC ln) (Cnd ln ng) (oN f) c n
section
variable {ln : Int} {ng : Nat → Nat → Int32} {nn : Nat → Nat → Nat} {nf : Nat → Nat → Nat → Int32} {f l g : Nat → Int32} {a c n c2 n2 b : Nat} {x y : Int32}
theorem oN_upd {i j : Nat} (e : g = upd f i x) (h : j ≠ i) : oN g j = oN f j := by
  unfold oN; rw [e, upd_off h]
theorem oN_at {i : Nat} (e : g = upd f i x) : oN g i = x.toNatClampNeg := by
  unfold oN; rw [e, upd_at]
theorem Hole_go (h : Hole (oN f) (oN l) a c) (hb : a = b + 1) (e : g = upd l a x) (hx : x = l b) : Hole (oN f) (oN g) b c := by
  refine Hole_step h hb ?_ (fun j hj => oN_upd e hj)
  rw [oN_at e, hx]; rfl
theorem OrdC_ins (h : OrdC ln ng nn nf f c n) (hh : Hole (oN f) (oN l) a c) (ha : a ≤ c) (e : g = upd l a x) (hx : x.toNatClampNeg = n) (hn : 1 ≤ n) (hc : Cnd ln ng n) (hl : a = 0 ∨ ¬ LX (KC ln nn nf) (NLC ln) n (oN f (a - 1))) (hg : ∀ j, a ≤ j → j < c → LX (KC ln nn nf) (NLC ln) n (oN f j)) (hc2 : c2 = c + 1) (hn2 : n2 = n + 1) : OrdC ln ng nn nf g c2 n2 := by
  rw [hc2, hn2]
  exact OrdP_ins h hh ha (by rw [oN_at e]; exact hx) (fun j hj => oN_upd e hj) hn hc hl hg
end
/-- the parts of a record, one behind the other -/
def sA (so nu : Int) : List Int := if so = 0 ∧ nu = 0 then [7] else []
def lA (so nu : Int) : Int := if so = 0 ∧ nu = 0 then 7 else 0
def sB (so nu l1 : Int) : List Int := if so = 2 then sA so nu ++ [lA so nu + 36] ++ [lA so nu + 36 + 5 + l1] else sA so nu ++ [lA so nu + 36]
def lB (so nu l1 : Int) : Int := if so = 2 then lA so nu + 36 + 5 + l1 else lA so nu + 36
theorem bp_no {dt : Nat → Nat → Int} {so nu l1 : Int} {k : Nat} (hk : (k : Int) = nu) (h1 : dt 1 k = l1) (hn : dt 0 k ≠ 2) (hs : 0 ≤ so ∧ so ≤ 2) : sB so nu l1 = enS dt so k ∧ lB so nu l1 = alS dt so k := by
  unfold sB lB sA lA enS alS
  by_cases c : so = 2
  · rw [if_pos c, if_pos c, if_neg (fun h => absurd h.1 (by omega)), if_neg (fun h => absurd h.1 (by omega)), if_neg (show ¬ so < 2 by omega), if_neg (show ¬ so < 2 by omega), if_neg hn, if_neg hn, h1]
    refine ⟨?_, by omega⟩
    show [(0 : Int) + 36, 0 + 36 + 5 + l1] = [36, 41 + l1]
    rw [show (0 : Int) + 36 + 5 + l1 = 41 + l1 by omega, show (0 : Int) + 36 = 36 by omega]
  · rw [if_neg c, if_neg c, if_pos (show so < 2 by omega), if_pos (show so < 2 by omega)]
    by_cases d : so = 0 ∧ nu = 0
    · rw [if_pos d, if_pos d, if_pos ⟨d.1, by omega⟩, if_pos ⟨d.1, by omega⟩]
      exact ⟨rfl, by omega⟩
    · rw [if_neg d, if_neg d, if_neg (fun h => d ⟨h.1, by omega⟩), if_neg (fun h => d ⟨h.1, by omega⟩)]
      exact ⟨rfl, by omega⟩
theorem bp_yes {dt : Nat → Nat → Int} {so nu l1 cs : Int} {k : Nat} (h1 : dt 1 k = l1) (h4 : dt 4 k = cs) (hn : dt 0 k = 2) (hs : so = 2) : sB so nu l1 ++ [lB so nu l1 + 5 + cs] = enS dt so k ∧ lB so nu l1 + 5 + cs = alS dt so k := by
  unfold sB lB sA lA enS alS
  rw [if_pos hs, if_pos hs, if_neg (fun h => absurd h.1 (by omega)), if_neg (fun h => absurd h.1 (by omega)), if_neg (show ¬ so < 2 by omega), if_neg (show ¬ so < 2 by omega), if_pos hn, if_pos hn, h1, h4]
  refine ⟨?_, by omega⟩
  show [(0 : Int) + 36, 0 + 36 + 5 + l1, 0 + 36 + 5 + l1 + 5 + cs] = [36, 41 + l1, 46 + l1 + cs]
  rw [show (0 : Int) + 36 + 5 + l1 + 5 + cs = 46 + l1 + cs by omega, show (0 : Int) + 36 + 5 + l1 = 41 + l1 by omega, show (0 : Int) + 36 = 36 by omega]
theorem sA_len (so nu : Int) : (sA so nu).length ≤ 1 := by unfold sA; split <;> decide
theorem sB_len (so nu l1 : Int) : (sB so nu l1).length ≤ 3 := by
  have := sA_len so nu
  unfold sB
  split
  · rw [List.length_append, List.length_append]; simp only [List.length_cons, List.length_nil]; omega
  · rw [List.length_append]; simp only [List.length_cons, List.length_nil]; omega
theorem lA_rng (so nu : Int) : 0 ≤ lA so nu ∧ lA so nu ≤ 7 := by unfold lA; split <;> omega
theorem DtR_of {dt : Nat → Nat → Int} {k : Nat} {so : Int32} {l1 l3 : Nat} {c2 c3 : Nat → Int32} (h0 : dt 0 k = so.toInt) (h1 : dt 1 k = l1) (h2 : LenP (fun j => (c2 j).toInt) 0 8 (dt 2 k)) (h3 : LenP (fun j => (c2 j).toInt) 8 3 (dt 3 k)) (h4 : dt 4 k = compS c3 l3) (hs : 0 ≤ so.toInt ∧ so.toInt ≤ 2) (b1 : l1 ≤ 30) (b3 : l3 ≤ 200) : DtR dt k := by
  have r := compS_rng c3 b3
  have a := h2.1
  have b := h3.1
  exact ⟨by omega, by omega, by omega, by omega, by omega⟩
theorem hd2_eq {dt : Nat → Nat → Int} {t ru a0 a1 r0 r1 s : Int} {d pz : Nat} (e0 : a0 = fitI (s * 2048) (recS dt t 0 d) + recS dt t 0 d) (q0 : r0 = runS dt t 0 ru d) (e1 : a1 = fitI a0 (recS dt t 1 pz) + recS dt t 1 pz) (q1 : r1 = runS dt t 1 r0 pz) (hp : pz = if d = 0 then 0 else (dt 5 d).toNat) : hd2 dt t ru d = (a1 - s * 2048, r1) := by
  have f0 := fitI_add s 0 (recS dt t 0 d)
  rw [Int.add_zero] at f0
  have f1 := fitI_add s (fitI 0 (recS dt t 0 d) + recS dt t 0 d) (recS dt t 1 pz)
  rw [show s * 2048 + (fitI 0 (recS dt t 0 d) + recS dt t 0 d) = a0 by omega] at f1
  unfold hd2 stR
  rw [← hp]
  show (fitI (fitI 0 (recS dt t 0 d) + recS dt t 0 d) (recS dt t 1 pz) + recS dt t 1 pz, runS dt t 1 (runS dt t 0 ru d) pz) = _
  rw [← q0, ← q1, show fitI (fitI 0 (recS dt t 0 d) + recS dt t 0 d) (recS dt t 1 pz) + recS dt t 1 pz = a1 - s * 2048 by omega]
theorem dirS_st {dt : Nat → Nat → Int} {t ru b q b2 q2 s : Int} {o : Nat → Nat} {d j j2 z : Nat} (h : dirS dt t o ru d j = (b - s * 2048, q)) (hz : o j = z) (hp : dt 5 z = d) (e : b2 = fitI b (recS dt t 2 z) + recS dt t 2 z) (eq : q2 = runS dt t 2 q z) (hj : j2 = j + 1) : dirS dt t o ru d j2 = (b2 - s * 2048, q2) := by
  rw [dirS_hit (by rw [hz]; exact hp) hj, h, hz]
  have f := fitI_add s (b - s * 2048) (recS dt t 2 z)
  rw [show s * 2048 + (b - s * 2048) = b by omega] at f
  unfold stR
  show (fitI (b - s * 2048) (recS dt t 2 z) + recS dt t 2 z, runS dt t 2 q z) = _
  rw [← eq, show fitI (b - s * 2048) (recS dt t 2 z) + recS dt t 2 z = b2 - s * 2048 by omega]
theorem wkS_st {dt : Nat → Nat → Int} {t s ru s2 b q : Int} {o : Nat → Nat} {c i i2 d : Nat} {Q : List Nat} {s0 : Int × Int} (h : wkS dt t o c Q s0 i = (s, ru)) (hd : Q.getD i 0 = d) (hb : dirS dt t o ru d c = (b - s * 2048, q)) (hs : s2 = (b + 2047) / 2048) (hi : i2 = i + 1) : wkS dt t o c Q s0 i2 = (s2, q) := by
  subst hi
  rw [wkS_succ, h, hd]
  show (s + ((dirS dt t o ru d c).1 + 2047) / 2048, (dirS dt t o ru d c).2) = _
  rw [hb]
  show (s + (b - s * 2048 + 2047) / 2048, q) = _
  rw [show s + (b - s * 2048 + 2047) / 2048 = s2 by omega]
