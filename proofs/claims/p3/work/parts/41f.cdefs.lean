/-- a sum that stops at 400 -/
def SatI (a b : Int) : Prop := (a ≤ 400 ∧ b = a) ∨ (400 < a ∧ b = 400)
/-- two rows alike -/
def EqN (m1 : Nat) (g1 : Nat → Int32) (m2 : Nat) (g2 : Nat → Int32) : Prop := m1 = m2 ∧ ∀ j, j < m1 → g1 j = g2 j
def Cmp3 (r : Int32) (m1 : Nat) (g1 : Nat → Int32) (m2 : Nat) (g2 : Nat → Int32) : Prop :=
  (r.toInt = 0 ∧ EqN m1 g1 m2 g2) ∨ (∃ k, k < m1 ∧ k < m2 ∧ (∀ j, j < k → g1 j = g2 j) ∧ g1 k ≠ g2 k ∧ r = g1 k - g2 k) ∨ ((∀ j, j < m1 → j < m2 → g1 j = g2 j) ∧ m1 ≠ m2 ∧ r.toInt = (m1 : Int) - m2)
theorem sub_ne {a b : Int32} (h : a ≠ b) : (a - b).toInt ≠ 0 := fun h2 => h (by
  have h3 : a - b = 0 := Int32.toInt_inj.mp (h2.trans (by decide))
  have h4 : a - b + b = 0 + b := by rw [h3]
  rw [Int32.sub_add_cancel, Int32.zero_add] at h4
  exact h4)
theorem Cmp3.eq {r : Int32} {m1 m2 : Nat} {g1 g2 : Nat → Int32} (h : Cmp3 r m1 g1 m2 g2) (h0 : r.toInt = 0) : EqN m1 g1 m2 g2 := by
  rcases h with h | ⟨k, _, _, _, h5, h6⟩ | ⟨_, h5, h6⟩
  · exact h.2
  · exact absurd h0 (by rw [h6]; exact sub_ne h5)
  · exfalso
    omega
theorem Cmp3.ne {r : Int32} {m1 m2 : Nat} {g1 g2 : Nat → Int32} (h : Cmp3 r m1 g1 m2 g2) (h0 : ¬ r.toInt = 0) : ¬ EqN m1 g1 m2 g2 := by
  rcases h with h | ⟨k, h1, _, _, h5, _⟩ | ⟨_, h5, _⟩
  · exact absurd h.1 h0
  · exact fun e => h5 (e.2 k h1)
  · exact fun e => h5 e.1
theorem EqN_congr {m m1 m2 : Nat} {g c d : Nat → Int32} (e : m1 = m2) (h : ∀ j, j < m1 → c j = d j) : EqN m g m1 c ↔ EqN m g m2 d := by
  subst e
  refine ⟨fun a => ⟨a.1, fun j hj => ?_⟩, fun a => ⟨a.1, fun j hj => ?_⟩⟩
  · rw [a.2 j hj, h j (by have := a.1; omega)]
  · rw [a.2 j hj, h j (by have := a.1; omega)]
/-- how many of the first k bytes are dots, as far as a name needs it -/
def DotC (d k : Int) (gv : Nat → Int32) : Prop := (d = k ∧ ∀ j : Nat, (j : Int) < k → (gv j).toInt = 46) ∨ (d < k ∧ ∃ j : Nat, (j : Int) < k ∧ (gv j).toInt ≠ 46)
theorem DotC_0 {gv : Nat → Int32} : DotC 0 0 gv := Or.inl ⟨rfl, fun j hj => absurd hj (by omega)⟩
theorem DotC_step {d d2 k k2 i : Int} {gv : Nat → Int32} (h : DotC d k gv) (hk : 0 ≤ k) (hd : d2 = d + i) (hk2 : k2 = k + 1) (hi : (i = 1 ∧ (gv k.toNat).toInt = 46) ∨ (i = 0 ∧ (gv k.toNat).toInt ≠ 46)) : DotC d2 k2 gv := by
  rcases h with ⟨h1, h2⟩ | ⟨h1, j, h2, h3⟩
  · rcases hi with ⟨a, b⟩ | ⟨a, b⟩
    · refine Or.inl ⟨by omega, fun j hj => ?_⟩
      by_cases e : j = k.toNat
      · rw [e]; exact b
      · exact h2 j (by omega)
    · exact Or.inr ⟨by omega, k.toNat, by omega, b⟩
  · refine Or.inr ⟨?_, j, by omega, h3⟩
    rcases hi with ⟨a, _⟩ | ⟨a, _⟩ <;> omega
theorem NameP_of {n d : Int} {gv : Nat → Int32} (h1 : 1 ≤ n ∧ n ≤ 30) (h2 : ∀ j : Nat, (j : Int) < n → nch (gv j).toInt) (h3 : DotC d n gv) (h4 : 2 < n ∨ d < n) : NameP n gv := by
  refine ⟨⟨h1, fun a => ?_, fun a => ?_⟩, h2⟩
  · rcases h3 with ⟨b, _⟩ | ⟨_, j, c, e⟩
    · omega
    · have : j = 0 := by omega
      rw [this] at e
      exact e a.2
  · rcases h3 with ⟨b, _⟩ | ⟨_, j, c, e⟩
    · omega
    · by_cases hj : j = 0
      · rw [hj] at e; exact e a.2.1
      · have : j = 1 := by omega
        rw [this] at e
        exact e a.2.2
theorem NameP_not {n d : Int} {gv : Nat → Int32} (h3 : DotC d n gv) (h4 : n ≤ 2) (h5 : n ≤ d) : ¬ NameP n gv := fun h => by
  have h1 := h.rng
  rcases h3 with ⟨_, b⟩ | ⟨b, _⟩
  · by_cases e : n = 1
    · exact h.1.2.1 ⟨e, b 0 (by omega)⟩
    · exact h.1.2.2 ⟨by omega, b 0 (by omega), b 1 (by omega)⟩
  · omega
/-- how deep the nodes lie -/
def TOA (m : Nat) (g : Nat → Nat → Int32) : Prop := ∀ k, k < m → (0 ≤ (g k 3).toInt ∧ (g k 3).toInt ≤ 8) ∧ ((g k 0).toInt = 0 → (g k 3).toInt ≤ 7)
theorem TOA_push {m : Nat} {g g2 : Nat → Nat → Int32} {v : Nat → Int32} (h : TOA m g) (e : g2 = upK g m v) (hv : (0 ≤ (v 3).toInt ∧ (v 3).toInt ≤ 8) ∧ ((v 0).toInt = 0 → (v 3).toInt ≤ 7)) : TOA (m + 1) g2 := fun k hk => by
  by_cases c : k = m
  · subst c; rw [e, upK_at]; exact hv
  · rw [e, upK_off c]; exact h k (by omega)
theorem TOA_upd {m x : Nat} {g g2 : Nat → Nat → Int32} {v : Nat → Int32} (h : TOA m g) (e : g2 = upK g x v) (h0 : v 0 = g x 0) (h3 : v 3 = g x 3) : TOA m g2 := fun k hk => by
  by_cases c : k = x
  · subst c; rw [e, upK_at, h0, h3]; exact h k hk
  · rw [e, upK_off c]; exact h k hk
/-- a node that is to be made: its directory, its name among those there, is it full, what it becomes -/
def DirC (x : Int32) (cm : Nat) (ng : Nat → Nat → Int32) : Prop := 0 ≤ x.toInt ∧ x.toInt < cm ∧ (ng x.toNatClampNeg 0).toInt = 0
def NmdC (cm : Nat) (ng : Nat → Nat → Int32) (nn : Nat → Nat → Nat) (nf : Nat → Nat → Nat → Int32) (x : Int32) (l1 : Nat) (c1 : Nat → Int32) : Prop := ∃ k : Nat, 1 ≤ k ∧ k < cm ∧ (ng k 2).toInt = x.toInt ∧ EqN (nn k 1) (nf k 1) l1 c1
def FulC (cm : Nat) (dr so : Int32) (ab : Int) : Prop := 40 ≤ cm ∨ (so.toInt = 0 ∧ (12 ≤ dr.toInt ∨ 7 < ab))
def PushC (x so mo ow gr si sd dr dr2 : Int32) (cm cm2 : Nat) (ng ng2 : Nat → Nat → Int32) (nn nn2 : Nat → Nat → Nat) (nf nf2 : Nat → Nat → Nat → Int32) (l1 : Nat) (c1 : Nat → Int32) (l3 : Nat) (c3 : Nat → Int32) : Prop :=
  cm2 = cm + 1 ∧ ((so.toInt = 0 ∧ dr2.toInt = dr.toInt + 1) ∨ (so.toInt ≠ 0 ∧ dr2.toInt = dr.toInt)) ∧ (∃ nu ab : Int32, ng2 = upK ng cm (v9 so nu x ab mo ow gr si sd) ∧ ab.toInt = (ng x.toNatClampNeg 3).toInt + 1) ∧ (∃ y : Nat → Nat, nn2 = upK nn cm y ∧ y 1 = l1 ∧ y 3 = l3) ∧
    ∃ c9 : Nat → Nat → Int32, nf2 = upK nf cm c9 ∧ (∀ j, j < l1 → c9 1 j = c1 j) ∧ ∀ j, j < l3 → c9 3 j = c3 j
def AddC (r x so mo ow gr si sd dr dr2 : Int32) (cm cm2 : Nat) (ng ng2 : Nat → Nat → Int32) (nn nn2 : Nat → Nat → Nat) (nf nf2 : Nat → Nat → Nat → Int32) (l1 : Nat) (c1 : Nat → Int32) (l3 : Nat) (c3 : Nat → Int32) : Prop :=
  (((r.toInt = -2 ∧ NmdC cm ng nn nf x l1 c1) ∨ (r.toInt = -3 ∧ ¬ NmdC cm ng nn nf x l1 c1 ∧ FulC cm dr so ((ng x.toNatClampNeg 3).toInt + 1))) ∧ cm2 = cm ∧ dr2 = dr ∧ ng2 = ng ∧ nn2 = nn ∧ nf2 = nf) ∨
  (¬ NmdC cm ng nn nf x l1 c1 ∧ ¬ FulC cm dr so ((ng x.toNatClampNeg 3).toInt + 1) ∧ r.toInt = cm ∧ PushC x so mo ow gr si sd dr dr2 cm cm2 ng ng2 nn nn2 nf nf2 l1 c1 l3 c3)
def WgC (ok : Prop) (x : Int32) (cm : Nat) (ng : Nat → Nat → Int32) (l1 : Nat) (c1 : Nat → Int32) : Prop := ok ∧ DirC x cm ng ∧ NameP l1 c1
def GrowC (ok : Prop) (r x so mo ow gr si sd dr dr2 : Int32) (cm cm2 : Nat) (ng ng2 : Nat → Nat → Int32) (nn nn2 : Nat → Nat → Nat) (nf nf2 : Nat → Nat → Nat → Int32) (l1 : Nat) (c1 : Nat → Int32) (l3 : Nat) (c3 : Nat → Int32) : Prop :=
  (((r.toInt = -4 ∧ ¬ WgC ok x cm ng l1 c1) ∨ (WgC ok x cm ng l1 c1 ∧ r.toInt = -2 ∧ NmdC cm ng nn nf x l1 c1) ∨ (WgC ok x cm ng l1 c1 ∧ r.toInt = -3 ∧ ¬ NmdC cm ng nn nf x l1 c1 ∧ FulC cm dr so ((ng x.toNatClampNeg 3).toInt + 1))) ∧ cm2 = cm ∧ dr2 = dr ∧ ng2 = ng ∧ nn2 = nn ∧ nf2 = nf) ∨
  (WgC ok x cm ng l1 c1 ∧ ¬ NmdC cm ng nn nf x l1 c1 ∧ ¬ FulC cm dr so ((ng x.toNatClampNeg 3).toInt + 1) ∧ r.toInt = cm ∧ PushC x so mo ow gr si sd dr dr2 cm cm2 ng ng2 nn nn2 nf nf2 l1 c1 l3 c3)
section
variable {ok : Prop} {r x so mo ow gr si sd dr dr2 : Int32} {cm cm2 : Nat} {ng ng2 : Nat → Nat → Int32} {nn nn2 : Nat → Nat → Nat} {nf nf2 : Nat → Nat → Nat → Int32} {l1 l3 m1 m3 : Nat} {c1 c3 d1 d3 : Nat → Int32}
theorem AddC.grow (h : AddC r x so mo ow gr si sd dr dr2 cm cm2 ng ng2 nn nn2 nf nf2 l1 c1 l3 c3) (hw : WgC ok x cm ng l1 c1) : GrowC ok r x so mo ow gr si sd dr dr2 cm cm2 ng ng2 nn nn2 nf nf2 l1 c1 l3 c3 := by
  rcases h with ⟨h1 | h1, h2⟩ | h1
  · exact Or.inl ⟨Or.inr (Or.inl ⟨hw, h1⟩), h2⟩
  · exact Or.inl ⟨Or.inr (Or.inr ⟨hw, h1⟩), h2⟩
  · exact Or.inr ⟨hw, h1⟩
theorem NmdC_congr (e : l1 = m1) (h : ∀ j, j < l1 → c1 j = d1 j) : NmdC cm ng nn nf x l1 c1 ↔ NmdC cm ng nn nf x m1 d1 := by
  refine ⟨fun ⟨k, a1, a2, a3, a4⟩ => ⟨k, a1, a2, a3, (EqN_congr e h).mp a4⟩, fun ⟨k, a1, a2, a3, a4⟩ => ⟨k, a1, a2, a3, (EqN_congr e h).mpr a4⟩⟩
theorem WgC_congr {P : Prop} (hP : P) (e : l1 = m1) (h : ∀ j, j < l1 → c1 j = d1 j) : WgC True x cm ng l1 c1 ↔ WgC P x cm ng m1 d1 := by
  subst e
  have hn : NameP l1 c1 ↔ NameP l1 d1 := NameP_iff (fun j hj => h j (by omega))
  exact ⟨fun a => ⟨hP, a.2.1, hn.mp a.2.2⟩, fun a => ⟨trivial, a.2.1, hn.mpr a.2.2⟩⟩
theorem GrowC.to {P : Prop} (h : GrowC True r x so mo ow gr si sd dr dr2 cm cm2 ng ng2 nn nn2 nf nf2 l1 c1 l3 c3) (hP : P) (e1 : l1 = m1) (h1 : ∀ j, j < l1 → c1 j = d1 j) (e3 : l3 = m3) (h3 : ∀ j, j < l3 → c3 j = d3 j) : GrowC P r x so mo ow gr si sd dr dr2 cm cm2 ng ng2 nn nn2 nf nf2 m1 d1 m3 d3 := by
  have hw : WgC True x cm ng l1 c1 ↔ WgC P x cm ng m1 d1 := WgC_congr hP e1 h1
  have hn : NmdC cm ng nn nf x l1 c1 ↔ NmdC cm ng nn nf x m1 d1 := NmdC_congr e1 h1
  rcases h with ⟨a | a | a, b⟩ | ⟨a1, a2, a3, a4, b1, b2, b3, ⟨y, b4, b5, b6⟩, c9, b7, b8, b9⟩
  · exact Or.inl ⟨Or.inl ⟨a.1, fun z => a.2 (hw.mpr z)⟩, b⟩
  · exact Or.inl ⟨Or.inr (Or.inl ⟨hw.mp a.1, a.2.1, hn.mp a.2.2⟩), b⟩
  · exact Or.inl ⟨Or.inr (Or.inr ⟨hw.mp a.1, a.2.1, fun z => a.2.2.1 (hn.mpr z), a.2.2.2⟩), b⟩
  · exact Or.inr ⟨hw.mp a1, fun z => a2 (hn.mpr z), a3, a4, b1, b2, b3, ⟨y, b4, b5.trans e1, b6.trans e3⟩, c9, b7, fun j hj => (b8 j (by omega)).trans (h1 j (by omega)), fun j hj => (b9 j (by omega)).trans (h3 j (by omega))⟩
end
theorem TgtP_part {n2 v : Nat} {n : Int} {g f : Nat → Int32} (hn : (n2 : Int) = n ∨ (n ≤ 0 ∧ n2 = 0)) (hc : ∀ j, j < n2 → g j = f (v + j)) : TgtP n2 g ↔ TgtP n (fun j => f (v + j)) := by
  constructor
  · intro h
    have h1 := h.1
    have e : (n2 : Int) = n := by omega
    rw [← e]
    exact TgtP_congr (fun j hj => hc j (by omega)) h
  · intro h
    have h1 := h.1
    have e : (n2 : Int) = n := by omega
    rw [← e] at h
    exact TgtP_congr (fun j hj => (hc j (by omega)).symm) h
