theorem LX_tot {K : Nat → Nat → Int} {n a b : Nat} (h : ¬ ∀ j, j < n → K a j = K b j) : LX K n a b ∨ LX K n b a := by
  induction n with
  | zero => exact (h (fun j hj => by omega)).elim
  | succ n ih =>
    by_cases h1 : ∀ j, j < n → K a j = K b j
    · have h2 : K a n ≠ K b n := fun e => h (fun j hj => by
        by_cases ej : j = n
        · rw [ej]; exact e
        · exact h1 j (by omega))
      rcases Int.lt_trichotomy (K a n) (K b n) with h3 | h3 | h3
      · exact Or.inl ⟨n, by omega, h1, h3⟩
      · exact (h2 h3).elim
      · exact Or.inr ⟨n, by omega, fun j hj => (h1 j hj).symm, h3⟩
    · rcases ih h1 with ⟨i, hi, h2⟩ | ⟨i, hi, h2⟩
      · exact Or.inl ⟨i, by omega, h2⟩
      · exact Or.inr ⟨i, by omega, h2⟩
theorem LX_co {K : Nat → Nat → Int} {n a b c : Nat} (h : LX K n a c) : LX K n a b ∨ LX K n b c := by
  by_cases e : ∀ j, j < n → K a j = K b j
  · obtain ⟨i, hi, ei, li⟩ := h
    exact Or.inr ⟨i, hi, fun j hj => by rw [← e j (by omega)]; exact ei j hj, by rw [← e i hi]; exact li⟩
  · rcases LX_tot e with h1 | h1
    · exact Or.inl h1
    · exact Or.inr (LX_trans h1 h)
/-- an order of the nodes below n -/
def OrdP (K : Nat → Nat → Int) (nl : Nat) (cand : Nat → Prop) (o : Nat → Nat) (c n : Nat) : Prop :=
  (∀ i, i < c → 1 ≤ o i ∧ o i < n ∧ cand (o i)) ∧ (∀ i j, i < j → j < c → ¬ LX K nl (o j) (o i)) ∧ (∀ q, 1 ≤ q → q < n → cand q → ∃ i, i < c ∧ o i = q) ∧ (∀ i j, i < j → j < c → o i ≠ o j)
theorem OrdP_0 {K : Nat → Nat → Int} {nl n : Nat} {cand : Nat → Prop} {o : Nat → Nat} (h : n ≤ 1) : OrdP K nl cand o 0 n :=
  ⟨fun i hi => absurd hi (by omega), fun i j _ hj => absurd hj (by omega), fun q h1 h2 => absurd h2 (by omega), fun i j _ hj => absurd hj (by omega)⟩
theorem OrdP_skip {K : Nat → Nat → Int} {nl c n : Nat} {cand : Nat → Prop} {o : Nat → Nat} (h : OrdP K nl cand o c n) (hn : ¬ cand n) : OrdP K nl cand o c (n + 1) :=
  ⟨fun i hi => ⟨(h.1 i hi).1, by have := (h.1 i hi).2.1; omega, (h.1 i hi).2.2⟩, h.2.1, fun q h1 h2 hq => h.2.2.1 q h1 (by
    by_cases e : q = n
    · subst e; exact absurd hq hn
    · omega) hq, h.2.2.2⟩
theorem OrdP_congr {K K2 : Nat → Nat → Int} {nl c n : Nat} {cand cand2 : Nat → Prop} {o : Nat → Nat} (h : OrdP K nl cand o c n) (e : ∀ k, 1 ≤ k → k < n → ∀ j, j < nl → K k j = K2 k j) (hc : ∀ k, 1 ≤ k → k < n → (cand k ↔ cand2 k)) : OrdP K2 nl cand2 o c n := by
  refine ⟨fun i hi => ?_, fun i j hij hj hl => h.2.1 i j hij hj ?_, fun q h1 h2 h3 => h.2.2.1 q h1 h2 ((hc q h1 h2).mpr h3), h.2.2.2⟩
  · have q := h.1 i hi
    exact ⟨q.1, q.2.1, (hc _ q.1 q.2.1).mp q.2.2⟩
  · have q1 := h.1 i (by omega)
    have q2 := h.1 j hj
    obtain ⟨a, b, c1, d⟩ := hl
    exact ⟨a, b, fun k hk => by rw [e _ q2.1 q2.2.1 k (by omega), e _ q1.1 q1.2.1 k (by omega)]; exact c1 k hk, by rw [e _ q2.1 q2.2.1 a b, e _ q1.1 q1.2.1 a b]; exact d⟩
/-- a place made free at a -/
def Hole (o l : Nat → Nat) (a c : Nat) : Prop := (∀ j, j < a → l j = o j) ∧ ∀ j, a ≤ j → j < c → l (j + 1) = o j
theorem Hole_0 {o : Nat → Nat} {a c : Nat} (h : a = c) : Hole o o a c := ⟨fun _ _ => rfl, fun j h1 h2 => absurd h2 (by omega)⟩
theorem Hole_step {o l l2 : Nat → Nat} {a b c : Nat} (h : Hole o l a c) (hb : a = b + 1) (e : l2 a = l b) (e2 : ∀ j, j ≠ a → l2 j = l j) : Hole o l2 b c := by
  refine ⟨fun j hj => ?_, fun j h1 h2 => ?_⟩
  · rw [e2 j (by omega)]; exact h.1 j (by omega)
  · by_cases c1 : j = b
    · rw [c1, ← hb, e]; exact h.1 b (by omega)
    · rw [e2 (j + 1) (by omega)]; exact h.2 j (by omega) h2
theorem OrdP_ins {K : Nat → Nat → Int} {nl a c n : Nat} {cand : Nat → Prop} {o l g : Nat → Nat} (h : OrdP K nl cand o c n) (hh : Hole o l a c) (ha : a ≤ c) (e : g a = n) (e2 : ∀ j, j ≠ a → g j = l j) (hn : 1 ≤ n) (hc : cand n) (hl : a = 0 ∨ ¬ LX K nl n (o (a - 1))) (hg : ∀ j, a ≤ j → j < c → LX K nl n (o j)) : OrdP K nl cand g (c + 1) (n + 1) := by
  have gl : ∀ j, j < a → g j = o j := fun j hj => by rw [e2 j (by omega)]; exact hh.1 j hj
  have gr : ∀ j, a < j → j ≤ c → g j = o (j - 1) := fun j h1 h2 => by
    have := hh.2 (j - 1) (by omega) (by omega)
    rw [show j - 1 + 1 = j by omega] at this
    rw [e2 j (by omega)]; exact this
  have low : ∀ i, i < a → ¬ LX K nl n (o i) := fun i hi hx => by
    rcases hl with h0 | h0
    · omega
    · by_cases c1 : i = a - 1
      · rw [c1] at hx; exact h0 hx
      · rcases LX_co (b := o (a - 1)) hx with h3 | h3
        · exact h0 h3
        · exact h.2.1 i (a - 1) (by omega) (by omega) h3
  refine ⟨fun i hi => ?_, fun i j hij hj hx => ?_, fun q h1 h2 h3 => ?_, fun i j hij hj hx => ?_⟩
  · rcases Nat.lt_trichotomy i a with h1 | h1 | h1
    · rw [gl i h1]; have q := h.1 i (by omega); exact ⟨q.1, by omega, q.2.2⟩
    · rw [h1, e]; exact ⟨hn, by omega, hc⟩
    · rw [gr i h1 (by omega)]; have q := h.1 (i - 1) (by omega); exact ⟨q.1, by omega, q.2.2⟩
  · rcases Nat.lt_trichotomy j a with h1 | h1 | h1
    · rw [gl j h1, gl i (by omega)] at hx; exact h.2.1 i j hij (by omega) hx
    · rw [h1, e, gl i (by omega)] at hx; exact low i (by omega) hx
    · rw [gr j h1 (by omega)] at hx
      rcases Nat.lt_trichotomy i a with h2 | h2 | h2
      · rw [gl i h2] at hx; exact h.2.1 i (j - 1) (by omega) (by omega) hx
      · rw [h2, e] at hx; exact LX_irr (LX_trans hx (hg (j - 1) (by omega) (by omega)))
      · rw [gr i h2 (by omega)] at hx; exact h.2.1 (i - 1) (j - 1) (by omega) (by omega) hx
  · by_cases c1 : q = n
    · exact ⟨a, by omega, by rw [c1]; exact e⟩
    · obtain ⟨i, hi, h4⟩ := h.2.2.1 q h1 (by omega) h3
      by_cases c2 : i < a
      · exact ⟨i, by omega, by rw [gl i c2]; exact h4⟩
      · exact ⟨i + 1, by omega, by rw [gr (i + 1) (by omega) (by omega), show i + 1 - 1 = i by omega]; exact h4⟩
  · have big : ∀ i, i < c → o i ≠ n := fun i hi => by have := (h.1 i hi).2.1; omega
    rcases Nat.lt_trichotomy j a with h1 | h1 | h1
    · rw [gl j h1, gl i (by omega)] at hx; exact h.2.2.2 i j hij (by omega) hx
    · rw [h1, e, gl i (by omega)] at hx; exact big i (by omega) hx
    · rw [gr j h1 (by omega)] at hx
      rcases Nat.lt_trichotomy i a with h2 | h2 | h2
      · rw [gl i h2] at hx; exact h.2.2.2 i (j - 1) (by omega) (by omega) hx
      · rw [h2, e] at hx; exact big (j - 1) (by omega) hx.symm
      · rw [gr i h2 (by omega)] at hx; exact h.2.2.2 (i - 1) (j - 1) (by omega) (by omega) hx
/-- what is gathered along the order, of the children of d -/
def accF {S : Type} (st : S → Nat → S) (par : Nat → Int) (d : Int) (o : Nat → Nat) (s0 : S) : Nat → S
  | 0 => s0
  | j + 1 => if par (o j) = d then st (accF st par d o s0 j) (o j) else accF st par d o s0 j
theorem accF_hit {S : Type} {st : S → Nat → S} {par : Nat → Int} {d : Int} {o : Nat → Nat} {s0 : S} {j : Nat} (h : par (o j) = d) : accF st par d o s0 (j + 1) = st (accF st par d o s0 j) (o j) := by
  simp only [accF]
  exact if_pos h
theorem accF_miss {S : Type} {st : S → Nat → S} {par : Nat → Int} {d : Int} {o : Nat → Nat} {s0 : S} {j : Nat} (h : ¬ par (o j) = d) : accF st par d o s0 (j + 1) = accF st par d o s0 j := by
  simp only [accF]
  exact if_neg h
theorem accF_same {S : Type} {st : S → Nat → S} {par : Nat → Int} {d : Int} {o : Nat → Nat} {s0 : S} {a b : Nat} (hab : a ≤ b) (h : ∀ i, a ≤ i → i < b → ¬ par (o i) = d) : accF st par d o s0 b = accF st par d o s0 a := by
  induction b with
  | zero => rw [show a = 0 by omega]
  | succ b ih =>
    by_cases e : a = b + 1
    · rw [e]
    · rw [accF_miss (h b (by omega) (by omega))]
      exact ih (by omega) (fun i h1 h2 => h i h1 (by omega))
/-- where 'next' stands in the order: all ahead of j are gathered -/
def NxA (par : Nat → Int) (d : Int) (o : Nat → Nat) (c : Nat) (r : Int) (j0 j : Nat) : Prop :=
  (j0 ≤ j ∧ j ≤ c) ∧ (∀ i, j0 ≤ i → i < j → ¬ par (o i) = d) ∧ ((r < 0 ∧ j = c) ∨ (0 ≤ r ∧ j < c ∧ o j = r.toNat ∧ par (o j) = d))
section
variable {K : Nat → Nat → Int} {nl c : Nat} {fK fP : Nat → Int32} {t d z N r : Int} {o : Nat → Nat}
theorem ord_lt (h : OrdP K nl (fun k => t = 0 ∨ (fK k).toInt ≠ 2) o c N.toNat) (hU : UN K nl fP N) {i j : Nat} (hij : i < j) (hj : j < c) (hi : (fP (o i)).toInt = d) (hjd : (fP (o j)).toInt = d) : LX K nl (o i) (o j) := by
  have q1 := h.1 i (by omega)
  have q2 := h.1 j hj
  rcases hU (o i) (o j) q1.1 (by omega) q2.1 (by omega) (Int32.toInt_inj.mp (hi.trans hjd.symm)) (h.2.2.2 i j hij hj) with h1 | h1
  · exact h1
  · exact (h.2.1 i j hij hj h1).elim
theorem nx_go (h : OrdP K nl (fun k => t = 0 ∨ (fK k).toInt ≠ 2) o c N.toNat) (hU : UN K nl fP N) (hN : NextP K nl fK fP t d z N r) {j0 : Nat} (h0 : (z < 0 ∧ j0 = 0) ∨ (0 ≤ z ∧ ∃ jz, jz < c ∧ o jz = z.toNat ∧ (fP (o jz)).toInt = d ∧ j0 = jz + 1)) : ∃ j, NxA (fun k => (fP k).toInt) d o c r j0 j := by
  have fol : ∀ i, j0 ≤ i → i < c → (fP (o i)).toInt = d → Fol K nl z (o i) := fun i h1 h2 h3 => by
    rcases h0 with h0 | ⟨_, jz, a, b, c1, e⟩
    · exact Or.inl h0.1
    · exact Or.inr (by rw [← b]; exact ord_lt h hU (by omega) h2 c1 h3)
  have hj0 : j0 ≤ c := by
    rcases h0 with h0 | ⟨_, jz, a, b, c1, e⟩ <;> omega
  rcases hN with ⟨r1, r2⟩ | ⟨r1, r2, r3, r4, r5⟩
  · refine ⟨c, ⟨hj0, Nat.le_refl c⟩, fun i h1 h2 h3 => ?_, Or.inl ⟨by omega, rfl⟩⟩
    have q := h.1 i h2
    exact r2 (o i) q.1 (by omega) ⟨h3, q.2.2⟩ (fol i h1 h2 h3)
  · obtain ⟨j, hj, ej⟩ := h.2.2.1 r.toNat (by omega) (by omega) r3.2
    have hjd : (fP (o j)).toInt = d := by rw [ej]; exact r3.1
    have hlo : j0 ≤ j := by
      rcases h0 with h0 | ⟨z0, jz, a, b, c1, e⟩
      · omega
      · rcases r4 with r4 | r4
        · omega
        · rw [← b, ← ej] at r4
          rcases Nat.lt_trichotomy j jz with l | l | l
          · exact (h.2.1 j jz l a r4).elim
          · subst l; exact (LX_irr r4).elim
          · omega
    refine ⟨j, ⟨hlo, by omega⟩, fun i h1 h2 h3 => ?_, Or.inr ⟨by omega, hj, ej, hjd⟩⟩
    have q := h.1 i (by omega)
    refine r5 (o i) q.1 (by omega) ⟨h3, q.2.2⟩ (fol i h1 (by omega) h3) ?_
    rw [← ej]
    exact ord_lt h hU h2 hj h3 hjd
end
/-- the directories, in the order of the path table -/
def chD (par kd : Nat → Int) (o : Nat → Nat) (d : Int) (Q : List Nat) (j : Nat) : List Nat := accF (fun Q k => if kd k = 0 then Q ++ [k] else Q) par d o Q j
def qF (par kd : Nat → Int) (o : Nat → Nat) (c : Nat) : Nat → List Nat
  | 0 => [0]
  | i + 1 => if i < (qF par kd o c i).length then chD par kd o ((qF par kd o c i).getD i 0 : Nat) (qF par kd o c i) c else qF par kd o c i
theorem qF_go {par kd : Nat → Int} {o : Nat → Nat} {c i : Nat} (h : i < (qF par kd o c i).length) : qF par kd o c (i + 1) = chD par kd o ((qF par kd o c i).getD i 0 : Nat) (qF par kd o c i) c := by
  simp only [qF]
  exact if_pos h
theorem qF_end {par kd : Nat → Int} {o : Nat → Nat} {c i : Nat} (h : ¬ i < (qF par kd o c i).length) (m : Nat) : qF par kd o c (i + m) = qF par kd o c i := by
  induction m with
  | zero => rfl
  | succ m ih =>
    show qF par kd o c (i + m + 1) = _
    simp only [qF]
    rw [if_neg (by rw [ih]; omega)]
    exact ih
/-- a list in an array -/
def QR (Q : List Nat) (f : Nat → Int32) (off n : Nat) : Prop := Q.length = n ∧ ∀ j, j < n → (f (off + j)).toInt = ((Q.getD j 0 : Nat) : Int)
theorem getD_app {Q : List Nat} {x j : Nat} (h : j < Q.length) : (Q ++ [x]).getD j 0 = Q.getD j 0 := by
  rw [List.getD_eq_getElem?_getD, List.getD_eq_getElem?_getD, List.getElem?_append_left h]
theorem getD_new {Q : List Nat} {x j : Nat} (h : j = Q.length) : (Q ++ [x]).getD j 0 = x := by
  rw [List.getD_eq_getElem?_getD, List.getElem?_append_right (by omega), show j - Q.length = 0 by omega]
  rfl
theorem QR_push {Q : List Nat} {f g : Nat → Int32} {off n i k : Nat} {x : Int32} (h : QR Q f off n) (e : g = upd f i x) (hi : i = off + n) (hx : x.toInt = k) : QR (Q ++ [k]) g off (n + 1) := by
  have hl := h.1
  refine ⟨by rw [List.length_append]; simp only [List.length_cons, List.length_nil]; omega, fun j hj => ?_⟩
  by_cases c : j = n
  · rw [getD_new (by omega), e, c, ← hi, upd_at]; exact hx
  · rw [getD_app (by omega), e, upd_off (by omega)]
    exact h.2 j (by omega)
theorem QR_1 {f : Nat → Int32} {off : Nat} (h : (f off).toInt = 0) : QR [0] f off 1 := ⟨rfl, fun j hj => by
  rw [show j = 0 by omega, Nat.add_zero, h]; rfl⟩
/-- what the list of directories keeps to -/
def QI (par kd : Nat → Int) (o : Nat → Nat) (N i j : Nat) (Q : List Nat) : Prop :=
  (1 ≤ Q.length ∧ Q.getD 0 0 = 0) ∧ (∀ a, a < Q.length → Q.getD a 0 < N ∧ kd (Q.getD a 0) = 0) ∧ (∀ a b, a < b → b < Q.length → Q.getD a 0 ≠ Q.getD b 0) ∧
  (∀ a, 1 ≤ a → a < Q.length → 1 ≤ Q.getD a 0 ∧ ∃ i', i' < Q.length ∧ par (Q.getD a 0) = ((Q.getD i' 0 : Nat) : Int) ∧ (i' < i ∨ (i' = i ∧ ∃ j', j' < j ∧ o j' = Q.getD a 0)))
theorem QI_0 {par kd : Nat → Int} {o : Nat → Nat} {N : Nat} (hN : 1 ≤ N) (h0 : kd 0 = 0) : QI par kd o N 0 0 [0] :=
  ⟨⟨Nat.le_refl 1, rfl⟩, fun a ha => by
    have e : a = 0 := by simp only [List.length_cons, List.length_nil] at ha; omega
    subst e; exact ⟨hN, h0⟩, fun a b hab hb => by simp only [List.length_cons, List.length_nil] at hb; omega, fun a h1 ha => by simp only [List.length_cons, List.length_nil] at ha; omega⟩
theorem QI_app {par kd : Nat → Int} {o : Nat → Nat} {N i j : Nat} {Q : List Nat} (h : QI par kd o N i j Q) (hi : i < Q.length) (hp : par (o j) = ((Q.getD i 0 : Nat) : Int)) (hk : kd (o j) = 0) (h1 : 1 ≤ o j) (hN : o j < N) (hinj : ∀ j', j' < j → o j' ≠ o j) : QI par kd o N i (j + 1) (Q ++ [o j]) := by
  obtain ⟨a1, a2, a3, a4⟩ := h
  have hlen : (Q ++ [o j]).length = Q.length + 1 := by rw [List.length_append]; rfl
  have new : ∀ a, a < Q.length → Q.getD a 0 ≠ o j := fun a ha e => by
    by_cases c : a = 0
    · rw [c, a1.2] at e; omega
    · obtain ⟨_, i', b1, b2, b3⟩ := a4 a (by omega) ha
      rw [e, hp] at b2
      have : i = i' := by
        rcases Nat.lt_trichotomy i i' with l | l | l
        · exact (a3 i i' l b1 (by omega)).elim
        · exact l
        · exact (a3 i' i l hi (by omega)).elim
      subst this
      rcases b3 with b3 | ⟨_, j', b4, b5⟩
      · omega
      · exact hinj j' b4 (b5.trans e)
  refine ⟨⟨by omega, by rw [getD_app (by omega)]; exact a1.2⟩, fun a ha => ?_, fun a b hab hb => ?_, fun a h2 ha => ?_⟩
  · by_cases c : a = Q.length
    · rw [getD_new c]; exact ⟨hN, hk⟩
    · rw [getD_app (by omega)]; exact a2 a (by omega)
  · by_cases c : b = Q.length
    · rw [getD_new c, getD_app (by omega)]; exact new a (by omega)
    · rw [getD_app (by omega), getD_app (by omega)]; exact a3 a b hab (by omega)
  · by_cases c : a = Q.length
    · rw [getD_new c]
      exact ⟨h1, i, by omega, by rw [getD_app hi]; exact hp, Or.inr ⟨rfl, j, by omega, rfl⟩⟩
    · rw [getD_app (by omega)]
      obtain ⟨b0, i', b1, b2, b3⟩ := a4 a h2 (by omega)
      refine ⟨b0, i', by omega, by rw [getD_app b1]; exact b2, ?_⟩
      rcases b3 with b3 | ⟨b3, j', b4, b5⟩
      · exact Or.inl b3
      · exact Or.inr ⟨b3, j', by omega, b5⟩
theorem QI_skip {par kd : Nat → Int} {o : Nat → Nat} {N i j i2 j2 : Nat} {Q : List Nat} (h : QI par kd o N i j Q) (hm : (i2 = i ∧ j ≤ j2) ∨ i < i2) : QI par kd o N i2 j2 Q :=
  ⟨h.1, h.2.1, h.2.2.1, fun a h1 h2 => by
    obtain ⟨b0, i', b1, b2, b3⟩ := h.2.2.2 a h1 h2
    refine ⟨b0, i', b1, b2, ?_⟩
    rcases b3 with b3 | ⟨b3, j', b4, b5⟩
    · exact Or.inl (by omega)
    · rcases hm with hm | hm
      · exact Or.inr ⟨by omega, j', by omega, b5⟩
      · exact Or.inl (by omega)⟩
theorem QI_len {par kd : Nat → Int} {o : Nat → Nat} {N i j : Nat} {Q : List Nat} (h : QI par kd o N i j Q) : Q.length ≤ cP (fun q => kd q = 0) N :=
  cP_inj N Q.length (fun a => Q.getD a 0) (fun a ha => h.2.1 a ha) (fun a b ha hb e => by
    rcases Nat.lt_trichotomy a b with l | l | l
    · exact (h.2.2.1 a b l hb e).elim
    · exact l
    · exact (h.2.2.1 b a l ha e.symm).elim)
theorem chD_QI {par kd : Nat → Int} {o : Nat → Nat} {N i c : Nat} {Q : List Nat} (ho : ∀ j, j < c → 1 ≤ o j ∧ o j < N) (hinj : ∀ a b, a < b → b < c → o a ≠ o b) (h : QI par kd o N i 0 Q) (hi : i < Q.length) (j : Nat) (hj : j ≤ c) :
    QI par kd o N i j (chD par kd o ((Q.getD i 0 : Nat) : Int) Q j) ∧ Q.length ≤ (chD par kd o ((Q.getD i 0 : Nat) : Int) Q j).length ∧ ∀ a, a < Q.length → (chD par kd o ((Q.getD i 0 : Nat) : Int) Q j).getD a 0 = Q.getD a 0 := by
  induction j with
  | zero => exact ⟨h, Nat.le_refl _, fun _ _ => rfl⟩
  | succ j ih =>
    obtain ⟨h1, h2, h3⟩ := ih (by omega)
    by_cases c1 : par (o j) = ((Q.getD i 0 : Nat) : Int)
    · by_cases c2 : kd (o j) = 0
      · have e : chD par kd o ((Q.getD i 0 : Nat) : Int) Q (j + 1) = chD par kd o ((Q.getD i 0 : Nat) : Int) Q j ++ [o j] := (accF_hit c1).trans (if_pos c2)
        rw [e]
        refine ⟨QI_app h1 (by omega) (by rw [h3 i hi]; exact c1) c2 (ho j (by omega)).1 (ho j (by omega)).2 (fun j' hj' => hinj j' j hj' (by omega)), by rw [List.length_append]; omega, fun a ha => by rw [getD_app (by omega)]; exact h3 a ha⟩
      · have e : chD par kd o ((Q.getD i 0 : Nat) : Int) Q (j + 1) = chD par kd o ((Q.getD i 0 : Nat) : Int) Q j := (accF_hit c1).trans (if_neg c2)
        rw [e]
        exact ⟨QI_skip h1 (Or.inl ⟨rfl, by omega⟩), h2, h3⟩
    · have e : chD par kd o ((Q.getD i 0 : Nat) : Int) Q (j + 1) = chD par kd o ((Q.getD i 0 : Nat) : Int) Q j := accF_miss c1
      rw [e]
      exact ⟨QI_skip h1 (Or.inl ⟨rfl, by omega⟩), h2, h3⟩
theorem qF_QI {par kd : Nat → Int} {o : Nat → Nat} {N c : Nat} (ho : ∀ j, j < c → 1 ≤ o j ∧ o j < N) (hinj : ∀ a b, a < b → b < c → o a ≠ o b) (hN : 1 ≤ N) (h0 : kd 0 = 0) (i : Nat) : QI par kd o N i 0 (qF par kd o c i) := by
  induction i with
  | zero => exact QI_0 hN h0
  | succ i ih =>
    by_cases c1 : i < (qF par kd o c i).length
    · rw [qF_go c1]
      exact QI_skip (chD_QI ho hinj ih c1 c (Nat.le_refl c)).1 (Or.inr (by omega))
    · rw [qF_end c1 1]
      exact QI_skip ih (Or.inr (by omega))
/-- sizes: of node k, dt 0 its sort, 1 the name's length, 2 the base's, 3 the extension's, 4 the components' bytes, 5 its parent, 6 its size, 7 its seed -/
def idS (dt : Nat → Nat → Int) (t so : Int) (k : Nat) : Int := if so < 2 then 1 else if t = 1 then 2 * dt 1 k else if dt 0 k = 0 then dt 2 k else dt 2 k + dt 3 k + 3
def hdS (dt : Nat → Nat → Int) (t so : Int) (k : Nat) : Int := 33 + idS dt t so k + (33 + idS dt t so k) % 2
def alS (dt : Nat → Nat → Int) (so : Int) (k : Nat) : Int := if so < 2 then (if so = 0 ∧ k = 0 then 43 else 36) else if dt 0 k = 2 then 46 + dt 1 k + dt 4 k else 41 + dt 1 k
def outS (dt : Nat → Nat → Int) (so : Int) (k : Nat) : Int := if so < 2 then 0 else if dt 0 k = 2 then (if 46 + dt 1 k + dt 4 k ≤ 254 - hdS dt 0 so k then 0 else 5 + dt 4 k) else 0
def useS (dt : Nat → Nat → Int) (so : Int) (k : Nat) : Int := alS dt so k - outS dt so k + (if outS dt so k = 0 then 0 else 28)
def recS (dt : Nat → Nat → Int) (t so : Int) (k : Nat) : Int := if t = 1 then hdS dt 1 so k else hdS dt 0 so k + (useS dt so k + useS dt so k % 2)
def fitI (p n : Int) : Int := if 2048 < p % 2048 + n then p - p % 2048 + 2048 else p
theorem fitI_add (s p n : Int) : fitI (s * 2048 + p) n = s * 2048 + fitI p n := by
  unfold fitI
  rw [show (s * 2048 + p) % 2048 = p % 2048 by omega]
  split <;> omega
def runS (dt : Nat → Nat → Int) (t so ru : Int) (k : Nat) : Int := if t = 1 ∨ outS dt so k = 0 then ru else fitI ru (outS dt so k) + outS dt so k
def stR (dt : Nat → Nat → Int) (t so : Int) (s : Int × Int) (k : Nat) : Int × Int := (fitI s.1 (recS dt t so k) + recS dt t so k, runS dt t so s.2 k)
/-- a directory: its bytes, the runs behind -/
def hd2 (dt : Nat → Nat → Int) (t : Int) (ru : Int) (d : Nat) : Int × Int := stR dt t 1 (stR dt t 0 (0, ru) d) (if d = 0 then 0 else (dt 5 d).toNat)
def dirS (dt : Nat → Nat → Int) (t : Int) (o : Nat → Nat) (ru : Int) (d : Nat) (j : Nat) : Int × Int := accF (stR dt t 2) (dt 5) d o (hd2 dt t ru d) j
def wkS (dt : Nat → Nat → Int) (t : Int) (o : Nat → Nat) (c : Nat) (Q : List Nat) (s : Int × Int) : Nat → Int × Int
  | 0 => s
  | i + 1 => ((wkS dt t o c Q s i).1 + ((dirS dt t o (wkS dt t o c Q s i).2 (Q.getD i 0) c).1 + 2047) / 2048, (dirS dt t o (wkS dt t o c Q s i).2 (Q.getD i 0) c).2)
theorem wkS_succ (dt : Nat → Nat → Int) (t : Int) (o : Nat → Nat) (c : Nat) (Q : List Nat) (s : Int × Int) (i : Nat) : wkS dt t o c Q s (i + 1) = ((wkS dt t o c Q s i).1 + ((dirS dt t o (wkS dt t o c Q s i).2 (Q.getD i 0) c).1 + 2047) / 2048, (dirS dt t o (wkS dt t o c Q s i).2 (Q.getD i 0) c).2) := rfl
/-- contents -/
def newC (dt : Nat → Nat → Int) (k : Nat) : Prop := dt 0 k = 1 ∧ dt 6 k ≠ 0 ∧ ∀ j, j < k → ¬ (dt 0 j = 1 ∧ dt 6 j = dt 6 k ∧ dt 7 j = dt 7 k)
noncomputable def ctS (dt : Nat → Nat → Int) : Nat → Int
  | 0 => 0
  | k + 1 => ctS dt k + @ite Int (newC dt k) (Classical.propDecidable (newC dt k)) ((dt 6 k + 2047) / 2048) 0
theorem ctS_hit {dt : Nat → Nat → Int} {k : Nat} (h : newC dt k) : ctS dt (k + 1) = ctS dt k + (dt 6 k + 2047) / 2048 := by
  simp only [ctS]
  rw [if_pos h]
theorem ctS_miss {dt : Nat → Nat → Int} {k : Nat} (h : ¬ newC dt k) : ctS dt (k + 1) = ctS dt k := by
  simp only [ctS]
  rw [if_neg h, Int.add_zero]
def qS (dt : Nat → Nat → Int) (o : Nat → Nat) (c : Nat) : List Nat := qF (dt 5) (dt 0) o c 40
def w0S (dt : Nat → Nat → Int) (o : Nat → Nat) (c : Nat) : Int × Int := wkS dt 0 o c (qS dt o c) (23, 0) (qS dt o c).length
def w1S (dt : Nat → Nat → Int) (o : Nat → Nat) (c : Nat) (s : Int × Int) : Int × Int := wkS dt 1 o c (qS dt o c) s (qS dt o c).length
noncomputable def totS (dt : Nat → Nat → Int) (o0 : Nat → Nat) (c0 : Nat) (o1 : Nat → Nat) (c1 : Nat) (N : Nat) : Int :=
  (w1S dt o1 c1 (w0S dt o0 c0)).1 + ((w0S dt o0 c0).2 + 2047) / 2048 + ctS dt N
/-- the ends of the parts of a record -/
def enS (dt : Nat → Nat → Int) (so : Int) (k : Nat) : List Int := if so < 2 then (if so = 0 ∧ k = 0 then [7, 43] else [36]) else if dt 0 k = 2 then [36, 41 + dt 1 k, 46 + dt 1 k + dt 4 k] else [36, 41 + dt 1 k]
def DtR (dt : Nat → Nat → Int) (k : Nat) : Prop := (0 ≤ dt 0 k ∧ dt 0 k ≤ 2) ∧ (0 ≤ dt 1 k ∧ dt 1 k ≤ 30) ∧ (0 ≤ dt 2 k ∧ dt 2 k ≤ 8) ∧ (0 ≤ dt 3 k ∧ dt 3 k ≤ 3) ∧ 0 ≤ dt 4 k ∧ dt 4 k ≤ 303
theorem idS_rng {dt : Nat → Nat → Int} {k : Nat} (h : DtR dt k) (t so : Int) : 0 ≤ idS dt t so k ∧ idS dt t so k ≤ 60 ∧ (t = 0 → idS dt t so k ≤ 14) := by
  obtain ⟨h0, h1, h2, h3, h4⟩ := h
  unfold idS
  split
  · omega
  · split
    · omega
    · split <;> omega
theorem hdS_rng {dt : Nat → Nat → Int} {k : Nat} (h : DtR dt k) (t so : Int) : 33 ≤ hdS dt t so k ∧ hdS dt t so k ≤ 94 ∧ (t = 0 → hdS dt t so k ≤ 48) := by
  have := idS_rng h t so
  unfold hdS
  omega
theorem kt_S {dt : Nat → Nat → Int} {k : Nat} (h : DtR dt k) (so : Int) : ktL (254 - hdS dt 0 so k) (alS dt so k) (enS dt so k) = alS dt so k - outS dt so k := by
  have hh := (hdS_rng h 0 so).2.2 rfl
  obtain ⟨h0, h1, h2, h3, h4⟩ := h
  unfold ktL alS outS enS
  by_cases c1 : so < 2
  · rw [if_pos c1, if_pos c1, if_pos c1]
    by_cases c2 : so = 0 ∧ k = 0
    · rw [if_pos c2, if_pos c2, if_pos (by omega)]; omega
    · rw [if_neg c2, if_neg c2, if_pos (by omega)]; omega
  · rw [if_neg c1, if_neg c1, if_neg c1]
    by_cases c2 : dt 0 k = 2
    · rw [if_pos c2, if_pos c2, if_pos c2]
      by_cases c3 : 46 + dt 1 k + dt 4 k ≤ 254 - hdS dt 0 so k
      · rw [if_pos c3, if_pos c3]; omega
      · rw [if_neg c3, if_neg c3]
        show kpL (254 - hdS dt 0 so k) [36, 41 + dt 1 k, 46 + dt 1 k + dt 4 k] (0 + 1 + 1 + 1) 0 = _
        simp only [kpL]
        show (if (36 : Int) + 28 ≤ 254 - hdS dt 0 so k then (if (41 + dt 1 k) + 28 ≤ 254 - hdS dt 0 so k then (if (46 + dt 1 k + dt 4 k) + 28 ≤ 254 - hdS dt 0 so k then (46 + dt 1 k + dt 4 k) else (41 + dt 1 k)) else 36) else 0) = _
        rw [if_pos (by omega), if_pos (by omega), if_neg (by omega)]; omega
    · rw [if_neg c2, if_neg c2, if_neg c2, if_pos (by omega)]; omega
theorem al_rng {dt : Nat → Nat → Int} {k : Nat} (h : DtR dt k) (so : Int) : 36 ≤ alS dt so k ∧ alS dt so k ≤ 379 ∧ 0 ≤ outS dt so k ∧ outS dt so k ≤ 308 ∧ outS dt so k ≤ alS dt so k := by
  obtain ⟨h0, h1, h2, h3, h4⟩ := h
  unfold alS outS
  by_cases c1 : so < 2
  · rw [if_pos c1, if_pos c1]; split <;> omega
  · rw [if_neg c1, if_neg c1]
    by_cases c2 : dt 0 k = 2
    · rw [if_pos c2, if_pos c2]; split <;> omega
    · rw [if_neg c2, if_neg c2]; omega
theorem rec_rng {dt : Nat → Nat → Int} {k : Nat} (h : DtR dt k) {t : Int} (so : Int) (ht : t = 0 ∨ t = 1) : 33 ≤ recS dt t so k ∧ recS dt t so k ≤ 254 + 1 := by
  have h1 := hdS_rng h 0 so
  have h2 := hdS_rng h 1 so
  have h3 := al_rng h so
  have h4 : outS dt so k = 0 → alS dt so k ≤ 254 - hdS dt 0 so k := by
    have h5 := h
    obtain ⟨h0, h1, h2, h3, h4⟩ := h5
    have hh := (hdS_rng h 0 so).2.2 rfl
    unfold alS outS
    by_cases c1 : so < 2
    · rw [if_pos c1, if_pos c1]; intro _; split <;> omega
    · rw [if_neg c1, if_neg c1]
      by_cases c2 : dt 0 k = 2
      · rw [if_pos c2, if_pos c2]
        by_cases c3 : 46 + dt 1 k + dt 4 k ≤ 254 - hdS dt 0 so k
        · intro _; exact c3
        · rw [if_neg c3]; intro _; omega
      · rw [if_neg c2, if_neg c2]; intro _; omega
  have h5 : outS dt so k ≠ 0 → alS dt so k - outS dt so k ≤ 71 := by
    obtain ⟨h0, h1, h2, h3, h4⟩ := h
    unfold alS outS
    by_cases c1 : so < 2
    · rw [if_pos c1, if_pos c1]; intro z; omega
    · rw [if_neg c1, if_neg c1]
      by_cases c2 : dt 0 k = 2
      · rw [if_pos c2, if_pos c2]
        by_cases c3 : 46 + dt 1 k + dt 4 k ≤ 254 - hdS dt 0 so k
        · rw [if_pos c3]; intro z; omega
        · rw [if_neg c3]; intro _; omega
      · rw [if_neg c2, if_neg c2]; intro z; omega
  unfold recS useS
  rcases ht with ht | ht
  · rw [if_neg (by omega)]
    by_cases c : outS dt so k = 0
    · have := h4 c
      rw [c, if_pos rfl]
      omega
    · have := h5 c
      have := h1.2.2 rfl
      rw [if_neg c]
      omega
  · rw [if_pos ht]
    omega
theorem chD_miss {par kd : Nat → Int} {o : Nat → Nat} {d : Int} {Q : List Nat} {j j2 : Nat} (h : ¬ par (o j) = d) (e : j2 = j + 1) : chD par kd o d Q j2 = chD par kd o d Q j := by
  subst e; exact accF_miss h
theorem chD_skip {par kd : Nat → Int} {o : Nat → Nat} {d : Int} {Q : List Nat} {j j2 : Nat} (h : par (o j) = d) (h2 : ¬ kd (o j) = 0) (e : j2 = j + 1) : chD par kd o d Q j2 = chD par kd o d Q j := by
  subst e; exact (accF_hit h).trans (if_neg h2)
theorem chD_add {par kd : Nat → Int} {o : Nat → Nat} {d : Int} {Q : List Nat} {j j2 : Nat} (h : par (o j) = d) (h2 : kd (o j) = 0) (e : j2 = j + 1) : chD par kd o d Q j2 = chD par kd o d Q j ++ [o j] := by
  subst e; exact (accF_hit h).trans (if_pos h2)
theorem chD_12 {par kd : Nat → Int} {o : Nat → Nat} {N c i j : Nat} (ho : ∀ j, j < c → 1 ≤ o j ∧ o j < N) (hinj : ∀ a b, a < b → b < c → o a ≠ o b) (hN : 1 ≤ N) (h0 : kd 0 = 0) (h12 : cP (fun q => kd q = 0) N ≤ 12) (hi : i < (qF par kd o c i).length) (hj : j ≤ c) : (chD par kd o (((qF par kd o c i).getD i 0 : Nat) : Int) (qF par kd o c i) j).length ≤ 12 :=
  Nat.le_trans (QI_len (chD_QI ho hinj (qF_QI ho hinj hN h0 i) hi j hj).1) h12
theorem dirS_hit {dt : Nat → Nat → Int} {t ru : Int} {o : Nat → Nat} {d j j2 : Nat} (h : dt 5 (o j) = d) (e : j2 = j + 1) : dirS dt t o ru d j2 = stR dt t 2 (dirS dt t o ru d j) (o j) := by
  subst e; exact accF_hit h
theorem dirS_miss {dt : Nat → Nat → Int} {t ru : Int} {o : Nat → Nat} {d j j2 : Nat} (h : ¬ dt 5 (o j) = d) (e : j2 = j + 1) : dirS dt t o ru d j2 = dirS dt t o ru d j := by
  subst e; exact accF_miss h
