/-- from a component's beginning to its end -/
theorem cp_walk {f : Nat → Int32} {n p : Nat} (hp : p < n) (hF : cpF f n p = p) : (cpF f n (nxS f n p) = p ∧ cpT f n (nxS f n p) = cpT f n p ∧ cpB f n (nxS f n p) = cpB f n p) ∧ (nxS f n p = n ∨ (f (nxS f n p)).toInt = 47) := by
  have h1 := nxS_ge f n p
  have h2 := nxS_le f n p (by omega)
  have walk : ∀ q, p ≤ q → q ≤ nxS f n p → cpF f n q = p ∧ cpT f n q = cpT f n p ∧ cpB f n q = cpB f n p ∧ nxS f n q = nxS f n p := by
    intro q
    induction q with
    | zero => intro a b; rw [show p = 0 by omega]; rw [show p = 0 by omega] at hF; exact ⟨hF, rfl, rfl, rfl⟩
    | succ q iq =>
      intro a b
      by_cases e : p = q + 1
      · rw [← e]; exact ⟨hF, rfl, rfl, rfl⟩
      · obtain ⟨i1, i2, i4, i3⟩ := iq (by omega) (by omega)
        have hq : q < n ∧ ¬ (f q).toInt = 47 := by
          refine ⟨by omega, fun h47 => ?_⟩
          have := nxS_end (t := f) (n := n) (q := q) (Or.inr h47)
          omega
        have hm : ¬ (q = n ∨ (f q).toInt = 47) := by
          intro hh; rcases hh with hh | hh
          · omega
          · exact hq.2 hh
        exact ⟨by rw [cpF_miss hm]; exact i1, by rw [cpT_miss hm]; exact i2, by rw [cpB_miss hm]; exact i4, by rw [← nxS_go hq.1 hq.2]; exact i3⟩
  obtain ⟨w1, w2, w4, w3⟩ := walk (nxS f n p) h1 (Nat.le_refl _)
  refine ⟨⟨w1, w2, w4⟩, ?_⟩
  by_cases e : nxS f n p = n
  · exact Or.inl e
  · refine Or.inr ?_
    by_cases g : (f (nxS f n p)).toInt = 47
    · exact g
    · have := nxS_go (t := f) (n := n) (q := nxS f n p) (by omega) g
      have := nxS_ge f n (nxS f n p + 1)
      omega
theorem cp_end {f : Nat → Int32} {n p : Nat} (hp : n ≤ p) (hp2 : p ≤ n + 1) (hF : cpF f n p = p) : cpB f n (n + 1) = cpB f n p ∧ cpT f n (n + 1) = cpT f n p := by
  by_cases e : p = n + 1
  · rw [e]; exact ⟨rfl, rfl⟩
  · have e2 : p = n := by omega
    subst e2
    rw [cpB_hit (i := p) (Or.inl rfl), cpT_hit (i := p) (Or.inl rfl), hF, csz_0]
    refine ⟨?_, by omega⟩
    unfold coL
    rw [if_neg (Nat.lt_irrefl p), List.append_nil]
theorem mrk_is {f : Nat → Int32} {p q : Nat} {m : Int} (h : (m = 2 ∧ q = p + 1 ∧ (f p).toInt = 46) ∨ (m = 4 ∧ q = p + 2 ∧ (f p).toInt = 46 ∧ (f (p + 1)).toInt = 46) ∨ (m = 0 ∧ ¬ (q = p + 1 ∧ (f p).toInt = 46) ∧ ¬ (q = p + 2 ∧ (f p).toInt = 46 ∧ (f (p + 1)).toInt = 46))) : m = mrk f p q := by
  unfold mrk
  rcases h with ⟨a, b, c⟩ | ⟨a, b, c, d⟩ | ⟨a, b, c⟩
  · rw [if_pos c, if_pos b]; exact a
  · rw [if_pos c, if_neg (by omega), if_pos ⟨b, d⟩]; exact a
  · by_cases e : (f p).toInt = 46
    · rw [if_pos e, if_neg (fun g => b ⟨g, e⟩), if_neg (fun g => c ⟨g.1, e, g.2⟩)]; exact a
    · rw [if_neg e]; exact a
/-- the parts by their numbers -/
def ptL (dt dx : Nat → Nat → Int) (nf : Nat → Nat → Nat → Int32) (i so : Int) (k : Nat) : List Int := if i = 0 then spL so k else if i = 1 then pxL (dx 1 k) (dx 2 k) (dx 3 k) (dx 4 k) else if i = 2 then nmL dt nf so k else slL dt dx nf so k
def ptsL (dt dx : Nat → Nat → Int) (nf : Nat → Nat → Nat → Int32) (so : Int) (k : Nat) : Nat → List Int
  | 0 => []
  | i + 1 => ptsL dt dx nf so k i ++ ptL dt dx nf i so k
theorem pts_3 (dt dx : Nat → Nat → Int) (nf : Nat → Nat → Nat → Int32) (so : Int) (k : Nat) : ptsL dt dx nf so k 3 = fpL dt dx nf so k := rfl
theorem pts_4 (dt dx : Nat → Nat → Int) (nf : Nat → Nat → Nat → Int32) (so : Int) (k : Nat) : ptsL dt dx nf so k 4 = usL dt dx nf so k := rfl
/-- a record's head, as the reference writes it -/
theorem rh_ofM {I J1 J2 J3 J4 J5 J6 J7 J8 : Nat → Int} {lo hi x1 x2 x3 x4 x5 x6 x7 x8 y y1 y5 y7 ext siz fl : Int} {J : List Int} (hz : ZA I lo hi) (h1 : Pt I J1 x1 y1) (h2 : BL J1 J2 x2 (bL4 ext)) (h3 : BL J2 J3 x3 (bL4 siz)) (h4 : BL J3 J4 x4 [100, 1, 1]) (h5 : Pt J4 J5 x5 y5) (h6 : BL J5 J6 x6 (bL2 1)) (h7 : Pt J6 J7 x7 y7) (h8 : BL J7 J8 x8 J)
    (e1 : x1 = lo) (e2 : x2 = lo + 2) (e3 : x3 = lo + 10) (e4 : x4 = lo + 18) (e5 : x5 = lo + 25) (e6 : x6 = lo + 28) (e7 : x7 = lo + 32) (e8 : x8 = lo + 33) (v1 : y1 % 256 = y % 256) (v5 : y5 % 256 = fl) (v7 : y7 = J.length) (hh : lo + 33 ≤ hi) : Rn I J8 lo (rhL y ext siz fl J) (33 + J.length) hi := by
  have z1 := hz.sub (c := lo + 21) (d := lo + 25) (by omega) (by omega)
  have z2 := z1.bl (BL_pt h1) (by rw [List.length_singleton]; omega)
  have z3 := z2.bl h2 (by show x2 + ((8 : Nat) : Int) ≤ _ ∨ _; omega)
  have z4 := z3.bl h3 (by show x3 + ((8 : Nat) : Int) ≤ _ ∨ _; omega)
  have z5 := z4.bl h4 (by show x4 + ((3 : Nat) : Int) ≤ _ ∨ _; omega)
  have h9 : BL J3 J4 x4 ([100, 1, 1] ++ List.replicate 4 0) := h4.app (BL_hole (lo := lo + 21) (n := 4) (z5.sub (Int.le_refl _) (by omega))) (by show lo + 21 = x4 + ((3 : Nat) : Int); omega)
  exact rh_of hz h1 h2 h3 h9 h5 h6 h7 h8 e1 e2 e3 e4 e5 e6 e7 e8 v1 rfl v5 v7 hh
/-- where 'along' stands, as bytes -/
def AlB (dt dx : Nat → Nat → Int) (nf : Nat → Nat → Nat → Int32) (rf t : Int) (fP : Nat → Int32) (o : Nat → Nat) (c : Nat) (s0 : List Int × List Int) (d : Nat) (so nk : Int) (s : List Int × List Int) : Prop :=
  (so = 0 ∧ s = s0) ∨ (so = 1 ∧ s = stB dt dx nf rf t 0 s0 d) ∨ (so = 2 ∧ nk < 0 ∧ s = hd2B dt dx nf rf t s0 d) ∨ (so = 2 ∧ 0 ≤ nk ∧ ∃ j, PosN fP d o c nk j ∧ s = dirB dt dx nf rf t o s0 d (j + 1))
section
variable {dt dx : Nat → Nat → Int} {nf : Nat → Nat → Nat → Int32} {K : Nat → Nat → Int} {nl c d z : Nat} {fK fP fNS fSz fSd : Nat → Int32} {rf t N r so so2 nk : Int} {o : Nat → Nat} {s0 s : List Int × List Int}
theorem AlB_01 (h : AlB dt dx nf rf t fP o c s0 d so nk s) (hs : so < 2) (hn : nk < 0) (h0 : so = 0 → z = d) (h1 : so = 1 → z = if d = 0 then 0 else (dt 5 d).toNat) (hs2 : so2 = so + 1) : AlB dt dx nf rf t fP o c s0 d so2 nk (stB dt dx nf rf t so s z) := by
  rcases h with ⟨a, b⟩ | ⟨a, b⟩ | ⟨a, _⟩ | ⟨a, _⟩
  · exact Or.inr (Or.inl ⟨by omega, by rw [b, a, h0 a]⟩)
  · refine Or.inr (Or.inr (Or.inl ⟨by omega, hn, ?_⟩))
    unfold hd2B
    rw [← h1 a, ← b, a]
  · omega
  · omega
theorem AlB_next (hO : OrdP K nl (fun k => t = 0 ∨ (fK k).toInt ≠ 2) o c N.toNat) (hU : UN K nl fP N) (hD : DtM dt N fK fP fNS fSz fSd) (hN : NextP K nl fK fP t d nk N r) (h : AlB dt dx nf rf t fP o c s0 d so nk s) (hs : so = 2) : ∃ j, PosN fP d o c r j ∧ s = dirB dt dx nf rf t o s0 d j := by
  rcases h with ⟨a, _⟩ | ⟨a, _⟩ | ⟨_, a, b⟩ | ⟨_, a, j, hj, b⟩
  · omega
  · omega
  · obtain ⟨j, h1, h2⟩ := acc_first (S := List Int × List Int) (st := stB dt dx nf rf t 2) (s0 := hd2B dt dx nf rf t s0 d) hO hU hN a (hD.par hO)
    exact ⟨j, h1, by rw [b]; exact h2.symm⟩
  · obtain ⟨j2, h1, h2⟩ := acc_next (S := List Int × List Int) (st := stB dt dx nf rf t 2) (s0 := hd2B dt dx nf rf t s0 d) hO hU hN a hj (hD.par hO)
    exact ⟨j2, h1, by rw [b]; exact h2.symm⟩
theorem AlB_end (h : ∃ j, PosN fP d o c r j ∧ s = dirB dt dx nf rf t o s0 d j) (hr : r < 0) : dirB dt dx nf rf t o s0 d c = s := by
  obtain ⟨j, hj, e⟩ := h
  rcases hj with ⟨_, hj⟩ | ⟨hj, _⟩
  · rw [← hj]; exact e.symm
  · omega
theorem AlB_2 (hO : OrdP K nl (fun k => t = 0 ∨ (fK k).toInt ≠ 2) o c N.toNat) (hD : DtM dt N fK fP fNS fSz fSd) (h : ∃ j, PosN fP d o c r j ∧ s = dirB dt dx nf rf t o s0 d j) (hr : 0 ≤ r) (hz : z = r.toNat) (hs2 : so2 = 2) : AlB dt dx nf rf t fP o c s0 d so2 r (stB dt dx nf rf t 2 s z) := by
  obtain ⟨j, hj, e⟩ := h
  refine Or.inr (Or.inr (Or.inr ⟨hs2, hr, j, hj, ?_⟩))
  rcases hj with ⟨hj, _⟩ | ⟨_, a, b, c1⟩
  · omega
  · unfold dirB at e ⊢
    rw [accF_hit (by rw [hD.par hO j a]; exact c1), ← e, b, ← hz]
end
section
variable {dt : Nat → Nat → Int} {nf : Nat → Nat → Nat → Int32} {t so : Int} {k i : Nat}
theorem idL_0 (h : so < 2) : (idL dt nf t so k).getD 0 0 = so := by
  unfold idL; rw [if_pos h]; rfl
theorem idL_1e (h : ¬ so < 2) (ht : t = 1) (hi : (i : Int) < dt 1 k) (hr : 0 ≤ (nf k 1 i).toInt ∧ (nf k 1 i).toInt ≤ 255) : (idL dt nf t so k).getD (2 * i) 0 = 0 := by
  unfold idL; rw [if_neg h, if_pos ht, (lnL_at (nf k 1) (n := (dt 1 k).toNat) (i := i) (by omega)).1]; omega
theorem idL_1o (h : ¬ so < 2) (ht : t = 1) (hi : (i : Int) < dt 1 k) : (idL dt nf t so k).getD (2 * i + 1) 0 = (nf k 1 i).toInt % 256 := by
  unfold idL; rw [if_neg h, if_pos ht, (lnL_at (nf k 1) (n := (dt 1 k).toNat) (i := i) (by omega)).2]
theorem idL_b (h : ¬ so < 2) (ht : ¬ t = 1) (h2 : 0 ≤ dt 2 k) (h3 : 0 ≤ dt 3 k) (hi : (i : Int) < dt 2 k) : (idL dt nf t so k).getD i 0 = (nf k 2 i).toInt % 256 := by
  unfold idL; rw [if_neg h, if_neg ht]
  by_cases c : dt 0 k = 0
  · unfold shL; rw [if_pos c, byL_at _ 0 (by omega), Nat.zero_add]
  · exact (shL_at (nf k 2) h2 h3 c).1 i hi
theorem idL_dot (h : ¬ so < 2) (ht : ¬ t = 1) (h2 : 0 ≤ dt 2 k) (h3 : 0 ≤ dt 3 k) (hd : dt 0 k ≠ 0) (hi : (i : Int) = dt 2 k) : (idL dt nf t so k).getD i 0 = 46 := by
  unfold idL; rw [if_neg h, if_neg ht, show i = (dt 2 k).toNat by omega]
  exact (shL_at (nf k 2) h2 h3 hd).2.1
theorem idL_e {j : Nat} (h : ¬ so < 2) (ht : ¬ t = 1) (h2 : 0 ≤ dt 2 k) (h3 : 0 ≤ dt 3 k) (hd : dt 0 k ≠ 0) (hj : (j : Int) < dt 3 k) (hi : (i : Int) = dt 2 k + 1 + j) : (idL dt nf t so k).getD i 0 = (nf k 2 (8 + j)).toInt % 256 := by
  unfold idL; rw [if_neg h, if_neg ht, show i = (dt 2 k).toNat + 1 + j by omega]
  exact (shL_at (nf k 2) h2 h3 hd).2.2.1 j hj
theorem idL_59 (h : ¬ so < 2) (ht : ¬ t = 1) (h2 : 0 ≤ dt 2 k) (h3 : 0 ≤ dt 3 k) (hd : dt 0 k ≠ 0) (hi : (i : Int) = dt 2 k + 1 + dt 3 k) : (idL dt nf t so k).getD i 0 = 59 := by
  unfold idL; rw [if_neg h, if_neg ht, show i = (dt 2 k).toNat + 1 + (dt 3 k).toNat by omega]
  exact (shL_at (nf k 2) h2 h3 hd).2.2.2.1
theorem idL_49 (h : ¬ so < 2) (ht : ¬ t = 1) (h2 : 0 ≤ dt 2 k) (h3 : 0 ≤ dt 3 k) (hd : dt 0 k ≠ 0) (hi : (i : Int) = dt 2 k + 2 + dt 3 k) : (idL dt nf t so k).getD i 0 = 49 := by
  unfold idL; rw [if_neg h, if_neg ht, show i = (dt 2 k).toNat + 2 + (dt 3 k).toNat by omega]
  exact (shL_at (nf k 2) h2 h3 hd).2.2.2.2
theorem idS_2 (h : ¬ so < 2) (ht : ¬ t = 1) : (dt 0 k = 0 → idS dt t so k = dt 2 k) ∧ (dt 0 k ≠ 0 → idS dt t so k = dt 2 k + dt 3 k + 3) := by
  unfold idS; rw [if_neg h, if_neg ht]
  exact ⟨fun c => if_pos c, fun c => if_neg c⟩
theorem idS_1 (h : ¬ so < 2) (ht : t = 1) : idS dt t so k = 2 * dt 1 k := by
  unfold idS; rw [if_neg h, if_pos ht]
theorem idS_0 (h : so < 2) : idS dt t so k = 1 := by
  unfold idS; rw [if_pos h]
end
theorem nmF_255 (fN fNS : Nat → Int32) (k i : Nat) : 0 ≤ nmF fN fNS k i ∧ nmF fN fNS k i ≤ 255 := by
  unfold nmF
  split
  · rw [i_and255m]; omega
  · omega
theorem WP_2 {I J0 J1 J2 J3 J4 K : Nat → Int} {x ru x1 x2 x3 x4 x5 n a b o : Int} {P Q : List Int} (h : BL I J0 x P) (h1 : BL J0 J1 x1 [67, 69, 28, 1]) (h2 : BL J1 J2 x2 (bL4 a)) (h3 : BL J2 J3 x3 (bL4 b)) (h4 : BL J3 J4 x4 (bL4 o)) (h5 : BL J4 K x5 Q)
    (hn : (P.length : Int) = n) (e1 : x1 = x + n) (e2 : x2 = x + n + 4) (e3 : x3 = x + n + 12) (e4 : x4 = x + n + 20) (e5 : x5 = ru) (ha : a = ru / 2048) (hb : b = ru % 2048) (ho : o = Q.length) (hq : o ≠ 0) : WP I K x ru P Q := by
  subst ha; subst hb; subst e5; subst ho
  refine ⟨J4, ?_, h5⟩
  unfold ceL
  rw [if_neg hq]
  have b1 := h.app h1 (by omega)
  have b4 := b1.app h2 (by rw [List.length_append]; show _ = x + ((P.length + 4 : Nat) : Int); omega)
  have b5 := b4.app h3 (by rw [List.length_append, List.length_append]; show _ = x + ((P.length + 4 + 8 : Nat) : Int); omega)
  have b6 := b5.app h4 (by rw [List.length_append, List.length_append, List.length_append]; show _ = x + ((P.length + 4 + 8 + 8 : Nat) : Int); omega)
  refine b6.cast rfl ?_
  rw [List.append_assoc, List.append_assoc, List.append_assoc]
  rfl
theorem AlS_le {dt : Nat → Nat → Int} {t ru : Int} {fP : Nat → Int32} {o : Nat → Nat} {c d : Nat} {so nk lp lr : Int} (ht : t = 0 ∨ t = 1) (hR : ∀ j, j < c → DtR dt (o j)) (h1 : DtR dt d) (h2 : DtR dt (if d = 0 then 0 else (dt 5 d).toNat)) (hr : 0 ≤ ru) (h : AlS dt t fP o c ru d so nk lp lr) : lp ≤ (dirS dt t o ru d c).1 ∧ lr ≤ (dirS dt t o ru d c).2 := by
  have g := hd2_ge ht h1 h2 hr
  have e0 : dirS dt t o ru d 0 = hd2 dt t ru d := rfl
  have k := dirS_ge (o := o) (c := c) (ru := ru) (d := d) ht hR ⟨by omega, by omega⟩ (i := 0) (j := c) (Nat.zero_le c) (Nat.le_refl c)
  rw [e0] at k
  rcases h with ⟨_, b⟩ | ⟨_, b⟩ | ⟨_, _, b⟩ | ⟨_, a, j, hj, b⟩
  · have b1 : lp = 0 := congrArg Prod.fst b
    have b2 : lr = ru := congrArg Prod.snd b
    omega
  · have b1 : lp = (stR dt t 0 (0, ru) d).1 := congrArg Prod.fst b
    have b2 : lr = (stR dt t 0 (0, ru) d).2 := congrArg Prod.snd b
    omega
  · have b1 : lp = (hd2 dt t ru d).1 := congrArg Prod.fst b
    have b2 : lr = (hd2 dt t ru d).2 := congrArg Prod.snd b
    omega
  · rcases hj with ⟨hj, _⟩ | ⟨_, q, _⟩
    · omega
    · have k2 := dirS_ge (o := o) (c := c) (ru := ru) (d := d) ht hR ⟨by omega, by omega⟩ (i := j + 1) (j := c) (by omega) (Nat.le_refl c)
      have b1 : lp = (dirS dt t o ru d (j + 1)).1 := congrArg Prod.fst b
      have b2 : lr = (dirS dt t o ru d (j + 1)).2 := congrArg Prod.snd b
      omega
/-- what ties all nodes of the reference to dt, dx, nf -/
def LnkM (dt dx : Nat → Nat → Int) (nf : Nat → Nat → Nat → Int32) (N : Int) (fK fP fM fO fG fSz fN fNS fT fTS fBa fBs fEx fEs : Nat → Int32) : Prop := ∀ k : Nat, (k : Int) < N →
  (dt 0 k = (fK k).toInt ∧ 0 ≤ (fK k).toInt ∧ (fK k).toInt ≤ 2) ∧ dt 1 k = (fNS k).toInt ∧ (1 ≤ k → dt 2 k = (fBs k).toInt ∧ dt 3 k = (fEs k).toInt) ∧ (∀ j : Nat, (j : Int) < (fNS k).toInt → nmF fN fNS k j = (nf k 1 j).toInt) ∧ (1 ≤ k → ∀ j : Nat, j < 11 → kyF fBa fBs fEx fEs k j = (nf k 2 j).toInt) ∧
  ((fK k).toInt = 2 → dt 4 k = compS (tgF fT k) (fTS k).toInt.toNat ∧ 1 ≤ (fTS k).toInt) ∧ (∀ j : Nat, (j : Int) < (fTS k).toInt → tgF fT k j = nf k 3 j) ∧ (dx 0 k = (fTS k).toInt ∧ dx 1 k = (mdW (fK k) (fM k)).toInt ∧ dx 2 k = (if (fK k).toInt = 0 then dnF (dt 5) (dt 0) k N.toNat + 2 else 1) ∧ dx 3 k = (fO k).toInt ∧ dx 4 k = (fG k).toInt) ∧ (1 ≤ k → dt 5 k = (fP k).toInt)
/-- places and sizes of what is written -/
def LnkX (dt dx : Nat → Nat → Int) (t : Nat) (N : Int) (fK fSz fSe fSs fCo : Nat → Int32) : Prop := ∀ k : Nat, (k : Int) < N → dxE dx t k = (if (fK k).toInt = 0 then (fSe (40 * t + k)).toInt else if 0 < (fSz k).toInt then (fCo k).toInt else 0) ∧ dxZ dx t k = (if (fK k).toInt = 0 then 2048 * (fSs (40 * t + k)).toInt else (fSz k).toInt) ∧ ((fK k).toInt = 0 → 0 ≤ (fSs (40 * t + k)).toInt ∧ (fSs (40 * t + k)).toInt ≤ 2000)
theorem upd_sh {f g : Nat → Int32} {i d : Nat} {x : Int32} (e : g = upd f i x) (hi : i = 40 + d) : (fun k => g (40 + k)) = upd (fun k => f (40 + k)) d x := funext (fun k => by
  show g (40 + k) = upd (fun k => f (40 + k)) d x k
  subst hi
  rw [e]
  by_cases c : k = d
  · subst c; rw [upd_at, upd_at]
  · rw [upd_off (show 40 + k ≠ 40 + d by omega), upd_off c])
theorem BgL_keep {dt : Nat → Nat → Int} {t : Int} {o : Nat → Nat} {c n i j : Nat} {Q : List Nat} {s : Int × Int} {fb fe gb ge : Nat → Int32} {x y : Int32} (h : BgL dt t o c Q s fb fe n) (hQ : ∀ a, a < Q.length → Q.getD a 0 < 40) (hn : n ≤ Q.length) (e1 : gb = upd fb i x) (e2 : ge = upd fe j y) (hi : 40 ≤ i) (hj : 40 ≤ j) : BgL dt t o c Q s gb ge n := fun a ha => by
  have q := hQ a (by omega)
  rw [e1, e2, upd_off (show Q.getD a 0 ≠ i by omega), upd_off (show Q.getD a 0 ≠ j by omega)]
  exact h a ha
theorem QR_cg {Q : List Nat} {f g : Nat → Int32} {off n : Nat} (h : QR Q f off n) (e : ∀ j, j < n → g (off + j) = f (off + j)) : QR Q g off n := ⟨h.1, fun j hj => by rw [e j hj]; exact h.2 j hj⟩
theorem zero_b {F : Nat → Int64} {n : Nat} (h : ∀ q, q < n → F q = 0) (p : Nat) (hp : p < 8 * n) : bF F p = 0 := by
  unfold bF
  rw [h (p / 8) (by omega), BitVec.extractLsb'_toNat, show (0 : Int64).toBitVec.toNat = 0 from rfl, Nat.zero_shiftRight]
  rfl
theorem QA_m {K : Nat → Nat → Int} {nl c : Nat} {t N : Int} {o : Nat → Nat} {fK fP fNS fSz fSd fTS : Nat → Int32} {dt : Nat → Nat → Int} {Q : List Nat} (hO : OrdP K nl (fun k => t = 0 ∨ (fK k).toInt ≠ 2) o c N.toNat) (hDm : DtM dt N fK fP fNS fSz fSd) (hT : TI N fK fP fNS fSz fTS) (hQ : qF (dt 5) (dt 0) o c 40 = Q) : (1 ≤ Q.length ∧ Q.getD 0 0 = 0) ∧ (∀ a, a < Q.length → Q.getD a 0 < N.toNat ∧ dt 0 (Q.getD a 0) = 0) ∧ NdL Q ∧ ∀ k, k < N.toNat → dt 0 k = 0 → ∃ a, a < Q.length ∧ Q.getD a 0 = k := by
  have n1 := hT.n1
  have h0 : dt 0 0 = 0 := by rw [(hDm 0 (by omega)).1.1]; exact hT.k0
  have q := qF_QI (par := dt 5) (kd := dt 0) (fun j hj => ⟨(hO.1 j hj).1, (hO.1 j hj).2.1⟩) hO.2.2.2 (by omega) h0 40
  have l := QI_len q
  have cc : cP (fun q => dt 0 q = 0) N.toNat ≤ 12 := by
    have c := hT.cc
    rw [← cntK_cP] at c
    rw [cP_cg (q := fun q => (fK q).toInt = 0) (fun k hk1 => by rw [(hDm k (by omega)).1.1])]
    exact c
  have a := fun (k : Nat) (hk : k < N.toNat) (hd : dt 0 k = 0) => q_all (par := dt 5) (kd := dt 0) hO (fun k hk hd => Or.inr (by rw [← (hDm k (by omega)).1.1, hd]; decide)) ⟨by omega, h0⟩ (fun k h1 hk => by
    have p := hT.pp k h1 (by omega)
    have c1 := i_cl (a := fP k) p.1
    exact ⟨(fP k).toNatClampNeg, by omega, by rw [(hDm k (by omega)).2 h1]; omega, by rw [(hDm _ (by omega)).1.1]; exact p.2.2⟩) (by omega) k hk hd
  rw [hQ] at q a
  exact ⟨q.1, q.2.1, q.2.2.1, a⟩
theorem RQ_m {N : Int} {fK fP fNS fSz fSd fTS : Nat → Int32} {dt : Nat → Nat → Int} {Q : List Nat} (hDR : ∀ k : Nat, (k : Int) < N → DtR dt k) (hDm : DtM dt N fK fP fNS fSz fSd) (hT : TI N fK fP fNS fSz fTS) (hQ : ∀ a, a < Q.length → Q.getD a 0 < N.toNat ∧ dt 0 (Q.getD a 0) = 0) : ∀ i, i < Q.length → DtR dt (Q.getD i 0) ∧ DtR dt (if Q.getD i 0 = 0 then 0 else (dt 5 (Q.getD i 0)).toNat) := fun i hi => by
  have q := (hQ i hi).1
  refine ⟨hDR _ (by omega), hDR _ ?_⟩
  by_cases c : Q.getD i 0 = 0
  · have := hT.n1
    rw [if_pos c]; omega
  · have p := hT.pp (Q.getD i 0) (by omega) (by omega)
    rw [if_neg c, (hDm _ (by omega)).2 (by omega)]
    omega
theorem LnkX_of {dt dx : Nat → Nat → Int} {t : Nat} {t2 : Int} {o : Nat → Nat} {c : Nat} {Q : List Nat} {s : Int × Int} {N z : Int} {fK fSz fSe fSs fCo fe fs : Nat → Int32} (ht : (t = 0 ∧ t2 = 0) ∨ (t = 1 ∧ t2 = 1)) (hfe : ∀ k, fe k = fSe (40 * t + k)) (hfs : ∀ k, fs k = fSs (40 * t + k)) (hb : BgL dt t2 o c Q s fe fs Q.length) (hX : WkX dt dx t2 o c Q s) (hA : ∀ k, k < N.toNat → dt 0 k = 0 → ∃ a, a < Q.length ∧ Q.getD a 0 = k) (hD : ∀ k : Nat, (k : Int) < N → dt 0 k = (fK k).toInt ∧ dt 6 k = (fSz k).toInt ∧ (0 ≤ (fK k).toInt ∧ (fK k).toInt ≤ 2) ∧ 0 ≤ (fSz k).toInt) (hco : CoX dt dx z N.toNat) (hcp : CtP dt z fCo N.toNat) (hS : ∀ k : Nat, (k : Int) < N → (fK k).toInt = 2 → (fSz k).toInt = 0) (hr : ∀ k, k < N.toNat → dt 0 k = 0 → 0 ≤ (fs k).toInt ∧ (fs k).toInt ≤ 2000) : LnkX dt dx t N fK fSz fSe fSs fCo := fun k hk => by
  obtain ⟨d0, d6, ⟨k0, k2⟩, s0⟩ := hD k hk
  have et : ((t : Nat) : Int) = t2 := by rcases ht with ⟨a, b⟩ | ⟨a, b⟩ <;> rw [a, b] <;> rfl
  rw [et]
  by_cases e : (fK k).toInt = 0
  · obtain ⟨a, h1, h2⟩ := hA k (by omega) (by omega)
    have w := hX a h1
    have b := hb a h1
    have r := hr k (by omega) (by omega)
    rw [h2] at w b
    rw [hfs k] at r
    rw [hfe k, hfs k] at b
    rw [if_pos e, if_pos e]
    exact ⟨by rw [w.1, b.1], by rw [w.2, ← b.2]; omega, fun _ => r⟩
  · rw [if_neg e, if_neg e]
    have co := hco k (by omega) (by omega)
    have eE : dxE dx t2 k = dx 5 k := by
      rcases ht with ⟨_, q⟩ | ⟨_, q⟩ <;> subst q
      · exact if_neg (by decide)
      · exact (if_pos rfl).trans co.1.2.2
    have eZ : dxZ dx t2 k = dt 6 k := by
      rcases ht with ⟨_, q⟩ | ⟨_, q⟩ <;> subst q
      · exact (if_neg (by decide)).trans co.1.1
      · exact (if_pos rfl).trans co.1.2.1
    refine ⟨?_, by rw [eZ]; exact d6, fun h => absurd h e⟩
    rw [eE]
    by_cases f : dt 0 k = 1 ∧ dt 6 k ≠ 0
    · rw [if_pos (show 0 < (fSz k).toInt by omega)]
      obtain ⟨j, g1, g2, g3⟩ := co.2.1 f.1 f.2
      obtain ⟨i, p1, p2, p3⟩ := hcp k (by omega) f.1 f.2
      rw [g3, p3, FwP_uniq g2 p2]
    · have hz : (fSz k).toInt = 0 := by
        clear co
        rcases (show (fK k).toInt = 1 ∨ (fK k).toInt = 2 by omega) with q | q
        · omega
        · exact hS k hk q
      rw [if_neg (show ¬ 0 < (fSz k).toInt by omega)]
      exact co.2.2 f
/-- what both sides know of the nodes' bytes -/
def LnN (dt dx : Nat → Nat → Int) (nf : Nat → Nat → Nat → Int32) (N : Int) (fK fM fO fG fN fNS fT fTS : Nat → Int32) : Prop := ∀ k : Nat, (k : Int) < N → (∀ j : Nat, (j : Int) < (fNS k).toInt → nmF fN fNS k j = (nf k 1 j).toInt) ∧ ((fK k).toInt = 2 → dt 4 k = compS (tgF fT k) (fTS k).toInt.toNat ∧ 1 ≤ (fTS k).toInt) ∧ (∀ j : Nat, (j : Int) < (fTS k).toInt → tgF fT k j = nf k 3 j) ∧ dx 0 k = (fTS k).toInt ∧ dx 1 k = (mdW (fK k) (fM k)).toInt ∧ dx 2 k = (if (fK k).toInt = 0 then dnF (dt 5) (dt 0) k N.toNat + 2 else 1) ∧ dx 3 k = (fO k).toInt ∧ dx 4 k = (fG k).toInt
theorem LnkM_of {dt dx : Nat → Nat → Int} {nf : Nat → Nat → Nat → Int32} {N : Int} {fK fP fM fO fG fSz fSd fN fNS fT fTS fBa fBs fEx fEs : Nat → Int32} (hDm : DtM dt N fK fP fNS fSz fSd) (hk : ∀ k : Nat, (k : Int) < N → 0 ≤ (fK k).toInt ∧ (fK k).toInt ≤ 2) (hBE : ∀ k : Nat, 1 ≤ k → (k : Int) < N → dt 2 k = (fBs k).toInt ∧ dt 3 k = (fEs k).toInt) (hq : ∀ k, 1 ≤ k → k < N.toNat → ∀ j, j < 11 → kyF fBa fBs fEx fEs k j = (nf k 2 j).toInt) (hL : LnN dt dx nf N fK fM fO fG fN fNS fT fTS) : LnkM dt dx nf N fK fP fM fO fG fSz fN fNS fT fTS fBa fBs fEx fEs := fun k hk1 => by
  have d := hDm k hk1
  obtain ⟨l1, l2, l3, l4⟩ := hL k hk1
  exact ⟨⟨d.1.1, hk k hk1⟩, d.1.2.1, fun h => hBE k h hk1, l1, fun h j hj => hq k h (by omega) j hj, l2, l3, l4, fun h => d.2 h⟩
theorem UpM_of {dt dx : Nat → Nat → Int} {t N : Int} {Q : List Nat} {fK fP fNS fSz fSd fTS : Nat → Int32} (hV : UpX dt dx t Q) (hDm : DtM dt N fK fP fNS fSz fSd) (hT : TI N fK fP fNS fSz fTS) (hQ : ∀ a, a < Q.length → Q.getD a 0 < N.toNat ∧ dt 0 (Q.getD a 0) = 0) : ∀ i, i < Q.length → 1 ≤ Q.getD i 0 → ∃ j, j < Q.length ∧ ((Q.getD j 0 : Nat) : Int) = (fP (Q.getD i 0)).toInt ∧ dxU dx t (Q.getD i 0) = (j : Int) + 1 := fun i hi h1 => by
  have q := (hQ i hi).1
  obtain ⟨j, g1, g2, g3⟩ := hV i hi
  have p := hT.pp (Q.getD i 0) h1 (by omega)
  refine ⟨j, g1, ?_, g3⟩
  rw [g2, if_neg (show ¬ Q.getD i 0 = 0 by omega), (hDm _ (by omega)).2 h1]
  omega
theorem CtP_skip {dt : Nat → Nat → Int} {x : Int} {v : Nat → Int32} {n n2 : Nat} (h : CtP dt x v n) (hn : ¬ (dt 0 n = 1 ∧ dt 6 n ≠ 0)) (e2 : n2 = n + 1) : CtP dt x v n2 := fun k hk h0 h6 => by
  by_cases c : k = n
  · subst c; exact absurd ⟨h0, h6⟩ hn
  · exact h k (by omega) h0 h6
theorem CtP_step {dt : Nat → Nat → Int} {x : Int} {v w : Nat → Int32} {n n2 j : Nat} {y : Int32} (h : CtP dt x v n) (e : w = upd v n y) (hF : FwP dt n j) (hj : j ≤ n) (hy : j < n → y.toInt = (v j).toInt) (hy2 : j = n → y.toInt = x + ctS dt n) (h6 : dt 6 n ≠ 0) (e2 : n2 = n + 1) : CtP dt x w n2 := fun k hk h0 h6k => by
  by_cases c : k = n
  · subst c
    refine ⟨j, hj, hF, ?_⟩
    rw [e, upd_at]
    by_cases d : j = k
    · rw [hy2 d, d]
    · have nw := FwP_first hF h6
      obtain ⟨i, g1, g2, g3⟩ := h j (by omega) nw.1 nw.2.1
      rw [hy (by omega), g3, FwP_uniq g2 ((FwP_new nw.1 nw.2.1).mpr nw)]
  · rw [e, upd_off c]
    exact h k (by omega) h0 h6k
/-- within a walk -/
theorem wk_in {dt : Nat → Nat → Int} {t : Int} {o : Nat → Nat} {c i d : Nat} {Q : List Nat} {s : Int × Int} {xe re : Int} (ht : t = 0 ∨ t = 1) (hR : ∀ j, j < c → DtR dt (o j)) (hQ : ∀ i, i < Q.length → DtR dt (Q.getD i 0) ∧ DtR dt (if Q.getD i 0 = 0 then 0 else (dt 5 (Q.getD i 0)).toNat)) (h0 : 0 ≤ s.1 ∧ 0 ≤ s.2) (hi : i < Q.length) (hd : Q.getD i 0 = d) (he : (wkS dt t o c Q s Q.length).1 = xe ∧ (wkS dt t o c Q s Q.length).2 = re) : (s.1 ≤ (wkS dt t o c Q s i).1 ∧ 0 ≤ (wkS dt t o c Q s i).2) ∧ ((wkS dt t o c Q s i).1 * 2048 + (dirS dt t o (wkS dt t o c Q s i).2 d c).1 ≤ xe * 2048 ∧ (dirS dt t o (wkS dt t o c Q s i).2 d c).2 ≤ re) ∧ 0 ≤ (dirS dt t o (wkS dt t o c Q s i).2 d c).1 ∧ (wkS dt t o c Q s (i + 1)).1 * 2048 ≤ xe * 2048 := by
  subst hd
  have a := wkS_ge (o := o) (c := c) (Q := Q) (s := s) ht hR hQ h0 (i := 0) (j := i) (Nat.zero_le _) (by omega)
  have a0 : wkS dt t o c Q s 0 = s := rfl
  rw [a0] at a
  have b := wkS_ge (o := o) (c := c) (Q := Q) (s := s) ht hR hQ h0 (i := i) (j := i + 1) (by omega) (by omega)
  have e := wkS_ge (o := o) (c := c) (Q := Q) (s := s) ht hR hQ h0 (i := i + 1) (j := Q.length) (by omega) (Nat.le_refl _)
  have q := hQ i hi
  have g := hd2_ge (ru := (wkS dt t o c Q s i).2) ht q.1 q.2 b.1.2
  have f := dirS_ge (o := o) (c := c) (ru := (wkS dt t o c Q s i).2) (d := Q.getD i 0) ht hR ⟨by omega, by omega⟩ (i := 0) (j := c) (Nat.zero_le c) (Nat.le_refl c)
  have f0 : dirS dt t o (wkS dt t o c Q s i).2 (Q.getD i 0) 0 = hd2 dt t (wkS dt t o c Q s i).2 (Q.getD i 0) := rfl
  rw [f0] at f
  have u1 : (wkS dt t o c Q s (i + 1)).1 = (wkS dt t o c Q s i).1 + ((dirS dt t o (wkS dt t o c Q s i).2 (Q.getD i 0) c).1 + 2047) / 2048 := by rw [wkS_succ]
  have u2 : (wkS dt t o c Q s (i + 1)).2 = (dirS dt t o (wkS dt t o c Q s i).2 (Q.getD i 0) c).2 := by rw [wkS_succ]
  omega
