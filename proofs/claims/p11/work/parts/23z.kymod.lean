section
variable {Ba Bs Ex Es gBs lBa b1 b2 b3 : Nat → Int32} {X ln d n v : Nat} {nm : Nat → Int} {kd : Int} {c1 c2 c3 : Int32}
theorem ld_lim {ki : Nat} (h : ki = ln ∨ (ln = 0 ∧ ki = 1)) : ldF nm ln = ldF nm ki := by
  rcases h with h | ⟨h, h2⟩
  · rw [h]
  · rw [h, h2, ldF_1]; rfl
theorem ky_plain (hd : d = dtF nm ln kd) (hb : ∀ i : Nat, i < 8 → ((i : Int) < (Bs X).toInt ↔ i < d)) (hB : ∀ j : Nat, (j : Int) < (Bs X).toInt → (Ba (8 * X + j)).toInt = capF (nm j)) (he : ∀ i : Nat, i < 3 → ((i : Int) < (Es X).toInt ↔ d + 1 + i < ln)) (hE : ∀ j : Nat, (j : Int) < (Es X).toInt → (Ex (3 * X + j)).toInt = capF (nm (d + 1 + j))) : ∀ j, j < 11 → kyF Ba Bs Ex Es X j = pkF nm ln kd j := by
  intro j hj
  unfold kyF pkF
  rw [← hd]
  by_cases a : j < 8
  · rw [if_pos a, if_pos a]
    unfold leF
    by_cases b : j < d
    · rw [if_pos b, if_pos ((hb j a).mpr b), hB j ((hb j a).mpr b)]
    · rw [if_neg b, if_neg (fun h => b ((hb j a).mp h))]
  · rw [if_neg a, if_neg a]
    unfold exF
    by_cases b : d + 1 + (j - 8) < ln
    · rw [if_pos b, if_pos ((he (j - 8) (by omega)).mpr b), hE (j - 8) ((he (j - 8) (by omega)).mpr b)]
    · rw [if_neg b, if_neg (fun h => b ((he (j - 8) (by omega)).mp h))]
theorem ky_num (e1 : b1 = upd lBa (8 * X + n) c1) (e2 : b2 = upd b1 (8 * X + n + 1) c2) (e3 : b3 = upd b2 (8 * X + n + 2) c3) (hs : (gBs X).toInt = n + 3) (hn : n = kpF nm ln kd) (hc1 : c1.toInt = 48 + ((v / 100 : Nat) : Int)) (hc2 : c2.toInt = 48 + ((v / 10 % 10 : Nat) : Int)) (hc3 : c3.toInt = 48 + ((v % 10 : Nat) : Int)) (hB : ∀ j, j < n → (lBa (8 * X + j)).toInt = capF (nm j)) (hE : ∀ i, i < 3 → exF Ex Es X i = pkF nm ln kd (8 + i)) : ∀ j, j < 11 → kyF b3 gBs Ex Es X j = nkF (pkF nm ln kd) n v j := by
  intro j hj
  have hn5 := kpF_le nm ln kd
  have hnd : n ≤ dtF nm ln kd ∧ (dtF nm ln kd ≤ n ∨ n = 5) := by
    rw [hn]; unfold kpF; split <;> omega
  by_cases a : j < 8
  · rw [kyF_le a]
    unfold leF nkF
    by_cases p : j < n
    · rw [if_pos (by omega), if_neg (by omega), if_neg (by omega), if_neg (by omega), e3, upd_off (by omega), e2, upd_off (by omega), e1, upd_off (by omega), hB j p]
      unfold pkF
      rw [if_pos a, if_pos (by omega)]
    · by_cases p0 : j = n
      · rw [if_pos (by omega), if_pos p0, e3, upd_off (by omega), e2, upd_off (by omega), e1, p0, upd_at]; exact hc1
      · rw [if_neg p0]
        by_cases p1 : j = n + 1
        · rw [if_pos (by omega), if_pos p1, e3, upd_off (by omega), e2, p1, show 8 * X + (n + 1) = 8 * X + n + 1 by omega, upd_at]; exact hc2
        · rw [if_neg p1]
          by_cases p2 : j = n + 2
          · rw [if_pos (by omega), if_pos p2, e3, p2, show 8 * X + (n + 2) = 8 * X + n + 2 by omega, upd_at]; exact hc3
          · rw [if_neg (by omega), if_neg p2]
            unfold pkF
            rw [if_pos a, if_neg (by omega)]
  · have q := hE (j - 8) (by omega)
    rw [show 8 + (j - 8) = j by omega] at q
    have r := kyF_ex (fBa := b3) (fBs := gBs) (fEx := Ex) (fEs := Es) (k := X) (i := j - 8)
    rw [show 8 + (j - 8) = j by omega] at r
    rw [r, q]
    unfold nkF
    rw [if_neg (by omega), if_neg (by omega), if_neg (by omega)]
theorem ex_plain (h : ∀ j, j < 11 → kyF Ba Bs Ex Es X j = pkF nm ln kd j) : ∀ i, i < 3 → exF Ex Es X i = pkF nm ln kd (8 + i) := by
  intro i hi
  rw [← h (8 + i) (by omega)]
  exact kyF_ex.symm
theorem len_of {Y : Nat → Int} (h1 : 0 ≤ (Bs X).toInt ∧ (Bs X).toInt ≤ 8) (h2 : 0 ≤ (Es X).toInt ∧ (Es X).toInt ≤ 3) (hY : ∀ j, j < 11 → kyF Ba Bs Ex Es X j = Y j) (hb : ∀ i : Nat, (i : Int) < (Bs X).toInt → Y i ≠ 32) (he : ∀ i : Nat, (i : Int) < (Es X).toInt → Y (8 + i) ≠ 32) : LenP (kyF Ba Bs Ex Es X) 0 8 (Bs X).toInt ∧ LenP (kyF Ba Bs Ex Es X) 8 3 (Es X).toInt := by
  refine ⟨⟨by omega, fun i hi => ?_, fun h => ?_⟩, ⟨by omega, fun i hi => ?_, fun h => ?_⟩⟩
  · rw [Nat.zero_add, hY i (by omega)]; exact hb i hi
  · rw [Nat.zero_add, kyF_le (by omega)]; unfold leF; rw [if_neg (by omega)]
  · rw [hY (8 + i) (by omega)]; exact he i hi
  · rw [kyF_ex]; unfold exF; rw [if_neg (by omega)]
theorem len_plain (h1 : 0 ≤ (Bs X).toInt ∧ (Bs X).toInt ≤ 8) (h2 : 0 ≤ (Es X).toInt ∧ (Es X).toInt ≤ 3) (hY : ∀ j, j < 11 → kyF Ba Bs Ex Es X j = pkF nm ln kd j) (hd : d = dtF nm ln kd) (hb : ∀ i : Nat, i < 8 → ((i : Int) < (Bs X).toInt ↔ i < d)) (he : ∀ i : Nat, i < 3 → ((i : Int) < (Es X).toInt ↔ d + 1 + i < ln)) : LenP (kyF Ba Bs Ex Es X) 0 8 (Bs X).toInt ∧ LenP (kyF Ba Bs Ex Es X) 8 3 (Es X).toInt := by
  refine len_of h1 h2 hY (fun i hi => ?_) (fun i hi => ?_)
  · unfold pkF
    rw [if_pos (by omega), if_pos (by rw [← hd]; exact (hb i (by omega)).mp hi)]
    have := capF_rng (nm i)
    omega
  · unfold pkF
    rw [if_neg (by omega), ← hd, show 8 + i - 8 = i by omega, if_pos ((he i (by omega)).mp hi)]
    have := capF_rng (nm (d + 1 + i))
    omega
theorem len_num (h1 : (gBs X).toInt = n + 3) (h2 : 0 ≤ (Es X).toInt ∧ (Es X).toInt ≤ 3) (hn : n = kpF nm ln kd) (hY : ∀ j, j < 11 → kyF b3 gBs Ex Es X j = nkF (pkF nm ln kd) n v j) (hd : d = dtF nm ln kd) (he : ∀ i : Nat, i < 3 → ((i : Int) < (Es X).toInt ↔ d + 1 + i < ln)) : LenP (kyF b3 gBs Ex Es X) 0 8 (gBs X).toInt ∧ LenP (kyF b3 gBs Ex Es X) 8 3 (Es X).toInt := by
  have hn5 := kpF_le nm ln kd
  have hnd : n ≤ dtF nm ln kd := by
    rw [hn]; unfold kpF; split <;> omega
  refine len_of (by omega) h2 hY (fun i hi => ?_) (fun i hi => ?_)
  · unfold nkF
    by_cases p0 : i = n
    · rw [if_pos p0]; omega
    · rw [if_neg p0]
      by_cases p1 : i = n + 1
      · rw [if_pos p1]; omega
      · rw [if_neg p1]
        by_cases p2 : i = n + 2
        · rw [if_pos p2]; omega
        · rw [if_neg p2]
          unfold pkF
          rw [if_pos (by omega), if_pos (by omega)]
          have := capF_rng (nm i)
          omega
  · unfold nkF
    rw [if_neg (by omega), if_neg (by omega), if_neg (by omega)]
    unfold pkF
    rw [if_neg (by omega), ← hd, show 8 + i - 8 = i by omega, if_pos ((he i (by omega)).mp hi)]
    have := capF_rng (nm (d + 1 + i))
    omega
end
theorem bs_step {f g : Nat → Int32} {nm : Nat → Int} {o c i q : Nat} {k k2 : Int} {v : Int32} (h : ∀ j : Nat, (j : Int) < k → (f (o + j)).toInt = capF (nm (c + j))) (e : g = upd f i (vp_nar .byte v)) (hi : (i : Int) = o + k) (hk : 0 ≤ k) (hv : v.toInt = capF (nm q)) (hq : (q : Int) = c + k) (hk2 : k2 = k + 1) : ∀ j : Nat, (j : Int) < k2 → (g (o + j)).toInt = capF (nm (c + j)) := by
  intro j hj
  have hr := capF_rng (nm q)
  have hb : vp_nar .byte v = v := i_bsmall (by omega)
  rw [e, hb]
  by_cases a : (j : Int) = k
  · rw [show o + j = i by omega, upd_at, show c + j = q by omega]; exact hv
  · rw [upd_off (by omega)]; exact h j (by omega)
section
variable {K0 K1 : Nat → Nat → Int} {fP : Nat → Int32} {x : Int} {X : Nat} {Z : Nat → Int}
theorem tk_in (hx : (X : Int) = x) (hq : ∃ q : Nat, 1 ≤ q ∧ (q : Int) < x ∧ fP q = fP X ∧ ∀ j, j < 11 → K1 q j = K1 X j) (hr : ∀ q, q < X → ∀ j, j < 11 → K1 q j = K0 q j) (hX : ∀ j, j < 11 → K1 X j = Z j) : Tkn K0 (fun k => (fP k).toInt) X Z := by
  obtain ⟨q, h1, h2, h3, h4⟩ := hq
  exact ⟨q, h1, by omega, by show (fP q).toInt = (fP X).toInt; rw [h3], fun j hj => by rw [← hr q (by omega) j hj, h4 j hj, hX j hj]⟩
theorem tk_no (hx : (X : Int) = x) (hq : ∀ q : Nat, 1 ≤ q → (q : Int) < x → fP q = fP X → ¬ ∀ j, j < 11 → K1 q j = K1 X j) (hr : ∀ q, q < X → ∀ j, j < 11 → K1 q j = K0 q j) (hX : ∀ j, j < 11 → K1 X j = Z j) : ¬ Tkn K0 (fun k => (fP k).toInt) X Z := by
  intro ⟨q, h1, h2, h3, h4⟩
  exact hq q h1 (by omega) (Int32.toInt_inj.mp h3) (fun j hj => by rw [hr q h2 j hj, h4 j hj, hX j hj])
end
/-- where 'next' stands: at place j of the order, or behind it -/
def PosN (fP : Nat → Int32) (d : Int) (o : Nat → Nat) (c : Nat) (r : Int) (j : Nat) : Prop := (r < 0 ∧ j = c) ∨ (0 ≤ r ∧ j < c ∧ o j = r.toNat ∧ (fP (o j)).toInt = d)
section
variable {K : Nat → Nat → Int} {nl c : Nat} {fK fP : Nat → Int32} {t d z N r : Int} {o : Nat → Nat} {S : Type} {st : S → Nat → S} {s0 : S} {par : Nat → Int}
theorem acc_first (h : OrdP K nl (fun k => t = 0 ∨ (fK k).toInt ≠ 2) o c N.toNat) (hU : UN K nl fP N) (hN : NextP K nl fK fP t d z N r) (hz : z < 0) (hp : ∀ i, i < c → par (o i) = (fP (o i)).toInt) : ∃ j, PosN fP d o c r j ∧ accF st par d o s0 j = s0 := by
  obtain ⟨j, h1, h2, h3⟩ := nx_go h hU hN (j0 := 0) (Or.inl ⟨hz, rfl⟩)
  refine ⟨j, h3, ?_⟩
  exact accF_same (a := 0) (Nat.zero_le j) (fun i _ hi => by rw [hp i (by omega)]; exact h2 i (Nat.zero_le i) hi)
theorem acc_next (h : OrdP K nl (fun k => t = 0 ∨ (fK k).toInt ≠ 2) o c N.toNat) (hU : UN K nl fP N) (hN : NextP K nl fK fP t d z N r) (hz : 0 ≤ z) {jz : Nat} (hj : PosN fP d o c z jz) (hp : ∀ i, i < c → par (o i) = (fP (o i)).toInt) : ∃ j, PosN fP d o c r j ∧ accF st par d o s0 j = accF st par d o s0 (jz + 1) := by
  rcases hj with hj | ⟨_, a, b, e⟩
  · omega
  · obtain ⟨j, h1, h2, h3⟩ := nx_go h hU hN (j0 := jz + 1) (Or.inr ⟨hz, jz, a, b, e, rfl⟩)
    refine ⟨j, h3, ?_⟩
    exact accF_same h1.1 (fun i hi hij => by rw [hp i (by omega)]; exact h2 i hi hij)
end
/-- what the reference knows of its nodes -/
def DtM (dt : Nat → Nat → Int) (N : Int) (fK fP fNS fSz fSd : Nat → Int32) : Prop := ∀ k : Nat, (k : Int) < N → (dt 0 k = (fK k).toInt ∧ dt 1 k = (fNS k).toInt ∧ dt 6 k = (fSz k).toInt ∧ dt 7 k = (fSd k).toInt) ∧ (1 ≤ k → dt 5 k = (fP k).toInt)
theorem DtM.par {dt : Nat → Nat → Int} {N t : Int} {fK fP fNS fSz fSd : Nat → Int32} {K : Nat → Nat → Int} {nl c : Nat} {o : Nat → Nat} (h : DtM dt N fK fP fNS fSz fSd) (ho : OrdP K nl (fun k => t = 0 ∨ (fK k).toInt ≠ 2) o c N.toNat) : ∀ i, i < c → dt 5 (o i) = (fP (o i)).toInt := fun i hi => by
  have q := ho.1 i hi
  exact (h (o i) (by omega)).2 q.1
/-- the table so far, at a child that 'next' gave -/
def TbQ (dt : Nat → Nat → Int) (fP : Nat → Int32) (o : Nat → Nat) (c : Nat) (d : Int) (Q : List Nat) (r : Int) (f : Nat → Int32) (off n : Nat) : Prop := ∃ j, PosN fP d o c r j ∧ QR (chD (dt 5) (dt 0) o d Q j) f off n
section
variable {dt : Nat → Nat → Int} {K : Nat → Nat → Int} {nl c off n n2 : Nat} {fK fP fNS fSz fSd f g : Nat → Int32} {t d z N r : Int} {o : Nat → Nat} {Q : List Nat} {x : Int32} {i : Nat}
theorem TbQ_first (h : OrdP K nl (fun k => t = 0 ∨ (fK k).toInt ≠ 2) o c N.toNat) (hU : UN K nl fP N) (hD : DtM dt N fK fP fNS fSz fSd) (hN : NextP K nl fK fP t d z N r) (hz : z < 0) (hq : QR Q f off n) : TbQ dt fP o c d Q r f off n := by
  obtain ⟨j, h1, h2⟩ := acc_first (S := List Nat) (st := fun Q k => if dt 0 k = 0 then Q ++ [k] else Q) (s0 := Q) h hU hN hz (hD.par h)
  refine ⟨j, h1, ?_⟩
  have e : chD (dt 5) (dt 0) o d Q j = Q := h2
  rw [e]; exact hq
theorem TbQ_skip (h : OrdP K nl (fun k => t = 0 ∨ (fK k).toInt ≠ 2) o c N.toNat) (hU : UN K nl fP N) (hD : DtM dt N fK fP fNS fSz fSd) (hN : NextP K nl fK fP t d z N r) (hz : 0 ≤ z ∧ z < N) (hq : TbQ dt fP o c d Q z f off n) (hk : (fK z.toNat).toInt ≠ 0) : TbQ dt fP o c d Q r f off n := by
  obtain ⟨jz, hj, hq⟩ := hq
  obtain ⟨j, h1, h2⟩ := acc_next (S := List Nat) (st := fun Q k => if dt 0 k = 0 then Q ++ [k] else Q) (s0 := Q) h hU hN hz.1 hj (hD.par h)
  refine ⟨j, h1, ?_⟩
  have e : chD (dt 5) (dt 0) o d Q j = chD (dt 5) (dt 0) o d Q (jz + 1) := h2
  rcases hj with hj | ⟨_, a, b, e2⟩
  · omega
  · rw [e, chD_skip (by rw [hD.par h jz a]; exact e2) (by rw [b, (hD z.toNat (by omega)).1.1]; exact hk) rfl]
    exact hq
theorem TbQ_add (h : OrdP K nl (fun k => t = 0 ∨ (fK k).toInt ≠ 2) o c N.toNat) (hU : UN K nl fP N) (hD : DtM dt N fK fP fNS fSz fSd) (hN : NextP K nl fK fP t d z N r) (hz : 0 ≤ z ∧ z < N) (hq : TbQ dt fP o c d Q z f off n) (hk : (fK z.toNat).toInt = 0) (e : g = upd f i x) (hi : i = off + n) (hx : x.toInt = z) (hn : n2 = n + 1) : TbQ dt fP o c d Q r g off n2 := by
  obtain ⟨jz, hj, hq⟩ := hq
  obtain ⟨j, h1, h2⟩ := acc_next (S := List Nat) (st := fun Q k => if dt 0 k = 0 then Q ++ [k] else Q) (s0 := Q) h hU hN hz.1 hj (hD.par h)
  refine ⟨j, h1, ?_⟩
  have e3 : chD (dt 5) (dt 0) o d Q j = chD (dt 5) (dt 0) o d Q (jz + 1) := h2
  rcases hj with hj | ⟨_, a, b, e2⟩
  · omega
  · rw [e3, chD_add (by rw [hD.par h jz a]; exact e2) (by rw [b, (hD z.toNat (by omega)).1.1]; exact hk) rfl, hn]
    exact QR_push hq e hi (by rw [b]; omega)
theorem TbQ_end {li : Nat} (h : TbQ dt fP o c d (qF (dt 5) (dt 0) o c li) r f off n) (hr : r < 0) (hl : li < (qF (dt 5) (dt 0) o c li).length) (hd : d = (((qF (dt 5) (dt 0) o c li).getD li 0 : Nat) : Int)) : QR (qF (dt 5) (dt 0) o c (li + 1)) f off n := by
  obtain ⟨j, hj, hq⟩ := h
  rcases hj with ⟨_, e⟩ | hj
  · rw [qF_go hl, ← hd]; rw [e] at hq; exact hq
  · omega
end
/-- where 'along' stands -/
def AlS (dt : Nat → Nat → Int) (t : Int) (fP : Nat → Int32) (o : Nat → Nat) (c : Nat) (ru : Int) (d : Nat) (so nk lp lr : Int) : Prop :=
  (so = 0 ∧ (lp, lr) = (0, ru)) ∨ (so = 1 ∧ (lp, lr) = stR dt t 0 (0, ru) d) ∨ (so = 2 ∧ nk < 0 ∧ (lp, lr) = hd2 dt t ru d) ∨ (so = 2 ∧ 0 ≤ nk ∧ ∃ j, PosN fP d o c nk j ∧ (lp, lr) = dirS dt t o ru d (j + 1))
section
variable {dt : Nat → Nat → Int} {K : Nat → Nat → Int} {nl c d z : Nat} {fK fP fNS fSz fSd : Nat → Int32} {t N r so so2 nk lp lr lp2 lr2 ru : Int} {o : Nat → Nat}
theorem AlS_01 (h : AlS dt t fP o c ru d so nk lp lr) (hs : so < 2) (hn : nk < 0) (h0 : so = 0 → z = d) (h1 : so = 1 → z = if d = 0 then 0 else (dt 5 d).toNat) (e1 : lp2 = fitI lp (recS dt t so z) + recS dt t so z) (e2 : lr2 = runS dt t so lr z) (hs2 : so2 = so + 1) : AlS dt t fP o c ru d so2 nk lp2 lr2 := by
  rcases h with ⟨a, b⟩ | ⟨a, b⟩ | ⟨a, _⟩ | ⟨a, _⟩
  · refine Or.inr (Or.inl ⟨by omega, ?_⟩)
    have b1 : lp = 0 := congrArg Prod.fst b
    have b2 : lr = ru := congrArg Prod.snd b
    rw [e1, e2, b1, b2, a, h0 a]
    rfl
  · refine Or.inr (Or.inr (Or.inl ⟨by omega, hn, ?_⟩))
    unfold hd2
    rw [← h1 a, ← b, e1, e2, a]
    rfl
  · omega
  · omega
theorem AlS_next (hO : OrdP K nl (fun k => t = 0 ∨ (fK k).toInt ≠ 2) o c N.toNat) (hU : UN K nl fP N) (hD : DtM dt N fK fP fNS fSz fSd) (hN : NextP K nl fK fP t d nk N r) (h : AlS dt t fP o c ru d so nk lp lr) (hs : so = 2) : ∃ j, PosN fP d o c r j ∧ (lp, lr) = dirS dt t o ru d j := by
  rcases h with ⟨a, _⟩ | ⟨a, _⟩ | ⟨_, a, b⟩ | ⟨_, a, j, hj, b⟩
  · omega
  · omega
  · obtain ⟨j, h1, h2⟩ := acc_first (S := Int × Int) (st := stR dt t 2) (s0 := hd2 dt t ru d) hO hU hN a (hD.par hO)
    exact ⟨j, h1, by rw [b]; exact h2.symm⟩
  · obtain ⟨j2, h1, h2⟩ := acc_next (S := Int × Int) (st := stR dt t 2) (s0 := hd2 dt t ru d) hO hU hN a hj (hD.par hO)
    exact ⟨j2, h1, by rw [b]; exact h2.symm⟩
theorem AlS_end (h : ∃ j, PosN fP d o c r j ∧ (lp, lr) = dirS dt t o ru d j) (hr : r < 0) : dirS dt t o ru d c = (lp, lr) := by
  obtain ⟨j, hj, e⟩ := h
  rcases hj with ⟨_, hj⟩ | ⟨hj, _⟩
  · rw [← hj]; exact e.symm
  · omega
theorem AlS_2 (hO : OrdP K nl (fun k => t = 0 ∨ (fK k).toInt ≠ 2) o c N.toNat) (hD : DtM dt N fK fP fNS fSz fSd) (h : ∃ j, PosN fP d o c r j ∧ (lp, lr) = dirS dt t o ru d j) (hr : 0 ≤ r) (hz : z = r.toNat) (e1 : lp2 = fitI lp (recS dt t 2 z) + recS dt t 2 z) (e2 : lr2 = runS dt t 2 lr z) (hs2 : so2 = 2) : AlS dt t fP o c ru d so2 r lp2 lr2 := by
  obtain ⟨j, hj, e⟩ := h
  refine Or.inr (Or.inr (Or.inr ⟨hs2, hr, j, hj, ?_⟩))
  rcases hj with ⟨hj, _⟩ | ⟨_, a, b, c1⟩
  · omega
  · rw [dirS_hit (by rw [hD.par hO j a]; exact c1) rfl, ← e, b, ← hz, e1, e2]
    rfl
end
theorem LenP_to {Y Y2 : Nat → Int} {x y : Nat} {r : Int} (h : LenP Y x y r) (e : ∀ i, i < y → Y (x + i) = Y2 (x + i)) : LenP Y2 x y r := by
  have a := h.1
  exact ⟨a, fun i hi => by rw [← e i (by omega)]; exact h.2.1 i hi, fun hr => by rw [← e r.toNat (by omega)]; exact h.2.2 hr⟩
