/-- a long name, two bytes a letter -/
def lnL (c : Nat → Int32) : Nat → List Int
  | 0 => []
  | n + 1 => lnL c n ++ hL2 (c n).toInt
theorem lnL_len (c : Nat → Int32) (n : Nat) : (lnL c n).length = 2 * n := by
  induction n with
  | zero => rfl
  | succ n ih =>
    show (lnL c n ++ hL2 (c n).toInt).length = 2 * (n + 1)
    rw [List.length_append, ih]
    show 2 * n + 2 = 2 * (n + 1)
    omega
theorem lnL_congr {c d : Nat → Int32} {n : Nat} (h : ∀ i, i < n → (c i).toInt = (d i).toInt) : lnL c n = lnL d n := by
  induction n with
  | zero => rfl
  | succ n ih => show lnL c n ++ hL2 (c n).toInt = lnL d n ++ hL2 (d n).toInt; rw [ih (fun i hi => h i (by omega)), h n (by omega)]
/-- n bytes of a row, from o on -/
def byL (c : Nat → Int32) (o n : Nat) : List Int := tbL (fun i => (c (o + i)).toInt % 256) n
theorem byL_len (c : Nat → Int32) (o n : Nat) : (byL c o n).length = n := tbL_len _ _
theorem byL_0 (c : Nat → Int32) (n : Nat) : tbL (fun i => (c i).toInt % 256) n = byL c 0 n := tbL_congr (fun i _ => by rw [Nat.zero_add])
/-- a short name -/
def shL (c : Nat → Int32) (q1 q2 so : Int) : List Int := if so = 0 then byL c 0 q1.toNat else byL c 0 q1.toNat ++ [46] ++ byL c 8 q2.toNat ++ [59] ++ [49]
theorem shL_len (c : Nat → Int32) {q1 q2 so : Int} (h1 : 0 ≤ q1) (h2 : 0 ≤ q2) : ((shL c q1 q2 so).length : Int) = if so = 0 then q1 else q1 + q2 + 3 := by
  unfold shL
  by_cases e : so = 0
  · rw [if_pos e, if_pos e, byL_len]; omega
  · rw [if_neg e, if_neg e, List.length_append, List.length_append, List.length_append, List.length_append, byL_len, byL_len, List.length_singleton, List.length_singleton, List.length_singleton]; omega
def idL (dt : Nat → Nat → Int) (nf : Nat → Nat → Nat → Int32) (t so : Int) (k : Nat) : List Int := if so < 2 then [so] else if t = 1 then lnL (nf k 1) (dt 1 k).toNat else shL (nf k 2) (dt 2 k) (dt 3 k) (dt 0 k)
theorem idL_len {dt : Nat → Nat → Int} {k : Nat} (hR : DtR dt k) (nf : Nat → Nat → Nat → Int32) (t so : Int) : ((idL dt nf t so k).length : Int) = idS dt t so k := by
  obtain ⟨r0, r1, r2, r3, r4⟩ := hR
  unfold idL idS
  by_cases a : so < 2
  · rw [if_pos a, if_pos a]; rfl
  · rw [if_neg a, if_neg a]
    by_cases b : t = 1
    · rw [if_pos b, if_pos b, lnL_len]; omega
    · rw [if_neg b, if_neg b, shL_len _ r2.1 r3.1]
/-- a component of a target -/
def coL (f : Nat → Int32) (p q : Nat) : List Int := if p < q then (if mrk f p q = 0 then [0, ((q : Int) - p) % 256] ++ byL f p (q - p) else [mrk f p q % 256, 0]) else []
theorem coL_len (f : Nat → Int32) (p q : Nat) : ((coL f p q).length : Int) = csz f p q := by
  unfold coL csz
  by_cases a : p < q
  · rw [if_pos a, if_pos a]
    by_cases b : mrk f p q = 0
    · rw [if_pos b, if_pos b, List.length_append, byL_len]
      show (((2 + (q - p) : Nat)) : Int) = _
      omega
    · rw [if_neg b, if_neg b]; rfl
  · rw [if_neg a, if_neg a]; rfl
def cpB (f : Nat → Int32) (n : Nat) : Nat → List Int
  | 0 => []
  | i + 1 => if i = n ∨ (f i).toInt = 47 then cpB f n i ++ coL f (cpF f n i) i else cpB f n i
theorem cpB_hit {f : Nat → Int32} {n i : Nat} (h : i = n ∨ (f i).toInt = 47) : cpB f n (i + 1) = cpB f n i ++ coL f (cpF f n i) i := by
  simp only [cpB]
  exact if_pos h
theorem cpB_miss {f : Nat → Int32} {n i : Nat} (h : ¬ (i = n ∨ (f i).toInt = 47)) : cpB f n (i + 1) = cpB f n i := by
  simp only [cpB]
  exact if_neg h
theorem cpB_len (f : Nat → Int32) (n i : Nat) : ((cpB f n i).length : Int) = cpT f n i := by
  induction i with
  | zero => rfl
  | succ i ih =>
    by_cases h : i = n ∨ (f i).toInt = 47
    · have c := coL_len f (cpF f n i) i
      rw [cpB_hit h, cpT_hit h, List.length_append]; omega
    · rw [cpB_miss h, cpT_miss h]; exact ih
def t0B (f : Nat → Int32) (n : Nat) : List Int := if 0 < n ∧ (f 0).toInt = 47 then [8, 0] else []
theorem t0B_len (f : Nat → Int32) (n : Nat) : ((t0B f n).length : Int) = t0F f n := by
  unfold t0B t0F
  split <;> rfl
def coB (f : Nat → Int32) (n : Nat) : List Int := t0B f n ++ cpB f n (n + 1)
theorem coB_len (f : Nat → Int32) (n : Nat) : ((coB f n).length : Int) = compS f n := by
  have a := t0B_len f n
  have b := cpB_len f n (n + 1)
  unfold coB compS
  rw [List.length_append]; omega
theorem byL_congr {f g : Nat → Int32} {o n : Nat} (e : ∀ j, o ≤ j → j < o + n → f j = g j) : byL f o n = byL g o n := tbL_congr (fun i hi => by rw [e (o + i) (by omega) (by omega)])
theorem coL_congr {f g : Nat → Int32} {n p q : Nat} (e : ∀ j, j < n → f j = g j) (h2 : q ≤ n) : coL f p q = coL g p q := by
  unfold coL
  by_cases a : p < q
  · rw [if_pos a, if_pos a, mrk_congr e a h2, byL_congr (fun j h3 h4 => e j (by omega))]
  · rw [if_neg a, if_neg a]
theorem cpB_congr {f g : Nat → Int32} {n i : Nat} (e : ∀ j, j < n → f j = g j) (h : i ≤ n + 1) : cpB f n i = cpB g n i := by
  induction i with
  | zero => rfl
  | succ i ih =>
    have hh : (i = n ∨ (f i).toInt = 47) ↔ (i = n ∨ (g i).toInt = 47) := by
      by_cases c : i = n
      · exact ⟨fun _ => Or.inl c, fun _ => Or.inl c⟩
      · rw [e i (by omega)]
    by_cases c : i = n ∨ (f i).toInt = 47
    · rw [cpB_hit c, cpB_hit (hh.mp c), ih (by omega), cpF_congr e (by omega), coL_congr e (by omega)]
    · rw [cpB_miss c, cpB_miss (fun d => c (hh.mpr d)), ih (by omega)]
theorem coB_congr {f g : Nat → Int32} {n : Nat} (e : ∀ j, j < n → f j = g j) : coB f n = coB g n := by
  unfold coB t0B
  rw [cpB_congr e (Nat.le_refl _)]
  by_cases c : 0 < n
  · rw [e 0 c]
  · rw [if_neg (fun h => c h.1), if_neg (fun h => c h.1)]
/-- the parts of a record. dx: of node k 0 target's length, 1 mode, 2 links, 3 owner, 4 group, 5 first tree's place, 6 size there, 7 second tree's place, 8 size there -/
def spL (so : Int) (k : Nat) : List Int := if so = 0 ∧ k = 0 then [83, 80, 7, 1, 190, 239, 0] else []
def pxL (a b c d : Int) : List Int := [80, 88, 36, 1] ++ bL4 a ++ bL4 b ++ bL4 c ++ bL4 d
def nmL (dt : Nat → Nat → Int) (nf : Nat → Nat → Nat → Int32) (so : Int) (k : Nat) : List Int := if so < 2 then [] else [78, 77, (5 + dt 1 k) % 256, 1, 0] ++ byL (nf k 1) 0 (dt 1 k).toNat
def slL (dt dx : Nat → Nat → Int) (nf : Nat → Nat → Nat → Int32) (so : Int) (k : Nat) : List Int := if so < 2 then [] else if dt 0 k = 2 then [83, 76, (5 + dt 4 k) % 256, 1, 0] ++ coB (nf k 3) (dx 0 k).toNat else []
def fpL (dt dx : Nat → Nat → Int) (nf : Nat → Nat → Nat → Int32) (so : Int) (k : Nat) : List Int := spL so k ++ pxL (dx 1 k) (dx 2 k) (dx 3 k) (dx 4 k) ++ nmL dt nf so k
def usL (dt dx : Nat → Nat → Int) (nf : Nat → Nat → Nat → Int32) (so : Int) (k : Nat) : List Int := fpL dt dx nf so k ++ slL dt dx nf so k
def inL (dt dx : Nat → Nat → Int) (nf : Nat → Nat → Nat → Int32) (so : Int) (k : Nat) : List Int := if outS dt so k = 0 then usL dt dx nf so k else fpL dt dx nf so k
def ouL (dt dx : Nat → Nat → Int) (nf : Nat → Nat → Nat → Int32) (so : Int) (k : Nat) : List Int := if outS dt so k = 0 then [] else slL dt dx nf so k
theorem us_split (dt dx : Nat → Nat → Int) (nf : Nat → Nat → Nat → Int32) (so : Int) (k : Nat) : usL dt dx nf so k = inL dt dx nf so k ++ ouL dt dx nf so k := by
  unfold inL ouL
  by_cases c : outS dt so k = 0
  · rw [if_pos c, if_pos c, List.append_nil]
  · rw [if_neg c, if_neg c]; rfl
theorem sp_len (so : Int) (k : Nat) : ((spL so k).length : Int) = if so = 0 ∧ k = 0 then 7 else 0 := by
  unfold spL
  split <;> rfl
theorem px_len (a b c d : Int) : (pxL a b c d).length = 36 := rfl
theorem nm_len {dt : Nat → Nat → Int} {k : Nat} (hR : DtR dt k) (nf : Nat → Nat → Nat → Int32) (so : Int) : ((nmL dt nf so k).length : Int) = if so < 2 then 0 else 5 + dt 1 k := by
  have r := hR.2.1
  unfold nmL
  by_cases c : so < 2
  · rw [if_pos c, if_pos c]; rfl
  · rw [if_neg c, if_neg c, List.length_append, byL_len]
    show (((5 + (dt 1 k).toNat : Nat)) : Int) = _
    omega
theorem sl_len {dt dx : Nat → Nat → Int} {nf : Nat → Nat → Nat → Int32} {k : Nat} (h4 : dt 0 k = 2 → dt 4 k = compS (nf k 3) (dx 0 k).toNat) (so : Int) : ((slL dt dx nf so k).length : Int) = if so < 2 then 0 else if dt 0 k = 2 then 5 + dt 4 k else 0 := by
  unfold slL
  by_cases c : so < 2
  · rw [if_pos c, if_pos c]; rfl
  · rw [if_neg c, if_neg c]
    by_cases d : dt 0 k = 2
    · have e := coB_len (nf k 3) (dx 0 k).toNat
      rw [if_pos d, if_pos d, List.length_append, h4 d]
      show (((5 + (coB (nf k 3) (dx 0 k).toNat).length : Nat)) : Int) = _
      omega
    · rw [if_neg d, if_neg d]; rfl
theorem fp_len {dt dx : Nat → Nat → Int} {nf : Nat → Nat → Nat → Int32} {k : Nat} (hR : DtR dt k) (so : Int) : ((fpL dt dx nf so k).length : Int) = (if so = 0 ∧ k = 0 then 7 else 0) + 36 + (if so < 2 then 0 else 5 + dt 1 k) := by
  have a := sp_len so k
  have b := nm_len hR nf so
  unfold fpL
  rw [List.length_append, List.length_append, px_len]
  omega
theorem us_len {dt dx : Nat → Nat → Int} {nf : Nat → Nat → Nat → Int32} {k : Nat} (hR : DtR dt k) (h4 : dt 0 k = 2 → dt 4 k = compS (nf k 3) (dx 0 k).toNat) (so : Int) : ((usL dt dx nf so k).length : Int) = alS dt so k := by
  have a := fp_len (dx := dx) (nf := nf) hR so
  have b := sl_len h4 so
  unfold usL alS
  rw [List.length_append]
  by_cases c : so < 2
  · rw [if_pos c] at a b ⊢
    by_cases d : so = 0 ∧ k = 0
    · rw [if_pos d] at a ⊢; omega
    · rw [if_neg d] at a ⊢; omega
  · rw [if_neg c] at a b ⊢
    rw [if_neg (fun h => c (by omega))] at a
    by_cases d : dt 0 k = 2
    · rw [if_pos d] at b ⊢; omega
    · rw [if_neg d] at b ⊢; omega
theorem ou_len {dt dx : Nat → Nat → Int} {nf : Nat → Nat → Nat → Int32} {k : Nat} (h4 : dt 0 k = 2 → dt 4 k = compS (nf k 3) (dx 0 k).toNat) (so : Int) : ((ouL dt dx nf so k).length : Int) = outS dt so k := by
  have b := sl_len h4 so
  unfold ouL
  by_cases c : outS dt so k = 0
  · rw [if_pos c, c]; rfl
  · rw [if_neg c, b]
    unfold outS at c ⊢
    by_cases d : so < 2
    · rw [if_pos d] at c; exact absurd rfl c
    · rw [if_neg d] at c ⊢
      rw [if_neg d]
      by_cases e : dt 0 k = 2
      · rw [if_pos e] at c ⊢
        rw [if_pos e]
        by_cases g : 46 + dt 1 k + dt 4 k ≤ 254 - hdS dt 0 so k
        · rw [if_pos g] at c; exact absurd rfl c
        · rw [if_neg g]
      · rw [if_neg e] at c; exact absurd rfl c
theorem in_len {dt dx : Nat → Nat → Int} {nf : Nat → Nat → Nat → Int32} {k : Nat} (hR : DtR dt k) (h4 : dt 0 k = 2 → dt 4 k = compS (nf k 3) (dx 0 k).toNat) (so : Int) : ((inL dt dx nf so k).length : Int) = alS dt so k - outS dt so k := by
  have a := us_len (dx := dx) hR h4 so
  have b := ou_len h4 so
  rw [us_split, List.length_append] at a
  omega
/-- the continuation's part -/
def ceL (out sec off : Int) : List Int := if out = 0 then [] else [67, 69, 28, 1] ++ bL4 sec ++ bL4 off ++ bL4 out
theorem ce_len (out sec off : Int) : ((ceL out sec off).length : Int) = if out = 0 then 0 else 28 := by
  unfold ceL
  split <;> rfl
/-- a record up to where system use begins -/
def rhL (y ext siz fl : Int) (J : List Int) : List Int := [y % 256] ++ [0] ++ bL4 ext ++ bL4 siz ++ [100, 1, 1, 0, 0, 0, 0] ++ [fl] ++ [0, 0] ++ bL2 1 ++ [(J.length : Int) % 256] ++ J
theorem rh_len (y ext siz fl : Int) (J : List Int) : (rhL y ext siz fl J).length = 33 + J.length := by
  unfold rhL
  rw [List.length_append]
  rfl
def dxE (dx : Nat → Nat → Int) (t : Int) (k : Nat) : Int := if t = 1 then dx 7 k else dx 5 k
def dxZ (dx : Nat → Nat → Int) (t : Int) (k : Nat) : Int := if t = 1 then dx 8 k else dx 6 k
def tlL (dt dx : Nat → Nat → Int) (nf : Nat → Nat → Nat → Int32) (rf t so : Int) (k : Nat) (run : Int) : List Int := if t = 1 then [] else inL dt dx nf so k ++ ceL (outS dt so k) (rf + run / 2048) (run % 2048) ++ List.replicate (useS dt so k % 2).toNat 0
def recL (dt dx : Nat → Nat → Int) (nf : Nat → Nat → Nat → Int32) (rf t so : Int) (k : Nat) (run : Int) : List Int :=
  rhL (recS dt t so k) (dxE dx t k) (dxZ dx t k) (if dt 0 k = 0 then 2 else 0) (idL dt nf t so k) ++ List.replicate (hdS dt t so k - 33 - idS dt t so k).toNat 0 ++ tlL dt dx nf rf t so k run
theorem rec_len {dt dx : Nat → Nat → Int} {nf : Nat → Nat → Nat → Int32} {k : Nat} (hR : DtR dt k) (h4 : dt 0 k = 2 → dt 4 k = compS (nf k 3) (dx 0 k).toNat) {t : Int} (rf so run : Int) (ht : t = 0 ∨ t = 1) : ((recL dt dx nf rf t so k run).length : Int) = recS dt t so k := by
  have a := idL_len hR nf t so
  have b := idS_rng hR t so
  have c := in_len (dx := dx) hR h4 so
  have d := ce_len (outS dt so k) (rf + run / 2048) (run % 2048)
  have r := al_rng hR so
  unfold recL tlL recS
  rw [List.length_append, List.length_append, rh_len, List.length_replicate]
  rcases ht with e | e <;> subst e
  · rw [if_neg (by decide), if_neg (by decide), List.length_append, List.length_append, List.length_replicate]
    unfold useS hdS
    by_cases g : outS dt so k = 0
    · rw [if_pos g] at d ⊢; omega
    · rw [if_neg g] at d ⊢; omega
  · rw [if_pos rfl, if_pos rfl]
    unfold hdS
    show (((33 + _ + _ + 0 : Nat)) : Int) = _
    omega
/-- two lists that grow in one image -/
def RW (I J : Nat → Int) (a : Int) (A : List Int) (n ha b : Int) (B : List Int) (m hb : Int) : Prop :=
  (∀ p : Nat, J p = if a ≤ (p : Int) ∧ (p : Int) < a + n then A.getD ((p : Int) - a).toNat 0 else if b ≤ (p : Int) ∧ (p : Int) < b + m then B.getD ((p : Int) - b).toNat 0 else I p) ∧
  ((A.length : Int) = n ∧ (B.length : Int) = m) ∧ (ZA J (a + n) ha ∧ ZA J (b + m) hb) ∧ (a + n ≤ ha ∧ b + m ≤ hb) ∧ (ha ≤ b ∨ hb ≤ a)
theorem RW_0 {I : Nat → Int} {a ha b hb : Int} (h1 : ZA I a ha) (h2 : ZA I b hb) (ha1 : a ≤ ha) (hb1 : b ≤ hb) (hd : ha ≤ b ∨ hb ≤ a) : RW I I a [] 0 ha b [] 0 hb :=
  ⟨fun p => by rw [if_neg (by omega), if_neg (by omega)], ⟨rfl, rfl⟩, ⟨by rw [Int.add_zero]; exact h1, by rw [Int.add_zero]; exact h2⟩, by omega, hd⟩
theorem RW.a {I J K : Nat → Int} {a n n2 ha b m hb x k : Int} {A B M : List Int} (h : RW I J a A n ha b B m hb) (h2 : BL J K x M) (hx : x = a + n) (hk : (M.length : Int) = k) (hn : n2 = n + k) (hi : a + n2 ≤ ha) : RW I K a (A ++ M) n2 ha b B m hb := by
  obtain ⟨h1, ⟨l1, l2⟩, ⟨z1, z2⟩, ⟨e1, e2⟩, d⟩ := h
  refine ⟨fun p => ?_, ⟨by rw [List.length_append]; omega, l2⟩, ⟨(z1.sub (by omega) (Int.le_refl _)).bl h2 (by omega), z2.bl h2 (by omega)⟩, by omega, d⟩
  by_cases q : x ≤ (p : Int) ∧ (p : Int) < x + M.length
  · rw [h2.ins q.1 q.2, if_pos (by omega), gD_r (by omega), show ((p : Int) - x).toNat = ((p : Int) - a).toNat - A.length by omega]
  · rw [h2.outs (by omega), h1 p]
    by_cases r : a ≤ (p : Int) ∧ (p : Int) < a + n
    · rw [if_pos r, if_pos (by omega), gD_l (by omega)]
    · rw [if_neg r, if_neg (c := a ≤ (p : Int) ∧ (p : Int) < a + n2) (by omega)]
theorem RW.b {I J K : Nat → Int} {a n ha b m m2 hb x k : Int} {A B M : List Int} (h : RW I J a A n ha b B m hb) (h2 : BL J K x M) (hx : x = b + m) (hk : (M.length : Int) = k) (hn : m2 = m + k) (hi : b + m2 ≤ hb) : RW I K a A n ha b (B ++ M) m2 hb := by
  obtain ⟨h1, ⟨l1, l2⟩, ⟨z1, z2⟩, ⟨e1, e2⟩, d⟩ := h
  refine ⟨fun p => ?_, ⟨l1, by rw [List.length_append]; omega⟩, ⟨z1.bl h2 (by omega), (z2.sub (by omega) (Int.le_refl _)).bl h2 (by omega)⟩, by omega, d⟩
  by_cases q : x ≤ (p : Int) ∧ (p : Int) < x + M.length
  · rw [h2.ins q.1 q.2, if_neg (by omega), if_pos (by omega), gD_r (by omega), show ((p : Int) - x).toNat = ((p : Int) - b).toNat - B.length by omega]
  · rw [h2.outs (by omega), h1 p]
    by_cases r : a ≤ (p : Int) ∧ (p : Int) < a + n
    · rw [if_pos r, if_pos r]
    · rw [if_neg r, if_neg r]
      by_cases s : b ≤ (p : Int) ∧ (p : Int) < b + m
      · rw [if_pos s, if_pos (by omega), gD_l (by omega)]
      · rw [if_neg s, if_neg (by omega)]
theorem RW.ah {I J : Nat → Int} {a n n2 ha b m hb : Int} {A B : List Int} (h : RW I J a A n ha b B m hb) (g : Nat) (hn : n2 = n + g) (hi : a + n2 ≤ ha) : RW I J a (A ++ List.replicate g 0) n2 ha b B m hb :=
  h.a (x := a + n) (k := g) (BL_hole (h.2.2.1.1.sub (Int.le_refl _) (by omega))) rfl (by rw [List.length_replicate]) hn hi
theorem RW.bh {I J : Nat → Int} {a n ha b m m2 hb : Int} {A B : List Int} (h : RW I J a A n ha b B m hb) (g : Nat) (hn : m2 = m + g) (hi : b + m2 ≤ hb) : RW I J a A n ha b (B ++ List.replicate g 0) m2 hb :=
  h.b (x := b + m) (k := g) (BL_hole (h.2.2.1.2.sub (Int.le_refl _) (by omega))) rfl (by rw [List.length_replicate]) hn hi
theorem RW.cast {I J : Nat → Int} {a n n2 ha b m m2 hb : Int} {A A2 B B2 : List Int} (h : RW I J a A n ha b B m hb) (e1 : A = A2) (e2 : n = n2) (e3 : B = B2) (e4 : m = m2) : RW I J a A2 n2 ha b B2 m2 hb := by
  subst e1; subst e2; subst e3; subst e4; exact h
/-- as two writings, one behind the other -/
theorem RW.two {I J : Nat → Int} {a n ha b m hb : Int} {A B : List Int} (h : RW I J a A n ha b B m hb) : ∃ M : Nat → Int, BL I M a A ∧ BL M J b B := by
  obtain ⟨h1, ⟨l1, l2⟩, _, ⟨e1, e2⟩, d⟩ := h
  refine ⟨fun p => if a ≤ (p : Int) ∧ (p : Int) < a + A.length then A.getD ((p : Int) - a).toNat 0 else I p, fun p => rfl, fun p => ?_⟩
  rw [h1 p, l1, l2]
  by_cases r : a ≤ (p : Int) ∧ (p : Int) < a + n
  · rw [if_pos r, if_neg (by omega)]
    exact (if_pos r).symm
  · rw [if_neg r]
    by_cases s : b ≤ (p : Int) ∧ (p : Int) < b + m
    · rw [if_pos s, if_pos s]
    · rw [if_neg s, if_neg s]
      exact (if_neg r).symm
/-- one record, and what it leaves to the continuation -/
def stB (dt dx : Nat → Nat → Int) (nf : Nat → Nat → Nat → Int32) (rf t so : Int) (s : List Int × List Int) (k : Nat) : List Int × List Int :=
  (s.1 ++ List.replicate (fitI s.1.length (recS dt t so k) - s.1.length).toNat 0 ++ recL dt dx nf rf t so k (fitI s.2.length (outS dt so k)),
   if t = 1 ∨ outS dt so k = 0 then s.2 else s.2 ++ List.replicate (fitI s.2.length (outS dt so k) - s.2.length).toNat 0 ++ ouL dt dx nf so k)
def hd2B (dt dx : Nat → Nat → Int) (nf : Nat → Nat → Nat → Int32) (rf t : Int) (s : List Int × List Int) (d : Nat) : List Int × List Int := stB dt dx nf rf t 1 (stB dt dx nf rf t 0 s d) (if d = 0 then 0 else (dt 5 d).toNat)
def dirB (dt dx : Nat → Nat → Int) (nf : Nat → Nat → Nat → Int32) (rf t : Int) (o : Nat → Nat) (s : List Int × List Int) (d j : Nat) : List Int × List Int := accF (stB dt dx nf rf t 2) (dt 5) d o (hd2B dt dx nf rf t s d) j
def pad2 (A : List Int) : List Int := A ++ List.replicate ((2048 - A.length % 2048) % 2048) 0
def wkB (dt dx : Nat → Nat → Int) (nf : Nat → Nat → Nat → Int32) (rf t : Int) (o : Nat → Nat) (c : Nat) (Q : List Nat) (s : List Int × List Int) : Nat → List Int × List Int
  | 0 => s
  | i + 1 => (pad2 (dirB dt dx nf rf t o (wkB dt dx nf rf t o c Q s i) (Q.getD i 0) c).1, (dirB dt dx nf rf t o (wkB dt dx nf rf t o c Q s i) (Q.getD i 0) c).2)
theorem fitI_ge {p n : Int} (h : 0 ≤ p) (hn : 0 ≤ n) : p ≤ fitI p n := by
  unfold fitI; split <;> omega
/-- positions grow -/
theorem stR_ge {dt : Nat → Nat → Int} {k : Nat} (hR : DtR dt k) {t so : Int} (ht : t = 0 ∨ t = 1) {s : Int × Int} (h0 : 0 ≤ s.1 ∧ 0 ≤ s.2) : s.1 ≤ (stR dt t so s k).1 ∧ s.2 ≤ (stR dt t so s k).2 := by
  have a := rec_rng hR so ht
  have b := al_rng hR so
  have c := fitI_ge (p := s.1) (n := recS dt t so k) h0.1 (by omega)
  have d := fitI_ge (p := s.2) (n := outS dt so k) h0.2 (by omega)
  refine ⟨?_, ?_⟩
  · show s.1 ≤ fitI s.1 (recS dt t so k) + recS dt t so k
    omega
  · show s.2 ≤ runS dt t so s.2 k
    unfold runS
    split <;> omega
theorem dirS_ge {dt : Nat → Nat → Int} {t ru : Int} {o : Nat → Nat} {d c : Nat} (ht : t = 0 ∨ t = 1) (hR : ∀ j, j < c → DtR dt (o j)) (h0 : 0 ≤ (hd2 dt t ru d).1 ∧ 0 ≤ (hd2 dt t ru d).2) {i j : Nat} (hij : i ≤ j) (hj : j ≤ c) : (0 ≤ (dirS dt t o ru d i).1 ∧ 0 ≤ (dirS dt t o ru d i).2) ∧ (dirS dt t o ru d i).1 ≤ (dirS dt t o ru d j).1 ∧ (dirS dt t o ru d i).2 ≤ (dirS dt t o ru d j).2 := by
  have base : ∀ i, i ≤ c → 0 ≤ (dirS dt t o ru d i).1 ∧ 0 ≤ (dirS dt t o ru d i).2 := by
    intro i
    induction i with
    | zero => intro _; exact h0
    | succ i ih =>
      intro hi
      have q := ih (by omega)
      by_cases e : dt 5 (o i) = d
      · have g := stR_ge (hR i (by omega)) ht (so := 2) q
        rw [dirS_hit e rfl]; omega
      · rw [dirS_miss e rfl]; exact q
  refine ⟨base i (by omega), ?_⟩
  induction j with
  | zero => rw [show i = 0 by omega]; omega
  | succ j ih =>
    by_cases e : i = j + 1
    · rw [e]; omega
    · have q := ih (by omega) (by omega)
      by_cases e : dt 5 (o j) = d
      · have g := stR_ge (hR j (by omega)) ht (so := 2) (base j (by omega))
        rw [dirS_hit e rfl]; omega
      · rw [dirS_miss e rfl]; exact q
theorem byL_at (c : Nat → Int32) (o : Nat) {n i : Nat} (h : i < n) : (byL c o n).getD i 0 = (c (o + i)).toInt % 256 := tbL_at _ h
theorem lnL_at (c : Nat → Int32) {n i : Nat} (h : i < n) : (lnL c n).getD (2 * i) 0 = (c i).toInt / 256 % 256 ∧ (lnL c n).getD (2 * i + 1) 0 = (c i).toInt % 256 := by
  induction n with
  | zero => omega
  | succ n ih =>
    have l := lnL_len c n
    show (lnL c n ++ hL2 (c n).toInt).getD (2 * i) 0 = _ ∧ (lnL c n ++ hL2 (c n).toInt).getD (2 * i + 1) 0 = _
    by_cases e : i < n
    · rw [gD_l (by omega), gD_l (by omega)]; exact ih e
    · rw [gD_r (by omega), gD_r (by omega), l, show 2 * i - 2 * n = 0 by omega, show 2 * i + 1 - 2 * n = 1 by omega, show i = n by omega]
      exact ⟨rfl, rfl⟩
theorem shL_at (c : Nat → Int32) {q1 q2 so : Int} (h1 : 0 ≤ q1) (h2 : 0 ≤ q2) (hs : so ≠ 0) : (∀ i : Nat, (i : Int) < q1 → (shL c q1 q2 so).getD i 0 = (c i).toInt % 256) ∧ (shL c q1 q2 so).getD q1.toNat 0 = 46 ∧ (∀ i : Nat, (i : Int) < q2 → (shL c q1 q2 so).getD (q1.toNat + 1 + i) 0 = (c (8 + i)).toInt % 256) ∧ (shL c q1 q2 so).getD (q1.toNat + 1 + q2.toNat) 0 = 59 ∧ (shL c q1 q2 so).getD (q1.toNat + 2 + q2.toNat) 0 = 49 := by
  have la := byL_len c 0 q1.toNat
  have lb := byL_len c 8 q2.toNat
  unfold shL
  rw [if_neg hs]
  have l1 : (byL c 0 q1.toNat ++ [46]).length = q1.toNat + 1 := by rw [List.length_append, la]; rfl
  have l2 : (byL c 0 q1.toNat ++ [46] ++ byL c 8 q2.toNat).length = q1.toNat + 1 + q2.toNat := by rw [List.length_append, l1, lb]
  have l3 : (byL c 0 q1.toNat ++ [46] ++ byL c 8 q2.toNat ++ [59]).length = q1.toNat + 1 + q2.toNat + 1 := by rw [List.length_append, l2]; rfl
  refine ⟨fun i hi => ?_, ?_, fun i hi => ?_, ?_, ?_⟩
  · rw [gD_l (by omega), gD_l (by omega), gD_l (by omega), gD_l (by omega), byL_at c 0 (by omega), Nat.zero_add]
  · rw [gD_l (by omega), gD_l (by omega), gD_l (by omega), gD_r (by omega), la, Nat.sub_self]; rfl
  · rw [gD_l (by omega), gD_l (by omega), gD_r (by omega), l1, show q1.toNat + 1 + i - (q1.toNat + 1) = i by omega, byL_at c 8 (by omega)]
  · rw [gD_l (by omega), gD_r (by omega), l2, Nat.sub_self]; rfl
  · rw [gD_r (by omega), l3, show q1.toNat + 2 + q2.toNat - (q1.toNat + 1 + q2.toNat + 1) = 0 by omega]; rfl
