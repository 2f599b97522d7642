theorem Pt_ext {I J K : Nat → Int} {lo x y : Int} {m : Nat} (h : BL I J lo (List.replicate m 0)) (h2 : Pt J K x y) (hm : m = 1) (hx : x = lo) : Pt I K x y := fun p => by
  subst hm
  rw [h2 p]
  by_cases q : (p : Int) = x
  · rw [if_pos q, if_pos q]
  · rw [if_neg q, if_neg q, h.outs (by rw [List.length_replicate]; omega)]
theorem BL.over {I J K : Nat → Int} {lo x : Int} {L M : List Int} (h : BL I J lo L) (h2 : BL J K x M) (hx : x = lo) (hl : M.length = L.length) : BL I K lo M := fun p => by
  subst hx
  by_cases q : x ≤ (p : Int) ∧ (p : Int) < x + M.length
  · rw [h2.ins q.1 q.2, if_pos q]
  · rw [h2.outs (by omega), h.outs (by omega), if_neg q]
theorem Cn_BL {f g : Nat → Int32} {lo n : Int} {L : List Int} (h : BL (imC f) (imC g) lo L) (hlo : lo = 0) (hn : (L.length : Int) = n) : Cn g n L := by
  have a := (Cn_0 (f := f) (n := 0) rfl).bl h hlo hn (show n = 0 + n by omega)
  rw [List.nil_append] at a
  exact a
/-- how a part is opened -/
def opL (a b : Int) (n : Nat) : List Int := (((List.replicate n 0).set 0 a).set 1 b).set 3 1
theorem op_of {I J0 J1 J2 J3 : Nat → Int} {lo x1 x2 x3 y1 y2 y3 a b : Int} {n : Nat} (h : BL I J0 lo (List.replicate n 0)) (h1 : Pt J0 J1 x1 y1) (h2 : Pt J1 J2 x2 y2) (h3 : Pt J2 J3 x3 y3) (e1 : x1 = lo) (e2 : x2 = lo + 1) (e3 : x3 = lo + 3) (v1 : y1 % 256 = a) (v2 : y2 % 256 = b) (v3 : y3 % 256 = 1) (hn : 4 ≤ n) : BL I J3 lo (opL a b n) := by
  have a1 := h.set (i := 0) h1 (by omega) (by rw [List.length_replicate]; omega) v1
  have a2 := a1.set (i := 1) h2 (by omega) (by rw [List.length_set, List.length_replicate]; omega) v2
  exact a2.set (i := 3) h3 (by omega) (by rw [List.length_set, List.length_set, List.length_replicate]; omega) v3
theorem op_5 (a b : Int) (n : Nat) : opL a b (5 + n) = [a, b, 0, 1, 0] ++ List.replicate n 0 := by
  rw [Nat.add_comm]; rfl
theorem sp_of {I J0 J1 J2 J3 : Nat → Int} {lo x1 x2 x3 y1 y2 y3 : Int} (h : BL I J0 lo (opL 83 80 7)) (h1 : Pt J0 J1 x1 y1) (h2 : Pt J1 J2 x2 y2) (h3 : Pt J2 J3 x3 y3) (e1 : x1 = lo + 4) (e2 : x2 = lo + 5) (e3 : x3 = lo + 2) (v1 : y1 % 256 = 190) (v2 : y2 % 256 = 239) (v3 : y3 % 256 = 7) : BL I J3 lo [83, 80, 7, 1, 190, 239, 0] := by
  have a1 := h.set (i := 4) h1 (by omega) (by decide) v1
  have a2 := a1.set (i := 5) h2 (by omega) (by decide) v2
  exact a2.set (i := 2) h3 (by omega) (by decide) v3
theorem px_of {I J0 J1 J2 J3 J4 J5 : Nat → Int} {lo x1 x2 x3 x4 x5 y a b c d : Int} (h : BL I J0 lo (opL 80 88 36)) (h1 : BL J0 J1 x1 (bL4 a)) (h2 : BL J1 J2 x2 (bL4 b)) (h3 : BL J2 J3 x3 (bL4 c)) (h4 : BL J3 J4 x4 (bL4 d)) (h5 : Pt J4 J5 x5 y) (e1 : x1 = lo + 4) (e2 : x2 = lo + 12) (e3 : x3 = lo + 20) (e4 : x4 = lo + 28) (e5 : x5 = lo + 2) (v : y % 256 = 36) : BL I J5 lo (pxL a b c d) := by
  have a1 := h.sub (A := [80, 88, 0, 1]) (B := List.replicate 8 0) (C := List.replicate 24 0) rfl h1 (by rw [e1]; rfl) rfl
  have a2 := a1.sub (A := [80, 88, 0, 1] ++ bL4 a) (B := List.replicate 8 0) (C := List.replicate 16 0) rfl h2 (by rw [e2]; rfl) rfl
  have a3 := a2.sub (A := [80, 88, 0, 1] ++ bL4 a ++ bL4 b) (B := List.replicate 8 0) (C := List.replicate 8 0) rfl h3 (by rw [e3]; rfl) rfl
  have a4 := a3.sub (A := [80, 88, 0, 1] ++ bL4 a ++ bL4 b ++ bL4 c) (B := List.replicate 8 0) (C := []) rfl h4 (by rw [e4]; rfl) rfl
  exact (a4.set (i := 2) h5 (by omega) (Nat.lt_of_lt_of_le (by decide : 2 < 36) (Nat.le_of_eq rfl)) v).cast rfl rfl
theorem nm_of {I J0 J1 J2 : Nat → Int} {lo x1 x2 y v a b : Int} {n : Nat} {M : List Int} (h : BL I J0 lo (opL a b (5 + n))) (h1 : BL J0 J1 x1 M) (h2 : Pt J1 J2 x2 y) (hM : M.length = n) (e1 : x1 = lo + 5) (e2 : x2 = lo + 2) (hv : y % 256 = v) : BL I J2 lo ([a, b, v, 1, 0] ++ M) := by
  have a1 := (h.cast rfl (op_5 a b n)).sub (A := [a, b, 0, 1, 0]) (B := List.replicate n 0) (C := []) (by rw [List.append_nil]) h1 (by rw [e1]; rfl) (by rw [hM, List.length_replicate])
  have a2 := a1.set (i := 2) h2 (by omega) (by rw [List.append_nil, List.length_append]; show 2 < 5 + M.length; omega) hv
  exact a2.cast rfl (by rw [List.append_nil]; rfl)
/-- the head of a component -/
theorem co_0 {I J0 J1 J2 : Nat → Int} {lo x1 x2 y1 y2 v w : Int} {m n k : Nat} {c : Nat → Int} (h : BL I J0 lo (List.replicate m 0)) (h1 : Pt J0 J1 x1 y1) (h2 : Pt J1 J2 x2 y2) (hm : m = n + 2) (e1 : x1 = lo) (e2 : x2 = lo + 1) (v1 : y1 % 256 = v) (v2 : y2 % 256 = w) (hk : k = 0) : BL I J2 lo ([v, w] ++ tbL c k ++ List.replicate (n - k) 0) := by
  subst hm; subst hk
  have a1 := h.set (i := 0) h1 (by omega) (by rw [List.length_replicate]; omega) v1
  have a2 := a1.set (i := 1) h2 (by omega) (by rw [List.length_set, List.length_replicate]; omega) v2
  exact a2.cast rfl rfl
theorem co_st {I J K : Nat → Int} {lo x y v w : Int} {c : Nat → Int} {k k2 n : Nat} (h : BL I J lo ([v, w] ++ tbL c k ++ List.replicate (n - k) 0)) (h2 : Pt J K x y) (hx : x = lo + 2 + k) (hk : k < n) (hv : y % 256 = c k) (e : k2 = k + 1) : BL I K lo ([v, w] ++ tbL c k2 ++ List.replicate (n - k2) 0) := by
  subst e
  have a1 := (h.cast rfl (show _ = ([v, w] ++ tbL c k) ++ [0] ++ List.replicate (n - (k + 1)) 0 by rw [show n - k = n - (k + 1) + 1 by omega, List.append_assoc, List.append_assoc, List.append_assoc]; rfl)).sub (M := [y % 256]) rfl (BL_pt h2) (by rw [hx, List.length_append, tbL_len]; show _ = lo + ((2 + k : Nat) : Int); omega) rfl
  refine a1.cast rfl ?_
  rw [hv, List.append_assoc [v, w] (tbL c k) [c k]]
  rfl
theorem sh_of {I J1 J2 J3 J4 J5 : Nat → Int} {lo x2 x3 x4 x5 y2 y4 y5 q1 q2 so : Int} {c : Nat → Int32} (h1 : BL I J1 lo (byL c 0 q1.toNat)) (h2 : Pt J1 J2 x2 y2) (h3 : BL J2 J3 x3 (byL c 8 q2.toNat)) (h4 : Pt J3 J4 x4 y4) (h5 : Pt J4 J5 x5 y5) (p1 : 0 ≤ q1) (p2 : 0 ≤ q2) (e2 : x2 = lo + q1) (e3 : x3 = lo + q1 + 1) (e4 : x4 = lo + q1 + 1 + q2) (e5 : x5 = lo + q1 + q2 + 2) (v2 : y2 % 256 = 46) (v4 : y4 % 256 = 59) (v5 : y5 % 256 = 49) (hs : so ≠ 0) : BL I J5 lo (shL c q1 q2 so) := by
  have a2 := h1.pt h2 (by rw [byL_len]; omega) v2
  have a3 := a2.app h3 (by rw [List.length_append, byL_len, List.length_singleton]; omega)
  have a4 := a3.pt h4 (by rw [List.length_append, List.length_append, byL_len, byL_len, List.length_singleton]; omega) v4
  have a5 := a4.pt h5 (by rw [List.length_append, List.length_append, List.length_append, byL_len, byL_len, List.length_singleton, List.length_singleton]; omega) v5
  unfold shL
  rw [if_neg hs]
  exact a5
theorem ln_st {I J K0 K : Nat → Int} {lo x x2 : Int} {c : Nat → Int32} {k k2 m : Nat} {v : Int} (h : BL I J lo (lnL c k)) (h1 : BL J K0 x (List.replicate m 0)) (h2 : BL K0 K x2 (hL2 v)) (hm : m = 2) (hx : x = lo + 2 * k) (hx2 : x2 = x) (hv : v = (c k).toInt) (hk : k2 = k + 1) : BL I K lo (lnL c k2) := by
  subst hm; subst hk; subst hv
  exact h.app (h1.over h2 hx2 rfl) (by rw [lnL_len]; omega)
/-- a target -/
theorem tg_end {I J K : Nat → Int} {lo x y v a b : Int} {M : List Int} (h : BL I J lo ([a, b, 0, 1, 0] ++ M)) (h2 : Pt J K x y) (e : x = lo + 2) (hv : y % 256 = v) : BL I K lo ([a, b, v, 1, 0] ++ M) :=
  (h.set (i := 2) h2 (by omega) (by rw [List.length_append]; show 2 < 5 + M.length; omega) hv).cast rfl rfl
/-- a record's head -/
theorem rh_of {I J1 J2 J3 J4 J5 J6 J7 J8 : Nat → Int} {lo hi x1 x2 x3 x4 x5 x6 x7 x8 y y1 y5 y7 ext siz fl : Int} {J D : List Int} (hz : ZA I lo hi) (h1 : Pt I J1 x1 y1) (h2 : BL J1 J2 x2 (bL4 ext)) (h3 : BL J2 J3 x3 (bL4 siz)) (h4 : BL J3 J4 x4 D) (h5 : Pt J4 J5 x5 y5) (h6 : BL J5 J6 x6 (bL2 1)) (h7 : Pt J6 J7 x7 y7) (h8 : BL J7 J8 x8 J)
    (e1 : x1 = lo) (e2 : x2 = lo + 2) (e3 : x3 = lo + 10) (e4 : x4 = lo + 18) (e5 : x5 = lo + 25) (e6 : x6 = lo + 28) (e7 : x7 = lo + 32) (e8 : x8 = lo + 33) (v1 : y1 % 256 = y % 256) (hD : D = [100, 1, 1, 0, 0, 0, 0]) (v5 : y5 % 256 = fl) (v7 : y7 = J.length) (hh : lo + 33 ≤ hi) : Rn I J8 lo (rhL y ext siz fl J) (33 + J.length) hi := by
  subst hD
  have r0 := Rn_0 (n := 0) hz rfl
  have r1 := r0.pt (n2 := 1) h1 (by omega) v1 (by omega)
  have r2 := r1.hole (n2 := 2) 1 (by omega) (by omega)
  have r3 := r2.bl (m := 8) (n2 := 10) h2 (by omega) rfl (by omega)
  have r4 := r3.bl (m := 8) (n2 := 18) h3 (by omega) rfl (by omega)
  have r5 := r4.bl (m := 7) (n2 := 25) h4 (by omega) rfl (by omega)
  have r6 := r5.pt (n2 := 26) h5 (by omega) v5 (by omega)
  have r7 := r6.hole (n2 := 28) 2 (by omega) (by omega)
  have r8 := r7.bl (m := 4) (n2 := 32) h6 (by omega) rfl (by omega)
  have r9 := r8.pt (n2 := 33) (v := (J.length : Int) % 256) h7 (by omega) (by rw [v7]) (by omega)
  have r10 := r9.bl (m := J.length) (n2 := 33 + J.length) h8 (by omega) rfl (by omega)
  exact r10.cast (by unfold rhL; rw [List.nil_append]; rfl) rfl
/-- what writeParts does -/
def WP (I K : Nat → Int) (x ru : Int) (P Q : List Int) : Prop := ∃ M : Nat → Int, BL I M x (P ++ ceL Q.length (ru / 2048) (ru % 2048)) ∧ BL M K ru Q
theorem WP_0 {I K : Nat → Int} {x ru : Int} {P Q : List Int} (h : BL I K x P) (hq : (Q.length : Int) = 0) : WP I K x ru P Q := by
  have e : Q = [] := List.length_eq_zero_iff.mp (by omega)
  subst e
  refine ⟨K, ?_, BL_nil K ru⟩
  show BL I K x (P ++ (if (0 : Int) = 0 then [] else _))
  rw [if_pos rfl, List.append_nil]
  exact h
theorem WP_1 {I J0 J1 J2 J3 J4 J5 J6 K : Nat → Int} {x ru x1 x2 x3 x4 x5 x6 x7 y2 y3 n a b o : Int} {P Q : List Int} (h : BL I J0 x P) (h1 : BL J0 J1 x1 (hL2 17221)) (h2 : Pt J1 J2 x2 y2) (h3 : Pt J2 J3 x3 y3) (h4 : BL J3 J4 x4 (bL4 a)) (h5 : BL J4 J5 x5 (bL4 b)) (h6 : BL J5 J6 x6 (bL4 o)) (h7 : BL J6 K x7 Q)
    (hn : (P.length : Int) = n) (e1 : x1 = x + n) (e2 : x2 = x + n + 2) (e3 : x3 = x + n + 3) (e4 : x4 = x + n + 4) (e5 : x5 = x + n + 12) (e6 : x6 = x + n + 20) (e7 : x7 = ru) (v2 : y2 % 256 = 28) (v3 : y3 % 256 = 1) (ha : a = ru / 2048) (hb : b = ru % 2048) (ho : o = Q.length) (hq : o ≠ 0) : WP I K x ru P Q := by
  subst ha; subst hb; subst e7; subst ho
  refine ⟨J6, ?_, h7⟩
  unfold ceL
  rw [if_neg hq]
  have b1 := h.app h1 (by omega)
  have b2 := b1.pt h2 (by rw [List.length_append]; show _ = x + ((P.length + 2 : Nat) : Int); omega) v2
  have b3 := b2.pt h3 (by rw [List.length_append, List.length_append]; show _ = x + ((P.length + 2 + 1 : Nat) : Int); omega) v3
  have b4 := b3.app h4 (by rw [List.length_append, List.length_append, List.length_append]; show _ = x + ((P.length + 2 + 1 + 1 : Nat) : Int); omega)
  have b5 := b4.app h5 (by rw [List.length_append, List.length_append, List.length_append, List.length_append]; show _ = x + ((P.length + 2 + 1 + 1 + 8 : Nat) : Int); omega)
  have b6 := b5.app h6 (by rw [List.length_append, List.length_append, List.length_append, List.length_append, List.length_append]; show _ = x + ((P.length + 2 + 1 + 1 + 8 + 8 : Nat) : Int); omega)
  refine b6.cast rfl ?_
  rw [List.append_assoc, List.append_assoc, List.append_assoc, List.append_assoc, List.append_assoc]
  rfl
def cmX (m : Int) (f : Nat → Int32) (p q : Nat) : List Int := if m = 0 then [0, ((q : Int) - p) % 256] ++ byL f p (q - p) else [m % 256, 0]
theorem cmX_len (m : Int) (f : Nat → Int32) {p q : Nat} (h : p ≤ q) : ((cmX m f p q).length : Int) = if m = 0 then 2 + ((q : Int) - p) else 2 := by
  unfold cmX
  by_cases c : m = 0
  · rw [if_pos c, if_pos c, List.length_append, byL_len]
    show (((2 + (q - p) : Nat)) : Int) = _
    omega
  · rw [if_neg c, if_neg c]; rfl
theorem cmX_co {f : Nat → Int32} {p q : Nat} {m : Int} (h : p < q) (hm : m = mrk f p q) : cmX m f p q = coL f p q := by
  subst hm
  unfold cmX coL
  rw [if_pos h]
theorem cm_end {I J : Nat → Int} {lo m v w b : Int} {f : Nat → Int32} {c : Nat → Int} {p q k n : Nat} (h : BL I J lo ([v, w] ++ tbL c k ++ List.replicate (n - k) 0)) (hk : k = n) (hb : (n : Int) = b) (hv : v = m % 256) (hw : w = b % 256) (hc : c = fun i => (f (p + i)).toInt % 256) (hpq : p ≤ q) (hmb : (m = 0 ∧ b = (q : Int) - p) ∨ (m ≠ 0 ∧ b = 0)) : BL I J lo (cmX m f p q) := by
  subst hk; subst hv; subst hw; subst hc; subst hb
  refine h.cast rfl ?_
  rw [Nat.sub_self]
  unfold cmX
  rcases hmb with ⟨a, b⟩ | ⟨a, b⟩
  · rw [if_pos a, a, b, show q - p = k by omega]
    show _ ++ [] = _
    rw [List.append_nil]
    rfl
  · rw [if_neg a, b, show k = 0 by omega]
    rfl
/-- mode, as it is written -/
def mdW (so mo : Int32) : Int32 := (if so.toInt = 0 then 16384 else if so.toInt = 1 then 32768 else 40960) + (mo - mo / 4096 * 4096)
/-- how many directories are in d -/
def dnF (par kd : Nat → Int) (d : Int) : Nat → Int
  | 0 => 0
  | k + 1 => dnF par kd d k + (if 1 ≤ k ∧ par k = d ∧ kd k = 0 then 1 else 0)
theorem dnF_hit {par kd : Nat → Int} {d : Int} {k k2 : Nat} (h : 1 ≤ k ∧ par k = d ∧ kd k = 0) (e : k2 = k + 1) : dnF par kd d k2 = dnF par kd d k + 1 := by
  subst e; simp only [dnF]; rw [if_pos h]
theorem dnF_miss {par kd : Nat → Int} {d : Int} {k k2 : Nat} (h : ¬ (1 ≤ k ∧ par k = d ∧ kd k = 0)) (e : k2 = k + 1) : dnF par kd d k2 = dnF par kd d k := by
  subst e; simp only [dnF]; rw [if_neg h]; omega
theorem dnF_congr {par kd par2 kd2 : Nat → Int} {d : Int} {n : Nat} (h : ∀ k, 1 ≤ k → k < n → par k = par2 k ∧ kd k = kd2 k) : dnF par kd d n = dnF par2 kd2 d n := by
  induction n with
  | zero => rfl
  | succ n ih =>
    simp only [dnF]
    rw [ih (fun k h1 h2 => h k h1 (by omega))]
    by_cases c : 1 ≤ n
    · rw [(h n c (by omega)).1, (h n c (by omega)).2]
    · rw [if_neg (fun q => c q.1), if_neg (fun q => c q.1)]
/-- of node k: what is written of it -/
def DxN (dt dx : Nat → Nat → Int) (cm k : Nat) (so mo ow gr : Int32) (l3 : Nat) : Prop := dx 0 k = l3 ∧ dx 1 k = (mdW so mo).toInt ∧ dx 2 k = (if so.toInt = 0 then dnF (dt 5) (dt 0) k cm + 2 else 1) ∧ dx 3 k = ow.toInt ∧ dx 4 k = gr.toInt
def rdL (gd : Nat → Int32) : Prop := tbL (fun i => (gd i).toInt % 256) 7 = [100, 1, 1, 0, 0, 0, 0]
theorem rec_hd {dt : Nat → Nat → Int} {k : Nat} (hR : DtR dt k) {t : Int} (so : Int) (ht : t = 0 ∨ t = 1) : hdS dt t so k ≤ recS dt t so k := by
  have a := al_rng hR so
  unfold recS
  rcases ht with e | e
  · subst e
    rw [if_neg (by decide)]
    unfold useS
    split <;> omega
  · subst e
    rw [if_pos rfl]
    exact Int.le_refl _
/-- a record and its parts, laid behind what is there -/
theorem rec_put {dt dx : Nat → Nat → Int} {nf : Nat → Nat → Nat → Int32} {k : Nat} (hR : DtR dt k) (h4 : dt 0 k = 2 → dt 4 k = compS (nf k 3) (dx 0 k).toNat) {t so rf : Int} (ht : t = 0 ∨ t = 1) {I J J1 K : Nat → Int} {a n ha b m hb x ru : Int} {s : List Int × List Int} {P Q : List Int}
    (h : RW I J a s.1 n ha b s.2 m hb) (hx : x = a + fitI n (recS dt t so k)) (hru : t = 0 → ru = b + fitI m (outS dt so k)) (hb0 : t = 0 → b = rf * 2048) (hm0 : 0 ≤ m) (hn0 : 0 ≤ n)
    (h1 : Rn J J1 x (rhL (recS dt t so k) (dxE dx t k) (dxZ dx t k) (if dt 0 k = 0 then 2 else 0) (idL dt nf t so k)) (33 + (idL dt nf t so k).length) ha)
    (h2 : WP J1 K (x + hdS dt t so k) ru P Q) (hP : t = 1 → P = [] ∧ Q = []) (hP0 : t = 0 → P = inL dt dx nf so k ∧ Q = ouL dt dx nf so k)
    (hfa : a + (fitI n (recS dt t so k) + recS dt t so k) ≤ ha) (hfb : b + runS dt t so m k ≤ hb) :
    RW I K a (stB dt dx nf rf t so s k).1 (fitI n (recS dt t so k) + recS dt t so k) ha b (stB dt dx nf rf t so s k).2 (runS dt t so m k) hb := by
  have hl1 : (s.1.length : Int) = n := h.2.1.1
  have hl2 : (s.2.length : Int) = m := h.2.1.2
  have il := idL_len hR nf t so
  have ir := idS_rng hR t so
  have rl := rec_len (dx := dx) hR h4 rf so (fitI m (outS dt so k)) ht
  have ar := al_rng hR so
  have rr := rec_rng hR so ht
  have fg := fitI_ge (p := n) (n := recS dt t so k) hn0 (by omega)
  have fo := fitI_ge (p := m) (n := outS dt so k) hm0 (by omega)
  have hh : hdS dt t so k = 33 + idS dt t so k + (33 + idS dt t so k) % 2 := rfl
  have hrd := rec_hd hR so ht
  obtain ⟨M, w1, w2⟩ := h2
  -- the gap
  have g1 := h.ah (fitI n (recS dt t so k) - n).toNat (n2 := fitI n (recS dt t so k)) (by omega) (by omega)
  -- the record's head
  have g2 := g1.a (n2 := fitI n (recS dt t so k) + (33 + idS dt t so k)) h1.1 (by omega) h1.2.1 (by omega) (by omega)
  have g3 := g2.ah (hdS dt t so k - 33 - idS dt t so k).toNat (n2 := fitI n (recS dt t so k) + hdS dt t so k) (by omega) (by have := rec_hd hR so ht; omega)
  rcases ht with e | e
  · subst e
    obtain ⟨p1, p2⟩ := hP0 rfl
    subst p1; subst p2
    have ol := ou_len (dx := dx) h4 so
    have nl := in_len (dx := dx) hR h4 so
    have cl := ce_len (outS dt so k) (rf + fitI m (outS dt so k) / 2048) (fitI m (outS dt so k) % 2048)
    have hru := hru rfl
    have hb0 := hb0 rfl
    have e1 : ru / 2048 = rf + fitI m (outS dt so k) / 2048 := by omega
    have e2 : ru % 2048 = fitI m (outS dt so k) % 2048 := by omega
    rw [ol, e1, e2] at w1
    have hrec : recS dt 0 so k = hdS dt 0 so k + (useS dt so k + useS dt so k % 2) := if_neg (by decide)
    have hus : useS dt so k = alS dt so k - outS dt so k + (if outS dt so k = 0 then 0 else 28) := rfl
    have g4 := g3.a (n2 := fitI n (recS dt 0 so k) + hdS dt 0 so k + useS dt so k) w1 (by omega) rfl (by rw [List.length_append]; omega) (by omega)
    have g5 := g4.ah (useS dt so k % 2).toNat (n2 := fitI n (recS dt 0 so k) + recS dt 0 so k) (by split at hus <;> omega) (by omega)
    have hA : ((((s.1 ++ List.replicate (fitI n (recS dt 0 so k) - n).toNat 0) ++ rhL (recS dt 0 so k) (dxE dx 0 k) (dxZ dx 0 k) (if dt 0 k = 0 then 2 else 0) (idL dt nf 0 so k)) ++ List.replicate (hdS dt 0 so k - 33 - idS dt 0 so k).toNat 0) ++ (inL dt dx nf so k ++ ceL (outS dt so k) (rf + fitI m (outS dt so k) / 2048) (fitI m (outS dt so k) % 2048))) ++ List.replicate (useS dt so k % 2).toNat 0 = (stB dt dx nf rf 0 so s k).1 := by
      show _ = s.1 ++ List.replicate (fitI s.1.length (recS dt 0 so k) - s.1.length).toNat 0 ++ recL dt dx nf rf 0 so k (fitI s.2.length (outS dt so k))
      rw [hl1, hl2]
      unfold recL tlL
      rw [if_neg (show ¬ (0 : Int) = 1 by decide)]
      simp only [List.append_assoc]
    by_cases c : outS dt so k = 0
    · have q0 : ouL dt dx nf so k = [] := by unfold ouL; rw [if_pos c]
      rw [q0] at w2
      have eK : K = M := funext (fun p => by rw [w2 p, if_neg (fun z => by have z2 := z.2; rw [List.length_nil] at z2; omega)])
      rw [eK]
      refine g5.cast hA rfl ?_ ?_
      · show _ = if (0 : Int) = 1 ∨ outS dt so k = 0 then s.2 else _
        rw [if_pos (Or.inr c)]
      · unfold runS; rw [if_pos (Or.inr c)]
    · have hrs : runS dt 0 so m k = fitI m (outS dt so k) + outS dt so k := by unfold runS; rw [if_neg (fun z => by rcases z with z | z; exact absurd z (by decide); exact c z)]
      have g6 := g5.bh (fitI m (outS dt so k) - m).toNat (m2 := fitI m (outS dt so k)) (by omega) (by omega)
      have g7 := g6.b (m2 := fitI m (outS dt so k) + outS dt so k) w2 (by omega) ol rfl (by omega)
      refine g7.cast hA rfl ?_ hrs.symm
      show _ = if (0 : Int) = 1 ∨ outS dt so k = 0 then s.2 else _
      rw [if_neg (fun z => by rcases z with z | z; exact absurd z (by decide); exact c z), hl2]
  · subst e
    obtain ⟨p1, p2⟩ := hP rfl
    subst p1; subst p2
    have hrec : recS dt 1 so k = hdS dt 1 so k := if_pos rfl
    have z3 : (([] ++ ceL (([] : List Int).length : Int) (ru / 2048) (ru % 2048) : List Int).length : Int) = 0 := rfl
    have eM : M = J1 := funext (fun p => by rw [w1 p, if_neg (fun z => by have z2 := z.2; omega)])
    have eK : K = M := funext (fun p => by rw [w2 p, if_neg (fun z => by have z2 := z.2; rw [List.length_nil] at z2; omega)])
    rw [eK, eM]
    refine g3.cast ?_ (by omega) ?_ ?_
    · show _ = s.1 ++ List.replicate (fitI s.1.length (recS dt 1 so k) - s.1.length).toNat 0 ++ recL dt dx nf rf 1 so k (fitI s.2.length (outS dt so k))
      rw [hl1]
      unfold recL tlL
      rw [if_pos rfl, List.append_nil]
      simp only [List.append_assoc]
    · unfold stB
      dsimp only
      rw [if_pos (Or.inl rfl)]
    · unfold runS; rw [if_pos (Or.inl rfl)]
theorem hd2_ge {dt : Nat → Nat → Int} {t ru : Int} {d : Nat} (ht : t = 0 ∨ t = 1) (h1 : DtR dt d) (h2 : DtR dt (if d = 0 then 0 else (dt 5 d).toNat)) (hr : 0 ≤ ru) : (0 ≤ (stR dt t 0 (0, ru) d).1 ∧ ru ≤ (stR dt t 0 (0, ru) d).2) ∧ (stR dt t 0 (0, ru) d).1 ≤ (hd2 dt t ru d).1 ∧ (stR dt t 0 (0, ru) d).2 ≤ (hd2 dt t ru d).2 := by
  have a := stR_ge h1 ht (so := 0) (s := (0, ru)) ⟨Int.le_refl 0, hr⟩
  have a1 : (0 : Int) ≤ (stR dt t 0 (0, ru) d).1 := a.1
  have a2 : ru ≤ (stR dt t 0 (0, ru) d).2 := a.2
  have b := stR_ge h2 ht (so := 1) (s := stR dt t 0 (0, ru) d) ⟨a1, by omega⟩
  exact ⟨⟨a1, a2⟩, b.1, b.2⟩
theorem wkS_ge {dt : Nat → Nat → Int} {t : Int} {o : Nat → Nat} {c : Nat} {Q : List Nat} {s : Int × Int} (ht : t = 0 ∨ t = 1) (hR : ∀ j, j < c → DtR dt (o j)) (hQ : ∀ i, i < Q.length → DtR dt (Q.getD i 0) ∧ DtR dt (if Q.getD i 0 = 0 then 0 else (dt 5 (Q.getD i 0)).toNat)) (h0 : 0 ≤ s.1 ∧ 0 ≤ s.2) {i j : Nat} (hij : i ≤ j) (hj : j ≤ Q.length) :
    (0 ≤ (wkS dt t o c Q s i).1 ∧ 0 ≤ (wkS dt t o c Q s i).2) ∧ (wkS dt t o c Q s i).1 ≤ (wkS dt t o c Q s j).1 ∧ (wkS dt t o c Q s i).2 ≤ (wkS dt t o c Q s j).2 := by
  have one : ∀ i, i < Q.length → 0 ≤ (wkS dt t o c Q s i).1 ∧ 0 ≤ (wkS dt t o c Q s i).2 → (wkS dt t o c Q s i).1 ≤ (wkS dt t o c Q s (i + 1)).1 ∧ (wkS dt t o c Q s i).2 ≤ (wkS dt t o c Q s (i + 1)).2 := by
    intro i hi h
    have q := hQ i hi
    have g := hd2_ge (ru := (wkS dt t o c Q s i).2) ht q.1 q.2 h.2
    have e := dirS_ge (o := o) (c := c) (ru := (wkS dt t o c Q s i).2) (d := Q.getD i 0) ht hR ⟨by omega, by omega⟩ (i := 0) (j := c) (Nat.zero_le c) (Nat.le_refl c)
    have e0 : dirS dt t o (wkS dt t o c Q s i).2 (Q.getD i 0) 0 = hd2 dt t (wkS dt t o c Q s i).2 (Q.getD i 0) := rfl
    rw [e0] at e
    rw [wkS_succ]
    refine ⟨?_, ?_⟩
    · show (wkS dt t o c Q s i).1 ≤ (wkS dt t o c Q s i).1 + ((dirS dt t o (wkS dt t o c Q s i).2 (Q.getD i 0) c).1 + 2047) / 2048
      omega
    · show (wkS dt t o c Q s i).2 ≤ (dirS dt t o (wkS dt t o c Q s i).2 (Q.getD i 0) c).2
      omega
  have base : ∀ i, i ≤ Q.length → 0 ≤ (wkS dt t o c Q s i).1 ∧ 0 ≤ (wkS dt t o c Q s i).2 := by
    intro i
    induction i with
    | zero => intro _; exact h0
    | succ i ih =>
      intro hi
      have b := ih (by omega)
      have d := one i (by omega) b
      omega
  refine ⟨base i (by omega), ?_⟩
  induction j with
  | zero => rw [show i = 0 by omega]; omega
  | succ j ih =>
    by_cases e : i = j + 1
    · rw [e]; omega
    · have q := ih (by omega) (by omega)
      have d := one j (by omega) (base j (by omega))
      omega
/-- a directory's records, one more -/
theorem dir_put {dt dx : Nat → Nat → Int} {nf : Nat → Nat → Nat → Int32} {rf t : Int} {o : Nat → Nat} {s : List Int × List Int} {d j j2 z : Nat} {I K : Nat → Int} {a ha b hb ru p n : Int} {q : Int × Int} {S : List Int × List Int}
    (hS : dirB dt dx nf rf t o s d j = S) (hq : dirS dt t o ru d j = q) (hz : o j = z) (hp : dt 5 z = d) (hn : n = p * 2048 + q.1)
    (h : RW I K a (stB dt dx nf rf t 2 S z).1 (fitI n (recS dt t 2 z) + recS dt t 2 z) ha b (stB dt dx nf rf t 2 S z).2 (runS dt t 2 q.2 z) hb) (hj : j2 = j + 1) :
    RW I K a (dirB dt dx nf rf t o s d j2).1 (p * 2048 + (dirS dt t o ru d j2).1) ha b (dirB dt dx nf rf t o s d j2).2 (dirS dt t o ru d j2).2 hb := by
  subst hj; subst hz
  have e1 : dirB dt dx nf rf t o s d (j + 1) = stB dt dx nf rf t 2 S (o j) := by
    unfold dirB at hS ⊢
    rw [accF_hit hp, hS]
  have e2 : dirS dt t o ru d (j + 1) = stR dt t 2 q (o j) := by rw [dirS_hit hp rfl, hq]
  rw [e1, e2]
  refine h.cast rfl ?_ rfl rfl
  show _ = p * 2048 + (fitI q.1 (recS dt t 2 (o j)) + recS dt t 2 (o j))
  rw [hn, fitI_add]; omega
theorem dirB_miss {dt dx : Nat → Nat → Int} {nf : Nat → Nat → Nat → Int32} {rf t : Int} {o : Nat → Nat} {s : List Int × List Int} {d j j2 : Nat} (h : ¬ dt 5 (o j) = d) (e : j2 = j + 1) : dirB dt dx nf rf t o s d j2 = dirB dt dx nf rf t o s d j := by
  subst e; unfold dirB; exact accF_miss h
/-- a directory is ended -/
theorem wk_put {dt dx : Nat → Nat → Int} {nf : Nat → Nat → Nat → Int32} {rf t : Int} {o : Nat → Nat} {c i i2 d : Nat} {Q : List Nat} {s0 : List Int × List Int} {w0 : Int × Int} {I K : Nat → Int} {x ha b hb : Int} (hd : Q.getD i 0 = d)
    (h : RW I K (x * 2048) (dirB dt dx nf rf t o (wkB dt dx nf rf t o c Q s0 i) d c).1 (((wkS dt t o c Q w0 i).1 - x) * 2048 + (dirS dt t o (wkS dt t o c Q w0 i).2 d c).1) ha b (dirB dt dx nf rf t o (wkB dt dx nf rf t o c Q s0 i) d c).2 (dirS dt t o (wkS dt t o c Q w0 i).2 d c).2 hb)
    (hp : 0 ≤ (dirS dt t o (wkS dt t o c Q w0 i).2 d c).1) (hx : x ≤ (wkS dt t o c Q w0 i).1) (hh : (wkS dt t o c Q w0 (i + 1)).1 * 2048 ≤ ha) (hi : i2 = i + 1) :
    RW I K (x * 2048) (wkB dt dx nf rf t o c Q s0 i2).1 (((wkS dt t o c Q w0 i2).1 - x) * 2048) ha b (wkB dt dx nf rf t o c Q s0 i2).2 (wkS dt t o c Q w0 i2).2 hb := by
  subst hi; subst hd
  have hl : ((dirB dt dx nf rf t o (wkB dt dx nf rf t o c Q s0 i) (Q.getD i 0) c).1.length : Int) = ((wkS dt t o c Q w0 i).1 - x) * 2048 + (dirS dt t o (wkS dt t o c Q w0 i).2 (Q.getD i 0) c).1 := h.2.1.1
  have e1 : (wkS dt t o c Q w0 (i + 1)).1 = (wkS dt t o c Q w0 i).1 + ((dirS dt t o (wkS dt t o c Q w0 i).2 (Q.getD i 0) c).1 + 2047) / 2048 := by rw [wkS_succ]
  have e2 : (wkS dt t o c Q w0 (i + 1)).2 = (dirS dt t o (wkS dt t o c Q w0 i).2 (Q.getD i 0) c).2 := by rw [wkS_succ]
  have g := h.ah ((2048 - (dirB dt dx nf rf t o (wkB dt dx nf rf t o c Q s0 i) (Q.getD i 0) c).1.length % 2048) % 2048) (n2 := ((wkS dt t o c Q w0 (i + 1)).1 - x) * 2048) (by omega) (by omega)
  rw [e2]
  exact g
theorem upd_same {f : Nat → Int32} {i : Nat} {x : Int32} (h : x = f i) : upd f i x = f := funext (fun j => by
  by_cases e : j = i
  · subst e; rw [upd_at]; exact h
  · rw [upd_off e])
/-- what stands in the layout's rows -/
def BgL (dt : Nat → Nat → Int) (t : Int) (o : Nat → Nat) (c : Nat) (Q : List Nat) (s : Int × Int) (fb fe : Nat → Int32) (n : Nat) : Prop := ∀ i, i < n → (fb (Q.getD i 0)).toInt = (wkS dt t o c Q s i).1 ∧ (fe (Q.getD i 0)).toInt = (wkS dt t o c Q s (i + 1)).1 - (wkS dt t o c Q s i).1
theorem BgL_0 {dt : Nat → Nat → Int} {t : Int} {o : Nat → Nat} {c n : Nat} {Q : List Nat} {s : Int × Int} {fb fe : Nat → Int32} (h : n = 0) : BgL dt t o c Q s fb fe n := fun i hi => absurd hi (by omega)
theorem BgL_push {dt : Nat → Nat → Int} {t : Int} {o : Nat → Nat} {c n n2 d : Nat} {Q : List Nat} {s : Int × Int} {fb fe gb ge : Nat → Int32} {x y : Int32} (h : BgL dt t o c Q s fb fe n) (hd : Q.getD n 0 = d) (hn : n < Q.length) (hQ : ∀ a b, a < b → b < Q.length → Q.getD a 0 ≠ Q.getD b 0) (e1 : gb = upd fb d x) (e2 : ge = upd fe d y) (hx : x.toInt = (wkS dt t o c Q s n).1) (hy : y.toInt = (wkS dt t o c Q s (n + 1)).1 - (wkS dt t o c Q s n).1) (h2 : n2 = n + 1) : BgL dt t o c Q s gb ge n2 := fun i hi => by
  by_cases e : i = n
  · subst e
    rw [e1, e2, hd, upd_at, upd_at]; exact ⟨hx, hy⟩
  · have q := hQ i n (by omega) hn
    rw [hd] at q
    rw [e1, e2, upd_off q, upd_off q]; exact h i (by omega)
/-- layout's rows and contents, as they are written -/
def DxL (dt dx : Nat → Nat → Int) (t : Int) (cm : Nat) (fb fe cc : Nat → Int32) : Prop := ∀ k, k < cm → (if dt 0 k = 0 then (fb k).toInt = dxE dx t k else (cc k).toInt = dxE dx t k) ∧ (if dt 0 k = 0 then ((fe k).toInt * 2048 = dxZ dx t k ∧ 0 ≤ (fe k).toInt ∧ (fe k).toInt ≤ 2000) else dt 6 k = dxZ dx t k)
def DxC (dt dx : Nat → Nat → Int) (cm : Nat) (ng : Nat → Nat → Int32) (nn : Nat → Nat → Nat) : Prop := ∀ k, k < cm → DxN dt dx cm k (ng k 0) (ng k 4) (ng k 5) (ng k 6) (nn k 3)
