theorem chD_pre {par kd : Nat → Int} {o : Nat → Nat} {d : Int} {Q : List Nat} (j : Nat) : Q.length ≤ (chD par kd o d Q j).length ∧ ∀ a, a < Q.length → (chD par kd o d Q j).getD a 0 = Q.getD a 0 := by
  induction j with
  | zero => exact ⟨Nat.le_refl _, fun _ _ => rfl⟩
  | succ j ih =>
    by_cases h : par (o j) = d
    · by_cases k : kd (o j) = 0
      · rw [chD_add h k rfl, List.length_append]
        exact ⟨by omega, fun a ha => by rw [getD_app (by omega)]; exact ih.2 a ha⟩
      · rw [chD_skip h k rfl]; exact ih
    · rw [chD_miss h rfl]; exact ih
theorem chD_mem {par kd : Nat → Int} {o : Nat → Nat} {d : Int} {Q : List Nat} (j i : Nat) (hi : i < j) (hp : par (o i) = d) (hk : kd (o i) = 0) : ∃ a, a < (chD par kd o d Q j).length ∧ (chD par kd o d Q j).getD a 0 = o i := by
  induction j with
  | zero => omega
  | succ j ih =>
    by_cases e : i = j
    · subst e
      refine ⟨(chD par kd o d Q i).length, ?_, ?_⟩
      · rw [chD_add hp hk rfl, List.length_append]
        show _ < _ + 1
        omega
      · rw [chD_add hp hk rfl, getD_new rfl]
    · obtain ⟨a, h1, h2⟩ := ih (by omega)
      by_cases h : par (o j) = d
      · by_cases k : kd (o j) = 0
        · rw [chD_add h k rfl, List.length_append]
          exact ⟨a, by omega, by rw [getD_app h1]; exact h2⟩
        · rw [chD_skip h k rfl]; exact ⟨a, h1, h2⟩
      · rw [chD_miss h rfl]; exact ⟨a, h1, h2⟩
theorem qF_pre {par kd : Nat → Int} {o : Nat → Nat} {c i : Nat} (m : Nat) : (qF par kd o c i).length ≤ (qF par kd o c (i + m)).length ∧ ∀ a, a < (qF par kd o c i).length → (qF par kd o c (i + m)).getD a 0 = (qF par kd o c i).getD a 0 := by
  induction m with
  | zero => exact ⟨Nat.le_refl _, fun _ _ => rfl⟩
  | succ m ih =>
    by_cases h : i + m < (qF par kd o c (i + m)).length
    · have e : qF par kd o c (i + (m + 1)) = chD par kd o (((qF par kd o c (i + m)).getD (i + m) 0 : Nat) : Int) (qF par kd o c (i + m)) c := qF_go h
      have p := chD_pre (par := par) (kd := kd) (o := o) (d := (((qF par kd o c (i + m)).getD (i + m) 0 : Nat) : Int)) (Q := qF par kd o c (i + m)) c
      rw [e]
      exact ⟨by omega, fun a ha => by rw [p.2 a (by omega)]; exact ih.2 a ha⟩
    · have e : qF par kd o c (i + (m + 1)) = qF par kd o c (i + m) := qF_end h 1
      rw [e]; exact ih
/-- what lies in a directory of the list is in the list -/
theorem qF_in {par kd : Nat → Int} {o : Nat → Nat} {c i j : Nat} (hi : i < (qF par kd o c 40).length) (h40 : (qF par kd o c 40).length ≤ 40) (hj : j < c) (hp : par (o j) = (((qF par kd o c 40).getD i 0 : Nat) : Int)) (hk : kd (o j) = 0) : ∃ a, a < (qF par kd o c 40).length ∧ (qF par kd o c 40).getD a 0 = o j := by
  have h1 : i < (qF par kd o c i).length := by
    by_cases h : i < (qF par kd o c i).length
    · exact h
    · have e := qF_end h (40 - i)
      rw [show i + (40 - i) = 40 by omega] at e
      rw [e] at hi
      exact absurd hi h
  have p := qF_pre (par := par) (kd := kd) (o := o) (c := c) (i := i) (40 - i)
  rw [show i + (40 - i) = 40 by omega] at p
  have q := qF_pre (par := par) (kd := kd) (o := o) (c := c) (i := i + 1) (40 - (i + 1))
  rw [show i + 1 + (40 - (i + 1)) = 40 by omega] at q
  rw [p.2 i h1] at hp
  obtain ⟨a, h2, h3⟩ := chD_mem (par := par) (kd := kd) (o := o) (d := (((qF par kd o c i).getD i 0 : Nat) : Int)) (Q := qF par kd o c i) c j hj hp hk
  rw [← qF_go h1] at h2 h3
  exact ⟨a, by omega, by rw [q.2 a h2]; exact h3⟩
/-- every directory is in the list -/
theorem q_all {K : Nat → Nat → Int} {nl N c : Nat} {cand : Nat → Prop} {par kd : Nat → Int} {o : Nat → Nat} (h : OrdP K nl cand o c N) (hc : ∀ k, k < N → kd k = 0 → cand k) (h0 : 1 ≤ N ∧ kd 0 = 0) (hp : ∀ k, 1 ≤ k → k < N → ∃ p : Nat, p < k ∧ par k = (p : Int) ∧ kd p = 0) (h40 : (qF par kd o c 40).length ≤ 40) (k : Nat) (hk : k < N) (hd : kd k = 0) : ∃ a, a < (qF par kd o c 40).length ∧ (qF par kd o c 40).getD a 0 = k := by
  induction k using Nat.strongRecOn with
  | _ k ih =>
    by_cases e : k = 0
    · subst e
      have q := qF_QI (par := par) (kd := kd) (fun j hj => ⟨(h.1 j hj).1, (h.1 j hj).2.1⟩) h.2.2.2 h0.1 h0.2 40
      exact ⟨0, by have := q.1.1; omega, q.1.2⟩
    · obtain ⟨p, h1, h2, h3⟩ := hp k (by omega) hk
      obtain ⟨i, h4, h5⟩ := ih p h1 (by omega) h3
      obtain ⟨j, h6, h7⟩ := h.2.2.1 k (by omega) hk (hc k hk hd)
      subst h7
      exact qF_in h4 h40 h6 (by rw [h5]; exact h2) hd
/-- the second tree's places don't hang on the runs -/
theorem dirS_r1 {dt : Nat → Nat → Int} {o : Nat → Nat} {r r2 : Int} {d : Nat} (j : Nat) : (dirS dt 1 o r d j).1 = (dirS dt 1 o r2 d j).1 := by
  induction j with
  | zero => rfl
  | succ j ih =>
    by_cases e : dt 5 (o j) = d
    · rw [dirS_hit e rfl, dirS_hit e rfl]
      show fitI (dirS dt 1 o r d j).1 _ + _ = fitI (dirS dt 1 o r2 d j).1 _ + _
      rw [ih]
    · rw [dirS_miss e rfl, dirS_miss e rfl]; exact ih
theorem wkS_r1 {dt : Nat → Nat → Int} {o : Nat → Nat} {c : Nat} {Q : List Nat} {x r r2 : Int} (i : Nat) : (wkS dt 1 o c Q (x, r) i).1 = (wkS dt 1 o c Q (x, r2) i).1 := by
  induction i with
  | zero => rfl
  | succ i ih =>
    rw [wkS_succ, wkS_succ]
    show (wkS dt 1 o c Q (x, r) i).1 + _ = (wkS dt 1 o c Q (x, r2) i).1 + _
    rw [ih, dirS_r1 (r := (wkS dt 1 o c Q (x, r) i).2) (r2 := (wkS dt 1 o c Q (x, r2) i).2)]
/-- the numbers of the path table -/
def TnL (Q : List Nat) (f : Nat → Int32) : Prop := ∀ i, i < Q.length → (f (Q.getD i 0)).toInt = (i : Int) + 1
def NdL (Q : List Nat) : Prop := ∀ a b, a < b → b < Q.length → Q.getD a 0 ≠ Q.getD b 0
theorem TnL_push {Q : List Nat} {f g : Nat → Int32} {i k : Nat} {x : Int32} (h : TnL Q f) (e : g = upd f i x) (hi : i = k) (hx : x.toInt = (Q.length : Int) + 1) (hn : NdL (Q ++ [k])) : TnL (Q ++ [k]) g := fun a ha => by
  subst hi
  rw [List.length_append] at ha
  have hl : ([i] : List Nat).length = 1 := rfl
  by_cases c : a = Q.length
  · rw [getD_new c, e, upd_at, hx, c]
  · have q := hn a Q.length (by omega) (by rw [List.length_append]; omega)
    rw [getD_app (by omega), getD_new rfl] at q
    rw [getD_app (by omega), e, upd_off q]
    exact h a (by omega)
theorem TnL_1 {f : Nat → Int32} (h : (f 0).toInt = 1) : TnL [0] f := fun i hi => by
  have e : i = 0 := by simp only [List.length_cons, List.length_nil] at hi; omega
  subst e; exact h
theorem NdL_ch {par kd : Nat → Int} {o : Nat → Nat} {N c i : Nat} (ho : ∀ j, j < c → 1 ≤ o j ∧ o j < N) (hinj : ∀ a b, a < b → b < c → o a ≠ o b) (hN : 1 ≤ N) (h0 : kd 0 = 0) (hi : i < (qF par kd o c i).length) {j : Nat} (hj : j ≤ c) : NdL (chD par kd o (((qF par kd o c i).getD i 0 : Nat) : Int) (qF par kd o c i) j) :=
  (chD_QI ho hinj (qF_QI ho hinj hN h0 i) hi j hj).1.2.2.1
/-- in another order -/
theorem BL.comm {I J K : Nat → Int} {a b : Int} {A B : List Int} (h1 : BL I J b B) (h2 : BL J K a A) (hd : a + A.length ≤ b ∨ b + B.length ≤ a) : ∃ M : Nat → Int, BL I M a A ∧ BL M K b B := by
  refine ⟨fun p => if a ≤ (p : Int) ∧ (p : Int) < a + A.length then A.getD ((p : Int) - a).toNat 0 else I p, fun p => rfl, fun p => ?_⟩
  by_cases r : a ≤ (p : Int) ∧ (p : Int) < a + A.length
  · rw [h2.ins r.1 r.2, if_neg (by omega)]
    exact (if_pos r).symm
  · rw [h2.outs (by omega), h1 p]
    by_cases q : b ≤ (p : Int) ∧ (p : Int) < b + B.length
    · rw [if_pos q, if_pos q]
    · rw [if_neg q, if_neg q]
      exact (if_neg r).symm
/-- an entry of a path table -/
def peL (lw : Bool) (J : List Int) (bg up : Int) : List Int := [(J.length : Int) % 256] ++ [0] ++ (if lw then lL4 bg else hL4 bg) ++ (if lw then lL2 up else hL2 up) ++ J ++ List.replicate (J.length % 2) 0
theorem pe_len (lw : Bool) (J : List Int) (bg up : Int) : (peL lw J bg up).length = 8 + J.length + J.length % 2 := by
  unfold peL
  rw [List.length_append, List.length_append, List.length_replicate]
  cases lw <;> rfl
/-- written in order, over nothing -/
theorem pe_of {I J1 J2 J3 K : Nat → Int} {lo hi x1 x2 x3 x4 y bg up : Int} {lw : Bool} {J : List Int} (hz : ZA I lo hi) (h1 : Pt I J1 x1 y) (h2 : BL J1 J2 x2 (if lw then lL4 bg else hL4 bg)) (h3 : BL J2 J3 x3 (if lw then lL2 up else hL2 up)) (h4 : BL J3 K x4 J) (e1 : x1 = lo) (e2 : x2 = lo + 2) (e3 : x3 = lo + 6) (e4 : x4 = lo + 8) (v : y = J.length) (hh : lo + 8 + J.length + J.length % 2 ≤ hi) : Rn I K lo (peL lw J bg up) (8 + J.length + J.length % 2) hi := by
  have r0 := Rn_0 (n := 0) hz rfl
  have r1 := r0.pt (n2 := 1) (v := (J.length : Int) % 256) h1 (by omega) (by rw [v]) (by omega)
  have r2 := r1.hole (n2 := 2) 1 (by omega) (by omega)
  have r3 := r2.bl (m := 4) (n2 := 6) h2 (by omega) (by cases lw <;> rfl) (by omega)
  have r4 := r3.bl (m := 2) (n2 := 8) h3 (by omega) (by cases lw <;> rfl) (by omega)
  have r5 := r4.bl (m := J.length) (n2 := 8 + J.length) h4 (by omega) rfl (by omega)
  have r6 := r5.hole (n2 := 8 + J.length + J.length % 2) (J.length % 2) (by omega) (by omega)
  exact r6.cast (by unfold peL; rw [List.nil_append]; rfl) rfl
def dxU (dx : Nat → Nat → Int) (t : Int) (k : Nat) : Int := if t = 1 then dx 10 k else dx 9 k
/-- a path table up to its entry i -/
def ptB (dt dx : Nat → Nat → Int) (nf : Nat → Nat → Nat → Int32) (t : Int) (lw : Bool) (Q : List Nat) : Nat → List Int
  | 0 => []
  | i + 1 => ptB dt dx nf t lw Q i ++ peL lw (idL dt nf t (if Q.getD i 0 = 0 then 0 else 2) (Q.getD i 0)) (dxE dx t (Q.getD i 0)) (dxU dx t (Q.getD i 0))
def ptS (dt : Nat → Nat → Int) (t : Int) (Q : List Nat) : Nat → Int
  | 0 => 0
  | i + 1 => ptS dt t Q i + (8 + idS dt t (if Q.getD i 0 = 0 then 0 else 2) (Q.getD i 0) + idS dt t (if Q.getD i 0 = 0 then 0 else 2) (Q.getD i 0) % 2)
/-- the two tables of an entry, as the class writes them -/
theorem pe_two {I J1 J2 J3 J4 J5 J6 J7 K : Nat → Int} {a b ha hb x1 x2 x3 x4 x5 x6 x7 x8 y1 y3 bg up n m n2 : Int} {J A B : List Int} {I0 : Nat → Int} (h : RW I0 I a A n ha b B m hb) (h1 : Pt I J1 x1 y1) (h2 : BL J1 J2 x2 J) (h3 : Pt J2 J3 x3 y3) (h4 : BL J3 J4 x4 J) (h5 : BL J4 J5 x5 (lL4 bg)) (h6 : BL J5 J6 x6 (hL4 bg)) (h7 : BL J6 J7 x7 (lL2 up)) (h8 : BL J7 K x8 (hL2 up))
    (e1 : x1 = a + n) (e2 : x2 = a + n + 8) (e3 : x3 = b + m) (e4 : x4 = b + m + 8) (e5 : x5 = a + n + 2) (e6 : x6 = b + m + 2) (e7 : x7 = a + n + 6) (e8 : x8 = b + m + 6) (v1 : y1 = J.length) (v3 : y3 = J.length) (hnm : m = n) (hn : n2 = n + (8 + J.length + J.length % 2)) (hha : a + n2 ≤ ha) (hhb : b + n2 ≤ hb) : RW I0 K a (A ++ peL true J bg up) n2 ha b (B ++ peL false J bg up) n2 hb := by
  have hd := h.2.2.2.2
  have hl := h.2.1
  have l4 : ((lL4 bg).length : Int) = 4 := rfl
  have k4 : ((hL4 bg).length : Int) = 4 := rfl
  have l2 : ((lL2 up).length : Int) = 2 := rfl
  have k2 : ((hL2 up).length : Int) = 2 := rfl
  have s1 : (([y3 % 256] : List Int).length : Int) = 1 := rfl
  -- the fifth ahead of the fourth, the third, the second
  obtain ⟨M1, a1, a2⟩ := h4.comm h5 (by omega)
  obtain ⟨M2, b1, b2⟩ := (BL_pt h3).comm a1 (by omega)
  obtain ⟨M3, c1, c2⟩ := h2.comm b1 (by omega)
  -- now: 1, 5, 2, 3, 4, 6, 7, 8; the seventh ahead
  obtain ⟨M4, d1, d2⟩ := h6.comm h7 (by omega)
  obtain ⟨M5, f1, f2⟩ := a2.comm d1 (by omega)
  obtain ⟨M6, g1, g2⟩ := b2.comm f1 (by omega)
  obtain ⟨M7, i1, i2⟩ := c2.comm g1 (by omega)
  -- 1, 5, 7, 2, 3, 4, 6, 8; the fourth behind 6 and 8
  obtain ⟨M8, j1, j2⟩ := f2.comm d2 (by omega)
  obtain ⟨M9, k1, k3⟩ := j2.comm h8 (by omega)
  have q1 := pe_of (lw := true) (I := I) (lo := a + n) (hi := ha) (x1 := x1) (y := y1) (bg := bg) (up := up) h.2.2.1.1 h1 c1 i1 i2 e1 (by omega) (by omega) (by omega) v1 (by omega)
  have w1 := h.a (n2 := n2) q1.1 rfl q1.2.1 (by omega) hha
  have p3 : Pt M6 M5 x3 y3 := fun p => by
    rw [g2 p]
    by_cases c : (p : Int) = x3
    · rw [if_pos c, if_pos (by omega), show ((p : Int) - x3).toNat = 0 by omega]; rfl
    · rw [if_neg c, if_neg (by omega)]
  have q2 := pe_of (lw := false) (I := M6) (lo := b + m) (hi := hb) (x1 := x3) (y := y3) (bg := bg) (up := up) w1.2.2.1.2 p3 j1 k1 k3 e3 (by omega) (by omega) (by omega) v3 (by omega)
  exact w1.b (m2 := n2) q2.1 rfl q2.2.1 (by omega) hhb
/-- a descriptor's first bytes -/
def dhL (so : Int) : List Int := [so % 256] ++ [67, 68, 48, 48, 49, 1]
def z68 : List Int := List.replicate 16 48 ++ [0] ++ List.replicate 16 48 ++ [0] ++ List.replicate 16 48 ++ [0] ++ List.replicate 16 48 ++ [0]
/-- a descriptor: tree, sectors, bytes of a table, root's place and size -/
def dsP (t many tab ext siz : Int) : List Int :=
  dhL (t + 1) ++ List.replicate 1 0 ++ List.replicate 64 32 ++ List.replicate 8 0 ++ bL4 many ++ (if t = 1 then [37, 47, 69] ++ List.replicate 29 0 else List.replicate 32 0) ++ bL2 1 ++ bL2 1 ++ bL2 2048 ++ bL4 tab ++ lL4 (19 + 2 * t) ++ List.replicate 4 0 ++ hL4 (20 + 2 * t) ++ List.replicate 4 0 ++ rhL 34 ext siz 2 [0] ++ List.replicate 623 32
def dsL (t many tab ext siz : Int) : List Int := dsP t many tab ext siz ++ z68 ++ [1]
theorem ds_10 {I J1 J2 J3 J4 J5 J6 J7 J8 J9 J10 : Nat → Int} {lo hi x1 x2 x3 x4 x5 x6 x7 x8 x9 x10 t many tab : Int} {E : List Int} (hz : ZA I lo hi) (h1 : BL I J1 x1 (dhL (t + 1))) (h2 : BL J1 J2 x2 (List.replicate 64 32)) (h3 : BL J2 J3 x3 (bL4 many)) (h4 : BL J3 J4 x4 E) (h5 : BL J4 J5 x5 (bL2 1)) (h6 : BL J5 J6 x6 (bL2 1)) (h7 : BL J6 J7 x7 (bL2 2048)) (h8 : BL J7 J8 x8 (bL4 tab)) (h9 : BL J8 J9 x9 (lL4 (19 + 2 * t))) (h10 : BL J9 J10 x10 (hL4 (20 + 2 * t)))
    (hE : (t = 1 ∧ E = [37, 47, 69]) ∨ (t = 0 ∧ E = [])) (e1 : x1 = lo) (e2 : x2 = lo + 8) (e3 : x3 = lo + 80) (e4 : x4 = lo + 88) (e5 : x5 = lo + 120) (e6 : x6 = lo + 124) (e7 : x7 = lo + 128) (e8 : x8 = lo + 132) (e9 : x9 = lo + 140) (e10 : x10 = lo + 148) (hh : lo + 882 ≤ hi) : Rn I J10 lo (dhL (t + 1) ++ List.replicate 1 0 ++ List.replicate 64 32 ++ List.replicate 8 0 ++ bL4 many ++ (if t = 1 then [37, 47, 69] ++ List.replicate 29 0 else List.replicate 32 0) ++ bL2 1 ++ bL2 1 ++ bL2 2048 ++ bL4 tab ++ lL4 (19 + 2 * t) ++ List.replicate 4 0 ++ hL4 (20 + 2 * t) ++ List.replicate 4 0) 156 hi := by
  have r0 := Rn_0 (n := 0) hz rfl
  have r1 := r0.bl (m := 7) (n2 := 7) h1 (by omega) rfl (by omega)
  have r2 := r1.hole (n2 := 8) 1 (by omega) (by omega)
  have r3 := r2.bl (m := 64) (n2 := 72) h2 (by omega) (by rw [List.length_replicate]; rfl) (by omega)
  have r4 := r3.hole (n2 := 80) 8 (by omega) (by omega)
  have r5 := r4.bl (m := 8) (n2 := 88) h3 (by omega) rfl (by omega)
  have r6 : Rn I J4 lo (((((([] ++ dhL (t + 1)) ++ List.replicate 1 0) ++ List.replicate 64 32) ++ List.replicate 8 0) ++ bL4 many) ++ (if t = 1 then [37, 47, 69] ++ List.replicate 29 0 else List.replicate 32 0)) 120 hi := by
    rcases hE with ⟨a, b⟩ | ⟨a, b⟩
    · subst b
      have q := r5.bl (m := 3) (n2 := 91) h4 (by omega) rfl (by omega)
      have q2 := q.hole (n2 := 120) 29 (by omega) (by omega)
      rw [if_pos a]
      exact q2.cast (by rw [List.append_assoc _ [37, 47, 69]]) rfl
    · subst b
      have q := r5.bl (m := 0) (n2 := 88) h4 (by omega) rfl (by omega)
      have q2 := q.hole (n2 := 120) 32 (by omega) (by omega)
      rw [if_neg (by omega)]
      exact q2.cast (by rw [List.append_nil]) rfl
  have r7 := r6.bl (m := 4) (n2 := 124) h5 (by omega) rfl (by omega)
  have r8 := r7.bl (m := 4) (n2 := 128) h6 (by omega) rfl (by omega)
  have r9 := r8.bl (m := 4) (n2 := 132) h7 (by omega) rfl (by omega)
  have r10 := r9.bl (m := 8) (n2 := 140) h8 (by omega) rfl (by omega)
  have r11 := r10.bl (m := 4) (n2 := 144) h9 (by omega) rfl (by omega)
  have r12 := r11.hole (n2 := 148) 4 (by omega) (by omega)
  have r13 := r12.bl (m := 4) (n2 := 152) h10 (by omega) rfl (by omega)
  have r14 := r13.hole (n2 := 156) 4 (by omega) (by omega)
  exact r14.cast (by rw [List.nil_append]) rfl
theorem ds_12 {I J10 J11 J12 : Nat → Int} {lo hi x11 x12 t many tab ext siz : Int} (r : Rn I J10 lo (dhL (t + 1) ++ List.replicate 1 0 ++ List.replicate 64 32 ++ List.replicate 8 0 ++ bL4 many ++ (if t = 1 then [37, 47, 69] ++ List.replicate 29 0 else List.replicate 32 0) ++ bL2 1 ++ bL2 1 ++ bL2 2048 ++ bL4 tab ++ lL4 (19 + 2 * t) ++ List.replicate 4 0 ++ hL4 (20 + 2 * t) ++ List.replicate 4 0) 156 hi) (h11 : BL J10 J11 x11 (rhL 34 ext siz 2 [0])) (h12 : BL J11 J12 x12 (List.replicate 623 32)) (e11 : x11 = lo + 156) (e12 : x12 = lo + 190) : Rn I J12 lo (dsP t many tab ext siz) 813 hi := by
  have r15 := r.bl (m := 34) (n2 := 190) h11 (by omega) (by rw [rh_len]; rfl) (by omega)
  have r16 := r15.bl (m := 623) (n2 := 813) h12 (by omega) (by rw [List.length_replicate]; rfl) (by omega)
  exact r16
theorem ds_C {I J0 J1 J2 J3 J4 K : Nat → Int} {lo hi x1 x2 x3 x4 x5 t many tab ext siz : Int} (r : Rn I J0 lo (dsP t many tab ext siz) 813 hi) (h1 : BL J0 J1 x1 (List.replicate 16 48)) (h2 : BL J1 J2 x2 (List.replicate 16 48)) (h3 : BL J2 J3 x3 (List.replicate 16 48)) (h4 : BL J3 J4 x4 (List.replicate 16 48)) (h5 : Pt J4 K x5 1) (e1 : x1 = lo + 813) (e2 : x2 = lo + 830) (e3 : x3 = lo + 847) (e4 : x4 = lo + 864) (e5 : x5 = lo + 881) (hh : lo + 882 ≤ hi) : Rn I K lo (dsL t many tab ext siz) 882 hi := by
  have l16 : ((List.replicate 16 (48 : Int)).length : Int) = 16 := by rw [List.length_replicate]; rfl
  have a1 := (r.bl (m := 16) (n2 := 829) h1 (by omega) l16 (by omega)).hole (n2 := 830) 1 (by omega) (by omega)
  have a2 := (a1.bl (m := 16) (n2 := 846) h2 (by omega) l16 (by omega)).hole (n2 := 847) 1 (by omega) (by omega)
  have a3 := (a2.bl (m := 16) (n2 := 863) h3 (by omega) l16 (by omega)).hole (n2 := 864) 1 (by omega) (by omega)
  have a4 := (a3.bl (m := 16) (n2 := 880) h4 (by omega) l16 (by omega)).hole (n2 := 881) 1 (by omega) (by omega)
  have a5 := a4.pt (n2 := 882) (v := 1) h5 (by omega) (by decide) (by omega)
  refine a5.cast ?_ rfl
  unfold dsL z68
  simp only [List.append_assoc]
  rfl
theorem ds_M {I J0 J1 K : Nat → Int} {lo hi x1 x5 t many tab ext siz : Int} (r : Rn I J0 lo (dsP t many tab ext siz) 813 hi) (h1 : BL J0 J1 x1 (tbL (fun k => if k % 17 < 16 then 48 else 0) 68)) (h5 : Pt J1 K x5 1) (e1 : x1 = lo + 813) (e5 : x5 = lo + 881) : Rn I K lo (dsL t many tab ext siz) 882 hi := by
  have a4 := r.bl (m := 68) (n2 := 881) h1 (by omega) (by rw [tbL_len]; rfl) (by omega)
  have a5 := a4.pt (n2 := 882) (v := 1) h5 (by omega) (by decide) (by omega)
  exact a5.cast (by unfold dsL; rw [show tbL (fun k => if k % 17 < 16 then (48 : Int) else 0) 68 = z68 by decide]) rfl
/-- the bytes of a file -/
def cbyF (sd : Int32) (i : Nat) : Int := (sd + Int32.ofNat i * Int32.ofNat i + Int32.ofNat i / 256).toInt % 256
def cbL (sd : Int32) (n : Nat) : List Int := tbL (cbyF sd) n
theorem i_ofn {a : Int32} (h : 0 ≤ a.toInt) : Int32.ofNat a.toInt.toNat = a := Int32.toInt_inj.mp (by
  have r := i_rng a
  rw [Int32.toInt_ofNat_of_lt (by omega)]; omega)
/-- the first that has the same bytes -/
def FwP (dt : Nat → Nat → Int) (k j : Nat) : Prop := (dt 0 j = 1 ∧ dt 6 j = dt 6 k ∧ dt 7 j = dt 7 k) ∧ ∀ i, i < j → ¬ (dt 0 i = 1 ∧ dt 6 i = dt 6 k ∧ dt 7 i = dt 7 k)
theorem FwP_uniq {dt : Nat → Nat → Int} {k i j : Nat} (h : FwP dt k i) (h2 : FwP dt k j) : i = j := by
  rcases Nat.lt_trichotomy i j with l | l | l
  · exact absurd h.1 (h2.2 i l)
  · exact l
  · exact absurd h2.1 (h.2 j l)
theorem FwP_new {dt : Nat → Nat → Int} {k : Nat} (h : dt 0 k = 1) (h6 : dt 6 k ≠ 0) : FwP dt k k ↔ newC dt k := ⟨fun q => ⟨h, h6, q.2⟩, fun q => ⟨⟨h, rfl, rfl⟩, q.2.2⟩⟩
theorem FwP_first {dt : Nat → Nat → Int} {k j : Nat} (h : FwP dt k j) (h6 : dt 6 k ≠ 0) : newC dt j := ⟨h.1.1, by rw [h.1.2.1]; exact h6, fun i hi q => h.2 i hi ⟨q.1, by rw [q.2.1, h.1.2.1], by rw [q.2.2, h.1.2.2]⟩⟩
/-- where the contents lie -/
def CtP (dt : Nat → Nat → Int) (x : Int) (v : Nat → Int32) (n : Nat) : Prop := ∀ k, k < n → (dt 0 k = 1 → dt 6 k ≠ 0 → ∃ j, j ≤ k ∧ FwP dt k j ∧ (v k).toInt = x + ctS dt j)
theorem CtP_uniq {dt : Nat → Nat → Int} {x : Int} {v w : Nat → Int32} {n k : Nat} (h : CtP dt x v n) (h2 : CtP dt x w n) (hk : k < n) (h0 : dt 0 k = 1) (h6 : dt 6 k ≠ 0) : (v k).toInt = (w k).toInt := by
  obtain ⟨i, a, b, c⟩ := h k hk h0 h6
  obtain ⟨j, d, e, f⟩ := h2 k hk h0 h6
  rw [c, f, FwP_uniq b e]
/-- the contents' parts of the image -/
noncomputable def ctT (dt : Nat → Nat → Int) (sd v : Nat → Int32) : Nat → List (Int × List Int)
  | 0 => []
  | k + 1 => @ite _ (newC dt k) (Classical.propDecidable (newC dt k)) (((v k).toInt * 2048, cbL (sd k) (dt 6 k).toNat) :: ctT dt sd v k) (ctT dt sd v k)
theorem ctT_hit {dt : Nat → Nat → Int} {sd v : Nat → Int32} {k : Nat} (h : newC dt k) : ctT dt sd v (k + 1) = ((v k).toInt * 2048, cbL (sd k) (dt 6 k).toNat) :: ctT dt sd v k := by
  simp only [ctT]; rw [if_pos h]
theorem ctT_miss {dt : Nat → Nat → Int} {sd v : Nat → Int32} {k : Nat} (h : ¬ newC dt k) : ctT dt sd v (k + 1) = ctT dt sd v k := by
  simp only [ctT]; rw [if_neg h]
theorem cbL_len (sd : Int32) (n : Nat) : (cbL sd n).length = n := tbL_len _ _
theorem ctS_mono {dt : Nat → Nat → Int} {i j : Nat} (h : i ≤ j) (h6 : ∀ k, k < j → 0 ≤ dt 6 k) : ctS dt i ≤ ctS dt j := by
  induction j with
  | zero => rw [show i = 0 by omega]; exact Int.le_refl _
  | succ j ih =>
    by_cases e : i = j + 1
    · rw [e]; exact Int.le_refl _
    · have q := ih (by omega) (fun k hk => h6 k (by omega))
      have z := h6 j (by omega)
      by_cases c : newC dt j
      · rw [ctS_hit c]; omega
      · rw [ctS_miss c]; exact q
/-- a file's part lies behind those ahead of it, and within -/
theorem ct_at {dt : Nat → Nat → Int} {x : Int} {v : Nat → Int32} {n k : Nat} (h : CtP dt x v n) (hk : k < n) (hn : newC dt k) : (v k).toInt = x + ctS dt k := by
  obtain ⟨j, a, b, c⟩ := h k hk hn.1 hn.2.1
  rw [c, FwP_uniq b ((FwP_new hn.1 hn.2.1).mpr hn)]
theorem ctT_mem {dt : Nat → Nat → Int} {x : Int} {sd v : Nat → Int32} {n k : Nat} (h : CtP dt x v n) (h6 : ∀ k, k < n → 0 ≤ dt 6 k) (hk : k ≤ n) : ∀ c ∈ ctT dt sd v k, x * 2048 ≤ c.1 ∧ c.1 + c.2.length ≤ (x + ctS dt k) * 2048 := by
  induction k with
  | zero => intro c hc; exact absurd hc (List.not_mem_nil)
  | succ k ih =>
    intro c hc
    have q := ctS_mono (i := k) (j := k + 1) (by omega) (fun i hi => h6 i (by omega))
    have q0 := ctS_mono (dt := dt) (i := 0) (j := k) (Nat.zero_le k) (fun i hi => h6 i (by omega))
    have z0 : ctS dt 0 = 0 := rfl
    by_cases cn : newC dt k
    · rw [ctT_hit cn] at hc
      have e := ctS_hit cn
      have z := h6 k (by omega)
      rcases List.mem_cons.mp hc with d | d
      · have a := ct_at h (by omega) cn
        rw [d]
        show x * 2048 ≤ (v k).toInt * 2048 ∧ (v k).toInt * 2048 + (cbL (sd k) (dt 6 k).toNat).length ≤ _
        rw [cbL_len]; omega
      · have w := ih (by omega) c d
        omega
    · rw [ctT_miss cn] at hc
      have w := ih (by omega) c hc
      omega
/-- a file whose bytes are there already -/
theorem ctT_in {dt : Nat → Nat → Int} {x : Int} {sd v : Nat → Int32} {n k j : Nat} (hj : j < k) (hn : newC dt j) : ((v j).toInt * 2048, cbL (sd j) (dt 6 j).toNat) ∈ ctT dt sd v k := by
  induction k with
  | zero => omega
  | succ k ih =>
    by_cases e : j = k
    · subst e; rw [ctT_hit hn]; exact List.mem_cons_self
    · by_cases c : newC dt k
      · rw [ctT_hit c]; exact List.mem_cons_of_mem _ (ih (by omega))
      · rw [ctT_miss c]; exact ih (by omega)
