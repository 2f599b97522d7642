theorem gD_l {L M : List Int} {i : Nat} (h : i < L.length) : (L ++ M).getD i 0 = L.getD i 0 := by
  rw [List.getD_eq_getElem?_getD, List.getElem?_append_left h, ← List.getD_eq_getElem?_getD]
theorem gD_r {L M : List Int} {i : Nat} (h : L.length ≤ i) : (L ++ M).getD i 0 = M.getD (i - L.length) 0 := by
  rw [List.getD_eq_getElem?_getD, List.getElem?_append_right h, ← List.getD_eq_getElem?_getD]
theorem gD_rep (n i : Nat) : (List.replicate n (0 : Int)).getD i 0 = 0 := by
  rw [List.getD_eq_getElem?_getD, List.getElem?_replicate]
  split <;> rfl
theorem gD_repv {n i : Nat} {v : Int} (h : i < n) : (List.replicate n v).getD i 0 = v := by
  rw [List.getD_eq_getElem?_getD, List.getElem?_replicate, if_pos h]
  rfl
/-- the values of a function, as a list -/
def tbL (c : Nat → Int) : Nat → List Int
  | 0 => []
  | n + 1 => tbL c n ++ [c n]
theorem tbL_len (c : Nat → Int) (n : Nat) : (tbL c n).length = n := by
  induction n with
  | zero => rfl
  | succ n ih => show (tbL c n ++ [c n]).length = n + 1; rw [List.length_append, ih]; rfl
theorem tbL_at (c : Nat → Int) {n i : Nat} (h : i < n) : (tbL c n).getD i 0 = c i := by
  induction n with
  | zero => omega
  | succ n ih =>
    show (tbL c n ++ [c n]).getD i 0 = c i
    by_cases e : i < n
    · rw [gD_l (by rw [tbL_len]; exact e)]; exact ih e
    · rw [gD_r (by rw [tbL_len]; omega), tbL_len, show i - n = 0 by omega, show i = n by omega]; rfl
theorem tbL_congr {c d : Nat → Int} {n : Nat} (h : ∀ i, i < n → c i = d i) : tbL c n = tbL d n := by
  induction n with
  | zero => rfl
  | succ n ih => show tbL c n ++ [c n] = tbL d n ++ [d n]; rw [ih (fun i hi => h i (by omega)), h n (by omega)]
theorem tbL_add (c : Nat → Int) (n m : Nat) : tbL c (n + m) = tbL c n ++ tbL (fun i => c (n + i)) m := by
  induction m with
  | zero => show tbL c n = tbL c n ++ []; rw [List.append_nil]
  | succ m ih => show tbL c (n + m) ++ [c (n + m)] = tbL c n ++ (tbL (fun i => c (n + i)) m ++ [c (n + m)]); rw [ih, List.append_assoc]
theorem tbL_of {c : Nat → Int} (L : List Int) (h : ∀ i, i < L.length → c i = L.getD i 0) : tbL c L.length = L := by
  refine List.ext_getElem? (fun i => ?_)
  by_cases e : i < L.length
  · have a := tbL_at c e
    rw [h i e, List.getD_eq_getElem?_getD, List.getD_eq_getElem?_getD, List.getElem?_eq_getElem (by rw [tbL_len]; exact e), List.getElem?_eq_getElem e] at a
    rw [List.getElem?_eq_getElem (by rw [tbL_len]; exact e), List.getElem?_eq_getElem e]
    exact congrArg some a
  · rw [List.getElem?_eq_none (by rw [tbL_len]; omega), List.getElem?_eq_none (by omega)]
theorem tbL_const (v : Int) (n : Nat) : tbL (fun _ => v) n = List.replicate n v := by
  have h := tbL_of (c := fun _ => v) (List.replicate n v) (fun i hi => by rw [List.length_replicate] at hi; rw [gD_repv hi])
  rw [List.length_replicate] at h
  exact h
/-- the bytes of L lie at lo in J; all else is as in I -/
def BL (I J : Nat → Int) (lo : Int) (L : List Int) : Prop := ∀ p : Nat, J p = if lo ≤ (p : Int) ∧ (p : Int) < lo + L.length then L.getD ((p : Int) - lo).toNat 0 else I p
def Pt (I J : Nat → Int) (x y : Int) : Prop := ∀ p : Nat, J p = if (p : Int) = x then y % 256 else I p
/-- nothing lies there -/
def ZA (I : Nat → Int) (a b : Int) : Prop := ∀ p : Nat, a ≤ (p : Int) → (p : Int) < b → I p = 0
theorem BL_nil (I : Nat → Int) (lo : Int) : BL I I lo [] := fun p => (if_neg (fun h => by have h2 := h.2; rw [List.length_nil] at h2; omega)).symm
theorem BL.ins {I J : Nat → Int} {lo : Int} {L : List Int} (h : BL I J lo L) {p : Nat} (h1 : lo ≤ (p : Int)) (h2 : (p : Int) < lo + L.length) : J p = L.getD ((p : Int) - lo).toNat 0 := by rw [h p, if_pos ⟨h1, h2⟩]
theorem BL.outs {I J : Nat → Int} {lo : Int} {L : List Int} (h : BL I J lo L) {p : Nat} (h1 : (p : Int) < lo ∨ lo + L.length ≤ (p : Int)) : J p = I p := by rw [h p, if_neg (by omega)]
theorem BL.app {I J K : Nat → Int} {lo x : Int} {L M : List Int} (h : BL I J lo L) (h2 : BL J K x M) (hx : x = lo + L.length) : BL I K lo (L ++ M) := fun p => by
  by_cases q : lo + (L.length : Int) ≤ (p : Int) ∧ (p : Int) < lo + L.length + M.length
  · rw [h2.ins (by omega) (by omega), if_pos (by rw [List.length_append]; omega), gD_r (by omega), hx, show ((p : Int) - (lo + L.length)).toNat = ((p : Int) - lo).toNat - L.length by omega]
  · rw [h2.outs (by omega)]
    by_cases r : lo ≤ (p : Int) ∧ (p : Int) < lo + L.length
    · rw [h.ins r.1 r.2, if_pos (by rw [List.length_append]; omega), gD_l (by omega)]
    · rw [h.outs (by omega), if_neg (by rw [List.length_append]; omega)]
theorem BL_pt {I J : Nat → Int} {x y : Int} (h : Pt I J x y) : BL I J x [y % 256] := fun p => by
  rw [h p]
  by_cases q : (p : Int) = x
  · rw [if_pos q, if_pos (by rw [List.length_singleton]; omega), show ((p : Int) - x).toNat = 0 by omega]; rfl
  · rw [if_neg q, if_neg (by rw [List.length_singleton]; omega)]
theorem BL.pt {I J K : Nat → Int} {lo x y v : Int} {L : List Int} (h : BL I J lo L) (h2 : Pt J K x y) (hx : x = lo + L.length) (hv : y % 256 = v) : BL I K lo (L ++ [v]) := by
  rw [← hv]; exact h.app (BL_pt h2) hx
/-- one of a list of values is written later -/
theorem BL.set {I J K : Nat → Int} {lo x y v : Int} {L : List Int} {i : Nat} (h : BL I J lo L) (h2 : Pt J K x y) (hx : x = lo + i) (hi : i < L.length) (hv : y % 256 = v) : BL I K lo (L.set i v) := fun p => by
  rw [h2 p, List.length_set]
  by_cases q : (p : Int) = x
  · rw [if_pos q, if_pos (by omega), show ((p : Int) - lo).toNat = i by omega, List.getD_eq_getElem?_getD, List.getElem?_set_self hi, hv]; rfl
  · rw [if_neg q, h p]
    by_cases r : lo ≤ (p : Int) ∧ (p : Int) < lo + L.length
    · rw [if_pos r, if_pos r, List.getD_eq_getElem?_getD, List.getD_eq_getElem?_getD, List.getElem?_set_ne (by omega)]
    · rw [if_neg r, if_neg r]
/-- a row is written over the middle -/
theorem BL.sub {I J K : Nat → Int} {lo x : Int} {L A B C M : List Int} (h : BL I J lo L) (e : L = A ++ B ++ C) (h2 : BL J K x M) (hx : x = lo + A.length) (hM : M.length = B.length) : BL I K lo (A ++ M ++ C) := fun p => by
  subst e
  by_cases q : x ≤ (p : Int) ∧ (p : Int) < x + M.length
  · rw [h2.ins q.1 q.2, if_pos (by rw [List.length_append, List.length_append]; omega), gD_l (by rw [List.length_append]; omega), gD_r (by omega), show ((p : Int) - x).toNat = ((p : Int) - lo).toNat - A.length by omega]
  · rw [h2.outs (by omega)]
    by_cases r : lo ≤ (p : Int) ∧ (p : Int) < lo + (A ++ B ++ C).length
    · rw [h.ins r.1 r.2]
      rw [List.length_append, List.length_append] at r
      rw [if_pos (by rw [List.length_append, List.length_append]; omega)]
      by_cases s : (p : Int) < lo + A.length
      · rw [gD_l (by rw [List.length_append]; omega), gD_l (by omega), gD_l (by rw [List.length_append]; omega), gD_l (by omega)]
      · rw [gD_r (by rw [List.length_append]; omega), gD_r (by rw [List.length_append]; omega), List.length_append, List.length_append, hM]
    · rw [h.outs (by omega), if_neg (fun s => r (by rw [List.length_append, List.length_append] at s ⊢; omega))]
theorem BL.cast {I J : Nat → Int} {lo lo2 : Int} {L M : List Int} (h : BL I J lo L) (e : lo = lo2) (e2 : L = M) : BL I J lo2 M := by subst e; subst e2; exact h
theorem ZA.sub {I : Nat → Int} {a b c d : Int} (h : ZA I a b) (h1 : a ≤ c) (h2 : d ≤ b) : ZA I c d := fun p h3 h4 => h p (by omega) (by omega)
theorem ZA.bl {I J : Nat → Int} {a b lo : Int} {L : List Int} (h : ZA I a b) (h2 : BL I J lo L) (h3 : lo + L.length ≤ a ∨ b ≤ lo) : ZA J a b := fun p h4 h5 => by
  rw [h2.outs (by omega)]; exact h p h4 h5
theorem BL_hole {I : Nat → Int} {lo : Int} {n : Nat} (h : ZA I lo (lo + n)) : BL I I lo (List.replicate n 0) := fun p => by
  rw [List.length_replicate]
  by_cases q : lo ≤ (p : Int) ∧ (p : Int) < lo + n
  · rw [if_pos q, gD_rep]; exact h p q.1 q.2
  · rw [if_neg q]
/-- written one behind the other, over nothing -/
def Rn (I J : Nat → Int) (lo : Int) (L : List Int) (n hi : Int) : Prop := BL I J lo L ∧ (L.length : Int) = n ∧ ZA J (lo + n) hi
theorem Rn_0 {I : Nat → Int} {lo n hi : Int} (h : ZA I lo hi) (hn : n = 0) : Rn I I lo [] n hi := ⟨BL_nil I lo, by rw [hn]; rfl, by rw [hn, Int.add_zero]; exact h⟩
theorem Rn.bl {I J K : Nat → Int} {lo x n n2 m hi : Int} {L M : List Int} (h : Rn I J lo L n hi) (h2 : BL J K x M) (hx : x = lo + n) (hm : (M.length : Int) = m) (hn : n2 = n + m) : Rn I K lo (L ++ M) n2 hi := by
  obtain ⟨a, b, c⟩ := h
  refine ⟨a.app h2 (by omega), by rw [List.length_append]; omega, ?_⟩
  exact (c.sub (by omega) (Int.le_refl hi)).bl h2 (by omega)
theorem Rn.pt {I J K : Nat → Int} {lo x y v n n2 hi : Int} {L : List Int} (h : Rn I J lo L n hi) (h2 : Pt J K x y) (hx : x = lo + n) (hv : y % 256 = v) (hn : n2 = n + 1) : Rn I K lo (L ++ [v]) n2 hi := by
  rw [← hv]; exact h.bl (BL_pt h2) hx rfl hn
theorem Rn.hole {I J : Nat → Int} {lo n n2 hi : Int} {L : List Int} (h : Rn I J lo L n hi) (m : Nat) (hm : lo + n + m ≤ hi) (hn : n2 = n + m) : Rn I J lo (L ++ List.replicate m 0) n2 hi := by
  obtain ⟨a, b, c⟩ := h
  refine ⟨a.app (BL_hole (c.sub (Int.le_refl _) hm)) (by omega), by rw [List.length_append, List.length_replicate]; omega, c.sub (by omega) (Int.le_refl hi)⟩
theorem Rn.cast {I J : Nat → Int} {lo n n2 hi : Int} {L M : List Int} (h : Rn I J lo L n hi) (e : L = M) (e2 : n = n2) : Rn I J lo M n2 hi := by subst e; subst e2; exact h
/-- what a row of bytes holds -/
def Cn (f : Nat → Int32) (n : Int) (L : List Int) : Prop := (L.length : Int) = n ∧ ∀ i, i < L.length → imC f i = L.getD i 0
theorem Cn_0 {f : Nat → Int32} {n : Int} (h : n = 0) : Cn f n [] := ⟨h.symm, fun i hi => absurd hi (Nat.not_lt_zero i)⟩
theorem Cn.bl {f g : Nat → Int32} {n n2 lo m : Int} {L M : List Int} (h : Cn f n L) (h2 : BL (imC f) (imC g) lo M) (hlo : lo = n) (hm : (M.length : Int) = m) (hn : n2 = n + m) : Cn g n2 (L ++ M) := by
  have a := h.1
  refine ⟨by rw [List.length_append]; omega, fun i hi => ?_⟩
  rw [List.length_append] at hi
  by_cases e : i < L.length
  · rw [h2.outs (by omega), gD_l e]; exact h.2 i e
  · rw [h2.ins (by omega) (by omega), gD_r (by omega), show ((i : Int) - lo).toNat = i - L.length by omega]
theorem Cn.cast {f : Nat → Int32} {n n2 : Int} {L M : List Int} (h : Cn f n L) (e : L = M) (e2 : n = n2) : Cn f n2 M := by subst e; subst e2; exact h
theorem Cn.tb {f : Nat → Int32} {n : Int} {L : List Int} (h : Cn f n L) : tbL (imC f) n.toNat = L := by
  rw [show n.toNat = L.length by have := h.1; omega]
  exact tbL_of L h.2
/-- the first part, and what is behind it -/
theorem Cn.split {f : Nat → Int32} {n : Int} {L M : List Int} (h : Cn f n (L ++ M)) : tbL (imC f) L.length = L ∧ tbL (fun i => imC f (L.length + i)) M.length = M := by
  refine ⟨tbL_of L (fun i hi => ?_), tbL_of (c := fun i => imC f (L.length + i)) M (fun i hi => ?_)⟩
  · rw [h.2 i (by rw [List.length_append]; omega), gD_l hi]
  · rw [h.2 (L.length + i) (by rw [List.length_append]; omega), gD_r (by omega), show L.length + i - L.length = i by omega]
/-- numbers in bytes -/
def lL4 (v : Int) : List Int := [v % 256, v / 256 % 256, v / 65536 % 256, v / 16777216 % 256]
def hL4 (v : Int) : List Int := [v / 16777216 % 256, v / 65536 % 256, v / 256 % 256, v % 256]
def bL4 (v : Int) : List Int := [v % 256, v / 256 % 256, v / 65536 % 256, v / 16777216 % 256, v / 16777216 % 256, v / 65536 % 256, v / 256 % 256, v % 256]
def lL2 (v : Int) : List Int := [v % 256, v / 256 % 256]
def hL2 (v : Int) : List Int := [v / 256 % 256, v % 256]
def bL2 (v : Int) : List Int := [v % 256, v / 256 % 256, v / 256 % 256, v % 256]
/-- parts of an image: at an address, these bytes; all else up to Z is nothing -/
def Img (Z : Int) (J : Nat → Int) (T : List (Int × List Int)) : Prop := (∀ c ∈ T, ∀ p : Nat, c.1 ≤ (p : Int) → (p : Int) < c.1 + c.2.length → J p = c.2.getD ((p : Int) - c.1).toNat 0) ∧ ∀ p : Nat, (p : Int) < Z → (∀ c ∈ T, ¬ (c.1 ≤ (p : Int) ∧ (p : Int) < c.1 + c.2.length)) → J p = 0
theorem Img_0 {Z : Int} {J : Nat → Int} (h : ∀ p : Nat, (p : Int) < Z → J p = 0) : Img Z J [] := ⟨fun c hc => absurd hc (List.not_mem_nil), fun p hp _ => h p hp⟩
theorem Img.add {Z : Int} {J K : Nat → Int} {T : List (Int × List Int)} {a : Int} {L : List Int} (h : Img Z J T) (h2 : BL J K a L) (hd : ∀ c ∈ T, c.1 + c.2.length ≤ a ∨ a + L.length ≤ c.1) : Img Z K ((a, L) :: T) := by
  refine ⟨fun c hc p h3 h4 => ?_, fun p hz hp => ?_⟩
  · rcases List.mem_cons.mp hc with e | e
    · subst e; exact h2.ins h3 h4
    · have d := hd c e
      rw [h2.outs (by omega)]
      exact h.1 c e p h3 h4
  · have d : ¬ (a ≤ (p : Int) ∧ (p : Int) < a + L.length) := hp (a, L) (List.mem_cons_self)
    rw [h2.outs (by omega)]
    exact h.2 p hz (fun c hc => hp c (List.mem_cons_of_mem _ hc))
/-- the same bytes once more -/
theorem Img.again {Z : Int} {J K : Nat → Int} {T : List (Int × List Int)} {a : Int} {L : List Int} (h : Img Z J T) (h2 : BL J K a L) (hm : (a, L) ∈ T) : Img Z K T := by
  have e : ∀ p, K p = J p := fun p => by
    by_cases q : a ≤ (p : Int) ∧ (p : Int) < a + L.length
    · rw [h2.ins q.1 q.2, h.1 (a, L) hm p q.1 q.2]
    · rw [h2.outs (by omega)]
  exact ⟨fun c hc p h3 h4 => by rw [e]; exact h.1 c hc p h3 h4, fun p hz hp => by rw [e]; exact h.2 p hz hp⟩
theorem Img.eq {Z : Int} {J K : Nat → Int} {T U : List (Int × List Int)} (h : Img Z J T) (h2 : Img Z K U) (e : ∀ c, c ∈ T ↔ c ∈ U) (p : Nat) (hz : (p : Int) < Z) : J p = K p := by
  by_cases q : ∃ c, c ∈ T ∧ c.1 ≤ (p : Int) ∧ (p : Int) < c.1 + c.2.length
  · obtain ⟨c, h3, h4, h5⟩ := q
    rw [h.1 c h3 p h4 h5, h2.1 c ((e c).mp h3) p h4 h5]
  · rw [h.2 p hz (fun c hc hr => q ⟨c, hc, hr⟩), h2.2 p hz (fun c hc hr => q ⟨c, (e c).mpr hc, hr⟩)]
theorem Img.za {Z : Int} {J : Nat → Int} {T : List (Int × List Int)} (h : Img Z J T) {a b : Int} (hb : b ≤ Z) (hd : ∀ c ∈ T, c.1 + c.2.length ≤ a ∨ b ≤ c.1) : ZA J a b := fun p h1 h2 => h.2 p (by omega) (fun c hc hr => by have := hd c hc; omega)
def Bl (I J : Nat → Int) (lo n : Int) (c : Nat → Int) : Prop := ∀ p : Nat, J p = if lo ≤ (p : Int) ∧ (p : Int) < lo + n then c ((p : Int) - lo).toNat else I p
theorem Pt_of {f g : Nat → Int32} {i : Nat} {x : Int} {y : Int32} (e : g = upd f i (vp_nar .byte y)) (hi : (i : Int) = x) : Pt (imC f) (imC g) x y.toInt := fun p => by
  unfold imC
  rw [e]
  by_cases c : (p : Int) = x
  · rw [if_pos c, show p = i by omega, show upd f i (vp_nar .byte y) i = vp_nar .byte y from if_pos rfl]
    exact nar_mod y
  · rw [if_neg c, show upd f i (vp_nar .byte y) p = f p from if_neg (by omega)]
theorem Pt_set {F G : Nat → Int64} {x y s k : Int32} (hx : 0 ≤ x.toInt) (hs : s.toInt = 8 * (x.toInt % 8)) (hk : k.toInt = x.toInt / 8) (e : G = vp_updL F k.toNatClampNeg ((F k.toNatClampNeg &&& (255 <<< (s.toInt64 &&& 63) ^^^ (-1))) ||| ((y.toInt64 &&& 255) <<< (s.toInt64 &&& 63)))) : Pt (bF F) (bF G) x.toInt y.toInt := fun p => by
  have h1 := i_cl (a := k) (by omega)
  have h2 := set_b (c := (x.toInt % 8).toNat) (by omega) (show s.toInt = 8 * (((x.toInt % 8).toNat : Nat) : Int) by omega) e p
  rw [h2]
  by_cases c : (p : Int) = x.toInt
  · rw [if_pos c, if_pos (by omega)]
  · rw [if_neg c, if_neg (by omega)]
theorem Pt_mod {I J : Nat → Int} {x y z : Int} (h : Pt I J x y) (e : y % 256 = z % 256) : Pt I J x z := fun p => by rw [h p, e]
theorem imC_mod (f : Nat → Int32) (p : Nat) : imC f p % 256 = imC f p := by
  have := imC_rng f p
  omega
theorem BL_Bl {I J : Nat → Int} {lo n : Int} {L : List Int} (h : Bl I J lo n (fun i => L.getD i 0)) (hn : (L.length : Int) = n) : BL I J lo L := fun p => by
  rw [h p, hn]
theorem BL_tb0 {I : Nat → Int} {lo n : Int} {c : Nat → Int} (h : n = 0) : BL I I lo (tbL c n.toNat) := by
  rw [h]; exact BL_nil I lo
theorem BL.step {I J K : Nat → Int} {lo x y n n2 : Int} {c : Nat → Int} (h : BL I J lo (tbL c n.toNat)) (h2 : Pt J K x y) (hx : x = lo + n) (h0 : 0 ≤ n) (hn : n2 = n + 1) (hv : y % 256 = c n.toNat) : BL I K lo (tbL c n2.toNat) := by
  rw [hn, show (n + 1).toNat = n.toNat + 1 by omega]
  exact h.pt h2 (by rw [tbL_len]; omega) hv
theorem BL.tbc {I J : Nat → Int} {lo n m v : Int} (h : BL I J lo (tbL (fun _ => v) n.toNat)) (e : n = m) : BL I J lo (List.replicate m.toNat v) := by
  rw [← tbL_const, ← e]; exact h
