/-- byte p of the reference's image -/
def bF (F : Nat → Int64) (p : Nat) : Int := (((F (p / 8)).toBitVec.extractLsb' (8 * (p % 8)) 8).toNat : Nat)
theorem bF_rng (F : Nat → Int64) (p : Nat) : 0 ≤ bF F p ∧ bF F p ≤ 255 := by
  have h : ((F (p / 8)).toBitVec.extractLsb' (8 * (p % 8)) 8).toNat < 256 := ((F (p / 8)).toBitVec.extractLsb' (8 * (p % 8)) 8).isLt
  unfold bF
  omega
theorem bv_255 (k : Nat) : (255#64).getLsbD k = decide (k < 8) := by
  have h : (255#64).getLsbD k = (decide (k < 64) && Nat.testBit 255 k) := BitVec.getLsbD_ofNat 64 255 k
  have h2 : Nat.testBit 255 k = decide (k < 8) := Nat.testBit_two_pow_sub_one 8 k
  rw [h, h2]
  by_cases c : k < 8
  · rw [decide_eq_true c, decide_eq_true (show k < 64 by omega)]; rfl
  · rw [decide_eq_false c, Bool.and_false]
theorem sh_lit {c : Nat} (hc : c < 8) {y : Int32} (hy : y.toInt = 8 * (c : Int)) : ((y.toInt64 &&& 63).toBitVec.smod 64).toNat = 8 * c := by
  have h : c = 0 ∨ c = 1 ∨ c = 2 ∨ c = 3 ∨ c = 4 ∨ c = 5 ∨ c = 6 ∨ c = 7 := by omega
  rcases h with h | h | h | h | h | h | h | h <;> subst h
  · have e : y = 0 := Int32.toInt_inj.mp (hy.trans (by decide))
    subst e; decide
  · have e : y = 8 := Int32.toInt_inj.mp (hy.trans (by decide))
    subst e; decide
  · have e : y = 16 := Int32.toInt_inj.mp (hy.trans (by decide))
    subst e; decide
  · have e : y = 24 := Int32.toInt_inj.mp (hy.trans (by decide))
    subst e; decide
  · have e : y = 32 := Int32.toInt_inj.mp (hy.trans (by decide))
    subst e; decide
  · have e : y = 40 := Int32.toInt_inj.mp (hy.trans (by decide))
    subst e; decide
  · have e : y = 48 := Int32.toInt_inj.mp (hy.trans (by decide))
    subst e; decide
  · have e : y = 56 := Int32.toInt_inj.mp (hy.trans (by decide))
    subst e; decide
theorem byte_at (w : Int64) {c : Nat} (hc : c < 8) {y : Int32} (hy : y.toInt = 8 * (c : Int)) : ((w >>> (y.toInt64 &&& 63) &&& 255).toInt32).toInt = ((w.toBitVec.extractLsb' (8 * c) 8).toNat : Nat) := by
  have hs := sh_lit hc hy
  have h0 : (w >>> (y.toInt64 &&& 63) &&& 255).toBitVec = (w.toBitVec.extractLsb' (8 * c) 8).setWidth 64 := by
    rw [Int64.toBitVec_and, Int64.toBitVec_shiftRight]
    apply BitVec.eq_of_getLsbD_eq
    intro i hi
    rw [BitVec.getLsbD_and, BitVec.getLsbD_sshiftRight', hs, BitVec.getLsbD_setWidth, BitVec.getLsbD_extractLsb', show (255 : Int64).toBitVec = 255#64 from rfl, bv_255]
    by_cases k : i < 8
    · rw [if_pos (show 8 * c + i < 64 by omega), decide_eq_true k, decide_eq_true hi, decide_eq_false (show ¬ 64 ≤ i by omega)]
      simp
    · rw [decide_eq_false k]
      simp
  have hlt : (w.toBitVec.extractLsb' (8 * c) 8).toNat < 256 := (w.toBitVec.extractLsb' (8 * c) 8).isLt
  have h1 : (w >>> (y.toInt64 &&& 63) &&& 255).toBitVec.toNat = (w.toBitVec.extractLsb' (8 * c) 8).toNat := by
    rw [h0, BitVec.toNat_setWidth]
    exact Nat.mod_eq_of_lt (by omega)
  have h2 : (w >>> (y.toInt64 &&& 63) &&& 255).toInt = (w >>> (y.toInt64 &&& 63) &&& 255).toBitVec.toNat := by
    show (w >>> (y.toInt64 &&& 63) &&& 255).toBitVec.toInt = _
    rw [BitVec.toInt_eq_toNat_of_lt (by omega)]
  rw [l_int h2 (by omega) (by omega), h1]
theorem i_and7 {w : Int32} (h : 0 ≤ w.toInt) : (w &&& 7).toInt = w.toInt % 8 := by
  have h1 : w.toBitVec.toNat < 2147483648 := by
    have h2 : w.toBitVec.toInt = w.toInt := rfl
    rw [BitVec.toInt_eq_toNat_cond] at h2
    have := w.toBitVec.isLt
    split at h2 <;> omega
  have h3 : (w &&& 7).toBitVec.toNat = w.toBitVec.toNat % 8 := by
    rw [Int32.toBitVec_and, BitVec.toNat_and]
    exact Nat.and_two_pow_sub_one_eq_mod w.toBitVec.toNat 3
  rw [i_tn (a := w &&& 7) (by omega), i_tn (a := w) h1, h3]
  omega
theorem i_and255m (w : Int32) : (w &&& 255).toInt = w.toInt % 256 := by
  have h3 : (w &&& 255).toBitVec.toNat = w.toBitVec.toNat % 256 := by
    rw [Int32.toBitVec_and, BitVec.toNat_and]
    exact Nat.and_two_pow_sub_one_eq_mod w.toBitVec.toNat 8
  have h2 : w.toBitVec.toInt = w.toInt := rfl
  rw [BitVec.toInt_eq_toNat_cond] at h2
  have := w.toBitVec.isLt
  rw [i_tn (a := w &&& 255) (by omega), h3]
  split at h2 <;> omega
theorem atF_b (F : Nat → Int64) {x : Int32} (hx : 0 ≤ x.toInt) : (atF F x).toInt = bF F x.toNatClampNeg := by
  have hc := i_cl (a := x) hx
  have h1 : (x >>> (3 &&& 31)).toInt = x.toInt / 8 := i_shr (k := 3) rfl (by decide) (by decide)
  have h2 := i_cl (a := x >>> (3 &&& 31)) (by omega)
  have e2 : (x &&& 7).toInt = x.toInt % 8 := i_and7 hx
  have e3 : ((8 : Int32) * (x &&& 7)).toInt = 8 * ((x.toNatClampNeg % 8 : Nat) : Int) := by
    rw [i_mul (a := 8) (b := x &&& 7) (x := 8) (y := x.toInt % 8) (by decide) e2 (by omega) (by omega)]
    omega
  unfold atF
  rw [show (x >>> (3 &&& 31)).toNatClampNeg = x.toNatClampNeg / 8 by omega]
  exact byte_at (F (x.toNatClampNeg / 8)) (Nat.mod_lt _ (by decide)) e3
theorem bv_set (x y : BitVec 64) {b c : Nat} (hb : b < 8) (hc : c < 8) : ((x &&& ((255#64 <<< (8 * b)) ^^^ BitVec.allOnes 64)) ||| ((y &&& 255#64) <<< (8 * b))).extractLsb' (8 * c) 8 = if c = b then y.extractLsb' 0 8 else x.extractLsb' (8 * c) 8 := by
  apply BitVec.eq_of_getLsbD_eq
  intro i hi
  rw [BitVec.getLsbD_extractLsb', BitVec.getLsbD_or, BitVec.getLsbD_and, BitVec.getLsbD_xor, BitVec.getLsbD_shiftLeft, BitVec.getLsbD_shiftLeft, BitVec.getLsbD_and, bv_255, BitVec.getLsbD_allOnes]
  by_cases e : c = b
  · subst e
    rw [if_pos rfl, BitVec.getLsbD_extractLsb', show 8 * c + i - 8 * c = i by omega, decide_eq_true hi, decide_eq_true (show 8 * c + i < 64 by omega), decide_eq_false (show ¬ 8 * c + i < 8 * c by omega), Nat.zero_add]
    simp
  · rw [if_neg e, BitVec.getLsbD_extractLsb', decide_eq_true hi, decide_eq_true (show 8 * c + i < 64 by omega)]
    rcases Nat.lt_or_gt_of_ne e with l | l
    · rw [decide_eq_true (show 8 * c + i < 8 * b by omega)]
      simp
    · rw [decide_eq_false (show ¬ 8 * c + i - 8 * b < 8 by omega)]
      simp
theorem low8 (v : Int32) : ((v.toInt64.toBitVec.extractLsb' 0 8).toNat : Int) = v.toInt % 256 := by
  rw [BitVec.extractLsb'_toNat]
  have h2 : v.toInt64.toInt = v.toInt := Int32.toInt_toInt64 v
  have h3 : v.toInt64.toBitVec.toInt = v.toInt := h2
  rw [BitVec.toInt_eq_toNat_cond] at h3
  have := v.toInt64.toBitVec.isLt
  rw [Nat.shiftRight_zero]
  split at h3 <;> omega
theorem set_b {F G : Nat → Int64} {k c : Nat} {y v : Int32} (hc : c < 8) (hy : y.toInt = 8 * (c : Int)) (e : G = vp_updL F k ((F k &&& (255 <<< (y.toInt64 &&& 63) ^^^ (-1))) ||| ((v.toInt64 &&& 255) <<< (y.toInt64 &&& 63)))) (q : Nat) : bF G q = if q = 8 * k + c then v.toInt % 256 else bF F q := by
  have hs := sh_lit hc hy
  unfold bF
  by_cases a : q / 8 = k
  · have e2 : G (q / 8) = (F k &&& (255 <<< (y.toInt64 &&& 63) ^^^ (-1))) ||| ((v.toInt64 &&& 255) <<< (y.toInt64 &&& 63)) := by
      rw [e]; unfold vp_updL; rw [if_pos a]
    have e3 : (G (q / 8)).toBitVec = ((F k).toBitVec &&& ((255#64 <<< (8 * c)) ^^^ BitVec.allOnes 64)) ||| ((v.toInt64.toBitVec &&& 255#64) <<< (8 * c)) := by
      rw [e2, Int64.toBitVec_or, Int64.toBitVec_and, Int64.toBitVec_xor, Int64.toBitVec_shiftLeft, Int64.toBitVec_shiftLeft, BitVec.shiftLeft_eq', BitVec.shiftLeft_eq', hs, Int64.toBitVec_and]
      rfl
    rw [e3, bv_set _ _ hc (Nat.mod_lt q (by decide))]
    by_cases d : q % 8 = c
    · rw [if_pos d, if_pos (by omega)]; exact low8 v
    · rw [if_neg d, if_neg (by omega), a]
  · have e2 : G (q / 8) = F (q / 8) := by
      rw [e]; unfold vp_updL; rw [if_neg a]
    rw [e2, if_neg (by omega)]
/-- byte p of a row of bytes -/
def imC (f : Nat → Int32) (p : Nat) : Int := (f p).toInt % 256
theorem imC_rng (f : Nat → Int32) (p : Nat) : 0 ≤ imC f p ∧ imC f p ≤ 255 := by
  unfold imC; omega
theorem nar_mod (v : Int32) : (vp_nar .byte v).toInt % 256 = v.toInt % 256 := by
  show (v.toInt8.toInt32).toInt % 256 = _
  rw [Int8.toInt_toInt32, Int32.toInt_toInt8]
  have h := i_rng v
  unfold Int.bmod
  rw [show ((2 ^ 8 : Nat) : Int) = 256 from rfl]
  dsimp only
  split <;> omega
theorem i_shv {a s : Int32} {k : Nat} (hs : s.toInt = k) (hk : k < 32) : (a >>> (s &&& 31)).toInt = a.toInt / ((2 ^ k : Nat) : Int) := by
  have h : s = Int32.ofNat k := Int32.toInt_inj.mp (by rw [hs, Int32.toInt_ofNat_of_lt (by omega)])
  have e : ∀ k, k < 32 → ∀ a : Int32, (a >>> (Int32.ofNat k &&& 31)).toInt = a.toInt / ((2 ^ k : Nat) : Int) := by
    intro k hk a
    have hb : ((Int32.ofNat k &&& 31).toBitVec.smod 32).toNat = k := by
      revert k
      decide
    show ((a >>> (Int32.ofNat k &&& 31)).toBitVec).toInt = _
    rw [Int32.toBitVec_shiftRight]
    show (a.toBitVec.sshiftRight ((Int32.ofNat k &&& 31).toBitVec.smod 32).toNat).toInt = _
    rw [hb, BitVec.toInt_sshiftRight, Int.shiftRight_eq_div_pow]
    rfl
  rw [h]
  exact e k hk a
