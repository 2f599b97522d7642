theorem i_rng (a : Int32) : -2147483648 ≤ a.toInt ∧ a.toInt ≤ 2147483647 := ⟨a.le_toInt, by have := a.toInt_lt; omega⟩
theorem i_bm {x : Int} (h1 : -2147483648 ≤ x) (h2 : x ≤ 2147483647) : x.bmod (2 ^ 32) = x := by
  rw [Int.bmod_eq_of_le (by omega) (by omega)]
theorem i_add {a b : Int32} {x y : Int} (ha : a.toInt = x) (hb : b.toInt = y) (h1 : -2147483648 ≤ x + y) (h2 : x + y ≤ 2147483647) : (a + b).toInt = x + y := by
  rw [Int32.toInt_add, ha, hb, i_bm h1 h2]
theorem i_sub {a b : Int32} {x y : Int} (ha : a.toInt = x) (hb : b.toInt = y) (h1 : -2147483648 ≤ x - y) (h2 : x - y ≤ 2147483647) : (a - b).toInt = x - y := by
  rw [Int32.toInt_sub, ha, hb, i_bm h1 h2]
theorem i_mul {a b : Int32} {x y : Int} (ha : a.toInt = x) (hb : b.toInt = y) (h1 : -2147483648 ≤ x * y) (h2 : x * y ≤ 2147483647) : (a * b).toInt = x * y := by
  rw [Int32.toInt_mul, ha, hb, i_bm h1 h2]
theorem i_neg {a : Int32} {x : Int} (ha : a.toInt = x) (h1 : x ≠ -2147483648) : (-a).toInt = -x := by
  have := i_rng a
  rw [Int32.toInt_neg, ha, i_bm (by omega) (by omega)]
theorem i_div {a b : Int32} {x y : Int} (ha : a.toInt = x) (hb : b.toInt = y) (h1 : 0 ≤ x) (h2 : 0 < y) : (a / b).toInt = x / y := by
  have h3 := i_rng a
  have h4 : x / y ≤ x := Int.ediv_le_self y h1
  have h5 : 0 ≤ x / y := Int.ediv_nonneg h1 (by omega)
  rw [Int32.toInt_div, ha, hb, Int.tdiv_eq_ediv_of_nonneg h1, i_bm (by omega) (by omega)]
theorem i_rem {a b : Int32} {x y : Int} (ha : a.toInt = x) (hb : b.toInt = y) (h1 : 0 ≤ x) (h2 : 0 < y) : (a - a / b * b).toInt = x % y := by
  have h3 := i_rng a
  have h4 : 0 ≤ x % y := Int.emod_nonneg x (by omega)
  have h5 : x / y * y + x % y = x := Int.ediv_mul_add_emod x y
  have h6 : 0 ≤ x / y * y := Int.mul_nonneg (Int.ediv_nonneg h1 (by omega)) (by omega)
  have h7 : (a / b * b).toInt = x / y * y := i_mul (i_div ha hb h1 h2) hb (by omega) (by omega)
  rw [i_sub ha h7 (by omega) (by omega)]
  omega
theorem i_lt {a b : Int32} {x y : Int} (ha : a.toInt = x) (hb : b.toInt = y) : a < b ↔ x < y := by rw [Int32.lt_iff_toInt_lt, ha, hb]
theorem i_le {a b : Int32} {x y : Int} (ha : a.toInt = x) (hb : b.toInt = y) : a ≤ b ↔ x ≤ y := by rw [Int32.le_iff_toInt_le, ha, hb]
theorem i_eq {a b : Int32} {x y : Int} (ha : a.toInt = x) (hb : b.toInt = y) : a = b ↔ x = y := by rw [← Int32.toInt_inj, ha, hb]
theorem i_cl {a : Int32} (h : 0 ≤ a.toInt) : (a.toNatClampNeg : Int) = a.toInt := by
  rw [Int32.toNatClampNeg]; omega
theorem i_b (a : Int32) : -128 ≤ a.toInt8.toInt32.toInt ∧ a.toInt8.toInt32.toInt ≤ 127 := by
  have h := a.toInt8.le_toInt
  have h2 := a.toInt8.toInt_lt
  rw [Int8.toInt_toInt32]; omega
theorem i_tn {a : Int32} (h : a.toBitVec.toNat < 2147483648) : a.toInt = a.toBitVec.toNat := by
  show a.toBitVec.toInt = _
  rw [BitVec.toInt_eq_toNat_of_lt (by omega)]
theorem i_and {a b : Int32} {y : Int} (hb : b.toInt = y) (h : 0 ≤ y) : 0 ≤ (a &&& b).toInt ∧ (a &&& b).toInt ≤ y := by
  have h1 : b.toBitVec.toNat < 2147483648 := by
    have h2 : b.toBitVec.toInt = y := hb
    rw [BitVec.toInt_eq_toNat_cond] at h2
    have := b.toBitVec.isLt
    split at h2 <;> omega
  have h3 : (a &&& b).toBitVec.toNat ≤ b.toBitVec.toNat := by
    rw [Int32.toBitVec_and, BitVec.toNat_and]; exact Nat.and_le_right
  rw [i_tn (a := a &&& b) (by omega)]
  rw [i_tn h1] at hb
  omega
theorem l_bm {x : Int} (h1 : -9223372036854775808 ≤ x) (h2 : x ≤ 9223372036854775807) : x.bmod (2 ^ 64) = x := by
  rw [Int.bmod_eq_of_le (by omega) (by omega)]
theorem l_add {a b : Int64} {x y : Int} (ha : a.toInt = x) (hb : b.toInt = y) (h1 : -9223372036854775808 ≤ x + y) (h2 : x + y ≤ 9223372036854775807) : (a + b).toInt = x + y := by
  rw [Int64.toInt_add, ha, hb, l_bm h1 h2]
theorem l_mul {a b : Int64} {x y : Int} (ha : a.toInt = x) (hb : b.toInt = y) (h1 : -9223372036854775808 ≤ x * y) (h2 : x * y ≤ 9223372036854775807) : (a * b).toInt = x * y := by
  rw [Int64.toInt_mul, ha, hb, l_bm h1 h2]
theorem l_i {a : Int32} {x : Int} (ha : a.toInt = x) : a.toInt64.toInt = x := by rw [Int32.toInt_toInt64, ha]
theorem l_rng (a : Int64) : -9223372036854775808 ≤ a.toInt ∧ a.toInt ≤ 9223372036854775807 := ⟨a.le_toInt, by have := a.toInt_lt; omega⟩
theorem l_int {a : Int64} {x : Int} (ha : a.toInt = x) (h1 : -2147483648 ≤ x) (h2 : x ≤ 2147483647) : a.toInt32.toInt = x := by
  rw [Int64.toInt_toInt32, ha, Int.bmod_eq_of_le (by omega) (by omega)]
theorem i_and255 (x : Int64) : 0 ≤ ((x &&& 255).toInt32).toInt ∧ ((x &&& 255).toInt32).toInt ≤ 255 := by
  have h0 : (x &&& 255).toBitVec.toNat ≤ 255 := by
    rw [Int64.toBitVec_and, BitVec.toNat_and]; exact Nat.and_le_right
  have h1 : (x &&& 255).toInt = (x &&& 255).toBitVec.toNat := by
    show (x &&& 255).toBitVec.toInt = _
    rw [BitVec.toInt_eq_toNat_of_lt (by omega)]
  rw [l_int h1 (by omega) (by omega)]
  omega
theorem i_bsmall {w : Int32} (h : 0 ≤ w.toInt ∧ w.toInt ≤ 127) : w.toInt8.toInt32 = w := by
  refine Int32.toInt_inj.mp ?_
  rw [Int8.toInt_toInt32, Int32.toInt_toInt8, Int.bmod_eq_of_le (by omega) (by omega)]
theorem i_and255s {w : Int32} (h : 0 ≤ w.toInt ∧ w.toInt ≤ 127) : (w &&& 255).toInt = w.toInt := by
  have h1 : w.toBitVec.toNat < 128 := by
    have h2 : w.toBitVec.toInt = w.toInt := rfl
    rw [BitVec.toInt_eq_toNat_cond] at h2
    have := w.toBitVec.isLt
    split at h2 <;> omega
  have h3 : (w &&& 255).toBitVec.toNat = w.toBitVec.toNat := by
    rw [Int32.toBitVec_and, BitVec.toNat_and]
    show w.toBitVec.toNat &&& 255 = _
    exact (Nat.and_two_pow_sub_one_eq_mod w.toBitVec.toNat 8).trans (Nat.mod_eq_of_lt (by omega))
  rw [i_tn (by omega), i_tn (a := w) (by omega), h3]
/-- all values of a row within lo .. hi -/
def Rg (lo hi : Int) (n : Nat) (f : Nat → Int32) : Prop := ∀ j, j < n → lo ≤ (f j).toInt ∧ (f j).toInt ≤ hi
/-- pigeons -/
theorem z_pig (n : Nat) : ∀ (v : Nat) (g : Nat → Nat), (∀ i, i < v → g i < n) → (∀ i j, i < v → j < v → g i = g j → i = j) → v ≤ n := by
  induction n with
  | zero =>
    intro v g h _
    rcases Nat.eq_zero_or_pos v with rfl | hv
    · exact Nat.le_refl _
    · exact absurd (h 0 hv) (by omega)
  | succ n ih =>
    intro v g h hi
    by_cases hx : ∃ i, i < v ∧ g i = n
    · obtain ⟨i, hiv, hgi⟩ := hx
      have := ih (v - 1) (fun k => g (if k < i then k else k + 1)) (fun k hk => by
        have hb : (if k < i then k else k + 1) < v := by split <;> omega
        have h1 := h _ hb
        have h2 : g (if k < i then k else k + 1) ≠ n := fun e => by
          have := hi _ _ hb hiv (e.trans hgi.symm)
          split at this <;> omega
        show g (if k < i then k else k + 1) < n
        omega) (fun a b ha hb he => by
        have e := hi _ _ (by split <;> omega) (by split <;> omega) he
        split at e <;> split at e <;> omega)
      omega
    · have := ih v g (fun k hk => by
        have h1 := h k hk
        have h2 : g k ≠ n := fun e => hx ⟨k, hk, e⟩
        omega) hi
      omega

theorem i_shr {a b : Int32} {x d : Int} {k : Nat} (ha : a.toInt = x) (hk : ((b &&& 31).toBitVec.smod 32).toNat = k) (hd : ((2 ^ k : Nat) : Int) = d) : (a >>> (b &&& 31)).toInt = x / d := by
  rw [pk_shr a (b &&& 31) k hk, ha, Int.shiftRight_eq_div_pow, hd]
theorem l_cmp {a b : Int64} {x y : Int} (ha : a.toInt = x) (hb : b.toInt = y) : ((lg_cmp a b).toInt = 1 ∧ y < x) ∨ ((lg_cmp a b).toInt = 0 ∧ x = y) ∨ ((lg_cmp a b).toInt = -1 ∧ x < y) := by
  unfold lg_cmp
  split
  · rename_i h
    have h : b < a := h
    rw [Int64.lt_iff_toInt_lt, ha, hb] at h
    exact Or.inl ⟨by decide, h⟩
  · rename_i h
    have h : ¬ b < a := h
    rw [Int64.lt_iff_toInt_lt, ha, hb] at h
    split
    · rename_i h2
      rw [← Int64.toInt_inj, ha, hb] at h2
      exact Or.inr (Or.inl ⟨by decide, h2⟩)
    · rename_i h2
      rw [← Int64.toInt_inj, ha, hb] at h2
      exact Or.inr (Or.inr ⟨by decide, by omega⟩)
theorem i_01 {v : Int32} (h : 0 ≤ v.toInt ∧ v.toInt ≤ 1) : v = 0 ∨ v = 1 := by
  rcases (show v.toInt = 0 ∨ v.toInt = 1 by omega) with h | h
  · exact Or.inl (Int32.toInt_inj.mp (by rw [h]; decide))
  · exact Or.inr (Int32.toInt_inj.mp (by rw [h]; decide))
theorem i_narZ {v : Int32} (h : 0 ≤ v.toInt ∧ v.toInt ≤ 1) : narrow .boolean (.int v) = .int v := by
  rcases i_01 h with rfl | rfl <;> rfl
theorem i_fitZ {v : Int32} (h : 0 ≤ v.toInt ∧ v.toInt ≤ 1) : fits .boolean (.int v) = true := by
  rcases i_01 h with rfl | rfl <;> rfl
theorem Rg_upd {lo hi : Int} {n i : Nat} {x : Int32} {f f2 : Nat → Int32} (e : f2 = upd f i x) (h : Rg lo hi n f) (h1 : lo ≤ x.toInt) (h2 : x.toInt ≤ hi) : Rg lo hi n f2 := fun j hj => by
  rw [e]; unfold upd; split
  · exact ⟨h1, h2⟩
  · exact h j hj
theorem Rg_updB {lo hi : Int} {n i : Nat} {x : Int32} {f f2 : Nat → Int32} (e : f2 = upd f i (vp_nar .byte x)) (h : Rg lo hi n f) (h1 : lo ≤ -128) (h2 : 127 ≤ hi) : Rg lo hi n f2 := by
  have h3 : (-128) ≤ (vp_nar .byte x).toInt ∧ (vp_nar .byte x).toInt ≤ 127 := i_b x
  exact Rg_upd e h (by omega) (by omega)
theorem Rg_updZ {lo hi : Int} {n i : Nat} {x : Int32} {f f2 : Nat → Int32} (e : f2 = upd f i (vp_nar .boolean x)) (h : Rg lo hi n f) (h1 : lo ≤ 0) (h2 : 1 ≤ hi) : Rg lo hi n f2 := by
  have h3 : 0 ≤ (vp_nar .boolean x).toInt ∧ (vp_nar .boolean x).toInt ≤ 1 := i_and (a := x) (b := 1) (y := 1) (by decide) (by decide)
  exact Rg_upd e h (by omega) (by omega)
theorem Rg_mono {lo hi lo2 hi2 : Int} {n : Nat} {f : Nat → Int32} (h : Rg lo hi n f) (h1 : lo2 ≤ lo) (h2 : hi ≤ hi2) : Rg lo2 hi2 n f := fun j hj => ⟨by have := h j hj; omega, by have := h j hj; omega⟩
section ZZ4
variable {p : Program} {l : Launch} {e : Env} {R : Room} {s : State} {m : MethodId} {args : Array Value} {below : List Frame} {meth : Method} {c : Code} {H : Heap} {locs : List Loc} {cells slots : Nat} {Q : State → Prop}
variable {cc : ByteArray} {pc : Nat} {ls : Array Slot} {rest : List Value} {D : va_G} {cl : List vw_C} {A : Nat → Prop} {a : Nat} {tys : List (ClassId × FieldType)} {ws : va_W} {H0 : Heap}
/-- a place that is come to from several others, or again -/
theorem zz_lab {P : Nat → Heap → List Loc → Array Slot → List Value → Prop} {g : JFrame} (pcL : Nat)
    (body : ∀ n : Nat, (∀ k : Nat, k < n → ∀ (H : Heap) (locs : List Loc) (ls : Array Slot) (st : List Value), P k H locs ls st → W p l e R s m args below meth c H locs cells slots Q (F0 m pcL ls st)) → ∀ (H : Heap) (locs : List Loc) (ls : Array Slot) (st : List Value), P n H locs ls st → W p l e R s m args below meth c H locs cells slots Q (F0 m pcL ls st))
    (rest : (∀ (n : Nat) (H : Heap) (locs : List Loc) (ls : Array Slot) (st : List Value), P n H locs ls st → W p l e R s m args below meth c H locs cells slots Q (F0 m pcL ls st)) → W p l e R s m args below meth c H locs cells slots Q g) : W p l e R s m args below meth c H locs cells slots Q g :=
  rest (fun n => Nat.strongRecOn n body)
/-- the counters may be set to what the heap says -/
theorem zz_tight {k n : Nat} {g : JFrame} (hk : H.size ≤ s.heap.size + k) (hn : ((H.toList.drop s.heap.size).map (fun x => x.slots.size)).sum ≤ n) (w : W p l e R s m args below meth c H locs k n Q g) : W p l e R s m args below meth c H locs cells slots Q g := by
  intro T hT X
  obtain ⟨h1, h2, h3, h4, h5, h6⟩ := X.same
  refine w T hT { X with same := ⟨h1, h2, ?_, h4, ?_, h6⟩ }
  · show T.heap.size ≤ _
    rw [hT]; exact hk
  · show ((T.heap.toList.drop _).map _).sum ≤ _
    rw [hT]; exact hn
theorem zq_iast (hexec : p.tables.exec = Jvm.exec) (hb : c.code = cc) (hK : va_K D cl tys s) (hP : va_P D cl ws H) (hD : va_D A ws) (hS : va_S A H0 H locs) (q0 t0 : Nat) {cA : ClassId} {n : Nat} {f : Nat → Int32} (ha : ws[q0]? = some (a, .inl (cA, n, .inl f))) (ht : tys[t0]? = some (cA, .int)) {i : Int32} {x : Int32} (hin : vp_in i n) (hdg : decode cc pc = .ok (.iastore, 1))
    (kk : ∀ (f2 : Nat → Int32), f2 = upd f i.toNatClampNeg x → ∀ (H1 : Heap) (locs1 : List Loc), va_P D cl (ws.set q0 (a, .inl (cA, n, .inl f2))) H1 → va_D A (ws.set q0 (a, .inl (cA, n, .inl f2))) → va_S A H0 H1 locs1 → W p l e R s m args below meth c H1 locs1 cells slots Q (F0 m (pc + 1) ls rest)) : W p l e R s m args below meth c H locs cells slots Q (F0 m pc ls (.int x :: .int i :: .ref a :: rest)) :=
  va_iast hexec hb hK hP hD hS q0 t0 ha ht hin hdg (fun H1 l1 h1 h2 h3 => kk _ rfl H1 l1 h1 h2 h3)
theorem zq_bast (hexec : p.tables.exec = Jvm.exec) (hb : c.code = cc) (hK : va_K D cl tys s) (hP : va_P D cl ws H) (hD : va_D A ws) (hS : va_S A H0 H locs) (q0 t0 : Nat) {cA : ClassId} {n : Nat} {f : Nat → Int32} (ha : ws[q0]? = some (a, .inl (cA, n, .inl f))) (ht : tys[t0]? = some (cA, .byte)) {i : Int32} {x : Int32} (hin : vp_in i n) (hdg : decode cc pc = .ok (.bastore, 1))
    (kk : ∀ (f2 : Nat → Int32), f2 = upd f i.toNatClampNeg (vp_nar .byte x) → ∀ (H1 : Heap) (locs1 : List Loc), va_P D cl (ws.set q0 (a, .inl (cA, n, .inl f2))) H1 → va_D A (ws.set q0 (a, .inl (cA, n, .inl f2))) → va_S A H0 H1 locs1 → W p l e R s m args below meth c H1 locs1 cells slots Q (F0 m (pc + 1) ls rest)) : W p l e R s m args below meth c H locs cells slots Q (F0 m pc ls (.int x :: .int i :: .ref a :: rest)) :=
  va_bast hexec hb hK hP hD hS q0 t0 ha ht hin hdg (fun H1 l1 h1 h2 h3 => kk _ rfl H1 l1 h1 h2 h3)
theorem zq_zast (hexec : p.tables.exec = Jvm.exec) (hb : c.code = cc) (hK : va_K D cl tys s) (hP : va_P D cl ws H) (hD : va_D A ws) (hS : va_S A H0 H locs) (q0 t0 : Nat) {cA : ClassId} {n : Nat} {f : Nat → Int32} (ha : ws[q0]? = some (a, .inl (cA, n, .inl f))) (ht : tys[t0]? = some (cA, .boolean)) {i : Int32} {x : Int32} (hin : vp_in i n) (hdg : decode cc pc = .ok (.bastore, 1))
    (kk : ∀ (f2 : Nat → Int32), f2 = upd f i.toNatClampNeg (vp_nar .boolean x) → ∀ (H1 : Heap) (locs1 : List Loc), va_P D cl (ws.set q0 (a, .inl (cA, n, .inl f2))) H1 → va_D A (ws.set q0 (a, .inl (cA, n, .inl f2))) → va_S A H0 H1 locs1 → W p l e R s m args below meth c H1 locs1 cells slots Q (F0 m (pc + 1) ls rest)) : W p l e R s m args below meth c H locs cells slots Q (F0 m pc ls (.int x :: .int i :: .ref a :: rest)) :=
  va_zast hexec hb hK hP hD hS q0 t0 ha ht hin hdg (fun H1 l1 h1 h2 h3 => kk _ rfl H1 l1 h1 h2 h3)
theorem zq_last (hexec : p.tables.exec = Jvm.exec) (hb : c.code = cc) (hK : va_K D cl tys s) (hP : va_P D cl ws H) (hD : va_D A ws) (hS : va_S A H0 H locs) (q0 t0 : Nat) {cA : ClassId} {n : Nat} {f : Nat → Int64} (ha : ws[q0]? = some (a, .inl (cA, n, .inr (.inl f)))) (ht : tys[t0]? = some (cA, .long)) {i : Int32} {x : Int64} (hin : vp_in i n) (hdg : decode cc pc = .ok (.lastore, 1))
    (kk : ∀ (f2 : Nat → Int64), f2 = vp_updL f i.toNatClampNeg x → ∀ (H1 : Heap) (locs1 : List Loc), va_P D cl (ws.set q0 (a, .inl (cA, n, .inr (.inl f2)))) H1 → va_D A (ws.set q0 (a, .inl (cA, n, .inr (.inl f2)))) → va_S A H0 H1 locs1 → W p l e R s m args below meth c H1 locs1 cells slots Q (F0 m (pc + 1) ls rest)) : W p l e R s m args below meth c H locs cells slots Q (F0 m pc ls (.long x :: .int i :: .ref a :: rest)) :=
  va_last hexec hb hK hP hD hS q0 t0 ha ht hin hdg (fun H1 l1 h1 h2 h3 => kk _ rfl H1 l1 h1 h2 h3)
end ZZ4
