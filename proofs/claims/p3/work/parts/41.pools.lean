/-- a pool: cells for every k below m -/
def PL (C : Nat → va_W) (m : Nat) : va_W := (List.range m).flatMap C
def PO (C : Nat → va_W) (m k : Nat) : va_W := ((List.range m).erase k).flatMap C
theorem PO_congr {C C' : Nat → va_W} {m k : Nat} (h : ∀ j, j ≠ k → j < m → C' j = C j) : PO C' m k = PO C m k := by
  unfold PO
  rw [List.flatMap_def, List.flatMap_def]
  congr 1
  apply List.map_congr_left
  intro j hj
  rw [List.nodup_range.mem_erase_iff, List.mem_range] at hj
  exact h j hj.1 hj.2
theorem PL_take {C : Nat → va_W} {m k : Nat} (h : k < m) : (PL C m).Perm (C k ++ PO C m k) := by
  have h1 : (List.range m).Perm (k :: (List.range m).erase k) := List.perm_cons_erase (List.mem_range.mpr h)
  have h2 := h1.flatMap_right C
  rw [List.flatMap_cons] at h2
  exact h2
theorem PL_push {C C' : Nat → va_W} {m : Nat} (h : ∀ j, j < m → C' j = C j) : (PL C m ++ C' m).Perm (PL C' (m + 1)) := by
  unfold PL
  rw [List.range_succ, List.flatMap_append, List.flatMap_cons, List.flatMap_nil, List.append_nil]
  have e : (List.range m).flatMap C' = (List.range m).flatMap C := by
    rw [List.flatMap_def, List.flatMap_def]
    congr 1
    apply List.map_congr_left
    intro j hj
    exact h j (List.mem_range.mp hj)
  rw [e]
theorem PL_get {C : Nat → va_W} {m k i : Nat} {c : Nat × va_E} (h : k < m) (hi : (C k)[i]? = some c) : ∃ j : Nat, (PL C m)[j]? = some c := by
  have : c ∈ PL C m := (PL_take h).mem_iff.mpr (List.mem_append_left _ (List.mem_of_getElem? hi))
  exact List.getElem?_of_mem this
section PL1
variable {D : va_G} {A : Nat → Prop} {X Y Z : va_W} {C C' : Nat → va_W} {m k : Nat} {H : Heap}
theorem pl_take (hP : va_P D CL (X ++ PL C m) H) (hD : va_D A (X ++ PL C m)) (h : k < m) : va_P D CL ((X ++ C k) ++ PO C m k) H ∧ va_D A ((X ++ C k) ++ PO C m k) := by
  have hp : (X ++ PL C m).Perm ((X ++ C k) ++ PO C m k) := by
    rw [List.append_assoc]
    exact (PL_take h).append_left X
  exact ⟨hP.perm hp, hD.perm hp⟩
theorem pl_give (hP : va_P D CL ((X ++ C' k) ++ PO C m k) H) (hD : va_D A ((X ++ C' k) ++ PO C m k)) (h : k < m) (hc : ∀ j, j ≠ k → j < m → C' j = C j) : va_P D CL (X ++ PL C' m) H ∧ va_D A (X ++ PL C' m) := by
  have hp : ((X ++ C' k) ++ PO C m k).Perm (X ++ PL C' m) := by
    rw [List.append_assoc, ← PO_congr hc]
    exact (PL_take h).symm.append_left X
  exact ⟨hP.perm hp, hD.perm hp⟩
theorem pl_push (hP : va_P D CL ((X ++ C' m) ++ PL C m) H) (hD : va_D A ((X ++ C' m) ++ PL C m)) (hc : ∀ j, j < m → C' j = C j) : va_P D CL (X ++ PL C' (m + 1)) H ∧ va_D A (X ++ PL C' (m + 1)) := by
  have hp : ((X ++ C' m) ++ PL C m).Perm (X ++ PL C' (m + 1)) := by
    rw [List.append_assoc]
    exact (List.perm_append_comm.trans (PL_push hc)).append_left X
  exact ⟨hP.perm hp, hD.perm hp⟩
end PL1
/-- a value at k -/
def upK {α : Type} (f : Nat → α) (k : Nat) (v : α) : Nat → α := fun j => if j = k then v else f j
theorem upK_at {α : Type} {f : Nat → α} {k : Nat} {v : α} : upK f k v k = v := if_pos rfl
theorem upK_off {α : Type} {f : Nat → α} {k j : Nat} {v : α} (h : j ≠ k) : upK f k v j = f j := if_neg h
/-- rows of references, the first m made -/
def rowF (a : Nat → Nat → Nat) (m : Nat) : Nat → Option Nat := fun k => if k < m then some (a k 0) else none
theorem rowF_some {a : Nat → Nat → Nat} {m k : Nat} (h : k < m) : rowF a m k = some (a k 0) := if_pos h
theorem rowF_none {a : Nat → Nat → Nat} {m k : Nat} (h : ¬ k < m) : rowF a m k = none := if_neg h
theorem rowF_push {a b : Nat → Nat → Nat} {m i q : Nat} (hi : i = m) (h : b = upK a m (fun j => b m j)) (hq : b m 0 = q) : va_up (rowF a m) i (some q) = rowF b (m + 1) := by
  funext k
  subst hi
  unfold va_up rowF
  by_cases e : k = i
  · rw [if_pos e, if_pos (by omega), e, hq]
  · rw [if_neg e]
    by_cases h2 : k < i
    · rw [if_pos h2, if_pos (by omega), h, upK_off e]
    · rw [if_neg h2, if_neg (by omega)]
/-- the cells of a row that was read -/
def FCv (cB : ClassId) (a : Nat → Nat) (v : Nat → Int32) (c : Nat → Nat → Int32) : va_W :=
  [(a 0, .inr (2, [.ref (a 1), .ref (a 2), .int (v 0), .int (v 1), .int (v 2), .int (v 3), .int (v 4), .int (v 5), .int (v 6), .int (v 7), .int (v 8), .int (v 9), .int (v 10)])), (a 1, .inl (cB, 60, .inl (c 1))), (a 2, .inl (cB, 400, .inl (c 2)))]
def FC (cB : ClassId) (a : Nat → Nat → Nat) (g : Nat → Nat → Int32) (cf : Nat → Nat → Nat → Int32) (k : Nat) : va_W := FCv cB (a k) (g k) (cf k)
theorem FC_off {cB : ClassId} {a a' : Nat → Nat → Nat} {g g' : Nat → Nat → Int32} {cf cf' : Nat → Nat → Nat → Int32} {k j : Nat} {x : Nat → Nat} {v : Nat → Int32} {c : Nat → Nat → Int32} (ha : a' = upK a k x) (hg : g' = upK g k v) (hc : cf' = upK cf k c) (h : j ≠ k) : FC cB a' g' cf' j = FC cB a g cf j := by
  unfold FC; rw [ha, hg, hc, upK_off h, upK_off h, upK_off h]
/-- what holds of the rows that were read: 2 sort, 3 size, 4 sector, 8 the name's length, 9 the target's -/
def ROK (L : Int) (n : Int) (g : Nat → Nat → Int32) : Prop := ∀ k : Nat, (k : Int) < n → ((g k 2).toInt = 0 → 0 < (g k 3).toInt ∧ 0 ≤ (g k 4).toInt ∧ (g k 4).toInt * 2048 + (g k 3).toInt ≤ L) ∧ (0 ≤ (g k 8).toInt ∧ (g k 8).toInt ≤ 60) ∧ 0 ≤ (g k 9).toInt ∧ (g k 9).toInt ≤ 400
/-- of them between calls -/
def ROn (n : Int) (g : Nat → Nat → Int32) : Prop := ∀ k : Nat, (k : Int) < n → (0 ≤ (g k 8).toInt ∧ (g k 8).toInt ≤ 60) ∧ 0 ≤ (g k 9).toInt ∧ (g k 9).toInt ≤ 400
theorem ROK.on {L n : Int} {g : Nat → Nat → Int32} (h : ROK L n g) : ROn n g := fun k hk => (h k hk).2
theorem ROK_upd {L n : Int} {g g' : Nat → Nat → Int32} {k : Nat} {v : Nat → Int32} (h : ROK L n g) (e : g' = upK g k v) (hv : (k : Int) < n → ((v 2).toInt = 0 → 0 < (v 3).toInt ∧ 0 ≤ (v 4).toInt ∧ (v 4).toInt * 2048 + (v 3).toInt ≤ L) ∧ (0 ≤ (v 8).toInt ∧ (v 8).toInt ≤ 60) ∧ 0 ≤ (v 9).toInt ∧ (v 9).toInt ≤ 400) : ROK L n g' := fun j hj => by
  by_cases ej : j = k
  · subst ej; rw [e, upK_at]; exact hv hj
  · rw [e, upK_off ej]; exact h j hj
theorem ROK_push {L n n' : Int} {g g' : Nat → Nat → Int32} {k : Nat} {v : Nat → Int32} (h : ROK L n g) (e : g' = upK g k v) (hk : (k : Int) = n) (hn : n' = n + 1) (hv : ((v 2).toInt = 0 → 0 < (v 3).toInt ∧ 0 ≤ (v 4).toInt ∧ (v 4).toInt * 2048 + (v 3).toInt ≤ L) ∧ (0 ≤ (v 8).toInt ∧ (v 8).toInt ≤ 60) ∧ 0 ≤ (v 9).toInt ∧ (v 9).toInt ≤ 400) : ROK L n' g' := fun j hj => by
  by_cases ej : j = k
  · subst ej; rw [e, upK_at]; exact hv
  · rw [e, upK_off ej]; exact h j (by omega)
/-- a record that was found right -/
def RecC (f : Nat → Int32) (L x : Int32) : Prop := (atB f L (x + 25)).toInt = 2 → 0 < (low4B f L (x + 10)).toInt ∧ 0 ≤ (low4B f L (x + 2)).toInt ∧ (low4B f L (x + 2)).toInt * 2048 + (low4B f L (x + 10)).toInt ≤ L.toInt
theorem FC_off2 {cB : ClassId} {a : Nat → Nat → Nat} {g g' : Nat → Nat → Int32} {cf cf' : Nat → Nat → Nat → Int32} {k j : Nat} {v : Nat → Int32} {c : Nat → Nat → Int32} (hg : g' = upK g k v) (hc : cf' = upK cf k c) (h : j ≠ k) : FC cB a g' cf' j = FC cB a g cf j := by
  unfold FC; rw [hg, hc, upK_off h, upK_off h]
def v11 (x0 x1 x2 x3 x4 x5 x6 x7 x8 x9 x10 : Int32) : Nat → Int32 := fun n => match n with
  | 0 => x0
  | 1 => x1
  | 2 => x2
  | 3 => x3
  | 4 => x4
  | 5 => x5
  | 6 => x6
  | 7 => x7
  | 8 => x8
  | 9 => x9
  | _ => x10
def ad3 (x0 x1 x2 : Nat) : Nat → Nat := fun n => match n with
  | 0 => x0
  | 1 => x1
  | _ => x2
def c12 (f1 f2 : Nat → Int32) : Nat → Nat → Int32 := fun n => match n with
  | 1 => f1
  | _ => f2
theorem i_narB {v : Int32} (h : -128 ≤ v.toInt ∧ v.toInt ≤ 127) : narrow .byte (.int v) = .int v := by
  have h2 : v.toInt8.toInt32 = v := by
    refine Int32.toInt_inj.mp ?_
    rw [Int8.toInt_toInt32, Int32.toInt_toInt8, Int.bmod_eq_of_le (by omega) (by omega)]
  show Value.int v.toInt8.toInt32 = .int v
  rw [h2]
theorem Rg_cpy {f g : Nat → Int32} {x n m : Nat} {lo hi : Int} (hf : Rg lo hi m f) (hg : ∀ k, lo ≤ (g k).toInt ∧ (g k).toInt ≤ hi) (h : x + n ≤ m) (N' : Nat) : Rg lo hi N' (va_cpy f g x 0 n) := fun k hk => by
  unfold va_cpy
  split
  · exact hf _ (by omega)
  · exact hg k
/-- the cells of a node: 0 sort, 1 number, 2 parent, 3 above, 4 mode, 5 owner, 6 group, 7 size, 8 seed; rows 1 name, 2 key, 3 target -/
def NCv (cB : ClassId) (a : Nat → Nat) (v : Nat → Int32) (n : Nat → Nat) (c : Nat → Nat → Int32) : va_W :=
  [(a 0, .inr (5, [.int (v 0), .ref (a 1), .ref (a 2), .ref (a 3), .int (v 1), .int (v 2), .int (v 3), .int (v 4), .int (v 5), .int (v 6), .int (v 7), .int (v 8)])), (a 1, .inl (cB, n 1, .inl (c 1))), (a 2, .inl (cB, 11, .inl (c 2))), (a 3, .inl (cB, n 3, .inl (c 3)))]
def NC (cB : ClassId) (a : Nat → Nat → Nat) (g : Nat → Nat → Int32) (n : Nat → Nat → Nat) (cf : Nat → Nat → Nat → Int32) (k : Nat) : va_W := NCv cB (a k) (g k) (n k) (cf k)
theorem NC_off {cB : ClassId} {a a' : Nat → Nat → Nat} {g g' : Nat → Nat → Int32} {n n' : Nat → Nat → Nat} {cf cf' : Nat → Nat → Nat → Int32} {k j : Nat} {x : Nat → Nat} {v : Nat → Int32} {y : Nat → Nat} {c : Nat → Nat → Int32} (ha : a' = upK a k x) (hg : g' = upK g k v) (hn : n' = upK n k y) (hc : cf' = upK cf k c) (h : j ≠ k) : NC cB a' g' n' cf' j = NC cB a g n cf j := by
  unfold NC; rw [ha, hg, hn, hc, upK_off h, upK_off h, upK_off h, upK_off h]
theorem NC_off2 {cB : ClassId} {a : Nat → Nat → Nat} {g g' : Nat → Nat → Int32} {n : Nat → Nat → Nat} {cf : Nat → Nat → Nat → Int32} {k j : Nat} {v : Nat → Int32} (hg : g' = upK g k v) (h : j ≠ k) : NC cB a g' n cf j = NC cB a g n cf j := by
  unfold NC; rw [hg, upK_off h]
def v9 (x0 x1 x2 x3 x4 x5 x6 x7 x8 : Int32) : Nat → Int32 := fun n => match n with
  | 0 => x0
  | 1 => x1
  | 2 => x2
  | 3 => x3
  | 4 => x4
  | 5 => x5
  | 6 => x6
  | 7 => x7
  | _ => x8
def ad4 (x0 x1 x2 x3 : Nat) : Nat → Nat := fun n => match n with
  | 0 => x0
  | 1 => x1
  | 2 => x2
  | _ => x3
def c123 (f1 f2 f3 : Nat → Int32) : Nat → Nat → Int32 := fun n => match n with
  | 1 => f1
  | 2 => f2
  | _ => f3
/-- what holds of the nodes -/
def TOK (m : Nat) (g : Nat → Nat → Int32) (n : Nat → Nat → Nat) : Prop := ∀ k : Nat, k < m → (0 ≤ (g k 0).toInt ∧ (g k 0).toInt ≤ 2) ∧ (g k 1).toInt = k ∧ (0 ≤ (g k 2).toInt ∧ (g k 2).toInt < m) ∧ (0 ≤ (g k 7).toInt ∧ (g k 7).toInt ≤ 4100) ∧ n k 1 ≤ 400 ∧ n k 3 ≤ 400
theorem TOK_push {m k : Nat} {g g' : Nat → Nat → Int32} {n n' : Nat → Nat → Nat} {v : Nat → Int32} {y : Nat → Nat} (h : TOK m g n) (hk : k = m) (eg : g' = upK g k v) (en : n' = upK n k y) (hv : (0 ≤ (v 0).toInt ∧ (v 0).toInt ≤ 2) ∧ (v 1).toInt = m ∧ (0 ≤ (v 2).toInt ∧ (v 2).toInt < m) ∧ (0 ≤ (v 7).toInt ∧ (v 7).toInt ≤ 4100) ∧ y 1 ≤ 400 ∧ y 3 ≤ 400) : TOK (m + 1) g' n' := fun j hj => by
  subst hk
  by_cases e : j = k
  · subst e
    rw [eg, en, upK_at, upK_at]
    omega
  · rw [eg, en, upK_off e, upK_off e]
    have := h j (by omega)
    omega
theorem TOK_upd {m k : Nat} {g g' : Nat → Nat → Int32} {n : Nat → Nat → Nat} {v : Nat → Int32} (h : TOK m g n) (eg : g' = upK g k v) (hv : v 0 = g k 0 ∧ v 1 = g k 1 ∧ v 2 = g k 2 ∧ v 7 = g k 7) : TOK m g' n := fun j hj => by
  by_cases e : j = k
  · subst e
    rw [eg, upK_at, hv.1, hv.2.1, hv.2.2.1, hv.2.2.2]
    exact h j hj
  · rw [eg, upK_off e]
    exact h j hj
