/-- cells that are only read -/
def RO (D : va_G) (wr : va_W) (A : Nat → Prop) (_ : State) (H : Heap) : Prop := va_P D CL wr H ∧ ∀ (k : Nat) (q : Nat × va_E), wr[k]? = some q → ¬ A q.1
section RO1
variable {D : va_G} {wr w1 w2 X Y ws wc : va_W} {A A0 B : Nat → Prop} {s U : State} {H : Heap} {locs : List Loc}
theorem RO_blind {g : JFrame} {mk : MethodId} {a : Array Value} (h : RO D wr A U U.heap) : RO D wr A (U.calling g mk a) (U.calling g mk a).heap := h
theorem RO_at (h : RO D wr A s s.heap) (hS : va_S A s.heap H locs) : va_P D CL wr H := h.1.kept (fun k q hk => hS.2.1 q.1 (h.1 k q hk).lt (h.2 k q hk))
theorem RO_pass (h : RO D wr A s s.heap) (hS : va_S A s.heap H locs) (hF : ∀ q, B q → A q) (hU : U.heap = H) : RO D wr B U U.heap := by
  rw [hU]; exact ⟨RO_at h hS, fun k q hk hB => h.2 k q hk (hF _ hB)⟩
theorem RO_mono (h : RO D wr A U H) (hF : ∀ q, B q → A q) : RO D wr B U H := ⟨h.1, fun k q hk hB => h.2 k q hk (hF _ hB)⟩
theorem pix {j : Nat} {c : Nat × va_E} (h : Y[j]? = some c) : (X ++ Y)[X.length + j]? = some c := by
  rw [List.getElem?_append_right (Nat.le_add_right _ _), Nat.add_sub_cancel_left]; exact h
theorem RO_by (g : Nat → Nat) (h : RO D wr A U H) (hg : ∀ (k : Nat) (q : Nat × va_E), w1[k]? = some q → wr[g k]? = some q) : RO D w1 A U H :=
  ⟨fun k q hk => h.1 (g k) q (hg k q hk), fun k q hk => h.2 (g k) q (hg k q hk)⟩
theorem RO_one (h : RO D wr A U H) (i : Nat) {c : Nat × va_E} (hi : wr[i]? = some c) : RO D [c] A U H := RO_by (fun _ => i) h (fun k q hk => by
  cases k with
  | zero => cases hk; exact hi
  | succ k => simp at hk)
theorem RO_tail (h : RO D (X ++ Y) A U H) : RO D Y A U H := RO_by (fun k => X.length + k) h (fun _ _ hk => pix hk)
theorem RO_head (h : RO D (X ++ Y) A U H) : RO D X A U H := RO_by id h (fun k q hk => by
  show (X ++ Y)[k]? = some q
  rw [List.getElem?_append_left (List.getElem?_eq_some_iff.mp hk).1]; exact hk)
theorem RO_app (h1 : RO D w1 A U H) (h2 : RO D w2 A U H) : RO D (w1 ++ w2) A U H := ⟨h1.1.app h2.1, fun k q hk => by
  rcases List.mem_append.mp (List.mem_of_getElem? hk) with h | h
  · obtain ⟨i, hi⟩ := List.getElem?_of_mem h
    exact h1.2 i q hi
  · obtain ⟨i, hi⟩ := List.getElem?_of_mem h
    exact h2.2 i q hi⟩
theorem RO_mut (hP : va_P D CL ws H) (hD : va_D A0 ws) (isC : List Nat) (hC : isC.map (fun i => ws[i]?) = wc.map some) (i : Nat) {c : Nat × va_E} (hi : ws[i]? = some c) (hn : i ∉ isC) (hU : U.heap = H) : RO D [c] (va_A wc H.size) U U.heap := by
  rw [hU]
  have h0 : ¬ va_A wc H.size c.1 := fun hA => by
    rcases hA with ⟨k2, e, h⟩ | h
    · obtain ⟨j, h5, h6⟩ := va_in_of isC hC h
      have hij := hD.1 i j c (c.1, e) hi h6 rfl
      subst hij
      exact hn (List.mem_of_getElem? h5)
    · have := (hP i c hi).lt
      omega
  refine ⟨fun k q hk => ?_, fun k q hk => ?_⟩
  · cases k with
    | zero => cases hk; exact hP i _ hi
    | succ k => simp at hk
  · cases k with
    | zero => cases hk; exact h0
    | succ k => simp at hk
/-- the pool itself, for a call that hasn't it -/
theorem RO_pool (hP : va_P D CL (X ++ Y) H) (hD : va_D A0 (X ++ Y)) (isC : List Nat) (hC : isC.map (fun i => X[i]?) = wc.map some) (hU : U.heap = H) : RO D Y (va_A wc H.size) U U.heap := by
  rw [hU]
  refine ⟨fun k q hk => hP _ q (pix hk), fun k q hk hA => ?_⟩
  rcases hA with ⟨k2, e, h⟩ | h
  · obtain ⟨j, h5, h6⟩ := va_in_of isC hC h
    have hj : j < X.length := (List.getElem?_eq_some_iff.mp h6).1
    have h7 : (X ++ Y)[j]? = some (q.1, e) := by rw [List.getElem?_append_left hj]; exact h6
    have hij := hD.1 _ j q (q.1, e) (pix hk) h7 rfl
    omega
  · have := (hP _ q (pix hk)).lt
    omega
theorem RO_T {tys : List (ClassId × FieldType)} {a n t0 : Nat} {cA : ClassId} {f : Nat → Int32} (hK : va_K D CL tys U) (h : RO D wr A U H) (i : Nat) (hi : wr[i]? = some (a, .inl (cA, n, .inl f))) (ht : tys[t0]? = some (cA, .byte)) : va_T .byte a n (fun j => .int (f j)) A U H := by
  have h1 : H[a]? = some (vp_cell cA (n, .inl f)) := h.1 i _ hi
  refine ⟨_, h1, (hK.2 t0 _ ht).1 n (fun j => .int (f j)), (fun h => by cases h), ?_, ?_, fun j hj => ?_, h.2 i _ hi⟩
  · show n ≤ (arrV _ _ _).slots.size
    rw [arrV_size]; exact Nat.le_refl _
  · show (arrV _ _ _).slots.size.toInt32 = _
    rw [arrV_size]
  · show (arrV _ _ _).slots[_]? = _
    rw [arrV_read _ _ hj]
end RO1
/-- worlds in another order -/
theorem va_P.perm {D : va_G} {cl : List vw_C} {w1 w2 : va_W} {H : Heap} (h : va_P D cl w1 H) (hp : w1.Perm w2) : va_P D cl w2 H := fun k q hk => by
  obtain ⟨i, hi⟩ := List.getElem?_of_mem (hp.mem_iff.mpr (List.mem_of_getElem? hk))
  exact h i q hi
theorem va_D.iff {A : Nat → Prop} {w : va_W} : va_D A w ↔ (w.map (fun q => q.1)).Pairwise (fun a b => a ≠ b) ∧ ∀ q ∈ w, A q.1 := by
  constructor
  · intro h
    refine ⟨?_, fun q hq => ?_⟩
    · rw [List.pairwise_iff_getElem]
      intro i j hi hj hij he
      have hi' : i < w.length := by rw [List.length_map] at hi; exact hi
      have hj' : j < w.length := by rw [List.length_map] at hj; exact hj
      rw [List.getElem_map, List.getElem_map] at he
      have := h.1 i j w[i] w[j] (List.getElem?_eq_getElem hi') (List.getElem?_eq_getElem hj') he
      omega
    · obtain ⟨i, hi⟩ := List.getElem?_of_mem hq
      exact h.2 i q hi
  · intro h
    have hn := List.pairwise_iff_getElem.mp h.1
    have key : ∀ (i j : Nat) (p q : Nat × va_E), w[i]? = some p → w[j]? = some q → p.1 = q.1 → ¬ i < j := fun i j p q hi hj he hlt => by
      obtain ⟨hi1, hi2⟩ := List.getElem?_eq_some_iff.mp hi
      obtain ⟨hj1, hj2⟩ := List.getElem?_eq_some_iff.mp hj
      refine hn i j (by rw [List.length_map]; exact hi1) (by rw [List.length_map]; exact hj1) hlt ?_
      rw [List.getElem_map, List.getElem_map, hi2, hj2]
      exact he
    refine ⟨fun i j p q hi hj he => ?_, fun k q hk => h.2 q (List.mem_of_getElem? hk)⟩
    have h1 := key i j p q hi hj he
    have h2 := key j i q p hj hi he.symm
    omega
theorem va_D.perm {A : Nat → Prop} {w1 w2 : va_W} (h : va_D A w1) (hp : w1.Perm w2) : va_D A w2 := by
  rw [va_D.iff] at h ⊢
  exact ⟨((hp.map (fun q => q.1)).pairwise_iff (fun h => Ne.symm h)).mp h.1, fun q hq => h.2 q (hp.mem_iff.mpr hq)⟩
theorem i_max {a b : Int32} {x y : Int} (ha : a.toInt = x) (hb : b.toInt = y) : ((if a < b then b else a).toInt = x ∧ y ≤ x) ∨ ((if a < b then b else a).toInt = y ∧ x < y) := by
  by_cases h : a < b
  · rw [if_pos h]; exact Or.inr ⟨hb, (i_lt ha hb).mp h⟩
  · rw [if_neg h]; exact Or.inl ⟨ha, Int.not_lt.mp (fun z => h ((i_lt ha hb).mpr z))⟩
theorem i_min {a b : Int32} {x y : Int} (ha : a.toInt = x) (hb : b.toInt = y) : ((if b < a then b else a).toInt = x ∧ x ≤ y) ∨ ((if b < a then b else a).toInt = y ∧ y < x) := by
  by_cases h : b < a
  · rw [if_pos h]; exact Or.inr ⟨hb, (i_lt hb ha).mp h⟩
  · rw [if_neg h]; exact Or.inl ⟨ha, Int.not_lt.mp (fun z => h ((i_lt hb ha).mpr z))⟩
section ZZ9
variable {p : Program} {l : Launch} {e : Env} {R : Room} {s : State} {m : MethodId} {args : Array Value} {below : List Frame} {meth : Method} {c : Code} {H : Heap} {locs : List Loc} {cells slots : Nat} {Q : State → Prop}
/-- all slots of a heap -/
def tot (H : Heap) : Nat := H.foldl (fun n c => n + c.slots.size) 0
theorem zz_book {T : State} (X : Stand p l e R s m args below meth c T locs cells slots) : T.slotsUsed = tot T.heap ∧ s.slotsUsed = tot s.heap := by
  have h0 : s.slotsTrue = true := by
    have h := X.room
    simp only [State.hasRoom, Bool.and_eq_true] at h
    exact h.2
  have hb : T.slotsTrue = true := X.book
  exact ⟨eq_of_beq (show (T.slotsUsed == tot T.heap) = true from hb), eq_of_beq (show (s.slotsUsed == tot s.heap) = true from h0)⟩
/-- the counters are true of the heap -/
theorem zz_know {g : JFrame} (w : H.size ≤ s.heap.size + cells → tot H ≤ tot s.heap + slots → W p l e R s m args below meth c H locs cells slots Q g) : W p l e R s m args below meth c H locs cells slots Q g := by
  intro T hT X
  obtain ⟨e1, e2⟩ := zz_book X
  have h3 := X.heapSize
  have h5 := X.used
  rw [e1, e2] at h5
  rw [hT] at h3 h5
  exact w h3 h5 T hT X
theorem zz_tightT {k n : Nat} {g : JFrame} (hk : H.size ≤ s.heap.size + k) (hn : tot H ≤ tot s.heap + n) (w : W p l e R s m args below meth c H locs k n Q g) : W p l e R s m args below meth c H locs cells slots Q g := by
  intro T hT X
  obtain ⟨e1, e2⟩ := zz_book X
  obtain ⟨h1, h2, h3, h4, h5, h6⟩ := X.same
  have h4' : T.slotsUsed = s.slotsUsed + ((T.heap.toList.drop s.heap.size).map (fun x => x.slots.size)).sum := h4
  refine w T hT { X with same := ⟨h1, h2, ?_, h4, ?_, h6⟩ }
  · show T.heap.size ≤ _
    rw [hT]; exact hk
  · show ((T.heap.toList.drop _).map _).sum ≤ _
    rw [e1, e2, hT] at h4'
    rw [hT]
    omega
end ZZ9
/-- how many slots there were at the start -/
def TOT (n : Nat) (_ : Nat → Prop) (_ : State) (H : Heap) : Prop := tot H = n
theorem TOT_blind {n : Nat} {A : Nat → Prop} {U : State} {g : JFrame} {mk : MethodId} {a : Array Value} (h : TOT n A U U.heap) : TOT n A (U.calling g mk a) (U.calling g mk a).heap := h
def atB (f : Nat → Int32) (L x : Int32) : Int32 := if 0 ≤ x.toInt ∧ x.toInt < L.toInt then f x.toNatClampNeg &&& 255 else 0
def sbB (f : Nat → Int32) (x i k : Int32) : Int32 := (f (x + i).toNatClampNeg &&& 255) <<< (k &&& 31)
def low4B (f : Nat → Int32) (L x : Int32) : Int32 := if 0 ≤ x.toInt ∧ x.toInt + 4 ≤ L.toInt then (((0 ||| sbB f x 0 0) ||| sbB f x 1 8) ||| sbB f x 2 16) ||| sbB f x 3 24 else 0
/-- a CE whose run lies within the image -/
def CEok (f : Nat → Int32) (L x : Int32) : Prop := 0 ≤ (low4B f L (x + 4)).toInt ∧ 0 ≤ (low4B f L (x + 12)).toInt ∧ 0 ≤ (low4B f L (x + 20)).toInt ∧ (low4B f L (x + 4)).toInt * 2048 + (low4B f L (x + 12)).toInt + (low4B f L (x + 20)).toInt ≤ L.toInt
theorem lg_goodSX {c d : Cond} {own : String} {idx : Nat} {y : MethodName} (h1 : Cond.methodLink own idx y ∈ lw_g) (h2 : Cond.static y ∈ lw_g) (h4 : Cond.initialized y.cls ∈ lw_g) (hd : d ∈ lw_g) : GoodIn (c :: lw_g) (va_wsS own idx y (d :: lw_g)) := fun w hw => by
  rcases List.mem_append.mp hw with h | h
  · have hm : w ∈ lw_g := by
      simp only [List.mem_cons, List.not_mem_nil, or_false] at h
      rcases h with rfl | rfl | rfl <;> assumption
    exact ⟨List.mem_cons_of_mem _ hm, good_of_word (List.mem_filter.mp hm).2⟩
  · exact lg_good hd w h
theorem i_fitB {v : Int32} (h : -128 ≤ v.toInt ∧ v.toInt ≤ 127) : fits .byte (.int v) = true := by
  show (decide ((-128 : Int32) ≤ v) && decide (v ≤ (127 : Int32))) = true
  rw [Bool.and_eq_true, decide_eq_true_iff, decide_eq_true_iff, i_le (x := -128) (by decide) rfl, i_le rfl (y := 127) (by decide)]
  exact h
/-- arrays of bytes may be cloned -/
def CST (_ : Nat → Prop) (U : State) (_ : Heap) : Prop := va_Nw (.castable "[B" "java/lang/Cloneable") U
theorem CST_blind {A : Nat → Prop} {U : State} {g : JFrame} {mk : MethodId} {a : Array Value} (h : CST A U U.heap) : CST A (U.calling g mk a) (U.calling g mk a).heap := va_Nw.same rfl (u := U) (U := U.calling g mk a) rfl h
