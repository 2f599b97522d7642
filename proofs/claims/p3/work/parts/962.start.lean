/-! THE CLAIM OUT OF ONE WALK OF THE LAW'S BODY. Your part is whole_start (and what it stands on); all else here is the same for every law, but numbers. -/
def R_law : String := "DiscMakerLaw"
def lw_P (b : Addr) (xs : List Int32) (args : Array Value) (s : State) : Prop := args = #[.ref b] ∧ s.IntsAt b xs ∧ xs.length ≤ 3072 ∧ (Jvm.Cond.and given_1 narrow_1).before args s = true
def lw_Q (_ : Array Value) (s : State) (o : Outcome) (t : State) : Prop := o = .returned (some (.int 1)) ∧ Framed s o t [] 8598 9070312
def lw_Z (below : List Frame) (a : Array Value) (s : State) : State → Prop := fun t => ∃ o, t.status = .running ∧ Ended t below o ∧ lw_Q a s o t
/-- the law's own end, with 1 on the stack, nothing written that was there before, its room as the claim has it -/
theorem lw_ret {p : Program} {l : Launch} {e : Env} {s : State} {m : MethodId} {below : List Frame} {meth : Method} {c : Code} {b : Nat} (hx : p.tables.exec = Jvm.exec) (hb : c.code = code) (hr : meth.sig.returnType = ret) (hlocks : meth.locks = false) {pc : Nat} {H : Heap} {ls : Array Slot} (hdg : decode code pc = .ok (.ireturn, 1)) : W p l e room_1 s m #[Value.ref b] below meth c H [] 8598 9070312 (lw_Z below #[Value.ref b] s) (F0 m pc ls [.int 1]) := by
  intro T hT X
  obtain ⟨fs, hret, hrun, hended, hW, hframe⟩ := X.leave (v := some (.int 1)) (hlocks := hlocks) (fun h => by rw [hr] at h; cases h)
  have hmeth' : T.vm.method? m = some meth := X.method'
  refine ⟨T.setFrames fs, ?_, .returned (some (.int 1)), hrun, hended, rfl, ⟨_, rfl⟩, hW, hframe⟩
  jvm_step X.here [X.here.top, hx, hb, hdg, hmeth', hr, ret, narrow_b1]
  (try refine ⟨rfl, ?_⟩); (try refine ⟨rfl, ?_⟩)
  first | (intro acts; rw [hret _ acts rfl rfl rfl]) | rw [hret _ _ rfl rfl rfl]
  exact Steps.refl _
/-- what holds at the law's entry: the machine, the code, the tables' words (any of lw_tbl by 'hts w (by decide +kernel)'), the script of L ints xs at the cell b, what the Statement gives of the start (any of its parts by flat_of_before) -/
def lw_At (p : Program) (s : State) (m : MethodId) (meth : Method) (c : Code) (b L : Nat) (xs : Nat → Int32) : Prop :=
  p.tables.exec = Jvm.exec ∧ c.code = code ∧ meth.sig.returnType = ret ∧ c.maxLocals = 7 ∧ s.vm.findClass R_law = some m.cls ∧ (∀ w ∈ lw_tbl, w.before #[Value.ref b] s = true) ∧ va_X b L xs s s.heap ∧ b < s.heap.size ∧ meth.locks = false ∧ (Jvm.Cond.and given_1 narrow_1).before #[Value.ref b] s = true

theorem law_g {args : Array Value} {s : State} (hts : ∀ w ∈ lw_tbl, w.before args s = true) : ∀ w ∈ lw_g, w.before args s = true := fun w h => hts w (List.mem_filter.mp h).1
theorem law_NN {args : Array Value} {s : State} (hts : ∀ w ∈ lw_tbl, w.before args s = true) : NN s := fun w hw => by
  have h1 := (List.mem_filter.mp hw).2
  have h2 := hts w (List.mem_filter.mp hw).1
  cases w <;> first | exact va_Nw.of rfl h2 | (rename_i ty; cases ty <;> first | exact va_AO.of h2 | (simp [isNW] at h1)) | (simp [isNW] at h1)
theorem law_arr {args : Array Value} {s : State} {ty : FieldType} (h : (Cond.arrayClass ty).before args s = true) : ∃ c, ArrOfT s c ty ∧ s.vm.findClass ("[" ++ ty.toString) = some c := by
  obtain ⟨c, kA, comp, h1, h2, h3⟩ := Cond.arrayClass_spec h
  exact ⟨c, fun n z => ⟨fun k h => (by cases h), kA, h2, comp, h3⟩, h1⟩
theorem law_over {args : Array Value} {s : State} {C : String} (h : (Cond.arrayOver (.object C)).before args s = true) : ∃ c, ArrOfT s c (.object C) ∧ va_RA s c (.object C) := by
  obtain ⟨comp, c, kA, h1, h2, h3, h4, h5⟩ := Cond.arrayOver_spec h
  exact ⟨c, fun n z => ⟨fun k h => (by cases h), kA, h3, comp, h4⟩, kA, comp, h3, h4, h1, h5⟩
set_option maxHeartbeats 4000000 in
theorem law_K {args : Array Value} {s : State} (hts : ∀ w ∈ lw_tbl, w.before args s = true) : ∃ (D : va_G) (cB cI cJ cZ cN cF : ClassId), va_K D CL (TY cB cI cJ cZ cN cF) s := by
  have hg := law_g hts
  obtain ⟨c0, i0, q0⟩ := u_known (ws := lw_g) hg in_DiscMaker (hg _ k144)
  obtain ⟨c1, i1, q1⟩ := u_known (ws := lw_g) hg in_Bytes (hg _ k251)
  obtain ⟨c2, i2, q2⟩ := u_known (ws := lw_g) hg in_Found (hg _ k1218)
  obtain ⟨c3, i3, q3⟩ := u_known (ws := lw_g) hg in_Layout (hg _ k275)
  obtain ⟨c4, i4, q4⟩ := u_known (ws := lw_g) hg in_Maker (hg _ k269)
  obtain ⟨c5, i5, q5⟩ := u_known (ws := lw_g) hg in_Node (hg _ k173)
  obtain ⟨c6, i6, q6⟩ := u_known (ws := lw_g) hg in_PartsReader (hg _ k387)
  obtain ⟨c7, i7, q7⟩ := u_known (ws := lw_g) hg in_Reader (hg _ k379)
  obtain ⟨c8, i8, q8⟩ := u_known (ws := lw_g) hg in_SystemUse (hg _ k323)
  obtain ⟨c9, i9, q9⟩ := u_known (ws := lw_g) hg in_Text (hg _ k152)
  obtain ⟨c10, i10, q10⟩ := u_known (ws := lw_g) hg in_Tree (hg _ k166)
  obtain ⟨c11, i11, q11⟩ := u_known (ws := lw_g) hg in_DiscMakerModel (hg _ k1424)
  obtain ⟨cB, a0, b0⟩ := law_arr (hg _ k164)
  obtain ⟨cI, a1, b1⟩ := law_arr (hg _ k321)
  obtain ⟨cJ, a2, b2⟩ := law_arr (hg _ k1576)
  obtain ⟨cZ, a3, b3⟩ := law_arr (hg _ k1577)
  obtain ⟨cN, a4, b4⟩ := law_over (hts _ (List.mem_filter.mp k172).1)
  obtain ⟨cF, a5, b5⟩ := law_over (hts _ (List.mem_filter.mp k385).1)
  refine ⟨(fun k => [c0, c1, c2, c3, c4, c5, c6, c7, c8, c9, c10, c11].getD k 0, fun k => [i0, i1, i2, i3, i4, i5, i6, i7, i8, i9, i10, i11].getD k (fun _ => 0)), cB, cI, cJ, cZ, cN, cF, ?_, ?_⟩
  · intro c q hq
    have hc : c < 12 := (List.getElem?_eq_some_iff.mp hq).1
    rcases (show c = 0 ∨ c = 1 ∨ c = 2 ∨ c = 3 ∨ c = 4 ∨ c = 5 ∨ c = 6 ∨ c = 7 ∨ c = 8 ∨ c = 9 ∨ c = 10 ∨ c = 11 by omega) with rfl | rfl | rfl | rfl | rfl | rfl | rfl | rfl | rfl | rfl | rfl | rfl
    · cases hq; exact q0
    · cases hq; exact q1
    · cases hq; exact q2
    · cases hq; exact q3
    · cases hq; exact q4
    · cases hq; exact q5
    · cases hq; exact q6
    · cases hq; exact q7
    · cases hq; exact q8
    · cases hq; exact q9
    · cases hq; exact q10
    · cases hq; exact q11
  · intro k q hq
    have hc : k < 6 := (List.getElem?_eq_some_iff.mp hq).1
    rcases (show k = 0 ∨ k = 1 ∨ k = 2 ∨ k = 3 ∨ k = 4 ∨ k = 5 by omega) with rfl | rfl | rfl | rfl | rfl | rfl
    · cases hq; exact ⟨a0, b0⟩
    · cases hq; exact ⟨a1, b1⟩
    · cases hq; exact ⟨a2, b2⟩
    · cases hq; exact ⟨a3, b3⟩
    · cases hq; exact ⟨a4, b4⟩
    · cases hq; exact ⟨a5, b5⟩
theorem z_same {a b : Int32} {P : Prop} (h1 : (a = 1 ∧ P) ∨ (a = 0 ∧ ¬ P)) (h2 : (b = 1 ∧ P) ∨ (b = 0 ∧ ¬ P)) : a = b := by
  rcases h1 with ⟨h, p⟩ | ⟨h, p⟩ <;> rcases h2 with ⟨g, q⟩ | ⟨g, q⟩
  · rw [h, g]
  · exact absurd p q
  · exact absurd q p
  · rw [h, g]

