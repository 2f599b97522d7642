/-! what a throw in the middle of DiscMaker needs of the state -/
def isDW : Cond → Bool
  | .declares _ => true
  | .castable _ _ => true
  | _ => false
def lw_d : List Cond := lw_tbl.filter isDW
def DD (U : State) : Prop := ∀ w ∈ lw_d, va_Nw w U
theorem DD.moved {s U : State} (hvm : s.vm.Alike U.vm) (h : DD s) : DD U := fun w hw => by
  have h1 := (List.mem_filter.mp hw).2
  have h2 := h w hw
  cases w <;> first | exact va_tabs rfl (rfl : (s.setVm U.vm).vm = U.vm) (by rw [Cond.declares_setVm hvm]; exact h2) | exact va_tabs rfl (rfl : (s.setVm U.vm).vm = U.vm) (by rw [Cond.castable_setVm hvm]; exact h2) | (simp [isDW] at h1)
/-- a static of Throwable that holds a reference or null, in a cell that isn't ours -/
def zL (n d : String) (A : Nat → Prop) (U : State) (H : Heap) : Prop := ∃ (c : ClassId) (k : Class) (i : Nat) (f : Field) (a : Nat) (cell : Cell) (v : Value), U.vm.findClass Bundle.tN = some c ∧ U.fieldFound? Bundle.tN n d = some (c, k, i, f) ∧ f.isStatic = true ∧ k.statics = some a ∧ H[a]? = some cell ∧ cell.vm.isStatics = true ∧ cell.cls = c ∧ f.slot < cell.slots.size ∧ k.staticTypes[f.slot]? = some f.type ∧ cell.slots[f.slot]? = some v ∧ (v = .null ∨ ∃ r, v = .ref r) ∧ ¬ A a
theorem zL.moved {n d : String} {A : Nat → Prop} {u U : State} {H : Heap} (hvm : u.vm.Alike U.vm) (h : zL n d A u H) : zL n d A U H := by
  obtain ⟨c, k, i, f, a, cell, v, h1, h2, h3, h4, h5, h6, h7, h8, h9, h10, h11, h12⟩ := h
  obtain ⟨k', hi', he⟩ := State.fieldFound?_setVm hvm h2
  exact ⟨c, k', i, f, a, cell, v, by rw [hvm.findClass]; exact h1, hi', h3, by rw [he]; exact h4, h5, h6, h7, h8, by rw [he]; exact h9, h10, h11, h12⟩
theorem zL.pass {n d : String} {A B : Nat → Prop} {s U : State} {H : Heap} {locs : List Loc} (h : zL n d A s s.heap) (hS : va_S A s.heap H locs) (hF : ∀ q, B q → A q) (hvm : s.vm.Alike U.vm) (hU : U.heap = H) : zL n d B U U.heap := by
  have h1 : zL n d B s H := by
    obtain ⟨c, k, i, f, a, cell, v, h1, h2, h3, h4, h5, h6, h7, h8, h9, h10, h11, h12⟩ := h
    exact ⟨c, k, i, f, a, cell, v, h1, h2, h3, h4, by rw [hS.2.1 a (Array.getElem?_eq_some_iff.mp h5).1 h12]; exact h5, h6, h7, h8, h9, h10, h11, fun q => h12 (hF a q)⟩
  rw [hU]
  exact h1.moved hvm
theorem zL.lays {n d : String} {A : Nat → Prop} {U : State} {args : Array Value} (h : zL n d A U U.heap) : (Cond.laysStatic Bundle.tN n d).before args U = true := by
  obtain ⟨c, k, i, f, a, cell, v, h1, h2, h3, h4, h5, h6, h7, h8, h9, h10, h11, h12⟩ := h
  simp [Cond.before, Cond.holds, Cond.value, h1, h2, h3, h4, h5, h6, h7, h8, h9]
theorem zL.ref {n d : String} {A : Nat → Prop} {U : State} {args : Array Value} (h : zL n d A U U.heap) : (Cond.isRef (.static Bundle.tN n d)).before args U = true := by
  obtain ⟨c, k, i, f, a, cell, v, h1, h2, h3, h4, h5, h6, h7, h8, h9, h10, h11, h12⟩ := h
  rcases h11 with rfl | ⟨r, rfl⟩ <;> simp [Cond.before, Cond.holds, Cond.value, Term.eval, State.fieldNamed?, h2, h3, h4, h5, h6, h10]
theorem zL.of {n d : String} {A : Nat → Prop} {s : State} {args : Array Value} (hl : (Cond.laysStatic Bundle.tN n d).before args s = true) (hr : (Cond.isRef (.static Bundle.tN n d)).before args s = true) (hA : ∀ a : Nat, a < s.heap.size → ¬ A a) : zL n d A s s.heap := by
  obtain ⟨c, k, i, f, a, cell, h1, h2, h3, h4, h5, h6, h7, h8, h9⟩ := Cond.laysStatic_spec hl
  have hv : ∃ v, cell.slots[f.slot]? = some v := ⟨_, Array.getElem?_eq_getElem h8⟩
  obtain ⟨v, hv⟩ := hv
  refine ⟨c, k, i, f, a, cell, v, h1, h2, h3, h4, h5, h6, h7, h8, h9, hv, ?_, hA a (Array.getElem?_eq_some_iff.mp h5).1⟩
  simp only [Cond.before, Cond.holds, Cond.value, Term.eval, State.fieldNamed?, h2, h3, h4, h5, h6, hv] at hr
  cases v <;> simp_all
def TX (A : Nat → Prop) (U : State) (H : Heap) : Prop := DD U ∧ zL "UNASSIGNED_STACK" Bundle.steD A U H ∧ zL "SUPPRESSED_SENTINEL" Bundle.listD A U H
theorem TX_blind {A : Nat → Prop} {U : State} {g : JFrame} {mk : MethodId} {a : Array Value} (h : TX A U U.heap) : TX A (U.calling g mk a) (U.calling g mk a).heap :=
  ⟨h.1.moved (s := U) (U := U.calling g mk a) (Vm.Alike.refl U.vm), zL.moved (u := U) (U := U.calling g mk a) (Vm.Alike.refl U.vm) h.2.1, zL.moved (u := U) (U := U.calling g mk a) (Vm.Alike.refl U.vm) h.2.2⟩
theorem TX_pass {A B : Nat → Prop} {s U : State} {H : Heap} {locs : List Loc} (h : TX A s s.heap) (hS : va_S A s.heap H locs) (hF : ∀ q, B q → A q) (hW : s.vm.Alike U.vm) (hU : U.heap = H) : TX B U U.heap :=
  ⟨h.1.moved hW, h.2.1.pass hS hF hW hU, h.2.2.pass hS hF hW hU⟩
def at4 : List Cond := [.laysStatic Bundle.tN "UNASSIGNED_STACK" Bundle.steD, .laysStatic Bundle.tN "SUPPRESSED_SENTINEL" Bundle.listD, .isRef (.static Bundle.tN "UNASSIGNED_STACK" Bundle.steD), .isRef (.static Bundle.tN "SUPPRESSED_SENTINEL" Bundle.listD)]
theorem at4_ok {A : Nat → Prop} {s : State} {args : Array Value} (h : TX A s s.heap) : ∀ w ∈ at4, w.before args s = true := by
  intro w hw
  simp only [at4, List.mem_cons, List.not_mem_nil, or_false] at hw
  rcases hw with rfl | rfl | rfl | rfl
  · exact h.2.1.lays
  · exact h.2.2.lays
  · exact h.2.1.ref
  · exact h.2.2.ref
theorem at_of {ws : List Cond} (hk : ws.all (fun w => decide (w ∈ lw_g) || decide (w ∈ lw_d) || decide (w ∈ at4)) = true) {A : Nat → Prop} {s : State} {args : Array Value} (ht : ∀ w ∈ lw_g, w.before args s = true) (h : TX A s s.heap) : ∀ w ∈ ws, w.before args s = true := by
  intro w hw
  have h1 := List.all_eq_true.mp hk w hw
  simp only [Bool.or_eq_true, decide_eq_true_eq] at h1
  rcases h1 with (h1 | h1) | h1
  · exact ht w h1
  · have h2 := h.1 w h1
    have h3 := (List.mem_filter.mp h1).2
    cases w <;> first | exact va_Nw.use rfl h2 | (simp [isDW] at h3)
  · exact at4_ok h w h1
abbrev upN : List String := ["java/lang/RuntimeException", "java/lang/Exception"]
theorem atN_ok : (Bundle.ownAtoms0 "DiscMaker" 145 "java/util/NoSuchElementException" upN).all (fun w => decide (w ∈ lw_g) || decide (w ∈ lw_d) || decide (w ∈ at4)) = true := by decide +kernel
theorem atI_ok : (Bundle.ownAtoms0 "DiscMaker" 135 "java/lang/IllegalArgumentException" upN).all (fun w => decide (w ∈ lw_g) || decide (w ∈ lw_d) || decide (w ∈ at4)) = true := by decide +kernel
/-- what isn't named is as it was -/
theorem zF_of {A : Nat → Prop} {s t : State} {locs : List Loc} {k n : Nat} (h : s.sameButNew ({ t with vm := s.vm } : State) locs k n) (hl : ∀ q ∈ locs, A q.base) : va_F A s t := by
  obtain ⟨-, h2, -, -, -, h6⟩ := h
  refine ⟨h2, fun q hq hA => ?_⟩
  have hc : s.heap[q]? = some s.heap[q] := Array.getElem?_eq_getElem hq
  obtain ⟨c', e1, e2, e3, e4⟩ := h6 q _ hc
  have e5 : c'.slots = (s.heap[q]).slots := Array.ext_getElem? fun i => e4 i (fun hm => hA (hl _ hm))
  have e6 : c' = s.heap[q] := by rw [e2, e5]
  rw [hc, ← e6]
  exact e1
