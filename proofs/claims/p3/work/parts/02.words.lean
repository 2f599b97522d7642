/-- the words that a contract passes on -/
def lw_g : List Cond := lw_tbl.filter goodWord
theorem lg_mem {w : Cond} (i : Nat) (h : lw_tbl[i]? = some w) (hg : goodWord w = true) : w ∈ lw_g := List.mem_filter.mpr ⟨List.mem_of_getElem? h, hg⟩
theorem lg_good {c d : Cond} (hd : d ∈ lw_g) : GoodIn (c :: lw_g) (d :: lw_g) := fun w hw => by
  rcases List.mem_cons.mp hw with rfl | h
  · exact ⟨List.mem_cons_of_mem _ hd, good_of_word (List.mem_filter.mp hd).2⟩
  · exact ⟨List.mem_cons_of_mem _ h, good_of_word (List.mem_filter.mp h).2⟩
theorem lg_goodV {c d : Cond} {own C : String} {idx : Nat} {y : MethodName} (h1 : Cond.methodLink own idx y ∈ lw_g) (h2 : Cond.instanceMethod y ∈ lw_g) (h3 : Cond.selects C y y ∈ lw_g) (h4 : Cond.initialized C ∈ lw_g) (hd : d ∈ lw_g) : GoodIn (c :: lw_g) (wsV own idx C y (d :: lw_g)) := fun w hw => by
  rcases List.mem_append.mp hw with h | h
  · have hm : w ∈ lw_g := by
      simp only [List.mem_cons, List.not_mem_nil, or_false] at h
      rcases h with rfl | rfl | rfl | rfl <;> assumption
    exact ⟨List.mem_cons_of_mem _ hm, good_of_word (List.mem_filter.mp hm).2⟩
  · exact lg_good hd w h
theorem lg_goodS {c d : Cond} {own : String} {idx : Nat} {y : MethodName} (h1 : Cond.methodLink own idx y ∈ lw_g) (h2 : Cond.static y ∈ lw_g) (h4 : Cond.initialized own ∈ lw_g) (hd : d ∈ lw_g) : GoodIn (c :: lw_g) (wsS own idx y (d :: lw_g)) := fun w hw => by
  rcases List.mem_append.mp hw with h | h
  · have hm : w ∈ lw_g := by
      simp only [List.mem_cons, List.not_mem_nil, or_false] at h
      rcases h with rfl | rfl | rfl <;> assumption
    exact ⟨List.mem_cons_of_mem _ hm, good_of_word (List.mem_filter.mp hm).2⟩
  · exact lg_good hd w h
/-- the words that go by the state: nest mates' links, arrays of references -/
def isNW : Cond → Bool
  | .fieldLinkNest _ _ _ _ _ _ => true
  | .methodLinkNest _ _ _ _ => true
  | .arrayOver (.object _) => true
  | _ => false
def lw_n : List Cond := lw_tbl.filter isNW
theorem ln_mem {w : Cond} (i : Nat) (h : lw_tbl[i]? = some w) (hg : isNW w = true) : w ∈ lw_n := List.mem_filter.mpr ⟨List.mem_of_getElem? h, hg⟩
def NN (U : State) : Prop := ∀ w ∈ lw_n, va_Nw w U
theorem NN.warm {s U : State} (hW : s.WarmedH U.vm) (h : NN s) : NN U := fun w hw => by
  have h1 := (List.mem_filter.mp hw).2
  have h2 := h w hw
  unfold isNW at h1
  split at h1
  · exact va_Nw.warmF hW h2
  · exact va_Nw.warmM hW h2
  · exact va_AO.moved hW.alike h2
  · exact absurd h1 (by decide)
theorem NN.calling {s : State} {g : JFrame} {mk : MethodId} {a : Array Value} (h : NN s) : NN (s.calling g mk a) := fun w hw => by
  have h1 := (List.mem_filter.mp hw).2
  have h2 := h w hw
  unfold isNW at h1
  split at h1
  · exact va_Nw.same rfl (u := s) (U := s.calling g mk a) rfl h2
  · exact va_Nw.same rfl (u := s) (U := s.calling g mk a) rfl h2
  · exact va_AO.moved (u := s) (U := s.calling g mk a) (Vm.Alike.refl s.vm) h2
  · exact absurd h1 (by decide)
