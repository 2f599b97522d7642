/-! a method that ends by a throw -/
def QT (C : String) (A : Nat → Prop) (mc ms : Nat) (free : Addr → Prop) (st : State) (o : Outcome) (t : State) : Prop :=
  (∃ (x : Addr) (ce : Cell), o = .threw x ∧ t.heap[x]? = some ce ∧ ce.vm.isStatics = false ∧ st.vm.findClass C = some ce.cls ∧ st.vm.assignable ce.cls ce.cls = true) ∧ va_F A st t ∧
  ∃ L : List Loc, st.WarmedH t.vm ∧ st.sameButNew ({ t with vm := st.vm } : State) L mc ms ∧ ∀ q ∈ L, free q.base
def ZT (below : List Frame) (C : String) (A : Nat → Prop) (mc ms : Nat) (free : Addr → Prop) (s : State) : State → Prop := fun t => ∃ o, t.status = .running ∧ Ended t below o ∧ QT C A mc ms free s o t
def MetT (l : Launch) (y : MethodName) (ws : List Cond) (rm : Room) (Pc : Array Value → State → Prop) (C : String) (A : Nat → Prop) (mc ms : Nat) (free : Addr → Prop) : Prop :=
  MetFree l y (headSpec ws rm) Pc (fun _ _ _ _ _ => True) (fun _ st o t => QT C A mc ms free st o t)
theorem MetT.ofW {l : Launch} {y : MethodName} {ws ws' : List Cond} {rm : Room} {Pc : Array Value → State → Prop} {C : String} {A : Nat → Prop} {mc ms : Nat} {free : Addr → Prop} {cc : ByteArray} {maxL : Nat} {ret : Option FieldType}
    (hy : plainName y.cls = true) (hw : ws = Cond.code y cc maxL ret :: ws')
    (body : ∀ p e s m args below meth c s₁, BodyLoose p l y (headSpec ws rm) cc maxL ret e s m args below meth c s₁ → c.maxLocals = maxL → Pc args s →
      W p l e (headSpec ws rm).room s m args below meth c s.heap [] 0 0 (ZT below C A mc ms free s) (entryFrame m args maxL)) : MetT l y ws rm Pc C A mc ms free := by
  refine MetFree.of_bodyS (code := cc) (maxLocals := maxL) (ret := ret) hy ?_ ?_
  · intro args s m h hn
    obtain ⟨meth, c, h1, h2, h3, h4, h5, h6, -, -⟩ := Cond.code_spec hn (atoms_spec (ws := ws) h _ (by rw [hw]; exact List.mem_cons_self))
    exact ⟨meth, c, h1, h2, h3, h4, h5, h6⟩
  · intro p e s m args below meth c s₁ B hml hP _
    have hh0 : s₁.heap = s.heap := by rw [B.state]; rfl
    obtain ⟨t, a1, o, b1, b2, b3⟩ := body p e s m args below meth c s₁ B hml hP s₁ hh0 (Stand.of_body B)
    exact ⟨t, o, a1, b1, b2, b3⟩
/-- new X(); throw: the end of such a method -/
theorem zz_throw0 {p : Program} {l : Launch} {e : Env} {R : Room} {s : State} {m : MethodId} {args : Array Value} {below : List Frame} {meth : Method} {c : Code} {H : Heap} {locs : List Loc} {cells slots : Nat} {cc : ByteArray} {pc : Nat} {ls : Array Slot} {nL : Nat}
    (htl : l.stackTraces = false) (hexec : p.tables.exec = Jvm.exec) (hb : c.code = cc) (hml : c.maxLocals = nL) (hlocks : meth.locks = false) (hemp : c.exceptionTable.isEmpty = true) {own cls : String} {ia ic : Nat} {A free : Nat → Prop} (hown : s.vm.findClass own = some m.cls)
    (hcls : Bundle.fit cls = true) (h : ∀ a ∈ Bundle.ownAtoms0 own ic cls upN, a.before args s = true) (hlocs : ∀ x ∈ locs, ∀ cell, s.heap[x.base]? = some cell → cell.vm.isStatics = false)
    (hcl : (Cond.classLink own ia cls).before args s = true) (hini : (Cond.initialized cls).before args s = true) (hS : va_S A s.heap H locs) (hfr : ∀ q, A q → free q)
    (hls : ls.size = nL) (d0 : decode cc pc = .ok (.new ia, 3)) (d3 : decode cc (pc + 3) = .ok (.dup, 1)) (d4 : decode cc (pc + 4) = .ok (.invokespecial ic, 3)) (d7 : decode cc (pc + 7) = .ok (.athrow, 1))
    (hcells : cells + 1 ≤ R.cells) (hslots : slots + 6 ≤ R.slots) (hRf : 5 < R.frames) (hRl : 100 ≤ R.locals) :
    W p l e R s m args below meth c H locs cells slots (ZT below cls A (cells + 1) (slots + 6) free s) (F0 m pc ls []) := by
  intro T hT X
  have htr : e.platform.stackTraces = false := by rw [X.admits.platform]; exact htl
  have hins : (Cond.instantiable cls 6).before args s = true := h _ (by simp [Bundle.ownAtoms0])
  obtain ⟨vm₁, cX, kX, hfX, hkX, -, -, X₁, st1⟩ := X.newCold hexec (own := own) (C := cls) (index := ia) (n := 6) hown hcl hins hini (g := F0 m pc ls []) rfl (by rw [hb]; exact d0) hcells hslots
  generalize hT2 : (T.setVm vm₁).pushCell { cls := cX, slots := kX.instanceTypes.map defaultValue, vm := .none } = T2 at X₁ st1
  have hcellA : T2.heap[T.heap.size]? = some (freshCell cX kX) := by rw [← hT2]; exact State.heap_pushCell_size _ _
  obtain ⟨U, hsteps, hrun, hend, hW, hsame, ce, hce, K⟩ := X₁.ctorThrow0 hexec htr (own := own) (cls := cls) (names := upN) (ic := ic) hown hcls (by decide +kernel) h hlocs hfX hkX hcellA (by rw [hT]; exact hS.1)
    (g := F0 m (pc + 4) ls [.ref T.heap.size, .ref T.heap.size]) rfl (hls.trans hml.symm) rfl rfl (rest := []) rfl (by rw [hb]; exact d4) (by rw [hb]; exact d7) (covers_of_empty hemp _) (by show 2 + 3 < _; exact hRf) (by show 2 * 0 + 1 + (13 * 3 + 41) ≤ _; omega)
  refine ⟨U, ?_, .threw T.heap.size, hrun, hend, ⟨_, ce, rfl, hce, by rw [K.vm]; rfl, K.cls, K.self⟩, zF_of hsame hS.2.2, locs, hW, hsame, fun q hq => hfr _ (hS.2.2 q hq)⟩
  refine st1 _ ?_
  show Steps p.tables e below (T2.setTop (F0 m (pc + 3) ls [.ref T.heap.size])) _
  jvm_step X₁.here [X₁.here.top, hexec, hb, d3, Value.category]
  exact hsteps
/-- cells that were there and that a world of objects names aren't statics -/
theorem zt_locs {s : State} {D : va_G} {cl : List vw_C} {tys : List (ClassId × FieldType)} {ws : va_W} {A : Nat → Prop} {H : Heap} {locs : List Loc} (hK : va_K D cl tys s) (hP : va_P D cl ws s.heap) (ho : ∀ (k : Nat) (q : Nat × va_E), ws[k]? = some q → ∃ o r, q.2 = .inr o ∧ cl[o.1]? = some r) (hAe : va_A ws s.heap.size = A) (hS : va_S A s.heap H locs) : ∀ x ∈ locs, ∀ cell, s.heap[x.base]? = some cell → cell.vm.isStatics = false := by
  intro x hx cell hc
  have h1 := hS.2.2 x hx
  rw [← hAe] at h1
  rcases h1 with ⟨k, e, h2⟩ | h2
  · obtain ⟨o, r, h3, h4⟩ := ho k _ h2
    have h5 : e = .inr o := h3
    subst h5
    obtain ⟨cell2, g1, g2, -⟩ := va_recv (q0 := k) (ci := o.1) (fs := o.2) hK hP h4 h2
    cases hc.symm.trans g1
    exact g2
  · exact absurd (Array.getElem?_eq_some_iff.mp hc).1 (Nat.not_lt.mpr h2)
