section ZCT
variable {p : Program} {l : Launch} {e : Env} {R : Room} {s : State} {m : MethodId} {args : Array Value} {below : List Frame} {meth : Method} {c : Code} {H : Heap} {locs : List Loc} {cells slots : Nat} {Q : State → Prop}
theorem zz_callT {y : MethodName} {bytes cc : ByteArray} {maxL nL mc ms n index pc : Nat} {ret : Option FieldType} {ws : List Cond} {rm : Room} {Pc : Array Value → State → Prop} {C : String} {A0 A1 : Nat → Prop} {free : Addr → Prop} {Ts : List Cond} {own Cr : String} {b : Addr} {As rest : List Value} {ls : Array Slot} {H0 : Heap} {sp ep hpc ct : Nat}
    (S : CallFix p m c cc nL s args Ts own) (hM : MetT l y ws rm Pc C A1 mc ms free) (cw : CallW R s args own Cr index y bytes maxL ret ws rm mc ms n) (hp : PreV s H Cr b Pc As)
    (hone : c.exceptionTable.toList.map (fun h => (h.startPc, h.endPc, h.handlerPc, h.catchType)) = [(sp, ep, hpc, ct)]) (hcov : sp ≤ pc ∧ pc < ep) (hct : ct ≠ 0) (hlink : (Cond.classLink own ct C).before args s = true)
    (hn : As.length = n) (hsize : ls.size = nL) (hW : (rest.map fun v => v.category).sum ≤ 8) (hdg : decode cc pc = .ok (.invokevirtual index, 3)) (hf : cells + mc ≤ R.cells ∧ slots + ms ≤ R.slots)
    (hS : va_S A0 H0 H locs) (hA : ∀ q, q < H.size → A1 q → A0 q) (hfr : ∀ q, free q → A0 q)
    (kk : ∀ (x : Nat) (H1 : Heap) (locs1 : List Loc), H.size ≤ H1.size → (∀ q : Nat, q < H.size → ¬ A1 q → H1[q]? = H[q]?) → va_S A0 H0 H1 locs1 → W p l e R s m args below meth c H1 locs1 (cells + mc) (slots + ms) Q (F0 m hpc ls [.ref x])) :
    W p l e R s m args below meth c H locs cells slots Q (F0 m pc ls (As.reverse ++ .ref b :: rest)) := by
  intro T hT X
  obtain ⟨⟨hrc, hrs, hfr', hlo, hws, hcw, hcode, hini, hy, hlen, hl⟩, hin, hse⟩ := cw
  obtain ⟨hx, hb, hml, ho, -⟩ := S
  obtain ⟨hbl, ⟨cellB, hcB, hoB, hclB⟩, hPc⟩ := hp
  obtain ⟨mk, methM, hnamed, hmethM, hstM, habM⟩ := Cond.instanceMethod_spec hin
  obtain ⟨methM', cM, hmethM', -, -, -, -, -, -, hsigM⟩ := Cond.code_spec hnamed hcode
  cases hmethM.symm.trans hmethM'
  obtain ⟨c2, r2, m2, q1, q2, q3, q4, kP, hkP, hkPi⟩ := Cond.selects_spec hse
  cases hclB.symm.trans q1
  cases (State.methodFound?_of_named hnamed hy).symm.trans q2
  cases hnamed.symm.trans q3
  have hselP : selectMethod e.platform s.vm cellB.cls mk = .method mk := by rw [Launch.admits_selectMethod X.admits]; exact q4
  obtain ⟨vm₁, X₁, hstep₁⟩ := X.invokevirtual hx ho hl hnamed hmethM hstM hkP hkPi hy (a := b) (cell := cellB) (by rw [hT]; exact hcB)
    (fun z h => by rw [h] at hoB; cases hoB) hselP hmethM habM hkP hkPi (g := F0 m pc ls (As.reverse ++ .ref b :: rest)) rfl (argsL := As) (rest := rest) (hn.trans (hlen _ hsigM)) rfl (by rw [hb]; exact hdg)
  generalize hU : T.setVm vm₁ = U at X₁ hstep₁
  have hUh : U.heap = H := by rw [← hU]; exact hT
  have hnU : U.methodNamed? y = some mk := X₁.named hnamed
  have hcU : (Cond.code y bytes maxL ret).before (Value.ref b :: As).toArray U = true := hws _ hcw _ _ X₁.warmed
  obtain ⟨methY, cY, hmY, hcY, -, hlY, -⟩ := Cond.code_spec hnU hcU
  obtain ⟨kY, hkY, -⟩ := className_of_methodNamed hnU
  have hiU : (Cond.initialized y.cls).before (Value.ref b :: As).toArray U = true := word_at X₁.warmed (Or.inl (by first | rfl | simp [Cond.onTables, Cond.keeps, Cond.steady])) hini
  have hinitY : kY.init = .initialized := Cond.initialized_spec (findClass_of_methodNamed hnU) hkY hiU
  generalize hg' : (F0 m pc ls rest) = g'
  have hgm : g'.method = m := by rw [← hg']
  have hgs : g'.locals.size = c.maxLocals := by rw [← hg']; exact hsize.trans hml.symm
  have hgd : decode c.code g'.pc = .ok (.invokevirtual index, 3) := by rw [← hg', hb]; exact hdg
  have hgW : 2 * g'.monitorRoom + (g'.stack.map fun v => v.category).sum ≤ 8 := by
    rw [← hg']
    show 2 * 0 + (rest.map fun v => v.category).sum ≤ 8
    omega
  have h : At U g'.method c below := by rw [hgm]; exact X₁.here
  have hpre : (headSpec ws rm).pre.before (Value.ref b :: As).toArray U = true := atoms_intro fun w hw => hws w hw _ _ X₁.warmed
  have happ : (headSpec ws rm).appliesLoose y e.platform (U.calling g' mk (Value.ref b :: As).toArray) = true :=
    Spec.appliesLoose_calling (g := g') h hgd hnU hkY hinitY
      (X₁.room_calling (g := g') (R' := (headSpec ws rm).room) hgs hmY hcY hfr' (by rw [hlY]; show _ + rm.locals ≤ _; omega) (by rw [show (headSpec ws rm).room.cells = mc from hrc]; exact hf.1) (by rw [show (headSpec ws rm).room.slots = ms from hrs]; exact hf.2)) hpre
  obtain ⟨mid, hmid⟩ := h.above
  have hfm : (U.setTop g').frames = (.java g' :: mid) ++ below := by rw [State.frames_setTop' g' h.top, hmid]; rfl
  obtain ⟨o, s₂, hsteps, -, hend, hq⟩ := Steps.callFree hM p X.admits X.cas X.clock (acts := []) hfm happ (hbl _ _ g' mk (hPc U hUh X₁.warmed)) trivial
  have hq' : QT C A1 mc ms free (U.calling g' mk (Value.ref b :: As).toArray) o s₂ := hq
  rw [State.frames_setTop' g' h.top] at hend
  obtain ⟨⟨x, ce, rfl, hce, hst, hfc, hasg⟩, hF, L, hW₂, hsame, hL⟩ := hq'
  have hend' : Ended s₂ (.java g' :: below) (.threw x) := by rw [X₁.tail] at hend; exact hend
  obtain ⟨T', X', hW', -, ht⟩ := X₁.outOfThrown hgm (mk := mk) (a := (Value.ref b :: As).toArray) hend' hW₂ hsame
  have hh : T'.heap = s₂.heap := by rw [ht]; exact (Stand.throwing_heap T' g' x).symm
  have hpl : e.platform.magicAccessors = ({} : Platform).magicAccessors := by rw [X.admits.platform]
  obtain ⟨cT, hcT, hclk⟩ := Cond.classLink_spec ho hlink e.platform hpl
  have hfc2 : s.vm.findClass C = some ce.cls := by
    have h1 : U.vm.findClass C = some ce.cls := hfc
    rw [X₁.warmed.alike.findClass] at h1
    exact h1
  cases hfc2.symm.trans hcT
  obtain ⟨x0, hx0, e1, e2, e3, e4⟩ : ∃ x0 : ExceptionTableEntry, c.exceptionTable.toList = [x0] ∧ x0.startPc = sp ∧ x0.endPc = ep ∧ x0.handlerPc = hpc ∧ x0.catchType = ct := by
    cases hc0 : c.exceptionTable.toList with
    | nil => rw [hc0] at hone; cases hone
    | cons z zs =>
      rw [hc0] at hone
      cases zs with
      | nil =>
        simp only [List.map_cons, List.map_nil, List.cons.injEq, Prod.mk.injEq, and_true] at hone
        exact ⟨z, rfl, hone.1, hone.2.1, hone.2.2.1, hone.2.2.2⟩
      | cons z2 zs2 => simp at hone
  obtain ⟨dk, _, _, kt, hd, _, _, _, _, hkt, _, hopen⟩ := hclk.here
  subst e4
  have hclk' := X'.warmed.classLinks hclk
  have hWn : s.WarmedH (T'.vm.noted m.cls x0.catchType (.cls ce.cls)) := X'.warmed.noted hd hopen (State.rightAt_cls hclk)
  have hal := X'.warmed.alike
  obtain ⟨kt', hkt', -⟩ := hal.2.2 _ _ hkt
  have hfit : T'.vm.assignable ce.cls ce.cls = true := by
    have h1 : U.vm.assignable ce.cls ce.cls = true := hasg
    rw [X₁.warmed.alike.assignable] at h1
    rw [hal.assignable]
    exact h1
  have X'' := X'.noted hWn
  obtain ⟨t, a1, b1⟩ := kk x (T'.setVm (T'.vm.noted m.cls x0.catchType (.cls ce.cls))).heap (locs ++ L) (by show _ ≤ T'.heap.size; rw [hh, ← hUh]; exact hF.1)
    (fun q h1 h2 => by
      show T'.heap[q]? = _
      rw [hh, ← hUh]
      exact hF.2 q (by show q < U.heap.size; rw [hUh]; exact h1) h2)
    ⟨Nat.le_trans hS.1 (by show _ ≤ T'.heap.size; rw [hh, ← hUh]; exact hF.1), fun q h1 h2 => by
      show T'.heap[q]? = _
      rw [hh, hF.2 q (by show q < U.heap.size; rw [hUh]; exact Nat.lt_of_lt_of_le h1 hS.1) (fun z => h2 (hA q (Nat.lt_of_lt_of_le h1 hS.1) z))]
      show U.heap[q]? = _
      rw [hUh]
      exact hS.2.1 q h1 h2, fun q hq => by
      rcases List.mem_append.mp hq with h1 | h1
      · exact hS.2.2 q h1
      · exact hfr _ (hL q h1)⟩ (T'.setVm (T'.vm.noted m.cls x0.catchType (.cls ce.cls))) rfl X''
  refine ⟨t, ?_, b1⟩
  refine hstep₁ _ fun acts => ?_
  rw [doInvoke_state]
  rw [show ({ (F0 m pc ls (As.reverse ++ .ref b :: rest)) with stack := rest } : JFrame) = g' from hg']
  refine hsteps.trans ?_
  rw [ht]
  have hfind := fun (Q : Handler → Pre) (E : CtlPost) (d : Bool) (acts : List Action) => zc_find (e := e) (s := (T'.setTop g').pushFrame (.throwing x)) (f := g') (a := x) (meth := meth) (code := c) (x := x0) (c := ce.cls) (cell := ce)
    (by rw [Stand.throwing_vm, hgm]; exact X'.method') X'.code hx0 (by simp only [covers, e1, e2]; rw [← hg']; simp [hcov.1, hcov.2]) hct (by rw [Stand.throwing_vm, hgm]; exact hclk') (by rw [Stand.throwing_heap, hh]; exact hce) (VmData.ne_statics_of hst) (by rw [Stand.throwing_vm]; exact ⟨kt', hkt'⟩) (by rw [Stand.throwing_vm]; exact ⟨kt', hkt'⟩) (by rw [Stand.throwing_vm]; exact hfit) Q E d acts
  have hat : At T' g'.method c below := by rw [hgm]; exact X'.here
  refine zc_steps (vm' := T'.vm.noted m.cls x0.catchType (.cls ce.cls)) (pc := x0.handlerPc) hat (fun Q E d acts => by rw [hfind Q E d acts, Stand.throwing_vm, hgm]) ?_
  rw [show ({ g' with pc := x0.handlerPc, stack := [.ref x] } : JFrame) = F0 m hpc ls [.ref x] by rw [← hg', e3]]
  exact a1
end ZCT
