section ZZ2
variable {p : Program} {l : Launch} {e : Env} {R : Room} {s : State} {m : MethodId} {args : Array Value} {below : List Frame} {meth : Method} {c : Code} {cells slots : Nat} {Q : State → Prop}
/-- a loop that counts down what is left -/
theorem zz_loop {P : Nat → Heap → List Loc → Array Slot → Prop} {pc : Nat} (n : Nat)
    (base : ∀ (H : Heap) (locs : List Loc) (ls : Array Slot), P 0 H locs ls → W p l e R s m args below meth c H locs cells slots Q (F0 m pc ls []))
    (step : ∀ k : Nat, (∀ (H : Heap) (locs : List Loc) (ls : Array Slot), P k H locs ls → W p l e R s m args below meth c H locs cells slots Q (F0 m pc ls [])) → ∀ (H : Heap) (locs : List Loc) (ls : Array Slot), P (k + 1) H locs ls → W p l e R s m args below meth c H locs cells slots Q (F0 m pc ls [])) :
    ∀ (H : Heap) (locs : List Loc) (ls : Array Slot), P n H locs ls → W p l e R s m args below meth c H locs cells slots Q (F0 m pc ls []) := by
  induction n with
  | zero => exact base
  | succ n ih => exact step n ih
end ZZ2
theorem zT_blind {ty : FieldType} {t N : Nat} {f : Nat → Value} {A : Nat → Prop} {U : State} {g : JFrame} {mk : MethodId} {a : Array Value} (h : va_T ty t N f A U U.heap) : va_T ty t N f A (U.calling g mk a) (U.calling g mk a).heap := va_T.moved (u := U) (U := U.calling g mk a) (Vm.Alike.refl U.vm) h
theorem zT_pass {ty : FieldType} {t N : Nat} {f : Nat → Value} {A B : Nat → Prop} {s U : State} {H : Heap} {locs : List Loc} (h : va_T ty t N f A s s.heap) (hS : va_S A s.heap H locs) (hF : ∀ q, B q → A q) (hW : s.vm.Alike U.vm) (hU : U.heap = H) : va_T ty t N f B U U.heap := by
  rw [hU]
  exact ((h.kept hS.2.1).narrow hF).moved hW
/-- the three constant rows of DiscMaker, wherever they lie -/
def SZ (td ts tl : Nat) (gd gs gl : Nat → Int32) (A : Nat → Prop) (U : State) (H : Heap) : Prop :=
  (va_Z "DiscMaker" "DAY" "[B" (.ref td) A U H ∧ va_T .byte td 7 (fun j => .int (gd j)) A U H) ∧ (va_Z "DiscMaker" "STANDARD" "[B" (.ref ts) A U H ∧ va_T .byte ts 6 (fun j => .int (gs j)) A U H) ∧ (va_Z "DiscMaker" "LONG_NAMES" "[B" (.ref tl) A U H ∧ va_T .byte tl 3 (fun j => .int (gl j)) A U H)
theorem SZ_blind {td ts tl : Nat} {gd gs gl : Nat → Int32} {A : Nat → Prop} {U : State} {g : JFrame} {mk : MethodId} {a : Array Value} (h : SZ td ts tl gd gs gl A U U.heap) : SZ td ts tl gd gs gl A (U.calling g mk a) (U.calling g mk a).heap :=
  ⟨⟨h.1.1.moved (Vm.Alike.refl U.vm), zT_blind h.1.2⟩, ⟨h.2.1.1.moved (Vm.Alike.refl U.vm), zT_blind h.2.1.2⟩, ⟨h.2.2.1.moved (Vm.Alike.refl U.vm), zT_blind h.2.2.2⟩⟩
theorem zZ_pass {C n d : String} {v : Value} {A B : Nat → Prop} {s U : State} {H : Heap} {locs : List Loc} (h : va_Z C n d v A s s.heap) (hS : va_S A s.heap H locs) (hF : ∀ q, B q → A q) (hW : s.vm.Alike U.vm) (hU : U.heap = H) : va_Z C n d v B U U.heap := by
  rw [hU]
  exact ((h.kept hS.2.1).narrow hF).moved hW
theorem SZ_pass {td ts tl : Nat} {gd gs gl : Nat → Int32} {A B : Nat → Prop} {s U : State} {H : Heap} {locs : List Loc} (h : SZ td ts tl gd gs gl A s s.heap) (hS : va_S A s.heap H locs) (hF : ∀ q, B q → A q) (hW : s.vm.Alike U.vm) (hU : U.heap = H) : SZ td ts tl gd gs gl B U U.heap :=
  ⟨⟨zZ_pass h.1.1 hS hF hW hU, zT_pass h.1.2 hS hF hW hU⟩, ⟨zZ_pass h.2.1.1 hS hF hW hU, zT_pass h.2.1.2 hS hF hW hU⟩, ⟨zZ_pass h.2.2.1 hS hF hW hU, zT_pass h.2.2.2 hS hF hW hU⟩⟩
theorem z_inL {i : Int32} {L n : Nat} (h1 : ¬ i < 0) (h2 : ¬ nI L ≤ i) (hL : L ≤ n) (hn : n < 2147483648) : vp_in i n := by
  rw [vp_in_iff]
  rw [z_lt, z_toInt0] at h1
  rw [z_le, nI_toInt (by omega)] at h2
  omega
