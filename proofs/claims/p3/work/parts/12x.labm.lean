section ZM9
variable {p : Program} {l : Launch} {e : Env} {R : Room} {s : State} {m : MethodId} {args : Array Value} {below : List Frame} {meth : Method} {c : Code} {H : Heap} {locs : List Loc} {cells slots : Nat} {Q : State → Prop}
/-- a place that is come to from several others, or again: its names and facts one by one -/
theorem zz_labM {B : Nat → (Heap → List Loc → Array Slot → List Value → Prop) → Prop} {g : JFrame} (pcL : Nat)
    (body : ∀ n : Nat, (∀ k : Nat, k < n → B k (fun H locs ls st => W p l e R s m args below meth c H locs cells slots Q (F0 m pcL ls st))) → B n (fun H locs ls st => W p l e R s m args below meth c H locs cells slots Q (F0 m pcL ls st)))
    (rest : (∀ n : Nat, B n (fun H locs ls st => W p l e R s m args below meth c H locs cells slots Q (F0 m pcL ls st))) → W p l e R s m args below meth c H locs cells slots Q g) : W p l e R s m args below meth c H locs cells slots Q g :=
  rest (fun n => Nat.strongRecOn n body)
end ZM9
