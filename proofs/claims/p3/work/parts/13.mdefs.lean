def MO (a : Nat → Nat) (v_thrown v_length v_nodes v_many v_directories v_runsFrom v_runs v_read v_wrong v_isNamed v_goes v_goesSize v_goesAt v_targetParts v_isRoot : Int32) : List Value := [.int v_thrown, .ref (a 0), .int v_length, .int v_nodes, .ref (a 1), .ref (a 2), .ref (a 3), .ref (a 4), .ref (a 5), .ref (a 6), .ref (a 7), .ref (a 8), .ref (a 9), .ref (a 10), .ref (a 11), .ref (a 12), .ref (a 13), .ref (a 14), .ref (a 15), .ref (a 16), .int v_many, .ref (a 17), .ref (a 18), .ref (a 19), .ref (a 20), .int v_directories, .int v_runsFrom, .int v_runs, .int v_read, .ref (a 21), .ref (a 22), .ref (a 23), .ref (a 24), .ref (a 25), .ref (a 26), .ref (a 27), .ref (a 28), .ref (a 29), .ref (a 30), .ref (a 31), .ref (a 32), .int v_wrong, .int v_isNamed, .int v_goes, .int v_goesSize, .int v_goesAt, .int v_targetParts, .int v_isRoot]
def atF (F : Nat → Int64) (x : Int32) : Int32 := ((F (x >>> (3 &&& 31)).toNatClampNeg) >>> ((((8 : Int32) * (x &&& 7)) : Int32).toInt64 &&& 63) &&& 255).toInt32
def sh8 (v : Int32) : Int32 := v <<< ((8 : Int32) &&& 31)
def low2F (F : Nat → Int64) (x : Int32) : Int32 := sh8 (sh8 0 ||| atF F (x + 1)) ||| atF F (x + 0)
def low4F (F : Nat → Int64) (x : Int32) : Int32 := sh8 (sh8 (sh8 (sh8 0 ||| atF F (x + 3)) ||| atF F (x + 2)) ||| atF F (x + 1)) ||| atF F (x + 0)
def mkF (F : Nat → Int64) (x : Int32) : Int32 := if (atF F (x + 25) &&& 2).toInt = 0 then 0 else 1
theorem atF_rng (F : Nat → Int64) (x : Int32) : 0 ≤ (atF F x).toInt ∧ (atF F x).toInt ≤ 255 := i_and255 _
/-- a record that was found right -/
def RecOK (F : Nat → Int64) (many x : Int32) : Prop := 34 ≤ (atF F x).toInt ∧ x.toInt % 2048 + (atF F x).toInt ≤ 2048 ∧ 33 + (atF F (x + 32)).toInt ≤ (atF F x).toInt ∧ 0 < (atF F (x + 32)).toInt ∧
  ((mkF F x).toInt ≠ 0 → 0 < (low4F F (x + 10)).toInt ∧ 0 ≤ (low4F F (x + 2)).toInt ∧ (low4F F (x + 2)).toInt * 2048 + (low4F F (x + 10)).toInt ≤ 2048 * many.toInt) ∧
  ((low4F F (x + 10)).toInt = 0 ∨ (0 < (low4F F (x + 10)).toInt ∧ 0 ≤ (low4F F (x + 2)).toInt ∧ (low4F F (x + 2)).toInt * 2048 + (low4F F (x + 10)).toInt ≤ 2048 * many.toInt))
/-- what holds of the nodes that were read -/
def RdOK (many : Int) (n : Int) (fD fB fP : Nat → Int32) : Prop := ∀ k : Nat, (k : Int) < n → ((fD k).toInt ≠ 0 → 0 < (fB k).toInt ∧ 0 ≤ (fP k).toInt ∧ (fP k).toInt * 2048 + (fB k).toInt ≤ 2048 * many) ∧ (0 < (fB k).toInt → 0 ≤ (fP k).toInt)
theorem RdOK_push {F : Nat → Int64} {many y : Int32} {n : Int} {rd : Nat} {fD fB fP gD gB gP : Nat → Int32} (h : RdOK many.toInt n fD fB fP) (hr : RecOK F many y) (hn : (rd : Int) = n) (e1 : gD = upd fD rd (vp_nar .boolean (mkF F y))) (e2 : gB = upd fB rd (low4F F (y + 10))) (e3 : gP = upd fP rd (low4F F (y + 2))) : RdOK many.toInt (n + 1) gD gB gP := fun k hk => by
  rw [e1, e2, e3]
  unfold upd
  by_cases hkr : k = rd
  · rw [if_pos hkr, if_pos hkr, if_pos hkr]
    obtain ⟨-, -, -, -, h5, h6⟩ := hr
    refine ⟨fun h7 => h5 (fun h8 => h7 ?_), fun h7 => by omega⟩
    rw [show mkF F y = 0 from Int32.toInt_inj.mp (h8.trans (by decide))]
    decide
  · rw [if_neg hkr, if_neg hkr, if_neg hkr]
    exact h k (by omega)
/-- what holds of them between calls -/
def R2 (n : Int) (fB fP : Nat → Int32) : Prop := ∀ k : Nat, (k : Int) < n → 0 < (fB k).toInt → 0 ≤ (fP k).toInt
theorem RdOK.r2 {many n : Int} {fD fB fP : Nat → Int32} (h : RdOK many n fD fB fP) : R2 n fB fP := fun k hk => (h k hk).2
