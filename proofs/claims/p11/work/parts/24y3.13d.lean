theorem ch_b4 {I0 I1 I2 I3 I4 I5 I6 I7 I8 : Nat → Int} {x : Int} {a1 y1 a2 y2 a3 y3 a4 y4 a5 y5 a6 y6 a7 y7 a8 y8 : Int} {c : Nat → Int} (h1 : Pt I0 I1 a1 y1) (h2 : Pt I1 I2 a2 y2) (h3 : Pt I2 I3 a3 y3) (h4 : Pt I3 I4 a4 y4) (h5 : Pt I4 I5 a5 y5) (h6 : Pt I5 I6 a6 y6) (h7 : Pt I6 I7 a7 y7) (h8 : Pt I7 I8 a8 y8) (e1 : a1 = x + 0) (e2 : a2 = x + 7) (e3 : a3 = x + 1) (e4 : a4 = x + 6) (e5 : a5 = x + 2) (e6 : a6 = x + 5) (e7 : a7 = x + 3) (e8 : a8 = x + 4) (v1 : y1 % 256 = c 0) (v2 : y2 % 256 = c 7) (v3 : y3 % 256 = c 1) (v4 : y4 % 256 = c 6) (v5 : y5 % 256 = c 2) (v6 : y6 % 256 = c 5) (v7 : y7 % 256 = c 3) (v8 : y8 % 256 = c 4) : Bl I0 I8 x 8 c := fun p => by
  rw [h8 p, h7 p, h6 p, h5 p, h4 p, h3 p, h2 p, h1 p]
  by_cases r : x ≤ (p : Int) ∧ (p : Int) < x + 8
  · rw [if_pos (c := x ≤ (p : Int) ∧ (p : Int) < x + 8) r]
    rcases (show (p : Int) = x + 0 ∨ (p : Int) = x + 1 ∨ (p : Int) = x + 2 ∨ (p : Int) = x + 3 ∨ (p : Int) = x + 4 ∨ (p : Int) = x + 5 ∨ (p : Int) = x + 6 ∨ (p : Int) = x + 7 by omega) with q | q | q | q | q | q | q | q
    · rw [if_neg (by omega), if_neg (by omega), if_neg (by omega), if_neg (by omega), if_neg (by omega), if_neg (by omega), if_neg (by omega), if_pos (by omega), v1, show ((p : Int) - x).toNat = 0 by omega]
    · rw [if_neg (by omega), if_neg (by omega), if_neg (by omega), if_neg (by omega), if_neg (by omega), if_pos (by omega), v3, show ((p : Int) - x).toNat = 1 by omega]
    · rw [if_neg (by omega), if_neg (by omega), if_neg (by omega), if_pos (by omega), v5, show ((p : Int) - x).toNat = 2 by omega]
    · rw [if_neg (by omega), if_pos (by omega), v7, show ((p : Int) - x).toNat = 3 by omega]
    · rw [if_pos (by omega), v8, show ((p : Int) - x).toNat = 4 by omega]
    · rw [if_neg (by omega), if_neg (by omega), if_pos (by omega), v6, show ((p : Int) - x).toNat = 5 by omega]
    · rw [if_neg (by omega), if_neg (by omega), if_neg (by omega), if_neg (by omega), if_pos (by omega), v4, show ((p : Int) - x).toNat = 6 by omega]
    · rw [if_neg (by omega), if_neg (by omega), if_neg (by omega), if_neg (by omega), if_neg (by omega), if_neg (by omega), if_pos (by omega), v2, show ((p : Int) - x).toNat = 7 by omega]
  · rw [if_neg (c := x ≤ (p : Int) ∧ (p : Int) < x + 8) r, if_neg (by omega), if_neg (by omega), if_neg (by omega), if_neg (by omega), if_neg (by omega), if_neg (by omega), if_neg (by omega), if_neg (by omega)]
theorem ch_b2 {I0 I1 I2 I3 I4 : Nat → Int} {x : Int} {a1 y1 a2 y2 a3 y3 a4 y4 : Int} {c : Nat → Int} (h1 : Pt I0 I1 a1 y1) (h2 : Pt I1 I2 a2 y2) (h3 : Pt I2 I3 a3 y3) (h4 : Pt I3 I4 a4 y4) (e1 : a1 = x + 0) (e2 : a2 = x + 3) (e3 : a3 = x + 1) (e4 : a4 = x + 2) (v1 : y1 % 256 = c 0) (v2 : y2 % 256 = c 3) (v3 : y3 % 256 = c 1) (v4 : y4 % 256 = c 2) : Bl I0 I4 x 4 c := fun p => by
  rw [h4 p, h3 p, h2 p, h1 p]
  by_cases r : x ≤ (p : Int) ∧ (p : Int) < x + 4
  · rw [if_pos (c := x ≤ (p : Int) ∧ (p : Int) < x + 4) r]
    rcases (show (p : Int) = x + 0 ∨ (p : Int) = x + 1 ∨ (p : Int) = x + 2 ∨ (p : Int) = x + 3 by omega) with q | q | q | q
    · rw [if_neg (by omega), if_neg (by omega), if_neg (by omega), if_pos (by omega), v1, show ((p : Int) - x).toNat = 0 by omega]
    · rw [if_neg (by omega), if_pos (by omega), v3, show ((p : Int) - x).toNat = 1 by omega]
    · rw [if_pos (by omega), v4, show ((p : Int) - x).toNat = 2 by omega]
    · rw [if_neg (by omega), if_neg (by omega), if_pos (by omega), v2, show ((p : Int) - x).toNat = 3 by omega]
  · rw [if_neg (c := x ≤ (p : Int) ∧ (p : Int) < x + 4) r, if_neg (by omega), if_neg (by omega), if_neg (by omega), if_neg (by omega)]
theorem ch_u4 {I0 I1 I2 I3 I4 : Nat → Int} {x : Int} {a1 y1 a2 y2 a3 y3 a4 y4 : Int} {c : Nat → Int} (h1 : Pt I0 I1 a1 y1) (h2 : Pt I1 I2 a2 y2) (h3 : Pt I2 I3 a3 y3) (h4 : Pt I3 I4 a4 y4) (e1 : a1 = x + 0) (e2 : a2 = x + 1) (e3 : a3 = x + 2) (e4 : a4 = x + 3) (v1 : y1 % 256 = c 0) (v2 : y2 % 256 = c 1) (v3 : y3 % 256 = c 2) (v4 : y4 % 256 = c 3) : Bl I0 I4 x 4 c := fun p => by
  rw [h4 p, h3 p, h2 p, h1 p]
  by_cases r : x ≤ (p : Int) ∧ (p : Int) < x + 4
  · rw [if_pos (c := x ≤ (p : Int) ∧ (p : Int) < x + 4) r]
    rcases (show (p : Int) = x + 0 ∨ (p : Int) = x + 1 ∨ (p : Int) = x + 2 ∨ (p : Int) = x + 3 by omega) with q | q | q | q
    · rw [if_neg (by omega), if_neg (by omega), if_neg (by omega), if_pos (by omega), v1, show ((p : Int) - x).toNat = 0 by omega]
    · rw [if_neg (by omega), if_neg (by omega), if_pos (by omega), v2, show ((p : Int) - x).toNat = 1 by omega]
    · rw [if_neg (by omega), if_pos (by omega), v3, show ((p : Int) - x).toNat = 2 by omega]
    · rw [if_pos (by omega), v4, show ((p : Int) - x).toNat = 3 by omega]
  · rw [if_neg (c := x ≤ (p : Int) ∧ (p : Int) < x + 4) r, if_neg (by omega), if_neg (by omega), if_neg (by omega), if_neg (by omega)]
theorem ch_u2 {I0 I1 I2 : Nat → Int} {x : Int} {a1 y1 a2 y2 : Int} {c : Nat → Int} (h1 : Pt I0 I1 a1 y1) (h2 : Pt I1 I2 a2 y2) (e1 : a1 = x + 0) (e2 : a2 = x + 1) (v1 : y1 % 256 = c 0) (v2 : y2 % 256 = c 1) : Bl I0 I2 x 2 c := fun p => by
  rw [h2 p, h1 p]
  by_cases r : x ≤ (p : Int) ∧ (p : Int) < x + 2
  · rw [if_pos (c := x ≤ (p : Int) ∧ (p : Int) < x + 2) r]
    rcases (show (p : Int) = x + 0 ∨ (p : Int) = x + 1 by omega) with q | q
    · rw [if_neg (by omega), if_pos (by omega), v1, show ((p : Int) - x).toNat = 0 by omega]
    · rw [if_pos (by omega), v2, show ((p : Int) - x).toNat = 1 by omega]
  · rw [if_neg (c := x ≤ (p : Int) ∧ (p : Int) < x + 2) r, if_neg (by omega), if_neg (by omega)]
theorem ch_d4 {I0 I1 I2 I3 I4 : Nat → Int} {x : Int} {a1 y1 a2 y2 a3 y3 a4 y4 : Int} {c : Nat → Int} (h1 : Pt I0 I1 a1 y1) (h2 : Pt I1 I2 a2 y2) (h3 : Pt I2 I3 a3 y3) (h4 : Pt I3 I4 a4 y4) (e1 : a1 = x + 3) (e2 : a2 = x + 2) (e3 : a3 = x + 1) (e4 : a4 = x + 0) (v1 : y1 % 256 = c 3) (v2 : y2 % 256 = c 2) (v3 : y3 % 256 = c 1) (v4 : y4 % 256 = c 0) : Bl I0 I4 x 4 c := fun p => by
  rw [h4 p, h3 p, h2 p, h1 p]
  by_cases r : x ≤ (p : Int) ∧ (p : Int) < x + 4
  · rw [if_pos (c := x ≤ (p : Int) ∧ (p : Int) < x + 4) r]
    rcases (show (p : Int) = x + 0 ∨ (p : Int) = x + 1 ∨ (p : Int) = x + 2 ∨ (p : Int) = x + 3 by omega) with q | q | q | q
    · rw [if_pos (by omega), v4, show ((p : Int) - x).toNat = 0 by omega]
    · rw [if_neg (by omega), if_pos (by omega), v3, show ((p : Int) - x).toNat = 1 by omega]
    · rw [if_neg (by omega), if_neg (by omega), if_pos (by omega), v2, show ((p : Int) - x).toNat = 2 by omega]
    · rw [if_neg (by omega), if_neg (by omega), if_neg (by omega), if_pos (by omega), v1, show ((p : Int) - x).toNat = 3 by omega]
  · rw [if_neg (c := x ≤ (p : Int) ∧ (p : Int) < x + 4) r, if_neg (by omega), if_neg (by omega), if_neg (by omega), if_neg (by omega)]
theorem ch_d2 {I0 I1 I2 : Nat → Int} {x : Int} {a1 y1 a2 y2 : Int} {c : Nat → Int} (h1 : Pt I0 I1 a1 y1) (h2 : Pt I1 I2 a2 y2) (e1 : a1 = x + 1) (e2 : a2 = x + 0) (v1 : y1 % 256 = c 1) (v2 : y2 % 256 = c 0) : Bl I0 I2 x 2 c := fun p => by
  rw [h2 p, h1 p]
  by_cases r : x ≤ (p : Int) ∧ (p : Int) < x + 2
  · rw [if_pos (c := x ≤ (p : Int) ∧ (p : Int) < x + 2) r]
    rcases (show (p : Int) = x + 0 ∨ (p : Int) = x + 1 by omega) with q | q
    · rw [if_pos (by omega), v2, show ((p : Int) - x).toNat = 0 by omega]
    · rw [if_neg (by omega), if_pos (by omega), v1, show ((p : Int) - x).toNat = 1 by omega]
  · rw [if_neg (c := x ≤ (p : Int) ∧ (p : Int) < x + 2) r, if_neg (by omega), if_neg (by omega)]
