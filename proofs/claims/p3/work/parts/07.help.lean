
/-- within 0 .. m -/
def zIn (x m : Int32) : Prop := ¬ x < 0 ∧ ¬ m < x
theorem z_toInt0 : (0 : Int32).toInt = 0 := by decide
theorem z_toInt1 : (1 : Int32).toInt = 1 := by decide
theorem z_lt {x y : Int32} : x < y ↔ x.toInt < y.toInt := Int32.lt_iff_toInt_lt
theorem z_le {x y : Int32} : x ≤ y ↔ x.toInt ≤ y.toInt := Int32.le_iff_toInt_le
theorem z_eq0 {n : Int32} (h : ¬ n < 0) (h1 : ¬ 1 ≤ n) : n = 0 := by
  rw [z_lt, z_toInt0] at h
  rw [z_le, z_toInt1] at h1
  exact Int32.toInt_inj.mp (by rw [z_toInt0]; omega)
theorem z_eq0' {n : Int32} (h : ¬ n < 0) (h1 : n ≤ 0) : n = 0 := by
  rw [z_lt, z_toInt0] at h
  rw [z_le, z_toInt0] at h1
  exact Int32.toInt_inj.mp (by rw [z_toInt0]; omega)
theorem z_ge0 {n : Int32} (h : ¬ n < 0) : 0 ≤ n := Int32.not_lt.mp h
theorem z_ne_lt {n : Int32} (h : n < 0) : ¬ n = 0 := fun e => by rw [e] at h; exact absurd h (by decide)
theorem z_ne_ge {n : Int32} (h : 1 ≤ n) : ¬ n = 0 := fun e => by rw [e] at h; exact absurd h (by decide)
theorem z_ne_nle {n : Int32} (h : ¬ n ≤ 0) : ¬ n = 0 := fun e => by rw [e] at h; exact h (by decide)
