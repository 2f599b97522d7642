/-- the next slash from q on, or the end -/
def nxS (t : Nat → Int32) (n q : Nat) : Nat := if q < n ∧ (t q).toInt ≠ 47 then nxS t n (q + 1) else q
termination_by n - q
theorem nxS_ge (t : Nat → Int32) (n q : Nat) : q ≤ nxS t n q := by
  induction h : n - q generalizing q with
  | zero => rw [nxS, if_neg (by omega)]; exact Nat.le_refl _
  | succ k ih =>
    rw [nxS]
    split
    · have := ih (q + 1) (by omega); omega
    · exact Nat.le_refl _
theorem nxS_le (t : Nat → Int32) (n q : Nat) (hq : q ≤ n) : nxS t n q ≤ n := by
  induction h : n - q generalizing q with
  | zero => rw [nxS, if_neg (by omega)]; exact hq
  | succ k ih =>
    rw [nxS]
    split
    · exact ih (q + 1) (by omega) (by omega)
    · exact hq
def cbF (t : Nat → Int32) (p q : Nat) : Nat := if p < q then 2 + (if (q = p + 1 ∧ (t p).toInt = 46) ∨ (q = p + 2 ∧ (t p).toInt = 46 ∧ (t (p + 1)).toInt = 46) then 0 else q - p) else 0
/-- how many bytes the components of a target have, from p on -/
def cmL (t : Nat → Int32) (n p all : Nat) : Nat := if p < n then cmL t n (nxS t n p + 1) (all + cbF t p (nxS t n p)) else all
termination_by n - p
decreasing_by have := nxS_ge t n p; omega
def cmF (t : Nat → Int32) (n : Nat) : Nat := cmL t n 0 (if (t 0).toInt = 47 then 2 else 0)
theorem cmL_end {t : Nat → Int32} {n p all : Nat} (h : ¬ p < n) : cmL t n p all = all := by rw [cmL, if_neg h]
theorem cmL_go {t : Nat → Int32} {n p all : Nat} (h : p < n) : cmL t n p all = cmL t n (nxS t n p + 1) (all + cbF t p (nxS t n p)) := by rw [cmL, if_pos h]
theorem nxS_go {t : Nat → Int32} {n q : Nat} (h1 : q < n) (h2 : ¬ (t q).toInt = 47) : nxS t n q = nxS t n (q + 1) := by rw [nxS, if_pos ⟨h1, h2⟩]
theorem nxS_end {t : Nat → Int32} {n q : Nat} (h : ¬ q < n ∨ (t q).toInt = 47) : nxS t n q = q := by rw [nxS, if_neg (by omega)]
theorem cbF_le (t : Nat → Int32) (p q : Nat) (h : p ≤ q) : 2 * cbF t p q ≤ 3 * (q + 1 - p) := by
  unfold cbF
  split
  · split <;> omega
  · omega
theorem cmL_le (t : Nat → Int32) (n p all : Nat) : 2 * cmL t n p all ≤ 2 * all + 3 * (n + 1 - p) := by
  induction h : n - p using Nat.strongRecOn generalizing p all with
  | _ k ih =>
    by_cases hp : p < n
    · rw [cmL_go hp]
      have h1 := nxS_ge t n p
      have h2 := nxS_le t n p (by omega)
      have h3 := ih (n - (nxS t n p + 1)) (by omega) (nxS t n p + 1) (all + cbF t p (nxS t n p)) rfl
      have h4 := cbF_le t p (nxS t n p) h1
      omega
    · rw [cmL_end hp]; omega
theorem cmF_le (t : Nat → Int32) (n : Nat) (hn : n ≤ 200) : cmF t n ≤ 303 := by
  have := cmL_le t n 0 (if (t 0).toInt = 47 then 2 else 0)
  unfold cmF
  split at this <;> rename_i h <;> simp only [h, if_true, if_false] at * <;> omega
