/-- the next slash from q on, or the end -/
def nxS (t : Nat → Int32) (n q : Nat) : Nat := if q < n ∧ (t q).toInt ≠ 47 then nxS t n (q + 1) else q
termination_by n - q
theorem nxS_ge (t : Nat → Int32) (n q : Nat) : q ≤ nxS t n q := by
  induction h : n - q generalizing q with
  | zero => rw [nxS, if_neg (by omega)]; exact Nat.le_refl _
  | succ k ih =>
    rw [nxS]
    split
    · have := ih (q + 1) (by omega); omega
    · exact Nat.le_refl _
theorem nxS_le (t : Nat → Int32) (n q : Nat) (hq : q ≤ n) : nxS t n q ≤ n := by
  induction h : n - q generalizing q with
  | zero => rw [nxS, if_neg (by omega)]; exact hq
  | succ k ih =>
    rw [nxS]
    split
    · exact ih (q + 1) (by omega) (by omega)
    · exact hq
def cbF (t : Nat → Int32) (p q : Nat) : Nat := if p < q then 2 + (if (q = p + 1 ∧ (t p).toInt = 46) ∨ (q = p + 2 ∧ (t p).toInt = 46 ∧ (t (p + 1)).toInt = 46) then 0 else q - p) else 0
/-- how many bytes the components of a target have, from p on -/
def cmL (t : Nat → Int32) (n p all : Nat) : Nat := if p < n then cmL t n (nxS t n p + 1) (all + cbF t p (nxS t n p)) else all
termination_by n - p
decreasing_by have := nxS_ge t n p; omega
def cmF (t : Nat → Int32) (n : Nat) : Nat := cmL t n 0 (if (t 0).toInt = 47 then 2 else 0)
theorem cmL_end {t : Nat → Int32} {n p all : Nat} (h : ¬ p < n) : cmL t n p all = all := by rw [cmL, if_neg h]
theorem cmL_go {t : Nat → Int32} {n p all : Nat} (h : p < n) : cmL t n p all = cmL t n (nxS t n p + 1) (all + cbF t p (nxS t n p)) := by rw [cmL, if_pos h]
theorem nxS_go {t : Nat → Int32} {n q : Nat} (h1 : q < n) (h2 : ¬ (t q).toInt = 47) : nxS t n q = nxS t n (q + 1) := by rw [nxS, if_pos ⟨h1, h2⟩]
theorem nxS_end {t : Nat → Int32} {n q : Nat} (h : ¬ q < n ∨ (t q).toInt = 47) : nxS t n q = q := by rw [nxS, if_neg (by omega)]
theorem cbF_le (t : Nat → Int32) (p q : Nat) (h : p ≤ q) : 2 * cbF t p q ≤ 3 * (q + 1 - p) := by
  unfold cbF
  split
  · split <;> omega
  · omega
theorem cmL_le (t : Nat → Int32) (n p all : Nat) : 2 * cmL t n p all ≤ 2 * all + 3 * (n + 1 - p) := by
  induction h : n - p using Nat.strongRecOn generalizing p all with
  | _ k ih =>
    by_cases hp : p < n
    · rw [cmL_go hp]
      have h1 := nxS_ge t n p
      have h2 := nxS_le t n p (by omega)
      have h3 := ih (n - (nxS t n p + 1)) (by omega) (nxS t n p + 1) (all + cbF t p (nxS t n p)) rfl
      have h4 := cbF_le t p (nxS t n p) h1
      omega
    · rw [cmL_end hp]; omega
theorem cmF_le (t : Nat → Int32) (n : Nat) (hn : n ≤ 200) : cmF t n ≤ 303 := by
  have := cmL_le t n 0 (if (t 0).toInt = 47 then 2 else 0)
  unfold cmF
  split at this <;> rename_i h <;> simp only [h, if_true, if_false] at * <;> omega
theorem cmL_all (t : Nat → Int32) (n p all : Nat) : all ≤ cmL t n p all := by
  induction h : n - p using Nat.strongRecOn generalizing p all with
  | _ k ih =>
    by_cases hp : p < n
    · rw [cmL_go hp]
      have h1 := nxS_ge t n p
      have h3 := ih (n - (nxS t n p + 1)) (by omega) (nxS t n p + 1) (all + cbF t p (nxS t n p)) rfl
      omega
    · rw [cmL_end hp]; omega
def tgF (fT : Nat → Int32) (k i : Nat) : Int32 := fT (200 * k + i)
/-- how many bytes a part has -/
def psF (fK fNS fT fTS : Nat → Int32) (pt so : Int) (k : Nat) : Int :=
  if pt = 0 then (if so = 0 ∧ k = 0 then 7 else 0) else if pt = 1 then 36 else if so < 2 then 0 else if pt = 2 then 5 + (fNS k).toInt else if (fK k).toInt = 2 then 5 + ((cmF (tgF fT k) (fTS k).toInt.toNat : Nat) : Int) else 0
theorem psF_le {fK fNS fT fTS : Nat → Int32} {k : Nat} (pt so : Int) (h1 : 0 ≤ (fNS k).toInt ∧ (fNS k).toInt ≤ 30) (h2 : (fTS k).toInt ≤ 200) : 0 ≤ psF fK fNS fT fTS pt so k ∧ psF fK fNS fT fTS pt so k ≤ 308 := by
  have := cmF_le (tgF fT k) (fTS k).toInt.toNat (by omega)
  unfold psF
  split
  · split <;> omega
  · split
    · omega
    · split
      · omega
      · split
        · omega
        · split <;> omega
theorem psF_low {fK fNS fT fTS : Nat → Int32} {k : Nat} {so : Int} (h : so < 2) : psF fK fNS fT fTS 0 so k ≤ 7 ∧ psF fK fNS fT fTS 1 so k = 36 ∧ psF fK fNS fT fTS 2 so k = 0 ∧ psF fK fNS fT fTS 3 so k = 0 := by
  unfold psF
  refine ⟨?_, ?_, ?_, ?_⟩
  · rw [if_pos rfl]; split <;> omega
  · rw [if_neg (by decide), if_pos rfl]
  · rw [if_neg (by decide), if_neg (by decide), if_pos h]
  · rw [if_neg (by decide), if_neg (by decide), if_pos h]
def idF (fK fNS fBs fEs : Nat → Int32) (t so : Int) (k : Nat) : Int := if so < 2 then 1 else if t = 1 then 2 * (fNS k).toInt else if (fK k).toInt = 0 then (fBs k).toInt else (fBs k).toInt + (fEs k).toInt + 3
theorem idF_le {fK fNS fBs fEs : Nat → Int32} {k : Nat} (t so : Int) (h1 : 0 ≤ (fNS k).toInt ∧ (fNS k).toInt ≤ 30) (h2 : 0 ≤ (fBs k).toInt ∧ (fBs k).toInt ≤ 8) (h3 : 0 ≤ (fEs k).toInt ∧ (fEs k).toInt ≤ 3) : 0 ≤ idF fK fNS fBs fEs t so k ∧ idF fK fNS fBs fEs t so k ≤ 60 ∧ (t = 0 → idF fK fNS fBs fEs t so k ≤ 14) := by
  unfold idF
  split
  · omega
  · split
    · omega
    · split <;> omega
theorem psF_b {fK fNS fT fTS : Nat → Int32} {k : Nat} (so : Int) (h1 : 0 ≤ (fNS k).toInt ∧ (fNS k).toInt ≤ 30) : psF fK fNS fT fTS 0 so k ≤ 7 ∧ psF fK fNS fT fTS 1 so k = 36 ∧ psF fK fNS fT fTS 2 so k ≤ 35 := by
  unfold psF
  refine ⟨?_, ?_, ?_⟩
  · rw [if_pos rfl]; split <;> omega
  · rw [if_neg (by decide), if_pos rfl]
  · rw [if_neg (by decide), if_neg (by decide)]
    split
    · omega
    · rw [if_pos rfl]; omega
