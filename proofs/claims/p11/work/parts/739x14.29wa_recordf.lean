theorem out_pos {dt : Nat → Nat → Int} {k : Nat} {so : Int} (h : DtR dt k) (hn : ¬ alS dt so k ≤ 254 - hdS dt 0 so k) : outS dt so k = 5 + dt 4 k ∧ 0 ≤ dt 4 k ∧ ¬ so < 2 ∧ dt 0 k = 2 := by
  have hd := hdS_rng h 0 so
  have hd2 := hd.2.2 rfl
  obtain ⟨r0, r1, r2, r3, r4⟩ := h
  unfold alS at hn
  unfold outS
  by_cases c : so < 2
  · rw [if_pos c] at hn
    split at hn <;> omega
  · rw [if_neg c] at hn ⊢
    by_cases d : dt 0 k = 2
    · rw [if_pos d] at hn ⊢
      rw [if_neg hn]; exact ⟨rfl, r4.1, c, d⟩
    · rw [if_neg d] at hn; omega
