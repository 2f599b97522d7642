theorem atB_im {f : Nat → Int32} {L x : Int32} (h0 : 0 ≤ x.toInt) (h1 : x.toInt < L.toInt) : (atB f L x).toInt = imC f x.toNatClampNeg := by
  unfold atB
  rw [if_pos ⟨h0, h1⟩]
  exact i_and255m _
