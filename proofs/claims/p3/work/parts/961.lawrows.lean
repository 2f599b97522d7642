section LZ
variable {D : va_G} {cl : List vw_C} {A A0 : Nat → Prop} {X cx wr rx pl pl1 Z w1 w2 : va_W} {H H1 H0 : Heap} {locs : List Loc}
theorem va_P.init (h : va_P D cl (w1 ++ w2) H) : va_P D cl w1 H := fun k q hk => h k q (by rw [List.getElem?_append_left (List.getElem?_eq_some_iff.mp hk).1]; exact hk)
theorem va_D.init (h : va_D A (w1 ++ w2)) : va_D A w1 := h.by id (fun k q hk => by
  show (w1 ++ w2)[k]? = some q
  rw [List.getElem?_append_left (List.getElem?_eq_some_iff.mp hk).1]; exact hk) (fun _ _ _ _ e => e)
theorem va_P.partZ (h : va_P D cl (X ++ (pl ++ Z)) H) (is : List Nat) (hs : is.map (fun i => X[i]?) = cx.map some) : va_P D cl (cx ++ pl) H := by
  have h1 := h.part is hs
  rw [← List.append_assoc] at h1
  exact h1.init
theorem va_D.partZ (h : va_D A (X ++ (pl ++ Z))) (is : List Nat) (hn : va_nd is = true) (hs : is.map (fun i => X[i]?) = cx.map some) : va_D A (cx ++ pl) := by
  have h1 := h.part is hn hs
  rw [← List.append_assoc] at h1
  exact h1.init
theorem va_freeZ (hDc : va_D A (cx ++ pl)) (hS : va_S A H0 H locs) (hA : ∀ q, H0.size ≤ q → A q) : ∀ q, va_A (cx ++ pl) H.size q → A q := by
  intro q h
  rcases h with ⟨k, e, h⟩ | h
  · exact hDc.2 k (q, e) h
  · exact hA q (Nat.le_trans hS.1 h)
/-- behind a call that had a part of the pool -/
theorem va_joinZ (hP : va_P D cl (X ++ (pl ++ Z)) H) (hD : va_D A0 (X ++ (pl ++ Z))) (hFb : ∀ q, va_A (cx ++ (pl ++ Z)) H.size q → A0 q) (isC isR : List Nat) (hC : isC.map (fun i => X[i]?) = cx.map some) (hR : isR.map (fun i => X[i]?) = wr.map some) (hnC : va_nd isC = true) (hn : va_nd isR = true) (hdis : ∀ i ∈ isR, i ∉ isC)
    (hk : ∀ q : Nat, q < H.size → ¬ va_A (cx ++ pl) H.size q → H1[q]? = H[q]?) (hP1 : va_P D cl (rx ++ pl1) H1) (hD1 : va_D (va_A (cx ++ pl) H.size) (rx ++ pl1)) : va_P D cl ((wr ++ rx) ++ (pl1 ++ Z)) H1 ∧ va_D A0 ((wr ++ rx) ++ (pl1 ++ Z)) := by
  have hDc : va_D A0 ((cx ++ pl) ++ Z) := by rw [List.append_assoc]; exact hD.part isC hnC hC
  have apart : ∀ (k : Nat) (q : Nat × va_E), Z[k]? = some q → ¬ va_A (cx ++ pl) H.size q.1 := by
    intro k q hq hA1
    have h2 : (X ++ (pl ++ Z))[X.length + (pl.length + k)]? = some q := pix (pix hq)
    rcases hA1 with ⟨k2, e, h⟩ | h
    · have h3 : ((cx ++ pl) ++ Z)[k2]? = some (q.1, e) := by rw [List.getElem?_append_left (List.getElem?_eq_some_iff.mp h).1]; exact h
      have h4 : ((cx ++ pl) ++ Z)[(cx ++ pl).length + k]? = some q := pix hq
      have h5 := hDc.1 _ _ _ _ h3 h4 rfl
      have h6 := (List.getElem?_eq_some_iff.mp h).1
      omega
    · have := (hP _ q h2).lt
      omega
  have hPZ : va_P D cl (rx ++ (pl1 ++ Z)) H1 := by
    rw [← List.append_assoc]
    refine hP1.app (fun k q hq => ?_)
    have h2 : (X ++ (pl ++ Z))[X.length + (pl.length + k)]? = some q := pix (pix hq)
    exact (hP _ q h2).kept (hk q.1 (hP _ q h2).lt (apart k q hq))
  have big : ∀ q, va_A (cx ++ pl) H.size q → va_A (cx ++ (pl ++ Z)) H.size q := by
    intro q h
    rcases h with ⟨k, e, h⟩ | h
    · refine Or.inl ⟨k, e, ?_⟩
      rw [← List.append_assoc, List.getElem?_append_left (List.getElem?_eq_some_iff.mp h).1]
      exact h
    · exact Or.inr h
  have hDZ : va_D (va_A (cx ++ (pl ++ Z)) H.size) (rx ++ (pl1 ++ Z)) := by
    rw [show rx ++ (pl1 ++ Z) = (rx ++ pl1) ++ Z from (List.append_assoc rx pl1 Z).symm]
    refine va_D.app (hD1.weaken (fun k q _ h => big _ h)) ⟨fun i j p q hi hj he => ?_, fun k q hq => Or.inl ⟨cx.length + (pl.length + k), q.2, pix (pix hq)⟩⟩ (fun i j x y hx hy hxy => ?_)
    · have h1 : (X ++ (pl ++ Z))[X.length + (pl.length + i)]? = some p := pix (pix hi)
      have h2 : (X ++ (pl ++ Z))[X.length + (pl.length + j)]? = some q := pix (pix hj)
      have := hD.1 _ _ _ _ h1 h2 he
      omega
    · exact apart j y hy (by rw [← hxy]; exact hD1.2 i x hx)
  exact va_joinP hP hD isC isR hC hR hn hdis (fun q h1 h2 => hk q h1 (fun h3 => h2 (big q h3))) hFb hPZ hDZ
theorem va_P.swapZ (h : va_P D cl (X ++ (pl ++ Z)) H) : va_P D cl (X ++ (Z ++ pl)) H := h.perm (List.perm_append_comm.append_left X)
theorem va_D.swapZ (h : va_D A (X ++ (pl ++ Z))) : va_D A (X ++ (Z ++ pl)) := h.perm (List.perm_append_comm.append_left X)
end LZ
theorem PL_0 {C : Nat → va_W} : PL C 0 = [] := rfl
theorem PL_1 {C : Nat → va_W} : PL C 1 = C 0 := by
  show (List.range 1).flatMap C = C 0
  rw [show List.range 1 = [0] from rfl, List.flatMap_cons, List.flatMap_nil, List.append_nil]
theorem rowF_0 {a : Nat → Nat → Nat} : rowF a 0 = fun _ => none := by
  funext k; unfold rowF; rw [if_neg (by omega)]
theorem rowF_1 {a : Nat → Nat → Nat} {q : Nat} (h : a 0 0 = q) : va_up (fun _ => none) 0 (some q) = rowF a 1 := by
  funext k
  unfold va_up rowF
  by_cases e : k = 0
  · rw [if_pos e, if_pos (by omega), e, h]
  · rw [if_neg e, if_neg (by omega)]
theorem Rg_0 {lo hi : Int} {n : Nat} (h1 : lo ≤ 0) (h2 : 0 ≤ hi) : Rg lo hi n (fun _ => 0) := fun _ _ => ⟨h1, h2⟩
theorem TI_1 {fP : Nat → Int32} : TI 1 (fun _ => 0) fP (fun _ => 0) (fun _ => 0) (fun _ => 0) :=
  ⟨by omega, Rg_0 (by omega) (by omega), Rg_0 (by omega) (by omega), Rg_0 (by omega) (by omega), Rg_0 (by omega) (by omega), fun k h1 h2 => absurd h2 (by omega), by decide, by decide⟩
theorem TU_1 {fP : Nat → Int32} : TU 1 fP (fun _ => 0) (fun _ => 0) := ⟨fun a _ i hi => by
  have h : ((0 : Int32)).toInt = 0 := by decide
  have h2 : (i : Int) < (0 : Int32).toInt := hi
  omega, fun a b h1 h2 h3 h4 => absurd h2 (by omega)⟩
theorem R2_0 {n : Int} {f g : Nat → Int32} (h : n ≤ 0) : R2 n f g := fun k hk => absurd hk (by omega)
theorem ROn_0 {n : Int} {g : Nat → Nat → Int32} (h : n ≤ 0) : ROn n g := fun k hk => absurd hk (by omega)
