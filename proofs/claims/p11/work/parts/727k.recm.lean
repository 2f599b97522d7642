section
variable {dt : Nat → Nat → Int} {fK fNS fBs fEs fT fTS : Nat → Int32} {t so r : Int} {k : Nat}
theorem idF_S (h0 : dt 0 k = (fK k).toInt) (h1 : dt 1 k = (fNS k).toInt) (h2 : so < 2 ∨ dt 2 k = (fBs k).toInt) (h3 : so < 2 ∨ dt 3 k = (fEs k).toInt) : idF fK fNS fBs fEs t so k = idS dt t so k := by
  unfold idF idS
  by_cases c : so < 2
  · rw [if_pos c, if_pos c]
  · rw [if_neg c, if_neg c, h0, h1, h2.resolve_left c, h3.resolve_left c]
theorem ps_S (h0 : dt 0 k = (fK k).toInt) (h1 : dt 1 k = (fNS k).toInt) (h4 : (fK k).toInt = 2 → dt 4 k = ((cmF (tgF fT k) (fTS k).toInt.toNat : Nat) : Int)) : psF fK fNS fT fTS 0 so k + psF fK fNS fT fTS 1 so k + psF fK fNS fT fTS 2 so k + psF fK fNS fT fTS 3 so k = alS dt so k := by
  have p0 : psF fK fNS fT fTS 0 so k = if so = 0 ∧ k = 0 then 7 else 0 := by unfold psF; rw [if_pos rfl]
  have p1 : psF fK fNS fT fTS 1 so k = 36 := by unfold psF; rw [if_neg (show ¬ (1 : Int) = 0 by decide), if_pos rfl]
  have p2 : psF fK fNS fT fTS 2 so k = if so < 2 then 0 else 5 + (fNS k).toInt := by
    unfold psF
    rw [if_neg (show ¬ (2 : Int) = 0 by decide), if_neg (show ¬ (2 : Int) = 1 by decide)]
    by_cases c : so < 2
    · rw [if_pos c, if_pos c]
    · rw [if_neg c, if_neg c, if_pos rfl]
  have p3 : psF fK fNS fT fTS 3 so k = if so < 2 then 0 else if (fK k).toInt = 2 then 5 + ((cmF (tgF fT k) (fTS k).toInt.toNat : Nat) : Int) else 0 := by
    unfold psF
    rw [if_neg (show ¬ (3 : Int) = 0 by decide), if_neg (show ¬ (3 : Int) = 1 by decide)]
    by_cases c : so < 2
    · rw [if_pos c, if_pos c]
    · rw [if_neg c, if_neg c, if_neg (show ¬ (3 : Int) = 2 by decide)]
  rw [p0, p1, p2, p3]
  unfold alS
  rw [h0, h1]
  by_cases c : so < 2
  · rw [if_pos c, if_pos c, if_pos c]
    by_cases d : so = 0 ∧ k = 0
    · rw [if_pos d, if_pos d]; omega
    · rw [if_neg d, if_neg d]; omega
  · rw [if_neg c, if_neg c, if_neg c, if_neg (fun h => c (by omega))]
    by_cases d : (fK k).toInt = 2
    · rw [if_pos d, if_pos d, h4 d]; omega
    · rw [if_neg d, if_neg d]; omega
theorem ps_3 (h0 : dt 0 k = (fK k).toInt) (h4 : (fK k).toInt = 2 → dt 4 k = ((cmF (tgF fT k) (fTS k).toInt.toNat : Nat) : Int)) : psF fK fNS fT fTS 3 so k = if so < 2 then 0 else if dt 0 k = 2 then 5 + dt 4 k else 0 := by
  unfold psF
  rw [if_neg (by decide), if_neg (by decide), if_neg (show ¬ (3 : Int) = 2 by decide), h0]
  by_cases d : (fK k).toInt = 2
  · rw [h4 d]
  · rw [if_neg d, if_neg d]
/-- outside, as dt has it -/
theorem out_S (hR : DtR dt k) (h0 : dt 0 k = (fK k).toInt) (h4 : (fK k).toInt = 2 → dt 4 k = ((cmF (tgF fT k) (fTS k).toInt.toNat : Nat) : Int)) (h : (alS dt so k ≤ 254 - hdS dt 0 so k ∧ r = 0) ∨ (254 - hdS dt 0 so k < alS dt so k ∧ r = psF fK fNS fT fTS 3 so k)) : r = outS dt so k := by
  have hh := (hdS_rng hR 0 so).2.2 rfl
  rw [ps_3 h0 h4] at h
  obtain ⟨r0, r1, r2, r3, r4⟩ := hR
  unfold alS at h
  unfold outS
  by_cases c : so < 2
  · rw [if_pos c] at h ⊢
    rw [if_pos c] at h
    rcases h with h | h
    · exact h.2
    · exact h.2
  · rw [if_neg c] at h ⊢
    rw [if_neg c] at h
    by_cases d : dt 0 k = 2
    · rw [if_pos d] at h ⊢
      rw [if_pos d] at h
      by_cases e : 46 + dt 1 k + dt 4 k ≤ 254 - hdS dt 0 so k
      · rw [if_pos e]; omega
      · rw [if_neg e]; omega
    · rw [if_neg d] at h ⊢
      rw [if_neg d] at h
      omega
theorem rec_S {o : Int} (ho : o = outS dt so k) (h : (t = 1 ∧ r = hdS dt 1 so k) ∨ (t = 0 ∧ r = hdS dt 0 so k + (alS dt so k - o + (if 0 < o then 28 else 0) + (alS dt so k - o + (if 0 < o then 28 else 0)) % 2))) (hp : 0 ≤ o) : r = recS dt t so k := by
  unfold recS useS
  rcases h with ⟨a, b⟩ | ⟨a, b⟩
  · rw [if_pos a]; exact b
  · rw [if_neg (by omega), ← ho]
    by_cases c : o = 0
    · rw [if_pos c]
      rw [if_neg (by omega)] at b
      omega
    · rw [if_neg c]
      rw [if_pos (by omega)] at b
      omega
end
theorem cm_comp_go (f : Nat → Int32) (n p all : Nat) (hp : p ≤ n + 1) (hF : cpF f n p = p) : ((cmL f n p all : Nat) : Int) = all + (cpT f n (n + 1) - cpT f n p) := by
  induction h : n + 1 - p using Nat.strongRecOn generalizing p all with
  | _ m ih =>
    by_cases c : p < n
    · have h1 := nxS_ge f n p
      have h2 := nxS_le f n p (by omega)
      have walk : ∀ q, p ≤ q → q ≤ nxS f n p → cpF f n q = p ∧ cpT f n q = cpT f n p ∧ nxS f n q = nxS f n p := by
        intro q
        induction q with
        | zero => intro a b; rw [show p = 0 by omega]; rw [show p = 0 by omega] at hF; exact ⟨hF, rfl, rfl⟩
        | succ q iq =>
          intro a b
          by_cases e : p = q + 1
          · rw [← e]; exact ⟨hF, rfl, rfl⟩
          · obtain ⟨i1, i2, i3⟩ := iq (by omega) (by omega)
            have hq : q < n ∧ ¬ (f q).toInt = 47 := by
              refine ⟨by omega, fun h47 => ?_⟩
              have := nxS_end (t := f) (n := n) (q := q) (Or.inr h47)
              omega
            have hm : ¬ (q = n ∨ (f q).toInt = 47) := by
              intro hh; rcases hh with hh | hh
              · omega
              · exact hq.2 hh
            exact ⟨by rw [cpF_miss hm]; exact i1, by rw [cpT_miss hm]; exact i2, by rw [← nxS_go hq.1 hq.2]; exact i3⟩
      obtain ⟨w1, w2, w3⟩ := walk (nxS f n p) h1 (Nat.le_refl _)
      have hit : nxS f n p = n ∨ (f (nxS f n p)).toInt = 47 := by
        by_cases e : nxS f n p = n
        · exact Or.inl e
        · refine Or.inr ?_
          by_cases g : (f (nxS f n p)).toInt = 47
          · exact g
          · have := nxS_go (t := f) (n := n) (q := nxS f n p) (by omega) g
            have := nxS_ge f n (nxS f n p + 1)
            omega
      have t1 := cpT_hit (f := f) (n := n) (i := nxS f n p) hit
      have f1 := cpF_hit (f := f) (n := n) (i := nxS f n p) hit
      rw [w1, w2] at t1
      have hb : ((cbF f p (nxS f n p) : Nat) : Int) = csz f p (nxS f n p) := by
        unfold cbF csz mrk
        by_cases e : p < nxS f n p
        · rw [if_pos e, if_pos e]
          by_cases g : (f p).toInt = 46
          · rw [if_pos g]
            by_cases g1 : nxS f n p = p + 1
            · rw [if_pos (Or.inl ⟨g1, g⟩), if_pos g1, if_neg (by decide)]; rfl
            · rw [if_neg g1]
              by_cases g2 : nxS f n p = p + 2 ∧ (f (p + 1)).toInt = 46
              · rw [if_pos (Or.inr ⟨g2.1, g, g2.2⟩), if_pos g2, if_neg (by decide)]; rfl
              · rw [if_neg (by intro hh; rcases hh with hh | hh; exact g1 hh.1; exact g2 ⟨hh.1, hh.2.2⟩), if_neg g2, if_pos rfl]; omega
          · rw [if_neg g, if_pos rfl, if_neg (by intro hh; rcases hh with hh | hh; exact g hh.2; exact g hh.2.1)]; omega
        · rw [if_neg e, if_neg e]; rfl
      rw [cmL_go c, ih (n + 1 - (nxS f n p + 1)) (by omega) (nxS f n p + 1) (all + cbF f p (nxS f n p)) (by omega) f1 rfl, t1]
      omega
    · rw [cmL_end c]
      by_cases e : p = n + 1
      · rw [e]; omega
      · have e2 : p = n := by omega
        subst e2
        rw [cpT_hit (i := p) (Or.inl rfl), hF, csz_0]; omega
theorem cm_comp (f : Nat → Int32) {n : Nat} (hn : 1 ≤ n) : ((cmF f n : Nat) : Int) = compS f n := by
  unfold cmF compS t0F
  rw [cm_comp_go f n 0 _ (by omega) rfl, show cpT f n 0 = 0 from rfl]
  by_cases c : (f 0).toInt = 47
  · rw [if_pos c, if_pos (c := 0 < n ∧ (f 0).toInt = 47) ⟨by omega, c⟩]; omega
  · rw [if_neg c, if_neg (c := 0 < n ∧ (f 0).toInt = 47) (fun h => c h.2)]; omega
section
variable {dt : Nat → Nat → Int} {fK fNS fBs fEs fT fTS : Nat → Int32} {t so r : Int} {k : Nat}
theorem out_M (hR : DtR dt k) (h0 : dt 0 k = (fK k).toInt) (h1 : dt 1 k = (fNS k).toInt) (h2 : so < 2 ∨ dt 2 k = (fBs k).toInt) (h3 : so < 2 ∨ dt 3 k = (fEs k).toInt) (h4 : (fK k).toInt = 2 → dt 4 k = ((cmF (tgF fT k) (fTS k).toInt.toNat : Nat) : Int))
    (h : (psF fK fNS fT fTS 0 so k + psF fK fNS fT fTS 1 so k + psF fK fNS fT fTS 2 so k + psF fK fNS fT fTS 3 so k ≤ (254 - (33 + idF fK fNS fBs fEs 0 so k + (33 + idF fK fNS fBs fEs 0 so k) % 2)) ∧ r = 0) ∨ ((254 - (33 + idF fK fNS fBs fEs 0 so k + (33 + idF fK fNS fBs fEs 0 so k) % 2)) < psF fK fNS fT fTS 0 so k + psF fK fNS fT fTS 1 so k + psF fK fNS fT fTS 2 so k + psF fK fNS fT fTS 3 so k ∧ r = psF fK fNS fT fTS 3 so k)) : r = outS dt so k := by
  rw [ps_S h0 h1 h4, idF_S h0 h1 h2 h3] at h
  exact out_S hR h0 h4 h
theorem rec_M (hR : DtR dt k) (h0 : dt 0 k = (fK k).toInt) (h1 : dt 1 k = (fNS k).toInt) (h2 : so < 2 ∨ dt 2 k = (fBs k).toInt) (h3 : so < 2 ∨ dt 3 k = (fEs k).toInt) (h4 : (fK k).toInt = 2 → dt 4 k = ((cmF (tgF fT k) (fTS k).toInt.toNat : Nat) : Int))
    (h : (t = 1 ∧ r = (33 + idF fK fNS fBs fEs 1 so k + (33 + idF fK fNS fBs fEs 1 so k) % 2)) ∨ (t = 0 ∧ ∃ o9 : Int, ((psF fK fNS fT fTS 0 so k + psF fK fNS fT fTS 1 so k + psF fK fNS fT fTS 2 so k + psF fK fNS fT fTS 3 so k ≤ (254 - (33 + idF fK fNS fBs fEs 0 so k + (33 + idF fK fNS fBs fEs 0 so k) % 2)) ∧ o9 = 0) ∨ ((254 - (33 + idF fK fNS fBs fEs 0 so k + (33 + idF fK fNS fBs fEs 0 so k) % 2)) < psF fK fNS fT fTS 0 so k + psF fK fNS fT fTS 1 so k + psF fK fNS fT fTS 2 so k + psF fK fNS fT fTS 3 so k ∧ o9 = psF fK fNS fT fTS 3 so k)) ∧
      r = (33 + idF fK fNS fBs fEs 0 so k + (33 + idF fK fNS fBs fEs 0 so k) % 2) + (psF fK fNS fT fTS 0 so k + psF fK fNS fT fTS 1 so k + psF fK fNS fT fTS 2 so k + psF fK fNS fT fTS 3 so k - o9 + (if 0 < o9 then 28 else 0) + (psF fK fNS fT fTS 0 so k + psF fK fNS fT fTS 1 so k + psF fK fNS fT fTS 2 so k + psF fK fNS fT fTS 3 so k - o9 + (if 0 < o9 then 28 else 0)) % 2))) : r = recS dt t so k := by
  rcases h with ⟨a, b⟩ | ⟨a, o9, b, c⟩
  · rw [idF_S h0 h1 h2 h3] at b
    exact rec_S (o := outS dt so k) rfl (Or.inl ⟨a, b⟩) (al_rng hR so).2.2.1
  · have e := out_M hR h0 h1 h2 h3 h4 b
    rw [ps_S h0 h1 h4, idF_S h0 h1 h2 h3] at c
    refine rec_S e (Or.inr ⟨a, c⟩) ?_
    rw [e]
    exact (al_rng hR so).2.2.1
end
theorem wkS_sm {dt : Nat → Nat → Int} {t s ru s2 p q : Int} {o : Nat → Nat} {c i i2 d : Nat} {Q : List Nat} {s0 : Int × Int} (h : wkS dt t o c Q s0 i = (s, ru)) (hd : Q.getD i 0 = d) (hb : dirS dt t o ru d c = (p, q)) (hs : s2 = s + (p + 2047) / 2048) (hi : i2 = i + 1) : wkS dt t o c Q s0 i2 = (s2, q) := by
  subst hi
  rw [wkS_succ, h, hd]
  show (s + ((dirS dt t o ru d c).1 + 2047) / 2048, (dirS dt t o ru d c).2) = _
  rw [hb]
  show (s + (p + 2047) / 2048, q) = _
  rw [hs]
theorem KeyM_push {k : Nat} {fP fK fN fNS lBa lBs lEx lEs gBa gBs gEx gEs : Nat → Int32} (h : KeyP k (fun k => (fP k).toInt) (fun k => (fK k).toInt) (fun k => (fNS k).toInt.toNat) (nmF fN fNS) (kyF lBa lBs lEx lEs)) (hr : ∀ q, q ≠ k → ∀ j, j < 11 → kyF gBa gBs gEx gEs q j = kyF lBa lBs lEx lEs q j) (ha : KeyAt (Tkn (kyF lBa lBs lEx lEs) (fun k => (fP k).toInt) k) (pkF (nmF fN fNS k) (fNS k).toInt.toNat (fK k).toInt) (kpF (nmF fN fNS k) (fNS k).toInt.toNat (fK k).toInt) (kyF gBa gBs gEx gEs k)) : KeyP (k + 1) (fun k => (fP k).toInt) (fun k => (fK k).toInt) (fun k => (fNS k).toInt.toNat) (nmF fN fNS) (kyF gBa gBs gEx gEs) := by
  refine KeyP_push h (fun _ _ _ => rfl) (fun _ _ => rfl) (fun _ _ => rfl) (fun _ _ _ _ => rfl) (fun q hq j hj => (hr q (by omega) j hj).symm) (fun _ => ?_)
  exact KeyAt_to (fun Z Z2 hZ => ⟨Tkn_to hZ (fun q h3 h4 j hj => (hr q (by omega) j hj).symm) (fun _ _ _ => rfl), Tkn_to (fun j hj => (hZ j hj).symm) (fun q h3 h4 j hj => hr q (by omega) j hj) (fun _ _ _ => rfl)⟩) (fun _ _ => rfl) rfl (fun _ _ => rfl) ha
