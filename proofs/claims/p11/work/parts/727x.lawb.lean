theorem qs_grow {ok : Prop} {r x so mo ow gr si sd : Int32} {n n2 z ts : Int} {cm cm2 : Nat} {fX fK fP fN fNS fM fO fG fSz fSd fT fTS gK gP gN gNS gM gO gG gSz gSd gT gTS : Nat → Int32} (hq : ∀ k : Nat, k < cm → (fK k).toInt = 2 → (fSz k).toInt = 0) (hm : GrowM ok r x so mo ow gr si sd n n2 z ts fX fK fP fN fNS fM fO fG fSz fSd fT fTS gK gP gN gNS gM gO gG gSz gSd gT gTS) (hn : n = cm) (hn2 : n2 = cm2) (hs : so.toInt = 2 → si.toInt = 0) : ∀ k : Nat, k < cm2 → (gK k).toInt = 2 → (gSz k).toInt = 0 := by
  rcases hm with ⟨b, t1, t2, t3, t4, t5, t6, t7, t8, t9, t10, t11, t12⟩ | ⟨b1, b2, b3, b4, b5, b6, b7, b8, b9, b10, b11, b12, b13, b14, b15, b16⟩
  · rw [t2, t9]
    exact fun k hk => hq k (by omega)
  · intro k hk h
    rw [b6] at h
    rw [b13]
    by_cases c : k = n.toNat
    · rw [c, upd_at] at h
      rw [c, upd_at]
      exact hs h
    · rw [upd_off c] at h
      rw [upd_off c]
      exact hq k (by omega) h
theorem mst_L {cm : Nat} {dr : Int32} {ng : Nat → Nat → Int32} {nn : Nat → Nat → Nat} {nf : Nat → Nat → Nat → Int32} {n : Int} {fK fP fN fNS fM fO fG fSz fSd fT fTS : Nat → Int32} {dt dx : Nat → Nat → Int} (hR : TREL cm dr ng nn nf fK fP fN fNS fM fO fG fSz fSd fT fTS) (hn : n = cm) (hl : ∀ k : Nat, k < cm → (fK k).toInt = 2 → 1 ≤ (fTS k).toInt) (hdt : DtC dt cm ng nn nf) (hX : DxC dt dx cm ng nn) : LnN dt dx nf n fK fM fO fG fN fNS fT fTS := fun k hk => by
  have hk1 : k < cm := by omega
  obtain ⟨⟨a1, a2, a3⟩, ⟨a4, a5⟩, ⟨a6, a7, a8, a9, a10⟩, a11, a12⟩ := hR.2 k hk1
  obtain ⟨d0, d1, d4, d5, d6, d7⟩ := (hdt k hk1).1
  obtain ⟨x0, x1, x2, x3, x4⟩ := hX k hk1
  rw [a1, a6] at x1
  rw [a1, show cm = n.toNat by omega] at x2
  rw [a7] at x3
  rw [a8] at x4
  refine ⟨fun j hj => rel_nm hR hk1 (by omega), fun h2 => ⟨?_, hl k hk1 h2⟩, fun j hj => (a12 j (by omega)).symm, by rw [x0]; exact a11, x1, x2, x3, x4⟩
  rw [d4, show (fTS k).toInt.toNat = nn k 3 by omega]
  exact compS_congr (fun j hj => by rw [a12 j hj]; rfl)
theorem im_law {Z x : Int} {dt : Nat → Nat → Int} {sd sd2 v w : Nat → Int32} {cm : Nat} {f : Nat → Int32} {F : Nat → Int64} {T : List (Int × List Int)} (h1 : Img Z (imC f) (ctT dt sd v cm ++ T)) (h2 : Img Z (bF F) (ctT dt sd2 w cm ++ T)) (hs : ∀ k, k < cm → sd k = sd2 k) (hv : CtP dt x v cm) (hw : CtP dt x w cm) : ∀ p : Nat, (p : Int) < Z → imC f p = bF F p := by
  have e : ctT dt sd v cm = ctT dt sd2 w cm := ctT_congr (fun k hk hn => ⟨hs k hk, CtP_uniq hv hw hk hn.1 hn.2.1⟩)
  rw [e] at h1
  exact fun p hp => Img.eq h1 h2 (fun _ => Iff.rfl) p hp
theorem Pt_both {f g : Nat → Int32} {F G : Nat → Int64} {x y L : Int} (h : ∀ p : Nat, (p : Int) < L → imC f p = bF F p) (h1 : Pt (imC f) (imC g) x y) (h2 : Pt (bF F) (bF G) x y) : ∀ p : Nat, (p : Int) < L → imC g p = bF G p := fun p hp => by
  rw [h1 p, h2 p]
  by_cases c : (p : Int) = x
  · rw [if_pos c, if_pos c]
  · rw [if_neg c, if_neg c]; exact h p hp
