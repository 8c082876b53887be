theorem slot_other {z z2 : Int32} {o B R F A D : Nat → Int32} {q j : Nat} {h : Ho} (h1 : hoOK h) (hj : j ≠ q) (hs : S_slot z z2 o B R F D (25 * j) h) : S_slot z z2 o B R F (cp25 A D (25 * q) 25) (25 * j) h := by
  rcases hs with hs | ⟨e1, e2, t, s1, s2, s3⟩
  · exact Or.inl hs
  · exact Or.inr ⟨e1, e2, t, s1, s2, rowM_cp h1 hj s3⟩
theorem pe_keepL {z : Nat} (hz : z < 2) {M : MI} {B : MJ} {Q : Int32 → MI → MJ → Prop} (hQ : Q (M 0 2) (wI M 9 (cp25 (M 6) (M 9) (25 * z) 25)) B) : lpx (P_X12_keep_21 Q) (nI z, (0 : Int32), M, B) := by
  refine lpx_up (fun i a => a = (nI z, nI i, wI M 9 (cp25 (M 6) (M 9) (25 * z) i), B)) 25 ?_ ?_ 0 _ (Nat.zero_le _) ?_
  · rintro a k9 rfl
    exact ⟨fun _ => hQ, fun c => absurd (nI_le (Nat.le_refl 25) (by decide)) c⟩
  · rintro i a k9 hi rfl h9
    have e5 : (25 : Int32) * nI z + nI i = nI (25 * z + i) := by rw [show (25 : Int32) = nI 25 from rfl, pk_mul, nI_add]
    refine ⟨fun c => absurd c (nI_ge (b := 25) hi (by decide)), fun _ => ⟨vp_in_nI hi (by decide), by rw [e5]; exact vp_in_nI (by omega) (by decide), ?_⟩⟩
    rintro I43 rfl
    refine h9 _ ?_
    have e6 : mI (wI M 9 (cp25 (M 6) (M 9) (25 * z) i)) 9 ((25 : Int32) * nI z + nI i).toNatClampNeg (M 6 (nI i).toNatClampNeg) = wI M 9 (cp25 (M 6) (M 9) (25 * z) (i + 1)) := by
      rw [e5, nI_clamp (by omega), nI_clamp (by omega)]
      show wI (wI M 9 _) 9 (upd (cp25 (M 6) (M 9) (25 * z) i) (25 * z + i) (M 6 i)) = _
      rw [wI_wI, cp25_s]
    rw [nI_1]
    exact congrArg (fun m => (nI z, nI (i + 1), m, B)) e6
  · rw [cp25_0, wI_self]; rfl
theorem pe_againL {z : Nat} (hz : z < 2) {M : MI} {B : MJ} {Q : Int32 → MI → MJ → Prop} (hQ : Q (M 0 2) (mI (wI M 6 (cpd (M 9) (M 6) (25 * z) 25)) 0 10 0) B) : lpx (P_X12_again_26 Q) (nI z, (0 : Int32), M, B) := by
  refine lpx_up (fun i a => a = (nI z, nI i, wI M 6 (cpd (M 9) (M 6) (25 * z) i), B)) 25 ?_ ?_ 0 _ (Nat.zero_le _) ?_
  · rintro a k9 rfl
    refine ⟨fun _ => ?_, fun c => absurd (nI_le (Nat.le_refl 25) (by decide)) c⟩
    rintro I57 rfl
    exact hQ
  · rintro i a k9 hi rfl h9
    have e5 : (25 : Int32) * nI z + nI i = nI (25 * z + i) := by rw [show (25 : Int32) = nI 25 from rfl, pk_mul, nI_add]
    refine ⟨fun c => absurd c (nI_ge (b := 25) hi (by decide)), fun _ => ⟨by rw [e5]; exact vp_in_nI (by omega) (by decide), vp_in_nI hi (by decide), ?_⟩⟩
    rintro I43 rfl
    refine h9 _ ?_
    have e6 : mI (wI M 6 (cpd (M 9) (M 6) (25 * z) i)) 6 (nI i).toNatClampNeg (M 9 ((25 : Int32) * nI z + nI i).toNatClampNeg) = wI M 6 (cpd (M 9) (M 6) (25 * z) (i + 1)) := by
      rw [e5, nI_clamp (by omega), nI_clamp (by omega)]
      show wI (wI M 6 _) 6 (upd (cpd (M 9) (M 6) (25 * z) i) i (M 9 (25 * z + i))) = _
      rw [wI_wI, cpd_s]
    rw [nI_1]
    exact congrArg (fun m => (nI z, nI (i + 1), m, B)) e6
  · rw [cpd_0, wI_self]; rfl
theorem s_keep : st_keep Sim := by
  intro a I J A B hs
  obtain ⟨h, t, h1, h2, h3, h4, h5, h6, h7, h8, h9, h10, h11, h12, h13, h14, h15⟩ := id hs
  have hbad : ¬ (0 ≤ a.toInt ∧ a.toInt ≤ 1) → P_X12_keep a A B (fun r2 I2 J2 => (-1 : Int32) = r2 ∧ Sim I J I2 J2) := fun hn =>
    pe_inI (p := 0) (q := 1) (by decide) (by decide) (fun c c2 => absurd ⟨c, c2⟩ hn) (fun _ => ⟨fun c => absurd rfl c, fun _ => ⟨rfl, hs⟩⟩)
  have l2 : a < (2 : Int32) ↔ a.toInt < 2 := by rw [show (2 : Int32) = nI 2 from rfl, Int32.lt_iff_toInt_lt, nI_toInt (by decide)]; rfl
  refine ⟨fun c => hbad (by rw [lt0] at c; omega), fun c => ⟨fun c2 => ?_, fun c2 => hbad (by rw [l2] at c2; omega)⟩⟩
  rw [l2] at c2
  rw [lt0] at c
  have hw : 0 ≤ a.toInt ∧ a.toInt ≤ 1 := ⟨by omega, by omega⟩
  obtain ⟨z, hz, rfl⟩ : isW 2 a := (isW_iff (by decide)).mpr ⟨by omega, by omega⟩
  refine ⟨vp_in_nI hz (by decide), ?_⟩
  have ew : I 12 4 = A 0 2 := h3.1.trans h4.1.symm
  rcases (show z = 0 ∨ z = 1 by omega) with rfl | rfl
  · refine pe_copy (k := 26) (w := 17) h1 (by omega) h5 (fun o b r f hX => ⟨vp_in_nI hz (by decide), ?_⟩)
    rintro I30 rfl
    refine pe_inI (p := 0) (q := 1) (by decide) (by decide) (fun _ _ => ⟨fun _ => ⟨vp_in_nI hz (by decide), ?_⟩, fun c => absurd c (by decide)⟩) (fun c => absurd hw c)
    rintro I18 rfl
    refine pe_keepL hz ?_
    exact ⟨ew, h, t, h1, h2, h3, h4, h5, h6, h7, h8, Or.inr ⟨rfl, rfl, t, h2, hX, rowM_new (q := 0) h1 h6⟩, slot_other (q := 0) (j := 1) h1 (by decide) h10, h11, h12, h13, h14, h15⟩
  · refine pe_copy (k := 30) (w := 17) h1 (by omega) h5 (fun o b r f hX => ⟨vp_in_nI hz (by decide), ?_⟩)
    rintro I30 rfl
    refine pe_inI (p := 0) (q := 1) (by decide) (by decide) (fun _ _ => ⟨fun _ => ⟨vp_in_nI hz (by decide), ?_⟩, fun c => absurd c (by decide)⟩) (fun c => absurd hw c)
    rintro I18 rfl
    refine pe_keepL hz ?_
    exact ⟨ew, h, t, h1, h2, h3, h4, h5, h6, h7, h8, slot_other (q := 1) (j := 0) h1 (by decide) h9, Or.inr ⟨rfl, rfl, t, h2, hX, rowM_new (q := 1) h1 h6⟩, h11, h12, h13, h14, h15⟩
theorem s_again : st_again Sim := by
  intro a I J A B hs
  obtain ⟨h, t, h1, h2, h3, h4, h5, h6, h7, h8, h9, h10, h11, h12, h13, h14, h15⟩ := id hs
  obtain ⟨k, q, ts, g1, g2, g3, g4, g5, g6, g7⟩ := id h8
  have hbad : ¬ (0 ≤ a.toInt ∧ a.toInt ≤ 1) → P_X12_again a A B (fun r2 I2 J2 => (-1 : Int32) = r2 ∧ Sim I J I2 J2) := fun hn =>
    pe_inI (p := 0) (q := 1) (by decide) (by decide) (fun c c2 => absurd ⟨c, c2⟩ hn) (fun _ => ⟨fun c => absurd rfl c, fun _ => ⟨rfl, hs⟩⟩)
  have l2 : a < (2 : Int32) ↔ a.toInt < 2 := by rw [show (2 : Int32) = nI 2 from rfl, Int32.lt_iff_toInt_lt, nI_toInt (by decide)]; rfl
  refine ⟨fun c => hbad (by rw [lt0] at c; omega), fun c => ⟨fun c2 => ?_, fun c2 => hbad (by rw [l2] at c2; omega)⟩⟩
  rw [l2] at c2
  rw [lt0] at c
  have hw : 0 ≤ a.toInt ∧ a.toInt ≤ 1 := ⟨by omega, by omega⟩
  obtain ⟨z, hz, rfl⟩ : isW 2 a := (isW_iff (by decide)).mpr ⟨by omega, by omega⟩
  have ew : I 12 4 = A 0 2 := h3.1.trans h4.1.symm
  have hv : vp_in (nI z) 2 := vp_in_nI hz (by decide)
  have hdo : ∀ t2 : Se, S_do 0 0 (A 0 11) (I 36) (I 37) (I 38) (A 8) h t2 := fun t2 => ⟨0, q, fun _ => t2, by decide, g2, rfl, rfl, g5, rfl, fun j hj => absurd hj (Nat.not_lt_zero j)⟩
  rcases (show z = 0 ∨ z = 1 by omega) with rfl | rfl
  · rcases h9 with ⟨z1, z2⟩ | ⟨z1, z2, t2, s1, s2, s3⟩
    · exact ⟨hv, fun c => absurd z1 c, fun _ => pe_inI (p := 0) (q := 1) (by decide) (by decide) (fun _ _ => ⟨fun _ => ⟨hv, fun c => absurd z2 c, fun _ => ⟨rfl, hs⟩⟩, fun c => absurd c (by decide)⟩) (fun c => absurd hw c)⟩
    · refine ⟨hv, fun _ => ⟨hv, ?_⟩, fun c => absurd (z1.symm.trans c) (by decide)⟩
      refine pe_copy (k := 17) (w := 26) h1 (by omega) s2 (fun o b r f hX => ?_)
      rintro I41 rfl I5 rfl I2 rfl I7 rfl
      refine pe_inI (p := 0) (q := 1) (by decide) (by decide) (fun _ _ => ⟨fun _ => ⟨hv, fun _ => pe_againL hz ?_, fun c => absurd (z2.symm.trans c) (by decide)⟩, fun c => absurd c (by decide)⟩) (fun c => absurd hw c)
      exact ⟨ew, h, t2, h1, s1, h3, h4, hX, rowM_cpd h1 s3, h7, hdo t2, Or.inr ⟨z1, z2, t2, s1, s2, s3⟩, h10, h11, h12, h13, h14, Or.inl rfl, Or.inl rfl, Or.inl rfl⟩
  · rcases h10 with ⟨z1, z2⟩ | ⟨z1, z2, t2, s1, s2, s3⟩
    · exact ⟨hv, fun c => absurd z1 c, fun _ => pe_inI (p := 0) (q := 1) (by decide) (by decide) (fun _ _ => ⟨fun _ => ⟨hv, fun c => absurd z2 c, fun _ => ⟨rfl, hs⟩⟩, fun c => absurd c (by decide)⟩) (fun c => absurd hw c)⟩
    · refine ⟨hv, fun _ => ⟨hv, ?_⟩, fun c => absurd (z1.symm.trans c) (by decide)⟩
      refine pe_copy (k := 17) (w := 30) h1 (by omega) s2 (fun o b r f hX => ?_)
      rintro I41 rfl I5 rfl I2 rfl I7 rfl
      refine pe_inI (p := 0) (q := 1) (by decide) (by decide) (fun _ _ => ⟨fun _ => ⟨hv, fun _ => pe_againL hz ?_, fun c => absurd (z2.symm.trans c) (by decide)⟩, fun c => absurd c (by decide)⟩) (fun c => absurd hw c)
      exact ⟨ew, h, t2, h1, s1, h3, h4, hX, rowM_cpd h1 s3, h7, hdo t2, h9, Or.inr ⟨z1, z2, t2, s1, s2, s3⟩, h11, h12, h13, h14, Or.inl rfl, Or.inl rfl, Or.inl rfl⟩
