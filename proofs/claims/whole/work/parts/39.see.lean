theorem s_see : st_see Sim := by
  intro a0 a1 a2 I J A B hs
  obtain ⟨h, t, h1, h2, h3, h4, h5, h6, h7, h8, h9, h10, h11, h12, h13, h14, h15⟩ := id hs
  obtain ⟨k, hk, e1, e2, e3⟩ := id h12
  have hc : (nI k).toNatClampNeg = k := nI_clamp (by omega)
  have hbad : ¬ ((0 ≤ a0.toInt ∧ a0.toInt ≤ 3) ∧ (0 ≤ a1.toInt ∧ a1.toInt ≤ 12) ∧ (0 ≤ a2.toInt ∧ a2.toInt ≤ 1)) → P_X12_see a0 a1 a2 A B (fun r2 I2 J2 => (-2 : Int32) = r2 ∧ Sim I J I2 J2) := fun hn =>
    pe_inI (p := 0) (q := 3) (by decide) (by decide) (fun b1 b2 => ⟨fun c => absurd c (by decide), fun _ => pe_inI (p := 0) (q := 12) (by decide) (by decide) (fun b3 b4 => ⟨fun c => absurd c (by decide), fun _ => pe_inI (p := 0) (q := 1) (by decide) (by decide) (fun b5 b6 => absurd ⟨⟨b1, b2⟩, ⟨b3, b4⟩, b5, b6⟩ hn) (fun _ => ⟨fun c => absurd rfl c, fun _ => ⟨rfl, hs⟩⟩)⟩) (fun _ => ⟨fun _ => ⟨rfl, hs⟩, fun c => absurd rfl c⟩)⟩) (fun _ => ⟨fun _ => ⟨rfl, hs⟩, fun c => absurd rfl c⟩)
  have l3 : ∀ x : Int32, (3 : Int32) < x ↔ 3 < x.toInt := fun x => lt_lit (n := 3) (by decide)
  have l12 : ∀ x : Int32, (12 : Int32) < x ↔ 12 < x.toInt := fun x => lt_lit (n := 12) (by decide)
  have l1 : ∀ x : Int32, x ≤ (1 : Int32) ↔ x.toInt ≤ 1 := fun x => le_lit (n := 1) (by decide)
  refine ⟨fun c => hbad (by rw [lt0] at c; omega), fun c1 => ⟨fun c => hbad (by rw [l3] at c; omega), fun c2 => ⟨fun c => hbad (by rw [lt0] at c; omega), fun c3 => ⟨fun c => hbad (by rw [l12] at c; omega), fun c4 => ⟨fun c => hbad (by rw [lt0] at c; omega), fun c5 => ⟨fun c6 => ?_, fun c => hbad (by rw [l1] at c; omega)⟩⟩⟩⟩⟩⟩
  rw [lt0] at c1 c3 c5
  rw [l3] at c2
  rw [l12] at c4
  rw [l1] at c6
  obtain ⟨x, hx, rfl⟩ : isW 4 a0 := (isW_iff (by decide)).mpr ⟨by omega, by omega⟩
  obtain ⟨y, hy, rfl⟩ : isW 13 a1 := (isW_iff (by decide)).mpr ⟨by omega, by omega⟩
  obtain ⟨z, hz, rfl⟩ : isW 2 a2 := (isW_iff (by decide)).mpr ⟨by omega, by omega⟩
  refine ⟨fun c => ?_, fun c => ?_⟩
  · have hk2 : k < 6 := (lt_nI (n := 6) e1 (by omega) (by decide)).mp c
    have m0 : I 0 15 * 3 = nI (k * 3) := by rw [e1, show (3 : Int32) = nI 3 from rfl, pk_mul]
    have m1 : I 0 15 * 3 + 1 = nI (k * 3 + 1) := by rw [m0, nI_1]
    have m2 : I 0 15 * 3 + 2 = nI (k * 3 + 2) := by rw [m0, show (2 : Int32) = nI 2 from rfl, nI_add]
    have n0 : (I 0 15 * 3).toNatClampNeg = k * 3 := by rw [m0]; exact nI_clamp (by omega)
    have n1 : (I 0 15 * 3 + 1).toNatClampNeg = k * 3 + 1 := by rw [m1]; exact nI_clamp (by omega)
    have n2 : (I 0 15 * 3 + 2).toNatClampNeg = k * 3 + 2 := by rw [m2]; exact nI_clamp (by omega)
    refine ⟨by rw [m0]; exact vp_in_nI (by omega) (by decide), ?_⟩
    rintro I54 rfl
    refine ⟨(show vp_in (I 0 15 * 3 + 1) 18 by rw [m1]; exact vp_in_nI (by omega) (by decide)), ?_⟩
    rintro I68 rfl
    refine ⟨(show vp_in (I 0 15 * 3 + 2) 18 by rw [m2]; exact vp_in_nI (by omega) (by decide)), ?_⟩
    rintro I82 rfl I90 rfl
    have hin : vp_in (A 0 19) 6 := by rw [e2]; exact vp_in_nI hk2 (by decide)
    refine pe_inI (p := 0) (q := 3) (by decide) (by decide) (fun _ _ => ⟨fun c => absurd c (by decide), fun _ => ?_⟩) (fun c => absurd ⟨by omega, by omega⟩ c)
    refine pe_inI (p := 0) (q := 12) (by decide) (by decide) (fun _ _ => ⟨fun c => absurd c (by decide), fun _ => ?_⟩) (fun c => absurd ⟨by omega, by omega⟩ c)
    refine pe_inI (p := 0) (q := 1) (by decide) (by decide) (fun _ _ => ⟨fun _ => ?_, fun c => absurd c (by decide)⟩) (fun c => absurd ⟨by omega, by omega⟩ c)
    refine ⟨fun _ => ⟨hin, ?_⟩, fun c => ?_⟩
    · rintro J58 rfl
      refine ⟨hin, ?_⟩
      rintro J68 rfl
      refine ⟨hin, ?_⟩
      rintro J78 rfl J86 rfl
      refine ⟨?_, h, t, h1, h2, h3, h4, h5, h6, h7, h8, h9, h10, h11, ⟨k + 1, hk2, ?_, ?_, ?_⟩, h13, h14, h15⟩
      · show I 0 15 + 1 = A 0 19 + 1
        rw [e1, e2]
      · show I 0 15 + 1 = nI (k + 1)
        rw [e1, nI_1]
      · show A 0 19 + 1 = nI (k + 1)
        rw [e2, nI_1]
      · intro i hi
        show ∃ a b c : Nat, a ≤ 3 ∧ b ≤ 12 ∧ c ≤ 1 ∧ upd (upd (upd (I 65) (I 0 15 * 3).toNatClampNeg (nI x)) (I 0 15 * 3 + 1).toNatClampNeg (nI y)) (I 0 15 * 3 + 2).toNatClampNeg (nI z) (i * 3) = nI a ∧ upd (upd (upd (I 65) (I 0 15 * 3).toNatClampNeg (nI x)) (I 0 15 * 3 + 1).toNatClampNeg (nI y)) (I 0 15 * 3 + 2).toNatClampNeg (nI z) (i * 3 + 1) = nI b ∧ upd (upd (upd (I 65) (I 0 15 * 3).toNatClampNeg (nI x)) (I 0 15 * 3 + 1).toNatClampNeg (nI y)) (I 0 15 * 3 + 2).toNatClampNeg (nI z) (i * 3 + 2) = nI c ∧ upd (A 12) (A 0 19).toNatClampNeg (nI x) i = nI a ∧ upd (A 13) (A 0 19).toNatClampNeg (nI y) i = nI b ∧ upd (A 14) (A 0 19).toNatClampNeg (nI z) i = nI c
        rw [n0, n1, n2, e2, hc]
        rcases Nat.lt_or_ge i k with q | q
        · obtain ⟨a, b, c, p1, p2, p3, p4, p5, p6, p7, p8, p9⟩ := e3 i q
          refine ⟨a, b, c, p1, p2, p3, ?_, ?_, ?_, (upd_n (by omega)).trans p7, (upd_n (by omega)).trans p8, (upd_n (by omega)).trans p9⟩
          · rw [upd_n (by omega), upd_n (by omega), upd_n (by omega)]; exact p4
          · rw [upd_n (by omega), upd_n (by omega), upd_n (by omega)]; exact p5
          · rw [upd_n (by omega), upd_n (by omega), upd_n (by omega)]; exact p6
        · obtain rfl : i = k := by omega
          refine ⟨x, y, z, by omega, by omega, by omega, ?_, ?_, upd_s rfl, upd_s rfl, upd_s rfl, upd_s rfl⟩
          · rw [upd_n (by omega), upd_n (by omega), upd_s rfl]
          · rw [upd_n (by omega), upd_s rfl]
    · have c : A 0 19 = nI 6 := c
      rw [e2] at c
      exact absurd ((nI_eq (by omega) (by decide)).mp c) (by omega)
  · have hk2 : k = 6 := by
      have := mt (lt_nI (n := 6) e1 (by omega) (by decide)).mpr c
      omega
    subst hk2
    refine pe_inI (p := 0) (q := 3) (by decide) (by decide) (fun _ _ => ⟨fun c => absurd c (by decide), fun _ => ?_⟩) (fun c => absurd ⟨by omega, by omega⟩ c)
    refine pe_inI (p := 0) (q := 12) (by decide) (by decide) (fun _ _ => ⟨fun c => absurd c (by decide), fun _ => ?_⟩) (fun c => absurd ⟨by omega, by omega⟩ c)
    refine pe_inI (p := 0) (q := 1) (by decide) (by decide) (fun _ _ => ⟨fun _ => ?_, fun c => absurd c (by decide)⟩) (fun c => absurd ⟨by omega, by omega⟩ c)
    exact ⟨fun c => absurd e2 c, fun _ => ⟨rfl, hs⟩⟩
