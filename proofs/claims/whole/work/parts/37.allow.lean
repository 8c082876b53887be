theorem chg_begin {x d1 d2 : Nat} (t : Se) : chg 4 x d1 (chg 4 x d2 t) = t := by
  obtain ⟨b, r, f, g, e, z⟩ := t
  show ((b, r, f, g ^^^ (1 <<< x) ^^^ (1 <<< x), e, z) : Se) = (b, r, f, g, e, z)
  rw [xor_two]
theorem chg_end {x d1 d2 : Nat} (t : Se) : chg 5 x d1 (chg 5 x d2 t) = t := by
  obtain ⟨b, r, f, g, e, z⟩ := t
  show ((b, r, f, g, e ^^^ (1 <<< x) ^^^ (1 <<< x), z) : Se) = (b, r, f, g, e, z)
  rw [xor_two]
theorem chg_follow {x d : Nat} (t : Se) : chg 6 x d (chg 6 x d t) = t := by
  obtain ⟨b, r, f, rest⟩ := t
  show ((b, r, (fun a => if a = x then (if a = x then f a ^^^ (1 <<< d) else f a) ^^^ (1 <<< d) else (if a = x then f a ^^^ (1 <<< d) else f a)), rest) : Se) = (b, r, f, rest)
  congr 3; funext a; by_cases h : a = x
  · simp only [if_pos h]; rw [xor_two]
  · simp only [if_neg h]
theorem lt16 {a x : Nat} (ha : a < 16) (hx : x < 4) : a ^^^ (1 <<< x) < 16 := xor_lt (w := 4) ha hx
theorem s_allow : st_allow Sim := by
  intro w a b I J A B hs
  obtain ⟨h, t, h1, h2, h3, h4, h5, h6, h7, h8, h9, h10, h11, h12, h13, h14, h15⟩ := id hs
  obtain ⟨k, q, ts, g1, g2, g3, g4, g5, g6, g7⟩ := id h8
  refine pe_isKindX (fun ha => ⟨fun c => absurd c (by decide), fun _ => ?_⟩) (fun ha => ⟨fun _ => pe_isKindM (fun c => absurd c ha) (fun _ => ⟨fun _ => ⟨rfl, hs⟩, fun c => absurd rfl c⟩), fun c => absurd rfl c⟩)
  refine pe_isKindX (fun hb => ⟨fun _ => ?_, fun c => absurd c (by decide)⟩) (fun hb => ⟨fun c => absurd rfl c, fun _ => pe_isKindM (fun _ => ⟨fun c => absurd c (by decide), fun _ => pe_isKindM (fun c => absurd c hb) (fun _ => ⟨fun c => absurd rfl c, fun _ => ⟨rfl, hs⟩⟩)⟩) (fun c => absurd ha c)⟩)
  have hbad : ¬ (0 ≤ w.toInt ∧ w.toInt ≤ 2) → P_X12_allow w a b A B (fun r2 I2 J2 => (-2 : Int32) = r2 ∧ Sim I J I2 J2) := fun hn =>
    pe_isKindM (fun _ => ⟨fun c => absurd c (by decide), fun _ => pe_isKindM (fun _ => ⟨fun _ => pe_inI (p := 0) (q := 2) (by decide) (by decide) (fun c c2 => absurd ⟨c, c2⟩ hn) (fun _ => ⟨fun c => absurd rfl c, fun _ => ⟨rfl, hs⟩⟩), fun c => absurd c (by decide)⟩) (fun c => absurd hb c)⟩) (fun c => absurd ha c)
  refine ⟨fun c => hbad (by rw [lt0] at c; omega), fun c => ⟨fun c2 => ?_, fun c2 => hbad (by rw [show (2 : Int32) = nI 2 from rfl, le_lit (by decide)] at c2; omega)⟩⟩
  have hw : 0 ≤ w.toInt ∧ w.toInt ≤ 2 := by
    rw [show (2 : Int32) = nI 2 from rfl, le_lit (by decide)] at c2
    rw [lt0] at c
    exact ⟨by omega, c2⟩
  clear hbad c c2
  obtain ⟨x, hx, rfl⟩ := id ha
  obtain ⟨y, hy, rfl⟩ := id hb
  have hcx : (nI x).toNatClampNeg = x := nI_clamp (by omega)
  obtain ⟨r1, r2, r3, r4, r5, r6⟩ := id h6
  obtain ⟨z, hz, rfl⟩ : isW 3 w := (isW_iff (by decide)).mpr ⟨hw.1, by omega⟩
  rcases (show z = 0 ∨ z = 1 ∨ z = 2 by omega) with rfl | rfl | rfl
  · refine ⟨fun c => absurd c (by decide), fun _ => ⟨fun c => absurd c (by decide), fun _ => ⟨fun c => absurd c (by decide), fun _ => ⟨fun c => absurd c (by decide), fun _ => ⟨fun _ => ?_, fun c => absurd rfl c⟩⟩⟩⟩⟩
    rintro I75 rfl I5 rfl I2 rfl I7 rfl
    refine pe_noteX (k := k) g1 g3 ?_
    refine ⟨fun _ => ?_, fun c => absurd rfl c⟩
    refine pe_isKindM (fun _ => ⟨fun c => absurd c (by decide), fun _ => pe_isKindM (fun _ => ⟨fun _ => pe_inI (p := 0) (q := 2) (by decide) (by decide) (fun _ _ => ⟨fun _ => ?_, fun c => absurd c (by decide)⟩) (fun c => absurd hw c), fun c => absurd c (by decide)⟩) (fun c => absurd hb c)⟩) (fun c => absurd ha c)
    refine pe_noteM (k := k) (q := q) g1 g2 g4 g5 ?_
    refine ⟨fun c => absurd rfl c, fun _ => ⟨fun _ => ?_, fun c => absurd c (by decide)⟩⟩
    have v9 : vp_in (19 : Int32) 25 := vp_in_nI (n := 19) (by decide) (by decide)
    refine ⟨v9, v9, ?_⟩
    rintro I85 rfl
    refine ⟨v9, ?_⟩
    have eX : I 17 3 ^^^ ((1 : Int32) <<< (nI x &&& 31)) = nI (seG t ^^^ (1 <<< x)) := by rw [h5.2.2.2.1, xor_bit (by omega)]
    have e8 : A 6 19 = nI (seG t) := by have := r4; rwa [Nat.zero_add] at this
    have eM : A 6 19 ^^^ ((1 : Int32) <<< (nI x &&& 31)) = nI (seG t ^^^ (1 <<< x)) := by rw [e8, xor_bit (by omega)]
    have hu : ∀ j, j ≠ 19 → upd (A 6) 19 (A 6 19 ^^^ ((1 : Int32) <<< (nI x &&& 31))) j = A 6 j := fun j hj => upd_n hj
    refine ⟨?_, h, chg 4 x y t, h1, ⟨h2.1, h2.2.1, h2.2.2.1, lt16 h2.2.2.2.1 hx, h2.2.2.2.2⟩, h3, h4, ⟨h5.1, h5.2.1, h5.2.2.1, eX, h5.2.2.2.2⟩, ⟨fun l hl => (hu _ (by omega)).trans (r1 l hl), fun u hu9 => (hu _ (by have := h1.1; omega)).trans (r2 u hu9), fun z hz => (hu _ (by omega)).trans (r3 z hz), eM, (hu _ (by omega)).trans r5, (hu _ (by omega)).trans r6⟩, h7, ?_, h9, h10, h11, h12, h13, h14, Or.inl rfl, Or.inl rfl, Or.inl rfl⟩
    · show ((I 17 3 ^^^ ((1 : Int32) <<< (nI x &&& 31))) >>> (nI x &&& 31)) &&& 1 = ((A 6 19 ^^^ ((1 : Int32) <<< (nI x &&& 31))) >>> (nI x &&& 31)) &&& 1
      rw [eX, eM]
    · exact S_do_push (a1 := 4) (x1 := x) (d1 := y) h1 h8 g3 g1 g5 g2 h2 h6 ⟨by decide, fun c => absurd c (by decide), fun c => absurd c (by decide), fun c => absurd c (by decide), fun _ => hx, fun c => absurd c (by decide)⟩ (fun c => absurd c (by decide)) (chg_begin t)
  · refine ⟨fun c => absurd c (by decide), fun _ => ⟨fun c => absurd c (by decide), fun _ => ⟨fun c => absurd c (by decide), fun _ => ⟨fun c => absurd c (by decide), fun _ => ⟨fun c => absurd c (by decide), fun _ => ⟨fun _ => ?_, fun c => absurd rfl c⟩⟩⟩⟩⟩⟩
    rintro I75 rfl I5 rfl I2 rfl I7 rfl
    refine pe_noteX (k := k) g1 g3 ?_
    refine ⟨fun c => absurd c (by decide), fun _ => ⟨fun _ => ?_, fun c => absurd rfl c⟩⟩
    refine pe_isKindM (fun _ => ⟨fun c => absurd c (by decide), fun _ => pe_isKindM (fun _ => ⟨fun _ => pe_inI (p := 0) (q := 2) (by decide) (by decide) (fun _ _ => ⟨fun _ => ?_, fun c => absurd c (by decide)⟩) (fun c => absurd hw c), fun c => absurd c (by decide)⟩) (fun c => absurd hb c)⟩) (fun c => absurd ha c)
    refine pe_noteM (k := k) (q := q) g1 g2 g4 g5 ?_
    refine ⟨fun _ => ⟨fun c => absurd rfl c, fun _ => ⟨fun _ => ?_, fun c => absurd c (by decide)⟩⟩, fun c => absurd c (by decide)⟩
    have v9 : vp_in (20 : Int32) 25 := vp_in_nI (n := 20) (by decide) (by decide)
    refine ⟨v9, v9, ?_⟩
    rintro I85 rfl
    refine ⟨v9, ?_⟩
    have eX : I 17 4 ^^^ ((1 : Int32) <<< (nI x &&& 31)) = nI (seE t ^^^ (1 <<< x)) := by rw [h5.2.2.2.2.1, xor_bit (by omega)]
    have e8 : A 6 20 = nI (seE t) := by have := r5; rwa [Nat.zero_add] at this
    have eM : A 6 20 ^^^ ((1 : Int32) <<< (nI x &&& 31)) = nI (seE t ^^^ (1 <<< x)) := by rw [e8, xor_bit (by omega)]
    have hu : ∀ j, j ≠ 20 → upd (A 6) 20 (A 6 20 ^^^ ((1 : Int32) <<< (nI x &&& 31))) j = A 6 j := fun j hj => upd_n hj
    refine ⟨?_, h, chg 5 x y t, h1, ⟨h2.1, h2.2.1, h2.2.2.1, h2.2.2.2.1, lt16 h2.2.2.2.2.1 hx, h2.2.2.2.2.2⟩, h3, h4, ⟨h5.1, h5.2.1, h5.2.2.1, h5.2.2.2.1, eX, h5.2.2.2.2.2⟩, ⟨fun l hl => (hu _ (by omega)).trans (r1 l hl), fun u hu9 => (hu _ (by have := h1.1; omega)).trans (r2 u hu9), fun z hz => (hu _ (by omega)).trans (r3 z hz), (hu _ (by omega)).trans r4, eM, (hu _ (by omega)).trans r6⟩, h7, ?_, h9, h10, h11, h12, h13, h14, Or.inl rfl, Or.inl rfl, Or.inl rfl⟩
    · show ((I 17 4 ^^^ ((1 : Int32) <<< (nI x &&& 31))) >>> (nI x &&& 31)) &&& 1 = ((A 6 20 ^^^ ((1 : Int32) <<< (nI x &&& 31))) >>> (nI x &&& 31)) &&& 1
      rw [eX, eM]
    · exact S_do_push (a1 := 5) (x1 := x) (d1 := y) h1 h8 g3 g1 g5 g2 h2 h6 ⟨by decide, fun c => absurd c (by decide), fun c => absurd c (by decide), fun c => absurd c (by decide), fun _ => hx, fun c => absurd c (by decide)⟩ (fun c => absurd c (by decide)) (chg_end t)
  · refine ⟨fun c => absurd c (by decide), fun _ => ⟨fun c => absurd c (by decide), fun _ => ⟨fun c => absurd c (by decide), fun _ => ⟨fun c => absurd c (by decide), fun _ => ⟨fun c => absurd c (by decide), fun _ => ⟨fun c => absurd c (by decide), fun _ => ⟨vp_in_nI hx (by decide), vp_in_nI hx (by decide), ?_⟩⟩⟩⟩⟩⟩⟩
    rintro I75 rfl I5 rfl I2 rfl I7 rfl
    refine pe_noteX (k := k) g1 g3 ?_
    refine ⟨fun c => absurd c (by decide), fun _ => ⟨fun c => absurd c (by decide), fun _ => ⟨vp_in_nI hx (by decide), ?_⟩⟩⟩
    refine pe_isKindM (fun _ => ⟨fun c => absurd c (by decide), fun _ => pe_isKindM (fun _ => ⟨fun _ => pe_inI (p := 0) (q := 2) (by decide) (by decide) (fun _ _ => ⟨fun _ => ?_, fun c => absurd c (by decide)⟩) (fun c => absurd hw c), fun c => absurd c (by decide)⟩) (fun c => absurd hb c)⟩) (fun c => absurd ha c)
    refine pe_noteM (k := k) (q := q) g1 g2 g4 g5 ?_
    refine ⟨fun _ => ⟨fun _ => ⟨fun c => absurd rfl c, fun _ => ?_⟩, fun c => absurd c (by decide)⟩, fun c => absurd c (by decide)⟩
    have e9 : (21 : Int32) + nI x = nI (21 + x) := by rw [show (21 : Int32) = nI 21 from rfl, nI_add]
    have v9 : vp_in ((21 : Int32) + nI x) 25 := by rw [e9]; exact vp_in_nI (by omega) (by decide)
    have c9 : ((21 : Int32) + nI x).toNatClampNeg = 21 + x := by rw [e9]; exact nI_clamp (by omega)
    refine ⟨v9, v9, ?_⟩
    rintro I85 rfl
    refine ⟨v9, ?_⟩
    have eX : I 20 x ^^^ ((1 : Int32) <<< (nI y &&& 31)) = nI (seF t x ^^^ (1 <<< y)) := by rw [h5.2.2.1 x hx, xor_bit (by omega)]
    have e8 : A 6 (21 + x) = nI (seF t x) := by have := r3 x hx; rwa [Nat.zero_add] at this
    have eM : A 6 (21 + x) ^^^ ((1 : Int32) <<< (nI y &&& 31)) = nI (seF t x ^^^ (1 <<< y)) := by rw [e8, xor_bit (by omega)]
    refine ⟨?_, h, chg 6 x y t, h1, ⟨h2.1, h2.2.1, fun a ha9 => ?_, h2.2.2.2⟩, h3, h4, ⟨h5.1, h5.2.1, fun a ha9 => ?_, h5.2.2.2⟩, ?_, h7, ?_, h9, h10, h11, h12, h13, h14, Or.inl rfl, Or.inl rfl, Or.inl rfl⟩
    · show ((upd (I 20) (nI x).toNatClampNeg (I 20 (nI x).toNatClampNeg ^^^ ((1 : Int32) <<< (nI y &&& 31))) (nI x).toNatClampNeg) >>> (nI y &&& 31)) &&& 1 = ((upd (A 6) ((21 : Int32) + nI x).toNatClampNeg (A 6 ((21 : Int32) + nI x).toNatClampNeg ^^^ ((1 : Int32) <<< (nI y &&& 31))) ((21 : Int32) + nI x).toNatClampNeg) >>> (nI y &&& 31)) &&& 1
      rw [c9, hcx, upd_s rfl, upd_s rfl, eX, eM]
    · show (if a = x then seF t a ^^^ (1 <<< y) else seF t a) < 16
      by_cases e : a = x
      · rw [if_pos e]; exact lt16 (h2.2.2.1 a ha9) hy
      · rw [if_neg e]; exact h2.2.2.1 a ha9
    · show upd (I 20) (nI x).toNatClampNeg (I 20 (nI x).toNatClampNeg ^^^ ((1 : Int32) <<< (nI y &&& 31))) a = nI (if a = x then seF t a ^^^ (1 <<< y) else seF t a)
      rw [hcx]
      by_cases e : a = x
      · subst e; rw [if_pos rfl, upd_s rfl, eX]
      · rw [if_neg e, upd_n e]; exact h5.2.2.1 a ha9
    · show rowM (upd (A 6) ((21 : Int32) + nI x).toNatClampNeg (A 6 ((21 : Int32) + nI x).toNatClampNeg ^^^ ((1 : Int32) <<< (nI y &&& 31)))) 0 h (chg 6 x y t)
      rw [c9]
      have hw10 := h1.1
      refine ⟨fun l hl => (upd_n (by omega)).trans (r1 l hl), fun u hu9 => (upd_n (by omega)).trans (r2 u hu9), fun a ha9 => ?_, (upd_n (by omega)).trans r4, (upd_n (by omega)).trans r5, (upd_n (by omega)).trans r6⟩
      show upd (A 6) (21 + x) _ (0 + 21 + a) = nI (if a = x then seF t a ^^^ (1 <<< y) else seF t a)
      by_cases e : a = x
      · subst e; rw [if_pos rfl, upd_s (by omega), eM]
      · rw [if_neg e, upd_n (by omega)]; exact r3 a ha9
    · exact S_do_push (a1 := 6) (x1 := x) (d1 := y) h1 h8 g3 g1 g5 g2 h2 h6 ⟨by decide, fun c => absurd c (by decide), fun c => absurd c (by decide), fun c => absurd c (by decide), fun _ => hx, fun _ => hy⟩ (fun c => absurd c (by decide)) (chg_follow t)
