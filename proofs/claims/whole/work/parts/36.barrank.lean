theorem one_hot {x : Nat} (hx : x < 10) : (1 : Int32) <<< (nI x &&& 31) = nI (1 <<< x) := by
  rcases (show x = 0 ∨ x = 1 ∨ x = 2 ∨ x = 3 ∨ x = 4 ∨ x = 5 ∨ x = 6 ∨ x = 7 ∨ x = 8 ∨ x = 9 by omega) with rfl | rfl | rfl | rfl | rfl | rfl | rfl | rfl | rfl | rfl <;> decide
theorem nI_xor (a b : Nat) : nI a ^^^ nI b = nI (a ^^^ b) := by
  apply Int32.toBitVec_inj.mp
  show (nI a).toBitVec ^^^ (nI b).toBitVec = (nI (a ^^^ b)).toBitVec
  have e : ∀ n, (nI n).toBitVec = BitVec.ofNat 32 n := fun n => rfl
  rw [e, e, e]
  apply BitVec.eq_of_toNat_eq
  simp [BitVec.toNat_xor, BitVec.toNat_ofNat, Nat.xor_mod_two_pow]
theorem xor_bit {a x : Nat} (hx : x < 10) : nI a ^^^ ((1 : Int32) <<< (nI x &&& 31)) = nI (a ^^^ (1 <<< x)) := by rw [one_hot hx, nI_xor]
theorem xor_lt {a x w : Nat} (ha : a < 2 ^ w) (hx : x < w) : a ^^^ (1 <<< x) < 2 ^ w := Nat.xor_lt_two_pow ha (by rw [Nat.one_shiftLeft]; exact Nat.pow_lt_pow_right (by decide) hx)
theorem xor_two (a b : Nat) : a ^^^ b ^^^ b = a := by rw [Nat.xor_assoc, Nat.xor_self, Nat.xor_zero]
theorem chg_bar {x d1 d2 : Nat} (t : Se) : chg 2 x d1 (chg 2 x d2 t) = t := by
  obtain ⟨b, r, f, g, e, z⟩ := t
  show ((b, r, f, g, e, z ^^^ (1 <<< x) ^^^ (1 <<< x)) : Se) = (b, r, f, g, e, z)
  rw [xor_two]
theorem chg_rank {x d : Nat} (t : Se) : chg 3 x (seR t x) (chg 3 x d t) = t := by
  obtain ⟨b, r, rest⟩ := t
  show ((b, (fun u => if u = x then r x else if u = x then d else r u), rest) : Se) = (b, r, rest)
  congr 2; funext u; by_cases h : u = x <;> simp [h]
theorem s_bar : st_bar Sim := by
  intro a I J A B hs
  obtain ⟨h, t, h1, h2, h3, h4, h5, h6, h7, h8, h9, h10, h11, h12, h13, h14, h15⟩ := id hs
  obtain ⟨k, q, ts, g1, g2, g3, g4, g5, g6, g7⟩ := id h8
  have hw10 := h1.1
  refine pe_has h3.1 h1.1 (fun hw => ?_) (fun hw => ?_)
  · obtain ⟨x, hx, rfl⟩ := hw
    have hwx : isW (hoW h) (nI x) := ⟨x, hx, rfl⟩
    refine ⟨fun _ => ?_, fun c => absurd c (by decide)⟩
    refine ⟨fun c => absurd c (by decide), fun _ => ⟨fun c => absurd c (by decide), fun _ => ⟨fun _ => ?_, fun c => absurd rfl c⟩⟩⟩
    rintro I75 rfl I5 rfl I2 rfl I7 rfl
    refine pe_noteX (k := k) g1 g3 ?_
    refine pe_isWord h4.1 h1.1 (fun _ => ?_) (fun c => absurd hwx c)
    refine ⟨fun _ => pe_noteM (k := k) (q := q) g1 g2 g4 g5 ?_, fun c => absurd c (by decide)⟩
    have v8 : vp_in (8 : Int32) 25 := vp_in_nI (n := 8) (by decide) (by decide)
    refine ⟨v8, v8, ?_⟩
    rintro I26 rfl
    have eX : I 17 5 ^^^ ((1 : Int32) <<< (nI x &&& 31)) = nI (seX t ^^^ (1 <<< x)) := by rw [h5.2.2.2.2.2, xor_bit (by omega)]
    have e8 : A 6 8 = nI (seX t) := by have := h6.2.2.2.2.2; rwa [Nat.zero_add] at this
    have eM : A 6 8 ^^^ ((1 : Int32) <<< (nI x &&& 31)) = nI (seX t ^^^ (1 <<< x)) := by rw [e8, xor_bit (by omega)]
    have hu : ∀ j, j ≠ 8 → upd (A 6) 8 (A 6 8 ^^^ ((1 : Int32) <<< (nI x &&& 31))) j = A 6 j := fun j hj => upd_n hj
    refine ⟨v8, ?_, h, chg 2 x 0 t, h1, ⟨h2.1, h2.2.1, h2.2.2.1, h2.2.2.2.1, h2.2.2.2.2.1, xor_lt h2.2.2.2.2.2 hx⟩, h3, h4, ⟨h5.1, h5.2.1, h5.2.2.1, h5.2.2.2.1, h5.2.2.2.2.1, eX⟩, ?_, h7, ?_, h9, h10, h11, h12, h13, h14, Or.inl rfl, Or.inl rfl, Or.inl rfl⟩
    · show ((I 17 5 ^^^ ((1 : Int32) <<< (nI x &&& 31))) >>> (nI x &&& 31)) &&& 1 = ((A 6 8 ^^^ ((1 : Int32) <<< (nI x &&& 31))) >>> (nI x &&& 31)) &&& 1
      rw [eX, eM]
    · obtain ⟨r1, r2, r3, r4, r5, r6⟩ := h6
      exact ⟨fun l hl => (hu _ (by omega)).trans (r1 l hl), fun u hu9 => (hu _ (by omega)).trans (r2 u hu9), fun z hz => (hu _ (by omega)).trans (r3 z hz), (hu _ (by omega)).trans r4, (hu _ (by omega)).trans r5, eM⟩
    · exact S_do_push (a1 := 2) (x1 := x) (d1 := 0) h1 h8 g3 g1 g5 g2 h2 h6 ⟨by decide, fun c => absurd c (by decide), fun _ => hx, fun c => absurd c (by decide), fun c => absurd c (by decide), fun c => absurd c (by decide)⟩ (fun c => absurd c (by decide)) (chg_bar t)
  · refine ⟨fun c => absurd rfl c, fun _ => pe_isWord h4.1 h1.1 (fun c => absurd c hw) (fun _ => ⟨fun c => absurd rfl c, fun _ => ⟨rfl, hs⟩⟩)⟩
theorem s_rank : st_rank Sim := by
  intro a v I J A B hs
  obtain ⟨h, t, h1, h2, h3, h4, h5, h6, h7, h8, h9, h10, h11, h12, h13, h14, h15⟩ := id hs
  obtain ⟨k, q, ts, g1, g2, g3, g4, g5, g6, g7⟩ := id h8
  have hw10 := h1.1
  refine pe_has h3.1 h1.1 (fun hw => ?_) (fun hw => ?_)
  · obtain ⟨x, hx, rfl⟩ := hw
    have hwx : isW (hoW h) (nI x) := ⟨x, hx, rfl⟩
    have hc : (nI x).toNatClampNeg = x := nI_clamp (by omega)
    have hbad : ¬ (0 ≤ v.toInt ∧ v.toInt ≤ 9) → P_X12_rank (nI x) v A B (fun r2 I2 J2 => (-2 : Int32) = r2 ∧ Sim I J I2 J2) := fun hn =>
      pe_isWord h4.1 h1.1 (fun _ => ⟨fun _ => pe_inI (p := 0) (q := 9) (by decide) (by decide) (fun c c2 => absurd ⟨c, c2⟩ hn) (fun _ => ⟨fun c => absurd rfl c, fun _ => ⟨rfl, hs⟩⟩), fun c => absurd c (by decide)⟩) (fun c => absurd hwx c)
    refine ⟨fun _ => ⟨fun c => hbad (by rw [lt0] at c; omega), fun c => ⟨fun c2 => ?_, fun c2 => hbad (by rw [show (9 : Int32) = nI 9 from rfl, le_lit (by decide)] at c2; omega)⟩⟩, fun c => absurd c (by decide)⟩
    have hb : 0 ≤ v.toInt ∧ v.toInt ≤ 9 := by
      rw [show (9 : Int32) = nI 9 from rfl, le_lit (by decide)] at c2
      rw [lt0] at c
      exact ⟨by omega, c2⟩
    obtain ⟨y, hy, rfl⟩ : isW 10 v := (isW_iff (by decide)).mpr ⟨hb.1, by omega⟩
    refine ⟨vp_in_nI (by omega) (by decide), ?_⟩
    refine ⟨fun c => absurd c (by decide), fun _ => ⟨fun c => absurd c (by decide), fun _ => ⟨fun c => absurd c (by decide), fun _ => ⟨fun _ => ⟨vp_in_nI (by omega) (by decide), ?_⟩, fun c => absurd rfl c⟩⟩⟩⟩
    rintro I75 rfl I5 rfl I2 rfl I7 rfl
    refine pe_noteX (k := k) g1 g3 ?_
    refine pe_isWord h4.1 h1.1 (fun _ => ?_) (fun c => absurd hwx c)
    refine ⟨fun _ => pe_inI (p := 0) (q := 9) (by decide) (by decide) (fun _ _ => ?_) (fun c => absurd hb c), fun c => absurd c (by decide)⟩
    refine ⟨fun _ => pe_noteM (k := k) (q := q) g1 g2 g4 g5 ?_, fun c => absurd c (by decide)⟩
    have e9 : (9 : Int32) + nI x = nI (9 + x) := by rw [show (9 : Int32) = nI 9 from rfl, nI_add]
    have v9 : vp_in ((9 : Int32) + nI x) 25 := by rw [e9]; exact vp_in_nI (by omega) (by decide)
    have c9 : ((9 : Int32) + nI x).toNatClampNeg = 9 + x := by rw [e9]; exact nI_clamp (by omega)
    refine ⟨v9, v9, ?_⟩
    rintro I48 rfl
    have eo : I 19 (nI x).toNatClampNeg = nI (seR t x) := by rw [hc]; exact h5.2.1 x hx
    have eo2 : A 6 ((9 : Int32) + nI x).toNatClampNeg = nI (seR t x) := by rw [c9]; have := h6.2.1 x hx; rwa [Nat.zero_add] at this
    refine ⟨eo.trans eo2.symm, h, chg 3 x y t, h1, ⟨h2.1, fun u hu => ?_, h2.2.2⟩, h3, h4, ⟨h5.1, fun u hu => ?_, h5.2.2⟩, ?_, h7, ?_, h9, h10, h11, h12, h13, h14, Or.inl rfl, Or.inl rfl, Or.inl rfl⟩
    · show (if u = x then y else seR t u) ≤ 9
      by_cases e : u = x
      · rw [if_pos e]; omega
      · rw [if_neg e]; exact h2.2.1 u hu
    · show upd (I 19) (nI x).toNatClampNeg (nI y) u = nI (if u = x then y else seR t u)
      rw [hc]
      by_cases e : u = x
      · rw [if_pos e, upd_s e]
      · rw [if_neg e, upd_n e]; exact h5.2.1 u hu
    · show rowM (upd (A 6) ((9 : Int32) + nI x).toNatClampNeg (nI y)) 0 h (chg 3 x y t)
      rw [c9]
      obtain ⟨r1, r2, r3, r4, r5, r6⟩ := h6
      refine ⟨fun l hl => (upd_n (by omega)).trans (r1 l hl), fun u hu9 => ?_, fun z hz => (upd_n (by omega)).trans (r3 z hz), (upd_n (by omega)).trans r4, (upd_n (by omega)).trans r5, (upd_n (by omega)).trans r6⟩
      show upd (A 6) (9 + x) (nI y) (0 + 9 + u) = nI (if u = x then y else seR t u)
      by_cases e : u = x
      · rw [if_pos e, upd_s (by omega)]
      · rw [if_neg e, upd_n (by omega)]; exact r2 u hu9
    · have := S_do_push (a1 := 3) (x1 := x) (d1 := seR t x) h1 h8 g3 g1 g5 g2 h2 h6 ⟨by decide, fun c => absurd c (by decide), fun c => absurd c (by decide), fun _ => ⟨hx, h2.2.1 x hx⟩, fun c => absurd c (by decide), fun c => absurd c (by decide)⟩ (fun c => absurd c (by decide)) (chg_rank (d := y) t)
      rw [← eo] at this
      exact this
  · refine ⟨fun c => absurd rfl c, fun _ => pe_isWord h4.1 h1.1 (fun c => absurd c hw) (fun _ => ⟨fun c => absurd rfl c, fun _ => ⟨rfl, hs⟩⟩)⟩
