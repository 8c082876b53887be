/-- the memory with the four rows of the setting now written anew -/
def w4 (I : MI) (o b r f : Nat → Int32) : MI := wI (wI (wI (wI I 17 o) 18 b) 19 r) 20 f
theorem w4_17 (I : MI) (o : Nat → Int32) : w4 I o (I 18) (I 19) (I 20) = wI I 17 o := by
  have e1 : wI (wI I 17 o) 18 (I 18) = wI I 17 o := wI_self (I := wI I 17 o) (c := 18)
  have e2 : wI (wI I 17 o) 19 (I 19) = wI I 17 o := wI_self (I := wI I 17 o) (c := 19)
  have e3 : wI (wI I 17 o) 20 (I 20) = wI I 17 o := wI_self (I := wI I 17 o) (c := 20)
  unfold w4; rw [e1, e2, e3]
theorem w4_18 (I : MI) (b : Nat → Int32) : w4 I (I 17) b (I 19) (I 20) = wI I 18 b := by
  have e1 : wI I 17 (I 17) = I := wI_self
  have e2 : wI (wI I 18 b) 19 (I 19) = wI I 18 b := wI_self (I := wI I 18 b) (c := 19)
  have e3 : wI (wI I 18 b) 20 (I 20) = wI I 18 b := wI_self (I := wI I 18 b) (c := 20)
  unfold w4; rw [e1, e2, e3]
theorem w4_19 (I : MI) (r : Nat → Int32) : w4 I (I 17) (I 18) r (I 20) = wI I 19 r := by
  have e1 : wI I 17 (I 17) = I := wI_self
  have e2 : wI I 18 (I 18) = I := wI_self
  have e3 : wI (wI I 19 r) 20 (I 20) = wI I 19 r := wI_self (I := wI I 19 r) (c := 20)
  unfold w4; rw [e1, e2, e3]
theorem w4_20 (I : MI) (f : Nat → Int32) : w4 I (I 17) (I 18) (I 19) f = wI I 20 f := by
  have e1 : wI I 17 (I 17) = I := wI_self
  have e2 : wI I 18 (I 18) = I := wI_self
  have e3 : wI I 19 (I 19) = I := wI_self
  unfold w4; rw [e1, e2, e3]
/-- a change of the setting now, whatever it is -/
theorem pe_change {h : Ho} {t : Se} {a x d : Nat} {I : MI} {J : MJ} {Q : MI → MJ → Prop} (h1 : hoOK h) (h5 : setX (I 17) (I 18) (I 19) (I 20) h t) (ha : actOK h a x d) (hp : a = 1 → 0 < seB t x)
    (hQ : ∀ o b r f, setX o b r f h (chg a x d t) → Q (w4 I o b r f) J) : P_X8_change 17 (nI a) (nI x) (nI d) I J Q := by
  obtain ⟨ha6, hx8, hxw, hxr, hx4, hd4⟩ := ha
  have hw10 := h1.1
  have hc : x < 10 → (nI x).toNatClampNeg = x := fun hx => nI_clamp (by omega)
  rcases (show a = 0 ∨ a = 1 ∨ a = 2 ∨ a = 3 ∨ a = 4 ∨ a = 5 ∨ a = 6 by omega) with rfl | rfl | rfl | rfl | rfl | rfl | rfl
  · have hx := hx8 (by decide)
    refine ⟨fun _ => ⟨vp_in_nI hx (by decide), vp_in_nI hx (by decide), ?_⟩, fun c => absurd rfl c⟩
    rintro I9 rfl
    have := hQ (I 17) (upd (I 18) (nI x).toNatClampNeg (I 18 (nI x).toNatClampNeg + 1)) (I 19) (I 20) ⟨fun l hl => ?_, h5.2⟩
    · rw [w4_18] at this; exact this
    · show _ = nI (if l = x then seB t l + 1 else seB t l)
      rw [hc (by omega)]
      by_cases e : l = x
      · subst e; rw [upd_s rfl, if_pos rfl, h5.1 l hl, nI_1]
      · rw [upd_n e, if_neg e]; exact h5.1 l hl
  · have hx := hx8 (by decide)
    refine ⟨fun c => absurd c (by decide), fun _ => ⟨fun _ => ⟨vp_in_nI hx (by decide), vp_in_nI hx (by decide), ?_⟩, fun c => absurd rfl c⟩⟩
    rintro I9 rfl
    have := hQ (I 17) (upd (I 18) (nI x).toNatClampNeg (I 18 (nI x).toNatClampNeg - 1)) (I 19) (I 20) ⟨fun l hl => ?_, h5.2⟩
    · rw [w4_18] at this; exact this
    · show _ = nI (if l = x then seB t l - 1 else seB t l)
      rw [hc (by omega)]
      by_cases e : l = x
      · subst e; rw [upd_s rfl, if_pos rfl, h5.1 l hl, show (1 : Int32) = nI 1 from rfl, pk_sub (hp rfl)]
      · rw [upd_n e, if_neg e]; exact h5.1 l hl
  · have hx := hxw rfl
    refine ⟨fun c => absurd c (by decide), fun _ => ⟨fun c => absurd c (by decide), fun _ => ⟨fun _ => ?_, fun c => absurd rfl c⟩⟩⟩
    rintro I9 rfl
    have := hQ (upd (I 17) 5 (I 17 5 ^^^ ((1 : Int32) <<< (nI x &&& 31)))) (I 18) (I 19) (I 20) ⟨h5.1, h5.2.1, h5.2.2.1, h5.2.2.2.1, h5.2.2.2.2.1, ?_⟩
    · rw [w4_17] at this; exact this
    · show I 17 5 ^^^ ((1 : Int32) <<< (nI x &&& 31)) = nI (seX t ^^^ (1 <<< x))
      rw [h5.2.2.2.2.2, xor_bit (by omega)]
  · have hx := (hxr rfl).1
    refine ⟨fun c => absurd c (by decide), fun _ => ⟨fun c => absurd c (by decide), fun _ => ⟨fun c => absurd c (by decide), fun _ => ⟨fun _ => ⟨vp_in_nI (by omega) (by decide), ?_⟩, fun c => absurd rfl c⟩⟩⟩⟩
    rintro I9 rfl
    have := hQ (I 17) (I 18) (upd (I 19) (nI x).toNatClampNeg (nI d)) (I 20) ⟨h5.1, fun u hu => ?_, h5.2.2⟩
    · rw [w4_19] at this; exact this
    · show _ = nI (if u = x then d else seR t u)
      rw [hc (by omega)]
      by_cases e : u = x
      · rw [upd_s e, if_pos e]
      · rw [upd_n e, if_neg e]; exact h5.2.1 u hu
  · have hx := hx4 (by decide)
    refine ⟨fun c => absurd c (by decide), fun _ => ⟨fun c => absurd c (by decide), fun _ => ⟨fun c => absurd c (by decide), fun _ => ⟨fun c => absurd c (by decide), fun _ => ⟨fun _ => ?_, fun c => absurd rfl c⟩⟩⟩⟩⟩
    rintro I9 rfl
    have := hQ (upd (I 17) 3 (I 17 3 ^^^ ((1 : Int32) <<< (nI x &&& 31)))) (I 18) (I 19) (I 20) ⟨h5.1, h5.2.1, h5.2.2.1, ?_, h5.2.2.2.2⟩
    · rw [w4_17] at this; exact this
    · show I 17 3 ^^^ ((1 : Int32) <<< (nI x &&& 31)) = nI (seG t ^^^ (1 <<< x))
      rw [h5.2.2.2.1, xor_bit (by omega)]
  · have hx := hx4 (by decide)
    refine ⟨fun c => absurd c (by decide), fun _ => ⟨fun c => absurd c (by decide), fun _ => ⟨fun c => absurd c (by decide), fun _ => ⟨fun c => absurd c (by decide), fun _ => ⟨fun c => absurd c (by decide), fun _ => ⟨fun _ => ?_, fun c => absurd rfl c⟩⟩⟩⟩⟩⟩
    rintro I9 rfl
    have := hQ (upd (I 17) 4 (I 17 4 ^^^ ((1 : Int32) <<< (nI x &&& 31)))) (I 18) (I 19) (I 20) ⟨h5.1, h5.2.1, h5.2.2.1, h5.2.2.2.1, ?_, h5.2.2.2.2.2⟩
    · rw [w4_17] at this; exact this
    · show I 17 4 ^^^ ((1 : Int32) <<< (nI x &&& 31)) = nI (seE t ^^^ (1 <<< x))
      rw [h5.2.2.2.2.1, xor_bit (by omega)]
  · have hx := hx4 (by decide)
    have hd := hd4 rfl
    refine ⟨fun c => absurd c (by decide), fun _ => ⟨fun c => absurd c (by decide), fun _ => ⟨fun c => absurd c (by decide), fun _ => ⟨fun c => absurd c (by decide), fun _ => ⟨fun c => absurd c (by decide), fun _ => ⟨fun c => absurd c (by decide), fun _ => ⟨vp_in_nI hx (by decide), vp_in_nI hx (by decide), ?_⟩⟩⟩⟩⟩⟩⟩
    rintro I9 rfl
    have := hQ (I 17) (I 18) (I 19) (upd (I 20) (nI x).toNatClampNeg (I 20 (nI x).toNatClampNeg ^^^ ((1 : Int32) <<< (nI d &&& 31)))) ⟨h5.1, h5.2.1, fun a ha9 => ?_, h5.2.2.2⟩
    · rw [w4_20] at this; exact this
    · show _ = nI (if a = x then seF t a ^^^ (1 <<< d) else seF t a)
      rw [hc (by omega)]
      by_cases e : a = x
      · subst e; rw [upd_s rfl, if_pos rfl, h5.2.2.1 a ha9, xor_bit (by omega)]
      · rw [upd_n e, if_neg e]; exact h5.2.2.1 a ha9
/-- a row of n taken from place o of another -/
def cpd (f g : Nat → Int32) (o n : Nat) : Nat → Int32 := fun j => if j < n then f (o + j) else g j
theorem cpd_0 (f g : Nat → Int32) (o : Nat) : cpd f g o 0 = g := by funext j; unfold cpd; rw [if_neg (by omega)]
theorem cpd_s (f g : Nat → Int32) (o n : Nat) : upd (cpd f g o n) n (f (o + n)) = cpd f g o (n + 1) := by
  funext j; unfold upd cpd
  by_cases h : j = n
  · subst h; rw [if_pos rfl, if_pos (by omega)]
  · rw [if_neg h]
    by_cases h2 : j < n
    · rw [if_pos h2, if_pos (by omega)]
    · rw [if_neg h2, if_neg (by omega)]
theorem rowM_cpd {D A : Nat → Int32} {o : Nat} {h : Ho} {t : Se} (hh : hoOK h) (hr : rowM D o h t) : rowM (cpd D A o 25) 0 h t := by
  have hr0 : ∀ j, j < 25 → cpd D A o 25 (0 + j) = D (o + j) := fun j hj => by unfold cpd; rw [Nat.zero_add, if_pos hj]
  obtain ⟨r1, r2, r3, r4, r5, r6⟩ := hr
  have hw := hh.1
  refine ⟨fun l hl => (hr0 l (by omega)).trans (r1 l hl), fun u hu => ?_, fun z hz => ?_, (hr0 19 (by omega)).trans r4, (hr0 20 (by omega)).trans r5, (hr0 8 (by omega)).trans r6⟩
  · have := r2 u hu; rw [Nat.add_assoc] at this ⊢; exact (hr0 (9 + u) (by omega)).trans this
  · have := r3 z hz; rw [Nat.add_assoc] at this ⊢; exact (hr0 (21 + z) (by omega)).trans this
theorem s_undo : st_undo Sim := by
  intro I J A B hs
  obtain ⟨h, t, h1, h2, h3, h4, h5, h6, h7, h8, h9, h10, h11, h12, h13, h14, h15⟩ := id hs
  obtain ⟨k, q, ts, g1, g2, g3, g4, g5, g6, g7⟩ := id h8
  refine ⟨fun c => ?_, fun c => ?_⟩
  · have hk : 0 < k := by
      rw [g3] at c; exact (nI_ltI (a := 0) (by decide) (by omega)).mp c
    obtain ⟨j, rfl⟩ : ∃ j, k = j + 1 := ⟨k - 1, by omega⟩
    rintro I16 rfl
    have ej : I 35 3 - 1 = nI j := by rw [g3, nI_pred]
    have hin : vp_in (I 35 3 - 1) 14 := by rw [ej]; exact vp_in_nI (by omega) (by decide)
    refine ⟨hin, hin, hin, ?_⟩
    obtain ⟨s1, s2, a1, x1, d1, s3, s4, s5, s6, s7, s8⟩ := g7 j (by omega)
    have cj : (I 35 3 - 1).toNatClampNeg = j := by rw [ej]; exact nI_clamp (by omega)
    have hch : P_X8_change 17 (nI a1) (nI x1) (nI d1) (mI I 35 3 (I 35 3 - 1)) J (fun I47 J47 => ((¬ (1 : Int32) = 0 → P_X11_outdate I47 J47 (fun I18 J18 => P_X12_undo A B (fun r2 I2 J2 => I18 35 3 = r2 ∧ Sim I18 J18 I2 J2))) ∧ ((1 : Int32) = 0 → P_X12_undo A B (fun r2 I2 J2 => (-3 : Int32) = r2 ∧ Sim I47 J47 I2 J2)))) := by
      refine pe_change (t := t) h1 h5 s6 (by rw [← g6]; exact s7) (fun o b r f hX => ⟨fun _ => ?_, fun c => absurd c (by decide)⟩)
      rintro I5 rfl I2 rfl I7 rfl
      refine ⟨fun c => ?_, fun c => ?_⟩
      · rintro I17 rfl I33 rfl
        have eq : (A 0 11 + 14 - 1) - (A 0 11 + 14 - 1) / 14 * 14 = nI ((q + 13) % 14) := by
          have e0 : A 0 11 + 14 - 1 = nI (q + 13) := by rw [g5, show (14 : Int32) = nI 14 from rfl, nI_add, show q + 14 = (q + 13) + 1 by omega, nI_pred]
          rw [e0]; exact pk_rem (d := 14) (by omega) (by decide) (by decide)
        have ek : A 0 10 - 1 = nI j := by rw [g4, nI_pred]
        have key : ∀ M0 : MI, M0 = mI (mI A 0 10 (A 0 10 - 1)) 0 11 ((A 0 11 + 14 - 1) - (A 0 11 + 14 - 1) / 14 * 14) → ∀ Q : Int32 → MI → MJ → Prop, Q (M0 0 10) (wI M0 6 (cpd (A 8) (A 6) (25 * ((q + 13) % 14)) 25)) B → lpx (P_X12_undo_38 Q) ((0 : Int32), M0, B) := by
          rintro M0 rfl Q hQ
          refine lpx_up (fun i a => a = (nI i, wI (mI (mI A 0 10 (A 0 10 - 1)) 0 11 ((A 0 11 + 14 - 1) - (A 0 11 + 14 - 1) / 14 * 14)) 6 (cpd (A 8) (A 6) (25 * ((q + 13) % 14)) i), B)) 25 ?_ ?_ 0 _ (Nat.zero_le _) ?_
          · rintro a k9 rfl
            exact ⟨fun _ => hQ, fun c => absurd (nI_le (Nat.le_refl 25) (by decide)) c⟩
          · rintro i a k9 hi rfl h9
            have e5 : (25 : Int32) * ((A 0 11 + 14 - 1) - (A 0 11 + 14 - 1) / 14 * 14) + nI i = nI (25 * ((q + 13) % 14) + i) := by
              rw [eq, show (25 : Int32) = nI 25 from rfl, pk_mul, nI_add]
            refine ⟨fun c => absurd c (nI_ge (b := 25) hi (by decide)), fun _ => ⟨?_, vp_in_nI hi (by decide), ?_⟩⟩
            · show vp_in ((25 : Int32) * ((A 0 11 + 14 - 1) - (A 0 11 + 14 - 1) / 14 * 14) + nI i) 350
              rw [e5]; exact vp_in_nI (by omega) (by decide)
            · rintro I63 rfl
              refine h9 _ ?_
              have e6 : ((25 : Int32) * ((A 0 11 + 14 - 1) - (A 0 11 + 14 - 1) / 14 * 14) + nI i).toNatClampNeg = 25 * ((q + 13) % 14) + i := by rw [e5]; exact nI_clamp (by omega)
              have e7 : mI (wI (mI (mI A 0 10 (A 0 10 - 1)) 0 11 ((A 0 11 + 14 - 1) - (A 0 11 + 14 - 1) / 14 * 14)) 6 (cpd (A 8) (A 6) (25 * ((q + 13) % 14)) i)) 6 (nI i).toNatClampNeg (A 8 ((25 : Int32) * ((A 0 11 + 14 - 1) - (A 0 11 + 14 - 1) / 14 * 14) + nI i).toNatClampNeg) = wI (mI (mI A 0 10 (A 0 10 - 1)) 0 11 ((A 0 11 + 14 - 1) - (A 0 11 + 14 - 1) / 14 * 14)) 6 (cpd (A 8) (A 6) (25 * ((q + 13) % 14)) (i + 1)) := by
                rw [e6, nI_clamp (by omega)]
                show wI (wI _ 6 _) 6 (upd (cpd (A 8) (A 6) (25 * ((q + 13) % 14)) i) i _) = _
                rw [wI_wI, cpd_s]
              rw [nI_1]
              exact congrArg (fun m => (nI (i + 1), m, B)) e7
          · rw [cpd_0]
            have : wI (mI (mI A 0 10 (A 0 10 - 1)) 0 11 ((A 0 11 + 14 - 1) - (A 0 11 + 14 - 1) / 14 * 14)) 6 (A 6) = mI (mI A 0 10 (A 0 10 - 1)) 0 11 ((A 0 11 + 14 - 1) - (A 0 11 + 14 - 1) / 14 * 14) := wI_self (I := mI (mI A 0 10 (A 0 10 - 1)) 0 11 ((A 0 11 + 14 - 1) - (A 0 11 + 14 - 1) / 14 * 14)) (c := 6)
            rw [this]; rfl
        refine key _ rfl _ ?_
        have hq2 : (q + 14 - (j + 1 - j)) % 14 = (q + 13) % 14 := by omega
        rw [hq2] at s2
        have s8' : chg a1 x1 d1 t = ts j := by rw [← g6]; exact s8
        rw [s8'] at hX
        refine ⟨ej.trans ek.symm, h, ts j, h1, s1, h3, h4, hX, rowM_cpd h1 s2, h7, ?_, h9, h10, h11, h12, h13, h14, Or.inl rfl, Or.inl rfl, Or.inl rfl⟩
        refine ⟨j, (q + 13) % 14, ts, by omega, Nat.mod_lt _ (by decide), ej, ek, eq, rfl, fun i hi => ?_⟩
        obtain ⟨u1, u2, u3⟩ := g7 i (by omega)
        have hq3 : ((q + 13) % 14 + 14 - (j - i)) % 14 = (q + 14 - (j + 1 - i)) % 14 := by omega
        rw [hq3]
        exact ⟨u1, u2, u3⟩
      · rw [g4] at c
        exact absurd ((nI_eq (b := 0) (by omega) (by decide)).mp c) (by omega)
    have e3 : I 36 (I 35 3 - 1).toNatClampNeg = nI a1 := by rw [cj]; exact s3
    have e4 : I 37 (I 35 3 - 1).toNatClampNeg = nI x1 := by rw [cj]; exact s4
    have e5 : I 38 (I 35 3 - 1).toNatClampNeg = nI d1 := by rw [cj]; exact s5
    show P_X8_change 17 (I 36 (I 35 3 - 1).toNatClampNeg) (I 37 (I 35 3 - 1).toNatClampNeg) (I 38 (I 35 3 - 1).toNatClampNeg) (mI I 35 3 (I 35 3 - 1)) J _
    rw [e3, e4, e5]
    exact hch
  · have hk : k = 0 := by
      rcases Nat.eq_zero_or_pos k with z | z
      · exact z
      · rw [g3] at c; exact absurd (nI_lt (a := 0) z (by omega)) c
    subst hk
    exact ⟨fun c => absurd rfl c, fun _ => ⟨fun c => absurd g4 c, fun _ => ⟨rfl, hs⟩⟩⟩
