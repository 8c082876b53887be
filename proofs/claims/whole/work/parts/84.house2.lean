theorem cpy0 {α : Type} {f g : Nat → α} {n j : Nat} (h : j < n) : va_cpy f g 0 0 n j = f j := by
  rw [pk_cpy_in (Nat.zero_le _) (by omega), show 0 + (j - 0) = j by omega]
/-- the reference takes the words over -/
theorem pe_houseM {h : Ho} {t : Se} {A : MI} {B : MJ} {Q : Int32 → MI → MJ → Prop} (h1 : hoOK h) (hm : mM A 0 0 h t) (hX : seX t = 0)
    (hQ : ∀ A' : MI, (∀ c, c = 1 ∨ c = 8 ∨ (12 ≤ c ∧ c < 15) → A' c = A c) → (∀ k, k ≠ 2 → k ≠ 10 → k ≠ 15 → A' 0 k = A 0 k) → A' 0 2 = nI (hoW h) → A' 0 10 = 0 → A' 0 15 = 0 → A' 10 0 = 0 → A' 10 1 = 0 → lexM (A' 0 2) (A' 4) (A' 3) (A' 5) (A' 2) h → rowM (A' 6) 0 h t → Q (nI (hoW h)) A' B) :
    (∀ I17 : MI, I17 = mI A 0 2 (A 0 21) → lpx (P_X12_house_22 Q) ((0 : Int32), I17, B)) := by
  have hw10 := h1.1
  obtain ⟨m1, m2, m3, m4, m5, m6, m7, m8, m9, m10, m11, m12⟩ := id hm
  have ecw : cw 0 (hoW h) = hoW h := if_neg (by decide)
  rw [ecw] at m1
  rintro A17 rfl
  rw [m1]
  refine lpx_up (fun i z => ∃ f : Nat → Int32, z = (nI i, wI (mI A 0 2 (nI (hoW h))) 5 f, B) ∧ ∀ j, j < i → f j = 0) 80 ?_ ?_ 0 _ (Nat.zero_le _) ⟨mI A 0 2 (nI (hoW h)) 5, by rw [wI_self]; rfl, fun j hj => absurd hj (Nat.not_lt_zero j)⟩
  rotate_left
  · rintro i z kk hi ⟨f, rfl, hf⟩ hkk
    refine pk_le 80 i (fun c => by omega) (fun _ => ⟨vp_in_nI hi (by decide), ?_⟩)
    rintro A34 rfl
    rw [nI_1, nI_clamp (by omega)]
    refine hkk _ ⟨upd f i 0, ?_, fun j hj => ?_⟩
    · show (_, wI (wI (mI A 0 2 (nI (hoW h))) 5 f) 5 (upd (wI (mI A 0 2 (nI (hoW h))) 5 f 5) i 0), B) = _
      rw [wI_wI, wI_s]
    · by_cases e : j = i
      · rw [upd_s e]
      · rw [upd_n e]; exact hf j (by omega)
  rintro z kk ⟨f0, rfl, hf0⟩
  refine pk_le 80 80 (fun _ => ?_) (fun c => by omega)
  refine lpx_up (fun u z => ∃ A' : MI, z = (nI u, A', B) ∧ (∀ c, c ≠ 0 → c ≠ 2 → c ≠ 3 → c ≠ 4 → c ≠ 5 → A' c = A c) ∧ (∀ k, k ≠ 2 → A' 0 k = A 0 k) ∧ A' 0 2 = nI (hoW h) ∧ (∀ w, w < u → A' 4 w = nI (hoK h w) ∧ A' 3 w = nI (hoZ h w) ∧ (∀ l, l < 8 → A' 5 (8 * w + l) = nI (nd h w l)) ∧ ∀ i, i < hoZ h w → A' 2 (6 * w + i) = nI (hoS h w i)) ∧ ∀ w l, u ≤ w → w < 10 → l < 8 → A' 5 (8 * w + l) = 0) (hoW h) ?_ ?_ 0 _ (Nat.zero_le _) ⟨_, rfl, fun c c1 c2 c3 c4 c5 => (wI_n _ c5 _).trans (wI_n _ c1 _), fun k hk => (mI_s A 0 2 _ k).trans (upd_n hk), rfl, fun w hw => absurd hw (Nat.not_lt_zero w), fun w l _ c2 c3 => hf0 _ (by omega)⟩
  · rintro z k2 ⟨A', rfl, g1, g2, g3, g4, g5⟩
    refine pk_le (hoW h) (hoW h) (fun _ => ?_) (fun c => by omega) g3
    refine pe_copyM (by decide) (fun f hf => ?_)
    rintro A159 rfl A164 rfl
    refine ⟨vp_in_nI (n := 0) (by decide) (by decide), ?_⟩
    rintro A173 rfl
    refine ⟨vp_in_nI (n := 1) (by decide) (by decide), ?_⟩
    rintro A180 rfl
    have e02 : (mI (mI (mI (mI (wI A' 6 f) 0 10 0) 0 15 0) 10 (0 : Int32).toNatClampNeg (vp_nar .boolean 0)) 10 (1 : Int32).toNatClampNeg (vp_nar .boolean (0 : Int32))) 0 2 = nI (hoW h) := g3
    rw [e02]
    have e18 : A' 18 = A 18 := g1 18 (by decide) (by decide) (by decide) (by decide) (by decide)
    refine hQ _ (fun c hc => ?_) (fun k k1 k2 k3 => ?_) e02 rfl rfl (show vp_nar .boolean (0 : Int32) = 0 by decide) (show vp_nar .boolean (0 : Int32) = 0 by decide) ⟨e02, fun u hu => ?_⟩ ?_
    · exact (wI_n _ (by omega) _).trans ((wI_n _ (by omega) _).trans ((wI_n _ (by omega) _).trans ((wI_n _ (by omega) _).trans ((wI_n _ (by omega) _).trans (g1 c (by omega) (by omega) (by omega) (by omega) (by omega))))))
    · show upd (upd (A' 0) 10 0) 15 0 k = _
      rw [upd_n k3, upd_n k2]; exact g2 k k1
    · obtain ⟨q1, q2, q3, q4⟩ := g4 u hu
      exact ⟨q1, q2, q3, q4⟩
    · show rowM f 0 h t
      have hf' : ∀ j, j < 25 → f j = A 18 j := fun j hj => by rw [hf j hj, e18]
      refine ⟨fun l hl => ?_, fun u hu => ?_, fun a ha => ?_, ?_, ?_, ?_⟩
      · rw [Nat.zero_add, hf' _ (by omega)]; exact m7 l hl
      · rw [show 0 + 9 + u = 9 + u by omega, hf' _ (by omega)]; exact m8 u hu (Or.inr ⟨by decide, by decide⟩)
      · rw [show 0 + 21 + a = 21 + a by omega, hf' _ (by omega)]; exact m9 a ha
      · rw [hf' _ (by omega)]; exact m10
      · rw [hf' _ (by omega)]; exact m11
      · rw [hf' _ (by omega), hX]; exact m12
  · rintro u z k2 hu ⟨A', rfl, g1, g2, g3, g4, g5⟩ hk2
    have hv : vp_in (nI u) 10 := vp_in_nI (by omega) (by decide)
    have hcu : (nI u).toNatClampNeg = u := nI_clamp (by omega)
    have hz6 := (h1.2 u hu).2.2.1
    refine pk_le (hoW h) u (fun c => by omega) (fun _ => ⟨hv, hv, ?_⟩) g3
    rintro A62 rfl
    refine ⟨hv, hv, ?_⟩
    rintro A74 rfl
    rw [hcu]
    have e16 : A' 16 u = nI (hoZ h u) := by rw [g1 16 (by decide) (by decide) (by decide) (by decide) (by decide)]; exact (m5 u hu).1
    have e17 : mI A' 3 u (A' 16 u) 17 u = nI (hoK h u) := by
      show A' 17 u = _
      rw [g1 17 (by decide) (by decide) (by decide) (by decide) (by decide)]; exact m6 u hu (Or.inr (by decide))
    rw [e17, e16]
    refine lpx_up (fun i z => ∃ A2 : MI, z = (nI u, nI i, A2, B) ∧ (∀ c, c ≠ 0 → c ≠ 2 → c ≠ 3 → c ≠ 4 → c ≠ 5 → A2 c = A c) ∧ (∀ k, k ≠ 2 → A2 0 k = A 0 k) ∧ A2 0 2 = nI (hoW h) ∧ (∀ w, w < u → A2 4 w = nI (hoK h w) ∧ A2 3 w = nI (hoZ h w) ∧ (∀ l, l < 8 → A2 5 (8 * w + l) = nI (nd h w l)) ∧ ∀ i, i < hoZ h w → A2 2 (6 * w + i) = nI (hoS h w i)) ∧ (∀ w l, u < w → w < 10 → l < 8 → A2 5 (8 * w + l) = 0) ∧ A2 4 u = nI (hoK h u) ∧ A2 3 u = nI (hoZ h u) ∧ (∀ l, l < 8 → A2 5 (8 * u + l) = nI (cnt (hoS h u) l i)) ∧ ∀ j, j < i → A2 2 (6 * u + j) = nI (hoS h u j)) (hoZ h u) ?_ ?_ 0 _ (Nat.zero_le _) ⟨_, rfl, fun c c1 c2 c3 c4 c5 => (wI_n _ c4 _).trans ((wI_n _ c3 _).trans (g1 c c1 c2 c3 c4 c5)), g2, g3, fun w hw => ?_, fun w l c1 c2 c3 => g5 w l (by omega) c2 c3, ?_, ?_, fun l hl => g5 u l (Nat.le_refl _) (by omega) hl, fun j hj => absurd hj (Nat.not_lt_zero j)⟩
    · rintro z k3 ⟨A2, rfl, y1, y2, y3, y4, y5, y6, y7, y8, y9⟩
      refine ⟨hv, ?_⟩
      rw [hcu, y7]
      refine pk_le (hoZ h u) (hoZ h u) (fun _ => ?_) (fun c => by omega)
      rw [nI_1]
      refine hk2 _ ⟨A2, rfl, y1, y2, y3, fun w hw => ?_, fun w l c1 c2 c3 => y5 w l (by omega) c2 c3⟩
      by_cases e : w = u
      · subst e; exact ⟨y6, y7, y8, y9⟩
      · exact y4 w (by omega)
    · rintro i z k3 hi ⟨A2, rfl, y1, y2, y3, y4, y5, y6, y7, y8, y9⟩ hk3
      have hs8 := (h1.2 u hu).2.2.2 i hi
      refine ⟨hv, ?_⟩
      rw [hcu, y7]
      have e6 : (6 : Int32) * nI u + nI i = nI (6 * u + i) := by rw [show (6 : Int32) = nI 6 from rfl, pk_mul, nI_add]
      have hv6 : vp_in (nI (6 * u + i)) 60 := vp_in_nI (by omega) (by decide)
      have hc6 : (nI (6 * u + i)).toNatClampNeg = 6 * u + i := nI_clamp (by omega)
      refine pk_le (hoZ h u) i (fun c => by omega) (fun _ => ?_)
      rw [e6]
      refine ⟨hv6, hv6, ?_⟩
      rintro A108 rfl
      rw [hc6]
      have e15 : A2 15 (6 * u + i) = nI (hoS h u i) := by rw [y1 15 (by decide) (by decide) (by decide) (by decide) (by decide)]; exact (m5 u hu).2 i hi
      rw [e15]
      have e2 : mI A2 2 (6 * u + i) (nI (hoS h u i)) 2 (6 * u + i) = nI (hoS h u i) := (mI_s _ _ _ _ _).trans (upd_s rfl)
      rw [e2]
      have e8 : (8 : Int32) * nI u + nI (hoS h u i) = nI (8 * u + hoS h u i) := by rw [show (8 : Int32) = nI 8 from rfl, pk_mul, nI_add]
      rw [e8]
      have hv8 : vp_in (nI (8 * u + hoS h u i)) 80 := vp_in_nI (by omega) (by decide)
      refine ⟨hv6, hv8, hv8, ?_⟩
      rintro A133 rfl
      have e5 : mI A2 2 (6 * u + i) (nI (hoS h u i)) 5 (8 * u + hoS h u i) = nI (cnt (hoS h u) (hoS h u i) i) := y8 _ hs8
      rw [nI_clamp (by omega), e5, nI_1, nI_1]
      refine hk3 _ ⟨_, rfl, fun c c1 c2 c3 c4 c5 => (wI_n _ c5 _).trans ((wI_n _ c2 _).trans (y1 c c1 c2 c3 c4 c5)), y2, y3, fun w hw => ?_, fun w l c1 c2 c3 => ?_, y6, y7, fun l hl => ?_, fun j hj => ?_⟩
      · obtain ⟨w1, w2, w3, w4⟩ := y4 w hw
        have hzw := (h1.2 w (by omega)).2.2.1
        exact ⟨w1, w2, fun l hl => (upd_n (f := A2 5) (by omega)).trans (w3 l hl), fun i2 hi2 => (upd_n (f := A2 2) (by omega)).trans (w4 i2 hi2)⟩
      · exact (upd_n (f := A2 5) (by omega)).trans (y5 w l c1 c2 c3)
      · show upd (A2 5) (8 * u + hoS h u i) (nI (cnt (hoS h u) (hoS h u i) i + 1)) (8 * u + l) = nI (cnt (hoS h u) l i + (if hoS h u i = l then 1 else 0))
        by_cases e : hoS h u i = l
        · rw [if_pos e, upd_s (by omega), e]
        · rw [if_neg e, upd_n (by omega)]; exact y8 l hl
      · show upd (A2 2) (6 * u + i) (nI (hoS h u i)) (6 * u + j) = _
        by_cases e : j = i
        · subst e; rw [upd_s rfl]
        · rw [upd_n (by omega)]; exact y9 j (by omega)
    · obtain ⟨w1, w2, w3, w4⟩ := g4 w hw
      exact ⟨(upd_n (f := A' 4) (by omega)).trans w1, (upd_n (f := A' 3) (by omega)).trans w2, w3, w4⟩
    · exact upd_s (f := A' 4) rfl
    · exact upd_s (f := A' 3) rfl
theorem s_house : st_house Sim := by
  intro I J A B hs
  obtain ⟨h, t, hH⟩ := Sim_H.mp hs
  obtain ⟨h1, h2, h3, h4, h5, h6, h7, h8, h9, h10, h11, h12, h13, h14, h15⟩ := id hH
  obtain ⟨k, ch, hk, hz, e1, e2, hch⟩ := text_of h7
  obtain ⟨j0, hj0, hy, hn⟩ := sq_ex ch k
  have hr9 : rdA ch k j0 = -9 ↔ j0 = k ∧ (sq ch k).1 = 0 := by
    unfold rdA
    rcases Nat.lt_or_ge j0 k with q | q
    · rw [if_pos q]
      exact ⟨fun e => absurd (show ¬ nI j0 < 0 from nI_pos (by omega)) (by rw [e]; decide), fun e => by omega⟩
    · rw [if_neg (by omega)]
      by_cases e : (sq ch k).1 = 0
      · rw [if_pos e]; exact ⟨fun _ => ⟨by omega, e⟩, fun _ => rfl⟩
      · rw [if_neg e]
        exact ⟨fun e9 => absurd (show ¬ nI k < 0 from nI_pos (by omega)) (by rw [e9]; decide), fun e9 => absurd e9.2 e⟩
  refine pe_firstFault hk e1 (fun j hj => ⟨(hch j hj).1, (hch j hj).2.1⟩) hj0 hy hn (fun I1 J1 f1 mx => ⟨fun c9 => ?_, fun c9 => ?_⟩)
  rotate_left
  · refine pe_readText hk e2 (fun j hj => ⟨(hch j hj).1, (hch j hj).2.2⟩) hj0 hy hn (fun A1 g1 _ => ⟨fun e => absurd e c9, fun _ => ⟨rfl, h, t, SimH_rd hH f1 g1⟩⟩)
  obtain ⟨ek, eph⟩ := hr9.mp c9
  have mx1 := mx ek
  have hpk := sq_ok hy k (by omega)
  rw [eph] at mx1 hpk
  generalize hq : sq ch k = s at *
  obtain ⟨ph, ld, h', t'⟩ := s
  dsimp only at mx1 hpk eph
  obtain ⟨p1, p2, p3, p4, p5, p6, p7, p8, p9, p10, p11, p12, p13⟩ := id hpk
  obtain ⟨m1, m2, m3, m4, m5, m6, m7, m8, m9, m10⟩ := id mx1
  have ok1 : hoOK h' := ⟨p2, fun u hu => ⟨(p5 u hu (Or.inr (by decide))).1, (p5 u hu (Or.inr (by decide))).2, (p4 u hu).1, (p4 u hu).2⟩⟩
  have ok2 : seOK h' t' := ⟨p7, fun u hu => p6 u hu (Or.inr ⟨by decide, by decide⟩), p9, p10, p11, by rw [p12]; exact Nat.two_pow_pos _⟩
  have e85 : I1 8 5 = nI (seX t') := by rw [f1.2.2.1, hz, p12]; rfl
  have set8 : setX (I1 8) (I1 9) (I1 10) (I1 11) h' t' := ⟨m6, fun u hu => m7 u hu (Or.inr ⟨by decide, by decide⟩), m8, m9, m10, e85⟩
  -- the words copied
  rintro I5 rfl
  refine ⟨by decide, ?_⟩
  rintro I20 rfl
  refine ⟨by decide, ?_⟩
  rintro I35 rfl
  refine ⟨by decide, ?_⟩
  rintro J50 rfl
  refine ⟨by decide, ?_⟩
  rintro I65 rfl
  refine pe_copy (k := 17) (w := 8) ok1 (Or.inr (by decide)) set8 (fun o b r f hset => ?_)
  rintro I48 rfl I53 rfl
  generalize hIm : wk _ 17 o b r f = Im
  have b0 : ∀ c, c = 0 ∨ c = 1 ∨ c = 2 ∨ c = 8 ∨ 21 ≤ c → Im c = I1 c := fun c hc => by
    rw [← hIm]
    exact (wI_n _ (by omega) _).trans ((wI_n _ (by omega) _).trans ((wI_n _ (by omega) _).trans ((wI_n _ (by omega) _).trans ((wI_n _ (by omega) _).trans ((wI_n _ (by omega) _).trans ((wI_n _ (by omega) _).trans (wI_n _ (by omega) _)))))))
  have hlex : lexX (Im 12 4) (Im 13) (Im 14) (wJ J1 (12 + 3) (va_cpy (J1 (3 + 3)) (J1 (12 + 3)) (0 : Int32).toNatClampNeg (0 : Int32).toNatClampNeg (10 : Int32).toNatClampNeg) 15) (Im 16) h' := by
    rw [← hIm]
    refine ⟨m3, fun u hu => ⟨?_, ?_, ?_, fun i hi => ?_⟩⟩
    · exact (cpy0 (f := I1 4) (n := 10) (by omega)).trans (m5 u hu (Or.inr (by decide)))
    · exact (cpy0 (f := I1 5) (n := 10) (by omega)).trans (m4 u hu).1
    · exact (cpy0 (f := J1 6) (n := 10) (by omega)).trans (m4 u hu).2.1
    · have := (p4 u hu).1
      exact (cpy0 (f := I1 7) (n := 60) (by omega)).trans ((m4 u hu).2.2 i hi)
  have hset' : setX (Im 17) (Im 18) (Im 19) (Im 20) h' t' := by rw [← hIm]; exact hset
  -- the slots
  refine lpx_up (fun i z => ∃ g : Nat → Int32, z = (nI i, wI (mI (mI Im 35 3 0) 0 14 0) 34 g, wJ J1 (12 + 3) (va_cpy (J1 (3 + 3)) (J1 (12 + 3)) (0 : Int32).toNatClampNeg (0 : Int32).toNatClampNeg (10 : Int32).toNatClampNeg)) ∧ ∀ j, j < i → g j = 0) 2 ?_ ?_ 0 _ (Nat.zero_le _) ⟨mI (mI Im 35 3 0) 0 14 0 34, by rw [wI_self]; rfl, fun j hj => absurd hj (Nat.not_lt_zero j)⟩
  rotate_left
  · rintro i z kk hi ⟨g, rfl, hg⟩ hkk
    refine pk_le 2 i (fun c => by omega) (fun _ => ⟨vp_in_nI hi (by decide), ?_⟩)
    rintro I69 rfl
    rw [nI_1, nI_clamp (by omega)]
    refine hkk _ ⟨upd g i (vp_nar .boolean 0), ?_, fun j hj => ?_⟩
    · show (_, wI (wI (mI (mI Im 35 3 0) 0 14 0) 34 g) 34 (upd (wI (mI (mI Im 35 3 0) 0 14 0) 34 g 34) i _), _) = _
      rw [wI_wI, wI_s]
    · by_cases e : j = i
      · rw [upd_s e]; decide
      · rw [upd_n e]; exact hg j (by omega)
  rintro z kk ⟨g, rfl, hg⟩
  refine pk_le 2 2 (fun _ => ?_) (fun c => by omega)
  rintro I77 rfl I78 rfl I79 rfl
  have e124 : mI (mI (mI (wI (mI (mI Im 35 3 0) 0 14 0) 34 g) 39 12 0) 55 8 0) 55 9 (0 : Int32) 12 4 = nI (hoW h') := by
    show Im 12 4 = _; exact hlex.1
  rw [e124]
  -- the reference
  refine pe_readText hk e2 (fun j hj => ⟨(hch j hj).1, (hch j hj).2.2⟩) hj0 hy hn (fun A1 g1 mm => ⟨fun _ => ?_, fun e => absurd c9 e⟩)
  have mm1 := mm ek
  rw [hq] at mm1
  dsimp only at mm1
  rw [eph] at mm1
  have mm0 : mM A1 0 0 h' t' := ⟨mm1.1, mm1.2.1, mm1.2.2.1, fun q => absurd q (by decide), mm1.2.2.2.2⟩
  refine pe_houseM ok1 mm0 p12 (fun A2 y1 y2 y3 y4 y5 y6 y7 y8 y9 => ⟨rfl, h', t', ok1, ok2, hlex, y8, hset', y9, ?_, ?_, Or.inl ⟨hg 0 (by decide), y6⟩, Or.inl ⟨hg 1 (by decide), y7⟩, ⟨0, Nat.zero_le _, rfl, y5, fun i hi => absurd hi (Nat.not_lt_zero i)⟩, ?_, ?_, ?_, Or.inl rfl, Or.inl rfl, Or.inl rfl⟩)
  · show S_text (Im 1 3) (A2 0 1) (Im 2) (A2 1) (Im 8 5)
    rw [b0 1 (by decide), b0 2 (by decide), b0 8 (by decide), y2 1 (by decide) (by decide) (by decide), y1 1 (by decide), f1.2.1, f1.1 2 (by decide), f1.2.2.1, g1.2 1 (by decide), g1.1 1 (by decide)]
    exact h7
  · obtain ⟨kd, qd, tsd, d1, d2, d3, d4, d5, d6, d7⟩ := id h8
    refine ⟨0, qd, fun _ => t', Nat.zero_le _, d2, rfl, y4, ?_, rfl, fun i hi => absurd hi (Nat.not_lt_zero i)⟩
    rw [y2 11 (by decide) (by decide) (by decide), g1.2 11 (by decide)]; exact d5
  · show S_seen (upd (Im 0) 14 0 15) (A2 0 19) (Im 65) (A2 12) (A2 13) (A2 14)
    rw [upd_n (by decide), b0 0 (by decide), b0 65 (by decide), y2 19 (by decide) (by decide) (by decide), y1 12 (by decide), y1 13 (by decide), y1 14 (by decide), f1.1 0 (by decide), f1.1 65 (by decide), g1.2 19 (by decide), g1.1 12 (by decide), g1.1 13 (by decide), g1.1 14 (by decide)]
    exact h12
  · show J1 0 16 = B 0 20
    rw [f1.2.2.2 0 (by decide)]; exact h13
  · show S_sw (Im 39 8) (Im 39 9)
    rw [b0 39 (by decide), f1.1 39 (by decide)]; exact h14
