/-! ===== why a told row is no phrase ===== -/
/-- what is left behind i words of a row; what is let there; whether the next word passes -/
def lf (h : Ho) (t : Se) (r : Nat → Nat) (i l : Nat) : Nat := seB t l - sm (fun j => nd h (r j) l) i
def mk (h : Ho) (t : Se) (r : Nat → Nat) (i : Nat) : Nat := if i = 0 then seG t else seF t (hoK h (r (i - 1)))
def PS (h : Ho) (t : Se) (r : Nat → Nat) (i : Nat) : Prop := (seX t).testBit (r i) = false ∧ (mk h t r i).testBit (hoK h (r i)) = true ∧ ∀ l, l < 8 → nd h (r i) l ≤ lf h t r i l
def Rs1 (h : Ho) (t : Se) (r : Nat → Nat) (i : Nat) (c a x m : Int32) : Prop :=
  ((seX t).testBit (r i) = true ∧ c = 1 ∧ a = nI i ∧ x = -9 ∧ m = 0) ∨
  ((seX t).testBit (r i) = false ∧ (mk h t r i).testBit (hoK h (r i)) = false ∧ c = 2 ∧ a = nI i ∧ x = -9 ∧ m = 0) ∨
  ((seX t).testBit (r i) = false ∧ (mk h t r i).testBit (hoK h (r i)) = true ∧ ∃ j, j < hoZ h (r i) ∧ (∀ j2, j2 < j → nd h (r i) (hoS h (r i) j2) ≤ lf h t r i (hoS h (r i) j2)) ∧ lf h t r i (hoS h (r i) j) < nd h (r i) (hoS h (r i) j) ∧ c = 3 ∧ a = nI i ∧ x = nI (hoS h (r i) j) ∧ m = nI (nd h (r i) (hoS h (r i) j) - lf h t r i (hoS h (r i) j)))
def Rs2 (h : Ho) (t : Se) (r : Nat → Nat) (k : Nat) (c a x m : Int32) : Prop :=
  (k = 0 ∧ c = 6 ∧ a = 0 ∧ x = -9 ∧ m = 0) ∨
  (0 < k ∧ ∃ l, l < 8 ∧ (∀ l2, l2 < l → lf h t r k l2 = 0) ∧ 0 < lf h t r k l ∧ c = 4 ∧ a = nI k ∧ x = nI l ∧ m = nI (lf h t r k l)) ∨
  (0 < k ∧ (∀ l, l < 8 → lf h t r k l = 0) ∧ (seE t).testBit (hoK h (r (k - 1))) = false ∧ c = 5 ∧ a = nI k ∧ x = -9 ∧ m = 0) ∨
  (0 < k ∧ (∀ l, l < 8 → lf h t r k l = 0) ∧ (seE t).testBit (hoK h (r (k - 1))) = true ∧ c = 0 ∧ a = -9 ∧ x = -9 ∧ m = 0)
def Rs (h : Ho) (t : Se) (r : Nat → Nat) (k : Nat) (c a x m : Int32) : Prop := (∃ i, i < k ∧ (∀ j, j < i → PS h t r j) ∧ Rs1 h t r i c a x m) ∨ ((∀ j, j < k → PS h t r j) ∧ Rs2 h t r k c a x m)
theorem cnt_pos {f : Nat → Nat} {l n : Nat} (h : 0 < cnt f l n) : ∃ j, j < n ∧ f j = l := by
  induction n with
  | zero => exact absurd h (Nat.lt_irrefl 0)
  | succ n ih =>
    by_cases e : f n = l
    · exact ⟨n, Nat.lt_succ_self n, e⟩
    · have h2 : cnt f l n + (if f n = l then 1 else 0) > 0 := h
      rw [if_neg e] at h2
      obtain ⟨j, hj, r⟩ := ih (by omega)
      exact ⟨j, by omega, r⟩
theorem Rs_ex {h : Ho} {t : Se} {r : Nat → Nat} {k : Nat} : ∃ c a x m, Rs h t r k c a x m := by
  by_cases hall : ∀ j, j < k → PS h t r j
  · by_cases hk : k = 0
    · exact ⟨6, 0, -9, 0, Or.inr ⟨hall, Or.inl ⟨hk, rfl, rfl, rfl, rfl⟩⟩⟩
    · by_cases hz : ∀ l, l < 8 → lf h t r k l = 0
      · cases hb : (seE t).testBit (hoK h (r (k - 1))) with
        | false => exact ⟨5, nI k, -9, 0, Or.inr ⟨hall, Or.inr (Or.inr (Or.inl ⟨by omega, hz, hb, rfl, rfl, rfl, rfl⟩))⟩⟩
        | true => exact ⟨0, -9, -9, 0, Or.inr ⟨hall, Or.inr (Or.inr (Or.inr ⟨by omega, hz, hb, rfl, rfl, rfl, rfl⟩))⟩⟩
      · have hex : ∃ l, l < 8 ∧ 0 < lf h t r k l := by
          apply Classical.byContradiction; intro hno
          exact hz (fun l hl => by
            rcases Nat.eq_zero_or_pos (lf h t r k l) with q | q
            · exact q
            · exact absurd ⟨l, hl, q⟩ hno)
        obtain ⟨l, ⟨hl, hp⟩, hmin⟩ := pk_least _ hex
        refine ⟨4, nI k, nI l, nI (lf h t r k l), Or.inr ⟨hall, Or.inr (Or.inl ⟨by omega, l, hl, fun l2 hl2 => ?_, hp, rfl, rfl, rfl, rfl⟩)⟩⟩
        rcases Nat.eq_zero_or_pos (lf h t r k l2) with q | q
        · exact q
        · exact absurd ⟨by omega, q⟩ (hmin l2 hl2)
  · have hex : ∃ i, i < k ∧ ¬ PS h t r i := by
      apply Classical.byContradiction; intro hno
      exact hall (fun j hj => Classical.byContradiction (fun hn => hno ⟨j, hj, hn⟩))
    obtain ⟨i, ⟨hi, hn⟩, hmin⟩ := pk_least _ hex
    have hbef : ∀ j, j < i → PS h t r j := fun j hj => Classical.byContradiction (fun hn => hmin j hj ⟨by omega, hn⟩)
    cases hb : (seX t).testBit (r i) with
    | true => exact ⟨1, nI i, -9, 0, Or.inl ⟨i, hi, hbef, Or.inl ⟨hb, rfl, rfl, rfl, rfl⟩⟩⟩
    | false =>
      cases hm : (mk h t r i).testBit (hoK h (r i)) with
      | false => exact ⟨2, nI i, -9, 0, Or.inl ⟨i, hi, hbef, Or.inr (Or.inl ⟨hb, hm, rfl, rfl, rfl, rfl⟩)⟩⟩
      | true =>
        have hex2 : ∃ j, j < hoZ h (r i) ∧ lf h t r i (hoS h (r i) j) < nd h (r i) (hoS h (r i) j) := by
          apply Classical.byContradiction; intro hno
          refine hn ⟨hb, hm, fun l hl => ?_⟩
          rcases Nat.lt_or_ge (lf h t r i l) (nd h (r i) l) with q | q
          · obtain ⟨j, hj, e⟩ := cnt_pos (f := hoS h (r i)) (l := l) (n := hoZ h (r i)) (by unfold nd at q; omega)
            exact absurd ⟨j, hj, by rw [e]; exact q⟩ hno
          · exact q
        obtain ⟨j, ⟨hj, hp⟩, hmin2⟩ := pk_least _ hex2
        refine ⟨3, nI i, _, _, Or.inl ⟨i, hi, hbef, Or.inr (Or.inr ⟨hb, hm, j, hj, fun j2 hj2 => ?_, hp, rfl, rfl, rfl, rfl⟩)⟩⟩
        rcases Nat.lt_or_ge (lf h t r i (hoS h (r i) j2)) (nd h (r i) (hoS h (r i) j2)) with q | q
        · exact absurd ⟨by omega, q⟩ (hmin2 j2 hj2)
        · exact q
theorem sub_le0 {a b : Nat} (ha : a < 2 ^ 30) (hb : b < 2 ^ 30) : nI a - nI b ≤ 0 ↔ a ≤ b := by
  rw [Int32.le_iff_toInt_le, pk_sub_toInt ha hb]
  show (a : Int) - (b : Int) ≤ 0 ↔ _
  omega
theorem lf_le {h : Ho} {t : Se} {r : Nat → Nat} {i l : Nat} : lf h t r i l ≤ seB t l := Nat.sub_le _ _
theorem lf_s {h : Ho} {t : Se} {r : Nat → Nat} {i l : Nat} : lf h t r (i + 1) l = lf h t r i l - nd h (r i) l := by
  show seB t l - (sm (fun j => nd h (r j) l) i + nd h (r i) l) = seB t l - sm (fun j => nd h (r j) l) i - nd h (r i) l
  rw [Nat.sub_sub]
theorem mk_lt {h : Ho} {t : Se} {r : Nat → Nat} {k i : Nat} (h1 : hoOK h) (h2 : seOK h t) (hr : ∀ i, i < k → r i < hoW h) (hi : i ≤ k) : mk h t r i < 16 := by
  unfold mk
  by_cases h0 : i = 0
  · rw [if_pos h0]; exact h2.2.2.2.1
  · rw [if_neg h0]; exact h2.2.2.1 _ (h1.2 _ (hr _ (by omega))).1
theorem pe_explain {a0 a1 a2 a3 : Int32} {I : MI} {J : MJ} {Q : MI → MJ → Prop} (hQ : ∀ f : Nat → Int32, f 0 = a0 → f 1 = a1 → f 2 = a2 → f 3 = a3 → Q (wI I 63 f) J) : P_X11_explain a0 a1 a2 a3 I J Q := by
  refine ⟨vp_in_nI (n := 0) (by decide) (by decide), ?_⟩
  rintro I6 rfl
  refine ⟨vp_in_nI (n := 1) (by decide) (by decide), ?_⟩
  rintro I13 rfl
  refine ⟨vp_in_nI (n := 2) (by decide) (by decide), ?_⟩
  rintro I20 rfl
  refine ⟨vp_in_nI (n := 3) (by decide) (by decide), ?_⟩
  rintro I28 rfl
  have := hQ (upd (upd (upd (upd (I 63) 0 a0) 1 a1) 2 a2) 3 a3) rfl rfl rfl rfl
  have e : mI (mI (mI (mI I 63 (0 : Int32).toNatClampNeg a0) 63 (1 : Int32).toNatClampNeg a1) 63 (2 : Int32).toNatClampNeg a2) 63 (3 : Int32).toNatClampNeg a3 = wI I 63 (upd (upd (upd (upd (I 63) 0 a0) 1 a1) 2 a2) 3 a3) := by
    show wI (wI (wI (wI I 63 _) 63 _) 63 _) 63 _ = _
    rw [wI_wI, wI_wI, wI_wI]
    rfl
  rw [e]; exact this
/-- the class: what it knows of a row -/
def rowX (I : MI) (J : MJ) (h : Ho) (t : Se) (r : Nat → Nat) (k : Nat) : Prop := CX I J h t ∧ (∀ u, u < hoW h → I 14 u = nI (hoZ h u)) ∧ (∀ u i, u < hoW h → i < hoZ h u → I 16 (u * 6 + i) = nI (hoS h u i)) ∧ I 0 14 = nI k ∧ ∀ i, i < k → r i < hoW h ∧ I 61 i = nI (r i)
theorem rowX_fr {I I' : MI} {J : MJ} {h : Ho} {t : Se} {r : Nat → Nat} {k : Nat} (hx : rowX I J h t r k) (f : ∀ c, c < 62 → I' c = I c) : rowX I' J h t r k := by
  obtain ⟨q1, q2, q3, q4, q5⟩ := hx
  refine ⟨CX_fr q1 (fun c hc => f c (by omega)) (fun _ _ => rfl), ?_, ?_, ?_, ?_⟩
  · rw [f 14 (by decide)]; exact q2
  · rw [f 16 (by decide)]; exact q3
  · rw [f 0 (by decide)]; exact q4
  · rw [f 61 (by decide)]; exact q5
/-- the word at place i of the row, where it passes so far -/
theorem pe_spells {h : Ho} {t : Se} {r : Nat → Nat} {k i n : Nat} {I : MI} {J : MJ} {Q : Int32 → MI → MJ → Prop} (h1 : hoOK h) (h2 : seOK h t) (hk : k ≤ 12) (hx : rowX I J h t r k) (hi : i < k) (h64 : ∀ l, l < 8 → I 64 l = nI (lf h t r i l)) (hn : n ≤ hoZ h (r i)) (hb : ∀ j, j < n → nd h (r i) (hoS h (r i) j) ≤ lf h t r i (hoS h (r i) j))
    (hQ : ∀ kk : Int32 × Int32 × Int32 × MI × MJ → Prop, P_X11_passesAt_62 Q kk (nI i, nI (r i), nI n, I, J)) : lpx (P_X11_passesAt_62 Q) (nI i, nI (r i), (0 : Int32), I, J) := by
  have hw10 := h1.1
  obtain ⟨q1, q2, q3, q4, q5⟩ := hx
  obtain ⟨hu, e61⟩ := q5 i hi
  have hz6 := (h1.2 _ hu).2.2.1
  refine lpx_up (fun j z => z = (nI i, nI (r i), nI j, I, J)) n ?_ ?_ 0 _ (Nat.zero_le _) rfl
  · rintro z kk rfl; exact hQ kk
  · rintro j z kk hj rfl hkk
    have hs8 := (h1.2 _ hu).2.2.2 j (by omega)
    have hnd := nd_le h1 hu (hoS h (r i) j)
    have hb13 : seB t (hoS h (r i) j) ≤ 12 := Nat.le_trans (sm_le _ hs8) h2.1
    have hlf := lf_le (h := h) (t := t) (r := r) (i := i) (l := hoS h (r i) j)
    refine ⟨vp_in_nI (by omega) (by decide), ?_⟩
    rw [nI_clamp (by omega), q2 _ hu]
    refine pk_le (hoZ h (r i)) j (fun c => by omega) (fun _ => ?_)
    have e6 : nI (r i) * (6 : Int32) + nI j = nI (r i * 6 + j) := by rw [show (6 : Int32) = nI 6 from rfl, pk_mul, nI_add]
    unfold P_X5_spelt
    rw [e6]
    refine ⟨vp_in_nI (by omega) (by decide), ?_⟩
    rw [nI_clamp (by omega), show I (12 + 4) (r i * 6 + j) = nI (hoS h (r i) j) from q3 _ j hu (by omega)]
    refine pe_amount (k := 12) h1 (q1.1.2.2 _ hu) hu hs8 ⟨vp_in_nI hs8 (by decide), ?_⟩
    rw [nI_clamp (by omega), h64 _ hs8]
    refine ⟨fun _ => ?_, fun c => absurd ((sub_le0 (by omega) (by omega)).mpr (hb j hj)) c⟩
    rw [nI_1]; exact hkk _ rfl
theorem pe_passOK {h : Ho} {t : Se} {r : Nat → Nat} {k i : Nat} {I : MI} {J : MJ} {Q : Int32 → MI → MJ → Prop} (h1 : hoOK h) (h2 : seOK h t) (hk : k ≤ 12) (hx : rowX I J h t r k) (hi : i < k) (h64 : ∀ l, l < 8 → I 64 l = nI (lf h t r i l)) (hp : PS h t r i)
    (hQ : ∀ I' : MI, (∀ c, c ≠ 64 → I' c = I c) → (∀ l, l < 8 → I' 64 l = nI (lf h t r (i + 1) l)) → Q 1 I' J) : P_X11_passesAt (nI i) (nI (mk h t r i)) I J Q := by
  have hw10 := h1.1
  obtain ⟨q1, q2, q3, q4, q5⟩ := id hx
  obtain ⟨hu, e61⟩ := q5 i hi
  obtain ⟨p1, p2, p3⟩ := hp
  have hXl := seX_lt h1 (seOK_O h2)
  have hk4 := (h1.2 _ hu).1
  have hmk := mk_lt (i := i) h1 h2 (fun i hi => (q5 i hi).1) (by omega)
  refine ⟨vp_in_nI (by omega) (by decide), ?_⟩
  rw [nI_clamp (by omega), e61, nI_clamp (by omega), q1.2.2.2.2.2.2, q1.1.2.1 _ hu]
  refine ⟨fun _ => ⟨vp_in_nI (by omega) (by decide), fun _ => ?_, fun c => ?_⟩, fun c => ?_⟩
  · refine pe_spells h1 h2 hk hx hi h64 (Nat.le_refl _) (fun j hj => p3 _ ((h1.2 _ hu).2.2.2 j hj)) (fun kk => ⟨vp_in_nI (by omega) (by decide), ?_⟩)
    have hz6 := (h1.2 _ hu).2.2.1
    rw [nI_clamp (by omega), q2 _ hu]
    refine pk_le (hoZ h (r i)) (hoZ h (r i)) (fun _ => ?_) (fun c => by omega)
    refine lpx_up (fun l z => ∃ I' : MI, z = (nI (r i), nI l, I', J) ∧ (∀ c, c ≠ 64 → I' c = I c) ∧ (∀ l2, l2 < l → I' 64 l2 = nI (lf h t r (i + 1) l2)) ∧ ∀ l2, l ≤ l2 → l2 < 8 → I' 64 l2 = nI (lf h t r i l2)) 8 ?_ ?_ 0 _ (Nat.zero_le _) ⟨I, rfl, fun _ _ => rfl, fun l hl => absurd hl (Nat.not_lt_zero l), fun l _ hl => h64 l hl⟩
    · rintro z k2 ⟨I', rfl, g1, g2, g3⟩
      exact pk_le 8 8 (fun _ => hQ I' g1 g2) (fun c => by omega)
    · rintro l z k2 hl ⟨I', rfl, g1, g2, g3⟩ hk2
      have hvl : vp_in (nI l) 8 := vp_in_nI hl (by decide)
      refine pk_le 8 l (fun c => by omega) (fun _ => ⟨hvl, pe_amount (k := 12) h1 (q1.1.2.2 _ hu) hu hl ⟨hvl, ?_⟩⟩)
      rintro I9 rfl
      rw [nI_1, nI_clamp (by omega), g3 l (Nat.le_refl _) hl, pk_sub (p3 l hl), ← lf_s]
      refine hk2 _ ⟨_, rfl, fun c hc => (wI_n _ hc _).trans (g1 c hc), fun l2 hl2 => ?_, fun l2 c1 c2 => ?_⟩
      · rw [mI_s]
        by_cases e : l2 = l
        · subst e; rw [upd_s rfl]
        · rw [upd_n e]; exact g2 l2 (by omega)
      · rw [mI_s, upd_n (by omega)]; exact g3 l2 (by omega) c2
  · rw [bitI0 (by omega) (by omega)] at c; exact absurd (c.symm.trans p2) (by decide)
  · rw [bitI0 (by omega) (by omega)] at c; exact absurd p1 c
theorem pe_passNo {h : Ho} {t : Se} {r : Nat → Nat} {k i : Nat} {c a x m : Int32} {I : MI} {J : MJ} {Q : Int32 → MI → MJ → Prop} (h1 : hoOK h) (h2 : seOK h t) (hk : k ≤ 12) (hx : rowX I J h t r k) (hi : i < k) (h64 : ∀ l, l < 8 → I 64 l = nI (lf h t r i l)) (hp : Rs1 h t r i c a x m)
    (hQ : ∀ f : Nat → Int32, f 0 = c → f 1 = a → f 2 = x → f 3 = m → Q 0 (wI I 63 f) J) : P_X11_passesAt (nI i) (nI (mk h t r i)) I J Q := by
  have hw10 := h1.1
  obtain ⟨q1, q2, q3, q4, q5⟩ := id hx
  obtain ⟨hu, e61⟩ := q5 i hi
  have hXl := seX_lt h1 (seOK_O h2)
  have hk4 := (h1.2 _ hu).1
  have hmk := mk_lt (i := i) h1 h2 (fun i hi => (q5 i hi).1) (by omega)
  refine ⟨vp_in_nI (by omega) (by decide), ?_⟩
  rw [nI_clamp (by omega), e61, nI_clamp (by omega), q1.2.2.2.2.2.2, q1.1.2.1 _ hu]
  rcases hp with ⟨p1, rfl, rfl, rfl, rfl⟩ | ⟨p1, p2, rfl, rfl, rfl, rfl⟩ | ⟨p1, p2, j, hj, p3, p4, rfl, rfl, rfl, rfl⟩
  · refine ⟨fun c => ?_, fun _ => pe_explain hQ⟩
    rw [bitI0 (by omega) (by omega)] at c; exact absurd (c.symm.trans p1) (by decide)
  · refine ⟨fun _ => ⟨vp_in_nI (by omega) (by decide), fun c => ?_, fun _ => pe_explain hQ⟩, fun c => ?_⟩
    · rw [bitI0 (by omega) (by omega)] at c; exact absurd p2 c
    · rw [bitI0 (by omega) (by omega)] at c; exact absurd p1 c
  · refine ⟨fun _ => ⟨vp_in_nI (by omega) (by decide), fun _ => ?_, fun c => ?_⟩, fun c => ?_⟩
    · refine pe_spells h1 h2 hk hx hi h64 (Nat.le_of_lt hj) p3 (fun kk => ⟨vp_in_nI (by omega) (by decide), ?_⟩)
      have hz6 := (h1.2 _ hu).2.2.1
      have hs8 := (h1.2 _ hu).2.2.2 j hj
      have hnd := nd_le h1 hu (hoS h (r i) j)
      rw [nI_clamp (by omega), q2 _ hu]
      refine pk_le (hoZ h (r i)) j (fun c => by omega) (fun _ => ?_)
      have e6 : nI (r i) * (6 : Int32) + nI j = nI (r i * 6 + j) := by rw [show (6 : Int32) = nI 6 from rfl, pk_mul, nI_add]
      unfold P_X5_spelt
      rw [e6]
      refine ⟨vp_in_nI (by omega) (by decide), ?_⟩
      rw [nI_clamp (by omega), show I (12 + 4) (r i * 6 + j) = nI (hoS h (r i) j) from q3 _ j hu (by omega)]
      refine pe_amount (k := 12) h1 (q1.1.2.2 _ hu) hu hs8 ⟨vp_in_nI hs8 (by decide), ?_⟩
      rw [nI_clamp (by omega), h64 _ hs8]
      refine ⟨fun c => absurd ((sub_le0 (by omega) (by omega)).mp c) (by omega), fun _ => ?_⟩
      rw [pk_sub (by omega)]
      exact pe_explain hQ
    · rw [bitI0 (by omega) (by omega)] at c; exact absurd (c.symm.trans p2) (by decide)
    · rw [bitI0 (by omega) (by omega)] at c; exact absurd p1 c
theorem pe_examine {h : Ho} {t : Se} {r : Nat → Nat} {k : Nat} {c a x m : Int32} {I : MI} {J : MJ} {Q : MI → MJ → Prop} (h1 : hoOK h) (h2 : seOK h t) (hk : k ≤ 12) (hx : rowX I J h t r k) (hr : Rs h t r k c a x m)
    (hQ : ∀ I' : MI, (∀ c, c ≠ 63 → c ≠ 64 → I' c = I c) → I' 63 0 = c → I' 63 1 = a → I' 63 2 = x → I' 63 3 = m → Q I' J) : P_X11_examineRow I J Q := by
  have hw10 := h1.1
  refine pe_explain (fun f0 z0 z1 z2 z3 => ?_)
  have hx0 : rowX (wI I 63 f0) J h t r k := rowX_fr hx (fun c hc => wI_n _ (by omega) _)
  obtain ⟨q1, q2, q3, q4, q5⟩ := id hx0
  refine ⟨fun ck => ⟨by decide, ?_⟩, fun ck => ?_⟩
  · have hk0 : 0 < k := by
      rcases Nat.eq_zero_or_pos k with e | e
      · exact absurd (by rw [q4, e]; rfl) ck
      · exact e
    rintro I43 rfl
    have e3 : wI (wI I 63 f0) 64 (va_cpy (wI I 63 f0 18) (wI I 63 f0 64) (0 : Int32).toNatClampNeg (0 : Int32).toNatClampNeg (8 : Int32).toNatClampNeg) 17 3 = nI (mk h t r 0) := q1.2.2.2.2.1
    rw [e3]
    -- how many words pass
    obtain ⟨i0, hi0, hps, hend⟩ : ∃ i0, i0 ≤ k ∧ (∀ j, j < i0 → PS h t r j) ∧ (i0 < k → Rs1 h t r i0 c a x m) ∧ (i0 = k → Rs2 h t r k c a x m) := by
      rcases hr with ⟨i, hi, hb, h9⟩ | ⟨hb, h9⟩
      · exact ⟨i, by omega, hb, fun _ => h9, fun e => by omega⟩
      · exact ⟨k, Nat.le_refl k, hb, fun e => by omega, fun _ => h9⟩
    refine lpx_up (fun i z => ∃ I' : MI, z = (nI (mk h t r i), nI i, I', J) ∧ (∀ c, c ≠ 64 → I' c = wI I 63 f0 c) ∧ ∀ l, l < 8 → I' 64 l = nI (lf h t r i l)) i0 ?_ ?_ 0 _ (Nat.zero_le _) ⟨_, rfl, fun c hc => wI_n _ hc _, fun l hl => ?_⟩
    · rintro z kk ⟨I', rfl, g1, g2⟩
      have hx' : rowX I' J h t r k := rowX_fr hx0 (fun c hc => g1 c (by omega))
      obtain ⟨r1, r2, r3, r4, r5⟩ := id hx'
      have fr : ∀ c, c ≠ 63 → c ≠ 64 → I' c = I c := fun c c1 c2 => (g1 c c2).trans (wI_n _ c1 _)
      rcases Nat.lt_or_ge i0 k with hlt | hge
      · refine pk_le k i0 (fun c => by omega) (fun _ => ?_) r4
        refine pe_passNo h1 h2 hk hx' hlt g2 (hend.1 hlt) (fun f y0 y1 y2 y3 => ⟨fun e => absurd rfl e, fun _ => ?_⟩)
        exact hQ _ (fun c c1 c2 => (wI_n _ c1 _).trans (fr c c1 c2)) y0 y1 y2 y3
      · obtain rfl : i0 = k := by omega
        refine pk_le i0 i0 (fun _ => ?_) (fun c => by omega) r4
        have ek1 : I' 0 14 - (1 : Int32) = nI (i0 - 1) := by rw [r4, show (1 : Int32) = nI 1 from rfl, pk_sub (by omega)]
        obtain ⟨hu, e61⟩ := r5 (i0 - 1) (by omega)
        have hk4 := (h1.2 _ hu).1
        have hE := h2.2.2.2.2.1
        have endl : (∀ l, l < 8 → lf h t r i0 l = 0) → ∀ kk : Int32 × MI × MJ → Prop, ((seE t).testBit (hoK h (r (i0 - 1))) = true → Q I' J) → ((seE t).testBit (hoK h (r (i0 - 1))) = false → P_X11_explain (5 : Int32) (nI i0) (-9 : Int32) (0 : Int32) I' J (fun I83 J83 => Q I83 J83)) → lpx (P_X11_examineEnd_2 (fun I104 J104 => Q I104 J104)) ((0 : Int32), I', J) := fun hz _ y1 y2 => by
          refine lpx_up (fun l z => z = (nI l, I', J)) 8 ?_ ?_ 0 _ (Nat.zero_le _) rfl
          · rintro z k3 rfl
            refine pk_le 8 8 (fun _ => ?_) (fun c => by omega)
            rw [ek1]
            refine ⟨vp_in_nI (by omega) (by decide), ?_⟩
            rw [nI_clamp (by omega), e61]
            refine ⟨vp_in_nI (by omega) (by decide), ?_⟩
            rw [nI_clamp (by omega), r1.1.2.1 _ hu, r1.2.2.2.2.2.1, r4]
            refine ⟨fun c => y1 ?_, fun c => y2 ?_⟩
            · rw [bitI0 (by omega) (by omega)] at c; simpa using c
            · rw [bitI0 (by omega) (by omega)] at c; exact c
          · rintro l z k3 hl rfl hk3
            refine pk_le 8 l (fun c => by omega) (fun _ => ⟨vp_in_nI hl (by decide), ?_⟩)
            rw [nI_clamp (by omega), g2 l hl, hz l hl]
            refine ⟨fun _ => ?_, fun c => absurd (show nI 0 ≤ (0 : Int32) by decide) c⟩
            rw [nI_1]; exact hk3 _ rfl
        show lpx (P_X11_examineEnd_2 (fun I104 J104 => Q I104 J104)) ((0 : Int32), I', J)
        have keep : c = 0 → a = -9 → x = -9 → m = 0 → Q I' J := fun y0 y1 y2 y3 => by
          have e63 : I' 63 = f0 := (g1 63 (by decide)).trans (wI_s _ _ _)
          refine hQ I' fr ?_ ?_ ?_ ?_
          · rw [e63, z0, y0]
          · rw [e63, z1, y1]
          · rw [e63, z2, y2]
          · rw [e63, z3, y3]
        rcases hend.2 rfl with ⟨e, _⟩ | ⟨_, l, hl, hz, hp, rfl, rfl, rfl, rfl⟩ | ⟨_, hz, hb, rfl, rfl, rfl, rfl⟩ | ⟨_, hz, hb, y0, y1, y2, y3⟩
        · omega
        · refine lpx_up (fun l z => z = (nI l, I', J)) l ?_ ?_ 0 _ (Nat.zero_le _) rfl
          · rintro z k3 rfl
            have hb12 : seB t l ≤ 12 := Nat.le_trans (sm_le _ hl) h2.1
            have hlf := lf_le (h := h) (t := t) (r := r) (i := i0) (l := l)
            have hvl : vp_in (nI l) 8 := vp_in_nI hl (by decide)
            refine pk_le 8 l (fun c => by omega) (fun _ => ⟨hvl, ?_⟩)
            rw [nI_clamp (by omega), g2 l hl, r4]
            refine ⟨fun c => absurd c (nI_nle hp (by omega)), fun _ => ⟨hvl, pe_explain (fun f y0 y1 y2 y3 => ?_)⟩⟩
            exact hQ _ (fun c c1 c2 => (wI_n _ c1 _).trans (fr c c1 c2)) y0 y1 y2 y3
          · rintro l2 z k3 hl2 rfl hk3
            refine pk_le 8 l2 (fun c => by omega) (fun _ => ⟨vp_in_nI (by omega) (by decide), ?_⟩)
            rw [nI_clamp (by omega), g2 l2 (by omega), hz l2 hl2]
            refine ⟨fun _ => ?_, fun c => absurd (show nI 0 ≤ (0 : Int32) by decide) c⟩
            rw [nI_1]; exact hk3 _ rfl
        · refine endl hz (fun _ => True) (fun e => absurd (hb.symm.trans e) (by decide)) (fun _ => pe_explain (fun f y0 y1 y2 y3 => ?_))
          exact hQ _ (fun c c1 c2 => (wI_n _ c1 _).trans (fr c c1 c2)) y0 y1 y2 y3
        · exact endl hz (fun _ => True) (fun _ => keep y0 y1 y2 y3) (fun e => absurd (hb.symm.trans e) (by decide))
    · rintro i z kk hi ⟨I', rfl, g1, g2⟩ hkk
      have hx' : rowX I' J h t r k := rowX_fr hx0 (fun c hc => g1 c (by omega))
      obtain ⟨r1, r2, r3, r4, r5⟩ := id hx'
      obtain ⟨hu, e61⟩ := r5 i (by omega)
      have hk4 := (h1.2 _ hu).1
      refine pk_le k i (fun c => by omega) (fun _ => ?_) r4
      refine pe_passOK h1 h2 hk hx' (by omega) g2 (hps i hi) (fun I2 e1 e2 => ⟨fun _ => ⟨vp_in_nI (by omega) (by decide), ?_⟩, fun e => absurd e no10⟩)
      have hx2 : rowX I2 J h t r k := rowX_fr hx' (fun c hc => e1 c (by omega))
      obtain ⟨s1, s2, s3, s4, s5⟩ := id hx2
      rw [nI_clamp (by omega), (s5 i (by omega)).2]
      refine ⟨vp_in_nI (by omega) (by decide), ?_⟩
      rw [nI_clamp (by omega), s1.1.2.1 _ hu]
      refine ⟨vp_in_nI hk4 (by decide), ?_⟩
      rw [nI_clamp (by omega), s1.2.2.2.1 _ hk4, nI_1]
      exact hkk _ ⟨I2, rfl, fun c hc => (e1 c hc).trans (g1 c hc), e2⟩
    · rw [wI_s]
      show va_cpy (wI I 63 f0 18) _ 0 0 8 l = _
      rw [pk_cpy_in (Nat.zero_le _) (by omega), show 0 + (l - 0) = l by omega, q1.2.1 l hl]
      rfl
  · have hk0 : k = 0 := by rw [q4] at ck; exact (nI_eq (b := 0) (by omega) (by decide)).mp ck
    rcases hr with ⟨i, hi, _⟩ | ⟨_, ⟨_, rfl, rfl, rfl, rfl⟩ | ⟨e, _⟩ | ⟨e, _⟩ | ⟨e, _⟩⟩
    · omega
    · refine pe_explain (fun f y0 y1 y2 y3 => ?_)
      rw [wI_wI]
      exact hQ _ (fun c c1 c2 => wI_n _ c1 _) y0 y1 y2 y3
    · omega
    · omega
    · omega
