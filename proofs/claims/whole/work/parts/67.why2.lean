/-- the reference: what it knows of a row -/
def rowN (A : MI) (h : Ho) (t : Se) (r : Nat → Nat) (k : Nat) : Prop := lexM (A 0 2) (A 4) (A 3) (A 5) (A 2) h ∧ rowM (A 6) 0 h t ∧ A 0 15 = nI k ∧ ∀ i, i < k → r i < hoW h ∧ A 11 i = nI (r i)
theorem rowN_fr {A A' : MI} {h : Ho} {t : Se} {r : Nat → Nat} {k : Nat} (hx : rowN A h t r k) (f : ∀ c, 0 < c → c < 28 → A' c = A c) (g : ∀ k, k < 41 → A' 0 k = A 0 k) : rowN A' h t r k := by
  obtain ⟨q1, q2, q3, q4⟩ := hx
  refine ⟨?_, ?_, ?_, ?_⟩
  · rw [g 2 (by decide), f 4 (by decide) (by decide), f 3 (by decide) (by decide), f 5 (by decide) (by decide), f 2 (by decide) (by decide)]; exact q1
  · rw [f 6 (by decide) (by decide)]; exact q2
  · rw [g 15 (by decide)]; exact q3
  · rw [f 11 (by decide) (by decide)]; exact q4
/-- the letter that is wanted first, as spelt; none -/
theorem pe_wantedBy {h : Ho} {t : Se} {r : Nat → Nat} {k i n : Nat} {x : Int32} {A : MI} {B : MJ} {Q : Int32 → MI → MJ → Prop} (h1 : hoOK h) (h2 : seOK h t) (hx : rowN A h t r k) (hi : i < k) (h28 : ∀ l, l < 8 → A 28 l = nI (lf h t r i l)) (hn : n ≤ hoZ h (r i)) (hb : ∀ j, j < n → nd h (r i) (hoS h (r i) j) ≤ lf h t r i (hoS h (r i) j)) (hw : n < hoZ h (r i) → lf h t r i (hoS h (r i) n) < nd h (r i) (hoS h (r i) n)) (hxx : x = if n < hoZ h (r i) then nI (hoS h (r i) n) else -9) (hQ : Q x A B) : P_X12_wantedBy (nI (r i)) A B Q := by
  have hw10 := h1.1
  obtain ⟨q1, q2, q3, q4⟩ := hx
  obtain ⟨hu, e11⟩ := q4 i hi
  have hz6 := (h1.2 _ hu).2.2.1
  refine ⟨vp_in_nI (by omega) (by decide), ?_⟩
  rw [nI_clamp (by omega), (q1.2 _ hu).2.1]
  refine lpx_up (fun s z => ∃ y : Int32, z = (nI (r i), y, nI (hoZ h (r i) - s) - 1, A, B) ∧ (n < hoZ h (r i) → hoZ h (r i) - s ≤ n → y = nI (hoS h (r i) n)) ∧ (n = hoZ h (r i) → y = -9)) (hoZ h (r i)) ?_ ?_ 0 _ (Nat.zero_le _) ⟨-9, rfl, fun c1 c2 => by omega, fun _ => rfl⟩
  · rintro z kk ⟨y, rfl, y1, y2⟩
    rw [Nat.sub_self] at y1 ⊢
    refine ⟨fun _ => ?_, fun c => absurd (show nI 0 - 1 < (0 : Int32) by decide) c⟩
    have : y = x := by
      rw [hxx]
      by_cases hlt : n < hoZ h (r i)
      · rw [if_pos hlt]; exact y1 hlt (Nat.zero_le _)
      · rw [if_neg hlt]; exact y2 (by omega)
    rw [this]; exact hQ
  · rintro s z kk hs ⟨y, rfl, y1, y2⟩ hkk
    obtain ⟨j, hj⟩ : ∃ j, hoZ h (r i) - s = j + 1 := ⟨hoZ h (r i) - s - 1, by omega⟩
    have hj2 : hoZ h (r i) - (s + 1) = j := by omega
    rw [hj] at y1 ⊢
    rw [hj2] at hkk
    rw [nI_pred]
    have hs8 := (h1.2 _ hu).2.2.2 j (by omega)
    have hnd := nd_le h1 hu (hoS h (r i) j)
    have hb13 : seB t (hoS h (r i) j) ≤ 12 := Nat.le_trans (sm_le _ hs8) h2.1
    have hlf := lf_le (h := h) (t := t) (r := r) (i := i) (l := hoS h (r i) j)
    have e6 : (6 : Int32) * nI (r i) + nI j = nI (6 * r i + j) := by rw [show (6 : Int32) = nI 6 from rfl, pk_mul, nI_add]
    refine ⟨fun c => absurd c (nI_pos (by omega)), fun _ => ?_⟩
    rw [e6]
    refine ⟨vp_in_nI (by omega) (by decide), ?_⟩
    rw [nI_clamp (by omega), (q1.2 _ hu).2.2.2 j (by omega)]
    have e8 : (8 : Int32) * nI (r i) + nI (hoS h (r i) j) = nI (8 * r i + hoS h (r i) j) := by rw [show (8 : Int32) = nI 8 from rfl, pk_mul, nI_add]
    rw [e8]
    refine ⟨vp_in_nI (by omega) (by decide), vp_in_nI hs8 (by decide), ?_⟩
    rw [nI_clamp (by omega), nI_clamp (by omega), (q1.2 _ hu).2.2.1 _ hs8, h28 _ hs8]
    refine pk_le (nd h (r i) (hoS h (r i) j)) (lf h t r i (hoS h (r i) j)) (fun c => ?_) (fun c => ?_)
    · show kk (nI (r i), y, nI j + (-1), A, B)
      rw [sub1]
      refine hkk _ ⟨y, rfl, fun c1 c2 => y1 c1 ?_, y2⟩
      rcases Nat.lt_or_ge j n with q | q
      · omega
      · have := hw c1; rw [show n = j by omega] at this; omega
    · show kk (nI (r i), nI (hoS h (r i) j), nI j + (-1), A, B)
      rw [sub1]
      refine hkk _ ⟨nI (hoS h (r i) j), rfl, fun c1 c2 => ?_, fun e => ?_⟩
      · rcases Nat.lt_or_ge j n with q | q
        · have := hb j q; omega
        · rw [show n = j by omega]
      · have := hb j (by omega); omega
theorem pe_reason {h : Ho} {t : Se} {r : Nat → Nat} {k : Nat} {c a x m : Int32} {A : MI} {B : MJ} {Q : Int32 → MI → MJ → Prop} (h1 : hoOK h) (h2 : seOK h t) (hk : k ≤ 12) (hx : rowN A h t r k) (hr : Rs h t r k c a x m)
    (hQ : ∀ A' : MI, (∀ c, 0 < c → c ≠ 28 → A' c = A c) → (∀ k, k < 41 → A' 0 k = A 0 k) → A' 0 41 = a → A' 0 42 = x → A' 0 43 = m → Q c A' B) : P_X12_reason A B Q := by
  have hw10 := h1.1
  rintro A3 rfl A8 rfl
  refine lpx_up (fun l z => ∃ A' : MI, z = (nI l, A', B) ∧ (∀ c, 0 < c → c ≠ 28 → A' c = A c) ∧ (∀ k, k < 41 → A' 0 k = A 0 k) ∧ A' 0 42 = -9 ∧ A' 0 43 = 0 ∧ ∀ l2, l2 < l → A' 28 l2 = nI (seB t l2)) 8 ?_ ?_ 0 _ (Nat.zero_le _) ⟨_, rfl, fun c c1 c2 => (wI_n _ (by omega) _).trans (wI_n _ (by omega) _), fun k hk => ?_, rfl, rfl, fun l hl => absurd hl (Nat.not_lt_zero l)⟩
  · rintro z kk ⟨A1, rfl, g1, g2, g3, g4, g5⟩
    refine pk_le 8 8 (fun _ => ?_) (fun c => by omega)
    obtain ⟨i0, hi0, hps, hend⟩ : ∃ i0, i0 ≤ k ∧ (∀ j, j < i0 → PS h t r j) ∧ (i0 < k → Rs1 h t r i0 c a x m) ∧ (i0 = k → Rs2 h t r k c a x m) := by
      rcases hr with ⟨i, hi, hb, h9⟩ | ⟨hb, h9⟩
      · exact ⟨i, by omega, hb, fun _ => h9, fun e => by omega⟩
      · exact ⟨k, Nat.le_refl k, hb, fun e => by omega, fun _ => h9⟩
    -- a word of the row: what is asked before its letters
    have word : ∀ (i : Nat) (A2 : MI) (kk : Int32 × MI × MJ → Prop), i < k → (∀ c, 0 < c → c ≠ 28 → A2 c = A c) → (∀ k, k < 41 → A2 0 k = A 0 k) → ((seX t).testBit (r i) = true → Q 1 (mI A2 0 41 (nI i)) B) → ((seX t).testBit (r i) = false → (mk h t r i).testBit (hoK h (r i)) = false → Q 2 (mI A2 0 41 (nI i)) B) → ((seX t).testBit (r i) = false → (mk h t r i).testBit (hoK h (r i)) = true → P_X12_wantedBy (nI (r i)) (mI A2 0 41 (nI i)) B (fun r126 I126 J126 => ((r126 = (-9 : Int32) → lpx (P_X12_reason_168 Q kk) (nI i, nI (r i), (0 : Int32), I126, J126)) ∧ (¬ r126 = (-9 : Int32) → (∀ I138 : MI, I138 = mI I126 0 42 r126 → vp_in (((8 : Int32) * nI (r i)) + r126) 80 ∧ (vp_in r126 8 ∧ ((∀ I160 : MI, I160 = mI I138 0 43 ((I138 5 (((8 : Int32) * nI (r i)) + r126).toNatClampNeg) - (I138 28 r126.toNatClampNeg)) → Q (3 : Int32) I160 J126)))))))) → P_X12_reason_39 Q kk (nI i, A2, B) := by
      intro i A2 kk hi e1 e2 y1 y2 y3
      have hx2 : rowN (mI A2 0 41 (nI i)) h t r k := rowN_fr hx (fun c c1 c2 => (wI_n _ (by omega) _).trans (e1 c c1 (by omega))) (fun k hk => (mI_s _ _ _ _ _).trans ((upd_n (by omega)).trans (e2 k hk)))
      have e15 : A2 0 15 = nI k := (e2 15 (by decide)).trans hx.2.2.1
      have e11 : A2 11 = A 11 := e1 11 (by decide) (by decide)
      obtain ⟨s1, s2, s3, s4⟩ := id hx2
      obtain ⟨hu, e61⟩ := s4 i hi
      have hXl := seX_lt h1 (seOK_O h2)
      have hk4 := (h1.2 _ hu).1
      have hmk := mk_lt (i := i) h1 h2 (fun i hi => (s4 i hi).1) (by omega)
      refine pk_le k i (fun c => by omega) (fun _ => ⟨vp_in_nI (by omega) (by decide), ?_⟩) e15
      rw [nI_clamp (by omega), show A2 11 i = nI (r i) from e61]
      rintro A9 rfl
      refine ⟨vp_in_nI (n := 8) (by decide) (by decide), ?_⟩
      rw [show mI A2 0 41 (nI i) 6 (8 : Int32).toNatClampNeg = nI (seX t) from s2.2.2.2.2.2]
      have fin : P_X12_reason_110 Q kk (nI i) (nI (r i)) (nI (mk h t r i)) (mI A2 0 41 (nI i)) B ∨ (seX t).testBit (r i) = true := by
        cases hb : (seX t).testBit (r i) with
        | true => exact Or.inr rfl
        | false =>
          refine Or.inl ⟨vp_in_nI (by omega) (by decide), ?_⟩
          rw [nI_clamp (by omega), (s1.2 _ hu).1]
          exact pe_hasM (by omega) (by omega) (fun c => ⟨fun _ => y3 hb c, fun e => absurd e no10⟩) (fun c => ⟨fun e => absurd rfl e, fun _ => y2 hb c⟩)
      refine pe_hasM (by omega) (by omega) (fun c => ⟨fun e => absurd e no10, fun _ => y1 c⟩) (fun c => ⟨fun _ => ⟨fun c0 => ?_, fun c0 => ?_⟩, fun e => absurd rfl e⟩)
      · have hi0 : i ≠ 0 := fun e => c0 (by rw [e]; rfl)
        obtain ⟨hu2, e62⟩ := s4 (i - 1) (by omega)
        have hk42 := (h1.2 _ hu2).1
        rw [show (1 : Int32) = nI 1 from rfl, pk_sub (by omega)]
        refine ⟨vp_in_nI (by omega) (by decide), ?_⟩
        rw [nI_clamp (by omega), e62]
        refine ⟨vp_in_nI (by omega) (by decide), ?_⟩
        have e9 : (21 : Int32) + nI (hoK h (r (i - 1))) = nI (21 + hoK h (r (i - 1))) := by rw [show (21 : Int32) = nI 21 from rfl, nI_add]
        rw [nI_clamp (by omega), (s1.2 _ hu2).1, e9]
        refine ⟨vp_in_nI (by omega) (by decide), ?_⟩
        have e8 : mI A2 0 41 (nI i) 6 (21 + hoK h (r (i - 1))) = nI (mk h t r i) := by
          have := s2.2.2.1 _ hk42
          rw [Nat.zero_add] at this
          rw [this]; unfold mk; rw [if_neg hi0]
        rw [nI_clamp (by omega), e8]
        exact fin.resolve_right (fun e => absurd (c.symm.trans e) (by decide))
      · have hi0 : i = 0 := (nI_eq (b := 0) (by omega) (by decide)).mp c0
        refine ⟨vp_in_nI (n := 19) (by decide) (by decide), ?_⟩
        have e8 : mI A2 0 41 (nI i) 6 (19 : Int32).toNatClampNeg = nI (mk h t r i) := by
          have : mI A2 0 41 (nI i) 6 19 = nI (seG t) := s2.2.2.2.1
          show mI A2 0 41 (nI i) 6 19 = _
          rw [this]; unfold mk; rw [if_pos hi0]
        rw [e8]
        exact fin.resolve_right (fun e => absurd (c.symm.trans e) (by decide))
    refine lpx_up (fun i z => ∃ A' : MI, z = (nI i, A', B) ∧ (∀ c, 0 < c → c ≠ 28 → A' c = A c) ∧ (∀ k, k < 41 → A' 0 k = A 0 k) ∧ A' 0 42 = -9 ∧ A' 0 43 = 0 ∧ ∀ l, l < 8 → A' 28 l = nI (lf h t r i l)) i0 ?_ ?_ 0 _ (Nat.zero_le _) ⟨A1, rfl, g1, g2, g3, g4, fun l hl => g5 l hl⟩
    · rintro z k2 ⟨A2, rfl, e1, e2, e3, e4, e5⟩
      have fr1 : ∀ v : Int32, (∀ c, 0 < c → c ≠ 28 → mI A2 0 41 v c = A c) := fun v c c1 c2 => (wI_n _ (by omega) _).trans (e1 c c1 c2)
      have fr2 : ∀ v : Int32, (∀ k, k < 41 → mI A2 0 41 v 0 k = A 0 k) := fun v k hk => (mI_s _ _ _ _ _).trans ((upd_n (by omega)).trans (e2 k hk))
      rcases Nat.lt_or_ge i0 k with hlt | hge
      · have hx2 : rowN (mI A2 0 41 (nI i0)) h t r k := rowN_fr hx (fun c c1 c2 => fr1 _ c c1 (by omega)) (fr2 _)
        obtain ⟨s1, s2, s3, s4⟩ := id hx2
        obtain ⟨hu, e61⟩ := s4 i0 hlt
        refine word i0 A2 k2 hlt e1 e2 (fun b1 => ?_) (fun b1 b2 => ?_) (fun b1 b2 => ?_)
        · rcases hend.1 hlt with ⟨p1, rfl, rfl, rfl, rfl⟩ | ⟨p1, p2, rfl, rfl, rfl, rfl⟩ | ⟨p1, p2, j, hj, p3, p4, rfl, rfl, rfl, rfl⟩
          · exact hQ _ (fr1 _) (fr2 _) rfl e3 e4
          · exact absurd (p1.symm.trans b1) (by decide)
          · exact absurd (p1.symm.trans b1) (by decide)
        · rcases hend.1 hlt with ⟨p1, rfl, rfl, rfl, rfl⟩ | ⟨p1, p2, rfl, rfl, rfl, rfl⟩ | ⟨p1, p2, j, hj, p3, p4, rfl, rfl, rfl, rfl⟩
          · exact absurd (b1.symm.trans p1) (by decide)
          · exact hQ _ (fr1 _) (fr2 _) rfl e3 e4
          · exact absurd (b2.symm.trans p2) (by decide)
        · rcases hend.1 hlt with ⟨p1, rfl, rfl, rfl, rfl⟩ | ⟨p1, p2, rfl, rfl, rfl, rfl⟩ | ⟨p1, p2, j, hj, p3, p4, rfl, rfl, rfl, rfl⟩
          · exact absurd (b1.symm.trans p1) (by decide)
          · exact absurd (p2.symm.trans b2) (by decide)
          · have hs8 := (h1.2 _ hu).2.2.2 j hj
            have hnd := nd_le h1 hu (hoS h (r i0) j)
            refine pe_wantedBy (n := j) (x := nI (hoS h (r i0) j)) h1 h2 hx2 hlt e5 (Nat.le_of_lt hj) p3 (fun _ => p4) (by rw [if_pos hj]) ⟨fun e => ?_, fun _ => ?_⟩
            · exact absurd (show ¬ nI (hoS h (r i0) j) < 0 from nI_pos (by omega)) (by rw [e]; decide)
            · rintro A7 rfl
              have e8 : (8 : Int32) * nI (r i0) + nI (hoS h (r i0) j) = nI (8 * r i0 + hoS h (r i0) j) := by rw [show (8 : Int32) = nI 8 from rfl, pk_mul, nI_add]
              rw [e8]
              refine ⟨vp_in_nI (by omega) (by decide), vp_in_nI hs8 (by decide), ?_⟩
              rw [nI_clamp (by omega), nI_clamp (by omega)]
              rw [show mI (mI A2 0 41 (nI i0)) 0 42 (nI (hoS h (r i0) j)) 5 (8 * r i0 + hoS h (r i0) j) = nI (nd h (r i0) (hoS h (r i0) j)) from (s1.2 _ hu).2.2.1 _ hs8, show mI (mI A2 0 41 (nI i0)) 0 42 (nI (hoS h (r i0) j)) 28 (hoS h (r i0) j) = nI (lf h t r i0 (hoS h (r i0) j)) from e5 _ hs8, pk_sub (by omega)]
              rintro A9 rfl
              refine hQ _ (fun c c1 c2 => (wI_n _ (by omega) _).trans ((wI_n _ (by omega) _).trans (fr1 _ c c1 c2))) (fun k hk => ?_) rfl rfl rfl
              rw [mI_s, upd_n (by omega), mI_s, upd_n (by omega)]; exact fr2 _ k hk
      · obtain rfl : i0 = k := by omega
        have e15 : A2 0 15 = nI i0 := (e2 15 (by decide)).trans hx.2.2.1
        refine pk_le i0 i0 (fun _ => ?_) (fun c => by omega) e15
        rintro A9 rfl
        rw [e15]
        have hx2 : rowN (mI A2 0 41 (nI i0)) h t r i0 := rowN_fr hx (fun c c1 c2 => fr1 _ c c1 (by omega)) (fr2 _)
        obtain ⟨s1, s2, s3, s4⟩ := id hx2
        rw [s3]
        refine ⟨fun ck => ?_, fun ck => ?_⟩
        · have hk0 : 0 < i0 := by
            rcases Nat.eq_zero_or_pos i0 with e | e
            · exact absurd (by rw [e]; rfl) ck
            · exact e
          have endl : (∀ l, l < 8 → lf h t r i0 l = 0) → ((seE t).testBit (hoK h (r (i0 - 1))) = true → Q 0 (mI (mI A2 0 41 (nI i0)) 0 41 (-9)) B) → ((seE t).testBit (hoK h (r (i0 - 1))) = false → Q 5 (mI A2 0 41 (nI i0)) B) → lpx (P_X12_reason_229 Q) ((0 : Int32), mI A2 0 41 (nI i0), B) := fun hz y1 y2 => by
            refine lpx_up (fun l z => z = (nI l, mI A2 0 41 (nI i0), B)) 8 ?_ ?_ 0 _ (Nat.zero_le _) rfl
            · rintro z k3 rfl
              obtain ⟨hu, e61⟩ := s4 (i0 - 1) (by omega)
              have hk4 := (h1.2 _ hu).1
              have hE := h2.2.2.2.2.1
              refine pk_le 8 8 (fun _ => ⟨vp_in_nI (n := 20) (by decide) (by decide), ?_⟩) (fun c => by omega)
              rw [s3, show (1 : Int32) = nI 1 from rfl, pk_sub hk0]
              refine ⟨vp_in_nI (by omega) (by decide), ?_⟩
              rw [nI_clamp (by omega), e61]
              refine ⟨vp_in_nI (by omega) (by decide), ?_⟩
              rw [nI_clamp (by omega), (s1.2 _ hu).1, show mI A2 0 41 (nI i0) 6 (20 : Int32).toNatClampNeg = nI (seE t) from s2.2.2.2.2.1]
              refine pe_hasM (by omega) (by omega) (fun c => ⟨fun _ => ?_, fun e => absurd e no10⟩) (fun c => ⟨fun e => absurd rfl e, fun _ => y2 c⟩)
              rintro A7 rfl
              exact y1 c
            · rintro l z k3 hl rfl hk3
              refine pk_le 8 l (fun c => by omega) (fun _ => ⟨vp_in_nI hl (by decide), ?_⟩)
              rw [nI_clamp (by omega), show mI A2 0 41 (nI i0) 28 l = nI 0 from (e5 l hl).trans (by rw [hz l hl])]
              refine ⟨fun _ => ?_, fun c => absurd (show nI 0 ≤ (0 : Int32) by decide) c⟩
              rw [nI_1]; exact hk3 _ rfl
          rcases hend.2 rfl with ⟨e, _⟩ | ⟨_, l, hl, hz, hp, rfl, rfl, rfl, rfl⟩ | ⟨_, hz, hb, rfl, rfl, rfl, rfl⟩ | ⟨_, hz, hb, rfl, rfl, rfl, rfl⟩
          · omega
          · refine lpx_up (fun l z => z = (nI l, mI A2 0 41 (nI i0), B)) l ?_ ?_ 0 _ (Nat.zero_le _) rfl
            · rintro z k3 rfl
              have hb12 : seB t l ≤ 12 := Nat.le_trans (sm_le _ hl) h2.1
              have hlf := lf_le (h := h) (t := t) (r := r) (i := i0) (l := l)
              refine pk_le 8 l (fun c => by omega) (fun _ => ⟨vp_in_nI hl (by decide), ?_⟩)
              rw [nI_clamp (by omega), show mI A2 0 41 (nI i0) 28 l = nI (lf h t r i0 l) from e5 l hl]
              refine ⟨fun c => absurd c (nI_nle hp (by omega)), fun _ => ?_⟩
              rintro A7 rfl
              refine ⟨vp_in_nI hl (by decide), ?_⟩
              rintro A9 rfl
              rw [show mI (mI A2 0 41 (nI i0)) 0 42 (nI l) 28 l = nI (lf h t r i0 l) from e5 l hl]
              refine hQ _ (fun c c1 c2 => (wI_n _ (by omega) _).trans ((wI_n _ (by omega) _).trans (fr1 _ c c1 c2))) (fun k hk => ?_) rfl rfl rfl
              rw [mI_s, upd_n (by omega), mI_s, upd_n (by omega)]; exact fr2 _ k hk
            · rintro l2 z k3 hl2 rfl hk3
              refine pk_le 8 l2 (fun c => by omega) (fun _ => ⟨vp_in_nI (by omega) (by decide), ?_⟩)
              rw [nI_clamp (by omega), show mI A2 0 41 (nI i0) 28 l2 = nI 0 from (e5 l2 (by omega)).trans (by rw [hz l2 hl2])]
              refine ⟨fun _ => ?_, fun c => absurd (show nI 0 ≤ (0 : Int32) by decide) c⟩
              rw [nI_1]; exact hk3 _ rfl
          · exact endl hz (fun e => absurd (hb.symm.trans e) (by decide)) (fun _ => hQ _ (fr1 _) (fr2 _) rfl e3 e4)
          · refine endl hz (fun _ => ?_) (fun e => absurd (hb.symm.trans e) (by decide))
            refine hQ _ (fun c c1 c2 => (wI_n _ (by omega) _).trans (fr1 _ c c1 c2)) (fun k hk => ?_) rfl e3 e4
            rw [mI_s, upd_n (by omega)]; exact fr2 _ k hk
        · have hk0 : i0 = 0 := (nI_eq (b := 0) (by omega) (by decide)).mp ck
          rcases hend.2 rfl with ⟨e, rfl, rfl, rfl, rfl⟩ | ⟨e, _⟩ | ⟨e, _⟩ | ⟨e, _⟩
          · refine hQ _ (fr1 _) (fr2 _) ?_ e3 e4
            rw [mI_s, upd_s rfl, hk0]; rfl
          · omega
          · omega
          · omega
    · rintro i z k2 hi ⟨A2, rfl, e1, e2, e3, e4, e5⟩ hk2
      have fr1 : ∀ v : Int32, (∀ c, 0 < c → c ≠ 28 → mI A2 0 41 v c = A c) := fun v c c1 c2 => (wI_n _ (by omega) _).trans (e1 c c1 c2)
      have fr2 : ∀ v : Int32, (∀ k, k < 41 → mI A2 0 41 v 0 k = A 0 k) := fun v k hk => (mI_s _ _ _ _ _).trans ((upd_n (by omega)).trans (e2 k hk))
      have hx2 : rowN (mI A2 0 41 (nI i)) h t r k := rowN_fr hx (fun c c1 c2 => fr1 _ c c1 (by omega)) (fr2 _)
      obtain ⟨s1, s2, s3, s4⟩ := id hx2
      obtain ⟨hu, e61⟩ := s4 i (by omega)
      obtain ⟨p1, p2, p3⟩ := hps i hi
      refine word i A2 k2 (by omega) e1 e2 (fun b => absurd (p1.symm.trans b) (by decide)) (fun _ b => absurd (b.symm.trans p2) (by decide)) (fun _ _ => ?_)
      refine pe_wantedBy (n := hoZ h (r i)) (x := -9) h1 h2 hx2 (by omega) e5 (Nat.le_refl _) (fun j hj => p3 _ ((h1.2 _ hu).2.2.2 j hj)) (fun e => absurd e (Nat.lt_irrefl _)) (by rw [if_neg (Nat.lt_irrefl _)]) ⟨fun _ => ?_, fun e => absurd rfl e⟩
      refine lpx_up (fun l z => ∃ A' : MI, z = (nI i, nI (r i), nI l, A', B) ∧ (∀ c, 0 < c → c ≠ 28 → A' c = A c) ∧ (∀ k, k < 41 → A' 0 k = A 0 k) ∧ A' 0 42 = -9 ∧ A' 0 43 = 0 ∧ (∀ l2, l2 < l → A' 28 l2 = nI (lf h t r (i + 1) l2)) ∧ ∀ l2, l ≤ l2 → l2 < 8 → A' 28 l2 = nI (lf h t r i l2)) 8 ?_ ?_ 0 _ (Nat.zero_le _) ⟨_, rfl, fr1 _, fr2 _, e3, e4, fun l hl => absurd hl (Nat.not_lt_zero l), fun l _ hl => e5 l hl⟩
      · rintro z k3 ⟨A', rfl, y1, y2, y3, y4, y5, y6⟩
        refine pk_le 8 8 (fun _ => ?_) (fun c => by omega)
        rw [nI_1]
        exact hk2 _ ⟨A', rfl, y1, y2, y3, y4, y5⟩
      · rintro l z k3 hl ⟨A', rfl, y1, y2, y3, y4, y5, y6⟩ hk3
        have e8 : (8 : Int32) * nI (r i) + nI l = nI (8 * r i + l) := by rw [show (8 : Int32) = nI 8 from rfl, pk_mul, nI_add]
        have hvl : vp_in (nI l) 8 := vp_in_nI hl (by decide)
        refine pk_le 8 l (fun c => by omega) (fun _ => ⟨hvl, ?_⟩)
        rw [e8]
        refine ⟨vp_in_nI (by omega) (by decide), hvl, ?_⟩
        rintro A9 rfl
        have e5' : A' 5 (8 * r i + l) = nI (nd h (r i) l) := by rw [y1 5 (by decide) (by decide)]; exact (hx.1.2 _ hu).2.2.1 l hl
        rw [nI_1, nI_clamp (by omega), nI_clamp (by omega), y6 l (Nat.le_refl _) hl, e5', pk_sub (p3 l hl), ← lf_s]
        refine hk3 _ ⟨_, rfl, fun c c1 c2 => (wI_n _ c2 _).trans (y1 c c1 c2), y2, y3, y4, fun l2 hl2 => ?_, fun l2 c1 c2 => ?_⟩
        · rw [mI_s]
          by_cases e : l2 = l
          · subst e; rw [upd_s rfl]
          · rw [upd_n e]; exact y5 l2 (by omega)
        · rw [mI_s, upd_n (by omega)]; exact y6 l2 (by omega) c2
  · rintro l z kk hl ⟨A1, rfl, g1, g2, g3, g4, g5⟩ hkk
    refine pk_le 8 l (fun c => by omega) (fun _ => ⟨vp_in_nI (by omega) (by decide), vp_in_nI hl (by decide), ?_⟩)
    rintro A9 rfl
    have e6 : A1 6 l = nI (seB t l) := by rw [g1 6 (by decide) (by decide)]; have := hx.2.1.1 l hl; rwa [Nat.zero_add] at this
    rw [nI_1, nI_clamp (by omega), e6]
    refine hkk _ ⟨_, rfl, fun c c1 c2 => (wI_n _ c2 _).trans (g1 c c1 c2), g2, g3, g4, fun l2 hl2 => ?_⟩
    rw [mI_s]
    by_cases e : l2 = l
    · subst e; rw [upd_s rfl]
    · rw [upd_n e]; exact g5 l2 (by omega)
  · rw [mI_s, upd_n (by omega), mI_s, upd_n (by omega)]
theorem row_of {I : MI} {J : MJ} {A : MI} {B : MJ} {h : Ho} {t : Se} (hH : SimH I J A B h t) : ∃ (k : Nat) (r : Nat → Nat), k ≤ 12 ∧ rowX I J h t r k ∧ rowN A h t r k := by
  obtain ⟨h1, h2, h3, h4, h5, h6, h7, h8, h9, h10, h11, h12, h13, h14, h15⟩ := hH
  obtain ⟨k, hk, e1, e2, hr⟩ := id h11
  have hw10 := h1.1
  have hr2 : ∀ i, i < k → (I 61 i).toNatClampNeg < hoW h ∧ I 61 i = nI (I 61 i).toNatClampNeg ∧ A 11 i = nI (I 61 i).toNatClampNeg := fun i hi => by
    obtain ⟨u, hu, q1, q2⟩ := hr i hi
    rw [q1, nI_clamp (by omega)]; exact ⟨hu, rfl, q2⟩
  exact ⟨k, fun i => (I 61 i).toNatClampNeg, hk, ⟨⟨lexX_C h3, h5⟩, fun u hu => (h3.2 u hu).2.1, fun u i hu hi => (h3.2 u hu).2.2.2 i hi, e1, fun i hi => ⟨(hr2 i hi).1, (hr2 i hi).2.1⟩⟩, h4, h6, e2, fun i hi => ⟨(hr2 i hi).1, (hr2 i hi).2.2⟩⟩
/-- and what else the class may change: cells 62, 63, 64 -/
theorem Sim_ph3 {I I' : MI} {J J' : MJ} {A A' : MI} {B B' : MJ} {h : Ho} {t : Se} (hs : SimH I J A B h t) (f : ∀ c, c < 39 ∨ (54 ≤ c ∧ c ≠ 62 ∧ c ≠ 63 ∧ c ≠ 64) → I' c = I c) (g : ∀ c, c < 39 ∨ 54 ≤ c → J' c = J c) (fM : frM A A' B B') (h14' : S_sw (I' 39 8) (I' 39 9)) (hP : I' 39 12 = 0 ∨ Ph I' J' h t) : Sim I' J' A' B' := by
  have s1 : Sim (wI (wI (wI I' 62 (I 62)) 63 (I 63)) 64 (I 64)) J' A' B' := by
    refine Sim_ph hs ⟨fun c hc => ?_, g⟩ fM h14' hP
    by_cases h4 : c = 64
    · subst h4; exact wI_s _ _ _
    · refine (wI_n _ h4 _).trans ?_
      by_cases h3 : c = 63
      · subst h3; exact wI_s _ _ _
      · refine (wI_n _ h3 _).trans ?_
        by_cases h2 : c = 62
        · subst h2; exact wI_s _ _ _
        · exact (wI_n _ h2 _).trans (f c (by omega))
  obtain ⟨h, t, h1, h2, h3, h4, h5, h6, h7, h8, h9, h10, h11, h12, h13, h14, h15⟩ := s1
  exact ⟨h, t, h1, h2, h3, h4, h5, h6, h7, h8, h9, h10, h11, h12, h13, h14, h15⟩
theorem s_why : st_why Sim := by
  intro b I J A B hs
  obtain ⟨h, t, hH⟩ := Sim_H.mp hs
  obtain ⟨h1, h2, h3, h4, h5, h6, h7, h8, h9, h10, h11, h12, h13, h14, h15⟩ := id hH
  obtain ⟨k, r, hk, hx, hn⟩ := row_of hH
  obtain ⟨c, a, x, m, hr⟩ := Rs_ex (h := h) (t := t) (r := r) (k := k)
  have hbad : ¬ (0 ≤ b.toInt ∧ b.toInt ≤ 3) → P_X12_why b A B (fun r2 I2 J2 => (-2 : Int32) = r2 ∧ Sim I J I2 J2) := fun hn =>
    pe_inI (p := 0) (q := 3) (by decide) (by decide) (fun c c2 => absurd ⟨c, c2⟩ hn) (fun _ => ⟨fun c => absurd rfl c, fun _ => ⟨rfl, hs⟩⟩)
  refine ⟨fun c => hbad (by rw [lt0] at c; omega), fun c1 => ⟨fun c2 => ?_, fun c2 => hbad (by rw [show (3 : Int32) = nI 3 from rfl, le_lit (by decide)] at c2; omega)⟩⟩
  obtain ⟨j, hj, rfl⟩ : ∃ j, j ≤ 3 ∧ b = nI j := nI_of2 (n := 3) (by decide) c1 c2
  refine pe_examine h1 h2 hk hx hr (fun I1 f1 y0 y1 y2 y3 => ⟨vp_in_nI (by omega) (by decide), ?_⟩)
  rw [nI_clamp (by omega)]
  refine pe_inI (p := 0) (q := 3) (by decide) (by decide) (fun _ _ => ⟨fun _ => ?_, fun e => absurd e no10⟩) (fun hh => absurd ⟨by rw [nI_toInt (by omega)]; omega, by rw [nI_toInt (by omega)]; omega⟩ hh)
  refine pe_reason h1 h2 hk hn hr (fun A1 g1 g2 z1 z2 z3 => ?_)
  have hS : Sim I1 J A1 B := Sim_ph3 hH (fun c hc => f1 c (by omega) (by omega)) (fun _ _ => rfl) ⟨fun c c1 c2 _ => g1 c c1 (by omega), fun k hk => g2 k (by omega), rfl⟩ (by rw [f1 39 (by decide) (by decide)]; exact h14) (by
    have := h15.1
    rw [← f1 39 (by decide) (by decide), ← f1 46 (by decide) (by decide), ← f1 48 (by decide) (by decide), ← f1 49 (by decide) (by decide), ← f1 50 (by decide) (by decide), ← f1 52 (by decide) (by decide)] at this
    exact this)
  refine ⟨fun c3 => ⟨fun c4 => ⟨fun c5 => ⟨?_, hS⟩, fun c5 => ⟨?_, hS⟩⟩, fun c4 => ⟨?_, hS⟩⟩, fun c3 => ⟨?_, hS⟩⟩
  · have e3 : j = 3 := by
      have n0 : j ≠ 0 := fun e => c3 (by rw [e]; rfl)
      have n1 : j ≠ 1 := fun e => c4 (by rw [e]; rfl)
      have n2 : j ≠ 2 := fun e => c5 (by rw [e]; rfl)
      omega
    rw [e3, y3, z3]
  · rw [(nI_eq (b := 2) (by omega) (by decide)).mp c5, y2, z2]
  · rw [(nI_eq (b := 1) (by omega) (by decide)).mp c4, y1, z1]
  · rw [(nI_eq (b := 0) (by omega) (by decide)).mp c3, y0]
