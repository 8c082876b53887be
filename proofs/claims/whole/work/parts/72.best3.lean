theorem bt1_le {h : Ho} {t : Se} (h1 : hoOK h) (h2 : seOK h t) {p u : Nat} (hp : p ≤ tp t) (a : Nat) (hu : u < hoW h) : bt1 h t p a u ≤ 118 := by
  have hs1 := bw_small h1 h2 (p := p - pr h t u) (by omega) (hoK h u)
  have hrk := h2.2.1 u hu
  unfold bt1 up; split
  · split <;> omega
  · omega
theorem pe_layBest {h : Ho} {t : Se} {A : MI} {B : MJ} {Q : MI → MJ → Prop} (h1 : hoOK h) (h2 : seOK h t) (hl : lexN A h) (hL : Lk (A 0) (A 19) (A 21) (A 26) h t (okB t))
    (hQ : ∀ f : Nat → Int32, (∀ p a, p ≤ tp t → a ≤ 4 → f (5 * p + a) = e9 (mx (bt1 h t p a) (hoW h))) → Q (wI A 25 f) B) : P_X12_layBest A B Q := by
  have hw10 := h1.1
  have htp := tp_1296 h2
  have e31 : (5 : Int32) * A 0 31 + (4 : Int32) = nI (5 * tp t + 4) := by rw [hL.1, show (5 : Int32) = nI 5 from rfl, pk_mul, show (4 : Int32) = nI 4 from rfl, nI_add]
  refine lpx_up (fun i z => ∃ f : Nat → Int32, z = (nI i, wI A 25 f, B) ∧ ∀ p a, a ≤ 4 → 5 * p + a < i → f (5 * p + a) = e9 (mx (bt1 h t p a) (hoW h))) (5 * tp t + 5) ?_ ?_ 0 _ (Nat.zero_le _) ⟨A 25, by rw [wI_self]; rfl, fun p a _ hk => absurd hk (Nat.not_lt_zero _)⟩
  · rintro z k ⟨f, rfl, hf⟩
    exact pk_lt (5 * tp t + 4) (5 * tp t + 5) (fun _ => hQ f (fun p a hp ha => hf p a ha (by omega))) (fun c => by omega) e31
  · rintro i z k hi ⟨f, rfl, hf⟩ hk
    have hp : i / 5 ≤ tp t := by omega
    have ha : i % 5 ≤ 4 := by omega
    have hv : vp_in (nI i) 9720 := vp_in_nI (by omega) (by decide)
    have hci : (nI i).toNatClampNeg = i := nI_clamp (by omega)
    refine pk_lt (5 * tp t + 4) i (fun c => by omega) (fun _ => ⟨hv, ?_⟩) e31
    rintro A2 rfl
    refine lpx_up (fun u z => ∃ g : Nat → Int32, z = (nI i, nI u, wI A 25 g, B) ∧ (∀ p a, a ≤ 4 → 5 * p + a < i → g (5 * p + a) = e9 (mx (bt1 h t p a) (hoW h))) ∧ g i = e9 (mx (bt1 h t (i / 5) (i % 5)) u)) (hoW h) ?_ ?_ 0 _ (Nat.zero_le _) ⟨upd f i (-9), ?_, fun p a ha4 hlt => ?_, ?_⟩
    · rintro z k2 ⟨g, rfl, g1, g2⟩
      refine pk_le (hoW h) (hoW h) (fun _ => ?_) (fun c => by omega) hl.1
      rw [nI_1]
      refine hk _ ⟨g, rfl, fun p a ha4 hlt => ?_⟩
      by_cases e : 5 * p + a = i
      · have ep : i / 5 = p := by omega
        have ea : i % 5 = a := by omega
        rw [e, g2, ep, ea]
      · exact g1 p a ha4 (by omega)
    · rintro u z k2 hu ⟨g, rfl, g1, g2⟩ hk2
      have hl' : lexN (wI A 25 g) h := hl
      have hL' : Lk (wI A 25 g 0) (wI A 25 g 19) (wI A 25 g 21) (wI A 25 g 26) h t (okB t) := hL
      have hb1 := bt1_le h1 h2 hp (i % 5) hu
      have hb2 : mx (bt1 h t (i / 5) (i % 5)) u ≤ 118 := mx_le (fun l hl9 => bt1_le h1 h2 hp _ (by omega))
      refine pk_le (hoW h) u (fun c => by omega) (fun _ => ?_) hl.1
      rw [show nI i - nI i / (5 : Int32) * (5 : Int32) = nI (i % 5) from pk_rem (a := i) (d := 5) (by omega) (by decide) (by decide), show nI i / (5 : Int32) = nI (i / 5) from pk_div (d := 5) (by omega) (by decide) (by decide)]
      have wr : ∀ v : Int32, v = e9 (mx (bt1 h t (i / 5) (i % 5)) (u + 1)) → P_X12_layBest_85 Q k k2 (nI i) (nI u) (nI i) v (wI A 25 g) B := fun v hv9 => by
        refine ⟨hv, ?_⟩
        rintro A3 rfl
        rw [nI_1, hci]
        refine hk2 _ ⟨upd g i v, ?_, fun p a ha4 hlt => ?_, ?_⟩
        · show (_, _, wI (wI A 25 g) 25 (upd (wI A 25 g 25) i v), B) = _
          rw [wI_wI, wI_s]
        · rw [upd_n (by omega)]; exact g1 p a ha4 hlt
        · rw [upd_s rfl]; exact hv9
      have core : P_X12_layBest_59 Q k k2 (nI i) (nI u) (e9 (bt1 h t (i / 5) (i % 5) u)) (wI A 25 g) B := by
        refine ⟨hv, ?_⟩
        rw [hci, show wI A 25 g 25 i = e9 (mx (bt1 h t (i / 5) (i % 5)) u) from g2]
        have em : mx (bt1 h t (i / 5) (i % 5)) (u + 1) = max (mx (bt1 h t (i / 5) (i % 5)) u) (bt1 h t (i / 5) (i % 5) u) := rfl
        refine ⟨fun c => ⟨hv, wr _ ?_⟩, fun c => wr _ ?_⟩
        · rw [em, Nat.max_eq_left ((e9_le (by omega) (by omega)).mp c)]
        · have := mt (e9_le (by omega) (by omega)).mpr c
          rw [em, Nat.max_eq_right (by omega)]
      refine pe_mayCome h1 (seOK_O h2) hl'.2.1 hL' hp ha hu (fun hm => ⟨fun e => absurd e no10, fun _ => ?_⟩) (fun hm => ⟨fun _ => ?_, fun e => absurd rfl e⟩)
      · refine pe_bestWith h1 h2 hl'.2.1 hL' hp hu (may_iff.mp hm).2.2 (fun q k0 hq0 hqp hk0 => ?_) ?_
        · show g (5 * q + k0) = _
          rw [g1 q k0 (by omega) (by omega), bw_p h1 hq0 (by omega)]
        · have : bt1 h t (i / 5) (i % 5) u = up (bw h t (i / 5 - pr h t u) (hoK h u)) (seR t u) := if_pos hm
          rw [← this]; exact core
      · have : bt1 h t (i / 5) (i % 5) u = 0 := if_neg (by rw [hm]; decide)
        rw [this] at core; exact core
    · show (nI i, (0 : Int32), wI (wI A 25 f) 25 (upd (wI A 25 f 25) (nI i).toNatClampNeg (-9)), B) = _
      rw [wI_wI, wI_s, hci]; rfl
    · rw [upd_n (by omega)]; exact hf p a ha4 hlt
    · rw [upd_s rfl]; rfl
theorem pe_findBestM {h : Ho} {t : Se} {A : MI} {B : MJ} {Q : Int32 → MI → MJ → Prop} (h1 : hoOK h) (h2 : seOK h t) (hl : lexN A h) (hk9 : Lk (A 0) (A 19) (A 21) (A 26) h t (okB t))
    (q0 : ∀ A' : MI, (∀ c, c ≠ 25 → c ≠ 27 → A' c = A c) → bw h t (tp t) 4 = 0 → Q (-9) A' B)
    (q1 : ∀ (A' : MI) (L : Nat), (∀ c, c ≠ 25 → c ≠ 27 → A' c = A c) → 0 < bw h t (tp t) 4 → isLenB h t L → (∀ i, i < L → A' 27 i = nI (bfd h t i)) → Q (nI L) A' B) : P_X12_findBest A B Q := by
  have hw10 := h1.1
  have htp := tp_1296 h2
  have hbs := bw_small h1 h2 (Nat.le_refl (tp t)) 4
  refine pe_layBest h1 h2 hl hk9 (fun f hf => ?_)
  have hfb : ∀ p a, 0 < p → p ≤ tp t → a ≤ 4 → f (5 * p + a) = e9 (bw h t p a) := fun p a h0 hp ha => by rw [hf p a hp ha, bw_p h1 h0 hp]
  have e31 : wI A 25 f 0 31 = nI (tp t) := hk9.1
  rw [e31]
  rcases Nat.eq_zero_or_pos (bw h t (tp t) 4) with c0 | c0
  · refine lpx_step (n := 0) ?_
    have fin : P_X12_findBest_102 Q (nI 0) (wI A 25 f) B := ⟨fun e => absurd rfl e, fun _ => q0 _ (fun c c1 _ => wI_n _ c1 _) c0⟩
    refine pk_le (tp t) 0 (fun _ => fin) (fun c => ?_)
    have e5 : (5 : Int32) * nI (tp t) + (4 : Int32) = nI (5 * tp t + 4) := by rw [show (5 : Int32) = nI 5 from rfl, pk_mul, show (4 : Int32) = nI 4 from rfl, nI_add]
    rw [e5]
    refine ⟨vp_in_nI (by omega) (by decide), ?_⟩
    rw [nI_clamp (by omega), show wI A 25 f 25 (5 * tp t + 4) = e9 (bw h t (tp t) 4) from hfb _ _ (by omega) (Nat.le_refl _) (Nat.le_refl _), c0]
    exact ⟨fun _ => fin, fun e => absurd (show e9 0 < (0 : Int32) by decide) e⟩
  · obtain ⟨L, hL, hb⟩ := lenB_ex h1 h2.1 c0
    have hL12 := hL.1
    have hL0 := lenB_pos h2 c0 hL
    refine lpx_up (fun i z => ∃ g : Nat → Int32, z = (nI (bst h t i).1, nI (bst h t i).2, nI i, wI (wI A 25 f) 27 g, B) ∧ ∀ j, j < i → g j = nI (bfd h t j)) L ?_ ?_ 0 _ (Nat.zero_le _) ⟨A 27, ?_, fun j hj => absurd hj (Nat.not_lt_zero j)⟩
    · rintro z k ⟨g, rfl, hg⟩
      rw [hL.2.1]
      refine pk_le 0 0 (fun _ => ⟨fun _ => ?_, fun e => absurd ((nI_eq (b := 0) (by omega) (by decide)).mp e) (by omega)⟩) (fun c => by omega)
      exact q1 _ L (fun c c1 c2 => (wI_n _ c2 _).trans (wI_n _ c1 _)) c0 hL hg
    · rintro i z k hi ⟨g, rfl, hg⟩ hk
      have hp := hL.2.2 i hi
      have hs := hb i (by omega)
      obtain ⟨w1, w2, w3, w4, w5⟩ := b_word h1 hs hp
      have hle := Rc_le h1 hs.1
      have hpt : (bst h t i).1 ≤ tp t := by omega
      have ha4 : (bst h t i).2 ≤ 4 := by omega
      have hfs := fit_step h1 w1 hpt (may_iff.mp w2).2.2
      have hl' : lexN (wI (wI A 25 f) 27 g) h := hl
      have hL' : Lk (wI (wI A 25 f) 27 g 0) (wI (wI A 25 f) 27 g 19) (wI (wI A 25 f) 27 g 21) (wI (wI A 25 f) 27 g 26) h t (okB t) := hk9
      have hbi := bw_small h1 h2 hpt (bst h t i).2
      have e5 : (5 : Int32) * nI (bst h t i).1 + nI (bst h t i).2 = nI (5 * (bst h t i).1 + (bst h t i).2) := by rw [show (5 : Int32) = nI 5 from rfl, pk_mul, nI_add]
      have e25 : wI (wI A 25 f) 27 g 25 (nI (5 * (bst h t i).1 + (bst h t i).2)).toNatClampNeg = e9 (bw h t (bst h t i).1 (bst h t i).2) := by
        rw [nI_clamp (by omega)]; exact hfb _ _ hp hpt ha4
      have hv5 : vp_in (nI (5 * (bst h t i).1 + (bst h t i).2)) 9720 := vp_in_nI (by omega) (by decide)
      refine pk_le (bst h t i).1 0 (fun c => by omega) (fun _ => ?_)
      rw [e5]
      refine ⟨hv5, ?_⟩
      rw [e25]
      refine ⟨fun e => absurd ((e9_neg (by omega)).mp e) (by have := hs.2.1; omega), fun _ => ?_⟩
      have wd : ∀ u, u < hoW h → ∀ (K : Int32 → MI → MJ → Prop), (may h t (okB t) (bst h t i).1 (bst h t i).2 u = false → K 0 (wI (wI A 25 f) 27 g) B) → (may h t (okB t) (bst h t i).1 (bst h t i).2 u = true → K 1 (wI (wI A 25 f) 27 g) B) → P_X12_mayCome (nI (bst h t i).1) (nI (bst h t i).2) (nI u) (wI (wI A 25 f) 27 g) B K := fun u hu K k0 k1 => pe_mayCome h1 (seOK_O h2) hl'.2.1 hL' hpt ha4 hu k1 k0
      have bwi : ∀ u, u < hoW h → may h t (okB t) (bst h t i).1 (bst h t i).2 u = true → ∀ (K : Int32 → MI → MJ → Prop), K (e9 (bt1 h t (bst h t i).1 (bst h t i).2 u)) (wI (wI A 25 f) 27 g) B → P_X12_bestWith (nI (bst h t i).1) (nI u) (wI (wI A 25 f) 27 g) B K := fun u hu hm K hK => by
        refine pe_bestWith h1 h2 hl'.2.1 hL' hpt hu (may_iff.mp hm).2.2 (fun q k0 hq0 hqp hk0 => hfb q k0 hq0 (by omega) (by omega)) ?_
        have : bt1 h t (bst h t i).1 (bst h t i).2 u = up (bw h t ((bst h t i).1 - pr h t u) (hoK h u)) (seR t u) := if_pos hm
        rw [← this]; exact hK
      refine lpx_up (fun u z => z = (nI (bst h t i).1, nI (bst h t i).2, nI i, nI u, wI (wI A 25 f) 27 g, B)) (bfd h t i) ?_ ?_ 0 _ (Nat.zero_le _) rfl
      · rintro z k2 rfl
        refine wd _ w1 _ (fun e => absurd (e.symm.trans w2) (by decide)) (fun _ => ⟨fun e => absurd e no10, fun _ => bwi _ w1 w2 _ ?_⟩)
        have ebt : bt1 h t (bst h t i).1 (bst h t i).2 (bfd h t i) = bw h t (bst h t i).1 (bst h t i).2 := by
          have e1 : bt1 h t (bst h t i).1 (bst h t i).2 (bfd h t i) = up (bw h t ((bst h t i).1 - pr h t (bfd h t i)) (hoK h (bfd h t i))) (seR t (bfd h t i)) := if_pos w2
          rw [e1, w3]; exact if_neg (by omega)
        rw [e5, ebt]
        refine ⟨hv5, ?_⟩
        rw [e25]
        refine ⟨fun _ => ⟨vp_in_nI (by omega) (by decide), ?_⟩, fun e => absurd rfl e⟩
        rintro A9 rfl
        have hv10 : vp_in (nI (bfd h t i)) 10 := vp_in_nI (by omega) (by decide)
        have ecl : (nI (bfd h t i)).toNatClampNeg = bfd h t i := nI_clamp (by omega)
        refine ⟨hv10, hv10, ?_⟩
        rw [ecl, nI_clamp (by omega), nI_1]
        have e21 : mI (wI (wI A 25 f) 27 g) 27 i (nI (bfd h t i)) 21 (bfd h t i) = nI (pr h t (bfd h t i)) := hk9.2.2.1 _ w1
        have e4 : mI (wI (wI A 25 f) 27 g) 27 i (nI (bfd h t i)) 4 (bfd h t i) = nI (hoK h (bfd h t i)) := hl.2.1 _ w1
        rw [e21, e4, pk_sub hfs.2.1]
        refine hk _ ⟨upd g i (nI (bfd h t i)), ?_, fun j hj => ?_⟩
        · show (_, _, _, wI (wI (wI A 25 f) 27 g) 27 (upd (wI (wI A 25 f) 27 g 27) i _), B) = _
          rw [wI_wI, wI_s]; rfl
        · by_cases hji : j = i
          · subst hji; rw [upd_s rfl]
          · rw [upd_n hji]; exact hg j (by omega)
      · rintro u z k2 hu rfl hk2
        have next : P_X12_findBest_64 Q k k2 (nI (bst h t i).1) (nI (bst h t i).2) (nI i) (nI u) (wI (wI A 25 f) 27 g) B := by
          show k2 (_, _, _, nI u + 1, _, B)
          rw [nI_1]; exact hk2 _ rfl
        have hbc := w5 u hu
        refine wd u (by omega) _ (fun _ => ⟨fun _ => next, fun e => absurd rfl e⟩) (fun hm => ⟨fun e => absurd e no10, fun _ => bwi u (by omega) hm _ ?_⟩)
        rw [e5]
        refine ⟨hv5, ?_⟩
        rw [e25]
        refine ⟨fun e => ?_, fun _ => next⟩
        have e1 := (e9_eq (by have := bt1_le h1 h2 hpt (bst h t i).2 (show u < hoW h by omega); omega) (by omega)).mp e
        unfold bc at hbc
        rw [hm, decide_eq_true e1] at hbc
        exact absurd hbc (by decide)
    · show (nI (tp t), (4 : Int32), (0 : Int32), wI A 25 f, B) = (nI (tp t), nI 4, nI 0, wI (wI A 25 f) 27 (A 27), B)
      have : wI (wI A 25 f) 27 (A 27) = wI A 25 f := by
        have := wI_self (I := wI A 25 f) (c := 27)
        exact this
      rw [this]; rfl
theorem bfd_lt {h : Ho} {t : Se} (h1 : hoOK h) {L : Nat} (hL : isLenB h t L) (hb : ∀ i, i ≤ L → bOK h t i) : ∀ i, i < L → bfd h t i < hoW h := fun i hi => (b_word h1 (hb i (by omega)) (hL.2.2 i hi)).1
theorem lenB_uniq {h : Ho} {t : Se} {L M : Nat} (hL : isLenB h t L) (hM : isLenB h t M) : L = M := by
  rcases Nat.lt_or_ge L M with q | q
  · have := hM.2.2 L q; have := hL.2.1; omega
  · rcases Nat.lt_or_ge M L with q2 | q2
    · have := hL.2.2 M q2; have := hM.2.1; omega
    · omega
theorem s_best : st_best Sim := by
  intro a I J A B hs
  obtain ⟨h, t, hH⟩ := Sim_H.mp hs
  obtain ⟨h1, h2, h3, h4, h5, h6, h7, h8, h9, h10, h11, h12, h13, h14, h15⟩ := id hH
  have hX : CX I J h t := ⟨lexX_C h3, h5⟩
  have hw10 := h1.1
  have hbad : ¬ (0 ≤ a.toInt ∧ a.toInt ≤ 13) → P_X12_best a A B (fun r2 I2 J2 => (-2 : Int32) = r2 ∧ Sim I J I2 J2) := fun hn =>
    pe_inI (p := 0) (q := 13) (by decide) (by decide) (fun c c2 => absurd ⟨c, c2⟩ hn) (fun _ => ⟨fun c => absurd rfl c, fun _ => ⟨rfl, hs⟩⟩)
  refine ⟨fun c => hbad (by rw [lt0] at c; omega), fun c => ⟨fun c2 => ?_, fun c2 => hbad (by rw [show (13 : Int32) = nI 13 from rfl, le_lit (by decide)] at c2; omega)⟩⟩
  obtain ⟨j, hj, rfl⟩ : ∃ j, j ≤ 13 ∧ a = nI j := nI_of2 (n := 13) (by decide) c c2
  -- the reference up to the finding
  have href : ∀ K : Int32 → MI → MJ → Prop, (∀ (A1 : MI), frA A A1 → lexN A1 h → Lk (A1 0) (A1 19) (A1 21) (A1 26) h t (okB t) → P_X12_findBest A1 B (fun r24 I24 J24 => ((r24 = (-9 : Int32) → K (-9 : Int32) I24 J24) ∧ (¬ r24 = (-9 : Int32) → ((nI j < (r24 + (2 : Int32)) → ((¬ nI j = 0 → ((¬ nI j = (1 : Int32) → vp_in (nI j - (2 : Int32)) 12 ∧ (K (I24 27 (nI j - (2 : Int32)).toNatClampNeg) I24 J24)) ∧ (nI j = (1 : Int32) → K r24 I24 J24))) ∧ (nI j = 0 → P_X12_worthOf r24 I24 J24 (fun r50 I50 J50 => K r50 I50 J50)))) ∧ (¬ nI j < (r24 + (2 : Int32)) → K (-9 : Int32) I24 J24)))))) → P_X12_best (nI j) A B K := fun K hK => by
    refine pe_inI (p := 0) (q := 13) (by decide) (by decide) (fun _ _ => ⟨fun _ => ?_, fun e => absurd e no10⟩) (fun hh => absurd ⟨by rw [nI_toInt (by omega)]; omega, by rw [nI_toInt (by omega)]; omega⟩ hh)
    refine pe_look (Or.inl rfl) h1 (seOK_O h2) (lexM_N h4).1 (lexM_N h4).2.2 h6 (fun A1 fL hL => hK A1 (frL_A fL) (lexN_fr (frL_A fL) (lexM_N h4)) hL)
  refine pe_findBestX h1 h2 hX h15.1 h14 (fun I1 J1 f1 p1 c0 => ⟨fun e => absurd rfl e, fun _ => ?_⟩) (fun I1 J1 L f1 p1 c0 hL hb e10 ef => ⟨fun _ => ?_, fun e => absurd e no10⟩)
  · have hS : ∀ (A' : MI) (B' : MJ), frM A A' B B' → Sim I1 J1 A' B' := fun A' B' fM => Sim_ph hH f1.1 fM (frN_sw f1 h14) (Or.inr p1)
    refine href _ (fun A1 fA hl hLk => pe_findBestM h1 h2 hl hLk (fun A2 g1 _ => ⟨fun _ => ⟨rfl, hS A2 B ?_⟩, fun e => absurd rfl e⟩) (fun A2 M g1 c1 _ _ => by omega))
    exact ⟨fun c c1 c2 c3 => (g1 c (by omega) (by omega)).trans (fA.1 c c1 (by omega)), fun k hk => by rw [g1 0 (by decide) (by decide)]; exact fA.2 k (by omega), rfl⟩
  · have hS : ∀ (A' : MI) (B' : MJ), frM A A' B B' → Sim I1 J1 A' B' := fun A' B' fM => Sim_ph hH f1.1 fM (frN_sw f1 h14) (Or.inr p1)
    have hX1 := CX_N hX f1
    have hL12 := hL.1
    have hbl := bfd_lt h1 hL hb
    have hL0 := lenB_pos h2 c0 hL
    -- the reference, once all is found
    have href2 : ∀ K : Int32 → MI → MJ → Prop, (∀ (A1 : MI) (B1 : MJ), frM A A1 B B1 → rowM (A1 19) 0 h t → (∀ i, i < L → A1 27 i = nI (bfd h t i)) → ((nI j < (nI L + (2 : Int32)) → ((¬ nI j = 0 → ((¬ nI j = (1 : Int32) → vp_in (nI j - (2 : Int32)) 12 ∧ (K (A1 27 (nI j - (2 : Int32)).toNatClampNeg) A1 B1)) ∧ (nI j = (1 : Int32) → K (nI L) A1 B1))) ∧ (nI j = 0 → P_X12_worthOf (nI L) A1 B1 (fun r50 I50 J50 => K r50 I50 J50)))) ∧ (¬ nI j < (nI L + (2 : Int32)) → K (-9 : Int32) A1 B1))) → P_X12_best (nI j) A B K := fun K hK => by
      refine href K (fun A1 fA hl hLk => pe_findBestM h1 h2 hl hLk (fun A2 g1 c1 => by omega) (fun A2 M g1 _ hM hf => ?_))
      obtain rfl := lenB_uniq hL hM
      refine ⟨fun e => ?_, fun _ => hK A2 B ⟨fun c c1 c2 c3 => (g1 c (by omega) (by omega)).trans (fA.1 c c1 (by omega)), fun k hk => by rw [g1 0 (by decide) (by decide)]; exact fA.2 k (by omega), rfl⟩ (by rw [g1 19 (by decide) (by decide)]; exact hLk.2.2.2.2) hf⟩
      exact absurd (show ¬ nI L < 0 from nI_pos (by omega)) (by rw [e]; decide)
    have eL2 : nI L + (2 : Int32) = nI (L + 2) := by rw [show (2 : Int32) = nI 2 from rfl, nI_add]
    refine ⟨fun c3 => ?_, fun c3 => ⟨fun c4 => ?_, fun c4 => ?_⟩⟩
    · have hj0 : j = 0 := (nI_eq (b := 0) (by omega) (by decide)).mp c3
      refine pe_worthX h1 hL12 hbl e10 ef hX1.2.2.1 ?_
      refine href2 _ (fun A1 B1 fM hr hf => ?_)
      rw [eL2]
      exact pk_lt j (L + 2) (fun _ => ⟨fun e => absurd c3 e, fun _ => pe_worthM h1 hL12 hbl hf hr ⟨rfl, hS A1 B1 fM⟩⟩) (fun c => by omega)
    · have hj1 : j = 1 := (nI_eq (b := 1) (by omega) (by decide)).mp c4
      rw [e10]
      refine href2 _ (fun A1 B1 fM hr hf => ?_)
      rw [eL2]
      exact pk_lt j (L + 2) (fun _ => ⟨fun _ => ⟨fun e => absurd c4 e, fun _ => ⟨rfl, hS A1 B1 fM⟩⟩, fun e => absurd e c3⟩) (fun c => by omega)
    · have n0 : j ≠ 0 := fun e => c3 (by rw [e]; rfl)
      have n1 : j ≠ 1 := fun e => c4 (by rw [e]; rfl)
      have ej : nI j - (2 : Int32) = nI (j - 2) := by rw [show (2 : Int32) = nI 2 from rfl, pk_sub (by omega)]
      rw [ej]
      refine ⟨fun c => absurd c (nI_pos (by omega)), fun _ => pk_le L (j - 2) (fun c => ?_) (fun c => ⟨vp_in_nI (by omega) (by decide), ?_⟩) e10⟩
      · show P_X12_best (nI j) A B (fun r2 I2 J2 => (-9 : Int32) = r2 ∧ Sim I1 J1 I2 J2)
        refine href2 _ (fun A1 B1 fM hr hf => ?_)
        rw [eL2]
        exact pk_lt j (L + 2) (fun c => by omega) (fun _ => ⟨rfl, hS A1 B1 fM⟩)
      · rw [nI_clamp (by omega), ef _ (by omega)]
        refine href2 _ (fun A1 B1 fM hr hf => ?_)
        rw [eL2, ej]
        exact pk_lt j (L + 2) (fun _ => ⟨fun _ => ⟨fun _ => ⟨vp_in_nI (by omega) (by decide), by rw [nI_clamp (by omega), hf _ (by omega)], hS A1 B1 fM⟩, fun e => absurd e c4⟩, fun e => absurd e c3⟩) (fun c => by omega)
