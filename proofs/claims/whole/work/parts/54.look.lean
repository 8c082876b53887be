/-- what looking at a row leaves alone -/
def frL (A A' : MI) : Prop := (∀ c, c ≠ 0 → c ≠ 19 → c ≠ 20 → c ≠ 21 → c ≠ 26 → A' c = A c) ∧ ∀ k, k ≠ 31 → k ≠ 32 → A' 0 k = A 0 k
theorem upd_n2 {f : Nat → Int32} {k j : Nat} {x v : Int32} (h : j ≠ k) (e : f j = v) : upd f k x j = v := by rw [upd_n h]; exact e
theorem pe_look {w0 : Nat} {h : Ho} {t : Se} {A : MI} {B : MJ} {Q : MI → MJ → Prop} (h0 : w0 = 6 ∨ w0 = 7) (h1 : hoOK h) (h2 : seO h t) (hn : A 0 2 = nI (hoW h)) (hN : ∀ u, u < hoW h → ∀ l, l < 8 → A 5 (8 * u + l) = nI (nd h u l)) (hr : rowM (A w0) 0 h t)
    (hQ : ∀ A' : MI, frL A A' → Lk (A' 0) (A' 19) (A' 21) (A' 26) h t (okB t) → Q A' B) : P_X12_look w0 A B Q := by
  have hw10 := h1.1
  have htp := tp_1944 h2
  have hB : ∀ l, l < 8 → A w0 l = nI (seB t l) := fun l hl => by have := hr.1 l hl; rwa [Nat.zero_add] at this
  have hb13 : ∀ l, l < 8 → seB t l ≤ 13 := fun l hl => Nat.le_trans (sm_le _ hl) h2.1
  have hbs : ∀ l, l ≤ 8 → bs (seB t) l ≤ 1944 := fun l hl => Nat.le_trans (bs_le hl) (bs_13 h2.1)
  have hX : A w0 8 = nI (seX t) := hr.2.2.2.2.2
  have hXl := seX_lt h1 h2
  refine pe_copyM (by omega) (fun f hf => ?_)
  have hrf : rowM f 0 h t := ⟨fun l hl => by rw [hf _ (by omega)]; exact hr.1 l hl, fun u hu => by rw [hf _ (by omega)]; exact hr.2.1 u hu, fun a ha => by rw [hf _ (by omega)]; exact hr.2.2.1 a ha, by rw [hf _ (by omega)]; exact hr.2.2.2.1, by rw [hf _ (by omega)]; exact hr.2.2.2.2.1, by rw [hf _ (by omega)]; exact hr.2.2.2.2.2⟩
  refine ⟨vp_in_nI (n := 0) (by decide) (by decide), ?_⟩
  rintro A1 rfl
  refine lpx_up (fun i z => ∃ A' : MI, z = (nI i, A', B) ∧ frL A A' ∧ rowM (A' 19) 0 h t ∧ ∀ l, l ≤ i → A' 20 l = nI (bs (seB t) l)) 8 ?_ ?_ 0 _ (Nat.zero_le _) ⟨_, rfl, ⟨fun c g1 g2 g3 g4 g5 => (wI_n _ g3 _).trans (wI_n _ g2 _), fun k g1 g2 => rfl⟩, hrf, fun l hl => by rw [show l = 0 by omega]; rfl⟩
  rotate_left
  · rintro i z k hi ⟨A', rfl, hF, hR, hb⟩ hk
    refine pk_le 8 i (fun c => by omega) (fun _ => ⟨vp_in_nI (by omega) (by decide), vp_in_nI (by omega) (by decide), ?_⟩)
    have e1 : nI i + (1 : Int32) = nI (i + 1) := nI_1 i
    rw [e1]
    refine ⟨vp_in_nI (by omega) (by decide), ?_⟩
    rintro A2 rfl
    refine hk _ ⟨_, rfl, ⟨fun c g1 g2 g3 g4 g5 => (wI_n _ g3 _).trans (hF.1 c g1 g2 g3 g4 g5), hF.2⟩, hR, fun l hl => ?_⟩
    show upd (A' 20) (nI (i + 1)).toNatClampNeg _ l = _
    rw [nI_clamp (by omega), nI_clamp (by omega)]
    rcases Nat.lt_or_ge l (i + 1) with q | q
    · exact upd_n2 (by omega) (hb l (by omega))
    · rw [upd_s (by omega), hb i (Nat.le_refl i), show A' w0 = A w0 from hF.1 w0 (by omega) (by omega) (by omega) (by omega) (by omega), hB i hi, nI_1, pk_mul, show l = i + 1 by omega]
      rfl
  rintro z k ⟨A', rfl, hF, hR, hb⟩
  refine pk_le 8 8 (fun _ => ⟨vp_in_nI (n := 8) (by decide) (by decide), ?_⟩) (fun c => by omega)
  rintro A2 rfl A3 rfl
  have hb8 : A' 20 (8 : Int32).toNatClampNeg = nI (bs (seB t) 8) := hb 8 (Nat.le_refl 8)
  have etp : A' 20 (8 : Int32).toNatClampNeg - (1 : Int32) = nI (tp t) := by
    rw [hb8, show (1 : Int32) = nI 1 from rfl, pk_sub (bs_pos _ _)]; rfl
  -- the words
  refine lpx_up (fun i z => ∃ A' : MI, z = (nI i, A', B) ∧ frL A A' ∧ rowM (A' 19) 0 h t ∧ (∀ l, l ≤ 8 → A' 20 l = nI (bs (seB t) l)) ∧ A' 0 31 = nI (tp t) ∧ (∃ al, A' 0 32 = nI al ∧ al < 1024 ∧ ∀ w, w < 10 → al.testBit w = (decide (w < i) && okB t w)) ∧ (∀ w, w < i → A' 21 w = nI (pr h t w)) ∧ ∀ w p, w < i → p ≤ tp t → A' 26 (10 * p + w) = if fitP h t p w then 1 else 0) (hoW h) ?_ ?_ 0 _ (Nat.zero_le _) ⟨_, rfl, ⟨fun c g1 g2 g3 g4 g5 => (wI_n _ g1 _).trans ((wI_n _ g1 _).trans (hF.1 c g1 g2 g3 g4 g5)), fun k g1 g2 => ?_⟩, hR, hb, etp, ⟨0, rfl, by decide, fun w _ => by simp⟩, fun w hw => absurd hw (Nat.not_lt_zero w), fun w p hw => absurd hw (Nat.not_lt_zero w)⟩
  · rintro z k ⟨A', rfl, hF, hR, hb, e31, ⟨al, e32, hal, hbits⟩, hp, hf⟩
    have hn' : A' 0 2 = nI (hoW h) := (hF.2 2 (by decide) (by decide)).trans hn
    refine pk_le (hoW h) (hoW h) (fun _ => hQ A' hF ⟨e31, ⟨al, e32, hal, fun w hw => ?_⟩, hp, hf, hR⟩) (fun c => by omega) hn'
    rw [hbits w (by omega), decide_eq_true hw, Bool.true_and]
  · rintro u z k hu ⟨A', rfl, hF, hR, hb, e31, ⟨al, e32, hal, hbits⟩, hp, hf⟩ hk
    have hn' : A' 0 2 = nI (hoW h) := (hF.2 2 (by decide) (by decide)).trans hn
    have hw0 : A' w0 = A w0 := hF.1 w0 (by omega) (by omega) (by omega) (by omega) (by omega)
    have hA5 : A' 5 = A 5 := hF.1 5 (by omega) (by omega) (by omega) (by omega) (by omega)
    refine pk_le (hoW h) u (fun c => by omega) (fun _ => ⟨vp_in_nI (n := 8) (by decide) (by decide), ?_⟩) hn'
    have e8 : A' w0 (8 : Int32).toNatClampNeg = nI (seX t) := by rw [hw0]; exact hX
    rw [e8]
    -- once the bit is laid
    have rest : ∀ s2 : Nat, (al ||| s2) < 1024 → (∀ w, w < 10 → (al ||| s2).testBit w = (decide (w < u + 1) && okB t w)) → P_X12_look_100 w0 Q k (nI u) (A' 0 32) (nI s2) A' B := by
      intro s2 hs2 hbits2
      rintro A4 rfl
      refine ⟨vp_in_nI (by omega) (by decide), ?_⟩
      rintro A5 rfl
      refine lpx_up (fun l z => ∃ A2 : MI, z = (nI u, nI l, A2, B) ∧ frL A A2 ∧ rowM (A2 19) 0 h t ∧ (∀ l, l ≤ 8 → A2 20 l = nI (bs (seB t) l)) ∧ A2 0 31 = nI (tp t) ∧ A2 0 32 = nI (al ||| s2) ∧ (∀ w, w < u → A2 21 w = nI (pr h t w)) ∧ A2 21 u = nI (vl (seB t) (nd h u) l) ∧ ∀ w p, w < u → p ≤ tp t → A2 26 (10 * p + w) = if fitP h t p w then 1 else 0) 8 ?_ ?_ 0 _ (Nat.zero_le _) ⟨_, rfl, ⟨fun c g1 g2 g3 g4 g5 => (wI_n _ g4 _).trans ((wI_n _ g1 _).trans (hF.1 c g1 g2 g3 g4 g5)), fun k g1 g2 => ?_⟩, hR, hb, e31, ?_, fun w hw => ?_, ?_, hf⟩
      · rintro z k2 ⟨A2, rfl, gF, gR, gb, g31, g32, gp, gu, gf⟩
        refine pk_le 8 8 (fun _ => ?_) (fun c => by omega)
        refine lpx_up (fun p z => ∃ A3 : MI, z = (nI u, nI p, A3, B) ∧ frL A A3 ∧ rowM (A3 19) 0 h t ∧ (∀ l, l ≤ 8 → A3 20 l = nI (bs (seB t) l)) ∧ A3 0 31 = nI (tp t) ∧ A3 0 32 = nI (al ||| s2) ∧ (∀ w, w < u + 1 → A3 21 w = nI (pr h t w)) ∧ (∀ w q, w < u → q ≤ tp t → A3 26 (10 * q + w) = if fitP h t q w then 1 else 0) ∧ ∀ q, q < p → A3 26 (10 * q + u) = if fitP h t q u then 1 else 0) (tp t + 1) ?_ ?_ 0 _ (Nat.zero_le _) ⟨A2, rfl, gF, gR, gb, g31, g32, fun w hw => ?_, gf, fun q hq => absurd hq (Nat.not_lt_zero q)⟩
        · rintro z k3 ⟨A3, rfl, gF, gR, gb, g31, g32, gp, gf, gq⟩
          refine pk_lt (tp t) (tp t + 1) (fun _ => ?_) (fun c => by omega) g31
          rw [nI_1]
          refine hk _ ⟨A3, rfl, gF, gR, gb, g31, ⟨_, g32, hs2, hbits2⟩, gp, fun w p hw hp9 => ?_⟩
          rcases Nat.lt_or_ge w u with q | q
          · exact gf w p q hp9
          · rw [show w = u by omega]; exact gq p (by omega)
        · rintro p z k3 hp9 ⟨A3, rfl, gF, gR, gb, g31, g32, gp, gf, gq⟩ hk3
          refine pk_lt (tp t) p (fun c => by omega) (fun _ => ?_) g31
          have w0A : A3 w0 = A w0 := gF.1 w0 (by omega) (by omega) (by omega) (by omega) (by omega)
          have A35 : A3 5 = A 5 := gF.1 5 (by omega) (by omega) (by omega) (by omega) (by omega)
          refine lpx_up (fun l z => ∃ b : Nat, (b = 1 ∨ b = 0) ∧ z = (nI u, nI p, nI b, nI l, A3, B) ∧ (b = 1 ↔ ∀ k, k < l → nd h u k ≤ dg (seB t) p k)) 8 ?_ ?_ 0 _ (Nat.zero_le _) ⟨1, Or.inl rfl, rfl, fun _ k hk => absurd hk (Nat.not_lt_zero k), fun _ => rfl⟩
          · rintro z k4 ⟨b, hb1, rfl, hbb⟩
            have e5 : (10 : Int32) * nI p + nI u = nI (10 * p + u) := by rw [show (10 : Int32) = nI 10 from rfl, pk_mul, nI_add]
            refine pk_le 8 8 (fun _ => ?_) (fun c => by omega)
            rw [e5]
            refine ⟨vp_in_nI (by omega) (by decide), ?_⟩
            rintro A6 rfl
            rw [nI_1, nI_clamp (by omega)]
            have eb1 : vp_nar .boolean (nI b) = if fitP h t p u then 1 else 0 := by
              rcases hb1 with rfl | rfl
              · rw [if_pos (hbb.mp rfl)]; decide
              · rw [if_neg (fun q => absurd (hbb.mpr q) (by decide))]; decide
            refine hk3 _ ⟨_, rfl, ⟨fun c g1 g2 g3 g4 g5 => (wI_n _ g5 _).trans (gF.1 c g1 g2 g3 g4 g5), gF.2⟩, gR, gb, g31, g32, gp, fun w q hw hq => ?_, fun q hq => ?_⟩
            · exact upd_n2 (by omega) (gf w q hw hq)
            · rcases Nat.lt_or_ge q p with c | c
              · exact upd_n2 (by omega) (gq q c)
              · rw [show q = p by omega]; exact (upd_s rfl).trans eb1
          · rintro l z k4 hl ⟨b, hb1, rfl, hbb⟩ hk4
            have hv9 : vp_in (nI l) 9 := vp_in_nI (by omega) (by decide)
            have hv25 : vp_in (nI l) 25 := vp_in_nI (by omega) (by decide)
            have hcl : (nI l).toNatClampNeg = l := nI_clamp (by omega)
            have e5 : (8 : Int32) * nI u + nI l = nI (8 * u + l) := by rw [show (8 : Int32) = nI 8 from rfl, pk_mul, nI_add]
            have hbl := hbs l (by omega)
            have hbp := bs_pos (seB t) l
            have hb13l := hb13 l hl
            have ebs : A3 20 (nI l).toNatClampNeg = nI (bs (seB t) l) := by rw [hcl]; exact gb l (by omega)
            have eB1 : A3 w0 (nI l).toNatClampNeg + (1 : Int32) = nI (seB t l + 1) := by rw [hcl, w0A, hB l hl, nI_1]
            have end0 : b = 0 ∨ ¬ nd h u l ≤ dg (seB t) p l → k4 (nI u, nI p, (0 : Int32), nI l + 1, A3, B) := fun hh => by
              rw [nI_1]
              refine hk4 _ ⟨0, Or.inr rfl, rfl, fun q => absurd q (by decide), fun q => ?_⟩
              rcases hh with rfl | hh
              · exact hbb.mpr (fun k hk => q k (by omega))
              · exact absurd (q l (by omega)) hh
            refine pk_le 8 l (fun c => by omega) (fun _ => ⟨fun c => end0 (Or.inl ?_), fun c => ⟨hv9, ?_⟩⟩)
            · rcases hb1 with rfl | rfl
              · exact absurd c no10
              · rfl
            · rw [ebs, eB1, e5]
              have hd1 : bs (seB t) l ≠ 0 := by omega
              refine ⟨fun e => hd1 ((nI_eq (b := 0) (by omega) (by decide)).mp e), hv25, fun e => ?_, vp_in_nI (by omega) (by decide), ?_⟩
              · exact absurd ((nI_eq (b := 0) (by omega) (by decide)).mp e) (by omega)
              · have hpd : p / bs (seB t) l ≤ p := Nat.div_le_self _ _
                have hN9 : A3 5 (nI (8 * u + l)).toNatClampNeg = nI (nd h u l) := by rw [nI_clamp (by omega), A35]; exact hN u hu l hl
                have hnd := nd_le h1 hu l
                have hdl : dg (seB t) p l ≤ seB t l := dg_le _ _ _
                rw [pk_div (by omega) hbp (by omega), pk_rem (by omega) (by omega) (by omega), hN9]
                refine pk_lt (dg (seB t) p l) (nd h u l) (fun c2 => end0 (Or.inr (by omega))) (fun c2 => ?_)
                have hb2 : b = 1 := by
                  rcases hb1 with rfl | rfl
                  · rfl
                  · exact absurd rfl c
                show k4 (nI u, nI p, (1 : Int32), nI l + 1, A3, B)
                rw [nI_1]
                refine hk4 _ ⟨1, Or.inl rfl, rfl, fun _ k hk9 => ?_, fun _ => rfl⟩
                rcases Nat.lt_or_ge k l with q | q
                · exact hbb.mp hb2 k q
                · rw [show k = l by omega]; exact c2
        · rcases Nat.lt_or_ge w u with q | q
          · exact gp w q
          · rw [show w = u by omega]; exact gu
      · rintro l z k2 hl ⟨A2, rfl, gF, gR, gb, g31, g32, gp, gu, gf⟩ hk2
        have hv10 : vp_in (nI u) 10 := vp_in_nI (by omega) (by decide)
        have e5 : (8 : Int32) * nI u + nI l = nI (8 * u + l) := by rw [show (8 : Int32) = nI 8 from rfl, pk_mul, nI_add]
        have A25 : A2 5 = A 5 := gF.1 5 (by omega) (by omega) (by omega) (by omega) (by omega)
        refine pk_le 8 l (fun c => by omega) (fun _ => ⟨hv10, vp_in_nI (by omega) (by decide), ?_⟩)
        rw [e5]
        refine ⟨vp_in_nI (by omega) (by decide), hv10, ?_⟩
        rintro A6 rfl
        rw [nI_1, nI_clamp (by omega), nI_clamp (by omega), nI_clamp (by omega), gu, gb l (by omega), A25, hN u hu l hl, pk_mul, nI_add]
        have ev : vl (seB t) (nd h u) l + bs (seB t) l * nd h u l = vl (seB t) (nd h u) (l + 1) := by
          show _ = vl (seB t) (nd h u) l + nd h u l * bs (seB t) l
          rw [Nat.mul_comm]
        rw [ev]
        refine hk2 _ ⟨_, rfl, ⟨fun c g1 g2 g3 g4 g5 => (wI_n _ g4 _).trans (gF.1 c g1 g2 g3 g4 g5), gF.2⟩, gR, gb, g31, g32, fun w hw => ?_, ?_, gf⟩
        · exact upd_n2 (by omega) (gp w hw)
        · exact upd_s rfl
      · exact (upd_n (f := A' 0) g2).trans (hF.2 k g1 g2)
      · exact (show A' 0 32 ||| nI s2 = nI (al ||| s2) from by rw [e32, nI_or])
      · show upd (A' 21) (nI u).toNatClampNeg 0 w = _
        rw [nI_clamp (by omega)]
        exact upd_n2 (by omega) (hp w hw)
      · show upd (A' 21) (nI u).toNatClampNeg 0 u = _
        rw [nI_clamp (by omega)]
        exact upd_s rfl
    refine pe_hasM (by omega) (by omega) (fun c => ⟨fun e => absurd e no10, fun _ => ?_⟩) (fun c => ⟨fun _ => ?_, fun e => absurd rfl e⟩)
    · refine rest 0 (by rw [Nat.or_zero]; exact hal) (fun w hw => ?_)
      rw [Nat.or_zero, hbits w hw]
      by_cases hwu : w = u
      · subst hwu; rw [show okB t w = false from by unfold okB; rw [c]; rfl, Bool.and_false, Bool.and_false]
      · rw [show decide (w < u) = decide (w < u + 1) from by simp; omega]
    · rw [shlI (by omega)]
      have h2u : 2 ^ u < 1024 := pow_lt31 (n := 10) (by omega)
      refine rest (2 ^ u) (or_lt (n := 10) hal h2u) (fun w hw => ?_)
      rw [tb_or2, hbits w hw]
      by_cases hwu : w = u
      · subst hwu; rw [show okB t w = true from by unfold okB; rw [c]; rfl]; simp
      · rw [show decide (w < u) = decide (w < u + 1) from by simp; omega, decide_eq_false (show ¬ u = w by omega), Bool.or_false]
  · exact (upd_n (f := upd (A' 0) 31 _) g2).trans ((upd_n (f := A' 0) g1).trans (hF.2 k g1 g2))
/-- what the reference's counting leaves alone -/
def frA (A A' : MI) : Prop := (∀ c, 0 < c → c < 19 → A' c = A c) ∧ ∀ k, k < 31 → A' 0 k = A 0 k
def frB (B B' : MJ) : Prop := ∀ c, c < 22 → B' c = B c
theorem frA_rfl {A : MI} : frA A A := ⟨fun _ _ _ => rfl, fun _ _ => rfl⟩
theorem frB_rfl {B : MJ} : frB B B := fun _ _ => rfl
theorem frA_tr {A A1 A2 : MI} (h : frA A A1) (g : frA A1 A2) : frA A A2 := ⟨fun c a b => (g.1 c a b).trans (h.1 c a b), fun k a => (g.2 k a).trans (h.2 k a)⟩
theorem frB_tr {B B1 B2 : MJ} (h : frB B B1) (g : frB B1 B2) : frB B B2 := fun c a => (g c a).trans (h c a)
theorem frL_A {A A' : MI} (h : frL A A') : frA A A' := ⟨fun c a b => h.1 c (by omega) (by omega) (by omega) (by omega) (by omega), fun k a => h.2 k (by omega) (by omega)⟩
/-- what the reference's words are, as counting needs them -/
def lexN (A : MI) (h : Ho) : Prop := A 0 2 = nI (hoW h) ∧ (∀ u, u < hoW h → A 4 u = nI (hoK h u)) ∧ ∀ u, u < hoW h → ∀ l, l < 8 → A 5 (8 * u + l) = nI (nd h u l)
theorem lexM_N {A : MI} {h : Ho} (h4 : lexM (A 0 2) (A 4) (A 3) (A 5) (A 2) h) : lexN A h := ⟨h4.1, fun u hu => (h4.2 u hu).1, fun u hu l hl => (h4.2 u hu).2.2.1 l hl⟩
theorem lexN_fr {A A' : MI} {h : Ho} (hf : frA A A') (hl : lexN A h) : lexN A' h := ⟨(hf.2 2 (by decide)).trans hl.1, fun u hu => by rw [hf.1 4 (by decide) (by decide)]; exact hl.2.1 u hu, fun u hu l h9 => by rw [hf.1 5 (by decide) (by decide)]; exact hl.2.2 u hu l h9⟩
theorem pe_all {h : Ho} {t : Se} {ok : Nat → Bool} {A : MI} {B : MJ} {Q : Int64 → MI → MJ → Prop} (h2 : seO h t) (e31 : A 0 31 = nI (tp t)) (hW : LW (B 22) h t ok) (hQ : Q (lN (V h t ok (tp t) 4)) A B) : P_X12_all A B Q := by
  have htp := tp_1944 h2
  have e5 : (5 : Int32) * A 0 31 + (4 : Int32) = nI (5 * tp t + 4) := by rw [e31, show (5 : Int32) = nI 5 from rfl, pk_mul, show (4 : Int32) = nI 4 from rfl, nI_add]
  show vp_in ((5 : Int32) * A 0 31 + (4 : Int32)) 9720 ∧ Q (B 22 ((5 : Int32) * A 0 31 + (4 : Int32)).toNatClampNeg) A B
  rw [e5]
  refine ⟨vp_in_nI (by omega) (by decide), ?_⟩
  rw [nI_clamp (by omega), hW _ _ (Nat.le_refl _) (Nat.le_refl 4) (Or.inr rfl)]
  exact hQ
theorem pe_manyOf {w0 : Nat} {h : Ho} {t : Se} {A : MI} {B : MJ} {Q : Int64 → MI → MJ → Prop} (h0 : w0 = 6 ∨ w0 = 7) (h1 : hoOK h) (h2 : seO h t) (hl : lexN A h) (hr : rowM (A w0) 0 h t)
    (hQ : ∀ (A' : MI) (B' : MJ), frA A A' → frB B B' → Lk (A' 0) (A' 19) (A' 21) (A' 26) h t (okB t) → LW (B' 22) h t (okB t) → Q (lN (V h t (okB t) (tp t) 4)) A' B') : P_X12_manyOf w0 A B Q := by
  refine pe_look h0 h1 h2 hl.1 hl.2.2 hr (fun A' hF hL => ?_)
  have hl' := lexN_fr (frL_A hF) hl
  refine pe_layWays h1 h2 hl'.1 hl'.2.1 hL (fun B' hB hW => ?_)
  refine pe_all h2 hL.1 hW (hQ A' B' (frL_A hF) (fun c hc => hB c (by omega)) hL hW)
