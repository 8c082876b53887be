theorem s_about : st_about Sim := by
  intro a I J A B hs
  obtain ⟨h, t, hH⟩ := Sim_H.mp hs
  obtain ⟨h1, h2, h3, h4, h5, h6, h7, h8, h9, h10, h11, h12, h13, h14, h15⟩ := id hH
  have hX : CX I J h t := ⟨lexX_C h3, h5⟩
  have hw10 := h1.1
  have hb12 : ∀ l, l < 8 → seB t l ≤ 13 := fun l hl => Nat.le_trans (sm_le _ hl) (Nat.le_trans h2.1 (by decide))
  have hS : ∀ (A' : MI) (B' : MJ), frM A A' B B' → Sim I J A' B' := fun A' B' fM => Sim_ph hH frC_rfl fM h14 h15.1
  have hlN := lexM_N h4
  have look : ∀ (K : MI → MJ → Prop), (∀ A1 : MI, frL A A1 → Lk (A1 0) (A1 19) (A1 21) (A1 26) h t (okB t) → K A1 B) → P_X12_look 6 A B K := fun K hK => pe_look (Or.inl rfl) h1 (seOK_O h2) hlN.1 hlN.2.2 h6 hK
  have row6 : ∀ A1 : MI, frL A A1 → rowM (A1 6) 0 h t := fun A1 fL => by rw [fL.1 6 (by decide) (by decide) (by decide) (by decide) (by decide)]; exact h6
  obtain ⟨kd, qd, tsd, d1, d2, d3, d4, d5, d6, d7⟩ := id h8
  obtain ⟨kt, t1, t2, t3, t4⟩ := id h7
  obtain ⟨kr, r1, r2, r3, r4⟩ := id h11
  obtain ⟨ks, s1, s2, s3, s4⟩ := id h12
  refine ⟨fun c => ?_, fun n0 => ⟨fun c => ?_, fun n1 => ⟨fun c => ?_, fun n2 => ⟨fun c => ?_, fun n3 => ⟨fun c => ?_, fun n4 => ⟨fun c => ?_, fun n5 => ⟨fun c => ?_, fun n6 => ⟨fun c => ?_, fun n7 => ⟨fun c => ?_, fun n8 => ⟨fun c => ?_, fun n9 => ⟨fun c => ?_, fun n10 => ⟨fun c => ?_, fun n11 => ⟨fun c => ?_, fun n12 => ⟨fun c => ?_, fun n13 => ?_⟩⟩⟩⟩⟩⟩⟩⟩⟩⟩⟩⟩⟩⟩
  · -- 0
    subst c
    refine look _ (fun A1 fL hL => ⟨fun _ => ?_, fun e => absurd rfl e⟩)
    have fM := frM_of (frL_A fL) (frB_rfl (B := B))
    exact ⟨(h3.1).trans (((frL_A fL).2 2 (by decide)).trans h4.1).symm, hS A1 B fM⟩
  · -- 1
    subst c
    refine pe_letters (f := seB t) h5.1 ?_
    refine look _ (fun A1 fL hL => ⟨fun e => absurd e (by decide), fun _ => ⟨fun _ => ?_, fun e => absurd rfl e⟩⟩)
    have fM := frM_of (frL_A fL) (frB_rfl (B := B))
    exact pe_bagOf (f := seB t) (fun l hl => by have := (row6 A1 fL).1 l hl; rwa [Nat.zero_add] at this) ⟨rfl, hS A1 B fM⟩
  · -- 2
    subst c
    refine pe_unlikeX (f := seB t) h5.1 hb12 ?_
    refine look _ (fun A1 fL hL => ⟨fun e => absurd e (by decide), fun _ => ⟨fun e => absurd e (by decide), fun _ => ⟨fun _ => ?_, fun e => absurd rfl e⟩⟩⟩)
    have fM := frM_of (frL_A fL) (frB_rfl (B := B))
    exact pe_unlikeM (f := seB t) (fun l hl => by have := (row6 A1 fL).1 l hl; rwa [Nat.zero_add] at this) hb12 ⟨rfl, hS A1 B fM⟩
  · -- 3
    subst c
    refine look _ (fun A1 fL hL => ⟨fun e => absurd e (by decide), fun _ => ⟨fun e => absurd e (by decide), fun _ => ⟨fun e => absurd e (by decide), fun _ => ⟨fun _ => ?_, fun e => absurd rfl e⟩⟩⟩⟩)
    have fM := frM_of (frL_A fL) (frB_rfl (B := B))
    exact ⟨vp_in_nI (n := 8) (by decide) (by decide), (h5.2.2.2.2.2).trans ((row6 A1 fL).2.2.2.2.2).symm, hS A1 B fM⟩
  · -- 4
    subst c
    refine look _ (fun A1 fL hL => ⟨fun e => absurd e (by decide), fun _ => ⟨fun e => absurd e (by decide), fun _ => ⟨fun e => absurd e (by decide), fun _ => ⟨fun e => absurd e (by decide), fun _ => ⟨fun _ => ?_, fun e => absurd rfl e⟩⟩⟩⟩⟩)
    have fM := frM_of (frL_A fL) (frB_rfl (B := B))
    exact ⟨vp_in_nI (n := 19) (by decide) (by decide), (h5.2.2.2.1).trans ((row6 A1 fL).2.2.2.1).symm, hS A1 B fM⟩
  · -- 5
    subst c
    refine look _ (fun A1 fL hL => ⟨fun e => absurd e (by decide), fun _ => ⟨fun e => absurd e (by decide), fun _ => ⟨fun e => absurd e (by decide), fun _ => ⟨fun e => absurd e (by decide), fun _ => ⟨fun e => absurd e (by decide), fun _ => ⟨fun _ => ?_, fun e => absurd rfl e⟩⟩⟩⟩⟩⟩)
    have fM := frM_of (frL_A fL) (frB_rfl (B := B))
    exact ⟨vp_in_nI (n := 20) (by decide) (by decide), (h5.2.2.2.2.1).trans ((row6 A1 fL).2.2.2.2.1).symm, hS A1 B fM⟩
  · -- 6
    subst c
    refine pe_fitting h1 h2 hX (fun m hm hb => ?_)
    refine look _ (fun A1 fL hL => ⟨fun e => absurd e (by decide), fun _ => ⟨fun e => absurd e (by decide), fun _ => ⟨fun e => absurd e (by decide), fun _ => ⟨fun e => absurd e (by decide), fun _ => ⟨fun e => absurd e (by decide), fun _ => ⟨fun e => absurd e (by decide), fun _ => ⟨fun _ => ?_, fun e => absurd rfl e⟩⟩⟩⟩⟩⟩⟩)
    have fM := frM_of (frL_A fL) (frB_rfl (B := B))
    exact pe_makeable h1 h2 (lexN_fr (frL_A fL) hlN) (row6 A1 fL) (fun m2 hm2 hb2 => ⟨by rw [mask_uniq hm hm2 (fun w hw => (hb w hw).trans (hb2 w hw).symm)], hS A1 B fM⟩)
  · -- 7
    subst c
    refine pe_wordsIn h1 h2 hX h15.1 (fun I1 J1 m f1 p1 hm hb => ?_)
    have f1N := frR_N f1
    refine look _ (fun A1 fL hL => ⟨fun e => absurd e (by decide), fun _ => ⟨fun e => absurd e (by decide), fun _ => ⟨fun e => absurd e (by decide), fun _ => ⟨fun e => absurd e (by decide), fun _ => ⟨fun e => absurd e (by decide), fun _ => ⟨fun e => absurd e (by decide), fun _ => ⟨fun e => absurd e (by decide), fun _ => ⟨fun _ => ?_, fun e => absurd rfl e⟩⟩⟩⟩⟩⟩⟩⟩)
    refine pe_inPhrases h1 h2 (lexN_fr (frL_A fL) hlN) (row6 A1 fL) (fun A2 B2 m2 fA fB hm2 hb2 => ⟨by rw [mask_uniq hm hm2 (fun w hw => (hb w hw).trans (hb2 w hw).symm)], ?_⟩)
    exact Sim_ph hH f1N.1 (frM_of (frA_tr (frL_A fL) fA) fB) (frN_sw f1N h14) (Or.inr p1)
  · -- 8
    subst c
    refine pe_fewest h1 h2 hX h15.1 h14 (fun I1 J1 x f1 w1 p1 hx => ?_)
    refine look _ (fun A1 fL hL => ⟨fun e => absurd e (by decide), fun _ => ⟨fun e => absurd e (by decide), fun _ => ⟨fun e => absurd e (by decide), fun _ => ⟨fun e => absurd e (by decide), fun _ => ⟨fun e => absurd e (by decide), fun _ => ⟨fun e => absurd e (by decide), fun _ => ⟨fun e => absurd e (by decide), fun _ => ⟨fun e => absurd e (by decide), fun _ => ⟨fun _ => ?_, fun e => absurd rfl e⟩⟩⟩⟩⟩⟩⟩⟩⟩)
    refine pe_few (most := 0) h1 h2 (lexN_fr (frL_A fL) hlN) hL (by decide) (fun B2 y fB y1 y2 => ⟨fsP_uniq2 hx (y1 rfl), ?_⟩)
    exact Sim_ph hH f1 (frM_of (frL_A fL) fB) w1 (Or.inr p1)
  · -- 9
    subst c
    refine pe_most h1 h2 hX h15.1 h14 (fun I1 J1 x f1 w1 p1 hx => ?_)
    refine look _ (fun A1 fL hL => ⟨fun e => absurd e (by decide), fun _ => ⟨fun e => absurd e (by decide), fun _ => ⟨fun e => absurd e (by decide), fun _ => ⟨fun e => absurd e (by decide), fun _ => ⟨fun e => absurd e (by decide), fun _ => ⟨fun e => absurd e (by decide), fun _ => ⟨fun e => absurd e (by decide), fun _ => ⟨fun e => absurd e (by decide), fun _ => ⟨fun e => absurd e (by decide), fun _ => ⟨fun _ => ?_, fun e => absurd rfl e⟩⟩⟩⟩⟩⟩⟩⟩⟩⟩)
    refine pe_few (most := 1) h1 h2 (lexN_fr (frL_A fL) hlN) hL (by decide) (fun B2 y fB y1 y2 => ⟨lsP_uniq hx (y2 rfl), ?_⟩)
    exact Sim_ph hH f1 (frM_of (frL_A fL) fB) w1 (Or.inr p1)
  · -- 10
    subst c
    refine look _ (fun A1 fL hL => ⟨fun e => absurd e (by decide), fun _ => ⟨fun e => absurd e (by decide), fun _ => ⟨fun e => absurd e (by decide), fun _ => ⟨fun e => absurd e (by decide), fun _ => ⟨fun e => absurd e (by decide), fun _ => ⟨fun e => absurd e (by decide), fun _ => ⟨fun e => absurd e (by decide), fun _ => ⟨fun e => absurd e (by decide), fun _ => ⟨fun e => absurd e (by decide), fun _ => ⟨fun e => absurd e (by decide), fun _ => ⟨fun _ => ?_, fun e => absurd rfl e⟩⟩⟩⟩⟩⟩⟩⟩⟩⟩⟩)
    have fM := frM_of (frL_A fL) (frB_rfl (B := B))
    exact ⟨d3.trans (((frL_A fL).2 10 (by decide)).trans d4).symm, hS A1 B fM⟩
  · -- 11
    subst c
    refine look _ (fun A1 fL hL => ⟨fun e => absurd e (by decide), fun _ => ⟨fun e => absurd e (by decide), fun _ => ⟨fun e => absurd e (by decide), fun _ => ⟨fun e => absurd e (by decide), fun _ => ⟨fun e => absurd e (by decide), fun _ => ⟨fun e => absurd e (by decide), fun _ => ⟨fun e => absurd e (by decide), fun _ => ⟨fun e => absurd e (by decide), fun _ => ⟨fun e => absurd e (by decide), fun _ => ⟨fun e => absurd e (by decide), fun _ => ⟨fun e => absurd e (by decide), fun _ => ⟨fun _ => ?_, fun e => absurd rfl e⟩⟩⟩⟩⟩⟩⟩⟩⟩⟩⟩⟩)
    have fM := frM_of (frL_A fL) (frB_rfl (B := B))
    exact ⟨s2.trans (((frL_A fL).2 19 (by decide)).trans s3).symm, hS A1 B fM⟩
  · -- 12
    subst c
    refine look _ (fun A1 fL hL => ⟨fun e => absurd e (by decide), fun _ => ⟨fun e => absurd e (by decide), fun _ => ⟨fun e => absurd e (by decide), fun _ => ⟨fun e => absurd e (by decide), fun _ => ⟨fun e => absurd e (by decide), fun _ => ⟨fun e => absurd e (by decide), fun _ => ⟨fun e => absurd e (by decide), fun _ => ⟨fun e => absurd e (by decide), fun _ => ⟨fun e => absurd e (by decide), fun _ => ⟨fun e => absurd e (by decide), fun _ => ⟨fun e => absurd e (by decide), fun _ => ⟨fun e => absurd e (by decide), fun _ => ⟨fun _ => ?_, fun e => absurd rfl e⟩⟩⟩⟩⟩⟩⟩⟩⟩⟩⟩⟩⟩)
    have fM := frM_of (frL_A fL) (frB_rfl (B := B))
    exact ⟨t2.trans (((frL_A fL).2 1 (by decide)).trans t3).symm, hS A1 B fM⟩
  · -- 13
    subst c
    refine look _ (fun A1 fL hL => ⟨fun e => absurd e (by decide), fun _ => ⟨fun e => absurd e (by decide), fun _ => ⟨fun e => absurd e (by decide), fun _ => ⟨fun e => absurd e (by decide), fun _ => ⟨fun e => absurd e (by decide), fun _ => ⟨fun e => absurd e (by decide), fun _ => ⟨fun e => absurd e (by decide), fun _ => ⟨fun e => absurd e (by decide), fun _ => ⟨fun e => absurd e (by decide), fun _ => ⟨fun e => absurd e (by decide), fun _ => ⟨fun e => absurd e (by decide), fun _ => ⟨fun e => absurd e (by decide), fun _ => ⟨fun e => absurd e (by decide), fun _ => ⟨fun _ => ?_, fun e => absurd rfl e⟩⟩⟩⟩⟩⟩⟩⟩⟩⟩⟩⟩⟩⟩)
    have fM := frM_of (frL_A fL) (frB_rfl (B := B))
    exact ⟨r2.trans (((frL_A fL).2 15 (by decide)).trans r3).symm, hS A1 B fM⟩
  · exact look _ (fun A1 fL hL => ⟨fun e => absurd e n0, fun _ => ⟨fun e => absurd e n1, fun _ => ⟨fun e => absurd e n2, fun _ => ⟨fun e => absurd e n3, fun _ => ⟨fun e => absurd e n4, fun _ => ⟨fun e => absurd e n5, fun _ => ⟨fun e => absurd e n6, fun _ => ⟨fun e => absurd e n7, fun _ => ⟨fun e => absurd e n8, fun _ => ⟨fun e => absurd e n9, fun _ => ⟨fun e => absurd e n10, fun _ => ⟨fun e => absurd e n11, fun _ => ⟨fun e => absurd e n12, fun _ => ⟨fun e => absurd e n13, fun _ => ⟨rfl, hS A1 B (frM_of (frL_A fL) (frB_rfl (B := B)))⟩⟩⟩⟩⟩⟩⟩⟩⟩⟩⟩⟩⟩⟩⟩)
