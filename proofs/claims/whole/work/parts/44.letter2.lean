theorem s_letter : st_letter Sim := by
  intro a w I J A B hs
  obtain ⟨h, t, h1, h2, h3, h4, h5, h6, h7, h8, h9, h10, h11, h12, h13, h14, h15⟩ := id hs
  refine pe_isLetterX (fun ha => ⟨fun c => absurd c (by decide), fun _ => ?_⟩) (fun ha => ⟨fun _ => pe_isLetterM (fun c => absurd c ha) (fun _ => ⟨fun _ => ⟨rfl, hs⟩, fun c => absurd rfl c⟩), fun c => absurd rfl c⟩)
  obtain ⟨x, hx, rfl⟩ := id ha
  have hc : (nI x).toNatClampNeg = x := nI_clamp (by omega)
  have hb6 : A 6 x = nI (seB t x) := by have := h6.1 x hx; rwa [Nat.zero_add] at this
  -- the reference, once the letter is one and, for what = 2, a kind
  have href : ∀ r : Int32, (w = 2 → isW 4 (nI x)) → P_X12_letter_21 (fun r2 I2 J2 => r = r2 ∧ Sim I J I2 J2) (nI x) w A B → P_X12_letter (nI x) w A B (fun r2 I2 J2 => r = r2 ∧ Sim I J I2 J2) := fun r hk hp =>
    pe_isLetterM (fun _ => ⟨fun c => absurd c (by decide), fun _ => ⟨fun _ => hp, fun c => pe_isKindM (fun _ => ⟨fun _ => hp, fun c => absurd c (by decide)⟩) (fun n => absurd (hk c) n)⟩⟩) (fun c => absurd ha c)
  have hcore : (w = 2 → isW 4 (nI x)) → P_X11_letter_21 (fun r I J => P_X12_letter (nI x) w A B (fun r2 I2 J2 => r = r2 ∧ Sim I J I2 J2)) (nI x) w I J := by
    intro hk
    refine ⟨fun c0 => ⟨vp_in_nI hx (by decide), href _ hk ?_⟩, fun c0 => ⟨fun c1 => pe_wordsWith (k := 12) h1 h3.1 (fun u hu => (h3.2 u hu).2.2.1) hx (href _ hk ?_), fun c1 => ⟨fun c2 => ?_, fun c2 => href _ hk ?_⟩⟩⟩
    · exact ⟨fun _ => ⟨vp_in_nI (by omega) (by decide), by rw [hc, hb6]; exact h5.1 x hx, hs⟩, fun c => absurd c0 c⟩
    · exact ⟨fun c => absurd c c0, fun _ => ⟨fun _ => pe_havers h1 h4.1 (fun u hu => (h4.2 u hu).2.2.1 x hx) hx ⟨rfl, hs⟩, fun c => absurd c1 c⟩⟩
    · obtain ⟨y, hy, e⟩ := hk c2
      have hxy : x = y := (nI_eq (by omega) (by omega)).mp e
      have hx4 : x < 4 := by omega
      refine ⟨vp_in_nI hx4 (by decide), href _ hk ?_⟩
      have e9 : (21 : Int32) + nI x = nI (21 + x) := by rw [show (21 : Int32) = nI 21 from rfl, nI_add]
      have e8 : A 6 (21 + x) = nI (seF t x) := by have := h6.2.2.1 x hx4; rwa [Nat.zero_add] at this
      exact ⟨fun c => absurd c c0, fun _ => ⟨fun c => absurd c c1, fun _ => ⟨fun _ => ⟨by rw [e9]; exact vp_in_nI (by omega) (by decide), by rw [hc, e9, nI_clamp (by omega), e8]; exact h5.2.2.1 x hx4, hs⟩, fun c => absurd c2 c⟩⟩⟩
    · exact ⟨fun c => absurd c c0, fun _ => ⟨fun c => absurd c c1, fun _ => ⟨fun c => absurd c c2, fun _ => ⟨rfl, hs⟩⟩⟩⟩
  refine ⟨fun c => hcore (fun e => absurd e c), fun c => pe_isKindX (fun hk => ⟨fun _ => hcore (fun _ => hk), fun c => absurd c (by decide)⟩) (fun hk => ⟨fun c => absurd rfl c, fun _ => ?_⟩)⟩
  exact pe_isLetterM (fun _ => ⟨fun c => absurd c (by decide), fun _ => ⟨fun n => absurd c n, fun _ => pe_isKindM (fun k => absurd k hk) (fun _ => ⟨fun c => absurd rfl c, fun _ => ⟨rfl, hs⟩⟩)⟩⟩) (fun n => absurd ha n)
