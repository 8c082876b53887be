def sq (ch : Nat → Nat) : Nat → St
  | 0 => (0, 0, (0, fun _ => 0, fun _ => 0, fun _ _ => 0), (fun _ => 0, fun _ => 0, fun _ => 0, 0, 0, 0))
  | j + 1 => rnx (sq ch j) (ch j)
theorem sq_ok {ch : Nat → Nat} {j0 : Nat} (hy : ∀ j, j < j0 → rok (sq ch j) (ch j)) : ∀ j, j ≤ j0 → pOK (sq ch j).1 (sq ch j).2.1 (sq ch j).2.2.1 (sq ch j).2.2.2 := by
  intro j
  induction j with
  | zero =>
    intro _
    show pOK 0 0 (0, fun _ => 0, fun _ => 0, fun _ _ => 0) (fun _ => 0, fun _ => 0, fun _ => 0, 0, 0, 0)
    exact ⟨Nat.zero_le _, Nat.zero_le _, fun q => absurd q (by decide), fun u hu => absurd hu (Nat.not_lt_zero u), fun u hu => absurd hu (Nat.not_lt_zero u), fun u hu => absurd hu (Nat.not_lt_zero u), by decide, fun q => absurd q (by decide), fun _ _ => (by decide : 0 < 16), by decide, by decide, rfl, fun q => absurd q (by decide)⟩
  | succ j ih => intro hj; exact pOK_next (ih (by omega)) (hy j (by omega))
theorem sq_ex (ch : Nat → Nat) (k : Nat) : ∃ j0, j0 ≤ k ∧ (∀ j, j < j0 → rok (sq ch j) (ch j)) ∧ (j0 < k → ¬ rok (sq ch j0) (ch j0)) := by
  by_cases hall : ∀ j, j < k → rok (sq ch j) (ch j)
  · exact ⟨k, Nat.le_refl k, hall, fun e => absurd e (Nat.lt_irrefl k)⟩
  · have hex : ∃ i, i < k ∧ ¬ rok (sq ch i) (ch i) := by
      apply Classical.byContradiction; intro hno
      exact hall (fun j hj => Classical.byContradiction (fun hn => hno ⟨j, hj, hn⟩))
    obtain ⟨i, ⟨hi, hn⟩, hmin⟩ := pk_least _ hex
    exact ⟨i, by omega, fun j hj => Classical.byContradiction (fun hn => hmin j hj ⟨by omega, hn⟩), fun _ => hn⟩
/-- what both answer of a text -/
def rdA (ch : Nat → Nat) (k j0 : Nat) : Int32 := if j0 < k then nI j0 else if (sq ch k).1 = 0 then -9 else nI k
theorem pe_firstFault {ch : Nat → Nat} {k j0 : Nat} {I : MI} {J : MJ} {Q : Int32 → MI → MJ → Prop} (hk : k ≤ 180) (ek : I 1 3 = nI k) (hch : ∀ j, j < k → ch j ≤ 255 ∧ I 2 j = nI (ch j)) (hj0 : j0 ≤ k) (hy : ∀ j, j < j0 → rok (sq ch j) (ch j)) (hn : j0 < k → ¬ rok (sq ch j0) (ch j0))
    (hQ : ∀ (I' : MI) (J' : MJ), frRd I I' J J' → (j0 = k → mX I' J' (sq ch k).1 (sq ch k).2.1 (sq ch k).2.2.1 (sq ch k).2.2.2) → Q (rdA ch k j0) I' J') : P_X7_firstFault I J Q := by
  rintro I5 rfl
  -- blank
  refine lpx_up (fun i z => ∃ I' : MI, z = (nI i, I', J) ∧ (∀ c, c ≠ 9 → I' c = mI I 3 4 0 c) ∧ ∀ l, l < i → I' 9 l = 0) 8 ?_ ?_ 0 _ (Nat.zero_le _) ⟨_, rfl, fun _ _ => rfl, fun l hl => absurd hl (Nat.not_lt_zero l)⟩
  rotate_left
  · rintro i z kk hi ⟨I', rfl, g1, g2⟩ hkk
    refine pk_le 8 i (fun c => by omega) (fun _ => ⟨vp_in_nI hi (by decide), ?_⟩)
    rintro I14 rfl
    rw [nI_1, nI_clamp (by omega)]
    refine hkk _ ⟨_, rfl, fun c hc => (wI_n _ hc _).trans (g1 c hc), fun l hl => ?_⟩
    show upd (I' 9) i 0 l = 0
    by_cases e : l = i
    · rw [upd_s e]
    · rw [upd_n e]; exact g2 l (by omega)
  rintro z kk ⟨I1, rfl, g1, g2⟩
  refine pk_le 8 8 (fun _ => ?_) (fun c => by omega)
  refine lpx_up (fun i z => ∃ I' : MI, z = (nI i, I', J) ∧ (∀ c, c ≠ 11 → I' c = I1 c) ∧ ∀ l, l < i → I' 11 l = 0) 4 ?_ ?_ 0 _ (Nat.zero_le _) ⟨_, rfl, fun _ _ => rfl, fun l hl => absurd hl (Nat.not_lt_zero l)⟩
  rotate_left
  · rintro i z k2 hi ⟨I', rfl, h1, h2⟩ hk2
    refine pk_le 4 i (fun c => by omega) (fun _ => ⟨vp_in_nI hi (by decide), ?_⟩)
    rintro I34 rfl
    rw [nI_1, nI_clamp (by omega)]
    refine hk2 _ ⟨_, rfl, fun c hc => (wI_n _ hc _).trans (h1 c hc), fun l hl => ?_⟩
    show upd (I' 11) i 0 l = 0
    by_cases e : l = i
    · rw [upd_s e]
    · rw [upd_n e]; exact h2 l (by omega)
  rintro z k2 ⟨I2, rfl, h1, h2⟩
  refine pk_le 4 4 (fun _ => ?_) (fun c => by omega)
  rintro I43 rfl I48 rfl I17 rfl
  have base : ∀ c, c ≠ 9 → c ≠ 11 → I2 c = mI I 3 4 0 c := fun c c1 c2 => (h1 c c2).trans (g1 c c1)
  have fr0 : frRd I (mI (mI (mI I2 8 3 0) 8 4 0) 1 4 0) J J := by
    refine ⟨fun c hc => ?_, ?_, ?_, fun _ _ => rfl⟩
    · exact (wI_n _ (by omega) _).trans ((wI_n _ (by omega) _).trans ((wI_n _ (by omega) _).trans ((base c (by omega) (by omega)).trans (wI_n _ (by omega) _))))
    · show I2 1 3 = _; rw [base 1 (by decide) (by decide)]; rfl
    · show I2 8 5 = _; rw [base 8 (by decide) (by decide)]; rfl
  have mX0 : mX (mI (mI (mI I2 8 3 0) 8 4 0) 1 4 0) J (sq ch 0).1 (sq ch 0).2.1 (sq ch 0).2.2.1 (sq ch 0).2.2.2 := by
    refine ⟨rfl, fun q => absurd q (show ¬ (0 : Nat) = 7 by decide), ?_, fun u hu => absurd hu (Nat.not_lt_zero u), fun u hu => absurd hu (Nat.not_lt_zero u), fun l hl => ?_, fun u hu => absurd hu (Nat.not_lt_zero u), fun a ha => h2 a ha, rfl, rfl⟩
    · show I2 3 4 = _; rw [base 3 (by decide) (by decide)]; rfl
    · show I2 9 l = _
      rw [h1 9 (by decide)]; exact g2 l hl
  refine lpx_up (fun j z => ∃ (I' : MI) (J' : MJ), z = (nI j, I', J') ∧ frRd I I' J J' ∧ mX I' J' (sq ch j).1 (sq ch j).2.1 (sq ch j).2.2.1 (sq ch j).2.2.2) j0 ?_ ?_ 0 _ (Nat.zero_le _) ⟨_, J, rfl, fr0, mX0⟩
  · rintro z k3 ⟨I', J', rfl, f, m⟩
    have e13 : I' 1 3 = nI k := f.2.1.trans ek
    have hp := sq_ok hy j0 (Nat.le_refl _)
    rcases Nat.lt_or_ge j0 k with hlt | hge
    · obtain ⟨c255, ec⟩ := hch j0 hlt
      refine pk_le k j0 (fun c => by omega) (fun _ => ⟨vp_in_nI (by omega) (by decide), ?_⟩) e13
      rw [nI_clamp (by omega), f.1 2 (by decide), ec]
      refine pe_reads m hp c255 (fun I3 J3 _ hr _ => absurd hr (hn hlt)) (fun I3 J3 f3 _ => ⟨fun e => absurd rfl e, fun _ => ?_⟩)
      have := hQ I3 J3 (frRd_tr f f3) (fun e => by omega)
      unfold rdA at this; rw [if_pos hlt] at this; exact this
    · obtain rfl : j0 = k := by omega
      have := hQ I' J' f (fun _ => m)
      unfold rdA at this; rw [if_neg (Nat.lt_irrefl _)] at this
      refine pk_le j0 j0 (fun _ => ?_) (fun c => by omega) e13
      rw [m.1, e13]
      refine ⟨fun c => ?_, fun c => ?_⟩
      · rw [if_neg (fun e => c (by rw [e]; rfl))] at this; exact this
      · rw [if_pos ((nI_eq (b := 0) (by have := hp.1; omega) (by decide)).mp c)] at this; exact this
  · rintro j z k3 hj ⟨I', J', rfl, f, m⟩ hk3
    have e13 : I' 1 3 = nI k := f.2.1.trans ek
    obtain ⟨c255, ec⟩ := hch j (by omega)
    refine pk_le k j (fun c => by omega) (fun _ => ⟨vp_in_nI (by omega) (by decide), ?_⟩) e13
    rw [nI_clamp (by omega), f.1 2 (by decide), ec]
    refine pe_reads m (sq_ok hy j (by omega)) c255 (fun I3 J3 f3 _ m3 => ⟨fun _ => ?_, fun e => absurd e no10⟩) (fun I3 J3 _ hr => absurd (hy j hj) hr)
    rw [nI_1]
    exact hk3 _ ⟨I3, J3, rfl, frRd_tr f f3, m3⟩
theorem pe_readText {ch : Nat → Nat} {k j0 : Nat} {A : MI} {B : MJ} {Q : Int32 → MI → MJ → Prop} (hk : k ≤ 180) (ek : A 0 1 = nI k) (hch : ∀ j, j < k → ch j ≤ 255 ∧ A 1 j = nI (ch j)) (hj0 : j0 ≤ k) (hy : ∀ j, j < j0 → rok (sq ch j) (ch j)) (hn : j0 < k → ¬ rok (sq ch j0) (ch j0))
    (hQ : ∀ A' : MI, frTk A A' → (j0 = k → mM A' (sq ch k).1 (sq ch k).2.1 (sq ch k).2.2.1 (sq ch k).2.2.2) → Q (rdA ch k j0) A' B) : P_X12_readText A B Q := by
  rintro A2 rfl
  refine lpx_up (fun i z => ∃ f : Nat → Int32, z = (nI i, wI (mI A 0 21 0) 18 f, B) ∧ ∀ j, j < i → f j = 0) 25 ?_ ?_ 0 _ (Nat.zero_le _) ⟨mI A 0 21 0 18, by rw [wI_self]; rfl, fun j hj => absurd hj (Nat.not_lt_zero j)⟩
  rotate_left
  · rintro i z kk hi ⟨f, rfl, hf⟩ hkk
    refine pk_le 25 i (fun c => by omega) (fun _ => ⟨vp_in_nI hi (by decide), ?_⟩)
    rintro A11 rfl
    rw [nI_1, nI_clamp (by omega)]
    refine hkk _ ⟨upd f i 0, ?_, fun j hj => ?_⟩
    · show (_, wI (wI (mI A 0 21 0) 18 f) 18 (upd (wI (mI A 0 21 0) 18 f 18) i 0), B) = _
      rw [wI_wI, wI_s]
    · by_cases e : j = i
      · rw [upd_s e]
      · rw [upd_n e]; exact hf j (by omega)
  rintro z kk ⟨f, rfl, hf⟩
  refine pk_le 25 25 (fun _ => ?_) (fun c => by omega)
  rintro A14 rfl
  have fr0 : frTk A (mI (wI (mI A 0 21 0) 18 f) 0 27 0) := frTk_0 (by decide) ⟨fun c hc => (wI_n _ (by omega) _).trans (wI_n _ (by omega) _), fun j hj => (mI_s A 0 21 0 j).trans (upd_n (by omega))⟩
  have mM0 : mM (mI (wI (mI A 0 21 0) 18 f) 0 27 0) (sq ch 0).1 (sq ch 0).2.1 (sq ch 0).2.2.1 (sq ch 0).2.2.2 := ⟨rfl, rfl, fun q => absurd rfl q, fun q => absurd q (show ¬ (0 : Nat) = 7 by decide), fun u hu => absurd hu (Nat.not_lt_zero u), fun u hu => absurd hu (Nat.not_lt_zero u), fun l hl => hf l (by omega), fun u hu => absurd hu (Nat.not_lt_zero u), fun a ha => hf _ (by omega), hf 19 (by decide), hf 20 (by decide), hf 8 (by decide)⟩
  refine lpx_up (fun j z => ∃ A' : MI, z = (nI j, A', B) ∧ frTk A A' ∧ mM A' (sq ch j).1 (sq ch j).2.1 (sq ch j).2.2.1 (sq ch j).2.2.2) j0 ?_ ?_ 0 _ (Nat.zero_le _) ⟨_, rfl, fr0, mM0⟩
  · rintro z k3 ⟨A', rfl, fr, m⟩
    have e01 : A' 0 1 = nI k := (fr.2 1 (by decide)).trans ek
    have hp := sq_ok hy j0 (Nat.le_refl _)
    have hpl : (A' 0 27 = 0 ↔ (sq ch j0).1 = 0) := by
      rw [m.2.1]
      unfold plc
      have := hp.1
      constructor
      · intro e
        by_cases h0 : (sq ch j0).1 = 0
        · exact h0
        · rw [if_neg h0] at e
          split at e
          · exact absurd e (by decide)
          · exact absurd e (by decide)
      · intro e; rw [if_pos e]; rfl
    rcases Nat.lt_or_ge j0 k with hlt | hge
    · obtain ⟨c255, ec⟩ := hch j0 hlt
      have hq : ∀ A3 : MI, frTk A A3 → Q (nI j0) A3 B := fun A3 f3 => by
        have := hQ A3 f3 (fun e => by omega)
        unfold rdA at this; rw [if_pos hlt] at this; exact this
      have e1 : A' 1 j0 = nI (ch j0) := by rw [fr.1 1 (by decide)]; exact ec
      refine pk_le k j0 (fun c => by omega) (fun _ => ⟨fun c => ⟨vp_in_nI (by omega) (by decide), ?_⟩, fun c => ⟨vp_in_nI (by omega) (by decide), ?_⟩⟩) e01
      · rw [nI_clamp (by omega), e1]
        exact (pe_takes m hp c255 (fun A3 _ hr _ => absurd hr (hn hlt)) (fun A3 f3 _ => ⟨fun e => absurd rfl e, fun _ => hq A3 (frTk_tr fr f3)⟩)).2 (fun e => c (hpl.mpr e))
      · rw [nI_clamp (by omega), e1]
        exact (pe_takes m hp c255 (fun A3 _ hr _ => absurd hr (hn hlt)) (fun A3 f3 _ => ⟨fun _ => hq A3 (frTk_tr fr f3), fun e => absurd rfl e⟩)).1 (hpl.mp c)
    · obtain rfl : j0 = k := by omega
      have := hQ A' fr (fun _ => m)
      unfold rdA at this; rw [if_neg (Nat.lt_irrefl _)] at this
      refine pk_le j0 j0 (fun _ => ?_) (fun c => by omega) e01
      rw [e01]
      refine ⟨fun c => ?_, fun c => ?_⟩
      · rw [if_neg (fun e => c (hpl.mpr e))] at this; exact this
      · rw [if_pos (hpl.mp c)] at this; exact this
  · rintro j z k3 hj ⟨A', rfl, fr, m⟩ hk3
    have e01 : A' 0 1 = nI k := (fr.2 1 (by decide)).trans ek
    have hp := sq_ok hy j (by omega)
    obtain ⟨c255, ec⟩ := hch j (by omega)
    have e1 : A' 1 j = nI (ch j) := by rw [fr.1 1 (by decide)]; exact ec
    have hpl : (A' 0 27 = 0 ↔ (sq ch j).1 = 0) := by
      rw [m.2.1]
      unfold plc
      constructor
      · intro e
        by_cases h0 : (sq ch j).1 = 0
        · exact h0
        · rw [if_neg h0] at e
          split at e
          · exact absurd e (by decide)
          · exact absurd e (by decide)
      · intro e; rw [if_pos e]; rfl
    have next : ∀ A3 : MI, frTk A' A3 → mM A3 (sq ch (j + 1)).1 (sq ch (j + 1)).2.1 (sq ch (j + 1)).2.2.1 (sq ch (j + 1)).2.2.2 → P_X12_readText_65 Q k3 (nI j) A3 B := fun A3 f3 m3 => by
      show k3 (nI j + 1, A3, B)
      rw [nI_1]; exact hk3 _ ⟨A3, rfl, frTk_tr fr f3, m3⟩
    refine pk_le k j (fun c => by omega) (fun _ => ⟨fun c => ⟨vp_in_nI (by omega) (by decide), ?_⟩, fun c => ⟨vp_in_nI (by omega) (by decide), ?_⟩⟩) e01
    · rw [nI_clamp (by omega), e1]
      exact (pe_takes m hp c255 (fun A3 f3 _ m3 => ⟨fun _ => next A3 f3 m3, fun e => absurd e no10⟩) (fun A3 _ hr => absurd (hy j hj) hr)).2 (fun e => c (hpl.mpr e))
    · rw [nI_clamp (by omega), e1]
      exact (pe_takes m hp c255 (fun A3 f3 _ m3 => ⟨fun e => absurd e no10, fun _ => next A3 f3 m3⟩) (fun A3 _ hr => absurd (hy j hj) hr)).1 (hpl.mp c)
theorem text_of {n n2 z : Int32} {f g : Nat → Int32} (ht : S_text n n2 f g z) : ∃ (k : Nat) (ch : Nat → Nat), k ≤ 180 ∧ z = 0 ∧ n = nI k ∧ n2 = nI k ∧ ∀ j, j < k → ch j ≤ 255 ∧ f j = nI (ch j) ∧ g j = nI (ch j) := by
  obtain ⟨k, ⟨h1, h2⟩, e1, e2, e3⟩ := ht
  refine ⟨k, fun j => (g j).toInt.toNat, h1, h2, e1, e2, fun j hj => ?_⟩
  obtain ⟨q1, q2, q3⟩ := e3 j hj
  have e : g j = nI (g j).toInt.toNat := by
    apply Int32.toInt_inj.mp
    rw [nI_toInt (by omega)]; omega
  exact ⟨(show (g j).toInt.toNat ≤ 255 by omega), q1.trans e, e⟩
theorem SimH_rd {I I' : MI} {J J' : MJ} {A A' : MI} {B : MJ} {h : Ho} {t : Se} (hs : SimH I J A B h t) (f : frRd I I' J J') (g : frTk A A') : SimH I' J' A' B h t := by
  obtain ⟨h1, h2, h3, h4, h5, h6, h7, h8, h9, h10, h11, h12, h13, h14, h15⟩ := hs
  have f' : ∀ c, 12 ≤ c → I' c = I c := fun c hc => f.1 c (by omega)
  have j' : ∀ c, c ≠ 6 → J' c = J c := f.2.2.2
  have a' : ∀ c, 0 < c → c < 15 → A' c = A c := fun c c1 c2 => g.1 c (by omega)
  refine ⟨h1, h2, ?_, ?_, ?_, ?_, ?_, ?_, ?_, ?_, ?_, ?_, ?_, ?_, ?_, ?_, ?_⟩
  · rw [f' 12 (by decide), f' 13 (by decide), f' 14 (by decide), f' 16 (by decide), j' 15 (by decide)]; exact h3
  · rw [g.2 2 (by decide), a' 4 (by decide) (by decide), a' 3 (by decide) (by decide), a' 5 (by decide) (by decide), a' 2 (by decide) (by decide)]; exact h4
  · rw [f' 17 (by decide), f' 18 (by decide), f' 19 (by decide), f' 20 (by decide)]; exact h5
  · rw [a' 6 (by decide) (by decide)]; exact h6
  · rw [f.2.1, f.1 2 (by decide), f.2.2.1, g.2 1 (by decide), a' 1 (by decide) (by decide)]; exact h7
  · rw [f' 35 (by decide), f' 36 (by decide), f' 37 (by decide), f' 38 (by decide), g.2 10 (by decide), g.2 11 (by decide), a' 8 (by decide) (by decide)]; exact h8
  · rw [f' 34 (by decide), f' 26 (by decide), f' 27 (by decide), f' 28 (by decide), f' 29 (by decide), a' 10 (by decide) (by decide), a' 9 (by decide) (by decide)]; exact h9
  · rw [f' 34 (by decide), f' 30 (by decide), f' 31 (by decide), f' 32 (by decide), f' 33 (by decide), a' 10 (by decide) (by decide), a' 9 (by decide) (by decide)]; exact h10
  · rw [f.1 0 (by decide), f' 61 (by decide), g.2 15 (by decide), a' 11 (by decide) (by decide)]; exact h11
  · rw [f.1 0 (by decide), f' 65 (by decide), g.2 19 (by decide), a' 12 (by decide) (by decide), a' 13 (by decide) (by decide), a' 14 (by decide) (by decide)]; exact h12
  · rw [j' 0 (by decide)]; exact h13
  · rw [f' 39 (by decide)]; exact h14
  · rw [f' 39 (by decide), f' 46 (by decide), f' 48 (by decide), f' 49 (by decide), f' 50 (by decide), f' 52 (by decide), j' 39 (by decide), j' 41 (by decide), j' 42 (by decide)]; exact h15.1
  · rw [f' 55 (by decide), f' 58 (by decide), j' 59 (by decide)]; exact h15.2.1
  · rw [f' 55 (by decide), j' 60 (by decide)]; exact h15.2.2
theorem s_fault : st_fault Sim := by
  intro I J A B hs
  obtain ⟨h, t, hH⟩ := Sim_H.mp hs
  obtain ⟨h1, h2, h3, h4, h5, h6, h7, h8, h9, h10, h11, h12, h13, h14, h15⟩ := id hH
  obtain ⟨k, ch, hk, hz, e1, e2, hch⟩ := text_of h7
  obtain ⟨j0, hj0, hy, hn⟩ := sq_ex ch k
  refine pe_firstFault hk e1 (fun j hj => ⟨(hch j hj).1, (hch j hj).2.1⟩) hj0 hy hn (fun I1 J1 f1 _ => ?_)
  refine pe_readText hk e2 (fun j hj => ⟨(hch j hj).1, (hch j hj).2.2⟩) hj0 hy hn (fun A1 g1 _ => ⟨rfl, h, t, SimH_rd hH f1 g1⟩)
