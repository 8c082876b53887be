def SimH (I : MI) (J : MJ) (A : MI) (B : MJ) (h : Ho) (t : Se) : Prop := hoOK h ∧ seOK h t ∧ lexX (I 12 4) (I 13) (I 14) (J 15) (I 16) h ∧ lexM (A 0 2) (A 4) (A 3) (A 5) (A 2) h ∧ setX (I 17) (I 18) (I 19) (I 20) h t ∧ rowM (A 6) 0 h t ∧
  S_text (I 1 3) (A 0 1) (I 2) (A 1) (I 8 5) ∧ S_do (I 35 3) (A 0 10) (A 0 11) (I 36) (I 37) (I 38) (A 8) h t ∧ S_slot (I 34 0) (A 10 0) (I 26) (I 27) (I 28) (I 29) (A 9) 0 h ∧ S_slot (I 34 1) (A 10 1) (I 30) (I 31) (I 32) (I 33) (A 9) 25 h ∧
  S_row (I 0 14) (A 0 15) (I 61) (A 11) h ∧ S_seen (I 0 15) (A 0 19) (I 65) (A 12) (A 13) (A 14) ∧ J 0 16 = B 0 20 ∧ S_sw (I 39 8) (I 39 9) ∧ S_cache I J h t
theorem Sim_H {I : MI} {J : MJ} {A : MI} {B : MJ} : Sim I J A B ↔ ∃ h t, SimH I J A B h t := Iff.rfl
/-- what a count leaves alone in the class -/
def frC (I I' : MI) (J J' : MJ) : Prop := (∀ c, c < 39 ∨ 54 ≤ c → I' c = I c) ∧ ∀ c, c < 39 ∨ 54 ≤ c → J' c = J c
theorem frC_rfl {I : MI} {J : MJ} : frC I I J J := ⟨fun _ _ => rfl, fun _ _ => rfl⟩
theorem frC_tr {I I1 I2 : MI} {J J1 J2 : MJ} (h : frC I I1 J J1) (g : frC I1 I2 J1 J2) : frC I I2 J J2 := ⟨fun c hc => (g.1 c hc).trans (h.1 c hc), fun c hc => (g.2 c hc).trans (h.2 c hc)⟩
theorem frR_C {I I' : MI} {J J' : MJ} (h : frR I I' J J') : frC I I' J J' := ⟨fun c hc => h.1 c (by omega) (by omega) (by omega) (by omega) (by omega) (by omega) (by omega), fun c hc => h.2.2 c (by omega) (by omega) (by omega) (by omega)⟩
theorem frR_sw {I I' : MI} {J J' : MJ} (h : frR I I' J J') (g : S_sw (I 39 8) (I 39 9)) : S_sw (I' 39 8) (I' 39 9) := by
  rw [h.2.1 8 (by decide) (by decide), h.2.1 9 (by decide) (by decide)]; exact g
/-- what a reference's call leaves alone -/
def frM (A A' : MI) (B B' : MJ) : Prop := (∀ c, 0 < c → c < 15 → c ≠ 7 → A' c = A c) ∧ (∀ k, k < 21 → A' 0 k = A 0 k) ∧ B' 0 = B 0
theorem frM_rfl {A : MI} {B : MJ} : frM A A B B := ⟨fun _ _ _ _ => rfl, fun _ _ => rfl, rfl⟩
theorem frM_of {A A' : MI} {B B' : MJ} (h : frA A A') (g : frB B B') : frM A A' B B' := ⟨fun c c1 c2 _ => h.1 c c1 (by omega), fun k hk => h.2 k (by omega), g 0 (by decide)⟩
theorem Sim_ph {I I' : MI} {J J' : MJ} {A A' : MI} {B B' : MJ} {h : Ho} {t : Se} (hs : SimH I J A B h t) (fC : frC I I' J J') (fM : frM A A' B B') (h14' : S_sw (I' 39 8) (I' 39 9)) (hP : I' 39 12 = 0 ∨ Ph I' J' h t) : Sim I' J' A' B' := by
  obtain ⟨h1, h2, h3, h4, h5, h6, h7, h8, h9, h10, h11, h12, h13, h14, h15⟩ := hs
  obtain ⟨f, g⟩ := fC
  obtain ⟨m1, m2, m3⟩ := fM
  refine ⟨h, t, h1, h2, ?_, ?_, ?_, ?_, ?_, ?_, ?_, ?_, ?_, ?_, ?_, h14', hP, ?_, ?_⟩
  · rw [f 12 (by decide), f 13 (by decide), f 14 (by decide), f 16 (by decide), g 15 (by decide)]; exact h3
  · rw [m2 2 (by decide), m1 4 (by decide) (by decide) (by decide), m1 3 (by decide) (by decide) (by decide), m1 5 (by decide) (by decide) (by decide), m1 2 (by decide) (by decide) (by decide)]; exact h4
  · rw [f 17 (by decide), f 18 (by decide), f 19 (by decide), f 20 (by decide)]; exact h5
  · rw [m1 6 (by decide) (by decide) (by decide)]; exact h6
  · rw [f 1 (by decide), f 2 (by decide), f 8 (by decide), m2 1 (by decide), m1 1 (by decide) (by decide) (by decide)]; exact h7
  · rw [f 35 (by decide), f 36 (by decide), f 37 (by decide), f 38 (by decide), m2 10 (by decide), m2 11 (by decide), m1 8 (by decide) (by decide) (by decide)]; exact h8
  · rw [f 34 (by decide), f 26 (by decide), f 27 (by decide), f 28 (by decide), f 29 (by decide), m1 10 (by decide) (by decide) (by decide), m1 9 (by decide) (by decide) (by decide)]; exact h9
  · rw [f 34 (by decide), f 30 (by decide), f 31 (by decide), f 32 (by decide), f 33 (by decide), m1 10 (by decide) (by decide) (by decide), m1 9 (by decide) (by decide) (by decide)]; exact h10
  · rw [f 0 (by decide), f 61 (by decide), m2 15 (by decide), m1 11 (by decide) (by decide) (by decide)]; exact h11
  · rw [f 0 (by decide), f 65 (by decide), m2 19 (by decide), m1 12 (by decide) (by decide) (by decide), m1 13 (by decide) (by decide) (by decide), m1 14 (by decide) (by decide) (by decide)]; exact h12
  · rw [g 0 (by decide), m3]; exact h13
  · rw [f 55 (by decide), f 58 (by decide), g 59 (by decide)]; exact h15.2.1
  · rw [f 55 (by decide), g 60 (by decide)]; exact h15.2.2
theorem wo_bits {u : Nat} (hu : u < 10) : (1023 : Int32) &&& (((1 : Int32) <<< (nI u &&& 31)) ^^^ (-1 : Int32)) = nI (1023 - 2 ^ u) ∧ ∀ w, w < 10 → (1023 - 2 ^ u).testBit w = !decide (w = u) := by
  have k : ∀ u : Fin 10, (1023 : Int32) &&& (((1 : Int32) <<< (nI u.val &&& 31)) ^^^ (-1 : Int32)) = nI (1023 - 2 ^ u.val) := by decide
  have k2 : ∀ (u w : Fin 10), (1023 - 2 ^ u.val).testBit w.val = !decide (w.val = u.val) := by decide
  exact ⟨k ⟨u, hu⟩, fun w hw => k2 ⟨u, hu⟩ ⟨w, hw⟩⟩
theorem and_wo {al u : Nat} (hal : al < 1024) (hu : u < 10) : nI al &&& (((1 : Int32) <<< (nI u &&& 31)) ^^^ (-1 : Int32)) = nI (al &&& (1023 - 2 ^ u)) := by
  rw [← nI_and, ← (wo_bits hu).1, ← Int32.and_assoc, show (1023 : Int32) = nI 1023 from rfl, nI_and, Nat.and_two_pow_sub_one_of_lt_two_pow (n := 10) hal]
theorem pe_withWord {w0 u : Nat} {h : Ho} {t : Se} {A : MI} {B : MJ} {Q : Int64 → MI → MJ → Prop} (h0 : w0 = 6 ∨ w0 = 7) (h1 : hoOK h) (h2 : seO h t) (hl : lexN A h) (hr : rowM (A w0) 0 h t) (hu : u < hoW h)
    (hQ : ∀ (A' : MI) (B' : MJ), frA A A' → frB B B' → Q (lN (V h t (okB t) (tp t) 4) - lN (V h t (fun w => okB t w && !decide (w = u)) (tp t) 4)) A' B') : P_X12_withWord w0 (nI u) A B Q := by
  have hw10 := h1.1
  refine pe_manyOf h0 h1 h2 hl hr (fun A1 B1 f1 g1 hL hW => ?_)
  rintro A2 rfl
  have hl1 := lexN_fr f1 hl
  obtain ⟨al, e32, hal, hb⟩ := hL.2.1
  have e1 : A1 0 32 &&& (((1 : Int32) <<< (nI u &&& 31)) ^^^ (-1 : Int32)) = nI (al &&& (1023 - 2 ^ u)) := by rw [e32, and_wo hal (by omega)]
  rw [e1]
  have hL2 : Lk (mI A1 0 32 (nI (al &&& (1023 - 2 ^ u))) 0) (A1 19) (A1 21) (A1 26) h t (fun w => okB t w && !decide (w = u)) :=
    ⟨hL.1, ⟨al &&& (1023 - 2 ^ u), rfl, Nat.lt_of_le_of_lt Nat.and_le_left hal, fun w hw => by rw [Nat.testBit_and, hb w hw, (wo_bits (u := u) (by omega)).2 w (by omega)]⟩, hL.2.2.1, hL.2.2.2.1, hL.2.2.2.2⟩
  refine pe_layWays h1 h2 (show A1 0 2 = nI (hoW h) from hl1.1) hl1.2.1 hL2 (fun B2 g2 hW2 => ?_)
  refine pe_all h2 hL2.1 hW2 (hQ _ B2 ⟨fun c c1 c2 => (wI_n _ (by omega) _).trans (f1.1 c c1 c2), fun k hk => (mI_s A1 0 32 _ k).trans ((upd_n (by omega)).trans (f1.2 k hk))⟩ (fun c hc => (g2 c (by omega)).trans (g1 c hc)))
theorem s_having : st_having Sim := by
  intro a I J A B hs
  obtain ⟨h, t, hH⟩ := Sim_H.mp hs
  obtain ⟨h1, h2, h3, h4, h5, h6, h7, h8, h9, h10, h11, h12, h13, h14, h15⟩ := id hH
  have hX : CX I J h t := ⟨lexX_C h3, h5⟩
  have hw10 := h1.1
  refine pe_has h3.1 h1.1 (fun ha => ⟨fun _ => ?_, fun e => absurd e no10⟩) (fun hn => ⟨fun e => absurd rfl e, fun _ => ?_⟩)
  · obtain ⟨u, hu, rfl⟩ := id ha
    refine pe_count h1 h2 hX h15.1 (fun I1 J1 f1 p1 => ?_)
    have hX1 := CX_fr hX (frR_I f1) (frR_J f1)
    refine pe_refresh h1 h2 hX1 (Or.inr p1) (fun I2 J2 f2 p2 => ?_)
    have hX2 := CX_fr hX1 (frR_I f2) (frR_J f2)
    have h14' := frR_sw f2 (frR_sw f1 h14)
    rw [(wo_bits (u := u) (by omega)).1]
    refine pe_foldWithin h1 h2 hX2 p2 h14' (Nat.lt_of_le_of_lt (Nat.sub_le 1023 _) (by decide)) (fun J3 g3 p3 => ?_)
    have fC : frC I I2 J J3 := frC_tr (frC_tr (frR_C f1) (frR_C f2)) ⟨fun _ _ => rfl, fun c hc => g3 c (by omega) (by omega) (by omega)⟩
    refine pe_isWord h4.1 h1.1 (fun _ => ⟨fun e => absurd e no10, fun _ => ?_⟩) (fun c => absurd ha c)
    refine pe_withWord (Or.inl rfl) h1 (seOK_O h2) (lexM_N h4) h6 hu (fun A1 B1 fA fB => ⟨?_, Sim_ph hH fC (frM_of fA fB) h14' (Or.inr p3)⟩)
    congr 2
    exact V_congr (fun w hw => by unfold okA; rw [(wo_bits (u := u) (by omega)).2 w (by omega)]) _ _
  · exact pe_isWord h4.1 h1.1 (fun c => absurd c hn) (fun _ => ⟨fun _ => ⟨rfl, hs⟩, fun e => absurd rfl e⟩)
