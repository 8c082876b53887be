/-! ===== judge ===== -/
theorem SimH_g {I I' : MI} {J J' : MJ} {A A' : MI} {B B' : MJ} {h : Ho} {t : Se} (hs : SimH I J A B h t) (f' : ∀ c, (c < 17 ∨ (24 < c ∧ c < 39) ∨ c = 61 ∨ c = 65) → I' c = I c) (g : ∀ c, c < 39 → J' c = J c) (fM : frM A A' B B') (h5' : setX (I' 17) (I' 18) (I' 19) (I' 20) h t) (h14' : S_sw (I' 39 8) (I' 39 9)) (hC : S_cache I' J' h t) : SimH I' J' A' B' h t := by
  obtain ⟨h1, h2, h3, h4, h5, h6, h7, h8, h9, h10, h11, h12, h13, h14, h15⟩ := hs
  obtain ⟨m1, m2, m3⟩ := fM
  refine ⟨h1, h2, ?_, ?_, h5', ?_, ?_, ?_, ?_, ?_, ?_, ?_, ?_, h14', hC⟩
  · rw [f' 12 (by decide), f' 13 (by decide), f' 14 (by decide), f' 16 (by decide), g 15 (by decide)]; exact h3
  · rw [m2 2 (by decide), m1 4 (by decide) (by decide) (by decide), m1 3 (by decide) (by decide) (by decide), m1 5 (by decide) (by decide) (by decide), m1 2 (by decide) (by decide) (by decide)]; exact h4
  · rw [m1 6 (by decide) (by decide) (by decide)]; exact h6
  · rw [f' 1 (by decide), f' 2 (by decide), f' 8 (by decide), m2 1 (by decide), m1 1 (by decide) (by decide) (by decide)]; exact h7
  · rw [f' 35 (by decide), f' 36 (by decide), f' 37 (by decide), f' 38 (by decide), m2 10 (by decide), m2 11 (by decide), m1 8 (by decide) (by decide) (by decide)]; exact h8
  · rw [f' 34 (by decide), f' 26 (by decide), f' 27 (by decide), f' 28 (by decide), f' 29 (by decide), m1 10 (by decide) (by decide) (by decide), m1 9 (by decide) (by decide) (by decide)]; exact h9
  · rw [f' 34 (by decide), f' 30 (by decide), f' 31 (by decide), f' 32 (by decide), f' 33 (by decide), m1 10 (by decide) (by decide) (by decide), m1 9 (by decide) (by decide) (by decide)]; exact h10
  · rw [f' 0 (by decide), f' 61 (by decide), m2 15 (by decide), m1 11 (by decide) (by decide) (by decide)]; exact h11
  · rw [f' 0 (by decide), f' 65 (by decide), m2 19 (by decide), m1 12 (by decide) (by decide) (by decide), m1 13 (by decide) (by decide) (by decide), m1 14 (by decide) (by decide) (by decide)]; exact h12
  · rw [g 0 (by decide), m3]; exact h13
def jd (h : Ho) (t : Se) (f : Nat) : Prop := (f / 1000 = 1 ∧ f / 100 % 10 < 8 ∧ f % 100 = 0 ∧ sm (seB t) 8 < 12) ∨ (f / 1000 = 2 ∧ f / 100 % 10 < 8 ∧ f % 100 = 0 ∧ 0 < seB t (f / 100 % 10)) ∨ (f / 1000 = 3 ∧ f / 100 % 10 < hoW h ∧ f % 100 = 0) ∨ (f / 1000 = 4 ∧ f / 100 % 10 = 0 ∧ V h t (okB t) (tp t) 4 = f % 100) ∨ (f / 1000 = 5 ∧ f / 100 % 10 < hoW h ∧ f % 100 < 2 ∧ (wph h t (f / 100 % 10) ↔ f % 100 = 1)) ∨ (f / 1000 = 6 ∧ f / 100 % 10 < 4 ∧ f / 10 % 10 < 4 ∧ f % 10 = 0) ∨ (f / 1000 = 7 ∧ f / 100 % 10 = 0 ∧ 0 < bw h t (tp t) 4 ∧ ∃ L, isLenB h t L ∧ sm (fun i => seR t (bfd h t i)) L = f % 100)
def jS (t : Se) (f : Nat) : Se := if f / 1000 = 1 then chg 0 (f / 100 % 10) 0 t else if f / 1000 = 2 then chg 1 (f / 100 % 10) 0 t else if f / 1000 = 3 then chg 2 (f / 100 % 10) 0 t else if f / 1000 = 6 then chg 6 (f / 100 % 10) (f / 10 % 10) t else t
theorem jS_ok {h : Ho} {t : Se} {f : Nat} (h2 : seOK h t) (hj : jd h t f) : seOK h (jS t f) := by
  unfold jS
  rcases hj with ⟨e, q1, q2, q3⟩ | ⟨e, q1, q2, q3⟩ | ⟨e, q1, q2⟩ | ⟨e, _⟩ | ⟨e, _⟩ | ⟨e, q1, q2, q3⟩ | ⟨e, _⟩
  · rw [if_pos e]
    refine ⟨?_, h2.2⟩
    show sm (fun i => if i = f / 100 % 10 then seB t i + 1 else seB t i) 8 ≤ 12
    rw [sm_inc, if_pos q1]; omega
  · rw [if_neg (by omega), if_pos e]
    refine ⟨?_, h2.2⟩
    show sm (fun i => if i = f / 100 % 10 then seB t i - 1 else seB t i) 8 ≤ 12
    have := sm_dec (seB t) q3 8
    have := h2.1; omega
  · rw [if_neg (by omega), if_neg (by omega), if_pos e]
    exact ⟨h2.1, h2.2.1, h2.2.2.1, h2.2.2.2.1, h2.2.2.2.2.1, xor_lt h2.2.2.2.2.2 q1⟩
  · rw [if_neg (by omega), if_neg (by omega), if_neg (by omega), if_neg (by omega)]; exact h2
  · rw [if_neg (by omega), if_neg (by omega), if_neg (by omega), if_neg (by omega)]; exact h2
  · rw [if_neg (by omega), if_neg (by omega), if_neg (by omega), if_pos e]
    refine ⟨h2.1, h2.2.1, fun a ha => ?_, h2.2.2.2⟩
    show (if a = f / 100 % 10 then seF t a ^^^ (1 <<< (f / 10 % 10)) else seF t a) < 16
    have := h2.2.2.1 a ha
    split
    · exact xor_lt (w := 4) this q2
    · exact this
  · rw [if_neg (by omega), if_neg (by omega), if_neg (by omega), if_neg (by omega)]; exact h2
/-- what judging leaves alone in the class, a step -/
def frJ (I I' : MI) (J J' : MJ) : Prop := (∀ c, c < 39 ∨ 56 ≤ c → c ≠ 17 → c ≠ 18 → c ≠ 19 → c ≠ 20 → I' c = I c) ∧ ∀ c, c < 39 → J' c = J c
theorem frJ_rfl {I : MI} {J : MJ} : frJ I I J J := ⟨fun _ _ _ _ _ _ => rfl, fun _ _ => rfl⟩
theorem frJ_tr {I I1 I2 : MI} {J J1 J2 : MJ} (h : frJ I I1 J J1) (g : frJ I1 I2 J1 J2) : frJ I I2 J J2 := ⟨fun c hc c1 c2 c3 c4 => (g.1 c hc c1 c2 c3 c4).trans (h.1 c hc c1 c2 c3 c4), fun c hc => (g.2 c hc).trans (h.2 c hc)⟩
theorem frC_J {I I' : MI} {J J' : MJ} (h : frC I I' J J') : frJ I I' J J' := ⟨fun c hc _ _ _ _ => h.1 c (by omega), fun c hc => h.2 c (Or.inl hc)⟩
theorem lexC_J {I I' : MI} {J J' : MJ} {h : Ho} (f : frJ I I' J J') (hc : lexC I J h) : lexC I' J' h := by
  unfold lexC
  rw [f.1 12 (by decide) (by decide) (by decide) (by decide) (by decide), f.1 13 (by decide) (by decide) (by decide) (by decide) (by decide), f.2 15 (by decide)]
  exact hc
theorem pe_performed {h : Ho} {t : Se} {a x d : Nat} {I : MI} {J : MJ} {Q : Int32 → MI → MJ → Prop} (h1 : hoOK h) (h5 : setX (I 17) (I 18) (I 19) (I 20) h t) (ha : actOK h a x d) (hp : a = 1 → 0 < seB t x)
    (hQ : ∀ I' : MI, frJ I I' J J → setX (I' 17) (I' 18) (I' 19) (I' 20) h (chg a x d t) → I' 39 12 = 0 → (∀ k, k ≠ 12 → I' 39 k = I 39 k) → Q 1 I' J) : P_X11_performed (nI a) (nI x) (nI d) I J Q := by
  unfold P_X11_performed P_X11_perform
  refine pe_change h1 h5 ha hp (fun o b r f hset => ?_)
  rintro I5 rfl I7 rfl I8 rfl
  refine hQ _ ⟨fun c hc c1 c2 c3 c4 => (wI_n _ (by omega) _).trans ((wI_n _ (by omega) _).trans ((wI_n _ (by omega) _).trans ((wI_n _ c4 _).trans ((wI_n _ c3 _).trans ((wI_n _ c2 _).trans (wI_n _ c1 _)))))), fun _ _ => rfl⟩ hset rfl (fun k hk => ?_)
  show upd (I 39) 12 0 k = _
  exact upd_n hk
theorem wph_bit {h : Ho} {t : Se} {m w : Nat} (hm : m < 1024) (hb : ∀ w, w < 10 → (m.testBit w = true ↔ w < hoW h ∧ wph h t w)) (h1 : hoOK h) (hw : w < hoW h) : (nI m >>> (nI w &&& 31)) &&& (1 : Int32) = nI (bt m w) ∧ (bt m w = 1 ↔ wph h t w) ∧ bt m w < 2 := by
  have hw10 := h1.1
  refine ⟨bitI (by omega) (by omega), ?_, ?_⟩
  · unfold bt
    have := hb w (by omega)
    cases hx : m.testBit w with
    | true => exact ⟨fun _ => (this.mp hx).2, fun _ => rfl⟩
    | false => exact ⟨fun e => absurd e (by decide), fun q => absurd (hx.symm.trans (this.mpr ⟨hw, q⟩)) (by decide)⟩
  · unfold bt; split <;> omega
theorem pe_comesTrue {h : Ho} {t : Se} {f : Nat} {I : MI} {J : MJ} {Q : Int32 → MI → MJ → Prop} (h1 : hoOK h) (h2 : seOK h t) (hX : CX I J h t) (hS : I 39 12 = 0 ∨ Ph I J h t) (h14 : S_sw (I 39 8) (I 39 9)) (hf : f < 10000)
    (q1 : ∀ (I' : MI) (J' : MJ), frJ I I' J J' → jd h t f → setX (I' 17) (I' 18) (I' 19) (I' 20) h (jS t f) → (I' 39 12 = 0 ∨ Ph I' J' h (jS t f)) → S_sw (I' 39 8) (I' 39 9) → Q 1 I' J')
    (q0 : ∀ (I' : MI) (J' : MJ), frJ I I' J J' → ¬ jd h t f → S_sw (I' 39 8) (I' 39 9) → Q 0 I' J') : P_X11_comesTrue (nI f) I J Q := by
  have hw10 := h1.1
  have h13p : (10 : Nat) ^ 13 < 2 ^ 60 := by decide
  have eA : nI f / (100 : Int32) - nI f / (100 : Int32) / (10 : Int32) * (10 : Int32) = nI (f / 100 % 10) := by
    rw [show nI f / (100 : Int32) = nI (f / 100) from pk_div (d := 100) (by omega) (by decide) (by decide)]
    exact pk_rem (d := 10) (by omega) (by decide) (by decide)
  have eM : nI f - nI f / (100 : Int32) * (100 : Int32) = nI (f % 100) := pk_rem (d := 100) (by omega) (by decide) (by decide)
  have eS : nI f / (1000 : Int32) = nI (f / 1000) := pk_div (d := 1000) (by omega) (by decide) (by decide)
  have eD : nI (f % 100) / (10 : Int32) = nI (f / 10 % 10) := by
    rw [show nI (f % 100) / (10 : Int32) = nI (f % 100 / 10) from pk_div (d := 10) (by omega) (by decide) (by decide)]; congr 1; omega
  have eV : nI (f % 100) - nI (f % 100) / (10 : Int32) * (10 : Int32) = nI (f % 10) := by
    rw [show nI (f % 100) - nI (f % 100) / (10 : Int32) * (10 : Int32) = nI (f % 100 % 10) from pk_rem (d := 10) (by omega) (by decide) (by decide)]; congr 1; omega
  have a10 : f / 100 % 10 < 10 := Nat.mod_lt _ (by decide)
  have m100 : f % 100 < 100 := Nat.mod_lt _ (by decide)
  have hiW : ∀ n, isW n (nI (f / 100 % 10)) ↔ f / 100 % 10 < n := fun n => ⟨fun ⟨u, hu, e⟩ => by
    by_cases hb : u < 2 ^ 31
    · have := (nI_eq (by omega) hb).mp e; omega
    · omega, fun hn => ⟨_, hn, rfl⟩⟩
  have no : ¬ jd h t f → Q 0 I J := fun hn => q0 I J frJ_rfl hn h14
  unfold P_X11_comesTrue
  rw [eA, eM, eS, eV, eD]
  have neS : ∀ k : Nat, k < 10 → ¬ nI (f / 1000) = nI k → f / 1000 ≠ k := fun k hk c e => c (by rw [e])
  have eqS : ∀ k : Nat, k < 10 → nI (f / 1000) = nI k → f / 1000 = k := fun k hk c => (nI_eq (by omega) (by omega)).mp c
  refine ⟨fun c => ?_, fun c1 => ⟨fun c => ?_, fun c2 => ⟨fun c => ?_, fun c3 => ⟨fun c => ?_, fun c4 => ⟨fun c => ?_, fun c5 => ⟨fun c => ?_, fun c6 => ⟨fun c => ?_, fun c7 => no ?_⟩⟩⟩⟩⟩⟩⟩
  · have e := eqS 1 (by decide) c
    have ejS : jS t f = chg 0 (f / 100 % 10) 0 t := if_pos e
    refine pe_isLetterX (fun ha => ⟨fun e => absurd e no10, fun _ => ⟨fun c2 => no (fun hj => ?_), fun c2 => ?_⟩⟩) (fun ha => ⟨fun _ => no (fun hj => ha ((hiW 8).mpr ?_)), fun e => absurd rfl e⟩)
    · have hz : f % 100 ≠ 0 := fun e => c2 (by rw [e]; rfl)
      unfold jd at hj; omega
    · have hz : f % 100 = 0 := (nI_eq (b := 0) (by omega) (by decide)).mp c2
      have ha8 := (hiW 8).mp ha
      have hsm := h2.1
      refine pe_letters (f := seB t) hX.2.1 (pk_le 12 (sm (seB t) 8) (fun c3 => no (fun hj => ?_)) (fun c3 => ?_))
      · unfold jd at hj; omega
      · refine pe_performed (a := 0) (d := 0) h1 hX.2 ⟨by decide, fun _ => ha8, fun e => by omega, fun e => by omega, fun e => by omega, fun e => by omega⟩ (fun e => by omega) (fun I' g1 g2 g3 g4 => ⟨fun e => absurd e no10, fun _ => q1 I' J g1 (Or.inl ⟨e, ha8, hz, by omega⟩) (by rw [ejS]; exact g2) (Or.inl g3) ?_⟩)
        rw [g4 8 (by decide), g4 9 (by decide)]; exact h14
    · unfold jd at hj; omega
  · have e := eqS 2 (by decide) c
    have ejS : jS t f = chg 1 (f / 100 % 10) 0 t := by unfold jS; rw [if_neg (by omega), if_pos e]
    refine pe_isLetterX (fun ha => ⟨fun e => absurd e no10, fun _ => ⟨fun c2 => no (fun hj => ?_), fun c2 => ?_⟩⟩) (fun ha => ⟨fun _ => no (fun hj => ha ((hiW 8).mpr ?_)), fun e => absurd rfl e⟩)
    · have hz : f % 100 ≠ 0 := fun e => c2 (by rw [e]; rfl)
      unfold jd at hj; omega
    · have hz : f % 100 = 0 := (nI_eq (b := 0) (by omega) (by decide)).mp c2
      have ha8 := (hiW 8).mp ha
      have hb12 : seB t (f / 100 % 10) ≤ 12 := Nat.le_trans (sm_le _ ha8) h2.1
      refine ⟨vp_in_nI ha8 (by decide), ?_⟩
      rw [nI_clamp (by omega), hX.2.1 _ ha8]
      refine pk_le (seB t (f / 100 % 10)) 0 (fun c3 => no (fun hj => ?_)) (fun c3 => ?_)
      · unfold jd at hj; omega
      · refine pe_performed (a := 1) (d := 0) h1 hX.2 ⟨by decide, fun _ => ha8, fun e => by omega, fun e => by omega, fun e => by omega, fun e => by omega⟩ (fun _ => c3) (fun I' g1 g2 g3 g4 => ⟨fun e => absurd e no10, fun _ => q1 I' J g1 (Or.inr (Or.inl ⟨e, ha8, hz, c3⟩)) (by rw [ejS]; exact g2) (Or.inl g3) ?_⟩)
        rw [g4 8 (by decide), g4 9 (by decide)]; exact h14
    · unfold jd at hj; omega
  · have e := eqS 3 (by decide) c
    have ejS : jS t f = chg 2 (f / 100 % 10) 0 t := by unfold jS; rw [if_neg (by omega), if_neg (by omega), if_pos e]
    refine pe_has hX.1.1 h1.1 (fun ha => ⟨fun e => absurd e no10, fun _ => ⟨fun c2 => no (fun hj => ?_), fun c2 => ?_⟩⟩) (fun ha => ⟨fun _ => no (fun hj => ha ((hiW _).mpr ?_)), fun e => absurd rfl e⟩)
    · have hz : f % 100 ≠ 0 := fun e => c2 (by rw [e]; rfl)
      unfold jd at hj; omega
    · have hz : f % 100 = 0 := (nI_eq (b := 0) (by omega) (by decide)).mp c2
      have haW := (hiW _).mp ha
      refine pe_performed (a := 2) (d := 0) h1 hX.2 ⟨by decide, fun e => by omega, fun _ => haW, fun e => by omega, fun e => by omega, fun e => by omega⟩ (fun e => by omega) (fun I' g1 g2 g3 g4 => ⟨fun e => absurd e no10, fun _ => q1 I' J g1 (Or.inr (Or.inr (Or.inl ⟨e, haW, hz⟩))) (by rw [ejS]; exact g2) (Or.inl g3) ?_⟩)
      rw [g4 8 (by decide), g4 9 (by decide)]; exact h14
    · unfold jd at hj; omega
  · have e := eqS 4 (by decide) c
    have ejS : jS t f = t := by unfold jS; rw [if_neg (by omega), if_neg (by omega), if_neg (by omega), if_neg (by omega)]
    refine ⟨fun c2 => no (fun hj => ?_), fun c2 => ?_⟩
    · have hz : f / 100 % 10 ≠ 0 := fun e => c2 (by rw [e]; rfl)
      unfold jd at hj; omega
    · have hz : f / 100 % 10 = 0 := (nI_eq (b := 0) (by omega) (by decide)).mp c2
      have hV := V_small (ok := okB t) h1 (seOK_O h2).1 (Nat.le_refl (tp t)) 4
      refine pe_count h1 h2 hX hS (fun I1 J1 f1 p1 => ?_)
      have f1N := frR_N f1
      rw [nI_l (by omega)]
      refine ⟨fun c3 => q0 I1 J1 (frC_J f1N.1) (fun hj => ?_) (frN_sw f1N h14), fun c3 => q1 I1 J1 (frC_J f1N.1) ?_ (by rw [ejS]; exact (CX_N hX f1N).2) (by rw [ejS]; exact Or.inr p1) (frN_sw f1N h14)⟩
      · have : V h t (okB t) (tp t) 4 ≠ f % 100 := fun e => c3 (by rw [e])
        unfold jd at hj; omega
      · exact Or.inr (Or.inr (Or.inr (Or.inl ⟨e, hz, (pk_lEQ (by omega) (by omega)).mp c3⟩)))
  · have e := eqS 5 (by decide) c
    have ejS : jS t f = t := by unfold jS; rw [if_neg (by omega), if_neg (by omega), if_neg (by omega), if_neg (by omega)]
    refine pe_has hX.1.1 h1.1 (fun ha => ⟨fun e => absurd e no10, fun _ => ?_⟩) (fun ha => ⟨fun _ => no (fun hj => ha ((hiW _).mpr ?_)), fun e => absurd rfl e⟩)
    · have haW := (hiW _).mp ha
      refine pk_lt 1 (f % 100) (fun c2 => no (fun hj => ?_)) (fun c2 => ?_)
      · unfold jd at hj; omega
      · refine pe_wordsIn h1 h2 hX hS (fun I1 J1 m f1 p1 hm hb => ?_)
        have f1N := frR_N f1
        obtain ⟨b1, b2, b3⟩ := wph_bit hm hb h1 haW
        rw [b1]
        refine ⟨fun c3 => q0 I1 J1 (frC_J f1N.1) (fun hj => c3 ?_) (frN_sw f1N h14), fun c3 => q1 I1 J1 (frC_J f1N.1) ?_ (by rw [ejS]; exact (CX_N hX f1N).2) (by rw [ejS]; exact Or.inr p1) (frN_sw f1N h14)⟩
        · have hj5 : wph h t (f / 100 % 10) ↔ f % 100 = 1 := by
            rcases hj with ⟨e9, _⟩ | ⟨e9, _⟩ | ⟨e9, _⟩ | ⟨e9, _⟩ | ⟨_, _, _, hj⟩ | ⟨e9, _⟩ | ⟨e9, _⟩
            · omega
            · omega
            · omega
            · omega
            · exact hj
            · omega
            · omega
          have : bt m (f / 100 % 10) = f % 100 := by
            rw [← b2] at hj5; omega
          rw [this]
        · have : bt m (f / 100 % 10) = f % 100 := (nI_eq (by omega) (by omega)).mp c3
          refine Or.inr (Or.inr (Or.inr (Or.inr (Or.inl ⟨e, haW, by omega, ?_⟩))))
          rw [← b2, this]
    · unfold jd at hj; omega
  · have e := eqS 6 (by decide) c
    have ejS : jS t f = chg 6 (f / 100 % 10) (f / 10 % 10) t := by unfold jS; rw [if_neg (by omega), if_neg (by omega), if_neg (by omega), if_pos e]
    have hiB : ∀ n, isW n (nI (f / 10 % 10)) ↔ f / 10 % 10 < n := fun n => ⟨fun ⟨u, hu, e⟩ => by
      by_cases hb : u < 2 ^ 31
      · have := (nI_eq (by omega) hb).mp e; omega
      · omega, fun hn => ⟨_, hn, rfl⟩⟩
    refine pe_isKindX (fun ha => ⟨fun e => absurd e no10, fun _ => pe_isKindX (fun hb => ⟨fun e => absurd e no10, fun _ => ⟨fun c2 => no (fun hj => ?_), fun c2 => ?_⟩⟩) (fun hb => ⟨fun _ => no (fun hj => hb ((hiB 4).mpr ?_)), fun e => absurd rfl e⟩)⟩) (fun ha => ⟨fun _ => no (fun hj => ha ((hiW 4).mpr ?_)), fun e => absurd rfl e⟩)
    · have hz : f % 10 ≠ 0 := fun e => c2 (by rw [e]; rfl)
      unfold jd at hj; omega
    · have hz : f % 10 = 0 := (nI_eq (b := 0) (by omega) (by decide)).mp c2
      have ha4 := (hiW 4).mp ha
      have hb4 := (hiB 4).mp hb
      refine pe_performed (a := 6) h1 hX.2 ⟨by decide, fun e => by omega, fun e => by omega, fun e => by omega, fun _ => ha4, fun _ => hb4⟩ (fun e => by omega) (fun I' g1 g2 g3 g4 => ⟨fun e => absurd e no10, fun _ => q1 I' J g1 (Or.inr (Or.inr (Or.inr (Or.inr (Or.inr (Or.inl ⟨e, ha4, hb4, hz⟩)))))) (by rw [ejS]; exact g2) (Or.inl g3) ?_⟩)
      rw [g4 8 (by decide), g4 9 (by decide)]; exact h14
    · unfold jd at hj; omega
    · unfold jd at hj; omega
  · have e := eqS 7 (by decide) c
    have ejS : jS t f = t := by unfold jS; rw [if_neg (by omega), if_neg (by omega), if_neg (by omega), if_neg (by omega)]
    have j7 : jd h t f → f / 100 % 10 = 0 ∧ 0 < bw h t (tp t) 4 ∧ ∃ L, isLenB h t L ∧ sm (fun i => seR t (bfd h t i)) L = f % 100 := fun hj => by
      rcases hj with ⟨e9, _⟩ | ⟨e9, _⟩ | ⟨e9, _⟩ | ⟨e9, _⟩ | ⟨e9, _⟩ | ⟨e9, _⟩ | ⟨_, hj⟩
      · omega
      · omega
      · omega
      · omega
      · omega
      · omega
      · exact hj
    refine ⟨fun c2 => no (fun hj => c2 (by rw [(j7 hj).1]; rfl)), fun c2 => ?_⟩
    have hz : f / 100 % 10 = 0 := (nI_eq (b := 0) (by omega) (by decide)).mp c2
    refine pe_findBestX h1 h2 hX hS h14 (fun I1 J1 f1 p1 c0 => ⟨fun _ => q0 I1 J1 (frC_J f1.1) (fun hj => by have := (j7 hj).2.1; omega) (frN_sw f1 h14), fun e => absurd rfl e⟩) (fun I1 J1 L f1 p1 c0 hL hb e10 ef => ⟨fun e => absurd e no10, fun _ => ?_⟩)
    have hbl := bfd_lt h1 hL hb
    have hX1 := CX_N hX f1
    have hsm : sm (fun i => seR t (bfd h t i)) L ≤ L * 9 := sm_bound (fun i hi => h2.2.1 _ (hbl i hi))
    have hL12 := hL.1
    refine pe_worthX h1 hL.1 hbl e10 ef hX1.2.2.1 ⟨fun c3 => q0 I1 J1 (frC_J f1.1) (fun hj => c3 ?_) (frN_sw f1 h14), fun c3 => q1 I1 J1 (frC_J f1.1) ?_ (by rw [ejS]; exact hX1.2) (by rw [ejS]; exact Or.inr p1) (frN_sw f1 h14)⟩
    · obtain ⟨_, _, M, hM, eM9⟩ := j7 hj
      rw [lenB_uniq hL hM, eM9]
    · refine Or.inr (Or.inr (Or.inr (Or.inr (Or.inr (Or.inr ⟨e, hz, c0, L, hL, ?_⟩)))))
      exact (nI_eq (by omega) (by omega)).mp c3
  · have n1 := neS 1 (by decide) c1
    have n2 := neS 2 (by decide) c2
    have n3 := neS 3 (by decide) c3
    have n4 := neS 4 (by decide) c4
    have n5 := neS 5 (by decide) c5
    have n6 := neS 6 (by decide) c6
    have n7 := neS 7 (by decide) c7
    unfold jd; omega
