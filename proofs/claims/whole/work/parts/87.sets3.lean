/-- a mask of a set's words -/
def mkW (h : Ho) (t : Se) (s m : Nat) : Prop := m < 1024 ∧ ∀ w, w < 10 → (m.testBit w = true ↔ w < hoW h ∧ sbs t s w = true)
theorem sbs_iff {t : Se} {s w : Nat} : sbs t s w = true ↔ okB t w = true ∧ s.testBit (ub t w) = true := by unfold sbs; rw [Bool.and_eq_true]
theorem pe_wordsOf {h : Ho} {t : Se} {s : Nat} {I : MI} {J : MJ} {Q : Int32 → MI → MJ → Prop} (h1 : hoOK h) (h8 : ub t (hoW h) ≤ 8) (e7 : I 55 7 = nI (ub t (hoW h))) (e58 : ∀ w, w < hoW h → okB t w = true → I 58 (ub t w) = nI w) (hs : s < 256) (hQ : ∀ m, mkW h t s m → Q (nI m) I J) : P_X0_wordsOf (nI s) I J Q := by
  have hw10 := h1.1
  refine lpx_up (fun i z => ∃ m : Nat, z = (nI s, nI m, nI i, I, J) ∧ m < 1024 ∧ ∀ w, w < 10 → (m.testBit w = true ↔ w < hoW h ∧ okB t w = true ∧ ub t w < i ∧ s.testBit (ub t w) = true)) (ub t (hoW h)) ?_ ?_ 0 _ (Nat.zero_le _) ⟨0, rfl, by decide, fun w _ => ⟨fun q => absurd q (by simp), fun q => absurd q.2.2.1 (Nat.not_lt_zero _)⟩⟩
  · rintro z k ⟨m, rfl, hm, hb⟩
    refine pk_le (ub t (hoW h)) (ub t (hoW h)) (fun _ => hQ m ⟨hm, fun w hw => ?_⟩) (fun c => by omega) e7
    rw [hb w hw, sbs_iff]
    exact ⟨fun q => ⟨q.1, q.2.1, q.2.2.2⟩, fun q => ⟨q.1, q.2.1, ub_lt q.1 q.2.1, q.2.2⟩⟩
  · rintro i z k hi ⟨m, rfl, hm, hb⟩ hk
    obtain ⟨v, hv, ho, eu⟩ := ub_ex (hoW h) hi
    refine pk_le (ub t (hoW h)) i (fun c => by omega) (fun _ => ⟨fun c => ?_, fun c => ⟨vp_in_nI (by omega) (by decide), ?_⟩⟩) e7
    · rw [bitI0 (by omega) (by omega)] at c
      show k (nI s, nI m, nI i + 1, I, J)
      rw [nI_1]
      refine hk _ ⟨m, rfl, hm, fun w hw => ?_⟩
      rw [hb w hw]
      refine ⟨fun q => ⟨q.1, q.2.1, by omega, q.2.2.2⟩, fun q => ⟨q.1, q.2.1, ?_, q.2.2.2⟩⟩
      rcases Nat.lt_or_ge (ub t w) i with c9 | c9
      · exact c9
      · have hq := q.2.2.2; rw [show ub t w = i by omega] at hq; exact absurd (c.symm.trans hq) (by decide)
    · rw [bitI0 (by omega) (by omega)] at c
      have h2u : 2 ^ v < 1024 := pow_lt31 (n := 10) (by omega)
      rw [nI_clamp (by omega), show I 58 i = nI v from by rw [← eu]; exact e58 v hv ho]
      show k (nI s, nI m ||| (1 : Int32) <<< (nI v &&& 31), nI i + 1, I, J)
      rw [nI_1, shlI (by omega), nI_or]
      refine hk _ ⟨m ||| 2 ^ v, rfl, or_lt (n := 10) hm h2u, fun w hw => ?_⟩
      rw [tb_or2, Bool.or_eq_true, decide_eq_true_iff, hb w hw]
      constructor
      · rintro (q | q)
        · exact ⟨q.1, q.2.1, by omega, q.2.2.2⟩
        · subst q; exact ⟨hv, ho, by omega, by rw [eu]; simpa using c⟩
      · rintro ⟨a1, a2, a3, a4⟩
        rcases Nat.lt_or_ge (ub t w) i with c9 | c9
        · exact Or.inl ⟨a1, a2, c9, a4⟩
        · exact Or.inr (ub_inj ho a2 (by omega))
theorem V_mask {h : Ho} {t : Se} {s m : Nat} (h1 : hoOK h) (hm : mkW h t s m) (p a : Nat) : V h t (okA t m) p a = V h t (sbs t s) p a := by
  have hw10 := h1.1
  refine V_congr (fun w hw => ?_) p a
  have := hm.2 w (by omega)
  unfold okA
  cases hx : sbs t s w with
  | true => rw [this.mpr ⟨hw, hx⟩, (sbs_iff.mp hx).1]; rfl
  | false =>
    cases hy : m.testBit w with
    | false => rw [Bool.and_false]
    | true => exact absurd (hx.symm.trans (this.mp hy).2) (by decide)
theorem pe_countSets {h : Ho} {t : Se} {I : MI} {J : MJ} {Q : MI → MJ → Prop} (h1 : hoOK h) (h2 : seOK h t) (hX : CX I J h t) (hS : I 39 12 = 0 ∨ Ph I J h t) (h14 : S_sw (I 39 8) (I 39 9)) (h8 : ub t (hoW h) ≤ 8) (hOp : I 55 8 = 0 ∨ OpOK (I 55) (I 58) (J 59) h t) (hCt : I 55 9 = 0 ∨ CtOK (J 60) h t)
    (hQ : ∀ (I' : MI) (J' : MJ), (∀ c, c < 39 ∨ 59 ≤ c → I' c = I c) → (∀ c, c < 39 → J' c = J c) → S_sw (I' 39 8) (I' 39 9) → (I' 39 12 = 0 ∨ Ph I' J' h t) → OpOK (I' 55) (I' 58) (J' 59) h t → CtOK (J' 60) h t → Q I' J') : P_X0_openSets I J (fun I1 J1 => P_X0_countSets I1 J1 Q) := by
  refine pe_openSets h1 h2 hX hS h14 h8 hOp (fun I1 J1 f1 f2 f3 f4 f5 f6 => ⟨fun c => ?_, fun c => hQ I1 J1 f1 (fun c hc => f2 c (Or.inl hc)) f3 f4 f5 ?_⟩)
  · have hX1 := CX_fr hX (fun c hc => f1 c (Or.inl hc)) (fun c hc => f2 c (Or.inl hc))
    refine pe_refresh h1 h2 hX1 f4 (fun I2 J2 g1 p2 => ?_)
    have g1N := frR_N g1
    have hX2 := CX_N hX1 g1N
    have h14b := frN_sw g1N f3
    have hO2 : OpOK (I2 55) (I2 58) (J2 59) h t := by
      rw [g1N.1.1 55 (by decide), g1N.1.1 58 (by decide), g1N.1.2 59 (by decide)]; exact f5
    obtain ⟨o1, o2, o3, o4⟩ := id hO2
    have hp8 : 2 ^ ub t (hoW h) ≤ 2 ^ 8 := Nat.pow_le_pow_right (by decide) h8
    refine lpx_up (fun s z => ∃ J' : MJ, z = (nI s, I2, J') ∧ (∀ c, c ≠ 53 → c ≠ 44 → c ≠ 45 → c ≠ 60 → J' c = J2 c) ∧ Ph I2 J' h t ∧ ∀ r, r < s → J' 60 r = lN (V h t (sbs t r) (tp t) 4)) (2 ^ ub t (hoW h)) ?_ ?_ 0 _ (Nat.zero_le _) ⟨J2, rfl, fun _ _ _ _ _ => rfl, p2, fun r hr => absurd hr (Nat.not_lt_zero r)⟩
    · rintro z k ⟨J', rfl, y1, y2, y3⟩
      have e : (1 : Int32) <<< (I2 55 7 &&& 31) = nI (2 ^ ub t (hoW h)) := by rw [o2, shlI (by omega)]
      refine pk_le (2 ^ ub t (hoW h)) (2 ^ ub t (hoW h)) (fun _ => ?_) (fun c => by omega) e
      rintro I9 rfl
      refine hQ _ J' (fun c hc => (wI_n _ (by omega) _).trans ((g1N.1.1 c (by omega)).trans (f1 c hc))) (fun c hc => (y1 c (by omega) (by omega) (by omega) (by omega)).trans ((g1N.1.2 c (by omega)).trans (f2 c (Or.inl hc)))) h14b (Or.inr y2) ⟨o1, o2, o3, fun s hs => ?_⟩ y3
      rw [y1 59 (by decide) (by decide) (by decide) (by decide)]; exact o4 s hs
    · rintro s z k hs ⟨J', rfl, y1, y2, y3⟩ hk
      have e : (1 : Int32) <<< (I2 55 7 &&& 31) = nI (2 ^ ub t (hoW h)) := by rw [o2, shlI (by omega)]
      have hO' : OpOK (I2 55) (I2 58) (J' 59) h t := by rw [y1 59 (by decide) (by decide) (by decide) (by decide)]; exact hO2
      have fin : ∀ (J3 : MJ) (v : Int64), (∀ c, c ≠ 53 → c ≠ 44 → c ≠ 45 → J3 c = J' c) → Ph I2 J3 h t → v = lN (V h t (sbs t s) (tp t) 4) → P_X0_countSets_63 Q k (nI s) (nI s) v I2 J3 := fun J3 v v1 v2 v3 => by
        refine ⟨vp_in_nI (by omega) (by decide), ?_⟩
        rintro J4 rfl
        rw [nI_1, nI_clamp (by omega)]
        refine hk _ ⟨_, rfl, fun c c1 c2 c3 c4 => (wJ_n _ c4 _).trans ((v1 c c1 c2 c3).trans (y1 c c1 c2 c3 c4)), v2, fun r hr => ?_⟩
        show vp_updL (J3 60) s v r = _
        by_cases e : r = s
        · subst e; rw [pk_uLs]; exact v3
        · rw [pk_uLn e, v1 60 (by decide) (by decide) (by decide)]; exact y3 r (by omega)
      refine pk_le (2 ^ ub t (hoW h)) s (fun c => by omega) (fun _ => ?_) e
      refine pe_isOpened hO' hs (fun hv => ⟨fun e => absurd e no10, fun _ => ?_⟩) (fun hv => ⟨fun _ => fin J' 0 (fun _ _ _ _ => rfl) y2 ?_, fun e => absurd rfl e⟩)
      · refine pe_wordsOf h1 h8 o2 o3 (by omega) (fun m hm => ?_)
        refine pe_foldWithin h1 h2 (CX_fr hX2 (fun _ _ => rfl) (fun c hc => y1 c (by omega) (by omega) (by omega) (by omega))) y2 h14b hm.1 (fun J3 z1 z2 => fin J3 _ z1 z2 ?_)
        rw [V_mask h1 hm]
      · rw [show V h t (sbs t s) (tp t) 4 = 0 by omega]; rfl
  · rw [f6] at c
    rw [f2 60 (Or.inr rfl)]
    exact hCt.resolve_left c
/-! the reference -/
theorem pe_unbarred {h : Ho} {t : Se} {A : MI} {B : MJ} {Q : Int32 → MI → MJ → Prop} (h1 : hoOK h) (h2 : seOK h t) (e2 : A 0 2 = nI (hoW h)) (e8 : A 6 8 = nI (seX t)) (hQ : Q (nI (ub t (hoW h))) A B) : P_X12_unbarred A B Q := by
  have hXl := seX_lt h1 (seOK_O h2)
  have hu := ub_bc (t := t) h1 h2.2.2.2.2.2
  refine ⟨vp_in_nI (n := 8) (by decide) (by decide), ?_⟩
  rw [show A 6 (8 : Int32).toNatClampNeg = nI (seX t) from e8]
  refine pe_ones (by omega) ?_
  rw [e2, pk_sub (by omega), show hoW h - bcN (seX t) = ub t (hoW h) by omega]
  exact hQ
theorem pe_someOf {h : Ho} {t : Se} {s : Nat} {A : MI} {B : MJ} {Q : Int32 → MI → MJ → Prop} (h1 : hoOK h) (h2 : seOK h t) (e2 : A 0 2 = nI (hoW h)) (e8 : A 6 8 = nI (seX t)) (hs : s < 256) (hQ : ∀ m, mkW h t s m → Q (nI m) A B) : P_X12_someOf (nI s) A B Q := by
  have hw10 := h1.1
  have hXl := seX_lt h1 (seOK_O h2)
  refine lpx_up (fun w z => ∃ m : Nat, z = (nI s, nI m, nI (ub t w), nI w, A, B) ∧ m < 1024 ∧ ∀ v, v < 10 → (m.testBit v = true ↔ v < w ∧ sbs t s v = true)) (hoW h) ?_ ?_ 0 _ (Nat.zero_le _) ⟨0, rfl, by decide, fun w _ => ⟨fun q => absurd q (by simp), fun q => absurd q.1 (Nat.not_lt_zero _)⟩⟩
  · rintro z k ⟨m, rfl, hm, hb⟩
    exact pk_le (hoW h) (hoW h) (fun _ => hQ m ⟨hm, hb⟩) (fun c => by omega) e2
  · rintro w z k hw ⟨m, rfl, hm, hb⟩ hk
    have hub := ub_le t w
    refine pk_le (hoW h) w (fun c => by omega) (fun _ => ⟨vp_in_nI (n := 8) (by decide) (by decide), ?_⟩) e2
    rw [show A 6 (8 : Int32).toNatClampNeg = nI (seX t) from e8]
    have keep : sbs t s w = false → ∀ v, v < 10 → (m.testBit v = true ↔ v < w + 1 ∧ sbs t s v = true) := fun hno v hv => by
      rw [hb v hv]
      refine ⟨fun q => ⟨by omega, q.2⟩, fun q => ⟨?_, q.2⟩⟩
      rcases Nat.lt_or_ge v w with c9 | c9
      · exact c9
      · have hq := q.2; rw [show v = w by omega] at hq; exact absurd (hno.symm.trans hq) (by decide)
    refine pe_hasM (by omega) (by omega) (fun hx => ⟨fun _ => ?_, fun e => absurd e no10⟩) (fun hx => ⟨fun e => absurd rfl e, fun _ => ?_⟩)
    · have ho : okB t w = false := by unfold okB; rw [hx]; rfl
      have eu : ub t (w + 1) = ub t w := by show ub t w + (if okB t w then 1 else 0) = _; rw [ho]; rfl
      show k (nI s, nI m, nI (ub t w), nI w + 1, A, B)
      rw [nI_1, ← eu]
      exact hk _ ⟨m, rfl, hm, keep (by unfold sbs; rw [ho]; rfl)⟩
    · have ho : okB t w = true := by unfold okB; rw [hx]; rfl
      have eu : ub t (w + 1) = ub t w + 1 := by show ub t w + (if okB t w then 1 else 0) = _; rw [ho]; rfl
      refine pe_hasM (by omega) (by omega) (fun hy => ⟨fun e => absurd e no10, fun _ => ?_⟩) (fun hy => ⟨fun _ => ?_, fun e => absurd rfl e⟩)
      · have h2u : 2 ^ w < 1024 := pow_lt31 (n := 10) (by omega)
        show k (nI s, nI m ||| (1 : Int32) <<< (nI w &&& 31), nI (ub t w) + 1, nI w + 1, A, B)
        rw [nI_1, nI_1, ← eu, shlI (by omega), nI_or]
        refine hk _ ⟨m ||| 2 ^ w, rfl, or_lt (n := 10) hm h2u, fun v hv => ?_⟩
        rw [tb_or2, Bool.or_eq_true, decide_eq_true_iff, hb v hv]
        constructor
        · rintro (q | q)
          · exact ⟨by omega, q.2⟩
          · subst q; exact ⟨by omega, sbs_iff.mpr ⟨ho, hy⟩⟩
        · rintro ⟨a1, a2⟩
          rcases Nat.lt_or_ge v w with c9 | c9
          · exact Or.inl ⟨c9, a2⟩
          · exact Or.inr (by omega)
      · show k (nI s, nI m ||| (0 : Int32), nI (ub t w) + 1, nI w + 1, A, B)
        rw [nI_1, nI_1, ← eu, or_zero]
        exact hk _ ⟨m, rfl, hm, keep (by unfold sbs; rw [ho, hy]; rfl)⟩
theorem pe_bitOf {h : Ho} {t : Se} {w : Nat} {A : MI} {B : MJ} {Q : Int32 → MI → MJ → Prop} (h1 : hoOK h) (h2 : seOK h t) (e8 : A 6 8 = nI (seX t)) (hw : w < hoW h) (hQ : Q ((1 : Int32) <<< (nI (ub t w) &&& 31)) A B) : P_X12_bitOf (nI w) A B Q := by
  have hw10 := h1.1
  have hXl := seX_lt h1 (seOK_O h2)
  refine lpx_up (fun i z => z = (nI w, nI (ub t i), nI i, A, B)) w ?_ ?_ 0 _ (Nat.zero_le _) rfl
  · rintro z k rfl; exact pk_le w w (fun _ => hQ) (fun c => by omega)
  · rintro i z k hi rfl hk
    refine pk_le w i (fun c => by omega) (fun _ => ⟨vp_in_nI (n := 8) (by decide) (by decide), ?_⟩)
    rw [show A 6 (8 : Int32).toNatClampNeg = nI (seX t) from e8]
    refine pe_hasM (by omega) (by omega) (fun hx => ⟨fun e => absurd e no10, fun _ => ?_⟩) (fun hx => ⟨fun _ => ?_, fun e => absurd rfl e⟩)
    · have eu : ub t (i + 1) = ub t i + 0 := by show ub t i + (if okB t i then 1 else 0) = _; unfold okB; rw [hx]; rfl
      show k (nI w, nI (ub t i) + (0 : Int32), nI i + 1, A, B)
      rw [nI_1, show (0 : Int32) = nI 0 from rfl, nI_add, ← eu]; exact hk _ rfl
    · have eu : ub t (i + 1) = ub t i + 1 := by show ub t i + (if okB t i then 1 else 0) = _; unfold okB; rw [hx]; rfl
      show k (nI w, nI (ub t i) + (1 : Int32), nI i + 1, A, B)
      rw [nI_1, nI_1, ← eu]; exact hk _ rfl
theorem pe_layWorth {h : Ho} {t : Se} {A : MI} {B : MJ} {Q : MI → MJ → Prop} (h1 : hoOK h) (h2 : seOK h t) (hl : lexN A h) (hr : rowM (A 6) 0 h t) (h8 : ub t (hoW h) ≤ 8) (hQ : ∀ (A' : MI) (B' : MJ), frA A A' → frB B B' → CtOK (B' 29) h t → Q A' B') : P_X12_layWorth A B Q := by
  have hw10 := h1.1
  have hp8 : 2 ^ ub t (hoW h) ≤ 2 ^ 8 := Nat.pow_le_pow_right (by decide) h8
  refine pe_look (Or.inl rfl) h1 (seOK_O h2) hl.1 hl.2.2 hr (fun A1 fL hL => ?_)
  refine lpx_up (fun s z => ∃ (A' : MI) (B' : MJ), z = (nI s, A', B') ∧ frA A A' ∧ frB B B' ∧ (∃ ok, Lk (A' 0) (A' 19) (A' 21) (A' 26) h t ok) ∧ ∀ r, r < s → B' 29 r = lN (V h t (sbs t r) (tp t) 4)) (2 ^ ub t (hoW h)) ?_ ?_ 0 _ (Nat.zero_le _) ⟨A1, B, rfl, frL_A fL, frB_rfl, ⟨_, hL⟩, fun r hr => absurd hr (Nat.not_lt_zero r)⟩
  · rintro z k ⟨A', B', rfl, fA, fB, _, hc⟩
    have hl' := lexN_fr fA hl
    have e8 : A' 6 8 = nI (seX t) := by rw [fA.1 6 (by decide) (by decide)]; exact hr.2.2.2.2.2
    dsimp only [P_X12_layWorth_10]
    refine pe_unbarred h1 h2 hl'.1 e8 ?_
    rw [shlI (by omega)]
    exact pk_le (2 ^ ub t (hoW h)) (2 ^ ub t (hoW h)) (fun _ => hQ A' B' fA fB hc) (fun c => by omega)
  · rintro s z k hs ⟨A', B', rfl, fA, fB, ⟨ok, hL'⟩, hc⟩ hk
    have hl' := lexN_fr fA hl
    have e8 : A' 6 8 = nI (seX t) := by rw [fA.1 6 (by decide) (by decide)]; exact hr.2.2.2.2.2
    dsimp only [P_X12_layWorth_10]
    refine pe_unbarred h1 h2 hl'.1 e8 ?_
    rw [shlI (by omega)]
    refine pk_le (2 ^ ub t (hoW h)) s (fun c => by omega) (fun _ => ?_)
    refine pe_someOf h1 h2 hl'.1 e8 (by omega) (fun m hm => ?_)
    rintro A2 rfl
    have hL2 : Lk (mI A' 0 32 (nI m) 0) (A' 19) (A' 21) (A' 26) h t (sbs t s) := by
      refine ⟨hL'.1, ⟨m, rfl, hm.1, fun w hw => ?_⟩, hL'.2.2.1, hL'.2.2.2.1, hL'.2.2.2.2⟩
      have := hm.2 w (by omega)
      cases hx : sbs t s w with
      | true => exact this.mpr ⟨hw, hx⟩
      | false =>
        cases hy : m.testBit w with
        | false => rfl
        | true => exact absurd (hx.symm.trans (this.mp hy).2) (by decide)
    have fA2 : frA A (mI A' 0 32 (nI m)) := ⟨fun c c1 c2 => (wI_n _ (by omega) _).trans (fA.1 c c1 c2), fun k hk => (mI_s _ _ _ _ _).trans ((upd_n (by omega)).trans (fA.2 k hk))⟩
    have hl2 := lexN_fr fA2 hl
    refine pe_layWays h1 (seOK_O h2) hl2.1 hl2.2.1 hL2 (fun B2 g2 hW2 => ?_)
    refine pe_all (seOK_O h2) hL2.1 hW2 ⟨vp_in_nI (by omega) (by decide), ?_⟩
    rintro B3 rfl
    rw [nI_1, nI_clamp (by omega)]
    refine hk _ ⟨_, _, rfl, fA2, fun c hc => (wJ_n _ (by omega) _).trans ((g2 c (by omega)).trans (fB c hc)), ⟨_, hL2⟩, fun r hr9 => ?_⟩
    show vp_updL (B2 29) s _ r = _
    by_cases e : r = s
    · subst e; rw [pk_uLs]
    · rw [pk_uLn e, g2 29 (by decide)]; exact hc r (by omega)
