def tsq (D : Nat → Nat) (t : Se) : Nat → Se
  | 0 => t
  | k + 1 => jS (tsq D t k) (D k)
theorem pe_ten {n : Nat} {A : MI} {B : MJ} {Q : Int64 → MI → MJ → Prop} (hn : n ≤ 4) (hQ : Q (lN (10000 ^ n)) A B) : P_X12_tenThousands (nI n) A B Q := by
  refine lpx_up (fun i z => z = (nI n, lN (10000 ^ i), nI i, A, B)) n ?_ ?_ 0 _ (Nat.zero_le _) rfl
  · rintro z k rfl
    exact pk_le n n (fun _ => hQ) (fun c => by omega)
  · rintro i z k hi rfl hk
    refine pk_le n i (fun c => by omega) (fun _ => ?_)
    rw [show (10000 : Int64) = lN 10000 from rfl, lN_mul, nI_1]
    exact hk _ (by rw [Nat.pow_succ])
theorem s_judge : st_judge Sim := by
  intro a b I J A B hs
  obtain ⟨h, t, hH⟩ := Sim_H.mp hs
  obtain ⟨h1, h2, h3, h4, h5, h6, h7, h8, h9, h10, h11, h12, h13, h14, h15⟩ := id hH
  have hX : CX I J h t := ⟨lexX_C h3, h5⟩
  have hl := lexM_N h4
  have hl1 : a < (1 : Int32) ↔ a.toInt < 1 := by rw [Int32.lt_iff_toInt_lt]; exact Iff.rfl
  have hbad : ¬ (1 ≤ a.toInt ∧ a.toInt ≤ 4) → P_X12_judge a b A B (fun r2 I2 J2 => (-2 : Int32) = r2 ∧ Sim I J I2 J2) := fun hn =>
    pe_inI (p := 1) (q := 4) (by decide) (by decide) (fun c c2 => absurd ⟨c, c2⟩ hn) (fun _ => ⟨fun _ => ⟨rfl, hs⟩, fun c => absurd rfl c⟩)
  refine ⟨fun c => hbad (by rw [hl1] at c; omega), fun c => ⟨fun c2 => hbad (by rw [show (4 : Int32) = nI 4 from rfl, lt_lit (by decide)] at c2; omega), fun c2 => ?_⟩⟩
  rw [hl1] at c
  rw [show (4 : Int32) = nI 4 from rfl, lt_lit (by decide)] at c2
  obtain ⟨n, hn4, rfl⟩ : ∃ n, n ≤ 4 ∧ a = nI n := nI_of2 (M := 4) (n := 4) (by decide) (by rw [lt0]; omega) (by rw [show (4 : Int32) = nI 4 from rfl, le_lit (by decide)]; omega)
  have hn1 : 1 ≤ n := by rw [nI_toInt (by omega)] at c; omega
  have p4 : (10000 : Nat) ^ n ≤ 10000 ^ 4 := Nat.pow_le_pow_right (by decide) hn4
  have pp : 0 < (10000 : Nat) ^ n := Nat.pow_pos (by decide)
  have p63 : (10000 : Nat) ^ 4 < 2 ^ 63 := by decide
  -- the reference up to its copy
  have href : ∀ K : Int32 → MI → MJ → Prop, (¬ (0 ≤ b.toInt ∧ b.toInt < (10000 ^ n : Nat)) → K (-2) A B) → (0 ≤ b.toInt ∧ b.toInt < (10000 ^ n : Nat) → P_X12_copy 6 7 A B (fun I37 J37 => lpx (P_X12_judge_43 K) (nI n, b, (0 : Int32), I37, J37))) → P_X12_judge (nI n) b A B K := fun K k0 k1 => by
    refine pe_inI (p := 1) (q := 4) (by decide) (by decide) (fun _ _ => ⟨fun e => absurd e no10, fun _ => ?_⟩) (fun hh => absurd ⟨by rw [nI_toInt (by omega)]; omega, by rw [nI_toInt (by omega)]; omega⟩ hh)
    refine pe_ten hn4 ?_
    have et : (lN (10000 ^ n) - (1 : Int64)).toInt = ((10000 ^ n : Nat) : Int) - 1 := by
      rw [show (1 : Int64) = lN 1 from rfl, lN_sub pp, pk_lT (by omega)]; omega
    have e0 : (0 : Int64).toInt = 0 := by decide
    refine pe_in (fun d1 d2 => ⟨fun _ => k1 ?_, fun e => absurd e no10⟩) (fun d => ⟨fun e => absurd rfl e, fun _ => k0 (fun q => d ?_)⟩)
    · rw [Int64.le_iff_toInt_le] at d1 d2; rw [et] at d2; omega
    · rw [Int64.le_iff_toInt_le, Int64.le_iff_toInt_le, et, e0]; omega
  refine ⟨fun cb => ?_, fun cb => href _ (fun _ => ⟨rfl, hs⟩) (fun q => absurd (by rw [Int64.le_iff_toInt_le]; show (0 : Int) ≤ _; exact q.1) cb)⟩
  obtain ⟨R, hR, rfl⟩ : ∃ R : Nat, R < 2 ^ 63 ∧ b = lN R := pk_lOf (fun q => by
    rw [Int64.lt_iff_toInt_lt] at q; rw [Int64.le_iff_toInt_le] at cb
    have e0 : (0 : Int64).toInt = 0 := by decide
    omega)
  have en1 : nI n - (1 : Int32) = nI (n - 0) - 1 := rfl
  rw [en1]
  refine lpx_up (fun j z => ∃ f : Nat → Int32, z = (nI n, lN (R / 10000 ^ j), nI (n - j) - 1, wI I 62 f, J) ∧ ∀ i, n - j ≤ i → i < n → f i = nI (R / 10000 ^ (n - 1 - i) % 10000)) n ?_ ?_ 0 _ (Nat.zero_le _) ⟨I 62, by rw [wI_self, Nat.pow_zero, Nat.div_one], fun i c1 c2 => by omega⟩
  rotate_left
  · rintro j z k hj ⟨f, rfl, hf⟩ hk
    obtain ⟨i, hi⟩ : ∃ i, n - j = i + 1 := ⟨n - j - 1, by omega⟩
    have hi2 : n - (j + 1) = i := by omega
    rw [hi] at hf ⊢
    rw [hi2] at hk
    rw [nI_pred]
    have hle : R / 10000 ^ j ≤ R := Nat.div_le_self _ _
    refine ⟨fun c => absurd c (nI_pos (by omega)), fun _ => ⟨vp_in_nI (by omega) (by decide), ?_⟩⟩
    rintro I45 rfl
    rw [nI_clamp (by omega), sub1]
    have e1 : lN (R / 10000 ^ j) / (10000 : Int64) = lN (R / 10000 ^ (j + 1)) := by
      rw [show (10000 : Int64) = lN 10000 from rfl, pk_lDiv (by omega) (by decide) (by decide), Nat.div_div_eq_div_mul, Nat.pow_succ]
    have e2 : lN (R / 10000 ^ j) - lN (R / 10000 ^ j) / (10000 : Int64) * (10000 : Int64) = lN (R / 10000 ^ j % 10000) := pk_lRem (b := 10000) (by omega) (by decide) (by decide)
    rw [e2, e1, lN_i]
    refine hk _ ⟨upd f i (nI (R / 10000 ^ j % 10000)), ?_, fun i2 c1 c2 => ?_⟩
    · show (_, _, _, wI (wI I 62 f) 62 (upd (wI I 62 f 62) i _), J) = _
      rw [wI_wI, wI_s]
    · by_cases e : i2 = i
      · subst e; rw [upd_s rfl, show n - 1 - i2 = j by omega]
      · rw [upd_n e]; exact hf i2 (by omega) c2
  rintro z k ⟨f, rfl, hf⟩
  rw [Nat.sub_self] at hf ⊢
  refine ⟨fun _ => ⟨fun c0 => ?_, fun c0 => ?_⟩, fun c => absurd (show nI 0 - 1 < (0 : Int32) by decide) c⟩
  rotate_left
  · -- too long a row
    have hbig : ¬ R < 10000 ^ n := fun q => c0 (by rw [Nat.div_eq_of_lt q]; rfl)
    refine href _ (fun _ => ⟨rfl, ?_⟩) (fun q => ?_)
    · exact Sim_ph3 hH (fun c hc => wI_n _ (by omega) _) (fun _ _ => rfl) frM_rfl h14 h15.1
    · rw [pk_lT hR] at q; omega
  have hsmall : R < 10000 ^ n := by
    have hle : R / 10000 ^ n ≤ R := Nat.div_le_self _ _
    have := (pk_lEQ (b := 0) (by omega) (by decide)).mp c0
    rcases Nat.lt_or_ge R (10000 ^ n) with q | q
    · exact q
    · have := Nat.div_pos q pp; omega
  -- how many come true
  obtain ⟨k0, hk0, hyes, hno⟩ : ∃ k0, k0 ≤ n ∧ (∀ i, i < k0 → jd h (tsq (fun i => R / 10000 ^ (n - 1 - i) % 10000) t i) (R / 10000 ^ (n - 1 - i) % 10000)) ∧ (k0 < n → ¬ jd h (tsq (fun i => R / 10000 ^ (n - 1 - i) % 10000) t k0) (R / 10000 ^ (n - 1 - k0) % 10000)) := by
    by_cases hall : ∀ i, i < n → jd h (tsq (fun i => R / 10000 ^ (n - 1 - i) % 10000) t i) (R / 10000 ^ (n - 1 - i) % 10000)
    · exact ⟨n, Nat.le_refl n, hall, fun e => absurd e (Nat.lt_irrefl n)⟩
    · have hex : ∃ i, i < n ∧ ¬ jd h (tsq (fun i => R / 10000 ^ (n - 1 - i) % 10000) t i) (R / 10000 ^ (n - 1 - i) % 10000) := by
        apply Classical.byContradiction; intro hno
        exact hall (fun j hj => Classical.byContradiction (fun hn => hno ⟨j, hj, hn⟩))
      obtain ⟨i, ⟨hi, hn⟩, hmin⟩ := pk_least _ hex
      exact ⟨i, by omega, fun j hj => Classical.byContradiction (fun hn => hmin j hj ⟨by omega, hn⟩), fun _ => hn⟩
  have hok : ∀ i, i ≤ k0 → seOK h (tsq (fun i => R / 10000 ^ (n - 1 - i) % 10000) t i) := by
    intro i
    induction i with
    | zero => intro _; exact h2
    | succ i ih => intro hi; exact jS_ok (ih (by omega)) (hyes i (by omega))
  have hdl : ∀ i, R / 10000 ^ (n - 1 - i) % 10000 < 10000 := fun i => Nat.mod_lt _ (by decide)
  -- the reference, all of it
  have hrf : ∀ (I2 : MI) (J2 : MJ), (∀ (A' : MI) (B' : MJ), frM A A' B B' → Sim I2 J2 A' B') → P_X12_judge (nI n) (lN R) A B (fun r2 A2 B2 => (if n ≤ k0 then (-9 : Int32) else nI k0) = r2 ∧ Sim I2 J2 A2 B2) := fun I2 J2 hS => by
    refine href _ (fun q => absurd ⟨by rw [pk_lT hR]; omega, by rw [pk_lT hR]; omega⟩ q) (fun _ => ?_)
    refine pe_copyM (by decide) (fun g hg => ?_)
    have hrg : rowM g 0 h t := by
      have hw10 := h1.1
      exact ⟨fun l hl => by rw [hg _ (by omega)]; exact h6.1 l hl, fun u hu => by rw [hg _ (by omega)]; exact h6.2.1 u hu, fun a ha => by rw [hg _ (by omega)]; exact h6.2.2.1 a ha, by rw [hg _ (by omega)]; exact h6.2.2.2.1, by rw [hg _ (by omega)]; exact h6.2.2.2.2.1, by rw [hg _ (by omega)]; exact h6.2.2.2.2.2⟩
    refine lpx_up (fun i z => ∃ (A' : MI) (B' : MJ), z = (nI n, lN R, nI i, A', B') ∧ frM A A' B B' ∧ rowM (A' 7) 0 h (tsq (fun i => R / 10000 ^ (n - 1 - i) % 10000) t i)) k0 ?_ ?_ 0 _ (Nat.zero_le _) ⟨_, B, rfl, ⟨fun c c1 c2 c3 => wI_n _ c3 _, fun k hk => rfl, rfl⟩, hrg⟩
    all_goals
      have fig : ∀ i, i < n → ∀ (A' : MI) (B' : MJ) (K : Int32 → MI → MJ → Prop), P_X12_judged (nI ((R / 10000 ^ (n - 1 - i) % 10000) / 1000)) (nI ((R / 10000 ^ (n - 1 - i) % 10000) / 100 % 10)) (nI ((R / 10000 ^ (n - 1 - i) % 10000) / 10 % 10)) (nI ((R / 10000 ^ (n - 1 - i) % 10000) % 10)) A' B' K → P_X12_tenThousands ((nI n - (1 : Int32)) - nI i) A' B' (fun r56 I56 J56 => ¬ r56 = 0 ∧ (P_X12_judged ((((lN R / r56) - (lN R / r56) / (10000 : Int64) * (10000 : Int64)).toInt32) / (1000 : Int32)) (((((lN R / r56) - (lN R / r56) / (10000 : Int64) * (10000 : Int64)).toInt32) / (100 : Int32)) - ((((lN R / r56) - (lN R / r56) / (10000 : Int64) * (10000 : Int64)).toInt32) / (100 : Int32)) / (10 : Int32) * (10 : Int32)) (((((lN R / r56) - (lN R / r56) / (10000 : Int64) * (10000 : Int64)).toInt32) / (10 : Int32)) - ((((lN R / r56) - (lN R / r56) / (10000 : Int64) * (10000 : Int64)).toInt32) / (10 : Int32)) / (10 : Int32) * (10 : Int32)) ((((lN R / r56) - (lN R / r56) / (10000 : Int64) * (10000 : Int64)).toInt32) - (((lN R / r56) - (lN R / r56) / (10000 : Int64) * (10000 : Int64)).toInt32) / (10 : Int32) * (10 : Int32)) I56 J56 K)) := fun i hi A' B' K hK => by
        rw [show (1 : Int32) = nI 1 from rfl, pk_sub hn1, pk_sub (by omega)]
        have q4 : (10000 : Nat) ^ (n - 1 - i) ≤ 10000 ^ 4 := Nat.pow_le_pow_right (by decide) (by omega)
        have qp : 0 < (10000 : Nat) ^ (n - 1 - i) := Nat.pow_pos (by decide)
        refine pe_ten (by omega) ⟨fun e => ?_, ?_⟩
        · have := (pk_lEQ (b := 0) (by omega) (by decide)).mp e; omega
        · have hle : R / 10000 ^ (n - 1 - i) ≤ R := Nat.div_le_self _ _
          have hd := hdl i
          rw [pk_lDiv hR qp (by omega), show lN (R / 10000 ^ (n - 1 - i)) - lN (R / 10000 ^ (n - 1 - i)) / (10000 : Int64) * (10000 : Int64) = lN (R / 10000 ^ (n - 1 - i) % 10000) from pk_lRem (b := 10000) (by omega) (by decide) (by decide), lN_i]
          generalize R / 10000 ^ (n - 1 - i) % 10000 = F at hd hK ⊢
          rw [show nI F / (1000 : Int32) = nI (F / 1000) from pk_div (d := 1000) (by omega) (by decide) (by decide), show nI F / (100 : Int32) = nI (F / 100) from pk_div (d := 100) (by omega) (by decide) (by decide), show nI F - nI F / (10 : Int32) * (10 : Int32) = nI (F % 10) from pk_rem (d := 10) (by omega) (by decide) (by decide), show nI F / (10 : Int32) = nI (F / 10) from pk_div (d := 10) (by omega) (by decide) (by decide), show nI (F / 100) - nI (F / 100) / (10 : Int32) * (10 : Int32) = nI (F / 100 % 10) from pk_rem (d := 10) (by omega) (by decide) (by decide), show nI (F / 10) - nI (F / 10) / (10 : Int32) * (10 : Int32) = nI (F / 10 % 10) from pk_rem (d := 10) (by omega) (by decide) (by decide)]
          exact hK
    · rintro z k2 ⟨A', B', rfl, fM, hrow⟩
      rcases Nat.lt_or_ge k0 n with hlt | hge
      · refine pk_le n k0 (fun c => by omega) (fun _ => fig k0 hlt A' B' _ ?_)
        refine pe_judged h1 (hok k0 (Nat.le_refl _)) (frM_lex fM hl) hrow (hdl k0) (fun A2 B2 _ hj _ => absurd hj (hno hlt)) (fun A2 B2 gM _ => ⟨fun e => absurd rfl e, fun _ => ⟨?_, hS A2 B2 (frM_tr fM gM)⟩⟩)
        rw [if_neg (by omega)]
      · refine pk_le n k0 (fun _ => ⟨?_, hS A' B' fM⟩) (fun c => by omega)
        rw [if_pos hge]
    · rintro i z k2 hi ⟨A', B', rfl, fM, hrow⟩ hk2
      refine pk_le n i (fun c => by omega) (fun _ => fig i (by omega) A' B' _ ?_)
      refine pe_judged h1 (hok i (by omega)) (frM_lex fM hl) hrow (hdl i) (fun A2 B2 gM _ hrow2 => ⟨fun _ => ?_, fun e => absurd e no10⟩) (fun A2 B2 _ hj => absurd (hyes i hi) hj)
      rw [nI_1]
      exact hk2 _ ⟨A2, B2, rfl, frM_tr fM gM, hrow2⟩
  -- the class
  refine pe_copy (k := 21) (w := 17) h1 (Or.inr (by decide)) h5 (fun o b r f2 hset => ?_)
  have fw : ∀ c, c ≠ 21 → c ≠ 22 → c ≠ 23 → c ≠ 24 → wk (wI I 62 f) 21 o b r f2 c = wI I 62 f c := fun c c1 c2 c3 c4 => (wI_n _ c4 _).trans ((wI_n _ c3 _).trans ((wI_n _ c2 _).trans (wI_n _ c1 _)))
  have fin : ∀ (I' : MI) (J' : MJ), frJ (wk (wI I 62 f) 21 o b r f2) I' J J' → S_sw (I' 39 8) (I' 39 9) → P_X11_judge_110 (fun r I J => P_X12_judge (nI n) (lN R) A B (fun r2 I2 J2 => r = r2 ∧ Sim I J I2 J2)) (nI n) (nI k0) I' J' := fun I' J' fJ hsw => by
    have e21 : ∀ c, c = 21 ∨ c = 22 ∨ c = 23 ∨ c = 24 → I' c = wk (wI I 62 f) 21 o b r f2 c := fun c hc => fJ.1 c (by omega) (by omega) (by omega) (by omega) (by omega)
    refine pe_copy (k := 17) (w := 21) h1 (Or.inl (by decide)) (by rw [e21 21 (by decide), e21 22 (by decide), e21 23 (by decide), e21 24 (by decide)]; exact hset) (fun o3 b3 r3 f3 hset3 => ?_)
    rintro I5 rfl I7 rfl I8 rfl
    have hS : ∀ (A' : MI) (B' : MJ), frM A A' B B' → Sim (mI (mI (mI (wk I' 17 o3 b3 r3 f3) 39 12 0) 55 8 0) 55 9 (0 : Int32)) J' A' B' := fun A' B' fM => by
      refine ⟨h, t, SimH_g hH (fun c hc => ?_) (fun c hc => fJ.2 c hc) fM hset3 hsw ⟨Or.inl rfl, Or.inl rfl, Or.inl rfl⟩⟩
      refine (wI_n _ (by omega) _).trans ((wI_n _ (by omega) _).trans ((wI_n _ (by omega) _).trans ?_))
      refine ((wI_n _ (by omega) _).trans ((wI_n _ (by omega) _).trans ((wI_n _ (by omega) _).trans (wI_n _ (by omega) _)))).trans ?_
      exact (fJ.1 c (by omega) (by omega) (by omega) (by omega) (by omega)).trans ((fw c (by omega) (by omega) (by omega) (by omega)).trans (wI_n _ (by omega) _))
    have := hrf _ J' hS
    refine pk_le n k0 (fun c => ?_) (fun c => ?_)
    · rw [if_pos c] at this; exact this
    · rw [if_neg (by omega)] at this; exact this
  refine lpx_up (fun i z => ∃ (I' : MI) (J' : MJ), z = (nI n, nI i, I', J') ∧ frJ (wk (wI I 62 f) 21 o b r f2) I' J J' ∧ setX (I' 17) (I' 18) (I' 19) (I' 20) h (tsq (fun i => R / 10000 ^ (n - 1 - i) % 10000) t i) ∧ (I' 39 12 = 0 ∨ Ph I' J' h (tsq (fun i => R / 10000 ^ (n - 1 - i) % 10000) t i)) ∧ S_sw (I' 39 8) (I' 39 9)) k0 ?_ ?_ 0 _ (Nat.zero_le _) ⟨_, J, rfl, frJ_rfl, h5, h15.1, h14⟩
  · rintro z k2 ⟨I', J', rfl, g1, g2, g3, g4⟩
    rcases Nat.lt_or_ge k0 n with hlt | hge
    · refine pk_le n k0 (fun c => by omega) (fun _ => ⟨vp_in_nI (by omega) (by decide), ?_⟩)
      have e62 : I' 62 k0 = nI (R / 10000 ^ (n - 1 - k0) % 10000) := by
        rw [g1.1 62 (by decide) (by decide) (by decide) (by decide) (by decide)]
        show f k0 = _
        exact hf k0 (Nat.zero_le _) hlt
      rw [nI_clamp (by omega), e62]
      have hXi : CX I' J' h (tsq (fun i => R / 10000 ^ (n - 1 - i) % 10000) t k0) := ⟨lexC_J g1 hX.1, g2⟩
      refine pe_comesTrue h1 (hok k0 (Nat.le_refl _)) hXi g3 g4 (hdl k0) (fun I2 J2 _ hj => absurd hj (hno hlt)) (fun I2 J2 y1 _ y3 => ⟨fun _ => fin I2 J2 (frJ_tr g1 y1) y3, fun e => absurd rfl e⟩)
    · exact pk_le n k0 (fun _ => fin I' J' g1 g4) (fun c => by omega)
  · rintro i z k2 hi ⟨I', J', rfl, g1, g2, g3, g4⟩ hk2
    refine pk_le n i (fun c => by omega) (fun _ => ⟨vp_in_nI (by omega) (by decide), ?_⟩)
    have e62 : I' 62 i = nI (R / 10000 ^ (n - 1 - i) % 10000) := by
      rw [g1.1 62 (by decide) (by decide) (by decide) (by decide) (by decide)]
      show f i = _
      exact hf i (Nat.zero_le _) (by omega)
    rw [nI_clamp (by omega), e62]
    have hXi : CX I' J' h (tsq (fun i => R / 10000 ^ (n - 1 - i) % 10000) t i) := ⟨lexC_J g1 hX.1, g2⟩
    refine pe_comesTrue h1 (hok i (by omega)) hXi g3 g4 (hdl i) (fun I2 J2 y1 _ y2 y3 y4 => ⟨fun e => absurd e no10, fun _ => ?_⟩) (fun I2 J2 _ hj => absurd (hyes i hi) hj)
    rw [nI_1]
    exact hk2 _ ⟨I2, J2, rfl, frJ_tr g1 y1, y2, y3, y4⟩
