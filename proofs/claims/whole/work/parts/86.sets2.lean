theorem ub_ex {t : Se} {i : Nat} (n : Nat) (h : i < ub t n) : ∃ w, w < n ∧ okB t w = true ∧ ub t w = i := by
  induction n with
  | zero => exact absurd h (Nat.not_lt_zero i)
  | succ n ih =>
    have e : ub t (n + 1) = ub t n + (if okB t n then 1 else 0) := rfl
    rcases Nat.lt_or_ge i (ub t n) with q | q
    · obtain ⟨w, hw, r⟩ := ih q
      exact ⟨w, by omega, r⟩
    · cases ho : okB t n with
      | true => rw [ho] at e; have : (if true = true then 1 else 0) = 1 := rfl; exact ⟨n, by omega, ho, by omega⟩
      | false => rw [ho] at e; have : (if false = true then 1 else 0) = 0 := rfl; omega
theorem pe_listComing {h : Ho} {t : Se} {I : MI} {J : MJ} {Q : MI → MJ → Prop} (h1 : hoOK h) (h2 : seOK h t) (hX : CX I J h t) (h8 : ub t (hoW h) ≤ 8) (hQ : ∀ I' : MI, (∀ c, c ≠ 55 → c ≠ 58 → I' c = I c) → (∀ k, k ≠ 7 → I' 55 k = I 55 k) → I' 55 7 = nI (ub t (hoW h)) → (∀ w, w < hoW h → okB t w = true → I' 58 (ub t w) = nI w) → Q I' J) : P_X0_listComing I J Q := by
  have hw10 := h1.1
  have hXl := seX_lt h1 (seOK_O h2)
  rintro I2 rfl
  -- the first w at which the words end, or eight have come
  refine lpx_m (fun z => ∃ (w : Nat) (I' : MI), w ≤ hoW h ∧ z = (nI w, I', J) ∧ (∀ c, c ≠ 55 → c ≠ 58 → I' c = I c) ∧ (∀ k, k ≠ 7 → I' 55 k = I 55 k) ∧ I' 55 7 = nI (ub t w) ∧ ∀ v, v < w → okB t v = true → I' 58 (ub t v) = nI v) (fun z => hoW h - z.1.toNatClampNeg) ?_ _ ⟨0, _, Nat.zero_le _, rfl, fun c c1 _ => wI_n _ c1 _, fun k hk => (mI_s I 55 7 _ k).trans (upd_n hk), (mI_s I 55 7 _ 7).trans (upd_s rfl), fun v hv => absurd hv (Nat.not_lt_zero v)⟩
  rintro z k ⟨w, I', hw, rfl, g1, g2, g3, g4⟩ hk
  have hn : I' 12 4 = nI (hoW h) := by rw [g1 12 (by decide) (by decide)]; exact hX.1.1
  have hX5 : I' 17 5 = nI (seX t) := by rw [g1 17 (by decide) (by decide)]; exact hX.2.2.2.2.2.2
  have hcw : (nI w).toNatClampNeg = w := nI_clamp (by omega)
  have hub := ub_le t w
  refine pk_le (hoW h) w (fun c => ?_) (fun c => ?_) hn
  · obtain rfl : w = hoW h := by omega
    exact hQ I' g1 g2 g3 g4
  · refine pk_le 8 (ub t w) (fun c2 => ?_) (fun c2 => ?_) rfl g3
    · have hm := ub_mono t (Nat.le_of_lt c)
      have e : ub t w = ub t (hoW h) := by omega
      refine hQ I' g1 g2 (by rw [g3, e]) (fun v hv ho => ?_)
      rcases Nat.lt_or_ge v w with q | q
      · exact g4 v q ho
      · have := ub_lt hv ho; have := ub_mono t q; omega
    · rw [hX5]
      have hlt : ∀ I3 : MI, hoW h - (nI (w + 1)).toNatClampNeg < hoW h - (nI w).toNatClampNeg := fun _ => by
        rw [hcw, nI_clamp (by omega)]; omega
      refine ⟨fun c3 => ?_, fun c3 => ⟨by rw [g3]; exact vp_in_nI (by omega) (by decide), ?_⟩⟩
      · rw [bitI0 (by omega) (by omega)] at c3
        have ho : okB t w = false := by unfold okB; cases hb : (seX t).testBit w with | true => rfl | false => exact absurd hb c3
        have eu : ub t (w + 1) = ub t w := by show ub t w + (if okB t w then 1 else 0) = _; rw [ho]; rfl
        show k (nI w + 1, I', J)
        rw [nI_1]
        refine hk _ ⟨w + 1, I', c, rfl, g1, g2, by rw [eu]; exact g3, fun v hv hov => ?_⟩ (hlt I')
        by_cases e : v = w
        · subst e; exact absurd (ho.symm.trans hov) (by decide)
        · exact g4 v (by omega) hov
      · rw [bitI0 (by omega) (by omega)] at c3
        have ho : okB t w = true := by unfold okB; rw [c3]; rfl
        have eu : ub t (w + 1) = ub t w + 1 := by show ub t w + (if okB t w then 1 else 0) = _; rw [ho]; rfl
        rintro I50 rfl I58 rfl
        show k (nI w + 1, _, J)
        rw [nI_1, g3, nI_clamp (by omega)]
        refine hk _ ⟨w + 1, _, c, rfl, fun c c1 c2 => (wI_n _ c1 _).trans ((wI_n _ c2 _).trans (g1 c c1 c2)), fun k hk => ?_, ?_, fun v hv hov => ?_⟩ (hlt I')
        · rw [mI_s, upd_n hk]; exact g2 k hk
        · rw [mI_s, upd_s rfl]
          show I' 55 7 + 1 = _
          rw [g3, nI_1, eu]
        · show upd (I' 58) (ub t w) (nI w) (ub t v) = nI v
          by_cases e : v = w
          · subst e; rw [upd_s rfl]
          · rw [upd_n (fun q => e (ub_inj hov ho q))]; exact g4 v (by omega) hov
theorem stL_bit : ∀ (i : Fin 6) (b : Fin 64), (stL i.val).toBitVec.getLsbD b.val = b.val.testBit i.val := by decide +kernel
theorem set_bit {k b i : Nat} (hb : b < 64) : (64 * k + b).testBit i = if i < 6 then b.testBit i else k.testBit (i - 6) := by
  have := Nat.testBit_two_pow_mul_add (i := 6) (b := b) k hb i
  exact this
theorem bit0_i64 {x : Int64} {k : Nat} (hk : k < 64) : (x >>> ((nI k).toInt64 &&& 63)) &&& (1 : Int64) = 0 ↔ x.toBitVec.getLsbD k = false := by
  have e1 : ((nI k).toInt64 &&& 63).toBitVec.smod 64 = BitVec.ofNat 64 k := by
    have : ∀ k : Fin 64, ((nI k.val).toInt64 &&& 63).toBitVec.smod 64 = BitVec.ofNat 64 k.val := by decide +kernel
    exact this ⟨k, hk⟩
  have e2 : ((x >>> ((nI k).toInt64 &&& 63)) &&& (1 : Int64)).toBitVec.getLsbD 0 = x.toBitVec.getLsbD k := by
    show ((x >>> ((nI k).toInt64 &&& 63)).toBitVec &&& (1 : Int64).toBitVec).getLsbD 0 = _
    rw [BitVec.getLsbD_and, Int64.toBitVec_shiftRight, e1, BitVec.sshiftRight', BitVec.getLsbD_sshiftRight, BitVec.toNat_ofNat, Nat.mod_eq_of_lt (by omega), Nat.add_zero, if_pos hk]
    rw [show (1 : Int64).toBitVec.getLsbD 0 = true from by decide, Bool.and_true]
    rfl
  constructor
  · intro e; rw [← e2, e]; decide
  · intro e
    refine i64_ext (fun b hb => ?_)
    rw [show (0 : Int64).toBitVec = BitVec.ofNat 64 0 from rfl, BitVec.getLsbD_ofNat, Nat.zero_testBit, Bool.and_false]
    rcases Nat.eq_zero_or_pos b with q | q
    · subst q; rw [e2]; exact e
    · show ((x >>> ((nI k).toInt64 &&& 63)).toBitVec &&& (1 : Int64).toBitVec).getLsbD b = false
      rw [BitVec.getLsbD_and]
      have : (1 : Int64).toBitVec.getLsbD b = false := by
        show (BitVec.ofNat 64 1).getLsbD b = false
        rw [BitVec.getLsbD_ofNat]
        have : (1 : Nat).testBit b = false := Nat.testBit_lt_two_pow (Nat.lt_of_lt_of_le (by decide) (Nat.pow_le_pow_right (show 0 < 2 by decide) q))
        rw [this, Bool.and_false]
      rw [this, Bool.and_false]
theorem pe_isOpened {h : Ho} {t : Se} {s : Nat} {I : MI} {J : MJ} {Q : Int32 → MI → MJ → Prop} (hO : OpOK (I 55) (I 58) (J 59) h t) (hs : s < 2 ^ ub t (hoW h)) (q1 : 0 < V h t (sbs t s) (tp t) 4 → Q 1 I J) (q0 : ¬ 0 < V h t (sbs t s) (tp t) 4 → Q 0 I J) : P_X0_isOpened (nI s) I J Q := by
  obtain ⟨o1, o2, o3, o4⟩ := hO
  have hp : 2 ^ ub t (hoW h) ≤ 2 ^ 8 := Nat.pow_le_pow_right (by decide) o1
  have e1 : nI s / (64 : Int32) = nI (s / 64) := pk_div (d := 64) (by omega) (by decide) (by decide)
  have e2 : nI s - nI (s / 64) * (64 : Int32) = nI (s % 64) := by
    have := pk_rem (a := s) (d := 64) (by omega) (by decide) (by decide)
    rw [show (64 : Int32) = nI 64 from rfl]
    rw [pk_div (d := 64) (by omega) (by decide) (by decide)] at this; exact this
  unfold P_X0_isOpened
  rw [e1, e2]
  refine ⟨vp_in_nI (by omega) (by decide), ?_⟩
  rw [nI_clamp (by omega)]
  have hb := bit0_i64 (x := J 59 (s / 64)) (k := s % 64) (Nat.mod_lt _ (by decide))
  have ho := o4 s hs
  refine ⟨fun c => q0 (fun q => ?_), fun c => q1 ?_⟩
  · have := hb.mp c
    rw [ho, decide_eq_true q] at this; exact absurd this (by decide)
  · apply Classical.byContradiction; intro q
    exact c (hb.mpr (by rw [ho, decide_eq_false q]))
theorem pe_openSets {h : Ho} {t : Se} {I : MI} {J : MJ} {Q : MI → MJ → Prop} (h1 : hoOK h) (h2 : seOK h t) (hX : CX I J h t) (hS : I 39 12 = 0 ∨ Ph I J h t) (h14 : S_sw (I 39 8) (I 39 9)) (h8 : ub t (hoW h) ≤ 8) (hOp : I 55 8 = 0 ∨ OpOK (I 55) (I 58) (J 59) h t)
    (hQ : ∀ (I' : MI) (J' : MJ), (∀ c, c < 39 ∨ 59 ≤ c → I' c = I c) → (∀ c, c < 39 ∨ c = 60 → J' c = J c) → S_sw (I' 39 8) (I' 39 9) → (I' 39 12 = 0 ∨ Ph I' J' h t) → OpOK (I' 55) (I' 58) (J' 59) h t → I' 55 9 = I 55 9 → Q I' J') : P_X0_openSets I J Q := by
  have hw10 := h1.1
  refine ⟨fun c => ?_, fun c => hQ I J (fun _ _ => rfl) (fun _ _ => rfl) h14 hS (hOp.resolve_left c) rfl⟩
  refine pe_refresh h1 h2 hX hS (fun I1 J1 f1 p1 => ?_)
  have f1N := frR_N f1
  have hX1 := CX_N hX f1N
  have h14a := frN_sw f1N h14
  refine pe_listComing h1 h2 hX1 h8 (fun I2 g1 g2 g3 g4 => ?_)
  have fX2 : CX I2 J1 h t := CX_fr hX1 (fun c hc => g1 c (by omega) (by omega)) (fun _ _ => rfl)
  have h14b : S_sw (I2 39 8) (I2 39 9) := by rw [g1 39 (by decide) (by decide)]; exact h14a
  have p2 : Ph I2 J1 h t := by
    show PhOK (I2 39) (I2 46) (I2 48) (I2 49) (I2 50) (I2 52) _ _ _ h t
    rw [g1 39 (by decide) (by decide), g1 46 (by decide) (by decide), g1 48 (by decide) (by decide), g1 49 (by decide) (by decide), g1 50 (by decide) (by decide), g1 52 (by decide) (by decide)]; exact p1
  generalize hn : ub t (hoW h) = n at *
  refine lpx_up (fun blk z => ∃ J' : MJ, z = (nI blk, I2, J') ∧ (∀ c, c ≠ 53 → c ≠ 44 → c ≠ 45 → c ≠ 57 → c ≠ 59 → J' c = J1 c) ∧ Ph I2 J' h t ∧ ∀ s, s < 2 ^ n → s / 64 < blk → (J' 59 (s / 64)).toBitVec.getLsbD (s % 64) = decide (0 < V h t (sbs t s) (tp t) 4)) 4 ?_ ?_ 0 _ (Nat.zero_le _) ⟨J1, rfl, fun _ _ _ _ _ _ => rfl, p2, fun s _ hs => absurd hs (Nat.not_lt_zero _)⟩
  · rintro z k ⟨J', rfl, y1, y2, y3⟩
    refine pk_le 4 4 (fun _ => ?_) (fun c => by omega)
    rintro I9 rfl
    have hp : 2 ^ n ≤ 2 ^ 8 := Nat.pow_le_pow_right (by decide) h8
    refine hQ _ J' (fun c hc => (wI_n _ (by omega) _).trans ((g1 c (by omega) (by omega)).trans (f1.1 c (by omega) (by omega) (by omega) (by omega) (by omega) (by omega) (by omega)))) (fun c hc => (y1 c (by omega) (by omega) (by omega) (by omega) (by omega)).trans (f1.2.2 c (by omega) (by omega) (by omega) (by omega))) h14b (Or.inr y2) ⟨by rw [hn]; exact h8, by rw [hn]; exact g3, g4, fun s hs => y3 s (by rw [← hn]; exact hs) (by rw [hn] at hs; omega)⟩ ?_
    show I2 55 9 = I 55 9
    rw [g2 9 (by decide), f1.1 55 (by decide) (by decide) (by decide) (by decide) (by decide) (by decide) (by decide)]
  · rintro blk z k hblk ⟨J', rfl, y1, y2, y3⟩ hk
    refine pk_le 4 blk (fun c => by omega) (fun _ => ?_)
    refine lpx_up (fun i z => ∃ J2 : MJ, z = (nI blk, nI i, I2, J2) ∧ (∀ c, c ≠ 57 → J2 c = J' c) ∧ ∀ w, w < hoW h → okB t w = true → ub t w < i → ∀ b, b < 64 → (J2 57 w).toBitVec.getLsbD b = (64 * blk + b).testBit (ub t w)) n ?_ ?_ 0 _ (Nat.zero_le _) ⟨J', rfl, fun _ _ => rfl, fun w _ _ hw => absurd hw (Nat.not_lt_zero _)⟩
    · rintro z k2 ⟨J2, rfl, w1, w2⟩
      have hp8 : 2 ^ n ≤ 2 ^ 8 := Nat.pow_le_pow_right (by decide) h8
      have fin : ∀ (J3 : MJ) (v : Int64), (∀ c, c ≠ 53 → c ≠ 44 → c ≠ 45 → c ≠ 57 → J3 c = J' c) → Ph I2 J3 h t → (∀ s, s < 2 ^ n → s / 64 = blk → v.toBitVec.getLsbD (s % 64) = decide (0 < V h t (sbs t s) (tp t) 4)) → P_X0_openSets_140 Q k (nI blk) (nI blk) v I2 J3 := fun J3 v v1 v2 v3 => by
        refine ⟨vp_in_nI hblk (by decide), ?_⟩
        rintro J4 rfl
        rw [nI_1, nI_clamp (by omega)]
        refine hk _ ⟨_, rfl, fun c c1 c2 c3 c4 c5 => (wJ_n _ c5 _).trans ((v1 c c1 c2 c3 c4).trans (y1 c c1 c2 c3 c4 c5)), v2, fun s hs hlt => ?_⟩
        show (vp_updL (J3 59) blk v (s / 64)).toBitVec.getLsbD (s % 64) = _
        by_cases e : s / 64 = blk
        · rw [e, pk_uLs]; exact v3 s hs e
        · rw [pk_uLn e, v1 59 (by decide) (by decide) (by decide) (by decide)]; exact y3 s hs (by omega)
      have ph2 : Ph I2 J2 h t := by
        show PhOK _ _ _ _ _ _ (J2 39) (J2 41) (J2 42) h t
        rw [w1 39 (by decide), w1 41 (by decide), w1 42 (by decide)]; exact y2
      refine pk_le n n (fun _ => ?_) (fun c => by omega) g3
      rw [g3, shlI (by omega), show nI blk * (64 : Int32) = nI (blk * 64) from by rw [show (64 : Int32) = nI 64 from rfl, pk_mul]]
      refine pk_le (2 ^ n) (blk * 64) (fun c => fin J2 0 (fun c _ _ _ c4 => w1 c c4) ph2 (fun s hs e => by omega)) (fun c => ?_)
      refine pe_foldF h1 h2 (CX_fr fX2 (fun _ _ => rfl) (fun c hc => (w1 c (by omega)).trans (y1 c (by omega) (by omega) (by omega) (by omega) (by omega)))) ph2 h14b (fun J3 v z1 z2 z3 => fin J3 v (fun c c1 c2 c3 c4 => (z1 c c1 c2 c3).trans (w1 c c4)) z2 (fun s hs e => ?_))
      rw [z3 _ (Nat.mod_lt _ (by decide))]
      congr 2
      rw [V_congr (fun w hw => ?_)]
      unfold okS sbs
      cases ho : okB t w with
      | false => rfl
      | true =>
        rw [Bool.true_and, Bool.true_and, w2 w hw ho (by rw [← hn]; exact ub_lt hw ho) _ (Nat.mod_lt _ (by decide)), ← e]
        congr 1; omega
    · rintro i z k2 hi ⟨J2, rfl, w1, w2⟩ hk2
      obtain ⟨w, hw, ho, eu⟩ := ub_ex (hoW h) (show i < ub t (hoW h) by rw [hn]; exact hi)
      have e58 : I2 58 i = nI w := by rw [← eu]; exact g4 w hw ho
      have hci : (nI i).toNatClampNeg = i := nI_clamp (by omega)
      have fin : ∀ v : Int64, (∀ b, b < 64 → v.toBitVec.getLsbD b = (64 * blk + b).testBit i) → P_X0_openSets_97 Q k k2 (nI blk) (nI i) (nI w) v I2 J2 := fun v hv => by
        refine ⟨vp_in_nI (by omega) (by decide), ?_⟩
        rintro J3 rfl
        rw [nI_1, nI_clamp (by omega)]
        refine hk2 _ ⟨_, rfl, fun c hc => (wJ_n _ hc _).trans (w1 c hc), fun w9 hw9 ho9 hlt b hb => ?_⟩
        show (vp_updL (J2 57) w v w9).toBitVec.getLsbD b = _
        by_cases e : w9 = w
        · subst e; rw [pk_uLs, eu]; exact hv b hb
        · rw [pk_uLn e]
          refine w2 w9 hw9 ho9 ?_ b hb
          have : ub t w9 ≠ i := fun q => e (ub_inj ho9 ho (q.trans eu.symm))
          omega
      have core : ∀ s0 : Nat, s0 < 2 → (6 ≤ i → (s0 = 1 ↔ blk.testBit (i - 6) = true)) → P_X0_openSets_58 Q k k2 (nI blk) (nI i) (nI s0) I2 J2 := fun s0 hs0 hs => by
        refine ⟨vp_in_nI (by omega) (by decide), ?_⟩
        rw [hci, e58]
        refine pk_le 6 i (fun c => ⟨fun c2 => fin 0 (fun b hb => ?_), fun c2 => fin (-1) (fun b hb => ?_)⟩) (fun c => ⟨vp_in_nI c (by decide), fin _ (fun b hb => ?_)⟩)
        · have : s0 = 0 := (nI_eq (b := 0) (by omega) (by decide)).mp c2
          rw [set_bit hb, if_neg (by omega), show (0 : Int64).toBitVec = BitVec.ofNat 64 0 from rfl, BitVec.getLsbD_ofNat, Nat.zero_testBit, Bool.and_false]
          cases hb9 : blk.testBit (i - 6) with
          | false => rfl
          | true => have := (hs c).mpr hb9; omega
        · have : s0 ≠ 0 := fun e => c2 (by rw [e]; rfl)
          rw [set_bit hb, if_neg (by omega), show (-1 : Int64).toBitVec = BitVec.allOnes 64 from by decide, BitVec.getLsbD_allOnes, decide_eq_true hb, (hs c).mp (by omega)]
        · rw [set_bit hb, if_pos c]; exact stL_bit ⟨i, c⟩ ⟨b, hb⟩
      refine pk_le n i (fun c => by omega) (fun _ => pk_lt i 6 (fun c => core 0 (by decide) (fun e => by omega)) (fun c => ?_)) g3
      rw [show nI i - (6 : Int32) = nI (i - 6) from by rw [show (6 : Int32) = nI 6 from rfl, pk_sub c]]
      refine ⟨fun c2 => core 0 (by decide) (fun _ => ?_), fun c2 => core 1 (by decide) (fun _ => ?_)⟩
      · rw [bitI0 (by omega) (by omega)] at c2
        exact ⟨fun e => absurd e (by decide), fun e => absurd (c2.symm.trans e) (by decide)⟩
      · rw [bitI0 (by omega) (by omega)] at c2
        exact ⟨fun _ => by simpa using c2, fun _ => rfl⟩
