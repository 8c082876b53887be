def ff (P : Nat → Bool) : Nat → Nat
  | 0 => 0
  | n + 1 => if ff P n < n then ff P n else if P n then n else n + 1
theorem ff_spec (P : Nat → Bool) (n : Nat) : ff P n ≤ n ∧ (∀ j, j < ff P n → P j = false) ∧ (ff P n < n → P (ff P n) = true) := by
  induction n with
  | zero => exact ⟨Nat.le_refl 0, fun j hj => absurd hj (Nat.not_lt_zero j), fun h => absurd h (Nat.lt_irrefl 0)⟩
  | succ n ih =>
    obtain ⟨i1, i2, i3⟩ := ih
    show (if ff P n < n then ff P n else if P n then n else n + 1) ≤ n + 1 ∧ (∀ j, j < (if ff P n < n then ff P n else if P n then n else n + 1) → P j = false) ∧ ((if ff P n < n then ff P n else if P n then n else n + 1) < n + 1 → P (if ff P n < n then ff P n else if P n then n else n + 1) = true)
    by_cases h : ff P n < n
    · rw [if_pos h]; exact ⟨by omega, i2, fun _ => i3 h⟩
    · rw [if_neg h]
      have e : ff P n = n := by omega
      rw [e] at i2
      cases hp : P n with
      | true => rw [if_pos rfl]; exact ⟨by omega, i2, fun _ => hp⟩
      | false =>
        rw [if_neg (by decide)]
        refine ⟨Nat.le_refl _, fun j hj => ?_, fun h => absurd h (Nat.lt_irrefl _)⟩
        by_cases hj2 : j = n
        · subst hj2; exact hp
        · exact i2 j (by omega)
theorem ff_lt {P : Nat → Bool} {n w : Nat} (hw : w < n) (hp : P w = true) : ff P n < n := by
  obtain ⟨i1, i2, i3⟩ := ff_spec P n
  rcases Nat.lt_or_ge (ff P n) n with q | q
  · exact q
  · exact absurd ((i2 w (by omega)).symm.trans hp) (by decide)
def bc (h : Ho) (t : Se) (p a w : Nat) : Bool := may h t (okB t) p a w && decide (bt1 h t p a w = bw h t p a)
def bst (h : Ho) (t : Se) : Nat → Nat × Nat
  | 0 => (tp t, 4)
  | i + 1 => ((bst h t i).1 - pr h t (ff (bc h t (bst h t i).1 (bst h t i).2) (hoW h)), hoK h (ff (bc h t (bst h t i).1 (bst h t i).2) (hoW h)))
def bfd (h : Ho) (t : Se) (i : Nat) : Nat := ff (bc h t (bst h t i).1 (bst h t i).2) (hoW h)
def bOK (h : Ho) (t : Se) (i : Nat) : Prop := Rc h t (bst h t i).1 (bst h t i).2 ∧ 0 < bw h t (bst h t i).1 (bst h t i).2 ∧ sm (dg (seB t) (bst h t i).1) 8 + i ≤ sm (seB t) 8
def isLenB (h : Ho) (t : Se) (L : Nat) : Prop := L ≤ 12 ∧ (bst h t L).1 = 0 ∧ ∀ i, i < L → 0 < (bst h t i).1
theorem b_word {h : Ho} {t : Se} (h1 : hoOK h) {i : Nat} (hs : bOK h t i) (hp : 0 < (bst h t i).1) : bfd h t i < hoW h ∧ may h t (okB t) (bst h t i).1 (bst h t i).2 (bfd h t i) = true ∧ bw h t (bst h t i).1 (bst h t i).2 = bw h t ((bst h t i).1 - pr h t (bfd h t i)) (hoK h (bfd h t i)) + seR t (bfd h t i) ∧ 0 < bw h t ((bst h t i).1 - pr h t (bfd h t i)) (hoK h (bfd h t i)) ∧ ∀ j, j < bfd h t i → bc h t (bst h t i).1 (bst h t i).2 j = false := by
  obtain ⟨s1, s2, s3⟩ := hs
  have hpt : (bst h t i).1 ≤ tp t := by have := Rc_le h1 s1; omega
  have eb9 := bw_p (a := (bst h t i).2) h1 hp hpt
  have key : ∀ w, bt1 h t (bst h t i).1 (bst h t i).2 w = bw h t (bst h t i).1 (bst h t i).2 → may h t (okB t) (bst h t i).1 (bst h t i).2 w = true := fun w e => by
    cases hm : may h t (okB t) (bst h t i).1 (bst h t i).2 w with
    | true => rfl
    | false => unfold bt1 at e; rw [if_neg (by rw [hm]; decide)] at e; omega
  obtain ⟨l, hl, el⟩ := mx_at (f := bt1 h t (bst h t i).1 (bst h t i).2) (n := hoW h) (by omega)
  rw [← eb9] at el
  have hbc : bc h t (bst h t i).1 (bst h t i).2 l = true := by unfold bc; rw [key l el, decide_eq_true el]; rfl
  have hlt := ff_lt hl hbc
  obtain ⟨q1, q2, q3⟩ := ff_spec (bc h t (bst h t i).1 (bst h t i).2) (hoW h)
  have q4 := q3 hlt
  have q5 : may h t (okB t) (bst h t i).1 (bst h t i).2 (bfd h t i) = true ∧ bt1 h t (bst h t i).1 (bst h t i).2 (bfd h t i) = bw h t (bst h t i).1 (bst h t i).2 := by
    have : bc h t (bst h t i).1 (bst h t i).2 (bfd h t i) = true := q4
    unfold bc at this
    rw [Bool.and_eq_true, decide_eq_true_iff] at this
    exact this
  have q6 : up (bw h t ((bst h t i).1 - pr h t (bfd h t i)) (hoK h (bfd h t i))) (seR t (bfd h t i)) = bw h t (bst h t i).1 (bst h t i).2 := by
    have := q5.2
    unfold bt1 at this
    rw [if_pos q5.1] at this; exact this
  refine ⟨hlt, q5.1, ?_, ?_, q2⟩
  · rw [← q6]; unfold up at q6 ⊢
    split
    · rename_i e; rw [if_pos e] at q6; omega
    · rfl
  · rcases Nat.eq_zero_or_pos (bw h t ((bst h t i).1 - pr h t (bfd h t i)) (hoK h (bfd h t i))) with e | e
    · unfold up at q6; rw [if_pos e] at q6; omega
    · exact e
theorem b_step {h : Ho} {t : Se} (h1 : hoOK h) {i : Nat} (hs : bOK h t i) (hp : 0 < (bst h t i).1) : bOK h t (i + 1) := by
  obtain ⟨w1, w2, w3, w4, w5⟩ := b_word h1 hs hp
  obtain ⟨s1, s2, s3⟩ := hs
  have hpt : (bst h t i).1 ≤ tp t := by have := Rc_le h1 s1; omega
  obtain ⟨f1, f2, f3, f4⟩ := fit_step h1 w1 hpt (may_iff.mp w2).2.2
  have hz := (h1.2 _ w1).2.1
  refine ⟨Op_Rc hp w1 ⟨_, s1, w2, fun e => ?_⟩, w4, ?_⟩
  · have e' : (bst h t i).1 - pr h t (bfd h t i) = 0 := e
    rw [e', bw_0] at w4
    show (seE t).testBit (hoK h (bfd h t i)) = true
    unfold eb at w4
    cases hb : (seE t).testBit (hoK h (bfd h t i)) with
    | true => rfl
    | false => rw [hb] at w4; exact absurd w4 (Nat.not_lt_zero _)
  · show sm (dg (seB t) ((bst h t i).1 - pr h t (bfd h t i))) 8 + (i + 1) ≤ _
    omega
theorem lenB_ex {h : Ho} {t : Se} (h1 : hoOK h) (h2 : sm (seB t) 8 ≤ 12) (hn : 0 < bw h t (tp t) 4) : ∃ L, isLenB h t L ∧ ∀ i, i ≤ L → bOK h t i := by
  have b0 : bOK h t 0 := ⟨Rc_top h t, hn, by show sm (dg (seB t) (tp t)) 8 + 0 ≤ _; exact sm_mono (fun i _ => dg_le _ _ _)⟩
  have key : ∀ i, (∀ j, j < i → 0 < (bst h t j).1) → bOK h t i := by
    intro i
    induction i with
    | zero => intro _; exact b0
    | succ i ih => intro hj; exact b_step h1 (ih (fun j hj2 => hj j (by omega))) (hj i (by omega))
  have ex : ∃ L, (bst h t L).1 = 0 := by
    apply Classical.byContradiction
    intro hno
    have hall : ∀ j, 0 < (bst h t j).1 := fun j => by
      rcases Nat.eq_zero_or_pos (bst h t j).1 with q | q
      · exact absurd ⟨j, q⟩ hno
      · exact q
    have := (key 13 (fun j _ => hall j)).2.2
    omega
  obtain ⟨L, hL, hmin⟩ := pk_least _ ex
  have hpos : ∀ j, j < L → 0 < (bst h t j).1 := fun j hj => Nat.pos_of_ne_zero (hmin j hj)
  have := (key L hpos).2.2
  exact ⟨L, ⟨by omega, hL, hpos⟩, fun i hi => key i (fun j hj => hpos j (by omega))⟩
theorem lenB_pos {h : Ho} {t : Se} (h2 : seOK h t) {L : Nat} (hn : 0 < bw h t (tp t) 4) (hL : isLenB h t L) : 0 < L := by
  rcases Nat.eq_zero_or_pos L with q | q
  · have e1 := hL.2.1
    rw [q] at e1
    have e2 : tp t = 0 := e1
    rw [e2, bw_0] at hn
    unfold eb at hn
    rw [Nat.testBit_lt_two_pow (i := 4) (by have := h2.2.2.2.2.1; omega)] at hn
    exact absurd hn (Nat.not_lt_zero _)
  · exact q
/-! the class -/
theorem pe_reaches {h : Ho} {t : Se} {p a u : Nat} {I : MI} {J : MJ} {Q : Int32 → MI → MJ → Prop} (h1 : hoOK h) (h2 : seOK h t) (hX : CX I J h t) (hP : Ph I J h t) (hT : TlOK (J (sw (I 39 8))) (fun p a => eB (bw h t p a)) h t) (hp : 0 < p) (hr : Rc h t p a) (hb : 0 < bw h t p a) (hu : u < hoW h) (q1 : bc h t p a u = true → Q 1 I J) (q0 : bc h t p a u = false → Q 0 I J) : P_X6_reaches (eB (bw h t p a)) (nI u) (nI p) (nI (msk t a)) I J Q := by
  have hw10 := h1.1
  have hle := Rc_le h1 hr
  have htp := tp_1296 h2
  have hL := hP.1
  refine pe_opens h1 h2 hX.1 hL hp (by omega) ⟨a, hr⟩ hu (msk_lt (seOK_O h2) (by omega)) (fun ho hbt => ⟨fun _ => ?_, fun e => absurd e no10⟩) (fun hno => ⟨fun e => absurd rfl e, fun _ => q0 ?_⟩)
  · obtain ⟨o1, o2, o3⟩ := Op_fit ho
    obtain ⟨f1, f2, f3, f4⟩ := fit_step h1 hu (by omega) o2
    have hm : may h t (okB t) p a u = true := may_iff.mpr ⟨o1, hbt, o2⟩
    have hs1 := bw_small h1 h2 (p := p - pr h t u) (by omega) (hoK h u)
    have hs2 := bw_small h1 h2 (p := p) (by omega) a
    have hrk := h2.2.1 u hu
    have ebt : bt1 h t p a u = up (bw h t (p - pr h t u) (hoK h u)) (seR t u) := if_pos hm
    refine pe_tailBehind h1 hu (hX.1.2.1 u hu) (hL.2.1 u hu o1 (fit_up o2)) f2 (by omega) ?_
    rw [hT _ _ (h1.2 u hu).1 (Op_Rc hp hu ho)]
    refine ⟨fun c => q0 ?_, fun c => ⟨vp_in_nI (by omega) (by decide), ?_⟩⟩
    · have c0 := (eB_neg (by omega)).mp c
      unfold bc; rw [hm, Bool.true_and, decide_eq_false]
      rw [ebt]; unfold up; rw [if_pos c0]; omega
    · have c0 : bw h t (p - pr h t u) (hoK h u) ≠ 0 := fun e => c ((eB_neg (by omega)).mpr e)
      have eup : up (bw h t (p - pr h t u) (hoK h u)) (seR t u) = bw h t (p - pr h t u) (hoK h u) + seR t u := if_neg c0
      rw [nI_clamp (by omega), hX.2.2.1 u hu, nI_l (by omega), eB_add]
      refine ⟨fun c2 => q0 ?_, fun c2 => q1 ?_⟩
      · unfold bc; rw [hm, Bool.true_and, decide_eq_false]
        rw [ebt, eup]; exact fun e => c2 (by rw [e])
      · unfold bc; rw [hm, Bool.true_and, decide_eq_true]
        rw [ebt, eup]
        have := congrArg Int64.toInt c2
        rw [eB_toInt (by omega), eB_toInt (by omega)] at this
        omega
  · unfold bc
    cases hm : may h t (okB t) p a u with
    | false => rfl
    | true =>
      obtain ⟨m1, m2, m3⟩ := may_iff.mp hm
      have e0 : p - pr h t u = 0 ∧ (seE t).testBit (hoK h u) = false := by
        by_cases e0 : p - pr h t u = 0
        · refine ⟨e0, ?_⟩
          cases hb : (seE t).testBit (hoK h u) with
          | false => rfl
          | true => exact absurd ⟨⟨a, hr, hm, fun _ => hb⟩, m2⟩ hno
        · exact absurd ⟨⟨a, hr, hm, fun q => absurd q e0⟩, m2⟩ hno
      rw [Bool.true_and, decide_eq_false]
      unfold bt1
      rw [if_pos hm, e0.1, bw_0]; unfold eb; rw [e0.2]
      show ¬ up 0 (seR t u) = _
      unfold up; rw [if_pos rfl]; omega
theorem pe_findBestX {h : Ho} {t : Se} {I : MI} {J : MJ} {Q : Int32 → MI → MJ → Prop} (h1 : hoOK h) (h2 : seOK h t) (hX : CX I J h t) (hS : I 39 12 = 0 ∨ Ph I J h t) (h14 : S_sw (I 39 8) (I 39 9))
    (q0 : ∀ (I' : MI) (J' : MJ), frN I I' J J' → Ph I' J' h t → bw h t (tp t) 4 = 0 → Q 0 I' J')
    (q1 : ∀ (I' : MI) (J' : MJ) (L : Nat), frN I I' J J' → Ph I' J' h t → 0 < bw h t (tp t) 4 → isLenB h t L → (∀ i, i ≤ L → bOK h t i) → I' 39 10 = nI L → (∀ i, i < L → I' 43 i = nI (bfd h t i)) → Q 1 I' J') : P_X6_findBest I J Q := by
  have hw10 := h1.1
  have htp := tp_1296 h2
  refine pe_refresh h1 h2 hX hS (fun I1 J1 f1 p1 => ?_)
  have f1N := frR_N f1
  have hX1 := CX_N hX f1N
  have h14a := frN_sw f1N h14
  rintro I2 rfl
  have fr2 : frN I1 (mI I1 39 10 0) J1 J1 := ⟨⟨fun c hc => wI_n _ (by omega) _, fun _ _ => rfl⟩, rfl, rfl⟩
  have hX2 : CX (mI I1 39 10 0) J1 h t := CX_N hX1 fr2
  refine pe_foldB (I := mI I1 39 10 0) h1 h2 hX2 p1 h14a (fun J2 g1 p2 hT => ?_)
  have hbs := bw_small h1 h2 (Nat.le_refl (tp t)) 4
  have fJ : frN I1 (mI I1 39 10 0) J1 J2 := ⟨⟨fun c hc => wI_n _ (by omega) _, fun c hc => g1 c (by omega) (by omega) (by omega)⟩, rfl, rfl⟩
  have e11 : mI I1 39 10 0 46 11 = nI (tp t) := p1.1.1
  have e3 : mI I1 39 10 0 17 3 = nI (seG t) := hX1.2.2.2.2.1
  refine ⟨fun c => ?_, fun c => ?_⟩
  · have c0 := (eB_neg (by omega)).mp c
    refine lpx_step (n := 0) (pk_le 12 0 (fun c => by omega) (fun _ => ⟨fun _ => ⟨Or.inl rfl, q0 _ J2 (frN_tr f1N fJ) p2 c0⟩, fun e => absurd rfl e⟩))
  · have c0 : 0 < bw h t (tp t) 4 := Nat.pos_of_ne_zero (fun e => c ((eB_neg (by omega)).mpr e))
    obtain ⟨L, hL, hb⟩ := lenB_ex h1 h2.1 c0
    have hL12 := hL.1
    show lpx (P_X6_findBest_54 Q) (_, (1 : Int32), mI I1 39 10 0 46 11, mI I1 39 10 0 17 3, (0 : Int32), mI I1 39 10 0, J2)
    rw [e11, e3]
    refine lpx_up (fun i z => ∃ I' : MI, z = (eB (bw h t (bst h t i).1 (bst h t i).2), (1 : Int32), nI (bst h t i).1, nI (msk t (bst h t i).2), nI i, I', J2) ∧ (∀ c, c ≠ 39 → c ≠ 43 → I' c = I1 c) ∧ (∀ k, k ≠ 10 → I' 39 k = I1 39 k) ∧ I' 39 10 = nI i ∧ ∀ j, j < i → I' 43 j = nI (bfd h t j)) L ?_ ?_ 0 _ (Nat.zero_le _) ⟨_, rfl, fun c c1 c2 => wI_n _ c1 _, fun k hk => (mI_s I1 39 10 _ k).trans (upd_n hk), (mI_s I1 39 10 _ 10).trans (upd_s rfl), fun j hj => absurd hj (Nat.not_lt_zero j)⟩
    · rintro z k ⟨I', rfl, n1, n2, n3, n4⟩
      have hP' : Ph I' J2 h t := by
        show PhOK (I' 39) (I' 46) (I' 48) (I' 49) (I' 50) (I' 52) _ _ _ h t
        rw [n1 46 (by decide) (by decide), n1 48 (by decide) (by decide), n1 49 (by decide) (by decide), n1 50 (by decide) (by decide), n1 52 (by decide) (by decide)]
        refine ⟨p2.1, p2.2.1, p2.2.2.1, ?_⟩
        rw [n2 13 (by decide)]; exact p2.2.2.2
      have fin : Q 1 I' J2 := q1 I' J2 L (frN_tr f1N ⟨⟨fun c hc => n1 c (by omega) (by omega), fJ.1.2⟩, n2 8 (by decide), n2 9 (by decide)⟩) hP' c0 hL hb n3 n4
      rw [hL.2.1]
      exact ⟨fun _ => ⟨Or.inr rfl, fin⟩, fun _ => ⟨fun e => absurd e no10, fun _ => ⟨fun _ => ⟨Or.inr rfl, fin⟩, fun c => absurd (show nI 0 ≤ (0 : Int32) by decide) c⟩⟩⟩
    · rintro i z k hi ⟨I', rfl, n1, n2, n3, n4⟩ hk
      have hp := hL.2.2 i hi
      have hs := hb i (by omega)
      obtain ⟨w1, w2, w3, w4, w5⟩ := b_word h1 hs hp
      have hle := Rc_le h1 hs.1
      have hpt : (bst h t i).1 ≤ tp t := by omega
      have hfit := (may_iff.mp w2).2.2
      have hfs := fit_step h1 w1 hpt hfit
      have hX' : CX I' J2 h t := CX_fr hX1 (fun c hc => n1 c (by omega) (by omega)) (fun c hc => g1 c (by omega) (by omega) (by omega))
      have hP' : Ph I' J2 h t := by
        show PhOK (I' 39) (I' 46) (I' 48) (I' 49) (I' 50) (I' 52) _ _ _ h t
        rw [n1 46 (by decide) (by decide), n1 48 (by decide) (by decide), n1 49 (by decide) (by decide), n1 50 (by decide) (by decide), n1 52 (by decide) (by decide)]
        refine ⟨p2.1, p2.2.1, p2.2.2.1, ?_⟩
        rw [n2 13 (by decide)]; exact p2.2.2.2
      have hT' : TlOK (J2 (sw (I' 39 8))) (fun p a => eB (bw h t p a)) h t := by rw [n2 8 (by decide)]; exact hT
      refine pk_le 12 i (fun c => by omega) (fun _ => ⟨fun e => absurd e no10, fun _ => pk_le (bst h t i).1 0 (fun c => by omega) (fun _ => ?_)⟩)
      refine lpx_up (fun u z => z = (eB (bw h t (bst h t i).1 (bst h t i).2), nI (bst h t i).1, nI (msk t (bst h t i).2), nI u, I', J2)) (bfd h t i) ?_ ?_ 0 _ (Nat.zero_le _) rfl
      · rintro z k2 rfl
        refine pk_le (hoW h) (bfd h t i) (fun c => by omega) (fun _ => ?_) hX'.1.1
        refine pe_reaches h1 h2 hX' hP' hT' hp hs.1 hs.2.1 w1 (fun _ => ⟨fun _ => ?_, fun e => absurd e no10⟩) (fun hb9 => ?_)
        · have hv10 : vp_in (nI (bfd h t i)) 10 := vp_in_nI (by omega) (by decide)
          have ecl : (nI (bfd h t i)).toNatClampNeg = bfd h t i := nI_clamp (by omega)
          have hk4 := (h1.2 _ w1).1
          have hrk := h2.2.1 _ w1
          have eci : (nI i).toNatClampNeg = i := nI_clamp (by omega)
          refine pk_lt (bfd h t i) (hoW h) (fun _ => ⟨hv10, ?_⟩) (fun c => by omega) rfl hX'.1.1
          unfold P_X6_cameToBy
          rw [n3]
          refine ⟨vp_in_nI (by omega) (by decide), ?_⟩
          rintro I9 rfl I17 rfl
          refine ⟨hv10, hv10, ?_⟩
          rw [ecl, eci]
          have e52 : mI (mI I' 43 i (nI (bfd h t i))) 39 10 (mI I' 43 i (nI (bfd h t i)) 39 10 + 1) 52 (bfd h t i) = nI (pr h t (bfd h t i)) := by
            show I' 52 (bfd h t i) = _
            exact hP'.1.2.1 _ w1 (may_iff.mp w2).1 (fit_up hfit)
          have e13 : mI (mI I' 43 i (nI (bfd h t i))) 39 10 (mI I' 43 i (nI (bfd h t i)) 39 10 + 1) 13 (bfd h t i) = nI (hoK h (bfd h t i)) := hX'.1.2.1 _ w1
          have e20 : mI (mI I' 43 i (nI (bfd h t i))) 39 10 (mI I' 43 i (nI (bfd h t i)) 39 10 + 1) 20 (hoK h (bfd h t i)) = nI (msk t (hoK h (bfd h t i))) := by
            show I' 20 _ = _
            rw [hX'.2.2.2.1 _ hk4]; unfold msk; rw [if_neg (by omega)]
          rw [e52, pk_sub hfs.2.1, e13]
          refine ⟨vp_in_nI hk4 (by decide), ?_⟩
          rw [nI_clamp (by omega), e20, nI_1, hX'.2.2.1 _ w1, nI_l (by omega)]
          have eg : eB (bw h t (bst h t i).1 (bst h t i).2) - lN (seR t (bfd h t i)) = eB (bw h t ((bst h t i).1 - pr h t (bfd h t i)) (hoK h (bfd h t i))) := by
            rw [w3, ← eB_add, Int64.add_sub_cancel]
          rw [eg]
          refine hk _ ⟨_, rfl, fun c c1 c2 => (wI_n _ c1 _).trans ((wI_n _ c2 _).trans (n1 c c1 c2)), fun k hk => (mI_s _ 39 10 _ k).trans ((upd_n hk).trans (n2 k hk)), ?_, fun j hj => ?_⟩
          · rw [mI_s, upd_s rfl]
            show I' 39 10 + 1 = _
            rw [n3, nI_1]
          · show upd (I' 43) i _ j = _
            by_cases hji : j = i
            · subst hji; rw [upd_s rfl]
            · rw [upd_n hji]; exact n4 j (by omega)
        · have : bc h t (bst h t i).1 (bst h t i).2 (bfd h t i) = true := by
            unfold bc bt1
            rw [w2, if_pos rfl, Bool.true_and, decide_eq_true]
            unfold up; rw [if_neg (by omega), w3]
          exact absurd (hb9.symm.trans this) (by decide)
      · rintro u z k2 hu rfl hk2
        refine pk_le (hoW h) u (fun c => by omega) (fun _ => ?_) hX'.1.1
        refine pe_reaches h1 h2 hX' hP' hT' hp hs.1 hs.2.1 (by omega) (fun hb9 => absurd ((w5 u hu).symm.trans hb9) (by decide)) (fun _ => ⟨fun e => absurd rfl e, fun _ => ?_⟩)
        rw [nI_1]; exact hk2 _ rfl
/-! the reference -/
def e9 (c : Nat) : Int32 := if c = 0 then -9 else nI (c - 1)
theorem e9_toInt {c : Nat} (hc : c < 2 ^ 31) : (e9 c).toInt = if c = 0 then -9 else (c : Int) - 1 := by
  unfold e9
  by_cases h : c = 0
  · rw [if_pos h, if_pos h]; decide
  · rw [if_neg h, if_neg h, nI_toInt (by omega)]; omega
theorem e9_le {a b : Nat} (ha : a < 2 ^ 31) (hb : b < 2 ^ 31) : e9 a ≤ e9 b ↔ a ≤ b := by
  rw [Int32.le_iff_toInt_le, e9_toInt ha, e9_toInt hb]; split <;> split <;> omega
theorem e9_nn {c : Nat} (hc : c < 2 ^ 31) : (0 : Int32) ≤ e9 c ↔ 0 < c := by
  rw [Int32.le_iff_toInt_le, e9_toInt hc]; show (0 : Int) ≤ _ ↔ _; split <;> omega
theorem e9_neg {c : Nat} (hc : c < 2 ^ 31) : e9 c < (0 : Int32) ↔ c = 0 := by
  rw [Int32.lt_iff_toInt_lt, e9_toInt hc]; show _ < (0 : Int) ↔ _; split <;> omega
theorem e9_eq {a b : Nat} (ha : a < 2 ^ 31) (hb : b < 2 ^ 31) : e9 a = e9 b ↔ a = b := by
  constructor
  · intro e
    have := congrArg Int32.toInt e
    rw [e9_toInt ha, e9_toInt hb] at this
    revert this; split <;> split <;> omega
  · intro e; rw [e]
theorem pe_bestWith {h : Ho} {t : Se} {A : MI} {B : MJ} {Q : Int32 → MI → MJ → Prop} {p w : Nat} (h1 : hoOK h) (h2 : seOK h t) (hK : ∀ u, u < hoW h → A 4 u = nI (hoK h u)) (hL : Lk (A 0) (A 19) (A 21) (A 26) h t (okB t)) (hp : p ≤ tp t) (hw : w < hoW h) (hf : fitP h t p w) (hW : ∀ q k, 0 < q → q < p → k < 4 → A 25 (5 * q + k) = e9 (bw h t q k)) (hQ : Q (e9 (up (bw h t (p - pr h t w) (hoK h w)) (seR t w))) A B) : P_X12_bestWith (nI p) (nI w) A B Q := by
  have hw10 := h1.1
  have htp := tp_1296 h2
  have hk4 := (h1.2 w hw).1
  obtain ⟨f1, f2, f3, f4⟩ := fit_step h1 hw hp hf
  have hc : (nI w).toNatClampNeg = w := nI_clamp (by omega)
  have hv : vp_in (nI w) 10 := vp_in_nI (by omega) (by decide)
  have hrk := h2.2.1 w hw
  have e1 : nI p - A 21 (nI w).toNatClampNeg = nI (p - pr h t w) := by rw [hc, hL.2.2.1 w hw, pk_sub f2]
  have e2 : A 4 (nI w).toNatClampNeg = nI (hoK h w) := by rw [hc]; exact hK w hw
  have e9' : (9 : Int32) + nI w = nI (9 + w) := by rw [show (9 : Int32) = nI 9 from rfl, nI_add]
  have e19 : A 19 (9 + w) = nI (seR t w) := by have := hL.2.2.2.2.2.1 w hw; rwa [Nat.zero_add] at this
  refine ⟨hv, ?_⟩
  rw [e1, e2, e9']
  refine ⟨fun c => ⟨hv, ?_⟩, fun c => ⟨vp_in_nI (n := 20) (by decide) (by decide), hv, ?_⟩⟩
  · have c0 : 0 < p - pr h t w := Nat.pos_of_ne_zero (fun e => c (by rw [e]; rfl))
    have e5 : (5 : Int32) * nI (p - pr h t w) + nI (hoK h w) = nI (5 * (p - pr h t w) + hoK h w) := by rw [show (5 : Int32) = nI 5 from rfl, pk_mul, nI_add]
    have hbs := bw_small h1 h2 (p := p - pr h t w) (by omega) (hoK h w)
    rw [e5]
    refine ⟨vp_in_nI (by omega) (by decide), ?_⟩
    rw [nI_clamp (by omega), hW _ _ c0 (by omega) hk4]
    refine ⟨fun c1 => ⟨hv, vp_in_nI (by omega) (by decide), vp_in_nI (by omega) (by decide), ?_⟩, fun c1 => ?_⟩
    · have c2 := (e9_nn (by omega)).mp c1
      rw [nI_clamp (by omega), e19]
      have eu : e9 (up (bw h t (p - pr h t w) (hoK h w)) (seR t w)) = e9 (bw h t (p - pr h t w) (hoK h w)) + nI (seR t w) := by
        have hu9 : up (bw h t (p - pr h t w) (hoK h w)) (seR t w) = bw h t (p - pr h t w) (hoK h w) + seR t w := if_neg (by omega)
        rw [hu9]; unfold e9
        rw [if_neg (by omega), if_neg (by omega), nI_add]; congr 1; omega
      rw [← eu]; exact hQ
    · have c2 : bw h t (p - pr h t w) (hoK h w) = 0 := by
        rcases Nat.eq_zero_or_pos (bw h t (p - pr h t w) (hoK h w)) with q | q
        · exact q
        · exact absurd ((e9_nn (by omega)).mpr q) c1
      rw [c2] at hQ; exact hQ
  · have c0 : p - pr h t w = 0 := (nI_eq (b := 0) (by omega) (by decide)).mp c
    rw [c0, bw_0] at hQ
    have hE := h2.2.2.2.2.1
    rw [show A 19 (20 : Int32).toNatClampNeg = nI (seE t) from hL.2.2.2.2.2.2.2.2.1]
    refine pe_hasM (by omega) (by omega) (fun c => ⟨fun e => absurd e no10, fun _ => ⟨vp_in_nI (by omega) (by decide), ?_⟩⟩) (fun c => ⟨fun _ => ?_, fun e => absurd rfl e⟩)
    · rw [nI_clamp (by omega), e19]
      have eu : e9 (up (eb t (hoK h w)) (seR t w)) = nI (seR t w) := by
        have hu8 : eb t (hoK h w) = 1 := if_pos c
        have hu9 : up 1 (seR t w) = 1 + seR t w := if_neg (by decide)
        rw [hu8, hu9]; unfold e9; rw [if_neg (by omega)]; congr 1; omega
      rw [← eu]; exact hQ
    · unfold eb at hQ; rw [if_neg (by rw [c]; decide)] at hQ; exact hQ
