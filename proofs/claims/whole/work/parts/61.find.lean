/-! ===== the phrase of a number ===== -/
def gw (h : Ho) (t : Se) (p a u : Nat) : Nat := if may h t (okB t) p a u then V h t (okB t) (p - pr h t u) (hoK h u) else 0
/-- the word whose share of the sum a number falls into -/
def fwd (g : Nat → Nat) (n k : Nat) : Nat := sm (fun w => if sm g (w + 1) ≤ n then 1 else 0) k
theorem sm_le_sm (g : Nat → Nat) {i j : Nat} (h : i ≤ j) : sm g i ≤ sm g j := by
  induction j with
  | zero => rw [show i = 0 by omega]; exact Nat.le_refl _
  | succ j ih =>
    rcases Nat.lt_or_ge i (j + 1) with q | q
    · have := ih (by omega); show sm g i ≤ sm g j + g j; omega
    · rw [show i = j + 1 by omega]; exact Nat.le_refl _
theorem fwd_eq {g : Nat → Nat} {n k w : Nat} (hw : w < k) (h1 : sm g w ≤ n) (h2 : n < sm g (w + 1)) : fwd g n k = w := by
  have key : ∀ k, fwd g n k = if k ≤ w then k else w := by
    intro k
    induction k with
    | zero => rw [if_pos (Nat.zero_le _)]; rfl
    | succ k ih =>
      show fwd g n k + (if sm g (k + 1) ≤ n then 1 else 0) = _
      rw [ih]
      rcases Nat.lt_or_ge k w with q | q
      · rw [if_pos (by omega), if_pos (Nat.le_trans (sm_le_sm g q) h1), if_pos (by omega)]
      · rw [if_neg (show ¬ sm g (k + 1) ≤ n by have := sm_le_sm g (show w + 1 ≤ k + 1 by omega); omega), if_neg (show ¬ k + 1 ≤ w by omega)]
        by_cases hk : k ≤ w
        · rw [if_pos hk]; omega
        · rw [if_neg hk, Nat.add_zero]
  rw [key k, if_neg (by omega)]
theorem fwd_ex {g : Nat → Nat} {n : Nat} (k : Nat) (h : n < sm g k) : ∃ w, w < k ∧ sm g w ≤ n ∧ n < sm g (w + 1) := by
  induction k with
  | zero => exact absurd h (Nat.not_lt_zero n)
  | succ k ih =>
    rcases Nat.lt_or_ge n (sm g k) with q | q
    · obtain ⟨w, hw, r⟩ := ih q
      exact ⟨w, by omega, r⟩
    · exact ⟨k, by omega, q, h⟩
def sst (h : Ho) (t : Se) (n : Nat) : Nat → Nat × Nat × Nat
  | 0 => (tp t, 4, n)
  | i + 1 => ((sst h t n i).1 - pr h t (fwd (gw h t (sst h t n i).1 (sst h t n i).2.1) (sst h t n i).2.2 (hoW h)), hoK h (fwd (gw h t (sst h t n i).1 (sst h t n i).2.1) (sst h t n i).2.2 (hoW h)), (sst h t n i).2.2 - sm (gw h t (sst h t n i).1 (sst h t n i).2.1) (fwd (gw h t (sst h t n i).1 (sst h t n i).2.1) (sst h t n i).2.2 (hoW h)))
def fnd (h : Ho) (t : Se) (n i : Nat) : Nat := fwd (gw h t (sst h t n i).1 (sst h t n i).2.1) (sst h t n i).2.2 (hoW h)
def isLen (h : Ho) (t : Se) (n L : Nat) : Prop := L ≤ 12 ∧ (sst h t n L).1 = 0 ∧ ∀ i, i < L → 0 < (sst h t n i).1
/-- a state of the finding: the place can be come to, the number is one of those there -/
def stOK (h : Ho) (t : Se) (n i : Nat) : Prop := Rc h t (sst h t n i).1 (sst h t n i).2.1 ∧ (sst h t n i).2.2 < V h t (okB t) (sst h t n i).1 (sst h t n i).2.1 ∧ sm (dg (seB t) (sst h t n i).1) 8 + i ≤ sm (seB t) 8
/-- a step: the word -/
theorem sx_word {h : Ho} {t : Se} (h1 : hoOK h) {n i : Nat} (hs : stOK h t n i) (hp : 0 < (sst h t n i).1) : fnd h t n i < hoW h ∧ sm (gw h t (sst h t n i).1 (sst h t n i).2.1) (fnd h t n i) ≤ (sst h t n i).2.2 ∧ (sst h t n i).2.2 < sm (gw h t (sst h t n i).1 (sst h t n i).2.1) (fnd h t n i + 1) ∧ may h t (okB t) (sst h t n i).1 (sst h t n i).2.1 (fnd h t n i) = true := by
  obtain ⟨s1, s2, s3⟩ := hs
  have hpt : (sst h t n i).1 ≤ tp t := by have := Rc_le h1 s1; omega
  rw [V_p h1 hp hpt] at s2
  obtain ⟨w, hw, r1, r2⟩ := fwd_ex (hoW h) (g := gw h t (sst h t n i).1 (sst h t n i).2.1) s2
  have e : fnd h t n i = w := fwd_eq hw r1 r2
  rw [e]
  refine ⟨hw, r1, r2, ?_⟩
  cases hm : may h t (okB t) (sst h t n i).1 (sst h t n i).2.1 w with
  | true => rfl
  | false =>
    have e2 : sm (gw h t (sst h t n i).1 (sst h t n i).2.1) (w + 1) = sm (gw h t (sst h t n i).1 (sst h t n i).2.1) w + 0 := by
      show _ + (if may h t (okB t) (sst h t n i).1 (sst h t n i).2.1 w then _ else 0) = _
      rw [if_neg (by rw [hm]; decide)]
    omega
theorem sx_step {h : Ho} {t : Se} (h1 : hoOK h) {n i : Nat} (hs : stOK h t n i) (hp : 0 < (sst h t n i).1) : stOK h t n (i + 1) := by
  obtain ⟨w1, w2, w3, w4⟩ := sx_word h1 hs hp
  obtain ⟨s1, s2, s3⟩ := hs
  have hpt : (sst h t n i).1 ≤ tp t := by have := Rc_le h1 s1; omega
  have hf := (may_iff.mp w4).2.2
  obtain ⟨f1, f2, f3, f4⟩ := fit_step h1 w1 hpt hf
  have hz := (h1.2 _ w1).2.1
  have eg : gw h t (sst h t n i).1 (sst h t n i).2.1 (fnd h t n i) = V h t (okB t) ((sst h t n i).1 - pr h t (fnd h t n i)) (hoK h (fnd h t n i)) := if_pos w4
  have hv : (sst h t n i).2.2 - sm (gw h t (sst h t n i).1 (sst h t n i).2.1) (fnd h t n i) < V h t (okB t) ((sst h t n i).1 - pr h t (fnd h t n i)) (hoK h (fnd h t n i)) := by
    rw [← eg]
    have : sm (gw h t (sst h t n i).1 (sst h t n i).2.1) (fnd h t n i + 1) = sm (gw h t (sst h t n i).1 (sst h t n i).2.1) (fnd h t n i) + gw h t (sst h t n i).1 (sst h t n i).2.1 (fnd h t n i) := rfl
    omega
  refine ⟨?_, hv, ?_⟩
  · refine Op_Rc hp w1 ⟨_, s1, w4, fun e => ?_⟩
    have e' : (sst h t n i).1 - pr h t (fnd h t n i) = 0 := e
    rw [e', V_0] at hv
    show (seE t).testBit (hoK h (fnd h t n i)) = true
    unfold eb at hv
    cases hb : (seE t).testBit (hoK h (fnd h t n i)) with
    | true => rfl
    | false => rw [hb] at hv; exact absurd hv (Nat.not_lt_zero _)
  · show sm (dg (seB t) ((sst h t n i).1 - pr h t (fnd h t n i))) 8 + (i + 1) ≤ _
    omega
theorem sx_0 {h : Ho} {t : Se} {n : Nat} (hn : n < V h t (okB t) (tp t) 4) : stOK h t n 0 := by
  refine ⟨Rc_top h t, hn, ?_⟩
  show sm (dg (seB t) (tp t)) 8 + 0 ≤ _
  exact sm_mono (fun i _ => dg_le _ _ _)
theorem len_ex {h : Ho} {t : Se} (h1 : hoOK h) (h2 : sm (seB t) 8 ≤ 12) {n : Nat} (hn : n < V h t (okB t) (tp t) 4) : ∃ L, isLen h t n L := by
  have key : ∀ i, (∀ j, j < i → 0 < (sst h t n j).1) → stOK h t n i := by
    intro i
    induction i with
    | zero => intro _; exact sx_0 hn
    | succ i ih => intro hj; exact sx_step h1 (ih (fun j hj2 => hj j (by omega))) (hj i (by omega))
  have ex : ∃ L, (sst h t n L).1 = 0 := by
    apply Classical.byContradiction
    intro hno
    have hall : ∀ j, 0 < (sst h t n j).1 := fun j => by
      rcases Nat.eq_zero_or_pos (sst h t n j).1 with q | q
      · exact absurd ⟨j, q⟩ hno
      · exact q
    have := (key 13 (fun j _ => hall j)).2.2
    omega
  obtain ⟨L, hL, hmin⟩ := pk_least _ ex
  have hpos : ∀ j, j < L → 0 < (sst h t n j).1 := fun j hj => Nat.pos_of_ne_zero (hmin j hj)
  have := (key L hpos).2.2
  exact ⟨L, by omega, hL, hpos⟩
theorem sx_all {h : Ho} {t : Se} (h1 : hoOK h) {n L : Nat} (hn : n < V h t (okB t) (tp t) 4) (hL : isLen h t n L) : ∀ i, i ≤ L → stOK h t n i := by
  intro i
  induction i with
  | zero => intro _; exact sx_0 hn
  | succ i ih => intro hi; exact sx_step h1 (ih (by omega)) (hL.2.2 i (by omega))
theorem sx_lt {h : Ho} {t : Se} (h1 : hoOK h) (h2 : seOK h t) {n i : Nat} (hs : stOK h t n i) : (sst h t n i).1 < 1296 ∧ (sst h t n i).1 ≤ tp t ∧ (sst h t n i).2.1 ≤ 4 ∧ (sst h t n i).2.2 < 2 ^ 60 := by
  have hle := Rc_le h1 hs.1
  have htp := tp_1296 h2
  have hv := V_small (ok := okB t) h1 (seOK_O h2).1 (p := (sst h t n i).1) (by omega) (sst h t n i).2.1
  have := hs.2.1
  refine ⟨by omega, by omega, by omega, ?_⟩
  have : (10 : Nat) ^ 13 < 2 ^ 60 := by decide
  omega
theorem gw_le {h : Ho} {t : Se} (h1 : hoOK h) (h2 : seOK h t) {p a u : Nat} (hp : p ≤ tp t) : gw h t p a u < 2 ^ 60 := by
  unfold gw
  split
  · have hv := V_small (ok := okB t) h1 (seOK_O h2).1 (p := p - pr h t u) (by omega) (hoK h u)
    have : (10 : Nat) ^ 13 < 2 ^ 60 := by decide
    omega
  · decide
/-! the class -/
theorem pe_opens {h : Ho} {t : Se} {p u m : Nat} {I : MI} {J : MJ} {Q : Int32 → MI → MJ → Prop} (h1 : hoOK h) (h2 : seOK h t) (hC : lexC I J h) (hL : LatOK (I 46) (I 48) (I 49) (I 50) (I 52) h t) (hp : 0 < p) (hpt : p ≤ tp t) (hr : ∃ a, Rc h t p a) (hu : u < hoW h) (hm : m < 16) (q1 : Op h t p u → m.testBit (hoK h u) = true → Q 1 I J) (q0 : ¬ (Op h t p u ∧ m.testBit (hoK h u) = true) → Q 0 I J) : P_X4_opens (nI p) (nI m) (nI u) I J Q := by
  have hw10 := h1.1
  have htp := tp_1296 h2
  have hk4 := (h1.2 u hu).1
  obtain ⟨f, f1, f2, f3⟩ := hL.2.2.2.1 p hp hpt hr
  refine pk_le p 0 (fun c => by omega) (fun _ => pk_le 1296 p (fun c => by omega) (fun _ => ⟨vp_in_nI (by omega) (by decide), ?_⟩))
  rw [nI_clamp (by omega), nI_clamp (by omega), f1, hC.2.1 u hu]
  refine ⟨fun c => q0 (fun q => ?_), fun c => ⟨vp_in_nI (by omega) (by decide), fun c2 => q0 (fun q => ?_), fun c2 => q1 ((f3 u hu).mp ?_) ?_⟩⟩
  · rw [bitI0 (by omega) (by omega)] at c
    exact absurd (c.symm.trans ((f3 u hu).mpr q.1)) (by decide)
  · rw [bitI0 (by omega) (by omega)] at c2
    exact absurd (c2.symm.trans q.2) (by decide)
  · rw [bitI0 (by omega) (by omega)] at c; simpa using c
  · rw [bitI0 (by omega) (by omega)] at c2; simpa using c2
theorem pe_waysBy {h : Ho} {t : Se} {p a u : Nat} {I : MI} {J : MJ} {Q : Int64 → MI → MJ → Prop} (h1 : hoOK h) (h2 : seOK h t) (hC : lexC I J h) (hP : Ph I J h t) (hp : 0 < p) (hr : Rc h t p a) (hu : u < hoW h) (hQ : Q (lN (gw h t p a u)) I J) : P_X6_waysBy (nI u) (nI p) (nI (msk t a)) I J Q := by
  have hle := Rc_le h1 hr
  have htp := tp_1296 h2
  obtain ⟨hL, hT, _⟩ := id hP
  refine pe_opens h1 h2 hC hL hp (by omega) ⟨a, hr⟩ hu (msk_lt (seOK_O h2) (by omega)) (fun ho hb => ⟨fun e => absurd e no10, fun _ => ?_⟩) (fun hno => ⟨fun _ => ?_, fun e => absurd rfl e⟩)
  · obtain ⟨o1, o2, o3⟩ := Op_fit ho
    obtain ⟨f1, f2, f3, f4⟩ := fit_step h1 hu (by omega) o2
    refine pe_tailBehind h1 hu (hC.2.1 u hu) (hL.2.1 u hu o1 (fit_up o2)) f2 (by omega) ?_
    rw [hT _ _ (h1.2 u hu).1 (Op_Rc hp hu ho)]
    have e : gw h t p a u = V h t (okB t) (p - pr h t u) (hoK h u) := if_pos (may_iff.mpr ⟨o1, hb, o2⟩)
    rw [e] at hQ; exact hQ
  · have e : gw h t p a u = 0 := by
      unfold gw
      by_cases hm : may h t (okB t) p a u = true
      · rw [if_pos hm]
        obtain ⟨m1, m2, m3⟩ := may_iff.mp hm
        have e0 : p - pr h t u = 0 ∧ (seE t).testBit (hoK h u) = false := by
          by_cases e0 : p - pr h t u = 0
          · refine ⟨e0, ?_⟩
            cases hb : (seE t).testBit (hoK h u) with
            | false => rfl
            | true => exact absurd ⟨⟨a, hr, hm, fun _ => hb⟩, m2⟩ hno
          · exact absurd ⟨⟨a, hr, hm, fun q => absurd q e0⟩, m2⟩ hno
        rw [e0.1, V_0]; unfold eb; rw [e0.2]; rfl
      · rw [if_neg hm]
    rw [e] at hQ; exact hQ
/-- what a finding leaves alone -/
def frN (I I' : MI) (J J' : MJ) : Prop := frC I I' J J' ∧ I' 39 8 = I 39 8 ∧ I' 39 9 = I 39 9
theorem frN_rfl {I : MI} {J : MJ} : frN I I J J := ⟨frC_rfl, rfl, rfl⟩
theorem frN_tr {I I1 I2 : MI} {J J1 J2 : MJ} (h : frN I I1 J J1) (g : frN I1 I2 J1 J2) : frN I I2 J J2 := ⟨frC_tr h.1 g.1, g.2.1.trans h.2.1, g.2.2.trans h.2.2⟩
theorem frR_N {I I' : MI} {J J' : MJ} (h : frR I I' J J') : frN I I' J J' := ⟨frR_C h, h.2.1 8 (by decide) (by decide), h.2.1 9 (by decide) (by decide)⟩
theorem frN_sw {I I' : MI} {J J' : MJ} (h : frN I I' J J') (g : S_sw (I 39 8) (I 39 9)) : S_sw (I' 39 8) (I' 39 9) := by rw [h.2.1, h.2.2]; exact g
theorem CX_N {I I' : MI} {J J' : MJ} {h : Ho} {t : Se} (hc : CX I J h t) (f : frN I I' J J') : CX I' J' h t := CX_fr hc (fun c hc => f.1.1 c (Or.inl hc)) (fun c hc => f.1.2 c (Or.inl hc))
theorem pe_findX {h : Ho} {t : Se} {n L : Nat} {I : MI} {J : MJ} {Q : MI → MJ → Prop} (h1 : hoOK h) (h2 : seOK h t) (hX : CX I J h t) (hP : I 39 12 = 0 ∨ Ph I J h t) (hn : n < V h t (okB t) (tp t) 4) (hL : isLen h t n L)
    (hQ : ∀ (I' : MI) (J' : MJ), frN I I' J J' → Ph I' J' h t → I' 39 10 = nI L → (∀ i, i < L → I' 43 i = nI (fnd h t n i)) → Q I' J') : P_X6_findNumbered (lN n) I J Q := by
  have hw10 := h1.1
  have htp := tp_1296 h2
  refine pe_refresh h1 h2 hX hP (fun I1 J1 f1 p1 => ?_)
  have hX1 := CX_N hX (frR_N f1)
  rintro I2 rfl
  have e11 : mI I1 39 10 0 46 11 = nI (tp t) := p1.1.1
  have e3 : mI I1 39 10 0 17 3 = nI (seG t) := hX1.2.2.2.2.1
  rw [e11, e3]
  refine lpx_up (fun i z => ∃ I' : MI, z = (nI (sst h t n i).1, nI (msk t (sst h t n i).2.1), lN (sst h t n i).2.2, nI i, I', J1) ∧ (∀ c, c ≠ 39 → c ≠ 43 → I' c = I1 c) ∧ (∀ k, k ≠ 10 → I' 39 k = I1 39 k) ∧ I' 39 10 = nI i ∧ ∀ j, j < i → I' 43 j = nI (fnd h t n j)) L ?_ ?_ 0 _ (Nat.zero_le _) ⟨_, rfl, fun c c1 c2 => wI_n _ c1 _, fun k hk => (mI_s I1 39 10 _ k).trans (upd_n hk), (mI_s I1 39 10 _ 10).trans (upd_s rfl), fun j hj => absurd hj (Nat.not_lt_zero j)⟩
  · rintro z k ⟨I', rfl, g1, g2, g3, g4⟩
    have fin : Q I' J1 := by
      refine hQ I' J1 ⟨⟨fun c hc => (g1 c (by omega) (by omega)).trans ((frR_C f1).1 c hc), (frR_C f1).2⟩, (g2 8 (by decide)).trans (frR_N f1).2.1, (g2 9 (by decide)).trans (frR_N f1).2.2⟩ ?_ g3 g4
      show PhOK (I' 39) (I' 46) (I' 48) (I' 49) (I' 50) (I' 52) _ _ _ h t
      rw [g1 46 (by decide) (by decide), g1 48 (by decide) (by decide), g1 49 (by decide) (by decide), g1 50 (by decide) (by decide), g1 52 (by decide) (by decide)]
      refine ⟨p1.1, p1.2.1, p1.2.2.1, ?_⟩
      rw [g2 13 (by decide)]; exact p1.2.2.2
    rw [hL.2.1]
    exact ⟨fun _ => fin, fun _ => ⟨fun _ => fin, fun c => absurd (show nI 0 ≤ (0 : Int32) by decide) c⟩⟩
  · rintro i z k hi ⟨I', rfl, g1, g2, g3, g4⟩ hk
    have hL12 := hL.1
    have hp := hL.2.2 i hi
    have hs := sx_all h1 hn hL i (by omega)
    obtain ⟨w1, w2, w3, w4⟩ := sx_word h1 hs hp
    obtain ⟨b1, b2, b3, b4⟩ := sx_lt h1 h2 hs
    have hX' : CX I' J1 h t := CX_fr hX1 (fun c hc => g1 c (by omega) (by omega)) (fun _ _ => rfl)
    have hP' : Ph I' J1 h t := by
      show PhOK (I' 39) (I' 46) (I' 48) (I' 49) (I' 50) (I' 52) _ _ _ h t
      rw [g1 46 (by decide) (by decide), g1 48 (by decide) (by decide), g1 49 (by decide) (by decide), g1 50 (by decide) (by decide), g1 52 (by decide) (by decide)]
      refine ⟨p1.1, p1.2.1, p1.2.2.1, ?_⟩
      rw [g2 13 (by decide)]; exact p1.2.2.2
    have hr := hs.1
    have hfit := (may_iff.mp w4).2.2
    have hfs := fit_step h1 w1 b2 hfit
    refine pk_le 12 i (fun c => by have := hL.1; omega) (fun _ => pk_le (sst h t n i).1 0 (fun c => by omega) (fun _ => ?_))
    refine pe_waysBy (u := 0) h1 h2 hX'.1 hP' hp hr (by omega) ?_
    refine lpx_up (fun u z => u ≤ fnd h t n i ∧ z = (nI (sst h t n i).1, nI (msk t (sst h t n i).2.1), lN ((sst h t n i).2.2 - sm (gw h t (sst h t n i).1 (sst h t n i).2.1) u), nI i, nI u, lN (gw h t (sst h t n i).1 (sst h t n i).2.1 u), I', J1)) (fnd h t n i) ?_ ?_ 0 _ (Nat.zero_le _) ⟨Nat.zero_le _, rfl⟩
    · rintro z k2 ⟨_, rfl⟩
      have hgl := gw_le h1 h2 (a := (sst h t n i).2.1) (u := fnd h t n i) b2
      have es : sm (gw h t (sst h t n i).1 (sst h t n i).2.1) (fnd h t n i + 1) = sm (gw h t (sst h t n i).1 (sst h t n i).2.1) (fnd h t n i) + gw h t (sst h t n i).1 (sst h t n i).2.1 (fnd h t n i) := rfl
      have hv10 : vp_in (nI (fnd h t n i)) 10 := vp_in_nI (by omega) (by decide)
      refine pk_le (hoW h) (fnd h t n i) (fun c => by omega) (fun _ => ⟨fun _ => ?_, fun c => absurd ((pk_lLT (by omega) (by omega)).mpr (by omega)) c⟩) hX'.1.1
      refine pk_lt (fnd h t n i) (hoW h) (fun _ => ?_) (fun c => by omega) rfl hX'.1.1
      show P_X6_cameToBy _ _ _ _ _
      unfold P_X6_cameToBy
      rw [g3]
      refine ⟨vp_in_nI (by have := hL.1; omega) (by decide), ?_⟩
      rintro I9 rfl I17 rfl
      refine ⟨hv10, hv10, ?_⟩
      have ecl : (nI (fnd h t n i)).toNatClampNeg = fnd h t n i := nI_clamp (by omega)
      have hk4 := (h1.2 _ w1).1
      have eci : (nI i).toNatClampNeg = i := nI_clamp (by have := hL.1; omega)
      rw [ecl, eci]
      have e52 : mI (mI I' 43 i (nI (fnd h t n i))) 39 10 (mI I' 43 i (nI (fnd h t n i)) 39 10 + 1) 52 (fnd h t n i) = nI (pr h t (fnd h t n i)) := by
        show I' 52 (fnd h t n i) = _
        rw [g1 52 (by decide) (by decide)]; exact p1.1.2.1 _ w1 (may_iff.mp w4).1 (fit_up hfit)
      have e13 : mI (mI I' 43 i (nI (fnd h t n i))) 39 10 (mI I' 43 i (nI (fnd h t n i)) 39 10 + 1) 13 (fnd h t n i) = nI (hoK h (fnd h t n i)) := hX'.1.2.1 _ w1
      have e20 : mI (mI I' 43 i (nI (fnd h t n i))) 39 10 (mI I' 43 i (nI (fnd h t n i)) 39 10 + 1) 20 (hoK h (fnd h t n i)) = nI (msk t (hoK h (fnd h t n i))) := by
        show I' 20 _ = _
        rw [hX'.2.2.2.1 _ hk4]; unfold msk; rw [if_neg (by omega)]
      rw [e52, pk_sub hfs.2.1, e13]
      refine ⟨vp_in_nI hk4 (by decide), ?_⟩
      rw [nI_clamp (by omega), e20, nI_1]
      refine hk _ ⟨_, rfl, fun c c1 c2 => (wI_n _ c1 _).trans ((wI_n _ c2 _).trans (g1 c c1 c2)), fun k hk => (mI_s _ 39 10 _ k).trans ((upd_n hk).trans (g2 k hk)), ?_, fun j hj => ?_⟩
      · rw [mI_s, upd_s rfl]
        show I' 39 10 + 1 = _
        rw [g3, nI_1]
      · show upd (I' 43) i _ j = _
        by_cases hji : j = i
        · subst hji; rw [upd_s rfl]
        · rw [upd_n hji]; exact g4 j (by omega)
    · rintro u z k2 hu ⟨hu2, rfl⟩ hk2
      have hgl := gw_le h1 h2 (a := (sst h t n i).2.1) (u := u) b2
      have es : sm (gw h t (sst h t n i).1 (sst h t n i).2.1) (u + 1) = sm (gw h t (sst h t n i).1 (sst h t n i).2.1) u + gw h t (sst h t n i).1 (sst h t n i).2.1 u := rfl
      have hle : sm (gw h t (sst h t n i).1 (sst h t n i).2.1) (u + 1) ≤ sm (gw h t (sst h t n i).1 (sst h t n i).2.1) (fnd h t n i) := sm_le_sm _ hu
      refine pk_le (hoW h) u (fun c => by omega) (fun _ => ⟨fun c => absurd ((pk_lLT (by omega) (by omega)).mp c) (by omega), fun _ => ?_⟩) hX'.1.1
      rw [nI_1, lN_sub (by omega)]
      refine pk_le (hoW h) (u + 1) (fun c => by omega) (fun _ => ?_) hX'.1.1
      refine pe_waysBy h1 h2 hX'.1 hP' hp hr (by omega) ?_
      refine hk2 _ ⟨hu, ?_⟩
      rw [es, Nat.sub_sub]
