/-! ===== nearly ===== -/
theorem SimH_ph {I I' : MI} {J J' : MJ} {A A' : MI} {B B' : MJ} {h : Ho} {t : Se} (hs : SimH I J A B h t) (f : ∀ c, c < 39 ∨ (54 ≤ c ∧ c ≠ 62 ∧ c ≠ 63 ∧ c ≠ 64) → c ≠ 17 → c ≠ 18 → c ≠ 19 → c ≠ 20 → c ≠ 21 → c ≠ 22 → c ≠ 23 → c ≠ 24 → I' c = I c) (g : ∀ c, c < 39 ∨ 54 ≤ c → J' c = J c) (fM : frM A A' B B') (h5' : setX (I' 17) (I' 18) (I' 19) (I' 20) h t) (h14' : S_sw (I' 39 8) (I' 39 9)) (hP : I' 39 12 = 0 ∨ Ph I' J' h t) : SimH I' J' A' B' h t := by
  obtain ⟨h1, h2, h3, h4, h5, h6, h7, h8, h9, h10, h11, h12, h13, h14, h15⟩ := hs
  obtain ⟨m1, m2, m3⟩ := fM
  have f' : ∀ c, (c < 17 ∨ (24 < c ∧ c < 39) ∨ (54 ≤ c ∧ c < 62) ∨ c = 65) → I' c = I c := fun c hc => f c (by omega) (by omega) (by omega) (by omega) (by omega) (by omega) (by omega) (by omega) (by omega)
  refine ⟨h1, h2, ?_, ?_, h5', ?_, ?_, ?_, ?_, ?_, ?_, ?_, ?_, h14', hP, ?_, ?_⟩
  · rw [f' 12 (by decide), f' 13 (by decide), f' 14 (by decide), f' 16 (by decide), g 15 (by decide)]; exact h3
  · rw [m2 2 (by decide), m1 4 (by decide) (by decide) (by decide), m1 3 (by decide) (by decide) (by decide), m1 5 (by decide) (by decide) (by decide), m1 2 (by decide) (by decide) (by decide)]; exact h4
  · rw [m1 6 (by decide) (by decide) (by decide)]; exact h6
  · rw [f' 1 (by decide), f' 2 (by decide), f' 8 (by decide), m2 1 (by decide), m1 1 (by decide) (by decide) (by decide)]; exact h7
  · rw [f' 35 (by decide), f' 36 (by decide), f' 37 (by decide), f' 38 (by decide), m2 10 (by decide), m2 11 (by decide), m1 8 (by decide) (by decide) (by decide)]; exact h8
  · rw [f' 34 (by decide), f' 26 (by decide), f' 27 (by decide), f' 28 (by decide), f' 29 (by decide), m1 10 (by decide) (by decide) (by decide), m1 9 (by decide) (by decide) (by decide)]; exact h9
  · rw [f' 34 (by decide), f' 30 (by decide), f' 31 (by decide), f' 32 (by decide), f' 33 (by decide), m1 10 (by decide) (by decide) (by decide), m1 9 (by decide) (by decide) (by decide)]; exact h10
  · rw [f' 0 (by decide), f' 61 (by decide), m2 15 (by decide), m1 11 (by decide) (by decide) (by decide)]; exact h11
  · rw [f' 0 (by decide), f' 65 (by decide), m2 19 (by decide), m1 12 (by decide) (by decide) (by decide), m1 13 (by decide) (by decide) (by decide), m1 14 (by decide) (by decide) (by decide)]; exact h12
  · rw [g 0 (by decide), m3]; exact h13
  · rw [f' 55 (by decide), f' 58 (by decide), g 59 (by decide)]; exact h15.2.1
  · rw [f' 55 (by decide), g 60 (by decide)]; exact h15.2.2
theorem end_pos {h : Ho} {t : Se} (h1 : hoOK h) (hE : seE t < 16) : 0 < V h t (okB t) (tp t) 4 ↔ ∃ a, a < 4 ∧ Rc h t 0 a := by
  rcases Nat.eq_zero_or_pos (tp t) with q | q
  · have e : V h t (okB t) (tp t) 4 = 0 := by
      rw [q, V_0]; unfold eb; rw [Nat.testBit_lt_two_pow (i := 4) (by omega)]; rfl
    refine ⟨fun c => by omega, fun ⟨a, ha, hr⟩ => ?_⟩
    have := Rc_le h1 hr; omega
  · rw [V_pos h1 (tp t) (tp t) 4 (Nat.le_refl _) q (Nat.le_refl _)]
    constructor
    · rintro ⟨n, b, hr⟩
      have hrc : Rc h t 0 b := ⟨n, hr⟩
      have := Rc_le h1 hrc
      exact ⟨b, by omega, hrc⟩
    · rintro ⟨a, _, n, hr⟩
      exact ⟨n, a, hr⟩
theorem pe_exist {h : Ho} {t : Se} {I : MI} {J : MJ} {Q : Int32 → MI → MJ → Prop} (h1 : hoOK h) (h2 : seO h t) (hX : CX I J h t)
    (hQ : ∀ (I' : MI) (J' : MJ) (r : Int32), (∀ c, c < 39 ∨ 54 ≤ c → I' c = I c) → (∀ k, k ≠ 12 → I' 39 k = I 39 k) → I' 39 12 = 0 → (∀ c, c < 39 ∨ 54 ≤ c → J' c = J c) → (r = 1 ∧ 0 < V h t (okB t) (tp t) 4 ∨ r = 0 ∧ ¬ 0 < V h t (okB t) (tp t) 4) → Q r I' J') : P_X6_exist I J Q := by
  rintro I2 rfl
  have hX2 : CX (mI I 39 12 0) J h t := CX_fr hX (fun c hc => wI_n _ (by omega) _) (fun _ _ => rfl)
  refine pe_lay h1 h2 hX2.1 hX2.2 (fun I1 J1 f1 f2 hL => ?_)
  obtain ⟨c, e1, c2, c3, c4⟩ := hL.2.2.1 0 (Nat.zero_le _)
  have fin : ∀ r : Int32, (r = 1 ∧ 0 < V h t (okB t) (tp t) 4 ∨ r = 0 ∧ ¬ 0 < V h t (okB t) (tp t) 4) → Q r I1 J1 := fun r hr => by
    refine hQ I1 J1 r (fun c hc => (f1 c (by omega) (by omega) (by omega) (by omega) (by omega) (by omega)).trans (wI_n _ (by omega) _)) (fun k hk => ?_) ?_ (fun c hc => f2 c (by omega)) hr
    · rw [f1 39 (by decide) (by decide) (by decide) (by decide) (by decide) (by decide), mI_s, upd_n hk]
    · rw [f1 39 (by decide) (by decide) (by decide) (by decide) (by decide) (by decide), mI_s, upd_s rfl]
  refine ⟨vp_in_nI (n := 0) (by decide) (by decide), ?_⟩
  rw [show I1 48 (0 : Int32).toNatClampNeg = nI c from e1]
  have hex := end_pos h1 h2.2.2.2.2.1
  refine ⟨fun e => fin 0 (Or.inr ⟨rfl, fun hv => ?_⟩), fun e => fin 1 (Or.inl ⟨rfl, ?_⟩)⟩
  · have c0 : c = 0 := (nI_eq (b := 0) (by omega) (by decide)).mp e
    obtain ⟨a, ha, hr⟩ := hex.mp hv
    have := (c4 a ha).mpr hr
    rw [c0] at this; exact absurd this (by simp)
  · apply Classical.byContradiction; intro hv
    apply e
    have c0 : c = 0 := by
      apply Nat.eq_of_testBit_eq
      intro j
      rw [Nat.zero_testBit]
      rcases Nat.lt_or_ge j 4 with q | q
      · cases hj : c.testBit j with
        | false => rfl
        | true => exact absurd (hex.mpr ⟨j, q, (c4 j q).mp hj⟩) hv
      · rcases Nat.lt_or_ge j 5 with q2 | q2
        · rw [show j = 4 by omega]
          cases hj : c.testBit 4 with
          | false => rfl
          | true => have := c3.mp hj; omega
        · exact Nat.testBit_lt_two_pow (Nat.lt_of_lt_of_le c2 (show 2 ^ 5 ≤ 2 ^ j from Nat.pow_le_pow_right (by decide) q2))
    rw [c0]; rfl
def md (h : Ho) (t : Se) (w l : Nat) : Prop := (w = 1 → 0 < seB t l) ∧ 0 < V h (chg w l 0 t) (okB (chg w l 0 t)) (tp (chg w l 0 t)) 4
theorem seO_chg {h : Ho} {t : Se} {w l : Nat} (h2 : seOK h t) (hw : w ≤ 1) (hl : l < 8) (hp : w = 1 → 0 < seB t l) : seO h (chg w l 0 t) := by
  rcases (show w = 0 ∨ w = 1 by omega) with rfl | rfl
  · refine ⟨?_, h2.2⟩
    show sm (fun i => if i = l then seB t i + 1 else seB t i) 8 ≤ 13
    rw [sm_inc, if_pos hl]; have := h2.1; omega
  · refine ⟨?_, h2.2⟩
    show sm (fun i => if i = l then seB t i - 1 else seB t i) 8 ≤ 13
    have := sm_dec (seB t) (hp rfl) 8
    have := h2.1; omega
theorem bit_next {m i : Nat} {P : Nat → Prop} (hi : i < 8) (hm : m < 256) (hb : ∀ l, l < 8 → (m.testBit l = true ↔ l < i ∧ P l)) : (¬ P i → ∀ l, l < 8 → (m.testBit l = true ↔ l < i + 1 ∧ P l)) ∧ (P i → m ||| 2 ^ i < 256 ∧ ∀ l, l < 8 → ((m ||| 2 ^ i).testBit l = true ↔ l < i + 1 ∧ P l)) := by
  refine ⟨fun hn l hl => ?_, fun hp => ⟨or_lt (n := 8) hm (pow_lt31 hi), fun l hl => ?_⟩⟩
  · rw [hb l hl]
    refine ⟨fun q => ⟨by omega, q.2⟩, fun q => ⟨?_, q.2⟩⟩
    rcases Nat.lt_or_ge l i with c | c
    · exact c
    · have hq := q.2; rw [show l = i by omega] at hq; exact absurd hq hn
  · rw [tb_or2, Bool.or_eq_true, decide_eq_true_iff, hb l hl]
    constructor
    · rintro (q | q)
      · exact ⟨by omega, q.2⟩
      · subst q; exact ⟨by omega, hp⟩
    · rintro ⟨q1, q2⟩
      rcases Nat.lt_or_ge l i with c | c
      · exact Or.inl ⟨c, q2⟩
      · exact Or.inr (by omega)
theorem mask8_uniq {m n : Nat} (hm : m < 256) (hn : n < 256) (h : ∀ w, w < 8 → (m.testBit w = true ↔ n.testBit w = true)) : m = n := by
  refine mask_uniq (by omega) (by omega) (fun w hw => ?_)
  rcases Nat.lt_or_ge w 8 with q | q
  · exact h w q
  · have hj : 2 ^ 8 ≤ 2 ^ w := Nat.pow_le_pow_right (by decide) q
    rw [Nat.testBit_lt_two_pow (Nat.lt_of_lt_of_le hm hj), Nat.testBit_lt_two_pow (Nat.lt_of_lt_of_le hn hj)]
theorem pe_mending {h : Ho} {t : Se} {w : Nat} {I : MI} {J : MJ} {Q : Int32 → MI → MJ → Prop} (h1 : hoOK h) (h2 : seOK h t) (hX : CX I J h t) (hw : w ≤ 1) (hS : I 39 12 = 0 ∨ Ph I J h t) (h14 : S_sw (I 39 8) (I 39 9))
    (hQ : ∀ (I' : MI) (J' : MJ) (m : Nat), (∀ c, c < 39 ∨ 54 ≤ c → c ≠ 17 → c ≠ 18 → c ≠ 19 → c ≠ 20 → I' c = I c) → (∀ c, c < 39 ∨ 54 ≤ c → J' c = J c) → setX (I' 17) (I' 18) (I' 19) (I' 20) h t → S_sw (I' 39 8) (I' 39 9) → (I' 39 12 = 0 ∨ Ph I' J' h t) → m < 256 → (∀ l, l < 8 → (m.testBit l = true ↔ l < 8 ∧ md h t w l)) → Q (nI m) I' J') : P_X11_lettersMending (nI w) (nI (1 - w)) I J Q := by
  refine lpx_up (fun i z => ∃ (I' : MI) (J' : MJ) (m : Nat), z = (nI w, nI (1 - w), nI m, nI i, I', J') ∧ (∀ c, c < 39 ∨ 54 ≤ c → c ≠ 17 → c ≠ 18 → c ≠ 19 → c ≠ 20 → I' c = I c) ∧ (∀ c, c < 39 ∨ 54 ≤ c → J' c = J c) ∧ setX (I' 17) (I' 18) (I' 19) (I' 20) h t ∧ S_sw (I' 39 8) (I' 39 9) ∧ (I' 39 12 = 0 ∨ Ph I' J' h t) ∧ m < 256 ∧ ∀ l, l < 8 → (m.testBit l = true ↔ l < i ∧ md h t w l)) 8 ?_ ?_ 0 _ (Nat.zero_le _) ⟨I, J, 0, rfl, fun _ _ _ _ _ _ => rfl, fun _ _ => rfl, hX.2, h14, hS, by decide, fun l _ => ⟨fun q => absurd q (by simp), fun q => absurd q.1 (Nat.not_lt_zero l)⟩⟩
  · rintro z k ⟨I', J', m, rfl, g1, g2, g3, g4, g5, g6, g7⟩
    exact pk_le 8 8 (fun _ => hQ I' J' m g1 g2 g3 g4 g5 g6 g7) (fun c => by omega)
  · rintro i z k hi ⟨I', J', m, rfl, g1, g2, g3, g4, g5, g6, g7⟩ hk
    obtain ⟨bn0, bn1⟩ := bit_next hi g6 g7
    have lexI : ∀ I2 : MI, (∀ c, c < 39 ∨ 54 ≤ c → c ≠ 17 → c ≠ 18 → c ≠ 19 → c ≠ 20 → I2 c = I c) → ∀ J2 : MJ, (∀ c, c < 39 ∨ 54 ≤ c → J2 c = J c) → lexC I2 J2 h := fun I2 q J2 r => by
      unfold lexC
      rw [q 12 (by decide) (by decide) (by decide) (by decide) (by decide), q 13 (by decide) (by decide) (by decide) (by decide) (by decide), r 15 (by decide)]
      exact hX.1
    have main : (w = 1 → 0 < seB t i) → P_X11_lettersMending_33 Q k (nI w) (nI (1 - w)) (nI m) (nI i) I' J' := fun hp => by
      have ha : actOK h w i 0 := ⟨by omega, fun _ => hi, fun e => by omega, fun e => by omega, fun e => by omega, fun e => by omega⟩
      have ha2 : actOK h (1 - w) i 0 := ⟨by omega, fun _ => hi, fun e => by omega, fun e => by omega, fun e => by omega, fun e => by omega⟩
      have hO := seO_chg h2 hw hi hp
      refine pe_change (d := 0) h1 g3 ha hp (fun o b r f hset => ?_)
      have f4 : ∀ c, c ≠ 17 → c ≠ 18 → c ≠ 19 → c ≠ 20 → w4 I' o b r f c = I' c := fun c c1 c2 c3 c4 => (wI_n _ c4 _).trans ((wI_n _ c3 _).trans ((wI_n _ c2 _).trans (wI_n _ c1 _)))
      have fr4 : ∀ c, c < 39 ∨ 54 ≤ c → c ≠ 17 → c ≠ 18 → c ≠ 19 → c ≠ 20 → w4 I' o b r f c = I c := fun c hc c1 c2 c3 c4 => (f4 c c1 c2 c3 c4).trans (g1 c hc c1 c2 c3 c4)
      refine pe_exist h1 hO ⟨lexI _ fr4 J' g2, hset⟩ (fun I2 J2 v e1 e2 e3 e4 hv => ?_)
      have fr5 : ∀ c, c < 39 ∨ 54 ≤ c → c ≠ 17 → c ≠ 18 → c ≠ 19 → c ≠ 20 → I2 c = I c := fun c hc c1 c2 c3 c4 => (e1 c hc).trans (fr4 c hc c1 c2 c3 c4)
      have hset2 : setX (I2 17) (I2 18) (I2 19) (I2 20) h (chg w i 0 t) := by
        rw [e1 17 (by decide), e1 18 (by decide), e1 19 (by decide), e1 20 (by decide)]; exact hset
      have h39 : w4 I' o b r f 39 = I' 39 := f4 39 (by decide) (by decide) (by decide) (by decide)
      have back : ∀ m2 : Nat, m2 < 256 → (∀ l, l < 8 → (m2.testBit l = true ↔ l < i + 1 ∧ md h t w l)) → P_X11_lettersMending_61 Q k (nI w) (nI (1 - w)) (nI m2) (nI i) I2 J2 := fun m2 hm2 hb2 => by
        have hpb : 1 - w = 1 → 0 < seB (chg w i 0 t) i := fun e => by
          obtain rfl : w = 0 := by omega
          show 0 < (if i = i then seB t i + 1 else seB t i)
          rw [if_pos rfl]; omega
        have ech : chg (1 - w) i 0 (chg w i 0 t) = t := by
          rcases (show w = 0 ∨ w = 1 by omega) with rfl | rfl
          · exact chg_put_take t
          · exact chg_take_put (hp rfl)
        refine pe_change (d := 0) h1 hset2 ha2 hpb (fun o2 b2 r2 f2 hset3 => ?_)
        rw [ech] at hset3
        have f42 : ∀ c, c ≠ 17 → c ≠ 18 → c ≠ 19 → c ≠ 20 → w4 I2 o2 b2 r2 f2 c = I2 c := fun c c1 c2 c3 c4 => (wI_n _ c4 _).trans ((wI_n _ c3 _).trans ((wI_n _ c2 _).trans (wI_n _ c1 _)))
        show k (nI w, nI (1 - w), nI m2, nI i + 1, _, J2)
        rw [nI_1]
        have e39 : w4 I2 o2 b2 r2 f2 39 = I2 39 := f42 39 (by decide) (by decide) (by decide) (by decide)
        refine hk _ ⟨_, J2, m2, rfl, fun c hc c1 c2 c3 c4 => (f42 c c1 c2 c3 c4).trans (fr5 c hc c1 c2 c3 c4), fun c hc => (e4 c hc).trans (g2 c hc), hset3, ?_, Or.inl ?_, hm2, hb2⟩
        · rw [e39, e2 8 (by decide), e2 9 (by decide), h39]; exact g4
        · rw [e39]; exact e3
      rcases hv with ⟨rfl, hv⟩ | ⟨rfl, hv⟩
      · refine ⟨fun e => absurd e no10, fun _ => ?_⟩
        obtain ⟨q1, q2⟩ := bn1 ⟨hp, hv⟩
        rw [shlI (by omega), nI_or]
        exact back _ q1 q2
      · exact ⟨fun _ => back m g6 (bn0 (fun q => hv q.2)), fun e => absurd rfl e⟩
    refine pk_le 8 i (fun c => by omega) (fun _ => ⟨fun c => main (fun e => absurd (by rw [e]; rfl) c), fun c => ⟨vp_in_nI hi (by decide), ?_⟩⟩)
    have hw1 : w = 1 := (nI_eq (b := 1) (by omega) (by decide)).mp c
    have hb12 : seB t i ≤ 12 := Nat.le_trans (sm_le _ hi) h2.1
    rw [nI_clamp (by omega), g3.1 i hi]
    refine ⟨fun c2 => main (fun _ => Nat.pos_of_ne_zero (fun e => c2 (by rw [e]; rfl))), fun c2 => ?_⟩
    have hz : seB t i = 0 := (nI_eq (b := 0) (by omega) (by decide)).mp c2
    show k (nI w, nI (1 - w), nI m, nI i + 1, I', J')
    rw [nI_1]
    exact hk _ ⟨I', J', m, rfl, g1, g2, g3, g4, g5, g6, bn0 (fun q => by have := q.1 hw1; omega)⟩
theorem rowM_bag {f : Nat → Int32} {h : Ho} {t : Se} {w l : Nat} (h1 : hoOK h) (hr : rowM f 0 h t) (hw : w ≤ 1) (hl : l < 8) : rowM (upd f l (nI (seB (chg w l 0 t) l))) 0 h (chg w l 0 t) := by
  have hw10 := h1.1
  obtain ⟨r1, r2, r3, r4, r5, r6⟩ := hr
  have hB : ∀ i, i < 8 → upd f l (nI (seB (chg w l 0 t) l)) (0 + i) = nI (seB (chg w l 0 t) i) := fun i hi => by
    rw [Nat.zero_add]
    by_cases e : i = l
    · subst e; rw [upd_s rfl]
    · have := r1 i hi
      rw [Nat.zero_add] at this
      rw [upd_n e, this]
      rcases (show w = 0 ∨ w = 1 by omega) with rfl | rfl
      · show nI (seB t i) = nI (if i = l then seB t i + 1 else seB t i); rw [if_neg e]
      · show nI (seB t i) = nI (if i = l then seB t i - 1 else seB t i); rw [if_neg e]
  rcases (show w = 0 ∨ w = 1 by omega) with rfl | rfl
  · exact ⟨hB, fun u hu => by rw [upd_n (by omega)]; exact r2 u hu, fun a ha => by rw [upd_n (by omega)]; exact r3 a ha, by rw [upd_n (by omega)]; exact r4, by rw [upd_n (by omega)]; exact r5, by rw [upd_n (by omega)]; exact r6⟩
  · exact ⟨hB, fun u hu => by rw [upd_n (by omega)]; exact r2 u hu, fun a ha => by rw [upd_n (by omega)]; exact r3 a ha, by rw [upd_n (by omega)]; exact r4, by rw [upd_n (by omega)]; exact r5, by rw [upd_n (by omega)]; exact r6⟩
theorem frM_lex {A A' : MI} {B B' : MJ} {h : Ho} (fM : frM A A' B B') (hl : lexN A h) : lexN A' h := ⟨(fM.2.1 2 (by decide)).trans hl.1, fun u hu => by rw [fM.1 4 (by decide) (by decide) (by decide)]; exact hl.2.1 u hu, fun u hu l h9 => by rw [fM.1 5 (by decide) (by decide) (by decide)]; exact hl.2.2 u hu l h9⟩
theorem frM_tr {A A1 A2 : MI} {B B1 B2 : MJ} (h : frM A A1 B B1) (g : frM A1 A2 B1 B2) : frM A A2 B B2 := ⟨fun c c1 c2 c3 => (g.1 c c1 c2 c3).trans (h.1 c c1 c2 c3), fun k hk => (g.2.1 k hk).trans (h.2.1 k hk), g.2.2.trans h.2.2⟩
theorem pe_nearlyM {h : Ho} {t : Se} {w : Nat} {A : MI} {B : MJ} {Q : Int32 → MI → MJ → Prop} (h1 : hoOK h) (h2 : seOK h t) (hl : lexN A h) (hr : rowM (A 6) 0 h t) (hw : w ≤ 1) (hQ : ∀ (A' : MI) (B' : MJ) (m : Nat), frM A A' B B' → m < 256 → (∀ l, l < 8 → (m.testBit l = true ↔ l < 8 ∧ md h t w l)) → Q (nI m) A' B') : P_X12_nearly (nI w) A B Q := by
  have hw10 := h1.1
  have h13p : (10 : Nat) ^ 13 < 2 ^ 60 := by decide
  refine pe_inI (p := 0) (q := 1) (by decide) (by decide) (fun _ _ => ⟨fun _ => ?_, fun e => absurd e no10⟩) (fun hh => absurd ⟨by rw [nI_toInt (by omega)]; omega, by rw [nI_toInt (by omega)]; omega⟩ hh)
  refine pe_copyM (by decide) (fun f hf => ?_)
  have hrf : rowM f 0 h t := ⟨fun l hl => by rw [hf _ (by omega)]; exact hr.1 l hl, fun u hu => by rw [hf _ (by omega)]; exact hr.2.1 u hu, fun a ha => by rw [hf _ (by omega)]; exact hr.2.2.1 a ha, by rw [hf _ (by omega)]; exact hr.2.2.2.1, by rw [hf _ (by omega)]; exact hr.2.2.2.2.1, by rw [hf _ (by omega)]; exact hr.2.2.2.2.2⟩
  refine lpx_up (fun i z => ∃ (A' : MI) (B' : MJ) (m : Nat), z = (nI w, nI m, nI i, A', B') ∧ frM A A' B B' ∧ A' 7 = f ∧ m < 256 ∧ ∀ l, l < 8 → (m.testBit l = true ↔ l < i ∧ md h t w l)) 8 ?_ ?_ 0 _ (Nat.zero_le _) ⟨_, B, 0, rfl, ⟨fun c c1 c2 c3 => wI_n _ c3 _, fun k hk => rfl, rfl⟩, wI_s _ _ _, by decide, fun l _ => ⟨fun q => absurd q (by simp), fun q => absurd q.1 (Nat.not_lt_zero l)⟩⟩
  · rintro z k ⟨A', B', m, rfl, g1, g2, g3, g4⟩
    exact pk_le 8 8 (fun _ => hQ A' B' m g1 g3 g4) (fun c => by omega)
  · rintro i z k hi ⟨A', B', m, rfl, g1, g2, g3, g4⟩ hk
    obtain ⟨bn0, bn1⟩ := bit_next hi g3 g4
    have hci : (nI i).toNatClampNeg = i := nI_clamp (by omega)
    have hv25 : vp_in (nI i) 25 := vp_in_nI (by omega) (by decide)
    have hb12 : seB t i ≤ 12 := Nat.le_trans (sm_le _ hi) h2.1
    have efi : f i = nI (seB t i) := by have := hrf.1 i hi; rwa [Nat.zero_add] at this
    -- the trial row put back
    have tail : ∀ (A2 : MI) (B2 : MJ) (s1 : Nat) (s0 : Int32), frM A A2 B B2 → A2 7 = upd f i (f i + s0) → (m ||| s1) < 256 → (∀ l, l < 8 → ((m ||| s1).testBit l = true ↔ l < i + 1 ∧ md h t w l)) → P_X12_nearly_86 Q k (nI w) (nI i) s0 (nI m) (nI s1) A2 B2 := fun A2 B2 s1 s0 q1 q2 q3 q4 => by
      refine ⟨hv25, hv25, ?_⟩
      rintro A3 rfl
      rw [hci, nI_or, nI_1]
      refine hk _ ⟨_, B2, m ||| s1, rfl, ⟨fun c c1 c2 c3 => (wI_n _ c3 _).trans (q1.1 c c1 c2 c3), q1.2.1, q1.2.2⟩, ?_, q3, q4⟩
      show wI A2 7 (upd (A2 7) i (A2 7 i - s0)) 7 = f
      rw [wI_s, q2, upd_s rfl, Int32.add_sub_cancel]
      funext j
      by_cases e : j = i
      · subst e; rw [upd_s rfl]
      · rw [upd_n e, upd_n e]
    have core : ∀ s0 : Int32, ((w = 1 ∧ seB t i = 0 ∧ f i + s0 < 0) ∨ ((w = 1 → 0 < seB t i) ∧ f i + s0 = nI (seB (chg w i 0 t) i))) → P_X12_nearly_43 Q k (nI w) (nI m) (nI i) s0 A' B' := fun s0 hs0 => by
      refine ⟨hv25, hv25, ?_⟩
      rintro A2 rfl
      rw [hci]
      have e7 : mI A' 7 i (A' 7 i + s0) 7 = upd f i (f i + s0) := by rw [show mI A' 7 i (A' 7 i + s0) 7 = upd (A' 7) i (A' 7 i + s0) from wI_s _ _ _, g2]
      have fM2 : frM A (mI A' 7 i (A' 7 i + s0)) B B' := ⟨fun c c1 c2 c3 => (wI_n _ c3 _).trans (g1.1 c c1 c2 c3), g1.2.1, g1.2.2⟩
      have e7i : mI A' 7 i (A' 7 i + s0) 7 i = f i + s0 := by rw [e7, upd_s rfl]
      refine ⟨hv25, ?_⟩
      rw [e7i]
      rcases hs0 with ⟨w1, hz, hneg⟩ | ⟨hp, e⟩
      · refine ⟨fun _ => ?_, fun c => absurd hneg c⟩
        refine tail _ B' 0 s0 fM2 e7 (by rw [Nat.or_zero]; exact g3) ?_
        rw [Nat.or_zero]; exact bn0 (fun q => by have := q.1 w1; omega)
      · have hO := seO_chg h2 hw hi hp
        have hbb : seB (chg w i 0 t) i ≤ 13 := Nat.le_trans (sm_le _ hi) hO.1
        refine ⟨fun c => absurd c (by rw [e]; exact nI_pos (by omega)), fun _ => ?_⟩
        refine pe_manyOf (Or.inr rfl) h1 hO (frM_lex fM2 hl) (by rw [e7, e]; exact rowM_bag h1 hrf hw hi) (fun A3 B3 fA fB hL hW => ?_)
        have hV := V_small (ok := okB (chg w i 0 t)) h1 hO.1 (Nat.le_refl (tp (chg w i 0 t))) 4
        have fM3 : frM A A3 B B3 := frM_tr fM2 (frM_of fA fB)
        have e73 : A3 7 = upd f i (f i + s0) := (fA.1 7 (by decide) (by decide)).trans e7
        refine ⟨fun c => ?_, fun c => ?_⟩
        · have hv : ¬ 0 < V h (chg w i 0 t) (okB (chg w i 0 t)) (tp (chg w i 0 t)) 4 := by have := (pk_lLE (b := 0) (by omega) (by decide)).mp c; omega
          refine tail A3 B3 0 s0 fM3 e73 (by rw [Nat.or_zero]; exact g3) ?_
          rw [Nat.or_zero]; exact bn0 (fun q => hv q.2)
        · have hv : 0 < V h (chg w i 0 t) (okB (chg w i 0 t)) (tp (chg w i 0 t)) 4 := by
            rcases Nat.eq_zero_or_pos (V h (chg w i 0 t) (okB (chg w i 0 t)) (tp (chg w i 0 t)) 4) with q | q
            · exact absurd (by rw [q]; exact Int64.le_refl 0) c
            · exact q
          obtain ⟨q1, q2⟩ := bn1 ⟨hp, hv⟩
          rw [shlI (by omega)]
          exact tail A3 B3 (2 ^ i) s0 fM3 e73 q1 q2
    refine pk_le 8 i (fun c => by omega) (fun _ => ⟨fun c => core (-1) ?_, fun c => core 1 ?_⟩)
    · have w1 : w = 1 := by
        rcases Nat.eq_zero_or_pos w with q | q
        · exact absurd (by rw [q]; rfl) c
        · omega
      rcases Nat.eq_zero_or_pos (seB t i) with q | q
      · exact Or.inl ⟨w1, q, by rw [efi, q]; decide⟩
      · refine Or.inr ⟨fun _ => q, ?_⟩
        subst w1
        show f i + (-1) = nI (if i = i then seB t i - 1 else seB t i)
        rw [if_pos rfl, efi]
        obtain ⟨n, hn⟩ : ∃ n, seB t i = n + 1 := ⟨seB t i - 1, by omega⟩
        rw [hn, pk_m1]; rfl
    · have w0 : w = 0 := (nI_eq (b := 0) (by omega) (by decide)).mp c
      subst w0
      refine Or.inr ⟨fun e => absurd e (by decide), ?_⟩
      show f i + 1 = nI (if i = i then seB t i + 1 else seB t i)
      rw [if_pos rfl, efi, nI_1]
theorem s_nearly : st_nearly Sim := by
  intro a I J A B hs
  obtain ⟨h, t, hH⟩ := Sim_H.mp hs
  obtain ⟨h1, h2, h3, h4, h5, h6, h7, h8, h9, h10, h11, h12, h13, h14, h15⟩ := id hH
  have hX : CX I J h t := ⟨lexX_C h3, h5⟩
  have main : ∀ w : Nat, w ≤ 1 → P_X11_lettersMending (nI w) (nI (1 - w)) I J (fun r I J => P_X12_nearly (nI w) A B (fun r2 I2 J2 => r = r2 ∧ Sim I J I2 J2)) := fun w hw => by
    refine pe_mending h1 h2 hX hw h15.1 h14 (fun I1 J1 m f1 f2 f3 f4 f5 hm hb => ?_)
    refine pe_nearlyM h1 h2 (lexM_N h4) h6 hw (fun A1 B1 m2 fM hm2 hb2 => ⟨by rw [mask8_uniq hm hm2 (fun l hl => (hb l hl).trans (hb2 l hl).symm)], h, t, ?_⟩)
    exact SimH_ph hH (fun c hc c1 c2 c3 c4 _ _ _ _ => f1 c (by omega) c1 c2 c3 c4) f2 fM f3 f4 f5
  refine ⟨fun c => ?_, fun c => ⟨fun c1 => ?_, fun c1 => ?_⟩⟩
  · subst c; exact main 0 (by decide)
  · subst c1; exact main 1 (by decide)
  · refine pe_inI (p := 0) (q := 1) (by decide) (by decide) (fun d1 d2 => ?_) (fun _ => ⟨fun e => absurd rfl e, fun _ => ⟨rfl, hs⟩⟩)
    exfalso
    have : a.toInt = 0 ∨ a.toInt = 1 := by omega
    rcases this with e | e
    · exact c (Int32.toInt_inj.mp (by rw [e]; rfl))
    · exact c1 (Int32.toInt_inj.mp (by rw [e]; rfl))
