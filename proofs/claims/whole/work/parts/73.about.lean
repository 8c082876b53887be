/-! ===== about: sets of words, told as bits ===== -/
theorem mask_uniq {m n : Nat} (hm : m < 1024) (hn : n < 1024) (h : ∀ w, w < 10 → (m.testBit w = true ↔ n.testBit w = true)) : m = n := by
  apply Nat.eq_of_testBit_eq
  intro j
  rcases Nat.lt_or_ge j 10 with q | q
  · have := h j q
    cases h1 : m.testBit j <;> cases h2 : n.testBit j
    · rfl
    · rw [h1, h2] at this; exact absurd (this.mpr rfl) (by decide)
    · rw [h1, h2] at this; exact absurd (this.mp rfl) (by decide)
    · rfl
  · have hj : 2 ^ 10 ≤ 2 ^ j := Nat.pow_le_pow_right (by decide) q
    rw [Nat.testBit_lt_two_pow (Nat.lt_of_lt_of_le hm hj), Nat.testBit_lt_two_pow (Nat.lt_of_lt_of_le hn hj)]
/-- a word is in a phrase -/
def wph (h : Ho) (t : Se) (w : Nat) : Prop := V h t (fun u => okB t u && !decide (u = w)) (tp t) 4 < V h t (okB t) (tp t) 4
def cnd (h : Ho) (t : Se) (p w : Nat) : Prop := Op h t p w ∧ 0 < V h t (okB t) (p - pr h t w) (hoK h w)
theorem wph_iff {h : Ho} {t : Se} (h1 : hoOK h) {w : Nat} (hw : w < hoW h) : wph h t w ↔ ∃ p, 0 < p ∧ p ≤ tp t ∧ (∃ a, Rc h t p a) ∧ cnd h t p w := by
  unfold wph
  rw [(V_wo (ok := okB t) h1 hw (tp t) (tp t) 4 (Nat.le_refl _) (Nat.le_refl _)).2]
  constructor
  · rintro ⟨n, q, b, hr, hq, hm, hv⟩
    have hrc : Rc h t q b := ⟨n, hr⟩
    have hle := Rc_le h1 hrc
    refine ⟨q, hq, by omega, ⟨b, hrc⟩, ⟨b, hrc, hm, fun e => ?_⟩, hv⟩
    rw [e, V_0] at hv
    unfold eb at hv
    cases hb : (seE t).testBit (hoK h w) with
    | true => rfl
    | false => rw [hb] at hv; exact absurd hv (Nat.not_lt_zero _)
  · rintro ⟨q, hq, _, _, ⟨b, ⟨n, hr⟩, hm, _⟩, hv⟩
    exact ⟨n, q, b, hr, hq, hm, hv⟩
theorem pe_wordsIn {h : Ho} {t : Se} {I : MI} {J : MJ} {Q : Int32 → MI → MJ → Prop} (h1 : hoOK h) (h2 : seOK h t) (hX : CX I J h t) (hS : I 39 12 = 0 ∨ Ph I J h t) (hQ : ∀ (I' : MI) (J' : MJ) (m : Nat), frR I I' J J' → Ph I' J' h t → m < 1024 → (∀ w, w < 10 → (m.testBit w = true ↔ w < hoW h ∧ wph h t w)) → Q (nI m) I' J') : P_X6_wordsInPhrases I J Q := by
  have hw10 := h1.1
  have htp := tp_1296 h2
  have h13p : (10 : Nat) ^ 13 < 2 ^ 60 := by decide
  refine pe_refresh h1 h2 hX hS (fun I1 J1 f1 p1 => ?_)
  have hX1 := CX_N hX (frR_N f1)
  obtain ⟨hL, hT, _⟩ := id p1
  obtain ⟨L1, L2, L3, L4, n, od, L5, L6, L7, L8, L9⟩ := id hL
  refine lpx_up (fun i z => ∃ m : Nat, z = (nI m, nI i, I1, J1) ∧ m < 1024 ∧ ∀ w, w < 10 → (m.testBit w = true ↔ w < hoW h ∧ ∃ j, j < i ∧ cnd h t (od j) w)) n ?_ ?_ 0 _ (Nat.zero_le _) ⟨0, rfl, by decide, fun w _ => ⟨fun q => absurd q (by simp), fun ⟨_, j, hj, _⟩ => absurd hj (Nat.not_lt_zero j)⟩⟩
  · rintro z k ⟨m, rfl, hm, hb⟩
    refine pk_le n n (fun _ => hQ I1 J1 m f1 p1 hm (fun w hw => ?_)) (fun c => by omega) L5
    rw [hb w hw]
    refine and_congr_right (fun hwW => ?_)
    rw [wph_iff h1 hwW]
    constructor
    · rintro ⟨j, hj, hc⟩
      obtain ⟨o1, o2, o3, o4⟩ := L7 j hj
      exact ⟨od j, o2, o3, o4, hc⟩
    · rintro ⟨p, hp0, hp, hr, hc⟩
      obtain ⟨j, hj, rfl⟩ := L9 p hp0 hp hr
      exact ⟨j, hj, hc⟩
  · rintro i z k hi ⟨m, rfl, hm, hb⟩ hk
    obtain ⟨o1, o2, o3, o4⟩ := L7 i hi
    refine pk_le n i (fun c => by omega) (fun _ => ⟨vp_in_nI (by omega) (by decide), ?_⟩) L5
    rw [nI_clamp (by omega), o1]
    refine lpx_up (fun u z => ∃ m2 : Nat, z = (nI m2, nI i, nI (od i), nI u, I1, J1) ∧ m2 < 1024 ∧ ∀ w, w < 10 → (m2.testBit w = true ↔ w < hoW h ∧ ((∃ j, j < i ∧ cnd h t (od j) w) ∨ (w < u ∧ cnd h t (od i) w)))) (hoW h) ?_ ?_ 0 _ (Nat.zero_le _) ⟨m, rfl, hm, fun w hw => by rw [hb w hw]; exact and_congr_right (fun _ => ⟨Or.inl, fun q => q.elim id (fun ⟨q, _⟩ => absurd q (Nat.not_lt_zero w))⟩)⟩
    · rintro z k2 ⟨m2, rfl, hm2, hb2⟩
      refine pk_le (hoW h) (hoW h) (fun _ => ?_) (fun c => by omega) hX1.1.1
      rw [nI_1]
      refine hk _ ⟨m2, rfl, hm2, fun w hw => ?_⟩
      rw [hb2 w hw]
      refine and_congr_right (fun hwW => ?_)
      constructor
      · rintro (⟨j, hj, hc⟩ | ⟨_, hc⟩)
        · exact ⟨j, by omega, hc⟩
        · exact ⟨i, by omega, hc⟩
      · rintro ⟨j, hj, hc⟩
        rcases Nat.lt_or_ge j i with q | q
        · exact Or.inl ⟨j, q, hc⟩
        · rw [show j = i by omega] at hc; exact Or.inr ⟨hwW, hc⟩
    · rintro u z k2 hu ⟨m2, rfl, hm2, hb2⟩ hk2
      have hk4 := (h1.2 u hu).1
      have skip : ¬ cnd h t (od i) u → P_X6_wordsInPhrases_85 Q k k2 (nI m2) (nI i) (nI (od i)) (nI u) I1 J1 := fun hno => by
        show k2 (nI m2, nI i, nI (od i), nI u + 1, I1, J1)
        rw [nI_1]
        refine hk2 _ ⟨m2, rfl, hm2, fun w hw => ?_⟩
        rw [hb2 w hw]
        refine and_congr_right (fun _ => or_congr Iff.rfl ⟨fun q => ⟨by omega, q.2⟩, fun q => ⟨?_, q.2⟩⟩)
        rcases Nat.lt_or_ge w u with c | c
        · exact c
        · have hq := q.2; rw [show w = u by omega] at hq; exact absurd hq hno
      refine pk_le (hoW h) u (fun c => by omega) (fun _ => ?_) hX1.1.1
      refine pe_opens (m := 15) h1 h2 hX1.1 hL o2 o3 o4 hu (by decide) (fun ho _ => ⟨fun e => absurd e no10, fun _ => ?_⟩) (fun hno => ⟨fun _ => skip (fun hc => hno ⟨hc.1, ?_⟩), fun e => absurd rfl e⟩)
      · obtain ⟨q1, q2, q3⟩ := Op_fit ho
        obtain ⟨s1, s2, s3, s4⟩ := fit_step h1 hu o3 q2
        have hv := V_small (ok := okB t) h1 (seOK_O h2).1 (p := od i - pr h t u) (by omega) (hoK h u)
        refine pe_tailBehind h1 hu (hX1.1.2.1 u hu) (L2 u hu q1 (fit_up q2)) s2 (by omega) ?_
        rw [hT _ _ hk4 (Op_Rc o2 hu ho)]
        refine ⟨fun c => skip (fun hc => ?_), fun c => ?_⟩
        · have := (pk_lLE (b := 0) (by omega) (by decide)).mp c
          have := hc.2; omega
        · have hp : 0 < V h t (okB t) (od i - pr h t u) (hoK h u) := by
            rcases Nat.eq_zero_or_pos (V h t (okB t) (od i - pr h t u) (hoK h u)) with e | e
            · exact absurd (show lN (V h t (okB t) (od i - pr h t u) (hoK h u)) ≤ (0 : Int64) from by rw [e]; exact Int64.le_refl 0) c
            · exact e
          have h2u : 2 ^ u < 1024 := pow_lt31 (n := 10) (by omega)
          show k2 (nI m2 ||| (1 : Int32) <<< (nI u &&& 31), nI i, nI (od i), nI u + 1, I1, J1)
          rw [nI_1, shlI (by omega), nI_or]
          refine hk2 _ ⟨m2 ||| 2 ^ u, rfl, or_lt (n := 10) hm2 h2u, fun w hw => ?_⟩
          rw [tb_or2, Bool.or_eq_true, decide_eq_true_iff, hb2 w hw]
          constructor
          · rintro (⟨q, r⟩ | q)
            · exact ⟨q, r.elim Or.inl (fun r => Or.inr ⟨by omega, r.2⟩)⟩
            · subst q; exact ⟨hu, Or.inr ⟨by omega, ho, hp⟩⟩
          · rintro ⟨q, r⟩
            rcases r with r | r
            · exact Or.inl ⟨q, Or.inl r⟩
            · rcases Nat.lt_or_ge w u with c9 | c9
              · exact Or.inl ⟨q, Or.inr ⟨c9, r.2⟩⟩
              · exact Or.inr (by omega)
      · have : ∀ k : Fin 4, (15 : Nat).testBit k.val = true := by decide
        exact this ⟨hoK h u, hk4⟩
theorem pe_inPhrases {h : Ho} {t : Se} {A : MI} {B : MJ} {Q : Int32 → MI → MJ → Prop} (h1 : hoOK h) (h2 : seOK h t) (hl : lexN A h) (hr : rowM (A 6) 0 h t) (hQ : ∀ (A' : MI) (B' : MJ) (m : Nat), frA A A' → frB B B' → m < 1024 → (∀ w, w < 10 → (m.testBit w = true ↔ w < hoW h ∧ wph h t w)) → Q (nI m) A' B') : P_X12_inPhrases A B Q := by
  have hw10 := h1.1
  have h13p : (10 : Nat) ^ 13 < 2 ^ 60 := by decide
  have hV := V_small (ok := okB t) h1 (seOK_O h2).1 (Nat.le_refl (tp t)) 4
  refine lpx_up (fun u z => ∃ (A' : MI) (B' : MJ) (m : Nat), z = (nI m, nI u, A', B') ∧ frA A A' ∧ frB B B' ∧ m < 1024 ∧ ∀ w, w < 10 → (m.testBit w = true ↔ w < u ∧ wph h t w)) (hoW h) ?_ ?_ 0 _ (Nat.zero_le _) ⟨A, B, 0, rfl, frA_rfl, frB_rfl, by decide, fun w _ => ⟨fun q => absurd q (by simp), fun q => absurd q.1 (Nat.not_lt_zero w)⟩⟩
  · rintro z k ⟨A', B', m, rfl, fA, fB, hm, hb⟩
    exact pk_le (hoW h) (hoW h) (fun _ => hQ A' B' m fA fB hm hb) (fun c => by omega) (lexN_fr fA hl).1
  · rintro u z k hu ⟨A', B', m, rfl, fA, fB, hm, hb⟩ hk
    refine pk_le (hoW h) u (fun c => by omega) (fun _ => ?_) (lexN_fr fA hl).1
    have hle := (V_wo (ok := okB t) h1 hu (tp t) (tp t) 4 (Nat.le_refl _) (Nat.le_refl _)).1
    refine pe_withWord (Or.inl rfl) h1 (seOK_O h2) (lexN_fr fA hl) (by rw [fA.1 6 (by decide) (by decide)]; exact hr) hu (fun A2 B2 gA gB => ?_)
    rw [lN_sub hle]
    refine ⟨fun c => ?_, fun c => ?_⟩
    · have hno : ¬ wph h t u := fun hq => by
        have := (pk_lLE (b := 0) (by omega) (by decide)).mp c
        unfold wph at hq; omega
      show k (nI m ||| (0 : Int32), nI u + 1, A2, B2)
      rw [nI_1, or_zero]
      refine hk _ ⟨A2, B2, m, rfl, frA_tr fA gA, frB_tr fB gB, hm, fun w hw => ?_⟩
      rw [hb w hw]
      refine ⟨fun q => ⟨by omega, q.2⟩, fun q => ⟨?_, q.2⟩⟩
      rcases Nat.lt_or_ge w u with c9 | c9
      · exact c9
      · have hq := q.2; rw [show w = u by omega] at hq; exact absurd hq hno
    · have hyes : wph h t u := by
        unfold wph
        rcases Nat.lt_or_ge (V h t (fun w => okB t w && !decide (w = u)) (tp t) 4) (V h t (okB t) (tp t) 4) with q | q
        · exact q
        · exact absurd (by rw [show V h t (okB t) (tp t) 4 - V h t (fun w => okB t w && !decide (w = u)) (tp t) 4 = 0 by omega]; exact Int64.le_refl 0) c
      have h2u : 2 ^ u < 1024 := pow_lt31 (n := 10) (by omega)
      show k (nI m ||| (1 : Int32) <<< (nI u &&& 31), nI u + 1, A2, B2)
      rw [nI_1, shlI (by omega), nI_or]
      refine hk _ ⟨A2, B2, m ||| 2 ^ u, rfl, frA_tr fA gA, frB_tr fB gB, or_lt (n := 10) hm h2u, fun w hw => ?_⟩
      rw [tb_or2, Bool.or_eq_true, decide_eq_true_iff, hb w hw]
      constructor
      · rintro (q | q)
        · exact ⟨by omega, q.2⟩
        · subst q; exact ⟨by omega, hyes⟩
      · rintro ⟨q1, q2⟩
        rcases Nat.lt_or_ge w u with c9 | c9
        · exact Or.inl ⟨c9, q2⟩
        · exact Or.inr (by omega)
/-- which words could be made of the bag -/
theorem pe_fitting {h : Ho} {t : Se} {I : MI} {J : MJ} {Q : Int32 → MI → MJ → Prop} (h1 : hoOK h) (h2 : seOK h t) (hX : CX I J h t) (hQ : ∀ m : Nat, m < 1024 → (∀ w, w < 10 → (m.testBit w = true ↔ w < hoW h ∧ ∀ l, l < 8 → nd h w l ≤ seB t l)) → Q (nI m) I J) : P_X11_fitting I J Q := by
  have hw10 := h1.1
  have hb12 : ∀ l, l < 8 → seB t l ≤ 12 := fun l hl => Nat.le_trans (sm_le _ hl) h2.1
  refine pe_packed (f := seB t) hX.2.1 (fun l hl => by have := hb12 l hl; omega) ?_
  refine lpx_up (fun u z => ∃ m : Nat, z = (lN (pk (seB t) 8), nI m, nI u, I, J) ∧ m < 1024 ∧ ∀ w, w < 10 → (m.testBit w = true ↔ w < u ∧ ∀ l, l < 8 → nd h w l ≤ seB t l)) (hoW h) ?_ ?_ 0 _ (Nat.zero_le _) ⟨0, rfl, by decide, fun w _ => ⟨fun q => absurd q (by simp), fun q => absurd q.1 (Nat.not_lt_zero w)⟩⟩
  · rintro z k ⟨m, rfl, hm, hb⟩
    exact pk_le (hoW h) (hoW h) (fun _ => hQ m hm hb) (fun c => by omega) hX.1.1
  · rintro u z k hu ⟨m, rfl, hm, hb⟩ hk
    refine pk_le (hoW h) u (fun c => by omega) (fun _ => ⟨vp_in_nI (by omega) (by decide), ?_⟩) hX.1.1
    rw [nI_clamp (by omega), hX.1.2.2 u hu]
    refine pe_holds (fun l hl => by have := hb12 l hl; omega) (fun l hl => by have := nd_le h1 hu l; omega) (fun hy => ⟨fun e => absurd e no10, fun _ => ?_⟩) (fun hn => ⟨fun _ => ?_, fun e => absurd rfl e⟩)
    · have h2u : 2 ^ u < 1024 := pow_lt31 (n := 10) (by omega)
      show k (_, nI m ||| (1 : Int32) <<< (nI u &&& 31), nI u + 1, I, J)
      rw [nI_1, shlI (by omega), nI_or]
      refine hk _ ⟨m ||| 2 ^ u, rfl, or_lt (n := 10) hm h2u, fun w hw => ?_⟩
      rw [tb_or2, Bool.or_eq_true, decide_eq_true_iff, hb w hw]
      constructor
      · rintro (q | q)
        · exact ⟨by omega, q.2⟩
        · subst q; exact ⟨by omega, hy⟩
      · rintro ⟨q1, q2⟩
        rcases Nat.lt_or_ge w u with c9 | c9
        · exact Or.inl ⟨c9, q2⟩
        · exact Or.inr (by omega)
    · show k (_, nI m, nI u + 1, I, J)
      rw [nI_1]
      refine hk _ ⟨m, rfl, hm, fun w hw => ?_⟩
      rw [hb w hw]
      refine ⟨fun q => ⟨by omega, q.2⟩, fun q => ⟨?_, q.2⟩⟩
      rcases Nat.lt_or_ge w u with c9 | c9
      · exact c9
      · have hq := q.2; rw [show w = u by omega] at hq; exact absurd hq hn
theorem mks_pos {B N : Nat → Nat} (n : Nat) : 0 < mks B N n ↔ ∀ l, l < n → N l ≤ B l := by
  induction n with
  | zero => exact ⟨fun _ l hl => absurd hl (Nat.not_lt_zero l), fun _ => (by decide : 0 < 12)⟩
  | succ n ih =>
    show 0 < (if N n = 0 then mks B N n else if B n / N n < mks B N n then B n / N n else mks B N n) ↔ _
    have e : (∀ l, l < n + 1 → N l ≤ B l) ↔ (∀ l, l < n → N l ≤ B l) ∧ N n ≤ B n :=
      ⟨fun q => ⟨fun l hl => q l (by omega), q n (by omega)⟩, fun q l hl => by
        by_cases h : l = n
        · subst h; exact q.2
        · exact q.1 l (by omega)⟩
    rw [e, ← ih]
    by_cases h0 : N n = 0
    · rw [if_pos h0]; exact ⟨fun q => ⟨q, by omega⟩, fun q => q.1⟩
    · rw [if_neg h0]
      have hd : 0 < B n / N n ↔ N n ≤ B n := by rw [Nat.div_pos_iff]; omega
      by_cases hlt : B n / N n < mks B N n
      · rw [if_pos hlt, hd]; exact ⟨fun q => ⟨by omega, q⟩, fun q => q.2⟩
      · rw [if_neg hlt]
        exact ⟨fun q => ⟨q, hd.mp (by omega)⟩, fun q => q.1⟩
theorem pe_makeable {h : Ho} {t : Se} {A : MI} {B : MJ} {Q : Int32 → MI → MJ → Prop} (h1 : hoOK h) (h2 : seOK h t) (hl : lexN A h) (hr : rowM (A 6) 0 h t) (hQ : ∀ m : Nat, m < 1024 → (∀ w, w < 10 → (m.testBit w = true ↔ w < hoW h ∧ ∀ l, l < 8 → nd h w l ≤ seB t l)) → Q (nI m) A B) : P_X12_makeable A B Q := by
  have hw10 := h1.1
  refine lpx_up (fun u z => ∃ m : Nat, z = (nI m, nI u, A, B) ∧ m < 1024 ∧ ∀ w, w < 10 → (m.testBit w = true ↔ w < u ∧ ∀ l, l < 8 → nd h w l ≤ seB t l)) (hoW h) ?_ ?_ 0 _ (Nat.zero_le _) ⟨0, rfl, by decide, fun w _ => ⟨fun q => absurd q (by simp), fun q => absurd q.1 (Nat.not_lt_zero w)⟩⟩
  · rintro z k ⟨m, rfl, hm, hb⟩
    exact pk_le (hoW h) (hoW h) (fun _ => hQ m hm hb) (fun c => by omega) hl.1
  · rintro u z k hu ⟨m, rfl, hm, hb⟩ hk
    have hmk := mks_le (seB t) (nd h u) 8
    have hmp := mks_pos (B := seB t) (N := nd h u) 8
    refine pk_le (hoW h) u (fun c => by omega) (fun _ => ?_) hl.1
    refine pe_madeOf h1 h2.1 (hl.2.2 u hu) (fun l hl9 => by have := hr.1 l hl9; rwa [Nat.zero_add] at this) hu ⟨fun c => ?_, fun c => ?_⟩
    · rw [pos_nI (by omega)] at c
      show k (nI m ||| (0 : Int32), nI u + 1, A, B)
      rw [nI_1, or_zero]
      refine hk _ ⟨m, rfl, hm, fun w hw => ?_⟩
      rw [hb w hw]
      refine ⟨fun q => ⟨by omega, q.2⟩, fun q => ⟨?_, q.2⟩⟩
      rcases Nat.lt_or_ge w u with c9 | c9
      · exact c9
      · have hq := q.2; rw [show w = u by omega] at hq; have := hmp.mpr hq; omega
    · rw [pos_nI (by omega)] at c
      have hy := hmp.mp (by omega)
      have h2u : 2 ^ u < 1024 := pow_lt31 (n := 10) (by omega)
      show k (nI m ||| (1 : Int32) <<< (nI u &&& 31), nI u + 1, A, B)
      rw [nI_1, shlI (by omega), nI_or]
      refine hk _ ⟨m ||| 2 ^ u, rfl, or_lt (n := 10) hm h2u, fun w hw => ?_⟩
      rw [tb_or2, Bool.or_eq_true, decide_eq_true_iff, hb w hw]
      constructor
      · rintro (q | q)
        · exact ⟨by omega, q.2⟩
        · subst q; exact ⟨by omega, hy⟩
      · rintro ⟨q1, q2⟩
        rcases Nat.lt_or_ge w u with c9 | c9
        · exact Or.inl ⟨c9, q2⟩
        · exact Or.inr (by omega)
/-! how many unlike letters -/
theorem pe_unlikeX {k : Nat} {f : Nat → Nat} {I : MI} {J : MJ} {Q : Int32 → MI → MJ → Prop} (e : ∀ l, l < 8 → I (k + 1) l = nI (f l)) (hf : ∀ l, l < 8 → f l ≤ 13) (hQ : Q (nI (sm (fun l => if 0 < f l then 1 else 0) 8)) I J) : P_X8_unlike k I J Q := by
  refine lpx_up (fun i z => z = (nI (sm (fun l => if 0 < f l then 1 else 0) i), nI i, I, J)) 8 ?_ ?_ 0 _ (Nat.zero_le _) rfl
  · rintro z k9 rfl; exact pk_le 8 8 (fun _ => hQ) (fun c => by omega)
  · rintro i z k9 hi rfl hk
    have hfi := hf i hi
    have es : sm (fun l => if 0 < f l then 1 else 0) (i + 1) = sm (fun l => if 0 < f l then 1 else 0) i + (if 0 < f i then 1 else 0) := rfl
    refine pk_le 8 i (fun c => by omega) (fun _ => ⟨vp_in_nI hi (by decide), ?_⟩)
    rw [nI_clamp (by omega), e i hi]
    refine ⟨fun c => hk _ ?_, fun c => hk _ ?_⟩
    · rw [pos_nI (by omega)] at c; rw [nI_1, es, if_neg (by omega)]; rfl
    · rw [pos_nI (by omega)] at c; rw [nI_1, nI_1, es, if_pos (by omega)]
theorem pe_unlikeM {f : Nat → Nat} {A : MI} {B : MJ} {Q : Int32 → MI → MJ → Prop} (e : ∀ l, l < 8 → A 6 l = nI (f l)) (hf : ∀ l, l < 8 → f l ≤ 13) (hQ : Q (nI (sm (fun l => if 0 < f l then 1 else 0) 8)) A B) : P_X12_unlike A B Q := by
  refine lpx_up (fun i z => z = (nI (sm (fun l => if 0 < f l then 1 else 0) i), nI i, A, B)) 8 ?_ ?_ 0 _ (Nat.zero_le _) rfl
  · rintro z k9 rfl; exact pk_le 8 8 (fun _ => hQ) (fun c => by omega)
  · rintro i z k9 hi rfl hk
    have hfi := hf i hi
    have es : sm (fun l => if 0 < f l then 1 else 0) (i + 1) = sm (fun l => if 0 < f l then 1 else 0) i + (if 0 < f i then 1 else 0) := rfl
    refine pk_le 8 i (fun c => by omega) (fun _ => ⟨vp_in_nI (by omega) (by decide), ?_⟩)
    rw [nI_clamp (by omega), e i hi]
    refine ⟨fun c => hk _ ?_, fun c => hk _ ?_⟩
    · rw [pos_nI (by omega)] at c; rw [nI_1, es, if_neg (by omega), show (0 : Int32) = nI 0 from rfl, nI_add]
    · rw [pos_nI (by omega)] at c; rw [nI_1, es, if_pos (by omega), show (1 : Int32) = nI 1 from rfl, nI_add]
/-! fewest, most -/
theorem fsP_uniq2 {ag : Nat → Bool} {N m : Nat} {x y : Int32} (hx : fsP ag N m x) (hy : fsP ag N m y) : x = y := by
  rcases hx with ⟨i, r1, r2, r3, r4, r5⟩ | ⟨r1, r2⟩ <;> rcases hy with ⟨j, s1, s2, s3, s4, s5⟩ | ⟨s1, s2⟩
  · rcases Nat.lt_or_ge i j with q | q
    · exact absurd (r3.symm.trans (s5 i r1 q)) (by decide)
    · rcases Nat.lt_or_ge j i with q2 | q2
      · exact absurd (s3.symm.trans (r5 j s1 q2)) (by decide)
      · rw [r4, s4, show i = j by omega]
  · exact absurd (r3.symm.trans (s2 i r1 r2)) (by decide)
  · exact absurd (s3.symm.trans (r2 j s1 s2)) (by decide)
  · rw [r1, s1]
def lsP (ag : Nat → Bool) (m : Nat) (x : Int32) : Prop := (∃ i, m ≤ i ∧ i ≤ 12 ∧ ag i = true ∧ x = nI i ∧ ∀ j, i < j → j ≤ 12 → ag j = false) ∨ (x = -9 ∧ ∀ i, m ≤ i → i ≤ 12 → ag i = false)
theorem lsP_uniq {ag : Nat → Bool} {m : Nat} {x y : Int32} (hx : lsP ag m x) (hy : lsP ag m y) : x = y := by
  rcases hx with ⟨i, r1, r2, r3, r4, r5⟩ | ⟨r1, r2⟩ <;> rcases hy with ⟨j, s1, s2, s3, s4, s5⟩ | ⟨s1, s2⟩
  · rcases Nat.lt_or_ge i j with q | q
    · exact absurd (s3.symm.trans (r5 j q s2)) (by decide)
    · rcases Nat.lt_or_ge j i with q2 | q2
      · exact absurd (r3.symm.trans (s5 i q2 r2)) (by decide)
      · rw [r4, s4, show i = j by omega]
  · exact absurd (r3.symm.trans (s2 i r1 r2)) (by decide)
  · exact absurd (s3.symm.trans (r2 j s1 s2)) (by decide)
  · rw [r1, s1]
def agL (h : Ho) (t : Se) (k : Nat) : Bool := decide (0 < Ly h t (okB t) k (tp t) 4)
theorem Ly_small {h : Ho} {t : Se} (h1 : hoOK h) (h2 : seOK h t) {k : Nat} (hk : 1 ≤ k) : Ly h t (okB t) k (tp t) 4 ≤ 10 ^ 13 := by
  have h3 := Ly_sum (t := t) (ok := okB t) h1 k
  have h4 := V_small (ok := okB t) h1 (seOK_O h2).1 (Nat.le_refl (tp t)) 4
  obtain ⟨j, rfl⟩ : ∃ j, k = j + 1 := ⟨k - 1, by omega⟩
  have h5 : sm (fun k => Ly h t (okB t) (k + 1) (tp t) 4) (j + 1) = sm (fun k => Ly h t (okB t) (k + 1) (tp t) 4) j + Ly h t (okB t) (j + 1) (tp t) 4 := rfl
  omega
theorem agL_le {h : Ho} {t : Se} (h1 : hoOK h) (h2 : seOK h t) {k : Nat} (hk : 1 ≤ k) : (lN (Ly h t (okB t) k (tp t) 4) ≤ (0 : Int64) ↔ agL h t k = false) := by
  have h3 := Ly_small h1 h2 hk
  have h13p : (10 : Nat) ^ 13 < 2 ^ 60 := by decide
  unfold agL
  rw [decide_eq_false_iff_not]
  have := pk_lLE (a := Ly h t (okB t) k (tp t) 4) (b := 0) (by omega) (by decide)
  exact ⟨fun c => by have := this.mp c; omega, fun c => this.mpr (by omega)⟩
theorem pe_few {h : Ho} {t : Se} {most : Nat} {A : MI} {B : MJ} {Q : Int32 → MI → MJ → Prop} (h1 : hoOK h) (h2 : seOK h t) (hl : lexN A h) (hL : Lk (A 0) (A 19) (A 21) (A 26) h t (okB t)) (hm : most ≤ 1) (hQ : ∀ (B' : MJ) (x : Int32), frB B B' → (most = 0 → fsP (agL h t) 13 1 x) → (most = 1 → lsP (agL h t) 1 x) → Q x A B') : P_X12_few (nI most) A B Q := by
  refine lpx_up (fun s z => ∃ (B' : MJ) (x : Int32), z = (nI most, x, nI (12 - s), A, B') ∧ frB B B' ∧ (most = 0 → fsP (agL h t) 13 (13 - s) x) ∧ (most = 1 → lsP (agL h t) (13 - s) x)) 12 ?_ ?_ 0 _ (Nat.zero_le _) ⟨B, -9, rfl, frB_rfl, fun _ => Or.inr ⟨rfl, fun i c1 c2 => by omega⟩, fun _ => Or.inr ⟨rfl, fun i c1 c2 => by omega⟩⟩
  · rintro z k ⟨B', x, rfl, g1, g2, g3⟩
    exact ⟨fun _ => hQ B' x g1 g2 g3, fun c => absurd (show nI (12 - 12) ≤ (0 : Int32) by decide) c⟩
  · rintro s z k hs ⟨B', x, rfl, g1, g2, g3⟩ hk
    obtain ⟨n, hn⟩ : ∃ n, 12 - s = n + 1 := ⟨11 - s, by omega⟩
    have e1 : 12 - (s + 1) = n := by omega
    have e2 : 13 - s = n + 2 := by omega
    have e3 : 13 - (s + 1) = n + 1 := by omega
    rw [e2] at g2 g3
    rw [hn]
    rw [e1, e3] at hk
    have next : ∀ (B2 : MJ) (y : Int32), frB B B2 → (most = 0 → fsP (agL h t) 13 (n + 1) y) → (most = 1 → lsP (agL h t) (n + 1) y) → P_X12_few_35 Q k (nI most) (nI (n + 1)) y A B2 := fun B2 y y1 y2 y3 => by
      show k (nI most, y, nI (n + 1) + (-1), A, B2)
      rw [pk_m1]
      exact hk _ ⟨B2, y, rfl, y1, y2, y3⟩
    refine pk_le (n + 1) 0 (fun c => by omega) (fun _ => ?_)
    refine pe_manyBy h1 (seOK_O h2) hl hL (by omega) (by omega) (fun B2 f2 => ?_)
    have fB2 : frB B B2 := frB_tr g1 (fun c hc => f2 c (by omega) (by omega))
    refine ⟨fun c => ?_, fun c => ?_⟩
    · rw [agL_le h1 h2 (by omega)] at c
      refine next B2 x fB2 (fun e => ?_) (fun e => ?_)
      · rcases g2 e with ⟨i, r1, r2, r3, r4, r5⟩ | ⟨r1, r2⟩
        · refine Or.inl ⟨i, by omega, r2, r3, r4, fun j c1 c2 => ?_⟩
          by_cases hj : j = n + 1
          · subst hj; exact c
          · exact r5 j (by omega) c2
        · refine Or.inr ⟨r1, fun i c1 c2 => ?_⟩
          by_cases hi : i = n + 1
          · subst hi; exact c
          · exact r2 i (by omega) c2
      · rcases g3 e with ⟨i, r1, r2, r3, r4, r5⟩ | ⟨r1, r2⟩
        · exact Or.inl ⟨i, by omega, r2, r3, r4, r5⟩
        · refine Or.inr ⟨r1, fun i c1 c2 => ?_⟩
          by_cases hi : i = n + 1
          · subst hi; exact c
          · exact r2 i (by omega) c2
    · have c' : agL h t (n + 1) = true := by
        cases hb : agL h t (n + 1) with
        | true => rfl
        | false => exact absurd ((agL_le h1 h2 (by omega)).mpr hb) c
      refine ⟨fun c3 => next B2 _ fB2 (fun _ => Or.inl ⟨n + 1, Nat.le_refl _, by omega, c', rfl, fun j c1 c2 => by omega⟩) (fun e => absurd c3 (by rw [e]; decide)), fun c3 => ⟨fun c4 => next B2 x fB2 (fun e => absurd (by rw [e]; rfl) c3) (fun e => ?_), fun c4 => next B2 _ fB2 (fun e => absurd (by rw [e]; rfl) c3) (fun e => ?_)⟩⟩
      · rcases g3 e with ⟨i, r1, r2, r3, r4, r5⟩ | ⟨r1, r2⟩
        · exact Or.inl ⟨i, by omega, r2, r3, r4, r5⟩
        · exact absurd r1 c4
      · rcases g3 e with ⟨i, r1, r2, r3, r4, r5⟩ | ⟨r1, r2⟩
        · exact absurd (show ¬ nI i < 0 from nI_pos (by omega)) (by rw [← r4, c4]; decide)
        · refine Or.inl ⟨n + 1, Nat.le_refl _, by omega, c', rfl, fun j c1 c2 => r2 j (by omega) c2⟩
theorem pe_fewest {h : Ho} {t : Se} {I : MI} {J : MJ} {Q : Int32 → MI → MJ → Prop} (h1 : hoOK h) (h2 : seOK h t) (hX : CX I J h t) (hS : I 39 12 = 0 ∨ Ph I J h t) (h14 : S_sw (I 39 8) (I 39 9)) (hQ : ∀ (I' : MI) (J' : MJ) (x : Int32), frC I I' J J' → S_sw (I' 39 8) (I' 39 9) → Ph I' J' h t → fsP (agL h t) 13 1 x → Q x I' J') : P_X6_fewestWords I J Q := by
  refine pe_countLengths h1 h2 hX hS h14 (fun I1 J1 f1 w1 p1 e1 => ?_)
  by_cases hex : ∃ k, 1 ≤ k ∧ k ≤ 12 ∧ agL h t k = true
  · obtain ⟨k0, ⟨k1, k2, k3⟩, hmin⟩ := pk_least _ hex
    have hbef : ∀ j, 1 ≤ j → j < k0 → agL h t j = false := fun j c1 c2 => by
      cases hb : agL h t j with
      | false => rfl
      | true => exact absurd ⟨c1, by omega, hb⟩ (hmin j c2)
    refine lpx_up (fun i z => z = (nI (i + 1), I1, J1)) (k0 - 1) ?_ ?_ 0 _ (Nat.zero_le _) rfl
    · rintro z k rfl
      rw [show k0 - 1 + 1 = k0 by omega]
      refine pk_lt 12 k0 (fun c => by omega) (fun _ => ⟨vp_in_nI (by omega) (by decide), ?_⟩)
      rw [nI_clamp (by omega), e1 k0 k1 k2]
      refine ⟨fun c => ?_, fun _ => hQ I1 J1 _ f1 w1 p1 (Or.inl ⟨k0, k1, by omega, k3, rfl, fun j c1 c2 => hbef j c1 c2⟩)⟩
      rw [agL_le h1 h2 k1] at c; exact absurd (c.symm.trans k3) (by decide)
    · rintro i z k hi rfl hk
      refine pk_lt 12 (i + 1) (fun c => by omega) (fun _ => ⟨vp_in_nI (by omega) (by decide), ?_⟩)
      rw [nI_clamp (by omega), e1 (i + 1) (by omega) (by omega)]
      refine ⟨fun _ => ?_, fun c => absurd ((agL_le h1 h2 (by omega)).mpr (hbef (i + 1) (by omega) (by omega))) c⟩
      rw [nI_1]; exact hk _ rfl
  · have hall : ∀ j, 1 ≤ j → j ≤ 12 → agL h t j = false := fun j c1 c2 => by
      cases hb : agL h t j with
      | false => rfl
      | true => exact absurd ⟨j, c1, c2, hb⟩ hex
    refine lpx_up (fun i z => z = (nI (i + 1), I1, J1)) 12 ?_ ?_ 0 _ (Nat.zero_le _) rfl
    · rintro z k rfl
      exact pk_lt 12 13 (fun _ => hQ I1 J1 _ f1 w1 p1 (Or.inr ⟨rfl, fun i c1 c2 => hall i c1 (by omega)⟩)) (fun c => by omega)
    · rintro i z k hi rfl hk
      refine pk_lt 12 (i + 1) (fun c => by omega) (fun _ => ⟨vp_in_nI (by omega) (by decide), ?_⟩)
      rw [nI_clamp (by omega), e1 (i + 1) (by omega) (by omega)]
      refine ⟨fun _ => ?_, fun c => absurd ((agL_le h1 h2 (by omega)).mpr (hall (i + 1) (by omega) (by omega))) c⟩
      rw [nI_1]; exact hk _ rfl
theorem pe_most {h : Ho} {t : Se} {I : MI} {J : MJ} {Q : Int32 → MI → MJ → Prop} (h1 : hoOK h) (h2 : seOK h t) (hX : CX I J h t) (hS : I 39 12 = 0 ∨ Ph I J h t) (h14 : S_sw (I 39 8) (I 39 9)) (hQ : ∀ (I' : MI) (J' : MJ) (x : Int32), frC I I' J J' → S_sw (I' 39 8) (I' 39 9) → Ph I' J' h t → lsP (agL h t) 1 x → Q x I' J') : P_X6_mostWords I J Q := by
  refine pe_countLengths h1 h2 hX hS h14 (fun I1 J1 f1 w1 p1 e1 => ?_)
  by_cases hex : ∃ d, d < 12 ∧ agL h t (12 - d) = true
  · obtain ⟨d0, ⟨k2, k3⟩, hmin⟩ := pk_least _ hex
    have hbef : ∀ d, d < d0 → agL h t (12 - d) = false := fun d c2 => by
      cases hb : agL h t (12 - d) with
      | false => rfl
      | true => exact absurd ⟨by omega, hb⟩ (hmin d c2)
    refine lpx_up (fun i z => z = (nI (12 - i), I1, J1)) d0 ?_ ?_ 0 _ (Nat.zero_le _) rfl
    · rintro z k rfl
      refine pk_lt (12 - d0) 1 (fun c => by omega) (fun _ => ⟨vp_in_nI (by omega) (by decide), ?_⟩)
      rw [nI_clamp (by omega), e1 _ (by omega) (by omega)]
      refine ⟨fun c => ?_, fun _ => hQ I1 J1 _ f1 w1 p1 (Or.inl ⟨12 - d0, by omega, by omega, k3, rfl, fun j c1 c2 => ?_⟩)⟩
      · rw [agL_le h1 h2 (by omega)] at c; exact absurd (c.symm.trans k3) (by decide)
      · have := hbef (12 - j) (by omega)
        rwa [show 12 - (12 - j) = j by omega] at this
    · rintro i z k hi rfl hk
      refine pk_lt (12 - i) 1 (fun c => by omega) (fun _ => ⟨vp_in_nI (by omega) (by decide), ?_⟩)
      rw [nI_clamp (by omega), e1 _ (by omega) (by omega)]
      refine ⟨fun _ => ?_, fun c => absurd ((agL_le h1 h2 (by omega)).mpr (hbef i hi)) c⟩
      obtain ⟨n, hn⟩ : ∃ n, 12 - i = n + 1 := ⟨11 - i, by omega⟩
      rw [hn, pk_m1]
      refine hk _ ?_
      rw [show 12 - (i + 1) = n by omega]
  · have hall : ∀ j, 1 ≤ j → j ≤ 12 → agL h t j = false := fun j c1 c2 => by
      cases hb : agL h t j with
      | false => rfl
      | true => exact absurd ⟨12 - j, by omega, by rw [show 12 - (12 - j) = j by omega]; exact hb⟩ hex
    refine lpx_up (fun i z => z = (nI (12 - i), I1, J1)) 12 ?_ ?_ 0 _ (Nat.zero_le _) rfl
    · rintro z k rfl
      exact pk_lt 0 1 (fun _ => hQ I1 J1 _ f1 w1 p1 (Or.inr ⟨rfl, fun i c1 c2 => hall i c1 c2⟩)) (fun c => by omega)
    · rintro i z k hi rfl hk
      refine pk_lt (12 - i) 1 (fun c => by omega) (fun _ => ⟨vp_in_nI (by omega) (by decide), ?_⟩)
      rw [nI_clamp (by omega), e1 _ (by omega) (by omega)]
      refine ⟨fun _ => ?_, fun c => absurd ((agL_le h1 h2 (by omega)).mpr (hall _ (by omega) (by omega))) c⟩
      obtain ⟨n, hn⟩ : ∃ n, 12 - i = n + 1 := ⟨11 - i, by omega⟩
      rw [hn, pk_m1]
      refine hk _ ?_
      rw [show 12 - (i + 1) = n by omega]
