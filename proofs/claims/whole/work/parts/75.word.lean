/-! ===== word ===== -/
def rrP (h : Ho) (u m n : Nat) (x : Int32) (c : Nat) : Prop := (∃ l, m ≤ l ∧ l < n ∧ 0 < nd h u l ∧ x = nI l ∧ c = hav h l (hoW h) ∧ (∀ l2, m ≤ l2 → l2 < n → 0 < nd h u l2 → hav h l (hoW h) ≤ hav h l2 (hoW h)) ∧ ∀ l2, m ≤ l2 → l2 < l → 0 < nd h u l2 → hav h l (hoW h) < hav h l2 (hoW h)) ∨ (x = -9 ∧ c = 11 ∧ ∀ l, m ≤ l → l < n → nd h u l = 0)
theorem rrP_uniq {h : Ho} {u m n : Nat} {x y : Int32} {c d : Nat} (hx : rrP h u m n x c) (hy : rrP h u m n y d) : x = y := by
  rcases hx with ⟨i, r1, r2, r3, r4, _, r5, r6⟩ | ⟨r1, _, r2⟩ <;> rcases hy with ⟨j, s1, s2, s3, s4, _, s5, s6⟩ | ⟨s1, _, s2⟩
  · rcases Nat.lt_or_ge i j with q | q
    · have := s6 i r1 q r3; have := r5 j s1 s2 s3; omega
    · rcases Nat.lt_or_ge j i with q2 | q2
      · have := r6 j s1 q2 s3; have := s5 i r1 r2 r3; omega
      · rw [r4, s4, show i = j by omega]
  · have := s2 i r1 r2; omega
  · have := r2 j s1 s2; omega
  · rw [r1, s1]
theorem hav_le (h : Ho) (l n : Nat) : hav h l n ≤ n := by
  induction n with
  | zero => exact Nat.le_refl 0
  | succ n ih => show hav h l n + (if 0 < nd h n l then 1 else 0) ≤ n + 1; split <;> omega
theorem pe_rarestX {u : Nat} {h : Ho} {I : MI} {J : MJ} {Q : Int32 → MI → MJ → Prop} (h1 : hoOK h) (hC : lexC I J h) (hu : u < hoW h) (hQ : ∀ x c, rrP h u 0 8 x c → Q x I J) : P_X5_rarest 12 (nI u) I J Q := by
  have hw10 := h1.1
  refine lpx_up (fun i z => ∃ (x : Int32) (c : Nat), z = (nI u, x, nI c, nI i, I, J) ∧ rrP h u 0 i x c) 8 ?_ ?_ 0 _ (Nat.zero_le _) ⟨-9, 11, rfl, Or.inr ⟨rfl, rfl, fun l _ hl => absurd hl (Nat.not_lt_zero l)⟩⟩
  · rintro z k ⟨x, c, rfl, hx⟩
    exact pk_le 8 8 (fun _ => hQ x c hx) (fun c => by omega)
  · rintro i z k hi ⟨x, c, rfl, hx⟩ hk
    have hn := nd_le h1 hu i
    have hv := hav_le h i (hoW h)
    have hc31 : c ≤ 11 := by
      rcases hx with ⟨l, _, _, _, _, e, _⟩ | ⟨_, e, _⟩
      · have := hav_le h l (hoW h); omega
      · omega
    have next : ∀ (y : Int32) (d : Nat), rrP h u 0 (i + 1) y d → P_X5_rarest_46 12 Q k (nI u) y (nI d) (nI i) I J := fun y d hy => by
      show k (nI u, y, nI d, nI i + 1, I, J)
      rw [nI_1]; exact hk _ ⟨y, d, rfl, hy⟩
    refine pk_le 8 i (fun c => by omega) (fun _ => pe_amount (k := 12) h1 (hC.2.2 u hu) hu hi ⟨fun c1 => next x c ?_, fun c1 => pe_wordsWith (k := 12) h1 hC.1 hC.2.2 hi (pk_le c (hav h i (hoW h)) (fun c2 => next x c ?_) (fun c2 => pe_wordsWith (k := 12) h1 hC.1 hC.2.2 hi (next (nI i) _ ?_)))⟩)
    · rw [pos_nI (by omega)] at c1
      rcases hx with ⟨l, a1, a2, a3, a4, a5, a6, a7⟩ | ⟨a1, a2, a3⟩
      · refine Or.inl ⟨l, a1, by omega, a3, a4, a5, fun l2 b1 b2 b3 => ?_, a7⟩
        by_cases e : l2 = i
        · subst e; omega
        · exact a6 l2 b1 (by omega) b3
      · refine Or.inr ⟨a1, a2, fun l b1 b2 => ?_⟩
        by_cases e : l = i
        · subst e; exact c1
        · exact a3 l b1 (by omega)
    · rcases hx with ⟨l, a1, a2, a3, a4, a5, a6, a7⟩ | ⟨a1, a2, a3⟩
      · refine Or.inl ⟨l, a1, by omega, a3, a4, a5, fun l2 b1 b2 b3 => ?_, a7⟩
        by_cases e : l2 = i
        · subst e; omega
        · exact a6 l2 b1 (by omega) b3
      · omega
    · rw [pos_nI (by omega)] at c1
      refine Or.inl ⟨i, Nat.zero_le _, by omega, by omega, rfl, rfl, fun l2 b1 b2 b3 => ?_, fun l2 b1 b2 b3 => ?_⟩
      · by_cases e : l2 = i
        · subst e; exact Nat.le_refl _
        · rcases hx with ⟨l, a1, a2, a3, a4, a5, a6, a7⟩ | ⟨a1, a2, a3⟩
          · have := a6 l2 b1 (by omega) b3; omega
          · have := a3 l2 b1 (by omega); omega
      · rcases hx with ⟨l, a1, a2, a3, a4, a5, a6, a7⟩ | ⟨a1, a2, a3⟩
        · have := a6 l2 b1 (by omega) b3; omega
        · have := a3 l2 b1 (by omega); omega
theorem pe_rarestM {u : Nat} {h : Ho} {A : MI} {B : MJ} {Q : Int32 → MI → MJ → Prop} (h1 : hoOK h) (hl : lexN A h) (hu : u < hoW h) (hQ : ∀ x c, rrP h u 0 8 x c → Q x A B) : P_X12_rarest (nI u) A B Q := by
  have hw10 := h1.1
  refine lpx_up (fun s z => ∃ (x : Int32) (c : Nat), z = (nI u, x, nI (8 - s) - 1, A, B) ∧ rrP h u (8 - s) 8 x c) 8 ?_ ?_ 0 _ (Nat.zero_le _) ⟨-9, 11, rfl, Or.inr ⟨rfl, rfl, fun l b1 b2 => by omega⟩⟩
  · rintro z k ⟨x, c, rfl, hx⟩
    rw [Nat.sub_self] at hx ⊢
    exact ⟨fun _ => hQ x c hx, fun c => absurd (show nI 0 - 1 < (0 : Int32) by decide) c⟩
  · rintro s z k hs ⟨x, c, rfl, hx⟩ hk
    obtain ⟨i, hi⟩ : ∃ i, 8 - s = i + 1 := ⟨7 - s, by omega⟩
    have hi2 : 8 - (s + 1) = i := by omega
    rw [hi] at hx ⊢
    rw [hi2] at hk
    rw [nI_pred]
    have hn := nd_le h1 hu i
    have hv := hav_le h i (hoW h)
    have e5 : (8 : Int32) * nI u + nI i = nI (8 * u + i) := by rw [show (8 : Int32) = nI 8 from rfl, pk_mul, nI_add]
    have next : ∀ (y : Int32) (d : Nat), rrP h u i 8 y d → P_X12_rarest_48 Q k (nI u) (nI i) y A B := fun y d hy => by
      show k (nI u, y, nI i + (-1), A, B)
      rw [sub1]; exact hk _ ⟨y, d, rfl, hy⟩
    refine ⟨fun c => absurd c (nI_pos (by omega)), fun _ => ?_⟩
    rw [e5]
    refine ⟨vp_in_nI (by omega) (by decide), ?_⟩
    rw [nI_clamp (by omega), hl.2.2 u hu i (by omega)]
    refine ⟨fun c1 => next x c ?_, fun c1 => ?_⟩
    · rw [pos_nI (by omega)] at c1
      rcases hx with ⟨l, a1, a2, a3, a4, a5, a6, a7⟩ | ⟨a1, a2, a3⟩
      · refine Or.inl ⟨l, by omega, a2, a3, a4, a5, fun l2 b1 b2 b3 => ?_, fun l2 b1 b2 b3 => ?_⟩
        · by_cases e : l2 = i
          · subst e; omega
          · exact a6 l2 (by omega) b2 b3
        · by_cases e : l2 = i
          · subst e; omega
          · exact a7 l2 (by omega) b2 b3
      · refine Or.inr ⟨a1, a2, fun l b1 b2 => ?_⟩
        by_cases e : l = i
        · subst e; exact c1
        · exact a3 l (by omega) b2
    · rw [pos_nI (by omega)] at c1
      rcases hx with ⟨l, a1, a2, a3, a4, a5, a6, a7⟩ | ⟨a1, a2, a3⟩
      · subst a4
        have hvl := hav_le h l (hoW h)
        refine ⟨fun e => absurd (show ¬ nI l < 0 from nI_pos (by omega)) (by rw [e]; decide), fun _ => ?_⟩
        refine pe_havers h1 hl.1 (fun w hw => hl.2.2 w hw i (by omega)) (by omega) (pe_havers h1 hl.1 (fun w hw => hl.2.2 w hw l (by omega)) (by omega) ?_)
        refine pk_lt (hav h l (hoW h)) (hav h i (hoW h)) (fun c2 => next (nI l) (hav h l (hoW h)) ?_) (fun c2 => next (nI i) (hav h i (hoW h)) ?_)
        · refine Or.inl ⟨l, by omega, a2, a3, rfl, rfl, fun l2 b1 b2 b3 => ?_, fun l2 b1 b2 b3 => ?_⟩
          · by_cases e : l2 = i
            · subst e; omega
            · exact a6 l2 (by omega) b2 b3
          · by_cases e : l2 = i
            · subst e; omega
            · exact a7 l2 (by omega) b2 b3
        · refine Or.inl ⟨i, Nat.le_refl _, by omega, by omega, rfl, rfl, fun l2 b1 b2 b3 => ?_, fun l2 b1 b2 b3 => by omega⟩
          by_cases e : l2 = i
          · subst e; exact Nat.le_refl _
          · have := a6 l2 (by omega) b2 b3; omega
      · subst a1
        refine ⟨fun _ => next (nI i) (hav h i (hoW h)) ?_, fun e => absurd rfl e⟩
        refine Or.inl ⟨i, Nat.le_refl _, by omega, by omega, rfl, rfl, fun l2 b1 b2 b3 => ?_, fun l2 b1 b2 b3 => by omega⟩
        by_cases e : l2 = i
        · subst e; exact Nat.le_refl _
        · have := a3 l2 (by omega) b2; omega
def twB (h : Ho) (u e : Nat) : Nat := @ite Nat (∀ l, l < 8 → nd h u l = nd h e l) (@Nat.decidableBallLT 8 (fun l _ => nd h u l = nd h e l) (fun l _ => Nat.decEq _ _)) 1 0
theorem pe_twinsX {u : Nat} {h : Ho} {I : MI} {J : MJ} {Q : Int32 → MI → MJ → Prop} (h1 : hoOK h) (hC : lexC I J h) (hu : u < hoW h) (hQ : Q (nI (sm (twB h u) (hoW h))) I J) : P_X5_twins 12 (nI u) I J Q := by
  have hw10 := h1.1
  have hf : ∀ w, w < hoW h → ∀ i, nd h w i < 32 := fun w hw i => Nat.lt_of_le_of_lt (nd_le h1 hw i) (by decide)
  refine lpx_up (fun i z => z = (nI u, nI (sm (twB h u) i), nI i, I, J)) (hoW h) ?_ ?_ 0 _ (Nat.zero_le _) rfl
  · rintro z k rfl
    exact pk_le (hoW h) (hoW h) (fun _ => hQ) (fun c => by omega) hC.1
  · rintro i z k hi rfl hk
    have es : sm (twB h u) (i + 1) = sm (twB h u) i + twB h u i := rfl
    have l1 := pkk_lt (hf i hi) 8
    have l2 := pkk_lt (hf u hu) 8
    refine pk_le (hoW h) i (fun c => by omega) (fun _ => ⟨vp_in_nI (by omega) (by decide), vp_in_nI (by omega) (by decide), ?_⟩) hC.1
    rw [nI_clamp (by omega), nI_clamp (by omega), show J (12 + 3) i = lN (pk (nd h i) 8) from hC.2.2 i hi, show J (12 + 3) u = lN (pk (nd h u) 8) from hC.2.2 u hu]
    refine ⟨fun c => hk _ ?_, fun c => hk _ ?_⟩
    · have : twB h u i = 0 := if_neg (fun q => c (by rw [pkk_congr (fun l hl => (q l hl).symm)]))
      rw [nI_1, es, this]; rfl
    · have : twB h u i = 1 := if_pos (fun l hl => (pkk_inj (hf i hi) (hf u hu) ((pk_lEQ (by omega) (by omega)).mp c) l hl).symm)
      rw [nI_1, nI_1, es, this]
theorem pe_twinsM {u : Nat} {h : Ho} {A : MI} {B : MJ} {Q : Int32 → MI → MJ → Prop} (h1 : hoOK h) (hl : lexN A h) (hu : u < hoW h) (hQ : Q (nI (sm (twB h u) (hoW h))) A B) : P_X12_twins (nI u) A B Q := by
  have hw10 := h1.1
  refine lpx_up (fun i z => z = (nI u, nI (sm (twB h u) i), nI i, A, B)) (hoW h) ?_ ?_ 0 _ (Nat.zero_le _) rfl
  · rintro z k rfl
    exact pk_le (hoW h) (hoW h) (fun _ => hQ) (fun c => by omega) hl.1
  · rintro i z k hi rfl hk
    have es : sm (twB h u) (i + 1) = sm (twB h u) i + twB h u i := rfl
    refine pk_le (hoW h) i (fun c => by omega) (fun _ => ?_) hl.1
    refine lpx_up (fun l z => ∃ b : Nat, (b = 1 ∨ b = 0) ∧ z = (nI u, nI (sm (twB h u) i), nI i, nI b, nI l, A, B) ∧ (b = 1 ↔ ∀ l2, l2 < l → nd h u l2 = nd h i l2)) 8 ?_ ?_ 0 _ (Nat.zero_le _) ⟨1, Or.inl rfl, rfl, fun _ l hl => absurd hl (Nat.not_lt_zero l), fun _ => rfl⟩
    · rintro z k2 ⟨b, hb, rfl, hbb⟩
      refine pk_le 8 8 (fun _ => ⟨fun c => ?_, fun c => ?_⟩) (fun c => by omega)
      · have hb0 : b = 0 := by
          rcases hb with rfl | rfl
          · exact absurd c no10
          · rfl
        have : twB h u i = 0 := if_neg (fun q => by have := hbb.mpr q; omega)
        show k (nI u, nI _ + (0 : Int32), nI i + 1, A, B)
        rw [nI_1, show (0 : Int32) = nI 0 from rfl, nI_add]
        exact hk _ (by rw [es, this])
      · have hb1 : b = 1 := by
          rcases hb with rfl | rfl
          · rfl
          · exact absurd rfl c
        have : twB h u i = 1 := if_pos (hbb.mp hb1)
        show k (nI u, nI _ + (1 : Int32), nI i + 1, A, B)
        rw [nI_1, nI_1]
        exact hk _ (by rw [es, this])
    · rintro l z k2 hl9 ⟨b, hb, rfl, hbb⟩ hk2
      have e5 : (8 : Int32) * nI u + nI l = nI (8 * u + l) := by rw [show (8 : Int32) = nI 8 from rfl, pk_mul, nI_add]
      have e6 : (8 : Int32) * nI i + nI l = nI (8 * i + l) := by rw [show (8 : Int32) = nI 8 from rfl, pk_mul, nI_add]
      have n1 := nd_le h1 hu l
      have n2 := nd_le h1 hi l
      have zero : (b = 0 ∨ ¬ nd h u l = nd h i l) → P_X12_twins_61 Q k k2 (nI u) (nI (sm (twB h u) i)) (nI i) (nI l) A B := fun hh => by
        show k2 (_, _, _, (0 : Int32), nI l + 1, A, B)
        rw [nI_1]
        refine hk2 _ ⟨0, Or.inr rfl, rfl, fun q => absurd q (by decide), fun q => ?_⟩
        rcases hh with rfl | hh
        · exact hbb.mpr (fun l2 h9 => q l2 (by omega))
        · exact absurd (q l (by omega)) hh
      refine pk_le 8 l (fun c => by omega) (fun _ => ⟨fun c => zero (Or.inl ?_), fun c => ?_⟩)
      · rcases hb with rfl | rfl
        · exact absurd c no10
        · rfl
      · rw [e5, e6]
        refine ⟨vp_in_nI (by omega) (by decide), vp_in_nI (by omega) (by decide), ?_⟩
        rw [nI_clamp (by omega), nI_clamp (by omega), hl.2.2 u hu l hl9, hl.2.2 i hi l hl9]
        refine ⟨fun c2 => zero (Or.inr (fun e => c2 (by rw [e]))), fun c2 => ?_⟩
        have e2 := (nI_eq (by omega) (by omega)).mp c2
        have hb1 : b = 1 := by
          rcases hb with rfl | rfl
          · rfl
          · exact absurd rfl c
        show k2 (_, _, _, (1 : Int32), nI l + 1, A, B)
        rw [nI_1]
        refine hk2 _ ⟨1, Or.inl rfl, rfl, fun _ l2 h9 => ?_, fun _ => rfl⟩
        by_cases e : l2 = l
        · subst e; exact e2
        · exact hbb.mp hb1 l2 (by omega)
theorem s_word : st_word Sim := by
  intro a w I J A B hs
  obtain ⟨h, t, hH⟩ := Sim_H.mp hs
  obtain ⟨h1, h2, h3, h4, h5, h6, h7, h8, h9, h10, h11, h12, h13, h14, h15⟩ := id hH
  have hC := lexX_C h3
  have hl := lexM_N h4
  have hw10 := h1.1
  refine pe_has h3.1 h1.1 (fun ha => ⟨fun _ => ?_, fun e => absurd e no10⟩) (fun hn => ⟨fun e => absurd rfl e, fun _ => pe_isWord h4.1 h1.1 (fun c => absurd c hn) (fun _ => ⟨fun e => absurd rfl e, fun _ => ⟨rfl, hs⟩⟩)⟩)
  obtain ⟨u, hu, rfl⟩ := id ha
  have hv : vp_in (nI u) 10 := vp_in_nI (by omega) (by decide)
  have hcl : (nI u).toNatClampNeg = u := nI_clamp (by omega)
  have b6 : ∀ l, l < 8 → A 6 l = nI (seB t l) := fun l hl => by have := h6.1 l hl; rwa [Nat.zero_add] at this
  have isw : ∀ (K : Int32 → MI → MJ → Prop), K 1 A B → P_X12_isWord (nI u) A B K := fun K hK => pe_isWord h4.1 h1.1 (fun _ => hK) (fun c => absurd ha c)
  refine ⟨fun c => ?_, fun n0 => ⟨fun c => ?_, fun n1 => ⟨fun c => ?_, fun n2 => ⟨fun c => ?_, fun n3 => ⟨fun c => ?_, fun n4 => ⟨fun c => ?_, fun n5 => ⟨fun c => ?_, fun n6 => ⟨fun c => ?_, fun n7 => ?_⟩⟩⟩⟩⟩⟩⟩⟩
  · -- 0
    subst c
    refine ⟨hv, isw _ ⟨fun _ => ⟨fun _ => ?_, fun e => absurd rfl e⟩, fun e => absurd e no10⟩⟩
    exact ⟨hv, by rw [hcl, (h3.2 u hu).2.1, (h4.2 u hu).2.1], hs⟩
  · -- 1
    subst c
    refine ⟨hv, isw _ ⟨fun _ => ⟨fun e => absurd e (by decide), fun _ => ⟨fun _ => ?_, fun e => absurd rfl e⟩⟩, fun e => absurd e no10⟩⟩
    exact ⟨hv, by rw [hcl, (h3.2 u hu).1, (h4.2 u hu).1], hs⟩
  · -- 2
    subst c
    refine ⟨hv, isw _ ⟨fun _ => ⟨fun e => absurd e (by decide), fun _ => ⟨fun e => absurd e (by decide), fun _ => ⟨fun _ => ?_, fun e => absurd rfl e⟩⟩⟩, fun e => absurd e no10⟩⟩
    have e9 : (9 : Int32) + nI u = nI (9 + u) := by rw [show (9 : Int32) = nI 9 from rfl, nI_add]
    have e8 : A 6 (9 + u) = nI (seR t u) := by have := h6.2.1 u hu; rwa [Nat.zero_add] at this
    rw [e9]
    exact ⟨vp_in_nI (by omega) (by decide), by rw [hcl, nI_clamp (by omega), e8]; exact h5.2.1 u hu, hs⟩
  · -- 3
    subst c
    refine isw _ ⟨fun _ => ⟨fun e => absurd e (by decide), fun _ => ⟨fun e => absurd e (by decide), fun _ => ⟨fun e => absurd e (by decide), fun _ => ⟨fun _ => ?_, fun e => absurd rfl e⟩⟩⟩⟩, fun e => absurd e no10⟩
    exact ⟨vp_in_nI (n := 8) (by decide) (by decide), by rw [h5.2.2.2.2.2, show A 6 (8 : Int32).toNatClampNeg = nI (seX t) from h6.2.2.2.2.2], hs⟩
  · -- 4
    subst c
    refine pe_rarestX h1 hC hu (fun x d hx => isw _ ⟨fun _ => ⟨fun e => absurd e (by decide), fun _ => ⟨fun e => absurd e (by decide), fun _ => ⟨fun e => absurd e (by decide), fun _ => ⟨fun e => absurd e (by decide), fun _ => ⟨fun _ => ?_, fun e => absurd rfl e⟩⟩⟩⟩⟩, fun e => absurd e no10⟩)
    exact pe_rarestM h1 hl hu (fun y e hy => ⟨rrP_uniq hx hy, hs⟩)
  · -- 5
    subst c
    refine pe_twinsX h1 hC hu (isw _ ⟨fun _ => ⟨fun e => absurd e (by decide), fun _ => ⟨fun e => absurd e (by decide), fun _ => ⟨fun e => absurd e (by decide), fun _ => ⟨fun e => absurd e (by decide), fun _ => ⟨fun e => absurd e (by decide), fun _ => ⟨fun _ => ?_, fun e => absurd rfl e⟩⟩⟩⟩⟩⟩, fun e => absurd e no10⟩)
    exact pe_twinsM h1 hl hu ⟨rfl, hs⟩
  · -- 6
    subst c
    refine pe_makings h1 h2.1 (hC.2.2 u hu) h5.1 hu (isw _ ⟨fun _ => ⟨fun e => absurd e (by decide), fun _ => ⟨fun e => absurd e (by decide), fun _ => ⟨fun e => absurd e (by decide), fun _ => ⟨fun e => absurd e (by decide), fun _ => ⟨fun e => absurd e (by decide), fun _ => ⟨fun e => absurd e (by decide), fun _ => ⟨fun _ => ?_, fun e => absurd rfl e⟩⟩⟩⟩⟩⟩⟩, fun e => absurd e no10⟩)
    exact pe_madeOf h1 h2.1 (hl.2.2 u hu) b6 hu ⟨rfl, hs⟩
  · -- 7
    subst c
    refine pe_letterBits (k := 12) h1 (hC.2.2 u hu) hu (isw _ ⟨fun _ => ⟨fun e => absurd e (by decide), fun _ => ⟨fun e => absurd e (by decide), fun _ => ⟨fun e => absurd e (by decide), fun _ => ⟨fun e => absurd e (by decide), fun _ => ⟨fun e => absurd e (by decide), fun _ => ⟨fun e => absurd e (by decide), fun _ => ⟨fun e => absurd e (by decide), fun _ => ⟨fun _ => ?_, fun e => absurd rfl e⟩⟩⟩⟩⟩⟩⟩⟩, fun e => absurd e no10⟩)
    exact pe_lettersOf h1 (hl.2.2 u hu) hu ⟨rfl, hs⟩
  · exact isw _ ⟨fun _ => ⟨fun e => absurd e n0, fun _ => ⟨fun e => absurd e n1, fun _ => ⟨fun e => absurd e n2, fun _ => ⟨fun e => absurd e n3, fun _ => ⟨fun e => absurd e n4, fun _ => ⟨fun e => absurd e n5, fun _ => ⟨fun e => absurd e n6, fun _ => ⟨fun e => absurd e n7, fun _ => ⟨rfl, hs⟩⟩⟩⟩⟩⟩⟩⟩⟩, fun e => absurd e no10⟩
