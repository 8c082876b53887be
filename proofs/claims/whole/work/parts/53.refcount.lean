/-! ===== the reference counts ===== -/
/-- a setting with one letter more than a bag may hold -/
def seO (h : Ho) (t : Se) : Prop := sm (seB t) 8 ≤ 13 ∧ (∀ u, u < hoW h → seR t u ≤ 9) ∧ (∀ a, a < 4 → seF t a < 16) ∧ seG t < 16 ∧ seE t < 16 ∧ seX t < 2 ^ hoW h
theorem seOK_O {h : Ho} {t : Se} (h2 : seOK h t) : seO h t := ⟨Nat.le_trans h2.1 (by decide), h2.2⟩
theorem tp_1944 {h : Ho} {t : Se} (h2 : seO h t) : tp t < 1944 := by
  have := bs_13 h2.1; have := bs_pos (seB t) 8; unfold tp; omega
theorem tp_1296 {h : Ho} {t : Se} (h2 : seOK h t) : tp t < 1296 := by
  have := bs_12 h2.1; have := bs_pos (seB t) 8; unfold tp; omega
theorem seX_lt {h : Ho} {t : Se} (h1 : hoOK h) (h2 : seO h t) : seX t < 1024 := by
  have : 2 ^ hoW h ≤ 2 ^ 10 := Nat.pow_le_pow_right (by decide) h1.1
  have := h2.2.2.2.2.2; omega
theorem msk_lt {h : Ho} {t : Se} (h2 : seO h t) {a : Nat} (ha : a ≤ 4) : msk t a < 16 := by
  unfold msk
  by_cases h4 : a = 4
  · rw [if_pos h4]; exact h2.2.2.2.1
  · rw [if_neg h4]; exact h2.2.2.1 a (by omega)
theorem pe_hasM {x k : Nat} {A : MI} {B : MJ} {Q : Int32 → MI → MJ → Prop} (hx : x < 2 ^ 31) (hk : k < 31) (h1 : x.testBit k = true → Q 1 A B) (h0 : x.testBit k = false → Q 0 A B) : P_X12_has (nI x) (nI k) A B Q := by
  refine ⟨fun c => h0 ?_, fun c => h1 ?_⟩
  · rw [bitI hx hk, bt_1] at c; simpa using c
  · rw [bitI hx hk, bt_1] at c; exact c
theorem no10 : ¬ (1 : Int32) = 0 := by decide
/-- a row has been looked at -/
def Lk (o R P F : Nat → Int32) (h : Ho) (t : Se) (ok : Nat → Bool) : Prop := o 31 = nI (tp t) ∧ (∃ al, o 32 = nI al ∧ al < 1024 ∧ ∀ w, w < hoW h → al.testBit w = ok w) ∧ (∀ w, w < hoW h → P w = nI (pr h t w)) ∧ (∀ w p, w < hoW h → p ≤ tp t → F (10 * p + w) = if fitP h t p w then 1 else 0) ∧ rowM R 0 h t
theorem pe_mayCome {h : Ho} {t : Se} {ok : Nat → Bool} {A : MI} {B : MJ} {Q : Int32 → MI → MJ → Prop} {p a w : Nat} (h1 : hoOK h) (h2 : seO h t) (hK : ∀ u, u < hoW h → A 4 u = nI (hoK h u)) (hL : Lk (A 0) (A 19) (A 21) (A 26) h t ok) (hp : p ≤ tp t) (ha : a ≤ 4) (hw : w < hoW h) (q1 : may h t ok p a w = true → Q 1 A B) (q0 : may h t ok p a w = false → Q 0 A B) : P_X12_mayCome (nI p) (nI a) (nI w) A B Q := by
  have hw10 := h1.1
  have htp := tp_1944 h2
  have hk4 := (h1.2 w hw).1
  have hm := msk_lt h2 ha
  have core : ∀ m, m = msk t a → P_X12_mayCome_24 Q (nI p) (nI w) (nI m) A B := by
    rintro m rfl
    refine ⟨vp_in_nI (by omega) (by decide), ?_⟩
    rw [nI_clamp (by omega), hK w hw]
    refine pe_hasM (by omega) (by omega) (fun c => ⟨fun e => absurd e no10, fun _ => ?_⟩) (fun c => ⟨fun _ => q0 ?_, fun e => absurd rfl e⟩)
    · obtain ⟨al, e32, hal, hbits⟩ := hL.2.1
      rw [e32]
      refine pe_hasM (by omega) (by omega) (fun c2 => ⟨fun e => absurd e no10, fun _ => ?_⟩) (fun c2 => ⟨fun _ => q0 ?_, fun e => absurd rfl e⟩)
      · have e5 : (10 : Int32) * nI p + nI w = nI (10 * p + w) := by rw [show (10 : Int32) = nI 10 from rfl, pk_mul, nI_add]
        have e6 := hL.2.2.2.1 w p hw hp
        rw [e5]
        refine ⟨vp_in_nI (by omega) (by decide), ?_⟩
        rw [nI_clamp (by omega), e6]
        rw [hbits w hw] at c2
        by_cases hf : fitP h t p w
        · rw [if_pos hf]; exact ⟨fun e => absurd e no10, fun _ => q1 (may_iff.mpr ⟨c2, c, hf⟩)⟩
        · rw [if_neg hf]; exact ⟨fun _ => q0 (by rw [Bool.eq_false_iff]; exact fun q => hf (may_iff.mp q).2.2), fun e => absurd rfl e⟩
      · rw [Bool.eq_false_iff]; intro q; rw [hbits w hw, (may_iff.mp q).1] at c2; exact absurd c2 (by decide)
    · rw [Bool.eq_false_iff]; intro q; rw [(may_iff.mp q).2.1] at c; exact absurd c (by decide)
  have hR := hL.2.2.2.2
  refine ⟨fun c => ?_, fun c => ?_⟩
  · have ha4 : a < 4 := by
      rcases Nat.lt_or_ge a 4 with q | q
      · exact q
      · exact absurd (by rw [show a = 4 by omega]; rfl) c
    have e9 : (21 : Int32) + nI a = nI (21 + a) := by rw [show (21 : Int32) = nI 21 from rfl, nI_add]
    have e8 : A 19 (21 + a) = nI (seF t a) := by have := hR.2.2.1 a ha4; rwa [Nat.zero_add] at this
    rw [e9]
    refine ⟨vp_in_nI (by omega) (by decide), ?_⟩
    rw [nI_clamp (by omega), e8]
    exact core _ (by unfold msk; rw [if_neg (by omega)])
  · have ha4 : a = 4 := (nI_eq (b := 4) (by omega) (by decide)).mp c
    refine ⟨vp_in_nI (n := 19) (by decide) (by decide), ?_⟩
    have e8 : A 19 (19 : Int32).toNatClampNeg = nI (seG t) := hR.2.2.2.1
    rw [e8]
    exact core _ (by unfold msk; rw [if_pos ha4])
theorem pe_endsAs {h : Ho} {t : Se} {ok : Nat → Bool} {A : MI} {B : MJ} {Q : Int64 → MI → MJ → Prop} {p w : Nat} (h1 : hoOK h) (h2 : seO h t) (hK : ∀ u, u < hoW h → A 4 u = nI (hoK h u)) (hL : Lk (A 0) (A 19) (A 21) (A 26) h t ok) (hp : p ≤ tp t) (hw : w < hoW h) (hf : fitP h t p w) (hW : ∀ q k, 0 < q → q < p → k < 4 → B 22 (5 * q + k) = lN (V h t ok q k)) (hQ : Q (lN (V h t ok (p - pr h t w) (hoK h w))) A B) : P_X12_endsAs (nI p) (nI w) A B Q := by
  have hw10 := h1.1
  have htp := tp_1944 h2
  have hk4 := (h1.2 w hw).1
  obtain ⟨f1, f2, f3, f4⟩ := fit_step h1 hw hp hf
  have hc : (nI w).toNatClampNeg = w := nI_clamp (by omega)
  have hv : vp_in (nI w) 10 := vp_in_nI (by omega) (by decide)
  have e1 : nI p - A 21 (nI w).toNatClampNeg = nI (p - pr h t w) := by rw [hc, hL.2.2.1 w hw, pk_sub f2]
  have e2 : A 4 (nI w).toNatClampNeg = nI (hoK h w) := by rw [hc]; exact hK w hw
  refine ⟨hv, ?_⟩
  rw [e1]
  refine pk_le (p - pr h t w) 0 (fun c => ⟨vp_in_nI (n := 20) (by decide) (by decide), hv, ?_⟩) (fun c => ⟨hv, ?_⟩)
  · have e0 : p - pr h t w = 0 := by omega
    rw [e0, V_0] at hQ
    have e8 : A 19 (20 : Int32).toNatClampNeg = nI (seE t) := hL.2.2.2.2.2.2.2.2.1
    rw [e8, e2]
    have hE := h2.2.2.2.2.1
    refine pe_hasM (by omega) (by omega) (fun c => ⟨fun e => absurd e no10, fun _ => ?_⟩) (fun c => ⟨fun _ => ?_, fun e => absurd rfl e⟩)
    · unfold eb at hQ; rw [if_pos c] at hQ; exact hQ
    · unfold eb at hQ; rw [if_neg (by rw [c]; decide)] at hQ; exact hQ
  · rw [e2]
    have e5 : (5 : Int32) * nI (p - pr h t w) + nI (hoK h w) = nI (5 * (p - pr h t w) + hoK h w) := by rw [show (5 : Int32) = nI 5 from rfl, pk_mul, nI_add]
    rw [e5]
    refine ⟨vp_in_nI (by omega) (by decide), ?_⟩
    rw [nI_clamp (by omega), hW _ _ (by omega) (by omega) hk4]
    exact hQ
def LW (f : Nat → Int64) (h : Ho) (t : Se) (ok : Nat → Bool) : Prop := ∀ p a, p ≤ tp t → a ≤ 4 → (0 < p ∨ a = 4) → f (5 * p + a) = lN (V h t ok p a)
theorem pe_layWays {h : Ho} {t : Se} {ok : Nat → Bool} {A : MI} {B : MJ} {Q : MI → MJ → Prop} (h1 : hoOK h) (h2 : seO h t) (hn : A 0 2 = nI (hoW h)) (hK : ∀ u, u < hoW h → A 4 u = nI (hoK h u)) (hL : Lk (A 0) (A 19) (A 21) (A 26) h t ok) (hQ : ∀ B' : MJ, (∀ c, c ≠ 22 → B' c = B c) → LW (B' 22) h t ok → Q A B') : P_X12_layWays A B Q := by
  have hw10 := h1.1
  have htp := tp_1944 h2
  have hzero : ∀ a, sm (fun w => if may h t ok 0 a w then V h t ok (0 - pr h t w) (hoK h w) else 0) (hoW h) = 0 := fun a => by
    have : sm (fun w => if may h t ok 0 a w then V h t ok (0 - pr h t w) (hoK h w) else 0) (hoW h) ≤ hoW h * 0 := sm_bound (fun w hw => by
      rw [if_neg (fun q => fit_0 h1 hw (may_iff.mp q).2.2)]; exact Nat.le_refl 0)
    omega
  refine lpx_up (fun i z => ∃ B' : MJ, z = (nI i, A, B') ∧ (∀ c, c ≠ 22 → B' c = B c) ∧ ∀ q b, b ≤ 4 → q < i → B' 22 (5 * q + b) = lN (sm (fun w => if may h t ok q b w then V h t ok (q - pr h t w) (hoK h w) else 0) (hoW h))) (tp t + 1) ?_ ?_ 0 _ (Nat.zero_le _) ⟨B, rfl, fun _ _ => rfl, fun q b _ c => by omega⟩
  · rintro z k ⟨B', rfl, hD1, hD2⟩
    refine pk_lt (tp t) (tp t + 1) (fun _ => hQ B' hD1 ?_) (fun c => by omega) hL.1
    intro p a hp ha h0
    rw [hD2 p a ha (by omega)]
    rcases Nat.eq_zero_or_pos p with q | q
    · subst q
      rw [hzero, V_0, show a = 4 by omega]
      unfold eb
      have hE := h2.2.2.2.2.1
      rw [if_neg (by rw [Nat.testBit_lt_two_pow (i := 4) (by omega)]; decide)]
    · rw [V_p h1 q hp]
  · rintro p z k hp ⟨B', rfl, hD1, hD2⟩ hk
    refine pk_lt (tp t) p (fun c => by omega) (fun _ => ?_) hL.1
    refine lpx_up (fun a z => ∃ B2 : MJ, z = (nI p, nI a, A, B2) ∧ (∀ c, c ≠ 22 → B2 c = B c) ∧ (∀ q b, b ≤ 4 → q < p ∨ q = p ∧ b < a → B2 22 (5 * q + b) = lN (sm (fun w => if may h t ok q b w then V h t ok (q - pr h t w) (hoK h w) else 0) (hoW h)))) 5 ?_ ?_ 0 _ (Nat.zero_le _) ⟨B', rfl, hD1, fun q b hb c => hD2 q b hb (by omega)⟩
    · rintro z k2 ⟨B2, rfl, g1, g2⟩
      refine pk_lt 4 5 (fun _ => ?_) (fun c => by omega)
      rw [nI_1]
      exact hk _ ⟨B2, rfl, g1, fun q b hb c => g2 q b hb (by omega)⟩
    · rintro a z k2 ha ⟨B2, rfl, g1, g2⟩ hk2
      refine pk_lt 4 a (fun c => by omega) (fun _ => ?_)
      refine lpx_up (fun i z => z = (nI p, nI a, lN (sm (fun w => if may h t ok p a w then V h t ok (p - pr h t w) (hoK h w) else 0) i), nI i, A, B2)) (hoW h) ?_ ?_ 0 _ (Nat.zero_le _) rfl
      · rintro z k3 rfl
        have e5 : (5 : Int32) * nI p + nI a = nI (5 * p + a) := by rw [show (5 : Int32) = nI 5 from rfl, pk_mul, nI_add]
        refine pk_le (hoW h) (hoW h) (fun _ => ⟨?_, ?_⟩) (fun c => by omega) hn
        · rw [e5]; exact vp_in_nI (by omega) (by decide)
        · rintro B3 rfl
          rw [nI_1]
          refine hk2 _ ⟨_, rfl, fun c hc => ?_, fun q b hb c => ?_⟩
          · exact (wJ_n _ hc _).trans (g1 c hc)
          · rw [e5, nI_clamp (by omega)]
            show vp_updL (B2 22) (5 * p + a) _ (5 * q + b) = _
            by_cases he : 5 * q + b = 5 * p + a
            · obtain ⟨rfl, rfl⟩ : q = p ∧ b = a := by omega
              rw [pk_uLs]
            · rw [pk_uLn he]; exact g2 q b hb (by omega)
      · rintro i z k3 hi rfl hk3
        refine pk_le (hoW h) i (fun c => by omega) (fun _ => ?_) hn
        refine pe_mayCome h1 h2 hK hL (by omega) (by omega) hi (fun hm => ⟨fun e => absurd e no10, fun _ => ?_⟩) (fun hm => ⟨fun _ => ?_, fun e => absurd rfl e⟩)
        · refine pe_endsAs h1 h2 hK hL (by omega) hi (may_iff.mp hm).2.2 (fun q k0 hq0 hqp hk0 => ?_) ?_
          · rw [g2 q k0 (by omega) (Or.inl hqp), V_p h1 hq0 (by omega)]
          · refine hk3 _ ?_
            rw [nI_1, lN_add]
            have e7 : sm (fun w => if may h t ok p a w then V h t ok (p - pr h t w) (hoK h w) else 0) (i + 1) = sm (fun w => if may h t ok p a w then V h t ok (p - pr h t w) (hoK h w) else 0) i + V h t ok (p - pr h t i) (hoK h i) := by
              show _ + (if may h t ok p a i then V h t ok (p - pr h t i) (hoK h i) else 0) = _
              rw [if_pos hm]
            rw [e7]
        · refine hk3 _ ?_
          have e7 : sm (fun w => if may h t ok p a w then V h t ok (p - pr h t w) (hoK h w) else 0) (i + 1) = sm (fun w => if may h t ok p a w then V h t ok (p - pr h t w) (hoK h w) else 0) i + 0 := by
            show _ + (if may h t ok p a i then V h t ok (p - pr h t i) (hoK h i) else 0) = _
            rw [if_neg (by rw [hm]; decide)]
          rw [nI_1, e7, show (0 : Int64) = lN 0 from rfl, lN_add]
theorem pe_copyM {w0 w1 : Nat} {A : MI} {B : MJ} {Q : MI → MJ → Prop} (hne : w0 ≠ w1) (hQ : ∀ f : Nat → Int32, (∀ j, j < 25 → f j = A w0 j) → Q (wI A w1 f) B) : P_X12_copy w0 w1 A B Q := by
  refine lpx_up (fun i z => ∃ f : Nat → Int32, z = (nI i, wI A w1 f, B) ∧ ∀ j, j < i → f j = A w0 j) 25 ?_ ?_ 0 _ (Nat.zero_le _) ⟨A w1, by rw [wI_self]; rfl, fun j hj => absurd hj (Nat.not_lt_zero j)⟩
  · rintro z k ⟨f, rfl, hf⟩
    exact ⟨fun _ => hQ f hf, fun c => absurd (nI_le (Nat.le_refl 25) (by decide)) c⟩
  · rintro i z k hi ⟨f, rfl, hf⟩ hk
    refine ⟨fun c => absurd c (nI_ge (b := 25) hi (by decide)), fun _ => ⟨vp_in_nI hi (by decide), vp_in_nI hi (by decide), ?_⟩⟩
    rintro I13 rfl
    rw [nI_1, nI_clamp (by omega)]
    refine hk _ ⟨upd f i (A w0 i), ?_, fun j hj => ?_⟩
    · show (nI (i + 1), wI (wI A w1 f) w1 (upd (wI A w1 f w1) i (wI A w1 f w0 i)), B) = _
      rw [wI_wI, wI_s, wI_n _ hne]
    · rcases Nat.lt_or_ge j i with q | q
      · rw [upd_n (by omega)]; exact hf j q
      · rw [upd_s (by omega), show j = i by omega]
