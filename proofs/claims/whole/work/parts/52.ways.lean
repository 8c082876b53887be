/-! ===== how many rows of words use up what is left ===== -/
theorem may_iff {h : Ho} {t : Se} {ok : Nat → Bool} {p a w : Nat} : may h t ok p a w = true ↔ ok w = true ∧ (msk t a).testBit (hoK h w) = true ∧ fitP h t p w := by
  unfold may; rw [Bool.and_eq_true, Bool.and_eq_true, decide_eq_true_iff]; exact and_assoc
theorem tp_lt (t : Se) : tp t < bs (seB t) 8 := by have := bs_pos (seB t) 8; unfold tp; omega
/-- a word that fits takes a step down, and letters -/
theorem fit_step {h : Ho} {t : Se} (h1 : hoOK h) {p w : Nat} (hw : w < hoW h) (hp : p ≤ tp t) (hf : fitP h t p w) : 0 < pr h t w ∧ pr h t w ≤ p ∧ (∀ l, l < 8 → dg (seB t) (p - pr h t w) l = dg (seB t) p l - nd h w l) ∧ sm (dg (seB t) (p - pr h t w)) 8 + hoZ h w = sm (dg (seB t) p) 8 := by
  have hp2 : p < bs (seB t) 8 := Nat.lt_of_le_of_lt hp (tp_lt t)
  obtain ⟨h2, h3⟩ := dg_step hp2 hf
  have hs : sm (nd h w) 8 = hoZ h w := cnt_sum (h1.2 w hw).2.2.2
  have hz : 0 < hoZ h w := (h1.2 w hw).2.1
  have hs2 : sm (dg (seB t) (p - pr h t w)) 8 + hoZ h w = sm (dg (seB t) p) 8 := by
    have hx : ∀ l, l < 8 → dg (seB t) (p - pr h t w) l + nd h w l = dg (seB t) p l := fun l hl => by
      have := h3 l hl; have := hf l hl; unfold pr; omega
    have a0 := hx 0 (by decide); have a1 := hx 1 (by decide); have a2 := hx 2 (by decide); have a3 := hx 3 (by decide)
    have a4 := hx 4 (by decide); have a5 := hx 5 (by decide); have a6 := hx 6 (by decide); have a7 := hx 7 (by decide)
    have e : ∀ f : Nat → Nat, sm f 8 = 0 + f 0 + f 1 + f 2 + f 3 + f 4 + f 5 + f 6 + f 7 := fun f => rfl
    rw [e] at hs ⊢
    rw [e]
    omega
  refine ⟨?_, h2, h3, hs2⟩
  have e : ∀ f : Nat → Nat, sm f 8 = 0 + f 0 + f 1 + f 2 + f 3 + f 4 + f 5 + f 6 + f 7 := fun f => rfl
  rw [e] at hs
  have g : ∀ l, l < 8 → nd h w l ≤ pr h t w := fun l hl => vl_ge 8 hl
  have a0 := g 0 (by decide); have a1 := g 1 (by decide); have a2 := g 2 (by decide); have a3 := g 3 (by decide)
  have a4 := g 4 (by decide); have a5 := g 5 (by decide); have a6 := g 6 (by decide); have a7 := g 7 (by decide)
  omega
theorem fit_0 {h : Ho} {t : Se} (h1 : hoOK h) {w : Nat} (hw : w < hoW h) : ¬ fitP h t 0 w := fun hf => by
  have := fit_step (p := 0) h1 hw (Nat.zero_le _) hf; omega
theorem fit_up {h : Ho} {t : Se} {w p : Nat} (hf : fitP h t p w) : fitP h t (tp t) w := fun l hl => by
  have h2 := dg_top (b := seB t) 8 hl
  have h3 : dg (seB t) (tp t) l = seB t l := h2
  rw [h3]; exact Nat.le_trans (hf l hl) (dg_le _ _ _)
theorem Vf_st {h : Ho} {t : Se} {ok : Nat → Bool} (h1 : hoOK h) : ∀ (n m p a : Nat), p ≤ n → p ≤ m → p ≤ tp t → Vf h t ok n p a = Vf h t ok m p a := by
  intro n
  induction n with
  | zero =>
    intro m p a hn hm hp
    obtain rfl : p = 0 := by omega
    cases m with
    | zero => rfl
    | succ m => show eb t a = if (0 : Nat) = 0 then eb t a else _; rw [if_pos rfl]
  | succ n ih =>
    intro m p a hn hm hp
    by_cases hp0 : p = 0
    · subst hp0
      cases m with
      | zero => rfl
      | succ m => rfl
    · obtain ⟨m, rfl⟩ : ∃ k, m = k + 1 := ⟨m - 1, by omega⟩
      show (if p = 0 then eb t a else _) = (if p = 0 then eb t a else _)
      rw [if_neg hp0, if_neg hp0]
      refine sm_congr (fun w hw => ?_)
      by_cases hm2 : may h t ok p a w = true
      · rw [if_pos hm2, if_pos hm2]
        obtain ⟨_, _, hf⟩ := may_iff.mp hm2
        obtain ⟨f1, f2, f3, f4⟩ := fit_step h1 hw hp hf
        exact ih m _ _ (by omega) (by omega) (by omega)
      · rw [if_neg hm2, if_neg hm2]
theorem V_0 {h : Ho} {t : Se} {ok : Nat → Bool} (a : Nat) : V h t ok 0 a = eb t a := by
  show (if (0 : Nat) = 0 then eb t a else 0) = eb t a; rw [if_pos rfl]
theorem V_p {h : Ho} {t : Se} {ok : Nat → Bool} (h1 : hoOK h) {p a : Nat} (h0 : 0 < p) (hp : p ≤ tp t) : V h t ok p a = sm (fun w => if may h t ok p a w then V h t ok (p - pr h t w) (hoK h w) else 0) (hoW h) := by
  obtain ⟨q, rfl⟩ : ∃ q, p = q + 1 := ⟨p - 1, by omega⟩
  show (if q + 1 = 0 then eb t a else _) = _
  rw [if_neg (by omega)]
  refine sm_congr (fun w hw => ?_)
  by_cases hm2 : may h t ok (q + 1) a w = true
  · rw [if_pos hm2, if_pos hm2]
    obtain ⟨_, _, hf⟩ := may_iff.mp hm2
    obtain ⟨f1, f2, f3, f4⟩ := fit_step h1 hw hp hf
    exact Vf_st h1 _ _ _ _ (by omega) (by omega) (by omega)
  · rw [if_neg hm2, if_neg hm2]
theorem sm_bound {f : Nat → Nat} {n c : Nat} (h : ∀ i, i < n → f i ≤ c) : sm f n ≤ n * c := by
  induction n with
  | zero => show 0 ≤ 0 * c; omega
  | succ n ih =>
    have h2 := ih (fun i hi => h i (by omega))
    have h3 := h n (by omega)
    show sm f n + f n ≤ (n + 1) * c
    rw [Nat.add_mul]; omega
theorem eb_le (t : Se) (a : Nat) : eb t a ≤ 1 := by
  unfold eb; split <;> omega
theorem V_le {h : Ho} {t : Se} {ok : Nat → Bool} (h1 : hoOK h) : ∀ (n p a : Nat), p ≤ n → p ≤ tp t → V h t ok p a ≤ 10 ^ sm (dg (seB t) p) 8 := by
  intro n
  induction n with
  | zero =>
    intro p a hn hp
    obtain rfl : p = 0 := by omega
    rw [V_0]; exact Nat.le_trans (eb_le t a) (Nat.pow_pos (by decide))
  | succ n ih =>
    intro p a hn hp
    by_cases hp0 : p = 0
    · subst hp0
      rw [V_0]; exact Nat.le_trans (eb_le t a) (Nat.pow_pos (by decide))
    · rw [V_p h1 (by omega) hp]
      rcases Nat.eq_zero_or_pos (sm (dg (seB t) p) 8) with hz | hz
      · have : sm (fun w => if may h t ok p a w then V h t ok (p - pr h t w) (hoK h w) else 0) (hoW h) ≤ hoW h * 0 := sm_bound (fun w hw => by
          by_cases hm2 : may h t ok p a w = true
          · obtain ⟨_, _, hf⟩ := may_iff.mp hm2
            obtain ⟨f1, f2, f3, f4⟩ := fit_step h1 hw hp hf
            have := (h1.2 w hw).2.1
            omega
          · rw [if_neg hm2]; exact Nat.le_refl 0)
        rw [Nat.mul_zero] at this
        exact Nat.le_trans this (Nat.zero_le _)
      · obtain ⟨s, hs⟩ : ∃ s, sm (dg (seB t) p) 8 = s + 1 := ⟨sm (dg (seB t) p) 8 - 1, by omega⟩
        have h3 : sm (fun w => if may h t ok p a w then V h t ok (p - pr h t w) (hoK h w) else 0) (hoW h) ≤ hoW h * 10 ^ s := sm_bound (fun w hw => by
          by_cases hm2 : may h t ok p a w = true
          · obtain ⟨_, _, hf⟩ := may_iff.mp hm2
            obtain ⟨f1, f2, f3, f4⟩ := fit_step h1 hw hp hf
            have hz2 := (h1.2 w hw).2.1
            show (if may h t ok p a w then V h t ok (p - pr h t w) (hoK h w) else 0) ≤ 10 ^ s
            rw [if_pos hm2]
            exact Nat.le_trans (ih _ _ (by omega) (by omega)) (Nat.pow_le_pow_right (by decide) (by omega))
          · show (if may h t ok p a w then V h t ok (p - pr h t w) (hoK h w) else 0) ≤ 10 ^ s
            rw [if_neg hm2]; exact Nat.zero_le _)
        rw [hs, Nat.pow_succ, Nat.mul_comm]
        exact Nat.le_trans h3 (Nat.mul_le_mul_right _ h1.1)
theorem sm_mono {f g : Nat → Nat} {n : Nat} (h : ∀ i, i < n → f i ≤ g i) : sm f n ≤ sm g n := by
  induction n with
  | zero => exact Nat.le_refl 0
  | succ n ih =>
    have h2 := ih (fun i hi => h i (by omega))
    have h3 := h n (by omega)
    show sm f n + f n ≤ sm g n + g n; omega
theorem V_small {h : Ho} {t : Se} {ok : Nat → Bool} (h1 : hoOK h) (h2 : sm (seB t) 8 ≤ 13) {p : Nat} (hp : p ≤ tp t) (a : Nat) : V h t ok p a ≤ 10 ^ 13 := by
  have h3 : sm (dg (seB t) p) 8 ≤ sm (seB t) 8 := sm_mono (fun i _ => dg_le _ _ _)
  exact Nat.le_trans (V_le h1 p p a (Nat.le_refl _) hp) (Nat.pow_le_pow_right (by decide) (by omega))
theorem sm_pos {f : Nat → Nat} {n : Nat} : 0 < sm f n ↔ ∃ i, i < n ∧ 0 < f i := by
  induction n with
  | zero => exact ⟨fun h => absurd h (Nat.lt_irrefl 0), fun ⟨i, hi, _⟩ => absurd hi (Nat.not_lt_zero i)⟩
  | succ n ih =>
    show 0 < sm f n + f n ↔ _
    constructor
    · intro h
      rcases Nat.eq_zero_or_pos (sm f n) with q | q
      · exact ⟨n, by omega, by omega⟩
      · obtain ⟨i, hi, h2⟩ := ih.mp q
        exact ⟨i, by omega, h2⟩
    · rintro ⟨i, hi, h2⟩
      rcases Nat.lt_or_ge i n with q | q
      · have := ih.mpr ⟨i, q, h2⟩; omega
      · obtain rfl : i = n := by omega
        omega
theorem sm_lt {f g : Nat → Nat} {n : Nat} (h : ∀ i, i < n → f i ≤ g i) : sm f n < sm g n ↔ ∃ i, i < n ∧ f i < g i := by
  induction n with
  | zero => exact ⟨fun h => absurd h (Nat.lt_irrefl 0), fun ⟨i, hi, _⟩ => absurd hi (Nat.not_lt_zero i)⟩
  | succ n ih =>
    have h1 := ih (fun i hi => h i (by omega))
    have h2 := h n (by omega)
    have h3 := sm_mono (fun i (hi : i < n) => h i (by omega))
    show sm f n + f n < sm g n + g n ↔ _
    constructor
    · intro h4
      rcases Nat.lt_or_ge (f n) (g n) with q | q
      · exact ⟨n, by omega, q⟩
      · obtain ⟨i, hi, h5⟩ := h1.mp (by omega)
        exact ⟨i, by omega, h5⟩
    · rintro ⟨i, hi, h4⟩
      rcases Nat.lt_or_ge i n with q | q
      · have := h1.mpr ⟨i, q, h4⟩; omega
      · obtain rfl : i = n := by omega
        omega
/-! ways: from a place, behind a kind, to another -/
theorem Pth_snoc {h : Ho} {t : Se} {ok : Nat → Bool} : ∀ (n p a q b w : Nat), Pth h t ok n p a q b → w < hoW h → 0 < q → may h t ok q b w = true → (q - pr h t w = 0 → (seE t).testBit (hoK h w) = true) → Pth h t ok (n + 1) p a (q - pr h t w) (hoK h w) := by
  intro n
  induction n with
  | zero =>
    rintro p a q b w ⟨rfl, rfl⟩ hw h0 hm he
    exact ⟨w, hw, h0, hm, he, rfl, rfl⟩
  | succ n ih =>
    rintro p a q b w ⟨u, hu, h0, hm, he, hr⟩ hw h02 hm2 he2
    exact ⟨u, hu, h0, hm, he, ih _ _ _ _ _ hr hw h02 hm2 he2⟩
theorem Pth_last {h : Ho} {t : Se} {ok : Nat → Bool} : ∀ (n p a q b : Nat), Pth h t ok (n + 1) p a q b → ∃ p2 a2 w, Pth h t ok n p a p2 a2 ∧ w < hoW h ∧ 0 < p2 ∧ may h t ok p2 a2 w = true ∧ (p2 - pr h t w = 0 → (seE t).testBit (hoK h w) = true) ∧ q = p2 - pr h t w ∧ b = hoK h w := by
  intro n
  induction n with
  | zero =>
    rintro p a q b ⟨u, hu, h0, hm, he, e1, e2⟩
    exact ⟨p, a, u, ⟨rfl, rfl⟩, hu, h0, hm, he, e1.symm, e2.symm⟩
  | succ n ih =>
    rintro p a q b ⟨u, hu, h0, hm, he, hr⟩
    obtain ⟨p2, a2, w, g1, g2⟩ := ih _ _ _ _ hr
    exact ⟨p2, a2, w, ⟨u, hu, h0, hm, he, g1⟩, g2⟩
theorem Pth_le {h : Ho} {t : Se} {ok : Nat → Bool} (h1 : hoOK h) : ∀ (n p a q b : Nat), p ≤ tp t → Pth h t ok n p a q b → q + n ≤ p ∧ (n = 0 ∨ b < 4) := by
  intro n
  induction n with
  | zero => rintro p a q b hp ⟨rfl, rfl⟩; exact ⟨Nat.le_refl _, Or.inl rfl⟩
  | succ n ih =>
    rintro p a q b hp ⟨u, hu, h0, hm, he, hr⟩
    obtain ⟨_, _, hf⟩ := may_iff.mp hm
    obtain ⟨f1, f2, f3, f4⟩ := fit_step h1 hu hp hf
    obtain ⟨g1, g2⟩ := ih _ _ _ _ (by omega) hr
    refine ⟨by omega, Or.inr ?_⟩
    rcases g2 with rfl | g2
    · rw [← hr.2]; exact (h1.2 u hu).1
    · exact g2
theorem V_pos {h : Ho} {t : Se} {ok : Nat → Bool} (h1 : hoOK h) : ∀ (m p a : Nat), p ≤ m → 0 < p → p ≤ tp t → (0 < V h t ok p a ↔ ∃ n b, Pth h t ok n p a 0 b) := by
  intro m
  induction m with
  | zero => intro p a h2 h3; omega
  | succ m ih =>
    intro p a hm h0 hp
    rw [V_p h1 h0 hp, sm_pos]
    constructor
    · rintro ⟨w, hw, h2⟩
      by_cases hm2 : may h t ok p a w = true
      · rw [if_pos hm2] at h2
        obtain ⟨_, _, hf⟩ := may_iff.mp hm2
        obtain ⟨f1, f2, f3, f4⟩ := fit_step h1 hw hp hf
        rcases Nat.eq_zero_or_pos (p - pr h t w) with q | q
        · rw [q, V_0] at h2
          have he : (seE t).testBit (hoK h w) = true := by
            unfold eb at h2
            by_cases he : (seE t).testBit (hoK h w) = true
            · exact he
            · rw [if_neg he] at h2; omega
          exact ⟨1, hoK h w, w, hw, h0, hm2, fun _ => he, q, rfl⟩
        · obtain ⟨n, b, hr⟩ := (ih _ _ (by omega) q (by omega)).mp h2
          exact ⟨n + 1, b, w, hw, h0, hm2, fun e => by omega, hr⟩
      · rw [if_neg hm2] at h2; omega
    · rintro ⟨n, b, hr⟩
      cases n with
      | zero => have := hr.1; omega
      | succ n =>
        obtain ⟨w, hw, _, hm2, he, hr2⟩ := hr
        obtain ⟨_, _, hf⟩ := may_iff.mp hm2
        obtain ⟨f1, f2, f3, f4⟩ := fit_step h1 hw hp hf
        refine ⟨w, hw, ?_⟩
        rw [if_pos hm2]
        rcases Nat.eq_zero_or_pos (p - pr h t w) with q | q
        · rw [q, V_0]; unfold eb; rw [if_pos (he q)]; exact Nat.one_pos
        · exact (ih _ _ (by omega) q (by omega)).mpr ⟨n, b, hr2⟩
/-- without a word there are as many, but for those that have it -/
theorem V_wo {h : Ho} {t : Se} {ok : Nat → Bool} {x : Nat} (h1 : hoOK h) (hx : x < hoW h) : ∀ (m p a : Nat), p ≤ m → p ≤ tp t → V h t (fun w => ok w && !decide (w = x)) p a ≤ V h t ok p a ∧ (V h t (fun w => ok w && !decide (w = x)) p a < V h t ok p a ↔ ∃ n q b, Pth h t ok n p a q b ∧ 0 < q ∧ may h t ok q b x = true ∧ 0 < V h t ok (q - pr h t x) (hoK h x)) := by
  intro m
  induction m with
  | zero =>
    intro p a hm hp
    obtain rfl : p = 0 := by omega
    rw [V_0, V_0]
    refine ⟨Nat.le_refl _, fun e => absurd e (Nat.lt_irrefl _), fun ⟨n, q, b, hr, h0, _⟩ => ?_⟩
    have := Pth_le h1 n 0 a q b hp hr; omega
  | succ m ih =>
    intro p a hm hp
    rcases Nat.eq_zero_or_pos p with hp0 | hp0
    · subst hp0
      rw [V_0, V_0]
      refine ⟨Nat.le_refl _, fun e => absurd e (Nat.lt_irrefl _), fun ⟨n, q, b, hr, h0, _⟩ => ?_⟩
      have := Pth_le h1 n 0 a q b hp hr; omega
    · rw [V_p h1 hp0 hp, V_p h1 hp0 hp]
      have hmay : ∀ w, may h t (fun w => ok w && !decide (w = x)) p a w = true ↔ may h t ok p a w = true ∧ w ≠ x := fun w => by
        rw [may_iff, may_iff, Bool.and_eq_true, Bool.not_eq_true', decide_eq_false_iff_not]
        exact ⟨fun ⟨⟨a, b⟩, c, d⟩ => ⟨⟨a, c, d⟩, b⟩, fun ⟨⟨a, c, d⟩, b⟩ => ⟨⟨a, b⟩, c, d⟩⟩
      have hle : ∀ w, w < hoW h → (if may h t (fun w => ok w && !decide (w = x)) p a w then V h t (fun w => ok w && !decide (w = x)) (p - pr h t w) (hoK h w) else 0) ≤ (if may h t ok p a w then V h t ok (p - pr h t w) (hoK h w) else 0) := fun w hw => by
        by_cases h2 : may h t (fun w => ok w && !decide (w = x)) p a w = true
        · have h3 := ((hmay w).mp h2).1
          rw [if_pos h2, if_pos h3]
          obtain ⟨_, _, hf⟩ := may_iff.mp h3
          obtain ⟨f1, f2, f3, f4⟩ := fit_step h1 hw hp hf
          exact (ih _ _ (by omega) (by omega)).1
        · rw [if_neg h2]; exact Nat.zero_le _
      refine ⟨sm_mono hle, ?_⟩
      rw [sm_lt hle]
      constructor
      · rintro ⟨w, hw, h2⟩
        by_cases h3 : may h t ok p a w = true
        · obtain ⟨_, _, hf⟩ := may_iff.mp h3
          obtain ⟨f1, f2, f3, f4⟩ := fit_step h1 hw hp hf
          by_cases h4 : w = x
          · subst h4
            rw [if_pos h3, if_neg (fun q => ((hmay w).mp q).2 rfl)] at h2
            exact ⟨0, p, a, ⟨rfl, rfl⟩, hp0, h3, h2⟩
          · rw [if_pos h3, if_pos ((hmay w).mpr ⟨h3, h4⟩)] at h2
            obtain ⟨n, q, b, g1, g2, g3, g4⟩ := (ih _ _ (by omega) (by omega)).2.mp h2
            refine ⟨n + 1, q, b, ⟨w, hw, hp0, h3, fun e => ?_, g1⟩, g2, g3, g4⟩
            have := Pth_le h1 n _ _ _ _ (by omega) g1; omega
        · rw [if_neg h3] at h2; omega
      · rintro ⟨n, q, b, hr, h0, g3, g4⟩
        cases n with
        | zero =>
          obtain ⟨rfl, rfl⟩ := hr
          refine ⟨x, hx, ?_⟩
          rw [if_pos g3, if_neg (fun q => ((hmay x).mp q).2 rfl)]; exact g4
        | succ n =>
          obtain ⟨w, hw, _, h3, he, hr2⟩ := hr
          obtain ⟨_, _, hf⟩ := may_iff.mp h3
          obtain ⟨f1, f2, f3, f4⟩ := fit_step h1 hw hp hf
          refine ⟨w, hw, ?_⟩
          by_cases h4 : w = x
          · subst h4
            rw [if_pos h3, if_neg (fun q => ((hmay w).mp q).2 rfl)]
            have hq : 0 < p - pr h t w := by have := Pth_le h1 n _ _ _ _ (by omega) hr2; omega
            refine Nat.lt_of_le_of_lt (Nat.zero_le (V h t (fun u => ok u && !decide (u = w)) (p - pr h t w) (hoK h w))) ((ih _ _ (by omega) (by omega)).2.mpr ⟨n, q, b, hr2, h0, g3, g4⟩)
          · rw [if_pos h3, if_pos ((hmay w).mpr ⟨h3, h4⟩)]
            exact (ih _ _ (by omega) (by omega)).2.mpr ⟨n, q, b, hr2, h0, g3, g4⟩
/-- layers are parts of the whole -/
theorem Ly_le {h : Ho} {t : Se} {ok : Nat → Bool} (h1 : hoOK h) : ∀ (m p a s : Nat), p ≤ m → 0 < p → p ≤ tp t → sm (fun k => Ly h t ok (k + 1) p a) s ≤ V h t ok p a := by
  have swap : ∀ (g : Nat → Nat → Nat) (c : Nat → Bool) (s n : Nat), sm (fun k => sm (fun w => if c w then g k w else 0) n) s = sm (fun w => if c w then sm (fun k => g k w) s else 0) n := by
    intro g c s n
    induction n with
    | zero =>
      show sm (fun _ => 0) s = 0
      induction s with
      | zero => rfl
      | succ s ih => show sm (fun _ => 0) s + 0 = 0; rw [ih]
    | succ n ih =>
      show sm (fun k => sm (fun w => if c w then g k w else 0) n + (if c n then g k n else 0)) s = sm (fun w => if c w then sm (fun k => g k w) s else 0) n + (if c n then sm (fun k => g k n) s else 0)
      rw [← ih]
      have add : ∀ (u v : Nat → Nat) (s : Nat), sm (fun k => u k + v k) s = sm u s + sm v s := by
        intro u v s
        induction s with
        | zero => rfl
        | succ s ih2 => show sm (fun k => u k + v k) s + (u s + v s) = (sm u s + u s) + (sm v s + v s); rw [ih2]; omega
      rw [add]
      congr 1
      cases c n with
      | true => rfl
      | false =>
        show sm (fun _ => 0) s = 0
        clear ih
        induction s with
        | zero => rfl
        | succ s ih => show sm (fun _ => 0) s + 0 = 0; rw [ih]
  have head : ∀ (f : Nat → Nat) (s : Nat), sm f (s + 1) = f 0 + sm (fun k => f (k + 1)) s := by
    intro f s
    induction s with
    | zero => show 0 + f 0 = f 0 + 0; omega
    | succ s ih => show sm f (s + 1) + f (s + 1) = f 0 + (sm (fun k => f (k + 1)) s + f (s + 1)); rw [ih]; omega
  intro m
  induction m with
  | zero => intro p a s h2 h3; omega
  | succ m ih =>
    intro p a s hm h0 hp
    have e1 : sm (fun k => Ly h t ok (k + 1) p a) s = sm (fun w => if may h t ok p a w then sm (fun k => Ly h t ok k (p - pr h t w) (hoK h w)) s else 0) (hoW h) := by
      rw [← swap (fun k w => Ly h t ok k (p - pr h t w) (hoK h w))]
      refine sm_congr (fun k _ => ?_)
      show (if p = 0 then 0 else _) = _
      rw [if_neg (by omega)]
    rw [e1, V_p h1 h0 hp]
    refine sm_mono (fun w hw => ?_)
    by_cases hm2 : may h t ok p a w = true
    · rw [if_pos hm2, if_pos hm2]
      obtain ⟨_, _, hf⟩ := may_iff.mp hm2
      obtain ⟨f1, f2, f3, f4⟩ := fit_step h1 hw hp hf
      cases s with
      | zero => exact Nat.zero_le _
      | succ s =>
        rw [head]
        rcases Nat.eq_zero_or_pos (p - pr h t w) with q | q
        · rw [q, V_0]
          have e2 : sm (fun k => Ly h t ok (k + 1) 0 (hoK h w)) s = 0 := by
            have : sm (fun k => Ly h t ok (k + 1) 0 (hoK h w)) s ≤ s * 0 := sm_bound (fun k _ => by show (if (0 : Nat) = 0 then 0 else _) ≤ 0; rw [if_pos rfl]; exact Nat.le_refl 0)
            omega
          rw [e2]
          show (if (0 : Nat) = 0 then eb t (hoK h w) else 0) + 0 ≤ _
          rw [if_pos rfl]; omega
        · have e3 : Ly h t ok 0 (p - pr h t w) (hoK h w) = 0 := by
            show (if p - pr h t w = 0 then _ else 0) = 0
            rw [if_neg (by omega)]
          rw [e3, Nat.zero_add]
          exact ih _ _ s (by omega) q (by omega)
    · rw [if_neg hm2, if_neg hm2]; exact Nat.le_refl 0
