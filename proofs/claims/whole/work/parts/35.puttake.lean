theorem sm_inc (f : Nat → Nat) (x n : Nat) : sm (fun l => if l = x then f l + 1 else f l) n = sm f n + if x < n then 1 else 0 := by
  induction n with
  | zero => simp [sm]
  | succ n ih =>
    show sm _ n + (if n = x then f n + 1 else f n) = sm f n + f n + _
    rw [ih]
    by_cases h1 : n = x
    · subst h1; simp; omega
    · rw [if_neg h1]
      by_cases h2 : x < n
      · rw [if_pos h2, if_pos (by omega)]; omega
      · rw [if_neg h2, if_neg (by omega)]; omega
theorem sm_le (f : Nat → Nat) {x n : Nat} (h : x < n) : f x ≤ sm f n := by
  induction n with
  | zero => omega
  | succ n ih =>
    show f x ≤ sm f n + f n
    rcases Nat.lt_or_ge x n with q | q
    · have := ih q; omega
    · obtain rfl : x = n := by omega
      omega
theorem sm_congr {f g : Nat → Nat} {n : Nat} (h : ∀ l, l < n → f l = g l) : sm f n = sm g n := by
  induction n with
  | zero => rfl
  | succ n ih =>
    show sm f n + f n = sm g n + g n
    rw [ih (fun l hl => h l (by omega)), h n (by omega)]
theorem chg_put_take {x d1 d2 : Nat} (t : Se) : chg 1 x d1 (chg 0 x d2 t) = t := by
  obtain ⟨b, r⟩ := t
  show ((fun l => if l = x then (if l = x then b l + 1 else b l) - 1 else (if l = x then b l + 1 else b l), r) : Se) = (b, r)
  congr 1; funext l; by_cases h : l = x <;> simp [h]
theorem chg_take_put {x d1 d2 : Nat} {t : Se} (hp : 0 < seB t x) : chg 0 x d1 (chg 1 x d2 t) = t := by
  obtain ⟨b, r⟩ := t
  show ((fun l => if l = x then (if l = x then b l - 1 else b l) + 1 else (if l = x then b l - 1 else b l), r) : Se) = (b, r)
  have hp : 0 < b x := hp
  congr 1; funext l; by_cases h : l = x
  · subst h; simp; omega
  · simp [h]
theorem s_put : st_put Sim := by
  intro a I J A B hs
  obtain ⟨h, t, h1, h2, h3, h4, h5, h6, h7, h8, h9, h10, h11, h12, h13, h14, h15⟩ := id hs
  obtain ⟨k, q, ts, g1, g2, g3, g4, g5, g6, g7⟩ := id h8
  refine pe_isLetterX (fun hw => ?_) (fun hw => ?_)
  · obtain ⟨x, hx, rfl⟩ := hw
    have hc : (nI x).toNatClampNeg = x := nI_clamp (by omega)
    have hwx : isW 8 (nI x) := ⟨x, hx, rfl⟩
    have hb6 : ∀ l, l < 8 → A 6 l = nI (seB t l) := fun l hl => by have := h6.1 l hl; rwa [Nat.zero_add] at this
    refine ⟨fun _ => pe_letters (k := 17) h5.1 ⟨fun c => ?_, fun c => ?_⟩, fun c => absurd c (by decide)⟩
    · have hlt : sm (seB t) 8 < 12 := (nI_ltI (b := 12) (by have := h2.1; omega) (by decide)).mp c
      have hsum : sm (seB (chg 0 x 0 t)) 8 = sm (seB t) 8 + 1 := by
        show sm (fun l => if l = x then seB t l + 1 else seB t l) 8 = _
        rw [sm_inc, if_pos hx]
      refine ⟨fun _ => ⟨vp_in_nI hx (by decide), vp_in_nI hx (by decide), ?_⟩, fun c => absurd rfl c⟩
      rintro I49 rfl I5 rfl I2 rfl I7 rfl
      refine pe_noteX (k := k) g1 g3 ?_
      have hbag : ∀ l, l < 8 → upd (I 18) (nI x).toNatClampNeg (I 18 (nI x).toNatClampNeg + 1) l = nI (seB (chg 0 x 0 t) l) := fun l hl => by
        show _ = nI (if l = x then seB t l + 1 else seB t l)
        rw [hc]
        by_cases e : l = x
        · subst e; rw [upd_s rfl, if_pos rfl, h5.1 l hl, nI_1]
        · rw [upd_n e, if_neg e]; exact h5.1 l hl
      refine pe_letters (k := 17) (f := seB (chg 0 x 0 t)) hbag ?_
      refine pe_isLetterM (fun _ => ?_) (fun c => absurd hwx c)
      refine ⟨fun _ => pe_bagOf (f := seB t) hb6 ⟨fun c => ?_, fun c => ?_⟩, fun c => absurd c (by decide)⟩
      · refine pe_noteM (k := k) (q := q) g1 g2 g4 g5 ?_
        refine ⟨vp_in_nI (by omega) (by decide), vp_in_nI (by omega) (by decide), ?_⟩
        rintro I37 rfl
        have hrow : ∀ l, l < 8 → upd (A 6) (nI x).toNatClampNeg (A 6 (nI x).toNatClampNeg + 1) l = nI (seB (chg 0 x 0 t) l) := fun l hl => by
          show _ = nI (if l = x then seB t l + 1 else seB t l)
          rw [hc]
          by_cases e : l = x
          · subst e; rw [upd_s rfl, if_pos rfl, hb6 l hl, nI_1]
          · rw [upd_n e, if_neg e]; exact hb6 l hl
        refine pe_bagOf (f := seB (chg 0 x 0 t)) hrow ?_
        refine ⟨rfl, h, chg 0 x 0 t, h1, ⟨by rw [hsum]; omega, h2.2⟩, h3, h4, ⟨hbag, h5.2⟩, ⟨fun l hl => by rw [Nat.zero_add]; exact hrow l hl, ?_⟩, h7, ?_, h9, h10, h11, h12, h13, h14, Or.inl rfl, Or.inl rfl, Or.inl rfl⟩
        · have hu : ∀ j, 8 ≤ j → upd (A 6) (nI x).toNatClampNeg (A 6 (nI x).toNatClampNeg + 1) j = A 6 j := fun j hj => by rw [hc]; exact upd_n (by omega)
          obtain ⟨-, r2, r3, r4, r5, r6⟩ := h6
          exact ⟨fun u hu9 => (hu _ (by omega)).trans (r2 u hu9), fun z hz => (hu _ (by omega)).trans (r3 z hz), (hu _ (by omega)).trans r4, (hu _ (by omega)).trans r5, (hu _ (by omega)).trans r6⟩
        · exact S_do_push (a1 := 1) (x1 := x) (d1 := 0) h1 h8 g3 g1 g5 g2 h2 h6 ⟨by decide, fun _ => hx, fun c => absurd c (by decide), fun c => absurd c (by decide), fun c => absurd c (by decide), fun c => absurd c (by decide)⟩ (fun _ => by
            show 0 < (if x = x then seB t x + 1 else seB t x)
            rw [if_pos rfl]; omega) (chg_put_take t)
      · exact absurd ((nI_eq (b := 12) (by omega) (by decide)).mp c) (by omega)
    · have h12' : sm (seB t) 8 = 12 := by
        have := h2.1
        rcases Nat.lt_or_ge (sm (seB t) 8) 12 with z | z
        · exact absurd (nI_lt z (by decide)) c
        · omega
      refine pe_isLetterM (fun _ => ?_) (fun c => absurd hwx c)
      refine ⟨fun _ => pe_bagOf (f := seB t) hb6 ⟨fun c => absurd (by rw [h12']; rfl) c, fun c => ⟨rfl, hs⟩⟩, fun c => absurd c (by decide)⟩
  · refine ⟨fun c => absurd rfl c, fun _ => pe_isLetterM (fun c => absurd c hw) (fun _ => ⟨fun c => absurd rfl c, fun _ => ⟨rfl, hs⟩⟩)⟩
theorem sm_dec (f : Nat → Nat) {x : Nat} (hp : 0 < f x) (n : Nat) : sm (fun l => if l = x then f l - 1 else f l) n + (if x < n then 1 else 0) = sm f n := by
  induction n with
  | zero => simp [sm]
  | succ n ih =>
    show sm _ n + (if n = x then f n - 1 else f n) + _ = sm f n + f n
    by_cases h1 : n = x
    · subst h1
      rw [if_neg (by omega)] at ih
      rw [if_pos rfl, if_pos (by omega)]; omega
    · rw [if_neg h1]
      by_cases h2 : x < n
      · rw [if_pos h2] at ih; rw [if_pos (by omega)]; omega
      · rw [if_neg h2] at ih; rw [if_neg (by omega)]; omega
theorem s_take : st_take Sim := by
  intro a I J A B hs
  obtain ⟨h, t, h1, h2, h3, h4, h5, h6, h7, h8, h9, h10, h11, h12, h13, h14, h15⟩ := id hs
  obtain ⟨k, q, ts, g1, g2, g3, g4, g5, g6, g7⟩ := id h8
  refine pe_isLetterX (fun hw => ?_) (fun hw => ?_)
  · obtain ⟨x, hx, rfl⟩ := hw
    have hc : (nI x).toNatClampNeg = x := nI_clamp (by omega)
    have hwx : isW 8 (nI x) := ⟨x, hx, rfl⟩
    have hb6 : ∀ l, l < 8 → A 6 l = nI (seB t l) := fun l hl => by have := h6.1 l hl; rwa [Nat.zero_add] at this
    have hle : seB t x ≤ 12 := Nat.le_trans (sm_le _ hx) h2.1
    have ex : I 18 (nI x).toNatClampNeg = nI (seB t x) := by rw [hc]; exact h5.1 x hx
    have ex2 : A 6 (nI x).toNatClampNeg = nI (seB t x) := by rw [hc]; exact hb6 x hx
    refine ⟨fun _ => ⟨vp_in_nI hx (by decide), fun c => ?_, fun c => ?_⟩, fun c => absurd c (by decide)⟩
    · have hp : 0 < seB t x := by
        rcases Nat.eq_zero_or_pos (seB t x) with z | z
        · rw [ex, z] at c; exact absurd rfl c
        · exact z
      have hsum : sm (seB (chg 1 x 0 t)) 8 + 1 = sm (seB t) 8 := by
        have := sm_dec (seB t) hp 8
        rw [if_pos hx] at this; exact this
      refine ⟨fun c => absurd c (by decide), fun _ => ⟨fun _ => ⟨vp_in_nI hx (by decide), vp_in_nI hx (by decide), ?_⟩, fun c => absurd rfl c⟩⟩
      rintro I49 rfl I5 rfl I2 rfl I7 rfl
      refine pe_noteX (k := k) g1 g3 ?_
      have hbag : ∀ l, l < 8 → upd (I 18) (nI x).toNatClampNeg (I 18 (nI x).toNatClampNeg - 1) l = nI (seB (chg 1 x 0 t) l) := fun l hl => by
        show _ = nI (if l = x then seB t l - 1 else seB t l)
        rw [ex, hc]
        by_cases e : l = x
        · subst e; rw [upd_s rfl, if_pos rfl, show (1 : Int32) = nI 1 from rfl, pk_sub hp]
        · rw [upd_n e, if_neg e]; exact h5.1 l hl
      refine pe_letters (k := 17) (f := seB (chg 1 x 0 t)) hbag ?_
      refine pe_isLetterM (fun _ => ?_) (fun c => absurd hwx c)
      refine ⟨fun _ => ⟨vp_in_nI (by omega) (by decide), fun c => ?_, fun c => ?_⟩, fun c => absurd c (by decide)⟩
      · refine pe_noteM (k := k) (q := q) g1 g2 g4 g5 ?_
        refine ⟨vp_in_nI (by omega) (by decide), vp_in_nI (by omega) (by decide), ?_⟩
        rintro I37 rfl
        have hrow : ∀ l, l < 8 → upd (A 6) (nI x).toNatClampNeg (A 6 (nI x).toNatClampNeg - 1) l = nI (seB (chg 1 x 0 t) l) := fun l hl => by
          show _ = nI (if l = x then seB t l - 1 else seB t l)
          rw [ex2, hc]
          by_cases e : l = x
          · subst e; rw [upd_s rfl, if_pos rfl, show (1 : Int32) = nI 1 from rfl, pk_sub hp]
          · rw [upd_n e, if_neg e]; exact hb6 l hl
        refine pe_bagOf (f := seB (chg 1 x 0 t)) hrow ?_
        refine ⟨rfl, h, chg 1 x 0 t, h1, ⟨by have := h2.1; omega, h2.2⟩, h3, h4, ⟨hbag, h5.2⟩, ⟨fun l hl => by rw [Nat.zero_add]; exact hrow l hl, ?_⟩, h7, ?_, h9, h10, h11, h12, h13, h14, Or.inl rfl, Or.inl rfl, Or.inl rfl⟩
        · have hu : ∀ j, 8 ≤ j → upd (A 6) (nI x).toNatClampNeg (A 6 (nI x).toNatClampNeg - 1) j = A 6 j := fun j hj => by rw [hc]; exact upd_n (by omega)
          obtain ⟨-, r2, r3, r4, r5, r6⟩ := h6
          exact ⟨fun u hu9 => (hu _ (by omega)).trans (r2 u hu9), fun z hz => (hu _ (by omega)).trans (r3 z hz), (hu _ (by omega)).trans r4, (hu _ (by omega)).trans r5, (hu _ (by omega)).trans r6⟩
        · exact S_do_push (a1 := 0) (x1 := x) (d1 := 0) h1 h8 g3 g1 g5 g2 h2 h6 ⟨by decide, fun _ => hx, fun c => absurd c (by decide), fun c => absurd c (by decide), fun c => absurd c (by decide), fun c => absurd c (by decide)⟩ (fun c => absurd c (by decide)) (chg_take_put hp)
      · rw [ex2] at c; exact absurd ((nI_eq (b := 0) (by omega) (by decide)).mp c) (by omega)
    · rw [ex] at c
      have hz : seB t x = 0 := (nI_eq (b := 0) (by omega) (by decide)).mp c
      refine pe_isLetterM (fun _ => ?_) (fun c => absurd hwx c)
      exact ⟨fun _ => ⟨vp_in_nI (by omega) (by decide), fun c => absurd (by rw [ex2, hz]; rfl) c, fun c => ⟨rfl, hs⟩⟩, fun c => absurd c (by decide)⟩
  · refine ⟨fun c => absurd rfl c, fun _ => pe_isLetterM (fun c => absurd c hw) (fun _ => ⟨fun c => absurd rfl c, fun _ => ⟨rfl, hs⟩⟩)⟩
