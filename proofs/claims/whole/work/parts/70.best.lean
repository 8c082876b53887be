/-! ===== the best: 0 is none, n + 1 a worth of n ===== -/
def mx (f : Nat → Nat) : Nat → Nat
  | 0 => 0
  | n + 1 => max (mx f n) (f n)
def up (c r : Nat) : Nat := if c = 0 then 0 else c + r
def Bf (h : Ho) (t : Se) : Nat → Nat → Nat → Nat
  | 0, p, a => if p = 0 then eb t a else 0
  | n + 1, p, a => if p = 0 then eb t a else mx (fun w => if may h t (okB t) p a w then up (Bf h t n (p - pr h t w) (hoK h w)) (seR t w) else 0) (hoW h)
def bw (h : Ho) (t : Se) (p a : Nat) : Nat := Bf h t p p a
theorem mx_congr {f g : Nat → Nat} {n : Nat} (h : ∀ l, l < n → f l = g l) : mx f n = mx g n := by
  induction n with
  | zero => rfl
  | succ n ih => show max (mx f n) (f n) = max (mx g n) (g n); rw [ih (fun l hl => h l (by omega)), h n (by omega)]
theorem mx_le {f : Nat → Nat} {n c : Nat} (h : ∀ l, l < n → f l ≤ c) : mx f n ≤ c := by
  induction n with
  | zero => exact Nat.zero_le _
  | succ n ih => exact Nat.max_le.mpr ⟨ih (fun l hl => h l (by omega)), h n (by omega)⟩
theorem mx_ge {f : Nat → Nat} {n l : Nat} (h : l < n) : f l ≤ mx f n := by
  induction n with
  | zero => omega
  | succ n ih =>
    rcases Nat.lt_or_ge l n with q | q
    · exact Nat.le_trans (ih q) (Nat.le_max_left _ _)
    · rw [show l = n by omega]; exact Nat.le_max_right _ _
theorem mx_at {f : Nat → Nat} {n : Nat} (h : 0 < mx f n) : ∃ l, l < n ∧ f l = mx f n := by
  induction n with
  | zero => exact absurd h (Nat.lt_irrefl 0)
  | succ n ih =>
    show ∃ l, l < n + 1 ∧ f l = max (mx f n) (f n)
    have h2 : 0 < max (mx f n) (f n) := h
    rcases Nat.le_total (mx f n) (f n) with q | q
    · exact ⟨n, Nat.lt_succ_self n, by rw [Nat.max_eq_right q]⟩
    · rw [Nat.max_eq_left q] at h2 ⊢
      obtain ⟨l, hl, e⟩ := ih h2
      exact ⟨l, by omega, e⟩
theorem mx_max (u v : Nat → Nat) (s : Nat) : mx (fun k => max (u k) (v k)) s = max (mx u s) (mx v s) := by
  induction s with
  | zero => rfl
  | succ s ih => show max (mx (fun k => max (u k) (v k)) s) (max (u s) (v s)) = max (max (mx u s) (u s)) (max (mx v s) (v s)); rw [ih]; omega
theorem Bf_st {h : Ho} {t : Se} (h1 : hoOK h) : ∀ (n m p a : Nat), p ≤ n → p ≤ m → p ≤ tp t → Bf h t n p a = Bf h t m p a := by
  intro n
  induction n with
  | zero =>
    intro m p a hn hm hp
    obtain rfl : p = 0 := by omega
    cases m with
    | zero => rfl
    | succ m => rfl
  | succ n ih =>
    intro m p a hn hm hp
    by_cases hp0 : p = 0
    · subst hp0
      cases m with
      | zero => rfl
      | succ m => rfl
    · obtain ⟨m, rfl⟩ : ∃ k, m = k + 1 := ⟨m - 1, by omega⟩
      show (if p = 0 then eb t a else _) = (if p = 0 then eb t a else _)
      rw [if_neg hp0, if_neg hp0]
      refine mx_congr (fun w hw => ?_)
      by_cases hm2 : may h t (okB t) p a w = true
      · rw [if_pos hm2, if_pos hm2]
        obtain ⟨f1, f2, f3, f4⟩ := fit_step h1 hw hp (may_iff.mp hm2).2.2
        rw [ih m _ _ (by omega) (by omega) (by omega)]
      · rw [if_neg hm2, if_neg hm2]
theorem bw_0 {h : Ho} {t : Se} (a : Nat) : bw h t 0 a = eb t a := by
  show (if (0 : Nat) = 0 then eb t a else 0) = eb t a; rw [if_pos rfl]
def bt1 (h : Ho) (t : Se) (p a w : Nat) : Nat := if may h t (okB t) p a w then up (bw h t (p - pr h t w) (hoK h w)) (seR t w) else 0
theorem bw_p {h : Ho} {t : Se} (h1 : hoOK h) {p a : Nat} (h0 : 0 < p) (hp : p ≤ tp t) : bw h t p a = mx (bt1 h t p a) (hoW h) := by
  obtain ⟨q, rfl⟩ : ∃ q, p = q + 1 := ⟨p - 1, by omega⟩
  show (if q + 1 = 0 then eb t a else _) = _
  rw [if_neg (by omega)]
  refine mx_congr (fun w hw => ?_)
  unfold bt1
  by_cases hm2 : may h t (okB t) (q + 1) a w = true
  · rw [if_pos hm2, if_pos hm2]
    obtain ⟨f1, f2, f3, f4⟩ := fit_step h1 hw hp (may_iff.mp hm2).2.2
    unfold bw
    rw [Bf_st h1 q (q + 1 - pr h t w) _ _ (by omega) (Nat.le_refl _) (by omega)]
  · rw [if_neg hm2, if_neg hm2]
theorem bw_le {h : Ho} {t : Se} (h1 : hoOK h) (h2 : seOK h t) : ∀ (n p a : Nat), p ≤ n → p ≤ tp t → bw h t p a ≤ 1 + 9 * sm (dg (seB t) p) 8 := by
  intro n
  induction n with
  | zero =>
    intro p a hn hp
    obtain rfl : p = 0 := by omega
    rw [bw_0]; have := eb_le t a; omega
  | succ n ih =>
    intro p a hn hp
    rcases Nat.eq_zero_or_pos p with hp0 | hp0
    · subst hp0; rw [bw_0]; have := eb_le t a; omega
    · rw [bw_p h1 hp0 hp]
      refine mx_le (fun w hw => ?_)
      unfold bt1
      by_cases hm2 : may h t (okB t) p a w = true
      · rw [if_pos hm2]
        obtain ⟨f1, f2, f3, f4⟩ := fit_step h1 hw hp (may_iff.mp hm2).2.2
        have hz := (h1.2 w hw).2.1
        have hr := h2.2.1 w hw
        have := ih (p - pr h t w) (hoK h w) (by omega) (by omega)
        unfold up; split <;> omega
      · rw [if_neg hm2]; exact Nat.zero_le _
theorem bw_small {h : Ho} {t : Se} (h1 : hoOK h) (h2 : seOK h t) {p : Nat} (hp : p ≤ tp t) (a : Nat) : bw h t p a ≤ 109 := by
  have h3 : sm (dg (seB t) p) 8 ≤ sm (seB t) 8 := sm_mono (fun i _ => dg_le _ _ _)
  have := bw_le h1 h2 p p a (Nat.le_refl _) hp
  have := h2.1
  omega
/-! as the class holds it: a long, one less -/
def eB (c : Nat) : Int64 := lN c - 1
theorem eB_toInt {c : Nat} (hc : c < 2 ^ 31) : (eB c).toInt = (c : Int) - 1 := by
  rcases Nat.eq_zero_or_pos c with q | q
  · subst q; decide
  · unfold eB; rw [show (1 : Int64) = lN 1 from rfl, lN_sub q, pk_lT (by omega)]; omega
theorem eB_lt {a b : Nat} (ha : a < 2 ^ 31) (hb : b < 2 ^ 31) : eB a < eB b ↔ a < b := by
  rw [Int64.lt_iff_toInt_lt, eB_toInt ha, eB_toInt hb]; omega
theorem eB_nn {c : Nat} (hc : c < 2 ^ 31) : (0 : Int64) ≤ eB c ↔ 0 < c := by
  rw [Int64.le_iff_toInt_le, eB_toInt hc]; show (0 : Int) ≤ _ ↔ _; omega
theorem eB_neg {c : Nat} (hc : c < 2 ^ 31) : eB c < (0 : Int64) ↔ c = 0 := by
  rw [Int64.lt_iff_toInt_lt, eB_toInt hc]; show _ < (0 : Int) ↔ _; omega
theorem eB_add (c r : Nat) : eB c + lN r = eB (c + r) := by
  unfold eB; rw [← lN_add, Int64.sub_eq_add_neg, Int64.sub_eq_add_neg, Int64.add_assoc, Int64.add_comm (-1), ← Int64.add_assoc]
def jnB (x y : Int64) : Int64 := if y < x then x else y
def wtB (R : Nat → Int32) (x y : Int64) (u : Nat) : Int64 := if 0 ≤ y then (if y + (R u).toInt64 < x then x else y + (R u).toInt64) else x
theorem jnB_d (x y : Int64) : jnB x y = if y < x then x else y := rfl
theorem wtB_d (R : Nat → Int32) (x y : Int64) (u : Nat) : wtB R x y u = if 0 ≤ y then (if y + (R u).toInt64 < x then x else y + (R u).toInt64) else x := rfl
theorem WayOK_54 {N : Nat} (hN : N ≤ 10) (R : Nat → Int32) (S : Nat → Int64) : WayOK 54 (-1) 0 jnB (wtB R) N R S := fun I J e19 _ =>
  ⟨fun Q q => ⟨fun e => absurd e (by decide), fun _ => q, fun e => absurd e (by decide)⟩, fun Q q => ⟨fun e => absurd e (by decide), fun _ => q, fun e => absurd e (by decide)⟩, fun x y Q q => ⟨fun e => absurd e (by decide), fun _ => q, fun e => absurd e (by decide)⟩, fun x y u Q hu q => ⟨fun e => absurd e (by decide), fun _ => ⟨fun c => ⟨vp_in_nI (by omega) (by decide), by rw [wtB_d, if_pos c] at q; rw [nI_clamp (by omega), e19]; exact q⟩, fun c => by rw [wtB_d, if_neg c] at q; exact q⟩, fun e => absurd e (by decide)⟩⟩
theorem hd_wth {op : Nat → Bool} {K : Nat → Nat} {R : Nat → Int32} {rk : Nat → Nat} {G : Nat → Int64} {g : Nat → Nat} {k : Nat} (n : Nat) (hR : ∀ u, u < n → R u = nI (rk u) ∧ rk u ≤ 9) (hg : ∀ u, u < n → op u = true → G u = eB (g u) ∧ g u ≤ 109) : hd (wtB R) (-1) op K G k n = eB (mx (fun u => if op u && decide (K u = k) then up (g u) (rk u) else 0) n) ∧ mx (fun u => if op u && decide (K u = k) then up (g u) (rk u) else 0) n ≤ 118 := by
  induction n with
  | zero => exact ⟨(by decide : (-1 : Int64) = eB 0), Nat.zero_le _⟩
  | succ n ih =>
    obtain ⟨i1, i2⟩ := ih (fun u hu => hR u (by omega)) (fun u hu => hg u (by omega))
    obtain ⟨r1, r2⟩ := hR n (by omega)
    show (if op n && decide (K n = k) then _ else hd _ (-1) op K G k n) = eB (max (mx (fun u => if op u && decide (K u = k) then up (g u) (rk u) else 0) n) (if op n && decide (K n = k) then up (g n) (rk n) else 0)) ∧ max (mx (fun u => if op u && decide (K u = k) then up (g u) (rk u) else 0) n) (if op n && decide (K n = k) then up (g n) (rk n) else 0) ≤ 118
    by_cases hb : (op n && decide (K n = k)) = true
    · obtain ⟨g1, g2⟩ := hg n (by omega) (Bool.and_eq_true _ _ ▸ hb).1
      rw [if_pos hb, if_pos hb, wtB_d, i1, g1, r1, nI_l (by omega)]
      generalize mx (fun u => if op u && decide (K u = k) then up (g u) (rk u) else 0) n = M at i2 ⊢
      unfold up
      by_cases h0 : g n = 0
      · rw [if_neg (by rw [eB_nn (by omega)]; omega), if_pos h0, Nat.max_eq_left (Nat.zero_le _)]; exact ⟨rfl, i2⟩
      · rw [if_pos ((eB_nn (by omega)).mpr (by omega)), if_neg h0, eB_add]
        by_cases hlt : g n + rk n < M
        · rw [if_pos ((eB_lt (by omega) (by omega)).mpr hlt), Nat.max_eq_left (Nat.le_of_lt hlt)]; exact ⟨rfl, i2⟩
        · rw [if_neg (mt (eB_lt (by omega) (by omega)).mp hlt), Nat.max_eq_right (by omega)]; exact ⟨rfl, by omega⟩
    · rw [if_neg hb, if_neg hb, Nat.max_eq_left (Nat.zero_le _)]; exact ⟨i1, i2⟩
theorem hs_wth {m : Nat} {F : Nat → Int64} {f : Nat → Nat} (n : Nat) (hF : ∀ k, k < n → F k = eB (f k) ∧ f k ≤ 118) : hs jnB (-1) m F n = eB (mx (fun k => if m.testBit k then f k else 0) n) ∧ mx (fun k => if m.testBit k then f k else 0) n ≤ 118 := by
  induction n with
  | zero => exact ⟨(by decide : (-1 : Int64) = eB 0), Nat.zero_le _⟩
  | succ n ih =>
    obtain ⟨i1, i2⟩ := ih (fun u hu => hF u (by omega))
    obtain ⟨r1, r2⟩ := hF n (by omega)
    show (if m.testBit n then _ else hs _ (-1) m F n) = eB (max (mx (fun k => if m.testBit k then f k else 0) n) (if m.testBit n then f n else 0)) ∧ max (mx (fun k => if m.testBit k then f k else 0) n) (if m.testBit n then f n else 0) ≤ 118
    by_cases hb : m.testBit n = true
    · rw [if_pos hb, if_pos hb, jnB_d, i1, r1]
      by_cases hlt : f n < mx (fun k => if m.testBit k then f k else 0) n
      · rw [if_pos ((eB_lt (by omega) (by omega)).mpr hlt), Nat.max_eq_left (Nat.le_of_lt hlt)]; exact ⟨rfl, i2⟩
      · rw [if_neg (mt (eB_lt (by omega) (by omega)).mp hlt), Nat.max_eq_right (by omega)]; exact ⟨rfl, r2⟩
    · rw [if_neg hb, if_neg hb, Nat.max_eq_left (Nat.zero_le _)]; exact ⟨i1, i2⟩
theorem regroupM {op : Nat → Bool} {K g : Nat → Nat} {m : Nat} (n : Nat) (hK : ∀ u, u < n → K u < 4) : mx (fun k => if m.testBit k then mx (fun u => if op u && decide (K u = k) then g u else 0) n else 0) 4 = mx (fun u => if op u && m.testBit (K u) then g u else 0) n := by
  induction n with
  | zero =>
    show mx (fun k => if m.testBit k then 0 else 0) 4 = 0
    have : ∀ k, (if m.testBit k then 0 else 0) = 0 := fun k => by split <;> rfl
    rw [show (fun k => if m.testBit k then 0 else 0) = fun _ => 0 from funext this]; rfl
  | succ n ih =>
    rw [show mx (fun u => if op u && m.testBit (K u) then g u else 0) (n + 1) = max (mx (fun u => if op u && m.testBit (K u) then g u else 0) n) (if op n && m.testBit (K n) then g n else 0) from rfl, ← ih (fun u hu => hK u (by omega))]
    have e : ∀ k, (if m.testBit k then mx (fun u => if op u && decide (K u = k) then g u else 0) (n + 1) else 0) = max (if m.testBit k then mx (fun u => if op u && decide (K u = k) then g u else 0) n else 0) (if m.testBit k && (op n && decide (K n = k)) then g n else 0) := fun k => by
      by_cases hb : m.testBit k = true
      · rw [if_pos hb, if_pos hb, hb, Bool.true_and]; rfl
      · rw [if_neg hb, if_neg hb]
        rw [Bool.not_eq_true] at hb
        rw [hb, Bool.false_and]; rfl
    rw [show (fun k => if m.testBit k then mx (fun u => if op u && decide (K u = k) then g u else 0) (n + 1) else 0) = _ from funext e, mx_max]
    congr 1
    have hk := hK n (by omega)
    generalize K n = x at *
    generalize op n = b
    generalize g n = y
    show max (max (max (max 0 _) _) _) _ = _
    rcases (show x = 0 ∨ x = 1 ∨ x = 2 ∨ x = 3 by omega) with rfl | rfl | rfl | rfl <;> cases b <;> simp
theorem op_mx {h : Ho} {t : Se} {p a : Nat} {op : Nat → Nat → Bool} (hop : ∀ p u, op p u = true ↔ (1023 : Nat).testBit u = true ∧ Op h t p u) (h1 : hoOK h) (hr : Rc h t p a) : mx (fun u => if op p u && (msk t a).testBit (hoK h u) then up (bw h t (p - pr h t u) (hoK h u)) (seR t u) else 0) (hoW h) = mx (bt1 h t p a) (hoW h) := by
  have hw10 := h1.1
  refine mx_congr (fun u hu => ?_)
  have h10 : (1023 : Nat).testBit u = true := by
    have : ∀ w : Fin 10, (1023 : Nat).testBit w.val = true := by decide
    exact this ⟨u, by omega⟩
  unfold bt1
  by_cases hm : may h t (okB t) p a u = true
  · rw [if_pos hm]
    obtain ⟨m1, m2, m3⟩ := may_iff.mp hm
    by_cases he : p - pr h t u = 0 → (seE t).testBit (hoK h u) = true
    · have : op p u = true := (hop p u).mpr ⟨h10, a, hr, hm, he⟩
      rw [this, m2]; rfl
    · have e0 : p - pr h t u = 0 ∧ (seE t).testBit (hoK h u) = false := by
        by_cases e0 : p - pr h t u = 0
        · refine ⟨e0, ?_⟩
          cases hb : (seE t).testBit (hoK h u) with
          | false => rfl
          | true => exact absurd (fun _ => hb) he
        · exact absurd (fun q => absurd q e0) he
      have : up (bw h t (p - pr h t u) (hoK h u)) (seR t u) = 0 := by
        rw [e0.1, bw_0]; unfold eb; rw [e0.2]; rfl
      rw [this]; split <;> rfl
  · rw [if_neg hm, if_neg]
    intro hb
    rw [Bool.and_eq_true] at hb
    obtain ⟨b1, b2⟩ := (hop p u).mp hb.1
    obtain ⟨q1, q2, q3⟩ := Op_fit b2
    exact hm (may_iff.mpr ⟨q1, hb.2, q2⟩)
/-- ground and fold of worths -/
theorem pe_foldB {h : Ho} {t : Se} {I : MI} {J : MJ} {Q : Int64 → MI → MJ → Prop} (h1 : hoOK h) (h2 : seOK h t) (hX : CX I J h t) (hP : Ph I J h t) (h14 : S_sw (I 39 8) (I 39 9)) (hQ : ∀ J' : MJ, (∀ c, c ≠ 53 → c ≠ 44 → c ≠ 45 → J' c = J c) → Ph I J' h t → TlOK (J' (sw (I 39 8))) (fun p a => eB (bw h t p a)) h t → Q (eB (bw h t (tp t) 4)) I J') : P_X6_foldWithin 54 (1023 : Int32) I J Q := by
  have hw10 := h1.1
  have hE := h2.2.2.2.2.1
  obtain ⟨s1, s2, s3⟩ := sw_of h14
  refine pe_ground (WayOK_54 hw10 _ _) (by omega) hX.2.2.2.2.2.1 hE (fun J1 g1 g2 g3 => ?_)
  obtain ⟨op, hop⟩ := opEx h t 1023
  have e0 : ∀ a, a < 4 → J1 (sw (I 39 8)) a = eB (bw h t 0 a) := fun a ha => by
    rw [g2 a ha, bw_0]; unfold eb; split <;> decide
  have hval : ∀ p a, 0 < p → p ≤ tp t → Rc h t p a → hs jnB (-1) (msk t a) (fun k => hd (wtB (I 19)) (-1) (op p) (hoK h) (fun u => eB (bw h t (p - pr h t u) (hoK h u))) k (hoW h)) 4 = eB (bw h t p a) := fun p a hp0 hp hr => by
    have hd1 := fun k => hd_wth (op := op p) (K := hoK h) (R := I 19) (rk := seR t) (G := fun u => eB (bw h t (p - pr h t u) (hoK h u))) (g := fun u => bw h t (p - pr h t u) (hoK h u)) (k := k) (hoW h) (fun u hu => ⟨hX.2.2.1 u hu, h2.2.1 u hu⟩) (fun u hu _ => ⟨rfl, bw_small h1 h2 (by omega) _⟩)
    rw [(hs_wth 4 (fun k _ => hd1 k)).1, regroupM (g := fun u => up (bw h t (p - pr h t u) (hoK h u)) (seR t u)) (hoW h) (fun u hu => (h1.2 u hu).1), op_mx hop h1 hr, ← bw_p h1 hp0 hp]
  refine pe_fold (G := fun p a => eB (bw h t p a)) (F := fun p a => eB (bw h t p a)) (op := op) (al := 1023) h1 h2 ⟨hX.1.1, hX.1.2.1, fun u hu => by rw [g1 15 (by omega)]; exact hX.1.2.2 u hu⟩ hX.2 hP.1 (by rw [g1 57 (by omega)]; exact WayOK_54 hw10 _ _) (by omega) (by omega) (by omega) (by omega) (by decide) (fun p u _ _ _ => hop p u) (fun q a ha hr hq => ?_) (fun _ => rfl) (fun p a hp0 ha hr => (hval p a hp0 (by have := Rc_le h1 hr; omega) hr).symm) (fun J2 f1 f2 f3 => ?_)
  · rcases hq with q1 | q1
    · exact absurd rfl q1
    · subst q1; rw [Nat.zero_mul, Nat.zero_add]; exact e0 a ha
  · have hv : (if 0 < tp t then hs jnB (-1) (seG t) (fun k => hd (wtB (I 19)) (-1) (op (tp t)) (hoK h) (fun u => eB (bw h t (tp t - pr h t u) (hoK h u))) k (hoW h)) 4 else -1) = eB (bw h t (tp t) 4) := by
      by_cases ht : 0 < tp t
      · rw [if_pos ht, ← hval (tp t) 4 ht (Nat.le_refl _) (Rc_top h t)]; rfl
      · rw [if_neg ht, show tp t = 0 by omega, bw_0]; unfold eb
        rw [Nat.testBit_lt_two_pow (i := 4) (by omega)]; decide
    rw [hv]
    refine hQ J2 (fun c c1 c2 c3 => (f1 c c1 (by omega)).trans (g1 c (by omega))) ?_ (fun p a ha hr => ?_)
    · show PhOK _ _ _ _ _ _ (J2 39) (J2 41) (J2 42) h t
      rw [f1 39 (by omega) (by omega), f1 41 (by omega) (by omega), f1 42 (by omega) (by omega), g1 39 (by omega), g1 41 (by omega), g1 42 (by omega)]
      exact hP
    · rcases Nat.eq_zero_or_pos p with q | q
      · subst q; rw [Nat.zero_mul, Nat.zero_add, f3 a ha]; exact e0 a ha
      · exact f2 p a ha hr q
