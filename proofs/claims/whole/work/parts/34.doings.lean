/-! the class's note -/
theorem cl_1 : (1 : Int32).toNatClampNeg = 1 := by decide
theorem cl_0 : (0 : Int32).toNatClampNeg = 0 := by decide
theorem cl_13 : (13 : Int32).toNatClampNeg = 13 := by decide
/-- a row of 14: pushed behind, or the first forgotten -/
def psh (f : Nat → Int32) (k : Nat) (x : Int32) : Nat → Int32 := if k < 14 then upd f k x else upd (va_cpy f f 1 0 13) 13 x
theorem psh_last {f : Nat → Int32} {k : Nat} {x : Int32} (hk : k ≤ 14) : psh f k x (if k < 14 then k else 13) = x := by
  unfold psh; by_cases h : k < 14
  · rw [if_pos h, if_pos h]; exact upd_s rfl
  · rw [if_neg h, if_neg h]; exact upd_s rfl
theorem psh_lt {f : Nat → Int32} {k i : Nat} {x : Int32} (hk : k < 14) (hi : i < k) : psh f k x i = f i := by
  unfold psh; rw [if_pos hk]; exact upd_n (by omega)
theorem psh_14 {f : Nat → Int32} {i : Nat} {x : Int32} (hi : i < 13) : psh f 14 x i = f (i + 1) := by
  unfold psh; rw [if_neg (by omega), upd_n (by omega), pk_cpy_in (by omega) (by omega)]; congr 1; omega
theorem pe_noteX {k : Nat} {a0 a1 a2 : Int32} {I : MI} {J : MJ} {Q : MI → MJ → Prop} (hk : k ≤ 14) (e : I 35 3 = nI k)
    (hQ : Q (wI (wI (wI (wI I 36 (psh (I 36) k a0)) 37 (psh (I 37) k a1)) 38 (psh (I 38) k a2)) 35 (upd (I 35) 3 (nI (if k < 14 then k + 1 else 14)))) J) : P_X2_note a0 a1 a2 I J Q := by
  rcases Nat.lt_or_ge k 14 with h | h
  · refine ⟨fun _ => ?_, fun c => absurd ((lt_nI (n := 14) e (by omega) (by decide)).mpr h) c⟩
    have hin : vp_in (I 35 3) 14 := by rw [e]; exact vp_in_nI h (by decide)
    refine ⟨hin, ?_⟩
    rintro I1 rfl
    refine ⟨hin, ?_⟩
    rintro I2 rfl
    refine ⟨hin, ?_⟩
    rintro I3 rfl I4 rfl
    have e1 : (I 35 3).toNatClampNeg = k := by rw [e]; exact nI_clamp (by omega)
    have e2 : I 35 3 + 1 = nI (k + 1) := by rw [e, nI_1]
    rw [if_pos h] at hQ
    unfold psh at hQ
    rw [if_pos h, if_pos h, if_pos h] at hQ
    have e3 : mI (mI (mI (mI I 36 (I 35 3).toNatClampNeg a0) 37 (I 35 3).toNatClampNeg a1) 38 (I 35 3).toNatClampNeg a2) 35 3 (I 35 3 + 1) = wI (wI (wI (wI I 36 (upd (I 36) k a0)) 37 (upd (I 37) k a1)) 38 (upd (I 38) k a2)) 35 (upd (I 35) 3 (nI (k + 1))) := by
      rw [e1, e2]; rfl
    exact e3 ▸ hQ
  · obtain rfl : k = 14 := by omega
    refine ⟨fun c => absurd ((lt_nI (n := 14) e (by omega) (by decide)).mp c) (by omega), fun _ => ?_⟩
    rintro I3 rfl
    have hc : (¬ (1 : Int32) < 0 ∧ ¬ (0 : Int32) < 0 ∧ ¬ (13 : Int32) < 0 ∧ (1 : Int32).toNatClampNeg + (13 : Int32).toNatClampNeg ≤ 14 ∧ (0 : Int32).toNatClampNeg + (13 : Int32).toNatClampNeg ≤ 14) := by decide
    refine ⟨hc, ?_⟩
    rintro I20 rfl
    refine ⟨hc, ?_⟩
    rintro I37 rfl
    refine ⟨hc, ?_⟩
    rintro I54 rfl
    have hin : vp_in (13 : Int32) 14 := vp_in_nI (n := 13) (by decide) (by decide)
    refine ⟨hin, ?_⟩
    rintro I1 rfl
    refine ⟨hin, ?_⟩
    rintro I2 rfl
    refine ⟨hin, ?_⟩
    rintro I3 rfl I4 rfl
    have e9 : ∀ M : MI, M = wI (wI (wI (wI I 36 (psh (I 36) 14 a0)) 37 (psh (I 37) 14 a1)) 38 (psh (I 38) 14 a2)) 35 (upd (I 35) 3 (nI 14)) → Q M J := fun M hM => hM ▸ hQ
    apply e9
    funext x
    by_cases h35 : x = 35
    · subst h35
      show upd (upd (I 35) 3 13) 3 (13 + 1) = upd (I 35) 3 (nI 14)
      funext j; unfold upd; by_cases hj : j = 3 <;> simp [hj]; rfl
    · by_cases h36 : x = 36
      · subst h36; rfl
      · by_cases h37 : x = 37
        · subst h37; rfl
        · by_cases h38 : x = 38
          · subst h38; rfl
          · simp [mI, wI, h35, h36, h37, h38]
theorem rowM_cp {A D : Nat → Int32} {q j : Nat} {h : Ho} {t : Se} (hh : hoOK h) (hj : j ≠ q) (hr : rowM D (25 * j) h t) : rowM (cp25 A D (25 * q) 25) (25 * j) h t := by
  have hr0 : ∀ i, i < 25 → cp25 A D (25 * q) 25 (25 * j + i) = D (25 * j + i) := fun i hi => by
    unfold cp25; rw [if_neg (by omega)]
  obtain ⟨r1, r2, r3, r4, r5, r6⟩ := hr
  have hw := hh.1
  refine ⟨fun l hl => by rw [hr0 l (by omega)]; exact r1 l hl, fun u hu => ?_, fun z hz => ?_, ?_, ?_, ?_⟩
  · have := r2 u hu
    rw [Nat.add_assoc] at this ⊢; rw [hr0 (9 + u) (by omega)]; exact this
  · have := r3 z hz
    rw [Nat.add_assoc] at this ⊢; rw [hr0 (21 + z) (by omega)]; exact this
  · rw [hr0 19 (by omega)]; exact r4
  · rw [hr0 20 (by omega)]; exact r5
  · rw [hr0 8 (by omega)]; exact r6
theorem rowM_new {A D : Nat → Int32} {q : Nat} {h : Ho} {t : Se} (hh : hoOK h) (hA : rowM A 0 h t) : rowM (cp25 A D (25 * q) 25) (25 * q) h t := by
  have hr : ∀ j, j < 25 → cp25 A D (25 * q) 25 (25 * q + j) = A (0 + j) := fun j hj => by
    unfold cp25; rw [if_pos (by omega)]; congr 1; omega
  obtain ⟨r1, r2, r3, r4, r5, r6⟩ := hA
  have hw := hh.1
  refine ⟨fun l hl => by rw [hr l (by omega)]; exact r1 l hl, fun u hu => ?_, fun z hz => ?_, ?_, ?_, ?_⟩
  · have := r2 u hu
    rw [Nat.add_assoc] at this ⊢; rw [hr (9 + u) (by omega)]; exact this
  · have := r3 z hz
    rw [Nat.add_assoc] at this ⊢; rw [hr (21 + z) (by omega)]; exact this
  · rw [hr 19 (by omega)]; exact r4
  · rw [hr 20 (by omega)]; exact r5
  · rw [hr 8 (by omega)]; exact r6
/-- a doing more: the row of what undoes, and the ring -/
theorem S_do_push {n n2 nx : Int32} {a x d D A : Nat → Int32} {h : Ho} {t t2 : Se} {k q a1 x1 d1 : Nat} (hh : hoOK h) (hs : S_do n n2 nx a x d D h t) (e1 : n = nI k) (hk : k ≤ 14) (eq : nx = nI q) (hq : q < 14) (ht : seOK h t) (hA : rowM A 0 h t) (ha : actOK h a1 x1 d1) (hpos : a1 = 1 → 0 < seB t2 x1) (hch : chg a1 x1 d1 t2 = t) :
    S_do (nI (if k < 14 then k + 1 else 14)) (nI (if k < 14 then k + 1 else 14)) (nI ((q + 1) % 14)) (psh a k (nI a1)) (psh x k (nI x1)) (psh d k (nI d1)) (cp25 A D (25 * q) 25) h t2 := by
  obtain ⟨k0, q0, ts, g1, g2, g3, g4, g5, g6, g7⟩ := hs
  obtain rfl : k0 = k := (nI_eq (by omega) (by omega)).mp (g3.symm.trans e1)
  obtain rfl : q0 = q := (nI_eq (by omega) (by omega)).mp (g5.symm.trans eq)
  rcases Nat.lt_or_ge k0 14 with hk2 | hk2
  · rw [if_pos hk2]
    refine ⟨k0 + 1, (q0 + 1) % 14, fun i => if i = k0 + 1 then t2 else ts i, hk2, Nat.mod_lt _ (by decide), rfl, rfl, rfl, if_pos rfl, fun i hi => ?_⟩
    have hi1 : (if i = k0 + 1 then t2 else ts i) = ts i := if_neg (by omega)
    dsimp only
    rw [hi1]
    rcases Nat.lt_or_ge i k0 with q1 | q1
    · obtain ⟨s1, s2, a2, x2, d2, s3, s4, s5, s6, s7, s8⟩ := g7 i q1
      have hj : ((q0 + 1) % 14 + 14 - (k0 + 1 - i)) % 14 = (q0 + 14 - (k0 - i)) % 14 := by omega
      have hi2 : (if i + 1 = k0 + 1 then t2 else ts (i + 1)) = ts (i + 1) := if_neg (by omega)
      rw [hj, hi2, psh_lt hk2 q1, psh_lt hk2 q1, psh_lt hk2 q1]
      exact ⟨s1, rowM_cp hh (by omega) s2, a2, x2, d2, s3, s4, s5, s6, s7, s8⟩
    · obtain rfl : i = k0 := by omega
      have hj : ((q0 + 1) % 14 + 14 - (i + 1 - i)) % 14 = q0 := by omega
      rw [hj, if_pos rfl, g6]
      have e9 : (if i < 14 then i else 13) = i := if_pos hk2
      have p1 := psh_last (f := a) (x := nI a1) (show i ≤ 14 by omega)
      have p2 := psh_last (f := x) (x := nI x1) (show i ≤ 14 by omega)
      have p3 := psh_last (f := d) (x := nI d1) (show i ≤ 14 by omega)
      rw [e9] at p1 p2 p3
      exact ⟨ht, rowM_new hh hA, a1, x1, d1, p1, p2, p3, ha, hpos, hch⟩
  · obtain rfl : k0 = 14 := by omega
    rw [if_neg (by omega)]
    refine ⟨14, (q0 + 1) % 14, fun i => if i = 14 then t2 else ts (i + 1), by decide, Nat.mod_lt _ (by decide), rfl, rfl, rfl, if_pos rfl, fun i hi => ?_⟩
    have hi1 : (if i = 14 then t2 else ts (i + 1)) = ts (i + 1) := if_neg (by omega)
    dsimp only
    rw [hi1]
    rcases Nat.lt_or_ge i 13 with q1 | q1
    · obtain ⟨s1, s2, a2, x2, d2, s3, s4, s5, s6, s7, s8⟩ := g7 (i + 1) (by omega)
      have hj : ((q0 + 1) % 14 + 14 - (14 - i)) % 14 = (q0 + 14 - (14 - (i + 1))) % 14 := by omega
      have hi2 : (if i + 1 = 14 then t2 else ts (i + 1 + 1)) = ts (i + 1 + 1) := if_neg (by omega)
      rw [hj, hi2, psh_14 q1, psh_14 q1, psh_14 q1]
      exact ⟨s1, rowM_cp hh (by omega) s2, a2, x2, d2, s3, s4, s5, s6, s7, s8⟩
    · obtain rfl : i = 13 := by omega
      have hj : ((q0 + 1) % 14 + 14 - (14 - 13)) % 14 = q0 := by omega
      rw [hj, if_pos rfl, g6]
      exact ⟨ht, rowM_new hh hA, a1, x1, d1, psh_last (f := a) (k := 14) (by omega), psh_last (f := x) (k := 14) (by omega), psh_last (f := d) (k := 14) (by omega), ha, hpos, hch⟩
