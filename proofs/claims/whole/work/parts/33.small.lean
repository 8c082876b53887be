theorem isW8 {a : Int32} {n : Nat} (hn : n < 2 ^ 31) (c : ¬ a < 0) (c2 : ¬ nI n ≤ a) : isW n a := by
  rw [isW_iff hn]; rw [lt0] at c; rw [Int32.le_iff_toInt_le, nI_toInt hn] at c2; omega
theorem not_isW {a : Int32} {n : Nat} (hn : n < 2 ^ 31) (c : a < 0 ∨ nI n ≤ a) : ¬ isW n a := by
  rw [isW_iff hn]; rw [lt0, Int32.le_iff_toInt_le, nI_toInt hn] at c; omega
theorem pe_isLetterX {a : Int32} {I : MI} {J : MJ} {Q : Int32 → MI → MJ → Prop} (h1 : isW 8 a → Q 1 I J) (h0 : ¬ isW 8 a → Q 0 I J) : P_X11_isLetter a I J Q :=
  ⟨fun c => h0 (not_isW (by decide) (Or.inl c)), fun c => ⟨fun c2 => h0 (not_isW (by decide) (Or.inr c2)), fun c2 => h1 (isW8 (by decide) c c2)⟩⟩
theorem pe_isKindX {a : Int32} {I : MI} {J : MJ} {Q : Int32 → MI → MJ → Prop} (h1 : isW 4 a → Q 1 I J) (h0 : ¬ isW 4 a → Q 0 I J) : P_X11_isKind a I J Q :=
  ⟨fun c => h0 (not_isW (by decide) (Or.inl c)), fun c => ⟨fun c2 => h0 (not_isW (by decide) (Or.inr c2)), fun c2 => h1 (isW8 (by decide) c c2)⟩⟩
theorem pe_isLetterM {a : Int32} {I : MI} {J : MJ} {Q : Int32 → MI → MJ → Prop} (h1 : isW 8 a → Q 1 I J) (h0 : ¬ isW 8 a → Q 0 I J) : P_X12_isLetter a I J Q :=
  pe_inI (p := 0) (q := 7) (by decide) (by decide) (fun c c2 => h1 ((isW_iff (by decide)).mpr ⟨c, by omega⟩)) (fun c => h0 (fun q => c (by rw [isW_iff (by decide)] at q; omega)))
theorem pe_isKindM {a : Int32} {I : MI} {J : MJ} {Q : Int32 → MI → MJ → Prop} (h1 : isW 4 a → Q 1 I J) (h0 : ¬ isW 4 a → Q 0 I J) : P_X12_isKind a I J Q :=
  pe_inI (p := 0) (q := 3) (by decide) (by decide) (fun c c2 => h1 ((isW_iff (by decide)).mpr ⟨c, by omega⟩)) (fun c => h0 (fun q => c (by rw [isW_iff (by decide)] at q; omega)))
theorem pe_letters {k : Nat} {f : Nat → Nat} {I : MI} {J : MJ} {Q : Int32 → MI → MJ → Prop} (e : ∀ l, l < 8 → I (k + 1) l = nI (f l)) (hQ : Q (nI (sm f 8)) I J) : P_X8_letters k I J Q := by
  refine lpx_up (fun i a => a = (nI (sm f i), nI i, I, J)) 8 ?_ ?_ 0 _ (Nat.zero_le _) rfl
  · rintro a k rfl
    exact ⟨fun _ => hQ, fun c => absurd (nI_le (Nat.le_refl 8) (by decide)) c⟩
  · rintro i a k9 hi rfl hk
    refine ⟨fun c => absurd c (nI_ge (b := 8) hi (by decide)), fun _ => ⟨vp_in_nI hi (by decide), hk _ ?_⟩⟩
    rw [nI_clamp (by omega), e i hi, nI_add, nI_1]
    rfl
theorem pe_bagOf {r : Nat} {f : Nat → Nat} {I : MI} {J : MJ} {Q : Int32 → MI → MJ → Prop} (e : ∀ l, l < 8 → I r l = nI (f l)) (hQ : Q (nI (sm f 8)) I J) : P_X12_bagOf r I J Q := by
  refine lpx_up (fun i a => a = (nI (sm f i), nI i, I, J)) 8 ?_ ?_ 0 _ (Nat.zero_le _) rfl
  · rintro a k rfl
    exact ⟨fun _ => hQ, fun c => absurd (nI_le (Nat.le_refl 8) (by decide)) c⟩
  · rintro i a k9 hi rfl hk
    refine ⟨fun c => absurd c (nI_ge (b := 8) hi (by decide)), fun _ => ⟨vp_in_nI (by omega) (by decide), hk _ ?_⟩⟩
    rw [nI_clamp (by omega), e i hi, nI_add, nI_1]
    rfl
/-! the reference's note: a row into the ring -/
theorem wI_wI {I : MI} {c : Nat} {f g : Nat → Int32} : wI (wI I c f) c g = wI I c g := by
  funext x; unfold wI; by_cases h : x = c <;> simp [h]
theorem wI_comm {I : MI} {c d : Nat} {f g : Nat → Int32} (h : c ≠ d) : wI (wI I c f) d g = wI (wI I d g) c f := by
  funext x; unfold wI
  by_cases h1 : x = d
  · subst h1; rw [if_pos rfl, if_neg (fun e => h e.symm), if_pos rfl]
  · by_cases h2 : x = c
    · subst h2; simp [h1]
    · simp [h1, h2]
theorem wI_self {I : MI} {c : Nat} : wI I c (I c) = I := by
  funext x; unfold wI; by_cases h : x = c
  · subst h; simp
  · simp [h]
/-- a row of 25 copied to place o of another -/
def cp25 (f g : Nat → Int32) (o n : Nat) : Nat → Int32 := fun j => if o ≤ j ∧ j < o + n then f (j - o) else g j
theorem cp25_0 (f g : Nat → Int32) (o : Nat) : cp25 f g o 0 = g := by
  funext j; unfold cp25; rw [if_neg (by omega)]
theorem cp25_s (f g : Nat → Int32) (o n : Nat) : upd (cp25 f g o n) (o + n) (f n) = cp25 f g o (n + 1) := by
  funext j; unfold upd cp25
  by_cases h : j = o + n
  · subst h; rw [if_pos rfl, if_pos (by omega), Nat.add_sub_cancel_left]
  · rw [if_neg h]
    by_cases h2 : o ≤ j ∧ j < o + n
    · rw [if_pos h2, if_pos (by omega)]
    · rw [if_neg h2, if_neg (by omega)]
theorem pe_noteM {k q : Nat} {I : MI} {J : MJ} {Q : MI → MJ → Prop} (hk : k ≤ 14) (hq : q < 14) (e1 : I 0 10 = nI k) (e2 : I 0 11 = nI q)
    (hQ : Q (wI (wI I 8 (cp25 (I 6) (I 8) (25 * q) 25)) 0 (upd (upd (I 0) 11 (nI ((q + 1) % 14))) 10 (nI (if k < 14 then k + 1 else 14)))) J) : P_X12_note I J Q := by
  refine lpx_up (fun i a => a = (nI i, wI I 8 (cp25 (I 6) (I 8) (25 * q) i), J)) 25 ?_ ?_ 0 _ (Nat.zero_le _) ?_
  · rintro a k9 rfl
    refine ⟨fun _ => ?_, fun c => absurd (nI_le (Nat.le_refl 25) (by decide)) c⟩
    rintro I44 rfl
    have e3 : ((wI I 8 (cp25 (I 6) (I 8) (25 * q) 25)) 0 11 + 1 - ((wI I 8 (cp25 (I 6) (I 8) (25 * q) 25)) 0 11 + 1) / 14 * 14) = nI ((q + 1) % 14) := by
      show (I 0 11 + 1 - (I 0 11 + 1) / 14 * 14) = nI ((q + 1) % 14)
      rw [e2, nI_1]; exact pk_rem (d := 14) (by omega) (by decide) (by decide)
    rw [e3]
    have hfin : ∀ x : Int32, x = nI (if k < 14 then k + 1 else 14) → P_X12_note_68 Q x (mI (wI I 8 (cp25 (I 6) (I 8) (25 * q) 25)) 0 11 (nI ((q + 1) % 14))) J := by
      rintro x rfl I2 rfl
      have e4 : mI (mI (wI I 8 (cp25 (I 6) (I 8) (25 * q) 25)) 0 11 (nI ((q + 1) % 14))) 0 10 (nI (if k < 14 then k + 1 else 14)) = wI (wI I 8 (cp25 (I 6) (I 8) (25 * q) 25)) 0 (upd (upd (I 0) 11 (nI ((q + 1) % 14))) 10 (nI (if k < 14 then k + 1 else 14))) := wI_wI
      rw [e4]; exact hQ
    refine ⟨fun c => hfin _ ?_, fun c => hfin _ ?_⟩
    · have c : nI 14 ≤ I 0 10 := c
      rw [e1] at c
      have : ¬ k < 14 := fun h => nI_ge (b := 14) h (by decide) c
      rw [if_neg this]; rfl
    · have c : ¬ nI 14 ≤ I 0 10 := c
      rw [e1] at c
      have h : k < 14 := by
        rcases Nat.lt_or_ge k 14 with z | z
        · exact z
        · exact absurd (nI_le z (by omega)) c
      rw [if_pos h]
      show I 0 10 + 1 = nI (k + 1)
      rw [e1, nI_1]
  · rintro i a k9 hi rfl h9
    refine ⟨fun c => absurd c (nI_ge (b := 25) hi (by decide)), fun _ => ⟨vp_in_nI hi (by decide), ?_, ?_⟩⟩
    · show vp_in ((25 : Int32) * (I 0 11) + nI i) 350
      rw [e2, show (25 : Int32) = nI 25 from rfl, pk_mul, nI_add]; exact vp_in_nI (by omega) (by decide)
    · rintro I27 rfl
      refine h9 _ ?_
      have e5 : ((25 : Int32) * ((wI I 8 (cp25 (I 6) (I 8) (25 * q) i)) 0 11) + nI i).toNatClampNeg = 25 * q + i := by
        show ((25 : Int32) * (I 0 11) + nI i).toNatClampNeg = 25 * q + i
        rw [e2, show (25 : Int32) = nI 25 from rfl, pk_mul, nI_add]; exact nI_clamp (by omega)
      rw [e5, nI_1, nI_clamp (by omega)]
      have e6 : mI (wI I 8 (cp25 (I 6) (I 8) (25 * q) i)) 8 (25 * q + i) ((wI I 8 (cp25 (I 6) (I 8) (25 * q) i)) 6 i) = wI I 8 (cp25 (I 6) (I 8) (25 * q) (i + 1)) := by
        show wI (wI I 8 (cp25 (I 6) (I 8) (25 * q) i)) 8 (upd (cp25 (I 6) (I 8) (25 * q) i) (25 * q + i) (I 6 i)) = _
        rw [wI_wI, cp25_s]
      rw [e6]
  · rw [cp25_0, wI_self]; rfl
