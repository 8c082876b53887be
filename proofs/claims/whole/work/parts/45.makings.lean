/-- how many could be made: by the first i letters -/
def mks (B N : Nat → Nat) : Nat → Nat
  | 0 => 12
  | i + 1 => if N i = 0 then mks B N i else if B i / N i < mks B N i then B i / N i else mks B N i
theorem mks_le (B N : Nat → Nat) (i : Nat) : mks B N i ≤ 12 := by
  induction i with
  | zero => exact Nat.le_refl 12
  | succ i ih =>
    show (if N i = 0 then mks B N i else if B i / N i < mks B N i then B i / N i else mks B N i) ≤ 12
    by_cases h : N i = 0
    · rw [if_pos h]; exact ih
    · rw [if_neg h]
      by_cases h2 : B i / N i < mks B N i
      · rw [if_pos h2]; omega
      · rw [if_neg h2]; exact ih
theorem pe_makings {u : Nat} {h : Ho} {t : Se} {I : MI} {J : MJ} {Q : Int32 → MI → MJ → Prop} (h1 : hoOK h) (h2 : sm (seB t) 8 ≤ 12) (hP : J 15 u = lN (pk (nd h u) 8)) (hB : ∀ l, l < 8 → I 18 l = nI (seB t l)) (hu : u < hoW h) (hQ : Q (nI (mks (seB t) (nd h u) 8)) I J) : P_X11_makings (nI u) I J Q := by
  refine lpx_up (fun i a => a = (nI u, nI (mks (seB t) (nd h u) i), nI i, I, J)) 8 ?_ ?_ 0 _ (Nat.zero_le _) rfl
  · rintro a k9 rfl
    exact ⟨fun _ => hQ, fun c => absurd (nI_le (Nat.le_refl 8) (by decide)) c⟩
  · rintro i a k9 hi rfl h9
    have hn := nd_le h1 hu i
    have hm := mks_le (seB t) (nd h u) i
    have hb : seB t i ≤ 12 := Nat.le_trans (sm_le _ hi) h2
    refine ⟨fun c => absurd c (nI_ge (b := 8) hi (by decide)), fun _ => pe_amount (k := 12) h1 hP hu hi ⟨fun c => h9 _ ?_, fun c => ⟨vp_in_nI hi (by decide), ?_, h9 _ ?_⟩⟩⟩
    · rw [pos_nI (by omega)] at c
      have e : mks (seB t) (nd h u) (i + 1) = mks (seB t) (nd h u) i := if_pos c
      rw [e, nI_1]
    · rw [pos_nI (by omega)] at c
      exact fun e => c ((nI_eq (b := 0) (by omega) (by decide)).mp e)
    · rw [pos_nI (by omega)] at c
      have hd : seB t i / nd h u i ≤ seB t i := Nat.div_le_self _ _
      have e1 : I 18 (nI i).toNatClampNeg / nI (nd h u i) = nI (seB t i / nd h u i) := by
        rw [nI_clamp (by omega), hB i hi]; exact pk_div (by omega) (by omega) (by omega)
      have e : mks (seB t) (nd h u) (i + 1) = if seB t i / nd h u i < mks (seB t) (nd h u) i then seB t i / nd h u i else mks (seB t) (nd h u) i := if_neg c
      rw [e1, e, nI_1]
      by_cases h3 : seB t i / nd h u i < mks (seB t) (nd h u) i
      · rw [if_pos h3, if_pos (nI_lt h3 (by omega))]
      · rw [if_neg h3, if_neg (nI_nlt (by omega) (by omega))]
theorem pe_madeOf {u : Nat} {h : Ho} {t : Se} {I : MI} {J : MJ} {Q : Int32 → MI → MJ → Prop} (h1 : hoOK h) (h2 : sm (seB t) 8 ≤ 12) (hN : ∀ l, l < 8 → I 5 (8 * u + l) = nI (nd h u l)) (hB : ∀ l, l < 8 → I 6 l = nI (seB t l)) (hu : u < hoW h) (hQ : Q (nI (mks (seB t) (nd h u) 8)) I J) : P_X12_madeOf (nI u) I J Q := by
  have hw := h1.1
  refine lpx_up (fun i a => a = (nI u, nI (mks (seB t) (nd h u) i), nI i, I, J)) 8 ?_ ?_ 0 _ (Nat.zero_le _) rfl
  · rintro a k9 rfl
    exact ⟨fun _ => hQ, fun c => absurd (nI_le (Nat.le_refl 8) (by decide)) c⟩
  · rintro i a k9 hi rfl h9
    have hn := nd_le h1 hu i
    have hm := mks_le (seB t) (nd h u) i
    have hb : seB t i ≤ 12 := Nat.le_trans (sm_le _ hi) h2
    have e5 : (8 : Int32) * nI u + nI i = nI (8 * u + i) := by rw [show (8 : Int32) = nI 8 from rfl, pk_mul, nI_add]
    have e6 : I 5 ((8 : Int32) * nI u + nI i).toNatClampNeg = nI (nd h u i) := by rw [e5, nI_clamp (by omega)]; exact hN i hi
    have hin : vp_in ((8 : Int32) * nI u + nI i) 80 := by rw [e5]; exact vp_in_nI (by omega) (by decide)
    have hi25 : vp_in (nI i) 25 := vp_in_nI (by omega) (by decide)
    refine ⟨fun c => absurd c (nI_ge (b := 8) hi (by decide)), fun _ => ⟨hin, fun c => h9 _ ?_, fun c => ?_⟩⟩
    · rw [e6, pos_nI (by omega)] at c
      have e : mks (seB t) (nd h u) (i + 1) = mks (seB t) (nd h u) i := if_pos c
      rw [e, nI_1]
    · rw [e6, pos_nI (by omega)] at c
      have hne : ¬ I 5 ((8 : Int32) * nI u + nI i).toNatClampNeg = 0 := by
        rw [e6]; exact fun e => c ((nI_eq (b := 0) (by omega) (by decide)).mp e)
      have hd : seB t i / nd h u i ≤ seB t i := Nat.div_le_self _ _
      have e1 : I 6 (nI i).toNatClampNeg / I 5 ((8 : Int32) * nI u + nI i).toNatClampNeg = nI (seB t i / nd h u i) := by
        rw [e6, nI_clamp (by omega), hB i hi]; exact pk_div (by omega) (by omega) (by omega)
      have e : mks (seB t) (nd h u) (i + 1) = if seB t i / nd h u i < mks (seB t) (nd h u) i then seB t i / nd h u i else mks (seB t) (nd h u) i := if_neg c
      refine ⟨hi25, hne, fun c2 => h9 _ ?_, fun c2 => ⟨hi25, hne, h9 _ ?_⟩⟩
      · rw [e1, nI_leI (by omega) (by omega)] at c2
        rw [e, if_neg (by omega), nI_1]
      · rw [e1, nI_leI (by omega) (by omega)] at c2
        rw [e, if_pos (by omega), nI_1, e1]
