theorem nd_le {h : Ho} (h1 : hoOK h) {u : Nat} (hu : u < hoW h) (l : Nat) : nd h u l ≤ 6 := Nat.le_trans (cnt_le _ _ _) (h1.2 u hu).2.2.1
theorem amt {h : Ho} (h1 : hoOK h) {u l : Nat} (hu : u < hoW h) (hl : l < 8) : ((lN (pk (nd h u) 8) >>> (((5 : Int32) * nI l).toInt64 &&& 63)).toInt32) &&& (15 : Int32) = nI (nd h u l) := by
  have hf : ∀ i, nd h u i < 32 := fun i => Nat.lt_of_le_of_lt (nd_le h1 hu i) (by decide)
  have hp : pk (nd h u) 8 < 2 ^ 40 := pkk_lt hf 8
  rw [shr5 hp hl, lN_i, pk_and _ 4 (by decide)]
  have e : (nI (pk (nd h u) 8 / 32 ^ l)).toBitVec.toNat = pk (nd h u) 8 / 32 ^ l % 2 ^ 32 := BitVec.toNat_ofNat _ _
  have d := pkk_digit hf 8 hl
  have := nd_le h1 hu l
  rw [e]; congr 1; omega
theorem pe_amount {k u l : Nat} {h : Ho} {I : MI} {J : MJ} {Q : Int32 → MI → MJ → Prop} (h1 : hoOK h) (hP : J (k + 3) u = lN (pk (nd h u) 8)) (hu : u < hoW h) (hl : l < 8) (hQ : Q (nI (nd h u l)) I J) : P_X5_amount k (nI u) (nI l) I J Q := by
  have hw := h1.1
  refine ⟨vp_in_nI (by omega) (by decide), ?_⟩
  rw [nI_clamp (by omega), hP, amt h1 hu hl]
  exact hQ
/-- how many of the first n words have a letter -/
def hav (h : Ho) (l : Nat) (n : Nat) : Nat := sm (fun u => if 0 < nd h u l then 1 else 0) n
theorem pos_nI {n : Nat} (hn : n < 2 ^ 31) : nI n ≤ 0 ↔ n = 0 := by
  rw [show (0 : Int32) = nI 0 from rfl, nI_leI hn (by decide)]; omega
theorem pe_wordsWith {k l : Nat} {h : Ho} {I : MI} {J : MJ} {Q : Int32 → MI → MJ → Prop} (h1 : hoOK h) (e : I k 4 = nI (hoW h)) (hP : ∀ u, u < hoW h → J (k + 3) u = lN (pk (nd h u) 8)) (hl : l < 8) (hQ : Q (nI (hav h l (hoW h))) I J) : P_X5_wordsWith k (nI l) I J Q := by
  have hw := h1.1
  refine lpx_up (fun i a => a = (nI l, nI (hav h l i), nI i, I, J)) (hoW h) ?_ ?_ 0 _ (Nat.zero_le _) rfl
  · rintro a k9 rfl
    exact ⟨fun _ => hQ, fun c => absurd (by rw [e]; exact Int32.le_refl _) c⟩
  · rintro i a k9 hi rfl h9
    refine ⟨fun c => absurd (by rw [e] at c; exact c) (nI_ge hi (by omega)), fun _ => pe_amount h1 (hP i hi) hi hl ?_⟩
    have hn := nd_le h1 hi l
    refine ⟨fun c => h9 _ ?_, fun c => h9 _ ?_⟩
    · rw [pos_nI (by omega)] at c
      have : hav h l (i + 1) = hav h l i := by
        show hav h l i + (if 0 < nd h i l then 1 else 0) = _
        rw [if_neg (by omega)]; rfl
      rw [this, nI_1]
    · rw [pos_nI (by omega)] at c
      have : hav h l (i + 1) = hav h l i + 1 := by
        show hav h l i + (if 0 < nd h i l then 1 else 0) = _
        rw [if_pos (by omega)]
      rw [this, nI_1, nI_1]
theorem pe_havers {l : Nat} {h : Ho} {I : MI} {J : MJ} {Q : Int32 → MI → MJ → Prop} (h1 : hoOK h) (e : I 0 2 = nI (hoW h)) (hN : ∀ u, u < hoW h → I 5 (8 * u + l) = nI (nd h u l)) (hl : l < 8) (hQ : Q (nI (hav h l (hoW h))) I J) : P_X12_havers (nI l) I J Q := by
  have hw := h1.1
  refine lpx_up (fun i a => a = (nI l, nI (hav h l i), nI i, I, J)) (hoW h) ?_ ?_ 0 _ (Nat.zero_le _) rfl
  · rintro a k9 rfl
    exact ⟨fun _ => hQ, fun c => absurd (by rw [e]; exact Int32.le_refl _) c⟩
  · rintro i a k9 hi rfl h9
    have e5 : (8 : Int32) * nI i + nI l = nI (8 * i + l) := by rw [show (8 : Int32) = nI 8 from rfl, pk_mul, nI_add]
    have e6 : I 5 ((8 : Int32) * nI i + nI l).toNatClampNeg = nI (nd h i l) := by rw [e5, nI_clamp (by omega)]; exact hN i hi
    have hn := nd_le h1 hi l
    refine ⟨fun c => absurd (by rw [e] at c; exact c) (nI_ge hi (by omega)), fun _ => ⟨by rw [e5]; exact vp_in_nI (by omega) (by decide), fun c => h9 _ ?_, fun c => h9 _ ?_⟩⟩
    · rw [e6, pos_nI (by omega)] at c
      have : hav h l (i + 1) = hav h l i + 0 := by
        show hav h l i + (if 0 < nd h i l then 1 else 0) = _
        rw [if_neg (by omega)]
      rw [this, nI_1]
      have e0 : nI (hav h l i) + 0 = nI (hav h l i + 0) := by rw [show (0 : Int32) = nI 0 from rfl, nI_add]
      rw [e0]
    · rw [e6, pos_nI (by omega)] at c
      have : hav h l (i + 1) = hav h l i + 1 := by
        show hav h l i + (if 0 < nd h i l then 1 else 0) = _
        rw [if_pos (by omega)]
      rw [this, nI_1, nI_1]
