/-- bits of the places below i where p holds, as the code gathers them (an int) -/
def gat (p : Nat → Prop) [DecidablePred p] : Nat → Int32
  | 0 => 0
  | i + 1 => if p i then gat p i ||| ((1 : Int32) <<< (nI i &&& 31)) else gat p i
theorem or_zero (x : Int32) : x ||| 0 = x := by
  apply Int32.toBitVec_inj.mp; simp
theorem pe_letterBits {k u : Nat} {h : Ho} {I : MI} {J : MJ} {Q : Int32 → MI → MJ → Prop} (h1 : hoOK h) (hP : J (k + 3) u = lN (pk (nd h u) 8)) (hu : u < hoW h) (hQ : Q (gat (fun l => 0 < nd h u l) 8) I J) : P_X5_letterBits k (nI u) I J Q := by
  refine lpx_up (fun i a => a = (nI u, gat (fun l => 0 < nd h u l) i, nI i, I, J)) 8 ?_ ?_ 0 _ (Nat.zero_le _) rfl
  · rintro a k9 rfl
    exact ⟨fun _ => hQ, fun c => absurd (nI_le (Nat.le_refl 8) (by decide)) c⟩
  · rintro i a k9 hi rfl h9
    have hn := nd_le h1 hu i
    refine ⟨fun c => absurd c (nI_ge (b := 8) hi (by decide)), fun _ => pe_amount h1 hP hu hi ⟨fun c => h9 _ ?_, fun c => h9 _ ?_⟩⟩
    · rw [pos_nI (by omega)] at c
      have e : gat (fun l => 0 < nd h u l) (i + 1) = gat (fun l => 0 < nd h u l) i := if_neg (by omega)
      rw [e, nI_1]
    · rw [pos_nI (by omega)] at c
      have e : gat (fun l => 0 < nd h u l) (i + 1) = gat (fun l => 0 < nd h u l) i ||| ((1 : Int32) <<< (nI i &&& 31)) := if_pos (by omega)
      rw [e, nI_1]
theorem pe_lettersOf {u : Nat} {h : Ho} {I : MI} {J : MJ} {Q : Int32 → MI → MJ → Prop} (h1 : hoOK h) (hN : ∀ l, l < 8 → I 5 (8 * u + l) = nI (nd h u l)) (hu : u < hoW h) (hQ : Q (gat (fun l => 0 < nd h u l) 8) I J) : P_X12_lettersOf (nI u) I J Q := by
  have hw := h1.1
  refine lpx_up (fun i a => a = (nI u, gat (fun l => 0 < nd h u l) i, nI i, I, J)) 8 ?_ ?_ 0 _ (Nat.zero_le _) rfl
  · rintro a k9 rfl
    exact ⟨fun _ => hQ, fun c => absurd (nI_le (Nat.le_refl 8) (by decide)) c⟩
  · rintro i a k9 hi rfl h9
    have hn := nd_le h1 hu i
    have e5 : (8 : Int32) * nI u + nI i = nI (8 * u + i) := by rw [show (8 : Int32) = nI 8 from rfl, pk_mul, nI_add]
    have e6 : I 5 ((8 : Int32) * nI u + nI i).toNatClampNeg = nI (nd h u i) := by rw [e5, nI_clamp (by omega)]; exact hN i hi
    refine ⟨fun c => absurd c (nI_ge (b := 8) hi (by decide)), fun _ => ⟨by rw [e5]; exact vp_in_nI (by omega) (by decide), fun c => h9 _ ?_, fun c => h9 _ ?_⟩⟩
    · rw [e6, pos_nI (by omega)] at c
      have e : gat (fun l => 0 < nd h u l) (i + 1) = gat (fun l => 0 < nd h u l) i := if_neg (by omega)
      rw [e, nI_1, or_zero]
    · rw [e6, pos_nI (by omega)] at c
      have e : gat (fun l => 0 < nd h u l) (i + 1) = gat (fun l => 0 < nd h u l) i ||| ((1 : Int32) <<< (nI i &&& 31)) := if_pos (by omega)
      rw [e, nI_1]
