/-! loops of the predicates: by a count, by a measure -/
theorem lpx_step {α : Type} {body : (α → Prop) → α → Prop} {n : Nat} {a : α} (h : body (loopP body n) a) : lpx body a := ⟨n + 1, h⟩
theorem lpx_m {α : Type} {body : (α → Prop) → α → Prop} (Inv : α → Prop) (μ : α → Nat) (h : ∀ (a : α) (k : α → Prop), Inv a → (∀ a', Inv a' → μ a' < μ a → k a') → body k a) : ∀ a, Inv a → lpx body a := by
  have key : ∀ (n : Nat) (a : α), μ a < n → Inv a → loopP body n a := by
    intro n
    induction n with
    | zero => intro a h1; exact absurd h1 (Nat.not_lt_zero _)
    | succ n ih => intro a h1 h2; exact h a _ h2 (fun a' h3 h4 => ih a' (by omega) h3)
  exact fun a ha => ⟨μ a + 1, key _ a (Nat.lt_succ_self _) ha⟩
theorem lpx_up {α : Type} {body : (α → Prop) → α → Prop} (Inv : Nat → α → Prop) (N : Nat) (hx : ∀ (a : α) (k : α → Prop), Inv N a → body k a) (hs : ∀ (i : Nat) (a : α) (k : α → Prop), i < N → Inv i a → (∀ a', Inv (i + 1) a' → k a') → body k a) : ∀ (i : Nat) (a : α), i ≤ N → Inv i a → lpx body a := by
  have key : ∀ (n i : Nat) (a : α), N < i + n → i ≤ N → Inv i a → loopP body n a := by
    intro n
    induction n with
    | zero => intro i a h1 h2; omega
    | succ n ih =>
      intro i a h1 h2 h3
      rcases Nat.lt_or_ge i N with q | q
      · exact hs i a _ q h3 (fun a' h4 => ih (i + 1) a' (by omega) q h4)
      · obtain rfl : i = N := by omega
        exact hx a _ h3
  exact fun i a h1 h2 => ⟨N + 1, key (N + 1) i a (by omega) h1 h2⟩
theorem nI_lit (n : Nat) : (OfNat.ofNat n : Int32) = nI n := rfl
theorem pe_empty {Q : MI → MJ → Prop} {J : MJ} (h : Q I00 J) : P_X12_empty 6 I00 J Q := by
  refine lpx_up (fun i a => a = (nI i, I00, J)) 25 ?_ ?_ 0 _ (Nat.zero_le _) rfl
  · rintro a k rfl
    exact ⟨fun _ => h, fun h2 => absurd (nI_le (Nat.le_refl 25) (by omega)) h2⟩
  · rintro i a k hi rfl hk
    refine ⟨fun h2 => absurd h2 (nI_ge (b := 25) hi (by decide)), fun _ => ⟨vp_in_nI hi (by omega), fun I2 e => hk _ ?_⟩⟩
    have e3 : upd (I00 6) (nI i).toNatClampNeg 0 = I00 6 := by
      funext j; unfold upd; by_cases hj : j = (nI i).toNatClampNeg
      · rw [if_pos hj]; rfl
      · rw [if_neg hj]
    have e2 : I2 = I00 := by
      rw [e]; funext x
      by_cases hx : x = 6
      · subst hx
        show wI I00 6 (upd (I00 6) (nI i).toNatClampNeg 0) 6 = I00 6
        rw [wI_s, e3]
      · exact wI_n I00 hx _
    rw [e2, nI_succ]
theorem gW_D {S : gS} {n : Nat} {ad : Nat → Nat} {I : MI} {J : MJ} {A : Nat → Prop} (h : va_D A (gW S n ad I J)) : va_D (gA n ad) (gW S n ad I J) := ⟨h.1, fun k q hq => ⟨k, (gW_of hq).1, (gW_of hq).2⟩⟩
theorem gW_A {S : gS} {n : Nat} {ad : Nat → Nat} {I : MI} {J : MJ} {A : Nat → Prop} (h : va_D A (gW S n ad I J)) : ∀ q, gA n ad q → A q := fun q ⟨k, hk, e⟩ => by
  rw [e]; exact h.2 k _ (gW_get hk)
theorem gW_DA {S : gS} {n : Nat} {ad : Nat → Nat} {I I2 : MI} {J J2 : MJ} {A : Nat → Prop} (h : va_D A (gW S n ad I J)) : va_D A (gW S n ad I2 J2) := by
  refine ⟨fun i j p q hp hq hpq => ?_, fun k q hq => ?_⟩
  · obtain ⟨h1, h2⟩ := gW_of hp
    obtain ⟨h3, h4⟩ := gW_of hq
    exact h.1 i j _ _ (gW_get h1) (gW_get h3) (h2.symm.trans (hpq.trans h4))
  · obtain ⟨h1, h2⟩ := gW_of hq
    rw [h2]; exact h.2 k _ (gW_get h1)
