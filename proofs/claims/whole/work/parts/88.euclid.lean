/-! ===== lowest terms, factorials, powers ===== -/
def gcw : Nat → Int64 → Int64 → Int64
  | 0, x, _ => x
  | n + 1, x, y => if y = 0 then x else gcw n y (x - x / y * y)
theorem gcw_0 (n : Nat) (x : Int64) : gcw n x 0 = x := by
  cases n with
  | zero => rfl
  | succ n => show (if (0 : Int64) = 0 then x else gcw n 0 (x - x / 0 * 0)) = x; rw [if_pos rfl]
theorem gcw_s {n : Nat} {x y : Int64} (h : ¬ y = 0) : gcw (n + 1) x y = gcw n y (x - x / y * y) := by
  show (if y = 0 then x else gcw n y (x - x / y * y)) = _
  rw [if_neg h]
theorem gcw_ne (n : Nat) : ∀ {x y : Int64}, ¬ x = 0 → ¬ gcw n x y = 0 := by
  induction n with
  | zero => intro x y h; exact h
  | succ n ih =>
    intro x y h
    by_cases hy : y = 0
    · subst hy; rw [gcw_0]; exact h
    · rw [gcw_s hy]; exact ih hy
def abL (a : Int64) : Int64 := if 0 < a then a else -a
def lowT (a0 a1 : Int64) (a2 : Int32) : Int64 := (if a2 = 0 then a1 else a0) / gcw 100 (abL a0) a1
theorem gcw_ne2 {x y : Int64} (h : ¬ y = 0) : ¬ gcw 100 x y = 0 := by
  show ¬ gcw (99 + 1) x y = 0
  rw [gcw_s h]; exact gcw_ne 99 h
theorem pe_leastTerms {a0 a1 : Int64} {a2 : Int32} {I : MI} {J : MJ} {Q : Int64 → MI → MJ → Prop} (h1 : ¬ a1 = 0) (hQ : Q (lowT a0 a1 a2) I J) : P_X11_leastTerms a0 a1 a2 I J Q := by
  have hg : ¬ gcw 100 (abL a0) a1 = 0 := gcw_ne2 h1
  unfold lowT at hQ
  generalize hG : gcw 100 (abL a0) a1 = g at *
  have fin : P_X11_leastTerms_47 Q a0 a1 a2 g I J := by
    refine ⟨fun c => ⟨fun e => ⟨hg, ?_⟩, fun e => ⟨hg, ?_⟩⟩, fun c => absurd c hg⟩
    · rw [if_pos e] at hQ; exact hQ
    · rw [if_neg e] at hQ; exact hQ
  refine lpx_up (fun i z => ∃ x y : Int64, z = (a0, a1, a2, x, y, nI i, I, J) ∧ gcw (100 - i) x y = g) 100 ?_ ?_ 0 _ (Nat.zero_le _) ⟨abL a0, a1, rfl, hG⟩
  · rintro z k ⟨x, y, rfl, e⟩
    have e2 : x = g := e
    subst e2
    exact pk_le 100 100 (fun _ => fin) (fun c => by omega)
  · rintro i z k hi ⟨x, y, rfl, e⟩ hk
    refine pk_le 100 i (fun c => by omega) (fun _ => ⟨fun c => ?_, fun c => ⟨c, ?_⟩⟩)
    · subst c; rw [gcw_0] at e; subst e; exact fin
    · rw [nI_1]
      refine hk _ ⟨_, _, rfl, ?_⟩
      rw [show 100 - i = (100 - (i + 1)) + 1 by omega, gcw_s c] at e
      exact e
theorem remL_toInt {x y : Int64} (hy : ¬ y = 0) : (x - x / y * y).toInt = x.toInt.tmod y.toInt := by
  rw [Int64.toInt_sub, Int64.toInt_mul, Int64.toInt_div, Int.bmod_mul_bmod, Int.sub_bmod_bmod, Int.mul_comm, ← Int.tmod_def]
  have h0 : y.toInt.natAbs ≠ 0 := fun e => hy (Int64.toInt_inj.mp (by rw [Int64.toInt_zero]; omega))
  have h1 : (x.toInt.tmod y.toInt).natAbs < y.toInt.natAbs := by
    rw [Int.natAbs_tmod]; exact Nat.mod_lt _ (by omega)
  have h2 := Int64.toInt_lt y
  have h3 := Int64.le_toInt y
  refine Int.bmod_eq_of_le ?_ ?_ <;> omega
theorem remL_abs {x y : Int64} (hy : ¬ y = 0) : (x - x / y * y).toInt.natAbs = x.toInt.natAbs % y.toInt.natAbs := by
  rw [remL_toInt hy, Int.natAbs_tmod]
theorem absL_0 {y : Int64} : y.toInt.natAbs = 0 ↔ y = 0 :=
  ⟨fun e => Int64.toInt_inj.mp (by rw [Int64.toInt_zero]; omega), fun e => by rw [e, Int64.toInt_zero]; rfl⟩
theorem half_mul {X Y n : Nat} (h0 : 0 < Y) (h : Y < X) (hp : X * Y < 2 ^ (n + 1)) : Y * (X % Y) < 2 ^ n := by
  have h1 : X % Y < Y := Nat.mod_lt _ h0
  have h2 : X % Y ≤ X - Y := by
    rw [Nat.mod_eq_sub_mod (Nat.le_of_lt h)]; exact Nat.mod_le _ _
  have h3 : 2 * (X % Y) ≤ X := by omega
  have h4 : (2 * (X % Y)) * Y ≤ X * Y := Nat.mul_le_mul_right Y h3
  have h5 : (2 * (X % Y)) * Y = 2 * (Y * (X % Y)) := by rw [Nat.mul_assoc, Nat.mul_comm (X % Y) Y]
  rw [Nat.pow_succ] at hp
  omega
theorem pe_fraction {a0 a1 : Int64} {a2 : Int32} {A : MI} {B : MJ} {Q : Int64 → MI → MJ → Prop} (h1 : ¬ a1 = 0) (hb : a1.toInt.natAbs < 2 ^ 30) (hQ : Q (lowT a0 a1 a2) A B) : P_X12_fraction a0 a1 a2 A B Q := by
  have hg : ¬ gcw 100 (abL a0) a1 = 0 := gcw_ne2 h1
  unfold lowT at hQ
  generalize hG : gcw 100 (abL a0) a1 = g at *
  have key : ∀ x : Int64, x = abL a0 → P_X12_fraction_12 Q a0 a1 a2 x A B := by
    rintro x hx
    refine lpx_m (fun z => ∃ (x y : Int64) (n : Nat), z = (a0, a1, a2, x, y, A, B) ∧ gcw n x y = g ∧ ((n = 100 ∧ y.toInt.natAbs < 2 ^ 30 ∧ ¬ y = 0) ∨ (y.toInt.natAbs < x.toInt.natAbs ∧ x.toInt.natAbs * y.toInt.natAbs < 2 ^ n))) (fun z => z.2.2.2.2.1.toInt.natAbs) ?_ _ ⟨x, a1, 100, rfl, by rw [hx]; exact hG, Or.inl ⟨rfl, hb, h1⟩⟩
    rintro z k ⟨x, y, n, rfl, e, hd⟩ hk
    refine ⟨fun c => ?_, fun c => ⟨c, ?_⟩⟩
    · subst c
      rw [gcw_0] at e
      subst e
      refine ⟨fun c2 => ⟨hg, ?_⟩, fun c2 => ⟨hg, ?_⟩⟩
      · rw [if_pos c2] at hQ; exact hQ
      · rw [if_neg c2] at hQ; exact hQ
    · have hy0 : 0 < y.toInt.natAbs := Nat.pos_of_ne_zero (fun q => c (absL_0.mp q))
      have er := remL_abs (x := x) c
      have hlt : (x - x / y * y).toInt.natAbs < y.toInt.natAbs := by rw [er]; exact Nat.mod_lt _ hy0
      rcases hd with ⟨rfl, d1, d2⟩ | ⟨d1, d2⟩
      · refine hk _ ⟨_, _, 99, rfl, ?_, Or.inr ⟨hlt, ?_⟩⟩ hlt
        · rw [← e]; exact (gcw_s (n := 99) c).symm
        · have q1 : y.toInt.natAbs * (x - x / y * y).toInt.natAbs ≤ 2 ^ 30 * 2 ^ 30 := Nat.mul_le_mul (Nat.le_of_lt d1) (Nat.le_of_lt (Nat.lt_trans hlt d1))
          exact Nat.lt_of_le_of_lt q1 (by decide)
      · cases n with
        | zero =>
          exfalso
          have q1 : 1 * 1 ≤ x.toInt.natAbs * y.toInt.natAbs := Nat.mul_le_mul (by omega) hy0
          rw [Nat.pow_zero] at d2
          omega
        | succ n =>
          refine hk _ ⟨_, _, n, rfl, ?_, Or.inr ⟨hlt, ?_⟩⟩ hlt
          · rw [← e]; exact (gcw_s c).symm
          · rw [er]; exact half_mul hy0 d1 d2
  refine ⟨fun c => key a0 ?_, fun c => key (-a0) ?_⟩
  · unfold abL
    by_cases h : 0 < a0
    · rw [if_pos h]
    · rw [if_neg h]
      have : a0 = 0 := by
        apply Int64.toInt_inj.mp
        rw [Int64.lt_iff_toInt_lt] at h; rw [Int64.le_iff_toInt_le] at c
        rw [Int64.toInt_zero] at *; omega
      rw [this]; rfl
  · unfold abL
    rw [if_neg (fun h => c (by rw [Int64.lt_iff_toInt_lt] at h; rw [Int64.le_iff_toInt_le]; omega))]
def fc : Nat → Nat
  | 0 => 1
  | n + 1 => fc n * (n + 1)
theorem fc_st : ∀ k : Fin 9, stI k.val = nI (fc k.val) := by decide
theorem fc_lt : ∀ k : Fin 9, fc k.val < 2 ^ 30 ∧ 0 < fc k.val := by decide
theorem fc_b {k : Nat} (hk : k < 9) : fc k < 2 ^ 30 ∧ 0 < fc k := fc_lt ⟨k, hk⟩
theorem st64 {k : Nat} (hk : k < 9) : (stI k).toInt64 = lN (fc k) := by
  have e : stI k = nI (fc k) := fc_st ⟨k, hk⟩
  have l := (fc_b hk).1
  rw [e, nI_l (by omega)]
theorem fc_64 {k : Nat} (hk : k < 9) : (nI (fc k)).toInt64 = lN (fc k) := by
  have l := (fc_b hk).1
  rw [nI_l (by omega)]
theorem lN_abs {n : Nat} (hn : n < 2 ^ 30) (h0 : 0 < n) : ¬ lN n = 0 ∧ (lN n).toInt.natAbs < 2 ^ 30 := by
  have ht : (lN n).toInt = (n : Int) := lN_toInt (by omega)
  refine ⟨fun q => ?_, by rw [ht]; exact hn⟩
  rw [q, Int64.toInt_zero] at ht
  omega
theorem pe_factorial {k : Nat} {A : MI} {B : MJ} {Q : Int32 → MI → MJ → Prop} (hk : k < 9) (hQ : Q (nI (fc k)) A B) : P_X12_factorial (nI k) A B Q := by
  refine lpx_up (fun i z => z = (nI k, nI (fc (i + 1)), nI (i + 2), A, B)) (k - 1) ?_ ?_ 0 _ (Nat.zero_le _) rfl
  · rintro z kk rfl
    refine pk_lt k (k - 1 + 2) (fun _ => ?_) (fun c => by omega)
    rcases Nat.eq_zero_or_pos k with q | q
    · subst q; exact hQ
    · rw [show k - 1 + 1 = k by omega]; exact hQ
  · rintro i z kk hi rfl hkk
    refine pk_lt k (i + 2) (fun c => by omega) (fun _ => hkk _ ?_)
    rw [nI_1, pk_mul]; rfl
theorem pe_powerX {b n : Nat} {I : MI} {J : MJ} {Q : Int64 → MI → MJ → Prop} (hb : b < 2 ^ 31) (hn : n < 2 ^ 31) (hQ : Q (lN (b ^ n)) I J) : P_X0_power (nI b) (nI n) I J Q := by
  refine lpx_up (fun i z => z = (nI b, nI n, lN (b ^ i), nI i, I, J)) n ?_ ?_ 0 _ (Nat.zero_le _) rfl
  · rintro z k rfl
    exact pk_le n n (fun _ => hQ) (fun c => by omega)
  · rintro i z k hi rfl hk
    refine pk_le n i (fun c => by omega) (fun _ => hk _ ?_)
    rw [nI_1, nI_l hb, lN_mul, Nat.pow_succ]
theorem pe_powerM {b n : Nat} {A : MI} {B : MJ} {Q : Int32 → MI → MJ → Prop} (hn : n < 2 ^ 31) (hQ : Q (nI (b ^ n)) A B) : P_X12_power (nI b) (nI n) A B Q := by
  refine lpx_up (fun i z => z = (nI b, nI n, nI (b ^ i), nI i, A, B)) n ?_ ?_ 0 _ (Nat.zero_le _) rfl
  · rintro z k rfl
    exact pk_le n n (fun _ => hQ) (fun c => by omega)
  · rintro i z k hi rfl hk
    refine pk_le n i (fun c => by omega) (fun _ => hk _ ?_)
    rw [nI_1, pk_mul, Nat.pow_succ]
