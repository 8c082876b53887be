/-- what is kept between calls of what was counted -/
def S_cache (I : MI) (J : MJ) (h : Ho) (t : Se) : Prop := (I 39 12 = 0 ∨ PhOK (I 39) (I 46) (I 48) (I 49) (I 50) (I 52) (J 39) (J 41) (J 42) h t) ∧ (I 55 8 = 0 ∨ OpOK (I 55) (I 58) (J 59) h t) ∧ (I 55 9 = 0 ∨ CtOK (J 60) h t)
def Sim : SimT := fun I J A B => ∃ (h : Ho) (t : Se), hoOK h ∧ seOK h t ∧ lexX (I 12 4) (I 13) (I 14) (J 15) (I 16) h ∧ lexM (A 0 2) (A 4) (A 3) (A 5) (A 2) h ∧ setX (I 17) (I 18) (I 19) (I 20) h t ∧ rowM (A 6) 0 h t ∧
  S_text (I 1 3) (A 0 1) (I 2) (A 1) (I 8 5) ∧ S_do (I 35 3) (A 0 10) (A 0 11) (I 36) (I 37) (I 38) (A 8) h t ∧ S_slot (I 34 0) (A 10 0) (I 26) (I 27) (I 28) (I 29) (A 9) 0 h ∧ S_slot (I 34 1) (A 10 1) (I 30) (I 31) (I 32) (I 33) (A 9) 25 h ∧
  S_row (I 0 14) (A 0 15) (I 61) (A 11) h ∧ S_seen (I 0 15) (A 0 19) (I 65) (A 12) (A 13) (A 14) ∧ J 0 16 = B 0 20 ∧ S_sw (I 39 8) (I 39 9) ∧ S_cache I J h t
theorem sim_start : Sim I01 J00 I00 J00 := by
  refine ⟨(0, fun _ => 0, fun _ => 0, fun _ _ => 0), (fun _ => 0, fun _ => 0, fun _ => 0, 0, 0, 0), ⟨Nat.zero_le _, fun u hu => absurd hu (Nat.not_lt_zero u)⟩, ⟨by decide, fun u hu => absurd hu (Nat.not_lt_zero u), fun a _ => (by decide : 0 < 16), by decide, by decide, by decide⟩, ⟨rfl, fun u hu => absurd hu (Nat.not_lt_zero u)⟩, ⟨rfl, fun u hu => absurd hu (Nat.not_lt_zero u)⟩, ⟨fun l _ => rfl, fun u hu => absurd hu (Nat.not_lt_zero u), fun a _ => rfl, rfl, rfl, rfl⟩, ⟨fun l _ => rfl, fun u hu => absurd hu (Nat.not_lt_zero u), fun a _ => rfl, rfl, rfl, rfl⟩, ⟨0, ⟨by decide, rfl⟩, rfl, rfl, fun j hj => absurd hj (Nat.not_lt_zero j)⟩, ⟨0, 0, fun _ => (fun _ => 0, fun _ => 0, fun _ => 0, 0, 0, 0), by decide, by decide, rfl, rfl, rfl, rfl, fun j hj => absurd hj (Nat.not_lt_zero j)⟩, Or.inl ⟨rfl, rfl⟩, Or.inl ⟨rfl, rfl⟩, ⟨0, by decide, rfl, rfl, fun j hj => absurd hj (Nat.not_lt_zero j)⟩, ⟨0, by decide, rfl, rfl, fun j hj => absurd hj (Nat.not_lt_zero j)⟩, rfl, Or.inl ⟨rfl, rfl⟩, Or.inl rfl, Or.inl rfl, Or.inl rfl⟩
theorem s_seed : st_seed Sim := by
  intro a I J A B hs
  obtain ⟨h, t, h1, h2, h3, h4, h5, h6, h7, h8, h9, h10, h11, h12, h13, h14, h15⟩ := hs
  rintro J7 rfl J2 rfl
  exact ⟨h13, h, t, h1, h2, h3, h4, h5, h6, h7, h8, h9, h10, h11, h12, rfl, h14, h15⟩
theorem s_wipe : st_wipe Sim := by
  intro I J A B hs
  obtain ⟨h, t, h1, h2, h3, h4, h5, h6, h7, h8, h9, h10, h11, h12, h13, h14, h15⟩ := hs
  rintro I7 rfl I2 rfl
  obtain ⟨k, hk, e1, e2, e3⟩ := id h7
  exact ⟨e1.trans e2.symm, h, t, h1, h2, h3, h4, h5, h6, ⟨0, ⟨Nat.zero_le _, hk.2⟩, rfl, rfl, fun j hj => absurd hj (Nat.not_lt_zero j)⟩, h8, h9, h10, h11, h12, h13, h14, h15⟩
theorem s_clear : st_clear Sim := by
  intro I J A B hs
  obtain ⟨h, t, h1, h2, h3, h4, h5, h6, h7, h8, h9, h10, h11, h12, h13, h14, h15⟩ := hs
  rintro I7 rfl I2 rfl
  obtain ⟨k, hk, e1, e2, e3⟩ := id h11
  exact ⟨e1.trans e2.symm, h, t, h1, h2, h3, h4, h5, h6, h7, h8, h9, h10, ⟨0, Nat.zero_le _, rfl, rfl, fun j hj => absurd hj (Nat.not_lt_zero j)⟩, h12, h13, h14, h15⟩
theorem s_unsee : st_unsee Sim := by
  intro I J A B hs
  obtain ⟨h, t, h1, h2, h3, h4, h5, h6, h7, h8, h9, h10, h11, h12, h13, h14, h15⟩ := hs
  rintro I7 rfl I2 rfl
  obtain ⟨k, hk, e1, e2, e3⟩ := id h12
  exact ⟨e1.trans e2.symm, h, t, h1, h2, h3, h4, h5, h6, h7, h8, h9, h10, h11, ⟨0, Nat.zero_le _, rfl, rfl, fun j hj => absurd hj (Nat.not_lt_zero j)⟩, h13, h14, h15⟩
/-! small predicates -/
theorem i64 (x : Int32) : (x.toInt64).toInt = x.toInt := by simp
theorem pe_in {a lo hi : Int64} {I : MI} {J : MJ} {Q : Int32 → MI → MJ → Prop} (h1 : lo ≤ a → a ≤ hi → Q 1 I J) (h0 : ¬ (lo ≤ a ∧ a ≤ hi) → Q 0 I J) : P_X12_in a lo hi I J Q := by
  refine ⟨fun c => h0 (fun ⟨c1, _⟩ => ?_), fun c => ⟨fun c2 => h0 (fun ⟨_, c1⟩ => ?_), fun c2 => h1 (Int64.not_lt.mp c) (Int64.not_lt.mp c2)⟩⟩
  · exact absurd c (Int64.not_lt.mpr c1)
  · exact absurd c2 (Int64.not_lt.mpr c1)
/-- an argument is one of the first n -/
def isW (n : Nat) (a : Int32) : Prop := ∃ u, u < n ∧ a = nI u
theorem isW_iff {n : Nat} {a : Int32} (hn : n < 2 ^ 31) : isW n a ↔ 0 ≤ a.toInt ∧ a.toInt < n := by
  constructor
  · rintro ⟨u, hu, rfl⟩
    rw [nI_toInt (by omega)]; omega
  · rintro ⟨h1, h2⟩
    refine ⟨a.toInt.toNat, by omega, ?_⟩
    apply Int32.toInt_inj.mp
    rw [nI_toInt (by omega)]; omega
theorem pe_has {k w : Nat} {a : Int32} {I : MI} {J : MJ} {Q : Int32 → MI → MJ → Prop} (e : I k 4 = nI w) (hw : w ≤ 10) (h1 : isW w a → Q 1 I J) (h0 : ¬ isW w a → Q 0 I J) : P_X5_has k a I J Q := by
  have hi := isW_iff (n := w) (a := a) (by omega)
  refine ⟨fun c => h0 (fun q => ?_), fun c => ⟨fun c2 => h0 (fun q => ?_), fun c2 => h1 (hi.mpr ?_)⟩⟩
  · rw [hi] at q; rw [Int32.lt_iff_toInt_lt] at c; simp at c; omega
  · rw [hi] at q; rw [e, Int32.le_iff_toInt_le, nI_toInt (by omega)] at c2; omega
  · rw [e, Int32.le_iff_toInt_le, nI_toInt (by omega)] at c2; rw [Int32.lt_iff_toInt_lt] at c; simp at c; omega
theorem pe_isWord {w : Nat} {a : Int32} {I : MI} {J : MJ} {Q : Int32 → MI → MJ → Prop} (e : I 0 2 = nI w) (hw : w ≤ 10) (h1 : isW w a → Q 1 I J) (h0 : ¬ isW w a → Q 0 I J) : P_X12_isWord a I J Q := by
  have hi := isW_iff (n := w) (a := a) (by omega)
  have e2 : ((I 0 2) - (1 : Int32)).toInt64.toInt = (w : Int) - 1 := by
    rw [i64, e, show (1 : Int32) = nI 1 from rfl, pk_sub_toInt (by omega) (by omega)]; rfl
  refine pe_in (fun c c2 => h1 (hi.mpr ?_)) (fun c => h0 (fun q => c ?_))
  · rw [Int64.le_iff_toInt_le] at c c2; rw [e2, i64] at c2; rw [i64] at c; simp at c; omega
  · rw [hi] at q; rw [Int64.le_iff_toInt_le, Int64.le_iff_toInt_le, e2, i64]; simp; omega
