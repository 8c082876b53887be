/-! packs: five bits a letter -/
theorem pkk_lt {f : Nat → Nat} (hf : ∀ i, f i < 32) (n : Nat) : pk f n < 32 ^ n := by
  induction n with
  | zero => exact Nat.one_pos
  | succ n ih =>
    show pk f n + f n * 32 ^ n < 32 ^ (n + 1)
    have h1 : f n * 32 ^ n ≤ 31 * 32 ^ n := Nat.mul_le_mul_right _ (by have := hf n; omega)
    rw [Nat.pow_succ]; omega
theorem pkk_digit {f : Nat → Nat} (hf : ∀ i, f i < 32) {l : Nat} (n : Nat) (h : l < n) : pk f n / 32 ^ l % 32 = f l := by
  induction n with
  | zero => omega
  | succ n ih =>
    show (pk f n + f n * 32 ^ n) / 32 ^ l % 32 = f l
    rcases Nat.lt_or_ge l n with q | q
    · obtain ⟨d, rfl⟩ : ∃ d, n = l + 1 + d := ⟨n - l - 1, by omega⟩
      have e : f (l + 1 + d) * 32 ^ (l + 1 + d) = 32 ^ l * (32 * (f (l + 1 + d) * 32 ^ d)) := by
        rw [Nat.pow_add, Nat.pow_succ]; ac_rfl
      rw [e, Nat.add_mul_div_left _ _ (Nat.pow_pos (by decide)), Nat.add_mul_mod_self_left]
      exact ih q
    · obtain rfl : l = n := by omega
      rw [Nat.add_mul_div_right _ _ (Nat.pow_pos (by decide)), Nat.div_eq_of_lt (pkk_lt hf l), Nat.zero_add]
      exact Nat.mod_eq_of_lt (hf l)
theorem pkk_inj {f g : Nat → Nat} (hf : ∀ i, f i < 32) (hg : ∀ i, g i < 32) {n : Nat} (h : pk f n = pk g n) : ∀ l, l < n → f l = g l := fun l hl => by
  rw [← pkk_digit hf n hl, ← pkk_digit hg n hl, h]
theorem pkk_congr {f g : Nat → Nat} {n : Nat} (h : ∀ l, l < n → f l = g l) : pk f n = pk g n := by
  induction n with
  | zero => rfl
  | succ n ih =>
    show pk f n + f n * 32 ^ n = pk g n + g n * 32 ^ n
    rw [ih (fun l hl => h l (by omega)), h n (by omega)]
theorem cnt_le (f : Nat → Nat) (l n : Nat) : cnt f l n ≤ n := by
  induction n with
  | zero => exact Nat.le_refl 0
  | succ n ih =>
    show cnt f l n + (if f n = l then 1 else 0) ≤ n + 1
    by_cases h : f n = l
    · rw [if_pos h]; omega
    · rw [if_neg h]; omega
/-- a shift of a long that isn't less than 0, by five times a letter -/
theorem shr5 {p l : Nat} (hp : p < 2 ^ 40) (hl : l < 8) : lN p >>> (((5 : Int32) * nI l).toInt64 &&& 63) = lN (p / 32 ^ l) := by
  have hs : (((5 : Int32) * nI l).toInt64 &&& 63).toBitVec.smod 64 = BitVec.ofNat 64 (5 * l) := by
    rcases (show l = 0 ∨ l = 1 ∨ l = 2 ∨ l = 3 ∨ l = 4 ∨ l = 5 ∨ l = 6 ∨ l = 7 by omega) with rfl | rfl | rfl | rfl | rfl | rfl | rfl | rfl <;> decide
  apply Int64.toBitVec_inj.mp
  rw [Int64.toBitVec_shiftRight, hs]
  have e : ∀ n, (lN n).toBitVec = BitVec.ofNat 64 n := fun n => rfl
  rw [e, e]
  have hm : (BitVec.ofNat 64 p).msb = false := by
    rw [BitVec.msb_eq_false_iff_two_mul_lt, BitVec.toNat_ofNat, Nat.mod_eq_of_lt (by omega)]; omega
  rw [BitVec.sshiftRight', BitVec.sshiftRight_eq_of_msb_false hm]
  apply BitVec.eq_of_toNat_eq
  rw [BitVec.toNat_ushiftRight, BitVec.toNat_ofNat, BitVec.toNat_ofNat, BitVec.toNat_ofNat, Nat.mod_eq_of_lt (by omega), Nat.mod_eq_of_lt (by omega), Nat.shiftRight_eq_div_pow, Nat.pow_mul]
  rw [Nat.mod_eq_of_lt]
  exact Nat.lt_of_le_of_lt (Nat.div_le_self _ _) (by omega)
