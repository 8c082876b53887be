/-! ===== ints that stand for numbers: bits ===== -/
theorem nI_or (a b : Nat) : nI a ||| nI b = nI (a ||| b) := by
  apply Int32.toBitVec_inj.mp
  show (nI a).toBitVec ||| (nI b).toBitVec = (nI (a ||| b)).toBitVec
  have e : ∀ n, (nI n).toBitVec = BitVec.ofNat 32 n := fun n => rfl
  rw [e, e, e]
  apply BitVec.eq_of_toNat_eq
  simp [BitVec.toNat_or, BitVec.toNat_ofNat, Nat.or_mod_two_pow]
theorem nI_and (a b : Nat) : nI a &&& nI b = nI (a &&& b) := by
  apply Int32.toBitVec_inj.mp
  show (nI a).toBitVec &&& (nI b).toBitVec = (nI (a &&& b)).toBitVec
  have e : ∀ n, (nI n).toBitVec = BitVec.ofNat 32 n := fun n => rfl
  rw [e, e, e]
  apply BitVec.eq_of_toNat_eq
  simp [BitVec.toNat_and, BitVec.toNat_ofNat, Nat.and_mod_two_pow]
theorem lN_or (a b : Nat) : lN a ||| lN b = lN (a ||| b) := by
  apply Int64.toBitVec_inj.mp
  show (lN a).toBitVec ||| (lN b).toBitVec = (lN (a ||| b)).toBitVec
  have e : ∀ n, (lN n).toBitVec = BitVec.ofNat 64 n := fun n => rfl
  rw [e, e, e]
  apply BitVec.eq_of_toNat_eq
  simp [BitVec.toNat_or, BitVec.toNat_ofNat, Nat.or_mod_two_pow]
theorem lN_and (a b : Nat) : lN a &&& lN b = lN (a &&& b) := by
  apply Int64.toBitVec_inj.mp
  show (lN a).toBitVec &&& (lN b).toBitVec = (lN (a &&& b)).toBitVec
  have e : ∀ n, (lN n).toBitVec = BitVec.ofNat 64 n := fun n => rfl
  rw [e, e, e]
  apply BitVec.eq_of_toNat_eq
  simp [BitVec.toNat_and, BitVec.toNat_ofNat, Nat.and_mod_two_pow]
/-- a bit as a number -/
def bt (x k : Nat) : Nat := if x.testBit k then 1 else 0
theorem bt_eq (x k : Nat) : bt x k = x / 2 ^ k % 2 := by
  have h := Nat.testBit_eq_decide_div_mod_eq (x := x) (i := k)
  unfold bt
  rcases Nat.mod_two_eq_zero_or_one (x / 2 ^ k) with q | q
  · rw [q] at h ⊢
    rw [if_neg (by rw [h]; decide)]
  · rw [q] at h ⊢
    rw [if_pos (by rw [h]; decide)]
theorem sh31 {k : Nat} (hk : k < 31) : ((nI k &&& 31).toBitVec.smod 32).toNat = k := by
  rw [show (nI k &&& 31) = nI k from by rw [show (31 : Int32) = nI 31 from rfl, nI_and, Nat.and_two_pow_sub_one_of_lt_two_pow (n := 5) (by omega)]]
  rcases (show k = 0 ∨ k = 1 ∨ k = 2 ∨ k = 3 ∨ k = 4 ∨ k = 5 ∨ k = 6 ∨ k = 7 ∨ k = 8 ∨ k = 9 ∨ k = 10 ∨ k = 11 ∨ k = 12 ∨ k = 13 ∨ k = 14 ∨ k = 15 ∨ k = 16 ∨ k = 17 ∨ k = 18 ∨ k = 19 ∨ k = 20 ∨ k = 21 ∨ k = 22 ∨ k = 23 ∨ k = 24 ∨ k = 25 ∨ k = 26 ∨ k = 27 ∨ k = 28 ∨ k = 29 ∨ k = 30 by omega) with rfl | rfl | rfl | rfl | rfl | rfl | rfl | rfl | rfl | rfl | rfl | rfl | rfl | rfl | rfl | rfl | rfl | rfl | rfl | rfl | rfl | rfl | rfl | rfl | rfl | rfl | rfl | rfl | rfl | rfl | rfl <;> decide
theorem bitI {x k : Nat} (hx : x < 2 ^ 31) (hk : k < 31) : (nI x >>> (nI k &&& 31)) &&& (1 : Int32) = nI (bt x k) := by
  rw [pk_shrN hx _ k (sh31 hk), pk_andN (Nat.lt_of_le_of_lt (Nat.div_le_self _ _) (by omega)) 1 (by decide), bt_eq]
theorem shlI {k : Nat} (hk : k < 31) : (1 : Int32) <<< (nI k &&& 31) = nI (2 ^ k) := by
  have h : 2 ^ k < 2 ^ 31 := Nat.pow_lt_pow_right (by decide) hk
  rw [show (1 : Int32) = nI 1 from rfl, pk_shlN _ k (sh31 hk) (by omega), Nat.one_mul]
theorem bt_0 {x k : Nat} : nI (bt x k) = 0 ↔ x.testBit k = false := by
  unfold bt
  cases h : x.testBit k
  · exact ⟨fun _ => rfl, fun _ => rfl⟩
  · exact ⟨fun e => absurd e (by decide), fun e => absurd e (by decide)⟩
theorem bt_1 {x k : Nat} : nI (bt x k) = 1 ↔ x.testBit k = true := by
  unfold bt
  cases h : x.testBit k
  · exact ⟨fun e => absurd e (by decide), fun e => absurd e (by decide)⟩
  · exact ⟨fun _ => rfl, fun _ => rfl⟩
theorem bitI0 {x k : Nat} (hx : x < 2 ^ 31) (hk : k < 31) : (nI x >>> (nI k &&& 31)) &&& (1 : Int32) = 0 ↔ x.testBit k = false := by
  rw [bitI hx hk]; exact bt_0
theorem or_lt {a b n : Nat} (ha : a < 2 ^ n) (hb : b < 2 ^ n) : a ||| b < 2 ^ n := Nat.or_lt_two_pow ha hb
theorem pow_lt31 {k n : Nat} (h : k < n) : 2 ^ k < 2 ^ n := Nat.pow_lt_pow_right (by decide) h
theorem tb_or2 (x k j : Nat) : (x ||| 2 ^ k).testBit j = (x.testBit j || decide (k = j)) := by
  rw [Nat.testBit_or, Nat.testBit_two_pow]
/-! packs, letter by letter -/
theorem tb_pk {f : Nat → Nat} (hf : ∀ i, f i < 32) (n j : Nat) : (pk f n).testBit j = (decide (j / 5 < n) && (f (j / 5)).testBit (j % 5)) := by
  induction n with
  | zero => show (0 : Nat).testBit j = _; rw [Nat.zero_testBit]; simp
  | succ n ih =>
    show (pk f n + f n * 32 ^ n).testBit j = _
    have e : (32 : Nat) ^ n = 2 ^ (5 * n) := by rw [Nat.pow_mul]
    have hl : pk f n < 2 ^ (5 * n) := by rw [← e]; exact pkk_lt hf n
    rw [e, Nat.add_comm, Nat.mul_comm, Nat.testBit_two_pow_mul_add _ hl]
    by_cases h : j < 5 * n
    · rw [if_pos h, ih, decide_eq_true (show j / 5 < n by omega), decide_eq_true (show j / 5 < n + 1 by omega)]
    · rw [if_neg h]
      by_cases h2 : j / 5 = n
      · have h3 : j - 5 * n = j % 5 := by omega
        rw [h2, h3, decide_eq_true (by omega), Bool.true_and]
      · rw [decide_eq_false (show ¬ j / 5 < n + 1 by omega), Bool.false_and]
        have h4 : 5 ≤ j - 5 * n := by omega
        exact Nat.testBit_lt_two_pow (Nat.lt_of_lt_of_le (hf n) (show 2 ^ 5 ≤ 2 ^ (j - 5 * n) from Nat.pow_le_pow_right (by decide) h4))
theorem pk_orr {f g : Nat → Nat} (hf : ∀ i, f i < 32) (hg : ∀ i, g i < 32) (n : Nat) : pk f n ||| pk g n = pk (fun l => f l ||| g l) n := by
  apply Nat.eq_of_testBit_eq; intro j
  rw [Nat.testBit_or, tb_pk hf, tb_pk hg, tb_pk (fun i => or_lt (n := 5) (hf i) (hg i)), Nat.testBit_or, Bool.and_or_distrib_left]
theorem pk_andd {f g : Nat → Nat} (hf : ∀ i, f i < 32) (hg : ∀ i, g i < 32) (n : Nat) : pk f n &&& pk g n = pk (fun l => f l &&& g l) n := by
  apply Nat.eq_of_testBit_eq; intro j
  have h3 : ∀ i, f i &&& g i < 32 := fun i => Nat.lt_of_le_of_lt Nat.and_le_left (hf i)
  rw [Nat.testBit_and, tb_pk hf, tb_pk hg, tb_pk h3, Nat.testBit_and]
  cases decide (j / 5 < n) <;> simp
theorem pkk_sub {f g : Nat → Nat} {n : Nat} (h : ∀ l, l < n → g l ≤ f l) : pk (fun l => f l - g l) n + pk g n = pk f n := by
  induction n with
  | zero => rfl
  | succ n ih =>
    have h1 := ih (fun l hl => h l (by omega))
    have h2 : (f n - g n) * 32 ^ n + g n * 32 ^ n = f n * 32 ^ n := by
      rw [← Nat.add_mul]; congr 1; have := h n (by omega); omega
    show pk (fun l => f l - g l) n + (f n - g n) * 32 ^ n + (pk g n + g n * 32 ^ n) = pk f n + f n * 32 ^ n
    omega
theorem or16 {x : Nat} (h : x < 16) : x ||| 16 = x + 16 := by
  rcases (show x = 0 ∨ x = 1 ∨ x = 2 ∨ x = 3 ∨ x = 4 ∨ x = 5 ∨ x = 6 ∨ x = 7 ∨ x = 8 ∨ x = 9 ∨ x = 10 ∨ x = 11 ∨ x = 12 ∨ x = 13 ∨ x = 14 ∨ x = 15 by omega) with rfl | rfl | rfl | rfl | rfl | rfl | rfl | rfl | rfl | rfl | rfl | rfl | rfl | rfl | rfl | rfl <;> rfl
theorem and16 {x : Nat} (h : x < 32) : x &&& 16 = 16 ↔ 16 ≤ x := by
  have : ∀ x : Fin 32, x.val &&& 16 = 16 ↔ 16 ≤ x.val := by decide
  exact this ⟨x, h⟩
theorem holds_iff {d e : Nat → Nat} (hd : ∀ i, d i < 16) (he : ∀ i, e i < 16) : ((lN (pk d 8) ||| (567489872400 : Int64)) - lN (pk e 8)) &&& (567489872400 : Int64) = (567489872400 : Int64) ↔ ∀ l, l < 8 → e l ≤ d l := by
  have e0 : (567489872400 : Int64) = lN (pk (fun _ => 16) 8) := by decide
  have h16 : ∀ i : Nat, (fun _ : Nat => 16) i < 32 := fun _ => (by decide : 16 < 32)
  have hd2 : ∀ i, d i < 32 := fun i => by have := hd i; omega
  have e1 : pk d 8 ||| pk (fun _ => 16) 8 = pk (fun l => d l + 16) 8 := by
    rw [pk_orr hd2 h16]; exact pkk_congr (fun l _ => or16 (hd l))
  have e2 := pkk_sub (f := fun l => d l + 16) (g := e) (n := 8) (fun l _ => by have := he l; show e l ≤ d l + 16; omega)
  have hx : ∀ i, (fun l => d l + 16 - e l) i < 32 := fun i => by have := hd i; show d i + 16 - e i < 32; omega
  rw [e0, lN_or, e1, lN_sub (by omega), show pk (fun l => d l + 16) 8 - pk e 8 = pk (fun l => d l + 16 - e l) 8 from by omega, lN_and, pk_andd hx h16]
  have hy : ∀ i, (fun l => (d l + 16 - e l) &&& 16) i < 32 := fun i => Nat.lt_of_le_of_lt Nat.and_le_right (by decide)
  have l1 := pkk_lt hy 8
  have l2 := pkk_lt h16 8
  rw [pk_lEQ (by omega) (by omega)]
  constructor
  · intro hh l hl
    have h3 := pkk_inj hy h16 hh l hl
    have h4 := (and16 (hx l)).mp h3
    have := hd l
    have h5 : 16 ≤ d l + 16 - e l := h4
    omega
  · intro hh
    exact pkk_congr (fun l hl => (and16 (hx l)).mpr (by have := hh l hl; show 16 ≤ d l + 16 - e l; omega))
