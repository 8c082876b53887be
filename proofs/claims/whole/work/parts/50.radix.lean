/-! ===== places: figures to unlike bases ===== -/
theorem bs_pos (b : Nat → Nat) (n : Nat) : 0 < bs b n := by
  induction n with
  | zero => exact Nat.one_pos
  | succ n ih => exact Nat.mul_pos ih (Nat.succ_pos _)
theorem vl_lt {b d : Nat → Nat} {n : Nat} (h : ∀ l, l < n → d l ≤ b l) : vl b d n < bs b n := by
  induction n with
  | zero => exact Nat.one_pos
  | succ n ih =>
    have h1 := ih (fun l hl => h l (by omega))
    have h2 : d n * bs b n ≤ b n * bs b n := Nat.mul_le_mul_right _ (h n (by omega))
    show vl b d n + d n * bs b n < bs b n * (b n + 1)
    rw [Nat.mul_add, Nat.mul_comm (bs b n) (b n)]; omega
theorem vl_dg (b : Nat → Nat) (p n : Nat) : vl b (dg b p) n = p % bs b n := by
  induction n with
  | zero => show 0 = p % 1; omega
  | succ n ih =>
    show vl b (dg b p) n + (p / bs b n % (b n + 1)) * bs b n = p % (bs b n * (b n + 1))
    rw [ih, Nat.mod_mul, Nat.mul_comm]
theorem bs_split (b : Nat → Nat) (l d : Nat) : ∃ x, bs b (l + 1 + d) = bs b l * ((b l + 1) * x) := by
  induction d with
  | zero => exact ⟨1, by show bs b l * (b l + 1) = _; rw [Nat.mul_one]⟩
  | succ d ih =>
    obtain ⟨x, e⟩ := ih
    refine ⟨x * (b (l + 1 + d) + 1), ?_⟩
    show bs b (l + 1 + d) * (b (l + 1 + d) + 1) = _
    rw [e]; ac_rfl
theorem dg_vl {b d : Nat → Nat} {l : Nat} (n : Nat) (h : ∀ l, l < n → d l ≤ b l) (hl : l < n) : dg b (vl b d n) l = d l := by
  induction n with
  | zero => omega
  | succ n ih =>
    show (vl b d n + d n * bs b n) / bs b l % (b l + 1) = d l
    rcases Nat.lt_or_ge l n with q | q
    · obtain ⟨c, rfl⟩ : ∃ c, n = l + 1 + c := ⟨n - l - 1, by omega⟩
      obtain ⟨x, e⟩ := bs_split b l c
      have e2 : d (l + 1 + c) * bs b (l + 1 + c) = bs b l * ((b l + 1) * (x * d (l + 1 + c))) := by rw [e]; ac_rfl
      rw [e2, Nat.add_mul_div_left _ _ (bs_pos b l), Nat.add_mul_mod_self_left]
      exact ih (fun l hl => h l (by omega)) q
    · obtain rfl : l = n := by omega
      have h1 : vl b d l < bs b l := vl_lt (fun i hi => h i (by omega))
      rw [Nat.add_mul_div_right _ _ (bs_pos b l), Nat.div_eq_of_lt h1, Nat.zero_add]
      exact Nat.mod_eq_of_lt (by have := h l (by omega); omega)
theorem vl_sub {b d e : Nat → Nat} (n : Nat) (h : ∀ l, l < n → e l ≤ d l) : vl b (fun l => d l - e l) n + vl b e n = vl b d n := by
  induction n with
  | zero => rfl
  | succ n ih =>
    have h1 := ih (fun l hl => h l (by omega))
    have h2 : (d n - e n) * bs b n + e n * bs b n = d n * bs b n := by
      rw [← Nat.add_mul]; congr 1; have := h n (by omega); omega
    show vl b (fun l => d l - e l) n + (d n - e n) * bs b n + (vl b e n + e n * bs b n) = vl b d n + d n * bs b n
    omega
theorem dg_le (b : Nat → Nat) (p l : Nat) : dg b p l ≤ b l := by
  have : p / bs b l % (b l + 1) < b l + 1 := Nat.mod_lt _ (Nat.succ_pos _)
  unfold dg; omega
theorem vl_congr {b d e : Nat → Nat} (n : Nat) (h : ∀ l, l < n → d l = e l) : vl b d n = vl b e n := by
  induction n with
  | zero => rfl
  | succ n ih =>
    show vl b d n + d n * bs b n = vl b e n + e n * bs b n
    rw [ih (fun l hl => h l (by omega)), h n (by omega)]
/-- a step down: what a word takes away, figure by figure -/
theorem dg_step {b e : Nat → Nat} {p n : Nat} (hp : p < bs b n) (h : ∀ l, l < n → e l ≤ dg b p l) : vl b e n ≤ p ∧ ∀ l, l < n → dg b (p - vl b e n) l = dg b p l - e l := by
  have h1 : vl b (dg b p) n = p := by rw [vl_dg, Nat.mod_eq_of_lt hp]
  have h2 := vl_sub (b := b) n h
  refine ⟨by omega, fun l hl => ?_⟩
  have e3 : p - vl b e n = vl b (fun l => dg b p l - e l) n := by omega
  rw [e3, dg_vl n (fun i _ => Nat.le_trans (Nat.sub_le _ _) (dg_le b p i)) hl]
theorem vl_top (b : Nat → Nat) (n : Nat) : vl b b n + 1 = bs b n := by
  induction n with
  | zero => rfl
  | succ n ih =>
    show vl b b n + b n * bs b n + 1 = bs b n * (b n + 1)
    rw [Nat.mul_add, Nat.mul_comm (bs b n) (b n)]; omega
theorem dg_top {b : Nat → Nat} {l : Nat} (n : Nat) (hl : l < n) : dg b (bs b n - 1) l = b l := by
  have e : bs b n - 1 = vl b b n := by have := vl_top b n; omega
  rw [e]; exact dg_vl n (fun _ _ => Nat.le_refl _) hl
theorem vl_ge {b e : Nat → Nat} {l : Nat} (n : Nat) (hl : l < n) : e l ≤ vl b e n := by
  induction n with
  | zero => omega
  | succ n ih =>
    show e l ≤ vl b e n + e n * bs b n
    rcases Nat.lt_or_ge l n with q | q
    · have := ih q; omega
    · obtain rfl : l = n := by omega
      have : e l * 1 ≤ e l * bs b l := Nat.mul_le_mul_left _ (bs_pos b l)
      omega
theorem bs_bound (b : Nat → Nat) (n : Nat) : bs b n * (3 ^ n * 2 ^ sm b n) ≤ 4 ^ n * 3 ^ sm b n := by
  have key : ∀ k, (k + 1) * (3 * 2 ^ k) ≤ 4 * 3 ^ k := by
    intro k
    rcases k with _ | _ | k
    · decide
    · decide
    · induction k with
      | zero => decide
      | succ k ih =>
        have e1 : (k + 1 + 1 + 1 + 1) * (3 * 2 ^ (k + 1 + 1 + 1)) = (2 * (k + 4)) * (3 * 2 ^ (k + 1 + 1)) := by rw [Nat.pow_succ 2 (k + 1 + 1)]; ac_rfl
        have e2 : 4 * 3 ^ (k + 1 + 1 + 1) = 3 * (4 * 3 ^ (k + 1 + 1)) := by rw [Nat.pow_succ 3 (k + 1 + 1)]; ac_rfl
        rw [e1, e2]
        have h2 : (2 * (k + 4)) * (3 * 2 ^ (k + 1 + 1)) ≤ (3 * (k + 1 + 1 + 1)) * (3 * 2 ^ (k + 1 + 1)) := Nat.mul_le_mul_right _ (by omega)
        refine Nat.le_trans h2 ?_
        rw [Nat.mul_assoc]
        exact Nat.mul_le_mul_left 3 ih
  induction n with
  | zero => exact Nat.le_refl 1
  | succ n ih =>
    show bs b n * (b n + 1) * (3 ^ (n + 1) * 2 ^ (sm b n + b n)) ≤ 4 ^ (n + 1) * 3 ^ (sm b n + b n)
    have e1 : bs b n * (b n + 1) * (3 ^ (n + 1) * 2 ^ (sm b n + b n)) = (bs b n * (3 ^ n * 2 ^ sm b n)) * ((b n + 1) * (3 * 2 ^ b n)) := by
      rw [Nat.pow_succ, Nat.pow_add]; ac_rfl
    have e2 : 4 ^ (n + 1) * 3 ^ (sm b n + b n) = (4 ^ n * 3 ^ sm b n) * (4 * 3 ^ b n) := by
      rw [Nat.pow_succ, Nat.pow_add]; ac_rfl
    rw [e1, e2]
    exact Nat.mul_le_mul ih (key (b n))
theorem bs_13 {b : Nat → Nat} (h : sm b 8 ≤ 13) : bs b 8 ≤ 1944 := by
  have h1 := bs_bound b 8
  generalize bs b 8 = x at *
  generalize sm b 8 = s at *
  rcases (show s = 0 ∨ s = 1 ∨ s = 2 ∨ s = 3 ∨ s = 4 ∨ s = 5 ∨ s = 6 ∨ s = 7 ∨ s = 8 ∨ s = 9 ∨ s = 10 ∨ s = 11 ∨ s = 12 ∨ s = 13 by omega) with rfl | rfl | rfl | rfl | rfl | rfl | rfl | rfl | rfl | rfl | rfl | rfl | rfl | rfl <;> omega
theorem bs_12 {b : Nat → Nat} (h : sm b 8 ≤ 12) : bs b 8 ≤ 1296 := by
  have h1 := bs_bound b 8
  generalize bs b 8 = x at *
  generalize sm b 8 = s at *
  rcases (show s = 0 ∨ s = 1 ∨ s = 2 ∨ s = 3 ∨ s = 4 ∨ s = 5 ∨ s = 6 ∨ s = 7 ∨ s = 8 ∨ s = 9 ∨ s = 10 ∨ s = 11 ∨ s = 12 by omega) with rfl | rfl | rfl | rfl | rfl | rfl | rfl | rfl | rfl | rfl | rfl | rfl | rfl <;> omega
theorem bs_le {b : Nat → Nat} {l n : Nat} (h : l ≤ n) : bs b l ≤ bs b n := by
  induction n with
  | zero => obtain rfl : l = 0 := by omega
            exact Nat.le_refl _
  | succ n ih =>
    rcases Nat.lt_or_ge l (n + 1) with q | q
    · have h1 := ih (by omega)
      show bs b l ≤ bs b n * (b n + 1)
      have : bs b n * 1 ≤ bs b n * (b n + 1) := Nat.mul_le_mul_left _ (by omega)
      omega
    · obtain rfl : l = n + 1 := by omega
      exact Nat.le_refl _
theorem sm_add (u v : Nat → Nat) (s : Nat) : sm (fun k => u k + v k) s = sm u s + sm v s := by
  induction s with
  | zero => rfl
  | succ s ih => show sm (fun k => u k + v k) s + (u s + v s) = (sm u s + u s) + (sm v s + v s); rw [ih]; omega
theorem cnt_sum {f : Nat → Nat} {n : Nat} (h : ∀ i, i < n → f i < 8) : sm (fun l => cnt f l n) 8 = n := by
  induction n with
  | zero => rfl
  | succ n ih =>
    have h1 := ih (fun i hi => h i (by omega))
    have h2 := h n (by omega)
    have e : sm (fun l => cnt f l (n + 1)) 8 = sm (fun l => cnt f l n) 8 + sm (fun l => if f n = l then 1 else 0) 8 := sm_add _ _ 8
    have e2 : sm (fun l => if f n = l then 1 else 0) 8 = 1 := by
      rcases (show f n = 0 ∨ f n = 1 ∨ f n = 2 ∨ f n = 3 ∨ f n = 4 ∨ f n = 5 ∨ f n = 6 ∨ f n = 7 by omega) with e | e | e | e | e | e | e | e <;> rw [e] <;> rfl
    rw [e, h1, e2]
