/-! ===== sets of words ===== -/
def bcS1 (a : Int32) : Int32 := a - (((a.toUInt32 >>> ((1 : Int32).toUInt32 &&& Int32.toUInt32 31)).toInt32) &&& (1431655765 : Int32))
def bcS2 (x : Int32) : Int32 := (x &&& (858993459 : Int32)) + (((x.toUInt32 >>> ((2 : Int32).toUInt32 &&& Int32.toUInt32 31)).toInt32) &&& (858993459 : Int32))
def bcS3 (x : Int32) : Int32 := (x + ((x.toUInt32 >>> ((4 : Int32).toUInt32 &&& Int32.toUInt32 31)).toInt32)) &&& (252645135 : Int32)
def bcS4 (x : Int32) : Int32 := x + ((x.toUInt32 >>> ((8 : Int32).toUInt32 &&& Int32.toUInt32 31)).toInt32)
def bcS5 (x : Int32) : Int32 := (x + ((x.toUInt32 >>> ((16 : Int32).toUInt32 &&& Int32.toUInt32 31)).toInt32)) &&& (63 : Int32)
def bcN (x : Nat) : Nat := sm (fun k => bt x k) 16
theorem bc_all : ∀ x : Fin 1024, bcS5 (bcS4 (bcS3 (bcS2 (bcS1 (nI x.val))))) = nI (bcN x.val) := by decide +kernel
theorem pe_bitCount {x : Nat} {I : MI} {J : MJ} {Q : Int32 → MI → MJ → Prop} (hx : x < 1024) (hQ : Q (nI (bcN x)) I J) : P_J6_bitCount_0f7a4 (nI x) I J Q := by
  show Q (bcS5 (bcS4 (bcS3 (bcS2 (bcS1 (nI x)))))) I J
  rw [bc_all ⟨x, hx⟩]; exact hQ
theorem pe_ones {x : Nat} {A : MI} {B : MJ} {Q : Int32 → MI → MJ → Prop} (hx : x < 2 ^ 31) (hQ : Q (nI (bcN x)) A B) : P_X12_ones (nI x) A B Q := by
  refine lpx_up (fun i z => z = (nI x, nI (sm (fun k => bt x k) i), nI i, A, B)) 16 ?_ ?_ 0 _ (Nat.zero_le _) rfl
  · rintro z k rfl; exact pk_le 16 16 (fun _ => hQ) (fun c => by omega)
  · rintro i z k hi rfl hk
    refine pk_le 16 i (fun c => by omega) (fun _ => hk _ ?_)
    rw [bitI hx (by omega), nI_add, nI_1]; rfl
theorem ub_bc {h : Ho} {t : Se} (h1 : hoOK h) (hX : seX t < 2 ^ hoW h) : ub t (hoW h) + bcN (seX t) = hoW h := by
  have hw10 := h1.1
  have e1 : ∀ n, ub t n + sm (fun k => bt (seX t) k) n = n := by
    intro n
    induction n with
    | zero => rfl
    | succ n ih =>
      show (ub t n + (if okB t n then 1 else 0)) + (sm (fun k => bt (seX t) k) n + bt (seX t) n) = n + 1
      have : (if okB t n then 1 else 0) + bt (seX t) n = 1 := by
        unfold okB bt; cases (seX t).testBit n <;> rfl
      omega
  have e2 : ∀ d, sm (fun k => bt (seX t) k) (hoW h + d) = sm (fun k => bt (seX t) k) (hoW h) := by
    intro d
    induction d with
    | zero => rfl
    | succ d ih =>
      show sm (fun k => bt (seX t) k) (hoW h + d) + bt (seX t) (hoW h + d) = _
      have : bt (seX t) (hoW h + d) = 0 := by
        unfold bt
        rw [Nat.testBit_lt_two_pow (Nat.lt_of_lt_of_le hX (Nat.pow_le_pow_right (by decide) (by omega)))]; rfl
      rw [this, ih, Nat.add_zero]
  have := e1 (hoW h)
  have h16 := e2 (16 - hoW h)
  rw [show hoW h + (16 - hoW h) = 16 by omega] at h16
  unfold bcN
  omega
theorem ub_le (t : Se) (n : Nat) : ub t n ≤ n := by
  induction n with
  | zero => exact Nat.le_refl 0
  | succ n ih => show ub t n + (if okB t n then 1 else 0) ≤ n + 1; split <;> omega
theorem ub_mono (t : Se) {i j : Nat} (h : i ≤ j) : ub t i ≤ ub t j := sm_le_sm _ h
theorem ub_lt {t : Se} {w n : Nat} (hw : w < n) (ho : okB t w = true) : ub t w < ub t n := by
  have h1 := ub_mono t (show w + 1 ≤ n by omega)
  have h2 : ub t (w + 1) = ub t w + (if okB t w then 1 else 0) := rfl
  rw [ho] at h2
  have : (if true = true then 1 else 0) = 1 := rfl
  omega
theorem ub_inj {t : Se} {v w : Nat} (hv : okB t v = true) (hw : okB t w = true) (e : ub t v = ub t w) : v = w := by
  rcases Nat.lt_or_ge v w with q | q
  · have := ub_lt q hv; omega
  · rcases Nat.lt_or_ge w v with q2 | q2
    · have := ub_lt q2 hw; omega
    · omega
/-- a mask of bits -/
def mkN (P : Nat → Bool) : Nat → Nat
  | 0 => 0
  | n + 1 => mkN P n + (if P n then 2 ^ n else 0)
theorem mkN_lt (P : Nat → Bool) (n : Nat) : mkN P n < 2 ^ n := by
  induction n with
  | zero => exact Nat.one_pos
  | succ n ih => show mkN P n + (if P n then 2 ^ n else 0) < 2 ^ (n + 1); rw [Nat.pow_succ]; split <;> omega
theorem mkN_bit (P : Nat → Bool) (n b : Nat) : (mkN P n).testBit b = (decide (b < n) && P b) := by
  induction n with
  | zero => show (0 : Nat).testBit b = _; rw [Nat.zero_testBit]; rfl
  | succ n ih =>
    show (mkN P n + (if P n then 2 ^ n else 0)).testBit b = _
    have hl := mkN_lt P n
    have e : mkN P n + (if P n then 2 ^ n else 0) = 2 ^ n * (if P n then 1 else 0) + mkN P n := by split <;> omega
    rw [e, Nat.testBit_two_pow_mul_add _ hl]
    by_cases h : b < n
    · rw [if_pos h, ih, decide_eq_true h, decide_eq_true (show b < n + 1 by omega)]
    · rw [if_neg h]
      by_cases h2 : b = n
      · subst h2
        rw [Nat.sub_self, decide_eq_true (by omega), Bool.true_and]
        cases P b <;> rfl
      · rw [decide_eq_false (show ¬ b < n + 1 by omega), Bool.false_and]
        have : (if P n then 1 else 0) < 2 ^ (b - n) := Nat.lt_of_lt_of_le (show (if P n then 1 else 0) < 2 ^ 1 by split <;> omega) (Nat.pow_le_pow_right (by decide) (by omega))
        exact Nat.testBit_lt_two_pow this
theorem lN_bit {m b : Nat} (hm : m < 2 ^ 64) : (lN m).toBitVec.getLsbD b = m.testBit b := by
  show (BitVec.ofNat 64 m).getLsbD b = _
  rw [BitVec.getLsbD_ofNat]
  by_cases h : b < 64
  · rw [decide_eq_true h, Bool.true_and]
  · rw [decide_eq_false h, Bool.false_and]
    exact (Nat.testBit_lt_two_pow (Nat.lt_of_lt_of_le hm (Nat.pow_le_pow_right (by decide) (by omega)))).symm
theorem i64_ext {x y : Int64} (h : ∀ b, b < 64 → x.toBitVec.getLsbD b = y.toBitVec.getLsbD b) : x = y := by
  apply Int64.toBitVec_inj.mp
  exact BitVec.eq_of_getLsbD_eq (fun b hb => h b hb)
def wtF (S : Nat → Int64) (x y : Int64) (u : Nat) : Int64 := x ||| (y &&& S u)
def jnF (x y : Int64) : Int64 := x ||| y
theorem WayOK_56 {N : Nat} (hN : N ≤ 10) (R : Nat → Int32) (S : Nat → Int64) : WayOK 56 0 (-1) jnF (wtF S) N R S := fun I J _ e57 =>
  ⟨fun Q q => ⟨fun e => absurd e (by decide), fun e => absurd e (by decide), fun _ => q⟩, fun Q q => ⟨fun e => absurd e (by decide), fun e => absurd e (by decide), fun _ => q⟩, fun x y Q q => ⟨fun e => absurd e (by decide), fun e => absurd e (by decide), fun _ => q⟩, fun x y u Q hu q => ⟨fun e => absurd e (by decide), fun e => absurd e (by decide), fun _ => ⟨vp_in_nI (by omega) (by decide), by rw [nI_clamp (by omega), e57]; exact q⟩⟩⟩
theorem hd_bit {op : Nat → Bool} {K : Nat → Nat} {S G : Nat → Int64} {k b : Nat} (n : Nat) : (hd (wtF S) 0 op K G k n).toBitVec.getLsbD b = true ↔ ∃ u, u < n ∧ op u = true ∧ K u = k ∧ (G u).toBitVec.getLsbD b = true ∧ (S u).toBitVec.getLsbD b = true := by
  induction n with
  | zero =>
    show (0 : Int64).toBitVec.getLsbD b = true ↔ _
    refine ⟨fun e => ?_, fun ⟨u, hu, _⟩ => absurd hu (Nat.not_lt_zero u)⟩
    rw [show (0 : Int64).toBitVec = BitVec.ofNat 64 0 from rfl, BitVec.getLsbD_ofNat, Nat.zero_testBit, Bool.and_false] at e
    exact absurd e (by decide)
  | succ n ih =>
    show (if op n && decide (K n = k) then wtF S (hd (wtF S) 0 op K G k n) (G n) n else hd (wtF S) 0 op K G k n).toBitVec.getLsbD b = true ↔ _
    by_cases hb : (op n && decide (K n = k)) = true
    · rw [if_pos hb]
      show ((hd (wtF S) 0 op K G k n).toBitVec ||| ((G n).toBitVec &&& (S n).toBitVec)).getLsbD b = true ↔ _
      rw [BitVec.getLsbD_or, BitVec.getLsbD_and, Bool.or_eq_true, Bool.and_eq_true, ih]
      rw [Bool.and_eq_true, decide_eq_true_iff] at hb
      constructor
      · rintro (⟨u, hu, r⟩ | r)
        · exact ⟨u, by omega, r⟩
        · exact ⟨n, by omega, hb.1, hb.2, r⟩
      · rintro ⟨u, hu, r⟩
        rcases Nat.lt_or_ge u n with q | q
        · exact Or.inl ⟨u, q, r⟩
        · rw [show u = n by omega] at r; exact Or.inr r.2.2
    · rw [if_neg hb, ih]
      rw [Bool.and_eq_true, decide_eq_true_iff] at hb
      constructor
      · rintro ⟨u, hu, r⟩; exact ⟨u, by omega, r⟩
      · rintro ⟨u, hu, r⟩
        rcases Nat.lt_or_ge u n with q | q
        · exact ⟨u, q, r⟩
        · rw [show u = n by omega] at r; exact absurd ⟨r.1, r.2.1⟩ hb
theorem hs_bit {m b : Nat} {f : Nat → Int64} (n : Nat) : (hs jnF 0 m f n).toBitVec.getLsbD b = true ↔ ∃ k, k < n ∧ m.testBit k = true ∧ (f k).toBitVec.getLsbD b = true := by
  induction n with
  | zero =>
    show (0 : Int64).toBitVec.getLsbD b = true ↔ _
    refine ⟨fun e => ?_, fun ⟨u, hu, _⟩ => absurd hu (Nat.not_lt_zero u)⟩
    rw [show (0 : Int64).toBitVec = BitVec.ofNat 64 0 from rfl, BitVec.getLsbD_ofNat, Nat.zero_testBit, Bool.and_false] at e
    exact absurd e (by decide)
  | succ n ih =>
    show (if m.testBit n then jnF (hs jnF 0 m f n) (f n) else hs jnF 0 m f n).toBitVec.getLsbD b = true ↔ _
    by_cases hb : m.testBit n = true
    · rw [if_pos hb]
      show ((hs jnF 0 m f n).toBitVec ||| (f n).toBitVec).getLsbD b = true ↔ _
      rw [BitVec.getLsbD_or, Bool.or_eq_true, ih]
      constructor
      · rintro (⟨u, hu, r⟩ | r)
        · exact ⟨u, by omega, r⟩
        · exact ⟨n, by omega, hb, r⟩
      · rintro ⟨u, hu, r⟩
        rcases Nat.lt_or_ge u n with q | q
        · exact Or.inl ⟨u, q, r⟩
        · rw [show u = n by omega] at r; exact Or.inr r.2
    · rw [if_neg hb, ih]
      constructor
      · rintro ⟨u, hu, r⟩; exact ⟨u, by omega, r⟩
      · rintro ⟨u, hu, r⟩
        rcases Nat.lt_or_ge u n with q | q
        · exact ⟨u, q, r⟩
        · rw [show u = n by omega] at r; exact absurd r.1 hb
/-- the words of the set that a bit stands for -/
def okS (t : Se) (S : Nat → Int64) (b w : Nat) : Bool := okB t w && (S w).toBitVec.getLsbD b
def famN (h : Ho) (t : Se) (S : Nat → Int64) (p a : Nat) : Nat := mkN (fun b => decide (0 < V h t (okS t S b) p a)) 64
theorem fam_bit {h : Ho} {t : Se} {S : Nat → Int64} {p a b : Nat} (hb : b < 64) : (lN (famN h t S p a)).toBitVec.getLsbD b = decide (0 < V h t (okS t S b) p a) := by
  unfold famN
  rw [lN_bit (mkN_lt _ 64)]
  rw [mkN_bit, decide_eq_true hb, Bool.true_and]
theorem pe_foldF {h : Ho} {t : Se} {I : MI} {J : MJ} {Q : Int64 → MI → MJ → Prop} (h1 : hoOK h) (h2 : seOK h t) (hX : CX I J h t) (hP : Ph I J h t) (h14 : S_sw (I 39 8) (I 39 9)) (hQ : ∀ (J' : MJ) (v : Int64), (∀ c, c ≠ 53 → c ≠ 44 → c ≠ 45 → J' c = J c) → Ph I J' h t → (∀ b, b < 64 → v.toBitVec.getLsbD b = decide (0 < V h t (okS t (J 57) b) (tp t) 4)) → Q v I J') : P_X6_foldWithin 56 (1023 : Int32) I J Q := by
  have hw10 := h1.1
  have hE := h2.2.2.2.2.1
  obtain ⟨s1, s2, s3⟩ := sw_of h14
  refine pe_ground (WayOK_56 hw10 _ _) (by omega) hX.2.2.2.2.2.1 hE (fun J1 g1 g2 g3 => ?_)
  obtain ⟨op, hop⟩ := opEx h t 1023
  have t10 : ∀ w, w < hoW h → (1023 : Nat).testBit w = true := fun w hw => by
    have : ∀ w : Fin 10, (1023 : Nat).testBit w.val = true := by decide
    exact this ⟨w, by omega⟩
  have e0 : ∀ a, a < 4 → J1 (sw (I 39 8)) a = lN (famN h t (J 57) 0 a) := fun a ha => by
    rw [g2 a ha]
    refine i64_ext (fun b hb => ?_)
    rw [fam_bit hb, V_0]
    unfold eb
    cases (seE t).testBit a
    · show (0 : Int64).toBitVec.getLsbD b = decide (0 < 0)
      rw [show (0 : Int64).toBitVec = BitVec.ofNat 64 0 from rfl, BitVec.getLsbD_ofNat, Nat.zero_testBit, Bool.and_false]; rfl
    · show (-1 : Int64).toBitVec.getLsbD b = decide (0 < 1)
      rw [show (-1 : Int64).toBitVec = BitVec.allOnes 64 from by decide, BitVec.getLsbD_allOnes, decide_eq_true hb]; rfl
  have hval : ∀ p a, 0 < p → p ≤ tp t → Rc h t p a → hs jnF 0 (msk t a) (fun k => hd (wtF (J 57)) 0 (op p) (hoK h) (fun u => lN (famN h t (J 57) (p - pr h t u) (hoK h u))) k (hoW h)) 4 = lN (famN h t (J 57) p a) := fun p a hp0 hp hr => by
    refine i64_ext (fun b hb => ?_)
    rw [fam_bit hb]
    have key : (hs jnF 0 (msk t a) (fun k => hd (wtF (J 57)) 0 (op p) (hoK h) (fun u => lN (famN h t (J 57) (p - pr h t u) (hoK h u))) k (hoW h)) 4).toBitVec.getLsbD b = true ↔ 0 < V h t (okS t (J 57) b) p a := by
      rw [hs_bit, V_p h1 hp0 hp, sm_pos]
      constructor
      · rintro ⟨k, hk, hm, hd9⟩
        obtain ⟨u, hu, ho, ek, hg, hS⟩ := (hd_bit (hoW h)).mp hd9
        obtain ⟨_, hop9⟩ := (hop p u).mp ho
        obtain ⟨q1, q2, q3⟩ := Op_fit hop9
        refine ⟨u, hu, ?_⟩
        have hmay : may h t (okS t (J 57) b) p a u = true := may_iff.mpr ⟨by unfold okS; rw [q1, hS]; rfl, by rw [ek]; exact hm, q2⟩
        rw [if_pos hmay]
        rw [fam_bit hb, decide_eq_true_iff] at hg
        exact hg
      · rintro ⟨u, hu, hv⟩
        by_cases hmay : may h t (okS t (J 57) b) p a u = true
        · rw [if_pos hmay] at hv
          obtain ⟨m1, m2, m3⟩ := may_iff.mp hmay
          unfold okS at m1; rw [Bool.and_eq_true] at m1
          refine ⟨hoK h u, (h1.2 u hu).1, m2, (hd_bit (hoW h)).mpr ⟨u, hu, (hop p u).mpr ⟨t10 u hu, a, hr, may_iff.mpr ⟨m1.1, m2, m3⟩, fun e => ?_⟩, rfl, ?_, m1.2⟩⟩
          · rw [e, V_0] at hv
            unfold eb at hv
            cases hb9 : (seE t).testBit (hoK h u) with
            | true => rfl
            | false => rw [hb9] at hv; exact absurd hv (Nat.lt_irrefl 0)
          · rw [fam_bit hb, decide_eq_true_iff]; exact hv
        · rw [if_neg hmay] at hv; exact absurd hv (Nat.lt_irrefl 0)
    cases hx : (hs jnF 0 (msk t a) (fun k => hd (wtF (J 57)) 0 (op p) (hoK h) (fun u => lN (famN h t (J 57) (p - pr h t u) (hoK h u))) k (hoW h)) 4).toBitVec.getLsbD b with
    | true => rw [decide_eq_true (key.mp hx)]
    | false => rw [decide_eq_false (fun q => absurd (hx.symm.trans (key.mpr q)) (by decide))]
  refine pe_fold (G := fun p a => lN (famN h t (J 57) p a)) (F := fun p a => lN (famN h t (J 57) p a)) (op := op) (al := 1023) h1 h2 ⟨hX.1.1, hX.1.2.1, fun u hu => by rw [g1 15 (by omega)]; exact hX.1.2.2 u hu⟩ hX.2 hP.1 (by rw [g1 57 (by omega)]; exact WayOK_56 hw10 _ _) (by omega) (by omega) (by omega) (by omega) (by decide) (fun p u _ _ _ => hop p u) (fun q a ha hr hq => ?_) (fun _ => rfl) (fun p a hp0 ha hr => (hval p a hp0 (by have := Rc_le h1 hr; omega) hr).symm) (fun J2 f1 f2 f3 => ?_)
  · rcases hq with q1 | q1
    · exact absurd rfl q1
    · subst q1; rw [Nat.zero_mul, Nat.zero_add]; exact e0 a ha
  · refine hQ J2 _ (fun c c1 c2 c3 => (f1 c c1 (by omega)).trans (g1 c (by omega))) ?_ (fun b hb => ?_)
    · show PhOK _ _ _ _ _ _ (J2 39) (J2 41) (J2 42) h t
      rw [f1 39 (by omega) (by omega), f1 41 (by omega) (by omega), f1 42 (by omega) (by omega), g1 39 (by omega), g1 41 (by omega), g1 42 (by omega)]
      exact hP
    · by_cases ht : 0 < tp t
      · rw [if_pos ht]
        have := hval (tp t) 4 ht (Nat.le_refl _) (Rc_top h t)
        rw [← fam_bit (h := h) (t := t) (S := J 57) hb, ← this]; rfl
      · rw [if_neg ht, show tp t = 0 by omega, V_0]
        unfold eb
        rw [Nat.testBit_lt_two_pow (i := 4) (by omega), show (0 : Int64).toBitVec = BitVec.ofNat 64 0 from rfl, BitVec.getLsbD_ofNat, Nat.zero_testBit, Bool.and_false]; rfl
