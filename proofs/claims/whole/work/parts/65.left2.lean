theorem len_pos {h : Ho} {t : Se} (h2 : seOK h t) {n L : Nat} (hn : n < V h t (okB t) (tp t) 4) (hL : isLen h t n L) : 0 < L := by
  rcases Nat.eq_zero_or_pos L with q | q
  · have e1 := hL.2.1
    rw [q] at e1
    have e2 : tp t = 0 := e1
    rw [e2, V_0] at hn
    unfold eb at hn
    rw [Nat.testBit_lt_two_pow (i := 4) (by have := h2.2.2.2.2.1; omega)] at hn
    exact absurd hn (Nat.not_lt_zero n)
  · exact q
theorem fsP_uniq {ag : Nat → Bool} {N : Nat} {x y : Int32} (hx : fsP ag N 0 x) (hy : fsP ag N 0 y) : x = y := by
  rcases hx with ⟨i, r1, r2, r3, r4, r5⟩ | ⟨r1, r2⟩ <;> rcases hy with ⟨j, s1, s2, s3, s4, s5⟩ | ⟨s1, s2⟩
  · rcases Nat.lt_or_ge i j with q | q
    · exact absurd (r3.symm.trans (s5 i (Nat.zero_le _) q)) (by decide)
    · rcases Nat.lt_or_ge j i with q2 | q2
      · exact absurd (s3.symm.trans (r5 j (Nat.zero_le _) q2)) (by decide)
      · rw [r4, s4, show i = j by omega]
  · exact absurd (r3.symm.trans (s2 i (Nat.zero_le _) r2)) (by decide)
  · exact absurd (s3.symm.trans (r2 j (Nat.zero_le _) s2)) (by decide)
  · rw [r1, s1]
theorem s_left : st_left Sim := by
  intro a I J A B hs
  obtain ⟨h, t, hH⟩ := Sim_H.mp hs
  obtain ⟨h1, h2, h3, h4, h5, h6, h7, h8, h9, h10, h11, h12, h13, h14, h15⟩ := id hH
  have hX : CX I J h t := ⟨lexX_C h3, h5⟩
  have hw10 := h1.1
  have hV := V_small (ok := okB t) h1 (seOK_O h2).1 (Nat.le_refl (tp t)) 4
  have h13p : (10 : Nat) ^ 13 < 2 ^ 60 := by decide
  obtain ⟨k, hk, ek1, ek2, hse⟩ := id h12
  have hbad : ¬ (0 ≤ a.toInt ∧ a.toInt ≤ 1) → P_X12_left a A B (fun r2 I2 J2 => (-2 : Int32) = r2 ∧ Sim I J I2 J2) := fun hn =>
    pe_inI (p := 0) (q := 1) (by decide) (by decide) (fun c c2 => absurd ⟨c, c2⟩ hn) (fun _ => ⟨fun c => absurd rfl c, fun _ => ⟨rfl, hs⟩⟩)
  refine ⟨fun c => hbad (by rw [lt0] at c; omega), fun c => ⟨fun c2 => ?_, fun c2 => hbad (by rw [show (1 : Int32) = nI 1 from rfl, le_lit (by decide)] at c2; omega)⟩⟩
  obtain ⟨w, hw, rfl⟩ : ∃ w, w ≤ 1 ∧ a = nI w := nI_of2 (n := 1) (by decide) c c2
  -- what was seen, as numbers
  have hsx : ∀ i, i < k → (I 65 (i * 3)).toNatClampNeg ≤ 3 ∧ (I 65 (i * 3 + 1)).toNatClampNeg ≤ 12 ∧ (I 65 (i * 3 + 2)).toNatClampNeg ≤ 1 ∧ I 65 (i * 3) = nI (I 65 (i * 3)).toNatClampNeg ∧ I 65 (i * 3 + 1) = nI (I 65 (i * 3 + 1)).toNatClampNeg ∧ I 65 (i * 3 + 2) = nI (I 65 (i * 3 + 2)).toNatClampNeg ∧ A 12 i = nI (I 65 (i * 3)).toNatClampNeg ∧ A 13 i = nI (I 65 (i * 3 + 1)).toNatClampNeg ∧ A 14 i = nI (I 65 (i * 3 + 2)).toNatClampNeg := fun i hi => by
    obtain ⟨a, b, c, q1, q2, q3, q4, q5, q6, q7, q8, q9⟩ := hse i hi
    rw [q4, q5, q6, nI_clamp (by omega), nI_clamp (by omega), nI_clamp (by omega)]
    exact ⟨q1, q2, q3, rfl, rfl, rfl, q7, q8, q9⟩
  refine pe_count h1 h2 hX h15.1 (fun I1 J1 f1 p1 => ?_)
  have f1N := frR_N f1
  -- the reference, whatever the class has come to
  have href : ∀ (I2 : MI) (J2 : MJ) (r : Int32), frN I I2 J J2 → Ph I2 J2 h t → (2000 < V h t (okB t) (tp t) 4 → r = -3) → (V h t (okB t) (tp t) 4 ≤ 2000 → (w = 0 → r = nI (sm (fun n => bN (agB (fln h t n) (fnd h t n) (fun i => (I 65 (i * 3)).toNatClampNeg) (fun i => (I 65 (i * 3 + 1)).toNatClampNeg) (fun i => (I 65 (i * 3 + 2)).toNatClampNeg) k)) (V h t (okB t) (tp t) 4))) ∧ (w = 1 → fsP (fun n => agB (fln h t n) (fnd h t n) (fun i => (I 65 (i * 3)).toNatClampNeg) (fun i => (I 65 (i * 3 + 1)).toNatClampNeg) (fun i => (I 65 (i * 3 + 2)).toNatClampNeg) k) (V h t (okB t) (tp t) 4) 0 r)) → P_X12_left (nI w) A B (fun r2 A2 B2 => r = r2 ∧ Sim I2 J2 A2 B2) := fun I2 J2 r f2 p2 hr1 hr2 => by
    refine pe_leftM (k := k) (sa := fun i => (I 65 (i * 3)).toNatClampNeg) (sb := fun i => (I 65 (i * 3 + 1)).toNatClampNeg) (sc := fun i => (I 65 (i * 3 + 2)).toNatClampNeg) h1 h2 (lexM_N h4) h6 hw hk ek2 (fun i hi => ?_) (fun A' B' fA fB hb => ⟨hr1 hb, Sim_ph hH f2.1 (frM_of fA fB) (frN_sw f2 h14) (Or.inr p2)⟩) (fun A' B' x fA fB hb hx => ⟨?_, Sim_ph hH f2.1 (frM_of fA fB) (frN_sw f2 h14) (Or.inr p2)⟩)
    · obtain ⟨q1, q2, q3, q4, q5, q6, q7, q8, q9⟩ := hsx i hi
      exact ⟨q1, q2, q3, q7, q8, q9⟩
    · by_cases hw0 : w = 0
      · rw [if_pos hw0]; exact (hr2 hb).1 hw0
      · rw [if_neg hw0]; exact fsP_uniq ((hr2 hb).2 (by omega)) hx
  refine ⟨fun c3 => ?_, fun c3 => href I1 J1 _ f1N p1 (fun _ => rfl) (fun hb => absurd ((pk_lLE (b := 2000) (by omega) (by decide)).mpr hb) c3)⟩
  have hV2 : V h t (okB t) (tp t) 4 ≤ 2000 := (pk_lLE (b := 2000) (by omega) (by decide)).mp c3
  refine lpx_up (fun i z => ∃ (I' : MI) (J' : MJ), z = (nI w, lN (V h t (okB t) (tp t) 4), nI (sm (fun n => bN (agB (fln h t n) (fnd h t n) (fun i => (I 65 (i * 3)).toNatClampNeg) (fun i => (I 65 (i * 3 + 1)).toNatClampNeg) (fun i => (I 65 (i * 3 + 2)).toNatClampNeg) k)) i), nI i, I', J') ∧ frN I I' J J' ∧ Ph I' J' h t ∧ (w = 1 → ∀ j, j < i → agB (fln h t j) (fnd h t j) (fun i => (I 65 (i * 3)).toNatClampNeg) (fun i => (I 65 (i * 3 + 1)).toNatClampNeg) (fun i => (I 65 (i * 3 + 2)).toNatClampNeg) k = false)) (V h t (okB t) (tp t) 4) ?_ ?_ 0 _ (Nat.zero_le _) ⟨I1, J1, rfl, f1N, p1, fun _ j hj => absurd hj (Nat.not_lt_zero j)⟩
  · rintro z k2 ⟨I', J', rfl, g1, g2, g3⟩
    refine ⟨fun _ => ⟨fun c4 => ?_, fun c4 => ?_⟩, fun c4 => absurd ?_ c4⟩
    · have hw1 : w = 1 := by
        rcases Nat.eq_zero_or_pos w with q | q
        · exact absurd (by rw [q]; rfl) c4
        · omega
      refine href I' J' _ g1 g2 (fun hb => by omega) (fun _ => ⟨fun e => by omega, fun _ => Or.inr ⟨rfl, fun i _ hi => g3 hw1 i hi⟩⟩)
    · have hw0 : w = 0 := (nI_eq (b := 0) (by omega) (by decide)).mp c4
      exact href I' J' _ g1 g2 (fun hb => by omega) (fun _ => ⟨fun _ => rfl, fun e => by omega⟩)
    · rw [nI_l (by omega)]; exact Int64.le_refl _
  · rintro n z k2 hn ⟨I', J', rfl, g1, g2, g3⟩ hk2
    have hLn := fln_len h1 h2.1 hn
    have hfl := fnd_lt h1 hn hLn
    have hL0 := len_pos h2 hn hLn
    refine ⟨fun c4 => absurd ((pk_lLE (a := V h t (okB t) (tp t) 4) (b := n) (by omega) (by omega)).mp (by rw [nI_l (by omega)] at c4; exact c4)) (by omega), fun _ => ?_⟩
    rw [nI_l (by omega)]
    refine pe_findX h1 h2 (CX_N hX g1) (Or.inr g2) hn hLn (fun I2 J2 f2 p2 e10 ef => ?_)
    have f2N := frN_tr g1 f2
    have e65 : I2 65 = I 65 := f2N.1.1 65 (by decide)
    have e0 : I2 0 = I 0 := f2N.1.1 0 (by decide)
    refine pe_foundAgrees (k := k) (sa := fun i => (I 65 (i * 3)).toNatClampNeg) (sb := fun i => (I 65 (i * 3 + 1)).toNatClampNeg) (sc := fun i => (I 65 (i * 3 + 2)).toNatClampNeg) hLn.1 hL0 (fun i hi => by have := hfl i hi; omega) e10 ef hk (by rw [e0]; exact ek1) (fun i hi => ?_) ?_
    · obtain ⟨q1, q2, q3, q4, q5, q6, q7, q8, q9⟩ := hsx i hi
      rw [e65]; exact ⟨q1, q2, q3, q4, q5, q6⟩
    · cases hag : agB (fln h t n) (fnd h t n) (fun i => (I 65 (i * 3)).toNatClampNeg) (fun i => (I 65 (i * 3 + 1)).toNatClampNeg) (fun i => (I 65 (i * 3 + 2)).toNatClampNeg) k with
      | false =>
        refine ⟨fun _ => ?_, fun e => absurd rfl e⟩
        show k2 (nI w, _, nI _, nI n + 1, I2, J2)
        rw [nI_1]
        refine hk2 _ ⟨I2, J2, ?_, f2N, p2, fun hw1 j hj => ?_⟩
        · have : sm (fun n => bN (agB (fln h t n) (fnd h t n) (fun i => (I 65 (i * 3)).toNatClampNeg) (fun i => (I 65 (i * 3 + 1)).toNatClampNeg) (fun i => (I 65 (i * 3 + 2)).toNatClampNeg) k)) (n + 1) = sm (fun n => bN (agB (fln h t n) (fnd h t n) (fun i => (I 65 (i * 3)).toNatClampNeg) (fun i => (I 65 (i * 3 + 1)).toNatClampNeg) (fun i => (I 65 (i * 3 + 2)).toNatClampNeg) k)) n + bN (agB (fln h t n) (fnd h t n) (fun i => (I 65 (i * 3)).toNatClampNeg) (fun i => (I 65 (i * 3 + 1)).toNatClampNeg) (fun i => (I 65 (i * 3 + 2)).toNatClampNeg) k) := rfl
          rw [this, hag]; rfl
        · by_cases hjn : j = n
          · subst hjn; exact hag
          · exact g3 hw1 j (by omega)
      | true =>
        refine ⟨fun e => absurd e no10, fun _ => ⟨fun c4 => ?_, fun c4 => ?_⟩⟩
        · show k2 (nI w, _, nI _ + 1, nI n + 1, I2, J2)
          rw [nI_1, nI_1]
          refine hk2 _ ⟨I2, J2, ?_, f2N, p2, fun hw1 => absurd (by rw [hw1]; rfl) c4⟩
          have : sm (fun n => bN (agB (fln h t n) (fnd h t n) (fun i => (I 65 (i * 3)).toNatClampNeg) (fun i => (I 65 (i * 3 + 1)).toNatClampNeg) (fun i => (I 65 (i * 3 + 2)).toNatClampNeg) k)) (n + 1) = sm (fun n => bN (agB (fln h t n) (fnd h t n) (fun i => (I 65 (i * 3)).toNatClampNeg) (fun i => (I 65 (i * 3 + 1)).toNatClampNeg) (fun i => (I 65 (i * 3 + 2)).toNatClampNeg) k)) n + bN (agB (fln h t n) (fnd h t n) (fun i => (I 65 (i * 3)).toNatClampNeg) (fun i => (I 65 (i * 3 + 1)).toNatClampNeg) (fun i => (I 65 (i * 3 + 2)).toNatClampNeg) k) := rfl
          rw [this, hag]; rfl
        · have hw1 : w = 1 := (nI_eq (b := 1) (by omega) (by decide)).mp c4
          exact href I2 J2 _ f2N p2 (fun hb => by omega) (fun _ => ⟨fun e => by omega, fun _ => Or.inl ⟨n, Nat.zero_le _, hn, hag, rfl, fun j _ hj => g3 hw1 j hj⟩⟩)
