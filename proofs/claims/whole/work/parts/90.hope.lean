/-! ===== hope ===== -/
def hpT (x n s : Nat) : Nat := (10 - x) ^ bcN s * x ^ (n - bcN s)
theorem hp_all : ∀ (x : Fin 11) (n : Fin 9), sm (hpT x.val n.val) (2 ^ n.val) = 10 ^ n.val := by decide +kernel
theorem p10_lt : ∀ n : Fin 9, 10 ^ n.val < 2 ^ 30 ∧ 0 < 10 ^ n.val := by decide
theorem p10 {n : Nat} (hn : n ≤ 8) : 10 ^ n < 2 ^ 30 ∧ 0 < 10 ^ n := p10_lt ⟨n, by omega⟩
def hpG (h : Ho) (t : Se) (x n s : Nat) : Nat := if 0 < V h t (sbs t s) (tp t) 4 then hpT x n s else 0
def hpS (h : Ho) (t : Se) (x n s : Nat) : Nat := sm (hpG h t x n) s
theorem hpS_lt {h : Ho} {t : Se} {x n s : Nat} (hx : x ≤ 10) (hn : n ≤ 8) (hs : s ≤ 2 ^ n) : hpS h t x n s < 2 ^ 30 := by
  have e : sm (hpT x n) (2 ^ n) = 10 ^ n := hp_all ⟨x, by omega⟩ ⟨n, by omega⟩
  have l1 : sm (hpG h t x n) s ≤ sm (hpG h t x n) (2 ^ n) := sm_le_sm _ hs
  have l2 : sm (hpG h t x n) (2 ^ n) ≤ sm (hpT x n) (2 ^ n) := sm_mono (fun i _ => by unfold hpG; split; exact Nat.le_refl _; exact Nat.zero_le _)
  have l3 := (p10 hn).1
  unfold hpS
  omega
theorem pe_hopeAt {x : Nat} {h : Ho} {t : Se} {I : MI} {J : MJ} {Q : Int64 → MI → MJ → Prop} (h1 : hoOK h) (h2 : seOK h t) (hX : CX I J h t) (hS : I 39 12 = 0 ∨ Ph I J h t) (h14 : S_sw (I 39 8) (I 39 9)) (h8 : ub t (hoW h) ≤ 8) (hOp : I 55 8 = 0 ∨ OpOK (I 55) (I 58) (J 59) h t) (hx : x ≤ 10)
    (hQ : ∀ (I' : MI) (J' : MJ), (∀ c, c < 39 ∨ 59 ≤ c → I' c = I c) → (∀ c, c < 39 ∨ c = 60 → J' c = J c) → S_sw (I' 39 8) (I' 39 9) → (I' 39 12 = 0 ∨ Ph I' J' h t) → OpOK (I' 55) (I' 58) (J' 59) h t → I' 55 9 = I 55 9 → Q (lN (hpS h t x (ub t (hoW h)) (2 ^ ub t (hoW h)))) I' J') : P_X0_hopeAt (nI x) I J Q := by
  refine pe_openSets h1 h2 hX hS h14 h8 hOp (fun I1 J1 f1 f2 f3 f4 f5 f6 => ?_)
  obtain ⟨o1, o2, o3, o4⟩ := id f5
  have hq := hQ I1 J1 f1 f2 f3 f4 f5 f6
  generalize hn : ub t (hoW h) = n at *
  have hp8 : 2 ^ n ≤ 2 ^ 8 := Nat.pow_le_pow_right (by decide) h8
  have e : (1 : Int32) <<< (I1 55 7 &&& 31) = nI (2 ^ n) := by rw [o2, shlI (by omega)]
  refine lpx_up (fun s z => z = (nI x, lN (hpS h t x n s), nI s, I1, J1)) (2 ^ n) ?_ ?_ 0 _ (Nat.zero_le _) rfl
  · rintro z k rfl
    exact pk_le (2 ^ n) (2 ^ n) (fun _ => hq) (fun c => by omega) e
  · rintro s z k hs rfl hk
    have hs8 : s < 256 := by omega
    have hbn := bcLe h8 hs8 hs
    have es : hpS h t x n (s + 1) = hpS h t x n s + hpG h t x n s := rfl
    refine pk_le (2 ^ n) s (fun c => by omega) (fun _ => ?_) e
    refine pe_isOpened f5 (by rw [hn]; exact hs) (fun hv => ⟨fun e => absurd e no10, fun _ => ?_⟩) (fun hv => ⟨fun _ => ?_, fun e => absurd rfl e⟩)
    · refine pe_bitCount (by omega) ?_
      rw [show (10 : Int32) - nI x = nI (10 - x) from by rw [show (10 : Int32) = nI 10 from rfl, pk_sub hx]]
      refine pe_powerX (by omega) (by omega) ?_
      rw [o2, pk_sub hbn]
      refine pe_powerX (by omega) (by omega) ?_
      show k (nI x, lN (hpS h t x n s) + lN ((10 - x) ^ bcN s) * lN (x ^ (n - bcN s)), nI s + 1, I1, J1)
      rw [nI_1, lN_mul, lN_add]
      refine hk _ ?_
      rw [es]
      unfold hpG hpT
      rw [if_pos hv]
    · show k (nI x, lN (hpS h t x n s), nI s + 1, I1, J1)
      rw [nI_1]
      refine hk _ ?_
      rw [es]
      unfold hpG
      rw [if_neg hv]; rfl
theorem pe_hopeM {x : Nat} {a1 : Int32} {h : Ho} {t : Se} {A : MI} {B : MJ} {Q : Int32 → MI → MJ → Prop} (h1 : hoOK h) (h2 : seOK h t) (h8 : ub t (hoW h) ≤ 8) (hx : x ≤ 10) (hc : CtOK (B 29) h t) (hQ : Q (lowT (lN (hpS h t x (ub t (hoW h)) (2 ^ ub t (hoW h)))) (lN (10 ^ ub t (hoW h))) a1).toInt32 A B) : lpx (P_X12_hope_39 Q) (nI x, a1, nI (ub t (hoW h)), (0 : Int32), (0 : Int32), A, B) := by
  generalize hn : ub t (hoW h) = n at *
  have hp8 : 2 ^ n ≤ 2 ^ 8 := Nat.pow_le_pow_right (by decide) h8
  have esh : (1 : Int32) <<< (nI n &&& 31) = nI (2 ^ n) := shlI (by omega)
  refine lpx_up (fun s z => z = (nI x, a1, nI n, nI (hpS h t x n s), nI s, A, B)) (2 ^ n) ?_ ?_ 0 _ (Nat.zero_le _) rfl
  · rintro z k rfl
    refine pk_le (2 ^ n) (2 ^ n) (fun _ => ?_) (fun c => by omega) esh
    have hf := p10 h8
    have hg := lN_abs hf.1 hf.2
    have hl := hpS_lt (h := h) (t := t) hx h8 (Nat.le_refl (2 ^ n))
    refine pe_powerM (b := 10) (by omega) ?_
    rw [nI_l (show 10 ^ n < 2 ^ 31 by omega), nI_l (show hpS h t x n (2 ^ n) < 2 ^ 31 by omega)]
    exact pe_fraction hg.1 hg.2 hQ
  · rintro s z k hs rfl hk
    have hs8 : s < 256 := by omega
    have hbn := bcLe h8 hs8 hs
    have es : hpS h t x n (s + 1) = hpS h t x n s + hpG h t x n s := rfl
    have hV := V_small (ok := sbs t s) h1 (Nat.le_trans h2.1 (by decide)) (Nat.le_refl (tp t)) 4
    have hz9 : B 29 s ≤ (0 : Int64) ↔ ¬ 0 < V h t (sbs t s) (tp t) 4 := by
      rw [hc s (by rw [hn]; exact hs), show (0 : Int64) = lN 0 from rfl, pk_lLE (by omega) (by decide)]; omega
    refine pk_le (2 ^ n) s (fun c => by omega) (fun _ => ⟨vp_in_nI hs8 (by decide), ?_⟩) esh
    rw [nI_clamp (by omega)]
    refine ⟨fun c => ?_, fun c => ?_⟩
    · show k (nI x, a1, nI n, nI (hpS h t x n s) + (0 : Int32), nI s + 1, A, B)
      rw [nI_1, show (0 : Int32) = nI 0 from rfl, nI_add]
      refine hk _ ?_
      rw [es]
      unfold hpG
      rw [if_neg (hz9.mp c)]
    · have hv : 0 < V h t (sbs t s) (tp t) 4 := Classical.byContradiction (fun q => c (hz9.mpr q))
      refine pe_ones (by omega) ?_
      rw [show (10 : Int32) - nI x = nI (10 - x) from by rw [show (10 : Int32) = nI 10 from rfl, pk_sub hx]]
      refine pe_powerM (by omega) (pe_ones (by omega) ?_)
      rw [pk_sub hbn]
      refine pe_powerM (by omega) ?_
      show k (nI x, a1, nI n, nI (hpS h t x n s) + nI ((10 - x) ^ bcN s) * nI (x ^ (n - bcN s)), nI s + 1, A, B)
      rw [nI_1, pk_mul, nI_add]
      refine hk _ ?_
      rw [es]
      unfold hpG hpT
      rw [if_pos hv]
theorem s_hope : st_hope Sim := by
  intro a b I J A B hb01 hs
  obtain ⟨h, t, hH⟩ := Sim_H.mp hs
  obtain ⟨h1, h2, h3, h4, h5, h6, h7, h8, h9, h10, h11, h12, h13, h14, h15⟩ := id hH
  have hX : CX I J h t := ⟨lexX_C h3, h5⟩
  have hw10 := h1.1
  have hXl := seX_lt h1 (seOK_O h2)
  have e8 : A 6 8 = nI (seX t) := h6.2.2.2.2.2
  have hbad : ¬ (0 ≤ a.toInt ∧ a.toInt ≤ 10) → P_X12_hope a b A B (fun r2 I2 J2 => (-2 : Int32) = r2 ∧ Sim I J I2 J2) := fun hn =>
    pe_inI (p := 0) (q := 10) (by decide) (by decide) (fun c c2 => absurd ⟨c, c2⟩ hn) (fun _ => ⟨fun c => absurd rfl c, fun _ => ⟨rfl, hs⟩⟩)
  refine ⟨fun c => hbad (by rw [lt0] at c; omega), fun c => ⟨fun c2 => ?_, fun c2 => hbad (by rw [show (10 : Int32) = nI 10 from rfl, le_lit (by decide)] at c2; omega)⟩⟩
  obtain ⟨x, hx, rfl⟩ : ∃ x, x ≤ 10 ∧ a = nI x := nI_of2 (n := 10) (by decide) c c2
  have hgood : ∀ {K : Int32 → MI → MJ → Prop}, K 1 A B → P_X12_in (nI x).toInt64 (0 : Int64) (10 : Int64) A B K := fun hK =>
    pe_inI (p := 0) (q := 10) (by decide) (by decide) (fun _ _ => hK) (fun hh => absurd ⟨by rw [nI_toInt (by omega)]; omega, by rw [nI_toInt (by omega)]; omega⟩ hh)
  refine pe_areFew h1 h2 hX (fun h8' => ⟨fun _ => ?_, fun e => absurd e no10⟩) (fun h8' => ⟨fun e => absurd rfl e, fun _ => ?_⟩)
  · refine pe_hopeAt h1 h2 hX h15.1 h14 h8' h15.2.1 hx (fun I1 J1 f1 f2 f3 f4 f5 f6 => ?_)
    have hf := p10 h8'
    unfold P_X0_hopeBelow
    rw [f5.2.1]
    refine pe_powerX (b := 10) (by decide) (by omega) (pe_leastTerms (lN_abs hf.1 hf.2).1 ?_)
    refine hgood ⟨fun _ => ?_, fun e => absurd e no10⟩
    refine pe_unbarred h1 h2 h4.1 e8 (pk_le (ub t (hoW h)) 8 (fun _ => ?_) (fun c => by omega))
    refine pe_layWorth h1 h2 (lexM_N h4) h6 h8' (fun A1 B1 fA fB hc => ?_)
    refine pe_hopeM h1 h2 h8' hx hc ⟨rfl, ?_⟩
    refine Sim_ct hH f1 (fun c hc => f2 c (Or.inl hc)) (frM_of fA fB) f3 f4 (Or.inr f5) ?_
    rw [f6, f2 60 (Or.inr rfl)]
    exact h15.2.2
  · refine hgood ⟨fun _ => ?_, fun e => absurd e no10⟩
    have hle := ub_le t (hoW h)
    exact pe_unbarred h1 h2 h4.1 e8 (pk_le (ub t (hoW h)) 8 (fun c => absurd c h8') (fun _ => ⟨rfl, hs⟩))
