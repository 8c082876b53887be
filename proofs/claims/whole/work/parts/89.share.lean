/-! ===== share ===== -/
theorem bc_le : ∀ (n : Fin 9) (s : Fin 256), s.val < 2 ^ n.val → bcN s.val ≤ n.val := by decide +kernel
theorem bc_1 : ∀ (u : Fin 8) (s : Fin 256), s.val.testBit u.val = true → 1 ≤ bcN s.val := by decide +kernel
theorem wo_bit : ∀ (u : Fin 8) (s : Fin 256), s.val.testBit u.val = true → nI s.val &&& (((1 : Int32) <<< (nI u.val &&& 31)) ^^^ (-1 : Int32)) = nI (s.val ^^^ 2 ^ u.val) := by decide +kernel
theorem and_bit : ∀ (u : Fin 8) (s : Fin 256), (nI s.val &&& nI (2 ^ u.val) = 0 ↔ s.val.testBit u.val = false) := by decide +kernel
theorem bcLe {n s : Nat} (hn : n ≤ 8) (hs : s < 256) (h : s < 2 ^ n) : bcN s ≤ n := bc_le ⟨n, by omega⟩ ⟨s, hs⟩ h
theorem bc1 {u s : Nat} (hu : u < 8) (hs : s < 256) (h : s.testBit u = true) : 1 ≤ bcN s := bc_1 ⟨u, hu⟩ ⟨s, hs⟩ h
theorem woBit {u s : Nat} (hu : u < 8) (hs : s < 256) (h : s.testBit u = true) : nI s &&& (((1 : Int32) <<< (nI u &&& 31)) ^^^ (-1 : Int32)) = nI (s ^^^ 2 ^ u) := wo_bit ⟨u, hu⟩ ⟨s, hs⟩ h
theorem andBit {u s : Nat} (hu : u < 8) (hs : s < 256) : nI s &&& nI (2 ^ u) = 0 ↔ s.testBit u = false := and_bit ⟨u, hu⟩ ⟨s, hs⟩
theorem xorS_lt {s u n : Nat} (hs : s < 2 ^ n) (hu : u < n) : s ^^^ 2 ^ u < 2 ^ n := Nat.xor_lt_two_pow hs (Nat.pow_lt_pow_right (by decide) hu)
def shT (h : Ho) (t : Se) (u s : Nat) : Int64 := lN (fc (bcN s - 1)) * lN (fc (ub t (hoW h) - 1 - (bcN s - 1))) * (lN (V h t (sbs t s) (tp t) 4) - lN (V h t (sbs t (s ^^^ 2 ^ u)) (tp t) 4))
def shS (h : Ho) (t : Se) (u : Nat) : Nat → Int64
  | 0 => 0
  | s + 1 => if s.testBit u then shS h t u s + shT h t u s else shS h t u s
theorem pe_areFew {h : Ho} {t : Se} {I : MI} {J : MJ} {Q : Int32 → MI → MJ → Prop} (h1 : hoOK h) (h2 : seOK h t) (hX : CX I J h t) (q1 : ub t (hoW h) ≤ 8 → Q 1 I J) (q0 : ¬ ub t (hoW h) ≤ 8 → Q 0 I J) : P_X0_areFew I J Q := by
  have hw10 := h1.1
  have hXl := seX_lt h1 (seOK_O h2)
  have hu := ub_bc (t := t) h1 h2.2.2.2.2.2
  have e1 : I 12 4 = nI (hoW h) := hX.1.1
  have e2 : I 17 5 = nI (seX t) := hX.2.2.2.2.2.2
  unfold P_X0_areFew
  rw [e2]
  refine pe_bitCount hXl ?_
  rw [e1, pk_sub (by omega), show hoW h - bcN (seX t) = ub t (hoW h) by omega]
  exact pk_lt 8 (ub t (hoW h)) (fun c => q0 (by omega)) (fun c => q1 c)
theorem pe_orders {n : Nat} {I : MI} {J : MJ} {Q : Int64 → MI → MJ → Prop} (hn : n ≤ 8) (e : I 55 7 = nI n) (hQ : Q (lN (fc n)) I J) : P_X0_orders I J Q := by
  unfold P_X0_orders
  rw [e]
  refine pk_lt n 0 (fun c => absurd c (Nat.not_lt_zero n)) (fun _ => pk_lt 8 n (fun c => by omega) (fun _ => ⟨vp_in_nI (by omega) (by decide), ?_⟩))
  rw [nI_clamp (by omega), st64 (by omega)]
  exact hQ
theorem pe_shareOf {w : Nat} {h : Ho} {t : Se} {I : MI} {J : MJ} {Q : Int64 → MI → MJ → Prop} (h1 : hoOK h) (h2 : seOK h t) (hX : CX I J h t) (hS : I 39 12 = 0 ∨ Ph I J h t) (h14 : S_sw (I 39 8) (I 39 9)) (h8 : ub t (hoW h) ≤ 8) (hOp : I 55 8 = 0 ∨ OpOK (I 55) (I 58) (J 59) h t) (hCt : I 55 9 = 0 ∨ CtOK (J 60) h t) (hw : w < hoW h) (ho : okB t w = true)
    (hQ : ∀ (I' : MI) (J' : MJ), (∀ c, c < 39 ∨ 59 ≤ c → I' c = I c) → (∀ c, c < 39 → J' c = J c) → S_sw (I' 39 8) (I' 39 9) → (I' 39 12 = 0 ∨ Ph I' J' h t) → OpOK (I' 55) (I' 58) (J' 59) h t → CtOK (J' 60) h t → Q (shS h t (ub t w) (2 ^ ub t (hoW h))) I' J') : P_X0_shareOf (nI w) I J Q := by
  have hw10 := h1.1
  have hun := ub_lt hw ho
  refine pe_countSets h1 h2 hX hS h14 h8 hOp hCt (fun I1 J1 f1 f2 f3 f4 f5 f6 => ?_)
  obtain ⟨o1, o2, o3, o4⟩ := id f5
  have hq := hQ I1 J1 f1 f2 f3 f4 f5 f6
  generalize hn : ub t (hoW h) = n at *
  generalize hu : ub t w = u at *
  have hp8 : 2 ^ n ≤ 2 ^ 8 := Nat.pow_le_pow_right (by decide) h8
  have loop2 : lpx (P_X0_shareOf_45 Q) (nI (2 ^ u), (0 : Int64), (0 : Int32), I1, J1) := by
    refine lpx_up (fun s z => z = (nI (2 ^ u), shS h t u s, nI s, I1, J1)) (2 ^ n) ?_ ?_ 0 _ (Nat.zero_le _) rfl
    · rintro z k rfl
      have e : (1 : Int32) <<< (I1 55 7 &&& 31) = nI (2 ^ n) := by rw [o2, shlI (by omega)]
      exact pk_le (2 ^ n) (2 ^ n) (fun _ => hq) (fun c => by omega) e
    · rintro s z k hs rfl hk
      have e : (1 : Int32) <<< (I1 55 7 &&& 31) = nI (2 ^ n) := by rw [o2, shlI (by omega)]
      have hs8 : s < 256 := by omega
      have hab := andBit (u := u) (by omega) hs8
      refine pk_le (2 ^ n) s (fun c => by omega) (fun _ => ⟨fun c => ?_, fun c => ?_⟩) e
      · have hb : s.testBit u = false := hab.mp c
        show k (nI (2 ^ u), shS h t u s, nI s + 1, I1, J1)
        rw [nI_1]
        refine hk _ ?_
        show _ = (_, (if s.testBit u then shS h t u s + shT h t u s else shS h t u s), _, _, _)
        rw [hb]; rfl
      · have hb : s.testBit u = true := by
          cases hb : s.testBit u with
          | true => rfl
          | false => exact absurd (hab.mpr hb) c
        have hb1 := bc1 (u := u) (by omega) hs8 hb
        have hbn := bcLe h8 hs8 hs
        have hx := xorS_lt hs hun
        refine pe_bitCount (by omega) ?_
        have r1 : nI (bcN s) - (1 : Int32) = nI (bcN s - 1) := by rw [show (1 : Int32) = nI 1 from rfl, pk_sub hb1]
        have r2 : I1 55 7 - (1 : Int32) - nI (bcN s - 1) = nI (n - 1 - (bcN s - 1)) := by
          rw [o2, show (1 : Int32) = nI 1 from rfl, pk_sub (by omega), pk_sub (by omega)]
        rw [r1, r2, nI_xor]
        refine ⟨vp_in_nI (by omega) (by decide), vp_in_nI (by omega) (by decide), vp_in_nI (by omega) (by decide), vp_in_nI (by omega) (by decide), ?_⟩
        rw [nI_clamp (by omega), nI_clamp (by omega), nI_clamp (by omega), nI_clamp (by omega)]
        rw [st64 (k := bcN s - 1) (by omega), st64 (k := n - 1 - (bcN s - 1)) (by omega), f6 s (by rw [hn]; exact hs), f6 (s ^^^ 2 ^ u) (by rw [hn]; exact hx)]
        show k (nI (2 ^ u), _, nI s + 1, I1, J1)
        rw [nI_1]
        refine hk _ ?_
        show _ = (_, (if s.testBit u then shS h t u s + shT h t u s else shS h t u s), _, _, _)
        rw [hb, if_pos rfl]
        unfold shT
        rw [hn]
  refine lpx_up (fun i z => ∃ x : Int32, z = (nI w, x, nI i, I1, J1) ∧ (u < i → x = nI (2 ^ u))) n ?_ ?_ 0 _ (Nat.zero_le _) ⟨_, rfl, fun q => absurd q (Nat.not_lt_zero u)⟩
  · rintro z k ⟨x, rfl, hx⟩
    refine pk_le n n (fun _ => ?_) (fun c => by omega) o2
    rw [hx hun]; exact loop2
  · rintro i z k hi ⟨x, rfl, hx⟩ hk
    obtain ⟨v, hv, hov, eu⟩ := ub_ex (hoW h) (show i < ub t (hoW h) by rw [hn]; exact hi)
    have e58 : I1 58 i = nI v := by rw [← eu]; exact o3 v hv hov
    refine pk_le n i (fun c => by omega) (fun _ => ⟨vp_in_nI (by omega) (by decide), ?_⟩) o2
    rw [nI_clamp (by omega), e58]
    refine ⟨fun c => ?_, fun c => ?_⟩
    · show k (nI w, x, nI i + 1, I1, J1)
      rw [nI_1]
      have hne : u ≠ i := fun q => c (by rw [ub_inj hov ho (by omega)])
      exact hk _ ⟨x, rfl, fun q => hx (by omega)⟩
    · have hvw : v = w := (nI_eq (by omega) (by omega)).mp c
      have hui : u = i := by rw [← hu, ← hvw]; exact eu
      show k (nI w, (1 : Int32) <<< (nI i &&& 31), nI i + 1, I1, J1)
      rw [nI_1, shlI (by omega)]
      exact hk _ ⟨_, rfl, fun _ => by rw [hui]⟩
/-- a Sim again, what was counted of sets changed -/
theorem Sim_ct {I I' : MI} {J J' : MJ} {A A' : MI} {B B' : MJ} {h : Ho} {t : Se} (hs : SimH I J A B h t) (f : ∀ c, c < 39 ∨ 59 ≤ c → I' c = I c) (g : ∀ c, c < 39 → J' c = J c) (fM : frM A A' B B') (h14' : S_sw (I' 39 8) (I' 39 9)) (hP : I' 39 12 = 0 ∨ Ph I' J' h t) (hO : I' 55 8 = 0 ∨ OpOK (I' 55) (I' 58) (J' 59) h t) (hC : I' 55 9 = 0 ∨ CtOK (J' 60) h t) : Sim I' J' A' B' := by
  obtain ⟨h1, h2, h3, h4, h5, h6, h7, h8, h9, h10, h11, h12, h13, h14, h15⟩ := hs
  obtain ⟨m1, m2, m3⟩ := fM
  refine ⟨h, t, h1, h2, ?_, ?_, ?_, ?_, ?_, ?_, ?_, ?_, ?_, ?_, ?_, h14', hP, hO, hC⟩
  · rw [f 12 (by decide), f 13 (by decide), f 14 (by decide), f 16 (by decide), g 15 (by decide)]; exact h3
  · rw [m2 2 (by decide), m1 4 (by decide) (by decide) (by decide), m1 3 (by decide) (by decide) (by decide), m1 5 (by decide) (by decide) (by decide), m1 2 (by decide) (by decide) (by decide)]; exact h4
  · rw [f 17 (by decide), f 18 (by decide), f 19 (by decide), f 20 (by decide)]; exact h5
  · rw [m1 6 (by decide) (by decide) (by decide)]; exact h6
  · rw [f 1 (by decide), f 2 (by decide), f 8 (by decide), m2 1 (by decide), m1 1 (by decide) (by decide) (by decide)]; exact h7
  · rw [f 35 (by decide), f 36 (by decide), f 37 (by decide), f 38 (by decide), m2 10 (by decide), m2 11 (by decide), m1 8 (by decide) (by decide) (by decide)]; exact h8
  · rw [f 34 (by decide), f 26 (by decide), f 27 (by decide), f 28 (by decide), f 29 (by decide), m1 10 (by decide) (by decide) (by decide), m1 9 (by decide) (by decide) (by decide)]; exact h9
  · rw [f 34 (by decide), f 30 (by decide), f 31 (by decide), f 32 (by decide), f 33 (by decide), m1 10 (by decide) (by decide) (by decide), m1 9 (by decide) (by decide) (by decide)]; exact h10
  · rw [f 0 (by decide), f 61 (by decide), m2 15 (by decide), m1 11 (by decide) (by decide) (by decide)]; exact h11
  · rw [f 0 (by decide), f 65 (by decide), m2 19 (by decide), m1 12 (by decide) (by decide) (by decide), m1 13 (by decide) (by decide) (by decide), m1 14 (by decide) (by decide) (by decide)]; exact h12
  · rw [g 0 (by decide), m3]; exact h13
/-- the reference's share of a word that isn't barred -/
theorem pe_shareM {w : Nat} {a1 : Int32} {h : Ho} {t : Se} {A : MI} {B : MJ} {Q : Int64 → MI → MJ → Prop} (h1 : hoOK h) (h2 : seOK h t) (hl : lexN A h) (hr : rowM (A 6) 0 h t) (h8 : ub t (hoW h) ≤ 8) (hw : w < hoW h) (ho : okB t w = true) (hc : CtOK (B 29) h t) (hQ : Q (lowT (shS h t (ub t w) (2 ^ ub t (hoW h))) (lN (fc (ub t (hoW h)))) a1) A B) : lpx (P_X12_share_51 Q) (nI w, a1, nI (ub t (hoW h)), (0 : Int64), (0 : Int32), A, B) := by
  have hw10 := h1.1
  have hun := ub_lt hw ho
  have e8 : A 6 8 = nI (seX t) := hr.2.2.2.2.2
  generalize hn : ub t (hoW h) = n at *
  generalize hu : ub t w = u at *
  have hp8 : 2 ^ n ≤ 2 ^ 8 := Nat.pow_le_pow_right (by decide) h8
  have esh : (1 : Int32) <<< (nI n &&& 31) = nI (2 ^ n) := shlI (by omega)
  refine lpx_up (fun s z => z = (nI w, a1, nI n, shS h t u s, nI s, A, B)) (2 ^ n) ?_ ?_ 0 _ (Nat.zero_le _) rfl
  · rintro z k rfl
    refine pk_le (2 ^ n) (2 ^ n) (fun _ => ?_) (fun c => by omega) esh
    have hf := fc_b (k := n) (by omega)
    have hg := lN_abs hf.1 hf.2
    refine pe_factorial (by omega) ?_
    rw [fc_64 (by omega)]
    exact pe_fraction hg.1 hg.2 hQ
  · rintro s z k hs rfl hk
    have hs8 : s < 256 := by omega
    refine pk_le (2 ^ n) s (fun c => by omega) (fun _ => ?_) esh
    refine pe_someOf h1 h2 hl.1 e8 hs8 (fun m hm => ?_)
    have hmb := hm.2 w (by omega)
    rw [sbs_iff, hu] at hmb
    have hm10 := hm.1
    refine pe_hasM (by omega) (by omega) (fun hx => ⟨fun e => absurd e no10, fun _ => ?_⟩) (fun hx => ⟨fun _ => ?_, fun e => absurd rfl e⟩)
    · have hb : s.testBit u = true := (hmb.mp hx).2.2
      have hb1 := bc1 (u := u) (by omega) hs8 hb
      have hbn := bcLe h8 hs8 hs
      have hwo := woBit (u := u) (by omega) hs8 hb
      have hx2 := xorS_lt hs hun
      refine pe_ones (by omega) ?_
      have r1 : nI (bcN s) - (1 : Int32) = nI (bcN s - 1) := by rw [show (1 : Int32) = nI 1 from rfl, pk_sub hb1]
      have r2 : nI n - (1 : Int32) - nI (bcN s - 1) = nI (n - 1 - (bcN s - 1)) := by
        rw [show (1 : Int32) = nI 1 from rfl, pk_sub (by omega), pk_sub (by omega)]
      rw [r1, r2]
      refine pe_factorial (by omega) (pe_factorial (by omega) ⟨vp_in_nI hs8 (by decide), pe_bitOf h1 h2 e8 hw ?_⟩)
      rw [hu, hwo]
      refine ⟨vp_in_nI (by omega) (by decide), ?_⟩
      rw [nI_clamp (by omega), nI_clamp (by omega), fc_64 (k := bcN s - 1) (by omega), fc_64 (k := n - 1 - (bcN s - 1)) (by omega), hc s (by rw [hn]; exact hs), hc (s ^^^ 2 ^ u) (by rw [hn]; exact hx2)]
      show k (nI w, a1, nI n, _, nI s + 1, A, B)
      rw [nI_1]
      refine hk _ ?_
      show _ = (_, _, _, (if s.testBit u then shS h t u s + shT h t u s else shS h t u s), _, _, _)
      rw [hb, if_pos rfl]
      unfold shT
      rw [hn]
    · have hb : s.testBit u = false := by
        cases hb : s.testBit u with
        | false => rfl
        | true => exact absurd (hx.symm.trans (hmb.mpr ⟨hw, ho, hb⟩)) (by decide)
      show k (nI w, a1, nI n, shS h t u s, nI s + 1, A, B)
      rw [nI_1]
      refine hk _ ?_
      show _ = (_, _, _, (if s.testBit u then shS h t u s + shT h t u s else shS h t u s), _, _, _)
      rw [hb]; rfl
theorem s_share : st_share Sim := by
  intro a b I J A B hb01 hs
  obtain ⟨h, t, hH⟩ := Sim_H.mp hs
  obtain ⟨h1, h2, h3, h4, h5, h6, h7, h8, h9, h10, h11, h12, h13, h14, h15⟩ := id hH
  have hX : CX I J h t := ⟨lexX_C h3, h5⟩
  have hw10 := h1.1
  have hXl := seX_lt h1 (seOK_O h2)
  have e5 : I 17 5 = nI (seX t) := h5.2.2.2.2.2
  have e8 : A 6 8 = nI (seX t) := h6.2.2.2.2.2
  refine pe_has h3.1 h1.1 (fun ha => ⟨fun _ => ?_, fun e => absurd e no10⟩) (fun hn => ⟨fun e => absurd rfl e, fun _ => ?_⟩)
  · obtain ⟨w, hw, rfl⟩ := id ha
    rw [e5]
    refine ⟨fun c => ?_, fun c => ?_⟩
    · rw [bitI0 (by omega) (by omega)] at c
      refine pe_isWord h4.1 h1.1 (fun _ => ⟨fun _ => ?_, fun e => absurd e no10⟩) (fun c => absurd ha c)
      refine pe_unbarred h1 h2 h4.1 e8 ⟨vp_in_nI (n := 8) (by decide) (by decide), ?_⟩
      rw [show A 6 (8 : Int32).toNatClampNeg = nI (seX t) from e8]
      exact pe_hasM (by omega) (by omega) (fun hx => ⟨fun _ => ⟨rfl, hs⟩, fun e => absurd e no10⟩) (fun hx => absurd hx c)
    · rw [bitI0 (by omega) (by omega)] at c
      have ho : okB t w = true := by unfold okB; rw [c]; rfl
      refine pe_areFew h1 h2 hX (fun h8' => ⟨fun _ => ?_, fun e => absurd e no10⟩) (fun h8' => ⟨fun e => absurd rfl e, fun _ => ?_⟩)
      · refine pe_shareOf h1 h2 hX h15.1 h14 h8' h15.2.1 h15.2.2 hw ho (fun I1 J1 f1 f2 f3 f4 f5 f6 => ?_)
        have hf := fc_b (k := ub t (hoW h)) (by omega)
        refine pe_orders h8' f5.2.1 (pe_leastTerms (lN_abs hf.1 hf.2).1 ?_)
        · refine pe_isWord h4.1 h1.1 (fun _ => ⟨fun _ => ?_, fun e => absurd e no10⟩) (fun c => absurd ha c)
          refine pe_unbarred h1 h2 h4.1 e8 ⟨vp_in_nI (n := 8) (by decide) (by decide), ?_⟩
          rw [show A 6 (8 : Int32).toNatClampNeg = nI (seX t) from e8]
          refine pe_hasM (by omega) (by omega) (fun hx => absurd (c.symm.trans hx) (by decide)) (fun hx => ⟨fun e => absurd rfl e, fun _ => pk_le (ub t (hoW h)) 8 (fun _ => ?_) (fun c => by omega)⟩)
          refine pe_layWorth h1 h2 (lexM_N h4) h6 h8' (fun A1 B1 fA fB hc => ?_)
          refine pe_shareM h1 h2 (lexN_fr fA (lexM_N h4)) (by rw [fA.1 6 (by decide) (by decide)]; exact h6) h8' hw ho hc ⟨rfl, ?_⟩
          exact Sim_ct hH f1 f2 (frM_of fA fB) f3 f4 (Or.inr f5) (Or.inr f6)
      · refine pe_isWord h4.1 h1.1 (fun _ => ⟨fun _ => ?_, fun e => absurd e no10⟩) (fun c => absurd ha c)
        refine pe_unbarred h1 h2 h4.1 e8 ⟨vp_in_nI (n := 8) (by decide) (by decide), ?_⟩
        rw [show A 6 (8 : Int32).toNatClampNeg = nI (seX t) from e8]
        have hle := ub_le t (hoW h)
        exact pe_hasM (by omega) (by omega) (fun hx => absurd (c.symm.trans hx) (by decide)) (fun hx => ⟨fun e => absurd rfl e, fun _ => pk_le (ub t (hoW h)) 8 (fun c => absurd c h8') (fun _ => ⟨rfl, hs⟩)⟩)
  · exact pe_isWord h4.1 h1.1 (fun c => absurd c hn) (fun _ => ⟨fun e => absurd rfl e, fun _ => ⟨rfl, hs⟩⟩)
