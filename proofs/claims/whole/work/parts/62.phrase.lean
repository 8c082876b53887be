/-! the reference finds the phrase of a number -/
theorem pe_gwM {h : Ho} {t : Se} {A : MI} {B : MJ} {p a u : Nat} {Q : Int64 → MI → MJ → Prop} {R : Int32 → MI → MJ → Prop} (h1 : hoOK h) (h2 : seO h t) (hl : lexN A h) (hL : Lk (A 0) (A 19) (A 21) (A 26) h t (okB t)) (hW : LW (B 22) h t (okB t)) (hp : p ≤ tp t) (ha : a ≤ 4) (hu : u < hoW h) (r0 : Q 0 A B → R 0 A B) (r1 : P_X12_endsAs (nI p) (nI u) A B Q → R 1 A B) (hQ : Q (lN (gw h t p a u)) A B) : P_X12_mayCome (nI p) (nI a) (nI u) A B R := by
  refine pe_mayCome h1 h2 hl.2.1 hL hp ha hu (fun hm => r1 ?_) (fun hm => r0 ?_)
  · refine pe_endsAs h1 h2 hl.2.1 hL hp hu (may_iff.mp hm).2.2 (fun q k hq hqp hk => hW q k (by omega) (by omega) (Or.inl hq)) ?_
    have e : gw h t p a u = V h t (okB t) (p - pr h t u) (hoK h u) := if_pos hm
    rw [e] at hQ; exact hQ
  · have e : gw h t p a u = 0 := if_neg (by rw [hm]; decide)
    rw [e] at hQ; exact hQ
theorem pe_findM {h : Ho} {t : Se} {n L : Nat} {A : MI} {B : MJ} {Q : Int32 → MI → MJ → Prop} (h1 : hoOK h) (h2 : seOK h t) (hl : lexN A h) (hk9 : Lk (A 0) (A 19) (A 21) (A 26) h t (okB t)) (hW : LW (B 22) h t (okB t)) (hn : n < V h t (okB t) (tp t) 4) (hL : isLen h t n L)
    (hQ : ∀ f : Nat → Int32, (∀ i, i < L → f i = nI (fnd h t n i)) → Q (nI L) (wI A 27 f) B) : P_X12_find (lN n) A B Q := by
  have hw10 := h1.1
  have htp := tp_1296 h2
  have hL12 := hL.1
  show lpx (P_X12_find_14 Q) (lN n, A 0 31, (4 : Int32), (0 : Int32), A, B)
  rw [hk9.1]
  refine lpx_up (fun i z => ∃ f : Nat → Int32, z = (lN (sst h t n i).2.2, nI (sst h t n i).1, nI (sst h t n i).2.1, nI i, wI A 27 f, B) ∧ ∀ j, j < i → f j = nI (fnd h t n j)) L ?_ ?_ 0 _ (Nat.zero_le _) ⟨A 27, by rw [wI_self]; rfl, fun j hj => absurd hj (Nat.not_lt_zero j)⟩
  · rintro z k ⟨f, rfl, hf⟩
    rw [hL.2.1]
    exact pk_le 0 0 (fun _ => hQ f hf) (fun c => by omega)
  · rintro i z k hi ⟨f, rfl, hf⟩ hk
    have hp := hL.2.2 i hi
    have hs := sx_all h1 hn hL i (by omega)
    obtain ⟨w1, w2, w3, w4⟩ := sx_word h1 hs hp
    obtain ⟨b1, b2, b3, b4⟩ := sx_lt h1 h2 hs
    have hl' : lexN (wI A 27 f) h := hl
    have hkk : Lk (wI A 27 f 0) (wI A 27 f 19) (wI A 27 f 21) (wI A 27 f 26) h t (okB t) := hk9
    have hfit := (may_iff.mp w4).2.2
    have hfs := fit_step h1 w1 b2 hfit
    refine pk_le (sst h t n i).1 0 (fun c => by omega) (fun _ => ?_)
    refine lpx_up (fun u z => u ≤ fnd h t n i ∧ ∃ x3 x9 : Int64, z = (x3, nI (sst h t n i).1, nI (sst h t n i).2.1, nI i, nI u - 1, x9, wI A 27 f, B) ∧ x3 - x9 = lN ((sst h t n i).2.2 - sm (gw h t (sst h t n i).1 (sst h t n i).2.1) u)) (fnd h t n i) ?_ ?_ 0 _ (Nat.zero_le _) ⟨Nat.zero_le _, _, _, rfl, by rw [Int64.sub_zero]; rfl⟩
    · rintro z k2 ⟨_, x3, x9, rfl, ex⟩
      have hgl := gw_le h1 h2 (a := (sst h t n i).2.1) (u := fnd h t n i) b2
      have es : sm (gw h t (sst h t n i).1 (sst h t n i).2.1) (fnd h t n i + 1) = sm (gw h t (sst h t n i).1 (sst h t n i).2.1) (fnd h t n i) + gw h t (sst h t n i).1 (sst h t n i).2.1 (fnd h t n i) := rfl
      have hv10 : vp_in (nI (fnd h t n i)) 10 := vp_in_nI (by omega) (by decide)
      have e1 : nI (fnd h t n i) - 1 + 1 = nI (fnd h t n i) := Int32.sub_add_cancel _ _
      show P_X12_mayCome _ _ (nI (fnd h t n i) - 1 + 1) _ _ _
      rw [e1, ex]
      refine pe_gwM (Q := fun r I J => P_X12_find_62 Q k k2 (lN ((sst h t n i).2.2 - sm (gw h t (sst h t n i).1 (sst h t n i).2.1) (fnd h t n i))) (nI (sst h t n i).1) (nI (sst h t n i).2.1) (nI i) (nI (fnd h t n i)) r I J) h1 (seOK_O h2) hl' hkk hW b2 b3 w1 (fun q => ⟨fun _ => q, fun e => absurd rfl e⟩) (fun q => ⟨fun e => absurd e no10, fun _ => q⟩) ?_
      refine ⟨fun c => absurd ((pk_lLE (by omega) (by omega)).mp c) (by omega), fun _ => ⟨vp_in_nI (by omega) (by decide), ?_⟩⟩
      rintro A9 rfl
      refine ⟨hv10, hv10, ?_⟩
      have ecl : (nI (fnd h t n i)).toNatClampNeg = fnd h t n i := nI_clamp (by omega)
      rw [ecl, nI_clamp (by omega), nI_1]
      have e21 : mI (wI A 27 f) 27 i (nI (fnd h t n i)) 21 (fnd h t n i) = nI (pr h t (fnd h t n i)) := hk9.2.2.1 _ w1
      have e4 : mI (wI A 27 f) 27 i (nI (fnd h t n i)) 4 (fnd h t n i) = nI (hoK h (fnd h t n i)) := hl.2.1 _ w1
      rw [e21, e4, pk_sub hfs.2.1]
      refine hk _ ⟨upd f i (nI (fnd h t n i)), ?_, fun j hj => ?_⟩
      · show (_, _, _, _, wI (wI A 27 f) 27 (upd (wI A 27 f 27) i _), B) = _
        rw [wI_wI, wI_s]
        rfl
      · by_cases hji : j = i
        · subst hji; rw [upd_s rfl]
        · rw [upd_n hji]; exact hf j (by omega)
    · rintro u z k2 hu ⟨_, x3, x9, rfl, ex⟩ hk2
      have hgl := gw_le h1 h2 (a := (sst h t n i).2.1) (u := u) b2
      have es : sm (gw h t (sst h t n i).1 (sst h t n i).2.1) (u + 1) = sm (gw h t (sst h t n i).1 (sst h t n i).2.1) u + gw h t (sst h t n i).1 (sst h t n i).2.1 u := rfl
      have hle : sm (gw h t (sst h t n i).1 (sst h t n i).2.1) (u + 1) ≤ sm (gw h t (sst h t n i).1 (sst h t n i).2.1) (fnd h t n i) := sm_le_sm _ hu
      have e1 : nI u - 1 + 1 = nI u := Int32.sub_add_cancel _ _
      show P_X12_mayCome _ _ (nI u - 1 + 1) _ _ _
      rw [e1, ex]
      refine pe_gwM (Q := fun r I J => P_X12_find_62 Q k k2 (lN ((sst h t n i).2.2 - sm (gw h t (sst h t n i).1 (sst h t n i).2.1) u)) (nI (sst h t n i).1) (nI (sst h t n i).2.1) (nI i) (nI u) r I J) h1 (seOK_O h2) hl' hkk hW b2 b3 (by omega) (fun q => ⟨fun _ => q, fun e => absurd rfl e⟩) (fun q => ⟨fun e => absurd e no10, fun _ => q⟩) ?_
      refine ⟨fun _ => hk2 _ ⟨hu, lN ((sst h t n i).2.2 - sm (gw h t (sst h t n i).1 (sst h t n i).2.1) u), lN (gw h t (sst h t n i).1 (sst h t n i).2.1 u), ?_, ?_⟩, fun c => absurd ((pk_lLE (by omega) (by omega)).mpr (by omega)) c⟩
      · rw [← nI_1, Int32.add_sub_cancel]
      · rw [lN_sub (by omega), es, Nat.sub_sub]
def wth (h : Ho) (t : Se) (n L : Nat) : Nat := sm (fun i => seR t (fnd h t n i)) L
/-- the worth of words that were found -/
theorem pe_worthM {h : Ho} {t : Se} {L : Nat} {f : Nat → Nat} {A : MI} {B : MJ} {Q : Int32 → MI → MJ → Prop} (h1 : hoOK h) (hL : L ≤ 12) (hf : ∀ i, i < L → f i < hoW h) (hF : ∀ i, i < L → A 27 i = nI (f i)) (hr : rowM (A 19) 0 h t) (hQ : Q (nI (sm (fun i => seR t (f i)) L)) A B) : P_X12_worthOf (nI L) A B Q := by
  have hw10 := h1.1
  refine lpx_up (fun i z => z = (nI L, nI (sm (fun i => seR t (f i)) i), nI i, A, B)) L ?_ ?_ 0 _ (Nat.zero_le _) rfl
  · rintro z k rfl
    exact pk_le L L (fun _ => hQ) (fun c => by omega)
  · rintro i z k hi rfl hk
    have hfi := hf i hi
    refine pk_le L i (fun c => by omega) (fun _ => ⟨vp_in_nI (by omega) (by decide), ?_⟩)
    have e9 : (9 : Int32) + nI (f i) = nI (9 + f i) := by rw [show (9 : Int32) = nI 9 from rfl, nI_add]
    rw [nI_clamp (by omega), hF i hi, e9]
    refine ⟨vp_in_nI (by omega) (by decide), ?_⟩
    have e8 : A 19 (9 + f i) = nI (seR t (f i)) := by have := hr.2.1 (f i) hfi; rwa [Nat.zero_add] at this
    rw [nI_clamp (by omega), e8, nI_add, nI_1]
    exact hk _ rfl
theorem pe_worthX {h : Ho} {t : Se} {L : Nat} {f : Nat → Nat} {I : MI} {J : MJ} {Q : Int32 → MI → MJ → Prop} (h1 : hoOK h) (hL : L ≤ 12) (hf : ∀ i, i < L → f i < hoW h) (e10 : I 39 10 = nI L) (hF : ∀ i, i < L → I 43 i = nI (f i)) (hr : ∀ u, u < hoW h → I 19 u = nI (seR t u)) (hQ : Q (nI (sm (fun i => seR t (f i)) L)) I J) : P_X6_foundWorth I J Q := by
  have hw10 := h1.1
  refine lpx_up (fun i z => z = (nI (sm (fun i => seR t (f i)) i), nI i, I, J)) L ?_ ?_ 0 _ (Nat.zero_le _) rfl
  · rintro z k rfl
    exact pk_le L L (fun _ => hQ) (fun c => by omega) e10
  · rintro i z k hi rfl hk
    have hfi := hf i hi
    refine pk_le L i (fun c => by omega) (fun _ => ⟨vp_in_nI (by omega) (by decide), ?_⟩) e10
    rw [nI_clamp (by omega), hF i hi]
    refine ⟨vp_in_nI (by omega) (by decide), ?_⟩
    rw [nI_clamp (by omega), hr _ hfi, nI_add, nI_1]
    exact hk _ rfl
theorem fnd_lt {h : Ho} {t : Se} (h1 : hoOK h) {n L : Nat} (hn : n < V h t (okB t) (tp t) 4) (hL : isLen h t n L) : ∀ i, i < L → fnd h t n i < hoW h := fun i hi => (sx_word h1 (sx_all h1 hn hL i (by omega)) (hL.2.2 i hi)).1
theorem lN_pos {a : Int64} (h : ¬ a < 0) : ∃ k : Nat, k < 2 ^ 63 ∧ a = lN k := pk_lOf h
theorem s_phrase : st_phrase Sim := by
  intro a b I J A B hs
  obtain ⟨h, t, hH⟩ := Sim_H.mp hs
  obtain ⟨h1, h2, h3, h4, h5, h6, h7, h8, h9, h10, h11, h12, h13, h14, h15⟩ := id hH
  have hX : CX I J h t := ⟨lexX_C h3, h5⟩
  have hw10 := h1.1
  have hV := V_small (ok := okB t) h1 (seOK_O h2).1 (Nat.le_refl (tp t)) 4
  have h13p : (10 : Nat) ^ 13 < 2 ^ 60 := by decide
  have eV : lN (V h t (okB t) (tp t) 4) - (1 : Int64) = lN (V h t (okB t) (tp t) 4) - lN 1 := rfl
  have tV : (lN (V h t (okB t) (tp t) 4) - (1 : Int64)).toInt = (V h t (okB t) (tp t) 4 : Int) - 1 := by
    rcases Nat.eq_zero_or_pos (V h t (okB t) (tp t) 4) with q | q
    · rw [q]; decide
    · rw [eV, lN_sub q, pk_lT (by omega)]; omega
  -- the reference, where there is no such number
  have hno : ∀ (I1 : MI) (J1 : MJ), Sim I1 J1 A B → ¬ (0 ≤ a.toInt ∧ a.toInt < (V h t (okB t) (tp t) 4 : Int)) → ∀ (hS : ∀ (A' : MI) (B' : MJ), frM A A' B B' → Sim I1 J1 A' B'), P_X12_phrase a b A B (fun r2 I2 J2 => (-1 : Int32) = r2 ∧ Sim I1 J1 I2 J2) := fun I1 J1 _ hn hS => by
    refine pe_manyOf (Or.inl rfl) h1 (seOK_O h2) (lexM_N h4) h6 (fun A1 B1 fA fB hL hW => ?_)
    refine pe_in (fun c c2 => absurd ?_ hn) (fun _ => ⟨fun e => absurd rfl e, fun _ => ⟨rfl, hS A1 B1 (frM_of fA fB)⟩⟩)
    rw [Int64.le_iff_toInt_le] at c c2
    rw [tV] at c2
    have : (0 : Int64).toInt = 0 := by decide
    omega
  refine ⟨fun c => hno I J hs (fun q => ?_) (fun A' B' fM => Sim_ph hH frC_rfl fM h14 h15.1), fun c => ?_⟩
  · rw [Int64.lt_iff_toInt_lt] at c; have : (0 : Int64).toInt = 0 := by decide
    omega
  obtain ⟨n, hn63, rfl⟩ := lN_pos c
  refine pe_count h1 h2 hX h15.1 (fun I1 J1 f1 p1 => ?_)
  have f1N := frR_N f1
  have hX1 := CX_N hX f1N
  have hS1 : ∀ (A' : MI) (B' : MJ), frM A A' B B' → Sim I1 J1 A' B' := fun A' B' fM => Sim_ph hH f1N.1 fM (frN_sw f1N h14) (Or.inr p1)
  refine ⟨fun c1 => ?_, fun c1 => hno I1 J1 (hS1 A B frM_rfl) (fun q => c1 ?_) hS1⟩
  · have hn : n < V h t (okB t) (tp t) 4 := (pk_lLT hn63 (by omega)).mp c1
    obtain ⟨L, hL⟩ := len_ex h1 h2.1 hn
    have hL12 := hL.1
    -- the reference, once the number is one
    have href : ∀ (K : Int32 → MI → MJ → Prop), (∀ (A1 : MI) (B1 : MJ), frM A A1 B B1 → lexN A1 h → Lk (A1 0) (A1 19) (A1 21) (A1 26) h t (okB t) → LW (B1 22) h t (okB t) → P_X12_in b.toInt64 (0 : Int64) (13 : Int64) A1 B1 (fun r26 I26 J26 => ((¬ r26 = 0 → P_X12_find (lN n) I26 J26 (fun r37 I37 J37 => ((¬ b = 0 → ((¬ b = (13 : Int32) → ((r37 < b → K (-9 : Int32) I37 J37) ∧ (¬ r37 < b → vp_in (b - (1 : Int32)) 12 ∧ (K (I37 27 (b - (1 : Int32)).toNatClampNeg) I37 J37)))) ∧ (b = (13 : Int32) → P_X12_worthOf r37 I37 J37 (fun r60 I60 J60 => K r60 I60 J60)))) ∧ (b = 0 → K r37 I37 J37)))) ∧ (r26 = 0 → K (-2 : Int32) I26 J26)))) → P_X12_phrase (lN n) b A B K := fun K hK => by
      refine pe_manyOf (Or.inl rfl) h1 (seOK_O h2) (lexM_N h4) h6 (fun A1 B1 fA fB hL hW => ?_)
      refine pe_in (fun c c2 => ⟨fun _ => hK A1 B1 (frM_of fA fB) (lexN_fr fA (lexM_N h4)) hL hW, fun e => absurd e no10⟩) (fun hh => absurd ⟨?_, ?_⟩ hh)
      · rw [Int64.le_iff_toInt_le, pk_lT hn63]; show (0 : Int) ≤ _; omega
      · rw [Int64.le_iff_toInt_le, pk_lT hn63, tV]; omega
    have hbad : ¬ (0 ≤ b.toInt ∧ b.toInt ≤ 13) → P_X12_phrase (lN n) b A B (fun r2 I2 J2 => (-2 : Int32) = r2 ∧ Sim I1 J1 I2 J2) := fun hb => by
      refine href _ (fun A1 B1 fM hl hLk hW => pe_inI (p := 0) (q := 13) (by decide) (by decide) (fun c c2 => absurd ⟨c, c2⟩ hb) (fun _ => ⟨fun e => absurd rfl e, fun _ => ⟨rfl, hS1 A1 B1 fM⟩⟩))
    refine ⟨fun c2 => hbad (by rw [lt0] at c2; omega), fun c2 => ⟨fun c3 => ?_, fun c3 => hbad (by rw [show (13 : Int32) = nI 13 from rfl, le_lit (by decide)] at c3; omega)⟩⟩
    obtain ⟨j, hj, rfl⟩ : ∃ j, j ≤ 13 ∧ b = nI j := nI_of2 (n := 13) (by decide) c2 c3
    refine pe_findX h1 h2 hX1 (Or.inr p1) hn hL (fun I2 J2 f2 p2 e10 ef => ?_)
    have f2N := frN_tr f1N f2
    have hS2 : ∀ (A' : MI) (B' : MJ), frM A A' B B' → Sim I2 J2 A' B' := fun A' B' fM => Sim_ph hH f2N.1 fM (frN_sw f2N h14) (Or.inr p2)
    have hX2 := CX_N hX f2N
    have hfl := fnd_lt h1 hn hL
    -- the reference, once all is found
    have href2 : ∀ (K : Int32 → MI → MJ → Prop), (∀ (A1 : MI) (B1 : MJ), frM A A1 B B1 → rowM (A1 19) 0 h t → (∀ i, i < L → A1 27 i = nI (fnd h t n i)) → ((¬ nI j = 0 → ((¬ nI j = (13 : Int32) → ((nI L < nI j → K (-9 : Int32) A1 B1) ∧ (¬ nI L < nI j → vp_in (nI j - (1 : Int32)) 12 ∧ (K (A1 27 (nI j - (1 : Int32)).toNatClampNeg) A1 B1)))) ∧ (nI j = (13 : Int32) → P_X12_worthOf (nI L) A1 B1 (fun r60 I60 J60 => K r60 I60 J60)))) ∧ (nI j = 0 → K (nI L) A1 B1))) → P_X12_phrase (lN n) (nI j) A B K := fun K hK => by
      refine href K (fun A1 B1 fM hl hLk hW => ?_)
      refine pe_inI (p := 0) (q := 13) (by decide) (by decide) (fun _ _ => ⟨fun _ => ?_, fun e => absurd e no10⟩) (fun hh => absurd ⟨by rw [nI_toInt (by omega)]; omega, by rw [nI_toInt (by omega)]; omega⟩ hh)
      refine pe_findM h1 h2 hl hLk hW hn hL (fun f hf => ?_)
      exact hK (wI A1 27 f) B1 ⟨fun c c1 c2 c3 => (wI_n _ (by omega) _).trans (fM.1 c c1 c2 c3), fM.2.1, fM.2.2⟩ hLk.2.2.2.2 hf
    refine ⟨fun c4 => ?_, fun c4 => ?_⟩
    · have hj0 : j ≠ 0 := fun e => c4 (by rw [e]; rfl)
      refine pk_le j 12 (fun c5 => ?_) (fun c5 => ?_)
      · -- a word
        have ej : nI j - (1 : Int32) = nI (j - 1) := by rw [show (1 : Int32) = nI 1 from rfl, pk_sub (by omega)]
        have hj13 : ¬ nI j = (13 : Int32) := fun e => by have := (nI_eq (b := 13) (by omega) (by decide)).mp e; omega
        have none : L ≤ j - 1 → P_X12_phrase (lN n) (nI j) A B (fun r2 A2 B2 => (-9 : Int32) = r2 ∧ Sim I2 J2 A2 B2) := fun hLj => by
          refine href2 _ (fun A1 B1 fM hr hf => ⟨fun _ => ⟨fun _ => pk_lt L j (fun _ => ⟨rfl, hS2 A1 B1 fM⟩) (fun c => by omega), fun e => absurd e hj13⟩, fun e => absurd e c4⟩)
        rw [ej]
        refine ⟨fun c => absurd c (nI_pos (by omega)), fun _ => pk_le L (j - 1) (fun c => none c) (fun c => ⟨vp_in_nI (by omega) (by decide), ?_⟩) e10⟩
        rw [nI_clamp (by omega), ef _ (by omega)]
        refine href2 _ (fun A1 B1 fM hr hf => ⟨fun _ => ⟨fun _ => pk_lt L j (fun c => by omega) (fun _ => ?_), fun e => absurd e hj13⟩, fun e => absurd e c4⟩)
        rw [ej]
        exact ⟨vp_in_nI (by omega) (by decide), by rw [nI_clamp (by omega), hf _ (by omega)], hS2 A1 B1 fM⟩
      · obtain rfl : j = 13 := by omega
        refine pe_worthX h1 hL12 hfl e10 ef hX2.2.2.1 ?_
        refine href2 _ (fun A1 B1 fM hr hf => ⟨fun _ => ⟨fun e => absurd rfl e, fun _ => ?_⟩, fun e => absurd e c4⟩)
        exact pe_worthM h1 hL12 hfl hf hr ⟨rfl, hS2 A1 B1 fM⟩
    · rw [e10]
      exact href2 _ (fun A1 B1 fM hr hf => ⟨fun e => absurd c4 e, fun _ => ⟨rfl, hS2 A1 B1 fM⟩⟩)
  · have hq : n < V h t (okB t) (tp t) 4 := by have := q.2; rw [pk_lT hn63] at this; omega
    exact (pk_lLT hn63 (by omega)).mpr hq
