def fln (h : Ho) (t : Se) (n : Nat) : Nat := sm (fun i => if 0 < (sst h t n i).1 then 1 else 0) 12
theorem isLen_eq {h : Ho} {t : Se} {n L : Nat} (hL : isLen h t n L) : fln h t n = L := by
  have hz : ∀ d, (sst h t n (L + d)).1 = 0 := by
    intro d
    induction d with
    | zero => exact hL.2.1
    | succ d ih => show (sst h t n (L + d)).1 - _ = 0; rw [ih, Nat.zero_sub]
  have key : ∀ k, sm (fun i => if 0 < (sst h t n i).1 then 1 else 0) k = if k ≤ L then k else L := by
    intro k
    induction k with
    | zero => rw [if_pos (Nat.zero_le _)]; rfl
    | succ k ih =>
      show _ + (if 0 < (sst h t n k).1 then 1 else 0) = _
      rw [ih]
      rcases Nat.lt_or_ge k L with q | q
      · rw [if_pos (by omega), if_pos (hL.2.2 k q), if_pos (by omega)]
      · obtain ⟨d, rfl⟩ : ∃ d, k = L + d := ⟨k - L, by omega⟩
        rw [hz d, if_neg (Nat.lt_irrefl 0), if_neg (show ¬ L + d + 1 ≤ L by omega)]
        by_cases hk : L + d ≤ L
        · rw [if_pos hk]; omega
        · rw [if_neg hk, Nat.add_zero]
  unfold fln
  rw [key 12]
  have := hL.1
  by_cases h12 : 12 ≤ L
  · rw [if_pos h12]; omega
  · rw [if_neg h12]
theorem fln_len {h : Ho} {t : Se} (h1 : hoOK h) (h2 : sm (seB t) 8 ≤ 12) {n : Nat} (hn : n < V h t (okB t) (tp t) 4) : isLen h t n (fln h t n) := by
  obtain ⟨L, hL⟩ := len_ex h1 h2 hn
  rw [isLen_eq hL]; exact hL
theorem Sim_ph2 {I I' : MI} {J J' : MJ} {A A' : MI} {B B' : MJ} {h : Ho} {t : Se} (hs : SimH I J A B h t) (f : ∀ c, c < 39 ∨ 54 ≤ c → I' c = I c) (g : ∀ c, 0 < c → c < 39 ∨ 54 ≤ c → J' c = J c) (m1 : ∀ c, 0 < c → c < 15 → c ≠ 7 → A' c = A c) (m2 : ∀ k, k < 21 → A' 0 k = A 0 k) (h13' : J' 0 16 = B' 0 20) (h14' : S_sw (I' 39 8) (I' 39 9)) (hP : I' 39 12 = 0 ∨ Ph I' J' h t) : Sim I' J' A' B' := by
  have s1 : Sim I' (wJ J' 0 (J 0)) A' (wJ B' 0 (B 0)) := by
    refine Sim_ph hs ⟨f, fun c hc => ?_⟩ ⟨m1, m2, wJ_s _ _ _⟩ h14' ?_
    · by_cases h0 : c = 0
      · subst h0; exact wJ_s _ _ _
      · exact (wJ_n _ h0 _).trans (g c (by omega) hc)
    · exact hP
  obtain ⟨h, t, h1, h2, h3, h4, h5, h6, h7, h8, h9, h10, h11, h12, h13, h14, h15⟩ := s1
  exact ⟨h, t, h1, h2, h3, h4, h5, h6, h7, h8, h9, h10, h11, h12, h13', h14, h15⟩
def sd (s : Int64) : Nat → Int64
  | 0 => s
  | i + 1 => sd s i * (6364136223846793005 : Int64) + (1442695040888963407 : Int64)
def dn (s : Int64) : Nat := s.toUInt64.toNat >>> 33
theorem dn_lt (s : Int64) : dn s < 2 ^ 31 := by
  have h := s.toUInt64.toNat_lt
  unfold dn
  rw [Nat.shiftRight_eq_div_pow]
  omega
theorem dn_eq (s : Int64) : (s.toUInt64 >>> ((33 : Int32).toInt64.toUInt64 &&& Int64.toUInt64 63)).toInt64 = lN (dn s) := by
  have e : (33 : Int32).toInt64.toUInt64 &&& Int64.toUInt64 63 = 33 := by decide
  rw [e]
  apply Int64.toBitVec_inj.mp
  show (s.toUInt64 >>> 33).toBitVec = BitVec.ofNat 64 (dn s)
  apply BitVec.eq_of_toNat_eq
  rw [BitVec.toNat_ofNat, Nat.mod_eq_of_lt (by have := dn_lt s; omega)]
  show (s.toUInt64 >>> 33).toNat = _
  rw [UInt64.toNat_shiftRight]
  rfl
/-- the worth of the phrase that is drawn by a seed -/
def dw (h : Ho) (t : Se) (s : Int64) : Nat := if V h t (okB t) (tp t) 4 = 0 then 0 else wth h t (dn s % V h t (okB t) (tp t) 4) (fln h t (dn s % V h t (okB t) (tp t) 4))
theorem s_drawn : st_drawn Sim := by
  intro a I J A B hs
  obtain ⟨h, t, hH⟩ := Sim_H.mp hs
  obtain ⟨h1, h2, h3, h4, h5, h6, h7, h8, h9, h10, h11, h12, h13, h14, h15⟩ := id hH
  have hX : CX I J h t := ⟨lexX_C h3, h5⟩
  have hw10 := h1.1
  have hV := V_small (ok := okB t) h1 (seOK_O h2).1 (Nat.le_refl (tp t)) 4
  have h13p : (10 : Nat) ^ 13 < 2 ^ 60 := by decide
  have hbad : ¬ (1 ≤ a.toInt ∧ a.toInt ≤ 20) → P_X12_drawn a A B (fun r2 I2 J2 => (-2 : Int32) = r2 ∧ Sim I J I2 J2) := fun hn =>
    pe_inI (p := 1) (q := 20) (by decide) (by decide) (fun c c2 => absurd ⟨c, c2⟩ hn) (fun _ => ⟨fun c => absurd rfl c, fun _ => ⟨rfl, hs⟩⟩)
  have hl1 : ∀ x : Int32, x < (1 : Int32) ↔ x.toInt < 1 := fun x => by rw [Int32.lt_iff_toInt_lt]; exact Iff.rfl
  refine ⟨fun c => hbad (by rw [hl1] at c; omega), fun c => ⟨fun c2 => ?_, fun c2 => hbad (by rw [show (20 : Int32) = nI 20 from rfl, le_lit (by decide)] at c2; omega)⟩⟩
  have c20 : a.toInt ≤ 20 := by rw [show (20 : Int32) = nI 20 from rfl, le_lit (by decide)] at c2; exact c2
  have c1 : 1 ≤ a.toInt := by rw [hl1] at c; omega
  obtain ⟨m, hm, rfl⟩ : ∃ m, m ≤ 20 ∧ a = nI m := nI_of2 (n := 20) (by decide) (by rw [lt0]; omega) c2
  refine pe_count h1 h2 hX h15.1 (fun I1 J1 f1 p1 => ?_)
  have f1N := frR_N f1
  have hbase : J1 0 16 = J 0 16 := by rw [f1N.1.2 0 (by decide)]
  refine lpx_up (fun i z => ∃ (I' : MI) (J' : MJ), z = (nI m, lN (V h t (okB t) (tp t) 4), nI (sm (fun k => dw h t (sd (J 0 16) (k + 1))) i), nI i, I', J') ∧ (∀ c, c < 39 ∨ 54 ≤ c → I' c = I c) ∧ (∀ c, 0 < c → c < 39 ∨ 54 ≤ c → J' c = J c) ∧ J' 0 16 = sd (J 0 16) i ∧ S_sw (I' 39 8) (I' 39 9) ∧ Ph I' J' h t) m ?_ ?_ 0 _ (Nat.zero_le _) ⟨I1, J1, rfl, f1N.1.1, fun c _ hc => f1N.1.2 c hc, hbase, frN_sw f1N h14, p1⟩
  · rintro z k ⟨I', J', rfl, g1, g2, g3, g4, g5⟩
    refine pk_le m m (fun _ => ?_) (fun c => by omega)
    -- the reference
    refine pe_inI (p := 1) (q := 20) (by decide) (by decide) (fun _ _ => ⟨fun _ => ?_, fun e => absurd e no10⟩) (fun hh => absurd ⟨c1, c20⟩ hh)
    refine pe_manyOf (Or.inl rfl) h1 (seOK_O h2) (lexM_N h4) h6 (fun A1 B1 fA fB hL hW => ?_)
    have hlA := lexN_fr fA (lexM_N h4)
    refine lpx_up (fun i z => ∃ (f : Nat → Int32) (B' : MJ), z = (nI m, lN (V h t (okB t) (tp t) 4), nI (sm (fun k => dw h t (sd (J 0 16) (k + 1))) i), nI i, wI A1 27 f, B') ∧ (∀ c, c ≠ 0 → B' c = B1 c) ∧ B' 0 20 = sd (J 0 16) i) m ?_ ?_ 0 _ (Nat.zero_le _) ⟨A1 27, B1, by rw [wI_self]; rfl, fun _ _ => rfl, by rw [fB 0 (by decide)]; exact h13.symm⟩
    · rintro z k2 ⟨f, B', rfl, e1, e2⟩
      refine pk_le m m (fun _ => ⟨rfl, ?_⟩) (fun c => by omega)
      refine Sim_ph2 hH g1 g2 (fun c c1 c2 c3 => (wI_n _ (by omega) _).trans (fA.1 c c1 (by omega))) (fun k hk => fA.2 k (by omega)) (g3.trans e2.symm) g4 (Or.inr g5)
    · rintro i z k2 hi ⟨f, B', rfl, e1, e2⟩ hk2
      refine pk_le m i (fun c => by omega) (fun _ => ?_)
      rintro B9 rfl
      have es : mJ B' 0 20 (B' 0 20 * 6364136223846793005 + 1442695040888963407) 0 20 = sd (J 0 16) (i + 1) := by
        rw [mJ_s, pk_uLs, e2]; rfl
      have esum : sm (fun k => dw h t (sd (J 0 16) (k + 1))) (i + 1) = sm (fun k => dw h t (sd (J 0 16) (k + 1))) i + dw h t (sd (J 0 16) (i + 1)) := rfl
      refine ⟨fun c3 => ?_, fun c3 => ⟨fun e => c3 (by rw [e]; exact Int64.le_refl 0), ?_⟩⟩
      · have hz : V h t (okB t) (tp t) 4 = 0 := by have := (pk_lLE (b := 0) (by omega) (by decide)).mp c3; omega
        have hd : dw h t (sd (J 0 16) (i + 1)) = 0 := if_pos hz
        show k2 (nI m, _, nI _ + (0 : Int32), nI i + 1, _, _)
        rw [nI_1, show (0 : Int32) = nI 0 from rfl, nI_add]
        exact hk2 _ ⟨f, _, by rw [esum, hd], fun c hc => (wJ_n _ hc _).trans (e1 c hc), es⟩
      · have hz : V h t (okB t) (tp t) 4 ≠ 0 := fun e => c3 (by rw [e]; exact Int64.le_refl 0)
        rw [es, dn_eq, pk_lRem (by have := dn_lt (sd (J 0 16) (i + 1)); omega) (by omega) (by omega)]
        have hlt : dn (sd (J 0 16) (i + 1)) % V h t (okB t) (tp t) 4 < V h t (okB t) (tp t) 4 := Nat.mod_lt _ (by omega)
        have hLn := fln_len h1 h2.1 hlt
        refine pe_findM (A := wI A1 27 f) h1 h2 hlA hL (show LW (mJ B' 0 20 _ 22) h t (okB t) from by rw [show mJ B' 0 20 (B' 0 20 * 6364136223846793005 + 1442695040888963407) 22 = B' 22 from rfl, e1 22 (by decide)]; exact hW) hlt hLn (fun f2 hf2 => ?_)
        rw [wI_wI]
        refine pe_worthM h1 hLn.1 (fnd_lt h1 hlt hLn) hf2 hL.2.2.2.2 ?_
        have hd : dw h t (sd (J 0 16) (i + 1)) = sm (fun j => seR t (fnd h t (dn (sd (J 0 16) (i + 1)) % V h t (okB t) (tp t) 4) j)) (fln h t (dn (sd (J 0 16) (i + 1)) % V h t (okB t) (tp t) 4)) := if_neg hz
        show k2 (nI m, _, nI _ + nI _, nI i + 1, _, _)
        rw [nI_1, nI_add, ← hd]
        exact hk2 _ ⟨f2, _, by rw [esum], fun c hc => (wJ_n _ hc _).trans (e1 c hc), es⟩
  · rintro i z k hi ⟨I', J', rfl, g1, g2, g3, g4, g5⟩ hk
    refine pk_le m i (fun c => by omega) (fun _ => ?_)
    rintro J9 rfl
    have es : mJ J' 0 16 (J' 0 16 * 6364136223846793005 + 1442695040888963407) 0 16 = sd (J 0 16) (i + 1) := by
      rw [mJ_s, pk_uLs, g3]; rfl
    have esum : sm (fun k => dw h t (sd (J 0 16) (k + 1))) (i + 1) = sm (fun k => dw h t (sd (J 0 16) (k + 1))) i + dw h t (sd (J 0 16) (i + 1)) := rfl
    have hX' : CX I' (mJ J' 0 16 (J' 0 16 * 6364136223846793005 + 1442695040888963407)) h t := by
      have q1 : CX I' (wJ J' 0 (J 0)) h t := CX_fr hX (fun c hc => g1 c (Or.inl hc)) (fun c hc => by
        by_cases h0 : c = 0
        · subst h0; exact wJ_s _ _ _
        · exact (wJ_n _ h0 _).trans (g2 c (by omega) (Or.inl hc)))
      exact q1
    refine ⟨fun c3 => ?_, fun c3 => ⟨fun e => c3 (by rw [e]; exact Int64.le_refl 0), ?_⟩⟩
    · have hz : V h t (okB t) (tp t) 4 = 0 := by have := (pk_lLE (b := 0) (by omega) (by decide)).mp c3; omega
      have hd : dw h t (sd (J 0 16) (i + 1)) = 0 := if_pos hz
      show k (nI m, _, nI _, nI i + 1, _, _)
      rw [nI_1]
      exact hk _ ⟨I', mJ J' 0 16 (J' 0 16 * 6364136223846793005 + 1442695040888963407), by rw [esum, hd]; rfl, g1, fun c h0 hc => (wJ_n _ (by omega) _).trans (g2 c h0 hc), es, g4, g5⟩
    · have hz : V h t (okB t) (tp t) 4 ≠ 0 := fun e => c3 (by rw [e]; exact Int64.le_refl 0)
      rw [es, dn_eq, pk_lRem (by have := dn_lt (sd (J 0 16) (i + 1)); omega) (by omega) (by omega)]
      have hlt : dn (sd (J 0 16) (i + 1)) % V h t (okB t) (tp t) 4 < V h t (okB t) (tp t) 4 := Nat.mod_lt _ (by omega)
      have hLn := fln_len h1 h2.1 hlt
      refine pe_findX h1 h2 hX' (Or.inr g5) hlt hLn (fun I2 J2 f2 p2 e10 ef => ?_)
      have hX2 := CX_N hX' f2
      refine pe_worthX h1 hLn.1 (fnd_lt h1 hlt hLn) e10 ef hX2.2.2.1 ?_
      have hd : dw h t (sd (J 0 16) (i + 1)) = sm (fun j => seR t (fnd h t (dn (sd (J 0 16) (i + 1)) % V h t (okB t) (tp t) 4) j)) (fln h t (dn (sd (J 0 16) (i + 1)) % V h t (okB t) (tp t) 4)) := if_neg hz
      show k (nI m, _, nI _ + nI _, nI i + 1, _, _)
      rw [nI_1, nI_add, ← hd]
      refine hk _ ⟨I2, J2, by rw [esum], fun c hc => (f2.1.1 c hc).trans (g1 c hc), fun c h0 hc => (f2.1.2 c hc).trans ((wJ_n _ (by omega) _).trans (g2 c h0 hc)), ?_, frN_sw f2 g4, p2⟩
      rw [f2.1.2 0 (by decide)]; exact es
