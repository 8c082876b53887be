/-! ===== the class lays its places ===== -/
theorem Rc_le {h : Ho} {t : Se} (h1 : hoOK h) {q a : Nat} (hr : Rc h t q a) : (a = 4 ∧ q = tp t) ∨ (a < 4 ∧ q < tp t) := by
  obtain ⟨n, hn⟩ := hr
  obtain ⟨g1, g2⟩ := Pth_le h1 n _ _ _ _ (Nat.le_refl _) hn
  cases n with
  | zero => exact Or.inl ⟨hn.2.symm, hn.1.symm⟩
  | succ n => exact Or.inr ⟨by omega, by omega⟩
theorem Rc_top (h : Ho) (t : Se) : Rc h t (tp t) 4 := ⟨0, rfl, rfl⟩
def Cm (h : Ho) (t : Se) (p q a : Nat) : Prop := ∃ q2 w, p < q2 ∧ w < hoW h ∧ Op h t q2 w ∧ q = q2 - pr h t w ∧ a = hoK h w
theorem Op_fit {h : Ho} {t : Se} {p w : Nat} (ho : Op h t p w) : okB t w = true ∧ fitP h t p w ∧ (p - pr h t w = 0 → (seE t).testBit (hoK h w) = true) := by
  obtain ⟨a, _, hm, he⟩ := ho
  exact ⟨(may_iff.mp hm).1, (may_iff.mp hm).2.2, he⟩
theorem Op_Rc {h : Ho} {t : Se} {p w : Nat} (hp : 0 < p) (hw : w < hoW h) (ho : Op h t p w) : Rc h t (p - pr h t w) (hoK h w) := by
  obtain ⟨a, ⟨n, hn⟩, hm, he⟩ := ho
  exact ⟨n + 1, Pth_snoc n _ _ _ _ w hn hw hp hm he⟩
theorem Cm_Rc {h : Ho} {t : Se} (h1 : hoOK h) {p q a : Nat} (hpq : p ≤ q) (ha : a < 4) : Cm h t p q a ↔ Rc h t q a := by
  constructor
  · rintro ⟨q2, w, g1, g2, g3, rfl, rfl⟩
    exact Op_Rc (by omega) g2 g3
  · rintro ⟨n, hn⟩
    cases n with
    | zero => have := hn.2; omega
    | succ n =>
      obtain ⟨p2, a2, w, hr, hw, hp2, hm, he, e1, e2⟩ := Pth_last _ _ _ _ _ hn
      have hle := Pth_le h1 n _ _ _ _ (Nat.le_refl _) hr
      have hf := fit_step h1 hw (by omega) (may_iff.mp hm).2.2
      exact ⟨p2, w, by omega, hw, ⟨a2, ⟨n, hr⟩, hm, he⟩, e1, e2⟩
theorem Cm_step {h : Ho} {t : Se} {p q a : Nat} : Cm h t p q a ↔ Cm h t (p + 1) q a ∨ ∃ w, w < hoW h ∧ Op h t (p + 1) w ∧ q = p + 1 - pr h t w ∧ a = hoK h w := by
  constructor
  · rintro ⟨q2, w, g1, g2, g3, g4, g5⟩
    by_cases hq : q2 = p + 1
    · subst hq; exact Or.inr ⟨w, g2, g3, g4, g5⟩
    · exact Or.inl ⟨q2, w, by omega, g2, g3, g4, g5⟩
  · rintro (⟨q2, w, g1, g2, g3, g4, g5⟩ | ⟨w, g2, g3, g4, g5⟩)
    · exact ⟨q2, w, by omega, g2, g3, g4, g5⟩
    · exact ⟨p + 1, w, by omega, g2, g3, g4, g5⟩
theorem Cm_top {h : Ho} {t : Se} (h1 : hoOK h) {q a : Nat} : ¬ Cm h t (tp t) q a := by
  rintro ⟨q2, w, g1, g2, ⟨a2, hr, _⟩, _⟩
  have := Rc_le h1 hr; omega
theorem Cm_lt {h : Ho} {t : Se} (h1 : hoOK h) {p q a : Nat} (hc : Cm h t p q a) : q < tp t ∧ a < 4 := by
  obtain ⟨q2, w, g1, g2, ho, e1, e2⟩ := hc
  obtain ⟨a2, hr, hm, _⟩ := id ho
  have hle := Rc_le h1 hr
  have hf := fit_step h1 g2 (by omega) (may_iff.mp hm).2.2
  have := (h1.2 w g2).1
  omega
/-- the class's words, its setting: what counting needs -/
def lexC (I : MI) (J : MJ) (h : Ho) : Prop := I 12 4 = nI (hoW h) ∧ (∀ u, u < hoW h → I 13 u = nI (hoK h u)) ∧ ∀ u, u < hoW h → J 15 u = lN (pk (nd h u) 8)
theorem lexX_C {I : MI} {J : MJ} {h : Ho} (h3 : lexX (I 12 4) (I 13) (I 14) (J 15) (I 16) h) : lexC I J h := ⟨h3.1, fun u hu => (h3.2 u hu).1, fun u hu => (h3.2 u hu).2.2.1⟩
theorem pe_measure {h : Ho} {t : Se} {I : MI} {J : MJ} {Q : MI → MJ → Prop} (h2 : seO h t) (hB : ∀ l, l < 8 → I 18 l = nI (seB t l))
    (hQ : ∀ I' : MI, (∀ c, c ≠ 46 → c ≠ 51 → I' c = I c) → (∀ k, k ≠ 11 → I' 46 k = I 46 k) → I' 46 11 = nI (tp t) → (∀ l, l < 8 → I' 51 l = nI (bs (seB t) l)) → Q I' J) : P_X4_measure I J Q := by
  have hb9 := bs_13 h2.1
  have hbp := bs_pos (seB t) 8
  refine lpx_up (fun i z => ∃ I' : MI, z = (nI (bs (seB t) i), nI i, I', J) ∧ (∀ c, c ≠ 51 → I' c = I c) ∧ ∀ l, l < i → I' 51 l = nI (bs (seB t) l)) 8 ?_ ?_ 0 _ (Nat.zero_le _) ⟨I, rfl, fun _ _ => rfl, fun l hl => absurd hl (Nat.not_lt_zero l)⟩
  · rintro z k ⟨I', rfl, g1, g2⟩
    refine pk_le 8 8 (fun _ => pk_lt (bs (seB t) 8) 1 (fun c => by omega) (fun _ => pk_lt 1944 (bs (seB t) 8) (fun c => by omega) (fun _ => ?_))) (fun c => by omega)
    rintro I2 rfl
    have e : nI (bs (seB t) 8) - (1 : Int32) = nI (tp t) := by rw [show (1 : Int32) = nI 1 from rfl, pk_sub hbp]; rfl
    rw [e]
    refine hQ _ (fun c c1 c2 => (wI_n _ c1 _).trans (g1 c c2)) (fun k hk => ?_) rfl g2
    exact (upd_n (f := I' 46) hk).trans (by rw [g1 46 (by decide)])
  · rintro i z k hi ⟨I', rfl, g1, g2⟩ hk
    refine pk_le 8 i (fun c => by omega) (fun _ => ⟨vp_in_nI hi (by decide), ?_⟩)
    rintro I2 rfl
    refine ⟨vp_in_nI hi (by decide), ?_⟩
    rw [nI_1, nI_clamp (by omega)]
    have e : mI I' 51 i (nI (bs (seB t) i)) 18 i = nI (seB t i) := by
      show I' 18 i = _
      rw [g1 18 (by decide)]; exact hB i hi
    rw [e, nI_1, pk_mul]
    refine hk _ ⟨_, rfl, fun c hc => (wI_n _ hc _).trans (g1 c hc), fun l hl => ?_⟩
    rcases Nat.lt_or_ge l i with q | q
    · exact upd_n2 (f := I' 51) (by omega) (g2 l q)
    · rw [show l = i by omega]; exact upd_s (f := I' 51) rfl
theorem shl5 {b l : Nat} (hb : b < 32) (hl : l < 8) : lN b <<< (((5 : Int32) * nI l).toInt64 &&& 63) = lN (b * 32 ^ l) := by
  have hs : (((5 : Int32) * nI l).toInt64 &&& 63).toBitVec.smod 64 = BitVec.ofNat 64 (5 * l) := by
    rcases (show l = 0 ∨ l = 1 ∨ l = 2 ∨ l = 3 ∨ l = 4 ∨ l = 5 ∨ l = 6 ∨ l = 7 by omega) with rfl | rfl | rfl | rfl | rfl | rfl | rfl | rfl <;> decide
  have hp : b * 32 ^ l < 2 ^ 64 := by
    have h1 : b * 32 ^ l ≤ 31 * 32 ^ 7 := Nat.mul_le_mul (by omega) (Nat.pow_le_pow_right (by decide) (by omega))
    omega
  apply Int64.toBitVec_inj.mp
  rw [Int64.toBitVec_shiftLeft, hs]
  have e : ∀ n, (lN n).toBitVec = BitVec.ofNat 64 n := fun n => rfl
  rw [e, e]
  apply BitVec.eq_of_toNat_eq
  rw [BitVec.shiftLeft_eq', BitVec.toNat_shiftLeft, BitVec.toNat_ofNat, BitVec.toNat_ofNat, BitVec.toNat_ofNat, Nat.mod_eq_of_lt (show 5 * l < 2 ^ 64 by omega), Nat.mod_eq_of_lt (show b < 2 ^ 64 by omega), Nat.shiftLeft_eq, Nat.pow_mul]
theorem pe_packed {k : Nat} {f : Nat → Nat} {I : MI} {J : MJ} {Q : Int64 → MI → MJ → Prop} (e : ∀ l, l < 8 → I (k + 1) l = nI (f l)) (hf : ∀ l, l < 8 → f l < 16) (hQ : Q (lN (pk f 8)) I J) : P_X8_packed k I J Q := by
  refine lpx_up (fun i z => z = (lN (pk f i), nI i, I, J)) 8 ?_ ?_ 0 _ (Nat.zero_le _) rfl
  · rintro z k9 rfl
    exact pk_le 8 8 (fun _ => hQ) (fun c => by omega)
  · rintro i z k9 hi rfl hk
    have h16 := hf i hi
    refine pk_le 8 i (fun c => by omega) (fun _ => ⟨vp_in_nI hi (by decide), hk _ ?_⟩)
    have hl : pk f i < 2 ^ (5 * i) := by
      have e1 : pk f i = pk (fun l => if l < 8 then f l else 0) i := pkk_congr (fun l hl => by rw [if_pos (by omega)])
      rw [e1, Nat.pow_mul]
      refine pkk_lt (fun l => ?_) i
      by_cases h8 : l < 8
      · rw [if_pos h8]; have := hf l h8; omega
      · rw [if_neg h8]; decide
    rw [nI_1, nI_clamp (by omega), e i hi, nI_l (by omega), shl5 (by omega) hi, lN_or]
    have e2 : pk f i ||| f i * 32 ^ i = pk f (i + 1) := by
      show _ = pk f i + f i * 32 ^ i
      rw [show f i * 32 ^ i = 2 ^ (5 * i) * f i from by rw [Nat.pow_mul, Nat.mul_comm], Nat.add_comm, Nat.two_pow_add_eq_or_of_lt hl, Nat.or_comm]
    rw [e2]
theorem pe_holds {d e : Nat → Nat} {I : MI} {J : MJ} {Q : Int32 → MI → MJ → Prop} (hd : ∀ l, l < 8 → d l < 16) (he : ∀ l, l < 8 → e l < 16) (q1 : (∀ l, l < 8 → e l ≤ d l) → Q 1 I J) (q0 : ¬ (∀ l, l < 8 → e l ≤ d l) → Q 0 I J) : P_X11_holds (lN (pk d 8)) (lN (pk e 8)) I J Q := by
  have e1 : pk d 8 = pk (fun l => if l < 8 then d l else 0) 8 := pkk_congr (fun l hl => by rw [if_pos hl])
  have e2 : pk e 8 = pk (fun l => if l < 8 then e l else 0) 8 := pkk_congr (fun l hl => by rw [if_pos hl])
  have hh := holds_iff (d := fun l => if l < 8 then d l else 0) (e := fun l => if l < 8 then e l else 0) (fun i => by
    by_cases h8 : i < 8
    · show (if i < 8 then d i else 0) < 16; rw [if_pos h8]; exact hd i h8
    · show (if i < 8 then d i else 0) < 16; rw [if_neg h8]; decide) (fun i => by
    by_cases h8 : i < 8
    · show (if i < 8 then e i else 0) < 16; rw [if_pos h8]; exact he i h8
    · show (if i < 8 then e i else 0) < 16; rw [if_neg h8]; decide)
  rw [← e1, ← e2] at hh
  have hh2 : (∀ l, l < 8 → (if l < 8 then e l else 0) ≤ (if l < 8 then d l else 0)) ↔ ∀ l, l < 8 → e l ≤ d l :=
    ⟨fun g l hl => by have := g l hl; rwa [if_pos hl, if_pos hl] at this, fun g l hl => by rw [if_pos hl, if_pos hl]; exact g l hl⟩
  exact ⟨fun c => q0 (fun q => c (hh.mpr (hh2.mpr q))), fun c => q1 (hh2.mp (hh.mp c))⟩
theorem pe_listSteps {h : Ho} {t : Se} {I : MI} {J : MJ} {Q : MI → MJ → Prop} (h1 : hoOK h) (h2 : seO h t) (hC : lexC I J h) (hX : I 17 5 = nI (seX t)) (hb : ∀ l, l < 8 → I 51 l = nI (bs (seB t) l))
    (hQ : ∀ (I' : MI) (us : Nat), (∀ c, c ≠ 46 → c ≠ 52 → I' c = I c) → (∀ k, k ≠ 10 → I' 46 k = I 46 k) → I' 46 10 = nI us → us < 1024 → (∀ w, w < hoW h → (us.testBit w = true ↔ okB t w = true ∧ fitP h t (tp t) w)) → (∀ w, w < hoW h → okB t w = true → fitP h t (tp t) w → I' 52 w = nI (pr h t w)) → Q I' J) : P_X4_listSteps (lN (pk (seB t) 8)) I J Q := by
  have hw10 := h1.1
  have hXl := seX_lt h1 h2
  have hb13 : ∀ l, l < 8 → seB t l ≤ 13 := fun l hl => Nat.le_trans (sm_le _ hl) h2.1
  have htop : ∀ w, (∀ l, l < 8 → nd h w l ≤ seB t l) ↔ fitP h t (tp t) w := fun w =>
    ⟨fun g l hl => by rw [show dg (seB t) (tp t) l = seB t l from dg_top 8 hl]; exact g l hl, fun g l hl => by have := g l hl; rwa [show dg (seB t) (tp t) l = seB t l from dg_top 8 hl] at this⟩
  rintro I0 rfl
  refine lpx_up (fun i z => ∃ (I' : MI) (us : Nat), z = (lN (pk (seB t) 8), nI i, I', J) ∧ (∀ c, c ≠ 46 → c ≠ 52 → I' c = I c) ∧ (∀ k, k ≠ 10 → I' 46 k = I 46 k) ∧ I' 46 10 = nI us ∧ us < 1024 ∧ (∀ w, w < 10 → (us.testBit w = true ↔ w < i ∧ okB t w = true ∧ fitP h t (tp t) w)) ∧ ∀ w, w < i → okB t w = true → fitP h t (tp t) w → I' 52 w = nI (pr h t w)) (hoW h) ?_ ?_ 0 _ (Nat.zero_le _) ⟨_, 0, rfl, fun c c1 c2 => wI_n _ c1 _, fun k hk => upd_n (f := I 46) hk, rfl, by decide, fun w _ => ⟨fun q => absurd q (by simp), fun q => absurd q.1 (Nat.not_lt_zero w)⟩, fun w hw => absurd hw (Nat.not_lt_zero w)⟩
  · rintro z k ⟨I', us, rfl, g1, g2, g3, g4, g5, g6⟩
    have hn : I' 12 4 = nI (hoW h) := by rw [g1 12 (by decide) (by decide)]; exact hC.1
    refine pk_le (hoW h) (hoW h) (fun _ => hQ I' us g1 g2 g3 g4 (fun w hw => ?_) g6) (fun c => by omega) hn
    rw [g5 w (by omega)]; exact ⟨fun q => q.2, fun q => ⟨hw, q⟩⟩
  · rintro u z k hu ⟨I', us, rfl, g1, g2, g3, g4, g5, g6⟩ hk
    have hn : I' 12 4 = nI (hoW h) := by rw [g1 12 (by decide) (by decide)]; exact hC.1
    have hX' : I' 17 5 = nI (seX t) := by rw [g1 17 (by decide) (by decide)]; exact hX
    have hcl : (nI u).toNatClampNeg = u := nI_clamp (by omega)
    have hv10 : vp_in (nI u) 10 := vp_in_nI (by omega) (by decide)
    have skip : ¬ (okB t u = true ∧ fitP h t (tp t) u) → P_X4_listSteps_113 Q k (lN (pk (seB t) 8)) (nI u) I' J := fun hno => by
      show k (_, nI u + 1, I', J)
      rw [nI_1]
      refine hk _ ⟨I', us, rfl, g1, g2, g3, g4, fun w hw => ?_, fun w hw q1 q2 => ?_⟩
      · rw [g5 w hw]
        exact ⟨fun q => ⟨by omega, q.2⟩, fun q => ⟨by
          rcases Nat.lt_or_ge w u with c | c
          · exact c
          · exact absurd (show okB t u = true ∧ fitP h t (tp t) u by rw [show u = w by omega]; exact q.2) hno, q.2⟩⟩
      · rcases Nat.lt_or_ge w u with c | c
        · exact g6 w c q1 q2
        · exact absurd (show okB t u = true ∧ fitP h t (tp t) u by rw [show u = w by omega]; exact ⟨q1, q2⟩) hno
    refine pk_le (hoW h) u (fun c => by omega) (fun _ => ?_) hn
    rw [hX']
    refine ⟨fun c => skip ?_, fun c => ⟨hv10, ?_⟩⟩
    · rw [bitI0 (by omega) (by omega)] at c
      intro q
      have : (seX t).testBit u = false := by have := q.1; unfold okB at this; simpa using this
      exact c this
    · rw [bitI0 (by omega) (by omega)] at c
      have hok : okB t u = true := by unfold okB; rw [c]; rfl
      rw [hcl, hC.2.2 u hu]
      refine pe_holds (fun l hl => by have := hb13 l hl; omega) (fun l hl => by have := nd_le h1 hu l; omega) (fun hf => ⟨fun _ => ?_, fun e => absurd e no10⟩) (fun hf => ⟨fun e => absurd rfl e, fun _ => skip (fun q => hf ((htop u).mpr q.2))⟩)
      have hfit := (htop u).mp hf
      rintro I60 rfl
      rw [g3, shlI (by omega), nI_or]
      have h2u : 2 ^ u < 1024 := pow_lt31 (n := 10) (by omega)
      refine lpx_up (fun l z => z = (lN (pk (seB t) 8), nI u, nI (vl (seB t) (nd h u) l), nI l, mI I' 46 10 (nI (us ||| 2 ^ u)), J)) 8 ?_ ?_ 0 _ (Nat.zero_le _) rfl
      · rintro z k2 rfl
        refine pk_le 8 8 (fun _ => ⟨hv10, ?_⟩) (fun c => by omega)
        rintro I112 rfl
        show k (_, nI u + 1, _, J)
        rw [nI_1, hcl]
        refine hk _ ⟨_, us ||| 2 ^ u, rfl, fun c c1 c2 => (wI_n _ c2 _).trans ((wI_n _ c1 _).trans (g1 c c1 c2)), fun k hk => (upd_n (f := I' 46) hk).trans (g2 k hk), rfl, or_lt (n := 10) g4 h2u, fun w hw => ?_, fun w hw q1 q2 => ?_⟩
        · rw [tb_or2, Bool.or_eq_true, decide_eq_true_iff, g5 w hw]
          constructor
          · rintro (q | q)
            · exact ⟨by omega, q.2⟩
            · subst q; exact ⟨by omega, hok, hfit⟩
          · rintro ⟨q1, q2⟩
            rcases Nat.lt_or_ge w u with c | c
            · exact Or.inl ⟨c, q2⟩
            · exact Or.inr (by omega)
        · show upd (I' 52) u _ w = _
          rcases Nat.lt_or_ge w u with c | c
          · exact upd_n2 (by omega) (g6 w c q1 q2)
          · rw [show w = u by omega]; exact upd_s rfl
      · rintro l z k2 hl rfl hk2
        refine pk_le 8 l (fun c => by omega) (fun _ => ?_)
        refine pe_amount (k := 12) h1 (hC.2.2 u hu) hu hl ⟨vp_in_nI hl (by decide), hk2 _ ?_⟩
        have e51 : mI I' 46 10 (nI (us ||| 2 ^ u)) 51 (nI l).toNatClampNeg = nI (bs (seB t) l) := by
          show I' 51 (nI l).toNatClampNeg = _
          rw [nI_clamp (by omega), g1 51 (by decide) (by decide)]; exact hb l hl
        rw [e51, pk_mul, nI_add, nI_1]
        rfl
