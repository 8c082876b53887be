def cw (ph W : Nat) : Nat := if ph = 1 ∨ ph = 2 then W - 1 else W
def plc (ph : Nat) : Nat := if ph = 0 then 0 else if ph = 2 ∨ ph = 7 then 2 else 1
def prt (ph : Nat) : Nat := if ph = 1 ∨ ph = 2 then 119 else if ph = 3 then 43 else if ph = 4 then 94 else if ph = 5 then 46 else 58
def mM (A : MI) (ph ld : Nat) (h : Ho) (t : Se) : Prop := A 0 21 = nI (cw ph (hoW h)) ∧ A 0 27 = nI (plc ph) ∧ (ph ≠ 0 → A 0 26 = nI (prt ph)) ∧ (ph = 7 → A 0 28 = nI ld) ∧ (∀ u, u < hoW h → A 16 u = nI (hoZ h u) ∧ ∀ i, i < hoZ h u → A 15 (6 * u + i) = nI (hoS h u i)) ∧ (∀ u, u < hoW h → (u + 1 < hoW h ∨ ph ≠ 1) → A 17 u = nI (hoK h u)) ∧ (∀ l, l < 8 → A 18 l = nI (seB t l)) ∧ (∀ u, u < hoW h → (u + 1 < hoW h ∨ (ph ≠ 1 ∧ ph ≠ 2)) → A 18 (9 + u) = nI (seR t u)) ∧ (∀ a, a < 4 → A 18 (21 + a) = nI (seF t a)) ∧ A 18 19 = nI (seG t) ∧ A 18 20 = nI (seE t) ∧ A 18 8 = nI 0
def frTk (A A' : MI) : Prop := (∀ c, (0 < c ∧ c < 15) ∨ 19 ≤ c → A' c = A c) ∧ ∀ k, k < 21 → A' 0 k = A 0 k
theorem frTk_rfl {A : MI} : frTk A A := ⟨fun _ _ => rfl, fun _ _ => rfl⟩
theorem frTk_tr {A A1 A2 : MI} (h : frTk A A1) (g : frTk A1 A2) : frTk A A2 := ⟨fun c hc => (g.1 c hc).trans (h.1 c hc), fun k hk => (g.2 k hk).trans (h.2 k hk)⟩
theorem frTk_0 {A A2 : MI} {k : Nat} {v : Int32} (hk : 21 ≤ k) (h : frTk A A2) : frTk A (mI A2 0 k v) := ⟨fun c hc => (wI_n _ (by omega) _).trans (h.1 c hc), fun j hj => (mI_s _ _ _ _ _).trans ((upd_n (by omega)).trans (h.2 j hj))⟩
theorem frTk_c {A A2 : MI} {c0 k : Nat} {v : Int32} (hc0 : 15 ≤ c0 ∧ c0 < 19) (h : frTk A A2) : frTk A (mI A2 c0 k v) := ⟨fun c hc => (wI_n _ (by omega) _).trans (h.1 c hc), fun j hj => (by
  have e : mI A2 c0 k v 0 = A2 0 := wI_n _ (by omega) _
  rw [e]; exact h.2 j hj)⟩
/-- one sign, by the reference -/
theorem pe_takes {ph ld c : Nat} {h : Ho} {t : Se} {A : MI} {B : MJ} {Q : Int32 → MI → MJ → Prop} (hm : mM A ph ld h t) (hp : pOK ph ld h t) (hc : c ≤ 255)
    (q1 : ∀ A' : MI, frTk A A' → rok (ph, ld, h, t) c → mM A' (rnx (ph, ld, h, t) c).1 (rnx (ph, ld, h, t) c).2.1 (rnx (ph, ld, h, t) c).2.2.1 (rnx (ph, ld, h, t) c).2.2.2 → Q 1 A' B)
    (q0 : ∀ A' : MI, frTk A A' → ¬ rok (ph, ld, h, t) c → Q 0 A' B) : (ph = 0 → P_X12_takeSign (nI c) A B Q) ∧ (ph ≠ 0 → P_X12_takeIn (nI c) A B Q) := by
  obtain ⟨p1, p2, p3, p4, p5, p6, p7, p8, p9, p10, p11, p12, p13⟩ := id hp
  obtain ⟨m1, m2, m3, m4, m5, m6, m7, m8, m9, m10, m11, m12⟩ := id hm
  have eqc : ∀ k : Nat, k < 256 → (nI c = nI k ↔ c = k) := fun k hk => nI_eq (by omega) (by omega)
  have sub97 : 97 ≤ c → nI c - (97 : Int32) = nI (c - 97) := fun hh => by rw [show (97 : Int32) = nI 97 from rfl, pk_sub hh]
  have sub65 : 65 ≤ c → nI c - (65 : Int32) = nI (c - 65) := fun hh => by rw [show (65 : Int32) = nI 65 from rfl, pk_sub hh]
  have isK : isW 4 (nI c - (65 : Int32)) ↔ 65 ≤ c ∧ c < 69 := isW_sub (d := 65) hc (by decide) (by decide)
  have cin : ∀ (a b : Nat) (lo hi : Int64) (A2 : MI) (K : Int32 → MI → MJ → Prop), lo.toInt = a → hi.toInt = b → (a ≤ c ∧ c ≤ b → K 1 A2 B) → (¬ (a ≤ c ∧ c ≤ b) → K 0 A2 B) → P_X12_in (nI c).toInt64 lo hi A2 B K := fun a b lo hi A2 K el eh k1 k0 => by
    refine pe_inI (p := a) (q := b) el eh (fun d1 d2 => k1 ?_) (fun d => k0 (fun q => d ?_))
    · rw [nI_toInt (by omega)] at d1 d2; omega
    · rw [nI_toInt (by omega)]; omega
  refine ⟨fun e => ?_, fun n0 => ?_⟩
  · subst e
    rintro A2 rfl A7 rfl
    have f0 : frTk A (mI (mI A 0 26 (nI c)) 0 27 1) := frTk_0 (by decide) (frTk_0 (by decide) frTk_rfl)
    have no : ¬ rok (0, ld, h, t) c → Q 0 (mI (mI A 0 26 (nI c)) 0 27 1) B := q0 _ f0
    have stay : ∀ k : Nat, k ≠ 0 → k ≠ 1 → k ≠ 2 → k ≠ 7 → prt k = c → mM (mI (mI A 0 26 (nI c)) 0 27 1) k ld h t := fun k k0 k1 k2 k7 kc => by
      refine ⟨?_, ?_, fun _ => ?_, fun q => absurd q k7, m5, fun u hu _ => m6 u hu (Or.inr (by decide)), m7, fun u hu _ => m8 u hu (Or.inr ⟨by decide, by decide⟩), m9, m10, m11, m12⟩
      · have e1 : cw k (hoW h) = hoW h := if_neg (by omega)
        have e2 : cw 0 (hoW h) = hoW h := if_neg (by decide)
        rw [e1, ← e2]; exact m1
      · have e1 : plc k = 1 := by unfold plc; rw [if_neg k0, if_neg (by omega)]
        rw [e1]; rfl
      · rw [kc]; rfl
    refine ⟨fun e => ?_, fun n43 => ⟨fun e => ?_, fun n46 => ⟨fun e => ?_, fun n58 => ⟨fun e => ?_, fun n94 => ⟨fun e => ?_, fun n119 => no ?_⟩⟩⟩⟩⟩
    · obtain rfl := (eqc 43 (by decide)).mp e
      refine pe_bagOf (f := seB t) m7 (pk_le 12 (sm (seB t) 8) (fun c3 => no (fun q => ?_)) (fun c3 => q1 _ f0 (Or.inl ⟨rfl, Or.inr (Or.inl ⟨rfl, c3⟩)⟩) (stay 3 (by decide) (by decide) (by decide) (by decide) rfl)))
      unfold rok at q; simp at q; omega
    · obtain rfl := (eqc 46 (by decide)).mp e
      refine ⟨vp_in_nI (n := 20) (by decide) (by decide), ?_⟩
      rw [show mI (mI A 0 26 (nI 46)) 0 27 1 18 (20 : Int32).toNatClampNeg = nI (seE t) from m11]
      refine ⟨fun c3 => no (fun q => ?_), fun c3 => q1 _ f0 (Or.inl ⟨rfl, Or.inr (Or.inr (Or.inr (Or.inl ⟨rfl, fun q => c3 (by show nI (seE t) = nI 15; rw [show seE t = 15 from q])⟩)))⟩) (stay 5 (by decide) (by decide) (by decide) (by decide) rfl)⟩
      have c4 : seE t = 15 := (nI_eq (b := 15) (by omega) (by decide)).mp c3
      unfold rok at q; simp at q; omega
    · obtain rfl := (eqc 58 (by decide)).mp e
      have f0' := p9 0 (by decide)
      have f1' := p9 1 (by decide)
      have f2' := p9 2 (by decide)
      have f3' := p9 3 (by decide)
      refine ⟨vp_in_nI (n := 21) (by decide) (by decide), vp_in_nI (n := 22) (by decide) (by decide), vp_in_nI (n := 23) (by decide) (by decide), vp_in_nI (n := 24) (by decide) (by decide), ?_⟩
      rw [show mI (mI A 0 26 (nI 58)) 0 27 1 18 (21 : Int32).toNatClampNeg = nI (seF t 0) from m9 0 (by decide), show mI (mI A 0 26 (nI 58)) 0 27 1 18 (22 : Int32).toNatClampNeg = nI (seF t 1) from m9 1 (by decide), show mI (mI A 0 26 (nI 58)) 0 27 1 18 (23 : Int32).toNatClampNeg = nI (seF t 2) from m9 2 (by decide), show mI (mI A 0 26 (nI 58)) 0 27 1 18 (24 : Int32).toNatClampNeg = nI (seF t 3) from m9 3 (by decide), nI_add, nI_add, nI_add]
      refine ⟨fun c3 => no (fun q => ?_), fun c3 => q1 _ f0 (Or.inl ⟨rfl, Or.inr (Or.inr (Or.inr (Or.inr ⟨rfl, fun q => c3 ?_⟩)))⟩) (stay 6 (by decide) (by decide) (by decide) (by decide) rfl)⟩
      · have c4 : seF t 0 + seF t 1 + seF t 2 + seF t 3 = 60 := (nI_eq (b := 60) (by omega) (by decide)).mp c3
        unfold rok at q; simp at q
        exact q (by omega) (by omega) (by omega) (by omega)
      · have : seF t 0 = 15 ∧ seF t 1 = 15 ∧ seF t 2 = 15 ∧ seF t 3 = 15 := q
        rw [this.1, this.2.1, this.2.2.1, this.2.2.2]; rfl
    · obtain rfl := (eqc 94 (by decide)).mp e
      refine ⟨vp_in_nI (n := 19) (by decide) (by decide), ?_⟩
      rw [show mI (mI A 0 26 (nI 94)) 0 27 1 18 (19 : Int32).toNatClampNeg = nI (seG t) from m10]
      refine ⟨fun c3 => no (fun q => ?_), fun c3 => q1 _ f0 (Or.inl ⟨rfl, Or.inr (Or.inr (Or.inl ⟨rfl, fun q => c3 (by show nI (seG t) = nI 15; rw [show seG t = 15 from q])⟩))⟩) (stay 4 (by decide) (by decide) (by decide) (by decide) rfl)⟩
      have c4 : seG t = 15 := (nI_eq (b := 15) (by omega) (by decide)).mp c3
      unfold rok at q; simp at q; omega
    · obtain rfl := (eqc 119 (by decide)).mp e
      have e2 : cw 0 (hoW h) = hoW h := if_neg (by decide)
      have e21 : mI (mI A 0 26 (nI 119)) 0 27 1 0 21 = nI (hoW h) := by rw [← e2]; exact m1
      rw [e21]
      refine pk_le 10 (hoW h) (fun c3 => ?_) (fun c3 => ?_)
      · unfold P_X12_takeSign_81
        rw [e21]
        refine pk_le 10 (hoW h) (fun _ => ⟨vp_in_nI (n := 0) (by decide) (by decide), ⟨vp_in_nI (n := 0) (by decide) (by decide), ?_⟩⟩) (fun c4 => by omega)
        rintro A3 rfl
        have e21' : mI (mI (mI A 0 26 (nI 119)) 0 27 1) 16 (0 : Int32).toNatClampNeg (mI (mI A 0 26 (nI 119)) 0 27 1 16 (0 : Int32).toNatClampNeg) 0 21 = nI (hoW h) := e21
        refine pk_le 10 (hoW h) (fun _ => q0 _ (frTk_c (by decide) f0) (fun q => ?_)) (fun c4 => by omega) rfl e21'
        unfold rok at q; simp at q; omega
      · unfold P_X12_takeSign_81
        rw [e21]
        refine pk_le 10 (hoW h) (fun c4 => by omega) (fun _ => ⟨vp_in_nI c3 (by decide), ?_⟩)
        rintro A3 rfl
        rw [nI_clamp (by omega)]
        have e21' : mI (mI (mI A 0 26 (nI 119)) 0 27 1) 16 (hoW h) 0 0 21 = nI (hoW h) := e21
        refine pk_le 10 (hoW h) (fun c4 => by omega) (fun _ => q1 _ (frTk_c (by decide) f0) (Or.inl ⟨rfl, Or.inl ⟨rfl, c3⟩⟩) ?_) rfl e21'
        show mM _ 1 ld (hoOpen h) t
        refine ⟨?_, rfl, fun _ => rfl, fun q => absurd q (by decide), fun u hu => ?_, fun u hu hcc => ?_, m7, fun u hu hcc => ?_, m9, m10, m11, m12⟩
        · have e1 : cw 1 (hoW (hoOpen h)) = hoW h := by
            show (if (1 : Nat) = 1 ∨ (1 : Nat) = 2 then hoW h + 1 - 1 else hoW h + 1) = hoW h
            rw [if_pos (Or.inl rfl)]; omega
          rw [e1]; exact e21
        · have hu' : u < hoW h + 1 := hu
          show upd (A 16) (hoW h) 0 u = nI (uF (hoZ h) (hoW h) 0 u) ∧ ∀ i, i < uF (hoZ h) (hoW h) 0 u → A 15 (6 * u + i) = nI (hoS h u i)
          by_cases e : u = hoW h
          · subst e; rw [upd_s rfl, uF_s]; exact ⟨rfl, fun i hi => absurd hi (Nat.not_lt_zero i)⟩
          · rw [upd_n e, uF_n _ e]; exact m5 u (by omega)
        · have hc' : u + 1 < hoW h + 1 := hcc.elim id (fun q => absurd rfl q)
          exact m6 u (by omega) (Or.inr (by decide))
        · have hc' : u + 1 < hoW h + 1 := hcc.elim id (fun q => absurd rfl q.1)
          exact m8 u (by omega) (Or.inr ⟨by decide, by decide⟩)
    · have a1 := mt (eqc 43 (by decide)).mpr n43
      have a2 := mt (eqc 46 (by decide)).mpr n46
      have a3 := mt (eqc 58 (by decide)).mpr n58
      have a4 := mt (eqc 94 (by decide)).mpr n94
      have a5 := mt (eqc 119 (by decide)).mpr n119
      unfold rok; simp; omega
  · have m3' := m3 n0
    have no : ¬ rok (ph, ld, h, t) c → Q 0 A B := q0 A frTk_rfl
    -- a kind told for a set at a place of the row
    have kind : ∀ (at9 m : Nat) (K : Int32 → MI → MJ → Prop), at9 < 25 → A 18 at9 = nI m → m < 16 → (65 ≤ c ∧ c < 69 ∧ m.testBit (c - 65) = false → K 1 (mI (mI A 18 at9 (nI (m ||| 2 ^ (c - 65)))) 0 27 0) B) → (¬ (65 ≤ c ∧ c < 69 ∧ m.testBit (c - 65) = false) → K 0 A B) → P_X12_takeKind (nI c) (nI at9) A B K := fun at9 m K ha em hm9 k1 k0 => by
      refine pe_isKindM (fun hk => ⟨fun e => absurd e no10, fun _ => ⟨vp_in_nI ha (by decide), ?_⟩⟩) (fun hk => ⟨fun _ => k0 (fun q => hk (isK.mpr ⟨q.1, q.2.1⟩)), fun e => absurd rfl e⟩)
      obtain ⟨a1, a2⟩ := isK.mp hk
      rw [sub65 a1, nI_clamp (by omega), em]
      refine pe_hasM (by omega) (by omega) (fun hb => ⟨fun e => absurd e no10, fun _ => k0 (fun q => absurd (hb.symm.trans q.2.2) (by decide))⟩) (fun hb => ⟨fun _ => ⟨vp_in_nI ha (by decide), vp_in_nI ha (by decide), ?_⟩, fun e => absurd rfl e⟩)
      rintro A38 rfl A41 rfl
      rw [em, shlI (by omega), nI_or]
      exact k1 ⟨a1, a2, hb⟩
    have orx : ∀ m x : Nat, m.testBit x = false → m ||| 2 ^ x = m ^^^ (1 <<< x) := fun m x hb => by
      apply Nat.eq_of_testBit_eq; intro j
      rw [Nat.one_shiftLeft, Nat.testBit_or, Nat.testBit_xor, Nat.testBit_two_pow]
      by_cases e : x = j
      · subst e; rw [hb, decide_eq_true rfl]; rfl
      · rw [decide_eq_false e]; cases m.testBit j <;> rfl
    have pt : ∀ k : Nat, k < 256 → (A 0 26 = nI k ↔ prt ph = k) := fun k hk => by
      rw [m3']
      have : prt ph ≤ 119 := by unfold prt; split; omega; split; omega; split; omega; split <;> omega
      exact nI_eq (by omega) (by omega)
    have c0 : ∀ ph2, ph2 ≠ 1 → ph2 ≠ 2 → cw ph2 (hoW h) = hoW h := fun ph2 k1 k2 => if_neg (by omega)
    refine ⟨fun e => ?_, fun n43 => ⟨fun e => ?_, fun n46 => ⟨fun e => ?_, fun n94 => ⟨fun e => ?_, fun n119 => ?_⟩⟩⟩⟩
    · have e3 : ph = 3 := by have := (pt 43 (by decide)).mp e; unfold prt at this; split at this; omega; split at this; assumption; split at this; omega; split at this <;> omega
      subst e3
      refine cin 97 104 _ _ A _ (by decide) (by decide) (fun hl => ⟨fun _ => ?_, fun e => absurd e no10⟩) (fun hl => ⟨fun e => absurd rfl e, fun _ => no (fun q => ?_)⟩)
      · rw [sub97 hl.1]
        have hv25 : vp_in (nI (c - 97)) 25 := vp_in_nI (by omega) (by decide)
        refine ⟨hv25, hv25, ?_⟩
        rintro A28 rfl A31 rfl
        have hb12 : seB t (c - 97) ≤ 12 := Nat.le_trans (sm_le _ (by omega)) p7
        rw [nI_clamp (by omega), m7 _ (by omega), nI_1]
        refine q1 _ (frTk_0 (by decide) (frTk_c (by decide) frTk_rfl)) (Or.inr (Or.inr (Or.inr (Or.inl ⟨rfl, hl.1, by omega⟩)))) ?_
        show mM _ 0 ld h (chg 0 (c - 97) 0 t)
        refine ⟨?_, rfl, fun q => absurd rfl q, fun q => absurd q (by decide), m5, fun u hu _ => m6 u hu (Or.inr (by decide)), fun l hl9 => ?_, fun u hu _ => ?_, fun a ha => ?_, ?_, ?_, ?_⟩
        · rw [c0 0 (by decide) (by decide), ← c0 3 (by decide) (by decide)]; exact m1
        · show upd (A 18) (c - 97) (nI (seB t (c - 97) + 1)) l = nI (if l = c - 97 then seB t l + 1 else seB t l)
          by_cases e : l = c - 97
          · rw [upd_s e, if_pos e, e]
          · rw [upd_n e, if_neg e]; exact m7 l hl9
        · exact (upd_n (f := A 18) (by omega)).trans (m8 u hu (Or.inr ⟨by decide, by decide⟩))
        · exact (upd_n (f := A 18) (by omega)).trans (m9 a ha)
        · exact (upd_n (f := A 18) (by omega)).trans m10
        · exact (upd_n (f := A 18) (by omega)).trans m11
        · exact (upd_n (f := A 18) (by omega)).trans m12
      · unfold rok at q; simp at q; omega
    · have e3 : ph = 5 := by have := (pt 46 (by decide)).mp e; unfold prt at this; split at this; omega; split at this; omega; split at this; omega; split at this; assumption; omega
      subst e3
      refine kind 20 (seE t) _ (by decide) m11 p11 (fun hk => ?_) (fun hk => no (fun q => hk ?_))
      · rw [orx _ _ hk.2.2]
        refine q1 _ (frTk_0 (by decide) (frTk_c (by decide) frTk_rfl)) (Or.inr (Or.inr (Or.inr (Or.inr (Or.inr (Or.inl ⟨rfl, hk⟩)))))) ?_
        show mM _ 0 ld h (chg 5 (c - 65) 0 t)
        refine ⟨?_, rfl, fun q => absurd rfl q, fun q => absurd q (by decide), m5, fun u hu _ => m6 u hu (Or.inr (by decide)), fun l hl9 => ?_, fun u hu _ => ?_, fun a ha => ?_, ?_, rfl, ?_⟩
        · rw [c0 0 (by decide) (by decide), ← c0 5 (by decide) (by decide)]; exact m1
        · exact (upd_n (f := A 18) (by omega)).trans (m7 l hl9)
        · exact (upd_n (f := A 18) (by omega)).trans (m8 u hu (Or.inr ⟨by decide, by decide⟩))
        · exact (upd_n (f := A 18) (by omega)).trans (m9 a ha)
        · exact m10
        · exact m12
      · unfold rok at q; simp at q; exact q
    · have e3 : ph = 4 := by have := (pt 94 (by decide)).mp e; unfold prt at this; split at this; omega; split at this; omega; split at this; assumption; split at this <;> omega
      subst e3
      refine kind 19 (seG t) _ (by decide) m10 p10 (fun hk => ?_) (fun hk => no (fun q => hk ?_))
      · rw [orx _ _ hk.2.2]
        refine q1 _ (frTk_0 (by decide) (frTk_c (by decide) frTk_rfl)) (Or.inr (Or.inr (Or.inr (Or.inr (Or.inl ⟨rfl, hk⟩))))) ?_
        show mM _ 0 ld h (chg 4 (c - 65) 0 t)
        refine ⟨?_, rfl, fun q => absurd rfl q, fun q => absurd q (by decide), m5, fun u hu _ => m6 u hu (Or.inr (by decide)), fun l hl9 => ?_, fun u hu _ => ?_, fun a ha => ?_, rfl, ?_, ?_⟩
        · rw [c0 0 (by decide) (by decide), ← c0 4 (by decide) (by decide)]; exact m1
        · exact (upd_n (f := A 18) (by omega)).trans (m7 l hl9)
        · exact (upd_n (f := A 18) (by omega)).trans (m8 u hu (Or.inr ⟨by decide, by decide⟩))
        · exact (upd_n (f := A 18) (by omega)).trans (m9 a ha)
        · exact m11
        · exact m12
      · unfold rok at q; simp at q; exact q
    · have e12 : ph = 1 ∨ ph = 2 := by have := (pt 119 (by decide)).mp e; unfold prt at this; split at this; assumption; split at this; omega; split at this; omega; split at this <;> omega
      have hw1 := p3 e12
      have ecw : cw ph (hoW h) = hoW h - 1 := if_pos e12
      have e21 : A 0 21 = nI (hoW h - 1) := by rw [← ecw]; exact m1
      have hv10 : vp_in (nI (hoW h - 1)) 10 := vp_in_nI (by omega) (by decide)
      have hcl : (nI (hoW h - 1)).toNatClampNeg = hoW h - 1 := nI_clamp (by omega)
      unfold P_X12_takeOfWord
      rw [e21]
      refine ⟨fun c2 => ?_, fun c2 => ?_⟩
      · have e1 : ph = 1 := by
          rcases e12 with e | e
          · exact e
          · subst e; exact absurd m2 c2
        subst e1
        obtain ⟨z1, z3⟩ := m5 (hoW h - 1) (by omega)
        obtain ⟨z6, zs⟩ := p4 (hoW h - 1) (by omega)
        have close : ¬ (97 ≤ c ∧ c < 105 ∧ hoZ h (hoW h - 1) < 6) → P_X12_takeOfWord_110 Q (nI c) (nI (hoW h - 1)) A B := fun hno => by
          refine ⟨hv10, ?_⟩
          rintro A3 rfl A4 rfl
          rw [hcl]
          have fk : frTk A (mI (mI A 17 (hoW h - 1) (nI c - (65 : Int32))) 0 27 2) := frTk_0 (by decide) (frTk_c (by decide) frTk_rfl)
          refine cin 65 68 _ _ _ _ (by decide) (by decide) (fun hk => ⟨fun e => absurd e no10, fun _ => ⟨hv10, ?_⟩⟩) (fun hk => ⟨fun _ => q0 _ fk (fun q => ?_), fun e => absurd rfl e⟩)
          · rw [show mI (mI A 17 (hoW h - 1) (nI c - (65 : Int32))) 0 27 2 16 (hoW h - 1) = nI (hoZ h (hoW h - 1)) from z1]
            have en : rnx (1, ld, h, t) c = (2, ld, hoClose h (c - 65), t) := by unfold rnx; rw [if_neg (show ¬ (1 : Nat) = 0 by decide), if_pos rfl, if_neg (by omega)]
            refine pk_le (hoZ h (hoW h - 1)) 0 (fun c4 => q0 _ fk (fun q => ?_)) (fun c4 => q1 _ fk (Or.inr (Or.inl ⟨rfl, Or.inr ⟨hk.1, by omega, c4⟩⟩)) ?_)
            · unfold rok at q; simp at q; omega
            · rw [en]
              show mM _ 2 ld (hoClose h (c - 65)) t
              refine ⟨?_, rfl, fun _ => m3', fun q => absurd q (by decide), m5, fun u hu _ => ?_, m7, fun u hu hcc => m8 u hu (hcc.elim Or.inl (fun q => absurd rfl q.2)), m9, m10, m11, m12⟩
              · have : cw 2 (hoW (hoClose h (c - 65))) = hoW h - 1 := if_pos (Or.inr rfl)
                rw [this]; exact e21
              · have hu' : u < hoW h := hu
                show upd (A 17) (hoW h - 1) (nI c - (65 : Int32)) u = nI (uF (hoK h) (hoW h - 1) (c - 65) u)
                by_cases e : u = hoW h - 1
                · subst e; rw [upd_s rfl, uF_s, sub65 hk.1]
                · rw [upd_n e, uF_n _ e]; exact m6 u hu' (Or.inl (by omega))
          · unfold rok at q; simp at q; omega
        refine cin 97 104 _ _ A _ (by decide) (by decide) (fun hl => ⟨fun e => absurd e no10, fun _ => ⟨hv10, ?_⟩⟩) (fun hl => ⟨fun _ => close (by omega), fun e => absurd rfl e⟩)
        rw [hcl, z1]
        refine pk_le 6 (hoZ h (hoW h - 1)) (fun c3 => close (by omega)) (fun c3 => ⟨hv10, ?_⟩)
        have e6 : (6 : Int32) * nI (hoW h - 1) + nI (hoZ h (hoW h - 1)) = nI (6 * (hoW h - 1) + hoZ h (hoW h - 1)) := by rw [show (6 : Int32) = nI 6 from rfl, pk_mul, nI_add]
        rw [e6]
        refine ⟨vp_in_nI (by omega) (by decide), ?_⟩
        rintro A97 rfl
        refine ⟨hv10, hv10, ?_⟩
        rintro A107 rfl
        have e5 : mI A 15 (nI (6 * (hoW h - 1) + hoZ h (hoW h - 1))).toNatClampNeg (nI c - (97 : Int32)) 16 (hoW h - 1) = nI (hoZ h (hoW h - 1)) := z1
        rw [e5, nI_clamp (by omega), nI_1, sub97 hl.1]
        have en : rnx (1, ld, h, t) c = (1, ld, hoSpell h (c - 97), t) := by unfold rnx; rw [if_neg (show ¬ (1 : Nat) = 0 by decide), if_pos rfl, if_pos hl.1]
        refine q1 _ (frTk_c (by decide) (frTk_c (by decide) frTk_rfl)) (Or.inr (Or.inl ⟨rfl, Or.inl ⟨hl.1, by omega, c3⟩⟩)) ?_
        rw [en]
        show mM _ 1 ld (hoSpell h (c - 97)) t
        refine ⟨m1, m2, m3, fun q => absurd q (by decide), fun u hu => ?_, m6, m7, m8, m9, m10, m11, m12⟩
        have hu' : u < hoW h := hu
        show upd (A 16) (hoW h - 1) (nI (hoZ h (hoW h - 1) + 1)) u = nI (uF (hoZ h) (hoW h - 1) (hoZ h (hoW h - 1) + 1) u) ∧ ∀ i, i < uF (hoZ h) (hoW h - 1) (hoZ h (hoW h - 1) + 1) u → upd (A 15) (6 * (hoW h - 1) + hoZ h (hoW h - 1)) (nI (c - 97)) (6 * u + i) = nI (if u = hoW h - 1 ∧ i = hoZ h (hoW h - 1) then c - 97 else hoS h u i)
        by_cases e : u = hoW h - 1
        · subst e
          rw [upd_s rfl, uF_s]
          refine ⟨rfl, fun i hi => ?_⟩
          by_cases ei : i = hoZ h (hoW h - 1)
          · rw [if_pos ⟨rfl, ei⟩, upd_s (by omega)]
          · rw [if_neg (fun q => ei q.2), upd_n (by omega)]; exact z3 i (by omega)
        · obtain ⟨y1, y3⟩ := m5 u hu'
          rw [upd_n e, uF_n _ e]
          refine ⟨y1, fun i hi => ?_⟩
          have := (p4 u hu').1
          rw [if_neg (fun q => e q.1), upd_n (by omega)]; exact y3 i hi
      · have e1 : ph = 2 := by
          rcases e12 with e | e
          · subst e; rw [m2] at c2; exact absurd c2 (by decide)
          · exact e
        subst e1
        have e9 : (9 : Int32) + nI (hoW h - 1) = nI (9 + (hoW h - 1)) := by rw [show (9 : Int32) = nI 9 from rfl, nI_add]
        rw [e9]
        refine ⟨vp_in_nI (by omega) (by decide), ?_⟩
        rintro A25 rfl A33 rfl A38 rfl
        have e25 : mI A 18 (nI (9 + (hoW h - 1))).toNatClampNeg (nI c - (48 : Int32)) 0 21 = nI (hoW h - 1) := e21
        rw [e25, nI_clamp (by omega), nI_1]
        have fk : frTk A (mI (mI (mI A 18 (9 + (hoW h - 1)) (nI c - (48 : Int32))) 0 21 (nI (hoW h - 1 + 1))) 0 27 0) := frTk_0 (by decide) (frTk_0 (by decide) (frTk_c (by decide) frTk_rfl))
        refine cin 48 57 _ _ _ _ (by decide) (by decide) (fun hd => q1 _ fk (Or.inr (Or.inr (Or.inl ⟨rfl, hd⟩))) ?_) (fun hd => q0 _ fk (fun q => ?_))
        · show mM _ 0 ld h (chg 3 (hoW h - 1) (c - 48) t)
          refine ⟨?_, rfl, fun q => absurd rfl q, fun q => absurd q (by decide), m5, fun u hu _ => m6 u hu (Or.inr (by decide)), fun l hl9 => ?_, fun u hu _ => ?_, fun a ha => ?_, ?_, ?_, ?_⟩
          · rw [c0 0 (by decide) (by decide)]
            show nI (hoW h - 1 + 1) = _
            congr 1; omega
          · exact (upd_n (f := A 18) (by omega)).trans (m7 l hl9)
          · show upd (A 18) (9 + (hoW h - 1)) (nI c - (48 : Int32)) (9 + u) = nI (if u = hoW h - 1 then c - 48 else seR t u)
            by_cases e : u = hoW h - 1
            · rw [upd_s (by omega), if_pos e, show (48 : Int32) = nI 48 from rfl, pk_sub hd.1]
            · rw [upd_n (by omega), if_neg e]; exact m8 u hu (Or.inl (by omega))
          · exact (upd_n (f := A 18) (by omega)).trans (m9 a ha)
          · exact (upd_n (f := A 18) (by omega)).trans m10
          · exact (upd_n (f := A 18) (by omega)).trans m11
          · exact (upd_n (f := A 18) (by omega)).trans m12
        · unfold rok at q; simp at q; omega
    · have e67 : ph = 6 ∨ ph = 7 := by
        have a1 := mt (pt 43 (by decide)).mpr n43
        have a2 := mt (pt 46 (by decide)).mpr n46
        have a3 := mt (pt 94 (by decide)).mpr n94
        have a4 := mt (pt 119 (by decide)).mpr n119
        have b1 : ph ≠ 1 := fun e => a4 (by rw [e]; rfl)
        have b2 : ph ≠ 2 := fun e => a4 (by rw [e]; rfl)
        have b3 : ph ≠ 3 := fun e => a1 (by rw [e]; rfl)
        have b4 : ph ≠ 4 := fun e => a3 (by rw [e]; rfl)
        have b5 : ph ≠ 5 := fun e => a2 (by rw [e]; rfl)
        omega
      refine ⟨fun c2 => ?_, fun c2 => ?_⟩
      · have e6 : ph = 6 := by
          rcases e67 with e | e
          · exact e
          · subst e; exact absurd m2 c2
        subst e6
        rintro A28 rfl A33 rfl
        have fk : frTk A (mI (mI A 0 28 (nI c - (65 : Int32))) 0 27 2) := frTk_0 (by decide) (frTk_0 (by decide) frTk_rfl)
        refine pe_isKindM (fun hk => ⟨fun e => absurd e no10, fun _ => ?_⟩) (fun hk => ⟨fun _ => q0 _ fk (fun q => ?_), fun e => absurd rfl e⟩)
        · obtain ⟨a1, a2⟩ := isK.mp hk
          have h16 := p9 (c - 65) (by omega)
          rw [sub65 a1] at fk ⊢
          have e21 : (21 : Int32) + nI (c - 65) = nI (21 + (c - 65)) := by rw [show (21 : Int32) = nI 21 from rfl, nI_add]
          rw [e21]
          refine ⟨vp_in_nI (by omega) (by decide), ?_⟩
          rw [nI_clamp (by omega), show mI (mI A 0 28 (nI (c - 65))) 0 27 2 18 (21 + (c - 65)) = nI (seF t (c - 65)) from m9 _ (by omega)]
          refine ⟨fun c3 => q0 _ fk (fun q => ?_), fun c3 => q1 _ fk (Or.inr (Or.inr (Or.inr (Or.inr (Or.inr (Or.inr (Or.inl ⟨rfl, a1, a2, fun e => c3 (by rw [show seF t (c - 65) = 15 from e]; rfl)⟩))))))) ?_⟩
          · have := (nI_eq (b := 15) (by omega) (by decide)).mp c3
            unfold rok at q; simp at q; omega
          · show mM _ 7 (c - 65) h t
            refine ⟨?_, rfl, fun _ => m3', fun _ => rfl, m5, fun u hu _ => m6 u hu (Or.inr (by decide)), m7, fun u hu _ => m8 u hu (Or.inr ⟨by decide, by decide⟩), m9, m10, m11, m12⟩
            rw [c0 7 (by decide) (by decide), ← c0 6 (by decide) (by decide)]; exact m1
        · have : ¬ (65 ≤ c ∧ c < 69) := fun q => hk (isK.mpr q)
          unfold rok at q; simp at q; omega
      · have e7 : ph = 7 := by
          rcases e67 with e | e
          · subst e; rw [m2] at c2; exact absurd c2 (by decide)
          · exact e
        subst e7
        have hld := p13 rfl
        have e21 : (21 : Int32) + A 0 28 = nI (21 + ld) := by rw [m4 rfl, show (21 : Int32) = nI 21 from rfl, nI_add]
        rw [e21]
        refine kind (21 + ld) (seF t ld) _ (by omega) (m9 ld hld) (p9 ld hld) (fun hk => ?_) (fun hk => no (fun q => hk ?_))
        · rw [orx _ _ hk.2.2]
          refine q1 _ (frTk_0 (by decide) (frTk_c (by decide) frTk_rfl)) (Or.inr (Or.inr (Or.inr (Or.inr (Or.inr (Or.inr (Or.inr ⟨rfl, hk⟩))))))) ?_
          show mM _ 0 ld h (chg 6 ld (c - 65) t)
          refine ⟨?_, rfl, fun q => absurd rfl q, fun q => absurd q (by decide), m5, fun u hu _ => m6 u hu (Or.inr (by decide)), fun l hl9 => ?_, fun u hu _ => ?_, fun a ha => ?_, ?_, ?_, ?_⟩
          · rw [c0 0 (by decide) (by decide), ← c0 7 (by decide) (by decide)]; exact m1
          · exact (upd_n (f := A 18) (by omega)).trans (m7 l hl9)
          · exact (upd_n (f := A 18) (by omega)).trans (m8 u hu (Or.inr ⟨by decide, by decide⟩))
          · show upd (A 18) (21 + ld) (nI (seF t ld ^^^ (1 <<< (c - 65)))) (21 + a) = nI (if a = ld then seF t a ^^^ (1 <<< (c - 65)) else seF t a)
            by_cases e : a = ld
            · rw [upd_s (by omega), if_pos e, e]
            · rw [upd_n (by omega), if_neg e]; exact m9 a ha
          · exact (upd_n (f := A 18) (by omega)).trans m10
          · exact (upd_n (f := A 18) (by omega)).trans m11
          · exact (upd_n (f := A 18) (by omega)).trans m12
        · unfold rok at q; simp at q; exact q
