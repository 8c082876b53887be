theorem isW_sub {c d n : Nat} (hc : c ≤ 255) (hd : d ≤ 255) (hn : n ≤ 255) : isW n (nI c - nI d) ↔ d ≤ c ∧ c < d + n := by
  rw [isW_iff (by omega), pk_sub_toInt (by omega) (by omega)]
  omega
def frRd (I I' : MI) (J J' : MJ) : Prop := (∀ c, c = 0 ∨ c = 2 ∨ 12 ≤ c → I' c = I c) ∧ I' 1 3 = I 1 3 ∧ I' 8 5 = I 8 5 ∧ ∀ c, c ≠ 6 → J' c = J c
theorem frRd_rfl {I : MI} {J : MJ} : frRd I I J J := ⟨fun _ _ => rfl, rfl, rfl, fun _ _ => rfl⟩
theorem frRd_tr {I I1 I2 : MI} {J J1 J2 : MJ} (h : frRd I I1 J J1) (g : frRd I1 I2 J1 J2) : frRd I I2 J J2 := ⟨fun c hc => (g.1 c hc).trans (h.1 c hc), g.2.1.trans h.2.1, g.2.2.1.trans h.2.2.1, fun c hc => (g.2.2.2 c hc).trans (h.2.2.2 c hc)⟩
theorem cnt_congr {f g : Nat → Nat} {l n : Nat} (h : ∀ i, i < n → f i = g i) : cnt f l n = cnt g l n := by
  induction n with
  | zero => rfl
  | succ n ih =>
    show cnt f l n + (if f n = l then 1 else 0) = cnt g l n + (if g n = l then 1 else 0)
    rw [ih (fun i hi => h i (by omega)), h n (by omega)]
theorem pk_one {f : Nat → Nat} {x : Nat} (n : Nat) : pk (fun l => f l + (if x = l then 1 else 0)) n = pk f n + (if x < n then 32 ^ x else 0) := by
  induction n with
  | zero => rfl
  | succ n ih =>
    show pk (fun l => f l + (if x = l then 1 else 0)) n + (f n + (if x = n then 1 else 0)) * 32 ^ n = pk f n + f n * 32 ^ n + (if x < n + 1 then 32 ^ x else 0)
    rw [ih, Nat.add_mul]
    by_cases h1 : x < n
    · rw [if_pos h1, if_neg (show ¬ x = n by omega), if_pos (show x < n + 1 by omega)]; omega
    · by_cases h2 : x = n
      · subst h2; rw [if_neg h1, if_pos rfl, if_pos (by omega)]; omega
      · rw [if_neg h1, if_neg h2, if_neg (by omega)]; omega
theorem nd_open {h : Ho} {u : Nat} (hu : u ≠ hoW h) : nd (hoOpen h) u = nd h u := by
  funext l
  show cnt (hoS h u) l (uF (hoZ h) (hoW h) 0 u) = _
  rw [uF_n _ hu]; rfl
theorem nd_spell_n {h : Ho} {u x : Nat} (hu : u ≠ hoW h - 1) : nd (hoSpell h x) u = nd h u := by
  funext l
  show cnt (fun i => if u = hoW h - 1 ∧ i = hoZ h (hoW h - 1) then x else hoS h u i) l (uF (hoZ h) (hoW h - 1) (hoZ h (hoW h - 1) + 1) u) = cnt (hoS h u) l (hoZ h u)
  rw [uF_n _ hu]
  exact cnt_congr (fun i _ => if_neg (fun q => hu q.1))
theorem nd_spell_s {h : Ho} {x : Nat} : nd (hoSpell h x) (hoW h - 1) = fun l => nd h (hoW h - 1) l + (if x = l then 1 else 0) := by
  funext l
  show cnt (fun i => if hoW h - 1 = hoW h - 1 ∧ i = hoZ h (hoW h - 1) then x else hoS h (hoW h - 1) i) l (uF (hoZ h) (hoW h - 1) (hoZ h (hoW h - 1) + 1) (hoW h - 1)) = cnt (hoS h (hoW h - 1)) l (hoZ h (hoW h - 1)) + (if x = l then 1 else 0)
  rw [uF_s]
  show cnt _ l (hoZ h (hoW h - 1)) + (if (if hoW h - 1 = hoW h - 1 ∧ hoZ h (hoW h - 1) = hoZ h (hoW h - 1) then x else _) = l then 1 else 0) = _
  rw [if_pos (show hoW h - 1 = hoW h - 1 ∧ hoZ h (hoW h - 1) = hoZ h (hoW h - 1) from ⟨rfl, rfl⟩)]
  congr 1
  exact cnt_congr (fun i hi => if_neg (fun q => by omega))
theorem pe_reads {ph ld c : Nat} {h : Ho} {t : Se} {I : MI} {J : MJ} {Q : Int32 → MI → MJ → Prop} (hm : mX I J ph ld h t) (hp : pOK ph ld h t) (hc : c ≤ 255)
    (q1 : ∀ (I' : MI) (J' : MJ), frRd I I' J J' → rok (ph, ld, h, t) c → mX I' J' (rnx (ph, ld, h, t) c).1 (rnx (ph, ld, h, t) c).2.1 (rnx (ph, ld, h, t) c).2.2.1 (rnx (ph, ld, h, t) c).2.2.2 → Q 1 I' J')
    (q0 : ∀ (I' : MI) (J' : MJ), frRd I I' J J' → ¬ rok (ph, ld, h, t) c → Q 0 I' J') : P_X7_reads (nI c) I J Q := by
  obtain ⟨p1, p2, p3, p4, p5, p6, p7, p8, p9, p10, p11, p12, p13⟩ := id hp
  obtain ⟨m1, m2, m3, m4, m5, m6, m7, m8, m9, m10⟩ := id hm
  have no : ¬ rok (ph, ld, h, t) c → Q 0 I J := q0 I J frRd_rfl
  have eqc : ∀ k : Nat, k < 256 → (nI c = nI k ↔ c = k) := fun k hk => nI_eq (by omega) (by omega)
  have sub97 : 97 ≤ c → nI c - (97 : Int32) = nI (c - 97) := fun hh => by rw [show (97 : Int32) = nI 97 from rfl, pk_sub hh]
  have sub65 : 65 ≤ c → nI c - (65 : Int32) = nI (c - 65) := fun hh => by rw [show (65 : Int32) = nI 65 from rfl, pk_sub hh]
  have isL : isW 8 (nI c - (97 : Int32)) ↔ 97 ≤ c ∧ c < 105 := isW_sub (d := 97) hc (by decide) (by decide)
  have isK : isW 4 (nI c - (65 : Int32)) ↔ 65 ≤ c ∧ c < 69 := isW_sub (d := 65) hc (by decide) (by decide)
  have fr14 : ∀ (I2 : MI) (J2 : MJ) (v : Int32), frRd I I2 J J2 → frRd I (mI I2 1 4 v) J J2 := fun I2 J2 v f => ⟨fun c hc => (wI_n _ (by omega) _).trans (f.1 c hc), f.2.1, f.2.2.1, f.2.2.2⟩
  -- a kind that isn't in a set yet
  have free : ∀ (m : Nat) (K : Int32 → MI → MJ → Prop), m < 16 → (65 ≤ c ∧ c < 69 ∧ m.testBit (c - 65) = false → K 1 I J) → (¬ (65 ≤ c ∧ c < 69 ∧ m.testBit (c - 65) = false) → K 0 I J) → P_X7_isFreeKind (nI c) (nI m) I J K := fun m K hm9 k1 k0 => by
    refine pe_isKindX (fun hk => ⟨fun e => absurd e no10, fun _ => ?_⟩) (fun hk => ⟨fun _ => k0 (fun q => hk (isK.mpr ⟨q.1, q.2.1⟩)), fun e => absurd rfl e⟩)
    obtain ⟨a1, a2⟩ := isK.mp hk
    rw [sub65 a1]
    refine ⟨fun e => k0 (fun q => ?_), fun e => k1 ⟨a1, a2, ?_⟩⟩
    · rw [bitI0 (by omega) (by omega)] at e; exact e q.2.2
    · rw [bitI0 (by omega) (by omega)] at e; exact e
  have ph8 : ∀ k : Nat, k < 8 → (I 1 4 = nI k ↔ ph = k) := fun k hk => by rw [m1]; exact nI_eq (by omega) (by omega)
  refine ⟨fun e => ?_, fun n0 => ⟨fun e => ?_, fun n1 => ⟨fun e => ?_, fun n2 => ⟨fun e => ?_, fun n3 => ⟨fun e => ?_, fun n4 => ⟨fun e => ?_, fun n5 => ⟨fun e => ?_, fun n6 => ?_⟩⟩⟩⟩⟩⟩⟩
  · obtain rfl := (ph8 0 (by decide)).mp e
    have stay : ∀ k : Nat, k ≠ 1 → k ≠ 2 → k ≠ 7 → mX (mI I 1 4 (nI k)) J k ld h t := fun k k1 k2 k7 => ⟨rfl, fun q => absurd q k7, m3, m4, fun u hu _ => m5 u hu (Or.inr (by decide)), m6, fun u hu _ => m7 u hu (Or.inr ⟨by decide, by decide⟩), m8, m9, m10⟩
    refine ⟨fun e => ?_, fun n43 => ⟨fun e => ?_, fun n46 => ⟨fun e => ?_, fun n58 => ⟨fun e => ?_, fun n94 => ⟨fun e => ?_, fun n119 => no ?_⟩⟩⟩⟩⟩
    · obtain rfl := (eqc 43 (by decide)).mp e
      refine pe_letters (k := 8) (f := seB t) m6 (pk_le 12 (sm (seB t) 8) (fun c3 => no (fun q => ?_)) (fun c3 => ?_))
      · unfold rok at q; simp at q; omega
      · rintro I2 rfl
        exact ⟨fun e => absurd e no10, fun _ => q1 _ J (fr14 I J _ frRd_rfl) (Or.inl ⟨rfl, Or.inr (Or.inl ⟨rfl, c3⟩)⟩) (stay 3 (by decide) (by decide) (by decide))⟩
    · obtain rfl := (eqc 46 (by decide)).mp e
      rw [m10]
      refine ⟨fun c3 => no (fun q => ?_), fun c3 => ?_⟩
      · have c4 : seE t = 15 := (nI_eq (b := 15) (by omega) (by decide)).mp c3
        unfold rok at q; simp at q; omega
      · rintro I2 rfl
        exact ⟨fun e => absurd e no10, fun _ => q1 _ J (fr14 I J _ frRd_rfl) (Or.inl ⟨rfl, Or.inr (Or.inr (Or.inr (Or.inl ⟨rfl, fun q => c3 (by show nI (seE t) = nI 15; rw [show seE t = 15 from q])⟩)))⟩) (stay 5 (by decide) (by decide) (by decide))⟩
    · obtain rfl := (eqc 58 (by decide)).mp e
      -- whether all may follow
      by_cases hall : seF t 0 = 15 ∧ seF t 1 = 15 ∧ seF t 2 = 15 ∧ seF t 3 = 15
      · have ha : ∀ a, a < 4 → seF t a = 15 := fun a ha => by
          rcases (show a = 0 ∨ a = 1 ∨ a = 2 ∨ a = 3 by omega) with rfl | rfl | rfl | rfl
          · exact hall.1
          · exact hall.2.1
          · exact hall.2.2.1
          · exact hall.2.2.2
        refine lpx_up (fun i z => z = (nI i, I, J)) 4 ?_ ?_ 0 _ (Nat.zero_le _) rfl
        · rintro z k rfl
          refine pk_le 4 4 (fun _ => ⟨fun _ => no (fun q => ?_), fun e => absurd e no10⟩) (fun c => by omega)
          unfold rok at q; simp at q
          exact q hall.1 hall.2.1 hall.2.2.1 hall.2.2.2
        · rintro i z k hi rfl hk
          refine pk_le 4 i (fun c => by omega) (fun _ => ⟨vp_in_nI hi (by decide), ?_⟩)
          rw [nI_clamp (by omega), show I (8 + 3) i = nI (seF t i) from m8 i hi, ha i hi]
          refine ⟨fun _ => ?_, fun e => absurd rfl e⟩
          rw [nI_1]; exact hk _ rfl
      · have hex : ∃ a, a < 4 ∧ seF t a ≠ 15 := by
          apply Classical.byContradiction; intro hno
          exact hall ⟨Classical.byContradiction (fun q => hno ⟨0, by decide, q⟩), Classical.byContradiction (fun q => hno ⟨1, by decide, q⟩), Classical.byContradiction (fun q => hno ⟨2, by decide, q⟩), Classical.byContradiction (fun q => hno ⟨3, by decide, q⟩)⟩
        obtain ⟨a0, ⟨ha4, hne⟩, hmin⟩ := pk_least _ hex
        refine lpx_up (fun i z => z = (nI i, I, J)) a0 ?_ ?_ 0 _ (Nat.zero_le _) rfl
        · rintro z k rfl
          refine pk_le 4 a0 (fun c => by omega) (fun _ => ⟨vp_in_nI ha4 (by decide), ?_⟩)
          have h16 := p9 a0 ha4
          rw [nI_clamp (by omega), show I (8 + 3) a0 = nI (seF t a0) from m8 a0 ha4]
          refine ⟨fun e => absurd ((nI_eq (b := 15) (by omega) (by decide)).mp e) hne, fun _ => ⟨fun e => absurd rfl e, fun _ => ?_⟩⟩
          rintro I2 rfl
          exact ⟨fun e => absurd e no10, fun _ => q1 _ J (fr14 I J _ frRd_rfl) (Or.inl ⟨rfl, Or.inr (Or.inr (Or.inr (Or.inr ⟨rfl, hall⟩)))⟩) (stay 6 (by decide) (by decide) (by decide))⟩
        · rintro i z k hi rfl hk
          have e15 : seF t i = 15 := Classical.byContradiction (fun q => hmin i hi ⟨by omega, q⟩)
          refine pk_le 4 i (fun c => by omega) (fun _ => ⟨vp_in_nI (by omega) (by decide), ?_⟩)
          rw [nI_clamp (by omega), show I (8 + 3) i = nI (seF t i) from m8 i (by omega), e15]
          refine ⟨fun _ => ?_, fun e => absurd rfl e⟩
          rw [nI_1]; exact hk _ rfl
    · obtain rfl := (eqc 94 (by decide)).mp e
      rw [m9]
      refine ⟨fun c3 => no (fun q => ?_), fun c3 => ?_⟩
      · have c4 : seG t = 15 := (nI_eq (b := 15) (by omega) (by decide)).mp c3
        unfold rok at q; simp at q; omega
      · rintro I2 rfl
        exact ⟨fun e => absurd e no10, fun _ => q1 _ J (fr14 I J _ frRd_rfl) (Or.inl ⟨rfl, Or.inr (Or.inr (Or.inl ⟨rfl, fun q => c3 (by show nI (seG t) = nI 15; rw [show seG t = 15 from q])⟩))⟩) (stay 4 (by decide) (by decide) (by decide))⟩
    · obtain rfl := (eqc 119 (by decide)).mp e
      unfold P_X5_open
      rw [m3]
      refine pk_lt (hoW h) 10 (fun c3 => ⟨vp_in_nI c3 (by decide), ?_⟩) (fun c3 => ⟨fun _ => no (fun q => ?_), fun e => absurd rfl e⟩)
      · rintro I20 rfl
        have e34 : mI I (3 + 2) (nI (hoW h)).toNatClampNeg 0 3 4 = nI (hoW h) := m3
        rw [e34]
        refine ⟨vp_in_nI c3 (by decide), ?_⟩
        rintro J30 rfl I38 rfl
        refine ⟨fun e => absurd e no10, fun _ => ?_⟩
        rintro I2 rfl
        have hcw : (nI (hoW h)).toNatClampNeg = hoW h := nI_clamp (by omega)
        rw [hcw, nI_1]
        refine ⟨fun e => absurd e no10, fun _ => q1 _ _ ⟨fun c hc => ?_, rfl, rfl, fun c hc => wJ_n _ (by omega) _⟩ (Or.inl ⟨rfl, Or.inl ⟨rfl, c3⟩⟩) ?_⟩
        · exact (wI_n _ (by omega) _).trans ((wI_n _ (by omega) _).trans (wI_n _ (by omega) _))
        · show mX _ _ 1 ld (hoOpen h) t
          refine ⟨rfl, fun q => absurd q (by decide), rfl, fun u hu => ?_, fun u hu hcc => ?_, m6, fun u hu hcc => ?_, m8, m9, m10⟩
          · have hu' : u < hoW h + 1 := hu
            show upd (I 5) (hoW h) 0 u = nI (uF (hoZ h) (hoW h) 0 u) ∧ vp_updL (J 6) (hoW h) 0 u = lN (pk (nd (hoOpen h) u) 8) ∧ ∀ i, i < uF (hoZ h) (hoW h) 0 u → I 7 (u * 6 + i) = nI (hoS h u i)
            by_cases e : u = hoW h
            · subst e
              rw [upd_s rfl, pk_uLs, uF_s]
              refine ⟨rfl, ?_, fun i hi => absurd hi (Nat.not_lt_zero i)⟩
              have e0 : nd (hoOpen h) (hoW h) = fun _ => 0 := by
                funext l
                show cnt (hoS h (hoW h)) l (uF (hoZ h) (hoW h) 0 (hoW h)) = 0
                rw [uF_s]; rfl
              rw [e0]; rfl
            · rw [upd_n e, pk_uLn e, uF_n _ e, nd_open e]
              exact m4 u (by omega)
          · have hc' : u + 1 < hoW h + 1 := hcc.elim id (fun q => absurd rfl q)
            exact m5 u (by omega) (Or.inr (by decide))
          · have hc' : u + 1 < hoW h + 1 := hcc.elim id (fun q => absurd rfl q.1)
            exact m7 u (by omega) (Or.inr ⟨by decide, by decide⟩)
      · unfold rok at q; simp at q; omega
    · have a1 := mt (eqc 43 (by decide)).mpr n43
      have a2 := mt (eqc 46 (by decide)).mpr n46
      have a3 := mt (eqc 58 (by decide)).mpr n58
      have a4 := mt (eqc 94 (by decide)).mpr n94
      have a5 := mt (eqc 119 (by decide)).mpr n119
      unfold rok; simp; omega
  · obtain rfl := (ph8 1 (by decide)).mp e
    have hw1 := p3 (Or.inl rfl)
    have ew : I 3 4 - (1 : Int32) = nI (hoW h - 1) := by rw [m3, show (1 : Int32) = nI 1 from rfl, pk_sub hw1]
    have hv10 : vp_in (nI (hoW h - 1)) 10 := vp_in_nI (by omega) (by decide)
    have hcl : (nI (hoW h - 1)).toNatClampNeg = hoW h - 1 := nI_clamp (by omega)
    obtain ⟨z1, z2, z3⟩ := m4 (hoW h - 1) (by omega)
    obtain ⟨z6, zs⟩ := p4 (hoW h - 1) (by omega)
    refine pe_isLetterX (fun hl => ⟨fun e => absurd e no10, fun _ => ?_⟩) (fun hl => ⟨fun _ => ?_, fun e => absurd rfl e⟩)
    · obtain ⟨a1, a2⟩ := isL.mp hl
      rw [sub97 a1]
      have en : rnx (1, ld, h, t) c = (1, ld, hoSpell h (c - 97), t) := by unfold rnx; rw [if_neg (show ¬ (1 : Nat) = 0 by decide), if_pos rfl, if_pos a1]
      unfold P_X5_spell
      rw [ew]
      refine ⟨fun e => absurd e (nI_pos (by omega)), fun _ => ⟨hv10, ?_⟩⟩
      rw [hcl, show I (3 + 2) (hoW h - 1) = nI (hoZ h (hoW h - 1)) from z1]
      have e6 : nI (hoW h - 1) * (6 : Int32) + nI (hoZ h (hoW h - 1)) = nI ((hoW h - 1) * 6 + hoZ h (hoW h - 1)) := by rw [show (6 : Int32) = nI 6 from rfl, pk_mul, nI_add]
      refine pk_lt (hoZ h (hoW h - 1)) 6 (fun c3 => ⟨hv10, ?_⟩) (fun c3 => no (fun q => ?_))
      · rw [e6]
        refine ⟨vp_in_nI (by omega) (by decide), ?_⟩
        rintro I40 rfl
        refine ⟨hv10, hv10, ?_⟩
        rintro I50 rfl
        refine ⟨hv10, hv10, ?_⟩
        rintro J64 rfl
        have e5 : mI I (3 + 4) (nI ((hoW h - 1) * 6 + hoZ h (hoW h - 1))).toNatClampNeg (nI (c - 97)) (3 + 2) (hoW h - 1) = nI (hoZ h (hoW h - 1)) := z1
        rw [e5, nI_clamp (by omega), nI_1, show J (3 + 3) (hoW h - 1) = lN (pk (nd h (hoW h - 1)) 8) from z2, show (1 : Int64) = lN 1 from rfl, shl5 (by decide) (by omega), lN_add, Nat.one_mul]
        refine q1 _ _ ⟨fun c hc => (wI_n _ (by omega) _).trans (wI_n _ (by omega) _), rfl, rfl, fun c hc => wJ_n _ hc _⟩ (Or.inr (Or.inl ⟨rfl, Or.inl ⟨a1, a2, c3⟩⟩)) ?_
        rw [en]
        show mX _ _ 1 ld (hoSpell h (c - 97)) t
        refine ⟨m1, fun q => absurd q (by decide), m3, fun u hu => ?_, m5, m6, m7, m8, m9, m10⟩
        have hu' : u < hoW h := hu
        show upd (I 5) (hoW h - 1) (nI (hoZ h (hoW h - 1) + 1)) u = nI (uF (hoZ h) (hoW h - 1) (hoZ h (hoW h - 1) + 1) u) ∧ vp_updL (J 6) (hoW h - 1) (lN (pk (nd h (hoW h - 1)) 8 + 32 ^ (c - 97))) u = lN (pk (nd (hoSpell h (c - 97)) u) 8) ∧ ∀ i, i < uF (hoZ h) (hoW h - 1) (hoZ h (hoW h - 1) + 1) u → upd (I 7) ((hoW h - 1) * 6 + hoZ h (hoW h - 1)) (nI (c - 97)) (u * 6 + i) = nI (if u = hoW h - 1 ∧ i = hoZ h (hoW h - 1) then c - 97 else hoS h u i)
        by_cases e : u = hoW h - 1
        · subst e
          rw [upd_s rfl, pk_uLs, uF_s, nd_spell_s, pk_one, if_pos (by omega)]
          refine ⟨rfl, rfl, fun i hi => ?_⟩
          by_cases ei : i = hoZ h (hoW h - 1)
          · rw [if_pos ⟨rfl, ei⟩, upd_s (by omega)]
          · rw [if_neg (fun q => ei q.2), upd_n (by omega)]; exact z3 i (by omega)
        · obtain ⟨y1, y2, y3⟩ := m4 u hu'
          rw [upd_n e, pk_uLn e, uF_n _ e, nd_spell_n e]
          refine ⟨y1, y2, fun i hi => ?_⟩
          have := (p4 u hu').1
          rw [if_neg (fun q => e q.1), upd_n (by omega)]; exact y3 i hi
      · unfold rok at q; simp at q; omega
    · have nl : ¬ (97 ≤ c ∧ c < 105) := fun q => hl (isL.mpr q)
      refine pe_isKindX (fun hk => ⟨fun e => absurd e no10, fun _ => ?_⟩) (fun hk => ⟨fun _ => no (fun q => ?_), fun e => absurd rfl e⟩)
      · obtain ⟨a1, a2⟩ := isK.mp hk
        have en : rnx (1, ld, h, t) c = (2, ld, hoClose h (c - 65), t) := by unfold rnx; rw [if_neg (show ¬ (1 : Nat) = 0 by decide), if_pos rfl, if_neg (by omega)]
        rw [sub65 a1]
        unfold P_X5_close
        rw [ew]
        refine ⟨fun e => absurd e (nI_pos (by omega)), fun _ => ⟨hv10, ?_⟩⟩
        rw [hcl, show I (3 + 2) (hoW h - 1) = nI (hoZ h (hoW h - 1)) from z1]
        refine ⟨fun c3 => ⟨hv10, ?_⟩, fun c3 => ⟨fun _ => no (fun q => ?_), fun e => absurd rfl e⟩⟩
        · rintro I28 rfl
          refine ⟨fun e => absurd e no10, fun _ => ?_⟩
          rintro I2 rfl
          have hz : 0 < hoZ h (hoW h - 1) := Nat.pos_of_ne_zero (fun e => c3 (by rw [e]; rfl))
          refine ⟨fun e => absurd e no10, fun _ => q1 _ _ ⟨fun c hc => (wI_n _ (by omega) _).trans (wI_n _ (by omega) _), rfl, rfl, fun _ _ => rfl⟩ (Or.inr (Or.inl ⟨rfl, Or.inr ⟨a1, a2, hz⟩⟩)) ?_⟩
          rw [en]
          show mX _ _ 2 ld (hoClose h (c - 65)) t
          refine ⟨rfl, fun q => absurd q (by decide), m3, m4, fun u hu _ => ?_, m6, fun u hu hcc => m7 u hu (hcc.elim Or.inl (fun q => absurd rfl q.2)), m8, m9, m10⟩
          have hu' : u < hoW h := hu
          show upd (I 4) (hoW h - 1) (nI (c - 65)) u = nI (uF (hoK h) (hoW h - 1) (c - 65) u)
          by_cases e : u = hoW h - 1
          · subst e; rw [upd_s rfl, uF_s]
          · rw [upd_n e, uF_n _ e]; exact m5 u hu' (Or.inl (by omega))
        · have := (nI_eq (b := 0) (by omega) (by decide)).mp c3
          unfold rok at q; simp at q; omega
      · have : ¬ (65 ≤ c ∧ c < 69) := fun q => hk (isK.mpr q)
        unfold rok at q; simp at q; omega
  · obtain rfl := (ph8 2 (by decide)).mp e
    have hw1 := p3 (Or.inr rfl)
    have ew : I 3 4 - (1 : Int32) = nI (hoW h - 1) := by rw [m3, show (1 : Int32) = nI 1 from rfl, pk_sub hw1]
    refine pk_lt c 48 (fun c3 => no (fun q => ?_)) (fun c3 => pk_lt 57 c (fun c4 => no (fun q => ?_)) (fun c4 => ?_))
    · unfold rok at q; simp at q; omega
    · unfold rok at q; simp at q; omega
    · rw [ew]
      refine ⟨fun e => absurd e (nI_pos (by omega)), fun _ => ?_⟩
      refine ⟨fun e => absurd e (by decide), fun _ => ⟨fun e => absurd e (by decide), fun _ => ⟨fun e => absurd e (by decide), fun _ => ⟨fun _ => ⟨vp_in_nI (by omega) (by decide), ?_⟩, fun e => absurd rfl e⟩⟩⟩⟩
      rintro I87 rfl I2 rfl
      rw [nI_clamp (by omega), show nI c - (48 : Int32) = nI (c - 48) from by rw [show (48 : Int32) = nI 48 from rfl, pk_sub c3]]
      refine ⟨fun e => absurd e no10, fun _ => q1 _ _ ⟨fun c hc => (wI_n _ (by omega) _).trans (wI_n _ (by omega) _), rfl, rfl, fun _ _ => rfl⟩ (Or.inr (Or.inr (Or.inl ⟨rfl, c3, c4⟩))) ?_⟩
      show mX _ _ 0 ld h (chg 3 (hoW h - 1) (c - 48) t)
      refine ⟨rfl, fun q => absurd q (by decide), m3, m4, fun u hu _ => m5 u hu (Or.inr (by decide)), m6, fun u hu _ => ?_, m8, m9, m10⟩
      show upd (I 10) (hoW h - 1) (nI (c - 48)) u = nI (if u = hoW h - 1 then c - 48 else seR t u)
      by_cases e : u = hoW h - 1
      · rw [upd_s e, if_pos e]
      · rw [upd_n e, if_neg e]; exact m7 u hu (Or.inl (by omega))
  · obtain rfl := (ph8 3 (by decide)).mp e
    refine pe_isLetterX (fun hl => ⟨fun e => absurd e no10, fun _ => ?_⟩) (fun hl => ⟨fun _ => no (fun q => ?_), fun e => absurd rfl e⟩)
    · obtain ⟨a1, a2⟩ := isL.mp hl
      rw [sub97 a1]
      have hv8 : vp_in (nI (c - 97)) 8 := vp_in_nI (by omega) (by decide)
      refine ⟨fun _ => ⟨hv8, hv8, ?_⟩, fun e => absurd rfl e⟩
      rintro I49 rfl I2 rfl
      have hb12 : seB t (c - 97) ≤ 12 := Nat.le_trans (sm_le _ (by omega)) p7
      rw [nI_clamp (by omega), show I (8 + 1) (c - 97) = nI (seB t (c - 97)) from m6 _ (by omega), nI_1]
      refine ⟨fun e => absurd e no10, fun _ => q1 _ _ ⟨fun c hc => (wI_n _ (by omega) _).trans (wI_n _ (by omega) _), rfl, rfl, fun _ _ => rfl⟩ (Or.inr (Or.inr (Or.inr (Or.inl ⟨rfl, a1, a2⟩)))) ?_⟩
      show mX _ _ 0 ld h (chg 0 (c - 97) 0 t)
      refine ⟨rfl, fun q => absurd q (by decide), m3, m4, fun u hu _ => m5 u hu (Or.inr (by decide)), fun l hl9 => ?_, fun u hu _ => m7 u hu (Or.inr ⟨by decide, by decide⟩), m8, m9, m10⟩
      show upd (I 9) (c - 97) (nI (seB t (c - 97) + 1)) l = nI (if l = c - 97 then seB t l + 1 else seB t l)
      by_cases e : l = c - 97
      · rw [upd_s e, if_pos e, e]
      · rw [upd_n e, if_neg e]; exact m6 l hl9
    · have : ¬ (97 ≤ c ∧ c < 105) := fun q => hl (isL.mpr q)
      unfold rok at q; simp at q; omega
  · obtain rfl := (ph8 4 (by decide)).mp e
    rw [m9]
    refine free (seG t) _ p10 (fun hk => ⟨fun e => absurd e no10, fun _ => ?_⟩) (fun hk => ⟨fun _ => no (fun q => hk ?_), fun e => absurd rfl e⟩)
    · obtain ⟨a1, a2, a3⟩ := hk
      rw [sub65 a1]
      refine ⟨fun e => absurd e (by decide), fun _ => ⟨fun e => absurd e (by decide), fun _ => ⟨fun e => absurd e (by decide), fun _ => ⟨fun e => absurd e (by decide), fun _ => ⟨fun _ => ?_, fun e => absurd rfl e⟩⟩⟩⟩⟩
      rintro I100 rfl I2 rfl
      rw [m9, xor_bit (by omega)]
      refine ⟨fun e => absurd e no10, fun _ => q1 _ _ ⟨fun c hc => (wI_n _ (by omega) _).trans (wI_n _ (by omega) _), rfl, rfl, fun _ _ => rfl⟩ (Or.inr (Or.inr (Or.inr (Or.inr (Or.inl ⟨rfl, a1, a2, a3⟩))))) ?_⟩
      show mX _ _ 0 ld h (chg 4 (c - 65) 0 t)
      exact ⟨rfl, fun q => absurd q (by decide), m3, m4, fun u hu _ => m5 u hu (Or.inr (by decide)), m6, fun u hu _ => m7 u hu (Or.inr ⟨by decide, by decide⟩), m8, rfl, m10⟩
    · unfold rok at q; simp at q; exact q
  · obtain rfl := (ph8 5 (by decide)).mp e
    rw [m10]
    refine free (seE t) _ p11 (fun hk => ⟨fun e => absurd e no10, fun _ => ?_⟩) (fun hk => ⟨fun _ => no (fun q => hk ?_), fun e => absurd rfl e⟩)
    · obtain ⟨a1, a2, a3⟩ := hk
      rw [sub65 a1]
      refine ⟨fun e => absurd e (by decide), fun _ => ⟨fun e => absurd e (by decide), fun _ => ⟨fun e => absurd e (by decide), fun _ => ⟨fun e => absurd e (by decide), fun _ => ⟨fun e => absurd e (by decide), fun _ => ⟨fun _ => ?_, fun e => absurd rfl e⟩⟩⟩⟩⟩⟩
      rintro I100 rfl I2 rfl
      rw [m10, xor_bit (by omega)]
      refine ⟨fun e => absurd e no10, fun _ => q1 _ _ ⟨fun c hc => (wI_n _ (by omega) _).trans (wI_n _ (by omega) _), rfl, rfl, fun _ _ => rfl⟩ (Or.inr (Or.inr (Or.inr (Or.inr (Or.inr (Or.inl ⟨rfl, a1, a2, a3⟩)))))) ?_⟩
      show mX _ _ 0 ld h (chg 5 (c - 65) 0 t)
      exact ⟨rfl, fun q => absurd q (by decide), m3, m4, fun u hu _ => m5 u hu (Or.inr (by decide)), m6, fun u hu _ => m7 u hu (Or.inr ⟨by decide, by decide⟩), m8, m9, rfl⟩
    · unfold rok at q; simp at q; exact q
  · obtain rfl := (ph8 6 (by decide)).mp e
    refine pe_isKindX (fun hk => ⟨fun e => absurd e no10, fun _ => ?_⟩) (fun hk => ⟨fun _ => no (fun q => ?_), fun e => absurd rfl e⟩)
    · obtain ⟨a1, a2⟩ := isK.mp hk
      have h16 := p9 (c - 65) (by omega)
      rw [sub65 a1]
      refine ⟨vp_in_nI (by omega) (by decide), ?_⟩
      rw [nI_clamp (by omega), m8 _ (by omega)]
      refine ⟨fun c3 => ?_, fun c3 => no (fun q => ?_)⟩
      · rintro I34 rfl I2 rfl
        have hne : seF t (c - 65) ≠ 15 := fun e => c3 (by rw [e]; rfl)
        refine q1 _ _ ⟨fun c hc => (wI_n _ (by omega) _).trans (wI_n _ (by omega) _), rfl, rfl, fun _ _ => rfl⟩ (Or.inr (Or.inr (Or.inr (Or.inr (Or.inr (Or.inr (Or.inl ⟨rfl, a1, a2, hne⟩))))))) ?_
        show mX _ _ 7 (c - 65) h t
        exact ⟨rfl, fun _ => rfl, m3, m4, fun u hu _ => m5 u hu (Or.inr (by decide)), m6, fun u hu _ => m7 u hu (Or.inr ⟨by decide, by decide⟩), m8, m9, m10⟩
      · have := (nI_eq (b := 15) (by omega) (by decide)).mp c3
        unfold rok at q; simp at q; omega
    · have : ¬ (65 ≤ c ∧ c < 69) := fun q => hk (isK.mpr q)
      unfold rok at q; simp at q; omega
  · have e7 : ph = 7 := by
      have a0 := mt (ph8 0 (by decide)).mpr n0
      have a1 := mt (ph8 1 (by decide)).mpr n1
      have a2 := mt (ph8 2 (by decide)).mpr n2
      have a3 := mt (ph8 3 (by decide)).mpr n3
      have a4 := mt (ph8 4 (by decide)).mpr n4
      have a5 := mt (ph8 5 (by decide)).mpr n5
      have a6 := mt (ph8 6 (by decide)).mpr n6
      omega
    subst e7
    have hld := p13 rfl
    rw [m2 rfl]
    refine ⟨vp_in_nI hld (by decide), ?_⟩
    have h16 := p9 ld hld
    rw [nI_clamp (by omega), m8 ld hld]
    refine free (seF t ld) _ h16 (fun hk => ⟨fun e => absurd e no10, fun _ => ?_⟩) (fun hk => ⟨fun _ => no (fun q => hk ?_), fun e => absurd rfl e⟩)
    · obtain ⟨a1, a2, a3⟩ := hk
      rw [sub65 a1, m2 rfl]
      have hv4 : vp_in (nI ld) 4 := vp_in_nI hld (by decide)
      refine ⟨fun e => absurd e (by decide), fun _ => ⟨fun e => absurd e (by decide), fun _ => ⟨fun e => absurd e (by decide), fun _ => ⟨fun e => absurd e (by decide), fun _ => ⟨fun e => absurd e (by decide), fun _ => ⟨fun e => absurd e (by decide), fun _ => ⟨hv4, hv4, ?_⟩⟩⟩⟩⟩⟩⟩
      rintro I100 rfl I2 rfl
      rw [nI_clamp (by omega), show I (8 + 3) ld = nI (seF t ld) from m8 ld hld, xor_bit (by omega)]
      refine ⟨fun e => absurd e no10, fun _ => q1 _ _ ⟨fun c hc => (wI_n _ (by omega) _).trans (wI_n _ (by omega) _), rfl, rfl, fun _ _ => rfl⟩ (Or.inr (Or.inr (Or.inr (Or.inr (Or.inr (Or.inr (Or.inr ⟨rfl, a1, a2, a3⟩))))))) ?_⟩
      show mX _ _ 0 ld h (chg 6 ld (c - 65) t)
      refine ⟨rfl, fun q => absurd q (by decide), m3, m4, fun u hu _ => m5 u hu (Or.inr (by decide)), m6, fun u hu _ => m7 u hu (Or.inr ⟨by decide, by decide⟩), fun a ha => ?_, m9, m10⟩
      show upd (I 11) ld (nI (seF t ld ^^^ (1 <<< (c - 65)))) a = nI (if a = ld then seF t a ^^^ (1 <<< (c - 65)) else seF t a)
      by_cases e : a = ld
      · rw [upd_s e, if_pos e, e]
      · rw [upd_n e, if_neg e]; exact m8 a ha
    · unfold rok at q; simp at q; exact q
