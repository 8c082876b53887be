theorem rowM_x {f : Nat → Int32} {h : Ho} {t : Se} {x : Nat} (h1 : hoOK h) (hr : rowM f 0 h t) : rowM (upd f 8 (nI (seX t ^^^ (1 <<< x)))) 0 h (chg 2 x 0 t) := by
  have hw10 := h1.1
  obtain ⟨r1, r2, r3, r4, r5, r6⟩ := hr
  exact ⟨fun l hl => by rw [upd_n (by omega)]; exact r1 l hl, fun u hu => by rw [upd_n (by omega)]; exact r2 u hu, fun a ha => by rw [upd_n (by omega)]; exact r3 a ha, by rw [upd_n (by omega)]; exact r4, by rw [upd_n (by omega)]; exact r5, upd_s rfl⟩
theorem rowM_f {f : Nat → Int32} {h : Ho} {t : Se} {x d : Nat} (h1 : hoOK h) (hx : x < 4) (hr : rowM f 0 h t) : rowM (upd f (21 + x) (nI (seF t x ^^^ (1 <<< d)))) 0 h (chg 6 x d t) := by
  have hw10 := h1.1
  obtain ⟨r1, r2, r3, r4, r5, r6⟩ := hr
  refine ⟨fun l hl => by rw [upd_n (by omega)]; exact r1 l hl, fun u hu => by rw [upd_n (by omega)]; exact r2 u hu, fun a ha => ?_, by rw [upd_n (by omega)]; exact r4, by rw [upd_n (by omega)]; exact r5, by rw [upd_n (by omega)]; exact r6⟩
  show upd f (21 + x) _ (0 + 21 + a) = nI (if a = x then seF t a ^^^ (1 <<< d) else seF t a)
  by_cases e : a = x
  · subst e; rw [upd_s (by omega), if_pos rfl]
  · rw [upd_n (by omega), if_neg e]; exact r3 a ha
theorem pe_judged {h : Ho} {t : Se} {f : Nat} {A : MI} {B : MJ} {Q : Int32 → MI → MJ → Prop} (h1 : hoOK h) (h2 : seOK h t) (hl : lexN A h) (hr : rowM (A 7) 0 h t) (hf : f < 10000)
    (q1 : ∀ (A' : MI) (B' : MJ), frM A A' B B' → jd h t f → rowM (A' 7) 0 h (jS t f) → Q 1 A' B')
    (q0 : ∀ (A' : MI) (B' : MJ), frM A A' B B' → ¬ jd h t f → Q 0 A' B') : P_X12_judged (nI (f / 1000)) (nI (f / 100 % 10)) (nI (f / 10 % 10)) (nI (f % 10)) A B Q := by
  have hw10 := h1.1
  have h13p : (10 : Nat) ^ 13 < 2 ^ 60 := by decide
  have a10 : f / 100 % 10 < 10 := Nat.mod_lt _ (by decide)
  have b10 : f / 10 % 10 < 10 := Nat.mod_lt _ (by decide)
  have v10 : f % 10 < 10 := Nat.mod_lt _ (by decide)
  have m100 : f % 100 = 10 * (f / 10 % 10) + f % 10 := by omega
  have eM : (10 : Int32) * nI (f / 10 % 10) + nI (f % 10) = nI (f % 100) := by rw [show (10 : Int32) = nI 10 from rfl, pk_mul, nI_add, m100]
  have hiW : ∀ n, isW n (nI (f / 100 % 10)) ↔ f / 100 % 10 < n := fun n => ⟨fun ⟨u, hu, e⟩ => by
    by_cases hb : u < 2 ^ 31
    · have := (nI_eq (by omega) hb).mp e; omega
    · omega, fun hn => ⟨_, hn, rfl⟩⟩
  have hiB : ∀ n, isW n (nI (f / 10 % 10)) ↔ f / 10 % 10 < n := fun n => ⟨fun ⟨u, hu, e⟩ => by
    by_cases hb : u < 2 ^ 31
    · have := (nI_eq (by omega) hb).mp e; omega
    · omega, fun hn => ⟨_, hn, rfl⟩⟩
  have no : ¬ jd h t f → Q 0 A B := fun hn => q0 A B frM_rfl hn
  have neS : ∀ k : Nat, k < 10 → ¬ nI (f / 1000) = nI k → f / 1000 ≠ k := fun k hk c e => c (by rw [e])
  have eqS : ∀ k : Nat, k < 10 → nI (f / 1000) = nI k → f / 1000 = k := fun k hk c => (nI_eq (by omega) (by omega)).mp c
  have zb : ∀ x : Nat, x < 2 ^ 31 → (nI x = 0 ↔ x = 0) := fun x hx => nI_eq (b := 0) hx (by decide)
  have ca : (nI (f / 100 % 10)).toNatClampNeg = f / 100 % 10 := nI_clamp (by omega)
  have fr7 : ∀ (i : Nat) (v : Int32), frM A (mI A 7 i v) B B := fun i v => ⟨fun c c1 c2 c3 => wI_n _ c3 _, fun k hk => rfl, rfl⟩
  have hv25 : vp_in (nI (f / 100 % 10)) 25 := vp_in_nI (by omega) (by decide)
  have b7 : ∀ l, l < 8 → A 7 l = nI (seB t l) := fun l hl => by have := hr.1 l hl; rwa [Nat.zero_add] at this
  refine ⟨fun c => ?_, fun c1 => ⟨fun c => ?_, fun c2 => ⟨fun c => ?_, fun c3 => ⟨fun c => ?_, fun c4 => ⟨fun c => ?_, fun c5 => ⟨fun c => ?_, fun c6 => ⟨fun c => ?_, fun c7 => no ?_⟩⟩⟩⟩⟩⟩⟩
  · have e := eqS 1 (by decide) c
    have ejS : jS t f = chg 0 (f / 100 % 10) 0 t := if_pos e
    refine pe_isLetterM (fun ha => ⟨fun e => absurd e no10, fun _ => ⟨fun c2 => no (fun hj => c2 ((zb _ (by omega)).mpr ?_)), fun c2 => ⟨fun c3 => no (fun hj => c3 ((zb _ (by omega)).mpr ?_)), fun c3 => ?_⟩⟩⟩) (fun ha => ⟨fun _ => no (fun hj => ha ((hiW 8).mpr ?_)), fun e => absurd rfl e⟩)
    · unfold jd at hj; omega
    · unfold jd at hj; omega
    · rw [zb _ (by omega)] at c2 c3
      have ha8 := (hiW 8).mp ha
      have hsm := h2.1
      have hb12 : seB t (f / 100 % 10) ≤ 12 := Nat.le_trans (sm_le _ ha8) h2.1
      refine pe_bagOf (f := seB t) b7 ⟨fun c4 => ⟨hv25, hv25, ?_⟩, fun c4 => no (fun hj => ?_)⟩
      · rintro A2 rfl
        have hlt : sm (seB t) 8 ≠ 12 := fun e => c4 (by rw [e]; rfl)
        rw [ca, b7 _ ha8, nI_1]
        refine q1 _ B (fr7 _ _) (Or.inl ⟨e, ha8, by omega, by omega⟩) ?_
        rw [ejS]
        show rowM (upd (A 7) (f / 100 % 10) (nI (seB t (f / 100 % 10) + 1))) 0 h (chg 0 (f / 100 % 10) 0 t)
        have := rowM_bag (w := 0) (l := f / 100 % 10) h1 hr (by decide) ha8
        rw [show seB (chg 0 (f / 100 % 10) 0 t) (f / 100 % 10) = seB t (f / 100 % 10) + 1 from if_pos rfl] at this
        exact this
      · have := (nI_eq (b := 12) (by omega) (by decide)).mp c4
        unfold jd at hj; omega
    · unfold jd at hj; omega
  · have e := eqS 2 (by decide) c
    have ejS : jS t f = chg 1 (f / 100 % 10) 0 t := by unfold jS; rw [if_neg (by omega), if_pos e]
    refine pe_isLetterM (fun ha => ⟨fun e => absurd e no10, fun _ => ⟨fun c2 => no (fun hj => c2 ((zb _ (by omega)).mpr ?_)), fun c2 => ⟨fun c3 => no (fun hj => c3 ((zb _ (by omega)).mpr ?_)), fun c3 => ⟨hv25, ?_⟩⟩⟩⟩) (fun ha => ⟨fun _ => no (fun hj => ha ((hiW 8).mpr ?_)), fun e => absurd rfl e⟩)
    · unfold jd at hj; omega
    · unfold jd at hj; omega
    · rw [zb _ (by omega)] at c2 c3
      have ha8 := (hiW 8).mp ha
      have hb12 : seB t (f / 100 % 10) ≤ 12 := Nat.le_trans (sm_le _ ha8) h2.1
      rw [ca, b7 _ ha8]
      refine ⟨fun c4 => ⟨hv25, hv25, ?_⟩, fun c4 => no (fun hj => ?_)⟩
      · have hp : 0 < seB t (f / 100 % 10) := Nat.pos_of_ne_zero (fun e => c4 (by rw [e]; rfl))
        rintro A2 rfl
        rw [show (1 : Int32) = nI 1 from rfl, pk_sub hp]
        refine q1 _ B (fr7 _ _) (Or.inr (Or.inl ⟨e, ha8, by omega, hp⟩)) ?_
        rw [ejS]
        show rowM (upd (A 7) (f / 100 % 10) (nI (seB t (f / 100 % 10) - 1))) 0 h (chg 1 (f / 100 % 10) 0 t)
        have := rowM_bag (w := 1) (l := f / 100 % 10) h1 hr (by decide) ha8
        rw [show seB (chg 1 (f / 100 % 10) 0 t) (f / 100 % 10) = seB t (f / 100 % 10) - 1 from if_pos rfl] at this
        exact this
      · have := (zb _ (by omega)).mp c4
        unfold jd at hj; omega
    · unfold jd at hj; omega
  · have e := eqS 3 (by decide) c
    have ejS : jS t f = chg 2 (f / 100 % 10) 0 t := by unfold jS; rw [if_neg (by omega), if_neg (by omega), if_pos e]
    refine pe_isWord hl.1 h1.1 (fun ha => ⟨fun e => absurd e no10, fun _ => ⟨fun c2 => no (fun hj => c2 ((zb _ (by omega)).mpr ?_)), fun c2 => ⟨fun c3 => ⟨vp_in_nI (n := 8) (by decide) (by decide), vp_in_nI (n := 8) (by decide) (by decide), ?_⟩, fun c3 => no (fun hj => c3 ((zb _ (by omega)).mpr ?_))⟩⟩⟩) (fun ha => ⟨fun _ => no (fun hj => ha ((hiW _).mpr ?_)), fun e => absurd rfl e⟩)
    · unfold jd at hj; omega
    · rw [zb _ (by omega)] at c2 c3
      have haW := (hiW _).mp ha
      rintro A2 rfl
      rw [show A 7 (8 : Int32).toNatClampNeg = nI (seX t) from hr.2.2.2.2.2, xor_bit a10]
      refine q1 _ B (fr7 _ _) (Or.inr (Or.inr (Or.inl ⟨e, haW, by omega⟩))) ?_
      rw [ejS]
      exact rowM_x h1 hr
    · unfold jd at hj; omega
    · unfold jd at hj; omega
  · have e := eqS 4 (by decide) c
    have ejS : jS t f = t := by unfold jS; rw [if_neg (by omega), if_neg (by omega), if_neg (by omega), if_neg (by omega)]
    refine ⟨fun c2 => no (fun hj => c2 ((zb _ (by omega)).mpr ?_)), fun c2 => ?_⟩
    · unfold jd at hj; omega
    · rw [zb _ (by omega)] at c2
      have hV := V_small (ok := okB t) h1 (seOK_O h2).1 (Nat.le_refl (tp t)) 4
      refine pe_manyOf (Or.inr rfl) h1 (seOK_O h2) hl hr (fun A1 B1 fA fB hL hW => ?_)
      rw [eM, nI_l (by omega)]
      refine ⟨fun c3 => q0 A1 B1 (frM_of fA fB) (fun hj => ?_), fun c3 => q1 A1 B1 (frM_of fA fB) ?_ ?_⟩
      · have : V h t (okB t) (tp t) 4 ≠ f % 100 := fun e => c3 (by rw [e])
        unfold jd at hj; omega
      · exact Or.inr (Or.inr (Or.inr (Or.inl ⟨e, c2, (pk_lEQ (by omega) (by omega)).mp c3⟩)))
      · rw [ejS, fA.1 7 (by decide) (by decide)]; exact hr
  · have e := eqS 5 (by decide) c
    have ejS : jS t f = t := by unfold jS; rw [if_neg (by omega), if_neg (by omega), if_neg (by omega), if_neg (by omega)]
    have j5 : jd h t f → f / 100 % 10 < hoW h ∧ f % 100 < 2 ∧ (wph h t (f / 100 % 10) ↔ f % 100 = 1) := fun hj => by
      rcases hj with ⟨e9, _⟩ | ⟨e9, _⟩ | ⟨e9, _⟩ | ⟨e9, _⟩ | ⟨_, hj⟩ | ⟨e9, _⟩ | ⟨e9, _⟩
      · omega
      · omega
      · omega
      · omega
      · exact hj
      · omega
      · omega
    refine pe_isWord hl.1 h1.1 (fun ha => ⟨fun e => absurd e no10, fun _ => ⟨fun c2 => no (fun hj => c2 ((zb _ (by omega)).mpr ?_)), fun c2 => pk_le 2 (f % 10) (fun c3 => no (fun hj => ?_)) (fun c3 => ?_)⟩⟩) (fun ha => ⟨fun _ => no (fun hj => ha ((hiW _).mpr (j5 hj).1)), fun e => absurd rfl e⟩)
    · have := (j5 hj).2.1; omega
    · have := (j5 hj).2.1; omega
    · rw [zb _ (by omega)] at c2
      have haW := (hiW _).mp ha
      have hle := (V_wo (ok := okB t) h1 haW (tp t) (tp t) 4 (Nat.le_refl _) (Nat.le_refl _)).1
      have hV := V_small (ok := okB t) h1 (seOK_O h2).1 (Nat.le_refl (tp t)) 4
      refine pe_withWord (Or.inr rfl) h1 (seOK_O h2) hl hr haW (fun A1 B1 fA fB => ?_)
      rw [lN_sub hle]
      have fin : ∀ s : Nat, s < 2 → (s = 1 ↔ wph h t (f / 100 % 10)) → P_X12_judged_226 Q (nI (f % 10)) (nI s) A1 B1 := fun s hs2 hs => by
        have core : ∀ v : Nat, v < 2 → (f % 10 = 1 ↔ v = 1) → P_X12_judged_237 Q (nI s) (nI v) A1 B1 := fun v hv2 hv => by
          refine ⟨fun c4 => q0 A1 B1 (frM_of fA fB) (fun hj => c4 ?_), fun c4 => q1 A1 B1 (frM_of fA fB) ?_ ?_⟩
          · have := (j5 hj).2.2
            rw [← hs] at this
            have : s = v := by omega
            rw [this]
          · have : s = v := (nI_eq (by omega) (by omega)).mp c4
            refine Or.inr (Or.inr (Or.inr (Or.inr (Or.inl ⟨e, haW, by omega, ?_⟩))))
            rw [← hs]; omega
          · rw [ejS, fA.1 7 (by decide) (by decide)]; exact hr
        refine ⟨fun c4 => core 0 (by decide) ?_, fun c4 => core 1 (by decide) ?_⟩
        · exact ⟨fun e => absurd (by rw [e]; rfl) c4, fun e => absurd e (by decide)⟩
        · exact ⟨fun _ => rfl, fun _ => (nI_eq (b := 1) (by omega) (by decide)).mp c4⟩
      refine ⟨fun c4 => fin 0 (by decide) ⟨fun e => absurd e (by decide), fun hq => ?_⟩, fun c4 => fin 1 (by decide) ⟨fun _ => ?_, fun _ => rfl⟩⟩
      · have := (pk_lLE (b := 0) (by omega) (by decide)).mp c4
        unfold wph at hq; omega
      · unfold wph
        rcases Nat.lt_or_ge (V h t (fun w => okB t w && !decide (w = f / 100 % 10)) (tp t) 4) (V h t (okB t) (tp t) 4) with q | q
        · exact q
        · exact absurd (by rw [show V h t (okB t) (tp t) 4 - V h t (fun w => okB t w && !decide (w = f / 100 % 10)) (tp t) 4 = 0 by omega]; exact Int64.le_refl 0) c4
  · have e := eqS 6 (by decide) c
    have ejS : jS t f = chg 6 (f / 100 % 10) (f / 10 % 10) t := by unfold jS; rw [if_neg (by omega), if_neg (by omega), if_neg (by omega), if_pos e]
    refine pe_isKindM (fun ha => ⟨fun e => absurd e no10, fun _ => pe_isKindM (fun hb => ⟨fun e => absurd e no10, fun _ => ⟨fun c2 => ?_, fun c2 => no (fun hj => c2 ((zb _ (by omega)).mpr ?_))⟩⟩) (fun hb => ⟨fun _ => no (fun hj => hb ((hiB 4).mpr ?_)), fun e => absurd rfl e⟩)⟩) (fun ha => ⟨fun _ => no (fun hj => ha ((hiW 4).mpr ?_)), fun e => absurd rfl e⟩)
    · rw [zb _ (by omega)] at c2
      have ha4 := (hiW 4).mp ha
      have hb4 := (hiB 4).mp hb
      have e21 : (21 : Int32) + nI (f / 100 % 10) = nI (21 + f / 100 % 10) := by rw [show (21 : Int32) = nI 21 from rfl, nI_add]
      rw [e21]
      have hv : vp_in (nI (21 + f / 100 % 10)) 25 := vp_in_nI (by omega) (by decide)
      refine ⟨hv, hv, ?_⟩
      rintro A2 rfl
      have e7 : A 7 (21 + f / 100 % 10) = nI (seF t (f / 100 % 10)) := by have := hr.2.2.1 _ ha4; rwa [Nat.zero_add] at this
      rw [nI_clamp (by omega), e7, xor_bit b10]
      refine q1 _ B (fr7 _ _) (Or.inr (Or.inr (Or.inr (Or.inr (Or.inr (Or.inl ⟨e, ha4, hb4, c2⟩)))))) ?_
      rw [ejS]
      exact rowM_f h1 ha4 hr
    · unfold jd at hj; omega
    · unfold jd at hj; omega
    · unfold jd at hj; omega
  · have e := eqS 7 (by decide) c
    have ejS : jS t f = t := by unfold jS; rw [if_neg (by omega), if_neg (by omega), if_neg (by omega), if_neg (by omega)]
    have j7 : jd h t f → f / 100 % 10 = 0 ∧ 0 < bw h t (tp t) 4 ∧ ∃ L, isLenB h t L ∧ sm (fun i => seR t (bfd h t i)) L = f % 100 := fun hj => by
      rcases hj with ⟨e9, _⟩ | ⟨e9, _⟩ | ⟨e9, _⟩ | ⟨e9, _⟩ | ⟨e9, _⟩ | ⟨e9, _⟩ | ⟨_, hj⟩
      · omega
      · omega
      · omega
      · omega
      · omega
      · omega
      · exact hj
    refine pe_look (Or.inr rfl) h1 (seOK_O h2) hl.1 hl.2.2 hr (fun A1 fL hLk => ?_)
    have fA := frL_A fL
    refine pe_findBestM h1 h2 (lexN_fr fA hl) hLk (fun A2 g1 c0 => ?_) (fun A2 L g1 c0 hL hf2 => ?_)
    · have fM : frM A A2 B B := ⟨fun c c1 c2 c3 => (g1 c (by omega) (by omega)).trans (fA.1 c c1 (by omega)), fun k hk => by rw [g1 0 (by decide) (by decide)]; exact fA.2 k (by omega), rfl⟩
      have hno : ¬ jd h t f := fun hj => by have := (j7 hj).2.1; omega
      exact ⟨fun _ => q0 A2 B fM hno, fun _ => ⟨fun _ => q0 A2 B fM hno, fun e => absurd rfl e⟩⟩
    · have fM : frM A A2 B B := ⟨fun c c1 c2 c3 => (g1 c (by omega) (by omega)).trans (fA.1 c c1 (by omega)), fun k hk => by rw [g1 0 (by decide) (by decide)]; exact fA.2 k (by omega), rfl⟩
      obtain ⟨M, hM, hbM⟩ := lenB_ex h1 h2.1 c0
      obtain rfl := lenB_uniq hL hM
      have hbl := bfd_lt h1 hL hbM
      have hL12 := hL.1
      have hsm : sm (fun i => seR t (bfd h t i)) L ≤ L * 9 := sm_bound (fun i hi => h2.2.1 _ (hbl i hi))
      refine ⟨fun c2 => q0 A2 B fM (fun hj => c2 ((zb _ (by omega)).mpr (j7 hj).1)), fun c2 => ⟨fun e9 => absurd (show ¬ nI L < 0 from nI_pos (by omega)) (by rw [e9]; decide), fun _ => ?_⟩⟩
      rw [zb _ (by omega)] at c2
      refine pe_worthM h1 hL12 hbl hf2 (by rw [g1 19 (by decide) (by decide)]; exact hLk.2.2.2.2) ?_
      rw [eM]
      refine ⟨fun c3 => q0 A2 B fM (fun hj => c3 ?_), fun c3 => q1 A2 B fM ?_ ?_⟩
      · obtain ⟨_, _, M2, hM2, eM9⟩ := j7 hj
        rw [lenB_uniq hL hM2, eM9]
      · exact Or.inr (Or.inr (Or.inr (Or.inr (Or.inr (Or.inr ⟨e, c2, c0, L, hL, (nI_eq (by omega) (by omega)).mp c3⟩)))))
      · rw [ejS, g1 7 (by decide) (by decide), fA.1 7 (by decide) (by decide)]; exact hr
  · have n1 := neS 1 (by decide) c1
    have n2 := neS 2 (by decide) c2
    have n3 := neS 3 (by decide) c3
    have n4 := neS 4 (by decide) c4
    have n5 := neS 5 (by decide) c5
    have n6 := neS 6 (by decide) c6
    have n7 := neS 7 (by decide) c7
    unfold jd; omega
