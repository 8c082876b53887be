theorem pe_lay {h : Ho} {t : Se} {I : MI} {J : MJ} {Q : MI → MJ → Prop} (h1 : hoOK h) (h2 : seO h t) (hC : lexC I J h) (h5 : setX (I 17) (I 18) (I 19) (I 20) h t)
    (hQ : ∀ (I' : MI) (J' : MJ), (∀ c, c ≠ 46 → c ≠ 48 → c ≠ 49 → c ≠ 50 → c ≠ 51 → c ≠ 52 → I' c = I c) → (∀ c, c ≠ 47 → J' c = J c) → LatOK (I' 46) (I' 48) (I' 49) (I' 50) (I' 52) h t → Q I' J') : P_X4_lay I J Q := by
  have hw10 := h1.1
  have htp := tp_1944 h2
  have hb13 : ∀ l, l < 8 → seB t l ≤ 13 := fun l hl => Nat.le_trans (sm_le _ hl) h2.1
  obtain ⟨s1, s2, s3, s4, s5, s6⟩ := id h5
  refine pe_measure h2 s1 (fun I1 f1 f2 f3 f4 => ?_)
  rintro I6 rfl
  -- the part behind the clearing
  have main : ∀ I7 : MI, (∀ c, c ≠ 46 → c ≠ 48 → c ≠ 51 → I7 c = I c) → I7 46 11 = nI (tp t) → I7 46 9 = 0 → (∀ l, l < 8 → I7 51 l = nI (bs (seB t) l)) → (∀ q, q ≤ tp t → I7 48 q = 0) → P_X8_packed 17 I7 J (fun r44 I44 J44 => vp_in (I7 46 11) 1944 ∧ (∀ J47 : MJ, J47 = mJ J44 47 (I7 46 11).toNatClampNeg r44 → vp_in (I44 46 11) 1944 ∧ (P_X4_listSteps (J47 47 (I44 46 11).toNatClampNeg) I44 J47 (fun I58 J58 => (((I58 46 11) ≤ 0 → P_X4_lay_79 Q I58 J58) ∧ (¬ (I58 46 11) ≤ 0 → vp_in (I58 46 11) 1944 ∧ (∀ I78 : MI, I78 = mI I58 48 (I58 46 11).toNatClampNeg (16 : Int32) → P_X4_lay_79 Q I78 J58))))))) := by
    intro I7 g1 g2 g3 g4 g5
    have hvt : vp_in (nI (tp t)) 1944 := vp_in_nI htp (by decide)
    refine pe_packed (f := seB t) (fun l hl => by show I7 18 l = _; rw [g1 18 (by decide) (by decide) (by decide)]; exact s1 l hl) (fun l hl => by have := hb13 l hl; omega) ?_
    rw [g2]
    refine ⟨hvt, ?_⟩
    rintro J47 rfl
    refine ⟨hvt, ?_⟩
    rw [nI_clamp (by omega)]
    have e47 : mJ J 47 (tp t) (lN (pk (seB t) 8)) 47 (tp t) = lN (pk (seB t) 8) := pk_uLs
    rw [e47]
    refine pe_listSteps h1 h2 ⟨by rw [g1 12 (by decide) (by decide) (by decide)]; exact hC.1, fun u hu => by rw [g1 13 (by decide) (by decide) (by decide)]; exact hC.2.1 u hu, hC.2.2⟩ (by rw [g1 17 (by decide) (by decide) (by decide)]; exact s6) g4 (fun I8 us k1 k2 k3 k4 k5 k6 => ?_)
    have k11 : I8 46 11 = nI (tp t) := (k2 11 (by decide)).trans g2
    have k9 : I8 46 9 = nI 0 := (k2 9 (by decide)).trans g3
    -- the loop over the places
    have loop : ∀ (I9 : MI) (cb : Nat → Nat), (∀ c, c ≠ 48 → I9 c = I8 c) → (∀ q, q ≤ tp t → I9 48 q = nI (cb q) ∧ cb q < 32 ∧ ((cb q).testBit 4 = true ↔ q = tp t ∧ 0 < tp t) ∧ ∀ a, a < 4 → (cb q).testBit a = false) → P_X4_lay_79 Q I9 (mJ J 47 (tp t) (lN (pk (seB t) 8))) := by
      intro I9 cb n1 n2
      have n11 : I9 46 11 = nI (tp t) := by rw [n1 46 (by decide)]; exact k11
      show lpx (P_X4_lay_84 Q) (I9 46 11, I9, _)
      rw [n11]
      refine lpx_up (fun i z => ∃ (I2 : MI) (J2 : MJ) (cb : Nat → Nat) (m : Nat) (od : Nat → Nat), z = (nI (tp t - i), I2, J2) ∧ (∀ c, c ≠ 46 → c ≠ 48 → c ≠ 49 → c ≠ 50 → c ≠ 51 → c ≠ 52 → I2 c = I c) ∧ (∀ c, c ≠ 47 → J2 c = J c) ∧ I2 46 11 = nI (tp t) ∧ I2 46 10 = nI us ∧ (∀ w, w < hoW h → okB t w = true → fitP h t (tp t) w → I2 52 w = nI (pr h t w)) ∧ (∀ q, q ≤ tp t → I2 48 q = nI (cb q) ∧ cb q < 32 ∧ ((cb q).testBit 4 = true ↔ q = tp t ∧ 0 < tp t) ∧ ∀ a, a < 4 → ((cb q).testBit a = true ↔ Cm h t (tp t - i) q a)) ∧ (∀ q, (q = tp t ∨ ∃ a, Cm h t (tp t - i) q a) → J2 47 q = lN (pk (dg (seB t) q) 8)) ∧ (∀ q, tp t - i < q → q ≤ tp t → (∃ a, Rc h t q a) → ∃ f, I2 49 q = nI f ∧ f < 1024 ∧ ∀ w, w < hoW h → (f.testBit w = true ↔ Op h t q w)) ∧ I2 46 9 = nI m ∧ m ≤ i ∧ (∀ j, j < m → I2 50 j = nI (od j) ∧ tp t - i < od j ∧ od j ≤ tp t ∧ ∃ a, Rc h t (od j) a) ∧ (∀ i j, i < j → j < m → od j < od i) ∧ ∀ q, tp t - i < q → q ≤ tp t → (∃ a, Rc h t q a) → ∃ j, j < m ∧ od j = q) (tp t) ?_ ?_ 0 _ (Nat.zero_le _) ⟨I9, _, cb, 0, fun _ => 0, rfl, fun c c1 c2 c3 c4 c5 c6 => (n1 c c2).trans ((k1 c c1 c6).trans (g1 c c1 c2 c5)), fun c hc => wJ_n _ hc _, n11, by rw [n1 46 (by decide)]; exact k3, fun w hw q1 q2 => by rw [n1 52 (by decide)]; exact k6 w hw q1 q2, fun q hq => ⟨(n2 q hq).1, (n2 q hq).2.1, (n2 q hq).2.2.1, fun a ha => ⟨fun e => absurd (((n2 q hq).2.2.2 a ha).symm.trans e) (by decide), fun e => absurd e (Cm_top h1)⟩⟩, fun q hq => ?_, fun q c1 c2 => by omega, by rw [n1 46 (by decide)]; exact k9, Nat.le_refl 0, fun j hj => absurd hj (Nat.not_lt_zero j), fun i j _ hj => absurd hj (Nat.not_lt_zero j), fun q c1 c2 => by omega⟩
      · rintro z k ⟨I2, J2, cb, m, od, rfl, a1, a2, a3, a4, a5, a6, a7, a8, a9, b1, b2, b3, b4⟩
        rw [Nat.sub_self] at a6 a7 a8 b2 b4 ⊢
        refine pk_le 0 0 (fun _ => hQ I2 J2 a1 a2 ⟨a3, a5, fun q hq => ⟨cb q, (a6 q hq).1, (a6 q hq).2.1, (a6 q hq).2.2.1, fun a ha => ?_⟩, a8, m, od, a9, b1, b2, b3, b4⟩) (fun c => by omega)
        rw [(a6 q hq).2.2.2 a ha]; exact Cm_Rc h1 (Nat.zero_le _) ha
      · rintro i z k hi ⟨I2, J2, cb, m, od, rfl, a1, a2, a3, a4, a5, a6, a7, a8, a9, b1, b2, b3, b4⟩ hk
        obtain ⟨p, hpe⟩ : ∃ p, tp t - i = p + 1 := ⟨tp t - i - 1, by omega⟩
        have hpn : tp t - (i + 1) = p := by omega
        rw [hpe] at a6 a7 a8 b2 b4 ⊢
        rw [hpn] at hk
        have hpt : p + 1 ≤ tp t := by omega
        have hpc : (nI (p + 1)).toNatClampNeg = p + 1 := nI_clamp (by omega)
        have hvp : vp_in (nI (p + 1)) 1944 := vp_in_nI (by omega) (by decide)
        have hre : ∀ a, a < 4 → ((cb (p + 1)).testBit a = true ↔ Rc h t (p + 1) a) := fun a ha => by rw [(a6 (p + 1) hpt).2.2.2 a ha]; exact Cm_Rc h1 (Nat.le_refl _) ha
        have h16 : (cb (p + 1)).testBit 4 = true ↔ p + 1 = tp t := by rw [(a6 (p + 1) hpt).2.2.1]; exact ⟨fun q => q.1, fun q => ⟨q, by omega⟩⟩
        have e1 : nI (p + 1) + (-1) = nI p := pk_m1 p
        refine pk_le (p + 1) 0 (fun c => by omega) (fun _ => ⟨hvp, ?_⟩)
        rw [hpc, (a6 (p + 1) hpt).1]
        have hcl := (a6 (p + 1) hpt).2.1
        refine ⟨fun c => ?_, fun c => ⟨?_, ?_⟩⟩
        · have hz : cb (p + 1) = 0 := (nI_eq (b := 0) (by omega) (by decide)).mp c
          have hno : ∀ a, ¬ Rc h t (p + 1) a := fun a hr => by
            rcases Rc_le h1 hr with ⟨g1, g2⟩ | ⟨g1, g2⟩
            · have := h16.mpr g2; rw [hz] at this; exact absurd this (by simp)
            · have := (hre a g1).mpr hr; rw [hz] at this; exact absurd this (by simp)
          have hcm : ∀ q a, Cm h t p q a ↔ Cm h t (p + 1) q a := fun q a => by
            rw [Cm_step]
            exact ⟨fun x => x.elim id (fun ⟨w, _, ⟨a2, hr, _⟩, _⟩ => absurd hr (hno a2)), Or.inl⟩
          show k (nI (p + 1) + (-1), I2, J2)
          rw [e1]
          refine hk _ ⟨I2, J2, cb, m, od, rfl, a1, a2, a3, a4, a5, fun q hq => ⟨(a6 q hq).1, (a6 q hq).2.1, (a6 q hq).2.2.1, fun a ha => by rw [(a6 q hq).2.2.2 a ha, hcm]⟩, fun q hq => a7 q (hq.elim Or.inl (fun ⟨a, x⟩ => Or.inr ⟨a, (hcm q a).mp x⟩)), fun q c1 c2 c3 => a8 q ?_ c2 c3, a9, by omega, fun j hj => ⟨(b2 j hj).1, by have := (b2 j hj).2.1; omega, (b2 j hj).2.2⟩, b3, fun q c1 c2 c3 => b4 q ?_ c2 c3⟩
          · obtain ⟨a, ha⟩ := c3
            rcases Nat.lt_or_ge (p + 1) q with r | r
            · exact r
            · rw [show q = p + 1 by omega] at ha; exact absurd ha (hno a)
          · obtain ⟨a, ha⟩ := c3
            rcases Nat.lt_or_ge (p + 1) q with r | r
            · exact r
            · rw [show q = p + 1 by omega] at ha; exact absurd ha (hno a)
        · rw [a9]; exact vp_in_nI (by omega) (by decide)
        · rintro I106 rfl I114 rfl
          have hyes : ∃ a, Rc h t (p + 1) a := by
            have hz : cb (p + 1) ≠ 0 := fun e => c (by rw [e]; rfl)
            rcases Bool.eq_false_or_eq_true ((cb (p + 1)).testBit 4) with g | g
            · exact ⟨4, by rw [h16.mp g]; exact Rc_top h t⟩
            · apply Classical.byContradiction; intro hno
              apply hz
              apply Nat.eq_of_testBit_eq
              intro j
              rw [Nat.zero_testBit]
              rcases Nat.lt_or_ge j 4 with r | r
              · cases hj : (cb (p + 1)).testBit j with
                | false => rfl
                | true => exact absurd ⟨j, (hre j r).mp hj⟩ hno
              · rcases Nat.lt_or_ge j 5 with r2 | r2
                · rw [show j = 4 by omega]; exact g
                · exact Nat.testBit_lt_two_pow (Nat.lt_of_lt_of_le hcl (show 2 ^ 5 ≤ 2 ^ j from Nat.pow_le_pow_right (by decide) r2))
          have e50 : (nI m).toNatClampNeg = m := nI_clamp (by omega)
          rw [a9, e50]
          refine pe_spread (cb := cb) (us := us) h1 h2 ⟨(by rw [show I 12 4 = nI (hoW h) from hC.1] : I 12 4 = nI (hoW h)) ▸ (congrFun (a1 12 (by decide) (by decide) (by decide) (by decide) (by decide) (by decide)) 4), fun u hu => ?_, fun u hu => ?_⟩ ?_ ?_ ?_ a4 k4 k5 a5 (by omega) hpt (fun q hq => ⟨(a6 q hq).1, (a6 q hq).2.1⟩) hre h16 (a7 _ ?_) (fun I3 J3 cb3 m1 m2 m3 m4 m5 m6 m7 => ?_)
          · show I2 13 u = _
            rw [a1 13 (by decide) (by decide) (by decide) (by decide) (by decide) (by decide)]; exact hC.2.1 u hu
          · rw [a2 15 (by decide)]; exact hC.2.2 u hu
          · show I2 17 3 = _
            rw [a1 17 (by decide) (by decide) (by decide) (by decide) (by decide) (by decide)]; exact s4
          · show I2 17 4 = _
            rw [a1 17 (by decide) (by decide) (by decide) (by decide) (by decide) (by decide)]; exact s5
          · intro a ha
            show I2 20 a = _
            rw [a1 20 (by decide) (by decide) (by decide) (by decide) (by decide) (by decide)]; exact s3 a ha
          · obtain ⟨a, ha⟩ := hyes
            rcases Rc_le h1 ha with ⟨g1, g2⟩ | ⟨g1, g2⟩
            · exact Or.inl g2
            · exact Or.inr ⟨a, (Cm_Rc h1 (Nat.le_refl _) g1).mpr ha⟩
          · show k (nI (p + 1) + (-1), I3, J3)
            rw [e1]
            have fr46 : ∀ j, j ≠ 9 → I3 46 j = I2 46 j := fun j hj => by
              rw [m1 46 (by decide) (by decide)]; exact upd_n (f := I2 46) hj
            have fr46b : I3 46 9 = nI (m + 1) := by
              rw [m1 46 (by decide) (by decide)]
              show I2 46 9 + 1 = _
              rw [a9, nI_1]
            have fr50 : I3 50 = upd (I2 50) m (nI (p + 1)) := m1 50 (by decide) (by decide)
            refine hk _ ⟨I3, J3, cb3, m + 1, fun j => if j = m then p + 1 else od j, rfl, fun c c1 c2 c3 c4 c5 c6 => (m1 c c2 c3).trans ((wI_n _ c1 _).trans ((wI_n _ c4 _).trans (a1 c c1 c2 c3 c4 c5 c6))), fun c hc => (m2 c hc).trans (a2 c hc), (fr46 11 (by decide)).trans a3, (fr46 10 (by decide)).trans a4, fun w hw q1 q2 => ?_, fun q hq => ⟨(m3 q hq).1, (m3 q hq).2.1, ?_, fun a ha => ?_⟩, fun q hq => ?_, fun q c1 c2 c3 => ?_, fr46b, by omega, fun j hj => ?_, fun i j c1 c2 => ?_, fun q c1 c2 c3 => ?_⟩
            · rw [m1 52 (by decide) (by decide)]; exact a5 w hw q1 q2
            · rw [(m3 q hq).2.2.1]; exact (a6 q hq).2.2.1
            · rw [(m3 q hq).2.2.2 a ha, (a6 q hq).2.2.2 a ha]; exact Cm_step.symm
            · rcases hq with rfl | ⟨a, ha⟩
              · rcases m6 (tp t) with r | r
                · rw [r]; exact a7 _ (Or.inl rfl)
                · exact r
              · rcases Cm_step.mp ha with r | ⟨w, hw, ho, rfl, _⟩
                · rcases m6 q with r2 | r2
                  · rw [r2]; exact a7 _ (Or.inr ⟨a, r⟩)
                  · exact r2
                · exact m7 w hw ho
            · by_cases hqp : q = p + 1
              · subst hqp; exact m5
              · obtain ⟨f, r1, r2⟩ := a8 q (by omega) c2 c3
                exact ⟨f, (m4 q hqp).trans r1, r2⟩
            · rw [fr50]
              by_cases hjm : j = m
              · subst hjm
                refine ⟨?_, ?_, ?_, ?_⟩
                · show upd (I2 50) j (nI (p + 1)) j = nI (if j = j then p + 1 else od j); rw [upd_s rfl, if_pos rfl]
                · show p < (if j = j then p + 1 else od j); rw [if_pos rfl]; omega
                · show (if j = j then p + 1 else od j) ≤ tp t; rw [if_pos rfl]; exact hpt
                · show ∃ a, Rc h t (if j = j then p + 1 else od j) a; rw [if_pos rfl]; exact hyes
              · obtain ⟨r1, r2, r3, r4⟩ := b2 j (by omega)
                refine ⟨?_, ?_, ?_, ?_⟩
                · show upd (I2 50) m (nI (p + 1)) j = nI (if j = m then p + 1 else od j); rw [upd_n hjm, if_neg hjm]; exact r1
                · show p < (if j = m then p + 1 else od j); rw [if_neg hjm]; omega
                · show (if j = m then p + 1 else od j) ≤ tp t; rw [if_neg hjm]; exact r3
                · show ∃ a, Rc h t (if j = m then p + 1 else od j) a; rw [if_neg hjm]; exact r4
            · show (if j = m then p + 1 else od j) < (if i = m then p + 1 else od i)
              by_cases hjm : j = m
              · rw [if_pos hjm, if_neg (by omega)]
                exact (b2 i (by omega)).2.1
              · rw [if_neg hjm, if_neg (by omega)]; exact b3 i j c1 (by omega)
            · by_cases hqp : q = p + 1
              · exact ⟨m, by omega, by show (if m = m then p + 1 else od m) = q; rw [if_pos rfl, hqp]⟩
              · obtain ⟨j, r1, r2⟩ := b4 q (by omega) c2 c3
                exact ⟨j, by omega, by show (if j = m then p + 1 else od j) = q; rw [if_neg (by omega)]; exact r2⟩
      · have hq2 : q = tp t := hq.elim id (fun ⟨a, x⟩ => absurd x (Cm_top h1))
        rw [hq2]
        show vp_updL (J 47) (tp t) _ (tp t) = _
        rw [pk_uLs]
        congr 1
        exact pkk_congr (fun l hl => (dg_top (b := seB t) 8 hl).symm)
    refine ⟨fun c => ?_, fun c => ⟨?_, ?_⟩⟩
    · rw [k11, pos_nI (by omega)] at c
      refine loop I8 (fun _ => 0) (fun _ _ => rfl) (fun q hq => ⟨?_, by decide, ⟨fun e => absurd e (by simp), fun e => by omega⟩, fun a _ => by simp⟩)
      rw [k1 48 (by decide) (by decide)]; exact g5 q hq
    · rw [k11]; exact hvt
    · rw [k11, pos_nI (by omega)] at c
      rintro I78 rfl
      rw [k11, nI_clamp (by omega)]
      refine loop _ (fun q => if q = tp t then 16 else 0) (fun c hc => wI_n _ hc _) (fun q hq => ?_)
      by_cases hqt : q = tp t
      · refine ⟨?_, ?_, ?_, fun a ha => ?_⟩
        · show upd (I8 48) (tp t) 16 q = nI (if q = tp t then 16 else 0)
          rw [upd_s hqt, if_pos hqt]; rfl
        · show (if q = tp t then 16 else 0) < 32; rw [if_pos hqt]; decide
        · show (if q = tp t then 16 else 0).testBit 4 = true ↔ _; rw [if_pos hqt]; exact ⟨fun _ => ⟨hqt, by omega⟩, fun _ => by decide⟩
        · show (if q = tp t then 16 else 0).testBit a = false; rw [if_pos hqt]
          rcases (show a = 0 ∨ a = 1 ∨ a = 2 ∨ a = 3 by omega) with rfl | rfl | rfl | rfl <;> decide
      · refine ⟨?_, ?_, ?_, fun a ha => ?_⟩
        · show upd (I8 48) (tp t) 16 q = nI (if q = tp t then 16 else 0)
          rw [upd_n hqt, if_neg hqt, k1 48 (by decide) (by decide)]; exact g5 q hq
        · show (if q = tp t then 16 else 0) < 32; rw [if_neg hqt]; decide
        · show (if q = tp t then 16 else 0).testBit 4 = true ↔ _; rw [if_neg hqt]; exact ⟨fun e => absurd e (by simp), fun e => absurd e.1 hqt⟩
        · show (if q = tp t then 16 else 0).testBit a = false; rw [if_neg hqt]; simp
  refine lpx_up (fun i z => ∃ I' : MI, z = (nI i, I', J) ∧ (∀ c, c ≠ 48 → I' c = mI I1 46 9 0 c) ∧ ∀ q, q < i → I' 48 q = 0) (tp t + 1) ?_ ?_ 0 _ (Nat.zero_le _) ⟨_, rfl, fun _ _ => rfl, fun q hq => absurd hq (Nat.not_lt_zero q)⟩
  · rintro z k ⟨I', rfl, g1, g2⟩
    have e11 : I' 46 11 = nI (tp t) := by rw [g1 46 (by decide)]; exact f3
    refine pk_lt (tp t) (tp t + 1) (fun _ => main I' (fun c c1 c2 c3 => (g1 c c2).trans ((wI_n _ c1 _).trans (f1 c c1 c3))) e11 (by rw [g1 46 (by decide)]; rfl) (fun l hl => by rw [g1 51 (by decide)]; exact f4 l hl) (fun q hq => g2 q (by omega))) (fun c => by omega) e11
  · rintro i z k hi ⟨I', rfl, g1, g2⟩ hk
    have e11 : I' 46 11 = nI (tp t) := by rw [g1 46 (by decide)]; exact f3
    refine pk_lt (tp t) i (fun c => by omega) (fun _ => ⟨vp_in_nI (by omega) (by decide), ?_⟩) e11
    rintro I25 rfl
    rw [nI_1, nI_clamp (by omega)]
    refine hk _ ⟨_, rfl, fun c hc => (wI_n _ hc _).trans (g1 c hc), fun q hq => ?_⟩
    show upd (I' 48) i 0 q = 0
    by_cases hqi : q = i
    · rw [upd_s hqi]
    · rw [upd_n hqi]; exact g2 q (by omega)
