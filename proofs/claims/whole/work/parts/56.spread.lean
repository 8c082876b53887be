theorem and16b {c : Nat} (hc : c < 32) : nI c &&& (16 : Int32) = 0 ↔ c.testBit 4 = false := by
  have h : ∀ c : Fin 32, nI c.val &&& (16 : Int32) = 0 ↔ c.val.testBit 4 = false := by decide
  exact h ⟨c, hc⟩
theorem pe_letBehind {h : Ho} {t : Se} {c : Nat} {I : MI} {J : MJ} {Q : Int32 → MI → MJ → Prop} (h2 : seO h t) (hc : c < 32) (hG : I 17 3 = nI (seG t)) (hF : ∀ a, a < 4 → I 20 a = nI (seF t a))
    (hQ : ∀ m, m < 16 → (∀ k, m.testBit k = true ↔ (c.testBit 4 = true ∧ (seG t).testBit k = true) ∨ (c.testBit 4 = false ∧ ∃ a, a < 4 ∧ c.testBit a = true ∧ (seF t a).testBit k = true)) → Q (nI m) I J) : P_X4_letBehind (nI c) I J Q := by
  refine ⟨fun e => ?_, fun e => ?_⟩
  · rw [and16b hc] at e
    refine lpx_up (fun i z => ∃ m, z = (nI c, nI m, nI i, I, J) ∧ m < 16 ∧ ∀ k, m.testBit k = true ↔ ∃ a, a < i ∧ c.testBit a = true ∧ (seF t a).testBit k = true) 4 ?_ ?_ 0 _ (Nat.zero_le _) ⟨0, rfl, by decide, fun k => ⟨fun q => absurd q (by simp), fun ⟨a, ha, _⟩ => absurd ha (Nat.not_lt_zero a)⟩⟩
    · rintro z k ⟨m, rfl, hm, hb⟩
      refine pk_le 4 4 (fun _ => hQ m hm (fun k => ?_)) (fun c => by omega)
      rw [hb k]
      exact ⟨fun q => Or.inr ⟨e, q⟩, fun q => q.elim (fun q => absurd (q.1.symm.trans e) (by decide)) (fun q => q.2)⟩
    · rintro i z k hi ⟨m, rfl, hm, hb⟩ hk
      refine pk_le 4 i (fun c => by omega) (fun _ => ⟨fun c2 => ?_, fun c2 => ⟨vp_in_nI hi (by decide), ?_⟩⟩)
      · rw [bitI0 (by omega) (by omega)] at c2
        show k (nI c, nI m, nI i + 1, I, J)
        rw [nI_1]
        refine hk _ ⟨m, rfl, hm, fun k => ?_⟩
        rw [hb k]
        refine ⟨fun ⟨a, ha, q⟩ => ⟨a, by omega, q⟩, fun ⟨a, ha, q⟩ => ⟨a, ?_, q⟩⟩
        rcases Nat.lt_or_ge a i with g | g
        · exact g
        · rw [show a = i by omega] at q; exact absurd (c2.symm.trans q.1) (by decide)
      · rw [bitI0 (by omega) (by omega)] at c2
        have hFi := h2.2.2.1 i hi
        show k (nI c, nI m ||| I 20 (nI i).toNatClampNeg, nI i + 1, I, J)
        rw [nI_1, nI_clamp (by omega), hF i hi, nI_or]
        refine hk _ ⟨m ||| seF t i, rfl, or_lt (n := 4) hm hFi, fun k => ?_⟩
        rw [Nat.testBit_or, Bool.or_eq_true, hb k]
        constructor
        · rintro (⟨a, ha, q⟩ | q)
          · exact ⟨a, by omega, q⟩
          · exact ⟨i, by omega, by simpa using c2, q⟩
        · rintro ⟨a, ha, q⟩
          rcases Nat.lt_or_ge a i with g | g
          · exact Or.inl ⟨a, g, q⟩
          · rw [show a = i by omega] at q; exact Or.inr q.2
  · rw [and16b hc] at e
    have e4 : c.testBit 4 = true := by simpa using e
    rw [hG]
    exact hQ _ h2.2.2.2.1 (fun k => ⟨fun q => Or.inl ⟨e4, q⟩, fun q => q.elim (fun q => q.2) (fun q => absurd (q.1.symm.trans e4) (by decide))⟩)
theorem pe_spread {h : Ho} {t : Se} {p us : Nat} {cb : Nat → Nat} {I : MI} {J : MJ} {Q : MI → MJ → Prop} (h1 : hoOK h) (h2 : seO h t) (hC : lexC I J h) (hG : I 17 3 = nI (seG t)) (hE : I 17 4 = nI (seE t)) (hF : ∀ a, a < 4 → I 20 a = nI (seF t a))
    (hus : I 46 10 = nI us) (hus2 : us < 1024) (hub : ∀ w, w < hoW h → (us.testBit w = true ↔ okB t w = true ∧ fitP h t (tp t) w)) (hst : ∀ w, w < hoW h → okB t w = true → fitP h t (tp t) w → I 52 w = nI (pr h t w))
    (hp0 : 0 < p) (hp : p ≤ tp t) (hcb : ∀ q, q ≤ tp t → I 48 q = nI (cb q) ∧ cb q < 32) (hre : ∀ a, a < 4 → ((cb p).testBit a = true ↔ Rc h t p a)) (h16 : (cb p).testBit 4 = true ↔ p = tp t) (hpk : J 47 p = lN (pk (dg (seB t) p) 8))
    (hQ : ∀ (I' : MI) (J' : MJ) (cb' : Nat → Nat), (∀ c, c ≠ 48 → c ≠ 49 → I' c = I c) → (∀ c, c ≠ 47 → J' c = J c) → (∀ q, q ≤ tp t → I' 48 q = nI (cb' q) ∧ cb' q < 32 ∧ (cb' q).testBit 4 = (cb q).testBit 4 ∧ ∀ a, a < 4 → ((cb' q).testBit a = true ↔ (cb q).testBit a = true ∨ ∃ w, w < hoW h ∧ Op h t p w ∧ q = p - pr h t w ∧ a = hoK h w)) → (∀ q, q ≠ p → I' 49 q = I 49 q) → (∃ f, I' 49 p = nI f ∧ f < 1024 ∧ ∀ w, w < hoW h → (f.testBit w = true ↔ Op h t p w)) → (∀ q, J' 47 q = J 47 q ∨ J' 47 q = lN (pk (dg (seB t) q) 8)) → (∀ w, w < hoW h → Op h t p w → J' 47 (p - pr h t w) = lN (pk (dg (seB t) (p - pr h t w)) 8)) → Q I' J') : P_X4_spread (nI p) I J Q := by
  have hw10 := h1.1
  have htp := tp_1944 h2
  have hb13 : ∀ l, l < 8 → seB t l ≤ 13 := fun l hl => Nat.le_trans (sm_le _ hl) h2.1
  have hpc : (nI p).toNatClampNeg = p := nI_clamp (by omega)
  have hvp : vp_in (nI p) 1944 := vp_in_nI (by omega) (by decide)
  refine ⟨hvp, ?_⟩
  rw [hpc, (hcb p hp).1]
  refine pe_letBehind h2 (hcb p hp).2 hG hF (fun m hm hmb => ?_)
  -- the kinds let are those let behind a kind by which the place is come to
  have hlet : ∀ k, m.testBit k = true ↔ ∃ a, Rc h t p a ∧ (msk t a).testBit k = true := by
    intro k
    rw [hmb k]
    constructor
    · rintro (⟨c4, q⟩ | ⟨c4, a, ha, ca, q⟩)
      · refine ⟨4, ?_, by unfold msk; rw [if_pos rfl]; exact q⟩
        rw [h16.mp c4]; exact Rc_top h t
      · exact ⟨a, (hre a ha).mp ca, by unfold msk; rw [if_neg (by omega)]; exact q⟩
    · rintro ⟨a, hr, q⟩
      rcases Rc_le h1 hr with ⟨g1, g2⟩ | ⟨g1, g2⟩
      · subst g1
        unfold msk at q; rw [if_pos rfl] at q
        exact Or.inl ⟨h16.mpr g2, q⟩
      · unfold msk at q; rw [if_neg (by omega)] at q
        refine Or.inr ⟨?_, a, g1, (hre a g1).mpr hr, q⟩
        cases hc4 : (cb p).testBit 4 with
        | false => rfl
        | true => have := h16.mp hc4; omega
  refine lpx_up (fun i z => ∃ (I2 : MI) (J2 : MJ) (cb2 : Nat → Nat) (f : Nat), z = (nI p, nI m, nI f, nI i, I2, J2) ∧ f < 1024 ∧ (∀ w, w < 10 → (f.testBit w = true ↔ w < i ∧ Op h t p w)) ∧ (∀ c, c ≠ 48 → I2 c = I c) ∧ (∀ c, c ≠ 47 → J2 c = J c) ∧ (∀ q, q ≤ tp t → I2 48 q = nI (cb2 q) ∧ cb2 q < 32 ∧ (cb2 q).testBit 4 = (cb q).testBit 4 ∧ ∀ a, a < 4 → ((cb2 q).testBit a = true ↔ (cb q).testBit a = true ∨ ∃ w, w < i ∧ Op h t p w ∧ q = p - pr h t w ∧ a = hoK h w)) ∧ (∀ q, J2 47 q = J 47 q ∨ J2 47 q = lN (pk (dg (seB t) q) 8)) ∧ ∀ w, w < i → Op h t p w → J2 47 (p - pr h t w) = lN (pk (dg (seB t) (p - pr h t w)) 8)) (hoW h) ?_ ?_ 0 _ (Nat.zero_le _) ⟨I, J, cb, 0, rfl, by decide, fun w _ => ⟨fun q => absurd q (by simp), fun q => absurd q.1 (Nat.not_lt_zero w)⟩, fun _ _ => rfl, fun _ _ => rfl, fun q hq => ⟨(hcb q hq).1, (hcb q hq).2, rfl, fun a _ => ⟨fun q => Or.inl q, fun q => q.elim id (fun ⟨w, hw, _⟩ => absurd hw (Nat.not_lt_zero w))⟩⟩, fun q => Or.inl rfl, fun w hw => absurd hw (Nat.not_lt_zero w)⟩
  · rintro z k ⟨I2, J2, cb2, f, rfl, hf, hfb, g1, g2, g3, g4, g5⟩
    have hn : I2 12 4 = nI (hoW h) := by rw [g1 12 (by decide)]; exact hC.1
    refine pk_le (hoW h) (hoW h) (fun _ => ⟨hvp, ?_⟩) (fun c => by omega) hn
    rintro I3 rfl
    rw [hpc]
    refine hQ _ J2 cb2 (fun c c1 c2 => (wI_n _ c2 _).trans (g1 c c1)) g2 g3 (fun q hq => ?_) ⟨f, upd_s (f := I2 49) rfl, hf, fun w hw => ?_⟩ g4 g5
    · exact (upd_n (f := I2 49) hq).trans (by rw [g1 49 (by decide)])
    · rw [hfb w (by omega)]; exact ⟨fun q => q.2, fun q => ⟨hw, q⟩⟩
  · rintro u z k hu ⟨I2, J2, cb2, f, rfl, hf, hfb, g1, g2, g3, g4, g5⟩ hk
    have hn : I2 12 4 = nI (hoW h) := by rw [g1 12 (by decide)]; exact hC.1
    have hcl : (nI u).toNatClampNeg = u := nI_clamp (by omega)
    have hv10 : vp_in (nI u) 10 := vp_in_nI (by omega) (by decide)
    have eus : I2 46 10 = nI us := by rw [g1 46 (by decide)]; exact hus
    have eK : I2 13 (nI u).toNatClampNeg = nI (hoK h u) := by rw [hcl, g1 13 (by decide)]; exact hC.2.1 u hu
    have eE : I2 17 4 = nI (seE t) := by rw [g1 17 (by decide)]; exact hE
    have eP : J2 15 (nI u).toNatClampNeg = lN (pk (nd h u) 8) := by rw [hcl, g2 15 (by decide)]; exact hC.2.2 u hu
    have hk4 := (h1.2 u hu).1
    have hEl := h2.2.2.2.2.1
    have e47 : J2 47 (nI p).toNatClampNeg = lN (pk (dg (seB t) p) 8) := by
      rw [hpc]; rcases g4 p with q | q
      · rw [q, hpk]
      · exact q
    have skip : ¬ Op h t p u → P_X4_spread_170 Q k (nI p) (nI m) (nI f) (nI u) I2 J2 := fun hno => by
      show k (nI p, nI m, nI f, nI u + 1, I2, J2)
      rw [nI_1]
      have key : ∀ w, w < u + 1 → Op h t p w → w < u := fun w hw ho => by
        rcases Nat.lt_or_ge w u with c | c
        · exact c
        · rw [show w = u by omega] at ho; exact absurd ho hno
      refine hk _ ⟨I2, J2, cb2, f, rfl, hf, fun w hw => ?_, g1, g2, fun q hq => ⟨(g3 q hq).1, (g3 q hq).2.1, (g3 q hq).2.2.1, fun a ha => ?_⟩, g4, fun w hw ho => g5 w (key w hw ho) ho⟩
      · rw [hfb w hw]; exact ⟨fun q => ⟨by omega, q.2⟩, fun q => ⟨key w q.1 q.2, q.2⟩⟩
      · rw [(g3 q hq).2.2.2 a ha]
        exact or_congr Iff.rfl ⟨fun ⟨w, hw, r⟩ => ⟨w, by omega, r⟩, fun ⟨w, hw, r⟩ => ⟨w, key w hw r.1, r⟩⟩
    refine pk_le (hoW h) u (fun c => by omega) (fun _ => ⟨hv10, ?_⟩) hn
    rw [eus, eK]
    refine ⟨fun c => skip ?_, fun c => ⟨fun c2 => skip ?_, fun c2 => ⟨hvp, hv10, ?_⟩⟩⟩
    · rw [bitI0 (by omega) (by omega)] at c
      intro ho
      have := (hub u hu).mpr ⟨(Op_fit ho).1, fit_up (Op_fit ho).2.1⟩
      exact absurd (c.symm.trans this) (by decide)
    · rw [bitI0 (by omega) (by omega)] at c2
      rintro ⟨a, hr, hm2, _⟩
      have := (hlet (hoK h u)).mpr ⟨a, hr, (may_iff.mp hm2).2.1⟩
      exact absurd (c2.symm.trans this) (by decide)
    · rw [bitI0 (by omega) (by omega)] at c c2
      have c' : us.testBit u = true := by simpa using c
      have c2' : m.testBit (hoK h u) = true := by simpa using c2
      obtain ⟨hok, hft⟩ := (hub u hu).mp c'
      obtain ⟨a, hra, hma⟩ := (hlet (hoK h u)).mp c2'
      rw [e47, eP]
      refine pe_holds (fun l hl => by have := hb13 l hl; have := dg_le (seB t) p l; omega) (fun l hl => by have := nd_le h1 hu l; omega) (fun hfit => ⟨fun _ => ⟨hv10, ?_⟩, fun e => absurd e no10⟩) (fun hfit => ⟨fun e => absurd rfl e, fun _ => skip (fun ho => hfit (Op_fit ho).2.1)⟩)
      obtain ⟨f1, f2, f3, f4⟩ := fit_step h1 hu hp hfit
      have e52 : nI p - I2 52 (nI u).toNatClampNeg = nI (p - pr h t u) := by
        rw [hcl, g1 52 (by decide), hst u hu hok hft, pk_sub f2]
      rw [e52, eE]
      have go : (p - pr h t u = 0 → (seE t).testBit (hoK h u) = true) → P_X4_spread_125 Q k (nI p) (nI m) (nI f) (nI u) (nI (hoK h u)) (nI (p - pr h t u)) I2 J2 := fun he => by
        have hop : Op h t p u := ⟨a, hra, may_iff.mpr ⟨hok, hma, hfit⟩, he⟩
        have hvn : vp_in (nI (p - pr h t u)) 1944 := vp_in_nI (by omega) (by decide)
        have hcn : (nI (p - pr h t u)).toNatClampNeg = p - pr h t u := nI_clamp (by omega)
        refine ⟨hvn, hvn, ?_⟩
        rintro I145 rfl
        refine ⟨hvp, hv10, hvn, ?_⟩
        rintro J169 rfl
        show k (nI p, nI m, nI f ||| (1 : Int32) <<< (nI u &&& 31), nI u + 1, _, _)
        have h2u : 2 ^ u < 1024 := pow_lt31 (n := 10) (by omega)
        have h2k : 2 ^ hoK h u < 32 := pow_lt31 (n := 5) (by omega)
        have hqn : p - pr h t u ≤ tp t := by omega
        rw [shlI (by omega), shlI (by omega), nI_or, nI_1, hcn, (g3 _ hqn).1, nI_or]
        have epk : J2 47 (nI p).toNatClampNeg - J2 15 (nI u).toNatClampNeg = lN (pk (dg (seB t) (p - pr h t u)) 8) := by
          have e9 := pkk_sub (f := dg (seB t) p) (g := nd h u) (n := 8) hfit
          rw [e47, eP, lN_sub (by omega)]
          congr 1
          have e10 : pk (dg (seB t) (p - pr h t u)) 8 = pk (fun l => dg (seB t) p l - nd h u l) 8 := pkk_congr (fun l hl => f3 l hl)
          rw [e10]; omega
        rw [epk]
        refine hk _ ⟨_, _, fun q => if q = p - pr h t u then cb2 q ||| 2 ^ hoK h u else cb2 q, f ||| 2 ^ u, rfl, or_lt (n := 10) hf h2u, fun w hw => ?_, fun c hc => (wI_n _ hc _).trans (g1 c hc), fun c hc => (wJ_n _ hc _).trans (g2 c hc), fun q hq => ?_, fun q => ?_, fun w hw ho => ?_⟩
        · rw [tb_or2, Bool.or_eq_true, decide_eq_true_iff, hfb w hw]
          constructor
          · rintro (q | q)
            · exact ⟨by omega, q.2⟩
            · subst q; exact ⟨by omega, hop⟩
          · rintro ⟨q1, q2⟩
            rcases Nat.lt_or_ge w u with r | r
            · exact Or.inl ⟨r, q2⟩
            · exact Or.inr (by omega)
        · obtain ⟨w1, w2, w3, w4⟩ := g3 q hq
          by_cases hqe : q = p - pr h t u
          · refine ⟨?_, ?_, ?_, fun a9 ha9 => ?_⟩
            · show upd (I2 48) (p - pr h t u) _ q = nI (if q = p - pr h t u then cb2 q ||| 2 ^ hoK h u else cb2 q)
              rw [if_pos hqe, upd_s hqe, ← hqe]
            · show (if q = p - pr h t u then cb2 q ||| 2 ^ hoK h u else cb2 q) < 32
              rw [if_pos hqe]; exact or_lt (n := 5) w2 h2k
            · show (if q = p - pr h t u then cb2 q ||| 2 ^ hoK h u else cb2 q).testBit 4 = _
              rw [if_pos hqe, tb_or2, decide_eq_false (show ¬ hoK h u = 4 by omega), Bool.or_false]; exact w3
            · show (if q = p - pr h t u then cb2 q ||| 2 ^ hoK h u else cb2 q).testBit a9 = true ↔ _
              rw [if_pos hqe, tb_or2, Bool.or_eq_true, decide_eq_true_iff, w4 a9 ha9]
              constructor
              · rintro ((r | ⟨w, hw, r⟩) | r)
                · exact Or.inl r
                · exact Or.inr ⟨w, by omega, r⟩
                · exact Or.inr ⟨u, by omega, hop, hqe, r.symm⟩
              · rintro (r | ⟨w, hw, r⟩)
                · exact Or.inl (Or.inl r)
                · rcases Nat.lt_or_ge w u with c9 | c9
                  · exact Or.inl (Or.inr ⟨w, c9, r⟩)
                  · rw [show w = u by omega] at r; exact Or.inr r.2.2.symm
          · refine ⟨?_, ?_, ?_, fun a9 ha9 => ?_⟩
            · show upd (I2 48) (p - pr h t u) _ q = nI (if q = p - pr h t u then cb2 q ||| 2 ^ hoK h u else cb2 q)
              rw [if_neg hqe, upd_n hqe]; exact w1
            · show (if q = p - pr h t u then cb2 q ||| 2 ^ hoK h u else cb2 q) < 32
              rw [if_neg hqe]; exact w2
            · show (if q = p - pr h t u then cb2 q ||| 2 ^ hoK h u else cb2 q).testBit 4 = _
              rw [if_neg hqe]; exact w3
            · show (if q = p - pr h t u then cb2 q ||| 2 ^ hoK h u else cb2 q).testBit a9 = true ↔ _
              rw [if_neg hqe, w4 a9 ha9]
              refine or_congr Iff.rfl ⟨fun ⟨w, hw, r⟩ => ⟨w, by omega, r⟩, fun ⟨w, hw, r⟩ => ⟨w, ?_, r⟩⟩
              rcases Nat.lt_or_ge w u with c9 | c9
              · exact c9
              · rw [show w = u by omega] at r; exact absurd r.2.1 hqe
        · show vp_updL (J2 47) (p - pr h t u) _ q = _ ∨ vp_updL (J2 47) (p - pr h t u) _ q = _
          by_cases hqe : q = p - pr h t u
          · rw [hqe, pk_uLs]; exact Or.inr rfl
          · rw [pk_uLn hqe]; exact g4 q
        · show vp_updL (J2 47) (p - pr h t u) _ (p - pr h t w) = _
          by_cases hqe : p - pr h t w = p - pr h t u
          · rw [hqe, pk_uLs]
          · rw [pk_uLn hqe]
            refine g5 w ?_ ho
            rcases Nat.lt_or_ge w u with c9 | c9
            · exact c9
            · rw [show w = u by omega] at hqe; exact absurd rfl hqe
      refine ⟨fun c3 => absurd c3 (nI_pos (by omega)), fun _ => ⟨fun c3 => go (fun e => absurd (by rw [e]; rfl) c3), fun c3 => ⟨fun c4 => go (fun _ => ?_), fun c4 => skip ?_⟩⟩⟩
      · rw [bitI0 (by omega) (by omega)] at c4; simpa using c4
      · rw [bitI0 (by omega) (by omega)] at c4
        intro ho
        have e0 : p - pr h t u = 0 := (nI_eq (b := 0) (by omega) (by decide)).mp c3
        exact absurd (c4.symm.trans ((Op_fit ho).2.2 e0)) (by decide)
