/-! ===== the number of a told phrase ===== -/
def pl (h : Ho) (t : Se) (r : Nat → Nat) : Nat → Nat
  | 0 => tp t
  | i + 1 => pl h t r i - pr h t (r i)
def ak (h : Ho) (r : Nat → Nat) (i : Nat) : Nat := if i = 0 then 4 else hoK h (r (i - 1))
def nb (h : Ho) (t : Se) (r : Nat → Nat) (i : Nat) : Nat := sm (fun j => sm (gw h t (pl h t r j) (ak h r j)) (r j)) i
theorem ak_msk {h : Ho} {t : Se} {r : Nat → Nat} {k i : Nat} (h1 : hoOK h) (hr : ∀ i, i < k → r i < hoW h) (hi : i ≤ k) : msk t (ak h r i) = mk h t r i ∧ ak h r i ≤ 4 := by
  unfold msk mk ak
  by_cases h0 : i = 0
  · rw [if_pos h0, if_pos rfl, if_pos h0]; exact ⟨rfl, Nat.le_refl 4⟩
  · rw [if_neg h0, if_neg h0]
    have := (h1.2 _ (hr (i - 1) (by omega))).1
    rw [if_neg (by omega)]; exact ⟨rfl, by omega⟩
theorem pl_ok {h : Ho} {t : Se} {r : Nat → Nat} {k : Nat} (h1 : hoOK h) (hr : ∀ i, i < k → r i < hoW h) (hp : ∀ j, j < k → PS h t r j) : ∀ i, i < k → Rc h t (pl h t r i) (ak h r i) ∧ 0 < pl h t r i ∧ pl h t r i ≤ tp t ∧ (∀ l, l < 8 → dg (seB t) (pl h t r i) l = lf h t r i l) ∧ may h t (okB t) (pl h t r i) (ak h r i) (r i) = true := by
  intro i
  have fin : ∀ i, i < k → pl h t r i ≤ tp t → (∀ l, l < 8 → dg (seB t) (pl h t r i) l = lf h t r i l) → 0 < pl h t r i ∧ may h t (okB t) (pl h t r i) (ak h r i) (r i) = true := fun i hi hle hd => by
    obtain ⟨p1, p2, p3⟩ := hp i hi
    have hf : fitP h t (pl h t r i) (r i) := fun l hl => by rw [hd l hl]; exact p3 l hl
    have hs := fit_step h1 (hr i hi) hle hf
    refine ⟨by omega, may_iff.mpr ⟨by unfold okB; rw [p1]; rfl, ?_, hf⟩⟩
    rw [(ak_msk h1 hr (Nat.le_of_lt hi)).1]; exact p2
  induction i with
  | zero =>
    intro hi
    have hd : ∀ l, l < 8 → dg (seB t) (tp t) l = lf h t r 0 l := fun l hl => by
      rw [show dg (seB t) (tp t) l = seB t l from dg_top 8 hl]; rfl
    obtain ⟨q1, q2⟩ := fin 0 hi (Nat.le_refl _) hd
    exact ⟨Rc_top h t, q1, Nat.le_refl _, hd, q2⟩
  | succ i ih =>
    intro hi
    obtain ⟨e1, e2, e3, e4, e5⟩ := ih (by omega)
    have hf := (may_iff.mp e5).2.2
    obtain ⟨f1, f2, f3, f4⟩ := fit_step h1 (hr i (by omega)) e3 hf
    have hd : ∀ l, l < 8 → dg (seB t) (pl h t r (i + 1)) l = lf h t r (i + 1) l := fun l hl => by
      rw [lf_s, ← e4 l hl]; exact f3 l hl
    have hle : pl h t r (i + 1) ≤ tp t := by show pl h t r i - pr h t (r i) ≤ _; omega
    obtain ⟨q1, q2⟩ := fin (i + 1) hi hle hd
    refine ⟨?_, q1, hle, hd, q2⟩
    have ea : ak h r (i + 1) = hoK h (r i) := rfl
    rw [ea]
    exact Op_Rc e2 (hr i (by omega)) ⟨_, e1, e5, fun e => absurd e (by have : 0 < pl h t r i - pr h t (r i) := q1; omega)⟩
theorem pe_numberOf {h : Ho} {t : Se} {r : Nat → Nat} {k : Nat} {I : MI} {J : MJ} {Q : Int64 → MI → MJ → Prop} (h1 : hoOK h) (h2 : seOK h t) (hk : k ≤ 12) (hx : rowX I J h t r k) (hS : I 39 12 = 0 ∨ Ph I J h t) (hp : ∀ j, j < k → PS h t r j)
    (hQ : ∀ (I' : MI) (J' : MJ), frR I I' J J' → Ph I' J' h t → Q (lN (nb h t r k)) I' J') : P_X6_numberOf (nI k) I J Q := by
  have hw10 := h1.1
  have htp := tp_1296 h2
  obtain ⟨q1, q2, q3, q4, q5⟩ := id hx
  have hr : ∀ i, i < k → r i < hoW h := fun i hi => (q5 i hi).1
  refine pe_refresh h1 h2 q1 hS (fun I1 J1 f1 p1 => ?_)
  have hX1 := CX_N q1 (frR_N f1)
  have e61 : I1 61 = I 61 := (frR_C f1).1 61 (by decide)
  rw [p1.1.1, hX1.2.2.2.2.1]
  refine lpx_up (fun i z => z = (nI k, nI (pl h t r i), nI (msk t (ak h r i)), lN (nb h t r i), nI i, I1, J1)) k ?_ ?_ 0 _ (Nat.zero_le _) rfl
  · rintro z kk rfl
    exact pk_le k k (fun _ => hQ I1 J1 f1 p1) (fun c => by omega)
  · rintro i z kk hi rfl hkk
    obtain ⟨e1, e2, e3, e4, e5⟩ := pl_ok h1 hr hp i hi
    obtain ⟨m1, m2, m3⟩ := may_iff.mp e5
    obtain ⟨s1, s2, s3, s4⟩ := fit_step h1 (hr i hi) e3 m3
    have hri := hr i hi
    have hk4 := (h1.2 _ hri).1
    have ei : I1 61 i = nI (r i) := by rw [e61]; exact (q5 i hi).2
    refine pk_le k i (fun c => by omega) (fun _ => ?_)
    refine lpx_up (fun u z => z = (nI k, nI (pl h t r i), nI (msk t (ak h r i)), lN (nb h t r i + sm (gw h t (pl h t r i) (ak h r i)) u), nI i, nI u, I1, J1)) (r i) ?_ ?_ 0 _ (Nat.zero_le _) rfl
    · rintro z k2 rfl
      have hv12 : vp_in (nI i) 12 := vp_in_nI (by omega) (by decide)
      have hv10 : vp_in (nI (r i)) 10 := vp_in_nI (by omega) (by decide)
      refine ⟨hv12, ?_⟩
      rw [nI_clamp (by omega), ei]
      refine pk_le (r i) (r i) (fun _ => ⟨hv12, hv10, hv12, hv10, ?_⟩) (fun c => by omega)
      rw [nI_clamp (by omega), hX1.1.2.1 _ hri]
      refine ⟨vp_in_nI hk4 (by decide), ?_⟩
      rw [nI_clamp (by omega), p1.1.2.1 _ hri m1 (fit_up m3), pk_sub s2, hX1.2.2.2.1 _ hk4, nI_1]
      have ek : msk t (ak h r (i + 1)) = seF t (hoK h (r i)) := by
        show msk t (hoK h (r i)) = _
        unfold msk; rw [if_neg (by omega)]
      rw [← ek]
      exact hkk _ rfl
    · rintro u z k2 hu rfl hk2
      refine ⟨vp_in_nI (by omega) (by decide), ?_⟩
      rw [nI_clamp (by omega), ei]
      refine pk_le (r i) u (fun c => by omega) (fun _ => ?_)
      refine pe_waysBy h1 h2 hX1.1 p1 e2 e1 (by omega) ?_
      rw [lN_add, nI_1]
      refine hk2 _ ?_
      have : sm (gw h t (pl h t r i) (ak h r i)) (u + 1) = sm (gw h t (pl h t r i) (ak h r i)) u + gw h t (pl h t r i) (ak h r i) u := rfl
      rw [this, Nat.add_assoc]
theorem s_number : st_number Sim := by
  intro I J A B hs
  obtain ⟨h, t, hH⟩ := Sim_H.mp hs
  obtain ⟨h1, h2, h3, h4, h5, h6, h7, h8, h9, h10, h11, h12, h13, h14, h15⟩ := id hH
  obtain ⟨k, r, hk, hx, hn⟩ := row_of hH
  obtain ⟨c, a, x, m, hr⟩ := Rs_ex (h := h) (t := t) (r := r) (k := k)
  have hw10 := h1.1
  have htp := tp_1296 h2
  refine pe_examine h1 h2 hk hx hr (fun I1 f1 y0 y1 y2 y3 => ⟨vp_in_nI (n := 0) (by decide) (by decide), ?_⟩)
  rw [show I1 63 (0 : Int32).toNatClampNeg = c from y0]
  have hP1 : I1 39 12 = 0 ∨ Ph I1 J h t := by
    have := h15.1
    rw [← f1 39 (by decide) (by decide), ← f1 46 (by decide) (by decide), ← f1 48 (by decide) (by decide), ← f1 49 (by decide) (by decide), ← f1 50 (by decide) (by decide), ← f1 52 (by decide) (by decide)] at this
    exact this
  have h14a : S_sw (I1 39 8) (I1 39 9) := by rw [f1 39 (by decide) (by decide)]; exact h14
  refine ⟨fun c0 => ?_, fun c0 => ?_⟩
  · refine pe_reason h1 h2 hk hn hr (fun A1 g1 g2 z1 z2 z3 => ⟨fun e => absurd e c0, fun _ => ⟨rfl, ?_⟩⟩)
    exact Sim_ph3 hH (fun c hc => f1 c (by omega) (by omega)) (fun _ _ => rfl) ⟨fun c c1 c2 _ => g1 c c1 (by omega), fun k hk => g2 k (by omega), rfl⟩ h14a hP1
  · -- the row is a phrase
    have hps : ∀ j, j < k → PS h t r j := by
      rcases hr with ⟨i, hi, _, h9⟩ | ⟨hb, _⟩
      · rcases h9 with ⟨_, rfl, _⟩ | ⟨_, _, rfl, _⟩ | ⟨_, _, j, _, _, _, rfl, _⟩
        · exact absurd c0 (by decide)
        · exact absurd c0 (by decide)
        · exact absurd c0 (by decide)
      · exact hb
    have hx1 : rowX I1 J h t r k := rowX_fr hx (fun c hc => f1 c (by omega) (by omega))
    rw [hx1.2.2.2.1]
    refine pe_numberOf h1 h2 hk hx1 hP1 hps (fun I2 J2 f2 p2 => ?_)
    have f2N := frR_N f2
    refine pe_reason h1 h2 hk hn hr (fun A1 g1 g2 z1 z2 z3 => ⟨fun _ => ?_, fun e => absurd c0 e⟩)
    have hlA : lexN A1 h := by
      have := lexM_N h4
      exact ⟨(g2 2 (by decide)).trans this.1, fun u hu => by rw [g1 4 (by decide) (by decide)]; exact this.2.1 u hu, fun u hu l hl => by rw [g1 5 (by decide) (by decide)]; exact this.2.2 u hu l hl⟩
    refine pe_manyOf (Or.inl rfl) h1 (seOK_O h2) hlA (by rw [g1 6 (by decide) (by decide)]; exact h6) (fun A2 B2 fA fB hL hW => ?_)
    have hlA2 := lexN_fr fA hlA
    have hrk : ∀ i, i < k → r i < hoW h := fun i hi => (hn.2.2.2 i hi).1
    have e15 : A2 0 15 = nI k := (fA.2 15 (by decide)).trans ((g2 15 (by decide)).trans hn.2.2.1)
    have e11 : A2 11 = A 11 := (fA.1 11 (by decide) (by decide)).trans (g1 11 (by decide) (by decide))
    rw [hL.1]
    refine lpx_up (fun i z => z = (lN (nb h t r i), nI (pl h t r i), nI (ak h r i), nI i, A2, B2)) k ?_ ?_ 0 _ (Nat.zero_le _) rfl
    · rintro z kk rfl
      refine pk_le k k (fun _ => ⟨rfl, ?_⟩) (fun c => by omega) e15
      refine Sim_ph3 hH (fun c hc => (f2N.1.1 c (by omega)).trans (f1 c (by omega) (by omega))) (fun c hc => f2N.1.2 c hc) ⟨fun c c1 c2 _ => (fA.1 c c1 (by omega)).trans (g1 c c1 (by omega)), fun k hk => (fA.2 k (by omega)).trans (g2 k (by omega)), fB 0 (by decide)⟩ (frN_sw f2N h14a) (Or.inr p2)
    · rintro i z kk hi rfl hkk
      obtain ⟨e1, e2, e3, e4, e5⟩ := pl_ok h1 hrk hps i hi
      obtain ⟨m1, m2, m3⟩ := may_iff.mp e5
      obtain ⟨s1, s2, s3, s4⟩ := fit_step h1 (hrk i hi) e3 m3
      have hri := hrk i hi
      have ei : A2 11 i = nI (r i) := by rw [e11]; exact (hn.2.2.2 i hi).2
      have ha4 := (ak_msk (t := t) h1 hrk (Nat.le_of_lt hi)).2
      refine pk_le k i (fun c => by omega) (fun _ => ?_) e15
      refine lpx_up (fun u z => z = (lN (nb h t r i + sm (gw h t (pl h t r i) (ak h r i)) u), nI (pl h t r i), nI (ak h r i), nI i, nI u, A2, B2)) (r i) ?_ ?_ 0 _ (Nat.zero_le _) rfl
      · rintro z k2 rfl
        have hv12 : vp_in (nI i) 12 := vp_in_nI (by omega) (by decide)
        have hv10 : vp_in (nI (r i)) 10 := vp_in_nI (by omega) (by decide)
        refine ⟨hv12, ?_⟩
        rw [nI_clamp (by omega), ei]
        refine pk_le (r i) (r i) (fun _ => ⟨hv12, hv10, hv12, hv10, ?_⟩) (fun c => by omega)
        rw [nI_clamp (by omega), hL.2.2.1 _ hri, pk_sub s2, hlA2.2.1 _ hri, nI_1]
        exact hkk _ rfl
      · rintro u z k2 hu rfl hk2
        refine ⟨vp_in_nI (by omega) (by decide), ?_⟩
        rw [nI_clamp (by omega), ei]
        refine pk_le (r i) u (fun c => by omega) (fun _ => ?_)
        have es : sm (gw h t (pl h t r i) (ak h r i)) (u + 1) = sm (gw h t (pl h t r i) (ak h r i)) u + gw h t (pl h t r i) (ak h r i) u := rfl
        refine pe_gwM (Q := fun v I J => P_X12_number_85 (fun r_1 I_1 J_1 => lN (nb h t r k) = r_1 ∧ Sim I2 J2 I_1 J_1) kk k2 (nI (pl h t r i)) (nI (ak h r i)) (nI i) (nI u) (lN (nb h t r i + sm (gw h t (pl h t r i) (ak h r i)) u)) v I J) h1 (seOK_O h2) hlA2 hL hW e3 ha4 (by omega) (fun q => ⟨fun _ => q, fun e => absurd rfl e⟩) (fun q => ⟨fun e => absurd e no10, fun _ => q⟩) ?_
        show k2 (lN _ + lN _, _, _, _, nI u + 1, A2, B2)
        rw [lN_add, nI_1]
        refine hk2 _ ?_
        rw [es, Nat.add_assoc]
