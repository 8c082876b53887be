/-! ===== phrases of just so many words ===== -/
theorem Ly_congr {h : Ho} {t : Se} {ok ok2 : Nat → Bool} (e : ∀ w, w < hoW h → ok w = ok2 w) (n p a : Nat) : Ly h t ok n p a = Ly h t ok2 n p a := by
  induction n generalizing p a with
  | zero => rfl
  | succ n ih =>
    show (if p = 0 then 0 else sm _ (hoW h)) = (if p = 0 then 0 else sm _ (hoW h))
    congr 1
    exact sm_congr (fun w hw => by rw [may_congr (e w hw), ih])
theorem Ly_z {h : Ho} {t : Se} {ok : Nat → Bool} (n a : Nat) : Ly h t ok (n + 1) 0 a = 0 := by
  show (if (0 : Nat) = 0 then 0 else _) = 0; rw [if_pos rfl]
theorem Ly_p {h : Ho} {t : Se} {ok : Nat → Bool} {n p a : Nat} (hp : 0 < p) : Ly h t ok (n + 1) p a = sm (fun w => if may h t ok p a w then Ly h t ok n (p - pr h t w) (hoK h w) else 0) (hoW h) := by
  show (if p = 0 then 0 else _) = _; rw [if_neg (by omega)]
theorem Ly_sum {h : Ho} {t : Se} {ok : Nat → Bool} (h1 : hoOK h) (s : Nat) : sm (fun k => Ly h t ok (k + 1) (tp t) 4) s ≤ V h t ok (tp t) 4 := by
  rcases Nat.eq_zero_or_pos (tp t) with q | q
  · have : sm (fun k => Ly h t ok (k + 1) (tp t) 4) s ≤ s * 0 := sm_bound (fun k _ => by rw [q, Ly_z]; exact Nat.le_refl 0)
    rw [Nat.mul_zero] at this
    exact Nat.le_trans this (Nat.zero_le _)
  · exact Ly_le h1 (tp t) (tp t) 4 s (Nat.le_refl _) q (Nat.le_refl _)
theorem pe_empty4 {w1 : Nat} {h : Ho} {t : Se} {I : MI} {J : MJ} {Q : MI → MJ → Prop} (h1 : hoOK h) (h2 : seOK h t) (hL : LatOK (I 46) (I 48) (I 49) (I 50) (I 52) h t)
    (hQ : ∀ J' : MJ, (∀ c, c ≠ w1 → J' c = J c) → (∀ q a, 0 < q → a < 4 → Rc h t q a → J' w1 (q * 4 + a) = 0) → Q I J') : P_X4_empty 40 w1 I J Q := by
  have htp := tp_1296 h2
  obtain ⟨L1, L2, L3, L4, m, od, L5, L6, L7, L8, L9⟩ := id hL
  refine lpx_up (fun i z => ∃ J' : MJ, z = (nI i, I, J') ∧ (∀ c, c ≠ w1 → J' c = J c) ∧ ∀ j a, j < i → a < 4 → J' w1 (od j * 4 + a) = 0) m ?_ ?_ 0 _ (Nat.zero_le _) ⟨J, rfl, fun _ _ => rfl, fun j a hj => absurd hj (Nat.not_lt_zero j)⟩
  · rintro z k ⟨J', rfl, g1, g2⟩
    refine pk_le m m (fun _ => hQ J' g1 (fun q a hq ha hr => ?_)) (fun c => by omega) L5
    obtain ⟨i, hi, rfl⟩ := L9 q hq (by have := Rc_le h1 hr; omega) ⟨a, hr⟩
    exact g2 i a hi ha
  · rintro i z k hi ⟨J', rfl, g1, g2⟩ hk
    obtain ⟨o1, o2, o3, o4⟩ := L7 i hi
    refine pk_le m i (fun c => by omega) (fun _ => ?_) L5
    refine lpx_up (fun b z => ∃ J2 : MJ, z = (nI i, nI b, I, J2) ∧ (∀ c, c ≠ w1 → J2 c = J c) ∧ ∀ j a, (j < i ∨ j = i ∧ a < b) → a < 4 → J2 w1 (od j * 4 + a) = 0) 4 ?_ ?_ 0 _ (Nat.zero_le _) ⟨J', rfl, g1, fun j a hj ha => g2 j a (by omega) ha⟩
    · rintro z k2 ⟨J2, rfl, e1, e2⟩
      refine pk_le 4 4 (fun _ => ?_) (fun c => by omega)
      show k (nI i + 1, I, J2)
      rw [nI_1]
      exact hk _ ⟨J2, rfl, e1, fun j a hj ha => e2 j a (by omega) ha⟩
    · rintro b z k2 hb ⟨J2, rfl, e1, e2⟩ hk2
      have hvi : vp_in (nI i) 1944 := vp_in_nI (by omega) (by decide)
      have hi2 : i < 2 ^ 31 := by omega
      refine pk_le 4 b (fun c => by omega) (fun _ => ⟨hvi, ?_⟩)
      rw [nI_clamp hi2, o1]
      refine pk_le 1296 (od i) (fun c => by omega) (fun _ => ⟨hvi, ?_⟩)
      refine ⟨fun _ => ?_, fun e => absurd e (by decide), fun e => absurd e (by decide)⟩
      have e5 : nI (od i) * (4 : Int32) + nI b = nI (od i * 4 + b) := by rw [show (4 : Int32) = nI 4 from rfl, pk_mul, nI_add]
      show vp_in (nI (od i) * (4 : Int32) + nI b) 5184 ∧ _
      rw [e5]
      refine ⟨vp_in_nI (by omega) (by decide), ?_⟩
      rintro J3 rfl
      rw [nI_1, nI_clamp (by omega)]
      refine hk2 _ ⟨_, rfl, fun c hc => (wJ_n _ hc _).trans (e1 c hc), fun j a hj ha => ?_⟩
      rw [mJ_s]
      by_cases hjj : od j * 4 + a = od i * 4 + b
      · rw [hjj, pk_uLs]
      · rw [pk_uLn hjj]
        refine e2 j a ?_ ha
        rcases hj with hj | ⟨hj, hab⟩
        · exact Or.inl hj
        · subst hj; exact Or.inr ⟨rfl, by omega⟩
theorem pe_endNowhere {w0 : Nat} {I : MI} {J : MJ} {Q : MI → MJ → Prop} (hQ : ∀ J' : MJ, (∀ c, c ≠ w0 → J' c = J c) → (∀ a, a < 4 → J' w0 a = 0) → (∀ j, 4 ≤ j → J' w0 j = J w0 j) → Q I J') : P_X6_endNowhere w0 I J Q := by
  refine lpx_up (fun i z => ∃ J' : MJ, z = (nI i, I, J') ∧ (∀ c, c ≠ w0 → J' c = J c) ∧ (∀ a, a < i → J' w0 a = 0) ∧ ∀ j, i ≤ j → J' w0 j = J w0 j) 4 ?_ ?_ 0 _ (Nat.zero_le _) ⟨J, rfl, fun _ _ => rfl, fun a ha => absurd ha (Nat.not_lt_zero a), fun _ _ => rfl⟩
  · rintro z k ⟨J', rfl, g1, g2, g3⟩
    exact pk_le 4 4 (fun _ => hQ J' g1 g2 g3) (fun c => by omega)
  · rintro i z k hi ⟨J', rfl, g1, g2, g3⟩ hk
    refine pk_le 4 i (fun c => by omega) (fun _ => ⟨vp_in_nI (by omega) (by decide), ?_⟩)
    rintro J3 rfl
    rw [nI_1, nI_clamp (by omega)]
    refine hk _ ⟨_, rfl, fun c hc => (wJ_n _ hc _).trans (g1 c hc), fun a ha => ?_, fun j hj => ?_⟩
    · rw [mJ_s]
      by_cases e : a = i
      · subst e; rw [pk_uLs]
      · rw [pk_uLn e]; exact g2 a (by omega)
    · rw [mJ_s, pk_uLn (by omega)]; exact g3 j (by omega)
/-- one fold more is one word more -/
theorem pe_foldL {w2 w3 s : Nat} {h : Ho} {t : Se} {I : MI} {J : MJ} {Q : Int64 → MI → MJ → Prop} (h1 : hoOK h) (h2 : seOK h t) (hC : lexC I J h) (h5 : setX (I 17) (I 18) (I 19) (I 20) h t) (hL : LatOK (I 46) (I 48) (I 49) (I 50) (I 52) h t) (hw2 : w2 = 44 ∨ w2 = 45) (hw3 : w3 = 44 ∨ w3 = 45) (hne : w2 ≠ w3) (ht : 0 < tp t) (hT : TlOK (J w2) (fun p a => lN (Ly h t (okB t) s p a)) h t)
    (hQ : ∀ J' : MJ, (∀ c, c ≠ 53 → c ≠ w3 → J' c = J c) → (∀ q a, a < 4 → Rc h t q a → 0 < q → J' w3 (q * 4 + a) = lN (Ly h t (okB t) (s + 1) q a)) → Q (lN (Ly h t (okB t) (s + 1) (tp t) 4)) I J') : P_X4_fold 40 w2 w3 (1023 : Int32) I J Q := by
  obtain ⟨op, hop⟩ := opEx h t 1023
  have hE := h2.2.2.2.2.1
  have hz : ∀ p u, u < hoW h → p - pr h t u = 0 → (seE t).testBit (hoK h u) = false → Ly h t (okB t) s (p - pr h t u) (hoK h u) = 0 := fun p u hu e1 e2 => by
    rw [e1]
    cases s with
    | zero => show (if (0 : Nat) = 0 then eb t (hoK h u) else 0) = 0; rw [if_pos rfl]; unfold eb; rw [e2]; rfl
    | succ s => exact Ly_z s _
  have hval : ∀ p a, 0 < p → Rc h t p a → hs (fun x y => x + y) 0 (msk t a) (fun k => hd (fun x y _ => x + y) 0 (op p) (hoK h) (fun u => lN (Ly h t (okB t) s (p - pr h t u) (hoK h u))) k (hoW h)) 4 = lN (Ly h t (okB t) (s + 1) p a) := fun p a hp0 hr => by
    rw [hs_hd_cnt (g := fun u => Ly h t (okB t) s (p - pr h t u) (hoK h u)) (hoW h) (fun u hu => (h1.2 u hu).1) (fun u hu _ => rfl), op_sum (f := fun q b => Ly h t (okB t) s q b) hop hr (hz p), Ly_p hp0]
    congr 1
    exact sm_congr (fun u hu => by rw [may_congr (okA_all h1 hu)])
  refine pe_fold (G := fun p a => lN (Ly h t (okB t) s p a)) (F := fun p a => lN (Ly h t (okB t) (s + 1) p a)) (op := op) (al := 1023) h1 h2 hC h5 hL (WayOK_40 (hoW h) _ _) (by omega) (by omega) (by omega) (by omega) (by decide) (fun p u _ _ _ => hop p u) (fun q a ha hr _ => hT q a ha hr) (fun e => absurd e hne) (fun p a hp0 ha hr => (hval p a hp0 hr).symm) (fun J2 f1 f2 f3 => ?_)
  have hv : (if 0 < tp t then hs (fun x y => x + y) 0 (seG t) (fun k => hd (fun x y _ => x + y) 0 (op (tp t)) (hoK h) (fun u => lN (Ly h t (okB t) s (tp t - pr h t u) (hoK h u))) k (hoW h)) 4 else 0) = lN (Ly h t (okB t) (s + 1) (tp t) 4) := by
    rw [if_pos ht, ← hval (tp t) 4 ht (Rc_top h t)]; rfl
  rw [hv]
  exact hQ J2 f1 f2
theorem sw_swi9 {c : Nat} (h : c = 44 ∨ c = 45) : sw (swi c) = c := by rcases h with rfl | rfl <;> decide
theorem swi_S {a b : Nat} (ha : a = 44 ∨ a = 45) (hb : b = 44 ∨ b = 45) (hne : a ≠ b) : S_sw (swi a) (swi b) := by
  rcases ha with rfl | rfl <;> rcases hb with rfl | rfl
  · exact absurd rfl hne
  · exact Or.inl ⟨by decide, by decide⟩
  · exact Or.inr ⟨by decide, by decide⟩
  · exact absurd rfl hne
theorem pe_countLengths {h : Ho} {t : Se} {I : MI} {J : MJ} {Q : MI → MJ → Prop} (h1 : hoOK h) (h2 : seOK h t) (hX : CX I J h t) (hS : I 39 12 = 0 ∨ Ph I J h t) (h14 : S_sw (I 39 8) (I 39 9)) (hQ : ∀ (I' : MI) (J' : MJ), frC I I' J J' → S_sw (I' 39 8) (I' 39 9) → Ph I' J' h t → (∀ k, 1 ≤ k → k ≤ 12 → J' 42 k = lN (Ly h t (okB t) k (tp t) 4)) → Q I' J') : P_X6_countLengths I J Q := by
  have hE := h2.2.2.2.2.1
  have hV := V_small (ok := okB t) h1 (seOK_O h2).1 (Nat.le_refl (tp t)) 4
  have h13p : (10 : Nat) ^ 13 < 2 ^ 60 := by decide
  refine pe_refresh h1 h2 hX hS (fun I1 J1 f1 p1 => ?_)
  have f1N := frR_N f1
  have hX1 := CX_N hX f1N
  have h14a := frN_sw f1N h14
  obtain ⟨s1, s2, s3⟩ := sw_of h14a
  refine ⟨fun _ => ?_, fun c => hQ I1 J1 f1N.1 h14a p1 (p1.2.2.2.resolve_left c)⟩
  refine pe_empty4 h1 h2 p1.1 (fun J2 g1 g2 => ?_)
  refine pe_ground (WayOK_40 (hoW h) _ _) (by omega) hX1.2.2.2.2.2.1 hE (fun J3 e1 e2 e3 => ?_)
  have hT0 : TlOK (J3 (sw (I1 39 8))) (fun p a => lN (Ly h t (okB t) 0 p a)) h t := fun p a ha hr => by
    rcases Nat.eq_zero_or_pos p with q | q
    · subst q
      rw [Nat.zero_mul, Nat.zero_add, e2 a ha]
      show _ = lN (if (0 : Nat) = 0 then eb t a else 0)
      rw [if_pos rfl]; unfold eb; split <;> rfl
    · rw [e3 _ (by omega), g2 p a q ha hr]
      show _ = lN (if p = 0 then eb t a else 0)
      rw [if_neg (by omega)]; rfl
  have fr3 : ∀ c, c ≠ 42 → c ≠ 44 → c ≠ 45 → c ≠ 53 → J3 c = J1 c := fun c _ c1 c2 _ => (e1 c (by omega)).trans (g1 c (by omega))
  have e39 : J3 39 11 = lN (V h t (okB t) (tp t) 4) := by rw [fr3 39 (by decide) (by decide) (by decide) (by decide)]; exact p1.2.2.1
  rw [e39]
  refine lpx_up (fun s z => ∃ (I' : MI) (J' : MJ), z = (lN (V h t (okB t) (tp t) 4 - sm (fun k => Ly h t (okB t) (k + 1) (tp t) 4) s), nI (s + 1), I', J') ∧ (∀ c, c ≠ 39 → I' c = I1 c) ∧ (∀ k, k ≠ 8 → k ≠ 9 → I' 39 k = I1 39 k) ∧ S_sw (I' 39 8) (I' 39 9) ∧ (∀ c, c ≠ 42 → c ≠ 44 → c ≠ 45 → c ≠ 53 → J' c = J1 c) ∧ (∀ k, 1 ≤ k → k ≤ s → J' 42 k = lN (Ly h t (okB t) k (tp t) 4)) ∧ (0 < V h t (okB t) (tp t) 4 - sm (fun k => Ly h t (okB t) (k + 1) (tp t) 4) s → TlOK (J' (sw (I' 39 8))) (fun p a => lN (Ly h t (okB t) s p a)) h t)) 12 ?_ ?_ 0 _ (Nat.zero_le _) ⟨I1, J3, rfl, fun _ _ => rfl, fun _ _ _ => rfl, h14a, fr3, fun k k1 k2 => by omega, fun _ => hT0⟩
  · rintro z k ⟨I', J', rfl, y1, y2, y3, y4, y5, y6⟩
    refine pk_lt 12 13 (fun _ => ?_) (fun c => by omega)
    rintro I9 rfl
    refine hQ _ J' (frC_tr f1N.1 ⟨fun c hc => (wI_n _ (by omega) _).trans (y1 c (by omega)), fun c hc => y4 c (by omega) (by omega) (by omega) (by omega)⟩) y3 ?_ (fun k k1 k2 => y5 k k1 k2)
    show PhOK _ (I' 46) (I' 48) (I' 49) (I' 50) (I' 52) (J' 39) (J' 41) (J' 42) h t
    rw [y1 46 (by decide), y1 48 (by decide), y1 49 (by decide), y1 50 (by decide), y1 52 (by decide), y4 39 (by decide) (by decide) (by decide) (by decide), y4 41 (by decide) (by decide) (by decide) (by decide)]
    exact ⟨p1.1, p1.2.1, p1.2.2.1, Or.inr (fun k k1 k2 => y5 k k1 k2)⟩
  · rintro s z k hs ⟨I', J', rfl, y1, y2, y3, y4, y5, y6⟩ hk
    have hsum := Ly_sum (t := t) (ok := okB t) h1 (s + 1)
    have esum : sm (fun k => Ly h t (okB t) (k + 1) (tp t) 4) (s + 1) = sm (fun k => Ly h t (okB t) (k + 1) (tp t) 4) s + Ly h t (okB t) (s + 1) (tp t) 4 := rfl
    obtain ⟨w1, w2, w3⟩ := sw_of y3
    have hv13 : vp_in (nI (s + 1)) 13 := vp_in_nI (by omega) (by decide)
    refine pk_lt 12 (s + 1) (fun c => by omega) (fun _ => ⟨hv13, ?_⟩)
    rintro J6 rfl
    rw [nI_clamp (by omega)]
    refine ⟨fun c => ?_, fun c => ?_⟩
    · have hz : V h t (okB t) (tp t) 4 - sm (fun k => Ly h t (okB t) (k + 1) (tp t) 4) s = 0 := by have := (pk_lLE (b := 0) (by omega) (by decide)).mp c; omega
      have hl0 : Ly h t (okB t) (s + 1) (tp t) 4 = 0 := by omega
      show k (_, nI (s + 1) + 1, I', _)
      rw [nI_1]
      refine hk _ ⟨I', mJ J' 42 (s + 1) 0, by rw [esum, hl0]; rfl, y1, y2, y3, fun c c1 c2 c3 c4 => (wJ_n _ c1 _).trans (y4 c c1 c2 c3 c4), fun k k1 k2 => ?_, fun hp => by omega⟩
      by_cases e : k = s + 1
      · subst e
        show vp_updL (J' 42) (s + 1) 0 (s + 1) = _
        rw [pk_uLs, hl0]; rfl
      · show vp_updL (J' 42) (s + 1) 0 k = _
        rw [pk_uLn e]; exact y5 k k1 (by omega)
    · have hz : 0 < V h t (okB t) (tp t) 4 - sm (fun k => Ly h t (okB t) (k + 1) (tp t) 4) s := by
        rcases Nat.eq_zero_or_pos (V h t (okB t) (tp t) 4 - sm (fun k => Ly h t (okB t) (k + 1) (tp t) 4) s) with q | q
        · exact absurd (by rw [q]; exact Int64.le_refl 0) c
        · exact q
      have ht : 0 < tp t := by
        rcases Nat.eq_zero_or_pos (tp t) with q | q
        · have : V h t (okB t) (tp t) 4 = 0 := by
            rw [q, V_0]; unfold eb; rw [Nat.testBit_lt_two_pow (i := 4) (by omega)]; rfl
          omega
        · exact q
      have hX' : CX I' (mJ J' 42 (s + 1) 0) h t := CX_fr hX1 (fun c hc => y1 c (by omega)) (fun c hc => (wJ_n _ (by omega) _).trans (y4 c (by omega) (by omega) (by omega) (by omega)))
      have hL' : LatOK (I' 46) (I' 48) (I' 49) (I' 50) (I' 52) h t := by
        rw [y1 46 (by decide), y1 48 (by decide), y1 49 (by decide), y1 50 (by decide), y1 52 (by decide)]; exact p1.1
      have e42 : ∀ c : Nat, c = 44 ∨ c = 45 → mJ J' 42 (s + 1) 0 c = J' c := fun c hc => wJ_n _ (by omega) _
      refine pe_foldL (s := s) h1 h2 hX'.1 hX'.2 hL' w1 w2 w3 ht (by rw [e42 _ w1]; exact y6 hz) (fun J7 n1 n2 => ⟨hv13, ?_⟩)
      rintro J8 rfl
      refine ⟨hv13, ?_⟩
      refine pe_endNowhere (fun J9 m1 m2 m3 => ?_)
      rintro I8 rfl I9 rfl
      show k (_, nI (s + 1) + 1, _, J9)
      have e95 : mJ J7 42 (s + 1) (lN (Ly h t (okB t) (s + 1) (tp t) 4)) 42 (s + 1) = lN (Ly h t (okB t) (s + 1) (tp t) 4) := by rw [mJ_s, pk_uLs]
      rw [e95, lN_sub (by omega), nI_1]
      have sb : mI (mI I' 39 8 (swi (sw (I' 39 9)))) 39 9 (swi (sw (I' 39 8))) 39 8 = swi (sw (I' 39 9)) := rfl
      refine hk _ ⟨mI (mI I' 39 8 (swi (sw (I' 39 9)))) 39 9 (swi (sw (I' 39 8))), J9, by rw [esum, Nat.sub_sub], fun c hc => (wI_n _ hc _).trans ((wI_n _ hc _).trans (y1 c hc)), fun k k1 k2 => ?_, swi_S w2 w1 (fun e => w3 e.symm), fun c c1 c2 c3 c4 => ?_, fun k k1 k2 => ?_, fun _ => ?_⟩
      · rw [mI_s, upd_n k2, mI_s, upd_n k1]; exact y2 k k1 k2
      · exact (m1 c (by omega)).trans ((wJ_n _ c1 _).trans ((n1 c c4 (by omega)).trans ((wJ_n _ c1 _).trans (y4 c c1 c2 c3 c4))))
      · rw [m1 42 (by omega)]
        show vp_updL (J7 42) (s + 1) _ k = _
        by_cases e : k = s + 1
        · subst e; rw [pk_uLs]
        · rw [pk_uLn e, n1 42 (by decide) (by omega)]
          show vp_updL (J' 42) (s + 1) 0 k = _
          rw [pk_uLn e]; exact y5 k k1 (by omega)
      · rw [sb, sw_swi9 w2]
        intro p a ha hr
        rcases Nat.eq_zero_or_pos p with q | q
        · subst q
          rw [Nat.zero_mul, Nat.zero_add, m2 a ha]
          show (0 : Int64) = lN (Ly h t (okB t) (s + 1) 0 a)
          rw [Ly_z]; rfl
        · rw [m3 _ (by omega), show mJ J7 42 (s + 1) (lN (Ly h t (okB t) (s + 1) (tp t) 4)) (sw (I' 39 9)) = J7 (sw (I' 39 9)) from wJ_n _ (by omega) _]
          exact n2 p a ha hr q
/-! the reference -/
theorem pe_manyBy {n : Nat} {h : Ho} {t : Se} {A : MI} {B : MJ} {Q : Int64 → MI → MJ → Prop} (h1 : hoOK h) (h2 : seO h t) (hl : lexN A h) (hL : Lk (A 0) (A 19) (A 21) (A 26) h t (okB t)) (hn1 : 1 ≤ n) (hn : n ≤ 12)
    (hQ : ∀ B' : MJ, (∀ c, c ≠ 23 → c ≠ 24 → B' c = B c) → Q (lN (Ly h t (okB t) n (tp t) 4)) A B') : P_X12_manyBy (nI n) A B Q := by
  have hw10 := h1.1
  have htp := tp_1944 h2
  have e31 : (5 : Int32) * A 0 31 + (4 : Int32) = nI (5 * tp t + 4) := by rw [hL.1, show (5 : Int32) = nI 5 from rfl, pk_mul, show (4 : Int32) = nI 4 from rfl, nI_add]
  refine lpx_up (fun i z => ∃ B' : MJ, z = (nI n, nI i, A, B') ∧ (∀ c, c ≠ 23 → c ≠ 24 → B' c = B c) ∧ ∀ k, k < i → B' 23 k = 0) (5 * tp t + 5) ?_ ?_ 0 _ (Nat.zero_le _) ⟨B, rfl, fun _ _ _ => rfl, fun k hk => absurd hk (Nat.not_lt_zero k)⟩
  · rintro z k ⟨B1, rfl, g1, g2⟩
    refine pk_lt (5 * tp t + 4) (5 * tp t + 5) (fun _ => ?_) (fun c => by omega) e31
    refine lpx_up (fun s z => ∃ B' : MJ, z = (nI n, nI (s + 1), A, B') ∧ (∀ c, c ≠ 23 → c ≠ 24 → B' c = B c) ∧ ∀ p a, p ≤ tp t → a ≤ 4 → B' 23 (5 * p + a) = lN (if s = 0 then 0 else Ly h t (okB t) s p a)) n ?_ ?_ 0 _ (Nat.zero_le _) ⟨B1, rfl, g1, fun p a hp ha => by rw [g2 _ (by omega), if_pos rfl]; rfl⟩
    · rintro z k2 ⟨B2, rfl, e1, e2⟩
      refine pk_lt n (n + 1) (fun _ => ?_) (fun c => by omega)
      rw [e31]
      refine ⟨vp_in_nI (by omega) (by decide), ?_⟩
      rw [nI_clamp (by omega), e2 (tp t) 4 (Nat.le_refl _) (Nat.le_refl _), if_neg (by omega)]
      exact hQ B2 e1
    · rintro s z k2 hs ⟨B2, rfl, e1, e2⟩ hk2
      refine pk_lt n (s + 1) (fun c => by omega) (fun _ => ?_)
      refine lpx_up (fun i z => ∃ B' : MJ, z = (nI n, nI (s + 1), nI i, A, B') ∧ (∀ c, c ≠ 23 → c ≠ 24 → B' c = B c) ∧ B' 23 = B2 23 ∧ ∀ p a, a ≤ 4 → 5 * p + a < i → B' 24 (5 * p + a) = lN (Ly h t (okB t) (s + 1) p a)) (5 * tp t + 5) ?_ ?_ 0 _ (Nat.zero_le _) ⟨B2, rfl, e1, rfl, fun p a _ hk => absurd hk (Nat.not_lt_zero _)⟩
      · rintro z k3 ⟨B3, rfl, y1, y2, y3⟩
        refine pk_lt (5 * tp t + 4) (5 * tp t + 5) (fun _ => ?_) (fun c => by omega) e31
        refine lpx_up (fun i z => ∃ B' : MJ, z = (nI n, nI (s + 1), nI i, A, B') ∧ (∀ c, c ≠ 23 → c ≠ 24 → B' c = B c) ∧ B' 24 = B3 24 ∧ ∀ k, k < i → B' 23 k = B3 24 k) (5 * tp t + 5) ?_ ?_ 0 _ (Nat.zero_le _) ⟨B3, rfl, y1, rfl, fun k hk => absurd hk (Nat.not_lt_zero k)⟩
        · rintro z k4 ⟨B4, rfl, w1, w2, w3⟩
          refine pk_lt (5 * tp t + 4) (5 * tp t + 5) (fun _ => ?_) (fun c => by omega) e31
          rw [nI_1]
          refine hk2 _ ⟨B4, rfl, w1, fun p a hp ha => ?_⟩
          rw [w3 _ (by omega), y3 p a ha (by omega), if_neg (by omega)]
        · rintro i z k4 hi ⟨B4, rfl, w1, w2, w3⟩ hk4
          have hv : vp_in (nI i) 9720 := vp_in_nI (by omega) (by decide)
          refine pk_lt (5 * tp t + 4) i (fun c => by omega) (fun _ => ⟨hv, hv, ?_⟩) e31
          rintro B5 rfl
          rw [nI_1, nI_clamp (by omega), w2]
          refine hk4 _ ⟨_, rfl, fun c c1 c2 => (wJ_n _ c1 _).trans (w1 c c1 c2), (wJ_n _ (by decide) _).trans w2, fun k hk => ?_⟩
          rw [mJ_s]
          by_cases e : k = i
          · subst e; rw [pk_uLs]
          · rw [pk_uLn e]; exact w3 k (by omega)
      · rintro i z k3 hi ⟨B3, rfl, y1, y2, y3⟩ hk3
        refine pk_lt (5 * tp t + 4) i (fun c => by omega) (fun _ => ?_) e31
        have hp : i / 5 ≤ tp t := by omega
        have ha : i % 5 ≤ 4 := by omega
        refine lpx_up (fun u z => z = (nI n, nI (s + 1), nI i, lN (sm (fun w => if may h t (okB t) (i / 5) (i % 5) w then Ly h t (okB t) s (i / 5 - pr h t w) (hoK h w) else 0) u), nI u, A, B3)) (hoW h) ?_ ?_ 0 _ (Nat.zero_le _) rfl
        · rintro z k4 rfl
          refine pk_le (hoW h) (hoW h) (fun _ => ⟨vp_in_nI (by omega) (by decide), ?_⟩) (fun c => by omega) hl.1
          rintro B5 rfl
          rw [nI_1, nI_clamp (by omega)]
          refine hk3 _ ⟨_, rfl, fun c c1 c2 => (wJ_n _ c2 _).trans (y1 c c1 c2), (wJ_n _ (by decide) _).trans y2, fun p a ha4 hk => ?_⟩
          rw [mJ_s]
          by_cases e : 5 * p + a = i
          · have ep : i / 5 = p := by omega
            have ea : i % 5 = a := by omega
            rw [e, pk_uLs, ep, ea]
            rcases Nat.eq_zero_or_pos p with q | q
            · subst q
              rw [Ly_z]
              congr 1
              have : sm (fun w => if may h t (okB t) 0 a w then Ly h t (okB t) s (0 - pr h t w) (hoK h w) else 0) (hoW h) ≤ hoW h * 0 := sm_bound (fun w hw => by
                rw [if_neg (fun q => fit_0 h1 hw (may_iff.mp q).2.2)]; exact Nat.le_refl 0)
              omega
            · rw [Ly_p q]
          · rw [pk_uLn e]; exact y3 p a ha4 (by omega)
        · rintro u z k4 hu rfl hk4
          have hk9 := (h1.2 u hu).1
          have hv10 : vp_in (nI u) 10 := vp_in_nI (by omega) (by decide)
          have hcu : (nI u).toNatClampNeg = u := nI_clamp (by omega)
          refine pk_le (hoW h) u (fun c => by omega) (fun _ => ⟨hv10, ?_⟩) hl.1
          rw [show nI i - nI i / (5 : Int32) * (5 : Int32) = nI (i % 5) from pk_rem (a := i) (d := 5) (by omega) (by decide) (by decide), show nI i / (5 : Int32) = nI (i / 5) from pk_div (d := 5) (by omega) (by decide) (by decide)]
          have next : ∀ v : Nat, v = (if may h t (okB t) (i / 5) (i % 5) u then Ly h t (okB t) s (i / 5 - pr h t u) (hoK h u) else 0) → P_X12_manyBy_156 Q k2 k3 k4 (nI n) (nI (s + 1)) (nI i) (nI u) (lN (sm (fun w => if may h t (okB t) (i / 5) (i % 5) w then Ly h t (okB t) s (i / 5 - pr h t w) (hoK h w) else 0) u)) (lN v) A B3 := fun v hv => by
            show k4 (nI n, nI (s + 1), nI i, lN _ + lN v, nI u + 1, A, B3)
            rw [lN_add, nI_1, hv]
            exact hk4 _ rfl
          refine pe_mayCome h1 h2 hl.2.1 hL hp ha hu (fun hm => ⟨fun _ => ?_, fun e => absurd e no10⟩) (fun hm => ⟨fun e => absurd rfl e, fun _ => next 0 (by rw [if_neg (by rw [hm]; decide)])⟩)
          obtain ⟨f1, f2, f3, f4⟩ := fit_step h1 hu hp (may_iff.mp hm).2.2
          rw [if_pos hm] at next
          rw [hcu, hL.2.2.1 u hu, pk_sub f2, hl.2.1 u hu]
          refine pk_le (i / 5 - pr h t u) 0 (fun c0 => ?_) (fun c0 => ⟨hv10, ?_⟩)
          · have e0 : i / 5 - pr h t u = 0 := by omega
            rw [e0] at next
            refine ⟨fun c1 => next 0 ?_, fun c1 => ⟨vp_in_nI (n := 20) (by decide) (by decide), hv10, ?_⟩⟩
            · cases s with
              | zero => exact absurd rfl c1
              | succ s => rw [Ly_z]
            · have es : s = 0 := by have := (nI_eq (a := s + 1) (b := 1) (by omega) (by decide)).mp c1; omega
              subst es
              have el : Ly h t (okB t) 0 0 (hoK h u) = eb t (hoK h u) := by show (if (0 : Nat) = 0 then _ else _) = _; rw [if_pos rfl]
              rw [el] at next
              have hE := h2.2.2.2.2.1
              rw [show A 19 (20 : Int32).toNatClampNeg = nI (seE t) from hL.2.2.2.2.2.2.2.2.1]
              refine pe_hasM (by omega) (by omega) (fun c => ⟨fun e => absurd e no10, fun _ => next 1 ?_⟩) (fun c => ⟨fun _ => next 0 ?_, fun e => absurd rfl e⟩)
              · unfold eb; rw [if_pos c]
              · unfold eb; rw [if_neg (by rw [c]; decide)]
          · have e5 : (5 : Int32) * nI (i / 5 - pr h t u) + nI (hoK h u) = nI (5 * (i / 5 - pr h t u) + hoK h u) := by rw [show (5 : Int32) = nI 5 from rfl, pk_mul, nI_add]
            rw [e5]
            refine ⟨vp_in_nI (by omega) (by decide), ?_⟩
            rw [nI_clamp (by omega), y2, e2 _ _ (by omega) (by omega)]
            refine next _ ?_
            by_cases es : s = 0
            · subst es
              rw [if_pos rfl]
              show 0 = if i / 5 - pr h t u = 0 then _ else 0
              rw [if_neg (by omega)]
            · rw [if_neg es]
  · rintro i z k hi ⟨B1, rfl, g1, g2⟩ hk
    refine pk_lt (5 * tp t + 4) i (fun c => by omega) (fun _ => ⟨vp_in_nI (by omega) (by decide), ?_⟩) e31
    rintro B5 rfl
    rw [nI_1, nI_clamp (by omega)]
    refine hk _ ⟨_, rfl, fun c c1 c2 => (wJ_n _ c1 _).trans (g1 c c1 c2), fun k hk => ?_⟩
    rw [mJ_s]
    by_cases e : k = i
    · subst e; rw [pk_uLs]
    · rw [pk_uLn e]; exact g2 k (by omega)
theorem s_many : st_many Sim := by
  intro a I J A B hs
  obtain ⟨h, t, hH⟩ := Sim_H.mp hs
  obtain ⟨h1, h2, h3, h4, h5, h6, h7, h8, h9, h10, h11, h12, h13, h14, h15⟩ := id hH
  have hX : CX I J h t := ⟨lexX_C h3, h5⟩
  have hbad : ¬ (0 ≤ a.toInt ∧ a.toInt ≤ 12) → P_X12_many a A B (fun r2 I2 J2 => (-2 : Int64) = r2 ∧ Sim I J I2 J2) := fun hn =>
    pe_inI (p := 0) (q := 12) (by decide) (by decide) (fun c c2 => absurd ⟨c, c2⟩ hn) (fun _ => ⟨fun c => absurd rfl c, fun _ => ⟨rfl, hs⟩⟩)
  refine ⟨fun c => hbad (by rw [lt0] at c; omega), fun c => ⟨fun c2 => ?_, fun c2 => hbad (by rw [show (12 : Int32) = nI 12 from rfl, le_lit (by decide)] at c2; omega)⟩⟩
  obtain ⟨n, hn, rfl⟩ : ∃ n, n ≤ 12 ∧ a = nI n := nI_of2 (n := 12) (by decide) c c2
  refine ⟨fun c3 => ?_, fun c3 => ?_⟩
  · have hn1 : 1 ≤ n := by
      rcases Nat.eq_zero_or_pos n with e | e
      · exact absurd (by rw [e]; rfl) c3
      · exact e
    refine pe_countLengths h1 h2 hX h15.1 h14 (fun I1 J1 f1 w1 p1 e1 => ?_)
    refine pk_lt n 1 (fun c => by omega) (fun _ => pk_lt 12 n (fun c => by omega) (fun _ => ⟨vp_in_nI (by omega) (by decide), ?_⟩))
    rw [nI_clamp (by omega), e1 n hn1 hn]
    refine pe_inI (p := 0) (q := 12) (by decide) (by decide) (fun _ _ => ⟨fun _ => ?_, fun e => absurd e no10⟩) (fun hh => absurd ⟨by rw [nI_toInt (by omega)]; omega, by rw [nI_toInt (by omega)]; omega⟩ hh)
    refine pe_manyOf (Or.inl rfl) h1 (seOK_O h2) (lexM_N h4) h6 (fun A1 B1 fA fB hL hW => ⟨fun _ => ?_, fun e => absurd e c3⟩)
    refine pe_manyBy h1 (seOK_O h2) (lexN_fr fA (lexM_N h4)) hL hn1 hn (fun B2 g2 => ⟨rfl, ?_⟩)
    exact Sim_ph hH f1 (frM_of fA (fun c hc => (g2 c (by omega) (by omega)).trans (fB c hc))) w1 (Or.inr p1)
  · refine pe_count h1 h2 hX h15.1 (fun I1 J1 f1 p1 => ?_)
    have f1N := frR_N f1
    refine pe_inI (p := 0) (q := 12) (by decide) (by decide) (fun _ _ => ⟨fun _ => ?_, fun e => absurd e no10⟩) (fun hh => absurd ⟨by rw [nI_toInt (by omega)]; omega, by rw [nI_toInt (by omega)]; omega⟩ hh)
    refine pe_manyOf (Or.inl rfl) h1 (seOK_O h2) (lexM_N h4) h6 (fun A1 B1 fA fB hL hW => ⟨fun e => absurd c3 e, fun _ => ⟨rfl, ?_⟩⟩)
    exact Sim_ph hH f1N.1 (frM_of fA fB) (frN_sw f1N h14) (Or.inr p1)
