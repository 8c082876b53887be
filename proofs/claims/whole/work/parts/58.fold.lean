/-! ===== ways summed up, whatever is summed ===== -/
theorem mJ_s (J : MJ) (c j : Nat) (v : Int64) (x : Nat) : mJ J c j v c x = vp_updL (J c) j v x := congrFun (wJ_s J c _) x
theorem mI_s (I : MI) (c j : Nat) (v : Int32) (x : Nat) : mI I c j v c x = upd (I c) j v x := congrFun (wI_s I c _) x
def WayOK (w : Nat) (nn en : Int64) (jn : Int64 → Int64 → Int64) (wt : Int64 → Int64 → Nat → Int64) (N : Nat) (R : Nat → Int32) (S : Nat → Int64) : Prop :=
  ∀ (I : MI) (J : MJ), I 19 = R → J 57 = S → (∀ Q : Int64 → MI → MJ → Prop, Q nn I J → PW_none w I J Q) ∧ (∀ Q : Int64 → MI → MJ → Prop, Q en I J → PW_ended w I J Q) ∧ (∀ (x y : Int64) (Q : Int64 → MI → MJ → Prop), Q (jn x y) I J → PW_joined w x y I J Q) ∧ ∀ (x y : Int64) (u : Nat) (Q : Int64 → MI → MJ → Prop), u < N → Q (wt x y u) I J → PW_with w x y (nI u) I J Q
def hs (jn : Int64 → Int64 → Int64) (nn : Int64) (m : Nat) (f : Nat → Int64) : Nat → Int64
  | 0 => nn
  | k + 1 => if m.testBit k then jn (hs jn nn m f k) (f k) else hs jn nn m f k
def hd (wt : Int64 → Int64 → Nat → Int64) (nn : Int64) (op : Nat → Bool) (K : Nat → Nat) (g : Nat → Int64) (k : Nat) : Nat → Int64
  | 0 => nn
  | u + 1 => if op u && decide (K u = k) then wt (hd wt nn op K g k u) (g u) u else hd wt nn op K g k u
theorem hs_congr {jn : Int64 → Int64 → Int64} {nn : Int64} {m : Nat} {f g : Nat → Int64} (n : Nat) (h : ∀ k, k < n → f k = g k) : hs jn nn m f n = hs jn nn m g n := by
  induction n with
  | zero => rfl
  | succ n ih =>
    show (if m.testBit n then jn (hs jn nn m f n) (f n) else hs jn nn m f n) = if m.testBit n then jn (hs jn nn m g n) (g n) else hs jn nn m g n
    rw [ih (fun k hk => h k (by omega)), h n (by omega)]
theorem hd_congr {wt : Int64 → Int64 → Nat → Int64} {nn : Int64} {op op2 : Nat → Bool} {K : Nat → Nat} {f g : Nat → Int64} {k : Nat} (n : Nat) (h0 : ∀ u, u < n → op u = op2 u) (h : ∀ u, u < n → op u = true → f u = g u) : hd wt nn op K f k n = hd wt nn op2 K g k n := by
  induction n with
  | zero => rfl
  | succ n ih =>
    show (if op n && decide (K n = k) then wt (hd wt nn op K f k n) (f n) n else hd wt nn op K f k n) = if op2 n && decide (K n = k) then wt (hd wt nn op2 K g k n) (g n) n else hd wt nn op2 K g k n
    rw [ih (fun k hk => h0 k (by omega)) (fun k hk => h k (by omega)), ← h0 n (by omega)]
    cases ho : op n with
    | false => rfl
    | true => rw [h n (by omega) ho]
theorem pe_ground {w0 w1 N : Nat} {nn en : Int64} {jn : Int64 → Int64 → Int64} {wt : Int64 → Int64 → Nat → Int64} {e : Nat} {I : MI} {J : MJ} {Q : MI → MJ → Prop} (hw : WayOK w0 nn en jn wt N (I 19) (J 57)) (h57 : w1 ≠ 57) (hE : I 17 4 = nI e) (he : e < 16)
    (hQ : ∀ J' : MJ, (∀ c, c ≠ w1 → J' c = J c) → (∀ a, a < 4 → J' w1 a = if e.testBit a then en else nn) → (∀ j, 4 ≤ j → J' w1 j = J w1 j) → Q I J') : P_X4_ground w0 w1 I J Q := by
  refine lpx_up (fun i z => ∃ J' : MJ, z = (nI i, I, J') ∧ (∀ c, c ≠ w1 → J' c = J c) ∧ (∀ a, a < i → J' w1 a = if e.testBit a then en else nn) ∧ ∀ j, i ≤ j → J' w1 j = J w1 j) 4 ?_ ?_ 0 _ (Nat.zero_le _) ⟨J, rfl, fun _ _ => rfl, fun a ha => absurd ha (Nat.not_lt_zero a), fun _ _ => rfl⟩
  · rintro z k ⟨J', rfl, g1, g2, g3⟩
    exact pk_le 4 4 (fun _ => hQ J' g1 g2 g3) (fun c => by omega)
  · rintro i z k hi ⟨J', rfl, g1, g2, g3⟩ hk
    have hw' := hw I J' rfl (g1 57 (fun q => h57 q.symm))
    have fin : ∀ v : Int64, v = (if e.testBit i then en else nn) → P_X4_ground_34 w0 w1 Q k (nI i) (nI i) v I J' := fun v hv => by
      refine ⟨vp_in_nI (by omega) (by decide), ?_⟩
      rintro J3 rfl
      rw [nI_1, nI_clamp (by omega)]
      refine hk _ ⟨_, rfl, fun c hc => (wJ_n _ hc _).trans (g1 c hc), fun a ha => ?_, fun j hj => ?_⟩
      · rw [mJ_s]
        by_cases ha2 : a = i
        · subst ha2; rw [pk_uLs]; exact hv
        · rw [pk_uLn ha2]; exact g2 a (by omega)
      · rw [mJ_s, pk_uLn (by omega)]; exact g3 j (by omega)
    refine pk_le 4 i (fun c => by omega) (fun _ => ?_)
    rw [hE]
    refine ⟨fun c => hw'.1 _ (fin _ ?_), fun c => hw'.2.1 _ (fin _ ?_)⟩
    · rw [bitI0 (by omega) (by omega)] at c; rw [if_neg (by rw [c]; decide)]
    · rw [bitI0 (by omega) (by omega)] at c; rw [if_pos (by simpa using c)]
theorem pe_headsOf {w0 N : Nat} {nn en : Int64} {jn : Int64 → Int64 → Int64} {wt : Int64 → Int64 → Nat → Int64} {m : Nat} {I : MI} {J : MJ} {Q : Int64 → MI → MJ → Prop} (hw : WayOK w0 nn en jn wt N (I 19) (J 57)) (hm : m < 16) (hQ : Q (hs jn nn m (J 53) 4) I J) : P_X4_headsOf w0 (nI m) I J Q := by
  have hw' := hw I J rfl rfl
  refine hw'.1 _ ?_
  refine lpx_up (fun i z => z = (nI m, hs jn nn m (J 53) i, nI i, I, J)) 4 ?_ ?_ 0 _ (Nat.zero_le _) rfl
  · rintro z k rfl
    exact pk_le 4 4 (fun _ => hQ) (fun c => by omega)
  · rintro i z k hi rfl hk
    refine pk_le 4 i (fun c => by omega) (fun _ => ⟨fun c => ?_, fun c => ⟨vp_in_nI hi (by decide), hw'.2.2.1 _ _ _ ?_⟩⟩)
    · rw [bitI0 (by omega) (by omega)] at c
      refine hk _ ?_
      have e : hs jn nn m (J 53) (i + 1) = hs jn nn m (J 53) i := if_neg (by rw [c]; decide)
      rw [e, nI_1]
    · rw [bitI0 (by omega) (by omega)] at c
      refine hk _ ?_
      have e : hs jn nn m (J 53) (i + 1) = jn (hs jn nn m (J 53) i) (J 53 i) := if_pos (by simpa using c)
      rw [e, nI_1, nI_clamp (by omega)]
theorem pe_tailBehind {w : Nat} {h : Ho} {p s u : Nat} {I : MI} {J : MJ} {Q : Int64 → MI → MJ → Prop} (h1 : hoOK h) (hu : u < hoW h) (hK : I 13 u = nI (hoK h u)) (hS : I 52 u = nI s) (hs : s ≤ p) (hp : p < 1296) (hQ : Q (J w ((p - s) * 4 + hoK h u)) I J) : P_X4_tailBehind w (nI p) (nI u) I J Q := by
  have hw10 := h1.1
  have hk4 := (h1.2 u hu).1
  have hv : vp_in (nI u) 10 := vp_in_nI (by omega) (by decide)
  have e : (nI p - I 52 (nI u).toNatClampNeg) * (4 : Int32) + I 13 (nI u).toNatClampNeg = nI ((p - s) * 4 + hoK h u) := by
    rw [nI_clamp (by omega), hK, hS, pk_sub hs, show (4 : Int32) = nI 4 from rfl, pk_mul, nI_add]
  refine ⟨hv, hv, ?_⟩
  rw [e]
  refine ⟨fun c => absurd c (nI_pos (by omega)), fun _ => ?_⟩
  refine pk_le 5184 ((p - s) * 4 + hoK h u) (fun c => by omega) (fun _ => ⟨vp_in_nI (by omega) (by decide), ?_⟩)
  rw [nI_clamp (by omega)]; exact hQ
theorem pe_gather {w0 w3 : Nat} {h : Ho} {nn en : Int64} {jn : Int64 → Int64 → Int64} {wt : Int64 → Int64 → Nat → Int64} {x p : Nat} {st : Nat → Nat} {g : Nat → Int64} {op : Nat → Bool} {I : MI} {J : MJ} {Q : MI → MJ → Prop} (h1 : hoOK h) (hC : lexC I J h) (hw : WayOK w0 nn en jn wt (hoW h) (I 19) (J 57)) (h53 : w3 ≠ 53) (hx : x < 1024) (hp : p < 1296)
    (hop : ∀ u, u < hoW h → x.testBit u = op u) (hg : ∀ u, u < hoW h → op u = true → I 52 u = nI (st u) ∧ st u ≤ p ∧ J w3 ((p - st u) * 4 + hoK h u) = g u)
    (hQ : ∀ J' : MJ, (∀ c, c ≠ 53 → J' c = J c) → (∀ k, k < 4 → J' 53 k = hd wt nn op (hoK h) g k (hoW h)) → Q I J') : P_X4_gather w0 w3 (nI x) (nI p) I J Q := by
  have hw10 := h1.1
  refine lpx_up (fun i z => ∃ J' : MJ, z = (nI x, nI p, nI i, I, J') ∧ (∀ c, c ≠ 53 → J' c = J c) ∧ ∀ k, k < i → J' 53 k = nn) 4 ?_ ?_ 0 _ (Nat.zero_le _) ⟨J, rfl, fun _ _ => rfl, fun a ha => absurd ha (Nat.not_lt_zero a)⟩
  · rintro z k ⟨J1, rfl, g1, g2⟩
    refine pk_le 4 4 (fun _ => ?_) (fun c => by omega)
    refine lpx_up (fun i z => ∃ J' : MJ, z = (nI x, nI p, nI i, I, J') ∧ (∀ c, c ≠ 53 → J' c = J c) ∧ ∀ k, k < 4 → J' 53 k = hd wt nn op (hoK h) g k i) (hoW h) ?_ ?_ 0 _ (Nat.zero_le _) ⟨J1, rfl, g1, g2⟩
    · rintro z k2 ⟨J', rfl, f1, f2⟩
      exact pk_le (hoW h) (hoW h) (fun _ => hQ J' f1 f2) (fun c => by omega) hC.1
    · rintro u z k2 hu ⟨J', rfl, f1, f2⟩ hk2
      have hw' := hw I J' rfl (f1 57 (by decide))
      have hcl : (nI u).toNatClampNeg = u := nI_clamp (by omega)
      have hk4 := (h1.2 u hu).1
      refine pk_le (hoW h) u (fun c => by omega) (fun _ => ⟨fun c => ?_, fun c => ⟨vp_in_nI (by omega) (by decide), ?_⟩⟩) hC.1
      · rw [bitI0 (by omega) (by omega), hop u hu] at c
        show k2 (nI x, nI p, nI u + 1, I, J')
        rw [nI_1]
        refine hk2 _ ⟨J', rfl, f1, fun k hk => ?_⟩
        have e : hd wt nn op (hoK h) g k (u + 1) = hd wt nn op (hoK h) g k u := if_neg (by rw [c]; simp)
        rw [e]; exact f2 k hk
      · rw [bitI0 (by omega) (by omega), hop u hu] at c
        have c' : op u = true := by simpa using c
        obtain ⟨q1, q2, q3⟩ := hg u hu c'
        rw [hcl, hC.2.1 u hu]
        have hvk : vp_in (nI (hoK h u)) 4 := vp_in_nI hk4 (by decide)
        refine ⟨hvk, pe_tailBehind h1 hu (hC.2.1 u hu) q1 q2 hp (hw'.2.2.2 _ _ u _ hu ⟨hvk, ?_⟩)⟩
        rintro J9 rfl
        show k2 (nI x, nI p, nI u + 1, I, _)
        rw [nI_1, nI_clamp (by omega), f1 w3 h53, q3]
        refine hk2 _ ⟨_, rfl, fun c hc => (wJ_n _ hc _).trans (f1 c hc), fun k hk => ?_⟩
        rw [mJ_s]
        by_cases hkk : k = hoK h u
        · subst hkk
          have e : hd wt nn op (hoK h) g (hoK h u) (u + 1) = wt (hd wt nn op (hoK h) g (hoK h u) u) (g u) u := if_pos (by rw [c']; simp)
          rw [pk_uLs, e, f2 _ hk]
        · have e : hd wt nn op (hoK h) g k (u + 1) = hd wt nn op (hoK h) g k u := if_neg (by rw [c', decide_eq_false (fun q => hkk q.symm)]; decide)
          rw [pk_uLn hkk, e]; exact f2 k hk
  · rintro i z k hi ⟨J1, rfl, g1, g2⟩ hk
    have hw' := hw I J1 rfl (g1 57 (by decide))
    refine pk_le 4 i (fun c => by omega) (fun _ => hw'.1 _ ⟨vp_in_nI hi (by decide), ?_⟩)
    rintro J9 rfl
    rw [nI_1, nI_clamp (by omega)]
    refine hk _ ⟨_, rfl, fun c hc => (wJ_n _ hc _).trans (g1 c hc), fun k hk => ?_⟩
    rw [mJ_s]
    by_cases hki : k = i
    · subst hki; rw [pk_uLs]
    · rw [pk_uLn hki]; exact g2 k (by omega)
theorem sub1 (x : Int32) : x + (-1) = x - 1 := by rw [Int32.sub_eq_add_neg]
theorem pe_fold {w0 w2 w3 al : Nat} {h : Ho} {t : Se} {nn en : Int64} {jn : Int64 → Int64 → Int64} {wt : Int64 → Int64 → Nat → Int64} {G F : Nat → Nat → Int64} {op : Nat → Nat → Bool} {I : MI} {J : MJ} {Q : Int64 → MI → MJ → Prop} (h1 : hoOK h) (h2 : seOK h t) (hC : lexC I J h) (h5 : setX (I 17) (I 18) (I 19) (I 20) h t) (hL : LatOK (I 46) (I 48) (I 49) (I 50) (I 52) h t)
    (hw : WayOK w0 nn en jn wt (hoW h) (I 19) (J 57)) (h2n : w2 ≠ 53) (h3n : w3 ≠ 53) (h3m : w3 ≠ 57) (h3l : w3 ≠ 15) (hal : al < 1024)
    (hop : ∀ p u, u < hoW h → 0 < p → (∃ a, Rc h t p a) → (op p u = true ↔ al.testBit u = true ∧ Op h t p u))
    (hG : ∀ q a, a < 4 → Rc h t q a → (w2 ≠ w3 ∨ q = 0) → J w2 (q * 4 + a) = G q a) (hFG : w2 = w3 → F = G)
    (hF : ∀ p a, 0 < p → a < 4 → Rc h t p a → F p a = hs jn nn (msk t a) (fun k => hd wt nn (op p) (hoK h) (fun u => G (p - pr h t u) (hoK h u)) k (hoW h)) 4)
    (hQ : ∀ J' : MJ, (∀ c, c ≠ 53 → c ≠ w3 → J' c = J c) → (∀ q a, a < 4 → Rc h t q a → 0 < q → J' w3 (q * 4 + a) = F q a) → (∀ a, a < 4 → J' w3 a = J w3 a) → Q (if 0 < tp t then hs jn nn (seG t) (fun k => hd wt nn (op (tp t)) (hoK h) (fun u => G (tp t - pr h t u) (hoK h u)) k (hoW h)) 4 else nn) I J') : P_X4_fold w0 w2 w3 (nI al) I J Q := by
  have hw10 := h1.1
  have htp := tp_1296 h2
  have h2' := seOK_O h2
  obtain ⟨L1, L2, L3, L4, m, od, L5, L6, L7, L8, L9⟩ := id hL
  obtain ⟨s1, s2, s3, s4, s5, s6⟩ := id h5
  refine (hw I J rfl rfl).1 _ ?_
  refine pk_lt (tp t) 1296 (fun _ => ?_) (fun c => by omega) L1
  rw [L5]
  refine lpx_up (fun j z => ∃ (J' : MJ) (v : Int64), z = (nI al, v, nI (m - j) - 1, I, J') ∧ (∀ c, c ≠ 53 → c ≠ w3 → J' c = J c) ∧ (∀ a, a < 4 → J' w3 a = J w3 a) ∧ (∀ i a, m - j ≤ i → i < m → a < 4 → Rc h t (od i) a → J' w3 (od i * 4 + a) = F (od i) a) ∧ ((0 < tp t → v = nn ∧ j = 0 ∨ v = nn ∧ ¬ (∃ i, m - j ≤ i ∧ i < m ∧ od i = tp t) ∨ v = hs jn nn (seG t) (fun k => hd wt nn (op (tp t)) (hoK h) (fun u => G (tp t - pr h t u) (hoK h u)) k (hoW h)) 4) ∧ (¬ 0 < tp t → v = nn))) m ?_ ?_ 0 _ (Nat.zero_le _) ⟨J, nn, rfl, fun _ _ _ => rfl, fun _ _ => rfl, fun i a c1 c2 => by omega, fun _ => Or.inl ⟨rfl, rfl⟩, fun _ => rfl⟩
  · rintro z k ⟨J', v, rfl, g1, g0, g2, g3, g4⟩
    rw [Nat.sub_self] at g2 g3 ⊢
    refine ⟨fun _ => ?_, fun c => absurd (show nI 0 - 1 < (0 : Int32) by decide) c⟩
    have hv : v = if 0 < tp t then hs jn nn (seG t) (fun k => hd wt nn (op (tp t)) (hoK h) (fun u => G (tp t - pr h t u) (hoK h u)) k (hoW h)) 4 else nn := by
      by_cases ht : 0 < tp t
      · rw [if_pos ht]
        obtain ⟨i, r1, r2⟩ := L9 (tp t) ht (Nat.le_refl _) ⟨4, Rc_top h t⟩
        rcases g3 ht with ⟨_, q⟩ | ⟨_, q⟩ | q
        · omega
        · exact absurd ⟨i, Nat.zero_le _, r1, r2⟩ q
        · exact q
      · rw [if_neg ht]; exact g4 ht
    rw [hv]
    refine hQ J' g1 (fun q a ha hr hq => ?_) g0
    obtain ⟨i, r1, r2⟩ := L9 q hq (by have := Rc_le h1 hr; omega) ⟨a, hr⟩
    rw [← r2] at hr ⊢
    exact g2 i a (Nat.zero_le _) r1 ha hr
  · rintro j z k hj ⟨J', v, rfl, g1, g0, g2, g3, g4⟩ hk
    obtain ⟨i, hi⟩ : ∃ i, m - j = i + 1 := ⟨m - j - 1, by omega⟩
    have hi2 : m - (j + 1) = i := by omega
    have him : i < m := by omega
    rw [hi] at g2 g3 ⊢
    rw [hi2] at hk
    have ei : nI (i + 1) - 1 = nI i := nI_pred i
    rw [ei]
    obtain ⟨o1, o2, o3, o4⟩ := L7 i him
    have hcl : (nI i).toNatClampNeg = i := nI_clamp (by omega)
    have hop2 := hop (od i)
    refine ⟨fun c => absurd c (nI_pos (by omega)), fun _ => ⟨vp_in_nI (by omega) (by decide), ?_⟩⟩
    rw [hcl, o1, nI_clamp (by omega)]
    have hvp : vp_in (nI (od i)) 1944 := vp_in_nI (by omega) (by decide)
    refine ⟨hvp, ?_⟩
    obtain ⟨f, f1, f2, f3⟩ := L4 (od i) o2 o3 o4
    have hj15 : J' 15 = J 15 := g1 15 (by decide) (fun q => h3l q.symm)
    have hj57 : J' 57 = J 57 := g1 57 (by decide) (fun q => h3m q.symm)
    rw [f1, nI_and]
    refine pe_gather (op := op (od i)) (st := pr h t) (g := fun u => G (od i - pr h t u) (hoK h u)) h1 ⟨hC.1, hC.2.1, fun u hu => by rw [hj15]; exact hC.2.2 u hu⟩ (by rw [hj57]; exact hw) h2n (Nat.lt_of_le_of_lt Nat.and_le_left hal) (by omega) (fun u hu => ?_) (fun u hu ho => ?_) (fun J2 n1 n2 => ?_)
    · rw [Nat.testBit_and]
      have := hop2 u hu o2 o4
      have h3 := f3 u hu
      cases hb : op (od i) u with
      | true =>
        obtain ⟨r1, r2⟩ := this.mp hb
        rw [r1, h3.mpr r2]; rfl
      | false =>
        cases ha : al.testBit u with
        | false => rfl
        | true =>
          cases hfu : f.testBit u with
          | false => rfl
          | true => exact absurd (hb.symm.trans (this.mpr ⟨ha, h3.mp hfu⟩)) (by decide)
    · obtain ⟨r1, r2⟩ := (hop2 u hu o2 o4).mp ho
      obtain ⟨q1, q2, q3⟩ := Op_fit r2
      have hfs := fit_step h1 hu o3 q2
      refine ⟨L2 u hu q1 (fit_up q2), hfs.2.1, ?_⟩
      have hrc := Op_Rc o2 hu r2
      have hk4 := (h1.2 u hu).1
      by_cases hz : od i - pr h t u = 0
      · by_cases h23 : w2 = w3
        · subst h23
          rw [hz] at hrc ⊢
          rw [Nat.zero_mul, Nat.zero_add, g0 _ hk4]
          have := hG 0 _ hk4 hrc (Or.inr rfl)
          rwa [Nat.zero_mul, Nat.zero_add] at this
        · rw [g1 w2 h2n h23]; exact hG _ _ hk4 hrc (Or.inl h23)
      · by_cases h23 : w2 = w3
        · subst h23
          obtain ⟨i2, r3, r4⟩ := L9 (od i - pr h t u) (by omega) (by omega) ⟨_, hrc⟩
          have hii : i < i2 := by
            rcases Nat.lt_or_ge i i2 with c | c
            · exact c
            · rcases Nat.lt_or_ge i2 i with c2 | c2
              · have := L8 i2 i c2 him; omega
              · rw [show i2 = i by omega] at r4; omega
          rw [← r4] at hrc ⊢
          rw [g2 i2 _ (by omega) r3 hk4 hrc, hFG rfl]
        · rw [g1 w2 h2n h23]; exact hG _ _ hk4 hrc (Or.inl h23)
    · -- the kinds
      have hj57b : J2 57 = J 57 := (n1 57 (by decide)).trans hj57
      have hw3 : J2 w3 = J' w3 := n1 w3 h3n
      obtain ⟨c9, c91, c92, c93, c94⟩ := L3 (od i) o3
      refine lpx_up (fun a z => ∃ J3 : MJ, z = (nI al, v, nI i, nI (od i), nI a, I, J3) ∧ (∀ c, c ≠ 53 → c ≠ w3 → J3 c = J c) ∧ J3 53 = J2 53 ∧ (∀ x, (x < od i * 4 ∨ od i * 4 + 4 ≤ x) → J3 w3 x = J' w3 x) ∧ ∀ b, b < a → Rc h t (od i) b → J3 w3 (od i * 4 + b) = F (od i) b) 4 ?_ ?_ 0 _ (Nat.zero_le _) ⟨J2, rfl, fun c c1 c2 => (n1 c c1).trans (g1 c c1 c2), rfl, fun x _ => by rw [hw3], fun b hb => absurd hb (Nat.not_lt_zero b)⟩
      · rintro z k2 ⟨J3, rfl, e1, e2, e3, e4⟩
        have fin : ∀ v2 : Int64, ((0 < tp t → v2 = nn ∧ j + 1 = 0 ∨ v2 = nn ∧ ¬ (∃ i3, i ≤ i3 ∧ i3 < m ∧ od i3 = tp t) ∨ v2 = hs jn nn (seG t) (fun k => hd wt nn (op (tp t)) (hoK h) (fun u => G (tp t - pr h t u) (hoK h u)) k (hoW h)) 4) ∧ (¬ 0 < tp t → v2 = nn)) → P_X4_fold_136 w0 w2 w3 Q k (nI al) v2 (nI i) I J3 := fun v2 hv2 => by
          show k (nI al, v2, nI i + (-1), I, J3)
          rw [sub1]
          refine hk _ ⟨J3, v2, rfl, e1, fun a ha => ?_, fun i3 a c1 c2 ha hr => ?_, hv2⟩
          · rw [e3 a (by omega)]; exact g0 a ha
          · by_cases hii : i3 = i
            · subst hii; exact e4 a ha hr
            · have := L8 i i3 (by omega) c2
              rw [e3 _ (Or.inl (by omega))]; exact g2 i3 a (by omega) c2 ha hr
        refine pk_le 4 4 (fun _ => ?_) (fun c => by omega)
        refine ⟨fun c => fin v ⟨fun ht => ?_, g4⟩, fun c => ?_⟩
        · have hne : od i ≠ tp t := fun e => c (by rw [e, L1])
          have hno : ¬ (∃ i3, i + 1 ≤ i3 ∧ i3 < m ∧ od i3 = tp t) → ¬ ∃ i3, i ≤ i3 ∧ i3 < m ∧ od i3 = tp t := fun q ⟨i3, q1, q2, q3⟩ => by
            by_cases hii : i3 = i
            · subst hii; exact hne q3
            · exact q ⟨i3, by omega, q2, q3⟩
          rcases g3 ht with ⟨q1, q2⟩ | ⟨q1, q2⟩ | q
          · refine Or.inr (Or.inl ⟨q1, hno (fun ⟨i3, r1, r2, r3⟩ => by omega)⟩)
          · exact Or.inr (Or.inl ⟨q1, hno q2⟩)
          · exact Or.inr (Or.inr q)
        · have heq : od i = tp t := by rw [L1] at c; exact (nI_eq (by omega) (by omega)).mp c
          rw [s4]
          refine pe_headsOf (nn := nn) (en := en) (jn := jn) (wt := wt) (N := hoW h) (by rw [e1 57 (by decide) (fun q => h3m q.symm)]; exact hw) h2.2.2.2.1 (fin _ ⟨fun _ => Or.inr (Or.inr ?_), fun ht => by omega⟩)
          rw [e2]
          refine hs_congr 4 (fun k hk4 => ?_)
          rw [n2 k hk4, heq]
      · rintro a z k2 ha ⟨J3, rfl, e1, e2, e3, e4⟩ hk2
        refine pk_le 4 a (fun c => by omega) (fun _ => ⟨hvp, ?_⟩)
        rw [nI_clamp (by omega), c91]
        refine ⟨fun c => ?_, fun c => ⟨vp_in_nI ha (by decide), ?_⟩⟩
        · rw [bitI0 (by omega) (by omega)] at c
          show k2 (nI al, v, nI i, nI (od i), nI a + 1, I, J3)
          rw [nI_1]
          refine hk2 _ ⟨J3, rfl, e1, e2, e3, fun b hb hr => ?_⟩
          rcases Nat.lt_or_ge b a with q | q
          · exact e4 b q hr
          · rw [show b = a by omega] at hr
            exact absurd (c.symm.trans ((c94 a ha).mpr hr)) (by decide)
        · rw [bitI0 (by omega) (by omega)] at c
          rw [nI_clamp (by omega), s3 a ha]
          refine pe_headsOf (nn := nn) (en := en) (jn := jn) (wt := wt) (N := hoW h) (by rw [e1 57 (by decide) (fun q => h3m q.symm)]; exact hw) (h2.2.2.1 a ha) ?_
          have e5 : nI (od i) * (4 : Int32) + nI a = nI (od i * 4 + a) := by rw [show (4 : Int32) = nI 4 from rfl, pk_mul, nI_add]
          rw [e5]
          refine ⟨vp_in_nI (by omega) (by decide), ?_⟩
          rintro J4 rfl
          show k2 (nI al, v, nI i, nI (od i), nI a + 1, I, _)
          rw [nI_1, nI_clamp (by omega)]
          refine hk2 _ ⟨_, rfl, fun c c1 c2 => (wJ_n _ c2 _).trans (e1 c c1 c2), (wJ_n _ (fun q => h3n q.symm) _).trans e2, fun x hx => ?_, fun b hb hr => ?_⟩
          · rw [mJ_s, pk_uLn (by omega)]; exact e3 x hx
          · rw [mJ_s]
            by_cases hba : b = a
            · subst hba
              rw [pk_uLs, hF (od i) b o2 ha hr, e2]
              have em : msk t b = seF t b := by unfold msk; rw [if_neg (by omega)]
              rw [em]
              exact hs_congr 4 (fun k hk4 => n2 k hk4)
            · rw [pk_uLn (by omega)]; exact e4 b (by omega) hr
