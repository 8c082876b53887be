/-! ===== counting by the class ===== -/
theorem WayOK_40 (N : Nat) (R : Nat → Int32) (S : Nat → Int64) : WayOK 40 0 1 (fun x y => x + y) (fun x y _ => x + y) N R S := fun I J _ _ =>
  ⟨fun Q q => ⟨fun _ => q, fun e => absurd e (by decide), fun e => absurd e (by decide)⟩, fun Q q => ⟨fun _ => q, fun e => absurd e (by decide), fun e => absurd e (by decide)⟩, fun x y Q q => ⟨fun _ => q, fun e => absurd e (by decide), fun e => absurd e (by decide)⟩, fun x y u Q _ q => ⟨fun _ => q, fun e => absurd e (by decide), fun e => absurd e (by decide)⟩⟩
theorem hd_cnt {op : Nat → Bool} {K : Nat → Nat} {G : Nat → Int64} {g : Nat → Nat} {k : Nat} (n : Nat) (hg : ∀ u, u < n → op u = true → G u = lN (g u)) : hd (fun x y _ => x + y) 0 op K G k n = lN (sm (fun u => if op u && decide (K u = k) then g u else 0) n) := by
  induction n with
  | zero => rfl
  | succ n ih =>
    show (if op n && decide (K n = k) then hd (fun x y _ => x + y) 0 op K G k n + G n else hd (fun x y _ => x + y) 0 op K G k n) = lN (sm (fun u => if op u && decide (K u = k) then g u else 0) n + (if op n && decide (K n = k) then g n else 0))
    rw [ih (fun u hu => hg u (by omega))]
    by_cases hb : (op n && decide (K n = k)) = true
    · rw [if_pos hb, if_pos hb, hg n (by omega) (Bool.and_eq_true _ _ ▸ hb).1, lN_add]
    · rw [if_neg hb, if_neg hb, Nat.add_zero]
theorem hs_cnt {m : Nat} {f : Nat → Nat} (n : Nat) : hs (fun x y => x + y) 0 m (fun k => lN (f k)) n = lN (sm (fun k => if m.testBit k then f k else 0) n) := by
  induction n with
  | zero => rfl
  | succ n ih =>
    show (if m.testBit n then hs (fun x y => x + y) 0 m (fun k => lN (f k)) n + lN (f n) else hs (fun x y => x + y) 0 m (fun k => lN (f k)) n) = lN (sm (fun k => if m.testBit k then f k else 0) n + (if m.testBit n then f n else 0))
    rw [ih]
    by_cases hb : m.testBit n = true
    · rw [if_pos hb, if_pos hb, lN_add]
    · rw [if_neg hb, if_neg hb, Nat.add_zero]
theorem regroup {op : Nat → Bool} {K g : Nat → Nat} {m : Nat} (n : Nat) (hK : ∀ u, u < n → K u < 4) : sm (fun k => if m.testBit k then sm (fun u => if op u && decide (K u = k) then g u else 0) n else 0) 4 = sm (fun u => if op u && m.testBit (K u) then g u else 0) n := by
  induction n with
  | zero =>
    show sm (fun k => if m.testBit k then 0 else 0) 4 = 0
    have : ∀ k, (if m.testBit k then 0 else 0) = 0 := fun k => by split <;> rfl
    rw [show (fun k => if m.testBit k then 0 else 0) = fun _ => 0 from funext this]; rfl
  | succ n ih =>
    rw [show sm (fun u => if op u && m.testBit (K u) then g u else 0) (n + 1) = sm (fun u => if op u && m.testBit (K u) then g u else 0) n + (if op n && m.testBit (K n) then g n else 0) from rfl, ← ih (fun u hu => hK u (by omega))]
    have e : ∀ k, (if m.testBit k then sm (fun u => if op u && decide (K u = k) then g u else 0) (n + 1) else 0) = (if m.testBit k then sm (fun u => if op u && decide (K u = k) then g u else 0) n else 0) + (if m.testBit k && (op n && decide (K n = k)) then g n else 0) := fun k => by
      by_cases hb : m.testBit k = true
      · rw [if_pos hb, if_pos hb, hb, Bool.true_and]; rfl
      · rw [if_neg hb, if_neg hb]
        rw [Bool.not_eq_true] at hb
        rw [hb, Bool.false_and]; rfl
    rw [show (fun k => if m.testBit k then sm (fun u => if op u && decide (K u = k) then g u else 0) (n + 1) else 0) = _ from funext e, sm_add]
    congr 1
    have hk := hK n (by omega)
    generalize K n = x at *
    generalize op n = b
    generalize g n = y
    show 0 + _ + _ + _ + _ = _
    rcases (show x = 0 ∨ x = 1 ∨ x = 2 ∨ x = 3 by omega) with rfl | rfl | rfl | rfl <;> cases b <;> simp
theorem hs_hd_cnt {op : Nat → Bool} {K g : Nat → Nat} {G : Nat → Int64} {m : Nat} (n : Nat) (hK : ∀ u, u < n → K u < 4) (hg : ∀ u, u < n → op u = true → G u = lN (g u)) : hs (fun x y => x + y) 0 m (fun k => hd (fun x y _ => x + y) 0 op K G k n) 4 = lN (sm (fun u => if op u && m.testBit (K u) then g u else 0) n) := by
  rw [show (fun k => hd (fun x y _ => x + y) 0 op K G k n) = fun k => lN (sm (fun u => if op u && decide (K u = k) then g u else 0) n) from funext (fun k => hd_cnt n hg), hs_cnt, regroup n hK]
theorem may_congr {h : Ho} {t : Se} {ok ok2 : Nat → Bool} {p a w : Nat} (e : ok w = ok2 w) : may h t ok p a w = may h t ok2 p a w := by unfold may; rw [e]
theorem V_congr {h : Ho} {t : Se} {ok ok2 : Nat → Bool} (e : ∀ w, w < hoW h → ok w = ok2 w) (p a : Nat) : V h t ok p a = V h t ok2 p a := by
  have key : ∀ n p a, Vf h t ok n p a = Vf h t ok2 n p a := by
    intro n
    induction n with
    | zero => intro p a; rfl
    | succ n ih =>
      intro p a
      show (if p = 0 then eb t a else sm _ (hoW h)) = (if p = 0 then eb t a else sm _ (hoW h))
      congr 1
      refine sm_congr (fun w hw => ?_)
      rw [may_congr (e w hw), ih]
  exact key p p a
/-- the words that aren't barred and are among those told by bits -/
def okA (t : Se) (al : Nat) (w : Nat) : Bool := okB t w && al.testBit w
theorem okA_all {h : Ho} {t : Se} (h1 : hoOK h) {w : Nat} (hw : w < hoW h) : okA t 1023 w = okB t w := by
  unfold okA
  have hw10 := h1.1
  have : ∀ w : Fin 10, (1023 : Nat).testBit w.val = true := by decide
  rw [this ⟨w, by omega⟩, Bool.and_true]
/-- the words that open at a place, among those told by bits (classically) -/
theorem opEx (h : Ho) (t : Se) (al : Nat) : ∃ op : Nat → Nat → Bool, ∀ p u, op p u = true ↔ al.testBit u = true ∧ Op h t p u :=
  ⟨fun p u => @decide (al.testBit u = true ∧ Op h t p u) (Classical.propDecidable _), fun p u => @decide_eq_true_iff _ (Classical.propDecidable _)⟩
/-- what the words that open at a place, let behind a kind, sum up to -/
theorem op_sum {h : Ho} {t : Se} {al p a : Nat} {op : Nat → Nat → Bool} {f : Nat → Nat → Nat} (hop : ∀ p u, op p u = true ↔ al.testBit u = true ∧ Op h t p u) (hr : Rc h t p a) (hz : ∀ u, u < hoW h → p - pr h t u = 0 → (seE t).testBit (hoK h u) = false → f (p - pr h t u) (hoK h u) = 0) : sm (fun u => if op p u && (msk t a).testBit (hoK h u) then f (p - pr h t u) (hoK h u) else 0) (hoW h) = sm (fun u => if may h t (okA t al) p a u then f (p - pr h t u) (hoK h u) else 0) (hoW h) := by
  refine sm_congr (fun u hu => ?_)
  by_cases hm : may h t (okA t al) p a u = true
  · rw [if_pos hm]
    obtain ⟨m1, m2, m3⟩ := may_iff.mp hm
    unfold okA at m1; rw [Bool.and_eq_true] at m1
    by_cases he : p - pr h t u = 0 → (seE t).testBit (hoK h u) = true
    · have : op p u = true := (hop p u).mpr ⟨m1.2, a, hr, may_iff.mpr ⟨m1.1, m2, m3⟩, he⟩
      rw [this, m2]; rfl
    · have e0 : p - pr h t u = 0 ∧ (seE t).testBit (hoK h u) = false := by
        by_cases e0 : p - pr h t u = 0
        · refine ⟨e0, ?_⟩
          cases hb : (seE t).testBit (hoK h u) with
          | false => rfl
          | true => exact absurd (fun _ => hb) he
        · exact absurd (fun q => absurd q e0) he
      rw [hz u hu e0.1 e0.2]; split <;> rfl
  · rw [if_neg hm, if_neg]
    intro hb
    rw [Bool.and_eq_true] at hb
    obtain ⟨b1, b2⟩ := (hop p u).mp hb.1
    obtain ⟨q1, q2, q3⟩ := Op_fit b2
    exact hm (may_iff.mpr ⟨by unfold okA; rw [q1, b1]; rfl, hb.2, q2⟩)
/-- ground and fold of counting, in one row of tails -/
theorem pe_foldC {w al : Nat} {h : Ho} {t : Se} {I : MI} {J : MJ} {Q : Int64 → MI → MJ → Prop} {K : MI → MJ → Prop} (hK9 : ∀ J1 : MJ, P_X4_fold 40 w w (nI al) I J1 Q → K I J1) (h1 : hoOK h) (h2 : seOK h t) (hC : lexC I J h) (h5 : setX (I 17) (I 18) (I 19) (I 20) h t) (hL : LatOK (I 46) (I 48) (I 49) (I 50) (I 52) h t) (hw : w = 41 ∨ w = 44 ∨ w = 45) (hal : al < 1024)
    (hQ : ∀ J' : MJ, (∀ c, c ≠ 53 → c ≠ w → J' c = J c) → TlOK (J' w) (fun p a => lN (V h t (okA t al) p a)) h t → Q (lN (V h t (okA t al) (tp t) 4)) I J') : P_X4_ground 40 w I J K := by
  have hE := h2.2.2.2.2.1
  refine pe_ground (WayOK_40 (hoW h) _ _) (by omega) h5.2.2.2.2.1 hE (fun J1 g1 g2 g3 => ?_)
  refine hK9 J1 ?_
  obtain ⟨op, hop⟩ := opEx h t al
  have e0 : ∀ a, a < 4 → J1 w a = lN (V h t (okA t al) 0 a) := fun a ha => by
    rw [g2 a ha, V_0]; unfold eb; split <;> rfl
  have hz : ∀ p u, u < hoW h → p - pr h t u = 0 → (seE t).testBit (hoK h u) = false → V h t (okA t al) (p - pr h t u) (hoK h u) = 0 := fun p u hu e1 e2 => by
    rw [e1, V_0]; unfold eb; rw [e2]; rfl
  have hval : ∀ p a, 0 < p → p ≤ tp t → Rc h t p a → hs (fun x y => x + y) 0 (msk t a) (fun k => hd (fun x y _ => x + y) 0 (op p) (hoK h) (fun u => lN (V h t (okA t al) (p - pr h t u) (hoK h u))) k (hoW h)) 4 = lN (V h t (okA t al) p a) := fun p a hp0 hp hr => by
    rw [hs_hd_cnt (g := fun u => V h t (okA t al) (p - pr h t u) (hoK h u)) (hoW h) (fun u hu => (h1.2 u hu).1) (fun u hu _ => rfl), op_sum (f := fun q b => V h t (okA t al) q b) hop hr (hz p), ← V_p h1 hp0 hp]
  refine pe_fold (G := fun p a => lN (V h t (okA t al) p a)) (F := fun p a => lN (V h t (okA t al) p a)) (op := op) h1 h2 ⟨hC.1, hC.2.1, fun u hu => by rw [g1 15 (by omega)]; exact hC.2.2 u hu⟩ h5 hL (by rw [g1 57 (by omega)]; exact WayOK_40 (hoW h) _ _) (by omega) (by omega) (by omega) (by omega) hal (fun p u _ _ _ => hop p u) (fun q a ha hr hq => ?_) (fun _ => rfl) (fun p a hp0 ha hr => (hval p a hp0 (by have := Rc_le h1 hr; omega) hr).symm) (fun J2 f1 f2 f3 => ?_)
  · rcases hq with q1 | q1
    · exact absurd rfl q1
    · subst q1; rw [Nat.zero_mul, Nat.zero_add]; exact e0 a ha
  · have hv : (if 0 < tp t then hs (fun x y => x + y) 0 (seG t) (fun k => hd (fun x y _ => x + y) 0 (op (tp t)) (hoK h) (fun u => lN (V h t (okA t al) (tp t - pr h t u) (hoK h u))) k (hoW h)) 4 else 0) = lN (V h t (okA t al) (tp t) 4) := by
      by_cases ht : 0 < tp t
      · rw [if_pos ht, ← hval (tp t) 4 ht (Nat.le_refl _) (Rc_top h t)]; rfl
      · rw [if_neg ht, show tp t = 0 by omega, V_0]; unfold eb
        rw [Nat.testBit_lt_two_pow (i := 4) (by omega)]; rfl
    rw [hv]
    refine hQ J2 (fun c c1 c2 => (f1 c c1 c2).trans (g1 c c2)) (fun p a ha hr => ?_)
    rcases Nat.eq_zero_or_pos p with q | q
    · subst q; rw [Nat.zero_mul, Nat.zero_add, f3 a ha]; exact e0 a ha
    · exact f2 p a ha hr q
/-- what bringing the counts up to date leaves alone -/
def frR (I I' : MI) (J J' : MJ) : Prop := (∀ c, c ≠ 39 → c ≠ 46 → c ≠ 48 → c ≠ 49 → c ≠ 50 → c ≠ 51 → c ≠ 52 → I' c = I c) ∧ (∀ k, k ≠ 12 → k ≠ 13 → I' 39 k = I 39 k) ∧ ∀ c, c ≠ 39 → c ≠ 41 → c ≠ 47 → c ≠ 53 → J' c = J c
/-- what the class knows: its words, its setting -/
def CX (I : MI) (J : MJ) (h : Ho) (t : Se) : Prop := lexC I J h ∧ setX (I 17) (I 18) (I 19) (I 20) h t
def Ph (I : MI) (J : MJ) (h : Ho) (t : Se) : Prop := PhOK (I 39) (I 46) (I 48) (I 49) (I 50) (I 52) (J 39) (J 41) (J 42) h t
theorem CX_fr {I I' : MI} {J J' : MJ} {h : Ho} {t : Se} (hc : CX I J h t) (f : ∀ c, c < 39 → I' c = I c) (g : ∀ c, c < 39 → J' c = J c) : CX I' J' h t := by
  unfold CX lexC at *
  rw [f 12 (by decide), f 13 (by decide), g 15 (by decide), f 17 (by decide), f 18 (by decide), f 19 (by decide), f 20 (by decide)]
  exact hc
theorem frR_I {I I' : MI} {J J' : MJ} (h : frR I I' J J') (c : Nat) (hc : c < 39) : I' c = I c := h.1 c (by omega) (by omega) (by omega) (by omega) (by omega) (by omega) (by omega)
theorem frR_J {I I' : MI} {J J' : MJ} (h : frR I I' J J') (c : Nat) (hc : c < 39) : J' c = J c := h.2.2 c (by omega) (by omega) (by omega) (by omega)
theorem frR_rfl {I : MI} {J : MJ} : frR I I J J := ⟨fun _ _ _ _ _ _ _ _ => rfl, fun _ _ _ => rfl, fun _ _ _ _ _ => rfl⟩
theorem pe_refresh {h : Ho} {t : Se} {I : MI} {J : MJ} {Q : MI → MJ → Prop} (h1 : hoOK h) (h2 : seOK h t) (hX : CX I J h t) (hS : I 39 12 = 0 ∨ Ph I J h t) (hQ : ∀ (I' : MI) (J' : MJ), frR I I' J J' → Ph I' J' h t → Q I' J') : P_X6_refresh I J Q := by
  refine ⟨fun c => ?_, fun c => hQ I J frR_rfl (hS.resolve_left c)⟩
  refine pe_lay h1 (seOK_O h2) hX.1 hX.2 (fun I1 J1 f1 f2 f3 => ?_)
  have hX1 : CX I1 J1 h t := CX_fr hX (fun c hc => f1 c (by omega) (by omega) (by omega) (by omega) (by omega) (by omega)) (fun c hc => f2 c (by omega))
  refine pe_foldC (w := 41) (al := 1023) (fun _ q => q) h1 h2 hX1.1 hX1.2 f3 (Or.inl rfl) (by decide) (fun J2 g1 g2 => ?_)
  rintro J3 rfl I2 rfl I3 rfl
  have ev : ∀ p a, V h t (okA t 1023) p a = V h t (okB t) p a := fun p a => V_congr (fun w hw => okA_all h1 hw) p a
  refine hQ _ _ ⟨fun c c1 c2 c3 c4 c5 c6 c7 => (wI_n _ c1 _).trans ((wI_n _ c1 _).trans (f1 c c2 c3 c4 c5 c6 c7)), fun k k1 k2 => ?_, fun c c1 c2 c3 c4 => (wJ_n _ c1 _).trans ((g1 c c4 c2).trans (f2 c c3))⟩ ⟨f3, fun p a ha hr => ?_, ?_, Or.inl rfl⟩
  · exact (upd_n (f := upd (I1 39) 13 0) k1).trans ((upd_n (f := I1 39) k2).trans (by rw [f1 39 (by decide) (by decide) (by decide) (by decide) (by decide) (by decide)]))
  · show J2 41 (p * 4 + a) = lN (V h t (okB t) p a)
    rw [← ev]; exact g2 p a ha hr
  · rw [← ev, mJ_s, pk_uLs]
theorem pe_count {h : Ho} {t : Se} {I : MI} {J : MJ} {Q : Int64 → MI → MJ → Prop} (h1 : hoOK h) (h2 : seOK h t) (hX : CX I J h t) (hS : I 39 12 = 0 ∨ Ph I J h t) (hQ : ∀ (I' : MI) (J' : MJ), frR I I' J J' → Ph I' J' h t → Q (lN (V h t (okB t) (tp t) 4)) I' J') : P_X6_count I J Q := by
  refine pe_refresh h1 h2 hX hS (fun I1 J1 f1 f2 => ?_)
  show Q (J1 39 11) I1 J1
  rw [f2.2.2.1]; exact hQ I1 J1 f1 f2
theorem sw_of {a b : Int32} (h : S_sw a b) : (sw a = 44 ∨ sw a = 45) ∧ (sw b = 44 ∨ sw b = 45) ∧ sw a ≠ sw b := by
  rcases h with ⟨rfl, rfl⟩ | ⟨rfl, rfl⟩ <;> decide
theorem pe_foldWithin {al : Nat} {h : Ho} {t : Se} {I : MI} {J : MJ} {Q : Int64 → MI → MJ → Prop} (h1 : hoOK h) (h2 : seOK h t) (hX : CX I J h t) (hP : Ph I J h t) (h14 : S_sw (I 39 8) (I 39 9)) (hal : al < 1024) (hQ : ∀ J' : MJ, (∀ c, c ≠ 53 → c ≠ 44 → c ≠ 45 → J' c = J c) → Ph I J' h t → Q (lN (V h t (okA t al) (tp t) 4)) I J') : P_X6_foldWithin 40 (nI al) I J Q := by
  obtain ⟨s1, s2, s3⟩ := sw_of h14
  refine pe_foldC (w := sw (I 39 8)) (al := al) (Q := fun r I J => Q r I J) (fun _ q => q) h1 h2 hX.1 hX.2 hP.1 (Or.inr s1) hal (fun J2 g1 g2 => hQ J2 (fun c c1 c2 c3 => g1 c c1 (by omega)) ?_)
  show PhOK _ _ _ _ _ _ (J2 39) (J2 41) (J2 42) h t
  rw [g1 39 (by omega) (by omega), g1 41 (by omega) (by omega), g1 42 (by omega) (by omega)]
  exact hP
