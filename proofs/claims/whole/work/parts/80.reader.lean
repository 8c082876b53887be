/-! ===== the reader ===== -/
def uF (f : Nat → Nat) (k v : Nat) : Nat → Nat := fun j => if j = k then v else f j
theorem uF_s (f : Nat → Nat) (k v : Nat) : uF f k v k = v := if_pos rfl
theorem uF_n (f : Nat → Nat) {k v j : Nat} (h : j ≠ k) : uF f k v j = f j := if_neg h
def hoOpen (h : Ho) : Ho := (hoW h + 1, hoK h, uF (hoZ h) (hoW h) 0, hoS h)
def hoSpell (h : Ho) (x : Nat) : Ho := (hoW h, hoK h, uF (hoZ h) (hoW h - 1) (hoZ h (hoW h - 1) + 1), fun u i => if u = hoW h - 1 ∧ i = hoZ h (hoW h - 1) then x else hoS h u i)
def hoClose (h : Ho) (k : Nat) : Ho := (hoW h, uF (hoK h) (hoW h - 1) k, hoZ h, hoS h)
abbrev St : Type := Nat × Nat × Ho × Se
def rok (s : St) (c : Nat) : Prop :=
  (s.1 = 0 ∧ ((c = 119 ∧ hoW s.2.2.1 < 10) ∨ (c = 43 ∧ sm (seB s.2.2.2) 8 < 12) ∨ (c = 94 ∧ seG s.2.2.2 ≠ 15) ∨ (c = 46 ∧ seE s.2.2.2 ≠ 15) ∨ (c = 58 ∧ ¬ (seF s.2.2.2 0 = 15 ∧ seF s.2.2.2 1 = 15 ∧ seF s.2.2.2 2 = 15 ∧ seF s.2.2.2 3 = 15)))) ∨
  (s.1 = 1 ∧ ((97 ≤ c ∧ c < 105 ∧ hoZ s.2.2.1 (hoW s.2.2.1 - 1) < 6) ∨ (65 ≤ c ∧ c < 69 ∧ 0 < hoZ s.2.2.1 (hoW s.2.2.1 - 1)))) ∨
  (s.1 = 2 ∧ 48 ≤ c ∧ c ≤ 57) ∨ (s.1 = 3 ∧ 97 ≤ c ∧ c < 105) ∨ (s.1 = 4 ∧ 65 ≤ c ∧ c < 69 ∧ (seG s.2.2.2).testBit (c - 65) = false) ∨ (s.1 = 5 ∧ 65 ≤ c ∧ c < 69 ∧ (seE s.2.2.2).testBit (c - 65) = false) ∨ (s.1 = 6 ∧ 65 ≤ c ∧ c < 69 ∧ seF s.2.2.2 (c - 65) ≠ 15) ∨ (s.1 = 7 ∧ 65 ≤ c ∧ c < 69 ∧ (seF s.2.2.2 s.2.1).testBit (c - 65) = false)
def rnx (s : St) (c : Nat) : St :=
  if s.1 = 0 then (if c = 119 then (1, s.2.1, hoOpen s.2.2.1, s.2.2.2) else if c = 43 then (3, s.2.1, s.2.2.1, s.2.2.2) else if c = 94 then (4, s.2.1, s.2.2.1, s.2.2.2) else if c = 46 then (5, s.2.1, s.2.2.1, s.2.2.2) else (6, s.2.1, s.2.2.1, s.2.2.2))
  else if s.1 = 1 then (if 97 ≤ c then (1, s.2.1, hoSpell s.2.2.1 (c - 97), s.2.2.2) else (2, s.2.1, hoClose s.2.2.1 (c - 65), s.2.2.2))
  else if s.1 = 2 then (0, s.2.1, s.2.2.1, chg 3 (hoW s.2.2.1 - 1) (c - 48) s.2.2.2)
  else if s.1 = 3 then (0, s.2.1, s.2.2.1, chg 0 (c - 97) 0 s.2.2.2)
  else if s.1 = 4 then (0, s.2.1, s.2.2.1, chg 4 (c - 65) 0 s.2.2.2)
  else if s.1 = 5 then (0, s.2.1, s.2.2.1, chg 5 (c - 65) 0 s.2.2.2)
  else if s.1 = 6 then (7, c - 65, s.2.2.1, s.2.2.2)
  else (0, s.2.1, s.2.2.1, chg 6 s.2.1 (c - 65) s.2.2.2)
def pOK (ph ld : Nat) (h : Ho) (t : Se) : Prop := ph ≤ 7 ∧ hoW h ≤ 10 ∧ (ph = 1 ∨ ph = 2 → 1 ≤ hoW h) ∧ (∀ u, u < hoW h → hoZ h u ≤ 6 ∧ ∀ i, i < hoZ h u → hoS h u i < 8) ∧ (∀ u, u < hoW h → (u + 1 < hoW h ∨ ph ≠ 1) → hoK h u < 4 ∧ 1 ≤ hoZ h u) ∧ (∀ u, u < hoW h → (u + 1 < hoW h ∨ (ph ≠ 1 ∧ ph ≠ 2)) → seR t u ≤ 9) ∧ sm (seB t) 8 ≤ 12 ∧ (ph = 3 → sm (seB t) 8 < 12) ∧ (∀ a, a < 4 → seF t a < 16) ∧ seG t < 16 ∧ seE t < 16 ∧ seX t = 0 ∧ (ph = 7 → ld < 4)
def mX (I : MI) (J : MJ) (ph ld : Nat) (h : Ho) (t : Se) : Prop := I 1 4 = nI ph ∧ (ph = 7 → I 1 5 = nI ld) ∧ I 3 4 = nI (hoW h) ∧ (∀ u, u < hoW h → I 5 u = nI (hoZ h u) ∧ J 6 u = lN (pk (nd h u) 8) ∧ ∀ i, i < hoZ h u → I 7 (u * 6 + i) = nI (hoS h u i)) ∧ (∀ u, u < hoW h → (u + 1 < hoW h ∨ ph ≠ 1) → I 4 u = nI (hoK h u)) ∧ (∀ l, l < 8 → I 9 l = nI (seB t l)) ∧ (∀ u, u < hoW h → (u + 1 < hoW h ∨ (ph ≠ 1 ∧ ph ≠ 2)) → I 10 u = nI (seR t u)) ∧ (∀ a, a < 4 → I 11 a = nI (seF t a)) ∧ I 8 3 = nI (seG t) ∧ I 8 4 = nI (seE t)
theorem pOK_next {s : St} {c : Nat} (hp : pOK s.1 s.2.1 s.2.2.1 s.2.2.2) (hr : rok s c) : pOK (rnx s c).1 (rnx s c).2.1 (rnx s c).2.2.1 (rnx s c).2.2.2 := by
  obtain ⟨ph, ld, h, t⟩ := s
  obtain ⟨p1, p2, p3, p4, p5, p6, p7, p8, p9, p10, p11, p12, p13⟩ := hp
  rcases hr with ⟨e, hr⟩ | ⟨e, hr⟩ | ⟨e, hr⟩ | ⟨e, hr⟩ | ⟨e, hr⟩ | ⟨e, hr⟩ | ⟨e, hr⟩ | ⟨e, hr⟩ <;> dsimp only at e hr p1 p2 p3 p4 p5 p6 p7 p8 p9 p10 p11 p12 p13 <;> subst e
  · have e0 : ∀ (ph2 : Nat), ph2 ≠ 1 → ph2 ≠ 2 → ph2 ≤ 7 → ph2 ≠ 7 → (ph2 = 3 → sm (seB t) 8 < 12) → pOK ph2 ld h t := fun ph2 n1 n2 n3 n4 n5 => ⟨n3, p2, fun q => by omega, p4, fun u hu _ => p5 u hu (Or.inr (by decide)), fun u hu _ => p6 u hu (Or.inr ⟨by decide, by decide⟩), p7, n5, p9, p10, p11, p12, fun q => absurd q n4⟩
    rcases hr with ⟨rfl, hr⟩ | ⟨rfl, hr⟩ | ⟨rfl, hr⟩ | ⟨rfl, hr⟩ | ⟨rfl, hr⟩
    · show pOK 1 ld (hoOpen h) t
      refine ⟨by decide, hr, fun _ => Nat.succ_le_succ (Nat.zero_le _), fun u hu => ?_, fun u hu hc => ?_, fun u hu hc => ?_, p7, fun q => absurd q (by decide), p9, p10, p11, p12, fun q => absurd q (by decide)⟩
      · show uF (hoZ h) (hoW h) 0 u ≤ 6 ∧ ∀ i, i < uF (hoZ h) (hoW h) 0 u → hoS h u i < 8
        have hu' : u < hoW h + 1 := hu
        by_cases e : u = hoW h
        · rw [e, uF_s]; exact ⟨Nat.zero_le _, fun i hi => absurd hi (Nat.not_lt_zero i)⟩
        · rw [uF_n _ e]; exact p4 u (by omega)
      · have hc' : u + 1 < hoW h + 1 := hc.elim id (fun q => absurd rfl q)
        show hoK h u < 4 ∧ 1 ≤ uF (hoZ h) (hoW h) 0 u
        rw [uF_n _ (by omega)]; exact p5 u (by omega) (Or.inr (by decide))
      · have hc' : u + 1 < hoW h + 1 := hc.elim id (fun q => absurd rfl q.1)
        exact p6 u (by omega) (Or.inr ⟨by decide, by decide⟩)
    · exact e0 3 (by decide) (by decide) (by decide) (by decide) (fun _ => hr)
    · exact e0 4 (by decide) (by decide) (by decide) (by decide) (fun q => absurd q (by decide))
    · exact e0 5 (by decide) (by decide) (by decide) (by decide) (fun q => absurd q (by decide))
    · exact e0 6 (by decide) (by decide) (by decide) (by decide) (fun q => absurd q (by decide))
  · have hw1 := p3 (Or.inl rfl)
    rcases hr with ⟨c1, c2, c3⟩ | ⟨c1, c2, c3⟩
    · have en : rnx (1, ld, h, t) c = (1, ld, hoSpell h (c - 97), t) := by unfold rnx; rw [if_neg (show ¬ (1 : Nat) = 0 by decide), if_pos rfl, if_pos c1]
      rw [en]
      show pOK 1 ld (hoSpell h (c - 97)) t
      refine ⟨by decide, p2, fun _ => hw1, fun u hu => ?_, fun u hu hc => ?_, fun u hu hc => p6 u hu (hc.elim Or.inl (fun q => absurd rfl q.1)), p7, fun q => absurd q (by decide), p9, p10, p11, p12, fun q => absurd q (by decide)⟩
      · show uF (hoZ h) (hoW h - 1) (hoZ h (hoW h - 1) + 1) u ≤ 6 ∧ ∀ i, i < uF (hoZ h) (hoW h - 1) (hoZ h (hoW h - 1) + 1) u → (if u = hoW h - 1 ∧ i = hoZ h (hoW h - 1) then c - 97 else hoS h u i) < 8
        have hu' : u < hoW h := hu
        by_cases e : u = hoW h - 1
        · rw [e, uF_s]
          refine ⟨c3, fun i hi => ?_⟩
          split
          · omega
          · rename_i q
            exact (p4 _ (by omega)).2 i (by omega)
        · rw [uF_n _ e]
          refine ⟨(p4 u hu').1, fun i hi => ?_⟩
          rw [if_neg (fun q => e q.1)]; exact (p4 u hu').2 i hi
      · have hc' : u + 1 < hoW h := hc.elim id (fun q => absurd rfl q)
        show hoK h u < 4 ∧ 1 ≤ uF (hoZ h) (hoW h - 1) (hoZ h (hoW h - 1) + 1) u
        rw [uF_n _ (by omega)]; exact p5 u (by omega) (Or.inl hc')
    · have en : rnx (1, ld, h, t) c = (2, ld, hoClose h (c - 65), t) := by unfold rnx; rw [if_neg (show ¬ (1 : Nat) = 0 by decide), if_pos rfl, if_neg (by omega)]
      rw [en]
      show pOK 2 ld (hoClose h (c - 65)) t
      refine ⟨by decide, p2, fun _ => hw1, p4, fun u hu _ => ?_, fun u hu hc => p6 u hu (hc.elim Or.inl (fun q => absurd rfl q.2)), p7, fun q => absurd q (by decide), p9, p10, p11, p12, fun q => absurd q (by decide)⟩
      show uF (hoK h) (hoW h - 1) (c - 65) u < 4 ∧ 1 ≤ hoZ h u
      have hu' : u < hoW h := hu
      by_cases e : u = hoW h - 1
      · rw [e, uF_s]; exact ⟨by omega, c3⟩
      · rw [uF_n _ e]; exact p5 u hu' (Or.inl (by omega))
  · have hw1 := p3 (Or.inr rfl)
    refine ⟨by show 0 ≤ 7; decide, p2, fun q => absurd q (show ¬ ((0 : Nat) = 1 ∨ (0 : Nat) = 2) by decide), p4, fun u hu _ => p5 u hu (Or.inr (by decide)), fun u hu _ => ?_, p7, fun q => absurd q (show ¬ (0 : Nat) = 3 by decide), p9, p10, p11, p12, fun q => absurd q (show ¬ (0 : Nat) = 7 by decide)⟩
    show (if u = hoW h - 1 then c - 48 else seR t u) ≤ 9
    have hu' : u < hoW h := hu
    split
    · omega
    · exact p6 u hu' (Or.inl (by omega))
  · refine ⟨by show 0 ≤ 7; decide, p2, fun q => absurd q (show ¬ ((0 : Nat) = 1 ∨ (0 : Nat) = 2) by decide), p4, fun u hu _ => p5 u hu (Or.inr (by decide)), fun u hu _ => p6 u hu (Or.inr ⟨by decide, by decide⟩), ?_, fun q => absurd q (show ¬ (0 : Nat) = 3 by decide), p9, p10, p11, p12, fun q => absurd q (show ¬ (0 : Nat) = 7 by decide)⟩
    show sm (fun i => if i = c - 97 then seB t i + 1 else seB t i) 8 ≤ 12
    have := p8 rfl
    rw [sm_inc]; split <;> omega
  · refine ⟨by show 0 ≤ 7; decide, p2, fun q => absurd q (show ¬ ((0 : Nat) = 1 ∨ (0 : Nat) = 2) by decide), p4, fun u hu _ => p5 u hu (Or.inr (by decide)), fun u hu _ => p6 u hu (Or.inr ⟨by decide, by decide⟩), p7, fun q => absurd q (show ¬ (0 : Nat) = 3 by decide), p9, ?_, p11, p12, fun q => absurd q (show ¬ (0 : Nat) = 7 by decide)⟩
    exact xor_lt (w := 4) p10 (by omega)
  · refine ⟨by show 0 ≤ 7; decide, p2, fun q => absurd q (show ¬ ((0 : Nat) = 1 ∨ (0 : Nat) = 2) by decide), p4, fun u hu _ => p5 u hu (Or.inr (by decide)), fun u hu _ => p6 u hu (Or.inr ⟨by decide, by decide⟩), p7, fun q => absurd q (show ¬ (0 : Nat) = 3 by decide), p9, p10, ?_, p12, fun q => absurd q (show ¬ (0 : Nat) = 7 by decide)⟩
    exact xor_lt (w := 4) p11 (by omega)
  · refine ⟨by show 7 ≤ 7; decide, p2, fun q => absurd q (show ¬ ((7 : Nat) = 1 ∨ (7 : Nat) = 2) by decide), p4, fun u hu _ => p5 u hu (Or.inr (by decide)), fun u hu _ => p6 u hu (Or.inr ⟨by decide, by decide⟩), p7, fun q => absurd q (show ¬ (7 : Nat) = 3 by decide), p9, p10, p11, p12, fun _ => by show c - 65 < 4; omega⟩
  · refine ⟨by show 0 ≤ 7; decide, p2, fun q => absurd q (show ¬ ((0 : Nat) = 1 ∨ (0 : Nat) = 2) by decide), p4, fun u hu _ => p5 u hu (Or.inr (by decide)), fun u hu _ => p6 u hu (Or.inr ⟨by decide, by decide⟩), p7, fun q => absurd q (show ¬ (0 : Nat) = 3 by decide), fun a ha => ?_, p10, p11, p12, fun q => absurd q (show ¬ (0 : Nat) = 7 by decide)⟩
    show (if a = ld then seF t a ^^^ (1 <<< (c - 65)) else seF t a) < 16
    have := p9 a ha
    split
    · exact xor_lt (w := 4) this (by omega)
    · exact this
