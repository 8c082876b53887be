theorem lt_nI {x : Int32} {k n : Nat} (e : x = nI k) (hk : k < 2 ^ 31) (hn : n < 2 ^ 31) : x < nI n ↔ k < n := by rw [e]; exact nI_ltI hk hn
theorem upd_s {f : Nat → Int32} {k j : Nat} {x : Int32} (h : j = k) : upd f k x j = x := if_pos h
theorem upd_n {f : Nat → Int32} {k j : Nat} {x : Int32} (h : j ≠ k) : upd f k x j = f j := if_neg h
theorem s_tell : st_tell Sim := by
  intro a I J A B hs
  obtain ⟨h, t, h1, h2, h3, h4, h5, h6, h7, h8, h9, h10, h11, h12, h13, h14, h15⟩ := id hs
  obtain ⟨k, hk, e1, e2, e3⟩ := id h11
  have hc : (nI k).toNatClampNeg = k := nI_clamp (by omega)
  refine pe_has h3.1 h1.1 (fun hw => ?_) (fun hw => ?_)
  · refine ⟨fun _ => ⟨fun c => ?_, fun c => ?_⟩, fun c => absurd c (by decide)⟩
    · have hk2 : k < 12 := (lt_nI (n := 12) e1 (by omega) (by decide)).mp c
      refine ⟨by rw [e1]; exact vp_in_nI hk2 (by decide), ?_⟩
      rintro I34 rfl I42 rfl
      refine pe_isWord h4.1 h1.1 (fun _ => ?_) (fun c => absurd hw c)
      refine ⟨fun _ => ⟨fun c2 => ⟨by rw [e2]; exact vp_in_nI hk2 (by decide), ?_⟩, fun c2 => ?_⟩, fun c => absurd c (by decide)⟩
      · rintro I31 rfl I39 rfl
        refine ⟨?_, h, t, h1, h2, h3, h4, h5, h6, h7, h8, h9, h10, ⟨k + 1, hk2, ?_, ?_, ?_⟩, h12, h13, h14, h15⟩
        · show I 0 14 + 1 = A 0 15 + 1
          rw [e1, e2]
        · show I 0 14 + 1 = nI (k + 1)
          rw [e1, nI_1]
        · show A 0 15 + 1 = nI (k + 1)
          rw [e2, nI_1]
        · intro i hi
          show ∃ u, u < hoW h ∧ upd (I 61) (I 0 14).toNatClampNeg a i = nI u ∧ upd (A 11) (A 0 15).toNatClampNeg a i = nI u
          rw [e1, e2, hc]
          rcases Nat.lt_or_ge i k with q | q
          · rw [upd_n (by omega), upd_n (by omega)]; exact e3 i q
          · obtain rfl : i = k := by omega
            rw [upd_s rfl, upd_s rfl]
            obtain ⟨u, hu, ea⟩ := hw
            exact ⟨u, hu, ea, ea⟩
      · rw [e2] at c2
        exact absurd ((nI_eq (b := 12) (by omega) (by decide)).mp c2) (by omega)
    · have hk2 : k = 12 := by
        have := mt (lt_nI (n := 12) e1 (by omega) (by decide)).mpr c
        omega
      subst hk2
      refine pe_isWord h4.1 h1.1 (fun _ => ?_) (fun c => absurd hw c)
      exact ⟨fun _ => ⟨fun c2 => absurd e2 c2, fun c2 => ⟨rfl, hs⟩⟩, fun c => absurd c (by decide)⟩
  · refine ⟨fun c => absurd rfl c, fun _ => ?_⟩
    refine pe_isWord h4.1 h1.1 (fun c => absurd c hw) (fun _ => ?_)
    exact ⟨fun c => absurd rfl c, fun _ => ⟨rfl, hs⟩⟩
theorem lt0 {a : Int32} : a < 0 ↔ a.toInt < 0 := by rw [Int32.lt_iff_toInt_lt]; simp
theorem le_lit {a : Int32} {n : Nat} (hn : n < 2 ^ 31) : a ≤ nI n ↔ a.toInt ≤ n := by rw [Int32.le_iff_toInt_le, nI_toInt hn]
theorem lt_lit {a : Int32} {n : Nat} (hn : n < 2 ^ 31) : nI n < a ↔ (n : Int) < a.toInt := by rw [Int32.lt_iff_toInt_lt, nI_toInt hn]
/-- 'in' of an int between two written numbers -/
theorem pe_inI {a : Int32} {lo hi : Int64} {p q : Int} {I : MI} {J : MJ} {Q : Int32 → MI → MJ → Prop} (el : lo.toInt = p) (eh : hi.toInt = q) (h1 : p ≤ a.toInt → a.toInt ≤ q → Q 1 I J) (h0 : ¬ (p ≤ a.toInt ∧ a.toInt ≤ q) → Q 0 I J) : P_X12_in a.toInt64 lo hi I J Q := by
  refine pe_in (fun c c2 => h1 ?_ ?_) (fun c => h0 (fun ⟨c1, c2⟩ => c ⟨?_, ?_⟩))
  · rw [Int64.le_iff_toInt_le, i64, el] at c; exact c
  · rw [Int64.le_iff_toInt_le, i64, eh] at c2; exact c2
  · rw [Int64.le_iff_toInt_le, i64, el]; exact c1
  · rw [Int64.le_iff_toInt_le, i64, eh]; exact c2
theorem s_write : st_write Sim := by
  intro a I J A B hs
  obtain ⟨h, t, h1, h2, h3, h4, h5, h6, h7, h8, h9, h10, h11, h12, h13, h14, h15⟩ := id hs
  obtain ⟨k, hk, e1, e2, e3⟩ := id h7
  have hc : (nI k).toNatClampNeg = k := nI_clamp (by omega)
  have hbad : ¬ (0 ≤ a.toInt ∧ a.toInt ≤ 255) → P_X12_write a A B (fun r2 I2 J2 => (-2 : Int32) = r2 ∧ Sim I J I2 J2) := fun hn =>
    pe_inI (p := 0) (q := 255) (by decide) (by decide) (fun c c2 => absurd ⟨c, c2⟩ hn) (fun _ => ⟨fun c => absurd rfl c, fun _ => ⟨rfl, hs⟩⟩)
  refine ⟨fun c => hbad (by rw [lt0] at c; omega), fun c => ⟨fun c2 => ?_, fun c2 => hbad (by rw [show (255 : Int32) = nI 255 from rfl, le_lit (by decide)] at c2; omega)⟩⟩
  have hb : 0 ≤ a.toInt ∧ a.toInt ≤ 255 := by
    rw [show (255 : Int32) = nI 255 from rfl, le_lit (by decide)] at c2
    rw [lt0] at c
    exact ⟨by omega, c2⟩
  refine ⟨fun c3 => ?_, fun c3 => ?_⟩
  · have hk2 : k < 180 := (lt_nI (n := 180) e1 (by omega) (by decide)).mp c3
    refine ⟨by rw [e1]; exact vp_in_nI hk2 (by decide), ?_⟩
    rintro I34 rfl I42 rfl
    refine ⟨fun c => absurd c (by decide), fun _ => ?_⟩
    refine pe_inI (p := 0) (q := 255) (by decide) (by decide) (fun _ _ => ?_) (fun c => absurd hb c)
    refine ⟨fun _ => ⟨fun c2 => ⟨by rw [e2]; exact vp_in_nI hk2 (by decide), ?_⟩, fun c2 => ?_⟩, fun c => absurd c (by decide)⟩
    · rintro I31 rfl I39 rfl
      refine ⟨?_, h, t, h1, h2, h3, h4, h5, h6, ⟨k + 1, ⟨hk2, hk.2⟩, ?_, ?_, ?_⟩, h8, h9, h10, h11, h12, h13, h14, h15⟩
      · show I 1 3 + 1 = A 0 1 + 1
        rw [e1, e2]
      · show I 1 3 + 1 = nI (k + 1)
        rw [e1, nI_1]
      · show A 0 1 + 1 = nI (k + 1)
        rw [e2, nI_1]
      · intro i hi
        show upd (I 2) (I 1 3).toNatClampNeg a i = upd (A 1) (A 0 1).toNatClampNeg a i ∧ 0 ≤ (upd (A 1) (A 0 1).toNatClampNeg a i).toInt ∧ (upd (A 1) (A 0 1).toNatClampNeg a i).toInt ≤ 255
        rw [e1, e2, hc]
        rcases Nat.lt_or_ge i k with q | q
        · rw [upd_n (by omega), upd_n (by omega)]; exact e3 i q
        · obtain rfl : i = k := by omega
          rw [upd_s rfl, upd_s rfl]
          exact ⟨rfl, hb⟩
    · rw [e2] at c2
      exact absurd ((nI_eq (b := 180) (by omega) (by decide)).mp c2) (by omega)
  · have hk2 : k = 180 := by
      have := mt (lt_nI (n := 180) e1 (by omega) (by decide)).mpr c3
      omega
    subst hk2
    refine ⟨fun _ => ?_, fun c => absurd rfl c⟩
    refine pe_inI (p := 0) (q := 255) (by decide) (by decide) (fun _ _ => ?_) (fun c => absurd hb c)
    exact ⟨fun _ => ⟨fun c2 => absurd e2 c2, fun c2 => ⟨rfl, hs⟩⟩, fun c => absurd c (by decide)⟩
