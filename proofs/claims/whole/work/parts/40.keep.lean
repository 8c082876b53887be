/-- a setting copied: the four rows of cell k written anew -/
def wk (I : MI) (k : Nat) (o b r f : Nat → Int32) : MI := wI (wI (wI (wI I k o) (k + 1) b) (k + 2) r) (k + 3) f
theorem cpy_in {f g : Nat → Int32} {n j : Nat} (h : j < n) : va_cpy f g 0 0 n j = f j := by
  rw [pk_cpy_in (by omega) (by omega)]; congr 1; omega
theorem pe_copy {k w : Nat} {I : MI} {J : MJ} {Q : MI → MJ → Prop} {h : Ho} {t : Se} (h1 : hoOK h) (hd : k + 3 < w ∨ w + 3 < k) (hw : setX (I w) (I (w + 1)) (I (w + 2)) (I (w + 3)) h t)
    (hQ : ∀ o b r f, setX o b r f h t → Q (wk I k o b r f) J) : P_X8_copy k w I J Q := by
  refine ⟨by decide, ?_⟩
  rintro I12 rfl
  refine ⟨by decide, ?_⟩
  rintro I27 rfl
  refine ⟨by decide, ?_⟩
  rintro I41 rfl I49 rfl I57 rfl I65 rfl
  have hw10 := h1.1
  have key := hQ (upd (upd (upd (I k) 3 (I w 3)) 4 (I w 4)) 5 (I w 5)) (va_cpy (I (w + 1)) (I (k + 1)) 0 0 8) (va_cpy (I (w + 2)) (I (k + 2)) 0 0 10) (va_cpy (I (w + 3)) (I (k + 3)) 0 0 4)
    ⟨fun l hl => (cpy_in hl).trans (hw.1 l hl), fun u hu => (cpy_in (by omega)).trans (hw.2.1 u hu), fun a ha => (cpy_in ha).trans (hw.2.2.1 a ha), hw.2.2.2.1, hw.2.2.2.2.1, hw.2.2.2.2.2⟩
  refine Eq.mp (congrArg (fun M => Q M J) ?_) key
  have c0 : (0 : Int32).toNatClampNeg = 0 := by decide
  have c8 : (8 : Int32).toNatClampNeg = 8 := by decide
  have c10 : (10 : Int32).toNatClampNeg = 10 := by decide
  have c4 : (4 : Int32).toNatClampNeg = 4 := by decide
  rw [c0, c8, c10, c4]
  have n1 : w ≠ k := by omega
  have n2 : w ≠ k + 1 := by omega
  have n3 : w ≠ k + 2 := by omega
  have n4 : w ≠ k + 3 := by omega
  have n5 : w + 2 ≠ k + 1 := by omega
  have n6 : w + 3 ≠ k + 1 := by omega
  have n7 : w + 3 ≠ k + 2 := by omega
  funext x
  by_cases x0 : x = k
  · subst x0
    simp [wk, mI, wI, n1, n2, n3, n4]
  · by_cases x1 : x = k + 1
    · subst x1
      simp [wk, mI, wI]
    · by_cases x2 : x = k + 2
      · subst x2
        simp [wk, mI, wI, n5]
      · by_cases x3 : x = k + 3
        · subst x3
          simp [wk, mI, wI, n6, n7]
        · simp [wk, mI, wI, x0, x1, x2, x3]
