/-! ===== left ===== -/
def exB (f : Nat → Nat) (b : Nat) : Nat → Bool
  | 0 => false
  | i + 1 => exB f b i || decide (f i = b)
def bN (b : Bool) : Nat := if b then 1 else 0
def sB (L : Nat) (f : Nat → Nat) (a b : Nat) : Bool := if a = 0 then exB f b L else if a = 1 then decide (L = b) else if a = 2 then decide (f 0 = b) else decide (f (L - 1) = b)
theorem bN_lt (b : Bool) : bN b < 2 := by cases b <;> decide
theorem exB_mono {f : Nat → Nat} {b i L : Nat} (hi : i < L) (e : f i = b) : exB f b L = true := by
  induction L with
  | zero => omega
  | succ L ih =>
    show (exB f b L || decide (f L = b)) = true
    rcases Nat.lt_or_ge i L with q | q
    · rw [ih q]; rfl
    · rw [show L = i by omega, decide_eq_true e, Bool.or_true]
theorem pe_foundWord {L j : Nat} {f : Nat → Nat} {I : MI} {J : MJ} {Q : Int32 → MI → MJ → Prop} (hL : L ≤ 12) (e10 : I 39 10 = nI L) (hF : ∀ i, i < L → I 43 i = nI (f i)) (hj : j < L) (hQ : Q (nI (f j)) I J) : P_X6_foundWord (nI j) I J Q := by
  refine ⟨fun c => absurd c (nI_pos (by omega)), fun _ => pk_le L j (fun c => by omega) (fun _ => ⟨vp_in_nI (by omega) (by decide), ?_⟩) e10⟩
  rw [nI_clamp (by omega), hF j hj]; exact hQ
theorem eqB {x y : Nat} {A B : Prop} {P : Nat → Prop} (hx : x < 2 ^ 31) (hy : y < 2 ^ 31) (h0 : P 0 → A) (h1 : P 1 → B) (h : P (bN (decide (x = y)))) : (¬ nI x = nI y → A) ∧ (nI x = nI y → B) := by
  refine ⟨fun c => h0 ?_, fun c => h1 ?_⟩
  · rw [decide_eq_false (fun e => c (by rw [e]))] at h; exact h
  · rw [decide_eq_true ((nI_eq hx hy).mp c)] at h; exact h
theorem pe_isSoX {L a b : Nat} {f : Nat → Nat} {I : MI} {J : MJ} {Q : Int32 → MI → MJ → Prop} (hL : L ≤ 12) (h0 : 0 < L) (hf : ∀ i, i < L → f i < 10) (e10 : I 39 10 = nI L) (hF : ∀ i, i < L → I 43 i = nI (f i)) (ha : a ≤ 3) (hb : b ≤ 12) (hQ : Q (nI (bN (sB L f a b))) I J) : P_X11_isSo (nI a) (nI b) I J Q := by
  have hne : ∀ k : Nat, k < 2 ^ 31 → a ≠ k → ¬ nI a = nI k := fun k hk hne e => hne ((nI_eq (by omega) hk).mp e)
  refine ⟨fun c => ?_, fun c => ⟨fun c1 => ?_, fun c1 => ⟨fun c2 => ?_, fun c2 => ?_⟩⟩⟩
  · have e0 : a = 0 := (nI_eq (b := 0) (by omega) (by decide)).mp c
    have es : sB L f a b = exB f b L := by unfold sB; rw [if_pos e0]
    rw [es] at hQ
    refine lpx_up (fun i z => z = (nI b, nI i, I, J) ∧ exB f b i = false) L ?_ ?_ 0 _ (Nat.zero_le _) ⟨rfl, rfl⟩
    · rintro z k ⟨rfl, hx⟩
      refine pk_le L L (fun _ => ?_) (fun c => by omega) e10
      rw [hx] at hQ; exact hQ
    · rintro i z k hi ⟨rfl, hx⟩ hk
      have hfi := hf i hi
      refine pk_le L i (fun c => by omega) (fun _ => ⟨vp_in_nI (by omega) (by decide), ?_⟩) e10
      rw [nI_clamp (by omega), hF i hi]
      refine ⟨fun c => ?_, fun c => ?_⟩
      · rw [nI_1]
        refine hk _ ⟨rfl, ?_⟩
        show (exB f b i || decide (f i = b)) = false
        rw [hx, decide_eq_false (fun e => c (by rw [e]))]; rfl
      · have := (nI_eq (by omega) (by omega)).mp c
        rw [exB_mono hi this] at hQ; exact hQ
  · have e1 : a = 1 := (nI_eq (b := 1) (by omega) (by decide)).mp c1
    have es : sB L f a b = decide (L = b) := by unfold sB; rw [if_neg (by omega), if_pos e1]
    rw [es] at hQ
    rw [e10]
    exact eqB (P := fun n => Q (nI n) I J) (by omega) (by omega) id id hQ
  · have e2 : a = 2 := (nI_eq (b := 2) (by omega) (by decide)).mp c2
    have es : sB L f a b = decide (f 0 = b) := by unfold sB; rw [if_neg (by omega), if_neg (by omega), if_pos e2]
    rw [es] at hQ
    have := hf 0 h0
    exact pe_foundWord (j := 0) hL e10 hF h0 (eqB (P := fun n => Q (nI n) I J) (by omega) (by omega) id id hQ)
  · have e0 : a ≠ 0 := fun e => c (by rw [e]; rfl)
    have e1 : a ≠ 1 := fun e => c1 (by rw [e]; rfl)
    have e2 : a ≠ 2 := fun e => c2 (by rw [e]; rfl)
    have es : sB L f a b = decide (f (L - 1) = b) := by unfold sB; rw [if_neg e0, if_neg e1, if_neg e2]
    rw [es] at hQ
    have := hf (L - 1) (by omega)
    rw [e10, show (1 : Int32) = nI 1 from rfl, pk_sub (by omega)]
    exact pe_foundWord hL e10 hF (by omega) (eqB (P := fun n => Q (nI n) I J) (by omega) (by omega) id id hQ)
theorem pe_isSoM {L a b : Nat} {f : Nat → Nat} {A : MI} {B : MJ} {Q : Int32 → MI → MJ → Prop} (hL : L ≤ 12) (h0 : 0 < L) (hf : ∀ i, i < L → f i < 10) (hF : ∀ i, i < L → A 27 i = nI (f i)) (ha : a ≤ 3) (hb : b ≤ 12) (hQ : Q (nI (bN (sB L f a b))) A B) : P_X12_isSo (nI L) (nI a) (nI b) A B Q := by
  refine lpx_up (fun i z => z = (nI L, nI a, nI b, nI (bN (exB f b i)), nI i, A, B)) L ?_ ?_ 0 _ (Nat.zero_le _) rfl
  · rintro z k rfl
    refine pk_le L L (fun _ => ⟨fun c => ⟨fun c1 => ⟨fun c2 => ?_, fun c2 => ?_⟩, fun c1 => ?_⟩, fun c => ?_⟩) (fun c => by omega)
    · have e0 : a ≠ 0 := fun e => c (by rw [e]; rfl)
      have e1 : a ≠ 1 := fun e => c1 (by rw [e]; rfl)
      have e2 : a ≠ 2 := fun e => c2 (by rw [e]; rfl)
      have es : sB L f a b = decide (f (L - 1) = b) := by unfold sB; rw [if_neg e0, if_neg e1, if_neg e2]
      rw [es] at hQ
      have := hf (L - 1) (by omega)
      rw [show (1 : Int32) = nI 1 from rfl, pk_sub (by omega)]
      refine ⟨vp_in_nI (by omega) (by decide), ?_⟩
      rw [nI_clamp (by omega), hF _ (by omega)]
      exact eqB (P := fun n => Q (nI n) A B) (by omega) (by omega) id id hQ
    · have e2 : a = 2 := (nI_eq (b := 2) (by omega) (by decide)).mp c2
      have es : sB L f a b = decide (f 0 = b) := by unfold sB; rw [if_neg (by omega), if_neg (by omega), if_pos e2]
      rw [es] at hQ
      have := hf 0 h0
      refine ⟨vp_in_nI (n := 0) (by decide) (by decide), ?_⟩
      rw [show A 27 (0 : Int32).toNatClampNeg = nI (f 0) from hF 0 h0]
      exact eqB (P := fun n => Q (nI n) A B) (by omega) (by omega) id id hQ
    · have e1 : a = 1 := (nI_eq (b := 1) (by omega) (by decide)).mp c1
      have es : sB L f a b = decide (L = b) := by unfold sB; rw [if_neg (by omega), if_pos e1]
      rw [es] at hQ
      exact eqB (P := fun n => Q (nI n) A B) (by omega) (by omega) id id hQ
    · have e0 : a = 0 := (nI_eq (b := 0) (by omega) (by decide)).mp c
      have es : sB L f a b = exB f b L := by unfold sB; rw [if_pos e0]
      rw [es] at hQ
      refine ⟨?_, hQ⟩
      cases exB f b L
      · exact Or.inl rfl
      · exact Or.inr rfl
  · rintro i z k hi rfl hk
    have hfi := hf i hi
    refine pk_le L i (fun c => by omega) (fun _ => ⟨fun c => ?_, fun c => ⟨vp_in_nI (by omega) (by decide), ?_⟩⟩)
    · have hx : exB f b i = true := by
        cases hx : exB f b i
        · rw [hx] at c; exact absurd rfl c
        · rfl
      show k (nI L, nI a, nI b, (1 : Int32), nI i + 1, A, B)
      rw [nI_1]
      refine hk _ ?_
      have : exB f b (i + 1) = true := by show (exB f b i || decide (f i = b)) = true; rw [hx]; rfl
      rw [this]; rfl
    · have hx : exB f b i = false := by
        cases hx : exB f b i
        · rfl
        · rw [hx] at c; exact absurd c no10
      have ex : exB f b (i + 1) = decide (f i = b) := by show (exB f b i || decide (f i = b)) = _; rw [hx]; rfl
      rw [nI_clamp (by omega), hF i hi]
      refine eqB (P := fun n => k (nI L, nI a, nI b, nI n, nI i + 1, A, B)) (by omega) (by omega) id id ?_
      rw [nI_1]
      refine hk _ ?_
      rw [ex]
/-- what was seen, told of a phrase -/
def agB (L : Nat) (f sa sb sc : Nat → Nat) : Nat → Bool
  | 0 => true
  | i + 1 => agB L f sa sb sc i && (sB L f (sa i) (sb i) == decide (sc i = 1))
theorem agB_false {L : Nat} {f sa sb sc : Nat → Nat} {i k : Nat} (h : i ≤ k) (e : agB L f sa sb sc i = false) : agB L f sa sb sc k = false := by
  induction k with
  | zero => rw [show i = 0 by omega] at e; exact e
  | succ k ih =>
    rcases Nat.lt_or_ge i (k + 1) with q | q
    · show (agB L f sa sb sc k && _) = false
      rw [ih (by omega)]; rfl
    · rw [show i = k + 1 by omega] at e; exact e
theorem bN_eq {x y : Bool} : nI (bN x) = nI (bN y) ↔ x = y := by
  cases x <;> cases y <;> decide
theorem pe_foundAgrees {L k : Nat} {f sa sb sc : Nat → Nat} {I : MI} {J : MJ} {Q : Int32 → MI → MJ → Prop} (hL : L ≤ 12) (h0 : 0 < L) (hf : ∀ i, i < L → f i < 10) (e10 : I 39 10 = nI L) (hF : ∀ i, i < L → I 43 i = nI (f i)) (hk : k ≤ 6) (ek : I 0 15 = nI k) (hse : ∀ i, i < k → sa i ≤ 3 ∧ sb i ≤ 12 ∧ sc i ≤ 1 ∧ I 65 (i * 3) = nI (sa i) ∧ I 65 (i * 3 + 1) = nI (sb i) ∧ I 65 (i * 3 + 2) = nI (sc i)) (hQ : Q (nI (bN (agB L f sa sb sc k))) I J) : P_X11_foundAgrees I J Q := by
  refine lpx_up (fun i z => z = (nI i, I, J) ∧ agB L f sa sb sc i = true) k ?_ ?_ 0 _ (Nat.zero_le _) ⟨rfl, rfl⟩
  · rintro z k2 ⟨rfl, hx⟩
    refine pk_le k k (fun _ => ?_) (fun c => by omega) ek
    rw [hx] at hQ; exact hQ
  · rintro i z k2 hi ⟨rfl, hx⟩ hk2
    obtain ⟨q1, q2, q3, q4, q5, q6⟩ := hse i hi
    have e0 : nI i * (3 : Int32) = nI (i * 3) := by rw [show (3 : Int32) = nI 3 from rfl, pk_mul]
    have e1 : nI (i * 3) + (1 : Int32) = nI (i * 3 + 1) := nI_1 _
    have e2 : nI (i * 3) + (2 : Int32) = nI (i * 3 + 2) := by rw [show (2 : Int32) = nI 2 from rfl, nI_add]
    have core : P_X11_foundAgrees_29 Q k2 (nI i) (nI (bN (decide (sc i = 1)))) I J := by
      unfold P_X11_foundAgrees_29
      rw [e0, e1]
      refine ⟨vp_in_nI (by omega) (by decide), vp_in_nI (by omega) (by decide), ?_⟩
      rw [nI_clamp (by omega), nI_clamp (by omega), q4, q5]
      refine pe_isSoX hL h0 hf e10 hF q1 q2 ⟨fun c => ?_, fun c => ?_⟩
      · rw [nI_1]
        refine hk2 _ ⟨rfl, ?_⟩
        show (agB L f sa sb sc i && (sB L f (sa i) (sb i) == decide (sc i = 1))) = true
        rw [hx, bN_eq.mp c]; simp
      · have hfls : agB L f sa sb sc (i + 1) = false := by
          show (agB L f sa sb sc i && (sB L f (sa i) (sb i) == decide (sc i = 1))) = false
          rw [hx, Bool.true_and]
          exact beq_eq_false_iff_ne.mpr (fun e => c (by rw [e]))
        rw [agB_false hi hfls] at hQ; exact hQ
    refine pk_le k i (fun c => by omega) (fun _ => ?_) ek
    rw [e0, e2]
    refine ⟨vp_in_nI (by omega) (by decide), ?_⟩
    rw [nI_clamp (by omega), q6]
    refine ⟨fun c => ?_, fun c => ?_⟩
    · rw [decide_eq_false (fun e => c (by rw [e]; rfl))] at core; exact core
    · rw [decide_eq_true ((nI_eq (b := 1) (by omega) (by decide)).mp c)] at core; exact core
/-- the first number from m on for which it is so, below V -/
def fsP (ag : Nat → Bool) (N m : Nat) (x : Int32) : Prop := (∃ i, m ≤ i ∧ i < N ∧ ag i = true ∧ x = nI i ∧ ∀ j, m ≤ j → j < i → ag j = false) ∨ (x = -9 ∧ ∀ i, m ≤ i → i < N → ag i = false)
theorem pe_leftM {h : Ho} {t : Se} {k w : Nat} {sa sb sc : Nat → Nat} {A : MI} {B : MJ} {Q : Int32 → MI → MJ → Prop} (h1 : hoOK h) (h2 : seOK h t) (hl : lexN A h) (h6 : rowM (A 6) 0 h t) (hw : w ≤ 1) (hk : k ≤ 6) (ek : A 0 19 = nI k) (hse : ∀ i, i < k → sa i ≤ 3 ∧ sb i ≤ 12 ∧ sc i ≤ 1 ∧ A 12 i = nI (sa i) ∧ A 13 i = nI (sb i) ∧ A 14 i = nI (sc i))
    (hbig : ∀ (A' : MI) (B' : MJ), frA A A' → frB B B' → 2000 < V h t (okB t) (tp t) 4 → Q (-3) A' B')
    (hQ : ∀ (A' : MI) (B' : MJ) (x : Int32), frA A A' → frB B B' → V h t (okB t) (tp t) 4 ≤ 2000 → fsP (fun n => agB (fln h t n) (fnd h t n) sa sb sc k) (V h t (okB t) (tp t) 4) 0 x → Q (if w = 0 then nI (sm (fun n => bN (agB (fln h t n) (fnd h t n) sa sb sc k)) (V h t (okB t) (tp t) 4)) else x) A' B') : P_X12_left (nI w) A B Q := by
  have hw10 := h1.1
  have hV := V_small (ok := okB t) h1 (seOK_O h2).1 (Nat.le_refl (tp t)) 4
  have h13p : (10 : Nat) ^ 13 < 2 ^ 60 := by decide
  refine pe_inI (p := 0) (q := 1) (by decide) (by decide) (fun _ _ => ⟨fun _ => ?_, fun e => absurd e no10⟩) (fun hh => absurd ⟨by rw [nI_toInt (by omega)]; omega, by rw [nI_toInt (by omega)]; omega⟩ hh)
  refine pe_manyOf (Or.inl rfl) h1 (seOK_O h2) hl h6 (fun A1 B1 fA fB hL hW => ?_)
  refine ⟨fun c => ?_, fun c => hbig A1 B1 fA fB ?_⟩
  · have hV2 : V h t (okB t) (tp t) 4 ≤ 2000 := (pk_lLE (b := 2000) (by omega) (by decide)).mp c
    have hlA := lexN_fr fA hl
    generalize hN : V h t (okB t) (tp t) 4 = N at *
    rw [lN_i]
    refine lpx_up (fun j z => ∃ (f : Nat → Int32) (x : Int32), z = (nI w, nI (sm (fun n => bN (agB (fln h t n) (fnd h t n) sa sb sc k)) N - sm (fun n => bN (agB (fln h t n) (fnd h t n) sa sb sc k)) (N - j)), x, nI (N - j) - 1, wI A1 27 f, B1) ∧ fsP (fun n => agB (fln h t n) (fnd h t n) sa sb sc k) N (N - j) x) N ?_ ?_ 0 _ (Nat.zero_le _) ⟨A1 27, -9, by rw [wI_self, Nat.sub_zero, Nat.sub_self]; rfl, Or.inr ⟨rfl, fun i c1 c2 => by omega⟩⟩
    · rintro z k2 ⟨f, x, rfl, hx⟩
      rw [Nat.sub_self] at hx ⊢
      have e0 : sm (fun n => bN (agB (fln h t n) (fnd h t n) sa sb sc k)) N - sm (fun n => bN (agB (fln h t n) (fnd h t n) sa sb sc k)) 0 = sm (fun n => bN (agB (fln h t n) (fnd h t n) sa sb sc k)) N := Nat.sub_zero _
      rw [e0]
      have q9 := hQ (wI A1 27 f) B1 x ⟨fun c c1 c2 => (wI_n _ (by omega) _).trans (fA.1 c c1 c2), fA.2⟩ fB hV2 hx
      refine ⟨fun _ => ⟨fun c => ?_, fun c => ?_⟩, fun c => absurd (show nI 0 - 1 < (0 : Int32) by decide) c⟩
      · rw [if_neg (fun e => c (by rw [e]; rfl))] at q9; exact q9
      · rw [if_pos ((nI_eq (b := 0) (by omega) (by decide)).mp c)] at q9; exact q9
    · rintro j z k2 hj ⟨f, x, rfl, hx⟩ hk2
      obtain ⟨n, hn⟩ : ∃ n, N - j = n + 1 := ⟨N - j - 1, by omega⟩
      have hn2 : N - (j + 1) = n := by omega
      rw [hn] at hx ⊢
      rw [hn2] at hk2
      rw [nI_pred]
      have hnV : n < V h t (okB t) (tp t) 4 := by omega
      have hLn := fln_len h1 h2.1 hnV
      have hL0 : 0 < fln h t n := by
        rcases Nat.eq_zero_or_pos (fln h t n) with q | q
        · have e1 := hLn.2.1
          rw [q] at e1
          have e2 : tp t = 0 := e1
          rw [e2, V_0] at hnV
          unfold eb at hnV
          rw [Nat.testBit_lt_two_pow (i := 4) (by have := h2.2.2.2.2.1; omega)] at hnV
          exact absurd hnV (Nat.not_lt_zero n)
        · exact q
      have hfl := fnd_lt h1 hnV hLn
      refine ⟨fun c => absurd c (nI_pos (by omega)), fun _ => ?_⟩
      rw [nI_l (by omega)]
      refine pe_findM (A := wI A1 27 f) h1 h2 hlA hL hW hnV hLn (fun f2 hf2 => ?_)
      rw [wI_wI]
      have eK : wI A1 27 f2 0 19 = nI k := (fA.2 19 (by decide)).trans ek
      have esm : sm (fun n => bN (agB (fln h t n) (fnd h t n) sa sb sc k)) (n + 1) = sm (fun n => bN (agB (fln h t n) (fnd h t n) sa sb sc k)) n + bN (agB (fln h t n) (fnd h t n) sa sb sc k) := rfl
      have hle : sm (fun n => bN (agB (fln h t n) (fnd h t n) sa sb sc k)) (n + 1) ≤ sm (fun n => bN (agB (fln h t n) (fnd h t n) sa sb sc k)) N := sm_le_sm _ (by omega)
      refine lpx_up (fun i z => z = (nI w, nI (sm (fun n => bN (agB (fln h t n) (fnd h t n) sa sb sc k)) N - sm (fun n => bN (agB (fln h t n) (fnd h t n) sa sb sc k)) (n + 1)), x, nI n, nI (fln h t n), nI (bN (agB (fln h t n) (fnd h t n) sa sb sc i)), nI i, wI A1 27 f2, B1)) k ?_ ?_ 0 _ (Nat.zero_le _) rfl
      · rintro z k3 rfl
        refine pk_le k k (fun _ => ?_) (fun c => by omega) eK
        have next : ∀ x2 : Int32, fsP (fun n => agB (fln h t n) (fnd h t n) sa sb sc k) N n x2 → k2 (nI w, nI (sm (fun n => bN (agB (fln h t n) (fnd h t n) sa sb sc k)) N - sm (fun n => bN (agB (fln h t n) (fnd h t n) sa sb sc k)) (n + 1)) + nI (bN (agB (fln h t n) (fnd h t n) sa sb sc k)), x2, nI n + (-1), wI A1 27 f2, B1) := fun x2 hx2 => by
          rw [nI_add, sub1]
          have : sm (fun n => bN (agB (fln h t n) (fnd h t n) sa sb sc k)) N - sm (fun n => bN (agB (fln h t n) (fnd h t n) sa sb sc k)) (n + 1) + bN (agB (fln h t n) (fnd h t n) sa sb sc k) = sm (fun n => bN (agB (fln h t n) (fnd h t n) sa sb sc k)) N - sm (fun n => bN (agB (fln h t n) (fnd h t n) sa sb sc k)) n := by omega
          rw [this]
          exact hk2 _ ⟨f2, x2, rfl, hx2⟩
        cases hag : agB (fln h t n) (fnd h t n) sa sb sc k with
        | false =>
          rw [hag] at next
          refine ⟨fun _ => ⟨fun _ => next x ?_, fun e => absurd rfl e⟩, fun e => absurd rfl e⟩
          rcases hx with ⟨i, r1, r2, r3, r4, r5⟩ | ⟨r1, r2⟩
          · refine Or.inl ⟨i, by omega, r2, r3, r4, fun j9 c1 c2 => ?_⟩
            by_cases hj9 : j9 = n
            · subst hj9; exact hag
            · exact r5 j9 (by omega) c2
          · refine Or.inr ⟨r1, fun i c1 c2 => ?_⟩
            by_cases hi9 : i = n
            · subst hi9; exact hag
            · exact r2 i (by omega) c2
        | true =>
          rw [hag] at next
          exact ⟨fun e => absurd e no10, fun _ => ⟨fun e => absurd e no10, fun _ => next (nI n) (Or.inl ⟨n, Nat.le_refl _, by omega, hag, rfl, fun j9 c1 c2 => by omega⟩)⟩⟩
      · rintro i z k3 hi rfl hk3
        obtain ⟨q1, q2, q3, q4, q5, q6⟩ := hse i hi
        have e12 : wI A1 27 f2 12 i = nI (sa i) := by show A1 12 i = _; rw [fA.1 12 (by decide) (by decide)]; exact q4
        have e13 : wI A1 27 f2 13 i = nI (sb i) := by show A1 13 i = _; rw [fA.1 13 (by decide) (by decide)]; exact q5
        have e14 : wI A1 27 f2 14 i = nI (sc i) := by show A1 14 i = _; rw [fA.1 14 (by decide) (by decide)]; exact q6
        have hv6 : vp_in (nI i) 6 := vp_in_nI (by omega) (by decide)
        refine pk_le k i (fun c => by omega) (fun _ => ⟨fun c => ?_, fun c => ⟨hv6, hv6, ?_⟩⟩) eK
        · have hx9 : agB (fln h t n) (fnd h t n) sa sb sc i = false := by
            cases hx9 : agB (fln h t n) (fnd h t n) sa sb sc i
            · rfl
            · rw [hx9] at c; exact absurd c no10
          show k3 (nI w, _, x, nI n, nI (fln h t n), (0 : Int32), nI i + 1, wI A1 27 f2, B1)
          rw [nI_1]
          refine hk3 _ ?_
          rw [agB_false (Nat.le_succ i) hx9]; rfl
        · have hx9 : agB (fln h t n) (fnd h t n) sa sb sc i = true := by
            cases hx9 : agB (fln h t n) (fnd h t n) sa sb sc i
            · rw [hx9] at c; exact absurd rfl c
            · rfl
          rw [nI_clamp (by omega), e12, e13]
          refine pe_isSoM hLn.1 hL0 (fun i hi => by have := hfl i hi; omega) hf2 q1 q2 ⟨hv6, ?_⟩
          rw [e14]
          have core : P_X12_left_116 Q k2 k3 (nI w) (nI (sm (fun n => bN (agB (fln h t n) (fnd h t n) sa sb sc k)) N - sm (fun n => bN (agB (fln h t n) (fnd h t n) sa sb sc k)) (n + 1))) x (nI n) (nI (fln h t n)) (nI i) (nI (bN (sB (fln h t n) (fnd h t n) (sa i) (sb i)))) (nI (bN (decide (sc i = 1)))) (wI A1 27 f2) B1 := by
            refine ⟨fun c => ?_, fun c => ?_⟩
            · show k3 (nI w, _, x, nI n, nI (fln h t n), (0 : Int32), nI i + 1, wI A1 27 f2, B1)
              rw [nI_1]
              refine hk3 _ ?_
              have : agB (fln h t n) (fnd h t n) sa sb sc (i + 1) = false := by
                show (agB (fln h t n) (fnd h t n) sa sb sc i && (sB (fln h t n) (fnd h t n) (sa i) (sb i) == decide (sc i = 1))) = false
                rw [hx9, Bool.true_and]
                exact beq_eq_false_iff_ne.mpr (fun e => c (by rw [e]))
              rw [this]; rfl
            · show k3 (nI w, _, x, nI n, nI (fln h t n), (1 : Int32), nI i + 1, wI A1 27 f2, B1)
              rw [nI_1]
              refine hk3 _ ?_
              have : agB (fln h t n) (fnd h t n) sa sb sc (i + 1) = true := by
                show (agB (fln h t n) (fnd h t n) sa sb sc i && (sB (fln h t n) (fnd h t n) (sa i) (sb i) == decide (sc i = 1))) = true
                rw [hx9, bN_eq.mp c]; simp
              rw [this]; rfl
          refine ⟨fun c => ?_, fun c => ?_⟩
          · rw [decide_eq_false (fun e => c (by rw [e]; rfl))] at core; exact core
          · rw [decide_eq_true ((nI_eq (b := 1) (by omega) (by decide)).mp c)] at core; exact core
  · have := mt (pk_lLE (b := 2000) (by omega) (by decide)).mpr c; omega
