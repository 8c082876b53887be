/-! ===== LAYER 2: what the two memories have to do with one another =====
Ho: a house: how many words, kinds, sizes, spellings. Se: a setting: bag, ranks, what may follow (bits), begin, end, barred (bits) -/
abbrev Ho : Type := Nat × (Nat → Nat) × (Nat → Nat) × (Nat → Nat → Nat)
abbrev Se : Type := (Nat → Nat) × (Nat → Nat) × (Nat → Nat) × Nat × Nat × Nat
abbrev hoW (h : Ho) : Nat := h.1
abbrev hoK (h : Ho) : Nat → Nat := h.2.1
abbrev hoZ (h : Ho) : Nat → Nat := h.2.2.1
abbrev hoS (h : Ho) : Nat → Nat → Nat := h.2.2.2
abbrev seB (t : Se) : Nat → Nat := t.1
abbrev seR (t : Se) : Nat → Nat := t.2.1
abbrev seF (t : Se) : Nat → Nat := t.2.2.1
abbrev seG (t : Se) : Nat := t.2.2.2.1
abbrev seE (t : Se) : Nat := t.2.2.2.2.1
abbrev seX (t : Se) : Nat := t.2.2.2.2.2
/-- how often l is among f 0 .. f (n - 1) -/
def cnt (f : Nat → Nat) (l : Nat) : Nat → Nat
  | 0 => 0
  | n + 1 => cnt f l n + if f n = l then 1 else 0
/-- f 0 + .. + f (n - 1) -/
def sm (f : Nat → Nat) : Nat → Nat
  | 0 => 0
  | n + 1 => sm f n + f n
/-- five bits a letter -/
def pk (f : Nat → Nat) : Nat → Nat
  | 0 => 0
  | n + 1 => pk f n + f n * 32 ^ n
def nd (h : Ho) (u l : Nat) : Nat := cnt (hoS h u) l (hoZ h u)
def hoOK (h : Ho) : Prop := hoW h ≤ 10 ∧ ∀ u, u < hoW h → hoK h u < 4 ∧ 1 ≤ hoZ h u ∧ hoZ h u ≤ 6 ∧ ∀ i, i < hoZ h u → hoS h u i < 8
def seOK (h : Ho) (t : Se) : Prop := sm (seB t) 8 ≤ 12 ∧ (∀ u, u < hoW h → seR t u ≤ 9) ∧ (∀ a, a < 4 → seF t a < 16) ∧ seG t < 16 ∧ seE t < 16 ∧ seX t < 2 ^ hoW h
/-- the class's words, by the slices of its memory -/
def lexX (n : Int32) (K Z : Nat → Int32) (P : Nat → Int64) (S : Nat → Int32) (h : Ho) : Prop := n = nI (hoW h) ∧ ∀ u, u < hoW h → K u = nI (hoK h u) ∧ Z u = nI (hoZ h u) ∧ P u = lN (pk (nd h u) 8) ∧ ∀ i, i < hoZ h u → S (u * 6 + i) = nI (hoS h u i)
/-- the reference's words -/
def lexM (n : Int32) (K Z N S : Nat → Int32) (h : Ho) : Prop := n = nI (hoW h) ∧ ∀ u, u < hoW h → K u = nI (hoK h u) ∧ Z u = nI (hoZ h u) ∧ (∀ l, l < 8 → N (8 * u + l) = nI (nd h u l)) ∧ ∀ i, i < hoZ h u → S (6 * u + i) = nI (hoS h u i)
/-- a setting of the class: its own fields, bag, ranks, follow -/
def setX (o B R F : Nat → Int32) (h : Ho) (t : Se) : Prop := (∀ l, l < 8 → B l = nI (seB t l)) ∧ (∀ u, u < hoW h → R u = nI (seR t u)) ∧ (∀ a, a < 4 → F a = nI (seF t a)) ∧ o 3 = nI (seG t) ∧ o 4 = nI (seE t) ∧ o 5 = nI (seX t)
/-- a row of the reference, from place o on -/
def rowM (A : Nat → Int32) (o : Nat) (h : Ho) (t : Se) : Prop := (∀ l, l < 8 → A (o + l) = nI (seB t l)) ∧ (∀ u, u < hoW h → A (o + 9 + u) = nI (seR t u)) ∧ (∀ a, a < 4 → A (o + 21 + a) = nI (seF t a)) ∧ A (o + 19) = nI (seG t) ∧ A (o + 20) = nI (seE t) ∧ A (o + 8) = nI (seX t)
def S_text (n n2 : Int32) (f g : Nat → Int32) (z : Int32) : Prop := ∃ k, (k ≤ 180 ∧ z = 0) ∧ n = nI k ∧ n2 = nI k ∧ ∀ j, j < k → f j = g j ∧ 0 ≤ (g j).toInt ∧ (g j).toInt ≤ 255
/-- the change that an act is: 0 put, 1 take, 2 bar, 3 rank, 4 begin, 5 end, 6 follow -/
def chg (act x d : Nat) (t : Se) : Se := match act with
  | 0 => (fun l => if l = x then seB t l + 1 else seB t l, t.2)
  | 1 => (fun l => if l = x then seB t l - 1 else seB t l, t.2)
  | 2 => (seB t, seR t, seF t, seG t, seE t, seX t ^^^ (1 <<< x))
  | 3 => (seB t, fun u => if u = x then d else seR t u, t.2.2)
  | 4 => (seB t, seR t, seF t, seG t ^^^ (1 <<< x), seE t, seX t)
  | 5 => (seB t, seR t, seF t, seG t, seE t ^^^ (1 <<< x), seX t)
  | _ => (seB t, seR t, fun a => if a = x then seF t a ^^^ (1 <<< d) else seF t a, t.2.2.2)
def actOK (h : Ho) (act x d : Nat) : Prop := act ≤ 6 ∧ ((act ≤ 1 → x < 8) ∧ (act = 2 → x < hoW h) ∧ (act = 3 → x < hoW h ∧ d ≤ 9) ∧ (4 ≤ act → x < 4) ∧ (act = 6 → d < 4))
/-- the doings: the class keeps what undoes each, the reference rows in a ring -/
def S_do (n n2 nx : Int32) (a x d D : Nat → Int32) (h : Ho) (t : Se) : Prop := ∃ (k q : Nat) (ts : Nat → Se), k ≤ 14 ∧ q < 14 ∧ n = nI k ∧ n2 = nI k ∧ nx = nI q ∧ ts k = t ∧ ∀ i, i < k → seOK h (ts i) ∧ rowM D (25 * ((q + 14 - (k - i)) % 14)) h (ts i) ∧
  ∃ a1 x1 d1 : Nat, a i = nI a1 ∧ x i = nI x1 ∧ d i = nI d1 ∧ actOK h a1 x1 d1 ∧ (a1 = 1 → 0 < seB (ts (i + 1)) x1) ∧ chg a1 x1 d1 (ts (i + 1)) = ts i
def S_slot (z z2 : Int32) (o B R F A : Nat → Int32) (w : Nat) (h : Ho) : Prop := (z = 0 ∧ z2 = 0) ∨ (z = 1 ∧ z2 = 1 ∧ ∃ t : Se, seOK h t ∧ setX o B R F h t ∧ rowM A w h t)
def S_row (n n2 : Int32) (f g : Nat → Int32) (h : Ho) : Prop := ∃ k, k ≤ 12 ∧ n = nI k ∧ n2 = nI k ∧ ∀ i, i < k → ∃ u, u < hoW h ∧ f i = nI u ∧ g i = nI u
def S_seen (n n2 : Int32) (f g1 g2 g3 : Nat → Int32) : Prop := ∃ k, k ≤ 6 ∧ n = nI k ∧ n2 = nI k ∧ ∀ i, i < k → ∃ a b c : Nat, a ≤ 3 ∧ b ≤ 12 ∧ c ≤ 1 ∧ f (i * 3) = nI a ∧ f (i * 3 + 1) = nI b ∧ f (i * 3 + 2) = nI c ∧ g1 i = nI a ∧ g2 i = nI b ∧ g3 i = nI c
def S_sw (a b : Int32) : Prop := (a = 0 ∧ b = 1) ∨ (a = 1 ∧ b = 0)
