/-! what was counted: figures to unlike bases (bs: bases, vl: the number of figures, dg: a figure), steps, ways -/
def bs (b : Nat → Nat) : Nat → Nat
  | 0 => 1
  | n + 1 => bs b n * (b n + 1)
def vl (b d : Nat → Nat) : Nat → Nat
  | 0 => 0
  | n + 1 => vl b d n + d n * bs b n
def dg (b : Nat → Nat) (p l : Nat) : Nat := p / bs b l % (b l + 1)
def pr (h : Ho) (t : Se) (w : Nat) : Nat := vl (seB t) (nd h w) 8
def tp (t : Se) : Nat := bs (seB t) 8 - 1
abbrev fitP (h : Ho) (t : Se) (p w : Nat) : Prop := ∀ l, l < 8 → nd h w l ≤ dg (seB t) p l
def msk (t : Se) (a : Nat) : Nat := if a = 4 then seG t else seF t a
def eb (t : Se) (a : Nat) : Nat := if (seE t).testBit a then 1 else 0
/-- the words that aren't barred -/
def okB (t : Se) (w : Nat) : Bool := !(seX t).testBit w
def may (h : Ho) (t : Se) (ok : Nat → Bool) (p a w : Nat) : Bool := ok w && (msk t a).testBit (hoK h w) && decide (fitP h t p w)
def Vf (h : Ho) (t : Se) (ok : Nat → Bool) : Nat → Nat → Nat → Nat
  | 0, p, a => if p = 0 then eb t a else 0
  | n + 1, p, a => if p = 0 then eb t a else sm (fun w => if may h t ok p a w then Vf h t ok n (p - pr h t w) (hoK h w) else 0) (hoW h)
def V (h : Ho) (t : Se) (ok : Nat → Bool) (p a : Nat) : Nat := Vf h t ok p p a
/-- just so many words -/
def Ly (h : Ho) (t : Se) (ok : Nat → Bool) : Nat → Nat → Nat → Nat
  | 0, p, a => if p = 0 then eb t a else 0
  | n + 1, p, a => if p = 0 then 0 else sm (fun w => if may h t ok p a w then Ly h t ok n (p - pr h t w) (hoK h w) else 0) (hoW h)
/-- a row of n words from a place, behind a kind, to another -/
def Pth (h : Ho) (t : Se) (ok : Nat → Bool) : Nat → Nat → Nat → Nat → Nat → Prop
  | 0, p, a, q, b => p = q ∧ a = b
  | n + 1, p, a, q, b => ∃ w, w < hoW h ∧ 0 < p ∧ may h t ok p a w = true ∧ (p - pr h t w = 0 → (seE t).testBit (hoK h w) = true) ∧ Pth h t ok n (p - pr h t w) (hoK h w) q b
def Rc (h : Ho) (t : Se) (p a : Nat) : Prop := ∃ n, Pth h t (okB t) n (tp t) 4 p a
/-- the word w opens at place p, come to by some kind -/
def Op (h : Ho) (t : Se) (p w : Nat) : Prop := ∃ a, Rc h t p a ∧ may h t (okB t) p a w = true ∧ (p - pr h t w = 0 → (seE t).testBit (hoK h w) = true)
def LatOK (o C F R P : Nat → Int32) (h : Ho) (t : Se) : Prop := o 11 = nI (tp t) ∧ (∀ w, w < hoW h → okB t w = true → fitP h t (tp t) w → P w = nI (pr h t w)) ∧
  (∀ p, p ≤ tp t → ∃ c, C p = nI c ∧ c < 32 ∧ (c.testBit 4 = true ↔ p = tp t ∧ 0 < tp t) ∧ ∀ a, a < 4 → (c.testBit a = true ↔ Rc h t p a)) ∧
  (∀ p, 0 < p → p ≤ tp t → (∃ a, Rc h t p a) → ∃ f, F p = nI f ∧ f < 1024 ∧ ∀ w, w < hoW h → (f.testBit w = true ↔ Op h t p w)) ∧
  (∃ (m : Nat) (od : Nat → Nat), o 9 = nI m ∧ m ≤ tp t ∧ (∀ i, i < m → R i = nI (od i) ∧ 0 < od i ∧ od i ≤ tp t ∧ ∃ a, Rc h t (od i) a) ∧ (∀ i j, i < j → j < m → od j < od i) ∧ ∀ p, 0 < p → p ≤ tp t → (∃ a, Rc h t p a) → ∃ i, i < m ∧ od i = p)
/-- tails: what they hold at the places that can be come to -/
def TlOK (T : Nat → Int64) (G : Nat → Nat → Int64) (h : Ho) (t : Se) : Prop := ∀ p a, a < 4 → Rc h t p a → T (p * 4 + a) = G p a
/-- which of the words that come a word is -/
def ub (t : Se) (w : Nat) : Nat := sm (fun u => if okB t u then 1 else 0) w
/-- a set of the words that come, by bits -/
def sbs (t : Se) (s : Nat) (w : Nat) : Bool := okB t w && s.testBit (ub t w)
def OpOK (o C : Nat → Int32) (O : Nat → Int64) (h : Ho) (t : Se) : Prop := ub t (hoW h) ≤ 8 ∧ o 7 = nI (ub t (hoW h)) ∧ (∀ w, w < hoW h → okB t w = true → C (ub t w) = nI w) ∧ ∀ s, s < 2 ^ ub t (hoW h) → (O (s / 64)).toBitVec.getLsbD (s % 64) = decide (0 < V h t (sbs t s) (tp t) 4)
def CtOK (N : Nat → Int64) (h : Ho) (t : Se) : Prop := ∀ s, s < 2 ^ ub t (hoW h) → N s = lN (V h t (sbs t s) (tp t) 4)
def PhOK (f o C F R P : Nat → Int32) (L T W : Nat → Int64) (h : Ho) (t : Se) : Prop := LatOK o C F R P h t ∧ TlOK T (fun p a => lN (V h t (okB t) p a)) h t ∧ L 11 = lN (V h t (okB t) (tp t) 4) ∧ (f 13 = 0 ∨ ∀ k, 1 ≤ k → k ≤ 12 → W k = lN (Ly h t (okB t) k (tp t) 4))
