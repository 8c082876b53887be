/-! the memory of a world: ints and longs by cell and place; booleans are ints -/
abbrev MI : Type := Nat → Nat → Int32
abbrev MJ : Type := Nat → Nat → Int64
def wI (I : MI) (c : Nat) (f : Nat → Int32) : MI := fun x => if x = c then f else I x
def wJ (J : MJ) (c : Nat) (f : Nat → Int64) : MJ := fun x => if x = c then f else J x
abbrev mI (I : MI) (c j : Nat) (v : Int32) : MI := wI I c (upd (I c) j v)
abbrev mJ (J : MJ) (c j : Nat) (v : Int64) : MJ := wJ J c (vp_updL (J c) j v)
theorem wI_s (I : MI) (c : Nat) (f : Nat → Int32) : wI I c f c = f := if_pos rfl
theorem wI_n (I : MI) {x c : Nat} (h : x ≠ c) (f : Nat → Int32) : wI I c f x = I x := if_neg h
theorem wJ_s (J : MJ) (c : Nat) (f : Nat → Int64) : wJ J c f c = f := if_pos rfl
theorem wJ_n (J : MJ) {x c : Nat} (h : x ≠ c) (f : Nat → Int64) : wJ J c f x = J x := if_neg h
/-- a loop: fuel, and its body with what comes behind a jump back -/
def loopP {α : Type} (body : (α → Prop) → α → Prop) : Nat → α → Prop
  | 0, _ => False
  | n + 1, a => body (loopP body n) a
def lpx {α : Type} (body : (α → Prop) → α → Prop) (a : α) : Prop := ∃ n, loopP body n a
/-! worlds: a row of cells, each of a shape -/
abbrev gS : Type := Nat → (Nat → Int32) → (Nat → Int64) → va_E
def gW (S : gS) (n : Nat) (ad : Nat → Nat) (I : MI) (J : MJ) : va_W := (List.range n).map (fun c => (ad c, S c (I c) (J c)))
theorem gW_get {S : gS} {n : Nat} {ad : Nat → Nat} {I : MI} {J : MJ} {c : Nat} (h : c < n) : (gW S n ad I J)[c]? = some (ad c, S c (I c) (J c)) := by
  simp [gW, h]
theorem gW_set {S : gS} {n : Nat} {ad : Nat → Nat} {I I' : MI} {J J' : MJ} {c : Nat} {e : va_E} (he : S c (I' c) (J' c) = e) (hI : ∀ x, x ≠ c → I' x = I x) (hJ : ∀ x, x ≠ c → J' x = J x) : (gW S n ad I J).set c (ad c, e) = gW S n ad I' J' := by
  apply List.ext_getElem?
  intro k
  rw [List.getElem?_set]
  by_cases hk : c = k
  · subst hk
    by_cases hn : c < n
    · simp [gW, hn, he]
    · simp [gW, hn]
  · rw [if_neg hk]
    by_cases hn : k < n
    · rw [gW_get hn, gW_get hn, hI k (fun h => hk h.symm), hJ k (fun h => hk h.symm)]
    · simp [gW, hn]
theorem gW_setI {S : gS} {n : Nat} {ad : Nat → Nat} {I : MI} {J : MJ} {c : Nat} {e : va_E} {f : Nat → Int32} (he : S c f (J c) = e) : (gW S n ad I J).set c (ad c, e) = gW S n ad (wI I c f) J :=
  gW_set (by rw [wI_s]; exact he) (fun _ h => wI_n I h f) (fun _ _ => rfl)
theorem gW_setJ {S : gS} {n : Nat} {ad : Nat → Nat} {I : MI} {J : MJ} {c : Nat} {e : va_E} {f : Nat → Int64} (he : S c (I c) f = e) : (gW S n ad I J).set c (ad c, e) = gW S n ad I (wJ J c f) :=
  gW_set (by rw [wJ_s]; exact he) (fun _ _ => rfl) (fun _ h => wJ_n J h f)
def gA (n : Nat) (ad : Nat → Nat) : Nat → Prop := fun q => ∃ c, c < n ∧ q = ad c
abbrev gT (cy : Nat → ClassId) : List (ClassId × FieldType) := [(cy 0, .int), (cy 1, .long), (cy 2, .boolean), (cy 3, .object "BagPhrases$Setting")]
/-- the world of a contract -/
def gB (S : gS) (n : Nat) (ad : Nat → Nat) (cy : Nat → ClassId) (D : va_G) (E : State → Prop) (I : MI) (J : MJ) (U : State) : Prop :=
  va_P D vwCl (gW S n ad I J) U.heap ∧ va_K D vwCl (gT cy) U ∧ va_D (gA n ad) (gW S n ad I J) ∧ E U
/-- what else holds of the start, and goes on to hold -/
def gEok (n : Nat) (ad : Nat → Nat) (E : State → Prop) : Prop := (∀ u U : State, u.WarmedH U.vm → (∀ q : Nat, q < u.heap.size → ¬ gA n ad q → U.heap[q]? = u.heap[q]?) → E u → E U) ∧ ∀ u U : State, u.vm = U.vm → u.heap = U.heap → E u → E U
/-- the world within a walk -/
def gH (S : gS) (n : Nat) (ad : Nat → Nat) (D : va_G) (s : State) (I : MI) (J : MJ) (H : Heap) (locs : List Loc) : Prop :=
  va_P D vwCl (gW S n ad I J) H ∧ va_D (gA n ad) (gW S n ad I J) ∧ va_S (gA n ad) s.heap H locs
/-- the words that stay: those of the tables that no step can change -/
def lw_g : List Cond := lw_tbl.filter goodWord
theorem lw_good : ∀ w ∈ lw_g, goodWord w = true := fun _ hw => (List.mem_filter.mp hw).2
theorem lw_gin : ∀ w ∈ lw_g, w ∈ lw_tbl := fun _ hw => (List.mem_filter.mp hw).1
theorem lw_t {w : Cond} (i : Nat) (h : tables_1[i]? = some w) (hg : goodWord w = true) : w ∈ lw_g := List.mem_filter.mpr ⟨List.mem_append_right _ (List.mem_of_getElem? h), hg⟩
theorem lw_s {w : Cond} (i : Nat) (h : (k2_sels lw_privs)[i]? = some w) (hg : goodWord w = true) : w ∈ lw_g := List.mem_filter.mpr ⟨List.mem_append_left _ (List.mem_of_getElem? h), hg⟩
def xws (y : MethodName) (cc : ByteArray) (nL : Nat) (rt : Option FieldType) : List Cond := Cond.code y cc nL rt :: lw_g
/-- what a walk knows of its method -/
def gC (own : String) (cc : ByteArray) (nL : Nat) (rt : Option FieldType) (n : Nat) (ad : Nat → Nat) (cy : Nat → ClassId) (D : va_G) (E : State → Prop) (p : Program) (s : State) (m : MethodId) (args : Array Value) (meth : Method) (c : Code) : Prop :=
  p.tables.exec = Jvm.exec ∧ c.code = cc ∧ meth.sig.returnType = rt ∧ c.maxLocals = nL ∧ s.vm.findClass own = some m.cls ∧ (∀ w ∈ lw_g, w.before args s = true) ∧ meth.locks = false ∧ va_K D vwCl (gT cy) s ∧ E s ∧ gEok n ad E
section
variable {p : Program} {l : Launch} {e : Env} {R : Room} {s : State} {m : MethodId} {args : Array Value} {below : List Frame} {meth : Method} {c : Code} {H : Heap} {locs : List Loc} {cells slots : Nat} {Qs : State → Prop}
variable {own : String} {cc : ByteArray} {nL : Nat} {rt : Option FieldType} {S : gS} {n : Nat} {ad : Nat → Nat} {cy : Nat → ClassId} {D : va_G} {E : State → Prop} {I : MI} {J : MJ}
variable {pc : Nat} {ls : Array Slot} {rest : List Value} {k : Nat}
theorem g_met {y : MethodName} {rm : Room} {av : List Value} {Qc : Array Value → State → Outcome → State → Prop} (hE : gEok n ad E) (hy : y.cls = own) (hpl : plainName y.cls = true) (hlen : (lg_sl av).length ≤ nL)
    (body : ∀ (p : Program) (e : Env) (s : State) (m : MethodId) (below : List Frame) (meth : Method) (c : Code) (ls : Array Slot), gC own cc nL rt n ad cy D E p s m av.toArray meth c → gH S n ad D s I J s.heap [] → lv_has ls nL (lv_args 0 av) →
      W p l e rm s m av.toArray below meth c s.heap [] 0 0 (MQ below Qc av.toArray s 0 0 (gA n ad)) (F0 m 0 ls [])) :
    Met l y (xws y cc nL rt) rm (va_Pc av (gB S n ad cy D E I J)) Qc 0 0 (gA n ad) := by
  refine Met.ofW (cc := cc) (maxL := nL) (ret := rt) hpl rfl ?_
  intro p e s m args below meth c s₁ B hml hv
  obtain ⟨rfl, hP, hK, hD, hEs⟩ := hv
  have hts := atoms_spec (ws := xws y cc nL rt) B.pre
  have hl := lv_entry av (n := nL) hlen
  rw [lg_entry_eq]
  exact body p e s m below meth c _ ⟨B.exec, B.bytes, B.returns, hml, by rw [← hy]; exact findClass_of_methodNamed B.named, fun w hw => hts w (List.mem_cons_of_mem _ hw), B.notSynchronized, hK, hEs, hE⟩ ⟨hP, hD, va_S.rf⟩ hl
/-- a field: its class's number, its place -/
def gFl (own : String) (index ci j : Nat) : Prop := ∃ (Cn : String) (T : u_T) (N : Nat), vwCl[ci]? = some (Cn, T, N) ∧ (∀ w ∈ u_ws Cn T N, w ∈ lw_g) ∧ j < N ∧ Cond.fieldLink own index (T j).1 (T j).2.1 (T j).2.2.1 ∈ lw_g
def gFp (own : String) (index ci j : Nat) (ty : FieldType) : Prop := ∃ (Cn : String) (T : u_T) (N : Nat) (ty0 : Nat → FieldType), vwCl[ci]? = some (Cn, T, N) ∧ (∀ w ∈ u_ws Cn T N, w ∈ lw_g) ∧ j < N ∧ Cond.fieldLink own index (T j).1 (T j).2.1 (T j).2.2.1 ∈ lw_g ∧
  (∀ k, k < N → parseFieldDescriptor (T k).2.2.1 = some (ty0 k)) ∧ (∀ a, a < N → ∀ b, b < N → a ≠ b → (T a).2.1 ≠ (T b).2.1) ∧ (T j).2.2.2 = false ∧ ty0 j = ty
theorem g_get {ci j index : Nat} {fs : List Value} {v : Value} (C : gC own cc nL rt n ad cy D E p s m args meth c) (hw : gH S n ad D s I J H locs) (fl : gFl own index ci j) (hk : k < n) (hs : S k (I k) (J k) = .inr (ci, fs)) (hv : fs[j]? = some v) (hd : decode cc pc = .ok (.getfield index, 3))
    (kk : W p l e R s m args below meth c H locs cells slots Qs (F0 m (pc + 3) ls (v :: rest))) : W p l e R s m args below meth c H locs cells slots Qs (F0 m pc ls (.ref (ad k) :: rest)) := by
  obtain ⟨hx, hb, -, -, hown, hts, -, hK, -⟩ := C
  obtain ⟨Cn, T, N, hc, hin, hj, hl⟩ := fl
  exact va_get hx hb hts hin hown hK hw.1 k (by rw [gW_get hk, hs]) hc j hj (hts _ hl) (fun _ h => h) hv hd kk
theorem g_put {ci j index : Nat} {ty : FieldType} {fs : List Value} {v : Value} {I' : MI} {J' : MJ} (C : gC own cc nL rt n ad cy D E p s m args meth c) (hw : gH S n ad D s I J H locs) (fl : gFp own index ci j ty) (hk : k < n) (hs : S k (I k) (J k) = .inr (ci, fs)) (hl : j < fs.length) (hn : narrow ty v = v) (hf : fits ty v = true)
    (hset : (gW S n ad I J).set k (ad k, .inr (ci, fs.set j v)) = gW S n ad I' J') (hd : decode cc pc = .ok (.putfield index, 3))
    (kk : ∀ (H : Heap) (locs : List Loc), gH S n ad D s I' J' H locs → W p l e R s m args below meth c H locs cells slots Qs (F0 m (pc + 3) ls rest)) : W p l e R s m args below meth c H locs cells slots Qs (F0 m pc ls (v :: .ref (ad k) :: rest)) := by
  obtain ⟨hx, hb, -, -, hown, hts, -, hK, -⟩ := C
  obtain ⟨Cn, T, N, ty0, hc, hin, hj, hlk, hty, hnm, hfin, hte⟩ := fl
  refine va_put hx hb hts hin ty0 hty hnm hown hK hw.1 hw.2.1 hw.2.2 k (by rw [gW_get hk, hs]) hc j hj (hts _ hlk) (fun _ h => h) hfin (by rw [hty j hj, hte]) hn hf hl hd (fun H1 locs1 hP hD hS => ?_)
  rw [hset] at hP hD
  exact kk H1 locs1 ⟨hP, hD, hS⟩
theorem g_putI {ci j index : Nat} {ty : FieldType} {fs : (Nat → Int32) → (Nat → Int64) → List Value} {x : Int32} (C : gC own cc nL rt n ad cy D E p s m args meth c) (hw : gH S n ad D s I J H locs) (fl : gFp own index ci j ty) (hk : k < n) (hs : ∀ i q, S k i q = .inr (ci, fs i q)) (hset : ∀ i q, (fs i q).set j (.int x) = fs (upd i j x) q) (hl : j < (fs (I k) (J k)).length) (hn : narrow ty (.int x) = .int x) (hf : fits ty (.int x) = true) (hd : decode cc pc = .ok (.putfield index, 3))
    (kk : ∀ (H : Heap) (locs : List Loc), gH S n ad D s (mI I k j x) J H locs → W p l e R s m args below meth c H locs cells slots Qs (F0 m (pc + 3) ls rest)) : W p l e R s m args below meth c H locs cells slots Qs (F0 m pc ls (.int x :: .ref (ad k) :: rest)) :=
  g_put C hw fl hk (hs _ _) hl hn hf (gW_setI (by rw [hs, hset])) hd kk
theorem g_putJ {ci j index : Nat} {fs : (Nat → Int32) → (Nat → Int64) → List Value} {x : Int64} (C : gC own cc nL rt n ad cy D E p s m args meth c) (hw : gH S n ad D s I J H locs) (fl : gFp own index ci j .long) (hk : k < n) (hs : ∀ i q, S k i q = .inr (ci, fs i q)) (hset : ∀ i q, (fs i q).set j (.long x) = fs i (vp_updL q j x)) (hl : j < (fs (I k) (J k)).length) (hd : decode cc pc = .ok (.putfield index, 3))
    (kk : ∀ (H : Heap) (locs : List Loc), gH S n ad D s I (mJ J k j x) H locs → W p l e R s m args below meth c H locs cells slots Qs (F0 m (pc + 3) ls rest)) : W p l e R s m args below meth c H locs cells slots Qs (F0 m pc ls (.long x :: .ref (ad k) :: rest)) :=
  g_put C hw fl hk (hs _ _) hl rfl rfl (gW_setJ (by rw [hs, hset])) hd kk
theorem g_iald {len : Nat} {x : Int32} (C : gC own cc nL rt n ad cy D E p s m args meth c) (hw : gH S n ad D s I J H locs) (hk : k < n) (hs : ∀ i q, S k i q = .inl (cy 0, len, .inl i)) (hin : vp_in x len) (hd : decode cc pc = .ok (.iaload, 1))
    (kk : W p l e R s m args below meth c H locs cells slots Qs (F0 m (pc + 1) ls (.int (I k x.toNatClampNeg) :: rest))) : W p l e R s m args below meth c H locs cells slots Qs (F0 m pc ls (.int x :: .ref (ad k) :: rest)) :=
  va_iald C.1 C.2.1 C.2.2.2.2.2.2.2.1 hw.1 k 0 (by rw [gW_get hk, hs]) rfl hin hd kk
theorem g_zald {len : Nat} {x : Int32} (C : gC own cc nL rt n ad cy D E p s m args meth c) (hw : gH S n ad D s I J H locs) (hk : k < n) (hs : ∀ i q, S k i q = .inl (cy 2, len, .inl i)) (hin : vp_in x len) (hd : decode cc pc = .ok (.baload, 1))
    (kk : W p l e R s m args below meth c H locs cells slots Qs (F0 m (pc + 1) ls (.int (I k x.toNatClampNeg) :: rest))) : W p l e R s m args below meth c H locs cells slots Qs (F0 m pc ls (.int x :: .ref (ad k) :: rest)) :=
  va_zald C.1 C.2.1 C.2.2.2.2.2.2.2.1 hw.1 k 2 (by rw [gW_get hk, hs]) rfl hin hd kk
theorem g_lald {len : Nat} {x : Int32} (C : gC own cc nL rt n ad cy D E p s m args meth c) (hw : gH S n ad D s I J H locs) (hk : k < n) (hs : ∀ i q, S k i q = .inl (cy 1, len, .inr (.inl q))) (hin : vp_in x len) (hd : decode cc pc = .ok (.laload, 1))
    (kk : W p l e R s m args below meth c H locs cells slots Qs (F0 m (pc + 1) ls (.long (J k x.toNatClampNeg) :: rest))) : W p l e R s m args below meth c H locs cells slots Qs (F0 m pc ls (.int x :: .ref (ad k) :: rest)) :=
  va_lald C.1 C.2.1 C.2.2.2.2.2.2.2.1 hw.1 k 1 (by rw [gW_get hk, hs]) rfl hin hd kk
theorem g_aald {len : Nat} {x : Int32} {f : Nat → Option Nat} (C : gC own cc nL rt n ad cy D E p s m args meth c) (hw : gH S n ad D s I J H locs) (hk : k < n) (hs : ∀ i q, S k i q = .inl (cy 3, len, .inr (.inr (.inr (.inr f))))) (hin : vp_in x len) (hd : decode cc pc = .ok (.aaload, 1))
    (kk : W p l e R s m args below meth c H locs cells slots Qs (F0 m (pc + 1) ls (va_rf (f x.toNatClampNeg) :: rest))) : W p l e R s m args below meth c H locs cells slots Qs (F0 m pc ls (.int x :: .ref (ad k) :: rest)) :=
  va_aldq C.1 C.2.1 C.2.2.2.2.2.2.2.1 hw.1 k 3 (by rw [gW_get hk, hs]) rfl hin hd kk
theorem g_iast {len : Nat} {x v : Int32} (C : gC own cc nL rt n ad cy D E p s m args meth c) (hw : gH S n ad D s I J H locs) (hk : k < n) (hs : ∀ i q, S k i q = .inl (cy 0, len, .inl i)) (hin : vp_in x len) (hd : decode cc pc = .ok (.iastore, 1))
    (kk : ∀ (H : Heap) (locs : List Loc), gH S n ad D s (mI I k x.toNatClampNeg v) J H locs → W p l e R s m args below meth c H locs cells slots Qs (F0 m (pc + 1) ls rest)) : W p l e R s m args below meth c H locs cells slots Qs (F0 m pc ls (.int v :: .int x :: .ref (ad k) :: rest)) := by
  refine va_iast C.1 C.2.1 C.2.2.2.2.2.2.2.1 hw.1 hw.2.1 hw.2.2 k 0 (by rw [gW_get hk, hs]) rfl hin hd (fun H1 locs1 hP hD hS => ?_)
  rw [gW_setI (f := upd (I k) x.toNatClampNeg v) (by rw [hs])] at hP hD
  exact kk H1 locs1 ⟨hP, hD, hS⟩
theorem g_zast {len : Nat} {x v : Int32} (C : gC own cc nL rt n ad cy D E p s m args meth c) (hw : gH S n ad D s I J H locs) (hk : k < n) (hs : ∀ i q, S k i q = .inl (cy 2, len, .inl i)) (hin : vp_in x len) (hd : decode cc pc = .ok (.bastore, 1))
    (kk : ∀ (H : Heap) (locs : List Loc), gH S n ad D s (mI I k x.toNatClampNeg (vp_nar .boolean v)) J H locs → W p l e R s m args below meth c H locs cells slots Qs (F0 m (pc + 1) ls rest)) : W p l e R s m args below meth c H locs cells slots Qs (F0 m pc ls (.int v :: .int x :: .ref (ad k) :: rest)) := by
  refine va_zast C.1 C.2.1 C.2.2.2.2.2.2.2.1 hw.1 hw.2.1 hw.2.2 k 2 (by rw [gW_get hk, hs]) rfl hin hd (fun H1 locs1 hP hD hS => ?_)
  rw [gW_setI (f := upd (I k) x.toNatClampNeg (vp_nar .boolean v)) (by rw [hs])] at hP hD
  exact kk H1 locs1 ⟨hP, hD, hS⟩
theorem g_last {len : Nat} {x : Int32} {v : Int64} (C : gC own cc nL rt n ad cy D E p s m args meth c) (hw : gH S n ad D s I J H locs) (hk : k < n) (hs : ∀ i q, S k i q = .inl (cy 1, len, .inr (.inl q))) (hin : vp_in x len) (hd : decode cc pc = .ok (.lastore, 1))
    (kk : ∀ (H : Heap) (locs : List Loc), gH S n ad D s I (mJ J k x.toNatClampNeg v) H locs → W p l e R s m args below meth c H locs cells slots Qs (F0 m (pc + 1) ls rest)) : W p l e R s m args below meth c H locs cells slots Qs (F0 m pc ls (.long v :: .int x :: .ref (ad k) :: rest)) := by
  refine va_last C.1 C.2.1 C.2.2.2.2.2.2.2.1 hw.1 hw.2.1 hw.2.2 k 1 (by rw [gW_get hk, hs]) rfl hin hd (fun H1 locs1 hP hD hS => ?_)
  rw [gW_setJ (f := vp_updL (J k) x.toNatClampNeg v) (by rw [hs])] at hP hD
  exact kk H1 locs1 ⟨hP, hD, hS⟩
theorem g_alen {len : Nat} {v : Int32} (C : gC own cc nL rt n ad cy D E p s m args meth c) (hw : gH S n ad D s I J H locs) (hk : k < n) (hs : ∀ i q, S k i q = .inl (cy 1, len, .inr (.inl q))) (hv : Int32.ofNat len = v) (hd : decode cc pc = .ok (.arraylength, 1))
    (kk : W p l e R s m args below meth c H locs cells slots Qs (F0 m (pc + 1) ls (.int v :: rest))) : W p l e R s m args below meth c H locs cells slots Qs (F0 m pc ls (.ref (ad k) :: rest)) :=
  va_alen C.1 C.2.1 C.2.2.2.2.2.2.2.1 hw.1 k 1 (by rw [gW_get hk, hs]) rfl hv hd kk
theorem g_alenI {len : Nat} {v : Int32} (C : gC own cc nL rt n ad cy D E p s m args meth c) (hw : gH S n ad D s I J H locs) (hk : k < n) (hs : ∀ i q, S k i q = .inl (cy 0, len, .inl i)) (hv : Int32.ofNat len = v) (hd : decode cc pc = .ok (.arraylength, 1))
    (kk : W p l e R s m args below meth c H locs cells slots Qs (F0 m (pc + 1) ls (.int v :: rest))) : W p l e R s m args below meth c H locs cells slots Qs (F0 m pc ls (.ref (ad k) :: rest)) :=
  va_alen C.1 C.2.1 C.2.2.2.2.2.2.2.1 hw.1 k 0 (by rw [gW_get hk, hs]) rfl hv hd kk
/-! the ends of a method -/
abbrev gQi (S : gS) (n : Nat) (ad : Nat → Nat) (cy : Nat → ClassId) (D : va_G) (E : State → Prop) (Q : Int32 → MI → MJ → Prop) : Array Value → State → Outcome → State → Prop := va_Qi (S := MI × MJ) (fun r u => Q r u.1 u.2) (fun u => gB S n ad cy D E u.1 u.2) (gA n ad)
abbrev gQz (S : gS) (n : Nat) (ad : Nat → Nat) (cy : Nat → ClassId) (D : va_G) (E : State → Prop) (Q : Int32 → MI → MJ → Prop) : Array Value → State → Outcome → State → Prop := va_Qi (S := MI × MJ) (fun r u => (r = 0 ∨ r = 1) ∧ Q r u.1 u.2) (fun u => gB S n ad cy D E u.1 u.2) (gA n ad)
abbrev gQl (S : gS) (n : Nat) (ad : Nat → Nat) (cy : Nat → ClassId) (D : va_G) (E : State → Prop) (Q : Int64 → MI → MJ → Prop) : Array Value → State → Outcome → State → Prop := va_Ql (S := MI × MJ) (fun r u => Q r u.1 u.2) (fun u => gB S n ad cy D E u.1 u.2) (gA n ad)
abbrev gQv (S : gS) (n : Nat) (ad : Nat → Nat) (cy : Nat → ClassId) (D : va_G) (E : State → Prop) (Q : MI → MJ → Prop) : Array Value → State → Outcome → State → Prop := va_Qv (S := MI × MJ) (fun u => Q u.1 u.2) (fun u => gB S n ad cy D E u.1 u.2) (gA n ad)
theorem g_back (C : gC own cc nL rt n ad cy D E p s m args meth c) (hw : gH S n ad D s I J H locs) {t : State} (ht : t.heap = H) (hW : s.WarmedH t.vm) : gB S n ad cy D E I J t := by
  obtain ⟨-, -, -, -, -, -, -, hK, hEs, hE⟩ := C
  exact ⟨by rw [ht]; exact hw.1, va_K.moved hW.alike hK, hw.2.1, hE.1 s t hW (by rw [ht]; exact hw.2.2.2.1) hEs⟩
theorem g_iret {Q : Int32 → MI → MJ → Prop} {v : Int32} (C : gC own cc nL (some .int) n ad cy D E p s m args meth c) (hw : gH S n ad D s I J H locs) (hq : Q v I J) (hd : decode cc pc = .ok (.ireturn, 1)) :
    W p l e R s m args below meth c H locs 0 0 (MQ below (gQi S n ad cy D E Q) args s 0 0 (gA n ad)) (F0 m pc ls [.int v]) :=
  W.iret C.1 C.2.1 C.2.2.1 (fun t ht hW => ⟨⟨v, (I, J), rfl, hq, g_back C hw ht hW⟩, hw.2.2.F ht⟩) hw.2.2.2.2 hd C.2.2.2.2.2.2.1
theorem g_zret {Q : Int32 → MI → MJ → Prop} {v : Int32} (C : gC own cc nL (some .boolean) n ad cy D E p s m args meth c) (hw : gH S n ad D s I J H locs) (hz : v = 0 ∨ v = 1) (hq : Q v I J) (hd : decode cc pc = .ok (.ireturn, 1)) :
    W p l e R s m args below meth c H locs 0 0 (MQ below (gQz S n ad cy D E Q) args s 0 0 (gA n ad)) (F0 m pc ls [.int v]) :=
  W.zret C.1 C.2.1 C.2.2.1 (by rcases hz with rfl | rfl <;> decide) (fun t ht hW => ⟨⟨v, (I, J), rfl, ⟨hz, hq⟩, g_back C hw ht hW⟩, hw.2.2.F ht⟩) hw.2.2.2.2 hd C.2.2.2.2.2.2.1
theorem g_lret {Q : Int64 → MI → MJ → Prop} {v : Int64} (C : gC own cc nL (some .long) n ad cy D E p s m args meth c) (hw : gH S n ad D s I J H locs) (hq : Q v I J) (hd : decode cc pc = .ok (.lreturn, 1)) :
    W p l e R s m args below meth c H locs 0 0 (MQ below (gQl S n ad cy D E Q) args s 0 0 (gA n ad)) (F0 m pc ls [.long v]) :=
  W.lret C.1 C.2.1 C.2.2.1 (fun t ht hW => ⟨⟨v, (I, J), rfl, hq, g_back C hw ht hW⟩, hw.2.2.F ht⟩) hw.2.2.2.2 hd C.2.2.2.2.2.2.1
theorem g_vret {Q : MI → MJ → Prop} (C : gC own cc nL none n ad cy D E p s m args meth c) (hw : gH S n ad D s I J H locs) (hq : Q I J) (hd : decode cc pc = .ok (.return_, 1)) :
    W p l e R s m args below meth c H locs 0 0 (MQ below (gQv S n ad cy D E Q) args s 0 0 (gA n ad)) (F0 m pc ls []) :=
  W.vret C.1 C.2.1 C.2.2.1 (fun t ht hW => ⟨⟨(I, J), rfl, hq, g_back C hw ht hW⟩, hw.2.2.F ht⟩) hw.2.2.2.2 hd C.2.2.2.2.2.2.1
/-! calls -/
def gKv (y : MethodName) (cN : ByteArray) (nN : Nat) (rN : Option FieldType) (nA : Nat) : Prop := Cond.instanceMethod y ∈ lw_g ∧ Cond.selects y.cls y y ∈ lw_g ∧ Cond.initialized y.cls ∈ lw_g ∧ Cond.code y cN nN rN ∈ lw_g ∧ y.cls ≠ "java/lang/invoke/MethodHandle" ∧ y.cls ≠ "java/lang/invoke/VarHandle" ∧ (parseMethodDescriptor y.desc).map (fun d => d.parameters.length) = some nA
def gKs (y : MethodName) (cN : ByteArray) (nN : Nat) (rN : Option FieldType) (nA : Nat) : Prop := Cond.static y ∈ lw_g ∧ Cond.initialized y.cls ∈ lw_g ∧ Cond.code y cN nN rN ∈ lw_g ∧ y.cls ≠ "java/lang/invoke/MethodHandle" ∧ y.cls ≠ "java/lang/invoke/VarHandle" ∧ (parseMethodDescriptor y.desc).map (fun d => d.parameters.length) = some nA
theorem g_goodx {y : MethodName} {cN : ByteArray} {nN : Nat} {rN : Option FieldType} (h : Cond.code y cN nN rN ∈ lw_g) : GoodIn lw_g (xws y cN nN rN) := fun w hw => by
  rcases List.mem_cons.mp hw with rfl | hw
  · exact ⟨h, good_of_word (lw_good _ h)⟩
  · exact ⟨hw, good_of_word (lw_good _ hw)⟩
theorem g_goodl {ws : List Cond} (h : ∀ w ∈ ws, w ∈ lw_g) : GoodIn lw_g ws := fun w hw => ⟨h w hw, good_of_word (lw_good _ (h w hw))⟩
theorem g_goodv {y : MethodName} {cN : ByteArray} {nN nA : Nat} {rN : Option FieldType} {index : Nat} (kf : gKv y cN nN rN nA) (hl : Cond.methodLink own index y ∈ lw_g) : GoodIn lw_g (wsV own index y.cls y (xws y cN nN rN)) := g_goodl (fun w hw => by
  obtain ⟨h1, h2, h3, h4, -⟩ := kf
  simp only [wsV, xws, List.cons_append, List.nil_append, List.mem_cons] at hw
  rcases hw with rfl | rfl | rfl | rfl | rfl | hw <;> assumption)
theorem g_goods {y : MethodName} {cN : ByteArray} {nN nA : Nat} {rN : Option FieldType} {index : Nat} (kf : gKs y cN nN rN nA) (hl : Cond.methodLink own index y ∈ lw_g) : GoodIn lw_g (va_wsS own index y (xws y cN nN rN)) := g_goodl (fun w hw => by
  obtain ⟨h1, h3, h4, -⟩ := kf
  simp only [va_wsS, xws, List.cons_append, List.nil_append, List.mem_cons] at hw
  rcases hw with rfl | rfl | rfl | rfl | hw <;> assumption)
theorem g_pre (C : gC own cc nL rt n ad cy D E p s m args meth c) (hw : gH S n ad D s I J H locs) (As : List Value) : PreS s H (va_Pc As (gB S n ad cy D E I J)) As := by
  obtain ⟨-, -, -, -, -, -, -, hK, hEs, hE⟩ := C
  refine ⟨fun a U g mk q => ?_, fun U hU hW => ⟨rfl, by rw [hU]; exact hw.1, va_K.moved hW.alike hK, hw.2.1, hE.1 s U hW (by rw [hU]; exact hw.2.2.2.1) hEs⟩⟩
  obtain ⟨q0, qP, qK, qD, qE⟩ := q
  exact ⟨q0, qP, va_K.moved (u := U) (U := U.calling g mk a) (Vm.Alike.refl U.vm) qK, qD, hE.2 U _ rfl rfl qE⟩
theorem g_rV {y : MethodName} {cN : ByteArray} {nN nA index : Nat} {rN : Option FieldType} {rm : Room} {Qc : Array Value → State → Outcome → State → Prop} {ci : Nat} {fs : List Value} {T : u_T} {N : Nat} {st : List Value} (As rest : List Value) (C : gC own cc nL rt n ad cy D E p s m args meth c) (hw : gH S n ad D s I J H locs)
    (hM : Met l y (xws y cN nN rN) rm (va_Pc (.ref (ad k) :: As) (gB S n ad cy D E I J)) Qc 0 0 (gA n ad)) (kf : gKv y cN nN rN nA) (hl : Cond.methodLink own index y ∈ lw_g) (hk : k < n) (hs : S k (I k) (J k) = .inr (ci, fs)) (hc : vwCl[ci]? = some (y.cls, T, N))
    (hn : As.length = nA) (hz : ls.size = nL) (hst : st = As.reverse ++ .ref (ad k) :: rest) (hsum : (rest.map fun v => v.category).sum ≤ 8) (hR : (rm.cells = 0 ∧ rm.slots = 0) ∧ rm.frames + 1 ≤ R.frames ∧ 8 + (nN + 11) + rm.locals ≤ R.locals) (hcs : cells ≤ R.cells ∧ slots ≤ R.slots) (hd : decode cc pc = .ok (.invokevirtual index, 3)) :
    va_Run p l e R s m args below meth c H locs cells slots 0 0 (F0 m pc ls st) rest (Qc (Value.ref (ad k) :: As).toArray) (gA n ad) := by
  have hp := g_pre C hw (.ref (ad k) :: As)
  have hK := C.2.2.2.2.2.2.2.1
  have hts := C.2.2.2.2.2.1
  have hr := va_recv hK hw.1 (ci := ci) (q0 := k) hc (by rw [gW_get hk, hs])
  exact va_runV (Ts := lw_g) ⟨C.1, C.2.1, C.2.2.2.1, C.2.2.2.2.1, hts⟩ hM (cwV nA hts (g_goodv kf hl) rfl hR.1.1 hR.1.2 ⟨rfl, kf.2.2.2.2⟩ hR.2) ⟨hp.1, hr, hp.2⟩ rfl hn hz hst (lv_room hsum) hd hcs
theorem g_rS {y : MethodName} {cN : ByteArray} {nN nA index : Nat} {rN : Option FieldType} {rm : Room} {Qc : Array Value → State → Outcome → State → Prop} {st : List Value} (As rest : List Value) (C : gC own cc nL rt n ad cy D E p s m args meth c) (hw : gH S n ad D s I J H locs)
    (hM : Met l y (xws y cN nN rN) rm (va_Pc As (gB S n ad cy D E I J)) Qc 0 0 (gA n ad)) (kf : gKs y cN nN rN nA) (hl : Cond.methodLink own index y ∈ lw_g)
    (hn : As.length = nA) (hz : ls.size = nL) (hst : st = As.reverse ++ rest) (hsum : (rest.map fun v => v.category).sum ≤ 8) (hR : (rm.cells = 0 ∧ rm.slots = 0) ∧ rm.frames + 1 ≤ R.frames ∧ 8 + (nN + 11) + rm.locals ≤ R.locals) (hcs : cells ≤ R.cells ∧ slots ≤ R.slots) (hd : decode cc pc = .ok (.invokestatic index, 3)) :
    va_Run p l e R s m args below meth c H locs cells slots 0 0 (F0 m pc ls st) rest (Qc As.toArray) (gA n ad) := by
  have hts := C.2.2.2.2.2.1
  exact va_runS (Ts := lw_g) ⟨C.1, C.2.1, C.2.2.2.1, C.2.2.2.2.1, hts⟩ hM (va_cwS nA hts (g_goods kf hl) rfl hR.1.1 hR.1.2 kf.2.2.2 hR.2) (g_pre C hw As) rfl hn hz hst (lv_room hsum) hd hcs
theorem g_rN {y : MethodName} {cN : ByteArray} {nN nA index : Nat} {rN : Option FieldType} {rm : Room} {Qc : Array Value → State → Outcome → State → Prop} {host : String} {st : List Value} (As rest : List Value) (C : gC own cc nL rt n ad cy D E p s m args meth c) (hw : gH S n ad D s I J H locs)
    (hM : Met l y (xws y cN nN rN) rm (va_Pc As (gB S n ad cy D E I J)) Qc 0 0 (gA n ad)) (kf : gKs y cN nN rN nA) (hl : va_Nw (.methodLinkNest own index y host) s)
    (hn : As.length = nA) (hz : ls.size = nL) (hst : st = As.reverse ++ rest) (hsum : (rest.map fun v => v.category).sum ≤ 8) (hR : (rm.cells = 0 ∧ rm.slots = 0) ∧ rm.frames + 1 ≤ R.frames ∧ 8 + (nN + 11) + rm.locals ≤ R.locals) (hcs : cells ≤ R.cells ∧ slots ≤ R.slots) (hd : decode cc pc = .ok (.invokestatic index, 3)) :
    va_Run p l e R s m args below meth c H locs cells slots 0 0 (F0 m pc ls st) rest (Qc As.toArray) (gA n ad) := by
  have hts := C.2.2.2.2.2.1
  exact va_runSN (Ts := lw_g) ⟨C.1, C.2.1, C.2.2.2.1, C.2.2.2.2.1, hts⟩ hM ⟨va_cnB nA hts (g_goodx kf.2.2.1) rfl hR.1.1 hR.1.2 hl (hts _ kf.2.1) kf.2.2.2 hR.2, hts _ kf.1, trivial⟩ (g_pre C hw As) rfl hn hz hst (lv_room hsum) hd hcs
/-- a method that the class has from above: x is what the call names, y what is selected -/
def gKu (Cn owner : String) (x y : MethodName) (cN : ByteArray) (nN : Nat) (rN : Option FieldType) (nA : Nat) : Prop := Cond.sameMethod x.cls owner x.name x.desc ∈ lw_g ∧ Cond.selects Cn x y ∈ lw_g ∧ Cond.instanceMethod y ∈ lw_g ∧ Cond.initialized y.cls ∈ lw_g ∧ Cond.code y cN nN rN ∈ lw_g
theorem g_rW {x y : MethodName} {Cn owner : String} {cN : ByteArray} {nN nA index : Nat} {rN : Option FieldType} {rm : Room} {Qc : Array Value → State → Outcome → State → Prop} {ci : Nat} {fs : List Value} {T : u_T} {N : Nat} {st : List Value} (As rest : List Value) (C : gC own cc nL rt n ad cy D E p s m args meth c) (hw : gH S n ad D s I J H locs)
    (hM : Met l y (xws y cN nN rN) rm (va_Pc (.ref (ad k) :: As) (gB S n ad cy D E I J)) Qc 0 0 (gA n ad))
    (cw : va_CU R s args own Cn owner index x y cN nN rN (xws y cN nN rN) rm 0 0 nA) (hk : k < n) (hs : S k (I k) (J k) = .inr (ci, fs)) (hc : vwCl[ci]? = some (Cn, T, N))
    (hn : As.length = nA) (hz : ls.size = nL) (hst : st = As.reverse ++ .ref (ad k) :: rest) (hsum : (rest.map fun v => v.category).sum ≤ 8) (hcs : cells ≤ R.cells ∧ slots ≤ R.slots) (hd : decode cc pc = .ok (.invokevirtual index, 3)) :
    va_Run p l e R s m args below meth c H locs cells slots 0 0 (F0 m pc ls st) rest (Qc (Value.ref (ad k) :: As).toArray) (gA n ad) := by
  have hp := g_pre C hw (.ref (ad k) :: As)
  have hK := C.2.2.2.2.2.2.2.1
  have hr := va_recv hK hw.1 (ci := ci) (q0 := k) hc (by rw [gW_get hk, hs])
  exact va_runU (Ts := lw_g) ⟨C.1, C.2.1, C.2.2.2.1, C.2.2.2.2.1, C.2.2.2.2.2.1⟩ hM cw ⟨hp.1, hr, hp.2⟩ rfl hn hz hst (lv_room hsum) hd hcs
theorem g_ci {Q : Int32 → MI → MJ → Prop} {a : Array Value} {st : List Value} (hw : gH S n ad D s I J H locs) (hr : va_Run p l e R s m args below meth c H locs cells slots 0 0 (F0 m pc ls st) rest (gQi S n ad cy D E Q a) (gA n ad))
    (kk : ∀ (r : Int32) (I : MI) (J : MJ) (H : Heap) (locs : List Loc), Q r I J → gH S n ad D s I J H locs → W p l e R s m args below meth c H locs cells slots Qs (F0 m (pc + 3) ls (.int r :: rest))) : W p l e R s m args below meth c H locs cells slots Qs (F0 m pc ls st) :=
  va_calli hr hw.2.2 (fun _ _ h => h) (fun _ h => h) (fun r u t H1 locs1 ht _ hq hB _ _ hS => kk r u.1 u.2 H1 locs1 hq ⟨by rw [← ht]; exact hB.1, hB.2.2.1, hS⟩)
theorem g_cz {Q : Int32 → MI → MJ → Prop} {a : Array Value} {st : List Value} (hw : gH S n ad D s I J H locs) (hr : va_Run p l e R s m args below meth c H locs cells slots 0 0 (F0 m pc ls st) rest (gQz S n ad cy D E Q a) (gA n ad))
    (kk : ∀ (r : Int32) (I : MI) (J : MJ) (H : Heap) (locs : List Loc), (r = 0 ∨ r = 1) → Q r I J → gH S n ad D s I J H locs → W p l e R s m args below meth c H locs cells slots Qs (F0 m (pc + 3) ls (.int r :: rest))) : W p l e R s m args below meth c H locs cells slots Qs (F0 m pc ls st) :=
  va_calli hr hw.2.2 (fun _ _ h => h) (fun _ h => h) (fun r u t H1 locs1 ht _ hq hB _ _ hS => kk r u.1 u.2 H1 locs1 hq.1 hq.2 ⟨by rw [← ht]; exact hB.1, hB.2.2.1, hS⟩)
theorem g_cl {Q : Int64 → MI → MJ → Prop} {a : Array Value} {st : List Value} (hw : gH S n ad D s I J H locs) (hr : va_Run p l e R s m args below meth c H locs cells slots 0 0 (F0 m pc ls st) rest (gQl S n ad cy D E Q a) (gA n ad))
    (kk : ∀ (r : Int64) (I : MI) (J : MJ) (H : Heap) (locs : List Loc), Q r I J → gH S n ad D s I J H locs → W p l e R s m args below meth c H locs cells slots Qs (F0 m (pc + 3) ls (.long r :: rest))) : W p l e R s m args below meth c H locs cells slots Qs (F0 m pc ls st) :=
  va_calll hr hw.2.2 (fun _ _ h => h) (fun _ h => h) (fun r u t H1 locs1 ht _ hq hB _ _ hS => kk r u.1 u.2 H1 locs1 hq ⟨by rw [← ht]; exact hB.1, hB.2.2.1, hS⟩)
theorem g_cv {Q : MI → MJ → Prop} {a : Array Value} {st : List Value} (hw : gH S n ad D s I J H locs) (hr : va_Run p l e R s m args below meth c H locs cells slots 0 0 (F0 m pc ls st) rest (gQv S n ad cy D E Q a) (gA n ad))
    (kk : ∀ (I : MI) (J : MJ) (H : Heap) (locs : List Loc), Q I J → gH S n ad D s I J H locs → W p l e R s m args below meth c H locs cells slots Qs (F0 m (pc + 3) ls rest)) : W p l e R s m args below meth c H locs cells slots Qs (F0 m pc ls st) :=
  va_callv hr hw.2.2 (fun _ _ h => h) (fun _ h => h) (fun u t H1 locs1 ht _ hq hB _ _ hS => kk u.1 u.2 H1 locs1 hq ⟨by rw [← ht]; exact hB.1, hB.2.2.1, hS⟩)
end
/-! compares of longs, with the jump behind them -/
theorem lgc_gt {x y : Int64} : 0 < lg_cmp x y ↔ y < x := by
  unfold lg_cmp
  by_cases h1 : y < x
  · simp [h1]
  · by_cases h2 : x = y
    · subst h2; simp [Int64.lt_irrefl]
    · simp [h1, h2]
theorem lgc_eq {x y : Int64} : lg_cmp x y = 0 ↔ x = y := by
  unfold lg_cmp
  by_cases h1 : y < x
  · have h3 : x ≠ y := fun h => by subst h; exact absurd h1 (Int64.lt_irrefl)
    simp [h1, h3]
  · by_cases h2 : x = y
    · subst h2; simp [Int64.lt_irrefl]
    · simp [h1, h2]
theorem lgc_lt {x y : Int64} : lg_cmp x y < 0 ↔ x < y := by
  unfold lg_cmp
  by_cases h1 : y < x
  · have h3 : ¬ x < y := by rw [Int64.lt_iff_toInt_lt] at h1 ⊢; omega
    simp [h1, h3]
  · by_cases h2 : x = y
    · subst h2; simp [Int64.lt_irrefl]
    · have h3 : x < y := by
        rw [Int64.lt_iff_toInt_lt] at h1 ⊢
        have h4 : x.toInt ≠ y.toInt := fun h => h2 (Int64.toInt_inj.mp h)
        omega
      simp [h1, h2, h3]
theorem lgc_ge {x y : Int64} : 0 ≤ lg_cmp x y ↔ y ≤ x := by
  have h := @lgc_lt x y
  rw [← Int32.not_lt, h, Int64.not_lt]
theorem lgc_le {x y : Int64} : lg_cmp x y ≤ 0 ↔ x ≤ y := by
  have h := @lgc_gt x y
  rw [← Int32.not_lt, h, Int64.not_lt]
section
variable {p : Program} {l : Launch} {e : Env} {R : Room} {s : State} {m : MethodId} {args : Array Value} {below : List Frame} {meth : Method} {c : Code} {H : Heap} {locs : List Loc} {cells slots : Nat} {Qs : State → Prop} {cc : ByteArray} {pc : Nat} {ls : Array Slot} {rest : List Value}
theorem g_lcmp_ge {x y : Int64} {off : Int} {tgt : Nat} (hx : p.tables.exec = Jvm.exec) (hb : c.code = cc) (hd : decode cc pc = .ok (.lcmp, 1)) (hd2 : decode cc (pc + 1) = .ok (.ifCond .ge off, 3)) (ht : ((pc + 1 : Nat) : Int) + off = (tgt : Int))
    (kt : y ≤ x → W p l e R s m args below meth c H locs cells slots Qs (F0 m tgt ls rest)) (kf : ¬ y ≤ x → W p l e R s m args below meth c H locs cells slots Qs (F0 m (pc + 4) ls rest)) : W p l e R s m args below meth c H locs cells slots Qs (F0 m pc ls (.long y :: .long x :: rest)) :=
  W.lcmp hx hb hd (lv_if_ge hx hb hd2 ht (fun h => kt (lgc_ge.mp h)) (fun h => kf (fun h2 => h (lgc_ge.mpr h2))))
theorem g_lcmp_lt {x y : Int64} {off : Int} {tgt : Nat} (hx : p.tables.exec = Jvm.exec) (hb : c.code = cc) (hd : decode cc pc = .ok (.lcmp, 1)) (hd2 : decode cc (pc + 1) = .ok (.ifCond .lt off, 3)) (ht : ((pc + 1 : Nat) : Int) + off = (tgt : Int))
    (kt : x < y → W p l e R s m args below meth c H locs cells slots Qs (F0 m tgt ls rest)) (kf : ¬ x < y → W p l e R s m args below meth c H locs cells slots Qs (F0 m (pc + 4) ls rest)) : W p l e R s m args below meth c H locs cells slots Qs (F0 m pc ls (.long y :: .long x :: rest)) :=
  W.lcmp hx hb hd (lv_if_lt hx hb hd2 ht (fun h => kt (lgc_lt.mp h)) (fun h => kf (fun h2 => h (lgc_lt.mpr h2))))
theorem g_lcmp_eq {x y : Int64} {off : Int} {tgt : Nat} (hx : p.tables.exec = Jvm.exec) (hb : c.code = cc) (hd : decode cc pc = .ok (.lcmp, 1)) (hd2 : decode cc (pc + 1) = .ok (.ifCond .eq off, 3)) (ht : ((pc + 1 : Nat) : Int) + off = (tgt : Int))
    (kt : x = y → W p l e R s m args below meth c H locs cells slots Qs (F0 m tgt ls rest)) (kf : ¬ x = y → W p l e R s m args below meth c H locs cells slots Qs (F0 m (pc + 4) ls rest)) : W p l e R s m args below meth c H locs cells slots Qs (F0 m pc ls (.long y :: .long x :: rest)) :=
  W.lcmp hx hb hd (lv_if_eq hx hb hd2 ht (fun h => kt (lgc_eq.mp h)) (fun h => kf (fun h2 => h (lgc_eq.mpr h2))))
theorem g_lcmp_ne {x y : Int64} {off : Int} {tgt : Nat} (hx : p.tables.exec = Jvm.exec) (hb : c.code = cc) (hd : decode cc pc = .ok (.lcmp, 1)) (hd2 : decode cc (pc + 1) = .ok (.ifCond .ne off, 3)) (ht : ((pc + 1 : Nat) : Int) + off = (tgt : Int))
    (kt : ¬ x = y → W p l e R s m args below meth c H locs cells slots Qs (F0 m tgt ls rest)) (kf : x = y → W p l e R s m args below meth c H locs cells slots Qs (F0 m (pc + 4) ls rest)) : W p l e R s m args below meth c H locs cells slots Qs (F0 m pc ls (.long y :: .long x :: rest)) :=
  W.lcmp hx hb hd (lv_if_ne hx hb hd2 ht (fun h => kt (fun h2 => h (lgc_eq.mpr h2))) (fun h => kf (lgc_eq.mp h)))
theorem g_lcmp_gt {x y : Int64} {off : Int} {tgt : Nat} (hx : p.tables.exec = Jvm.exec) (hb : c.code = cc) (hd : decode cc pc = .ok (.lcmp, 1)) (hd2 : decode cc (pc + 1) = .ok (.ifCond .gt off, 3)) (ht : ((pc + 1 : Nat) : Int) + off = (tgt : Int))
    (kt : y < x → W p l e R s m args below meth c H locs cells slots Qs (F0 m tgt ls rest)) (kf : ¬ y < x → W p l e R s m args below meth c H locs cells slots Qs (F0 m (pc + 4) ls rest)) : W p l e R s m args below meth c H locs cells slots Qs (F0 m pc ls (.long y :: .long x :: rest)) :=
  W.lcmp hx hb hd (lv_if_gt hx hb hd2 ht (fun h => kt (lgc_gt.mp h)) (fun h => kf (fun h2 => h (lgc_gt.mpr h2))))
theorem g_lcmp_le {x y : Int64} {off : Int} {tgt : Nat} (hx : p.tables.exec = Jvm.exec) (hb : c.code = cc) (hd : decode cc pc = .ok (.lcmp, 1)) (hd2 : decode cc (pc + 1) = .ok (.ifCond .le off, 3)) (ht : ((pc + 1 : Nat) : Int) + off = (tgt : Int))
    (kt : x ≤ y → W p l e R s m args below meth c H locs cells slots Qs (F0 m tgt ls rest)) (kf : ¬ x ≤ y → W p l e R s m args below meth c H locs cells slots Qs (F0 m (pc + 4) ls rest)) : W p l e R s m args below meth c H locs cells slots Qs (F0 m pc ls (.long y :: .long x :: rest)) :=
  W.lcmp hx hb hd (lv_if_le hx hb hd2 ht (fun h => kt (lgc_le.mp h)) (fun h => kf (fun h2 => h (lgc_le.mpr h2))))
end
section
variable {p : Program} {l : Launch} {e : Env} {R : Room} {s : State} {m : MethodId} {args : Array Value} {below : List Frame} {meth : Method} {c : Code} {H : Heap} {locs : List Loc} {cells slots : Nat} {Qs : State → Prop}
variable {own : String} {cc : ByteArray} {nL : Nat} {rt : Option FieldType} {S : gS} {n : Nat} {ad : Nat → Nat} {cy : Nat → ClassId} {D : va_G} {E : State → Prop} {I : MI} {J : MJ}
variable {pc : Nat} {ls : Array Slot} {rest : List Value} {k : Nat}
theorem g_copyi {k0 len0 len1 index : Nat} {sp dp nn : Int32} (C : gC own cc nL rt n ad cy D E p s m args meth c) (hw : gH S n ad D s I J H locs) (hz : ls.size = nL) (hl : Cond.methodLink own index arraycopyName ∈ lw_g) (hnat : Cond.native arraycopyName ∈ lw_g) (hstat : Cond.static arraycopyName ∈ lw_g) (hini : Cond.initialized "java/lang/System" ∈ lw_g)
    (hk0 : k0 < n) (hs0 : ∀ i q, S k0 i q = .inl (cy 0, len0, .inl i)) (hk : k < n) (hs : ∀ i q, S k i q = .inl (cy 0, len1, .inl i)) (h1 : ¬ sp < 0) (h2 : ¬ dp < 0) (h3 : ¬ nn < 0) (h4 : sp.toNatClampNeg + nn.toNatClampNeg ≤ len0) (h5 : dp.toNatClampNeg + nn.toNatClampNeg ≤ len1)
    (hfr : 1 ≤ R.frames) (hlo : (rest.map fun v => v.category).sum + (nativeFrameWords "java/lang/System" "arraycopy" 5 + 11) ≤ R.locals) (hd : decode cc pc = .ok (.invokestatic index, 3))
    (kk : ∀ (H : Heap) (locs : List Loc), gH S n ad D s (wI I k (va_cpy (I k0) (I k) sp.toNatClampNeg dp.toNatClampNeg nn.toNatClampNeg)) J H locs → W p l e R s m args below meth c H locs cells slots Qs (F0 m (pc + 3) ls rest)) : W p l e R s m args below meth c H locs cells slots Qs (F0 m pc ls (.int nn :: .int dp :: .ref (ad k) :: .int sp :: .ref (ad k0) :: rest)) := by
  have hts := C.2.2.2.2.2.1
  refine va_copyi (ty := .int) C.1 C.2.1 (C.2.2.2.1.trans hz.symm) C.2.2.2.2.1 (hts _ hl) (hts _ hnat) (hts _ hstat) (hts _ hini) C.2.2.2.2.2.2.2.1 hw.1 hw.2.1 hw.2.2 k0 k 0 0 (by rw [gW_get hk0, hs0]) (by rw [gW_get hk, hs]) rfl rfl rfl h1 h2 h3 h4 h5 (fun _ _ => rfl) hfr hlo hd (fun H1 locs1 hP hD hS => ?_)
  rw [gW_setI (f := va_cpy (I k0) (I k) sp.toNatClampNeg dp.toNatClampNeg nn.toNatClampNeg) (by rw [hs])] at hP hD
  exact kk H1 locs1 ⟨hP, hD, hS⟩
theorem g_copyl {k0 len0 len1 index : Nat} {sp dp nn : Int32} (C : gC own cc nL rt n ad cy D E p s m args meth c) (hw : gH S n ad D s I J H locs) (hz : ls.size = nL) (hl : Cond.methodLink own index arraycopyName ∈ lw_g) (hnat : Cond.native arraycopyName ∈ lw_g) (hstat : Cond.static arraycopyName ∈ lw_g) (hini : Cond.initialized "java/lang/System" ∈ lw_g)
    (hk0 : k0 < n) (hs0 : ∀ i q, S k0 i q = .inl (cy 1, len0, .inr (.inl q))) (hk : k < n) (hs : ∀ i q, S k i q = .inl (cy 1, len1, .inr (.inl q))) (h1 : ¬ sp < 0) (h2 : ¬ dp < 0) (h3 : ¬ nn < 0) (h4 : sp.toNatClampNeg + nn.toNatClampNeg ≤ len0) (h5 : dp.toNatClampNeg + nn.toNatClampNeg ≤ len1)
    (hfr : 1 ≤ R.frames) (hlo : (rest.map fun v => v.category).sum + (nativeFrameWords "java/lang/System" "arraycopy" 5 + 11) ≤ R.locals) (hd : decode cc pc = .ok (.invokestatic index, 3))
    (kk : ∀ (H : Heap) (locs : List Loc), gH S n ad D s I (wJ J k (va_cpy (J k0) (J k) sp.toNatClampNeg dp.toNatClampNeg nn.toNatClampNeg)) H locs → W p l e R s m args below meth c H locs cells slots Qs (F0 m (pc + 3) ls rest)) : W p l e R s m args below meth c H locs cells slots Qs (F0 m pc ls (.int nn :: .int dp :: .ref (ad k) :: .int sp :: .ref (ad k0) :: rest)) := by
  have hts := C.2.2.2.2.2.1
  refine va_copyl (ty := .long) C.1 C.2.1 (C.2.2.2.1.trans hz.symm) C.2.2.2.2.1 (hts _ hl) (hts _ hnat) (hts _ hstat) (hts _ hini) C.2.2.2.2.2.2.2.1 hw.1 hw.2.1 hw.2.2 k0 k 1 1 (by rw [gW_get hk0, hs0]) (by rw [gW_get hk, hs]) rfl rfl rfl h1 h2 h3 h4 h5 (fun _ _ => rfl) hfr hlo hd (fun H1 locs1 hP hD hS => ?_)
  rw [gW_setJ (f := va_cpy (J k0) (J k) sp.toNatClampNeg dp.toNatClampNeg nn.toNatClampNeg) (by rw [hs])] at hP hD
  exact kk H1 locs1 ⟨hP, hD, hS⟩
end
