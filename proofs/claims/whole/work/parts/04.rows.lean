/-! the memory of a world: ints and longs by cell and place; booleans are ints -/
abbrev MI : Type := Nat → Nat → Int32
abbrev MJ : Type := Nat → Nat → Int64
def wI (I : MI) (c : Nat) (f : Nat → Int32) : MI := fun x => if x = c then f else I x
def wJ (J : MJ) (c : Nat) (f : Nat → Int64) : MJ := fun x => if x = c then f else J x
abbrev mI (I : MI) (c j : Nat) (v : Int32) : MI := wI I c (upd (I c) j v)
abbrev mJ (J : MJ) (c j : Nat) (v : Int64) : MJ := wJ J c (vp_updL (J c) j v)
theorem wI_s (I : MI) (c : Nat) (f : Nat → Int32) : wI I c f c = f := if_pos rfl
theorem wI_n (I : MI) {x c : Nat} (h : x ≠ c) (f : Nat → Int32) : wI I c f x = I x := if_neg h
theorem wJ_s (J : MJ) (c : Nat) (f : Nat → Int64) : wJ J c f c = f := if_pos rfl
theorem wJ_n (J : MJ) {x c : Nat} (h : x ≠ c) (f : Nat → Int64) : wJ J c f x = J x := if_neg h
/-- a loop: fuel, and its body with what comes behind a jump back -/
def loopP {α : Type} (body : (α → Prop) → α → Prop) : Nat → α → Prop
  | 0, _ => False
  | n + 1, a => body (loopP body n) a
def lpx {α : Type} (body : (α → Prop) → α → Prop) (a : α) : Prop := ∃ n, loopP body n a
/-! worlds: a row of cells, each of a shape -/
abbrev gS : Type := Nat → (Nat → Int32) → (Nat → Int64) → va_E
def gW (S : gS) (n : Nat) (ad : Nat → Nat) (I : MI) (J : MJ) : va_W := (List.range n).map (fun c => (ad c, S c (I c) (J c)))
theorem gW_get {S : gS} {n : Nat} {ad : Nat → Nat} {I : MI} {J : MJ} {c : Nat} (h : c < n) : (gW S n ad I J)[c]? = some (ad c, S c (I c) (J c)) := by
  simp [gW, h]
theorem gW_set {S : gS} {n : Nat} {ad : Nat → Nat} {I I' : MI} {J J' : MJ} {c : Nat} {e : va_E} (he : S c (I' c) (J' c) = e) (hI : ∀ x, x ≠ c → I' x = I x) (hJ : ∀ x, x ≠ c → J' x = J x) : (gW S n ad I J).set c (ad c, e) = gW S n ad I' J' := by
  apply List.ext_getElem?
  intro k
  rw [List.getElem?_set]
  by_cases hk : c = k
  · subst hk
    by_cases hn : c < n
    · simp [gW, hn, he]
    · simp [gW, hn]
  · rw [if_neg hk]
    by_cases hn : k < n
    · rw [gW_get hn, gW_get hn, hI k (fun h => hk h.symm), hJ k (fun h => hk h.symm)]
    · simp [gW, hn]
theorem gW_setI {S : gS} {n : Nat} {ad : Nat → Nat} {I : MI} {J : MJ} {c : Nat} {e : va_E} {f : Nat → Int32} (he : S c f (J c) = e) : (gW S n ad I J).set c (ad c, e) = gW S n ad (wI I c f) J :=
  gW_set (by rw [wI_s]; exact he) (fun _ h => wI_n I h f) (fun _ _ => rfl)
theorem gW_setJ {S : gS} {n : Nat} {ad : Nat → Nat} {I : MI} {J : MJ} {c : Nat} {e : va_E} {f : Nat → Int64} (he : S c (I c) f = e) : (gW S n ad I J).set c (ad c, e) = gW S n ad I (wJ J c f) :=
  gW_set (by rw [wJ_s]; exact he) (fun _ _ => rfl) (fun _ h => wJ_n J h f)
def gA (n : Nat) (ad : Nat → Nat) : Nat → Prop := fun q => ∃ c, c < n ∧ q = ad c
abbrev gT (cy : Nat → ClassId) : List (ClassId × FieldType) := [(cy 0, .int), (cy 1, .long), (cy 2, .boolean), (cy 3, .object "BagPhrases$Setting")]
/-- the world of a contract -/
def gB (S : gS) (n : Nat) (ad : Nat → Nat) (cy : Nat → ClassId) (D : va_G) (E : State → Prop) (I : MI) (J : MJ) (U : State) : Prop :=
  va_P D vwCl (gW S n ad I J) U.heap ∧ va_K D vwCl (gT cy) U ∧ va_D (gA n ad) (gW S n ad I J) ∧ E U
/-- what else holds of the start, and goes on to hold -/
def gEok (n : Nat) (ad : Nat → Nat) (E : State → Prop) : Prop := ∀ u U : State, u.vm.Alike U.vm → (∀ q : Nat, q < u.heap.size → ¬ gA n ad q → U.heap[q]? = u.heap[q]?) → E u → E U
/-- the world within a walk -/
def gH (S : gS) (n : Nat) (ad : Nat → Nat) (D : va_G) (s : State) (I : MI) (J : MJ) (H : Heap) (locs : List Loc) : Prop :=
  va_P D vwCl (gW S n ad I J) H ∧ va_D (gA n ad) (gW S n ad I J) ∧ va_S (gA n ad) s.heap H locs
def xws (y : MethodName) (cc : ByteArray) (nL : Nat) (rt : Option FieldType) : List Cond := Cond.code y cc nL rt :: lw_tbl
theorem lw_good : ∀ w ∈ lw_tbl, goodWord w = true := by
  have h : lw_tbl.all goodWord = true := by decide +kernel
  exact fun w hw => List.all_eq_true.mp h w hw
/-- what a walk knows of its method -/
def gC (own : String) (cc : ByteArray) (nL : Nat) (rt : Option FieldType) (n : Nat) (ad : Nat → Nat) (cy : Nat → ClassId) (D : va_G) (E : State → Prop) (p : Program) (s : State) (m : MethodId) (args : Array Value) (meth : Method) (c : Code) : Prop :=
  p.tables.exec = Jvm.exec ∧ c.code = cc ∧ meth.sig.returnType = rt ∧ c.maxLocals = nL ∧ s.vm.findClass own = some m.cls ∧ (∀ w ∈ lw_tbl, w.before args s = true) ∧ meth.locks = false ∧ va_K D vwCl (gT cy) s ∧ E s ∧ gEok n ad E
section
variable {p : Program} {l : Launch} {e : Env} {R : Room} {s : State} {m : MethodId} {args : Array Value} {below : List Frame} {meth : Method} {c : Code} {H : Heap} {locs : List Loc} {cells slots : Nat} {Qs : State → Prop}
variable {own : String} {cc : ByteArray} {nL : Nat} {rt : Option FieldType} {S : gS} {n : Nat} {ad : Nat → Nat} {cy : Nat → ClassId} {D : va_G} {E : State → Prop} {I : MI} {J : MJ}
variable {pc : Nat} {ls : Array Slot} {rest : List Value} {k : Nat}
theorem g_met {y : MethodName} {rm : Room} {av : List Value} {Qc : Array Value → State → Outcome → State → Prop} (hE : gEok n ad E) (hy : y.cls = own) (hpl : plainName y.cls = true) (hlen : (lg_sl av).length ≤ nL)
    (body : ∀ (p : Program) (e : Env) (s : State) (m : MethodId) (below : List Frame) (meth : Method) (c : Code) (ls : Array Slot), gC own cc nL rt n ad cy D E p s m av.toArray meth c → gH S n ad D s I J s.heap [] → lv_has ls nL (lv_args 0 av) →
      W p l e rm s m av.toArray below meth c s.heap [] 0 0 (MQ below Qc av.toArray s 0 0 (gA n ad)) (F0 m 0 ls [])) :
    Met l y (xws y cc nL rt) rm (va_Pc av (gB S n ad cy D E I J)) Qc 0 0 (gA n ad) := by
  refine Met.ofW (cc := cc) (maxL := nL) (ret := rt) hpl rfl ?_
  intro p e s m args below meth c s₁ B hml hv
  obtain ⟨rfl, hP, hK, hD, hEs⟩ := hv
  have hts := atoms_spec (ws := xws y cc nL rt) B.pre
  have hl := lv_entry av (n := nL) hlen
  rw [lg_entry_eq]
  exact body p e s m below meth c _ ⟨B.exec, B.bytes, B.returns, hml, by rw [← hy]; exact findClass_of_methodNamed B.named, fun w hw => hts w (List.mem_cons_of_mem _ hw), B.notSynchronized, hK, hEs, hE⟩ ⟨hP, hD, va_S.rf⟩ hl
/-- a field: its class's number, its place -/
def gFl (own : String) (index ci j : Nat) : Prop := ∃ (Cn : String) (T : u_T) (N : Nat), vwCl[ci]? = some (Cn, T, N) ∧ (∀ w ∈ u_ws Cn T N, w ∈ lw_tbl) ∧ j < N ∧ Cond.fieldLink own index (T j).1 (T j).2.1 (T j).2.2.1 ∈ lw_tbl
def gFp (own : String) (index ci j : Nat) (ty : FieldType) : Prop := ∃ (Cn : String) (T : u_T) (N : Nat) (ty0 : Nat → FieldType), vwCl[ci]? = some (Cn, T, N) ∧ (∀ w ∈ u_ws Cn T N, w ∈ lw_tbl) ∧ j < N ∧ Cond.fieldLink own index (T j).1 (T j).2.1 (T j).2.2.1 ∈ lw_tbl ∧
  (∀ k, k < N → parseFieldDescriptor (T k).2.2.1 = some (ty0 k)) ∧ (∀ a, a < N → ∀ b, b < N → a ≠ b → (T a).2.1 ≠ (T b).2.1) ∧ (T j).2.2.2 = false ∧ ty0 j = ty
theorem g_get {ci j index : Nat} {fs : List Value} {v : Value} (C : gC own cc nL rt n ad cy D E p s m args meth c) (hw : gH S n ad D s I J H locs) (fl : gFl own index ci j) (hk : k < n) (hs : S k (I k) (J k) = .inr (ci, fs)) (hv : fs[j]? = some v) (hd : decode cc pc = .ok (.getfield index, 3))
    (kk : W p l e R s m args below meth c H locs cells slots Qs (F0 m (pc + 3) ls (v :: rest))) : W p l e R s m args below meth c H locs cells slots Qs (F0 m pc ls (.ref (ad k) :: rest)) := by
  obtain ⟨hx, hb, -, -, hown, hts, -, hK, -⟩ := C
  obtain ⟨Cn, T, N, hc, hin, hj, hl⟩ := fl
  exact va_get hx hb hts hin hown hK hw.1 k (by rw [gW_get hk, hs]) hc j hj (hts _ hl) (fun _ h => h) hv hd kk
theorem g_put {ci j index : Nat} {ty : FieldType} {fs : List Value} {v : Value} {I' : MI} {J' : MJ} (C : gC own cc nL rt n ad cy D E p s m args meth c) (hw : gH S n ad D s I J H locs) (fl : gFp own index ci j ty) (hk : k < n) (hs : S k (I k) (J k) = .inr (ci, fs)) (hl : j < fs.length) (hn : narrow ty v = v) (hf : fits ty v = true)
    (hset : (gW S n ad I J).set k (ad k, .inr (ci, fs.set j v)) = gW S n ad I' J') (hd : decode cc pc = .ok (.putfield index, 3))
    (kk : ∀ (H : Heap) (locs : List Loc), gH S n ad D s I' J' H locs → W p l e R s m args below meth c H locs cells slots Qs (F0 m (pc + 3) ls rest)) : W p l e R s m args below meth c H locs cells slots Qs (F0 m pc ls (v :: .ref (ad k) :: rest)) := by
  obtain ⟨hx, hb, -, -, hown, hts, -, hK, -⟩ := C
  obtain ⟨Cn, T, N, ty0, hc, hin, hj, hlk, hty, hnm, hfin, hte⟩ := fl
  refine va_put hx hb hts hin ty0 hty hnm hown hK hw.1 hw.2.1 hw.2.2 k (by rw [gW_get hk, hs]) hc j hj (hts _ hlk) (fun _ h => h) hfin (by rw [hty j hj, hte]) hn hf hl hd (fun H1 locs1 hP hD hS => ?_)
  rw [hset] at hP hD
  exact kk H1 locs1 ⟨hP, hD, hS⟩
theorem g_putI {ci j index : Nat} {ty : FieldType} {fs : (Nat → Int32) → (Nat → Int64) → List Value} {x : Int32} (C : gC own cc nL rt n ad cy D E p s m args meth c) (hw : gH S n ad D s I J H locs) (fl : gFp own index ci j ty) (hk : k < n) (hs : ∀ i q, S k i q = .inr (ci, fs i q)) (hset : ∀ i q, (fs i q).set j (.int x) = fs (upd i j x) q) (hl : j < (fs (I k) (J k)).length) (hn : narrow ty (.int x) = .int x) (hf : fits ty (.int x) = true) (hd : decode cc pc = .ok (.putfield index, 3))
    (kk : ∀ (H : Heap) (locs : List Loc), gH S n ad D s (mI I k j x) J H locs → W p l e R s m args below meth c H locs cells slots Qs (F0 m (pc + 3) ls rest)) : W p l e R s m args below meth c H locs cells slots Qs (F0 m pc ls (.int x :: .ref (ad k) :: rest)) :=
  g_put C hw fl hk (hs _ _) hl hn hf (gW_setI (by rw [hs, hset])) hd kk
theorem g_putJ {ci j index : Nat} {fs : (Nat → Int32) → (Nat → Int64) → List Value} {x : Int64} (C : gC own cc nL rt n ad cy D E p s m args meth c) (hw : gH S n ad D s I J H locs) (fl : gFp own index ci j .long) (hk : k < n) (hs : ∀ i q, S k i q = .inr (ci, fs i q)) (hset : ∀ i q, (fs i q).set j (.long x) = fs i (vp_updL q j x)) (hl : j < (fs (I k) (J k)).length) (hd : decode cc pc = .ok (.putfield index, 3))
    (kk : ∀ (H : Heap) (locs : List Loc), gH S n ad D s I (mJ J k j x) H locs → W p l e R s m args below meth c H locs cells slots Qs (F0 m (pc + 3) ls rest)) : W p l e R s m args below meth c H locs cells slots Qs (F0 m pc ls (.long x :: .ref (ad k) :: rest)) :=
  g_put C hw fl hk (hs _ _) hl rfl rfl (gW_setJ (by rw [hs, hset])) hd kk
theorem g_iald {len : Nat} {x : Int32} (C : gC own cc nL rt n ad cy D E p s m args meth c) (hw : gH S n ad D s I J H locs) (hk : k < n) (hs : ∀ i q, S k i q = .inl (cy 0, len, .inl i)) (hin : vp_in x len) (hd : decode cc pc = .ok (.iaload, 1))
    (kk : W p l e R s m args below meth c H locs cells slots Qs (F0 m (pc + 1) ls (.int (I k x.toNatClampNeg) :: rest))) : W p l e R s m args below meth c H locs cells slots Qs (F0 m pc ls (.int x :: .ref (ad k) :: rest)) :=
  va_iald C.1 C.2.1 C.2.2.2.2.2.2.2.1 hw.1 k 0 (by rw [gW_get hk, hs]) rfl hin hd kk
theorem g_zald {len : Nat} {x : Int32} (C : gC own cc nL rt n ad cy D E p s m args meth c) (hw : gH S n ad D s I J H locs) (hk : k < n) (hs : ∀ i q, S k i q = .inl (cy 2, len, .inl i)) (hin : vp_in x len) (hd : decode cc pc = .ok (.baload, 1))
    (kk : W p l e R s m args below meth c H locs cells slots Qs (F0 m (pc + 1) ls (.int (I k x.toNatClampNeg) :: rest))) : W p l e R s m args below meth c H locs cells slots Qs (F0 m pc ls (.int x :: .ref (ad k) :: rest)) :=
  va_zald C.1 C.2.1 C.2.2.2.2.2.2.2.1 hw.1 k 2 (by rw [gW_get hk, hs]) rfl hin hd kk
theorem g_lald {len : Nat} {x : Int32} (C : gC own cc nL rt n ad cy D E p s m args meth c) (hw : gH S n ad D s I J H locs) (hk : k < n) (hs : ∀ i q, S k i q = .inl (cy 1, len, .inr (.inl q))) (hin : vp_in x len) (hd : decode cc pc = .ok (.laload, 1))
    (kk : W p l e R s m args below meth c H locs cells slots Qs (F0 m (pc + 1) ls (.long (J k x.toNatClampNeg) :: rest))) : W p l e R s m args below meth c H locs cells slots Qs (F0 m pc ls (.int x :: .ref (ad k) :: rest)) :=
  va_lald C.1 C.2.1 C.2.2.2.2.2.2.2.1 hw.1 k 1 (by rw [gW_get hk, hs]) rfl hin hd kk
theorem g_aald {len : Nat} {x : Int32} {f : Nat → Option Nat} (C : gC own cc nL rt n ad cy D E p s m args meth c) (hw : gH S n ad D s I J H locs) (hk : k < n) (hs : ∀ i q, S k i q = .inl (cy 3, len, .inr (.inr (.inr (.inr f))))) (hin : vp_in x len) (hd : decode cc pc = .ok (.aaload, 1))
    (kk : W p l e R s m args below meth c H locs cells slots Qs (F0 m (pc + 1) ls (va_rf (f x.toNatClampNeg) :: rest))) : W p l e R s m args below meth c H locs cells slots Qs (F0 m pc ls (.int x :: .ref (ad k) :: rest)) :=
  va_aldq C.1 C.2.1 C.2.2.2.2.2.2.2.1 hw.1 k 3 (by rw [gW_get hk, hs]) rfl hin hd kk
theorem g_iast {len : Nat} {x v : Int32} (C : gC own cc nL rt n ad cy D E p s m args meth c) (hw : gH S n ad D s I J H locs) (hk : k < n) (hs : ∀ i q, S k i q = .inl (cy 0, len, .inl i)) (hin : vp_in x len) (hd : decode cc pc = .ok (.iastore, 1))
    (kk : ∀ (H : Heap) (locs : List Loc), gH S n ad D s (mI I k x.toNatClampNeg v) J H locs → W p l e R s m args below meth c H locs cells slots Qs (F0 m (pc + 1) ls rest)) : W p l e R s m args below meth c H locs cells slots Qs (F0 m pc ls (.int v :: .int x :: .ref (ad k) :: rest)) := by
  refine va_iast C.1 C.2.1 C.2.2.2.2.2.2.2.1 hw.1 hw.2.1 hw.2.2 k 0 (by rw [gW_get hk, hs]) rfl hin hd (fun H1 locs1 hP hD hS => ?_)
  rw [gW_setI (f := upd (I k) x.toNatClampNeg v) (by rw [hs])] at hP hD
  exact kk H1 locs1 ⟨hP, hD, hS⟩
theorem g_zast {len : Nat} {x v : Int32} (C : gC own cc nL rt n ad cy D E p s m args meth c) (hw : gH S n ad D s I J H locs) (hk : k < n) (hs : ∀ i q, S k i q = .inl (cy 2, len, .inl i)) (hin : vp_in x len) (hd : decode cc pc = .ok (.bastore, 1))
    (kk : ∀ (H : Heap) (locs : List Loc), gH S n ad D s (mI I k x.toNatClampNeg (vp_nar .boolean v)) J H locs → W p l e R s m args below meth c H locs cells slots Qs (F0 m (pc + 1) ls rest)) : W p l e R s m args below meth c H locs cells slots Qs (F0 m pc ls (.int v :: .int x :: .ref (ad k) :: rest)) := by
  refine va_zast C.1 C.2.1 C.2.2.2.2.2.2.2.1 hw.1 hw.2.1 hw.2.2 k 2 (by rw [gW_get hk, hs]) rfl hin hd (fun H1 locs1 hP hD hS => ?_)
  rw [gW_setI (f := upd (I k) x.toNatClampNeg (vp_nar .boolean v)) (by rw [hs])] at hP hD
  exact kk H1 locs1 ⟨hP, hD, hS⟩
theorem g_last {len : Nat} {x : Int32} {v : Int64} (C : gC own cc nL rt n ad cy D E p s m args meth c) (hw : gH S n ad D s I J H locs) (hk : k < n) (hs : ∀ i q, S k i q = .inl (cy 1, len, .inr (.inl q))) (hin : vp_in x len) (hd : decode cc pc = .ok (.lastore, 1))
    (kk : ∀ (H : Heap) (locs : List Loc), gH S n ad D s I (mJ J k x.toNatClampNeg v) H locs → W p l e R s m args below meth c H locs cells slots Qs (F0 m (pc + 1) ls rest)) : W p l e R s m args below meth c H locs cells slots Qs (F0 m pc ls (.long v :: .int x :: .ref (ad k) :: rest)) := by
  refine va_last C.1 C.2.1 C.2.2.2.2.2.2.2.1 hw.1 hw.2.1 hw.2.2 k 1 (by rw [gW_get hk, hs]) rfl hin hd (fun H1 locs1 hP hD hS => ?_)
  rw [gW_setJ (f := vp_updL (J k) x.toNatClampNeg v) (by rw [hs])] at hP hD
  exact kk H1 locs1 ⟨hP, hD, hS⟩
theorem g_alen {len : Nat} {v : Int32} (C : gC own cc nL rt n ad cy D E p s m args meth c) (hw : gH S n ad D s I J H locs) (hk : k < n) (hs : ∀ i q, S k i q = .inl (cy 1, len, .inr (.inl q))) (hv : Int32.ofNat len = v) (hd : decode cc pc = .ok (.arraylength, 1))
    (kk : W p l e R s m args below meth c H locs cells slots Qs (F0 m (pc + 1) ls (.int v :: rest))) : W p l e R s m args below meth c H locs cells slots Qs (F0 m pc ls (.ref (ad k) :: rest)) :=
  va_alen C.1 C.2.1 C.2.2.2.2.2.2.2.1 hw.1 k 1 (by rw [gW_get hk, hs]) rfl hv hd kk
theorem g_alenI {len : Nat} {v : Int32} (C : gC own cc nL rt n ad cy D E p s m args meth c) (hw : gH S n ad D s I J H locs) (hk : k < n) (hs : ∀ i q, S k i q = .inl (cy 0, len, .inl i)) (hv : Int32.ofNat len = v) (hd : decode cc pc = .ok (.arraylength, 1))
    (kk : W p l e R s m args below meth c H locs cells slots Qs (F0 m (pc + 1) ls (.int v :: rest))) : W p l e R s m args below meth c H locs cells slots Qs (F0 m pc ls (.ref (ad k) :: rest)) :=
  va_alen C.1 C.2.1 C.2.2.2.2.2.2.2.1 hw.1 k 0 (by rw [gW_get hk, hs]) rfl hv hd kk
end
