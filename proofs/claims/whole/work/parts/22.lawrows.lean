theorem gW_of {S : gS} {n : Nat} {ad : Nat → Nat} {I : MI} {J : MJ} {k : Nat} {q : Nat × va_E} (h : (gW S n ad I J)[k]? = some q) : k < n ∧ q.1 = ad k := by
  by_cases hk : k < n
  · rw [gW_get hk] at h
    exact ⟨hk, by rw [← Option.some.inj h]⟩
  · simp [gW, hk] at h
/-- both worlds, in the law -/
def lH (ad am : Nat → Nat) (cy : Nat → ClassId) (D : va_G) (s : State) (I : MI) (J : MJ) (I2 : MI) (J2 : MJ) (H : Heap) (locs : List Loc) : Prop :=
  va_P D vwCl (gW (xS ad cy) 66 ad I J) H ∧ va_D (gA 66 ad) (gW (xS ad cy) 66 ad I J) ∧ va_P D vwCl (gW (mS am cy) 30 am I2 J2) H ∧ va_D (gA 30 am) (gW (mS am cy) 30 am I2 J2) ∧ va_S (fun q : Nat => s.heap.size ≤ q) s.heap H locs
def lA (ad am : Nat → Nat) (s : State) : Prop := (∀ i, i < 66 → ∀ j, j < 30 → ad i ≠ am j) ∧ (∀ i, i < 66 → s.heap.size ≤ ad i) ∧ ∀ j, j < 30 → s.heap.size ≤ am j
def lC (p : Program) (s : State) (m : MethodId) (meth : Method) (c : Code) (b L : Nat) (xs : Nat → Int32) (ad am ts : Nat → Nat) (cy : Nat → ClassId) (D : va_G) : Prop :=
  p.tables.exec = Jvm.exec ∧ c.code = code ∧ meth.sig.returnType = ret ∧ c.maxLocals = 4 ∧ s.vm.findClass RL = some m.cls ∧ (∀ w ∈ lw_g, w.before #[Value.ref b] s = true) ∧ meth.locks = false ∧ va_K D vwCl (gT cy) s ∧ xF ad ts s ∧ va_X b L xs s s.heap ∧ b < s.heap.size ∧ lA ad am s
section
variable {p : Program} {l : Launch} {e : Env} {s : State} {m : MethodId} {below : List Frame} {meth : Method} {c : Code} {H : Heap} {locs : List Loc} {Qs : State → Prop} {b L : Nat} {xs : Nat → Int32} {ad am ts : Nat → Nat} {cy : Nat → ClassId} {D : va_G} {I I2 : MI} {J J2 : MJ} {pc : Nat} {ls : Array Slot} {st : List Value}
theorem l_preX (C : lC p s m meth c b L xs ad am ts cy D) (hw : lH ad am cy D s I J I2 J2 H locs) (As : List Value) : PreS s H (va_Pc As (gB (xS ad cy) 66 ad cy D (xF ad ts) I J)) As := by
  obtain ⟨-, -, -, -, -, -, -, hK, hE, -⟩ := C
  refine ⟨fun a U g mk q => ?_, fun U hU hW => ⟨rfl, by rw [hU]; exact hw.1, va_K.moved hW.alike hK, hw.2.1, (xF_ok ad ts).1 s U hW (fun q hq _ => by rw [hU]; exact hw.2.2.2.2.2.1 q hq (Nat.not_le.mpr hq)) hE⟩⟩
  obtain ⟨q0, qP, qK, qD, qE⟩ := q
  exact ⟨q0, qP, va_K.moved (u := U) (U := U.calling g mk a) (Vm.Alike.refl U.vm) qK, qD, (xF_ok ad ts).2 U _ rfl rfl qE⟩
theorem l_preM (C : lC p s m meth c b L xs ad am ts cy D) (hw : lH ad am cy D s I J I2 J2 H locs) (As : List Value) : PreS s H (va_Pc As (gB (mS am cy) 30 am cy D mE I2 J2)) As := by
  obtain ⟨-, -, -, -, -, -, -, hK, -⟩ := C
  refine ⟨fun a U g mk q => ?_, fun U hU hW => ⟨rfl, by rw [hU]; exact hw.2.2.1, va_K.moved hW.alike hK, hw.2.2.2.1, rfl⟩⟩
  obtain ⟨q0, qP, qK, qD, qE⟩ := q
  exact ⟨q0, qP, va_K.moved (u := U) (U := U.calling g mk a) (Vm.Alike.refl U.vm) qK, qD, rfl⟩
theorem l_rX {y : MethodName} {cN : ByteArray} {nN nA index : Nat} {rN : Option FieldType} {rm : Room} {Qc : Array Value → State → Outcome → State → Prop} (As rest : List Value) (C : lC p s m meth c b L xs ad am ts cy D) (hw : lH ad am cy D s I J I2 J2 H locs)
    (hM : Met l y (xws y cN nN rN) rm (va_Pc (.ref (ad 0) :: As) (gB (xS ad cy) 66 ad cy D (xF ad ts) I J)) Qc 0 0 (gA 66 ad)) (kf : gKv y cN nN rN nA) (hl : Cond.methodLink RL index y ∈ lw_g) (hc : y.cls = RX11)
    (hn : As.length = nA) (hz : ls.size = 4) (hst : st = As.reverse ++ .ref (ad 0) :: rest) (hsum : (rest.map fun v => v.category).sum ≤ 8) (hR : (rm.cells = 0 ∧ rm.slots = 0) ∧ rm.frames + 1 ≤ room_1.frames ∧ 8 + (nN + 11) + rm.locals ≤ room_1.locals) (hd : decode code pc = .ok (.invokevirtual index, 3)) :
    va_Run p l e room_1 s m #[Value.ref b] below meth c H locs 96 83932 0 0 (F0 m pc ls st) rest (Qc (Value.ref (ad 0) :: As).toArray) (gA 66 ad) := by
  have hp := l_preX C hw (.ref (ad 0) :: As)
  obtain ⟨hx, hb, -, hml, hown, hts, -, hK, -⟩ := C
  have hr := va_recv hK hw.1 (ci := 10) (q := (y.cls, TX11, 17)) (q0 := 0) (by rw [hc]; rfl) (by rw [gW_get xl_0, xs_0])
  exact va_runV (Ts := lw_g) ⟨hx, hb, hml, hown, hts⟩ hM (cwV nA hts (g_goodv kf hl) rfl hR.1.1 hR.1.2 ⟨rfl, kf.2.2.2.2⟩ hR.2) ⟨hp.1, hr, hp.2⟩ rfl hn hz hst (lv_room hsum) hd ⟨Nat.le_refl 96, Nat.le_refl 83932⟩
theorem l_rM {y : MethodName} {cN : ByteArray} {nN nA index : Nat} {rN : Option FieldType} {rm : Room} {Qc : Array Value → State → Outcome → State → Prop} (As rest : List Value) (C : lC p s m meth c b L xs ad am ts cy D) (hw : lH ad am cy D s I J I2 J2 H locs)
    (hM : Met l y (xws y cN nN rN) rm (va_Pc (.ref (am 0) :: As) (gB (mS am cy) 30 am cy D mE I2 J2)) Qc 0 0 (gA 30 am)) (kf : gKv y cN nN rN nA) (hl : Cond.methodLink RL index y ∈ lw_g) (hc : y.cls = RX12)
    (hn : As.length = nA) (hz : ls.size = 4) (hst : st = As.reverse ++ .ref (am 0) :: rest) (hsum : (rest.map fun v => v.category).sum ≤ 8) (hR : (rm.cells = 0 ∧ rm.slots = 0) ∧ rm.frames + 1 ≤ room_1.frames ∧ 8 + (nN + 11) + rm.locals ≤ room_1.locals) (hd : decode code pc = .ok (.invokevirtual index, 3)) :
    va_Run p l e room_1 s m #[Value.ref b] below meth c H locs 96 83932 0 0 (F0 m pc ls st) rest (Qc (Value.ref (am 0) :: As).toArray) (gA 30 am) := by
  have hp := l_preM C hw (.ref (am 0) :: As)
  obtain ⟨hx, hb, -, hml, hown, hts, -, hK, -⟩ := C
  have hr := va_recv hK hw.2.2.1 (ci := 11) (q := (y.cls, TX12, 45)) (q0 := 0) (by rw [hc]; rfl) (by rw [gW_get ml_0, ms_0])
  exact va_runV (Ts := lw_g) ⟨hx, hb, hml, hown, hts⟩ hM (cwV nA hts (g_goodv kf hl) rfl hR.1.1 hR.1.2 ⟨rfl, kf.2.2.2.2⟩ hR.2) ⟨hp.1, hr, hp.2⟩ rfl hn hz hst (lv_room hsum) hd ⟨Nat.le_refl 96, Nat.le_refl 83932⟩
theorem l_keepM (C : lC p s m meth c b L xs ad am ts cy D) (hw : lH ad am cy D s I J I2 J2 H locs) {H1 : Heap} (hk : ∀ q : Nat, q < H.size → ¬ gA 66 ad q → H1[q]? = H[q]?) : va_P D vwCl (gW (mS am cy) 30 am I2 J2) H1 := fun k q h => by
  obtain ⟨h1, h2⟩ := gW_of h
  have h3 := hw.2.2.1 k q h
  exact h3.kept (hk q.1 h3.lt (fun ⟨i, hi, he⟩ => C.2.2.2.2.2.2.2.2.2.2.2.1 i hi k h1 (he.symm.trans h2)))
theorem l_keepX (C : lC p s m meth c b L xs ad am ts cy D) (hw : lH ad am cy D s I J I2 J2 H locs) {H1 : Heap} (hk : ∀ q : Nat, q < H.size → ¬ gA 30 am q → H1[q]? = H[q]?) : va_P D vwCl (gW (xS ad cy) 66 ad I J) H1 := fun k q h => by
  obtain ⟨h1, h2⟩ := gW_of h
  have h3 := hw.1 k q h
  exact h3.kept (hk q.1 h3.lt (fun ⟨i, hi, he⟩ => C.2.2.2.2.2.2.2.2.2.2.2.1 k h1 i hi (h2.symm.trans he)))
theorem l_sX (C : lC p s m meth c b L xs ad am ts cy D) : ∀ q, gA 66 ad q → s.heap.size ≤ q := fun _ ⟨i, hi, he⟩ => by rw [he]; exact C.2.2.2.2.2.2.2.2.2.2.2.2.1 i hi
theorem l_sM (C : lC p s m meth c b L xs ad am ts cy D) : ∀ q, gA 30 am q → s.heap.size ≤ q := fun _ ⟨i, hi, he⟩ => by rw [he]; exact C.2.2.2.2.2.2.2.2.2.2.2.2.2 i hi
theorem l_ciX {rest : List Value} {Q : Int32 → MI → MJ → Prop} {a : Array Value} (C : lC p s m meth c b L xs ad am ts cy D) (hw : lH ad am cy D s I J I2 J2 H locs) (hr : va_Run p l e room_1 s m #[Value.ref b] below meth c H locs 96 83932 0 0 (F0 m pc ls st) rest (gQi (xS ad cy) 66 ad cy D (xF ad ts) Q a) (gA 66 ad))
    (kk : ∀ (r : Int32) (I : MI) (J : MJ) (H : Heap) (locs : List Loc), Q r I J → lH ad am cy D s I J I2 J2 H locs → W p l e room_1 s m #[Value.ref b] below meth c H locs 96 83932 Qs (F0 m (pc + 3) ls (.int r :: rest))) : W p l e room_1 s m #[Value.ref b] below meth c H locs 96 83932 Qs (F0 m pc ls st) :=
  va_calli hr hw.2.2.2.2 (fun q _ h => l_sX C q h) (fun q h => l_sX C q h) (fun r u t H1 locs1 ht _ hq hB _ hk hS => kk r u.1 u.2 H1 locs1 hq ⟨by rw [← ht]; exact hB.1, hB.2.2.1, l_keepM C hw hk, hw.2.2.2.1, hS⟩)
theorem l_clX {rest : List Value} {Q : Int64 → MI → MJ → Prop} {a : Array Value} (C : lC p s m meth c b L xs ad am ts cy D) (hw : lH ad am cy D s I J I2 J2 H locs) (hr : va_Run p l e room_1 s m #[Value.ref b] below meth c H locs 96 83932 0 0 (F0 m pc ls st) rest (gQl (xS ad cy) 66 ad cy D (xF ad ts) Q a) (gA 66 ad))
    (kk : ∀ (r : Int64) (I : MI) (J : MJ) (H : Heap) (locs : List Loc), Q r I J → lH ad am cy D s I J I2 J2 H locs → W p l e room_1 s m #[Value.ref b] below meth c H locs 96 83932 Qs (F0 m (pc + 3) ls (.long r :: rest))) : W p l e room_1 s m #[Value.ref b] below meth c H locs 96 83932 Qs (F0 m pc ls st) :=
  va_calll hr hw.2.2.2.2 (fun q _ h => l_sX C q h) (fun q h => l_sX C q h) (fun r u t H1 locs1 ht _ hq hB _ hk hS => kk r u.1 u.2 H1 locs1 hq ⟨by rw [← ht]; exact hB.1, hB.2.2.1, l_keepM C hw hk, hw.2.2.2.1, hS⟩)
theorem l_ciM {rest : List Value} {Q : Int32 → MI → MJ → Prop} {a : Array Value} (C : lC p s m meth c b L xs ad am ts cy D) (hw : lH ad am cy D s I J I2 J2 H locs) (hr : va_Run p l e room_1 s m #[Value.ref b] below meth c H locs 96 83932 0 0 (F0 m pc ls st) rest (gQi (mS am cy) 30 am cy D mE Q a) (gA 30 am))
    (kk : ∀ (r : Int32) (I2 : MI) (J2 : MJ) (H : Heap) (locs : List Loc), Q r I2 J2 → lH ad am cy D s I J I2 J2 H locs → W p l e room_1 s m #[Value.ref b] below meth c H locs 96 83932 Qs (F0 m (pc + 3) ls (.int r :: rest))) : W p l e room_1 s m #[Value.ref b] below meth c H locs 96 83932 Qs (F0 m pc ls st) :=
  va_calli hr hw.2.2.2.2 (fun q _ h => l_sM C q h) (fun q h => l_sM C q h) (fun r u t H1 locs1 ht _ hq hB _ hk hS => kk r u.1 u.2 H1 locs1 hq ⟨l_keepX C hw hk, hw.2.1, by rw [← ht]; exact hB.1, hB.2.2.1, hS⟩)
theorem l_clM {rest : List Value} {Q : Int64 → MI → MJ → Prop} {a : Array Value} (C : lC p s m meth c b L xs ad am ts cy D) (hw : lH ad am cy D s I J I2 J2 H locs) (hr : va_Run p l e room_1 s m #[Value.ref b] below meth c H locs 96 83932 0 0 (F0 m pc ls st) rest (gQl (mS am cy) 30 am cy D mE Q a) (gA 30 am))
    (kk : ∀ (r : Int64) (I2 : MI) (J2 : MJ) (H : Heap) (locs : List Loc), Q r I2 J2 → lH ad am cy D s I J I2 J2 H locs → W p l e room_1 s m #[Value.ref b] below meth c H locs 96 83932 Qs (F0 m (pc + 3) ls (.long r :: rest))) : W p l e room_1 s m #[Value.ref b] below meth c H locs 96 83932 Qs (F0 m pc ls st) :=
  va_calll hr hw.2.2.2.2 (fun q _ h => l_sM C q h) (fun q h => l_sM C q h) (fun r u t H1 locs1 ht _ hq hB _ hk hS => kk r u.1 u.2 H1 locs1 hq ⟨l_keepX C hw hk, hw.2.1, by rw [← ht]; exact hB.1, hB.2.2.1, hS⟩)
end
/-! what is asked of a relation of the two memories, call by call -/
abbrev SimT : Type := MI → MJ → MI → MJ → Prop
def st_write (Sim : SimT) : Prop := ∀ (a0 : Int32) (I : MI) (J : MJ) (I2 : MI) (J2 : MJ), Sim I J I2 J2 → P_X11_write a0 I J (fun r I J => P_X12_write a0 I2 J2 (fun r2 I2 J2 => r = r2 ∧ Sim I J I2 J2))
def st_wipe (Sim : SimT) : Prop := ∀ (I : MI) (J : MJ) (I2 : MI) (J2 : MJ), Sim I J I2 J2 → P_X11_wipe I J (fun r I J => P_X12_wipe I2 J2 (fun r2 I2 J2 => r = r2 ∧ Sim I J I2 J2))
def st_fault (Sim : SimT) : Prop := ∀ (I : MI) (J : MJ) (I2 : MI) (J2 : MJ), Sim I J I2 J2 → P_X11_fault I J (fun r I J => P_X12_fault I2 J2 (fun r2 I2 J2 => r = r2 ∧ Sim I J I2 J2))
def st_house (Sim : SimT) : Prop := ∀ (I : MI) (J : MJ) (I2 : MI) (J2 : MJ), Sim I J I2 J2 → P_X11_house I J (fun r I J => P_X12_house I2 J2 (fun r2 I2 J2 => r = r2 ∧ Sim I J I2 J2))
def st_about (Sim : SimT) : Prop := ∀ (a0 : Int32) (I : MI) (J : MJ) (I2 : MI) (J2 : MJ), Sim I J I2 J2 → P_X11_about a0 I J (fun r I J => P_X12_about a0 I2 J2 (fun r2 I2 J2 => r = r2 ∧ Sim I J I2 J2))
def st_word (Sim : SimT) : Prop := ∀ (a0 : Int32) (a1 : Int32) (I : MI) (J : MJ) (I2 : MI) (J2 : MJ), Sim I J I2 J2 → P_X11_word a0 a1 I J (fun r I J => P_X12_word a0 a1 I2 J2 (fun r2 I2 J2 => r = r2 ∧ Sim I J I2 J2))
def st_letter (Sim : SimT) : Prop := ∀ (a0 : Int32) (a1 : Int32) (I : MI) (J : MJ) (I2 : MI) (J2 : MJ), Sim I J I2 J2 → P_X11_letter a0 a1 I J (fun r I J => P_X12_letter a0 a1 I2 J2 (fun r2 I2 J2 => r = r2 ∧ Sim I J I2 J2))
def st_put (Sim : SimT) : Prop := ∀ (a0 : Int32) (I : MI) (J : MJ) (I2 : MI) (J2 : MJ), Sim I J I2 J2 → P_X11_put a0 I J (fun r I J => P_X12_put a0 I2 J2 (fun r2 I2 J2 => r = r2 ∧ Sim I J I2 J2))
def st_take (Sim : SimT) : Prop := ∀ (a0 : Int32) (I : MI) (J : MJ) (I2 : MI) (J2 : MJ), Sim I J I2 J2 → P_X11_take a0 I J (fun r I J => P_X12_take a0 I2 J2 (fun r2 I2 J2 => r = r2 ∧ Sim I J I2 J2))
def st_bar (Sim : SimT) : Prop := ∀ (a0 : Int32) (I : MI) (J : MJ) (I2 : MI) (J2 : MJ), Sim I J I2 J2 → P_X11_bar a0 I J (fun r I J => P_X12_bar a0 I2 J2 (fun r2 I2 J2 => r = r2 ∧ Sim I J I2 J2))
def st_rank (Sim : SimT) : Prop := ∀ (a0 : Int32) (a1 : Int32) (I : MI) (J : MJ) (I2 : MI) (J2 : MJ), Sim I J I2 J2 → P_X11_rank a0 a1 I J (fun r I J => P_X12_rank a0 a1 I2 J2 (fun r2 I2 J2 => r = r2 ∧ Sim I J I2 J2))
def st_allow (Sim : SimT) : Prop := ∀ (a0 : Int32) (a1 : Int32) (a2 : Int32) (I : MI) (J : MJ) (I2 : MI) (J2 : MJ), Sim I J I2 J2 → P_X11_allow a0 a1 a2 I J (fun r I J => P_X12_allow a0 a1 a2 I2 J2 (fun r2 I2 J2 => r = r2 ∧ Sim I J I2 J2))
def st_undo (Sim : SimT) : Prop := ∀ (I : MI) (J : MJ) (I2 : MI) (J2 : MJ), Sim I J I2 J2 → P_X11_undo I J (fun r I J => P_X12_undo I2 J2 (fun r2 I2 J2 => r = r2 ∧ Sim I J I2 J2))
def st_many (Sim : SimT) : Prop := ∀ (a0 : Int32) (I : MI) (J : MJ) (I2 : MI) (J2 : MJ), Sim I J I2 J2 → P_X11_many a0 I J (fun r I J => P_X12_many a0 I2 J2 (fun r2 I2 J2 => r = r2 ∧ Sim I J I2 J2))
def st_having (Sim : SimT) : Prop := ∀ (a0 : Int32) (I : MI) (J : MJ) (I2 : MI) (J2 : MJ), Sim I J I2 J2 → P_X11_having a0 I J (fun r I J => P_X12_having a0 I2 J2 (fun r2 I2 J2 => r = r2 ∧ Sim I J I2 J2))
def st_best (Sim : SimT) : Prop := ∀ (a0 : Int32) (I : MI) (J : MJ) (I2 : MI) (J2 : MJ), Sim I J I2 J2 → P_X11_best a0 I J (fun r I J => P_X12_best a0 I2 J2 (fun r2 I2 J2 => r = r2 ∧ Sim I J I2 J2))
def st_phrase (Sim : SimT) : Prop := ∀ (a0 : Int64) (a1 : Int32) (I : MI) (J : MJ) (I2 : MI) (J2 : MJ), Sim I J I2 J2 → P_X11_phrase a0 a1 I J (fun r I J => P_X12_phrase a0 a1 I2 J2 (fun r2 I2 J2 => r = r2 ∧ Sim I J I2 J2))
def st_tell (Sim : SimT) : Prop := ∀ (a0 : Int32) (I : MI) (J : MJ) (I2 : MI) (J2 : MJ), Sim I J I2 J2 → P_X11_tell a0 I J (fun r I J => P_X12_tell a0 I2 J2 (fun r2 I2 J2 => r = r2 ∧ Sim I J I2 J2))
def st_clear (Sim : SimT) : Prop := ∀ (I : MI) (J : MJ) (I2 : MI) (J2 : MJ), Sim I J I2 J2 → P_X11_clear I J (fun r I J => P_X12_clear I2 J2 (fun r2 I2 J2 => r = r2 ∧ Sim I J I2 J2))
def st_why (Sim : SimT) : Prop := ∀ (a0 : Int32) (I : MI) (J : MJ) (I2 : MI) (J2 : MJ), Sim I J I2 J2 → P_X11_why a0 I J (fun r I J => P_X12_why a0 I2 J2 (fun r2 I2 J2 => r = r2 ∧ Sim I J I2 J2))
def st_number (Sim : SimT) : Prop := ∀ (I : MI) (J : MJ) (I2 : MI) (J2 : MJ), Sim I J I2 J2 → P_X11_number I J (fun r I J => P_X12_number I2 J2 (fun r2 I2 J2 => r = r2 ∧ Sim I J I2 J2))
def st_nearly (Sim : SimT) : Prop := ∀ (a0 : Int32) (I : MI) (J : MJ) (I2 : MI) (J2 : MJ), Sim I J I2 J2 → P_X11_nearly a0 I J (fun r I J => P_X12_nearly a0 I2 J2 (fun r2 I2 J2 => r = r2 ∧ Sim I J I2 J2))
def st_judge (Sim : SimT) : Prop := ∀ (a0 : Int32) (a1 : Int64) (I : MI) (J : MJ) (I2 : MI) (J2 : MJ), Sim I J I2 J2 → P_X11_judge a0 a1 I J (fun r I J => P_X12_judge a0 a1 I2 J2 (fun r2 I2 J2 => r = r2 ∧ Sim I J I2 J2))
def st_see (Sim : SimT) : Prop := ∀ (a0 : Int32) (a1 : Int32) (a2 : Int32) (I : MI) (J : MJ) (I2 : MI) (J2 : MJ), Sim I J I2 J2 → P_X11_see a0 a1 a2 I J (fun r I J => P_X12_see a0 a1 a2 I2 J2 (fun r2 I2 J2 => r = r2 ∧ Sim I J I2 J2))
def st_unsee (Sim : SimT) : Prop := ∀ (I : MI) (J : MJ) (I2 : MI) (J2 : MJ), Sim I J I2 J2 → P_X11_unsee I J (fun r I J => P_X12_unsee I2 J2 (fun r2 I2 J2 => r = r2 ∧ Sim I J I2 J2))
def st_left (Sim : SimT) : Prop := ∀ (a0 : Int32) (I : MI) (J : MJ) (I2 : MI) (J2 : MJ), Sim I J I2 J2 → P_X11_left a0 I J (fun r I J => P_X12_left a0 I2 J2 (fun r2 I2 J2 => r = r2 ∧ Sim I J I2 J2))
def st_share (Sim : SimT) : Prop := ∀ (a0 : Int32) (a1 : Int32) (I : MI) (J : MJ) (I2 : MI) (J2 : MJ), (a1 = 0 ∨ a1 = 1) → Sim I J I2 J2 → P_X11_share a0 a1 I J (fun r I J => P_X12_share a0 a1 I2 J2 (fun r2 I2 J2 => r = r2 ∧ Sim I J I2 J2))
def st_hope (Sim : SimT) : Prop := ∀ (a0 : Int32) (a1 : Int32) (I : MI) (J : MJ) (I2 : MI) (J2 : MJ), (a1 = 0 ∨ a1 = 1) → Sim I J I2 J2 → P_X11_hope a0 a1 I J (fun r I J => P_X12_hope a0 a1 I2 J2 (fun r2 I2 J2 => r = r2 ∧ Sim I J I2 J2))
def st_seed (Sim : SimT) : Prop := ∀ (a0 : Int64) (I : MI) (J : MJ) (I2 : MI) (J2 : MJ), Sim I J I2 J2 → P_X11_seed a0 I J (fun r I J => P_X12_seed a0 I2 J2 (fun r2 I2 J2 => r = r2 ∧ Sim I J I2 J2))
def st_drawn (Sim : SimT) : Prop := ∀ (a0 : Int32) (I : MI) (J : MJ) (I2 : MI) (J2 : MJ), Sim I J I2 J2 → P_X11_drawn a0 I J (fun r I J => P_X12_drawn a0 I2 J2 (fun r2 I2 J2 => r = r2 ∧ Sim I J I2 J2))
def st_keep (Sim : SimT) : Prop := ∀ (a0 : Int32) (I : MI) (J : MJ) (I2 : MI) (J2 : MJ), Sim I J I2 J2 → P_X11_keep a0 I J (fun r I J => P_X12_keep a0 I2 J2 (fun r2 I2 J2 => r = r2 ∧ Sim I J I2 J2))
def st_again (Sim : SimT) : Prop := ∀ (a0 : Int32) (I : MI) (J : MJ) (I2 : MI) (J2 : MJ), Sim I J I2 J2 → P_X11_again a0 I J (fun r I J => P_X12_again a0 I2 J2 (fun r2 I2 J2 => r = r2 ∧ Sim I J I2 J2))
