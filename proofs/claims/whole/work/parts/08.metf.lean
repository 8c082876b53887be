theorem g_metF {l : Launch} {own : String} {cc : ByteArray} {nL : Nat} {rt : Option FieldType} {S : gS} {n : Nat} {ad : Nat → Nat} {cy : Nat → ClassId} {D : va_G} {E : State → Prop} {I : MI} {J : MJ} {y : MethodName} {rm : Room} {av : List Value} {Qc : Array Value → State → Outcome → State → Prop} (hE : gEok n ad E) (hy : y.cls = own) (hpl : plainFor y = true) (hlen : (lg_sl av).length ≤ nL)
    (body : ∀ (p : Program) (e : Env) (s : State) (m : MethodId) (below : List Frame) (meth : Method) (c : Code) (ls : Array Slot), gC own cc nL rt n ad cy D E p s m av.toArray meth c → gH S n ad D s I J s.heap [] → lv_has ls nL (lv_args 0 av) →
      W p l e rm s m av.toArray below meth c s.heap [] 0 0 (MQ below Qc av.toArray s 0 0 (gA n ad)) (F0 m 0 ls [])) :
    Met l y (xws y cc nL rt) rm (va_Pc av (gB S n ad cy D E I J)) Qc 0 0 (gA n ad) := by
  refine va_MetF (cc := cc) (maxL := nL) (ret := rt) hpl rfl ?_
  intro p e s m args below meth c s₁ B hml hv
  obtain ⟨rfl, hP, hK, hD, hEs⟩ := hv
  have hts := atoms_spec (ws := xws y cc nL rt) B.pre
  have hl := lv_entry av (n := nL) hlen
  rw [lg_entry_eq]
  exact body p e s m below meth c _ ⟨B.exec, B.bytes, B.returns, hml, by rw [← hy]; exact findClass_of_methodNamed B.named, fun w hw => hts w (List.mem_cons_of_mem _ hw), B.notSynchronized, hK, hEs, hE⟩ ⟨hP, hD, va_S.rf⟩ hl
