def yW_none : MethodName := ⟨"BagPhrases$Way", "none", "()J"⟩
def yW_ended : MethodName := ⟨"BagPhrases$Way", "ended", "()J"⟩
def yW_joined : MethodName := ⟨"BagPhrases$Way", "joined", "(JJ)J"⟩
def yW_with : MethodName := ⟨"BagPhrases$Way", "with", "(JJI)J"⟩
def xF (ad ts : Nat → Nat) (U : State) : Prop := xE ad ts U ∧ va_Nw (.declares yW_none) U ∧ va_Nw (.declares yW_ended) U ∧ va_Nw (.declares yW_joined) U ∧ va_Nw (.declares yW_with) U
theorem xF_ok (ad ts : Nat → Nat) : gEok 66 ad (xF ad ts) :=
  ⟨fun u U hW hk h => ⟨(xE_ok ad ts).1 u U hW hk h.1, h.2.1.warmD hW, h.2.2.1.warmD hW, h.2.2.2.1.warmD hW, h.2.2.2.2.warmD hW⟩,
   fun u U hv hh h => ⟨(xE_ok ad ts).2 u U hv hh h.1, h.2.1.same rfl hv, h.2.2.1.same rfl hv, h.2.2.2.1.same rfl hv, h.2.2.2.2.same rfl hv⟩⟩
theorem toInt_ne {x y : Int32} {z : Int} (h : ¬ x = y) (hz : y.toInt = z) : ¬ x.toInt = z := fun h2 => h (Int32.toInt_inj.mp (h2.trans hz.symm))
theorem sw_or (x : Int32) : sw x = 44 ∨ sw x = 45 := by unfold sw; by_cases h : x = 0 <;> simp [h]
def slc (x : Int32) : Nat := if x.toNatClampNeg = 0 then 26 else 30
theorem isSet_slc (x : Int32) : isSet (slc x) := by unfold slc isSet; by_cases h : x.toNatClampNeg = 0 <;> simp [h]
theorem slc_eq (ad : Nat → Nat) (x : Int32) : va_rf (fR ad x.toNatClampNeg) = .ref (ad (slc x)) := by unfold slc fR; by_cases h : x.toNatClampNeg = 0 <;> simp [h, va_rf]
theorem qms_max : Cond.static Lib.MathLoose.max_long.x ∈ lw_g := lw_t 595 (by decide +kernel) (by decide +kernel)
theorem qmc_max : Cond.code Lib.MathLoose.max_long.x Lib.MathLoose.max_long.code 4 (some .long) ∈ lw_g := lw_t 596 (by decide +kernel) (by decide +kernel)
theorem qms_min : Cond.static Lib.Math.min.name ∈ lw_g := lw_t 664 (by decide +kernel) (by decide +kernel)
theorem qmc_min : Cond.code Lib.Math.min.name Lib.Math.min.code 2 (some .int) ∈ lw_g := lw_t 665 (by decide +kernel) (by decide +kernel)
theorem qms_abs : Cond.static Lib.MathLoose.abs_long.x ∈ lw_g := lw_t 936 (by decide +kernel) (by decide +kernel)
theorem qmc_abs : Cond.code Lib.MathLoose.abs_long.x Lib.MathLoose.abs_long.code 2 (some .long) ∈ lw_g := lw_t 937 (by decide +kernel) (by decide +kernel)
theorem qst_0 : Cond.fieldLink RX0 82 RX0 "SETS_WITH" "[J" ∈ lw_g := lw_t 910 (by decide +kernel) (by decide +kernel)
theorem qst_1 : Cond.fieldLink RX0 68 RX0 "FACTORIALS" "[I" ∈ lw_g := lw_t 926 (by decide +kernel) (by decide +kernel)
theorem qWl_none : Cond.methodLink RX4 110 yW_none ∈ lw_g := lw_t 557 (by decide +kernel) (by decide +kernel)
theorem qWs_none : Cond.sameMethod "BagPhrases$Way" "BagPhrases$Way" "none" "()J" ∈ lw_g := lw_t 559 (by decide +kernel) (by decide +kernel)
theorem qWx_none_1 : Cond.selects RX1 yW_none yX1_none ∈ lw_g := lw_t 560 (by decide +kernel) (by decide +kernel)
theorem qWm_none_1 : Cond.instanceMethod yX1_none ∈ lw_g := lw_t 561 (by decide +kernel) (by decide +kernel)
theorem qWx_none_3 : Cond.selects RX3 yW_none yX3_none ∈ lw_g := lw_t 563 (by decide +kernel) (by decide +kernel)
theorem qWm_none_3 : Cond.instanceMethod yX3_none ∈ lw_g := lw_t 564 (by decide +kernel) (by decide +kernel)
theorem qWx_none_10 : Cond.selects RX10 yW_none yX10_none ∈ lw_g := lw_t 566 (by decide +kernel) (by decide +kernel)
theorem qWm_none_10 : Cond.instanceMethod yX10_none ∈ lw_g := lw_t 567 (by decide +kernel) (by decide +kernel)
theorem qWl_ended : Cond.methodLink RX4 105 yW_ended ∈ lw_g := lw_t 544 (by decide +kernel) (by decide +kernel)
theorem qWs_ended : Cond.sameMethod "BagPhrases$Way" "BagPhrases$Way" "ended" "()J" ∈ lw_g := lw_t 546 (by decide +kernel) (by decide +kernel)
theorem qWx_ended_1 : Cond.selects RX1 yW_ended yX1_ended ∈ lw_g := lw_t 547 (by decide +kernel) (by decide +kernel)
theorem qWm_ended_1 : Cond.instanceMethod yX1_ended ∈ lw_g := lw_t 548 (by decide +kernel) (by decide +kernel)
theorem qWx_ended_3 : Cond.selects RX3 yW_ended yX3_ended ∈ lw_g := lw_t 550 (by decide +kernel) (by decide +kernel)
theorem qWm_ended_3 : Cond.instanceMethod yX3_ended ∈ lw_g := lw_t 551 (by decide +kernel) (by decide +kernel)
theorem qWx_ended_10 : Cond.selects RX10 yW_ended yX10_ended ∈ lw_g := lw_t 554 (by decide +kernel) (by decide +kernel)
theorem qWm_ended_10 : Cond.instanceMethod yX10_ended ∈ lw_g := lw_t 555 (by decide +kernel) (by decide +kernel)
theorem qWl_joined : Cond.methodLink RX4 129 yW_joined ∈ lw_g := lw_t 601 (by decide +kernel) (by decide +kernel)
theorem qWs_joined : Cond.sameMethod "BagPhrases$Way" "BagPhrases$Way" "joined" "(JJ)J" ∈ lw_g := lw_t 603 (by decide +kernel) (by decide +kernel)
theorem qWx_joined_1 : Cond.selects RX1 yW_joined yX1_joined ∈ lw_g := lw_t 604 (by decide +kernel) (by decide +kernel)
theorem qWm_joined_1 : Cond.instanceMethod yX1_joined ∈ lw_g := lw_t 605 (by decide +kernel) (by decide +kernel)
theorem qWx_joined_3 : Cond.selects RX3 yW_joined yX3_joined ∈ lw_g := lw_t 607 (by decide +kernel) (by decide +kernel)
theorem qWm_joined_3 : Cond.instanceMethod yX3_joined ∈ lw_g := lw_t 608 (by decide +kernel) (by decide +kernel)
theorem qWx_joined_10 : Cond.selects RX10 yW_joined yX10_joined ∈ lw_g := lw_t 610 (by decide +kernel) (by decide +kernel)
theorem qWm_joined_10 : Cond.instanceMethod yX10_joined ∈ lw_g := lw_t 611 (by decide +kernel) (by decide +kernel)
theorem qWl_with : Cond.methodLink RX4 125 yW_with ∈ lw_g := lw_t 582 (by decide +kernel) (by decide +kernel)
theorem qWs_with : Cond.sameMethod "BagPhrases$Way" "BagPhrases$Way" "with" "(JJI)J" ∈ lw_g := lw_t 584 (by decide +kernel) (by decide +kernel)
theorem qWx_with_1 : Cond.selects RX1 yW_with yX1_with ∈ lw_g := lw_t 585 (by decide +kernel) (by decide +kernel)
theorem qWm_with_1 : Cond.instanceMethod yX1_with ∈ lw_g := lw_t 586 (by decide +kernel) (by decide +kernel)
theorem qWx_with_3 : Cond.selects RX3 yW_with yX3_with ∈ lw_g := lw_t 588 (by decide +kernel) (by decide +kernel)
theorem qWm_with_3 : Cond.instanceMethod yX3_with ∈ lw_g := lw_t 589 (by decide +kernel) (by decide +kernel)
theorem qWx_with_10 : Cond.selects RX10 yW_with yX10_with ∈ lw_g := lw_t 591 (by decide +kernel) (by decide +kernel)
theorem qWm_with_10 : Cond.instanceMethod yX10_with ∈ lw_g := lw_t 592 (by decide +kernel) (by decide +kernel)
section
variable {p : Program} {l : Launch} {e : Env} {R : Room} {s : State} {m : MethodId} {args : Array Value} {below : List Frame} {meth : Method} {c : Code} {H : Heap} {locs : List Loc} {cells slots : Nat} {Qs : State → Prop}
variable {own : String} {cc : ByteArray} {nL : Nat} {rt : Option FieldType} {S : gS} {n : Nat} {ad : Nat → Nat} {cy : Nat → ClassId} {D : va_G} {E : State → Prop} {I : MI} {J : MJ} {ts : Nat → Nat}
variable {pc : Nat} {ls : Array Slot} {rest : List Value} {k : Nat}
theorem g_putT {ci j index a : Nat} {fs : (Nat → Int32) → (Nat → Int64) → List Value} (C : gC own cc nL rt n ad cy D E p s m args meth c) (hw : gH S n ad D s I J H locs) (fl : gFp own index ci j (.array .long)) (hk : k < n) (hs : ∀ i q, S k i q = .inr (ci, fs i q)) (hset : ∀ i q, (fs i q).set j (.ref (ad a)) = fs (upd i j (swi a)) q) (hl : j < (fs (I k) (J k)).length) (hd : decode cc pc = .ok (.putfield index, 3))
    (kk : ∀ (H : Heap) (locs : List Loc), gH S n ad D s (mI I k j (swi a)) J H locs → W p l e R s m args below meth c H locs cells slots Qs (F0 m (pc + 3) ls rest)) : W p l e R s m args below meth c H locs cells slots Qs (F0 m pc ls (.ref (ad a) :: .ref (ad k) :: rest)) :=
  g_put C hw fl hk (hs _ _) hl rfl rfl (gW_setI (by rw [hs, hset])) hd kk
theorem g_slot {x : Int32} (C : gC own cc nL rt 66 ad cy D E p s m args meth c) (hw : gH (xS ad cy) 66 ad D s I J H locs) (hin : vp_in x 2) (hd : decode cc pc = .ok (.aaload, 1))
    (kk : W p l e R s m args below meth c H locs cells slots Qs (F0 m (pc + 1) ls (.ref (ad (slc x)) :: rest))) : W p l e R s m args below meth c H locs cells slots Qs (F0 m pc ls (.int x :: .ref (ad 25) :: rest)) :=
  g_aald C hw xl_25 xs_25 hin hd (by rw [slc_eq]; exact kk)
theorem g_rU {x y : MethodName} {Cn : String} {cN : ByteArray} {nN nA index : Nat} {rN : Option FieldType} {rm : Room} {Qc : Array Value → State → Outcome → State → Prop} {ci : Nat} {fs : List Value} {T : u_T} {N : Nat} {st : List Value} (As rest : List Value) (C : gC own cc nL rt n ad cy D E p s m args meth c) (hw : gH S n ad D s I J H locs)
    (hM : Met l y (xws y cN nN rN) rm (va_Pc (.ref (ad k) :: As) (gB S n ad cy D E I J)) Qc 0 0 (gA n ad))
    (h1 : Cond.methodLink own index x ∈ lw_g) (h2 : Cond.sameMethod x.cls x.cls x.name x.desc ∈ lw_g) (h3 : Cond.selects Cn x y ∈ lw_g) (h4 : Cond.instanceMethod y ∈ lw_g) (h5 : Cond.initialized y.cls ∈ lw_g) (h6 : Cond.code y cN nN rN ∈ lw_g) (hz9 : va_Nw (.declares x) s)
    (hd9 : x.cls ≠ "java/lang/invoke/MethodHandle" ∧ x.cls ≠ "java/lang/invoke/VarHandle" ∧ (parseMethodDescriptor x.desc).map (fun d => d.parameters.length) = some nA) (hk : k < n) (hs : S k (I k) (J k) = .inr (ci, fs)) (hc : vwCl[ci]? = some (Cn, T, N))
    (hn : As.length = nA) (hz : ls.size = nL) (hst : st = As.reverse ++ .ref (ad k) :: rest) (hsum : (rest.map fun v => v.category).sum ≤ 8) (hR : (rm.cells = 0 ∧ rm.slots = 0) ∧ rm.frames + 1 ≤ R.frames ∧ 8 + (nN + 11) + rm.locals ≤ R.locals) (hcs : cells ≤ R.cells ∧ slots ≤ R.slots) (hd : decode cc pc = .ok (.invokevirtual index, 3)) :
    va_Run p l e R s m args below meth c H locs cells slots 0 0 (F0 m pc ls st) rest (Qc (Value.ref (ad k) :: As).toArray) (gA n ad) := by
  have hp := g_pre C hw (.ref (ad k) :: As)
  have hK := C.2.2.2.2.2.2.2.1
  have hts := C.2.2.2.2.2.1
  have hr := va_recv hK hw.1 (ci := ci) (q0 := k) hc (by rw [gW_get hk, hs])
  have hG : GoodIn lw_g (va_wsU own index Cn x.cls x y (xws y cN nN rN)) := g_goodl (fun w hw9 => by
    simp only [va_wsU, xws, List.cons_append, List.nil_append, List.mem_cons] at hw9
    rcases hw9 with rfl | rfl | rfl | rfl | rfl | rfl | hw9 <;> assumption)
  exact va_runU (Ts := lw_g) ⟨C.1, C.2.1, C.2.2.2.1, C.2.2.2.2.1, hts⟩ hM (va_cwA nA hts hG rfl hR.1.1 hR.1.2 hz9 hd9 hR.2) ⟨hp.1, hr, hp.2⟩ rfl hn hz hst (lv_room hsum) hd hcs
end
