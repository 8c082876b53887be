/-! the constructors -/
def adL (l : List Nat) (i : Nat) : Nat := l.getD i 0
set_option maxHeartbeats 4000000 in
set_option maxRecDepth 100000 in
theorem c_X9_init (l : Launch) (D : va_G) (cy : Nat → ClassId) (h0 : Nat) (sz : Nat) : Met l yX9_init (xws yX9_init cX9_init 1 none) ({ frames := 1, cells := 0, slots := 0, locals := 24 }) (va_Pc [.ref h0] (fun U => U.heap.size = sz ∧ va_P D vwCl [] U.heap ∧ va_K D vwCl [] U ∧ va_D (fun _ => True) [] ∧ kX cy U)) (va_Qv (fun u : Nat → Nat => u = u) (fun u t => va_P D vwCl [] t.heap ∧ va_K D vwCl [] t ∧ va_D (va_A [] sz) []) (va_A [] sz)) 0 0 (va_A [] sz) := by
  refine Met.ofW (cc := cX9_init) (maxL := 1) (ret := none) (by decide) rfl ?_
  intro p e s m args below meth c s₁ B hml hv
  obtain ⟨rfl, hsz, hP, hK, hD0, hk⟩ := hv
  have hx := B.exec
  have hb := B.bytes
  have hr := B.returns
  have hts : ∀ w ∈ lw_g, w.before _ s = true := fun w hw => atoms_spec (ws := xws yX9_init cX9_init 1 none) B.pre w (List.mem_cons_of_mem _ hw)
  have hown : s.vm.findClass RX9 = some m.cls := findClass_of_methodNamed B.named
  have hlocks := B.notSynchronized
  have hin : meth.name = "<init>" := (name_of_methodNamed B.named B.method).1
  subst hsz
  have hD := hD0.self (sz := s.heap.size)
  generalize hAe : va_A [] s.heap.size = A at hD ⊢
  have hA : ∀ q : Nat, s.heap.size ≤ q → A q := fun q h => by rw [← hAe]; exact Or.inr h
  have hS : va_S A s.heap s.heap [] := va_S.rf
  have hP : va_P D vwCl [] s.heap := hP
  have hl := lv_entry ([.ref h0] : List Value) (n := 1) (Nat.le_of_ble_eq_true rfl)
  rw [lg_entry_eq]
  generalize (lg_sl [.ref h0] ++ List.replicate (1 - (lg_sl [.ref h0]).length) Slot.unset).toArray = ls at hl ⊢
  have hl : lv_has ls 1 [(0, .ref h0)] := hl
  refine lv_aload_n hx hb dX9_init_0 rfl (lv_at hl 0 rfl) ?_
  refine W.objInit hx hb hown (hts _ qo_RX9) (hts _ qo_inst) (hts _ qo_code) rfl (by rw [hml]; exact hl.1.trans rfl) rfl dX9_init_1 (Nat.le_of_ble_eq_true rfl) (Nat.le_of_ble_eq_true rfl) ?_
  refine W.eq (g2 := F0 m 4 ls []) rfl ?_
  have hK9 := hK.sub (tys' := []) [] rfl
  exact W.vret hx hb hr (fun t ht hW => ⟨⟨fun _ => 0, rfl, rfl, by rw [ht]; exact hP, va_K.moved hW.alike hK9, hD⟩, hS.F ht⟩) hS.2.2 dX9_init_4 hlocks
set_option maxHeartbeats 4000000 in
set_option maxRecDepth 100000 in
theorem c_X5_init (l : Launch) (D : va_G) (cy : Nat → ClassId) (h0 : Nat) (sz : Nat) : Met l yX5_init (xws yX5_init cX5_init 1 none) ({ frames := 1, cells := 4, slots := 90, locals := 24 }) (va_Pc [.ref h0] (fun U => U.heap.size = sz ∧ va_P D vwCl [(h0, .inr (5, [.null, .null, .null, .null, .int 0]))] U.heap ∧ va_K D vwCl [] U ∧ va_D (fun _ => True) [(h0, .inr (5, [.null, .null, .null, .null, .int 0]))] ∧ kX cy U)) (va_Qv (fun u : Nat → Nat => u 0 = h0) (fun u t => va_P D vwCl [((u 0), .inr (5, [.ref (u 1), .ref (u 2), .ref (u 3), .ref (u 4), .int 0])), ((u 1), .inl (cy 0, 10, .inl (fun _ => 0))), ((u 2), .inl (cy 0, 10, .inl (fun _ => 0))), ((u 3), .inl (cy 1, 10, .inr (.inl (fun _ => 0)))), ((u 4), .inl (cy 0, 60, .inl (fun _ => 0)))] t.heap ∧ va_K D vwCl [(cy 0, .int), (cy 1, .long)] t ∧ va_D (va_A [(h0, .inr (5, [.null, .null, .null, .null, .int 0]))] sz) [((u 0), .inr (5, [.ref (u 1), .ref (u 2), .ref (u 3), .ref (u 4), .int 0])), ((u 1), .inl (cy 0, 10, .inl (fun _ => 0))), ((u 2), .inl (cy 0, 10, .inl (fun _ => 0))), ((u 3), .inl (cy 1, 10, .inr (.inl (fun _ => 0)))), ((u 4), .inl (cy 0, 60, .inl (fun _ => 0)))]) (va_A [(h0, .inr (5, [.null, .null, .null, .null, .int 0]))] sz)) 4 90 (va_A [(h0, .inr (5, [.null, .null, .null, .null, .int 0]))] sz) := by
  refine Met.ofW (cc := cX5_init) (maxL := 1) (ret := none) (by decide) rfl ?_
  intro p e s m args below meth c s₁ B hml hv
  obtain ⟨rfl, hsz, hP, hK, hD0, hk⟩ := hv
  have hx := B.exec
  have hb := B.bytes
  have hr := B.returns
  have hts : ∀ w ∈ lw_g, w.before _ s = true := fun w hw => atoms_spec (ws := xws yX5_init cX5_init 1 none) B.pre w (List.mem_cons_of_mem _ hw)
  have hown : s.vm.findClass RX5 = some m.cls := findClass_of_methodNamed B.named
  have hlocks := B.notSynchronized
  have hin : meth.name = "<init>" := (name_of_methodNamed B.named B.method).1
  subst hsz
  have hD := hD0.self (sz := s.heap.size)
  generalize hAe : va_A [(h0, .inr (5, [.null, .null, .null, .null, .int 0]))] s.heap.size = A at hD ⊢
  have hA : ∀ q : Nat, s.heap.size ≤ q → A q := fun q h => by rw [← hAe]; exact Or.inr h
  have hS : va_S A s.heap s.heap [] := va_S.rf
  have hP : va_P D vwCl [(h0, .inr (5, [.null, .null, .null, .null, .int 0]))] s.heap := hP
  have hl := lv_entry ([.ref h0] : List Value) (n := 1) (Nat.le_of_ble_eq_true rfl)
  rw [lg_entry_eq]
  generalize (lg_sl [.ref h0] ++ List.replicate (1 - (lg_sl [.ref h0]).length) Slot.unset).toArray = ls at hl ⊢
  have hl : lv_has ls 1 [(0, .ref h0)] := hl
  refine lv_aload_n hx hb dX5_init_0 rfl (lv_at hl 0 rfl) ?_
  refine W.objInit hx hb hown (hts _ qo_RX5) (hts _ qo_inst) (hts _ qo_code) rfl (by rw [hml]; exact hl.1.trans rfl) rfl dX5_init_1 (Nat.le_of_ble_eq_true rfl) (Nat.le_of_ble_eq_true rfl) ?_
  refine W.eq (g2 := F0 m 4 ls []) rfl ?_
  refine lv_aload_n hx hb dX5_init_4 rfl (lv_at hl 0 rfl) ?_
  refine lv_bipush (v := 10) hx hb dX5_init_5 (by decide +kernel) ?_
  refine k_newI (N := 10) hx hb (hts _ qa_int) hk hK hP hD hS hA (by decide +kernel) (by decide +kernel) (by decide +kernel) (by show 0 + 1 ≤ 4; omega) (by show 0 + 10 ≤ 90; omega) dX5_init_7 (fun q7 H hK hP hD hS => ?_)
  have hP : va_P D vwCl [(h0, .inr (5, [.null, .null, .null, .null, .int 0])), (q7, .inl (cy 0, 10, .inl (fun _ => 0)))] H := hP
  have hD : va_D A [(h0, .inr (5, [.null, .null, .null, .null, .int 0])), (q7, .inl (cy 0, 10, .inl (fun _ => 0)))] := hD
  refine W.widen (k := 1) (n := 10) (by omega) (by omega) ?_
  refine k_putF hx hb hts hown hin hK hP hD hS ff_RX5_9 0 rfl (Nat.le_of_ble_eq_true rfl) rfl rfl dX5_init_9 (fun H locs hP hD hS => ?_)
  have hP : va_P D vwCl [(h0, .inr (5, [.ref q7, .null, .null, .null, .int 0])), (q7, .inl (cy 0, 10, .inl (fun _ => 0)))] H := hP
  have hD : va_D A [(h0, .inr (5, [.ref q7, .null, .null, .null, .int 0])), (q7, .inl (cy 0, 10, .inl (fun _ => 0)))] := hD
  refine lv_aload_n hx hb dX5_init_12 rfl (lv_at hl 0 rfl) ?_
  refine lv_bipush (v := 10) hx hb dX5_init_13 (by decide +kernel) ?_
  refine k_newI (N := 10) hx hb (hts _ qa_int) hk hK hP hD hS hA (by decide +kernel) (by decide +kernel) (by decide +kernel) (by show 1 + 1 ≤ 4; omega) (by show 10 + 10 ≤ 90; omega) dX5_init_15 (fun q15 H hK hP hD hS => ?_)
  have hP : va_P D vwCl [(h0, .inr (5, [.ref q7, .null, .null, .null, .int 0])), (q7, .inl (cy 0, 10, .inl (fun _ => 0))), (q15, .inl (cy 0, 10, .inl (fun _ => 0)))] H := hP
  have hD : va_D A [(h0, .inr (5, [.ref q7, .null, .null, .null, .int 0])), (q7, .inl (cy 0, 10, .inl (fun _ => 0))), (q15, .inl (cy 0, 10, .inl (fun _ => 0)))] := hD
  refine W.widen (k := 2) (n := 20) (by omega) (by omega) ?_
  refine k_putF hx hb hts hown hin hK hP hD hS ff_RX5_15 0 rfl (Nat.le_of_ble_eq_true rfl) rfl rfl dX5_init_17 (fun H locs hP hD hS => ?_)
  have hP : va_P D vwCl [(h0, .inr (5, [.ref q7, .ref q15, .null, .null, .int 0])), (q7, .inl (cy 0, 10, .inl (fun _ => 0))), (q15, .inl (cy 0, 10, .inl (fun _ => 0)))] H := hP
  have hD : va_D A [(h0, .inr (5, [.ref q7, .ref q15, .null, .null, .int 0])), (q7, .inl (cy 0, 10, .inl (fun _ => 0))), (q15, .inl (cy 0, 10, .inl (fun _ => 0)))] := hD
  refine lv_aload_n hx hb dX5_init_20 rfl (lv_at hl 0 rfl) ?_
  refine lv_bipush (v := 10) hx hb dX5_init_21 (by decide +kernel) ?_
  refine k_newJ (N := 10) hx hb (hts _ qa_long) hk hK hP hD hS hA (by decide +kernel) (by decide +kernel) (by decide +kernel) (by show 2 + 1 ≤ 4; omega) (by show 20 + 10 ≤ 90; omega) dX5_init_23 (fun q23 H hK hP hD hS => ?_)
  have hP : va_P D vwCl [(h0, .inr (5, [.ref q7, .ref q15, .null, .null, .int 0])), (q7, .inl (cy 0, 10, .inl (fun _ => 0))), (q15, .inl (cy 0, 10, .inl (fun _ => 0))), (q23, .inl (cy 1, 10, .inr (.inl (fun _ => 0))))] H := hP
  have hD : va_D A [(h0, .inr (5, [.ref q7, .ref q15, .null, .null, .int 0])), (q7, .inl (cy 0, 10, .inl (fun _ => 0))), (q15, .inl (cy 0, 10, .inl (fun _ => 0))), (q23, .inl (cy 1, 10, .inr (.inl (fun _ => 0))))] := hD
  refine W.widen (k := 3) (n := 30) (by omega) (by omega) ?_
  refine k_putF hx hb hts hown hin hK hP hD hS ff_RX5_18 0 rfl (Nat.le_of_ble_eq_true rfl) rfl rfl dX5_init_25 (fun H locs hP hD hS => ?_)
  have hP : va_P D vwCl [(h0, .inr (5, [.ref q7, .ref q15, .ref q23, .null, .int 0])), (q7, .inl (cy 0, 10, .inl (fun _ => 0))), (q15, .inl (cy 0, 10, .inl (fun _ => 0))), (q23, .inl (cy 1, 10, .inr (.inl (fun _ => 0))))] H := hP
  have hD : va_D A [(h0, .inr (5, [.ref q7, .ref q15, .ref q23, .null, .int 0])), (q7, .inl (cy 0, 10, .inl (fun _ => 0))), (q15, .inl (cy 0, 10, .inl (fun _ => 0))), (q23, .inl (cy 1, 10, .inr (.inl (fun _ => 0))))] := hD
  refine lv_aload_n hx hb dX5_init_28 rfl (lv_at hl 0 rfl) ?_
  refine lv_bipush (v := 60) hx hb dX5_init_29 (by decide +kernel) ?_
  refine k_newI (N := 60) hx hb (hts _ qa_int) hk hK hP hD hS hA (by decide +kernel) (by decide +kernel) (by decide +kernel) (by show 3 + 1 ≤ 4; omega) (by show 30 + 60 ≤ 90; omega) dX5_init_31 (fun q31 H hK hP hD hS => ?_)
  have hP : va_P D vwCl [(h0, .inr (5, [.ref q7, .ref q15, .ref q23, .null, .int 0])), (q7, .inl (cy 0, 10, .inl (fun _ => 0))), (q15, .inl (cy 0, 10, .inl (fun _ => 0))), (q23, .inl (cy 1, 10, .inr (.inl (fun _ => 0)))), (q31, .inl (cy 0, 60, .inl (fun _ => 0)))] H := hP
  have hD : va_D A [(h0, .inr (5, [.ref q7, .ref q15, .ref q23, .null, .int 0])), (q7, .inl (cy 0, 10, .inl (fun _ => 0))), (q15, .inl (cy 0, 10, .inl (fun _ => 0))), (q23, .inl (cy 1, 10, .inr (.inl (fun _ => 0)))), (q31, .inl (cy 0, 60, .inl (fun _ => 0)))] := hD
  refine W.widen (k := 4) (n := 90) (by omega) (by omega) ?_
  refine k_putF hx hb hts hown hin hK hP hD hS ff_RX5_22 0 rfl (Nat.le_of_ble_eq_true rfl) rfl rfl dX5_init_33 (fun H locs hP hD hS => ?_)
  have hP : va_P D vwCl [(h0, .inr (5, [.ref q7, .ref q15, .ref q23, .ref q31, .int 0])), (q7, .inl (cy 0, 10, .inl (fun _ => 0))), (q15, .inl (cy 0, 10, .inl (fun _ => 0))), (q23, .inl (cy 1, 10, .inr (.inl (fun _ => 0)))), (q31, .inl (cy 0, 60, .inl (fun _ => 0)))] H := hP
  have hD : va_D A [(h0, .inr (5, [.ref q7, .ref q15, .ref q23, .ref q31, .int 0])), (q7, .inl (cy 0, 10, .inl (fun _ => 0))), (q15, .inl (cy 0, 10, .inl (fun _ => 0))), (q23, .inl (cy 1, 10, .inr (.inl (fun _ => 0)))), (q31, .inl (cy 0, 60, .inl (fun _ => 0)))] := hD
  refine lv_aload_n hx hb dX5_init_36 rfl (lv_at hl 0 rfl) ?_
  refine lv_iconst (v := 0) hx hb dX5_init_37 (by decide +kernel) ?_
  refine k_put hx hb hts hown hK hP hD hS fp_RX5_25 0 rfl (Nat.le_of_ble_eq_true rfl) rfl rfl dX5_init_38 (fun H locs hP hD hS => ?_)
  have hP : va_P D vwCl [(h0, .inr (5, [.ref q7, .ref q15, .ref q23, .ref q31, .int 0])), (q7, .inl (cy 0, 10, .inl (fun _ => 0))), (q15, .inl (cy 0, 10, .inl (fun _ => 0))), (q23, .inl (cy 1, 10, .inr (.inl (fun _ => 0)))), (q31, .inl (cy 0, 60, .inl (fun _ => 0)))] H := hP
  have hD : va_D A [(h0, .inr (5, [.ref q7, .ref q15, .ref q23, .ref q31, .int 0])), (q7, .inl (cy 0, 10, .inl (fun _ => 0))), (q15, .inl (cy 0, 10, .inl (fun _ => 0))), (q23, .inl (cy 1, 10, .inr (.inl (fun _ => 0)))), (q31, .inl (cy 0, 60, .inl (fun _ => 0)))] := hD
  have hP9 := hP.sub (ws' := [(h0, .inr (5, [.ref q7, .ref q15, .ref q23, .ref q31, .int 0])), (q7, .inl (cy 0, 10, .inl (fun _ => 0))), (q15, .inl (cy 0, 10, .inl (fun _ => 0))), (q23, .inl (cy 1, 10, .inr (.inl (fun _ => 0)))), (q31, .inl (cy 0, 60, .inl (fun _ => 0)))]) [0, 1, 2, 3, 4] rfl
  have hD9 := hD.sub (ws' := [(h0, .inr (5, [.ref q7, .ref q15, .ref q23, .ref q31, .int 0])), (q7, .inl (cy 0, 10, .inl (fun _ => 0))), (q15, .inl (cy 0, 10, .inl (fun _ => 0))), (q23, .inl (cy 1, 10, .inr (.inl (fun _ => 0)))), (q31, .inl (cy 0, 60, .inl (fun _ => 0)))]) [0, 1, 2, 3, 4] (by decide) rfl
  have hK9 := hK.sub (tys' := [(cy 0, .int), (cy 1, .long)]) [0, 2] rfl
  exact W.vret hx hb hr (fun t ht hW => ⟨⟨adL [h0, q7, q15, q23, q31], rfl, rfl, by rw [ht]; exact hP9, va_K.moved hW.alike hK9, hD9⟩, hS.F ht⟩) hS.2.2 dX5_init_41 hlocks
set_option maxHeartbeats 4000000 in
set_option maxRecDepth 100000 in
theorem c_X8_init (l : Launch) (D : va_G) (cy : Nat → ClassId) (h0 : Nat) (sz : Nat) : Met l yX8_init (xws yX8_init cX8_init 1 none) ({ frames := 1, cells := 3, slots := 22, locals := 24 }) (va_Pc [.ref h0] (fun U => U.heap.size = sz ∧ va_P D vwCl [(h0, .inr (8, [.null, .null, .null, .int 0, .int 0, .int 0]))] U.heap ∧ va_K D vwCl [] U ∧ va_D (fun _ => True) [(h0, .inr (8, [.null, .null, .null, .int 0, .int 0, .int 0]))] ∧ kX cy U)) (va_Qv (fun u : Nat → Nat => u 0 = h0) (fun u t => va_P D vwCl [((u 0), .inr (8, [.ref (u 1), .ref (u 2), .ref (u 3), .int 0, .int 0, .int 0])), ((u 1), .inl (cy 0, 8, .inl (fun _ => 0))), ((u 2), .inl (cy 0, 10, .inl (fun _ => 0))), ((u 3), .inl (cy 0, 4, .inl (fun _ => 0)))] t.heap ∧ va_K D vwCl [] t ∧ va_D (va_A [(h0, .inr (8, [.null, .null, .null, .int 0, .int 0, .int 0]))] sz) [((u 0), .inr (8, [.ref (u 1), .ref (u 2), .ref (u 3), .int 0, .int 0, .int 0])), ((u 1), .inl (cy 0, 8, .inl (fun _ => 0))), ((u 2), .inl (cy 0, 10, .inl (fun _ => 0))), ((u 3), .inl (cy 0, 4, .inl (fun _ => 0)))]) (va_A [(h0, .inr (8, [.null, .null, .null, .int 0, .int 0, .int 0]))] sz)) 3 22 (va_A [(h0, .inr (8, [.null, .null, .null, .int 0, .int 0, .int 0]))] sz) := by
  refine Met.ofW (cc := cX8_init) (maxL := 1) (ret := none) (by decide) rfl ?_
  intro p e s m args below meth c s₁ B hml hv
  obtain ⟨rfl, hsz, hP, hK, hD0, hk⟩ := hv
  have hx := B.exec
  have hb := B.bytes
  have hr := B.returns
  have hts : ∀ w ∈ lw_g, w.before _ s = true := fun w hw => atoms_spec (ws := xws yX8_init cX8_init 1 none) B.pre w (List.mem_cons_of_mem _ hw)
  have hown : s.vm.findClass RX8 = some m.cls := findClass_of_methodNamed B.named
  have hlocks := B.notSynchronized
  have hin : meth.name = "<init>" := (name_of_methodNamed B.named B.method).1
  subst hsz
  have hD := hD0.self (sz := s.heap.size)
  generalize hAe : va_A [(h0, .inr (8, [.null, .null, .null, .int 0, .int 0, .int 0]))] s.heap.size = A at hD ⊢
  have hA : ∀ q : Nat, s.heap.size ≤ q → A q := fun q h => by rw [← hAe]; exact Or.inr h
  have hS : va_S A s.heap s.heap [] := va_S.rf
  have hP : va_P D vwCl [(h0, .inr (8, [.null, .null, .null, .int 0, .int 0, .int 0]))] s.heap := hP
  have hl := lv_entry ([.ref h0] : List Value) (n := 1) (Nat.le_of_ble_eq_true rfl)
  rw [lg_entry_eq]
  generalize (lg_sl [.ref h0] ++ List.replicate (1 - (lg_sl [.ref h0]).length) Slot.unset).toArray = ls at hl ⊢
  have hl : lv_has ls 1 [(0, .ref h0)] := hl
  refine lv_aload_n hx hb dX8_init_0 rfl (lv_at hl 0 rfl) ?_
  refine W.objInit hx hb hown (hts _ qo_RX8) (hts _ qo_inst) (hts _ qo_code) rfl (by rw [hml]; exact hl.1.trans rfl) rfl dX8_init_1 (Nat.le_of_ble_eq_true rfl) (Nat.le_of_ble_eq_true rfl) ?_
  refine W.eq (g2 := F0 m 4 ls []) rfl ?_
  refine lv_aload_n hx hb dX8_init_4 rfl (lv_at hl 0 rfl) ?_
  refine lv_bipush (v := 8) hx hb dX8_init_5 (by decide +kernel) ?_
  refine k_newI (N := 8) hx hb (hts _ qa_int) hk hK hP hD hS hA (by decide +kernel) (by decide +kernel) (by decide +kernel) (by show 0 + 1 ≤ 3; omega) (by show 0 + 8 ≤ 22; omega) dX8_init_7 (fun q7 H hK hP hD hS => ?_)
  have hP : va_P D vwCl [(h0, .inr (8, [.null, .null, .null, .int 0, .int 0, .int 0])), (q7, .inl (cy 0, 8, .inl (fun _ => 0)))] H := hP
  have hD : va_D A [(h0, .inr (8, [.null, .null, .null, .int 0, .int 0, .int 0])), (q7, .inl (cy 0, 8, .inl (fun _ => 0)))] := hD
  refine W.widen (k := 1) (n := 8) (by omega) (by omega) ?_
  refine k_putF hx hb hts hown hin hK hP hD hS ff_RX8_9 0 rfl (Nat.le_of_ble_eq_true rfl) rfl rfl dX8_init_9 (fun H locs hP hD hS => ?_)
  have hP : va_P D vwCl [(h0, .inr (8, [.ref q7, .null, .null, .int 0, .int 0, .int 0])), (q7, .inl (cy 0, 8, .inl (fun _ => 0)))] H := hP
  have hD : va_D A [(h0, .inr (8, [.ref q7, .null, .null, .int 0, .int 0, .int 0])), (q7, .inl (cy 0, 8, .inl (fun _ => 0)))] := hD
  refine lv_aload_n hx hb dX8_init_12 rfl (lv_at hl 0 rfl) ?_
  refine lv_bipush (v := 10) hx hb dX8_init_13 (by decide +kernel) ?_
  refine k_newI (N := 10) hx hb (hts _ qa_int) hk hK hP hD hS hA (by decide +kernel) (by decide +kernel) (by decide +kernel) (by show 1 + 1 ≤ 3; omega) (by show 8 + 10 ≤ 22; omega) dX8_init_15 (fun q15 H hK hP hD hS => ?_)
  have hP : va_P D vwCl [(h0, .inr (8, [.ref q7, .null, .null, .int 0, .int 0, .int 0])), (q7, .inl (cy 0, 8, .inl (fun _ => 0))), (q15, .inl (cy 0, 10, .inl (fun _ => 0)))] H := hP
  have hD : va_D A [(h0, .inr (8, [.ref q7, .null, .null, .int 0, .int 0, .int 0])), (q7, .inl (cy 0, 8, .inl (fun _ => 0))), (q15, .inl (cy 0, 10, .inl (fun _ => 0)))] := hD
  refine W.widen (k := 2) (n := 18) (by omega) (by omega) ?_
  refine k_putF hx hb hts hown hin hK hP hD hS ff_RX8_15 0 rfl (Nat.le_of_ble_eq_true rfl) rfl rfl dX8_init_17 (fun H locs hP hD hS => ?_)
  have hP : va_P D vwCl [(h0, .inr (8, [.ref q7, .ref q15, .null, .int 0, .int 0, .int 0])), (q7, .inl (cy 0, 8, .inl (fun _ => 0))), (q15, .inl (cy 0, 10, .inl (fun _ => 0)))] H := hP
  have hD : va_D A [(h0, .inr (8, [.ref q7, .ref q15, .null, .int 0, .int 0, .int 0])), (q7, .inl (cy 0, 8, .inl (fun _ => 0))), (q15, .inl (cy 0, 10, .inl (fun _ => 0)))] := hD
  refine lv_aload_n hx hb dX8_init_20 rfl (lv_at hl 0 rfl) ?_
  refine lv_iconst (v := 4) hx hb dX8_init_21 (by decide +kernel) ?_
  refine k_newI (N := 4) hx hb (hts _ qa_int) hk hK hP hD hS hA (by decide +kernel) (by decide +kernel) (by decide +kernel) (by show 2 + 1 ≤ 3; omega) (by show 18 + 4 ≤ 22; omega) dX8_init_22 (fun q22 H hK hP hD hS => ?_)
  have hP : va_P D vwCl [(h0, .inr (8, [.ref q7, .ref q15, .null, .int 0, .int 0, .int 0])), (q7, .inl (cy 0, 8, .inl (fun _ => 0))), (q15, .inl (cy 0, 10, .inl (fun _ => 0))), (q22, .inl (cy 0, 4, .inl (fun _ => 0)))] H := hP
  have hD : va_D A [(h0, .inr (8, [.ref q7, .ref q15, .null, .int 0, .int 0, .int 0])), (q7, .inl (cy 0, 8, .inl (fun _ => 0))), (q15, .inl (cy 0, 10, .inl (fun _ => 0))), (q22, .inl (cy 0, 4, .inl (fun _ => 0)))] := hD
  refine W.widen (k := 3) (n := 22) (by omega) (by omega) ?_
  refine k_putF hx hb hts hown hin hK hP hD hS ff_RX8_18 0 rfl (Nat.le_of_ble_eq_true rfl) rfl rfl dX8_init_24 (fun H locs hP hD hS => ?_)
  have hP : va_P D vwCl [(h0, .inr (8, [.ref q7, .ref q15, .ref q22, .int 0, .int 0, .int 0])), (q7, .inl (cy 0, 8, .inl (fun _ => 0))), (q15, .inl (cy 0, 10, .inl (fun _ => 0))), (q22, .inl (cy 0, 4, .inl (fun _ => 0)))] H := hP
  have hD : va_D A [(h0, .inr (8, [.ref q7, .ref q15, .ref q22, .int 0, .int 0, .int 0])), (q7, .inl (cy 0, 8, .inl (fun _ => 0))), (q15, .inl (cy 0, 10, .inl (fun _ => 0))), (q22, .inl (cy 0, 4, .inl (fun _ => 0)))] := hD
  refine lv_aload_n hx hb dX8_init_27 rfl (lv_at hl 0 rfl) ?_
  refine lv_iconst (v := 0) hx hb dX8_init_28 (by decide +kernel) ?_
  refine k_put hx hb hts hown hK hP hD hS fp_RX8_21 0 rfl (Nat.le_of_ble_eq_true rfl) rfl rfl dX8_init_29 (fun H locs hP hD hS => ?_)
  have hP : va_P D vwCl [(h0, .inr (8, [.ref q7, .ref q15, .ref q22, .int 0, .int 0, .int 0])), (q7, .inl (cy 0, 8, .inl (fun _ => 0))), (q15, .inl (cy 0, 10, .inl (fun _ => 0))), (q22, .inl (cy 0, 4, .inl (fun _ => 0)))] H := hP
  have hD : va_D A [(h0, .inr (8, [.ref q7, .ref q15, .ref q22, .int 0, .int 0, .int 0])), (q7, .inl (cy 0, 8, .inl (fun _ => 0))), (q15, .inl (cy 0, 10, .inl (fun _ => 0))), (q22, .inl (cy 0, 4, .inl (fun _ => 0)))] := hD
  refine lv_aload_n hx hb dX8_init_32 rfl (lv_at hl 0 rfl) ?_
  refine lv_iconst (v := 0) hx hb dX8_init_33 (by decide +kernel) ?_
  refine k_put hx hb hts hown hK hP hD hS fp_RX8_25 0 rfl (Nat.le_of_ble_eq_true rfl) rfl rfl dX8_init_34 (fun H locs hP hD hS => ?_)
  have hP : va_P D vwCl [(h0, .inr (8, [.ref q7, .ref q15, .ref q22, .int 0, .int 0, .int 0])), (q7, .inl (cy 0, 8, .inl (fun _ => 0))), (q15, .inl (cy 0, 10, .inl (fun _ => 0))), (q22, .inl (cy 0, 4, .inl (fun _ => 0)))] H := hP
  have hD : va_D A [(h0, .inr (8, [.ref q7, .ref q15, .ref q22, .int 0, .int 0, .int 0])), (q7, .inl (cy 0, 8, .inl (fun _ => 0))), (q15, .inl (cy 0, 10, .inl (fun _ => 0))), (q22, .inl (cy 0, 4, .inl (fun _ => 0)))] := hD
  refine lv_aload_n hx hb dX8_init_37 rfl (lv_at hl 0 rfl) ?_
  refine lv_iconst (v := 0) hx hb dX8_init_38 (by decide +kernel) ?_
  refine k_put hx hb hts hown hK hP hD hS fp_RX8_28 0 rfl (Nat.le_of_ble_eq_true rfl) rfl rfl dX8_init_39 (fun H locs hP hD hS => ?_)
  have hP : va_P D vwCl [(h0, .inr (8, [.ref q7, .ref q15, .ref q22, .int 0, .int 0, .int 0])), (q7, .inl (cy 0, 8, .inl (fun _ => 0))), (q15, .inl (cy 0, 10, .inl (fun _ => 0))), (q22, .inl (cy 0, 4, .inl (fun _ => 0)))] H := hP
  have hD : va_D A [(h0, .inr (8, [.ref q7, .ref q15, .ref q22, .int 0, .int 0, .int 0])), (q7, .inl (cy 0, 8, .inl (fun _ => 0))), (q15, .inl (cy 0, 10, .inl (fun _ => 0))), (q22, .inl (cy 0, 4, .inl (fun _ => 0)))] := hD
  have hP9 := hP.sub (ws' := [(h0, .inr (8, [.ref q7, .ref q15, .ref q22, .int 0, .int 0, .int 0])), (q7, .inl (cy 0, 8, .inl (fun _ => 0))), (q15, .inl (cy 0, 10, .inl (fun _ => 0))), (q22, .inl (cy 0, 4, .inl (fun _ => 0)))]) [0, 1, 2, 3] rfl
  have hD9 := hD.sub (ws' := [(h0, .inr (8, [.ref q7, .ref q15, .ref q22, .int 0, .int 0, .int 0])), (q7, .inl (cy 0, 8, .inl (fun _ => 0))), (q15, .inl (cy 0, 10, .inl (fun _ => 0))), (q22, .inl (cy 0, 4, .inl (fun _ => 0)))]) [0, 1, 2, 3] (by decide) rfl
  have hK9 := hK.sub (tys' := []) [] rfl
  exact W.vret hx hb hr (fun t ht hW => ⟨⟨adL [h0, q7, q15, q22], rfl, rfl, by rw [ht]; exact hP9, va_K.moved hW.alike hK9, hD9⟩, hS.F ht⟩) hS.2.2 dX8_init_42 hlocks
set_option maxHeartbeats 4000000 in
set_option maxRecDepth 100000 in
theorem c_X2_init (l : Launch) (D : va_G) (cy : Nat → ClassId) (h0 : Nat) (sz : Nat) : Met l yX2_init (xws yX2_init cX2_init 1 none) ({ frames := 1, cells := 3, slots := 42, locals := 24 }) (va_Pc [.ref h0] (fun U => U.heap.size = sz ∧ va_P D vwCl [(h0, .inr (2, [.null, .null, .null, .int 0]))] U.heap ∧ va_K D vwCl [] U ∧ va_D (fun _ => True) [(h0, .inr (2, [.null, .null, .null, .int 0]))] ∧ kX cy U)) (va_Qv (fun u : Nat → Nat => u 0 = h0) (fun u t => va_P D vwCl [((u 0), .inr (2, [.ref (u 1), .ref (u 2), .ref (u 3), .int 0])), ((u 1), .inl (cy 0, 14, .inl (fun _ => 0))), ((u 2), .inl (cy 0, 14, .inl (fun _ => 0))), ((u 3), .inl (cy 0, 14, .inl (fun _ => 0)))] t.heap ∧ va_K D vwCl [] t ∧ va_D (va_A [(h0, .inr (2, [.null, .null, .null, .int 0]))] sz) [((u 0), .inr (2, [.ref (u 1), .ref (u 2), .ref (u 3), .int 0])), ((u 1), .inl (cy 0, 14, .inl (fun _ => 0))), ((u 2), .inl (cy 0, 14, .inl (fun _ => 0))), ((u 3), .inl (cy 0, 14, .inl (fun _ => 0)))]) (va_A [(h0, .inr (2, [.null, .null, .null, .int 0]))] sz)) 3 42 (va_A [(h0, .inr (2, [.null, .null, .null, .int 0]))] sz) := by
  refine Met.ofW (cc := cX2_init) (maxL := 1) (ret := none) (by decide) rfl ?_
  intro p e s m args below meth c s₁ B hml hv
  obtain ⟨rfl, hsz, hP, hK, hD0, hk⟩ := hv
  have hx := B.exec
  have hb := B.bytes
  have hr := B.returns
  have hts : ∀ w ∈ lw_g, w.before _ s = true := fun w hw => atoms_spec (ws := xws yX2_init cX2_init 1 none) B.pre w (List.mem_cons_of_mem _ hw)
  have hown : s.vm.findClass RX2 = some m.cls := findClass_of_methodNamed B.named
  have hlocks := B.notSynchronized
  have hin : meth.name = "<init>" := (name_of_methodNamed B.named B.method).1
  subst hsz
  have hD := hD0.self (sz := s.heap.size)
  generalize hAe : va_A [(h0, .inr (2, [.null, .null, .null, .int 0]))] s.heap.size = A at hD ⊢
  have hA : ∀ q : Nat, s.heap.size ≤ q → A q := fun q h => by rw [← hAe]; exact Or.inr h
  have hS : va_S A s.heap s.heap [] := va_S.rf
  have hP : va_P D vwCl [(h0, .inr (2, [.null, .null, .null, .int 0]))] s.heap := hP
  have hl := lv_entry ([.ref h0] : List Value) (n := 1) (Nat.le_of_ble_eq_true rfl)
  rw [lg_entry_eq]
  generalize (lg_sl [.ref h0] ++ List.replicate (1 - (lg_sl [.ref h0]).length) Slot.unset).toArray = ls at hl ⊢
  have hl : lv_has ls 1 [(0, .ref h0)] := hl
  refine lv_aload_n hx hb dX2_init_0 rfl (lv_at hl 0 rfl) ?_
  refine W.objInit hx hb hown (hts _ qo_RX2) (hts _ qo_inst) (hts _ qo_code) rfl (by rw [hml]; exact hl.1.trans rfl) rfl dX2_init_1 (Nat.le_of_ble_eq_true rfl) (Nat.le_of_ble_eq_true rfl) ?_
  refine W.eq (g2 := F0 m 4 ls []) rfl ?_
  refine lv_aload_n hx hb dX2_init_4 rfl (lv_at hl 0 rfl) ?_
  refine lv_bipush (v := 14) hx hb dX2_init_5 (by decide +kernel) ?_
  refine k_newI (N := 14) hx hb (hts _ qa_int) hk hK hP hD hS hA (by decide +kernel) (by decide +kernel) (by decide +kernel) (by show 0 + 1 ≤ 3; omega) (by show 0 + 14 ≤ 42; omega) dX2_init_7 (fun q7 H hK hP hD hS => ?_)
  have hP : va_P D vwCl [(h0, .inr (2, [.null, .null, .null, .int 0])), (q7, .inl (cy 0, 14, .inl (fun _ => 0)))] H := hP
  have hD : va_D A [(h0, .inr (2, [.null, .null, .null, .int 0])), (q7, .inl (cy 0, 14, .inl (fun _ => 0)))] := hD
  refine W.widen (k := 1) (n := 14) (by omega) (by omega) ?_
  refine k_putF hx hb hts hown hin hK hP hD hS ff_RX2_9 0 rfl (Nat.le_of_ble_eq_true rfl) rfl rfl dX2_init_9 (fun H locs hP hD hS => ?_)
  have hP : va_P D vwCl [(h0, .inr (2, [.ref q7, .null, .null, .int 0])), (q7, .inl (cy 0, 14, .inl (fun _ => 0)))] H := hP
  have hD : va_D A [(h0, .inr (2, [.ref q7, .null, .null, .int 0])), (q7, .inl (cy 0, 14, .inl (fun _ => 0)))] := hD
  refine lv_aload_n hx hb dX2_init_12 rfl (lv_at hl 0 rfl) ?_
  refine lv_bipush (v := 14) hx hb dX2_init_13 (by decide +kernel) ?_
  refine k_newI (N := 14) hx hb (hts _ qa_int) hk hK hP hD hS hA (by decide +kernel) (by decide +kernel) (by decide +kernel) (by show 1 + 1 ≤ 3; omega) (by show 14 + 14 ≤ 42; omega) dX2_init_15 (fun q15 H hK hP hD hS => ?_)
  have hP : va_P D vwCl [(h0, .inr (2, [.ref q7, .null, .null, .int 0])), (q7, .inl (cy 0, 14, .inl (fun _ => 0))), (q15, .inl (cy 0, 14, .inl (fun _ => 0)))] H := hP
  have hD : va_D A [(h0, .inr (2, [.ref q7, .null, .null, .int 0])), (q7, .inl (cy 0, 14, .inl (fun _ => 0))), (q15, .inl (cy 0, 14, .inl (fun _ => 0)))] := hD
  refine W.widen (k := 2) (n := 28) (by omega) (by omega) ?_
  refine k_putF hx hb hts hown hin hK hP hD hS ff_RX2_15 0 rfl (Nat.le_of_ble_eq_true rfl) rfl rfl dX2_init_17 (fun H locs hP hD hS => ?_)
  have hP : va_P D vwCl [(h0, .inr (2, [.ref q7, .ref q15, .null, .int 0])), (q7, .inl (cy 0, 14, .inl (fun _ => 0))), (q15, .inl (cy 0, 14, .inl (fun _ => 0)))] H := hP
  have hD : va_D A [(h0, .inr (2, [.ref q7, .ref q15, .null, .int 0])), (q7, .inl (cy 0, 14, .inl (fun _ => 0))), (q15, .inl (cy 0, 14, .inl (fun _ => 0)))] := hD
  refine lv_aload_n hx hb dX2_init_20 rfl (lv_at hl 0 rfl) ?_
  refine lv_bipush (v := 14) hx hb dX2_init_21 (by decide +kernel) ?_
  refine k_newI (N := 14) hx hb (hts _ qa_int) hk hK hP hD hS hA (by decide +kernel) (by decide +kernel) (by decide +kernel) (by show 2 + 1 ≤ 3; omega) (by show 28 + 14 ≤ 42; omega) dX2_init_23 (fun q23 H hK hP hD hS => ?_)
  have hP : va_P D vwCl [(h0, .inr (2, [.ref q7, .ref q15, .null, .int 0])), (q7, .inl (cy 0, 14, .inl (fun _ => 0))), (q15, .inl (cy 0, 14, .inl (fun _ => 0))), (q23, .inl (cy 0, 14, .inl (fun _ => 0)))] H := hP
  have hD : va_D A [(h0, .inr (2, [.ref q7, .ref q15, .null, .int 0])), (q7, .inl (cy 0, 14, .inl (fun _ => 0))), (q15, .inl (cy 0, 14, .inl (fun _ => 0))), (q23, .inl (cy 0, 14, .inl (fun _ => 0)))] := hD
  refine W.widen (k := 3) (n := 42) (by omega) (by omega) ?_
  refine k_putF hx hb hts hown hin hK hP hD hS ff_RX2_18 0 rfl (Nat.le_of_ble_eq_true rfl) rfl rfl dX2_init_25 (fun H locs hP hD hS => ?_)
  have hP : va_P D vwCl [(h0, .inr (2, [.ref q7, .ref q15, .ref q23, .int 0])), (q7, .inl (cy 0, 14, .inl (fun _ => 0))), (q15, .inl (cy 0, 14, .inl (fun _ => 0))), (q23, .inl (cy 0, 14, .inl (fun _ => 0)))] H := hP
  have hD : va_D A [(h0, .inr (2, [.ref q7, .ref q15, .ref q23, .int 0])), (q7, .inl (cy 0, 14, .inl (fun _ => 0))), (q15, .inl (cy 0, 14, .inl (fun _ => 0))), (q23, .inl (cy 0, 14, .inl (fun _ => 0)))] := hD
  refine lv_aload_n hx hb dX2_init_28 rfl (lv_at hl 0 rfl) ?_
  refine lv_iconst (v := 0) hx hb dX2_init_29 (by decide +kernel) ?_
  refine k_put hx hb hts hown hK hP hD hS fp_RX2_21 0 rfl (Nat.le_of_ble_eq_true rfl) rfl rfl dX2_init_30 (fun H locs hP hD hS => ?_)
  have hP : va_P D vwCl [(h0, .inr (2, [.ref q7, .ref q15, .ref q23, .int 0])), (q7, .inl (cy 0, 14, .inl (fun _ => 0))), (q15, .inl (cy 0, 14, .inl (fun _ => 0))), (q23, .inl (cy 0, 14, .inl (fun _ => 0)))] H := hP
  have hD : va_D A [(h0, .inr (2, [.ref q7, .ref q15, .ref q23, .int 0])), (q7, .inl (cy 0, 14, .inl (fun _ => 0))), (q15, .inl (cy 0, 14, .inl (fun _ => 0))), (q23, .inl (cy 0, 14, .inl (fun _ => 0)))] := hD
  have hP9 := hP.sub (ws' := [(h0, .inr (2, [.ref q7, .ref q15, .ref q23, .int 0])), (q7, .inl (cy 0, 14, .inl (fun _ => 0))), (q15, .inl (cy 0, 14, .inl (fun _ => 0))), (q23, .inl (cy 0, 14, .inl (fun _ => 0)))]) [0, 1, 2, 3] rfl
  have hD9 := hD.sub (ws' := [(h0, .inr (2, [.ref q7, .ref q15, .ref q23, .int 0])), (q7, .inl (cy 0, 14, .inl (fun _ => 0))), (q15, .inl (cy 0, 14, .inl (fun _ => 0))), (q23, .inl (cy 0, 14, .inl (fun _ => 0)))]) [0, 1, 2, 3] (by decide) rfl
  have hK9 := hK.sub (tys' := []) [] rfl
  exact W.vret hx hb hr (fun t ht hW => ⟨⟨adL [h0, q7, q15, q23], rfl, rfl, by rw [ht]; exact hP9, va_K.moved hW.alike hK9, hD9⟩, hS.F ht⟩) hS.2.2 dX2_init_33 hlocks
set_option maxHeartbeats 4000000 in
set_option maxRecDepth 100000 in
theorem c_X1_init (l : Launch) (D : va_G) (cy : Nat → ClassId) (h0 : Nat) (sz : Nat) : Met l yX1_init (xws yX1_init cX1_init 1 none) ({ frames := 2, cells := 0, slots := 0, locals := 56 }) (va_Pc [.ref h0] (fun U => U.heap.size = sz ∧ va_P D vwCl [(h0, .inr (1, []))] U.heap ∧ va_K D vwCl [] U ∧ va_D (fun _ => True) [(h0, .inr (1, []))] ∧ kX cy U)) (va_Qv (fun u : Nat → Nat => u 0 = h0) (fun u t => va_P D vwCl [((u 0), .inr (1, []))] t.heap ∧ va_K D vwCl [] t ∧ va_D (va_A [(h0, .inr (1, []))] sz) [((u 0), .inr (1, []))]) (va_A [(h0, .inr (1, []))] sz)) 0 0 (va_A [(h0, .inr (1, []))] sz) := by
  refine Met.ofW (cc := cX1_init) (maxL := 1) (ret := none) (by decide) rfl ?_
  intro p e s m args below meth c s₁ B hml hv
  obtain ⟨rfl, hsz, hP, hK, hD0, hk⟩ := hv
  have hx := B.exec
  have hb := B.bytes
  have hr := B.returns
  have hts : ∀ w ∈ lw_g, w.before _ s = true := fun w hw => atoms_spec (ws := xws yX1_init cX1_init 1 none) B.pre w (List.mem_cons_of_mem _ hw)
  have hown : s.vm.findClass RX1 = some m.cls := findClass_of_methodNamed B.named
  have hlocks := B.notSynchronized
  have hin : meth.name = "<init>" := (name_of_methodNamed B.named B.method).1
  subst hsz
  have hD := hD0.self (sz := s.heap.size)
  generalize hAe : va_A [(h0, .inr (1, []))] s.heap.size = A at hD ⊢
  have hA : ∀ q : Nat, s.heap.size ≤ q → A q := fun q h => by rw [← hAe]; exact Or.inr h
  have hS : va_S A s.heap s.heap [] := va_S.rf
  have hP : va_P D vwCl [(h0, .inr (1, []))] s.heap := hP
  have hl := lv_entry ([.ref h0] : List Value) (n := 1) (Nat.le_of_ble_eq_true rfl)
  rw [lg_entry_eq]
  generalize (lg_sl [.ref h0] ++ List.replicate (1 - (lg_sl [.ref h0]).length) Slot.unset).toArray = ls at hl ⊢
  have hl : lv_has ls 1 [(0, .ref h0)] := hl
  refine lv_aload_n hx hb dX1_init_0 rfl (lv_at hl 0 rfl) ?_
  have hPc := hP.sub (ws' := []) [] rfl
  have hDc := hD.sub (ws' := []) [] (by decide) rfl
  have hKc := hK.sub (tys' := []) [] rfl
  have hFc := va_free (wc := []) hD hS hA [] rfl
  refine va_callv (va_runIN (Ts := lw_g) (As := []) (rest := []) ⟨hx, hb, hml, hown, hts⟩ (c_X9_init l D cy h0 s.heap.size) ⟨va_cnB 0 hts (g_goodx qc_X9_init) rfl rfl rfl (hk.2.2.2.2.2.2.2.2.1) (hts _ qi_RX9) ⟨by decide, by decide, by decide⟩ ⟨Nat.le_of_ble_eq_true rfl, Nat.le_of_ble_eq_true rfl⟩, rfl, hts _ qm_X9_init⟩ ⟨fun a U g mk q => by obtain ⟨q0, q1, qP, qK, qD, qX⟩ := q; exact ⟨q0, q1, qP, va_K.moved (u := U) (U := U.calling g mk a) (Vm.Alike.refl U.vm) qK, qD, kX_same rfl qX⟩, fun U hU hW => ⟨rfl, by rw [hU], by rw [hU]; exact hPc, va_K.moved hW.alike hKc, hDc.weaken (fun _ _ _ _ => trivial), kX_warm hW hk⟩⟩ rfl rfl hl.1 rfl (lv_room (Nat.le_of_ble_eq_true rfl)) dX1_init_1 ⟨by show 0 + 0 ≤ 0; omega, by show 0 + 0 ≤ 0; omega⟩) hS (fun q _ h => hFc q h) hFc (fun u1 t H1 locs ht hvm hw hB hz1 hk1 hS => ?_)
  obtain ⟨hP1, hK1, hD1⟩ := hB
  rw [ht] at hP1
  have hK1 := va_K.moved hvm.symm hK1
  obtain ⟨hP, hD⟩ := va_join (wr := [(h0, .inr (1, []))]) (w1 := []) hP hD [] [0] rfl rfl (by decide) (by decide) hk1 hFc hP1 hD1
  have hK := hK.app hK1
  generalize H1 = H at hP hS ⊢
  have hP : va_P D vwCl [(h0, .inr (1, []))] H := hP
  have hD : va_D A [(h0, .inr (1, []))] := hD
  refine W.widen (k := 0) (n := 0) (by omega) (by omega) ?_
  have hP9 := hP.sub (ws' := [(h0, .inr (1, []))]) [0] rfl
  have hD9 := hD.sub (ws' := [(h0, .inr (1, []))]) [0] (by decide) rfl
  have hK9 := hK.sub (tys' := []) [] rfl
  exact W.vret hx hb hr (fun t ht hW => ⟨⟨adL [h0], rfl, rfl, by rw [ht]; exact hP9, va_K.moved hW.alike hK9, hD9⟩, hS.F ht⟩) hS.2.2 dX1_init_4 hlocks
set_option maxHeartbeats 4000000 in
set_option maxRecDepth 100000 in
theorem c_X10_init (l : Launch) (D : va_G) (cy : Nat → ClassId) (h0 w0 : Nat) (sz : Nat) : Met l yX10_init (xws yX10_init cX10_init 2 none) ({ frames := 2, cells := 0, slots := 0, locals := 56 }) (va_Pc [.ref h0, .ref w0] (fun U => U.heap.size = sz ∧ va_P D vwCl [(h0, .inr (9, [.null]))] U.heap ∧ va_K D vwCl [] U ∧ va_D (fun _ => True) [(h0, .inr (9, [.null]))] ∧ kX cy U)) (va_Qv (fun u : Nat → Nat => u 0 = h0) (fun u t => va_P D vwCl [((u 0), .inr (9, [.ref w0]))] t.heap ∧ va_K D vwCl [] t ∧ va_D (va_A [(h0, .inr (9, [.null]))] sz) [((u 0), .inr (9, [.ref w0]))]) (va_A [(h0, .inr (9, [.null]))] sz)) 0 0 (va_A [(h0, .inr (9, [.null]))] sz) := by
  refine Met.ofW (cc := cX10_init) (maxL := 2) (ret := none) (by decide) rfl ?_
  intro p e s m args below meth c s₁ B hml hv
  obtain ⟨rfl, hsz, hP, hK, hD0, hk⟩ := hv
  have hx := B.exec
  have hb := B.bytes
  have hr := B.returns
  have hts : ∀ w ∈ lw_g, w.before _ s = true := fun w hw => atoms_spec (ws := xws yX10_init cX10_init 2 none) B.pre w (List.mem_cons_of_mem _ hw)
  have hown : s.vm.findClass RX10 = some m.cls := findClass_of_methodNamed B.named
  have hlocks := B.notSynchronized
  have hin : meth.name = "<init>" := (name_of_methodNamed B.named B.method).1
  subst hsz
  have hD := hD0.self (sz := s.heap.size)
  generalize hAe : va_A [(h0, .inr (9, [.null]))] s.heap.size = A at hD ⊢
  have hA : ∀ q : Nat, s.heap.size ≤ q → A q := fun q h => by rw [← hAe]; exact Or.inr h
  have hS : va_S A s.heap s.heap [] := va_S.rf
  have hP : va_P D vwCl [(h0, .inr (9, [.null]))] s.heap := hP
  have hl := lv_entry ([.ref h0, .ref w0] : List Value) (n := 2) (Nat.le_of_ble_eq_true rfl)
  rw [lg_entry_eq]
  generalize (lg_sl [.ref h0, .ref w0] ++ List.replicate (2 - (lg_sl [.ref h0, .ref w0]).length) Slot.unset).toArray = ls at hl ⊢
  have hl : lv_has ls 2 [(0, .ref h0), (1, .ref w0)] := hl
  refine lv_aload_n hx hb dX10_init_0 rfl (lv_at hl 0 rfl) ?_
  have hPc := hP.sub (ws' := []) [] rfl
  have hDc := hD.sub (ws' := []) [] (by decide) rfl
  have hKc := hK.sub (tys' := []) [] rfl
  have hFc := va_free (wc := []) hD hS hA [] rfl
  refine va_callv (va_runIN (Ts := lw_g) (As := []) (rest := []) ⟨hx, hb, hml, hown, hts⟩ (c_X9_init l D cy h0 s.heap.size) ⟨va_cnB 0 hts (g_goodx qc_X9_init) rfl rfl rfl (hk.2.2.2.2.2.2.2.2.2.1) (hts _ qi_RX9) ⟨by decide, by decide, by decide⟩ ⟨Nat.le_of_ble_eq_true rfl, Nat.le_of_ble_eq_true rfl⟩, rfl, hts _ qm_X9_init⟩ ⟨fun a U g mk q => by obtain ⟨q0, q1, qP, qK, qD, qX⟩ := q; exact ⟨q0, q1, qP, va_K.moved (u := U) (U := U.calling g mk a) (Vm.Alike.refl U.vm) qK, qD, kX_same rfl qX⟩, fun U hU hW => ⟨rfl, by rw [hU], by rw [hU]; exact hPc, va_K.moved hW.alike hKc, hDc.weaken (fun _ _ _ _ => trivial), kX_warm hW hk⟩⟩ rfl rfl hl.1 rfl (lv_room (Nat.le_of_ble_eq_true rfl)) dX10_init_1 ⟨by show 0 + 0 ≤ 0; omega, by show 0 + 0 ≤ 0; omega⟩) hS (fun q _ h => hFc q h) hFc (fun u1 t H1 locs ht hvm hw hB hz1 hk1 hS => ?_)
  obtain ⟨hP1, hK1, hD1⟩ := hB
  rw [ht] at hP1
  have hK1 := va_K.moved hvm.symm hK1
  obtain ⟨hP, hD⟩ := va_join (wr := [(h0, .inr (9, [.null]))]) (w1 := []) hP hD [] [0] rfl rfl (by decide) (by decide) hk1 hFc hP1 hD1
  have hK := hK.app hK1
  generalize H1 = H at hP hS ⊢
  have hP : va_P D vwCl [(h0, .inr (9, [.null]))] H := hP
  have hD : va_D A [(h0, .inr (9, [.null]))] := hD
  refine W.widen (k := 0) (n := 0) (by omega) (by omega) ?_
  refine lv_aload_n hx hb dX10_init_4 rfl (lv_at hl 0 rfl) ?_
  refine lv_aload_n hx hb dX10_init_5 rfl (lv_at hl 1 rfl) ?_
  refine k_putF hx hb hts hown hin hK hP hD hS ff_RX10_7 0 rfl (Nat.le_of_ble_eq_true rfl) rfl rfl dX10_init_6 (fun H locs hP hD hS => ?_)
  have hP : va_P D vwCl [(h0, .inr (9, [.ref w0]))] H := hP
  have hD : va_D A [(h0, .inr (9, [.ref w0]))] := hD
  have hP9 := hP.sub (ws' := [(h0, .inr (9, [.ref w0]))]) [0] rfl
  have hD9 := hD.sub (ws' := [(h0, .inr (9, [.ref w0]))]) [0] (by decide) rfl
  have hK9 := hK.sub (tys' := []) [] rfl
  exact W.vret hx hb hr (fun t ht hW => ⟨⟨adL [h0], rfl, rfl, by rw [ht]; exact hP9, va_K.moved hW.alike hK9, hD9⟩, hS.F ht⟩) hS.2.2 dX10_init_9 hlocks
set_option maxHeartbeats 4000000 in
set_option maxRecDepth 100000 in
theorem c_X3_init (l : Launch) (D : va_G) (cy : Nat → ClassId) (h0 : Nat) (sz : Nat) : Met l yX3_init (xws yX3_init cX3_init 1 none) ({ frames := 2, cells := 1, slots := 10, locals := 56 }) (va_Pc [.ref h0] (fun U => U.heap.size = sz ∧ va_P D vwCl [(h0, .inr (3, [.null]))] U.heap ∧ va_K D vwCl [] U ∧ va_D (fun _ => True) [(h0, .inr (3, [.null]))] ∧ kX cy U)) (va_Qv (fun u : Nat → Nat => u 0 = h0) (fun u t => va_P D vwCl [((u 0), .inr (3, [.ref (u 1)])), ((u 1), .inl (cy 1, 10, .inr (.inl (fun _ => 0))))] t.heap ∧ va_K D vwCl [] t ∧ va_D (va_A [(h0, .inr (3, [.null]))] sz) [((u 0), .inr (3, [.ref (u 1)])), ((u 1), .inl (cy 1, 10, .inr (.inl (fun _ => 0))))]) (va_A [(h0, .inr (3, [.null]))] sz)) 1 10 (va_A [(h0, .inr (3, [.null]))] sz) := by
  refine Met.ofW (cc := cX3_init) (maxL := 1) (ret := none) (by decide) rfl ?_
  intro p e s m args below meth c s₁ B hml hv
  obtain ⟨rfl, hsz, hP, hK, hD0, hk⟩ := hv
  have hx := B.exec
  have hb := B.bytes
  have hr := B.returns
  have hts : ∀ w ∈ lw_g, w.before _ s = true := fun w hw => atoms_spec (ws := xws yX3_init cX3_init 1 none) B.pre w (List.mem_cons_of_mem _ hw)
  have hown : s.vm.findClass RX3 = some m.cls := findClass_of_methodNamed B.named
  have hlocks := B.notSynchronized
  have hin : meth.name = "<init>" := (name_of_methodNamed B.named B.method).1
  subst hsz
  have hD := hD0.self (sz := s.heap.size)
  generalize hAe : va_A [(h0, .inr (3, [.null]))] s.heap.size = A at hD ⊢
  have hA : ∀ q : Nat, s.heap.size ≤ q → A q := fun q h => by rw [← hAe]; exact Or.inr h
  have hS : va_S A s.heap s.heap [] := va_S.rf
  have hP : va_P D vwCl [(h0, .inr (3, [.null]))] s.heap := hP
  have hl := lv_entry ([.ref h0] : List Value) (n := 1) (Nat.le_of_ble_eq_true rfl)
  rw [lg_entry_eq]
  generalize (lg_sl [.ref h0] ++ List.replicate (1 - (lg_sl [.ref h0]).length) Slot.unset).toArray = ls at hl ⊢
  have hl : lv_has ls 1 [(0, .ref h0)] := hl
  refine lv_aload_n hx hb dX3_init_0 rfl (lv_at hl 0 rfl) ?_
  have hPc := hP.sub (ws' := []) [] rfl
  have hDc := hD.sub (ws' := []) [] (by decide) rfl
  have hKc := hK.sub (tys' := []) [] rfl
  have hFc := va_free (wc := []) hD hS hA [] rfl
  refine va_callv (va_runIN (Ts := lw_g) (As := []) (rest := []) ⟨hx, hb, hml, hown, hts⟩ (c_X9_init l D cy h0 s.heap.size) ⟨va_cnB 0 hts (g_goodx qc_X9_init) rfl rfl rfl (hk.2.2.2.2.2.2.2.2.2.2.2) (hts _ qi_RX9) ⟨by decide, by decide, by decide⟩ ⟨Nat.le_of_ble_eq_true rfl, Nat.le_of_ble_eq_true rfl⟩, rfl, hts _ qm_X9_init⟩ ⟨fun a U g mk q => by obtain ⟨q0, q1, qP, qK, qD, qX⟩ := q; exact ⟨q0, q1, qP, va_K.moved (u := U) (U := U.calling g mk a) (Vm.Alike.refl U.vm) qK, qD, kX_same rfl qX⟩, fun U hU hW => ⟨rfl, by rw [hU], by rw [hU]; exact hPc, va_K.moved hW.alike hKc, hDc.weaken (fun _ _ _ _ => trivial), kX_warm hW hk⟩⟩ rfl rfl hl.1 rfl (lv_room (Nat.le_of_ble_eq_true rfl)) dX3_init_1 ⟨by show 0 + 0 ≤ 1; omega, by show 0 + 0 ≤ 10; omega⟩) hS (fun q _ h => hFc q h) hFc (fun u1 t H1 locs ht hvm hw hB hz1 hk1 hS => ?_)
  obtain ⟨hP1, hK1, hD1⟩ := hB
  rw [ht] at hP1
  have hK1 := va_K.moved hvm.symm hK1
  obtain ⟨hP, hD⟩ := va_join (wr := [(h0, .inr (3, [.null]))]) (w1 := []) hP hD [] [0] rfl rfl (by decide) (by decide) hk1 hFc hP1 hD1
  have hK := hK.app hK1
  generalize H1 = H at hP hS ⊢
  have hP : va_P D vwCl [(h0, .inr (3, [.null]))] H := hP
  have hD : va_D A [(h0, .inr (3, [.null]))] := hD
  refine W.widen (k := 0) (n := 0) (by omega) (by omega) ?_
  refine lv_aload_n hx hb dX3_init_4 rfl (lv_at hl 0 rfl) ?_
  refine lv_bipush (v := 10) hx hb dX3_init_5 (by decide +kernel) ?_
  refine k_newJ (N := 10) hx hb (hts _ qa_long) hk hK hP hD hS hA (by decide +kernel) (by decide +kernel) (by decide +kernel) (by show 0 + 1 ≤ 1; omega) (by show 0 + 10 ≤ 10; omega) dX3_init_7 (fun q7 H hK hP hD hS => ?_)
  have hP : va_P D vwCl [(h0, .inr (3, [.null])), (q7, .inl (cy 1, 10, .inr (.inl (fun _ => 0))))] H := hP
  have hD : va_D A [(h0, .inr (3, [.null])), (q7, .inl (cy 1, 10, .inr (.inl (fun _ => 0))))] := hD
  refine W.widen (k := 1) (n := 10) (by omega) (by omega) ?_
  refine k_putF hx hb hts hown hin hK hP hD hS ff_RX3_9 0 rfl (Nat.le_of_ble_eq_true rfl) rfl rfl dX3_init_9 (fun H locs hP hD hS => ?_)
  have hP : va_P D vwCl [(h0, .inr (3, [.ref q7])), (q7, .inl (cy 1, 10, .inr (.inl (fun _ => 0))))] H := hP
  have hD : va_D A [(h0, .inr (3, [.ref q7])), (q7, .inl (cy 1, 10, .inr (.inl (fun _ => 0))))] := hD
  have hP9 := hP.sub (ws' := [(h0, .inr (3, [.ref q7])), (q7, .inl (cy 1, 10, .inr (.inl (fun _ => 0))))]) [0, 1] rfl
  have hD9 := hD.sub (ws' := [(h0, .inr (3, [.ref q7])), (q7, .inl (cy 1, 10, .inr (.inl (fun _ => 0))))]) [0, 1] (by decide) rfl
  have hK9 := hK.sub (tys' := []) [] rfl
  exact W.vret hx hb hr (fun t ht hW => ⟨⟨adL [h0, q7], rfl, rfl, by rw [ht]; exact hP9, va_K.moved hW.alike hK9, hD9⟩, hS.F ht⟩) hS.2.2 dX3_init_12 hlocks
set_option maxHeartbeats 4000000 in
set_option maxRecDepth 100000 in
theorem c_X7_init (l : Launch) (D : va_G) (cy : Nat → ClassId) (h0 : Nat) (sz : Nat) : Met l yX7_init (xws yX7_init cX7_init 1 none) ({ frames := 2, cells := 10, slots := 303, locals := 56 }) (va_Pc [.ref h0] (fun U => U.heap.size = sz ∧ va_P D vwCl [(h0, .inr (7, [.null, .null, .null, .int 0, .int 0, .int 0]))] U.heap ∧ va_K D vwCl [] U ∧ va_D (fun _ => True) [(h0, .inr (7, [.null, .null, .null, .int 0, .int 0, .int 0]))] ∧ kX cy U)) (va_Qv (fun u : Nat → Nat => u 0 = h0) (fun u t => va_P D vwCl [((u 0), .inr (7, [.ref (u 1), .ref (u 2), .ref (u 7), .int 0, .int 0, .int 0])), ((u 1), .inl (cy 0, 180, .inl (fun _ => 0))), ((u 2), .inr (5, [.ref (u 3), .ref (u 4), .ref (u 5), .ref (u 6), .int 0])), ((u 3), .inl (cy 0, 10, .inl (fun _ => 0))), ((u 4), .inl (cy 0, 10, .inl (fun _ => 0))), ((u 5), .inl (cy 1, 10, .inr (.inl (fun _ => 0)))), ((u 6), .inl (cy 0, 60, .inl (fun _ => 0))), ((u 7), .inr (8, [.ref (u 8), .ref (u 9), .ref (u 10), .int 0, .int 0, .int 0])), ((u 8), .inl (cy 0, 8, .inl (fun _ => 0))), ((u 9), .inl (cy 0, 10, .inl (fun _ => 0))), ((u 10), .inl (cy 0, 4, .inl (fun _ => 0)))] t.heap ∧ va_K D vwCl [] t ∧ va_D (va_A [(h0, .inr (7, [.null, .null, .null, .int 0, .int 0, .int 0]))] sz) [((u 0), .inr (7, [.ref (u 1), .ref (u 2), .ref (u 7), .int 0, .int 0, .int 0])), ((u 1), .inl (cy 0, 180, .inl (fun _ => 0))), ((u 2), .inr (5, [.ref (u 3), .ref (u 4), .ref (u 5), .ref (u 6), .int 0])), ((u 3), .inl (cy 0, 10, .inl (fun _ => 0))), ((u 4), .inl (cy 0, 10, .inl (fun _ => 0))), ((u 5), .inl (cy 1, 10, .inr (.inl (fun _ => 0)))), ((u 6), .inl (cy 0, 60, .inl (fun _ => 0))), ((u 7), .inr (8, [.ref (u 8), .ref (u 9), .ref (u 10), .int 0, .int 0, .int 0])), ((u 8), .inl (cy 0, 8, .inl (fun _ => 0))), ((u 9), .inl (cy 0, 10, .inl (fun _ => 0))), ((u 10), .inl (cy 0, 4, .inl (fun _ => 0)))]) (va_A [(h0, .inr (7, [.null, .null, .null, .int 0, .int 0, .int 0]))] sz)) 10 303 (va_A [(h0, .inr (7, [.null, .null, .null, .int 0, .int 0, .int 0]))] sz) := by
  refine Met.ofW (cc := cX7_init) (maxL := 1) (ret := none) (by decide) rfl ?_
  intro p e s m args below meth c s₁ B hml hv
  obtain ⟨rfl, hsz, hP, hK, hD0, hk⟩ := hv
  have hx := B.exec
  have hb := B.bytes
  have hr := B.returns
  have hts : ∀ w ∈ lw_g, w.before _ s = true := fun w hw => atoms_spec (ws := xws yX7_init cX7_init 1 none) B.pre w (List.mem_cons_of_mem _ hw)
  have hown : s.vm.findClass RX7 = some m.cls := findClass_of_methodNamed B.named
  have hlocks := B.notSynchronized
  have hin : meth.name = "<init>" := (name_of_methodNamed B.named B.method).1
  subst hsz
  have hD := hD0.self (sz := s.heap.size)
  generalize hAe : va_A [(h0, .inr (7, [.null, .null, .null, .int 0, .int 0, .int 0]))] s.heap.size = A at hD ⊢
  have hA : ∀ q : Nat, s.heap.size ≤ q → A q := fun q h => by rw [← hAe]; exact Or.inr h
  have hS : va_S A s.heap s.heap [] := va_S.rf
  have hP : va_P D vwCl [(h0, .inr (7, [.null, .null, .null, .int 0, .int 0, .int 0]))] s.heap := hP
  have hl := lv_entry ([.ref h0] : List Value) (n := 1) (Nat.le_of_ble_eq_true rfl)
  rw [lg_entry_eq]
  generalize (lg_sl [.ref h0] ++ List.replicate (1 - (lg_sl [.ref h0]).length) Slot.unset).toArray = ls at hl ⊢
  have hl : lv_has ls 1 [(0, .ref h0)] := hl
  refine lv_aload_n hx hb dX7_init_0 rfl (lv_at hl 0 rfl) ?_
  refine W.objInit hx hb hown (hts _ qo_RX7) (hts _ qo_inst) (hts _ qo_code) rfl (by rw [hml]; exact hl.1.trans rfl) rfl dX7_init_1 (Nat.le_of_ble_eq_true rfl) (Nat.le_of_ble_eq_true rfl) ?_
  refine W.eq (g2 := F0 m 4 ls []) rfl ?_
  refine lv_aload_n hx hb dX7_init_4 rfl (lv_at hl 0 rfl) ?_
  refine lv_sipush (v := 180) hx hb dX7_init_5 (by decide +kernel) ?_
  refine k_newI (N := 180) hx hb (hts _ qa_int) hk hK hP hD hS hA (by decide +kernel) (by decide +kernel) (by decide +kernel) (by show 0 + 1 ≤ 10; omega) (by show 0 + 180 ≤ 303; omega) dX7_init_8 (fun q8 H hK hP hD hS => ?_)
  have hP : va_P D vwCl [(h0, .inr (7, [.null, .null, .null, .int 0, .int 0, .int 0])), (q8, .inl (cy 0, 180, .inl (fun _ => 0)))] H := hP
  have hD : va_D A [(h0, .inr (7, [.null, .null, .null, .int 0, .int 0, .int 0])), (q8, .inl (cy 0, 180, .inl (fun _ => 0)))] := hD
  refine W.widen (k := 1) (n := 180) (by omega) (by omega) ?_
  refine k_putF hx hb hts hown hin hK hP hD hS ff_RX7_9 0 rfl (Nat.le_of_ble_eq_true rfl) rfl rfl dX7_init_10 (fun H locs hP hD hS => ?_)
  have hP : va_P D vwCl [(h0, .inr (7, [.ref q8, .null, .null, .int 0, .int 0, .int 0])), (q8, .inl (cy 0, 180, .inl (fun _ => 0)))] H := hP
  have hD : va_D A [(h0, .inr (7, [.ref q8, .null, .null, .int 0, .int 0, .int 0])), (q8, .inl (cy 0, 180, .inl (fun _ => 0)))] := hD
  refine lv_aload_n hx hb dX7_init_13 rfl (lv_at hl 0 rfl) ?_
  refine va_new (ci := 5) (fs := [.null, .null, .null, .null, .int 0]) (C := RX5) (T := TX5) (N := 5) hx hb hts in_X5 tyX5 tyX5_ok hown (hts _ ql_RX7_15) (hts _ qt_RX5) (hts _ qi_RX5) hK hP hD hS hA rfl (fun j hj => by rcases (show j = 0 ∨ j = 1 ∨ j = 2 ∨ j = 3 ∨ j = 4 by omega) with rfl | rfl | rfl | rfl | rfl <;> rfl) (by show 1 + 1 ≤ 10; omega) (by show 180 + 5 ≤ 303; omega) dX7_init_14 (fun q14 H hP hD hS => ?_)
  have hP : va_P D vwCl [(h0, .inr (7, [.ref q8, .null, .null, .int 0, .int 0, .int 0])), (q8, .inl (cy 0, 180, .inl (fun _ => 0))), (q14, .inr (5, [.null, .null, .null, .null, .int 0]))] H := hP
  have hD : va_D A [(h0, .inr (7, [.ref q8, .null, .null, .int 0, .int 0, .int 0])), (q8, .inl (cy 0, 180, .inl (fun _ => 0))), (q14, .inr (5, [.null, .null, .null, .null, .int 0]))] := hD
  refine W.widen (k := 2) (n := 185) (by omega) (by omega) ?_
  refine lv_dup hx hb dX7_init_17 rfl ?_
  have hPc := hP.sub (ws' := [(q14, .inr (5, [.null, .null, .null, .null, .int 0]))]) [2] rfl
  have hDc := hD.sub (ws' := [(q14, .inr (5, [.null, .null, .null, .null, .int 0]))]) [2] (by decide) rfl
  have hKc := hK.sub (tys' := []) [] rfl
  have hFc := va_free (wc := [(q14, .inr (5, [.null, .null, .null, .null, .int 0]))]) hD hS hA [2] rfl
  refine va_callv (va_runIN (Ts := lw_g) (As := []) (rest := [.ref q14, .ref h0]) ⟨hx, hb, hml, hown, hts⟩ (c_X5_init l D cy q14 H.size) ⟨va_cnB 0 hts (g_goodx qc_X5_init) rfl rfl rfl (hk.2.2.1) (hts _ qi_RX5) ⟨by decide, by decide, by decide⟩ ⟨Nat.le_of_ble_eq_true rfl, Nat.le_of_ble_eq_true rfl⟩, rfl, hts _ qm_X5_init⟩ ⟨fun a U g mk q => by obtain ⟨q0, q1, qP, qK, qD, qX⟩ := q; exact ⟨q0, q1, qP, va_K.moved (u := U) (U := U.calling g mk a) (Vm.Alike.refl U.vm) qK, qD, kX_same rfl qX⟩, fun U hU hW => ⟨rfl, by rw [hU], by rw [hU]; exact hPc, va_K.moved hW.alike hKc, hDc.weaken (fun _ _ _ _ => trivial), kX_warm hW hk⟩⟩ rfl rfl hl.1 rfl (lv_room (Nat.le_of_ble_eq_true rfl)) dX7_init_18 ⟨by show 2 + 4 ≤ 10; omega, by show 185 + 90 ≤ 303; omega⟩) hS (fun q _ h => hFc q h) hFc (fun u18 t H1 locs ht hvm hw hB hz1 hk1 hS => ?_)
  have hw : u18 0 = q14 := hw
  subst hw
  obtain ⟨hP1, hK1, hD1⟩ := hB
  rw [ht] at hP1
  have hK1 := va_K.moved hvm.symm hK1
  obtain ⟨hP, hD⟩ := va_join (wr := [(h0, .inr (7, [.ref q8, .null, .null, .int 0, .int 0, .int 0])), (q8, .inl (cy 0, 180, .inl (fun _ => 0)))]) (w1 := [((u18 0), .inr (5, [.ref (u18 1), .ref (u18 2), .ref (u18 3), .ref (u18 4), .int 0])), ((u18 1), .inl (cy 0, 10, .inl (fun _ => 0))), ((u18 2), .inl (cy 0, 10, .inl (fun _ => 0))), ((u18 3), .inl (cy 1, 10, .inr (.inl (fun _ => 0)))), ((u18 4), .inl (cy 0, 60, .inl (fun _ => 0)))]) hP hD [2] [0, 1] rfl rfl (by decide) (by decide) hk1 hFc hP1 hD1
  have hK := hK.app hK1
  generalize H1 = H at hP hS ⊢
  have hP : va_P D vwCl [(h0, .inr (7, [.ref q8, .null, .null, .int 0, .int 0, .int 0])), (q8, .inl (cy 0, 180, .inl (fun _ => 0))), ((u18 0), .inr (5, [.ref (u18 1), .ref (u18 2), .ref (u18 3), .ref (u18 4), .int 0])), ((u18 1), .inl (cy 0, 10, .inl (fun _ => 0))), ((u18 2), .inl (cy 0, 10, .inl (fun _ => 0))), ((u18 3), .inl (cy 1, 10, .inr (.inl (fun _ => 0)))), ((u18 4), .inl (cy 0, 60, .inl (fun _ => 0)))] H := hP
  have hD : va_D A [(h0, .inr (7, [.ref q8, .null, .null, .int 0, .int 0, .int 0])), (q8, .inl (cy 0, 180, .inl (fun _ => 0))), ((u18 0), .inr (5, [.ref (u18 1), .ref (u18 2), .ref (u18 3), .ref (u18 4), .int 0])), ((u18 1), .inl (cy 0, 10, .inl (fun _ => 0))), ((u18 2), .inl (cy 0, 10, .inl (fun _ => 0))), ((u18 3), .inl (cy 1, 10, .inr (.inl (fun _ => 0)))), ((u18 4), .inl (cy 0, 60, .inl (fun _ => 0)))] := hD
  refine W.widen (k := 6) (n := 275) (by omega) (by omega) ?_
  refine k_putF hx hb hts hown hin hK hP hD hS ff_RX7_18 0 rfl (Nat.le_of_ble_eq_true rfl) rfl rfl dX7_init_21 (fun H locs hP hD hS => ?_)
  have hP : va_P D vwCl [(h0, .inr (7, [.ref q8, .ref (u18 0), .null, .int 0, .int 0, .int 0])), (q8, .inl (cy 0, 180, .inl (fun _ => 0))), ((u18 0), .inr (5, [.ref (u18 1), .ref (u18 2), .ref (u18 3), .ref (u18 4), .int 0])), ((u18 1), .inl (cy 0, 10, .inl (fun _ => 0))), ((u18 2), .inl (cy 0, 10, .inl (fun _ => 0))), ((u18 3), .inl (cy 1, 10, .inr (.inl (fun _ => 0)))), ((u18 4), .inl (cy 0, 60, .inl (fun _ => 0)))] H := hP
  have hD : va_D A [(h0, .inr (7, [.ref q8, .ref (u18 0), .null, .int 0, .int 0, .int 0])), (q8, .inl (cy 0, 180, .inl (fun _ => 0))), ((u18 0), .inr (5, [.ref (u18 1), .ref (u18 2), .ref (u18 3), .ref (u18 4), .int 0])), ((u18 1), .inl (cy 0, 10, .inl (fun _ => 0))), ((u18 2), .inl (cy 0, 10, .inl (fun _ => 0))), ((u18 3), .inl (cy 1, 10, .inr (.inl (fun _ => 0)))), ((u18 4), .inl (cy 0, 60, .inl (fun _ => 0)))] := hD
  refine lv_aload_n hx hb dX7_init_24 rfl (lv_at hl 0 rfl) ?_
  refine va_new (ci := 8) (fs := [.null, .null, .null, .int 0, .int 0, .int 0]) (C := RX8) (T := TX8) (N := 6) hx hb hts in_X8 tyX8 tyX8_ok hown (hts _ ql_RX7_22) (hts _ qt_RX8) (hts _ qi_RX8) hK hP hD hS hA rfl (fun j hj => by rcases (show j = 0 ∨ j = 1 ∨ j = 2 ∨ j = 3 ∨ j = 4 ∨ j = 5 by omega) with rfl | rfl | rfl | rfl | rfl | rfl <;> rfl) (by show 6 + 1 ≤ 10; omega) (by show 275 + 6 ≤ 303; omega) dX7_init_25 (fun q25 H hP hD hS => ?_)
  have hP : va_P D vwCl [(h0, .inr (7, [.ref q8, .ref (u18 0), .null, .int 0, .int 0, .int 0])), (q8, .inl (cy 0, 180, .inl (fun _ => 0))), ((u18 0), .inr (5, [.ref (u18 1), .ref (u18 2), .ref (u18 3), .ref (u18 4), .int 0])), ((u18 1), .inl (cy 0, 10, .inl (fun _ => 0))), ((u18 2), .inl (cy 0, 10, .inl (fun _ => 0))), ((u18 3), .inl (cy 1, 10, .inr (.inl (fun _ => 0)))), ((u18 4), .inl (cy 0, 60, .inl (fun _ => 0))), (q25, .inr (8, [.null, .null, .null, .int 0, .int 0, .int 0]))] H := hP
  have hD : va_D A [(h0, .inr (7, [.ref q8, .ref (u18 0), .null, .int 0, .int 0, .int 0])), (q8, .inl (cy 0, 180, .inl (fun _ => 0))), ((u18 0), .inr (5, [.ref (u18 1), .ref (u18 2), .ref (u18 3), .ref (u18 4), .int 0])), ((u18 1), .inl (cy 0, 10, .inl (fun _ => 0))), ((u18 2), .inl (cy 0, 10, .inl (fun _ => 0))), ((u18 3), .inl (cy 1, 10, .inr (.inl (fun _ => 0)))), ((u18 4), .inl (cy 0, 60, .inl (fun _ => 0))), (q25, .inr (8, [.null, .null, .null, .int 0, .int 0, .int 0]))] := hD
  refine W.widen (k := 7) (n := 281) (by omega) (by omega) ?_
  refine lv_dup hx hb dX7_init_28 rfl ?_
  have hPc := hP.sub (ws' := [(q25, .inr (8, [.null, .null, .null, .int 0, .int 0, .int 0]))]) [7] rfl
  have hDc := hD.sub (ws' := [(q25, .inr (8, [.null, .null, .null, .int 0, .int 0, .int 0]))]) [7] (by decide) rfl
  have hKc := hK.sub (tys' := []) [] rfl
  have hFc := va_free (wc := [(q25, .inr (8, [.null, .null, .null, .int 0, .int 0, .int 0]))]) hD hS hA [7] rfl
  refine va_callv (va_runIN (Ts := lw_g) (As := []) (rest := [.ref q25, .ref h0]) ⟨hx, hb, hml, hown, hts⟩ (c_X8_init l D cy q25 H.size) ⟨va_cnB 0 hts (g_goodx qc_X8_init) rfl rfl rfl (hk.2.2.2.1) (hts _ qi_RX8) ⟨by decide, by decide, by decide⟩ ⟨Nat.le_of_ble_eq_true rfl, Nat.le_of_ble_eq_true rfl⟩, rfl, hts _ qm_X8_init⟩ ⟨fun a U g mk q => by obtain ⟨q0, q1, qP, qK, qD, qX⟩ := q; exact ⟨q0, q1, qP, va_K.moved (u := U) (U := U.calling g mk a) (Vm.Alike.refl U.vm) qK, qD, kX_same rfl qX⟩, fun U hU hW => ⟨rfl, by rw [hU], by rw [hU]; exact hPc, va_K.moved hW.alike hKc, hDc.weaken (fun _ _ _ _ => trivial), kX_warm hW hk⟩⟩ rfl rfl hl.1 rfl (lv_room (Nat.le_of_ble_eq_true rfl)) dX7_init_29 ⟨by show 7 + 3 ≤ 10; omega, by show 281 + 22 ≤ 303; omega⟩) hS (fun q _ h => hFc q h) hFc (fun u29 t H1 locs ht hvm hw hB hz1 hk1 hS => ?_)
  have hw : u29 0 = q25 := hw
  subst hw
  obtain ⟨hP1, hK1, hD1⟩ := hB
  rw [ht] at hP1
  have hK1 := va_K.moved hvm.symm hK1
  obtain ⟨hP, hD⟩ := va_join (wr := [(h0, .inr (7, [.ref q8, .ref (u18 0), .null, .int 0, .int 0, .int 0])), (q8, .inl (cy 0, 180, .inl (fun _ => 0))), ((u18 0), .inr (5, [.ref (u18 1), .ref (u18 2), .ref (u18 3), .ref (u18 4), .int 0])), ((u18 1), .inl (cy 0, 10, .inl (fun _ => 0))), ((u18 2), .inl (cy 0, 10, .inl (fun _ => 0))), ((u18 3), .inl (cy 1, 10, .inr (.inl (fun _ => 0)))), ((u18 4), .inl (cy 0, 60, .inl (fun _ => 0)))]) (w1 := [((u29 0), .inr (8, [.ref (u29 1), .ref (u29 2), .ref (u29 3), .int 0, .int 0, .int 0])), ((u29 1), .inl (cy 0, 8, .inl (fun _ => 0))), ((u29 2), .inl (cy 0, 10, .inl (fun _ => 0))), ((u29 3), .inl (cy 0, 4, .inl (fun _ => 0)))]) hP hD [7] [0, 1, 2, 3, 4, 5, 6] rfl rfl (by decide) (by decide) hk1 hFc hP1 hD1
  have hK := hK.app hK1
  generalize H1 = H at hP hS ⊢
  have hP : va_P D vwCl [(h0, .inr (7, [.ref q8, .ref (u18 0), .null, .int 0, .int 0, .int 0])), (q8, .inl (cy 0, 180, .inl (fun _ => 0))), ((u18 0), .inr (5, [.ref (u18 1), .ref (u18 2), .ref (u18 3), .ref (u18 4), .int 0])), ((u18 1), .inl (cy 0, 10, .inl (fun _ => 0))), ((u18 2), .inl (cy 0, 10, .inl (fun _ => 0))), ((u18 3), .inl (cy 1, 10, .inr (.inl (fun _ => 0)))), ((u18 4), .inl (cy 0, 60, .inl (fun _ => 0))), ((u29 0), .inr (8, [.ref (u29 1), .ref (u29 2), .ref (u29 3), .int 0, .int 0, .int 0])), ((u29 1), .inl (cy 0, 8, .inl (fun _ => 0))), ((u29 2), .inl (cy 0, 10, .inl (fun _ => 0))), ((u29 3), .inl (cy 0, 4, .inl (fun _ => 0)))] H := hP
  have hD : va_D A [(h0, .inr (7, [.ref q8, .ref (u18 0), .null, .int 0, .int 0, .int 0])), (q8, .inl (cy 0, 180, .inl (fun _ => 0))), ((u18 0), .inr (5, [.ref (u18 1), .ref (u18 2), .ref (u18 3), .ref (u18 4), .int 0])), ((u18 1), .inl (cy 0, 10, .inl (fun _ => 0))), ((u18 2), .inl (cy 0, 10, .inl (fun _ => 0))), ((u18 3), .inl (cy 1, 10, .inr (.inl (fun _ => 0)))), ((u18 4), .inl (cy 0, 60, .inl (fun _ => 0))), ((u29 0), .inr (8, [.ref (u29 1), .ref (u29 2), .ref (u29 3), .int 0, .int 0, .int 0])), ((u29 1), .inl (cy 0, 8, .inl (fun _ => 0))), ((u29 2), .inl (cy 0, 10, .inl (fun _ => 0))), ((u29 3), .inl (cy 0, 4, .inl (fun _ => 0)))] := hD
  refine W.widen (k := 10) (n := 303) (by omega) (by omega) ?_
  refine k_putF hx hb hts hown hin hK hP hD hS ff_RX7_25 0 rfl (Nat.le_of_ble_eq_true rfl) rfl rfl dX7_init_32 (fun H locs hP hD hS => ?_)
  have hP : va_P D vwCl [(h0, .inr (7, [.ref q8, .ref (u18 0), .ref (u29 0), .int 0, .int 0, .int 0])), (q8, .inl (cy 0, 180, .inl (fun _ => 0))), ((u18 0), .inr (5, [.ref (u18 1), .ref (u18 2), .ref (u18 3), .ref (u18 4), .int 0])), ((u18 1), .inl (cy 0, 10, .inl (fun _ => 0))), ((u18 2), .inl (cy 0, 10, .inl (fun _ => 0))), ((u18 3), .inl (cy 1, 10, .inr (.inl (fun _ => 0)))), ((u18 4), .inl (cy 0, 60, .inl (fun _ => 0))), ((u29 0), .inr (8, [.ref (u29 1), .ref (u29 2), .ref (u29 3), .int 0, .int 0, .int 0])), ((u29 1), .inl (cy 0, 8, .inl (fun _ => 0))), ((u29 2), .inl (cy 0, 10, .inl (fun _ => 0))), ((u29 3), .inl (cy 0, 4, .inl (fun _ => 0)))] H := hP
  have hD : va_D A [(h0, .inr (7, [.ref q8, .ref (u18 0), .ref (u29 0), .int 0, .int 0, .int 0])), (q8, .inl (cy 0, 180, .inl (fun _ => 0))), ((u18 0), .inr (5, [.ref (u18 1), .ref (u18 2), .ref (u18 3), .ref (u18 4), .int 0])), ((u18 1), .inl (cy 0, 10, .inl (fun _ => 0))), ((u18 2), .inl (cy 0, 10, .inl (fun _ => 0))), ((u18 3), .inl (cy 1, 10, .inr (.inl (fun _ => 0)))), ((u18 4), .inl (cy 0, 60, .inl (fun _ => 0))), ((u29 0), .inr (8, [.ref (u29 1), .ref (u29 2), .ref (u29 3), .int 0, .int 0, .int 0])), ((u29 1), .inl (cy 0, 8, .inl (fun _ => 0))), ((u29 2), .inl (cy 0, 10, .inl (fun _ => 0))), ((u29 3), .inl (cy 0, 4, .inl (fun _ => 0)))] := hD
  refine lv_aload_n hx hb dX7_init_35 rfl (lv_at hl 0 rfl) ?_
  refine lv_iconst (v := 0) hx hb dX7_init_36 (by decide +kernel) ?_
  refine k_put hx hb hts hown hK hP hD hS fp_RX7_29 0 rfl (Nat.le_of_ble_eq_true rfl) rfl rfl dX7_init_37 (fun H locs hP hD hS => ?_)
  have hP : va_P D vwCl [(h0, .inr (7, [.ref q8, .ref (u18 0), .ref (u29 0), .int 0, .int 0, .int 0])), (q8, .inl (cy 0, 180, .inl (fun _ => 0))), ((u18 0), .inr (5, [.ref (u18 1), .ref (u18 2), .ref (u18 3), .ref (u18 4), .int 0])), ((u18 1), .inl (cy 0, 10, .inl (fun _ => 0))), ((u18 2), .inl (cy 0, 10, .inl (fun _ => 0))), ((u18 3), .inl (cy 1, 10, .inr (.inl (fun _ => 0)))), ((u18 4), .inl (cy 0, 60, .inl (fun _ => 0))), ((u29 0), .inr (8, [.ref (u29 1), .ref (u29 2), .ref (u29 3), .int 0, .int 0, .int 0])), ((u29 1), .inl (cy 0, 8, .inl (fun _ => 0))), ((u29 2), .inl (cy 0, 10, .inl (fun _ => 0))), ((u29 3), .inl (cy 0, 4, .inl (fun _ => 0)))] H := hP
  have hD : va_D A [(h0, .inr (7, [.ref q8, .ref (u18 0), .ref (u29 0), .int 0, .int 0, .int 0])), (q8, .inl (cy 0, 180, .inl (fun _ => 0))), ((u18 0), .inr (5, [.ref (u18 1), .ref (u18 2), .ref (u18 3), .ref (u18 4), .int 0])), ((u18 1), .inl (cy 0, 10, .inl (fun _ => 0))), ((u18 2), .inl (cy 0, 10, .inl (fun _ => 0))), ((u18 3), .inl (cy 1, 10, .inr (.inl (fun _ => 0)))), ((u18 4), .inl (cy 0, 60, .inl (fun _ => 0))), ((u29 0), .inr (8, [.ref (u29 1), .ref (u29 2), .ref (u29 3), .int 0, .int 0, .int 0])), ((u29 1), .inl (cy 0, 8, .inl (fun _ => 0))), ((u29 2), .inl (cy 0, 10, .inl (fun _ => 0))), ((u29 3), .inl (cy 0, 4, .inl (fun _ => 0)))] := hD
  refine lv_aload_n hx hb dX7_init_40 rfl (lv_at hl 0 rfl) ?_
  refine lv_iconst (v := 0) hx hb dX7_init_41 (by decide +kernel) ?_
  refine k_put hx hb hts hown hK hP hD hS fp_RX7_33 0 rfl (Nat.le_of_ble_eq_true rfl) rfl rfl dX7_init_42 (fun H locs hP hD hS => ?_)
  have hP : va_P D vwCl [(h0, .inr (7, [.ref q8, .ref (u18 0), .ref (u29 0), .int 0, .int 0, .int 0])), (q8, .inl (cy 0, 180, .inl (fun _ => 0))), ((u18 0), .inr (5, [.ref (u18 1), .ref (u18 2), .ref (u18 3), .ref (u18 4), .int 0])), ((u18 1), .inl (cy 0, 10, .inl (fun _ => 0))), ((u18 2), .inl (cy 0, 10, .inl (fun _ => 0))), ((u18 3), .inl (cy 1, 10, .inr (.inl (fun _ => 0)))), ((u18 4), .inl (cy 0, 60, .inl (fun _ => 0))), ((u29 0), .inr (8, [.ref (u29 1), .ref (u29 2), .ref (u29 3), .int 0, .int 0, .int 0])), ((u29 1), .inl (cy 0, 8, .inl (fun _ => 0))), ((u29 2), .inl (cy 0, 10, .inl (fun _ => 0))), ((u29 3), .inl (cy 0, 4, .inl (fun _ => 0)))] H := hP
  have hD : va_D A [(h0, .inr (7, [.ref q8, .ref (u18 0), .ref (u29 0), .int 0, .int 0, .int 0])), (q8, .inl (cy 0, 180, .inl (fun _ => 0))), ((u18 0), .inr (5, [.ref (u18 1), .ref (u18 2), .ref (u18 3), .ref (u18 4), .int 0])), ((u18 1), .inl (cy 0, 10, .inl (fun _ => 0))), ((u18 2), .inl (cy 0, 10, .inl (fun _ => 0))), ((u18 3), .inl (cy 1, 10, .inr (.inl (fun _ => 0)))), ((u18 4), .inl (cy 0, 60, .inl (fun _ => 0))), ((u29 0), .inr (8, [.ref (u29 1), .ref (u29 2), .ref (u29 3), .int 0, .int 0, .int 0])), ((u29 1), .inl (cy 0, 8, .inl (fun _ => 0))), ((u29 2), .inl (cy 0, 10, .inl (fun _ => 0))), ((u29 3), .inl (cy 0, 4, .inl (fun _ => 0)))] := hD
  refine lv_aload_n hx hb dX7_init_45 rfl (lv_at hl 0 rfl) ?_
  refine lv_iconst (v := 0) hx hb dX7_init_46 (by decide +kernel) ?_
  refine k_put hx hb hts hown hK hP hD hS fp_RX7_36 0 rfl (Nat.le_of_ble_eq_true rfl) rfl rfl dX7_init_47 (fun H locs hP hD hS => ?_)
  have hP : va_P D vwCl [(h0, .inr (7, [.ref q8, .ref (u18 0), .ref (u29 0), .int 0, .int 0, .int 0])), (q8, .inl (cy 0, 180, .inl (fun _ => 0))), ((u18 0), .inr (5, [.ref (u18 1), .ref (u18 2), .ref (u18 3), .ref (u18 4), .int 0])), ((u18 1), .inl (cy 0, 10, .inl (fun _ => 0))), ((u18 2), .inl (cy 0, 10, .inl (fun _ => 0))), ((u18 3), .inl (cy 1, 10, .inr (.inl (fun _ => 0)))), ((u18 4), .inl (cy 0, 60, .inl (fun _ => 0))), ((u29 0), .inr (8, [.ref (u29 1), .ref (u29 2), .ref (u29 3), .int 0, .int 0, .int 0])), ((u29 1), .inl (cy 0, 8, .inl (fun _ => 0))), ((u29 2), .inl (cy 0, 10, .inl (fun _ => 0))), ((u29 3), .inl (cy 0, 4, .inl (fun _ => 0)))] H := hP
  have hD : va_D A [(h0, .inr (7, [.ref q8, .ref (u18 0), .ref (u29 0), .int 0, .int 0, .int 0])), (q8, .inl (cy 0, 180, .inl (fun _ => 0))), ((u18 0), .inr (5, [.ref (u18 1), .ref (u18 2), .ref (u18 3), .ref (u18 4), .int 0])), ((u18 1), .inl (cy 0, 10, .inl (fun _ => 0))), ((u18 2), .inl (cy 0, 10, .inl (fun _ => 0))), ((u18 3), .inl (cy 1, 10, .inr (.inl (fun _ => 0)))), ((u18 4), .inl (cy 0, 60, .inl (fun _ => 0))), ((u29 0), .inr (8, [.ref (u29 1), .ref (u29 2), .ref (u29 3), .int 0, .int 0, .int 0])), ((u29 1), .inl (cy 0, 8, .inl (fun _ => 0))), ((u29 2), .inl (cy 0, 10, .inl (fun _ => 0))), ((u29 3), .inl (cy 0, 4, .inl (fun _ => 0)))] := hD
  have hP9 := hP.sub (ws' := [(h0, .inr (7, [.ref q8, .ref (u18 0), .ref (u29 0), .int 0, .int 0, .int 0])), (q8, .inl (cy 0, 180, .inl (fun _ => 0))), ((u18 0), .inr (5, [.ref (u18 1), .ref (u18 2), .ref (u18 3), .ref (u18 4), .int 0])), ((u18 1), .inl (cy 0, 10, .inl (fun _ => 0))), ((u18 2), .inl (cy 0, 10, .inl (fun _ => 0))), ((u18 3), .inl (cy 1, 10, .inr (.inl (fun _ => 0)))), ((u18 4), .inl (cy 0, 60, .inl (fun _ => 0))), ((u29 0), .inr (8, [.ref (u29 1), .ref (u29 2), .ref (u29 3), .int 0, .int 0, .int 0])), ((u29 1), .inl (cy 0, 8, .inl (fun _ => 0))), ((u29 2), .inl (cy 0, 10, .inl (fun _ => 0))), ((u29 3), .inl (cy 0, 4, .inl (fun _ => 0)))]) [0, 1, 2, 3, 4, 5, 6, 7, 8, 9, 10] rfl
  have hD9 := hD.sub (ws' := [(h0, .inr (7, [.ref q8, .ref (u18 0), .ref (u29 0), .int 0, .int 0, .int 0])), (q8, .inl (cy 0, 180, .inl (fun _ => 0))), ((u18 0), .inr (5, [.ref (u18 1), .ref (u18 2), .ref (u18 3), .ref (u18 4), .int 0])), ((u18 1), .inl (cy 0, 10, .inl (fun _ => 0))), ((u18 2), .inl (cy 0, 10, .inl (fun _ => 0))), ((u18 3), .inl (cy 1, 10, .inr (.inl (fun _ => 0)))), ((u18 4), .inl (cy 0, 60, .inl (fun _ => 0))), ((u29 0), .inr (8, [.ref (u29 1), .ref (u29 2), .ref (u29 3), .int 0, .int 0, .int 0])), ((u29 1), .inl (cy 0, 8, .inl (fun _ => 0))), ((u29 2), .inl (cy 0, 10, .inl (fun _ => 0))), ((u29 3), .inl (cy 0, 4, .inl (fun _ => 0)))]) [0, 1, 2, 3, 4, 5, 6, 7, 8, 9, 10] (by decide) rfl
  have hK9 := hK.sub (tys' := []) [] rfl
  exact W.vret hx hb hr (fun t ht hW => ⟨⟨adL [h0, q8, (u18 0), (u18 1), (u18 2), (u18 3), (u18 4), (u29 0), (u29 1), (u29 2), (u29 3)], rfl, rfl, by rw [ht]; exact hP9, va_K.moved hW.alike hK9, hD9⟩, hS.F ht⟩) hS.2.2 dX7_init_50 hlocks
set_option maxHeartbeats 4000000 in
set_option maxRecDepth 100000 in
theorem c_X4_init (l : Launch) (D : va_G) (cy : Nat → ClassId) (h0 w0 w1 : Nat) (sz : Nat) : Met l yX4_init (xws yX4_init cX4_init 3 none) ({ frames := 1, cells := 7, slots := 7798, locals := 24 }) (va_Pc [.ref h0, .ref w0, .ref w1] (fun U => U.heap.size = sz ∧ va_P D vwCl [(h0, .inr (4, [.null, .null, .null, .null, .null, .null, .null, .null, .null, .int 0, .int 0, .int 0]))] U.heap ∧ va_K D vwCl [] U ∧ va_D (fun _ => True) [(h0, .inr (4, [.null, .null, .null, .null, .null, .null, .null, .null, .null, .int 0, .int 0, .int 0]))] ∧ kX cy U)) (va_Qv (fun u : Nat → Nat => u 0 = h0) (fun u t => va_P D vwCl [((u 0), .inr (4, [.ref w0, .ref w1, .ref (u 1), .ref (u 2), .ref (u 3), .ref (u 4), .ref (u 5), .ref (u 6), .ref (u 7), .int 0, .int 0, .int 0])), ((u 1), .inl (cy 1, 1944, .inr (.inl (fun _ => 0)))), ((u 2), .inl (cy 0, 1944, .inl (fun _ => 0))), ((u 3), .inl (cy 0, 1944, .inl (fun _ => 0))), ((u 4), .inl (cy 0, 1944, .inl (fun _ => 0))), ((u 5), .inl (cy 0, 8, .inl (fun _ => 0))), ((u 6), .inl (cy 0, 10, .inl (fun _ => 0))), ((u 7), .inl (cy 1, 4, .inr (.inl (fun _ => 0))))] t.heap ∧ va_K D vwCl [] t ∧ va_D (va_A [(h0, .inr (4, [.null, .null, .null, .null, .null, .null, .null, .null, .null, .int 0, .int 0, .int 0]))] sz) [((u 0), .inr (4, [.ref w0, .ref w1, .ref (u 1), .ref (u 2), .ref (u 3), .ref (u 4), .ref (u 5), .ref (u 6), .ref (u 7), .int 0, .int 0, .int 0])), ((u 1), .inl (cy 1, 1944, .inr (.inl (fun _ => 0)))), ((u 2), .inl (cy 0, 1944, .inl (fun _ => 0))), ((u 3), .inl (cy 0, 1944, .inl (fun _ => 0))), ((u 4), .inl (cy 0, 1944, .inl (fun _ => 0))), ((u 5), .inl (cy 0, 8, .inl (fun _ => 0))), ((u 6), .inl (cy 0, 10, .inl (fun _ => 0))), ((u 7), .inl (cy 1, 4, .inr (.inl (fun _ => 0))))]) (va_A [(h0, .inr (4, [.null, .null, .null, .null, .null, .null, .null, .null, .null, .int 0, .int 0, .int 0]))] sz)) 7 7798 (va_A [(h0, .inr (4, [.null, .null, .null, .null, .null, .null, .null, .null, .null, .int 0, .int 0, .int 0]))] sz) := by
  refine Met.ofW (cc := cX4_init) (maxL := 3) (ret := none) (by decide) rfl ?_
  intro p e s m args below meth c s₁ B hml hv
  obtain ⟨rfl, hsz, hP, hK, hD0, hk⟩ := hv
  have hx := B.exec
  have hb := B.bytes
  have hr := B.returns
  have hts : ∀ w ∈ lw_g, w.before _ s = true := fun w hw => atoms_spec (ws := xws yX4_init cX4_init 3 none) B.pre w (List.mem_cons_of_mem _ hw)
  have hown : s.vm.findClass RX4 = some m.cls := findClass_of_methodNamed B.named
  have hlocks := B.notSynchronized
  have hin : meth.name = "<init>" := (name_of_methodNamed B.named B.method).1
  subst hsz
  have hD := hD0.self (sz := s.heap.size)
  generalize hAe : va_A [(h0, .inr (4, [.null, .null, .null, .null, .null, .null, .null, .null, .null, .int 0, .int 0, .int 0]))] s.heap.size = A at hD ⊢
  have hA : ∀ q : Nat, s.heap.size ≤ q → A q := fun q h => by rw [← hAe]; exact Or.inr h
  have hS : va_S A s.heap s.heap [] := va_S.rf
  have hP : va_P D vwCl [(h0, .inr (4, [.null, .null, .null, .null, .null, .null, .null, .null, .null, .int 0, .int 0, .int 0]))] s.heap := hP
  have hl := lv_entry ([.ref h0, .ref w0, .ref w1] : List Value) (n := 3) (Nat.le_of_ble_eq_true rfl)
  rw [lg_entry_eq]
  generalize (lg_sl [.ref h0, .ref w0, .ref w1] ++ List.replicate (3 - (lg_sl [.ref h0, .ref w0, .ref w1]).length) Slot.unset).toArray = ls at hl ⊢
  have hl : lv_has ls 3 [(0, .ref h0), (1, .ref w0), (2, .ref w1)] := hl
  refine lv_aload_n hx hb dX4_init_0 rfl (lv_at hl 0 rfl) ?_
  refine W.objInit hx hb hown (hts _ qo_RX4) (hts _ qo_inst) (hts _ qo_code) rfl (by rw [hml]; exact hl.1.trans rfl) rfl dX4_init_1 (Nat.le_of_ble_eq_true rfl) (Nat.le_of_ble_eq_true rfl) ?_
  refine W.eq (g2 := F0 m 4 ls []) rfl ?_
  refine lv_aload_n hx hb dX4_init_4 rfl (lv_at hl 0 rfl) ?_
  refine lv_sipush (v := 1944) hx hb dX4_init_5 (by decide +kernel) ?_
  refine k_newJ (N := 1944) hx hb (hts _ qa_long) hk hK hP hD hS hA (by decide +kernel) (by decide +kernel) (by decide +kernel) (by show 0 + 1 ≤ 7; omega) (by show 0 + 1944 ≤ 7798; omega) dX4_init_8 (fun q8 H hK hP hD hS => ?_)
  have hP : va_P D vwCl [(h0, .inr (4, [.null, .null, .null, .null, .null, .null, .null, .null, .null, .int 0, .int 0, .int 0])), (q8, .inl (cy 1, 1944, .inr (.inl (fun _ => 0))))] H := hP
  have hD : va_D A [(h0, .inr (4, [.null, .null, .null, .null, .null, .null, .null, .null, .null, .int 0, .int 0, .int 0])), (q8, .inl (cy 1, 1944, .inr (.inl (fun _ => 0))))] := hD
  refine W.widen (k := 1) (n := 1944) (by omega) (by omega) ?_
  refine k_putF hx hb hts hown hin hK hP hD hS ff_RX4_9 0 rfl (Nat.le_of_ble_eq_true rfl) rfl rfl dX4_init_10 (fun H locs hP hD hS => ?_)
  have hP : va_P D vwCl [(h0, .inr (4, [.null, .null, .ref q8, .null, .null, .null, .null, .null, .null, .int 0, .int 0, .int 0])), (q8, .inl (cy 1, 1944, .inr (.inl (fun _ => 0))))] H := hP
  have hD : va_D A [(h0, .inr (4, [.null, .null, .ref q8, .null, .null, .null, .null, .null, .null, .int 0, .int 0, .int 0])), (q8, .inl (cy 1, 1944, .inr (.inl (fun _ => 0))))] := hD
  refine lv_aload_n hx hb dX4_init_13 rfl (lv_at hl 0 rfl) ?_
  refine lv_sipush (v := 1944) hx hb dX4_init_14 (by decide +kernel) ?_
  refine k_newI (N := 1944) hx hb (hts _ qa_int) hk hK hP hD hS hA (by decide +kernel) (by decide +kernel) (by decide +kernel) (by show 1 + 1 ≤ 7; omega) (by show 1944 + 1944 ≤ 7798; omega) dX4_init_17 (fun q17 H hK hP hD hS => ?_)
  have hP : va_P D vwCl [(h0, .inr (4, [.null, .null, .ref q8, .null, .null, .null, .null, .null, .null, .int 0, .int 0, .int 0])), (q8, .inl (cy 1, 1944, .inr (.inl (fun _ => 0)))), (q17, .inl (cy 0, 1944, .inl (fun _ => 0)))] H := hP
  have hD : va_D A [(h0, .inr (4, [.null, .null, .ref q8, .null, .null, .null, .null, .null, .null, .int 0, .int 0, .int 0])), (q8, .inl (cy 1, 1944, .inr (.inl (fun _ => 0)))), (q17, .inl (cy 0, 1944, .inl (fun _ => 0)))] := hD
  refine W.widen (k := 2) (n := 3888) (by omega) (by omega) ?_
  refine k_putF hx hb hts hown hin hK hP hD hS ff_RX4_15 0 rfl (Nat.le_of_ble_eq_true rfl) rfl rfl dX4_init_19 (fun H locs hP hD hS => ?_)
  have hP : va_P D vwCl [(h0, .inr (4, [.null, .null, .ref q8, .ref q17, .null, .null, .null, .null, .null, .int 0, .int 0, .int 0])), (q8, .inl (cy 1, 1944, .inr (.inl (fun _ => 0)))), (q17, .inl (cy 0, 1944, .inl (fun _ => 0)))] H := hP
  have hD : va_D A [(h0, .inr (4, [.null, .null, .ref q8, .ref q17, .null, .null, .null, .null, .null, .int 0, .int 0, .int 0])), (q8, .inl (cy 1, 1944, .inr (.inl (fun _ => 0)))), (q17, .inl (cy 0, 1944, .inl (fun _ => 0)))] := hD
  refine lv_aload_n hx hb dX4_init_22 rfl (lv_at hl 0 rfl) ?_
  refine lv_sipush (v := 1944) hx hb dX4_init_23 (by decide +kernel) ?_
  refine k_newI (N := 1944) hx hb (hts _ qa_int) hk hK hP hD hS hA (by decide +kernel) (by decide +kernel) (by decide +kernel) (by show 2 + 1 ≤ 7; omega) (by show 3888 + 1944 ≤ 7798; omega) dX4_init_26 (fun q26 H hK hP hD hS => ?_)
  have hP : va_P D vwCl [(h0, .inr (4, [.null, .null, .ref q8, .ref q17, .null, .null, .null, .null, .null, .int 0, .int 0, .int 0])), (q8, .inl (cy 1, 1944, .inr (.inl (fun _ => 0)))), (q17, .inl (cy 0, 1944, .inl (fun _ => 0))), (q26, .inl (cy 0, 1944, .inl (fun _ => 0)))] H := hP
  have hD : va_D A [(h0, .inr (4, [.null, .null, .ref q8, .ref q17, .null, .null, .null, .null, .null, .int 0, .int 0, .int 0])), (q8, .inl (cy 1, 1944, .inr (.inl (fun _ => 0)))), (q17, .inl (cy 0, 1944, .inl (fun _ => 0))), (q26, .inl (cy 0, 1944, .inl (fun _ => 0)))] := hD
  refine W.widen (k := 3) (n := 5832) (by omega) (by omega) ?_
  refine k_putF hx hb hts hown hin hK hP hD hS ff_RX4_19 0 rfl (Nat.le_of_ble_eq_true rfl) rfl rfl dX4_init_28 (fun H locs hP hD hS => ?_)
  have hP : va_P D vwCl [(h0, .inr (4, [.null, .null, .ref q8, .ref q17, .ref q26, .null, .null, .null, .null, .int 0, .int 0, .int 0])), (q8, .inl (cy 1, 1944, .inr (.inl (fun _ => 0)))), (q17, .inl (cy 0, 1944, .inl (fun _ => 0))), (q26, .inl (cy 0, 1944, .inl (fun _ => 0)))] H := hP
  have hD : va_D A [(h0, .inr (4, [.null, .null, .ref q8, .ref q17, .ref q26, .null, .null, .null, .null, .int 0, .int 0, .int 0])), (q8, .inl (cy 1, 1944, .inr (.inl (fun _ => 0)))), (q17, .inl (cy 0, 1944, .inl (fun _ => 0))), (q26, .inl (cy 0, 1944, .inl (fun _ => 0)))] := hD
  refine lv_aload_n hx hb dX4_init_31 rfl (lv_at hl 0 rfl) ?_
  refine lv_sipush (v := 1944) hx hb dX4_init_32 (by decide +kernel) ?_
  refine k_newI (N := 1944) hx hb (hts _ qa_int) hk hK hP hD hS hA (by decide +kernel) (by decide +kernel) (by decide +kernel) (by show 3 + 1 ≤ 7; omega) (by show 5832 + 1944 ≤ 7798; omega) dX4_init_35 (fun q35 H hK hP hD hS => ?_)
  have hP : va_P D vwCl [(h0, .inr (4, [.null, .null, .ref q8, .ref q17, .ref q26, .null, .null, .null, .null, .int 0, .int 0, .int 0])), (q8, .inl (cy 1, 1944, .inr (.inl (fun _ => 0)))), (q17, .inl (cy 0, 1944, .inl (fun _ => 0))), (q26, .inl (cy 0, 1944, .inl (fun _ => 0))), (q35, .inl (cy 0, 1944, .inl (fun _ => 0)))] H := hP
  have hD : va_D A [(h0, .inr (4, [.null, .null, .ref q8, .ref q17, .ref q26, .null, .null, .null, .null, .int 0, .int 0, .int 0])), (q8, .inl (cy 1, 1944, .inr (.inl (fun _ => 0)))), (q17, .inl (cy 0, 1944, .inl (fun _ => 0))), (q26, .inl (cy 0, 1944, .inl (fun _ => 0))), (q35, .inl (cy 0, 1944, .inl (fun _ => 0)))] := hD
  refine W.widen (k := 4) (n := 7776) (by omega) (by omega) ?_
  refine k_putF hx hb hts hown hin hK hP hD hS ff_RX4_22 0 rfl (Nat.le_of_ble_eq_true rfl) rfl rfl dX4_init_37 (fun H locs hP hD hS => ?_)
  have hP : va_P D vwCl [(h0, .inr (4, [.null, .null, .ref q8, .ref q17, .ref q26, .ref q35, .null, .null, .null, .int 0, .int 0, .int 0])), (q8, .inl (cy 1, 1944, .inr (.inl (fun _ => 0)))), (q17, .inl (cy 0, 1944, .inl (fun _ => 0))), (q26, .inl (cy 0, 1944, .inl (fun _ => 0))), (q35, .inl (cy 0, 1944, .inl (fun _ => 0)))] H := hP
  have hD : va_D A [(h0, .inr (4, [.null, .null, .ref q8, .ref q17, .ref q26, .ref q35, .null, .null, .null, .int 0, .int 0, .int 0])), (q8, .inl (cy 1, 1944, .inr (.inl (fun _ => 0)))), (q17, .inl (cy 0, 1944, .inl (fun _ => 0))), (q26, .inl (cy 0, 1944, .inl (fun _ => 0))), (q35, .inl (cy 0, 1944, .inl (fun _ => 0)))] := hD
  refine lv_aload_n hx hb dX4_init_40 rfl (lv_at hl 0 rfl) ?_
  refine lv_bipush (v := 8) hx hb dX4_init_41 (by decide +kernel) ?_
  refine k_newI (N := 8) hx hb (hts _ qa_int) hk hK hP hD hS hA (by decide +kernel) (by decide +kernel) (by decide +kernel) (by show 4 + 1 ≤ 7; omega) (by show 7776 + 8 ≤ 7798; omega) dX4_init_43 (fun q43 H hK hP hD hS => ?_)
  have hP : va_P D vwCl [(h0, .inr (4, [.null, .null, .ref q8, .ref q17, .ref q26, .ref q35, .null, .null, .null, .int 0, .int 0, .int 0])), (q8, .inl (cy 1, 1944, .inr (.inl (fun _ => 0)))), (q17, .inl (cy 0, 1944, .inl (fun _ => 0))), (q26, .inl (cy 0, 1944, .inl (fun _ => 0))), (q35, .inl (cy 0, 1944, .inl (fun _ => 0))), (q43, .inl (cy 0, 8, .inl (fun _ => 0)))] H := hP
  have hD : va_D A [(h0, .inr (4, [.null, .null, .ref q8, .ref q17, .ref q26, .ref q35, .null, .null, .null, .int 0, .int 0, .int 0])), (q8, .inl (cy 1, 1944, .inr (.inl (fun _ => 0)))), (q17, .inl (cy 0, 1944, .inl (fun _ => 0))), (q26, .inl (cy 0, 1944, .inl (fun _ => 0))), (q35, .inl (cy 0, 1944, .inl (fun _ => 0))), (q43, .inl (cy 0, 8, .inl (fun _ => 0)))] := hD
  refine W.widen (k := 5) (n := 7784) (by omega) (by omega) ?_
  refine k_putF hx hb hts hown hin hK hP hD hS ff_RX4_25 0 rfl (Nat.le_of_ble_eq_true rfl) rfl rfl dX4_init_45 (fun H locs hP hD hS => ?_)
  have hP : va_P D vwCl [(h0, .inr (4, [.null, .null, .ref q8, .ref q17, .ref q26, .ref q35, .ref q43, .null, .null, .int 0, .int 0, .int 0])), (q8, .inl (cy 1, 1944, .inr (.inl (fun _ => 0)))), (q17, .inl (cy 0, 1944, .inl (fun _ => 0))), (q26, .inl (cy 0, 1944, .inl (fun _ => 0))), (q35, .inl (cy 0, 1944, .inl (fun _ => 0))), (q43, .inl (cy 0, 8, .inl (fun _ => 0)))] H := hP
  have hD : va_D A [(h0, .inr (4, [.null, .null, .ref q8, .ref q17, .ref q26, .ref q35, .ref q43, .null, .null, .int 0, .int 0, .int 0])), (q8, .inl (cy 1, 1944, .inr (.inl (fun _ => 0)))), (q17, .inl (cy 0, 1944, .inl (fun _ => 0))), (q26, .inl (cy 0, 1944, .inl (fun _ => 0))), (q35, .inl (cy 0, 1944, .inl (fun _ => 0))), (q43, .inl (cy 0, 8, .inl (fun _ => 0)))] := hD
  refine lv_aload_n hx hb dX4_init_48 rfl (lv_at hl 0 rfl) ?_
  refine lv_bipush (v := 10) hx hb dX4_init_49 (by decide +kernel) ?_
  refine k_newI (N := 10) hx hb (hts _ qa_int) hk hK hP hD hS hA (by decide +kernel) (by decide +kernel) (by decide +kernel) (by show 5 + 1 ≤ 7; omega) (by show 7784 + 10 ≤ 7798; omega) dX4_init_51 (fun q51 H hK hP hD hS => ?_)
  have hP : va_P D vwCl [(h0, .inr (4, [.null, .null, .ref q8, .ref q17, .ref q26, .ref q35, .ref q43, .null, .null, .int 0, .int 0, .int 0])), (q8, .inl (cy 1, 1944, .inr (.inl (fun _ => 0)))), (q17, .inl (cy 0, 1944, .inl (fun _ => 0))), (q26, .inl (cy 0, 1944, .inl (fun _ => 0))), (q35, .inl (cy 0, 1944, .inl (fun _ => 0))), (q43, .inl (cy 0, 8, .inl (fun _ => 0))), (q51, .inl (cy 0, 10, .inl (fun _ => 0)))] H := hP
  have hD : va_D A [(h0, .inr (4, [.null, .null, .ref q8, .ref q17, .ref q26, .ref q35, .ref q43, .null, .null, .int 0, .int 0, .int 0])), (q8, .inl (cy 1, 1944, .inr (.inl (fun _ => 0)))), (q17, .inl (cy 0, 1944, .inl (fun _ => 0))), (q26, .inl (cy 0, 1944, .inl (fun _ => 0))), (q35, .inl (cy 0, 1944, .inl (fun _ => 0))), (q43, .inl (cy 0, 8, .inl (fun _ => 0))), (q51, .inl (cy 0, 10, .inl (fun _ => 0)))] := hD
  refine W.widen (k := 6) (n := 7794) (by omega) (by omega) ?_
  refine k_putF hx hb hts hown hin hK hP hD hS ff_RX4_28 0 rfl (Nat.le_of_ble_eq_true rfl) rfl rfl dX4_init_53 (fun H locs hP hD hS => ?_)
  have hP : va_P D vwCl [(h0, .inr (4, [.null, .null, .ref q8, .ref q17, .ref q26, .ref q35, .ref q43, .ref q51, .null, .int 0, .int 0, .int 0])), (q8, .inl (cy 1, 1944, .inr (.inl (fun _ => 0)))), (q17, .inl (cy 0, 1944, .inl (fun _ => 0))), (q26, .inl (cy 0, 1944, .inl (fun _ => 0))), (q35, .inl (cy 0, 1944, .inl (fun _ => 0))), (q43, .inl (cy 0, 8, .inl (fun _ => 0))), (q51, .inl (cy 0, 10, .inl (fun _ => 0)))] H := hP
  have hD : va_D A [(h0, .inr (4, [.null, .null, .ref q8, .ref q17, .ref q26, .ref q35, .ref q43, .ref q51, .null, .int 0, .int 0, .int 0])), (q8, .inl (cy 1, 1944, .inr (.inl (fun _ => 0)))), (q17, .inl (cy 0, 1944, .inl (fun _ => 0))), (q26, .inl (cy 0, 1944, .inl (fun _ => 0))), (q35, .inl (cy 0, 1944, .inl (fun _ => 0))), (q43, .inl (cy 0, 8, .inl (fun _ => 0))), (q51, .inl (cy 0, 10, .inl (fun _ => 0)))] := hD
  refine lv_aload_n hx hb dX4_init_56 rfl (lv_at hl 0 rfl) ?_
  refine lv_iconst (v := 4) hx hb dX4_init_57 (by decide +kernel) ?_
  refine k_newJ (N := 4) hx hb (hts _ qa_long) hk hK hP hD hS hA (by decide +kernel) (by decide +kernel) (by decide +kernel) (by show 6 + 1 ≤ 7; omega) (by show 7794 + 4 ≤ 7798; omega) dX4_init_58 (fun q58 H hK hP hD hS => ?_)
  have hP : va_P D vwCl [(h0, .inr (4, [.null, .null, .ref q8, .ref q17, .ref q26, .ref q35, .ref q43, .ref q51, .null, .int 0, .int 0, .int 0])), (q8, .inl (cy 1, 1944, .inr (.inl (fun _ => 0)))), (q17, .inl (cy 0, 1944, .inl (fun _ => 0))), (q26, .inl (cy 0, 1944, .inl (fun _ => 0))), (q35, .inl (cy 0, 1944, .inl (fun _ => 0))), (q43, .inl (cy 0, 8, .inl (fun _ => 0))), (q51, .inl (cy 0, 10, .inl (fun _ => 0))), (q58, .inl (cy 1, 4, .inr (.inl (fun _ => 0))))] H := hP
  have hD : va_D A [(h0, .inr (4, [.null, .null, .ref q8, .ref q17, .ref q26, .ref q35, .ref q43, .ref q51, .null, .int 0, .int 0, .int 0])), (q8, .inl (cy 1, 1944, .inr (.inl (fun _ => 0)))), (q17, .inl (cy 0, 1944, .inl (fun _ => 0))), (q26, .inl (cy 0, 1944, .inl (fun _ => 0))), (q35, .inl (cy 0, 1944, .inl (fun _ => 0))), (q43, .inl (cy 0, 8, .inl (fun _ => 0))), (q51, .inl (cy 0, 10, .inl (fun _ => 0))), (q58, .inl (cy 1, 4, .inr (.inl (fun _ => 0))))] := hD
  refine W.widen (k := 7) (n := 7798) (by omega) (by omega) ?_
  refine k_putF hx hb hts hown hin hK hP hD hS ff_RX4_31 0 rfl (Nat.le_of_ble_eq_true rfl) rfl rfl dX4_init_60 (fun H locs hP hD hS => ?_)
  have hP : va_P D vwCl [(h0, .inr (4, [.null, .null, .ref q8, .ref q17, .ref q26, .ref q35, .ref q43, .ref q51, .ref q58, .int 0, .int 0, .int 0])), (q8, .inl (cy 1, 1944, .inr (.inl (fun _ => 0)))), (q17, .inl (cy 0, 1944, .inl (fun _ => 0))), (q26, .inl (cy 0, 1944, .inl (fun _ => 0))), (q35, .inl (cy 0, 1944, .inl (fun _ => 0))), (q43, .inl (cy 0, 8, .inl (fun _ => 0))), (q51, .inl (cy 0, 10, .inl (fun _ => 0))), (q58, .inl (cy 1, 4, .inr (.inl (fun _ => 0))))] H := hP
  have hD : va_D A [(h0, .inr (4, [.null, .null, .ref q8, .ref q17, .ref q26, .ref q35, .ref q43, .ref q51, .ref q58, .int 0, .int 0, .int 0])), (q8, .inl (cy 1, 1944, .inr (.inl (fun _ => 0)))), (q17, .inl (cy 0, 1944, .inl (fun _ => 0))), (q26, .inl (cy 0, 1944, .inl (fun _ => 0))), (q35, .inl (cy 0, 1944, .inl (fun _ => 0))), (q43, .inl (cy 0, 8, .inl (fun _ => 0))), (q51, .inl (cy 0, 10, .inl (fun _ => 0))), (q58, .inl (cy 1, 4, .inr (.inl (fun _ => 0))))] := hD
  refine lv_aload_n hx hb dX4_init_63 rfl (lv_at hl 0 rfl) ?_
  refine lv_iconst (v := 0) hx hb dX4_init_64 (by decide +kernel) ?_
  refine k_put hx hb hts hown hK hP hD hS fp_RX4_34 0 rfl (Nat.le_of_ble_eq_true rfl) rfl rfl dX4_init_65 (fun H locs hP hD hS => ?_)
  have hP : va_P D vwCl [(h0, .inr (4, [.null, .null, .ref q8, .ref q17, .ref q26, .ref q35, .ref q43, .ref q51, .ref q58, .int 0, .int 0, .int 0])), (q8, .inl (cy 1, 1944, .inr (.inl (fun _ => 0)))), (q17, .inl (cy 0, 1944, .inl (fun _ => 0))), (q26, .inl (cy 0, 1944, .inl (fun _ => 0))), (q35, .inl (cy 0, 1944, .inl (fun _ => 0))), (q43, .inl (cy 0, 8, .inl (fun _ => 0))), (q51, .inl (cy 0, 10, .inl (fun _ => 0))), (q58, .inl (cy 1, 4, .inr (.inl (fun _ => 0))))] H := hP
  have hD : va_D A [(h0, .inr (4, [.null, .null, .ref q8, .ref q17, .ref q26, .ref q35, .ref q43, .ref q51, .ref q58, .int 0, .int 0, .int 0])), (q8, .inl (cy 1, 1944, .inr (.inl (fun _ => 0)))), (q17, .inl (cy 0, 1944, .inl (fun _ => 0))), (q26, .inl (cy 0, 1944, .inl (fun _ => 0))), (q35, .inl (cy 0, 1944, .inl (fun _ => 0))), (q43, .inl (cy 0, 8, .inl (fun _ => 0))), (q51, .inl (cy 0, 10, .inl (fun _ => 0))), (q58, .inl (cy 1, 4, .inr (.inl (fun _ => 0))))] := hD
  refine lv_aload_n hx hb dX4_init_68 rfl (lv_at hl 0 rfl) ?_
  refine lv_iconst (v := 0) hx hb dX4_init_69 (by decide +kernel) ?_
  refine k_put hx hb hts hown hK hP hD hS fp_RX4_38 0 rfl (Nat.le_of_ble_eq_true rfl) rfl rfl dX4_init_70 (fun H locs hP hD hS => ?_)
  have hP : va_P D vwCl [(h0, .inr (4, [.null, .null, .ref q8, .ref q17, .ref q26, .ref q35, .ref q43, .ref q51, .ref q58, .int 0, .int 0, .int 0])), (q8, .inl (cy 1, 1944, .inr (.inl (fun _ => 0)))), (q17, .inl (cy 0, 1944, .inl (fun _ => 0))), (q26, .inl (cy 0, 1944, .inl (fun _ => 0))), (q35, .inl (cy 0, 1944, .inl (fun _ => 0))), (q43, .inl (cy 0, 8, .inl (fun _ => 0))), (q51, .inl (cy 0, 10, .inl (fun _ => 0))), (q58, .inl (cy 1, 4, .inr (.inl (fun _ => 0))))] H := hP
  have hD : va_D A [(h0, .inr (4, [.null, .null, .ref q8, .ref q17, .ref q26, .ref q35, .ref q43, .ref q51, .ref q58, .int 0, .int 0, .int 0])), (q8, .inl (cy 1, 1944, .inr (.inl (fun _ => 0)))), (q17, .inl (cy 0, 1944, .inl (fun _ => 0))), (q26, .inl (cy 0, 1944, .inl (fun _ => 0))), (q35, .inl (cy 0, 1944, .inl (fun _ => 0))), (q43, .inl (cy 0, 8, .inl (fun _ => 0))), (q51, .inl (cy 0, 10, .inl (fun _ => 0))), (q58, .inl (cy 1, 4, .inr (.inl (fun _ => 0))))] := hD
  refine lv_aload_n hx hb dX4_init_73 rfl (lv_at hl 0 rfl) ?_
  refine lv_iconst (v := 0) hx hb dX4_init_74 (by decide +kernel) ?_
  refine k_put hx hb hts hown hK hP hD hS fp_RX4_41 0 rfl (Nat.le_of_ble_eq_true rfl) rfl rfl dX4_init_75 (fun H locs hP hD hS => ?_)
  have hP : va_P D vwCl [(h0, .inr (4, [.null, .null, .ref q8, .ref q17, .ref q26, .ref q35, .ref q43, .ref q51, .ref q58, .int 0, .int 0, .int 0])), (q8, .inl (cy 1, 1944, .inr (.inl (fun _ => 0)))), (q17, .inl (cy 0, 1944, .inl (fun _ => 0))), (q26, .inl (cy 0, 1944, .inl (fun _ => 0))), (q35, .inl (cy 0, 1944, .inl (fun _ => 0))), (q43, .inl (cy 0, 8, .inl (fun _ => 0))), (q51, .inl (cy 0, 10, .inl (fun _ => 0))), (q58, .inl (cy 1, 4, .inr (.inl (fun _ => 0))))] H := hP
  have hD : va_D A [(h0, .inr (4, [.null, .null, .ref q8, .ref q17, .ref q26, .ref q35, .ref q43, .ref q51, .ref q58, .int 0, .int 0, .int 0])), (q8, .inl (cy 1, 1944, .inr (.inl (fun _ => 0)))), (q17, .inl (cy 0, 1944, .inl (fun _ => 0))), (q26, .inl (cy 0, 1944, .inl (fun _ => 0))), (q35, .inl (cy 0, 1944, .inl (fun _ => 0))), (q43, .inl (cy 0, 8, .inl (fun _ => 0))), (q51, .inl (cy 0, 10, .inl (fun _ => 0))), (q58, .inl (cy 1, 4, .inr (.inl (fun _ => 0))))] := hD
  refine lv_aload_n hx hb dX4_init_78 rfl (lv_at hl 0 rfl) ?_
  refine lv_aload_n hx hb dX4_init_79 rfl (lv_at hl 1 rfl) ?_
  refine k_putF hx hb hts hown hin hK hP hD hS ff_RX4_44 0 rfl (Nat.le_of_ble_eq_true rfl) rfl rfl dX4_init_80 (fun H locs hP hD hS => ?_)
  have hP : va_P D vwCl [(h0, .inr (4, [.ref w0, .null, .ref q8, .ref q17, .ref q26, .ref q35, .ref q43, .ref q51, .ref q58, .int 0, .int 0, .int 0])), (q8, .inl (cy 1, 1944, .inr (.inl (fun _ => 0)))), (q17, .inl (cy 0, 1944, .inl (fun _ => 0))), (q26, .inl (cy 0, 1944, .inl (fun _ => 0))), (q35, .inl (cy 0, 1944, .inl (fun _ => 0))), (q43, .inl (cy 0, 8, .inl (fun _ => 0))), (q51, .inl (cy 0, 10, .inl (fun _ => 0))), (q58, .inl (cy 1, 4, .inr (.inl (fun _ => 0))))] H := hP
  have hD : va_D A [(h0, .inr (4, [.ref w0, .null, .ref q8, .ref q17, .ref q26, .ref q35, .ref q43, .ref q51, .ref q58, .int 0, .int 0, .int 0])), (q8, .inl (cy 1, 1944, .inr (.inl (fun _ => 0)))), (q17, .inl (cy 0, 1944, .inl (fun _ => 0))), (q26, .inl (cy 0, 1944, .inl (fun _ => 0))), (q35, .inl (cy 0, 1944, .inl (fun _ => 0))), (q43, .inl (cy 0, 8, .inl (fun _ => 0))), (q51, .inl (cy 0, 10, .inl (fun _ => 0))), (q58, .inl (cy 1, 4, .inr (.inl (fun _ => 0))))] := hD
  refine lv_aload_n hx hb dX4_init_83 rfl (lv_at hl 0 rfl) ?_
  refine lv_aload_n hx hb dX4_init_84 rfl (lv_at hl 2 rfl) ?_
  refine k_putF hx hb hts hown hin hK hP hD hS ff_RX4_48 0 rfl (Nat.le_of_ble_eq_true rfl) rfl rfl dX4_init_85 (fun H locs hP hD hS => ?_)
  have hP : va_P D vwCl [(h0, .inr (4, [.ref w0, .ref w1, .ref q8, .ref q17, .ref q26, .ref q35, .ref q43, .ref q51, .ref q58, .int 0, .int 0, .int 0])), (q8, .inl (cy 1, 1944, .inr (.inl (fun _ => 0)))), (q17, .inl (cy 0, 1944, .inl (fun _ => 0))), (q26, .inl (cy 0, 1944, .inl (fun _ => 0))), (q35, .inl (cy 0, 1944, .inl (fun _ => 0))), (q43, .inl (cy 0, 8, .inl (fun _ => 0))), (q51, .inl (cy 0, 10, .inl (fun _ => 0))), (q58, .inl (cy 1, 4, .inr (.inl (fun _ => 0))))] H := hP
  have hD : va_D A [(h0, .inr (4, [.ref w0, .ref w1, .ref q8, .ref q17, .ref q26, .ref q35, .ref q43, .ref q51, .ref q58, .int 0, .int 0, .int 0])), (q8, .inl (cy 1, 1944, .inr (.inl (fun _ => 0)))), (q17, .inl (cy 0, 1944, .inl (fun _ => 0))), (q26, .inl (cy 0, 1944, .inl (fun _ => 0))), (q35, .inl (cy 0, 1944, .inl (fun _ => 0))), (q43, .inl (cy 0, 8, .inl (fun _ => 0))), (q51, .inl (cy 0, 10, .inl (fun _ => 0))), (q58, .inl (cy 1, 4, .inr (.inl (fun _ => 0))))] := hD
  have hP9 := hP.sub (ws' := [(h0, .inr (4, [.ref w0, .ref w1, .ref q8, .ref q17, .ref q26, .ref q35, .ref q43, .ref q51, .ref q58, .int 0, .int 0, .int 0])), (q8, .inl (cy 1, 1944, .inr (.inl (fun _ => 0)))), (q17, .inl (cy 0, 1944, .inl (fun _ => 0))), (q26, .inl (cy 0, 1944, .inl (fun _ => 0))), (q35, .inl (cy 0, 1944, .inl (fun _ => 0))), (q43, .inl (cy 0, 8, .inl (fun _ => 0))), (q51, .inl (cy 0, 10, .inl (fun _ => 0))), (q58, .inl (cy 1, 4, .inr (.inl (fun _ => 0))))]) [0, 1, 2, 3, 4, 5, 6, 7] rfl
  have hD9 := hD.sub (ws' := [(h0, .inr (4, [.ref w0, .ref w1, .ref q8, .ref q17, .ref q26, .ref q35, .ref q43, .ref q51, .ref q58, .int 0, .int 0, .int 0])), (q8, .inl (cy 1, 1944, .inr (.inl (fun _ => 0)))), (q17, .inl (cy 0, 1944, .inl (fun _ => 0))), (q26, .inl (cy 0, 1944, .inl (fun _ => 0))), (q35, .inl (cy 0, 1944, .inl (fun _ => 0))), (q43, .inl (cy 0, 8, .inl (fun _ => 0))), (q51, .inl (cy 0, 10, .inl (fun _ => 0))), (q58, .inl (cy 1, 4, .inr (.inl (fun _ => 0))))]) [0, 1, 2, 3, 4, 5, 6, 7] (by decide) rfl
  have hK9 := hK.sub (tys' := []) [] rfl
  exact W.vret hx hb hr (fun t ht hW => ⟨⟨adL [h0, q8, q17, q26, q35, q43, q51, q58], rfl, rfl, by rw [ht]; exact hP9, va_K.moved hW.alike hK9, hD9⟩, hS.F ht⟩) hS.2.2 dX4_init_88 hlocks
set_option maxHeartbeats 4000000 in
set_option maxRecDepth 100000 in
theorem c_X6_init (l : Launch) (D : va_G) (cy : Nat → ClassId) (h0 w0 w1 : Nat) (b0 b1 b2 : Nat) (sz : Nat) : Met l yX6_init (xws yX6_init cX6_init 3 none) ({ frames := 3, cells := 15, slots := 23388, locals := 89 }) (va_Pc [.ref h0, .ref w0, .ref w1] (fun U => U.heap.size = sz ∧ va_P D vwCl [(h0, .inr (6, [.null, .null, .null, .null, .null, .null, .null, .null, .null, .null, .int 0, .long 0, .int 0, .int 0])), (w1, .inr (8, [.ref b0, .ref b1, .ref b2, .int 0, .int 0, .int 0]))] U.heap ∧ va_K D vwCl [] U ∧ va_D (fun _ => True) [(h0, .inr (6, [.null, .null, .null, .null, .null, .null, .null, .null, .null, .null, .int 0, .long 0, .int 0, .int 0])), (w1, .inr (8, [.ref b0, .ref b1, .ref b2, .int 0, .int 0, .int 0]))] ∧ kX cy U)) (va_Qv (fun u : Nat → Nat => u 0 = h0) (fun u t => va_P D vwCl [((u 0), .inr (6, [.ref w0, .ref w1, .ref (u 7), .ref (u 1), .ref (u 15), .ref (u 2), .ref (u 3), .ref (u 4), .ref (u 5), .ref (u 6), .int 0, .long 0, .int 0, .int 0])), ((u 1), .inr (1, [])), ((u 2), .inl (cy 1, 5184, .inr (.inl (fun _ => 0)))), ((u 3), .inl (cy 1, 13, .inr (.inl (fun _ => 0)))), ((u 4), .inl (cy 0, 12, .inl (fun _ => 0))), ((u 5), .inl (cy 1, 5184, .inr (.inl (fun _ => 0)))), ((u 6), .inl (cy 1, 5184, .inr (.inl (fun _ => 0)))), ((u 7), .inr (4, [.ref w0, .ref w1, .ref (u 8), .ref (u 9), .ref (u 10), .ref (u 11), .ref (u 12), .ref (u 13), .ref (u 14), .int 0, .int 0, .int 0])), ((u 8), .inl (cy 1, 1944, .inr (.inl (fun _ => 0)))), ((u 9), .inl (cy 0, 1944, .inl (fun _ => 0))), ((u 10), .inl (cy 0, 1944, .inl (fun _ => 0))), ((u 11), .inl (cy 0, 1944, .inl (fun _ => 0))), ((u 12), .inl (cy 0, 8, .inl (fun _ => 0))), ((u 13), .inl (cy 0, 10, .inl (fun _ => 0))), ((u 14), .inl (cy 1, 4, .inr (.inl (fun _ => 0)))), ((u 15), .inr (9, [.ref b1])), (w1, .inr (8, [.ref b0, .ref b1, .ref b2, .int 0, .int 0, .int 0]))] t.heap ∧ va_K D vwCl [] t ∧ va_D (va_A [(h0, .inr (6, [.null, .null, .null, .null, .null, .null, .null, .null, .null, .null, .int 0, .long 0, .int 0, .int 0])), (w1, .inr (8, [.ref b0, .ref b1, .ref b2, .int 0, .int 0, .int 0]))] sz) [((u 0), .inr (6, [.ref w0, .ref w1, .ref (u 7), .ref (u 1), .ref (u 15), .ref (u 2), .ref (u 3), .ref (u 4), .ref (u 5), .ref (u 6), .int 0, .long 0, .int 0, .int 0])), ((u 1), .inr (1, [])), ((u 2), .inl (cy 1, 5184, .inr (.inl (fun _ => 0)))), ((u 3), .inl (cy 1, 13, .inr (.inl (fun _ => 0)))), ((u 4), .inl (cy 0, 12, .inl (fun _ => 0))), ((u 5), .inl (cy 1, 5184, .inr (.inl (fun _ => 0)))), ((u 6), .inl (cy 1, 5184, .inr (.inl (fun _ => 0)))), ((u 7), .inr (4, [.ref w0, .ref w1, .ref (u 8), .ref (u 9), .ref (u 10), .ref (u 11), .ref (u 12), .ref (u 13), .ref (u 14), .int 0, .int 0, .int 0])), ((u 8), .inl (cy 1, 1944, .inr (.inl (fun _ => 0)))), ((u 9), .inl (cy 0, 1944, .inl (fun _ => 0))), ((u 10), .inl (cy 0, 1944, .inl (fun _ => 0))), ((u 11), .inl (cy 0, 1944, .inl (fun _ => 0))), ((u 12), .inl (cy 0, 8, .inl (fun _ => 0))), ((u 13), .inl (cy 0, 10, .inl (fun _ => 0))), ((u 14), .inl (cy 1, 4, .inr (.inl (fun _ => 0)))), ((u 15), .inr (9, [.ref b1])), (w1, .inr (8, [.ref b0, .ref b1, .ref b2, .int 0, .int 0, .int 0]))]) (va_A [(h0, .inr (6, [.null, .null, .null, .null, .null, .null, .null, .null, .null, .null, .int 0, .long 0, .int 0, .int 0])), (w1, .inr (8, [.ref b0, .ref b1, .ref b2, .int 0, .int 0, .int 0]))] sz)) 15 23388 (va_A [(h0, .inr (6, [.null, .null, .null, .null, .null, .null, .null, .null, .null, .null, .int 0, .long 0, .int 0, .int 0])), (w1, .inr (8, [.ref b0, .ref b1, .ref b2, .int 0, .int 0, .int 0]))] sz) := by
  refine Met.ofW (cc := cX6_init) (maxL := 3) (ret := none) (by decide) rfl ?_
  intro p e s m args below meth c s₁ B hml hv
  obtain ⟨rfl, hsz, hP, hK, hD0, hk⟩ := hv
  have hx := B.exec
  have hb := B.bytes
  have hr := B.returns
  have hts : ∀ w ∈ lw_g, w.before _ s = true := fun w hw => atoms_spec (ws := xws yX6_init cX6_init 3 none) B.pre w (List.mem_cons_of_mem _ hw)
  have hown : s.vm.findClass RX6 = some m.cls := findClass_of_methodNamed B.named
  have hlocks := B.notSynchronized
  have hin : meth.name = "<init>" := (name_of_methodNamed B.named B.method).1
  subst hsz
  have hD := hD0.self (sz := s.heap.size)
  generalize hAe : va_A [(h0, .inr (6, [.null, .null, .null, .null, .null, .null, .null, .null, .null, .null, .int 0, .long 0, .int 0, .int 0])), (w1, .inr (8, [.ref b0, .ref b1, .ref b2, .int 0, .int 0, .int 0]))] s.heap.size = A at hD ⊢
  have hA : ∀ q : Nat, s.heap.size ≤ q → A q := fun q h => by rw [← hAe]; exact Or.inr h
  have hS : va_S A s.heap s.heap [] := va_S.rf
  have hP : va_P D vwCl [(h0, .inr (6, [.null, .null, .null, .null, .null, .null, .null, .null, .null, .null, .int 0, .long 0, .int 0, .int 0])), (w1, .inr (8, [.ref b0, .ref b1, .ref b2, .int 0, .int 0, .int 0]))] s.heap := hP
  have hl := lv_entry ([.ref h0, .ref w0, .ref w1] : List Value) (n := 3) (Nat.le_of_ble_eq_true rfl)
  rw [lg_entry_eq]
  generalize (lg_sl [.ref h0, .ref w0, .ref w1] ++ List.replicate (3 - (lg_sl [.ref h0, .ref w0, .ref w1]).length) Slot.unset).toArray = ls at hl ⊢
  have hl : lv_has ls 3 [(0, .ref h0), (1, .ref w0), (2, .ref w1)] := hl
  refine lv_aload_n hx hb dX6_init_0 rfl (lv_at hl 0 rfl) ?_
  refine W.objInit hx hb hown (hts _ qo_RX6) (hts _ qo_inst) (hts _ qo_code) rfl (by rw [hml]; exact hl.1.trans rfl) rfl dX6_init_1 (Nat.le_of_ble_eq_true rfl) (Nat.le_of_ble_eq_true rfl) ?_
  refine W.eq (g2 := F0 m 4 ls []) rfl ?_
  refine lv_aload_n hx hb dX6_init_4 rfl (lv_at hl 0 rfl) ?_
  refine va_new (ci := 1) (fs := []) (C := RX1) (T := TX1) (N := 0) hx hb hts in_X1 tyX1 tyX1_ok hown (hts _ ql_RX6_9) (hts _ qt_RX1) (hts _ qi_RX1) hK hP hD hS hA rfl (fun j hj => absurd hj (Nat.not_lt_zero j)) (by show 0 + 1 ≤ 15; omega) (by show 0 + 0 ≤ 23388; omega) dX6_init_5 (fun q5 H hP hD hS => ?_)
  have hP : va_P D vwCl [(h0, .inr (6, [.null, .null, .null, .null, .null, .null, .null, .null, .null, .null, .int 0, .long 0, .int 0, .int 0])), (w1, .inr (8, [.ref b0, .ref b1, .ref b2, .int 0, .int 0, .int 0])), (q5, .inr (1, []))] H := hP
  have hD : va_D A [(h0, .inr (6, [.null, .null, .null, .null, .null, .null, .null, .null, .null, .null, .int 0, .long 0, .int 0, .int 0])), (w1, .inr (8, [.ref b0, .ref b1, .ref b2, .int 0, .int 0, .int 0])), (q5, .inr (1, []))] := hD
  refine W.widen (k := 1) (n := 0) (by omega) (by omega) ?_
  refine lv_dup hx hb dX6_init_8 rfl ?_
  have hPc := hP.sub (ws' := [(q5, .inr (1, []))]) [2] rfl
  have hDc := hD.sub (ws' := [(q5, .inr (1, []))]) [2] (by decide) rfl
  have hKc := hK.sub (tys' := []) [] rfl
  have hFc := va_free (wc := [(q5, .inr (1, []))]) hD hS hA [2] rfl
  refine va_callv (va_runIN (Ts := lw_g) (As := []) (rest := [.ref q5, .ref h0]) ⟨hx, hb, hml, hown, hts⟩ (c_X1_init l D cy q5 H.size) ⟨va_cnB 0 hts (g_goodx qc_X1_init) rfl rfl rfl (hk.2.2.2.2.2.2.2.1) (hts _ qi_RX1) ⟨by decide, by decide, by decide⟩ ⟨Nat.le_of_ble_eq_true rfl, Nat.le_of_ble_eq_true rfl⟩, rfl, hts _ qm_X1_init⟩ ⟨fun a U g mk q => by obtain ⟨q0, q1, qP, qK, qD, qX⟩ := q; exact ⟨q0, q1, qP, va_K.moved (u := U) (U := U.calling g mk a) (Vm.Alike.refl U.vm) qK, qD, kX_same rfl qX⟩, fun U hU hW => ⟨rfl, by rw [hU], by rw [hU]; exact hPc, va_K.moved hW.alike hKc, hDc.weaken (fun _ _ _ _ => trivial), kX_warm hW hk⟩⟩ rfl rfl hl.1 rfl (lv_room (Nat.le_of_ble_eq_true rfl)) dX6_init_9 ⟨by show 1 + 0 ≤ 15; omega, by show 0 + 0 ≤ 23388; omega⟩) hS (fun q _ h => hFc q h) hFc (fun u9 t H1 locs ht hvm hw hB hz1 hk1 hS => ?_)
  have hw : u9 0 = q5 := hw
  subst hw
  obtain ⟨hP1, hK1, hD1⟩ := hB
  rw [ht] at hP1
  have hK1 := va_K.moved hvm.symm hK1
  obtain ⟨hP, hD⟩ := va_join (wr := [(h0, .inr (6, [.null, .null, .null, .null, .null, .null, .null, .null, .null, .null, .int 0, .long 0, .int 0, .int 0])), (w1, .inr (8, [.ref b0, .ref b1, .ref b2, .int 0, .int 0, .int 0]))]) (w1 := [((u9 0), .inr (1, []))]) hP hD [2] [0, 1] rfl rfl (by decide) (by decide) hk1 hFc hP1 hD1
  have hK := hK.app hK1
  generalize H1 = H at hP hS ⊢
  have hP : va_P D vwCl [(h0, .inr (6, [.null, .null, .null, .null, .null, .null, .null, .null, .null, .null, .int 0, .long 0, .int 0, .int 0])), (w1, .inr (8, [.ref b0, .ref b1, .ref b2, .int 0, .int 0, .int 0])), ((u9 0), .inr (1, []))] H := hP
  have hD : va_D A [(h0, .inr (6, [.null, .null, .null, .null, .null, .null, .null, .null, .null, .null, .int 0, .long 0, .int 0, .int 0])), (w1, .inr (8, [.ref b0, .ref b1, .ref b2, .int 0, .int 0, .int 0])), ((u9 0), .inr (1, []))] := hD
  refine W.widen (k := 1) (n := 0) (by omega) (by omega) ?_
  refine k_putF hx hb hts hown hin hK hP hD hS ff_RX6_12 0 rfl (Nat.le_of_ble_eq_true rfl) rfl rfl dX6_init_12 (fun H locs hP hD hS => ?_)
  have hP : va_P D vwCl [(h0, .inr (6, [.null, .null, .null, .ref (u9 0), .null, .null, .null, .null, .null, .null, .int 0, .long 0, .int 0, .int 0])), (w1, .inr (8, [.ref b0, .ref b1, .ref b2, .int 0, .int 0, .int 0])), ((u9 0), .inr (1, []))] H := hP
  have hD : va_D A [(h0, .inr (6, [.null, .null, .null, .ref (u9 0), .null, .null, .null, .null, .null, .null, .int 0, .long 0, .int 0, .int 0])), (w1, .inr (8, [.ref b0, .ref b1, .ref b2, .int 0, .int 0, .int 0])), ((u9 0), .inr (1, []))] := hD
  refine lv_aload_n hx hb dX6_init_15 rfl (lv_at hl 0 rfl) ?_
  refine lv_sipush (v := 5184) hx hb dX6_init_16 (by decide +kernel) ?_
  refine k_newJ (N := 5184) hx hb (hts _ qa_long) hk hK hP hD hS hA (by decide +kernel) (by decide +kernel) (by decide +kernel) (by show 1 + 1 ≤ 15; omega) (by show 0 + 5184 ≤ 23388; omega) dX6_init_19 (fun q19 H hK hP hD hS => ?_)
  have hP : va_P D vwCl [(h0, .inr (6, [.null, .null, .null, .ref (u9 0), .null, .null, .null, .null, .null, .null, .int 0, .long 0, .int 0, .int 0])), (w1, .inr (8, [.ref b0, .ref b1, .ref b2, .int 0, .int 0, .int 0])), ((u9 0), .inr (1, [])), (q19, .inl (cy 1, 5184, .inr (.inl (fun _ => 0))))] H := hP
  have hD : va_D A [(h0, .inr (6, [.null, .null, .null, .ref (u9 0), .null, .null, .null, .null, .null, .null, .int 0, .long 0, .int 0, .int 0])), (w1, .inr (8, [.ref b0, .ref b1, .ref b2, .int 0, .int 0, .int 0])), ((u9 0), .inr (1, [])), (q19, .inl (cy 1, 5184, .inr (.inl (fun _ => 0))))] := hD
  refine W.widen (k := 2) (n := 5184) (by omega) (by omega) ?_
  refine k_putF hx hb hts hown hin hK hP hD hS ff_RX6_18 0 rfl (Nat.le_of_ble_eq_true rfl) rfl rfl dX6_init_21 (fun H locs hP hD hS => ?_)
  have hP : va_P D vwCl [(h0, .inr (6, [.null, .null, .null, .ref (u9 0), .null, .ref q19, .null, .null, .null, .null, .int 0, .long 0, .int 0, .int 0])), (w1, .inr (8, [.ref b0, .ref b1, .ref b2, .int 0, .int 0, .int 0])), ((u9 0), .inr (1, [])), (q19, .inl (cy 1, 5184, .inr (.inl (fun _ => 0))))] H := hP
  have hD : va_D A [(h0, .inr (6, [.null, .null, .null, .ref (u9 0), .null, .ref q19, .null, .null, .null, .null, .int 0, .long 0, .int 0, .int 0])), (w1, .inr (8, [.ref b0, .ref b1, .ref b2, .int 0, .int 0, .int 0])), ((u9 0), .inr (1, [])), (q19, .inl (cy 1, 5184, .inr (.inl (fun _ => 0))))] := hD
  refine lv_aload_n hx hb dX6_init_24 rfl (lv_at hl 0 rfl) ?_
  refine lv_bipush (v := 13) hx hb dX6_init_25 (by decide +kernel) ?_
  refine k_newJ (N := 13) hx hb (hts _ qa_long) hk hK hP hD hS hA (by decide +kernel) (by decide +kernel) (by decide +kernel) (by show 2 + 1 ≤ 15; omega) (by show 5184 + 13 ≤ 23388; omega) dX6_init_27 (fun q27 H hK hP hD hS => ?_)
  have hP : va_P D vwCl [(h0, .inr (6, [.null, .null, .null, .ref (u9 0), .null, .ref q19, .null, .null, .null, .null, .int 0, .long 0, .int 0, .int 0])), (w1, .inr (8, [.ref b0, .ref b1, .ref b2, .int 0, .int 0, .int 0])), ((u9 0), .inr (1, [])), (q19, .inl (cy 1, 5184, .inr (.inl (fun _ => 0)))), (q27, .inl (cy 1, 13, .inr (.inl (fun _ => 0))))] H := hP
  have hD : va_D A [(h0, .inr (6, [.null, .null, .null, .ref (u9 0), .null, .ref q19, .null, .null, .null, .null, .int 0, .long 0, .int 0, .int 0])), (w1, .inr (8, [.ref b0, .ref b1, .ref b2, .int 0, .int 0, .int 0])), ((u9 0), .inr (1, [])), (q19, .inl (cy 1, 5184, .inr (.inl (fun _ => 0)))), (q27, .inl (cy 1, 13, .inr (.inl (fun _ => 0))))] := hD
  refine W.widen (k := 3) (n := 5197) (by omega) (by omega) ?_
  refine k_putF hx hb hts hown hin hK hP hD hS ff_RX6_22 0 rfl (Nat.le_of_ble_eq_true rfl) rfl rfl dX6_init_29 (fun H locs hP hD hS => ?_)
  have hP : va_P D vwCl [(h0, .inr (6, [.null, .null, .null, .ref (u9 0), .null, .ref q19, .ref q27, .null, .null, .null, .int 0, .long 0, .int 0, .int 0])), (w1, .inr (8, [.ref b0, .ref b1, .ref b2, .int 0, .int 0, .int 0])), ((u9 0), .inr (1, [])), (q19, .inl (cy 1, 5184, .inr (.inl (fun _ => 0)))), (q27, .inl (cy 1, 13, .inr (.inl (fun _ => 0))))] H := hP
  have hD : va_D A [(h0, .inr (6, [.null, .null, .null, .ref (u9 0), .null, .ref q19, .ref q27, .null, .null, .null, .int 0, .long 0, .int 0, .int 0])), (w1, .inr (8, [.ref b0, .ref b1, .ref b2, .int 0, .int 0, .int 0])), ((u9 0), .inr (1, [])), (q19, .inl (cy 1, 5184, .inr (.inl (fun _ => 0)))), (q27, .inl (cy 1, 13, .inr (.inl (fun _ => 0))))] := hD
  refine lv_aload_n hx hb dX6_init_32 rfl (lv_at hl 0 rfl) ?_
  refine lv_bipush (v := 12) hx hb dX6_init_33 (by decide +kernel) ?_
  refine k_newI (N := 12) hx hb (hts _ qa_int) hk hK hP hD hS hA (by decide +kernel) (by decide +kernel) (by decide +kernel) (by show 3 + 1 ≤ 15; omega) (by show 5197 + 12 ≤ 23388; omega) dX6_init_35 (fun q35 H hK hP hD hS => ?_)
  have hP : va_P D vwCl [(h0, .inr (6, [.null, .null, .null, .ref (u9 0), .null, .ref q19, .ref q27, .null, .null, .null, .int 0, .long 0, .int 0, .int 0])), (w1, .inr (8, [.ref b0, .ref b1, .ref b2, .int 0, .int 0, .int 0])), ((u9 0), .inr (1, [])), (q19, .inl (cy 1, 5184, .inr (.inl (fun _ => 0)))), (q27, .inl (cy 1, 13, .inr (.inl (fun _ => 0)))), (q35, .inl (cy 0, 12, .inl (fun _ => 0)))] H := hP
  have hD : va_D A [(h0, .inr (6, [.null, .null, .null, .ref (u9 0), .null, .ref q19, .ref q27, .null, .null, .null, .int 0, .long 0, .int 0, .int 0])), (w1, .inr (8, [.ref b0, .ref b1, .ref b2, .int 0, .int 0, .int 0])), ((u9 0), .inr (1, [])), (q19, .inl (cy 1, 5184, .inr (.inl (fun _ => 0)))), (q27, .inl (cy 1, 13, .inr (.inl (fun _ => 0)))), (q35, .inl (cy 0, 12, .inl (fun _ => 0)))] := hD
  refine W.widen (k := 4) (n := 5209) (by omega) (by omega) ?_
  refine k_putF hx hb hts hown hin hK hP hD hS ff_RX6_25 0 rfl (Nat.le_of_ble_eq_true rfl) rfl rfl dX6_init_37 (fun H locs hP hD hS => ?_)
  have hP : va_P D vwCl [(h0, .inr (6, [.null, .null, .null, .ref (u9 0), .null, .ref q19, .ref q27, .ref q35, .null, .null, .int 0, .long 0, .int 0, .int 0])), (w1, .inr (8, [.ref b0, .ref b1, .ref b2, .int 0, .int 0, .int 0])), ((u9 0), .inr (1, [])), (q19, .inl (cy 1, 5184, .inr (.inl (fun _ => 0)))), (q27, .inl (cy 1, 13, .inr (.inl (fun _ => 0)))), (q35, .inl (cy 0, 12, .inl (fun _ => 0)))] H := hP
  have hD : va_D A [(h0, .inr (6, [.null, .null, .null, .ref (u9 0), .null, .ref q19, .ref q27, .ref q35, .null, .null, .int 0, .long 0, .int 0, .int 0])), (w1, .inr (8, [.ref b0, .ref b1, .ref b2, .int 0, .int 0, .int 0])), ((u9 0), .inr (1, [])), (q19, .inl (cy 1, 5184, .inr (.inl (fun _ => 0)))), (q27, .inl (cy 1, 13, .inr (.inl (fun _ => 0)))), (q35, .inl (cy 0, 12, .inl (fun _ => 0)))] := hD
  refine lv_aload_n hx hb dX6_init_40 rfl (lv_at hl 0 rfl) ?_
  refine lv_sipush (v := 5184) hx hb dX6_init_41 (by decide +kernel) ?_
  refine k_newJ (N := 5184) hx hb (hts _ qa_long) hk hK hP hD hS hA (by decide +kernel) (by decide +kernel) (by decide +kernel) (by show 4 + 1 ≤ 15; omega) (by show 5209 + 5184 ≤ 23388; omega) dX6_init_44 (fun q44 H hK hP hD hS => ?_)
  have hP : va_P D vwCl [(h0, .inr (6, [.null, .null, .null, .ref (u9 0), .null, .ref q19, .ref q27, .ref q35, .null, .null, .int 0, .long 0, .int 0, .int 0])), (w1, .inr (8, [.ref b0, .ref b1, .ref b2, .int 0, .int 0, .int 0])), ((u9 0), .inr (1, [])), (q19, .inl (cy 1, 5184, .inr (.inl (fun _ => 0)))), (q27, .inl (cy 1, 13, .inr (.inl (fun _ => 0)))), (q35, .inl (cy 0, 12, .inl (fun _ => 0))), (q44, .inl (cy 1, 5184, .inr (.inl (fun _ => 0))))] H := hP
  have hD : va_D A [(h0, .inr (6, [.null, .null, .null, .ref (u9 0), .null, .ref q19, .ref q27, .ref q35, .null, .null, .int 0, .long 0, .int 0, .int 0])), (w1, .inr (8, [.ref b0, .ref b1, .ref b2, .int 0, .int 0, .int 0])), ((u9 0), .inr (1, [])), (q19, .inl (cy 1, 5184, .inr (.inl (fun _ => 0)))), (q27, .inl (cy 1, 13, .inr (.inl (fun _ => 0)))), (q35, .inl (cy 0, 12, .inl (fun _ => 0))), (q44, .inl (cy 1, 5184, .inr (.inl (fun _ => 0))))] := hD
  refine W.widen (k := 5) (n := 10393) (by omega) (by omega) ?_
  refine k_put hx hb hts hown hK hP hD hS fp_RX6_29 0 rfl (Nat.le_of_ble_eq_true rfl) rfl rfl dX6_init_46 (fun H locs hP hD hS => ?_)
  have hP : va_P D vwCl [(h0, .inr (6, [.null, .null, .null, .ref (u9 0), .null, .ref q19, .ref q27, .ref q35, .ref q44, .null, .int 0, .long 0, .int 0, .int 0])), (w1, .inr (8, [.ref b0, .ref b1, .ref b2, .int 0, .int 0, .int 0])), ((u9 0), .inr (1, [])), (q19, .inl (cy 1, 5184, .inr (.inl (fun _ => 0)))), (q27, .inl (cy 1, 13, .inr (.inl (fun _ => 0)))), (q35, .inl (cy 0, 12, .inl (fun _ => 0))), (q44, .inl (cy 1, 5184, .inr (.inl (fun _ => 0))))] H := hP
  have hD : va_D A [(h0, .inr (6, [.null, .null, .null, .ref (u9 0), .null, .ref q19, .ref q27, .ref q35, .ref q44, .null, .int 0, .long 0, .int 0, .int 0])), (w1, .inr (8, [.ref b0, .ref b1, .ref b2, .int 0, .int 0, .int 0])), ((u9 0), .inr (1, [])), (q19, .inl (cy 1, 5184, .inr (.inl (fun _ => 0)))), (q27, .inl (cy 1, 13, .inr (.inl (fun _ => 0)))), (q35, .inl (cy 0, 12, .inl (fun _ => 0))), (q44, .inl (cy 1, 5184, .inr (.inl (fun _ => 0))))] := hD
  refine lv_aload_n hx hb dX6_init_49 rfl (lv_at hl 0 rfl) ?_
  refine lv_sipush (v := 5184) hx hb dX6_init_50 (by decide +kernel) ?_
  refine k_newJ (N := 5184) hx hb (hts _ qa_long) hk hK hP hD hS hA (by decide +kernel) (by decide +kernel) (by decide +kernel) (by show 5 + 1 ≤ 15; omega) (by show 10393 + 5184 ≤ 23388; omega) dX6_init_53 (fun q53 H hK hP hD hS => ?_)
  have hP : va_P D vwCl [(h0, .inr (6, [.null, .null, .null, .ref (u9 0), .null, .ref q19, .ref q27, .ref q35, .ref q44, .null, .int 0, .long 0, .int 0, .int 0])), (w1, .inr (8, [.ref b0, .ref b1, .ref b2, .int 0, .int 0, .int 0])), ((u9 0), .inr (1, [])), (q19, .inl (cy 1, 5184, .inr (.inl (fun _ => 0)))), (q27, .inl (cy 1, 13, .inr (.inl (fun _ => 0)))), (q35, .inl (cy 0, 12, .inl (fun _ => 0))), (q44, .inl (cy 1, 5184, .inr (.inl (fun _ => 0)))), (q53, .inl (cy 1, 5184, .inr (.inl (fun _ => 0))))] H := hP
  have hD : va_D A [(h0, .inr (6, [.null, .null, .null, .ref (u9 0), .null, .ref q19, .ref q27, .ref q35, .ref q44, .null, .int 0, .long 0, .int 0, .int 0])), (w1, .inr (8, [.ref b0, .ref b1, .ref b2, .int 0, .int 0, .int 0])), ((u9 0), .inr (1, [])), (q19, .inl (cy 1, 5184, .inr (.inl (fun _ => 0)))), (q27, .inl (cy 1, 13, .inr (.inl (fun _ => 0)))), (q35, .inl (cy 0, 12, .inl (fun _ => 0))), (q44, .inl (cy 1, 5184, .inr (.inl (fun _ => 0)))), (q53, .inl (cy 1, 5184, .inr (.inl (fun _ => 0))))] := hD
  refine W.widen (k := 6) (n := 15577) (by omega) (by omega) ?_
  refine k_put hx hb hts hown hK hP hD hS fp_RX6_32 0 rfl (Nat.le_of_ble_eq_true rfl) rfl rfl dX6_init_55 (fun H locs hP hD hS => ?_)
  have hP : va_P D vwCl [(h0, .inr (6, [.null, .null, .null, .ref (u9 0), .null, .ref q19, .ref q27, .ref q35, .ref q44, .ref q53, .int 0, .long 0, .int 0, .int 0])), (w1, .inr (8, [.ref b0, .ref b1, .ref b2, .int 0, .int 0, .int 0])), ((u9 0), .inr (1, [])), (q19, .inl (cy 1, 5184, .inr (.inl (fun _ => 0)))), (q27, .inl (cy 1, 13, .inr (.inl (fun _ => 0)))), (q35, .inl (cy 0, 12, .inl (fun _ => 0))), (q44, .inl (cy 1, 5184, .inr (.inl (fun _ => 0)))), (q53, .inl (cy 1, 5184, .inr (.inl (fun _ => 0))))] H := hP
  have hD : va_D A [(h0, .inr (6, [.null, .null, .null, .ref (u9 0), .null, .ref q19, .ref q27, .ref q35, .ref q44, .ref q53, .int 0, .long 0, .int 0, .int 0])), (w1, .inr (8, [.ref b0, .ref b1, .ref b2, .int 0, .int 0, .int 0])), ((u9 0), .inr (1, [])), (q19, .inl (cy 1, 5184, .inr (.inl (fun _ => 0)))), (q27, .inl (cy 1, 13, .inr (.inl (fun _ => 0)))), (q35, .inl (cy 0, 12, .inl (fun _ => 0))), (q44, .inl (cy 1, 5184, .inr (.inl (fun _ => 0)))), (q53, .inl (cy 1, 5184, .inr (.inl (fun _ => 0))))] := hD
  refine lv_aload_n hx hb dX6_init_58 rfl (lv_at hl 0 rfl) ?_
  refine lv_iconst (v := 0) hx hb dX6_init_59 (by decide +kernel) ?_
  refine k_put hx hb hts hown hK hP hD hS fp_RX6_35 0 rfl (Nat.le_of_ble_eq_true rfl) rfl rfl dX6_init_60 (fun H locs hP hD hS => ?_)
  have hP : va_P D vwCl [(h0, .inr (6, [.null, .null, .null, .ref (u9 0), .null, .ref q19, .ref q27, .ref q35, .ref q44, .ref q53, .int 0, .long 0, .int 0, .int 0])), (w1, .inr (8, [.ref b0, .ref b1, .ref b2, .int 0, .int 0, .int 0])), ((u9 0), .inr (1, [])), (q19, .inl (cy 1, 5184, .inr (.inl (fun _ => 0)))), (q27, .inl (cy 1, 13, .inr (.inl (fun _ => 0)))), (q35, .inl (cy 0, 12, .inl (fun _ => 0))), (q44, .inl (cy 1, 5184, .inr (.inl (fun _ => 0)))), (q53, .inl (cy 1, 5184, .inr (.inl (fun _ => 0))))] H := hP
  have hD : va_D A [(h0, .inr (6, [.null, .null, .null, .ref (u9 0), .null, .ref q19, .ref q27, .ref q35, .ref q44, .ref q53, .int 0, .long 0, .int 0, .int 0])), (w1, .inr (8, [.ref b0, .ref b1, .ref b2, .int 0, .int 0, .int 0])), ((u9 0), .inr (1, [])), (q19, .inl (cy 1, 5184, .inr (.inl (fun _ => 0)))), (q27, .inl (cy 1, 13, .inr (.inl (fun _ => 0)))), (q35, .inl (cy 0, 12, .inl (fun _ => 0))), (q44, .inl (cy 1, 5184, .inr (.inl (fun _ => 0)))), (q53, .inl (cy 1, 5184, .inr (.inl (fun _ => 0))))] := hD
  refine lv_aload_n hx hb dX6_init_63 rfl (lv_at hl 0 rfl) ?_
  refine lv_lconst (v := 0) hx hb dX6_init_64 (by decide) ?_
  refine k_put hx hb hts hown hK hP hD hS fp_RX6_39 0 rfl (Nat.le_of_ble_eq_true rfl) rfl rfl dX6_init_65 (fun H locs hP hD hS => ?_)
  have hP : va_P D vwCl [(h0, .inr (6, [.null, .null, .null, .ref (u9 0), .null, .ref q19, .ref q27, .ref q35, .ref q44, .ref q53, .int 0, .long 0, .int 0, .int 0])), (w1, .inr (8, [.ref b0, .ref b1, .ref b2, .int 0, .int 0, .int 0])), ((u9 0), .inr (1, [])), (q19, .inl (cy 1, 5184, .inr (.inl (fun _ => 0)))), (q27, .inl (cy 1, 13, .inr (.inl (fun _ => 0)))), (q35, .inl (cy 0, 12, .inl (fun _ => 0))), (q44, .inl (cy 1, 5184, .inr (.inl (fun _ => 0)))), (q53, .inl (cy 1, 5184, .inr (.inl (fun _ => 0))))] H := hP
  have hD : va_D A [(h0, .inr (6, [.null, .null, .null, .ref (u9 0), .null, .ref q19, .ref q27, .ref q35, .ref q44, .ref q53, .int 0, .long 0, .int 0, .int 0])), (w1, .inr (8, [.ref b0, .ref b1, .ref b2, .int 0, .int 0, .int 0])), ((u9 0), .inr (1, [])), (q19, .inl (cy 1, 5184, .inr (.inl (fun _ => 0)))), (q27, .inl (cy 1, 13, .inr (.inl (fun _ => 0)))), (q35, .inl (cy 0, 12, .inl (fun _ => 0))), (q44, .inl (cy 1, 5184, .inr (.inl (fun _ => 0)))), (q53, .inl (cy 1, 5184, .inr (.inl (fun _ => 0))))] := hD
  refine lv_aload_n hx hb dX6_init_68 rfl (lv_at hl 0 rfl) ?_
  refine lv_iconst (v := 0) hx hb dX6_init_69 (by decide +kernel) ?_
  refine k_put hx hb hts hown hK hP hD hS fp_RX6_43 0 rfl (Nat.le_of_ble_eq_true rfl) (by decide) (by decide) dX6_init_70 (fun H locs hP hD hS => ?_)
  have hP : va_P D vwCl [(h0, .inr (6, [.null, .null, .null, .ref (u9 0), .null, .ref q19, .ref q27, .ref q35, .ref q44, .ref q53, .int 0, .long 0, .int 0, .int 0])), (w1, .inr (8, [.ref b0, .ref b1, .ref b2, .int 0, .int 0, .int 0])), ((u9 0), .inr (1, [])), (q19, .inl (cy 1, 5184, .inr (.inl (fun _ => 0)))), (q27, .inl (cy 1, 13, .inr (.inl (fun _ => 0)))), (q35, .inl (cy 0, 12, .inl (fun _ => 0))), (q44, .inl (cy 1, 5184, .inr (.inl (fun _ => 0)))), (q53, .inl (cy 1, 5184, .inr (.inl (fun _ => 0))))] H := hP
  have hD : va_D A [(h0, .inr (6, [.null, .null, .null, .ref (u9 0), .null, .ref q19, .ref q27, .ref q35, .ref q44, .ref q53, .int 0, .long 0, .int 0, .int 0])), (w1, .inr (8, [.ref b0, .ref b1, .ref b2, .int 0, .int 0, .int 0])), ((u9 0), .inr (1, [])), (q19, .inl (cy 1, 5184, .inr (.inl (fun _ => 0)))), (q27, .inl (cy 1, 13, .inr (.inl (fun _ => 0)))), (q35, .inl (cy 0, 12, .inl (fun _ => 0))), (q44, .inl (cy 1, 5184, .inr (.inl (fun _ => 0)))), (q53, .inl (cy 1, 5184, .inr (.inl (fun _ => 0))))] := hD
  refine lv_aload_n hx hb dX6_init_73 rfl (lv_at hl 0 rfl) ?_
  refine lv_iconst (v := 0) hx hb dX6_init_74 (by decide +kernel) ?_
  refine k_put hx hb hts hown hK hP hD hS fp_RX6_47 0 rfl (Nat.le_of_ble_eq_true rfl) (by decide) (by decide) dX6_init_75 (fun H locs hP hD hS => ?_)
  have hP : va_P D vwCl [(h0, .inr (6, [.null, .null, .null, .ref (u9 0), .null, .ref q19, .ref q27, .ref q35, .ref q44, .ref q53, .int 0, .long 0, .int 0, .int 0])), (w1, .inr (8, [.ref b0, .ref b1, .ref b2, .int 0, .int 0, .int 0])), ((u9 0), .inr (1, [])), (q19, .inl (cy 1, 5184, .inr (.inl (fun _ => 0)))), (q27, .inl (cy 1, 13, .inr (.inl (fun _ => 0)))), (q35, .inl (cy 0, 12, .inl (fun _ => 0))), (q44, .inl (cy 1, 5184, .inr (.inl (fun _ => 0)))), (q53, .inl (cy 1, 5184, .inr (.inl (fun _ => 0))))] H := hP
  have hD : va_D A [(h0, .inr (6, [.null, .null, .null, .ref (u9 0), .null, .ref q19, .ref q27, .ref q35, .ref q44, .ref q53, .int 0, .long 0, .int 0, .int 0])), (w1, .inr (8, [.ref b0, .ref b1, .ref b2, .int 0, .int 0, .int 0])), ((u9 0), .inr (1, [])), (q19, .inl (cy 1, 5184, .inr (.inl (fun _ => 0)))), (q27, .inl (cy 1, 13, .inr (.inl (fun _ => 0)))), (q35, .inl (cy 0, 12, .inl (fun _ => 0))), (q44, .inl (cy 1, 5184, .inr (.inl (fun _ => 0)))), (q53, .inl (cy 1, 5184, .inr (.inl (fun _ => 0))))] := hD
  refine lv_aload_n hx hb dX6_init_78 rfl (lv_at hl 0 rfl) ?_
  refine lv_aload_n hx hb dX6_init_79 rfl (lv_at hl 1 rfl) ?_
  refine k_putF hx hb hts hown hin hK hP hD hS ff_RX6_50 0 rfl (Nat.le_of_ble_eq_true rfl) rfl rfl dX6_init_80 (fun H locs hP hD hS => ?_)
  have hP : va_P D vwCl [(h0, .inr (6, [.ref w0, .null, .null, .ref (u9 0), .null, .ref q19, .ref q27, .ref q35, .ref q44, .ref q53, .int 0, .long 0, .int 0, .int 0])), (w1, .inr (8, [.ref b0, .ref b1, .ref b2, .int 0, .int 0, .int 0])), ((u9 0), .inr (1, [])), (q19, .inl (cy 1, 5184, .inr (.inl (fun _ => 0)))), (q27, .inl (cy 1, 13, .inr (.inl (fun _ => 0)))), (q35, .inl (cy 0, 12, .inl (fun _ => 0))), (q44, .inl (cy 1, 5184, .inr (.inl (fun _ => 0)))), (q53, .inl (cy 1, 5184, .inr (.inl (fun _ => 0))))] H := hP
  have hD : va_D A [(h0, .inr (6, [.ref w0, .null, .null, .ref (u9 0), .null, .ref q19, .ref q27, .ref q35, .ref q44, .ref q53, .int 0, .long 0, .int 0, .int 0])), (w1, .inr (8, [.ref b0, .ref b1, .ref b2, .int 0, .int 0, .int 0])), ((u9 0), .inr (1, [])), (q19, .inl (cy 1, 5184, .inr (.inl (fun _ => 0)))), (q27, .inl (cy 1, 13, .inr (.inl (fun _ => 0)))), (q35, .inl (cy 0, 12, .inl (fun _ => 0))), (q44, .inl (cy 1, 5184, .inr (.inl (fun _ => 0)))), (q53, .inl (cy 1, 5184, .inr (.inl (fun _ => 0))))] := hD
  refine lv_aload_n hx hb dX6_init_83 rfl (lv_at hl 0 rfl) ?_
  refine lv_aload_n hx hb dX6_init_84 rfl (lv_at hl 2 rfl) ?_
  refine k_putF hx hb hts hown hin hK hP hD hS ff_RX6_54 0 rfl (Nat.le_of_ble_eq_true rfl) rfl rfl dX6_init_85 (fun H locs hP hD hS => ?_)
  have hP : va_P D vwCl [(h0, .inr (6, [.ref w0, .ref w1, .null, .ref (u9 0), .null, .ref q19, .ref q27, .ref q35, .ref q44, .ref q53, .int 0, .long 0, .int 0, .int 0])), (w1, .inr (8, [.ref b0, .ref b1, .ref b2, .int 0, .int 0, .int 0])), ((u9 0), .inr (1, [])), (q19, .inl (cy 1, 5184, .inr (.inl (fun _ => 0)))), (q27, .inl (cy 1, 13, .inr (.inl (fun _ => 0)))), (q35, .inl (cy 0, 12, .inl (fun _ => 0))), (q44, .inl (cy 1, 5184, .inr (.inl (fun _ => 0)))), (q53, .inl (cy 1, 5184, .inr (.inl (fun _ => 0))))] H := hP
  have hD : va_D A [(h0, .inr (6, [.ref w0, .ref w1, .null, .ref (u9 0), .null, .ref q19, .ref q27, .ref q35, .ref q44, .ref q53, .int 0, .long 0, .int 0, .int 0])), (w1, .inr (8, [.ref b0, .ref b1, .ref b2, .int 0, .int 0, .int 0])), ((u9 0), .inr (1, [])), (q19, .inl (cy 1, 5184, .inr (.inl (fun _ => 0)))), (q27, .inl (cy 1, 13, .inr (.inl (fun _ => 0)))), (q35, .inl (cy 0, 12, .inl (fun _ => 0))), (q44, .inl (cy 1, 5184, .inr (.inl (fun _ => 0)))), (q53, .inl (cy 1, 5184, .inr (.inl (fun _ => 0))))] := hD
  refine lv_aload_n hx hb dX6_init_88 rfl (lv_at hl 0 rfl) ?_
  refine va_new (ci := 4) (fs := [.null, .null, .null, .null, .null, .null, .null, .null, .null, .int 0, .int 0, .int 0]) (C := RX4) (T := TX4) (N := 12) hx hb hts in_X4 tyX4 tyX4_ok hown (hts _ ql_RX6_58) (hts _ qt_RX4) (hts _ qi_RX4) hK hP hD hS hA rfl (fun j hj => by rcases (show j = 0 ∨ j = 1 ∨ j = 2 ∨ j = 3 ∨ j = 4 ∨ j = 5 ∨ j = 6 ∨ j = 7 ∨ j = 8 ∨ j = 9 ∨ j = 10 ∨ j = 11 by omega) with rfl | rfl | rfl | rfl | rfl | rfl | rfl | rfl | rfl | rfl | rfl | rfl <;> rfl) (by show 6 + 1 ≤ 15; omega) (by show 15577 + 12 ≤ 23388; omega) dX6_init_89 (fun q89 H hP hD hS => ?_)
  have hP : va_P D vwCl [(h0, .inr (6, [.ref w0, .ref w1, .null, .ref (u9 0), .null, .ref q19, .ref q27, .ref q35, .ref q44, .ref q53, .int 0, .long 0, .int 0, .int 0])), (w1, .inr (8, [.ref b0, .ref b1, .ref b2, .int 0, .int 0, .int 0])), ((u9 0), .inr (1, [])), (q19, .inl (cy 1, 5184, .inr (.inl (fun _ => 0)))), (q27, .inl (cy 1, 13, .inr (.inl (fun _ => 0)))), (q35, .inl (cy 0, 12, .inl (fun _ => 0))), (q44, .inl (cy 1, 5184, .inr (.inl (fun _ => 0)))), (q53, .inl (cy 1, 5184, .inr (.inl (fun _ => 0)))), (q89, .inr (4, [.null, .null, .null, .null, .null, .null, .null, .null, .null, .int 0, .int 0, .int 0]))] H := hP
  have hD : va_D A [(h0, .inr (6, [.ref w0, .ref w1, .null, .ref (u9 0), .null, .ref q19, .ref q27, .ref q35, .ref q44, .ref q53, .int 0, .long 0, .int 0, .int 0])), (w1, .inr (8, [.ref b0, .ref b1, .ref b2, .int 0, .int 0, .int 0])), ((u9 0), .inr (1, [])), (q19, .inl (cy 1, 5184, .inr (.inl (fun _ => 0)))), (q27, .inl (cy 1, 13, .inr (.inl (fun _ => 0)))), (q35, .inl (cy 0, 12, .inl (fun _ => 0))), (q44, .inl (cy 1, 5184, .inr (.inl (fun _ => 0)))), (q53, .inl (cy 1, 5184, .inr (.inl (fun _ => 0)))), (q89, .inr (4, [.null, .null, .null, .null, .null, .null, .null, .null, .null, .int 0, .int 0, .int 0]))] := hD
  refine W.widen (k := 7) (n := 15589) (by omega) (by omega) ?_
  refine lv_dup hx hb dX6_init_92 rfl ?_
  refine lv_aload_n hx hb dX6_init_93 rfl (lv_at hl 1 rfl) ?_
  refine lv_aload_n hx hb dX6_init_94 rfl (lv_at hl 2 rfl) ?_
  have hPc := hP.sub (ws' := [(q89, .inr (4, [.null, .null, .null, .null, .null, .null, .null, .null, .null, .int 0, .int 0, .int 0]))]) [8] rfl
  have hDc := hD.sub (ws' := [(q89, .inr (4, [.null, .null, .null, .null, .null, .null, .null, .null, .null, .int 0, .int 0, .int 0]))]) [8] (by decide) rfl
  have hKc := hK.sub (tys' := []) [] rfl
  have hFc := va_free (wc := [(q89, .inr (4, [.null, .null, .null, .null, .null, .null, .null, .null, .null, .int 0, .int 0, .int 0]))]) hD hS hA [8] rfl
  refine va_callv (va_runI (Ts := lw_g) (As := [.ref w0, .ref w1]) (rest := [.ref q89, .ref h0]) ⟨hx, hb, hml, hown, hts⟩ (c_X4_init l D cy q89 w0 w1 H.size) (cwI 2 hts (g_goodx qc_X4_init) rfl rfl rfl (hts _ qi_RX4) (hts _ q_RX6_60) (hts _ qm_X4_init) rfl ⟨by decide, by decide, by decide⟩ ⟨Nat.le_of_ble_eq_true rfl, Nat.le_of_ble_eq_true rfl⟩) ⟨fun a U g mk q => by obtain ⟨q0, q1, qP, qK, qD, qX⟩ := q; exact ⟨q0, q1, qP, va_K.moved (u := U) (U := U.calling g mk a) (Vm.Alike.refl U.vm) qK, qD, kX_same rfl qX⟩, fun U hU hW => ⟨rfl, by rw [hU], by rw [hU]; exact hPc, va_K.moved hW.alike hKc, hDc.weaken (fun _ _ _ _ => trivial), kX_warm hW hk⟩⟩ rfl rfl hl.1 rfl (lv_room (Nat.le_of_ble_eq_true rfl)) dX6_init_95 ⟨by show 7 + 7 ≤ 15; omega, by show 15589 + 7798 ≤ 23388; omega⟩) hS (fun q _ h => hFc q h) hFc (fun u95 t H1 locs ht hvm hw hB hz1 hk1 hS => ?_)
  have hw : u95 0 = q89 := hw
  subst hw
  obtain ⟨hP1, hK1, hD1⟩ := hB
  rw [ht] at hP1
  have hK1 := va_K.moved hvm.symm hK1
  obtain ⟨hP, hD⟩ := va_join (wr := [(h0, .inr (6, [.ref w0, .ref w1, .null, .ref (u9 0), .null, .ref q19, .ref q27, .ref q35, .ref q44, .ref q53, .int 0, .long 0, .int 0, .int 0])), (w1, .inr (8, [.ref b0, .ref b1, .ref b2, .int 0, .int 0, .int 0])), ((u9 0), .inr (1, [])), (q19, .inl (cy 1, 5184, .inr (.inl (fun _ => 0)))), (q27, .inl (cy 1, 13, .inr (.inl (fun _ => 0)))), (q35, .inl (cy 0, 12, .inl (fun _ => 0))), (q44, .inl (cy 1, 5184, .inr (.inl (fun _ => 0)))), (q53, .inl (cy 1, 5184, .inr (.inl (fun _ => 0))))]) (w1 := [((u95 0), .inr (4, [.ref w0, .ref w1, .ref (u95 1), .ref (u95 2), .ref (u95 3), .ref (u95 4), .ref (u95 5), .ref (u95 6), .ref (u95 7), .int 0, .int 0, .int 0])), ((u95 1), .inl (cy 1, 1944, .inr (.inl (fun _ => 0)))), ((u95 2), .inl (cy 0, 1944, .inl (fun _ => 0))), ((u95 3), .inl (cy 0, 1944, .inl (fun _ => 0))), ((u95 4), .inl (cy 0, 1944, .inl (fun _ => 0))), ((u95 5), .inl (cy 0, 8, .inl (fun _ => 0))), ((u95 6), .inl (cy 0, 10, .inl (fun _ => 0))), ((u95 7), .inl (cy 1, 4, .inr (.inl (fun _ => 0))))]) hP hD [8] [0, 1, 2, 3, 4, 5, 6, 7] rfl rfl (by decide) (by decide) hk1 hFc hP1 hD1
  have hK := hK.app hK1
  generalize H1 = H at hP hS ⊢
  have hP : va_P D vwCl [(h0, .inr (6, [.ref w0, .ref w1, .null, .ref (u9 0), .null, .ref q19, .ref q27, .ref q35, .ref q44, .ref q53, .int 0, .long 0, .int 0, .int 0])), (w1, .inr (8, [.ref b0, .ref b1, .ref b2, .int 0, .int 0, .int 0])), ((u9 0), .inr (1, [])), (q19, .inl (cy 1, 5184, .inr (.inl (fun _ => 0)))), (q27, .inl (cy 1, 13, .inr (.inl (fun _ => 0)))), (q35, .inl (cy 0, 12, .inl (fun _ => 0))), (q44, .inl (cy 1, 5184, .inr (.inl (fun _ => 0)))), (q53, .inl (cy 1, 5184, .inr (.inl (fun _ => 0)))), ((u95 0), .inr (4, [.ref w0, .ref w1, .ref (u95 1), .ref (u95 2), .ref (u95 3), .ref (u95 4), .ref (u95 5), .ref (u95 6), .ref (u95 7), .int 0, .int 0, .int 0])), ((u95 1), .inl (cy 1, 1944, .inr (.inl (fun _ => 0)))), ((u95 2), .inl (cy 0, 1944, .inl (fun _ => 0))), ((u95 3), .inl (cy 0, 1944, .inl (fun _ => 0))), ((u95 4), .inl (cy 0, 1944, .inl (fun _ => 0))), ((u95 5), .inl (cy 0, 8, .inl (fun _ => 0))), ((u95 6), .inl (cy 0, 10, .inl (fun _ => 0))), ((u95 7), .inl (cy 1, 4, .inr (.inl (fun _ => 0))))] H := hP
  have hD : va_D A [(h0, .inr (6, [.ref w0, .ref w1, .null, .ref (u9 0), .null, .ref q19, .ref q27, .ref q35, .ref q44, .ref q53, .int 0, .long 0, .int 0, .int 0])), (w1, .inr (8, [.ref b0, .ref b1, .ref b2, .int 0, .int 0, .int 0])), ((u9 0), .inr (1, [])), (q19, .inl (cy 1, 5184, .inr (.inl (fun _ => 0)))), (q27, .inl (cy 1, 13, .inr (.inl (fun _ => 0)))), (q35, .inl (cy 0, 12, .inl (fun _ => 0))), (q44, .inl (cy 1, 5184, .inr (.inl (fun _ => 0)))), (q53, .inl (cy 1, 5184, .inr (.inl (fun _ => 0)))), ((u95 0), .inr (4, [.ref w0, .ref w1, .ref (u95 1), .ref (u95 2), .ref (u95 3), .ref (u95 4), .ref (u95 5), .ref (u95 6), .ref (u95 7), .int 0, .int 0, .int 0])), ((u95 1), .inl (cy 1, 1944, .inr (.inl (fun _ => 0)))), ((u95 2), .inl (cy 0, 1944, .inl (fun _ => 0))), ((u95 3), .inl (cy 0, 1944, .inl (fun _ => 0))), ((u95 4), .inl (cy 0, 1944, .inl (fun _ => 0))), ((u95 5), .inl (cy 0, 8, .inl (fun _ => 0))), ((u95 6), .inl (cy 0, 10, .inl (fun _ => 0))), ((u95 7), .inl (cy 1, 4, .inr (.inl (fun _ => 0))))] := hD
  refine W.widen (k := 14) (n := 23387) (by omega) (by omega) ?_
  refine k_putF hx hb hts hown hin hK hP hD hS ff_RX6_63 0 rfl (Nat.le_of_ble_eq_true rfl) rfl rfl dX6_init_98 (fun H locs hP hD hS => ?_)
  have hP : va_P D vwCl [(h0, .inr (6, [.ref w0, .ref w1, .ref (u95 0), .ref (u9 0), .null, .ref q19, .ref q27, .ref q35, .ref q44, .ref q53, .int 0, .long 0, .int 0, .int 0])), (w1, .inr (8, [.ref b0, .ref b1, .ref b2, .int 0, .int 0, .int 0])), ((u9 0), .inr (1, [])), (q19, .inl (cy 1, 5184, .inr (.inl (fun _ => 0)))), (q27, .inl (cy 1, 13, .inr (.inl (fun _ => 0)))), (q35, .inl (cy 0, 12, .inl (fun _ => 0))), (q44, .inl (cy 1, 5184, .inr (.inl (fun _ => 0)))), (q53, .inl (cy 1, 5184, .inr (.inl (fun _ => 0)))), ((u95 0), .inr (4, [.ref w0, .ref w1, .ref (u95 1), .ref (u95 2), .ref (u95 3), .ref (u95 4), .ref (u95 5), .ref (u95 6), .ref (u95 7), .int 0, .int 0, .int 0])), ((u95 1), .inl (cy 1, 1944, .inr (.inl (fun _ => 0)))), ((u95 2), .inl (cy 0, 1944, .inl (fun _ => 0))), ((u95 3), .inl (cy 0, 1944, .inl (fun _ => 0))), ((u95 4), .inl (cy 0, 1944, .inl (fun _ => 0))), ((u95 5), .inl (cy 0, 8, .inl (fun _ => 0))), ((u95 6), .inl (cy 0, 10, .inl (fun _ => 0))), ((u95 7), .inl (cy 1, 4, .inr (.inl (fun _ => 0))))] H := hP
  have hD : va_D A [(h0, .inr (6, [.ref w0, .ref w1, .ref (u95 0), .ref (u9 0), .null, .ref q19, .ref q27, .ref q35, .ref q44, .ref q53, .int 0, .long 0, .int 0, .int 0])), (w1, .inr (8, [.ref b0, .ref b1, .ref b2, .int 0, .int 0, .int 0])), ((u9 0), .inr (1, [])), (q19, .inl (cy 1, 5184, .inr (.inl (fun _ => 0)))), (q27, .inl (cy 1, 13, .inr (.inl (fun _ => 0)))), (q35, .inl (cy 0, 12, .inl (fun _ => 0))), (q44, .inl (cy 1, 5184, .inr (.inl (fun _ => 0)))), (q53, .inl (cy 1, 5184, .inr (.inl (fun _ => 0)))), ((u95 0), .inr (4, [.ref w0, .ref w1, .ref (u95 1), .ref (u95 2), .ref (u95 3), .ref (u95 4), .ref (u95 5), .ref (u95 6), .ref (u95 7), .int 0, .int 0, .int 0])), ((u95 1), .inl (cy 1, 1944, .inr (.inl (fun _ => 0)))), ((u95 2), .inl (cy 0, 1944, .inl (fun _ => 0))), ((u95 3), .inl (cy 0, 1944, .inl (fun _ => 0))), ((u95 4), .inl (cy 0, 1944, .inl (fun _ => 0))), ((u95 5), .inl (cy 0, 8, .inl (fun _ => 0))), ((u95 6), .inl (cy 0, 10, .inl (fun _ => 0))), ((u95 7), .inl (cy 1, 4, .inr (.inl (fun _ => 0))))] := hD
  refine lv_aload_n hx hb dX6_init_101 rfl (lv_at hl 0 rfl) ?_
  refine va_new (ci := 9) (fs := [.null]) (C := RX10) (T := TX10) (N := 1) hx hb hts in_X10 tyX10 tyX10_ok hown (hts _ ql_RX6_67) (hts _ qt_RX10) (hts _ qi_RX10) hK hP hD hS hA rfl (fun j hj => by rcases (show j = 0 by omega) with rfl <;> rfl) (by show 14 + 1 ≤ 15; omega) (by show 23387 + 1 ≤ 23388; omega) dX6_init_102 (fun q102 H hP hD hS => ?_)
  have hP : va_P D vwCl [(h0, .inr (6, [.ref w0, .ref w1, .ref (u95 0), .ref (u9 0), .null, .ref q19, .ref q27, .ref q35, .ref q44, .ref q53, .int 0, .long 0, .int 0, .int 0])), (w1, .inr (8, [.ref b0, .ref b1, .ref b2, .int 0, .int 0, .int 0])), ((u9 0), .inr (1, [])), (q19, .inl (cy 1, 5184, .inr (.inl (fun _ => 0)))), (q27, .inl (cy 1, 13, .inr (.inl (fun _ => 0)))), (q35, .inl (cy 0, 12, .inl (fun _ => 0))), (q44, .inl (cy 1, 5184, .inr (.inl (fun _ => 0)))), (q53, .inl (cy 1, 5184, .inr (.inl (fun _ => 0)))), ((u95 0), .inr (4, [.ref w0, .ref w1, .ref (u95 1), .ref (u95 2), .ref (u95 3), .ref (u95 4), .ref (u95 5), .ref (u95 6), .ref (u95 7), .int 0, .int 0, .int 0])), ((u95 1), .inl (cy 1, 1944, .inr (.inl (fun _ => 0)))), ((u95 2), .inl (cy 0, 1944, .inl (fun _ => 0))), ((u95 3), .inl (cy 0, 1944, .inl (fun _ => 0))), ((u95 4), .inl (cy 0, 1944, .inl (fun _ => 0))), ((u95 5), .inl (cy 0, 8, .inl (fun _ => 0))), ((u95 6), .inl (cy 0, 10, .inl (fun _ => 0))), ((u95 7), .inl (cy 1, 4, .inr (.inl (fun _ => 0)))), (q102, .inr (9, [.null]))] H := hP
  have hD : va_D A [(h0, .inr (6, [.ref w0, .ref w1, .ref (u95 0), .ref (u9 0), .null, .ref q19, .ref q27, .ref q35, .ref q44, .ref q53, .int 0, .long 0, .int 0, .int 0])), (w1, .inr (8, [.ref b0, .ref b1, .ref b2, .int 0, .int 0, .int 0])), ((u9 0), .inr (1, [])), (q19, .inl (cy 1, 5184, .inr (.inl (fun _ => 0)))), (q27, .inl (cy 1, 13, .inr (.inl (fun _ => 0)))), (q35, .inl (cy 0, 12, .inl (fun _ => 0))), (q44, .inl (cy 1, 5184, .inr (.inl (fun _ => 0)))), (q53, .inl (cy 1, 5184, .inr (.inl (fun _ => 0)))), ((u95 0), .inr (4, [.ref w0, .ref w1, .ref (u95 1), .ref (u95 2), .ref (u95 3), .ref (u95 4), .ref (u95 5), .ref (u95 6), .ref (u95 7), .int 0, .int 0, .int 0])), ((u95 1), .inl (cy 1, 1944, .inr (.inl (fun _ => 0)))), ((u95 2), .inl (cy 0, 1944, .inl (fun _ => 0))), ((u95 3), .inl (cy 0, 1944, .inl (fun _ => 0))), ((u95 4), .inl (cy 0, 1944, .inl (fun _ => 0))), ((u95 5), .inl (cy 0, 8, .inl (fun _ => 0))), ((u95 6), .inl (cy 0, 10, .inl (fun _ => 0))), ((u95 7), .inl (cy 1, 4, .inr (.inl (fun _ => 0)))), (q102, .inr (9, [.null]))] := hD
  refine W.widen (k := 15) (n := 23388) (by omega) (by omega) ?_
  refine lv_dup hx hb dX6_init_105 rfl ?_
  refine lv_aload_n hx hb dX6_init_106 rfl (lv_at hl 2 rfl) ?_
  refine k_get hx hb hts hown hK hP f_RX6_69 1 rfl rfl dX6_init_107 ?_
  have hPc := hP.sub (ws' := [(q102, .inr (9, [.null]))]) [16] rfl
  have hDc := hD.sub (ws' := [(q102, .inr (9, [.null]))]) [16] (by decide) rfl
  have hKc := hK.sub (tys' := []) [] rfl
  have hFc := va_free (wc := [(q102, .inr (9, [.null]))]) hD hS hA [16] rfl
  refine va_callv (va_runI (Ts := lw_g) (As := [.ref b1]) (rest := [.ref q102, .ref h0]) ⟨hx, hb, hml, hown, hts⟩ (c_X10_init l D cy q102 b1 H.size) (cwI 1 hts (g_goodx qc_X10_init) rfl rfl rfl (hts _ qi_RX10) (hts _ q_RX6_74) (hts _ qm_X10_init) rfl ⟨by decide, by decide, by decide⟩ ⟨Nat.le_of_ble_eq_true rfl, Nat.le_of_ble_eq_true rfl⟩) ⟨fun a U g mk q => by obtain ⟨q0, q1, qP, qK, qD, qX⟩ := q; exact ⟨q0, q1, qP, va_K.moved (u := U) (U := U.calling g mk a) (Vm.Alike.refl U.vm) qK, qD, kX_same rfl qX⟩, fun U hU hW => ⟨rfl, by rw [hU], by rw [hU]; exact hPc, va_K.moved hW.alike hKc, hDc.weaken (fun _ _ _ _ => trivial), kX_warm hW hk⟩⟩ rfl rfl hl.1 rfl (lv_room (Nat.le_of_ble_eq_true rfl)) dX6_init_110 ⟨by show 15 + 0 ≤ 15; omega, by show 23388 + 0 ≤ 23388; omega⟩) hS (fun q _ h => hFc q h) hFc (fun u110 t H1 locs ht hvm hw hB hz1 hk1 hS => ?_)
  have hw : u110 0 = q102 := hw
  subst hw
  obtain ⟨hP1, hK1, hD1⟩ := hB
  rw [ht] at hP1
  have hK1 := va_K.moved hvm.symm hK1
  obtain ⟨hP, hD⟩ := va_join (wr := [(h0, .inr (6, [.ref w0, .ref w1, .ref (u95 0), .ref (u9 0), .null, .ref q19, .ref q27, .ref q35, .ref q44, .ref q53, .int 0, .long 0, .int 0, .int 0])), (w1, .inr (8, [.ref b0, .ref b1, .ref b2, .int 0, .int 0, .int 0])), ((u9 0), .inr (1, [])), (q19, .inl (cy 1, 5184, .inr (.inl (fun _ => 0)))), (q27, .inl (cy 1, 13, .inr (.inl (fun _ => 0)))), (q35, .inl (cy 0, 12, .inl (fun _ => 0))), (q44, .inl (cy 1, 5184, .inr (.inl (fun _ => 0)))), (q53, .inl (cy 1, 5184, .inr (.inl (fun _ => 0)))), ((u95 0), .inr (4, [.ref w0, .ref w1, .ref (u95 1), .ref (u95 2), .ref (u95 3), .ref (u95 4), .ref (u95 5), .ref (u95 6), .ref (u95 7), .int 0, .int 0, .int 0])), ((u95 1), .inl (cy 1, 1944, .inr (.inl (fun _ => 0)))), ((u95 2), .inl (cy 0, 1944, .inl (fun _ => 0))), ((u95 3), .inl (cy 0, 1944, .inl (fun _ => 0))), ((u95 4), .inl (cy 0, 1944, .inl (fun _ => 0))), ((u95 5), .inl (cy 0, 8, .inl (fun _ => 0))), ((u95 6), .inl (cy 0, 10, .inl (fun _ => 0))), ((u95 7), .inl (cy 1, 4, .inr (.inl (fun _ => 0))))]) (w1 := [((u110 0), .inr (9, [.ref b1]))]) hP hD [16] [0, 1, 2, 3, 4, 5, 6, 7, 8, 9, 10, 11, 12, 13, 14, 15] rfl rfl (by decide) (by decide) hk1 hFc hP1 hD1
  have hK := hK.app hK1
  generalize H1 = H at hP hS ⊢
  have hP : va_P D vwCl [(h0, .inr (6, [.ref w0, .ref w1, .ref (u95 0), .ref (u9 0), .null, .ref q19, .ref q27, .ref q35, .ref q44, .ref q53, .int 0, .long 0, .int 0, .int 0])), (w1, .inr (8, [.ref b0, .ref b1, .ref b2, .int 0, .int 0, .int 0])), ((u9 0), .inr (1, [])), (q19, .inl (cy 1, 5184, .inr (.inl (fun _ => 0)))), (q27, .inl (cy 1, 13, .inr (.inl (fun _ => 0)))), (q35, .inl (cy 0, 12, .inl (fun _ => 0))), (q44, .inl (cy 1, 5184, .inr (.inl (fun _ => 0)))), (q53, .inl (cy 1, 5184, .inr (.inl (fun _ => 0)))), ((u95 0), .inr (4, [.ref w0, .ref w1, .ref (u95 1), .ref (u95 2), .ref (u95 3), .ref (u95 4), .ref (u95 5), .ref (u95 6), .ref (u95 7), .int 0, .int 0, .int 0])), ((u95 1), .inl (cy 1, 1944, .inr (.inl (fun _ => 0)))), ((u95 2), .inl (cy 0, 1944, .inl (fun _ => 0))), ((u95 3), .inl (cy 0, 1944, .inl (fun _ => 0))), ((u95 4), .inl (cy 0, 1944, .inl (fun _ => 0))), ((u95 5), .inl (cy 0, 8, .inl (fun _ => 0))), ((u95 6), .inl (cy 0, 10, .inl (fun _ => 0))), ((u95 7), .inl (cy 1, 4, .inr (.inl (fun _ => 0)))), ((u110 0), .inr (9, [.ref b1]))] H := hP
  have hD : va_D A [(h0, .inr (6, [.ref w0, .ref w1, .ref (u95 0), .ref (u9 0), .null, .ref q19, .ref q27, .ref q35, .ref q44, .ref q53, .int 0, .long 0, .int 0, .int 0])), (w1, .inr (8, [.ref b0, .ref b1, .ref b2, .int 0, .int 0, .int 0])), ((u9 0), .inr (1, [])), (q19, .inl (cy 1, 5184, .inr (.inl (fun _ => 0)))), (q27, .inl (cy 1, 13, .inr (.inl (fun _ => 0)))), (q35, .inl (cy 0, 12, .inl (fun _ => 0))), (q44, .inl (cy 1, 5184, .inr (.inl (fun _ => 0)))), (q53, .inl (cy 1, 5184, .inr (.inl (fun _ => 0)))), ((u95 0), .inr (4, [.ref w0, .ref w1, .ref (u95 1), .ref (u95 2), .ref (u95 3), .ref (u95 4), .ref (u95 5), .ref (u95 6), .ref (u95 7), .int 0, .int 0, .int 0])), ((u95 1), .inl (cy 1, 1944, .inr (.inl (fun _ => 0)))), ((u95 2), .inl (cy 0, 1944, .inl (fun _ => 0))), ((u95 3), .inl (cy 0, 1944, .inl (fun _ => 0))), ((u95 4), .inl (cy 0, 1944, .inl (fun _ => 0))), ((u95 5), .inl (cy 0, 8, .inl (fun _ => 0))), ((u95 6), .inl (cy 0, 10, .inl (fun _ => 0))), ((u95 7), .inl (cy 1, 4, .inr (.inl (fun _ => 0)))), ((u110 0), .inr (9, [.ref b1]))] := hD
  refine W.widen (k := 15) (n := 23388) (by omega) (by omega) ?_
  refine k_putF hx hb hts hown hin hK hP hD hS ff_RX6_77 0 rfl (Nat.le_of_ble_eq_true rfl) rfl rfl dX6_init_113 (fun H locs hP hD hS => ?_)
  have hP : va_P D vwCl [(h0, .inr (6, [.ref w0, .ref w1, .ref (u95 0), .ref (u9 0), .ref (u110 0), .ref q19, .ref q27, .ref q35, .ref q44, .ref q53, .int 0, .long 0, .int 0, .int 0])), (w1, .inr (8, [.ref b0, .ref b1, .ref b2, .int 0, .int 0, .int 0])), ((u9 0), .inr (1, [])), (q19, .inl (cy 1, 5184, .inr (.inl (fun _ => 0)))), (q27, .inl (cy 1, 13, .inr (.inl (fun _ => 0)))), (q35, .inl (cy 0, 12, .inl (fun _ => 0))), (q44, .inl (cy 1, 5184, .inr (.inl (fun _ => 0)))), (q53, .inl (cy 1, 5184, .inr (.inl (fun _ => 0)))), ((u95 0), .inr (4, [.ref w0, .ref w1, .ref (u95 1), .ref (u95 2), .ref (u95 3), .ref (u95 4), .ref (u95 5), .ref (u95 6), .ref (u95 7), .int 0, .int 0, .int 0])), ((u95 1), .inl (cy 1, 1944, .inr (.inl (fun _ => 0)))), ((u95 2), .inl (cy 0, 1944, .inl (fun _ => 0))), ((u95 3), .inl (cy 0, 1944, .inl (fun _ => 0))), ((u95 4), .inl (cy 0, 1944, .inl (fun _ => 0))), ((u95 5), .inl (cy 0, 8, .inl (fun _ => 0))), ((u95 6), .inl (cy 0, 10, .inl (fun _ => 0))), ((u95 7), .inl (cy 1, 4, .inr (.inl (fun _ => 0)))), ((u110 0), .inr (9, [.ref b1]))] H := hP
  have hD : va_D A [(h0, .inr (6, [.ref w0, .ref w1, .ref (u95 0), .ref (u9 0), .ref (u110 0), .ref q19, .ref q27, .ref q35, .ref q44, .ref q53, .int 0, .long 0, .int 0, .int 0])), (w1, .inr (8, [.ref b0, .ref b1, .ref b2, .int 0, .int 0, .int 0])), ((u9 0), .inr (1, [])), (q19, .inl (cy 1, 5184, .inr (.inl (fun _ => 0)))), (q27, .inl (cy 1, 13, .inr (.inl (fun _ => 0)))), (q35, .inl (cy 0, 12, .inl (fun _ => 0))), (q44, .inl (cy 1, 5184, .inr (.inl (fun _ => 0)))), (q53, .inl (cy 1, 5184, .inr (.inl (fun _ => 0)))), ((u95 0), .inr (4, [.ref w0, .ref w1, .ref (u95 1), .ref (u95 2), .ref (u95 3), .ref (u95 4), .ref (u95 5), .ref (u95 6), .ref (u95 7), .int 0, .int 0, .int 0])), ((u95 1), .inl (cy 1, 1944, .inr (.inl (fun _ => 0)))), ((u95 2), .inl (cy 0, 1944, .inl (fun _ => 0))), ((u95 3), .inl (cy 0, 1944, .inl (fun _ => 0))), ((u95 4), .inl (cy 0, 1944, .inl (fun _ => 0))), ((u95 5), .inl (cy 0, 8, .inl (fun _ => 0))), ((u95 6), .inl (cy 0, 10, .inl (fun _ => 0))), ((u95 7), .inl (cy 1, 4, .inr (.inl (fun _ => 0)))), ((u110 0), .inr (9, [.ref b1]))] := hD
  have hP9 := hP.sub (ws' := [(h0, .inr (6, [.ref w0, .ref w1, .ref (u95 0), .ref (u9 0), .ref (u110 0), .ref q19, .ref q27, .ref q35, .ref q44, .ref q53, .int 0, .long 0, .int 0, .int 0])), ((u9 0), .inr (1, [])), (q19, .inl (cy 1, 5184, .inr (.inl (fun _ => 0)))), (q27, .inl (cy 1, 13, .inr (.inl (fun _ => 0)))), (q35, .inl (cy 0, 12, .inl (fun _ => 0))), (q44, .inl (cy 1, 5184, .inr (.inl (fun _ => 0)))), (q53, .inl (cy 1, 5184, .inr (.inl (fun _ => 0)))), ((u95 0), .inr (4, [.ref w0, .ref w1, .ref (u95 1), .ref (u95 2), .ref (u95 3), .ref (u95 4), .ref (u95 5), .ref (u95 6), .ref (u95 7), .int 0, .int 0, .int 0])), ((u95 1), .inl (cy 1, 1944, .inr (.inl (fun _ => 0)))), ((u95 2), .inl (cy 0, 1944, .inl (fun _ => 0))), ((u95 3), .inl (cy 0, 1944, .inl (fun _ => 0))), ((u95 4), .inl (cy 0, 1944, .inl (fun _ => 0))), ((u95 5), .inl (cy 0, 8, .inl (fun _ => 0))), ((u95 6), .inl (cy 0, 10, .inl (fun _ => 0))), ((u95 7), .inl (cy 1, 4, .inr (.inl (fun _ => 0)))), ((u110 0), .inr (9, [.ref b1])), (w1, .inr (8, [.ref b0, .ref b1, .ref b2, .int 0, .int 0, .int 0]))]) [0, 2, 3, 4, 5, 6, 7, 8, 9, 10, 11, 12, 13, 14, 15, 16, 1] rfl
  have hD9 := hD.sub (ws' := [(h0, .inr (6, [.ref w0, .ref w1, .ref (u95 0), .ref (u9 0), .ref (u110 0), .ref q19, .ref q27, .ref q35, .ref q44, .ref q53, .int 0, .long 0, .int 0, .int 0])), ((u9 0), .inr (1, [])), (q19, .inl (cy 1, 5184, .inr (.inl (fun _ => 0)))), (q27, .inl (cy 1, 13, .inr (.inl (fun _ => 0)))), (q35, .inl (cy 0, 12, .inl (fun _ => 0))), (q44, .inl (cy 1, 5184, .inr (.inl (fun _ => 0)))), (q53, .inl (cy 1, 5184, .inr (.inl (fun _ => 0)))), ((u95 0), .inr (4, [.ref w0, .ref w1, .ref (u95 1), .ref (u95 2), .ref (u95 3), .ref (u95 4), .ref (u95 5), .ref (u95 6), .ref (u95 7), .int 0, .int 0, .int 0])), ((u95 1), .inl (cy 1, 1944, .inr (.inl (fun _ => 0)))), ((u95 2), .inl (cy 0, 1944, .inl (fun _ => 0))), ((u95 3), .inl (cy 0, 1944, .inl (fun _ => 0))), ((u95 4), .inl (cy 0, 1944, .inl (fun _ => 0))), ((u95 5), .inl (cy 0, 8, .inl (fun _ => 0))), ((u95 6), .inl (cy 0, 10, .inl (fun _ => 0))), ((u95 7), .inl (cy 1, 4, .inr (.inl (fun _ => 0)))), ((u110 0), .inr (9, [.ref b1])), (w1, .inr (8, [.ref b0, .ref b1, .ref b2, .int 0, .int 0, .int 0]))]) [0, 2, 3, 4, 5, 6, 7, 8, 9, 10, 11, 12, 13, 14, 15, 16, 1] (by decide) rfl
  have hK9 := hK.sub (tys' := []) [] rfl
  exact W.vret hx hb hr (fun t ht hW => ⟨⟨adL [h0, (u9 0), q19, q27, q35, q44, q53, (u95 0), (u95 1), (u95 2), (u95 3), (u95 4), (u95 5), (u95 6), (u95 7), (u110 0)], rfl, rfl, by rw [ht]; exact hP9, va_K.moved hW.alike hK9, hD9⟩, hS.F ht⟩) hS.2.2 dX6_init_116 hlocks
set_option maxHeartbeats 4000000 in
set_option maxRecDepth 100000 in
theorem c_X0_init (l : Launch) (D : va_G) (cy : Nat → ClassId) (h0 w0 w1 w2 : Nat) (sz : Nat) : Met l yX0_init (xws yX0_init cX0_init 4 none) ({ frames := 3, cells := 5, slots := 279, locals := 88 }) (va_Pc [.ref h0, .ref w0, .ref w1, .ref w2] (fun U => U.heap.size = sz ∧ va_P D vwCl [(h0, .inr (0, [.null, .null, .null, .null, .null, .null, .null, .int 0, .int 0, .int 0]))] U.heap ∧ va_K D vwCl [] U ∧ va_D (fun _ => True) [(h0, .inr (0, [.null, .null, .null, .null, .null, .null, .null, .int 0, .int 0, .int 0]))] ∧ kX cy U)) (va_Qv (fun u : Nat → Nat => u 0 = h0) (fun u t => va_P D vwCl [((u 0), .inr (0, [.ref w0, .ref w1, .ref w2, .ref (u 1), .ref (u 3), .ref (u 4), .ref (u 5), .int 0, .int 0, .int 0])), ((u 1), .inr (3, [.ref (u 2)])), ((u 2), .inl (cy 1, 10, .inr (.inl (fun _ => 0)))), ((u 3), .inl (cy 0, 8, .inl (fun _ => 0))), ((u 4), .inl (cy 1, 4, .inr (.inl (fun _ => 0)))), ((u 5), .inl (cy 1, 256, .inr (.inl (fun _ => 0))))] t.heap ∧ va_K D vwCl [] t ∧ va_D (va_A [(h0, .inr (0, [.null, .null, .null, .null, .null, .null, .null, .int 0, .int 0, .int 0]))] sz) [((u 0), .inr (0, [.ref w0, .ref w1, .ref w2, .ref (u 1), .ref (u 3), .ref (u 4), .ref (u 5), .int 0, .int 0, .int 0])), ((u 1), .inr (3, [.ref (u 2)])), ((u 2), .inl (cy 1, 10, .inr (.inl (fun _ => 0)))), ((u 3), .inl (cy 0, 8, .inl (fun _ => 0))), ((u 4), .inl (cy 1, 4, .inr (.inl (fun _ => 0)))), ((u 5), .inl (cy 1, 256, .inr (.inl (fun _ => 0))))]) (va_A [(h0, .inr (0, [.null, .null, .null, .null, .null, .null, .null, .int 0, .int 0, .int 0]))] sz)) 5 279 (va_A [(h0, .inr (0, [.null, .null, .null, .null, .null, .null, .null, .int 0, .int 0, .int 0]))] sz) := by
  refine Met.ofW (cc := cX0_init) (maxL := 4) (ret := none) (by decide) rfl ?_
  intro p e s m args below meth c s₁ B hml hv
  obtain ⟨rfl, hsz, hP, hK, hD0, hk⟩ := hv
  have hx := B.exec
  have hb := B.bytes
  have hr := B.returns
  have hts : ∀ w ∈ lw_g, w.before _ s = true := fun w hw => atoms_spec (ws := xws yX0_init cX0_init 4 none) B.pre w (List.mem_cons_of_mem _ hw)
  have hown : s.vm.findClass RX0 = some m.cls := findClass_of_methodNamed B.named
  have hlocks := B.notSynchronized
  have hin : meth.name = "<init>" := (name_of_methodNamed B.named B.method).1
  subst hsz
  have hD := hD0.self (sz := s.heap.size)
  generalize hAe : va_A [(h0, .inr (0, [.null, .null, .null, .null, .null, .null, .null, .int 0, .int 0, .int 0]))] s.heap.size = A at hD ⊢
  have hA : ∀ q : Nat, s.heap.size ≤ q → A q := fun q h => by rw [← hAe]; exact Or.inr h
  have hS : va_S A s.heap s.heap [] := va_S.rf
  have hP : va_P D vwCl [(h0, .inr (0, [.null, .null, .null, .null, .null, .null, .null, .int 0, .int 0, .int 0]))] s.heap := hP
  have hl := lv_entry ([.ref h0, .ref w0, .ref w1, .ref w2] : List Value) (n := 4) (Nat.le_of_ble_eq_true rfl)
  rw [lg_entry_eq]
  generalize (lg_sl [.ref h0, .ref w0, .ref w1, .ref w2] ++ List.replicate (4 - (lg_sl [.ref h0, .ref w0, .ref w1, .ref w2]).length) Slot.unset).toArray = ls at hl ⊢
  have hl : lv_has ls 4 [(0, .ref h0), (1, .ref w0), (2, .ref w1), (3, .ref w2)] := hl
  refine lv_aload_n hx hb dX0_init_0 rfl (lv_at hl 0 rfl) ?_
  refine W.objInit hx hb hown (hts _ qo_RX0) (hts _ qo_inst) (hts _ qo_code) rfl (by rw [hml]; exact hl.1.trans rfl) rfl dX0_init_1 (Nat.le_of_ble_eq_true rfl) (Nat.le_of_ble_eq_true rfl) ?_
  refine W.eq (g2 := F0 m 4 ls []) rfl ?_
  refine lv_aload_n hx hb dX0_init_4 rfl (lv_at hl 0 rfl) ?_
  refine va_new (ci := 3) (fs := [.null]) (C := RX3) (T := TX3) (N := 1) hx hb hts in_X3 tyX3 tyX3_ok hown (hts _ ql_RX0_9) (hts _ qt_RX3) (hts _ qi_RX3) hK hP hD hS hA rfl (fun j hj => by rcases (show j = 0 by omega) with rfl <;> rfl) (by show 0 + 1 ≤ 5; omega) (by show 0 + 1 ≤ 279; omega) dX0_init_5 (fun q5 H hP hD hS => ?_)
  have hP : va_P D vwCl [(h0, .inr (0, [.null, .null, .null, .null, .null, .null, .null, .int 0, .int 0, .int 0])), (q5, .inr (3, [.null]))] H := hP
  have hD : va_D A [(h0, .inr (0, [.null, .null, .null, .null, .null, .null, .null, .int 0, .int 0, .int 0])), (q5, .inr (3, [.null]))] := hD
  refine W.widen (k := 1) (n := 1) (by omega) (by omega) ?_
  refine lv_dup hx hb dX0_init_8 rfl ?_
  have hPc := hP.sub (ws' := [(q5, .inr (3, [.null]))]) [1] rfl
  have hDc := hD.sub (ws' := [(q5, .inr (3, [.null]))]) [1] (by decide) rfl
  have hKc := hK.sub (tys' := []) [] rfl
  have hFc := va_free (wc := [(q5, .inr (3, [.null]))]) hD hS hA [1] rfl
  refine va_callv (va_runIN (Ts := lw_g) (As := []) (rest := [.ref q5, .ref h0]) ⟨hx, hb, hml, hown, hts⟩ (c_X3_init l D cy q5 H.size) ⟨va_cnB 0 hts (g_goodx qc_X3_init) rfl rfl rfl (hk.2.2.2.2.2.2.2.2.2.2.1) (hts _ qi_RX3) ⟨by decide, by decide, by decide⟩ ⟨Nat.le_of_ble_eq_true rfl, Nat.le_of_ble_eq_true rfl⟩, rfl, hts _ qm_X3_init⟩ ⟨fun a U g mk q => by obtain ⟨q0, q1, qP, qK, qD, qX⟩ := q; exact ⟨q0, q1, qP, va_K.moved (u := U) (U := U.calling g mk a) (Vm.Alike.refl U.vm) qK, qD, kX_same rfl qX⟩, fun U hU hW => ⟨rfl, by rw [hU], by rw [hU]; exact hPc, va_K.moved hW.alike hKc, hDc.weaken (fun _ _ _ _ => trivial), kX_warm hW hk⟩⟩ rfl rfl hl.1 rfl (lv_room (Nat.le_of_ble_eq_true rfl)) dX0_init_9 ⟨by show 1 + 1 ≤ 5; omega, by show 1 + 10 ≤ 279; omega⟩) hS (fun q _ h => hFc q h) hFc (fun u9 t H1 locs ht hvm hw hB hz1 hk1 hS => ?_)
  have hw : u9 0 = q5 := hw
  subst hw
  obtain ⟨hP1, hK1, hD1⟩ := hB
  rw [ht] at hP1
  have hK1 := va_K.moved hvm.symm hK1
  obtain ⟨hP, hD⟩ := va_join (wr := [(h0, .inr (0, [.null, .null, .null, .null, .null, .null, .null, .int 0, .int 0, .int 0]))]) (w1 := [((u9 0), .inr (3, [.ref (u9 1)])), ((u9 1), .inl (cy 1, 10, .inr (.inl (fun _ => 0))))]) hP hD [1] [0] rfl rfl (by decide) (by decide) hk1 hFc hP1 hD1
  have hK := hK.app hK1
  generalize H1 = H at hP hS ⊢
  have hP : va_P D vwCl [(h0, .inr (0, [.null, .null, .null, .null, .null, .null, .null, .int 0, .int 0, .int 0])), ((u9 0), .inr (3, [.ref (u9 1)])), ((u9 1), .inl (cy 1, 10, .inr (.inl (fun _ => 0))))] H := hP
  have hD : va_D A [(h0, .inr (0, [.null, .null, .null, .null, .null, .null, .null, .int 0, .int 0, .int 0])), ((u9 0), .inr (3, [.ref (u9 1)])), ((u9 1), .inl (cy 1, 10, .inr (.inl (fun _ => 0))))] := hD
  refine W.widen (k := 2) (n := 11) (by omega) (by omega) ?_
  refine k_putF hx hb hts hown hin hK hP hD hS ff_RX0_12 0 rfl (Nat.le_of_ble_eq_true rfl) rfl rfl dX0_init_12 (fun H locs hP hD hS => ?_)
  have hP : va_P D vwCl [(h0, .inr (0, [.null, .null, .null, .ref (u9 0), .null, .null, .null, .int 0, .int 0, .int 0])), ((u9 0), .inr (3, [.ref (u9 1)])), ((u9 1), .inl (cy 1, 10, .inr (.inl (fun _ => 0))))] H := hP
  have hD : va_D A [(h0, .inr (0, [.null, .null, .null, .ref (u9 0), .null, .null, .null, .int 0, .int 0, .int 0])), ((u9 0), .inr (3, [.ref (u9 1)])), ((u9 1), .inl (cy 1, 10, .inr (.inl (fun _ => 0))))] := hD
  refine lv_aload_n hx hb dX0_init_15 rfl (lv_at hl 0 rfl) ?_
  refine lv_bipush (v := 8) hx hb dX0_init_16 (by decide +kernel) ?_
  refine k_newI (N := 8) hx hb (hts _ qa_int) hk hK hP hD hS hA (by decide +kernel) (by decide +kernel) (by decide +kernel) (by show 2 + 1 ≤ 5; omega) (by show 11 + 8 ≤ 279; omega) dX0_init_18 (fun q18 H hK hP hD hS => ?_)
  have hP : va_P D vwCl [(h0, .inr (0, [.null, .null, .null, .ref (u9 0), .null, .null, .null, .int 0, .int 0, .int 0])), ((u9 0), .inr (3, [.ref (u9 1)])), ((u9 1), .inl (cy 1, 10, .inr (.inl (fun _ => 0)))), (q18, .inl (cy 0, 8, .inl (fun _ => 0)))] H := hP
  have hD : va_D A [(h0, .inr (0, [.null, .null, .null, .ref (u9 0), .null, .null, .null, .int 0, .int 0, .int 0])), ((u9 0), .inr (3, [.ref (u9 1)])), ((u9 1), .inl (cy 1, 10, .inr (.inl (fun _ => 0)))), (q18, .inl (cy 0, 8, .inl (fun _ => 0)))] := hD
  refine W.widen (k := 3) (n := 19) (by omega) (by omega) ?_
  refine k_putF hx hb hts hown hin hK hP hD hS ff_RX0_18 0 rfl (Nat.le_of_ble_eq_true rfl) rfl rfl dX0_init_20 (fun H locs hP hD hS => ?_)
  have hP : va_P D vwCl [(h0, .inr (0, [.null, .null, .null, .ref (u9 0), .ref q18, .null, .null, .int 0, .int 0, .int 0])), ((u9 0), .inr (3, [.ref (u9 1)])), ((u9 1), .inl (cy 1, 10, .inr (.inl (fun _ => 0)))), (q18, .inl (cy 0, 8, .inl (fun _ => 0)))] H := hP
  have hD : va_D A [(h0, .inr (0, [.null, .null, .null, .ref (u9 0), .ref q18, .null, .null, .int 0, .int 0, .int 0])), ((u9 0), .inr (3, [.ref (u9 1)])), ((u9 1), .inl (cy 1, 10, .inr (.inl (fun _ => 0)))), (q18, .inl (cy 0, 8, .inl (fun _ => 0)))] := hD
  refine lv_aload_n hx hb dX0_init_23 rfl (lv_at hl 0 rfl) ?_
  refine lv_iconst (v := 4) hx hb dX0_init_24 (by decide +kernel) ?_
  refine k_newJ (N := 4) hx hb (hts _ qa_long) hk hK hP hD hS hA (by decide +kernel) (by decide +kernel) (by decide +kernel) (by show 3 + 1 ≤ 5; omega) (by show 19 + 4 ≤ 279; omega) dX0_init_25 (fun q25 H hK hP hD hS => ?_)
  have hP : va_P D vwCl [(h0, .inr (0, [.null, .null, .null, .ref (u9 0), .ref q18, .null, .null, .int 0, .int 0, .int 0])), ((u9 0), .inr (3, [.ref (u9 1)])), ((u9 1), .inl (cy 1, 10, .inr (.inl (fun _ => 0)))), (q18, .inl (cy 0, 8, .inl (fun _ => 0))), (q25, .inl (cy 1, 4, .inr (.inl (fun _ => 0))))] H := hP
  have hD : va_D A [(h0, .inr (0, [.null, .null, .null, .ref (u9 0), .ref q18, .null, .null, .int 0, .int 0, .int 0])), ((u9 0), .inr (3, [.ref (u9 1)])), ((u9 1), .inl (cy 1, 10, .inr (.inl (fun _ => 0)))), (q18, .inl (cy 0, 8, .inl (fun _ => 0))), (q25, .inl (cy 1, 4, .inr (.inl (fun _ => 0))))] := hD
  refine W.widen (k := 4) (n := 23) (by omega) (by omega) ?_
  refine k_putF hx hb hts hown hin hK hP hD hS ff_RX0_22 0 rfl (Nat.le_of_ble_eq_true rfl) rfl rfl dX0_init_27 (fun H locs hP hD hS => ?_)
  have hP : va_P D vwCl [(h0, .inr (0, [.null, .null, .null, .ref (u9 0), .ref q18, .ref q25, .null, .int 0, .int 0, .int 0])), ((u9 0), .inr (3, [.ref (u9 1)])), ((u9 1), .inl (cy 1, 10, .inr (.inl (fun _ => 0)))), (q18, .inl (cy 0, 8, .inl (fun _ => 0))), (q25, .inl (cy 1, 4, .inr (.inl (fun _ => 0))))] H := hP
  have hD : va_D A [(h0, .inr (0, [.null, .null, .null, .ref (u9 0), .ref q18, .ref q25, .null, .int 0, .int 0, .int 0])), ((u9 0), .inr (3, [.ref (u9 1)])), ((u9 1), .inl (cy 1, 10, .inr (.inl (fun _ => 0)))), (q18, .inl (cy 0, 8, .inl (fun _ => 0))), (q25, .inl (cy 1, 4, .inr (.inl (fun _ => 0))))] := hD
  refine lv_aload_n hx hb dX0_init_30 rfl (lv_at hl 0 rfl) ?_
  refine lv_sipush (v := 256) hx hb dX0_init_31 (by decide +kernel) ?_
  refine k_newJ (N := 256) hx hb (hts _ qa_long) hk hK hP hD hS hA (by decide +kernel) (by decide +kernel) (by decide +kernel) (by show 4 + 1 ≤ 5; omega) (by show 23 + 256 ≤ 279; omega) dX0_init_34 (fun q34 H hK hP hD hS => ?_)
  have hP : va_P D vwCl [(h0, .inr (0, [.null, .null, .null, .ref (u9 0), .ref q18, .ref q25, .null, .int 0, .int 0, .int 0])), ((u9 0), .inr (3, [.ref (u9 1)])), ((u9 1), .inl (cy 1, 10, .inr (.inl (fun _ => 0)))), (q18, .inl (cy 0, 8, .inl (fun _ => 0))), (q25, .inl (cy 1, 4, .inr (.inl (fun _ => 0)))), (q34, .inl (cy 1, 256, .inr (.inl (fun _ => 0))))] H := hP
  have hD : va_D A [(h0, .inr (0, [.null, .null, .null, .ref (u9 0), .ref q18, .ref q25, .null, .int 0, .int 0, .int 0])), ((u9 0), .inr (3, [.ref (u9 1)])), ((u9 1), .inl (cy 1, 10, .inr (.inl (fun _ => 0)))), (q18, .inl (cy 0, 8, .inl (fun _ => 0))), (q25, .inl (cy 1, 4, .inr (.inl (fun _ => 0)))), (q34, .inl (cy 1, 256, .inr (.inl (fun _ => 0))))] := hD
  refine W.widen (k := 5) (n := 279) (by omega) (by omega) ?_
  refine k_putF hx hb hts hown hin hK hP hD hS ff_RX0_26 0 rfl (Nat.le_of_ble_eq_true rfl) rfl rfl dX0_init_36 (fun H locs hP hD hS => ?_)
  have hP : va_P D vwCl [(h0, .inr (0, [.null, .null, .null, .ref (u9 0), .ref q18, .ref q25, .ref q34, .int 0, .int 0, .int 0])), ((u9 0), .inr (3, [.ref (u9 1)])), ((u9 1), .inl (cy 1, 10, .inr (.inl (fun _ => 0)))), (q18, .inl (cy 0, 8, .inl (fun _ => 0))), (q25, .inl (cy 1, 4, .inr (.inl (fun _ => 0)))), (q34, .inl (cy 1, 256, .inr (.inl (fun _ => 0))))] H := hP
  have hD : va_D A [(h0, .inr (0, [.null, .null, .null, .ref (u9 0), .ref q18, .ref q25, .ref q34, .int 0, .int 0, .int 0])), ((u9 0), .inr (3, [.ref (u9 1)])), ((u9 1), .inl (cy 1, 10, .inr (.inl (fun _ => 0)))), (q18, .inl (cy 0, 8, .inl (fun _ => 0))), (q25, .inl (cy 1, 4, .inr (.inl (fun _ => 0)))), (q34, .inl (cy 1, 256, .inr (.inl (fun _ => 0))))] := hD
  refine lv_aload_n hx hb dX0_init_39 rfl (lv_at hl 0 rfl) ?_
  refine lv_iconst (v := 0) hx hb dX0_init_40 (by decide +kernel) ?_
  refine k_put hx hb hts hown hK hP hD hS fp_RX0_29 0 rfl (Nat.le_of_ble_eq_true rfl) rfl rfl dX0_init_41 (fun H locs hP hD hS => ?_)
  have hP : va_P D vwCl [(h0, .inr (0, [.null, .null, .null, .ref (u9 0), .ref q18, .ref q25, .ref q34, .int 0, .int 0, .int 0])), ((u9 0), .inr (3, [.ref (u9 1)])), ((u9 1), .inl (cy 1, 10, .inr (.inl (fun _ => 0)))), (q18, .inl (cy 0, 8, .inl (fun _ => 0))), (q25, .inl (cy 1, 4, .inr (.inl (fun _ => 0)))), (q34, .inl (cy 1, 256, .inr (.inl (fun _ => 0))))] H := hP
  have hD : va_D A [(h0, .inr (0, [.null, .null, .null, .ref (u9 0), .ref q18, .ref q25, .ref q34, .int 0, .int 0, .int 0])), ((u9 0), .inr (3, [.ref (u9 1)])), ((u9 1), .inl (cy 1, 10, .inr (.inl (fun _ => 0)))), (q18, .inl (cy 0, 8, .inl (fun _ => 0))), (q25, .inl (cy 1, 4, .inr (.inl (fun _ => 0)))), (q34, .inl (cy 1, 256, .inr (.inl (fun _ => 0))))] := hD
  refine lv_aload_n hx hb dX0_init_44 rfl (lv_at hl 0 rfl) ?_
  refine lv_iconst (v := 0) hx hb dX0_init_45 (by decide +kernel) ?_
  refine k_put hx hb hts hown hK hP hD hS fp_RX0_33 0 rfl (Nat.le_of_ble_eq_true rfl) (by decide) (by decide) dX0_init_46 (fun H locs hP hD hS => ?_)
  have hP : va_P D vwCl [(h0, .inr (0, [.null, .null, .null, .ref (u9 0), .ref q18, .ref q25, .ref q34, .int 0, .int 0, .int 0])), ((u9 0), .inr (3, [.ref (u9 1)])), ((u9 1), .inl (cy 1, 10, .inr (.inl (fun _ => 0)))), (q18, .inl (cy 0, 8, .inl (fun _ => 0))), (q25, .inl (cy 1, 4, .inr (.inl (fun _ => 0)))), (q34, .inl (cy 1, 256, .inr (.inl (fun _ => 0))))] H := hP
  have hD : va_D A [(h0, .inr (0, [.null, .null, .null, .ref (u9 0), .ref q18, .ref q25, .ref q34, .int 0, .int 0, .int 0])), ((u9 0), .inr (3, [.ref (u9 1)])), ((u9 1), .inl (cy 1, 10, .inr (.inl (fun _ => 0)))), (q18, .inl (cy 0, 8, .inl (fun _ => 0))), (q25, .inl (cy 1, 4, .inr (.inl (fun _ => 0)))), (q34, .inl (cy 1, 256, .inr (.inl (fun _ => 0))))] := hD
  refine lv_aload_n hx hb dX0_init_49 rfl (lv_at hl 0 rfl) ?_
  refine lv_iconst (v := 0) hx hb dX0_init_50 (by decide +kernel) ?_
  refine k_put hx hb hts hown hK hP hD hS fp_RX0_37 0 rfl (Nat.le_of_ble_eq_true rfl) (by decide) (by decide) dX0_init_51 (fun H locs hP hD hS => ?_)
  have hP : va_P D vwCl [(h0, .inr (0, [.null, .null, .null, .ref (u9 0), .ref q18, .ref q25, .ref q34, .int 0, .int 0, .int 0])), ((u9 0), .inr (3, [.ref (u9 1)])), ((u9 1), .inl (cy 1, 10, .inr (.inl (fun _ => 0)))), (q18, .inl (cy 0, 8, .inl (fun _ => 0))), (q25, .inl (cy 1, 4, .inr (.inl (fun _ => 0)))), (q34, .inl (cy 1, 256, .inr (.inl (fun _ => 0))))] H := hP
  have hD : va_D A [(h0, .inr (0, [.null, .null, .null, .ref (u9 0), .ref q18, .ref q25, .ref q34, .int 0, .int 0, .int 0])), ((u9 0), .inr (3, [.ref (u9 1)])), ((u9 1), .inl (cy 1, 10, .inr (.inl (fun _ => 0)))), (q18, .inl (cy 0, 8, .inl (fun _ => 0))), (q25, .inl (cy 1, 4, .inr (.inl (fun _ => 0)))), (q34, .inl (cy 1, 256, .inr (.inl (fun _ => 0))))] := hD
  refine lv_aload_n hx hb dX0_init_54 rfl (lv_at hl 0 rfl) ?_
  refine lv_aload_n hx hb dX0_init_55 rfl (lv_at hl 1 rfl) ?_
  refine k_putF hx hb hts hown hin hK hP hD hS ff_RX0_40 0 rfl (Nat.le_of_ble_eq_true rfl) rfl rfl dX0_init_56 (fun H locs hP hD hS => ?_)
  have hP : va_P D vwCl [(h0, .inr (0, [.ref w0, .null, .null, .ref (u9 0), .ref q18, .ref q25, .ref q34, .int 0, .int 0, .int 0])), ((u9 0), .inr (3, [.ref (u9 1)])), ((u9 1), .inl (cy 1, 10, .inr (.inl (fun _ => 0)))), (q18, .inl (cy 0, 8, .inl (fun _ => 0))), (q25, .inl (cy 1, 4, .inr (.inl (fun _ => 0)))), (q34, .inl (cy 1, 256, .inr (.inl (fun _ => 0))))] H := hP
  have hD : va_D A [(h0, .inr (0, [.ref w0, .null, .null, .ref (u9 0), .ref q18, .ref q25, .ref q34, .int 0, .int 0, .int 0])), ((u9 0), .inr (3, [.ref (u9 1)])), ((u9 1), .inl (cy 1, 10, .inr (.inl (fun _ => 0)))), (q18, .inl (cy 0, 8, .inl (fun _ => 0))), (q25, .inl (cy 1, 4, .inr (.inl (fun _ => 0)))), (q34, .inl (cy 1, 256, .inr (.inl (fun _ => 0))))] := hD
  refine lv_aload_n hx hb dX0_init_59 rfl (lv_at hl 0 rfl) ?_
  refine lv_aload_n hx hb dX0_init_60 rfl (lv_at hl 2 rfl) ?_
  refine k_putF hx hb hts hown hin hK hP hD hS ff_RX0_44 0 rfl (Nat.le_of_ble_eq_true rfl) rfl rfl dX0_init_61 (fun H locs hP hD hS => ?_)
  have hP : va_P D vwCl [(h0, .inr (0, [.ref w0, .ref w1, .null, .ref (u9 0), .ref q18, .ref q25, .ref q34, .int 0, .int 0, .int 0])), ((u9 0), .inr (3, [.ref (u9 1)])), ((u9 1), .inl (cy 1, 10, .inr (.inl (fun _ => 0)))), (q18, .inl (cy 0, 8, .inl (fun _ => 0))), (q25, .inl (cy 1, 4, .inr (.inl (fun _ => 0)))), (q34, .inl (cy 1, 256, .inr (.inl (fun _ => 0))))] H := hP
  have hD : va_D A [(h0, .inr (0, [.ref w0, .ref w1, .null, .ref (u9 0), .ref q18, .ref q25, .ref q34, .int 0, .int 0, .int 0])), ((u9 0), .inr (3, [.ref (u9 1)])), ((u9 1), .inl (cy 1, 10, .inr (.inl (fun _ => 0)))), (q18, .inl (cy 0, 8, .inl (fun _ => 0))), (q25, .inl (cy 1, 4, .inr (.inl (fun _ => 0)))), (q34, .inl (cy 1, 256, .inr (.inl (fun _ => 0))))] := hD
  refine lv_aload_n hx hb dX0_init_64 rfl (lv_at hl 0 rfl) ?_
  refine lv_aload_n hx hb dX0_init_65 rfl (lv_at hl 3 rfl) ?_
  refine k_putF hx hb hts hown hin hK hP hD hS ff_RX0_48 0 rfl (Nat.le_of_ble_eq_true rfl) rfl rfl dX0_init_66 (fun H locs hP hD hS => ?_)
  have hP : va_P D vwCl [(h0, .inr (0, [.ref w0, .ref w1, .ref w2, .ref (u9 0), .ref q18, .ref q25, .ref q34, .int 0, .int 0, .int 0])), ((u9 0), .inr (3, [.ref (u9 1)])), ((u9 1), .inl (cy 1, 10, .inr (.inl (fun _ => 0)))), (q18, .inl (cy 0, 8, .inl (fun _ => 0))), (q25, .inl (cy 1, 4, .inr (.inl (fun _ => 0)))), (q34, .inl (cy 1, 256, .inr (.inl (fun _ => 0))))] H := hP
  have hD : va_D A [(h0, .inr (0, [.ref w0, .ref w1, .ref w2, .ref (u9 0), .ref q18, .ref q25, .ref q34, .int 0, .int 0, .int 0])), ((u9 0), .inr (3, [.ref (u9 1)])), ((u9 1), .inl (cy 1, 10, .inr (.inl (fun _ => 0)))), (q18, .inl (cy 0, 8, .inl (fun _ => 0))), (q25, .inl (cy 1, 4, .inr (.inl (fun _ => 0)))), (q34, .inl (cy 1, 256, .inr (.inl (fun _ => 0))))] := hD
  have hP9 := hP.sub (ws' := [(h0, .inr (0, [.ref w0, .ref w1, .ref w2, .ref (u9 0), .ref q18, .ref q25, .ref q34, .int 0, .int 0, .int 0])), ((u9 0), .inr (3, [.ref (u9 1)])), ((u9 1), .inl (cy 1, 10, .inr (.inl (fun _ => 0)))), (q18, .inl (cy 0, 8, .inl (fun _ => 0))), (q25, .inl (cy 1, 4, .inr (.inl (fun _ => 0)))), (q34, .inl (cy 1, 256, .inr (.inl (fun _ => 0))))]) [0, 1, 2, 3, 4, 5] rfl
  have hD9 := hD.sub (ws' := [(h0, .inr (0, [.ref w0, .ref w1, .ref w2, .ref (u9 0), .ref q18, .ref q25, .ref q34, .int 0, .int 0, .int 0])), ((u9 0), .inr (3, [.ref (u9 1)])), ((u9 1), .inl (cy 1, 10, .inr (.inl (fun _ => 0)))), (q18, .inl (cy 0, 8, .inl (fun _ => 0))), (q25, .inl (cy 1, 4, .inr (.inl (fun _ => 0)))), (q34, .inl (cy 1, 256, .inr (.inl (fun _ => 0))))]) [0, 1, 2, 3, 4, 5] (by decide) rfl
  have hK9 := hK.sub (tys' := []) [] rfl
  exact W.vret hx hb hr (fun t ht hW => ⟨⟨adL [h0, (u9 0), (u9 1), q18, q25, q34], rfl, rfl, by rw [ht]; exact hP9, va_K.moved hW.alike hK9, hD9⟩, hS.F ht⟩) hS.2.2 dX0_init_69 hlocks
