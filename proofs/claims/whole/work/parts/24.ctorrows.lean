/-! constructors: what they ask of the state beside their cells -/
def kX (cy : Nat → ClassId) (U : State) : Prop := ((∀ a, U.vm.findClass ("[" ++ (FieldType.int).toString) = some a → a = cy 0) ∧ (∀ a, U.vm.findClass ("[" ++ (FieldType.long).toString) = some a → a = cy 1) ∧ (∀ a, U.vm.findClass ("[" ++ (FieldType.boolean).toString) = some a → a = cy 2) ∧ (∀ a, U.vm.findClass ("[" ++ (FieldType.object "BagPhrases$Setting").toString) = some a → a = cy 3) ∧ va_AO "BagPhrases$Setting" U) ∧ va_Nw (.methodLinkNest RX11 9 yX7_init "BagPhrases") U ∧ va_Nw (.methodLinkNest RX7 17 yX5_init "BagPhrases") U ∧ va_Nw (.methodLinkNest RX7 24 yX8_init "BagPhrases") U ∧ va_Nw (.methodLinkNest RX11 18 yX5_init "BagPhrases") U ∧ va_Nw (.methodLinkNest RX11 25 yX8_init "BagPhrases") U ∧ va_Nw (.methodLinkNest RX11 43 yX2_init "BagPhrases") U ∧ va_Nw (.methodLinkNest RX6 11 yX1_init "BagPhrases") U ∧ va_Nw (.methodLinkNest RX1 1 yX9_init "BagPhrases") U ∧ va_Nw (.methodLinkNest RX10 1 yX9_init "BagPhrases") U ∧ va_Nw (.methodLinkNest RX0 11 yX3_init "BagPhrases") U ∧ va_Nw (.methodLinkNest RX3 3 yX9_init "BagPhrases") U
theorem kX_warm {cy : Nat → ClassId} {s U : State} (hW : s.WarmedH U.vm) (h : kX cy s) : kX cy U := by
  obtain ⟨⟨a0, a1, a2, a3, a4⟩, n0, n1, n2, n3, n4, n5, n6, n7, n8, n9, n10⟩ := h
  have hf : ∀ (z : String), U.vm.findClass z = s.vm.findClass z := fun z => hW.alike.findClass z none
  refine ⟨⟨fun a ha => a0 a (by rw [← hf]; exact ha), fun a ha => a1 a (by rw [← hf]; exact ha), fun a ha => a2 a (by rw [← hf]; exact ha), fun a ha => a3 a (by rw [← hf]; exact ha), va_AO.moved hW.alike a4⟩, n0.warmM hW, n1.warmM hW, n2.warmM hW, n3.warmM hW, n4.warmM hW, n5.warmM hW, n6.warmM hW, n7.warmM hW, n8.warmM hW, n9.warmM hW, n10.warmM hW⟩
theorem kX_same {cy : Nat → ClassId} {s U : State} (hv : s.vm = U.vm) (h : kX cy s) : kX cy U := by
  obtain ⟨⟨a0, a1, a2, a3, a4⟩, n0, n1, n2, n3, n4, n5, n6, n7, n8, n9, n10⟩ := h
  refine ⟨⟨fun a ha => a0 a (by rw [hv]; exact ha), fun a ha => a1 a (by rw [hv]; exact ha), fun a ha => a2 a (by rw [hv]; exact ha), fun a ha => a3 a (by rw [hv]; exact ha), va_AO.moved (hv ▸ Vm.Alike.refl s.vm) a4⟩, n0.same rfl hv, n1.same rfl hv, n2.same rfl hv, n3.same rfl hv, n4.same rfl hv, n5.same rfl hv, n6.same rfl hv, n7.same rfl hv, n8.same rfl hv, n9.same rfl hv, n10.same rfl hv⟩
def gFf (own : String) (index ci j : Nat) (ty : FieldType) : Prop := ∃ (Cn : String) (T : u_T) (N : Nat) (ty0 : Nat → FieldType), vwCl[ci]? = some (Cn, T, N) ∧ (∀ w ∈ u_ws Cn T N, w ∈ lw_g) ∧ j < N ∧ Cond.fieldLink own index (T j).1 (T j).2.1 (T j).2.2.1 ∈ lw_g ∧
  (∀ k, k < N → parseFieldDescriptor (T k).2.2.1 = some (ty0 k)) ∧ (∀ a, a < N → ∀ b, b < N → a ≠ b → (T a).2.1 ≠ (T b).2.1) ∧ (T j).2.2.2 = true ∧ ty0 j = ty ∧ (T j).1 = own
section
variable {p : Program} {l : Launch} {e : Env} {R : Room} {s : State} {m : MethodId} {args : Array Value} {below : List Frame} {meth : Method} {c : Code} {H : Heap} {locs : List Loc} {cells slots : Nat} {Qs : State → Prop}
variable {own : String} {cc : ByteArray} {cy : Nat → ClassId} {D : va_G} {pc : Nat} {ls : Array Slot} {rest : List Value} {ws : va_W} {A : Nat → Prop} {a : Nat} {tys : List (ClassId × FieldType)}
theorem k_get {ci j index : Nat} {fs : List Value} {v : Value} (hx : p.tables.exec = Jvm.exec) (hb : c.code = cc) (hts : ∀ w ∈ lw_g, w.before args s = true) (hown : s.vm.findClass own = some m.cls) (hK : va_K D vwCl tys s) (hP : va_P D vwCl ws H) (fl : gFl own index ci j) (q0 : Nat) (he : ws[q0]? = some (a, .inr (ci, fs))) (hv : fs[j]? = some v) (hd : decode cc pc = .ok (.getfield index, 3))
    (kk : W p l e R s m args below meth c H locs cells slots Qs (F0 m (pc + 3) ls (v :: rest))) : W p l e R s m args below meth c H locs cells slots Qs (F0 m pc ls (.ref a :: rest)) := by
  obtain ⟨Cn, T, N, hc, hin, hj, hl⟩ := fl
  exact va_get hx hb hts hin hown hK hP q0 he hc j hj (hts _ hl) (fun _ h => h) hv hd kk
theorem k_put {ci j index : Nat} {ty : FieldType} {fs : List Value} {v : Value} (hx : p.tables.exec = Jvm.exec) (hb : c.code = cc) (hts : ∀ w ∈ lw_g, w.before args s = true) (hown : s.vm.findClass own = some m.cls) (hK : va_K D vwCl tys s) (hP : va_P D vwCl ws H) (hD : va_D A ws) (hS : va_S A s.heap H locs) (fl : gFp own index ci j ty) (q0 : Nat) (he : ws[q0]? = some (a, .inr (ci, fs))) (hl : j < fs.length) (hn : narrow ty v = v) (hf : fits ty v = true) (hd : decode cc pc = .ok (.putfield index, 3))
    (kk : ∀ (H1 : Heap) (locs1 : List Loc), va_P D vwCl (ws.set q0 (a, .inr (ci, fs.set j v))) H1 → va_D A (ws.set q0 (a, .inr (ci, fs.set j v))) → va_S A s.heap H1 locs1 → W p l e R s m args below meth c H1 locs1 cells slots Qs (F0 m (pc + 3) ls rest)) : W p l e R s m args below meth c H locs cells slots Qs (F0 m pc ls (v :: .ref a :: rest)) := by
  obtain ⟨Cn, T, N, ty0, hc, hin, hj, hlk, hty, hnm, hfin, hte⟩ := fl
  exact va_put hx hb hts hin ty0 hty hnm hown hK hP hD hS q0 he hc j hj (hts _ hlk) (fun _ h => h) hfin (by rw [hty j hj, hte]) hn hf hl hd kk
theorem k_putF {ci j index : Nat} {ty : FieldType} {fs : List Value} {v : Value} (hx : p.tables.exec = Jvm.exec) (hb : c.code = cc) (hts : ∀ w ∈ lw_g, w.before args s = true) (hown : s.vm.findClass own = some m.cls) (hin2 : meth.name = "<init>") (hK : va_K D vwCl tys s) (hP : va_P D vwCl ws H) (hD : va_D A ws) (hS : va_S A s.heap H locs) (fl : gFf own index ci j ty) (q0 : Nat) (he : ws[q0]? = some (a, .inr (ci, fs))) (hl : j < fs.length) (hn : narrow ty v = v) (hf : fits ty v = true) (hd : decode cc pc = .ok (.putfield index, 3))
    (kk : ∀ (H1 : Heap) (locs1 : List Loc), va_P D vwCl (ws.set q0 (a, .inr (ci, fs.set j v))) H1 → va_D A (ws.set q0 (a, .inr (ci, fs.set j v))) → va_S A s.heap H1 locs1 → W p l e R s m args below meth c H1 locs1 cells slots Qs (F0 m (pc + 3) ls rest)) : W p l e R s m args below meth c H locs cells slots Qs (F0 m pc ls (v :: .ref a :: rest)) := by
  obtain ⟨Cn, T, N, ty0, hc, hin, hj, hlk, hty, hnm, hfin, hte, hdc⟩ := fl
  exact va_putF hx hb hts hin ty0 hty hnm hown hK hP hD hS q0 he hc j hj (hts _ hlk) (fun _ h => h) hfin hin2 hdc (by rw [hty j hj, hte]) hn hf hl hd kk
theorem k_newI {n : Int32} {N : Nat} (hx : p.tables.exec = Jvm.exec) (hb : c.code = cc) (harr : (Cond.arrayClass (.int)).before args s = true) (hk : kX cy s) (hK : va_K D vwCl tys s) (hP : va_P D vwCl ws H) (hD : va_D A ws) (hS : va_S A s.heap H locs) (hA : ∀ q, s.heap.size ≤ q → A q) (hn : ¬ n < 0) (hN : n.toNatClampNeg = N) (hby : N * componentBytes (.int) ≤ 536870912) (hcells : cells + 1 ≤ R.cells) (hslots : slots + N ≤ R.slots) (hd : decode cc pc = .ok (.newarray .int, 2))
    (kk : ∀ (q : Nat) (H1 : Heap), va_K D vwCl (tys ++ [(cy 0, .int)]) s → va_P D vwCl (ws ++ [(q, .inl (cy 0, (N, .inl (fun _ => 0))))]) H1 → va_D A (ws ++ [(q, .inl (cy 0, (N, .inl (fun _ => 0))))]) → va_S A s.heap H1 locs →
      W p l e R s m args below meth c H1 locs (cells + 1) (slots + N) Qs (F0 m (pc + 2) ls (.ref q :: rest))) : W p l e R s m args below meth c H locs cells slots Qs (F0 m pc ls (.int n :: rest)) := by
  refine va_newa (atype := .int) (ty := .int) (a0 := (N, .inl (fun _ => 0))) hx hb harr rfl hK hP hD hS hA (fun _ => rfl) hn hN hby hcells hslots hd (fun q cA H1 hK1 hP1 hD1 hS1 => ?_)
  obtain rfl : cA = cy 0 := hk.1.1 cA (hK1.2 tys.length (cA, .int) (by simp)).2
  exact kk q H1 hK1 hP1 hD1 hS1
theorem k_newJ {n : Int32} {N : Nat} (hx : p.tables.exec = Jvm.exec) (hb : c.code = cc) (harr : (Cond.arrayClass (.long)).before args s = true) (hk : kX cy s) (hK : va_K D vwCl tys s) (hP : va_P D vwCl ws H) (hD : va_D A ws) (hS : va_S A s.heap H locs) (hA : ∀ q, s.heap.size ≤ q → A q) (hn : ¬ n < 0) (hN : n.toNatClampNeg = N) (hby : N * componentBytes (.long) ≤ 536870912) (hcells : cells + 1 ≤ R.cells) (hslots : slots + N ≤ R.slots) (hd : decode cc pc = .ok (.newarray .long, 2))
    (kk : ∀ (q : Nat) (H1 : Heap), va_K D vwCl (tys ++ [(cy 1, .long)]) s → va_P D vwCl (ws ++ [(q, .inl (cy 1, (N, .inr (.inl (fun _ => 0)))))]) H1 → va_D A (ws ++ [(q, .inl (cy 1, (N, .inr (.inl (fun _ => 0)))))]) → va_S A s.heap H1 locs →
      W p l e R s m args below meth c H1 locs (cells + 1) (slots + N) Qs (F0 m (pc + 2) ls (.ref q :: rest))) : W p l e R s m args below meth c H locs cells slots Qs (F0 m pc ls (.int n :: rest)) := by
  refine va_newa (atype := .long) (ty := .long) (a0 := (N, .inr (.inl (fun _ => 0)))) hx hb harr rfl hK hP hD hS hA (fun _ => rfl) hn hN hby hcells hslots hd (fun q cA H1 hK1 hP1 hD1 hS1 => ?_)
  obtain rfl : cA = cy 1 := hk.1.2.1 cA (hK1.2 tys.length (cA, .long) (by simp)).2
  exact kk q H1 hK1 hP1 hD1 hS1
theorem k_newZ {n : Int32} {N : Nat} (hx : p.tables.exec = Jvm.exec) (hb : c.code = cc) (harr : (Cond.arrayClass (.boolean)).before args s = true) (hk : kX cy s) (hK : va_K D vwCl tys s) (hP : va_P D vwCl ws H) (hD : va_D A ws) (hS : va_S A s.heap H locs) (hA : ∀ q, s.heap.size ≤ q → A q) (hn : ¬ n < 0) (hN : n.toNatClampNeg = N) (hby : N * componentBytes (.boolean) ≤ 536870912) (hcells : cells + 1 ≤ R.cells) (hslots : slots + N ≤ R.slots) (hd : decode cc pc = .ok (.newarray .boolean, 2))
    (kk : ∀ (q : Nat) (H1 : Heap), va_K D vwCl (tys ++ [(cy 2, .boolean)]) s → va_P D vwCl (ws ++ [(q, .inl (cy 2, (N, .inl (fun _ => 0))))]) H1 → va_D A (ws ++ [(q, .inl (cy 2, (N, .inl (fun _ => 0))))]) → va_S A s.heap H1 locs →
      W p l e R s m args below meth c H1 locs (cells + 1) (slots + N) Qs (F0 m (pc + 2) ls (.ref q :: rest))) : W p l e R s m args below meth c H locs cells slots Qs (F0 m pc ls (.int n :: rest)) := by
  refine va_newa (atype := .boolean) (ty := .boolean) (a0 := (N, .inl (fun _ => 0))) hx hb harr rfl hK hP hD hS hA (fun _ => rfl) hn hN hby hcells hslots hd (fun q cA H1 hK1 hP1 hD1 hS1 => ?_)
  obtain rfl : cA = cy 2 := hk.1.2.2.1 cA (hK1.2 tys.length (cA, .boolean) (by simp)).2
  exact kk q H1 hK1 hP1 hD1 hS1
end
theorem ff_RX11_10 : gFf RX11 10 10 0 (.object "BagPhrases$Reader") := ⟨_, _, _, tyX11, rfl, in_X11, by decide, lw_t 324 (by decide +kernel) (by decide +kernel), tyX11_ok, nmX11, rfl, rfl, rfl⟩
theorem ff_RX11_19 : gFf RX11 19 10 1 (.object "BagPhrases$Lexicon") := ⟨_, _, _, tyX11, rfl, in_X11, by decide, lw_t 325 (by decide +kernel) (by decide +kernel), tyX11_ok, nmX11, rfl, rfl, rfl⟩
theorem ff_RX11_26 : gFf RX11 26 10 2 (.object "BagPhrases$Setting") := ⟨_, _, _, tyX11, rfl, in_X11, by decide, lw_t 326 (by decide +kernel) (by decide +kernel), tyX11_ok, nmX11, rfl, rfl, rfl⟩
theorem ff_RX11_30 : gFf RX11 30 10 3 (.object "BagPhrases$Setting") := ⟨_, _, _, tyX11, rfl, in_X11, by decide, lw_t 327 (by decide +kernel) (by decide +kernel), tyX11_ok, nmX11, rfl, rfl, rfl⟩
theorem ff_RX11_33 : gFf RX11 33 10 4 (.array (.object "BagPhrases$Setting")) := ⟨_, _, _, tyX11, rfl, in_X11, by decide, lw_t 328 (by decide +kernel) (by decide +kernel), tyX11_ok, nmX11, rfl, rfl, rfl⟩
theorem ff_RX11_37 : gFf RX11 37 10 5 (.array .boolean) := ⟨_, _, _, tyX11, rfl, in_X11, by decide, lw_t 329 (by decide +kernel) (by decide +kernel), tyX11_ok, nmX11, rfl, rfl, rfl⟩
theorem ff_RX11_44 : gFf RX11 44 10 6 (.object "BagPhrases$Doings") := ⟨_, _, _, tyX11, rfl, in_X11, by decide, lw_t 330 (by decide +kernel) (by decide +kernel), tyX11_ok, nmX11, rfl, rfl, rfl⟩
theorem ff_RX11_53 : gFf RX11 53 10 7 (.object "BagPhrases$Phrases") := ⟨_, _, _, tyX11, rfl, in_X11, by decide, lw_t 331 (by decide +kernel) (by decide +kernel), tyX11_ok, nmX11, rfl, rfl, rfl⟩
theorem ff_RX11_62 : gFf RX11 62 10 8 (.object "BagPhrases$Chances") := ⟨_, _, _, tyX11, rfl, in_X11, by decide, lw_t 332 (by decide +kernel) (by decide +kernel), tyX11_ok, nmX11, rfl, rfl, rfl⟩
theorem ff_RX11_66 : gFf RX11 66 10 9 (.array .int) := ⟨_, _, _, tyX11, rfl, in_X11, by decide, lw_t 333 (by decide +kernel) (by decide +kernel), tyX11_ok, nmX11, rfl, rfl, rfl⟩
theorem ff_RX11_70 : gFf RX11 70 10 10 (.array .int) := ⟨_, _, _, tyX11, rfl, in_X11, by decide, lw_t 334 (by decide +kernel) (by decide +kernel), tyX11_ok, nmX11, rfl, rfl, rfl⟩
theorem ff_RX11_73 : gFf RX11 73 10 11 (.array .int) := ⟨_, _, _, tyX11, rfl, in_X11, by decide, lw_t 335 (by decide +kernel) (by decide +kernel), tyX11_ok, nmX11, rfl, rfl, rfl⟩
theorem ff_RX11_76 : gFf RX11 76 10 12 (.array .int) := ⟨_, _, _, tyX11, rfl, in_X11, by decide, lw_t 336 (by decide +kernel) (by decide +kernel), tyX11_ok, nmX11, rfl, rfl, rfl⟩
theorem ff_RX11_79 : gFf RX11 79 10 13 (.array .int) := ⟨_, _, _, tyX11, rfl, in_X11, by decide, lw_t 337 (by decide +kernel) (by decide +kernel), tyX11_ok, nmX11, rfl, rfl, rfl⟩
theorem qo_RX11 : Cond.methodLink RX11 1 objectInit ∈ lw_g := lw_t 22 (by decide +kernel) (by decide +kernel)
theorem ql_RX11_7 : Cond.classLink RX11 7 RX7 ∈ lw_g := lw_t 25 (by decide +kernel) (by decide +kernel)
theorem ql_RX11_16 : Cond.classLink RX11 16 RX5 ∈ lw_g := lw_t 131 (by decide +kernel) (by decide +kernel)
theorem ql_RX11_23 : Cond.classLink RX11 23 RX8 ∈ lw_g := lw_t 133 (by decide +kernel) (by decide +kernel)
theorem ql_RX11_41 : Cond.classLink RX11 41 RX2 ∈ lw_g := lw_t 136 (by decide +kernel) (by decide +kernel)
theorem ql_RX11_48 : Cond.classLink RX11 48 RX6 ∈ lw_g := lw_t 157 (by decide +kernel) (by decide +kernel)
theorem ql_RX11_57 : Cond.classLink RX11 57 RX0 ∈ lw_g := lw_t 276 (by decide +kernel) (by decide +kernel)
theorem qc_X11_init : Cond.code yX11_init cX11_init 1 none ∈ lw_g := lw_t 21 (by decide +kernel) (by decide +kernel)
theorem qm_X11_init : Cond.instanceMethod yX11_init ∈ lw_g := lw_t 20 (by decide +kernel) (by decide +kernel)
theorem ff_RX12_7 : gFf RX12 7 11 0 (.array .int) := ⟨_, _, _, tyX12, rfl, in_X12, by decide, lw_t 980 (by decide +kernel) (by decide +kernel), tyX12_ok, nmX12, rfl, rfl, rfl⟩
theorem ff_RX12_13 : gFf RX12 13 11 3 (.array .int) := ⟨_, _, _, tyX12, rfl, in_X12, by decide, lw_t 983 (by decide +kernel) (by decide +kernel), tyX12_ok, nmX12, rfl, rfl, rfl⟩
theorem ff_RX12_16 : gFf RX12 16 11 4 (.array .int) := ⟨_, _, _, tyX12, rfl, in_X12, by decide, lw_t 984 (by decide +kernel) (by decide +kernel), tyX12_ok, nmX12, rfl, rfl, rfl⟩
theorem ff_RX12_19 : gFf RX12 19 11 5 (.array .int) := ⟨_, _, _, tyX12, rfl, in_X12, by decide, lw_t 985 (by decide +kernel) (by decide +kernel), tyX12_ok, nmX12, rfl, rfl, rfl⟩
theorem ff_RX12_22 : gFf RX12 22 11 6 (.array .int) := ⟨_, _, _, tyX12, rfl, in_X12, by decide, lw_t 986 (by decide +kernel) (by decide +kernel), tyX12_ok, nmX12, rfl, rfl, rfl⟩
theorem ff_RX12_25 : gFf RX12 25 11 7 (.array .int) := ⟨_, _, _, tyX12, rfl, in_X12, by decide, lw_t 987 (by decide +kernel) (by decide +kernel), tyX12_ok, nmX12, rfl, rfl, rfl⟩
theorem ff_RX12_28 : gFf RX12 28 11 8 (.array .int) := ⟨_, _, _, tyX12, rfl, in_X12, by decide, lw_t 988 (by decide +kernel) (by decide +kernel), tyX12_ok, nmX12, rfl, rfl, rfl⟩
theorem ff_RX12_31 : gFf RX12 31 11 9 (.array .int) := ⟨_, _, _, tyX12, rfl, in_X12, by decide, lw_t 989 (by decide +kernel) (by decide +kernel), tyX12_ok, nmX12, rfl, rfl, rfl⟩
theorem ff_RX12_34 : gFf RX12 34 11 12 (.array .int) := ⟨_, _, _, tyX12, rfl, in_X12, by decide, lw_t 992 (by decide +kernel) (by decide +kernel), tyX12_ok, nmX12, rfl, rfl, rfl⟩
theorem ff_RX12_37 : gFf RX12 37 11 13 (.array .boolean) := ⟨_, _, _, tyX12, rfl, in_X12, by decide, lw_t 993 (by decide +kernel) (by decide +kernel), tyX12_ok, nmX12, rfl, rfl, rfl⟩
theorem ff_RX12_41 : gFf RX12 41 11 14 (.array .int) := ⟨_, _, _, tyX12, rfl, in_X12, by decide, lw_t 994 (by decide +kernel) (by decide +kernel), tyX12_ok, nmX12, rfl, rfl, rfl⟩
theorem ff_RX12_44 : gFf RX12 44 11 16 (.array .int) := ⟨_, _, _, tyX12, rfl, in_X12, by decide, lw_t 996 (by decide +kernel) (by decide +kernel), tyX12_ok, nmX12, rfl, rfl, rfl⟩
theorem ff_RX12_47 : gFf RX12 47 11 17 (.array .int) := ⟨_, _, _, tyX12, rfl, in_X12, by decide, lw_t 997 (by decide +kernel) (by decide +kernel), tyX12_ok, nmX12, rfl, rfl, rfl⟩
theorem ff_RX12_50 : gFf RX12 50 11 18 (.array .int) := ⟨_, _, _, tyX12, rfl, in_X12, by decide, lw_t 998 (by decide +kernel) (by decide +kernel), tyX12_ok, nmX12, rfl, rfl, rfl⟩
theorem ff_RX12_53 : gFf RX12 53 11 22 (.array .int) := ⟨_, _, _, tyX12, rfl, in_X12, by decide, lw_t 1002 (by decide +kernel) (by decide +kernel), tyX12_ok, nmX12, rfl, rfl, rfl⟩
theorem ff_RX12_56 : gFf RX12 56 11 23 (.array .int) := ⟨_, _, _, tyX12, rfl, in_X12, by decide, lw_t 1003 (by decide +kernel) (by decide +kernel), tyX12_ok, nmX12, rfl, rfl, rfl⟩
theorem ff_RX12_59 : gFf RX12 59 11 24 (.array .int) := ⟨_, _, _, tyX12, rfl, in_X12, by decide, lw_t 1004 (by decide +kernel) (by decide +kernel), tyX12_ok, nmX12, rfl, rfl, rfl⟩
theorem ff_RX12_62 : gFf RX12 62 11 25 (.array .int) := ⟨_, _, _, tyX12, rfl, in_X12, by decide, lw_t 1005 (by decide +kernel) (by decide +kernel), tyX12_ok, nmX12, rfl, rfl, rfl⟩
theorem ff_RX12_65 : gFf RX12 65 11 29 (.array .int) := ⟨_, _, _, tyX12, rfl, in_X12, by decide, lw_t 1009 (by decide +kernel) (by decide +kernel), tyX12_ok, nmX12, rfl, rfl, rfl⟩
theorem ff_RX12_68 : gFf RX12 68 11 30 (.array .int) := ⟨_, _, _, tyX12, rfl, in_X12, by decide, lw_t 1010 (by decide +kernel) (by decide +kernel), tyX12_ok, nmX12, rfl, rfl, rfl⟩
theorem ff_RX12_71 : gFf RX12 71 11 33 (.array .int) := ⟨_, _, _, tyX12, rfl, in_X12, by decide, lw_t 1013 (by decide +kernel) (by decide +kernel), tyX12_ok, nmX12, rfl, rfl, rfl⟩
theorem ff_RX12_74 : gFf RX12 74 11 34 (.array .long) := ⟨_, _, _, tyX12, rfl, in_X12, by decide, lw_t 1014 (by decide +kernel) (by decide +kernel), tyX12_ok, nmX12, rfl, rfl, rfl⟩
theorem ff_RX12_78 : gFf RX12 78 11 35 (.array .long) := ⟨_, _, _, tyX12, rfl, in_X12, by decide, lw_t 1015 (by decide +kernel) (by decide +kernel), tyX12_ok, nmX12, rfl, rfl, rfl⟩
theorem ff_RX12_81 : gFf RX12 81 11 36 (.array .long) := ⟨_, _, _, tyX12, rfl, in_X12, by decide, lw_t 1016 (by decide +kernel) (by decide +kernel), tyX12_ok, nmX12, rfl, rfl, rfl⟩
theorem ff_RX12_84 : gFf RX12 84 11 37 (.array .int) := ⟨_, _, _, tyX12, rfl, in_X12, by decide, lw_t 1017 (by decide +kernel) (by decide +kernel), tyX12_ok, nmX12, rfl, rfl, rfl⟩
theorem ff_RX12_87 : gFf RX12 87 11 38 (.array .boolean) := ⟨_, _, _, tyX12, rfl, in_X12, by decide, lw_t 1018 (by decide +kernel) (by decide +kernel), tyX12_ok, nmX12, rfl, rfl, rfl⟩
theorem ff_RX12_90 : gFf RX12 90 11 39 (.array .int) := ⟨_, _, _, tyX12, rfl, in_X12, by decide, lw_t 1019 (by decide +kernel) (by decide +kernel), tyX12_ok, nmX12, rfl, rfl, rfl⟩
theorem ff_RX12_93 : gFf RX12 93 11 40 (.array .int) := ⟨_, _, _, tyX12, rfl, in_X12, by decide, lw_t 1020 (by decide +kernel) (by decide +kernel), tyX12_ok, nmX12, rfl, rfl, rfl⟩
theorem ff_RX12_96 : gFf RX12 96 11 44 (.array .long) := ⟨_, _, _, tyX12, rfl, in_X12, by decide, lw_t 1024 (by decide +kernel) (by decide +kernel), tyX12_ok, nmX12, rfl, rfl, rfl⟩
theorem qo_RX12 : Cond.methodLink RX12 1 objectInit ∈ lw_g := lw_t 976 (by decide +kernel) (by decide +kernel)
theorem qc_X12_init : Cond.code yX12_init cX12_init 1 none ∈ lw_g := lw_t 975 (by decide +kernel) (by decide +kernel)
theorem qm_X12_init : Cond.instanceMethod yX12_init ∈ lw_g := lw_t 974 (by decide +kernel) (by decide +kernel)
theorem ff_RX0_12 : gFf RX0 12 0 3 (.object "BagPhrases$Families") := ⟨_, _, _, tyX0, rfl, in_X0, by decide, lw_t 296 (by decide +kernel) (by decide +kernel), tyX0_ok, nmX0, rfl, rfl, rfl⟩
theorem ff_RX0_18 : gFf RX0 18 0 4 (.array .int) := ⟨_, _, _, tyX0, rfl, in_X0, by decide, lw_t 297 (by decide +kernel) (by decide +kernel), tyX0_ok, nmX0, rfl, rfl, rfl⟩
theorem ff_RX0_22 : gFf RX0 22 0 5 (.array .long) := ⟨_, _, _, tyX0, rfl, in_X0, by decide, lw_t 298 (by decide +kernel) (by decide +kernel), tyX0_ok, nmX0, rfl, rfl, rfl⟩
theorem ff_RX0_26 : gFf RX0 26 0 6 (.array .long) := ⟨_, _, _, tyX0, rfl, in_X0, by decide, lw_t 299 (by decide +kernel) (by decide +kernel), tyX0_ok, nmX0, rfl, rfl, rfl⟩
theorem ff_RX0_40 : gFf RX0 40 0 0 (.object "BagPhrases$Lexicon") := ⟨_, _, _, tyX0, rfl, in_X0, by decide, lw_t 293 (by decide +kernel) (by decide +kernel), tyX0_ok, nmX0, rfl, rfl, rfl⟩
theorem ff_RX0_44 : gFf RX0 44 0 1 (.object "BagPhrases$Setting") := ⟨_, _, _, tyX0, rfl, in_X0, by decide, lw_t 294 (by decide +kernel) (by decide +kernel), tyX0_ok, nmX0, rfl, rfl, rfl⟩
theorem ff_RX0_48 : gFf RX0 48 0 2 (.object "BagPhrases$Phrases") := ⟨_, _, _, tyX0, rfl, in_X0, by decide, lw_t 295 (by decide +kernel) (by decide +kernel), tyX0_ok, nmX0, rfl, rfl, rfl⟩
theorem qo_RX0 : Cond.methodLink RX0 3 objectInit ∈ lw_g := lw_t 281 (by decide +kernel) (by decide +kernel)
theorem ql_RX0_9 : Cond.classLink RX0 9 RX3 ∈ lw_g := lw_t 282 (by decide +kernel) (by decide +kernel)
theorem qc_X0_init : Cond.code yX0_init cX0_init 4 none ∈ lw_g := lw_t 280 (by decide +kernel) (by decide +kernel)
theorem qm_X0_init : Cond.instanceMethod yX0_init ∈ lw_g := lw_t 279 (by decide +kernel) (by decide +kernel)
theorem qc_X1_init : Cond.code yX1_init cX1_init 1 none ∈ lw_g := lw_t 167 (by decide +kernel) (by decide +kernel)
theorem qm_X1_init : Cond.instanceMethod yX1_init ∈ lw_g := lw_t 166 (by decide +kernel) (by decide +kernel)
theorem ff_RX2_9 : gFf RX2 9 2 0 (.array .int) := ⟨_, _, _, tyX2, rfl, in_X2, by decide, lw_t 142 (by decide +kernel) (by decide +kernel), tyX2_ok, nmX2, rfl, rfl, rfl⟩
theorem ff_RX2_15 : gFf RX2 15 2 1 (.array .int) := ⟨_, _, _, tyX2, rfl, in_X2, by decide, lw_t 143 (by decide +kernel) (by decide +kernel), tyX2_ok, nmX2, rfl, rfl, rfl⟩
theorem ff_RX2_18 : gFf RX2 18 2 2 (.array .int) := ⟨_, _, _, tyX2, rfl, in_X2, by decide, lw_t 144 (by decide +kernel) (by decide +kernel), tyX2_ok, nmX2, rfl, rfl, rfl⟩
theorem qo_RX2 : Cond.methodLink RX2 3 objectInit ∈ lw_g := lw_t 141 (by decide +kernel) (by decide +kernel)
theorem qc_X2_init : Cond.code yX2_init cX2_init 1 none ∈ lw_g := lw_t 140 (by decide +kernel) (by decide +kernel)
theorem qm_X2_init : Cond.instanceMethod yX2_init ∈ lw_g := lw_t 139 (by decide +kernel) (by decide +kernel)
theorem ff_RX3_9 : gFf RX3 9 3 0 (.array .long) := ⟨_, _, _, tyX3, rfl, in_X3, by decide, lw_t 288 (by decide +kernel) (by decide +kernel), tyX3_ok, nmX3, rfl, rfl, rfl⟩
theorem qc_X3_init : Cond.code yX3_init cX3_init 1 none ∈ lw_g := lw_t 286 (by decide +kernel) (by decide +kernel)
theorem qm_X3_init : Cond.instanceMethod yX3_init ∈ lw_g := lw_t 285 (by decide +kernel) (by decide +kernel)
theorem ff_RX4_9 : gFf RX4 9 4 2 (.array .long) := ⟨_, _, _, tyX4, rfl, in_X4, by decide, lw_t 181 (by decide +kernel) (by decide +kernel), tyX4_ok, nmX4, rfl, rfl, rfl⟩
theorem ff_RX4_15 : gFf RX4 15 4 3 (.array .int) := ⟨_, _, _, tyX4, rfl, in_X4, by decide, lw_t 182 (by decide +kernel) (by decide +kernel), tyX4_ok, nmX4, rfl, rfl, rfl⟩
theorem ff_RX4_19 : gFf RX4 19 4 4 (.array .int) := ⟨_, _, _, tyX4, rfl, in_X4, by decide, lw_t 183 (by decide +kernel) (by decide +kernel), tyX4_ok, nmX4, rfl, rfl, rfl⟩
theorem ff_RX4_22 : gFf RX4 22 4 5 (.array .int) := ⟨_, _, _, tyX4, rfl, in_X4, by decide, lw_t 184 (by decide +kernel) (by decide +kernel), tyX4_ok, nmX4, rfl, rfl, rfl⟩
theorem ff_RX4_25 : gFf RX4 25 4 6 (.array .int) := ⟨_, _, _, tyX4, rfl, in_X4, by decide, lw_t 186 (by decide +kernel) (by decide +kernel), tyX4_ok, nmX4, rfl, rfl, rfl⟩
theorem ff_RX4_28 : gFf RX4 28 4 7 (.array .int) := ⟨_, _, _, tyX4, rfl, in_X4, by decide, lw_t 187 (by decide +kernel) (by decide +kernel), tyX4_ok, nmX4, rfl, rfl, rfl⟩
theorem ff_RX4_31 : gFf RX4 31 4 8 (.array .long) := ⟨_, _, _, tyX4, rfl, in_X4, by decide, lw_t 189 (by decide +kernel) (by decide +kernel), tyX4_ok, nmX4, rfl, rfl, rfl⟩
theorem ff_RX4_44 : gFf RX4 44 4 0 (.object "BagPhrases$Lexicon") := ⟨_, _, _, tyX4, rfl, in_X4, by decide, lw_t 179 (by decide +kernel) (by decide +kernel), tyX4_ok, nmX4, rfl, rfl, rfl⟩
theorem ff_RX4_48 : gFf RX4 48 4 1 (.object "BagPhrases$Setting") := ⟨_, _, _, tyX4, rfl, in_X4, by decide, lw_t 180 (by decide +kernel) (by decide +kernel), tyX4_ok, nmX4, rfl, rfl, rfl⟩
theorem qo_RX4 : Cond.methodLink RX4 3 objectInit ∈ lw_g := lw_t 178 (by decide +kernel) (by decide +kernel)
theorem qc_X4_init : Cond.code yX4_init cX4_init 3 none ∈ lw_g := lw_t 177 (by decide +kernel) (by decide +kernel)
theorem qm_X4_init : Cond.instanceMethod yX4_init ∈ lw_g := lw_t 176 (by decide +kernel) (by decide +kernel)
theorem ff_RX5_9 : gFf RX5 9 5 0 (.array .int) := ⟨_, _, _, tyX5, rfl, in_X5, by decide, lw_t 37 (by decide +kernel) (by decide +kernel), tyX5_ok, nmX5, rfl, rfl, rfl⟩
theorem ff_RX5_15 : gFf RX5 15 5 1 (.array .int) := ⟨_, _, _, tyX5, rfl, in_X5, by decide, lw_t 41 (by decide +kernel) (by decide +kernel), tyX5_ok, nmX5, rfl, rfl, rfl⟩
theorem ff_RX5_18 : gFf RX5 18 5 2 (.array .long) := ⟨_, _, _, tyX5, rfl, in_X5, by decide, lw_t 43 (by decide +kernel) (by decide +kernel), tyX5_ok, nmX5, rfl, rfl, rfl⟩
theorem ff_RX5_22 : gFf RX5 22 5 3 (.array .int) := ⟨_, _, _, tyX5, rfl, in_X5, by decide, lw_t 46 (by decide +kernel) (by decide +kernel), tyX5_ok, nmX5, rfl, rfl, rfl⟩
theorem qo_RX5 : Cond.methodLink RX5 3 objectInit ∈ lw_g := lw_t 36 (by decide +kernel) (by decide +kernel)
theorem qc_X5_init : Cond.code yX5_init cX5_init 1 none ∈ lw_g := lw_t 35 (by decide +kernel) (by decide +kernel)
theorem qm_X5_init : Cond.instanceMethod yX5_init ∈ lw_g := lw_t 34 (by decide +kernel) (by decide +kernel)
theorem ff_RX6_12 : gFf RX6 12 6 3 (.object "BagPhrases$Counting") := ⟨_, _, _, tyX6, rfl, in_X6, by decide, lw_t 233 (by decide +kernel) (by decide +kernel), tyX6_ok, nmX6, rfl, rfl, rfl⟩
theorem ff_RX6_18 : gFf RX6 18 6 5 (.array .long) := ⟨_, _, _, tyX6, rfl, in_X6, by decide, lw_t 236 (by decide +kernel) (by decide +kernel), tyX6_ok, nmX6, rfl, rfl, rfl⟩
theorem ff_RX6_22 : gFf RX6 22 6 6 (.array .long) := ⟨_, _, _, tyX6, rfl, in_X6, by decide, lw_t 237 (by decide +kernel) (by decide +kernel), tyX6_ok, nmX6, rfl, rfl, rfl⟩
theorem ff_RX6_25 : gFf RX6 25 6 7 (.array .int) := ⟨_, _, _, tyX6, rfl, in_X6, by decide, lw_t 238 (by decide +kernel) (by decide +kernel), tyX6_ok, nmX6, rfl, rfl, rfl⟩
theorem ff_RX6_50 : gFf RX6 50 6 0 (.object "BagPhrases$Lexicon") := ⟨_, _, _, tyX6, rfl, in_X6, by decide, lw_t 230 (by decide +kernel) (by decide +kernel), tyX6_ok, nmX6, rfl, rfl, rfl⟩
theorem ff_RX6_54 : gFf RX6 54 6 1 (.object "BagPhrases$Setting") := ⟨_, _, _, tyX6, rfl, in_X6, by decide, lw_t 231 (by decide +kernel) (by decide +kernel), tyX6_ok, nmX6, rfl, rfl, rfl⟩
theorem ff_RX6_63 : gFf RX6 63 6 2 (.object "BagPhrases$Lattice") := ⟨_, _, _, tyX6, rfl, in_X6, by decide, lw_t 232 (by decide +kernel) (by decide +kernel), tyX6_ok, nmX6, rfl, rfl, rfl⟩
theorem ff_RX6_77 : gFf RX6 77 6 4 (.object "BagPhrases$Worths") := ⟨_, _, _, tyX6, rfl, in_X6, by decide, lw_t 235 (by decide +kernel) (by decide +kernel), tyX6_ok, nmX6, rfl, rfl, rfl⟩
theorem qo_RX6 : Cond.methodLink RX6 3 objectInit ∈ lw_g := lw_t 162 (by decide +kernel) (by decide +kernel)
theorem ql_RX6_9 : Cond.classLink RX6 9 RX1 ∈ lw_g := lw_t 163 (by decide +kernel) (by decide +kernel)
theorem ql_RX6_58 : Cond.classLink RX6 58 RX4 ∈ lw_g := lw_t 173 (by decide +kernel) (by decide +kernel)
theorem ql_RX6_67 : Cond.classLink RX6 67 RX10 ∈ lw_g := lw_t 220 (by decide +kernel) (by decide +kernel)
theorem qc_X6_init : Cond.code yX6_init cX6_init 3 none ∈ lw_g := lw_t 161 (by decide +kernel) (by decide +kernel)
theorem qm_X6_init : Cond.instanceMethod yX6_init ∈ lw_g := lw_t 160 (by decide +kernel) (by decide +kernel)
theorem ff_RX7_9 : gFf RX7 9 7 0 (.array .int) := ⟨_, _, _, tyX7, rfl, in_X7, by decide, lw_t 109 (by decide +kernel) (by decide +kernel), tyX7_ok, nmX7, rfl, rfl, rfl⟩
theorem ff_RX7_18 : gFf RX7 18 7 1 (.object "BagPhrases$Lexicon") := ⟨_, _, _, tyX7, rfl, in_X7, by decide, lw_t 110 (by decide +kernel) (by decide +kernel), tyX7_ok, nmX7, rfl, rfl, rfl⟩
theorem ff_RX7_25 : gFf RX7 25 7 2 (.object "BagPhrases$Setting") := ⟨_, _, _, tyX7, rfl, in_X7, by decide, lw_t 112 (by decide +kernel) (by decide +kernel), tyX7_ok, nmX7, rfl, rfl, rfl⟩
theorem qo_RX7 : Cond.methodLink RX7 3 objectInit ∈ lw_g := lw_t 30 (by decide +kernel) (by decide +kernel)
theorem ql_RX7_15 : Cond.classLink RX7 15 RX5 ∈ lw_g := lw_t 31 (by decide +kernel) (by decide +kernel)
theorem ql_RX7_22 : Cond.classLink RX7 22 RX8 ∈ lw_g := lw_t 66 (by decide +kernel) (by decide +kernel)
theorem qc_X7_init : Cond.code yX7_init cX7_init 1 none ∈ lw_g := lw_t 29 (by decide +kernel) (by decide +kernel)
theorem qm_X7_init : Cond.instanceMethod yX7_init ∈ lw_g := lw_t 28 (by decide +kernel) (by decide +kernel)
theorem ff_RX8_9 : gFf RX8 9 8 0 (.array .int) := ⟨_, _, _, tyX8, rfl, in_X8, by decide, lw_t 72 (by decide +kernel) (by decide +kernel), tyX8_ok, nmX8, rfl, rfl, rfl⟩
theorem ff_RX8_15 : gFf RX8 15 8 1 (.array .int) := ⟨_, _, _, tyX8, rfl, in_X8, by decide, lw_t 75 (by decide +kernel) (by decide +kernel), tyX8_ok, nmX8, rfl, rfl, rfl⟩
theorem ff_RX8_18 : gFf RX8 18 8 2 (.array .int) := ⟨_, _, _, tyX8, rfl, in_X8, by decide, lw_t 78 (by decide +kernel) (by decide +kernel), tyX8_ok, nmX8, rfl, rfl, rfl⟩
theorem qo_RX8 : Cond.methodLink RX8 3 objectInit ∈ lw_g := lw_t 71 (by decide +kernel) (by decide +kernel)
theorem qc_X8_init : Cond.code yX8_init cX8_init 1 none ∈ lw_g := lw_t 70 (by decide +kernel) (by decide +kernel)
theorem qm_X8_init : Cond.instanceMethod yX8_init ∈ lw_g := lw_t 69 (by decide +kernel) (by decide +kernel)
theorem qo_RX9 : Cond.methodLink RX9 1 objectInit ∈ lw_g := lw_t 171 (by decide +kernel) (by decide +kernel)
theorem qc_X9_init : Cond.code yX9_init cX9_init 1 none ∈ lw_g := lw_t 170 (by decide +kernel) (by decide +kernel)
theorem qm_X9_init : Cond.instanceMethod yX9_init ∈ lw_g := lw_t 169 (by decide +kernel) (by decide +kernel)
theorem ff_RX10_7 : gFf RX10 7 9 0 (.array .int) := ⟨_, _, _, tyX10, rfl, in_X10, by decide, lw_t 226 (by decide +kernel) (by decide +kernel), tyX10_ok, nmX10, rfl, rfl, rfl⟩
theorem qc_X10_init : Cond.code yX10_init cX10_init 2 none ∈ lw_g := lw_t 224 (by decide +kernel) (by decide +kernel)
theorem qm_X10_init : Cond.instanceMethod yX10_init ∈ lw_g := lw_t 223 (by decide +kernel) (by decide +kernel)
theorem qt_RX0 : Cond.instantiable RX0 10 ∈ lw_g := lw_t 277 (by decide +kernel) (by decide +kernel)
theorem qt_RX1 : Cond.instantiable RX1 0 ∈ lw_g := lw_t 164 (by decide +kernel) (by decide +kernel)
theorem qt_RX2 : Cond.instantiable RX2 4 ∈ lw_g := lw_t 137 (by decide +kernel) (by decide +kernel)
theorem qt_RX3 : Cond.instantiable RX3 1 ∈ lw_g := lw_t 283 (by decide +kernel) (by decide +kernel)
theorem qt_RX4 : Cond.instantiable RX4 12 ∈ lw_g := lw_t 174 (by decide +kernel) (by decide +kernel)
theorem qt_RX5 : Cond.instantiable RX5 5 ∈ lw_g := lw_t 32 (by decide +kernel) (by decide +kernel)
theorem qt_RX6 : Cond.instantiable RX6 14 ∈ lw_g := lw_t 158 (by decide +kernel) (by decide +kernel)
theorem qt_RX7 : Cond.instantiable RX7 6 ∈ lw_g := lw_t 26 (by decide +kernel) (by decide +kernel)
theorem qt_RX8 : Cond.instantiable RX8 6 ∈ lw_g := lw_t 67 (by decide +kernel) (by decide +kernel)
theorem qt_RX10 : Cond.instantiable RX10 1 ∈ lw_g := lw_t 221 (by decide +kernel) (by decide +kernel)
theorem qt_RX11 : Cond.instantiable RX11 17 ∈ lw_g := lw_t 18 (by decide +kernel) (by decide +kernel)
theorem qt_RX12 : Cond.instantiable RX12 45 ∈ lw_g := lw_t 972 (by decide +kernel) (by decide +kernel)
theorem qo_inst : Cond.instanceMethod objectInit ∈ lw_g := lw_t 23 (by decide +kernel) (by decide +kernel)
theorem qo_code : Cond.code objectInit ⟨#[0xb1]⟩ 1 none ∈ lw_g := lw_t 24 (by decide +kernel) (by decide +kernel)
theorem qa_int : Cond.arrayClass .int ∈ lw_g := lw_t 64 (by decide +kernel) (by decide +kernel)
theorem qa_long : Cond.arrayClass .long ∈ lw_g := lw_t 65 (by decide +kernel) (by decide +kernel)
theorem qa_boolean : Cond.arrayClass .boolean ∈ lw_g := lw_t 156 (by decide +kernel) (by decide +kernel)
theorem ql_RL_7 : Cond.classLink RL 7 RX11 ∈ lw_g := lw_t 17 (by decide +kernel) (by decide +kernel)
theorem ql_RL_10 : Cond.classLink RL 10 RX12 ∈ lw_g := lw_t 971 (by decide +kernel) (by decide +kernel)
