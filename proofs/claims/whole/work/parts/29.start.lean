theorem lw_tt {w : Cond} (i : Nat) (h : tables_1[i]? = some w) : w ∈ lw_tbl := List.mem_append_right _ (List.mem_of_getElem? h)
theorem va_P_left {D : va_G} {cl : List vw_C} {a b : va_W} {H : Heap} (h : va_P D cl (a ++ b) H) : va_P D cl a H := fun k q hq => h k q (by rw [List.getElem?_append_left (List.getElem?_eq_some_iff.mp hq).1]; exact hq)
theorem va_P_right {D : va_G} {cl : List vw_C} {a b : va_W} {H : Heap} (h : va_P D cl (a ++ b) H) : va_P D cl b H := fun k q hq => h (a.length + k) q (by rw [List.getElem?_append_right (by omega), Nat.add_sub_cancel_left]; exact hq)
theorem va_D_left {A : Nat → Prop} {a b : va_W} (h : va_D A (a ++ b)) : va_D A a := ⟨fun i j p q hp hq e => h.1 i j p q (by rw [List.getElem?_append_left (List.getElem?_eq_some_iff.mp hp).1]; exact hp) (by rw [List.getElem?_append_left (List.getElem?_eq_some_iff.mp hq).1]; exact hq) e, fun k q hq => h.2 k q (by rw [List.getElem?_append_left (List.getElem?_eq_some_iff.mp hq).1]; exact hq)⟩
theorem va_D_right {A : Nat → Prop} {a b : va_W} (h : va_D A (a ++ b)) : va_D A b := ⟨fun i j p q hp hq e => by
    have := h.1 (a.length + i) (a.length + j) p q (by rw [List.getElem?_append_right (by omega), Nat.add_sub_cancel_left]; exact hp) (by rw [List.getElem?_append_right (by omega), Nat.add_sub_cancel_left]; exact hq) e
    omega, fun k q hq => h.2 (a.length + k) q (by rw [List.getElem?_append_right (by omega), Nat.add_sub_cancel_left]; exact hq)⟩
theorem va_D_apart {A : Nat → Prop} {a b : va_W} (h : va_D A (a ++ b)) {i j : Nat} {p q : Nat × va_E} (hp : a[i]? = some p) (hq : b[j]? = some q) : p.1 ≠ q.1 := fun e => by
  have hl := (List.getElem?_eq_some_iff.mp hp).1
  have := h.1 i (a.length + j) p q (by rw [List.getElem?_append_left hl]; exact hp) (by rw [List.getElem?_append_right (by omega), Nat.add_sub_cancel_left]; exact hq) e
  omega
def cyOf (s : State) (i : Nat) : ClassId := (s.vm.findClass ("[" ++ (match i with | 0 => FieldType.int | 1 => .long | 2 => .boolean | _ => .object "BagPhrases$Setting" : FieldType).toString)).getD default
theorem cyOf_eq {s : State} {i : Nat} {a : ClassId} (h : s.vm.findClass ("[" ++ (match i with | 0 => FieldType.int | 1 => .long | 2 => .boolean | _ => .object "BagPhrases$Setting" : FieldType).toString) = some a) : a = cyOf s i := by unfold cyOf; rw [h]; rfl
theorem start_xF {b : Nat} {s : State} {ad : Nat → Nat} (hts : ∀ w ∈ lw_tbl, w.before #[Value.ref b] s = true) (hgv : (Jvm.Cond.and given_1 narrow_1).before #[Value.ref b] s = true) (hA : ∀ a : Nat, a < s.heap.size → ¬ gA 66 ad a) : ∃ ts : Nat → Nat, xF ad ts s := by
  have hs := flat_of_before _ hgv
  obtain ⟨t0, e0, T0⟩ := va_Tof (tm := .static "BagPhrases$Chances" "SETS_WITH" "[J") (ty := .long) (N := 6) (f := fun j => .long (stL j)) (A := gA 66 ad) (s := s) (args := #[Value.ref b]) (by decide) (hs _ (by decide +kernel)) (va_eqt (hs _ (by decide +kernel))) (fun j hj => by
    rcases (show j = 0 ∨ j = 1 ∨ j = 2 ∨ j = 3 ∨ j = 4 ∨ j = 5 by omega) with rfl | rfl | rfl | rfl | rfl | rfl <;> exact va_eqtl (hs _ (by decide +kernel))) hA
  obtain ⟨t1, e1, T1⟩ := va_Tof (tm := .static "BagPhrases$Chances" "FACTORIALS" "[I") (ty := .int) (N := 9) (f := fun j => .int (stI j)) (A := gA 66 ad) (s := s) (args := #[Value.ref b]) (by decide) (hs _ (by decide +kernel)) (va_eqt (hs _ (by decide +kernel))) (fun j hj => by
    rcases (show j = 0 ∨ j = 1 ∨ j = 2 ∨ j = 3 ∨ j = 4 ∨ j = 5 ∨ j = 6 ∨ j = 7 ∨ j = 8 by omega) with rfl | rfl | rfl | rfl | rfl | rfl | rfl | rfl | rfl <;> exact va_eqt (hs _ (by decide +kernel))) hA
  refine ⟨fun i => if i = 0 then t0 else t1, ⟨⟨va_Zref (hts _ (lw_tt 911 (by decide +kernel))) (hts _ (lw_gin _ qi_RX0)) e0 hA, T0⟩, ⟨va_Zref (hts _ (lw_tt 927 (by decide +kernel))) (hts _ (lw_gin _ qi_RX0)) e1 hA, T1⟩, va_Nw.of rfl (hts _ (lw_tt 428 (by decide +kernel))), va_Nw.of rfl (hts _ (lw_tt 435 (by decide +kernel))), va_Nw.of rfl (hts _ (lw_tt 527 (by decide +kernel)))⟩, va_Nw.of rfl (hts _ (lw_tt 558 (by decide +kernel))), va_Nw.of rfl (hts _ (lw_tt 545 (by decide +kernel))), va_Nw.of rfl (hts _ (lw_tt 602 (by decide +kernel))), va_Nw.of rfl (hts _ (lw_tt 583 (by decide +kernel)))⟩
set_option maxHeartbeats 40000000 in
set_option maxRecDepth 100000 in
/-- THE LAW, from its entry, over any relation of the two memories that every call keeps -/
theorem start_of {Sim : SimT} (h_write : st_write Sim) (h_wipe : st_wipe Sim) (h_fault : st_fault Sim) (h_house : st_house Sim) (h_about : st_about Sim) (h_word : st_word Sim) (h_letter : st_letter Sim) (h_put : st_put Sim) (h_take : st_take Sim) (h_bar : st_bar Sim) (h_rank : st_rank Sim) (h_allow : st_allow Sim) (h_undo : st_undo Sim) (h_many : st_many Sim) (h_having : st_having Sim) (h_best : st_best Sim) (h_phrase : st_phrase Sim) (h_tell : st_tell Sim) (h_clear : st_clear Sim) (h_why : st_why Sim) (h_number : st_number Sim) (h_nearly : st_nearly Sim) (h_judge : st_judge Sim) (h_see : st_see Sim) (h_unsee : st_unsee Sim) (h_left : st_left Sim) (h_share : st_share Sim) (h_hope : st_hope Sim) (h_seed : st_seed Sim) (h_drawn : st_drawn Sim) (h_keep : st_keep Sim) (h_again : st_again Sim) (h0 : Sim I01 J00 I00 J00) {p : Program} {e : Env} {s : State} {m : MethodId} {below : List Frame} {meth : Method} {c : Code} (l : Launch) {b L : Nat} {xs : Nat → Int32} (hL : L ≤ 2048) (C0 : lw_At p s m meth c b L xs) : W p l e room_1 s m #[Value.ref b] below meth c s.heap [] 0 0 (lw_Z below #[Value.ref b] s) (entryFrame m ([Value.ref b] : List Value).toArray 4) := by
  obtain ⟨hx, hb, hr, hml, hown, hts, hX, hbl, hlocks, hgv⟩ := id C0
  have hown : s.vm.findClass RL = some m.cls := hown
  have hts2 : ∀ w ∈ lw_g, w.before #[Value.ref b] s = true := fun w h => hts w (lw_gin w h)
  have hA : ∀ q : Nat, s.heap.size ≤ q → (fun q : Nat => s.heap.size ≤ q) q := fun _ h => h
  obtain ⟨c0, i0, k0⟩ := u_known (C := RX0) (T := TX0) (N := 10) (n := 10) hts2 in_X0 (hts2 _ qt_RX0)
  obtain ⟨c1, i1, k1⟩ := u_known (C := RX1) (T := TX1) (N := 0) (n := 0) hts2 in_X1 (hts2 _ qt_RX1)
  obtain ⟨c2, i2, k2⟩ := u_known (C := RX2) (T := TX2) (N := 4) (n := 4) hts2 in_X2 (hts2 _ qt_RX2)
  obtain ⟨c3, i3, k3⟩ := u_known (C := RX3) (T := TX3) (N := 1) (n := 1) hts2 in_X3 (hts2 _ qt_RX3)
  obtain ⟨c4, i4, k4⟩ := u_known (C := RX4) (T := TX4) (N := 12) (n := 12) hts2 in_X4 (hts2 _ qt_RX4)
  obtain ⟨c5, i5, k5⟩ := u_known (C := RX5) (T := TX5) (N := 5) (n := 5) hts2 in_X5 (hts2 _ qt_RX5)
  obtain ⟨c6, i6, k6⟩ := u_known (C := RX6) (T := TX6) (N := 14) (n := 14) hts2 in_X6 (hts2 _ qt_RX6)
  obtain ⟨c7, i7, k7⟩ := u_known (C := RX7) (T := TX7) (N := 6) (n := 6) hts2 in_X7 (hts2 _ qt_RX7)
  obtain ⟨c8, i8, k8⟩ := u_known (C := RX8) (T := TX8) (N := 6) (n := 6) hts2 in_X8 (hts2 _ qt_RX8)
  obtain ⟨c9, i9, k9⟩ := u_known (C := RX10) (T := TX10) (N := 1) (n := 1) hts2 in_X10 (hts2 _ qt_RX10)
  obtain ⟨c10, i10, k10⟩ := u_known (C := RX11) (T := TX11) (N := 17) (n := 17) hts2 in_X11 (hts2 _ qt_RX11)
  obtain ⟨c11, i11, k11⟩ := u_known (C := RX12) (T := TX12) (N := 45) (n := 45) hts2 in_X12 (hts2 _ qt_RX12)
  obtain ⟨D, hKc⟩ : ∃ D : va_G, ∀ (k : Nat) (q : vw_C), vwCl[k]? = some q → u_Kn s q.1 q.2.1 q.2.2 (D.1 k) (D.2 k) := by
    refine ⟨(fun k => [c0, c1, c2, c3, c4, c5, c6, c7, c8, c9, c10, c11].getD k c0, fun k => [i0, i1, i2, i3, i4, i5, i6, i7, i8, i9, i10, i11].getD k i0), ?_⟩
    intro k q hq
    match k, hq with
    | 0, hq => cases hq; exact k0
    | 1, hq => cases hq; exact k1
    | 2, hq => cases hq; exact k2
    | 3, hq => cases hq; exact k3
    | 4, hq => cases hq; exact k4
    | 5, hq => cases hq; exact k5
    | 6, hq => cases hq; exact k6
    | 7, hq => cases hq; exact k7
    | 8, hq => cases hq; exact k8
    | 9, hq => cases hq; exact k9
    | 10, hq => cases hq; exact k10
    | 11, hq => cases hq; exact k11
    | k + 12, hq => simp [vwCl] at hq
  obtain ⟨cy, hcy⟩ : ∃ cy : Nat → ClassId, cy = cyOf s := ⟨_, rfl⟩
  have hk : kX cy s := by
    subst hcy
    exact ⟨⟨fun a ha => cyOf_eq (i := 0) ha, fun a ha => cyOf_eq (i := 1) ha, fun a ha => cyOf_eq (i := 2) ha, fun a ha => cyOf_eq (i := 3) ha, va_AO.of (hts _ (lw_tt 135 (by decide +kernel)))⟩, va_Nw.of rfl (hts _ (lw_tt 27 (by decide +kernel))), va_Nw.of rfl (hts _ (lw_tt 33 (by decide +kernel))), va_Nw.of rfl (hts _ (lw_tt 68 (by decide +kernel))), va_Nw.of rfl (hts _ (lw_tt 132 (by decide +kernel))), va_Nw.of rfl (hts _ (lw_tt 134 (by decide +kernel))), va_Nw.of rfl (hts _ (lw_tt 138 (by decide +kernel))), va_Nw.of rfl (hts _ (lw_tt 165 (by decide +kernel))), va_Nw.of rfl (hts _ (lw_tt 168 (by decide +kernel))), va_Nw.of rfl (hts _ (lw_tt 225 (by decide +kernel))), va_Nw.of rfl (hts _ (lw_tt 284 (by decide +kernel))), va_Nw.of rfl (hts _ (lw_tt 287 (by decide +kernel)))⟩
  have hS : va_S (fun q : Nat => s.heap.size ≤ q) s.heap s.heap [] := va_S.rf
  have hK : va_K D vwCl [] s := ⟨hKc, fun k q h => by simp at h⟩
  have hP : va_P D vwCl [] s.heap := fun k q h => by simp at h
  have hD : va_D (fun q : Nat => s.heap.size ≤ q) [] := ⟨fun i j p q h => by simp at h, fun k q h => by simp at h⟩
  have hl := lv_entry ([.ref b]) (n := 4) (Nat.le_of_ble_eq_true rfl)
  rw [lg_entry_eq]
  generalize (lg_sl ([.ref b]) ++ List.replicate (4 - (lg_sl ([.ref b])).length) Slot.unset).toArray = ls at hl ⊢
  have hl : lv_has ls 4 [(0, .ref b)] := hl
  refine va_new (ci := 10) (fs := [.null, .null, .null, .null, .null, .null, .null, .null, .null, .null, .null, .null, .null, .null, .int 0, .int 0, .long 0]) (C := RX11) (T := TX11) (N := 17) hx hb hts2 in_X11 tyX11 tyX11_ok hown (hts2 _ ql_RL_7) (hts2 _ qt_RX11) (hts2 _ qi_RX11) hK hP hD hS hA rfl (fun j hj => by rcases (show j = 0 ∨ j = 1 ∨ j = 2 ∨ j = 3 ∨ j = 4 ∨ j = 5 ∨ j = 6 ∨ j = 7 ∨ j = 8 ∨ j = 9 ∨ j = 10 ∨ j = 11 ∨ j = 12 ∨ j = 13 ∨ j = 14 ∨ j = 15 ∨ j = 16 by omega) with rfl | rfl | rfl | rfl | rfl | rfl | rfl | rfl | rfl | rfl | rfl | rfl | rfl | rfl | rfl | rfl | rfl <;> rfl) (by show 0 + 1 ≤ 96; omega) (by show 0 + 17 ≤ 83932; omega) dL_law_0 (fun q0 H hP hD hS => ?_)
  have hP : va_P D vwCl [(q0, .inr (10, [.null, .null, .null, .null, .null, .null, .null, .null, .null, .null, .null, .null, .null, .null, .int 0, .int 0, .long 0]))] H := hP
  have hD : va_D (fun q : Nat => s.heap.size ≤ q) [(q0, .inr (10, [.null, .null, .null, .null, .null, .null, .null, .null, .null, .null, .null, .null, .null, .null, .int 0, .int 0, .long 0]))] := hD
  refine W.widen (k := 1) (n := 17) (by omega) (by omega) ?_
  refine lv_dup hx hb dL_law_3 rfl ?_
  have hFc := va_free (wc := [(q0, .inr (10, [.null, .null, .null, .null, .null, .null, .null, .null, .null, .null, .null, .null, .null, .null, .int 0, .int 0, .long 0]))]) hD hS hA [0] rfl
  refine va_callv (va_runI (Ts := lw_g) (As := []) (rest := [.ref q0]) ⟨hx, hb, hml, hown, hts2⟩ (c_X11_init l D cy q0 H.size) (cwI 0 hts2 (g_goodx qc_X11_init) rfl rfl rfl (hts2 _ qi_RX11) (hts2 _ q_RL_9) (hts2 _ qm_X11_init) rfl ⟨by decide, by decide, by decide⟩ ⟨Nat.le_of_ble_eq_true rfl, Nat.le_of_ble_eq_true rfl⟩) ⟨fun a U g mk q => by obtain ⟨q0, q1, qP, qK, qD, qX⟩ := q; exact ⟨q0, q1, qP, va_K.moved (u := U) (U := U.calling g mk a) (Vm.Alike.refl U.vm) qK, qD, kX_same rfl qX⟩, fun U hU hW => ⟨rfl, by rw [hU], by rw [hU]; exact hP, va_K.moved hW.alike hK, hD.weaken (fun _ _ _ _ => trivial), kX_warm hW hk⟩⟩ rfl rfl hl.1 rfl (lv_room (Nat.le_of_ble_eq_true rfl)) dL_law_4 ⟨by show 1 + 65 ≤ 96; omega, by show 17 + 24303 ≤ 83932; omega⟩) hS (fun q _ h => hFc q h) hFc (fun ad t H1 locs ht hvm hw hB hz1 hk1 hS => ?_)
  have hw : ad 0 = q0 := hw
  subst hw
  obtain ⟨hP1, hK1, hD1⟩ := hB
  rw [ht] at hP1
  have hK := va_K.moved hvm.symm hK1
  have hP : va_P D vwCl (gW (xS ad cy) 66 ad I01 J00) H1 := hP1
  have hD : va_D (fun q : Nat => s.heap.size ≤ q) (gW (xS ad cy) 66 ad I01 J00) := hD1.weaken (fun k q _ h => hFc q.1 h)
  clear hP1 hD1 hk1 hFc
  refine W.widen (k := 66) (n := 24320) (by omega) (by omega) ?_
  refine lv_astore_n (lv' := [(1, .ref (ad 0)), (0, .ref b)]) hx hb dL_law_7 rfl hl (by decide) rfl (fun ls hl => ?_)
  refine va_new (ci := 11) (fs := [.null, .int 0, .int 0, .null, .null, .null, .null, .null, .null, .null, .int 0, .int 0, .null, .null, .null, .int 0, .null, .null, .null, .int 0, .long 0, .int 0, .null, .null, .null, .null, .int 0, .int 0, .int 0, .null, .null, .int 0, .int 0, .null, .null, .null, .null, .null, .null, .null, .null, .int 0, .int 0, .int 0, .null]) (C := RX12) (T := TX12) (N := 45) hx hb hts2 in_X12 tyX12 tyX12_ok hown (hts2 _ ql_RL_10) (hts2 _ qt_RX12) (hts2 _ qi_RX12) hK hP hD hS hA rfl (fun j hj => by rcases (show j = 0 ∨ j = 1 ∨ j = 2 ∨ j = 3 ∨ j = 4 ∨ j = 5 ∨ j = 6 ∨ j = 7 ∨ j = 8 ∨ j = 9 ∨ j = 10 ∨ j = 11 ∨ j = 12 ∨ j = 13 ∨ j = 14 ∨ j = 15 ∨ j = 16 ∨ j = 17 ∨ j = 18 ∨ j = 19 ∨ j = 20 ∨ j = 21 ∨ j = 22 ∨ j = 23 ∨ j = 24 ∨ j = 25 ∨ j = 26 ∨ j = 27 ∨ j = 28 ∨ j = 29 ∨ j = 30 ∨ j = 31 ∨ j = 32 ∨ j = 33 ∨ j = 34 ∨ j = 35 ∨ j = 36 ∨ j = 37 ∨ j = 38 ∨ j = 39 ∨ j = 40 ∨ j = 41 ∨ j = 42 ∨ j = 43 ∨ j = 44 by omega) with rfl | rfl | rfl | rfl | rfl | rfl | rfl | rfl | rfl | rfl | rfl | rfl | rfl | rfl | rfl | rfl | rfl | rfl | rfl | rfl | rfl | rfl | rfl | rfl | rfl | rfl | rfl | rfl | rfl | rfl | rfl | rfl | rfl | rfl | rfl | rfl | rfl | rfl | rfl | rfl | rfl | rfl | rfl | rfl | rfl <;> rfl) (by show 66 + 1 ≤ 96; omega) (by show 24320 + 45 ≤ 83932; omega) dL_law_8 (fun q8 H hP hD hS => ?_)
  have hPx := va_P_left hP
  have hPm := va_P_right hP
  have hDm := va_D_right hD
  have hap : ∀ i, i < 66 → ad i ≠ q8 := fun i hi => va_D_apart hD (gW_get hi) (j := 0) rfl
  have hDx := va_D_left hD
  refine W.widen (k := 67) (n := 24365) (by omega) (by omega) ?_
  refine lv_dup hx hb dL_law_11 rfl ?_
  have hFc := va_free (wc := [(q8, .inr (11, [.null, .int 0, .int 0, .null, .null, .null, .null, .null, .null, .null, .int 0, .int 0, .null, .null, .null, .int 0, .null, .null, .null, .int 0, .long 0, .int 0, .null, .null, .null, .null, .int 0, .int 0, .int 0, .null, .null, .int 0, .int 0, .null, .null, .null, .null, .null, .null, .null, .null, .int 0, .int 0, .int 0, .null]))]) hDm hS hA [0] rfl
  refine va_callv (va_runI (Ts := lw_g) (As := []) (rest := [.ref q8]) ⟨hx, hb, hml, hown, hts2⟩ (c_X12_init l D cy q8 H.size) (cwI 0 hts2 (g_goodx qc_X12_init) rfl rfl rfl (hts2 _ qi_RX12) (hts2 _ q_RL_12) (hts2 _ qm_X12_init) rfl ⟨by decide, by decide, by decide⟩ ⟨Nat.le_of_ble_eq_true rfl, Nat.le_of_ble_eq_true rfl⟩) ⟨fun a U g mk q => by obtain ⟨q0, q1, qP, qK, qD, qX⟩ := q; exact ⟨q0, q1, qP, va_K.moved (u := U) (U := U.calling g mk a) (Vm.Alike.refl U.vm) qK, qD, kX_same rfl qX⟩, fun U hU hW => ⟨rfl, by rw [hU], by rw [hU]; exact hPm, va_K.moved hW.alike hK, hDm.weaken (fun _ _ _ _ => trivial), kX_warm hW hk⟩⟩ rfl rfl hl.1 rfl (lv_room (Nat.le_of_ble_eq_true rfl)) dL_law_12 ⟨by show 67 + 29 ≤ 96; omega, by show 24365 + 59567 ≤ 83932; omega⟩) hS (fun q _ h => hFc q h) hFc (fun am t H1 locs ht hvm hw hB hz1 hk1 hS => ?_)
  have hw : am 0 = q8 := hw
  obtain ⟨hP1, -, hD1⟩ := hB
  rw [ht] at hP1
  refine W.widen (k := 96) (n := 83932) (by omega) (by omega) ?_
  have hlx : ∀ i, i < 66 → ad i < H.size := fun i hi => (hPx i _ (gW_get hi)).lt
  have hno : ∀ i, i < 66 → ¬ va_A [(q8, .inr (11, [.null, .int 0, .int 0, .null, .null, .null, .null, .null, .null, .null, .int 0, .int 0, .null, .null, .null, .int 0, .null, .null, .null, .int 0, .long 0, .int 0, .null, .null, .null, .null, .int 0, .int 0, .int 0, .null, .null, .int 0, .int 0, .null, .null, .null, .null, .null, .null, .null, .null, .int 0, .int 0, .int 0, .null]))] H.size (ad i) := fun i hi h => by
    rcases h with ⟨k, e, h⟩ | h
    · match k, h with
      | 0, h => exact hap i hi (congrArg Prod.fst (Option.some.inj h)).symm
      | k + 1, h => simp at h
    · exact absurd (hlx i hi) (Nat.not_lt.mpr h)
  have hPx1 : va_P D vwCl (gW (xS ad cy) 66 ad I01 J00) H1 := fun k q hq => by
    obtain ⟨g1, g2⟩ := gW_of hq
    exact (hPx k q hq).kept (hk1 q.1 ((hPx k q hq).lt) (by rw [g2]; exact hno k g1))
  have hin1 : ∀ j, j < 30 → va_A [(q8, .inr (11, [.null, .int 0, .int 0, .null, .null, .null, .null, .null, .null, .null, .int 0, .int 0, .null, .null, .null, .int 0, .null, .null, .null, .int 0, .long 0, .int 0, .null, .null, .null, .null, .int 0, .int 0, .int 0, .null, .null, .int 0, .int 0, .null, .null, .null, .null, .null, .null, .null, .null, .int 0, .int 0, .int 0, .null]))] H.size (am j) := fun j hj => hD1.2 j _ (gW_get hj)
  have hlA : lA ad am s := ⟨fun i hi j hj h => hno i hi (h ▸ hin1 j hj), fun i hi => hDx.2 i _ (gW_get hi), fun j hj => hFc _ (hin1 j hj)⟩
  obtain ⟨ts, hxF⟩ := start_xF (ad := ad) hts hgv (fun a ha ⟨i, hi, e9⟩ => absurd (hlA.2.1 i hi) (Nat.not_le.mpr (e9 ▸ ha)))
  have C : lC p s m meth c b L xs ad am ts cy D := ⟨hx, hb, hr, hml, hown, hts2, hlocks, hK, hxF, hX, hbl, hlA⟩
  have hw9 : lH ad am cy D s I01 J00 I00 J00 H1 locs := ⟨hPx1, gW_D hDx, hP1, gW_D hD1, hS⟩
  rw [← hw]
  refine lv_astore_n (lv' := [(2, .ref (am 0)), (1, .ref (ad 0)), (0, .ref b)]) hx hb dL_law_15 rfl hl (by decide) rfl (fun ls hl => ?_)
  refine lv_iconst (v := 0) hx hb dL_law_16 (by decide) ?_
  refine lv_istore_n (lv' := [(3, .int 0), (2, .ref (am 0)), (1, .ref (ad 0)), (0, .ref b)]) hx hb dL_law_17 rfl hl (by decide) rfl (fun ls hl => ?_)
  exact law_loop h_write h_wipe h_fault h_house h_about h_word h_letter h_put h_take h_bar h_rank h_allow h_undo h_many h_having h_best h_phrase h_tell h_clear h_why h_number h_nearly h_judge h_see h_unsee h_left h_share h_hope h_seed h_drawn h_keep h_again hL C (L + 1) 0 0 (by omega) (by omega) nI_0.symm h0 hw9 (lv_sub hl [3, 2, 1, 0] rfl)
