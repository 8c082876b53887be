theorem law_gt {x3 : Int32} {j L : Nat} (ex : x3 = nI j) (h : L < j + 4) (h2 : j ≤ 4096) (hL : L ≤ 2048) : Int32.ofNat L - 4 < x3 := by
  rw [ex, Int32.lt_iff_toInt_lt, show (Int32.ofNat L - 4 : Int32) = nI L - nI 4 from rfl, pk_sub_toInt (by omega) (by omega), nI_toInt (by omega)]
  omega
section
variable {p : Program} {l : Launch} {e : Env} {s : State} {m : MethodId} {below : List Frame} {meth : Method} {c : Code} {b L : Nat} {xs : Nat → Int32} {ad am ts : Nat → Nat} {cy : Nat → ClassId} {D : va_G}
set_option maxHeartbeats 4000000 in
set_option maxRecDepth 100000 in
theorem law_0 {Sim : SimT} (h_write : st_write Sim) (C : lC p s m meth c b L xs ad am ts cy D) {x3 : Int32} (v1 : vp_in (x3 + 1) L) (v2 : vp_in (x3 + 2) L) (v3 : vp_in (x3 + 3) L) (ih : ∀ {I : MI} {J : MJ} {I2 : MI} {J2 : MJ} {H : Heap} {locs : List Loc} {ls : Array Slot}, Sim I J I2 J2 → lH ad am cy D s I J I2 J2 H locs → lv_has ls 4 [(0, .ref b), (1, .ref (ad 0)), (2, .ref (am 0)), (3, .int x3)] → W p l e room_1 s m #[Value.ref b] below meth c H locs 96 83932 (lw_Z below #[Value.ref b] s) (F0 m 1079 ls [])) {I : MI} {J : MJ} {I2 : MI} {J2 : MJ} {H : Heap} {locs : List Loc} {ls : Array Slot} (h : Sim I J I2 J2) (hw : lH ad am cy D s I J I2 J2 H locs) (hl : lv_has ls 4 [(0, .ref b), (1, .ref (ad 0)), (2, .ref (am 0)), (3, .int x3)]) : W p l e room_1 s m #[Value.ref b] below meth c H locs 96 83932 (lw_Z below #[Value.ref b] s) (F0 m 176 ls []) := by
  obtain ⟨hx, hb, -, -, hown, hts, -, -, -, hX, hbl, -⟩ := id C
  have hbA : ¬ (fun q : Nat => s.heap.size ≤ q) b := Nat.not_le.mpr hbl
  refine lv_aload_n hx hb dL_law_176 rfl (lv_at hl 1 rfl) ?_
  refine lv_aload_n hx hb dL_law_177 rfl (lv_at hl 0 rfl) ?_
  refine lv_iload_n hx hb dL_law_178 rfl (lv_at hl 3 rfl) ?_
  refine lv_iconst (v := 1) hx hb dL_law_179 (by decide) ?_
  refine lv_iadd hx hb dL_law_180 ?_
  refine va_sld hx hb hX hbl hbA hw.2.2.2.2 v1 dL_law_181 ?_
  have h := h_write (xs (x3 + (1 : Int32)).toNatClampNeg) _ _ _ _ h
  refine l_ciX C hw (l_rX [.int (xs (x3 + (1 : Int32)).toNatClampNeg)] [] C hw (m_X11_write h) k_X11_write q_RL_13 rfl rfl hl.1 rfl (Nat.le_of_ble_eq_true rfl) ⟨⟨rfl, rfl⟩, Nat.le_of_ble_eq_true rfl, Nat.le_of_ble_eq_true rfl⟩ dL_law_182) (fun r182 I J H locs h hw => ?_)
  have h : P_X12_write _ _ _ _ := h
  refine lv_aload_n hx hb dL_law_185 rfl (lv_at hl 2 rfl) ?_
  refine lv_aload_n hx hb dL_law_186 rfl (lv_at hl 0 rfl) ?_
  refine lv_iload_n hx hb dL_law_187 rfl (lv_at hl 3 rfl) ?_
  refine lv_iconst (v := 1) hx hb dL_law_188 (by decide) ?_
  refine lv_iadd hx hb dL_law_189 ?_
  refine va_sld hx hb hX hbl hbA hw.2.2.2.2 v1 dL_law_190 ?_
  refine l_ciM C hw (l_rM [.int (xs (x3 + (1 : Int32)).toNatClampNeg)] [.int r182] C hw (m_X12_write h) k_X12_write q_RL_17 rfl rfl hl.1 rfl (Nat.le_of_ble_eq_true rfl) ⟨⟨rfl, rfl⟩, Nat.le_of_ble_eq_true rfl, Nat.le_of_ble_eq_true rfl⟩ dL_law_191) (fun r191 I2 J2 H locs h hw => ?_)
  refine lv_icmp_eq (tgt := 1079) hx hb dL_law_194 (by decide) (fun c194 => ?_) (fun c194 => absurd h.1 c194)
  exact ih h.2 hw hl
set_option maxHeartbeats 4000000 in
set_option maxRecDepth 100000 in
theorem law_1 {Sim : SimT} (h_wipe : st_wipe Sim) (C : lC p s m meth c b L xs ad am ts cy D) {x3 : Int32} (v1 : vp_in (x3 + 1) L) (v2 : vp_in (x3 + 2) L) (v3 : vp_in (x3 + 3) L) (ih : ∀ {I : MI} {J : MJ} {I2 : MI} {J2 : MJ} {H : Heap} {locs : List Loc} {ls : Array Slot}, Sim I J I2 J2 → lH ad am cy D s I J I2 J2 H locs → lv_has ls 4 [(0, .ref b), (1, .ref (ad 0)), (2, .ref (am 0)), (3, .int x3)] → W p l e room_1 s m #[Value.ref b] below meth c H locs 96 83932 (lw_Z below #[Value.ref b] s) (F0 m 1079 ls [])) {I : MI} {J : MJ} {I2 : MI} {J2 : MJ} {H : Heap} {locs : List Loc} {ls : Array Slot} (h : Sim I J I2 J2) (hw : lH ad am cy D s I J I2 J2 H locs) (hl : lv_has ls 4 [(0, .ref b), (1, .ref (ad 0)), (2, .ref (am 0)), (3, .int x3)]) : W p l e room_1 s m #[Value.ref b] below meth c H locs 96 83932 (lw_Z below #[Value.ref b] s) (F0 m 199 ls []) := by
  obtain ⟨hx, hb, -, -, hown, hts, -, -, -, hX, hbl, -⟩ := id C
  have hbA : ¬ (fun q : Nat => s.heap.size ≤ q) b := Nat.not_le.mpr hbl
  refine lv_aload_n hx hb dL_law_199 rfl (lv_at hl 1 rfl) ?_
  have h := h_wipe _ _ _ _ h
  refine l_ciX C hw (l_rX [] [] C hw (m_X11_wipe h) k_X11_wipe q_RL_18 rfl rfl hl.1 rfl (Nat.le_of_ble_eq_true rfl) ⟨⟨rfl, rfl⟩, Nat.le_of_ble_eq_true rfl, Nat.le_of_ble_eq_true rfl⟩ dL_law_200) (fun r200 I J H locs h hw => ?_)
  have h : P_X12_wipe _ _ _ := h
  refine lv_aload_n hx hb dL_law_203 rfl (lv_at hl 2 rfl) ?_
  refine l_ciM C hw (l_rM [] [.int r200] C hw (m_X12_wipe h) k_X12_wipe q_RL_22 rfl rfl hl.1 rfl (Nat.le_of_ble_eq_true rfl) ⟨⟨rfl, rfl⟩, Nat.le_of_ble_eq_true rfl, Nat.le_of_ble_eq_true rfl⟩ dL_law_204) (fun r204 I2 J2 H locs h hw => ?_)
  refine lv_icmp_eq (tgt := 1079) hx hb dL_law_207 (by decide) (fun c207 => ?_) (fun c207 => absurd h.1 c207)
  exact ih h.2 hw hl
set_option maxHeartbeats 4000000 in
set_option maxRecDepth 100000 in
theorem law_2 {Sim : SimT} (h_fault : st_fault Sim) (C : lC p s m meth c b L xs ad am ts cy D) {x3 : Int32} (v1 : vp_in (x3 + 1) L) (v2 : vp_in (x3 + 2) L) (v3 : vp_in (x3 + 3) L) (ih : ∀ {I : MI} {J : MJ} {I2 : MI} {J2 : MJ} {H : Heap} {locs : List Loc} {ls : Array Slot}, Sim I J I2 J2 → lH ad am cy D s I J I2 J2 H locs → lv_has ls 4 [(0, .ref b), (1, .ref (ad 0)), (2, .ref (am 0)), (3, .int x3)] → W p l e room_1 s m #[Value.ref b] below meth c H locs 96 83932 (lw_Z below #[Value.ref b] s) (F0 m 1079 ls [])) {I : MI} {J : MJ} {I2 : MI} {J2 : MJ} {H : Heap} {locs : List Loc} {ls : Array Slot} (h : Sim I J I2 J2) (hw : lH ad am cy D s I J I2 J2 H locs) (hl : lv_has ls 4 [(0, .ref b), (1, .ref (ad 0)), (2, .ref (am 0)), (3, .int x3)]) : W p l e room_1 s m #[Value.ref b] below meth c H locs 96 83932 (lw_Z below #[Value.ref b] s) (F0 m 212 ls []) := by
  obtain ⟨hx, hb, -, -, hown, hts, -, -, -, hX, hbl, -⟩ := id C
  have hbA : ¬ (fun q : Nat => s.heap.size ≤ q) b := Nat.not_le.mpr hbl
  refine lv_aload_n hx hb dL_law_212 rfl (lv_at hl 1 rfl) ?_
  have h := h_fault _ _ _ _ h
  refine l_ciX C hw (l_rX [] [] C hw (m_X11_fault h) k_X11_fault q_RL_23 rfl rfl hl.1 rfl (Nat.le_of_ble_eq_true rfl) ⟨⟨rfl, rfl⟩, Nat.le_of_ble_eq_true rfl, Nat.le_of_ble_eq_true rfl⟩ dL_law_213) (fun r213 I J H locs h hw => ?_)
  have h : P_X12_fault _ _ _ := h
  refine lv_aload_n hx hb dL_law_216 rfl (lv_at hl 2 rfl) ?_
  refine l_ciM C hw (l_rM [] [.int r213] C hw (m_X12_fault h) k_X12_fault q_RL_26 rfl rfl hl.1 rfl (Nat.le_of_ble_eq_true rfl) ⟨⟨rfl, rfl⟩, Nat.le_of_ble_eq_true rfl, Nat.le_of_ble_eq_true rfl⟩ dL_law_217) (fun r217 I2 J2 H locs h hw => ?_)
  refine lv_icmp_eq (tgt := 1079) hx hb dL_law_220 (by decide) (fun c220 => ?_) (fun c220 => absurd h.1 c220)
  exact ih h.2 hw hl
set_option maxHeartbeats 4000000 in
set_option maxRecDepth 100000 in
theorem law_3 {Sim : SimT} (h_house : st_house Sim) (C : lC p s m meth c b L xs ad am ts cy D) {x3 : Int32} (v1 : vp_in (x3 + 1) L) (v2 : vp_in (x3 + 2) L) (v3 : vp_in (x3 + 3) L) (ih : ∀ {I : MI} {J : MJ} {I2 : MI} {J2 : MJ} {H : Heap} {locs : List Loc} {ls : Array Slot}, Sim I J I2 J2 → lH ad am cy D s I J I2 J2 H locs → lv_has ls 4 [(0, .ref b), (1, .ref (ad 0)), (2, .ref (am 0)), (3, .int x3)] → W p l e room_1 s m #[Value.ref b] below meth c H locs 96 83932 (lw_Z below #[Value.ref b] s) (F0 m 1079 ls [])) {I : MI} {J : MJ} {I2 : MI} {J2 : MJ} {H : Heap} {locs : List Loc} {ls : Array Slot} (h : Sim I J I2 J2) (hw : lH ad am cy D s I J I2 J2 H locs) (hl : lv_has ls 4 [(0, .ref b), (1, .ref (ad 0)), (2, .ref (am 0)), (3, .int x3)]) : W p l e room_1 s m #[Value.ref b] below meth c H locs 96 83932 (lw_Z below #[Value.ref b] s) (F0 m 225 ls []) := by
  obtain ⟨hx, hb, -, -, hown, hts, -, -, -, hX, hbl, -⟩ := id C
  have hbA : ¬ (fun q : Nat => s.heap.size ≤ q) b := Nat.not_le.mpr hbl
  refine lv_aload_n hx hb dL_law_225 rfl (lv_at hl 1 rfl) ?_
  have h := h_house _ _ _ _ h
  refine l_ciX C hw (l_rX [] [] C hw (m_X11_house h) k_X11_house q_RL_27 rfl rfl hl.1 rfl (Nat.le_of_ble_eq_true rfl) ⟨⟨rfl, rfl⟩, Nat.le_of_ble_eq_true rfl, Nat.le_of_ble_eq_true rfl⟩ dL_law_226) (fun r226 I J H locs h hw => ?_)
  have h : P_X12_house _ _ _ := h
  refine lv_aload_n hx hb dL_law_229 rfl (lv_at hl 2 rfl) ?_
  refine l_ciM C hw (l_rM [] [.int r226] C hw (m_X12_house h) k_X12_house q_RL_30 rfl rfl hl.1 rfl (Nat.le_of_ble_eq_true rfl) ⟨⟨rfl, rfl⟩, Nat.le_of_ble_eq_true rfl, Nat.le_of_ble_eq_true rfl⟩ dL_law_230) (fun r230 I2 J2 H locs h hw => ?_)
  refine lv_icmp_eq (tgt := 1079) hx hb dL_law_233 (by decide) (fun c233 => ?_) (fun c233 => absurd h.1 c233)
  exact ih h.2 hw hl
set_option maxHeartbeats 4000000 in
set_option maxRecDepth 100000 in
theorem law_4 {Sim : SimT} (h_about : st_about Sim) (C : lC p s m meth c b L xs ad am ts cy D) {x3 : Int32} (v1 : vp_in (x3 + 1) L) (v2 : vp_in (x3 + 2) L) (v3 : vp_in (x3 + 3) L) (ih : ∀ {I : MI} {J : MJ} {I2 : MI} {J2 : MJ} {H : Heap} {locs : List Loc} {ls : Array Slot}, Sim I J I2 J2 → lH ad am cy D s I J I2 J2 H locs → lv_has ls 4 [(0, .ref b), (1, .ref (ad 0)), (2, .ref (am 0)), (3, .int x3)] → W p l e room_1 s m #[Value.ref b] below meth c H locs 96 83932 (lw_Z below #[Value.ref b] s) (F0 m 1079 ls [])) {I : MI} {J : MJ} {I2 : MI} {J2 : MJ} {H : Heap} {locs : List Loc} {ls : Array Slot} (h : Sim I J I2 J2) (hw : lH ad am cy D s I J I2 J2 H locs) (hl : lv_has ls 4 [(0, .ref b), (1, .ref (ad 0)), (2, .ref (am 0)), (3, .int x3)]) : W p l e room_1 s m #[Value.ref b] below meth c H locs 96 83932 (lw_Z below #[Value.ref b] s) (F0 m 238 ls []) := by
  obtain ⟨hx, hb, -, -, hown, hts, -, -, -, hX, hbl, -⟩ := id C
  have hbA : ¬ (fun q : Nat => s.heap.size ≤ q) b := Nat.not_le.mpr hbl
  refine lv_aload_n hx hb dL_law_238 rfl (lv_at hl 1 rfl) ?_
  refine lv_aload_n hx hb dL_law_239 rfl (lv_at hl 0 rfl) ?_
  refine lv_iload_n hx hb dL_law_240 rfl (lv_at hl 3 rfl) ?_
  refine lv_iconst (v := 1) hx hb dL_law_241 (by decide) ?_
  refine lv_iadd hx hb dL_law_242 ?_
  refine va_sld hx hb hX hbl hbA hw.2.2.2.2 v1 dL_law_243 ?_
  have h := h_about (xs (x3 + (1 : Int32)).toNatClampNeg) _ _ _ _ h
  refine l_ciX C hw (l_rX [.int (xs (x3 + (1 : Int32)).toNatClampNeg)] [] C hw (m_X11_about h) k_X11_about q_RL_31 rfl rfl hl.1 rfl (Nat.le_of_ble_eq_true rfl) ⟨⟨rfl, rfl⟩, Nat.le_of_ble_eq_true rfl, Nat.le_of_ble_eq_true rfl⟩ dL_law_244) (fun r244 I J H locs h hw => ?_)
  have h : P_X12_about _ _ _ _ := h
  refine lv_aload_n hx hb dL_law_247 rfl (lv_at hl 2 rfl) ?_
  refine lv_aload_n hx hb dL_law_248 rfl (lv_at hl 0 rfl) ?_
  refine lv_iload_n hx hb dL_law_249 rfl (lv_at hl 3 rfl) ?_
  refine lv_iconst (v := 1) hx hb dL_law_250 (by decide) ?_
  refine lv_iadd hx hb dL_law_251 ?_
  refine va_sld hx hb hX hbl hbA hw.2.2.2.2 v1 dL_law_252 ?_
  refine l_ciM C hw (l_rM [.int (xs (x3 + (1 : Int32)).toNatClampNeg)] [.int r244] C hw (m_X12_about h) k_X12_about q_RL_34 rfl rfl hl.1 rfl (Nat.le_of_ble_eq_true rfl) ⟨⟨rfl, rfl⟩, Nat.le_of_ble_eq_true rfl, Nat.le_of_ble_eq_true rfl⟩ dL_law_253) (fun r253 I2 J2 H locs h hw => ?_)
  refine lv_icmp_eq (tgt := 1079) hx hb dL_law_256 (by decide) (fun c256 => ?_) (fun c256 => absurd h.1 c256)
  exact ih h.2 hw hl
set_option maxHeartbeats 4000000 in
set_option maxRecDepth 100000 in
theorem law_5 {Sim : SimT} (h_word : st_word Sim) (C : lC p s m meth c b L xs ad am ts cy D) {x3 : Int32} (v1 : vp_in (x3 + 1) L) (v2 : vp_in (x3 + 2) L) (v3 : vp_in (x3 + 3) L) (ih : ∀ {I : MI} {J : MJ} {I2 : MI} {J2 : MJ} {H : Heap} {locs : List Loc} {ls : Array Slot}, Sim I J I2 J2 → lH ad am cy D s I J I2 J2 H locs → lv_has ls 4 [(0, .ref b), (1, .ref (ad 0)), (2, .ref (am 0)), (3, .int x3)] → W p l e room_1 s m #[Value.ref b] below meth c H locs 96 83932 (lw_Z below #[Value.ref b] s) (F0 m 1079 ls [])) {I : MI} {J : MJ} {I2 : MI} {J2 : MJ} {H : Heap} {locs : List Loc} {ls : Array Slot} (h : Sim I J I2 J2) (hw : lH ad am cy D s I J I2 J2 H locs) (hl : lv_has ls 4 [(0, .ref b), (1, .ref (ad 0)), (2, .ref (am 0)), (3, .int x3)]) : W p l e room_1 s m #[Value.ref b] below meth c H locs 96 83932 (lw_Z below #[Value.ref b] s) (F0 m 261 ls []) := by
  obtain ⟨hx, hb, -, -, hown, hts, -, -, -, hX, hbl, -⟩ := id C
  have hbA : ¬ (fun q : Nat => s.heap.size ≤ q) b := Nat.not_le.mpr hbl
  refine lv_aload_n hx hb dL_law_261 rfl (lv_at hl 1 rfl) ?_
  refine lv_aload_n hx hb dL_law_262 rfl (lv_at hl 0 rfl) ?_
  refine lv_iload_n hx hb dL_law_263 rfl (lv_at hl 3 rfl) ?_
  refine lv_iconst (v := 1) hx hb dL_law_264 (by decide) ?_
  refine lv_iadd hx hb dL_law_265 ?_
  refine va_sld hx hb hX hbl hbA hw.2.2.2.2 v1 dL_law_266 ?_
  refine lv_aload_n hx hb dL_law_267 rfl (lv_at hl 0 rfl) ?_
  refine lv_iload_n hx hb dL_law_268 rfl (lv_at hl 3 rfl) ?_
  refine lv_iconst (v := 2) hx hb dL_law_269 (by decide) ?_
  refine lv_iadd hx hb dL_law_270 ?_
  refine va_sld hx hb hX hbl hbA hw.2.2.2.2 v2 dL_law_271 ?_
  have h := h_word (xs (x3 + (1 : Int32)).toNatClampNeg) (xs (x3 + (2 : Int32)).toNatClampNeg) _ _ _ _ h
  refine l_ciX C hw (l_rX [.int (xs (x3 + (1 : Int32)).toNatClampNeg), .int (xs (x3 + (2 : Int32)).toNatClampNeg)] [] C hw (m_X11_word h) k_X11_word q_RL_35 rfl rfl hl.1 rfl (Nat.le_of_ble_eq_true rfl) ⟨⟨rfl, rfl⟩, Nat.le_of_ble_eq_true rfl, Nat.le_of_ble_eq_true rfl⟩ dL_law_272) (fun r272 I J H locs h hw => ?_)
  have h : P_X12_word _ _ _ _ _ := h
  refine lv_aload_n hx hb dL_law_275 rfl (lv_at hl 2 rfl) ?_
  refine lv_aload_n hx hb dL_law_276 rfl (lv_at hl 0 rfl) ?_
  refine lv_iload_n hx hb dL_law_277 rfl (lv_at hl 3 rfl) ?_
  refine lv_iconst (v := 1) hx hb dL_law_278 (by decide) ?_
  refine lv_iadd hx hb dL_law_279 ?_
  refine va_sld hx hb hX hbl hbA hw.2.2.2.2 v1 dL_law_280 ?_
  refine lv_aload_n hx hb dL_law_281 rfl (lv_at hl 0 rfl) ?_
  refine lv_iload_n hx hb dL_law_282 rfl (lv_at hl 3 rfl) ?_
  refine lv_iconst (v := 2) hx hb dL_law_283 (by decide) ?_
  refine lv_iadd hx hb dL_law_284 ?_
  refine va_sld hx hb hX hbl hbA hw.2.2.2.2 v2 dL_law_285 ?_
  refine l_ciM C hw (l_rM [.int (xs (x3 + (1 : Int32)).toNatClampNeg), .int (xs (x3 + (2 : Int32)).toNatClampNeg)] [.int r272] C hw (m_X12_word h) k_X12_word q_RL_39 rfl rfl hl.1 rfl (Nat.le_of_ble_eq_true rfl) ⟨⟨rfl, rfl⟩, Nat.le_of_ble_eq_true rfl, Nat.le_of_ble_eq_true rfl⟩ dL_law_286) (fun r286 I2 J2 H locs h hw => ?_)
  refine lv_icmp_eq (tgt := 1079) hx hb dL_law_289 (by decide) (fun c289 => ?_) (fun c289 => absurd h.1 c289)
  exact ih h.2 hw hl
set_option maxHeartbeats 4000000 in
set_option maxRecDepth 100000 in
theorem law_6 {Sim : SimT} (h_letter : st_letter Sim) (C : lC p s m meth c b L xs ad am ts cy D) {x3 : Int32} (v1 : vp_in (x3 + 1) L) (v2 : vp_in (x3 + 2) L) (v3 : vp_in (x3 + 3) L) (ih : ∀ {I : MI} {J : MJ} {I2 : MI} {J2 : MJ} {H : Heap} {locs : List Loc} {ls : Array Slot}, Sim I J I2 J2 → lH ad am cy D s I J I2 J2 H locs → lv_has ls 4 [(0, .ref b), (1, .ref (ad 0)), (2, .ref (am 0)), (3, .int x3)] → W p l e room_1 s m #[Value.ref b] below meth c H locs 96 83932 (lw_Z below #[Value.ref b] s) (F0 m 1079 ls [])) {I : MI} {J : MJ} {I2 : MI} {J2 : MJ} {H : Heap} {locs : List Loc} {ls : Array Slot} (h : Sim I J I2 J2) (hw : lH ad am cy D s I J I2 J2 H locs) (hl : lv_has ls 4 [(0, .ref b), (1, .ref (ad 0)), (2, .ref (am 0)), (3, .int x3)]) : W p l e room_1 s m #[Value.ref b] below meth c H locs 96 83932 (lw_Z below #[Value.ref b] s) (F0 m 294 ls []) := by
  obtain ⟨hx, hb, -, -, hown, hts, -, -, -, hX, hbl, -⟩ := id C
  have hbA : ¬ (fun q : Nat => s.heap.size ≤ q) b := Nat.not_le.mpr hbl
  refine lv_aload_n hx hb dL_law_294 rfl (lv_at hl 1 rfl) ?_
  refine lv_aload_n hx hb dL_law_295 rfl (lv_at hl 0 rfl) ?_
  refine lv_iload_n hx hb dL_law_296 rfl (lv_at hl 3 rfl) ?_
  refine lv_iconst (v := 1) hx hb dL_law_297 (by decide) ?_
  refine lv_iadd hx hb dL_law_298 ?_
  refine va_sld hx hb hX hbl hbA hw.2.2.2.2 v1 dL_law_299 ?_
  refine lv_aload_n hx hb dL_law_300 rfl (lv_at hl 0 rfl) ?_
  refine lv_iload_n hx hb dL_law_301 rfl (lv_at hl 3 rfl) ?_
  refine lv_iconst (v := 2) hx hb dL_law_302 (by decide) ?_
  refine lv_iadd hx hb dL_law_303 ?_
  refine va_sld hx hb hX hbl hbA hw.2.2.2.2 v2 dL_law_304 ?_
  have h := h_letter (xs (x3 + (1 : Int32)).toNatClampNeg) (xs (x3 + (2 : Int32)).toNatClampNeg) _ _ _ _ h
  refine l_ciX C hw (l_rX [.int (xs (x3 + (1 : Int32)).toNatClampNeg), .int (xs (x3 + (2 : Int32)).toNatClampNeg)] [] C hw (m_X11_letter h) k_X11_letter q_RL_40 rfl rfl hl.1 rfl (Nat.le_of_ble_eq_true rfl) ⟨⟨rfl, rfl⟩, Nat.le_of_ble_eq_true rfl, Nat.le_of_ble_eq_true rfl⟩ dL_law_305) (fun r305 I J H locs h hw => ?_)
  have h : P_X12_letter _ _ _ _ _ := h
  refine lv_aload_n hx hb dL_law_308 rfl (lv_at hl 2 rfl) ?_
  refine lv_aload_n hx hb dL_law_309 rfl (lv_at hl 0 rfl) ?_
  refine lv_iload_n hx hb dL_law_310 rfl (lv_at hl 3 rfl) ?_
  refine lv_iconst (v := 1) hx hb dL_law_311 (by decide) ?_
  refine lv_iadd hx hb dL_law_312 ?_
  refine va_sld hx hb hX hbl hbA hw.2.2.2.2 v1 dL_law_313 ?_
  refine lv_aload_n hx hb dL_law_314 rfl (lv_at hl 0 rfl) ?_
  refine lv_iload_n hx hb dL_law_315 rfl (lv_at hl 3 rfl) ?_
  refine lv_iconst (v := 2) hx hb dL_law_316 (by decide) ?_
  refine lv_iadd hx hb dL_law_317 ?_
  refine va_sld hx hb hX hbl hbA hw.2.2.2.2 v2 dL_law_318 ?_
  refine l_ciM C hw (l_rM [.int (xs (x3 + (1 : Int32)).toNatClampNeg), .int (xs (x3 + (2 : Int32)).toNatClampNeg)] [.int r305] C hw (m_X12_letter h) k_X12_letter q_RL_43 rfl rfl hl.1 rfl (Nat.le_of_ble_eq_true rfl) ⟨⟨rfl, rfl⟩, Nat.le_of_ble_eq_true rfl, Nat.le_of_ble_eq_true rfl⟩ dL_law_319) (fun r319 I2 J2 H locs h hw => ?_)
  refine lv_icmp_eq (tgt := 1079) hx hb dL_law_322 (by decide) (fun c322 => ?_) (fun c322 => absurd h.1 c322)
  exact ih h.2 hw hl
set_option maxHeartbeats 4000000 in
set_option maxRecDepth 100000 in
theorem law_7 {Sim : SimT} (h_put : st_put Sim) (C : lC p s m meth c b L xs ad am ts cy D) {x3 : Int32} (v1 : vp_in (x3 + 1) L) (v2 : vp_in (x3 + 2) L) (v3 : vp_in (x3 + 3) L) (ih : ∀ {I : MI} {J : MJ} {I2 : MI} {J2 : MJ} {H : Heap} {locs : List Loc} {ls : Array Slot}, Sim I J I2 J2 → lH ad am cy D s I J I2 J2 H locs → lv_has ls 4 [(0, .ref b), (1, .ref (ad 0)), (2, .ref (am 0)), (3, .int x3)] → W p l e room_1 s m #[Value.ref b] below meth c H locs 96 83932 (lw_Z below #[Value.ref b] s) (F0 m 1079 ls [])) {I : MI} {J : MJ} {I2 : MI} {J2 : MJ} {H : Heap} {locs : List Loc} {ls : Array Slot} (h : Sim I J I2 J2) (hw : lH ad am cy D s I J I2 J2 H locs) (hl : lv_has ls 4 [(0, .ref b), (1, .ref (ad 0)), (2, .ref (am 0)), (3, .int x3)]) : W p l e room_1 s m #[Value.ref b] below meth c H locs 96 83932 (lw_Z below #[Value.ref b] s) (F0 m 327 ls []) := by
  obtain ⟨hx, hb, -, -, hown, hts, -, -, -, hX, hbl, -⟩ := id C
  have hbA : ¬ (fun q : Nat => s.heap.size ≤ q) b := Nat.not_le.mpr hbl
  refine lv_aload_n hx hb dL_law_327 rfl (lv_at hl 1 rfl) ?_
  refine lv_aload_n hx hb dL_law_328 rfl (lv_at hl 0 rfl) ?_
  refine lv_iload_n hx hb dL_law_329 rfl (lv_at hl 3 rfl) ?_
  refine lv_iconst (v := 1) hx hb dL_law_330 (by decide) ?_
  refine lv_iadd hx hb dL_law_331 ?_
  refine va_sld hx hb hX hbl hbA hw.2.2.2.2 v1 dL_law_332 ?_
  have h := h_put (xs (x3 + (1 : Int32)).toNatClampNeg) _ _ _ _ h
  refine l_ciX C hw (l_rX [.int (xs (x3 + (1 : Int32)).toNatClampNeg)] [] C hw (m_X11_put h) k_X11_put q_RL_44 rfl rfl hl.1 rfl (Nat.le_of_ble_eq_true rfl) ⟨⟨rfl, rfl⟩, Nat.le_of_ble_eq_true rfl, Nat.le_of_ble_eq_true rfl⟩ dL_law_333) (fun r333 I J H locs h hw => ?_)
  have h : P_X12_put _ _ _ _ := h
  refine lv_aload_n hx hb dL_law_336 rfl (lv_at hl 2 rfl) ?_
  refine lv_aload_n hx hb dL_law_337 rfl (lv_at hl 0 rfl) ?_
  refine lv_iload_n hx hb dL_law_338 rfl (lv_at hl 3 rfl) ?_
  refine lv_iconst (v := 1) hx hb dL_law_339 (by decide) ?_
  refine lv_iadd hx hb dL_law_340 ?_
  refine va_sld hx hb hX hbl hbA hw.2.2.2.2 v1 dL_law_341 ?_
  refine l_ciM C hw (l_rM [.int (xs (x3 + (1 : Int32)).toNatClampNeg)] [.int r333] C hw (m_X12_put h) k_X12_put q_RL_47 rfl rfl hl.1 rfl (Nat.le_of_ble_eq_true rfl) ⟨⟨rfl, rfl⟩, Nat.le_of_ble_eq_true rfl, Nat.le_of_ble_eq_true rfl⟩ dL_law_342) (fun r342 I2 J2 H locs h hw => ?_)
  refine lv_icmp_eq (tgt := 1079) hx hb dL_law_345 (by decide) (fun c345 => ?_) (fun c345 => absurd h.1 c345)
  exact ih h.2 hw hl
set_option maxHeartbeats 4000000 in
set_option maxRecDepth 100000 in
theorem law_8 {Sim : SimT} (h_take : st_take Sim) (C : lC p s m meth c b L xs ad am ts cy D) {x3 : Int32} (v1 : vp_in (x3 + 1) L) (v2 : vp_in (x3 + 2) L) (v3 : vp_in (x3 + 3) L) (ih : ∀ {I : MI} {J : MJ} {I2 : MI} {J2 : MJ} {H : Heap} {locs : List Loc} {ls : Array Slot}, Sim I J I2 J2 → lH ad am cy D s I J I2 J2 H locs → lv_has ls 4 [(0, .ref b), (1, .ref (ad 0)), (2, .ref (am 0)), (3, .int x3)] → W p l e room_1 s m #[Value.ref b] below meth c H locs 96 83932 (lw_Z below #[Value.ref b] s) (F0 m 1079 ls [])) {I : MI} {J : MJ} {I2 : MI} {J2 : MJ} {H : Heap} {locs : List Loc} {ls : Array Slot} (h : Sim I J I2 J2) (hw : lH ad am cy D s I J I2 J2 H locs) (hl : lv_has ls 4 [(0, .ref b), (1, .ref (ad 0)), (2, .ref (am 0)), (3, .int x3)]) : W p l e room_1 s m #[Value.ref b] below meth c H locs 96 83932 (lw_Z below #[Value.ref b] s) (F0 m 350 ls []) := by
  obtain ⟨hx, hb, -, -, hown, hts, -, -, -, hX, hbl, -⟩ := id C
  have hbA : ¬ (fun q : Nat => s.heap.size ≤ q) b := Nat.not_le.mpr hbl
  refine lv_aload_n hx hb dL_law_350 rfl (lv_at hl 1 rfl) ?_
  refine lv_aload_n hx hb dL_law_351 rfl (lv_at hl 0 rfl) ?_
  refine lv_iload_n hx hb dL_law_352 rfl (lv_at hl 3 rfl) ?_
  refine lv_iconst (v := 1) hx hb dL_law_353 (by decide) ?_
  refine lv_iadd hx hb dL_law_354 ?_
  refine va_sld hx hb hX hbl hbA hw.2.2.2.2 v1 dL_law_355 ?_
  have h := h_take (xs (x3 + (1 : Int32)).toNatClampNeg) _ _ _ _ h
  refine l_ciX C hw (l_rX [.int (xs (x3 + (1 : Int32)).toNatClampNeg)] [] C hw (m_X11_take h) k_X11_take q_RL_48 rfl rfl hl.1 rfl (Nat.le_of_ble_eq_true rfl) ⟨⟨rfl, rfl⟩, Nat.le_of_ble_eq_true rfl, Nat.le_of_ble_eq_true rfl⟩ dL_law_356) (fun r356 I J H locs h hw => ?_)
  have h : P_X12_take _ _ _ _ := h
  refine lv_aload_n hx hb dL_law_359 rfl (lv_at hl 2 rfl) ?_
  refine lv_aload_n hx hb dL_law_360 rfl (lv_at hl 0 rfl) ?_
  refine lv_iload_n hx hb dL_law_361 rfl (lv_at hl 3 rfl) ?_
  refine lv_iconst (v := 1) hx hb dL_law_362 (by decide) ?_
  refine lv_iadd hx hb dL_law_363 ?_
  refine va_sld hx hb hX hbl hbA hw.2.2.2.2 v1 dL_law_364 ?_
  refine l_ciM C hw (l_rM [.int (xs (x3 + (1 : Int32)).toNatClampNeg)] [.int r356] C hw (m_X12_take h) k_X12_take q_RL_51 rfl rfl hl.1 rfl (Nat.le_of_ble_eq_true rfl) ⟨⟨rfl, rfl⟩, Nat.le_of_ble_eq_true rfl, Nat.le_of_ble_eq_true rfl⟩ dL_law_365) (fun r365 I2 J2 H locs h hw => ?_)
  refine lv_icmp_eq (tgt := 1079) hx hb dL_law_368 (by decide) (fun c368 => ?_) (fun c368 => absurd h.1 c368)
  exact ih h.2 hw hl
set_option maxHeartbeats 4000000 in
set_option maxRecDepth 100000 in
theorem law_9 {Sim : SimT} (h_bar : st_bar Sim) (C : lC p s m meth c b L xs ad am ts cy D) {x3 : Int32} (v1 : vp_in (x3 + 1) L) (v2 : vp_in (x3 + 2) L) (v3 : vp_in (x3 + 3) L) (ih : ∀ {I : MI} {J : MJ} {I2 : MI} {J2 : MJ} {H : Heap} {locs : List Loc} {ls : Array Slot}, Sim I J I2 J2 → lH ad am cy D s I J I2 J2 H locs → lv_has ls 4 [(0, .ref b), (1, .ref (ad 0)), (2, .ref (am 0)), (3, .int x3)] → W p l e room_1 s m #[Value.ref b] below meth c H locs 96 83932 (lw_Z below #[Value.ref b] s) (F0 m 1079 ls [])) {I : MI} {J : MJ} {I2 : MI} {J2 : MJ} {H : Heap} {locs : List Loc} {ls : Array Slot} (h : Sim I J I2 J2) (hw : lH ad am cy D s I J I2 J2 H locs) (hl : lv_has ls 4 [(0, .ref b), (1, .ref (ad 0)), (2, .ref (am 0)), (3, .int x3)]) : W p l e room_1 s m #[Value.ref b] below meth c H locs 96 83932 (lw_Z below #[Value.ref b] s) (F0 m 373 ls []) := by
  obtain ⟨hx, hb, -, -, hown, hts, -, -, -, hX, hbl, -⟩ := id C
  have hbA : ¬ (fun q : Nat => s.heap.size ≤ q) b := Nat.not_le.mpr hbl
  refine lv_aload_n hx hb dL_law_373 rfl (lv_at hl 1 rfl) ?_
  refine lv_aload_n hx hb dL_law_374 rfl (lv_at hl 0 rfl) ?_
  refine lv_iload_n hx hb dL_law_375 rfl (lv_at hl 3 rfl) ?_
  refine lv_iconst (v := 1) hx hb dL_law_376 (by decide) ?_
  refine lv_iadd hx hb dL_law_377 ?_
  refine va_sld hx hb hX hbl hbA hw.2.2.2.2 v1 dL_law_378 ?_
  have h := h_bar (xs (x3 + (1 : Int32)).toNatClampNeg) _ _ _ _ h
  refine l_ciX C hw (l_rX [.int (xs (x3 + (1 : Int32)).toNatClampNeg)] [] C hw (m_X11_bar h) k_X11_bar q_RL_52 rfl rfl hl.1 rfl (Nat.le_of_ble_eq_true rfl) ⟨⟨rfl, rfl⟩, Nat.le_of_ble_eq_true rfl, Nat.le_of_ble_eq_true rfl⟩ dL_law_379) (fun r379 I J H locs h hw => ?_)
  have h : P_X12_bar _ _ _ _ := h
  refine lv_aload_n hx hb dL_law_382 rfl (lv_at hl 2 rfl) ?_
  refine lv_aload_n hx hb dL_law_383 rfl (lv_at hl 0 rfl) ?_
  refine lv_iload_n hx hb dL_law_384 rfl (lv_at hl 3 rfl) ?_
  refine lv_iconst (v := 1) hx hb dL_law_385 (by decide) ?_
  refine lv_iadd hx hb dL_law_386 ?_
  refine va_sld hx hb hX hbl hbA hw.2.2.2.2 v1 dL_law_387 ?_
  refine l_ciM C hw (l_rM [.int (xs (x3 + (1 : Int32)).toNatClampNeg)] [.int r379] C hw (m_X12_bar h) k_X12_bar q_RL_55 rfl rfl hl.1 rfl (Nat.le_of_ble_eq_true rfl) ⟨⟨rfl, rfl⟩, Nat.le_of_ble_eq_true rfl, Nat.le_of_ble_eq_true rfl⟩ dL_law_388) (fun r388 I2 J2 H locs h hw => ?_)
  refine lv_icmp_eq (tgt := 1079) hx hb dL_law_391 (by decide) (fun c391 => ?_) (fun c391 => absurd h.1 c391)
  exact ih h.2 hw hl
set_option maxHeartbeats 4000000 in
set_option maxRecDepth 100000 in
theorem law_10 {Sim : SimT} (h_rank : st_rank Sim) (C : lC p s m meth c b L xs ad am ts cy D) {x3 : Int32} (v1 : vp_in (x3 + 1) L) (v2 : vp_in (x3 + 2) L) (v3 : vp_in (x3 + 3) L) (ih : ∀ {I : MI} {J : MJ} {I2 : MI} {J2 : MJ} {H : Heap} {locs : List Loc} {ls : Array Slot}, Sim I J I2 J2 → lH ad am cy D s I J I2 J2 H locs → lv_has ls 4 [(0, .ref b), (1, .ref (ad 0)), (2, .ref (am 0)), (3, .int x3)] → W p l e room_1 s m #[Value.ref b] below meth c H locs 96 83932 (lw_Z below #[Value.ref b] s) (F0 m 1079 ls [])) {I : MI} {J : MJ} {I2 : MI} {J2 : MJ} {H : Heap} {locs : List Loc} {ls : Array Slot} (h : Sim I J I2 J2) (hw : lH ad am cy D s I J I2 J2 H locs) (hl : lv_has ls 4 [(0, .ref b), (1, .ref (ad 0)), (2, .ref (am 0)), (3, .int x3)]) : W p l e room_1 s m #[Value.ref b] below meth c H locs 96 83932 (lw_Z below #[Value.ref b] s) (F0 m 396 ls []) := by
  obtain ⟨hx, hb, -, -, hown, hts, -, -, -, hX, hbl, -⟩ := id C
  have hbA : ¬ (fun q : Nat => s.heap.size ≤ q) b := Nat.not_le.mpr hbl
  refine lv_aload_n hx hb dL_law_396 rfl (lv_at hl 1 rfl) ?_
  refine lv_aload_n hx hb dL_law_397 rfl (lv_at hl 0 rfl) ?_
  refine lv_iload_n hx hb dL_law_398 rfl (lv_at hl 3 rfl) ?_
  refine lv_iconst (v := 1) hx hb dL_law_399 (by decide) ?_
  refine lv_iadd hx hb dL_law_400 ?_
  refine va_sld hx hb hX hbl hbA hw.2.2.2.2 v1 dL_law_401 ?_
  refine lv_aload_n hx hb dL_law_402 rfl (lv_at hl 0 rfl) ?_
  refine lv_iload_n hx hb dL_law_403 rfl (lv_at hl 3 rfl) ?_
  refine lv_iconst (v := 2) hx hb dL_law_404 (by decide) ?_
  refine lv_iadd hx hb dL_law_405 ?_
  refine va_sld hx hb hX hbl hbA hw.2.2.2.2 v2 dL_law_406 ?_
  have h := h_rank (xs (x3 + (1 : Int32)).toNatClampNeg) (xs (x3 + (2 : Int32)).toNatClampNeg) _ _ _ _ h
  refine l_ciX C hw (l_rX [.int (xs (x3 + (1 : Int32)).toNatClampNeg), .int (xs (x3 + (2 : Int32)).toNatClampNeg)] [] C hw (m_X11_rank h) k_X11_rank q_RL_56 rfl rfl hl.1 rfl (Nat.le_of_ble_eq_true rfl) ⟨⟨rfl, rfl⟩, Nat.le_of_ble_eq_true rfl, Nat.le_of_ble_eq_true rfl⟩ dL_law_407) (fun r407 I J H locs h hw => ?_)
  have h : P_X12_rank _ _ _ _ _ := h
  refine lv_aload_n hx hb dL_law_410 rfl (lv_at hl 2 rfl) ?_
  refine lv_aload_n hx hb dL_law_411 rfl (lv_at hl 0 rfl) ?_
  refine lv_iload_n hx hb dL_law_412 rfl (lv_at hl 3 rfl) ?_
  refine lv_iconst (v := 1) hx hb dL_law_413 (by decide) ?_
  refine lv_iadd hx hb dL_law_414 ?_
  refine va_sld hx hb hX hbl hbA hw.2.2.2.2 v1 dL_law_415 ?_
  refine lv_aload_n hx hb dL_law_416 rfl (lv_at hl 0 rfl) ?_
  refine lv_iload_n hx hb dL_law_417 rfl (lv_at hl 3 rfl) ?_
  refine lv_iconst (v := 2) hx hb dL_law_418 (by decide) ?_
  refine lv_iadd hx hb dL_law_419 ?_
  refine va_sld hx hb hX hbl hbA hw.2.2.2.2 v2 dL_law_420 ?_
  refine l_ciM C hw (l_rM [.int (xs (x3 + (1 : Int32)).toNatClampNeg), .int (xs (x3 + (2 : Int32)).toNatClampNeg)] [.int r407] C hw (m_X12_rank h) k_X12_rank q_RL_59 rfl rfl hl.1 rfl (Nat.le_of_ble_eq_true rfl) ⟨⟨rfl, rfl⟩, Nat.le_of_ble_eq_true rfl, Nat.le_of_ble_eq_true rfl⟩ dL_law_421) (fun r421 I2 J2 H locs h hw => ?_)
  refine lv_icmp_eq (tgt := 1079) hx hb dL_law_424 (by decide) (fun c424 => ?_) (fun c424 => absurd h.1 c424)
  exact ih h.2 hw hl
set_option maxHeartbeats 4000000 in
set_option maxRecDepth 100000 in
theorem law_11 {Sim : SimT} (h_allow : st_allow Sim) (C : lC p s m meth c b L xs ad am ts cy D) {x3 : Int32} (v1 : vp_in (x3 + 1) L) (v2 : vp_in (x3 + 2) L) (v3 : vp_in (x3 + 3) L) (ih : ∀ {I : MI} {J : MJ} {I2 : MI} {J2 : MJ} {H : Heap} {locs : List Loc} {ls : Array Slot}, Sim I J I2 J2 → lH ad am cy D s I J I2 J2 H locs → lv_has ls 4 [(0, .ref b), (1, .ref (ad 0)), (2, .ref (am 0)), (3, .int x3)] → W p l e room_1 s m #[Value.ref b] below meth c H locs 96 83932 (lw_Z below #[Value.ref b] s) (F0 m 1079 ls [])) {I : MI} {J : MJ} {I2 : MI} {J2 : MJ} {H : Heap} {locs : List Loc} {ls : Array Slot} (h : Sim I J I2 J2) (hw : lH ad am cy D s I J I2 J2 H locs) (hl : lv_has ls 4 [(0, .ref b), (1, .ref (ad 0)), (2, .ref (am 0)), (3, .int x3)]) : W p l e room_1 s m #[Value.ref b] below meth c H locs 96 83932 (lw_Z below #[Value.ref b] s) (F0 m 429 ls []) := by
  obtain ⟨hx, hb, -, -, hown, hts, -, -, -, hX, hbl, -⟩ := id C
  have hbA : ¬ (fun q : Nat => s.heap.size ≤ q) b := Nat.not_le.mpr hbl
  refine lv_aload_n hx hb dL_law_429 rfl (lv_at hl 1 rfl) ?_
  refine lv_aload_n hx hb dL_law_430 rfl (lv_at hl 0 rfl) ?_
  refine lv_iload_n hx hb dL_law_431 rfl (lv_at hl 3 rfl) ?_
  refine lv_iconst (v := 1) hx hb dL_law_432 (by decide) ?_
  refine lv_iadd hx hb dL_law_433 ?_
  refine va_sld hx hb hX hbl hbA hw.2.2.2.2 v1 dL_law_434 ?_
  refine lv_aload_n hx hb dL_law_435 rfl (lv_at hl 0 rfl) ?_
  refine lv_iload_n hx hb dL_law_436 rfl (lv_at hl 3 rfl) ?_
  refine lv_iconst (v := 2) hx hb dL_law_437 (by decide) ?_
  refine lv_iadd hx hb dL_law_438 ?_
  refine va_sld hx hb hX hbl hbA hw.2.2.2.2 v2 dL_law_439 ?_
  refine lv_aload_n hx hb dL_law_440 rfl (lv_at hl 0 rfl) ?_
  refine lv_iload_n hx hb dL_law_441 rfl (lv_at hl 3 rfl) ?_
  refine lv_iconst (v := 3) hx hb dL_law_442 (by decide) ?_
  refine lv_iadd hx hb dL_law_443 ?_
  refine va_sld hx hb hX hbl hbA hw.2.2.2.2 v3 dL_law_444 ?_
  have h := h_allow (xs (x3 + (1 : Int32)).toNatClampNeg) (xs (x3 + (2 : Int32)).toNatClampNeg) (xs (x3 + (3 : Int32)).toNatClampNeg) _ _ _ _ h
  refine l_ciX C hw (l_rX [.int (xs (x3 + (1 : Int32)).toNatClampNeg), .int (xs (x3 + (2 : Int32)).toNatClampNeg), .int (xs (x3 + (3 : Int32)).toNatClampNeg)] [] C hw (m_X11_allow h) k_X11_allow q_RL_60 rfl rfl hl.1 rfl (Nat.le_of_ble_eq_true rfl) ⟨⟨rfl, rfl⟩, Nat.le_of_ble_eq_true rfl, Nat.le_of_ble_eq_true rfl⟩ dL_law_445) (fun r445 I J H locs h hw => ?_)
  have h : P_X12_allow _ _ _ _ _ _ := h
  refine lv_aload_n hx hb dL_law_448 rfl (lv_at hl 2 rfl) ?_
  refine lv_aload_n hx hb dL_law_449 rfl (lv_at hl 0 rfl) ?_
  refine lv_iload_n hx hb dL_law_450 rfl (lv_at hl 3 rfl) ?_
  refine lv_iconst (v := 1) hx hb dL_law_451 (by decide) ?_
  refine lv_iadd hx hb dL_law_452 ?_
  refine va_sld hx hb hX hbl hbA hw.2.2.2.2 v1 dL_law_453 ?_
  refine lv_aload_n hx hb dL_law_454 rfl (lv_at hl 0 rfl) ?_
  refine lv_iload_n hx hb dL_law_455 rfl (lv_at hl 3 rfl) ?_
  refine lv_iconst (v := 2) hx hb dL_law_456 (by decide) ?_
  refine lv_iadd hx hb dL_law_457 ?_
  refine va_sld hx hb hX hbl hbA hw.2.2.2.2 v2 dL_law_458 ?_
  refine lv_aload_n hx hb dL_law_459 rfl (lv_at hl 0 rfl) ?_
  refine lv_iload_n hx hb dL_law_460 rfl (lv_at hl 3 rfl) ?_
  refine lv_iconst (v := 3) hx hb dL_law_461 (by decide) ?_
  refine lv_iadd hx hb dL_law_462 ?_
  refine va_sld hx hb hX hbl hbA hw.2.2.2.2 v3 dL_law_463 ?_
  refine l_ciM C hw (l_rM [.int (xs (x3 + (1 : Int32)).toNatClampNeg), .int (xs (x3 + (2 : Int32)).toNatClampNeg), .int (xs (x3 + (3 : Int32)).toNatClampNeg)] [.int r445] C hw (m_X12_allow h) k_X12_allow q_RL_64 rfl rfl hl.1 rfl (Nat.le_of_ble_eq_true rfl) ⟨⟨rfl, rfl⟩, Nat.le_of_ble_eq_true rfl, Nat.le_of_ble_eq_true rfl⟩ dL_law_464) (fun r464 I2 J2 H locs h hw => ?_)
  refine lv_icmp_eq (tgt := 1079) hx hb dL_law_467 (by decide) (fun c467 => ?_) (fun c467 => absurd h.1 c467)
  exact ih h.2 hw hl
set_option maxHeartbeats 4000000 in
set_option maxRecDepth 100000 in
theorem law_12 {Sim : SimT} (h_undo : st_undo Sim) (C : lC p s m meth c b L xs ad am ts cy D) {x3 : Int32} (v1 : vp_in (x3 + 1) L) (v2 : vp_in (x3 + 2) L) (v3 : vp_in (x3 + 3) L) (ih : ∀ {I : MI} {J : MJ} {I2 : MI} {J2 : MJ} {H : Heap} {locs : List Loc} {ls : Array Slot}, Sim I J I2 J2 → lH ad am cy D s I J I2 J2 H locs → lv_has ls 4 [(0, .ref b), (1, .ref (ad 0)), (2, .ref (am 0)), (3, .int x3)] → W p l e room_1 s m #[Value.ref b] below meth c H locs 96 83932 (lw_Z below #[Value.ref b] s) (F0 m 1079 ls [])) {I : MI} {J : MJ} {I2 : MI} {J2 : MJ} {H : Heap} {locs : List Loc} {ls : Array Slot} (h : Sim I J I2 J2) (hw : lH ad am cy D s I J I2 J2 H locs) (hl : lv_has ls 4 [(0, .ref b), (1, .ref (ad 0)), (2, .ref (am 0)), (3, .int x3)]) : W p l e room_1 s m #[Value.ref b] below meth c H locs 96 83932 (lw_Z below #[Value.ref b] s) (F0 m 472 ls []) := by
  obtain ⟨hx, hb, -, -, hown, hts, -, -, -, hX, hbl, -⟩ := id C
  have hbA : ¬ (fun q : Nat => s.heap.size ≤ q) b := Nat.not_le.mpr hbl
  refine lv_aload_n hx hb dL_law_472 rfl (lv_at hl 1 rfl) ?_
  have h := h_undo _ _ _ _ h
  refine l_ciX C hw (l_rX [] [] C hw (m_X11_undo h) k_X11_undo q_RL_65 rfl rfl hl.1 rfl (Nat.le_of_ble_eq_true rfl) ⟨⟨rfl, rfl⟩, Nat.le_of_ble_eq_true rfl, Nat.le_of_ble_eq_true rfl⟩ dL_law_473) (fun r473 I J H locs h hw => ?_)
  have h : P_X12_undo _ _ _ := h
  refine lv_aload_n hx hb dL_law_476 rfl (lv_at hl 2 rfl) ?_
  refine l_ciM C hw (l_rM [] [.int r473] C hw (m_X12_undo h) k_X12_undo q_RL_68 rfl rfl hl.1 rfl (Nat.le_of_ble_eq_true rfl) ⟨⟨rfl, rfl⟩, Nat.le_of_ble_eq_true rfl, Nat.le_of_ble_eq_true rfl⟩ dL_law_477) (fun r477 I2 J2 H locs h hw => ?_)
  refine lv_icmp_eq (tgt := 1079) hx hb dL_law_480 (by decide) (fun c480 => ?_) (fun c480 => absurd h.1 c480)
  exact ih h.2 hw hl
set_option maxHeartbeats 4000000 in
set_option maxRecDepth 100000 in
theorem law_13 {Sim : SimT} (h_many : st_many Sim) (C : lC p s m meth c b L xs ad am ts cy D) {x3 : Int32} (v1 : vp_in (x3 + 1) L) (v2 : vp_in (x3 + 2) L) (v3 : vp_in (x3 + 3) L) (ih : ∀ {I : MI} {J : MJ} {I2 : MI} {J2 : MJ} {H : Heap} {locs : List Loc} {ls : Array Slot}, Sim I J I2 J2 → lH ad am cy D s I J I2 J2 H locs → lv_has ls 4 [(0, .ref b), (1, .ref (ad 0)), (2, .ref (am 0)), (3, .int x3)] → W p l e room_1 s m #[Value.ref b] below meth c H locs 96 83932 (lw_Z below #[Value.ref b] s) (F0 m 1079 ls [])) {I : MI} {J : MJ} {I2 : MI} {J2 : MJ} {H : Heap} {locs : List Loc} {ls : Array Slot} (h : Sim I J I2 J2) (hw : lH ad am cy D s I J I2 J2 H locs) (hl : lv_has ls 4 [(0, .ref b), (1, .ref (ad 0)), (2, .ref (am 0)), (3, .int x3)]) : W p l e room_1 s m #[Value.ref b] below meth c H locs 96 83932 (lw_Z below #[Value.ref b] s) (F0 m 485 ls []) := by
  obtain ⟨hx, hb, -, -, hown, hts, -, -, -, hX, hbl, -⟩ := id C
  have hbA : ¬ (fun q : Nat => s.heap.size ≤ q) b := Nat.not_le.mpr hbl
  refine lv_aload_n hx hb dL_law_485 rfl (lv_at hl 1 rfl) ?_
  refine lv_aload_n hx hb dL_law_486 rfl (lv_at hl 0 rfl) ?_
  refine lv_iload_n hx hb dL_law_487 rfl (lv_at hl 3 rfl) ?_
  refine lv_iconst (v := 1) hx hb dL_law_488 (by decide) ?_
  refine lv_iadd hx hb dL_law_489 ?_
  refine va_sld hx hb hX hbl hbA hw.2.2.2.2 v1 dL_law_490 ?_
  have h := h_many (xs (x3 + (1 : Int32)).toNatClampNeg) _ _ _ _ h
  refine l_clX C hw (l_rX [.int (xs (x3 + (1 : Int32)).toNatClampNeg)] [] C hw (m_X11_many h) k_X11_many q_RL_69 rfl rfl hl.1 rfl (Nat.le_of_ble_eq_true rfl) ⟨⟨rfl, rfl⟩, Nat.le_of_ble_eq_true rfl, Nat.le_of_ble_eq_true rfl⟩ dL_law_491) (fun r491 I J H locs h hw => ?_)
  have h : P_X12_many _ _ _ _ := h
  refine lv_aload_n hx hb dL_law_494 rfl (lv_at hl 2 rfl) ?_
  refine lv_aload_n hx hb dL_law_495 rfl (lv_at hl 0 rfl) ?_
  refine lv_iload_n hx hb dL_law_496 rfl (lv_at hl 3 rfl) ?_
  refine lv_iconst (v := 1) hx hb dL_law_497 (by decide) ?_
  refine lv_iadd hx hb dL_law_498 ?_
  refine va_sld hx hb hX hbl hbA hw.2.2.2.2 v1 dL_law_499 ?_
  refine l_clM C hw (l_rM [.int (xs (x3 + (1 : Int32)).toNatClampNeg)] [.long r491] C hw (m_X12_many h) k_X12_many q_RL_73 rfl rfl hl.1 rfl (Nat.le_of_ble_eq_true rfl) ⟨⟨rfl, rfl⟩, Nat.le_of_ble_eq_true rfl, Nat.le_of_ble_eq_true rfl⟩ dL_law_500) (fun r500 I2 J2 H locs h hw => ?_)
  refine g_lcmp_eq (tgt := 1079) hx hb dL_law_503 dL_law_504 (by decide) (fun c503 => ?_) (fun c503 => absurd h.1 c503)
  exact ih h.2 hw hl
set_option maxHeartbeats 4000000 in
set_option maxRecDepth 100000 in
theorem law_14 {Sim : SimT} (h_having : st_having Sim) (C : lC p s m meth c b L xs ad am ts cy D) {x3 : Int32} (v1 : vp_in (x3 + 1) L) (v2 : vp_in (x3 + 2) L) (v3 : vp_in (x3 + 3) L) (ih : ∀ {I : MI} {J : MJ} {I2 : MI} {J2 : MJ} {H : Heap} {locs : List Loc} {ls : Array Slot}, Sim I J I2 J2 → lH ad am cy D s I J I2 J2 H locs → lv_has ls 4 [(0, .ref b), (1, .ref (ad 0)), (2, .ref (am 0)), (3, .int x3)] → W p l e room_1 s m #[Value.ref b] below meth c H locs 96 83932 (lw_Z below #[Value.ref b] s) (F0 m 1079 ls [])) {I : MI} {J : MJ} {I2 : MI} {J2 : MJ} {H : Heap} {locs : List Loc} {ls : Array Slot} (h : Sim I J I2 J2) (hw : lH ad am cy D s I J I2 J2 H locs) (hl : lv_has ls 4 [(0, .ref b), (1, .ref (ad 0)), (2, .ref (am 0)), (3, .int x3)]) : W p l e room_1 s m #[Value.ref b] below meth c H locs 96 83932 (lw_Z below #[Value.ref b] s) (F0 m 509 ls []) := by
  obtain ⟨hx, hb, -, -, hown, hts, -, -, -, hX, hbl, -⟩ := id C
  have hbA : ¬ (fun q : Nat => s.heap.size ≤ q) b := Nat.not_le.mpr hbl
  refine lv_aload_n hx hb dL_law_509 rfl (lv_at hl 1 rfl) ?_
  refine lv_aload_n hx hb dL_law_510 rfl (lv_at hl 0 rfl) ?_
  refine lv_iload_n hx hb dL_law_511 rfl (lv_at hl 3 rfl) ?_
  refine lv_iconst (v := 1) hx hb dL_law_512 (by decide) ?_
  refine lv_iadd hx hb dL_law_513 ?_
  refine va_sld hx hb hX hbl hbA hw.2.2.2.2 v1 dL_law_514 ?_
  have h := h_having (xs (x3 + (1 : Int32)).toNatClampNeg) _ _ _ _ h
  refine l_clX C hw (l_rX [.int (xs (x3 + (1 : Int32)).toNatClampNeg)] [] C hw (m_X11_having h) k_X11_having q_RL_74 rfl rfl hl.1 rfl (Nat.le_of_ble_eq_true rfl) ⟨⟨rfl, rfl⟩, Nat.le_of_ble_eq_true rfl, Nat.le_of_ble_eq_true rfl⟩ dL_law_515) (fun r515 I J H locs h hw => ?_)
  have h : P_X12_having _ _ _ _ := h
  refine lv_aload_n hx hb dL_law_518 rfl (lv_at hl 2 rfl) ?_
  refine lv_aload_n hx hb dL_law_519 rfl (lv_at hl 0 rfl) ?_
  refine lv_iload_n hx hb dL_law_520 rfl (lv_at hl 3 rfl) ?_
  refine lv_iconst (v := 1) hx hb dL_law_521 (by decide) ?_
  refine lv_iadd hx hb dL_law_522 ?_
  refine va_sld hx hb hX hbl hbA hw.2.2.2.2 v1 dL_law_523 ?_
  refine l_clM C hw (l_rM [.int (xs (x3 + (1 : Int32)).toNatClampNeg)] [.long r515] C hw (m_X12_having h) k_X12_having q_RL_77 rfl rfl hl.1 rfl (Nat.le_of_ble_eq_true rfl) ⟨⟨rfl, rfl⟩, Nat.le_of_ble_eq_true rfl, Nat.le_of_ble_eq_true rfl⟩ dL_law_524) (fun r524 I2 J2 H locs h hw => ?_)
  refine g_lcmp_eq (tgt := 1079) hx hb dL_law_527 dL_law_528 (by decide) (fun c527 => ?_) (fun c527 => absurd h.1 c527)
  exact ih h.2 hw hl
set_option maxHeartbeats 4000000 in
set_option maxRecDepth 100000 in
theorem law_15 {Sim : SimT} (h_best : st_best Sim) (C : lC p s m meth c b L xs ad am ts cy D) {x3 : Int32} (v1 : vp_in (x3 + 1) L) (v2 : vp_in (x3 + 2) L) (v3 : vp_in (x3 + 3) L) (ih : ∀ {I : MI} {J : MJ} {I2 : MI} {J2 : MJ} {H : Heap} {locs : List Loc} {ls : Array Slot}, Sim I J I2 J2 → lH ad am cy D s I J I2 J2 H locs → lv_has ls 4 [(0, .ref b), (1, .ref (ad 0)), (2, .ref (am 0)), (3, .int x3)] → W p l e room_1 s m #[Value.ref b] below meth c H locs 96 83932 (lw_Z below #[Value.ref b] s) (F0 m 1079 ls [])) {I : MI} {J : MJ} {I2 : MI} {J2 : MJ} {H : Heap} {locs : List Loc} {ls : Array Slot} (h : Sim I J I2 J2) (hw : lH ad am cy D s I J I2 J2 H locs) (hl : lv_has ls 4 [(0, .ref b), (1, .ref (ad 0)), (2, .ref (am 0)), (3, .int x3)]) : W p l e room_1 s m #[Value.ref b] below meth c H locs 96 83932 (lw_Z below #[Value.ref b] s) (F0 m 533 ls []) := by
  obtain ⟨hx, hb, -, -, hown, hts, -, -, -, hX, hbl, -⟩ := id C
  have hbA : ¬ (fun q : Nat => s.heap.size ≤ q) b := Nat.not_le.mpr hbl
  refine lv_aload_n hx hb dL_law_533 rfl (lv_at hl 1 rfl) ?_
  refine lv_aload_n hx hb dL_law_534 rfl (lv_at hl 0 rfl) ?_
  refine lv_iload_n hx hb dL_law_535 rfl (lv_at hl 3 rfl) ?_
  refine lv_iconst (v := 1) hx hb dL_law_536 (by decide) ?_
  refine lv_iadd hx hb dL_law_537 ?_
  refine va_sld hx hb hX hbl hbA hw.2.2.2.2 v1 dL_law_538 ?_
  have h := h_best (xs (x3 + (1 : Int32)).toNatClampNeg) _ _ _ _ h
  refine l_ciX C hw (l_rX [.int (xs (x3 + (1 : Int32)).toNatClampNeg)] [] C hw (m_X11_best h) k_X11_best q_RL_78 rfl rfl hl.1 rfl (Nat.le_of_ble_eq_true rfl) ⟨⟨rfl, rfl⟩, Nat.le_of_ble_eq_true rfl, Nat.le_of_ble_eq_true rfl⟩ dL_law_539) (fun r539 I J H locs h hw => ?_)
  have h : P_X12_best _ _ _ _ := h
  refine lv_aload_n hx hb dL_law_542 rfl (lv_at hl 2 rfl) ?_
  refine lv_aload_n hx hb dL_law_543 rfl (lv_at hl 0 rfl) ?_
  refine lv_iload_n hx hb dL_law_544 rfl (lv_at hl 3 rfl) ?_
  refine lv_iconst (v := 1) hx hb dL_law_545 (by decide) ?_
  refine lv_iadd hx hb dL_law_546 ?_
  refine va_sld hx hb hX hbl hbA hw.2.2.2.2 v1 dL_law_547 ?_
  refine l_ciM C hw (l_rM [.int (xs (x3 + (1 : Int32)).toNatClampNeg)] [.int r539] C hw (m_X12_best h) k_X12_best q_RL_81 rfl rfl hl.1 rfl (Nat.le_of_ble_eq_true rfl) ⟨⟨rfl, rfl⟩, Nat.le_of_ble_eq_true rfl, Nat.le_of_ble_eq_true rfl⟩ dL_law_548) (fun r548 I2 J2 H locs h hw => ?_)
  refine lv_icmp_eq (tgt := 1079) hx hb dL_law_551 (by decide) (fun c551 => ?_) (fun c551 => absurd h.1 c551)
  exact ih h.2 hw hl
set_option maxHeartbeats 4000000 in
set_option maxRecDepth 100000 in
theorem law_16 {Sim : SimT} (h_phrase : st_phrase Sim) (C : lC p s m meth c b L xs ad am ts cy D) {x3 : Int32} (v1 : vp_in (x3 + 1) L) (v2 : vp_in (x3 + 2) L) (v3 : vp_in (x3 + 3) L) (ih : ∀ {I : MI} {J : MJ} {I2 : MI} {J2 : MJ} {H : Heap} {locs : List Loc} {ls : Array Slot}, Sim I J I2 J2 → lH ad am cy D s I J I2 J2 H locs → lv_has ls 4 [(0, .ref b), (1, .ref (ad 0)), (2, .ref (am 0)), (3, .int x3)] → W p l e room_1 s m #[Value.ref b] below meth c H locs 96 83932 (lw_Z below #[Value.ref b] s) (F0 m 1079 ls [])) {I : MI} {J : MJ} {I2 : MI} {J2 : MJ} {H : Heap} {locs : List Loc} {ls : Array Slot} (h : Sim I J I2 J2) (hw : lH ad am cy D s I J I2 J2 H locs) (hl : lv_has ls 4 [(0, .ref b), (1, .ref (ad 0)), (2, .ref (am 0)), (3, .int x3)]) : W p l e room_1 s m #[Value.ref b] below meth c H locs 96 83932 (lw_Z below #[Value.ref b] s) (F0 m 556 ls []) := by
  obtain ⟨hx, hb, -, -, hown, hts, -, -, -, hX, hbl, -⟩ := id C
  have hbA : ¬ (fun q : Nat => s.heap.size ≤ q) b := Nat.not_le.mpr hbl
  refine lv_aload_n hx hb dL_law_556 rfl (lv_at hl 1 rfl) ?_
  refine lv_aload_n hx hb dL_law_557 rfl (lv_at hl 0 rfl) ?_
  refine lv_iload_n hx hb dL_law_558 rfl (lv_at hl 3 rfl) ?_
  refine lv_iconst (v := 1) hx hb dL_law_559 (by decide) ?_
  refine lv_iadd hx hb dL_law_560 ?_
  refine va_sld hx hb hX hbl hbA hw.2.2.2.2 v1 dL_law_561 ?_
  refine lv_i2l hx hb dL_law_562 rfl ?_
  refine lv_bipush (v := 32) hx hb dL_law_563 (by decide) ?_
  refine lv_lshl hx hb dL_law_565 rfl ?_
  refine lv_aload_n hx hb dL_law_566 rfl (lv_at hl 0 rfl) ?_
  refine lv_iload_n hx hb dL_law_567 rfl (lv_at hl 3 rfl) ?_
  refine lv_iconst (v := 2) hx hb dL_law_568 (by decide) ?_
  refine lv_iadd hx hb dL_law_569 ?_
  refine va_sld hx hb hX hbl hbA hw.2.2.2.2 v2 dL_law_570 ?_
  refine lv_i2l hx hb dL_law_571 rfl ?_
  refine lv_ldc2 (v := 4294967295) hx hb hown (hts _ q_RL_82) dL_law_572 ?_
  refine lv_land hx hb dL_law_575 ?_
  refine lv_lor hx hb dL_law_576 ?_
  refine lv_aload_n hx hb dL_law_577 rfl (lv_at hl 0 rfl) ?_
  refine lv_iload_n hx hb dL_law_578 rfl (lv_at hl 3 rfl) ?_
  refine lv_iconst (v := 3) hx hb dL_law_579 (by decide) ?_
  refine lv_iadd hx hb dL_law_580 ?_
  refine va_sld hx hb hX hbl hbA hw.2.2.2.2 v3 dL_law_581 ?_
  have h := h_phrase ((((xs (x3 + (1 : Int32)).toNatClampNeg).toInt64) <<< ((32 : Int32).toInt64 &&& 63)) ||| (((xs (x3 + (2 : Int32)).toNatClampNeg).toInt64) &&& (4294967295 : Int64))) (xs (x3 + (3 : Int32)).toNatClampNeg) _ _ _ _ h
  refine l_ciX C hw (l_rX [.long ((((xs (x3 + (1 : Int32)).toNatClampNeg).toInt64) <<< ((32 : Int32).toInt64 &&& 63)) ||| (((xs (x3 + (2 : Int32)).toNatClampNeg).toInt64) &&& (4294967295 : Int64))), .int (xs (x3 + (3 : Int32)).toNatClampNeg)] [] C hw (m_X11_phrase h) k_X11_phrase q_RL_84 rfl rfl hl.1 rfl (Nat.le_of_ble_eq_true rfl) ⟨⟨rfl, rfl⟩, Nat.le_of_ble_eq_true rfl, Nat.le_of_ble_eq_true rfl⟩ dL_law_582) (fun r582 I J H locs h hw => ?_)
  have h : P_X12_phrase _ _ _ _ _ := h
  refine lv_aload_n hx hb dL_law_585 rfl (lv_at hl 2 rfl) ?_
  refine lv_aload_n hx hb dL_law_586 rfl (lv_at hl 0 rfl) ?_
  refine lv_iload_n hx hb dL_law_587 rfl (lv_at hl 3 rfl) ?_
  refine lv_iconst (v := 1) hx hb dL_law_588 (by decide) ?_
  refine lv_iadd hx hb dL_law_589 ?_
  refine va_sld hx hb hX hbl hbA hw.2.2.2.2 v1 dL_law_590 ?_
  refine lv_i2l hx hb dL_law_591 rfl ?_
  refine lv_bipush (v := 32) hx hb dL_law_592 (by decide) ?_
  refine lv_lshl hx hb dL_law_594 rfl ?_
  refine lv_aload_n hx hb dL_law_595 rfl (lv_at hl 0 rfl) ?_
  refine lv_iload_n hx hb dL_law_596 rfl (lv_at hl 3 rfl) ?_
  refine lv_iconst (v := 2) hx hb dL_law_597 (by decide) ?_
  refine lv_iadd hx hb dL_law_598 ?_
  refine va_sld hx hb hX hbl hbA hw.2.2.2.2 v2 dL_law_599 ?_
  refine lv_i2l hx hb dL_law_600 rfl ?_
  refine lv_ldc2 (v := 4294967295) hx hb hown (hts _ q_RL_82) dL_law_601 ?_
  refine lv_land hx hb dL_law_604 ?_
  refine lv_lor hx hb dL_law_605 ?_
  refine lv_aload_n hx hb dL_law_606 rfl (lv_at hl 0 rfl) ?_
  refine lv_iload_n hx hb dL_law_607 rfl (lv_at hl 3 rfl) ?_
  refine lv_iconst (v := 3) hx hb dL_law_608 (by decide) ?_
  refine lv_iadd hx hb dL_law_609 ?_
  refine va_sld hx hb hX hbl hbA hw.2.2.2.2 v3 dL_law_610 ?_
  refine l_ciM C hw (l_rM [.long ((((xs (x3 + (1 : Int32)).toNatClampNeg).toInt64) <<< ((32 : Int32).toInt64 &&& 63)) ||| (((xs (x3 + (2 : Int32)).toNatClampNeg).toInt64) &&& (4294967295 : Int64))), .int (xs (x3 + (3 : Int32)).toNatClampNeg)] [.int r582] C hw (m_X12_phrase h) k_X12_phrase q_RL_88 rfl rfl hl.1 rfl (Nat.le_of_ble_eq_true rfl) ⟨⟨rfl, rfl⟩, Nat.le_of_ble_eq_true rfl, Nat.le_of_ble_eq_true rfl⟩ dL_law_611) (fun r611 I2 J2 H locs h hw => ?_)
  refine lv_icmp_eq (tgt := 1079) hx hb dL_law_614 (by decide) (fun c614 => ?_) (fun c614 => absurd h.1 c614)
  exact ih h.2 hw hl
set_option maxHeartbeats 4000000 in
set_option maxRecDepth 100000 in
theorem law_17 {Sim : SimT} (h_tell : st_tell Sim) (C : lC p s m meth c b L xs ad am ts cy D) {x3 : Int32} (v1 : vp_in (x3 + 1) L) (v2 : vp_in (x3 + 2) L) (v3 : vp_in (x3 + 3) L) (ih : ∀ {I : MI} {J : MJ} {I2 : MI} {J2 : MJ} {H : Heap} {locs : List Loc} {ls : Array Slot}, Sim I J I2 J2 → lH ad am cy D s I J I2 J2 H locs → lv_has ls 4 [(0, .ref b), (1, .ref (ad 0)), (2, .ref (am 0)), (3, .int x3)] → W p l e room_1 s m #[Value.ref b] below meth c H locs 96 83932 (lw_Z below #[Value.ref b] s) (F0 m 1079 ls [])) {I : MI} {J : MJ} {I2 : MI} {J2 : MJ} {H : Heap} {locs : List Loc} {ls : Array Slot} (h : Sim I J I2 J2) (hw : lH ad am cy D s I J I2 J2 H locs) (hl : lv_has ls 4 [(0, .ref b), (1, .ref (ad 0)), (2, .ref (am 0)), (3, .int x3)]) : W p l e room_1 s m #[Value.ref b] below meth c H locs 96 83932 (lw_Z below #[Value.ref b] s) (F0 m 619 ls []) := by
  obtain ⟨hx, hb, -, -, hown, hts, -, -, -, hX, hbl, -⟩ := id C
  have hbA : ¬ (fun q : Nat => s.heap.size ≤ q) b := Nat.not_le.mpr hbl
  refine lv_aload_n hx hb dL_law_619 rfl (lv_at hl 1 rfl) ?_
  refine lv_aload_n hx hb dL_law_620 rfl (lv_at hl 0 rfl) ?_
  refine lv_iload_n hx hb dL_law_621 rfl (lv_at hl 3 rfl) ?_
  refine lv_iconst (v := 1) hx hb dL_law_622 (by decide) ?_
  refine lv_iadd hx hb dL_law_623 ?_
  refine va_sld hx hb hX hbl hbA hw.2.2.2.2 v1 dL_law_624 ?_
  have h := h_tell (xs (x3 + (1 : Int32)).toNatClampNeg) _ _ _ _ h
  refine l_ciX C hw (l_rX [.int (xs (x3 + (1 : Int32)).toNatClampNeg)] [] C hw (m_X11_tell h) k_X11_tell q_RL_89 rfl rfl hl.1 rfl (Nat.le_of_ble_eq_true rfl) ⟨⟨rfl, rfl⟩, Nat.le_of_ble_eq_true rfl, Nat.le_of_ble_eq_true rfl⟩ dL_law_625) (fun r625 I J H locs h hw => ?_)
  have h : P_X12_tell _ _ _ _ := h
  refine lv_aload_n hx hb dL_law_628 rfl (lv_at hl 2 rfl) ?_
  refine lv_aload_n hx hb dL_law_629 rfl (lv_at hl 0 rfl) ?_
  refine lv_iload_n hx hb dL_law_630 rfl (lv_at hl 3 rfl) ?_
  refine lv_iconst (v := 1) hx hb dL_law_631 (by decide) ?_
  refine lv_iadd hx hb dL_law_632 ?_
  refine va_sld hx hb hX hbl hbA hw.2.2.2.2 v1 dL_law_633 ?_
  refine l_ciM C hw (l_rM [.int (xs (x3 + (1 : Int32)).toNatClampNeg)] [.int r625] C hw (m_X12_tell h) k_X12_tell q_RL_92 rfl rfl hl.1 rfl (Nat.le_of_ble_eq_true rfl) ⟨⟨rfl, rfl⟩, Nat.le_of_ble_eq_true rfl, Nat.le_of_ble_eq_true rfl⟩ dL_law_634) (fun r634 I2 J2 H locs h hw => ?_)
  refine lv_icmp_eq (tgt := 1079) hx hb dL_law_637 (by decide) (fun c637 => ?_) (fun c637 => absurd h.1 c637)
  exact ih h.2 hw hl
set_option maxHeartbeats 4000000 in
set_option maxRecDepth 100000 in
theorem law_18 {Sim : SimT} (h_clear : st_clear Sim) (C : lC p s m meth c b L xs ad am ts cy D) {x3 : Int32} (v1 : vp_in (x3 + 1) L) (v2 : vp_in (x3 + 2) L) (v3 : vp_in (x3 + 3) L) (ih : ∀ {I : MI} {J : MJ} {I2 : MI} {J2 : MJ} {H : Heap} {locs : List Loc} {ls : Array Slot}, Sim I J I2 J2 → lH ad am cy D s I J I2 J2 H locs → lv_has ls 4 [(0, .ref b), (1, .ref (ad 0)), (2, .ref (am 0)), (3, .int x3)] → W p l e room_1 s m #[Value.ref b] below meth c H locs 96 83932 (lw_Z below #[Value.ref b] s) (F0 m 1079 ls [])) {I : MI} {J : MJ} {I2 : MI} {J2 : MJ} {H : Heap} {locs : List Loc} {ls : Array Slot} (h : Sim I J I2 J2) (hw : lH ad am cy D s I J I2 J2 H locs) (hl : lv_has ls 4 [(0, .ref b), (1, .ref (ad 0)), (2, .ref (am 0)), (3, .int x3)]) : W p l e room_1 s m #[Value.ref b] below meth c H locs 96 83932 (lw_Z below #[Value.ref b] s) (F0 m 642 ls []) := by
  obtain ⟨hx, hb, -, -, hown, hts, -, -, -, hX, hbl, -⟩ := id C
  have hbA : ¬ (fun q : Nat => s.heap.size ≤ q) b := Nat.not_le.mpr hbl
  refine lv_aload_n hx hb dL_law_642 rfl (lv_at hl 1 rfl) ?_
  have h := h_clear _ _ _ _ h
  refine l_ciX C hw (l_rX [] [] C hw (m_X11_clear h) k_X11_clear q_RL_93 rfl rfl hl.1 rfl (Nat.le_of_ble_eq_true rfl) ⟨⟨rfl, rfl⟩, Nat.le_of_ble_eq_true rfl, Nat.le_of_ble_eq_true rfl⟩ dL_law_643) (fun r643 I J H locs h hw => ?_)
  have h : P_X12_clear _ _ _ := h
  refine lv_aload_n hx hb dL_law_646 rfl (lv_at hl 2 rfl) ?_
  refine l_ciM C hw (l_rM [] [.int r643] C hw (m_X12_clear h) k_X12_clear q_RL_96 rfl rfl hl.1 rfl (Nat.le_of_ble_eq_true rfl) ⟨⟨rfl, rfl⟩, Nat.le_of_ble_eq_true rfl, Nat.le_of_ble_eq_true rfl⟩ dL_law_647) (fun r647 I2 J2 H locs h hw => ?_)
  refine lv_icmp_eq (tgt := 1079) hx hb dL_law_650 (by decide) (fun c650 => ?_) (fun c650 => absurd h.1 c650)
  exact ih h.2 hw hl
set_option maxHeartbeats 4000000 in
set_option maxRecDepth 100000 in
theorem law_19 {Sim : SimT} (h_why : st_why Sim) (C : lC p s m meth c b L xs ad am ts cy D) {x3 : Int32} (v1 : vp_in (x3 + 1) L) (v2 : vp_in (x3 + 2) L) (v3 : vp_in (x3 + 3) L) (ih : ∀ {I : MI} {J : MJ} {I2 : MI} {J2 : MJ} {H : Heap} {locs : List Loc} {ls : Array Slot}, Sim I J I2 J2 → lH ad am cy D s I J I2 J2 H locs → lv_has ls 4 [(0, .ref b), (1, .ref (ad 0)), (2, .ref (am 0)), (3, .int x3)] → W p l e room_1 s m #[Value.ref b] below meth c H locs 96 83932 (lw_Z below #[Value.ref b] s) (F0 m 1079 ls [])) {I : MI} {J : MJ} {I2 : MI} {J2 : MJ} {H : Heap} {locs : List Loc} {ls : Array Slot} (h : Sim I J I2 J2) (hw : lH ad am cy D s I J I2 J2 H locs) (hl : lv_has ls 4 [(0, .ref b), (1, .ref (ad 0)), (2, .ref (am 0)), (3, .int x3)]) : W p l e room_1 s m #[Value.ref b] below meth c H locs 96 83932 (lw_Z below #[Value.ref b] s) (F0 m 655 ls []) := by
  obtain ⟨hx, hb, -, -, hown, hts, -, -, -, hX, hbl, -⟩ := id C
  have hbA : ¬ (fun q : Nat => s.heap.size ≤ q) b := Nat.not_le.mpr hbl
  refine lv_aload_n hx hb dL_law_655 rfl (lv_at hl 1 rfl) ?_
  refine lv_aload_n hx hb dL_law_656 rfl (lv_at hl 0 rfl) ?_
  refine lv_iload_n hx hb dL_law_657 rfl (lv_at hl 3 rfl) ?_
  refine lv_iconst (v := 1) hx hb dL_law_658 (by decide) ?_
  refine lv_iadd hx hb dL_law_659 ?_
  refine va_sld hx hb hX hbl hbA hw.2.2.2.2 v1 dL_law_660 ?_
  have h := h_why (xs (x3 + (1 : Int32)).toNatClampNeg) _ _ _ _ h
  refine l_ciX C hw (l_rX [.int (xs (x3 + (1 : Int32)).toNatClampNeg)] [] C hw (m_X11_why h) k_X11_why q_RL_97 rfl rfl hl.1 rfl (Nat.le_of_ble_eq_true rfl) ⟨⟨rfl, rfl⟩, Nat.le_of_ble_eq_true rfl, Nat.le_of_ble_eq_true rfl⟩ dL_law_661) (fun r661 I J H locs h hw => ?_)
  have h : P_X12_why _ _ _ _ := h
  refine lv_aload_n hx hb dL_law_664 rfl (lv_at hl 2 rfl) ?_
  refine lv_aload_n hx hb dL_law_665 rfl (lv_at hl 0 rfl) ?_
  refine lv_iload_n hx hb dL_law_666 rfl (lv_at hl 3 rfl) ?_
  refine lv_iconst (v := 1) hx hb dL_law_667 (by decide) ?_
  refine lv_iadd hx hb dL_law_668 ?_
  refine va_sld hx hb hX hbl hbA hw.2.2.2.2 v1 dL_law_669 ?_
  refine l_ciM C hw (l_rM [.int (xs (x3 + (1 : Int32)).toNatClampNeg)] [.int r661] C hw (m_X12_why h) k_X12_why q_RL_100 rfl rfl hl.1 rfl (Nat.le_of_ble_eq_true rfl) ⟨⟨rfl, rfl⟩, Nat.le_of_ble_eq_true rfl, Nat.le_of_ble_eq_true rfl⟩ dL_law_670) (fun r670 I2 J2 H locs h hw => ?_)
  refine lv_icmp_eq (tgt := 1079) hx hb dL_law_673 (by decide) (fun c673 => ?_) (fun c673 => absurd h.1 c673)
  exact ih h.2 hw hl
set_option maxHeartbeats 4000000 in
set_option maxRecDepth 100000 in
theorem law_20 {Sim : SimT} (h_number : st_number Sim) (C : lC p s m meth c b L xs ad am ts cy D) {x3 : Int32} (v1 : vp_in (x3 + 1) L) (v2 : vp_in (x3 + 2) L) (v3 : vp_in (x3 + 3) L) (ih : ∀ {I : MI} {J : MJ} {I2 : MI} {J2 : MJ} {H : Heap} {locs : List Loc} {ls : Array Slot}, Sim I J I2 J2 → lH ad am cy D s I J I2 J2 H locs → lv_has ls 4 [(0, .ref b), (1, .ref (ad 0)), (2, .ref (am 0)), (3, .int x3)] → W p l e room_1 s m #[Value.ref b] below meth c H locs 96 83932 (lw_Z below #[Value.ref b] s) (F0 m 1079 ls [])) {I : MI} {J : MJ} {I2 : MI} {J2 : MJ} {H : Heap} {locs : List Loc} {ls : Array Slot} (h : Sim I J I2 J2) (hw : lH ad am cy D s I J I2 J2 H locs) (hl : lv_has ls 4 [(0, .ref b), (1, .ref (ad 0)), (2, .ref (am 0)), (3, .int x3)]) : W p l e room_1 s m #[Value.ref b] below meth c H locs 96 83932 (lw_Z below #[Value.ref b] s) (F0 m 678 ls []) := by
  obtain ⟨hx, hb, -, -, hown, hts, -, -, -, hX, hbl, -⟩ := id C
  have hbA : ¬ (fun q : Nat => s.heap.size ≤ q) b := Nat.not_le.mpr hbl
  refine lv_aload_n hx hb dL_law_678 rfl (lv_at hl 1 rfl) ?_
  have h := h_number _ _ _ _ h
  refine l_clX C hw (l_rX [] [] C hw (m_X11_number h) k_X11_number q_RL_101 rfl rfl hl.1 rfl (Nat.le_of_ble_eq_true rfl) ⟨⟨rfl, rfl⟩, Nat.le_of_ble_eq_true rfl, Nat.le_of_ble_eq_true rfl⟩ dL_law_679) (fun r679 I J H locs h hw => ?_)
  have h : P_X12_number _ _ _ := h
  refine lv_aload_n hx hb dL_law_682 rfl (lv_at hl 2 rfl) ?_
  refine l_clM C hw (l_rM [] [.long r679] C hw (m_X12_number h) k_X12_number q_RL_105 rfl rfl hl.1 rfl (Nat.le_of_ble_eq_true rfl) ⟨⟨rfl, rfl⟩, Nat.le_of_ble_eq_true rfl, Nat.le_of_ble_eq_true rfl⟩ dL_law_683) (fun r683 I2 J2 H locs h hw => ?_)
  refine g_lcmp_eq (tgt := 1079) hx hb dL_law_686 dL_law_687 (by decide) (fun c686 => ?_) (fun c686 => absurd h.1 c686)
  exact ih h.2 hw hl
set_option maxHeartbeats 4000000 in
set_option maxRecDepth 100000 in
theorem law_21 {Sim : SimT} (h_nearly : st_nearly Sim) (C : lC p s m meth c b L xs ad am ts cy D) {x3 : Int32} (v1 : vp_in (x3 + 1) L) (v2 : vp_in (x3 + 2) L) (v3 : vp_in (x3 + 3) L) (ih : ∀ {I : MI} {J : MJ} {I2 : MI} {J2 : MJ} {H : Heap} {locs : List Loc} {ls : Array Slot}, Sim I J I2 J2 → lH ad am cy D s I J I2 J2 H locs → lv_has ls 4 [(0, .ref b), (1, .ref (ad 0)), (2, .ref (am 0)), (3, .int x3)] → W p l e room_1 s m #[Value.ref b] below meth c H locs 96 83932 (lw_Z below #[Value.ref b] s) (F0 m 1079 ls [])) {I : MI} {J : MJ} {I2 : MI} {J2 : MJ} {H : Heap} {locs : List Loc} {ls : Array Slot} (h : Sim I J I2 J2) (hw : lH ad am cy D s I J I2 J2 H locs) (hl : lv_has ls 4 [(0, .ref b), (1, .ref (ad 0)), (2, .ref (am 0)), (3, .int x3)]) : W p l e room_1 s m #[Value.ref b] below meth c H locs 96 83932 (lw_Z below #[Value.ref b] s) (F0 m 692 ls []) := by
  obtain ⟨hx, hb, -, -, hown, hts, -, -, -, hX, hbl, -⟩ := id C
  have hbA : ¬ (fun q : Nat => s.heap.size ≤ q) b := Nat.not_le.mpr hbl
  refine lv_aload_n hx hb dL_law_692 rfl (lv_at hl 1 rfl) ?_
  refine lv_aload_n hx hb dL_law_693 rfl (lv_at hl 0 rfl) ?_
  refine lv_iload_n hx hb dL_law_694 rfl (lv_at hl 3 rfl) ?_
  refine lv_iconst (v := 1) hx hb dL_law_695 (by decide) ?_
  refine lv_iadd hx hb dL_law_696 ?_
  refine va_sld hx hb hX hbl hbA hw.2.2.2.2 v1 dL_law_697 ?_
  have h := h_nearly (xs (x3 + (1 : Int32)).toNatClampNeg) _ _ _ _ h
  refine l_ciX C hw (l_rX [.int (xs (x3 + (1 : Int32)).toNatClampNeg)] [] C hw (m_X11_nearly h) k_X11_nearly q_RL_106 rfl rfl hl.1 rfl (Nat.le_of_ble_eq_true rfl) ⟨⟨rfl, rfl⟩, Nat.le_of_ble_eq_true rfl, Nat.le_of_ble_eq_true rfl⟩ dL_law_698) (fun r698 I J H locs h hw => ?_)
  have h : P_X12_nearly _ _ _ _ := h
  refine lv_aload_n hx hb dL_law_701 rfl (lv_at hl 2 rfl) ?_
  refine lv_aload_n hx hb dL_law_702 rfl (lv_at hl 0 rfl) ?_
  refine lv_iload_n hx hb dL_law_703 rfl (lv_at hl 3 rfl) ?_
  refine lv_iconst (v := 1) hx hb dL_law_704 (by decide) ?_
  refine lv_iadd hx hb dL_law_705 ?_
  refine va_sld hx hb hX hbl hbA hw.2.2.2.2 v1 dL_law_706 ?_
  refine l_ciM C hw (l_rM [.int (xs (x3 + (1 : Int32)).toNatClampNeg)] [.int r698] C hw (m_X12_nearly h) k_X12_nearly q_RL_109 rfl rfl hl.1 rfl (Nat.le_of_ble_eq_true rfl) ⟨⟨rfl, rfl⟩, Nat.le_of_ble_eq_true rfl, Nat.le_of_ble_eq_true rfl⟩ dL_law_707) (fun r707 I2 J2 H locs h hw => ?_)
  refine lv_icmp_eq (tgt := 1079) hx hb dL_law_710 (by decide) (fun c710 => ?_) (fun c710 => absurd h.1 c710)
  exact ih h.2 hw hl
set_option maxHeartbeats 4000000 in
set_option maxRecDepth 100000 in
theorem law_22 {Sim : SimT} (h_judge : st_judge Sim) (C : lC p s m meth c b L xs ad am ts cy D) {x3 : Int32} (v1 : vp_in (x3 + 1) L) (v2 : vp_in (x3 + 2) L) (v3 : vp_in (x3 + 3) L) (ih : ∀ {I : MI} {J : MJ} {I2 : MI} {J2 : MJ} {H : Heap} {locs : List Loc} {ls : Array Slot}, Sim I J I2 J2 → lH ad am cy D s I J I2 J2 H locs → lv_has ls 4 [(0, .ref b), (1, .ref (ad 0)), (2, .ref (am 0)), (3, .int x3)] → W p l e room_1 s m #[Value.ref b] below meth c H locs 96 83932 (lw_Z below #[Value.ref b] s) (F0 m 1079 ls [])) {I : MI} {J : MJ} {I2 : MI} {J2 : MJ} {H : Heap} {locs : List Loc} {ls : Array Slot} (h : Sim I J I2 J2) (hw : lH ad am cy D s I J I2 J2 H locs) (hl : lv_has ls 4 [(0, .ref b), (1, .ref (ad 0)), (2, .ref (am 0)), (3, .int x3)]) : W p l e room_1 s m #[Value.ref b] below meth c H locs 96 83932 (lw_Z below #[Value.ref b] s) (F0 m 715 ls []) := by
  obtain ⟨hx, hb, -, -, hown, hts, -, -, -, hX, hbl, -⟩ := id C
  have hbA : ¬ (fun q : Nat => s.heap.size ≤ q) b := Nat.not_le.mpr hbl
  refine lv_aload_n hx hb dL_law_715 rfl (lv_at hl 1 rfl) ?_
  refine lv_aload_n hx hb dL_law_716 rfl (lv_at hl 0 rfl) ?_
  refine lv_iload_n hx hb dL_law_717 rfl (lv_at hl 3 rfl) ?_
  refine lv_iconst (v := 1) hx hb dL_law_718 (by decide) ?_
  refine lv_iadd hx hb dL_law_719 ?_
  refine va_sld hx hb hX hbl hbA hw.2.2.2.2 v1 dL_law_720 ?_
  refine lv_aload_n hx hb dL_law_721 rfl (lv_at hl 0 rfl) ?_
  refine lv_iload_n hx hb dL_law_722 rfl (lv_at hl 3 rfl) ?_
  refine lv_iconst (v := 2) hx hb dL_law_723 (by decide) ?_
  refine lv_iadd hx hb dL_law_724 ?_
  refine va_sld hx hb hX hbl hbA hw.2.2.2.2 v2 dL_law_725 ?_
  refine lv_i2l hx hb dL_law_726 rfl ?_
  refine lv_bipush (v := 32) hx hb dL_law_727 (by decide) ?_
  refine lv_lshl hx hb dL_law_729 rfl ?_
  refine lv_aload_n hx hb dL_law_730 rfl (lv_at hl 0 rfl) ?_
  refine lv_iload_n hx hb dL_law_731 rfl (lv_at hl 3 rfl) ?_
  refine lv_iconst (v := 3) hx hb dL_law_732 (by decide) ?_
  refine lv_iadd hx hb dL_law_733 ?_
  refine va_sld hx hb hX hbl hbA hw.2.2.2.2 v3 dL_law_734 ?_
  refine lv_i2l hx hb dL_law_735 rfl ?_
  refine lv_ldc2 (v := 4294967295) hx hb hown (hts _ q_RL_82) dL_law_736 ?_
  refine lv_land hx hb dL_law_739 ?_
  refine lv_lor hx hb dL_law_740 ?_
  have h := h_judge (xs (x3 + (1 : Int32)).toNatClampNeg) ((((xs (x3 + (2 : Int32)).toNatClampNeg).toInt64) <<< ((32 : Int32).toInt64 &&& 63)) ||| (((xs (x3 + (3 : Int32)).toNatClampNeg).toInt64) &&& (4294967295 : Int64))) _ _ _ _ h
  refine l_ciX C hw (l_rX [.int (xs (x3 + (1 : Int32)).toNatClampNeg), .long ((((xs (x3 + (2 : Int32)).toNatClampNeg).toInt64) <<< ((32 : Int32).toInt64 &&& 63)) ||| (((xs (x3 + (3 : Int32)).toNatClampNeg).toInt64) &&& (4294967295 : Int64)))] [] C hw (m_X11_judge h) k_X11_judge q_RL_110 rfl rfl hl.1 rfl (Nat.le_of_ble_eq_true rfl) ⟨⟨rfl, rfl⟩, Nat.le_of_ble_eq_true rfl, Nat.le_of_ble_eq_true rfl⟩ dL_law_741) (fun r741 I J H locs h hw => ?_)
  have h : P_X12_judge _ _ _ _ _ := h
  refine lv_aload_n hx hb dL_law_744 rfl (lv_at hl 2 rfl) ?_
  refine lv_aload_n hx hb dL_law_745 rfl (lv_at hl 0 rfl) ?_
  refine lv_iload_n hx hb dL_law_746 rfl (lv_at hl 3 rfl) ?_
  refine lv_iconst (v := 1) hx hb dL_law_747 (by decide) ?_
  refine lv_iadd hx hb dL_law_748 ?_
  refine va_sld hx hb hX hbl hbA hw.2.2.2.2 v1 dL_law_749 ?_
  refine lv_aload_n hx hb dL_law_750 rfl (lv_at hl 0 rfl) ?_
  refine lv_iload_n hx hb dL_law_751 rfl (lv_at hl 3 rfl) ?_
  refine lv_iconst (v := 2) hx hb dL_law_752 (by decide) ?_
  refine lv_iadd hx hb dL_law_753 ?_
  refine va_sld hx hb hX hbl hbA hw.2.2.2.2 v2 dL_law_754 ?_
  refine lv_i2l hx hb dL_law_755 rfl ?_
  refine lv_bipush (v := 32) hx hb dL_law_756 (by decide) ?_
  refine lv_lshl hx hb dL_law_758 rfl ?_
  refine lv_aload_n hx hb dL_law_759 rfl (lv_at hl 0 rfl) ?_
  refine lv_iload_n hx hb dL_law_760 rfl (lv_at hl 3 rfl) ?_
  refine lv_iconst (v := 3) hx hb dL_law_761 (by decide) ?_
  refine lv_iadd hx hb dL_law_762 ?_
  refine va_sld hx hb hX hbl hbA hw.2.2.2.2 v3 dL_law_763 ?_
  refine lv_i2l hx hb dL_law_764 rfl ?_
  refine lv_ldc2 (v := 4294967295) hx hb hown (hts _ q_RL_82) dL_law_765 ?_
  refine lv_land hx hb dL_law_768 ?_
  refine lv_lor hx hb dL_law_769 ?_
  refine l_ciM C hw (l_rM [.int (xs (x3 + (1 : Int32)).toNatClampNeg), .long ((((xs (x3 + (2 : Int32)).toNatClampNeg).toInt64) <<< ((32 : Int32).toInt64 &&& 63)) ||| (((xs (x3 + (3 : Int32)).toNatClampNeg).toInt64) &&& (4294967295 : Int64)))] [.int r741] C hw (m_X12_judge h) k_X12_judge q_RL_114 rfl rfl hl.1 rfl (Nat.le_of_ble_eq_true rfl) ⟨⟨rfl, rfl⟩, Nat.le_of_ble_eq_true rfl, Nat.le_of_ble_eq_true rfl⟩ dL_law_770) (fun r770 I2 J2 H locs h hw => ?_)
  refine lv_icmp_eq (tgt := 1079) hx hb dL_law_773 (by decide) (fun c773 => ?_) (fun c773 => absurd h.1 c773)
  exact ih h.2 hw hl
set_option maxHeartbeats 4000000 in
set_option maxRecDepth 100000 in
theorem law_23 {Sim : SimT} (h_see : st_see Sim) (C : lC p s m meth c b L xs ad am ts cy D) {x3 : Int32} (v1 : vp_in (x3 + 1) L) (v2 : vp_in (x3 + 2) L) (v3 : vp_in (x3 + 3) L) (ih : ∀ {I : MI} {J : MJ} {I2 : MI} {J2 : MJ} {H : Heap} {locs : List Loc} {ls : Array Slot}, Sim I J I2 J2 → lH ad am cy D s I J I2 J2 H locs → lv_has ls 4 [(0, .ref b), (1, .ref (ad 0)), (2, .ref (am 0)), (3, .int x3)] → W p l e room_1 s m #[Value.ref b] below meth c H locs 96 83932 (lw_Z below #[Value.ref b] s) (F0 m 1079 ls [])) {I : MI} {J : MJ} {I2 : MI} {J2 : MJ} {H : Heap} {locs : List Loc} {ls : Array Slot} (h : Sim I J I2 J2) (hw : lH ad am cy D s I J I2 J2 H locs) (hl : lv_has ls 4 [(0, .ref b), (1, .ref (ad 0)), (2, .ref (am 0)), (3, .int x3)]) : W p l e room_1 s m #[Value.ref b] below meth c H locs 96 83932 (lw_Z below #[Value.ref b] s) (F0 m 778 ls []) := by
  obtain ⟨hx, hb, -, -, hown, hts, -, -, -, hX, hbl, -⟩ := id C
  have hbA : ¬ (fun q : Nat => s.heap.size ≤ q) b := Nat.not_le.mpr hbl
  refine lv_aload_n hx hb dL_law_778 rfl (lv_at hl 1 rfl) ?_
  refine lv_aload_n hx hb dL_law_779 rfl (lv_at hl 0 rfl) ?_
  refine lv_iload_n hx hb dL_law_780 rfl (lv_at hl 3 rfl) ?_
  refine lv_iconst (v := 1) hx hb dL_law_781 (by decide) ?_
  refine lv_iadd hx hb dL_law_782 ?_
  refine va_sld hx hb hX hbl hbA hw.2.2.2.2 v1 dL_law_783 ?_
  refine lv_aload_n hx hb dL_law_784 rfl (lv_at hl 0 rfl) ?_
  refine lv_iload_n hx hb dL_law_785 rfl (lv_at hl 3 rfl) ?_
  refine lv_iconst (v := 2) hx hb dL_law_786 (by decide) ?_
  refine lv_iadd hx hb dL_law_787 ?_
  refine va_sld hx hb hX hbl hbA hw.2.2.2.2 v2 dL_law_788 ?_
  refine lv_aload_n hx hb dL_law_789 rfl (lv_at hl 0 rfl) ?_
  refine lv_iload_n hx hb dL_law_790 rfl (lv_at hl 3 rfl) ?_
  refine lv_iconst (v := 3) hx hb dL_law_791 (by decide) ?_
  refine lv_iadd hx hb dL_law_792 ?_
  refine va_sld hx hb hX hbl hbA hw.2.2.2.2 v3 dL_law_793 ?_
  have h := h_see (xs (x3 + (1 : Int32)).toNatClampNeg) (xs (x3 + (2 : Int32)).toNatClampNeg) (xs (x3 + (3 : Int32)).toNatClampNeg) _ _ _ _ h
  refine l_ciX C hw (l_rX [.int (xs (x3 + (1 : Int32)).toNatClampNeg), .int (xs (x3 + (2 : Int32)).toNatClampNeg), .int (xs (x3 + (3 : Int32)).toNatClampNeg)] [] C hw (m_X11_see h) k_X11_see q_RL_115 rfl rfl hl.1 rfl (Nat.le_of_ble_eq_true rfl) ⟨⟨rfl, rfl⟩, Nat.le_of_ble_eq_true rfl, Nat.le_of_ble_eq_true rfl⟩ dL_law_794) (fun r794 I J H locs h hw => ?_)
  have h : P_X12_see _ _ _ _ _ _ := h
  refine lv_aload_n hx hb dL_law_797 rfl (lv_at hl 2 rfl) ?_
  refine lv_aload_n hx hb dL_law_798 rfl (lv_at hl 0 rfl) ?_
  refine lv_iload_n hx hb dL_law_799 rfl (lv_at hl 3 rfl) ?_
  refine lv_iconst (v := 1) hx hb dL_law_800 (by decide) ?_
  refine lv_iadd hx hb dL_law_801 ?_
  refine va_sld hx hb hX hbl hbA hw.2.2.2.2 v1 dL_law_802 ?_
  refine lv_aload_n hx hb dL_law_803 rfl (lv_at hl 0 rfl) ?_
  refine lv_iload_n hx hb dL_law_804 rfl (lv_at hl 3 rfl) ?_
  refine lv_iconst (v := 2) hx hb dL_law_805 (by decide) ?_
  refine lv_iadd hx hb dL_law_806 ?_
  refine va_sld hx hb hX hbl hbA hw.2.2.2.2 v2 dL_law_807 ?_
  refine lv_aload_n hx hb dL_law_808 rfl (lv_at hl 0 rfl) ?_
  refine lv_iload_n hx hb dL_law_809 rfl (lv_at hl 3 rfl) ?_
  refine lv_iconst (v := 3) hx hb dL_law_810 (by decide) ?_
  refine lv_iadd hx hb dL_law_811 ?_
  refine va_sld hx hb hX hbl hbA hw.2.2.2.2 v3 dL_law_812 ?_
  refine l_ciM C hw (l_rM [.int (xs (x3 + (1 : Int32)).toNatClampNeg), .int (xs (x3 + (2 : Int32)).toNatClampNeg), .int (xs (x3 + (3 : Int32)).toNatClampNeg)] [.int r794] C hw (m_X12_see h) k_X12_see q_RL_118 rfl rfl hl.1 rfl (Nat.le_of_ble_eq_true rfl) ⟨⟨rfl, rfl⟩, Nat.le_of_ble_eq_true rfl, Nat.le_of_ble_eq_true rfl⟩ dL_law_813) (fun r813 I2 J2 H locs h hw => ?_)
  refine lv_icmp_eq (tgt := 1079) hx hb dL_law_816 (by decide) (fun c816 => ?_) (fun c816 => absurd h.1 c816)
  exact ih h.2 hw hl
set_option maxHeartbeats 4000000 in
set_option maxRecDepth 100000 in
theorem law_24 {Sim : SimT} (h_unsee : st_unsee Sim) (C : lC p s m meth c b L xs ad am ts cy D) {x3 : Int32} (v1 : vp_in (x3 + 1) L) (v2 : vp_in (x3 + 2) L) (v3 : vp_in (x3 + 3) L) (ih : ∀ {I : MI} {J : MJ} {I2 : MI} {J2 : MJ} {H : Heap} {locs : List Loc} {ls : Array Slot}, Sim I J I2 J2 → lH ad am cy D s I J I2 J2 H locs → lv_has ls 4 [(0, .ref b), (1, .ref (ad 0)), (2, .ref (am 0)), (3, .int x3)] → W p l e room_1 s m #[Value.ref b] below meth c H locs 96 83932 (lw_Z below #[Value.ref b] s) (F0 m 1079 ls [])) {I : MI} {J : MJ} {I2 : MI} {J2 : MJ} {H : Heap} {locs : List Loc} {ls : Array Slot} (h : Sim I J I2 J2) (hw : lH ad am cy D s I J I2 J2 H locs) (hl : lv_has ls 4 [(0, .ref b), (1, .ref (ad 0)), (2, .ref (am 0)), (3, .int x3)]) : W p l e room_1 s m #[Value.ref b] below meth c H locs 96 83932 (lw_Z below #[Value.ref b] s) (F0 m 821 ls []) := by
  obtain ⟨hx, hb, -, -, hown, hts, -, -, -, hX, hbl, -⟩ := id C
  have hbA : ¬ (fun q : Nat => s.heap.size ≤ q) b := Nat.not_le.mpr hbl
  refine lv_aload_n hx hb dL_law_821 rfl (lv_at hl 1 rfl) ?_
  have h := h_unsee _ _ _ _ h
  refine l_ciX C hw (l_rX [] [] C hw (m_X11_unsee h) k_X11_unsee q_RL_119 rfl rfl hl.1 rfl (Nat.le_of_ble_eq_true rfl) ⟨⟨rfl, rfl⟩, Nat.le_of_ble_eq_true rfl, Nat.le_of_ble_eq_true rfl⟩ dL_law_822) (fun r822 I J H locs h hw => ?_)
  have h : P_X12_unsee _ _ _ := h
  refine lv_aload_n hx hb dL_law_825 rfl (lv_at hl 2 rfl) ?_
  refine l_ciM C hw (l_rM [] [.int r822] C hw (m_X12_unsee h) k_X12_unsee q_RL_122 rfl rfl hl.1 rfl (Nat.le_of_ble_eq_true rfl) ⟨⟨rfl, rfl⟩, Nat.le_of_ble_eq_true rfl, Nat.le_of_ble_eq_true rfl⟩ dL_law_826) (fun r826 I2 J2 H locs h hw => ?_)
  refine lv_icmp_eq (tgt := 1079) hx hb dL_law_829 (by decide) (fun c829 => ?_) (fun c829 => absurd h.1 c829)
  exact ih h.2 hw hl
set_option maxHeartbeats 4000000 in
set_option maxRecDepth 100000 in
theorem law_25 {Sim : SimT} (h_left : st_left Sim) (C : lC p s m meth c b L xs ad am ts cy D) {x3 : Int32} (v1 : vp_in (x3 + 1) L) (v2 : vp_in (x3 + 2) L) (v3 : vp_in (x3 + 3) L) (ih : ∀ {I : MI} {J : MJ} {I2 : MI} {J2 : MJ} {H : Heap} {locs : List Loc} {ls : Array Slot}, Sim I J I2 J2 → lH ad am cy D s I J I2 J2 H locs → lv_has ls 4 [(0, .ref b), (1, .ref (ad 0)), (2, .ref (am 0)), (3, .int x3)] → W p l e room_1 s m #[Value.ref b] below meth c H locs 96 83932 (lw_Z below #[Value.ref b] s) (F0 m 1079 ls [])) {I : MI} {J : MJ} {I2 : MI} {J2 : MJ} {H : Heap} {locs : List Loc} {ls : Array Slot} (h : Sim I J I2 J2) (hw : lH ad am cy D s I J I2 J2 H locs) (hl : lv_has ls 4 [(0, .ref b), (1, .ref (ad 0)), (2, .ref (am 0)), (3, .int x3)]) : W p l e room_1 s m #[Value.ref b] below meth c H locs 96 83932 (lw_Z below #[Value.ref b] s) (F0 m 834 ls []) := by
  obtain ⟨hx, hb, -, -, hown, hts, -, -, -, hX, hbl, -⟩ := id C
  have hbA : ¬ (fun q : Nat => s.heap.size ≤ q) b := Nat.not_le.mpr hbl
  refine lv_aload_n hx hb dL_law_834 rfl (lv_at hl 1 rfl) ?_
  refine lv_aload_n hx hb dL_law_835 rfl (lv_at hl 0 rfl) ?_
  refine lv_iload_n hx hb dL_law_836 rfl (lv_at hl 3 rfl) ?_
  refine lv_iconst (v := 1) hx hb dL_law_837 (by decide) ?_
  refine lv_iadd hx hb dL_law_838 ?_
  refine va_sld hx hb hX hbl hbA hw.2.2.2.2 v1 dL_law_839 ?_
  have h := h_left (xs (x3 + (1 : Int32)).toNatClampNeg) _ _ _ _ h
  refine l_ciX C hw (l_rX [.int (xs (x3 + (1 : Int32)).toNatClampNeg)] [] C hw (m_X11_left h) k_X11_left q_RL_123 rfl rfl hl.1 rfl (Nat.le_of_ble_eq_true rfl) ⟨⟨rfl, rfl⟩, Nat.le_of_ble_eq_true rfl, Nat.le_of_ble_eq_true rfl⟩ dL_law_840) (fun r840 I J H locs h hw => ?_)
  have h : P_X12_left _ _ _ _ := h
  refine lv_aload_n hx hb dL_law_843 rfl (lv_at hl 2 rfl) ?_
  refine lv_aload_n hx hb dL_law_844 rfl (lv_at hl 0 rfl) ?_
  refine lv_iload_n hx hb dL_law_845 rfl (lv_at hl 3 rfl) ?_
  refine lv_iconst (v := 1) hx hb dL_law_846 (by decide) ?_
  refine lv_iadd hx hb dL_law_847 ?_
  refine va_sld hx hb hX hbl hbA hw.2.2.2.2 v1 dL_law_848 ?_
  refine l_ciM C hw (l_rM [.int (xs (x3 + (1 : Int32)).toNatClampNeg)] [.int r840] C hw (m_X12_left h) k_X12_left q_RL_126 rfl rfl hl.1 rfl (Nat.le_of_ble_eq_true rfl) ⟨⟨rfl, rfl⟩, Nat.le_of_ble_eq_true rfl, Nat.le_of_ble_eq_true rfl⟩ dL_law_849) (fun r849 I2 J2 H locs h hw => ?_)
  refine lv_icmp_eq (tgt := 1079) hx hb dL_law_852 (by decide) (fun c852 => ?_) (fun c852 => absurd h.1 c852)
  exact ih h.2 hw hl
set_option maxHeartbeats 4000000 in
set_option maxRecDepth 100000 in
theorem law_26 {Sim : SimT} (h_share : st_share Sim) (C : lC p s m meth c b L xs ad am ts cy D) {x3 : Int32} (v1 : vp_in (x3 + 1) L) (v2 : vp_in (x3 + 2) L) (v3 : vp_in (x3 + 3) L) (ih : ∀ {I : MI} {J : MJ} {I2 : MI} {J2 : MJ} {H : Heap} {locs : List Loc} {ls : Array Slot}, Sim I J I2 J2 → lH ad am cy D s I J I2 J2 H locs → lv_has ls 4 [(0, .ref b), (1, .ref (ad 0)), (2, .ref (am 0)), (3, .int x3)] → W p l e room_1 s m #[Value.ref b] below meth c H locs 96 83932 (lw_Z below #[Value.ref b] s) (F0 m 1079 ls [])) {I : MI} {J : MJ} {I2 : MI} {J2 : MJ} {H : Heap} {locs : List Loc} {ls : Array Slot} (h : Sim I J I2 J2) (hw : lH ad am cy D s I J I2 J2 H locs) (hl : lv_has ls 4 [(0, .ref b), (1, .ref (ad 0)), (2, .ref (am 0)), (3, .int x3)]) : W p l e room_1 s m #[Value.ref b] below meth c H locs 96 83932 (lw_Z below #[Value.ref b] s) (F0 m 857 ls []) := by
  obtain ⟨hx, hb, -, -, hown, hts, -, -, -, hX, hbl, -⟩ := id C
  have hbA : ¬ (fun q : Nat => s.heap.size ≤ q) b := Nat.not_le.mpr hbl
  refine lv_aload_n hx hb dL_law_857 rfl (lv_at hl 1 rfl) ?_
  refine lv_aload_n hx hb dL_law_858 rfl (lv_at hl 0 rfl) ?_
  refine lv_iload_n hx hb dL_law_859 rfl (lv_at hl 3 rfl) ?_
  refine lv_iconst (v := 1) hx hb dL_law_860 (by decide) ?_
  refine lv_iadd hx hb dL_law_861 ?_
  refine va_sld hx hb hX hbl hbA hw.2.2.2.2 v1 dL_law_862 ?_
  refine lv_aload_n hx hb dL_law_863 rfl (lv_at hl 0 rfl) ?_
  refine lv_iload_n hx hb dL_law_864 rfl (lv_at hl 3 rfl) ?_
  refine lv_iconst (v := 2) hx hb dL_law_865 (by decide) ?_
  refine lv_iadd hx hb dL_law_866 ?_
  refine va_sld hx hb hX hbl hbA hw.2.2.2.2 v2 dL_law_867 ?_
  refine lv_if_eq (tgt := 875) hx hb dL_law_868 (by decide) (fun c868 => ?_) (fun c868 => ?_)
  · refine lv_iconst (v := 0) hx hb dL_law_875 (by decide) ?_
    have h := h_share (xs (x3 + (1 : Int32)).toNatClampNeg) (0 : Int32) _ _ _ _ (by decide) h
    refine l_clX C hw (l_rX [.int (xs (x3 + (1 : Int32)).toNatClampNeg), .int (0 : Int32)] [] C hw (m_X11_share h) k_X11_share q_RL_127 rfl rfl hl.1 rfl (Nat.le_of_ble_eq_true rfl) ⟨⟨rfl, rfl⟩, Nat.le_of_ble_eq_true rfl, Nat.le_of_ble_eq_true rfl⟩ dL_law_876) (fun r876 I J H locs h hw => ?_)
    have h : P_X12_share _ _ _ _ _ := h
    refine lv_aload_n hx hb dL_law_879 rfl (lv_at hl 2 rfl) ?_
    refine lv_aload_n hx hb dL_law_880 rfl (lv_at hl 0 rfl) ?_
    refine lv_iload_n hx hb dL_law_881 rfl (lv_at hl 3 rfl) ?_
    refine lv_iconst (v := 1) hx hb dL_law_882 (by decide) ?_
    refine lv_iadd hx hb dL_law_883 ?_
    refine va_sld hx hb hX hbl hbA hw.2.2.2.2 v1 dL_law_884 ?_
    refine lv_aload_n hx hb dL_law_885 rfl (lv_at hl 0 rfl) ?_
    refine lv_iload_n hx hb dL_law_886 rfl (lv_at hl 3 rfl) ?_
    refine lv_iconst (v := 2) hx hb dL_law_887 (by decide) ?_
    refine lv_iadd hx hb dL_law_888 ?_
    refine va_sld hx hb hX hbl hbA hw.2.2.2.2 v2 dL_law_889 ?_
    refine lv_if_eq (tgt := 897) hx hb dL_law_890 (by decide) (fun c890 => ?_) (fun c890 => ?_)
    · refine lv_iconst (v := 0) hx hb dL_law_897 (by decide) ?_
      refine l_clM C hw (l_rM [.int (xs (x3 + (1 : Int32)).toNatClampNeg), .int (0 : Int32)] [.long r876] C hw (m_X12_share h) k_X12_share q_RL_131 rfl rfl hl.1 rfl (Nat.le_of_ble_eq_true rfl) ⟨⟨rfl, rfl⟩, Nat.le_of_ble_eq_true rfl, Nat.le_of_ble_eq_true rfl⟩ dL_law_898) (fun r898 I2 J2 H locs h hw => ?_)
      refine g_lcmp_eq (tgt := 1079) hx hb dL_law_901 dL_law_902 (by decide) (fun c901 => ?_) (fun c901 => absurd h.1 c901)
      exact ih h.2 hw hl
    · exact absurd c868 c890
  · refine lv_iconst (v := 1) hx hb dL_law_871 (by decide) ?_
    refine lv_goto (tgt := 876) hx hb dL_law_872 (by decide) ?_
    have h := h_share (xs (x3 + (1 : Int32)).toNatClampNeg) (1 : Int32) _ _ _ _ (by decide) h
    refine l_clX C hw (l_rX [.int (xs (x3 + (1 : Int32)).toNatClampNeg), .int (1 : Int32)] [] C hw (m_X11_share h) k_X11_share q_RL_127 rfl rfl hl.1 rfl (Nat.le_of_ble_eq_true rfl) ⟨⟨rfl, rfl⟩, Nat.le_of_ble_eq_true rfl, Nat.le_of_ble_eq_true rfl⟩ dL_law_876) (fun r876 I J H locs h hw => ?_)
    have h : P_X12_share _ _ _ _ _ := h
    refine lv_aload_n hx hb dL_law_879 rfl (lv_at hl 2 rfl) ?_
    refine lv_aload_n hx hb dL_law_880 rfl (lv_at hl 0 rfl) ?_
    refine lv_iload_n hx hb dL_law_881 rfl (lv_at hl 3 rfl) ?_
    refine lv_iconst (v := 1) hx hb dL_law_882 (by decide) ?_
    refine lv_iadd hx hb dL_law_883 ?_
    refine va_sld hx hb hX hbl hbA hw.2.2.2.2 v1 dL_law_884 ?_
    refine lv_aload_n hx hb dL_law_885 rfl (lv_at hl 0 rfl) ?_
    refine lv_iload_n hx hb dL_law_886 rfl (lv_at hl 3 rfl) ?_
    refine lv_iconst (v := 2) hx hb dL_law_887 (by decide) ?_
    refine lv_iadd hx hb dL_law_888 ?_
    refine va_sld hx hb hX hbl hbA hw.2.2.2.2 v2 dL_law_889 ?_
    refine lv_if_eq (tgt := 897) hx hb dL_law_890 (by decide) (fun c890 => ?_) (fun c890 => ?_)
    · exact absurd c890 c868
    · refine lv_iconst (v := 1) hx hb dL_law_893 (by decide) ?_
      refine lv_goto (tgt := 898) hx hb dL_law_894 (by decide) ?_
      refine l_clM C hw (l_rM [.int (xs (x3 + (1 : Int32)).toNatClampNeg), .int (1 : Int32)] [.long r876] C hw (m_X12_share h) k_X12_share q_RL_131 rfl rfl hl.1 rfl (Nat.le_of_ble_eq_true rfl) ⟨⟨rfl, rfl⟩, Nat.le_of_ble_eq_true rfl, Nat.le_of_ble_eq_true rfl⟩ dL_law_898) (fun r898 I2 J2 H locs h hw => ?_)
      refine g_lcmp_eq (tgt := 1079) hx hb dL_law_901 dL_law_902 (by decide) (fun c901 => ?_) (fun c901 => absurd h.1 c901)
      exact ih h.2 hw hl
set_option maxHeartbeats 4000000 in
set_option maxRecDepth 100000 in
theorem law_27 {Sim : SimT} (h_hope : st_hope Sim) (C : lC p s m meth c b L xs ad am ts cy D) {x3 : Int32} (v1 : vp_in (x3 + 1) L) (v2 : vp_in (x3 + 2) L) (v3 : vp_in (x3 + 3) L) (ih : ∀ {I : MI} {J : MJ} {I2 : MI} {J2 : MJ} {H : Heap} {locs : List Loc} {ls : Array Slot}, Sim I J I2 J2 → lH ad am cy D s I J I2 J2 H locs → lv_has ls 4 [(0, .ref b), (1, .ref (ad 0)), (2, .ref (am 0)), (3, .int x3)] → W p l e room_1 s m #[Value.ref b] below meth c H locs 96 83932 (lw_Z below #[Value.ref b] s) (F0 m 1079 ls [])) {I : MI} {J : MJ} {I2 : MI} {J2 : MJ} {H : Heap} {locs : List Loc} {ls : Array Slot} (h : Sim I J I2 J2) (hw : lH ad am cy D s I J I2 J2 H locs) (hl : lv_has ls 4 [(0, .ref b), (1, .ref (ad 0)), (2, .ref (am 0)), (3, .int x3)]) : W p l e room_1 s m #[Value.ref b] below meth c H locs 96 83932 (lw_Z below #[Value.ref b] s) (F0 m 907 ls []) := by
  obtain ⟨hx, hb, -, -, hown, hts, -, -, -, hX, hbl, -⟩ := id C
  have hbA : ¬ (fun q : Nat => s.heap.size ≤ q) b := Nat.not_le.mpr hbl
  refine lv_aload_n hx hb dL_law_907 rfl (lv_at hl 1 rfl) ?_
  refine lv_aload_n hx hb dL_law_908 rfl (lv_at hl 0 rfl) ?_
  refine lv_iload_n hx hb dL_law_909 rfl (lv_at hl 3 rfl) ?_
  refine lv_iconst (v := 1) hx hb dL_law_910 (by decide) ?_
  refine lv_iadd hx hb dL_law_911 ?_
  refine va_sld hx hb hX hbl hbA hw.2.2.2.2 v1 dL_law_912 ?_
  refine lv_aload_n hx hb dL_law_913 rfl (lv_at hl 0 rfl) ?_
  refine lv_iload_n hx hb dL_law_914 rfl (lv_at hl 3 rfl) ?_
  refine lv_iconst (v := 2) hx hb dL_law_915 (by decide) ?_
  refine lv_iadd hx hb dL_law_916 ?_
  refine va_sld hx hb hX hbl hbA hw.2.2.2.2 v2 dL_law_917 ?_
  refine lv_if_eq (tgt := 925) hx hb dL_law_918 (by decide) (fun c918 => ?_) (fun c918 => ?_)
  · refine lv_iconst (v := 0) hx hb dL_law_925 (by decide) ?_
    have h := h_hope (xs (x3 + (1 : Int32)).toNatClampNeg) (0 : Int32) _ _ _ _ (by decide) h
    refine l_ciX C hw (l_rX [.int (xs (x3 + (1 : Int32)).toNatClampNeg), .int (0 : Int32)] [] C hw (m_X11_hope h) k_X11_hope q_RL_132 rfl rfl hl.1 rfl (Nat.le_of_ble_eq_true rfl) ⟨⟨rfl, rfl⟩, Nat.le_of_ble_eq_true rfl, Nat.le_of_ble_eq_true rfl⟩ dL_law_926) (fun r926 I J H locs h hw => ?_)
    have h : P_X12_hope _ _ _ _ _ := h
    refine lv_aload_n hx hb dL_law_929 rfl (lv_at hl 2 rfl) ?_
    refine lv_aload_n hx hb dL_law_930 rfl (lv_at hl 0 rfl) ?_
    refine lv_iload_n hx hb dL_law_931 rfl (lv_at hl 3 rfl) ?_
    refine lv_iconst (v := 1) hx hb dL_law_932 (by decide) ?_
    refine lv_iadd hx hb dL_law_933 ?_
    refine va_sld hx hb hX hbl hbA hw.2.2.2.2 v1 dL_law_934 ?_
    refine lv_aload_n hx hb dL_law_935 rfl (lv_at hl 0 rfl) ?_
    refine lv_iload_n hx hb dL_law_936 rfl (lv_at hl 3 rfl) ?_
    refine lv_iconst (v := 2) hx hb dL_law_937 (by decide) ?_
    refine lv_iadd hx hb dL_law_938 ?_
    refine va_sld hx hb hX hbl hbA hw.2.2.2.2 v2 dL_law_939 ?_
    refine lv_if_eq (tgt := 947) hx hb dL_law_940 (by decide) (fun c940 => ?_) (fun c940 => ?_)
    · refine lv_iconst (v := 0) hx hb dL_law_947 (by decide) ?_
      refine l_ciM C hw (l_rM [.int (xs (x3 + (1 : Int32)).toNatClampNeg), .int (0 : Int32)] [.int r926] C hw (m_X12_hope h) k_X12_hope q_RL_136 rfl rfl hl.1 rfl (Nat.le_of_ble_eq_true rfl) ⟨⟨rfl, rfl⟩, Nat.le_of_ble_eq_true rfl, Nat.le_of_ble_eq_true rfl⟩ dL_law_948) (fun r948 I2 J2 H locs h hw => ?_)
      refine lv_icmp_eq (tgt := 1079) hx hb dL_law_951 (by decide) (fun c951 => ?_) (fun c951 => absurd h.1 c951)
      exact ih h.2 hw hl
    · exact absurd c918 c940
  · refine lv_iconst (v := 1) hx hb dL_law_921 (by decide) ?_
    refine lv_goto (tgt := 926) hx hb dL_law_922 (by decide) ?_
    have h := h_hope (xs (x3 + (1 : Int32)).toNatClampNeg) (1 : Int32) _ _ _ _ (by decide) h
    refine l_ciX C hw (l_rX [.int (xs (x3 + (1 : Int32)).toNatClampNeg), .int (1 : Int32)] [] C hw (m_X11_hope h) k_X11_hope q_RL_132 rfl rfl hl.1 rfl (Nat.le_of_ble_eq_true rfl) ⟨⟨rfl, rfl⟩, Nat.le_of_ble_eq_true rfl, Nat.le_of_ble_eq_true rfl⟩ dL_law_926) (fun r926 I J H locs h hw => ?_)
    have h : P_X12_hope _ _ _ _ _ := h
    refine lv_aload_n hx hb dL_law_929 rfl (lv_at hl 2 rfl) ?_
    refine lv_aload_n hx hb dL_law_930 rfl (lv_at hl 0 rfl) ?_
    refine lv_iload_n hx hb dL_law_931 rfl (lv_at hl 3 rfl) ?_
    refine lv_iconst (v := 1) hx hb dL_law_932 (by decide) ?_
    refine lv_iadd hx hb dL_law_933 ?_
    refine va_sld hx hb hX hbl hbA hw.2.2.2.2 v1 dL_law_934 ?_
    refine lv_aload_n hx hb dL_law_935 rfl (lv_at hl 0 rfl) ?_
    refine lv_iload_n hx hb dL_law_936 rfl (lv_at hl 3 rfl) ?_
    refine lv_iconst (v := 2) hx hb dL_law_937 (by decide) ?_
    refine lv_iadd hx hb dL_law_938 ?_
    refine va_sld hx hb hX hbl hbA hw.2.2.2.2 v2 dL_law_939 ?_
    refine lv_if_eq (tgt := 947) hx hb dL_law_940 (by decide) (fun c940 => ?_) (fun c940 => ?_)
    · exact absurd c940 c918
    · refine lv_iconst (v := 1) hx hb dL_law_943 (by decide) ?_
      refine lv_goto (tgt := 948) hx hb dL_law_944 (by decide) ?_
      refine l_ciM C hw (l_rM [.int (xs (x3 + (1 : Int32)).toNatClampNeg), .int (1 : Int32)] [.int r926] C hw (m_X12_hope h) k_X12_hope q_RL_136 rfl rfl hl.1 rfl (Nat.le_of_ble_eq_true rfl) ⟨⟨rfl, rfl⟩, Nat.le_of_ble_eq_true rfl, Nat.le_of_ble_eq_true rfl⟩ dL_law_948) (fun r948 I2 J2 H locs h hw => ?_)
      refine lv_icmp_eq (tgt := 1079) hx hb dL_law_951 (by decide) (fun c951 => ?_) (fun c951 => absurd h.1 c951)
      exact ih h.2 hw hl
set_option maxHeartbeats 4000000 in
set_option maxRecDepth 100000 in
theorem law_28 {Sim : SimT} (h_seed : st_seed Sim) (C : lC p s m meth c b L xs ad am ts cy D) {x3 : Int32} (v1 : vp_in (x3 + 1) L) (v2 : vp_in (x3 + 2) L) (v3 : vp_in (x3 + 3) L) (ih : ∀ {I : MI} {J : MJ} {I2 : MI} {J2 : MJ} {H : Heap} {locs : List Loc} {ls : Array Slot}, Sim I J I2 J2 → lH ad am cy D s I J I2 J2 H locs → lv_has ls 4 [(0, .ref b), (1, .ref (ad 0)), (2, .ref (am 0)), (3, .int x3)] → W p l e room_1 s m #[Value.ref b] below meth c H locs 96 83932 (lw_Z below #[Value.ref b] s) (F0 m 1079 ls [])) {I : MI} {J : MJ} {I2 : MI} {J2 : MJ} {H : Heap} {locs : List Loc} {ls : Array Slot} (h : Sim I J I2 J2) (hw : lH ad am cy D s I J I2 J2 H locs) (hl : lv_has ls 4 [(0, .ref b), (1, .ref (ad 0)), (2, .ref (am 0)), (3, .int x3)]) : W p l e room_1 s m #[Value.ref b] below meth c H locs 96 83932 (lw_Z below #[Value.ref b] s) (F0 m 956 ls []) := by
  obtain ⟨hx, hb, -, -, hown, hts, -, -, -, hX, hbl, -⟩ := id C
  have hbA : ¬ (fun q : Nat => s.heap.size ≤ q) b := Nat.not_le.mpr hbl
  refine lv_aload_n hx hb dL_law_956 rfl (lv_at hl 1 rfl) ?_
  refine lv_aload_n hx hb dL_law_957 rfl (lv_at hl 0 rfl) ?_
  refine lv_iload_n hx hb dL_law_958 rfl (lv_at hl 3 rfl) ?_
  refine lv_iconst (v := 1) hx hb dL_law_959 (by decide) ?_
  refine lv_iadd hx hb dL_law_960 ?_
  refine va_sld hx hb hX hbl hbA hw.2.2.2.2 v1 dL_law_961 ?_
  refine lv_i2l hx hb dL_law_962 rfl ?_
  refine lv_bipush (v := 32) hx hb dL_law_963 (by decide) ?_
  refine lv_lshl hx hb dL_law_965 rfl ?_
  refine lv_aload_n hx hb dL_law_966 rfl (lv_at hl 0 rfl) ?_
  refine lv_iload_n hx hb dL_law_967 rfl (lv_at hl 3 rfl) ?_
  refine lv_iconst (v := 2) hx hb dL_law_968 (by decide) ?_
  refine lv_iadd hx hb dL_law_969 ?_
  refine va_sld hx hb hX hbl hbA hw.2.2.2.2 v2 dL_law_970 ?_
  refine lv_i2l hx hb dL_law_971 rfl ?_
  refine lv_ldc2 (v := 4294967295) hx hb hown (hts _ q_RL_82) dL_law_972 ?_
  refine lv_land hx hb dL_law_975 ?_
  refine lv_lor hx hb dL_law_976 ?_
  have h := h_seed ((((xs (x3 + (1 : Int32)).toNatClampNeg).toInt64) <<< ((32 : Int32).toInt64 &&& 63)) ||| (((xs (x3 + (2 : Int32)).toNatClampNeg).toInt64) &&& (4294967295 : Int64))) _ _ _ _ h
  refine l_clX C hw (l_rX [.long ((((xs (x3 + (1 : Int32)).toNatClampNeg).toInt64) <<< ((32 : Int32).toInt64 &&& 63)) ||| (((xs (x3 + (2 : Int32)).toNatClampNeg).toInt64) &&& (4294967295 : Int64)))] [] C hw (m_X11_seed h) k_X11_seed q_RL_137 rfl rfl hl.1 rfl (Nat.le_of_ble_eq_true rfl) ⟨⟨rfl, rfl⟩, Nat.le_of_ble_eq_true rfl, Nat.le_of_ble_eq_true rfl⟩ dL_law_977) (fun r977 I J H locs h hw => ?_)
  have h : P_X12_seed _ _ _ _ := h
  refine lv_aload_n hx hb dL_law_980 rfl (lv_at hl 2 rfl) ?_
  refine lv_aload_n hx hb dL_law_981 rfl (lv_at hl 0 rfl) ?_
  refine lv_iload_n hx hb dL_law_982 rfl (lv_at hl 3 rfl) ?_
  refine lv_iconst (v := 1) hx hb dL_law_983 (by decide) ?_
  refine lv_iadd hx hb dL_law_984 ?_
  refine va_sld hx hb hX hbl hbA hw.2.2.2.2 v1 dL_law_985 ?_
  refine lv_i2l hx hb dL_law_986 rfl ?_
  refine lv_bipush (v := 32) hx hb dL_law_987 (by decide) ?_
  refine lv_lshl hx hb dL_law_989 rfl ?_
  refine lv_aload_n hx hb dL_law_990 rfl (lv_at hl 0 rfl) ?_
  refine lv_iload_n hx hb dL_law_991 rfl (lv_at hl 3 rfl) ?_
  refine lv_iconst (v := 2) hx hb dL_law_992 (by decide) ?_
  refine lv_iadd hx hb dL_law_993 ?_
  refine va_sld hx hb hX hbl hbA hw.2.2.2.2 v2 dL_law_994 ?_
  refine lv_i2l hx hb dL_law_995 rfl ?_
  refine lv_ldc2 (v := 4294967295) hx hb hown (hts _ q_RL_82) dL_law_996 ?_
  refine lv_land hx hb dL_law_999 ?_
  refine lv_lor hx hb dL_law_1000 ?_
  refine l_clM C hw (l_rM [.long ((((xs (x3 + (1 : Int32)).toNatClampNeg).toInt64) <<< ((32 : Int32).toInt64 &&& 63)) ||| (((xs (x3 + (2 : Int32)).toNatClampNeg).toInt64) &&& (4294967295 : Int64)))] [.long r977] C hw (m_X12_seed h) k_X12_seed q_RL_141 rfl rfl hl.1 rfl (Nat.le_of_ble_eq_true rfl) ⟨⟨rfl, rfl⟩, Nat.le_of_ble_eq_true rfl, Nat.le_of_ble_eq_true rfl⟩ dL_law_1001) (fun r1001 I2 J2 H locs h hw => ?_)
  refine g_lcmp_eq (tgt := 1079) hx hb dL_law_1004 dL_law_1005 (by decide) (fun c1004 => ?_) (fun c1004 => absurd h.1 c1004)
  exact ih h.2 hw hl
set_option maxHeartbeats 4000000 in
set_option maxRecDepth 100000 in
theorem law_29 {Sim : SimT} (h_drawn : st_drawn Sim) (C : lC p s m meth c b L xs ad am ts cy D) {x3 : Int32} (v1 : vp_in (x3 + 1) L) (v2 : vp_in (x3 + 2) L) (v3 : vp_in (x3 + 3) L) (ih : ∀ {I : MI} {J : MJ} {I2 : MI} {J2 : MJ} {H : Heap} {locs : List Loc} {ls : Array Slot}, Sim I J I2 J2 → lH ad am cy D s I J I2 J2 H locs → lv_has ls 4 [(0, .ref b), (1, .ref (ad 0)), (2, .ref (am 0)), (3, .int x3)] → W p l e room_1 s m #[Value.ref b] below meth c H locs 96 83932 (lw_Z below #[Value.ref b] s) (F0 m 1079 ls [])) {I : MI} {J : MJ} {I2 : MI} {J2 : MJ} {H : Heap} {locs : List Loc} {ls : Array Slot} (h : Sim I J I2 J2) (hw : lH ad am cy D s I J I2 J2 H locs) (hl : lv_has ls 4 [(0, .ref b), (1, .ref (ad 0)), (2, .ref (am 0)), (3, .int x3)]) : W p l e room_1 s m #[Value.ref b] below meth c H locs 96 83932 (lw_Z below #[Value.ref b] s) (F0 m 1010 ls []) := by
  obtain ⟨hx, hb, -, -, hown, hts, -, -, -, hX, hbl, -⟩ := id C
  have hbA : ¬ (fun q : Nat => s.heap.size ≤ q) b := Nat.not_le.mpr hbl
  refine lv_aload_n hx hb dL_law_1010 rfl (lv_at hl 1 rfl) ?_
  refine lv_aload_n hx hb dL_law_1011 rfl (lv_at hl 0 rfl) ?_
  refine lv_iload_n hx hb dL_law_1012 rfl (lv_at hl 3 rfl) ?_
  refine lv_iconst (v := 1) hx hb dL_law_1013 (by decide) ?_
  refine lv_iadd hx hb dL_law_1014 ?_
  refine va_sld hx hb hX hbl hbA hw.2.2.2.2 v1 dL_law_1015 ?_
  have h := h_drawn (xs (x3 + (1 : Int32)).toNatClampNeg) _ _ _ _ h
  refine l_ciX C hw (l_rX [.int (xs (x3 + (1 : Int32)).toNatClampNeg)] [] C hw (m_X11_drawn h) k_X11_drawn q_RL_142 rfl rfl hl.1 rfl (Nat.le_of_ble_eq_true rfl) ⟨⟨rfl, rfl⟩, Nat.le_of_ble_eq_true rfl, Nat.le_of_ble_eq_true rfl⟩ dL_law_1016) (fun r1016 I J H locs h hw => ?_)
  have h : P_X12_drawn _ _ _ _ := h
  refine lv_aload_n hx hb dL_law_1019 rfl (lv_at hl 2 rfl) ?_
  refine lv_aload_n hx hb dL_law_1020 rfl (lv_at hl 0 rfl) ?_
  refine lv_iload_n hx hb dL_law_1021 rfl (lv_at hl 3 rfl) ?_
  refine lv_iconst (v := 1) hx hb dL_law_1022 (by decide) ?_
  refine lv_iadd hx hb dL_law_1023 ?_
  refine va_sld hx hb hX hbl hbA hw.2.2.2.2 v1 dL_law_1024 ?_
  refine l_ciM C hw (l_rM [.int (xs (x3 + (1 : Int32)).toNatClampNeg)] [.int r1016] C hw (m_X12_drawn h) k_X12_drawn q_RL_145 rfl rfl hl.1 rfl (Nat.le_of_ble_eq_true rfl) ⟨⟨rfl, rfl⟩, Nat.le_of_ble_eq_true rfl, Nat.le_of_ble_eq_true rfl⟩ dL_law_1025) (fun r1025 I2 J2 H locs h hw => ?_)
  refine lv_icmp_eq (tgt := 1079) hx hb dL_law_1028 (by decide) (fun c1028 => ?_) (fun c1028 => absurd h.1 c1028)
  exact ih h.2 hw hl
set_option maxHeartbeats 4000000 in
set_option maxRecDepth 100000 in
theorem law_30 {Sim : SimT} (h_keep : st_keep Sim) (C : lC p s m meth c b L xs ad am ts cy D) {x3 : Int32} (v1 : vp_in (x3 + 1) L) (v2 : vp_in (x3 + 2) L) (v3 : vp_in (x3 + 3) L) (ih : ∀ {I : MI} {J : MJ} {I2 : MI} {J2 : MJ} {H : Heap} {locs : List Loc} {ls : Array Slot}, Sim I J I2 J2 → lH ad am cy D s I J I2 J2 H locs → lv_has ls 4 [(0, .ref b), (1, .ref (ad 0)), (2, .ref (am 0)), (3, .int x3)] → W p l e room_1 s m #[Value.ref b] below meth c H locs 96 83932 (lw_Z below #[Value.ref b] s) (F0 m 1079 ls [])) {I : MI} {J : MJ} {I2 : MI} {J2 : MJ} {H : Heap} {locs : List Loc} {ls : Array Slot} (h : Sim I J I2 J2) (hw : lH ad am cy D s I J I2 J2 H locs) (hl : lv_has ls 4 [(0, .ref b), (1, .ref (ad 0)), (2, .ref (am 0)), (3, .int x3)]) : W p l e room_1 s m #[Value.ref b] below meth c H locs 96 83932 (lw_Z below #[Value.ref b] s) (F0 m 1033 ls []) := by
  obtain ⟨hx, hb, -, -, hown, hts, -, -, -, hX, hbl, -⟩ := id C
  have hbA : ¬ (fun q : Nat => s.heap.size ≤ q) b := Nat.not_le.mpr hbl
  refine lv_aload_n hx hb dL_law_1033 rfl (lv_at hl 1 rfl) ?_
  refine lv_aload_n hx hb dL_law_1034 rfl (lv_at hl 0 rfl) ?_
  refine lv_iload_n hx hb dL_law_1035 rfl (lv_at hl 3 rfl) ?_
  refine lv_iconst (v := 1) hx hb dL_law_1036 (by decide) ?_
  refine lv_iadd hx hb dL_law_1037 ?_
  refine va_sld hx hb hX hbl hbA hw.2.2.2.2 v1 dL_law_1038 ?_
  have h := h_keep (xs (x3 + (1 : Int32)).toNatClampNeg) _ _ _ _ h
  refine l_ciX C hw (l_rX [.int (xs (x3 + (1 : Int32)).toNatClampNeg)] [] C hw (m_X11_keep h) k_X11_keep q_RL_146 rfl rfl hl.1 rfl (Nat.le_of_ble_eq_true rfl) ⟨⟨rfl, rfl⟩, Nat.le_of_ble_eq_true rfl, Nat.le_of_ble_eq_true rfl⟩ dL_law_1039) (fun r1039 I J H locs h hw => ?_)
  have h : P_X12_keep _ _ _ _ := h
  refine lv_aload_n hx hb dL_law_1042 rfl (lv_at hl 2 rfl) ?_
  refine lv_aload_n hx hb dL_law_1043 rfl (lv_at hl 0 rfl) ?_
  refine lv_iload_n hx hb dL_law_1044 rfl (lv_at hl 3 rfl) ?_
  refine lv_iconst (v := 1) hx hb dL_law_1045 (by decide) ?_
  refine lv_iadd hx hb dL_law_1046 ?_
  refine va_sld hx hb hX hbl hbA hw.2.2.2.2 v1 dL_law_1047 ?_
  refine l_ciM C hw (l_rM [.int (xs (x3 + (1 : Int32)).toNatClampNeg)] [.int r1039] C hw (m_X12_keep h) k_X12_keep q_RL_149 rfl rfl hl.1 rfl (Nat.le_of_ble_eq_true rfl) ⟨⟨rfl, rfl⟩, Nat.le_of_ble_eq_true rfl, Nat.le_of_ble_eq_true rfl⟩ dL_law_1048) (fun r1048 I2 J2 H locs h hw => ?_)
  refine lv_icmp_eq (tgt := 1079) hx hb dL_law_1051 (by decide) (fun c1051 => ?_) (fun c1051 => absurd h.1 c1051)
  exact ih h.2 hw hl
set_option maxHeartbeats 4000000 in
set_option maxRecDepth 100000 in
theorem law_31 {Sim : SimT} (h_again : st_again Sim) (C : lC p s m meth c b L xs ad am ts cy D) {x3 : Int32} (v1 : vp_in (x3 + 1) L) (v2 : vp_in (x3 + 2) L) (v3 : vp_in (x3 + 3) L) (ih : ∀ {I : MI} {J : MJ} {I2 : MI} {J2 : MJ} {H : Heap} {locs : List Loc} {ls : Array Slot}, Sim I J I2 J2 → lH ad am cy D s I J I2 J2 H locs → lv_has ls 4 [(0, .ref b), (1, .ref (ad 0)), (2, .ref (am 0)), (3, .int x3)] → W p l e room_1 s m #[Value.ref b] below meth c H locs 96 83932 (lw_Z below #[Value.ref b] s) (F0 m 1079 ls [])) {I : MI} {J : MJ} {I2 : MI} {J2 : MJ} {H : Heap} {locs : List Loc} {ls : Array Slot} (h : Sim I J I2 J2) (hw : lH ad am cy D s I J I2 J2 H locs) (hl : lv_has ls 4 [(0, .ref b), (1, .ref (ad 0)), (2, .ref (am 0)), (3, .int x3)]) : W p l e room_1 s m #[Value.ref b] below meth c H locs 96 83932 (lw_Z below #[Value.ref b] s) (F0 m 1056 ls []) := by
  obtain ⟨hx, hb, -, -, hown, hts, -, -, -, hX, hbl, -⟩ := id C
  have hbA : ¬ (fun q : Nat => s.heap.size ≤ q) b := Nat.not_le.mpr hbl
  refine lv_aload_n hx hb dL_law_1056 rfl (lv_at hl 1 rfl) ?_
  refine lv_aload_n hx hb dL_law_1057 rfl (lv_at hl 0 rfl) ?_
  refine lv_iload_n hx hb dL_law_1058 rfl (lv_at hl 3 rfl) ?_
  refine lv_iconst (v := 1) hx hb dL_law_1059 (by decide) ?_
  refine lv_iadd hx hb dL_law_1060 ?_
  refine va_sld hx hb hX hbl hbA hw.2.2.2.2 v1 dL_law_1061 ?_
  have h := h_again (xs (x3 + (1 : Int32)).toNatClampNeg) _ _ _ _ h
  refine l_ciX C hw (l_rX [.int (xs (x3 + (1 : Int32)).toNatClampNeg)] [] C hw (m_X11_again h) k_X11_again q_RL_150 rfl rfl hl.1 rfl (Nat.le_of_ble_eq_true rfl) ⟨⟨rfl, rfl⟩, Nat.le_of_ble_eq_true rfl, Nat.le_of_ble_eq_true rfl⟩ dL_law_1062) (fun r1062 I J H locs h hw => ?_)
  have h : P_X12_again _ _ _ _ := h
  refine lv_aload_n hx hb dL_law_1065 rfl (lv_at hl 2 rfl) ?_
  refine lv_aload_n hx hb dL_law_1066 rfl (lv_at hl 0 rfl) ?_
  refine lv_iload_n hx hb dL_law_1067 rfl (lv_at hl 3 rfl) ?_
  refine lv_iconst (v := 1) hx hb dL_law_1068 (by decide) ?_
  refine lv_iadd hx hb dL_law_1069 ?_
  refine va_sld hx hb hX hbl hbA hw.2.2.2.2 v1 dL_law_1070 ?_
  refine l_ciM C hw (l_rM [.int (xs (x3 + (1 : Int32)).toNatClampNeg)] [.int r1062] C hw (m_X12_again h) k_X12_again q_RL_153 rfl rfl hl.1 rfl (Nat.le_of_ble_eq_true rfl) ⟨⟨rfl, rfl⟩, Nat.le_of_ble_eq_true rfl, Nat.le_of_ble_eq_true rfl⟩ dL_law_1071) (fun r1071 I2 J2 H locs h hw => ?_)
  refine lv_icmp_eq (tgt := 1079) hx hb dL_law_1074 (by decide) (fun c1074 => ?_) (fun c1074 => absurd h.1 c1074)
  exact ih h.2 hw hl
set_option maxHeartbeats 4000000 in
set_option maxRecDepth 100000 in
/-- THE LAW'S LOOP -/
theorem law_loop {Sim : SimT} (h_write : st_write Sim) (h_wipe : st_wipe Sim) (h_fault : st_fault Sim) (h_house : st_house Sim) (h_about : st_about Sim) (h_word : st_word Sim) (h_letter : st_letter Sim) (h_put : st_put Sim) (h_take : st_take Sim) (h_bar : st_bar Sim) (h_rank : st_rank Sim) (h_allow : st_allow Sim) (h_undo : st_undo Sim) (h_many : st_many Sim) (h_having : st_having Sim) (h_best : st_best Sim) (h_phrase : st_phrase Sim) (h_tell : st_tell Sim) (h_clear : st_clear Sim) (h_why : st_why Sim) (h_number : st_number Sim) (h_nearly : st_nearly Sim) (h_judge : st_judge Sim) (h_see : st_see Sim) (h_unsee : st_unsee Sim) (h_left : st_left Sim) (h_share : st_share Sim) (h_hope : st_hope Sim) (h_seed : st_seed Sim) (h_drawn : st_drawn Sim) (h_keep : st_keep Sim) (h_again : st_again Sim) (hL : L ≤ 2048) (C : lC p s m meth c b L xs ad am ts cy D) :
    ∀ (n j : Nat) (x3 : Int32), L < j + n → j ≤ 4096 → x3 = nI j → ∀ {I : MI} {J : MJ} {I2 : MI} {J2 : MJ} {H : Heap} {locs : List Loc} {ls : Array Slot}, Sim I J I2 J2 → lH ad am cy D s I J I2 J2 H locs → lv_has ls 4 [(0, .ref b), (1, .ref (ad 0)), (2, .ref (am 0)), (3, .int x3)] → W p l e room_1 s m #[Value.ref b] below meth c H locs 96 83932 (lw_Z below #[Value.ref b] s) (F0 m 18 ls []) := by
  obtain ⟨hx, hb, hr, -, hown, hts, hlocks, -, -, hX, hbl, -⟩ := id C
  have hbA : ¬ (fun q : Nat => s.heap.size ≤ q) b := Nat.not_le.mpr hbl
  have hexit : ∀ {x3 : Int32} {I : MI} {J : MJ} {I2 : MI} {J2 : MJ} {H : Heap} {locs : List Loc} {ls : Array Slot}, lH ad am cy D s I J I2 J2 H locs → lv_has ls 4 [(0, .ref b), (1, .ref (ad 0)), (2, .ref (am 0)), (3, .int x3)] → W p l e room_1 s m #[Value.ref b] below meth c H locs 96 83932 (lw_Z below #[Value.ref b] s) (F0 m 1085 ls []) := by
    intro x3 I J I2 J2 H locs ls hw hl
    refine lv_iconst (v := 1) hx hb dL_law_1085 (by decide) ?_
    refine va_forget (fun q hq => hw.2.2.2.2.2.2 q hq) ?_
    exact lw_ret hx hb hr hlocks dL_law_1086
  intro n
  induction n with
  | zero =>
    intro j x3 h1 h2 ex I J I2 J2 H locs ls h hw hl
    refine lv_iload_n hx hb dL_law_18 rfl (lv_at hl 3 rfl) ?_
    refine lv_aload_n hx hb dL_law_19 rfl (lv_at hl 0 rfl) ?_
    refine va_slen hx hb hX hbl hbA hw.2.2.2.2 dL_law_20 ?_
    refine lv_iconst (v := 4) hx hb dL_law_21 (by decide) ?_
    refine lv_isub hx hb dL_law_22 ?_
    refine lv_icmp_gt (tgt := 1085) hx hb dL_law_23 (by decide) (fun c23 => ?_) (fun c23 => ?_)
    · exact hexit hw hl
    · exact absurd (law_gt ex (by omega) h2 hL) c23
  | succ n ih =>
    intro j x3 h1 h2 ex I J I2 J2 H locs ls h hw hl
    refine lv_iload_n hx hb dL_law_18 rfl (lv_at hl 3 rfl) ?_
    refine lv_aload_n hx hb dL_law_19 rfl (lv_at hl 0 rfl) ?_
    refine va_slen hx hb hX hbl hbA hw.2.2.2.2 dL_law_20 ?_
    refine lv_iconst (v := 4) hx hb dL_law_21 (by decide) ?_
    refine lv_isub hx hb dL_law_22 ?_
    refine lv_icmp_gt (tgt := 1085) hx hb dL_law_23 (by decide) (fun c23 => ?_) (fun c23 => ?_)
    · exact hexit hw hl
    · have hj : j + 4 ≤ L := by
        rcases Nat.lt_or_ge L (j + 4) with q | q
        · exact absurd (law_gt ex q h2 hL) c23
        · exact q
      have v0 : vp_in x3 L := by rw [ex]; exact vp_in_nI (by omega) (by omega)
      have v1 : vp_in (x3 + 1) L := by rw [ex, nI_1]; exact vp_in_nI (by omega) (by omega)
      have v2 : vp_in (x3 + 2) L := by rw [ex, show (2 : Int32) = nI 2 from by decide, nI_add]; exact vp_in_nI (by omega) (by omega)
      have v3 : vp_in (x3 + 3) L := by rw [ex, show (3 : Int32) = nI 3 from by decide, nI_add]; exact vp_in_nI (by omega) (by omega)
      have ih2 : ∀ {I : MI} {J : MJ} {I2 : MI} {J2 : MJ} {H : Heap} {locs : List Loc} {ls : Array Slot}, Sim I J I2 J2 → lH ad am cy D s I J I2 J2 H locs → lv_has ls 4 [(0, .ref b), (1, .ref (ad 0)), (2, .ref (am 0)), (3, .int x3)] → W p l e room_1 s m #[Value.ref b] below meth c H locs 96 83932 (lw_Z below #[Value.ref b] s) (F0 m 1079 ls []) := by
        intro I J I2 J2 H locs ls h hw hl
        refine lv_iinc (v := x3 + 4) (lv' := [(3, .int (x3 + 4)), (0, .ref b), (1, .ref (ad 0)), (2, .ref (am 0))]) hx hb dL_law_1079 hl (k := 3) rfl rfl (by decide) rfl (fun ls hl => ?_)
        refine lv_goto (tgt := 18) hx hb dL_law_1082 (by decide) ?_
        exact ih (j + 4) (x3 + 4) (by omega) (by omega) (by rw [ex, show (4 : Int32) = nI 4 from by decide, nI_add]) h hw (lv_sub hl [1, 2, 3, 0] rfl)
      refine lv_aload_n hx hb dL_law_26 rfl (lv_at hl 0 rfl) ?_
      refine lv_iload_n hx hb dL_law_27 rfl (lv_at hl 3 rfl) ?_
      refine va_sld hx hb hX hbl hbA hw.2.2.2.2 v0 dL_law_28 ?_
      refine lv_bipush (v := 31) hx hb dL_law_29 (by decide) ?_
      refine lv_iand hx hb dL_law_31 ?_
      rcases Classical.em ((xs x3.toNatClampNeg &&& 31) = 0) with c32 | c100
      · refine lv_tableIn (off := 144) (tgt := 176) hx hb dL_law_32 (by rw [c32]; decide) (by rw [c32]; decide) (by rw [c32]; rfl) (by decide) ?_
        exact law_0 h_write C v1 v2 v3 ih2 h hw hl
      rcases Classical.em ((xs x3.toNatClampNeg &&& 31) = 1) with c32 | c101
      · refine lv_tableIn (off := 167) (tgt := 199) hx hb dL_law_32 (by rw [c32]; decide) (by rw [c32]; decide) (by rw [c32]; rfl) (by decide) ?_
        exact law_1 h_wipe C v1 v2 v3 ih2 h hw hl
      rcases Classical.em ((xs x3.toNatClampNeg &&& 31) = 2) with c32 | c102
      · refine lv_tableIn (off := 180) (tgt := 212) hx hb dL_law_32 (by rw [c32]; decide) (by rw [c32]; decide) (by rw [c32]; rfl) (by decide) ?_
        exact law_2 h_fault C v1 v2 v3 ih2 h hw hl
      rcases Classical.em ((xs x3.toNatClampNeg &&& 31) = 3) with c32 | c103
      · refine lv_tableIn (off := 193) (tgt := 225) hx hb dL_law_32 (by rw [c32]; decide) (by rw [c32]; decide) (by rw [c32]; rfl) (by decide) ?_
        exact law_3 h_house C v1 v2 v3 ih2 h hw hl
      rcases Classical.em ((xs x3.toNatClampNeg &&& 31) = 4) with c32 | c104
      · refine lv_tableIn (off := 206) (tgt := 238) hx hb dL_law_32 (by rw [c32]; decide) (by rw [c32]; decide) (by rw [c32]; rfl) (by decide) ?_
        exact law_4 h_about C v1 v2 v3 ih2 h hw hl
      rcases Classical.em ((xs x3.toNatClampNeg &&& 31) = 5) with c32 | c105
      · refine lv_tableIn (off := 229) (tgt := 261) hx hb dL_law_32 (by rw [c32]; decide) (by rw [c32]; decide) (by rw [c32]; rfl) (by decide) ?_
        exact law_5 h_word C v1 v2 v3 ih2 h hw hl
      rcases Classical.em ((xs x3.toNatClampNeg &&& 31) = 6) with c32 | c106
      · refine lv_tableIn (off := 262) (tgt := 294) hx hb dL_law_32 (by rw [c32]; decide) (by rw [c32]; decide) (by rw [c32]; rfl) (by decide) ?_
        exact law_6 h_letter C v1 v2 v3 ih2 h hw hl
      rcases Classical.em ((xs x3.toNatClampNeg &&& 31) = 7) with c32 | c107
      · refine lv_tableIn (off := 295) (tgt := 327) hx hb dL_law_32 (by rw [c32]; decide) (by rw [c32]; decide) (by rw [c32]; rfl) (by decide) ?_
        exact law_7 h_put C v1 v2 v3 ih2 h hw hl
      rcases Classical.em ((xs x3.toNatClampNeg &&& 31) = 8) with c32 | c108
      · refine lv_tableIn (off := 318) (tgt := 350) hx hb dL_law_32 (by rw [c32]; decide) (by rw [c32]; decide) (by rw [c32]; rfl) (by decide) ?_
        exact law_8 h_take C v1 v2 v3 ih2 h hw hl
      rcases Classical.em ((xs x3.toNatClampNeg &&& 31) = 9) with c32 | c109
      · refine lv_tableIn (off := 341) (tgt := 373) hx hb dL_law_32 (by rw [c32]; decide) (by rw [c32]; decide) (by rw [c32]; rfl) (by decide) ?_
        exact law_9 h_bar C v1 v2 v3 ih2 h hw hl
      rcases Classical.em ((xs x3.toNatClampNeg &&& 31) = 10) with c32 | c110
      · refine lv_tableIn (off := 364) (tgt := 396) hx hb dL_law_32 (by rw [c32]; decide) (by rw [c32]; decide) (by rw [c32]; rfl) (by decide) ?_
        exact law_10 h_rank C v1 v2 v3 ih2 h hw hl
      rcases Classical.em ((xs x3.toNatClampNeg &&& 31) = 11) with c32 | c111
      · refine lv_tableIn (off := 397) (tgt := 429) hx hb dL_law_32 (by rw [c32]; decide) (by rw [c32]; decide) (by rw [c32]; rfl) (by decide) ?_
        exact law_11 h_allow C v1 v2 v3 ih2 h hw hl
      rcases Classical.em ((xs x3.toNatClampNeg &&& 31) = 12) with c32 | c112
      · refine lv_tableIn (off := 440) (tgt := 472) hx hb dL_law_32 (by rw [c32]; decide) (by rw [c32]; decide) (by rw [c32]; rfl) (by decide) ?_
        exact law_12 h_undo C v1 v2 v3 ih2 h hw hl
      rcases Classical.em ((xs x3.toNatClampNeg &&& 31) = 13) with c32 | c113
      · refine lv_tableIn (off := 453) (tgt := 485) hx hb dL_law_32 (by rw [c32]; decide) (by rw [c32]; decide) (by rw [c32]; rfl) (by decide) ?_
        exact law_13 h_many C v1 v2 v3 ih2 h hw hl
      rcases Classical.em ((xs x3.toNatClampNeg &&& 31) = 14) with c32 | c114
      · refine lv_tableIn (off := 477) (tgt := 509) hx hb dL_law_32 (by rw [c32]; decide) (by rw [c32]; decide) (by rw [c32]; rfl) (by decide) ?_
        exact law_14 h_having C v1 v2 v3 ih2 h hw hl
      rcases Classical.em ((xs x3.toNatClampNeg &&& 31) = 15) with c32 | c115
      · refine lv_tableIn (off := 501) (tgt := 533) hx hb dL_law_32 (by rw [c32]; decide) (by rw [c32]; decide) (by rw [c32]; rfl) (by decide) ?_
        exact law_15 h_best C v1 v2 v3 ih2 h hw hl
      rcases Classical.em ((xs x3.toNatClampNeg &&& 31) = 16) with c32 | c116
      · refine lv_tableIn (off := 524) (tgt := 556) hx hb dL_law_32 (by rw [c32]; decide) (by rw [c32]; decide) (by rw [c32]; rfl) (by decide) ?_
        exact law_16 h_phrase C v1 v2 v3 ih2 h hw hl
      rcases Classical.em ((xs x3.toNatClampNeg &&& 31) = 17) with c32 | c117
      · refine lv_tableIn (off := 587) (tgt := 619) hx hb dL_law_32 (by rw [c32]; decide) (by rw [c32]; decide) (by rw [c32]; rfl) (by decide) ?_
        exact law_17 h_tell C v1 v2 v3 ih2 h hw hl
      rcases Classical.em ((xs x3.toNatClampNeg &&& 31) = 18) with c32 | c118
      · refine lv_tableIn (off := 610) (tgt := 642) hx hb dL_law_32 (by rw [c32]; decide) (by rw [c32]; decide) (by rw [c32]; rfl) (by decide) ?_
        exact law_18 h_clear C v1 v2 v3 ih2 h hw hl
      rcases Classical.em ((xs x3.toNatClampNeg &&& 31) = 19) with c32 | c119
      · refine lv_tableIn (off := 623) (tgt := 655) hx hb dL_law_32 (by rw [c32]; decide) (by rw [c32]; decide) (by rw [c32]; rfl) (by decide) ?_
        exact law_19 h_why C v1 v2 v3 ih2 h hw hl
      rcases Classical.em ((xs x3.toNatClampNeg &&& 31) = 20) with c32 | c120
      · refine lv_tableIn (off := 646) (tgt := 678) hx hb dL_law_32 (by rw [c32]; decide) (by rw [c32]; decide) (by rw [c32]; rfl) (by decide) ?_
        exact law_20 h_number C v1 v2 v3 ih2 h hw hl
      rcases Classical.em ((xs x3.toNatClampNeg &&& 31) = 21) with c32 | c121
      · refine lv_tableIn (off := 660) (tgt := 692) hx hb dL_law_32 (by rw [c32]; decide) (by rw [c32]; decide) (by rw [c32]; rfl) (by decide) ?_
        exact law_21 h_nearly C v1 v2 v3 ih2 h hw hl
      rcases Classical.em ((xs x3.toNatClampNeg &&& 31) = 22) with c32 | c122
      · refine lv_tableIn (off := 683) (tgt := 715) hx hb dL_law_32 (by rw [c32]; decide) (by rw [c32]; decide) (by rw [c32]; rfl) (by decide) ?_
        exact law_22 h_judge C v1 v2 v3 ih2 h hw hl
      rcases Classical.em ((xs x3.toNatClampNeg &&& 31) = 23) with c32 | c123
      · refine lv_tableIn (off := 746) (tgt := 778) hx hb dL_law_32 (by rw [c32]; decide) (by rw [c32]; decide) (by rw [c32]; rfl) (by decide) ?_
        exact law_23 h_see C v1 v2 v3 ih2 h hw hl
      rcases Classical.em ((xs x3.toNatClampNeg &&& 31) = 24) with c32 | c124
      · refine lv_tableIn (off := 789) (tgt := 821) hx hb dL_law_32 (by rw [c32]; decide) (by rw [c32]; decide) (by rw [c32]; rfl) (by decide) ?_
        exact law_24 h_unsee C v1 v2 v3 ih2 h hw hl
      rcases Classical.em ((xs x3.toNatClampNeg &&& 31) = 25) with c32 | c125
      · refine lv_tableIn (off := 802) (tgt := 834) hx hb dL_law_32 (by rw [c32]; decide) (by rw [c32]; decide) (by rw [c32]; rfl) (by decide) ?_
        exact law_25 h_left C v1 v2 v3 ih2 h hw hl
      rcases Classical.em ((xs x3.toNatClampNeg &&& 31) = 26) with c32 | c126
      · refine lv_tableIn (off := 825) (tgt := 857) hx hb dL_law_32 (by rw [c32]; decide) (by rw [c32]; decide) (by rw [c32]; rfl) (by decide) ?_
        exact law_26 h_share C v1 v2 v3 ih2 h hw hl
      rcases Classical.em ((xs x3.toNatClampNeg &&& 31) = 27) with c32 | c127
      · refine lv_tableIn (off := 875) (tgt := 907) hx hb dL_law_32 (by rw [c32]; decide) (by rw [c32]; decide) (by rw [c32]; rfl) (by decide) ?_
        exact law_27 h_hope C v1 v2 v3 ih2 h hw hl
      rcases Classical.em ((xs x3.toNatClampNeg &&& 31) = 28) with c32 | c128
      · refine lv_tableIn (off := 924) (tgt := 956) hx hb dL_law_32 (by rw [c32]; decide) (by rw [c32]; decide) (by rw [c32]; rfl) (by decide) ?_
        exact law_28 h_seed C v1 v2 v3 ih2 h hw hl
      rcases Classical.em ((xs x3.toNatClampNeg &&& 31) = 29) with c32 | c129
      · refine lv_tableIn (off := 978) (tgt := 1010) hx hb dL_law_32 (by rw [c32]; decide) (by rw [c32]; decide) (by rw [c32]; rfl) (by decide) ?_
        exact law_29 h_drawn C v1 v2 v3 ih2 h hw hl
      rcases Classical.em ((xs x3.toNatClampNeg &&& 31) = 30) with c32 | c130
      · refine lv_tableIn (off := 1001) (tgt := 1033) hx hb dL_law_32 (by rw [c32]; decide) (by rw [c32]; decide) (by rw [c32]; rfl) (by decide) ?_
        exact law_30 h_keep C v1 v2 v3 ih2 h hw hl
      rcases Classical.em ((xs x3.toNatClampNeg &&& 31) = 31) with c32 | c131
      · refine lv_tableIn (off := 1024) (tgt := 1056) hx hb dL_law_32 (by rw [c32]; decide) (by rw [c32]; decide) (by rw [c32]; rfl) (by decide) ?_
        exact law_31 h_again C v1 v2 v3 ih2 h hw hl
      refine lv_tableOut (tgt := 1079) hx hb dL_law_32 (by have hs0 := toInt_ne c100 (show (0 : Int32).toInt = 0 from by decide); have hs1 := toInt_ne c101 (show (1 : Int32).toInt = 1 from by decide); have hs2 := toInt_ne c102 (show (2 : Int32).toInt = 2 from by decide); have hs3 := toInt_ne c103 (show (3 : Int32).toInt = 3 from by decide); have hs4 := toInt_ne c104 (show (4 : Int32).toInt = 4 from by decide); have hs5 := toInt_ne c105 (show (5 : Int32).toInt = 5 from by decide); have hs6 := toInt_ne c106 (show (6 : Int32).toInt = 6 from by decide); have hs7 := toInt_ne c107 (show (7 : Int32).toInt = 7 from by decide); have hs8 := toInt_ne c108 (show (8 : Int32).toInt = 8 from by decide); have hs9 := toInt_ne c109 (show (9 : Int32).toInt = 9 from by decide); have hs10 := toInt_ne c110 (show (10 : Int32).toInt = 10 from by decide); have hs11 := toInt_ne c111 (show (11 : Int32).toInt = 11 from by decide); have hs12 := toInt_ne c112 (show (12 : Int32).toInt = 12 from by decide); have hs13 := toInt_ne c113 (show (13 : Int32).toInt = 13 from by decide); have hs14 := toInt_ne c114 (show (14 : Int32).toInt = 14 from by decide); have hs15 := toInt_ne c115 (show (15 : Int32).toInt = 15 from by decide); have hs16 := toInt_ne c116 (show (16 : Int32).toInt = 16 from by decide); have hs17 := toInt_ne c117 (show (17 : Int32).toInt = 17 from by decide); have hs18 := toInt_ne c118 (show (18 : Int32).toInt = 18 from by decide); have hs19 := toInt_ne c119 (show (19 : Int32).toInt = 19 from by decide); have hs20 := toInt_ne c120 (show (20 : Int32).toInt = 20 from by decide); have hs21 := toInt_ne c121 (show (21 : Int32).toInt = 21 from by decide); have hs22 := toInt_ne c122 (show (22 : Int32).toInt = 22 from by decide); have hs23 := toInt_ne c123 (show (23 : Int32).toInt = 23 from by decide); have hs24 := toInt_ne c124 (show (24 : Int32).toInt = 24 from by decide); have hs25 := toInt_ne c125 (show (25 : Int32).toInt = 25 from by decide); have hs26 := toInt_ne c126 (show (26 : Int32).toInt = 26 from by decide); have hs27 := toInt_ne c127 (show (27 : Int32).toInt = 27 from by decide); have hs28 := toInt_ne c128 (show (28 : Int32).toInt = 28 from by decide); have hs29 := toInt_ne c129 (show (29 : Int32).toInt = 29 from by decide); have hs30 := toInt_ne c130 (show (30 : Int32).toInt = 30 from by decide); have hs31 := toInt_ne c131 (show (31 : Int32).toInt = 31 from by decide); omega) (by decide) ?_
      exact ih2 h hw hl
end
