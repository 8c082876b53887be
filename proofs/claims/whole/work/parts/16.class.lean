section
variable {p : Program} {l : Launch} {e : Env} {s : State} {m : MethodId} {args : Array Value} {below : List Frame} {meth : Method} {c : Code} {ad : Nat → Nat} {cy : Nat → ClassId} {D : va_G} {ts : Nat → Nat}
/-! BagPhrases.left(I)I -/
def P_X11_left_73 (Q : Int32 → MI → MJ → Prop) (kL37 : Int32 × Int64 × Int32 × Int32 × MI × MJ → Prop) (x1 : Int32) (x2 : Int64) (x4 : Int32) (x5 : Int32) (I : MI) (J : MJ) : Prop :=
  kL37 (x1, x2, x4, (x5 + 1), I, J)
def P_X11_left_37 (Q : Int32 → MI → MJ → Prop) (kL37 : Int32 × Int64 × Int32 × Int32 × MI × MJ → Prop) : Int32 × Int64 × Int32 × Int32 × MI × MJ → Prop := fun z => match z with
  | (x1, x2, x4, x5, I, J) => ((x2 ≤ x5.toInt64 → ((¬ x1 = 0 → Q (-9 : Int32) I J) ∧ (x1 = 0 → Q x4 I J))) ∧ (¬ x2 ≤ x5.toInt64 → P_X6_findNumbered x5.toInt64 I J (fun I52 J52 => P_X11_foundAgrees I52 J52 (fun r56 I56 J56 => ((r56 = 0 → P_X11_left_73 Q kL37 x1 x2 x4 x5 I56 J56) ∧ (¬ r56 = 0 → ((¬ x1 = (1 : Int32) → P_X11_left_73 Q kL37 x1 x2 (x4 + 1) x5 I56 J56) ∧ (x1 = (1 : Int32) → Q x5 I56 J56))))))))
def P_X11_left (a0 : Int32) (I : MI) (J : MJ) (Q : Int32 → MI → MJ → Prop) : Prop :=
  ((a0 < 0 → Q (-2 : Int32) I J) ∧ (¬ a0 < 0 → ((a0 ≤ (1 : Int32) → P_X6_count I J (fun r16 I16 J16 => ((r16 ≤ (2000 : Int64) → lpx (P_X11_left_37 Q) (a0, r16, (0 : Int32), (0 : Int32), I16, J16)) ∧ (¬ r16 ≤ (2000 : Int64) → Q (-3 : Int32) I16 J16)))) ∧ (¬ a0 ≤ (1 : Int32) → Q (-2 : Int32) I J))))
abbrev rmX11_left : Room := { frames := 6, cells := 0, slots := 0, locals := 165 }
set_option maxHeartbeats 4000000 in
set_option maxRecDepth 100000 in
theorem w_X11_left_73 {Q : Int32 → MI → MJ → Prop} (C : gC RX11 cX11_left 6 (some .int) 66 ad cy D (xF ad ts) p s m args meth c) {kL37 : Int32 × Int64 × Int32 × Int32 × MI × MJ → Prop} (hL37 : ∀ {x1 : Int32} {x2 : Int64} {x4 : Int32} {x5 : Int32} {I : MI} {J : MJ} {H : Heap} {locs : List Loc} {ls : Array Slot}, kL37 (x1, x2, x4, x5, I, J) → gH (xS ad cy) 66 ad D s I J H locs → lv_has ls 6 [(0, .ref (ad 0)), (1, .int x1), (2, .long x2), (4, .int x4), (5, .int x5)] → W p l e rmX11_left s m args below meth c H locs 0 0 (MQ below (gQi (xS ad cy) 66 ad cy D (xF ad ts) Q) args s 0 0 (gA 66 ad)) (F0 m 37 ls [])) {x1 : Int32} {x2 : Int64} {x4 : Int32} {x5 : Int32} {I : MI} {J : MJ} {H : Heap} {locs : List Loc} {ls : Array Slot} (h : P_X11_left_73 Q kL37 x1 x2 x4 x5 I J) (hw : gH (xS ad cy) 66 ad D s I J H locs) (hl : lv_has ls 6 [(0, .ref (ad 0)), (1, .int x1), (2, .long x2), (4, .int x4), (5, .int x5)]) : W p l e rmX11_left s m args below meth c H locs 0 0 (MQ below (gQi (xS ad cy) 66 ad cy D (xF ad ts) Q) args s 0 0 (gA 66 ad)) (F0 m 73 ls []) := by
  obtain ⟨hx, hb, hC⟩ := id C
  refine lv_iinc (v := x5 + 1) (lv' := [(5, .int (x5 + 1)), (0, .ref (ad 0)), (1, .int x1), (2, .long x2), (4, .int x4)]) hx hb dX11_left_73 hl (k := 4) rfl rfl (by decide) rfl (fun ls hl => ?_)
  refine lv_goto (tgt := 37) hx hb dX11_left_76 (by decide) ?_
  exact hL37 h hw (lv_sub hl [1, 2, 3, 4, 0] rfl)
set_option maxHeartbeats 4000000 in
set_option maxRecDepth 100000 in
theorem w_X11_left_37 {Q : Int32 → MI → MJ → Prop} (C : gC RX11 cX11_left 6 (some .int) 66 ad cy D (xF ad ts) p s m args meth c) {kL37 : Int32 × Int64 × Int32 × Int32 × MI × MJ → Prop} (hL37 : ∀ {x1 : Int32} {x2 : Int64} {x4 : Int32} {x5 : Int32} {I : MI} {J : MJ} {H : Heap} {locs : List Loc} {ls : Array Slot}, kL37 (x1, x2, x4, x5, I, J) → gH (xS ad cy) 66 ad D s I J H locs → lv_has ls 6 [(0, .ref (ad 0)), (1, .int x1), (2, .long x2), (4, .int x4), (5, .int x5)] → W p l e rmX11_left s m args below meth c H locs 0 0 (MQ below (gQi (xS ad cy) 66 ad cy D (xF ad ts) Q) args s 0 0 (gA 66 ad)) (F0 m 37 ls [])) {x1 : Int32} {x2 : Int64} {x4 : Int32} {x5 : Int32} {I : MI} {J : MJ} {H : Heap} {locs : List Loc} {ls : Array Slot} (h : P_X11_left_37 Q kL37 (x1, x2, x4, x5, I, J)) (hw : gH (xS ad cy) 66 ad D s I J H locs) (hl : lv_has ls 6 [(0, .ref (ad 0)), (1, .int x1), (2, .long x2), (4, .int x4), (5, .int x5)]) : W p l e rmX11_left s m args below meth c H locs 0 0 (MQ below (gQi (xS ad cy) 66 ad cy D (xF ad ts) Q) args s 0 0 (gA 66 ad)) (F0 m 37 ls []) := by
  obtain ⟨hx, hb, hC⟩ := id C
  refine lv_iload hx hb dX11_left_37 (lv_at hl 4 rfl) ?_
  refine lv_i2l hx hb dX11_left_39 rfl ?_
  refine lv_lload_n hx hb dX11_left_40 rfl (lv_at hl 2 rfl) ?_
  refine g_lcmp_ge (tgt := 79) hx hb dX11_left_41 dX11_left_42 (by decide) (fun c41 => ?_) (fun c41 => ?_)
  · have h := h.1 c41
    refine lv_iload_n hx hb dX11_left_79 rfl (lv_at hl 1 rfl) ?_
    refine lv_if_ne (tgt := 88) hx hb dX11_left_80 (by decide) (fun c80 => ?_) (fun c80 => ?_)
    · have h := h.1 c80
      refine lv_bipush (v := -9) hx hb dX11_left_88 (by decide) ?_
      exact g_iret C hw h dX11_left_90
    · have h := h.2 c80
      refine lv_iload hx hb dX11_left_83 (lv_at hl 3 rfl) ?_
      refine lv_goto (tgt := 90) hx hb dX11_left_85 (by decide) ?_
      exact g_iret C hw h dX11_left_90
  · have h := h.2 c41
    refine lv_aload_n hx hb dX11_left_45 rfl (lv_at hl 0 rfl) ?_
    refine g_get C hw f_RX11_53 xl_0 (xs_0 _ _) rfl dX11_left_46 ?_
    refine lv_iload hx hb dX11_left_49 (lv_at hl 4 rfl) ?_
    refine lv_i2l hx hb dX11_left_51 rfl ?_
    refine g_cv hw (g_rV [.long x5.toInt64] [] C hw (m_X6_findNumbered h) k_X6_findNumbered q_RX11_227 xl_39 (xs_39 _ _) rfl rfl hl.1 rfl (Nat.le_of_ble_eq_true rfl) ⟨⟨rfl, rfl⟩, Nat.le_of_ble_eq_true rfl, Nat.le_of_ble_eq_true rfl⟩ ⟨Nat.zero_le _, Nat.zero_le _⟩ dX11_left_52) (fun I52 J52 H locs h hw => ?_)
    refine lv_aload_n hx hb dX11_left_55 rfl (lv_at hl 0 rfl) ?_
    refine g_cz hw (g_rV [] [] C hw (m_X11_foundAgrees h) k_X11_foundAgrees q_RX11_251 xl_0 (xs_0 _ _) rfl rfl hl.1 rfl (Nat.le_of_ble_eq_true rfl) ⟨⟨rfl, rfl⟩, Nat.le_of_ble_eq_true rfl, Nat.le_of_ble_eq_true rfl⟩ ⟨Nat.zero_le _, Nat.zero_le _⟩ dX11_left_56) (fun r56 I56 J56 H locs z56 h hw => ?_)
    refine lv_if_eq (tgt := 73) hx hb dX11_left_59 (by decide) (fun c59 => ?_) (fun c59 => ?_)
    · have h := h.1 c59
      exact w_X11_left_73 C hL37 h hw (lv_sub hl [0, 1, 2, 3, 4] rfl)
    · have h := h.2 c59
      refine lv_iload_n hx hb dX11_left_62 rfl (lv_at hl 1 rfl) ?_
      refine lv_iconst (v := 1) hx hb dX11_left_63 (by decide) ?_
      refine lv_icmp_ne (tgt := 70) hx hb dX11_left_64 (by decide) (fun c64 => ?_) (fun c64 => ?_)
      · have h := h.1 c64
        refine lv_iinc (v := x4 + 1) (lv' := [(4, .int (x4 + 1)), (0, .ref (ad 0)), (1, .int x1), (2, .long x2), (5, .int x5)]) hx hb dX11_left_70 hl (k := 3) rfl rfl (by decide) rfl (fun ls hl => ?_)
        exact w_X11_left_73 C hL37 h hw (lv_sub hl [1, 2, 3, 0, 4] rfl)
      · have h := h.2 c64
        refine lv_iload hx hb dX11_left_67 (lv_at hl 4 rfl) ?_
        exact g_iret C hw h dX11_left_69
theorem wl_X11_left_37 {Q : Int32 → MI → MJ → Prop} (C : gC RX11 cX11_left 6 (some .int) 66 ad cy D (xF ad ts) p s m args meth c) {x1 : Int32} {x2 : Int64} {x4 : Int32} {x5 : Int32} {I : MI} {J : MJ} {H : Heap} {locs : List Loc} {ls : Array Slot} (h : lpx (P_X11_left_37 Q) (x1, x2, x4, x5, I, J)) (hw : gH (xS ad cy) 66 ad D s I J H locs) (hl : lv_has ls 6 [(0, .ref (ad 0)), (1, .int x1), (2, .long x2), (4, .int x4), (5, .int x5)]) : W p l e rmX11_left s m args below meth c H locs 0 0 (MQ below (gQi (xS ad cy) 66 ad cy D (xF ad ts) Q) args s 0 0 (gA 66 ad)) (F0 m 37 ls []) := by
  obtain ⟨n, h⟩ := h
  induction n generalizing x1 x2 x4 x5 I J H locs ls with
  | zero => exact False.elim h
  | succ n ih => exact w_X11_left_37 C  (fun hk9 hw9 hl9 => ih hw9 hl9 hk9) h hw hl
set_option maxHeartbeats 4000000 in
set_option maxRecDepth 100000 in
theorem w_X11_left {Q : Int32 → MI → MJ → Prop} (C : gC RX11 cX11_left 6 (some .int) 66 ad cy D (xF ad ts) p s m args meth c) {a0 : Int32} {I : MI} {J : MJ} {H : Heap} {locs : List Loc} {ls : Array Slot} (h : P_X11_left a0 I J Q) (hw : gH (xS ad cy) 66 ad D s I J H locs) (hl : lv_has ls 6 [(0, .ref (ad 0)), (1, .int a0)]) : W p l e rmX11_left s m args below meth c H locs 0 0 (MQ below (gQi (xS ad cy) 66 ad cy D (xF ad ts) Q) args s 0 0 (gA 66 ad)) (F0 m 0 ls []) := by
  obtain ⟨hx, hb, hC⟩ := id C
  refine lv_iload_n hx hb dX11_left_0 rfl (lv_at hl 1 rfl) ?_
  refine lv_if_lt (tgt := 9) hx hb dX11_left_1 (by decide) (fun c1 => ?_) (fun c1 => ?_)
  · have h := h.1 c1
    refine lv_bipush (v := -2) hx hb dX11_left_9 (by decide) ?_
    exact g_iret C hw h dX11_left_11
  · have h := h.2 c1
    refine lv_iload_n hx hb dX11_left_4 rfl (lv_at hl 1 rfl) ?_
    refine lv_iconst (v := 1) hx hb dX11_left_5 (by decide) ?_
    refine lv_icmp_le (tgt := 12) hx hb dX11_left_6 (by decide) (fun c6 => ?_) (fun c6 => ?_)
    · have h := h.1 c6
      refine lv_aload_n hx hb dX11_left_12 rfl (lv_at hl 0 rfl) ?_
      refine g_get C hw f_RX11_53 xl_0 (xs_0 _ _) rfl dX11_left_13 ?_
      refine g_cl hw (g_rV [] [] C hw (m_X6_count h) k_X6_count q_RX11_202 xl_39 (xs_39 _ _) rfl rfl hl.1 rfl (Nat.le_of_ble_eq_true rfl) ⟨⟨rfl, rfl⟩, Nat.le_of_ble_eq_true rfl, Nat.le_of_ble_eq_true rfl⟩ ⟨Nat.zero_le _, Nat.zero_le _⟩ dX11_left_16) (fun r16 I16 J16 H locs h hw => ?_)
      refine lv_lstore_n (lv' := [(2, .long r16), (0, .ref (ad 0)), (1, .int a0)]) hx hb dX11_left_19 rfl hl (by decide) rfl (fun ls hl => ?_)
      refine lv_lload_n hx hb dX11_left_20 rfl (lv_at hl 0 rfl) ?_
      refine lv_ldc2 (v := (2000)) hx hb hC.2.2.1 (hC.2.2.2.1 _ q_RX11_249) dX11_left_21 ?_
      refine g_lcmp_le (tgt := 31) hx hb dX11_left_24 dX11_left_25 (by decide) (fun c24 => ?_) (fun c24 => ?_)
      · have h := h.1 c24
        refine lv_iconst (v := 0) hx hb dX11_left_31 (by decide) ?_
        refine lv_istore (lv' := [(4, .int (0 : Int32)), (2, .long r16), (0, .ref (ad 0)), (1, .int a0)]) hx hb dX11_left_32 hl (by decide) rfl (fun ls hl => ?_)
        refine lv_iconst (v := 0) hx hb dX11_left_34 (by decide) ?_
        refine lv_istore (lv' := [(5, .int (0 : Int32)), (4, .int (0 : Int32)), (2, .long r16), (0, .ref (ad 0)), (1, .int a0)]) hx hb dX11_left_35 hl (by decide) rfl (fun ls hl => ?_)
        exact wl_X11_left_37 C  h hw (lv_sub hl [3, 4, 2, 1, 0] rfl)
      · have h := h.2 c24
        refine lv_bipush (v := -3) hx hb dX11_left_28 (by decide) ?_
        exact g_iret C hw h dX11_left_30
    · have h := h.2 c6
      refine lv_bipush (v := -2) hx hb dX11_left_9 (by decide) ?_
      exact g_iret C hw h dX11_left_11
theorem m_X11_left {l : Launch} {a0 : Int32} {Q : Int32 → MI → MJ → Prop} {I : MI} {J : MJ} (h : P_X11_left a0 I J Q) : Met l yX11_left (xws yX11_left cX11_left 6 (some .int)) rmX11_left (va_Pc [.ref (ad 0), .int a0] (gB (xS ad cy) 66 ad cy D (xF ad ts) I J)) (gQi (xS ad cy) 66 ad cy D (xF ad ts) Q) 0 0 (gA 66 ad) :=
  g_met (xF_ok ad ts) rfl (by decide) (Nat.le_of_ble_eq_true rfl) (fun p e s m below meth c ls C hw hl => w_X11_left C  h hw hl)
/-! java/lang/Integer.bitCount(I)I -/
def P_J6_bitCount_0f7a4 (a0 : Int32) (I : MI) (J : MJ) (Q : Int32 → MI → MJ → Prop) : Prop :=
  Q ((((((((a0 - (((a0.toUInt32 >>> ((1 : Int32).toUInt32 &&& Int32.toUInt32 31)).toInt32) &&& (1431655765 : Int32))) &&& (858993459 : Int32)) + ((((a0 - (((a0.toUInt32 >>> ((1 : Int32).toUInt32 &&& Int32.toUInt32 31)).toInt32) &&& (1431655765 : Int32))).toUInt32 >>> ((2 : Int32).toUInt32 &&& Int32.toUInt32 31)).toInt32) &&& (858993459 : Int32))) + (((((a0 - (((a0.toUInt32 >>> ((1 : Int32).toUInt32 &&& Int32.toUInt32 31)).toInt32) &&& (1431655765 : Int32))) &&& (858993459 : Int32)) + ((((a0 - (((a0.toUInt32 >>> ((1 : Int32).toUInt32 &&& Int32.toUInt32 31)).toInt32) &&& (1431655765 : Int32))).toUInt32 >>> ((2 : Int32).toUInt32 &&& Int32.toUInt32 31)).toInt32) &&& (858993459 : Int32))).toUInt32 >>> ((4 : Int32).toUInt32 &&& Int32.toUInt32 31)).toInt32)) &&& (252645135 : Int32)) + (((((((a0 - (((a0.toUInt32 >>> ((1 : Int32).toUInt32 &&& Int32.toUInt32 31)).toInt32) &&& (1431655765 : Int32))) &&& (858993459 : Int32)) + ((((a0 - (((a0.toUInt32 >>> ((1 : Int32).toUInt32 &&& Int32.toUInt32 31)).toInt32) &&& (1431655765 : Int32))).toUInt32 >>> ((2 : Int32).toUInt32 &&& Int32.toUInt32 31)).toInt32) &&& (858993459 : Int32))) + (((((a0 - (((a0.toUInt32 >>> ((1 : Int32).toUInt32 &&& Int32.toUInt32 31)).toInt32) &&& (1431655765 : Int32))) &&& (858993459 : Int32)) + ((((a0 - (((a0.toUInt32 >>> ((1 : Int32).toUInt32 &&& Int32.toUInt32 31)).toInt32) &&& (1431655765 : Int32))).toUInt32 >>> ((2 : Int32).toUInt32 &&& Int32.toUInt32 31)).toInt32) &&& (858993459 : Int32))).toUInt32 >>> ((4 : Int32).toUInt32 &&& Int32.toUInt32 31)).toInt32)) &&& (252645135 : Int32)).toUInt32 >>> ((8 : Int32).toUInt32 &&& Int32.toUInt32 31)).toInt32)) + ((((((((a0 - (((a0.toUInt32 >>> ((1 : Int32).toUInt32 &&& Int32.toUInt32 31)).toInt32) &&& (1431655765 : Int32))) &&& (858993459 : Int32)) + ((((a0 - (((a0.toUInt32 >>> ((1 : Int32).toUInt32 &&& Int32.toUInt32 31)).toInt32) &&& (1431655765 : Int32))).toUInt32 >>> ((2 : Int32).toUInt32 &&& Int32.toUInt32 31)).toInt32) &&& (858993459 : Int32))) + (((((a0 - (((a0.toUInt32 >>> ((1 : Int32).toUInt32 &&& Int32.toUInt32 31)).toInt32) &&& (1431655765 : Int32))) &&& (858993459 : Int32)) + ((((a0 - (((a0.toUInt32 >>> ((1 : Int32).toUInt32 &&& Int32.toUInt32 31)).toInt32) &&& (1431655765 : Int32))).toUInt32 >>> ((2 : Int32).toUInt32 &&& Int32.toUInt32 31)).toInt32) &&& (858993459 : Int32))).toUInt32 >>> ((4 : Int32).toUInt32 &&& Int32.toUInt32 31)).toInt32)) &&& (252645135 : Int32)) + (((((((a0 - (((a0.toUInt32 >>> ((1 : Int32).toUInt32 &&& Int32.toUInt32 31)).toInt32) &&& (1431655765 : Int32))) &&& (858993459 : Int32)) + ((((a0 - (((a0.toUInt32 >>> ((1 : Int32).toUInt32 &&& Int32.toUInt32 31)).toInt32) &&& (1431655765 : Int32))).toUInt32 >>> ((2 : Int32).toUInt32 &&& Int32.toUInt32 31)).toInt32) &&& (858993459 : Int32))) + (((((a0 - (((a0.toUInt32 >>> ((1 : Int32).toUInt32 &&& Int32.toUInt32 31)).toInt32) &&& (1431655765 : Int32))) &&& (858993459 : Int32)) + ((((a0 - (((a0.toUInt32 >>> ((1 : Int32).toUInt32 &&& Int32.toUInt32 31)).toInt32) &&& (1431655765 : Int32))).toUInt32 >>> ((2 : Int32).toUInt32 &&& Int32.toUInt32 31)).toInt32) &&& (858993459 : Int32))).toUInt32 >>> ((4 : Int32).toUInt32 &&& Int32.toUInt32 31)).toInt32)) &&& (252645135 : Int32)).toUInt32 >>> ((8 : Int32).toUInt32 &&& Int32.toUInt32 31)).toInt32)).toUInt32 >>> ((16 : Int32).toUInt32 &&& Int32.toUInt32 31)).toInt32)) &&& (63 : Int32)) I J
abbrev rmJ6_bitCount_0f7a4 : Room := { frames := 0, cells := 0, slots := 0, locals := 0 }
set_option maxHeartbeats 4000000 in
set_option maxRecDepth 100000 in
theorem w_J6_bitCount_0f7a4 {Q : Int32 → MI → MJ → Prop} (C : gC RJ6 cJ6_bitCount_0f7a4 1 (some .int) 66 ad cy D (xF ad ts) p s m args meth c) {a0 : Int32} {I : MI} {J : MJ} {H : Heap} {locs : List Loc} {ls : Array Slot} (h : P_J6_bitCount_0f7a4 a0 I J Q) (hw : gH (xS ad cy) 66 ad D s I J H locs) (hl : lv_has ls 1 [(0, .int a0)]) : W p l e rmJ6_bitCount_0f7a4 s m args below meth c H locs 0 0 (MQ below (gQi (xS ad cy) 66 ad cy D (xF ad ts) Q) args s 0 0 (gA 66 ad)) (F0 m 0 ls []) := by
  obtain ⟨hx, hb, hC⟩ := id C
  refine lv_iload_n hx hb dJ6_bitCount_0f7a4_0 rfl (lv_at hl 0 rfl) ?_
  refine lv_iload_n hx hb dJ6_bitCount_0f7a4_1 rfl (lv_at hl 0 rfl) ?_
  refine lv_iconst (v := 1) hx hb dJ6_bitCount_0f7a4_2 (by decide) ?_
  refine lv_iushr hx hb dJ6_bitCount_0f7a4_3 rfl ?_
  refine lv_ldcw (v := (1431655765)) hx hb hC.2.2.1 (hC.2.2.2.1 _ q_RJ6_265) dJ6_bitCount_0f7a4_4 ?_
  refine lv_iand hx hb dJ6_bitCount_0f7a4_7 ?_
  refine lv_isub hx hb dJ6_bitCount_0f7a4_8 ?_
  refine lv_istore_n (lv' := [(0, .int (a0 - (((a0.toUInt32 >>> ((1 : Int32).toUInt32 &&& Int32.toUInt32 31)).toInt32) &&& (1431655765 : Int32))))]) hx hb dJ6_bitCount_0f7a4_9 rfl hl (by decide) rfl (fun ls hl => ?_)
  refine lv_iload_n hx hb dJ6_bitCount_0f7a4_10 rfl (lv_at hl 0 rfl) ?_
  refine lv_ldcw (v := (858993459)) hx hb hC.2.2.1 (hC.2.2.2.1 _ q_RJ6_266) dJ6_bitCount_0f7a4_11 ?_
  refine lv_iand hx hb dJ6_bitCount_0f7a4_14 ?_
  refine lv_iload_n hx hb dJ6_bitCount_0f7a4_15 rfl (lv_at hl 0 rfl) ?_
  refine lv_iconst (v := 2) hx hb dJ6_bitCount_0f7a4_16 (by decide) ?_
  refine lv_iushr hx hb dJ6_bitCount_0f7a4_17 rfl ?_
  refine lv_ldcw (v := (858993459)) hx hb hC.2.2.1 (hC.2.2.2.1 _ q_RJ6_266) dJ6_bitCount_0f7a4_18 ?_
  refine lv_iand hx hb dJ6_bitCount_0f7a4_21 ?_
  refine lv_iadd hx hb dJ6_bitCount_0f7a4_22 ?_
  refine lv_istore_n (lv' := [(0, .int (((a0 - (((a0.toUInt32 >>> ((1 : Int32).toUInt32 &&& Int32.toUInt32 31)).toInt32) &&& (1431655765 : Int32))) &&& (858993459 : Int32)) + ((((a0 - (((a0.toUInt32 >>> ((1 : Int32).toUInt32 &&& Int32.toUInt32 31)).toInt32) &&& (1431655765 : Int32))).toUInt32 >>> ((2 : Int32).toUInt32 &&& Int32.toUInt32 31)).toInt32) &&& (858993459 : Int32))))]) hx hb dJ6_bitCount_0f7a4_23 rfl hl (by decide) rfl (fun ls hl => ?_)
  refine lv_iload_n hx hb dJ6_bitCount_0f7a4_24 rfl (lv_at hl 0 rfl) ?_
  refine lv_iload_n hx hb dJ6_bitCount_0f7a4_25 rfl (lv_at hl 0 rfl) ?_
  refine lv_iconst (v := 4) hx hb dJ6_bitCount_0f7a4_26 (by decide) ?_
  refine lv_iushr hx hb dJ6_bitCount_0f7a4_27 rfl ?_
  refine lv_iadd hx hb dJ6_bitCount_0f7a4_28 ?_
  refine lv_ldcw (v := (252645135)) hx hb hC.2.2.1 (hC.2.2.2.1 _ q_RJ6_267) dJ6_bitCount_0f7a4_29 ?_
  refine lv_iand hx hb dJ6_bitCount_0f7a4_32 ?_
  refine lv_istore_n (lv' := [(0, .int (((((a0 - (((a0.toUInt32 >>> ((1 : Int32).toUInt32 &&& Int32.toUInt32 31)).toInt32) &&& (1431655765 : Int32))) &&& (858993459 : Int32)) + ((((a0 - (((a0.toUInt32 >>> ((1 : Int32).toUInt32 &&& Int32.toUInt32 31)).toInt32) &&& (1431655765 : Int32))).toUInt32 >>> ((2 : Int32).toUInt32 &&& Int32.toUInt32 31)).toInt32) &&& (858993459 : Int32))) + (((((a0 - (((a0.toUInt32 >>> ((1 : Int32).toUInt32 &&& Int32.toUInt32 31)).toInt32) &&& (1431655765 : Int32))) &&& (858993459 : Int32)) + ((((a0 - (((a0.toUInt32 >>> ((1 : Int32).toUInt32 &&& Int32.toUInt32 31)).toInt32) &&& (1431655765 : Int32))).toUInt32 >>> ((2 : Int32).toUInt32 &&& Int32.toUInt32 31)).toInt32) &&& (858993459 : Int32))).toUInt32 >>> ((4 : Int32).toUInt32 &&& Int32.toUInt32 31)).toInt32)) &&& (252645135 : Int32)))]) hx hb dJ6_bitCount_0f7a4_33 rfl hl (by decide) rfl (fun ls hl => ?_)
  refine lv_iload_n hx hb dJ6_bitCount_0f7a4_34 rfl (lv_at hl 0 rfl) ?_
  refine lv_iload_n hx hb dJ6_bitCount_0f7a4_35 rfl (lv_at hl 0 rfl) ?_
  refine lv_bipush (v := 8) hx hb dJ6_bitCount_0f7a4_36 (by decide) ?_
  refine lv_iushr hx hb dJ6_bitCount_0f7a4_38 rfl ?_
  refine lv_iadd hx hb dJ6_bitCount_0f7a4_39 ?_
  refine lv_istore_n (lv' := [(0, .int ((((((a0 - (((a0.toUInt32 >>> ((1 : Int32).toUInt32 &&& Int32.toUInt32 31)).toInt32) &&& (1431655765 : Int32))) &&& (858993459 : Int32)) + ((((a0 - (((a0.toUInt32 >>> ((1 : Int32).toUInt32 &&& Int32.toUInt32 31)).toInt32) &&& (1431655765 : Int32))).toUInt32 >>> ((2 : Int32).toUInt32 &&& Int32.toUInt32 31)).toInt32) &&& (858993459 : Int32))) + (((((a0 - (((a0.toUInt32 >>> ((1 : Int32).toUInt32 &&& Int32.toUInt32 31)).toInt32) &&& (1431655765 : Int32))) &&& (858993459 : Int32)) + ((((a0 - (((a0.toUInt32 >>> ((1 : Int32).toUInt32 &&& Int32.toUInt32 31)).toInt32) &&& (1431655765 : Int32))).toUInt32 >>> ((2 : Int32).toUInt32 &&& Int32.toUInt32 31)).toInt32) &&& (858993459 : Int32))).toUInt32 >>> ((4 : Int32).toUInt32 &&& Int32.toUInt32 31)).toInt32)) &&& (252645135 : Int32)) + (((((((a0 - (((a0.toUInt32 >>> ((1 : Int32).toUInt32 &&& Int32.toUInt32 31)).toInt32) &&& (1431655765 : Int32))) &&& (858993459 : Int32)) + ((((a0 - (((a0.toUInt32 >>> ((1 : Int32).toUInt32 &&& Int32.toUInt32 31)).toInt32) &&& (1431655765 : Int32))).toUInt32 >>> ((2 : Int32).toUInt32 &&& Int32.toUInt32 31)).toInt32) &&& (858993459 : Int32))) + (((((a0 - (((a0.toUInt32 >>> ((1 : Int32).toUInt32 &&& Int32.toUInt32 31)).toInt32) &&& (1431655765 : Int32))) &&& (858993459 : Int32)) + ((((a0 - (((a0.toUInt32 >>> ((1 : Int32).toUInt32 &&& Int32.toUInt32 31)).toInt32) &&& (1431655765 : Int32))).toUInt32 >>> ((2 : Int32).toUInt32 &&& Int32.toUInt32 31)).toInt32) &&& (858993459 : Int32))).toUInt32 >>> ((4 : Int32).toUInt32 &&& Int32.toUInt32 31)).toInt32)) &&& (252645135 : Int32)).toUInt32 >>> ((8 : Int32).toUInt32 &&& Int32.toUInt32 31)).toInt32)))]) hx hb dJ6_bitCount_0f7a4_40 rfl hl (by decide) rfl (fun ls hl => ?_)
  refine lv_iload_n hx hb dJ6_bitCount_0f7a4_41 rfl (lv_at hl 0 rfl) ?_
  refine lv_iload_n hx hb dJ6_bitCount_0f7a4_42 rfl (lv_at hl 0 rfl) ?_
  refine lv_bipush (v := 16) hx hb dJ6_bitCount_0f7a4_43 (by decide) ?_
  refine lv_iushr hx hb dJ6_bitCount_0f7a4_45 rfl ?_
  refine lv_iadd hx hb dJ6_bitCount_0f7a4_46 ?_
  refine lv_istore_n (lv' := [(0, .int (((((((a0 - (((a0.toUInt32 >>> ((1 : Int32).toUInt32 &&& Int32.toUInt32 31)).toInt32) &&& (1431655765 : Int32))) &&& (858993459 : Int32)) + ((((a0 - (((a0.toUInt32 >>> ((1 : Int32).toUInt32 &&& Int32.toUInt32 31)).toInt32) &&& (1431655765 : Int32))).toUInt32 >>> ((2 : Int32).toUInt32 &&& Int32.toUInt32 31)).toInt32) &&& (858993459 : Int32))) + (((((a0 - (((a0.toUInt32 >>> ((1 : Int32).toUInt32 &&& Int32.toUInt32 31)).toInt32) &&& (1431655765 : Int32))) &&& (858993459 : Int32)) + ((((a0 - (((a0.toUInt32 >>> ((1 : Int32).toUInt32 &&& Int32.toUInt32 31)).toInt32) &&& (1431655765 : Int32))).toUInt32 >>> ((2 : Int32).toUInt32 &&& Int32.toUInt32 31)).toInt32) &&& (858993459 : Int32))).toUInt32 >>> ((4 : Int32).toUInt32 &&& Int32.toUInt32 31)).toInt32)) &&& (252645135 : Int32)) + (((((((a0 - (((a0.toUInt32 >>> ((1 : Int32).toUInt32 &&& Int32.toUInt32 31)).toInt32) &&& (1431655765 : Int32))) &&& (858993459 : Int32)) + ((((a0 - (((a0.toUInt32 >>> ((1 : Int32).toUInt32 &&& Int32.toUInt32 31)).toInt32) &&& (1431655765 : Int32))).toUInt32 >>> ((2 : Int32).toUInt32 &&& Int32.toUInt32 31)).toInt32) &&& (858993459 : Int32))) + (((((a0 - (((a0.toUInt32 >>> ((1 : Int32).toUInt32 &&& Int32.toUInt32 31)).toInt32) &&& (1431655765 : Int32))) &&& (858993459 : Int32)) + ((((a0 - (((a0.toUInt32 >>> ((1 : Int32).toUInt32 &&& Int32.toUInt32 31)).toInt32) &&& (1431655765 : Int32))).toUInt32 >>> ((2 : Int32).toUInt32 &&& Int32.toUInt32 31)).toInt32) &&& (858993459 : Int32))).toUInt32 >>> ((4 : Int32).toUInt32 &&& Int32.toUInt32 31)).toInt32)) &&& (252645135 : Int32)).toUInt32 >>> ((8 : Int32).toUInt32 &&& Int32.toUInt32 31)).toInt32)) + ((((((((a0 - (((a0.toUInt32 >>> ((1 : Int32).toUInt32 &&& Int32.toUInt32 31)).toInt32) &&& (1431655765 : Int32))) &&& (858993459 : Int32)) + ((((a0 - (((a0.toUInt32 >>> ((1 : Int32).toUInt32 &&& Int32.toUInt32 31)).toInt32) &&& (1431655765 : Int32))).toUInt32 >>> ((2 : Int32).toUInt32 &&& Int32.toUInt32 31)).toInt32) &&& (858993459 : Int32))) + (((((a0 - (((a0.toUInt32 >>> ((1 : Int32).toUInt32 &&& Int32.toUInt32 31)).toInt32) &&& (1431655765 : Int32))) &&& (858993459 : Int32)) + ((((a0 - (((a0.toUInt32 >>> ((1 : Int32).toUInt32 &&& Int32.toUInt32 31)).toInt32) &&& (1431655765 : Int32))).toUInt32 >>> ((2 : Int32).toUInt32 &&& Int32.toUInt32 31)).toInt32) &&& (858993459 : Int32))).toUInt32 >>> ((4 : Int32).toUInt32 &&& Int32.toUInt32 31)).toInt32)) &&& (252645135 : Int32)) + (((((((a0 - (((a0.toUInt32 >>> ((1 : Int32).toUInt32 &&& Int32.toUInt32 31)).toInt32) &&& (1431655765 : Int32))) &&& (858993459 : Int32)) + ((((a0 - (((a0.toUInt32 >>> ((1 : Int32).toUInt32 &&& Int32.toUInt32 31)).toInt32) &&& (1431655765 : Int32))).toUInt32 >>> ((2 : Int32).toUInt32 &&& Int32.toUInt32 31)).toInt32) &&& (858993459 : Int32))) + (((((a0 - (((a0.toUInt32 >>> ((1 : Int32).toUInt32 &&& Int32.toUInt32 31)).toInt32) &&& (1431655765 : Int32))) &&& (858993459 : Int32)) + ((((a0 - (((a0.toUInt32 >>> ((1 : Int32).toUInt32 &&& Int32.toUInt32 31)).toInt32) &&& (1431655765 : Int32))).toUInt32 >>> ((2 : Int32).toUInt32 &&& Int32.toUInt32 31)).toInt32) &&& (858993459 : Int32))).toUInt32 >>> ((4 : Int32).toUInt32 &&& Int32.toUInt32 31)).toInt32)) &&& (252645135 : Int32)).toUInt32 >>> ((8 : Int32).toUInt32 &&& Int32.toUInt32 31)).toInt32)).toUInt32 >>> ((16 : Int32).toUInt32 &&& Int32.toUInt32 31)).toInt32)))]) hx hb dJ6_bitCount_0f7a4_47 rfl hl (by decide) rfl (fun ls hl => ?_)
  refine lv_iload_n hx hb dJ6_bitCount_0f7a4_48 rfl (lv_at hl 0 rfl) ?_
  refine lv_bipush (v := 63) hx hb dJ6_bitCount_0f7a4_49 (by decide) ?_
  refine lv_iand hx hb dJ6_bitCount_0f7a4_51 ?_
  exact g_iret C hw h dJ6_bitCount_0f7a4_52
theorem m_J6_bitCount_0f7a4 {l : Launch} {a0 : Int32} {Q : Int32 → MI → MJ → Prop} {I : MI} {J : MJ} (h : P_J6_bitCount_0f7a4 a0 I J Q) : Met l yJ6_bitCount_0f7a4 (xws yJ6_bitCount_0f7a4 cJ6_bitCount_0f7a4 1 (some .int)) rmJ6_bitCount_0f7a4 (va_Pc [.int a0] (gB (xS ad cy) 66 ad cy D (xF ad ts) I J)) (gQi (xS ad cy) 66 ad cy D (xF ad ts) Q) 0 0 (gA 66 ad) :=
  g_metF (xF_ok ad ts) rfl (by decide) (Nat.le_of_ble_eq_true rfl) (fun p e s m below meth c ls C hw hl => w_J6_bitCount_0f7a4 C  h hw hl)
/-! BagPhrases$Chances.areFew()Z -/
def P_X0_areFew (I : MI) (J : MJ) (Q : Int32 → MI → MJ → Prop) : Prop :=
  P_J6_bitCount_0f7a4 (I 17 5) I J (fun r14 I14 J14 => (((8 : Int32) < ((I 12 4) - r14) → Q (0 : Int32) I14 J14) ∧ (¬ (8 : Int32) < ((I 12 4) - r14) → Q (1 : Int32) I14 J14)))
abbrev rmX0_areFew : Room := { frames := 1, cells := 0, slots := 0, locals := 20 }
set_option maxHeartbeats 4000000 in
set_option maxRecDepth 100000 in
theorem w_X0_areFew {Q : Int32 → MI → MJ → Prop} (C : gC RX0 cX0_areFew 1 (some .boolean) 66 ad cy D (xF ad ts) p s m args meth c) {I : MI} {J : MJ} {H : Heap} {locs : List Loc} {ls : Array Slot} (h : P_X0_areFew I J Q) (hw : gH (xS ad cy) 66 ad D s I J H locs) (hl : lv_has ls 1 [(0, .ref (ad 55))]) : W p l e rmX0_areFew s m args below meth c H locs 0 0 (MQ below (gQz (xS ad cy) 66 ad cy D (xF ad ts) Q) args s 0 0 (gA 66 ad)) (F0 m 0 ls []) := by
  obtain ⟨hx, hb, hC⟩ := id C
  refine lv_aload_n hx hb dX0_areFew_0 rfl (lv_at hl 0 rfl) ?_
  refine g_get C hw f_RX0_40 xl_55 (xs_55 _ _) rfl dX0_areFew_1 ?_
  refine g_get C hw f_RX0_52 xl_12 (xs_12 _ _) rfl dX0_areFew_4 ?_
  refine lv_aload_n hx hb dX0_areFew_7 rfl (lv_at hl 0 rfl) ?_
  refine g_get C hw f_RX0_44 xl_55 (xs_55 _ _) rfl dX0_areFew_8 ?_
  refine g_get C hw f_RX0_57 xl_17 (xs_17 _ _) rfl dX0_areFew_11 ?_
  refine g_ci hw (g_rS [.int (I 17 5)] [.int (I 12 4)] C hw (m_J6_bitCount_0f7a4 h) k_J6_bitCount_0f7a4 q_RX0_62 rfl hl.1 rfl (Nat.le_of_ble_eq_true rfl) ⟨⟨rfl, rfl⟩, Nat.le_of_ble_eq_true rfl, Nat.le_of_ble_eq_true rfl⟩ ⟨Nat.zero_le _, Nat.zero_le _⟩ dX0_areFew_14) (fun r14 I14 J14 H locs h hw => ?_)
  refine lv_isub hx hb dX0_areFew_17 ?_
  refine lv_bipush (v := 8) hx hb dX0_areFew_18 (by decide) ?_
  refine lv_icmp_gt (tgt := 27) hx hb dX0_areFew_20 (by decide) (fun c20 => ?_) (fun c20 => ?_)
  · have h := h.1 c20
    refine lv_iconst (v := 0) hx hb dX0_areFew_27 (by decide) ?_
    exact g_zret C hw (by decide) h dX0_areFew_28
  · have h := h.2 c20
    refine lv_iconst (v := 1) hx hb dX0_areFew_23 (by decide) ?_
    refine lv_goto (tgt := 28) hx hb dX0_areFew_24 (by decide) ?_
    exact g_zret C hw (by decide) h dX0_areFew_28
theorem m_X0_areFew {l : Launch} {Q : Int32 → MI → MJ → Prop} {I : MI} {J : MJ} (h : P_X0_areFew I J Q) : Met l yX0_areFew (xws yX0_areFew cX0_areFew 1 (some .boolean)) rmX0_areFew (va_Pc [.ref (ad 55)] (gB (xS ad cy) 66 ad cy D (xF ad ts) I J)) (gQz (xS ad cy) 66 ad cy D (xF ad ts) Q) 0 0 (gA 66 ad) :=
  g_met (xF_ok ad ts) rfl (by decide) (Nat.le_of_ble_eq_true rfl) (fun p e s m below meth c ls C hw hl => w_X0_areFew C  h hw hl)
/-! BagPhrases$Chances.listComing()V -/
def P_X0_listComing_61 (Q : MI → MJ → Prop) (kL7 : Int32 × MI × MJ → Prop) (x1 : Int32) (I : MI) (J : MJ) : Prop :=
  kL7 ((x1 + 1), I, J)
def P_X0_listComing_7 (Q : MI → MJ → Prop) (kL7 : Int32 × MI × MJ → Prop) : Int32 × MI × MJ → Prop := fun z => match z with
  | (x1, I, J) => (((I 12 4) ≤ x1 → Q I J) ∧ (¬ (I 12 4) ≤ x1 → (((8 : Int32) ≤ (I 55 7) → Q I J) ∧ (¬ (8 : Int32) ≤ (I 55 7) → ((¬ (((I 17 5) >>> (x1 &&& 31)) &&& (1 : Int32)) = 0 → P_X0_listComing_61 Q kL7 x1 I J) ∧ ((((I 17 5) >>> (x1 &&& 31)) &&& (1 : Int32)) = 0 → vp_in (I 55 7) 8 ∧ (∀ I50 : MI, I50 = mI I 58 (I 55 7).toNatClampNeg x1 → (∀ I58 : MI, I58 = mI I50 55 7 ((I50 55 7) + (1 : Int32)) → P_X0_listComing_61 Q kL7 x1 I58 J))))))))
def P_X0_listComing (I : MI) (J : MJ) (Q : MI → MJ → Prop) : Prop :=
  (∀ I2 : MI, I2 = mI I 55 7 (0 : Int32) → lpx (P_X0_listComing_7 Q) ((0 : Int32), I2, J))
abbrev rmX0_listComing : Room := { frames := 0, cells := 0, slots := 0, locals := 0 }
set_option maxHeartbeats 4000000 in
set_option maxRecDepth 100000 in
theorem w_X0_listComing_61 {Q : MI → MJ → Prop} (C : gC RX0 cX0_listComing 2 none 66 ad cy D (xF ad ts) p s m args meth c) {kL7 : Int32 × MI × MJ → Prop} (hL7 : ∀ {x1 : Int32} {I : MI} {J : MJ} {H : Heap} {locs : List Loc} {ls : Array Slot}, kL7 (x1, I, J) → gH (xS ad cy) 66 ad D s I J H locs → lv_has ls 2 [(0, .ref (ad 55)), (1, .int x1)] → W p l e rmX0_listComing s m args below meth c H locs 0 0 (MQ below (gQv (xS ad cy) 66 ad cy D (xF ad ts) Q) args s 0 0 (gA 66 ad)) (F0 m 7 ls [])) {x1 : Int32} {I : MI} {J : MJ} {H : Heap} {locs : List Loc} {ls : Array Slot} (h : P_X0_listComing_61 Q kL7 x1 I J) (hw : gH (xS ad cy) 66 ad D s I J H locs) (hl : lv_has ls 2 [(0, .ref (ad 55)), (1, .int x1)]) : W p l e rmX0_listComing s m args below meth c H locs 0 0 (MQ below (gQv (xS ad cy) 66 ad cy D (xF ad ts) Q) args s 0 0 (gA 66 ad)) (F0 m 61 ls []) := by
  obtain ⟨hx, hb, hC⟩ := id C
  refine lv_iinc (v := x1 + 1) (lv' := [(1, .int (x1 + 1)), (0, .ref (ad 55))]) hx hb dX0_listComing_61 hl (k := 1) rfl rfl (by decide) rfl (fun ls hl => ?_)
  refine lv_goto (tgt := 7) hx hb dX0_listComing_64 (by decide) ?_
  exact hL7 h hw (lv_sub hl [1, 0] rfl)
set_option maxHeartbeats 4000000 in
set_option maxRecDepth 100000 in
theorem w_X0_listComing_7 {Q : MI → MJ → Prop} (C : gC RX0 cX0_listComing 2 none 66 ad cy D (xF ad ts) p s m args meth c) {kL7 : Int32 × MI × MJ → Prop} (hL7 : ∀ {x1 : Int32} {I : MI} {J : MJ} {H : Heap} {locs : List Loc} {ls : Array Slot}, kL7 (x1, I, J) → gH (xS ad cy) 66 ad D s I J H locs → lv_has ls 2 [(0, .ref (ad 55)), (1, .int x1)] → W p l e rmX0_listComing s m args below meth c H locs 0 0 (MQ below (gQv (xS ad cy) 66 ad cy D (xF ad ts) Q) args s 0 0 (gA 66 ad)) (F0 m 7 ls [])) {x1 : Int32} {I : MI} {J : MJ} {H : Heap} {locs : List Loc} {ls : Array Slot} (h : P_X0_listComing_7 Q kL7 (x1, I, J)) (hw : gH (xS ad cy) 66 ad D s I J H locs) (hl : lv_has ls 2 [(0, .ref (ad 55)), (1, .int x1)]) : W p l e rmX0_listComing s m args below meth c H locs 0 0 (MQ below (gQv (xS ad cy) 66 ad cy D (xF ad ts) Q) args s 0 0 (gA 66 ad)) (F0 m 7 ls []) := by
  obtain ⟨hx, hb, hC⟩ := id C
  refine lv_iload_n hx hb dX0_listComing_7 rfl (lv_at hl 1 rfl) ?_
  refine lv_aload_n hx hb dX0_listComing_8 rfl (lv_at hl 0 rfl) ?_
  refine g_get C hw f_RX0_40 xl_55 (xs_55 _ _) rfl dX0_listComing_9 ?_
  refine g_get C hw f_RX0_52 xl_12 (xs_12 _ _) rfl dX0_listComing_12 ?_
  refine lv_icmp_ge (tgt := 67) hx hb dX0_listComing_15 (by decide) (fun c15 => ?_) (fun c15 => ?_)
  · have h := h.1 c15
    exact g_vret C hw h dX0_listComing_67
  · have h := h.2 c15
    refine lv_aload_n hx hb dX0_listComing_18 rfl (lv_at hl 0 rfl) ?_
    refine g_get C hw f_RX0_29 xl_55 (xs_55 _ _) rfl dX0_listComing_19 ?_
    refine lv_bipush (v := 8) hx hb dX0_listComing_22 (by decide) ?_
    refine lv_icmp_ge (tgt := 67) hx hb dX0_listComing_24 (by decide) (fun c24 => ?_) (fun c24 => ?_)
    · have h := h.1 c24
      exact g_vret C hw h dX0_listComing_67
    · have h := h.2 c24
      refine lv_aload_n hx hb dX0_listComing_27 rfl (lv_at hl 0 rfl) ?_
      refine g_get C hw f_RX0_44 xl_55 (xs_55 _ _) rfl dX0_listComing_28 ?_
      refine g_get C hw f_RX0_57 xl_17 (xs_17 _ _) rfl dX0_listComing_31 ?_
      refine lv_iload_n hx hb dX0_listComing_34 rfl (lv_at hl 1 rfl) ?_
      refine lv_ishr hx hb dX0_listComing_35 ?_
      refine lv_iconst (v := 1) hx hb dX0_listComing_36 (by decide) ?_
      refine lv_iand hx hb dX0_listComing_37 ?_
      refine lv_if_ne (tgt := 61) hx hb dX0_listComing_38 (by decide) (fun c38 => ?_) (fun c38 => ?_)
      · have h := h.1 c38
        exact w_X0_listComing_61 C hL7 h hw (lv_sub hl [0, 1] rfl)
      · have h := h.2 c38
        refine lv_aload_n hx hb dX0_listComing_41 rfl (lv_at hl 0 rfl) ?_
        refine g_get C hw f_RX0_18 xl_55 (xs_55 _ _) rfl dX0_listComing_42 ?_
        refine lv_aload_n hx hb dX0_listComing_45 rfl (lv_at hl 0 rfl) ?_
        refine g_get C hw f_RX0_29 xl_55 (xs_55 _ _) rfl dX0_listComing_46 ?_
        refine lv_iload_n hx hb dX0_listComing_49 rfl (lv_at hl 1 rfl) ?_
        refine g_iast C hw xl_58 xs_58 h.1 dX0_listComing_50 (fun H locs hw => ?_)
        have h := h.2
        obtain ⟨I50, e50⟩ : ∃ z : MI, z = mI I 58 (I 55 7).toNatClampNeg x1 := ⟨_, rfl⟩
        have h := h I50 e50
        rw [← e50] at hw
        refine lv_aload_n hx hb dX0_listComing_51 rfl (lv_at hl 0 rfl) ?_
        refine lv_dup hx hb dX0_listComing_52 rfl ?_
        refine g_get C hw f_RX0_29 xl_55 (xs_55 _ _) rfl dX0_listComing_53 ?_
        refine lv_iconst (v := 1) hx hb dX0_listComing_56 (by decide) ?_
        refine lv_iadd hx hb dX0_listComing_57 ?_
        refine g_putI C hw fp_RX0_29 xl_55 xs_55 (st_0_7 ad _) (Nat.le_of_ble_eq_true rfl) rfl rfl dX0_listComing_58 (fun H locs hw => ?_)
        obtain ⟨I58, e58⟩ : ∃ z : MI, z = mI I50 55 7 ((I50 55 7) + (1 : Int32)) := ⟨_, rfl⟩
        have h := h I58 e58
        rw [← e58] at hw
        exact w_X0_listComing_61 C hL7 h hw (lv_sub hl [0, 1] rfl)
theorem wl_X0_listComing_7 {Q : MI → MJ → Prop} (C : gC RX0 cX0_listComing 2 none 66 ad cy D (xF ad ts) p s m args meth c) {x1 : Int32} {I : MI} {J : MJ} {H : Heap} {locs : List Loc} {ls : Array Slot} (h : lpx (P_X0_listComing_7 Q) (x1, I, J)) (hw : gH (xS ad cy) 66 ad D s I J H locs) (hl : lv_has ls 2 [(0, .ref (ad 55)), (1, .int x1)]) : W p l e rmX0_listComing s m args below meth c H locs 0 0 (MQ below (gQv (xS ad cy) 66 ad cy D (xF ad ts) Q) args s 0 0 (gA 66 ad)) (F0 m 7 ls []) := by
  obtain ⟨n, h⟩ := h
  induction n generalizing x1 I J H locs ls with
  | zero => exact False.elim h
  | succ n ih => exact w_X0_listComing_7 C  (fun hk9 hw9 hl9 => ih hw9 hl9 hk9) h hw hl
set_option maxHeartbeats 4000000 in
set_option maxRecDepth 100000 in
theorem w_X0_listComing {Q : MI → MJ → Prop} (C : gC RX0 cX0_listComing 2 none 66 ad cy D (xF ad ts) p s m args meth c) {I : MI} {J : MJ} {H : Heap} {locs : List Loc} {ls : Array Slot} (h : P_X0_listComing I J Q) (hw : gH (xS ad cy) 66 ad D s I J H locs) (hl : lv_has ls 2 [(0, .ref (ad 55))]) : W p l e rmX0_listComing s m args below meth c H locs 0 0 (MQ below (gQv (xS ad cy) 66 ad cy D (xF ad ts) Q) args s 0 0 (gA 66 ad)) (F0 m 0 ls []) := by
  obtain ⟨hx, hb, hC⟩ := id C
  refine lv_aload_n hx hb dX0_listComing_0 rfl (lv_at hl 0 rfl) ?_
  refine lv_iconst (v := 0) hx hb dX0_listComing_1 (by decide) ?_
  refine g_putI C hw fp_RX0_29 xl_55 xs_55 (st_0_7 ad _) (Nat.le_of_ble_eq_true rfl) rfl rfl dX0_listComing_2 (fun H locs hw => ?_)
  obtain ⟨I2, e2⟩ : ∃ z : MI, z = mI I 55 7 (0 : Int32) := ⟨_, rfl⟩
  have h := h I2 e2
  rw [← e2] at hw
  refine lv_iconst (v := 0) hx hb dX0_listComing_5 (by decide) ?_
  refine lv_istore_n (lv' := [(1, .int (0 : Int32)), (0, .ref (ad 55))]) hx hb dX0_listComing_6 rfl hl (by decide) rfl (fun ls hl => ?_)
  exact wl_X0_listComing_7 C  h hw (lv_sub hl [1, 0] rfl)
theorem m_X0_listComing {l : Launch} {Q : MI → MJ → Prop} {I : MI} {J : MJ} (h : P_X0_listComing I J Q) : Met l yX0_listComing (xws yX0_listComing cX0_listComing 2 none) rmX0_listComing (va_Pc [.ref (ad 55)] (gB (xS ad cy) 66 ad cy D (xF ad ts) I J)) (gQv (xS ad cy) 66 ad cy D (xF ad ts) Q) 0 0 (gA 66 ad) :=
  g_met (xF_ok ad ts) rfl (by decide) (Nat.le_of_ble_eq_true rfl) (fun p e s m below meth c ls C hw hl => w_X0_listComing C  h hw hl)
/-! BagPhrases$Chances.openSets()V -/
def P_X0_openSets_140 (Q : MI → MJ → Prop) (kL21 : Int32 × MI × MJ → Prop) (x1 : Int32) (s1 : Int32) (s2 : Int64) (I : MI) (J : MJ) : Prop :=
  vp_in s1 4 ∧ (∀ J140 : MJ, J140 = mJ J 59 s1.toNatClampNeg s2 → kL21 ((x1 + 1), I, J140))
def P_X0_openSets_97 (Q : MI → MJ → Prop) (kL21 : Int32 × MI × MJ → Prop) (kL28 : Int32 × Int32 × MI × MJ → Prop) (x1 : Int32) (x2 : Int32) (s1 : Int32) (s2 : Int64) (I : MI) (J : MJ) : Prop :=
  vp_in s1 10 ∧ (∀ J97 : MJ, J97 = mJ J 57 s1.toNatClampNeg s2 → kL28 (x1, (x2 + 1), I, J97))
def P_X0_openSets_58 (Q : MI → MJ → Prop) (kL21 : Int32 × MI × MJ → Prop) (kL28 : Int32 × Int32 × MI × MJ → Prop) (x1 : Int32) (x2 : Int32) (s0 : Int32) (I : MI) (J : MJ) : Prop :=
  vp_in x2 8 ∧ ((((6 : Int32) ≤ x2 → ((s0 = 0 → P_X0_openSets_97 Q kL21 kL28 x1 x2 (I 58 x2.toNatClampNeg) (0 : Int64) I J) ∧ (¬ s0 = 0 → P_X0_openSets_97 Q kL21 kL28 x1 x2 (I 58 x2.toNatClampNeg) (-1 : Int64) I J))) ∧ (¬ (6 : Int32) ≤ x2 → vp_in x2 6 ∧ (P_X0_openSets_97 Q kL21 kL28 x1 x2 (I 58 x2.toNatClampNeg) (stL x2.toNatClampNeg) I J))))
def P_X0_openSets_57 (Q : MI → MJ → Prop) (kL21 : Int32 × MI × MJ → Prop) (kL28 : Int32 × Int32 × MI × MJ → Prop) (x1 : Int32) (x2 : Int32) (I : MI) (J : MJ) : Prop :=
  P_X0_openSets_58 Q kL21 kL28 x1 x2 (0 : Int32) I J
def P_X0_openSets_28 (Q : MI → MJ → Prop) (kL21 : Int32 × MI × MJ → Prop) (kL28 : Int32 × Int32 × MI × MJ → Prop) : Int32 × Int32 × MI × MJ → Prop := fun z => match z with
  | (x1, x2, I, J) => (((I 55 7) ≤ x2 → ((((1 : Int32) <<< ((I 55 7) &&& 31)) ≤ (x1 * (64 : Int32)) → P_X0_openSets_140 Q kL21 x1 x1 (0 : Int64) I J) ∧ (¬ ((1 : Int32) <<< ((I 55 7) &&& 31)) ≤ (x1 * (64 : Int32)) → P_X6_foldWithin 56 (1023 : Int32) I J (fun r133 I133 J133 => P_X0_openSets_140 Q kL21 x1 x1 r133 I133 J133)))) ∧ (¬ (I 55 7) ≤ x2 → ((x2 < (6 : Int32) → P_X0_openSets_57 Q kL21 kL28 x1 x2 I J) ∧ (¬ x2 < (6 : Int32) → ((((x1 >>> ((x2 - (6 : Int32)) &&& 31)) &&& (1 : Int32)) = 0 → P_X0_openSets_57 Q kL21 kL28 x1 x2 I J) ∧ (¬ ((x1 >>> ((x2 - (6 : Int32)) &&& 31)) &&& (1 : Int32)) = 0 → P_X0_openSets_58 Q kL21 kL28 x1 x2 (1 : Int32) I J))))))
def P_X0_openSets_21 (Q : MI → MJ → Prop) (kL21 : Int32 × MI × MJ → Prop) : Int32 × MI × MJ → Prop := fun z => match z with
  | (x1, I, J) => (((4 : Int32) ≤ x1 → (∀ I149 : MI, I149 = mI I 55 8 (1 : Int32) → Q I149 J)) ∧ (¬ (4 : Int32) ≤ x1 → lpx (P_X0_openSets_28 Q kL21) (x1, (0 : Int32), I, J)))
def P_X0_openSets (I : MI) (J : MJ) (Q : MI → MJ → Prop) : Prop :=
  (((I 55 8) = 0 → P_X6_refresh I J (fun I12 J12 => P_X0_listComing I12 J12 (fun I16 J16 => lpx (P_X0_openSets_21 Q) ((0 : Int32), I16, J16)))) ∧ (¬ (I 55 8) = 0 → Q I J))
abbrev rmX0_openSets : Room := { frames := 5, cells := 0, slots := 0, locals := 137 }
set_option maxHeartbeats 4000000 in
set_option maxRecDepth 100000 in
theorem w_X0_openSets_140 {Q : MI → MJ → Prop} (C : gC RX0 cX0_openSets 4 none 66 ad cy D (xF ad ts) p s m args meth c) {kL21 : Int32 × MI × MJ → Prop} (hL21 : ∀ {x1 : Int32} {I : MI} {J : MJ} {H : Heap} {locs : List Loc} {ls : Array Slot}, kL21 (x1, I, J) → gH (xS ad cy) 66 ad D s I J H locs → lv_has ls 4 [(0, .ref (ad 55)), (1, .int x1)] → W p l e rmX0_openSets s m args below meth c H locs 0 0 (MQ below (gQv (xS ad cy) 66 ad cy D (xF ad ts) Q) args s 0 0 (gA 66 ad)) (F0 m 21 ls [])) {x1 : Int32} {s1 : Int32} {s2 : Int64} {I : MI} {J : MJ} {H : Heap} {locs : List Loc} {ls : Array Slot} (h : P_X0_openSets_140 Q kL21 x1 s1 s2 I J) (hw : gH (xS ad cy) 66 ad D s I J H locs) (hl : lv_has ls 4 [(0, .ref (ad 55)), (1, .int x1)]) : W p l e rmX0_openSets s m args below meth c H locs 0 0 (MQ below (gQv (xS ad cy) 66 ad cy D (xF ad ts) Q) args s 0 0 (gA 66 ad)) (F0 m 140 ls [.long s2, .int s1, .ref (ad 59)]) := by
  obtain ⟨hx, hb, hC⟩ := id C
  refine g_last C hw xl_59 xs_59 h.1 dX0_openSets_140 (fun H locs hw => ?_)
  have h := h.2
  obtain ⟨J140, e140⟩ : ∃ z : MJ, z = mJ J 59 s1.toNatClampNeg s2 := ⟨_, rfl⟩
  have h := h J140 e140
  rw [← e140] at hw
  refine lv_iinc (v := x1 + 1) (lv' := [(1, .int (x1 + 1)), (0, .ref (ad 55))]) hx hb dX0_openSets_141 hl (k := 1) rfl rfl (by decide) rfl (fun ls hl => ?_)
  refine lv_goto (tgt := 21) hx hb dX0_openSets_144 (by decide) ?_
  exact hL21 h hw (lv_sub hl [1, 0] rfl)
set_option maxHeartbeats 4000000 in
set_option maxRecDepth 100000 in
theorem w_X0_openSets_97 {Q : MI → MJ → Prop} (C : gC RX0 cX0_openSets 4 none 66 ad cy D (xF ad ts) p s m args meth c) {kL21 : Int32 × MI × MJ → Prop} (hL21 : ∀ {x1 : Int32} {I : MI} {J : MJ} {H : Heap} {locs : List Loc} {ls : Array Slot}, kL21 (x1, I, J) → gH (xS ad cy) 66 ad D s I J H locs → lv_has ls 4 [(0, .ref (ad 55)), (1, .int x1)] → W p l e rmX0_openSets s m args below meth c H locs 0 0 (MQ below (gQv (xS ad cy) 66 ad cy D (xF ad ts) Q) args s 0 0 (gA 66 ad)) (F0 m 21 ls [])) {kL28 : Int32 × Int32 × MI × MJ → Prop} (hL28 : ∀ {x1 : Int32} {x2 : Int32} {I : MI} {J : MJ} {H : Heap} {locs : List Loc} {ls : Array Slot}, kL28 (x1, x2, I, J) → gH (xS ad cy) 66 ad D s I J H locs → lv_has ls 4 [(0, .ref (ad 55)), (1, .int x1), (2, .int x2)] → W p l e rmX0_openSets s m args below meth c H locs 0 0 (MQ below (gQv (xS ad cy) 66 ad cy D (xF ad ts) Q) args s 0 0 (gA 66 ad)) (F0 m 28 ls [])) {x1 : Int32} {x2 : Int32} {s1 : Int32} {s2 : Int64} {I : MI} {J : MJ} {H : Heap} {locs : List Loc} {ls : Array Slot} (h : P_X0_openSets_97 Q kL21 kL28 x1 x2 s1 s2 I J) (hw : gH (xS ad cy) 66 ad D s I J H locs) (hl : lv_has ls 4 [(0, .ref (ad 55)), (1, .int x1), (2, .int x2)]) : W p l e rmX0_openSets s m args below meth c H locs 0 0 (MQ below (gQv (xS ad cy) 66 ad cy D (xF ad ts) Q) args s 0 0 (gA 66 ad)) (F0 m 97 ls [.long s2, .int s1, .ref (ad 57)]) := by
  obtain ⟨hx, hb, hC⟩ := id C
  refine g_last C hw xl_57 xs_57 h.1 dX0_openSets_97 (fun H locs hw => ?_)
  have h := h.2
  obtain ⟨J97, e97⟩ : ∃ z : MJ, z = mJ J 57 s1.toNatClampNeg s2 := ⟨_, rfl⟩
  have h := h J97 e97
  rw [← e97] at hw
  refine lv_iinc (v := x2 + 1) (lv' := [(2, .int (x2 + 1)), (0, .ref (ad 55)), (1, .int x1)]) hx hb dX0_openSets_98 hl (k := 2) rfl rfl (by decide) rfl (fun ls hl => ?_)
  refine lv_goto (tgt := 28) hx hb dX0_openSets_101 (by decide) ?_
  exact hL28 h hw (lv_sub hl [1, 2, 0] rfl)
set_option maxHeartbeats 4000000 in
set_option maxRecDepth 100000 in
theorem w_X0_openSets_58 {Q : MI → MJ → Prop} (C : gC RX0 cX0_openSets 4 none 66 ad cy D (xF ad ts) p s m args meth c) {kL21 : Int32 × MI × MJ → Prop} (hL21 : ∀ {x1 : Int32} {I : MI} {J : MJ} {H : Heap} {locs : List Loc} {ls : Array Slot}, kL21 (x1, I, J) → gH (xS ad cy) 66 ad D s I J H locs → lv_has ls 4 [(0, .ref (ad 55)), (1, .int x1)] → W p l e rmX0_openSets s m args below meth c H locs 0 0 (MQ below (gQv (xS ad cy) 66 ad cy D (xF ad ts) Q) args s 0 0 (gA 66 ad)) (F0 m 21 ls [])) {kL28 : Int32 × Int32 × MI × MJ → Prop} (hL28 : ∀ {x1 : Int32} {x2 : Int32} {I : MI} {J : MJ} {H : Heap} {locs : List Loc} {ls : Array Slot}, kL28 (x1, x2, I, J) → gH (xS ad cy) 66 ad D s I J H locs → lv_has ls 4 [(0, .ref (ad 55)), (1, .int x1), (2, .int x2)] → W p l e rmX0_openSets s m args below meth c H locs 0 0 (MQ below (gQv (xS ad cy) 66 ad cy D (xF ad ts) Q) args s 0 0 (gA 66 ad)) (F0 m 28 ls [])) {x1 : Int32} {x2 : Int32} {s0 : Int32} {I : MI} {J : MJ} {H : Heap} {locs : List Loc} {ls : Array Slot} (h : P_X0_openSets_58 Q kL21 kL28 x1 x2 s0 I J) (hw : gH (xS ad cy) 66 ad D s I J H locs) (hl : lv_has ls 4 [(0, .ref (ad 55)), (1, .int x1), (2, .int x2)]) : W p l e rmX0_openSets s m args below meth c H locs 0 0 (MQ below (gQv (xS ad cy) 66 ad cy D (xF ad ts) Q) args s 0 0 (gA 66 ad)) (F0 m 58 ls [.int s0]) := by
  obtain ⟨hx, hb, hC⟩ := id C
  refine lv_istore_n (lv' := [(3, .int s0), (0, .ref (ad 55)), (1, .int x1), (2, .int x2)]) hx hb dX0_openSets_58 rfl hl (by decide) rfl (fun ls hl => ?_)
  refine lv_aload_n hx hb dX0_openSets_59 rfl (lv_at hl 1 rfl) ?_
  refine g_get C hw f_RX0_12 xl_55 (xs_55 _ _) rfl dX0_openSets_60 ?_
  refine g_get C hw f_RX0_79 xl_56 (xs_56 _ _) rfl dX0_openSets_63 ?_
  refine lv_aload_n hx hb dX0_openSets_66 rfl (lv_at hl 1 rfl) ?_
  refine g_get C hw f_RX0_18 xl_55 (xs_55 _ _) rfl dX0_openSets_67 ?_
  refine lv_iload_n hx hb dX0_openSets_70 rfl (lv_at hl 3 rfl) ?_
  refine g_iald C hw xl_58 xs_58 h.1 dX0_openSets_71 ?_
  have h := h.2
  refine lv_iload_n hx hb dX0_openSets_72 rfl (lv_at hl 3 rfl) ?_
  refine lv_bipush (v := 6) hx hb dX0_openSets_73 (by decide) ?_
  refine lv_icmp_ge (tgt := 86) hx hb dX0_openSets_75 (by decide) (fun c75 => ?_) (fun c75 => ?_)
  · have h := h.1 c75
    refine lv_iload_n hx hb dX0_openSets_86 rfl (lv_at hl 0 rfl) ?_
    refine lv_if_eq (tgt := 96) hx hb dX0_openSets_87 (by decide) (fun c87 => ?_) (fun c87 => ?_)
    · have h := h.1 c87
      refine lv_lconst (v := 0) hx hb dX0_openSets_96 (by decide) ?_
      exact w_X0_openSets_97 C hL21 hL28 h hw (lv_sub hl [1, 2, 3] rfl)
    · have h := h.2 c87
      refine lv_ldc2 (v := (-1)) hx hb hC.2.2.1 (hC.2.2.2.1 _ q_RX0_85) dX0_openSets_90 ?_
      refine lv_goto (tgt := 97) hx hb dX0_openSets_93 (by decide) ?_
      exact w_X0_openSets_97 C hL21 hL28 h hw (lv_sub hl [1, 2, 3] rfl)
  · have h := h.2 c75
    refine va_gets hx hb hC.2.2.2.2.2.2.1.1.1.1 hw.2.2 hC.2.2.1 (hC.2.2.2.1 _ qst_0) (fun _ h9 => h9) dX0_openSets_78 ?_
    refine lv_iload_n hx hb dX0_openSets_81 rfl (lv_at hl 3 rfl) ?_
    refine va_tl hx hb hC.2.2.2.2.2.2.1.1.1.2 hw.2.2 h.1 rfl dX0_openSets_82 ?_
    have h := h.2
    refine lv_goto (tgt := 97) hx hb dX0_openSets_83 (by decide) ?_
    exact w_X0_openSets_97 C hL21 hL28 h hw (lv_sub hl [1, 2, 3] rfl)
set_option maxHeartbeats 4000000 in
set_option maxRecDepth 100000 in
theorem w_X0_openSets_57 {Q : MI → MJ → Prop} (C : gC RX0 cX0_openSets 4 none 66 ad cy D (xF ad ts) p s m args meth c) {kL21 : Int32 × MI × MJ → Prop} (hL21 : ∀ {x1 : Int32} {I : MI} {J : MJ} {H : Heap} {locs : List Loc} {ls : Array Slot}, kL21 (x1, I, J) → gH (xS ad cy) 66 ad D s I J H locs → lv_has ls 4 [(0, .ref (ad 55)), (1, .int x1)] → W p l e rmX0_openSets s m args below meth c H locs 0 0 (MQ below (gQv (xS ad cy) 66 ad cy D (xF ad ts) Q) args s 0 0 (gA 66 ad)) (F0 m 21 ls [])) {kL28 : Int32 × Int32 × MI × MJ → Prop} (hL28 : ∀ {x1 : Int32} {x2 : Int32} {I : MI} {J : MJ} {H : Heap} {locs : List Loc} {ls : Array Slot}, kL28 (x1, x2, I, J) → gH (xS ad cy) 66 ad D s I J H locs → lv_has ls 4 [(0, .ref (ad 55)), (1, .int x1), (2, .int x2)] → W p l e rmX0_openSets s m args below meth c H locs 0 0 (MQ below (gQv (xS ad cy) 66 ad cy D (xF ad ts) Q) args s 0 0 (gA 66 ad)) (F0 m 28 ls [])) {x1 : Int32} {x2 : Int32} {I : MI} {J : MJ} {H : Heap} {locs : List Loc} {ls : Array Slot} (h : P_X0_openSets_57 Q kL21 kL28 x1 x2 I J) (hw : gH (xS ad cy) 66 ad D s I J H locs) (hl : lv_has ls 4 [(0, .ref (ad 55)), (1, .int x1), (2, .int x2)]) : W p l e rmX0_openSets s m args below meth c H locs 0 0 (MQ below (gQv (xS ad cy) 66 ad cy D (xF ad ts) Q) args s 0 0 (gA 66 ad)) (F0 m 57 ls []) := by
  obtain ⟨hx, hb, hC⟩ := id C
  refine lv_iconst (v := 0) hx hb dX0_openSets_57 (by decide) ?_
  exact w_X0_openSets_58 C hL21 hL28 h hw (lv_sub hl [0, 1, 2] rfl)
set_option maxHeartbeats 4000000 in
set_option maxRecDepth 100000 in
theorem w_X0_openSets_28 {Q : MI → MJ → Prop} (C : gC RX0 cX0_openSets 4 none 66 ad cy D (xF ad ts) p s m args meth c) {kL21 : Int32 × MI × MJ → Prop} (hL21 : ∀ {x1 : Int32} {I : MI} {J : MJ} {H : Heap} {locs : List Loc} {ls : Array Slot}, kL21 (x1, I, J) → gH (xS ad cy) 66 ad D s I J H locs → lv_has ls 4 [(0, .ref (ad 55)), (1, .int x1)] → W p l e rmX0_openSets s m args below meth c H locs 0 0 (MQ below (gQv (xS ad cy) 66 ad cy D (xF ad ts) Q) args s 0 0 (gA 66 ad)) (F0 m 21 ls [])) {kL28 : Int32 × Int32 × MI × MJ → Prop} (hL28 : ∀ {x1 : Int32} {x2 : Int32} {I : MI} {J : MJ} {H : Heap} {locs : List Loc} {ls : Array Slot}, kL28 (x1, x2, I, J) → gH (xS ad cy) 66 ad D s I J H locs → lv_has ls 4 [(0, .ref (ad 55)), (1, .int x1), (2, .int x2)] → W p l e rmX0_openSets s m args below meth c H locs 0 0 (MQ below (gQv (xS ad cy) 66 ad cy D (xF ad ts) Q) args s 0 0 (gA 66 ad)) (F0 m 28 ls [])) {x1 : Int32} {x2 : Int32} {I : MI} {J : MJ} {H : Heap} {locs : List Loc} {ls : Array Slot} (h : P_X0_openSets_28 Q kL21 kL28 (x1, x2, I, J)) (hw : gH (xS ad cy) 66 ad D s I J H locs) (hl : lv_has ls 4 [(0, .ref (ad 55)), (1, .int x1), (2, .int x2)]) : W p l e rmX0_openSets s m args below meth c H locs 0 0 (MQ below (gQv (xS ad cy) 66 ad cy D (xF ad ts) Q) args s 0 0 (gA 66 ad)) (F0 m 28 ls []) := by
  obtain ⟨hx, hb, hC⟩ := id C
  refine lv_iload_n hx hb dX0_openSets_28 rfl (lv_at hl 2 rfl) ?_
  refine lv_aload_n hx hb dX0_openSets_29 rfl (lv_at hl 0 rfl) ?_
  refine g_get C hw f_RX0_29 xl_55 (xs_55 _ _) rfl dX0_openSets_30 ?_
  refine lv_icmp_ge (tgt := 104) hx hb dX0_openSets_33 (by decide) (fun c33 => ?_) (fun c33 => ?_)
  · have h := h.1 c33
    refine lv_aload_n hx hb dX0_openSets_104 rfl (lv_at hl 0 rfl) ?_
    refine g_get C hw f_RX0_22 xl_55 (xs_55 _ _) rfl dX0_openSets_105 ?_
    refine lv_iload_n hx hb dX0_openSets_108 rfl (lv_at hl 1 rfl) ?_
    refine lv_iload_n hx hb dX0_openSets_109 rfl (lv_at hl 1 rfl) ?_
    refine lv_bipush (v := 64) hx hb dX0_openSets_110 (by decide) ?_
    refine lv_imul hx hb dX0_openSets_112 ?_
    refine lv_iconst (v := 1) hx hb dX0_openSets_113 (by decide) ?_
    refine lv_aload_n hx hb dX0_openSets_114 rfl (lv_at hl 0 rfl) ?_
    refine g_get C hw f_RX0_29 xl_55 (xs_55 _ _) rfl dX0_openSets_115 ?_
    refine lv_ishl hx hb dX0_openSets_118 ?_
    refine lv_icmp_ge (tgt := 139) hx hb dX0_openSets_119 (by decide) (fun c119 => ?_) (fun c119 => ?_)
    · have h := h.1 c119
      refine lv_lconst (v := 0) hx hb dX0_openSets_139 (by decide) ?_
      exact w_X0_openSets_140 C hL21 h hw (lv_sub hl [0, 1] rfl)
    · have h := h.2 c119
      refine lv_aload_n hx hb dX0_openSets_122 rfl (lv_at hl 0 rfl) ?_
      refine g_get C hw f_RX0_48 xl_55 (xs_55 _ _) rfl dX0_openSets_123 ?_
      refine lv_aload_n hx hb dX0_openSets_126 rfl (lv_at hl 0 rfl) ?_
      refine g_get C hw f_RX0_12 xl_55 (xs_55 _ _) rfl dX0_openSets_127 ?_
      refine lv_sipush (v := 1023) hx hb dX0_openSets_130 (by decide) ?_
      refine g_cl hw (g_rV [.ref (ad 56), .int (1023 : Int32)] [.int x1, .ref (ad 59)] C hw (m_X6_foldWithin isWay_56 h) k_X6_foldWithin q_RX0_87 xl_39 (xs_39 _ _) rfl rfl hl.1 rfl (Nat.le_of_ble_eq_true rfl) ⟨⟨rfl, rfl⟩, Nat.le_of_ble_eq_true rfl, Nat.le_of_ble_eq_true rfl⟩ ⟨Nat.zero_le _, Nat.zero_le _⟩ dX0_openSets_133) (fun r133 I133 J133 H locs h hw => ?_)
      refine lv_goto (tgt := 140) hx hb dX0_openSets_136 (by decide) ?_
      exact w_X0_openSets_140 C hL21 h hw (lv_sub hl [0, 1] rfl)
  · have h := h.2 c33
    refine lv_iload_n hx hb dX0_openSets_36 rfl (lv_at hl 2 rfl) ?_
    refine lv_bipush (v := 6) hx hb dX0_openSets_37 (by decide) ?_
    refine lv_icmp_lt (tgt := 57) hx hb dX0_openSets_39 (by decide) (fun c39 => ?_) (fun c39 => ?_)
    · have h := h.1 c39
      exact w_X0_openSets_57 C hL21 hL28 h hw (lv_sub hl [0, 1, 2] rfl)
    · have h := h.2 c39
      refine lv_iload_n hx hb dX0_openSets_42 rfl (lv_at hl 1 rfl) ?_
      refine lv_iload_n hx hb dX0_openSets_43 rfl (lv_at hl 2 rfl) ?_
      refine lv_bipush (v := 6) hx hb dX0_openSets_44 (by decide) ?_
      refine lv_isub hx hb dX0_openSets_46 ?_
      refine lv_ishr hx hb dX0_openSets_47 ?_
      refine lv_iconst (v := 1) hx hb dX0_openSets_48 (by decide) ?_
      refine lv_iand hx hb dX0_openSets_49 ?_
      refine lv_if_eq (tgt := 57) hx hb dX0_openSets_50 (by decide) (fun c50 => ?_) (fun c50 => ?_)
      · have h := h.1 c50
        exact w_X0_openSets_57 C hL21 hL28 h hw (lv_sub hl [0, 1, 2] rfl)
      · have h := h.2 c50
        refine lv_iconst (v := 1) hx hb dX0_openSets_53 (by decide) ?_
        refine lv_goto (tgt := 58) hx hb dX0_openSets_54 (by decide) ?_
        exact w_X0_openSets_58 C hL21 hL28 h hw (lv_sub hl [0, 1, 2] rfl)
theorem wl_X0_openSets_28 {Q : MI → MJ → Prop} (C : gC RX0 cX0_openSets 4 none 66 ad cy D (xF ad ts) p s m args meth c) {kL21 : Int32 × MI × MJ → Prop} (hL21 : ∀ {x1 : Int32} {I : MI} {J : MJ} {H : Heap} {locs : List Loc} {ls : Array Slot}, kL21 (x1, I, J) → gH (xS ad cy) 66 ad D s I J H locs → lv_has ls 4 [(0, .ref (ad 55)), (1, .int x1)] → W p l e rmX0_openSets s m args below meth c H locs 0 0 (MQ below (gQv (xS ad cy) 66 ad cy D (xF ad ts) Q) args s 0 0 (gA 66 ad)) (F0 m 21 ls [])) {x1 : Int32} {x2 : Int32} {I : MI} {J : MJ} {H : Heap} {locs : List Loc} {ls : Array Slot} (h : lpx (P_X0_openSets_28 Q kL21) (x1, x2, I, J)) (hw : gH (xS ad cy) 66 ad D s I J H locs) (hl : lv_has ls 4 [(0, .ref (ad 55)), (1, .int x1), (2, .int x2)]) : W p l e rmX0_openSets s m args below meth c H locs 0 0 (MQ below (gQv (xS ad cy) 66 ad cy D (xF ad ts) Q) args s 0 0 (gA 66 ad)) (F0 m 28 ls []) := by
  obtain ⟨n, h⟩ := h
  induction n generalizing x1 x2 I J H locs ls with
  | zero => exact False.elim h
  | succ n ih => exact w_X0_openSets_28 C hL21 (fun hk9 hw9 hl9 => ih hw9 hl9 hk9) h hw hl
set_option maxHeartbeats 4000000 in
set_option maxRecDepth 100000 in
theorem w_X0_openSets_21 {Q : MI → MJ → Prop} (C : gC RX0 cX0_openSets 4 none 66 ad cy D (xF ad ts) p s m args meth c) {kL21 : Int32 × MI × MJ → Prop} (hL21 : ∀ {x1 : Int32} {I : MI} {J : MJ} {H : Heap} {locs : List Loc} {ls : Array Slot}, kL21 (x1, I, J) → gH (xS ad cy) 66 ad D s I J H locs → lv_has ls 4 [(0, .ref (ad 55)), (1, .int x1)] → W p l e rmX0_openSets s m args below meth c H locs 0 0 (MQ below (gQv (xS ad cy) 66 ad cy D (xF ad ts) Q) args s 0 0 (gA 66 ad)) (F0 m 21 ls [])) {x1 : Int32} {I : MI} {J : MJ} {H : Heap} {locs : List Loc} {ls : Array Slot} (h : P_X0_openSets_21 Q kL21 (x1, I, J)) (hw : gH (xS ad cy) 66 ad D s I J H locs) (hl : lv_has ls 4 [(0, .ref (ad 55)), (1, .int x1)]) : W p l e rmX0_openSets s m args below meth c H locs 0 0 (MQ below (gQv (xS ad cy) 66 ad cy D (xF ad ts) Q) args s 0 0 (gA 66 ad)) (F0 m 21 ls []) := by
  obtain ⟨hx, hb, hC⟩ := id C
  refine lv_iload_n hx hb dX0_openSets_21 rfl (lv_at hl 1 rfl) ?_
  refine lv_iconst (v := 4) hx hb dX0_openSets_22 (by decide) ?_
  refine lv_icmp_ge (tgt := 147) hx hb dX0_openSets_23 (by decide) (fun c23 => ?_) (fun c23 => ?_)
  · have h := h.1 c23
    refine lv_aload_n hx hb dX0_openSets_147 rfl (lv_at hl 0 rfl) ?_
    refine lv_iconst (v := 1) hx hb dX0_openSets_148 (by decide) ?_
    refine g_putI C hw fp_RX0_33 xl_55 xs_55 (st_0_8 ad _) (Nat.le_of_ble_eq_true rfl) (by decide) (by decide) dX0_openSets_149 (fun H locs hw => ?_)
    obtain ⟨I149, e149⟩ : ∃ z : MI, z = mI I 55 8 (1 : Int32) := ⟨_, rfl⟩
    have h := h I149 e149
    rw [← e149] at hw
    exact g_vret C hw h dX0_openSets_152
  · have h := h.2 c23
    refine lv_iconst (v := 0) hx hb dX0_openSets_26 (by decide) ?_
    refine lv_istore_n (lv' := [(2, .int (0 : Int32)), (0, .ref (ad 55)), (1, .int x1)]) hx hb dX0_openSets_27 rfl hl (by decide) rfl (fun ls hl => ?_)
    exact wl_X0_openSets_28 C hL21 h hw (lv_sub hl [1, 2, 0] rfl)
theorem wl_X0_openSets_21 {Q : MI → MJ → Prop} (C : gC RX0 cX0_openSets 4 none 66 ad cy D (xF ad ts) p s m args meth c) {x1 : Int32} {I : MI} {J : MJ} {H : Heap} {locs : List Loc} {ls : Array Slot} (h : lpx (P_X0_openSets_21 Q) (x1, I, J)) (hw : gH (xS ad cy) 66 ad D s I J H locs) (hl : lv_has ls 4 [(0, .ref (ad 55)), (1, .int x1)]) : W p l e rmX0_openSets s m args below meth c H locs 0 0 (MQ below (gQv (xS ad cy) 66 ad cy D (xF ad ts) Q) args s 0 0 (gA 66 ad)) (F0 m 21 ls []) := by
  obtain ⟨n, h⟩ := h
  induction n generalizing x1 I J H locs ls with
  | zero => exact False.elim h
  | succ n ih => exact w_X0_openSets_21 C  (fun hk9 hw9 hl9 => ih hw9 hl9 hk9) h hw hl
set_option maxHeartbeats 4000000 in
set_option maxRecDepth 100000 in
theorem w_X0_openSets {Q : MI → MJ → Prop} (C : gC RX0 cX0_openSets 4 none 66 ad cy D (xF ad ts) p s m args meth c) {I : MI} {J : MJ} {H : Heap} {locs : List Loc} {ls : Array Slot} (h : P_X0_openSets I J Q) (hw : gH (xS ad cy) 66 ad D s I J H locs) (hl : lv_has ls 4 [(0, .ref (ad 55))]) : W p l e rmX0_openSets s m args below meth c H locs 0 0 (MQ below (gQv (xS ad cy) 66 ad cy D (xF ad ts) Q) args s 0 0 (gA 66 ad)) (F0 m 0 ls []) := by
  obtain ⟨hx, hb, hC⟩ := id C
  refine lv_aload_n hx hb dX0_openSets_0 rfl (lv_at hl 0 rfl) ?_
  refine g_get C hw f_RX0_33 xl_55 (xs_55 _ _) rfl dX0_openSets_1 ?_
  refine lv_if_eq (tgt := 8) hx hb dX0_openSets_4 (by decide) (fun c4 => ?_) (fun c4 => ?_)
  · have h := h.1 c4
    refine lv_aload_n hx hb dX0_openSets_8 rfl (lv_at hl 0 rfl) ?_
    refine g_get C hw f_RX0_48 xl_55 (xs_55 _ _) rfl dX0_openSets_9 ?_
    refine g_cv hw (g_rV [] [] C hw (m_X6_refresh h) k_X6_refresh q_RX0_71 xl_39 (xs_39 _ _) rfl rfl hl.1 rfl (Nat.le_of_ble_eq_true rfl) ⟨⟨rfl, rfl⟩, Nat.le_of_ble_eq_true rfl, Nat.le_of_ble_eq_true rfl⟩ ⟨Nat.zero_le _, Nat.zero_le _⟩ dX0_openSets_12) (fun I12 J12 H locs h hw => ?_)
    refine lv_aload_n hx hb dX0_openSets_15 rfl (lv_at hl 0 rfl) ?_
    refine g_cv hw (g_rV [] [] C hw (m_X0_listComing h) k_X0_listComing q_RX0_76 xl_55 (xs_55 _ _) rfl rfl hl.1 rfl (Nat.le_of_ble_eq_true rfl) ⟨⟨rfl, rfl⟩, Nat.le_of_ble_eq_true rfl, Nat.le_of_ble_eq_true rfl⟩ ⟨Nat.zero_le _, Nat.zero_le _⟩ dX0_openSets_16) (fun I16 J16 H locs h hw => ?_)
    refine lv_iconst (v := 0) hx hb dX0_openSets_19 (by decide) ?_
    refine lv_istore_n (lv' := [(1, .int (0 : Int32)), (0, .ref (ad 55))]) hx hb dX0_openSets_20 rfl hl (by decide) rfl (fun ls hl => ?_)
    exact wl_X0_openSets_21 C  h hw (lv_sub hl [1, 0] rfl)
  · have h := h.2 c4
    exact g_vret C hw h dX0_openSets_7
theorem m_X0_openSets {l : Launch} {Q : MI → MJ → Prop} {I : MI} {J : MJ} (h : P_X0_openSets I J Q) : Met l yX0_openSets (xws yX0_openSets cX0_openSets 4 none) rmX0_openSets (va_Pc [.ref (ad 55)] (gB (xS ad cy) 66 ad cy D (xF ad ts) I J)) (gQv (xS ad cy) 66 ad cy D (xF ad ts) Q) 0 0 (gA 66 ad) :=
  g_met (xF_ok ad ts) rfl (by decide) (Nat.le_of_ble_eq_true rfl) (fun p e s m below meth c ls C hw hl => w_X0_openSets C  h hw hl)
/-! BagPhrases$Chances.isOpened(I)Z -/
def P_X0_isOpened (a0 : Int32) (I : MI) (J : MJ) (Q : Int32 → MI → MJ → Prop) : Prop :=
  vp_in (a0 / (64 : Int32)) 4 ∧ ((((((J 59 (a0 / (64 : Int32)).toNatClampNeg) >>> ((a0 - a0 / (64 : Int32) * (64 : Int32)).toInt64 &&& 63)) &&& (1 : Int64)) = (0 : Int64) → Q (0 : Int32) I J) ∧ (¬ (((J 59 (a0 / (64 : Int32)).toNatClampNeg) >>> ((a0 - a0 / (64 : Int32) * (64 : Int32)).toInt64 &&& 63)) &&& (1 : Int64)) = (0 : Int64) → Q (1 : Int32) I J)))
abbrev rmX0_isOpened : Room := { frames := 0, cells := 0, slots := 0, locals := 0 }
set_option maxHeartbeats 4000000 in
set_option maxRecDepth 100000 in
theorem w_X0_isOpened {Q : Int32 → MI → MJ → Prop} (C : gC RX0 cX0_isOpened 2 (some .boolean) 66 ad cy D (xF ad ts) p s m args meth c) {a0 : Int32} {I : MI} {J : MJ} {H : Heap} {locs : List Loc} {ls : Array Slot} (h : P_X0_isOpened a0 I J Q) (hw : gH (xS ad cy) 66 ad D s I J H locs) (hl : lv_has ls 2 [(0, .ref (ad 55)), (1, .int a0)]) : W p l e rmX0_isOpened s m args below meth c H locs 0 0 (MQ below (gQz (xS ad cy) 66 ad cy D (xF ad ts) Q) args s 0 0 (gA 66 ad)) (F0 m 0 ls []) := by
  obtain ⟨hx, hb, hC⟩ := id C
  refine lv_aload_n hx hb dX0_isOpened_0 rfl (lv_at hl 0 rfl) ?_
  refine g_get C hw f_RX0_22 xl_55 (xs_55 _ _) rfl dX0_isOpened_1 ?_
  refine lv_iload_n hx hb dX0_isOpened_4 rfl (lv_at hl 1 rfl) ?_
  refine lv_bipush (v := 64) hx hb dX0_isOpened_5 (by decide) ?_
  refine lv_idiv hx hb dX0_isOpened_7 (by decide) ?_
  refine g_lald C hw xl_59 xs_59 h.1 dX0_isOpened_8 ?_
  have h := h.2
  refine lv_iload_n hx hb dX0_isOpened_9 rfl (lv_at hl 1 rfl) ?_
  refine lv_bipush (v := 64) hx hb dX0_isOpened_10 (by decide) ?_
  refine lv_irem hx hb dX0_isOpened_12 (by decide) ?_
  refine lv_lshr hx hb dX0_isOpened_13 rfl ?_
  refine lv_lconst (v := 1) hx hb dX0_isOpened_14 (by decide) ?_
  refine lv_land hx hb dX0_isOpened_15 ?_
  refine lv_lconst (v := 0) hx hb dX0_isOpened_16 (by decide) ?_
  refine g_lcmp_eq (tgt := 25) hx hb dX0_isOpened_17 dX0_isOpened_18 (by decide) (fun c17 => ?_) (fun c17 => ?_)
  · have h := h.1 c17
    refine lv_iconst (v := 0) hx hb dX0_isOpened_25 (by decide) ?_
    exact g_zret C hw (by decide) h dX0_isOpened_26
  · have h := h.2 c17
    refine lv_iconst (v := 1) hx hb dX0_isOpened_21 (by decide) ?_
    refine lv_goto (tgt := 26) hx hb dX0_isOpened_22 (by decide) ?_
    exact g_zret C hw (by decide) h dX0_isOpened_26
theorem m_X0_isOpened {l : Launch} {a0 : Int32} {Q : Int32 → MI → MJ → Prop} {I : MI} {J : MJ} (h : P_X0_isOpened a0 I J Q) : Met l yX0_isOpened (xws yX0_isOpened cX0_isOpened 2 (some .boolean)) rmX0_isOpened (va_Pc [.ref (ad 55), .int a0] (gB (xS ad cy) 66 ad cy D (xF ad ts) I J)) (gQz (xS ad cy) 66 ad cy D (xF ad ts) Q) 0 0 (gA 66 ad) :=
  g_met (xF_ok ad ts) rfl (by decide) (Nat.le_of_ble_eq_true rfl) (fun p e s m below meth c ls C hw hl => w_X0_isOpened C  h hw hl)
/-! BagPhrases$Chances.wordsOf(I)I -/
def P_X0_wordsOf_31 (Q : Int32 → MI → MJ → Prop) (kL4 : Int32 × Int32 × Int32 × MI × MJ → Prop) (x1 : Int32) (x2 : Int32) (x3 : Int32) (I : MI) (J : MJ) : Prop :=
  kL4 (x1, x2, (x3 + 1), I, J)
def P_X0_wordsOf_4 (Q : Int32 → MI → MJ → Prop) (kL4 : Int32 × Int32 × Int32 × MI × MJ → Prop) : Int32 × Int32 × Int32 × MI × MJ → Prop := fun z => match z with
  | (x1, x2, x3, I, J) => (((I 55 7) ≤ x3 → Q x2 I J) ∧ (¬ (I 55 7) ≤ x3 → ((((x1 >>> (x3 &&& 31)) &&& (1 : Int32)) = 0 → P_X0_wordsOf_31 Q kL4 x1 x2 x3 I J) ∧ (¬ ((x1 >>> (x3 &&& 31)) &&& (1 : Int32)) = 0 → vp_in x3 8 ∧ (P_X0_wordsOf_31 Q kL4 x1 (x2 ||| ((1 : Int32) <<< ((I 58 x3.toNatClampNeg) &&& 31))) x3 I J)))))
def P_X0_wordsOf (a0 : Int32) (I : MI) (J : MJ) (Q : Int32 → MI → MJ → Prop) : Prop :=
  lpx (P_X0_wordsOf_4 Q) (a0, (0 : Int32), (0 : Int32), I, J)
abbrev rmX0_wordsOf : Room := { frames := 0, cells := 0, slots := 0, locals := 0 }
set_option maxHeartbeats 4000000 in
set_option maxRecDepth 100000 in
theorem w_X0_wordsOf_31 {Q : Int32 → MI → MJ → Prop} (C : gC RX0 cX0_wordsOf 4 (some .int) 66 ad cy D (xF ad ts) p s m args meth c) {kL4 : Int32 × Int32 × Int32 × MI × MJ → Prop} (hL4 : ∀ {x1 : Int32} {x2 : Int32} {x3 : Int32} {I : MI} {J : MJ} {H : Heap} {locs : List Loc} {ls : Array Slot}, kL4 (x1, x2, x3, I, J) → gH (xS ad cy) 66 ad D s I J H locs → lv_has ls 4 [(0, .ref (ad 55)), (1, .int x1), (2, .int x2), (3, .int x3)] → W p l e rmX0_wordsOf s m args below meth c H locs 0 0 (MQ below (gQi (xS ad cy) 66 ad cy D (xF ad ts) Q) args s 0 0 (gA 66 ad)) (F0 m 4 ls [])) {x1 : Int32} {x2 : Int32} {x3 : Int32} {I : MI} {J : MJ} {H : Heap} {locs : List Loc} {ls : Array Slot} (h : P_X0_wordsOf_31 Q kL4 x1 x2 x3 I J) (hw : gH (xS ad cy) 66 ad D s I J H locs) (hl : lv_has ls 4 [(0, .ref (ad 55)), (1, .int x1), (2, .int x2), (3, .int x3)]) : W p l e rmX0_wordsOf s m args below meth c H locs 0 0 (MQ below (gQi (xS ad cy) 66 ad cy D (xF ad ts) Q) args s 0 0 (gA 66 ad)) (F0 m 31 ls []) := by
  obtain ⟨hx, hb, hC⟩ := id C
  refine lv_iinc (v := x3 + 1) (lv' := [(3, .int (x3 + 1)), (0, .ref (ad 55)), (1, .int x1), (2, .int x2)]) hx hb dX0_wordsOf_31 hl (k := 3) rfl rfl (by decide) rfl (fun ls hl => ?_)
  refine lv_goto (tgt := 4) hx hb dX0_wordsOf_34 (by decide) ?_
  exact hL4 h hw (lv_sub hl [1, 2, 3, 0] rfl)
set_option maxHeartbeats 4000000 in
set_option maxRecDepth 100000 in
theorem w_X0_wordsOf_4 {Q : Int32 → MI → MJ → Prop} (C : gC RX0 cX0_wordsOf 4 (some .int) 66 ad cy D (xF ad ts) p s m args meth c) {kL4 : Int32 × Int32 × Int32 × MI × MJ → Prop} (hL4 : ∀ {x1 : Int32} {x2 : Int32} {x3 : Int32} {I : MI} {J : MJ} {H : Heap} {locs : List Loc} {ls : Array Slot}, kL4 (x1, x2, x3, I, J) → gH (xS ad cy) 66 ad D s I J H locs → lv_has ls 4 [(0, .ref (ad 55)), (1, .int x1), (2, .int x2), (3, .int x3)] → W p l e rmX0_wordsOf s m args below meth c H locs 0 0 (MQ below (gQi (xS ad cy) 66 ad cy D (xF ad ts) Q) args s 0 0 (gA 66 ad)) (F0 m 4 ls [])) {x1 : Int32} {x2 : Int32} {x3 : Int32} {I : MI} {J : MJ} {H : Heap} {locs : List Loc} {ls : Array Slot} (h : P_X0_wordsOf_4 Q kL4 (x1, x2, x3, I, J)) (hw : gH (xS ad cy) 66 ad D s I J H locs) (hl : lv_has ls 4 [(0, .ref (ad 55)), (1, .int x1), (2, .int x2), (3, .int x3)]) : W p l e rmX0_wordsOf s m args below meth c H locs 0 0 (MQ below (gQi (xS ad cy) 66 ad cy D (xF ad ts) Q) args s 0 0 (gA 66 ad)) (F0 m 4 ls []) := by
  obtain ⟨hx, hb, hC⟩ := id C
  refine lv_iload_n hx hb dX0_wordsOf_4 rfl (lv_at hl 3 rfl) ?_
  refine lv_aload_n hx hb dX0_wordsOf_5 rfl (lv_at hl 0 rfl) ?_
  refine g_get C hw f_RX0_29 xl_55 (xs_55 _ _) rfl dX0_wordsOf_6 ?_
  refine lv_icmp_ge (tgt := 37) hx hb dX0_wordsOf_9 (by decide) (fun c9 => ?_) (fun c9 => ?_)
  · have h := h.1 c9
    refine lv_iload_n hx hb dX0_wordsOf_37 rfl (lv_at hl 2 rfl) ?_
    exact g_iret C hw h dX0_wordsOf_38
  · have h := h.2 c9
    refine lv_iload_n hx hb dX0_wordsOf_12 rfl (lv_at hl 1 rfl) ?_
    refine lv_iload_n hx hb dX0_wordsOf_13 rfl (lv_at hl 3 rfl) ?_
    refine lv_ishr hx hb dX0_wordsOf_14 ?_
    refine lv_iconst (v := 1) hx hb dX0_wordsOf_15 (by decide) ?_
    refine lv_iand hx hb dX0_wordsOf_16 ?_
    refine lv_if_eq (tgt := 31) hx hb dX0_wordsOf_17 (by decide) (fun c17 => ?_) (fun c17 => ?_)
    · have h := h.1 c17
      exact w_X0_wordsOf_31 C hL4 h hw (lv_sub hl [0, 1, 2, 3] rfl)
    · have h := h.2 c17
      refine lv_iload_n hx hb dX0_wordsOf_20 rfl (lv_at hl 2 rfl) ?_
      refine lv_iconst (v := 1) hx hb dX0_wordsOf_21 (by decide) ?_
      refine lv_aload_n hx hb dX0_wordsOf_22 rfl (lv_at hl 0 rfl) ?_
      refine g_get C hw f_RX0_18 xl_55 (xs_55 _ _) rfl dX0_wordsOf_23 ?_
      refine lv_iload_n hx hb dX0_wordsOf_26 rfl (lv_at hl 3 rfl) ?_
      refine g_iald C hw xl_58 xs_58 h.1 dX0_wordsOf_27 ?_
      have h := h.2
      refine lv_ishl hx hb dX0_wordsOf_28 ?_
      refine lv_ior hx hb dX0_wordsOf_29 ?_
      refine lv_istore_n (lv' := [(2, .int (x2 ||| ((1 : Int32) <<< ((I 58 x3.toNatClampNeg) &&& 31)))), (0, .ref (ad 55)), (1, .int x1), (3, .int x3)]) hx hb dX0_wordsOf_30 rfl hl (by decide) rfl (fun ls hl => ?_)
      exact w_X0_wordsOf_31 C hL4 h hw (lv_sub hl [1, 2, 0, 3] rfl)
theorem wl_X0_wordsOf_4 {Q : Int32 → MI → MJ → Prop} (C : gC RX0 cX0_wordsOf 4 (some .int) 66 ad cy D (xF ad ts) p s m args meth c) {x1 : Int32} {x2 : Int32} {x3 : Int32} {I : MI} {J : MJ} {H : Heap} {locs : List Loc} {ls : Array Slot} (h : lpx (P_X0_wordsOf_4 Q) (x1, x2, x3, I, J)) (hw : gH (xS ad cy) 66 ad D s I J H locs) (hl : lv_has ls 4 [(0, .ref (ad 55)), (1, .int x1), (2, .int x2), (3, .int x3)]) : W p l e rmX0_wordsOf s m args below meth c H locs 0 0 (MQ below (gQi (xS ad cy) 66 ad cy D (xF ad ts) Q) args s 0 0 (gA 66 ad)) (F0 m 4 ls []) := by
  obtain ⟨n, h⟩ := h
  induction n generalizing x1 x2 x3 I J H locs ls with
  | zero => exact False.elim h
  | succ n ih => exact w_X0_wordsOf_4 C  (fun hk9 hw9 hl9 => ih hw9 hl9 hk9) h hw hl
set_option maxHeartbeats 4000000 in
set_option maxRecDepth 100000 in
theorem w_X0_wordsOf {Q : Int32 → MI → MJ → Prop} (C : gC RX0 cX0_wordsOf 4 (some .int) 66 ad cy D (xF ad ts) p s m args meth c) {a0 : Int32} {I : MI} {J : MJ} {H : Heap} {locs : List Loc} {ls : Array Slot} (h : P_X0_wordsOf a0 I J Q) (hw : gH (xS ad cy) 66 ad D s I J H locs) (hl : lv_has ls 4 [(0, .ref (ad 55)), (1, .int a0)]) : W p l e rmX0_wordsOf s m args below meth c H locs 0 0 (MQ below (gQi (xS ad cy) 66 ad cy D (xF ad ts) Q) args s 0 0 (gA 66 ad)) (F0 m 0 ls []) := by
  obtain ⟨hx, hb, hC⟩ := id C
  refine lv_iconst (v := 0) hx hb dX0_wordsOf_0 (by decide) ?_
  refine lv_istore_n (lv' := [(2, .int (0 : Int32)), (0, .ref (ad 55)), (1, .int a0)]) hx hb dX0_wordsOf_1 rfl hl (by decide) rfl (fun ls hl => ?_)
  refine lv_iconst (v := 0) hx hb dX0_wordsOf_2 (by decide) ?_
  refine lv_istore_n (lv' := [(3, .int (0 : Int32)), (2, .int (0 : Int32)), (0, .ref (ad 55)), (1, .int a0)]) hx hb dX0_wordsOf_3 rfl hl (by decide) rfl (fun ls hl => ?_)
  exact wl_X0_wordsOf_4 C  h hw (lv_sub hl [2, 3, 1, 0] rfl)
theorem m_X0_wordsOf {l : Launch} {a0 : Int32} {Q : Int32 → MI → MJ → Prop} {I : MI} {J : MJ} (h : P_X0_wordsOf a0 I J Q) : Met l yX0_wordsOf (xws yX0_wordsOf cX0_wordsOf 4 (some .int)) rmX0_wordsOf (va_Pc [.ref (ad 55), .int a0] (gB (xS ad cy) 66 ad cy D (xF ad ts) I J)) (gQi (xS ad cy) 66 ad cy D (xF ad ts) Q) 0 0 (gA 66 ad) :=
  g_met (xF_ok ad ts) rfl (by decide) (Nat.le_of_ble_eq_true rfl) (fun p e s m below meth c ls C hw hl => w_X0_wordsOf C  h hw hl)
/-! BagPhrases$Chances.countSets()V -/
def P_X0_countSets_63 (Q : MI → MJ → Prop) (kL17 : Int32 × MI × MJ → Prop) (x1 : Int32) (s1 : Int32) (s2 : Int64) (I : MI) (J : MJ) : Prop :=
  vp_in s1 256 ∧ (∀ J63 : MJ, J63 = mJ J 60 s1.toNatClampNeg s2 → kL17 ((x1 + 1), I, J63))
def P_X0_countSets_17 (Q : MI → MJ → Prop) (kL17 : Int32 × MI × MJ → Prop) : Int32 × MI × MJ → Prop := fun z => match z with
  | (x1, I, J) => ((((1 : Int32) <<< ((I 55 7) &&& 31)) ≤ x1 → (∀ I72 : MI, I72 = mI I 55 9 (1 : Int32) → Q I72 J)) ∧ (¬ ((1 : Int32) <<< ((I 55 7) &&& 31)) ≤ x1 → P_X0_isOpened x1 I J (fun r34 I34 J34 => ((r34 = 0 → P_X0_countSets_63 Q kL17 x1 x1 (0 : Int64) I34 J34) ∧ (¬ r34 = 0 → P_X0_wordsOf x1 I34 J34 (fun r53 I53 J53 => P_X6_foldWithin 40 r53 I53 J53 (fun r56 I56 J56 => P_X0_countSets_63 Q kL17 x1 x1 r56 I56 J56)))))))
def P_X0_countSets (I : MI) (J : MJ) (Q : MI → MJ → Prop) : Prop :=
  (((I 55 9) = 0 → P_X6_refresh I J (fun I12 J12 => lpx (P_X0_countSets_17 Q) ((0 : Int32), I12, J12))) ∧ (¬ (I 55 9) = 0 → Q I J))
abbrev rmX0_countSets : Room := { frames := 5, cells := 0, slots := 0, locals := 137 }
set_option maxHeartbeats 4000000 in
set_option maxRecDepth 100000 in
theorem w_X0_countSets_63 {Q : MI → MJ → Prop} (C : gC RX0 cX0_countSets 2 none 66 ad cy D (xF ad ts) p s m args meth c) {kL17 : Int32 × MI × MJ → Prop} (hL17 : ∀ {x1 : Int32} {I : MI} {J : MJ} {H : Heap} {locs : List Loc} {ls : Array Slot}, kL17 (x1, I, J) → gH (xS ad cy) 66 ad D s I J H locs → lv_has ls 2 [(0, .ref (ad 55)), (1, .int x1)] → W p l e rmX0_countSets s m args below meth c H locs 0 0 (MQ below (gQv (xS ad cy) 66 ad cy D (xF ad ts) Q) args s 0 0 (gA 66 ad)) (F0 m 17 ls [])) {x1 : Int32} {s1 : Int32} {s2 : Int64} {I : MI} {J : MJ} {H : Heap} {locs : List Loc} {ls : Array Slot} (h : P_X0_countSets_63 Q kL17 x1 s1 s2 I J) (hw : gH (xS ad cy) 66 ad D s I J H locs) (hl : lv_has ls 2 [(0, .ref (ad 55)), (1, .int x1)]) : W p l e rmX0_countSets s m args below meth c H locs 0 0 (MQ below (gQv (xS ad cy) 66 ad cy D (xF ad ts) Q) args s 0 0 (gA 66 ad)) (F0 m 63 ls [.long s2, .int s1, .ref (ad 60)]) := by
  obtain ⟨hx, hb, hC⟩ := id C
  refine g_last C hw xl_60 xs_60 h.1 dX0_countSets_63 (fun H locs hw => ?_)
  have h := h.2
  obtain ⟨J63, e63⟩ : ∃ z : MJ, z = mJ J 60 s1.toNatClampNeg s2 := ⟨_, rfl⟩
  have h := h J63 e63
  rw [← e63] at hw
  refine lv_iinc (v := x1 + 1) (lv' := [(1, .int (x1 + 1)), (0, .ref (ad 55))]) hx hb dX0_countSets_64 hl (k := 1) rfl rfl (by decide) rfl (fun ls hl => ?_)
  refine lv_goto (tgt := 17) hx hb dX0_countSets_67 (by decide) ?_
  exact hL17 h hw (lv_sub hl [1, 0] rfl)
set_option maxHeartbeats 4000000 in
set_option maxRecDepth 100000 in
theorem w_X0_countSets_17 {Q : MI → MJ → Prop} (C : gC RX0 cX0_countSets 2 none 66 ad cy D (xF ad ts) p s m args meth c) {kL17 : Int32 × MI × MJ → Prop} (hL17 : ∀ {x1 : Int32} {I : MI} {J : MJ} {H : Heap} {locs : List Loc} {ls : Array Slot}, kL17 (x1, I, J) → gH (xS ad cy) 66 ad D s I J H locs → lv_has ls 2 [(0, .ref (ad 55)), (1, .int x1)] → W p l e rmX0_countSets s m args below meth c H locs 0 0 (MQ below (gQv (xS ad cy) 66 ad cy D (xF ad ts) Q) args s 0 0 (gA 66 ad)) (F0 m 17 ls [])) {x1 : Int32} {I : MI} {J : MJ} {H : Heap} {locs : List Loc} {ls : Array Slot} (h : P_X0_countSets_17 Q kL17 (x1, I, J)) (hw : gH (xS ad cy) 66 ad D s I J H locs) (hl : lv_has ls 2 [(0, .ref (ad 55)), (1, .int x1)]) : W p l e rmX0_countSets s m args below meth c H locs 0 0 (MQ below (gQv (xS ad cy) 66 ad cy D (xF ad ts) Q) args s 0 0 (gA 66 ad)) (F0 m 17 ls []) := by
  obtain ⟨hx, hb, hC⟩ := id C
  refine lv_iload_n hx hb dX0_countSets_17 rfl (lv_at hl 1 rfl) ?_
  refine lv_iconst (v := 1) hx hb dX0_countSets_18 (by decide) ?_
  refine lv_aload_n hx hb dX0_countSets_19 rfl (lv_at hl 0 rfl) ?_
  refine g_get C hw f_RX0_29 xl_55 (xs_55 _ _) rfl dX0_countSets_20 ?_
  refine lv_ishl hx hb dX0_countSets_23 ?_
  refine lv_icmp_ge (tgt := 70) hx hb dX0_countSets_24 (by decide) (fun c24 => ?_) (fun c24 => ?_)
  · have h := h.1 c24
    refine lv_aload_n hx hb dX0_countSets_70 rfl (lv_at hl 0 rfl) ?_
    refine lv_iconst (v := 1) hx hb dX0_countSets_71 (by decide) ?_
    refine g_putI C hw fp_RX0_37 xl_55 xs_55 (st_0_9 ad _) (Nat.le_of_ble_eq_true rfl) (by decide) (by decide) dX0_countSets_72 (fun H locs hw => ?_)
    obtain ⟨I72, e72⟩ : ∃ z : MI, z = mI I 55 9 (1 : Int32) := ⟨_, rfl⟩
    have h := h I72 e72
    rw [← e72] at hw
    exact g_vret C hw h dX0_countSets_75
  · have h := h.2 c24
    refine lv_aload_n hx hb dX0_countSets_27 rfl (lv_at hl 0 rfl) ?_
    refine g_get C hw f_RX0_26 xl_55 (xs_55 _ _) rfl dX0_countSets_28 ?_
    refine lv_iload_n hx hb dX0_countSets_31 rfl (lv_at hl 1 rfl) ?_
    refine lv_aload_n hx hb dX0_countSets_32 rfl (lv_at hl 0 rfl) ?_
    refine lv_iload_n hx hb dX0_countSets_33 rfl (lv_at hl 1 rfl) ?_
    refine g_cz hw (g_rV [.int x1] [.int x1, .ref (ad 60)] C hw (m_X0_isOpened h) k_X0_isOpened q_RX0_91 xl_55 (xs_55 _ _) rfl rfl hl.1 rfl (Nat.le_of_ble_eq_true rfl) ⟨⟨rfl, rfl⟩, Nat.le_of_ble_eq_true rfl, Nat.le_of_ble_eq_true rfl⟩ ⟨Nat.zero_le _, Nat.zero_le _⟩ dX0_countSets_34) (fun r34 I34 J34 H locs z34 h hw => ?_)
    refine lv_if_eq (tgt := 62) hx hb dX0_countSets_37 (by decide) (fun c37 => ?_) (fun c37 => ?_)
    · have h := h.1 c37
      refine lv_lconst (v := 0) hx hb dX0_countSets_62 (by decide) ?_
      exact w_X0_countSets_63 C hL17 h hw (lv_sub hl [0, 1] rfl)
    · have h := h.2 c37
      refine lv_aload_n hx hb dX0_countSets_40 rfl (lv_at hl 0 rfl) ?_
      refine g_get C hw f_RX0_48 xl_55 (xs_55 _ _) rfl dX0_countSets_41 ?_
      refine lv_aload_n hx hb dX0_countSets_44 rfl (lv_at hl 0 rfl) ?_
      refine g_get C hw f_RX0_48 xl_55 (xs_55 _ _) rfl dX0_countSets_45 ?_
      refine g_get C hw f_RX0_95 xl_39 (xs_39 _ _) rfl dX0_countSets_48 ?_
      refine lv_aload_n hx hb dX0_countSets_51 rfl (lv_at hl 0 rfl) ?_
      refine lv_iload_n hx hb dX0_countSets_52 rfl (lv_at hl 1 rfl) ?_
      refine g_ci hw (g_rV [.int x1] [.ref (ad 40), .ref (ad 39), .int x1, .ref (ad 60)] C hw (m_X0_wordsOf h) k_X0_wordsOf q_RX0_99 xl_55 (xs_55 _ _) rfl rfl hl.1 rfl (Nat.le_of_ble_eq_true rfl) ⟨⟨rfl, rfl⟩, Nat.le_of_ble_eq_true rfl, Nat.le_of_ble_eq_true rfl⟩ ⟨Nat.zero_le _, Nat.zero_le _⟩ dX0_countSets_53) (fun r53 I53 J53 H locs h hw => ?_)
      refine g_cl hw (g_rV [.ref (ad 40), .int r53] [.int x1, .ref (ad 60)] C hw (m_X6_foldWithin isWay_40 h) k_X6_foldWithin q_RX0_87 xl_39 (xs_39 _ _) rfl rfl hl.1 rfl (Nat.le_of_ble_eq_true rfl) ⟨⟨rfl, rfl⟩, Nat.le_of_ble_eq_true rfl, Nat.le_of_ble_eq_true rfl⟩ ⟨Nat.zero_le _, Nat.zero_le _⟩ dX0_countSets_56) (fun r56 I56 J56 H locs h hw => ?_)
      refine lv_goto (tgt := 63) hx hb dX0_countSets_59 (by decide) ?_
      exact w_X0_countSets_63 C hL17 h hw (lv_sub hl [0, 1] rfl)
theorem wl_X0_countSets_17 {Q : MI → MJ → Prop} (C : gC RX0 cX0_countSets 2 none 66 ad cy D (xF ad ts) p s m args meth c) {x1 : Int32} {I : MI} {J : MJ} {H : Heap} {locs : List Loc} {ls : Array Slot} (h : lpx (P_X0_countSets_17 Q) (x1, I, J)) (hw : gH (xS ad cy) 66 ad D s I J H locs) (hl : lv_has ls 2 [(0, .ref (ad 55)), (1, .int x1)]) : W p l e rmX0_countSets s m args below meth c H locs 0 0 (MQ below (gQv (xS ad cy) 66 ad cy D (xF ad ts) Q) args s 0 0 (gA 66 ad)) (F0 m 17 ls []) := by
  obtain ⟨n, h⟩ := h
  induction n generalizing x1 I J H locs ls with
  | zero => exact False.elim h
  | succ n ih => exact w_X0_countSets_17 C  (fun hk9 hw9 hl9 => ih hw9 hl9 hk9) h hw hl
set_option maxHeartbeats 4000000 in
set_option maxRecDepth 100000 in
theorem w_X0_countSets {Q : MI → MJ → Prop} (C : gC RX0 cX0_countSets 2 none 66 ad cy D (xF ad ts) p s m args meth c) {I : MI} {J : MJ} {H : Heap} {locs : List Loc} {ls : Array Slot} (h : P_X0_countSets I J Q) (hw : gH (xS ad cy) 66 ad D s I J H locs) (hl : lv_has ls 2 [(0, .ref (ad 55))]) : W p l e rmX0_countSets s m args below meth c H locs 0 0 (MQ below (gQv (xS ad cy) 66 ad cy D (xF ad ts) Q) args s 0 0 (gA 66 ad)) (F0 m 0 ls []) := by
  obtain ⟨hx, hb, hC⟩ := id C
  refine lv_aload_n hx hb dX0_countSets_0 rfl (lv_at hl 0 rfl) ?_
  refine g_get C hw f_RX0_37 xl_55 (xs_55 _ _) rfl dX0_countSets_1 ?_
  refine lv_if_eq (tgt := 8) hx hb dX0_countSets_4 (by decide) (fun c4 => ?_) (fun c4 => ?_)
  · have h := h.1 c4
    refine lv_aload_n hx hb dX0_countSets_8 rfl (lv_at hl 0 rfl) ?_
    refine g_get C hw f_RX0_48 xl_55 (xs_55 _ _) rfl dX0_countSets_9 ?_
    refine g_cv hw (g_rV [] [] C hw (m_X6_refresh h) k_X6_refresh q_RX0_71 xl_39 (xs_39 _ _) rfl rfl hl.1 rfl (Nat.le_of_ble_eq_true rfl) ⟨⟨rfl, rfl⟩, Nat.le_of_ble_eq_true rfl, Nat.le_of_ble_eq_true rfl⟩ ⟨Nat.zero_le _, Nat.zero_le _⟩ dX0_countSets_12) (fun I12 J12 H locs h hw => ?_)
    refine lv_iconst (v := 0) hx hb dX0_countSets_15 (by decide) ?_
    refine lv_istore_n (lv' := [(1, .int (0 : Int32)), (0, .ref (ad 55))]) hx hb dX0_countSets_16 rfl hl (by decide) rfl (fun ls hl => ?_)
    exact wl_X0_countSets_17 C  h hw (lv_sub hl [1, 0] rfl)
  · have h := h.2 c4
    exact g_vret C hw h dX0_countSets_7
theorem m_X0_countSets {l : Launch} {Q : MI → MJ → Prop} {I : MI} {J : MJ} (h : P_X0_countSets I J Q) : Met l yX0_countSets (xws yX0_countSets cX0_countSets 2 none) rmX0_countSets (va_Pc [.ref (ad 55)] (gB (xS ad cy) 66 ad cy D (xF ad ts) I J)) (gQv (xS ad cy) 66 ad cy D (xF ad ts) Q) 0 0 (gA 66 ad) :=
  g_met (xF_ok ad ts) rfl (by decide) (Nat.le_of_ble_eq_true rfl) (fun p e s m below meth c ls C hw hl => w_X0_countSets C  h hw hl)
/-! BagPhrases$Chances.shareOf(I)J -/
def P_X0_shareOf_119 (Q : Int64 → MI → MJ → Prop) (kL45 : Int32 × Int64 × Int32 × MI × MJ → Prop) (x2 : Int32) (x3 : Int64) (x5 : Int32) (I : MI) (J : MJ) : Prop :=
  kL45 (x2, x3, (x5 + 1), I, J)
def P_X0_shareOf_45 (Q : Int64 → MI → MJ → Prop) (kL45 : Int32 × Int64 × Int32 × MI × MJ → Prop) : Int32 × Int64 × Int32 × MI × MJ → Prop := fun z => match z with
  | (x2, x3, x5, I, J) => ((((1 : Int32) <<< ((I 55 7) &&& 31)) ≤ x5 → Q x3 I J) ∧ (¬ ((1 : Int32) <<< ((I 55 7) &&& 31)) ≤ x5 → (((x5 &&& x2) = 0 → P_X0_shareOf_119 Q kL45 x2 x3 x5 I J) ∧ (¬ (x5 &&& x2) = 0 → P_J6_bitCount_0f7a4 x5 I J (fun r65 I65 J65 => vp_in (r65 - (1 : Int32)) 9 ∧ (vp_in (((I65 55 7) - (1 : Int32)) - (r65 - (1 : Int32))) 9 ∧ (vp_in x5 256 ∧ (vp_in (x5 ^^^ x2) 256 ∧ (P_X0_shareOf_119 Q kL45 x2 (x3 + ((((stI (r65 - (1 : Int32)).toNatClampNeg).toInt64) * ((stI (((I65 55 7) - (1 : Int32)) - (r65 - (1 : Int32))).toNatClampNeg).toInt64)) * ((J65 60 x5.toNatClampNeg) - (J65 60 (x5 ^^^ x2).toNatClampNeg)))) x5 I65 J65)))))))))
def P_X0_shareOf_34 (Q : Int64 → MI → MJ → Prop) (kL12 : Int32 × Int32 × Int32 × MI × MJ → Prop) (x1 : Int32) (x2 : Int32) (x3 : Int32) (I : MI) (J : MJ) : Prop :=
  kL12 (x1, x2, (x3 + 1), I, J)
def P_X0_shareOf_12 (Q : Int64 → MI → MJ → Prop) (kL12 : Int32 × Int32 × Int32 × MI × MJ → Prop) : Int32 × Int32 × Int32 × MI × MJ → Prop := fun z => match z with
  | (x1, x2, x3, I, J) => (((I 55 7) ≤ x3 → lpx (P_X0_shareOf_45 Q) (x2, (0 : Int64), (0 : Int32), I, J)) ∧ (¬ (I 55 7) ≤ x3 → vp_in x3 8 ∧ (((¬ (I 58 x3.toNatClampNeg) = x1 → P_X0_shareOf_34 Q kL12 x1 x2 x3 I J) ∧ ((I 58 x3.toNatClampNeg) = x1 → P_X0_shareOf_34 Q kL12 x1 ((1 : Int32) <<< (x3 &&& 31)) x3 I J)))))
def P_X0_shareOf (a0 : Int32) (I : MI) (J : MJ) (Q : Int64 → MI → MJ → Prop) : Prop :=
  P_X0_openSets I J (fun I1 J1 => P_X0_countSets I1 J1 (fun I5 J5 => lpx (P_X0_shareOf_12 Q) (a0, (0 : Int32), (0 : Int32), I5, J5)))
abbrev rmX0_shareOf : Room := { frames := 6, cells := 0, slots := 0, locals := 160 }
set_option maxHeartbeats 4000000 in
set_option maxRecDepth 100000 in
theorem w_X0_shareOf_119 {Q : Int64 → MI → MJ → Prop} (C : gC RX0 cX0_shareOf 9 (some .long) 66 ad cy D (xF ad ts) p s m args meth c) {kL45 : Int32 × Int64 × Int32 × MI × MJ → Prop} (hL45 : ∀ {x2 : Int32} {x3 : Int64} {x5 : Int32} {I : MI} {J : MJ} {H : Heap} {locs : List Loc} {ls : Array Slot}, kL45 (x2, x3, x5, I, J) → gH (xS ad cy) 66 ad D s I J H locs → lv_has ls 9 [(0, .ref (ad 55)), (2, .int x2), (3, .long x3), (5, .int x5)] → W p l e rmX0_shareOf s m args below meth c H locs 0 0 (MQ below (gQl (xS ad cy) 66 ad cy D (xF ad ts) Q) args s 0 0 (gA 66 ad)) (F0 m 45 ls [])) {x2 : Int32} {x3 : Int64} {x5 : Int32} {I : MI} {J : MJ} {H : Heap} {locs : List Loc} {ls : Array Slot} (h : P_X0_shareOf_119 Q kL45 x2 x3 x5 I J) (hw : gH (xS ad cy) 66 ad D s I J H locs) (hl : lv_has ls 9 [(0, .ref (ad 55)), (2, .int x2), (3, .long x3), (5, .int x5)]) : W p l e rmX0_shareOf s m args below meth c H locs 0 0 (MQ below (gQl (xS ad cy) 66 ad cy D (xF ad ts) Q) args s 0 0 (gA 66 ad)) (F0 m 119 ls []) := by
  obtain ⟨hx, hb, hC⟩ := id C
  refine lv_iinc (v := x5 + 1) (lv' := [(5, .int (x5 + 1)), (0, .ref (ad 55)), (2, .int x2), (3, .long x3)]) hx hb dX0_shareOf_119 hl (k := 3) rfl rfl (by decide) rfl (fun ls hl => ?_)
  refine lv_goto (tgt := 45) hx hb dX0_shareOf_122 (by decide) ?_
  exact hL45 h hw (lv_sub hl [1, 2, 3, 0] rfl)
set_option maxHeartbeats 4000000 in
set_option maxRecDepth 100000 in
theorem w_X0_shareOf_45 {Q : Int64 → MI → MJ → Prop} (C : gC RX0 cX0_shareOf 9 (some .long) 66 ad cy D (xF ad ts) p s m args meth c) {kL45 : Int32 × Int64 × Int32 × MI × MJ → Prop} (hL45 : ∀ {x2 : Int32} {x3 : Int64} {x5 : Int32} {I : MI} {J : MJ} {H : Heap} {locs : List Loc} {ls : Array Slot}, kL45 (x2, x3, x5, I, J) → gH (xS ad cy) 66 ad D s I J H locs → lv_has ls 9 [(0, .ref (ad 55)), (2, .int x2), (3, .long x3), (5, .int x5)] → W p l e rmX0_shareOf s m args below meth c H locs 0 0 (MQ below (gQl (xS ad cy) 66 ad cy D (xF ad ts) Q) args s 0 0 (gA 66 ad)) (F0 m 45 ls [])) {x2 : Int32} {x3 : Int64} {x5 : Int32} {I : MI} {J : MJ} {H : Heap} {locs : List Loc} {ls : Array Slot} (h : P_X0_shareOf_45 Q kL45 (x2, x3, x5, I, J)) (hw : gH (xS ad cy) 66 ad D s I J H locs) (hl : lv_has ls 9 [(0, .ref (ad 55)), (2, .int x2), (3, .long x3), (5, .int x5)]) : W p l e rmX0_shareOf s m args below meth c H locs 0 0 (MQ below (gQl (xS ad cy) 66 ad cy D (xF ad ts) Q) args s 0 0 (gA 66 ad)) (F0 m 45 ls []) := by
  obtain ⟨hx, hb, hC⟩ := id C
  refine lv_iload hx hb dX0_shareOf_45 (lv_at hl 3 rfl) ?_
  refine lv_iconst (v := 1) hx hb dX0_shareOf_47 (by decide) ?_
  refine lv_aload_n hx hb dX0_shareOf_48 rfl (lv_at hl 0 rfl) ?_
  refine g_get C hw f_RX0_29 xl_55 (xs_55 _ _) rfl dX0_shareOf_49 ?_
  refine lv_ishl hx hb dX0_shareOf_52 ?_
  refine lv_icmp_ge (tgt := 125) hx hb dX0_shareOf_53 (by decide) (fun c53 => ?_) (fun c53 => ?_)
  · have h := h.1 c53
    refine lv_lload_n hx hb dX0_shareOf_125 rfl (lv_at hl 2 rfl) ?_
    exact g_lret C hw h dX0_shareOf_126
  · have h := h.2 c53
    refine lv_iload hx hb dX0_shareOf_56 (lv_at hl 3 rfl) ?_
    refine lv_iload_n hx hb dX0_shareOf_58 rfl (lv_at hl 1 rfl) ?_
    refine lv_iand hx hb dX0_shareOf_59 ?_
    refine lv_if_eq (tgt := 119) hx hb dX0_shareOf_60 (by decide) (fun c60 => ?_) (fun c60 => ?_)
    · have h := h.1 c60
      exact w_X0_shareOf_119 C hL45 h hw (lv_sub hl [0, 1, 2, 3] rfl)
    · have h := h.2 c60
      refine lv_iload hx hb dX0_shareOf_63 (lv_at hl 3 rfl) ?_
      refine g_ci hw (g_rS [.int x5] [] C hw (m_J6_bitCount_0f7a4 h) k_J6_bitCount_0f7a4 q_RX0_62 rfl hl.1 rfl (Nat.le_of_ble_eq_true rfl) ⟨⟨rfl, rfl⟩, Nat.le_of_ble_eq_true rfl, Nat.le_of_ble_eq_true rfl⟩ ⟨Nat.zero_le _, Nat.zero_le _⟩ dX0_shareOf_65) (fun r65 I65 J65 H locs h hw => ?_)
      refine lv_iconst (v := 1) hx hb dX0_shareOf_68 (by decide) ?_
      refine lv_isub hx hb dX0_shareOf_69 ?_
      refine lv_istore (lv' := [(6, .int (r65 - (1 : Int32))), (0, .ref (ad 55)), (2, .int x2), (3, .long x3), (5, .int x5)]) hx hb dX0_shareOf_70 hl (by decide) rfl (fun ls hl => ?_)
      refine va_gets hx hb hC.2.2.2.2.2.2.1.1.2.1.1 hw.2.2 hC.2.2.1 (hC.2.2.2.1 _ qst_1) (fun _ h9 => h9) dX0_shareOf_72 ?_
      refine lv_iload hx hb dX0_shareOf_75 (lv_at hl 0 rfl) ?_
      refine va_ti hx hb hC.2.2.2.2.2.2.1.1.2.1.2 hw.2.2 h.1 rfl dX0_shareOf_77 ?_
      have h := h.2
      refine lv_i2l hx hb dX0_shareOf_78 rfl ?_
      refine va_gets hx hb hC.2.2.2.2.2.2.1.1.2.1.1 hw.2.2 hC.2.2.1 (hC.2.2.2.1 _ qst_1) (fun _ h9 => h9) dX0_shareOf_79 ?_
      refine lv_aload_n hx hb dX0_shareOf_82 rfl (lv_at hl 1 rfl) ?_
      refine g_get C hw f_RX0_29 xl_55 (xs_55 _ _) rfl dX0_shareOf_83 ?_
      refine lv_iconst (v := 1) hx hb dX0_shareOf_86 (by decide) ?_
      refine lv_isub hx hb dX0_shareOf_87 ?_
      refine lv_iload hx hb dX0_shareOf_88 (lv_at hl 0 rfl) ?_
      refine lv_isub hx hb dX0_shareOf_90 ?_
      refine va_ti hx hb hC.2.2.2.2.2.2.1.1.2.1.2 hw.2.2 h.1 rfl dX0_shareOf_91 ?_
      have h := h.2
      refine lv_i2l hx hb dX0_shareOf_92 rfl ?_
      refine lv_lmul hx hb dX0_shareOf_93 ?_
      refine lv_lstore (lv' := [(7, .long (((stI (r65 - (1 : Int32)).toNatClampNeg).toInt64) * ((stI (((I65 55 7) - (1 : Int32)) - (r65 - (1 : Int32))).toNatClampNeg).toInt64))), (6, .int (r65 - (1 : Int32))), (0, .ref (ad 55)), (2, .int x2), (3, .long x3), (5, .int x5)]) hx hb dX0_shareOf_94 hl (by decide) rfl (fun ls hl => ?_)
      refine lv_lload_n hx hb dX0_shareOf_96 rfl (lv_at hl 4 rfl) ?_
      refine lv_lload hx hb dX0_shareOf_97 (lv_at hl 0 rfl) ?_
      refine lv_aload_n hx hb dX0_shareOf_99 rfl (lv_at hl 2 rfl) ?_
      refine g_get C hw f_RX0_26 xl_55 (xs_55 _ _) rfl dX0_shareOf_100 ?_
      refine lv_iload hx hb dX0_shareOf_103 (lv_at hl 5 rfl) ?_
      refine g_lald C hw xl_60 xs_60 h.1 dX0_shareOf_105 ?_
      have h := h.2
      refine lv_aload_n hx hb dX0_shareOf_106 rfl (lv_at hl 2 rfl) ?_
      refine g_get C hw f_RX0_26 xl_55 (xs_55 _ _) rfl dX0_shareOf_107 ?_
      refine lv_iload hx hb dX0_shareOf_110 (lv_at hl 5 rfl) ?_
      refine lv_iload_n hx hb dX0_shareOf_112 rfl (lv_at hl 3 rfl) ?_
      refine lv_ixor hx hb dX0_shareOf_113 ?_
      refine g_lald C hw xl_60 xs_60 h.1 dX0_shareOf_114 ?_
      have h := h.2
      refine lv_lsub hx hb dX0_shareOf_115 ?_
      refine lv_lmul hx hb dX0_shareOf_116 ?_
      refine lv_ladd hx hb dX0_shareOf_117 ?_
      refine lv_lstore_n (lv' := [(3, .long (x3 + ((((stI (r65 - (1 : Int32)).toNatClampNeg).toInt64) * ((stI (((I65 55 7) - (1 : Int32)) - (r65 - (1 : Int32))).toNatClampNeg).toInt64)) * ((J65 60 x5.toNatClampNeg) - (J65 60 (x5 ^^^ x2).toNatClampNeg))))), (7, .long (((stI (r65 - (1 : Int32)).toNatClampNeg).toInt64) * ((stI (((I65 55 7) - (1 : Int32)) - (r65 - (1 : Int32))).toNatClampNeg).toInt64))), (6, .int (r65 - (1 : Int32))), (0, .ref (ad 55)), (2, .int x2), (5, .int x5)]) hx hb dX0_shareOf_118 rfl hl (by decide) rfl (fun ls hl => ?_)
      exact w_X0_shareOf_119 C hL45 h hw (lv_sub hl [3, 4, 0, 5] rfl)
theorem wl_X0_shareOf_45 {Q : Int64 → MI → MJ → Prop} (C : gC RX0 cX0_shareOf 9 (some .long) 66 ad cy D (xF ad ts) p s m args meth c) {x2 : Int32} {x3 : Int64} {x5 : Int32} {I : MI} {J : MJ} {H : Heap} {locs : List Loc} {ls : Array Slot} (h : lpx (P_X0_shareOf_45 Q) (x2, x3, x5, I, J)) (hw : gH (xS ad cy) 66 ad D s I J H locs) (hl : lv_has ls 9 [(0, .ref (ad 55)), (2, .int x2), (3, .long x3), (5, .int x5)]) : W p l e rmX0_shareOf s m args below meth c H locs 0 0 (MQ below (gQl (xS ad cy) 66 ad cy D (xF ad ts) Q) args s 0 0 (gA 66 ad)) (F0 m 45 ls []) := by
  obtain ⟨n, h⟩ := h
  induction n generalizing x2 x3 x5 I J H locs ls with
  | zero => exact False.elim h
  | succ n ih => exact w_X0_shareOf_45 C  (fun hk9 hw9 hl9 => ih hw9 hl9 hk9) h hw hl
set_option maxHeartbeats 4000000 in
set_option maxRecDepth 100000 in
theorem w_X0_shareOf_34 {Q : Int64 → MI → MJ → Prop} (C : gC RX0 cX0_shareOf 9 (some .long) 66 ad cy D (xF ad ts) p s m args meth c) {kL12 : Int32 × Int32 × Int32 × MI × MJ → Prop} (hL12 : ∀ {x1 : Int32} {x2 : Int32} {x3 : Int32} {I : MI} {J : MJ} {H : Heap} {locs : List Loc} {ls : Array Slot}, kL12 (x1, x2, x3, I, J) → gH (xS ad cy) 66 ad D s I J H locs → lv_has ls 9 [(0, .ref (ad 55)), (1, .int x1), (2, .int x2), (3, .int x3)] → W p l e rmX0_shareOf s m args below meth c H locs 0 0 (MQ below (gQl (xS ad cy) 66 ad cy D (xF ad ts) Q) args s 0 0 (gA 66 ad)) (F0 m 12 ls [])) {x1 : Int32} {x2 : Int32} {x3 : Int32} {I : MI} {J : MJ} {H : Heap} {locs : List Loc} {ls : Array Slot} (h : P_X0_shareOf_34 Q kL12 x1 x2 x3 I J) (hw : gH (xS ad cy) 66 ad D s I J H locs) (hl : lv_has ls 9 [(0, .ref (ad 55)), (1, .int x1), (2, .int x2), (3, .int x3)]) : W p l e rmX0_shareOf s m args below meth c H locs 0 0 (MQ below (gQl (xS ad cy) 66 ad cy D (xF ad ts) Q) args s 0 0 (gA 66 ad)) (F0 m 34 ls []) := by
  obtain ⟨hx, hb, hC⟩ := id C
  refine lv_iinc (v := x3 + 1) (lv' := [(3, .int (x3 + 1)), (0, .ref (ad 55)), (1, .int x1), (2, .int x2)]) hx hb dX0_shareOf_34 hl (k := 3) rfl rfl (by decide) rfl (fun ls hl => ?_)
  refine lv_goto (tgt := 12) hx hb dX0_shareOf_37 (by decide) ?_
  exact hL12 h hw (lv_sub hl [1, 2, 3, 0] rfl)
set_option maxHeartbeats 4000000 in
set_option maxRecDepth 100000 in
theorem w_X0_shareOf_12 {Q : Int64 → MI → MJ → Prop} (C : gC RX0 cX0_shareOf 9 (some .long) 66 ad cy D (xF ad ts) p s m args meth c) {kL12 : Int32 × Int32 × Int32 × MI × MJ → Prop} (hL12 : ∀ {x1 : Int32} {x2 : Int32} {x3 : Int32} {I : MI} {J : MJ} {H : Heap} {locs : List Loc} {ls : Array Slot}, kL12 (x1, x2, x3, I, J) → gH (xS ad cy) 66 ad D s I J H locs → lv_has ls 9 [(0, .ref (ad 55)), (1, .int x1), (2, .int x2), (3, .int x3)] → W p l e rmX0_shareOf s m args below meth c H locs 0 0 (MQ below (gQl (xS ad cy) 66 ad cy D (xF ad ts) Q) args s 0 0 (gA 66 ad)) (F0 m 12 ls [])) {x1 : Int32} {x2 : Int32} {x3 : Int32} {I : MI} {J : MJ} {H : Heap} {locs : List Loc} {ls : Array Slot} (h : P_X0_shareOf_12 Q kL12 (x1, x2, x3, I, J)) (hw : gH (xS ad cy) 66 ad D s I J H locs) (hl : lv_has ls 9 [(0, .ref (ad 55)), (1, .int x1), (2, .int x2), (3, .int x3)]) : W p l e rmX0_shareOf s m args below meth c H locs 0 0 (MQ below (gQl (xS ad cy) 66 ad cy D (xF ad ts) Q) args s 0 0 (gA 66 ad)) (F0 m 12 ls []) := by
  obtain ⟨hx, hb, hC⟩ := id C
  refine lv_iload_n hx hb dX0_shareOf_12 rfl (lv_at hl 3 rfl) ?_
  refine lv_aload_n hx hb dX0_shareOf_13 rfl (lv_at hl 0 rfl) ?_
  refine g_get C hw f_RX0_29 xl_55 (xs_55 _ _) rfl dX0_shareOf_14 ?_
  refine lv_icmp_ge (tgt := 40) hx hb dX0_shareOf_17 (by decide) (fun c17 => ?_) (fun c17 => ?_)
  · have h := h.1 c17
    refine lv_lconst (v := 0) hx hb dX0_shareOf_40 (by decide) ?_
    refine lv_lstore_n (lv' := [(3, .long (0 : Int64)), (0, .ref (ad 55)), (1, .int x1), (2, .int x2)]) hx hb dX0_shareOf_41 rfl hl (by decide) rfl (fun ls hl => ?_)
    refine lv_iconst (v := 0) hx hb dX0_shareOf_42 (by decide) ?_
    refine lv_istore (lv' := [(5, .int (0 : Int32)), (3, .long (0 : Int64)), (0, .ref (ad 55)), (1, .int x1), (2, .int x2)]) hx hb dX0_shareOf_43 hl (by decide) rfl (fun ls hl => ?_)
    exact wl_X0_shareOf_45 C  h hw (lv_sub hl [2, 4, 1, 0] rfl)
  · have h := h.2 c17
    refine lv_aload_n hx hb dX0_shareOf_20 rfl (lv_at hl 0 rfl) ?_
    refine g_get C hw f_RX0_18 xl_55 (xs_55 _ _) rfl dX0_shareOf_21 ?_
    refine lv_iload_n hx hb dX0_shareOf_24 rfl (lv_at hl 3 rfl) ?_
    refine g_iald C hw xl_58 xs_58 h.1 dX0_shareOf_25 ?_
    have h := h.2
    refine lv_iload_n hx hb dX0_shareOf_26 rfl (lv_at hl 1 rfl) ?_
    refine lv_icmp_ne (tgt := 34) hx hb dX0_shareOf_27 (by decide) (fun c27 => ?_) (fun c27 => ?_)
    · have h := h.1 c27
      exact w_X0_shareOf_34 C hL12 h hw (lv_sub hl [0, 1, 2, 3] rfl)
    · have h := h.2 c27
      refine lv_iconst (v := 1) hx hb dX0_shareOf_30 (by decide) ?_
      refine lv_iload_n hx hb dX0_shareOf_31 rfl (lv_at hl 3 rfl) ?_
      refine lv_ishl hx hb dX0_shareOf_32 ?_
      refine lv_istore_n (lv' := [(2, .int ((1 : Int32) <<< (x3 &&& 31))), (0, .ref (ad 55)), (1, .int x1), (3, .int x3)]) hx hb dX0_shareOf_33 rfl hl (by decide) rfl (fun ls hl => ?_)
      exact w_X0_shareOf_34 C hL12 h hw (lv_sub hl [1, 2, 0, 3] rfl)
theorem wl_X0_shareOf_12 {Q : Int64 → MI → MJ → Prop} (C : gC RX0 cX0_shareOf 9 (some .long) 66 ad cy D (xF ad ts) p s m args meth c) {x1 : Int32} {x2 : Int32} {x3 : Int32} {I : MI} {J : MJ} {H : Heap} {locs : List Loc} {ls : Array Slot} (h : lpx (P_X0_shareOf_12 Q) (x1, x2, x3, I, J)) (hw : gH (xS ad cy) 66 ad D s I J H locs) (hl : lv_has ls 9 [(0, .ref (ad 55)), (1, .int x1), (2, .int x2), (3, .int x3)]) : W p l e rmX0_shareOf s m args below meth c H locs 0 0 (MQ below (gQl (xS ad cy) 66 ad cy D (xF ad ts) Q) args s 0 0 (gA 66 ad)) (F0 m 12 ls []) := by
  obtain ⟨n, h⟩ := h
  induction n generalizing x1 x2 x3 I J H locs ls with
  | zero => exact False.elim h
  | succ n ih => exact w_X0_shareOf_12 C  (fun hk9 hw9 hl9 => ih hw9 hl9 hk9) h hw hl
set_option maxHeartbeats 4000000 in
set_option maxRecDepth 100000 in
theorem w_X0_shareOf {Q : Int64 → MI → MJ → Prop} (C : gC RX0 cX0_shareOf 9 (some .long) 66 ad cy D (xF ad ts) p s m args meth c) {a0 : Int32} {I : MI} {J : MJ} {H : Heap} {locs : List Loc} {ls : Array Slot} (h : P_X0_shareOf a0 I J Q) (hw : gH (xS ad cy) 66 ad D s I J H locs) (hl : lv_has ls 9 [(0, .ref (ad 55)), (1, .int a0)]) : W p l e rmX0_shareOf s m args below meth c H locs 0 0 (MQ below (gQl (xS ad cy) 66 ad cy D (xF ad ts) Q) args s 0 0 (gA 66 ad)) (F0 m 0 ls []) := by
  obtain ⟨hx, hb, hC⟩ := id C
  refine lv_aload_n hx hb dX0_shareOf_0 rfl (lv_at hl 0 rfl) ?_
  refine g_cv hw (g_rV [] [] C hw (m_X0_openSets h) k_X0_openSets q_RX0_102 xl_55 (xs_55 _ _) rfl rfl hl.1 rfl (Nat.le_of_ble_eq_true rfl) ⟨⟨rfl, rfl⟩, Nat.le_of_ble_eq_true rfl, Nat.le_of_ble_eq_true rfl⟩ ⟨Nat.zero_le _, Nat.zero_le _⟩ dX0_shareOf_1) (fun I1 J1 H locs h hw => ?_)
  refine lv_aload_n hx hb dX0_shareOf_4 rfl (lv_at hl 0 rfl) ?_
  refine g_cv hw (g_rV [] [] C hw (m_X0_countSets h) k_X0_countSets q_RX0_105 xl_55 (xs_55 _ _) rfl rfl hl.1 rfl (Nat.le_of_ble_eq_true rfl) ⟨⟨rfl, rfl⟩, Nat.le_of_ble_eq_true rfl, Nat.le_of_ble_eq_true rfl⟩ ⟨Nat.zero_le _, Nat.zero_le _⟩ dX0_shareOf_5) (fun I5 J5 H locs h hw => ?_)
  refine lv_iconst (v := 0) hx hb dX0_shareOf_8 (by decide) ?_
  refine lv_istore_n (lv' := [(2, .int (0 : Int32)), (0, .ref (ad 55)), (1, .int a0)]) hx hb dX0_shareOf_9 rfl hl (by decide) rfl (fun ls hl => ?_)
  refine lv_iconst (v := 0) hx hb dX0_shareOf_10 (by decide) ?_
  refine lv_istore_n (lv' := [(3, .int (0 : Int32)), (2, .int (0 : Int32)), (0, .ref (ad 55)), (1, .int a0)]) hx hb dX0_shareOf_11 rfl hl (by decide) rfl (fun ls hl => ?_)
  exact wl_X0_shareOf_12 C  h hw (lv_sub hl [2, 3, 1, 0] rfl)
theorem m_X0_shareOf {l : Launch} {a0 : Int32} {Q : Int64 → MI → MJ → Prop} {I : MI} {J : MJ} (h : P_X0_shareOf a0 I J Q) : Met l yX0_shareOf (xws yX0_shareOf cX0_shareOf 9 (some .long)) rmX0_shareOf (va_Pc [.ref (ad 55), .int a0] (gB (xS ad cy) 66 ad cy D (xF ad ts) I J)) (gQl (xS ad cy) 66 ad cy D (xF ad ts) Q) 0 0 (gA 66 ad) :=
  g_met (xF_ok ad ts) rfl (by decide) (Nat.le_of_ble_eq_true rfl) (fun p e s m below meth c ls C hw hl => w_X0_shareOf C  h hw hl)
/-! BagPhrases$Chances.orders()J -/
def P_X0_orders_28 (Q : Int64 → MI → MJ → Prop) (I : MI) (J : MJ) : Prop :=
  Q (1 : Int64) I J
def P_X0_orders (I : MI) (J : MJ) (Q : Int64 → MI → MJ → Prop) : Prop :=
  (((I 55 7) < 0 → P_X0_orders_28 Q I J) ∧ (¬ (I 55 7) < 0 → (((8 : Int32) < (I 55 7) → P_X0_orders_28 Q I J) ∧ (¬ (8 : Int32) < (I 55 7) → vp_in (I 55 7) 9 ∧ (Q ((stI (I 55 7).toNatClampNeg).toInt64) I J)))))
abbrev rmX0_orders : Room := { frames := 0, cells := 0, slots := 0, locals := 0 }
set_option maxHeartbeats 4000000 in
set_option maxRecDepth 100000 in
theorem w_X0_orders_28 {Q : Int64 → MI → MJ → Prop} (C : gC RX0 cX0_orders 1 (some .long) 66 ad cy D (xF ad ts) p s m args meth c) {I : MI} {J : MJ} {H : Heap} {locs : List Loc} {ls : Array Slot} (h : P_X0_orders_28 Q I J) (hw : gH (xS ad cy) 66 ad D s I J H locs) (hl : lv_has ls 1 []) : W p l e rmX0_orders s m args below meth c H locs 0 0 (MQ below (gQl (xS ad cy) 66 ad cy D (xF ad ts) Q) args s 0 0 (gA 66 ad)) (F0 m 28 ls []) := by
  obtain ⟨hx, hb, hC⟩ := id C
  refine lv_lconst (v := 1) hx hb dX0_orders_28 (by decide) ?_
  exact g_lret C hw h dX0_orders_29
set_option maxHeartbeats 4000000 in
set_option maxRecDepth 100000 in
theorem w_X0_orders {Q : Int64 → MI → MJ → Prop} (C : gC RX0 cX0_orders 1 (some .long) 66 ad cy D (xF ad ts) p s m args meth c) {I : MI} {J : MJ} {H : Heap} {locs : List Loc} {ls : Array Slot} (h : P_X0_orders I J Q) (hw : gH (xS ad cy) 66 ad D s I J H locs) (hl : lv_has ls 1 [(0, .ref (ad 55))]) : W p l e rmX0_orders s m args below meth c H locs 0 0 (MQ below (gQl (xS ad cy) 66 ad cy D (xF ad ts) Q) args s 0 0 (gA 66 ad)) (F0 m 0 ls []) := by
  obtain ⟨hx, hb, hC⟩ := id C
  refine lv_aload_n hx hb dX0_orders_0 rfl (lv_at hl 0 rfl) ?_
  refine g_get C hw f_RX0_29 xl_55 (xs_55 _ _) rfl dX0_orders_1 ?_
  refine lv_if_lt (tgt := 28) hx hb dX0_orders_4 (by decide) (fun c4 => ?_) (fun c4 => ?_)
  · have h := h.1 c4
    exact w_X0_orders_28 C  h hw (lv_sub hl [] rfl)
  · have h := h.2 c4
    refine lv_aload_n hx hb dX0_orders_7 rfl (lv_at hl 0 rfl) ?_
    refine g_get C hw f_RX0_29 xl_55 (xs_55 _ _) rfl dX0_orders_8 ?_
    refine lv_bipush (v := 8) hx hb dX0_orders_11 (by decide) ?_
    refine lv_icmp_gt (tgt := 28) hx hb dX0_orders_13 (by decide) (fun c13 => ?_) (fun c13 => ?_)
    · have h := h.1 c13
      exact w_X0_orders_28 C  h hw (lv_sub hl [] rfl)
    · have h := h.2 c13
      refine va_gets hx hb hC.2.2.2.2.2.2.1.1.2.1.1 hw.2.2 hC.2.2.1 (hC.2.2.2.1 _ qst_1) (fun _ h9 => h9) dX0_orders_16 ?_
      refine lv_aload_n hx hb dX0_orders_19 rfl (lv_at hl 0 rfl) ?_
      refine g_get C hw f_RX0_29 xl_55 (xs_55 _ _) rfl dX0_orders_20 ?_
      refine va_ti hx hb hC.2.2.2.2.2.2.1.1.2.1.2 hw.2.2 h.1 rfl dX0_orders_23 ?_
      have h := h.2
      refine lv_i2l hx hb dX0_orders_24 rfl ?_
      refine lv_goto (tgt := 29) hx hb dX0_orders_25 (by decide) ?_
      exact g_lret C hw h dX0_orders_29
theorem m_X0_orders {l : Launch} {Q : Int64 → MI → MJ → Prop} {I : MI} {J : MJ} (h : P_X0_orders I J Q) : Met l yX0_orders (xws yX0_orders cX0_orders 1 (some .long)) rmX0_orders (va_Pc [.ref (ad 55)] (gB (xS ad cy) 66 ad cy D (xF ad ts) I J)) (gQl (xS ad cy) 66 ad cy D (xF ad ts) Q) 0 0 (gA 66 ad) :=
  g_met (xF_ok ad ts) rfl (by decide) (Nat.le_of_ble_eq_true rfl) (fun p e s m below meth c ls C hw hl => w_X0_orders C  h hw hl)
/-! BagPhrases.leastTerms(JJZ)J -/
def P_X11_leastTerms_75 (Q : Int64 → MI → MJ → Prop) (x5 : Int64) (s0 : Int64) (I : MI) (J : MJ) : Prop :=
  ¬ x5 = 0 ∧ (Q (s0 / x5) I J)
def P_X11_leastTerms_47 (Q : Int64 → MI → MJ → Prop) (x0 : Int64) (x2 : Int64) (x4 : Int32) (x5 : Int64) (I : MI) (J : MJ) : Prop :=
  ((¬ x5 = (0 : Int64) → ((x4 = 0 → P_X11_leastTerms_75 Q x5 x2 I J) ∧ (¬ x4 = 0 → P_X11_leastTerms_75 Q x5 x0 I J))) ∧ (x5 = (0 : Int64) → ((x4 = 0 → Q x2 I J) ∧ (¬ x4 = 0 → Q x0 I J))))
def P_X11_leastTerms_12 (Q : Int64 → MI → MJ → Prop) (kL12 : Int64 × Int64 × Int32 × Int64 × Int64 × Int32 × MI × MJ → Prop) : Int64 × Int64 × Int32 × Int64 × Int64 × Int32 × MI × MJ → Prop := fun z => match z with
  | (x0, x2, x4, x5, x7, x9, I, J) => (((100 : Int32) ≤ x9 → P_X11_leastTerms_47 Q x0 x2 x4 x5 I J) ∧ (¬ (100 : Int32) ≤ x9 → ((x7 = (0 : Int64) → P_X11_leastTerms_47 Q x0 x2 x4 x5 I J) ∧ (¬ x7 = (0 : Int64) → ¬ x7 = 0 ∧ (kL12 (x0, x2, x4, x7, (x5 - x5 / x7 * x7), (x9 + 1), I, J))))))
def P_X11_leastTerms (a0 : Int64) (a1 : Int64) (a2 : Int32) (I : MI) (J : MJ) (Q : Int64 → MI → MJ → Prop) : Prop :=
  lpx (P_X11_leastTerms_12 Q) (a0, a1, a2, (if 0 < a0 then a0 else -a0), a1, (0 : Int32), I, J)
abbrev rmX11_leastTerms : Room := { frames := 1, cells := 0, slots := 0, locals := 24 }
set_option maxHeartbeats 4000000 in
set_option maxRecDepth 100000 in
theorem w_X11_leastTerms_75 {Q : Int64 → MI → MJ → Prop} (C : gC RX11 cX11_leastTerms 12 (some .long) 66 ad cy D (xF ad ts) p s m args meth c) {x5 : Int64} {s0 : Int64} {I : MI} {J : MJ} {H : Heap} {locs : List Loc} {ls : Array Slot} (h : P_X11_leastTerms_75 Q x5 s0 I J) (hw : gH (xS ad cy) 66 ad D s I J H locs) (hl : lv_has ls 12 [(5, .long x5)]) : W p l e rmX11_leastTerms s m args below meth c H locs 0 0 (MQ below (gQl (xS ad cy) 66 ad cy D (xF ad ts) Q) args s 0 0 (gA 66 ad)) (F0 m 75 ls [.long s0]) := by
  obtain ⟨hx, hb, hC⟩ := id C
  refine lv_lload hx hb dX11_leastTerms_75 (lv_at hl 0 rfl) ?_
  refine lv_ldiv hx hb dX11_leastTerms_77 h.1 ?_
  have h := h.2
  exact g_lret C hw h dX11_leastTerms_78
set_option maxHeartbeats 4000000 in
set_option maxRecDepth 100000 in
theorem w_X11_leastTerms_47 {Q : Int64 → MI → MJ → Prop} (C : gC RX11 cX11_leastTerms 12 (some .long) 66 ad cy D (xF ad ts) p s m args meth c) {x0 : Int64} {x2 : Int64} {x4 : Int32} {x5 : Int64} {I : MI} {J : MJ} {H : Heap} {locs : List Loc} {ls : Array Slot} (h : P_X11_leastTerms_47 Q x0 x2 x4 x5 I J) (hw : gH (xS ad cy) 66 ad D s I J H locs) (hl : lv_has ls 12 [(0, .long x0), (2, .long x2), (4, .int x4), (5, .long x5)]) : W p l e rmX11_leastTerms s m args below meth c H locs 0 0 (MQ below (gQl (xS ad cy) 66 ad cy D (xF ad ts) Q) args s 0 0 (gA 66 ad)) (F0 m 47 ls []) := by
  obtain ⟨hx, hb, hC⟩ := id C
  refine lv_lload hx hb dX11_leastTerms_47 (lv_at hl 3 rfl) ?_
  refine lv_lconst (v := 0) hx hb dX11_leastTerms_49 (by decide) ?_
  refine g_lcmp_ne (tgt := 65) hx hb dX11_leastTerms_50 dX11_leastTerms_51 (by decide) (fun c50 => ?_) (fun c50 => ?_)
  · have h := h.1 c50
    refine lv_iload hx hb dX11_leastTerms_65 (lv_at hl 2 rfl) ?_
    refine lv_if_eq (tgt := 74) hx hb dX11_leastTerms_67 (by decide) (fun c67 => ?_) (fun c67 => ?_)
    · have h := h.1 c67
      refine lv_lload_n hx hb dX11_leastTerms_74 rfl (lv_at hl 1 rfl) ?_
      exact w_X11_leastTerms_75 C  h hw (lv_sub hl [3] rfl)
    · have h := h.2 c67
      refine lv_lload_n hx hb dX11_leastTerms_70 rfl (lv_at hl 0 rfl) ?_
      refine lv_goto (tgt := 75) hx hb dX11_leastTerms_71 (by decide) ?_
      exact w_X11_leastTerms_75 C  h hw (lv_sub hl [3] rfl)
  · have h := h.2 c50
    refine lv_iload hx hb dX11_leastTerms_54 (lv_at hl 2 rfl) ?_
    refine lv_if_eq (tgt := 63) hx hb dX11_leastTerms_56 (by decide) (fun c56 => ?_) (fun c56 => ?_)
    · have h := h.1 c56
      refine lv_lload_n hx hb dX11_leastTerms_63 rfl (lv_at hl 1 rfl) ?_
      exact g_lret C hw h dX11_leastTerms_64
    · have h := h.2 c56
      refine lv_lload_n hx hb dX11_leastTerms_59 rfl (lv_at hl 0 rfl) ?_
      refine lv_goto (tgt := 64) hx hb dX11_leastTerms_60 (by decide) ?_
      exact g_lret C hw h dX11_leastTerms_64
set_option maxHeartbeats 4000000 in
set_option maxRecDepth 100000 in
theorem w_X11_leastTerms_12 {Q : Int64 → MI → MJ → Prop} (C : gC RX11 cX11_leastTerms 12 (some .long) 66 ad cy D (xF ad ts) p s m args meth c) {kL12 : Int64 × Int64 × Int32 × Int64 × Int64 × Int32 × MI × MJ → Prop} (hL12 : ∀ {x0 : Int64} {x2 : Int64} {x4 : Int32} {x5 : Int64} {x7 : Int64} {x9 : Int32} {I : MI} {J : MJ} {H : Heap} {locs : List Loc} {ls : Array Slot}, kL12 (x0, x2, x4, x5, x7, x9, I, J) → gH (xS ad cy) 66 ad D s I J H locs → lv_has ls 12 [(0, .long x0), (2, .long x2), (4, .int x4), (5, .long x5), (7, .long x7), (9, .int x9)] → W p l e rmX11_leastTerms s m args below meth c H locs 0 0 (MQ below (gQl (xS ad cy) 66 ad cy D (xF ad ts) Q) args s 0 0 (gA 66 ad)) (F0 m 12 ls [])) {x0 : Int64} {x2 : Int64} {x4 : Int32} {x5 : Int64} {x7 : Int64} {x9 : Int32} {I : MI} {J : MJ} {H : Heap} {locs : List Loc} {ls : Array Slot} (h : P_X11_leastTerms_12 Q kL12 (x0, x2, x4, x5, x7, x9, I, J)) (hw : gH (xS ad cy) 66 ad D s I J H locs) (hl : lv_has ls 12 [(0, .long x0), (2, .long x2), (4, .int x4), (5, .long x5), (7, .long x7), (9, .int x9)]) : W p l e rmX11_leastTerms s m args below meth c H locs 0 0 (MQ below (gQl (xS ad cy) 66 ad cy D (xF ad ts) Q) args s 0 0 (gA 66 ad)) (F0 m 12 ls []) := by
  obtain ⟨hx, hb, hC⟩ := id C
  refine lv_iload hx hb dX11_leastTerms_12 (lv_at hl 5 rfl) ?_
  refine lv_bipush (v := 100) hx hb dX11_leastTerms_14 (by decide) ?_
  refine lv_icmp_ge (tgt := 47) hx hb dX11_leastTerms_16 (by decide) (fun c16 => ?_) (fun c16 => ?_)
  · have h := h.1 c16
    exact w_X11_leastTerms_47 C  h hw (lv_sub hl [0, 1, 2, 3] rfl)
  · have h := h.2 c16
    refine lv_lload hx hb dX11_leastTerms_19 (lv_at hl 4 rfl) ?_
    refine lv_lconst (v := 0) hx hb dX11_leastTerms_21 (by decide) ?_
    refine g_lcmp_eq (tgt := 47) hx hb dX11_leastTerms_22 dX11_leastTerms_23 (by decide) (fun c22 => ?_) (fun c22 => ?_)
    · have h := h.1 c22
      exact w_X11_leastTerms_47 C  h hw (lv_sub hl [0, 1, 2, 3] rfl)
    · have h := h.2 c22
      refine lv_lload hx hb dX11_leastTerms_26 (lv_at hl 3 rfl) ?_
      refine lv_lload hx hb dX11_leastTerms_28 (lv_at hl 4 rfl) ?_
      refine lv_lrem hx hb dX11_leastTerms_30 h.1 ?_
      have h := h.2
      refine lv_lstore (lv' := [(10, .long (x5 - x5 / x7 * x7)), (0, .long x0), (2, .long x2), (4, .int x4), (5, .long x5), (7, .long x7), (9, .int x9)]) hx hb dX11_leastTerms_31 hl (by decide) rfl (fun ls hl => ?_)
      refine lv_lload hx hb dX11_leastTerms_33 (lv_at hl 5 rfl) ?_
      refine lv_lstore (lv' := [(5, .long x7), (10, .long (x5 - x5 / x7 * x7)), (0, .long x0), (2, .long x2), (4, .int x4), (7, .long x7), (9, .int x9)]) hx hb dX11_leastTerms_35 hl (by decide) rfl (fun ls hl => ?_)
      refine lv_lload hx hb dX11_leastTerms_37 (lv_at hl 1 rfl) ?_
      refine lv_lstore (lv' := [(7, .long (x5 - x5 / x7 * x7)), (5, .long x7), (10, .long (x5 - x5 / x7 * x7)), (0, .long x0), (2, .long x2), (4, .int x4), (9, .int x9)]) hx hb dX11_leastTerms_39 hl (by decide) rfl (fun ls hl => ?_)
      refine lv_iinc (v := x9 + 1) (lv' := [(9, .int (x9 + 1)), (7, .long (x5 - x5 / x7 * x7)), (5, .long x7), (10, .long (x5 - x5 / x7 * x7)), (0, .long x0), (2, .long x2), (4, .int x4)]) hx hb dX11_leastTerms_41 hl (k := 6) rfl rfl (by decide) rfl (fun ls hl => ?_)
      refine lv_goto (tgt := 12) hx hb dX11_leastTerms_44 (by decide) ?_
      exact hL12 h hw (lv_sub hl [4, 5, 6, 2, 1, 0] rfl)
theorem wl_X11_leastTerms_12 {Q : Int64 → MI → MJ → Prop} (C : gC RX11 cX11_leastTerms 12 (some .long) 66 ad cy D (xF ad ts) p s m args meth c) {x0 : Int64} {x2 : Int64} {x4 : Int32} {x5 : Int64} {x7 : Int64} {x9 : Int32} {I : MI} {J : MJ} {H : Heap} {locs : List Loc} {ls : Array Slot} (h : lpx (P_X11_leastTerms_12 Q) (x0, x2, x4, x5, x7, x9, I, J)) (hw : gH (xS ad cy) 66 ad D s I J H locs) (hl : lv_has ls 12 [(0, .long x0), (2, .long x2), (4, .int x4), (5, .long x5), (7, .long x7), (9, .int x9)]) : W p l e rmX11_leastTerms s m args below meth c H locs 0 0 (MQ below (gQl (xS ad cy) 66 ad cy D (xF ad ts) Q) args s 0 0 (gA 66 ad)) (F0 m 12 ls []) := by
  obtain ⟨n, h⟩ := h
  induction n generalizing x0 x2 x4 x5 x7 x9 I J H locs ls with
  | zero => exact False.elim h
  | succ n ih => exact w_X11_leastTerms_12 C  (fun hk9 hw9 hl9 => ih hw9 hl9 hk9) h hw hl
set_option maxHeartbeats 4000000 in
set_option maxRecDepth 100000 in
theorem w_X11_leastTerms {Q : Int64 → MI → MJ → Prop} (C : gC RX11 cX11_leastTerms 12 (some .long) 66 ad cy D (xF ad ts) p s m args meth c) {a0 : Int64} {a1 : Int64} {a2 : Int32} {I : MI} {J : MJ} {H : Heap} {locs : List Loc} {ls : Array Slot} (h : P_X11_leastTerms a0 a1 a2 I J Q) (hw : gH (xS ad cy) 66 ad D s I J H locs) (hl : lv_has ls 12 [(0, .long a0), (2, .long a1), (4, .int a2)]) : W p l e rmX11_leastTerms s m args below meth c H locs 0 0 (MQ below (gQl (xS ad cy) 66 ad cy D (xF ad ts) Q) args s 0 0 (gA 66 ad)) (F0 m 0 ls []) := by
  obtain ⟨hx, hb, hC⟩ := id C
  refine lv_lload_n hx hb dX11_leastTerms_0 rfl (lv_at hl 0 rfl) ?_
  refine va_mabs_long hx hb (hC.2.1.trans hl.1.symm) hC.2.2.1 (hC.2.2.2.1 _ q_RX11_341) (hC.2.2.2.1 _ qms_abs) (hC.2.2.2.1 _ qi_RJ9) (hC.2.2.2.1 _ qmc_abs) (Nat.le_of_ble_eq_true rfl) (Nat.le_of_ble_eq_true rfl) (Nat.zero_le _) (Nat.zero_le _) dX11_leastTerms_1 ?_
  refine lv_lstore (lv' := [(5, .long (if 0 < a0 then a0 else -a0)), (0, .long a0), (2, .long a1), (4, .int a2)]) hx hb dX11_leastTerms_4 hl (by decide) rfl (fun ls hl => ?_)
  refine lv_lload_n hx hb dX11_leastTerms_6 rfl (lv_at hl 2 rfl) ?_
  refine lv_lstore (lv' := [(7, .long a1), (5, .long (if 0 < a0 then a0 else -a0)), (0, .long a0), (2, .long a1), (4, .int a2)]) hx hb dX11_leastTerms_7 hl (by decide) rfl (fun ls hl => ?_)
  refine lv_iconst (v := 0) hx hb dX11_leastTerms_9 (by decide) ?_
  refine lv_istore (lv' := [(9, .int (0 : Int32)), (7, .long a1), (5, .long (if 0 < a0 then a0 else -a0)), (0, .long a0), (2, .long a1), (4, .int a2)]) hx hb dX11_leastTerms_10 hl (by decide) rfl (fun ls hl => ?_)
  exact wl_X11_leastTerms_12 C  h hw (lv_sub hl [3, 4, 5, 2, 1, 0] rfl)
theorem m_X11_leastTerms {l : Launch} {a0 : Int64} {a1 : Int64} {a2 : Int32} {Q : Int64 → MI → MJ → Prop} {I : MI} {J : MJ} (h : P_X11_leastTerms a0 a1 a2 I J Q) : Met l yX11_leastTerms (xws yX11_leastTerms cX11_leastTerms 12 (some .long)) rmX11_leastTerms (va_Pc [.long a0, .long a1, .int a2] (gB (xS ad cy) 66 ad cy D (xF ad ts) I J)) (gQl (xS ad cy) 66 ad cy D (xF ad ts) Q) 0 0 (gA 66 ad) :=
  g_met (xF_ok ad ts) rfl (by decide) (Nat.le_of_ble_eq_true rfl) (fun p e s m below meth c ls C hw hl => w_X11_leastTerms C  h hw hl)
/-! BagPhrases.share(IZ)J -/
def P_X11_share_39 (Q : Int64 → MI → MJ → Prop) (I : MI) (J : MJ) : Prop :=
  Q (-3 : Int64) I J
def P_X11_share (a0 : Int32) (a1 : Int32) (I : MI) (J : MJ) (Q : Int64 → MI → MJ → Prop) : Prop :=
  P_X5_has 12 a0 I J (fun r5 I5 J5 => ((¬ r5 = 0 → ((¬ (((I5 17 5) >>> (a0 &&& 31)) &&& (1 : Int32)) = 0 → P_X11_share_39 Q I5 J5) ∧ ((((I5 17 5) >>> (a0 &&& 31)) &&& (1 : Int32)) = 0 → P_X0_areFew I5 J5 (fun r33 I33 J33 => ((¬ r33 = 0 → P_X0_shareOf a0 I33 J33 (fun r48 I48 J48 => P_X0_orders I48 J48 (fun r55 I55 J55 => P_X11_leastTerms r48 r55 a1 I55 J55 (fun r59 I59 J59 => Q r59 I59 J59)))) ∧ (r33 = 0 → P_X11_share_39 Q I33 J33)))))) ∧ (r5 = 0 → Q (-1 : Int64) I5 J5)))
abbrev rmX11_share : Room := { frames := 7, cells := 0, slots := 0, locals := 188 }
set_option maxHeartbeats 4000000 in
set_option maxRecDepth 100000 in
theorem w_X11_share_39 {Q : Int64 → MI → MJ → Prop} (C : gC RX11 cX11_share 3 (some .long) 66 ad cy D (xF ad ts) p s m args meth c) {I : MI} {J : MJ} {H : Heap} {locs : List Loc} {ls : Array Slot} (h : P_X11_share_39 Q I J) (hw : gH (xS ad cy) 66 ad D s I J H locs) (hl : lv_has ls 3 []) : W p l e rmX11_share s m args below meth c H locs 0 0 (MQ below (gQl (xS ad cy) 66 ad cy D (xF ad ts) Q) args s 0 0 (gA 66 ad)) (F0 m 39 ls []) := by
  obtain ⟨hx, hb, hC⟩ := id C
  refine lv_ldc2 (v := (-3)) hx hb hC.2.2.1 (hC.2.2.2.1 _ q_RX11_257) dX11_share_39 ?_
  exact g_lret C hw h dX11_share_42
set_option maxHeartbeats 4000000 in
set_option maxRecDepth 100000 in
theorem w_X11_share {Q : Int64 → MI → MJ → Prop} (C : gC RX11 cX11_share 3 (some .long) 66 ad cy D (xF ad ts) p s m args meth c) {a0 : Int32} {a1 : Int32} {I : MI} {J : MJ} {H : Heap} {locs : List Loc} {ls : Array Slot} (h : P_X11_share a0 a1 I J Q) (hw : gH (xS ad cy) 66 ad D s I J H locs) (hl : lv_has ls 3 [(0, .ref (ad 0)), (1, .int a0), (2, .int a1)]) : W p l e rmX11_share s m args below meth c H locs 0 0 (MQ below (gQl (xS ad cy) 66 ad cy D (xF ad ts) Q) args s 0 0 (gA 66 ad)) (F0 m 0 ls []) := by
  obtain ⟨hx, hb, hC⟩ := id C
  refine lv_aload_n hx hb dX11_share_0 rfl (lv_at hl 0 rfl) ?_
  refine g_get C hw f_RX11_19 xl_0 (xs_0 _ _) rfl dX11_share_1 ?_
  refine lv_iload_n hx hb dX11_share_4 rfl (lv_at hl 1 rfl) ?_
  refine g_cz hw (g_rV [.int a0] [] C hw (m_X5_has isLex_12 h) k_X5_has q_RX11_149 xl_12 (xs_12 _ _) rfl rfl hl.1 rfl (Nat.le_of_ble_eq_true rfl) ⟨⟨rfl, rfl⟩, Nat.le_of_ble_eq_true rfl, Nat.le_of_ble_eq_true rfl⟩ ⟨Nat.zero_le _, Nat.zero_le _⟩ dX11_share_5) (fun r5 I5 J5 H locs z5 h hw => ?_)
  refine lv_if_ne (tgt := 15) hx hb dX11_share_8 (by decide) (fun c8 => ?_) (fun c8 => ?_)
  · have h := h.1 c8
    refine lv_aload_n hx hb dX11_share_15 rfl (lv_at hl 0 rfl) ?_
    refine g_get C hw f_RX11_26 xl_0 (xs_0 _ _) rfl dX11_share_16 ?_
    refine g_get C hw f_RX11_128 xl_17 (xs_17 _ _) rfl dX11_share_19 ?_
    refine lv_iload_n hx hb dX11_share_22 rfl (lv_at hl 1 rfl) ?_
    refine lv_ishr hx hb dX11_share_23 ?_
    refine lv_iconst (v := 1) hx hb dX11_share_24 (by decide) ?_
    refine lv_iand hx hb dX11_share_25 ?_
    refine lv_if_ne (tgt := 39) hx hb dX11_share_26 (by decide) (fun c26 => ?_) (fun c26 => ?_)
    · have h := h.1 c26
      exact w_X11_share_39 C  h hw (lv_sub hl [] rfl)
    · have h := h.2 c26
      refine lv_aload_n hx hb dX11_share_29 rfl (lv_at hl 0 rfl) ?_
      refine g_get C hw f_RX11_62 xl_0 (xs_0 _ _) rfl dX11_share_30 ?_
      refine g_cz hw (g_rV [] [] C hw (m_X0_areFew h) k_X0_areFew q_RX11_254 xl_55 (xs_55 _ _) rfl rfl hl.1 rfl (Nat.le_of_ble_eq_true rfl) ⟨⟨rfl, rfl⟩, Nat.le_of_ble_eq_true rfl, Nat.le_of_ble_eq_true rfl⟩ ⟨Nat.zero_le _, Nat.zero_le _⟩ dX11_share_33) (fun r33 I33 J33 H locs z33 h hw => ?_)
      refine lv_if_ne (tgt := 43) hx hb dX11_share_36 (by decide) (fun c36 => ?_) (fun c36 => ?_)
      · have h := h.1 c36
        refine lv_aload_n hx hb dX11_share_43 rfl (lv_at hl 0 rfl) ?_
        refine g_get C hw f_RX11_62 xl_0 (xs_0 _ _) rfl dX11_share_44 ?_
        refine lv_iload_n hx hb dX11_share_47 rfl (lv_at hl 1 rfl) ?_
        refine g_cl hw (g_rV [.int a0] [] C hw (m_X0_shareOf h) k_X0_shareOf q_RX11_259 xl_55 (xs_55 _ _) rfl rfl hl.1 rfl (Nat.le_of_ble_eq_true rfl) ⟨⟨rfl, rfl⟩, Nat.le_of_ble_eq_true rfl, Nat.le_of_ble_eq_true rfl⟩ ⟨Nat.zero_le _, Nat.zero_le _⟩ dX11_share_48) (fun r48 I48 J48 H locs h hw => ?_)
        refine lv_aload_n hx hb dX11_share_51 rfl (lv_at hl 0 rfl) ?_
        refine g_get C hw f_RX11_62 xl_0 (xs_0 _ _) rfl dX11_share_52 ?_
        refine g_cl hw (g_rV [] [.long r48] C hw (m_X0_orders h) k_X0_orders q_RX11_262 xl_55 (xs_55 _ _) rfl rfl hl.1 rfl (Nat.le_of_ble_eq_true rfl) ⟨⟨rfl, rfl⟩, Nat.le_of_ble_eq_true rfl, Nat.le_of_ble_eq_true rfl⟩ ⟨Nat.zero_le _, Nat.zero_le _⟩ dX11_share_55) (fun r55 I55 J55 H locs h hw => ?_)
        refine lv_iload_n hx hb dX11_share_58 rfl (lv_at hl 2 rfl) ?_
        refine g_cl hw (g_rS [.long r48, .long r55, .int a1] [] C hw (m_X11_leastTerms h) k_X11_leastTerms q_RX11_265 rfl hl.1 rfl (Nat.le_of_ble_eq_true rfl) ⟨⟨rfl, rfl⟩, Nat.le_of_ble_eq_true rfl, Nat.le_of_ble_eq_true rfl⟩ ⟨Nat.zero_le _, Nat.zero_le _⟩ dX11_share_59) (fun r59 I59 J59 H locs h hw => ?_)
        exact g_lret C hw h dX11_share_62
      · have h := h.2 c36
        exact w_X11_share_39 C  h hw (lv_sub hl [] rfl)
  · have h := h.2 c8
    refine lv_ldc2 (v := (-1)) hx hb hC.2.2.1 (hC.2.2.2.1 _ q_RX11_209) dX11_share_11 ?_
    exact g_lret C hw h dX11_share_14
theorem m_X11_share {l : Launch} {a0 : Int32} {a1 : Int32} {Q : Int64 → MI → MJ → Prop} {I : MI} {J : MJ} (h : P_X11_share a0 a1 I J Q) : Met l yX11_share (xws yX11_share cX11_share 3 (some .long)) rmX11_share (va_Pc [.ref (ad 0), .int a0, .int a1] (gB (xS ad cy) 66 ad cy D (xF ad ts) I J)) (gQl (xS ad cy) 66 ad cy D (xF ad ts) Q) 0 0 (gA 66 ad) :=
  g_met (xF_ok ad ts) rfl (by decide) (Nat.le_of_ble_eq_true rfl) (fun p e s m below meth c ls C hw hl => w_X11_share C  h hw hl)
/-! BagPhrases$Chances.power(II)J -/
def P_X0_power_5 (Q : Int64 → MI → MJ → Prop) (kL5 : Int32 × Int32 × Int64 × Int32 × MI × MJ → Prop) : Int32 × Int32 × Int64 × Int32 × MI × MJ → Prop := fun z => match z with
  | (x0, x1, x2, x4, I, J) => ((x1 ≤ x4 → Q x2 I J) ∧ (¬ x1 ≤ x4 → kL5 (x0, x1, (x2 * x0.toInt64), (x4 + 1), I, J)))
def P_X0_power (a0 : Int32) (a1 : Int32) (I : MI) (J : MJ) (Q : Int64 → MI → MJ → Prop) : Prop :=
  lpx (P_X0_power_5 Q) (a0, a1, (1 : Int64), (0 : Int32), I, J)
abbrev rmX0_power : Room := { frames := 0, cells := 0, slots := 0, locals := 0 }
set_option maxHeartbeats 4000000 in
set_option maxRecDepth 100000 in
theorem w_X0_power_5 {Q : Int64 → MI → MJ → Prop} (C : gC RX0 cX0_power 5 (some .long) 66 ad cy D (xF ad ts) p s m args meth c) {kL5 : Int32 × Int32 × Int64 × Int32 × MI × MJ → Prop} (hL5 : ∀ {x0 : Int32} {x1 : Int32} {x2 : Int64} {x4 : Int32} {I : MI} {J : MJ} {H : Heap} {locs : List Loc} {ls : Array Slot}, kL5 (x0, x1, x2, x4, I, J) → gH (xS ad cy) 66 ad D s I J H locs → lv_has ls 5 [(0, .int x0), (1, .int x1), (2, .long x2), (4, .int x4)] → W p l e rmX0_power s m args below meth c H locs 0 0 (MQ below (gQl (xS ad cy) 66 ad cy D (xF ad ts) Q) args s 0 0 (gA 66 ad)) (F0 m 5 ls [])) {x0 : Int32} {x1 : Int32} {x2 : Int64} {x4 : Int32} {I : MI} {J : MJ} {H : Heap} {locs : List Loc} {ls : Array Slot} (h : P_X0_power_5 Q kL5 (x0, x1, x2, x4, I, J)) (hw : gH (xS ad cy) 66 ad D s I J H locs) (hl : lv_has ls 5 [(0, .int x0), (1, .int x1), (2, .long x2), (4, .int x4)]) : W p l e rmX0_power s m args below meth c H locs 0 0 (MQ below (gQl (xS ad cy) 66 ad cy D (xF ad ts) Q) args s 0 0 (gA 66 ad)) (F0 m 5 ls []) := by
  obtain ⟨hx, hb, hC⟩ := id C
  refine lv_iload hx hb dX0_power_5 (lv_at hl 3 rfl) ?_
  refine lv_iload_n hx hb dX0_power_7 rfl (lv_at hl 1 rfl) ?_
  refine lv_icmp_ge (tgt := 22) hx hb dX0_power_8 (by decide) (fun c8 => ?_) (fun c8 => ?_)
  · have h := h.1 c8
    refine lv_lload_n hx hb dX0_power_22 rfl (lv_at hl 2 rfl) ?_
    exact g_lret C hw h dX0_power_23
  · have h := h.2 c8
    refine lv_lload_n hx hb dX0_power_11 rfl (lv_at hl 2 rfl) ?_
    refine lv_iload_n hx hb dX0_power_12 rfl (lv_at hl 0 rfl) ?_
    refine lv_i2l hx hb dX0_power_13 rfl ?_
    refine lv_lmul hx hb dX0_power_14 ?_
    refine lv_lstore_n (lv' := [(2, .long (x2 * x0.toInt64)), (0, .int x0), (1, .int x1), (4, .int x4)]) hx hb dX0_power_15 rfl hl (by decide) rfl (fun ls hl => ?_)
    refine lv_iinc (v := x4 + 1) (lv' := [(4, .int (x4 + 1)), (2, .long (x2 * x0.toInt64)), (0, .int x0), (1, .int x1)]) hx hb dX0_power_16 hl (k := 3) rfl rfl (by decide) rfl (fun ls hl => ?_)
    refine lv_goto (tgt := 5) hx hb dX0_power_19 (by decide) ?_
    exact hL5 h hw (lv_sub hl [2, 3, 1, 0] rfl)
theorem wl_X0_power_5 {Q : Int64 → MI → MJ → Prop} (C : gC RX0 cX0_power 5 (some .long) 66 ad cy D (xF ad ts) p s m args meth c) {x0 : Int32} {x1 : Int32} {x2 : Int64} {x4 : Int32} {I : MI} {J : MJ} {H : Heap} {locs : List Loc} {ls : Array Slot} (h : lpx (P_X0_power_5 Q) (x0, x1, x2, x4, I, J)) (hw : gH (xS ad cy) 66 ad D s I J H locs) (hl : lv_has ls 5 [(0, .int x0), (1, .int x1), (2, .long x2), (4, .int x4)]) : W p l e rmX0_power s m args below meth c H locs 0 0 (MQ below (gQl (xS ad cy) 66 ad cy D (xF ad ts) Q) args s 0 0 (gA 66 ad)) (F0 m 5 ls []) := by
  obtain ⟨n, h⟩ := h
  induction n generalizing x0 x1 x2 x4 I J H locs ls with
  | zero => exact False.elim h
  | succ n ih => exact w_X0_power_5 C  (fun hk9 hw9 hl9 => ih hw9 hl9 hk9) h hw hl
set_option maxHeartbeats 4000000 in
set_option maxRecDepth 100000 in
theorem w_X0_power {Q : Int64 → MI → MJ → Prop} (C : gC RX0 cX0_power 5 (some .long) 66 ad cy D (xF ad ts) p s m args meth c) {a0 : Int32} {a1 : Int32} {I : MI} {J : MJ} {H : Heap} {locs : List Loc} {ls : Array Slot} (h : P_X0_power a0 a1 I J Q) (hw : gH (xS ad cy) 66 ad D s I J H locs) (hl : lv_has ls 5 [(0, .int a0), (1, .int a1)]) : W p l e rmX0_power s m args below meth c H locs 0 0 (MQ below (gQl (xS ad cy) 66 ad cy D (xF ad ts) Q) args s 0 0 (gA 66 ad)) (F0 m 0 ls []) := by
  obtain ⟨hx, hb, hC⟩ := id C
  refine lv_lconst (v := 1) hx hb dX0_power_0 (by decide) ?_
  refine lv_lstore_n (lv' := [(2, .long (1 : Int64)), (0, .int a0), (1, .int a1)]) hx hb dX0_power_1 rfl hl (by decide) rfl (fun ls hl => ?_)
  refine lv_iconst (v := 0) hx hb dX0_power_2 (by decide) ?_
  refine lv_istore (lv' := [(4, .int (0 : Int32)), (2, .long (1 : Int64)), (0, .int a0), (1, .int a1)]) hx hb dX0_power_3 hl (by decide) rfl (fun ls hl => ?_)
  exact wl_X0_power_5 C  h hw (lv_sub hl [2, 3, 1, 0] rfl)
theorem m_X0_power {l : Launch} {a0 : Int32} {a1 : Int32} {Q : Int64 → MI → MJ → Prop} {I : MI} {J : MJ} (h : P_X0_power a0 a1 I J Q) : Met l yX0_power (xws yX0_power cX0_power 5 (some .long)) rmX0_power (va_Pc [.int a0, .int a1] (gB (xS ad cy) 66 ad cy D (xF ad ts) I J)) (gQl (xS ad cy) 66 ad cy D (xF ad ts) Q) 0 0 (gA 66 ad) :=
  g_met (xF_ok ad ts) rfl (by decide) (Nat.le_of_ble_eq_true rfl) (fun p e s m below meth c ls C hw hl => w_X0_power C  h hw hl)
/-! BagPhrases$Chances.hopeAt(I)J -/
def P_X0_hopeAt_60 (Q : Int64 → MI → MJ → Prop) (kL9 : Int32 × Int64 × Int32 × MI × MJ → Prop) (x1 : Int32) (x2 : Int64) (x4 : Int32) (I : MI) (J : MJ) : Prop :=
  kL9 (x1, x2, (x4 + 1), I, J)
def P_X0_hopeAt_9 (Q : Int64 → MI → MJ → Prop) (kL9 : Int32 × Int64 × Int32 × MI × MJ → Prop) : Int32 × Int64 × Int32 × MI × MJ → Prop := fun z => match z with
  | (x1, x2, x4, I, J) => ((((1 : Int32) <<< ((I 55 7) &&& 31)) ≤ x4 → Q x2 I J) ∧ (¬ ((1 : Int32) <<< ((I 55 7) &&& 31)) ≤ x4 → P_X0_isOpened x4 I J (fun r23 I23 J23 => ((r23 = 0 → P_X0_hopeAt_60 Q kL9 x1 x2 x4 I23 J23) ∧ (¬ r23 = 0 → P_J6_bitCount_0f7a4 x4 I23 J23 (fun r31 I31 J31 => P_X0_power ((10 : Int32) - x1) r31 I31 J31 (fun r43 I43 J43 => P_X0_power x1 ((I43 55 7) - r31) I43 J43 (fun r54 I54 J54 => P_X0_hopeAt_60 Q kL9 x1 (x2 + (r43 * r54)) x4 I54 J54))))))))
def P_X0_hopeAt (a0 : Int32) (I : MI) (J : MJ) (Q : Int64 → MI → MJ → Prop) : Prop :=
  P_X0_openSets I J (fun I1 J1 => lpx (P_X0_hopeAt_9 Q) (a0, (0 : Int64), (0 : Int32), I1, J1))
abbrev rmX0_hopeAt : Room := { frames := 6, cells := 0, slots := 0, locals := 160 }
set_option maxHeartbeats 4000000 in
set_option maxRecDepth 100000 in
theorem w_X0_hopeAt_60 {Q : Int64 → MI → MJ → Prop} (C : gC RX0 cX0_hopeAt 6 (some .long) 66 ad cy D (xF ad ts) p s m args meth c) {kL9 : Int32 × Int64 × Int32 × MI × MJ → Prop} (hL9 : ∀ {x1 : Int32} {x2 : Int64} {x4 : Int32} {I : MI} {J : MJ} {H : Heap} {locs : List Loc} {ls : Array Slot}, kL9 (x1, x2, x4, I, J) → gH (xS ad cy) 66 ad D s I J H locs → lv_has ls 6 [(0, .ref (ad 55)), (1, .int x1), (2, .long x2), (4, .int x4)] → W p l e rmX0_hopeAt s m args below meth c H locs 0 0 (MQ below (gQl (xS ad cy) 66 ad cy D (xF ad ts) Q) args s 0 0 (gA 66 ad)) (F0 m 9 ls [])) {x1 : Int32} {x2 : Int64} {x4 : Int32} {I : MI} {J : MJ} {H : Heap} {locs : List Loc} {ls : Array Slot} (h : P_X0_hopeAt_60 Q kL9 x1 x2 x4 I J) (hw : gH (xS ad cy) 66 ad D s I J H locs) (hl : lv_has ls 6 [(0, .ref (ad 55)), (1, .int x1), (2, .long x2), (4, .int x4)]) : W p l e rmX0_hopeAt s m args below meth c H locs 0 0 (MQ below (gQl (xS ad cy) 66 ad cy D (xF ad ts) Q) args s 0 0 (gA 66 ad)) (F0 m 60 ls []) := by
  obtain ⟨hx, hb, hC⟩ := id C
  refine lv_iinc (v := x4 + 1) (lv' := [(4, .int (x4 + 1)), (0, .ref (ad 55)), (1, .int x1), (2, .long x2)]) hx hb dX0_hopeAt_60 hl (k := 3) rfl rfl (by decide) rfl (fun ls hl => ?_)
  refine lv_goto (tgt := 9) hx hb dX0_hopeAt_63 (by decide) ?_
  exact hL9 h hw (lv_sub hl [1, 2, 3, 0] rfl)
set_option maxHeartbeats 4000000 in
set_option maxRecDepth 100000 in
theorem w_X0_hopeAt_9 {Q : Int64 → MI → MJ → Prop} (C : gC RX0 cX0_hopeAt 6 (some .long) 66 ad cy D (xF ad ts) p s m args meth c) {kL9 : Int32 × Int64 × Int32 × MI × MJ → Prop} (hL9 : ∀ {x1 : Int32} {x2 : Int64} {x4 : Int32} {I : MI} {J : MJ} {H : Heap} {locs : List Loc} {ls : Array Slot}, kL9 (x1, x2, x4, I, J) → gH (xS ad cy) 66 ad D s I J H locs → lv_has ls 6 [(0, .ref (ad 55)), (1, .int x1), (2, .long x2), (4, .int x4)] → W p l e rmX0_hopeAt s m args below meth c H locs 0 0 (MQ below (gQl (xS ad cy) 66 ad cy D (xF ad ts) Q) args s 0 0 (gA 66 ad)) (F0 m 9 ls [])) {x1 : Int32} {x2 : Int64} {x4 : Int32} {I : MI} {J : MJ} {H : Heap} {locs : List Loc} {ls : Array Slot} (h : P_X0_hopeAt_9 Q kL9 (x1, x2, x4, I, J)) (hw : gH (xS ad cy) 66 ad D s I J H locs) (hl : lv_has ls 6 [(0, .ref (ad 55)), (1, .int x1), (2, .long x2), (4, .int x4)]) : W p l e rmX0_hopeAt s m args below meth c H locs 0 0 (MQ below (gQl (xS ad cy) 66 ad cy D (xF ad ts) Q) args s 0 0 (gA 66 ad)) (F0 m 9 ls []) := by
  obtain ⟨hx, hb, hC⟩ := id C
  refine lv_iload hx hb dX0_hopeAt_9 (lv_at hl 3 rfl) ?_
  refine lv_iconst (v := 1) hx hb dX0_hopeAt_11 (by decide) ?_
  refine lv_aload_n hx hb dX0_hopeAt_12 rfl (lv_at hl 0 rfl) ?_
  refine g_get C hw f_RX0_29 xl_55 (xs_55 _ _) rfl dX0_hopeAt_13 ?_
  refine lv_ishl hx hb dX0_hopeAt_16 ?_
  refine lv_icmp_ge (tgt := 66) hx hb dX0_hopeAt_17 (by decide) (fun c17 => ?_) (fun c17 => ?_)
  · have h := h.1 c17
    refine lv_lload_n hx hb dX0_hopeAt_66 rfl (lv_at hl 2 rfl) ?_
    exact g_lret C hw h dX0_hopeAt_67
  · have h := h.2 c17
    refine lv_aload_n hx hb dX0_hopeAt_20 rfl (lv_at hl 0 rfl) ?_
    refine lv_iload hx hb dX0_hopeAt_21 (lv_at hl 3 rfl) ?_
    refine g_cz hw (g_rV [.int x4] [] C hw (m_X0_isOpened h) k_X0_isOpened q_RX0_91 xl_55 (xs_55 _ _) rfl rfl hl.1 rfl (Nat.le_of_ble_eq_true rfl) ⟨⟨rfl, rfl⟩, Nat.le_of_ble_eq_true rfl, Nat.le_of_ble_eq_true rfl⟩ ⟨Nat.zero_le _, Nat.zero_le _⟩ dX0_hopeAt_23) (fun r23 I23 J23 H locs z23 h hw => ?_)
    refine lv_if_eq (tgt := 60) hx hb dX0_hopeAt_26 (by decide) (fun c26 => ?_) (fun c26 => ?_)
    · have h := h.1 c26
      exact w_X0_hopeAt_60 C hL9 h hw (lv_sub hl [0, 1, 2, 3] rfl)
    · have h := h.2 c26
      refine lv_iload hx hb dX0_hopeAt_29 (lv_at hl 3 rfl) ?_
      refine g_ci hw (g_rS [.int x4] [] C hw (m_J6_bitCount_0f7a4 h) k_J6_bitCount_0f7a4 q_RX0_62 rfl hl.1 rfl (Nat.le_of_ble_eq_true rfl) ⟨⟨rfl, rfl⟩, Nat.le_of_ble_eq_true rfl, Nat.le_of_ble_eq_true rfl⟩ ⟨Nat.zero_le _, Nat.zero_le _⟩ dX0_hopeAt_31) (fun r31 I31 J31 H locs h hw => ?_)
      refine lv_istore (lv' := [(5, .int r31), (0, .ref (ad 55)), (1, .int x1), (2, .long x2), (4, .int x4)]) hx hb dX0_hopeAt_34 hl (by decide) rfl (fun ls hl => ?_)
      refine lv_lload_n hx hb dX0_hopeAt_36 rfl (lv_at hl 3 rfl) ?_
      refine lv_bipush (v := 10) hx hb dX0_hopeAt_37 (by decide) ?_
      refine lv_iload_n hx hb dX0_hopeAt_39 rfl (lv_at hl 2 rfl) ?_
      refine lv_isub hx hb dX0_hopeAt_40 ?_
      refine lv_iload hx hb dX0_hopeAt_41 (lv_at hl 0 rfl) ?_
      refine g_cl hw (g_rS [.int ((10 : Int32) - x1), .int r31] [.long x2] C hw (m_X0_power h) k_X0_power q_RX0_108 rfl hl.1 rfl (Nat.le_of_ble_eq_true rfl) ⟨⟨rfl, rfl⟩, Nat.le_of_ble_eq_true rfl, Nat.le_of_ble_eq_true rfl⟩ ⟨Nat.zero_le _, Nat.zero_le _⟩ dX0_hopeAt_43) (fun r43 I43 J43 H locs h hw => ?_)
      refine lv_iload_n hx hb dX0_hopeAt_46 rfl (lv_at hl 2 rfl) ?_
      refine lv_aload_n hx hb dX0_hopeAt_47 rfl (lv_at hl 1 rfl) ?_
      refine g_get C hw f_RX0_29 xl_55 (xs_55 _ _) rfl dX0_hopeAt_48 ?_
      refine lv_iload hx hb dX0_hopeAt_51 (lv_at hl 0 rfl) ?_
      refine lv_isub hx hb dX0_hopeAt_53 ?_
      refine g_cl hw (g_rS [.int x1, .int ((I43 55 7) - r31)] [.long r43, .long x2] C hw (m_X0_power h) k_X0_power q_RX0_108 rfl hl.1 rfl (Nat.le_of_ble_eq_true rfl) ⟨⟨rfl, rfl⟩, Nat.le_of_ble_eq_true rfl, Nat.le_of_ble_eq_true rfl⟩ ⟨Nat.zero_le _, Nat.zero_le _⟩ dX0_hopeAt_54) (fun r54 I54 J54 H locs h hw => ?_)
      refine lv_lmul hx hb dX0_hopeAt_57 ?_
      refine lv_ladd hx hb dX0_hopeAt_58 ?_
      refine lv_lstore_n (lv' := [(2, .long (x2 + (r43 * r54))), (5, .int r31), (0, .ref (ad 55)), (1, .int x1), (4, .int x4)]) hx hb dX0_hopeAt_59 rfl hl (by decide) rfl (fun ls hl => ?_)
      exact w_X0_hopeAt_60 C hL9 h hw (lv_sub hl [2, 3, 0, 4] rfl)
theorem wl_X0_hopeAt_9 {Q : Int64 → MI → MJ → Prop} (C : gC RX0 cX0_hopeAt 6 (some .long) 66 ad cy D (xF ad ts) p s m args meth c) {x1 : Int32} {x2 : Int64} {x4 : Int32} {I : MI} {J : MJ} {H : Heap} {locs : List Loc} {ls : Array Slot} (h : lpx (P_X0_hopeAt_9 Q) (x1, x2, x4, I, J)) (hw : gH (xS ad cy) 66 ad D s I J H locs) (hl : lv_has ls 6 [(0, .ref (ad 55)), (1, .int x1), (2, .long x2), (4, .int x4)]) : W p l e rmX0_hopeAt s m args below meth c H locs 0 0 (MQ below (gQl (xS ad cy) 66 ad cy D (xF ad ts) Q) args s 0 0 (gA 66 ad)) (F0 m 9 ls []) := by
  obtain ⟨n, h⟩ := h
  induction n generalizing x1 x2 x4 I J H locs ls with
  | zero => exact False.elim h
  | succ n ih => exact w_X0_hopeAt_9 C  (fun hk9 hw9 hl9 => ih hw9 hl9 hk9) h hw hl
set_option maxHeartbeats 4000000 in
set_option maxRecDepth 100000 in
theorem w_X0_hopeAt {Q : Int64 → MI → MJ → Prop} (C : gC RX0 cX0_hopeAt 6 (some .long) 66 ad cy D (xF ad ts) p s m args meth c) {a0 : Int32} {I : MI} {J : MJ} {H : Heap} {locs : List Loc} {ls : Array Slot} (h : P_X0_hopeAt a0 I J Q) (hw : gH (xS ad cy) 66 ad D s I J H locs) (hl : lv_has ls 6 [(0, .ref (ad 55)), (1, .int a0)]) : W p l e rmX0_hopeAt s m args below meth c H locs 0 0 (MQ below (gQl (xS ad cy) 66 ad cy D (xF ad ts) Q) args s 0 0 (gA 66 ad)) (F0 m 0 ls []) := by
  obtain ⟨hx, hb, hC⟩ := id C
  refine lv_aload_n hx hb dX0_hopeAt_0 rfl (lv_at hl 0 rfl) ?_
  refine g_cv hw (g_rV [] [] C hw (m_X0_openSets h) k_X0_openSets q_RX0_102 xl_55 (xs_55 _ _) rfl rfl hl.1 rfl (Nat.le_of_ble_eq_true rfl) ⟨⟨rfl, rfl⟩, Nat.le_of_ble_eq_true rfl, Nat.le_of_ble_eq_true rfl⟩ ⟨Nat.zero_le _, Nat.zero_le _⟩ dX0_hopeAt_1) (fun I1 J1 H locs h hw => ?_)
  refine lv_lconst (v := 0) hx hb dX0_hopeAt_4 (by decide) ?_
  refine lv_lstore_n (lv' := [(2, .long (0 : Int64)), (0, .ref (ad 55)), (1, .int a0)]) hx hb dX0_hopeAt_5 rfl hl (by decide) rfl (fun ls hl => ?_)
  refine lv_iconst (v := 0) hx hb dX0_hopeAt_6 (by decide) ?_
  refine lv_istore (lv' := [(4, .int (0 : Int32)), (2, .long (0 : Int64)), (0, .ref (ad 55)), (1, .int a0)]) hx hb dX0_hopeAt_7 hl (by decide) rfl (fun ls hl => ?_)
  exact wl_X0_hopeAt_9 C  h hw (lv_sub hl [2, 3, 1, 0] rfl)
theorem m_X0_hopeAt {l : Launch} {a0 : Int32} {Q : Int64 → MI → MJ → Prop} {I : MI} {J : MJ} (h : P_X0_hopeAt a0 I J Q) : Met l yX0_hopeAt (xws yX0_hopeAt cX0_hopeAt 6 (some .long)) rmX0_hopeAt (va_Pc [.ref (ad 55), .int a0] (gB (xS ad cy) 66 ad cy D (xF ad ts) I J)) (gQl (xS ad cy) 66 ad cy D (xF ad ts) Q) 0 0 (gA 66 ad) :=
  g_met (xF_ok ad ts) rfl (by decide) (Nat.le_of_ble_eq_true rfl) (fun p e s m below meth c ls C hw hl => w_X0_hopeAt C  h hw hl)
/-! BagPhrases$Chances.hopeBelow()J -/
def P_X0_hopeBelow (I : MI) (J : MJ) (Q : Int64 → MI → MJ → Prop) : Prop :=
  P_X0_power (10 : Int32) (I 55 7) I J (fun r6 I6 J6 => Q r6 I6 J6)
abbrev rmX0_hopeBelow : Room := { frames := 1, cells := 0, slots := 0, locals := 24 }
set_option maxHeartbeats 4000000 in
set_option maxRecDepth 100000 in
theorem w_X0_hopeBelow {Q : Int64 → MI → MJ → Prop} (C : gC RX0 cX0_hopeBelow 1 (some .long) 66 ad cy D (xF ad ts) p s m args meth c) {I : MI} {J : MJ} {H : Heap} {locs : List Loc} {ls : Array Slot} (h : P_X0_hopeBelow I J Q) (hw : gH (xS ad cy) 66 ad D s I J H locs) (hl : lv_has ls 1 [(0, .ref (ad 55))]) : W p l e rmX0_hopeBelow s m args below meth c H locs 0 0 (MQ below (gQl (xS ad cy) 66 ad cy D (xF ad ts) Q) args s 0 0 (gA 66 ad)) (F0 m 0 ls []) := by
  obtain ⟨hx, hb, hC⟩ := id C
  refine lv_bipush (v := 10) hx hb dX0_hopeBelow_0 (by decide) ?_
  refine lv_aload_n hx hb dX0_hopeBelow_2 rfl (lv_at hl 0 rfl) ?_
  refine g_get C hw f_RX0_29 xl_55 (xs_55 _ _) rfl dX0_hopeBelow_3 ?_
  refine g_cl hw (g_rS [.int (10 : Int32), .int (I 55 7)] [] C hw (m_X0_power h) k_X0_power q_RX0_108 rfl hl.1 rfl (Nat.le_of_ble_eq_true rfl) ⟨⟨rfl, rfl⟩, Nat.le_of_ble_eq_true rfl, Nat.le_of_ble_eq_true rfl⟩ ⟨Nat.zero_le _, Nat.zero_le _⟩ dX0_hopeBelow_6) (fun r6 I6 J6 H locs h hw => ?_)
  exact g_lret C hw h dX0_hopeBelow_9
theorem m_X0_hopeBelow {l : Launch} {Q : Int64 → MI → MJ → Prop} {I : MI} {J : MJ} (h : P_X0_hopeBelow I J Q) : Met l yX0_hopeBelow (xws yX0_hopeBelow cX0_hopeBelow 1 (some .long)) rmX0_hopeBelow (va_Pc [.ref (ad 55)] (gB (xS ad cy) 66 ad cy D (xF ad ts) I J)) (gQl (xS ad cy) 66 ad cy D (xF ad ts) Q) 0 0 (gA 66 ad) :=
  g_met (xF_ok ad ts) rfl (by decide) (Nat.le_of_ble_eq_true rfl) (fun p e s m below meth c ls C hw hl => w_X0_hopeBelow C  h hw hl)
/-! BagPhrases.hope(IZ)I -/
def P_X11_hope (a0 : Int32) (a1 : Int32) (I : MI) (J : MJ) (Q : Int32 → MI → MJ → Prop) : Prop :=
  ((a0 < 0 → Q (-2 : Int32) I J) ∧ (¬ a0 < 0 → ((a0 ≤ (10 : Int32) → P_X0_areFew I J (fun r17 I17 J17 => ((¬ r17 = 0 → P_X0_hopeAt a0 I17 J17 (fun r31 I31 J31 => P_X0_hopeBelow I31 J31 (fun r38 I38 J38 => P_X11_leastTerms r31 r38 a1 I38 J38 (fun r42 I42 J42 => Q r42.toInt32 I42 J42)))) ∧ (r17 = 0 → Q (-3 : Int32) I17 J17)))) ∧ (¬ a0 ≤ (10 : Int32) → Q (-2 : Int32) I J))))
abbrev rmX11_hope : Room := { frames := 7, cells := 0, slots := 0, locals := 185 }
set_option maxHeartbeats 4000000 in
set_option maxRecDepth 100000 in
theorem w_X11_hope {Q : Int32 → MI → MJ → Prop} (C : gC RX11 cX11_hope 3 (some .int) 66 ad cy D (xF ad ts) p s m args meth c) {a0 : Int32} {a1 : Int32} {I : MI} {J : MJ} {H : Heap} {locs : List Loc} {ls : Array Slot} (h : P_X11_hope a0 a1 I J Q) (hw : gH (xS ad cy) 66 ad D s I J H locs) (hl : lv_has ls 3 [(0, .ref (ad 0)), (1, .int a0), (2, .int a1)]) : W p l e rmX11_hope s m args below meth c H locs 0 0 (MQ below (gQi (xS ad cy) 66 ad cy D (xF ad ts) Q) args s 0 0 (gA 66 ad)) (F0 m 0 ls []) := by
  obtain ⟨hx, hb, hC⟩ := id C
  refine lv_iload_n hx hb dX11_hope_0 rfl (lv_at hl 1 rfl) ?_
  refine lv_if_lt (tgt := 10) hx hb dX11_hope_1 (by decide) (fun c1 => ?_) (fun c1 => ?_)
  · have h := h.1 c1
    refine lv_bipush (v := -2) hx hb dX11_hope_10 (by decide) ?_
    exact g_iret C hw h dX11_hope_12
  · have h := h.2 c1
    refine lv_iload_n hx hb dX11_hope_4 rfl (lv_at hl 1 rfl) ?_
    refine lv_bipush (v := 10) hx hb dX11_hope_5 (by decide) ?_
    refine lv_icmp_le (tgt := 13) hx hb dX11_hope_7 (by decide) (fun c7 => ?_) (fun c7 => ?_)
    · have h := h.1 c7
      refine lv_aload_n hx hb dX11_hope_13 rfl (lv_at hl 0 rfl) ?_
      refine g_get C hw f_RX11_62 xl_0 (xs_0 _ _) rfl dX11_hope_14 ?_
      refine g_cz hw (g_rV [] [] C hw (m_X0_areFew h) k_X0_areFew q_RX11_254 xl_55 (xs_55 _ _) rfl rfl hl.1 rfl (Nat.le_of_ble_eq_true rfl) ⟨⟨rfl, rfl⟩, Nat.le_of_ble_eq_true rfl, Nat.le_of_ble_eq_true rfl⟩ ⟨Nat.zero_le _, Nat.zero_le _⟩ dX11_hope_17) (fun r17 I17 J17 H locs z17 h hw => ?_)
      refine lv_if_ne (tgt := 26) hx hb dX11_hope_20 (by decide) (fun c20 => ?_) (fun c20 => ?_)
      · have h := h.1 c20
        refine lv_aload_n hx hb dX11_hope_26 rfl (lv_at hl 0 rfl) ?_
        refine g_get C hw f_RX11_62 xl_0 (xs_0 _ _) rfl dX11_hope_27 ?_
        refine lv_iload_n hx hb dX11_hope_30 rfl (lv_at hl 1 rfl) ?_
        refine g_cl hw (g_rV [.int a0] [] C hw (m_X0_hopeAt h) k_X0_hopeAt q_RX11_269 xl_55 (xs_55 _ _) rfl rfl hl.1 rfl (Nat.le_of_ble_eq_true rfl) ⟨⟨rfl, rfl⟩, Nat.le_of_ble_eq_true rfl, Nat.le_of_ble_eq_true rfl⟩ ⟨Nat.zero_le _, Nat.zero_le _⟩ dX11_hope_31) (fun r31 I31 J31 H locs h hw => ?_)
        refine lv_aload_n hx hb dX11_hope_34 rfl (lv_at hl 0 rfl) ?_
        refine g_get C hw f_RX11_62 xl_0 (xs_0 _ _) rfl dX11_hope_35 ?_
        refine g_cl hw (g_rV [] [.long r31] C hw (m_X0_hopeBelow h) k_X0_hopeBelow q_RX11_272 xl_55 (xs_55 _ _) rfl rfl hl.1 rfl (Nat.le_of_ble_eq_true rfl) ⟨⟨rfl, rfl⟩, Nat.le_of_ble_eq_true rfl, Nat.le_of_ble_eq_true rfl⟩ ⟨Nat.zero_le _, Nat.zero_le _⟩ dX11_hope_38) (fun r38 I38 J38 H locs h hw => ?_)
        refine lv_iload_n hx hb dX11_hope_41 rfl (lv_at hl 2 rfl) ?_
        refine g_cl hw (g_rS [.long r31, .long r38, .int a1] [] C hw (m_X11_leastTerms h) k_X11_leastTerms q_RX11_265 rfl hl.1 rfl (Nat.le_of_ble_eq_true rfl) ⟨⟨rfl, rfl⟩, Nat.le_of_ble_eq_true rfl, Nat.le_of_ble_eq_true rfl⟩ ⟨Nat.zero_le _, Nat.zero_le _⟩ dX11_hope_42) (fun r42 I42 J42 H locs h hw => ?_)
        refine lv_l2i hx hb dX11_hope_45 rfl ?_
        exact g_iret C hw h dX11_hope_46
      · have h := h.2 c20
        refine lv_bipush (v := -3) hx hb dX11_hope_23 (by decide) ?_
        exact g_iret C hw h dX11_hope_25
    · have h := h.2 c7
      refine lv_bipush (v := -2) hx hb dX11_hope_10 (by decide) ?_
      exact g_iret C hw h dX11_hope_12
theorem m_X11_hope {l : Launch} {a0 : Int32} {a1 : Int32} {Q : Int32 → MI → MJ → Prop} {I : MI} {J : MJ} (h : P_X11_hope a0 a1 I J Q) : Met l yX11_hope (xws yX11_hope cX11_hope 3 (some .int)) rmX11_hope (va_Pc [.ref (ad 0), .int a0, .int a1] (gB (xS ad cy) 66 ad cy D (xF ad ts) I J)) (gQi (xS ad cy) 66 ad cy D (xF ad ts) Q) 0 0 (gA 66 ad) :=
  g_met (xF_ok ad ts) rfl (by decide) (Nat.le_of_ble_eq_true rfl) (fun p e s m below meth c ls C hw hl => w_X11_hope C  h hw hl)
/-! BagPhrases.seed(J)J -/
def P_X11_seed (a0 : Int64) (I : MI) (J : MJ) (Q : Int64 → MI → MJ → Prop) : Prop :=
  (∀ J7 : MJ, J7 = mJ J 0 16 a0 → Q (J 0 16) I J7)
abbrev rmX11_seed : Room := { frames := 0, cells := 0, slots := 0, locals := 0 }
set_option maxHeartbeats 4000000 in
set_option maxRecDepth 100000 in
theorem w_X11_seed {Q : Int64 → MI → MJ → Prop} (C : gC RX11 cX11_seed 5 (some .long) 66 ad cy D (xF ad ts) p s m args meth c) {a0 : Int64} {I : MI} {J : MJ} {H : Heap} {locs : List Loc} {ls : Array Slot} (h : P_X11_seed a0 I J Q) (hw : gH (xS ad cy) 66 ad D s I J H locs) (hl : lv_has ls 5 [(0, .ref (ad 0)), (1, .long a0)]) : W p l e rmX11_seed s m args below meth c H locs 0 0 (MQ below (gQl (xS ad cy) 66 ad cy D (xF ad ts) Q) args s 0 0 (gA 66 ad)) (F0 m 0 ls []) := by
  obtain ⟨hx, hb, hC⟩ := id C
  refine lv_aload_n hx hb dX11_seed_0 rfl (lv_at hl 0 rfl) ?_
  refine g_get C hw f_RX11_89 xl_0 (xs_0 _ _) rfl dX11_seed_1 ?_
  refine lv_lstore_n (lv' := [(3, .long (J 0 16)), (0, .ref (ad 0)), (1, .long a0)]) hx hb dX11_seed_4 rfl hl (by decide) rfl (fun ls hl => ?_)
  refine lv_aload_n hx hb dX11_seed_5 rfl (lv_at hl 1 rfl) ?_
  refine lv_lload_n hx hb dX11_seed_6 rfl (lv_at hl 2 rfl) ?_
  refine g_putJ C hw fp_RX11_89 xl_0 xs_0 (st_10_16 ad _) (Nat.le_of_ble_eq_true rfl) dX11_seed_7 (fun H locs hw => ?_)
  obtain ⟨J7, e7⟩ : ∃ z : MJ, z = mJ J 0 16 a0 := ⟨_, rfl⟩
  have h := h J7 e7
  rw [← e7] at hw
  refine lv_lload_n hx hb dX11_seed_10 rfl (lv_at hl 0 rfl) ?_
  exact g_lret C hw h dX11_seed_11
theorem m_X11_seed {l : Launch} {a0 : Int64} {Q : Int64 → MI → MJ → Prop} {I : MI} {J : MJ} (h : P_X11_seed a0 I J Q) : Met l yX11_seed (xws yX11_seed cX11_seed 5 (some .long)) rmX11_seed (va_Pc [.ref (ad 0), .long a0] (gB (xS ad cy) 66 ad cy D (xF ad ts) I J)) (gQl (xS ad cy) 66 ad cy D (xF ad ts) Q) 0 0 (gA 66 ad) :=
  g_met (xF_ok ad ts) rfl (by decide) (Nat.le_of_ble_eq_true rfl) (fun p e s m below meth c ls C hw hl => w_X11_seed C  h hw hl)
/-! BagPhrases.drawn(I)I -/
def P_X11_drawn_84 (Q : Int32 → MI → MJ → Prop) (kL28 : Int32 × Int64 × Int32 × Int32 × MI × MJ → Prop) (x1 : Int32) (x2 : Int64) (x4 : Int32) (x5 : Int32) (I : MI) (J : MJ) : Prop :=
  kL28 (x1, x2, x4, (x5 + 1), I, J)
def P_X11_drawn_28 (Q : Int32 → MI → MJ → Prop) (kL28 : Int32 × Int64 × Int32 × Int32 × MI × MJ → Prop) : Int32 × Int64 × Int32 × Int32 × MI × MJ → Prop := fun z => match z with
  | (x1, x2, x4, x5, I, J) => ((x1 ≤ x5 → Q x4 I J) ∧ (¬ x1 ≤ x5 → (∀ J47 : MJ, J47 = mJ J 0 16 (((J 0 16) * (6364136223846793005 : Int64)) + (1442695040888963407 : Int64)) → ((x2 ≤ (0 : Int64) → P_X11_drawn_84 Q kL28 x1 x2 x4 x5 I J47) ∧ (¬ x2 ≤ (0 : Int64) → ¬ x2 = 0 ∧ (P_X6_findNumbered ((((J47 0 16).toUInt64 >>> ((33 : Int32).toInt64.toUInt64 &&& Int64.toUInt64 63)).toInt64) - (((J47 0 16).toUInt64 >>> ((33 : Int32).toInt64.toUInt64 &&& Int64.toUInt64 63)).toInt64) / x2 * x2) I J47 (fun I69 J69 => P_X6_foundWorth I69 J69 (fun r78 I78 J78 => P_X11_drawn_84 Q kL28 x1 x2 (x4 + r78) x5 I78 J78))))))))
def P_X11_drawn (a0 : Int32) (I : MI) (J : MJ) (Q : Int32 → MI → MJ → Prop) : Prop :=
  ((a0 < (1 : Int32) → Q (-2 : Int32) I J) ∧ (¬ a0 < (1 : Int32) → ((a0 ≤ (20 : Int32) → P_X6_count I J (fun r18 I18 J18 => lpx (P_X11_drawn_28 Q) (a0, r18, (0 : Int32), (0 : Int32), I18, J18))) ∧ (¬ a0 ≤ (20 : Int32) → Q (-2 : Int32) I J))))
abbrev rmX11_drawn : Room := { frames := 6, cells := 0, slots := 0, locals := 165 }
set_option maxHeartbeats 4000000 in
set_option maxRecDepth 100000 in
theorem w_X11_drawn_84 {Q : Int32 → MI → MJ → Prop} (C : gC RX11 cX11_drawn 6 (some .int) 66 ad cy D (xF ad ts) p s m args meth c) {kL28 : Int32 × Int64 × Int32 × Int32 × MI × MJ → Prop} (hL28 : ∀ {x1 : Int32} {x2 : Int64} {x4 : Int32} {x5 : Int32} {I : MI} {J : MJ} {H : Heap} {locs : List Loc} {ls : Array Slot}, kL28 (x1, x2, x4, x5, I, J) → gH (xS ad cy) 66 ad D s I J H locs → lv_has ls 6 [(0, .ref (ad 0)), (1, .int x1), (2, .long x2), (4, .int x4), (5, .int x5)] → W p l e rmX11_drawn s m args below meth c H locs 0 0 (MQ below (gQi (xS ad cy) 66 ad cy D (xF ad ts) Q) args s 0 0 (gA 66 ad)) (F0 m 28 ls [])) {x1 : Int32} {x2 : Int64} {x4 : Int32} {x5 : Int32} {I : MI} {J : MJ} {H : Heap} {locs : List Loc} {ls : Array Slot} (h : P_X11_drawn_84 Q kL28 x1 x2 x4 x5 I J) (hw : gH (xS ad cy) 66 ad D s I J H locs) (hl : lv_has ls 6 [(0, .ref (ad 0)), (1, .int x1), (2, .long x2), (4, .int x4), (5, .int x5)]) : W p l e rmX11_drawn s m args below meth c H locs 0 0 (MQ below (gQi (xS ad cy) 66 ad cy D (xF ad ts) Q) args s 0 0 (gA 66 ad)) (F0 m 84 ls []) := by
  obtain ⟨hx, hb, hC⟩ := id C
  refine lv_iinc (v := x5 + 1) (lv' := [(5, .int (x5 + 1)), (0, .ref (ad 0)), (1, .int x1), (2, .long x2), (4, .int x4)]) hx hb dX11_drawn_84 hl (k := 4) rfl rfl (by decide) rfl (fun ls hl => ?_)
  refine lv_goto (tgt := 28) hx hb dX11_drawn_87 (by decide) ?_
  exact hL28 h hw (lv_sub hl [1, 2, 3, 4, 0] rfl)
set_option maxHeartbeats 4000000 in
set_option maxRecDepth 100000 in
theorem w_X11_drawn_28 {Q : Int32 → MI → MJ → Prop} (C : gC RX11 cX11_drawn 6 (some .int) 66 ad cy D (xF ad ts) p s m args meth c) {kL28 : Int32 × Int64 × Int32 × Int32 × MI × MJ → Prop} (hL28 : ∀ {x1 : Int32} {x2 : Int64} {x4 : Int32} {x5 : Int32} {I : MI} {J : MJ} {H : Heap} {locs : List Loc} {ls : Array Slot}, kL28 (x1, x2, x4, x5, I, J) → gH (xS ad cy) 66 ad D s I J H locs → lv_has ls 6 [(0, .ref (ad 0)), (1, .int x1), (2, .long x2), (4, .int x4), (5, .int x5)] → W p l e rmX11_drawn s m args below meth c H locs 0 0 (MQ below (gQi (xS ad cy) 66 ad cy D (xF ad ts) Q) args s 0 0 (gA 66 ad)) (F0 m 28 ls [])) {x1 : Int32} {x2 : Int64} {x4 : Int32} {x5 : Int32} {I : MI} {J : MJ} {H : Heap} {locs : List Loc} {ls : Array Slot} (h : P_X11_drawn_28 Q kL28 (x1, x2, x4, x5, I, J)) (hw : gH (xS ad cy) 66 ad D s I J H locs) (hl : lv_has ls 6 [(0, .ref (ad 0)), (1, .int x1), (2, .long x2), (4, .int x4), (5, .int x5)]) : W p l e rmX11_drawn s m args below meth c H locs 0 0 (MQ below (gQi (xS ad cy) 66 ad cy D (xF ad ts) Q) args s 0 0 (gA 66 ad)) (F0 m 28 ls []) := by
  obtain ⟨hx, hb, hC⟩ := id C
  refine lv_iload hx hb dX11_drawn_28 (lv_at hl 4 rfl) ?_
  refine lv_iload_n hx hb dX11_drawn_30 rfl (lv_at hl 1 rfl) ?_
  refine lv_icmp_ge (tgt := 90) hx hb dX11_drawn_31 (by decide) (fun c31 => ?_) (fun c31 => ?_)
  · have h := h.1 c31
    refine lv_iload hx hb dX11_drawn_90 (lv_at hl 3 rfl) ?_
    exact g_iret C hw h dX11_drawn_92
  · have h := h.2 c31
    refine lv_aload_n hx hb dX11_drawn_34 rfl (lv_at hl 0 rfl) ?_
    refine lv_aload_n hx hb dX11_drawn_35 rfl (lv_at hl 0 rfl) ?_
    refine g_get C hw f_RX11_89 xl_0 (xs_0 _ _) rfl dX11_drawn_36 ?_
    refine lv_ldc2 (v := (6364136223846793005)) hx hb hC.2.2.1 (hC.2.2.2.1 _ q_RX11_275) dX11_drawn_39 ?_
    refine lv_lmul hx hb dX11_drawn_42 ?_
    refine lv_ldc2 (v := (1442695040888963407)) hx hb hC.2.2.1 (hC.2.2.2.1 _ q_RX11_277) dX11_drawn_43 ?_
    refine lv_ladd hx hb dX11_drawn_46 ?_
    refine g_putJ C hw fp_RX11_89 xl_0 xs_0 (st_10_16 ad _) (Nat.le_of_ble_eq_true rfl) dX11_drawn_47 (fun H locs hw => ?_)
    obtain ⟨J47, e47⟩ : ∃ z : MJ, z = mJ J 0 16 (((J 0 16) * (6364136223846793005 : Int64)) + (1442695040888963407 : Int64)) := ⟨_, rfl⟩
    have h := h J47 e47
    rw [← e47] at hw
    refine lv_lload_n hx hb dX11_drawn_50 rfl (lv_at hl 2 rfl) ?_
    refine lv_lconst (v := 0) hx hb dX11_drawn_51 (by decide) ?_
    refine g_lcmp_le (tgt := 84) hx hb dX11_drawn_52 dX11_drawn_53 (by decide) (fun c52 => ?_) (fun c52 => ?_)
    · have h := h.1 c52
      exact w_X11_drawn_84 C hL28 h hw (lv_sub hl [0, 1, 2, 3, 4] rfl)
    · have h := h.2 c52
      refine lv_aload_n hx hb dX11_drawn_56 rfl (lv_at hl 0 rfl) ?_
      refine g_get C hw f_RX11_53 xl_0 (xs_0 _ _) rfl dX11_drawn_57 ?_
      refine lv_aload_n hx hb dX11_drawn_60 rfl (lv_at hl 0 rfl) ?_
      refine g_get C hw f_RX11_89 xl_0 (xs_0 _ _) rfl dX11_drawn_61 ?_
      refine lv_bipush (v := 33) hx hb dX11_drawn_64 (by decide) ?_
      refine lv_lushr hx hb dX11_drawn_66 rfl ?_
      refine lv_lload_n hx hb dX11_drawn_67 rfl (lv_at hl 2 rfl) ?_
      refine lv_lrem hx hb dX11_drawn_68 h.1 ?_
      have h := h.2
      refine g_cv hw (g_rV [.long ((((J47 0 16).toUInt64 >>> ((33 : Int32).toInt64.toUInt64 &&& Int64.toUInt64 63)).toInt64) - (((J47 0 16).toUInt64 >>> ((33 : Int32).toInt64.toUInt64 &&& Int64.toUInt64 63)).toInt64) / x2 * x2)] [] C hw (m_X6_findNumbered h) k_X6_findNumbered q_RX11_227 xl_39 (xs_39 _ _) rfl rfl hl.1 rfl (Nat.le_of_ble_eq_true rfl) ⟨⟨rfl, rfl⟩, Nat.le_of_ble_eq_true rfl, Nat.le_of_ble_eq_true rfl⟩ ⟨Nat.zero_le _, Nat.zero_le _⟩ dX11_drawn_69) (fun I69 J69 H locs h hw => ?_)
      refine lv_iload hx hb dX11_drawn_72 (lv_at hl 3 rfl) ?_
      refine lv_aload_n hx hb dX11_drawn_74 rfl (lv_at hl 0 rfl) ?_
      refine g_get C hw f_RX11_53 xl_0 (xs_0 _ _) rfl dX11_drawn_75 ?_
      refine g_ci hw (g_rV [] [.int x4] C hw (m_X6_foundWorth h) k_X6_foundWorth q_RX11_218 xl_39 (xs_39 _ _) rfl rfl hl.1 rfl (Nat.le_of_ble_eq_true rfl) ⟨⟨rfl, rfl⟩, Nat.le_of_ble_eq_true rfl, Nat.le_of_ble_eq_true rfl⟩ ⟨Nat.zero_le _, Nat.zero_le _⟩ dX11_drawn_78) (fun r78 I78 J78 H locs h hw => ?_)
      refine lv_iadd hx hb dX11_drawn_81 ?_
      refine lv_istore (lv' := [(4, .int (x4 + r78)), (0, .ref (ad 0)), (1, .int x1), (2, .long x2), (5, .int x5)]) hx hb dX11_drawn_82 hl (by decide) rfl (fun ls hl => ?_)
      exact w_X11_drawn_84 C hL28 h hw (lv_sub hl [1, 2, 3, 0, 4] rfl)
theorem wl_X11_drawn_28 {Q : Int32 → MI → MJ → Prop} (C : gC RX11 cX11_drawn 6 (some .int) 66 ad cy D (xF ad ts) p s m args meth c) {x1 : Int32} {x2 : Int64} {x4 : Int32} {x5 : Int32} {I : MI} {J : MJ} {H : Heap} {locs : List Loc} {ls : Array Slot} (h : lpx (P_X11_drawn_28 Q) (x1, x2, x4, x5, I, J)) (hw : gH (xS ad cy) 66 ad D s I J H locs) (hl : lv_has ls 6 [(0, .ref (ad 0)), (1, .int x1), (2, .long x2), (4, .int x4), (5, .int x5)]) : W p l e rmX11_drawn s m args below meth c H locs 0 0 (MQ below (gQi (xS ad cy) 66 ad cy D (xF ad ts) Q) args s 0 0 (gA 66 ad)) (F0 m 28 ls []) := by
  obtain ⟨n, h⟩ := h
  induction n generalizing x1 x2 x4 x5 I J H locs ls with
  | zero => exact False.elim h
  | succ n ih => exact w_X11_drawn_28 C  (fun hk9 hw9 hl9 => ih hw9 hl9 hk9) h hw hl
set_option maxHeartbeats 4000000 in
set_option maxRecDepth 100000 in
theorem w_X11_drawn {Q : Int32 → MI → MJ → Prop} (C : gC RX11 cX11_drawn 6 (some .int) 66 ad cy D (xF ad ts) p s m args meth c) {a0 : Int32} {I : MI} {J : MJ} {H : Heap} {locs : List Loc} {ls : Array Slot} (h : P_X11_drawn a0 I J Q) (hw : gH (xS ad cy) 66 ad D s I J H locs) (hl : lv_has ls 6 [(0, .ref (ad 0)), (1, .int a0)]) : W p l e rmX11_drawn s m args below meth c H locs 0 0 (MQ below (gQi (xS ad cy) 66 ad cy D (xF ad ts) Q) args s 0 0 (gA 66 ad)) (F0 m 0 ls []) := by
  obtain ⟨hx, hb, hC⟩ := id C
  refine lv_iload_n hx hb dX11_drawn_0 rfl (lv_at hl 1 rfl) ?_
  refine lv_iconst (v := 1) hx hb dX11_drawn_1 (by decide) ?_
  refine lv_icmp_lt (tgt := 11) hx hb dX11_drawn_2 (by decide) (fun c2 => ?_) (fun c2 => ?_)
  · have h := h.1 c2
    refine lv_bipush (v := -2) hx hb dX11_drawn_11 (by decide) ?_
    exact g_iret C hw h dX11_drawn_13
  · have h := h.2 c2
    refine lv_iload_n hx hb dX11_drawn_5 rfl (lv_at hl 1 rfl) ?_
    refine lv_bipush (v := 20) hx hb dX11_drawn_6 (by decide) ?_
    refine lv_icmp_le (tgt := 14) hx hb dX11_drawn_8 (by decide) (fun c8 => ?_) (fun c8 => ?_)
    · have h := h.1 c8
      refine lv_aload_n hx hb dX11_drawn_14 rfl (lv_at hl 0 rfl) ?_
      refine g_get C hw f_RX11_53 xl_0 (xs_0 _ _) rfl dX11_drawn_15 ?_
      refine g_cl hw (g_rV [] [] C hw (m_X6_count h) k_X6_count q_RX11_202 xl_39 (xs_39 _ _) rfl rfl hl.1 rfl (Nat.le_of_ble_eq_true rfl) ⟨⟨rfl, rfl⟩, Nat.le_of_ble_eq_true rfl, Nat.le_of_ble_eq_true rfl⟩ ⟨Nat.zero_le _, Nat.zero_le _⟩ dX11_drawn_18) (fun r18 I18 J18 H locs h hw => ?_)
      refine lv_lstore_n (lv' := [(2, .long r18), (0, .ref (ad 0)), (1, .int a0)]) hx hb dX11_drawn_21 rfl hl (by decide) rfl (fun ls hl => ?_)
      refine lv_iconst (v := 0) hx hb dX11_drawn_22 (by decide) ?_
      refine lv_istore (lv' := [(4, .int (0 : Int32)), (2, .long r18), (0, .ref (ad 0)), (1, .int a0)]) hx hb dX11_drawn_23 hl (by decide) rfl (fun ls hl => ?_)
      refine lv_iconst (v := 0) hx hb dX11_drawn_25 (by decide) ?_
      refine lv_istore (lv' := [(5, .int (0 : Int32)), (4, .int (0 : Int32)), (2, .long r18), (0, .ref (ad 0)), (1, .int a0)]) hx hb dX11_drawn_26 hl (by decide) rfl (fun ls hl => ?_)
      exact wl_X11_drawn_28 C  h hw (lv_sub hl [3, 4, 2, 1, 0] rfl)
    · have h := h.2 c8
      refine lv_bipush (v := -2) hx hb dX11_drawn_11 (by decide) ?_
      exact g_iret C hw h dX11_drawn_13
theorem m_X11_drawn {l : Launch} {a0 : Int32} {Q : Int32 → MI → MJ → Prop} {I : MI} {J : MJ} (h : P_X11_drawn a0 I J Q) : Met l yX11_drawn (xws yX11_drawn cX11_drawn 6 (some .int)) rmX11_drawn (va_Pc [.ref (ad 0), .int a0] (gB (xS ad cy) 66 ad cy D (xF ad ts) I J)) (gQi (xS ad cy) 66 ad cy D (xF ad ts) Q) 0 0 (gA 66 ad) :=
  g_met (xF_ok ad ts) rfl (by decide) (Nat.le_of_ble_eq_true rfl) (fun p e s m below meth c ls C hw hl => w_X11_drawn C  h hw hl)
/-! BagPhrases.keep(I)I -/
def P_X11_keep (a0 : Int32) (I : MI) (J : MJ) (Q : Int32 → MI → MJ → Prop) : Prop :=
  ((a0 < 0 → Q (-1 : Int32) I J) ∧ (¬ a0 < 0 → ((a0 < (2 : Int32) → vp_in a0 2 ∧ (P_X8_copy (slc a0) 17 I J (fun I21 J21 => vp_in a0 2 ∧ (∀ I30 : MI, I30 = mI I21 34 a0.toNatClampNeg (vp_nar .boolean (1 : Int32)) → Q (I30 12 4) I30 J21)))) ∧ (¬ a0 < (2 : Int32) → Q (-1 : Int32) I J))))
abbrev rmX11_keep : Room := { frames := 2, cells := 0, slots := 0, locals := 59 }
set_option maxHeartbeats 4000000 in
set_option maxRecDepth 100000 in
theorem w_X11_keep {Q : Int32 → MI → MJ → Prop} (C : gC RX11 cX11_keep 2 (some .int) 66 ad cy D (xF ad ts) p s m args meth c) {a0 : Int32} {I : MI} {J : MJ} {H : Heap} {locs : List Loc} {ls : Array Slot} (h : P_X11_keep a0 I J Q) (hw : gH (xS ad cy) 66 ad D s I J H locs) (hl : lv_has ls 2 [(0, .ref (ad 0)), (1, .int a0)]) : W p l e rmX11_keep s m args below meth c H locs 0 0 (MQ below (gQi (xS ad cy) 66 ad cy D (xF ad ts) Q) args s 0 0 (gA 66 ad)) (F0 m 0 ls []) := by
  obtain ⟨hx, hb, hC⟩ := id C
  refine lv_iload_n hx hb dX11_keep_0 rfl (lv_at hl 1 rfl) ?_
  refine lv_if_lt (tgt := 9) hx hb dX11_keep_1 (by decide) (fun c1 => ?_) (fun c1 => ?_)
  · have h := h.1 c1
    refine lv_iconst (v := -1) hx hb dX11_keep_9 (by decide) ?_
    exact g_iret C hw h dX11_keep_10
  · have h := h.2 c1
    refine lv_iload_n hx hb dX11_keep_4 rfl (lv_at hl 1 rfl) ?_
    refine lv_iconst (v := 2) hx hb dX11_keep_5 (by decide) ?_
    refine lv_icmp_lt (tgt := 11) hx hb dX11_keep_6 (by decide) (fun c6 => ?_) (fun c6 => ?_)
    · have h := h.1 c6
      refine lv_aload_n hx hb dX11_keep_11 rfl (lv_at hl 0 rfl) ?_
      refine g_get C hw f_RX11_33 xl_0 (xs_0 _ _) rfl dX11_keep_12 ?_
      refine lv_iload_n hx hb dX11_keep_15 rfl (lv_at hl 1 rfl) ?_
      refine g_slot C hw h.1 dX11_keep_16 ?_
      have h := h.2
      refine lv_aload_n hx hb dX11_keep_17 rfl (lv_at hl 0 rfl) ?_
      refine g_get C hw f_RX11_26 xl_0 (xs_0 _ _) rfl dX11_keep_18 ?_
      refine g_cv hw (g_rV [.ref (ad 17)] [] C hw (m_X8_copy (isSet_slc _) isSet_17 h) k_X8_copy q_RX11_112 (xl_Set0 (isSet_slc _)) ((xs_Set0 (isSet_slc _)) _ _) rfl rfl hl.1 rfl (Nat.le_of_ble_eq_true rfl) ⟨⟨rfl, rfl⟩, Nat.le_of_ble_eq_true rfl, Nat.le_of_ble_eq_true rfl⟩ ⟨Nat.zero_le _, Nat.zero_le _⟩ dX11_keep_21) (fun I21 J21 H locs h hw => ?_)
      refine lv_aload_n hx hb dX11_keep_24 rfl (lv_at hl 0 rfl) ?_
      refine g_get C hw f_RX11_37 xl_0 (xs_0 _ _) rfl dX11_keep_25 ?_
      refine lv_iload_n hx hb dX11_keep_28 rfl (lv_at hl 1 rfl) ?_
      refine lv_iconst (v := 1) hx hb dX11_keep_29 (by decide) ?_
      refine g_zast C hw xl_34 xs_34 h.1 dX11_keep_30 (fun H locs hw => ?_)
      have h := h.2
      obtain ⟨I30, e30⟩ : ∃ z : MI, z = mI I21 34 a0.toNatClampNeg (vp_nar .boolean (1 : Int32)) := ⟨_, rfl⟩
      have h := h I30 e30
      rw [← e30] at hw
      refine lv_aload_n hx hb dX11_keep_31 rfl (lv_at hl 0 rfl) ?_
      refine g_get C hw f_RX11_19 xl_0 (xs_0 _ _) rfl dX11_keep_32 ?_
      refine g_get C hw f_RX11_119 xl_12 (xs_12 _ _) rfl dX11_keep_35 ?_
      exact g_iret C hw h dX11_keep_38
    · have h := h.2 c6
      refine lv_iconst (v := -1) hx hb dX11_keep_9 (by decide) ?_
      exact g_iret C hw h dX11_keep_10
theorem m_X11_keep {l : Launch} {a0 : Int32} {Q : Int32 → MI → MJ → Prop} {I : MI} {J : MJ} (h : P_X11_keep a0 I J Q) : Met l yX11_keep (xws yX11_keep cX11_keep 2 (some .int)) rmX11_keep (va_Pc [.ref (ad 0), .int a0] (gB (xS ad cy) 66 ad cy D (xF ad ts) I J)) (gQi (xS ad cy) 66 ad cy D (xF ad ts) Q) 0 0 (gA 66 ad) :=
  g_met (xF_ok ad ts) rfl (by decide) (Nat.le_of_ble_eq_true rfl) (fun p e s m below meth c ls C hw hl => w_X11_keep C  h hw hl)
/-! BagPhrases.again(I)I -/
def P_X11_again (a0 : Int32) (I : MI) (J : MJ) (Q : Int32 → MI → MJ → Prop) : Prop :=
  ((a0 < 0 → Q (-1 : Int32) I J) ∧ (¬ a0 < 0 → ((a0 < (2 : Int32) → vp_in a0 2 ∧ (((¬ (I 34 a0.toNatClampNeg) = 0 → vp_in a0 2 ∧ (P_X8_copy 17 (slc a0) I J (fun I33 J33 => (∀ I41 : MI, I41 = mI I33 35 3 (0 : Int32) → P_X11_outdate I41 J33 (fun I45 J45 => Q (I45 12 4) I45 J45))))) ∧ ((I 34 a0.toNatClampNeg) = 0 → Q (-3 : Int32) I J)))) ∧ (¬ a0 < (2 : Int32) → Q (-1 : Int32) I J))))
abbrev rmX11_again : Room := { frames := 2, cells := 0, slots := 0, locals := 59 }
set_option maxHeartbeats 4000000 in
set_option maxRecDepth 100000 in
theorem w_X11_again {Q : Int32 → MI → MJ → Prop} (C : gC RX11 cX11_again 2 (some .int) 66 ad cy D (xF ad ts) p s m args meth c) {a0 : Int32} {I : MI} {J : MJ} {H : Heap} {locs : List Loc} {ls : Array Slot} (h : P_X11_again a0 I J Q) (hw : gH (xS ad cy) 66 ad D s I J H locs) (hl : lv_has ls 2 [(0, .ref (ad 0)), (1, .int a0)]) : W p l e rmX11_again s m args below meth c H locs 0 0 (MQ below (gQi (xS ad cy) 66 ad cy D (xF ad ts) Q) args s 0 0 (gA 66 ad)) (F0 m 0 ls []) := by
  obtain ⟨hx, hb, hC⟩ := id C
  refine lv_iload_n hx hb dX11_again_0 rfl (lv_at hl 1 rfl) ?_
  refine lv_if_lt (tgt := 9) hx hb dX11_again_1 (by decide) (fun c1 => ?_) (fun c1 => ?_)
  · have h := h.1 c1
    refine lv_iconst (v := -1) hx hb dX11_again_9 (by decide) ?_
    exact g_iret C hw h dX11_again_10
  · have h := h.2 c1
    refine lv_iload_n hx hb dX11_again_4 rfl (lv_at hl 1 rfl) ?_
    refine lv_iconst (v := 2) hx hb dX11_again_5 (by decide) ?_
    refine lv_icmp_lt (tgt := 11) hx hb dX11_again_6 (by decide) (fun c6 => ?_) (fun c6 => ?_)
    · have h := h.1 c6
      refine lv_aload_n hx hb dX11_again_11 rfl (lv_at hl 0 rfl) ?_
      refine g_get C hw f_RX11_37 xl_0 (xs_0 _ _) rfl dX11_again_12 ?_
      refine lv_iload_n hx hb dX11_again_15 rfl (lv_at hl 1 rfl) ?_
      refine g_zald C hw xl_34 xs_34 h.1 dX11_again_16 ?_
      have h := h.2
      refine lv_if_ne (tgt := 23) hx hb dX11_again_17 (by decide) (fun c17 => ?_) (fun c17 => ?_)
      · have h := h.1 c17
        refine lv_aload_n hx hb dX11_again_23 rfl (lv_at hl 0 rfl) ?_
        refine g_get C hw f_RX11_26 xl_0 (xs_0 _ _) rfl dX11_again_24 ?_
        refine lv_aload_n hx hb dX11_again_27 rfl (lv_at hl 0 rfl) ?_
        refine g_get C hw f_RX11_33 xl_0 (xs_0 _ _) rfl dX11_again_28 ?_
        refine lv_iload_n hx hb dX11_again_31 rfl (lv_at hl 1 rfl) ?_
        refine g_slot C hw h.1 dX11_again_32 ?_
        have h := h.2
        refine g_cv hw (g_rV [.ref (ad (slc a0))] [] C hw (m_X8_copy isSet_17 (isSet_slc _) h) k_X8_copy q_RX11_112 xl_17 (xs_17 _ _) rfl rfl hl.1 rfl (Nat.le_of_ble_eq_true rfl) ⟨⟨rfl, rfl⟩, Nat.le_of_ble_eq_true rfl, Nat.le_of_ble_eq_true rfl⟩ ⟨Nat.zero_le _, Nat.zero_le _⟩ dX11_again_33) (fun I33 J33 H locs h hw => ?_)
        refine lv_aload_n hx hb dX11_again_36 rfl (lv_at hl 0 rfl) ?_
        refine g_get C hw f_RX11_44 xl_0 (xs_0 _ _) rfl dX11_again_37 ?_
        refine lv_iconst (v := 0) hx hb dX11_again_40 (by decide) ?_
        refine g_putI C hw fp_RX11_115 xl_35 xs_35 (st_2_3 ad _) (Nat.le_of_ble_eq_true rfl) rfl rfl dX11_again_41 (fun H locs hw => ?_)
        obtain ⟨I41, e41⟩ : ∃ z : MI, z = mI I33 35 3 (0 : Int32) := ⟨_, rfl⟩
        have h := h I41 e41
        rw [← e41] at hw
        refine lv_aload_n hx hb dX11_again_44 rfl (lv_at hl 0 rfl) ?_
        refine g_cv hw (g_rV [] [] C hw (m_X11_outdate h) k_X11_outdate q_RX11_116 xl_0 (xs_0 _ _) rfl rfl hl.1 rfl (Nat.le_of_ble_eq_true rfl) ⟨⟨rfl, rfl⟩, Nat.le_of_ble_eq_true rfl, Nat.le_of_ble_eq_true rfl⟩ ⟨Nat.zero_le _, Nat.zero_le _⟩ dX11_again_45) (fun I45 J45 H locs h hw => ?_)
        refine lv_aload_n hx hb dX11_again_48 rfl (lv_at hl 0 rfl) ?_
        refine g_get C hw f_RX11_19 xl_0 (xs_0 _ _) rfl dX11_again_49 ?_
        refine g_get C hw f_RX11_119 xl_12 (xs_12 _ _) rfl dX11_again_52 ?_
        exact g_iret C hw h dX11_again_55
      · have h := h.2 c17
        refine lv_bipush (v := -3) hx hb dX11_again_20 (by decide) ?_
        exact g_iret C hw h dX11_again_22
    · have h := h.2 c6
      refine lv_iconst (v := -1) hx hb dX11_again_9 (by decide) ?_
      exact g_iret C hw h dX11_again_10
theorem m_X11_again {l : Launch} {a0 : Int32} {Q : Int32 → MI → MJ → Prop} {I : MI} {J : MJ} (h : P_X11_again a0 I J Q) : Met l yX11_again (xws yX11_again cX11_again 2 (some .int)) rmX11_again (va_Pc [.ref (ad 0), .int a0] (gB (xS ad cy) 66 ad cy D (xF ad ts) I J)) (gQi (xS ad cy) 66 ad cy D (xF ad ts) Q) 0 0 (gA 66 ad) :=
  g_met (xF_ok ad ts) rfl (by decide) (Nat.le_of_ble_eq_true rfl) (fun p e s m below meth c ls C hw hl => w_X11_again C  h hw hl)
end
