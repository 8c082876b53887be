section
variable {p : Program} {l : Launch} {e : Env} {s : State} {m : MethodId} {args : Array Value} {below : List Frame} {meth : Method} {c : Code} {ad : Nat → Nat} {cy : Nat → ClassId} {D : va_G} {ts : Nat → Nat}
/-! BagPhrases$Counting.none()J -/
def P_X1_none (I : MI) (J : MJ) (Q : Int64 → MI → MJ → Prop) : Prop :=
  Q (0 : Int64) I J
abbrev rmX1_none : Room := { frames := 0, cells := 0, slots := 0, locals := 0 }
set_option maxHeartbeats 4000000 in
set_option maxRecDepth 100000 in
theorem w_X1_none {Q : Int64 → MI → MJ → Prop} (C : gC RX1 cX1_none 1 (some .long) 66 ad cy D (xF ad ts) p s m args meth c) {I : MI} {J : MJ} {H : Heap} {locs : List Loc} {ls : Array Slot} (h : P_X1_none I J Q) (hw : gH (xS ad cy) 66 ad D s I J H locs) (hl : lv_has ls 1 [(0, .ref (ad 40))]) : W p l e rmX1_none s m args below meth c H locs 0 0 (MQ below (gQl (xS ad cy) 66 ad cy D (xF ad ts) Q) args s 0 0 (gA 66 ad)) (F0 m 0 ls []) := by
  obtain ⟨hx, hb, hC⟩ := id C
  refine lv_lconst (v := 0) hx hb dX1_none_0 (by decide) ?_
  exact g_lret C hw h dX1_none_1
theorem m_X1_none {l : Launch} {Q : Int64 → MI → MJ → Prop} {I : MI} {J : MJ} (h : P_X1_none I J Q) : Met l yX1_none (xws yX1_none cX1_none 1 (some .long)) rmX1_none (va_Pc [.ref (ad 40)] (gB (xS ad cy) 66 ad cy D (xF ad ts) I J)) (gQl (xS ad cy) 66 ad cy D (xF ad ts) Q) 0 0 (gA 66 ad) :=
  g_met (xF_ok ad ts) rfl (by decide) (Nat.le_of_ble_eq_true rfl) (fun p e s m below meth c ls C hw hl => w_X1_none C  h hw hl)
/-! BagPhrases$Counting.ended()J -/
def P_X1_ended (I : MI) (J : MJ) (Q : Int64 → MI → MJ → Prop) : Prop :=
  Q (1 : Int64) I J
abbrev rmX1_ended : Room := { frames := 0, cells := 0, slots := 0, locals := 0 }
set_option maxHeartbeats 4000000 in
set_option maxRecDepth 100000 in
theorem w_X1_ended {Q : Int64 → MI → MJ → Prop} (C : gC RX1 cX1_ended 1 (some .long) 66 ad cy D (xF ad ts) p s m args meth c) {I : MI} {J : MJ} {H : Heap} {locs : List Loc} {ls : Array Slot} (h : P_X1_ended I J Q) (hw : gH (xS ad cy) 66 ad D s I J H locs) (hl : lv_has ls 1 [(0, .ref (ad 40))]) : W p l e rmX1_ended s m args below meth c H locs 0 0 (MQ below (gQl (xS ad cy) 66 ad cy D (xF ad ts) Q) args s 0 0 (gA 66 ad)) (F0 m 0 ls []) := by
  obtain ⟨hx, hb, hC⟩ := id C
  refine lv_lconst (v := 1) hx hb dX1_ended_0 (by decide) ?_
  exact g_lret C hw h dX1_ended_1
theorem m_X1_ended {l : Launch} {Q : Int64 → MI → MJ → Prop} {I : MI} {J : MJ} (h : P_X1_ended I J Q) : Met l yX1_ended (xws yX1_ended cX1_ended 1 (some .long)) rmX1_ended (va_Pc [.ref (ad 40)] (gB (xS ad cy) 66 ad cy D (xF ad ts) I J)) (gQl (xS ad cy) 66 ad cy D (xF ad ts) Q) 0 0 (gA 66 ad) :=
  g_met (xF_ok ad ts) rfl (by decide) (Nat.le_of_ble_eq_true rfl) (fun p e s m below meth c ls C hw hl => w_X1_ended C  h hw hl)
/-! BagPhrases$Counting.joined(JJ)J -/
def P_X1_joined (a0 : Int64) (a1 : Int64) (I : MI) (J : MJ) (Q : Int64 → MI → MJ → Prop) : Prop :=
  Q (a0 + a1) I J
abbrev rmX1_joined : Room := { frames := 0, cells := 0, slots := 0, locals := 0 }
set_option maxHeartbeats 4000000 in
set_option maxRecDepth 100000 in
theorem w_X1_joined {Q : Int64 → MI → MJ → Prop} (C : gC RX1 cX1_joined 5 (some .long) 66 ad cy D (xF ad ts) p s m args meth c) {a0 : Int64} {a1 : Int64} {I : MI} {J : MJ} {H : Heap} {locs : List Loc} {ls : Array Slot} (h : P_X1_joined a0 a1 I J Q) (hw : gH (xS ad cy) 66 ad D s I J H locs) (hl : lv_has ls 5 [(0, .ref (ad 40)), (1, .long a0), (3, .long a1)]) : W p l e rmX1_joined s m args below meth c H locs 0 0 (MQ below (gQl (xS ad cy) 66 ad cy D (xF ad ts) Q) args s 0 0 (gA 66 ad)) (F0 m 0 ls []) := by
  obtain ⟨hx, hb, hC⟩ := id C
  refine lv_lload_n hx hb dX1_joined_0 rfl (lv_at hl 1 rfl) ?_
  refine lv_lload_n hx hb dX1_joined_1 rfl (lv_at hl 2 rfl) ?_
  refine lv_ladd hx hb dX1_joined_2 ?_
  exact g_lret C hw h dX1_joined_3
theorem m_X1_joined {l : Launch} {a0 : Int64} {a1 : Int64} {Q : Int64 → MI → MJ → Prop} {I : MI} {J : MJ} (h : P_X1_joined a0 a1 I J Q) : Met l yX1_joined (xws yX1_joined cX1_joined 5 (some .long)) rmX1_joined (va_Pc [.ref (ad 40), .long a0, .long a1] (gB (xS ad cy) 66 ad cy D (xF ad ts) I J)) (gQl (xS ad cy) 66 ad cy D (xF ad ts) Q) 0 0 (gA 66 ad) :=
  g_met (xF_ok ad ts) rfl (by decide) (Nat.le_of_ble_eq_true rfl) (fun p e s m below meth c ls C hw hl => w_X1_joined C  h hw hl)
/-! BagPhrases$Counting.with(JJI)J -/
def P_X1_with (a0 : Int64) (a1 : Int64) (a2 : Int32) (I : MI) (J : MJ) (Q : Int64 → MI → MJ → Prop) : Prop :=
  Q (a0 + a1) I J
abbrev rmX1_with : Room := { frames := 0, cells := 0, slots := 0, locals := 0 }
set_option maxHeartbeats 4000000 in
set_option maxRecDepth 100000 in
theorem w_X1_with {Q : Int64 → MI → MJ → Prop} (C : gC RX1 cX1_with 6 (some .long) 66 ad cy D (xF ad ts) p s m args meth c) {a0 : Int64} {a1 : Int64} {a2 : Int32} {I : MI} {J : MJ} {H : Heap} {locs : List Loc} {ls : Array Slot} (h : P_X1_with a0 a1 a2 I J Q) (hw : gH (xS ad cy) 66 ad D s I J H locs) (hl : lv_has ls 6 [(0, .ref (ad 40)), (1, .long a0), (3, .long a1), (5, .int a2)]) : W p l e rmX1_with s m args below meth c H locs 0 0 (MQ below (gQl (xS ad cy) 66 ad cy D (xF ad ts) Q) args s 0 0 (gA 66 ad)) (F0 m 0 ls []) := by
  obtain ⟨hx, hb, hC⟩ := id C
  refine lv_lload_n hx hb dX1_with_0 rfl (lv_at hl 1 rfl) ?_
  refine lv_lload_n hx hb dX1_with_1 rfl (lv_at hl 2 rfl) ?_
  refine lv_ladd hx hb dX1_with_2 ?_
  exact g_lret C hw h dX1_with_3
theorem m_X1_with {l : Launch} {a0 : Int64} {a1 : Int64} {a2 : Int32} {Q : Int64 → MI → MJ → Prop} {I : MI} {J : MJ} (h : P_X1_with a0 a1 a2 I J Q) : Met l yX1_with (xws yX1_with cX1_with 6 (some .long)) rmX1_with (va_Pc [.ref (ad 40), .long a0, .long a1, .int a2] (gB (xS ad cy) 66 ad cy D (xF ad ts) I J)) (gQl (xS ad cy) 66 ad cy D (xF ad ts) Q) 0 0 (gA 66 ad) :=
  g_met (xF_ok ad ts) rfl (by decide) (Nat.le_of_ble_eq_true rfl) (fun p e s m below meth c ls C hw hl => w_X1_with C  h hw hl)
/-! BagPhrases$Worths.none()J -/
def P_X10_none (I : MI) (J : MJ) (Q : Int64 → MI → MJ → Prop) : Prop :=
  Q (-1 : Int64) I J
abbrev rmX10_none : Room := { frames := 0, cells := 0, slots := 0, locals := 0 }
set_option maxHeartbeats 4000000 in
set_option maxRecDepth 100000 in
theorem w_X10_none {Q : Int64 → MI → MJ → Prop} (C : gC RX10 cX10_none 1 (some .long) 66 ad cy D (xF ad ts) p s m args meth c) {I : MI} {J : MJ} {H : Heap} {locs : List Loc} {ls : Array Slot} (h : P_X10_none I J Q) (hw : gH (xS ad cy) 66 ad D s I J H locs) (hl : lv_has ls 1 [(0, .ref (ad 54))]) : W p l e rmX10_none s m args below meth c H locs 0 0 (MQ below (gQl (xS ad cy) 66 ad cy D (xF ad ts) Q) args s 0 0 (gA 66 ad)) (F0 m 0 ls []) := by
  obtain ⟨hx, hb, hC⟩ := id C
  refine lv_ldc2 (v := (-1)) hx hb hC.2.2.1 (hC.2.2.2.1 _ q_RX10_13) dX10_none_0 ?_
  exact g_lret C hw h dX10_none_3
theorem m_X10_none {l : Launch} {Q : Int64 → MI → MJ → Prop} {I : MI} {J : MJ} (h : P_X10_none I J Q) : Met l yX10_none (xws yX10_none cX10_none 1 (some .long)) rmX10_none (va_Pc [.ref (ad 54)] (gB (xS ad cy) 66 ad cy D (xF ad ts) I J)) (gQl (xS ad cy) 66 ad cy D (xF ad ts) Q) 0 0 (gA 66 ad) :=
  g_met (xF_ok ad ts) rfl (by decide) (Nat.le_of_ble_eq_true rfl) (fun p e s m below meth c ls C hw hl => w_X10_none C  h hw hl)
/-! BagPhrases$Worths.ended()J -/
def P_X10_ended (I : MI) (J : MJ) (Q : Int64 → MI → MJ → Prop) : Prop :=
  Q (0 : Int64) I J
abbrev rmX10_ended : Room := { frames := 0, cells := 0, slots := 0, locals := 0 }
set_option maxHeartbeats 4000000 in
set_option maxRecDepth 100000 in
theorem w_X10_ended {Q : Int64 → MI → MJ → Prop} (C : gC RX10 cX10_ended 1 (some .long) 66 ad cy D (xF ad ts) p s m args meth c) {I : MI} {J : MJ} {H : Heap} {locs : List Loc} {ls : Array Slot} (h : P_X10_ended I J Q) (hw : gH (xS ad cy) 66 ad D s I J H locs) (hl : lv_has ls 1 [(0, .ref (ad 54))]) : W p l e rmX10_ended s m args below meth c H locs 0 0 (MQ below (gQl (xS ad cy) 66 ad cy D (xF ad ts) Q) args s 0 0 (gA 66 ad)) (F0 m 0 ls []) := by
  obtain ⟨hx, hb, hC⟩ := id C
  refine lv_lconst (v := 0) hx hb dX10_ended_0 (by decide) ?_
  exact g_lret C hw h dX10_ended_1
theorem m_X10_ended {l : Launch} {Q : Int64 → MI → MJ → Prop} {I : MI} {J : MJ} (h : P_X10_ended I J Q) : Met l yX10_ended (xws yX10_ended cX10_ended 1 (some .long)) rmX10_ended (va_Pc [.ref (ad 54)] (gB (xS ad cy) 66 ad cy D (xF ad ts) I J)) (gQl (xS ad cy) 66 ad cy D (xF ad ts) Q) 0 0 (gA 66 ad) :=
  g_met (xF_ok ad ts) rfl (by decide) (Nat.le_of_ble_eq_true rfl) (fun p e s m below meth c ls C hw hl => w_X10_ended C  h hw hl)
/-! BagPhrases$Worths.joined(JJ)J -/
def P_X10_joined (a0 : Int64) (a1 : Int64) (I : MI) (J : MJ) (Q : Int64 → MI → MJ → Prop) : Prop :=
  Q (if a1 < a0 then a0 else a1) I J
abbrev rmX10_joined : Room := { frames := 1, cells := 0, slots := 0, locals := 24 }
set_option maxHeartbeats 4000000 in
set_option maxRecDepth 100000 in
theorem w_X10_joined {Q : Int64 → MI → MJ → Prop} (C : gC RX10 cX10_joined 5 (some .long) 66 ad cy D (xF ad ts) p s m args meth c) {a0 : Int64} {a1 : Int64} {I : MI} {J : MJ} {H : Heap} {locs : List Loc} {ls : Array Slot} (h : P_X10_joined a0 a1 I J Q) (hw : gH (xS ad cy) 66 ad D s I J H locs) (hl : lv_has ls 5 [(0, .ref (ad 54)), (1, .long a0), (3, .long a1)]) : W p l e rmX10_joined s m args below meth c H locs 0 0 (MQ below (gQl (xS ad cy) 66 ad cy D (xF ad ts) Q) args s 0 0 (gA 66 ad)) (F0 m 0 ls []) := by
  obtain ⟨hx, hb, hC⟩ := id C
  refine lv_lload_n hx hb dX10_joined_0 rfl (lv_at hl 1 rfl) ?_
  refine lv_lload_n hx hb dX10_joined_1 rfl (lv_at hl 2 rfl) ?_
  refine va_mmax_long hx hb (hC.2.1.trans hl.1.symm) hC.2.2.1 (hC.2.2.2.1 _ q_RX10_15) (hC.2.2.2.1 _ qms_max) (hC.2.2.2.1 _ qi_RJ9) (hC.2.2.2.1 _ qmc_max) (Nat.le_of_ble_eq_true rfl) (Nat.le_of_ble_eq_true rfl) (Nat.zero_le _) (Nat.zero_le _) dX10_joined_2 ?_
  exact g_lret C hw h dX10_joined_5
theorem m_X10_joined {l : Launch} {a0 : Int64} {a1 : Int64} {Q : Int64 → MI → MJ → Prop} {I : MI} {J : MJ} (h : P_X10_joined a0 a1 I J Q) : Met l yX10_joined (xws yX10_joined cX10_joined 5 (some .long)) rmX10_joined (va_Pc [.ref (ad 54), .long a0, .long a1] (gB (xS ad cy) 66 ad cy D (xF ad ts) I J)) (gQl (xS ad cy) 66 ad cy D (xF ad ts) Q) 0 0 (gA 66 ad) :=
  g_met (xF_ok ad ts) rfl (by decide) (Nat.le_of_ble_eq_true rfl) (fun p e s m below meth c ls C hw hl => w_X10_joined C  h hw hl)
/-! BagPhrases$Worths.with(JJI)J -/
def P_X10_with (a0 : Int64) (a1 : Int64) (a2 : Int32) (I : MI) (J : MJ) (Q : Int64 → MI → MJ → Prop) : Prop :=
  (((0 : Int64) ≤ a1 → vp_in a2 10 ∧ (Q (if (a1 + ((I 19 a2.toNatClampNeg).toInt64)) < a0 then a0 else (a1 + ((I 19 a2.toNatClampNeg).toInt64))) I J)) ∧ (¬ (0 : Int64) ≤ a1 → Q a0 I J))
abbrev rmX10_with : Room := { frames := 1, cells := 0, slots := 0, locals := 24 }
set_option maxHeartbeats 4000000 in
set_option maxRecDepth 100000 in
theorem w_X10_with {Q : Int64 → MI → MJ → Prop} (C : gC RX10 cX10_with 6 (some .long) 66 ad cy D (xF ad ts) p s m args meth c) {a0 : Int64} {a1 : Int64} {a2 : Int32} {I : MI} {J : MJ} {H : Heap} {locs : List Loc} {ls : Array Slot} (h : P_X10_with a0 a1 a2 I J Q) (hw : gH (xS ad cy) 66 ad D s I J H locs) (hl : lv_has ls 6 [(0, .ref (ad 54)), (1, .long a0), (3, .long a1), (5, .int a2)]) : W p l e rmX10_with s m args below meth c H locs 0 0 (MQ below (gQl (xS ad cy) 66 ad cy D (xF ad ts) Q) args s 0 0 (gA 66 ad)) (F0 m 0 ls []) := by
  obtain ⟨hx, hb, hC⟩ := id C
  refine lv_lload_n hx hb dX10_with_0 rfl (lv_at hl 2 rfl) ?_
  refine lv_lconst (v := 0) hx hb dX10_with_1 (by decide) ?_
  refine g_lcmp_ge (tgt := 10) hx hb dX10_with_2 dX10_with_3 (by decide) (fun c2 => ?_) (fun c2 => ?_)
  · have h := h.1 c2
    refine lv_lload_n hx hb dX10_with_10 rfl (lv_at hl 1 rfl) ?_
    refine lv_lload_n hx hb dX10_with_11 rfl (lv_at hl 2 rfl) ?_
    refine lv_aload_n hx hb dX10_with_12 rfl (lv_at hl 0 rfl) ?_
    refine g_get C hw f_RX10_7 xl_54 (xs_54 _ _) rfl dX10_with_13 ?_
    refine lv_iload hx hb dX10_with_16 (lv_at hl 3 rfl) ?_
    refine g_iald C hw xl_19 xs_19 h.1 dX10_with_18 ?_
    have h := h.2
    refine lv_i2l hx hb dX10_with_19 rfl ?_
    refine lv_ladd hx hb dX10_with_20 ?_
    refine va_mmax_long hx hb (hC.2.1.trans hl.1.symm) hC.2.2.1 (hC.2.2.2.1 _ q_RX10_15) (hC.2.2.2.1 _ qms_max) (hC.2.2.2.1 _ qi_RJ9) (hC.2.2.2.1 _ qmc_max) (Nat.le_of_ble_eq_true rfl) (Nat.le_of_ble_eq_true rfl) (Nat.zero_le _) (Nat.zero_le _) dX10_with_21 ?_
    exact g_lret C hw h dX10_with_24
  · have h := h.2 c2
    refine lv_lload_n hx hb dX10_with_6 rfl (lv_at hl 1 rfl) ?_
    refine lv_goto (tgt := 24) hx hb dX10_with_7 (by decide) ?_
    exact g_lret C hw h dX10_with_24
theorem m_X10_with {l : Launch} {a0 : Int64} {a1 : Int64} {a2 : Int32} {Q : Int64 → MI → MJ → Prop} {I : MI} {J : MJ} (h : P_X10_with a0 a1 a2 I J Q) : Met l yX10_with (xws yX10_with cX10_with 6 (some .long)) rmX10_with (va_Pc [.ref (ad 54), .long a0, .long a1, .int a2] (gB (xS ad cy) 66 ad cy D (xF ad ts) I J)) (gQl (xS ad cy) 66 ad cy D (xF ad ts) Q) 0 0 (gA 66 ad) :=
  g_met (xF_ok ad ts) rfl (by decide) (Nat.le_of_ble_eq_true rfl) (fun p e s m below meth c ls C hw hl => w_X10_with C  h hw hl)
/-! BagPhrases$Families.none()J -/
def P_X3_none (I : MI) (J : MJ) (Q : Int64 → MI → MJ → Prop) : Prop :=
  Q (0 : Int64) I J
abbrev rmX3_none : Room := { frames := 0, cells := 0, slots := 0, locals := 0 }
set_option maxHeartbeats 4000000 in
set_option maxRecDepth 100000 in
theorem w_X3_none {Q : Int64 → MI → MJ → Prop} (C : gC RX3 cX3_none 1 (some .long) 66 ad cy D (xF ad ts) p s m args meth c) {I : MI} {J : MJ} {H : Heap} {locs : List Loc} {ls : Array Slot} (h : P_X3_none I J Q) (hw : gH (xS ad cy) 66 ad D s I J H locs) (hl : lv_has ls 1 [(0, .ref (ad 56))]) : W p l e rmX3_none s m args below meth c H locs 0 0 (MQ below (gQl (xS ad cy) 66 ad cy D (xF ad ts) Q) args s 0 0 (gA 66 ad)) (F0 m 0 ls []) := by
  obtain ⟨hx, hb, hC⟩ := id C
  refine lv_lconst (v := 0) hx hb dX3_none_0 (by decide) ?_
  exact g_lret C hw h dX3_none_1
theorem m_X3_none {l : Launch} {Q : Int64 → MI → MJ → Prop} {I : MI} {J : MJ} (h : P_X3_none I J Q) : Met l yX3_none (xws yX3_none cX3_none 1 (some .long)) rmX3_none (va_Pc [.ref (ad 56)] (gB (xS ad cy) 66 ad cy D (xF ad ts) I J)) (gQl (xS ad cy) 66 ad cy D (xF ad ts) Q) 0 0 (gA 66 ad) :=
  g_met (xF_ok ad ts) rfl (by decide) (Nat.le_of_ble_eq_true rfl) (fun p e s m below meth c ls C hw hl => w_X3_none C  h hw hl)
/-! BagPhrases$Families.ended()J -/
def P_X3_ended (I : MI) (J : MJ) (Q : Int64 → MI → MJ → Prop) : Prop :=
  Q (-1 : Int64) I J
abbrev rmX3_ended : Room := { frames := 0, cells := 0, slots := 0, locals := 0 }
set_option maxHeartbeats 4000000 in
set_option maxRecDepth 100000 in
theorem w_X3_ended {Q : Int64 → MI → MJ → Prop} (C : gC RX3 cX3_ended 1 (some .long) 66 ad cy D (xF ad ts) p s m args meth c) {I : MI} {J : MJ} {H : Heap} {locs : List Loc} {ls : Array Slot} (h : P_X3_ended I J Q) (hw : gH (xS ad cy) 66 ad D s I J H locs) (hl : lv_has ls 1 [(0, .ref (ad 56))]) : W p l e rmX3_ended s m args below meth c H locs 0 0 (MQ below (gQl (xS ad cy) 66 ad cy D (xF ad ts) Q) args s 0 0 (gA 66 ad)) (F0 m 0 ls []) := by
  obtain ⟨hx, hb, hC⟩ := id C
  refine lv_ldc2 (v := (-1)) hx hb hC.2.2.1 (hC.2.2.2.1 _ q_RX3_15) dX3_ended_0 ?_
  exact g_lret C hw h dX3_ended_3
theorem m_X3_ended {l : Launch} {Q : Int64 → MI → MJ → Prop} {I : MI} {J : MJ} (h : P_X3_ended I J Q) : Met l yX3_ended (xws yX3_ended cX3_ended 1 (some .long)) rmX3_ended (va_Pc [.ref (ad 56)] (gB (xS ad cy) 66 ad cy D (xF ad ts) I J)) (gQl (xS ad cy) 66 ad cy D (xF ad ts) Q) 0 0 (gA 66 ad) :=
  g_met (xF_ok ad ts) rfl (by decide) (Nat.le_of_ble_eq_true rfl) (fun p e s m below meth c ls C hw hl => w_X3_ended C  h hw hl)
/-! BagPhrases$Families.joined(JJ)J -/
def P_X3_joined (a0 : Int64) (a1 : Int64) (I : MI) (J : MJ) (Q : Int64 → MI → MJ → Prop) : Prop :=
  Q (a0 ||| a1) I J
abbrev rmX3_joined : Room := { frames := 0, cells := 0, slots := 0, locals := 0 }
set_option maxHeartbeats 4000000 in
set_option maxRecDepth 100000 in
theorem w_X3_joined {Q : Int64 → MI → MJ → Prop} (C : gC RX3 cX3_joined 5 (some .long) 66 ad cy D (xF ad ts) p s m args meth c) {a0 : Int64} {a1 : Int64} {I : MI} {J : MJ} {H : Heap} {locs : List Loc} {ls : Array Slot} (h : P_X3_joined a0 a1 I J Q) (hw : gH (xS ad cy) 66 ad D s I J H locs) (hl : lv_has ls 5 [(0, .ref (ad 56)), (1, .long a0), (3, .long a1)]) : W p l e rmX3_joined s m args below meth c H locs 0 0 (MQ below (gQl (xS ad cy) 66 ad cy D (xF ad ts) Q) args s 0 0 (gA 66 ad)) (F0 m 0 ls []) := by
  obtain ⟨hx, hb, hC⟩ := id C
  refine lv_lload_n hx hb dX3_joined_0 rfl (lv_at hl 1 rfl) ?_
  refine lv_lload_n hx hb dX3_joined_1 rfl (lv_at hl 2 rfl) ?_
  refine lv_lor hx hb dX3_joined_2 ?_
  exact g_lret C hw h dX3_joined_3
theorem m_X3_joined {l : Launch} {a0 : Int64} {a1 : Int64} {Q : Int64 → MI → MJ → Prop} {I : MI} {J : MJ} (h : P_X3_joined a0 a1 I J Q) : Met l yX3_joined (xws yX3_joined cX3_joined 5 (some .long)) rmX3_joined (va_Pc [.ref (ad 56), .long a0, .long a1] (gB (xS ad cy) 66 ad cy D (xF ad ts) I J)) (gQl (xS ad cy) 66 ad cy D (xF ad ts) Q) 0 0 (gA 66 ad) :=
  g_met (xF_ok ad ts) rfl (by decide) (Nat.le_of_ble_eq_true rfl) (fun p e s m below meth c ls C hw hl => w_X3_joined C  h hw hl)
/-! BagPhrases$Families.with(JJI)J -/
def P_X3_with (a0 : Int64) (a1 : Int64) (a2 : Int32) (I : MI) (J : MJ) (Q : Int64 → MI → MJ → Prop) : Prop :=
  vp_in a2 10 ∧ (Q (a0 ||| (a1 &&& (J 57 a2.toNatClampNeg))) I J)
abbrev rmX3_with : Room := { frames := 0, cells := 0, slots := 0, locals := 0 }
set_option maxHeartbeats 4000000 in
set_option maxRecDepth 100000 in
theorem w_X3_with {Q : Int64 → MI → MJ → Prop} (C : gC RX3 cX3_with 6 (some .long) 66 ad cy D (xF ad ts) p s m args meth c) {a0 : Int64} {a1 : Int64} {a2 : Int32} {I : MI} {J : MJ} {H : Heap} {locs : List Loc} {ls : Array Slot} (h : P_X3_with a0 a1 a2 I J Q) (hw : gH (xS ad cy) 66 ad D s I J H locs) (hl : lv_has ls 6 [(0, .ref (ad 56)), (1, .long a0), (3, .long a1), (5, .int a2)]) : W p l e rmX3_with s m args below meth c H locs 0 0 (MQ below (gQl (xS ad cy) 66 ad cy D (xF ad ts) Q) args s 0 0 (gA 66 ad)) (F0 m 0 ls []) := by
  obtain ⟨hx, hb, hC⟩ := id C
  refine lv_lload_n hx hb dX3_with_0 rfl (lv_at hl 1 rfl) ?_
  refine lv_lload_n hx hb dX3_with_1 rfl (lv_at hl 2 rfl) ?_
  refine lv_aload_n hx hb dX3_with_2 rfl (lv_at hl 0 rfl) ?_
  refine g_get C hw f_RX3_9 xl_56 (xs_56 _ _) rfl dX3_with_3 ?_
  refine lv_iload hx hb dX3_with_6 (lv_at hl 3 rfl) ?_
  refine g_lald C hw xl_57 xs_57 h.1 dX3_with_8 ?_
  have h := h.2
  refine lv_land hx hb dX3_with_9 ?_
  refine lv_lor hx hb dX3_with_10 ?_
  exact g_lret C hw h dX3_with_11
theorem m_X3_with {l : Launch} {a0 : Int64} {a1 : Int64} {a2 : Int32} {Q : Int64 → MI → MJ → Prop} {I : MI} {J : MJ} (h : P_X3_with a0 a1 a2 I J Q) : Met l yX3_with (xws yX3_with cX3_with 6 (some .long)) rmX3_with (va_Pc [.ref (ad 56), .long a0, .long a1, .int a2] (gB (xS ad cy) 66 ad cy D (xF ad ts) I J)) (gQl (xS ad cy) 66 ad cy D (xF ad ts) Q) 0 0 (gA 66 ad) :=
  g_met (xF_ok ad ts) rfl (by decide) (Nat.le_of_ble_eq_true rfl) (fun p e s m below meth c ls C hw hl => w_X3_with C  h hw hl)
end
