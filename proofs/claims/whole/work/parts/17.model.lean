section
variable {p : Program} {l : Launch} {e : Env} {s : State} {m : MethodId} {args : Array Value} {below : List Frame} {meth : Method} {c : Code} {ad : Nat → Nat} {cy : Nat → ClassId} {D : va_G} {ts : Nat → Nat}
/-! BagPhrasesModel.empty([I)V -/
def P_X12_empty_2 (w0 : Nat) (Q : MI → MJ → Prop) (kL2 : Int32 × MI × MJ → Prop) : Int32 × MI × MJ → Prop := fun z => match z with
  | (x1, I, J) => (((25 : Int32) ≤ x1 → Q I J) ∧ (¬ (25 : Int32) ≤ x1 → vp_in x1 25 ∧ (∀ I11 : MI, I11 = mI I w0 x1.toNatClampNeg (0 : Int32) → kL2 ((x1 + 1), I11, J))))
def P_X12_empty (w0 : Nat) (I : MI) (J : MJ) (Q : MI → MJ → Prop) : Prop :=
  lpx (P_X12_empty_2 w0 Q) ((0 : Int32), I, J)
abbrev rmX12_empty : Room := { frames := 0, cells := 0, slots := 0, locals := 0 }
set_option maxHeartbeats 4000000 in
set_option maxRecDepth 100000 in
theorem w_X12_empty_2 {Q : MI → MJ → Prop} (C : gC RX12 cX12_empty 2 none 30 ad cy D mE p s m args meth c) {w0 : Nat} (hw0 : isRow w0) {kL2 : Int32 × MI × MJ → Prop} (hL2 : ∀ {x1 : Int32} {I : MI} {J : MJ} {H : Heap} {locs : List Loc} {ls : Array Slot}, kL2 (x1, I, J) → gH (mS ad cy) 30 ad D s I J H locs → lv_has ls 2 [(0, .ref (ad w0)), (1, .int x1)] → W p l e rmX12_empty s m args below meth c H locs 0 0 (MQ below (gQv (mS ad cy) 30 ad cy D mE Q) args s 0 0 (gA 30 ad)) (F0 m 2 ls [])) {x1 : Int32} {I : MI} {J : MJ} {H : Heap} {locs : List Loc} {ls : Array Slot} (h : P_X12_empty_2 w0 Q kL2 (x1, I, J)) (hw : gH (mS ad cy) 30 ad D s I J H locs) (hl : lv_has ls 2 [(0, .ref (ad w0)), (1, .int x1)]) : W p l e rmX12_empty s m args below meth c H locs 0 0 (MQ below (gQv (mS ad cy) 30 ad cy D mE Q) args s 0 0 (gA 30 ad)) (F0 m 2 ls []) := by
  obtain ⟨hx, hb, hC⟩ := id C
  refine lv_iload_n hx hb dX12_empty_2 rfl (lv_at hl 1 rfl) ?_
  refine lv_bipush (v := 25) hx hb dX12_empty_3 (by decide) ?_
  refine lv_icmp_ge (tgt := 18) hx hb dX12_empty_5 (by decide) (fun c5 => ?_) (fun c5 => ?_)
  · have h := h.1 c5
    exact g_vret C hw h dX12_empty_18
  · have h := h.2 c5
    refine lv_aload_n hx hb dX12_empty_8 rfl (lv_at hl 0 rfl) ?_
    refine lv_iload_n hx hb dX12_empty_9 rfl (lv_at hl 1 rfl) ?_
    refine lv_iconst (v := 0) hx hb dX12_empty_10 (by decide) ?_
    refine g_iast C hw (ml_Row0 hw0) (ms_Row0 hw0) h.1 dX12_empty_11 (fun H locs hw => ?_)
    have h := h.2
    obtain ⟨I11, e11⟩ : ∃ z : MI, z = mI I w0 x1.toNatClampNeg (0 : Int32) := ⟨_, rfl⟩
    have h := h I11 e11
    rw [← e11] at hw
    refine lv_iinc (v := x1 + 1) (lv' := [(1, .int (x1 + 1)), (0, .ref (ad w0))]) hx hb dX12_empty_12 hl (k := 1) rfl rfl (by decide) rfl (fun ls hl => ?_)
    refine lv_goto (tgt := 2) hx hb dX12_empty_15 (by decide) ?_
    exact hL2 h hw (lv_sub hl [1, 0] rfl)
theorem wl_X12_empty_2 {Q : MI → MJ → Prop} (C : gC RX12 cX12_empty 2 none 30 ad cy D mE p s m args meth c) {w0 : Nat} (hw0 : isRow w0) {x1 : Int32} {I : MI} {J : MJ} {H : Heap} {locs : List Loc} {ls : Array Slot} (h : lpx (P_X12_empty_2 w0 Q) (x1, I, J)) (hw : gH (mS ad cy) 30 ad D s I J H locs) (hl : lv_has ls 2 [(0, .ref (ad w0)), (1, .int x1)]) : W p l e rmX12_empty s m args below meth c H locs 0 0 (MQ below (gQv (mS ad cy) 30 ad cy D mE Q) args s 0 0 (gA 30 ad)) (F0 m 2 ls []) := by
  obtain ⟨n, h⟩ := h
  induction n generalizing x1 I J H locs ls with
  | zero => exact False.elim h
  | succ n ih => exact w_X12_empty_2 C hw0 (fun hk9 hw9 hl9 => ih hw9 hl9 hk9) h hw hl
set_option maxHeartbeats 4000000 in
set_option maxRecDepth 100000 in
theorem w_X12_empty {Q : MI → MJ → Prop} (C : gC RX12 cX12_empty 2 none 30 ad cy D mE p s m args meth c) {w0 : Nat} (hw0 : isRow w0) {I : MI} {J : MJ} {H : Heap} {locs : List Loc} {ls : Array Slot} (h : P_X12_empty w0 I J Q) (hw : gH (mS ad cy) 30 ad D s I J H locs) (hl : lv_has ls 2 [(0, .ref (ad w0))]) : W p l e rmX12_empty s m args below meth c H locs 0 0 (MQ below (gQv (mS ad cy) 30 ad cy D mE Q) args s 0 0 (gA 30 ad)) (F0 m 0 ls []) := by
  obtain ⟨hx, hb, hC⟩ := id C
  refine lv_iconst (v := 0) hx hb dX12_empty_0 (by decide) ?_
  refine lv_istore_n (lv' := [(1, .int (0 : Int32)), (0, .ref (ad w0))]) hx hb dX12_empty_1 rfl hl (by decide) rfl (fun ls hl => ?_)
  exact wl_X12_empty_2 C hw0 h hw (lv_sub hl [1, 0] rfl)
theorem m_X12_empty {l : Launch} {w0 : Nat} (hw0 : isRow w0) {Q : MI → MJ → Prop} {I : MI} {J : MJ} (h : P_X12_empty w0 I J Q) : Met l yX12_empty (xws yX12_empty cX12_empty 2 none) rmX12_empty (va_Pc [.ref (ad w0)] (gB (mS ad cy) 30 ad cy D mE I J)) (gQv (mS ad cy) 30 ad cy D mE Q) 0 0 (gA 30 ad) :=
  g_met (mE_ok ad) rfl (by decide) (Nat.le_of_ble_eq_true rfl) (fun p e s m below meth c ls C hw hl => w_X12_empty C hw0 h hw hl)
/-! BagPhrasesModel.in(JJJ)Z -/
def P_X12_in_17 (Q : Int32 → MI → MJ → Prop) (I : MI) (J : MJ) : Prop :=
  Q (0 : Int32) I J
def P_X12_in (a0 : Int64) (a1 : Int64) (a2 : Int64) (I : MI) (J : MJ) (Q : Int32 → MI → MJ → Prop) : Prop :=
  ((a0 < a1 → P_X12_in_17 Q I J) ∧ (¬ a0 < a1 → ((a2 < a0 → P_X12_in_17 Q I J) ∧ (¬ a2 < a0 → Q (1 : Int32) I J))))
abbrev rmX12_in : Room := { frames := 0, cells := 0, slots := 0, locals := 0 }
set_option maxHeartbeats 4000000 in
set_option maxRecDepth 100000 in
theorem w_X12_in_17 {Q : Int32 → MI → MJ → Prop} (C : gC RX12 cX12_in 6 (some .boolean) 30 ad cy D mE p s m args meth c) {I : MI} {J : MJ} {H : Heap} {locs : List Loc} {ls : Array Slot} (h : P_X12_in_17 Q I J) (hw : gH (mS ad cy) 30 ad D s I J H locs) (hl : lv_has ls 6 []) : W p l e rmX12_in s m args below meth c H locs 0 0 (MQ below (gQz (mS ad cy) 30 ad cy D mE Q) args s 0 0 (gA 30 ad)) (F0 m 17 ls []) := by
  obtain ⟨hx, hb, hC⟩ := id C
  refine lv_iconst (v := 0) hx hb dX12_in_17 (by decide) ?_
  exact g_zret C hw (by decide) h dX12_in_18
set_option maxHeartbeats 4000000 in
set_option maxRecDepth 100000 in
theorem w_X12_in {Q : Int32 → MI → MJ → Prop} (C : gC RX12 cX12_in 6 (some .boolean) 30 ad cy D mE p s m args meth c) {a0 : Int64} {a1 : Int64} {a2 : Int64} {I : MI} {J : MJ} {H : Heap} {locs : List Loc} {ls : Array Slot} (h : P_X12_in a0 a1 a2 I J Q) (hw : gH (mS ad cy) 30 ad D s I J H locs) (hl : lv_has ls 6 [(0, .long a0), (2, .long a1), (4, .long a2)]) : W p l e rmX12_in s m args below meth c H locs 0 0 (MQ below (gQz (mS ad cy) 30 ad cy D mE Q) args s 0 0 (gA 30 ad)) (F0 m 0 ls []) := by
  obtain ⟨hx, hb, hC⟩ := id C
  refine lv_lload_n hx hb dX12_in_0 rfl (lv_at hl 0 rfl) ?_
  refine lv_lload_n hx hb dX12_in_1 rfl (lv_at hl 1 rfl) ?_
  refine g_lcmp_lt (tgt := 17) hx hb dX12_in_2 dX12_in_3 (by decide) (fun c2 => ?_) (fun c2 => ?_)
  · have h := h.1 c2
    exact w_X12_in_17 C  h hw (lv_sub hl [] rfl)
  · have h := h.2 c2
    refine lv_lload_n hx hb dX12_in_6 rfl (lv_at hl 0 rfl) ?_
    refine lv_lload hx hb dX12_in_7 (lv_at hl 2 rfl) ?_
    refine g_lcmp_gt (tgt := 17) hx hb dX12_in_9 dX12_in_10 (by decide) (fun c9 => ?_) (fun c9 => ?_)
    · have h := h.1 c9
      exact w_X12_in_17 C  h hw (lv_sub hl [] rfl)
    · have h := h.2 c9
      refine lv_iconst (v := 1) hx hb dX12_in_13 (by decide) ?_
      refine lv_goto (tgt := 18) hx hb dX12_in_14 (by decide) ?_
      exact g_zret C hw (by decide) h dX12_in_18
theorem m_X12_in {l : Launch} {a0 : Int64} {a1 : Int64} {a2 : Int64} {Q : Int32 → MI → MJ → Prop} {I : MI} {J : MJ} (h : P_X12_in a0 a1 a2 I J Q) : Met l yX12_in (xws yX12_in cX12_in 6 (some .boolean)) rmX12_in (va_Pc [.long a0, .long a1, .long a2] (gB (mS ad cy) 30 ad cy D mE I J)) (gQz (mS ad cy) 30 ad cy D mE Q) 0 0 (gA 30 ad) :=
  g_met (mE_ok ad) rfl (by decide) (Nat.le_of_ble_eq_true rfl) (fun p e s m below meth c ls C hw hl => w_X12_in C  h hw hl)
/-! BagPhrasesModel.write(I)I -/
def P_X12_write (a0 : Int32) (I : MI) (J : MJ) (Q : Int32 → MI → MJ → Prop) : Prop :=
  P_X12_in a0.toInt64 (0 : Int64) (255 : Int64) I J (fun r6 I6 J6 => ((¬ r6 = 0 → ((¬ (I6 0 1) = (180 : Int32) → vp_in (I6 0 1) 180 ∧ (∀ I37 : MI, I37 = mI I6 1 (I6 0 1).toNatClampNeg a0 → (∀ I45 : MI, I45 = mI I37 0 1 ((I37 0 1) + (1 : Int32)) → Q (I45 0 1) I45 J6))) ∧ ((I6 0 1) = (180 : Int32) → Q (-4 : Int32) I6 J6))) ∧ (r6 = 0 → Q (-2 : Int32) I6 J6)))
abbrev rmX12_write : Room := { frames := 1, cells := 0, slots := 0, locals := 25 }
set_option maxHeartbeats 4000000 in
set_option maxRecDepth 100000 in
theorem w_X12_write {Q : Int32 → MI → MJ → Prop} (C : gC RX12 cX12_write 2 (some .int) 30 ad cy D mE p s m args meth c) {a0 : Int32} {I : MI} {J : MJ} {H : Heap} {locs : List Loc} {ls : Array Slot} (h : P_X12_write a0 I J Q) (hw : gH (mS ad cy) 30 ad D s I J H locs) (hl : lv_has ls 2 [(0, .ref (ad 0)), (1, .int a0)]) : W p l e rmX12_write s m args below meth c H locs 0 0 (MQ below (gQi (mS ad cy) 30 ad cy D mE Q) args s 0 0 (gA 30 ad)) (F0 m 0 ls []) := by
  obtain ⟨hx, hb, hC⟩ := id C
  refine lv_iload_n hx hb dX12_write_0 rfl (lv_at hl 1 rfl) ?_
  refine lv_i2l hx hb dX12_write_1 rfl ?_
  refine lv_lconst (v := 0) hx hb dX12_write_2 (by decide) ?_
  refine lv_ldc2 (v := (255)) hx hb hC.2.2.1 (hC.2.2.2.1 _ q_RX12_115) dX12_write_3 ?_
  refine g_cz hw (g_rS [.long a0.toInt64, .long (0 : Int64), .long (255 : Int64)] [] C hw (m_X12_in h) k_X12_in q_RX12_107 rfl hl.1 rfl (Nat.le_of_ble_eq_true rfl) ⟨⟨rfl, rfl⟩, Nat.le_of_ble_eq_true rfl, Nat.le_of_ble_eq_true rfl⟩ ⟨Nat.zero_le _, Nat.zero_le _⟩ dX12_write_6) (fun r6 I6 J6 H locs z6 h hw => ?_)
  refine lv_if_ne (tgt := 15) hx hb dX12_write_9 (by decide) (fun c9 => ?_) (fun c9 => ?_)
  · have h := h.1 c9
    refine lv_aload_n hx hb dX12_write_15 rfl (lv_at hl 0 rfl) ?_
    refine g_get C hw f_RX12_117 ml_0 (ms_0 _ _) rfl dX12_write_16 ?_
    refine lv_sipush (v := 180) hx hb dX12_write_19 (by decide) ?_
    refine lv_icmp_ne (tgt := 28) hx hb dX12_write_22 (by decide) (fun c22 => ?_) (fun c22 => ?_)
    · have h := h.1 c22
      refine lv_aload_n hx hb dX12_write_28 rfl (lv_at hl 0 rfl) ?_
      refine g_get C hw f_RX12_7 ml_0 (ms_0 _ _) rfl dX12_write_29 ?_
      refine lv_aload_n hx hb dX12_write_32 rfl (lv_at hl 0 rfl) ?_
      refine g_get C hw f_RX12_117 ml_0 (ms_0 _ _) rfl dX12_write_33 ?_
      refine lv_iload_n hx hb dX12_write_36 rfl (lv_at hl 1 rfl) ?_
      refine g_iast C hw ml_1 ms_1 h.1 dX12_write_37 (fun H locs hw => ?_)
      have h := h.2
      obtain ⟨I37, e37⟩ : ∃ z : MI, z = mI I6 1 (I6 0 1).toNatClampNeg a0 := ⟨_, rfl⟩
      have h := h I37 e37
      rw [← e37] at hw
      refine lv_aload_n hx hb dX12_write_38 rfl (lv_at hl 0 rfl) ?_
      refine lv_dup hx hb dX12_write_39 rfl ?_
      refine g_get C hw f_RX12_117 ml_0 (ms_0 _ _) rfl dX12_write_40 ?_
      refine lv_iconst (v := 1) hx hb dX12_write_43 (by decide) ?_
      refine lv_iadd hx hb dX12_write_44 ?_
      refine g_putI C hw fp_RX12_117 ml_0 ms_0 (st_11_1 ad _) (Nat.le_of_ble_eq_true rfl) rfl rfl dX12_write_45 (fun H locs hw => ?_)
      obtain ⟨I45, e45⟩ : ∃ z : MI, z = mI I37 0 1 ((I37 0 1) + (1 : Int32)) := ⟨_, rfl⟩
      have h := h I45 e45
      rw [← e45] at hw
      refine lv_aload_n hx hb dX12_write_48 rfl (lv_at hl 0 rfl) ?_
      refine g_get C hw f_RX12_117 ml_0 (ms_0 _ _) rfl dX12_write_49 ?_
      exact g_iret C hw h dX12_write_52
    · have h := h.2 c22
      refine lv_bipush (v := -4) hx hb dX12_write_25 (by decide) ?_
      exact g_iret C hw h dX12_write_27
  · have h := h.2 c9
    refine lv_bipush (v := -2) hx hb dX12_write_12 (by decide) ?_
    exact g_iret C hw h dX12_write_14
theorem m_X12_write {l : Launch} {a0 : Int32} {Q : Int32 → MI → MJ → Prop} {I : MI} {J : MJ} (h : P_X12_write a0 I J Q) : Met l yX12_write (xws yX12_write cX12_write 2 (some .int)) rmX12_write (va_Pc [.ref (ad 0), .int a0] (gB (mS ad cy) 30 ad cy D mE I J)) (gQi (mS ad cy) 30 ad cy D mE Q) 0 0 (gA 30 ad) :=
  g_met (mE_ok ad) rfl (by decide) (Nat.le_of_ble_eq_true rfl) (fun p e s m below meth c ls C hw hl => w_X12_write C  h hw hl)
/-! BagPhrasesModel.wipe()I -/
def P_X12_wipe (I : MI) (J : MJ) (Q : Int32 → MI → MJ → Prop) : Prop :=
  (∀ I7 : MI, I7 = mI I 0 1 (0 : Int32) → Q (I 0 1) I7 J)
abbrev rmX12_wipe : Room := { frames := 0, cells := 0, slots := 0, locals := 0 }
set_option maxHeartbeats 4000000 in
set_option maxRecDepth 100000 in
theorem w_X12_wipe {Q : Int32 → MI → MJ → Prop} (C : gC RX12 cX12_wipe 2 (some .int) 30 ad cy D mE p s m args meth c) {I : MI} {J : MJ} {H : Heap} {locs : List Loc} {ls : Array Slot} (h : P_X12_wipe I J Q) (hw : gH (mS ad cy) 30 ad D s I J H locs) (hl : lv_has ls 2 [(0, .ref (ad 0))]) : W p l e rmX12_wipe s m args below meth c H locs 0 0 (MQ below (gQi (mS ad cy) 30 ad cy D mE Q) args s 0 0 (gA 30 ad)) (F0 m 0 ls []) := by
  obtain ⟨hx, hb, hC⟩ := id C
  refine lv_aload_n hx hb dX12_wipe_0 rfl (lv_at hl 0 rfl) ?_
  refine g_get C hw f_RX12_117 ml_0 (ms_0 _ _) rfl dX12_wipe_1 ?_
  refine lv_istore_n (lv' := [(1, .int (I 0 1)), (0, .ref (ad 0))]) hx hb dX12_wipe_4 rfl hl (by decide) rfl (fun ls hl => ?_)
  refine lv_aload_n hx hb dX12_wipe_5 rfl (lv_at hl 1 rfl) ?_
  refine lv_iconst (v := 0) hx hb dX12_wipe_6 (by decide) ?_
  refine g_putI C hw fp_RX12_117 ml_0 ms_0 (st_11_1 ad _) (Nat.le_of_ble_eq_true rfl) rfl rfl dX12_wipe_7 (fun H locs hw => ?_)
  obtain ⟨I7, e7⟩ : ∃ z : MI, z = mI I 0 1 (0 : Int32) := ⟨_, rfl⟩
  have h := h I7 e7
  rw [← e7] at hw
  refine lv_iload_n hx hb dX12_wipe_10 rfl (lv_at hl 0 rfl) ?_
  exact g_iret C hw h dX12_wipe_11
theorem m_X12_wipe {l : Launch} {Q : Int32 → MI → MJ → Prop} {I : MI} {J : MJ} (h : P_X12_wipe I J Q) : Met l yX12_wipe (xws yX12_wipe cX12_wipe 2 (some .int)) rmX12_wipe (va_Pc [.ref (ad 0)] (gB (mS ad cy) 30 ad cy D mE I J)) (gQi (mS ad cy) 30 ad cy D mE Q) 0 0 (gA 30 ad) :=
  g_met (mE_ok ad) rfl (by decide) (Nat.le_of_ble_eq_true rfl) (fun p e s m below meth c ls C hw hl => w_X12_wipe C  h hw hl)
/-! BagPhrasesModel.bagOf([I)I -/
def P_X12_bagOf_4 (w0 : Nat) (Q : Int32 → MI → MJ → Prop) (kL4 : Int32 × Int32 × MI × MJ → Prop) : Int32 × Int32 × MI × MJ → Prop := fun z => match z with
  | (x1, x2, I, J) => (((8 : Int32) ≤ x2 → Q x1 I J) ∧ (¬ (8 : Int32) ≤ x2 → vp_in x2 25 ∧ (kL4 ((x1 + (I w0 x2.toNatClampNeg)), (x2 + 1), I, J))))
def P_X12_bagOf (w0 : Nat) (I : MI) (J : MJ) (Q : Int32 → MI → MJ → Prop) : Prop :=
  lpx (P_X12_bagOf_4 w0 Q) ((0 : Int32), (0 : Int32), I, J)
abbrev rmX12_bagOf : Room := { frames := 0, cells := 0, slots := 0, locals := 0 }
set_option maxHeartbeats 4000000 in
set_option maxRecDepth 100000 in
theorem w_X12_bagOf_4 {Q : Int32 → MI → MJ → Prop} (C : gC RX12 cX12_bagOf 3 (some .int) 30 ad cy D mE p s m args meth c) {w0 : Nat} (hw0 : isRow w0) {kL4 : Int32 × Int32 × MI × MJ → Prop} (hL4 : ∀ {x1 : Int32} {x2 : Int32} {I : MI} {J : MJ} {H : Heap} {locs : List Loc} {ls : Array Slot}, kL4 (x1, x2, I, J) → gH (mS ad cy) 30 ad D s I J H locs → lv_has ls 3 [(0, .ref (ad w0)), (1, .int x1), (2, .int x2)] → W p l e rmX12_bagOf s m args below meth c H locs 0 0 (MQ below (gQi (mS ad cy) 30 ad cy D mE Q) args s 0 0 (gA 30 ad)) (F0 m 4 ls [])) {x1 : Int32} {x2 : Int32} {I : MI} {J : MJ} {H : Heap} {locs : List Loc} {ls : Array Slot} (h : P_X12_bagOf_4 w0 Q kL4 (x1, x2, I, J)) (hw : gH (mS ad cy) 30 ad D s I J H locs) (hl : lv_has ls 3 [(0, .ref (ad w0)), (1, .int x1), (2, .int x2)]) : W p l e rmX12_bagOf s m args below meth c H locs 0 0 (MQ below (gQi (mS ad cy) 30 ad cy D mE Q) args s 0 0 (gA 30 ad)) (F0 m 4 ls []) := by
  obtain ⟨hx, hb, hC⟩ := id C
  refine lv_iload_n hx hb dX12_bagOf_4 rfl (lv_at hl 2 rfl) ?_
  refine lv_bipush (v := 8) hx hb dX12_bagOf_5 (by decide) ?_
  refine lv_icmp_ge (tgt := 22) hx hb dX12_bagOf_7 (by decide) (fun c7 => ?_) (fun c7 => ?_)
  · have h := h.1 c7
    refine lv_iload_n hx hb dX12_bagOf_22 rfl (lv_at hl 1 rfl) ?_
    exact g_iret C hw h dX12_bagOf_23
  · have h := h.2 c7
    refine lv_iload_n hx hb dX12_bagOf_10 rfl (lv_at hl 1 rfl) ?_
    refine lv_aload_n hx hb dX12_bagOf_11 rfl (lv_at hl 0 rfl) ?_
    refine lv_iload_n hx hb dX12_bagOf_12 rfl (lv_at hl 2 rfl) ?_
    refine g_iald C hw (ml_Row0 hw0) (ms_Row0 hw0) h.1 dX12_bagOf_13 ?_
    have h := h.2
    refine lv_iadd hx hb dX12_bagOf_14 ?_
    refine lv_istore_n (lv' := [(1, .int (x1 + (I w0 x2.toNatClampNeg))), (0, .ref (ad w0)), (2, .int x2)]) hx hb dX12_bagOf_15 rfl hl (by decide) rfl (fun ls hl => ?_)
    refine lv_iinc (v := x2 + 1) (lv' := [(2, .int (x2 + 1)), (1, .int (x1 + (I w0 x2.toNatClampNeg))), (0, .ref (ad w0))]) hx hb dX12_bagOf_16 hl (k := 2) rfl rfl (by decide) rfl (fun ls hl => ?_)
    refine lv_goto (tgt := 4) hx hb dX12_bagOf_19 (by decide) ?_
    exact hL4 h hw (lv_sub hl [2, 1, 0] rfl)
theorem wl_X12_bagOf_4 {Q : Int32 → MI → MJ → Prop} (C : gC RX12 cX12_bagOf 3 (some .int) 30 ad cy D mE p s m args meth c) {w0 : Nat} (hw0 : isRow w0) {x1 : Int32} {x2 : Int32} {I : MI} {J : MJ} {H : Heap} {locs : List Loc} {ls : Array Slot} (h : lpx (P_X12_bagOf_4 w0 Q) (x1, x2, I, J)) (hw : gH (mS ad cy) 30 ad D s I J H locs) (hl : lv_has ls 3 [(0, .ref (ad w0)), (1, .int x1), (2, .int x2)]) : W p l e rmX12_bagOf s m args below meth c H locs 0 0 (MQ below (gQi (mS ad cy) 30 ad cy D mE Q) args s 0 0 (gA 30 ad)) (F0 m 4 ls []) := by
  obtain ⟨n, h⟩ := h
  induction n generalizing x1 x2 I J H locs ls with
  | zero => exact False.elim h
  | succ n ih => exact w_X12_bagOf_4 C hw0 (fun hk9 hw9 hl9 => ih hw9 hl9 hk9) h hw hl
set_option maxHeartbeats 4000000 in
set_option maxRecDepth 100000 in
theorem w_X12_bagOf {Q : Int32 → MI → MJ → Prop} (C : gC RX12 cX12_bagOf 3 (some .int) 30 ad cy D mE p s m args meth c) {w0 : Nat} (hw0 : isRow w0) {I : MI} {J : MJ} {H : Heap} {locs : List Loc} {ls : Array Slot} (h : P_X12_bagOf w0 I J Q) (hw : gH (mS ad cy) 30 ad D s I J H locs) (hl : lv_has ls 3 [(0, .ref (ad w0))]) : W p l e rmX12_bagOf s m args below meth c H locs 0 0 (MQ below (gQi (mS ad cy) 30 ad cy D mE Q) args s 0 0 (gA 30 ad)) (F0 m 0 ls []) := by
  obtain ⟨hx, hb, hC⟩ := id C
  refine lv_iconst (v := 0) hx hb dX12_bagOf_0 (by decide) ?_
  refine lv_istore_n (lv' := [(1, .int (0 : Int32)), (0, .ref (ad w0))]) hx hb dX12_bagOf_1 rfl hl (by decide) rfl (fun ls hl => ?_)
  refine lv_iconst (v := 0) hx hb dX12_bagOf_2 (by decide) ?_
  refine lv_istore_n (lv' := [(2, .int (0 : Int32)), (1, .int (0 : Int32)), (0, .ref (ad w0))]) hx hb dX12_bagOf_3 rfl hl (by decide) rfl (fun ls hl => ?_)
  exact wl_X12_bagOf_4 C hw0 h hw (lv_sub hl [2, 1, 0] rfl)
theorem m_X12_bagOf {l : Launch} {w0 : Nat} (hw0 : isRow w0) {Q : Int32 → MI → MJ → Prop} {I : MI} {J : MJ} (h : P_X12_bagOf w0 I J Q) : Met l yX12_bagOf (xws yX12_bagOf cX12_bagOf 3 (some .int)) rmX12_bagOf (va_Pc [.ref (ad w0)] (gB (mS ad cy) 30 ad cy D mE I J)) (gQi (mS ad cy) 30 ad cy D mE Q) 0 0 (gA 30 ad) :=
  g_met (mE_ok ad) rfl (by decide) (Nat.le_of_ble_eq_true rfl) (fun p e s m below meth c ls C hw hl => w_X12_bagOf C hw0 h hw hl)
/-! BagPhrasesModel.takeSign(I)Z -/
def P_X12_takeSign_100 (Q : Int32 → MI → MJ → Prop) (s1 : Int32) (s2 : Int32) (I : MI) (J : MJ) : Prop :=
  vp_in s1 10 ∧ (∀ I100 : MI, I100 = mI I 16 s1.toNatClampNeg s2 → (((10 : Int32) ≤ (I100 0 21) → Q (0 : Int32) I100 J) ∧ (¬ (10 : Int32) ≤ (I100 0 21) → Q (1 : Int32) I100 J)))
def P_X12_takeSign_81 (Q : Int32 → MI → MJ → Prop) (s1 : Int32) (I : MI) (J : MJ) : Prop :=
  (((10 : Int32) ≤ (I 0 21) → vp_in (0 : Int32) 10 ∧ (P_X12_takeSign_100 Q s1 (I 16 (0 : Int32).toNatClampNeg) I J)) ∧ (¬ (10 : Int32) ≤ (I 0 21) → P_X12_takeSign_100 Q s1 (0 : Int32) I J))
def P_X12_takeSign (a0 : Int32) (I : MI) (J : MJ) (Q : Int32 → MI → MJ → Prop) : Prop :=
  (∀ I2 : MI, I2 = mI I 0 26 a0 → (∀ I7 : MI, I7 = mI I2 0 27 (1 : Int32) → ((a0 = 43 → P_X12_bagOf 18 I7 J (fun r120 I120 J120 => (((12 : Int32) ≤ r120 → Q (0 : Int32) I120 J120) ∧ (¬ (12 : Int32) ≤ r120 → Q (1 : Int32) I120 J120)))) ∧ (¬ a0 = 43 → ((a0 = 46 → vp_in (20 : Int32) 25 ∧ ((((I7 18 (20 : Int32).toNatClampNeg) = (15 : Int32) → Q (0 : Int32) I7 J) ∧ (¬ (I7 18 (20 : Int32).toNatClampNeg) = (15 : Int32) → Q (1 : Int32) I7 J)))) ∧ (¬ a0 = 46 → ((a0 = 58 → vp_in (21 : Int32) 25 ∧ (vp_in (22 : Int32) 25 ∧ (vp_in (23 : Int32) 25 ∧ (vp_in (24 : Int32) 25 ∧ (((((((I7 18 (21 : Int32).toNatClampNeg) + (I7 18 (22 : Int32).toNatClampNeg)) + (I7 18 (23 : Int32).toNatClampNeg)) + (I7 18 (24 : Int32).toNatClampNeg)) = (60 : Int32) → Q (0 : Int32) I7 J) ∧ (¬ ((((I7 18 (21 : Int32).toNatClampNeg) + (I7 18 (22 : Int32).toNatClampNeg)) + (I7 18 (23 : Int32).toNatClampNeg)) + (I7 18 (24 : Int32).toNatClampNeg)) = (60 : Int32) → Q (1 : Int32) I7 J))))))) ∧ (¬ a0 = 58 → ((a0 = 94 → vp_in (19 : Int32) 25 ∧ ((((I7 18 (19 : Int32).toNatClampNeg) = (15 : Int32) → Q (0 : Int32) I7 J) ∧ (¬ (I7 18 (19 : Int32).toNatClampNeg) = (15 : Int32) → Q (1 : Int32) I7 J)))) ∧ (¬ a0 = 94 → ((a0 = 119 → (((10 : Int32) ≤ (I7 0 21) → P_X12_takeSign_81 Q (0 : Int32) I7 J) ∧ (¬ (10 : Int32) ≤ (I7 0 21) → P_X12_takeSign_81 Q (I7 0 21) I7 J))) ∧ (¬ a0 = 119 → Q (0 : Int32) I7 J))))))))))))
abbrev rmX12_takeSign : Room := { frames := 1, cells := 0, slots := 0, locals := 22 }
set_option maxHeartbeats 4000000 in
set_option maxRecDepth 100000 in
theorem w_X12_takeSign_100 {Q : Int32 → MI → MJ → Prop} (C : gC RX12 cX12_takeSign 2 (some .boolean) 30 ad cy D mE p s m args meth c) {s1 : Int32} {s2 : Int32} {I : MI} {J : MJ} {H : Heap} {locs : List Loc} {ls : Array Slot} (h : P_X12_takeSign_100 Q s1 s2 I J) (hw : gH (mS ad cy) 30 ad D s I J H locs) (hl : lv_has ls 2 [(0, .ref (ad 0))]) : W p l e rmX12_takeSign s m args below meth c H locs 0 0 (MQ below (gQz (mS ad cy) 30 ad cy D mE Q) args s 0 0 (gA 30 ad)) (F0 m 100 ls [.int s2, .int s1, .ref (ad 16)]) := by
  obtain ⟨hx, hb, hC⟩ := id C
  refine g_iast C hw ml_16 ms_16 h.1 dX12_takeSign_100 (fun H locs hw => ?_)
  have h := h.2
  obtain ⟨I100, e100⟩ : ∃ z : MI, z = mI I 16 s1.toNatClampNeg s2 := ⟨_, rfl⟩
  have h := h I100 e100
  rw [← e100] at hw
  refine lv_aload_n hx hb dX12_takeSign_101 rfl (lv_at hl 0 rfl) ?_
  refine g_get C hw f_RX12_126 ml_0 (ms_0 _ _) rfl dX12_takeSign_102 ?_
  refine lv_bipush (v := 10) hx hb dX12_takeSign_105 (by decide) ?_
  refine lv_icmp_ge (tgt := 114) hx hb dX12_takeSign_107 (by decide) (fun c107 => ?_) (fun c107 => ?_)
  · have h := h.1 c107
    refine lv_iconst (v := 0) hx hb dX12_takeSign_114 (by decide) ?_
    exact g_zret C hw (by decide) h dX12_takeSign_115
  · have h := h.2 c107
    refine lv_iconst (v := 1) hx hb dX12_takeSign_110 (by decide) ?_
    refine lv_goto (tgt := 115) hx hb dX12_takeSign_111 (by decide) ?_
    exact g_zret C hw (by decide) h dX12_takeSign_115
set_option maxHeartbeats 4000000 in
set_option maxRecDepth 100000 in
theorem w_X12_takeSign_81 {Q : Int32 → MI → MJ → Prop} (C : gC RX12 cX12_takeSign 2 (some .boolean) 30 ad cy D mE p s m args meth c) {s1 : Int32} {I : MI} {J : MJ} {H : Heap} {locs : List Loc} {ls : Array Slot} (h : P_X12_takeSign_81 Q s1 I J) (hw : gH (mS ad cy) 30 ad D s I J H locs) (hl : lv_has ls 2 [(0, .ref (ad 0))]) : W p l e rmX12_takeSign s m args below meth c H locs 0 0 (MQ below (gQz (mS ad cy) 30 ad cy D mE Q) args s 0 0 (gA 30 ad)) (F0 m 81 ls [.int s1, .ref (ad 16)]) := by
  obtain ⟨hx, hb, hC⟩ := id C
  refine lv_aload_n hx hb dX12_takeSign_81 rfl (lv_at hl 0 rfl) ?_
  refine g_get C hw f_RX12_126 ml_0 (ms_0 _ _) rfl dX12_takeSign_82 ?_
  refine lv_bipush (v := 10) hx hb dX12_takeSign_85 (by decide) ?_
  refine lv_icmp_ge (tgt := 94) hx hb dX12_takeSign_87 (by decide) (fun c87 => ?_) (fun c87 => ?_)
  · have h := h.1 c87
    refine lv_aload_n hx hb dX12_takeSign_94 rfl (lv_at hl 0 rfl) ?_
    refine g_get C hw f_RX12_56 ml_0 (ms_0 _ _) rfl dX12_takeSign_95 ?_
    refine lv_iconst (v := 0) hx hb dX12_takeSign_98 (by decide) ?_
    refine g_iald C hw ml_16 ms_16 h.1 dX12_takeSign_99 ?_
    have h := h.2
    exact w_X12_takeSign_100 C  h hw (lv_sub hl [0] rfl)
  · have h := h.2 c87
    refine lv_iconst (v := 0) hx hb dX12_takeSign_90 (by decide) ?_
    refine lv_goto (tgt := 100) hx hb dX12_takeSign_91 (by decide) ?_
    exact w_X12_takeSign_100 C  h hw (lv_sub hl [0] rfl)
set_option maxHeartbeats 4000000 in
set_option maxRecDepth 100000 in
theorem w_X12_takeSign {Q : Int32 → MI → MJ → Prop} (C : gC RX12 cX12_takeSign 2 (some .boolean) 30 ad cy D mE p s m args meth c) {a0 : Int32} {I : MI} {J : MJ} {H : Heap} {locs : List Loc} {ls : Array Slot} (h : P_X12_takeSign a0 I J Q) (hw : gH (mS ad cy) 30 ad D s I J H locs) (hl : lv_has ls 2 [(0, .ref (ad 0)), (1, .int a0)]) : W p l e rmX12_takeSign s m args below meth c H locs 0 0 (MQ below (gQz (mS ad cy) 30 ad cy D mE Q) args s 0 0 (gA 30 ad)) (F0 m 0 ls []) := by
  obtain ⟨hx, hb, hC⟩ := id C
  refine lv_aload_n hx hb dX12_takeSign_0 rfl (lv_at hl 0 rfl) ?_
  refine lv_iload_n hx hb dX12_takeSign_1 rfl (lv_at hl 1 rfl) ?_
  refine g_putI C hw fp_RX12_120 ml_0 ms_0 (st_11_26 ad _) (Nat.le_of_ble_eq_true rfl) rfl rfl dX12_takeSign_2 (fun H locs hw => ?_)
  obtain ⟨I2, e2⟩ : ∃ z : MI, z = mI I 0 26 a0 := ⟨_, rfl⟩
  have h := h I2 e2
  rw [← e2] at hw
  refine lv_aload_n hx hb dX12_takeSign_5 rfl (lv_at hl 0 rfl) ?_
  refine lv_iconst (v := 1) hx hb dX12_takeSign_6 (by decide) ?_
  refine g_putI C hw fp_RX12_123 ml_0 ms_0 (st_11_27 ad _) (Nat.le_of_ble_eq_true rfl) rfl rfl dX12_takeSign_7 (fun H locs hw => ?_)
  obtain ⟨I7, e7⟩ : ∃ z : MI, z = mI I2 0 27 (1 : Int32) := ⟨_, rfl⟩
  have h := h I7 e7
  rw [← e7] at hw
  refine lv_iload_n hx hb dX12_takeSign_10 rfl (lv_at hl 1 rfl) ?_
  rcases Classical.em (a0 = 43) with c11_0 | c11_0
  · have h := h.1 c11_0
    refine lv_lookup (off := 105) (tgt := 116) hx hb dX12_takeSign_11 (by decide) (by rw [c11_0]; decide) (by decide) ?_
    refine lv_aload_n hx hb dX12_takeSign_116 rfl (lv_at hl 0 rfl) ?_
    refine g_get C hw f_RX12_62 ml_0 (ms_0 _ _) rfl dX12_takeSign_117 ?_
    refine g_ci hw (g_rS [.ref (ad 18)] [] C hw (m_X12_bagOf isRow_18 h) k_X12_bagOf q_RX12_129 rfl hl.1 rfl (Nat.le_of_ble_eq_true rfl) ⟨⟨rfl, rfl⟩, Nat.le_of_ble_eq_true rfl, Nat.le_of_ble_eq_true rfl⟩ ⟨Nat.zero_le _, Nat.zero_le _⟩ dX12_takeSign_120) (fun r120 I120 J120 H locs h hw => ?_)
    refine lv_bipush (v := 12) hx hb dX12_takeSign_123 (by decide) ?_
    refine lv_icmp_ge (tgt := 132) hx hb dX12_takeSign_125 (by decide) (fun c125 => ?_) (fun c125 => ?_)
    · have h := h.1 c125
      refine lv_iconst (v := 0) hx hb dX12_takeSign_132 (by decide) ?_
      exact g_zret C hw (by decide) h dX12_takeSign_133
    · have h := h.2 c125
      refine lv_iconst (v := 1) hx hb dX12_takeSign_128 (by decide) ?_
      refine lv_goto (tgt := 133) hx hb dX12_takeSign_129 (by decide) ?_
      exact g_zret C hw (by decide) h dX12_takeSign_133
  have h := h.2 c11_0
  rcases Classical.em (a0 = 46) with c11_1 | c11_1
  · have h := h.1 c11_1
    refine lv_lookup (off := 141) (tgt := 152) hx hb dX12_takeSign_11 (by decide) (by rw [c11_1]; decide) (by decide) ?_
    refine lv_aload_n hx hb dX12_takeSign_152 rfl (lv_at hl 0 rfl) ?_
    refine g_get C hw f_RX12_62 ml_0 (ms_0 _ _) rfl dX12_takeSign_153 ?_
    refine lv_bipush (v := 20) hx hb dX12_takeSign_156 (by decide) ?_
    refine g_iald C hw ml_18 ms_18 h.1 dX12_takeSign_158 ?_
    have h := h.2
    refine lv_bipush (v := 15) hx hb dX12_takeSign_159 (by decide) ?_
    refine lv_icmp_eq (tgt := 168) hx hb dX12_takeSign_161 (by decide) (fun c161 => ?_) (fun c161 => ?_)
    · have h := h.1 c161
      refine lv_iconst (v := 0) hx hb dX12_takeSign_168 (by decide) ?_
      exact g_zret C hw (by decide) h dX12_takeSign_169
    · have h := h.2 c161
      refine lv_iconst (v := 1) hx hb dX12_takeSign_164 (by decide) ?_
      refine lv_goto (tgt := 169) hx hb dX12_takeSign_165 (by decide) ?_
      exact g_zret C hw (by decide) h dX12_takeSign_169
  have h := h.2 c11_1
  rcases Classical.em (a0 = 58) with c11_2 | c11_2
  · have h := h.1 c11_2
    refine lv_lookup (off := 159) (tgt := 170) hx hb dX12_takeSign_11 (by decide) (by rw [c11_2]; decide) (by decide) ?_
    refine lv_aload_n hx hb dX12_takeSign_170 rfl (lv_at hl 0 rfl) ?_
    refine g_get C hw f_RX12_62 ml_0 (ms_0 _ _) rfl dX12_takeSign_171 ?_
    refine lv_bipush (v := 21) hx hb dX12_takeSign_174 (by decide) ?_
    refine g_iald C hw ml_18 ms_18 h.1 dX12_takeSign_176 ?_
    have h := h.2
    refine lv_aload_n hx hb dX12_takeSign_177 rfl (lv_at hl 0 rfl) ?_
    refine g_get C hw f_RX12_62 ml_0 (ms_0 _ _) rfl dX12_takeSign_178 ?_
    refine lv_bipush (v := 22) hx hb dX12_takeSign_181 (by decide) ?_
    refine g_iald C hw ml_18 ms_18 h.1 dX12_takeSign_183 ?_
    have h := h.2
    refine lv_iadd hx hb dX12_takeSign_184 ?_
    refine lv_aload_n hx hb dX12_takeSign_185 rfl (lv_at hl 0 rfl) ?_
    refine g_get C hw f_RX12_62 ml_0 (ms_0 _ _) rfl dX12_takeSign_186 ?_
    refine lv_bipush (v := 23) hx hb dX12_takeSign_189 (by decide) ?_
    refine g_iald C hw ml_18 ms_18 h.1 dX12_takeSign_191 ?_
    have h := h.2
    refine lv_iadd hx hb dX12_takeSign_192 ?_
    refine lv_aload_n hx hb dX12_takeSign_193 rfl (lv_at hl 0 rfl) ?_
    refine g_get C hw f_RX12_62 ml_0 (ms_0 _ _) rfl dX12_takeSign_194 ?_
    refine lv_bipush (v := 24) hx hb dX12_takeSign_197 (by decide) ?_
    refine g_iald C hw ml_18 ms_18 h.1 dX12_takeSign_199 ?_
    have h := h.2
    refine lv_iadd hx hb dX12_takeSign_200 ?_
    refine lv_bipush (v := 60) hx hb dX12_takeSign_201 (by decide) ?_
    refine lv_icmp_eq (tgt := 210) hx hb dX12_takeSign_203 (by decide) (fun c203 => ?_) (fun c203 => ?_)
    · have h := h.1 c203
      refine lv_iconst (v := 0) hx hb dX12_takeSign_210 (by decide) ?_
      exact g_zret C hw (by decide) h dX12_takeSign_211
    · have h := h.2 c203
      refine lv_iconst (v := 1) hx hb dX12_takeSign_206 (by decide) ?_
      refine lv_goto (tgt := 211) hx hb dX12_takeSign_207 (by decide) ?_
      exact g_zret C hw (by decide) h dX12_takeSign_211
  have h := h.2 c11_2
  rcases Classical.em (a0 = 94) with c11_3 | c11_3
  · have h := h.1 c11_3
    refine lv_lookup (off := 123) (tgt := 134) hx hb dX12_takeSign_11 (by decide) (by rw [c11_3]; decide) (by decide) ?_
    refine lv_aload_n hx hb dX12_takeSign_134 rfl (lv_at hl 0 rfl) ?_
    refine g_get C hw f_RX12_62 ml_0 (ms_0 _ _) rfl dX12_takeSign_135 ?_
    refine lv_bipush (v := 19) hx hb dX12_takeSign_138 (by decide) ?_
    refine g_iald C hw ml_18 ms_18 h.1 dX12_takeSign_140 ?_
    have h := h.2
    refine lv_bipush (v := 15) hx hb dX12_takeSign_141 (by decide) ?_
    refine lv_icmp_eq (tgt := 150) hx hb dX12_takeSign_143 (by decide) (fun c143 => ?_) (fun c143 => ?_)
    · have h := h.1 c143
      refine lv_iconst (v := 0) hx hb dX12_takeSign_150 (by decide) ?_
      exact g_zret C hw (by decide) h dX12_takeSign_151
    · have h := h.2 c143
      refine lv_iconst (v := 1) hx hb dX12_takeSign_146 (by decide) ?_
      refine lv_goto (tgt := 151) hx hb dX12_takeSign_147 (by decide) ?_
      exact g_zret C hw (by decide) h dX12_takeSign_151
  have h := h.2 c11_3
  rcases Classical.em (a0 = 119) with c11_4 | c11_4
  · have h := h.1 c11_4
    refine lv_lookup (off := 49) (tgt := 60) hx hb dX12_takeSign_11 (by decide) (by rw [c11_4]; decide) (by decide) ?_
    refine lv_aload_n hx hb dX12_takeSign_60 rfl (lv_at hl 0 rfl) ?_
    refine g_get C hw f_RX12_56 ml_0 (ms_0 _ _) rfl dX12_takeSign_61 ?_
    refine lv_aload_n hx hb dX12_takeSign_64 rfl (lv_at hl 0 rfl) ?_
    refine g_get C hw f_RX12_126 ml_0 (ms_0 _ _) rfl dX12_takeSign_65 ?_
    refine lv_bipush (v := 10) hx hb dX12_takeSign_68 (by decide) ?_
    refine lv_icmp_ge (tgt := 80) hx hb dX12_takeSign_70 (by decide) (fun c70 => ?_) (fun c70 => ?_)
    · have h := h.1 c70
      refine lv_iconst (v := 0) hx hb dX12_takeSign_80 (by decide) ?_
      exact w_X12_takeSign_81 C  h hw (lv_sub hl [0] rfl)
    · have h := h.2 c70
      refine lv_aload_n hx hb dX12_takeSign_73 rfl (lv_at hl 0 rfl) ?_
      refine g_get C hw f_RX12_126 ml_0 (ms_0 _ _) rfl dX12_takeSign_74 ?_
      refine lv_goto (tgt := 81) hx hb dX12_takeSign_77 (by decide) ?_
      exact w_X12_takeSign_81 C  h hw (lv_sub hl [0] rfl)
  have h := h.2 c11_4
  refine lv_lookup (off := 201) (tgt := 212) hx hb dX12_takeSign_11 (by decide) (by show Op.lookupswitch.offset [(43, 105), (46, 141), (58, 159), (94, 123), (119, 49)] (201) _ = _; rw [lv_osw c11_0 (by decide), lv_osw c11_1 (by decide), lv_osw c11_2 (by decide), lv_osw c11_3 (by decide), lv_osw c11_4 (by decide)]; rfl) (by decide) ?_
  refine lv_iconst (v := 0) hx hb dX12_takeSign_212 (by decide) ?_
  exact g_zret C hw (by decide) h dX12_takeSign_213
theorem m_X12_takeSign {l : Launch} {a0 : Int32} {Q : Int32 → MI → MJ → Prop} {I : MI} {J : MJ} (h : P_X12_takeSign a0 I J Q) : Met l yX12_takeSign (xws yX12_takeSign cX12_takeSign 2 (some .boolean)) rmX12_takeSign (va_Pc [.ref (ad 0), .int a0] (gB (mS ad cy) 30 ad cy D mE I J)) (gQz (mS ad cy) 30 ad cy D mE Q) 0 0 (gA 30 ad) :=
  g_met (mE_ok ad) rfl (by decide) (Nat.le_of_ble_eq_true rfl) (fun p e s m below meth c ls C hw hl => w_X12_takeSign C  h hw hl)
/-! BagPhrasesModel.takeOfWord(I)Z -/
def P_X12_takeOfWord_152 (Q : Int32 → MI → MJ → Prop) (I : MI) (J : MJ) : Prop :=
  Q (0 : Int32) I J
def P_X12_takeOfWord_110 (Q : Int32 → MI → MJ → Prop) (x1 : Int32) (x2 : Int32) (I : MI) (J : MJ) : Prop :=
  vp_in x2 10 ∧ (∀ I119 : MI, I119 = mI I 17 x2.toNatClampNeg (x1 - (65 : Int32)) → (∀ I122 : MI, I122 = mI I119 0 27 (2 : Int32) → P_X12_in x1.toInt64 (65 : Int64) (68 : Int64) I122 J (fun r133 I133 J133 => ((r133 = 0 → P_X12_takeOfWord_152 Q I133 J133) ∧ (¬ r133 = 0 → vp_in x2 10 ∧ ((((I133 16 x2.toNatClampNeg) ≤ 0 → P_X12_takeOfWord_152 Q I133 J133) ∧ (¬ (I133 16 x2.toNatClampNeg) ≤ 0 → Q (1 : Int32) I133 J133))))))))
def P_X12_takeOfWord (a0 : Int32) (I : MI) (J : MJ) (Q : Int32 → MI → MJ → Prop) : Prop :=
  ((¬ (I 0 27) = (2 : Int32) → P_X12_in a0.toInt64 (97 : Int64) (104 : Int64) I J (fun r61 I61 J61 => ((r61 = 0 → P_X12_takeOfWord_110 Q a0 (I 0 21) I61 J61) ∧ (¬ r61 = 0 → vp_in (I 0 21) 10 ∧ ((((6 : Int32) ≤ (I61 16 (I 0 21).toNatClampNeg) → P_X12_takeOfWord_110 Q a0 (I 0 21) I61 J61) ∧ (¬ (6 : Int32) ≤ (I61 16 (I 0 21).toNatClampNeg) → vp_in (I 0 21) 10 ∧ (vp_in (((6 : Int32) * (I 0 21)) + (I61 16 (I 0 21).toNatClampNeg)) 60 ∧ (∀ I97 : MI, I97 = mI I61 15 (((6 : Int32) * (I 0 21)) + (I61 16 (I 0 21).toNatClampNeg)).toNatClampNeg (a0 - (97 : Int32)) → vp_in (I 0 21) 10 ∧ (vp_in (I 0 21) 10 ∧ (∀ I107 : MI, I107 = mI I97 16 (I 0 21).toNatClampNeg ((I97 16 (I 0 21).toNatClampNeg) + (1 : Int32)) → Q (1 : Int32) I107 J61))))))))))) ∧ ((I 0 27) = (2 : Int32) → vp_in ((9 : Int32) + (I 0 21)) 25 ∧ (∀ I25 : MI, I25 = mI I 18 ((9 : Int32) + (I 0 21)).toNatClampNeg (a0 - (48 : Int32)) → (∀ I33 : MI, I33 = mI I25 0 21 ((I25 0 21) + (1 : Int32)) → (∀ I38 : MI, I38 = mI I33 0 27 (0 : Int32) → P_X12_in a0.toInt64 (48 : Int64) (57 : Int64) I38 J (fun r49 I49 J49 => Q r49 I49 J49))))))
abbrev rmX12_takeOfWord : Room := { frames := 1, cells := 0, slots := 0, locals := 25 }
set_option maxHeartbeats 4000000 in
set_option maxRecDepth 100000 in
theorem w_X12_takeOfWord_152 {Q : Int32 → MI → MJ → Prop} (C : gC RX12 cX12_takeOfWord 3 (some .boolean) 30 ad cy D mE p s m args meth c) {I : MI} {J : MJ} {H : Heap} {locs : List Loc} {ls : Array Slot} (h : P_X12_takeOfWord_152 Q I J) (hw : gH (mS ad cy) 30 ad D s I J H locs) (hl : lv_has ls 3 []) : W p l e rmX12_takeOfWord s m args below meth c H locs 0 0 (MQ below (gQz (mS ad cy) 30 ad cy D mE Q) args s 0 0 (gA 30 ad)) (F0 m 152 ls []) := by
  obtain ⟨hx, hb, hC⟩ := id C
  refine lv_iconst (v := 0) hx hb dX12_takeOfWord_152 (by decide) ?_
  exact g_zret C hw (by decide) h dX12_takeOfWord_153
set_option maxHeartbeats 4000000 in
set_option maxRecDepth 100000 in
theorem w_X12_takeOfWord_110 {Q : Int32 → MI → MJ → Prop} (C : gC RX12 cX12_takeOfWord 3 (some .boolean) 30 ad cy D mE p s m args meth c) {x1 : Int32} {x2 : Int32} {I : MI} {J : MJ} {H : Heap} {locs : List Loc} {ls : Array Slot} (h : P_X12_takeOfWord_110 Q x1 x2 I J) (hw : gH (mS ad cy) 30 ad D s I J H locs) (hl : lv_has ls 3 [(0, .ref (ad 0)), (1, .int x1), (2, .int x2)]) : W p l e rmX12_takeOfWord s m args below meth c H locs 0 0 (MQ below (gQz (mS ad cy) 30 ad cy D mE Q) args s 0 0 (gA 30 ad)) (F0 m 110 ls []) := by
  obtain ⟨hx, hb, hC⟩ := id C
  refine lv_aload_n hx hb dX12_takeOfWord_110 rfl (lv_at hl 0 rfl) ?_
  refine g_get C hw f_RX12_59 ml_0 (ms_0 _ _) rfl dX12_takeOfWord_111 ?_
  refine lv_iload_n hx hb dX12_takeOfWord_114 rfl (lv_at hl 2 rfl) ?_
  refine lv_iload_n hx hb dX12_takeOfWord_115 rfl (lv_at hl 1 rfl) ?_
  refine lv_bipush (v := 65) hx hb dX12_takeOfWord_116 (by decide) ?_
  refine lv_isub hx hb dX12_takeOfWord_118 ?_
  refine g_iast C hw ml_17 ms_17 h.1 dX12_takeOfWord_119 (fun H locs hw => ?_)
  have h := h.2
  obtain ⟨I119, e119⟩ : ∃ z : MI, z = mI I 17 x2.toNatClampNeg (x1 - (65 : Int32)) := ⟨_, rfl⟩
  have h := h I119 e119
  rw [← e119] at hw
  refine lv_aload_n hx hb dX12_takeOfWord_120 rfl (lv_at hl 0 rfl) ?_
  refine lv_iconst (v := 2) hx hb dX12_takeOfWord_121 (by decide) ?_
  refine g_putI C hw fp_RX12_123 ml_0 ms_0 (st_11_27 ad _) (Nat.le_of_ble_eq_true rfl) rfl rfl dX12_takeOfWord_122 (fun H locs hw => ?_)
  obtain ⟨I122, e122⟩ : ∃ z : MI, z = mI I119 0 27 (2 : Int32) := ⟨_, rfl⟩
  have h := h I122 e122
  rw [← e122] at hw
  refine lv_iload_n hx hb dX12_takeOfWord_125 rfl (lv_at hl 1 rfl) ?_
  refine lv_i2l hx hb dX12_takeOfWord_126 rfl ?_
  refine lv_ldc2 (v := (65)) hx hb hC.2.2.1 (hC.2.2.2.1 _ q_RX12_141) dX12_takeOfWord_127 ?_
  refine lv_ldc2 (v := (68)) hx hb hC.2.2.1 (hC.2.2.2.1 _ q_RX12_143) dX12_takeOfWord_130 ?_
  refine g_cz hw (g_rS [.long x1.toInt64, .long (65 : Int64), .long (68 : Int64)] [] C hw (m_X12_in h) k_X12_in q_RX12_107 rfl hl.1 rfl (Nat.le_of_ble_eq_true rfl) ⟨⟨rfl, rfl⟩, Nat.le_of_ble_eq_true rfl, Nat.le_of_ble_eq_true rfl⟩ ⟨Nat.zero_le _, Nat.zero_le _⟩ dX12_takeOfWord_133) (fun r133 I133 J133 H locs z133 h hw => ?_)
  refine lv_if_eq (tgt := 152) hx hb dX12_takeOfWord_136 (by decide) (fun c136 => ?_) (fun c136 => ?_)
  · have h := h.1 c136
    exact w_X12_takeOfWord_152 C  h hw (lv_sub hl [] rfl)
  · have h := h.2 c136
    refine lv_aload_n hx hb dX12_takeOfWord_139 rfl (lv_at hl 0 rfl) ?_
    refine g_get C hw f_RX12_56 ml_0 (ms_0 _ _) rfl dX12_takeOfWord_140 ?_
    refine lv_iload_n hx hb dX12_takeOfWord_143 rfl (lv_at hl 2 rfl) ?_
    refine g_iald C hw ml_16 ms_16 h.1 dX12_takeOfWord_144 ?_
    have h := h.2
    refine lv_if_le (tgt := 152) hx hb dX12_takeOfWord_145 (by decide) (fun c145 => ?_) (fun c145 => ?_)
    · have h := h.1 c145
      exact w_X12_takeOfWord_152 C  h hw (lv_sub hl [] rfl)
    · have h := h.2 c145
      refine lv_iconst (v := 1) hx hb dX12_takeOfWord_148 (by decide) ?_
      refine lv_goto (tgt := 153) hx hb dX12_takeOfWord_149 (by decide) ?_
      exact g_zret C hw (by decide) h dX12_takeOfWord_153
set_option maxHeartbeats 4000000 in
set_option maxRecDepth 100000 in
theorem w_X12_takeOfWord {Q : Int32 → MI → MJ → Prop} (C : gC RX12 cX12_takeOfWord 3 (some .boolean) 30 ad cy D mE p s m args meth c) {a0 : Int32} {I : MI} {J : MJ} {H : Heap} {locs : List Loc} {ls : Array Slot} (h : P_X12_takeOfWord a0 I J Q) (hw : gH (mS ad cy) 30 ad D s I J H locs) (hl : lv_has ls 3 [(0, .ref (ad 0)), (1, .int a0)]) : W p l e rmX12_takeOfWord s m args below meth c H locs 0 0 (MQ below (gQz (mS ad cy) 30 ad cy D mE Q) args s 0 0 (gA 30 ad)) (F0 m 0 ls []) := by
  obtain ⟨hx, hb, hC⟩ := id C
  refine lv_aload_n hx hb dX12_takeOfWord_0 rfl (lv_at hl 0 rfl) ?_
  refine g_get C hw f_RX12_126 ml_0 (ms_0 _ _) rfl dX12_takeOfWord_1 ?_
  refine lv_istore_n (lv' := [(2, .int (I 0 21)), (0, .ref (ad 0)), (1, .int a0)]) hx hb dX12_takeOfWord_4 rfl hl (by decide) rfl (fun ls hl => ?_)
  refine lv_aload_n hx hb dX12_takeOfWord_5 rfl (lv_at hl 1 rfl) ?_
  refine g_get C hw f_RX12_123 ml_0 (ms_0 _ _) rfl dX12_takeOfWord_6 ?_
  refine lv_iconst (v := 2) hx hb dX12_takeOfWord_9 (by decide) ?_
  refine lv_icmp_ne (tgt := 53) hx hb dX12_takeOfWord_10 (by decide) (fun c10 => ?_) (fun c10 => ?_)
  · have h := h.1 c10
    refine lv_iload_n hx hb dX12_takeOfWord_53 rfl (lv_at hl 2 rfl) ?_
    refine lv_i2l hx hb dX12_takeOfWord_54 rfl ?_
    refine lv_ldc2 (v := (97)) hx hb hC.2.2.1 (hC.2.2.2.1 _ q_RX12_137) dX12_takeOfWord_55 ?_
    refine lv_ldc2 (v := (104)) hx hb hC.2.2.1 (hC.2.2.2.1 _ q_RX12_139) dX12_takeOfWord_58 ?_
    refine g_cz hw (g_rS [.long a0.toInt64, .long (97 : Int64), .long (104 : Int64)] [] C hw (m_X12_in h) k_X12_in q_RX12_107 rfl hl.1 rfl (Nat.le_of_ble_eq_true rfl) ⟨⟨rfl, rfl⟩, Nat.le_of_ble_eq_true rfl, Nat.le_of_ble_eq_true rfl⟩ ⟨Nat.zero_le _, Nat.zero_le _⟩ dX12_takeOfWord_61) (fun r61 I61 J61 H locs z61 h hw => ?_)
    refine lv_if_eq (tgt := 110) hx hb dX12_takeOfWord_64 (by decide) (fun c64 => ?_) (fun c64 => ?_)
    · have h := h.1 c64
      exact w_X12_takeOfWord_110 C  h hw (lv_sub hl [1, 2, 0] rfl)
    · have h := h.2 c64
      refine lv_aload_n hx hb dX12_takeOfWord_67 rfl (lv_at hl 1 rfl) ?_
      refine g_get C hw f_RX12_56 ml_0 (ms_0 _ _) rfl dX12_takeOfWord_68 ?_
      refine lv_iload_n hx hb dX12_takeOfWord_71 rfl (lv_at hl 0 rfl) ?_
      refine g_iald C hw ml_16 ms_16 h.1 dX12_takeOfWord_72 ?_
      have h := h.2
      refine lv_bipush (v := 6) hx hb dX12_takeOfWord_73 (by decide) ?_
      refine lv_icmp_ge (tgt := 110) hx hb dX12_takeOfWord_75 (by decide) (fun c75 => ?_) (fun c75 => ?_)
      · have h := h.1 c75
        exact w_X12_takeOfWord_110 C  h hw (lv_sub hl [1, 2, 0] rfl)
      · have h := h.2 c75
        refine lv_aload_n hx hb dX12_takeOfWord_78 rfl (lv_at hl 1 rfl) ?_
        refine g_get C hw f_RX12_53 ml_0 (ms_0 _ _) rfl dX12_takeOfWord_79 ?_
        refine lv_bipush (v := 6) hx hb dX12_takeOfWord_82 (by decide) ?_
        refine lv_iload_n hx hb dX12_takeOfWord_84 rfl (lv_at hl 0 rfl) ?_
        refine lv_imul hx hb dX12_takeOfWord_85 ?_
        refine lv_aload_n hx hb dX12_takeOfWord_86 rfl (lv_at hl 1 rfl) ?_
        refine g_get C hw f_RX12_56 ml_0 (ms_0 _ _) rfl dX12_takeOfWord_87 ?_
        refine lv_iload_n hx hb dX12_takeOfWord_90 rfl (lv_at hl 0 rfl) ?_
        refine g_iald C hw ml_16 ms_16 h.1 dX12_takeOfWord_91 ?_
        have h := h.2
        refine lv_iadd hx hb dX12_takeOfWord_92 ?_
        refine lv_iload_n hx hb dX12_takeOfWord_93 rfl (lv_at hl 2 rfl) ?_
        refine lv_bipush (v := 97) hx hb dX12_takeOfWord_94 (by decide) ?_
        refine lv_isub hx hb dX12_takeOfWord_96 ?_
        refine g_iast C hw ml_15 ms_15 h.1 dX12_takeOfWord_97 (fun H locs hw => ?_)
        have h := h.2
        obtain ⟨I97, e97⟩ : ∃ z : MI, z = mI I61 15 (((6 : Int32) * (I 0 21)) + (I61 16 (I 0 21).toNatClampNeg)).toNatClampNeg (a0 - (97 : Int32)) := ⟨_, rfl⟩
        have h := h I97 e97
        rw [← e97] at hw
        refine lv_aload_n hx hb dX12_takeOfWord_98 rfl (lv_at hl 1 rfl) ?_
        refine g_get C hw f_RX12_56 ml_0 (ms_0 _ _) rfl dX12_takeOfWord_99 ?_
        refine lv_iload_n hx hb dX12_takeOfWord_102 rfl (lv_at hl 0 rfl) ?_
        refine lv_dup2_11 hx hb dX12_takeOfWord_103 rfl rfl ?_
        refine g_iald C hw ml_16 ms_16 h.1 dX12_takeOfWord_104 ?_
        have h := h.2
        refine lv_iconst (v := 1) hx hb dX12_takeOfWord_105 (by decide) ?_
        refine lv_iadd hx hb dX12_takeOfWord_106 ?_
        refine g_iast C hw ml_16 ms_16 h.1 dX12_takeOfWord_107 (fun H locs hw => ?_)
        have h := h.2
        obtain ⟨I107, e107⟩ : ∃ z : MI, z = mI I97 16 (I 0 21).toNatClampNeg ((I97 16 (I 0 21).toNatClampNeg) + (1 : Int32)) := ⟨_, rfl⟩
        have h := h I107 e107
        rw [← e107] at hw
        refine lv_iconst (v := 1) hx hb dX12_takeOfWord_108 (by decide) ?_
        exact g_zret C hw (by decide) h dX12_takeOfWord_109
  · have h := h.2 c10
    refine lv_aload_n hx hb dX12_takeOfWord_13 rfl (lv_at hl 1 rfl) ?_
    refine g_get C hw f_RX12_62 ml_0 (ms_0 _ _) rfl dX12_takeOfWord_14 ?_
    refine lv_bipush (v := 9) hx hb dX12_takeOfWord_17 (by decide) ?_
    refine lv_iload_n hx hb dX12_takeOfWord_19 rfl (lv_at hl 0 rfl) ?_
    refine lv_iadd hx hb dX12_takeOfWord_20 ?_
    refine lv_iload_n hx hb dX12_takeOfWord_21 rfl (lv_at hl 2 rfl) ?_
    refine lv_bipush (v := 48) hx hb dX12_takeOfWord_22 (by decide) ?_
    refine lv_isub hx hb dX12_takeOfWord_24 ?_
    refine g_iast C hw ml_18 ms_18 h.1 dX12_takeOfWord_25 (fun H locs hw => ?_)
    have h := h.2
    obtain ⟨I25, e25⟩ : ∃ z : MI, z = mI I 18 ((9 : Int32) + (I 0 21)).toNatClampNeg (a0 - (48 : Int32)) := ⟨_, rfl⟩
    have h := h I25 e25
    rw [← e25] at hw
    refine lv_aload_n hx hb dX12_takeOfWord_26 rfl (lv_at hl 1 rfl) ?_
    refine lv_dup hx hb dX12_takeOfWord_27 rfl ?_
    refine g_get C hw f_RX12_126 ml_0 (ms_0 _ _) rfl dX12_takeOfWord_28 ?_
    refine lv_iconst (v := 1) hx hb dX12_takeOfWord_31 (by decide) ?_
    refine lv_iadd hx hb dX12_takeOfWord_32 ?_
    refine g_putI C hw fp_RX12_126 ml_0 ms_0 (st_11_21 ad _) (Nat.le_of_ble_eq_true rfl) rfl rfl dX12_takeOfWord_33 (fun H locs hw => ?_)
    obtain ⟨I33, e33⟩ : ∃ z : MI, z = mI I25 0 21 ((I25 0 21) + (1 : Int32)) := ⟨_, rfl⟩
    have h := h I33 e33
    rw [← e33] at hw
    refine lv_aload_n hx hb dX12_takeOfWord_36 rfl (lv_at hl 1 rfl) ?_
    refine lv_iconst (v := 0) hx hb dX12_takeOfWord_37 (by decide) ?_
    refine g_putI C hw fp_RX12_123 ml_0 ms_0 (st_11_27 ad _) (Nat.le_of_ble_eq_true rfl) rfl rfl dX12_takeOfWord_38 (fun H locs hw => ?_)
    obtain ⟨I38, e38⟩ : ∃ z : MI, z = mI I33 0 27 (0 : Int32) := ⟨_, rfl⟩
    have h := h I38 e38
    rw [← e38] at hw
    refine lv_iload_n hx hb dX12_takeOfWord_41 rfl (lv_at hl 2 rfl) ?_
    refine lv_i2l hx hb dX12_takeOfWord_42 rfl ?_
    refine lv_ldc2 (v := (48)) hx hb hC.2.2.1 (hC.2.2.2.1 _ q_RX12_133) dX12_takeOfWord_43 ?_
    refine lv_ldc2 (v := (57)) hx hb hC.2.2.1 (hC.2.2.2.1 _ q_RX12_135) dX12_takeOfWord_46 ?_
    refine g_cz hw (g_rS [.long a0.toInt64, .long (48 : Int64), .long (57 : Int64)] [] C hw (m_X12_in h) k_X12_in q_RX12_107 rfl hl.1 rfl (Nat.le_of_ble_eq_true rfl) ⟨⟨rfl, rfl⟩, Nat.le_of_ble_eq_true rfl, Nat.le_of_ble_eq_true rfl⟩ ⟨Nat.zero_le _, Nat.zero_le _⟩ dX12_takeOfWord_49) (fun r49 I49 J49 H locs z49 h hw => ?_)
    exact g_zret C hw z49 h dX12_takeOfWord_52
theorem m_X12_takeOfWord {l : Launch} {a0 : Int32} {Q : Int32 → MI → MJ → Prop} {I : MI} {J : MJ} (h : P_X12_takeOfWord a0 I J Q) : Met l yX12_takeOfWord (xws yX12_takeOfWord cX12_takeOfWord 3 (some .boolean)) rmX12_takeOfWord (va_Pc [.ref (ad 0), .int a0] (gB (mS ad cy) 30 ad cy D mE I J)) (gQz (mS ad cy) 30 ad cy D mE Q) 0 0 (gA 30 ad) :=
  g_met (mE_ok ad) rfl (by decide) (Nat.le_of_ble_eq_true rfl) (fun p e s m below meth c ls C hw hl => w_X12_takeOfWord C  h hw hl)
/-! BagPhrasesModel.takeOfBag(I)Z -/
def P_X12_takeOfBag (a0 : Int32) (I : MI) (J : MJ) (Q : Int32 → MI → MJ → Prop) : Prop :=
  P_X12_in a0.toInt64 (97 : Int64) (104 : Int64) I J (fun r8 I8 J8 => ((¬ r8 = 0 → vp_in (a0 - (97 : Int32)) 25 ∧ (vp_in (a0 - (97 : Int32)) 25 ∧ (∀ I28 : MI, I28 = mI I8 18 (a0 - (97 : Int32)).toNatClampNeg ((I8 18 (a0 - (97 : Int32)).toNatClampNeg) + (1 : Int32)) → (∀ I31 : MI, I31 = mI I28 0 27 (0 : Int32) → Q (1 : Int32) I31 J8)))) ∧ (r8 = 0 → Q (0 : Int32) I8 J8)))
abbrev rmX12_takeOfBag : Room := { frames := 1, cells := 0, slots := 0, locals := 25 }
set_option maxHeartbeats 4000000 in
set_option maxRecDepth 100000 in
theorem w_X12_takeOfBag {Q : Int32 → MI → MJ → Prop} (C : gC RX12 cX12_takeOfBag 2 (some .boolean) 30 ad cy D mE p s m args meth c) {a0 : Int32} {I : MI} {J : MJ} {H : Heap} {locs : List Loc} {ls : Array Slot} (h : P_X12_takeOfBag a0 I J Q) (hw : gH (mS ad cy) 30 ad D s I J H locs) (hl : lv_has ls 2 [(0, .ref (ad 0)), (1, .int a0)]) : W p l e rmX12_takeOfBag s m args below meth c H locs 0 0 (MQ below (gQz (mS ad cy) 30 ad cy D mE Q) args s 0 0 (gA 30 ad)) (F0 m 0 ls []) := by
  obtain ⟨hx, hb, hC⟩ := id C
  refine lv_iload_n hx hb dX12_takeOfBag_0 rfl (lv_at hl 1 rfl) ?_
  refine lv_i2l hx hb dX12_takeOfBag_1 rfl ?_
  refine lv_ldc2 (v := (97)) hx hb hC.2.2.1 (hC.2.2.2.1 _ q_RX12_137) dX12_takeOfBag_2 ?_
  refine lv_ldc2 (v := (104)) hx hb hC.2.2.1 (hC.2.2.2.1 _ q_RX12_139) dX12_takeOfBag_5 ?_
  refine g_cz hw (g_rS [.long a0.toInt64, .long (97 : Int64), .long (104 : Int64)] [] C hw (m_X12_in h) k_X12_in q_RX12_107 rfl hl.1 rfl (Nat.le_of_ble_eq_true rfl) ⟨⟨rfl, rfl⟩, Nat.le_of_ble_eq_true rfl, Nat.le_of_ble_eq_true rfl⟩ ⟨Nat.zero_le _, Nat.zero_le _⟩ dX12_takeOfBag_8) (fun r8 I8 J8 H locs z8 h hw => ?_)
  refine lv_if_ne (tgt := 16) hx hb dX12_takeOfBag_11 (by decide) (fun c11 => ?_) (fun c11 => ?_)
  · have h := h.1 c11
    refine lv_aload_n hx hb dX12_takeOfBag_16 rfl (lv_at hl 0 rfl) ?_
    refine g_get C hw f_RX12_62 ml_0 (ms_0 _ _) rfl dX12_takeOfBag_17 ?_
    refine lv_iload_n hx hb dX12_takeOfBag_20 rfl (lv_at hl 1 rfl) ?_
    refine lv_bipush (v := 97) hx hb dX12_takeOfBag_21 (by decide) ?_
    refine lv_isub hx hb dX12_takeOfBag_23 ?_
    refine lv_dup2_11 hx hb dX12_takeOfBag_24 rfl rfl ?_
    refine g_iald C hw ml_18 ms_18 h.1 dX12_takeOfBag_25 ?_
    have h := h.2
    refine lv_iconst (v := 1) hx hb dX12_takeOfBag_26 (by decide) ?_
    refine lv_iadd hx hb dX12_takeOfBag_27 ?_
    refine g_iast C hw ml_18 ms_18 h.1 dX12_takeOfBag_28 (fun H locs hw => ?_)
    have h := h.2
    obtain ⟨I28, e28⟩ : ∃ z : MI, z = mI I8 18 (a0 - (97 : Int32)).toNatClampNeg ((I8 18 (a0 - (97 : Int32)).toNatClampNeg) + (1 : Int32)) := ⟨_, rfl⟩
    have h := h I28 e28
    rw [← e28] at hw
    refine lv_aload_n hx hb dX12_takeOfBag_29 rfl (lv_at hl 0 rfl) ?_
    refine lv_iconst (v := 0) hx hb dX12_takeOfBag_30 (by decide) ?_
    refine g_putI C hw fp_RX12_123 ml_0 ms_0 (st_11_27 ad _) (Nat.le_of_ble_eq_true rfl) rfl rfl dX12_takeOfBag_31 (fun H locs hw => ?_)
    obtain ⟨I31, e31⟩ : ∃ z : MI, z = mI I28 0 27 (0 : Int32) := ⟨_, rfl⟩
    have h := h I31 e31
    rw [← e31] at hw
    refine lv_iconst (v := 1) hx hb dX12_takeOfBag_34 (by decide) ?_
    exact g_zret C hw (by decide) h dX12_takeOfBag_35
  · have h := h.2 c11
    refine lv_iconst (v := 0) hx hb dX12_takeOfBag_14 (by decide) ?_
    exact g_zret C hw (by decide) h dX12_takeOfBag_15
theorem m_X12_takeOfBag {l : Launch} {a0 : Int32} {Q : Int32 → MI → MJ → Prop} {I : MI} {J : MJ} (h : P_X12_takeOfBag a0 I J Q) : Met l yX12_takeOfBag (xws yX12_takeOfBag cX12_takeOfBag 2 (some .boolean)) rmX12_takeOfBag (va_Pc [.ref (ad 0), .int a0] (gB (mS ad cy) 30 ad cy D mE I J)) (gQz (mS ad cy) 30 ad cy D mE Q) 0 0 (gA 30 ad) :=
  g_met (mE_ok ad) rfl (by decide) (Nat.le_of_ble_eq_true rfl) (fun p e s m below meth c ls C hw hl => w_X12_takeOfBag C  h hw hl)
/-! BagPhrasesModel.isKind(I)Z -/
def P_X12_isKind (a0 : Int32) (I : MI) (J : MJ) (Q : Int32 → MI → MJ → Prop) : Prop :=
  P_X12_in a0.toInt64 (0 : Int64) (3 : Int64) I J (fun r6 I6 J6 => Q r6 I6 J6)
abbrev rmX12_isKind : Room := { frames := 1, cells := 0, slots := 0, locals := 25 }
set_option maxHeartbeats 4000000 in
set_option maxRecDepth 100000 in
theorem w_X12_isKind {Q : Int32 → MI → MJ → Prop} (C : gC RX12 cX12_isKind 1 (some .boolean) 30 ad cy D mE p s m args meth c) {a0 : Int32} {I : MI} {J : MJ} {H : Heap} {locs : List Loc} {ls : Array Slot} (h : P_X12_isKind a0 I J Q) (hw : gH (mS ad cy) 30 ad D s I J H locs) (hl : lv_has ls 1 [(0, .int a0)]) : W p l e rmX12_isKind s m args below meth c H locs 0 0 (MQ below (gQz (mS ad cy) 30 ad cy D mE Q) args s 0 0 (gA 30 ad)) (F0 m 0 ls []) := by
  obtain ⟨hx, hb, hC⟩ := id C
  refine lv_iload_n hx hb dX12_isKind_0 rfl (lv_at hl 0 rfl) ?_
  refine lv_i2l hx hb dX12_isKind_1 rfl ?_
  refine lv_lconst (v := 0) hx hb dX12_isKind_2 (by decide) ?_
  refine lv_ldc2 (v := (3)) hx hb hC.2.2.1 (hC.2.2.2.1 _ q_RX12_113) dX12_isKind_3 ?_
  refine g_cz hw (g_rS [.long a0.toInt64, .long (0 : Int64), .long (3 : Int64)] [] C hw (m_X12_in h) k_X12_in q_RX12_107 rfl hl.1 rfl (Nat.le_of_ble_eq_true rfl) ⟨⟨rfl, rfl⟩, Nat.le_of_ble_eq_true rfl, Nat.le_of_ble_eq_true rfl⟩ ⟨Nat.zero_le _, Nat.zero_le _⟩ dX12_isKind_6) (fun r6 I6 J6 H locs z6 h hw => ?_)
  exact g_zret C hw z6 h dX12_isKind_9
theorem m_X12_isKind {l : Launch} {a0 : Int32} {Q : Int32 → MI → MJ → Prop} {I : MI} {J : MJ} (h : P_X12_isKind a0 I J Q) : Met l yX12_isKind (xws yX12_isKind cX12_isKind 1 (some .boolean)) rmX12_isKind (va_Pc [.int a0] (gB (mS ad cy) 30 ad cy D mE I J)) (gQz (mS ad cy) 30 ad cy D mE Q) 0 0 (gA 30 ad) :=
  g_met (mE_ok ad) rfl (by decide) (Nat.le_of_ble_eq_true rfl) (fun p e s m below meth c ls C hw hl => w_X12_isKind C  h hw hl)
/-! BagPhrasesModel.has(II)Z -/
def P_X12_has (a0 : Int32) (a1 : Int32) (I : MI) (J : MJ) (Q : Int32 → MI → MJ → Prop) : Prop :=
  ((¬ ((a0 >>> (a1 &&& 31)) &&& (1 : Int32)) = (1 : Int32) → Q (0 : Int32) I J) ∧ (((a0 >>> (a1 &&& 31)) &&& (1 : Int32)) = (1 : Int32) → Q (1 : Int32) I J))
abbrev rmX12_has : Room := { frames := 0, cells := 0, slots := 0, locals := 0 }
set_option maxHeartbeats 4000000 in
set_option maxRecDepth 100000 in
theorem w_X12_has {Q : Int32 → MI → MJ → Prop} (C : gC RX12 cX12_has 2 (some .boolean) 30 ad cy D mE p s m args meth c) {a0 : Int32} {a1 : Int32} {I : MI} {J : MJ} {H : Heap} {locs : List Loc} {ls : Array Slot} (h : P_X12_has a0 a1 I J Q) (hw : gH (mS ad cy) 30 ad D s I J H locs) (hl : lv_has ls 2 [(0, .int a0), (1, .int a1)]) : W p l e rmX12_has s m args below meth c H locs 0 0 (MQ below (gQz (mS ad cy) 30 ad cy D mE Q) args s 0 0 (gA 30 ad)) (F0 m 0 ls []) := by
  obtain ⟨hx, hb, hC⟩ := id C
  refine lv_iload_n hx hb dX12_has_0 rfl (lv_at hl 0 rfl) ?_
  refine lv_iload_n hx hb dX12_has_1 rfl (lv_at hl 1 rfl) ?_
  refine lv_ishr hx hb dX12_has_2 ?_
  refine lv_iconst (v := 1) hx hb dX12_has_3 (by decide) ?_
  refine lv_iand hx hb dX12_has_4 ?_
  refine lv_iconst (v := 1) hx hb dX12_has_5 (by decide) ?_
  refine lv_icmp_ne (tgt := 13) hx hb dX12_has_6 (by decide) (fun c6 => ?_) (fun c6 => ?_)
  · have h := h.1 c6
    refine lv_iconst (v := 0) hx hb dX12_has_13 (by decide) ?_
    exact g_zret C hw (by decide) h dX12_has_14
  · have h := h.2 c6
    refine lv_iconst (v := 1) hx hb dX12_has_9 (by decide) ?_
    refine lv_goto (tgt := 14) hx hb dX12_has_10 (by decide) ?_
    exact g_zret C hw (by decide) h dX12_has_14
theorem m_X12_has {l : Launch} {a0 : Int32} {a1 : Int32} {Q : Int32 → MI → MJ → Prop} {I : MI} {J : MJ} (h : P_X12_has a0 a1 I J Q) : Met l yX12_has (xws yX12_has cX12_has 2 (some .boolean)) rmX12_has (va_Pc [.int a0, .int a1] (gB (mS ad cy) 30 ad cy D mE I J)) (gQz (mS ad cy) 30 ad cy D mE Q) 0 0 (gA 30 ad) :=
  g_met (mE_ok ad) rfl (by decide) (Nat.le_of_ble_eq_true rfl) (fun p e s m below meth c ls C hw hl => w_X12_has C  h hw hl)
/-! BagPhrasesModel.takeKind(II)Z -/
def P_X12_takeKind (a0 : Int32) (a1 : Int32) (I : MI) (J : MJ) (Q : Int32 → MI → MJ → Prop) : Prop :=
  P_X12_isKind (a0 - (65 : Int32)) I J (fun r6 I6 J6 => ((r6 = 0 → Q (0 : Int32) I6 J6) ∧ (¬ r6 = 0 → vp_in a1 25 ∧ (P_X12_has (I6 18 a1.toNatClampNeg) (a0 - (65 : Int32)) I6 J6 (fun r19 I19 J19 => ((r19 = 0 → vp_in a1 25 ∧ (vp_in a1 25 ∧ (∀ I38 : MI, I38 = mI I19 18 a1.toNatClampNeg ((I19 18 a1.toNatClampNeg) ||| ((1 : Int32) <<< ((a0 - (65 : Int32)) &&& 31))) → (∀ I41 : MI, I41 = mI I38 0 27 (0 : Int32) → Q (1 : Int32) I41 J19)))) ∧ (¬ r19 = 0 → Q (0 : Int32) I19 J19)))))))
abbrev rmX12_takeKind : Room := { frames := 2, cells := 0, slots := 0, locals := 45 }
set_option maxHeartbeats 4000000 in
set_option maxRecDepth 100000 in
theorem w_X12_takeKind {Q : Int32 → MI → MJ → Prop} (C : gC RX12 cX12_takeKind 4 (some .boolean) 30 ad cy D mE p s m args meth c) {a0 : Int32} {a1 : Int32} {I : MI} {J : MJ} {H : Heap} {locs : List Loc} {ls : Array Slot} (h : P_X12_takeKind a0 a1 I J Q) (hw : gH (mS ad cy) 30 ad D s I J H locs) (hl : lv_has ls 4 [(0, .ref (ad 0)), (1, .int a0), (2, .int a1)]) : W p l e rmX12_takeKind s m args below meth c H locs 0 0 (MQ below (gQz (mS ad cy) 30 ad cy D mE Q) args s 0 0 (gA 30 ad)) (F0 m 0 ls []) := by
  obtain ⟨hx, hb, hC⟩ := id C
  refine lv_iload_n hx hb dX12_takeKind_0 rfl (lv_at hl 1 rfl) ?_
  refine lv_bipush (v := 65) hx hb dX12_takeKind_1 (by decide) ?_
  refine lv_isub hx hb dX12_takeKind_3 ?_
  refine lv_istore_n (lv' := [(3, .int (a0 - (65 : Int32))), (0, .ref (ad 0)), (1, .int a0), (2, .int a1)]) hx hb dX12_takeKind_4 rfl hl (by decide) rfl (fun ls hl => ?_)
  refine lv_iload_n hx hb dX12_takeKind_5 rfl (lv_at hl 0 rfl) ?_
  refine g_cz hw (g_rS [.int (a0 - (65 : Int32))] [] C hw (m_X12_isKind h) k_X12_isKind q_RX12_145 rfl hl.1 rfl (Nat.le_of_ble_eq_true rfl) ⟨⟨rfl, rfl⟩, Nat.le_of_ble_eq_true rfl, Nat.le_of_ble_eq_true rfl⟩ ⟨Nat.zero_le _, Nat.zero_le _⟩ dX12_takeKind_6) (fun r6 I6 J6 H locs z6 h hw => ?_)
  refine lv_if_eq (tgt := 25) hx hb dX12_takeKind_9 (by decide) (fun c9 => ?_) (fun c9 => ?_)
  · have h := h.1 c9
    refine lv_iconst (v := 0) hx hb dX12_takeKind_25 (by decide) ?_
    exact g_zret C hw (by decide) h dX12_takeKind_26
  · have h := h.2 c9
    refine lv_aload_n hx hb dX12_takeKind_12 rfl (lv_at hl 1 rfl) ?_
    refine g_get C hw f_RX12_62 ml_0 (ms_0 _ _) rfl dX12_takeKind_13 ?_
    refine lv_iload_n hx hb dX12_takeKind_16 rfl (lv_at hl 3 rfl) ?_
    refine g_iald C hw ml_18 ms_18 h.1 dX12_takeKind_17 ?_
    have h := h.2
    refine lv_iload_n hx hb dX12_takeKind_18 rfl (lv_at hl 0 rfl) ?_
    refine g_cz hw (g_rS [.int (I6 18 a1.toNatClampNeg), .int (a0 - (65 : Int32))] [] C hw (m_X12_has h) k_X12_has q_RX12_149 rfl hl.1 rfl (Nat.le_of_ble_eq_true rfl) ⟨⟨rfl, rfl⟩, Nat.le_of_ble_eq_true rfl, Nat.le_of_ble_eq_true rfl⟩ ⟨Nat.zero_le _, Nat.zero_le _⟩ dX12_takeKind_19) (fun r19 I19 J19 H locs z19 h hw => ?_)
    refine lv_if_eq (tgt := 27) hx hb dX12_takeKind_22 (by decide) (fun c22 => ?_) (fun c22 => ?_)
    · have h := h.1 c22
      refine lv_aload_n hx hb dX12_takeKind_27 rfl (lv_at hl 1 rfl) ?_
      refine g_get C hw f_RX12_62 ml_0 (ms_0 _ _) rfl dX12_takeKind_28 ?_
      refine lv_iload_n hx hb dX12_takeKind_31 rfl (lv_at hl 3 rfl) ?_
      refine lv_dup2_11 hx hb dX12_takeKind_32 rfl rfl ?_
      refine g_iald C hw ml_18 ms_18 h.1 dX12_takeKind_33 ?_
      have h := h.2
      refine lv_iconst (v := 1) hx hb dX12_takeKind_34 (by decide) ?_
      refine lv_iload_n hx hb dX12_takeKind_35 rfl (lv_at hl 0 rfl) ?_
      refine lv_ishl hx hb dX12_takeKind_36 ?_
      refine lv_ior hx hb dX12_takeKind_37 ?_
      refine g_iast C hw ml_18 ms_18 h.1 dX12_takeKind_38 (fun H locs hw => ?_)
      have h := h.2
      obtain ⟨I38, e38⟩ : ∃ z : MI, z = mI I19 18 a1.toNatClampNeg ((I19 18 a1.toNatClampNeg) ||| ((1 : Int32) <<< ((a0 - (65 : Int32)) &&& 31))) := ⟨_, rfl⟩
      have h := h I38 e38
      rw [← e38] at hw
      refine lv_aload_n hx hb dX12_takeKind_39 rfl (lv_at hl 1 rfl) ?_
      refine lv_iconst (v := 0) hx hb dX12_takeKind_40 (by decide) ?_
      refine g_putI C hw fp_RX12_123 ml_0 ms_0 (st_11_27 ad _) (Nat.le_of_ble_eq_true rfl) rfl rfl dX12_takeKind_41 (fun H locs hw => ?_)
      obtain ⟨I41, e41⟩ : ∃ z : MI, z = mI I38 0 27 (0 : Int32) := ⟨_, rfl⟩
      have h := h I41 e41
      rw [← e41] at hw
      refine lv_iconst (v := 1) hx hb dX12_takeKind_44 (by decide) ?_
      exact g_zret C hw (by decide) h dX12_takeKind_45
    · have h := h.2 c22
      refine lv_iconst (v := 0) hx hb dX12_takeKind_25 (by decide) ?_
      exact g_zret C hw (by decide) h dX12_takeKind_26
theorem m_X12_takeKind {l : Launch} {a0 : Int32} {a1 : Int32} {Q : Int32 → MI → MJ → Prop} {I : MI} {J : MJ} (h : P_X12_takeKind a0 a1 I J Q) : Met l yX12_takeKind (xws yX12_takeKind cX12_takeKind 4 (some .boolean)) rmX12_takeKind (va_Pc [.ref (ad 0), .int a0, .int a1] (gB (mS ad cy) 30 ad cy D mE I J)) (gQz (mS ad cy) 30 ad cy D mE Q) 0 0 (gA 30 ad) :=
  g_met (mE_ok ad) rfl (by decide) (Nat.le_of_ble_eq_true rfl) (fun p e s m below meth c ls C hw hl => w_X12_takeKind C  h hw hl)
/-! BagPhrasesModel.takeOfPair(I)Z -/
def P_X12_takeOfPair_61 (Q : Int32 → MI → MJ → Prop) (I : MI) (J : MJ) : Prop :=
  Q (0 : Int32) I J
def P_X12_takeOfPair (a0 : Int32) (I : MI) (J : MJ) (Q : Int32 → MI → MJ → Prop) : Prop :=
  ((¬ (I 0 27) = (2 : Int32) → (∀ I28 : MI, I28 = mI I 0 28 (a0 - (65 : Int32)) → (∀ I33 : MI, I33 = mI I28 0 27 (2 : Int32) → P_X12_isKind (a0 - (65 : Int32)) I33 J (fun r37 I37 J37 => ((r37 = 0 → P_X12_takeOfPair_61 Q I37 J37) ∧ (¬ r37 = 0 → vp_in ((21 : Int32) + (a0 - (65 : Int32))) 25 ∧ ((((I37 18 ((21 : Int32) + (a0 - (65 : Int32))).toNatClampNeg) = (15 : Int32) → P_X12_takeOfPair_61 Q I37 J37) ∧ (¬ (I37 18 ((21 : Int32) + (a0 - (65 : Int32))).toNatClampNeg) = (15 : Int32) → Q (1 : Int32) I37 J37))))))))) ∧ ((I 0 27) = (2 : Int32) → P_X12_takeKind a0 ((21 : Int32) + (I 0 28)) I J (fun r22 I22 J22 => Q r22 I22 J22)))
abbrev rmX12_takeOfPair : Room := { frames := 3, cells := 0, slots := 0, locals := 68 }
set_option maxHeartbeats 4000000 in
set_option maxRecDepth 100000 in
theorem w_X12_takeOfPair_61 {Q : Int32 → MI → MJ → Prop} (C : gC RX12 cX12_takeOfPair 3 (some .boolean) 30 ad cy D mE p s m args meth c) {I : MI} {J : MJ} {H : Heap} {locs : List Loc} {ls : Array Slot} (h : P_X12_takeOfPair_61 Q I J) (hw : gH (mS ad cy) 30 ad D s I J H locs) (hl : lv_has ls 3 []) : W p l e rmX12_takeOfPair s m args below meth c H locs 0 0 (MQ below (gQz (mS ad cy) 30 ad cy D mE Q) args s 0 0 (gA 30 ad)) (F0 m 61 ls []) := by
  obtain ⟨hx, hb, hC⟩ := id C
  refine lv_iconst (v := 0) hx hb dX12_takeOfPair_61 (by decide) ?_
  exact g_zret C hw (by decide) h dX12_takeOfPair_62
set_option maxHeartbeats 4000000 in
set_option maxRecDepth 100000 in
theorem w_X12_takeOfPair {Q : Int32 → MI → MJ → Prop} (C : gC RX12 cX12_takeOfPair 3 (some .boolean) 30 ad cy D mE p s m args meth c) {a0 : Int32} {I : MI} {J : MJ} {H : Heap} {locs : List Loc} {ls : Array Slot} (h : P_X12_takeOfPair a0 I J Q) (hw : gH (mS ad cy) 30 ad D s I J H locs) (hl : lv_has ls 3 [(0, .ref (ad 0)), (1, .int a0)]) : W p l e rmX12_takeOfPair s m args below meth c H locs 0 0 (MQ below (gQz (mS ad cy) 30 ad cy D mE Q) args s 0 0 (gA 30 ad)) (F0 m 0 ls []) := by
  obtain ⟨hx, hb, hC⟩ := id C
  refine lv_iload_n hx hb dX12_takeOfPair_0 rfl (lv_at hl 1 rfl) ?_
  refine lv_bipush (v := 65) hx hb dX12_takeOfPair_1 (by decide) ?_
  refine lv_isub hx hb dX12_takeOfPair_3 ?_
  refine lv_istore_n (lv' := [(2, .int (a0 - (65 : Int32))), (0, .ref (ad 0)), (1, .int a0)]) hx hb dX12_takeOfPair_4 rfl hl (by decide) rfl (fun ls hl => ?_)
  refine lv_aload_n hx hb dX12_takeOfPair_5 rfl (lv_at hl 1 rfl) ?_
  refine g_get C hw f_RX12_123 ml_0 (ms_0 _ _) rfl dX12_takeOfPair_6 ?_
  refine lv_iconst (v := 2) hx hb dX12_takeOfPair_9 (by decide) ?_
  refine lv_icmp_ne (tgt := 26) hx hb dX12_takeOfPair_10 (by decide) (fun c10 => ?_) (fun c10 => ?_)
  · have h := h.1 c10
    refine lv_aload_n hx hb dX12_takeOfPair_26 rfl (lv_at hl 1 rfl) ?_
    refine lv_iload_n hx hb dX12_takeOfPair_27 rfl (lv_at hl 0 rfl) ?_
    refine g_putI C hw fp_RX12_153 ml_0 ms_0 (st_11_28 ad _) (Nat.le_of_ble_eq_true rfl) rfl rfl dX12_takeOfPair_28 (fun H locs hw => ?_)
    obtain ⟨I28, e28⟩ : ∃ z : MI, z = mI I 0 28 (a0 - (65 : Int32)) := ⟨_, rfl⟩
    have h := h I28 e28
    rw [← e28] at hw
    refine lv_aload_n hx hb dX12_takeOfPair_31 rfl (lv_at hl 1 rfl) ?_
    refine lv_iconst (v := 2) hx hb dX12_takeOfPair_32 (by decide) ?_
    refine g_putI C hw fp_RX12_123 ml_0 ms_0 (st_11_27 ad _) (Nat.le_of_ble_eq_true rfl) rfl rfl dX12_takeOfPair_33 (fun H locs hw => ?_)
    obtain ⟨I33, e33⟩ : ∃ z : MI, z = mI I28 0 27 (2 : Int32) := ⟨_, rfl⟩
    have h := h I33 e33
    rw [← e33] at hw
    refine lv_iload_n hx hb dX12_takeOfPair_36 rfl (lv_at hl 0 rfl) ?_
    refine g_cz hw (g_rS [.int (a0 - (65 : Int32))] [] C hw (m_X12_isKind h) k_X12_isKind q_RX12_145 rfl hl.1 rfl (Nat.le_of_ble_eq_true rfl) ⟨⟨rfl, rfl⟩, Nat.le_of_ble_eq_true rfl, Nat.le_of_ble_eq_true rfl⟩ ⟨Nat.zero_le _, Nat.zero_le _⟩ dX12_takeOfPair_37) (fun r37 I37 J37 H locs z37 h hw => ?_)
    refine lv_if_eq (tgt := 61) hx hb dX12_takeOfPair_40 (by decide) (fun c40 => ?_) (fun c40 => ?_)
    · have h := h.1 c40
      exact w_X12_takeOfPair_61 C  h hw (lv_sub hl [] rfl)
    · have h := h.2 c40
      refine lv_aload_n hx hb dX12_takeOfPair_43 rfl (lv_at hl 1 rfl) ?_
      refine g_get C hw f_RX12_62 ml_0 (ms_0 _ _) rfl dX12_takeOfPair_44 ?_
      refine lv_bipush (v := 21) hx hb dX12_takeOfPair_47 (by decide) ?_
      refine lv_iload_n hx hb dX12_takeOfPair_49 rfl (lv_at hl 0 rfl) ?_
      refine lv_iadd hx hb dX12_takeOfPair_50 ?_
      refine g_iald C hw ml_18 ms_18 h.1 dX12_takeOfPair_51 ?_
      have h := h.2
      refine lv_bipush (v := 15) hx hb dX12_takeOfPair_52 (by decide) ?_
      refine lv_icmp_eq (tgt := 61) hx hb dX12_takeOfPair_54 (by decide) (fun c54 => ?_) (fun c54 => ?_)
      · have h := h.1 c54
        exact w_X12_takeOfPair_61 C  h hw (lv_sub hl [] rfl)
      · have h := h.2 c54
        refine lv_iconst (v := 1) hx hb dX12_takeOfPair_57 (by decide) ?_
        refine lv_goto (tgt := 62) hx hb dX12_takeOfPair_58 (by decide) ?_
        exact g_zret C hw (by decide) h dX12_takeOfPair_62
  · have h := h.2 c10
    refine lv_aload_n hx hb dX12_takeOfPair_13 rfl (lv_at hl 1 rfl) ?_
    refine lv_iload_n hx hb dX12_takeOfPair_14 rfl (lv_at hl 2 rfl) ?_
    refine lv_bipush (v := 21) hx hb dX12_takeOfPair_15 (by decide) ?_
    refine lv_aload_n hx hb dX12_takeOfPair_17 rfl (lv_at hl 1 rfl) ?_
    refine g_get C hw f_RX12_153 ml_0 (ms_0 _ _) rfl dX12_takeOfPair_18 ?_
    refine lv_iadd hx hb dX12_takeOfPair_21 ?_
    refine g_cz hw (g_rV [.int a0, .int ((21 : Int32) + (I 0 28))] [] C hw (m_X12_takeKind h) k_X12_takeKind q_RX12_156 ml_0 (ms_0 _ _) rfl rfl hl.1 rfl (Nat.le_of_ble_eq_true rfl) ⟨⟨rfl, rfl⟩, Nat.le_of_ble_eq_true rfl, Nat.le_of_ble_eq_true rfl⟩ ⟨Nat.zero_le _, Nat.zero_le _⟩ dX12_takeOfPair_22) (fun r22 I22 J22 H locs z22 h hw => ?_)
    exact g_zret C hw z22 h dX12_takeOfPair_25
theorem m_X12_takeOfPair {l : Launch} {a0 : Int32} {Q : Int32 → MI → MJ → Prop} {I : MI} {J : MJ} (h : P_X12_takeOfPair a0 I J Q) : Met l yX12_takeOfPair (xws yX12_takeOfPair cX12_takeOfPair 3 (some .boolean)) rmX12_takeOfPair (va_Pc [.ref (ad 0), .int a0] (gB (mS ad cy) 30 ad cy D mE I J)) (gQz (mS ad cy) 30 ad cy D mE Q) 0 0 (gA 30 ad) :=
  g_met (mE_ok ad) rfl (by decide) (Nat.le_of_ble_eq_true rfl) (fun p e s m below meth c ls C hw hl => w_X12_takeOfPair C  h hw hl)
/-! BagPhrasesModel.takeIn(I)Z -/
def P_X12_takeIn (a0 : Int32) (I : MI) (J : MJ) (Q : Int32 → MI → MJ → Prop) : Prop :=
  (((I 0 26) = 43 → P_X12_takeOfBag a0 I J (fun r56 I56 J56 => Q r56 I56 J56)) ∧ (¬ (I 0 26) = 43 → (((I 0 26) = 46 → P_X12_takeKind a0 (20 : Int32) I J (fun r72 I72 J72 => Q r72 I72 J72)) ∧ (¬ (I 0 26) = 46 → (((I 0 26) = 94 → P_X12_takeKind a0 (19 : Int32) I J (fun r64 I64 J64 => Q r64 I64 J64)) ∧ (¬ (I 0 26) = 94 → (((I 0 26) = 119 → P_X12_takeOfWord a0 I J (fun r50 I50 J50 => Q r50 I50 J50)) ∧ (¬ (I 0 26) = 119 → P_X12_takeOfPair a0 I J (fun r78 I78 J78 => Q r78 I78 J78)))))))))
abbrev rmX12_takeIn : Room := { frames := 4, cells := 0, slots := 0, locals := 90 }
set_option maxHeartbeats 4000000 in
set_option maxRecDepth 100000 in
theorem w_X12_takeIn {Q : Int32 → MI → MJ → Prop} (C : gC RX12 cX12_takeIn 2 (some .boolean) 30 ad cy D mE p s m args meth c) {a0 : Int32} {I : MI} {J : MJ} {H : Heap} {locs : List Loc} {ls : Array Slot} (h : P_X12_takeIn a0 I J Q) (hw : gH (mS ad cy) 30 ad D s I J H locs) (hl : lv_has ls 2 [(0, .ref (ad 0)), (1, .int a0)]) : W p l e rmX12_takeIn s m args below meth c H locs 0 0 (MQ below (gQz (mS ad cy) 30 ad cy D mE Q) args s 0 0 (gA 30 ad)) (F0 m 0 ls []) := by
  obtain ⟨hx, hb, hC⟩ := id C
  refine lv_aload_n hx hb dX12_takeIn_0 rfl (lv_at hl 0 rfl) ?_
  refine g_get C hw f_RX12_120 ml_0 (ms_0 _ _) rfl dX12_takeIn_1 ?_
  rcases Classical.em ((I 0 26) = 43) with c4_0 | c4_0
  · have h := h.1 c4_0
    refine lv_lookup (off := 50) (tgt := 54) hx hb dX12_takeIn_4 (by decide) (by rw [c4_0]; decide) (by decide) ?_
    refine lv_aload_n hx hb dX12_takeIn_54 rfl (lv_at hl 0 rfl) ?_
    refine lv_iload_n hx hb dX12_takeIn_55 rfl (lv_at hl 1 rfl) ?_
    refine g_cz hw (g_rV [.int a0] [] C hw (m_X12_takeOfBag h) k_X12_takeOfBag q_RX12_162 ml_0 (ms_0 _ _) rfl rfl hl.1 rfl (Nat.le_of_ble_eq_true rfl) ⟨⟨rfl, rfl⟩, Nat.le_of_ble_eq_true rfl, Nat.le_of_ble_eq_true rfl⟩ ⟨Nat.zero_le _, Nat.zero_le _⟩ dX12_takeIn_56) (fun r56 I56 J56 H locs z56 h hw => ?_)
    exact g_zret C hw z56 h dX12_takeIn_59
  have h := h.2 c4_0
  rcases Classical.em ((I 0 26) = 46) with c4_1 | c4_1
  · have h := h.1 c4_1
    refine lv_lookup (off := 64) (tgt := 68) hx hb dX12_takeIn_4 (by decide) (by rw [c4_1]; decide) (by decide) ?_
    refine lv_aload_n hx hb dX12_takeIn_68 rfl (lv_at hl 0 rfl) ?_
    refine lv_iload_n hx hb dX12_takeIn_69 rfl (lv_at hl 1 rfl) ?_
    refine lv_bipush (v := 20) hx hb dX12_takeIn_70 (by decide) ?_
    refine g_cz hw (g_rV [.int a0, .int (20 : Int32)] [] C hw (m_X12_takeKind h) k_X12_takeKind q_RX12_156 ml_0 (ms_0 _ _) rfl rfl hl.1 rfl (Nat.le_of_ble_eq_true rfl) ⟨⟨rfl, rfl⟩, Nat.le_of_ble_eq_true rfl, Nat.le_of_ble_eq_true rfl⟩ ⟨Nat.zero_le _, Nat.zero_le _⟩ dX12_takeIn_72) (fun r72 I72 J72 H locs z72 h hw => ?_)
    exact g_zret C hw z72 h dX12_takeIn_75
  have h := h.2 c4_1
  rcases Classical.em ((I 0 26) = 94) with c4_2 | c4_2
  · have h := h.1 c4_2
    refine lv_lookup (off := 56) (tgt := 60) hx hb dX12_takeIn_4 (by decide) (by rw [c4_2]; decide) (by decide) ?_
    refine lv_aload_n hx hb dX12_takeIn_60 rfl (lv_at hl 0 rfl) ?_
    refine lv_iload_n hx hb dX12_takeIn_61 rfl (lv_at hl 1 rfl) ?_
    refine lv_bipush (v := 19) hx hb dX12_takeIn_62 (by decide) ?_
    refine g_cz hw (g_rV [.int a0, .int (19 : Int32)] [] C hw (m_X12_takeKind h) k_X12_takeKind q_RX12_156 ml_0 (ms_0 _ _) rfl rfl hl.1 rfl (Nat.le_of_ble_eq_true rfl) ⟨⟨rfl, rfl⟩, Nat.le_of_ble_eq_true rfl, Nat.le_of_ble_eq_true rfl⟩ ⟨Nat.zero_le _, Nat.zero_le _⟩ dX12_takeIn_64) (fun r64 I64 J64 H locs z64 h hw => ?_)
    exact g_zret C hw z64 h dX12_takeIn_67
  have h := h.2 c4_2
  rcases Classical.em ((I 0 26) = 119) with c4_3 | c4_3
  · have h := h.1 c4_3
    refine lv_lookup (off := 44) (tgt := 48) hx hb dX12_takeIn_4 (by decide) (by rw [c4_3]; decide) (by decide) ?_
    refine lv_aload_n hx hb dX12_takeIn_48 rfl (lv_at hl 0 rfl) ?_
    refine lv_iload_n hx hb dX12_takeIn_49 rfl (lv_at hl 1 rfl) ?_
    refine g_cz hw (g_rV [.int a0] [] C hw (m_X12_takeOfWord h) k_X12_takeOfWord q_RX12_159 ml_0 (ms_0 _ _) rfl rfl hl.1 rfl (Nat.le_of_ble_eq_true rfl) ⟨⟨rfl, rfl⟩, Nat.le_of_ble_eq_true rfl, Nat.le_of_ble_eq_true rfl⟩ ⟨Nat.zero_le _, Nat.zero_le _⟩ dX12_takeIn_50) (fun r50 I50 J50 H locs z50 h hw => ?_)
    exact g_zret C hw z50 h dX12_takeIn_53
  have h := h.2 c4_3
  refine lv_lookup (off := 72) (tgt := 76) hx hb dX12_takeIn_4 (by decide) (by show Op.lookupswitch.offset [(43, 50), (46, 64), (94, 56), (119, 44)] (72) _ = _; rw [lv_osw c4_0 (by decide), lv_osw c4_1 (by decide), lv_osw c4_2 (by decide), lv_osw c4_3 (by decide)]; rfl) (by decide) ?_
  refine lv_aload_n hx hb dX12_takeIn_76 rfl (lv_at hl 0 rfl) ?_
  refine lv_iload_n hx hb dX12_takeIn_77 rfl (lv_at hl 1 rfl) ?_
  refine g_cz hw (g_rV [.int a0] [] C hw (m_X12_takeOfPair h) k_X12_takeOfPair q_RX12_165 ml_0 (ms_0 _ _) rfl rfl hl.1 rfl (Nat.le_of_ble_eq_true rfl) ⟨⟨rfl, rfl⟩, Nat.le_of_ble_eq_true rfl, Nat.le_of_ble_eq_true rfl⟩ ⟨Nat.zero_le _, Nat.zero_le _⟩ dX12_takeIn_78) (fun r78 I78 J78 H locs z78 h hw => ?_)
  exact g_zret C hw z78 h dX12_takeIn_81
theorem m_X12_takeIn {l : Launch} {a0 : Int32} {Q : Int32 → MI → MJ → Prop} {I : MI} {J : MJ} (h : P_X12_takeIn a0 I J Q) : Met l yX12_takeIn (xws yX12_takeIn cX12_takeIn 2 (some .boolean)) rmX12_takeIn (va_Pc [.ref (ad 0), .int a0] (gB (mS ad cy) 30 ad cy D mE I J)) (gQz (mS ad cy) 30 ad cy D mE Q) 0 0 (gA 30 ad) :=
  g_met (mE_ok ad) rfl (by decide) (Nat.le_of_ble_eq_true rfl) (fun p e s m below meth c ls C hw hl => w_X12_takeIn C  h hw hl)
/-! BagPhrasesModel.readText()I -/
def P_X12_readText_65 (Q : Int32 → MI → MJ → Prop) (kL19 : Int32 × MI × MJ → Prop) (x1 : Int32) (I : MI) (J : MJ) : Prop :=
  kL19 ((x1 + 1), I, J)
def P_X12_readText_19 (Q : Int32 → MI → MJ → Prop) (kL19 : Int32 × MI × MJ → Prop) : Int32 × MI × MJ → Prop := fun z => match z with
  | (x1, I, J) => (((I 0 1) ≤ x1 → ((¬ (I 0 27) = 0 → Q (I 0 1) I J) ∧ ((I 0 27) = 0 → Q (-9 : Int32) I J))) ∧ (¬ (I 0 1) ≤ x1 → ((¬ (I 0 27) = 0 → vp_in x1 180 ∧ (P_X12_takeIn (I 1 x1.toNatClampNeg) I J (fun r57 I57 J57 => ((¬ r57 = 0 → P_X12_readText_65 Q kL19 x1 I57 J57) ∧ (r57 = 0 → Q x1 I57 J57))))) ∧ ((I 0 27) = 0 → vp_in x1 180 ∧ (P_X12_takeSign (I 1 x1.toNatClampNeg) I J (fun r41 I41 J41 => ((r41 = 0 → Q x1 I41 J41) ∧ (¬ r41 = 0 → P_X12_readText_65 Q kL19 x1 I41 J41))))))))
def P_X12_readText (I : MI) (J : MJ) (Q : Int32 → MI → MJ → Prop) : Prop :=
  (∀ I2 : MI, I2 = mI I 0 21 (0 : Int32) → P_X12_empty 18 I2 J (fun I9 J9 => (∀ I14 : MI, I14 = mI I9 0 27 (0 : Int32) → lpx (P_X12_readText_19 Q) ((0 : Int32), I14, J9))))
abbrev rmX12_readText : Room := { frames := 5, cells := 0, slots := 0, locals := 111 }
set_option maxHeartbeats 4000000 in
set_option maxRecDepth 100000 in
theorem w_X12_readText_65 {Q : Int32 → MI → MJ → Prop} (C : gC RX12 cX12_readText 2 (some .int) 30 ad cy D mE p s m args meth c) {kL19 : Int32 × MI × MJ → Prop} (hL19 : ∀ {x1 : Int32} {I : MI} {J : MJ} {H : Heap} {locs : List Loc} {ls : Array Slot}, kL19 (x1, I, J) → gH (mS ad cy) 30 ad D s I J H locs → lv_has ls 2 [(0, .ref (ad 0)), (1, .int x1)] → W p l e rmX12_readText s m args below meth c H locs 0 0 (MQ below (gQi (mS ad cy) 30 ad cy D mE Q) args s 0 0 (gA 30 ad)) (F0 m 19 ls [])) {x1 : Int32} {I : MI} {J : MJ} {H : Heap} {locs : List Loc} {ls : Array Slot} (h : P_X12_readText_65 Q kL19 x1 I J) (hw : gH (mS ad cy) 30 ad D s I J H locs) (hl : lv_has ls 2 [(0, .ref (ad 0)), (1, .int x1)]) : W p l e rmX12_readText s m args below meth c H locs 0 0 (MQ below (gQi (mS ad cy) 30 ad cy D mE Q) args s 0 0 (gA 30 ad)) (F0 m 65 ls []) := by
  obtain ⟨hx, hb, hC⟩ := id C
  refine lv_iinc (v := x1 + 1) (lv' := [(1, .int (x1 + 1)), (0, .ref (ad 0))]) hx hb dX12_readText_65 hl (k := 1) rfl rfl (by decide) rfl (fun ls hl => ?_)
  refine lv_goto (tgt := 19) hx hb dX12_readText_68 (by decide) ?_
  exact hL19 h hw (lv_sub hl [1, 0] rfl)
set_option maxHeartbeats 4000000 in
set_option maxRecDepth 100000 in
theorem w_X12_readText_19 {Q : Int32 → MI → MJ → Prop} (C : gC RX12 cX12_readText 2 (some .int) 30 ad cy D mE p s m args meth c) {kL19 : Int32 × MI × MJ → Prop} (hL19 : ∀ {x1 : Int32} {I : MI} {J : MJ} {H : Heap} {locs : List Loc} {ls : Array Slot}, kL19 (x1, I, J) → gH (mS ad cy) 30 ad D s I J H locs → lv_has ls 2 [(0, .ref (ad 0)), (1, .int x1)] → W p l e rmX12_readText s m args below meth c H locs 0 0 (MQ below (gQi (mS ad cy) 30 ad cy D mE Q) args s 0 0 (gA 30 ad)) (F0 m 19 ls [])) {x1 : Int32} {I : MI} {J : MJ} {H : Heap} {locs : List Loc} {ls : Array Slot} (h : P_X12_readText_19 Q kL19 (x1, I, J)) (hw : gH (mS ad cy) 30 ad D s I J H locs) (hl : lv_has ls 2 [(0, .ref (ad 0)), (1, .int x1)]) : W p l e rmX12_readText s m args below meth c H locs 0 0 (MQ below (gQi (mS ad cy) 30 ad cy D mE Q) args s 0 0 (gA 30 ad)) (F0 m 19 ls []) := by
  obtain ⟨hx, hb, hC⟩ := id C
  refine lv_iload_n hx hb dX12_readText_19 rfl (lv_at hl 1 rfl) ?_
  refine lv_aload_n hx hb dX12_readText_20 rfl (lv_at hl 0 rfl) ?_
  refine g_get C hw f_RX12_117 ml_0 (ms_0 _ _) rfl dX12_readText_21 ?_
  refine lv_icmp_ge (tgt := 71) hx hb dX12_readText_24 (by decide) (fun c24 => ?_) (fun c24 => ?_)
  · have h := h.1 c24
    refine lv_aload_n hx hb dX12_readText_71 rfl (lv_at hl 0 rfl) ?_
    refine g_get C hw f_RX12_123 ml_0 (ms_0 _ _) rfl dX12_readText_72 ?_
    refine lv_if_ne (tgt := 83) hx hb dX12_readText_75 (by decide) (fun c75 => ?_) (fun c75 => ?_)
    · have h := h.1 c75
      refine lv_aload_n hx hb dX12_readText_83 rfl (lv_at hl 0 rfl) ?_
      refine g_get C hw f_RX12_117 ml_0 (ms_0 _ _) rfl dX12_readText_84 ?_
      exact g_iret C hw h dX12_readText_87
    · have h := h.2 c75
      refine lv_bipush (v := -9) hx hb dX12_readText_78 (by decide) ?_
      refine lv_goto (tgt := 87) hx hb dX12_readText_80 (by decide) ?_
      exact g_iret C hw h dX12_readText_87
  · have h := h.2 c24
    refine lv_aload_n hx hb dX12_readText_27 rfl (lv_at hl 0 rfl) ?_
    refine g_get C hw f_RX12_123 ml_0 (ms_0 _ _) rfl dX12_readText_28 ?_
    refine lv_if_ne (tgt := 50) hx hb dX12_readText_31 (by decide) (fun c31 => ?_) (fun c31 => ?_)
    · have h := h.1 c31
      refine lv_aload_n hx hb dX12_readText_50 rfl (lv_at hl 0 rfl) ?_
      refine lv_aload_n hx hb dX12_readText_51 rfl (lv_at hl 0 rfl) ?_
      refine g_get C hw f_RX12_7 ml_0 (ms_0 _ _) rfl dX12_readText_52 ?_
      refine lv_iload_n hx hb dX12_readText_55 rfl (lv_at hl 1 rfl) ?_
      refine g_iald C hw ml_1 ms_1 h.1 dX12_readText_56 ?_
      have h := h.2
      refine g_cz hw (g_rV [.int (I 1 x1.toNatClampNeg)] [] C hw (m_X12_takeIn h) k_X12_takeIn q_RX12_171 ml_0 (ms_0 _ _) rfl rfl hl.1 rfl (Nat.le_of_ble_eq_true rfl) ⟨⟨rfl, rfl⟩, Nat.le_of_ble_eq_true rfl, Nat.le_of_ble_eq_true rfl⟩ ⟨Nat.zero_le _, Nat.zero_le _⟩ dX12_readText_57) (fun r57 I57 J57 H locs z57 h hw => ?_)
      refine lv_if_ne (tgt := 65) hx hb dX12_readText_60 (by decide) (fun c60 => ?_) (fun c60 => ?_)
      · have h := h.1 c60
        exact w_X12_readText_65 C hL19 h hw (lv_sub hl [0, 1] rfl)
      · have h := h.2 c60
        refine lv_iload_n hx hb dX12_readText_63 rfl (lv_at hl 1 rfl) ?_
        exact g_iret C hw h dX12_readText_64
    · have h := h.2 c31
      refine lv_aload_n hx hb dX12_readText_34 rfl (lv_at hl 0 rfl) ?_
      refine lv_aload_n hx hb dX12_readText_35 rfl (lv_at hl 0 rfl) ?_
      refine g_get C hw f_RX12_7 ml_0 (ms_0 _ _) rfl dX12_readText_36 ?_
      refine lv_iload_n hx hb dX12_readText_39 rfl (lv_at hl 1 rfl) ?_
      refine g_iald C hw ml_1 ms_1 h.1 dX12_readText_40 ?_
      have h := h.2
      refine g_cz hw (g_rV [.int (I 1 x1.toNatClampNeg)] [] C hw (m_X12_takeSign h) k_X12_takeSign q_RX12_168 ml_0 (ms_0 _ _) rfl rfl hl.1 rfl (Nat.le_of_ble_eq_true rfl) ⟨⟨rfl, rfl⟩, Nat.le_of_ble_eq_true rfl, Nat.le_of_ble_eq_true rfl⟩ ⟨Nat.zero_le _, Nat.zero_le _⟩ dX12_readText_41) (fun r41 I41 J41 H locs z41 h hw => ?_)
      refine lv_if_eq (tgt := 63) hx hb dX12_readText_44 (by decide) (fun c44 => ?_) (fun c44 => ?_)
      · have h := h.1 c44
        refine lv_iload_n hx hb dX12_readText_63 rfl (lv_at hl 1 rfl) ?_
        exact g_iret C hw h dX12_readText_64
      · have h := h.2 c44
        refine lv_goto (tgt := 65) hx hb dX12_readText_47 (by decide) ?_
        exact w_X12_readText_65 C hL19 h hw (lv_sub hl [0, 1] rfl)
theorem wl_X12_readText_19 {Q : Int32 → MI → MJ → Prop} (C : gC RX12 cX12_readText 2 (some .int) 30 ad cy D mE p s m args meth c) {x1 : Int32} {I : MI} {J : MJ} {H : Heap} {locs : List Loc} {ls : Array Slot} (h : lpx (P_X12_readText_19 Q) (x1, I, J)) (hw : gH (mS ad cy) 30 ad D s I J H locs) (hl : lv_has ls 2 [(0, .ref (ad 0)), (1, .int x1)]) : W p l e rmX12_readText s m args below meth c H locs 0 0 (MQ below (gQi (mS ad cy) 30 ad cy D mE Q) args s 0 0 (gA 30 ad)) (F0 m 19 ls []) := by
  obtain ⟨n, h⟩ := h
  induction n generalizing x1 I J H locs ls with
  | zero => exact False.elim h
  | succ n ih => exact w_X12_readText_19 C  (fun hk9 hw9 hl9 => ih hw9 hl9 hk9) h hw hl
set_option maxHeartbeats 4000000 in
set_option maxRecDepth 100000 in
theorem w_X12_readText {Q : Int32 → MI → MJ → Prop} (C : gC RX12 cX12_readText 2 (some .int) 30 ad cy D mE p s m args meth c) {I : MI} {J : MJ} {H : Heap} {locs : List Loc} {ls : Array Slot} (h : P_X12_readText I J Q) (hw : gH (mS ad cy) 30 ad D s I J H locs) (hl : lv_has ls 2 [(0, .ref (ad 0))]) : W p l e rmX12_readText s m args below meth c H locs 0 0 (MQ below (gQi (mS ad cy) 30 ad cy D mE Q) args s 0 0 (gA 30 ad)) (F0 m 0 ls []) := by
  obtain ⟨hx, hb, hC⟩ := id C
  refine lv_aload_n hx hb dX12_readText_0 rfl (lv_at hl 0 rfl) ?_
  refine lv_iconst (v := 0) hx hb dX12_readText_1 (by decide) ?_
  refine g_putI C hw fp_RX12_126 ml_0 ms_0 (st_11_21 ad _) (Nat.le_of_ble_eq_true rfl) rfl rfl dX12_readText_2 (fun H locs hw => ?_)
  obtain ⟨I2, e2⟩ : ∃ z : MI, z = mI I 0 21 (0 : Int32) := ⟨_, rfl⟩
  have h := h I2 e2
  rw [← e2] at hw
  refine lv_aload_n hx hb dX12_readText_5 rfl (lv_at hl 0 rfl) ?_
  refine g_get C hw f_RX12_62 ml_0 (ms_0 _ _) rfl dX12_readText_6 ?_
  refine g_cv hw (g_rS [.ref (ad 18)] [] C hw (m_X12_empty isRow_18 h) k_X12_empty q_RX12_99 rfl hl.1 rfl (Nat.le_of_ble_eq_true rfl) ⟨⟨rfl, rfl⟩, Nat.le_of_ble_eq_true rfl, Nat.le_of_ble_eq_true rfl⟩ ⟨Nat.zero_le _, Nat.zero_le _⟩ dX12_readText_9) (fun I9 J9 H locs h hw => ?_)
  refine lv_aload_n hx hb dX12_readText_12 rfl (lv_at hl 0 rfl) ?_
  refine lv_iconst (v := 0) hx hb dX12_readText_13 (by decide) ?_
  refine g_putI C hw fp_RX12_123 ml_0 ms_0 (st_11_27 ad _) (Nat.le_of_ble_eq_true rfl) rfl rfl dX12_readText_14 (fun H locs hw => ?_)
  obtain ⟨I14, e14⟩ : ∃ z : MI, z = mI I9 0 27 (0 : Int32) := ⟨_, rfl⟩
  have h := h I14 e14
  rw [← e14] at hw
  refine lv_iconst (v := 0) hx hb dX12_readText_17 (by decide) ?_
  refine lv_istore_n (lv' := [(1, .int (0 : Int32)), (0, .ref (ad 0))]) hx hb dX12_readText_18 rfl hl (by decide) rfl (fun ls hl => ?_)
  exact wl_X12_readText_19 C  h hw (lv_sub hl [1, 0] rfl)
theorem m_X12_readText {l : Launch} {Q : Int32 → MI → MJ → Prop} {I : MI} {J : MJ} (h : P_X12_readText I J Q) : Met l yX12_readText (xws yX12_readText cX12_readText 2 (some .int)) rmX12_readText (va_Pc [.ref (ad 0)] (gB (mS ad cy) 30 ad cy D mE I J)) (gQi (mS ad cy) 30 ad cy D mE Q) 0 0 (gA 30 ad) :=
  g_met (mE_ok ad) rfl (by decide) (Nat.le_of_ble_eq_true rfl) (fun p e s m below meth c ls C hw hl => w_X12_readText C  h hw hl)
/-! BagPhrasesModel.fault()I -/
def P_X12_fault (I : MI) (J : MJ) (Q : Int32 → MI → MJ → Prop) : Prop :=
  P_X12_readText I J (fun r1 I1 J1 => Q r1 I1 J1)
abbrev rmX12_fault : Room := { frames := 6, cells := 0, slots := 0, locals := 132 }
set_option maxHeartbeats 4000000 in
set_option maxRecDepth 100000 in
theorem w_X12_fault {Q : Int32 → MI → MJ → Prop} (C : gC RX12 cX12_fault 1 (some .int) 30 ad cy D mE p s m args meth c) {I : MI} {J : MJ} {H : Heap} {locs : List Loc} {ls : Array Slot} (h : P_X12_fault I J Q) (hw : gH (mS ad cy) 30 ad D s I J H locs) (hl : lv_has ls 1 [(0, .ref (ad 0))]) : W p l e rmX12_fault s m args below meth c H locs 0 0 (MQ below (gQi (mS ad cy) 30 ad cy D mE Q) args s 0 0 (gA 30 ad)) (F0 m 0 ls []) := by
  obtain ⟨hx, hb, hC⟩ := id C
  refine lv_aload_n hx hb dX12_fault_0 rfl (lv_at hl 0 rfl) ?_
  refine g_ci hw (g_rV [] [] C hw (m_X12_readText h) k_X12_readText q_RX12_174 ml_0 (ms_0 _ _) rfl rfl hl.1 rfl (Nat.le_of_ble_eq_true rfl) ⟨⟨rfl, rfl⟩, Nat.le_of_ble_eq_true rfl, Nat.le_of_ble_eq_true rfl⟩ ⟨Nat.zero_le _, Nat.zero_le _⟩ dX12_fault_1) (fun r1 I1 J1 H locs h hw => ?_)
  exact g_iret C hw h dX12_fault_4
theorem m_X12_fault {l : Launch} {Q : Int32 → MI → MJ → Prop} {I : MI} {J : MJ} (h : P_X12_fault I J Q) : Met l yX12_fault (xws yX12_fault cX12_fault 1 (some .int)) rmX12_fault (va_Pc [.ref (ad 0)] (gB (mS ad cy) 30 ad cy D mE I J)) (gQi (mS ad cy) 30 ad cy D mE Q) 0 0 (gA 30 ad) :=
  g_met (mE_ok ad) rfl (by decide) (Nat.le_of_ble_eq_true rfl) (fun p e s m below meth c ls C hw hl => w_X12_fault C  h hw hl)
/-! BagPhrasesModel.copy([I[I)V -/
def P_X12_copy_2 (w0 : Nat) (w1 : Nat) (Q : MI → MJ → Prop) (kL2 : Int32 × MI × MJ → Prop) : Int32 × MI × MJ → Prop := fun z => match z with
  | (x2, I, J) => (((25 : Int32) ≤ x2 → Q I J) ∧ (¬ (25 : Int32) ≤ x2 → vp_in x2 25 ∧ (vp_in x2 25 ∧ (∀ I13 : MI, I13 = mI I w1 x2.toNatClampNeg (I w0 x2.toNatClampNeg) → kL2 ((x2 + 1), I13, J)))))
def P_X12_copy (w0 : Nat) (w1 : Nat) (I : MI) (J : MJ) (Q : MI → MJ → Prop) : Prop :=
  lpx (P_X12_copy_2 w0 w1 Q) ((0 : Int32), I, J)
abbrev rmX12_copy : Room := { frames := 0, cells := 0, slots := 0, locals := 0 }
set_option maxHeartbeats 4000000 in
set_option maxRecDepth 100000 in
theorem w_X12_copy_2 {Q : MI → MJ → Prop} (C : gC RX12 cX12_copy 3 none 30 ad cy D mE p s m args meth c) {w0 : Nat} (hw0 : isRow w0) {w1 : Nat} (hw1 : isRow w1) {kL2 : Int32 × MI × MJ → Prop} (hL2 : ∀ {x2 : Int32} {I : MI} {J : MJ} {H : Heap} {locs : List Loc} {ls : Array Slot}, kL2 (x2, I, J) → gH (mS ad cy) 30 ad D s I J H locs → lv_has ls 3 [(0, .ref (ad w0)), (1, .ref (ad w1)), (2, .int x2)] → W p l e rmX12_copy s m args below meth c H locs 0 0 (MQ below (gQv (mS ad cy) 30 ad cy D mE Q) args s 0 0 (gA 30 ad)) (F0 m 2 ls [])) {x2 : Int32} {I : MI} {J : MJ} {H : Heap} {locs : List Loc} {ls : Array Slot} (h : P_X12_copy_2 w0 w1 Q kL2 (x2, I, J)) (hw : gH (mS ad cy) 30 ad D s I J H locs) (hl : lv_has ls 3 [(0, .ref (ad w0)), (1, .ref (ad w1)), (2, .int x2)]) : W p l e rmX12_copy s m args below meth c H locs 0 0 (MQ below (gQv (mS ad cy) 30 ad cy D mE Q) args s 0 0 (gA 30 ad)) (F0 m 2 ls []) := by
  obtain ⟨hx, hb, hC⟩ := id C
  refine lv_iload_n hx hb dX12_copy_2 rfl (lv_at hl 2 rfl) ?_
  refine lv_bipush (v := 25) hx hb dX12_copy_3 (by decide) ?_
  refine lv_icmp_ge (tgt := 20) hx hb dX12_copy_5 (by decide) (fun c5 => ?_) (fun c5 => ?_)
  · have h := h.1 c5
    exact g_vret C hw h dX12_copy_20
  · have h := h.2 c5
    refine lv_aload_n hx hb dX12_copy_8 rfl (lv_at hl 1 rfl) ?_
    refine lv_iload_n hx hb dX12_copy_9 rfl (lv_at hl 2 rfl) ?_
    refine lv_aload_n hx hb dX12_copy_10 rfl (lv_at hl 0 rfl) ?_
    refine lv_iload_n hx hb dX12_copy_11 rfl (lv_at hl 2 rfl) ?_
    refine g_iald C hw (ml_Row0 hw0) (ms_Row0 hw0) h.1 dX12_copy_12 ?_
    have h := h.2
    refine g_iast C hw (ml_Row0 hw1) (ms_Row0 hw1) h.1 dX12_copy_13 (fun H locs hw => ?_)
    have h := h.2
    obtain ⟨I13, e13⟩ : ∃ z : MI, z = mI I w1 x2.toNatClampNeg (I w0 x2.toNatClampNeg) := ⟨_, rfl⟩
    have h := h I13 e13
    rw [← e13] at hw
    refine lv_iinc (v := x2 + 1) (lv' := [(2, .int (x2 + 1)), (0, .ref (ad w0)), (1, .ref (ad w1))]) hx hb dX12_copy_14 hl (k := 2) rfl rfl (by decide) rfl (fun ls hl => ?_)
    refine lv_goto (tgt := 2) hx hb dX12_copy_17 (by decide) ?_
    exact hL2 h hw (lv_sub hl [1, 2, 0] rfl)
theorem wl_X12_copy_2 {Q : MI → MJ → Prop} (C : gC RX12 cX12_copy 3 none 30 ad cy D mE p s m args meth c) {w0 : Nat} (hw0 : isRow w0) {w1 : Nat} (hw1 : isRow w1) {x2 : Int32} {I : MI} {J : MJ} {H : Heap} {locs : List Loc} {ls : Array Slot} (h : lpx (P_X12_copy_2 w0 w1 Q) (x2, I, J)) (hw : gH (mS ad cy) 30 ad D s I J H locs) (hl : lv_has ls 3 [(0, .ref (ad w0)), (1, .ref (ad w1)), (2, .int x2)]) : W p l e rmX12_copy s m args below meth c H locs 0 0 (MQ below (gQv (mS ad cy) 30 ad cy D mE Q) args s 0 0 (gA 30 ad)) (F0 m 2 ls []) := by
  obtain ⟨n, h⟩ := h
  induction n generalizing x2 I J H locs ls with
  | zero => exact False.elim h
  | succ n ih => exact w_X12_copy_2 C hw0 hw1 (fun hk9 hw9 hl9 => ih hw9 hl9 hk9) h hw hl
set_option maxHeartbeats 4000000 in
set_option maxRecDepth 100000 in
theorem w_X12_copy {Q : MI → MJ → Prop} (C : gC RX12 cX12_copy 3 none 30 ad cy D mE p s m args meth c) {w0 : Nat} (hw0 : isRow w0) {w1 : Nat} (hw1 : isRow w1) {I : MI} {J : MJ} {H : Heap} {locs : List Loc} {ls : Array Slot} (h : P_X12_copy w0 w1 I J Q) (hw : gH (mS ad cy) 30 ad D s I J H locs) (hl : lv_has ls 3 [(0, .ref (ad w0)), (1, .ref (ad w1))]) : W p l e rmX12_copy s m args below meth c H locs 0 0 (MQ below (gQv (mS ad cy) 30 ad cy D mE Q) args s 0 0 (gA 30 ad)) (F0 m 0 ls []) := by
  obtain ⟨hx, hb, hC⟩ := id C
  refine lv_iconst (v := 0) hx hb dX12_copy_0 (by decide) ?_
  refine lv_istore_n (lv' := [(2, .int (0 : Int32)), (0, .ref (ad w0)), (1, .ref (ad w1))]) hx hb dX12_copy_1 rfl hl (by decide) rfl (fun ls hl => ?_)
  exact wl_X12_copy_2 C hw0 hw1 h hw (lv_sub hl [1, 2, 0] rfl)
theorem m_X12_copy {l : Launch} {w0 : Nat} (hw0 : isRow w0) {w1 : Nat} (hw1 : isRow w1) {Q : MI → MJ → Prop} {I : MI} {J : MJ} (h : P_X12_copy w0 w1 I J Q) : Met l yX12_copy (xws yX12_copy cX12_copy 3 none) rmX12_copy (va_Pc [.ref (ad w0), .ref (ad w1)] (gB (mS ad cy) 30 ad cy D mE I J)) (gQv (mS ad cy) 30 ad cy D mE Q) 0 0 (gA 30 ad) :=
  g_met (mE_ok ad) rfl (by decide) (Nat.le_of_ble_eq_true rfl) (fun p e s m below meth c ls C hw hl => w_X12_copy C hw0 hw1 h hw hl)
/-! BagPhrasesModel.house()I -/
def P_X12_house_77 (Q : Int32 → MI → MJ → Prop) (kL43 : Int32 × MI × MJ → Prop) (kL77 : Int32 × Int32 × MI × MJ → Prop) : Int32 × Int32 × MI × MJ → Prop := fun z => match z with
  | (x1, x2, I, J) => vp_in x1 10 ∧ ((((I 3 x1.toNatClampNeg) ≤ x2 → kL43 ((x1 + 1), I, J)) ∧ (¬ (I 3 x1.toNatClampNeg) ≤ x2 → vp_in (((6 : Int32) * x1) + x2) 60 ∧ (vp_in (((6 : Int32) * x1) + x2) 60 ∧ (∀ I108 : MI, I108 = mI I 2 (((6 : Int32) * x1) + x2).toNatClampNeg (I 15 (((6 : Int32) * x1) + x2).toNatClampNeg) → vp_in (((6 : Int32) * x1) + x2) 60 ∧ (vp_in (((8 : Int32) * x1) + (I108 2 (((6 : Int32) * x1) + x2).toNatClampNeg)) 80 ∧ (vp_in (((8 : Int32) * x1) + (I108 2 (((6 : Int32) * x1) + x2).toNatClampNeg)) 80 ∧ (∀ I133 : MI, I133 = mI I108 5 (((8 : Int32) * x1) + (I108 2 (((6 : Int32) * x1) + x2).toNatClampNeg)).toNatClampNeg ((I108 5 (((8 : Int32) * x1) + (I108 2 (((6 : Int32) * x1) + x2).toNatClampNeg)).toNatClampNeg) + (1 : Int32)) → kL77 (x1, (x2 + 1), I133, J)))))))))
def P_X12_house_43 (Q : Int32 → MI → MJ → Prop) (kL43 : Int32 × MI × MJ → Prop) : Int32 × MI × MJ → Prop := fun z => match z with
  | (x1, I, J) => (((I 0 2) ≤ x1 → P_X12_copy 18 6 I J (fun I154 J154 => (∀ I159 : MI, I159 = mI I154 0 10 (0 : Int32) → (∀ I164 : MI, I164 = mI I159 0 15 (0 : Int32) → vp_in (0 : Int32) 2 ∧ (∀ I173 : MI, I173 = mI I164 10 (0 : Int32).toNatClampNeg (vp_nar .boolean (0 : Int32)) → vp_in (1 : Int32) 2 ∧ (∀ I180 : MI, I180 = mI I173 10 (1 : Int32).toNatClampNeg (vp_nar .boolean (0 : Int32)) → Q (I180 0 2) I180 J154)))))) ∧ (¬ (I 0 2) ≤ x1 → vp_in x1 10 ∧ (vp_in x1 10 ∧ (∀ I62 : MI, I62 = mI I 3 x1.toNatClampNeg (I 16 x1.toNatClampNeg) → vp_in x1 10 ∧ (vp_in x1 10 ∧ (∀ I74 : MI, I74 = mI I62 4 x1.toNatClampNeg (I62 17 x1.toNatClampNeg) → lpx (P_X12_house_77 Q kL43) (x1, (0 : Int32), I74, J)))))))
def P_X12_house_22 (Q : Int32 → MI → MJ → Prop) (kL22 : Int32 × MI × MJ → Prop) : Int32 × MI × MJ → Prop := fun z => match z with
  | (x1, I, J) => (((80 : Int32) ≤ x1 → lpx (P_X12_house_43 Q) ((0 : Int32), I, J)) ∧ (¬ (80 : Int32) ≤ x1 → vp_in x1 80 ∧ (∀ I34 : MI, I34 = mI I 5 x1.toNatClampNeg (0 : Int32) → kL22 ((x1 + 1), I34, J))))
def P_X12_house (I : MI) (J : MJ) (Q : Int32 → MI → MJ → Prop) : Prop :=
  P_X12_readText I J (fun r1 I1 J1 => ((r1 = (-9 : Int32) → (∀ I17 : MI, I17 = mI I1 0 2 (I1 0 21) → lpx (P_X12_house_22 Q) ((0 : Int32), I17, J1))) ∧ (¬ r1 = (-9 : Int32) → Q (-3 : Int32) I1 J1)))
abbrev rmX12_house : Room := { frames := 6, cells := 0, slots := 0, locals := 132 }
set_option maxHeartbeats 4000000 in
set_option maxRecDepth 100000 in
theorem w_X12_house_77 {Q : Int32 → MI → MJ → Prop} (C : gC RX12 cX12_house 3 (some .int) 30 ad cy D mE p s m args meth c) {kL43 : Int32 × MI × MJ → Prop} (hL43 : ∀ {x1 : Int32} {I : MI} {J : MJ} {H : Heap} {locs : List Loc} {ls : Array Slot}, kL43 (x1, I, J) → gH (mS ad cy) 30 ad D s I J H locs → lv_has ls 3 [(0, .ref (ad 0)), (1, .int x1)] → W p l e rmX12_house s m args below meth c H locs 0 0 (MQ below (gQi (mS ad cy) 30 ad cy D mE Q) args s 0 0 (gA 30 ad)) (F0 m 43 ls [])) {kL77 : Int32 × Int32 × MI × MJ → Prop} (hL77 : ∀ {x1 : Int32} {x2 : Int32} {I : MI} {J : MJ} {H : Heap} {locs : List Loc} {ls : Array Slot}, kL77 (x1, x2, I, J) → gH (mS ad cy) 30 ad D s I J H locs → lv_has ls 3 [(0, .ref (ad 0)), (1, .int x1), (2, .int x2)] → W p l e rmX12_house s m args below meth c H locs 0 0 (MQ below (gQi (mS ad cy) 30 ad cy D mE Q) args s 0 0 (gA 30 ad)) (F0 m 77 ls [])) {x1 : Int32} {x2 : Int32} {I : MI} {J : MJ} {H : Heap} {locs : List Loc} {ls : Array Slot} (h : P_X12_house_77 Q kL43 kL77 (x1, x2, I, J)) (hw : gH (mS ad cy) 30 ad D s I J H locs) (hl : lv_has ls 3 [(0, .ref (ad 0)), (1, .int x1), (2, .int x2)]) : W p l e rmX12_house s m args below meth c H locs 0 0 (MQ below (gQi (mS ad cy) 30 ad cy D mE Q) args s 0 0 (gA 30 ad)) (F0 m 77 ls []) := by
  obtain ⟨hx, hb, hC⟩ := id C
  refine lv_iload_n hx hb dX12_house_77 rfl (lv_at hl 2 rfl) ?_
  refine lv_aload_n hx hb dX12_house_78 rfl (lv_at hl 0 rfl) ?_
  refine g_get C hw f_RX12_16 ml_0 (ms_0 _ _) rfl dX12_house_79 ?_
  refine lv_iload_n hx hb dX12_house_82 rfl (lv_at hl 1 rfl) ?_
  refine g_iald C hw ml_3 ms_3 h.1 dX12_house_83 ?_
  have h := h.2
  refine lv_icmp_ge (tgt := 140) hx hb dX12_house_84 (by decide) (fun c84 => ?_) (fun c84 => ?_)
  · have h := h.1 c84
    refine lv_iinc (v := x1 + 1) (lv' := [(1, .int (x1 + 1)), (0, .ref (ad 0)), (2, .int x2)]) hx hb dX12_house_140 hl (k := 1) rfl rfl (by decide) rfl (fun ls hl => ?_)
    refine lv_goto (tgt := 43) hx hb dX12_house_143 (by decide) ?_
    exact hL43 h hw (lv_sub hl [1, 0] rfl)
  · have h := h.2 c84
    refine lv_aload_n hx hb dX12_house_87 rfl (lv_at hl 0 rfl) ?_
    refine g_get C hw f_RX12_13 ml_0 (ms_0 _ _) rfl dX12_house_88 ?_
    refine lv_bipush (v := 6) hx hb dX12_house_91 (by decide) ?_
    refine lv_iload_n hx hb dX12_house_93 rfl (lv_at hl 1 rfl) ?_
    refine lv_imul hx hb dX12_house_94 ?_
    refine lv_iload_n hx hb dX12_house_95 rfl (lv_at hl 2 rfl) ?_
    refine lv_iadd hx hb dX12_house_96 ?_
    refine lv_aload_n hx hb dX12_house_97 rfl (lv_at hl 0 rfl) ?_
    refine g_get C hw f_RX12_53 ml_0 (ms_0 _ _) rfl dX12_house_98 ?_
    refine lv_bipush (v := 6) hx hb dX12_house_101 (by decide) ?_
    refine lv_iload_n hx hb dX12_house_103 rfl (lv_at hl 1 rfl) ?_
    refine lv_imul hx hb dX12_house_104 ?_
    refine lv_iload_n hx hb dX12_house_105 rfl (lv_at hl 2 rfl) ?_
    refine lv_iadd hx hb dX12_house_106 ?_
    refine g_iald C hw ml_15 ms_15 h.1 dX12_house_107 ?_
    have h := h.2
    refine g_iast C hw ml_2 ms_2 h.1 dX12_house_108 (fun H locs hw => ?_)
    have h := h.2
    obtain ⟨I108, e108⟩ : ∃ z : MI, z = mI I 2 (((6 : Int32) * x1) + x2).toNatClampNeg (I 15 (((6 : Int32) * x1) + x2).toNatClampNeg) := ⟨_, rfl⟩
    have h := h I108 e108
    rw [← e108] at hw
    refine lv_aload_n hx hb dX12_house_109 rfl (lv_at hl 0 rfl) ?_
    refine g_get C hw f_RX12_22 ml_0 (ms_0 _ _) rfl dX12_house_110 ?_
    refine lv_bipush (v := 8) hx hb dX12_house_113 (by decide) ?_
    refine lv_iload_n hx hb dX12_house_115 rfl (lv_at hl 1 rfl) ?_
    refine lv_imul hx hb dX12_house_116 ?_
    refine lv_aload_n hx hb dX12_house_117 rfl (lv_at hl 0 rfl) ?_
    refine g_get C hw f_RX12_13 ml_0 (ms_0 _ _) rfl dX12_house_118 ?_
    refine lv_bipush (v := 6) hx hb dX12_house_121 (by decide) ?_
    refine lv_iload_n hx hb dX12_house_123 rfl (lv_at hl 1 rfl) ?_
    refine lv_imul hx hb dX12_house_124 ?_
    refine lv_iload_n hx hb dX12_house_125 rfl (lv_at hl 2 rfl) ?_
    refine lv_iadd hx hb dX12_house_126 ?_
    refine g_iald C hw ml_2 ms_2 h.1 dX12_house_127 ?_
    have h := h.2
    refine lv_iadd hx hb dX12_house_128 ?_
    refine lv_dup2_11 hx hb dX12_house_129 rfl rfl ?_
    refine g_iald C hw ml_5 ms_5 h.1 dX12_house_130 ?_
    have h := h.2
    refine lv_iconst (v := 1) hx hb dX12_house_131 (by decide) ?_
    refine lv_iadd hx hb dX12_house_132 ?_
    refine g_iast C hw ml_5 ms_5 h.1 dX12_house_133 (fun H locs hw => ?_)
    have h := h.2
    obtain ⟨I133, e133⟩ : ∃ z : MI, z = mI I108 5 (((8 : Int32) * x1) + (I108 2 (((6 : Int32) * x1) + x2).toNatClampNeg)).toNatClampNeg ((I108 5 (((8 : Int32) * x1) + (I108 2 (((6 : Int32) * x1) + x2).toNatClampNeg)).toNatClampNeg) + (1 : Int32)) := ⟨_, rfl⟩
    have h := h I133 e133
    rw [← e133] at hw
    refine lv_iinc (v := x2 + 1) (lv' := [(2, .int (x2 + 1)), (0, .ref (ad 0)), (1, .int x1)]) hx hb dX12_house_134 hl (k := 2) rfl rfl (by decide) rfl (fun ls hl => ?_)
    refine lv_goto (tgt := 77) hx hb dX12_house_137 (by decide) ?_
    exact hL77 h hw (lv_sub hl [1, 2, 0] rfl)
theorem wl_X12_house_77 {Q : Int32 → MI → MJ → Prop} (C : gC RX12 cX12_house 3 (some .int) 30 ad cy D mE p s m args meth c) {kL43 : Int32 × MI × MJ → Prop} (hL43 : ∀ {x1 : Int32} {I : MI} {J : MJ} {H : Heap} {locs : List Loc} {ls : Array Slot}, kL43 (x1, I, J) → gH (mS ad cy) 30 ad D s I J H locs → lv_has ls 3 [(0, .ref (ad 0)), (1, .int x1)] → W p l e rmX12_house s m args below meth c H locs 0 0 (MQ below (gQi (mS ad cy) 30 ad cy D mE Q) args s 0 0 (gA 30 ad)) (F0 m 43 ls [])) {x1 : Int32} {x2 : Int32} {I : MI} {J : MJ} {H : Heap} {locs : List Loc} {ls : Array Slot} (h : lpx (P_X12_house_77 Q kL43) (x1, x2, I, J)) (hw : gH (mS ad cy) 30 ad D s I J H locs) (hl : lv_has ls 3 [(0, .ref (ad 0)), (1, .int x1), (2, .int x2)]) : W p l e rmX12_house s m args below meth c H locs 0 0 (MQ below (gQi (mS ad cy) 30 ad cy D mE Q) args s 0 0 (gA 30 ad)) (F0 m 77 ls []) := by
  obtain ⟨n, h⟩ := h
  induction n generalizing x1 x2 I J H locs ls with
  | zero => exact False.elim h
  | succ n ih => exact w_X12_house_77 C hL43 (fun hk9 hw9 hl9 => ih hw9 hl9 hk9) h hw hl
set_option maxHeartbeats 4000000 in
set_option maxRecDepth 100000 in
theorem w_X12_house_43 {Q : Int32 → MI → MJ → Prop} (C : gC RX12 cX12_house 3 (some .int) 30 ad cy D mE p s m args meth c) {kL43 : Int32 × MI × MJ → Prop} (hL43 : ∀ {x1 : Int32} {I : MI} {J : MJ} {H : Heap} {locs : List Loc} {ls : Array Slot}, kL43 (x1, I, J) → gH (mS ad cy) 30 ad D s I J H locs → lv_has ls 3 [(0, .ref (ad 0)), (1, .int x1)] → W p l e rmX12_house s m args below meth c H locs 0 0 (MQ below (gQi (mS ad cy) 30 ad cy D mE Q) args s 0 0 (gA 30 ad)) (F0 m 43 ls [])) {x1 : Int32} {I : MI} {J : MJ} {H : Heap} {locs : List Loc} {ls : Array Slot} (h : P_X12_house_43 Q kL43 (x1, I, J)) (hw : gH (mS ad cy) 30 ad D s I J H locs) (hl : lv_has ls 3 [(0, .ref (ad 0)), (1, .int x1)]) : W p l e rmX12_house s m args below meth c H locs 0 0 (MQ below (gQi (mS ad cy) 30 ad cy D mE Q) args s 0 0 (gA 30 ad)) (F0 m 43 ls []) := by
  obtain ⟨hx, hb, hC⟩ := id C
  refine lv_iload_n hx hb dX12_house_43 rfl (lv_at hl 1 rfl) ?_
  refine lv_aload_n hx hb dX12_house_44 rfl (lv_at hl 0 rfl) ?_
  refine g_get C hw f_RX12_103 ml_0 (ms_0 _ _) rfl dX12_house_45 ?_
  refine lv_icmp_ge (tgt := 146) hx hb dX12_house_48 (by decide) (fun c48 => ?_) (fun c48 => ?_)
  · have h := h.1 c48
    refine lv_aload_n hx hb dX12_house_146 rfl (lv_at hl 0 rfl) ?_
    refine g_get C hw f_RX12_62 ml_0 (ms_0 _ _) rfl dX12_house_147 ?_
    refine lv_aload_n hx hb dX12_house_150 rfl (lv_at hl 0 rfl) ?_
    refine g_get C hw f_RX12_25 ml_0 (ms_0 _ _) rfl dX12_house_151 ?_
    refine g_cv hw (g_rS [.ref (ad 18), .ref (ad 6)] [] C hw (m_X12_copy isRow_18 isRow_6 h) k_X12_copy q_RX12_178 rfl hl.1 rfl (Nat.le_of_ble_eq_true rfl) ⟨⟨rfl, rfl⟩, Nat.le_of_ble_eq_true rfl, Nat.le_of_ble_eq_true rfl⟩ ⟨Nat.zero_le _, Nat.zero_le _⟩ dX12_house_154) (fun I154 J154 H locs h hw => ?_)
    refine lv_aload_n hx hb dX12_house_157 rfl (lv_at hl 0 rfl) ?_
    refine lv_iconst (v := 0) hx hb dX12_house_158 (by decide) ?_
    refine g_putI C hw fp_RX12_182 ml_0 ms_0 (st_11_10 ad _) (Nat.le_of_ble_eq_true rfl) rfl rfl dX12_house_159 (fun H locs hw => ?_)
    obtain ⟨I159, e159⟩ : ∃ z : MI, z = mI I154 0 10 (0 : Int32) := ⟨_, rfl⟩
    have h := h I159 e159
    rw [← e159] at hw
    refine lv_aload_n hx hb dX12_house_162 rfl (lv_at hl 0 rfl) ?_
    refine lv_iconst (v := 0) hx hb dX12_house_163 (by decide) ?_
    refine g_putI C hw fp_RX12_185 ml_0 ms_0 (st_11_15 ad _) (Nat.le_of_ble_eq_true rfl) rfl rfl dX12_house_164 (fun H locs hw => ?_)
    obtain ⟨I164, e164⟩ : ∃ z : MI, z = mI I159 0 15 (0 : Int32) := ⟨_, rfl⟩
    have h := h I164 e164
    rw [← e164] at hw
    refine lv_aload_n hx hb dX12_house_167 rfl (lv_at hl 0 rfl) ?_
    refine g_get C hw f_RX12_37 ml_0 (ms_0 _ _) rfl dX12_house_168 ?_
    refine lv_iconst (v := 0) hx hb dX12_house_171 (by decide) ?_
    refine lv_iconst (v := 0) hx hb dX12_house_172 (by decide) ?_
    refine g_zast C hw ml_10 ms_10 h.1 dX12_house_173 (fun H locs hw => ?_)
    have h := h.2
    obtain ⟨I173, e173⟩ : ∃ z : MI, z = mI I164 10 (0 : Int32).toNatClampNeg (vp_nar .boolean (0 : Int32)) := ⟨_, rfl⟩
    have h := h I173 e173
    rw [← e173] at hw
    refine lv_aload_n hx hb dX12_house_174 rfl (lv_at hl 0 rfl) ?_
    refine g_get C hw f_RX12_37 ml_0 (ms_0 _ _) rfl dX12_house_175 ?_
    refine lv_iconst (v := 1) hx hb dX12_house_178 (by decide) ?_
    refine lv_iconst (v := 0) hx hb dX12_house_179 (by decide) ?_
    refine g_zast C hw ml_10 ms_10 h.1 dX12_house_180 (fun H locs hw => ?_)
    have h := h.2
    obtain ⟨I180, e180⟩ : ∃ z : MI, z = mI I173 10 (1 : Int32).toNatClampNeg (vp_nar .boolean (0 : Int32)) := ⟨_, rfl⟩
    have h := h I180 e180
    rw [← e180] at hw
    refine lv_aload_n hx hb dX12_house_181 rfl (lv_at hl 0 rfl) ?_
    refine g_get C hw f_RX12_103 ml_0 (ms_0 _ _) rfl dX12_house_182 ?_
    exact g_iret C hw h dX12_house_185
  · have h := h.2 c48
    refine lv_aload_n hx hb dX12_house_51 rfl (lv_at hl 0 rfl) ?_
    refine g_get C hw f_RX12_16 ml_0 (ms_0 _ _) rfl dX12_house_52 ?_
    refine lv_iload_n hx hb dX12_house_55 rfl (lv_at hl 1 rfl) ?_
    refine lv_aload_n hx hb dX12_house_56 rfl (lv_at hl 0 rfl) ?_
    refine g_get C hw f_RX12_56 ml_0 (ms_0 _ _) rfl dX12_house_57 ?_
    refine lv_iload_n hx hb dX12_house_60 rfl (lv_at hl 1 rfl) ?_
    refine g_iald C hw ml_16 ms_16 h.1 dX12_house_61 ?_
    have h := h.2
    refine g_iast C hw ml_3 ms_3 h.1 dX12_house_62 (fun H locs hw => ?_)
    have h := h.2
    obtain ⟨I62, e62⟩ : ∃ z : MI, z = mI I 3 x1.toNatClampNeg (I 16 x1.toNatClampNeg) := ⟨_, rfl⟩
    have h := h I62 e62
    rw [← e62] at hw
    refine lv_aload_n hx hb dX12_house_63 rfl (lv_at hl 0 rfl) ?_
    refine g_get C hw f_RX12_19 ml_0 (ms_0 _ _) rfl dX12_house_64 ?_
    refine lv_iload_n hx hb dX12_house_67 rfl (lv_at hl 1 rfl) ?_
    refine lv_aload_n hx hb dX12_house_68 rfl (lv_at hl 0 rfl) ?_
    refine g_get C hw f_RX12_59 ml_0 (ms_0 _ _) rfl dX12_house_69 ?_
    refine lv_iload_n hx hb dX12_house_72 rfl (lv_at hl 1 rfl) ?_
    refine g_iald C hw ml_17 ms_17 h.1 dX12_house_73 ?_
    have h := h.2
    refine g_iast C hw ml_4 ms_4 h.1 dX12_house_74 (fun H locs hw => ?_)
    have h := h.2
    obtain ⟨I74, e74⟩ : ∃ z : MI, z = mI I62 4 x1.toNatClampNeg (I62 17 x1.toNatClampNeg) := ⟨_, rfl⟩
    have h := h I74 e74
    rw [← e74] at hw
    refine lv_iconst (v := 0) hx hb dX12_house_75 (by decide) ?_
    refine lv_istore_n (lv' := [(2, .int (0 : Int32)), (0, .ref (ad 0)), (1, .int x1)]) hx hb dX12_house_76 rfl hl (by decide) rfl (fun ls hl => ?_)
    exact wl_X12_house_77 C hL43 h hw (lv_sub hl [1, 2, 0] rfl)
theorem wl_X12_house_43 {Q : Int32 → MI → MJ → Prop} (C : gC RX12 cX12_house 3 (some .int) 30 ad cy D mE p s m args meth c) {x1 : Int32} {I : MI} {J : MJ} {H : Heap} {locs : List Loc} {ls : Array Slot} (h : lpx (P_X12_house_43 Q) (x1, I, J)) (hw : gH (mS ad cy) 30 ad D s I J H locs) (hl : lv_has ls 3 [(0, .ref (ad 0)), (1, .int x1)]) : W p l e rmX12_house s m args below meth c H locs 0 0 (MQ below (gQi (mS ad cy) 30 ad cy D mE Q) args s 0 0 (gA 30 ad)) (F0 m 43 ls []) := by
  obtain ⟨n, h⟩ := h
  induction n generalizing x1 I J H locs ls with
  | zero => exact False.elim h
  | succ n ih => exact w_X12_house_43 C  (fun hk9 hw9 hl9 => ih hw9 hl9 hk9) h hw hl
set_option maxHeartbeats 4000000 in
set_option maxRecDepth 100000 in
theorem w_X12_house_22 {Q : Int32 → MI → MJ → Prop} (C : gC RX12 cX12_house 3 (some .int) 30 ad cy D mE p s m args meth c) {kL22 : Int32 × MI × MJ → Prop} (hL22 : ∀ {x1 : Int32} {I : MI} {J : MJ} {H : Heap} {locs : List Loc} {ls : Array Slot}, kL22 (x1, I, J) → gH (mS ad cy) 30 ad D s I J H locs → lv_has ls 3 [(0, .ref (ad 0)), (1, .int x1)] → W p l e rmX12_house s m args below meth c H locs 0 0 (MQ below (gQi (mS ad cy) 30 ad cy D mE Q) args s 0 0 (gA 30 ad)) (F0 m 22 ls [])) {x1 : Int32} {I : MI} {J : MJ} {H : Heap} {locs : List Loc} {ls : Array Slot} (h : P_X12_house_22 Q kL22 (x1, I, J)) (hw : gH (mS ad cy) 30 ad D s I J H locs) (hl : lv_has ls 3 [(0, .ref (ad 0)), (1, .int x1)]) : W p l e rmX12_house s m args below meth c H locs 0 0 (MQ below (gQi (mS ad cy) 30 ad cy D mE Q) args s 0 0 (gA 30 ad)) (F0 m 22 ls []) := by
  obtain ⟨hx, hb, hC⟩ := id C
  refine lv_iload_n hx hb dX12_house_22 rfl (lv_at hl 1 rfl) ?_
  refine lv_bipush (v := 80) hx hb dX12_house_23 (by decide) ?_
  refine lv_icmp_ge (tgt := 41) hx hb dX12_house_25 (by decide) (fun c25 => ?_) (fun c25 => ?_)
  · have h := h.1 c25
    refine lv_iconst (v := 0) hx hb dX12_house_41 (by decide) ?_
    refine lv_istore_n (lv' := [(1, .int (0 : Int32)), (0, .ref (ad 0))]) hx hb dX12_house_42 rfl hl (by decide) rfl (fun ls hl => ?_)
    exact wl_X12_house_43 C  h hw (lv_sub hl [1, 0] rfl)
  · have h := h.2 c25
    refine lv_aload_n hx hb dX12_house_28 rfl (lv_at hl 0 rfl) ?_
    refine g_get C hw f_RX12_22 ml_0 (ms_0 _ _) rfl dX12_house_29 ?_
    refine lv_iload_n hx hb dX12_house_32 rfl (lv_at hl 1 rfl) ?_
    refine lv_iconst (v := 0) hx hb dX12_house_33 (by decide) ?_
    refine g_iast C hw ml_5 ms_5 h.1 dX12_house_34 (fun H locs hw => ?_)
    have h := h.2
    obtain ⟨I34, e34⟩ : ∃ z : MI, z = mI I 5 x1.toNatClampNeg (0 : Int32) := ⟨_, rfl⟩
    have h := h I34 e34
    rw [← e34] at hw
    refine lv_iinc (v := x1 + 1) (lv' := [(1, .int (x1 + 1)), (0, .ref (ad 0))]) hx hb dX12_house_35 hl (k := 1) rfl rfl (by decide) rfl (fun ls hl => ?_)
    refine lv_goto (tgt := 22) hx hb dX12_house_38 (by decide) ?_
    exact hL22 h hw (lv_sub hl [1, 0] rfl)
theorem wl_X12_house_22 {Q : Int32 → MI → MJ → Prop} (C : gC RX12 cX12_house 3 (some .int) 30 ad cy D mE p s m args meth c) {x1 : Int32} {I : MI} {J : MJ} {H : Heap} {locs : List Loc} {ls : Array Slot} (h : lpx (P_X12_house_22 Q) (x1, I, J)) (hw : gH (mS ad cy) 30 ad D s I J H locs) (hl : lv_has ls 3 [(0, .ref (ad 0)), (1, .int x1)]) : W p l e rmX12_house s m args below meth c H locs 0 0 (MQ below (gQi (mS ad cy) 30 ad cy D mE Q) args s 0 0 (gA 30 ad)) (F0 m 22 ls []) := by
  obtain ⟨n, h⟩ := h
  induction n generalizing x1 I J H locs ls with
  | zero => exact False.elim h
  | succ n ih => exact w_X12_house_22 C  (fun hk9 hw9 hl9 => ih hw9 hl9 hk9) h hw hl
set_option maxHeartbeats 4000000 in
set_option maxRecDepth 100000 in
theorem w_X12_house {Q : Int32 → MI → MJ → Prop} (C : gC RX12 cX12_house 3 (some .int) 30 ad cy D mE p s m args meth c) {I : MI} {J : MJ} {H : Heap} {locs : List Loc} {ls : Array Slot} (h : P_X12_house I J Q) (hw : gH (mS ad cy) 30 ad D s I J H locs) (hl : lv_has ls 3 [(0, .ref (ad 0))]) : W p l e rmX12_house s m args below meth c H locs 0 0 (MQ below (gQi (mS ad cy) 30 ad cy D mE Q) args s 0 0 (gA 30 ad)) (F0 m 0 ls []) := by
  obtain ⟨hx, hb, hC⟩ := id C
  refine lv_aload_n hx hb dX12_house_0 rfl (lv_at hl 0 rfl) ?_
  refine g_ci hw (g_rV [] [] C hw (m_X12_readText h) k_X12_readText q_RX12_174 ml_0 (ms_0 _ _) rfl rfl hl.1 rfl (Nat.le_of_ble_eq_true rfl) ⟨⟨rfl, rfl⟩, Nat.le_of_ble_eq_true rfl, Nat.le_of_ble_eq_true rfl⟩ ⟨Nat.zero_le _, Nat.zero_le _⟩ dX12_house_1) (fun r1 I1 J1 H locs h hw => ?_)
  refine lv_bipush (v := -9) hx hb dX12_house_4 (by decide) ?_
  refine lv_icmp_eq (tgt := 12) hx hb dX12_house_6 (by decide) (fun c6 => ?_) (fun c6 => ?_)
  · have h := h.1 c6
    refine lv_aload_n hx hb dX12_house_12 rfl (lv_at hl 0 rfl) ?_
    refine lv_aload_n hx hb dX12_house_13 rfl (lv_at hl 0 rfl) ?_
    refine g_get C hw f_RX12_126 ml_0 (ms_0 _ _) rfl dX12_house_14 ?_
    refine g_putI C hw fp_RX12_103 ml_0 ms_0 (st_11_2 ad _) (Nat.le_of_ble_eq_true rfl) rfl rfl dX12_house_17 (fun H locs hw => ?_)
    obtain ⟨I17, e17⟩ : ∃ z : MI, z = mI I1 0 2 (I1 0 21) := ⟨_, rfl⟩
    have h := h I17 e17
    rw [← e17] at hw
    refine lv_iconst (v := 0) hx hb dX12_house_20 (by decide) ?_
    refine lv_istore_n (lv' := [(1, .int (0 : Int32)), (0, .ref (ad 0))]) hx hb dX12_house_21 rfl hl (by decide) rfl (fun ls hl => ?_)
    exact wl_X12_house_22 C  h hw (lv_sub hl [1, 0] rfl)
  · have h := h.2 c6
    refine lv_bipush (v := -3) hx hb dX12_house_9 (by decide) ?_
    exact g_iret C hw h dX12_house_11
theorem m_X12_house {l : Launch} {Q : Int32 → MI → MJ → Prop} {I : MI} {J : MJ} (h : P_X12_house I J Q) : Met l yX12_house (xws yX12_house cX12_house 3 (some .int)) rmX12_house (va_Pc [.ref (ad 0)] (gB (mS ad cy) 30 ad cy D mE I J)) (gQi (mS ad cy) 30 ad cy D mE Q) 0 0 (gA 30 ad) :=
  g_met (mE_ok ad) rfl (by decide) (Nat.le_of_ble_eq_true rfl) (fun p e s m below meth c ls C hw hl => w_X12_house C  h hw hl)
/-! BagPhrasesModel.look([I)V -/
def P_X12_look_216 (w0 : Nat) (Q : MI → MJ → Prop) (kL69 : Int32 × MI × MJ → Prop) (kL154 : Int32 × Int32 × MI × MJ → Prop) (kL168 : Int32 × Int32 × Int32 × Int32 × MI × MJ → Prop) (x2 : Int32) (x3 : Int32) (x5 : Int32) (s0 : Int32) (I : MI) (J : MJ) : Prop :=
  kL168 (x2, x3, s0, (x5 + 1), I, J)
def P_X12_look_215 (w0 : Nat) (Q : MI → MJ → Prop) (kL69 : Int32 × MI × MJ → Prop) (kL154 : Int32 × Int32 × MI × MJ → Prop) (kL168 : Int32 × Int32 × Int32 × Int32 × MI × MJ → Prop) (x2 : Int32) (x3 : Int32) (x5 : Int32) (I : MI) (J : MJ) : Prop :=
  P_X12_look_216 w0 Q kL69 kL154 kL168 x2 x3 x5 (0 : Int32) I J
def P_X12_look_168 (w0 : Nat) (Q : MI → MJ → Prop) (kL69 : Int32 × MI × MJ → Prop) (kL154 : Int32 × Int32 × MI × MJ → Prop) (kL168 : Int32 × Int32 × Int32 × Int32 × MI × MJ → Prop) : Int32 × Int32 × Int32 × Int32 × MI × MJ → Prop := fun z => match z with
  | (x2, x3, x4, x5, I, J) => (((8 : Int32) ≤ x5 → vp_in (((10 : Int32) * x3) + x2) 19440 ∧ (∀ I236 : MI, I236 = mI I 26 (((10 : Int32) * x3) + x2).toNatClampNeg (vp_nar .boolean x4) → kL154 (x2, (x3 + 1), I236, J))) ∧ (¬ (8 : Int32) ≤ x5 → ((x4 = 0 → P_X12_look_215 w0 Q kL69 kL154 kL168 x2 x3 x5 I J) ∧ (¬ x4 = 0 → vp_in x5 9 ∧ (¬ (I 20 x5.toNatClampNeg) = 0 ∧ (vp_in x5 25 ∧ (¬ ((I w0 x5.toNatClampNeg) + (1 : Int32)) = 0 ∧ (vp_in (((8 : Int32) * x2) + x5) 80 ∧ (((((x3 / (I 20 x5.toNatClampNeg)) - (x3 / (I 20 x5.toNatClampNeg)) / ((I w0 x5.toNatClampNeg) + (1 : Int32)) * ((I w0 x5.toNatClampNeg) + (1 : Int32))) < (I 5 (((8 : Int32) * x2) + x5).toNatClampNeg) → P_X12_look_215 w0 Q kL69 kL154 kL168 x2 x3 x5 I J) ∧ (¬ ((x3 / (I 20 x5.toNatClampNeg)) - (x3 / (I 20 x5.toNatClampNeg)) / ((I w0 x5.toNatClampNeg) + (1 : Int32)) * ((I w0 x5.toNatClampNeg) + (1 : Int32))) < (I 5 (((8 : Int32) * x2) + x5).toNatClampNeg) → P_X12_look_216 w0 Q kL69 kL154 kL168 x2 x3 x5 (1 : Int32) I J)))))))))))
def P_X12_look_154 (w0 : Nat) (Q : MI → MJ → Prop) (kL69 : Int32 × MI × MJ → Prop) (kL154 : Int32 × Int32 × MI × MJ → Prop) : Int32 × Int32 × MI × MJ → Prop := fun z => match z with
  | (x2, x3, I, J) => (((I 0 31) < x3 → kL69 ((x2 + 1), I, J)) ∧ (¬ (I 0 31) < x3 → lpx (P_X12_look_168 w0 Q kL69 kL154) (x2, x3, (1 : Int32), (0 : Int32), I, J)))
def P_X12_look_113 (w0 : Nat) (Q : MI → MJ → Prop) (kL69 : Int32 × MI × MJ → Prop) (kL113 : Int32 × Int32 × MI × MJ → Prop) : Int32 × Int32 × MI × MJ → Prop := fun z => match z with
  | (x2, x3, I, J) => (((8 : Int32) ≤ x3 → lpx (P_X12_look_154 w0 Q kL69) (x2, (0 : Int32), I, J)) ∧ (¬ (8 : Int32) ≤ x3 → vp_in x2 10 ∧ (vp_in x3 9 ∧ (vp_in (((8 : Int32) * x2) + x3) 80 ∧ (vp_in x2 10 ∧ (∀ I145 : MI, I145 = mI I 21 x2.toNatClampNeg ((I 21 x2.toNatClampNeg) + ((I 20 x3.toNatClampNeg) * (I 5 (((8 : Int32) * x2) + x3).toNatClampNeg))) → kL113 (x2, (x3 + 1), I145, J)))))))
def P_X12_look_100 (w0 : Nat) (Q : MI → MJ → Prop) (kL69 : Int32 × MI × MJ → Prop) (x2 : Int32) (s1 : Int32) (s2 : Int32) (I : MI) (J : MJ) : Prop :=
  (∀ I101 : MI, I101 = mI I 0 32 (s1 ||| s2) → vp_in x2 10 ∧ (∀ I110 : MI, I110 = mI I101 21 x2.toNatClampNeg (0 : Int32) → lpx (P_X12_look_113 w0 Q kL69) (x2, (0 : Int32), I110, J)))
def P_X12_look_69 (w0 : Nat) (Q : MI → MJ → Prop) (kL69 : Int32 × MI × MJ → Prop) : Int32 × MI × MJ → Prop := fun z => match z with
  | (x2, I, J) => (((I 0 2) ≤ x2 → Q I J) ∧ (¬ (I 0 2) ≤ x2 → vp_in (8 : Int32) 25 ∧ (P_X12_has (I w0 (8 : Int32).toNatClampNeg) x2 I J (fun r87 I87 J87 => ((r87 = 0 → P_X12_look_100 w0 Q kL69 x2 (I 0 32) ((1 : Int32) <<< (x2 &&& 31)) I87 J87) ∧ (¬ r87 = 0 → P_X12_look_100 w0 Q kL69 x2 (I 0 32) (0 : Int32) I87 J87))))))
def P_X12_look_17 (w0 : Nat) (Q : MI → MJ → Prop) (kL17 : Int32 × MI × MJ → Prop) : Int32 × MI × MJ → Prop := fun z => match z with
  | (x2, I, J) => (((8 : Int32) ≤ x2 → vp_in (8 : Int32) 9 ∧ ((∀ I59 : MI, I59 = mI I 0 31 ((I 20 (8 : Int32).toNatClampNeg) - (1 : Int32)) → (∀ I64 : MI, I64 = mI I59 0 32 (0 : Int32) → lpx (P_X12_look_69 w0 Q) ((0 : Int32), I64, J))))) ∧ (¬ (8 : Int32) ≤ x2 → vp_in x2 9 ∧ (vp_in x2 25 ∧ (vp_in (x2 + (1 : Int32)) 9 ∧ (∀ I42 : MI, I42 = mI I 20 (x2 + (1 : Int32)).toNatClampNeg ((I 20 x2.toNatClampNeg) * ((I w0 x2.toNatClampNeg) + (1 : Int32))) → kL17 ((x2 + 1), I42, J))))))
def P_X12_look (w0 : Nat) (I : MI) (J : MJ) (Q : MI → MJ → Prop) : Prop :=
  P_X12_copy w0 19 I J (fun I5 J5 => vp_in (0 : Int32) 9 ∧ (∀ I14 : MI, I14 = mI I5 20 (0 : Int32).toNatClampNeg (1 : Int32) → lpx (P_X12_look_17 w0 Q) ((0 : Int32), I14, J5)))
abbrev rmX12_look : Room := { frames := 1, cells := 0, slots := 0, locals := 22 }
set_option maxHeartbeats 4000000 in
set_option maxRecDepth 100000 in
theorem w_X12_look_216 {Q : MI → MJ → Prop} (C : gC RX12 cX12_look 6 none 30 ad cy D mE p s m args meth c) {w0 : Nat} (hw0 : isRow w0) {kL69 : Int32 × MI × MJ → Prop} (hL69 : ∀ {x2 : Int32} {I : MI} {J : MJ} {H : Heap} {locs : List Loc} {ls : Array Slot}, kL69 (x2, I, J) → gH (mS ad cy) 30 ad D s I J H locs → lv_has ls 6 [(0, .ref (ad 0)), (1, .ref (ad w0)), (2, .int x2)] → W p l e rmX12_look s m args below meth c H locs 0 0 (MQ below (gQv (mS ad cy) 30 ad cy D mE Q) args s 0 0 (gA 30 ad)) (F0 m 69 ls [])) {kL154 : Int32 × Int32 × MI × MJ → Prop} (hL154 : ∀ {x2 : Int32} {x3 : Int32} {I : MI} {J : MJ} {H : Heap} {locs : List Loc} {ls : Array Slot}, kL154 (x2, x3, I, J) → gH (mS ad cy) 30 ad D s I J H locs → lv_has ls 6 [(0, .ref (ad 0)), (1, .ref (ad w0)), (2, .int x2), (3, .int x3)] → W p l e rmX12_look s m args below meth c H locs 0 0 (MQ below (gQv (mS ad cy) 30 ad cy D mE Q) args s 0 0 (gA 30 ad)) (F0 m 154 ls [])) {kL168 : Int32 × Int32 × Int32 × Int32 × MI × MJ → Prop} (hL168 : ∀ {x2 : Int32} {x3 : Int32} {x4 : Int32} {x5 : Int32} {I : MI} {J : MJ} {H : Heap} {locs : List Loc} {ls : Array Slot}, kL168 (x2, x3, x4, x5, I, J) → gH (mS ad cy) 30 ad D s I J H locs → lv_has ls 6 [(0, .ref (ad 0)), (1, .ref (ad w0)), (2, .int x2), (3, .int x3), (4, .int x4), (5, .int x5)] → W p l e rmX12_look s m args below meth c H locs 0 0 (MQ below (gQv (mS ad cy) 30 ad cy D mE Q) args s 0 0 (gA 30 ad)) (F0 m 168 ls [])) {x2 : Int32} {x3 : Int32} {x5 : Int32} {s0 : Int32} {I : MI} {J : MJ} {H : Heap} {locs : List Loc} {ls : Array Slot} (h : P_X12_look_216 w0 Q kL69 kL154 kL168 x2 x3 x5 s0 I J) (hw : gH (mS ad cy) 30 ad D s I J H locs) (hl : lv_has ls 6 [(0, .ref (ad 0)), (1, .ref (ad w0)), (2, .int x2), (3, .int x3), (5, .int x5)]) : W p l e rmX12_look s m args below meth c H locs 0 0 (MQ below (gQv (mS ad cy) 30 ad cy D mE Q) args s 0 0 (gA 30 ad)) (F0 m 216 ls [.int s0]) := by
  obtain ⟨hx, hb, hC⟩ := id C
  refine lv_istore (lv' := [(4, .int s0), (0, .ref (ad 0)), (1, .ref (ad w0)), (2, .int x2), (3, .int x3), (5, .int x5)]) hx hb dX12_look_216 hl (by decide) rfl (fun ls hl => ?_)
  refine lv_iinc (v := x5 + 1) (lv' := [(5, .int (x5 + 1)), (4, .int s0), (0, .ref (ad 0)), (1, .ref (ad w0)), (2, .int x2), (3, .int x3)]) hx hb dX12_look_218 hl (k := 5) rfl rfl (by decide) rfl (fun ls hl => ?_)
  refine lv_goto (tgt := 168) hx hb dX12_look_221 (by decide) ?_
  exact hL168 h hw (lv_sub hl [2, 3, 4, 5, 1, 0] rfl)
set_option maxHeartbeats 4000000 in
set_option maxRecDepth 100000 in
theorem w_X12_look_215 {Q : MI → MJ → Prop} (C : gC RX12 cX12_look 6 none 30 ad cy D mE p s m args meth c) {w0 : Nat} (hw0 : isRow w0) {kL69 : Int32 × MI × MJ → Prop} (hL69 : ∀ {x2 : Int32} {I : MI} {J : MJ} {H : Heap} {locs : List Loc} {ls : Array Slot}, kL69 (x2, I, J) → gH (mS ad cy) 30 ad D s I J H locs → lv_has ls 6 [(0, .ref (ad 0)), (1, .ref (ad w0)), (2, .int x2)] → W p l e rmX12_look s m args below meth c H locs 0 0 (MQ below (gQv (mS ad cy) 30 ad cy D mE Q) args s 0 0 (gA 30 ad)) (F0 m 69 ls [])) {kL154 : Int32 × Int32 × MI × MJ → Prop} (hL154 : ∀ {x2 : Int32} {x3 : Int32} {I : MI} {J : MJ} {H : Heap} {locs : List Loc} {ls : Array Slot}, kL154 (x2, x3, I, J) → gH (mS ad cy) 30 ad D s I J H locs → lv_has ls 6 [(0, .ref (ad 0)), (1, .ref (ad w0)), (2, .int x2), (3, .int x3)] → W p l e rmX12_look s m args below meth c H locs 0 0 (MQ below (gQv (mS ad cy) 30 ad cy D mE Q) args s 0 0 (gA 30 ad)) (F0 m 154 ls [])) {kL168 : Int32 × Int32 × Int32 × Int32 × MI × MJ → Prop} (hL168 : ∀ {x2 : Int32} {x3 : Int32} {x4 : Int32} {x5 : Int32} {I : MI} {J : MJ} {H : Heap} {locs : List Loc} {ls : Array Slot}, kL168 (x2, x3, x4, x5, I, J) → gH (mS ad cy) 30 ad D s I J H locs → lv_has ls 6 [(0, .ref (ad 0)), (1, .ref (ad w0)), (2, .int x2), (3, .int x3), (4, .int x4), (5, .int x5)] → W p l e rmX12_look s m args below meth c H locs 0 0 (MQ below (gQv (mS ad cy) 30 ad cy D mE Q) args s 0 0 (gA 30 ad)) (F0 m 168 ls [])) {x2 : Int32} {x3 : Int32} {x5 : Int32} {I : MI} {J : MJ} {H : Heap} {locs : List Loc} {ls : Array Slot} (h : P_X12_look_215 w0 Q kL69 kL154 kL168 x2 x3 x5 I J) (hw : gH (mS ad cy) 30 ad D s I J H locs) (hl : lv_has ls 6 [(0, .ref (ad 0)), (1, .ref (ad w0)), (2, .int x2), (3, .int x3), (5, .int x5)]) : W p l e rmX12_look s m args below meth c H locs 0 0 (MQ below (gQv (mS ad cy) 30 ad cy D mE Q) args s 0 0 (gA 30 ad)) (F0 m 215 ls []) := by
  obtain ⟨hx, hb, hC⟩ := id C
  refine lv_iconst (v := 0) hx hb dX12_look_215 (by decide) ?_
  exact w_X12_look_216 C hw0 hL69 hL154 hL168 h hw (lv_sub hl [0, 1, 2, 3, 4] rfl)
set_option maxHeartbeats 4000000 in
set_option maxRecDepth 100000 in
theorem w_X12_look_168 {Q : MI → MJ → Prop} (C : gC RX12 cX12_look 6 none 30 ad cy D mE p s m args meth c) {w0 : Nat} (hw0 : isRow w0) {kL69 : Int32 × MI × MJ → Prop} (hL69 : ∀ {x2 : Int32} {I : MI} {J : MJ} {H : Heap} {locs : List Loc} {ls : Array Slot}, kL69 (x2, I, J) → gH (mS ad cy) 30 ad D s I J H locs → lv_has ls 6 [(0, .ref (ad 0)), (1, .ref (ad w0)), (2, .int x2)] → W p l e rmX12_look s m args below meth c H locs 0 0 (MQ below (gQv (mS ad cy) 30 ad cy D mE Q) args s 0 0 (gA 30 ad)) (F0 m 69 ls [])) {kL154 : Int32 × Int32 × MI × MJ → Prop} (hL154 : ∀ {x2 : Int32} {x3 : Int32} {I : MI} {J : MJ} {H : Heap} {locs : List Loc} {ls : Array Slot}, kL154 (x2, x3, I, J) → gH (mS ad cy) 30 ad D s I J H locs → lv_has ls 6 [(0, .ref (ad 0)), (1, .ref (ad w0)), (2, .int x2), (3, .int x3)] → W p l e rmX12_look s m args below meth c H locs 0 0 (MQ below (gQv (mS ad cy) 30 ad cy D mE Q) args s 0 0 (gA 30 ad)) (F0 m 154 ls [])) {kL168 : Int32 × Int32 × Int32 × Int32 × MI × MJ → Prop} (hL168 : ∀ {x2 : Int32} {x3 : Int32} {x4 : Int32} {x5 : Int32} {I : MI} {J : MJ} {H : Heap} {locs : List Loc} {ls : Array Slot}, kL168 (x2, x3, x4, x5, I, J) → gH (mS ad cy) 30 ad D s I J H locs → lv_has ls 6 [(0, .ref (ad 0)), (1, .ref (ad w0)), (2, .int x2), (3, .int x3), (4, .int x4), (5, .int x5)] → W p l e rmX12_look s m args below meth c H locs 0 0 (MQ below (gQv (mS ad cy) 30 ad cy D mE Q) args s 0 0 (gA 30 ad)) (F0 m 168 ls [])) {x2 : Int32} {x3 : Int32} {x4 : Int32} {x5 : Int32} {I : MI} {J : MJ} {H : Heap} {locs : List Loc} {ls : Array Slot} (h : P_X12_look_168 w0 Q kL69 kL154 kL168 (x2, x3, x4, x5, I, J)) (hw : gH (mS ad cy) 30 ad D s I J H locs) (hl : lv_has ls 6 [(0, .ref (ad 0)), (1, .ref (ad w0)), (2, .int x2), (3, .int x3), (4, .int x4), (5, .int x5)]) : W p l e rmX12_look s m args below meth c H locs 0 0 (MQ below (gQv (mS ad cy) 30 ad cy D mE Q) args s 0 0 (gA 30 ad)) (F0 m 168 ls []) := by
  obtain ⟨hx, hb, hC⟩ := id C
  refine lv_iload hx hb dX12_look_168 (lv_at hl 5 rfl) ?_
  refine lv_bipush (v := 8) hx hb dX12_look_170 (by decide) ?_
  refine lv_icmp_ge (tgt := 224) hx hb dX12_look_172 (by decide) (fun c172 => ?_) (fun c172 => ?_)
  · have h := h.1 c172
    refine lv_aload_n hx hb dX12_look_224 rfl (lv_at hl 0 rfl) ?_
    refine g_get C hw f_RX12_87 ml_0 (ms_0 _ _) rfl dX12_look_225 ?_
    refine lv_bipush (v := 10) hx hb dX12_look_228 (by decide) ?_
    refine lv_iload_n hx hb dX12_look_230 rfl (lv_at hl 3 rfl) ?_
    refine lv_imul hx hb dX12_look_231 ?_
    refine lv_iload_n hx hb dX12_look_232 rfl (lv_at hl 2 rfl) ?_
    refine lv_iadd hx hb dX12_look_233 ?_
    refine lv_iload hx hb dX12_look_234 (lv_at hl 4 rfl) ?_
    refine g_zast C hw ml_26 ms_26 h.1 dX12_look_236 (fun H locs hw => ?_)
    have h := h.2
    obtain ⟨I236, e236⟩ : ∃ z : MI, z = mI I 26 (((10 : Int32) * x3) + x2).toNatClampNeg (vp_nar .boolean x4) := ⟨_, rfl⟩
    have h := h I236 e236
    rw [← e236] at hw
    refine lv_iinc (v := x3 + 1) (lv' := [(3, .int (x3 + 1)), (0, .ref (ad 0)), (1, .ref (ad w0)), (2, .int x2), (4, .int x4), (5, .int x5)]) hx hb dX12_look_237 hl (k := 3) rfl rfl (by decide) rfl (fun ls hl => ?_)
    refine lv_goto (tgt := 154) hx hb dX12_look_240 (by decide) ?_
    exact hL154 h hw (lv_sub hl [1, 2, 3, 0] rfl)
  · have h := h.2 c172
    refine lv_iload hx hb dX12_look_175 (lv_at hl 4 rfl) ?_
    refine lv_if_eq (tgt := 215) hx hb dX12_look_177 (by decide) (fun c177 => ?_) (fun c177 => ?_)
    · have h := h.1 c177
      exact w_X12_look_215 C hw0 hL69 hL154 hL168 h hw (lv_sub hl [0, 1, 2, 3, 5] rfl)
    · have h := h.2 c177
      refine lv_iload_n hx hb dX12_look_180 rfl (lv_at hl 3 rfl) ?_
      refine lv_aload_n hx hb dX12_look_181 rfl (lv_at hl 0 rfl) ?_
      refine g_get C hw f_RX12_68 ml_0 (ms_0 _ _) rfl dX12_look_182 ?_
      refine lv_iload hx hb dX12_look_185 (lv_at hl 5 rfl) ?_
      refine g_iald C hw ml_20 ms_20 h.1 dX12_look_187 ?_
      have h := h.2
      refine lv_idiv hx hb dX12_look_188 h.1 ?_
      have h := h.2
      refine lv_aload_n hx hb dX12_look_189 rfl (lv_at hl 1 rfl) ?_
      refine lv_iload hx hb dX12_look_190 (lv_at hl 5 rfl) ?_
      refine g_iald C hw (ml_Row0 hw0) (ms_Row0 hw0) h.1 dX12_look_192 ?_
      have h := h.2
      refine lv_iconst (v := 1) hx hb dX12_look_193 (by decide) ?_
      refine lv_iadd hx hb dX12_look_194 ?_
      refine lv_irem hx hb dX12_look_195 h.1 ?_
      have h := h.2
      refine lv_aload_n hx hb dX12_look_196 rfl (lv_at hl 0 rfl) ?_
      refine g_get C hw f_RX12_22 ml_0 (ms_0 _ _) rfl dX12_look_197 ?_
      refine lv_bipush (v := 8) hx hb dX12_look_200 (by decide) ?_
      refine lv_iload_n hx hb dX12_look_202 rfl (lv_at hl 2 rfl) ?_
      refine lv_imul hx hb dX12_look_203 ?_
      refine lv_iload hx hb dX12_look_204 (lv_at hl 5 rfl) ?_
      refine lv_iadd hx hb dX12_look_206 ?_
      refine g_iald C hw ml_5 ms_5 h.1 dX12_look_207 ?_
      have h := h.2
      refine lv_icmp_lt (tgt := 215) hx hb dX12_look_208 (by decide) (fun c208 => ?_) (fun c208 => ?_)
      · have h := h.1 c208
        exact w_X12_look_215 C hw0 hL69 hL154 hL168 h hw (lv_sub hl [0, 1, 2, 3, 5] rfl)
      · have h := h.2 c208
        refine lv_iconst (v := 1) hx hb dX12_look_211 (by decide) ?_
        refine lv_goto (tgt := 216) hx hb dX12_look_212 (by decide) ?_
        exact w_X12_look_216 C hw0 hL69 hL154 hL168 h hw (lv_sub hl [0, 1, 2, 3, 5] rfl)
theorem wl_X12_look_168 {Q : MI → MJ → Prop} (C : gC RX12 cX12_look 6 none 30 ad cy D mE p s m args meth c) {w0 : Nat} (hw0 : isRow w0) {kL69 : Int32 × MI × MJ → Prop} (hL69 : ∀ {x2 : Int32} {I : MI} {J : MJ} {H : Heap} {locs : List Loc} {ls : Array Slot}, kL69 (x2, I, J) → gH (mS ad cy) 30 ad D s I J H locs → lv_has ls 6 [(0, .ref (ad 0)), (1, .ref (ad w0)), (2, .int x2)] → W p l e rmX12_look s m args below meth c H locs 0 0 (MQ below (gQv (mS ad cy) 30 ad cy D mE Q) args s 0 0 (gA 30 ad)) (F0 m 69 ls [])) {kL154 : Int32 × Int32 × MI × MJ → Prop} (hL154 : ∀ {x2 : Int32} {x3 : Int32} {I : MI} {J : MJ} {H : Heap} {locs : List Loc} {ls : Array Slot}, kL154 (x2, x3, I, J) → gH (mS ad cy) 30 ad D s I J H locs → lv_has ls 6 [(0, .ref (ad 0)), (1, .ref (ad w0)), (2, .int x2), (3, .int x3)] → W p l e rmX12_look s m args below meth c H locs 0 0 (MQ below (gQv (mS ad cy) 30 ad cy D mE Q) args s 0 0 (gA 30 ad)) (F0 m 154 ls [])) {x2 : Int32} {x3 : Int32} {x4 : Int32} {x5 : Int32} {I : MI} {J : MJ} {H : Heap} {locs : List Loc} {ls : Array Slot} (h : lpx (P_X12_look_168 w0 Q kL69 kL154) (x2, x3, x4, x5, I, J)) (hw : gH (mS ad cy) 30 ad D s I J H locs) (hl : lv_has ls 6 [(0, .ref (ad 0)), (1, .ref (ad w0)), (2, .int x2), (3, .int x3), (4, .int x4), (5, .int x5)]) : W p l e rmX12_look s m args below meth c H locs 0 0 (MQ below (gQv (mS ad cy) 30 ad cy D mE Q) args s 0 0 (gA 30 ad)) (F0 m 168 ls []) := by
  obtain ⟨n, h⟩ := h
  induction n generalizing x2 x3 x4 x5 I J H locs ls with
  | zero => exact False.elim h
  | succ n ih => exact w_X12_look_168 C hw0 hL69 hL154 (fun hk9 hw9 hl9 => ih hw9 hl9 hk9) h hw hl
set_option maxHeartbeats 4000000 in
set_option maxRecDepth 100000 in
theorem w_X12_look_154 {Q : MI → MJ → Prop} (C : gC RX12 cX12_look 6 none 30 ad cy D mE p s m args meth c) {w0 : Nat} (hw0 : isRow w0) {kL69 : Int32 × MI × MJ → Prop} (hL69 : ∀ {x2 : Int32} {I : MI} {J : MJ} {H : Heap} {locs : List Loc} {ls : Array Slot}, kL69 (x2, I, J) → gH (mS ad cy) 30 ad D s I J H locs → lv_has ls 6 [(0, .ref (ad 0)), (1, .ref (ad w0)), (2, .int x2)] → W p l e rmX12_look s m args below meth c H locs 0 0 (MQ below (gQv (mS ad cy) 30 ad cy D mE Q) args s 0 0 (gA 30 ad)) (F0 m 69 ls [])) {kL154 : Int32 × Int32 × MI × MJ → Prop} (hL154 : ∀ {x2 : Int32} {x3 : Int32} {I : MI} {J : MJ} {H : Heap} {locs : List Loc} {ls : Array Slot}, kL154 (x2, x3, I, J) → gH (mS ad cy) 30 ad D s I J H locs → lv_has ls 6 [(0, .ref (ad 0)), (1, .ref (ad w0)), (2, .int x2), (3, .int x3)] → W p l e rmX12_look s m args below meth c H locs 0 0 (MQ below (gQv (mS ad cy) 30 ad cy D mE Q) args s 0 0 (gA 30 ad)) (F0 m 154 ls [])) {x2 : Int32} {x3 : Int32} {I : MI} {J : MJ} {H : Heap} {locs : List Loc} {ls : Array Slot} (h : P_X12_look_154 w0 Q kL69 kL154 (x2, x3, I, J)) (hw : gH (mS ad cy) 30 ad D s I J H locs) (hl : lv_has ls 6 [(0, .ref (ad 0)), (1, .ref (ad w0)), (2, .int x2), (3, .int x3)]) : W p l e rmX12_look s m args below meth c H locs 0 0 (MQ below (gQv (mS ad cy) 30 ad cy D mE Q) args s 0 0 (gA 30 ad)) (F0 m 154 ls []) := by
  obtain ⟨hx, hb, hC⟩ := id C
  refine lv_iload_n hx hb dX12_look_154 rfl (lv_at hl 3 rfl) ?_
  refine lv_aload_n hx hb dX12_look_155 rfl (lv_at hl 0 rfl) ?_
  refine g_get C hw f_RX12_188 ml_0 (ms_0 _ _) rfl dX12_look_156 ?_
  refine lv_icmp_gt (tgt := 243) hx hb dX12_look_159 (by decide) (fun c159 => ?_) (fun c159 => ?_)
  · have h := h.1 c159
    refine lv_iinc (v := x2 + 1) (lv' := [(2, .int (x2 + 1)), (0, .ref (ad 0)), (1, .ref (ad w0)), (3, .int x3)]) hx hb dX12_look_243 hl (k := 2) rfl rfl (by decide) rfl (fun ls hl => ?_)
    refine lv_goto (tgt := 69) hx hb dX12_look_246 (by decide) ?_
    exact hL69 h hw (lv_sub hl [1, 2, 0] rfl)
  · have h := h.2 c159
    refine lv_iconst (v := 1) hx hb dX12_look_162 (by decide) ?_
    refine lv_istore (lv' := [(4, .int (1 : Int32)), (0, .ref (ad 0)), (1, .ref (ad w0)), (2, .int x2), (3, .int x3)]) hx hb dX12_look_163 hl (by decide) rfl (fun ls hl => ?_)
    refine lv_iconst (v := 0) hx hb dX12_look_165 (by decide) ?_
    refine lv_istore (lv' := [(5, .int (0 : Int32)), (4, .int (1 : Int32)), (0, .ref (ad 0)), (1, .ref (ad w0)), (2, .int x2), (3, .int x3)]) hx hb dX12_look_166 hl (by decide) rfl (fun ls hl => ?_)
    exact wl_X12_look_168 C hw0 hL69 hL154 h hw (lv_sub hl [2, 3, 4, 5, 1, 0] rfl)
theorem wl_X12_look_154 {Q : MI → MJ → Prop} (C : gC RX12 cX12_look 6 none 30 ad cy D mE p s m args meth c) {w0 : Nat} (hw0 : isRow w0) {kL69 : Int32 × MI × MJ → Prop} (hL69 : ∀ {x2 : Int32} {I : MI} {J : MJ} {H : Heap} {locs : List Loc} {ls : Array Slot}, kL69 (x2, I, J) → gH (mS ad cy) 30 ad D s I J H locs → lv_has ls 6 [(0, .ref (ad 0)), (1, .ref (ad w0)), (2, .int x2)] → W p l e rmX12_look s m args below meth c H locs 0 0 (MQ below (gQv (mS ad cy) 30 ad cy D mE Q) args s 0 0 (gA 30 ad)) (F0 m 69 ls [])) {x2 : Int32} {x3 : Int32} {I : MI} {J : MJ} {H : Heap} {locs : List Loc} {ls : Array Slot} (h : lpx (P_X12_look_154 w0 Q kL69) (x2, x3, I, J)) (hw : gH (mS ad cy) 30 ad D s I J H locs) (hl : lv_has ls 6 [(0, .ref (ad 0)), (1, .ref (ad w0)), (2, .int x2), (3, .int x3)]) : W p l e rmX12_look s m args below meth c H locs 0 0 (MQ below (gQv (mS ad cy) 30 ad cy D mE Q) args s 0 0 (gA 30 ad)) (F0 m 154 ls []) := by
  obtain ⟨n, h⟩ := h
  induction n generalizing x2 x3 I J H locs ls with
  | zero => exact False.elim h
  | succ n ih => exact w_X12_look_154 C hw0 hL69 (fun hk9 hw9 hl9 => ih hw9 hl9 hk9) h hw hl
set_option maxHeartbeats 4000000 in
set_option maxRecDepth 100000 in
theorem w_X12_look_113 {Q : MI → MJ → Prop} (C : gC RX12 cX12_look 6 none 30 ad cy D mE p s m args meth c) {w0 : Nat} (hw0 : isRow w0) {kL69 : Int32 × MI × MJ → Prop} (hL69 : ∀ {x2 : Int32} {I : MI} {J : MJ} {H : Heap} {locs : List Loc} {ls : Array Slot}, kL69 (x2, I, J) → gH (mS ad cy) 30 ad D s I J H locs → lv_has ls 6 [(0, .ref (ad 0)), (1, .ref (ad w0)), (2, .int x2)] → W p l e rmX12_look s m args below meth c H locs 0 0 (MQ below (gQv (mS ad cy) 30 ad cy D mE Q) args s 0 0 (gA 30 ad)) (F0 m 69 ls [])) {kL113 : Int32 × Int32 × MI × MJ → Prop} (hL113 : ∀ {x2 : Int32} {x3 : Int32} {I : MI} {J : MJ} {H : Heap} {locs : List Loc} {ls : Array Slot}, kL113 (x2, x3, I, J) → gH (mS ad cy) 30 ad D s I J H locs → lv_has ls 6 [(0, .ref (ad 0)), (1, .ref (ad w0)), (2, .int x2), (3, .int x3)] → W p l e rmX12_look s m args below meth c H locs 0 0 (MQ below (gQv (mS ad cy) 30 ad cy D mE Q) args s 0 0 (gA 30 ad)) (F0 m 113 ls [])) {x2 : Int32} {x3 : Int32} {I : MI} {J : MJ} {H : Heap} {locs : List Loc} {ls : Array Slot} (h : P_X12_look_113 w0 Q kL69 kL113 (x2, x3, I, J)) (hw : gH (mS ad cy) 30 ad D s I J H locs) (hl : lv_has ls 6 [(0, .ref (ad 0)), (1, .ref (ad w0)), (2, .int x2), (3, .int x3)]) : W p l e rmX12_look s m args below meth c H locs 0 0 (MQ below (gQv (mS ad cy) 30 ad cy D mE Q) args s 0 0 (gA 30 ad)) (F0 m 113 ls []) := by
  obtain ⟨hx, hb, hC⟩ := id C
  refine lv_iload_n hx hb dX12_look_113 rfl (lv_at hl 3 rfl) ?_
  refine lv_bipush (v := 8) hx hb dX12_look_114 (by decide) ?_
  refine lv_icmp_ge (tgt := 152) hx hb dX12_look_116 (by decide) (fun c116 => ?_) (fun c116 => ?_)
  · have h := h.1 c116
    refine lv_iconst (v := 0) hx hb dX12_look_152 (by decide) ?_
    refine lv_istore_n (lv' := [(3, .int (0 : Int32)), (0, .ref (ad 0)), (1, .ref (ad w0)), (2, .int x2)]) hx hb dX12_look_153 rfl hl (by decide) rfl (fun ls hl => ?_)
    exact wl_X12_look_154 C hw0 hL69 h hw (lv_sub hl [1, 2, 3, 0] rfl)
  · have h := h.2 c116
    refine lv_aload_n hx hb dX12_look_119 rfl (lv_at hl 0 rfl) ?_
    refine g_get C hw f_RX12_71 ml_0 (ms_0 _ _) rfl dX12_look_120 ?_
    refine lv_iload_n hx hb dX12_look_123 rfl (lv_at hl 2 rfl) ?_
    refine lv_dup2_11 hx hb dX12_look_124 rfl rfl ?_
    refine g_iald C hw ml_21 ms_21 h.1 dX12_look_125 ?_
    have h := h.2
    refine lv_aload_n hx hb dX12_look_126 rfl (lv_at hl 0 rfl) ?_
    refine g_get C hw f_RX12_68 ml_0 (ms_0 _ _) rfl dX12_look_127 ?_
    refine lv_iload_n hx hb dX12_look_130 rfl (lv_at hl 3 rfl) ?_
    refine g_iald C hw ml_20 ms_20 h.1 dX12_look_131 ?_
    have h := h.2
    refine lv_aload_n hx hb dX12_look_132 rfl (lv_at hl 0 rfl) ?_
    refine g_get C hw f_RX12_22 ml_0 (ms_0 _ _) rfl dX12_look_133 ?_
    refine lv_bipush (v := 8) hx hb dX12_look_136 (by decide) ?_
    refine lv_iload_n hx hb dX12_look_138 rfl (lv_at hl 2 rfl) ?_
    refine lv_imul hx hb dX12_look_139 ?_
    refine lv_iload_n hx hb dX12_look_140 rfl (lv_at hl 3 rfl) ?_
    refine lv_iadd hx hb dX12_look_141 ?_
    refine g_iald C hw ml_5 ms_5 h.1 dX12_look_142 ?_
    have h := h.2
    refine lv_imul hx hb dX12_look_143 ?_
    refine lv_iadd hx hb dX12_look_144 ?_
    refine g_iast C hw ml_21 ms_21 h.1 dX12_look_145 (fun H locs hw => ?_)
    have h := h.2
    obtain ⟨I145, e145⟩ : ∃ z : MI, z = mI I 21 x2.toNatClampNeg ((I 21 x2.toNatClampNeg) + ((I 20 x3.toNatClampNeg) * (I 5 (((8 : Int32) * x2) + x3).toNatClampNeg))) := ⟨_, rfl⟩
    have h := h I145 e145
    rw [← e145] at hw
    refine lv_iinc (v := x3 + 1) (lv' := [(3, .int (x3 + 1)), (0, .ref (ad 0)), (1, .ref (ad w0)), (2, .int x2)]) hx hb dX12_look_146 hl (k := 3) rfl rfl (by decide) rfl (fun ls hl => ?_)
    refine lv_goto (tgt := 113) hx hb dX12_look_149 (by decide) ?_
    exact hL113 h hw (lv_sub hl [1, 2, 3, 0] rfl)
theorem wl_X12_look_113 {Q : MI → MJ → Prop} (C : gC RX12 cX12_look 6 none 30 ad cy D mE p s m args meth c) {w0 : Nat} (hw0 : isRow w0) {kL69 : Int32 × MI × MJ → Prop} (hL69 : ∀ {x2 : Int32} {I : MI} {J : MJ} {H : Heap} {locs : List Loc} {ls : Array Slot}, kL69 (x2, I, J) → gH (mS ad cy) 30 ad D s I J H locs → lv_has ls 6 [(0, .ref (ad 0)), (1, .ref (ad w0)), (2, .int x2)] → W p l e rmX12_look s m args below meth c H locs 0 0 (MQ below (gQv (mS ad cy) 30 ad cy D mE Q) args s 0 0 (gA 30 ad)) (F0 m 69 ls [])) {x2 : Int32} {x3 : Int32} {I : MI} {J : MJ} {H : Heap} {locs : List Loc} {ls : Array Slot} (h : lpx (P_X12_look_113 w0 Q kL69) (x2, x3, I, J)) (hw : gH (mS ad cy) 30 ad D s I J H locs) (hl : lv_has ls 6 [(0, .ref (ad 0)), (1, .ref (ad w0)), (2, .int x2), (3, .int x3)]) : W p l e rmX12_look s m args below meth c H locs 0 0 (MQ below (gQv (mS ad cy) 30 ad cy D mE Q) args s 0 0 (gA 30 ad)) (F0 m 113 ls []) := by
  obtain ⟨n, h⟩ := h
  induction n generalizing x2 x3 I J H locs ls with
  | zero => exact False.elim h
  | succ n ih => exact w_X12_look_113 C hw0 hL69 (fun hk9 hw9 hl9 => ih hw9 hl9 hk9) h hw hl
set_option maxHeartbeats 4000000 in
set_option maxRecDepth 100000 in
theorem w_X12_look_100 {Q : MI → MJ → Prop} (C : gC RX12 cX12_look 6 none 30 ad cy D mE p s m args meth c) {w0 : Nat} (hw0 : isRow w0) {kL69 : Int32 × MI × MJ → Prop} (hL69 : ∀ {x2 : Int32} {I : MI} {J : MJ} {H : Heap} {locs : List Loc} {ls : Array Slot}, kL69 (x2, I, J) → gH (mS ad cy) 30 ad D s I J H locs → lv_has ls 6 [(0, .ref (ad 0)), (1, .ref (ad w0)), (2, .int x2)] → W p l e rmX12_look s m args below meth c H locs 0 0 (MQ below (gQv (mS ad cy) 30 ad cy D mE Q) args s 0 0 (gA 30 ad)) (F0 m 69 ls [])) {x2 : Int32} {s1 : Int32} {s2 : Int32} {I : MI} {J : MJ} {H : Heap} {locs : List Loc} {ls : Array Slot} (h : P_X12_look_100 w0 Q kL69 x2 s1 s2 I J) (hw : gH (mS ad cy) 30 ad D s I J H locs) (hl : lv_has ls 6 [(0, .ref (ad 0)), (1, .ref (ad w0)), (2, .int x2)]) : W p l e rmX12_look s m args below meth c H locs 0 0 (MQ below (gQv (mS ad cy) 30 ad cy D mE Q) args s 0 0 (gA 30 ad)) (F0 m 100 ls [.int s2, .int s1, .ref (ad 0)]) := by
  obtain ⟨hx, hb, hC⟩ := id C
  refine lv_ior hx hb dX12_look_100 ?_
  refine g_putI C hw fp_RX12_191 ml_0 ms_0 (st_11_32 ad _) (Nat.le_of_ble_eq_true rfl) rfl rfl dX12_look_101 (fun H locs hw => ?_)
  obtain ⟨I101, e101⟩ : ∃ z : MI, z = mI I 0 32 (s1 ||| s2) := ⟨_, rfl⟩
  have h := h I101 e101
  rw [← e101] at hw
  refine lv_aload_n hx hb dX12_look_104 rfl (lv_at hl 0 rfl) ?_
  refine g_get C hw f_RX12_71 ml_0 (ms_0 _ _) rfl dX12_look_105 ?_
  refine lv_iload_n hx hb dX12_look_108 rfl (lv_at hl 2 rfl) ?_
  refine lv_iconst (v := 0) hx hb dX12_look_109 (by decide) ?_
  refine g_iast C hw ml_21 ms_21 h.1 dX12_look_110 (fun H locs hw => ?_)
  have h := h.2
  obtain ⟨I110, e110⟩ : ∃ z : MI, z = mI I101 21 x2.toNatClampNeg (0 : Int32) := ⟨_, rfl⟩
  have h := h I110 e110
  rw [← e110] at hw
  refine lv_iconst (v := 0) hx hb dX12_look_111 (by decide) ?_
  refine lv_istore_n (lv' := [(3, .int (0 : Int32)), (0, .ref (ad 0)), (1, .ref (ad w0)), (2, .int x2)]) hx hb dX12_look_112 rfl hl (by decide) rfl (fun ls hl => ?_)
  exact wl_X12_look_113 C hw0 hL69 h hw (lv_sub hl [1, 2, 3, 0] rfl)
set_option maxHeartbeats 4000000 in
set_option maxRecDepth 100000 in
theorem w_X12_look_69 {Q : MI → MJ → Prop} (C : gC RX12 cX12_look 6 none 30 ad cy D mE p s m args meth c) {w0 : Nat} (hw0 : isRow w0) {kL69 : Int32 × MI × MJ → Prop} (hL69 : ∀ {x2 : Int32} {I : MI} {J : MJ} {H : Heap} {locs : List Loc} {ls : Array Slot}, kL69 (x2, I, J) → gH (mS ad cy) 30 ad D s I J H locs → lv_has ls 6 [(0, .ref (ad 0)), (1, .ref (ad w0)), (2, .int x2)] → W p l e rmX12_look s m args below meth c H locs 0 0 (MQ below (gQv (mS ad cy) 30 ad cy D mE Q) args s 0 0 (gA 30 ad)) (F0 m 69 ls [])) {x2 : Int32} {I : MI} {J : MJ} {H : Heap} {locs : List Loc} {ls : Array Slot} (h : P_X12_look_69 w0 Q kL69 (x2, I, J)) (hw : gH (mS ad cy) 30 ad D s I J H locs) (hl : lv_has ls 6 [(0, .ref (ad 0)), (1, .ref (ad w0)), (2, .int x2)]) : W p l e rmX12_look s m args below meth c H locs 0 0 (MQ below (gQv (mS ad cy) 30 ad cy D mE Q) args s 0 0 (gA 30 ad)) (F0 m 69 ls []) := by
  obtain ⟨hx, hb, hC⟩ := id C
  refine lv_iload_n hx hb dX12_look_69 rfl (lv_at hl 2 rfl) ?_
  refine lv_aload_n hx hb dX12_look_70 rfl (lv_at hl 0 rfl) ?_
  refine g_get C hw f_RX12_103 ml_0 (ms_0 _ _) rfl dX12_look_71 ?_
  refine lv_icmp_ge (tgt := 249) hx hb dX12_look_74 (by decide) (fun c74 => ?_) (fun c74 => ?_)
  · have h := h.1 c74
    exact g_vret C hw h dX12_look_249
  · have h := h.2 c74
    refine lv_aload_n hx hb dX12_look_77 rfl (lv_at hl 0 rfl) ?_
    refine lv_dup hx hb dX12_look_78 rfl ?_
    refine g_get C hw f_RX12_191 ml_0 (ms_0 _ _) rfl dX12_look_79 ?_
    refine lv_aload_n hx hb dX12_look_82 rfl (lv_at hl 1 rfl) ?_
    refine lv_bipush (v := 8) hx hb dX12_look_83 (by decide) ?_
    refine g_iald C hw (ml_Row0 hw0) (ms_Row0 hw0) h.1 dX12_look_85 ?_
    have h := h.2
    refine lv_iload_n hx hb dX12_look_86 rfl (lv_at hl 2 rfl) ?_
    refine g_cz hw (g_rS [.int (I w0 (8 : Int32).toNatClampNeg), .int x2] [.int (I 0 32), .ref (ad 0)] C hw (m_X12_has h) k_X12_has q_RX12_149 rfl hl.1 rfl (Nat.le_of_ble_eq_true rfl) ⟨⟨rfl, rfl⟩, Nat.le_of_ble_eq_true rfl, Nat.le_of_ble_eq_true rfl⟩ ⟨Nat.zero_le _, Nat.zero_le _⟩ dX12_look_87) (fun r87 I87 J87 H locs z87 h hw => ?_)
    refine lv_if_eq (tgt := 97) hx hb dX12_look_90 (by decide) (fun c90 => ?_) (fun c90 => ?_)
    · have h := h.1 c90
      refine lv_iconst (v := 1) hx hb dX12_look_97 (by decide) ?_
      refine lv_iload_n hx hb dX12_look_98 rfl (lv_at hl 2 rfl) ?_
      refine lv_ishl hx hb dX12_look_99 ?_
      exact w_X12_look_100 C hw0 hL69 h hw (lv_sub hl [0, 1, 2] rfl)
    · have h := h.2 c90
      refine lv_iconst (v := 0) hx hb dX12_look_93 (by decide) ?_
      refine lv_goto (tgt := 100) hx hb dX12_look_94 (by decide) ?_
      exact w_X12_look_100 C hw0 hL69 h hw (lv_sub hl [0, 1, 2] rfl)
theorem wl_X12_look_69 {Q : MI → MJ → Prop} (C : gC RX12 cX12_look 6 none 30 ad cy D mE p s m args meth c) {w0 : Nat} (hw0 : isRow w0) {x2 : Int32} {I : MI} {J : MJ} {H : Heap} {locs : List Loc} {ls : Array Slot} (h : lpx (P_X12_look_69 w0 Q) (x2, I, J)) (hw : gH (mS ad cy) 30 ad D s I J H locs) (hl : lv_has ls 6 [(0, .ref (ad 0)), (1, .ref (ad w0)), (2, .int x2)]) : W p l e rmX12_look s m args below meth c H locs 0 0 (MQ below (gQv (mS ad cy) 30 ad cy D mE Q) args s 0 0 (gA 30 ad)) (F0 m 69 ls []) := by
  obtain ⟨n, h⟩ := h
  induction n generalizing x2 I J H locs ls with
  | zero => exact False.elim h
  | succ n ih => exact w_X12_look_69 C hw0 (fun hk9 hw9 hl9 => ih hw9 hl9 hk9) h hw hl
set_option maxHeartbeats 4000000 in
set_option maxRecDepth 100000 in
theorem w_X12_look_17 {Q : MI → MJ → Prop} (C : gC RX12 cX12_look 6 none 30 ad cy D mE p s m args meth c) {w0 : Nat} (hw0 : isRow w0) {kL17 : Int32 × MI × MJ → Prop} (hL17 : ∀ {x2 : Int32} {I : MI} {J : MJ} {H : Heap} {locs : List Loc} {ls : Array Slot}, kL17 (x2, I, J) → gH (mS ad cy) 30 ad D s I J H locs → lv_has ls 6 [(0, .ref (ad 0)), (1, .ref (ad w0)), (2, .int x2)] → W p l e rmX12_look s m args below meth c H locs 0 0 (MQ below (gQv (mS ad cy) 30 ad cy D mE Q) args s 0 0 (gA 30 ad)) (F0 m 17 ls [])) {x2 : Int32} {I : MI} {J : MJ} {H : Heap} {locs : List Loc} {ls : Array Slot} (h : P_X12_look_17 w0 Q kL17 (x2, I, J)) (hw : gH (mS ad cy) 30 ad D s I J H locs) (hl : lv_has ls 6 [(0, .ref (ad 0)), (1, .ref (ad w0)), (2, .int x2)]) : W p l e rmX12_look s m args below meth c H locs 0 0 (MQ below (gQv (mS ad cy) 30 ad cy D mE Q) args s 0 0 (gA 30 ad)) (F0 m 17 ls []) := by
  obtain ⟨hx, hb, hC⟩ := id C
  refine lv_iload_n hx hb dX12_look_17 rfl (lv_at hl 2 rfl) ?_
  refine lv_bipush (v := 8) hx hb dX12_look_18 (by decide) ?_
  refine lv_icmp_ge (tgt := 49) hx hb dX12_look_20 (by decide) (fun c20 => ?_) (fun c20 => ?_)
  · have h := h.1 c20
    refine lv_aload_n hx hb dX12_look_49 rfl (lv_at hl 0 rfl) ?_
    refine lv_aload_n hx hb dX12_look_50 rfl (lv_at hl 0 rfl) ?_
    refine g_get C hw f_RX12_68 ml_0 (ms_0 _ _) rfl dX12_look_51 ?_
    refine lv_bipush (v := 8) hx hb dX12_look_54 (by decide) ?_
    refine g_iald C hw ml_20 ms_20 h.1 dX12_look_56 ?_
    have h := h.2
    refine lv_iconst (v := 1) hx hb dX12_look_57 (by decide) ?_
    refine lv_isub hx hb dX12_look_58 ?_
    refine g_putI C hw fp_RX12_188 ml_0 ms_0 (st_11_31 ad _) (Nat.le_of_ble_eq_true rfl) rfl rfl dX12_look_59 (fun H locs hw => ?_)
    obtain ⟨I59, e59⟩ : ∃ z : MI, z = mI I 0 31 ((I 20 (8 : Int32).toNatClampNeg) - (1 : Int32)) := ⟨_, rfl⟩
    have h := h I59 e59
    rw [← e59] at hw
    refine lv_aload_n hx hb dX12_look_62 rfl (lv_at hl 0 rfl) ?_
    refine lv_iconst (v := 0) hx hb dX12_look_63 (by decide) ?_
    refine g_putI C hw fp_RX12_191 ml_0 ms_0 (st_11_32 ad _) (Nat.le_of_ble_eq_true rfl) rfl rfl dX12_look_64 (fun H locs hw => ?_)
    obtain ⟨I64, e64⟩ : ∃ z : MI, z = mI I59 0 32 (0 : Int32) := ⟨_, rfl⟩
    have h := h I64 e64
    rw [← e64] at hw
    refine lv_iconst (v := 0) hx hb dX12_look_67 (by decide) ?_
    refine lv_istore_n (lv' := [(2, .int (0 : Int32)), (0, .ref (ad 0)), (1, .ref (ad w0))]) hx hb dX12_look_68 rfl hl (by decide) rfl (fun ls hl => ?_)
    exact wl_X12_look_69 C hw0 h hw (lv_sub hl [1, 2, 0] rfl)
  · have h := h.2 c20
    refine lv_aload_n hx hb dX12_look_23 rfl (lv_at hl 0 rfl) ?_
    refine g_get C hw f_RX12_68 ml_0 (ms_0 _ _) rfl dX12_look_24 ?_
    refine lv_iload_n hx hb dX12_look_27 rfl (lv_at hl 2 rfl) ?_
    refine lv_iconst (v := 1) hx hb dX12_look_28 (by decide) ?_
    refine lv_iadd hx hb dX12_look_29 ?_
    refine lv_aload_n hx hb dX12_look_30 rfl (lv_at hl 0 rfl) ?_
    refine g_get C hw f_RX12_68 ml_0 (ms_0 _ _) rfl dX12_look_31 ?_
    refine lv_iload_n hx hb dX12_look_34 rfl (lv_at hl 2 rfl) ?_
    refine g_iald C hw ml_20 ms_20 h.1 dX12_look_35 ?_
    have h := h.2
    refine lv_aload_n hx hb dX12_look_36 rfl (lv_at hl 1 rfl) ?_
    refine lv_iload_n hx hb dX12_look_37 rfl (lv_at hl 2 rfl) ?_
    refine g_iald C hw (ml_Row0 hw0) (ms_Row0 hw0) h.1 dX12_look_38 ?_
    have h := h.2
    refine lv_iconst (v := 1) hx hb dX12_look_39 (by decide) ?_
    refine lv_iadd hx hb dX12_look_40 ?_
    refine lv_imul hx hb dX12_look_41 ?_
    refine g_iast C hw ml_20 ms_20 h.1 dX12_look_42 (fun H locs hw => ?_)
    have h := h.2
    obtain ⟨I42, e42⟩ : ∃ z : MI, z = mI I 20 (x2 + (1 : Int32)).toNatClampNeg ((I 20 x2.toNatClampNeg) * ((I w0 x2.toNatClampNeg) + (1 : Int32))) := ⟨_, rfl⟩
    have h := h I42 e42
    rw [← e42] at hw
    refine lv_iinc (v := x2 + 1) (lv' := [(2, .int (x2 + 1)), (0, .ref (ad 0)), (1, .ref (ad w0))]) hx hb dX12_look_43 hl (k := 2) rfl rfl (by decide) rfl (fun ls hl => ?_)
    refine lv_goto (tgt := 17) hx hb dX12_look_46 (by decide) ?_
    exact hL17 h hw (lv_sub hl [1, 2, 0] rfl)
theorem wl_X12_look_17 {Q : MI → MJ → Prop} (C : gC RX12 cX12_look 6 none 30 ad cy D mE p s m args meth c) {w0 : Nat} (hw0 : isRow w0) {x2 : Int32} {I : MI} {J : MJ} {H : Heap} {locs : List Loc} {ls : Array Slot} (h : lpx (P_X12_look_17 w0 Q) (x2, I, J)) (hw : gH (mS ad cy) 30 ad D s I J H locs) (hl : lv_has ls 6 [(0, .ref (ad 0)), (1, .ref (ad w0)), (2, .int x2)]) : W p l e rmX12_look s m args below meth c H locs 0 0 (MQ below (gQv (mS ad cy) 30 ad cy D mE Q) args s 0 0 (gA 30 ad)) (F0 m 17 ls []) := by
  obtain ⟨n, h⟩ := h
  induction n generalizing x2 I J H locs ls with
  | zero => exact False.elim h
  | succ n ih => exact w_X12_look_17 C hw0 (fun hk9 hw9 hl9 => ih hw9 hl9 hk9) h hw hl
set_option maxHeartbeats 4000000 in
set_option maxRecDepth 100000 in
theorem w_X12_look {Q : MI → MJ → Prop} (C : gC RX12 cX12_look 6 none 30 ad cy D mE p s m args meth c) {w0 : Nat} (hw0 : isRow w0) {I : MI} {J : MJ} {H : Heap} {locs : List Loc} {ls : Array Slot} (h : P_X12_look w0 I J Q) (hw : gH (mS ad cy) 30 ad D s I J H locs) (hl : lv_has ls 6 [(0, .ref (ad 0)), (1, .ref (ad w0))]) : W p l e rmX12_look s m args below meth c H locs 0 0 (MQ below (gQv (mS ad cy) 30 ad cy D mE Q) args s 0 0 (gA 30 ad)) (F0 m 0 ls []) := by
  obtain ⟨hx, hb, hC⟩ := id C
  refine lv_aload_n hx hb dX12_look_0 rfl (lv_at hl 1 rfl) ?_
  refine lv_aload_n hx hb dX12_look_1 rfl (lv_at hl 0 rfl) ?_
  refine g_get C hw f_RX12_65 ml_0 (ms_0 _ _) rfl dX12_look_2 ?_
  refine g_cv hw (g_rS [.ref (ad w0), .ref (ad 19)] [] C hw (m_X12_copy hw0 isRow_19 h) k_X12_copy q_RX12_178 rfl hl.1 rfl (Nat.le_of_ble_eq_true rfl) ⟨⟨rfl, rfl⟩, Nat.le_of_ble_eq_true rfl, Nat.le_of_ble_eq_true rfl⟩ ⟨Nat.zero_le _, Nat.zero_le _⟩ dX12_look_5) (fun I5 J5 H locs h hw => ?_)
  refine lv_aload_n hx hb dX12_look_8 rfl (lv_at hl 0 rfl) ?_
  refine g_get C hw f_RX12_68 ml_0 (ms_0 _ _) rfl dX12_look_9 ?_
  refine lv_iconst (v := 0) hx hb dX12_look_12 (by decide) ?_
  refine lv_iconst (v := 1) hx hb dX12_look_13 (by decide) ?_
  refine g_iast C hw ml_20 ms_20 h.1 dX12_look_14 (fun H locs hw => ?_)
  have h := h.2
  obtain ⟨I14, e14⟩ : ∃ z : MI, z = mI I5 20 (0 : Int32).toNatClampNeg (1 : Int32) := ⟨_, rfl⟩
  have h := h I14 e14
  rw [← e14] at hw
  refine lv_iconst (v := 0) hx hb dX12_look_15 (by decide) ?_
  refine lv_istore_n (lv' := [(2, .int (0 : Int32)), (0, .ref (ad 0)), (1, .ref (ad w0))]) hx hb dX12_look_16 rfl hl (by decide) rfl (fun ls hl => ?_)
  exact wl_X12_look_17 C hw0 h hw (lv_sub hl [1, 2, 0] rfl)
theorem m_X12_look {l : Launch} {w0 : Nat} (hw0 : isRow w0) {Q : MI → MJ → Prop} {I : MI} {J : MJ} (h : P_X12_look w0 I J Q) : Met l yX12_look (xws yX12_look cX12_look 6 none) rmX12_look (va_Pc [.ref (ad 0), .ref (ad w0)] (gB (mS ad cy) 30 ad cy D mE I J)) (gQv (mS ad cy) 30 ad cy D mE Q) 0 0 (gA 30 ad) :=
  g_met (mE_ok ad) rfl (by decide) (Nat.le_of_ble_eq_true rfl) (fun p e s m below meth c ls C hw hl => w_X12_look C hw0 h hw hl)
/-! BagPhrasesModel.unlike()I -/
def P_X12_unlike_25 (Q : Int32 → MI → MJ → Prop) (kL4 : Int32 × Int32 × MI × MJ → Prop) (x2 : Int32) (s0 : Int32) (s1 : Int32) (I : MI) (J : MJ) : Prop :=
  kL4 ((s0 + s1), (x2 + 1), I, J)
def P_X12_unlike_4 (Q : Int32 → MI → MJ → Prop) (kL4 : Int32 × Int32 × MI × MJ → Prop) : Int32 × Int32 × MI × MJ → Prop := fun z => match z with
  | (x1, x2, I, J) => (((8 : Int32) ≤ x2 → Q x1 I J) ∧ (¬ (8 : Int32) ≤ x2 → vp_in x2 25 ∧ ((((I 6 x2.toNatClampNeg) ≤ 0 → P_X12_unlike_25 Q kL4 x2 x1 (0 : Int32) I J) ∧ (¬ (I 6 x2.toNatClampNeg) ≤ 0 → P_X12_unlike_25 Q kL4 x2 x1 (1 : Int32) I J)))))
def P_X12_unlike (I : MI) (J : MJ) (Q : Int32 → MI → MJ → Prop) : Prop :=
  lpx (P_X12_unlike_4 Q) ((0 : Int32), (0 : Int32), I, J)
abbrev rmX12_unlike : Room := { frames := 0, cells := 0, slots := 0, locals := 0 }
set_option maxHeartbeats 4000000 in
set_option maxRecDepth 100000 in
theorem w_X12_unlike_25 {Q : Int32 → MI → MJ → Prop} (C : gC RX12 cX12_unlike 3 (some .int) 30 ad cy D mE p s m args meth c) {kL4 : Int32 × Int32 × MI × MJ → Prop} (hL4 : ∀ {x1 : Int32} {x2 : Int32} {I : MI} {J : MJ} {H : Heap} {locs : List Loc} {ls : Array Slot}, kL4 (x1, x2, I, J) → gH (mS ad cy) 30 ad D s I J H locs → lv_has ls 3 [(0, .ref (ad 0)), (1, .int x1), (2, .int x2)] → W p l e rmX12_unlike s m args below meth c H locs 0 0 (MQ below (gQi (mS ad cy) 30 ad cy D mE Q) args s 0 0 (gA 30 ad)) (F0 m 4 ls [])) {x2 : Int32} {s0 : Int32} {s1 : Int32} {I : MI} {J : MJ} {H : Heap} {locs : List Loc} {ls : Array Slot} (h : P_X12_unlike_25 Q kL4 x2 s0 s1 I J) (hw : gH (mS ad cy) 30 ad D s I J H locs) (hl : lv_has ls 3 [(0, .ref (ad 0)), (2, .int x2)]) : W p l e rmX12_unlike s m args below meth c H locs 0 0 (MQ below (gQi (mS ad cy) 30 ad cy D mE Q) args s 0 0 (gA 30 ad)) (F0 m 25 ls [.int s1, .int s0]) := by
  obtain ⟨hx, hb, hC⟩ := id C
  refine lv_iadd hx hb dX12_unlike_25 ?_
  refine lv_istore_n (lv' := [(1, .int (s0 + s1)), (0, .ref (ad 0)), (2, .int x2)]) hx hb dX12_unlike_26 rfl hl (by decide) rfl (fun ls hl => ?_)
  refine lv_iinc (v := x2 + 1) (lv' := [(2, .int (x2 + 1)), (1, .int (s0 + s1)), (0, .ref (ad 0))]) hx hb dX12_unlike_27 hl (k := 2) rfl rfl (by decide) rfl (fun ls hl => ?_)
  refine lv_goto (tgt := 4) hx hb dX12_unlike_30 (by decide) ?_
  exact hL4 h hw (lv_sub hl [2, 1, 0] rfl)
set_option maxHeartbeats 4000000 in
set_option maxRecDepth 100000 in
theorem w_X12_unlike_4 {Q : Int32 → MI → MJ → Prop} (C : gC RX12 cX12_unlike 3 (some .int) 30 ad cy D mE p s m args meth c) {kL4 : Int32 × Int32 × MI × MJ → Prop} (hL4 : ∀ {x1 : Int32} {x2 : Int32} {I : MI} {J : MJ} {H : Heap} {locs : List Loc} {ls : Array Slot}, kL4 (x1, x2, I, J) → gH (mS ad cy) 30 ad D s I J H locs → lv_has ls 3 [(0, .ref (ad 0)), (1, .int x1), (2, .int x2)] → W p l e rmX12_unlike s m args below meth c H locs 0 0 (MQ below (gQi (mS ad cy) 30 ad cy D mE Q) args s 0 0 (gA 30 ad)) (F0 m 4 ls [])) {x1 : Int32} {x2 : Int32} {I : MI} {J : MJ} {H : Heap} {locs : List Loc} {ls : Array Slot} (h : P_X12_unlike_4 Q kL4 (x1, x2, I, J)) (hw : gH (mS ad cy) 30 ad D s I J H locs) (hl : lv_has ls 3 [(0, .ref (ad 0)), (1, .int x1), (2, .int x2)]) : W p l e rmX12_unlike s m args below meth c H locs 0 0 (MQ below (gQi (mS ad cy) 30 ad cy D mE Q) args s 0 0 (gA 30 ad)) (F0 m 4 ls []) := by
  obtain ⟨hx, hb, hC⟩ := id C
  refine lv_iload_n hx hb dX12_unlike_4 rfl (lv_at hl 2 rfl) ?_
  refine lv_bipush (v := 8) hx hb dX12_unlike_5 (by decide) ?_
  refine lv_icmp_ge (tgt := 33) hx hb dX12_unlike_7 (by decide) (fun c7 => ?_) (fun c7 => ?_)
  · have h := h.1 c7
    refine lv_iload_n hx hb dX12_unlike_33 rfl (lv_at hl 1 rfl) ?_
    exact g_iret C hw h dX12_unlike_34
  · have h := h.2 c7
    refine lv_iload_n hx hb dX12_unlike_10 rfl (lv_at hl 1 rfl) ?_
    refine lv_aload_n hx hb dX12_unlike_11 rfl (lv_at hl 0 rfl) ?_
    refine g_get C hw f_RX12_25 ml_0 (ms_0 _ _) rfl dX12_unlike_12 ?_
    refine lv_iload_n hx hb dX12_unlike_15 rfl (lv_at hl 2 rfl) ?_
    refine g_iald C hw ml_6 ms_6 h.1 dX12_unlike_16 ?_
    have h := h.2
    refine lv_if_le (tgt := 24) hx hb dX12_unlike_17 (by decide) (fun c17 => ?_) (fun c17 => ?_)
    · have h := h.1 c17
      refine lv_iconst (v := 0) hx hb dX12_unlike_24 (by decide) ?_
      exact w_X12_unlike_25 C hL4 h hw (lv_sub hl [0, 2] rfl)
    · have h := h.2 c17
      refine lv_iconst (v := 1) hx hb dX12_unlike_20 (by decide) ?_
      refine lv_goto (tgt := 25) hx hb dX12_unlike_21 (by decide) ?_
      exact w_X12_unlike_25 C hL4 h hw (lv_sub hl [0, 2] rfl)
theorem wl_X12_unlike_4 {Q : Int32 → MI → MJ → Prop} (C : gC RX12 cX12_unlike 3 (some .int) 30 ad cy D mE p s m args meth c) {x1 : Int32} {x2 : Int32} {I : MI} {J : MJ} {H : Heap} {locs : List Loc} {ls : Array Slot} (h : lpx (P_X12_unlike_4 Q) (x1, x2, I, J)) (hw : gH (mS ad cy) 30 ad D s I J H locs) (hl : lv_has ls 3 [(0, .ref (ad 0)), (1, .int x1), (2, .int x2)]) : W p l e rmX12_unlike s m args below meth c H locs 0 0 (MQ below (gQi (mS ad cy) 30 ad cy D mE Q) args s 0 0 (gA 30 ad)) (F0 m 4 ls []) := by
  obtain ⟨n, h⟩ := h
  induction n generalizing x1 x2 I J H locs ls with
  | zero => exact False.elim h
  | succ n ih => exact w_X12_unlike_4 C  (fun hk9 hw9 hl9 => ih hw9 hl9 hk9) h hw hl
set_option maxHeartbeats 4000000 in
set_option maxRecDepth 100000 in
theorem w_X12_unlike {Q : Int32 → MI → MJ → Prop} (C : gC RX12 cX12_unlike 3 (some .int) 30 ad cy D mE p s m args meth c) {I : MI} {J : MJ} {H : Heap} {locs : List Loc} {ls : Array Slot} (h : P_X12_unlike I J Q) (hw : gH (mS ad cy) 30 ad D s I J H locs) (hl : lv_has ls 3 [(0, .ref (ad 0))]) : W p l e rmX12_unlike s m args below meth c H locs 0 0 (MQ below (gQi (mS ad cy) 30 ad cy D mE Q) args s 0 0 (gA 30 ad)) (F0 m 0 ls []) := by
  obtain ⟨hx, hb, hC⟩ := id C
  refine lv_iconst (v := 0) hx hb dX12_unlike_0 (by decide) ?_
  refine lv_istore_n (lv' := [(1, .int (0 : Int32)), (0, .ref (ad 0))]) hx hb dX12_unlike_1 rfl hl (by decide) rfl (fun ls hl => ?_)
  refine lv_iconst (v := 0) hx hb dX12_unlike_2 (by decide) ?_
  refine lv_istore_n (lv' := [(2, .int (0 : Int32)), (1, .int (0 : Int32)), (0, .ref (ad 0))]) hx hb dX12_unlike_3 rfl hl (by decide) rfl (fun ls hl => ?_)
  exact wl_X12_unlike_4 C  h hw (lv_sub hl [2, 1, 0] rfl)
theorem m_X12_unlike {l : Launch} {Q : Int32 → MI → MJ → Prop} {I : MI} {J : MJ} (h : P_X12_unlike I J Q) : Met l yX12_unlike (xws yX12_unlike cX12_unlike 3 (some .int)) rmX12_unlike (va_Pc [.ref (ad 0)] (gB (mS ad cy) 30 ad cy D mE I J)) (gQi (mS ad cy) 30 ad cy D mE Q) 0 0 (gA 30 ad) :=
  g_met (mE_ok ad) rfl (by decide) (Nat.le_of_ble_eq_true rfl) (fun p e s m below meth c ls C hw hl => w_X12_unlike C  h hw hl)
/-! BagPhrasesModel.madeOf(I)I -/
def P_X12_madeOf_55 (Q : Int32 → MI → MJ → Prop) (kL5 : Int32 × Int32 × Int32 × MI × MJ → Prop) (x1 : Int32) (x3 : Int32) (s0 : Int32) (I : MI) (J : MJ) : Prop :=
  kL5 (x1, s0, (x3 + 1), I, J)
def P_X12_madeOf_54 (Q : Int32 → MI → MJ → Prop) (kL5 : Int32 × Int32 × Int32 × MI × MJ → Prop) (x1 : Int32) (x2 : Int32) (x3 : Int32) (I : MI) (J : MJ) : Prop :=
  P_X12_madeOf_55 Q kL5 x1 x3 x2 I J
def P_X12_madeOf_5 (Q : Int32 → MI → MJ → Prop) (kL5 : Int32 × Int32 × Int32 × MI × MJ → Prop) : Int32 × Int32 × Int32 × MI × MJ → Prop := fun z => match z with
  | (x1, x2, x3, I, J) => (((8 : Int32) ≤ x3 → Q x2 I J) ∧ (¬ (8 : Int32) ≤ x3 → vp_in (((8 : Int32) * x1) + x3) 80 ∧ ((((I 5 (((8 : Int32) * x1) + x3).toNatClampNeg) ≤ 0 → P_X12_madeOf_54 Q kL5 x1 x2 x3 I J) ∧ (¬ (I 5 (((8 : Int32) * x1) + x3).toNatClampNeg) ≤ 0 → vp_in x3 25 ∧ (¬ (I 5 (((8 : Int32) * x1) + x3).toNatClampNeg) = 0 ∧ (((x2 ≤ ((I 6 x3.toNatClampNeg) / (I 5 (((8 : Int32) * x1) + x3).toNatClampNeg)) → P_X12_madeOf_54 Q kL5 x1 x2 x3 I J) ∧ (¬ x2 ≤ ((I 6 x3.toNatClampNeg) / (I 5 (((8 : Int32) * x1) + x3).toNatClampNeg)) → vp_in x3 25 ∧ (¬ (I 5 (((8 : Int32) * x1) + x3).toNatClampNeg) = 0 ∧ (P_X12_madeOf_55 Q kL5 x1 x3 ((I 6 x3.toNatClampNeg) / (I 5 (((8 : Int32) * x1) + x3).toNatClampNeg)) I J)))))))))))
def P_X12_madeOf (a0 : Int32) (I : MI) (J : MJ) (Q : Int32 → MI → MJ → Prop) : Prop :=
  lpx (P_X12_madeOf_5 Q) (a0, (12 : Int32), (0 : Int32), I, J)
abbrev rmX12_madeOf : Room := { frames := 0, cells := 0, slots := 0, locals := 0 }
set_option maxHeartbeats 4000000 in
set_option maxRecDepth 100000 in
theorem w_X12_madeOf_55 {Q : Int32 → MI → MJ → Prop} (C : gC RX12 cX12_madeOf 5 (some .int) 30 ad cy D mE p s m args meth c) {kL5 : Int32 × Int32 × Int32 × MI × MJ → Prop} (hL5 : ∀ {x1 : Int32} {x2 : Int32} {x3 : Int32} {I : MI} {J : MJ} {H : Heap} {locs : List Loc} {ls : Array Slot}, kL5 (x1, x2, x3, I, J) → gH (mS ad cy) 30 ad D s I J H locs → lv_has ls 5 [(0, .ref (ad 0)), (1, .int x1), (2, .int x2), (3, .int x3)] → W p l e rmX12_madeOf s m args below meth c H locs 0 0 (MQ below (gQi (mS ad cy) 30 ad cy D mE Q) args s 0 0 (gA 30 ad)) (F0 m 5 ls [])) {x1 : Int32} {x3 : Int32} {s0 : Int32} {I : MI} {J : MJ} {H : Heap} {locs : List Loc} {ls : Array Slot} (h : P_X12_madeOf_55 Q kL5 x1 x3 s0 I J) (hw : gH (mS ad cy) 30 ad D s I J H locs) (hl : lv_has ls 5 [(0, .ref (ad 0)), (1, .int x1), (3, .int x3)]) : W p l e rmX12_madeOf s m args below meth c H locs 0 0 (MQ below (gQi (mS ad cy) 30 ad cy D mE Q) args s 0 0 (gA 30 ad)) (F0 m 55 ls [.int s0]) := by
  obtain ⟨hx, hb, hC⟩ := id C
  refine lv_istore_n (lv' := [(2, .int s0), (0, .ref (ad 0)), (1, .int x1), (3, .int x3)]) hx hb dX12_madeOf_55 rfl hl (by decide) rfl (fun ls hl => ?_)
  refine lv_iinc (v := x3 + 1) (lv' := [(3, .int (x3 + 1)), (2, .int s0), (0, .ref (ad 0)), (1, .int x1)]) hx hb dX12_madeOf_56 hl (k := 3) rfl rfl (by decide) rfl (fun ls hl => ?_)
  refine lv_goto (tgt := 5) hx hb dX12_madeOf_59 (by decide) ?_
  exact hL5 h hw (lv_sub hl [2, 3, 1, 0] rfl)
set_option maxHeartbeats 4000000 in
set_option maxRecDepth 100000 in
theorem w_X12_madeOf_54 {Q : Int32 → MI → MJ → Prop} (C : gC RX12 cX12_madeOf 5 (some .int) 30 ad cy D mE p s m args meth c) {kL5 : Int32 × Int32 × Int32 × MI × MJ → Prop} (hL5 : ∀ {x1 : Int32} {x2 : Int32} {x3 : Int32} {I : MI} {J : MJ} {H : Heap} {locs : List Loc} {ls : Array Slot}, kL5 (x1, x2, x3, I, J) → gH (mS ad cy) 30 ad D s I J H locs → lv_has ls 5 [(0, .ref (ad 0)), (1, .int x1), (2, .int x2), (3, .int x3)] → W p l e rmX12_madeOf s m args below meth c H locs 0 0 (MQ below (gQi (mS ad cy) 30 ad cy D mE Q) args s 0 0 (gA 30 ad)) (F0 m 5 ls [])) {x1 : Int32} {x2 : Int32} {x3 : Int32} {I : MI} {J : MJ} {H : Heap} {locs : List Loc} {ls : Array Slot} (h : P_X12_madeOf_54 Q kL5 x1 x2 x3 I J) (hw : gH (mS ad cy) 30 ad D s I J H locs) (hl : lv_has ls 5 [(0, .ref (ad 0)), (1, .int x1), (2, .int x2), (3, .int x3)]) : W p l e rmX12_madeOf s m args below meth c H locs 0 0 (MQ below (gQi (mS ad cy) 30 ad cy D mE Q) args s 0 0 (gA 30 ad)) (F0 m 54 ls []) := by
  obtain ⟨hx, hb, hC⟩ := id C
  refine lv_iload_n hx hb dX12_madeOf_54 rfl (lv_at hl 2 rfl) ?_
  exact w_X12_madeOf_55 C hL5 h hw (lv_sub hl [0, 1, 3] rfl)
set_option maxHeartbeats 4000000 in
set_option maxRecDepth 100000 in
theorem w_X12_madeOf_5 {Q : Int32 → MI → MJ → Prop} (C : gC RX12 cX12_madeOf 5 (some .int) 30 ad cy D mE p s m args meth c) {kL5 : Int32 × Int32 × Int32 × MI × MJ → Prop} (hL5 : ∀ {x1 : Int32} {x2 : Int32} {x3 : Int32} {I : MI} {J : MJ} {H : Heap} {locs : List Loc} {ls : Array Slot}, kL5 (x1, x2, x3, I, J) → gH (mS ad cy) 30 ad D s I J H locs → lv_has ls 5 [(0, .ref (ad 0)), (1, .int x1), (2, .int x2), (3, .int x3)] → W p l e rmX12_madeOf s m args below meth c H locs 0 0 (MQ below (gQi (mS ad cy) 30 ad cy D mE Q) args s 0 0 (gA 30 ad)) (F0 m 5 ls [])) {x1 : Int32} {x2 : Int32} {x3 : Int32} {I : MI} {J : MJ} {H : Heap} {locs : List Loc} {ls : Array Slot} (h : P_X12_madeOf_5 Q kL5 (x1, x2, x3, I, J)) (hw : gH (mS ad cy) 30 ad D s I J H locs) (hl : lv_has ls 5 [(0, .ref (ad 0)), (1, .int x1), (2, .int x2), (3, .int x3)]) : W p l e rmX12_madeOf s m args below meth c H locs 0 0 (MQ below (gQi (mS ad cy) 30 ad cy D mE Q) args s 0 0 (gA 30 ad)) (F0 m 5 ls []) := by
  obtain ⟨hx, hb, hC⟩ := id C
  refine lv_iload_n hx hb dX12_madeOf_5 rfl (lv_at hl 3 rfl) ?_
  refine lv_bipush (v := 8) hx hb dX12_madeOf_6 (by decide) ?_
  refine lv_icmp_ge (tgt := 62) hx hb dX12_madeOf_8 (by decide) (fun c8 => ?_) (fun c8 => ?_)
  · have h := h.1 c8
    refine lv_iload_n hx hb dX12_madeOf_62 rfl (lv_at hl 2 rfl) ?_
    exact g_iret C hw h dX12_madeOf_63
  · have h := h.2 c8
    refine lv_aload_n hx hb dX12_madeOf_11 rfl (lv_at hl 0 rfl) ?_
    refine g_get C hw f_RX12_22 ml_0 (ms_0 _ _) rfl dX12_madeOf_12 ?_
    refine lv_bipush (v := 8) hx hb dX12_madeOf_15 (by decide) ?_
    refine lv_iload_n hx hb dX12_madeOf_17 rfl (lv_at hl 1 rfl) ?_
    refine lv_imul hx hb dX12_madeOf_18 ?_
    refine lv_iload_n hx hb dX12_madeOf_19 rfl (lv_at hl 3 rfl) ?_
    refine lv_iadd hx hb dX12_madeOf_20 ?_
    refine g_iald C hw ml_5 ms_5 h.1 dX12_madeOf_21 ?_
    have h := h.2
    refine lv_istore (lv' := [(4, .int (I 5 (((8 : Int32) * x1) + x3).toNatClampNeg)), (0, .ref (ad 0)), (1, .int x1), (2, .int x2), (3, .int x3)]) hx hb dX12_madeOf_22 hl (by decide) rfl (fun ls hl => ?_)
    refine lv_iload hx hb dX12_madeOf_24 (lv_at hl 0 rfl) ?_
    refine lv_if_le (tgt := 54) hx hb dX12_madeOf_26 (by decide) (fun c26 => ?_) (fun c26 => ?_)
    · have h := h.1 c26
      exact w_X12_madeOf_54 C hL5 h hw (lv_sub hl [1, 2, 3, 4] rfl)
    · have h := h.2 c26
      refine lv_aload_n hx hb dX12_madeOf_29 rfl (lv_at hl 1 rfl) ?_
      refine g_get C hw f_RX12_25 ml_0 (ms_0 _ _) rfl dX12_madeOf_30 ?_
      refine lv_iload_n hx hb dX12_madeOf_33 rfl (lv_at hl 4 rfl) ?_
      refine g_iald C hw ml_6 ms_6 h.1 dX12_madeOf_34 ?_
      have h := h.2
      refine lv_iload hx hb dX12_madeOf_35 (lv_at hl 0 rfl) ?_
      refine lv_idiv hx hb dX12_madeOf_37 h.1 ?_
      have h := h.2
      refine lv_iload_n hx hb dX12_madeOf_38 rfl (lv_at hl 3 rfl) ?_
      refine lv_icmp_ge (tgt := 54) hx hb dX12_madeOf_39 (by decide) (fun c39 => ?_) (fun c39 => ?_)
      · have h := h.1 c39
        exact w_X12_madeOf_54 C hL5 h hw (lv_sub hl [1, 2, 3, 4] rfl)
      · have h := h.2 c39
        refine lv_aload_n hx hb dX12_madeOf_42 rfl (lv_at hl 1 rfl) ?_
        refine g_get C hw f_RX12_25 ml_0 (ms_0 _ _) rfl dX12_madeOf_43 ?_
        refine lv_iload_n hx hb dX12_madeOf_46 rfl (lv_at hl 4 rfl) ?_
        refine g_iald C hw ml_6 ms_6 h.1 dX12_madeOf_47 ?_
        have h := h.2
        refine lv_iload hx hb dX12_madeOf_48 (lv_at hl 0 rfl) ?_
        refine lv_idiv hx hb dX12_madeOf_50 h.1 ?_
        have h := h.2
        refine lv_goto (tgt := 55) hx hb dX12_madeOf_51 (by decide) ?_
        exact w_X12_madeOf_55 C hL5 h hw (lv_sub hl [1, 2, 4] rfl)
theorem wl_X12_madeOf_5 {Q : Int32 → MI → MJ → Prop} (C : gC RX12 cX12_madeOf 5 (some .int) 30 ad cy D mE p s m args meth c) {x1 : Int32} {x2 : Int32} {x3 : Int32} {I : MI} {J : MJ} {H : Heap} {locs : List Loc} {ls : Array Slot} (h : lpx (P_X12_madeOf_5 Q) (x1, x2, x3, I, J)) (hw : gH (mS ad cy) 30 ad D s I J H locs) (hl : lv_has ls 5 [(0, .ref (ad 0)), (1, .int x1), (2, .int x2), (3, .int x3)]) : W p l e rmX12_madeOf s m args below meth c H locs 0 0 (MQ below (gQi (mS ad cy) 30 ad cy D mE Q) args s 0 0 (gA 30 ad)) (F0 m 5 ls []) := by
  obtain ⟨n, h⟩ := h
  induction n generalizing x1 x2 x3 I J H locs ls with
  | zero => exact False.elim h
  | succ n ih => exact w_X12_madeOf_5 C  (fun hk9 hw9 hl9 => ih hw9 hl9 hk9) h hw hl
set_option maxHeartbeats 4000000 in
set_option maxRecDepth 100000 in
theorem w_X12_madeOf {Q : Int32 → MI → MJ → Prop} (C : gC RX12 cX12_madeOf 5 (some .int) 30 ad cy D mE p s m args meth c) {a0 : Int32} {I : MI} {J : MJ} {H : Heap} {locs : List Loc} {ls : Array Slot} (h : P_X12_madeOf a0 I J Q) (hw : gH (mS ad cy) 30 ad D s I J H locs) (hl : lv_has ls 5 [(0, .ref (ad 0)), (1, .int a0)]) : W p l e rmX12_madeOf s m args below meth c H locs 0 0 (MQ below (gQi (mS ad cy) 30 ad cy D mE Q) args s 0 0 (gA 30 ad)) (F0 m 0 ls []) := by
  obtain ⟨hx, hb, hC⟩ := id C
  refine lv_bipush (v := 12) hx hb dX12_madeOf_0 (by decide) ?_
  refine lv_istore_n (lv' := [(2, .int (12 : Int32)), (0, .ref (ad 0)), (1, .int a0)]) hx hb dX12_madeOf_2 rfl hl (by decide) rfl (fun ls hl => ?_)
  refine lv_iconst (v := 0) hx hb dX12_madeOf_3 (by decide) ?_
  refine lv_istore_n (lv' := [(3, .int (0 : Int32)), (2, .int (12 : Int32)), (0, .ref (ad 0)), (1, .int a0)]) hx hb dX12_madeOf_4 rfl hl (by decide) rfl (fun ls hl => ?_)
  exact wl_X12_madeOf_5 C  h hw (lv_sub hl [2, 3, 1, 0] rfl)
theorem m_X12_madeOf {l : Launch} {a0 : Int32} {Q : Int32 → MI → MJ → Prop} {I : MI} {J : MJ} (h : P_X12_madeOf a0 I J Q) : Met l yX12_madeOf (xws yX12_madeOf cX12_madeOf 5 (some .int)) rmX12_madeOf (va_Pc [.ref (ad 0), .int a0] (gB (mS ad cy) 30 ad cy D mE I J)) (gQi (mS ad cy) 30 ad cy D mE Q) 0 0 (gA 30 ad) :=
  g_met (mE_ok ad) rfl (by decide) (Nat.le_of_ble_eq_true rfl) (fun p e s m below meth c ls C hw hl => w_X12_madeOf C  h hw hl)
/-! BagPhrasesModel.makeable()I -/
def P_X12_makeable_28 (Q : Int32 → MI → MJ → Prop) (kL4 : Int32 × Int32 × MI × MJ → Prop) (x2 : Int32) (s0 : Int32) (s1 : Int32) (I : MI) (J : MJ) : Prop :=
  kL4 ((s0 ||| s1), (x2 + 1), I, J)
def P_X12_makeable_4 (Q : Int32 → MI → MJ → Prop) (kL4 : Int32 × Int32 × MI × MJ → Prop) : Int32 × Int32 × MI × MJ → Prop := fun z => match z with
  | (x1, x2, I, J) => (((I 0 2) ≤ x2 → Q x1 I J) ∧ (¬ (I 0 2) ≤ x2 → P_X12_madeOf x2 I J (fun r15 I15 J15 => ((r15 ≤ 0 → P_X12_makeable_28 Q kL4 x2 x1 (0 : Int32) I15 J15) ∧ (¬ r15 ≤ 0 → P_X12_makeable_28 Q kL4 x2 x1 ((1 : Int32) <<< (x2 &&& 31)) I15 J15)))))
def P_X12_makeable (I : MI) (J : MJ) (Q : Int32 → MI → MJ → Prop) : Prop :=
  lpx (P_X12_makeable_4 Q) ((0 : Int32), (0 : Int32), I, J)
abbrev rmX12_makeable : Room := { frames := 1, cells := 0, slots := 0, locals := 24 }
set_option maxHeartbeats 4000000 in
set_option maxRecDepth 100000 in
theorem w_X12_makeable_28 {Q : Int32 → MI → MJ → Prop} (C : gC RX12 cX12_makeable 3 (some .int) 30 ad cy D mE p s m args meth c) {kL4 : Int32 × Int32 × MI × MJ → Prop} (hL4 : ∀ {x1 : Int32} {x2 : Int32} {I : MI} {J : MJ} {H : Heap} {locs : List Loc} {ls : Array Slot}, kL4 (x1, x2, I, J) → gH (mS ad cy) 30 ad D s I J H locs → lv_has ls 3 [(0, .ref (ad 0)), (1, .int x1), (2, .int x2)] → W p l e rmX12_makeable s m args below meth c H locs 0 0 (MQ below (gQi (mS ad cy) 30 ad cy D mE Q) args s 0 0 (gA 30 ad)) (F0 m 4 ls [])) {x2 : Int32} {s0 : Int32} {s1 : Int32} {I : MI} {J : MJ} {H : Heap} {locs : List Loc} {ls : Array Slot} (h : P_X12_makeable_28 Q kL4 x2 s0 s1 I J) (hw : gH (mS ad cy) 30 ad D s I J H locs) (hl : lv_has ls 3 [(0, .ref (ad 0)), (2, .int x2)]) : W p l e rmX12_makeable s m args below meth c H locs 0 0 (MQ below (gQi (mS ad cy) 30 ad cy D mE Q) args s 0 0 (gA 30 ad)) (F0 m 28 ls [.int s1, .int s0]) := by
  obtain ⟨hx, hb, hC⟩ := id C
  refine lv_ior hx hb dX12_makeable_28 ?_
  refine lv_istore_n (lv' := [(1, .int (s0 ||| s1)), (0, .ref (ad 0)), (2, .int x2)]) hx hb dX12_makeable_29 rfl hl (by decide) rfl (fun ls hl => ?_)
  refine lv_iinc (v := x2 + 1) (lv' := [(2, .int (x2 + 1)), (1, .int (s0 ||| s1)), (0, .ref (ad 0))]) hx hb dX12_makeable_30 hl (k := 2) rfl rfl (by decide) rfl (fun ls hl => ?_)
  refine lv_goto (tgt := 4) hx hb dX12_makeable_33 (by decide) ?_
  exact hL4 h hw (lv_sub hl [2, 1, 0] rfl)
set_option maxHeartbeats 4000000 in
set_option maxRecDepth 100000 in
theorem w_X12_makeable_4 {Q : Int32 → MI → MJ → Prop} (C : gC RX12 cX12_makeable 3 (some .int) 30 ad cy D mE p s m args meth c) {kL4 : Int32 × Int32 × MI × MJ → Prop} (hL4 : ∀ {x1 : Int32} {x2 : Int32} {I : MI} {J : MJ} {H : Heap} {locs : List Loc} {ls : Array Slot}, kL4 (x1, x2, I, J) → gH (mS ad cy) 30 ad D s I J H locs → lv_has ls 3 [(0, .ref (ad 0)), (1, .int x1), (2, .int x2)] → W p l e rmX12_makeable s m args below meth c H locs 0 0 (MQ below (gQi (mS ad cy) 30 ad cy D mE Q) args s 0 0 (gA 30 ad)) (F0 m 4 ls [])) {x1 : Int32} {x2 : Int32} {I : MI} {J : MJ} {H : Heap} {locs : List Loc} {ls : Array Slot} (h : P_X12_makeable_4 Q kL4 (x1, x2, I, J)) (hw : gH (mS ad cy) 30 ad D s I J H locs) (hl : lv_has ls 3 [(0, .ref (ad 0)), (1, .int x1), (2, .int x2)]) : W p l e rmX12_makeable s m args below meth c H locs 0 0 (MQ below (gQi (mS ad cy) 30 ad cy D mE Q) args s 0 0 (gA 30 ad)) (F0 m 4 ls []) := by
  obtain ⟨hx, hb, hC⟩ := id C
  refine lv_iload_n hx hb dX12_makeable_4 rfl (lv_at hl 2 rfl) ?_
  refine lv_aload_n hx hb dX12_makeable_5 rfl (lv_at hl 0 rfl) ?_
  refine g_get C hw f_RX12_103 ml_0 (ms_0 _ _) rfl dX12_makeable_6 ?_
  refine lv_icmp_ge (tgt := 36) hx hb dX12_makeable_9 (by decide) (fun c9 => ?_) (fun c9 => ?_)
  · have h := h.1 c9
    refine lv_iload_n hx hb dX12_makeable_36 rfl (lv_at hl 1 rfl) ?_
    exact g_iret C hw h dX12_makeable_37
  · have h := h.2 c9
    refine lv_iload_n hx hb dX12_makeable_12 rfl (lv_at hl 1 rfl) ?_
    refine lv_aload_n hx hb dX12_makeable_13 rfl (lv_at hl 0 rfl) ?_
    refine lv_iload_n hx hb dX12_makeable_14 rfl (lv_at hl 2 rfl) ?_
    refine g_ci hw (g_rV [.int x2] [.int x1] C hw (m_X12_madeOf h) k_X12_madeOf q_RX12_220 ml_0 (ms_0 _ _) rfl rfl hl.1 rfl (Nat.le_of_ble_eq_true rfl) ⟨⟨rfl, rfl⟩, Nat.le_of_ble_eq_true rfl, Nat.le_of_ble_eq_true rfl⟩ ⟨Nat.zero_le _, Nat.zero_le _⟩ dX12_makeable_15) (fun r15 I15 J15 H locs h hw => ?_)
    refine lv_if_le (tgt := 27) hx hb dX12_makeable_18 (by decide) (fun c18 => ?_) (fun c18 => ?_)
    · have h := h.1 c18
      refine lv_iconst (v := 0) hx hb dX12_makeable_27 (by decide) ?_
      exact w_X12_makeable_28 C hL4 h hw (lv_sub hl [0, 2] rfl)
    · have h := h.2 c18
      refine lv_iconst (v := 1) hx hb dX12_makeable_21 (by decide) ?_
      refine lv_iload_n hx hb dX12_makeable_22 rfl (lv_at hl 2 rfl) ?_
      refine lv_ishl hx hb dX12_makeable_23 ?_
      refine lv_goto (tgt := 28) hx hb dX12_makeable_24 (by decide) ?_
      exact w_X12_makeable_28 C hL4 h hw (lv_sub hl [0, 2] rfl)
theorem wl_X12_makeable_4 {Q : Int32 → MI → MJ → Prop} (C : gC RX12 cX12_makeable 3 (some .int) 30 ad cy D mE p s m args meth c) {x1 : Int32} {x2 : Int32} {I : MI} {J : MJ} {H : Heap} {locs : List Loc} {ls : Array Slot} (h : lpx (P_X12_makeable_4 Q) (x1, x2, I, J)) (hw : gH (mS ad cy) 30 ad D s I J H locs) (hl : lv_has ls 3 [(0, .ref (ad 0)), (1, .int x1), (2, .int x2)]) : W p l e rmX12_makeable s m args below meth c H locs 0 0 (MQ below (gQi (mS ad cy) 30 ad cy D mE Q) args s 0 0 (gA 30 ad)) (F0 m 4 ls []) := by
  obtain ⟨n, h⟩ := h
  induction n generalizing x1 x2 I J H locs ls with
  | zero => exact False.elim h
  | succ n ih => exact w_X12_makeable_4 C  (fun hk9 hw9 hl9 => ih hw9 hl9 hk9) h hw hl
set_option maxHeartbeats 4000000 in
set_option maxRecDepth 100000 in
theorem w_X12_makeable {Q : Int32 → MI → MJ → Prop} (C : gC RX12 cX12_makeable 3 (some .int) 30 ad cy D mE p s m args meth c) {I : MI} {J : MJ} {H : Heap} {locs : List Loc} {ls : Array Slot} (h : P_X12_makeable I J Q) (hw : gH (mS ad cy) 30 ad D s I J H locs) (hl : lv_has ls 3 [(0, .ref (ad 0))]) : W p l e rmX12_makeable s m args below meth c H locs 0 0 (MQ below (gQi (mS ad cy) 30 ad cy D mE Q) args s 0 0 (gA 30 ad)) (F0 m 0 ls []) := by
  obtain ⟨hx, hb, hC⟩ := id C
  refine lv_iconst (v := 0) hx hb dX12_makeable_0 (by decide) ?_
  refine lv_istore_n (lv' := [(1, .int (0 : Int32)), (0, .ref (ad 0))]) hx hb dX12_makeable_1 rfl hl (by decide) rfl (fun ls hl => ?_)
  refine lv_iconst (v := 0) hx hb dX12_makeable_2 (by decide) ?_
  refine lv_istore_n (lv' := [(2, .int (0 : Int32)), (1, .int (0 : Int32)), (0, .ref (ad 0))]) hx hb dX12_makeable_3 rfl hl (by decide) rfl (fun ls hl => ?_)
  exact wl_X12_makeable_4 C  h hw (lv_sub hl [2, 1, 0] rfl)
theorem m_X12_makeable {l : Launch} {Q : Int32 → MI → MJ → Prop} {I : MI} {J : MJ} (h : P_X12_makeable I J Q) : Met l yX12_makeable (xws yX12_makeable cX12_makeable 3 (some .int)) rmX12_makeable (va_Pc [.ref (ad 0)] (gB (mS ad cy) 30 ad cy D mE I J)) (gQi (mS ad cy) 30 ad cy D mE Q) 0 0 (gA 30 ad) :=
  g_met (mE_ok ad) rfl (by decide) (Nat.le_of_ble_eq_true rfl) (fun p e s m below meth c ls C hw hl => w_X12_makeable C  h hw hl)
/-! BagPhrasesModel.mayCome(III)Z -/
def P_X12_mayCome_69 (Q : Int32 → MI → MJ → Prop) (I : MI) (J : MJ) : Prop :=
  Q (0 : Int32) I J
def P_X12_mayCome_24 (Q : Int32 → MI → MJ → Prop) (x1 : Int32) (x3 : Int32) (s0 : Int32) (I : MI) (J : MJ) : Prop :=
  vp_in x3 10 ∧ (P_X12_has s0 (I 4 x3.toNatClampNeg) I J (fun r30 I30 J30 => ((r30 = 0 → P_X12_mayCome_69 Q I30 J30) ∧ (¬ r30 = 0 → P_X12_has (I30 0 32) x3 I30 J30 (fun r45 I45 J45 => ((r45 = 0 → P_X12_mayCome_69 Q I45 J45) ∧ (¬ r45 = 0 → vp_in (((10 : Int32) * x1) + x3) 19440 ∧ ((((I45 26 (((10 : Int32) * x1) + x3).toNatClampNeg) = 0 → P_X12_mayCome_69 Q I45 J45) ∧ (¬ (I45 26 (((10 : Int32) * x1) + x3).toNatClampNeg) = 0 → Q (1 : Int32) I45 J45))))))))))
def P_X12_mayCome (a0 : Int32) (a1 : Int32) (a2 : Int32) (I : MI) (J : MJ) (Q : Int32 → MI → MJ → Prop) : Prop :=
  ((¬ a1 = (4 : Int32) → vp_in ((21 : Int32) + a1) 25 ∧ (P_X12_mayCome_24 Q a0 a2 (I 19 ((21 : Int32) + a1).toNatClampNeg) I J)) ∧ (a1 = (4 : Int32) → vp_in (19 : Int32) 25 ∧ (P_X12_mayCome_24 Q a0 a2 (I 19 (19 : Int32).toNatClampNeg) I J)))
abbrev rmX12_mayCome : Room := { frames := 1, cells := 0, slots := 0, locals := 21 }
set_option maxHeartbeats 4000000 in
set_option maxRecDepth 100000 in
theorem w_X12_mayCome_69 {Q : Int32 → MI → MJ → Prop} (C : gC RX12 cX12_mayCome 5 (some .boolean) 30 ad cy D mE p s m args meth c) {I : MI} {J : MJ} {H : Heap} {locs : List Loc} {ls : Array Slot} (h : P_X12_mayCome_69 Q I J) (hw : gH (mS ad cy) 30 ad D s I J H locs) (hl : lv_has ls 5 []) : W p l e rmX12_mayCome s m args below meth c H locs 0 0 (MQ below (gQz (mS ad cy) 30 ad cy D mE Q) args s 0 0 (gA 30 ad)) (F0 m 69 ls []) := by
  obtain ⟨hx, hb, hC⟩ := id C
  refine lv_iconst (v := 0) hx hb dX12_mayCome_69 (by decide) ?_
  exact g_zret C hw (by decide) h dX12_mayCome_70
set_option maxHeartbeats 4000000 in
set_option maxRecDepth 100000 in
theorem w_X12_mayCome_24 {Q : Int32 → MI → MJ → Prop} (C : gC RX12 cX12_mayCome 5 (some .boolean) 30 ad cy D mE p s m args meth c) {x1 : Int32} {x3 : Int32} {s0 : Int32} {I : MI} {J : MJ} {H : Heap} {locs : List Loc} {ls : Array Slot} (h : P_X12_mayCome_24 Q x1 x3 s0 I J) (hw : gH (mS ad cy) 30 ad D s I J H locs) (hl : lv_has ls 5 [(0, .ref (ad 0)), (1, .int x1), (3, .int x3)]) : W p l e rmX12_mayCome s m args below meth c H locs 0 0 (MQ below (gQz (mS ad cy) 30 ad cy D mE Q) args s 0 0 (gA 30 ad)) (F0 m 24 ls [.int s0]) := by
  obtain ⟨hx, hb, hC⟩ := id C
  refine lv_aload_n hx hb dX12_mayCome_24 rfl (lv_at hl 0 rfl) ?_
  refine g_get C hw f_RX12_19 ml_0 (ms_0 _ _) rfl dX12_mayCome_25 ?_
  refine lv_iload_n hx hb dX12_mayCome_28 rfl (lv_at hl 2 rfl) ?_
  refine g_iald C hw ml_4 ms_4 h.1 dX12_mayCome_29 ?_
  have h := h.2
  refine g_cz hw (g_rS [.int s0, .int (I 4 x3.toNatClampNeg)] [] C hw (m_X12_has h) k_X12_has q_RX12_149 rfl hl.1 rfl (Nat.le_of_ble_eq_true rfl) ⟨⟨rfl, rfl⟩, Nat.le_of_ble_eq_true rfl, Nat.le_of_ble_eq_true rfl⟩ ⟨Nat.zero_le _, Nat.zero_le _⟩ dX12_mayCome_30) (fun r30 I30 J30 H locs z30 h hw => ?_)
  refine lv_istore (lv' := [(4, .int r30), (0, .ref (ad 0)), (1, .int x1), (3, .int x3)]) hx hb dX12_mayCome_33 hl (by decide) rfl (fun ls hl => ?_)
  refine lv_iload hx hb dX12_mayCome_35 (lv_at hl 0 rfl) ?_
  refine lv_if_eq (tgt := 69) hx hb dX12_mayCome_37 (by decide) (fun c37 => ?_) (fun c37 => ?_)
  · have h := h.1 c37
    exact w_X12_mayCome_69 C  h hw (lv_sub hl [] rfl)
  · have h := h.2 c37
    refine lv_aload_n hx hb dX12_mayCome_40 rfl (lv_at hl 1 rfl) ?_
    refine g_get C hw f_RX12_191 ml_0 (ms_0 _ _) rfl dX12_mayCome_41 ?_
    refine lv_iload_n hx hb dX12_mayCome_44 rfl (lv_at hl 3 rfl) ?_
    refine g_cz hw (g_rS [.int (I30 0 32), .int x3] [] C hw (m_X12_has h) k_X12_has q_RX12_149 rfl hl.1 rfl (Nat.le_of_ble_eq_true rfl) ⟨⟨rfl, rfl⟩, Nat.le_of_ble_eq_true rfl, Nat.le_of_ble_eq_true rfl⟩ ⟨Nat.zero_le _, Nat.zero_le _⟩ dX12_mayCome_45) (fun r45 I45 J45 H locs z45 h hw => ?_)
    refine lv_if_eq (tgt := 69) hx hb dX12_mayCome_48 (by decide) (fun c48 => ?_) (fun c48 => ?_)
    · have h := h.1 c48
      exact w_X12_mayCome_69 C  h hw (lv_sub hl [] rfl)
    · have h := h.2 c48
      refine lv_aload_n hx hb dX12_mayCome_51 rfl (lv_at hl 1 rfl) ?_
      refine g_get C hw f_RX12_87 ml_0 (ms_0 _ _) rfl dX12_mayCome_52 ?_
      refine lv_bipush (v := 10) hx hb dX12_mayCome_55 (by decide) ?_
      refine lv_iload_n hx hb dX12_mayCome_57 rfl (lv_at hl 2 rfl) ?_
      refine lv_imul hx hb dX12_mayCome_58 ?_
      refine lv_iload_n hx hb dX12_mayCome_59 rfl (lv_at hl 3 rfl) ?_
      refine lv_iadd hx hb dX12_mayCome_60 ?_
      refine g_zald C hw ml_26 ms_26 h.1 dX12_mayCome_61 ?_
      have h := h.2
      refine lv_if_eq (tgt := 69) hx hb dX12_mayCome_62 (by decide) (fun c62 => ?_) (fun c62 => ?_)
      · have h := h.1 c62
        exact w_X12_mayCome_69 C  h hw (lv_sub hl [] rfl)
      · have h := h.2 c62
        refine lv_iconst (v := 1) hx hb dX12_mayCome_65 (by decide) ?_
        refine lv_goto (tgt := 70) hx hb dX12_mayCome_66 (by decide) ?_
        exact g_zret C hw (by decide) h dX12_mayCome_70
set_option maxHeartbeats 4000000 in
set_option maxRecDepth 100000 in
theorem w_X12_mayCome {Q : Int32 → MI → MJ → Prop} (C : gC RX12 cX12_mayCome 5 (some .boolean) 30 ad cy D mE p s m args meth c) {a0 : Int32} {a1 : Int32} {a2 : Int32} {I : MI} {J : MJ} {H : Heap} {locs : List Loc} {ls : Array Slot} (h : P_X12_mayCome a0 a1 a2 I J Q) (hw : gH (mS ad cy) 30 ad D s I J H locs) (hl : lv_has ls 5 [(0, .ref (ad 0)), (1, .int a0), (2, .int a1), (3, .int a2)]) : W p l e rmX12_mayCome s m args below meth c H locs 0 0 (MQ below (gQz (mS ad cy) 30 ad cy D mE Q) args s 0 0 (gA 30 ad)) (F0 m 0 ls []) := by
  obtain ⟨hx, hb, hC⟩ := id C
  refine lv_iload_n hx hb dX12_mayCome_0 rfl (lv_at hl 2 rfl) ?_
  refine lv_iconst (v := 4) hx hb dX12_mayCome_1 (by decide) ?_
  refine lv_icmp_ne (tgt := 15) hx hb dX12_mayCome_2 (by decide) (fun c2 => ?_) (fun c2 => ?_)
  · have h := h.1 c2
    refine lv_aload_n hx hb dX12_mayCome_15 rfl (lv_at hl 0 rfl) ?_
    refine g_get C hw f_RX12_65 ml_0 (ms_0 _ _) rfl dX12_mayCome_16 ?_
    refine lv_bipush (v := 21) hx hb dX12_mayCome_19 (by decide) ?_
    refine lv_iload_n hx hb dX12_mayCome_21 rfl (lv_at hl 2 rfl) ?_
    refine lv_iadd hx hb dX12_mayCome_22 ?_
    refine g_iald C hw ml_19 ms_19 h.1 dX12_mayCome_23 ?_
    have h := h.2
    exact w_X12_mayCome_24 C  h hw (lv_sub hl [0, 1, 3] rfl)
  · have h := h.2 c2
    refine lv_aload_n hx hb dX12_mayCome_5 rfl (lv_at hl 0 rfl) ?_
    refine g_get C hw f_RX12_65 ml_0 (ms_0 _ _) rfl dX12_mayCome_6 ?_
    refine lv_bipush (v := 19) hx hb dX12_mayCome_9 (by decide) ?_
    refine g_iald C hw ml_19 ms_19 h.1 dX12_mayCome_11 ?_
    have h := h.2
    refine lv_goto (tgt := 24) hx hb dX12_mayCome_12 (by decide) ?_
    exact w_X12_mayCome_24 C  h hw (lv_sub hl [0, 1, 3] rfl)
theorem m_X12_mayCome {l : Launch} {a0 : Int32} {a1 : Int32} {a2 : Int32} {Q : Int32 → MI → MJ → Prop} {I : MI} {J : MJ} (h : P_X12_mayCome a0 a1 a2 I J Q) : Met l yX12_mayCome (xws yX12_mayCome cX12_mayCome 5 (some .boolean)) rmX12_mayCome (va_Pc [.ref (ad 0), .int a0, .int a1, .int a2] (gB (mS ad cy) 30 ad cy D mE I J)) (gQz (mS ad cy) 30 ad cy D mE Q) 0 0 (gA 30 ad) :=
  g_met (mE_ok ad) rfl (by decide) (Nat.le_of_ble_eq_true rfl) (fun p e s m below meth c ls C hw hl => w_X12_mayCome C  h hw hl)
end
