section
variable {p : Program} {l : Launch} {e : Env} {s : State} {m : MethodId} {args : Array Value} {below : List Frame} {meth : Method} {c : Code} {ad : Nat → Nat} {cy : Nat → ClassId} {D : va_G} {ts : Nat → Nat}
/-! BagPhrases$Setting.blank()V -/
def P_X8_blank_23 (k : Nat) (Q : MI → MJ → Prop) (kL23 : Int32 × MI × MJ → Prop) : Int32 × MI × MJ → Prop := fun z => match z with
  | (x1, I, J) => (((4 : Int32) ≤ x1 → (∀ I43 : MI, I43 = mI I k 3 (0 : Int32) → (∀ I48 : MI, I48 = mI I43 k 4 (0 : Int32) → Q I48 J))) ∧ (¬ (4 : Int32) ≤ x1 → vp_in x1 4 ∧ (∀ I34 : MI, I34 = mI I (k + 3) x1.toNatClampNeg (0 : Int32) → kL23 ((x1 + 1), I34, J))))
def P_X8_blank_2 (k : Nat) (Q : MI → MJ → Prop) (kL2 : Int32 × MI × MJ → Prop) : Int32 × MI × MJ → Prop := fun z => match z with
  | (x1, I, J) => (((8 : Int32) ≤ x1 → lpx (P_X8_blank_23 k Q) ((0 : Int32), I, J)) ∧ (¬ (8 : Int32) ≤ x1 → vp_in x1 8 ∧ (∀ I14 : MI, I14 = mI I (k + 1) x1.toNatClampNeg (0 : Int32) → kL2 ((x1 + 1), I14, J))))
def P_X8_blank (k : Nat) (I : MI) (J : MJ) (Q : MI → MJ → Prop) : Prop :=
  lpx (P_X8_blank_2 k Q) ((0 : Int32), I, J)
abbrev rmX8_blank : Room := { frames := 0, cells := 0, slots := 0, locals := 0 }
set_option maxHeartbeats 4000000 in
set_option maxRecDepth 100000 in
theorem w_X8_blank_23 {Q : MI → MJ → Prop} (C : gC RX8 cX8_blank 2 none 66 ad cy D (xF ad ts) p s m args meth c) {k : Nat} (hk : isSet k) {kL23 : Int32 × MI × MJ → Prop} (hL23 : ∀ {x1 : Int32} {I : MI} {J : MJ} {H : Heap} {locs : List Loc} {ls : Array Slot}, kL23 (x1, I, J) → gH (xS ad cy) 66 ad D s I J H locs → lv_has ls 2 [(0, .ref (ad k)), (1, .int x1)] → W p l e rmX8_blank s m args below meth c H locs 0 0 (MQ below (gQv (xS ad cy) 66 ad cy D (xF ad ts) Q) args s 0 0 (gA 66 ad)) (F0 m 23 ls [])) {x1 : Int32} {I : MI} {J : MJ} {H : Heap} {locs : List Loc} {ls : Array Slot} (h : P_X8_blank_23 k Q kL23 (x1, I, J)) (hw : gH (xS ad cy) 66 ad D s I J H locs) (hl : lv_has ls 2 [(0, .ref (ad k)), (1, .int x1)]) : W p l e rmX8_blank s m args below meth c H locs 0 0 (MQ below (gQv (xS ad cy) 66 ad cy D (xF ad ts) Q) args s 0 0 (gA 66 ad)) (F0 m 23 ls []) := by
  obtain ⟨hx, hb, hC⟩ := id C
  refine lv_iload_n hx hb dX8_blank_23 rfl (lv_at hl 1 rfl) ?_
  refine lv_iconst (v := 4) hx hb dX8_blank_24 (by decide) ?_
  refine lv_icmp_ge (tgt := 41) hx hb dX8_blank_25 (by decide) (fun c25 => ?_) (fun c25 => ?_)
  · have h := h.1 c25
    refine lv_aload_n hx hb dX8_blank_41 rfl (lv_at hl 0 rfl) ?_
    refine lv_iconst (v := 0) hx hb dX8_blank_42 (by decide) ?_
    refine g_putI C hw fp_RX8_21 (xl_Set0 hk) (xs_Set0 hk) (st_8_3 ad _ _) (Nat.le_of_ble_eq_true rfl) rfl rfl dX8_blank_43 (fun H locs hw => ?_)
    have h := h _ rfl
    refine lv_aload_n hx hb dX8_blank_46 rfl (lv_at hl 0 rfl) ?_
    refine lv_iconst (v := 0) hx hb dX8_blank_47 (by decide) ?_
    refine g_putI C hw fp_RX8_25 (xl_Set0 hk) (xs_Set0 hk) (st_8_4 ad _ _) (Nat.le_of_ble_eq_true rfl) rfl rfl dX8_blank_48 (fun H locs hw => ?_)
    have h := h _ rfl
    exact g_vret C hw h dX8_blank_51
  · have h := h.2 c25
    refine lv_aload_n hx hb dX8_blank_28 rfl (lv_at hl 0 rfl) ?_
    refine g_get C hw f_RX8_18 (xl_Set0 hk) ((xs_Set0 hk) _ _) rfl dX8_blank_29 ?_
    refine lv_iload_n hx hb dX8_blank_32 rfl (lv_at hl 1 rfl) ?_
    refine lv_iconst (v := 0) hx hb dX8_blank_33 (by decide) ?_
    refine g_iast C hw (xl_Set3 hk) (xs_Set3 hk) h.1 dX8_blank_34 (fun H locs hw => ?_)
    have h := h.2
    have h := h _ rfl
    refine lv_iinc (v := x1 + 1) (lv' := [(1, .int (x1 + 1)), (0, .ref (ad k))]) hx hb dX8_blank_35 hl (k := 1) rfl rfl (by decide) rfl (fun ls hl => ?_)
    refine lv_goto (tgt := 23) hx hb dX8_blank_38 (by decide) ?_
    exact hL23 h hw (lv_sub hl [1, 0] rfl)
theorem wl_X8_blank_23 {Q : MI → MJ → Prop} (C : gC RX8 cX8_blank 2 none 66 ad cy D (xF ad ts) p s m args meth c) {k : Nat} (hk : isSet k) {x1 : Int32} {I : MI} {J : MJ} {H : Heap} {locs : List Loc} {ls : Array Slot} (h : lpx (P_X8_blank_23 k Q) (x1, I, J)) (hw : gH (xS ad cy) 66 ad D s I J H locs) (hl : lv_has ls 2 [(0, .ref (ad k)), (1, .int x1)]) : W p l e rmX8_blank s m args below meth c H locs 0 0 (MQ below (gQv (xS ad cy) 66 ad cy D (xF ad ts) Q) args s 0 0 (gA 66 ad)) (F0 m 23 ls []) := by
  obtain ⟨n, h⟩ := h
  induction n generalizing x1 I J H locs ls with
  | zero => exact False.elim h
  | succ n ih => exact w_X8_blank_23 C hk (fun hk9 hw9 hl9 => ih hk9 hw9 hl9) h hw hl
set_option maxHeartbeats 4000000 in
set_option maxRecDepth 100000 in
theorem w_X8_blank_2 {Q : MI → MJ → Prop} (C : gC RX8 cX8_blank 2 none 66 ad cy D (xF ad ts) p s m args meth c) {k : Nat} (hk : isSet k) {kL2 : Int32 × MI × MJ → Prop} (hL2 : ∀ {x1 : Int32} {I : MI} {J : MJ} {H : Heap} {locs : List Loc} {ls : Array Slot}, kL2 (x1, I, J) → gH (xS ad cy) 66 ad D s I J H locs → lv_has ls 2 [(0, .ref (ad k)), (1, .int x1)] → W p l e rmX8_blank s m args below meth c H locs 0 0 (MQ below (gQv (xS ad cy) 66 ad cy D (xF ad ts) Q) args s 0 0 (gA 66 ad)) (F0 m 2 ls [])) {x1 : Int32} {I : MI} {J : MJ} {H : Heap} {locs : List Loc} {ls : Array Slot} (h : P_X8_blank_2 k Q kL2 (x1, I, J)) (hw : gH (xS ad cy) 66 ad D s I J H locs) (hl : lv_has ls 2 [(0, .ref (ad k)), (1, .int x1)]) : W p l e rmX8_blank s m args below meth c H locs 0 0 (MQ below (gQv (xS ad cy) 66 ad cy D (xF ad ts) Q) args s 0 0 (gA 66 ad)) (F0 m 2 ls []) := by
  obtain ⟨hx, hb, hC⟩ := id C
  refine lv_iload_n hx hb dX8_blank_2 rfl (lv_at hl 1 rfl) ?_
  refine lv_bipush (v := 8) hx hb dX8_blank_3 (by decide) ?_
  refine lv_icmp_ge (tgt := 21) hx hb dX8_blank_5 (by decide) (fun c5 => ?_) (fun c5 => ?_)
  · have h := h.1 c5
    refine lv_iconst (v := 0) hx hb dX8_blank_21 (by decide) ?_
    refine lv_istore_n (lv' := [(1, .int (0 : Int32)), (0, .ref (ad k))]) hx hb dX8_blank_22 rfl hl (by decide) rfl (fun ls hl => ?_)
    exact wl_X8_blank_23 C hk h hw (lv_sub hl [1, 0] rfl)
  · have h := h.2 c5
    refine lv_aload_n hx hb dX8_blank_8 rfl (lv_at hl 0 rfl) ?_
    refine g_get C hw f_RX8_9 (xl_Set0 hk) ((xs_Set0 hk) _ _) rfl dX8_blank_9 ?_
    refine lv_iload_n hx hb dX8_blank_12 rfl (lv_at hl 1 rfl) ?_
    refine lv_iconst (v := 0) hx hb dX8_blank_13 (by decide) ?_
    refine g_iast C hw (xl_Set1 hk) (xs_Set1 hk) h.1 dX8_blank_14 (fun H locs hw => ?_)
    have h := h.2
    have h := h _ rfl
    refine lv_iinc (v := x1 + 1) (lv' := [(1, .int (x1 + 1)), (0, .ref (ad k))]) hx hb dX8_blank_15 hl (k := 1) rfl rfl (by decide) rfl (fun ls hl => ?_)
    refine lv_goto (tgt := 2) hx hb dX8_blank_18 (by decide) ?_
    exact hL2 h hw (lv_sub hl [1, 0] rfl)
theorem wl_X8_blank_2 {Q : MI → MJ → Prop} (C : gC RX8 cX8_blank 2 none 66 ad cy D (xF ad ts) p s m args meth c) {k : Nat} (hk : isSet k) {x1 : Int32} {I : MI} {J : MJ} {H : Heap} {locs : List Loc} {ls : Array Slot} (h : lpx (P_X8_blank_2 k Q) (x1, I, J)) (hw : gH (xS ad cy) 66 ad D s I J H locs) (hl : lv_has ls 2 [(0, .ref (ad k)), (1, .int x1)]) : W p l e rmX8_blank s m args below meth c H locs 0 0 (MQ below (gQv (xS ad cy) 66 ad cy D (xF ad ts) Q) args s 0 0 (gA 66 ad)) (F0 m 2 ls []) := by
  obtain ⟨n, h⟩ := h
  induction n generalizing x1 I J H locs ls with
  | zero => exact False.elim h
  | succ n ih => exact w_X8_blank_2 C hk (fun hk9 hw9 hl9 => ih hk9 hw9 hl9) h hw hl
set_option maxHeartbeats 4000000 in
set_option maxRecDepth 100000 in
theorem w_X8_blank {Q : MI → MJ → Prop} (C : gC RX8 cX8_blank 2 none 66 ad cy D (xF ad ts) p s m args meth c) {k : Nat} (hk : isSet k) {I : MI} {J : MJ} {H : Heap} {locs : List Loc} {ls : Array Slot} (h : P_X8_blank k I J Q) (hw : gH (xS ad cy) 66 ad D s I J H locs) (hl : lv_has ls 2 [(0, .ref (ad k))]) : W p l e rmX8_blank s m args below meth c H locs 0 0 (MQ below (gQv (xS ad cy) 66 ad cy D (xF ad ts) Q) args s 0 0 (gA 66 ad)) (F0 m 0 ls []) := by
  obtain ⟨hx, hb, hC⟩ := id C
  refine lv_iconst (v := 0) hx hb dX8_blank_0 (by decide) ?_
  refine lv_istore_n (lv' := [(1, .int (0 : Int32)), (0, .ref (ad k))]) hx hb dX8_blank_1 rfl hl (by decide) rfl (fun ls hl => ?_)
  exact wl_X8_blank_2 C hk h hw (lv_sub hl [1, 0] rfl)
theorem m_X8_blank {l : Launch} {k : Nat} (hk : isSet k) {Q : MI → MJ → Prop} {I : MI} {J : MJ} (h : P_X8_blank k I J Q) : Met l yX8_blank (xws yX8_blank cX8_blank 2 none) rmX8_blank (va_Pc [.ref (ad k)] (gB (xS ad cy) 66 ad cy D (xF ad ts) I J)) (gQv (xS ad cy) 66 ad cy D (xF ad ts) Q) 0 0 (gA 66 ad) :=
  g_met (xF_ok ad ts) rfl (by decide) (Nat.le_of_ble_eq_true rfl) (fun p e s m below meth c ls C hw hl => w_X8_blank C hk h hw hl)
/-! BagPhrases$Lexicon.open()Z -/
def P_X5_open (k : Nat) (I : MI) (J : MJ) (Q : Int32 → MI → MJ → Prop) : Prop :=
  (((I k 4) < (10 : Int32) → vp_in (I k 4) 10 ∧ (∀ I20 : MI, I20 = mI I (k + 2) (I k 4).toNatClampNeg (0 : Int32) → vp_in (I20 k 4) 10 ∧ (∀ J30 : MJ, J30 = mJ J (k + 3) (I20 k 4).toNatClampNeg (0 : Int64) → (∀ I38 : MI, I38 = mI I20 k 4 ((I20 k 4) + (1 : Int32)) → Q (1 : Int32) I38 J30)))) ∧ (¬ (I k 4) < (10 : Int32) → Q (0 : Int32) I J))
abbrev rmX5_open : Room := { frames := 0, cells := 0, slots := 0, locals := 0 }
set_option maxHeartbeats 4000000 in
set_option maxRecDepth 100000 in
theorem w_X5_open {Q : Int32 → MI → MJ → Prop} (C : gC RX5 cX5_open 1 (some .boolean) 66 ad cy D (xF ad ts) p s m args meth c) {k : Nat} (hk : isLex k) {I : MI} {J : MJ} {H : Heap} {locs : List Loc} {ls : Array Slot} (h : P_X5_open k I J Q) (hw : gH (xS ad cy) 66 ad D s I J H locs) (hl : lv_has ls 1 [(0, .ref (ad k))]) : W p l e rmX5_open s m args below meth c H locs 0 0 (MQ below (gQz (xS ad cy) 66 ad cy D (xF ad ts) Q) args s 0 0 (gA 66 ad)) (F0 m 0 ls []) := by
  obtain ⟨hx, hb, hC⟩ := id C
  refine lv_aload_n hx hb dX5_open_0 rfl (lv_at hl 0 rfl) ?_
  refine g_get C hw f_RX5_25 (xl_Lex0 hk) ((xs_Lex0 hk) _ _) rfl dX5_open_1 ?_
  refine lv_bipush (v := 10) hx hb dX5_open_4 (by decide) ?_
  refine lv_icmp_lt (tgt := 11) hx hb dX5_open_6 (by decide) (fun c6 => ?_) (fun c6 => ?_)
  · have h := h.1 c6
    refine lv_aload_n hx hb dX5_open_11 rfl (lv_at hl 0 rfl) ?_
    refine g_get C hw f_RX5_15 (xl_Lex0 hk) ((xs_Lex0 hk) _ _) rfl dX5_open_12 ?_
    refine lv_aload_n hx hb dX5_open_15 rfl (lv_at hl 0 rfl) ?_
    refine g_get C hw f_RX5_25 (xl_Lex0 hk) ((xs_Lex0 hk) _ _) rfl dX5_open_16 ?_
    refine lv_iconst (v := 0) hx hb dX5_open_19 (by decide) ?_
    refine g_iast C hw (xl_Lex2 hk) (xs_Lex2 hk) h.1 dX5_open_20 (fun H locs hw => ?_)
    have h := h.2
    have h := h _ rfl
    refine lv_aload_n hx hb dX5_open_21 rfl (lv_at hl 0 rfl) ?_
    refine g_get C hw f_RX5_18 (xl_Lex0 hk) ((xs_Lex0 hk) _ _) rfl dX5_open_22 ?_
    refine lv_aload_n hx hb dX5_open_25 rfl (lv_at hl 0 rfl) ?_
    refine g_get C hw f_RX5_25 (xl_Lex0 hk) ((xs_Lex0 hk) _ _) rfl dX5_open_26 ?_
    refine lv_lconst (v := 0) hx hb dX5_open_29 (by decide) ?_
    refine g_last C hw (xl_Lex3 hk) (xs_Lex3 hk) h.1 dX5_open_30 (fun H locs hw => ?_)
    have h := h.2
    have h := h _ rfl
    refine lv_aload_n hx hb dX5_open_31 rfl (lv_at hl 0 rfl) ?_
    refine lv_dup hx hb dX5_open_32 rfl ?_
    refine g_get C hw f_RX5_25 (xl_Lex0 hk) ((xs_Lex0 hk) _ _) rfl dX5_open_33 ?_
    refine lv_iconst (v := 1) hx hb dX5_open_36 (by decide) ?_
    refine lv_iadd hx hb dX5_open_37 ?_
    refine g_putI C hw fp_RX5_25 (xl_Lex0 hk) (xs_Lex0 hk) (st_5_4 ad _ _) (Nat.le_of_ble_eq_true rfl) rfl rfl dX5_open_38 (fun H locs hw => ?_)
    have h := h _ rfl
    refine lv_iconst (v := 1) hx hb dX5_open_41 (by decide) ?_
    exact g_zret C hw (by decide) h dX5_open_42
  · have h := h.2 c6
    refine lv_iconst (v := 0) hx hb dX5_open_9 (by decide) ?_
    exact g_zret C hw (by decide) h dX5_open_10
theorem m_X5_open {l : Launch} {k : Nat} (hk : isLex k) {Q : Int32 → MI → MJ → Prop} {I : MI} {J : MJ} (h : P_X5_open k I J Q) : Met l yX5_open (xws yX5_open cX5_open 1 (some .boolean)) rmX5_open (va_Pc [.ref (ad k)] (gB (xS ad cy) 66 ad cy D (xF ad ts) I J)) (gQz (xS ad cy) 66 ad cy D (xF ad ts) Q) 0 0 (gA 66 ad) :=
  g_met (xF_ok ad ts) rfl (by decide) (Nat.le_of_ble_eq_true rfl) (fun p e s m below meth c ls C hw hl => w_X5_open C hk h hw hl)
/-! BagPhrases$Setting.letters()I -/
def P_X8_letters_4 (k : Nat) (Q : Int32 → MI → MJ → Prop) (kL4 : Int32 × Int32 × MI × MJ → Prop) : Int32 × Int32 × MI × MJ → Prop := fun z => match z with
  | (x1, x2, I, J) => (((8 : Int32) ≤ x2 → Q x1 I J) ∧ (¬ (8 : Int32) ≤ x2 → vp_in x2 8 ∧ (kL4 ((x1 + (I (k + 1) x2.toNatClampNeg)), (x2 + 1), I, J))))
def P_X8_letters (k : Nat) (I : MI) (J : MJ) (Q : Int32 → MI → MJ → Prop) : Prop :=
  lpx (P_X8_letters_4 k Q) ((0 : Int32), (0 : Int32), I, J)
abbrev rmX8_letters : Room := { frames := 0, cells := 0, slots := 0, locals := 0 }
set_option maxHeartbeats 4000000 in
set_option maxRecDepth 100000 in
theorem w_X8_letters_4 {Q : Int32 → MI → MJ → Prop} (C : gC RX8 cX8_letters 3 (some .int) 66 ad cy D (xF ad ts) p s m args meth c) {k : Nat} (hk : isSet k) {kL4 : Int32 × Int32 × MI × MJ → Prop} (hL4 : ∀ {x1 : Int32} {x2 : Int32} {I : MI} {J : MJ} {H : Heap} {locs : List Loc} {ls : Array Slot}, kL4 (x1, x2, I, J) → gH (xS ad cy) 66 ad D s I J H locs → lv_has ls 3 [(0, .ref (ad k)), (1, .int x1), (2, .int x2)] → W p l e rmX8_letters s m args below meth c H locs 0 0 (MQ below (gQi (xS ad cy) 66 ad cy D (xF ad ts) Q) args s 0 0 (gA 66 ad)) (F0 m 4 ls [])) {x1 : Int32} {x2 : Int32} {I : MI} {J : MJ} {H : Heap} {locs : List Loc} {ls : Array Slot} (h : P_X8_letters_4 k Q kL4 (x1, x2, I, J)) (hw : gH (xS ad cy) 66 ad D s I J H locs) (hl : lv_has ls 3 [(0, .ref (ad k)), (1, .int x1), (2, .int x2)]) : W p l e rmX8_letters s m args below meth c H locs 0 0 (MQ below (gQi (xS ad cy) 66 ad cy D (xF ad ts) Q) args s 0 0 (gA 66 ad)) (F0 m 4 ls []) := by
  obtain ⟨hx, hb, hC⟩ := id C
  refine lv_iload_n hx hb dX8_letters_4 rfl (lv_at hl 2 rfl) ?_
  refine lv_bipush (v := 8) hx hb dX8_letters_5 (by decide) ?_
  refine lv_icmp_ge (tgt := 25) hx hb dX8_letters_7 (by decide) (fun c7 => ?_) (fun c7 => ?_)
  · have h := h.1 c7
    refine lv_iload_n hx hb dX8_letters_25 rfl (lv_at hl 1 rfl) ?_
    exact g_iret C hw h dX8_letters_26
  · have h := h.2 c7
    refine lv_iload_n hx hb dX8_letters_10 rfl (lv_at hl 1 rfl) ?_
    refine lv_aload_n hx hb dX8_letters_11 rfl (lv_at hl 0 rfl) ?_
    refine g_get C hw f_RX8_9 (xl_Set0 hk) ((xs_Set0 hk) _ _) rfl dX8_letters_12 ?_
    refine lv_iload_n hx hb dX8_letters_15 rfl (lv_at hl 2 rfl) ?_
    refine g_iald C hw (xl_Set1 hk) (xs_Set1 hk) h.1 dX8_letters_16 ?_
    have h := h.2
    refine lv_iadd hx hb dX8_letters_17 ?_
    refine lv_istore_n (lv' := [(1, .int (x1 + (I (k + 1) x2.toNatClampNeg))), (0, .ref (ad k)), (2, .int x2)]) hx hb dX8_letters_18 rfl hl (by decide) rfl (fun ls hl => ?_)
    refine lv_iinc (v := x2 + 1) (lv' := [(2, .int (x2 + 1)), (1, .int (x1 + (I (k + 1) x2.toNatClampNeg))), (0, .ref (ad k))]) hx hb dX8_letters_19 hl (k := 2) rfl rfl (by decide) rfl (fun ls hl => ?_)
    refine lv_goto (tgt := 4) hx hb dX8_letters_22 (by decide) ?_
    exact hL4 h hw (lv_sub hl [2, 1, 0] rfl)
theorem wl_X8_letters_4 {Q : Int32 → MI → MJ → Prop} (C : gC RX8 cX8_letters 3 (some .int) 66 ad cy D (xF ad ts) p s m args meth c) {k : Nat} (hk : isSet k) {x1 : Int32} {x2 : Int32} {I : MI} {J : MJ} {H : Heap} {locs : List Loc} {ls : Array Slot} (h : lpx (P_X8_letters_4 k Q) (x1, x2, I, J)) (hw : gH (xS ad cy) 66 ad D s I J H locs) (hl : lv_has ls 3 [(0, .ref (ad k)), (1, .int x1), (2, .int x2)]) : W p l e rmX8_letters s m args below meth c H locs 0 0 (MQ below (gQi (xS ad cy) 66 ad cy D (xF ad ts) Q) args s 0 0 (gA 66 ad)) (F0 m 4 ls []) := by
  obtain ⟨n, h⟩ := h
  induction n generalizing x1 x2 I J H locs ls with
  | zero => exact False.elim h
  | succ n ih => exact w_X8_letters_4 C hk (fun hk9 hw9 hl9 => ih hk9 hw9 hl9) h hw hl
set_option maxHeartbeats 4000000 in
set_option maxRecDepth 100000 in
theorem w_X8_letters {Q : Int32 → MI → MJ → Prop} (C : gC RX8 cX8_letters 3 (some .int) 66 ad cy D (xF ad ts) p s m args meth c) {k : Nat} (hk : isSet k) {I : MI} {J : MJ} {H : Heap} {locs : List Loc} {ls : Array Slot} (h : P_X8_letters k I J Q) (hw : gH (xS ad cy) 66 ad D s I J H locs) (hl : lv_has ls 3 [(0, .ref (ad k))]) : W p l e rmX8_letters s m args below meth c H locs 0 0 (MQ below (gQi (xS ad cy) 66 ad cy D (xF ad ts) Q) args s 0 0 (gA 66 ad)) (F0 m 0 ls []) := by
  obtain ⟨hx, hb, hC⟩ := id C
  refine lv_iconst (v := 0) hx hb dX8_letters_0 (by decide) ?_
  refine lv_istore_n (lv' := [(1, .int (0 : Int32)), (0, .ref (ad k))]) hx hb dX8_letters_1 rfl hl (by decide) rfl (fun ls hl => ?_)
  refine lv_iconst (v := 0) hx hb dX8_letters_2 (by decide) ?_
  refine lv_istore_n (lv' := [(2, .int (0 : Int32)), (1, .int (0 : Int32)), (0, .ref (ad k))]) hx hb dX8_letters_3 rfl hl (by decide) rfl (fun ls hl => ?_)
  exact wl_X8_letters_4 C hk h hw (lv_sub hl [2, 1, 0] rfl)
theorem m_X8_letters {l : Launch} {k : Nat} (hk : isSet k) {Q : Int32 → MI → MJ → Prop} {I : MI} {J : MJ} (h : P_X8_letters k I J Q) : Met l yX8_letters (xws yX8_letters cX8_letters 3 (some .int)) rmX8_letters (va_Pc [.ref (ad k)] (gB (xS ad cy) 66 ad cy D (xF ad ts) I J)) (gQi (xS ad cy) 66 ad cy D (xF ad ts) Q) 0 0 (gA 66 ad) :=
  g_met (xF_ok ad ts) rfl (by decide) (Nat.le_of_ble_eq_true rfl) (fun p e s m below meth c ls C hw hl => w_X8_letters C hk h hw hl)
/-! BagPhrases$Setting.allFollow()Z -/
def P_X8_allFollow_2 (k : Nat) (Q : Int32 → MI → MJ → Prop) (kL2 : Int32 × MI × MJ → Prop) : Int32 × MI × MJ → Prop := fun z => match z with
  | (x1, I, J) => (((4 : Int32) ≤ x1 → Q (1 : Int32) I J) ∧ (¬ (4 : Int32) ≤ x1 → vp_in x1 4 ∧ ((((I (k + 3) x1.toNatClampNeg) = (15 : Int32) → kL2 ((x1 + 1), I, J)) ∧ (¬ (I (k + 3) x1.toNatClampNeg) = (15 : Int32) → Q (0 : Int32) I J)))))
def P_X8_allFollow (k : Nat) (I : MI) (J : MJ) (Q : Int32 → MI → MJ → Prop) : Prop :=
  lpx (P_X8_allFollow_2 k Q) ((0 : Int32), I, J)
abbrev rmX8_allFollow : Room := { frames := 0, cells := 0, slots := 0, locals := 0 }
set_option maxHeartbeats 4000000 in
set_option maxRecDepth 100000 in
theorem w_X8_allFollow_2 {Q : Int32 → MI → MJ → Prop} (C : gC RX8 cX8_allFollow 2 (some .boolean) 66 ad cy D (xF ad ts) p s m args meth c) {k : Nat} (hk : isSet k) {kL2 : Int32 × MI × MJ → Prop} (hL2 : ∀ {x1 : Int32} {I : MI} {J : MJ} {H : Heap} {locs : List Loc} {ls : Array Slot}, kL2 (x1, I, J) → gH (xS ad cy) 66 ad D s I J H locs → lv_has ls 2 [(0, .ref (ad k)), (1, .int x1)] → W p l e rmX8_allFollow s m args below meth c H locs 0 0 (MQ below (gQz (xS ad cy) 66 ad cy D (xF ad ts) Q) args s 0 0 (gA 66 ad)) (F0 m 2 ls [])) {x1 : Int32} {I : MI} {J : MJ} {H : Heap} {locs : List Loc} {ls : Array Slot} (h : P_X8_allFollow_2 k Q kL2 (x1, I, J)) (hw : gH (xS ad cy) 66 ad D s I J H locs) (hl : lv_has ls 2 [(0, .ref (ad k)), (1, .int x1)]) : W p l e rmX8_allFollow s m args below meth c H locs 0 0 (MQ below (gQz (xS ad cy) 66 ad cy D (xF ad ts) Q) args s 0 0 (gA 66 ad)) (F0 m 2 ls []) := by
  obtain ⟨hx, hb, hC⟩ := id C
  refine lv_iload_n hx hb dX8_allFollow_2 rfl (lv_at hl 1 rfl) ?_
  refine lv_iconst (v := 4) hx hb dX8_allFollow_3 (by decide) ?_
  refine lv_icmp_ge (tgt := 26) hx hb dX8_allFollow_4 (by decide) (fun c4 => ?_) (fun c4 => ?_)
  · have h := h.1 c4
    refine lv_iconst (v := 1) hx hb dX8_allFollow_26 (by decide) ?_
    exact g_zret C hw (by decide) h dX8_allFollow_27
  · have h := h.2 c4
    refine lv_aload_n hx hb dX8_allFollow_7 rfl (lv_at hl 0 rfl) ?_
    refine g_get C hw f_RX8_18 (xl_Set0 hk) ((xs_Set0 hk) _ _) rfl dX8_allFollow_8 ?_
    refine lv_iload_n hx hb dX8_allFollow_11 rfl (lv_at hl 1 rfl) ?_
    refine g_iald C hw (xl_Set3 hk) (xs_Set3 hk) h.1 dX8_allFollow_12 ?_
    have h := h.2
    refine lv_bipush (v := 15) hx hb dX8_allFollow_13 (by decide) ?_
    refine lv_icmp_eq (tgt := 20) hx hb dX8_allFollow_15 (by decide) (fun c15 => ?_) (fun c15 => ?_)
    · have h := h.1 c15
      refine lv_iinc (v := x1 + 1) (lv' := [(1, .int (x1 + 1)), (0, .ref (ad k))]) hx hb dX8_allFollow_20 hl (k := 1) rfl rfl (by decide) rfl (fun ls hl => ?_)
      refine lv_goto (tgt := 2) hx hb dX8_allFollow_23 (by decide) ?_
      exact hL2 h hw (lv_sub hl [1, 0] rfl)
    · have h := h.2 c15
      refine lv_iconst (v := 0) hx hb dX8_allFollow_18 (by decide) ?_
      exact g_zret C hw (by decide) h dX8_allFollow_19
theorem wl_X8_allFollow_2 {Q : Int32 → MI → MJ → Prop} (C : gC RX8 cX8_allFollow 2 (some .boolean) 66 ad cy D (xF ad ts) p s m args meth c) {k : Nat} (hk : isSet k) {x1 : Int32} {I : MI} {J : MJ} {H : Heap} {locs : List Loc} {ls : Array Slot} (h : lpx (P_X8_allFollow_2 k Q) (x1, I, J)) (hw : gH (xS ad cy) 66 ad D s I J H locs) (hl : lv_has ls 2 [(0, .ref (ad k)), (1, .int x1)]) : W p l e rmX8_allFollow s m args below meth c H locs 0 0 (MQ below (gQz (xS ad cy) 66 ad cy D (xF ad ts) Q) args s 0 0 (gA 66 ad)) (F0 m 2 ls []) := by
  obtain ⟨n, h⟩ := h
  induction n generalizing x1 I J H locs ls with
  | zero => exact False.elim h
  | succ n ih => exact w_X8_allFollow_2 C hk (fun hk9 hw9 hl9 => ih hk9 hw9 hl9) h hw hl
set_option maxHeartbeats 4000000 in
set_option maxRecDepth 100000 in
theorem w_X8_allFollow {Q : Int32 → MI → MJ → Prop} (C : gC RX8 cX8_allFollow 2 (some .boolean) 66 ad cy D (xF ad ts) p s m args meth c) {k : Nat} (hk : isSet k) {I : MI} {J : MJ} {H : Heap} {locs : List Loc} {ls : Array Slot} (h : P_X8_allFollow k I J Q) (hw : gH (xS ad cy) 66 ad D s I J H locs) (hl : lv_has ls 2 [(0, .ref (ad k))]) : W p l e rmX8_allFollow s m args below meth c H locs 0 0 (MQ below (gQz (xS ad cy) 66 ad cy D (xF ad ts) Q) args s 0 0 (gA 66 ad)) (F0 m 0 ls []) := by
  obtain ⟨hx, hb, hC⟩ := id C
  refine lv_iconst (v := 0) hx hb dX8_allFollow_0 (by decide) ?_
  refine lv_istore_n (lv' := [(1, .int (0 : Int32)), (0, .ref (ad k))]) hx hb dX8_allFollow_1 rfl hl (by decide) rfl (fun ls hl => ?_)
  exact wl_X8_allFollow_2 C hk h hw (lv_sub hl [1, 0] rfl)
theorem m_X8_allFollow {l : Launch} {k : Nat} (hk : isSet k) {Q : Int32 → MI → MJ → Prop} {I : MI} {J : MJ} (h : P_X8_allFollow k I J Q) : Met l yX8_allFollow (xws yX8_allFollow cX8_allFollow 2 (some .boolean)) rmX8_allFollow (va_Pc [.ref (ad k)] (gB (xS ad cy) 66 ad cy D (xF ad ts) I J)) (gQz (xS ad cy) 66 ad cy D (xF ad ts) Q) 0 0 (gA 66 ad) :=
  g_met (xF_ok ad ts) rfl (by decide) (Nat.le_of_ble_eq_true rfl) (fun p e s m below meth c ls C hw hl => w_X8_allFollow C hk h hw hl)
/-! BagPhrases$Lexicon.spell(I)Z -/
def P_X5_spell (k : Nat) (a0 : Int32) (I : MI) (J : MJ) (Q : Int32 → MI → MJ → Prop) : Prop :=
  ((((I k 4) - (1 : Int32)) < 0 → Q (0 : Int32) I J) ∧ (¬ ((I k 4) - (1 : Int32)) < 0 → vp_in ((I k 4) - (1 : Int32)) 10 ∧ ((((I (k + 2) ((I k 4) - (1 : Int32)).toNatClampNeg) < (6 : Int32) → vp_in ((I k 4) - (1 : Int32)) 10 ∧ (vp_in ((((I k 4) - (1 : Int32)) * (6 : Int32)) + (I (k + 2) ((I k 4) - (1 : Int32)).toNatClampNeg)) 60 ∧ (∀ I40 : MI, I40 = mI I (k + 4) ((((I k 4) - (1 : Int32)) * (6 : Int32)) + (I (k + 2) ((I k 4) - (1 : Int32)).toNatClampNeg)).toNatClampNeg a0 → vp_in ((I k 4) - (1 : Int32)) 10 ∧ (vp_in ((I k 4) - (1 : Int32)) 10 ∧ (∀ I50 : MI, I50 = mI I40 (k + 2) ((I k 4) - (1 : Int32)).toNatClampNeg ((I40 (k + 2) ((I k 4) - (1 : Int32)).toNatClampNeg) + (1 : Int32)) → vp_in ((I k 4) - (1 : Int32)) 10 ∧ (vp_in ((I k 4) - (1 : Int32)) 10 ∧ (∀ J64 : MJ, J64 = mJ J (k + 3) ((I k 4) - (1 : Int32)).toNatClampNeg ((J (k + 3) ((I k 4) - (1 : Int32)).toNatClampNeg) + ((1 : Int64) <<< (((5 : Int32) * a0).toInt64 &&& 63))) → Q (1 : Int32) I50 J64))))))) ∧ (¬ (I (k + 2) ((I k 4) - (1 : Int32)).toNatClampNeg) < (6 : Int32) → Q (0 : Int32) I J)))))
abbrev rmX5_spell : Room := { frames := 0, cells := 0, slots := 0, locals := 0 }
set_option maxHeartbeats 4000000 in
set_option maxRecDepth 100000 in
theorem w_X5_spell {Q : Int32 → MI → MJ → Prop} (C : gC RX5 cX5_spell 3 (some .boolean) 66 ad cy D (xF ad ts) p s m args meth c) {k : Nat} (hk : isLex k) {a0 : Int32} {I : MI} {J : MJ} {H : Heap} {locs : List Loc} {ls : Array Slot} (h : P_X5_spell k a0 I J Q) (hw : gH (xS ad cy) 66 ad D s I J H locs) (hl : lv_has ls 3 [(0, .ref (ad k)), (1, .int a0)]) : W p l e rmX5_spell s m args below meth c H locs 0 0 (MQ below (gQz (xS ad cy) 66 ad cy D (xF ad ts) Q) args s 0 0 (gA 66 ad)) (F0 m 0 ls []) := by
  obtain ⟨hx, hb, hC⟩ := id C
  refine lv_aload_n hx hb dX5_spell_0 rfl (lv_at hl 0 rfl) ?_
  refine g_get C hw f_RX5_25 (xl_Lex0 hk) ((xs_Lex0 hk) _ _) rfl dX5_spell_1 ?_
  refine lv_iconst (v := 1) hx hb dX5_spell_4 (by decide) ?_
  refine lv_isub hx hb dX5_spell_5 ?_
  refine lv_istore_n (lv' := [(2, .int ((I k 4) - (1 : Int32))), (0, .ref (ad k)), (1, .int a0)]) hx hb dX5_spell_6 rfl hl (by decide) rfl (fun ls hl => ?_)
  refine lv_iload_n hx hb dX5_spell_7 rfl (lv_at hl 0 rfl) ?_
  refine lv_if_lt (tgt := 22) hx hb dX5_spell_8 (by decide) (fun c8 => ?_) (fun c8 => ?_)
  · have h := h.1 c8
    refine lv_iconst (v := 0) hx hb dX5_spell_22 (by decide) ?_
    exact g_zret C hw (by decide) h dX5_spell_23
  · have h := h.2 c8
    refine lv_aload_n hx hb dX5_spell_11 rfl (lv_at hl 1 rfl) ?_
    refine g_get C hw f_RX5_15 (xl_Lex0 hk) ((xs_Lex0 hk) _ _) rfl dX5_spell_12 ?_
    refine lv_iload_n hx hb dX5_spell_15 rfl (lv_at hl 0 rfl) ?_
    refine g_iald C hw (xl_Lex2 hk) (xs_Lex2 hk) h.1 dX5_spell_16 ?_
    have h := h.2
    refine lv_bipush (v := 6) hx hb dX5_spell_17 (by decide) ?_
    refine lv_icmp_lt (tgt := 24) hx hb dX5_spell_19 (by decide) (fun c19 => ?_) (fun c19 => ?_)
    · have h := h.1 c19
      refine lv_aload_n hx hb dX5_spell_24 rfl (lv_at hl 1 rfl) ?_
      refine g_get C hw f_RX5_22 (xl_Lex0 hk) ((xs_Lex0 hk) _ _) rfl dX5_spell_25 ?_
      refine lv_iload_n hx hb dX5_spell_28 rfl (lv_at hl 0 rfl) ?_
      refine lv_bipush (v := 6) hx hb dX5_spell_29 (by decide) ?_
      refine lv_imul hx hb dX5_spell_31 ?_
      refine lv_aload_n hx hb dX5_spell_32 rfl (lv_at hl 1 rfl) ?_
      refine g_get C hw f_RX5_15 (xl_Lex0 hk) ((xs_Lex0 hk) _ _) rfl dX5_spell_33 ?_
      refine lv_iload_n hx hb dX5_spell_36 rfl (lv_at hl 0 rfl) ?_
      refine g_iald C hw (xl_Lex2 hk) (xs_Lex2 hk) h.1 dX5_spell_37 ?_
      have h := h.2
      refine lv_iadd hx hb dX5_spell_38 ?_
      refine lv_iload_n hx hb dX5_spell_39 rfl (lv_at hl 2 rfl) ?_
      refine g_iast C hw (xl_Lex4 hk) (xs_Lex4 hk) h.1 dX5_spell_40 (fun H locs hw => ?_)
      have h := h.2
      have h := h _ rfl
      refine lv_aload_n hx hb dX5_spell_41 rfl (lv_at hl 1 rfl) ?_
      refine g_get C hw f_RX5_15 (xl_Lex0 hk) ((xs_Lex0 hk) _ _) rfl dX5_spell_42 ?_
      refine lv_iload_n hx hb dX5_spell_45 rfl (lv_at hl 0 rfl) ?_
      refine lv_dup2_11 hx hb dX5_spell_46 rfl rfl ?_
      refine g_iald C hw (xl_Lex2 hk) (xs_Lex2 hk) h.1 dX5_spell_47 ?_
      have h := h.2
      refine lv_iconst (v := 1) hx hb dX5_spell_48 (by decide) ?_
      refine lv_iadd hx hb dX5_spell_49 ?_
      refine g_iast C hw (xl_Lex2 hk) (xs_Lex2 hk) h.1 dX5_spell_50 (fun H locs hw => ?_)
      have h := h.2
      have h := h _ rfl
      refine lv_aload_n hx hb dX5_spell_51 rfl (lv_at hl 1 rfl) ?_
      refine g_get C hw f_RX5_18 (xl_Lex0 hk) ((xs_Lex0 hk) _ _) rfl dX5_spell_52 ?_
      refine lv_iload_n hx hb dX5_spell_55 rfl (lv_at hl 0 rfl) ?_
      refine lv_dup2_11 hx hb dX5_spell_56 rfl rfl ?_
      refine g_lald C hw (xl_Lex3 hk) (xs_Lex3 hk) h.1 dX5_spell_57 ?_
      have h := h.2
      refine lv_lconst (v := 1) hx hb dX5_spell_58 (by decide) ?_
      refine lv_iconst (v := 5) hx hb dX5_spell_59 (by decide) ?_
      refine lv_iload_n hx hb dX5_spell_60 rfl (lv_at hl 2 rfl) ?_
      refine lv_imul hx hb dX5_spell_61 ?_
      refine lv_lshl hx hb dX5_spell_62 rfl ?_
      refine lv_ladd hx hb dX5_spell_63 ?_
      refine g_last C hw (xl_Lex3 hk) (xs_Lex3 hk) h.1 dX5_spell_64 (fun H locs hw => ?_)
      have h := h.2
      have h := h _ rfl
      refine lv_iconst (v := 1) hx hb dX5_spell_65 (by decide) ?_
      exact g_zret C hw (by decide) h dX5_spell_66
    · have h := h.2 c19
      refine lv_iconst (v := 0) hx hb dX5_spell_22 (by decide) ?_
      exact g_zret C hw (by decide) h dX5_spell_23
theorem m_X5_spell {l : Launch} {k : Nat} (hk : isLex k) {a0 : Int32} {Q : Int32 → MI → MJ → Prop} {I : MI} {J : MJ} (h : P_X5_spell k a0 I J Q) : Met l yX5_spell (xws yX5_spell cX5_spell 3 (some .boolean)) rmX5_spell (va_Pc [.ref (ad k), .int a0] (gB (xS ad cy) 66 ad cy D (xF ad ts) I J)) (gQz (xS ad cy) 66 ad cy D (xF ad ts) Q) 0 0 (gA 66 ad) :=
  g_met (xF_ok ad ts) rfl (by decide) (Nat.le_of_ble_eq_true rfl) (fun p e s m below meth c ls C hw hl => w_X5_spell C hk h hw hl)
/-! BagPhrases$Lexicon.close(I)Z -/
def P_X5_close (k : Nat) (a0 : Int32) (I : MI) (J : MJ) (Q : Int32 → MI → MJ → Prop) : Prop :=
  ((((I k 4) - (1 : Int32)) < 0 → Q (0 : Int32) I J) ∧ (¬ ((I k 4) - (1 : Int32)) < 0 → vp_in ((I k 4) - (1 : Int32)) 10 ∧ (((¬ (I (k + 2) ((I k 4) - (1 : Int32)).toNatClampNeg) = 0 → vp_in ((I k 4) - (1 : Int32)) 10 ∧ (∀ I28 : MI, I28 = mI I (k + 1) ((I k 4) - (1 : Int32)).toNatClampNeg a0 → Q (1 : Int32) I28 J)) ∧ ((I (k + 2) ((I k 4) - (1 : Int32)).toNatClampNeg) = 0 → Q (0 : Int32) I J)))))
abbrev rmX5_close : Room := { frames := 0, cells := 0, slots := 0, locals := 0 }
set_option maxHeartbeats 4000000 in
set_option maxRecDepth 100000 in
theorem w_X5_close {Q : Int32 → MI → MJ → Prop} (C : gC RX5 cX5_close 3 (some .boolean) 66 ad cy D (xF ad ts) p s m args meth c) {k : Nat} (hk : isLex k) {a0 : Int32} {I : MI} {J : MJ} {H : Heap} {locs : List Loc} {ls : Array Slot} (h : P_X5_close k a0 I J Q) (hw : gH (xS ad cy) 66 ad D s I J H locs) (hl : lv_has ls 3 [(0, .ref (ad k)), (1, .int a0)]) : W p l e rmX5_close s m args below meth c H locs 0 0 (MQ below (gQz (xS ad cy) 66 ad cy D (xF ad ts) Q) args s 0 0 (gA 66 ad)) (F0 m 0 ls []) := by
  obtain ⟨hx, hb, hC⟩ := id C
  refine lv_aload_n hx hb dX5_close_0 rfl (lv_at hl 0 rfl) ?_
  refine g_get C hw f_RX5_25 (xl_Lex0 hk) ((xs_Lex0 hk) _ _) rfl dX5_close_1 ?_
  refine lv_iconst (v := 1) hx hb dX5_close_4 (by decide) ?_
  refine lv_isub hx hb dX5_close_5 ?_
  refine lv_istore_n (lv' := [(2, .int ((I k 4) - (1 : Int32))), (0, .ref (ad k)), (1, .int a0)]) hx hb dX5_close_6 rfl hl (by decide) rfl (fun ls hl => ?_)
  refine lv_iload_n hx hb dX5_close_7 rfl (lv_at hl 0 rfl) ?_
  refine lv_if_lt (tgt := 20) hx hb dX5_close_8 (by decide) (fun c8 => ?_) (fun c8 => ?_)
  · have h := h.1 c8
    refine lv_iconst (v := 0) hx hb dX5_close_20 (by decide) ?_
    exact g_zret C hw (by decide) h dX5_close_21
  · have h := h.2 c8
    refine lv_aload_n hx hb dX5_close_11 rfl (lv_at hl 1 rfl) ?_
    refine g_get C hw f_RX5_15 (xl_Lex0 hk) ((xs_Lex0 hk) _ _) rfl dX5_close_12 ?_
    refine lv_iload_n hx hb dX5_close_15 rfl (lv_at hl 0 rfl) ?_
    refine g_iald C hw (xl_Lex2 hk) (xs_Lex2 hk) h.1 dX5_close_16 ?_
    have h := h.2
    refine lv_if_ne (tgt := 22) hx hb dX5_close_17 (by decide) (fun c17 => ?_) (fun c17 => ?_)
    · have h := h.1 c17
      refine lv_aload_n hx hb dX5_close_22 rfl (lv_at hl 1 rfl) ?_
      refine g_get C hw f_RX5_9 (xl_Lex0 hk) ((xs_Lex0 hk) _ _) rfl dX5_close_23 ?_
      refine lv_iload_n hx hb dX5_close_26 rfl (lv_at hl 0 rfl) ?_
      refine lv_iload_n hx hb dX5_close_27 rfl (lv_at hl 2 rfl) ?_
      refine g_iast C hw (xl_Lex1 hk) (xs_Lex1 hk) h.1 dX5_close_28 (fun H locs hw => ?_)
      have h := h.2
      have h := h _ rfl
      refine lv_iconst (v := 1) hx hb dX5_close_29 (by decide) ?_
      exact g_zret C hw (by decide) h dX5_close_30
    · have h := h.2 c17
      refine lv_iconst (v := 0) hx hb dX5_close_20 (by decide) ?_
      exact g_zret C hw (by decide) h dX5_close_21
theorem m_X5_close {l : Launch} {k : Nat} (hk : isLex k) {a0 : Int32} {Q : Int32 → MI → MJ → Prop} {I : MI} {J : MJ} (h : P_X5_close k a0 I J Q) : Met l yX5_close (xws yX5_close cX5_close 3 (some .boolean)) rmX5_close (va_Pc [.ref (ad k), .int a0] (gB (xS ad cy) 66 ad cy D (xF ad ts) I J)) (gQz (xS ad cy) 66 ad cy D (xF ad ts) Q) 0 0 (gA 66 ad) :=
  g_met (xF_ok ad ts) rfl (by decide) (Nat.le_of_ble_eq_true rfl) (fun p e s m below meth c ls C hw hl => w_X5_close C hk h hw hl)
/-! BagPhrases$Setting.change(III)V -/
def P_X8_change (k : Nat) (a0 : Int32) (a1 : Int32) (a2 : Int32) (I : MI) (J : MJ) (Q : MI → MJ → Prop) : Prop :=
  ((a0 = 0 → vp_in a1 8 ∧ (vp_in a1 8 ∧ (∀ I49 : MI, I49 = mI I (k + 1) a1.toNatClampNeg ((I (k + 1) a1.toNatClampNeg) + (1 : Int32)) → Q I49 J))) ∧ (¬ a0 = 0 → ((a0 = 1 → vp_in a1 8 ∧ (vp_in a1 8 ∧ (∀ I62 : MI, I62 = mI I (k + 1) a1.toNatClampNeg ((I (k + 1) a1.toNatClampNeg) - (1 : Int32)) → Q I62 J))) ∧ (¬ a0 = 1 → ((a0 = 2 → (∀ I75 : MI, I75 = mI I k 5 ((I k 5) ^^^ ((1 : Int32) <<< (a1 &&& 31))) → Q I75 J)) ∧ (¬ a0 = 2 → ((a0 = 3 → vp_in a1 10 ∧ (∀ I87 : MI, I87 = mI I (k + 2) a1.toNatClampNeg a2 → Q I87 J)) ∧ (¬ a0 = 3 → ((a0 = 4 → (∀ I100 : MI, I100 = mI I k 3 ((I k 3) ^^^ ((1 : Int32) <<< (a1 &&& 31))) → Q I100 J)) ∧ (¬ a0 = 4 → ((a0 = 5 → (∀ I115 : MI, I115 = mI I k 4 ((I k 4) ^^^ ((1 : Int32) <<< (a1 &&& 31))) → Q I115 J)) ∧ (¬ a0 = 5 → vp_in a1 4 ∧ (vp_in a1 4 ∧ (∀ I132 : MI, I132 = mI I (k + 3) a1.toNatClampNeg ((I (k + 3) a1.toNatClampNeg) ^^^ ((1 : Int32) <<< (a2 &&& 31))) → Q I132 J))))))))))))))
abbrev rmX8_change : Room := { frames := 0, cells := 0, slots := 0, locals := 0 }
set_option maxHeartbeats 4000000 in
set_option maxRecDepth 100000 in
theorem w_X8_change {Q : MI → MJ → Prop} (C : gC RX8 cX8_change 4 none 66 ad cy D (xF ad ts) p s m args meth c) {k : Nat} (hk : isSet k) {a0 : Int32} {a1 : Int32} {a2 : Int32} {I : MI} {J : MJ} {H : Heap} {locs : List Loc} {ls : Array Slot} (h : P_X8_change k a0 a1 a2 I J Q) (hw : gH (xS ad cy) 66 ad D s I J H locs) (hl : lv_has ls 4 [(0, .ref (ad k)), (1, .int a0), (2, .int a1), (3, .int a2)]) : W p l e rmX8_change s m args below meth c H locs 0 0 (MQ below (gQv (xS ad cy) 66 ad cy D (xF ad ts) Q) args s 0 0 (gA 66 ad)) (F0 m 0 ls []) := by
  obtain ⟨hx, hb, hC⟩ := id C
  refine lv_iload_n hx hb dX8_change_0 rfl (lv_at hl 1 rfl) ?_
  rcases Classical.em (a0 = 0) with c1_0 | c1_0
  · have h := h.1 c1_0
    refine lv_tableIn (off := 39) (tgt := 40) hx hb dX8_change_1 (by rw [c1_0]; decide) (by rw [c1_0]; decide) (by rw [c1_0]; rfl) (by decide) ?_
    refine lv_aload_n hx hb dX8_change_40 rfl (lv_at hl 0 rfl) ?_
    refine g_get C hw f_RX8_9 (xl_Set0 hk) ((xs_Set0 hk) _ _) rfl dX8_change_41 ?_
    refine lv_iload_n hx hb dX8_change_44 rfl (lv_at hl 2 rfl) ?_
    refine lv_dup2_11 hx hb dX8_change_45 rfl rfl ?_
    refine g_iald C hw (xl_Set1 hk) (xs_Set1 hk) h.1 dX8_change_46 ?_
    have h := h.2
    refine lv_iconst (v := 1) hx hb dX8_change_47 (by decide) ?_
    refine lv_iadd hx hb dX8_change_48 ?_
    refine g_iast C hw (xl_Set1 hk) (xs_Set1 hk) h.1 dX8_change_49 (fun H locs hw => ?_)
    have h := h.2
    have h := h _ rfl
    refine lv_goto (tgt := 133) hx hb dX8_change_50 (by decide) ?_
    exact g_vret C hw h dX8_change_133
  have h := h.2 c1_0
  rcases Classical.em (a0 = 1) with c1_1 | c1_1
  · have h := h.1 c1_1
    refine lv_tableIn (off := 52) (tgt := 53) hx hb dX8_change_1 (by rw [c1_1]; decide) (by rw [c1_1]; decide) (by rw [c1_1]; rfl) (by decide) ?_
    refine lv_aload_n hx hb dX8_change_53 rfl (lv_at hl 0 rfl) ?_
    refine g_get C hw f_RX8_9 (xl_Set0 hk) ((xs_Set0 hk) _ _) rfl dX8_change_54 ?_
    refine lv_iload_n hx hb dX8_change_57 rfl (lv_at hl 2 rfl) ?_
    refine lv_dup2_11 hx hb dX8_change_58 rfl rfl ?_
    refine g_iald C hw (xl_Set1 hk) (xs_Set1 hk) h.1 dX8_change_59 ?_
    have h := h.2
    refine lv_iconst (v := 1) hx hb dX8_change_60 (by decide) ?_
    refine lv_isub hx hb dX8_change_61 ?_
    refine g_iast C hw (xl_Set1 hk) (xs_Set1 hk) h.1 dX8_change_62 (fun H locs hw => ?_)
    have h := h.2
    have h := h _ rfl
    refine lv_goto (tgt := 133) hx hb dX8_change_63 (by decide) ?_
    exact g_vret C hw h dX8_change_133
  have h := h.2 c1_1
  rcases Classical.em (a0 = 2) with c1_2 | c1_2
  · have h := h.1 c1_2
    refine lv_tableIn (off := 65) (tgt := 66) hx hb dX8_change_1 (by rw [c1_2]; decide) (by rw [c1_2]; decide) (by rw [c1_2]; rfl) (by decide) ?_
    refine lv_aload_n hx hb dX8_change_66 rfl (lv_at hl 0 rfl) ?_
    refine lv_dup hx hb dX8_change_67 rfl ?_
    refine g_get C hw f_RX8_28 (xl_Set0 hk) ((xs_Set0 hk) _ _) rfl dX8_change_68 ?_
    refine lv_iconst (v := 1) hx hb dX8_change_71 (by decide) ?_
    refine lv_iload_n hx hb dX8_change_72 rfl (lv_at hl 2 rfl) ?_
    refine lv_ishl hx hb dX8_change_73 ?_
    refine lv_ixor hx hb dX8_change_74 ?_
    refine g_putI C hw fp_RX8_28 (xl_Set0 hk) (xs_Set0 hk) (st_8_5 ad _ _) (Nat.le_of_ble_eq_true rfl) rfl rfl dX8_change_75 (fun H locs hw => ?_)
    have h := h _ rfl
    refine lv_goto (tgt := 133) hx hb dX8_change_78 (by decide) ?_
    exact g_vret C hw h dX8_change_133
  have h := h.2 c1_2
  rcases Classical.em (a0 = 3) with c1_3 | c1_3
  · have h := h.1 c1_3
    refine lv_tableIn (off := 80) (tgt := 81) hx hb dX8_change_1 (by rw [c1_3]; decide) (by rw [c1_3]; decide) (by rw [c1_3]; rfl) (by decide) ?_
    refine lv_aload_n hx hb dX8_change_81 rfl (lv_at hl 0 rfl) ?_
    refine g_get C hw f_RX8_15 (xl_Set0 hk) ((xs_Set0 hk) _ _) rfl dX8_change_82 ?_
    refine lv_iload_n hx hb dX8_change_85 rfl (lv_at hl 2 rfl) ?_
    refine lv_iload_n hx hb dX8_change_86 rfl (lv_at hl 3 rfl) ?_
    refine g_iast C hw (xl_Set2 hk) (xs_Set2 hk) h.1 dX8_change_87 (fun H locs hw => ?_)
    have h := h.2
    have h := h _ rfl
    refine lv_goto (tgt := 133) hx hb dX8_change_88 (by decide) ?_
    exact g_vret C hw h dX8_change_133
  have h := h.2 c1_3
  rcases Classical.em (a0 = 4) with c1_4 | c1_4
  · have h := h.1 c1_4
    refine lv_tableIn (off := 90) (tgt := 91) hx hb dX8_change_1 (by rw [c1_4]; decide) (by rw [c1_4]; decide) (by rw [c1_4]; rfl) (by decide) ?_
    refine lv_aload_n hx hb dX8_change_91 rfl (lv_at hl 0 rfl) ?_
    refine lv_dup hx hb dX8_change_92 rfl ?_
    refine g_get C hw f_RX8_21 (xl_Set0 hk) ((xs_Set0 hk) _ _) rfl dX8_change_93 ?_
    refine lv_iconst (v := 1) hx hb dX8_change_96 (by decide) ?_
    refine lv_iload_n hx hb dX8_change_97 rfl (lv_at hl 2 rfl) ?_
    refine lv_ishl hx hb dX8_change_98 ?_
    refine lv_ixor hx hb dX8_change_99 ?_
    refine g_putI C hw fp_RX8_21 (xl_Set0 hk) (xs_Set0 hk) (st_8_3 ad _ _) (Nat.le_of_ble_eq_true rfl) rfl rfl dX8_change_100 (fun H locs hw => ?_)
    have h := h _ rfl
    refine lv_goto (tgt := 133) hx hb dX8_change_103 (by decide) ?_
    exact g_vret C hw h dX8_change_133
  have h := h.2 c1_4
  rcases Classical.em (a0 = 5) with c1_5 | c1_5
  · have h := h.1 c1_5
    refine lv_tableIn (off := 105) (tgt := 106) hx hb dX8_change_1 (by rw [c1_5]; decide) (by rw [c1_5]; decide) (by rw [c1_5]; rfl) (by decide) ?_
    refine lv_aload_n hx hb dX8_change_106 rfl (lv_at hl 0 rfl) ?_
    refine lv_dup hx hb dX8_change_107 rfl ?_
    refine g_get C hw f_RX8_25 (xl_Set0 hk) ((xs_Set0 hk) _ _) rfl dX8_change_108 ?_
    refine lv_iconst (v := 1) hx hb dX8_change_111 (by decide) ?_
    refine lv_iload_n hx hb dX8_change_112 rfl (lv_at hl 2 rfl) ?_
    refine lv_ishl hx hb dX8_change_113 ?_
    refine lv_ixor hx hb dX8_change_114 ?_
    refine g_putI C hw fp_RX8_25 (xl_Set0 hk) (xs_Set0 hk) (st_8_4 ad _ _) (Nat.le_of_ble_eq_true rfl) rfl rfl dX8_change_115 (fun H locs hw => ?_)
    have h := h _ rfl
    refine lv_goto (tgt := 133) hx hb dX8_change_118 (by decide) ?_
    exact g_vret C hw h dX8_change_133
  have h := h.2 c1_5
  refine lv_tableOut (tgt := 121) hx hb dX8_change_1 (by have hs0 := toInt_ne c1_0 (show (0 : Int32).toInt = 0 from by decide); have hs1 := toInt_ne c1_1 (show (1 : Int32).toInt = 1 from by decide); have hs2 := toInt_ne c1_2 (show (2 : Int32).toInt = 2 from by decide); have hs3 := toInt_ne c1_3 (show (3 : Int32).toInt = 3 from by decide); have hs4 := toInt_ne c1_4 (show (4 : Int32).toInt = 4 from by decide); have hs5 := toInt_ne c1_5 (show (5 : Int32).toInt = 5 from by decide); omega) (by decide) ?_
  refine lv_aload_n hx hb dX8_change_121 rfl (lv_at hl 0 rfl) ?_
  refine g_get C hw f_RX8_18 (xl_Set0 hk) ((xs_Set0 hk) _ _) rfl dX8_change_122 ?_
  refine lv_iload_n hx hb dX8_change_125 rfl (lv_at hl 2 rfl) ?_
  refine lv_dup2_11 hx hb dX8_change_126 rfl rfl ?_
  refine g_iald C hw (xl_Set3 hk) (xs_Set3 hk) h.1 dX8_change_127 ?_
  have h := h.2
  refine lv_iconst (v := 1) hx hb dX8_change_128 (by decide) ?_
  refine lv_iload_n hx hb dX8_change_129 rfl (lv_at hl 3 rfl) ?_
  refine lv_ishl hx hb dX8_change_130 ?_
  refine lv_ixor hx hb dX8_change_131 ?_
  refine g_iast C hw (xl_Set3 hk) (xs_Set3 hk) h.1 dX8_change_132 (fun H locs hw => ?_)
  have h := h.2
  have h := h _ rfl
  exact g_vret C hw h dX8_change_133
theorem m_X8_change {l : Launch} {k : Nat} (hk : isSet k) {a0 : Int32} {a1 : Int32} {a2 : Int32} {Q : MI → MJ → Prop} {I : MI} {J : MJ} (h : P_X8_change k a0 a1 a2 I J Q) : Met l yX8_change (xws yX8_change cX8_change 4 none) rmX8_change (va_Pc [.ref (ad k), .int a0, .int a1, .int a2] (gB (xS ad cy) 66 ad cy D (xF ad ts) I J)) (gQv (xS ad cy) 66 ad cy D (xF ad ts) Q) 0 0 (gA 66 ad) :=
  g_met (xF_ok ad ts) rfl (by decide) (Nat.le_of_ble_eq_true rfl) (fun p e s m below meth c ls C hw hl => w_X8_change C hk h hw hl)
/-! BagPhrases$Lexicon.copy(LBagPhrases$Lexicon;)V -/
def P_X5_copy (k : Nat) (w0 : Nat) (I : MI) (J : MJ) (Q : MI → MJ → Prop) : Prop :=
  (∀ I5 : MI, I5 = mI I k 4 (I w0 4) → (¬ (0 : Int32) < 0 ∧ ¬ (0 : Int32) < 0 ∧ ¬ (10 : Int32) < 0 ∧ (0 : Int32).toNatClampNeg + (10 : Int32).toNatClampNeg ≤ 10 ∧ (0 : Int32).toNatClampNeg + (10 : Int32).toNatClampNeg ≤ 10) ∧ (∀ I20 : MI, I20 = wI I5 (k + 1) (va_cpy (I5 (w0 + 1)) (I5 (k + 1)) (0 : Int32).toNatClampNeg (0 : Int32).toNatClampNeg (10 : Int32).toNatClampNeg) → (¬ (0 : Int32) < 0 ∧ ¬ (0 : Int32) < 0 ∧ ¬ (10 : Int32) < 0 ∧ (0 : Int32).toNatClampNeg + (10 : Int32).toNatClampNeg ≤ 10 ∧ (0 : Int32).toNatClampNeg + (10 : Int32).toNatClampNeg ≤ 10) ∧ (∀ I35 : MI, I35 = wI I20 (k + 2) (va_cpy (I20 (w0 + 2)) (I20 (k + 2)) (0 : Int32).toNatClampNeg (0 : Int32).toNatClampNeg (10 : Int32).toNatClampNeg) → (¬ (0 : Int32) < 0 ∧ ¬ (0 : Int32) < 0 ∧ ¬ (10 : Int32) < 0 ∧ (0 : Int32).toNatClampNeg + (10 : Int32).toNatClampNeg ≤ 10 ∧ (0 : Int32).toNatClampNeg + (10 : Int32).toNatClampNeg ≤ 10) ∧ (∀ J50 : MJ, J50 = wJ J (k + 3) (va_cpy (J (w0 + 3)) (J (k + 3)) (0 : Int32).toNatClampNeg (0 : Int32).toNatClampNeg (10 : Int32).toNatClampNeg) → (¬ (0 : Int32) < 0 ∧ ¬ (0 : Int32) < 0 ∧ ¬ (60 : Int32) < 0 ∧ (0 : Int32).toNatClampNeg + (60 : Int32).toNatClampNeg ≤ 60 ∧ (0 : Int32).toNatClampNeg + (60 : Int32).toNatClampNeg ≤ 60) ∧ (∀ I65 : MI, I65 = wI I35 (k + 4) (va_cpy (I35 (w0 + 4)) (I35 (k + 4)) (0 : Int32).toNatClampNeg (0 : Int32).toNatClampNeg (60 : Int32).toNatClampNeg) → Q I65 J50)))))
abbrev rmX5_copy : Room := { frames := 1, cells := 0, slots := 0, locals := 38 }
set_option maxHeartbeats 4000000 in
set_option maxRecDepth 100000 in
theorem w_X5_copy {Q : MI → MJ → Prop} (C : gC RX5 cX5_copy 2 none 66 ad cy D (xF ad ts) p s m args meth c) {k : Nat} (hk : isLex k) {w0 : Nat} (hw0 : isLex w0) {I : MI} {J : MJ} {H : Heap} {locs : List Loc} {ls : Array Slot} (h : P_X5_copy k w0 I J Q) (hw : gH (xS ad cy) 66 ad D s I J H locs) (hl : lv_has ls 2 [(0, .ref (ad k)), (1, .ref (ad w0))]) : W p l e rmX5_copy s m args below meth c H locs 0 0 (MQ below (gQv (xS ad cy) 66 ad cy D (xF ad ts) Q) args s 0 0 (gA 66 ad)) (F0 m 0 ls []) := by
  obtain ⟨hx, hb, hC⟩ := id C
  refine lv_aload_n hx hb dX5_copy_0 rfl (lv_at hl 0 rfl) ?_
  refine lv_aload_n hx hb dX5_copy_1 rfl (lv_at hl 1 rfl) ?_
  refine g_get C hw f_RX5_25 (xl_Lex0 hw0) ((xs_Lex0 hw0) _ _) rfl dX5_copy_2 ?_
  refine g_putI C hw fp_RX5_25 (xl_Lex0 hk) (xs_Lex0 hk) (st_5_4 ad _ _) (Nat.le_of_ble_eq_true rfl) rfl rfl dX5_copy_5 (fun H locs hw => ?_)
  have h := h _ rfl
  refine lv_aload_n hx hb dX5_copy_8 rfl (lv_at hl 1 rfl) ?_
  refine g_get C hw f_RX5_9 (xl_Lex0 hw0) ((xs_Lex0 hw0) _ _) rfl dX5_copy_9 ?_
  refine lv_iconst (v := 0) hx hb dX5_copy_12 (by decide) ?_
  refine lv_aload_n hx hb dX5_copy_13 rfl (lv_at hl 0 rfl) ?_
  refine g_get C hw f_RX5_9 (xl_Lex0 hk) ((xs_Lex0 hk) _ _) rfl dX5_copy_14 ?_
  refine lv_iconst (v := 0) hx hb dX5_copy_17 (by decide) ?_
  refine lv_bipush (v := 10) hx hb dX5_copy_18 (by decide) ?_
  refine g_copyi C hw hl.1 q_RX5_29 qn_copy qs_copy qi_Sys (xl_Lex1 hw0) (xs_Lex1 hw0) (xl_Lex1 hk) (xs_Lex1 hk) h.1.1 h.1.2.1 h.1.2.2.1 h.1.2.2.2.1 h.1.2.2.2.2 (Nat.le_of_ble_eq_true rfl) (Nat.le_of_ble_eq_true rfl) dX5_copy_20 (fun H locs hw => ?_)
  have h := h.2
  have h := h _ rfl
  refine lv_aload_n hx hb dX5_copy_23 rfl (lv_at hl 1 rfl) ?_
  refine g_get C hw f_RX5_15 (xl_Lex0 hw0) ((xs_Lex0 hw0) _ _) rfl dX5_copy_24 ?_
  refine lv_iconst (v := 0) hx hb dX5_copy_27 (by decide) ?_
  refine lv_aload_n hx hb dX5_copy_28 rfl (lv_at hl 0 rfl) ?_
  refine g_get C hw f_RX5_15 (xl_Lex0 hk) ((xs_Lex0 hk) _ _) rfl dX5_copy_29 ?_
  refine lv_iconst (v := 0) hx hb dX5_copy_32 (by decide) ?_
  refine lv_bipush (v := 10) hx hb dX5_copy_33 (by decide) ?_
  refine g_copyi C hw hl.1 q_RX5_29 qn_copy qs_copy qi_Sys (xl_Lex2 hw0) (xs_Lex2 hw0) (xl_Lex2 hk) (xs_Lex2 hk) h.1.1 h.1.2.1 h.1.2.2.1 h.1.2.2.2.1 h.1.2.2.2.2 (Nat.le_of_ble_eq_true rfl) (Nat.le_of_ble_eq_true rfl) dX5_copy_35 (fun H locs hw => ?_)
  have h := h.2
  have h := h _ rfl
  refine lv_aload_n hx hb dX5_copy_38 rfl (lv_at hl 1 rfl) ?_
  refine g_get C hw f_RX5_18 (xl_Lex0 hw0) ((xs_Lex0 hw0) _ _) rfl dX5_copy_39 ?_
  refine lv_iconst (v := 0) hx hb dX5_copy_42 (by decide) ?_
  refine lv_aload_n hx hb dX5_copy_43 rfl (lv_at hl 0 rfl) ?_
  refine g_get C hw f_RX5_18 (xl_Lex0 hk) ((xs_Lex0 hk) _ _) rfl dX5_copy_44 ?_
  refine lv_iconst (v := 0) hx hb dX5_copy_47 (by decide) ?_
  refine lv_bipush (v := 10) hx hb dX5_copy_48 (by decide) ?_
  refine g_copyl C hw hl.1 q_RX5_29 qn_copy qs_copy qi_Sys (xl_Lex3 hw0) (xs_Lex3 hw0) (xl_Lex3 hk) (xs_Lex3 hk) h.1.1 h.1.2.1 h.1.2.2.1 h.1.2.2.2.1 h.1.2.2.2.2 (Nat.le_of_ble_eq_true rfl) (Nat.le_of_ble_eq_true rfl) dX5_copy_50 (fun H locs hw => ?_)
  have h := h.2
  have h := h _ rfl
  refine lv_aload_n hx hb dX5_copy_53 rfl (lv_at hl 1 rfl) ?_
  refine g_get C hw f_RX5_22 (xl_Lex0 hw0) ((xs_Lex0 hw0) _ _) rfl dX5_copy_54 ?_
  refine lv_iconst (v := 0) hx hb dX5_copy_57 (by decide) ?_
  refine lv_aload_n hx hb dX5_copy_58 rfl (lv_at hl 0 rfl) ?_
  refine g_get C hw f_RX5_22 (xl_Lex0 hk) ((xs_Lex0 hk) _ _) rfl dX5_copy_59 ?_
  refine lv_iconst (v := 0) hx hb dX5_copy_62 (by decide) ?_
  refine lv_bipush (v := 60) hx hb dX5_copy_63 (by decide) ?_
  refine g_copyi C hw hl.1 q_RX5_29 qn_copy qs_copy qi_Sys (xl_Lex4 hw0) (xs_Lex4 hw0) (xl_Lex4 hk) (xs_Lex4 hk) h.1.1 h.1.2.1 h.1.2.2.1 h.1.2.2.2.1 h.1.2.2.2.2 (Nat.le_of_ble_eq_true rfl) (Nat.le_of_ble_eq_true rfl) dX5_copy_65 (fun H locs hw => ?_)
  have h := h.2
  have h := h _ rfl
  exact g_vret C hw h dX5_copy_68
theorem m_X5_copy {l : Launch} {k : Nat} (hk : isLex k) {w0 : Nat} (hw0 : isLex w0) {Q : MI → MJ → Prop} {I : MI} {J : MJ} (h : P_X5_copy k w0 I J Q) : Met l yX5_copy (xws yX5_copy cX5_copy 2 none) rmX5_copy (va_Pc [.ref (ad k), .ref (ad w0)] (gB (xS ad cy) 66 ad cy D (xF ad ts) I J)) (gQv (xS ad cy) 66 ad cy D (xF ad ts) Q) 0 0 (gA 66 ad) :=
  g_met (xF_ok ad ts) rfl (by decide) (Nat.le_of_ble_eq_true rfl) (fun p e s m below meth c ls C hw hl => w_X5_copy C hk hw0 h hw hl)
/-! BagPhrases$Setting.copy(LBagPhrases$Setting;)V -/
def P_X8_copy (k : Nat) (w0 : Nat) (I : MI) (J : MJ) (Q : MI → MJ → Prop) : Prop :=
  (¬ (0 : Int32) < 0 ∧ ¬ (0 : Int32) < 0 ∧ ¬ (8 : Int32) < 0 ∧ (0 : Int32).toNatClampNeg + (8 : Int32).toNatClampNeg ≤ 8 ∧ (0 : Int32).toNatClampNeg + (8 : Int32).toNatClampNeg ≤ 8) ∧ (∀ I12 : MI, I12 = wI I (k + 1) (va_cpy (I (w0 + 1)) (I (k + 1)) (0 : Int32).toNatClampNeg (0 : Int32).toNatClampNeg (8 : Int32).toNatClampNeg) → (¬ (0 : Int32) < 0 ∧ ¬ (0 : Int32) < 0 ∧ ¬ (10 : Int32) < 0 ∧ (0 : Int32).toNatClampNeg + (10 : Int32).toNatClampNeg ≤ 10 ∧ (0 : Int32).toNatClampNeg + (10 : Int32).toNatClampNeg ≤ 10) ∧ (∀ I27 : MI, I27 = wI I12 (k + 2) (va_cpy (I12 (w0 + 2)) (I12 (k + 2)) (0 : Int32).toNatClampNeg (0 : Int32).toNatClampNeg (10 : Int32).toNatClampNeg) → (¬ (0 : Int32) < 0 ∧ ¬ (0 : Int32) < 0 ∧ ¬ (4 : Int32) < 0 ∧ (0 : Int32).toNatClampNeg + (4 : Int32).toNatClampNeg ≤ 4 ∧ (0 : Int32).toNatClampNeg + (4 : Int32).toNatClampNeg ≤ 4) ∧ (∀ I41 : MI, I41 = wI I27 (k + 3) (va_cpy (I27 (w0 + 3)) (I27 (k + 3)) (0 : Int32).toNatClampNeg (0 : Int32).toNatClampNeg (4 : Int32).toNatClampNeg) → (∀ I49 : MI, I49 = mI I41 k 3 (I41 w0 3) → (∀ I57 : MI, I57 = mI I49 k 4 (I49 w0 4) → (∀ I65 : MI, I65 = mI I57 k 5 (I57 w0 5) → Q I65 J))))))
abbrev rmX8_copy : Room := { frames := 1, cells := 0, slots := 0, locals := 38 }
set_option maxHeartbeats 4000000 in
set_option maxRecDepth 100000 in
theorem w_X8_copy {Q : MI → MJ → Prop} (C : gC RX8 cX8_copy 2 none 66 ad cy D (xF ad ts) p s m args meth c) {k : Nat} (hk : isSet k) {w0 : Nat} (hw0 : isSet w0) {I : MI} {J : MJ} {H : Heap} {locs : List Loc} {ls : Array Slot} (h : P_X8_copy k w0 I J Q) (hw : gH (xS ad cy) 66 ad D s I J H locs) (hl : lv_has ls 2 [(0, .ref (ad k)), (1, .ref (ad w0))]) : W p l e rmX8_copy s m args below meth c H locs 0 0 (MQ below (gQv (xS ad cy) 66 ad cy D (xF ad ts) Q) args s 0 0 (gA 66 ad)) (F0 m 0 ls []) := by
  obtain ⟨hx, hb, hC⟩ := id C
  refine lv_aload_n hx hb dX8_copy_0 rfl (lv_at hl 1 rfl) ?_
  refine g_get C hw f_RX8_9 (xl_Set0 hw0) ((xs_Set0 hw0) _ _) rfl dX8_copy_1 ?_
  refine lv_iconst (v := 0) hx hb dX8_copy_4 (by decide) ?_
  refine lv_aload_n hx hb dX8_copy_5 rfl (lv_at hl 0 rfl) ?_
  refine g_get C hw f_RX8_9 (xl_Set0 hk) ((xs_Set0 hk) _ _) rfl dX8_copy_6 ?_
  refine lv_iconst (v := 0) hx hb dX8_copy_9 (by decide) ?_
  refine lv_bipush (v := 8) hx hb dX8_copy_10 (by decide) ?_
  refine g_copyi C hw hl.1 q_RX8_31 qn_copy qs_copy qi_Sys (xl_Set1 hw0) (xs_Set1 hw0) (xl_Set1 hk) (xs_Set1 hk) h.1.1 h.1.2.1 h.1.2.2.1 h.1.2.2.2.1 h.1.2.2.2.2 (Nat.le_of_ble_eq_true rfl) (Nat.le_of_ble_eq_true rfl) dX8_copy_12 (fun H locs hw => ?_)
  have h := h.2
  have h := h _ rfl
  refine lv_aload_n hx hb dX8_copy_15 rfl (lv_at hl 1 rfl) ?_
  refine g_get C hw f_RX8_15 (xl_Set0 hw0) ((xs_Set0 hw0) _ _) rfl dX8_copy_16 ?_
  refine lv_iconst (v := 0) hx hb dX8_copy_19 (by decide) ?_
  refine lv_aload_n hx hb dX8_copy_20 rfl (lv_at hl 0 rfl) ?_
  refine g_get C hw f_RX8_15 (xl_Set0 hk) ((xs_Set0 hk) _ _) rfl dX8_copy_21 ?_
  refine lv_iconst (v := 0) hx hb dX8_copy_24 (by decide) ?_
  refine lv_bipush (v := 10) hx hb dX8_copy_25 (by decide) ?_
  refine g_copyi C hw hl.1 q_RX8_31 qn_copy qs_copy qi_Sys (xl_Set2 hw0) (xs_Set2 hw0) (xl_Set2 hk) (xs_Set2 hk) h.1.1 h.1.2.1 h.1.2.2.1 h.1.2.2.2.1 h.1.2.2.2.2 (Nat.le_of_ble_eq_true rfl) (Nat.le_of_ble_eq_true rfl) dX8_copy_27 (fun H locs hw => ?_)
  have h := h.2
  have h := h _ rfl
  refine lv_aload_n hx hb dX8_copy_30 rfl (lv_at hl 1 rfl) ?_
  refine g_get C hw f_RX8_18 (xl_Set0 hw0) ((xs_Set0 hw0) _ _) rfl dX8_copy_31 ?_
  refine lv_iconst (v := 0) hx hb dX8_copy_34 (by decide) ?_
  refine lv_aload_n hx hb dX8_copy_35 rfl (lv_at hl 0 rfl) ?_
  refine g_get C hw f_RX8_18 (xl_Set0 hk) ((xs_Set0 hk) _ _) rfl dX8_copy_36 ?_
  refine lv_iconst (v := 0) hx hb dX8_copy_39 (by decide) ?_
  refine lv_iconst (v := 4) hx hb dX8_copy_40 (by decide) ?_
  refine g_copyi C hw hl.1 q_RX8_31 qn_copy qs_copy qi_Sys (xl_Set3 hw0) (xs_Set3 hw0) (xl_Set3 hk) (xs_Set3 hk) h.1.1 h.1.2.1 h.1.2.2.1 h.1.2.2.2.1 h.1.2.2.2.2 (Nat.le_of_ble_eq_true rfl) (Nat.le_of_ble_eq_true rfl) dX8_copy_41 (fun H locs hw => ?_)
  have h := h.2
  have h := h _ rfl
  refine lv_aload_n hx hb dX8_copy_44 rfl (lv_at hl 0 rfl) ?_
  refine lv_aload_n hx hb dX8_copy_45 rfl (lv_at hl 1 rfl) ?_
  refine g_get C hw f_RX8_21 (xl_Set0 hw0) ((xs_Set0 hw0) _ _) rfl dX8_copy_46 ?_
  refine g_putI C hw fp_RX8_21 (xl_Set0 hk) (xs_Set0 hk) (st_8_3 ad _ _) (Nat.le_of_ble_eq_true rfl) rfl rfl dX8_copy_49 (fun H locs hw => ?_)
  have h := h _ rfl
  refine lv_aload_n hx hb dX8_copy_52 rfl (lv_at hl 0 rfl) ?_
  refine lv_aload_n hx hb dX8_copy_53 rfl (lv_at hl 1 rfl) ?_
  refine g_get C hw f_RX8_25 (xl_Set0 hw0) ((xs_Set0 hw0) _ _) rfl dX8_copy_54 ?_
  refine g_putI C hw fp_RX8_25 (xl_Set0 hk) (xs_Set0 hk) (st_8_4 ad _ _) (Nat.le_of_ble_eq_true rfl) rfl rfl dX8_copy_57 (fun H locs hw => ?_)
  have h := h _ rfl
  refine lv_aload_n hx hb dX8_copy_60 rfl (lv_at hl 0 rfl) ?_
  refine lv_aload_n hx hb dX8_copy_61 rfl (lv_at hl 1 rfl) ?_
  refine g_get C hw f_RX8_28 (xl_Set0 hw0) ((xs_Set0 hw0) _ _) rfl dX8_copy_62 ?_
  refine g_putI C hw fp_RX8_28 (xl_Set0 hk) (xs_Set0 hk) (st_8_5 ad _ _) (Nat.le_of_ble_eq_true rfl) rfl rfl dX8_copy_65 (fun H locs hw => ?_)
  have h := h _ rfl
  exact g_vret C hw h dX8_copy_68
theorem m_X8_copy {l : Launch} {k : Nat} (hk : isSet k) {w0 : Nat} (hw0 : isSet w0) {Q : MI → MJ → Prop} {I : MI} {J : MJ} (h : P_X8_copy k w0 I J Q) : Met l yX8_copy (xws yX8_copy cX8_copy 2 none) rmX8_copy (va_Pc [.ref (ad k), .ref (ad w0)] (gB (xS ad cy) 66 ad cy D (xF ad ts) I J)) (gQv (xS ad cy) 66 ad cy D (xF ad ts) Q) 0 0 (gA 66 ad) :=
  g_met (xF_ok ad ts) rfl (by decide) (Nat.le_of_ble_eq_true rfl) (fun p e s m below meth c ls C hw hl => w_X8_copy C hk hw0 h hw hl)
/-! BagPhrases$Setting.unlike()I -/
def P_X8_unlike_22 (k : Nat) (Q : Int32 → MI → MJ → Prop) (kL4 : Int32 × Int32 × MI × MJ → Prop) (x1 : Int32) (x2 : Int32) (I : MI) (J : MJ) : Prop :=
  kL4 (x1, (x2 + 1), I, J)
def P_X8_unlike_4 (k : Nat) (Q : Int32 → MI → MJ → Prop) (kL4 : Int32 × Int32 × MI × MJ → Prop) : Int32 × Int32 × MI × MJ → Prop := fun z => match z with
  | (x1, x2, I, J) => (((8 : Int32) ≤ x2 → Q x1 I J) ∧ (¬ (8 : Int32) ≤ x2 → vp_in x2 8 ∧ ((((I (k + 1) x2.toNatClampNeg) ≤ 0 → P_X8_unlike_22 k Q kL4 x1 x2 I J) ∧ (¬ (I (k + 1) x2.toNatClampNeg) ≤ 0 → P_X8_unlike_22 k Q kL4 (x1 + 1) x2 I J)))))
def P_X8_unlike (k : Nat) (I : MI) (J : MJ) (Q : Int32 → MI → MJ → Prop) : Prop :=
  lpx (P_X8_unlike_4 k Q) ((0 : Int32), (0 : Int32), I, J)
abbrev rmX8_unlike : Room := { frames := 0, cells := 0, slots := 0, locals := 0 }
set_option maxHeartbeats 4000000 in
set_option maxRecDepth 100000 in
theorem w_X8_unlike_22 {Q : Int32 → MI → MJ → Prop} (C : gC RX8 cX8_unlike 3 (some .int) 66 ad cy D (xF ad ts) p s m args meth c) {k : Nat} (hk : isSet k) {kL4 : Int32 × Int32 × MI × MJ → Prop} (hL4 : ∀ {x1 : Int32} {x2 : Int32} {I : MI} {J : MJ} {H : Heap} {locs : List Loc} {ls : Array Slot}, kL4 (x1, x2, I, J) → gH (xS ad cy) 66 ad D s I J H locs → lv_has ls 3 [(0, .ref (ad k)), (1, .int x1), (2, .int x2)] → W p l e rmX8_unlike s m args below meth c H locs 0 0 (MQ below (gQi (xS ad cy) 66 ad cy D (xF ad ts) Q) args s 0 0 (gA 66 ad)) (F0 m 4 ls [])) {x1 : Int32} {x2 : Int32} {I : MI} {J : MJ} {H : Heap} {locs : List Loc} {ls : Array Slot} (h : P_X8_unlike_22 k Q kL4 x1 x2 I J) (hw : gH (xS ad cy) 66 ad D s I J H locs) (hl : lv_has ls 3 [(0, .ref (ad k)), (1, .int x1), (2, .int x2)]) : W p l e rmX8_unlike s m args below meth c H locs 0 0 (MQ below (gQi (xS ad cy) 66 ad cy D (xF ad ts) Q) args s 0 0 (gA 66 ad)) (F0 m 22 ls []) := by
  obtain ⟨hx, hb, hC⟩ := id C
  refine lv_iinc (v := x2 + 1) (lv' := [(2, .int (x2 + 1)), (0, .ref (ad k)), (1, .int x1)]) hx hb dX8_unlike_22 hl (k := 2) rfl rfl (by decide) rfl (fun ls hl => ?_)
  refine lv_goto (tgt := 4) hx hb dX8_unlike_25 (by decide) ?_
  exact hL4 h hw (lv_sub hl [1, 2, 0] rfl)
set_option maxHeartbeats 4000000 in
set_option maxRecDepth 100000 in
theorem w_X8_unlike_4 {Q : Int32 → MI → MJ → Prop} (C : gC RX8 cX8_unlike 3 (some .int) 66 ad cy D (xF ad ts) p s m args meth c) {k : Nat} (hk : isSet k) {kL4 : Int32 × Int32 × MI × MJ → Prop} (hL4 : ∀ {x1 : Int32} {x2 : Int32} {I : MI} {J : MJ} {H : Heap} {locs : List Loc} {ls : Array Slot}, kL4 (x1, x2, I, J) → gH (xS ad cy) 66 ad D s I J H locs → lv_has ls 3 [(0, .ref (ad k)), (1, .int x1), (2, .int x2)] → W p l e rmX8_unlike s m args below meth c H locs 0 0 (MQ below (gQi (xS ad cy) 66 ad cy D (xF ad ts) Q) args s 0 0 (gA 66 ad)) (F0 m 4 ls [])) {x1 : Int32} {x2 : Int32} {I : MI} {J : MJ} {H : Heap} {locs : List Loc} {ls : Array Slot} (h : P_X8_unlike_4 k Q kL4 (x1, x2, I, J)) (hw : gH (xS ad cy) 66 ad D s I J H locs) (hl : lv_has ls 3 [(0, .ref (ad k)), (1, .int x1), (2, .int x2)]) : W p l e rmX8_unlike s m args below meth c H locs 0 0 (MQ below (gQi (xS ad cy) 66 ad cy D (xF ad ts) Q) args s 0 0 (gA 66 ad)) (F0 m 4 ls []) := by
  obtain ⟨hx, hb, hC⟩ := id C
  refine lv_iload_n hx hb dX8_unlike_4 rfl (lv_at hl 2 rfl) ?_
  refine lv_bipush (v := 8) hx hb dX8_unlike_5 (by decide) ?_
  refine lv_icmp_ge (tgt := 28) hx hb dX8_unlike_7 (by decide) (fun c7 => ?_) (fun c7 => ?_)
  · have h := h.1 c7
    refine lv_iload_n hx hb dX8_unlike_28 rfl (lv_at hl 1 rfl) ?_
    exact g_iret C hw h dX8_unlike_29
  · have h := h.2 c7
    refine lv_aload_n hx hb dX8_unlike_10 rfl (lv_at hl 0 rfl) ?_
    refine g_get C hw f_RX8_9 (xl_Set0 hk) ((xs_Set0 hk) _ _) rfl dX8_unlike_11 ?_
    refine lv_iload_n hx hb dX8_unlike_14 rfl (lv_at hl 2 rfl) ?_
    refine g_iald C hw (xl_Set1 hk) (xs_Set1 hk) h.1 dX8_unlike_15 ?_
    have h := h.2
    refine lv_if_le (tgt := 22) hx hb dX8_unlike_16 (by decide) (fun c16 => ?_) (fun c16 => ?_)
    · have h := h.1 c16
      exact w_X8_unlike_22 C hk hL4 h hw (lv_sub hl [0, 1, 2] rfl)
    · have h := h.2 c16
      refine lv_iinc (v := x1 + 1) (lv' := [(1, .int (x1 + 1)), (0, .ref (ad k)), (2, .int x2)]) hx hb dX8_unlike_19 hl (k := 1) rfl rfl (by decide) rfl (fun ls hl => ?_)
      exact w_X8_unlike_22 C hk hL4 h hw (lv_sub hl [1, 0, 2] rfl)
theorem wl_X8_unlike_4 {Q : Int32 → MI → MJ → Prop} (C : gC RX8 cX8_unlike 3 (some .int) 66 ad cy D (xF ad ts) p s m args meth c) {k : Nat} (hk : isSet k) {x1 : Int32} {x2 : Int32} {I : MI} {J : MJ} {H : Heap} {locs : List Loc} {ls : Array Slot} (h : lpx (P_X8_unlike_4 k Q) (x1, x2, I, J)) (hw : gH (xS ad cy) 66 ad D s I J H locs) (hl : lv_has ls 3 [(0, .ref (ad k)), (1, .int x1), (2, .int x2)]) : W p l e rmX8_unlike s m args below meth c H locs 0 0 (MQ below (gQi (xS ad cy) 66 ad cy D (xF ad ts) Q) args s 0 0 (gA 66 ad)) (F0 m 4 ls []) := by
  obtain ⟨n, h⟩ := h
  induction n generalizing x1 x2 I J H locs ls with
  | zero => exact False.elim h
  | succ n ih => exact w_X8_unlike_4 C hk (fun hk9 hw9 hl9 => ih hk9 hw9 hl9) h hw hl
set_option maxHeartbeats 4000000 in
set_option maxRecDepth 100000 in
theorem w_X8_unlike {Q : Int32 → MI → MJ → Prop} (C : gC RX8 cX8_unlike 3 (some .int) 66 ad cy D (xF ad ts) p s m args meth c) {k : Nat} (hk : isSet k) {I : MI} {J : MJ} {H : Heap} {locs : List Loc} {ls : Array Slot} (h : P_X8_unlike k I J Q) (hw : gH (xS ad cy) 66 ad D s I J H locs) (hl : lv_has ls 3 [(0, .ref (ad k))]) : W p l e rmX8_unlike s m args below meth c H locs 0 0 (MQ below (gQi (xS ad cy) 66 ad cy D (xF ad ts) Q) args s 0 0 (gA 66 ad)) (F0 m 0 ls []) := by
  obtain ⟨hx, hb, hC⟩ := id C
  refine lv_iconst (v := 0) hx hb dX8_unlike_0 (by decide) ?_
  refine lv_istore_n (lv' := [(1, .int (0 : Int32)), (0, .ref (ad k))]) hx hb dX8_unlike_1 rfl hl (by decide) rfl (fun ls hl => ?_)
  refine lv_iconst (v := 0) hx hb dX8_unlike_2 (by decide) ?_
  refine lv_istore_n (lv' := [(2, .int (0 : Int32)), (1, .int (0 : Int32)), (0, .ref (ad k))]) hx hb dX8_unlike_3 rfl hl (by decide) rfl (fun ls hl => ?_)
  exact wl_X8_unlike_4 C hk h hw (lv_sub hl [2, 1, 0] rfl)
theorem m_X8_unlike {l : Launch} {k : Nat} (hk : isSet k) {Q : Int32 → MI → MJ → Prop} {I : MI} {J : MJ} (h : P_X8_unlike k I J Q) : Met l yX8_unlike (xws yX8_unlike cX8_unlike 3 (some .int)) rmX8_unlike (va_Pc [.ref (ad k)] (gB (xS ad cy) 66 ad cy D (xF ad ts) I J)) (gQi (xS ad cy) 66 ad cy D (xF ad ts) Q) 0 0 (gA 66 ad) :=
  g_met (xF_ok ad ts) rfl (by decide) (Nat.le_of_ble_eq_true rfl) (fun p e s m below meth c ls C hw hl => w_X8_unlike C hk h hw hl)
/-! BagPhrases$Setting.packed()J -/
def P_X8_packed_4 (k : Nat) (Q : Int64 → MI → MJ → Prop) (kL4 : Int64 × Int32 × MI × MJ → Prop) : Int64 × Int32 × MI × MJ → Prop := fun z => match z with
  | (x1, x3, I, J) => (((8 : Int32) ≤ x3 → Q x1 I J) ∧ (¬ (8 : Int32) ≤ x3 → vp_in x3 8 ∧ (kL4 ((x1 ||| (((I (k + 1) x3.toNatClampNeg).toInt64) <<< (((5 : Int32) * x3).toInt64 &&& 63))), (x3 + 1), I, J))))
def P_X8_packed (k : Nat) (I : MI) (J : MJ) (Q : Int64 → MI → MJ → Prop) : Prop :=
  lpx (P_X8_packed_4 k Q) ((0 : Int64), (0 : Int32), I, J)
abbrev rmX8_packed : Room := { frames := 0, cells := 0, slots := 0, locals := 0 }
set_option maxHeartbeats 4000000 in
set_option maxRecDepth 100000 in
theorem w_X8_packed_4 {Q : Int64 → MI → MJ → Prop} (C : gC RX8 cX8_packed 4 (some .long) 66 ad cy D (xF ad ts) p s m args meth c) {k : Nat} (hk : isSet k) {kL4 : Int64 × Int32 × MI × MJ → Prop} (hL4 : ∀ {x1 : Int64} {x3 : Int32} {I : MI} {J : MJ} {H : Heap} {locs : List Loc} {ls : Array Slot}, kL4 (x1, x3, I, J) → gH (xS ad cy) 66 ad D s I J H locs → lv_has ls 4 [(0, .ref (ad k)), (1, .long x1), (3, .int x3)] → W p l e rmX8_packed s m args below meth c H locs 0 0 (MQ below (gQl (xS ad cy) 66 ad cy D (xF ad ts) Q) args s 0 0 (gA 66 ad)) (F0 m 4 ls [])) {x1 : Int64} {x3 : Int32} {I : MI} {J : MJ} {H : Heap} {locs : List Loc} {ls : Array Slot} (h : P_X8_packed_4 k Q kL4 (x1, x3, I, J)) (hw : gH (xS ad cy) 66 ad D s I J H locs) (hl : lv_has ls 4 [(0, .ref (ad k)), (1, .long x1), (3, .int x3)]) : W p l e rmX8_packed s m args below meth c H locs 0 0 (MQ below (gQl (xS ad cy) 66 ad cy D (xF ad ts) Q) args s 0 0 (gA 66 ad)) (F0 m 4 ls []) := by
  obtain ⟨hx, hb, hC⟩ := id C
  refine lv_iload_n hx hb dX8_packed_4 rfl (lv_at hl 2 rfl) ?_
  refine lv_bipush (v := 8) hx hb dX8_packed_5 (by decide) ?_
  refine lv_icmp_ge (tgt := 30) hx hb dX8_packed_7 (by decide) (fun c7 => ?_) (fun c7 => ?_)
  · have h := h.1 c7
    refine lv_lload_n hx hb dX8_packed_30 rfl (lv_at hl 1 rfl) ?_
    exact g_lret C hw h dX8_packed_31
  · have h := h.2 c7
    refine lv_lload_n hx hb dX8_packed_10 rfl (lv_at hl 1 rfl) ?_
    refine lv_aload_n hx hb dX8_packed_11 rfl (lv_at hl 0 rfl) ?_
    refine g_get C hw f_RX8_9 (xl_Set0 hk) ((xs_Set0 hk) _ _) rfl dX8_packed_12 ?_
    refine lv_iload_n hx hb dX8_packed_15 rfl (lv_at hl 2 rfl) ?_
    refine g_iald C hw (xl_Set1 hk) (xs_Set1 hk) h.1 dX8_packed_16 ?_
    have h := h.2
    refine lv_i2l hx hb dX8_packed_17 rfl ?_
    refine lv_iconst (v := 5) hx hb dX8_packed_18 (by decide) ?_
    refine lv_iload_n hx hb dX8_packed_19 rfl (lv_at hl 2 rfl) ?_
    refine lv_imul hx hb dX8_packed_20 ?_
    refine lv_lshl hx hb dX8_packed_21 rfl ?_
    refine lv_lor hx hb dX8_packed_22 ?_
    refine lv_lstore_n (lv' := [(1, .long (x1 ||| (((I (k + 1) x3.toNatClampNeg).toInt64) <<< (((5 : Int32) * x3).toInt64 &&& 63)))), (0, .ref (ad k)), (3, .int x3)]) hx hb dX8_packed_23 rfl hl (by decide) rfl (fun ls hl => ?_)
    refine lv_iinc (v := x3 + 1) (lv' := [(3, .int (x3 + 1)), (1, .long (x1 ||| (((I (k + 1) x3.toNatClampNeg).toInt64) <<< (((5 : Int32) * x3).toInt64 &&& 63)))), (0, .ref (ad k))]) hx hb dX8_packed_24 hl (k := 2) rfl rfl (by decide) rfl (fun ls hl => ?_)
    refine lv_goto (tgt := 4) hx hb dX8_packed_27 (by decide) ?_
    exact hL4 h hw (lv_sub hl [2, 1, 0] rfl)
theorem wl_X8_packed_4 {Q : Int64 → MI → MJ → Prop} (C : gC RX8 cX8_packed 4 (some .long) 66 ad cy D (xF ad ts) p s m args meth c) {k : Nat} (hk : isSet k) {x1 : Int64} {x3 : Int32} {I : MI} {J : MJ} {H : Heap} {locs : List Loc} {ls : Array Slot} (h : lpx (P_X8_packed_4 k Q) (x1, x3, I, J)) (hw : gH (xS ad cy) 66 ad D s I J H locs) (hl : lv_has ls 4 [(0, .ref (ad k)), (1, .long x1), (3, .int x3)]) : W p l e rmX8_packed s m args below meth c H locs 0 0 (MQ below (gQl (xS ad cy) 66 ad cy D (xF ad ts) Q) args s 0 0 (gA 66 ad)) (F0 m 4 ls []) := by
  obtain ⟨n, h⟩ := h
  induction n generalizing x1 x3 I J H locs ls with
  | zero => exact False.elim h
  | succ n ih => exact w_X8_packed_4 C hk (fun hk9 hw9 hl9 => ih hk9 hw9 hl9) h hw hl
set_option maxHeartbeats 4000000 in
set_option maxRecDepth 100000 in
theorem w_X8_packed {Q : Int64 → MI → MJ → Prop} (C : gC RX8 cX8_packed 4 (some .long) 66 ad cy D (xF ad ts) p s m args meth c) {k : Nat} (hk : isSet k) {I : MI} {J : MJ} {H : Heap} {locs : List Loc} {ls : Array Slot} (h : P_X8_packed k I J Q) (hw : gH (xS ad cy) 66 ad D s I J H locs) (hl : lv_has ls 4 [(0, .ref (ad k))]) : W p l e rmX8_packed s m args below meth c H locs 0 0 (MQ below (gQl (xS ad cy) 66 ad cy D (xF ad ts) Q) args s 0 0 (gA 66 ad)) (F0 m 0 ls []) := by
  obtain ⟨hx, hb, hC⟩ := id C
  refine lv_lconst (v := 0) hx hb dX8_packed_0 (by decide) ?_
  refine lv_lstore_n (lv' := [(1, .long (0 : Int64)), (0, .ref (ad k))]) hx hb dX8_packed_1 rfl hl (by decide) rfl (fun ls hl => ?_)
  refine lv_iconst (v := 0) hx hb dX8_packed_2 (by decide) ?_
  refine lv_istore_n (lv' := [(3, .int (0 : Int32)), (1, .long (0 : Int64)), (0, .ref (ad k))]) hx hb dX8_packed_3 rfl hl (by decide) rfl (fun ls hl => ?_)
  exact wl_X8_packed_4 C hk h hw (lv_sub hl [2, 1, 0] rfl)
theorem m_X8_packed {l : Launch} {k : Nat} (hk : isSet k) {Q : Int64 → MI → MJ → Prop} {I : MI} {J : MJ} (h : P_X8_packed k I J Q) : Met l yX8_packed (xws yX8_packed cX8_packed 4 (some .long)) rmX8_packed (va_Pc [.ref (ad k)] (gB (xS ad cy) 66 ad cy D (xF ad ts) I J)) (gQl (xS ad cy) 66 ad cy D (xF ad ts) Q) 0 0 (gA 66 ad) :=
  g_met (xF_ok ad ts) rfl (by decide) (Nat.le_of_ble_eq_true rfl) (fun p e s m below meth c ls C hw hl => w_X8_packed C hk h hw hl)
/-! BagPhrases$Lexicon.amount(II)I -/
def P_X5_amount (k : Nat) (a0 : Int32) (a1 : Int32) (I : MI) (J : MJ) (Q : Int32 → MI → MJ → Prop) : Prop :=
  vp_in a0 10 ∧ (Q ((((J (k + 3) a0.toNatClampNeg) >>> (((5 : Int32) * a1).toInt64 &&& 63)).toInt32) &&& (15 : Int32)) I J)
abbrev rmX5_amount : Room := { frames := 0, cells := 0, slots := 0, locals := 0 }
set_option maxHeartbeats 4000000 in
set_option maxRecDepth 100000 in
theorem w_X5_amount {Q : Int32 → MI → MJ → Prop} (C : gC RX5 cX5_amount 3 (some .int) 66 ad cy D (xF ad ts) p s m args meth c) {k : Nat} (hk : isLex k) {a0 : Int32} {a1 : Int32} {I : MI} {J : MJ} {H : Heap} {locs : List Loc} {ls : Array Slot} (h : P_X5_amount k a0 a1 I J Q) (hw : gH (xS ad cy) 66 ad D s I J H locs) (hl : lv_has ls 3 [(0, .ref (ad k)), (1, .int a0), (2, .int a1)]) : W p l e rmX5_amount s m args below meth c H locs 0 0 (MQ below (gQi (xS ad cy) 66 ad cy D (xF ad ts) Q) args s 0 0 (gA 66 ad)) (F0 m 0 ls []) := by
  obtain ⟨hx, hb, hC⟩ := id C
  refine lv_aload_n hx hb dX5_amount_0 rfl (lv_at hl 0 rfl) ?_
  refine g_get C hw f_RX5_18 (xl_Lex0 hk) ((xs_Lex0 hk) _ _) rfl dX5_amount_1 ?_
  refine lv_iload_n hx hb dX5_amount_4 rfl (lv_at hl 1 rfl) ?_
  refine g_lald C hw (xl_Lex3 hk) (xs_Lex3 hk) h.1 dX5_amount_5 ?_
  have h := h.2
  refine lv_iconst (v := 5) hx hb dX5_amount_6 (by decide) ?_
  refine lv_iload_n hx hb dX5_amount_7 rfl (lv_at hl 2 rfl) ?_
  refine lv_imul hx hb dX5_amount_8 ?_
  refine lv_lshr hx hb dX5_amount_9 rfl ?_
  refine lv_l2i hx hb dX5_amount_10 rfl ?_
  refine lv_bipush (v := 15) hx hb dX5_amount_11 (by decide) ?_
  refine lv_iand hx hb dX5_amount_13 ?_
  exact g_iret C hw h dX5_amount_14
theorem m_X5_amount {l : Launch} {k : Nat} (hk : isLex k) {a0 : Int32} {a1 : Int32} {Q : Int32 → MI → MJ → Prop} {I : MI} {J : MJ} (h : P_X5_amount k a0 a1 I J Q) : Met l yX5_amount (xws yX5_amount cX5_amount 3 (some .int)) rmX5_amount (va_Pc [.ref (ad k), .int a0, .int a1] (gB (xS ad cy) 66 ad cy D (xF ad ts) I J)) (gQi (xS ad cy) 66 ad cy D (xF ad ts) Q) 0 0 (gA 66 ad) :=
  g_met (xF_ok ad ts) rfl (by decide) (Nat.le_of_ble_eq_true rfl) (fun p e s m below meth c ls C hw hl => w_X5_amount C hk h hw hl)
/-! BagPhrases$Lexicon.has(I)Z -/
def P_X5_has_16 (k : Nat) (Q : Int32 → MI → MJ → Prop) (I : MI) (J : MJ) : Prop :=
  Q (0 : Int32) I J
def P_X5_has (k : Nat) (a0 : Int32) (I : MI) (J : MJ) (Q : Int32 → MI → MJ → Prop) : Prop :=
  ((a0 < 0 → P_X5_has_16 k Q I J) ∧ (¬ a0 < 0 → (((I k 4) ≤ a0 → P_X5_has_16 k Q I J) ∧ (¬ (I k 4) ≤ a0 → Q (1 : Int32) I J))))
abbrev rmX5_has : Room := { frames := 0, cells := 0, slots := 0, locals := 0 }
set_option maxHeartbeats 4000000 in
set_option maxRecDepth 100000 in
theorem w_X5_has_16 {Q : Int32 → MI → MJ → Prop} (C : gC RX5 cX5_has 2 (some .boolean) 66 ad cy D (xF ad ts) p s m args meth c) {k : Nat} (hk : isLex k) {I : MI} {J : MJ} {H : Heap} {locs : List Loc} {ls : Array Slot} (h : P_X5_has_16 k Q I J) (hw : gH (xS ad cy) 66 ad D s I J H locs) (hl : lv_has ls 2 []) : W p l e rmX5_has s m args below meth c H locs 0 0 (MQ below (gQz (xS ad cy) 66 ad cy D (xF ad ts) Q) args s 0 0 (gA 66 ad)) (F0 m 16 ls []) := by
  obtain ⟨hx, hb, hC⟩ := id C
  refine lv_iconst (v := 0) hx hb dX5_has_16 (by decide) ?_
  exact g_zret C hw (by decide) h dX5_has_17
set_option maxHeartbeats 4000000 in
set_option maxRecDepth 100000 in
theorem w_X5_has {Q : Int32 → MI → MJ → Prop} (C : gC RX5 cX5_has 2 (some .boolean) 66 ad cy D (xF ad ts) p s m args meth c) {k : Nat} (hk : isLex k) {a0 : Int32} {I : MI} {J : MJ} {H : Heap} {locs : List Loc} {ls : Array Slot} (h : P_X5_has k a0 I J Q) (hw : gH (xS ad cy) 66 ad D s I J H locs) (hl : lv_has ls 2 [(0, .ref (ad k)), (1, .int a0)]) : W p l e rmX5_has s m args below meth c H locs 0 0 (MQ below (gQz (xS ad cy) 66 ad cy D (xF ad ts) Q) args s 0 0 (gA 66 ad)) (F0 m 0 ls []) := by
  obtain ⟨hx, hb, hC⟩ := id C
  refine lv_iload_n hx hb dX5_has_0 rfl (lv_at hl 1 rfl) ?_
  refine lv_if_lt (tgt := 16) hx hb dX5_has_1 (by decide) (fun c1 => ?_) (fun c1 => ?_)
  · have h := h.1 c1
    exact w_X5_has_16 C hk h hw (lv_sub hl [] rfl)
  · have h := h.2 c1
    refine lv_iload_n hx hb dX5_has_4 rfl (lv_at hl 1 rfl) ?_
    refine lv_aload_n hx hb dX5_has_5 rfl (lv_at hl 0 rfl) ?_
    refine g_get C hw f_RX5_25 (xl_Lex0 hk) ((xs_Lex0 hk) _ _) rfl dX5_has_6 ?_
    refine lv_icmp_ge (tgt := 16) hx hb dX5_has_9 (by decide) (fun c9 => ?_) (fun c9 => ?_)
    · have h := h.1 c9
      exact w_X5_has_16 C hk h hw (lv_sub hl [] rfl)
    · have h := h.2 c9
      refine lv_iconst (v := 1) hx hb dX5_has_12 (by decide) ?_
      refine lv_goto (tgt := 17) hx hb dX5_has_13 (by decide) ?_
      exact g_zret C hw (by decide) h dX5_has_17
theorem m_X5_has {l : Launch} {k : Nat} (hk : isLex k) {a0 : Int32} {Q : Int32 → MI → MJ → Prop} {I : MI} {J : MJ} (h : P_X5_has k a0 I J Q) : Met l yX5_has (xws yX5_has cX5_has 2 (some .boolean)) rmX5_has (va_Pc [.ref (ad k), .int a0] (gB (xS ad cy) 66 ad cy D (xF ad ts) I J)) (gQz (xS ad cy) 66 ad cy D (xF ad ts) Q) 0 0 (gA 66 ad) :=
  g_met (xF_ok ad ts) rfl (by decide) (Nat.le_of_ble_eq_true rfl) (fun p e s m below meth c ls C hw hl => w_X5_has C hk h hw hl)
/-! BagPhrases$Lexicon.wordsWith(I)I -/
def P_X5_wordsWith_24 (k : Nat) (Q : Int32 → MI → MJ → Prop) (kL4 : Int32 × Int32 × Int32 × MI × MJ → Prop) (x1 : Int32) (x2 : Int32) (x3 : Int32) (I : MI) (J : MJ) : Prop :=
  kL4 (x1, x2, (x3 + 1), I, J)
def P_X5_wordsWith_4 (k : Nat) (Q : Int32 → MI → MJ → Prop) (kL4 : Int32 × Int32 × Int32 × MI × MJ → Prop) : Int32 × Int32 × Int32 × MI × MJ → Prop := fun z => match z with
  | (x1, x2, x3, I, J) => (((I k 4) ≤ x3 → Q x2 I J) ∧ (¬ (I k 4) ≤ x3 → P_X5_amount k x3 x1 I J (fun r15 I15 J15 => ((r15 ≤ 0 → P_X5_wordsWith_24 k Q kL4 x1 x2 x3 I15 J15) ∧ (¬ r15 ≤ 0 → P_X5_wordsWith_24 k Q kL4 x1 (x2 + 1) x3 I15 J15)))))
def P_X5_wordsWith (k : Nat) (a0 : Int32) (I : MI) (J : MJ) (Q : Int32 → MI → MJ → Prop) : Prop :=
  lpx (P_X5_wordsWith_4 k Q) (a0, (0 : Int32), (0 : Int32), I, J)
abbrev rmX5_wordsWith : Room := { frames := 1, cells := 0, slots := 0, locals := 22 }
set_option maxHeartbeats 4000000 in
set_option maxRecDepth 100000 in
theorem w_X5_wordsWith_24 {Q : Int32 → MI → MJ → Prop} (C : gC RX5 cX5_wordsWith 4 (some .int) 66 ad cy D (xF ad ts) p s m args meth c) {k : Nat} (hk : isLex k) {kL4 : Int32 × Int32 × Int32 × MI × MJ → Prop} (hL4 : ∀ {x1 : Int32} {x2 : Int32} {x3 : Int32} {I : MI} {J : MJ} {H : Heap} {locs : List Loc} {ls : Array Slot}, kL4 (x1, x2, x3, I, J) → gH (xS ad cy) 66 ad D s I J H locs → lv_has ls 4 [(0, .ref (ad k)), (1, .int x1), (2, .int x2), (3, .int x3)] → W p l e rmX5_wordsWith s m args below meth c H locs 0 0 (MQ below (gQi (xS ad cy) 66 ad cy D (xF ad ts) Q) args s 0 0 (gA 66 ad)) (F0 m 4 ls [])) {x1 : Int32} {x2 : Int32} {x3 : Int32} {I : MI} {J : MJ} {H : Heap} {locs : List Loc} {ls : Array Slot} (h : P_X5_wordsWith_24 k Q kL4 x1 x2 x3 I J) (hw : gH (xS ad cy) 66 ad D s I J H locs) (hl : lv_has ls 4 [(0, .ref (ad k)), (1, .int x1), (2, .int x2), (3, .int x3)]) : W p l e rmX5_wordsWith s m args below meth c H locs 0 0 (MQ below (gQi (xS ad cy) 66 ad cy D (xF ad ts) Q) args s 0 0 (gA 66 ad)) (F0 m 24 ls []) := by
  obtain ⟨hx, hb, hC⟩ := id C
  refine lv_iinc (v := x3 + 1) (lv' := [(3, .int (x3 + 1)), (0, .ref (ad k)), (1, .int x1), (2, .int x2)]) hx hb dX5_wordsWith_24 hl (k := 3) rfl rfl (by decide) rfl (fun ls hl => ?_)
  refine lv_goto (tgt := 4) hx hb dX5_wordsWith_27 (by decide) ?_
  exact hL4 h hw (lv_sub hl [1, 2, 3, 0] rfl)
set_option maxHeartbeats 4000000 in
set_option maxRecDepth 100000 in
theorem w_X5_wordsWith_4 {Q : Int32 → MI → MJ → Prop} (C : gC RX5 cX5_wordsWith 4 (some .int) 66 ad cy D (xF ad ts) p s m args meth c) {k : Nat} (hk : isLex k) {kL4 : Int32 × Int32 × Int32 × MI × MJ → Prop} (hL4 : ∀ {x1 : Int32} {x2 : Int32} {x3 : Int32} {I : MI} {J : MJ} {H : Heap} {locs : List Loc} {ls : Array Slot}, kL4 (x1, x2, x3, I, J) → gH (xS ad cy) 66 ad D s I J H locs → lv_has ls 4 [(0, .ref (ad k)), (1, .int x1), (2, .int x2), (3, .int x3)] → W p l e rmX5_wordsWith s m args below meth c H locs 0 0 (MQ below (gQi (xS ad cy) 66 ad cy D (xF ad ts) Q) args s 0 0 (gA 66 ad)) (F0 m 4 ls [])) {x1 : Int32} {x2 : Int32} {x3 : Int32} {I : MI} {J : MJ} {H : Heap} {locs : List Loc} {ls : Array Slot} (h : P_X5_wordsWith_4 k Q kL4 (x1, x2, x3, I, J)) (hw : gH (xS ad cy) 66 ad D s I J H locs) (hl : lv_has ls 4 [(0, .ref (ad k)), (1, .int x1), (2, .int x2), (3, .int x3)]) : W p l e rmX5_wordsWith s m args below meth c H locs 0 0 (MQ below (gQi (xS ad cy) 66 ad cy D (xF ad ts) Q) args s 0 0 (gA 66 ad)) (F0 m 4 ls []) := by
  obtain ⟨hx, hb, hC⟩ := id C
  refine lv_iload_n hx hb dX5_wordsWith_4 rfl (lv_at hl 3 rfl) ?_
  refine lv_aload_n hx hb dX5_wordsWith_5 rfl (lv_at hl 0 rfl) ?_
  refine g_get C hw f_RX5_25 (xl_Lex0 hk) ((xs_Lex0 hk) _ _) rfl dX5_wordsWith_6 ?_
  refine lv_icmp_ge (tgt := 30) hx hb dX5_wordsWith_9 (by decide) (fun c9 => ?_) (fun c9 => ?_)
  · have h := h.1 c9
    refine lv_iload_n hx hb dX5_wordsWith_30 rfl (lv_at hl 2 rfl) ?_
    exact g_iret C hw h dX5_wordsWith_31
  · have h := h.2 c9
    refine lv_aload_n hx hb dX5_wordsWith_12 rfl (lv_at hl 0 rfl) ?_
    refine lv_iload_n hx hb dX5_wordsWith_13 rfl (lv_at hl 3 rfl) ?_
    refine lv_iload_n hx hb dX5_wordsWith_14 rfl (lv_at hl 1 rfl) ?_
    refine g_ci hw (g_rV [.int x3, .int x1] [] C hw (m_X5_amount hk h) k_X5_amount q_RX5_35 (xl_Lex0 hk) ((xs_Lex0 hk) _ _) rfl rfl hl.1 rfl (by decide) ⟨⟨rfl, rfl⟩, Nat.le_of_ble_eq_true rfl, Nat.le_of_ble_eq_true rfl⟩ ⟨Nat.zero_le _, Nat.zero_le _⟩ dX5_wordsWith_15) (fun r15 I15 J15 H locs h hw => ?_)
    refine lv_if_le (tgt := 24) hx hb dX5_wordsWith_18 (by decide) (fun c18 => ?_) (fun c18 => ?_)
    · have h := h.1 c18
      exact w_X5_wordsWith_24 C hk hL4 h hw (lv_sub hl [0, 1, 2, 3] rfl)
    · have h := h.2 c18
      refine lv_iinc (v := x2 + 1) (lv' := [(2, .int (x2 + 1)), (0, .ref (ad k)), (1, .int x1), (3, .int x3)]) hx hb dX5_wordsWith_21 hl (k := 2) rfl rfl (by decide) rfl (fun ls hl => ?_)
      exact w_X5_wordsWith_24 C hk hL4 h hw (lv_sub hl [1, 2, 0, 3] rfl)
theorem wl_X5_wordsWith_4 {Q : Int32 → MI → MJ → Prop} (C : gC RX5 cX5_wordsWith 4 (some .int) 66 ad cy D (xF ad ts) p s m args meth c) {k : Nat} (hk : isLex k) {x1 : Int32} {x2 : Int32} {x3 : Int32} {I : MI} {J : MJ} {H : Heap} {locs : List Loc} {ls : Array Slot} (h : lpx (P_X5_wordsWith_4 k Q) (x1, x2, x3, I, J)) (hw : gH (xS ad cy) 66 ad D s I J H locs) (hl : lv_has ls 4 [(0, .ref (ad k)), (1, .int x1), (2, .int x2), (3, .int x3)]) : W p l e rmX5_wordsWith s m args below meth c H locs 0 0 (MQ below (gQi (xS ad cy) 66 ad cy D (xF ad ts) Q) args s 0 0 (gA 66 ad)) (F0 m 4 ls []) := by
  obtain ⟨n, h⟩ := h
  induction n generalizing x1 x2 x3 I J H locs ls with
  | zero => exact False.elim h
  | succ n ih => exact w_X5_wordsWith_4 C hk (fun hk9 hw9 hl9 => ih hk9 hw9 hl9) h hw hl
set_option maxHeartbeats 4000000 in
set_option maxRecDepth 100000 in
theorem w_X5_wordsWith {Q : Int32 → MI → MJ → Prop} (C : gC RX5 cX5_wordsWith 4 (some .int) 66 ad cy D (xF ad ts) p s m args meth c) {k : Nat} (hk : isLex k) {a0 : Int32} {I : MI} {J : MJ} {H : Heap} {locs : List Loc} {ls : Array Slot} (h : P_X5_wordsWith k a0 I J Q) (hw : gH (xS ad cy) 66 ad D s I J H locs) (hl : lv_has ls 4 [(0, .ref (ad k)), (1, .int a0)]) : W p l e rmX5_wordsWith s m args below meth c H locs 0 0 (MQ below (gQi (xS ad cy) 66 ad cy D (xF ad ts) Q) args s 0 0 (gA 66 ad)) (F0 m 0 ls []) := by
  obtain ⟨hx, hb, hC⟩ := id C
  refine lv_iconst (v := 0) hx hb dX5_wordsWith_0 (by decide) ?_
  refine lv_istore_n (lv' := [(2, .int (0 : Int32)), (0, .ref (ad k)), (1, .int a0)]) hx hb dX5_wordsWith_1 rfl hl (by decide) rfl (fun ls hl => ?_)
  refine lv_iconst (v := 0) hx hb dX5_wordsWith_2 (by decide) ?_
  refine lv_istore_n (lv' := [(3, .int (0 : Int32)), (2, .int (0 : Int32)), (0, .ref (ad k)), (1, .int a0)]) hx hb dX5_wordsWith_3 rfl hl (by decide) rfl (fun ls hl => ?_)
  exact wl_X5_wordsWith_4 C hk h hw (lv_sub hl [2, 3, 1, 0] rfl)
theorem m_X5_wordsWith {l : Launch} {k : Nat} (hk : isLex k) {a0 : Int32} {Q : Int32 → MI → MJ → Prop} {I : MI} {J : MJ} (h : P_X5_wordsWith k a0 I J Q) : Met l yX5_wordsWith (xws yX5_wordsWith cX5_wordsWith 4 (some .int)) rmX5_wordsWith (va_Pc [.ref (ad k), .int a0] (gB (xS ad cy) 66 ad cy D (xF ad ts) I J)) (gQi (xS ad cy) 66 ad cy D (xF ad ts) Q) 0 0 (gA 66 ad) :=
  g_met (xF_ok ad ts) rfl (by decide) (Nat.le_of_ble_eq_true rfl) (fun p e s m below meth c ls C hw hl => w_X5_wordsWith C hk h hw hl)
/-! BagPhrases$Lexicon.rarest(I)I -/
def P_X5_rarest_46 (k : Nat) (Q : Int32 → MI → MJ → Prop) (kL9 : Int32 × Int32 × Int32 × Int32 × MI × MJ → Prop) (x1 : Int32) (x2 : Int32) (x3 : Int32) (x4 : Int32) (I : MI) (J : MJ) : Prop :=
  kL9 (x1, x2, x3, (x4 + 1), I, J)
def P_X5_rarest_9 (k : Nat) (Q : Int32 → MI → MJ → Prop) (kL9 : Int32 × Int32 × Int32 × Int32 × MI × MJ → Prop) : Int32 × Int32 × Int32 × Int32 × MI × MJ → Prop := fun z => match z with
  | (x1, x2, x3, x4, I, J) => (((8 : Int32) ≤ x4 → Q x2 I J) ∧ (¬ (8 : Int32) ≤ x4 → P_X5_amount k x1 x4 I J (fun r20 I20 J20 => ((r20 ≤ 0 → P_X5_rarest_46 k Q kL9 x1 x2 x3 x4 I20 J20) ∧ (¬ r20 ≤ 0 → P_X5_wordsWith k x4 I20 J20 (fun r29 I29 J29 => ((x3 ≤ r29 → P_X5_rarest_46 k Q kL9 x1 x2 x3 x4 I29 J29) ∧ (¬ x3 ≤ r29 → P_X5_wordsWith k x4 I29 J29 (fun r42 I42 J42 => P_X5_rarest_46 k Q kL9 x1 x4 r42 x4 I42 J42)))))))))
def P_X5_rarest (k : Nat) (a0 : Int32) (I : MI) (J : MJ) (Q : Int32 → MI → MJ → Prop) : Prop :=
  lpx (P_X5_rarest_9 k Q) (a0, (-9 : Int32), (11 : Int32), (0 : Int32), I, J)
abbrev rmX5_rarest : Room := { frames := 2, cells := 0, slots := 0, locals := 45 }
set_option maxHeartbeats 4000000 in
set_option maxRecDepth 100000 in
theorem w_X5_rarest_46 {Q : Int32 → MI → MJ → Prop} (C : gC RX5 cX5_rarest 5 (some .int) 66 ad cy D (xF ad ts) p s m args meth c) {k : Nat} (hk : isLex k) {kL9 : Int32 × Int32 × Int32 × Int32 × MI × MJ → Prop} (hL9 : ∀ {x1 : Int32} {x2 : Int32} {x3 : Int32} {x4 : Int32} {I : MI} {J : MJ} {H : Heap} {locs : List Loc} {ls : Array Slot}, kL9 (x1, x2, x3, x4, I, J) → gH (xS ad cy) 66 ad D s I J H locs → lv_has ls 5 [(0, .ref (ad k)), (1, .int x1), (2, .int x2), (3, .int x3), (4, .int x4)] → W p l e rmX5_rarest s m args below meth c H locs 0 0 (MQ below (gQi (xS ad cy) 66 ad cy D (xF ad ts) Q) args s 0 0 (gA 66 ad)) (F0 m 9 ls [])) {x1 : Int32} {x2 : Int32} {x3 : Int32} {x4 : Int32} {I : MI} {J : MJ} {H : Heap} {locs : List Loc} {ls : Array Slot} (h : P_X5_rarest_46 k Q kL9 x1 x2 x3 x4 I J) (hw : gH (xS ad cy) 66 ad D s I J H locs) (hl : lv_has ls 5 [(0, .ref (ad k)), (1, .int x1), (2, .int x2), (3, .int x3), (4, .int x4)]) : W p l e rmX5_rarest s m args below meth c H locs 0 0 (MQ below (gQi (xS ad cy) 66 ad cy D (xF ad ts) Q) args s 0 0 (gA 66 ad)) (F0 m 46 ls []) := by
  obtain ⟨hx, hb, hC⟩ := id C
  refine lv_iinc (v := x4 + 1) (lv' := [(4, .int (x4 + 1)), (0, .ref (ad k)), (1, .int x1), (2, .int x2), (3, .int x3)]) hx hb dX5_rarest_46 hl (k := 4) rfl rfl (by decide) rfl (fun ls hl => ?_)
  refine lv_goto (tgt := 9) hx hb dX5_rarest_49 (by decide) ?_
  exact hL9 h hw (lv_sub hl [1, 2, 3, 4, 0] rfl)
set_option maxHeartbeats 4000000 in
set_option maxRecDepth 100000 in
theorem w_X5_rarest_9 {Q : Int32 → MI → MJ → Prop} (C : gC RX5 cX5_rarest 5 (some .int) 66 ad cy D (xF ad ts) p s m args meth c) {k : Nat} (hk : isLex k) {kL9 : Int32 × Int32 × Int32 × Int32 × MI × MJ → Prop} (hL9 : ∀ {x1 : Int32} {x2 : Int32} {x3 : Int32} {x4 : Int32} {I : MI} {J : MJ} {H : Heap} {locs : List Loc} {ls : Array Slot}, kL9 (x1, x2, x3, x4, I, J) → gH (xS ad cy) 66 ad D s I J H locs → lv_has ls 5 [(0, .ref (ad k)), (1, .int x1), (2, .int x2), (3, .int x3), (4, .int x4)] → W p l e rmX5_rarest s m args below meth c H locs 0 0 (MQ below (gQi (xS ad cy) 66 ad cy D (xF ad ts) Q) args s 0 0 (gA 66 ad)) (F0 m 9 ls [])) {x1 : Int32} {x2 : Int32} {x3 : Int32} {x4 : Int32} {I : MI} {J : MJ} {H : Heap} {locs : List Loc} {ls : Array Slot} (h : P_X5_rarest_9 k Q kL9 (x1, x2, x3, x4, I, J)) (hw : gH (xS ad cy) 66 ad D s I J H locs) (hl : lv_has ls 5 [(0, .ref (ad k)), (1, .int x1), (2, .int x2), (3, .int x3), (4, .int x4)]) : W p l e rmX5_rarest s m args below meth c H locs 0 0 (MQ below (gQi (xS ad cy) 66 ad cy D (xF ad ts) Q) args s 0 0 (gA 66 ad)) (F0 m 9 ls []) := by
  obtain ⟨hx, hb, hC⟩ := id C
  refine lv_iload hx hb dX5_rarest_9 (lv_at hl 4 rfl) ?_
  refine lv_bipush (v := 8) hx hb dX5_rarest_11 (by decide) ?_
  refine lv_icmp_ge (tgt := 52) hx hb dX5_rarest_13 (by decide) (fun c13 => ?_) (fun c13 => ?_)
  · have h := h.1 c13
    refine lv_iload_n hx hb dX5_rarest_52 rfl (lv_at hl 2 rfl) ?_
    exact g_iret C hw h dX5_rarest_53
  · have h := h.2 c13
    refine lv_aload_n hx hb dX5_rarest_16 rfl (lv_at hl 0 rfl) ?_
    refine lv_iload_n hx hb dX5_rarest_17 rfl (lv_at hl 1 rfl) ?_
    refine lv_iload hx hb dX5_rarest_18 (lv_at hl 4 rfl) ?_
    refine g_ci hw (g_rV [.int x1, .int x4] [] C hw (m_X5_amount hk h) k_X5_amount q_RX5_35 (xl_Lex0 hk) ((xs_Lex0 hk) _ _) rfl rfl hl.1 rfl (by decide) ⟨⟨rfl, rfl⟩, Nat.le_of_ble_eq_true rfl, Nat.le_of_ble_eq_true rfl⟩ ⟨Nat.zero_le _, Nat.zero_le _⟩ dX5_rarest_20) (fun r20 I20 J20 H locs h hw => ?_)
    refine lv_if_le (tgt := 46) hx hb dX5_rarest_23 (by decide) (fun c23 => ?_) (fun c23 => ?_)
    · have h := h.1 c23
      exact w_X5_rarest_46 C hk hL9 h hw (lv_sub hl [0, 1, 2, 3, 4] rfl)
    · have h := h.2 c23
      refine lv_aload_n hx hb dX5_rarest_26 rfl (lv_at hl 0 rfl) ?_
      refine lv_iload hx hb dX5_rarest_27 (lv_at hl 4 rfl) ?_
      refine g_ci hw (g_rV [.int x4] [] C hw (m_X5_wordsWith hk h) k_X5_wordsWith q_RX5_39 (xl_Lex0 hk) ((xs_Lex0 hk) _ _) rfl rfl hl.1 rfl (by decide) ⟨⟨rfl, rfl⟩, Nat.le_of_ble_eq_true rfl, Nat.le_of_ble_eq_true rfl⟩ ⟨Nat.zero_le _, Nat.zero_le _⟩ dX5_rarest_29) (fun r29 I29 J29 H locs h hw => ?_)
      refine lv_iload_n hx hb dX5_rarest_32 rfl (lv_at hl 3 rfl) ?_
      refine lv_icmp_ge (tgt := 46) hx hb dX5_rarest_33 (by decide) (fun c33 => ?_) (fun c33 => ?_)
      · have h := h.1 c33
        exact w_X5_rarest_46 C hk hL9 h hw (lv_sub hl [0, 1, 2, 3, 4] rfl)
      · have h := h.2 c33
        refine lv_iload hx hb dX5_rarest_36 (lv_at hl 4 rfl) ?_
        refine lv_istore_n (lv' := [(2, .int x4), (0, .ref (ad k)), (1, .int x1), (3, .int x3), (4, .int x4)]) hx hb dX5_rarest_38 rfl hl (by decide) rfl (fun ls hl => ?_)
        refine lv_aload_n hx hb dX5_rarest_39 rfl (lv_at hl 1 rfl) ?_
        refine lv_iload hx hb dX5_rarest_40 (lv_at hl 4 rfl) ?_
        refine g_ci hw (g_rV [.int x4] [] C hw (m_X5_wordsWith hk h) k_X5_wordsWith q_RX5_39 (xl_Lex0 hk) ((xs_Lex0 hk) _ _) rfl rfl hl.1 rfl (by decide) ⟨⟨rfl, rfl⟩, Nat.le_of_ble_eq_true rfl, Nat.le_of_ble_eq_true rfl⟩ ⟨Nat.zero_le _, Nat.zero_le _⟩ dX5_rarest_42) (fun r42 I42 J42 H locs h hw => ?_)
        refine lv_istore_n (lv' := [(3, .int r42), (2, .int x4), (0, .ref (ad k)), (1, .int x1), (4, .int x4)]) hx hb dX5_rarest_45 rfl hl (by decide) rfl (fun ls hl => ?_)
        exact w_X5_rarest_46 C hk hL9 h hw (lv_sub hl [2, 3, 1, 0, 4] rfl)
theorem wl_X5_rarest_9 {Q : Int32 → MI → MJ → Prop} (C : gC RX5 cX5_rarest 5 (some .int) 66 ad cy D (xF ad ts) p s m args meth c) {k : Nat} (hk : isLex k) {x1 : Int32} {x2 : Int32} {x3 : Int32} {x4 : Int32} {I : MI} {J : MJ} {H : Heap} {locs : List Loc} {ls : Array Slot} (h : lpx (P_X5_rarest_9 k Q) (x1, x2, x3, x4, I, J)) (hw : gH (xS ad cy) 66 ad D s I J H locs) (hl : lv_has ls 5 [(0, .ref (ad k)), (1, .int x1), (2, .int x2), (3, .int x3), (4, .int x4)]) : W p l e rmX5_rarest s m args below meth c H locs 0 0 (MQ below (gQi (xS ad cy) 66 ad cy D (xF ad ts) Q) args s 0 0 (gA 66 ad)) (F0 m 9 ls []) := by
  obtain ⟨n, h⟩ := h
  induction n generalizing x1 x2 x3 x4 I J H locs ls with
  | zero => exact False.elim h
  | succ n ih => exact w_X5_rarest_9 C hk (fun hk9 hw9 hl9 => ih hk9 hw9 hl9) h hw hl
set_option maxHeartbeats 4000000 in
set_option maxRecDepth 100000 in
theorem w_X5_rarest {Q : Int32 → MI → MJ → Prop} (C : gC RX5 cX5_rarest 5 (some .int) 66 ad cy D (xF ad ts) p s m args meth c) {k : Nat} (hk : isLex k) {a0 : Int32} {I : MI} {J : MJ} {H : Heap} {locs : List Loc} {ls : Array Slot} (h : P_X5_rarest k a0 I J Q) (hw : gH (xS ad cy) 66 ad D s I J H locs) (hl : lv_has ls 5 [(0, .ref (ad k)), (1, .int a0)]) : W p l e rmX5_rarest s m args below meth c H locs 0 0 (MQ below (gQi (xS ad cy) 66 ad cy D (xF ad ts) Q) args s 0 0 (gA 66 ad)) (F0 m 0 ls []) := by
  obtain ⟨hx, hb, hC⟩ := id C
  refine lv_bipush (v := -9) hx hb dX5_rarest_0 (by decide) ?_
  refine lv_istore_n (lv' := [(2, .int (-9 : Int32)), (0, .ref (ad k)), (1, .int a0)]) hx hb dX5_rarest_2 rfl hl (by decide) rfl (fun ls hl => ?_)
  refine lv_bipush (v := 11) hx hb dX5_rarest_3 (by decide) ?_
  refine lv_istore_n (lv' := [(3, .int (11 : Int32)), (2, .int (-9 : Int32)), (0, .ref (ad k)), (1, .int a0)]) hx hb dX5_rarest_5 rfl hl (by decide) rfl (fun ls hl => ?_)
  refine lv_iconst (v := 0) hx hb dX5_rarest_6 (by decide) ?_
  refine lv_istore (lv' := [(4, .int (0 : Int32)), (3, .int (11 : Int32)), (2, .int (-9 : Int32)), (0, .ref (ad k)), (1, .int a0)]) hx hb dX5_rarest_7 hl (by decide) rfl (fun ls hl => ?_)
  exact wl_X5_rarest_9 C hk h hw (lv_sub hl [3, 4, 2, 1, 0] rfl)
theorem m_X5_rarest {l : Launch} {k : Nat} (hk : isLex k) {a0 : Int32} {Q : Int32 → MI → MJ → Prop} {I : MI} {J : MJ} (h : P_X5_rarest k a0 I J Q) : Met l yX5_rarest (xws yX5_rarest cX5_rarest 5 (some .int)) rmX5_rarest (va_Pc [.ref (ad k), .int a0] (gB (xS ad cy) 66 ad cy D (xF ad ts) I J)) (gQi (xS ad cy) 66 ad cy D (xF ad ts) Q) 0 0 (gA 66 ad) :=
  g_met (xF_ok ad ts) rfl (by decide) (Nat.le_of_ble_eq_true rfl) (fun p e s m below meth c ls C hw hl => w_X5_rarest C hk h hw hl)
/-! BagPhrases$Lexicon.twins(I)I -/
def P_X5_twins_31 (k : Nat) (Q : Int32 → MI → MJ → Prop) (kL4 : Int32 × Int32 × Int32 × MI × MJ → Prop) (x1 : Int32) (x2 : Int32) (x3 : Int32) (I : MI) (J : MJ) : Prop :=
  kL4 (x1, x2, (x3 + 1), I, J)
def P_X5_twins_4 (k : Nat) (Q : Int32 → MI → MJ → Prop) (kL4 : Int32 × Int32 × Int32 × MI × MJ → Prop) : Int32 × Int32 × Int32 × MI × MJ → Prop := fun z => match z with
  | (x1, x2, x3, I, J) => (((I k 4) ≤ x3 → Q x2 I J) ∧ (¬ (I k 4) ≤ x3 → vp_in x3 10 ∧ (vp_in x1 10 ∧ (((¬ (J (k + 3) x3.toNatClampNeg) = (J (k + 3) x1.toNatClampNeg) → P_X5_twins_31 k Q kL4 x1 x2 x3 I J) ∧ ((J (k + 3) x3.toNatClampNeg) = (J (k + 3) x1.toNatClampNeg) → P_X5_twins_31 k Q kL4 x1 (x2 + 1) x3 I J))))))
def P_X5_twins (k : Nat) (a0 : Int32) (I : MI) (J : MJ) (Q : Int32 → MI → MJ → Prop) : Prop :=
  lpx (P_X5_twins_4 k Q) (a0, (0 : Int32), (0 : Int32), I, J)
abbrev rmX5_twins : Room := { frames := 0, cells := 0, slots := 0, locals := 0 }
set_option maxHeartbeats 4000000 in
set_option maxRecDepth 100000 in
theorem w_X5_twins_31 {Q : Int32 → MI → MJ → Prop} (C : gC RX5 cX5_twins 4 (some .int) 66 ad cy D (xF ad ts) p s m args meth c) {k : Nat} (hk : isLex k) {kL4 : Int32 × Int32 × Int32 × MI × MJ → Prop} (hL4 : ∀ {x1 : Int32} {x2 : Int32} {x3 : Int32} {I : MI} {J : MJ} {H : Heap} {locs : List Loc} {ls : Array Slot}, kL4 (x1, x2, x3, I, J) → gH (xS ad cy) 66 ad D s I J H locs → lv_has ls 4 [(0, .ref (ad k)), (1, .int x1), (2, .int x2), (3, .int x3)] → W p l e rmX5_twins s m args below meth c H locs 0 0 (MQ below (gQi (xS ad cy) 66 ad cy D (xF ad ts) Q) args s 0 0 (gA 66 ad)) (F0 m 4 ls [])) {x1 : Int32} {x2 : Int32} {x3 : Int32} {I : MI} {J : MJ} {H : Heap} {locs : List Loc} {ls : Array Slot} (h : P_X5_twins_31 k Q kL4 x1 x2 x3 I J) (hw : gH (xS ad cy) 66 ad D s I J H locs) (hl : lv_has ls 4 [(0, .ref (ad k)), (1, .int x1), (2, .int x2), (3, .int x3)]) : W p l e rmX5_twins s m args below meth c H locs 0 0 (MQ below (gQi (xS ad cy) 66 ad cy D (xF ad ts) Q) args s 0 0 (gA 66 ad)) (F0 m 31 ls []) := by
  obtain ⟨hx, hb, hC⟩ := id C
  refine lv_iinc (v := x3 + 1) (lv' := [(3, .int (x3 + 1)), (0, .ref (ad k)), (1, .int x1), (2, .int x2)]) hx hb dX5_twins_31 hl (k := 3) rfl rfl (by decide) rfl (fun ls hl => ?_)
  refine lv_goto (tgt := 4) hx hb dX5_twins_34 (by decide) ?_
  exact hL4 h hw (lv_sub hl [1, 2, 3, 0] rfl)
set_option maxHeartbeats 4000000 in
set_option maxRecDepth 100000 in
theorem w_X5_twins_4 {Q : Int32 → MI → MJ → Prop} (C : gC RX5 cX5_twins 4 (some .int) 66 ad cy D (xF ad ts) p s m args meth c) {k : Nat} (hk : isLex k) {kL4 : Int32 × Int32 × Int32 × MI × MJ → Prop} (hL4 : ∀ {x1 : Int32} {x2 : Int32} {x3 : Int32} {I : MI} {J : MJ} {H : Heap} {locs : List Loc} {ls : Array Slot}, kL4 (x1, x2, x3, I, J) → gH (xS ad cy) 66 ad D s I J H locs → lv_has ls 4 [(0, .ref (ad k)), (1, .int x1), (2, .int x2), (3, .int x3)] → W p l e rmX5_twins s m args below meth c H locs 0 0 (MQ below (gQi (xS ad cy) 66 ad cy D (xF ad ts) Q) args s 0 0 (gA 66 ad)) (F0 m 4 ls [])) {x1 : Int32} {x2 : Int32} {x3 : Int32} {I : MI} {J : MJ} {H : Heap} {locs : List Loc} {ls : Array Slot} (h : P_X5_twins_4 k Q kL4 (x1, x2, x3, I, J)) (hw : gH (xS ad cy) 66 ad D s I J H locs) (hl : lv_has ls 4 [(0, .ref (ad k)), (1, .int x1), (2, .int x2), (3, .int x3)]) : W p l e rmX5_twins s m args below meth c H locs 0 0 (MQ below (gQi (xS ad cy) 66 ad cy D (xF ad ts) Q) args s 0 0 (gA 66 ad)) (F0 m 4 ls []) := by
  obtain ⟨hx, hb, hC⟩ := id C
  refine lv_iload_n hx hb dX5_twins_4 rfl (lv_at hl 3 rfl) ?_
  refine lv_aload_n hx hb dX5_twins_5 rfl (lv_at hl 0 rfl) ?_
  refine g_get C hw f_RX5_25 (xl_Lex0 hk) ((xs_Lex0 hk) _ _) rfl dX5_twins_6 ?_
  refine lv_icmp_ge (tgt := 37) hx hb dX5_twins_9 (by decide) (fun c9 => ?_) (fun c9 => ?_)
  · have h := h.1 c9
    refine lv_iload_n hx hb dX5_twins_37 rfl (lv_at hl 2 rfl) ?_
    exact g_iret C hw h dX5_twins_38
  · have h := h.2 c9
    refine lv_aload_n hx hb dX5_twins_12 rfl (lv_at hl 0 rfl) ?_
    refine g_get C hw f_RX5_18 (xl_Lex0 hk) ((xs_Lex0 hk) _ _) rfl dX5_twins_13 ?_
    refine lv_iload_n hx hb dX5_twins_16 rfl (lv_at hl 3 rfl) ?_
    refine g_lald C hw (xl_Lex3 hk) (xs_Lex3 hk) h.1 dX5_twins_17 ?_
    have h := h.2
    refine lv_aload_n hx hb dX5_twins_18 rfl (lv_at hl 0 rfl) ?_
    refine g_get C hw f_RX5_18 (xl_Lex0 hk) ((xs_Lex0 hk) _ _) rfl dX5_twins_19 ?_
    refine lv_iload_n hx hb dX5_twins_22 rfl (lv_at hl 1 rfl) ?_
    refine g_lald C hw (xl_Lex3 hk) (xs_Lex3 hk) h.1 dX5_twins_23 ?_
    have h := h.2
    refine g_lcmp_ne (tgt := 31) hx hb dX5_twins_24 dX5_twins_25 (by decide) (fun c24 => ?_) (fun c24 => ?_)
    · have h := h.1 c24
      exact w_X5_twins_31 C hk hL4 h hw (lv_sub hl [0, 1, 2, 3] rfl)
    · have h := h.2 c24
      refine lv_iinc (v := x2 + 1) (lv' := [(2, .int (x2 + 1)), (0, .ref (ad k)), (1, .int x1), (3, .int x3)]) hx hb dX5_twins_28 hl (k := 2) rfl rfl (by decide) rfl (fun ls hl => ?_)
      exact w_X5_twins_31 C hk hL4 h hw (lv_sub hl [1, 2, 0, 3] rfl)
theorem wl_X5_twins_4 {Q : Int32 → MI → MJ → Prop} (C : gC RX5 cX5_twins 4 (some .int) 66 ad cy D (xF ad ts) p s m args meth c) {k : Nat} (hk : isLex k) {x1 : Int32} {x2 : Int32} {x3 : Int32} {I : MI} {J : MJ} {H : Heap} {locs : List Loc} {ls : Array Slot} (h : lpx (P_X5_twins_4 k Q) (x1, x2, x3, I, J)) (hw : gH (xS ad cy) 66 ad D s I J H locs) (hl : lv_has ls 4 [(0, .ref (ad k)), (1, .int x1), (2, .int x2), (3, .int x3)]) : W p l e rmX5_twins s m args below meth c H locs 0 0 (MQ below (gQi (xS ad cy) 66 ad cy D (xF ad ts) Q) args s 0 0 (gA 66 ad)) (F0 m 4 ls []) := by
  obtain ⟨n, h⟩ := h
  induction n generalizing x1 x2 x3 I J H locs ls with
  | zero => exact False.elim h
  | succ n ih => exact w_X5_twins_4 C hk (fun hk9 hw9 hl9 => ih hk9 hw9 hl9) h hw hl
set_option maxHeartbeats 4000000 in
set_option maxRecDepth 100000 in
theorem w_X5_twins {Q : Int32 → MI → MJ → Prop} (C : gC RX5 cX5_twins 4 (some .int) 66 ad cy D (xF ad ts) p s m args meth c) {k : Nat} (hk : isLex k) {a0 : Int32} {I : MI} {J : MJ} {H : Heap} {locs : List Loc} {ls : Array Slot} (h : P_X5_twins k a0 I J Q) (hw : gH (xS ad cy) 66 ad D s I J H locs) (hl : lv_has ls 4 [(0, .ref (ad k)), (1, .int a0)]) : W p l e rmX5_twins s m args below meth c H locs 0 0 (MQ below (gQi (xS ad cy) 66 ad cy D (xF ad ts) Q) args s 0 0 (gA 66 ad)) (F0 m 0 ls []) := by
  obtain ⟨hx, hb, hC⟩ := id C
  refine lv_iconst (v := 0) hx hb dX5_twins_0 (by decide) ?_
  refine lv_istore_n (lv' := [(2, .int (0 : Int32)), (0, .ref (ad k)), (1, .int a0)]) hx hb dX5_twins_1 rfl hl (by decide) rfl (fun ls hl => ?_)
  refine lv_iconst (v := 0) hx hb dX5_twins_2 (by decide) ?_
  refine lv_istore_n (lv' := [(3, .int (0 : Int32)), (2, .int (0 : Int32)), (0, .ref (ad k)), (1, .int a0)]) hx hb dX5_twins_3 rfl hl (by decide) rfl (fun ls hl => ?_)
  exact wl_X5_twins_4 C hk h hw (lv_sub hl [2, 3, 1, 0] rfl)
theorem m_X5_twins {l : Launch} {k : Nat} (hk : isLex k) {a0 : Int32} {Q : Int32 → MI → MJ → Prop} {I : MI} {J : MJ} (h : P_X5_twins k a0 I J Q) : Met l yX5_twins (xws yX5_twins cX5_twins 4 (some .int)) rmX5_twins (va_Pc [.ref (ad k), .int a0] (gB (xS ad cy) 66 ad cy D (xF ad ts) I J)) (gQi (xS ad cy) 66 ad cy D (xF ad ts) Q) 0 0 (gA 66 ad) :=
  g_met (xF_ok ad ts) rfl (by decide) (Nat.le_of_ble_eq_true rfl) (fun p e s m below meth c ls C hw hl => w_X5_twins C hk h hw hl)
/-! BagPhrases$Lexicon.letterBits(I)I -/
def P_X5_letterBits_25 (k : Nat) (Q : Int32 → MI → MJ → Prop) (kL4 : Int32 × Int32 × Int32 × MI × MJ → Prop) (x1 : Int32) (x2 : Int32) (x3 : Int32) (I : MI) (J : MJ) : Prop :=
  kL4 (x1, x2, (x3 + 1), I, J)
def P_X5_letterBits_4 (k : Nat) (Q : Int32 → MI → MJ → Prop) (kL4 : Int32 × Int32 × Int32 × MI × MJ → Prop) : Int32 × Int32 × Int32 × MI × MJ → Prop := fun z => match z with
  | (x1, x2, x3, I, J) => (((8 : Int32) ≤ x3 → Q x2 I J) ∧ (¬ (8 : Int32) ≤ x3 → P_X5_amount k x1 x3 I J (fun r13 I13 J13 => ((r13 ≤ 0 → P_X5_letterBits_25 k Q kL4 x1 x2 x3 I13 J13) ∧ (¬ r13 ≤ 0 → P_X5_letterBits_25 k Q kL4 x1 (x2 ||| ((1 : Int32) <<< (x3 &&& 31))) x3 I13 J13)))))
def P_X5_letterBits (k : Nat) (a0 : Int32) (I : MI) (J : MJ) (Q : Int32 → MI → MJ → Prop) : Prop :=
  lpx (P_X5_letterBits_4 k Q) (a0, (0 : Int32), (0 : Int32), I, J)
abbrev rmX5_letterBits : Room := { frames := 1, cells := 0, slots := 0, locals := 22 }
set_option maxHeartbeats 4000000 in
set_option maxRecDepth 100000 in
theorem w_X5_letterBits_25 {Q : Int32 → MI → MJ → Prop} (C : gC RX5 cX5_letterBits 4 (some .int) 66 ad cy D (xF ad ts) p s m args meth c) {k : Nat} (hk : isLex k) {kL4 : Int32 × Int32 × Int32 × MI × MJ → Prop} (hL4 : ∀ {x1 : Int32} {x2 : Int32} {x3 : Int32} {I : MI} {J : MJ} {H : Heap} {locs : List Loc} {ls : Array Slot}, kL4 (x1, x2, x3, I, J) → gH (xS ad cy) 66 ad D s I J H locs → lv_has ls 4 [(0, .ref (ad k)), (1, .int x1), (2, .int x2), (3, .int x3)] → W p l e rmX5_letterBits s m args below meth c H locs 0 0 (MQ below (gQi (xS ad cy) 66 ad cy D (xF ad ts) Q) args s 0 0 (gA 66 ad)) (F0 m 4 ls [])) {x1 : Int32} {x2 : Int32} {x3 : Int32} {I : MI} {J : MJ} {H : Heap} {locs : List Loc} {ls : Array Slot} (h : P_X5_letterBits_25 k Q kL4 x1 x2 x3 I J) (hw : gH (xS ad cy) 66 ad D s I J H locs) (hl : lv_has ls 4 [(0, .ref (ad k)), (1, .int x1), (2, .int x2), (3, .int x3)]) : W p l e rmX5_letterBits s m args below meth c H locs 0 0 (MQ below (gQi (xS ad cy) 66 ad cy D (xF ad ts) Q) args s 0 0 (gA 66 ad)) (F0 m 25 ls []) := by
  obtain ⟨hx, hb, hC⟩ := id C
  refine lv_iinc (v := x3 + 1) (lv' := [(3, .int (x3 + 1)), (0, .ref (ad k)), (1, .int x1), (2, .int x2)]) hx hb dX5_letterBits_25 hl (k := 3) rfl rfl (by decide) rfl (fun ls hl => ?_)
  refine lv_goto (tgt := 4) hx hb dX5_letterBits_28 (by decide) ?_
  exact hL4 h hw (lv_sub hl [1, 2, 3, 0] rfl)
set_option maxHeartbeats 4000000 in
set_option maxRecDepth 100000 in
theorem w_X5_letterBits_4 {Q : Int32 → MI → MJ → Prop} (C : gC RX5 cX5_letterBits 4 (some .int) 66 ad cy D (xF ad ts) p s m args meth c) {k : Nat} (hk : isLex k) {kL4 : Int32 × Int32 × Int32 × MI × MJ → Prop} (hL4 : ∀ {x1 : Int32} {x2 : Int32} {x3 : Int32} {I : MI} {J : MJ} {H : Heap} {locs : List Loc} {ls : Array Slot}, kL4 (x1, x2, x3, I, J) → gH (xS ad cy) 66 ad D s I J H locs → lv_has ls 4 [(0, .ref (ad k)), (1, .int x1), (2, .int x2), (3, .int x3)] → W p l e rmX5_letterBits s m args below meth c H locs 0 0 (MQ below (gQi (xS ad cy) 66 ad cy D (xF ad ts) Q) args s 0 0 (gA 66 ad)) (F0 m 4 ls [])) {x1 : Int32} {x2 : Int32} {x3 : Int32} {I : MI} {J : MJ} {H : Heap} {locs : List Loc} {ls : Array Slot} (h : P_X5_letterBits_4 k Q kL4 (x1, x2, x3, I, J)) (hw : gH (xS ad cy) 66 ad D s I J H locs) (hl : lv_has ls 4 [(0, .ref (ad k)), (1, .int x1), (2, .int x2), (3, .int x3)]) : W p l e rmX5_letterBits s m args below meth c H locs 0 0 (MQ below (gQi (xS ad cy) 66 ad cy D (xF ad ts) Q) args s 0 0 (gA 66 ad)) (F0 m 4 ls []) := by
  obtain ⟨hx, hb, hC⟩ := id C
  refine lv_iload_n hx hb dX5_letterBits_4 rfl (lv_at hl 3 rfl) ?_
  refine lv_bipush (v := 8) hx hb dX5_letterBits_5 (by decide) ?_
  refine lv_icmp_ge (tgt := 31) hx hb dX5_letterBits_7 (by decide) (fun c7 => ?_) (fun c7 => ?_)
  · have h := h.1 c7
    refine lv_iload_n hx hb dX5_letterBits_31 rfl (lv_at hl 2 rfl) ?_
    exact g_iret C hw h dX5_letterBits_32
  · have h := h.2 c7
    refine lv_aload_n hx hb dX5_letterBits_10 rfl (lv_at hl 0 rfl) ?_
    refine lv_iload_n hx hb dX5_letterBits_11 rfl (lv_at hl 1 rfl) ?_
    refine lv_iload_n hx hb dX5_letterBits_12 rfl (lv_at hl 3 rfl) ?_
    refine g_ci hw (g_rV [.int x1, .int x3] [] C hw (m_X5_amount hk h) k_X5_amount q_RX5_35 (xl_Lex0 hk) ((xs_Lex0 hk) _ _) rfl rfl hl.1 rfl (by decide) ⟨⟨rfl, rfl⟩, Nat.le_of_ble_eq_true rfl, Nat.le_of_ble_eq_true rfl⟩ ⟨Nat.zero_le _, Nat.zero_le _⟩ dX5_letterBits_13) (fun r13 I13 J13 H locs h hw => ?_)
    refine lv_if_le (tgt := 25) hx hb dX5_letterBits_16 (by decide) (fun c16 => ?_) (fun c16 => ?_)
    · have h := h.1 c16
      exact w_X5_letterBits_25 C hk hL4 h hw (lv_sub hl [0, 1, 2, 3] rfl)
    · have h := h.2 c16
      refine lv_iload_n hx hb dX5_letterBits_19 rfl (lv_at hl 2 rfl) ?_
      refine lv_iconst (v := 1) hx hb dX5_letterBits_20 (by decide) ?_
      refine lv_iload_n hx hb dX5_letterBits_21 rfl (lv_at hl 3 rfl) ?_
      refine lv_ishl hx hb dX5_letterBits_22 ?_
      refine lv_ior hx hb dX5_letterBits_23 ?_
      refine lv_istore_n (lv' := [(2, .int (x2 ||| ((1 : Int32) <<< (x3 &&& 31)))), (0, .ref (ad k)), (1, .int x1), (3, .int x3)]) hx hb dX5_letterBits_24 rfl hl (by decide) rfl (fun ls hl => ?_)
      exact w_X5_letterBits_25 C hk hL4 h hw (lv_sub hl [1, 2, 0, 3] rfl)
theorem wl_X5_letterBits_4 {Q : Int32 → MI → MJ → Prop} (C : gC RX5 cX5_letterBits 4 (some .int) 66 ad cy D (xF ad ts) p s m args meth c) {k : Nat} (hk : isLex k) {x1 : Int32} {x2 : Int32} {x3 : Int32} {I : MI} {J : MJ} {H : Heap} {locs : List Loc} {ls : Array Slot} (h : lpx (P_X5_letterBits_4 k Q) (x1, x2, x3, I, J)) (hw : gH (xS ad cy) 66 ad D s I J H locs) (hl : lv_has ls 4 [(0, .ref (ad k)), (1, .int x1), (2, .int x2), (3, .int x3)]) : W p l e rmX5_letterBits s m args below meth c H locs 0 0 (MQ below (gQi (xS ad cy) 66 ad cy D (xF ad ts) Q) args s 0 0 (gA 66 ad)) (F0 m 4 ls []) := by
  obtain ⟨n, h⟩ := h
  induction n generalizing x1 x2 x3 I J H locs ls with
  | zero => exact False.elim h
  | succ n ih => exact w_X5_letterBits_4 C hk (fun hk9 hw9 hl9 => ih hk9 hw9 hl9) h hw hl
set_option maxHeartbeats 4000000 in
set_option maxRecDepth 100000 in
theorem w_X5_letterBits {Q : Int32 → MI → MJ → Prop} (C : gC RX5 cX5_letterBits 4 (some .int) 66 ad cy D (xF ad ts) p s m args meth c) {k : Nat} (hk : isLex k) {a0 : Int32} {I : MI} {J : MJ} {H : Heap} {locs : List Loc} {ls : Array Slot} (h : P_X5_letterBits k a0 I J Q) (hw : gH (xS ad cy) 66 ad D s I J H locs) (hl : lv_has ls 4 [(0, .ref (ad k)), (1, .int a0)]) : W p l e rmX5_letterBits s m args below meth c H locs 0 0 (MQ below (gQi (xS ad cy) 66 ad cy D (xF ad ts) Q) args s 0 0 (gA 66 ad)) (F0 m 0 ls []) := by
  obtain ⟨hx, hb, hC⟩ := id C
  refine lv_iconst (v := 0) hx hb dX5_letterBits_0 (by decide) ?_
  refine lv_istore_n (lv' := [(2, .int (0 : Int32)), (0, .ref (ad k)), (1, .int a0)]) hx hb dX5_letterBits_1 rfl hl (by decide) rfl (fun ls hl => ?_)
  refine lv_iconst (v := 0) hx hb dX5_letterBits_2 (by decide) ?_
  refine lv_istore_n (lv' := [(3, .int (0 : Int32)), (2, .int (0 : Int32)), (0, .ref (ad k)), (1, .int a0)]) hx hb dX5_letterBits_3 rfl hl (by decide) rfl (fun ls hl => ?_)
  exact wl_X5_letterBits_4 C hk h hw (lv_sub hl [2, 3, 1, 0] rfl)
theorem m_X5_letterBits {l : Launch} {k : Nat} (hk : isLex k) {a0 : Int32} {Q : Int32 → MI → MJ → Prop} {I : MI} {J : MJ} (h : P_X5_letterBits k a0 I J Q) : Met l yX5_letterBits (xws yX5_letterBits cX5_letterBits 4 (some .int)) rmX5_letterBits (va_Pc [.ref (ad k), .int a0] (gB (xS ad cy) 66 ad cy D (xF ad ts) I J)) (gQi (xS ad cy) 66 ad cy D (xF ad ts) Q) 0 0 (gA 66 ad) :=
  g_met (xF_ok ad ts) rfl (by decide) (Nat.le_of_ble_eq_true rfl) (fun p e s m below meth c ls C hw hl => w_X5_letterBits C hk h hw hl)
/-! BagPhrases$Lexicon.spelt(II)I -/
def P_X5_spelt (k : Nat) (a0 : Int32) (a1 : Int32) (I : MI) (J : MJ) (Q : Int32 → MI → MJ → Prop) : Prop :=
  vp_in ((a0 * (6 : Int32)) + a1) 60 ∧ (Q (I (k + 4) ((a0 * (6 : Int32)) + a1).toNatClampNeg) I J)
abbrev rmX5_spelt : Room := { frames := 0, cells := 0, slots := 0, locals := 0 }
set_option maxHeartbeats 4000000 in
set_option maxRecDepth 100000 in
theorem w_X5_spelt {Q : Int32 → MI → MJ → Prop} (C : gC RX5 cX5_spelt 3 (some .int) 66 ad cy D (xF ad ts) p s m args meth c) {k : Nat} (hk : isLex k) {a0 : Int32} {a1 : Int32} {I : MI} {J : MJ} {H : Heap} {locs : List Loc} {ls : Array Slot} (h : P_X5_spelt k a0 a1 I J Q) (hw : gH (xS ad cy) 66 ad D s I J H locs) (hl : lv_has ls 3 [(0, .ref (ad k)), (1, .int a0), (2, .int a1)]) : W p l e rmX5_spelt s m args below meth c H locs 0 0 (MQ below (gQi (xS ad cy) 66 ad cy D (xF ad ts) Q) args s 0 0 (gA 66 ad)) (F0 m 0 ls []) := by
  obtain ⟨hx, hb, hC⟩ := id C
  refine lv_aload_n hx hb dX5_spelt_0 rfl (lv_at hl 0 rfl) ?_
  refine g_get C hw f_RX5_22 (xl_Lex0 hk) ((xs_Lex0 hk) _ _) rfl dX5_spelt_1 ?_
  refine lv_iload_n hx hb dX5_spelt_4 rfl (lv_at hl 1 rfl) ?_
  refine lv_bipush (v := 6) hx hb dX5_spelt_5 (by decide) ?_
  refine lv_imul hx hb dX5_spelt_7 ?_
  refine lv_iload_n hx hb dX5_spelt_8 rfl (lv_at hl 2 rfl) ?_
  refine lv_iadd hx hb dX5_spelt_9 ?_
  refine g_iald C hw (xl_Lex4 hk) (xs_Lex4 hk) h.1 dX5_spelt_10 ?_
  have h := h.2
  exact g_iret C hw h dX5_spelt_11
theorem m_X5_spelt {l : Launch} {k : Nat} (hk : isLex k) {a0 : Int32} {a1 : Int32} {Q : Int32 → MI → MJ → Prop} {I : MI} {J : MJ} (h : P_X5_spelt k a0 a1 I J Q) : Met l yX5_spelt (xws yX5_spelt cX5_spelt 3 (some .int)) rmX5_spelt (va_Pc [.ref (ad k), .int a0, .int a1] (gB (xS ad cy) 66 ad cy D (xF ad ts) I J)) (gQi (xS ad cy) 66 ad cy D (xF ad ts) Q) 0 0 (gA 66 ad) :=
  g_met (xF_ok ad ts) rfl (by decide) (Nat.le_of_ble_eq_true rfl) (fun p e s m below meth c ls C hw hl => w_X5_spelt C hk h hw hl)
end
