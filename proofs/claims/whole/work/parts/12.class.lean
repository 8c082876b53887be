section
variable {p : Program} {l : Launch} {e : Env} {s : State} {m : MethodId} {args : Array Value} {below : List Frame} {meth : Method} {c : Code} {ad : Nat → Nat} {cy : Nat → ClassId} {D : va_G} {ts : Nat → Nat}
/-! BagPhrases$Reader.append(I)Z -/
def P_X7_append (a0 : Int32) (I : MI) (J : MJ) (Q : Int32 → MI → MJ → Prop) : Prop :=
  (((I 1 3) < (180 : Int32) → vp_in (I 1 3) 180 ∧ (∀ I21 : MI, I21 = mI I 2 (I 1 3).toNatClampNeg a0 → (∀ I29 : MI, I29 = mI I21 1 3 ((I21 1 3) + (1 : Int32)) → Q (1 : Int32) I29 J))) ∧ (¬ (I 1 3) < (180 : Int32) → Q (0 : Int32) I J))
abbrev rmX7_append : Room := { frames := 0, cells := 0, slots := 0, locals := 0 }
set_option maxHeartbeats 4000000 in
set_option maxRecDepth 100000 in
theorem w_X7_append {Q : Int32 → MI → MJ → Prop} (C : gC RX7 cX7_append 2 (some .boolean) 66 ad cy D (xF ad ts) p s m args meth c) {a0 : Int32} {I : MI} {J : MJ} {H : Heap} {locs : List Loc} {ls : Array Slot} (h : P_X7_append a0 I J Q) (hw : gH (xS ad cy) 66 ad D s I J H locs) (hl : lv_has ls 2 [(0, .ref (ad 1)), (1, .int a0)]) : W p l e rmX7_append s m args below meth c H locs 0 0 (MQ below (gQz (xS ad cy) 66 ad cy D (xF ad ts) Q) args s 0 0 (gA 66 ad)) (F0 m 0 ls []) := by
  obtain ⟨hx, hb, hC⟩ := id C
  refine lv_aload_n hx hb dX7_append_0 rfl (lv_at hl 0 rfl) ?_
  refine g_get C hw f_RX7_29 xl_1 (xs_1 _ _) rfl dX7_append_1 ?_
  refine lv_sipush (v := 180) hx hb dX7_append_4 (by decide) ?_
  refine lv_icmp_lt (tgt := 12) hx hb dX7_append_7 (by decide) (fun c7 => ?_) (fun c7 => ?_)
  · have h := h.1 c7
    refine lv_aload_n hx hb dX7_append_12 rfl (lv_at hl 0 rfl) ?_
    refine g_get C hw f_RX7_9 xl_1 (xs_1 _ _) rfl dX7_append_13 ?_
    refine lv_aload_n hx hb dX7_append_16 rfl (lv_at hl 0 rfl) ?_
    refine g_get C hw f_RX7_29 xl_1 (xs_1 _ _) rfl dX7_append_17 ?_
    refine lv_iload_n hx hb dX7_append_20 rfl (lv_at hl 1 rfl) ?_
    refine g_iast C hw xl_2 xs_2 h.1 dX7_append_21 (fun H locs hw => ?_)
    have h := h.2
    obtain ⟨I21, e21⟩ : ∃ z : MI, z = mI I 2 (I 1 3).toNatClampNeg a0 := ⟨_, rfl⟩
    have h := h I21 e21
    rw [← e21] at hw
    refine lv_aload_n hx hb dX7_append_22 rfl (lv_at hl 0 rfl) ?_
    refine lv_dup hx hb dX7_append_23 rfl ?_
    refine g_get C hw f_RX7_29 xl_1 (xs_1 _ _) rfl dX7_append_24 ?_
    refine lv_iconst (v := 1) hx hb dX7_append_27 (by decide) ?_
    refine lv_iadd hx hb dX7_append_28 ?_
    refine g_putI C hw fp_RX7_29 xl_1 xs_1 (st_7_3 ad _) (Nat.le_of_ble_eq_true rfl) rfl rfl dX7_append_29 (fun H locs hw => ?_)
    obtain ⟨I29, e29⟩ : ∃ z : MI, z = mI I21 1 3 ((I21 1 3) + (1 : Int32)) := ⟨_, rfl⟩
    have h := h I29 e29
    rw [← e29] at hw
    refine lv_iconst (v := 1) hx hb dX7_append_32 (by decide) ?_
    exact g_zret C hw (by decide) h dX7_append_33
  · have h := h.2 c7
    refine lv_iconst (v := 0) hx hb dX7_append_10 (by decide) ?_
    exact g_zret C hw (by decide) h dX7_append_11
theorem m_X7_append {l : Launch} {a0 : Int32} {Q : Int32 → MI → MJ → Prop} {I : MI} {J : MJ} (h : P_X7_append a0 I J Q) : Met l yX7_append (xws yX7_append cX7_append 2 (some .boolean)) rmX7_append (va_Pc [.ref (ad 1), .int a0] (gB (xS ad cy) 66 ad cy D (xF ad ts) I J)) (gQz (xS ad cy) 66 ad cy D (xF ad ts) Q) 0 0 (gA 66 ad) :=
  g_met (xF_ok ad ts) rfl (by decide) (Nat.le_of_ble_eq_true rfl) (fun p e s m below meth c ls C hw hl => w_X7_append C  h hw hl)
/-! BagPhrases.write(I)I -/
def P_X11_write (a0 : Int32) (I : MI) (J : MJ) (Q : Int32 → MI → MJ → Prop) : Prop :=
  ((a0 < 0 → Q (-2 : Int32) I J) ∧ (¬ a0 < 0 → ((a0 ≤ (255 : Int32) → P_X7_append a0 I J (fun r19 I19 J19 => ((r19 = 0 → Q (-4 : Int32) I19 J19) ∧ (¬ r19 = 0 → Q (I19 1 3) I19 J19)))) ∧ (¬ a0 ≤ (255 : Int32) → Q (-2 : Int32) I J))))
abbrev rmX11_write : Room := { frames := 1, cells := 0, slots := 0, locals := 21 }
set_option maxHeartbeats 4000000 in
set_option maxRecDepth 100000 in
theorem w_X11_write {Q : Int32 → MI → MJ → Prop} (C : gC RX11 cX11_write 2 (some .int) 66 ad cy D (xF ad ts) p s m args meth c) {a0 : Int32} {I : MI} {J : MJ} {H : Heap} {locs : List Loc} {ls : Array Slot} (h : P_X11_write a0 I J Q) (hw : gH (xS ad cy) 66 ad D s I J H locs) (hl : lv_has ls 2 [(0, .ref (ad 0)), (1, .int a0)]) : W p l e rmX11_write s m args below meth c H locs 0 0 (MQ below (gQi (xS ad cy) 66 ad cy D (xF ad ts) Q) args s 0 0 (gA 66 ad)) (F0 m 0 ls []) := by
  obtain ⟨hx, hb, hC⟩ := id C
  refine lv_iload_n hx hb dX11_write_0 rfl (lv_at hl 1 rfl) ?_
  refine lv_if_lt (tgt := 11) hx hb dX11_write_1 (by decide) (fun c1 => ?_) (fun c1 => ?_)
  · have h := h.1 c1
    refine lv_bipush (v := -2) hx hb dX11_write_11 (by decide) ?_
    exact g_iret C hw h dX11_write_13
  · have h := h.2 c1
    refine lv_iload_n hx hb dX11_write_4 rfl (lv_at hl 1 rfl) ?_
    refine lv_sipush (v := 255) hx hb dX11_write_5 (by decide) ?_
    refine lv_icmp_le (tgt := 14) hx hb dX11_write_8 (by decide) (fun c8 => ?_) (fun c8 => ?_)
    · have h := h.1 c8
      refine lv_aload_n hx hb dX11_write_14 rfl (lv_at hl 0 rfl) ?_
      refine g_get C hw f_RX11_10 xl_0 (xs_0 _ _) rfl dX11_write_15 ?_
      refine lv_iload_n hx hb dX11_write_18 rfl (lv_at hl 1 rfl) ?_
      refine g_cz hw (g_rV [.int a0] [] C hw (m_X7_append h) k_X7_append q_RX11_93 xl_1 (xs_1 _ _) rfl rfl hl.1 rfl (Nat.le_of_ble_eq_true rfl) ⟨⟨rfl, rfl⟩, Nat.le_of_ble_eq_true rfl, Nat.le_of_ble_eq_true rfl⟩ ⟨Nat.zero_le _, Nat.zero_le _⟩ dX11_write_19) (fun r19 I19 J19 H locs z19 h hw => ?_)
      refine lv_if_eq (tgt := 35) hx hb dX11_write_22 (by decide) (fun c22 => ?_) (fun c22 => ?_)
      · have h := h.1 c22
        refine lv_bipush (v := -4) hx hb dX11_write_35 (by decide) ?_
        exact g_iret C hw h dX11_write_37
      · have h := h.2 c22
        refine lv_aload_n hx hb dX11_write_25 rfl (lv_at hl 0 rfl) ?_
        refine g_get C hw f_RX11_10 xl_0 (xs_0 _ _) rfl dX11_write_26 ?_
        refine g_get C hw f_RX11_97 xl_1 (xs_1 _ _) rfl dX11_write_29 ?_
        refine lv_goto (tgt := 37) hx hb dX11_write_32 (by decide) ?_
        exact g_iret C hw h dX11_write_37
    · have h := h.2 c8
      refine lv_bipush (v := -2) hx hb dX11_write_11 (by decide) ?_
      exact g_iret C hw h dX11_write_13
theorem m_X11_write {l : Launch} {a0 : Int32} {Q : Int32 → MI → MJ → Prop} {I : MI} {J : MJ} (h : P_X11_write a0 I J Q) : Met l yX11_write (xws yX11_write cX11_write 2 (some .int)) rmX11_write (va_Pc [.ref (ad 0), .int a0] (gB (xS ad cy) 66 ad cy D (xF ad ts) I J)) (gQi (xS ad cy) 66 ad cy D (xF ad ts) Q) 0 0 (gA 66 ad) :=
  g_met (xF_ok ad ts) rfl (by decide) (Nat.le_of_ble_eq_true rfl) (fun p e s m below meth c ls C hw hl => w_X11_write C  h hw hl)
/-! BagPhrases.wipe()I -/
def P_X11_wipe (I : MI) (J : MJ) (Q : Int32 → MI → MJ → Prop) : Prop :=
  (∀ I13 : MI, I13 = mI I 1 3 (0 : Int32) → Q (I 1 3) I13 J)
abbrev rmX11_wipe : Room := { frames := 0, cells := 0, slots := 0, locals := 0 }
set_option maxHeartbeats 4000000 in
set_option maxRecDepth 100000 in
theorem w_X11_wipe {Q : Int32 → MI → MJ → Prop} (C : gC RX11 cX11_wipe 2 (some .int) 66 ad cy D (xF ad ts) p s m args meth c) {I : MI} {J : MJ} {H : Heap} {locs : List Loc} {ls : Array Slot} (h : P_X11_wipe I J Q) (hw : gH (xS ad cy) 66 ad D s I J H locs) (hl : lv_has ls 2 [(0, .ref (ad 0))]) : W p l e rmX11_wipe s m args below meth c H locs 0 0 (MQ below (gQi (xS ad cy) 66 ad cy D (xF ad ts) Q) args s 0 0 (gA 66 ad)) (F0 m 0 ls []) := by
  obtain ⟨hx, hb, hC⟩ := id C
  refine lv_aload_n hx hb dX11_wipe_0 rfl (lv_at hl 0 rfl) ?_
  refine g_get C hw f_RX11_10 xl_0 (xs_0 _ _) rfl dX11_wipe_1 ?_
  refine g_get C hw f_RX11_97 xl_1 (xs_1 _ _) rfl dX11_wipe_4 ?_
  refine lv_istore_n (lv' := [(1, .int (I 1 3)), (0, .ref (ad 0))]) hx hb dX11_wipe_7 rfl hl (by decide) rfl (fun ls hl => ?_)
  refine lv_aload_n hx hb dX11_wipe_8 rfl (lv_at hl 1 rfl) ?_
  refine g_get C hw f_RX11_10 xl_0 (xs_0 _ _) rfl dX11_wipe_9 ?_
  refine lv_iconst (v := 0) hx hb dX11_wipe_12 (by decide) ?_
  refine g_putI C hw fp_RX11_97 xl_1 xs_1 (st_7_3 ad _) (Nat.le_of_ble_eq_true rfl) rfl rfl dX11_wipe_13 (fun H locs hw => ?_)
  obtain ⟨I13, e13⟩ : ∃ z : MI, z = mI I 1 3 (0 : Int32) := ⟨_, rfl⟩
  have h := h I13 e13
  rw [← e13] at hw
  refine lv_iload_n hx hb dX11_wipe_16 rfl (lv_at hl 0 rfl) ?_
  exact g_iret C hw h dX11_wipe_17
theorem m_X11_wipe {l : Launch} {Q : Int32 → MI → MJ → Prop} {I : MI} {J : MJ} (h : P_X11_wipe I J Q) : Met l yX11_wipe (xws yX11_wipe cX11_wipe 2 (some .int)) rmX11_wipe (va_Pc [.ref (ad 0)] (gB (xS ad cy) 66 ad cy D (xF ad ts) I J)) (gQi (xS ad cy) 66 ad cy D (xF ad ts) Q) 0 0 (gA 66 ad) :=
  g_met (xF_ok ad ts) rfl (by decide) (Nat.le_of_ble_eq_true rfl) (fun p e s m below meth c ls C hw hl => w_X11_wipe C  h hw hl)
/-! BagPhrases$Setting.blank()V -/
def P_X8_blank_23 (k : Nat) (Q : MI → MJ → Prop) (kL23 : Int32 × MI × MJ → Prop) : Int32 × MI × MJ → Prop := fun z => match z with
  | (x1, I, J) => (((4 : Int32) ≤ x1 → (∀ I43 : MI, I43 = mI I k 3 (0 : Int32) → (∀ I48 : MI, I48 = mI I43 k 4 (0 : Int32) → Q I48 J))) ∧ (¬ (4 : Int32) ≤ x1 → vp_in x1 4 ∧ (∀ I34 : MI, I34 = mI I (k + 3) x1.toNatClampNeg (0 : Int32) → kL23 ((x1 + 1), I34, J))))
def P_X8_blank_2 (k : Nat) (Q : MI → MJ → Prop) (kL2 : Int32 × MI × MJ → Prop) : Int32 × MI × MJ → Prop := fun z => match z with
  | (x1, I, J) => (((8 : Int32) ≤ x1 → lpx (P_X8_blank_23 k Q) ((0 : Int32), I, J)) ∧ (¬ (8 : Int32) ≤ x1 → vp_in x1 8 ∧ (∀ I14 : MI, I14 = mI I (k + 1) x1.toNatClampNeg (0 : Int32) → kL2 ((x1 + 1), I14, J))))
def P_X8_blank (k : Nat) (I : MI) (J : MJ) (Q : MI → MJ → Prop) : Prop :=
  lpx (P_X8_blank_2 k Q) ((0 : Int32), I, J)
abbrev rmX8_blank : Room := { frames := 0, cells := 0, slots := 0, locals := 0 }
set_option maxHeartbeats 4000000 in
set_option maxRecDepth 100000 in
theorem w_X8_blank_23 {Q : MI → MJ → Prop} (C : gC RX8 cX8_blank 2 none 66 ad cy D (xF ad ts) p s m args meth c) {k : Nat} (hk : isSet k) {kL23 : Int32 × MI × MJ → Prop} (hL23 : ∀ {x1 : Int32} {I : MI} {J : MJ} {H : Heap} {locs : List Loc} {ls : Array Slot}, kL23 (x1, I, J) → gH (xS ad cy) 66 ad D s I J H locs → lv_has ls 2 [(0, .ref (ad k)), (1, .int x1)] → W p l e rmX8_blank s m args below meth c H locs 0 0 (MQ below (gQv (xS ad cy) 66 ad cy D (xF ad ts) Q) args s 0 0 (gA 66 ad)) (F0 m 23 ls [])) {x1 : Int32} {I : MI} {J : MJ} {H : Heap} {locs : List Loc} {ls : Array Slot} (h : P_X8_blank_23 k Q kL23 (x1, I, J)) (hw : gH (xS ad cy) 66 ad D s I J H locs) (hl : lv_has ls 2 [(0, .ref (ad k)), (1, .int x1)]) : W p l e rmX8_blank s m args below meth c H locs 0 0 (MQ below (gQv (xS ad cy) 66 ad cy D (xF ad ts) Q) args s 0 0 (gA 66 ad)) (F0 m 23 ls []) := by
  obtain ⟨hx, hb, hC⟩ := id C
  refine lv_iload_n hx hb dX8_blank_23 rfl (lv_at hl 1 rfl) ?_
  refine lv_iconst (v := 4) hx hb dX8_blank_24 (by decide) ?_
  refine lv_icmp_ge (tgt := 41) hx hb dX8_blank_25 (by decide) (fun c25 => ?_) (fun c25 => ?_)
  · have h := h.1 c25
    refine lv_aload_n hx hb dX8_blank_41 rfl (lv_at hl 0 rfl) ?_
    refine lv_iconst (v := 0) hx hb dX8_blank_42 (by decide) ?_
    refine g_putI C hw fp_RX8_21 (xl_Set0 hk) (xs_Set0 hk) (st_8_3 ad _ _) (Nat.le_of_ble_eq_true rfl) rfl rfl dX8_blank_43 (fun H locs hw => ?_)
    obtain ⟨I43, e43⟩ : ∃ z : MI, z = mI I k 3 (0 : Int32) := ⟨_, rfl⟩
    have h := h I43 e43
    rw [← e43] at hw
    refine lv_aload_n hx hb dX8_blank_46 rfl (lv_at hl 0 rfl) ?_
    refine lv_iconst (v := 0) hx hb dX8_blank_47 (by decide) ?_
    refine g_putI C hw fp_RX8_25 (xl_Set0 hk) (xs_Set0 hk) (st_8_4 ad _ _) (Nat.le_of_ble_eq_true rfl) rfl rfl dX8_blank_48 (fun H locs hw => ?_)
    obtain ⟨I48, e48⟩ : ∃ z : MI, z = mI I43 k 4 (0 : Int32) := ⟨_, rfl⟩
    have h := h I48 e48
    rw [← e48] at hw
    exact g_vret C hw h dX8_blank_51
  · have h := h.2 c25
    refine lv_aload_n hx hb dX8_blank_28 rfl (lv_at hl 0 rfl) ?_
    refine g_get C hw f_RX8_18 (xl_Set0 hk) ((xs_Set0 hk) _ _) rfl dX8_blank_29 ?_
    refine lv_iload_n hx hb dX8_blank_32 rfl (lv_at hl 1 rfl) ?_
    refine lv_iconst (v := 0) hx hb dX8_blank_33 (by decide) ?_
    refine g_iast C hw (xl_Set3 hk) (xs_Set3 hk) h.1 dX8_blank_34 (fun H locs hw => ?_)
    have h := h.2
    obtain ⟨I34, e34⟩ : ∃ z : MI, z = mI I (k + 3) x1.toNatClampNeg (0 : Int32) := ⟨_, rfl⟩
    have h := h I34 e34
    rw [← e34] at hw
    refine lv_iinc (v := x1 + 1) (lv' := [(1, .int (x1 + 1)), (0, .ref (ad k))]) hx hb dX8_blank_35 hl (k := 1) rfl rfl (by decide) rfl (fun ls hl => ?_)
    refine lv_goto (tgt := 23) hx hb dX8_blank_38 (by decide) ?_
    exact hL23 h hw (lv_sub hl [1, 0] rfl)
theorem wl_X8_blank_23 {Q : MI → MJ → Prop} (C : gC RX8 cX8_blank 2 none 66 ad cy D (xF ad ts) p s m args meth c) {k : Nat} (hk : isSet k) {x1 : Int32} {I : MI} {J : MJ} {H : Heap} {locs : List Loc} {ls : Array Slot} (h : lpx (P_X8_blank_23 k Q) (x1, I, J)) (hw : gH (xS ad cy) 66 ad D s I J H locs) (hl : lv_has ls 2 [(0, .ref (ad k)), (1, .int x1)]) : W p l e rmX8_blank s m args below meth c H locs 0 0 (MQ below (gQv (xS ad cy) 66 ad cy D (xF ad ts) Q) args s 0 0 (gA 66 ad)) (F0 m 23 ls []) := by
  obtain ⟨n, h⟩ := h
  induction n generalizing x1 I J H locs ls with
  | zero => exact False.elim h
  | succ n ih => exact w_X8_blank_23 C hk (fun hk9 hw9 hl9 => ih hw9 hl9 hk9) h hw hl
set_option maxHeartbeats 4000000 in
set_option maxRecDepth 100000 in
theorem w_X8_blank_2 {Q : MI → MJ → Prop} (C : gC RX8 cX8_blank 2 none 66 ad cy D (xF ad ts) p s m args meth c) {k : Nat} (hk : isSet k) {kL2 : Int32 × MI × MJ → Prop} (hL2 : ∀ {x1 : Int32} {I : MI} {J : MJ} {H : Heap} {locs : List Loc} {ls : Array Slot}, kL2 (x1, I, J) → gH (xS ad cy) 66 ad D s I J H locs → lv_has ls 2 [(0, .ref (ad k)), (1, .int x1)] → W p l e rmX8_blank s m args below meth c H locs 0 0 (MQ below (gQv (xS ad cy) 66 ad cy D (xF ad ts) Q) args s 0 0 (gA 66 ad)) (F0 m 2 ls [])) {x1 : Int32} {I : MI} {J : MJ} {H : Heap} {locs : List Loc} {ls : Array Slot} (h : P_X8_blank_2 k Q kL2 (x1, I, J)) (hw : gH (xS ad cy) 66 ad D s I J H locs) (hl : lv_has ls 2 [(0, .ref (ad k)), (1, .int x1)]) : W p l e rmX8_blank s m args below meth c H locs 0 0 (MQ below (gQv (xS ad cy) 66 ad cy D (xF ad ts) Q) args s 0 0 (gA 66 ad)) (F0 m 2 ls []) := by
  obtain ⟨hx, hb, hC⟩ := id C
  refine lv_iload_n hx hb dX8_blank_2 rfl (lv_at hl 1 rfl) ?_
  refine lv_bipush (v := 8) hx hb dX8_blank_3 (by decide) ?_
  refine lv_icmp_ge (tgt := 21) hx hb dX8_blank_5 (by decide) (fun c5 => ?_) (fun c5 => ?_)
  · have h := h.1 c5
    refine lv_iconst (v := 0) hx hb dX8_blank_21 (by decide) ?_
    refine lv_istore_n (lv' := [(1, .int (0 : Int32)), (0, .ref (ad k))]) hx hb dX8_blank_22 rfl hl (by decide) rfl (fun ls hl => ?_)
    exact wl_X8_blank_23 C hk h hw (lv_sub hl [1, 0] rfl)
  · have h := h.2 c5
    refine lv_aload_n hx hb dX8_blank_8 rfl (lv_at hl 0 rfl) ?_
    refine g_get C hw f_RX8_9 (xl_Set0 hk) ((xs_Set0 hk) _ _) rfl dX8_blank_9 ?_
    refine lv_iload_n hx hb dX8_blank_12 rfl (lv_at hl 1 rfl) ?_
    refine lv_iconst (v := 0) hx hb dX8_blank_13 (by decide) ?_
    refine g_iast C hw (xl_Set1 hk) (xs_Set1 hk) h.1 dX8_blank_14 (fun H locs hw => ?_)
    have h := h.2
    obtain ⟨I14, e14⟩ : ∃ z : MI, z = mI I (k + 1) x1.toNatClampNeg (0 : Int32) := ⟨_, rfl⟩
    have h := h I14 e14
    rw [← e14] at hw
    refine lv_iinc (v := x1 + 1) (lv' := [(1, .int (x1 + 1)), (0, .ref (ad k))]) hx hb dX8_blank_15 hl (k := 1) rfl rfl (by decide) rfl (fun ls hl => ?_)
    refine lv_goto (tgt := 2) hx hb dX8_blank_18 (by decide) ?_
    exact hL2 h hw (lv_sub hl [1, 0] rfl)
theorem wl_X8_blank_2 {Q : MI → MJ → Prop} (C : gC RX8 cX8_blank 2 none 66 ad cy D (xF ad ts) p s m args meth c) {k : Nat} (hk : isSet k) {x1 : Int32} {I : MI} {J : MJ} {H : Heap} {locs : List Loc} {ls : Array Slot} (h : lpx (P_X8_blank_2 k Q) (x1, I, J)) (hw : gH (xS ad cy) 66 ad D s I J H locs) (hl : lv_has ls 2 [(0, .ref (ad k)), (1, .int x1)]) : W p l e rmX8_blank s m args below meth c H locs 0 0 (MQ below (gQv (xS ad cy) 66 ad cy D (xF ad ts) Q) args s 0 0 (gA 66 ad)) (F0 m 2 ls []) := by
  obtain ⟨n, h⟩ := h
  induction n generalizing x1 I J H locs ls with
  | zero => exact False.elim h
  | succ n ih => exact w_X8_blank_2 C hk (fun hk9 hw9 hl9 => ih hw9 hl9 hk9) h hw hl
set_option maxHeartbeats 4000000 in
set_option maxRecDepth 100000 in
theorem w_X8_blank {Q : MI → MJ → Prop} (C : gC RX8 cX8_blank 2 none 66 ad cy D (xF ad ts) p s m args meth c) {k : Nat} (hk : isSet k) {I : MI} {J : MJ} {H : Heap} {locs : List Loc} {ls : Array Slot} (h : P_X8_blank k I J Q) (hw : gH (xS ad cy) 66 ad D s I J H locs) (hl : lv_has ls 2 [(0, .ref (ad k))]) : W p l e rmX8_blank s m args below meth c H locs 0 0 (MQ below (gQv (xS ad cy) 66 ad cy D (xF ad ts) Q) args s 0 0 (gA 66 ad)) (F0 m 0 ls []) := by
  obtain ⟨hx, hb, hC⟩ := id C
  refine lv_iconst (v := 0) hx hb dX8_blank_0 (by decide) ?_
  refine lv_istore_n (lv' := [(1, .int (0 : Int32)), (0, .ref (ad k))]) hx hb dX8_blank_1 rfl hl (by decide) rfl (fun ls hl => ?_)
  exact wl_X8_blank_2 C hk h hw (lv_sub hl [1, 0] rfl)
theorem m_X8_blank {l : Launch} {k : Nat} (hk : isSet k) {Q : MI → MJ → Prop} {I : MI} {J : MJ} (h : P_X8_blank k I J Q) : Met l yX8_blank (xws yX8_blank cX8_blank 2 none) rmX8_blank (va_Pc [.ref (ad k)] (gB (xS ad cy) 66 ad cy D (xF ad ts) I J)) (gQv (xS ad cy) 66 ad cy D (xF ad ts) Q) 0 0 (gA 66 ad) :=
  g_met (xF_ok ad ts) rfl (by decide) (Nat.le_of_ble_eq_true rfl) (fun p e s m below meth c ls C hw hl => w_X8_blank C hk h hw hl)
/-! BagPhrases$Lexicon.open()Z -/
def P_X5_open (k : Nat) (I : MI) (J : MJ) (Q : Int32 → MI → MJ → Prop) : Prop :=
  (((I k 4) < (10 : Int32) → vp_in (I k 4) 10 ∧ (∀ I20 : MI, I20 = mI I (k + 2) (I k 4).toNatClampNeg (0 : Int32) → vp_in (I20 k 4) 10 ∧ (∀ J30 : MJ, J30 = mJ J (k + 3) (I20 k 4).toNatClampNeg (0 : Int64) → (∀ I38 : MI, I38 = mI I20 k 4 ((I20 k 4) + (1 : Int32)) → Q (1 : Int32) I38 J30)))) ∧ (¬ (I k 4) < (10 : Int32) → Q (0 : Int32) I J))
abbrev rmX5_open : Room := { frames := 0, cells := 0, slots := 0, locals := 0 }
set_option maxHeartbeats 4000000 in
set_option maxRecDepth 100000 in
theorem w_X5_open {Q : Int32 → MI → MJ → Prop} (C : gC RX5 cX5_open 1 (some .boolean) 66 ad cy D (xF ad ts) p s m args meth c) {k : Nat} (hk : isLex k) {I : MI} {J : MJ} {H : Heap} {locs : List Loc} {ls : Array Slot} (h : P_X5_open k I J Q) (hw : gH (xS ad cy) 66 ad D s I J H locs) (hl : lv_has ls 1 [(0, .ref (ad k))]) : W p l e rmX5_open s m args below meth c H locs 0 0 (MQ below (gQz (xS ad cy) 66 ad cy D (xF ad ts) Q) args s 0 0 (gA 66 ad)) (F0 m 0 ls []) := by
  obtain ⟨hx, hb, hC⟩ := id C
  refine lv_aload_n hx hb dX5_open_0 rfl (lv_at hl 0 rfl) ?_
  refine g_get C hw f_RX5_25 (xl_Lex0 hk) ((xs_Lex0 hk) _ _) rfl dX5_open_1 ?_
  refine lv_bipush (v := 10) hx hb dX5_open_4 (by decide) ?_
  refine lv_icmp_lt (tgt := 11) hx hb dX5_open_6 (by decide) (fun c6 => ?_) (fun c6 => ?_)
  · have h := h.1 c6
    refine lv_aload_n hx hb dX5_open_11 rfl (lv_at hl 0 rfl) ?_
    refine g_get C hw f_RX5_15 (xl_Lex0 hk) ((xs_Lex0 hk) _ _) rfl dX5_open_12 ?_
    refine lv_aload_n hx hb dX5_open_15 rfl (lv_at hl 0 rfl) ?_
    refine g_get C hw f_RX5_25 (xl_Lex0 hk) ((xs_Lex0 hk) _ _) rfl dX5_open_16 ?_
    refine lv_iconst (v := 0) hx hb dX5_open_19 (by decide) ?_
    refine g_iast C hw (xl_Lex2 hk) (xs_Lex2 hk) h.1 dX5_open_20 (fun H locs hw => ?_)
    have h := h.2
    obtain ⟨I20, e20⟩ : ∃ z : MI, z = mI I (k + 2) (I k 4).toNatClampNeg (0 : Int32) := ⟨_, rfl⟩
    have h := h I20 e20
    rw [← e20] at hw
    refine lv_aload_n hx hb dX5_open_21 rfl (lv_at hl 0 rfl) ?_
    refine g_get C hw f_RX5_18 (xl_Lex0 hk) ((xs_Lex0 hk) _ _) rfl dX5_open_22 ?_
    refine lv_aload_n hx hb dX5_open_25 rfl (lv_at hl 0 rfl) ?_
    refine g_get C hw f_RX5_25 (xl_Lex0 hk) ((xs_Lex0 hk) _ _) rfl dX5_open_26 ?_
    refine lv_lconst (v := 0) hx hb dX5_open_29 (by decide) ?_
    refine g_last C hw (xl_Lex3 hk) (xs_Lex3 hk) h.1 dX5_open_30 (fun H locs hw => ?_)
    have h := h.2
    obtain ⟨J30, e30⟩ : ∃ z : MJ, z = mJ J (k + 3) (I20 k 4).toNatClampNeg (0 : Int64) := ⟨_, rfl⟩
    have h := h J30 e30
    rw [← e30] at hw
    refine lv_aload_n hx hb dX5_open_31 rfl (lv_at hl 0 rfl) ?_
    refine lv_dup hx hb dX5_open_32 rfl ?_
    refine g_get C hw f_RX5_25 (xl_Lex0 hk) ((xs_Lex0 hk) _ _) rfl dX5_open_33 ?_
    refine lv_iconst (v := 1) hx hb dX5_open_36 (by decide) ?_
    refine lv_iadd hx hb dX5_open_37 ?_
    refine g_putI C hw fp_RX5_25 (xl_Lex0 hk) (xs_Lex0 hk) (st_5_4 ad _ _) (Nat.le_of_ble_eq_true rfl) rfl rfl dX5_open_38 (fun H locs hw => ?_)
    obtain ⟨I38, e38⟩ : ∃ z : MI, z = mI I20 k 4 ((I20 k 4) + (1 : Int32)) := ⟨_, rfl⟩
    have h := h I38 e38
    rw [← e38] at hw
    refine lv_iconst (v := 1) hx hb dX5_open_41 (by decide) ?_
    exact g_zret C hw (by decide) h dX5_open_42
  · have h := h.2 c6
    refine lv_iconst (v := 0) hx hb dX5_open_9 (by decide) ?_
    exact g_zret C hw (by decide) h dX5_open_10
theorem m_X5_open {l : Launch} {k : Nat} (hk : isLex k) {Q : Int32 → MI → MJ → Prop} {I : MI} {J : MJ} (h : P_X5_open k I J Q) : Met l yX5_open (xws yX5_open cX5_open 1 (some .boolean)) rmX5_open (va_Pc [.ref (ad k)] (gB (xS ad cy) 66 ad cy D (xF ad ts) I J)) (gQz (xS ad cy) 66 ad cy D (xF ad ts) Q) 0 0 (gA 66 ad) :=
  g_met (xF_ok ad ts) rfl (by decide) (Nat.le_of_ble_eq_true rfl) (fun p e s m below meth c ls C hw hl => w_X5_open C hk h hw hl)
/-! BagPhrases$Reader.awaits(I)Z -/
def P_X7_awaits (a0 : Int32) (I : MI) (J : MJ) (Q : Int32 → MI → MJ → Prop) : Prop :=
  (∀ I2 : MI, I2 = mI I 1 4 a0 → Q (1 : Int32) I2 J)
abbrev rmX7_awaits : Room := { frames := 0, cells := 0, slots := 0, locals := 0 }
set_option maxHeartbeats 4000000 in
set_option maxRecDepth 100000 in
theorem w_X7_awaits {Q : Int32 → MI → MJ → Prop} (C : gC RX7 cX7_awaits 2 (some .boolean) 66 ad cy D (xF ad ts) p s m args meth c) {a0 : Int32} {I : MI} {J : MJ} {H : Heap} {locs : List Loc} {ls : Array Slot} (h : P_X7_awaits a0 I J Q) (hw : gH (xS ad cy) 66 ad D s I J H locs) (hl : lv_has ls 2 [(0, .ref (ad 1)), (1, .int a0)]) : W p l e rmX7_awaits s m args below meth c H locs 0 0 (MQ below (gQz (xS ad cy) 66 ad cy D (xF ad ts) Q) args s 0 0 (gA 66 ad)) (F0 m 0 ls []) := by
  obtain ⟨hx, hb, hC⟩ := id C
  refine lv_aload_n hx hb dX7_awaits_0 rfl (lv_at hl 0 rfl) ?_
  refine lv_iload_n hx hb dX7_awaits_1 rfl (lv_at hl 1 rfl) ?_
  refine g_putI C hw fp_RX7_33 xl_1 xs_1 (st_7_4 ad _) (Nat.le_of_ble_eq_true rfl) rfl rfl dX7_awaits_2 (fun H locs hw => ?_)
  obtain ⟨I2, e2⟩ : ∃ z : MI, z = mI I 1 4 a0 := ⟨_, rfl⟩
  have h := h I2 e2
  rw [← e2] at hw
  refine lv_iconst (v := 1) hx hb dX7_awaits_5 (by decide) ?_
  exact g_zret C hw (by decide) h dX7_awaits_6
theorem m_X7_awaits {l : Launch} {a0 : Int32} {Q : Int32 → MI → MJ → Prop} {I : MI} {J : MJ} (h : P_X7_awaits a0 I J Q) : Met l yX7_awaits (xws yX7_awaits cX7_awaits 2 (some .boolean)) rmX7_awaits (va_Pc [.ref (ad 1), .int a0] (gB (xS ad cy) 66 ad cy D (xF ad ts) I J)) (gQz (xS ad cy) 66 ad cy D (xF ad ts) Q) 0 0 (gA 66 ad) :=
  g_met (xF_ok ad ts) rfl (by decide) (Nat.le_of_ble_eq_true rfl) (fun p e s m below meth c ls C hw hl => w_X7_awaits C  h hw hl)
/-! BagPhrases$Setting.letters()I -/
def P_X8_letters_4 (k : Nat) (Q : Int32 → MI → MJ → Prop) (kL4 : Int32 × Int32 × MI × MJ → Prop) : Int32 × Int32 × MI × MJ → Prop := fun z => match z with
  | (x1, x2, I, J) => (((8 : Int32) ≤ x2 → Q x1 I J) ∧ (¬ (8 : Int32) ≤ x2 → vp_in x2 8 ∧ (kL4 ((x1 + (I (k + 1) x2.toNatClampNeg)), (x2 + 1), I, J))))
def P_X8_letters (k : Nat) (I : MI) (J : MJ) (Q : Int32 → MI → MJ → Prop) : Prop :=
  lpx (P_X8_letters_4 k Q) ((0 : Int32), (0 : Int32), I, J)
abbrev rmX8_letters : Room := { frames := 0, cells := 0, slots := 0, locals := 0 }
set_option maxHeartbeats 4000000 in
set_option maxRecDepth 100000 in
theorem w_X8_letters_4 {Q : Int32 → MI → MJ → Prop} (C : gC RX8 cX8_letters 3 (some .int) 66 ad cy D (xF ad ts) p s m args meth c) {k : Nat} (hk : isSet k) {kL4 : Int32 × Int32 × MI × MJ → Prop} (hL4 : ∀ {x1 : Int32} {x2 : Int32} {I : MI} {J : MJ} {H : Heap} {locs : List Loc} {ls : Array Slot}, kL4 (x1, x2, I, J) → gH (xS ad cy) 66 ad D s I J H locs → lv_has ls 3 [(0, .ref (ad k)), (1, .int x1), (2, .int x2)] → W p l e rmX8_letters s m args below meth c H locs 0 0 (MQ below (gQi (xS ad cy) 66 ad cy D (xF ad ts) Q) args s 0 0 (gA 66 ad)) (F0 m 4 ls [])) {x1 : Int32} {x2 : Int32} {I : MI} {J : MJ} {H : Heap} {locs : List Loc} {ls : Array Slot} (h : P_X8_letters_4 k Q kL4 (x1, x2, I, J)) (hw : gH (xS ad cy) 66 ad D s I J H locs) (hl : lv_has ls 3 [(0, .ref (ad k)), (1, .int x1), (2, .int x2)]) : W p l e rmX8_letters s m args below meth c H locs 0 0 (MQ below (gQi (xS ad cy) 66 ad cy D (xF ad ts) Q) args s 0 0 (gA 66 ad)) (F0 m 4 ls []) := by
  obtain ⟨hx, hb, hC⟩ := id C
  refine lv_iload_n hx hb dX8_letters_4 rfl (lv_at hl 2 rfl) ?_
  refine lv_bipush (v := 8) hx hb dX8_letters_5 (by decide) ?_
  refine lv_icmp_ge (tgt := 25) hx hb dX8_letters_7 (by decide) (fun c7 => ?_) (fun c7 => ?_)
  · have h := h.1 c7
    refine lv_iload_n hx hb dX8_letters_25 rfl (lv_at hl 1 rfl) ?_
    exact g_iret C hw h dX8_letters_26
  · have h := h.2 c7
    refine lv_iload_n hx hb dX8_letters_10 rfl (lv_at hl 1 rfl) ?_
    refine lv_aload_n hx hb dX8_letters_11 rfl (lv_at hl 0 rfl) ?_
    refine g_get C hw f_RX8_9 (xl_Set0 hk) ((xs_Set0 hk) _ _) rfl dX8_letters_12 ?_
    refine lv_iload_n hx hb dX8_letters_15 rfl (lv_at hl 2 rfl) ?_
    refine g_iald C hw (xl_Set1 hk) (xs_Set1 hk) h.1 dX8_letters_16 ?_
    have h := h.2
    refine lv_iadd hx hb dX8_letters_17 ?_
    refine lv_istore_n (lv' := [(1, .int (x1 + (I (k + 1) x2.toNatClampNeg))), (0, .ref (ad k)), (2, .int x2)]) hx hb dX8_letters_18 rfl hl (by decide) rfl (fun ls hl => ?_)
    refine lv_iinc (v := x2 + 1) (lv' := [(2, .int (x2 + 1)), (1, .int (x1 + (I (k + 1) x2.toNatClampNeg))), (0, .ref (ad k))]) hx hb dX8_letters_19 hl (k := 2) rfl rfl (by decide) rfl (fun ls hl => ?_)
    refine lv_goto (tgt := 4) hx hb dX8_letters_22 (by decide) ?_
    exact hL4 h hw (lv_sub hl [2, 1, 0] rfl)
theorem wl_X8_letters_4 {Q : Int32 → MI → MJ → Prop} (C : gC RX8 cX8_letters 3 (some .int) 66 ad cy D (xF ad ts) p s m args meth c) {k : Nat} (hk : isSet k) {x1 : Int32} {x2 : Int32} {I : MI} {J : MJ} {H : Heap} {locs : List Loc} {ls : Array Slot} (h : lpx (P_X8_letters_4 k Q) (x1, x2, I, J)) (hw : gH (xS ad cy) 66 ad D s I J H locs) (hl : lv_has ls 3 [(0, .ref (ad k)), (1, .int x1), (2, .int x2)]) : W p l e rmX8_letters s m args below meth c H locs 0 0 (MQ below (gQi (xS ad cy) 66 ad cy D (xF ad ts) Q) args s 0 0 (gA 66 ad)) (F0 m 4 ls []) := by
  obtain ⟨n, h⟩ := h
  induction n generalizing x1 x2 I J H locs ls with
  | zero => exact False.elim h
  | succ n ih => exact w_X8_letters_4 C hk (fun hk9 hw9 hl9 => ih hw9 hl9 hk9) h hw hl
set_option maxHeartbeats 4000000 in
set_option maxRecDepth 100000 in
theorem w_X8_letters {Q : Int32 → MI → MJ → Prop} (C : gC RX8 cX8_letters 3 (some .int) 66 ad cy D (xF ad ts) p s m args meth c) {k : Nat} (hk : isSet k) {I : MI} {J : MJ} {H : Heap} {locs : List Loc} {ls : Array Slot} (h : P_X8_letters k I J Q) (hw : gH (xS ad cy) 66 ad D s I J H locs) (hl : lv_has ls 3 [(0, .ref (ad k))]) : W p l e rmX8_letters s m args below meth c H locs 0 0 (MQ below (gQi (xS ad cy) 66 ad cy D (xF ad ts) Q) args s 0 0 (gA 66 ad)) (F0 m 0 ls []) := by
  obtain ⟨hx, hb, hC⟩ := id C
  refine lv_iconst (v := 0) hx hb dX8_letters_0 (by decide) ?_
  refine lv_istore_n (lv' := [(1, .int (0 : Int32)), (0, .ref (ad k))]) hx hb dX8_letters_1 rfl hl (by decide) rfl (fun ls hl => ?_)
  refine lv_iconst (v := 0) hx hb dX8_letters_2 (by decide) ?_
  refine lv_istore_n (lv' := [(2, .int (0 : Int32)), (1, .int (0 : Int32)), (0, .ref (ad k))]) hx hb dX8_letters_3 rfl hl (by decide) rfl (fun ls hl => ?_)
  exact wl_X8_letters_4 C hk h hw (lv_sub hl [2, 1, 0] rfl)
theorem m_X8_letters {l : Launch} {k : Nat} (hk : isSet k) {Q : Int32 → MI → MJ → Prop} {I : MI} {J : MJ} (h : P_X8_letters k I J Q) : Met l yX8_letters (xws yX8_letters cX8_letters 3 (some .int)) rmX8_letters (va_Pc [.ref (ad k)] (gB (xS ad cy) 66 ad cy D (xF ad ts) I J)) (gQi (xS ad cy) 66 ad cy D (xF ad ts) Q) 0 0 (gA 66 ad) :=
  g_met (xF_ok ad ts) rfl (by decide) (Nat.le_of_ble_eq_true rfl) (fun p e s m below meth c ls C hw hl => w_X8_letters C hk h hw hl)
/-! BagPhrases$Setting.allFollow()Z -/
def P_X8_allFollow_2 (k : Nat) (Q : Int32 → MI → MJ → Prop) (kL2 : Int32 × MI × MJ → Prop) : Int32 × MI × MJ → Prop := fun z => match z with
  | (x1, I, J) => (((4 : Int32) ≤ x1 → Q (1 : Int32) I J) ∧ (¬ (4 : Int32) ≤ x1 → vp_in x1 4 ∧ ((((I (k + 3) x1.toNatClampNeg) = (15 : Int32) → kL2 ((x1 + 1), I, J)) ∧ (¬ (I (k + 3) x1.toNatClampNeg) = (15 : Int32) → Q (0 : Int32) I J)))))
def P_X8_allFollow (k : Nat) (I : MI) (J : MJ) (Q : Int32 → MI → MJ → Prop) : Prop :=
  lpx (P_X8_allFollow_2 k Q) ((0 : Int32), I, J)
abbrev rmX8_allFollow : Room := { frames := 0, cells := 0, slots := 0, locals := 0 }
set_option maxHeartbeats 4000000 in
set_option maxRecDepth 100000 in
theorem w_X8_allFollow_2 {Q : Int32 → MI → MJ → Prop} (C : gC RX8 cX8_allFollow 2 (some .boolean) 66 ad cy D (xF ad ts) p s m args meth c) {k : Nat} (hk : isSet k) {kL2 : Int32 × MI × MJ → Prop} (hL2 : ∀ {x1 : Int32} {I : MI} {J : MJ} {H : Heap} {locs : List Loc} {ls : Array Slot}, kL2 (x1, I, J) → gH (xS ad cy) 66 ad D s I J H locs → lv_has ls 2 [(0, .ref (ad k)), (1, .int x1)] → W p l e rmX8_allFollow s m args below meth c H locs 0 0 (MQ below (gQz (xS ad cy) 66 ad cy D (xF ad ts) Q) args s 0 0 (gA 66 ad)) (F0 m 2 ls [])) {x1 : Int32} {I : MI} {J : MJ} {H : Heap} {locs : List Loc} {ls : Array Slot} (h : P_X8_allFollow_2 k Q kL2 (x1, I, J)) (hw : gH (xS ad cy) 66 ad D s I J H locs) (hl : lv_has ls 2 [(0, .ref (ad k)), (1, .int x1)]) : W p l e rmX8_allFollow s m args below meth c H locs 0 0 (MQ below (gQz (xS ad cy) 66 ad cy D (xF ad ts) Q) args s 0 0 (gA 66 ad)) (F0 m 2 ls []) := by
  obtain ⟨hx, hb, hC⟩ := id C
  refine lv_iload_n hx hb dX8_allFollow_2 rfl (lv_at hl 1 rfl) ?_
  refine lv_iconst (v := 4) hx hb dX8_allFollow_3 (by decide) ?_
  refine lv_icmp_ge (tgt := 26) hx hb dX8_allFollow_4 (by decide) (fun c4 => ?_) (fun c4 => ?_)
  · have h := h.1 c4
    refine lv_iconst (v := 1) hx hb dX8_allFollow_26 (by decide) ?_
    exact g_zret C hw (by decide) h dX8_allFollow_27
  · have h := h.2 c4
    refine lv_aload_n hx hb dX8_allFollow_7 rfl (lv_at hl 0 rfl) ?_
    refine g_get C hw f_RX8_18 (xl_Set0 hk) ((xs_Set0 hk) _ _) rfl dX8_allFollow_8 ?_
    refine lv_iload_n hx hb dX8_allFollow_11 rfl (lv_at hl 1 rfl) ?_
    refine g_iald C hw (xl_Set3 hk) (xs_Set3 hk) h.1 dX8_allFollow_12 ?_
    have h := h.2
    refine lv_bipush (v := 15) hx hb dX8_allFollow_13 (by decide) ?_
    refine lv_icmp_eq (tgt := 20) hx hb dX8_allFollow_15 (by decide) (fun c15 => ?_) (fun c15 => ?_)
    · have h := h.1 c15
      refine lv_iinc (v := x1 + 1) (lv' := [(1, .int (x1 + 1)), (0, .ref (ad k))]) hx hb dX8_allFollow_20 hl (k := 1) rfl rfl (by decide) rfl (fun ls hl => ?_)
      refine lv_goto (tgt := 2) hx hb dX8_allFollow_23 (by decide) ?_
      exact hL2 h hw (lv_sub hl [1, 0] rfl)
    · have h := h.2 c15
      refine lv_iconst (v := 0) hx hb dX8_allFollow_18 (by decide) ?_
      exact g_zret C hw (by decide) h dX8_allFollow_19
theorem wl_X8_allFollow_2 {Q : Int32 → MI → MJ → Prop} (C : gC RX8 cX8_allFollow 2 (some .boolean) 66 ad cy D (xF ad ts) p s m args meth c) {k : Nat} (hk : isSet k) {x1 : Int32} {I : MI} {J : MJ} {H : Heap} {locs : List Loc} {ls : Array Slot} (h : lpx (P_X8_allFollow_2 k Q) (x1, I, J)) (hw : gH (xS ad cy) 66 ad D s I J H locs) (hl : lv_has ls 2 [(0, .ref (ad k)), (1, .int x1)]) : W p l e rmX8_allFollow s m args below meth c H locs 0 0 (MQ below (gQz (xS ad cy) 66 ad cy D (xF ad ts) Q) args s 0 0 (gA 66 ad)) (F0 m 2 ls []) := by
  obtain ⟨n, h⟩ := h
  induction n generalizing x1 I J H locs ls with
  | zero => exact False.elim h
  | succ n ih => exact w_X8_allFollow_2 C hk (fun hk9 hw9 hl9 => ih hw9 hl9 hk9) h hw hl
set_option maxHeartbeats 4000000 in
set_option maxRecDepth 100000 in
theorem w_X8_allFollow {Q : Int32 → MI → MJ → Prop} (C : gC RX8 cX8_allFollow 2 (some .boolean) 66 ad cy D (xF ad ts) p s m args meth c) {k : Nat} (hk : isSet k) {I : MI} {J : MJ} {H : Heap} {locs : List Loc} {ls : Array Slot} (h : P_X8_allFollow k I J Q) (hw : gH (xS ad cy) 66 ad D s I J H locs) (hl : lv_has ls 2 [(0, .ref (ad k))]) : W p l e rmX8_allFollow s m args below meth c H locs 0 0 (MQ below (gQz (xS ad cy) 66 ad cy D (xF ad ts) Q) args s 0 0 (gA 66 ad)) (F0 m 0 ls []) := by
  obtain ⟨hx, hb, hC⟩ := id C
  refine lv_iconst (v := 0) hx hb dX8_allFollow_0 (by decide) ?_
  refine lv_istore_n (lv' := [(1, .int (0 : Int32)), (0, .ref (ad k))]) hx hb dX8_allFollow_1 rfl hl (by decide) rfl (fun ls hl => ?_)
  exact wl_X8_allFollow_2 C hk h hw (lv_sub hl [1, 0] rfl)
theorem m_X8_allFollow {l : Launch} {k : Nat} (hk : isSet k) {Q : Int32 → MI → MJ → Prop} {I : MI} {J : MJ} (h : P_X8_allFollow k I J Q) : Met l yX8_allFollow (xws yX8_allFollow cX8_allFollow 2 (some .boolean)) rmX8_allFollow (va_Pc [.ref (ad k)] (gB (xS ad cy) 66 ad cy D (xF ad ts) I J)) (gQz (xS ad cy) 66 ad cy D (xF ad ts) Q) 0 0 (gA 66 ad) :=
  g_met (xF_ok ad ts) rfl (by decide) (Nat.le_of_ble_eq_true rfl) (fun p e s m below meth c ls C hw hl => w_X8_allFollow C hk h hw hl)
/-! BagPhrases$Reader.readsHead(I)Z -/
def P_X7_readsHead_177 (Q : Int32 → MI → MJ → Prop) (I : MI) (J : MJ) : Prop :=
  Q (0 : Int32) I J
def P_X7_readsHead_152 (Q : Int32 → MI → MJ → Prop) (I : MI) (J : MJ) : Prop :=
  Q (0 : Int32) I J
def P_X7_readsHead_126 (Q : Int32 → MI → MJ → Prop) (I : MI) (J : MJ) : Prop :=
  Q (0 : Int32) I J
def P_X7_readsHead_100 (Q : Int32 → MI → MJ → Prop) (I : MI) (J : MJ) : Prop :=
  Q (0 : Int32) I J
def P_X7_readsHead_74 (Q : Int32 → MI → MJ → Prop) (I : MI) (J : MJ) : Prop :=
  Q (0 : Int32) I J
def P_X7_readsHead (a0 : Int32) (I : MI) (J : MJ) (Q : Int32 → MI → MJ → Prop) : Prop :=
  ((a0 = 43 → P_X8_letters 8 I J (fun r80 I80 J80 => (((12 : Int32) ≤ r80 → P_X7_readsHead_100 Q I80 J80) ∧ (¬ (12 : Int32) ≤ r80 → P_X7_awaits (3 : Int32) I80 J80 (fun r90 I90 J90 => ((r90 = 0 → P_X7_readsHead_100 Q I90 J90) ∧ (¬ r90 = 0 → Q (1 : Int32) I90 J90))))))) ∧ (¬ a0 = 43 → ((a0 = 46 → (((I 8 4) = (15 : Int32) → P_X7_readsHead_152 Q I J) ∧ (¬ (I 8 4) = (15 : Int32) → P_X7_awaits (5 : Int32) I J (fun r142 I142 J142 => ((r142 = 0 → P_X7_readsHead_152 Q I142 J142) ∧ (¬ r142 = 0 → Q (1 : Int32) I142 J142)))))) ∧ (¬ a0 = 46 → ((a0 = 58 → P_X8_allFollow 8 I J (fun r158 I158 J158 => ((¬ r158 = 0 → P_X7_readsHead_177 Q I158 J158) ∧ (r158 = 0 → P_X7_awaits (6 : Int32) I158 J158 (fun r167 I167 J167 => ((r167 = 0 → P_X7_readsHead_177 Q I167 J167) ∧ (¬ r167 = 0 → Q (1 : Int32) I167 J167))))))) ∧ (¬ a0 = 58 → ((a0 = 94 → (((I 8 3) = (15 : Int32) → P_X7_readsHead_126 Q I J) ∧ (¬ (I 8 3) = (15 : Int32) → P_X7_awaits (4 : Int32) I J (fun r116 I116 J116 => ((r116 = 0 → P_X7_readsHead_126 Q I116 J116) ∧ (¬ r116 = 0 → Q (1 : Int32) I116 J116)))))) ∧ (¬ a0 = 94 → ((a0 = 119 → P_X5_open 3 I J (fun r56 I56 J56 => ((r56 = 0 → P_X7_readsHead_74 Q I56 J56) ∧ (¬ r56 = 0 → P_X7_awaits (1 : Int32) I56 J56 (fun r64 I64 J64 => ((r64 = 0 → P_X7_readsHead_74 Q I64 J64) ∧ (¬ r64 = 0 → Q (1 : Int32) I64 J64))))))) ∧ (¬ a0 = 119 → Q (0 : Int32) I J))))))))))
abbrev rmX7_readsHead : Room := { frames := 1, cells := 0, slots := 0, locals := 22 }
set_option maxHeartbeats 4000000 in
set_option maxRecDepth 100000 in
theorem w_X7_readsHead_177 {Q : Int32 → MI → MJ → Prop} (C : gC RX7 cX7_readsHead 2 (some .boolean) 66 ad cy D (xF ad ts) p s m args meth c) {I : MI} {J : MJ} {H : Heap} {locs : List Loc} {ls : Array Slot} (h : P_X7_readsHead_177 Q I J) (hw : gH (xS ad cy) 66 ad D s I J H locs) (hl : lv_has ls 2 []) : W p l e rmX7_readsHead s m args below meth c H locs 0 0 (MQ below (gQz (xS ad cy) 66 ad cy D (xF ad ts) Q) args s 0 0 (gA 66 ad)) (F0 m 177 ls []) := by
  obtain ⟨hx, hb, hC⟩ := id C
  refine lv_iconst (v := 0) hx hb dX7_readsHead_177 (by decide) ?_
  exact g_zret C hw (by decide) h dX7_readsHead_178
set_option maxHeartbeats 4000000 in
set_option maxRecDepth 100000 in
theorem w_X7_readsHead_152 {Q : Int32 → MI → MJ → Prop} (C : gC RX7 cX7_readsHead 2 (some .boolean) 66 ad cy D (xF ad ts) p s m args meth c) {I : MI} {J : MJ} {H : Heap} {locs : List Loc} {ls : Array Slot} (h : P_X7_readsHead_152 Q I J) (hw : gH (xS ad cy) 66 ad D s I J H locs) (hl : lv_has ls 2 []) : W p l e rmX7_readsHead s m args below meth c H locs 0 0 (MQ below (gQz (xS ad cy) 66 ad cy D (xF ad ts) Q) args s 0 0 (gA 66 ad)) (F0 m 152 ls []) := by
  obtain ⟨hx, hb, hC⟩ := id C
  refine lv_iconst (v := 0) hx hb dX7_readsHead_152 (by decide) ?_
  exact g_zret C hw (by decide) h dX7_readsHead_153
set_option maxHeartbeats 4000000 in
set_option maxRecDepth 100000 in
theorem w_X7_readsHead_126 {Q : Int32 → MI → MJ → Prop} (C : gC RX7 cX7_readsHead 2 (some .boolean) 66 ad cy D (xF ad ts) p s m args meth c) {I : MI} {J : MJ} {H : Heap} {locs : List Loc} {ls : Array Slot} (h : P_X7_readsHead_126 Q I J) (hw : gH (xS ad cy) 66 ad D s I J H locs) (hl : lv_has ls 2 []) : W p l e rmX7_readsHead s m args below meth c H locs 0 0 (MQ below (gQz (xS ad cy) 66 ad cy D (xF ad ts) Q) args s 0 0 (gA 66 ad)) (F0 m 126 ls []) := by
  obtain ⟨hx, hb, hC⟩ := id C
  refine lv_iconst (v := 0) hx hb dX7_readsHead_126 (by decide) ?_
  exact g_zret C hw (by decide) h dX7_readsHead_127
set_option maxHeartbeats 4000000 in
set_option maxRecDepth 100000 in
theorem w_X7_readsHead_100 {Q : Int32 → MI → MJ → Prop} (C : gC RX7 cX7_readsHead 2 (some .boolean) 66 ad cy D (xF ad ts) p s m args meth c) {I : MI} {J : MJ} {H : Heap} {locs : List Loc} {ls : Array Slot} (h : P_X7_readsHead_100 Q I J) (hw : gH (xS ad cy) 66 ad D s I J H locs) (hl : lv_has ls 2 []) : W p l e rmX7_readsHead s m args below meth c H locs 0 0 (MQ below (gQz (xS ad cy) 66 ad cy D (xF ad ts) Q) args s 0 0 (gA 66 ad)) (F0 m 100 ls []) := by
  obtain ⟨hx, hb, hC⟩ := id C
  refine lv_iconst (v := 0) hx hb dX7_readsHead_100 (by decide) ?_
  exact g_zret C hw (by decide) h dX7_readsHead_101
set_option maxHeartbeats 4000000 in
set_option maxRecDepth 100000 in
theorem w_X7_readsHead_74 {Q : Int32 → MI → MJ → Prop} (C : gC RX7 cX7_readsHead 2 (some .boolean) 66 ad cy D (xF ad ts) p s m args meth c) {I : MI} {J : MJ} {H : Heap} {locs : List Loc} {ls : Array Slot} (h : P_X7_readsHead_74 Q I J) (hw : gH (xS ad cy) 66 ad D s I J H locs) (hl : lv_has ls 2 []) : W p l e rmX7_readsHead s m args below meth c H locs 0 0 (MQ below (gQz (xS ad cy) 66 ad cy D (xF ad ts) Q) args s 0 0 (gA 66 ad)) (F0 m 74 ls []) := by
  obtain ⟨hx, hb, hC⟩ := id C
  refine lv_iconst (v := 0) hx hb dX7_readsHead_74 (by decide) ?_
  exact g_zret C hw (by decide) h dX7_readsHead_75
set_option maxHeartbeats 4000000 in
set_option maxRecDepth 100000 in
theorem w_X7_readsHead {Q : Int32 → MI → MJ → Prop} (C : gC RX7 cX7_readsHead 2 (some .boolean) 66 ad cy D (xF ad ts) p s m args meth c) {a0 : Int32} {I : MI} {J : MJ} {H : Heap} {locs : List Loc} {ls : Array Slot} (h : P_X7_readsHead a0 I J Q) (hw : gH (xS ad cy) 66 ad D s I J H locs) (hl : lv_has ls 2 [(0, .ref (ad 1)), (1, .int a0)]) : W p l e rmX7_readsHead s m args below meth c H locs 0 0 (MQ below (gQz (xS ad cy) 66 ad cy D (xF ad ts) Q) args s 0 0 (gA 66 ad)) (F0 m 0 ls []) := by
  obtain ⟨hx, hb, hC⟩ := id C
  refine lv_iload_n hx hb dX7_readsHead_0 rfl (lv_at hl 1 rfl) ?_
  rcases Classical.em (a0 = 43) with c1_0 | c1_0
  · have h := h.1 c1_0
    refine lv_lookup (off := 75) (tgt := 76) hx hb dX7_readsHead_1 (by decide) (by rw [c1_0]; decide) (by decide) ?_
    refine lv_aload_n hx hb dX7_readsHead_76 rfl (lv_at hl 0 rfl) ?_
    refine g_get C hw f_RX7_25 xl_1 (xs_1 _ _) rfl dX7_readsHead_77 ?_
    refine g_ci hw (g_rV [] [] C hw (m_X8_letters isSet_8 h) k_X8_letters q_RX7_88 xl_8 (xs_8 _ _) rfl rfl hl.1 rfl (Nat.le_of_ble_eq_true rfl) ⟨⟨rfl, rfl⟩, Nat.le_of_ble_eq_true rfl, Nat.le_of_ble_eq_true rfl⟩ ⟨Nat.zero_le _, Nat.zero_le _⟩ dX7_readsHead_80) (fun r80 I80 J80 H locs h hw => ?_)
    refine lv_bipush (v := 12) hx hb dX7_readsHead_83 (by decide) ?_
    refine lv_icmp_ge (tgt := 100) hx hb dX7_readsHead_85 (by decide) (fun c85 => ?_) (fun c85 => ?_)
    · have h := h.1 c85
      exact w_X7_readsHead_100 C  h hw (lv_sub hl [] rfl)
    · have h := h.2 c85
      refine lv_aload_n hx hb dX7_readsHead_88 rfl (lv_at hl 0 rfl) ?_
      refine lv_iconst (v := 3) hx hb dX7_readsHead_89 (by decide) ?_
      refine g_cz hw (g_rV [.int (3 : Int32)] [] C hw (m_X7_awaits h) k_X7_awaits q_RX7_85 xl_1 (xs_1 _ _) rfl rfl hl.1 rfl (Nat.le_of_ble_eq_true rfl) ⟨⟨rfl, rfl⟩, Nat.le_of_ble_eq_true rfl, Nat.le_of_ble_eq_true rfl⟩ ⟨Nat.zero_le _, Nat.zero_le _⟩ dX7_readsHead_90) (fun r90 I90 J90 H locs z90 h hw => ?_)
      refine lv_if_eq (tgt := 100) hx hb dX7_readsHead_93 (by decide) (fun c93 => ?_) (fun c93 => ?_)
      · have h := h.1 c93
        exact w_X7_readsHead_100 C  h hw (lv_sub hl [] rfl)
      · have h := h.2 c93
        refine lv_iconst (v := 1) hx hb dX7_readsHead_96 (by decide) ?_
        refine lv_goto (tgt := 101) hx hb dX7_readsHead_97 (by decide) ?_
        exact g_zret C hw (by decide) h dX7_readsHead_101
  have h := h.2 c1_0
  rcases Classical.em (a0 = 46) with c1_1 | c1_1
  · have h := h.1 c1_1
    refine lv_lookup (off := 127) (tgt := 128) hx hb dX7_readsHead_1 (by decide) (by rw [c1_1]; decide) (by decide) ?_
    refine lv_aload_n hx hb dX7_readsHead_128 rfl (lv_at hl 0 rfl) ?_
    refine g_get C hw f_RX7_25 xl_1 (xs_1 _ _) rfl dX7_readsHead_129 ?_
    refine g_get C hw f_RX7_72 xl_8 (xs_8 _ _) rfl dX7_readsHead_132 ?_
    refine lv_bipush (v := 15) hx hb dX7_readsHead_135 (by decide) ?_
    refine lv_icmp_eq (tgt := 152) hx hb dX7_readsHead_137 (by decide) (fun c137 => ?_) (fun c137 => ?_)
    · have h := h.1 c137
      exact w_X7_readsHead_152 C  h hw (lv_sub hl [] rfl)
    · have h := h.2 c137
      refine lv_aload_n hx hb dX7_readsHead_140 rfl (lv_at hl 0 rfl) ?_
      refine lv_iconst (v := 5) hx hb dX7_readsHead_141 (by decide) ?_
      refine g_cz hw (g_rV [.int (5 : Int32)] [] C hw (m_X7_awaits h) k_X7_awaits q_RX7_85 xl_1 (xs_1 _ _) rfl rfl hl.1 rfl (Nat.le_of_ble_eq_true rfl) ⟨⟨rfl, rfl⟩, Nat.le_of_ble_eq_true rfl, Nat.le_of_ble_eq_true rfl⟩ ⟨Nat.zero_le _, Nat.zero_le _⟩ dX7_readsHead_142) (fun r142 I142 J142 H locs z142 h hw => ?_)
      refine lv_if_eq (tgt := 152) hx hb dX7_readsHead_145 (by decide) (fun c145 => ?_) (fun c145 => ?_)
      · have h := h.1 c145
        exact w_X7_readsHead_152 C  h hw (lv_sub hl [] rfl)
      · have h := h.2 c145
        refine lv_iconst (v := 1) hx hb dX7_readsHead_148 (by decide) ?_
        refine lv_goto (tgt := 153) hx hb dX7_readsHead_149 (by decide) ?_
        exact g_zret C hw (by decide) h dX7_readsHead_153
  have h := h.2 c1_1
  rcases Classical.em (a0 = 58) with c1_2 | c1_2
  · have h := h.1 c1_2
    refine lv_lookup (off := 153) (tgt := 154) hx hb dX7_readsHead_1 (by decide) (by rw [c1_2]; decide) (by decide) ?_
    refine lv_aload_n hx hb dX7_readsHead_154 rfl (lv_at hl 0 rfl) ?_
    refine g_get C hw f_RX7_25 xl_1 (xs_1 _ _) rfl dX7_readsHead_155 ?_
    refine g_cz hw (g_rV [] [] C hw (m_X8_allFollow isSet_8 h) k_X8_allFollow q_RX7_92 xl_8 (xs_8 _ _) rfl rfl hl.1 rfl (Nat.le_of_ble_eq_true rfl) ⟨⟨rfl, rfl⟩, Nat.le_of_ble_eq_true rfl, Nat.le_of_ble_eq_true rfl⟩ ⟨Nat.zero_le _, Nat.zero_le _⟩ dX7_readsHead_158) (fun r158 I158 J158 H locs z158 h hw => ?_)
    refine lv_if_ne (tgt := 177) hx hb dX7_readsHead_161 (by decide) (fun c161 => ?_) (fun c161 => ?_)
    · have h := h.1 c161
      exact w_X7_readsHead_177 C  h hw (lv_sub hl [] rfl)
    · have h := h.2 c161
      refine lv_aload_n hx hb dX7_readsHead_164 rfl (lv_at hl 0 rfl) ?_
      refine lv_bipush (v := 6) hx hb dX7_readsHead_165 (by decide) ?_
      refine g_cz hw (g_rV [.int (6 : Int32)] [] C hw (m_X7_awaits h) k_X7_awaits q_RX7_85 xl_1 (xs_1 _ _) rfl rfl hl.1 rfl (Nat.le_of_ble_eq_true rfl) ⟨⟨rfl, rfl⟩, Nat.le_of_ble_eq_true rfl, Nat.le_of_ble_eq_true rfl⟩ ⟨Nat.zero_le _, Nat.zero_le _⟩ dX7_readsHead_167) (fun r167 I167 J167 H locs z167 h hw => ?_)
      refine lv_if_eq (tgt := 177) hx hb dX7_readsHead_170 (by decide) (fun c170 => ?_) (fun c170 => ?_)
      · have h := h.1 c170
        exact w_X7_readsHead_177 C  h hw (lv_sub hl [] rfl)
      · have h := h.2 c170
        refine lv_iconst (v := 1) hx hb dX7_readsHead_173 (by decide) ?_
        refine lv_goto (tgt := 178) hx hb dX7_readsHead_174 (by decide) ?_
        exact g_zret C hw (by decide) h dX7_readsHead_178
  have h := h.2 c1_2
  rcases Classical.em (a0 = 94) with c1_3 | c1_3
  · have h := h.1 c1_3
    refine lv_lookup (off := 101) (tgt := 102) hx hb dX7_readsHead_1 (by decide) (by rw [c1_3]; decide) (by decide) ?_
    refine lv_aload_n hx hb dX7_readsHead_102 rfl (lv_at hl 0 rfl) ?_
    refine g_get C hw f_RX7_25 xl_1 (xs_1 _ _) rfl dX7_readsHead_103 ?_
    refine g_get C hw f_RX7_65 xl_8 (xs_8 _ _) rfl dX7_readsHead_106 ?_
    refine lv_bipush (v := 15) hx hb dX7_readsHead_109 (by decide) ?_
    refine lv_icmp_eq (tgt := 126) hx hb dX7_readsHead_111 (by decide) (fun c111 => ?_) (fun c111 => ?_)
    · have h := h.1 c111
      exact w_X7_readsHead_126 C  h hw (lv_sub hl [] rfl)
    · have h := h.2 c111
      refine lv_aload_n hx hb dX7_readsHead_114 rfl (lv_at hl 0 rfl) ?_
      refine lv_iconst (v := 4) hx hb dX7_readsHead_115 (by decide) ?_
      refine g_cz hw (g_rV [.int (4 : Int32)] [] C hw (m_X7_awaits h) k_X7_awaits q_RX7_85 xl_1 (xs_1 _ _) rfl rfl hl.1 rfl (Nat.le_of_ble_eq_true rfl) ⟨⟨rfl, rfl⟩, Nat.le_of_ble_eq_true rfl, Nat.le_of_ble_eq_true rfl⟩ ⟨Nat.zero_le _, Nat.zero_le _⟩ dX7_readsHead_116) (fun r116 I116 J116 H locs z116 h hw => ?_)
      refine lv_if_eq (tgt := 126) hx hb dX7_readsHead_119 (by decide) (fun c119 => ?_) (fun c119 => ?_)
      · have h := h.1 c119
        exact w_X7_readsHead_126 C  h hw (lv_sub hl [] rfl)
      · have h := h.2 c119
        refine lv_iconst (v := 1) hx hb dX7_readsHead_122 (by decide) ?_
        refine lv_goto (tgt := 127) hx hb dX7_readsHead_123 (by decide) ?_
        exact g_zret C hw (by decide) h dX7_readsHead_127
  have h := h.2 c1_3
  rcases Classical.em (a0 = 119) with c1_4 | c1_4
  · have h := h.1 c1_4
    refine lv_lookup (off := 51) (tgt := 52) hx hb dX7_readsHead_1 (by decide) (by rw [c1_4]; decide) (by decide) ?_
    refine lv_aload_n hx hb dX7_readsHead_52 rfl (lv_at hl 0 rfl) ?_
    refine g_get C hw f_RX7_18 xl_1 (xs_1 _ _) rfl dX7_readsHead_53 ?_
    refine g_cz hw (g_rV [] [] C hw (m_X5_open isLex_3 h) k_X5_open q_RX7_81 xl_3 (xs_3 _ _) rfl rfl hl.1 rfl (Nat.le_of_ble_eq_true rfl) ⟨⟨rfl, rfl⟩, Nat.le_of_ble_eq_true rfl, Nat.le_of_ble_eq_true rfl⟩ ⟨Nat.zero_le _, Nat.zero_le _⟩ dX7_readsHead_56) (fun r56 I56 J56 H locs z56 h hw => ?_)
    refine lv_if_eq (tgt := 74) hx hb dX7_readsHead_59 (by decide) (fun c59 => ?_) (fun c59 => ?_)
    · have h := h.1 c59
      exact w_X7_readsHead_74 C  h hw (lv_sub hl [] rfl)
    · have h := h.2 c59
      refine lv_aload_n hx hb dX7_readsHead_62 rfl (lv_at hl 0 rfl) ?_
      refine lv_iconst (v := 1) hx hb dX7_readsHead_63 (by decide) ?_
      refine g_cz hw (g_rV [.int (1 : Int32)] [] C hw (m_X7_awaits h) k_X7_awaits q_RX7_85 xl_1 (xs_1 _ _) rfl rfl hl.1 rfl (Nat.le_of_ble_eq_true rfl) ⟨⟨rfl, rfl⟩, Nat.le_of_ble_eq_true rfl, Nat.le_of_ble_eq_true rfl⟩ ⟨Nat.zero_le _, Nat.zero_le _⟩ dX7_readsHead_64) (fun r64 I64 J64 H locs z64 h hw => ?_)
      refine lv_if_eq (tgt := 74) hx hb dX7_readsHead_67 (by decide) (fun c67 => ?_) (fun c67 => ?_)
      · have h := h.1 c67
        exact w_X7_readsHead_74 C  h hw (lv_sub hl [] rfl)
      · have h := h.2 c67
        refine lv_iconst (v := 1) hx hb dX7_readsHead_70 (by decide) ?_
        refine lv_goto (tgt := 75) hx hb dX7_readsHead_71 (by decide) ?_
        exact g_zret C hw (by decide) h dX7_readsHead_75
  have h := h.2 c1_4
  refine lv_lookup (off := 178) (tgt := 179) hx hb dX7_readsHead_1 (by decide) (by show Op.lookupswitch.offset [(43, 75), (46, 127), (58, 153), (94, 101), (119, 51)] (178) _ = _; rw [lv_osw c1_0 (by decide), lv_osw c1_1 (by decide), lv_osw c1_2 (by decide), lv_osw c1_3 (by decide), lv_osw c1_4 (by decide)]; rfl) (by decide) ?_
  refine lv_iconst (v := 0) hx hb dX7_readsHead_179 (by decide) ?_
  exact g_zret C hw (by decide) h dX7_readsHead_180
theorem m_X7_readsHead {l : Launch} {a0 : Int32} {Q : Int32 → MI → MJ → Prop} {I : MI} {J : MJ} (h : P_X7_readsHead a0 I J Q) : Met l yX7_readsHead (xws yX7_readsHead cX7_readsHead 2 (some .boolean)) rmX7_readsHead (va_Pc [.ref (ad 1), .int a0] (gB (xS ad cy) 66 ad cy D (xF ad ts) I J)) (gQz (xS ad cy) 66 ad cy D (xF ad ts) Q) 0 0 (gA 66 ad) :=
  g_met (xF_ok ad ts) rfl (by decide) (Nat.le_of_ble_eq_true rfl) (fun p e s m below meth c ls C hw hl => w_X7_readsHead C  h hw hl)
/-! BagPhrases.isLetter(I)Z -/
def P_X11_isLetter_14 (Q : Int32 → MI → MJ → Prop) (I : MI) (J : MJ) : Prop :=
  Q (0 : Int32) I J
def P_X11_isLetter (a0 : Int32) (I : MI) (J : MJ) (Q : Int32 → MI → MJ → Prop) : Prop :=
  ((a0 < 0 → P_X11_isLetter_14 Q I J) ∧ (¬ a0 < 0 → (((8 : Int32) ≤ a0 → P_X11_isLetter_14 Q I J) ∧ (¬ (8 : Int32) ≤ a0 → Q (1 : Int32) I J))))
abbrev rmX11_isLetter : Room := { frames := 0, cells := 0, slots := 0, locals := 0 }
set_option maxHeartbeats 4000000 in
set_option maxRecDepth 100000 in
theorem w_X11_isLetter_14 {Q : Int32 → MI → MJ → Prop} (C : gC RX11 cX11_isLetter 1 (some .boolean) 66 ad cy D (xF ad ts) p s m args meth c) {I : MI} {J : MJ} {H : Heap} {locs : List Loc} {ls : Array Slot} (h : P_X11_isLetter_14 Q I J) (hw : gH (xS ad cy) 66 ad D s I J H locs) (hl : lv_has ls 1 []) : W p l e rmX11_isLetter s m args below meth c H locs 0 0 (MQ below (gQz (xS ad cy) 66 ad cy D (xF ad ts) Q) args s 0 0 (gA 66 ad)) (F0 m 14 ls []) := by
  obtain ⟨hx, hb, hC⟩ := id C
  refine lv_iconst (v := 0) hx hb dX11_isLetter_14 (by decide) ?_
  exact g_zret C hw (by decide) h dX11_isLetter_15
set_option maxHeartbeats 4000000 in
set_option maxRecDepth 100000 in
theorem w_X11_isLetter {Q : Int32 → MI → MJ → Prop} (C : gC RX11 cX11_isLetter 1 (some .boolean) 66 ad cy D (xF ad ts) p s m args meth c) {a0 : Int32} {I : MI} {J : MJ} {H : Heap} {locs : List Loc} {ls : Array Slot} (h : P_X11_isLetter a0 I J Q) (hw : gH (xS ad cy) 66 ad D s I J H locs) (hl : lv_has ls 1 [(0, .int a0)]) : W p l e rmX11_isLetter s m args below meth c H locs 0 0 (MQ below (gQz (xS ad cy) 66 ad cy D (xF ad ts) Q) args s 0 0 (gA 66 ad)) (F0 m 0 ls []) := by
  obtain ⟨hx, hb, hC⟩ := id C
  refine lv_iload_n hx hb dX11_isLetter_0 rfl (lv_at hl 0 rfl) ?_
  refine lv_if_lt (tgt := 14) hx hb dX11_isLetter_1 (by decide) (fun c1 => ?_) (fun c1 => ?_)
  · have h := h.1 c1
    exact w_X11_isLetter_14 C  h hw (lv_sub hl [] rfl)
  · have h := h.2 c1
    refine lv_iload_n hx hb dX11_isLetter_4 rfl (lv_at hl 0 rfl) ?_
    refine lv_bipush (v := 8) hx hb dX11_isLetter_5 (by decide) ?_
    refine lv_icmp_ge (tgt := 14) hx hb dX11_isLetter_7 (by decide) (fun c7 => ?_) (fun c7 => ?_)
    · have h := h.1 c7
      exact w_X11_isLetter_14 C  h hw (lv_sub hl [] rfl)
    · have h := h.2 c7
      refine lv_iconst (v := 1) hx hb dX11_isLetter_10 (by decide) ?_
      refine lv_goto (tgt := 15) hx hb dX11_isLetter_11 (by decide) ?_
      exact g_zret C hw (by decide) h dX11_isLetter_15
theorem m_X11_isLetter {l : Launch} {a0 : Int32} {Q : Int32 → MI → MJ → Prop} {I : MI} {J : MJ} (h : P_X11_isLetter a0 I J Q) : Met l yX11_isLetter (xws yX11_isLetter cX11_isLetter 1 (some .boolean)) rmX11_isLetter (va_Pc [.int a0] (gB (xS ad cy) 66 ad cy D (xF ad ts) I J)) (gQz (xS ad cy) 66 ad cy D (xF ad ts) Q) 0 0 (gA 66 ad) :=
  g_met (xF_ok ad ts) rfl (by decide) (Nat.le_of_ble_eq_true rfl) (fun p e s m below meth c ls C hw hl => w_X11_isLetter C  h hw hl)
/-! BagPhrases$Lexicon.spell(I)Z -/
def P_X5_spell (k : Nat) (a0 : Int32) (I : MI) (J : MJ) (Q : Int32 → MI → MJ → Prop) : Prop :=
  ((((I k 4) - (1 : Int32)) < 0 → Q (0 : Int32) I J) ∧ (¬ ((I k 4) - (1 : Int32)) < 0 → vp_in ((I k 4) - (1 : Int32)) 10 ∧ ((((I (k + 2) ((I k 4) - (1 : Int32)).toNatClampNeg) < (6 : Int32) → vp_in ((I k 4) - (1 : Int32)) 10 ∧ (vp_in ((((I k 4) - (1 : Int32)) * (6 : Int32)) + (I (k + 2) ((I k 4) - (1 : Int32)).toNatClampNeg)) 60 ∧ (∀ I40 : MI, I40 = mI I (k + 4) ((((I k 4) - (1 : Int32)) * (6 : Int32)) + (I (k + 2) ((I k 4) - (1 : Int32)).toNatClampNeg)).toNatClampNeg a0 → vp_in ((I k 4) - (1 : Int32)) 10 ∧ (vp_in ((I k 4) - (1 : Int32)) 10 ∧ (∀ I50 : MI, I50 = mI I40 (k + 2) ((I k 4) - (1 : Int32)).toNatClampNeg ((I40 (k + 2) ((I k 4) - (1 : Int32)).toNatClampNeg) + (1 : Int32)) → vp_in ((I k 4) - (1 : Int32)) 10 ∧ (vp_in ((I k 4) - (1 : Int32)) 10 ∧ (∀ J64 : MJ, J64 = mJ J (k + 3) ((I k 4) - (1 : Int32)).toNatClampNeg ((J (k + 3) ((I k 4) - (1 : Int32)).toNatClampNeg) + ((1 : Int64) <<< (((5 : Int32) * a0).toInt64 &&& 63))) → Q (1 : Int32) I50 J64))))))) ∧ (¬ (I (k + 2) ((I k 4) - (1 : Int32)).toNatClampNeg) < (6 : Int32) → Q (0 : Int32) I J)))))
abbrev rmX5_spell : Room := { frames := 0, cells := 0, slots := 0, locals := 0 }
set_option maxHeartbeats 4000000 in
set_option maxRecDepth 100000 in
theorem w_X5_spell {Q : Int32 → MI → MJ → Prop} (C : gC RX5 cX5_spell 3 (some .boolean) 66 ad cy D (xF ad ts) p s m args meth c) {k : Nat} (hk : isLex k) {a0 : Int32} {I : MI} {J : MJ} {H : Heap} {locs : List Loc} {ls : Array Slot} (h : P_X5_spell k a0 I J Q) (hw : gH (xS ad cy) 66 ad D s I J H locs) (hl : lv_has ls 3 [(0, .ref (ad k)), (1, .int a0)]) : W p l e rmX5_spell s m args below meth c H locs 0 0 (MQ below (gQz (xS ad cy) 66 ad cy D (xF ad ts) Q) args s 0 0 (gA 66 ad)) (F0 m 0 ls []) := by
  obtain ⟨hx, hb, hC⟩ := id C
  refine lv_aload_n hx hb dX5_spell_0 rfl (lv_at hl 0 rfl) ?_
  refine g_get C hw f_RX5_25 (xl_Lex0 hk) ((xs_Lex0 hk) _ _) rfl dX5_spell_1 ?_
  refine lv_iconst (v := 1) hx hb dX5_spell_4 (by decide) ?_
  refine lv_isub hx hb dX5_spell_5 ?_
  refine lv_istore_n (lv' := [(2, .int ((I k 4) - (1 : Int32))), (0, .ref (ad k)), (1, .int a0)]) hx hb dX5_spell_6 rfl hl (by decide) rfl (fun ls hl => ?_)
  refine lv_iload_n hx hb dX5_spell_7 rfl (lv_at hl 0 rfl) ?_
  refine lv_if_lt (tgt := 22) hx hb dX5_spell_8 (by decide) (fun c8 => ?_) (fun c8 => ?_)
  · have h := h.1 c8
    refine lv_iconst (v := 0) hx hb dX5_spell_22 (by decide) ?_
    exact g_zret C hw (by decide) h dX5_spell_23
  · have h := h.2 c8
    refine lv_aload_n hx hb dX5_spell_11 rfl (lv_at hl 1 rfl) ?_
    refine g_get C hw f_RX5_15 (xl_Lex0 hk) ((xs_Lex0 hk) _ _) rfl dX5_spell_12 ?_
    refine lv_iload_n hx hb dX5_spell_15 rfl (lv_at hl 0 rfl) ?_
    refine g_iald C hw (xl_Lex2 hk) (xs_Lex2 hk) h.1 dX5_spell_16 ?_
    have h := h.2
    refine lv_bipush (v := 6) hx hb dX5_spell_17 (by decide) ?_
    refine lv_icmp_lt (tgt := 24) hx hb dX5_spell_19 (by decide) (fun c19 => ?_) (fun c19 => ?_)
    · have h := h.1 c19
      refine lv_aload_n hx hb dX5_spell_24 rfl (lv_at hl 1 rfl) ?_
      refine g_get C hw f_RX5_22 (xl_Lex0 hk) ((xs_Lex0 hk) _ _) rfl dX5_spell_25 ?_
      refine lv_iload_n hx hb dX5_spell_28 rfl (lv_at hl 0 rfl) ?_
      refine lv_bipush (v := 6) hx hb dX5_spell_29 (by decide) ?_
      refine lv_imul hx hb dX5_spell_31 ?_
      refine lv_aload_n hx hb dX5_spell_32 rfl (lv_at hl 1 rfl) ?_
      refine g_get C hw f_RX5_15 (xl_Lex0 hk) ((xs_Lex0 hk) _ _) rfl dX5_spell_33 ?_
      refine lv_iload_n hx hb dX5_spell_36 rfl (lv_at hl 0 rfl) ?_
      refine g_iald C hw (xl_Lex2 hk) (xs_Lex2 hk) h.1 dX5_spell_37 ?_
      have h := h.2
      refine lv_iadd hx hb dX5_spell_38 ?_
      refine lv_iload_n hx hb dX5_spell_39 rfl (lv_at hl 2 rfl) ?_
      refine g_iast C hw (xl_Lex4 hk) (xs_Lex4 hk) h.1 dX5_spell_40 (fun H locs hw => ?_)
      have h := h.2
      obtain ⟨I40, e40⟩ : ∃ z : MI, z = mI I (k + 4) ((((I k 4) - (1 : Int32)) * (6 : Int32)) + (I (k + 2) ((I k 4) - (1 : Int32)).toNatClampNeg)).toNatClampNeg a0 := ⟨_, rfl⟩
      have h := h I40 e40
      rw [← e40] at hw
      refine lv_aload_n hx hb dX5_spell_41 rfl (lv_at hl 1 rfl) ?_
      refine g_get C hw f_RX5_15 (xl_Lex0 hk) ((xs_Lex0 hk) _ _) rfl dX5_spell_42 ?_
      refine lv_iload_n hx hb dX5_spell_45 rfl (lv_at hl 0 rfl) ?_
      refine lv_dup2_11 hx hb dX5_spell_46 rfl rfl ?_
      refine g_iald C hw (xl_Lex2 hk) (xs_Lex2 hk) h.1 dX5_spell_47 ?_
      have h := h.2
      refine lv_iconst (v := 1) hx hb dX5_spell_48 (by decide) ?_
      refine lv_iadd hx hb dX5_spell_49 ?_
      refine g_iast C hw (xl_Lex2 hk) (xs_Lex2 hk) h.1 dX5_spell_50 (fun H locs hw => ?_)
      have h := h.2
      obtain ⟨I50, e50⟩ : ∃ z : MI, z = mI I40 (k + 2) ((I k 4) - (1 : Int32)).toNatClampNeg ((I40 (k + 2) ((I k 4) - (1 : Int32)).toNatClampNeg) + (1 : Int32)) := ⟨_, rfl⟩
      have h := h I50 e50
      rw [← e50] at hw
      refine lv_aload_n hx hb dX5_spell_51 rfl (lv_at hl 1 rfl) ?_
      refine g_get C hw f_RX5_18 (xl_Lex0 hk) ((xs_Lex0 hk) _ _) rfl dX5_spell_52 ?_
      refine lv_iload_n hx hb dX5_spell_55 rfl (lv_at hl 0 rfl) ?_
      refine lv_dup2_11 hx hb dX5_spell_56 rfl rfl ?_
      refine g_lald C hw (xl_Lex3 hk) (xs_Lex3 hk) h.1 dX5_spell_57 ?_
      have h := h.2
      refine lv_lconst (v := 1) hx hb dX5_spell_58 (by decide) ?_
      refine lv_iconst (v := 5) hx hb dX5_spell_59 (by decide) ?_
      refine lv_iload_n hx hb dX5_spell_60 rfl (lv_at hl 2 rfl) ?_
      refine lv_imul hx hb dX5_spell_61 ?_
      refine lv_lshl hx hb dX5_spell_62 rfl ?_
      refine lv_ladd hx hb dX5_spell_63 ?_
      refine g_last C hw (xl_Lex3 hk) (xs_Lex3 hk) h.1 dX5_spell_64 (fun H locs hw => ?_)
      have h := h.2
      obtain ⟨J64, e64⟩ : ∃ z : MJ, z = mJ J (k + 3) ((I k 4) - (1 : Int32)).toNatClampNeg ((J (k + 3) ((I k 4) - (1 : Int32)).toNatClampNeg) + ((1 : Int64) <<< (((5 : Int32) * a0).toInt64 &&& 63))) := ⟨_, rfl⟩
      have h := h J64 e64
      rw [← e64] at hw
      refine lv_iconst (v := 1) hx hb dX5_spell_65 (by decide) ?_
      exact g_zret C hw (by decide) h dX5_spell_66
    · have h := h.2 c19
      refine lv_iconst (v := 0) hx hb dX5_spell_22 (by decide) ?_
      exact g_zret C hw (by decide) h dX5_spell_23
theorem m_X5_spell {l : Launch} {k : Nat} (hk : isLex k) {a0 : Int32} {Q : Int32 → MI → MJ → Prop} {I : MI} {J : MJ} (h : P_X5_spell k a0 I J Q) : Met l yX5_spell (xws yX5_spell cX5_spell 3 (some .boolean)) rmX5_spell (va_Pc [.ref (ad k), .int a0] (gB (xS ad cy) 66 ad cy D (xF ad ts) I J)) (gQz (xS ad cy) 66 ad cy D (xF ad ts) Q) 0 0 (gA 66 ad) :=
  g_met (xF_ok ad ts) rfl (by decide) (Nat.le_of_ble_eq_true rfl) (fun p e s m below meth c ls C hw hl => w_X5_spell C hk h hw hl)
/-! BagPhrases.isKind(I)Z -/
def P_X11_isKind_13 (Q : Int32 → MI → MJ → Prop) (I : MI) (J : MJ) : Prop :=
  Q (0 : Int32) I J
def P_X11_isKind (a0 : Int32) (I : MI) (J : MJ) (Q : Int32 → MI → MJ → Prop) : Prop :=
  ((a0 < 0 → P_X11_isKind_13 Q I J) ∧ (¬ a0 < 0 → (((4 : Int32) ≤ a0 → P_X11_isKind_13 Q I J) ∧ (¬ (4 : Int32) ≤ a0 → Q (1 : Int32) I J))))
abbrev rmX11_isKind : Room := { frames := 0, cells := 0, slots := 0, locals := 0 }
set_option maxHeartbeats 4000000 in
set_option maxRecDepth 100000 in
theorem w_X11_isKind_13 {Q : Int32 → MI → MJ → Prop} (C : gC RX11 cX11_isKind 1 (some .boolean) 66 ad cy D (xF ad ts) p s m args meth c) {I : MI} {J : MJ} {H : Heap} {locs : List Loc} {ls : Array Slot} (h : P_X11_isKind_13 Q I J) (hw : gH (xS ad cy) 66 ad D s I J H locs) (hl : lv_has ls 1 []) : W p l e rmX11_isKind s m args below meth c H locs 0 0 (MQ below (gQz (xS ad cy) 66 ad cy D (xF ad ts) Q) args s 0 0 (gA 66 ad)) (F0 m 13 ls []) := by
  obtain ⟨hx, hb, hC⟩ := id C
  refine lv_iconst (v := 0) hx hb dX11_isKind_13 (by decide) ?_
  exact g_zret C hw (by decide) h dX11_isKind_14
set_option maxHeartbeats 4000000 in
set_option maxRecDepth 100000 in
theorem w_X11_isKind {Q : Int32 → MI → MJ → Prop} (C : gC RX11 cX11_isKind 1 (some .boolean) 66 ad cy D (xF ad ts) p s m args meth c) {a0 : Int32} {I : MI} {J : MJ} {H : Heap} {locs : List Loc} {ls : Array Slot} (h : P_X11_isKind a0 I J Q) (hw : gH (xS ad cy) 66 ad D s I J H locs) (hl : lv_has ls 1 [(0, .int a0)]) : W p l e rmX11_isKind s m args below meth c H locs 0 0 (MQ below (gQz (xS ad cy) 66 ad cy D (xF ad ts) Q) args s 0 0 (gA 66 ad)) (F0 m 0 ls []) := by
  obtain ⟨hx, hb, hC⟩ := id C
  refine lv_iload_n hx hb dX11_isKind_0 rfl (lv_at hl 0 rfl) ?_
  refine lv_if_lt (tgt := 13) hx hb dX11_isKind_1 (by decide) (fun c1 => ?_) (fun c1 => ?_)
  · have h := h.1 c1
    exact w_X11_isKind_13 C  h hw (lv_sub hl [] rfl)
  · have h := h.2 c1
    refine lv_iload_n hx hb dX11_isKind_4 rfl (lv_at hl 0 rfl) ?_
    refine lv_iconst (v := 4) hx hb dX11_isKind_5 (by decide) ?_
    refine lv_icmp_ge (tgt := 13) hx hb dX11_isKind_6 (by decide) (fun c6 => ?_) (fun c6 => ?_)
    · have h := h.1 c6
      exact w_X11_isKind_13 C  h hw (lv_sub hl [] rfl)
    · have h := h.2 c6
      refine lv_iconst (v := 1) hx hb dX11_isKind_9 (by decide) ?_
      refine lv_goto (tgt := 14) hx hb dX11_isKind_10 (by decide) ?_
      exact g_zret C hw (by decide) h dX11_isKind_14
theorem m_X11_isKind {l : Launch} {a0 : Int32} {Q : Int32 → MI → MJ → Prop} {I : MI} {J : MJ} (h : P_X11_isKind a0 I J Q) : Met l yX11_isKind (xws yX11_isKind cX11_isKind 1 (some .boolean)) rmX11_isKind (va_Pc [.int a0] (gB (xS ad cy) 66 ad cy D (xF ad ts) I J)) (gQz (xS ad cy) 66 ad cy D (xF ad ts) Q) 0 0 (gA 66 ad) :=
  g_met (xF_ok ad ts) rfl (by decide) (Nat.le_of_ble_eq_true rfl) (fun p e s m below meth c ls C hw hl => w_X11_isKind C  h hw hl)
/-! BagPhrases$Lexicon.close(I)Z -/
def P_X5_close (k : Nat) (a0 : Int32) (I : MI) (J : MJ) (Q : Int32 → MI → MJ → Prop) : Prop :=
  ((((I k 4) - (1 : Int32)) < 0 → Q (0 : Int32) I J) ∧ (¬ ((I k 4) - (1 : Int32)) < 0 → vp_in ((I k 4) - (1 : Int32)) 10 ∧ (((¬ (I (k + 2) ((I k 4) - (1 : Int32)).toNatClampNeg) = 0 → vp_in ((I k 4) - (1 : Int32)) 10 ∧ (∀ I28 : MI, I28 = mI I (k + 1) ((I k 4) - (1 : Int32)).toNatClampNeg a0 → Q (1 : Int32) I28 J)) ∧ ((I (k + 2) ((I k 4) - (1 : Int32)).toNatClampNeg) = 0 → Q (0 : Int32) I J)))))
abbrev rmX5_close : Room := { frames := 0, cells := 0, slots := 0, locals := 0 }
set_option maxHeartbeats 4000000 in
set_option maxRecDepth 100000 in
theorem w_X5_close {Q : Int32 → MI → MJ → Prop} (C : gC RX5 cX5_close 3 (some .boolean) 66 ad cy D (xF ad ts) p s m args meth c) {k : Nat} (hk : isLex k) {a0 : Int32} {I : MI} {J : MJ} {H : Heap} {locs : List Loc} {ls : Array Slot} (h : P_X5_close k a0 I J Q) (hw : gH (xS ad cy) 66 ad D s I J H locs) (hl : lv_has ls 3 [(0, .ref (ad k)), (1, .int a0)]) : W p l e rmX5_close s m args below meth c H locs 0 0 (MQ below (gQz (xS ad cy) 66 ad cy D (xF ad ts) Q) args s 0 0 (gA 66 ad)) (F0 m 0 ls []) := by
  obtain ⟨hx, hb, hC⟩ := id C
  refine lv_aload_n hx hb dX5_close_0 rfl (lv_at hl 0 rfl) ?_
  refine g_get C hw f_RX5_25 (xl_Lex0 hk) ((xs_Lex0 hk) _ _) rfl dX5_close_1 ?_
  refine lv_iconst (v := 1) hx hb dX5_close_4 (by decide) ?_
  refine lv_isub hx hb dX5_close_5 ?_
  refine lv_istore_n (lv' := [(2, .int ((I k 4) - (1 : Int32))), (0, .ref (ad k)), (1, .int a0)]) hx hb dX5_close_6 rfl hl (by decide) rfl (fun ls hl => ?_)
  refine lv_iload_n hx hb dX5_close_7 rfl (lv_at hl 0 rfl) ?_
  refine lv_if_lt (tgt := 20) hx hb dX5_close_8 (by decide) (fun c8 => ?_) (fun c8 => ?_)
  · have h := h.1 c8
    refine lv_iconst (v := 0) hx hb dX5_close_20 (by decide) ?_
    exact g_zret C hw (by decide) h dX5_close_21
  · have h := h.2 c8
    refine lv_aload_n hx hb dX5_close_11 rfl (lv_at hl 1 rfl) ?_
    refine g_get C hw f_RX5_15 (xl_Lex0 hk) ((xs_Lex0 hk) _ _) rfl dX5_close_12 ?_
    refine lv_iload_n hx hb dX5_close_15 rfl (lv_at hl 0 rfl) ?_
    refine g_iald C hw (xl_Lex2 hk) (xs_Lex2 hk) h.1 dX5_close_16 ?_
    have h := h.2
    refine lv_if_ne (tgt := 22) hx hb dX5_close_17 (by decide) (fun c17 => ?_) (fun c17 => ?_)
    · have h := h.1 c17
      refine lv_aload_n hx hb dX5_close_22 rfl (lv_at hl 1 rfl) ?_
      refine g_get C hw f_RX5_9 (xl_Lex0 hk) ((xs_Lex0 hk) _ _) rfl dX5_close_23 ?_
      refine lv_iload_n hx hb dX5_close_26 rfl (lv_at hl 0 rfl) ?_
      refine lv_iload_n hx hb dX5_close_27 rfl (lv_at hl 2 rfl) ?_
      refine g_iast C hw (xl_Lex1 hk) (xs_Lex1 hk) h.1 dX5_close_28 (fun H locs hw => ?_)
      have h := h.2
      obtain ⟨I28, e28⟩ : ∃ z : MI, z = mI I (k + 1) ((I k 4) - (1 : Int32)).toNatClampNeg a0 := ⟨_, rfl⟩
      have h := h I28 e28
      rw [← e28] at hw
      refine lv_iconst (v := 1) hx hb dX5_close_29 (by decide) ?_
      exact g_zret C hw (by decide) h dX5_close_30
    · have h := h.2 c17
      refine lv_iconst (v := 0) hx hb dX5_close_20 (by decide) ?_
      exact g_zret C hw (by decide) h dX5_close_21
theorem m_X5_close {l : Launch} {k : Nat} (hk : isLex k) {a0 : Int32} {Q : Int32 → MI → MJ → Prop} {I : MI} {J : MJ} (h : P_X5_close k a0 I J Q) : Met l yX5_close (xws yX5_close cX5_close 3 (some .boolean)) rmX5_close (va_Pc [.ref (ad k), .int a0] (gB (xS ad cy) 66 ad cy D (xF ad ts) I J)) (gQz (xS ad cy) 66 ad cy D (xF ad ts) Q) 0 0 (gA 66 ad) :=
  g_met (xF_ok ad ts) rfl (by decide) (Nat.le_of_ble_eq_true rfl) (fun p e s m below meth c ls C hw hl => w_X5_close C hk h hw hl)
/-! BagPhrases$Reader.readsSpelling(I)Z -/
def P_X7_readsSpelling_58 (Q : Int32 → MI → MJ → Prop) (I : MI) (J : MJ) : Prop :=
  Q (0 : Int32) I J
def P_X7_readsSpelling (a0 : Int32) (I : MI) (J : MJ) (Q : Int32 → MI → MJ → Prop) : Prop :=
  P_X11_isLetter (a0 - (97 : Int32)) I J (fun r4 I4 J4 => ((r4 = 0 → P_X11_isKind (a0 - (65 : Int32)) I4 J4 (fun r26 I26 J26 => ((r26 = 0 → P_X7_readsSpelling_58 Q I26 J26) ∧ (¬ r26 = 0 → P_X5_close 3 (a0 - (65 : Int32)) I26 J26 (fun r40 I40 J40 => ((r40 = 0 → P_X7_readsSpelling_58 Q I40 J40) ∧ (¬ r40 = 0 → P_X7_awaits (2 : Int32) I40 J40 (fun r48 I48 J48 => ((r48 = 0 → P_X7_readsSpelling_58 Q I48 J48) ∧ (¬ r48 = 0 → Q (1 : Int32) I48 J48)))))))))) ∧ (¬ r4 = 0 → P_X5_spell 3 (a0 - (97 : Int32)) I4 J4 (fun r18 I18 J18 => Q r18 I18 J18))))
abbrev rmX7_readsSpelling : Room := { frames := 1, cells := 0, slots := 0, locals := 22 }
set_option maxHeartbeats 4000000 in
set_option maxRecDepth 100000 in
theorem w_X7_readsSpelling_58 {Q : Int32 → MI → MJ → Prop} (C : gC RX7 cX7_readsSpelling 2 (some .boolean) 66 ad cy D (xF ad ts) p s m args meth c) {I : MI} {J : MJ} {H : Heap} {locs : List Loc} {ls : Array Slot} (h : P_X7_readsSpelling_58 Q I J) (hw : gH (xS ad cy) 66 ad D s I J H locs) (hl : lv_has ls 2 []) : W p l e rmX7_readsSpelling s m args below meth c H locs 0 0 (MQ below (gQz (xS ad cy) 66 ad cy D (xF ad ts) Q) args s 0 0 (gA 66 ad)) (F0 m 58 ls []) := by
  obtain ⟨hx, hb, hC⟩ := id C
  refine lv_iconst (v := 0) hx hb dX7_readsSpelling_58 (by decide) ?_
  exact g_zret C hw (by decide) h dX7_readsSpelling_59
set_option maxHeartbeats 4000000 in
set_option maxRecDepth 100000 in
theorem w_X7_readsSpelling {Q : Int32 → MI → MJ → Prop} (C : gC RX7 cX7_readsSpelling 2 (some .boolean) 66 ad cy D (xF ad ts) p s m args meth c) {a0 : Int32} {I : MI} {J : MJ} {H : Heap} {locs : List Loc} {ls : Array Slot} (h : P_X7_readsSpelling a0 I J Q) (hw : gH (xS ad cy) 66 ad D s I J H locs) (hl : lv_has ls 2 [(0, .ref (ad 1)), (1, .int a0)]) : W p l e rmX7_readsSpelling s m args below meth c H locs 0 0 (MQ below (gQz (xS ad cy) 66 ad cy D (xF ad ts) Q) args s 0 0 (gA 66 ad)) (F0 m 0 ls []) := by
  obtain ⟨hx, hb, hC⟩ := id C
  refine lv_iload_n hx hb dX7_readsSpelling_0 rfl (lv_at hl 1 rfl) ?_
  refine lv_bipush (v := 97) hx hb dX7_readsSpelling_1 (by decide) ?_
  refine lv_isub hx hb dX7_readsSpelling_3 ?_
  refine g_cz hw (g_rN [.int (a0 - (97 : Int32))] [] C hw (m_X11_isLetter h) k_X11_isLetter hC.2.2.2.2.2.2.1.1.2.2.1 rfl hl.1 rfl (Nat.le_of_ble_eq_true rfl) ⟨⟨rfl, rfl⟩, Nat.le_of_ble_eq_true rfl, Nat.le_of_ble_eq_true rfl⟩ ⟨Nat.zero_le _, Nat.zero_le _⟩ dX7_readsSpelling_4) (fun r4 I4 J4 H locs z4 h hw => ?_)
  refine lv_if_eq (tgt := 22) hx hb dX7_readsSpelling_7 (by decide) (fun c7 => ?_) (fun c7 => ?_)
  · have h := h.1 c7
    refine lv_iload_n hx hb dX7_readsSpelling_22 rfl (lv_at hl 1 rfl) ?_
    refine lv_bipush (v := 65) hx hb dX7_readsSpelling_23 (by decide) ?_
    refine lv_isub hx hb dX7_readsSpelling_25 ?_
    refine g_cz hw (g_rN [.int (a0 - (65 : Int32))] [] C hw (m_X11_isKind h) k_X11_isKind hC.2.2.2.2.2.2.1.1.2.2.2.1 rfl hl.1 rfl (Nat.le_of_ble_eq_true rfl) ⟨⟨rfl, rfl⟩, Nat.le_of_ble_eq_true rfl, Nat.le_of_ble_eq_true rfl⟩ ⟨Nat.zero_le _, Nat.zero_le _⟩ dX7_readsSpelling_26) (fun r26 I26 J26 H locs z26 h hw => ?_)
    refine lv_if_eq (tgt := 58) hx hb dX7_readsSpelling_29 (by decide) (fun c29 => ?_) (fun c29 => ?_)
    · have h := h.1 c29
      exact w_X7_readsSpelling_58 C  h hw (lv_sub hl [] rfl)
    · have h := h.2 c29
      refine lv_aload_n hx hb dX7_readsSpelling_32 rfl (lv_at hl 0 rfl) ?_
      refine g_get C hw f_RX7_18 xl_1 (xs_1 _ _) rfl dX7_readsSpelling_33 ?_
      refine lv_iload_n hx hb dX7_readsSpelling_36 rfl (lv_at hl 1 rfl) ?_
      refine lv_bipush (v := 65) hx hb dX7_readsSpelling_37 (by decide) ?_
      refine lv_isub hx hb dX7_readsSpelling_39 ?_
      refine g_cz hw (g_rV [.int (a0 - (65 : Int32))] [] C hw (m_X5_close isLex_3 h) k_X5_close q_RX7_101 xl_3 (xs_3 _ _) rfl rfl hl.1 rfl (Nat.le_of_ble_eq_true rfl) ⟨⟨rfl, rfl⟩, Nat.le_of_ble_eq_true rfl, Nat.le_of_ble_eq_true rfl⟩ ⟨Nat.zero_le _, Nat.zero_le _⟩ dX7_readsSpelling_40) (fun r40 I40 J40 H locs z40 h hw => ?_)
      refine lv_if_eq (tgt := 58) hx hb dX7_readsSpelling_43 (by decide) (fun c43 => ?_) (fun c43 => ?_)
      · have h := h.1 c43
        exact w_X7_readsSpelling_58 C  h hw (lv_sub hl [] rfl)
      · have h := h.2 c43
        refine lv_aload_n hx hb dX7_readsSpelling_46 rfl (lv_at hl 0 rfl) ?_
        refine lv_iconst (v := 2) hx hb dX7_readsSpelling_47 (by decide) ?_
        refine g_cz hw (g_rV [.int (2 : Int32)] [] C hw (m_X7_awaits h) k_X7_awaits q_RX7_85 xl_1 (xs_1 _ _) rfl rfl hl.1 rfl (Nat.le_of_ble_eq_true rfl) ⟨⟨rfl, rfl⟩, Nat.le_of_ble_eq_true rfl, Nat.le_of_ble_eq_true rfl⟩ ⟨Nat.zero_le _, Nat.zero_le _⟩ dX7_readsSpelling_48) (fun r48 I48 J48 H locs z48 h hw => ?_)
        refine lv_if_eq (tgt := 58) hx hb dX7_readsSpelling_51 (by decide) (fun c51 => ?_) (fun c51 => ?_)
        · have h := h.1 c51
          exact w_X7_readsSpelling_58 C  h hw (lv_sub hl [] rfl)
        · have h := h.2 c51
          refine lv_iconst (v := 1) hx hb dX7_readsSpelling_54 (by decide) ?_
          refine lv_goto (tgt := 59) hx hb dX7_readsSpelling_55 (by decide) ?_
          exact g_zret C hw (by decide) h dX7_readsSpelling_59
  · have h := h.2 c7
    refine lv_aload_n hx hb dX7_readsSpelling_10 rfl (lv_at hl 0 rfl) ?_
    refine g_get C hw f_RX7_18 xl_1 (xs_1 _ _) rfl dX7_readsSpelling_11 ?_
    refine lv_iload_n hx hb dX7_readsSpelling_14 rfl (lv_at hl 1 rfl) ?_
    refine lv_bipush (v := 97) hx hb dX7_readsSpelling_15 (by decide) ?_
    refine lv_isub hx hb dX7_readsSpelling_17 ?_
    refine g_cz hw (g_rV [.int (a0 - (97 : Int32))] [] C hw (m_X5_spell isLex_3 h) k_X5_spell q_RX7_95 xl_3 (xs_3 _ _) rfl rfl hl.1 rfl (Nat.le_of_ble_eq_true rfl) ⟨⟨rfl, rfl⟩, Nat.le_of_ble_eq_true rfl, Nat.le_of_ble_eq_true rfl⟩ ⟨Nat.zero_le _, Nat.zero_le _⟩ dX7_readsSpelling_18) (fun r18 I18 J18 H locs z18 h hw => ?_)
    exact g_zret C hw z18 h dX7_readsSpelling_21
theorem m_X7_readsSpelling {l : Launch} {a0 : Int32} {Q : Int32 → MI → MJ → Prop} {I : MI} {J : MJ} (h : P_X7_readsSpelling a0 I J Q) : Met l yX7_readsSpelling (xws yX7_readsSpelling cX7_readsSpelling 2 (some .boolean)) rmX7_readsSpelling (va_Pc [.ref (ad 1), .int a0] (gB (xS ad cy) 66 ad cy D (xF ad ts) I J)) (gQz (xS ad cy) 66 ad cy D (xF ad ts) Q) 0 0 (gA 66 ad) :=
  g_met (xF_ok ad ts) rfl (by decide) (Nat.le_of_ble_eq_true rfl) (fun p e s m below meth c ls C hw hl => w_X7_readsSpelling C  h hw hl)
/-! BagPhrases$Setting.change(III)V -/
def P_X8_change (k : Nat) (a0 : Int32) (a1 : Int32) (a2 : Int32) (I : MI) (J : MJ) (Q : MI → MJ → Prop) : Prop :=
  ((a0 = 0 → vp_in a1 8 ∧ (vp_in a1 8 ∧ (∀ I49 : MI, I49 = mI I (k + 1) a1.toNatClampNeg ((I (k + 1) a1.toNatClampNeg) + (1 : Int32)) → Q I49 J))) ∧ (¬ a0 = 0 → ((a0 = 1 → vp_in a1 8 ∧ (vp_in a1 8 ∧ (∀ I62 : MI, I62 = mI I (k + 1) a1.toNatClampNeg ((I (k + 1) a1.toNatClampNeg) - (1 : Int32)) → Q I62 J))) ∧ (¬ a0 = 1 → ((a0 = 2 → (∀ I75 : MI, I75 = mI I k 5 ((I k 5) ^^^ ((1 : Int32) <<< (a1 &&& 31))) → Q I75 J)) ∧ (¬ a0 = 2 → ((a0 = 3 → vp_in a1 10 ∧ (∀ I87 : MI, I87 = mI I (k + 2) a1.toNatClampNeg a2 → Q I87 J)) ∧ (¬ a0 = 3 → ((a0 = 4 → (∀ I100 : MI, I100 = mI I k 3 ((I k 3) ^^^ ((1 : Int32) <<< (a1 &&& 31))) → Q I100 J)) ∧ (¬ a0 = 4 → ((a0 = 5 → (∀ I115 : MI, I115 = mI I k 4 ((I k 4) ^^^ ((1 : Int32) <<< (a1 &&& 31))) → Q I115 J)) ∧ (¬ a0 = 5 → vp_in a1 4 ∧ (vp_in a1 4 ∧ (∀ I132 : MI, I132 = mI I (k + 3) a1.toNatClampNeg ((I (k + 3) a1.toNatClampNeg) ^^^ ((1 : Int32) <<< (a2 &&& 31))) → Q I132 J))))))))))))))
abbrev rmX8_change : Room := { frames := 0, cells := 0, slots := 0, locals := 0 }
set_option maxHeartbeats 4000000 in
set_option maxRecDepth 100000 in
theorem w_X8_change {Q : MI → MJ → Prop} (C : gC RX8 cX8_change 4 none 66 ad cy D (xF ad ts) p s m args meth c) {k : Nat} (hk : isSet k) {a0 : Int32} {a1 : Int32} {a2 : Int32} {I : MI} {J : MJ} {H : Heap} {locs : List Loc} {ls : Array Slot} (h : P_X8_change k a0 a1 a2 I J Q) (hw : gH (xS ad cy) 66 ad D s I J H locs) (hl : lv_has ls 4 [(0, .ref (ad k)), (1, .int a0), (2, .int a1), (3, .int a2)]) : W p l e rmX8_change s m args below meth c H locs 0 0 (MQ below (gQv (xS ad cy) 66 ad cy D (xF ad ts) Q) args s 0 0 (gA 66 ad)) (F0 m 0 ls []) := by
  obtain ⟨hx, hb, hC⟩ := id C
  refine lv_iload_n hx hb dX8_change_0 rfl (lv_at hl 1 rfl) ?_
  rcases Classical.em (a0 = 0) with c1_0 | c1_0
  · have h := h.1 c1_0
    refine lv_tableIn (off := 39) (tgt := 40) hx hb dX8_change_1 (by rw [c1_0]; decide) (by rw [c1_0]; decide) (by rw [c1_0]; rfl) (by decide) ?_
    refine lv_aload_n hx hb dX8_change_40 rfl (lv_at hl 0 rfl) ?_
    refine g_get C hw f_RX8_9 (xl_Set0 hk) ((xs_Set0 hk) _ _) rfl dX8_change_41 ?_
    refine lv_iload_n hx hb dX8_change_44 rfl (lv_at hl 2 rfl) ?_
    refine lv_dup2_11 hx hb dX8_change_45 rfl rfl ?_
    refine g_iald C hw (xl_Set1 hk) (xs_Set1 hk) h.1 dX8_change_46 ?_
    have h := h.2
    refine lv_iconst (v := 1) hx hb dX8_change_47 (by decide) ?_
    refine lv_iadd hx hb dX8_change_48 ?_
    refine g_iast C hw (xl_Set1 hk) (xs_Set1 hk) h.1 dX8_change_49 (fun H locs hw => ?_)
    have h := h.2
    obtain ⟨I49, e49⟩ : ∃ z : MI, z = mI I (k + 1) a1.toNatClampNeg ((I (k + 1) a1.toNatClampNeg) + (1 : Int32)) := ⟨_, rfl⟩
    have h := h I49 e49
    rw [← e49] at hw
    refine lv_goto (tgt := 133) hx hb dX8_change_50 (by decide) ?_
    exact g_vret C hw h dX8_change_133
  have h := h.2 c1_0
  rcases Classical.em (a0 = 1) with c1_1 | c1_1
  · have h := h.1 c1_1
    refine lv_tableIn (off := 52) (tgt := 53) hx hb dX8_change_1 (by rw [c1_1]; decide) (by rw [c1_1]; decide) (by rw [c1_1]; rfl) (by decide) ?_
    refine lv_aload_n hx hb dX8_change_53 rfl (lv_at hl 0 rfl) ?_
    refine g_get C hw f_RX8_9 (xl_Set0 hk) ((xs_Set0 hk) _ _) rfl dX8_change_54 ?_
    refine lv_iload_n hx hb dX8_change_57 rfl (lv_at hl 2 rfl) ?_
    refine lv_dup2_11 hx hb dX8_change_58 rfl rfl ?_
    refine g_iald C hw (xl_Set1 hk) (xs_Set1 hk) h.1 dX8_change_59 ?_
    have h := h.2
    refine lv_iconst (v := 1) hx hb dX8_change_60 (by decide) ?_
    refine lv_isub hx hb dX8_change_61 ?_
    refine g_iast C hw (xl_Set1 hk) (xs_Set1 hk) h.1 dX8_change_62 (fun H locs hw => ?_)
    have h := h.2
    obtain ⟨I62, e62⟩ : ∃ z : MI, z = mI I (k + 1) a1.toNatClampNeg ((I (k + 1) a1.toNatClampNeg) - (1 : Int32)) := ⟨_, rfl⟩
    have h := h I62 e62
    rw [← e62] at hw
    refine lv_goto (tgt := 133) hx hb dX8_change_63 (by decide) ?_
    exact g_vret C hw h dX8_change_133
  have h := h.2 c1_1
  rcases Classical.em (a0 = 2) with c1_2 | c1_2
  · have h := h.1 c1_2
    refine lv_tableIn (off := 65) (tgt := 66) hx hb dX8_change_1 (by rw [c1_2]; decide) (by rw [c1_2]; decide) (by rw [c1_2]; rfl) (by decide) ?_
    refine lv_aload_n hx hb dX8_change_66 rfl (lv_at hl 0 rfl) ?_
    refine lv_dup hx hb dX8_change_67 rfl ?_
    refine g_get C hw f_RX8_28 (xl_Set0 hk) ((xs_Set0 hk) _ _) rfl dX8_change_68 ?_
    refine lv_iconst (v := 1) hx hb dX8_change_71 (by decide) ?_
    refine lv_iload_n hx hb dX8_change_72 rfl (lv_at hl 2 rfl) ?_
    refine lv_ishl hx hb dX8_change_73 ?_
    refine lv_ixor hx hb dX8_change_74 ?_
    refine g_putI C hw fp_RX8_28 (xl_Set0 hk) (xs_Set0 hk) (st_8_5 ad _ _) (Nat.le_of_ble_eq_true rfl) rfl rfl dX8_change_75 (fun H locs hw => ?_)
    obtain ⟨I75, e75⟩ : ∃ z : MI, z = mI I k 5 ((I k 5) ^^^ ((1 : Int32) <<< (a1 &&& 31))) := ⟨_, rfl⟩
    have h := h I75 e75
    rw [← e75] at hw
    refine lv_goto (tgt := 133) hx hb dX8_change_78 (by decide) ?_
    exact g_vret C hw h dX8_change_133
  have h := h.2 c1_2
  rcases Classical.em (a0 = 3) with c1_3 | c1_3
  · have h := h.1 c1_3
    refine lv_tableIn (off := 80) (tgt := 81) hx hb dX8_change_1 (by rw [c1_3]; decide) (by rw [c1_3]; decide) (by rw [c1_3]; rfl) (by decide) ?_
    refine lv_aload_n hx hb dX8_change_81 rfl (lv_at hl 0 rfl) ?_
    refine g_get C hw f_RX8_15 (xl_Set0 hk) ((xs_Set0 hk) _ _) rfl dX8_change_82 ?_
    refine lv_iload_n hx hb dX8_change_85 rfl (lv_at hl 2 rfl) ?_
    refine lv_iload_n hx hb dX8_change_86 rfl (lv_at hl 3 rfl) ?_
    refine g_iast C hw (xl_Set2 hk) (xs_Set2 hk) h.1 dX8_change_87 (fun H locs hw => ?_)
    have h := h.2
    obtain ⟨I87, e87⟩ : ∃ z : MI, z = mI I (k + 2) a1.toNatClampNeg a2 := ⟨_, rfl⟩
    have h := h I87 e87
    rw [← e87] at hw
    refine lv_goto (tgt := 133) hx hb dX8_change_88 (by decide) ?_
    exact g_vret C hw h dX8_change_133
  have h := h.2 c1_3
  rcases Classical.em (a0 = 4) with c1_4 | c1_4
  · have h := h.1 c1_4
    refine lv_tableIn (off := 90) (tgt := 91) hx hb dX8_change_1 (by rw [c1_4]; decide) (by rw [c1_4]; decide) (by rw [c1_4]; rfl) (by decide) ?_
    refine lv_aload_n hx hb dX8_change_91 rfl (lv_at hl 0 rfl) ?_
    refine lv_dup hx hb dX8_change_92 rfl ?_
    refine g_get C hw f_RX8_21 (xl_Set0 hk) ((xs_Set0 hk) _ _) rfl dX8_change_93 ?_
    refine lv_iconst (v := 1) hx hb dX8_change_96 (by decide) ?_
    refine lv_iload_n hx hb dX8_change_97 rfl (lv_at hl 2 rfl) ?_
    refine lv_ishl hx hb dX8_change_98 ?_
    refine lv_ixor hx hb dX8_change_99 ?_
    refine g_putI C hw fp_RX8_21 (xl_Set0 hk) (xs_Set0 hk) (st_8_3 ad _ _) (Nat.le_of_ble_eq_true rfl) rfl rfl dX8_change_100 (fun H locs hw => ?_)
    obtain ⟨I100, e100⟩ : ∃ z : MI, z = mI I k 3 ((I k 3) ^^^ ((1 : Int32) <<< (a1 &&& 31))) := ⟨_, rfl⟩
    have h := h I100 e100
    rw [← e100] at hw
    refine lv_goto (tgt := 133) hx hb dX8_change_103 (by decide) ?_
    exact g_vret C hw h dX8_change_133
  have h := h.2 c1_4
  rcases Classical.em (a0 = 5) with c1_5 | c1_5
  · have h := h.1 c1_5
    refine lv_tableIn (off := 105) (tgt := 106) hx hb dX8_change_1 (by rw [c1_5]; decide) (by rw [c1_5]; decide) (by rw [c1_5]; rfl) (by decide) ?_
    refine lv_aload_n hx hb dX8_change_106 rfl (lv_at hl 0 rfl) ?_
    refine lv_dup hx hb dX8_change_107 rfl ?_
    refine g_get C hw f_RX8_25 (xl_Set0 hk) ((xs_Set0 hk) _ _) rfl dX8_change_108 ?_
    refine lv_iconst (v := 1) hx hb dX8_change_111 (by decide) ?_
    refine lv_iload_n hx hb dX8_change_112 rfl (lv_at hl 2 rfl) ?_
    refine lv_ishl hx hb dX8_change_113 ?_
    refine lv_ixor hx hb dX8_change_114 ?_
    refine g_putI C hw fp_RX8_25 (xl_Set0 hk) (xs_Set0 hk) (st_8_4 ad _ _) (Nat.le_of_ble_eq_true rfl) rfl rfl dX8_change_115 (fun H locs hw => ?_)
    obtain ⟨I115, e115⟩ : ∃ z : MI, z = mI I k 4 ((I k 4) ^^^ ((1 : Int32) <<< (a1 &&& 31))) := ⟨_, rfl⟩
    have h := h I115 e115
    rw [← e115] at hw
    refine lv_goto (tgt := 133) hx hb dX8_change_118 (by decide) ?_
    exact g_vret C hw h dX8_change_133
  have h := h.2 c1_5
  refine lv_tableOut (tgt := 121) hx hb dX8_change_1 (by have hs0 := toInt_ne c1_0 (show (0 : Int32).toInt = 0 from by decide); have hs1 := toInt_ne c1_1 (show (1 : Int32).toInt = 1 from by decide); have hs2 := toInt_ne c1_2 (show (2 : Int32).toInt = 2 from by decide); have hs3 := toInt_ne c1_3 (show (3 : Int32).toInt = 3 from by decide); have hs4 := toInt_ne c1_4 (show (4 : Int32).toInt = 4 from by decide); have hs5 := toInt_ne c1_5 (show (5 : Int32).toInt = 5 from by decide); omega) (by decide) ?_
  refine lv_aload_n hx hb dX8_change_121 rfl (lv_at hl 0 rfl) ?_
  refine g_get C hw f_RX8_18 (xl_Set0 hk) ((xs_Set0 hk) _ _) rfl dX8_change_122 ?_
  refine lv_iload_n hx hb dX8_change_125 rfl (lv_at hl 2 rfl) ?_
  refine lv_dup2_11 hx hb dX8_change_126 rfl rfl ?_
  refine g_iald C hw (xl_Set3 hk) (xs_Set3 hk) h.1 dX8_change_127 ?_
  have h := h.2
  refine lv_iconst (v := 1) hx hb dX8_change_128 (by decide) ?_
  refine lv_iload_n hx hb dX8_change_129 rfl (lv_at hl 3 rfl) ?_
  refine lv_ishl hx hb dX8_change_130 ?_
  refine lv_ixor hx hb dX8_change_131 ?_
  refine g_iast C hw (xl_Set3 hk) (xs_Set3 hk) h.1 dX8_change_132 (fun H locs hw => ?_)
  have h := h.2
  obtain ⟨I132, e132⟩ : ∃ z : MI, z = mI I (k + 3) a1.toNatClampNeg ((I (k + 3) a1.toNatClampNeg) ^^^ ((1 : Int32) <<< (a2 &&& 31))) := ⟨_, rfl⟩
  have h := h I132 e132
  rw [← e132] at hw
  exact g_vret C hw h dX8_change_133
theorem m_X8_change {l : Launch} {k : Nat} (hk : isSet k) {a0 : Int32} {a1 : Int32} {a2 : Int32} {Q : MI → MJ → Prop} {I : MI} {J : MJ} (h : P_X8_change k a0 a1 a2 I J Q) : Met l yX8_change (xws yX8_change cX8_change 4 none) rmX8_change (va_Pc [.ref (ad k), .int a0, .int a1, .int a2] (gB (xS ad cy) 66 ad cy D (xF ad ts) I J)) (gQv (xS ad cy) 66 ad cy D (xF ad ts) Q) 0 0 (gA 66 ad) :=
  g_met (xF_ok ad ts) rfl (by decide) (Nat.le_of_ble_eq_true rfl) (fun p e s m below meth c ls C hw hl => w_X8_change C hk h hw hl)
/-! BagPhrases$Reader.turned(III)Z -/
def P_X7_turned (a0 : Int32) (a1 : Int32) (a2 : Int32) (I : MI) (J : MJ) (Q : Int32 → MI → MJ → Prop) : Prop :=
  P_X8_change 8 a0 a1 a2 I J (fun I7 J7 => P_X7_awaits (0 : Int32) I7 J7 (fun r12 I12 J12 => Q r12 I12 J12))
abbrev rmX7_turned : Room := { frames := 1, cells := 0, slots := 0, locals := 23 }
set_option maxHeartbeats 4000000 in
set_option maxRecDepth 100000 in
theorem w_X7_turned {Q : Int32 → MI → MJ → Prop} (C : gC RX7 cX7_turned 4 (some .boolean) 66 ad cy D (xF ad ts) p s m args meth c) {a0 : Int32} {a1 : Int32} {a2 : Int32} {I : MI} {J : MJ} {H : Heap} {locs : List Loc} {ls : Array Slot} (h : P_X7_turned a0 a1 a2 I J Q) (hw : gH (xS ad cy) 66 ad D s I J H locs) (hl : lv_has ls 4 [(0, .ref (ad 1)), (1, .int a0), (2, .int a1), (3, .int a2)]) : W p l e rmX7_turned s m args below meth c H locs 0 0 (MQ below (gQz (xS ad cy) 66 ad cy D (xF ad ts) Q) args s 0 0 (gA 66 ad)) (F0 m 0 ls []) := by
  obtain ⟨hx, hb, hC⟩ := id C
  refine lv_aload_n hx hb dX7_turned_0 rfl (lv_at hl 0 rfl) ?_
  refine g_get C hw f_RX7_25 xl_1 (xs_1 _ _) rfl dX7_turned_1 ?_
  refine lv_iload_n hx hb dX7_turned_4 rfl (lv_at hl 1 rfl) ?_
  refine lv_iload_n hx hb dX7_turned_5 rfl (lv_at hl 2 rfl) ?_
  refine lv_iload_n hx hb dX7_turned_6 rfl (lv_at hl 3 rfl) ?_
  refine g_cv hw (g_rV [.int a0, .int a1, .int a2] [] C hw (m_X8_change isSet_8 h) k_X8_change q_RX7_104 xl_8 (xs_8 _ _) rfl rfl hl.1 rfl (Nat.le_of_ble_eq_true rfl) ⟨⟨rfl, rfl⟩, Nat.le_of_ble_eq_true rfl, Nat.le_of_ble_eq_true rfl⟩ ⟨Nat.zero_le _, Nat.zero_le _⟩ dX7_turned_7) (fun I7 J7 H locs h hw => ?_)
  refine lv_aload_n hx hb dX7_turned_10 rfl (lv_at hl 0 rfl) ?_
  refine lv_iconst (v := 0) hx hb dX7_turned_11 (by decide) ?_
  refine g_cz hw (g_rV [.int (0 : Int32)] [] C hw (m_X7_awaits h) k_X7_awaits q_RX7_85 xl_1 (xs_1 _ _) rfl rfl hl.1 rfl (Nat.le_of_ble_eq_true rfl) ⟨⟨rfl, rfl⟩, Nat.le_of_ble_eq_true rfl, Nat.le_of_ble_eq_true rfl⟩ ⟨Nat.zero_le _, Nat.zero_le _⟩ dX7_turned_12) (fun r12 I12 J12 H locs z12 h hw => ?_)
  exact g_zret C hw z12 h dX7_turned_15
theorem m_X7_turned {l : Launch} {a0 : Int32} {a1 : Int32} {a2 : Int32} {Q : Int32 → MI → MJ → Prop} {I : MI} {J : MJ} (h : P_X7_turned a0 a1 a2 I J Q) : Met l yX7_turned (xws yX7_turned cX7_turned 4 (some .boolean)) rmX7_turned (va_Pc [.ref (ad 1), .int a0, .int a1, .int a2] (gB (xS ad cy) 66 ad cy D (xF ad ts) I J)) (gQz (xS ad cy) 66 ad cy D (xF ad ts) Q) 0 0 (gA 66 ad) :=
  g_met (xF_ok ad ts) rfl (by decide) (Nat.le_of_ble_eq_true rfl) (fun p e s m below meth c ls C hw hl => w_X7_turned C  h hw hl)
/-! BagPhrases$Reader.readsRank(I)Z -/
def P_X7_readsRank_43 (Q : Int32 → MI → MJ → Prop) (I : MI) (J : MJ) : Prop :=
  Q (0 : Int32) I J
def P_X7_readsRank (a0 : Int32) (I : MI) (J : MJ) (Q : Int32 → MI → MJ → Prop) : Prop :=
  ((a0 < (48 : Int32) → P_X7_readsRank_43 Q I J) ∧ (¬ a0 < (48 : Int32) → (((57 : Int32) < a0 → P_X7_readsRank_43 Q I J) ∧ (¬ (57 : Int32) < a0 → ((((I 3 4) - (1 : Int32)) < 0 → P_X7_readsRank_43 Q I J) ∧ (¬ ((I 3 4) - (1 : Int32)) < 0 → P_X7_turned (3 : Int32) ((I 3 4) - (1 : Int32)) (a0 - (48 : Int32)) I J (fun r33 I33 J33 => ((r33 = 0 → P_X7_readsRank_43 Q I33 J33) ∧ (¬ r33 = 0 → Q (1 : Int32) I33 J33)))))))))
abbrev rmX7_readsRank : Room := { frames := 2, cells := 0, slots := 0, locals := 46 }
set_option maxHeartbeats 4000000 in
set_option maxRecDepth 100000 in
theorem w_X7_readsRank_43 {Q : Int32 → MI → MJ → Prop} (C : gC RX7 cX7_readsRank 3 (some .boolean) 66 ad cy D (xF ad ts) p s m args meth c) {I : MI} {J : MJ} {H : Heap} {locs : List Loc} {ls : Array Slot} (h : P_X7_readsRank_43 Q I J) (hw : gH (xS ad cy) 66 ad D s I J H locs) (hl : lv_has ls 3 []) : W p l e rmX7_readsRank s m args below meth c H locs 0 0 (MQ below (gQz (xS ad cy) 66 ad cy D (xF ad ts) Q) args s 0 0 (gA 66 ad)) (F0 m 43 ls []) := by
  obtain ⟨hx, hb, hC⟩ := id C
  refine lv_iconst (v := 0) hx hb dX7_readsRank_43 (by decide) ?_
  exact g_zret C hw (by decide) h dX7_readsRank_44
set_option maxHeartbeats 4000000 in
set_option maxRecDepth 100000 in
theorem w_X7_readsRank {Q : Int32 → MI → MJ → Prop} (C : gC RX7 cX7_readsRank 3 (some .boolean) 66 ad cy D (xF ad ts) p s m args meth c) {a0 : Int32} {I : MI} {J : MJ} {H : Heap} {locs : List Loc} {ls : Array Slot} (h : P_X7_readsRank a0 I J Q) (hw : gH (xS ad cy) 66 ad D s I J H locs) (hl : lv_has ls 3 [(0, .ref (ad 1)), (1, .int a0)]) : W p l e rmX7_readsRank s m args below meth c H locs 0 0 (MQ below (gQz (xS ad cy) 66 ad cy D (xF ad ts) Q) args s 0 0 (gA 66 ad)) (F0 m 0 ls []) := by
  obtain ⟨hx, hb, hC⟩ := id C
  refine lv_aload_n hx hb dX7_readsRank_0 rfl (lv_at hl 0 rfl) ?_
  refine g_get C hw f_RX7_18 xl_1 (xs_1 _ _) rfl dX7_readsRank_1 ?_
  refine g_get C hw f_RX7_39 xl_3 (xs_3 _ _) rfl dX7_readsRank_4 ?_
  refine lv_iconst (v := 1) hx hb dX7_readsRank_7 (by decide) ?_
  refine lv_isub hx hb dX7_readsRank_8 ?_
  refine lv_istore_n (lv' := [(2, .int ((I 3 4) - (1 : Int32))), (0, .ref (ad 1)), (1, .int a0)]) hx hb dX7_readsRank_9 rfl hl (by decide) rfl (fun ls hl => ?_)
  refine lv_iload_n hx hb dX7_readsRank_10 rfl (lv_at hl 2 rfl) ?_
  refine lv_bipush (v := 48) hx hb dX7_readsRank_11 (by decide) ?_
  refine lv_icmp_lt (tgt := 43) hx hb dX7_readsRank_13 (by decide) (fun c13 => ?_) (fun c13 => ?_)
  · have h := h.1 c13
    exact w_X7_readsRank_43 C  h hw (lv_sub hl [] rfl)
  · have h := h.2 c13
    refine lv_iload_n hx hb dX7_readsRank_16 rfl (lv_at hl 2 rfl) ?_
    refine lv_bipush (v := 57) hx hb dX7_readsRank_17 (by decide) ?_
    refine lv_icmp_gt (tgt := 43) hx hb dX7_readsRank_19 (by decide) (fun c19 => ?_) (fun c19 => ?_)
    · have h := h.1 c19
      exact w_X7_readsRank_43 C  h hw (lv_sub hl [] rfl)
    · have h := h.2 c19
      refine lv_iload_n hx hb dX7_readsRank_22 rfl (lv_at hl 0 rfl) ?_
      refine lv_if_lt (tgt := 43) hx hb dX7_readsRank_23 (by decide) (fun c23 => ?_) (fun c23 => ?_)
      · have h := h.1 c23
        exact w_X7_readsRank_43 C  h hw (lv_sub hl [] rfl)
      · have h := h.2 c23
        refine lv_aload_n hx hb dX7_readsRank_26 rfl (lv_at hl 1 rfl) ?_
        refine lv_iconst (v := 3) hx hb dX7_readsRank_27 (by decide) ?_
        refine lv_iload_n hx hb dX7_readsRank_28 rfl (lv_at hl 0 rfl) ?_
        refine lv_iload_n hx hb dX7_readsRank_29 rfl (lv_at hl 2 rfl) ?_
        refine lv_bipush (v := 48) hx hb dX7_readsRank_30 (by decide) ?_
        refine lv_isub hx hb dX7_readsRank_32 ?_
        refine g_cz hw (g_rV [.int (3 : Int32), .int ((I 3 4) - (1 : Int32)), .int (a0 - (48 : Int32))] [] C hw (m_X7_turned h) k_X7_turned q_RX7_61 xl_1 (xs_1 _ _) rfl rfl hl.1 rfl (Nat.le_of_ble_eq_true rfl) ⟨⟨rfl, rfl⟩, Nat.le_of_ble_eq_true rfl, Nat.le_of_ble_eq_true rfl⟩ ⟨Nat.zero_le _, Nat.zero_le _⟩ dX7_readsRank_33) (fun r33 I33 J33 H locs z33 h hw => ?_)
        refine lv_if_eq (tgt := 43) hx hb dX7_readsRank_36 (by decide) (fun c36 => ?_) (fun c36 => ?_)
        · have h := h.1 c36
          exact w_X7_readsRank_43 C  h hw (lv_sub hl [] rfl)
        · have h := h.2 c36
          refine lv_iconst (v := 1) hx hb dX7_readsRank_39 (by decide) ?_
          refine lv_goto (tgt := 44) hx hb dX7_readsRank_40 (by decide) ?_
          exact g_zret C hw (by decide) h dX7_readsRank_44
theorem m_X7_readsRank {l : Launch} {a0 : Int32} {Q : Int32 → MI → MJ → Prop} {I : MI} {J : MJ} (h : P_X7_readsRank a0 I J Q) : Met l yX7_readsRank (xws yX7_readsRank cX7_readsRank 3 (some .boolean)) rmX7_readsRank (va_Pc [.ref (ad 1), .int a0] (gB (xS ad cy) 66 ad cy D (xF ad ts) I J)) (gQz (xS ad cy) 66 ad cy D (xF ad ts) Q) 0 0 (gA 66 ad) :=
  g_met (xF_ok ad ts) rfl (by decide) (Nat.le_of_ble_eq_true rfl) (fun p e s m below meth c ls C hw hl => w_X7_readsRank C  h hw hl)
/-! BagPhrases$Reader.isFreeKind(II)Z -/
def P_X7_isFreeKind_25 (Q : Int32 → MI → MJ → Prop) (I : MI) (J : MJ) : Prop :=
  Q (0 : Int32) I J
def P_X7_isFreeKind (a0 : Int32) (a1 : Int32) (I : MI) (J : MJ) (Q : Int32 → MI → MJ → Prop) : Prop :=
  P_X11_isKind (a0 - (65 : Int32)) I J (fun r4 I4 J4 => ((r4 = 0 → P_X7_isFreeKind_25 Q I4 J4) ∧ (¬ r4 = 0 → ((¬ ((a1 >>> ((a0 - (65 : Int32)) &&& 31)) &&& (1 : Int32)) = 0 → P_X7_isFreeKind_25 Q I4 J4) ∧ (((a1 >>> ((a0 - (65 : Int32)) &&& 31)) &&& (1 : Int32)) = 0 → Q (1 : Int32) I4 J4)))))
abbrev rmX7_isFreeKind : Room := { frames := 1, cells := 0, slots := 0, locals := 20 }
set_option maxHeartbeats 4000000 in
set_option maxRecDepth 100000 in
theorem w_X7_isFreeKind_25 {Q : Int32 → MI → MJ → Prop} (C : gC RX7 cX7_isFreeKind 2 (some .boolean) 66 ad cy D (xF ad ts) p s m args meth c) {I : MI} {J : MJ} {H : Heap} {locs : List Loc} {ls : Array Slot} (h : P_X7_isFreeKind_25 Q I J) (hw : gH (xS ad cy) 66 ad D s I J H locs) (hl : lv_has ls 2 []) : W p l e rmX7_isFreeKind s m args below meth c H locs 0 0 (MQ below (gQz (xS ad cy) 66 ad cy D (xF ad ts) Q) args s 0 0 (gA 66 ad)) (F0 m 25 ls []) := by
  obtain ⟨hx, hb, hC⟩ := id C
  refine lv_iconst (v := 0) hx hb dX7_isFreeKind_25 (by decide) ?_
  exact g_zret C hw (by decide) h dX7_isFreeKind_26
set_option maxHeartbeats 4000000 in
set_option maxRecDepth 100000 in
theorem w_X7_isFreeKind {Q : Int32 → MI → MJ → Prop} (C : gC RX7 cX7_isFreeKind 2 (some .boolean) 66 ad cy D (xF ad ts) p s m args meth c) {a0 : Int32} {a1 : Int32} {I : MI} {J : MJ} {H : Heap} {locs : List Loc} {ls : Array Slot} (h : P_X7_isFreeKind a0 a1 I J Q) (hw : gH (xS ad cy) 66 ad D s I J H locs) (hl : lv_has ls 2 [(0, .int a0), (1, .int a1)]) : W p l e rmX7_isFreeKind s m args below meth c H locs 0 0 (MQ below (gQz (xS ad cy) 66 ad cy D (xF ad ts) Q) args s 0 0 (gA 66 ad)) (F0 m 0 ls []) := by
  obtain ⟨hx, hb, hC⟩ := id C
  refine lv_iload_n hx hb dX7_isFreeKind_0 rfl (lv_at hl 0 rfl) ?_
  refine lv_bipush (v := 65) hx hb dX7_isFreeKind_1 (by decide) ?_
  refine lv_isub hx hb dX7_isFreeKind_3 ?_
  refine g_cz hw (g_rN [.int (a0 - (65 : Int32))] [] C hw (m_X11_isKind h) k_X11_isKind hC.2.2.2.2.2.2.1.1.2.2.2.1 rfl hl.1 rfl (Nat.le_of_ble_eq_true rfl) ⟨⟨rfl, rfl⟩, Nat.le_of_ble_eq_true rfl, Nat.le_of_ble_eq_true rfl⟩ ⟨Nat.zero_le _, Nat.zero_le _⟩ dX7_isFreeKind_4) (fun r4 I4 J4 H locs z4 h hw => ?_)
  refine lv_if_eq (tgt := 25) hx hb dX7_isFreeKind_7 (by decide) (fun c7 => ?_) (fun c7 => ?_)
  · have h := h.1 c7
    exact w_X7_isFreeKind_25 C  h hw (lv_sub hl [] rfl)
  · have h := h.2 c7
    refine lv_iload_n hx hb dX7_isFreeKind_10 rfl (lv_at hl 1 rfl) ?_
    refine lv_iload_n hx hb dX7_isFreeKind_11 rfl (lv_at hl 0 rfl) ?_
    refine lv_bipush (v := 65) hx hb dX7_isFreeKind_12 (by decide) ?_
    refine lv_isub hx hb dX7_isFreeKind_14 ?_
    refine lv_ishr hx hb dX7_isFreeKind_15 ?_
    refine lv_iconst (v := 1) hx hb dX7_isFreeKind_16 (by decide) ?_
    refine lv_iand hx hb dX7_isFreeKind_17 ?_
    refine lv_if_ne (tgt := 25) hx hb dX7_isFreeKind_18 (by decide) (fun c18 => ?_) (fun c18 => ?_)
    · have h := h.1 c18
      exact w_X7_isFreeKind_25 C  h hw (lv_sub hl [] rfl)
    · have h := h.2 c18
      refine lv_iconst (v := 1) hx hb dX7_isFreeKind_21 (by decide) ?_
      refine lv_goto (tgt := 26) hx hb dX7_isFreeKind_22 (by decide) ?_
      exact g_zret C hw (by decide) h dX7_isFreeKind_26
theorem m_X7_isFreeKind {l : Launch} {a0 : Int32} {a1 : Int32} {Q : Int32 → MI → MJ → Prop} {I : MI} {J : MJ} (h : P_X7_isFreeKind a0 a1 I J Q) : Met l yX7_isFreeKind (xws yX7_isFreeKind cX7_isFreeKind 2 (some .boolean)) rmX7_isFreeKind (va_Pc [.int a0, .int a1] (gB (xS ad cy) 66 ad cy D (xF ad ts) I J)) (gQz (xS ad cy) 66 ad cy D (xF ad ts) Q) 0 0 (gA 66 ad) :=
  g_met (xF_ok ad ts) rfl (by decide) (Nat.le_of_ble_eq_true rfl) (fun p e s m below meth c ls C hw hl => w_X7_isFreeKind C  h hw hl)
/-! BagPhrases$Reader.readsLeader(I)Z -/
def P_X7_readsLeader (a0 : Int32) (I : MI) (J : MJ) (Q : Int32 → MI → MJ → Prop) : Prop :=
  P_X11_isKind (a0 - (65 : Int32)) I J (fun r4 I4 J4 => ((r4 = 0 → Q (0 : Int32) I4 J4) ∧ (¬ r4 = 0 → vp_in (a0 - (65 : Int32)) 4 ∧ (((¬ (I4 11 (a0 - (65 : Int32)).toNatClampNeg) = (15 : Int32) → (∀ I34 : MI, I34 = mI I4 1 5 (a0 - (65 : Int32)) → P_X7_awaits (7 : Int32) I34 J4 (fun r40 I40 J40 => Q r40 I40 J40))) ∧ ((I4 11 (a0 - (65 : Int32)).toNatClampNeg) = (15 : Int32) → Q (0 : Int32) I4 J4))))))
abbrev rmX7_readsLeader : Room := { frames := 1, cells := 0, slots := 0, locals := 21 }
set_option maxHeartbeats 4000000 in
set_option maxRecDepth 100000 in
theorem w_X7_readsLeader {Q : Int32 → MI → MJ → Prop} (C : gC RX7 cX7_readsLeader 2 (some .boolean) 66 ad cy D (xF ad ts) p s m args meth c) {a0 : Int32} {I : MI} {J : MJ} {H : Heap} {locs : List Loc} {ls : Array Slot} (h : P_X7_readsLeader a0 I J Q) (hw : gH (xS ad cy) 66 ad D s I J H locs) (hl : lv_has ls 2 [(0, .ref (ad 1)), (1, .int a0)]) : W p l e rmX7_readsLeader s m args below meth c H locs 0 0 (MQ below (gQz (xS ad cy) 66 ad cy D (xF ad ts) Q) args s 0 0 (gA 66 ad)) (F0 m 0 ls []) := by
  obtain ⟨hx, hb, hC⟩ := id C
  refine lv_iload_n hx hb dX7_readsLeader_0 rfl (lv_at hl 1 rfl) ?_
  refine lv_bipush (v := 65) hx hb dX7_readsLeader_1 (by decide) ?_
  refine lv_isub hx hb dX7_readsLeader_3 ?_
  refine g_cz hw (g_rN [.int (a0 - (65 : Int32))] [] C hw (m_X11_isKind h) k_X11_isKind hC.2.2.2.2.2.2.1.1.2.2.2.1 rfl hl.1 rfl (Nat.le_of_ble_eq_true rfl) ⟨⟨rfl, rfl⟩, Nat.le_of_ble_eq_true rfl, Nat.le_of_ble_eq_true rfl⟩ ⟨Nat.zero_le _, Nat.zero_le _⟩ dX7_readsLeader_4) (fun r4 I4 J4 H locs z4 h hw => ?_)
  refine lv_if_eq (tgt := 27) hx hb dX7_readsLeader_7 (by decide) (fun c7 => ?_) (fun c7 => ?_)
  · have h := h.1 c7
    refine lv_iconst (v := 0) hx hb dX7_readsLeader_27 (by decide) ?_
    exact g_zret C hw (by decide) h dX7_readsLeader_28
  · have h := h.2 c7
    refine lv_aload_n hx hb dX7_readsLeader_10 rfl (lv_at hl 0 rfl) ?_
    refine g_get C hw f_RX7_25 xl_1 (xs_1 _ _) rfl dX7_readsLeader_11 ?_
    refine g_get C hw f_RX7_78 xl_8 (xs_8 _ _) rfl dX7_readsLeader_14 ?_
    refine lv_iload_n hx hb dX7_readsLeader_17 rfl (lv_at hl 1 rfl) ?_
    refine lv_bipush (v := 65) hx hb dX7_readsLeader_18 (by decide) ?_
    refine lv_isub hx hb dX7_readsLeader_20 ?_
    refine g_iald C hw xl_11 xs_11 h.1 dX7_readsLeader_21 ?_
    have h := h.2
    refine lv_bipush (v := 15) hx hb dX7_readsLeader_22 (by decide) ?_
    refine lv_icmp_ne (tgt := 29) hx hb dX7_readsLeader_24 (by decide) (fun c24 => ?_) (fun c24 => ?_)
    · have h := h.1 c24
      refine lv_aload_n hx hb dX7_readsLeader_29 rfl (lv_at hl 0 rfl) ?_
      refine lv_iload_n hx hb dX7_readsLeader_30 rfl (lv_at hl 1 rfl) ?_
      refine lv_bipush (v := 65) hx hb dX7_readsLeader_31 (by decide) ?_
      refine lv_isub hx hb dX7_readsLeader_33 ?_
      refine g_putI C hw fp_RX7_36 xl_1 xs_1 (st_7_5 ad _) (Nat.le_of_ble_eq_true rfl) rfl rfl dX7_readsLeader_34 (fun H locs hw => ?_)
      obtain ⟨I34, e34⟩ : ∃ z : MI, z = mI I4 1 5 (a0 - (65 : Int32)) := ⟨_, rfl⟩
      have h := h I34 e34
      rw [← e34] at hw
      refine lv_aload_n hx hb dX7_readsLeader_37 rfl (lv_at hl 0 rfl) ?_
      refine lv_bipush (v := 7) hx hb dX7_readsLeader_38 (by decide) ?_
      refine g_cz hw (g_rV [.int (7 : Int32)] [] C hw (m_X7_awaits h) k_X7_awaits q_RX7_85 xl_1 (xs_1 _ _) rfl rfl hl.1 rfl (Nat.le_of_ble_eq_true rfl) ⟨⟨rfl, rfl⟩, Nat.le_of_ble_eq_true rfl, Nat.le_of_ble_eq_true rfl⟩ ⟨Nat.zero_le _, Nat.zero_le _⟩ dX7_readsLeader_40) (fun r40 I40 J40 H locs z40 h hw => ?_)
      exact g_zret C hw z40 h dX7_readsLeader_43
    · have h := h.2 c24
      refine lv_iconst (v := 0) hx hb dX7_readsLeader_27 (by decide) ?_
      exact g_zret C hw (by decide) h dX7_readsLeader_28
theorem m_X7_readsLeader {l : Launch} {a0 : Int32} {Q : Int32 → MI → MJ → Prop} {I : MI} {J : MJ} (h : P_X7_readsLeader a0 I J Q) : Met l yX7_readsLeader (xws yX7_readsLeader cX7_readsLeader 2 (some .boolean)) rmX7_readsLeader (va_Pc [.ref (ad 1), .int a0] (gB (xS ad cy) 66 ad cy D (xF ad ts) I J)) (gQz (xS ad cy) 66 ad cy D (xF ad ts) Q) 0 0 (gA 66 ad) :=
  g_met (xF_ok ad ts) rfl (by decide) (Nat.le_of_ble_eq_true rfl) (fun p e s m below meth c ls C hw hl => w_X7_readsLeader C  h hw hl)
/-! BagPhrases$Reader.reads(I)Z -/
def P_X7_reads_207 (Q : Int32 → MI → MJ → Prop) (I : MI) (J : MJ) : Prop :=
  Q (0 : Int32) I J
def P_X7_reads_159 (Q : Int32 → MI → MJ → Prop) (I : MI) (J : MJ) : Prop :=
  Q (0 : Int32) I J
def P_X7_reads_126 (Q : Int32 → MI → MJ → Prop) (I : MI) (J : MJ) : Prop :=
  Q (0 : Int32) I J
def P_X7_reads_93 (Q : Int32 → MI → MJ → Prop) (I : MI) (J : MJ) : Prop :=
  Q (0 : Int32) I J
def P_X7_reads (a0 : Int32) (I : MI) (J : MJ) (Q : Int32 → MI → MJ → Prop) : Prop :=
  (((I 1 4) = 0 → P_X7_readsHead a0 I J (fun r50 I50 J50 => Q r50 I50 J50)) ∧ (¬ (I 1 4) = 0 → (((I 1 4) = 1 → P_X7_readsSpelling a0 I J (fun r56 I56 J56 => Q r56 I56 J56)) ∧ (¬ (I 1 4) = 1 → (((I 1 4) = 2 → P_X7_readsRank a0 I J (fun r62 I62 J62 => Q r62 I62 J62)) ∧ (¬ (I 1 4) = 2 → (((I 1 4) = 3 → P_X11_isLetter (a0 - (97 : Int32)) I J (fun r70 I70 J70 => ((r70 = 0 → P_X7_reads_93 Q I70 J70) ∧ (¬ r70 = 0 → P_X7_turned (0 : Int32) (a0 - (97 : Int32)) (0 : Int32) I70 J70 (fun r83 I83 J83 => ((r83 = 0 → P_X7_reads_93 Q I83 J83) ∧ (¬ r83 = 0 → Q (1 : Int32) I83 J83))))))) ∧ (¬ (I 1 4) = 3 → (((I 1 4) = 4 → P_X7_isFreeKind a0 (I 8 3) I J (fun r103 I103 J103 => ((r103 = 0 → P_X7_reads_126 Q I103 J103) ∧ (¬ r103 = 0 → P_X7_turned (4 : Int32) (a0 - (65 : Int32)) (0 : Int32) I103 J103 (fun r116 I116 J116 => ((r116 = 0 → P_X7_reads_126 Q I116 J116) ∧ (¬ r116 = 0 → Q (1 : Int32) I116 J116))))))) ∧ (¬ (I 1 4) = 4 → (((I 1 4) = 5 → P_X7_isFreeKind a0 (I 8 4) I J (fun r136 I136 J136 => ((r136 = 0 → P_X7_reads_159 Q I136 J136) ∧ (¬ r136 = 0 → P_X7_turned (5 : Int32) (a0 - (65 : Int32)) (0 : Int32) I136 J136 (fun r149 I149 J149 => ((r149 = 0 → P_X7_reads_159 Q I149 J149) ∧ (¬ r149 = 0 → Q (1 : Int32) I149 J149))))))) ∧ (¬ (I 1 4) = 5 → (((I 1 4) = 6 → P_X7_readsLeader a0 I J (fun r163 I163 J163 => Q r163 I163 J163)) ∧ (¬ (I 1 4) = 6 → vp_in (I 1 5) 4 ∧ (P_X7_isFreeKind a0 (I 11 (I 1 5).toNatClampNeg) I J (fun r180 I180 J180 => ((r180 = 0 → P_X7_reads_207 Q I180 J180) ∧ (¬ r180 = 0 → P_X7_turned (6 : Int32) (I180 1 5) (a0 - (65 : Int32)) I180 J180 (fun r197 I197 J197 => ((r197 = 0 → P_X7_reads_207 Q I197 J197) ∧ (¬ r197 = 0 → Q (1 : Int32) I197 J197)))))))))))))))))))))
abbrev rmX7_reads : Room := { frames := 3, cells := 0, slots := 0, locals := 68 }
set_option maxHeartbeats 4000000 in
set_option maxRecDepth 100000 in
theorem w_X7_reads_207 {Q : Int32 → MI → MJ → Prop} (C : gC RX7 cX7_reads 2 (some .boolean) 66 ad cy D (xF ad ts) p s m args meth c) {I : MI} {J : MJ} {H : Heap} {locs : List Loc} {ls : Array Slot} (h : P_X7_reads_207 Q I J) (hw : gH (xS ad cy) 66 ad D s I J H locs) (hl : lv_has ls 2 []) : W p l e rmX7_reads s m args below meth c H locs 0 0 (MQ below (gQz (xS ad cy) 66 ad cy D (xF ad ts) Q) args s 0 0 (gA 66 ad)) (F0 m 207 ls []) := by
  obtain ⟨hx, hb, hC⟩ := id C
  refine lv_iconst (v := 0) hx hb dX7_reads_207 (by decide) ?_
  exact g_zret C hw (by decide) h dX7_reads_208
set_option maxHeartbeats 4000000 in
set_option maxRecDepth 100000 in
theorem w_X7_reads_159 {Q : Int32 → MI → MJ → Prop} (C : gC RX7 cX7_reads 2 (some .boolean) 66 ad cy D (xF ad ts) p s m args meth c) {I : MI} {J : MJ} {H : Heap} {locs : List Loc} {ls : Array Slot} (h : P_X7_reads_159 Q I J) (hw : gH (xS ad cy) 66 ad D s I J H locs) (hl : lv_has ls 2 []) : W p l e rmX7_reads s m args below meth c H locs 0 0 (MQ below (gQz (xS ad cy) 66 ad cy D (xF ad ts) Q) args s 0 0 (gA 66 ad)) (F0 m 159 ls []) := by
  obtain ⟨hx, hb, hC⟩ := id C
  refine lv_iconst (v := 0) hx hb dX7_reads_159 (by decide) ?_
  exact g_zret C hw (by decide) h dX7_reads_160
set_option maxHeartbeats 4000000 in
set_option maxRecDepth 100000 in
theorem w_X7_reads_126 {Q : Int32 → MI → MJ → Prop} (C : gC RX7 cX7_reads 2 (some .boolean) 66 ad cy D (xF ad ts) p s m args meth c) {I : MI} {J : MJ} {H : Heap} {locs : List Loc} {ls : Array Slot} (h : P_X7_reads_126 Q I J) (hw : gH (xS ad cy) 66 ad D s I J H locs) (hl : lv_has ls 2 []) : W p l e rmX7_reads s m args below meth c H locs 0 0 (MQ below (gQz (xS ad cy) 66 ad cy D (xF ad ts) Q) args s 0 0 (gA 66 ad)) (F0 m 126 ls []) := by
  obtain ⟨hx, hb, hC⟩ := id C
  refine lv_iconst (v := 0) hx hb dX7_reads_126 (by decide) ?_
  exact g_zret C hw (by decide) h dX7_reads_127
set_option maxHeartbeats 4000000 in
set_option maxRecDepth 100000 in
theorem w_X7_reads_93 {Q : Int32 → MI → MJ → Prop} (C : gC RX7 cX7_reads 2 (some .boolean) 66 ad cy D (xF ad ts) p s m args meth c) {I : MI} {J : MJ} {H : Heap} {locs : List Loc} {ls : Array Slot} (h : P_X7_reads_93 Q I J) (hw : gH (xS ad cy) 66 ad D s I J H locs) (hl : lv_has ls 2 []) : W p l e rmX7_reads s m args below meth c H locs 0 0 (MQ below (gQz (xS ad cy) 66 ad cy D (xF ad ts) Q) args s 0 0 (gA 66 ad)) (F0 m 93 ls []) := by
  obtain ⟨hx, hb, hC⟩ := id C
  refine lv_iconst (v := 0) hx hb dX7_reads_93 (by decide) ?_
  exact g_zret C hw (by decide) h dX7_reads_94
set_option maxHeartbeats 4000000 in
set_option maxRecDepth 100000 in
theorem w_X7_reads {Q : Int32 → MI → MJ → Prop} (C : gC RX7 cX7_reads 2 (some .boolean) 66 ad cy D (xF ad ts) p s m args meth c) {a0 : Int32} {I : MI} {J : MJ} {H : Heap} {locs : List Loc} {ls : Array Slot} (h : P_X7_reads a0 I J Q) (hw : gH (xS ad cy) 66 ad D s I J H locs) (hl : lv_has ls 2 [(0, .ref (ad 1)), (1, .int a0)]) : W p l e rmX7_reads s m args below meth c H locs 0 0 (MQ below (gQz (xS ad cy) 66 ad cy D (xF ad ts) Q) args s 0 0 (gA 66 ad)) (F0 m 0 ls []) := by
  obtain ⟨hx, hb, hC⟩ := id C
  refine lv_aload_n hx hb dX7_reads_0 rfl (lv_at hl 0 rfl) ?_
  refine g_get C hw f_RX7_33 xl_1 (xs_1 _ _) rfl dX7_reads_1 ?_
  rcases Classical.em ((I 1 4) = 0) with c4_0 | c4_0
  · have h := h.1 c4_0
    refine lv_tableIn (off := 44) (tgt := 48) hx hb dX7_reads_4 (by rw [c4_0]; decide) (by rw [c4_0]; decide) (by rw [c4_0]; rfl) (by decide) ?_
    refine lv_aload_n hx hb dX7_reads_48 rfl (lv_at hl 0 rfl) ?_
    refine lv_iload_n hx hb dX7_reads_49 rfl (lv_at hl 1 rfl) ?_
    refine g_cz hw (g_rV [.int a0] [] C hw (m_X7_readsHead h) k_X7_readsHead q_RX7_49 xl_1 (xs_1 _ _) rfl rfl hl.1 rfl (Nat.le_of_ble_eq_true rfl) ⟨⟨rfl, rfl⟩, Nat.le_of_ble_eq_true rfl, Nat.le_of_ble_eq_true rfl⟩ ⟨Nat.zero_le _, Nat.zero_le _⟩ dX7_reads_50) (fun r50 I50 J50 H locs z50 h hw => ?_)
    exact g_zret C hw z50 h dX7_reads_53
  have h := h.2 c4_0
  rcases Classical.em ((I 1 4) = 1) with c4_1 | c4_1
  · have h := h.1 c4_1
    refine lv_tableIn (off := 50) (tgt := 54) hx hb dX7_reads_4 (by rw [c4_1]; decide) (by rw [c4_1]; decide) (by rw [c4_1]; rfl) (by decide) ?_
    refine lv_aload_n hx hb dX7_reads_54 rfl (lv_at hl 0 rfl) ?_
    refine lv_iload_n hx hb dX7_reads_55 rfl (lv_at hl 1 rfl) ?_
    refine g_cz hw (g_rV [.int a0] [] C hw (m_X7_readsSpelling h) k_X7_readsSpelling q_RX7_52 xl_1 (xs_1 _ _) rfl rfl hl.1 rfl (Nat.le_of_ble_eq_true rfl) ⟨⟨rfl, rfl⟩, Nat.le_of_ble_eq_true rfl, Nat.le_of_ble_eq_true rfl⟩ ⟨Nat.zero_le _, Nat.zero_le _⟩ dX7_reads_56) (fun r56 I56 J56 H locs z56 h hw => ?_)
    exact g_zret C hw z56 h dX7_reads_59
  have h := h.2 c4_1
  rcases Classical.em ((I 1 4) = 2) with c4_2 | c4_2
  · have h := h.1 c4_2
    refine lv_tableIn (off := 56) (tgt := 60) hx hb dX7_reads_4 (by rw [c4_2]; decide) (by rw [c4_2]; decide) (by rw [c4_2]; rfl) (by decide) ?_
    refine lv_aload_n hx hb dX7_reads_60 rfl (lv_at hl 0 rfl) ?_
    refine lv_iload_n hx hb dX7_reads_61 rfl (lv_at hl 1 rfl) ?_
    refine g_cz hw (g_rV [.int a0] [] C hw (m_X7_readsRank h) k_X7_readsRank q_RX7_55 xl_1 (xs_1 _ _) rfl rfl hl.1 rfl (Nat.le_of_ble_eq_true rfl) ⟨⟨rfl, rfl⟩, Nat.le_of_ble_eq_true rfl, Nat.le_of_ble_eq_true rfl⟩ ⟨Nat.zero_le _, Nat.zero_le _⟩ dX7_reads_62) (fun r62 I62 J62 H locs z62 h hw => ?_)
    exact g_zret C hw z62 h dX7_reads_65
  have h := h.2 c4_2
  rcases Classical.em ((I 1 4) = 3) with c4_3 | c4_3
  · have h := h.1 c4_3
    refine lv_tableIn (off := 62) (tgt := 66) hx hb dX7_reads_4 (by rw [c4_3]; decide) (by rw [c4_3]; decide) (by rw [c4_3]; rfl) (by decide) ?_
    refine lv_iload_n hx hb dX7_reads_66 rfl (lv_at hl 1 rfl) ?_
    refine lv_bipush (v := 97) hx hb dX7_reads_67 (by decide) ?_
    refine lv_isub hx hb dX7_reads_69 ?_
    refine g_cz hw (g_rN [.int (a0 - (97 : Int32))] [] C hw (m_X11_isLetter h) k_X11_isLetter hC.2.2.2.2.2.2.1.1.2.2.1 rfl hl.1 rfl (Nat.le_of_ble_eq_true rfl) ⟨⟨rfl, rfl⟩, Nat.le_of_ble_eq_true rfl, Nat.le_of_ble_eq_true rfl⟩ ⟨Nat.zero_le _, Nat.zero_le _⟩ dX7_reads_70) (fun r70 I70 J70 H locs z70 h hw => ?_)
    refine lv_if_eq (tgt := 93) hx hb dX7_reads_73 (by decide) (fun c73 => ?_) (fun c73 => ?_)
    · have h := h.1 c73
      exact w_X7_reads_93 C  h hw (lv_sub hl [] rfl)
    · have h := h.2 c73
      refine lv_aload_n hx hb dX7_reads_76 rfl (lv_at hl 0 rfl) ?_
      refine lv_iconst (v := 0) hx hb dX7_reads_77 (by decide) ?_
      refine lv_iload_n hx hb dX7_reads_78 rfl (lv_at hl 1 rfl) ?_
      refine lv_bipush (v := 97) hx hb dX7_reads_79 (by decide) ?_
      refine lv_isub hx hb dX7_reads_81 ?_
      refine lv_iconst (v := 0) hx hb dX7_reads_82 (by decide) ?_
      refine g_cz hw (g_rV [.int (0 : Int32), .int (a0 - (97 : Int32)), .int (0 : Int32)] [] C hw (m_X7_turned h) k_X7_turned q_RX7_61 xl_1 (xs_1 _ _) rfl rfl hl.1 rfl (Nat.le_of_ble_eq_true rfl) ⟨⟨rfl, rfl⟩, Nat.le_of_ble_eq_true rfl, Nat.le_of_ble_eq_true rfl⟩ ⟨Nat.zero_le _, Nat.zero_le _⟩ dX7_reads_83) (fun r83 I83 J83 H locs z83 h hw => ?_)
      refine lv_if_eq (tgt := 93) hx hb dX7_reads_86 (by decide) (fun c86 => ?_) (fun c86 => ?_)
      · have h := h.1 c86
        exact w_X7_reads_93 C  h hw (lv_sub hl [] rfl)
      · have h := h.2 c86
        refine lv_iconst (v := 1) hx hb dX7_reads_89 (by decide) ?_
        refine lv_goto (tgt := 94) hx hb dX7_reads_90 (by decide) ?_
        exact g_zret C hw (by decide) h dX7_reads_94
  have h := h.2 c4_3
  rcases Classical.em ((I 1 4) = 4) with c4_4 | c4_4
  · have h := h.1 c4_4
    refine lv_tableIn (off := 91) (tgt := 95) hx hb dX7_reads_4 (by rw [c4_4]; decide) (by rw [c4_4]; decide) (by rw [c4_4]; rfl) (by decide) ?_
    refine lv_iload_n hx hb dX7_reads_95 rfl (lv_at hl 1 rfl) ?_
    refine lv_aload_n hx hb dX7_reads_96 rfl (lv_at hl 0 rfl) ?_
    refine g_get C hw f_RX7_25 xl_1 (xs_1 _ _) rfl dX7_reads_97 ?_
    refine g_get C hw f_RX7_65 xl_8 (xs_8 _ _) rfl dX7_reads_100 ?_
    refine g_cz hw (g_rS [.int a0, .int (I 8 3)] [] C hw (m_X7_isFreeKind h) k_X7_isFreeKind q_RX7_68 rfl hl.1 rfl (Nat.le_of_ble_eq_true rfl) ⟨⟨rfl, rfl⟩, Nat.le_of_ble_eq_true rfl, Nat.le_of_ble_eq_true rfl⟩ ⟨Nat.zero_le _, Nat.zero_le _⟩ dX7_reads_103) (fun r103 I103 J103 H locs z103 h hw => ?_)
    refine lv_if_eq (tgt := 126) hx hb dX7_reads_106 (by decide) (fun c106 => ?_) (fun c106 => ?_)
    · have h := h.1 c106
      exact w_X7_reads_126 C  h hw (lv_sub hl [] rfl)
    · have h := h.2 c106
      refine lv_aload_n hx hb dX7_reads_109 rfl (lv_at hl 0 rfl) ?_
      refine lv_iconst (v := 4) hx hb dX7_reads_110 (by decide) ?_
      refine lv_iload_n hx hb dX7_reads_111 rfl (lv_at hl 1 rfl) ?_
      refine lv_bipush (v := 65) hx hb dX7_reads_112 (by decide) ?_
      refine lv_isub hx hb dX7_reads_114 ?_
      refine lv_iconst (v := 0) hx hb dX7_reads_115 (by decide) ?_
      refine g_cz hw (g_rV [.int (4 : Int32), .int (a0 - (65 : Int32)), .int (0 : Int32)] [] C hw (m_X7_turned h) k_X7_turned q_RX7_61 xl_1 (xs_1 _ _) rfl rfl hl.1 rfl (Nat.le_of_ble_eq_true rfl) ⟨⟨rfl, rfl⟩, Nat.le_of_ble_eq_true rfl, Nat.le_of_ble_eq_true rfl⟩ ⟨Nat.zero_le _, Nat.zero_le _⟩ dX7_reads_116) (fun r116 I116 J116 H locs z116 h hw => ?_)
      refine lv_if_eq (tgt := 126) hx hb dX7_reads_119 (by decide) (fun c119 => ?_) (fun c119 => ?_)
      · have h := h.1 c119
        exact w_X7_reads_126 C  h hw (lv_sub hl [] rfl)
      · have h := h.2 c119
        refine lv_iconst (v := 1) hx hb dX7_reads_122 (by decide) ?_
        refine lv_goto (tgt := 127) hx hb dX7_reads_123 (by decide) ?_
        exact g_zret C hw (by decide) h dX7_reads_127
  have h := h.2 c4_4
  rcases Classical.em ((I 1 4) = 5) with c4_5 | c4_5
  · have h := h.1 c4_5
    refine lv_tableIn (off := 124) (tgt := 128) hx hb dX7_reads_4 (by rw [c4_5]; decide) (by rw [c4_5]; decide) (by rw [c4_5]; rfl) (by decide) ?_
    refine lv_iload_n hx hb dX7_reads_128 rfl (lv_at hl 1 rfl) ?_
    refine lv_aload_n hx hb dX7_reads_129 rfl (lv_at hl 0 rfl) ?_
    refine g_get C hw f_RX7_25 xl_1 (xs_1 _ _) rfl dX7_reads_130 ?_
    refine g_get C hw f_RX7_72 xl_8 (xs_8 _ _) rfl dX7_reads_133 ?_
    refine g_cz hw (g_rS [.int a0, .int (I 8 4)] [] C hw (m_X7_isFreeKind h) k_X7_isFreeKind q_RX7_68 rfl hl.1 rfl (Nat.le_of_ble_eq_true rfl) ⟨⟨rfl, rfl⟩, Nat.le_of_ble_eq_true rfl, Nat.le_of_ble_eq_true rfl⟩ ⟨Nat.zero_le _, Nat.zero_le _⟩ dX7_reads_136) (fun r136 I136 J136 H locs z136 h hw => ?_)
    refine lv_if_eq (tgt := 159) hx hb dX7_reads_139 (by decide) (fun c139 => ?_) (fun c139 => ?_)
    · have h := h.1 c139
      exact w_X7_reads_159 C  h hw (lv_sub hl [] rfl)
    · have h := h.2 c139
      refine lv_aload_n hx hb dX7_reads_142 rfl (lv_at hl 0 rfl) ?_
      refine lv_iconst (v := 5) hx hb dX7_reads_143 (by decide) ?_
      refine lv_iload_n hx hb dX7_reads_144 rfl (lv_at hl 1 rfl) ?_
      refine lv_bipush (v := 65) hx hb dX7_reads_145 (by decide) ?_
      refine lv_isub hx hb dX7_reads_147 ?_
      refine lv_iconst (v := 0) hx hb dX7_reads_148 (by decide) ?_
      refine g_cz hw (g_rV [.int (5 : Int32), .int (a0 - (65 : Int32)), .int (0 : Int32)] [] C hw (m_X7_turned h) k_X7_turned q_RX7_61 xl_1 (xs_1 _ _) rfl rfl hl.1 rfl (Nat.le_of_ble_eq_true rfl) ⟨⟨rfl, rfl⟩, Nat.le_of_ble_eq_true rfl, Nat.le_of_ble_eq_true rfl⟩ ⟨Nat.zero_le _, Nat.zero_le _⟩ dX7_reads_149) (fun r149 I149 J149 H locs z149 h hw => ?_)
      refine lv_if_eq (tgt := 159) hx hb dX7_reads_152 (by decide) (fun c152 => ?_) (fun c152 => ?_)
      · have h := h.1 c152
        exact w_X7_reads_159 C  h hw (lv_sub hl [] rfl)
      · have h := h.2 c152
        refine lv_iconst (v := 1) hx hb dX7_reads_155 (by decide) ?_
        refine lv_goto (tgt := 160) hx hb dX7_reads_156 (by decide) ?_
        exact g_zret C hw (by decide) h dX7_reads_160
  have h := h.2 c4_5
  rcases Classical.em ((I 1 4) = 6) with c4_6 | c4_6
  · have h := h.1 c4_6
    refine lv_tableIn (off := 157) (tgt := 161) hx hb dX7_reads_4 (by rw [c4_6]; decide) (by rw [c4_6]; decide) (by rw [c4_6]; rfl) (by decide) ?_
    refine lv_aload_n hx hb dX7_reads_161 rfl (lv_at hl 0 rfl) ?_
    refine lv_iload_n hx hb dX7_reads_162 rfl (lv_at hl 1 rfl) ?_
    refine g_cz hw (g_rV [.int a0] [] C hw (m_X7_readsLeader h) k_X7_readsLeader q_RX7_75 xl_1 (xs_1 _ _) rfl rfl hl.1 rfl (Nat.le_of_ble_eq_true rfl) ⟨⟨rfl, rfl⟩, Nat.le_of_ble_eq_true rfl, Nat.le_of_ble_eq_true rfl⟩ ⟨Nat.zero_le _, Nat.zero_le _⟩ dX7_reads_163) (fun r163 I163 J163 H locs z163 h hw => ?_)
    exact g_zret C hw z163 h dX7_reads_166
  have h := h.2 c4_6
  refine lv_tableOut (tgt := 167) hx hb dX7_reads_4 (by have hs0 := toInt_ne c4_0 (show (0 : Int32).toInt = 0 from by decide); have hs1 := toInt_ne c4_1 (show (1 : Int32).toInt = 1 from by decide); have hs2 := toInt_ne c4_2 (show (2 : Int32).toInt = 2 from by decide); have hs3 := toInt_ne c4_3 (show (3 : Int32).toInt = 3 from by decide); have hs4 := toInt_ne c4_4 (show (4 : Int32).toInt = 4 from by decide); have hs5 := toInt_ne c4_5 (show (5 : Int32).toInt = 5 from by decide); have hs6 := toInt_ne c4_6 (show (6 : Int32).toInt = 6 from by decide); omega) (by decide) ?_
  refine lv_iload_n hx hb dX7_reads_167 rfl (lv_at hl 1 rfl) ?_
  refine lv_aload_n hx hb dX7_reads_168 rfl (lv_at hl 0 rfl) ?_
  refine g_get C hw f_RX7_25 xl_1 (xs_1 _ _) rfl dX7_reads_169 ?_
  refine g_get C hw f_RX7_78 xl_8 (xs_8 _ _) rfl dX7_reads_172 ?_
  refine lv_aload_n hx hb dX7_reads_175 rfl (lv_at hl 0 rfl) ?_
  refine g_get C hw f_RX7_36 xl_1 (xs_1 _ _) rfl dX7_reads_176 ?_
  refine g_iald C hw xl_11 xs_11 h.1 dX7_reads_179 ?_
  have h := h.2
  refine g_cz hw (g_rS [.int a0, .int (I 11 (I 1 5).toNatClampNeg)] [] C hw (m_X7_isFreeKind h) k_X7_isFreeKind q_RX7_68 rfl hl.1 rfl (Nat.le_of_ble_eq_true rfl) ⟨⟨rfl, rfl⟩, Nat.le_of_ble_eq_true rfl, Nat.le_of_ble_eq_true rfl⟩ ⟨Nat.zero_le _, Nat.zero_le _⟩ dX7_reads_180) (fun r180 I180 J180 H locs z180 h hw => ?_)
  refine lv_if_eq (tgt := 207) hx hb dX7_reads_183 (by decide) (fun c183 => ?_) (fun c183 => ?_)
  · have h := h.1 c183
    exact w_X7_reads_207 C  h hw (lv_sub hl [] rfl)
  · have h := h.2 c183
    refine lv_aload_n hx hb dX7_reads_186 rfl (lv_at hl 0 rfl) ?_
    refine lv_bipush (v := 6) hx hb dX7_reads_187 (by decide) ?_
    refine lv_aload_n hx hb dX7_reads_189 rfl (lv_at hl 0 rfl) ?_
    refine g_get C hw f_RX7_36 xl_1 (xs_1 _ _) rfl dX7_reads_190 ?_
    refine lv_iload_n hx hb dX7_reads_193 rfl (lv_at hl 1 rfl) ?_
    refine lv_bipush (v := 65) hx hb dX7_reads_194 (by decide) ?_
    refine lv_isub hx hb dX7_reads_196 ?_
    refine g_cz hw (g_rV [.int (6 : Int32), .int (I180 1 5), .int (a0 - (65 : Int32))] [] C hw (m_X7_turned h) k_X7_turned q_RX7_61 xl_1 (xs_1 _ _) rfl rfl hl.1 rfl (Nat.le_of_ble_eq_true rfl) ⟨⟨rfl, rfl⟩, Nat.le_of_ble_eq_true rfl, Nat.le_of_ble_eq_true rfl⟩ ⟨Nat.zero_le _, Nat.zero_le _⟩ dX7_reads_197) (fun r197 I197 J197 H locs z197 h hw => ?_)
    refine lv_if_eq (tgt := 207) hx hb dX7_reads_200 (by decide) (fun c200 => ?_) (fun c200 => ?_)
    · have h := h.1 c200
      exact w_X7_reads_207 C  h hw (lv_sub hl [] rfl)
    · have h := h.2 c200
      refine lv_iconst (v := 1) hx hb dX7_reads_203 (by decide) ?_
      refine lv_goto (tgt := 208) hx hb dX7_reads_204 (by decide) ?_
      exact g_zret C hw (by decide) h dX7_reads_208
theorem m_X7_reads {l : Launch} {a0 : Int32} {Q : Int32 → MI → MJ → Prop} {I : MI} {J : MJ} (h : P_X7_reads a0 I J Q) : Met l yX7_reads (xws yX7_reads cX7_reads 2 (some .boolean)) rmX7_reads (va_Pc [.ref (ad 1), .int a0] (gB (xS ad cy) 66 ad cy D (xF ad ts) I J)) (gQz (xS ad cy) 66 ad cy D (xF ad ts) Q) 0 0 (gA 66 ad) :=
  g_met (xF_ok ad ts) rfl (by decide) (Nat.le_of_ble_eq_true rfl) (fun p e s m below meth c ls C hw hl => w_X7_reads C  h hw hl)
/-! BagPhrases$Reader.firstFault()I -/
def P_X7_firstFault_22 (Q : Int32 → MI → MJ → Prop) (kL22 : Int32 × MI × MJ → Prop) : Int32 × MI × MJ → Prop := fun z => match z with
  | (x1, I, J) => (((I 1 3) ≤ x1 → ((¬ (I 1 4) = 0 → Q (I 1 3) I J) ∧ ((I 1 4) = 0 → Q (-9 : Int32) I J))) ∧ (¬ (I 1 3) ≤ x1 → vp_in x1 180 ∧ (P_X7_reads (I 2 x1.toNatClampNeg) I J (fun r37 I37 J37 => ((¬ r37 = 0 → kL22 ((x1 + 1), I37, J37)) ∧ (r37 = 0 → Q x1 I37 J37))))))
def P_X7_firstFault (I : MI) (J : MJ) (Q : Int32 → MI → MJ → Prop) : Prop :=
  (∀ I5 : MI, I5 = mI I 3 4 (0 : Int32) → P_X8_blank 8 I5 J (fun I12 J12 => (∀ I17 : MI, I17 = mI I12 1 4 (0 : Int32) → lpx (P_X7_firstFault_22 Q) ((0 : Int32), I17, J12))))
abbrev rmX7_firstFault : Room := { frames := 4, cells := 0, slots := 0, locals := 89 }
set_option maxHeartbeats 4000000 in
set_option maxRecDepth 100000 in
theorem w_X7_firstFault_22 {Q : Int32 → MI → MJ → Prop} (C : gC RX7 cX7_firstFault 2 (some .int) 66 ad cy D (xF ad ts) p s m args meth c) {kL22 : Int32 × MI × MJ → Prop} (hL22 : ∀ {x1 : Int32} {I : MI} {J : MJ} {H : Heap} {locs : List Loc} {ls : Array Slot}, kL22 (x1, I, J) → gH (xS ad cy) 66 ad D s I J H locs → lv_has ls 2 [(0, .ref (ad 1)), (1, .int x1)] → W p l e rmX7_firstFault s m args below meth c H locs 0 0 (MQ below (gQi (xS ad cy) 66 ad cy D (xF ad ts) Q) args s 0 0 (gA 66 ad)) (F0 m 22 ls [])) {x1 : Int32} {I : MI} {J : MJ} {H : Heap} {locs : List Loc} {ls : Array Slot} (h : P_X7_firstFault_22 Q kL22 (x1, I, J)) (hw : gH (xS ad cy) 66 ad D s I J H locs) (hl : lv_has ls 2 [(0, .ref (ad 1)), (1, .int x1)]) : W p l e rmX7_firstFault s m args below meth c H locs 0 0 (MQ below (gQi (xS ad cy) 66 ad cy D (xF ad ts) Q) args s 0 0 (gA 66 ad)) (F0 m 22 ls []) := by
  obtain ⟨hx, hb, hC⟩ := id C
  refine lv_iload_n hx hb dX7_firstFault_22 rfl (lv_at hl 1 rfl) ?_
  refine lv_aload_n hx hb dX7_firstFault_23 rfl (lv_at hl 0 rfl) ?_
  refine g_get C hw f_RX7_29 xl_1 (xs_1 _ _) rfl dX7_firstFault_24 ?_
  refine lv_icmp_ge (tgt := 51) hx hb dX7_firstFault_27 (by decide) (fun c27 => ?_) (fun c27 => ?_)
  · have h := h.1 c27
    refine lv_aload_n hx hb dX7_firstFault_51 rfl (lv_at hl 0 rfl) ?_
    refine g_get C hw f_RX7_33 xl_1 (xs_1 _ _) rfl dX7_firstFault_52 ?_
    refine lv_if_ne (tgt := 63) hx hb dX7_firstFault_55 (by decide) (fun c55 => ?_) (fun c55 => ?_)
    · have h := h.1 c55
      refine lv_aload_n hx hb dX7_firstFault_63 rfl (lv_at hl 0 rfl) ?_
      refine g_get C hw f_RX7_29 xl_1 (xs_1 _ _) rfl dX7_firstFault_64 ?_
      exact g_iret C hw h dX7_firstFault_67
    · have h := h.2 c55
      refine lv_bipush (v := -9) hx hb dX7_firstFault_58 (by decide) ?_
      refine lv_goto (tgt := 67) hx hb dX7_firstFault_60 (by decide) ?_
      exact g_iret C hw h dX7_firstFault_67
  · have h := h.2 c27
    refine lv_aload_n hx hb dX7_firstFault_30 rfl (lv_at hl 0 rfl) ?_
    refine lv_aload_n hx hb dX7_firstFault_31 rfl (lv_at hl 0 rfl) ?_
    refine g_get C hw f_RX7_9 xl_1 (xs_1 _ _) rfl dX7_firstFault_32 ?_
    refine lv_iload_n hx hb dX7_firstFault_35 rfl (lv_at hl 1 rfl) ?_
    refine g_iald C hw xl_2 xs_2 h.1 dX7_firstFault_36 ?_
    have h := h.2
    refine g_cz hw (g_rV [.int (I 2 x1.toNatClampNeg)] [] C hw (m_X7_reads h) k_X7_reads q_RX7_45 xl_1 (xs_1 _ _) rfl rfl hl.1 rfl (Nat.le_of_ble_eq_true rfl) ⟨⟨rfl, rfl⟩, Nat.le_of_ble_eq_true rfl, Nat.le_of_ble_eq_true rfl⟩ ⟨Nat.zero_le _, Nat.zero_le _⟩ dX7_firstFault_37) (fun r37 I37 J37 H locs z37 h hw => ?_)
    refine lv_if_ne (tgt := 45) hx hb dX7_firstFault_40 (by decide) (fun c40 => ?_) (fun c40 => ?_)
    · have h := h.1 c40
      refine lv_iinc (v := x1 + 1) (lv' := [(1, .int (x1 + 1)), (0, .ref (ad 1))]) hx hb dX7_firstFault_45 hl (k := 1) rfl rfl (by decide) rfl (fun ls hl => ?_)
      refine lv_goto (tgt := 22) hx hb dX7_firstFault_48 (by decide) ?_
      exact hL22 h hw (lv_sub hl [1, 0] rfl)
    · have h := h.2 c40
      refine lv_iload_n hx hb dX7_firstFault_43 rfl (lv_at hl 1 rfl) ?_
      exact g_iret C hw h dX7_firstFault_44
theorem wl_X7_firstFault_22 {Q : Int32 → MI → MJ → Prop} (C : gC RX7 cX7_firstFault 2 (some .int) 66 ad cy D (xF ad ts) p s m args meth c) {x1 : Int32} {I : MI} {J : MJ} {H : Heap} {locs : List Loc} {ls : Array Slot} (h : lpx (P_X7_firstFault_22 Q) (x1, I, J)) (hw : gH (xS ad cy) 66 ad D s I J H locs) (hl : lv_has ls 2 [(0, .ref (ad 1)), (1, .int x1)]) : W p l e rmX7_firstFault s m args below meth c H locs 0 0 (MQ below (gQi (xS ad cy) 66 ad cy D (xF ad ts) Q) args s 0 0 (gA 66 ad)) (F0 m 22 ls []) := by
  obtain ⟨n, h⟩ := h
  induction n generalizing x1 I J H locs ls with
  | zero => exact False.elim h
  | succ n ih => exact w_X7_firstFault_22 C  (fun hk9 hw9 hl9 => ih hw9 hl9 hk9) h hw hl
set_option maxHeartbeats 4000000 in
set_option maxRecDepth 100000 in
theorem w_X7_firstFault {Q : Int32 → MI → MJ → Prop} (C : gC RX7 cX7_firstFault 2 (some .int) 66 ad cy D (xF ad ts) p s m args meth c) {I : MI} {J : MJ} {H : Heap} {locs : List Loc} {ls : Array Slot} (h : P_X7_firstFault I J Q) (hw : gH (xS ad cy) 66 ad D s I J H locs) (hl : lv_has ls 2 [(0, .ref (ad 1))]) : W p l e rmX7_firstFault s m args below meth c H locs 0 0 (MQ below (gQi (xS ad cy) 66 ad cy D (xF ad ts) Q) args s 0 0 (gA 66 ad)) (F0 m 0 ls []) := by
  obtain ⟨hx, hb, hC⟩ := id C
  refine lv_aload_n hx hb dX7_firstFault_0 rfl (lv_at hl 0 rfl) ?_
  refine g_get C hw f_RX7_18 xl_1 (xs_1 _ _) rfl dX7_firstFault_1 ?_
  refine lv_iconst (v := 0) hx hb dX7_firstFault_4 (by decide) ?_
  refine g_putI C hw fp_RX7_39 xl_3 xs_3 (st_5_4 ad _ _) (Nat.le_of_ble_eq_true rfl) rfl rfl dX7_firstFault_5 (fun H locs hw => ?_)
  obtain ⟨I5, e5⟩ : ∃ z : MI, z = mI I 3 4 (0 : Int32) := ⟨_, rfl⟩
  have h := h I5 e5
  rw [← e5] at hw
  refine lv_aload_n hx hb dX7_firstFault_8 rfl (lv_at hl 0 rfl) ?_
  refine g_get C hw f_RX7_25 xl_1 (xs_1 _ _) rfl dX7_firstFault_9 ?_
  refine g_cv hw (g_rV [] [] C hw (m_X8_blank isSet_8 h) k_X8_blank q_RX7_42 xl_8 (xs_8 _ _) rfl rfl hl.1 rfl (Nat.le_of_ble_eq_true rfl) ⟨⟨rfl, rfl⟩, Nat.le_of_ble_eq_true rfl, Nat.le_of_ble_eq_true rfl⟩ ⟨Nat.zero_le _, Nat.zero_le _⟩ dX7_firstFault_12) (fun I12 J12 H locs h hw => ?_)
  refine lv_aload_n hx hb dX7_firstFault_15 rfl (lv_at hl 0 rfl) ?_
  refine lv_iconst (v := 0) hx hb dX7_firstFault_16 (by decide) ?_
  refine g_putI C hw fp_RX7_33 xl_1 xs_1 (st_7_4 ad _) (Nat.le_of_ble_eq_true rfl) rfl rfl dX7_firstFault_17 (fun H locs hw => ?_)
  obtain ⟨I17, e17⟩ : ∃ z : MI, z = mI I12 1 4 (0 : Int32) := ⟨_, rfl⟩
  have h := h I17 e17
  rw [← e17] at hw
  refine lv_iconst (v := 0) hx hb dX7_firstFault_20 (by decide) ?_
  refine lv_istore_n (lv' := [(1, .int (0 : Int32)), (0, .ref (ad 1))]) hx hb dX7_firstFault_21 rfl hl (by decide) rfl (fun ls hl => ?_)
  exact wl_X7_firstFault_22 C  h hw (lv_sub hl [1, 0] rfl)
theorem m_X7_firstFault {l : Launch} {Q : Int32 → MI → MJ → Prop} {I : MI} {J : MJ} (h : P_X7_firstFault I J Q) : Met l yX7_firstFault (xws yX7_firstFault cX7_firstFault 2 (some .int)) rmX7_firstFault (va_Pc [.ref (ad 1)] (gB (xS ad cy) 66 ad cy D (xF ad ts) I J)) (gQi (xS ad cy) 66 ad cy D (xF ad ts) Q) 0 0 (gA 66 ad) :=
  g_met (xF_ok ad ts) rfl (by decide) (Nat.le_of_ble_eq_true rfl) (fun p e s m below meth c ls C hw hl => w_X7_firstFault C  h hw hl)
/-! BagPhrases.fault()I -/
def P_X11_fault (I : MI) (J : MJ) (Q : Int32 → MI → MJ → Prop) : Prop :=
  P_X7_firstFault I J (fun r4 I4 J4 => Q r4 I4 J4)
abbrev rmX11_fault : Room := { frames := 5, cells := 0, slots := 0, locals := 110 }
set_option maxHeartbeats 4000000 in
set_option maxRecDepth 100000 in
theorem w_X11_fault {Q : Int32 → MI → MJ → Prop} (C : gC RX11 cX11_fault 1 (some .int) 66 ad cy D (xF ad ts) p s m args meth c) {I : MI} {J : MJ} {H : Heap} {locs : List Loc} {ls : Array Slot} (h : P_X11_fault I J Q) (hw : gH (xS ad cy) 66 ad D s I J H locs) (hl : lv_has ls 1 [(0, .ref (ad 0))]) : W p l e rmX11_fault s m args below meth c H locs 0 0 (MQ below (gQi (xS ad cy) 66 ad cy D (xF ad ts) Q) args s 0 0 (gA 66 ad)) (F0 m 0 ls []) := by
  obtain ⟨hx, hb, hC⟩ := id C
  refine lv_aload_n hx hb dX11_fault_0 rfl (lv_at hl 0 rfl) ?_
  refine g_get C hw f_RX11_10 xl_0 (xs_0 _ _) rfl dX11_fault_1 ?_
  refine g_ci hw (g_rV [] [] C hw (m_X7_firstFault h) k_X7_firstFault q_RX11_100 xl_1 (xs_1 _ _) rfl rfl hl.1 rfl (Nat.le_of_ble_eq_true rfl) ⟨⟨rfl, rfl⟩, Nat.le_of_ble_eq_true rfl, Nat.le_of_ble_eq_true rfl⟩ ⟨Nat.zero_le _, Nat.zero_le _⟩ dX11_fault_4) (fun r4 I4 J4 H locs h hw => ?_)
  exact g_iret C hw h dX11_fault_7
theorem m_X11_fault {l : Launch} {Q : Int32 → MI → MJ → Prop} {I : MI} {J : MJ} (h : P_X11_fault I J Q) : Met l yX11_fault (xws yX11_fault cX11_fault 1 (some .int)) rmX11_fault (va_Pc [.ref (ad 0)] (gB (xS ad cy) 66 ad cy D (xF ad ts) I J)) (gQi (xS ad cy) 66 ad cy D (xF ad ts) Q) 0 0 (gA 66 ad) :=
  g_met (xF_ok ad ts) rfl (by decide) (Nat.le_of_ble_eq_true rfl) (fun p e s m below meth c ls C hw hl => w_X11_fault C  h hw hl)
/-! BagPhrases$Lexicon.copy(LBagPhrases$Lexicon;)V -/
def P_X5_copy (k : Nat) (w0 : Nat) (I : MI) (J : MJ) (Q : MI → MJ → Prop) : Prop :=
  (∀ I5 : MI, I5 = mI I k 4 (I w0 4) → (¬ (0 : Int32) < 0 ∧ ¬ (0 : Int32) < 0 ∧ ¬ (10 : Int32) < 0 ∧ (0 : Int32).toNatClampNeg + (10 : Int32).toNatClampNeg ≤ 10 ∧ (0 : Int32).toNatClampNeg + (10 : Int32).toNatClampNeg ≤ 10) ∧ (∀ I20 : MI, I20 = wI I5 (k + 1) (va_cpy (I5 (w0 + 1)) (I5 (k + 1)) (0 : Int32).toNatClampNeg (0 : Int32).toNatClampNeg (10 : Int32).toNatClampNeg) → (¬ (0 : Int32) < 0 ∧ ¬ (0 : Int32) < 0 ∧ ¬ (10 : Int32) < 0 ∧ (0 : Int32).toNatClampNeg + (10 : Int32).toNatClampNeg ≤ 10 ∧ (0 : Int32).toNatClampNeg + (10 : Int32).toNatClampNeg ≤ 10) ∧ (∀ I35 : MI, I35 = wI I20 (k + 2) (va_cpy (I20 (w0 + 2)) (I20 (k + 2)) (0 : Int32).toNatClampNeg (0 : Int32).toNatClampNeg (10 : Int32).toNatClampNeg) → (¬ (0 : Int32) < 0 ∧ ¬ (0 : Int32) < 0 ∧ ¬ (10 : Int32) < 0 ∧ (0 : Int32).toNatClampNeg + (10 : Int32).toNatClampNeg ≤ 10 ∧ (0 : Int32).toNatClampNeg + (10 : Int32).toNatClampNeg ≤ 10) ∧ (∀ J50 : MJ, J50 = wJ J (k + 3) (va_cpy (J (w0 + 3)) (J (k + 3)) (0 : Int32).toNatClampNeg (0 : Int32).toNatClampNeg (10 : Int32).toNatClampNeg) → (¬ (0 : Int32) < 0 ∧ ¬ (0 : Int32) < 0 ∧ ¬ (60 : Int32) < 0 ∧ (0 : Int32).toNatClampNeg + (60 : Int32).toNatClampNeg ≤ 60 ∧ (0 : Int32).toNatClampNeg + (60 : Int32).toNatClampNeg ≤ 60) ∧ (∀ I65 : MI, I65 = wI I35 (k + 4) (va_cpy (I35 (w0 + 4)) (I35 (k + 4)) (0 : Int32).toNatClampNeg (0 : Int32).toNatClampNeg (60 : Int32).toNatClampNeg) → Q I65 J50)))))
abbrev rmX5_copy : Room := { frames := 1, cells := 0, slots := 0, locals := 38 }
set_option maxHeartbeats 4000000 in
set_option maxRecDepth 100000 in
theorem w_X5_copy {Q : MI → MJ → Prop} (C : gC RX5 cX5_copy 2 none 66 ad cy D (xF ad ts) p s m args meth c) {k : Nat} (hk : isLex k) {w0 : Nat} (hw0 : isLex w0) {I : MI} {J : MJ} {H : Heap} {locs : List Loc} {ls : Array Slot} (h : P_X5_copy k w0 I J Q) (hw : gH (xS ad cy) 66 ad D s I J H locs) (hl : lv_has ls 2 [(0, .ref (ad k)), (1, .ref (ad w0))]) : W p l e rmX5_copy s m args below meth c H locs 0 0 (MQ below (gQv (xS ad cy) 66 ad cy D (xF ad ts) Q) args s 0 0 (gA 66 ad)) (F0 m 0 ls []) := by
  obtain ⟨hx, hb, hC⟩ := id C
  refine lv_aload_n hx hb dX5_copy_0 rfl (lv_at hl 0 rfl) ?_
  refine lv_aload_n hx hb dX5_copy_1 rfl (lv_at hl 1 rfl) ?_
  refine g_get C hw f_RX5_25 (xl_Lex0 hw0) ((xs_Lex0 hw0) _ _) rfl dX5_copy_2 ?_
  refine g_putI C hw fp_RX5_25 (xl_Lex0 hk) (xs_Lex0 hk) (st_5_4 ad _ _) (Nat.le_of_ble_eq_true rfl) rfl rfl dX5_copy_5 (fun H locs hw => ?_)
  obtain ⟨I5, e5⟩ : ∃ z : MI, z = mI I k 4 (I w0 4) := ⟨_, rfl⟩
  have h := h I5 e5
  rw [← e5] at hw
  refine lv_aload_n hx hb dX5_copy_8 rfl (lv_at hl 1 rfl) ?_
  refine g_get C hw f_RX5_9 (xl_Lex0 hw0) ((xs_Lex0 hw0) _ _) rfl dX5_copy_9 ?_
  refine lv_iconst (v := 0) hx hb dX5_copy_12 (by decide) ?_
  refine lv_aload_n hx hb dX5_copy_13 rfl (lv_at hl 0 rfl) ?_
  refine g_get C hw f_RX5_9 (xl_Lex0 hk) ((xs_Lex0 hk) _ _) rfl dX5_copy_14 ?_
  refine lv_iconst (v := 0) hx hb dX5_copy_17 (by decide) ?_
  refine lv_bipush (v := 10) hx hb dX5_copy_18 (by decide) ?_
  refine g_copyi C hw hl.1 q_RX5_29 qn_copy qs_copy qi_RJ10 (xl_Lex1 hw0) (xs_Lex1 hw0) (xl_Lex1 hk) (xs_Lex1 hk) h.1.1 h.1.2.1 h.1.2.2.1 h.1.2.2.2.1 h.1.2.2.2.2 (Nat.le_of_ble_eq_true rfl) (Nat.le_of_ble_eq_true rfl) dX5_copy_20 (fun H locs hw => ?_)
  have h := h.2
  obtain ⟨I20, e20⟩ : ∃ z : MI, z = wI I5 (k + 1) (va_cpy (I5 (w0 + 1)) (I5 (k + 1)) (0 : Int32).toNatClampNeg (0 : Int32).toNatClampNeg (10 : Int32).toNatClampNeg) := ⟨_, rfl⟩
  have h := h I20 e20
  rw [← e20] at hw
  refine lv_aload_n hx hb dX5_copy_23 rfl (lv_at hl 1 rfl) ?_
  refine g_get C hw f_RX5_15 (xl_Lex0 hw0) ((xs_Lex0 hw0) _ _) rfl dX5_copy_24 ?_
  refine lv_iconst (v := 0) hx hb dX5_copy_27 (by decide) ?_
  refine lv_aload_n hx hb dX5_copy_28 rfl (lv_at hl 0 rfl) ?_
  refine g_get C hw f_RX5_15 (xl_Lex0 hk) ((xs_Lex0 hk) _ _) rfl dX5_copy_29 ?_
  refine lv_iconst (v := 0) hx hb dX5_copy_32 (by decide) ?_
  refine lv_bipush (v := 10) hx hb dX5_copy_33 (by decide) ?_
  refine g_copyi C hw hl.1 q_RX5_29 qn_copy qs_copy qi_RJ10 (xl_Lex2 hw0) (xs_Lex2 hw0) (xl_Lex2 hk) (xs_Lex2 hk) h.1.1 h.1.2.1 h.1.2.2.1 h.1.2.2.2.1 h.1.2.2.2.2 (Nat.le_of_ble_eq_true rfl) (Nat.le_of_ble_eq_true rfl) dX5_copy_35 (fun H locs hw => ?_)
  have h := h.2
  obtain ⟨I35, e35⟩ : ∃ z : MI, z = wI I20 (k + 2) (va_cpy (I20 (w0 + 2)) (I20 (k + 2)) (0 : Int32).toNatClampNeg (0 : Int32).toNatClampNeg (10 : Int32).toNatClampNeg) := ⟨_, rfl⟩
  have h := h I35 e35
  rw [← e35] at hw
  refine lv_aload_n hx hb dX5_copy_38 rfl (lv_at hl 1 rfl) ?_
  refine g_get C hw f_RX5_18 (xl_Lex0 hw0) ((xs_Lex0 hw0) _ _) rfl dX5_copy_39 ?_
  refine lv_iconst (v := 0) hx hb dX5_copy_42 (by decide) ?_
  refine lv_aload_n hx hb dX5_copy_43 rfl (lv_at hl 0 rfl) ?_
  refine g_get C hw f_RX5_18 (xl_Lex0 hk) ((xs_Lex0 hk) _ _) rfl dX5_copy_44 ?_
  refine lv_iconst (v := 0) hx hb dX5_copy_47 (by decide) ?_
  refine lv_bipush (v := 10) hx hb dX5_copy_48 (by decide) ?_
  refine g_copyl C hw hl.1 q_RX5_29 qn_copy qs_copy qi_RJ10 (xl_Lex3 hw0) (xs_Lex3 hw0) (xl_Lex3 hk) (xs_Lex3 hk) h.1.1 h.1.2.1 h.1.2.2.1 h.1.2.2.2.1 h.1.2.2.2.2 (Nat.le_of_ble_eq_true rfl) (Nat.le_of_ble_eq_true rfl) dX5_copy_50 (fun H locs hw => ?_)
  have h := h.2
  obtain ⟨J50, e50⟩ : ∃ z : MJ, z = wJ J (k + 3) (va_cpy (J (w0 + 3)) (J (k + 3)) (0 : Int32).toNatClampNeg (0 : Int32).toNatClampNeg (10 : Int32).toNatClampNeg) := ⟨_, rfl⟩
  have h := h J50 e50
  rw [← e50] at hw
  refine lv_aload_n hx hb dX5_copy_53 rfl (lv_at hl 1 rfl) ?_
  refine g_get C hw f_RX5_22 (xl_Lex0 hw0) ((xs_Lex0 hw0) _ _) rfl dX5_copy_54 ?_
  refine lv_iconst (v := 0) hx hb dX5_copy_57 (by decide) ?_
  refine lv_aload_n hx hb dX5_copy_58 rfl (lv_at hl 0 rfl) ?_
  refine g_get C hw f_RX5_22 (xl_Lex0 hk) ((xs_Lex0 hk) _ _) rfl dX5_copy_59 ?_
  refine lv_iconst (v := 0) hx hb dX5_copy_62 (by decide) ?_
  refine lv_bipush (v := 60) hx hb dX5_copy_63 (by decide) ?_
  refine g_copyi C hw hl.1 q_RX5_29 qn_copy qs_copy qi_RJ10 (xl_Lex4 hw0) (xs_Lex4 hw0) (xl_Lex4 hk) (xs_Lex4 hk) h.1.1 h.1.2.1 h.1.2.2.1 h.1.2.2.2.1 h.1.2.2.2.2 (Nat.le_of_ble_eq_true rfl) (Nat.le_of_ble_eq_true rfl) dX5_copy_65 (fun H locs hw => ?_)
  have h := h.2
  obtain ⟨I65, e65⟩ : ∃ z : MI, z = wI I35 (k + 4) (va_cpy (I35 (w0 + 4)) (I35 (k + 4)) (0 : Int32).toNatClampNeg (0 : Int32).toNatClampNeg (60 : Int32).toNatClampNeg) := ⟨_, rfl⟩
  have h := h I65 e65
  rw [← e65] at hw
  exact g_vret C hw h dX5_copy_68
theorem m_X5_copy {l : Launch} {k : Nat} (hk : isLex k) {w0 : Nat} (hw0 : isLex w0) {Q : MI → MJ → Prop} {I : MI} {J : MJ} (h : P_X5_copy k w0 I J Q) : Met l yX5_copy (xws yX5_copy cX5_copy 2 none) rmX5_copy (va_Pc [.ref (ad k), .ref (ad w0)] (gB (xS ad cy) 66 ad cy D (xF ad ts) I J)) (gQv (xS ad cy) 66 ad cy D (xF ad ts) Q) 0 0 (gA 66 ad) :=
  g_met (xF_ok ad ts) rfl (by decide) (Nat.le_of_ble_eq_true rfl) (fun p e s m below meth c ls C hw hl => w_X5_copy C hk hw0 h hw hl)
/-! BagPhrases$Setting.copy(LBagPhrases$Setting;)V -/
def P_X8_copy (k : Nat) (w0 : Nat) (I : MI) (J : MJ) (Q : MI → MJ → Prop) : Prop :=
  (¬ (0 : Int32) < 0 ∧ ¬ (0 : Int32) < 0 ∧ ¬ (8 : Int32) < 0 ∧ (0 : Int32).toNatClampNeg + (8 : Int32).toNatClampNeg ≤ 8 ∧ (0 : Int32).toNatClampNeg + (8 : Int32).toNatClampNeg ≤ 8) ∧ (∀ I12 : MI, I12 = wI I (k + 1) (va_cpy (I (w0 + 1)) (I (k + 1)) (0 : Int32).toNatClampNeg (0 : Int32).toNatClampNeg (8 : Int32).toNatClampNeg) → (¬ (0 : Int32) < 0 ∧ ¬ (0 : Int32) < 0 ∧ ¬ (10 : Int32) < 0 ∧ (0 : Int32).toNatClampNeg + (10 : Int32).toNatClampNeg ≤ 10 ∧ (0 : Int32).toNatClampNeg + (10 : Int32).toNatClampNeg ≤ 10) ∧ (∀ I27 : MI, I27 = wI I12 (k + 2) (va_cpy (I12 (w0 + 2)) (I12 (k + 2)) (0 : Int32).toNatClampNeg (0 : Int32).toNatClampNeg (10 : Int32).toNatClampNeg) → (¬ (0 : Int32) < 0 ∧ ¬ (0 : Int32) < 0 ∧ ¬ (4 : Int32) < 0 ∧ (0 : Int32).toNatClampNeg + (4 : Int32).toNatClampNeg ≤ 4 ∧ (0 : Int32).toNatClampNeg + (4 : Int32).toNatClampNeg ≤ 4) ∧ (∀ I41 : MI, I41 = wI I27 (k + 3) (va_cpy (I27 (w0 + 3)) (I27 (k + 3)) (0 : Int32).toNatClampNeg (0 : Int32).toNatClampNeg (4 : Int32).toNatClampNeg) → (∀ I49 : MI, I49 = mI I41 k 3 (I41 w0 3) → (∀ I57 : MI, I57 = mI I49 k 4 (I49 w0 4) → (∀ I65 : MI, I65 = mI I57 k 5 (I57 w0 5) → Q I65 J))))))
abbrev rmX8_copy : Room := { frames := 1, cells := 0, slots := 0, locals := 38 }
set_option maxHeartbeats 4000000 in
set_option maxRecDepth 100000 in
theorem w_X8_copy {Q : MI → MJ → Prop} (C : gC RX8 cX8_copy 2 none 66 ad cy D (xF ad ts) p s m args meth c) {k : Nat} (hk : isSet k) {w0 : Nat} (hw0 : isSet w0) {I : MI} {J : MJ} {H : Heap} {locs : List Loc} {ls : Array Slot} (h : P_X8_copy k w0 I J Q) (hw : gH (xS ad cy) 66 ad D s I J H locs) (hl : lv_has ls 2 [(0, .ref (ad k)), (1, .ref (ad w0))]) : W p l e rmX8_copy s m args below meth c H locs 0 0 (MQ below (gQv (xS ad cy) 66 ad cy D (xF ad ts) Q) args s 0 0 (gA 66 ad)) (F0 m 0 ls []) := by
  obtain ⟨hx, hb, hC⟩ := id C
  refine lv_aload_n hx hb dX8_copy_0 rfl (lv_at hl 1 rfl) ?_
  refine g_get C hw f_RX8_9 (xl_Set0 hw0) ((xs_Set0 hw0) _ _) rfl dX8_copy_1 ?_
  refine lv_iconst (v := 0) hx hb dX8_copy_4 (by decide) ?_
  refine lv_aload_n hx hb dX8_copy_5 rfl (lv_at hl 0 rfl) ?_
  refine g_get C hw f_RX8_9 (xl_Set0 hk) ((xs_Set0 hk) _ _) rfl dX8_copy_6 ?_
  refine lv_iconst (v := 0) hx hb dX8_copy_9 (by decide) ?_
  refine lv_bipush (v := 8) hx hb dX8_copy_10 (by decide) ?_
  refine g_copyi C hw hl.1 q_RX8_31 qn_copy qs_copy qi_RJ10 (xl_Set1 hw0) (xs_Set1 hw0) (xl_Set1 hk) (xs_Set1 hk) h.1.1 h.1.2.1 h.1.2.2.1 h.1.2.2.2.1 h.1.2.2.2.2 (Nat.le_of_ble_eq_true rfl) (Nat.le_of_ble_eq_true rfl) dX8_copy_12 (fun H locs hw => ?_)
  have h := h.2
  obtain ⟨I12, e12⟩ : ∃ z : MI, z = wI I (k + 1) (va_cpy (I (w0 + 1)) (I (k + 1)) (0 : Int32).toNatClampNeg (0 : Int32).toNatClampNeg (8 : Int32).toNatClampNeg) := ⟨_, rfl⟩
  have h := h I12 e12
  rw [← e12] at hw
  refine lv_aload_n hx hb dX8_copy_15 rfl (lv_at hl 1 rfl) ?_
  refine g_get C hw f_RX8_15 (xl_Set0 hw0) ((xs_Set0 hw0) _ _) rfl dX8_copy_16 ?_
  refine lv_iconst (v := 0) hx hb dX8_copy_19 (by decide) ?_
  refine lv_aload_n hx hb dX8_copy_20 rfl (lv_at hl 0 rfl) ?_
  refine g_get C hw f_RX8_15 (xl_Set0 hk) ((xs_Set0 hk) _ _) rfl dX8_copy_21 ?_
  refine lv_iconst (v := 0) hx hb dX8_copy_24 (by decide) ?_
  refine lv_bipush (v := 10) hx hb dX8_copy_25 (by decide) ?_
  refine g_copyi C hw hl.1 q_RX8_31 qn_copy qs_copy qi_RJ10 (xl_Set2 hw0) (xs_Set2 hw0) (xl_Set2 hk) (xs_Set2 hk) h.1.1 h.1.2.1 h.1.2.2.1 h.1.2.2.2.1 h.1.2.2.2.2 (Nat.le_of_ble_eq_true rfl) (Nat.le_of_ble_eq_true rfl) dX8_copy_27 (fun H locs hw => ?_)
  have h := h.2
  obtain ⟨I27, e27⟩ : ∃ z : MI, z = wI I12 (k + 2) (va_cpy (I12 (w0 + 2)) (I12 (k + 2)) (0 : Int32).toNatClampNeg (0 : Int32).toNatClampNeg (10 : Int32).toNatClampNeg) := ⟨_, rfl⟩
  have h := h I27 e27
  rw [← e27] at hw
  refine lv_aload_n hx hb dX8_copy_30 rfl (lv_at hl 1 rfl) ?_
  refine g_get C hw f_RX8_18 (xl_Set0 hw0) ((xs_Set0 hw0) _ _) rfl dX8_copy_31 ?_
  refine lv_iconst (v := 0) hx hb dX8_copy_34 (by decide) ?_
  refine lv_aload_n hx hb dX8_copy_35 rfl (lv_at hl 0 rfl) ?_
  refine g_get C hw f_RX8_18 (xl_Set0 hk) ((xs_Set0 hk) _ _) rfl dX8_copy_36 ?_
  refine lv_iconst (v := 0) hx hb dX8_copy_39 (by decide) ?_
  refine lv_iconst (v := 4) hx hb dX8_copy_40 (by decide) ?_
  refine g_copyi C hw hl.1 q_RX8_31 qn_copy qs_copy qi_RJ10 (xl_Set3 hw0) (xs_Set3 hw0) (xl_Set3 hk) (xs_Set3 hk) h.1.1 h.1.2.1 h.1.2.2.1 h.1.2.2.2.1 h.1.2.2.2.2 (Nat.le_of_ble_eq_true rfl) (Nat.le_of_ble_eq_true rfl) dX8_copy_41 (fun H locs hw => ?_)
  have h := h.2
  obtain ⟨I41, e41⟩ : ∃ z : MI, z = wI I27 (k + 3) (va_cpy (I27 (w0 + 3)) (I27 (k + 3)) (0 : Int32).toNatClampNeg (0 : Int32).toNatClampNeg (4 : Int32).toNatClampNeg) := ⟨_, rfl⟩
  have h := h I41 e41
  rw [← e41] at hw
  refine lv_aload_n hx hb dX8_copy_44 rfl (lv_at hl 0 rfl) ?_
  refine lv_aload_n hx hb dX8_copy_45 rfl (lv_at hl 1 rfl) ?_
  refine g_get C hw f_RX8_21 (xl_Set0 hw0) ((xs_Set0 hw0) _ _) rfl dX8_copy_46 ?_
  refine g_putI C hw fp_RX8_21 (xl_Set0 hk) (xs_Set0 hk) (st_8_3 ad _ _) (Nat.le_of_ble_eq_true rfl) rfl rfl dX8_copy_49 (fun H locs hw => ?_)
  obtain ⟨I49, e49⟩ : ∃ z : MI, z = mI I41 k 3 (I41 w0 3) := ⟨_, rfl⟩
  have h := h I49 e49
  rw [← e49] at hw
  refine lv_aload_n hx hb dX8_copy_52 rfl (lv_at hl 0 rfl) ?_
  refine lv_aload_n hx hb dX8_copy_53 rfl (lv_at hl 1 rfl) ?_
  refine g_get C hw f_RX8_25 (xl_Set0 hw0) ((xs_Set0 hw0) _ _) rfl dX8_copy_54 ?_
  refine g_putI C hw fp_RX8_25 (xl_Set0 hk) (xs_Set0 hk) (st_8_4 ad _ _) (Nat.le_of_ble_eq_true rfl) rfl rfl dX8_copy_57 (fun H locs hw => ?_)
  obtain ⟨I57, e57⟩ : ∃ z : MI, z = mI I49 k 4 (I49 w0 4) := ⟨_, rfl⟩
  have h := h I57 e57
  rw [← e57] at hw
  refine lv_aload_n hx hb dX8_copy_60 rfl (lv_at hl 0 rfl) ?_
  refine lv_aload_n hx hb dX8_copy_61 rfl (lv_at hl 1 rfl) ?_
  refine g_get C hw f_RX8_28 (xl_Set0 hw0) ((xs_Set0 hw0) _ _) rfl dX8_copy_62 ?_
  refine g_putI C hw fp_RX8_28 (xl_Set0 hk) (xs_Set0 hk) (st_8_5 ad _ _) (Nat.le_of_ble_eq_true rfl) rfl rfl dX8_copy_65 (fun H locs hw => ?_)
  obtain ⟨I65, e65⟩ : ∃ z : MI, z = mI I57 k 5 (I57 w0 5) := ⟨_, rfl⟩
  have h := h I65 e65
  rw [← e65] at hw
  exact g_vret C hw h dX8_copy_68
theorem m_X8_copy {l : Launch} {k : Nat} (hk : isSet k) {w0 : Nat} (hw0 : isSet w0) {Q : MI → MJ → Prop} {I : MI} {J : MJ} (h : P_X8_copy k w0 I J Q) : Met l yX8_copy (xws yX8_copy cX8_copy 2 none) rmX8_copy (va_Pc [.ref (ad k), .ref (ad w0)] (gB (xS ad cy) 66 ad cy D (xF ad ts) I J)) (gQv (xS ad cy) 66 ad cy D (xF ad ts) Q) 0 0 (gA 66 ad) :=
  g_met (xF_ok ad ts) rfl (by decide) (Nat.le_of_ble_eq_true rfl) (fun p e s m below meth c ls C hw hl => w_X8_copy C hk hw0 h hw hl)
/-! BagPhrases$Chances.outdate()V -/
def P_X0_outdate (I : MI) (J : MJ) (Q : MI → MJ → Prop) : Prop :=
  (∀ I2 : MI, I2 = mI I 55 8 (0 : Int32) → (∀ I7 : MI, I7 = mI I2 55 9 (0 : Int32) → Q I7 J))
abbrev rmX0_outdate : Room := { frames := 0, cells := 0, slots := 0, locals := 0 }
set_option maxHeartbeats 4000000 in
set_option maxRecDepth 100000 in
theorem w_X0_outdate {Q : MI → MJ → Prop} (C : gC RX0 cX0_outdate 1 none 66 ad cy D (xF ad ts) p s m args meth c) {I : MI} {J : MJ} {H : Heap} {locs : List Loc} {ls : Array Slot} (h : P_X0_outdate I J Q) (hw : gH (xS ad cy) 66 ad D s I J H locs) (hl : lv_has ls 1 [(0, .ref (ad 55))]) : W p l e rmX0_outdate s m args below meth c H locs 0 0 (MQ below (gQv (xS ad cy) 66 ad cy D (xF ad ts) Q) args s 0 0 (gA 66 ad)) (F0 m 0 ls []) := by
  obtain ⟨hx, hb, hC⟩ := id C
  refine lv_aload_n hx hb dX0_outdate_0 rfl (lv_at hl 0 rfl) ?_
  refine lv_iconst (v := 0) hx hb dX0_outdate_1 (by decide) ?_
  refine g_putI C hw fp_RX0_33 xl_55 xs_55 (st_0_8 ad _) (Nat.le_of_ble_eq_true rfl) (by decide) (by decide) dX0_outdate_2 (fun H locs hw => ?_)
  obtain ⟨I2, e2⟩ : ∃ z : MI, z = mI I 55 8 (0 : Int32) := ⟨_, rfl⟩
  have h := h I2 e2
  rw [← e2] at hw
  refine lv_aload_n hx hb dX0_outdate_5 rfl (lv_at hl 0 rfl) ?_
  refine lv_iconst (v := 0) hx hb dX0_outdate_6 (by decide) ?_
  refine g_putI C hw fp_RX0_37 xl_55 xs_55 (st_0_9 ad _) (Nat.le_of_ble_eq_true rfl) (by decide) (by decide) dX0_outdate_7 (fun H locs hw => ?_)
  obtain ⟨I7, e7⟩ : ∃ z : MI, z = mI I2 55 9 (0 : Int32) := ⟨_, rfl⟩
  have h := h I7 e7
  rw [← e7] at hw
  exact g_vret C hw h dX0_outdate_10
theorem m_X0_outdate {l : Launch} {Q : MI → MJ → Prop} {I : MI} {J : MJ} (h : P_X0_outdate I J Q) : Met l yX0_outdate (xws yX0_outdate cX0_outdate 1 none) rmX0_outdate (va_Pc [.ref (ad 55)] (gB (xS ad cy) 66 ad cy D (xF ad ts) I J)) (gQv (xS ad cy) 66 ad cy D (xF ad ts) Q) 0 0 (gA 66 ad) :=
  g_met (xF_ok ad ts) rfl (by decide) (Nat.le_of_ble_eq_true rfl) (fun p e s m below meth c ls C hw hl => w_X0_outdate C  h hw hl)
/-! BagPhrases.outdate()V -/
def P_X11_outdate (I : MI) (J : MJ) (Q : MI → MJ → Prop) : Prop :=
  (∀ I5 : MI, I5 = mI I 39 12 (0 : Int32) → P_X0_outdate I5 J (fun I12 J12 => Q I12 J12))
abbrev rmX11_outdate : Room := { frames := 1, cells := 0, slots := 0, locals := 20 }
set_option maxHeartbeats 4000000 in
set_option maxRecDepth 100000 in
theorem w_X11_outdate {Q : MI → MJ → Prop} (C : gC RX11 cX11_outdate 1 none 66 ad cy D (xF ad ts) p s m args meth c) {I : MI} {J : MJ} {H : Heap} {locs : List Loc} {ls : Array Slot} (h : P_X11_outdate I J Q) (hw : gH (xS ad cy) 66 ad D s I J H locs) (hl : lv_has ls 1 [(0, .ref (ad 0))]) : W p l e rmX11_outdate s m args below meth c H locs 0 0 (MQ below (gQv (xS ad cy) 66 ad cy D (xF ad ts) Q) args s 0 0 (gA 66 ad)) (F0 m 0 ls []) := by
  obtain ⟨hx, hb, hC⟩ := id C
  refine lv_aload_n hx hb dX11_outdate_0 rfl (lv_at hl 0 rfl) ?_
  refine g_get C hw f_RX11_53 xl_0 (xs_0 _ _) rfl dX11_outdate_1 ?_
  refine lv_iconst (v := 0) hx hb dX11_outdate_4 (by decide) ?_
  refine g_putI C hw fp_RX11_282 xl_39 xs_39 (st_6_12 ad _) (Nat.le_of_ble_eq_true rfl) (by decide) (by decide) dX11_outdate_5 (fun H locs hw => ?_)
  obtain ⟨I5, e5⟩ : ∃ z : MI, z = mI I 39 12 (0 : Int32) := ⟨_, rfl⟩
  have h := h I5 e5
  rw [← e5] at hw
  refine lv_aload_n hx hb dX11_outdate_8 rfl (lv_at hl 0 rfl) ?_
  refine g_get C hw f_RX11_62 xl_0 (xs_0 _ _) rfl dX11_outdate_9 ?_
  refine g_cv hw (g_rV [] [] C hw (m_X0_outdate h) k_X0_outdate q_RX11_286 xl_55 (xs_55 _ _) rfl rfl hl.1 rfl (Nat.le_of_ble_eq_true rfl) ⟨⟨rfl, rfl⟩, Nat.le_of_ble_eq_true rfl, Nat.le_of_ble_eq_true rfl⟩ ⟨Nat.zero_le _, Nat.zero_le _⟩ dX11_outdate_12) (fun I12 J12 H locs h hw => ?_)
  exact g_vret C hw h dX11_outdate_15
theorem m_X11_outdate {l : Launch} {Q : MI → MJ → Prop} {I : MI} {J : MJ} (h : P_X11_outdate I J Q) : Met l yX11_outdate (xws yX11_outdate cX11_outdate 1 none) rmX11_outdate (va_Pc [.ref (ad 0)] (gB (xS ad cy) 66 ad cy D (xF ad ts) I J)) (gQv (xS ad cy) 66 ad cy D (xF ad ts) Q) 0 0 (gA 66 ad) :=
  g_met (xF_ok ad ts) rfl (by decide) (Nat.le_of_ble_eq_true rfl) (fun p e s m below meth c ls C hw hl => w_X11_outdate C  h hw hl)
/-! BagPhrases.house()I -/
def P_X11_house_58 (Q : Int32 → MI → MJ → Prop) (kL58 : Int32 × MI × MJ → Prop) : Int32 × MI × MJ → Prop := fun z => match z with
  | (x1, I, J) => (((2 : Int32) ≤ x1 → P_X11_outdate I J (fun I77 J77 => Q (I77 12 4) I77 J77)) ∧ (¬ (2 : Int32) ≤ x1 → vp_in x1 2 ∧ (∀ I69 : MI, I69 = mI I 34 x1.toNatClampNeg (vp_nar .boolean (0 : Int32)) → kL58 ((x1 + 1), I69, J))))
def P_X11_house (I : MI) (J : MJ) (Q : Int32 → MI → MJ → Prop) : Prop :=
  P_X7_firstFault I J (fun r4 I4 J4 => ((r4 = (-9 : Int32) → P_X5_copy 12 3 I4 J4 (fun I26 J26 => P_X8_copy 17 8 I26 J26 (fun I40 J40 => (∀ I48 : MI, I48 = mI I40 35 3 (0 : Int32) → (∀ I53 : MI, I53 = mI I48 0 14 (0 : Int32) → lpx (P_X11_house_58 Q) ((0 : Int32), I53, J40)))))) ∧ (¬ r4 = (-9 : Int32) → Q (-3 : Int32) I4 J4)))
abbrev rmX11_house : Room := { frames := 5, cells := 0, slots := 0, locals := 110 }
set_option maxHeartbeats 4000000 in
set_option maxRecDepth 100000 in
theorem w_X11_house_58 {Q : Int32 → MI → MJ → Prop} (C : gC RX11 cX11_house 2 (some .int) 66 ad cy D (xF ad ts) p s m args meth c) {kL58 : Int32 × MI × MJ → Prop} (hL58 : ∀ {x1 : Int32} {I : MI} {J : MJ} {H : Heap} {locs : List Loc} {ls : Array Slot}, kL58 (x1, I, J) → gH (xS ad cy) 66 ad D s I J H locs → lv_has ls 2 [(0, .ref (ad 0)), (1, .int x1)] → W p l e rmX11_house s m args below meth c H locs 0 0 (MQ below (gQi (xS ad cy) 66 ad cy D (xF ad ts) Q) args s 0 0 (gA 66 ad)) (F0 m 58 ls [])) {x1 : Int32} {I : MI} {J : MJ} {H : Heap} {locs : List Loc} {ls : Array Slot} (h : P_X11_house_58 Q kL58 (x1, I, J)) (hw : gH (xS ad cy) 66 ad D s I J H locs) (hl : lv_has ls 2 [(0, .ref (ad 0)), (1, .int x1)]) : W p l e rmX11_house s m args below meth c H locs 0 0 (MQ below (gQi (xS ad cy) 66 ad cy D (xF ad ts) Q) args s 0 0 (gA 66 ad)) (F0 m 58 ls []) := by
  obtain ⟨hx, hb, hC⟩ := id C
  refine lv_iload_n hx hb dX11_house_58 rfl (lv_at hl 1 rfl) ?_
  refine lv_iconst (v := 2) hx hb dX11_house_59 (by decide) ?_
  refine lv_icmp_ge (tgt := 76) hx hb dX11_house_60 (by decide) (fun c60 => ?_) (fun c60 => ?_)
  · have h := h.1 c60
    refine lv_aload_n hx hb dX11_house_76 rfl (lv_at hl 0 rfl) ?_
    refine g_cv hw (g_rV [] [] C hw (m_X11_outdate h) k_X11_outdate q_RX11_116 xl_0 (xs_0 _ _) rfl rfl hl.1 rfl (Nat.le_of_ble_eq_true rfl) ⟨⟨rfl, rfl⟩, Nat.le_of_ble_eq_true rfl, Nat.le_of_ble_eq_true rfl⟩ ⟨Nat.zero_le _, Nat.zero_le _⟩ dX11_house_77) (fun I77 J77 H locs h hw => ?_)
    refine lv_aload_n hx hb dX11_house_80 rfl (lv_at hl 0 rfl) ?_
    refine g_get C hw f_RX11_19 xl_0 (xs_0 _ _) rfl dX11_house_81 ?_
    refine g_get C hw f_RX11_119 xl_12 (xs_12 _ _) rfl dX11_house_84 ?_
    exact g_iret C hw h dX11_house_87
  · have h := h.2 c60
    refine lv_aload_n hx hb dX11_house_63 rfl (lv_at hl 0 rfl) ?_
    refine g_get C hw f_RX11_37 xl_0 (xs_0 _ _) rfl dX11_house_64 ?_
    refine lv_iload_n hx hb dX11_house_67 rfl (lv_at hl 1 rfl) ?_
    refine lv_iconst (v := 0) hx hb dX11_house_68 (by decide) ?_
    refine g_zast C hw xl_34 xs_34 h.1 dX11_house_69 (fun H locs hw => ?_)
    have h := h.2
    obtain ⟨I69, e69⟩ : ∃ z : MI, z = mI I 34 x1.toNatClampNeg (vp_nar .boolean (0 : Int32)) := ⟨_, rfl⟩
    have h := h I69 e69
    rw [← e69] at hw
    refine lv_iinc (v := x1 + 1) (lv' := [(1, .int (x1 + 1)), (0, .ref (ad 0))]) hx hb dX11_house_70 hl (k := 1) rfl rfl (by decide) rfl (fun ls hl => ?_)
    refine lv_goto (tgt := 58) hx hb dX11_house_73 (by decide) ?_
    exact hL58 h hw (lv_sub hl [1, 0] rfl)
theorem wl_X11_house_58 {Q : Int32 → MI → MJ → Prop} (C : gC RX11 cX11_house 2 (some .int) 66 ad cy D (xF ad ts) p s m args meth c) {x1 : Int32} {I : MI} {J : MJ} {H : Heap} {locs : List Loc} {ls : Array Slot} (h : lpx (P_X11_house_58 Q) (x1, I, J)) (hw : gH (xS ad cy) 66 ad D s I J H locs) (hl : lv_has ls 2 [(0, .ref (ad 0)), (1, .int x1)]) : W p l e rmX11_house s m args below meth c H locs 0 0 (MQ below (gQi (xS ad cy) 66 ad cy D (xF ad ts) Q) args s 0 0 (gA 66 ad)) (F0 m 58 ls []) := by
  obtain ⟨n, h⟩ := h
  induction n generalizing x1 I J H locs ls with
  | zero => exact False.elim h
  | succ n ih => exact w_X11_house_58 C  (fun hk9 hw9 hl9 => ih hw9 hl9 hk9) h hw hl
set_option maxHeartbeats 4000000 in
set_option maxRecDepth 100000 in
theorem w_X11_house {Q : Int32 → MI → MJ → Prop} (C : gC RX11 cX11_house 2 (some .int) 66 ad cy D (xF ad ts) p s m args meth c) {I : MI} {J : MJ} {H : Heap} {locs : List Loc} {ls : Array Slot} (h : P_X11_house I J Q) (hw : gH (xS ad cy) 66 ad D s I J H locs) (hl : lv_has ls 2 [(0, .ref (ad 0))]) : W p l e rmX11_house s m args below meth c H locs 0 0 (MQ below (gQi (xS ad cy) 66 ad cy D (xF ad ts) Q) args s 0 0 (gA 66 ad)) (F0 m 0 ls []) := by
  obtain ⟨hx, hb, hC⟩ := id C
  refine lv_aload_n hx hb dX11_house_0 rfl (lv_at hl 0 rfl) ?_
  refine g_get C hw f_RX11_10 xl_0 (xs_0 _ _) rfl dX11_house_1 ?_
  refine g_ci hw (g_rV [] [] C hw (m_X7_firstFault h) k_X7_firstFault q_RX11_100 xl_1 (xs_1 _ _) rfl rfl hl.1 rfl (Nat.le_of_ble_eq_true rfl) ⟨⟨rfl, rfl⟩, Nat.le_of_ble_eq_true rfl, Nat.le_of_ble_eq_true rfl⟩ ⟨Nat.zero_le _, Nat.zero_le _⟩ dX11_house_4) (fun r4 I4 J4 H locs h hw => ?_)
  refine lv_bipush (v := -9) hx hb dX11_house_7 (by decide) ?_
  refine lv_icmp_eq (tgt := 15) hx hb dX11_house_9 (by decide) (fun c9 => ?_) (fun c9 => ?_)
  · have h := h.1 c9
    refine lv_aload_n hx hb dX11_house_15 rfl (lv_at hl 0 rfl) ?_
    refine g_get C hw f_RX11_19 xl_0 (xs_0 _ _) rfl dX11_house_16 ?_
    refine lv_aload_n hx hb dX11_house_19 rfl (lv_at hl 0 rfl) ?_
    refine g_get C hw f_RX11_10 xl_0 (xs_0 _ _) rfl dX11_house_20 ?_
    refine g_get C hw f_RX11_104 xl_1 (xs_1 _ _) rfl dX11_house_23 ?_
    refine g_cv hw (g_rV [.ref (ad 3)] [] C hw (m_X5_copy isLex_12 isLex_3 h) k_X5_copy q_RX11_105 xl_12 (xs_12 _ _) rfl rfl hl.1 rfl (Nat.le_of_ble_eq_true rfl) ⟨⟨rfl, rfl⟩, Nat.le_of_ble_eq_true rfl, Nat.le_of_ble_eq_true rfl⟩ ⟨Nat.zero_le _, Nat.zero_le _⟩ dX11_house_26) (fun I26 J26 H locs h hw => ?_)
    refine lv_aload_n hx hb dX11_house_29 rfl (lv_at hl 0 rfl) ?_
    refine g_get C hw f_RX11_26 xl_0 (xs_0 _ _) rfl dX11_house_30 ?_
    refine lv_aload_n hx hb dX11_house_33 rfl (lv_at hl 0 rfl) ?_
    refine g_get C hw f_RX11_10 xl_0 (xs_0 _ _) rfl dX11_house_34 ?_
    refine g_get C hw f_RX11_109 xl_1 (xs_1 _ _) rfl dX11_house_37 ?_
    refine g_cv hw (g_rV [.ref (ad 8)] [] C hw (m_X8_copy isSet_17 isSet_8 h) k_X8_copy q_RX11_112 xl_17 (xs_17 _ _) rfl rfl hl.1 rfl (Nat.le_of_ble_eq_true rfl) ⟨⟨rfl, rfl⟩, Nat.le_of_ble_eq_true rfl, Nat.le_of_ble_eq_true rfl⟩ ⟨Nat.zero_le _, Nat.zero_le _⟩ dX11_house_40) (fun I40 J40 H locs h hw => ?_)
    refine lv_aload_n hx hb dX11_house_43 rfl (lv_at hl 0 rfl) ?_
    refine g_get C hw f_RX11_44 xl_0 (xs_0 _ _) rfl dX11_house_44 ?_
    refine lv_iconst (v := 0) hx hb dX11_house_47 (by decide) ?_
    refine g_putI C hw fp_RX11_115 xl_35 xs_35 (st_2_3 ad _) (Nat.le_of_ble_eq_true rfl) rfl rfl dX11_house_48 (fun H locs hw => ?_)
    obtain ⟨I48, e48⟩ : ∃ z : MI, z = mI I40 35 3 (0 : Int32) := ⟨_, rfl⟩
    have h := h I48 e48
    rw [← e48] at hw
    refine lv_aload_n hx hb dX11_house_51 rfl (lv_at hl 0 rfl) ?_
    refine lv_iconst (v := 0) hx hb dX11_house_52 (by decide) ?_
    refine g_putI C hw fp_RX11_82 xl_0 xs_0 (st_10_14 ad _) (Nat.le_of_ble_eq_true rfl) rfl rfl dX11_house_53 (fun H locs hw => ?_)
    obtain ⟨I53, e53⟩ : ∃ z : MI, z = mI I48 0 14 (0 : Int32) := ⟨_, rfl⟩
    have h := h I53 e53
    rw [← e53] at hw
    refine lv_iconst (v := 0) hx hb dX11_house_56 (by decide) ?_
    refine lv_istore_n (lv' := [(1, .int (0 : Int32)), (0, .ref (ad 0))]) hx hb dX11_house_57 rfl hl (by decide) rfl (fun ls hl => ?_)
    exact wl_X11_house_58 C  h hw (lv_sub hl [1, 0] rfl)
  · have h := h.2 c9
    refine lv_bipush (v := -3) hx hb dX11_house_12 (by decide) ?_
    exact g_iret C hw h dX11_house_14
theorem m_X11_house {l : Launch} {Q : Int32 → MI → MJ → Prop} {I : MI} {J : MJ} (h : P_X11_house I J Q) : Met l yX11_house (xws yX11_house cX11_house 2 (some .int)) rmX11_house (va_Pc [.ref (ad 0)] (gB (xS ad cy) 66 ad cy D (xF ad ts) I J)) (gQi (xS ad cy) 66 ad cy D (xF ad ts) Q) 0 0 (gA 66 ad) :=
  g_met (xF_ok ad ts) rfl (by decide) (Nat.le_of_ble_eq_true rfl) (fun p e s m below meth c ls C hw hl => w_X11_house C  h hw hl)
/-! BagPhrases$Setting.unlike()I -/
def P_X8_unlike_22 (k : Nat) (Q : Int32 → MI → MJ → Prop) (kL4 : Int32 × Int32 × MI × MJ → Prop) (x1 : Int32) (x2 : Int32) (I : MI) (J : MJ) : Prop :=
  kL4 (x1, (x2 + 1), I, J)
def P_X8_unlike_4 (k : Nat) (Q : Int32 → MI → MJ → Prop) (kL4 : Int32 × Int32 × MI × MJ → Prop) : Int32 × Int32 × MI × MJ → Prop := fun z => match z with
  | (x1, x2, I, J) => (((8 : Int32) ≤ x2 → Q x1 I J) ∧ (¬ (8 : Int32) ≤ x2 → vp_in x2 8 ∧ ((((I (k + 1) x2.toNatClampNeg) ≤ 0 → P_X8_unlike_22 k Q kL4 x1 x2 I J) ∧ (¬ (I (k + 1) x2.toNatClampNeg) ≤ 0 → P_X8_unlike_22 k Q kL4 (x1 + 1) x2 I J)))))
def P_X8_unlike (k : Nat) (I : MI) (J : MJ) (Q : Int32 → MI → MJ → Prop) : Prop :=
  lpx (P_X8_unlike_4 k Q) ((0 : Int32), (0 : Int32), I, J)
abbrev rmX8_unlike : Room := { frames := 0, cells := 0, slots := 0, locals := 0 }
set_option maxHeartbeats 4000000 in
set_option maxRecDepth 100000 in
theorem w_X8_unlike_22 {Q : Int32 → MI → MJ → Prop} (C : gC RX8 cX8_unlike 3 (some .int) 66 ad cy D (xF ad ts) p s m args meth c) {k : Nat} (hk : isSet k) {kL4 : Int32 × Int32 × MI × MJ → Prop} (hL4 : ∀ {x1 : Int32} {x2 : Int32} {I : MI} {J : MJ} {H : Heap} {locs : List Loc} {ls : Array Slot}, kL4 (x1, x2, I, J) → gH (xS ad cy) 66 ad D s I J H locs → lv_has ls 3 [(0, .ref (ad k)), (1, .int x1), (2, .int x2)] → W p l e rmX8_unlike s m args below meth c H locs 0 0 (MQ below (gQi (xS ad cy) 66 ad cy D (xF ad ts) Q) args s 0 0 (gA 66 ad)) (F0 m 4 ls [])) {x1 : Int32} {x2 : Int32} {I : MI} {J : MJ} {H : Heap} {locs : List Loc} {ls : Array Slot} (h : P_X8_unlike_22 k Q kL4 x1 x2 I J) (hw : gH (xS ad cy) 66 ad D s I J H locs) (hl : lv_has ls 3 [(0, .ref (ad k)), (1, .int x1), (2, .int x2)]) : W p l e rmX8_unlike s m args below meth c H locs 0 0 (MQ below (gQi (xS ad cy) 66 ad cy D (xF ad ts) Q) args s 0 0 (gA 66 ad)) (F0 m 22 ls []) := by
  obtain ⟨hx, hb, hC⟩ := id C
  refine lv_iinc (v := x2 + 1) (lv' := [(2, .int (x2 + 1)), (0, .ref (ad k)), (1, .int x1)]) hx hb dX8_unlike_22 hl (k := 2) rfl rfl (by decide) rfl (fun ls hl => ?_)
  refine lv_goto (tgt := 4) hx hb dX8_unlike_25 (by decide) ?_
  exact hL4 h hw (lv_sub hl [1, 2, 0] rfl)
set_option maxHeartbeats 4000000 in
set_option maxRecDepth 100000 in
theorem w_X8_unlike_4 {Q : Int32 → MI → MJ → Prop} (C : gC RX8 cX8_unlike 3 (some .int) 66 ad cy D (xF ad ts) p s m args meth c) {k : Nat} (hk : isSet k) {kL4 : Int32 × Int32 × MI × MJ → Prop} (hL4 : ∀ {x1 : Int32} {x2 : Int32} {I : MI} {J : MJ} {H : Heap} {locs : List Loc} {ls : Array Slot}, kL4 (x1, x2, I, J) → gH (xS ad cy) 66 ad D s I J H locs → lv_has ls 3 [(0, .ref (ad k)), (1, .int x1), (2, .int x2)] → W p l e rmX8_unlike s m args below meth c H locs 0 0 (MQ below (gQi (xS ad cy) 66 ad cy D (xF ad ts) Q) args s 0 0 (gA 66 ad)) (F0 m 4 ls [])) {x1 : Int32} {x2 : Int32} {I : MI} {J : MJ} {H : Heap} {locs : List Loc} {ls : Array Slot} (h : P_X8_unlike_4 k Q kL4 (x1, x2, I, J)) (hw : gH (xS ad cy) 66 ad D s I J H locs) (hl : lv_has ls 3 [(0, .ref (ad k)), (1, .int x1), (2, .int x2)]) : W p l e rmX8_unlike s m args below meth c H locs 0 0 (MQ below (gQi (xS ad cy) 66 ad cy D (xF ad ts) Q) args s 0 0 (gA 66 ad)) (F0 m 4 ls []) := by
  obtain ⟨hx, hb, hC⟩ := id C
  refine lv_iload_n hx hb dX8_unlike_4 rfl (lv_at hl 2 rfl) ?_
  refine lv_bipush (v := 8) hx hb dX8_unlike_5 (by decide) ?_
  refine lv_icmp_ge (tgt := 28) hx hb dX8_unlike_7 (by decide) (fun c7 => ?_) (fun c7 => ?_)
  · have h := h.1 c7
    refine lv_iload_n hx hb dX8_unlike_28 rfl (lv_at hl 1 rfl) ?_
    exact g_iret C hw h dX8_unlike_29
  · have h := h.2 c7
    refine lv_aload_n hx hb dX8_unlike_10 rfl (lv_at hl 0 rfl) ?_
    refine g_get C hw f_RX8_9 (xl_Set0 hk) ((xs_Set0 hk) _ _) rfl dX8_unlike_11 ?_
    refine lv_iload_n hx hb dX8_unlike_14 rfl (lv_at hl 2 rfl) ?_
    refine g_iald C hw (xl_Set1 hk) (xs_Set1 hk) h.1 dX8_unlike_15 ?_
    have h := h.2
    refine lv_if_le (tgt := 22) hx hb dX8_unlike_16 (by decide) (fun c16 => ?_) (fun c16 => ?_)
    · have h := h.1 c16
      exact w_X8_unlike_22 C hk hL4 h hw (lv_sub hl [0, 1, 2] rfl)
    · have h := h.2 c16
      refine lv_iinc (v := x1 + 1) (lv' := [(1, .int (x1 + 1)), (0, .ref (ad k)), (2, .int x2)]) hx hb dX8_unlike_19 hl (k := 1) rfl rfl (by decide) rfl (fun ls hl => ?_)
      exact w_X8_unlike_22 C hk hL4 h hw (lv_sub hl [1, 0, 2] rfl)
theorem wl_X8_unlike_4 {Q : Int32 → MI → MJ → Prop} (C : gC RX8 cX8_unlike 3 (some .int) 66 ad cy D (xF ad ts) p s m args meth c) {k : Nat} (hk : isSet k) {x1 : Int32} {x2 : Int32} {I : MI} {J : MJ} {H : Heap} {locs : List Loc} {ls : Array Slot} (h : lpx (P_X8_unlike_4 k Q) (x1, x2, I, J)) (hw : gH (xS ad cy) 66 ad D s I J H locs) (hl : lv_has ls 3 [(0, .ref (ad k)), (1, .int x1), (2, .int x2)]) : W p l e rmX8_unlike s m args below meth c H locs 0 0 (MQ below (gQi (xS ad cy) 66 ad cy D (xF ad ts) Q) args s 0 0 (gA 66 ad)) (F0 m 4 ls []) := by
  obtain ⟨n, h⟩ := h
  induction n generalizing x1 x2 I J H locs ls with
  | zero => exact False.elim h
  | succ n ih => exact w_X8_unlike_4 C hk (fun hk9 hw9 hl9 => ih hw9 hl9 hk9) h hw hl
set_option maxHeartbeats 4000000 in
set_option maxRecDepth 100000 in
theorem w_X8_unlike {Q : Int32 → MI → MJ → Prop} (C : gC RX8 cX8_unlike 3 (some .int) 66 ad cy D (xF ad ts) p s m args meth c) {k : Nat} (hk : isSet k) {I : MI} {J : MJ} {H : Heap} {locs : List Loc} {ls : Array Slot} (h : P_X8_unlike k I J Q) (hw : gH (xS ad cy) 66 ad D s I J H locs) (hl : lv_has ls 3 [(0, .ref (ad k))]) : W p l e rmX8_unlike s m args below meth c H locs 0 0 (MQ below (gQi (xS ad cy) 66 ad cy D (xF ad ts) Q) args s 0 0 (gA 66 ad)) (F0 m 0 ls []) := by
  obtain ⟨hx, hb, hC⟩ := id C
  refine lv_iconst (v := 0) hx hb dX8_unlike_0 (by decide) ?_
  refine lv_istore_n (lv' := [(1, .int (0 : Int32)), (0, .ref (ad k))]) hx hb dX8_unlike_1 rfl hl (by decide) rfl (fun ls hl => ?_)
  refine lv_iconst (v := 0) hx hb dX8_unlike_2 (by decide) ?_
  refine lv_istore_n (lv' := [(2, .int (0 : Int32)), (1, .int (0 : Int32)), (0, .ref (ad k))]) hx hb dX8_unlike_3 rfl hl (by decide) rfl (fun ls hl => ?_)
  exact wl_X8_unlike_4 C hk h hw (lv_sub hl [2, 1, 0] rfl)
theorem m_X8_unlike {l : Launch} {k : Nat} (hk : isSet k) {Q : Int32 → MI → MJ → Prop} {I : MI} {J : MJ} (h : P_X8_unlike k I J Q) : Met l yX8_unlike (xws yX8_unlike cX8_unlike 3 (some .int)) rmX8_unlike (va_Pc [.ref (ad k)] (gB (xS ad cy) 66 ad cy D (xF ad ts) I J)) (gQi (xS ad cy) 66 ad cy D (xF ad ts) Q) 0 0 (gA 66 ad) :=
  g_met (xF_ok ad ts) rfl (by decide) (Nat.le_of_ble_eq_true rfl) (fun p e s m below meth c ls C hw hl => w_X8_unlike C hk h hw hl)
/-! BagPhrases$Setting.packed()J -/
def P_X8_packed_4 (k : Nat) (Q : Int64 → MI → MJ → Prop) (kL4 : Int64 × Int32 × MI × MJ → Prop) : Int64 × Int32 × MI × MJ → Prop := fun z => match z with
  | (x1, x3, I, J) => (((8 : Int32) ≤ x3 → Q x1 I J) ∧ (¬ (8 : Int32) ≤ x3 → vp_in x3 8 ∧ (kL4 ((x1 ||| (((I (k + 1) x3.toNatClampNeg).toInt64) <<< (((5 : Int32) * x3).toInt64 &&& 63))), (x3 + 1), I, J))))
def P_X8_packed (k : Nat) (I : MI) (J : MJ) (Q : Int64 → MI → MJ → Prop) : Prop :=
  lpx (P_X8_packed_4 k Q) ((0 : Int64), (0 : Int32), I, J)
abbrev rmX8_packed : Room := { frames := 0, cells := 0, slots := 0, locals := 0 }
set_option maxHeartbeats 4000000 in
set_option maxRecDepth 100000 in
theorem w_X8_packed_4 {Q : Int64 → MI → MJ → Prop} (C : gC RX8 cX8_packed 4 (some .long) 66 ad cy D (xF ad ts) p s m args meth c) {k : Nat} (hk : isSet k) {kL4 : Int64 × Int32 × MI × MJ → Prop} (hL4 : ∀ {x1 : Int64} {x3 : Int32} {I : MI} {J : MJ} {H : Heap} {locs : List Loc} {ls : Array Slot}, kL4 (x1, x3, I, J) → gH (xS ad cy) 66 ad D s I J H locs → lv_has ls 4 [(0, .ref (ad k)), (1, .long x1), (3, .int x3)] → W p l e rmX8_packed s m args below meth c H locs 0 0 (MQ below (gQl (xS ad cy) 66 ad cy D (xF ad ts) Q) args s 0 0 (gA 66 ad)) (F0 m 4 ls [])) {x1 : Int64} {x3 : Int32} {I : MI} {J : MJ} {H : Heap} {locs : List Loc} {ls : Array Slot} (h : P_X8_packed_4 k Q kL4 (x1, x3, I, J)) (hw : gH (xS ad cy) 66 ad D s I J H locs) (hl : lv_has ls 4 [(0, .ref (ad k)), (1, .long x1), (3, .int x3)]) : W p l e rmX8_packed s m args below meth c H locs 0 0 (MQ below (gQl (xS ad cy) 66 ad cy D (xF ad ts) Q) args s 0 0 (gA 66 ad)) (F0 m 4 ls []) := by
  obtain ⟨hx, hb, hC⟩ := id C
  refine lv_iload_n hx hb dX8_packed_4 rfl (lv_at hl 2 rfl) ?_
  refine lv_bipush (v := 8) hx hb dX8_packed_5 (by decide) ?_
  refine lv_icmp_ge (tgt := 30) hx hb dX8_packed_7 (by decide) (fun c7 => ?_) (fun c7 => ?_)
  · have h := h.1 c7
    refine lv_lload_n hx hb dX8_packed_30 rfl (lv_at hl 1 rfl) ?_
    exact g_lret C hw h dX8_packed_31
  · have h := h.2 c7
    refine lv_lload_n hx hb dX8_packed_10 rfl (lv_at hl 1 rfl) ?_
    refine lv_aload_n hx hb dX8_packed_11 rfl (lv_at hl 0 rfl) ?_
    refine g_get C hw f_RX8_9 (xl_Set0 hk) ((xs_Set0 hk) _ _) rfl dX8_packed_12 ?_
    refine lv_iload_n hx hb dX8_packed_15 rfl (lv_at hl 2 rfl) ?_
    refine g_iald C hw (xl_Set1 hk) (xs_Set1 hk) h.1 dX8_packed_16 ?_
    have h := h.2
    refine lv_i2l hx hb dX8_packed_17 rfl ?_
    refine lv_iconst (v := 5) hx hb dX8_packed_18 (by decide) ?_
    refine lv_iload_n hx hb dX8_packed_19 rfl (lv_at hl 2 rfl) ?_
    refine lv_imul hx hb dX8_packed_20 ?_
    refine lv_lshl hx hb dX8_packed_21 rfl ?_
    refine lv_lor hx hb dX8_packed_22 ?_
    refine lv_lstore_n (lv' := [(1, .long (x1 ||| (((I (k + 1) x3.toNatClampNeg).toInt64) <<< (((5 : Int32) * x3).toInt64 &&& 63)))), (0, .ref (ad k)), (3, .int x3)]) hx hb dX8_packed_23 rfl hl (by decide) rfl (fun ls hl => ?_)
    refine lv_iinc (v := x3 + 1) (lv' := [(3, .int (x3 + 1)), (1, .long (x1 ||| (((I (k + 1) x3.toNatClampNeg).toInt64) <<< (((5 : Int32) * x3).toInt64 &&& 63)))), (0, .ref (ad k))]) hx hb dX8_packed_24 hl (k := 2) rfl rfl (by decide) rfl (fun ls hl => ?_)
    refine lv_goto (tgt := 4) hx hb dX8_packed_27 (by decide) ?_
    exact hL4 h hw (lv_sub hl [2, 1, 0] rfl)
theorem wl_X8_packed_4 {Q : Int64 → MI → MJ → Prop} (C : gC RX8 cX8_packed 4 (some .long) 66 ad cy D (xF ad ts) p s m args meth c) {k : Nat} (hk : isSet k) {x1 : Int64} {x3 : Int32} {I : MI} {J : MJ} {H : Heap} {locs : List Loc} {ls : Array Slot} (h : lpx (P_X8_packed_4 k Q) (x1, x3, I, J)) (hw : gH (xS ad cy) 66 ad D s I J H locs) (hl : lv_has ls 4 [(0, .ref (ad k)), (1, .long x1), (3, .int x3)]) : W p l e rmX8_packed s m args below meth c H locs 0 0 (MQ below (gQl (xS ad cy) 66 ad cy D (xF ad ts) Q) args s 0 0 (gA 66 ad)) (F0 m 4 ls []) := by
  obtain ⟨n, h⟩ := h
  induction n generalizing x1 x3 I J H locs ls with
  | zero => exact False.elim h
  | succ n ih => exact w_X8_packed_4 C hk (fun hk9 hw9 hl9 => ih hw9 hl9 hk9) h hw hl
set_option maxHeartbeats 4000000 in
set_option maxRecDepth 100000 in
theorem w_X8_packed {Q : Int64 → MI → MJ → Prop} (C : gC RX8 cX8_packed 4 (some .long) 66 ad cy D (xF ad ts) p s m args meth c) {k : Nat} (hk : isSet k) {I : MI} {J : MJ} {H : Heap} {locs : List Loc} {ls : Array Slot} (h : P_X8_packed k I J Q) (hw : gH (xS ad cy) 66 ad D s I J H locs) (hl : lv_has ls 4 [(0, .ref (ad k))]) : W p l e rmX8_packed s m args below meth c H locs 0 0 (MQ below (gQl (xS ad cy) 66 ad cy D (xF ad ts) Q) args s 0 0 (gA 66 ad)) (F0 m 0 ls []) := by
  obtain ⟨hx, hb, hC⟩ := id C
  refine lv_lconst (v := 0) hx hb dX8_packed_0 (by decide) ?_
  refine lv_lstore_n (lv' := [(1, .long (0 : Int64)), (0, .ref (ad k))]) hx hb dX8_packed_1 rfl hl (by decide) rfl (fun ls hl => ?_)
  refine lv_iconst (v := 0) hx hb dX8_packed_2 (by decide) ?_
  refine lv_istore_n (lv' := [(3, .int (0 : Int32)), (1, .long (0 : Int64)), (0, .ref (ad k))]) hx hb dX8_packed_3 rfl hl (by decide) rfl (fun ls hl => ?_)
  exact wl_X8_packed_4 C hk h hw (lv_sub hl [2, 1, 0] rfl)
theorem m_X8_packed {l : Launch} {k : Nat} (hk : isSet k) {Q : Int64 → MI → MJ → Prop} {I : MI} {J : MJ} (h : P_X8_packed k I J Q) : Met l yX8_packed (xws yX8_packed cX8_packed 4 (some .long)) rmX8_packed (va_Pc [.ref (ad k)] (gB (xS ad cy) 66 ad cy D (xF ad ts) I J)) (gQl (xS ad cy) 66 ad cy D (xF ad ts) Q) 0 0 (gA 66 ad) :=
  g_met (xF_ok ad ts) rfl (by decide) (Nat.le_of_ble_eq_true rfl) (fun p e s m below meth c ls C hw hl => w_X8_packed C hk h hw hl)
/-! BagPhrases.holds(JJ)Z -/
def P_X11_holds (a0 : Int64) (a1 : Int64) (I : MI) (J : MJ) (Q : Int32 → MI → MJ → Prop) : Prop :=
  ((¬ (((a0 ||| (567489872400 : Int64)) - a1) &&& (567489872400 : Int64)) = (567489872400 : Int64) → Q (0 : Int32) I J) ∧ ((((a0 ||| (567489872400 : Int64)) - a1) &&& (567489872400 : Int64)) = (567489872400 : Int64) → Q (1 : Int32) I J))
abbrev rmX11_holds : Room := { frames := 0, cells := 0, slots := 0, locals := 0 }
set_option maxHeartbeats 4000000 in
set_option maxRecDepth 100000 in
theorem w_X11_holds {Q : Int32 → MI → MJ → Prop} (C : gC RX11 cX11_holds 4 (some .boolean) 66 ad cy D (xF ad ts) p s m args meth c) {a0 : Int64} {a1 : Int64} {I : MI} {J : MJ} {H : Heap} {locs : List Loc} {ls : Array Slot} (h : P_X11_holds a0 a1 I J Q) (hw : gH (xS ad cy) 66 ad D s I J H locs) (hl : lv_has ls 4 [(0, .long a0), (2, .long a1)]) : W p l e rmX11_holds s m args below meth c H locs 0 0 (MQ below (gQz (xS ad cy) 66 ad cy D (xF ad ts) Q) args s 0 0 (gA 66 ad)) (F0 m 0 ls []) := by
  obtain ⟨hx, hb, hC⟩ := id C
  refine lv_lload_n hx hb dX11_holds_0 rfl (lv_at hl 0 rfl) ?_
  refine lv_ldc2 (v := (567489872400)) hx hb hC.2.2.1 (hC.2.2.2.1 _ q_RX11_298) dX11_holds_1 ?_
  refine lv_lor hx hb dX11_holds_4 ?_
  refine lv_lload_n hx hb dX11_holds_5 rfl (lv_at hl 1 rfl) ?_
  refine lv_lsub hx hb dX11_holds_6 ?_
  refine lv_ldc2 (v := (567489872400)) hx hb hC.2.2.1 (hC.2.2.2.1 _ q_RX11_298) dX11_holds_7 ?_
  refine lv_land hx hb dX11_holds_10 ?_
  refine lv_ldc2 (v := (567489872400)) hx hb hC.2.2.1 (hC.2.2.2.1 _ q_RX11_298) dX11_holds_11 ?_
  refine g_lcmp_ne (tgt := 22) hx hb dX11_holds_14 dX11_holds_15 (by decide) (fun c14 => ?_) (fun c14 => ?_)
  · have h := h.1 c14
    refine lv_iconst (v := 0) hx hb dX11_holds_22 (by decide) ?_
    exact g_zret C hw (by decide) h dX11_holds_23
  · have h := h.2 c14
    refine lv_iconst (v := 1) hx hb dX11_holds_18 (by decide) ?_
    refine lv_goto (tgt := 23) hx hb dX11_holds_19 (by decide) ?_
    exact g_zret C hw (by decide) h dX11_holds_23
theorem m_X11_holds {l : Launch} {a0 : Int64} {a1 : Int64} {Q : Int32 → MI → MJ → Prop} {I : MI} {J : MJ} (h : P_X11_holds a0 a1 I J Q) : Met l yX11_holds (xws yX11_holds cX11_holds 4 (some .boolean)) rmX11_holds (va_Pc [.long a0, .long a1] (gB (xS ad cy) 66 ad cy D (xF ad ts) I J)) (gQz (xS ad cy) 66 ad cy D (xF ad ts) Q) 0 0 (gA 66 ad) :=
  g_met (xF_ok ad ts) rfl (by decide) (Nat.le_of_ble_eq_true rfl) (fun p e s m below meth c ls C hw hl => w_X11_holds C  h hw hl)
/-! BagPhrases.fitting()I -/
def P_X11_fitting_49 (Q : Int32 → MI → MJ → Prop) (kL13 : Int64 × Int32 × Int32 × MI × MJ → Prop) (x1 : Int64) (x3 : Int32) (x4 : Int32) (I : MI) (J : MJ) : Prop :=
  kL13 (x1, x3, (x4 + 1), I, J)
def P_X11_fitting_13 (Q : Int32 → MI → MJ → Prop) (kL13 : Int64 × Int32 × Int32 × MI × MJ → Prop) : Int64 × Int32 × Int32 × MI × MJ → Prop := fun z => match z with
  | (x1, x3, x4, I, J) => (((I 12 4) ≤ x4 → Q x3 I J) ∧ (¬ (I 12 4) ≤ x4 → vp_in x4 10 ∧ (P_X11_holds x1 (J 15 x4.toNatClampNeg) I J (fun r36 I36 J36 => ((r36 = 0 → P_X11_fitting_49 Q kL13 x1 x3 x4 I36 J36) ∧ (¬ r36 = 0 → P_X11_fitting_49 Q kL13 x1 (x3 ||| ((1 : Int32) <<< (x4 &&& 31))) x4 I36 J36))))))
def P_X11_fitting (I : MI) (J : MJ) (Q : Int32 → MI → MJ → Prop) : Prop :=
  P_X8_packed 17 I J (fun r4 I4 J4 => lpx (P_X11_fitting_13 Q) (r4, (0 : Int32), (0 : Int32), I4, J4))
abbrev rmX11_fitting : Room := { frames := 1, cells := 0, slots := 0, locals := 23 }
set_option maxHeartbeats 4000000 in
set_option maxRecDepth 100000 in
theorem w_X11_fitting_49 {Q : Int32 → MI → MJ → Prop} (C : gC RX11 cX11_fitting 5 (some .int) 66 ad cy D (xF ad ts) p s m args meth c) {kL13 : Int64 × Int32 × Int32 × MI × MJ → Prop} (hL13 : ∀ {x1 : Int64} {x3 : Int32} {x4 : Int32} {I : MI} {J : MJ} {H : Heap} {locs : List Loc} {ls : Array Slot}, kL13 (x1, x3, x4, I, J) → gH (xS ad cy) 66 ad D s I J H locs → lv_has ls 5 [(0, .ref (ad 0)), (1, .long x1), (3, .int x3), (4, .int x4)] → W p l e rmX11_fitting s m args below meth c H locs 0 0 (MQ below (gQi (xS ad cy) 66 ad cy D (xF ad ts) Q) args s 0 0 (gA 66 ad)) (F0 m 13 ls [])) {x1 : Int64} {x3 : Int32} {x4 : Int32} {I : MI} {J : MJ} {H : Heap} {locs : List Loc} {ls : Array Slot} (h : P_X11_fitting_49 Q kL13 x1 x3 x4 I J) (hw : gH (xS ad cy) 66 ad D s I J H locs) (hl : lv_has ls 5 [(0, .ref (ad 0)), (1, .long x1), (3, .int x3), (4, .int x4)]) : W p l e rmX11_fitting s m args below meth c H locs 0 0 (MQ below (gQi (xS ad cy) 66 ad cy D (xF ad ts) Q) args s 0 0 (gA 66 ad)) (F0 m 49 ls []) := by
  obtain ⟨hx, hb, hC⟩ := id C
  refine lv_iinc (v := x4 + 1) (lv' := [(4, .int (x4 + 1)), (0, .ref (ad 0)), (1, .long x1), (3, .int x3)]) hx hb dX11_fitting_49 hl (k := 3) rfl rfl (by decide) rfl (fun ls hl => ?_)
  refine lv_goto (tgt := 13) hx hb dX11_fitting_52 (by decide) ?_
  exact hL13 h hw (lv_sub hl [1, 2, 3, 0] rfl)
set_option maxHeartbeats 4000000 in
set_option maxRecDepth 100000 in
theorem w_X11_fitting_13 {Q : Int32 → MI → MJ → Prop} (C : gC RX11 cX11_fitting 5 (some .int) 66 ad cy D (xF ad ts) p s m args meth c) {kL13 : Int64 × Int32 × Int32 × MI × MJ → Prop} (hL13 : ∀ {x1 : Int64} {x3 : Int32} {x4 : Int32} {I : MI} {J : MJ} {H : Heap} {locs : List Loc} {ls : Array Slot}, kL13 (x1, x3, x4, I, J) → gH (xS ad cy) 66 ad D s I J H locs → lv_has ls 5 [(0, .ref (ad 0)), (1, .long x1), (3, .int x3), (4, .int x4)] → W p l e rmX11_fitting s m args below meth c H locs 0 0 (MQ below (gQi (xS ad cy) 66 ad cy D (xF ad ts) Q) args s 0 0 (gA 66 ad)) (F0 m 13 ls [])) {x1 : Int64} {x3 : Int32} {x4 : Int32} {I : MI} {J : MJ} {H : Heap} {locs : List Loc} {ls : Array Slot} (h : P_X11_fitting_13 Q kL13 (x1, x3, x4, I, J)) (hw : gH (xS ad cy) 66 ad D s I J H locs) (hl : lv_has ls 5 [(0, .ref (ad 0)), (1, .long x1), (3, .int x3), (4, .int x4)]) : W p l e rmX11_fitting s m args below meth c H locs 0 0 (MQ below (gQi (xS ad cy) 66 ad cy D (xF ad ts) Q) args s 0 0 (gA 66 ad)) (F0 m 13 ls []) := by
  obtain ⟨hx, hb, hC⟩ := id C
  refine lv_iload hx hb dX11_fitting_13 (lv_at hl 3 rfl) ?_
  refine lv_aload_n hx hb dX11_fitting_15 rfl (lv_at hl 0 rfl) ?_
  refine g_get C hw f_RX11_19 xl_0 (xs_0 _ _) rfl dX11_fitting_16 ?_
  refine g_get C hw f_RX11_119 xl_12 (xs_12 _ _) rfl dX11_fitting_19 ?_
  refine lv_icmp_ge (tgt := 55) hx hb dX11_fitting_22 (by decide) (fun c22 => ?_) (fun c22 => ?_)
  · have h := h.1 c22
    refine lv_iload_n hx hb dX11_fitting_55 rfl (lv_at hl 2 rfl) ?_
    exact g_iret C hw h dX11_fitting_56
  · have h := h.2 c22
    refine lv_lload_n hx hb dX11_fitting_25 rfl (lv_at hl 1 rfl) ?_
    refine lv_aload_n hx hb dX11_fitting_26 rfl (lv_at hl 0 rfl) ?_
    refine g_get C hw f_RX11_19 xl_0 (xs_0 _ _) rfl dX11_fitting_27 ?_
    refine g_get C hw f_RX11_290 xl_12 (xs_12 _ _) rfl dX11_fitting_30 ?_
    refine lv_iload hx hb dX11_fitting_33 (lv_at hl 3 rfl) ?_
    refine g_lald C hw xl_15 xs_15 h.1 dX11_fitting_35 ?_
    have h := h.2
    refine g_cz hw (g_rS [.long x1, .long (J 15 x4.toNatClampNeg)] [] C hw (m_X11_holds h) k_X11_holds q_RX11_294 rfl hl.1 rfl (Nat.le_of_ble_eq_true rfl) ⟨⟨rfl, rfl⟩, Nat.le_of_ble_eq_true rfl, Nat.le_of_ble_eq_true rfl⟩ ⟨Nat.zero_le _, Nat.zero_le _⟩ dX11_fitting_36) (fun r36 I36 J36 H locs z36 h hw => ?_)
    refine lv_if_eq (tgt := 49) hx hb dX11_fitting_39 (by decide) (fun c39 => ?_) (fun c39 => ?_)
    · have h := h.1 c39
      exact w_X11_fitting_49 C hL13 h hw (lv_sub hl [0, 1, 2, 3] rfl)
    · have h := h.2 c39
      refine lv_iload_n hx hb dX11_fitting_42 rfl (lv_at hl 2 rfl) ?_
      refine lv_iconst (v := 1) hx hb dX11_fitting_43 (by decide) ?_
      refine lv_iload hx hb dX11_fitting_44 (lv_at hl 3 rfl) ?_
      refine lv_ishl hx hb dX11_fitting_46 ?_
      refine lv_ior hx hb dX11_fitting_47 ?_
      refine lv_istore_n (lv' := [(3, .int (x3 ||| ((1 : Int32) <<< (x4 &&& 31)))), (0, .ref (ad 0)), (1, .long x1), (4, .int x4)]) hx hb dX11_fitting_48 rfl hl (by decide) rfl (fun ls hl => ?_)
      exact w_X11_fitting_49 C hL13 h hw (lv_sub hl [1, 2, 0, 3] rfl)
theorem wl_X11_fitting_13 {Q : Int32 → MI → MJ → Prop} (C : gC RX11 cX11_fitting 5 (some .int) 66 ad cy D (xF ad ts) p s m args meth c) {x1 : Int64} {x3 : Int32} {x4 : Int32} {I : MI} {J : MJ} {H : Heap} {locs : List Loc} {ls : Array Slot} (h : lpx (P_X11_fitting_13 Q) (x1, x3, x4, I, J)) (hw : gH (xS ad cy) 66 ad D s I J H locs) (hl : lv_has ls 5 [(0, .ref (ad 0)), (1, .long x1), (3, .int x3), (4, .int x4)]) : W p l e rmX11_fitting s m args below meth c H locs 0 0 (MQ below (gQi (xS ad cy) 66 ad cy D (xF ad ts) Q) args s 0 0 (gA 66 ad)) (F0 m 13 ls []) := by
  obtain ⟨n, h⟩ := h
  induction n generalizing x1 x3 x4 I J H locs ls with
  | zero => exact False.elim h
  | succ n ih => exact w_X11_fitting_13 C  (fun hk9 hw9 hl9 => ih hw9 hl9 hk9) h hw hl
set_option maxHeartbeats 4000000 in
set_option maxRecDepth 100000 in
theorem w_X11_fitting {Q : Int32 → MI → MJ → Prop} (C : gC RX11 cX11_fitting 5 (some .int) 66 ad cy D (xF ad ts) p s m args meth c) {I : MI} {J : MJ} {H : Heap} {locs : List Loc} {ls : Array Slot} (h : P_X11_fitting I J Q) (hw : gH (xS ad cy) 66 ad D s I J H locs) (hl : lv_has ls 5 [(0, .ref (ad 0))]) : W p l e rmX11_fitting s m args below meth c H locs 0 0 (MQ below (gQi (xS ad cy) 66 ad cy D (xF ad ts) Q) args s 0 0 (gA 66 ad)) (F0 m 0 ls []) := by
  obtain ⟨hx, hb, hC⟩ := id C
  refine lv_aload_n hx hb dX11_fitting_0 rfl (lv_at hl 0 rfl) ?_
  refine g_get C hw f_RX11_26 xl_0 (xs_0 _ _) rfl dX11_fitting_1 ?_
  refine g_cl hw (g_rV [] [] C hw (m_X8_packed isSet_17 h) k_X8_packed q_RX11_287 xl_17 (xs_17 _ _) rfl rfl hl.1 rfl (Nat.le_of_ble_eq_true rfl) ⟨⟨rfl, rfl⟩, Nat.le_of_ble_eq_true rfl, Nat.le_of_ble_eq_true rfl⟩ ⟨Nat.zero_le _, Nat.zero_le _⟩ dX11_fitting_4) (fun r4 I4 J4 H locs h hw => ?_)
  refine lv_lstore_n (lv' := [(1, .long r4), (0, .ref (ad 0))]) hx hb dX11_fitting_7 rfl hl (by decide) rfl (fun ls hl => ?_)
  refine lv_iconst (v := 0) hx hb dX11_fitting_8 (by decide) ?_
  refine lv_istore_n (lv' := [(3, .int (0 : Int32)), (1, .long r4), (0, .ref (ad 0))]) hx hb dX11_fitting_9 rfl hl (by decide) rfl (fun ls hl => ?_)
  refine lv_iconst (v := 0) hx hb dX11_fitting_10 (by decide) ?_
  refine lv_istore (lv' := [(4, .int (0 : Int32)), (3, .int (0 : Int32)), (1, .long r4), (0, .ref (ad 0))]) hx hb dX11_fitting_11 hl (by decide) rfl (fun ls hl => ?_)
  exact wl_X11_fitting_13 C  h hw (lv_sub hl [3, 2, 1, 0] rfl)
theorem m_X11_fitting {l : Launch} {Q : Int32 → MI → MJ → Prop} {I : MI} {J : MJ} (h : P_X11_fitting I J Q) : Met l yX11_fitting (xws yX11_fitting cX11_fitting 5 (some .int)) rmX11_fitting (va_Pc [.ref (ad 0)] (gB (xS ad cy) 66 ad cy D (xF ad ts) I J)) (gQi (xS ad cy) 66 ad cy D (xF ad ts) Q) 0 0 (gA 66 ad) :=
  g_met (xF_ok ad ts) rfl (by decide) (Nat.le_of_ble_eq_true rfl) (fun p e s m below meth c ls C hw hl => w_X11_fitting C  h hw hl)
/-! BagPhrases$Lattice.measure()V -/
def P_X4_measure_57 (Q : MI → MJ → Prop) (s1 : Int32) (I : MI) (J : MJ) : Prop :=
  (∀ I57 : MI, I57 = mI I 46 11 s1 → Q I57 J)
def P_X4_measure_56 (Q : MI → MJ → Prop) (I : MI) (J : MJ) : Prop :=
  P_X4_measure_57 Q (0 : Int32) I J
def P_X4_measure_4 (Q : MI → MJ → Prop) (kL4 : Int32 × Int32 × MI × MJ → Prop) : Int32 × Int32 × MI × MJ → Prop := fun z => match z with
  | (x1, x2, I, J) => (((8 : Int32) ≤ x2 → ((x1 < (1 : Int32) → P_X4_measure_56 Q I J) ∧ (¬ x1 < (1 : Int32) → (((1944 : Int32) < x1 → P_X4_measure_56 Q I J) ∧ (¬ (1944 : Int32) < x1 → P_X4_measure_57 Q (x1 - (1 : Int32)) I J))))) ∧ (¬ (8 : Int32) ≤ x2 → vp_in x2 8 ∧ (∀ I16 : MI, I16 = mI I 51 x2.toNatClampNeg x1 → vp_in x2 8 ∧ (kL4 ((x1 * ((I16 18 x2.toNatClampNeg) + (1 : Int32))), (x2 + 1), I16, J)))))
def P_X4_measure (I : MI) (J : MJ) (Q : MI → MJ → Prop) : Prop :=
  lpx (P_X4_measure_4 Q) ((1 : Int32), (0 : Int32), I, J)
abbrev rmX4_measure : Room := { frames := 0, cells := 0, slots := 0, locals := 0 }
set_option maxHeartbeats 4000000 in
set_option maxRecDepth 100000 in
theorem w_X4_measure_57 {Q : MI → MJ → Prop} (C : gC RX4 cX4_measure 3 none 66 ad cy D (xF ad ts) p s m args meth c) {s1 : Int32} {I : MI} {J : MJ} {H : Heap} {locs : List Loc} {ls : Array Slot} (h : P_X4_measure_57 Q s1 I J) (hw : gH (xS ad cy) 66 ad D s I J H locs) (hl : lv_has ls 3 []) : W p l e rmX4_measure s m args below meth c H locs 0 0 (MQ below (gQv (xS ad cy) 66 ad cy D (xF ad ts) Q) args s 0 0 (gA 66 ad)) (F0 m 57 ls [.int s1, .ref (ad 46)]) := by
  obtain ⟨hx, hb, hC⟩ := id C
  refine g_putI C hw fp_RX4_41 xl_46 xs_46 (st_4_11 ad _) (Nat.le_of_ble_eq_true rfl) rfl rfl dX4_measure_57 (fun H locs hw => ?_)
  obtain ⟨I57, e57⟩ : ∃ z : MI, z = mI I 46 11 s1 := ⟨_, rfl⟩
  have h := h I57 e57
  rw [← e57] at hw
  exact g_vret C hw h dX4_measure_60
set_option maxHeartbeats 4000000 in
set_option maxRecDepth 100000 in
theorem w_X4_measure_56 {Q : MI → MJ → Prop} (C : gC RX4 cX4_measure 3 none 66 ad cy D (xF ad ts) p s m args meth c) {I : MI} {J : MJ} {H : Heap} {locs : List Loc} {ls : Array Slot} (h : P_X4_measure_56 Q I J) (hw : gH (xS ad cy) 66 ad D s I J H locs) (hl : lv_has ls 3 []) : W p l e rmX4_measure s m args below meth c H locs 0 0 (MQ below (gQv (xS ad cy) 66 ad cy D (xF ad ts) Q) args s 0 0 (gA 66 ad)) (F0 m 56 ls [.ref (ad 46)]) := by
  obtain ⟨hx, hb, hC⟩ := id C
  refine lv_iconst (v := 0) hx hb dX4_measure_56 (by decide) ?_
  exact w_X4_measure_57 C  h hw (lv_sub hl [] rfl)
set_option maxHeartbeats 4000000 in
set_option maxRecDepth 100000 in
theorem w_X4_measure_4 {Q : MI → MJ → Prop} (C : gC RX4 cX4_measure 3 none 66 ad cy D (xF ad ts) p s m args meth c) {kL4 : Int32 × Int32 × MI × MJ → Prop} (hL4 : ∀ {x1 : Int32} {x2 : Int32} {I : MI} {J : MJ} {H : Heap} {locs : List Loc} {ls : Array Slot}, kL4 (x1, x2, I, J) → gH (xS ad cy) 66 ad D s I J H locs → lv_has ls 3 [(0, .ref (ad 46)), (1, .int x1), (2, .int x2)] → W p l e rmX4_measure s m args below meth c H locs 0 0 (MQ below (gQv (xS ad cy) 66 ad cy D (xF ad ts) Q) args s 0 0 (gA 66 ad)) (F0 m 4 ls [])) {x1 : Int32} {x2 : Int32} {I : MI} {J : MJ} {H : Heap} {locs : List Loc} {ls : Array Slot} (h : P_X4_measure_4 Q kL4 (x1, x2, I, J)) (hw : gH (xS ad cy) 66 ad D s I J H locs) (hl : lv_has ls 3 [(0, .ref (ad 46)), (1, .int x1), (2, .int x2)]) : W p l e rmX4_measure s m args below meth c H locs 0 0 (MQ below (gQv (xS ad cy) 66 ad cy D (xF ad ts) Q) args s 0 0 (gA 66 ad)) (F0 m 4 ls []) := by
  obtain ⟨hx, hb, hC⟩ := id C
  refine lv_iload_n hx hb dX4_measure_4 rfl (lv_at hl 2 rfl) ?_
  refine lv_bipush (v := 8) hx hb dX4_measure_5 (by decide) ?_
  refine lv_icmp_ge (tgt := 37) hx hb dX4_measure_7 (by decide) (fun c7 => ?_) (fun c7 => ?_)
  · have h := h.1 c7
    refine lv_aload_n hx hb dX4_measure_37 rfl (lv_at hl 0 rfl) ?_
    refine lv_iload_n hx hb dX4_measure_38 rfl (lv_at hl 1 rfl) ?_
    refine lv_iconst (v := 1) hx hb dX4_measure_39 (by decide) ?_
    refine lv_icmp_lt (tgt := 56) hx hb dX4_measure_40 (by decide) (fun c40 => ?_) (fun c40 => ?_)
    · have h := h.1 c40
      exact w_X4_measure_56 C  h hw (lv_sub hl [] rfl)
    · have h := h.2 c40
      refine lv_iload_n hx hb dX4_measure_43 rfl (lv_at hl 1 rfl) ?_
      refine lv_sipush (v := 1944) hx hb dX4_measure_44 (by decide) ?_
      refine lv_icmp_gt (tgt := 56) hx hb dX4_measure_47 (by decide) (fun c47 => ?_) (fun c47 => ?_)
      · have h := h.1 c47
        exact w_X4_measure_56 C  h hw (lv_sub hl [] rfl)
      · have h := h.2 c47
        refine lv_iload_n hx hb dX4_measure_50 rfl (lv_at hl 1 rfl) ?_
        refine lv_iconst (v := 1) hx hb dX4_measure_51 (by decide) ?_
        refine lv_isub hx hb dX4_measure_52 ?_
        refine lv_goto (tgt := 57) hx hb dX4_measure_53 (by decide) ?_
        exact w_X4_measure_57 C  h hw (lv_sub hl [] rfl)
  · have h := h.2 c7
    refine lv_aload_n hx hb dX4_measure_10 rfl (lv_at hl 0 rfl) ?_
    refine g_get C hw f_RX4_25 xl_46 (xs_46 _ _) rfl dX4_measure_11 ?_
    refine lv_iload_n hx hb dX4_measure_14 rfl (lv_at hl 2 rfl) ?_
    refine lv_iload_n hx hb dX4_measure_15 rfl (lv_at hl 1 rfl) ?_
    refine g_iast C hw xl_51 xs_51 h.1 dX4_measure_16 (fun H locs hw => ?_)
    have h := h.2
    obtain ⟨I16, e16⟩ : ∃ z : MI, z = mI I 51 x2.toNatClampNeg x1 := ⟨_, rfl⟩
    have h := h I16 e16
    rw [← e16] at hw
    refine lv_iload_n hx hb dX4_measure_17 rfl (lv_at hl 1 rfl) ?_
    refine lv_aload_n hx hb dX4_measure_18 rfl (lv_at hl 0 rfl) ?_
    refine g_get C hw f_RX4_48 xl_46 (xs_46 _ _) rfl dX4_measure_19 ?_
    refine g_get C hw f_RX4_69 xl_17 (xs_17 _ _) rfl dX4_measure_22 ?_
    refine lv_iload_n hx hb dX4_measure_25 rfl (lv_at hl 2 rfl) ?_
    refine g_iald C hw xl_18 xs_18 h.1 dX4_measure_26 ?_
    have h := h.2
    refine lv_iconst (v := 1) hx hb dX4_measure_27 (by decide) ?_
    refine lv_iadd hx hb dX4_measure_28 ?_
    refine lv_imul hx hb dX4_measure_29 ?_
    refine lv_istore_n (lv' := [(1, .int (x1 * ((I16 18 x2.toNatClampNeg) + (1 : Int32)))), (0, .ref (ad 46)), (2, .int x2)]) hx hb dX4_measure_30 rfl hl (by decide) rfl (fun ls hl => ?_)
    refine lv_iinc (v := x2 + 1) (lv' := [(2, .int (x2 + 1)), (1, .int (x1 * ((I16 18 x2.toNatClampNeg) + (1 : Int32)))), (0, .ref (ad 46))]) hx hb dX4_measure_31 hl (k := 2) rfl rfl (by decide) rfl (fun ls hl => ?_)
    refine lv_goto (tgt := 4) hx hb dX4_measure_34 (by decide) ?_
    exact hL4 h hw (lv_sub hl [2, 1, 0] rfl)
theorem wl_X4_measure_4 {Q : MI → MJ → Prop} (C : gC RX4 cX4_measure 3 none 66 ad cy D (xF ad ts) p s m args meth c) {x1 : Int32} {x2 : Int32} {I : MI} {J : MJ} {H : Heap} {locs : List Loc} {ls : Array Slot} (h : lpx (P_X4_measure_4 Q) (x1, x2, I, J)) (hw : gH (xS ad cy) 66 ad D s I J H locs) (hl : lv_has ls 3 [(0, .ref (ad 46)), (1, .int x1), (2, .int x2)]) : W p l e rmX4_measure s m args below meth c H locs 0 0 (MQ below (gQv (xS ad cy) 66 ad cy D (xF ad ts) Q) args s 0 0 (gA 66 ad)) (F0 m 4 ls []) := by
  obtain ⟨n, h⟩ := h
  induction n generalizing x1 x2 I J H locs ls with
  | zero => exact False.elim h
  | succ n ih => exact w_X4_measure_4 C  (fun hk9 hw9 hl9 => ih hw9 hl9 hk9) h hw hl
set_option maxHeartbeats 4000000 in
set_option maxRecDepth 100000 in
theorem w_X4_measure {Q : MI → MJ → Prop} (C : gC RX4 cX4_measure 3 none 66 ad cy D (xF ad ts) p s m args meth c) {I : MI} {J : MJ} {H : Heap} {locs : List Loc} {ls : Array Slot} (h : P_X4_measure I J Q) (hw : gH (xS ad cy) 66 ad D s I J H locs) (hl : lv_has ls 3 [(0, .ref (ad 46))]) : W p l e rmX4_measure s m args below meth c H locs 0 0 (MQ below (gQv (xS ad cy) 66 ad cy D (xF ad ts) Q) args s 0 0 (gA 66 ad)) (F0 m 0 ls []) := by
  obtain ⟨hx, hb, hC⟩ := id C
  refine lv_iconst (v := 1) hx hb dX4_measure_0 (by decide) ?_
  refine lv_istore_n (lv' := [(1, .int (1 : Int32)), (0, .ref (ad 46))]) hx hb dX4_measure_1 rfl hl (by decide) rfl (fun ls hl => ?_)
  refine lv_iconst (v := 0) hx hb dX4_measure_2 (by decide) ?_
  refine lv_istore_n (lv' := [(2, .int (0 : Int32)), (1, .int (1 : Int32)), (0, .ref (ad 46))]) hx hb dX4_measure_3 rfl hl (by decide) rfl (fun ls hl => ?_)
  exact wl_X4_measure_4 C  h hw (lv_sub hl [2, 1, 0] rfl)
theorem m_X4_measure {l : Launch} {Q : MI → MJ → Prop} {I : MI} {J : MJ} (h : P_X4_measure I J Q) : Met l yX4_measure (xws yX4_measure cX4_measure 3 none) rmX4_measure (va_Pc [.ref (ad 46)] (gB (xS ad cy) 66 ad cy D (xF ad ts) I J)) (gQv (xS ad cy) 66 ad cy D (xF ad ts) Q) 0 0 (gA 66 ad) :=
  g_met (xF_ok ad ts) rfl (by decide) (Nat.le_of_ble_eq_true rfl) (fun p e s m below meth c ls C hw hl => w_X4_measure C  h hw hl)
end
