section
variable {p : Program} {l : Launch} {e : Env} {s : State} {m : MethodId} {args : Array Value} {below : List Frame} {meth : Method} {c : Code} {ad : Nat → Nat} {cy : Nat → ClassId} {D : va_G} {ts : Nat → Nat}
/-! BagPhrases.phrase(JI)I -/
def P_X11_phrase (a0 : Int64) (a1 : Int32) (I : MI) (J : MJ) (Q : Int32 → MI → MJ → Prop) : Prop :=
  ((a0 < (0 : Int64) → Q (-1 : Int32) I J) ∧ (¬ a0 < (0 : Int64) → P_X6_count I J (fun r11 I11 J11 => ((a0 < r11 → ((a1 < 0 → Q (-2 : Int32) I11 J11) ∧ (¬ a1 < 0 → ((a1 ≤ (13 : Int32) → P_X6_findNumbered a0 I11 J11 (fun I38 J38 => ((¬ a1 = 0 → ((a1 ≤ (12 : Int32) → P_X6_foundWord (a1 - (1 : Int32)) I38 J38 (fun r76 I76 J76 => Q r76 I76 J76)) ∧ (¬ a1 ≤ (12 : Int32) → P_X6_foundWorth I38 J38 (fun r63 I63 J63 => Q r63 I63 J63)))) ∧ (a1 = 0 → Q (I38 39 10) I38 J38)))) ∧ (¬ a1 ≤ (13 : Int32) → Q (-2 : Int32) I11 J11))))) ∧ (¬ a0 < r11 → Q (-1 : Int32) I11 J11)))))
abbrev rmX11_phrase : Room := { frames := 6, cells := 0, slots := 0, locals := 165 }
set_option maxHeartbeats 4000000 in
set_option maxRecDepth 100000 in
theorem w_X11_phrase {Q : Int32 → MI → MJ → Prop} (C : gC RX11 cX11_phrase 4 (some .int) 66 ad cy D (xF ad ts) p s m args meth c) {a0 : Int64} {a1 : Int32} {I : MI} {J : MJ} {H : Heap} {locs : List Loc} {ls : Array Slot} (h : P_X11_phrase a0 a1 I J Q) (hw : gH (xS ad cy) 66 ad D s I J H locs) (hl : lv_has ls 4 [(0, .ref (ad 0)), (1, .long a0), (3, .int a1)]) : W p l e rmX11_phrase s m args below meth c H locs 0 0 (MQ below (gQi (xS ad cy) 66 ad cy D (xF ad ts) Q) args s 0 0 (gA 66 ad)) (F0 m 0 ls []) := by
  obtain ⟨hx, hb, hC⟩ := id C
  refine lv_lload_n hx hb dX11_phrase_0 rfl (lv_at hl 1 rfl) ?_
  refine lv_lconst (v := 0) hx hb dX11_phrase_1 (by decide) ?_
  refine g_lcmp_lt (tgt := 18) hx hb dX11_phrase_2 dX11_phrase_3 (by decide) (fun c2 => ?_) (fun c2 => ?_)
  · have h := h.1 c2
    refine lv_iconst (v := -1) hx hb dX11_phrase_18 (by decide) ?_
    exact g_iret C hw h dX11_phrase_19
  · have h := h.2 c2
    refine lv_lload_n hx hb dX11_phrase_6 rfl (lv_at hl 1 rfl) ?_
    refine lv_aload_n hx hb dX11_phrase_7 rfl (lv_at hl 0 rfl) ?_
    refine g_get C hw f_RX11_53 xl_0 (xs_0 _ _) rfl dX11_phrase_8 ?_
    refine g_cl hw (g_rV [] [.long a0] C hw (m_X6_count h) k_X6_count q_RX11_202 xl_39 (xs_39 _ _) rfl rfl hl.1 rfl (Nat.le_of_ble_eq_true rfl) ⟨⟨rfl, rfl⟩, Nat.le_of_ble_eq_true rfl, Nat.le_of_ble_eq_true rfl⟩ ⟨Nat.zero_le _, Nat.zero_le _⟩ dX11_phrase_11) (fun r11 I11 J11 H locs h hw => ?_)
    refine g_lcmp_lt (tgt := 20) hx hb dX11_phrase_14 dX11_phrase_15 (by decide) (fun c14 => ?_) (fun c14 => ?_)
    · have h := h.1 c14
      refine lv_iload_n hx hb dX11_phrase_20 rfl (lv_at hl 2 rfl) ?_
      refine lv_if_lt (tgt := 30) hx hb dX11_phrase_21 (by decide) (fun c21 => ?_) (fun c21 => ?_)
      · have h := h.1 c21
        refine lv_bipush (v := -2) hx hb dX11_phrase_30 (by decide) ?_
        exact g_iret C hw h dX11_phrase_32
      · have h := h.2 c21
        refine lv_iload_n hx hb dX11_phrase_24 rfl (lv_at hl 2 rfl) ?_
        refine lv_bipush (v := 13) hx hb dX11_phrase_25 (by decide) ?_
        refine lv_icmp_le (tgt := 33) hx hb dX11_phrase_27 (by decide) (fun c27 => ?_) (fun c27 => ?_)
        · have h := h.1 c27
          refine lv_aload_n hx hb dX11_phrase_33 rfl (lv_at hl 0 rfl) ?_
          refine g_get C hw f_RX11_53 xl_0 (xs_0 _ _) rfl dX11_phrase_34 ?_
          refine lv_lload_n hx hb dX11_phrase_37 rfl (lv_at hl 1 rfl) ?_
          refine g_cv hw (g_rV [.long a0] [] C hw (m_X6_findNumbered h) k_X6_findNumbered q_RX11_227 xl_39 (xs_39 _ _) rfl rfl hl.1 rfl (Nat.le_of_ble_eq_true rfl) ⟨⟨rfl, rfl⟩, Nat.le_of_ble_eq_true rfl, Nat.le_of_ble_eq_true rfl⟩ ⟨Nat.zero_le _, Nat.zero_le _⟩ dX11_phrase_38) (fun I38 J38 H locs h hw => ?_)
          refine lv_iload_n hx hb dX11_phrase_41 rfl (lv_at hl 2 rfl) ?_
          refine lv_if_ne (tgt := 53) hx hb dX11_phrase_42 (by decide) (fun c42 => ?_) (fun c42 => ?_)
          · have h := h.1 c42
            refine lv_iload_n hx hb dX11_phrase_53 rfl (lv_at hl 2 rfl) ?_
            refine lv_bipush (v := 12) hx hb dX11_phrase_54 (by decide) ?_
            refine lv_icmp_le (tgt := 69) hx hb dX11_phrase_56 (by decide) (fun c56 => ?_) (fun c56 => ?_)
            · have h := h.1 c56
              refine lv_aload_n hx hb dX11_phrase_69 rfl (lv_at hl 0 rfl) ?_
              refine g_get C hw f_RX11_53 xl_0 (xs_0 _ _) rfl dX11_phrase_70 ?_
              refine lv_iload_n hx hb dX11_phrase_73 rfl (lv_at hl 2 rfl) ?_
              refine lv_iconst (v := 1) hx hb dX11_phrase_74 (by decide) ?_
              refine lv_isub hx hb dX11_phrase_75 ?_
              refine g_ci hw (g_rV [.int (a1 - (1 : Int32))] [] C hw (m_X6_foundWord h) k_X6_foundWord q_RX11_224 xl_39 (xs_39 _ _) rfl rfl hl.1 rfl (Nat.le_of_ble_eq_true rfl) ⟨⟨rfl, rfl⟩, Nat.le_of_ble_eq_true rfl, Nat.le_of_ble_eq_true rfl⟩ ⟨Nat.zero_le _, Nat.zero_le _⟩ dX11_phrase_76) (fun r76 I76 J76 H locs h hw => ?_)
              exact g_iret C hw h dX11_phrase_79
            · have h := h.2 c56
              refine lv_aload_n hx hb dX11_phrase_59 rfl (lv_at hl 0 rfl) ?_
              refine g_get C hw f_RX11_53 xl_0 (xs_0 _ _) rfl dX11_phrase_60 ?_
              refine g_ci hw (g_rV [] [] C hw (m_X6_foundWorth h) k_X6_foundWorth q_RX11_218 xl_39 (xs_39 _ _) rfl rfl hl.1 rfl (Nat.le_of_ble_eq_true rfl) ⟨⟨rfl, rfl⟩, Nat.le_of_ble_eq_true rfl, Nat.le_of_ble_eq_true rfl⟩ ⟨Nat.zero_le _, Nat.zero_le _⟩ dX11_phrase_63) (fun r63 I63 J63 H locs h hw => ?_)
              refine lv_goto (tgt := 79) hx hb dX11_phrase_66 (by decide) ?_
              exact g_iret C hw h dX11_phrase_79
          · have h := h.2 c42
            refine lv_aload_n hx hb dX11_phrase_45 rfl (lv_at hl 0 rfl) ?_
            refine g_get C hw f_RX11_53 xl_0 (xs_0 _ _) rfl dX11_phrase_46 ?_
            refine g_get C hw f_RX11_221 xl_39 (xs_39 _ _) rfl dX11_phrase_49 ?_
            exact g_iret C hw h dX11_phrase_52
        · have h := h.2 c27
          refine lv_bipush (v := -2) hx hb dX11_phrase_30 (by decide) ?_
          exact g_iret C hw h dX11_phrase_32
    · have h := h.2 c14
      refine lv_iconst (v := -1) hx hb dX11_phrase_18 (by decide) ?_
      exact g_iret C hw h dX11_phrase_19
theorem m_X11_phrase {l : Launch} {a0 : Int64} {a1 : Int32} {Q : Int32 → MI → MJ → Prop} {I : MI} {J : MJ} (h : P_X11_phrase a0 a1 I J Q) : Met l yX11_phrase (xws yX11_phrase cX11_phrase 4 (some .int)) rmX11_phrase (va_Pc [.ref (ad 0), .long a0, .int a1] (gB (xS ad cy) 66 ad cy D (xF ad ts) I J)) (gQi (xS ad cy) 66 ad cy D (xF ad ts) Q) 0 0 (gA 66 ad) :=
  g_met (xF_ok ad ts) rfl (by decide) (Nat.le_of_ble_eq_true rfl) (fun p e s m below meth c ls C hw hl => w_X11_phrase C  h hw hl)
/-! BagPhrases.tell(I)I -/
def P_X11_tell (a0 : Int32) (I : MI) (J : MJ) (Q : Int32 → MI → MJ → Prop) : Prop :=
  P_X5_has 12 a0 I J (fun r5 I5 J5 => ((¬ r5 = 0 → (((I5 0 14) < (12 : Int32) → vp_in (I5 0 14) 12 ∧ (∀ I34 : MI, I34 = mI I5 61 (I5 0 14).toNatClampNeg a0 → (∀ I42 : MI, I42 = mI I34 0 14 ((I34 0 14) + (1 : Int32)) → Q (I42 0 14) I42 J5))) ∧ (¬ (I5 0 14) < (12 : Int32) → Q (-4 : Int32) I5 J5))) ∧ (r5 = 0 → Q (-1 : Int32) I5 J5)))
abbrev rmX11_tell : Room := { frames := 1, cells := 0, slots := 0, locals := 21 }
set_option maxHeartbeats 4000000 in
set_option maxRecDepth 100000 in
theorem w_X11_tell {Q : Int32 → MI → MJ → Prop} (C : gC RX11 cX11_tell 2 (some .int) 66 ad cy D (xF ad ts) p s m args meth c) {a0 : Int32} {I : MI} {J : MJ} {H : Heap} {locs : List Loc} {ls : Array Slot} (h : P_X11_tell a0 I J Q) (hw : gH (xS ad cy) 66 ad D s I J H locs) (hl : lv_has ls 2 [(0, .ref (ad 0)), (1, .int a0)]) : W p l e rmX11_tell s m args below meth c H locs 0 0 (MQ below (gQi (xS ad cy) 66 ad cy D (xF ad ts) Q) args s 0 0 (gA 66 ad)) (F0 m 0 ls []) := by
  obtain ⟨hx, hb, hC⟩ := id C
  refine lv_aload_n hx hb dX11_tell_0 rfl (lv_at hl 0 rfl) ?_
  refine g_get C hw f_RX11_19 xl_0 (xs_0 _ _) rfl dX11_tell_1 ?_
  refine lv_iload_n hx hb dX11_tell_4 rfl (lv_at hl 1 rfl) ?_
  refine g_cz hw (g_rV [.int a0] [] C hw (m_X5_has isLex_12 h) k_X5_has q_RX11_149 xl_12 (xs_12 _ _) rfl rfl hl.1 rfl (Nat.le_of_ble_eq_true rfl) ⟨⟨rfl, rfl⟩, Nat.le_of_ble_eq_true rfl, Nat.le_of_ble_eq_true rfl⟩ ⟨Nat.zero_le _, Nat.zero_le _⟩ dX11_tell_5) (fun r5 I5 J5 H locs z5 h hw => ?_)
  refine lv_if_ne (tgt := 13) hx hb dX11_tell_8 (by decide) (fun c8 => ?_) (fun c8 => ?_)
  · have h := h.1 c8
    refine lv_aload_n hx hb dX11_tell_13 rfl (lv_at hl 0 rfl) ?_
    refine g_get C hw f_RX11_82 xl_0 (xs_0 _ _) rfl dX11_tell_14 ?_
    refine lv_bipush (v := 12) hx hb dX11_tell_17 (by decide) ?_
    refine lv_icmp_lt (tgt := 25) hx hb dX11_tell_19 (by decide) (fun c19 => ?_) (fun c19 => ?_)
    · have h := h.1 c19
      refine lv_aload_n hx hb dX11_tell_25 rfl (lv_at hl 0 rfl) ?_
      refine g_get C hw f_RX11_66 xl_0 (xs_0 _ _) rfl dX11_tell_26 ?_
      refine lv_aload_n hx hb dX11_tell_29 rfl (lv_at hl 0 rfl) ?_
      refine g_get C hw f_RX11_82 xl_0 (xs_0 _ _) rfl dX11_tell_30 ?_
      refine lv_iload_n hx hb dX11_tell_33 rfl (lv_at hl 1 rfl) ?_
      refine g_iast C hw xl_61 xs_61 h.1 dX11_tell_34 (fun H locs hw => ?_)
      have h := h.2
      obtain ⟨I34, e34⟩ : ∃ z : MI, z = mI I5 61 (I5 0 14).toNatClampNeg a0 := ⟨_, rfl⟩
      have h := h I34 e34
      rw [← e34] at hw
      refine lv_aload_n hx hb dX11_tell_35 rfl (lv_at hl 0 rfl) ?_
      refine lv_dup hx hb dX11_tell_36 rfl ?_
      refine g_get C hw f_RX11_82 xl_0 (xs_0 _ _) rfl dX11_tell_37 ?_
      refine lv_iconst (v := 1) hx hb dX11_tell_40 (by decide) ?_
      refine lv_iadd hx hb dX11_tell_41 ?_
      refine g_putI C hw fp_RX11_82 xl_0 xs_0 (st_10_14 ad _) (Nat.le_of_ble_eq_true rfl) rfl rfl dX11_tell_42 (fun H locs hw => ?_)
      obtain ⟨I42, e42⟩ : ∃ z : MI, z = mI I34 0 14 ((I34 0 14) + (1 : Int32)) := ⟨_, rfl⟩
      have h := h I42 e42
      rw [← e42] at hw
      refine lv_aload_n hx hb dX11_tell_45 rfl (lv_at hl 0 rfl) ?_
      refine g_get C hw f_RX11_82 xl_0 (xs_0 _ _) rfl dX11_tell_46 ?_
      exact g_iret C hw h dX11_tell_49
    · have h := h.2 c19
      refine lv_bipush (v := -4) hx hb dX11_tell_22 (by decide) ?_
      exact g_iret C hw h dX11_tell_24
  · have h := h.2 c8
    refine lv_iconst (v := -1) hx hb dX11_tell_11 (by decide) ?_
    exact g_iret C hw h dX11_tell_12
theorem m_X11_tell {l : Launch} {a0 : Int32} {Q : Int32 → MI → MJ → Prop} {I : MI} {J : MJ} (h : P_X11_tell a0 I J Q) : Met l yX11_tell (xws yX11_tell cX11_tell 2 (some .int)) rmX11_tell (va_Pc [.ref (ad 0), .int a0] (gB (xS ad cy) 66 ad cy D (xF ad ts) I J)) (gQi (xS ad cy) 66 ad cy D (xF ad ts) Q) 0 0 (gA 66 ad) :=
  g_met (xF_ok ad ts) rfl (by decide) (Nat.le_of_ble_eq_true rfl) (fun p e s m below meth c ls C hw hl => w_X11_tell C  h hw hl)
/-! BagPhrases.clear()I -/
def P_X11_clear (I : MI) (J : MJ) (Q : Int32 → MI → MJ → Prop) : Prop :=
  (∀ I7 : MI, I7 = mI I 0 14 (0 : Int32) → Q (I 0 14) I7 J)
abbrev rmX11_clear : Room := { frames := 0, cells := 0, slots := 0, locals := 0 }
set_option maxHeartbeats 4000000 in
set_option maxRecDepth 100000 in
theorem w_X11_clear {Q : Int32 → MI → MJ → Prop} (C : gC RX11 cX11_clear 2 (some .int) 66 ad cy D (xF ad ts) p s m args meth c) {I : MI} {J : MJ} {H : Heap} {locs : List Loc} {ls : Array Slot} (h : P_X11_clear I J Q) (hw : gH (xS ad cy) 66 ad D s I J H locs) (hl : lv_has ls 2 [(0, .ref (ad 0))]) : W p l e rmX11_clear s m args below meth c H locs 0 0 (MQ below (gQi (xS ad cy) 66 ad cy D (xF ad ts) Q) args s 0 0 (gA 66 ad)) (F0 m 0 ls []) := by
  obtain ⟨hx, hb, hC⟩ := id C
  refine lv_aload_n hx hb dX11_clear_0 rfl (lv_at hl 0 rfl) ?_
  refine g_get C hw f_RX11_82 xl_0 (xs_0 _ _) rfl dX11_clear_1 ?_
  refine lv_istore_n (lv' := [(1, .int (I 0 14)), (0, .ref (ad 0))]) hx hb dX11_clear_4 rfl hl (by decide) rfl (fun ls hl => ?_)
  refine lv_aload_n hx hb dX11_clear_5 rfl (lv_at hl 1 rfl) ?_
  refine lv_iconst (v := 0) hx hb dX11_clear_6 (by decide) ?_
  refine g_putI C hw fp_RX11_82 xl_0 xs_0 (st_10_14 ad _) (Nat.le_of_ble_eq_true rfl) rfl rfl dX11_clear_7 (fun H locs hw => ?_)
  obtain ⟨I7, e7⟩ : ∃ z : MI, z = mI I 0 14 (0 : Int32) := ⟨_, rfl⟩
  have h := h I7 e7
  rw [← e7] at hw
  refine lv_iload_n hx hb dX11_clear_10 rfl (lv_at hl 0 rfl) ?_
  exact g_iret C hw h dX11_clear_11
theorem m_X11_clear {l : Launch} {Q : Int32 → MI → MJ → Prop} {I : MI} {J : MJ} (h : P_X11_clear I J Q) : Met l yX11_clear (xws yX11_clear cX11_clear 2 (some .int)) rmX11_clear (va_Pc [.ref (ad 0)] (gB (xS ad cy) 66 ad cy D (xF ad ts) I J)) (gQi (xS ad cy) 66 ad cy D (xF ad ts) Q) 0 0 (gA 66 ad) :=
  g_met (xF_ok ad ts) rfl (by decide) (Nat.le_of_ble_eq_true rfl) (fun p e s m below meth c ls C hw hl => w_X11_clear C  h hw hl)
/-! BagPhrases.explain(IIII)V -/
def P_X11_explain (a0 : Int32) (a1 : Int32) (a2 : Int32) (a3 : Int32) (I : MI) (J : MJ) (Q : MI → MJ → Prop) : Prop :=
  vp_in (0 : Int32) 4 ∧ (∀ I6 : MI, I6 = mI I 63 (0 : Int32).toNatClampNeg a0 → vp_in (1 : Int32) 4 ∧ (∀ I13 : MI, I13 = mI I6 63 (1 : Int32).toNatClampNeg a1 → vp_in (2 : Int32) 4 ∧ (∀ I20 : MI, I20 = mI I13 63 (2 : Int32).toNatClampNeg a2 → vp_in (3 : Int32) 4 ∧ (∀ I28 : MI, I28 = mI I20 63 (3 : Int32).toNatClampNeg a3 → Q I28 J))))
abbrev rmX11_explain : Room := { frames := 0, cells := 0, slots := 0, locals := 0 }
set_option maxHeartbeats 4000000 in
set_option maxRecDepth 100000 in
theorem w_X11_explain {Q : MI → MJ → Prop} (C : gC RX11 cX11_explain 5 none 66 ad cy D (xF ad ts) p s m args meth c) {a0 : Int32} {a1 : Int32} {a2 : Int32} {a3 : Int32} {I : MI} {J : MJ} {H : Heap} {locs : List Loc} {ls : Array Slot} (h : P_X11_explain a0 a1 a2 a3 I J Q) (hw : gH (xS ad cy) 66 ad D s I J H locs) (hl : lv_has ls 5 [(0, .ref (ad 0)), (1, .int a0), (2, .int a1), (3, .int a2), (4, .int a3)]) : W p l e rmX11_explain s m args below meth c H locs 0 0 (MQ below (gQv (xS ad cy) 66 ad cy D (xF ad ts) Q) args s 0 0 (gA 66 ad)) (F0 m 0 ls []) := by
  obtain ⟨hx, hb, hC⟩ := id C
  refine lv_aload_n hx hb dX11_explain_0 rfl (lv_at hl 0 rfl) ?_
  refine g_get C hw f_RX11_73 xl_0 (xs_0 _ _) rfl dX11_explain_1 ?_
  refine lv_iconst (v := 0) hx hb dX11_explain_4 (by decide) ?_
  refine lv_iload_n hx hb dX11_explain_5 rfl (lv_at hl 1 rfl) ?_
  refine g_iast C hw xl_63 xs_63 h.1 dX11_explain_6 (fun H locs hw => ?_)
  have h := h.2
  obtain ⟨I6, e6⟩ : ∃ z : MI, z = mI I 63 (0 : Int32).toNatClampNeg a0 := ⟨_, rfl⟩
  have h := h I6 e6
  rw [← e6] at hw
  refine lv_aload_n hx hb dX11_explain_7 rfl (lv_at hl 0 rfl) ?_
  refine g_get C hw f_RX11_73 xl_0 (xs_0 _ _) rfl dX11_explain_8 ?_
  refine lv_iconst (v := 1) hx hb dX11_explain_11 (by decide) ?_
  refine lv_iload_n hx hb dX11_explain_12 rfl (lv_at hl 2 rfl) ?_
  refine g_iast C hw xl_63 xs_63 h.1 dX11_explain_13 (fun H locs hw => ?_)
  have h := h.2
  obtain ⟨I13, e13⟩ : ∃ z : MI, z = mI I6 63 (1 : Int32).toNatClampNeg a1 := ⟨_, rfl⟩
  have h := h I13 e13
  rw [← e13] at hw
  refine lv_aload_n hx hb dX11_explain_14 rfl (lv_at hl 0 rfl) ?_
  refine g_get C hw f_RX11_73 xl_0 (xs_0 _ _) rfl dX11_explain_15 ?_
  refine lv_iconst (v := 2) hx hb dX11_explain_18 (by decide) ?_
  refine lv_iload_n hx hb dX11_explain_19 rfl (lv_at hl 3 rfl) ?_
  refine g_iast C hw xl_63 xs_63 h.1 dX11_explain_20 (fun H locs hw => ?_)
  have h := h.2
  obtain ⟨I20, e20⟩ : ∃ z : MI, z = mI I13 63 (2 : Int32).toNatClampNeg a2 := ⟨_, rfl⟩
  have h := h I20 e20
  rw [← e20] at hw
  refine lv_aload_n hx hb dX11_explain_21 rfl (lv_at hl 0 rfl) ?_
  refine g_get C hw f_RX11_73 xl_0 (xs_0 _ _) rfl dX11_explain_22 ?_
  refine lv_iconst (v := 3) hx hb dX11_explain_25 (by decide) ?_
  refine lv_iload hx hb dX11_explain_26 (lv_at hl 4 rfl) ?_
  refine g_iast C hw xl_63 xs_63 h.1 dX11_explain_28 (fun H locs hw => ?_)
  have h := h.2
  obtain ⟨I28, e28⟩ : ∃ z : MI, z = mI I20 63 (3 : Int32).toNatClampNeg a3 := ⟨_, rfl⟩
  have h := h I28 e28
  rw [← e28] at hw
  exact g_vret C hw h dX11_explain_29
theorem m_X11_explain {l : Launch} {a0 : Int32} {a1 : Int32} {a2 : Int32} {a3 : Int32} {Q : MI → MJ → Prop} {I : MI} {J : MJ} (h : P_X11_explain a0 a1 a2 a3 I J Q) : Met l yX11_explain (xws yX11_explain cX11_explain 5 none) rmX11_explain (va_Pc [.ref (ad 0), .int a0, .int a1, .int a2, .int a3] (gB (xS ad cy) 66 ad cy D (xF ad ts) I J)) (gQv (xS ad cy) 66 ad cy D (xF ad ts) Q) 0 0 (gA 66 ad) :=
  g_met (xF_ok ad ts) rfl (by decide) (Nat.le_of_ble_eq_true rfl) (fun p e s m below meth c ls C hw hl => w_X11_explain C  h hw hl)
/-! BagPhrases$Lexicon.spelt(II)I -/
def P_X5_spelt (k : Nat) (a0 : Int32) (a1 : Int32) (I : MI) (J : MJ) (Q : Int32 → MI → MJ → Prop) : Prop :=
  vp_in ((a0 * (6 : Int32)) + a1) 60 ∧ (Q (I (k + 4) ((a0 * (6 : Int32)) + a1).toNatClampNeg) I J)
abbrev rmX5_spelt : Room := { frames := 0, cells := 0, slots := 0, locals := 0 }
set_option maxHeartbeats 4000000 in
set_option maxRecDepth 100000 in
theorem w_X5_spelt {Q : Int32 → MI → MJ → Prop} (C : gC RX5 cX5_spelt 3 (some .int) 66 ad cy D (xF ad ts) p s m args meth c) {k : Nat} (hk : isLex k) {a0 : Int32} {a1 : Int32} {I : MI} {J : MJ} {H : Heap} {locs : List Loc} {ls : Array Slot} (h : P_X5_spelt k a0 a1 I J Q) (hw : gH (xS ad cy) 66 ad D s I J H locs) (hl : lv_has ls 3 [(0, .ref (ad k)), (1, .int a0), (2, .int a1)]) : W p l e rmX5_spelt s m args below meth c H locs 0 0 (MQ below (gQi (xS ad cy) 66 ad cy D (xF ad ts) Q) args s 0 0 (gA 66 ad)) (F0 m 0 ls []) := by
  obtain ⟨hx, hb, hC⟩ := id C
  refine lv_aload_n hx hb dX5_spelt_0 rfl (lv_at hl 0 rfl) ?_
  refine g_get C hw f_RX5_22 (xl_Lex0 hk) ((xs_Lex0 hk) _ _) rfl dX5_spelt_1 ?_
  refine lv_iload_n hx hb dX5_spelt_4 rfl (lv_at hl 1 rfl) ?_
  refine lv_bipush (v := 6) hx hb dX5_spelt_5 (by decide) ?_
  refine lv_imul hx hb dX5_spelt_7 ?_
  refine lv_iload_n hx hb dX5_spelt_8 rfl (lv_at hl 2 rfl) ?_
  refine lv_iadd hx hb dX5_spelt_9 ?_
  refine g_iald C hw (xl_Lex4 hk) (xs_Lex4 hk) h.1 dX5_spelt_10 ?_
  have h := h.2
  exact g_iret C hw h dX5_spelt_11
theorem m_X5_spelt {l : Launch} {k : Nat} (hk : isLex k) {a0 : Int32} {a1 : Int32} {Q : Int32 → MI → MJ → Prop} {I : MI} {J : MJ} (h : P_X5_spelt k a0 a1 I J Q) : Met l yX5_spelt (xws yX5_spelt cX5_spelt 3 (some .int)) rmX5_spelt (va_Pc [.ref (ad k), .int a0, .int a1] (gB (xS ad cy) 66 ad cy D (xF ad ts) I J)) (gQi (xS ad cy) 66 ad cy D (xF ad ts) Q) 0 0 (gA 66 ad) :=
  g_met (xF_ok ad ts) rfl (by decide) (Nat.le_of_ble_eq_true rfl) (fun p e s m below meth c ls C hw hl => w_X5_spelt C hk h hw hl)
/-! BagPhrases.passesAt(II)Z -/
def P_X11_passesAt_134 (Q : Int32 → MI → MJ → Prop) (kL134 : Int32 × Int32 × MI × MJ → Prop) : Int32 × Int32 × MI × MJ → Prop := fun z => match z with
  | (x3, x4, I, J) => (((8 : Int32) ≤ x4 → Q (1 : Int32) I J) ∧ (¬ (8 : Int32) ≤ x4 → vp_in x4 8 ∧ (P_X5_amount 12 x3 x4 I J (fun r156 I156 J156 => vp_in x4 8 ∧ (∀ I160 : MI, I160 = mI I156 64 x4.toNatClampNeg ((I 64 x4.toNatClampNeg) - r156) → kL134 (x3, (x4 + 1), I160, J156))))))
def P_X11_passesAt_62 (Q : Int32 → MI → MJ → Prop) (kL62 : Int32 × Int32 × Int32 × MI × MJ → Prop) : Int32 × Int32 × Int32 × MI × MJ → Prop := fun z => match z with
  | (x1, x3, x4, I, J) => vp_in x3 10 ∧ ((((I 14 x3.toNatClampNeg) ≤ x4 → lpx (P_X11_passesAt_134 Q) (x3, (0 : Int32), I, J)) ∧ (¬ (I 14 x3.toNatClampNeg) ≤ x4 → P_X5_spelt 12 x3 x4 I J (fun r83 I83 J83 => P_X5_amount 12 x3 r83 I83 J83 (fun r95 I95 J95 => vp_in r83 8 ∧ ((((r95 - (I95 64 r83.toNatClampNeg)) ≤ 0 → kL62 (x1, x3, (x4 + 1), I95, J95)) ∧ (¬ (r95 - (I95 64 r83.toNatClampNeg)) ≤ 0 → P_X11_explain (3 : Int32) x1 r83 (r95 - (I95 64 r83.toNatClampNeg)) I95 J95 (fun I120 J120 => Q (0 : Int32) I120 J120)))))))))
def P_X11_passesAt (a0 : Int32) (a1 : Int32) (I : MI) (J : MJ) (Q : Int32 → MI → MJ → Prop) : Prop :=
  vp_in a0 12 ∧ ((((((I 17 5) >>> ((I 61 a0.toNatClampNeg) &&& 31)) &&& (1 : Int32)) = 0 → vp_in (I 61 a0.toNatClampNeg) 10 ∧ (((¬ ((a1 >>> ((I 13 (I 61 a0.toNatClampNeg).toNatClampNeg) &&& 31)) &&& (1 : Int32)) = 0 → lpx (P_X11_passesAt_62 Q) (a0, (I 61 a0.toNatClampNeg), (0 : Int32), I, J)) ∧ (((a1 >>> ((I 13 (I 61 a0.toNatClampNeg).toNatClampNeg) &&& 31)) &&& (1 : Int32)) = 0 → P_X11_explain (2 : Int32) a0 (-9 : Int32) (0 : Int32) I J (fun I54 J54 => Q (0 : Int32) I54 J54))))) ∧ (¬ (((I 17 5) >>> ((I 61 a0.toNatClampNeg) &&& 31)) &&& (1 : Int32)) = 0 → P_X11_explain (1 : Int32) a0 (-9 : Int32) (0 : Int32) I J (fun I27 J27 => Q (0 : Int32) I27 J27))))
abbrev rmX11_passesAt : Room := { frames := 1, cells := 0, slots := 0, locals := 24 }
set_option maxHeartbeats 4000000 in
set_option maxRecDepth 100000 in
theorem w_X11_passesAt_134 {Q : Int32 → MI → MJ → Prop} (C : gC RX11 cX11_passesAt 7 (some .boolean) 66 ad cy D (xF ad ts) p s m args meth c) {kL134 : Int32 × Int32 × MI × MJ → Prop} (hL134 : ∀ {x3 : Int32} {x4 : Int32} {I : MI} {J : MJ} {H : Heap} {locs : List Loc} {ls : Array Slot}, kL134 (x3, x4, I, J) → gH (xS ad cy) 66 ad D s I J H locs → lv_has ls 7 [(0, .ref (ad 0)), (3, .int x3), (4, .int x4)] → W p l e rmX11_passesAt s m args below meth c H locs 0 0 (MQ below (gQz (xS ad cy) 66 ad cy D (xF ad ts) Q) args s 0 0 (gA 66 ad)) (F0 m 134 ls [])) {x3 : Int32} {x4 : Int32} {I : MI} {J : MJ} {H : Heap} {locs : List Loc} {ls : Array Slot} (h : P_X11_passesAt_134 Q kL134 (x3, x4, I, J)) (hw : gH (xS ad cy) 66 ad D s I J H locs) (hl : lv_has ls 7 [(0, .ref (ad 0)), (3, .int x3), (4, .int x4)]) : W p l e rmX11_passesAt s m args below meth c H locs 0 0 (MQ below (gQz (xS ad cy) 66 ad cy D (xF ad ts) Q) args s 0 0 (gA 66 ad)) (F0 m 134 ls []) := by
  obtain ⟨hx, hb, hC⟩ := id C
  refine lv_iload hx hb dX11_passesAt_134 (lv_at hl 2 rfl) ?_
  refine lv_bipush (v := 8) hx hb dX11_passesAt_136 (by decide) ?_
  refine lv_icmp_ge (tgt := 167) hx hb dX11_passesAt_138 (by decide) (fun c138 => ?_) (fun c138 => ?_)
  · have h := h.1 c138
    refine lv_iconst (v := 1) hx hb dX11_passesAt_167 (by decide) ?_
    exact g_zret C hw (by decide) h dX11_passesAt_168
  · have h := h.2 c138
    refine lv_aload_n hx hb dX11_passesAt_141 rfl (lv_at hl 0 rfl) ?_
    refine g_get C hw f_RX11_76 xl_0 (xs_0 _ _) rfl dX11_passesAt_142 ?_
    refine lv_iload hx hb dX11_passesAt_145 (lv_at hl 2 rfl) ?_
    refine lv_dup2_11 hx hb dX11_passesAt_147 rfl rfl ?_
    refine g_iald C hw xl_64 xs_64 h.1 dX11_passesAt_148 ?_
    have h := h.2
    refine lv_aload_n hx hb dX11_passesAt_149 rfl (lv_at hl 0 rfl) ?_
    refine g_get C hw f_RX11_19 xl_0 (xs_0 _ _) rfl dX11_passesAt_150 ?_
    refine lv_iload_n hx hb dX11_passesAt_153 rfl (lv_at hl 1 rfl) ?_
    refine lv_iload hx hb dX11_passesAt_154 (lv_at hl 2 rfl) ?_
    refine g_ci hw (g_rV [.int x3, .int x4] [.int (I 64 x4.toNatClampNeg), .int x4, .ref (ad 64)] C hw (m_X5_amount isLex_12 h) k_X5_amount q_RX11_300 xl_12 (xs_12 _ _) rfl rfl hl.1 rfl (Nat.le_of_ble_eq_true rfl) ⟨⟨rfl, rfl⟩, Nat.le_of_ble_eq_true rfl, Nat.le_of_ble_eq_true rfl⟩ ⟨Nat.zero_le _, Nat.zero_le _⟩ dX11_passesAt_156) (fun r156 I156 J156 H locs h hw => ?_)
    refine lv_isub hx hb dX11_passesAt_159 ?_
    refine g_iast C hw xl_64 xs_64 h.1 dX11_passesAt_160 (fun H locs hw => ?_)
    have h := h.2
    obtain ⟨I160, e160⟩ : ∃ z : MI, z = mI I156 64 x4.toNatClampNeg ((I 64 x4.toNatClampNeg) - r156) := ⟨_, rfl⟩
    have h := h I160 e160
    rw [← e160] at hw
    refine lv_iinc (v := x4 + 1) (lv' := [(4, .int (x4 + 1)), (0, .ref (ad 0)), (3, .int x3)]) hx hb dX11_passesAt_161 hl (k := 2) rfl rfl (by decide) rfl (fun ls hl => ?_)
    refine lv_goto (tgt := 134) hx hb dX11_passesAt_164 (by decide) ?_
    exact hL134 h hw (lv_sub hl [1, 2, 0] rfl)
theorem wl_X11_passesAt_134 {Q : Int32 → MI → MJ → Prop} (C : gC RX11 cX11_passesAt 7 (some .boolean) 66 ad cy D (xF ad ts) p s m args meth c) {x3 : Int32} {x4 : Int32} {I : MI} {J : MJ} {H : Heap} {locs : List Loc} {ls : Array Slot} (h : lpx (P_X11_passesAt_134 Q) (x3, x4, I, J)) (hw : gH (xS ad cy) 66 ad D s I J H locs) (hl : lv_has ls 7 [(0, .ref (ad 0)), (3, .int x3), (4, .int x4)]) : W p l e rmX11_passesAt s m args below meth c H locs 0 0 (MQ below (gQz (xS ad cy) 66 ad cy D (xF ad ts) Q) args s 0 0 (gA 66 ad)) (F0 m 134 ls []) := by
  obtain ⟨n, h⟩ := h
  induction n generalizing x3 x4 I J H locs ls with
  | zero => exact False.elim h
  | succ n ih => exact w_X11_passesAt_134 C  (fun hk9 hw9 hl9 => ih hw9 hl9 hk9) h hw hl
set_option maxHeartbeats 4000000 in
set_option maxRecDepth 100000 in
theorem w_X11_passesAt_62 {Q : Int32 → MI → MJ → Prop} (C : gC RX11 cX11_passesAt 7 (some .boolean) 66 ad cy D (xF ad ts) p s m args meth c) {kL62 : Int32 × Int32 × Int32 × MI × MJ → Prop} (hL62 : ∀ {x1 : Int32} {x3 : Int32} {x4 : Int32} {I : MI} {J : MJ} {H : Heap} {locs : List Loc} {ls : Array Slot}, kL62 (x1, x3, x4, I, J) → gH (xS ad cy) 66 ad D s I J H locs → lv_has ls 7 [(0, .ref (ad 0)), (1, .int x1), (3, .int x3), (4, .int x4)] → W p l e rmX11_passesAt s m args below meth c H locs 0 0 (MQ below (gQz (xS ad cy) 66 ad cy D (xF ad ts) Q) args s 0 0 (gA 66 ad)) (F0 m 62 ls [])) {x1 : Int32} {x3 : Int32} {x4 : Int32} {I : MI} {J : MJ} {H : Heap} {locs : List Loc} {ls : Array Slot} (h : P_X11_passesAt_62 Q kL62 (x1, x3, x4, I, J)) (hw : gH (xS ad cy) 66 ad D s I J H locs) (hl : lv_has ls 7 [(0, .ref (ad 0)), (1, .int x1), (3, .int x3), (4, .int x4)]) : W p l e rmX11_passesAt s m args below meth c H locs 0 0 (MQ below (gQz (xS ad cy) 66 ad cy D (xF ad ts) Q) args s 0 0 (gA 66 ad)) (F0 m 62 ls []) := by
  obtain ⟨hx, hb, hC⟩ := id C
  refine lv_iload hx hb dX11_passesAt_62 (lv_at hl 3 rfl) ?_
  refine lv_aload_n hx hb dX11_passesAt_64 rfl (lv_at hl 0 rfl) ?_
  refine g_get C hw f_RX11_19 xl_0 (xs_0 _ _) rfl dX11_passesAt_65 ?_
  refine g_get C hw f_RX11_152 xl_12 (xs_12 _ _) rfl dX11_passesAt_68 ?_
  refine lv_iload_n hx hb dX11_passesAt_71 rfl (lv_at hl 2 rfl) ?_
  refine g_iald C hw xl_14 xs_14 h.1 dX11_passesAt_72 ?_
  have h := h.2
  refine lv_icmp_ge (tgt := 131) hx hb dX11_passesAt_73 (by decide) (fun c73 => ?_) (fun c73 => ?_)
  · have h := h.1 c73
    refine lv_iconst (v := 0) hx hb dX11_passesAt_131 (by decide) ?_
    refine lv_istore (lv' := [(4, .int (0 : Int32)), (0, .ref (ad 0)), (1, .int x1), (3, .int x3)]) hx hb dX11_passesAt_132 hl (by decide) rfl (fun ls hl => ?_)
    exact wl_X11_passesAt_134 C  h hw (lv_sub hl [1, 3, 0] rfl)
  · have h := h.2 c73
    refine lv_aload_n hx hb dX11_passesAt_76 rfl (lv_at hl 0 rfl) ?_
    refine g_get C hw f_RX11_19 xl_0 (xs_0 _ _) rfl dX11_passesAt_77 ?_
    refine lv_iload_n hx hb dX11_passesAt_80 rfl (lv_at hl 2 rfl) ?_
    refine lv_iload hx hb dX11_passesAt_81 (lv_at hl 3 rfl) ?_
    refine g_ci hw (g_rV [.int x3, .int x4] [] C hw (m_X5_spelt isLex_12 h) k_X5_spelt q_RX11_325 xl_12 (xs_12 _ _) rfl rfl hl.1 rfl (Nat.le_of_ble_eq_true rfl) ⟨⟨rfl, rfl⟩, Nat.le_of_ble_eq_true rfl, Nat.le_of_ble_eq_true rfl⟩ ⟨Nat.zero_le _, Nat.zero_le _⟩ dX11_passesAt_83) (fun r83 I83 J83 H locs h hw => ?_)
    refine lv_istore (lv' := [(5, .int r83), (0, .ref (ad 0)), (1, .int x1), (3, .int x3), (4, .int x4)]) hx hb dX11_passesAt_86 hl (by decide) rfl (fun ls hl => ?_)
    refine lv_aload_n hx hb dX11_passesAt_88 rfl (lv_at hl 1 rfl) ?_
    refine g_get C hw f_RX11_19 xl_0 (xs_0 _ _) rfl dX11_passesAt_89 ?_
    refine lv_iload_n hx hb dX11_passesAt_92 rfl (lv_at hl 3 rfl) ?_
    refine lv_iload hx hb dX11_passesAt_93 (lv_at hl 0 rfl) ?_
    refine g_ci hw (g_rV [.int x3, .int r83] [] C hw (m_X5_amount isLex_12 h) k_X5_amount q_RX11_300 xl_12 (xs_12 _ _) rfl rfl hl.1 rfl (Nat.le_of_ble_eq_true rfl) ⟨⟨rfl, rfl⟩, Nat.le_of_ble_eq_true rfl, Nat.le_of_ble_eq_true rfl⟩ ⟨Nat.zero_le _, Nat.zero_le _⟩ dX11_passesAt_95) (fun r95 I95 J95 H locs h hw => ?_)
    refine lv_aload_n hx hb dX11_passesAt_98 rfl (lv_at hl 1 rfl) ?_
    refine g_get C hw f_RX11_76 xl_0 (xs_0 _ _) rfl dX11_passesAt_99 ?_
    refine lv_iload hx hb dX11_passesAt_102 (lv_at hl 0 rfl) ?_
    refine g_iald C hw xl_64 xs_64 h.1 dX11_passesAt_104 ?_
    have h := h.2
    refine lv_isub hx hb dX11_passesAt_105 ?_
    refine lv_istore (lv' := [(6, .int (r95 - (I95 64 r83.toNatClampNeg))), (5, .int r83), (0, .ref (ad 0)), (1, .int x1), (3, .int x3), (4, .int x4)]) hx hb dX11_passesAt_106 hl (by decide) rfl (fun ls hl => ?_)
    refine lv_iload hx hb dX11_passesAt_108 (lv_at hl 0 rfl) ?_
    refine lv_if_le (tgt := 125) hx hb dX11_passesAt_110 (by decide) (fun c110 => ?_) (fun c110 => ?_)
    · have h := h.1 c110
      refine lv_iinc (v := x4 + 1) (lv' := [(4, .int (x4 + 1)), (6, .int (r95 - (I95 64 r83.toNatClampNeg))), (5, .int r83), (0, .ref (ad 0)), (1, .int x1), (3, .int x3)]) hx hb dX11_passesAt_125 hl (k := 5) rfl rfl (by decide) rfl (fun ls hl => ?_)
      refine lv_goto (tgt := 62) hx hb dX11_passesAt_128 (by decide) ?_
      exact hL62 h hw (lv_sub hl [3, 4, 5, 0] rfl)
    · have h := h.2 c110
      refine lv_aload_n hx hb dX11_passesAt_113 rfl (lv_at hl 2 rfl) ?_
      refine lv_iconst (v := 3) hx hb dX11_passesAt_114 (by decide) ?_
      refine lv_iload_n hx hb dX11_passesAt_115 rfl (lv_at hl 3 rfl) ?_
      refine lv_iload hx hb dX11_passesAt_116 (lv_at hl 1 rfl) ?_
      refine lv_iload hx hb dX11_passesAt_118 (lv_at hl 0 rfl) ?_
      refine g_cv hw (g_rV [.int (3 : Int32), .int x1, .int r83, .int (r95 - (I95 64 r83.toNatClampNeg))] [] C hw (m_X11_explain h) k_X11_explain q_RX11_308 xl_0 (xs_0 _ _) rfl rfl hl.1 rfl (Nat.le_of_ble_eq_true rfl) ⟨⟨rfl, rfl⟩, Nat.le_of_ble_eq_true rfl, Nat.le_of_ble_eq_true rfl⟩ ⟨Nat.zero_le _, Nat.zero_le _⟩ dX11_passesAt_120) (fun I120 J120 H locs h hw => ?_)
      refine lv_iconst (v := 0) hx hb dX11_passesAt_123 (by decide) ?_
      exact g_zret C hw (by decide) h dX11_passesAt_124
theorem wl_X11_passesAt_62 {Q : Int32 → MI → MJ → Prop} (C : gC RX11 cX11_passesAt 7 (some .boolean) 66 ad cy D (xF ad ts) p s m args meth c) {x1 : Int32} {x3 : Int32} {x4 : Int32} {I : MI} {J : MJ} {H : Heap} {locs : List Loc} {ls : Array Slot} (h : lpx (P_X11_passesAt_62 Q) (x1, x3, x4, I, J)) (hw : gH (xS ad cy) 66 ad D s I J H locs) (hl : lv_has ls 7 [(0, .ref (ad 0)), (1, .int x1), (3, .int x3), (4, .int x4)]) : W p l e rmX11_passesAt s m args below meth c H locs 0 0 (MQ below (gQz (xS ad cy) 66 ad cy D (xF ad ts) Q) args s 0 0 (gA 66 ad)) (F0 m 62 ls []) := by
  obtain ⟨n, h⟩ := h
  induction n generalizing x1 x3 x4 I J H locs ls with
  | zero => exact False.elim h
  | succ n ih => exact w_X11_passesAt_62 C  (fun hk9 hw9 hl9 => ih hw9 hl9 hk9) h hw hl
set_option maxHeartbeats 4000000 in
set_option maxRecDepth 100000 in
theorem w_X11_passesAt {Q : Int32 → MI → MJ → Prop} (C : gC RX11 cX11_passesAt 7 (some .boolean) 66 ad cy D (xF ad ts) p s m args meth c) {a0 : Int32} {a1 : Int32} {I : MI} {J : MJ} {H : Heap} {locs : List Loc} {ls : Array Slot} (h : P_X11_passesAt a0 a1 I J Q) (hw : gH (xS ad cy) 66 ad D s I J H locs) (hl : lv_has ls 7 [(0, .ref (ad 0)), (1, .int a0), (2, .int a1)]) : W p l e rmX11_passesAt s m args below meth c H locs 0 0 (MQ below (gQz (xS ad cy) 66 ad cy D (xF ad ts) Q) args s 0 0 (gA 66 ad)) (F0 m 0 ls []) := by
  obtain ⟨hx, hb, hC⟩ := id C
  refine lv_aload_n hx hb dX11_passesAt_0 rfl (lv_at hl 0 rfl) ?_
  refine g_get C hw f_RX11_66 xl_0 (xs_0 _ _) rfl dX11_passesAt_1 ?_
  refine lv_iload_n hx hb dX11_passesAt_4 rfl (lv_at hl 1 rfl) ?_
  refine g_iald C hw xl_61 xs_61 h.1 dX11_passesAt_5 ?_
  have h := h.2
  refine lv_istore_n (lv' := [(3, .int (I 61 a0.toNatClampNeg)), (0, .ref (ad 0)), (1, .int a0), (2, .int a1)]) hx hb dX11_passesAt_6 rfl hl (by decide) rfl (fun ls hl => ?_)
  refine lv_aload_n hx hb dX11_passesAt_7 rfl (lv_at hl 1 rfl) ?_
  refine g_get C hw f_RX11_26 xl_0 (xs_0 _ _) rfl dX11_passesAt_8 ?_
  refine g_get C hw f_RX11_128 xl_17 (xs_17 _ _) rfl dX11_passesAt_11 ?_
  refine lv_iload_n hx hb dX11_passesAt_14 rfl (lv_at hl 0 rfl) ?_
  refine lv_ishr hx hb dX11_passesAt_15 ?_
  refine lv_iconst (v := 1) hx hb dX11_passesAt_16 (by decide) ?_
  refine lv_iand hx hb dX11_passesAt_17 ?_
  refine lv_if_eq (tgt := 32) hx hb dX11_passesAt_18 (by decide) (fun c18 => ?_) (fun c18 => ?_)
  · have h := h.1 c18
    refine lv_iload_n hx hb dX11_passesAt_32 rfl (lv_at hl 3 rfl) ?_
    refine lv_aload_n hx hb dX11_passesAt_33 rfl (lv_at hl 1 rfl) ?_
    refine g_get C hw f_RX11_19 xl_0 (xs_0 _ _) rfl dX11_passesAt_34 ?_
    refine g_get C hw f_RX11_155 xl_12 (xs_12 _ _) rfl dX11_passesAt_37 ?_
    refine lv_iload_n hx hb dX11_passesAt_40 rfl (lv_at hl 0 rfl) ?_
    refine g_iald C hw xl_13 xs_13 h.1 dX11_passesAt_41 ?_
    have h := h.2
    refine lv_ishr hx hb dX11_passesAt_42 ?_
    refine lv_iconst (v := 1) hx hb dX11_passesAt_43 (by decide) ?_
    refine lv_iand hx hb dX11_passesAt_44 ?_
    refine lv_if_ne (tgt := 59) hx hb dX11_passesAt_45 (by decide) (fun c45 => ?_) (fun c45 => ?_)
    · have h := h.1 c45
      refine lv_iconst (v := 0) hx hb dX11_passesAt_59 (by decide) ?_
      refine lv_istore (lv' := [(4, .int (0 : Int32)), (3, .int (I 61 a0.toNatClampNeg)), (0, .ref (ad 0)), (1, .int a0), (2, .int a1)]) hx hb dX11_passesAt_60 hl (by decide) rfl (fun ls hl => ?_)
      exact wl_X11_passesAt_62 C  h hw (lv_sub hl [2, 3, 1, 0] rfl)
    · have h := h.2 c45
      refine lv_aload_n hx hb dX11_passesAt_48 rfl (lv_at hl 1 rfl) ?_
      refine lv_iconst (v := 2) hx hb dX11_passesAt_49 (by decide) ?_
      refine lv_iload_n hx hb dX11_passesAt_50 rfl (lv_at hl 2 rfl) ?_
      refine lv_bipush (v := -9) hx hb dX11_passesAt_51 (by decide) ?_
      refine lv_iconst (v := 0) hx hb dX11_passesAt_53 (by decide) ?_
      refine g_cv hw (g_rV [.int (2 : Int32), .int a0, .int (-9 : Int32), .int (0 : Int32)] [] C hw (m_X11_explain h) k_X11_explain q_RX11_308 xl_0 (xs_0 _ _) rfl rfl hl.1 rfl (Nat.le_of_ble_eq_true rfl) ⟨⟨rfl, rfl⟩, Nat.le_of_ble_eq_true rfl, Nat.le_of_ble_eq_true rfl⟩ ⟨Nat.zero_le _, Nat.zero_le _⟩ dX11_passesAt_54) (fun I54 J54 H locs h hw => ?_)
      refine lv_iconst (v := 0) hx hb dX11_passesAt_57 (by decide) ?_
      exact g_zret C hw (by decide) h dX11_passesAt_58
  · have h := h.2 c18
    refine lv_aload_n hx hb dX11_passesAt_21 rfl (lv_at hl 1 rfl) ?_
    refine lv_iconst (v := 1) hx hb dX11_passesAt_22 (by decide) ?_
    refine lv_iload_n hx hb dX11_passesAt_23 rfl (lv_at hl 2 rfl) ?_
    refine lv_bipush (v := -9) hx hb dX11_passesAt_24 (by decide) ?_
    refine lv_iconst (v := 0) hx hb dX11_passesAt_26 (by decide) ?_
    refine g_cv hw (g_rV [.int (1 : Int32), .int a0, .int (-9 : Int32), .int (0 : Int32)] [] C hw (m_X11_explain h) k_X11_explain q_RX11_308 xl_0 (xs_0 _ _) rfl rfl hl.1 rfl (Nat.le_of_ble_eq_true rfl) ⟨⟨rfl, rfl⟩, Nat.le_of_ble_eq_true rfl, Nat.le_of_ble_eq_true rfl⟩ ⟨Nat.zero_le _, Nat.zero_le _⟩ dX11_passesAt_27) (fun I27 J27 H locs h hw => ?_)
    refine lv_iconst (v := 0) hx hb dX11_passesAt_30 (by decide) ?_
    exact g_zret C hw (by decide) h dX11_passesAt_31
theorem m_X11_passesAt {l : Launch} {a0 : Int32} {a1 : Int32} {Q : Int32 → MI → MJ → Prop} {I : MI} {J : MJ} (h : P_X11_passesAt a0 a1 I J Q) : Met l yX11_passesAt (xws yX11_passesAt cX11_passesAt 7 (some .boolean)) rmX11_passesAt (va_Pc [.ref (ad 0), .int a0, .int a1] (gB (xS ad cy) 66 ad cy D (xF ad ts) I J)) (gQz (xS ad cy) 66 ad cy D (xF ad ts) Q) 0 0 (gA 66 ad) :=
  g_met (xF_ok ad ts) rfl (by decide) (Nat.le_of_ble_eq_true rfl) (fun p e s m below meth c ls C hw hl => w_X11_passesAt C  h hw hl)
/-! BagPhrases.examineEnd()V -/
def P_X11_examineEnd_2 (Q : MI → MJ → Prop) (kL2 : Int32 × MI × MJ → Prop) : Int32 × MI × MJ → Prop := fun z => match z with
  | (x1, I, J) => (((8 : Int32) ≤ x1 → vp_in ((I 0 14) - (1 : Int32)) 12 ∧ (vp_in (I 61 ((I 0 14) - (1 : Int32)).toNatClampNeg) 10 ∧ (((¬ (((I 17 4) >>> ((I 13 (I 61 ((I 0 14) - (1 : Int32)).toNatClampNeg).toNatClampNeg) &&& 31)) &&& (1 : Int32)) = 0 → Q I J) ∧ ((((I 17 4) >>> ((I 13 (I 61 ((I 0 14) - (1 : Int32)).toNatClampNeg).toNatClampNeg) &&& 31)) &&& (1 : Int32)) = 0 → P_X11_explain (5 : Int32) (I 0 14) (-9 : Int32) (0 : Int32) I J (fun I83 J83 => Q I83 J83)))))) ∧ (¬ (8 : Int32) ≤ x1 → vp_in x1 8 ∧ ((((I 64 x1.toNatClampNeg) ≤ 0 → kL2 ((x1 + 1), I, J)) ∧ (¬ (I 64 x1.toNatClampNeg) ≤ 0 → vp_in x1 8 ∧ (P_X11_explain (4 : Int32) (I 0 14) x1 (I 64 x1.toNatClampNeg) I J (fun I30 J30 => Q I30 J30)))))))
def P_X11_examineEnd (I : MI) (J : MJ) (Q : MI → MJ → Prop) : Prop :=
  lpx (P_X11_examineEnd_2 Q) ((0 : Int32), I, J)
abbrev rmX11_examineEnd : Room := { frames := 1, cells := 0, slots := 0, locals := 24 }
set_option maxHeartbeats 4000000 in
set_option maxRecDepth 100000 in
theorem w_X11_examineEnd_2 {Q : MI → MJ → Prop} (C : gC RX11 cX11_examineEnd 2 none 66 ad cy D (xF ad ts) p s m args meth c) {kL2 : Int32 × MI × MJ → Prop} (hL2 : ∀ {x1 : Int32} {I : MI} {J : MJ} {H : Heap} {locs : List Loc} {ls : Array Slot}, kL2 (x1, I, J) → gH (xS ad cy) 66 ad D s I J H locs → lv_has ls 2 [(0, .ref (ad 0)), (1, .int x1)] → W p l e rmX11_examineEnd s m args below meth c H locs 0 0 (MQ below (gQv (xS ad cy) 66 ad cy D (xF ad ts) Q) args s 0 0 (gA 66 ad)) (F0 m 2 ls [])) {x1 : Int32} {I : MI} {J : MJ} {H : Heap} {locs : List Loc} {ls : Array Slot} (h : P_X11_examineEnd_2 Q kL2 (x1, I, J)) (hw : gH (xS ad cy) 66 ad D s I J H locs) (hl : lv_has ls 2 [(0, .ref (ad 0)), (1, .int x1)]) : W p l e rmX11_examineEnd s m args below meth c H locs 0 0 (MQ below (gQv (xS ad cy) 66 ad cy D (xF ad ts) Q) args s 0 0 (gA 66 ad)) (F0 m 2 ls []) := by
  obtain ⟨hx, hb, hC⟩ := id C
  refine lv_iload_n hx hb dX11_examineEnd_2 rfl (lv_at hl 1 rfl) ?_
  refine lv_bipush (v := 8) hx hb dX11_examineEnd_3 (by decide) ?_
  refine lv_icmp_ge (tgt := 40) hx hb dX11_examineEnd_5 (by decide) (fun c5 => ?_) (fun c5 => ?_)
  · have h := h.1 c5
    refine lv_aload_n hx hb dX11_examineEnd_40 rfl (lv_at hl 0 rfl) ?_
    refine g_get C hw f_RX11_19 xl_0 (xs_0 _ _) rfl dX11_examineEnd_41 ?_
    refine g_get C hw f_RX11_155 xl_12 (xs_12 _ _) rfl dX11_examineEnd_44 ?_
    refine lv_aload_n hx hb dX11_examineEnd_47 rfl (lv_at hl 0 rfl) ?_
    refine g_get C hw f_RX11_66 xl_0 (xs_0 _ _) rfl dX11_examineEnd_48 ?_
    refine lv_aload_n hx hb dX11_examineEnd_51 rfl (lv_at hl 0 rfl) ?_
    refine g_get C hw f_RX11_82 xl_0 (xs_0 _ _) rfl dX11_examineEnd_52 ?_
    refine lv_iconst (v := 1) hx hb dX11_examineEnd_55 (by decide) ?_
    refine lv_isub hx hb dX11_examineEnd_56 ?_
    refine g_iald C hw xl_61 xs_61 h.1 dX11_examineEnd_57 ?_
    have h := h.2
    refine g_iald C hw xl_13 xs_13 h.1 dX11_examineEnd_58 ?_
    have h := h.2
    refine lv_istore_n (lv' := [(1, .int (I 13 (I 61 ((I 0 14) - (1 : Int32)).toNatClampNeg).toNatClampNeg)), (0, .ref (ad 0))]) hx hb dX11_examineEnd_59 rfl hl (by decide) rfl (fun ls hl => ?_)
    refine lv_aload_n hx hb dX11_examineEnd_60 rfl (lv_at hl 1 rfl) ?_
    refine g_get C hw f_RX11_26 xl_0 (xs_0 _ _) rfl dX11_examineEnd_61 ?_
    refine g_get C hw f_RX11_134 xl_17 (xs_17 _ _) rfl dX11_examineEnd_64 ?_
    refine lv_iload_n hx hb dX11_examineEnd_67 rfl (lv_at hl 0 rfl) ?_
    refine lv_ishr hx hb dX11_examineEnd_68 ?_
    refine lv_iconst (v := 1) hx hb dX11_examineEnd_69 (by decide) ?_
    refine lv_iand hx hb dX11_examineEnd_70 ?_
    refine lv_if_ne (tgt := 86) hx hb dX11_examineEnd_71 (by decide) (fun c71 => ?_) (fun c71 => ?_)
    · have h := h.1 c71
      exact g_vret C hw h dX11_examineEnd_86
    · have h := h.2 c71
      refine lv_aload_n hx hb dX11_examineEnd_74 rfl (lv_at hl 1 rfl) ?_
      refine lv_iconst (v := 5) hx hb dX11_examineEnd_75 (by decide) ?_
      refine lv_aload_n hx hb dX11_examineEnd_76 rfl (lv_at hl 1 rfl) ?_
      refine g_get C hw f_RX11_82 xl_0 (xs_0 _ _) rfl dX11_examineEnd_77 ?_
      refine lv_bipush (v := -9) hx hb dX11_examineEnd_80 (by decide) ?_
      refine lv_iconst (v := 0) hx hb dX11_examineEnd_82 (by decide) ?_
      refine g_cv hw (g_rV [.int (5 : Int32), .int (I 0 14), .int (-9 : Int32), .int (0 : Int32)] [] C hw (m_X11_explain h) k_X11_explain q_RX11_308 xl_0 (xs_0 _ _) rfl rfl hl.1 rfl (Nat.le_of_ble_eq_true rfl) ⟨⟨rfl, rfl⟩, Nat.le_of_ble_eq_true rfl, Nat.le_of_ble_eq_true rfl⟩ ⟨Nat.zero_le _, Nat.zero_le _⟩ dX11_examineEnd_83) (fun I83 J83 H locs h hw => ?_)
      exact g_vret C hw h dX11_examineEnd_86
  · have h := h.2 c5
    refine lv_aload_n hx hb dX11_examineEnd_8 rfl (lv_at hl 0 rfl) ?_
    refine g_get C hw f_RX11_76 xl_0 (xs_0 _ _) rfl dX11_examineEnd_9 ?_
    refine lv_iload_n hx hb dX11_examineEnd_12 rfl (lv_at hl 1 rfl) ?_
    refine g_iald C hw xl_64 xs_64 h.1 dX11_examineEnd_13 ?_
    have h := h.2
    refine lv_if_le (tgt := 34) hx hb dX11_examineEnd_14 (by decide) (fun c14 => ?_) (fun c14 => ?_)
    · have h := h.1 c14
      refine lv_iinc (v := x1 + 1) (lv' := [(1, .int (x1 + 1)), (0, .ref (ad 0))]) hx hb dX11_examineEnd_34 hl (k := 1) rfl rfl (by decide) rfl (fun ls hl => ?_)
      refine lv_goto (tgt := 2) hx hb dX11_examineEnd_37 (by decide) ?_
      exact hL2 h hw (lv_sub hl [1, 0] rfl)
    · have h := h.2 c14
      refine lv_aload_n hx hb dX11_examineEnd_17 rfl (lv_at hl 0 rfl) ?_
      refine lv_iconst (v := 4) hx hb dX11_examineEnd_18 (by decide) ?_
      refine lv_aload_n hx hb dX11_examineEnd_19 rfl (lv_at hl 0 rfl) ?_
      refine g_get C hw f_RX11_82 xl_0 (xs_0 _ _) rfl dX11_examineEnd_20 ?_
      refine lv_iload_n hx hb dX11_examineEnd_23 rfl (lv_at hl 1 rfl) ?_
      refine lv_aload_n hx hb dX11_examineEnd_24 rfl (lv_at hl 0 rfl) ?_
      refine g_get C hw f_RX11_76 xl_0 (xs_0 _ _) rfl dX11_examineEnd_25 ?_
      refine lv_iload_n hx hb dX11_examineEnd_28 rfl (lv_at hl 1 rfl) ?_
      refine g_iald C hw xl_64 xs_64 h.1 dX11_examineEnd_29 ?_
      have h := h.2
      refine g_cv hw (g_rV [.int (4 : Int32), .int (I 0 14), .int x1, .int (I 64 x1.toNatClampNeg)] [] C hw (m_X11_explain h) k_X11_explain q_RX11_308 xl_0 (xs_0 _ _) rfl rfl hl.1 rfl (Nat.le_of_ble_eq_true rfl) ⟨⟨rfl, rfl⟩, Nat.le_of_ble_eq_true rfl, Nat.le_of_ble_eq_true rfl⟩ ⟨Nat.zero_le _, Nat.zero_le _⟩ dX11_examineEnd_30) (fun I30 J30 H locs h hw => ?_)
      exact g_vret C hw h dX11_examineEnd_33
theorem wl_X11_examineEnd_2 {Q : MI → MJ → Prop} (C : gC RX11 cX11_examineEnd 2 none 66 ad cy D (xF ad ts) p s m args meth c) {x1 : Int32} {I : MI} {J : MJ} {H : Heap} {locs : List Loc} {ls : Array Slot} (h : lpx (P_X11_examineEnd_2 Q) (x1, I, J)) (hw : gH (xS ad cy) 66 ad D s I J H locs) (hl : lv_has ls 2 [(0, .ref (ad 0)), (1, .int x1)]) : W p l e rmX11_examineEnd s m args below meth c H locs 0 0 (MQ below (gQv (xS ad cy) 66 ad cy D (xF ad ts) Q) args s 0 0 (gA 66 ad)) (F0 m 2 ls []) := by
  obtain ⟨n, h⟩ := h
  induction n generalizing x1 I J H locs ls with
  | zero => exact False.elim h
  | succ n ih => exact w_X11_examineEnd_2 C  (fun hk9 hw9 hl9 => ih hw9 hl9 hk9) h hw hl
set_option maxHeartbeats 4000000 in
set_option maxRecDepth 100000 in
theorem w_X11_examineEnd {Q : MI → MJ → Prop} (C : gC RX11 cX11_examineEnd 2 none 66 ad cy D (xF ad ts) p s m args meth c) {I : MI} {J : MJ} {H : Heap} {locs : List Loc} {ls : Array Slot} (h : P_X11_examineEnd I J Q) (hw : gH (xS ad cy) 66 ad D s I J H locs) (hl : lv_has ls 2 [(0, .ref (ad 0))]) : W p l e rmX11_examineEnd s m args below meth c H locs 0 0 (MQ below (gQv (xS ad cy) 66 ad cy D (xF ad ts) Q) args s 0 0 (gA 66 ad)) (F0 m 0 ls []) := by
  obtain ⟨hx, hb, hC⟩ := id C
  refine lv_iconst (v := 0) hx hb dX11_examineEnd_0 (by decide) ?_
  refine lv_istore_n (lv' := [(1, .int (0 : Int32)), (0, .ref (ad 0))]) hx hb dX11_examineEnd_1 rfl hl (by decide) rfl (fun ls hl => ?_)
  exact wl_X11_examineEnd_2 C  h hw (lv_sub hl [1, 0] rfl)
theorem m_X11_examineEnd {l : Launch} {Q : MI → MJ → Prop} {I : MI} {J : MJ} (h : P_X11_examineEnd I J Q) : Met l yX11_examineEnd (xws yX11_examineEnd cX11_examineEnd 2 none) rmX11_examineEnd (va_Pc [.ref (ad 0)] (gB (xS ad cy) 66 ad cy D (xF ad ts) I J)) (gQv (xS ad cy) 66 ad cy D (xF ad ts) Q) 0 0 (gA 66 ad) :=
  g_met (xF_ok ad ts) rfl (by decide) (Nat.le_of_ble_eq_true rfl) (fun p e s m below meth c ls C hw hl => w_X11_examineEnd C  h hw hl)
/-! BagPhrases.examineRow()V -/
def P_X11_examineRow_56 (Q : MI → MJ → Prop) (kL56 : Int32 × Int32 × MI × MJ → Prop) : Int32 × Int32 × MI × MJ → Prop := fun z => match z with
  | (x1, x2, I, J) => (((I 0 14) ≤ x2 → P_X11_examineEnd I J (fun I104 J104 => Q I104 J104)) ∧ (¬ (I 0 14) ≤ x2 → P_X11_passesAt x2 x1 I J (fun r67 I67 J67 => ((¬ r67 = 0 → vp_in x2 12 ∧ (vp_in (I67 61 x2.toNatClampNeg) 10 ∧ (vp_in (I67 13 (I67 61 x2.toNatClampNeg).toNatClampNeg) 4 ∧ (kL56 ((I67 20 (I67 13 (I67 61 x2.toNatClampNeg).toNatClampNeg).toNatClampNeg), (x2 + 1), I67, J67))))) ∧ (r67 = 0 → Q I67 J67)))))
def P_X11_examineRow (I : MI) (J : MJ) (Q : MI → MJ → Prop) : Prop :=
  P_X11_explain (0 : Int32) (-9 : Int32) (-9 : Int32) (0 : Int32) I J (fun I7 J7 => ((¬ (I7 0 14) = 0 → (¬ (0 : Int32) < 0 ∧ ¬ (0 : Int32) < 0 ∧ ¬ (8 : Int32) < 0 ∧ (0 : Int32).toNatClampNeg + (8 : Int32).toNatClampNeg ≤ 8 ∧ (0 : Int32).toNatClampNeg + (8 : Int32).toNatClampNeg ≤ 8) ∧ (∀ I43 : MI, I43 = wI I7 64 (va_cpy (I7 18) (I7 64) (0 : Int32).toNatClampNeg (0 : Int32).toNatClampNeg (8 : Int32).toNatClampNeg) → lpx (P_X11_examineRow_56 Q) ((I43 17 3), (0 : Int32), I43, J7))) ∧ ((I7 0 14) = 0 → P_X11_explain (6 : Int32) (0 : Int32) (-9 : Int32) (0 : Int32) I7 J7 (fun I24 J24 => Q I24 J24))))
abbrev rmX11_examineRow : Room := { frames := 2, cells := 0, slots := 0, locals := 50 }
set_option maxHeartbeats 4000000 in
set_option maxRecDepth 100000 in
theorem w_X11_examineRow_56 {Q : MI → MJ → Prop} (C : gC RX11 cX11_examineRow 3 none 66 ad cy D (xF ad ts) p s m args meth c) {kL56 : Int32 × Int32 × MI × MJ → Prop} (hL56 : ∀ {x1 : Int32} {x2 : Int32} {I : MI} {J : MJ} {H : Heap} {locs : List Loc} {ls : Array Slot}, kL56 (x1, x2, I, J) → gH (xS ad cy) 66 ad D s I J H locs → lv_has ls 3 [(0, .ref (ad 0)), (1, .int x1), (2, .int x2)] → W p l e rmX11_examineRow s m args below meth c H locs 0 0 (MQ below (gQv (xS ad cy) 66 ad cy D (xF ad ts) Q) args s 0 0 (gA 66 ad)) (F0 m 56 ls [])) {x1 : Int32} {x2 : Int32} {I : MI} {J : MJ} {H : Heap} {locs : List Loc} {ls : Array Slot} (h : P_X11_examineRow_56 Q kL56 (x1, x2, I, J)) (hw : gH (xS ad cy) 66 ad D s I J H locs) (hl : lv_has ls 3 [(0, .ref (ad 0)), (1, .int x1), (2, .int x2)]) : W p l e rmX11_examineRow s m args below meth c H locs 0 0 (MQ below (gQv (xS ad cy) 66 ad cy D (xF ad ts) Q) args s 0 0 (gA 66 ad)) (F0 m 56 ls []) := by
  obtain ⟨hx, hb, hC⟩ := id C
  refine lv_iload_n hx hb dX11_examineRow_56 rfl (lv_at hl 2 rfl) ?_
  refine lv_aload_n hx hb dX11_examineRow_57 rfl (lv_at hl 0 rfl) ?_
  refine g_get C hw f_RX11_82 xl_0 (xs_0 _ _) rfl dX11_examineRow_58 ?_
  refine lv_icmp_ge (tgt := 103) hx hb dX11_examineRow_61 (by decide) (fun c61 => ?_) (fun c61 => ?_)
  · have h := h.1 c61
    refine lv_aload_n hx hb dX11_examineRow_103 rfl (lv_at hl 0 rfl) ?_
    refine g_cv hw (g_rV [] [] C hw (m_X11_examineEnd h) k_X11_examineEnd q_RX11_322 xl_0 (xs_0 _ _) rfl rfl hl.1 rfl (Nat.le_of_ble_eq_true rfl) ⟨⟨rfl, rfl⟩, Nat.le_of_ble_eq_true rfl, Nat.le_of_ble_eq_true rfl⟩ ⟨Nat.zero_le _, Nat.zero_le _⟩ dX11_examineRow_104) (fun I104 J104 H locs h hw => ?_)
    exact g_vret C hw h dX11_examineRow_107
  · have h := h.2 c61
    refine lv_aload_n hx hb dX11_examineRow_64 rfl (lv_at hl 0 rfl) ?_
    refine lv_iload_n hx hb dX11_examineRow_65 rfl (lv_at hl 2 rfl) ?_
    refine lv_iload_n hx hb dX11_examineRow_66 rfl (lv_at hl 1 rfl) ?_
    refine g_cz hw (g_rV [.int x2, .int x1] [] C hw (m_X11_passesAt h) k_X11_passesAt q_RX11_318 xl_0 (xs_0 _ _) rfl rfl hl.1 rfl (Nat.le_of_ble_eq_true rfl) ⟨⟨rfl, rfl⟩, Nat.le_of_ble_eq_true rfl, Nat.le_of_ble_eq_true rfl⟩ ⟨Nat.zero_le _, Nat.zero_le _⟩ dX11_examineRow_67) (fun r67 I67 J67 H locs z67 h hw => ?_)
    refine lv_if_ne (tgt := 74) hx hb dX11_examineRow_70 (by decide) (fun c70 => ?_) (fun c70 => ?_)
    · have h := h.1 c70
      refine lv_aload_n hx hb dX11_examineRow_74 rfl (lv_at hl 0 rfl) ?_
      refine g_get C hw f_RX11_26 xl_0 (xs_0 _ _) rfl dX11_examineRow_75 ?_
      refine g_get C hw f_RX11_186 xl_17 (xs_17 _ _) rfl dX11_examineRow_78 ?_
      refine lv_aload_n hx hb dX11_examineRow_81 rfl (lv_at hl 0 rfl) ?_
      refine g_get C hw f_RX11_19 xl_0 (xs_0 _ _) rfl dX11_examineRow_82 ?_
      refine g_get C hw f_RX11_155 xl_12 (xs_12 _ _) rfl dX11_examineRow_85 ?_
      refine lv_aload_n hx hb dX11_examineRow_88 rfl (lv_at hl 0 rfl) ?_
      refine g_get C hw f_RX11_66 xl_0 (xs_0 _ _) rfl dX11_examineRow_89 ?_
      refine lv_iload_n hx hb dX11_examineRow_92 rfl (lv_at hl 2 rfl) ?_
      refine g_iald C hw xl_61 xs_61 h.1 dX11_examineRow_93 ?_
      have h := h.2
      refine g_iald C hw xl_13 xs_13 h.1 dX11_examineRow_94 ?_
      have h := h.2
      refine g_iald C hw xl_20 xs_20 h.1 dX11_examineRow_95 ?_
      have h := h.2
      refine lv_istore_n (lv' := [(1, .int (I67 20 (I67 13 (I67 61 x2.toNatClampNeg).toNatClampNeg).toNatClampNeg)), (0, .ref (ad 0)), (2, .int x2)]) hx hb dX11_examineRow_96 rfl hl (by decide) rfl (fun ls hl => ?_)
      refine lv_iinc (v := x2 + 1) (lv' := [(2, .int (x2 + 1)), (1, .int (I67 20 (I67 13 (I67 61 x2.toNatClampNeg).toNatClampNeg).toNatClampNeg)), (0, .ref (ad 0))]) hx hb dX11_examineRow_97 hl (k := 2) rfl rfl (by decide) rfl (fun ls hl => ?_)
      refine lv_goto (tgt := 56) hx hb dX11_examineRow_100 (by decide) ?_
      exact hL56 h hw (lv_sub hl [2, 1, 0] rfl)
    · have h := h.2 c70
      exact g_vret C hw h dX11_examineRow_73
theorem wl_X11_examineRow_56 {Q : MI → MJ → Prop} (C : gC RX11 cX11_examineRow 3 none 66 ad cy D (xF ad ts) p s m args meth c) {x1 : Int32} {x2 : Int32} {I : MI} {J : MJ} {H : Heap} {locs : List Loc} {ls : Array Slot} (h : lpx (P_X11_examineRow_56 Q) (x1, x2, I, J)) (hw : gH (xS ad cy) 66 ad D s I J H locs) (hl : lv_has ls 3 [(0, .ref (ad 0)), (1, .int x1), (2, .int x2)]) : W p l e rmX11_examineRow s m args below meth c H locs 0 0 (MQ below (gQv (xS ad cy) 66 ad cy D (xF ad ts) Q) args s 0 0 (gA 66 ad)) (F0 m 56 ls []) := by
  obtain ⟨n, h⟩ := h
  induction n generalizing x1 x2 I J H locs ls with
  | zero => exact False.elim h
  | succ n ih => exact w_X11_examineRow_56 C  (fun hk9 hw9 hl9 => ih hw9 hl9 hk9) h hw hl
set_option maxHeartbeats 4000000 in
set_option maxRecDepth 100000 in
theorem w_X11_examineRow {Q : MI → MJ → Prop} (C : gC RX11 cX11_examineRow 3 none 66 ad cy D (xF ad ts) p s m args meth c) {I : MI} {J : MJ} {H : Heap} {locs : List Loc} {ls : Array Slot} (h : P_X11_examineRow I J Q) (hw : gH (xS ad cy) 66 ad D s I J H locs) (hl : lv_has ls 3 [(0, .ref (ad 0))]) : W p l e rmX11_examineRow s m args below meth c H locs 0 0 (MQ below (gQv (xS ad cy) 66 ad cy D (xF ad ts) Q) args s 0 0 (gA 66 ad)) (F0 m 0 ls []) := by
  obtain ⟨hx, hb, hC⟩ := id C
  refine lv_aload_n hx hb dX11_examineRow_0 rfl (lv_at hl 0 rfl) ?_
  refine lv_iconst (v := 0) hx hb dX11_examineRow_1 (by decide) ?_
  refine lv_bipush (v := -9) hx hb dX11_examineRow_2 (by decide) ?_
  refine lv_bipush (v := -9) hx hb dX11_examineRow_4 (by decide) ?_
  refine lv_iconst (v := 0) hx hb dX11_examineRow_6 (by decide) ?_
  refine g_cv hw (g_rV [.int (0 : Int32), .int (-9 : Int32), .int (-9 : Int32), .int (0 : Int32)] [] C hw (m_X11_explain h) k_X11_explain q_RX11_308 xl_0 (xs_0 _ _) rfl rfl hl.1 rfl (Nat.le_of_ble_eq_true rfl) ⟨⟨rfl, rfl⟩, Nat.le_of_ble_eq_true rfl, Nat.le_of_ble_eq_true rfl⟩ ⟨Nat.zero_le _, Nat.zero_le _⟩ dX11_examineRow_7) (fun I7 J7 H locs h hw => ?_)
  refine lv_aload_n hx hb dX11_examineRow_10 rfl (lv_at hl 0 rfl) ?_
  refine g_get C hw f_RX11_82 xl_0 (xs_0 _ _) rfl dX11_examineRow_11 ?_
  refine lv_if_ne (tgt := 28) hx hb dX11_examineRow_14 (by decide) (fun c14 => ?_) (fun c14 => ?_)
  · have h := h.1 c14
    refine lv_aload_n hx hb dX11_examineRow_28 rfl (lv_at hl 0 rfl) ?_
    refine g_get C hw f_RX11_26 xl_0 (xs_0 _ _) rfl dX11_examineRow_29 ?_
    refine g_get C hw f_RX11_180 xl_17 (xs_17 _ _) rfl dX11_examineRow_32 ?_
    refine lv_iconst (v := 0) hx hb dX11_examineRow_35 (by decide) ?_
    refine lv_aload_n hx hb dX11_examineRow_36 rfl (lv_at hl 0 rfl) ?_
    refine g_get C hw f_RX11_76 xl_0 (xs_0 _ _) rfl dX11_examineRow_37 ?_
    refine lv_iconst (v := 0) hx hb dX11_examineRow_40 (by decide) ?_
    refine lv_bipush (v := 8) hx hb dX11_examineRow_41 (by decide) ?_
    refine g_copyi C hw hl.1 q_RX11_312 qn_copy qs_copy qi_RJ10 xl_18 xs_18 xl_64 xs_64 h.1.1 h.1.2.1 h.1.2.2.1 h.1.2.2.2.1 h.1.2.2.2.2 (Nat.le_of_ble_eq_true rfl) (Nat.le_of_ble_eq_true rfl) dX11_examineRow_43 (fun H locs hw => ?_)
    have h := h.2
    obtain ⟨I43, e43⟩ : ∃ z : MI, z = wI I7 64 (va_cpy (I7 18) (I7 64) (0 : Int32).toNatClampNeg (0 : Int32).toNatClampNeg (8 : Int32).toNatClampNeg) := ⟨_, rfl⟩
    have h := h I43 e43
    rw [← e43] at hw
    refine lv_aload_n hx hb dX11_examineRow_46 rfl (lv_at hl 0 rfl) ?_
    refine g_get C hw f_RX11_26 xl_0 (xs_0 _ _) rfl dX11_examineRow_47 ?_
    refine g_get C hw f_RX11_131 xl_17 (xs_17 _ _) rfl dX11_examineRow_50 ?_
    refine lv_istore_n (lv' := [(1, .int (I43 17 3)), (0, .ref (ad 0))]) hx hb dX11_examineRow_53 rfl hl (by decide) rfl (fun ls hl => ?_)
    refine lv_iconst (v := 0) hx hb dX11_examineRow_54 (by decide) ?_
    refine lv_istore_n (lv' := [(2, .int (0 : Int32)), (1, .int (I43 17 3)), (0, .ref (ad 0))]) hx hb dX11_examineRow_55 rfl hl (by decide) rfl (fun ls hl => ?_)
    exact wl_X11_examineRow_56 C  h hw (lv_sub hl [2, 1, 0] rfl)
  · have h := h.2 c14
    refine lv_aload_n hx hb dX11_examineRow_17 rfl (lv_at hl 0 rfl) ?_
    refine lv_bipush (v := 6) hx hb dX11_examineRow_18 (by decide) ?_
    refine lv_iconst (v := 0) hx hb dX11_examineRow_20 (by decide) ?_
    refine lv_bipush (v := -9) hx hb dX11_examineRow_21 (by decide) ?_
    refine lv_iconst (v := 0) hx hb dX11_examineRow_23 (by decide) ?_
    refine g_cv hw (g_rV [.int (6 : Int32), .int (0 : Int32), .int (-9 : Int32), .int (0 : Int32)] [] C hw (m_X11_explain h) k_X11_explain q_RX11_308 xl_0 (xs_0 _ _) rfl rfl hl.1 rfl (Nat.le_of_ble_eq_true rfl) ⟨⟨rfl, rfl⟩, Nat.le_of_ble_eq_true rfl, Nat.le_of_ble_eq_true rfl⟩ ⟨Nat.zero_le _, Nat.zero_le _⟩ dX11_examineRow_24) (fun I24 J24 H locs h hw => ?_)
    exact g_vret C hw h dX11_examineRow_27
theorem m_X11_examineRow {l : Launch} {Q : MI → MJ → Prop} {I : MI} {J : MJ} (h : P_X11_examineRow I J Q) : Met l yX11_examineRow (xws yX11_examineRow cX11_examineRow 3 none) rmX11_examineRow (va_Pc [.ref (ad 0)] (gB (xS ad cy) 66 ad cy D (xF ad ts) I J)) (gQv (xS ad cy) 66 ad cy D (xF ad ts) Q) 0 0 (gA 66 ad) :=
  g_met (xF_ok ad ts) rfl (by decide) (Nat.le_of_ble_eq_true rfl) (fun p e s m below meth c ls C hw hl => w_X11_examineRow C  h hw hl)
/-! BagPhrases.why(I)I -/
def P_X11_why (a0 : Int32) (I : MI) (J : MJ) (Q : Int32 → MI → MJ → Prop) : Prop :=
  ((a0 < 0 → Q (-2 : Int32) I J) ∧ (¬ a0 < 0 → ((a0 ≤ (3 : Int32) → P_X11_examineRow I J (fun I13 J13 => vp_in a0 4 ∧ (Q (I13 63 a0.toNatClampNeg) I13 J13))) ∧ (¬ a0 ≤ (3 : Int32) → Q (-2 : Int32) I J))))
abbrev rmX11_why : Room := { frames := 3, cells := 0, slots := 0, locals := 72 }
set_option maxHeartbeats 4000000 in
set_option maxRecDepth 100000 in
theorem w_X11_why {Q : Int32 → MI → MJ → Prop} (C : gC RX11 cX11_why 2 (some .int) 66 ad cy D (xF ad ts) p s m args meth c) {a0 : Int32} {I : MI} {J : MJ} {H : Heap} {locs : List Loc} {ls : Array Slot} (h : P_X11_why a0 I J Q) (hw : gH (xS ad cy) 66 ad D s I J H locs) (hl : lv_has ls 2 [(0, .ref (ad 0)), (1, .int a0)]) : W p l e rmX11_why s m args below meth c H locs 0 0 (MQ below (gQi (xS ad cy) 66 ad cy D (xF ad ts) Q) args s 0 0 (gA 66 ad)) (F0 m 0 ls []) := by
  obtain ⟨hx, hb, hC⟩ := id C
  refine lv_iload_n hx hb dX11_why_0 rfl (lv_at hl 1 rfl) ?_
  refine lv_if_lt (tgt := 9) hx hb dX11_why_1 (by decide) (fun c1 => ?_) (fun c1 => ?_)
  · have h := h.1 c1
    refine lv_bipush (v := -2) hx hb dX11_why_9 (by decide) ?_
    exact g_iret C hw h dX11_why_11
  · have h := h.2 c1
    refine lv_iload_n hx hb dX11_why_4 rfl (lv_at hl 1 rfl) ?_
    refine lv_iconst (v := 3) hx hb dX11_why_5 (by decide) ?_
    refine lv_icmp_le (tgt := 12) hx hb dX11_why_6 (by decide) (fun c6 => ?_) (fun c6 => ?_)
    · have h := h.1 c6
      refine lv_aload_n hx hb dX11_why_12 rfl (lv_at hl 0 rfl) ?_
      refine g_cv hw (g_rV [] [] C hw (m_X11_examineRow h) k_X11_examineRow q_RX11_231 xl_0 (xs_0 _ _) rfl rfl hl.1 rfl (Nat.le_of_ble_eq_true rfl) ⟨⟨rfl, rfl⟩, Nat.le_of_ble_eq_true rfl, Nat.le_of_ble_eq_true rfl⟩ ⟨Nat.zero_le _, Nat.zero_le _⟩ dX11_why_13) (fun I13 J13 H locs h hw => ?_)
      refine lv_aload_n hx hb dX11_why_16 rfl (lv_at hl 0 rfl) ?_
      refine g_get C hw f_RX11_73 xl_0 (xs_0 _ _) rfl dX11_why_17 ?_
      refine lv_iload_n hx hb dX11_why_20 rfl (lv_at hl 1 rfl) ?_
      refine g_iald C hw xl_63 xs_63 h.1 dX11_why_21 ?_
      have h := h.2
      exact g_iret C hw h dX11_why_22
    · have h := h.2 c6
      refine lv_bipush (v := -2) hx hb dX11_why_9 (by decide) ?_
      exact g_iret C hw h dX11_why_11
theorem m_X11_why {l : Launch} {a0 : Int32} {Q : Int32 → MI → MJ → Prop} {I : MI} {J : MJ} (h : P_X11_why a0 I J Q) : Met l yX11_why (xws yX11_why cX11_why 2 (some .int)) rmX11_why (va_Pc [.ref (ad 0), .int a0] (gB (xS ad cy) 66 ad cy D (xF ad ts) I J)) (gQi (xS ad cy) 66 ad cy D (xF ad ts) Q) 0 0 (gA 66 ad) :=
  g_met (xF_ok ad ts) rfl (by decide) (Nat.le_of_ble_eq_true rfl) (fun p e s m below meth c ls C hw hl => w_X11_why C  h hw hl)
/-! BagPhrases$Phrases.numberOf([II)J -/
def P_X6_numberOf_36 (Q : Int64 → MI → MJ → Prop) (kL27 : Int32 × Int32 × Int32 × Int64 × Int32 × MI × MJ → Prop) (kL36 : Int32 × Int32 × Int32 × Int64 × Int32 × Int32 × MI × MJ → Prop) : Int32 × Int32 × Int32 × Int64 × Int32 × Int32 × MI × MJ → Prop := fun z => match z with
  | (x2, x3, x4, x5, x7, x8, I, J) => vp_in x7 12 ∧ ((((I 61 x7.toNatClampNeg) ≤ x8 → vp_in x7 12 ∧ (vp_in (I 61 x7.toNatClampNeg) 10 ∧ (vp_in x7 12 ∧ (vp_in (I 61 x7.toNatClampNeg) 10 ∧ (vp_in (I 13 (I 61 x7.toNatClampNeg).toNatClampNeg) 4 ∧ (kL27 (x2, (x3 - (I 52 (I 61 x7.toNatClampNeg).toNatClampNeg)), (I 20 (I 13 (I 61 x7.toNatClampNeg).toNatClampNeg).toNatClampNeg), x5, (x7 + 1), I, J))))))) ∧ (¬ (I 61 x7.toNatClampNeg) ≤ x8 → P_X6_waysBy x8 x3 x4 I J (fun r53 I53 J53 => kL36 (x2, x3, x4, (x5 + r53), x7, (x8 + 1), I53, J53)))))
def P_X6_numberOf_27 (Q : Int64 → MI → MJ → Prop) (kL27 : Int32 × Int32 × Int32 × Int64 × Int32 × MI × MJ → Prop) : Int32 × Int32 × Int32 × Int64 × Int32 × MI × MJ → Prop := fun z => match z with
  | (x2, x3, x4, x5, x7, I, J) => ((x2 ≤ x7 → Q x5 I J) ∧ (¬ x2 ≤ x7 → lpx (P_X6_numberOf_36 Q kL27) (x2, x3, x4, x5, x7, (0 : Int32), I, J)))
def P_X6_numberOf (a1 : Int32) (I : MI) (J : MJ) (Q : Int64 → MI → MJ → Prop) : Prop :=
  P_X6_refresh I J (fun I1 J1 => lpx (P_X6_numberOf_27 Q) (a1, (I1 46 11), (I1 17 3), (0 : Int64), (0 : Int32), I1, J1))
abbrev rmX6_numberOf : Room := { frames := 5, cells := 0, slots := 0, locals := 135 }
set_option maxHeartbeats 4000000 in
set_option maxRecDepth 100000 in
theorem w_X6_numberOf_36 {Q : Int64 → MI → MJ → Prop} (C : gC RX6 cX6_numberOf 9 (some .long) 66 ad cy D (xF ad ts) p s m args meth c) {kL27 : Int32 × Int32 × Int32 × Int64 × Int32 × MI × MJ → Prop} (hL27 : ∀ {x2 : Int32} {x3 : Int32} {x4 : Int32} {x5 : Int64} {x7 : Int32} {I : MI} {J : MJ} {H : Heap} {locs : List Loc} {ls : Array Slot}, kL27 (x2, x3, x4, x5, x7, I, J) → gH (xS ad cy) 66 ad D s I J H locs → lv_has ls 9 [(0, .ref (ad 39)), (1, .ref (ad 61)), (2, .int x2), (3, .int x3), (4, .int x4), (5, .long x5), (7, .int x7)] → W p l e rmX6_numberOf s m args below meth c H locs 0 0 (MQ below (gQl (xS ad cy) 66 ad cy D (xF ad ts) Q) args s 0 0 (gA 66 ad)) (F0 m 27 ls [])) {kL36 : Int32 × Int32 × Int32 × Int64 × Int32 × Int32 × MI × MJ → Prop} (hL36 : ∀ {x2 : Int32} {x3 : Int32} {x4 : Int32} {x5 : Int64} {x7 : Int32} {x8 : Int32} {I : MI} {J : MJ} {H : Heap} {locs : List Loc} {ls : Array Slot}, kL36 (x2, x3, x4, x5, x7, x8, I, J) → gH (xS ad cy) 66 ad D s I J H locs → lv_has ls 9 [(0, .ref (ad 39)), (1, .ref (ad 61)), (2, .int x2), (3, .int x3), (4, .int x4), (5, .long x5), (7, .int x7), (8, .int x8)] → W p l e rmX6_numberOf s m args below meth c H locs 0 0 (MQ below (gQl (xS ad cy) 66 ad cy D (xF ad ts) Q) args s 0 0 (gA 66 ad)) (F0 m 36 ls [])) {x2 : Int32} {x3 : Int32} {x4 : Int32} {x5 : Int64} {x7 : Int32} {x8 : Int32} {I : MI} {J : MJ} {H : Heap} {locs : List Loc} {ls : Array Slot} (h : P_X6_numberOf_36 Q kL27 kL36 (x2, x3, x4, x5, x7, x8, I, J)) (hw : gH (xS ad cy) 66 ad D s I J H locs) (hl : lv_has ls 9 [(0, .ref (ad 39)), (1, .ref (ad 61)), (2, .int x2), (3, .int x3), (4, .int x4), (5, .long x5), (7, .int x7), (8, .int x8)]) : W p l e rmX6_numberOf s m args below meth c H locs 0 0 (MQ below (gQl (xS ad cy) 66 ad cy D (xF ad ts) Q) args s 0 0 (gA 66 ad)) (F0 m 36 ls []) := by
  obtain ⟨hx, hb, hC⟩ := id C
  refine lv_iload hx hb dX6_numberOf_36 (lv_at hl 7 rfl) ?_
  refine lv_aload_n hx hb dX6_numberOf_38 rfl (lv_at hl 1 rfl) ?_
  refine lv_iload hx hb dX6_numberOf_39 (lv_at hl 6 rfl) ?_
  refine g_iald C hw xl_61 xs_61 h.1 dX6_numberOf_41 ?_
  have h := h.2
  refine lv_icmp_ge (tgt := 65) hx hb dX6_numberOf_42 (by decide) (fun c42 => ?_) (fun c42 => ?_)
  · have h := h.1 c42
    refine lv_iload_n hx hb dX6_numberOf_65 rfl (lv_at hl 3 rfl) ?_
    refine lv_aload_n hx hb dX6_numberOf_66 rfl (lv_at hl 0 rfl) ?_
    refine g_get C hw f_RX6_63 xl_39 (xs_39 _ _) rfl dX6_numberOf_67 ?_
    refine g_get C hw f_RX6_160 xl_46 (xs_46 _ _) rfl dX6_numberOf_70 ?_
    refine lv_aload_n hx hb dX6_numberOf_73 rfl (lv_at hl 1 rfl) ?_
    refine lv_iload hx hb dX6_numberOf_74 (lv_at hl 6 rfl) ?_
    refine g_iald C hw xl_61 xs_61 h.1 dX6_numberOf_76 ?_
    have h := h.2
    refine g_iald C hw xl_52 xs_52 h.1 dX6_numberOf_77 ?_
    have h := h.2
    refine lv_isub hx hb dX6_numberOf_78 ?_
    refine lv_istore_n (lv' := [(3, .int (x3 - (I 52 (I 61 x7.toNatClampNeg).toNatClampNeg))), (0, .ref (ad 39)), (1, .ref (ad 61)), (2, .int x2), (4, .int x4), (5, .long x5), (7, .int x7), (8, .int x8)]) hx hb dX6_numberOf_79 rfl hl (by decide) rfl (fun ls hl => ?_)
    refine lv_aload_n hx hb dX6_numberOf_80 rfl (lv_at hl 1 rfl) ?_
    refine g_get C hw f_RX6_54 xl_39 (xs_39 _ _) rfl dX6_numberOf_81 ?_
    refine g_get C hw f_RX6_146 xl_17 (xs_17 _ _) rfl dX6_numberOf_84 ?_
    refine lv_aload_n hx hb dX6_numberOf_87 rfl (lv_at hl 1 rfl) ?_
    refine g_get C hw f_RX6_50 xl_39 (xs_39 _ _) rfl dX6_numberOf_88 ?_
    refine g_get C hw f_RX6_149 xl_12 (xs_12 _ _) rfl dX6_numberOf_91 ?_
    refine lv_aload_n hx hb dX6_numberOf_94 rfl (lv_at hl 2 rfl) ?_
    refine lv_iload hx hb dX6_numberOf_95 (lv_at hl 6 rfl) ?_
    refine g_iald C hw xl_61 xs_61 h.1 dX6_numberOf_97 ?_
    have h := h.2
    refine g_iald C hw xl_13 xs_13 h.1 dX6_numberOf_98 ?_
    have h := h.2
    refine g_iald C hw xl_20 xs_20 h.1 dX6_numberOf_99 ?_
    have h := h.2
    refine lv_istore (lv' := [(4, .int (I 20 (I 13 (I 61 x7.toNatClampNeg).toNatClampNeg).toNatClampNeg)), (3, .int (x3 - (I 52 (I 61 x7.toNatClampNeg).toNatClampNeg))), (0, .ref (ad 39)), (1, .ref (ad 61)), (2, .int x2), (5, .long x5), (7, .int x7), (8, .int x8)]) hx hb dX6_numberOf_100 hl (by decide) rfl (fun ls hl => ?_)
    refine lv_iinc (v := x7 + 1) (lv' := [(7, .int (x7 + 1)), (4, .int (I 20 (I 13 (I 61 x7.toNatClampNeg).toNatClampNeg).toNatClampNeg)), (3, .int (x3 - (I 52 (I 61 x7.toNatClampNeg).toNatClampNeg))), (0, .ref (ad 39)), (1, .ref (ad 61)), (2, .int x2), (5, .long x5), (8, .int x8)]) hx hb dX6_numberOf_102 hl (k := 6) rfl rfl (by decide) rfl (fun ls hl => ?_)
    refine lv_goto (tgt := 27) hx hb dX6_numberOf_105 (by decide) ?_
    exact hL27 h hw (lv_sub hl [3, 4, 5, 2, 1, 6, 0] rfl)
  · have h := h.2 c42
    refine lv_lload hx hb dX6_numberOf_45 (lv_at hl 5 rfl) ?_
    refine lv_aload_n hx hb dX6_numberOf_47 rfl (lv_at hl 0 rfl) ?_
    refine lv_iload hx hb dX6_numberOf_48 (lv_at hl 7 rfl) ?_
    refine lv_iload_n hx hb dX6_numberOf_50 rfl (lv_at hl 3 rfl) ?_
    refine lv_iload hx hb dX6_numberOf_51 (lv_at hl 4 rfl) ?_
    refine g_cl hw (g_rV [.int x8, .int x3, .int x4] [.long x5] C hw (m_X6_waysBy h) k_X6_waysBy q_RX6_138 xl_39 (xs_39 _ _) rfl rfl hl.1 rfl (Nat.le_of_ble_eq_true rfl) ⟨⟨rfl, rfl⟩, Nat.le_of_ble_eq_true rfl, Nat.le_of_ble_eq_true rfl⟩ ⟨Nat.zero_le _, Nat.zero_le _⟩ dX6_numberOf_53) (fun r53 I53 J53 H locs h hw => ?_)
    refine lv_ladd hx hb dX6_numberOf_56 ?_
    refine lv_lstore (lv' := [(5, .long (x5 + r53)), (0, .ref (ad 39)), (1, .ref (ad 61)), (2, .int x2), (3, .int x3), (4, .int x4), (7, .int x7), (8, .int x8)]) hx hb dX6_numberOf_57 hl (by decide) rfl (fun ls hl => ?_)
    refine lv_iinc (v := x8 + 1) (lv' := [(8, .int (x8 + 1)), (5, .long (x5 + r53)), (0, .ref (ad 39)), (1, .ref (ad 61)), (2, .int x2), (3, .int x3), (4, .int x4), (7, .int x7)]) hx hb dX6_numberOf_59 hl (k := 7) rfl rfl (by decide) rfl (fun ls hl => ?_)
    refine lv_goto (tgt := 36) hx hb dX6_numberOf_62 (by decide) ?_
    exact hL36 h hw (lv_sub hl [2, 3, 4, 5, 6, 1, 7, 0] rfl)
theorem wl_X6_numberOf_36 {Q : Int64 → MI → MJ → Prop} (C : gC RX6 cX6_numberOf 9 (some .long) 66 ad cy D (xF ad ts) p s m args meth c) {kL27 : Int32 × Int32 × Int32 × Int64 × Int32 × MI × MJ → Prop} (hL27 : ∀ {x2 : Int32} {x3 : Int32} {x4 : Int32} {x5 : Int64} {x7 : Int32} {I : MI} {J : MJ} {H : Heap} {locs : List Loc} {ls : Array Slot}, kL27 (x2, x3, x4, x5, x7, I, J) → gH (xS ad cy) 66 ad D s I J H locs → lv_has ls 9 [(0, .ref (ad 39)), (1, .ref (ad 61)), (2, .int x2), (3, .int x3), (4, .int x4), (5, .long x5), (7, .int x7)] → W p l e rmX6_numberOf s m args below meth c H locs 0 0 (MQ below (gQl (xS ad cy) 66 ad cy D (xF ad ts) Q) args s 0 0 (gA 66 ad)) (F0 m 27 ls [])) {x2 : Int32} {x3 : Int32} {x4 : Int32} {x5 : Int64} {x7 : Int32} {x8 : Int32} {I : MI} {J : MJ} {H : Heap} {locs : List Loc} {ls : Array Slot} (h : lpx (P_X6_numberOf_36 Q kL27) (x2, x3, x4, x5, x7, x8, I, J)) (hw : gH (xS ad cy) 66 ad D s I J H locs) (hl : lv_has ls 9 [(0, .ref (ad 39)), (1, .ref (ad 61)), (2, .int x2), (3, .int x3), (4, .int x4), (5, .long x5), (7, .int x7), (8, .int x8)]) : W p l e rmX6_numberOf s m args below meth c H locs 0 0 (MQ below (gQl (xS ad cy) 66 ad cy D (xF ad ts) Q) args s 0 0 (gA 66 ad)) (F0 m 36 ls []) := by
  obtain ⟨n, h⟩ := h
  induction n generalizing x2 x3 x4 x5 x7 x8 I J H locs ls with
  | zero => exact False.elim h
  | succ n ih => exact w_X6_numberOf_36 C hL27 (fun hk9 hw9 hl9 => ih hw9 hl9 hk9) h hw hl
set_option maxHeartbeats 4000000 in
set_option maxRecDepth 100000 in
theorem w_X6_numberOf_27 {Q : Int64 → MI → MJ → Prop} (C : gC RX6 cX6_numberOf 9 (some .long) 66 ad cy D (xF ad ts) p s m args meth c) {kL27 : Int32 × Int32 × Int32 × Int64 × Int32 × MI × MJ → Prop} (hL27 : ∀ {x2 : Int32} {x3 : Int32} {x4 : Int32} {x5 : Int64} {x7 : Int32} {I : MI} {J : MJ} {H : Heap} {locs : List Loc} {ls : Array Slot}, kL27 (x2, x3, x4, x5, x7, I, J) → gH (xS ad cy) 66 ad D s I J H locs → lv_has ls 9 [(0, .ref (ad 39)), (1, .ref (ad 61)), (2, .int x2), (3, .int x3), (4, .int x4), (5, .long x5), (7, .int x7)] → W p l e rmX6_numberOf s m args below meth c H locs 0 0 (MQ below (gQl (xS ad cy) 66 ad cy D (xF ad ts) Q) args s 0 0 (gA 66 ad)) (F0 m 27 ls [])) {x2 : Int32} {x3 : Int32} {x4 : Int32} {x5 : Int64} {x7 : Int32} {I : MI} {J : MJ} {H : Heap} {locs : List Loc} {ls : Array Slot} (h : P_X6_numberOf_27 Q kL27 (x2, x3, x4, x5, x7, I, J)) (hw : gH (xS ad cy) 66 ad D s I J H locs) (hl : lv_has ls 9 [(0, .ref (ad 39)), (1, .ref (ad 61)), (2, .int x2), (3, .int x3), (4, .int x4), (5, .long x5), (7, .int x7)]) : W p l e rmX6_numberOf s m args below meth c H locs 0 0 (MQ below (gQl (xS ad cy) 66 ad cy D (xF ad ts) Q) args s 0 0 (gA 66 ad)) (F0 m 27 ls []) := by
  obtain ⟨hx, hb, hC⟩ := id C
  refine lv_iload hx hb dX6_numberOf_27 (lv_at hl 6 rfl) ?_
  refine lv_iload_n hx hb dX6_numberOf_29 rfl (lv_at hl 2 rfl) ?_
  refine lv_icmp_ge (tgt := 108) hx hb dX6_numberOf_30 (by decide) (fun c30 => ?_) (fun c30 => ?_)
  · have h := h.1 c30
    refine lv_lload hx hb dX6_numberOf_108 (lv_at hl 5 rfl) ?_
    exact g_lret C hw h dX6_numberOf_110
  · have h := h.2 c30
    refine lv_iconst (v := 0) hx hb dX6_numberOf_33 (by decide) ?_
    refine lv_istore (lv' := [(8, .int (0 : Int32)), (0, .ref (ad 39)), (1, .ref (ad 61)), (2, .int x2), (3, .int x3), (4, .int x4), (5, .long x5), (7, .int x7)]) hx hb dX6_numberOf_34 hl (by decide) rfl (fun ls hl => ?_)
    exact wl_X6_numberOf_36 C hL27 h hw (lv_sub hl [1, 2, 3, 4, 5, 6, 7, 0] rfl)
theorem wl_X6_numberOf_27 {Q : Int64 → MI → MJ → Prop} (C : gC RX6 cX6_numberOf 9 (some .long) 66 ad cy D (xF ad ts) p s m args meth c) {x2 : Int32} {x3 : Int32} {x4 : Int32} {x5 : Int64} {x7 : Int32} {I : MI} {J : MJ} {H : Heap} {locs : List Loc} {ls : Array Slot} (h : lpx (P_X6_numberOf_27 Q) (x2, x3, x4, x5, x7, I, J)) (hw : gH (xS ad cy) 66 ad D s I J H locs) (hl : lv_has ls 9 [(0, .ref (ad 39)), (1, .ref (ad 61)), (2, .int x2), (3, .int x3), (4, .int x4), (5, .long x5), (7, .int x7)]) : W p l e rmX6_numberOf s m args below meth c H locs 0 0 (MQ below (gQl (xS ad cy) 66 ad cy D (xF ad ts) Q) args s 0 0 (gA 66 ad)) (F0 m 27 ls []) := by
  obtain ⟨n, h⟩ := h
  induction n generalizing x2 x3 x4 x5 x7 I J H locs ls with
  | zero => exact False.elim h
  | succ n ih => exact w_X6_numberOf_27 C  (fun hk9 hw9 hl9 => ih hw9 hl9 hk9) h hw hl
set_option maxHeartbeats 4000000 in
set_option maxRecDepth 100000 in
theorem w_X6_numberOf {Q : Int64 → MI → MJ → Prop} (C : gC RX6 cX6_numberOf 9 (some .long) 66 ad cy D (xF ad ts) p s m args meth c) {a1 : Int32} {I : MI} {J : MJ} {H : Heap} {locs : List Loc} {ls : Array Slot} (h : P_X6_numberOf a1 I J Q) (hw : gH (xS ad cy) 66 ad D s I J H locs) (hl : lv_has ls 9 [(0, .ref (ad 39)), (1, .ref (ad 61)), (2, .int a1)]) : W p l e rmX6_numberOf s m args below meth c H locs 0 0 (MQ below (gQl (xS ad cy) 66 ad cy D (xF ad ts) Q) args s 0 0 (gA 66 ad)) (F0 m 0 ls []) := by
  obtain ⟨hx, hb, hC⟩ := id C
  refine lv_aload_n hx hb dX6_numberOf_0 rfl (lv_at hl 0 rfl) ?_
  refine g_cv hw (g_rV [] [] C hw (m_X6_refresh h) k_X6_refresh q_RX6_96 xl_39 (xs_39 _ _) rfl rfl hl.1 rfl (Nat.le_of_ble_eq_true rfl) ⟨⟨rfl, rfl⟩, Nat.le_of_ble_eq_true rfl, Nat.le_of_ble_eq_true rfl⟩ ⟨Nat.zero_le _, Nat.zero_le _⟩ dX6_numberOf_1) (fun I1 J1 H locs h hw => ?_)
  refine lv_aload_n hx hb dX6_numberOf_4 rfl (lv_at hl 0 rfl) ?_
  refine g_get C hw f_RX6_63 xl_39 (xs_39 _ _) rfl dX6_numberOf_5 ?_
  refine g_get C hw f_RX6_132 xl_46 (xs_46 _ _) rfl dX6_numberOf_8 ?_
  refine lv_istore_n (lv' := [(3, .int (I1 46 11)), (0, .ref (ad 39)), (1, .ref (ad 61)), (2, .int a1)]) hx hb dX6_numberOf_11 rfl hl (by decide) rfl (fun ls hl => ?_)
  refine lv_aload_n hx hb dX6_numberOf_12 rfl (lv_at hl 1 rfl) ?_
  refine g_get C hw f_RX6_54 xl_39 (xs_39 _ _) rfl dX6_numberOf_13 ?_
  refine g_get C hw f_RX6_135 xl_17 (xs_17 _ _) rfl dX6_numberOf_16 ?_
  refine lv_istore (lv' := [(4, .int (I1 17 3)), (3, .int (I1 46 11)), (0, .ref (ad 39)), (1, .ref (ad 61)), (2, .int a1)]) hx hb dX6_numberOf_19 hl (by decide) rfl (fun ls hl => ?_)
  refine lv_lconst (v := 0) hx hb dX6_numberOf_21 (by decide) ?_
  refine lv_lstore (lv' := [(5, .long (0 : Int64)), (4, .int (I1 17 3)), (3, .int (I1 46 11)), (0, .ref (ad 39)), (1, .ref (ad 61)), (2, .int a1)]) hx hb dX6_numberOf_22 hl (by decide) rfl (fun ls hl => ?_)
  refine lv_iconst (v := 0) hx hb dX6_numberOf_24 (by decide) ?_
  refine lv_istore (lv' := [(7, .int (0 : Int32)), (5, .long (0 : Int64)), (4, .int (I1 17 3)), (3, .int (I1 46 11)), (0, .ref (ad 39)), (1, .ref (ad 61)), (2, .int a1)]) hx hb dX6_numberOf_25 hl (by decide) rfl (fun ls hl => ?_)
  exact wl_X6_numberOf_27 C  h hw (lv_sub hl [4, 5, 6, 3, 2, 1, 0] rfl)
theorem m_X6_numberOf {l : Launch} {a1 : Int32} {Q : Int64 → MI → MJ → Prop} {I : MI} {J : MJ} (h : P_X6_numberOf a1 I J Q) : Met l yX6_numberOf (xws yX6_numberOf cX6_numberOf 9 (some .long)) rmX6_numberOf (va_Pc [.ref (ad 39), .ref (ad 61), .int a1] (gB (xS ad cy) 66 ad cy D (xF ad ts) I J)) (gQl (xS ad cy) 66 ad cy D (xF ad ts) Q) 0 0 (gA 66 ad) :=
  g_met (xF_ok ad ts) rfl (by decide) (Nat.le_of_ble_eq_true rfl) (fun p e s m below meth c ls C hw hl => w_X6_numberOf C  h hw hl)
/-! BagPhrases.number()J -/
def P_X11_number (I : MI) (J : MJ) (Q : Int64 → MI → MJ → Prop) : Prop :=
  P_X11_examineRow I J (fun I1 J1 => vp_in (0 : Int32) 4 ∧ (((¬ (I1 63 (0 : Int32).toNatClampNeg) = 0 → Q (-9 : Int64) I1 J1) ∧ ((I1 63 (0 : Int32).toNatClampNeg) = 0 → P_X6_numberOf (I1 0 14) I1 J1 (fun r25 I25 J25 => Q r25 I25 J25)))))
abbrev rmX11_number : Room := { frames := 6, cells := 0, slots := 0, locals := 163 }
set_option maxHeartbeats 4000000 in
set_option maxRecDepth 100000 in
theorem w_X11_number {Q : Int64 → MI → MJ → Prop} (C : gC RX11 cX11_number 1 (some .long) 66 ad cy D (xF ad ts) p s m args meth c) {I : MI} {J : MJ} {H : Heap} {locs : List Loc} {ls : Array Slot} (h : P_X11_number I J Q) (hw : gH (xS ad cy) 66 ad D s I J H locs) (hl : lv_has ls 1 [(0, .ref (ad 0))]) : W p l e rmX11_number s m args below meth c H locs 0 0 (MQ below (gQl (xS ad cy) 66 ad cy D (xF ad ts) Q) args s 0 0 (gA 66 ad)) (F0 m 0 ls []) := by
  obtain ⟨hx, hb, hC⟩ := id C
  refine lv_aload_n hx hb dX11_number_0 rfl (lv_at hl 0 rfl) ?_
  refine g_cv hw (g_rV [] [] C hw (m_X11_examineRow h) k_X11_examineRow q_RX11_231 xl_0 (xs_0 _ _) rfl rfl hl.1 rfl (Nat.le_of_ble_eq_true rfl) ⟨⟨rfl, rfl⟩, Nat.le_of_ble_eq_true rfl, Nat.le_of_ble_eq_true rfl⟩ ⟨Nat.zero_le _, Nat.zero_le _⟩ dX11_number_1) (fun I1 J1 H locs h hw => ?_)
  refine lv_aload_n hx hb dX11_number_4 rfl (lv_at hl 0 rfl) ?_
  refine g_get C hw f_RX11_73 xl_0 (xs_0 _ _) rfl dX11_number_5 ?_
  refine lv_iconst (v := 0) hx hb dX11_number_8 (by decide) ?_
  refine g_iald C hw xl_63 xs_63 h.1 dX11_number_9 ?_
  have h := h.2
  refine lv_if_ne (tgt := 31) hx hb dX11_number_10 (by decide) (fun c10 => ?_) (fun c10 => ?_)
  · have h := h.1 c10
    refine lv_ldc2 (v := (-9)) hx hb hC.2.2.1 (hC.2.2.2.1 _ q_RX11_238) dX11_number_31 ?_
    exact g_lret C hw h dX11_number_34
  · have h := h.2 c10
    refine lv_aload_n hx hb dX11_number_13 rfl (lv_at hl 0 rfl) ?_
    refine g_get C hw f_RX11_53 xl_0 (xs_0 _ _) rfl dX11_number_14 ?_
    refine lv_aload_n hx hb dX11_number_17 rfl (lv_at hl 0 rfl) ?_
    refine g_get C hw f_RX11_66 xl_0 (xs_0 _ _) rfl dX11_number_18 ?_
    refine lv_aload_n hx hb dX11_number_21 rfl (lv_at hl 0 rfl) ?_
    refine g_get C hw f_RX11_82 xl_0 (xs_0 _ _) rfl dX11_number_22 ?_
    refine g_cl hw (g_rV [.ref (ad 61), .int (I1 0 14)] [] C hw (m_X6_numberOf h) k_X6_numberOf q_RX11_234 xl_39 (xs_39 _ _) rfl rfl hl.1 rfl (Nat.le_of_ble_eq_true rfl) ⟨⟨rfl, rfl⟩, Nat.le_of_ble_eq_true rfl, Nat.le_of_ble_eq_true rfl⟩ ⟨Nat.zero_le _, Nat.zero_le _⟩ dX11_number_25) (fun r25 I25 J25 H locs h hw => ?_)
    refine lv_goto (tgt := 34) hx hb dX11_number_28 (by decide) ?_
    exact g_lret C hw h dX11_number_34
theorem m_X11_number {l : Launch} {Q : Int64 → MI → MJ → Prop} {I : MI} {J : MJ} (h : P_X11_number I J Q) : Met l yX11_number (xws yX11_number cX11_number 1 (some .long)) rmX11_number (va_Pc [.ref (ad 0)] (gB (xS ad cy) 66 ad cy D (xF ad ts) I J)) (gQl (xS ad cy) 66 ad cy D (xF ad ts) Q) 0 0 (gA 66 ad) :=
  g_met (xF_ok ad ts) rfl (by decide) (Nat.le_of_ble_eq_true rfl) (fun p e s m below meth c ls C hw hl => w_X11_number C  h hw hl)
/-! BagPhrases$Lattice.reachesEnd()Z -/
def P_X4_reachesEnd (I : MI) (J : MJ) (Q : Int32 → MI → MJ → Prop) : Prop :=
  vp_in (0 : Int32) 1944 ∧ ((((I 48 (0 : Int32).toNatClampNeg) = 0 → Q (0 : Int32) I J) ∧ (¬ (I 48 (0 : Int32).toNatClampNeg) = 0 → Q (1 : Int32) I J)))
abbrev rmX4_reachesEnd : Room := { frames := 0, cells := 0, slots := 0, locals := 0 }
set_option maxHeartbeats 4000000 in
set_option maxRecDepth 100000 in
theorem w_X4_reachesEnd {Q : Int32 → MI → MJ → Prop} (C : gC RX4 cX4_reachesEnd 1 (some .boolean) 66 ad cy D (xF ad ts) p s m args meth c) {I : MI} {J : MJ} {H : Heap} {locs : List Loc} {ls : Array Slot} (h : P_X4_reachesEnd I J Q) (hw : gH (xS ad cy) 66 ad D s I J H locs) (hl : lv_has ls 1 [(0, .ref (ad 46))]) : W p l e rmX4_reachesEnd s m args below meth c H locs 0 0 (MQ below (gQz (xS ad cy) 66 ad cy D (xF ad ts) Q) args s 0 0 (gA 66 ad)) (F0 m 0 ls []) := by
  obtain ⟨hx, hb, hC⟩ := id C
  refine lv_aload_n hx hb dX4_reachesEnd_0 rfl (lv_at hl 0 rfl) ?_
  refine g_get C hw f_RX4_15 xl_46 (xs_46 _ _) rfl dX4_reachesEnd_1 ?_
  refine lv_iconst (v := 0) hx hb dX4_reachesEnd_4 (by decide) ?_
  refine g_iald C hw xl_48 xs_48 h.1 dX4_reachesEnd_5 ?_
  have h := h.2
  refine lv_if_eq (tgt := 13) hx hb dX4_reachesEnd_6 (by decide) (fun c6 => ?_) (fun c6 => ?_)
  · have h := h.1 c6
    refine lv_iconst (v := 0) hx hb dX4_reachesEnd_13 (by decide) ?_
    exact g_zret C hw (by decide) h dX4_reachesEnd_14
  · have h := h.2 c6
    refine lv_iconst (v := 1) hx hb dX4_reachesEnd_9 (by decide) ?_
    refine lv_goto (tgt := 14) hx hb dX4_reachesEnd_10 (by decide) ?_
    exact g_zret C hw (by decide) h dX4_reachesEnd_14
theorem m_X4_reachesEnd {l : Launch} {Q : Int32 → MI → MJ → Prop} {I : MI} {J : MJ} (h : P_X4_reachesEnd I J Q) : Met l yX4_reachesEnd (xws yX4_reachesEnd cX4_reachesEnd 1 (some .boolean)) rmX4_reachesEnd (va_Pc [.ref (ad 46)] (gB (xS ad cy) 66 ad cy D (xF ad ts) I J)) (gQz (xS ad cy) 66 ad cy D (xF ad ts) Q) 0 0 (gA 66 ad) :=
  g_met (xF_ok ad ts) rfl (by decide) (Nat.le_of_ble_eq_true rfl) (fun p e s m below meth c ls C hw hl => w_X4_reachesEnd C  h hw hl)
/-! BagPhrases$Phrases.exist()Z -/
def P_X6_exist (I : MI) (J : MJ) (Q : Int32 → MI → MJ → Prop) : Prop :=
  (∀ I2 : MI, I2 = mI I 39 12 (0 : Int32) → P_X4_lay I2 J (fun I9 J9 => P_X4_reachesEnd I9 J9 (fun r16 I16 J16 => Q r16 I16 J16)))
abbrev rmX6_exist : Room := { frames := 3, cells := 0, slots := 0, locals := 70 }
set_option maxHeartbeats 4000000 in
set_option maxRecDepth 100000 in
theorem w_X6_exist {Q : Int32 → MI → MJ → Prop} (C : gC RX6 cX6_exist 1 (some .boolean) 66 ad cy D (xF ad ts) p s m args meth c) {I : MI} {J : MJ} {H : Heap} {locs : List Loc} {ls : Array Slot} (h : P_X6_exist I J Q) (hw : gH (xS ad cy) 66 ad D s I J H locs) (hl : lv_has ls 1 [(0, .ref (ad 39))]) : W p l e rmX6_exist s m args below meth c H locs 0 0 (MQ below (gQz (xS ad cy) 66 ad cy D (xF ad ts) Q) args s 0 0 (gA 66 ad)) (F0 m 0 ls []) := by
  obtain ⟨hx, hb, hC⟩ := id C
  refine lv_aload_n hx hb dX6_exist_0 rfl (lv_at hl 0 rfl) ?_
  refine lv_iconst (v := 0) hx hb dX6_exist_1 (by decide) ?_
  refine g_putI C hw fp_RX6_43 xl_39 xs_39 (st_6_12 ad _) (Nat.le_of_ble_eq_true rfl) (by decide) (by decide) dX6_exist_2 (fun H locs hw => ?_)
  obtain ⟨I2, e2⟩ : ∃ z : MI, z = mI I 39 12 (0 : Int32) := ⟨_, rfl⟩
  have h := h I2 e2
  rw [← e2] at hw
  refine lv_aload_n hx hb dX6_exist_5 rfl (lv_at hl 0 rfl) ?_
  refine g_get C hw f_RX6_63 xl_39 (xs_39 _ _) rfl dX6_exist_6 ?_
  refine g_cv hw (g_rV [] [] C hw (m_X4_lay h) k_X4_lay q_RX6_81 xl_46 (xs_46 _ _) rfl rfl hl.1 rfl (Nat.le_of_ble_eq_true rfl) ⟨⟨rfl, rfl⟩, Nat.le_of_ble_eq_true rfl, Nat.le_of_ble_eq_true rfl⟩ ⟨Nat.zero_le _, Nat.zero_le _⟩ dX6_exist_9) (fun I9 J9 H locs h hw => ?_)
  refine lv_aload_n hx hb dX6_exist_12 rfl (lv_at hl 0 rfl) ?_
  refine g_get C hw f_RX6_63 xl_39 (xs_39 _ _) rfl dX6_exist_13 ?_
  refine g_cz hw (g_rV [] [] C hw (m_X4_reachesEnd h) k_X4_reachesEnd q_RX6_92 xl_46 (xs_46 _ _) rfl rfl hl.1 rfl (Nat.le_of_ble_eq_true rfl) ⟨⟨rfl, rfl⟩, Nat.le_of_ble_eq_true rfl, Nat.le_of_ble_eq_true rfl⟩ ⟨Nat.zero_le _, Nat.zero_le _⟩ dX6_exist_16) (fun r16 I16 J16 H locs z16 h hw => ?_)
  exact g_zret C hw z16 h dX6_exist_19
theorem m_X6_exist {l : Launch} {Q : Int32 → MI → MJ → Prop} {I : MI} {J : MJ} (h : P_X6_exist I J Q) : Met l yX6_exist (xws yX6_exist cX6_exist 1 (some .boolean)) rmX6_exist (va_Pc [.ref (ad 39)] (gB (xS ad cy) 66 ad cy D (xF ad ts) I J)) (gQz (xS ad cy) 66 ad cy D (xF ad ts) Q) 0 0 (gA 66 ad) :=
  g_met (xF_ok ad ts) rfl (by decide) (Nat.le_of_ble_eq_true rfl) (fun p e s m below meth c ls C hw hl => w_X6_exist C  h hw hl)
/-! BagPhrases.lettersMending(II)I -/
def P_X11_lettersMending_72 (Q : Int32 → MI → MJ → Prop) (kL5 : Int32 × Int32 × Int32 × Int32 × MI × MJ → Prop) (x1 : Int32) (x2 : Int32) (x3 : Int32) (x4 : Int32) (I : MI) (J : MJ) : Prop :=
  kL5 (x1, x2, x3, (x4 + 1), I, J)
def P_X11_lettersMending_61 (Q : Int32 → MI → MJ → Prop) (kL5 : Int32 × Int32 × Int32 × Int32 × MI × MJ → Prop) (x1 : Int32) (x2 : Int32) (x3 : Int32) (x4 : Int32) (I : MI) (J : MJ) : Prop :=
  P_X8_change 17 x2 x4 (0 : Int32) I J (fun I69 J69 => P_X11_lettersMending_72 Q kL5 x1 x2 x3 x4 I69 J69)
def P_X11_lettersMending_33 (Q : Int32 → MI → MJ → Prop) (kL5 : Int32 × Int32 × Int32 × Int32 × MI × MJ → Prop) (x1 : Int32) (x2 : Int32) (x3 : Int32) (x4 : Int32) (I : MI) (J : MJ) : Prop :=
  P_X8_change 17 x1 x4 (0 : Int32) I J (fun I41 J41 => P_X6_exist I41 J41 (fun r48 I48 J48 => ((r48 = 0 → P_X11_lettersMending_61 Q kL5 x1 x2 x3 x4 I48 J48) ∧ (¬ r48 = 0 → P_X11_lettersMending_61 Q kL5 x1 x2 (x3 ||| ((1 : Int32) <<< (x4 &&& 31))) x4 I48 J48))))
def P_X11_lettersMending_5 (Q : Int32 → MI → MJ → Prop) (kL5 : Int32 × Int32 × Int32 × Int32 × MI × MJ → Prop) : Int32 × Int32 × Int32 × Int32 × MI × MJ → Prop := fun z => match z with
  | (x1, x2, x3, x4, I, J) => (((8 : Int32) ≤ x4 → Q x3 I J) ∧ (¬ (8 : Int32) ≤ x4 → ((¬ x1 = (1 : Int32) → P_X11_lettersMending_33 Q kL5 x1 x2 x3 x4 I J) ∧ (x1 = (1 : Int32) → vp_in x4 8 ∧ (((¬ (I 18 x4.toNatClampNeg) = 0 → P_X11_lettersMending_33 Q kL5 x1 x2 x3 x4 I J) ∧ ((I 18 x4.toNatClampNeg) = 0 → P_X11_lettersMending_72 Q kL5 x1 x2 x3 x4 I J)))))))
def P_X11_lettersMending (a0 : Int32) (a1 : Int32) (I : MI) (J : MJ) (Q : Int32 → MI → MJ → Prop) : Prop :=
  lpx (P_X11_lettersMending_5 Q) (a0, a1, (0 : Int32), (0 : Int32), I, J)
abbrev rmX11_lettersMending : Room := { frames := 4, cells := 0, slots := 0, locals := 90 }
set_option maxHeartbeats 4000000 in
set_option maxRecDepth 100000 in
theorem w_X11_lettersMending_72 {Q : Int32 → MI → MJ → Prop} (C : gC RX11 cX11_lettersMending 5 (some .int) 66 ad cy D (xF ad ts) p s m args meth c) {kL5 : Int32 × Int32 × Int32 × Int32 × MI × MJ → Prop} (hL5 : ∀ {x1 : Int32} {x2 : Int32} {x3 : Int32} {x4 : Int32} {I : MI} {J : MJ} {H : Heap} {locs : List Loc} {ls : Array Slot}, kL5 (x1, x2, x3, x4, I, J) → gH (xS ad cy) 66 ad D s I J H locs → lv_has ls 5 [(0, .ref (ad 0)), (1, .int x1), (2, .int x2), (3, .int x3), (4, .int x4)] → W p l e rmX11_lettersMending s m args below meth c H locs 0 0 (MQ below (gQi (xS ad cy) 66 ad cy D (xF ad ts) Q) args s 0 0 (gA 66 ad)) (F0 m 5 ls [])) {x1 : Int32} {x2 : Int32} {x3 : Int32} {x4 : Int32} {I : MI} {J : MJ} {H : Heap} {locs : List Loc} {ls : Array Slot} (h : P_X11_lettersMending_72 Q kL5 x1 x2 x3 x4 I J) (hw : gH (xS ad cy) 66 ad D s I J H locs) (hl : lv_has ls 5 [(0, .ref (ad 0)), (1, .int x1), (2, .int x2), (3, .int x3), (4, .int x4)]) : W p l e rmX11_lettersMending s m args below meth c H locs 0 0 (MQ below (gQi (xS ad cy) 66 ad cy D (xF ad ts) Q) args s 0 0 (gA 66 ad)) (F0 m 72 ls []) := by
  obtain ⟨hx, hb, hC⟩ := id C
  refine lv_iinc (v := x4 + 1) (lv' := [(4, .int (x4 + 1)), (0, .ref (ad 0)), (1, .int x1), (2, .int x2), (3, .int x3)]) hx hb dX11_lettersMending_72 hl (k := 4) rfl rfl (by decide) rfl (fun ls hl => ?_)
  refine lv_goto (tgt := 5) hx hb dX11_lettersMending_75 (by decide) ?_
  exact hL5 h hw (lv_sub hl [1, 2, 3, 4, 0] rfl)
set_option maxHeartbeats 4000000 in
set_option maxRecDepth 100000 in
theorem w_X11_lettersMending_61 {Q : Int32 → MI → MJ → Prop} (C : gC RX11 cX11_lettersMending 5 (some .int) 66 ad cy D (xF ad ts) p s m args meth c) {kL5 : Int32 × Int32 × Int32 × Int32 × MI × MJ → Prop} (hL5 : ∀ {x1 : Int32} {x2 : Int32} {x3 : Int32} {x4 : Int32} {I : MI} {J : MJ} {H : Heap} {locs : List Loc} {ls : Array Slot}, kL5 (x1, x2, x3, x4, I, J) → gH (xS ad cy) 66 ad D s I J H locs → lv_has ls 5 [(0, .ref (ad 0)), (1, .int x1), (2, .int x2), (3, .int x3), (4, .int x4)] → W p l e rmX11_lettersMending s m args below meth c H locs 0 0 (MQ below (gQi (xS ad cy) 66 ad cy D (xF ad ts) Q) args s 0 0 (gA 66 ad)) (F0 m 5 ls [])) {x1 : Int32} {x2 : Int32} {x3 : Int32} {x4 : Int32} {I : MI} {J : MJ} {H : Heap} {locs : List Loc} {ls : Array Slot} (h : P_X11_lettersMending_61 Q kL5 x1 x2 x3 x4 I J) (hw : gH (xS ad cy) 66 ad D s I J H locs) (hl : lv_has ls 5 [(0, .ref (ad 0)), (1, .int x1), (2, .int x2), (3, .int x3), (4, .int x4)]) : W p l e rmX11_lettersMending s m args below meth c H locs 0 0 (MQ below (gQi (xS ad cy) 66 ad cy D (xF ad ts) Q) args s 0 0 (gA 66 ad)) (F0 m 61 ls []) := by
  obtain ⟨hx, hb, hC⟩ := id C
  refine lv_aload_n hx hb dX11_lettersMending_61 rfl (lv_at hl 0 rfl) ?_
  refine g_get C hw f_RX11_26 xl_0 (xs_0 _ _) rfl dX11_lettersMending_62 ?_
  refine lv_iload_n hx hb dX11_lettersMending_65 rfl (lv_at hl 2 rfl) ?_
  refine lv_iload hx hb dX11_lettersMending_66 (lv_at hl 4 rfl) ?_
  refine lv_iconst (v := 0) hx hb dX11_lettersMending_68 (by decide) ?_
  refine g_cv hw (g_rV [.int x2, .int x4, .int (0 : Int32)] [] C hw (m_X8_change isSet_17 h) k_X8_change q_RX11_279 xl_17 (xs_17 _ _) rfl rfl hl.1 rfl (Nat.le_of_ble_eq_true rfl) ⟨⟨rfl, rfl⟩, Nat.le_of_ble_eq_true rfl, Nat.le_of_ble_eq_true rfl⟩ ⟨Nat.zero_le _, Nat.zero_le _⟩ dX11_lettersMending_69) (fun I69 J69 H locs h hw => ?_)
  exact w_X11_lettersMending_72 C hL5 h hw (lv_sub hl [0, 1, 2, 3, 4] rfl)
set_option maxHeartbeats 4000000 in
set_option maxRecDepth 100000 in
theorem w_X11_lettersMending_33 {Q : Int32 → MI → MJ → Prop} (C : gC RX11 cX11_lettersMending 5 (some .int) 66 ad cy D (xF ad ts) p s m args meth c) {kL5 : Int32 × Int32 × Int32 × Int32 × MI × MJ → Prop} (hL5 : ∀ {x1 : Int32} {x2 : Int32} {x3 : Int32} {x4 : Int32} {I : MI} {J : MJ} {H : Heap} {locs : List Loc} {ls : Array Slot}, kL5 (x1, x2, x3, x4, I, J) → gH (xS ad cy) 66 ad D s I J H locs → lv_has ls 5 [(0, .ref (ad 0)), (1, .int x1), (2, .int x2), (3, .int x3), (4, .int x4)] → W p l e rmX11_lettersMending s m args below meth c H locs 0 0 (MQ below (gQi (xS ad cy) 66 ad cy D (xF ad ts) Q) args s 0 0 (gA 66 ad)) (F0 m 5 ls [])) {x1 : Int32} {x2 : Int32} {x3 : Int32} {x4 : Int32} {I : MI} {J : MJ} {H : Heap} {locs : List Loc} {ls : Array Slot} (h : P_X11_lettersMending_33 Q kL5 x1 x2 x3 x4 I J) (hw : gH (xS ad cy) 66 ad D s I J H locs) (hl : lv_has ls 5 [(0, .ref (ad 0)), (1, .int x1), (2, .int x2), (3, .int x3), (4, .int x4)]) : W p l e rmX11_lettersMending s m args below meth c H locs 0 0 (MQ below (gQi (xS ad cy) 66 ad cy D (xF ad ts) Q) args s 0 0 (gA 66 ad)) (F0 m 33 ls []) := by
  obtain ⟨hx, hb, hC⟩ := id C
  refine lv_aload_n hx hb dX11_lettersMending_33 rfl (lv_at hl 0 rfl) ?_
  refine g_get C hw f_RX11_26 xl_0 (xs_0 _ _) rfl dX11_lettersMending_34 ?_
  refine lv_iload_n hx hb dX11_lettersMending_37 rfl (lv_at hl 1 rfl) ?_
  refine lv_iload hx hb dX11_lettersMending_38 (lv_at hl 4 rfl) ?_
  refine lv_iconst (v := 0) hx hb dX11_lettersMending_40 (by decide) ?_
  refine g_cv hw (g_rV [.int x1, .int x4, .int (0 : Int32)] [] C hw (m_X8_change isSet_17 h) k_X8_change q_RX11_279 xl_17 (xs_17 _ _) rfl rfl hl.1 rfl (Nat.le_of_ble_eq_true rfl) ⟨⟨rfl, rfl⟩, Nat.le_of_ble_eq_true rfl, Nat.le_of_ble_eq_true rfl⟩ ⟨Nat.zero_le _, Nat.zero_le _⟩ dX11_lettersMending_41) (fun I41 J41 H locs h hw => ?_)
  refine lv_aload_n hx hb dX11_lettersMending_44 rfl (lv_at hl 0 rfl) ?_
  refine g_get C hw f_RX11_53 xl_0 (xs_0 _ _) rfl dX11_lettersMending_45 ?_
  refine g_cz hw (g_rV [] [] C hw (m_X6_exist h) k_X6_exist q_RX11_328 xl_39 (xs_39 _ _) rfl rfl hl.1 rfl (Nat.le_of_ble_eq_true rfl) ⟨⟨rfl, rfl⟩, Nat.le_of_ble_eq_true rfl, Nat.le_of_ble_eq_true rfl⟩ ⟨Nat.zero_le _, Nat.zero_le _⟩ dX11_lettersMending_48) (fun r48 I48 J48 H locs z48 h hw => ?_)
  refine lv_if_eq (tgt := 61) hx hb dX11_lettersMending_51 (by decide) (fun c51 => ?_) (fun c51 => ?_)
  · have h := h.1 c51
    exact w_X11_lettersMending_61 C hL5 h hw (lv_sub hl [0, 1, 2, 3, 4] rfl)
  · have h := h.2 c51
    refine lv_iload_n hx hb dX11_lettersMending_54 rfl (lv_at hl 3 rfl) ?_
    refine lv_iconst (v := 1) hx hb dX11_lettersMending_55 (by decide) ?_
    refine lv_iload hx hb dX11_lettersMending_56 (lv_at hl 4 rfl) ?_
    refine lv_ishl hx hb dX11_lettersMending_58 ?_
    refine lv_ior hx hb dX11_lettersMending_59 ?_
    refine lv_istore_n (lv' := [(3, .int (x3 ||| ((1 : Int32) <<< (x4 &&& 31)))), (0, .ref (ad 0)), (1, .int x1), (2, .int x2), (4, .int x4)]) hx hb dX11_lettersMending_60 rfl hl (by decide) rfl (fun ls hl => ?_)
    exact w_X11_lettersMending_61 C hL5 h hw (lv_sub hl [1, 2, 3, 0, 4] rfl)
set_option maxHeartbeats 4000000 in
set_option maxRecDepth 100000 in
theorem w_X11_lettersMending_5 {Q : Int32 → MI → MJ → Prop} (C : gC RX11 cX11_lettersMending 5 (some .int) 66 ad cy D (xF ad ts) p s m args meth c) {kL5 : Int32 × Int32 × Int32 × Int32 × MI × MJ → Prop} (hL5 : ∀ {x1 : Int32} {x2 : Int32} {x3 : Int32} {x4 : Int32} {I : MI} {J : MJ} {H : Heap} {locs : List Loc} {ls : Array Slot}, kL5 (x1, x2, x3, x4, I, J) → gH (xS ad cy) 66 ad D s I J H locs → lv_has ls 5 [(0, .ref (ad 0)), (1, .int x1), (2, .int x2), (3, .int x3), (4, .int x4)] → W p l e rmX11_lettersMending s m args below meth c H locs 0 0 (MQ below (gQi (xS ad cy) 66 ad cy D (xF ad ts) Q) args s 0 0 (gA 66 ad)) (F0 m 5 ls [])) {x1 : Int32} {x2 : Int32} {x3 : Int32} {x4 : Int32} {I : MI} {J : MJ} {H : Heap} {locs : List Loc} {ls : Array Slot} (h : P_X11_lettersMending_5 Q kL5 (x1, x2, x3, x4, I, J)) (hw : gH (xS ad cy) 66 ad D s I J H locs) (hl : lv_has ls 5 [(0, .ref (ad 0)), (1, .int x1), (2, .int x2), (3, .int x3), (4, .int x4)]) : W p l e rmX11_lettersMending s m args below meth c H locs 0 0 (MQ below (gQi (xS ad cy) 66 ad cy D (xF ad ts) Q) args s 0 0 (gA 66 ad)) (F0 m 5 ls []) := by
  obtain ⟨hx, hb, hC⟩ := id C
  refine lv_iload hx hb dX11_lettersMending_5 (lv_at hl 4 rfl) ?_
  refine lv_bipush (v := 8) hx hb dX11_lettersMending_7 (by decide) ?_
  refine lv_icmp_ge (tgt := 78) hx hb dX11_lettersMending_9 (by decide) (fun c9 => ?_) (fun c9 => ?_)
  · have h := h.1 c9
    refine lv_iload_n hx hb dX11_lettersMending_78 rfl (lv_at hl 3 rfl) ?_
    exact g_iret C hw h dX11_lettersMending_79
  · have h := h.2 c9
    refine lv_iload_n hx hb dX11_lettersMending_12 rfl (lv_at hl 1 rfl) ?_
    refine lv_iconst (v := 1) hx hb dX11_lettersMending_13 (by decide) ?_
    refine lv_icmp_ne (tgt := 33) hx hb dX11_lettersMending_14 (by decide) (fun c14 => ?_) (fun c14 => ?_)
    · have h := h.1 c14
      exact w_X11_lettersMending_33 C hL5 h hw (lv_sub hl [0, 1, 2, 3, 4] rfl)
    · have h := h.2 c14
      refine lv_aload_n hx hb dX11_lettersMending_17 rfl (lv_at hl 0 rfl) ?_
      refine g_get C hw f_RX11_26 xl_0 (xs_0 _ _) rfl dX11_lettersMending_18 ?_
      refine g_get C hw f_RX11_180 xl_17 (xs_17 _ _) rfl dX11_lettersMending_21 ?_
      refine lv_iload hx hb dX11_lettersMending_24 (lv_at hl 4 rfl) ?_
      refine g_iald C hw xl_18 xs_18 h.1 dX11_lettersMending_26 ?_
      have h := h.2
      refine lv_if_ne (tgt := 33) hx hb dX11_lettersMending_27 (by decide) (fun c27 => ?_) (fun c27 => ?_)
      · have h := h.1 c27
        exact w_X11_lettersMending_33 C hL5 h hw (lv_sub hl [0, 1, 2, 3, 4] rfl)
      · have h := h.2 c27
        refine lv_goto (tgt := 72) hx hb dX11_lettersMending_30 (by decide) ?_
        exact w_X11_lettersMending_72 C hL5 h hw (lv_sub hl [0, 1, 2, 3, 4] rfl)
theorem wl_X11_lettersMending_5 {Q : Int32 → MI → MJ → Prop} (C : gC RX11 cX11_lettersMending 5 (some .int) 66 ad cy D (xF ad ts) p s m args meth c) {x1 : Int32} {x2 : Int32} {x3 : Int32} {x4 : Int32} {I : MI} {J : MJ} {H : Heap} {locs : List Loc} {ls : Array Slot} (h : lpx (P_X11_lettersMending_5 Q) (x1, x2, x3, x4, I, J)) (hw : gH (xS ad cy) 66 ad D s I J H locs) (hl : lv_has ls 5 [(0, .ref (ad 0)), (1, .int x1), (2, .int x2), (3, .int x3), (4, .int x4)]) : W p l e rmX11_lettersMending s m args below meth c H locs 0 0 (MQ below (gQi (xS ad cy) 66 ad cy D (xF ad ts) Q) args s 0 0 (gA 66 ad)) (F0 m 5 ls []) := by
  obtain ⟨n, h⟩ := h
  induction n generalizing x1 x2 x3 x4 I J H locs ls with
  | zero => exact False.elim h
  | succ n ih => exact w_X11_lettersMending_5 C  (fun hk9 hw9 hl9 => ih hw9 hl9 hk9) h hw hl
set_option maxHeartbeats 4000000 in
set_option maxRecDepth 100000 in
theorem w_X11_lettersMending {Q : Int32 → MI → MJ → Prop} (C : gC RX11 cX11_lettersMending 5 (some .int) 66 ad cy D (xF ad ts) p s m args meth c) {a0 : Int32} {a1 : Int32} {I : MI} {J : MJ} {H : Heap} {locs : List Loc} {ls : Array Slot} (h : P_X11_lettersMending a0 a1 I J Q) (hw : gH (xS ad cy) 66 ad D s I J H locs) (hl : lv_has ls 5 [(0, .ref (ad 0)), (1, .int a0), (2, .int a1)]) : W p l e rmX11_lettersMending s m args below meth c H locs 0 0 (MQ below (gQi (xS ad cy) 66 ad cy D (xF ad ts) Q) args s 0 0 (gA 66 ad)) (F0 m 0 ls []) := by
  obtain ⟨hx, hb, hC⟩ := id C
  refine lv_iconst (v := 0) hx hb dX11_lettersMending_0 (by decide) ?_
  refine lv_istore_n (lv' := [(3, .int (0 : Int32)), (0, .ref (ad 0)), (1, .int a0), (2, .int a1)]) hx hb dX11_lettersMending_1 rfl hl (by decide) rfl (fun ls hl => ?_)
  refine lv_iconst (v := 0) hx hb dX11_lettersMending_2 (by decide) ?_
  refine lv_istore (lv' := [(4, .int (0 : Int32)), (3, .int (0 : Int32)), (0, .ref (ad 0)), (1, .int a0), (2, .int a1)]) hx hb dX11_lettersMending_3 hl (by decide) rfl (fun ls hl => ?_)
  exact wl_X11_lettersMending_5 C  h hw (lv_sub hl [2, 3, 4, 1, 0] rfl)
theorem m_X11_lettersMending {l : Launch} {a0 : Int32} {a1 : Int32} {Q : Int32 → MI → MJ → Prop} {I : MI} {J : MJ} (h : P_X11_lettersMending a0 a1 I J Q) : Met l yX11_lettersMending (xws yX11_lettersMending cX11_lettersMending 5 (some .int)) rmX11_lettersMending (va_Pc [.ref (ad 0), .int a0, .int a1] (gB (xS ad cy) 66 ad cy D (xF ad ts) I J)) (gQi (xS ad cy) 66 ad cy D (xF ad ts) Q) 0 0 (gA 66 ad) :=
  g_met (xF_ok ad ts) rfl (by decide) (Nat.le_of_ble_eq_true rfl) (fun p e s m below meth c ls C hw hl => w_X11_lettersMending C  h hw hl)
/-! BagPhrases.nearly(I)I -/
def P_X11_nearly (a0 : Int32) (I : MI) (J : MJ) (Q : Int32 → MI → MJ → Prop) : Prop :=
  ((a0 = 0 → P_X11_lettersMending (0 : Int32) (1 : Int32) I J (fun r31 I31 J31 => Q r31 I31 J31)) ∧ (¬ a0 = 0 → ((a0 = 1 → P_X11_lettersMending (1 : Int32) (0 : Int32) I J (fun r38 I38 J38 => Q r38 I38 J38)) ∧ (¬ a0 = 1 → Q (-2 : Int32) I J))))
abbrev rmX11_nearly : Room := { frames := 5, cells := 0, slots := 0, locals := 114 }
set_option maxHeartbeats 4000000 in
set_option maxRecDepth 100000 in
theorem w_X11_nearly {Q : Int32 → MI → MJ → Prop} (C : gC RX11 cX11_nearly 2 (some .int) 66 ad cy D (xF ad ts) p s m args meth c) {a0 : Int32} {I : MI} {J : MJ} {H : Heap} {locs : List Loc} {ls : Array Slot} (h : P_X11_nearly a0 I J Q) (hw : gH (xS ad cy) 66 ad D s I J H locs) (hl : lv_has ls 2 [(0, .ref (ad 0)), (1, .int a0)]) : W p l e rmX11_nearly s m args below meth c H locs 0 0 (MQ below (gQi (xS ad cy) 66 ad cy D (xF ad ts) Q) args s 0 0 (gA 66 ad)) (F0 m 0 ls []) := by
  obtain ⟨hx, hb, hC⟩ := id C
  refine lv_iload_n hx hb dX11_nearly_0 rfl (lv_at hl 1 rfl) ?_
  rcases Classical.em (a0 = 0) with c1_0 | c1_0
  · have h := h.1 c1_0
    refine lv_lookup (off := 27) (tgt := 28) hx hb dX11_nearly_1 (by decide) (by rw [c1_0]; decide) (by decide) ?_
    refine lv_aload_n hx hb dX11_nearly_28 rfl (lv_at hl 0 rfl) ?_
    refine lv_iconst (v := 0) hx hb dX11_nearly_29 (by decide) ?_
    refine lv_iconst (v := 1) hx hb dX11_nearly_30 (by decide) ?_
    refine g_ci hw (g_rV [.int (0 : Int32), .int (1 : Int32)] [] C hw (m_X11_lettersMending h) k_X11_lettersMending q_RX11_240 xl_0 (xs_0 _ _) rfl rfl hl.1 rfl (Nat.le_of_ble_eq_true rfl) ⟨⟨rfl, rfl⟩, Nat.le_of_ble_eq_true rfl, Nat.le_of_ble_eq_true rfl⟩ ⟨Nat.zero_le _, Nat.zero_le _⟩ dX11_nearly_31) (fun r31 I31 J31 H locs h hw => ?_)
    exact g_iret C hw h dX11_nearly_34
  have h := h.2 c1_0
  rcases Classical.em (a0 = 1) with c1_1 | c1_1
  · have h := h.1 c1_1
    refine lv_lookup (off := 34) (tgt := 35) hx hb dX11_nearly_1 (by decide) (by rw [c1_1]; decide) (by decide) ?_
    refine lv_aload_n hx hb dX11_nearly_35 rfl (lv_at hl 0 rfl) ?_
    refine lv_iconst (v := 1) hx hb dX11_nearly_36 (by decide) ?_
    refine lv_iconst (v := 0) hx hb dX11_nearly_37 (by decide) ?_
    refine g_ci hw (g_rV [.int (1 : Int32), .int (0 : Int32)] [] C hw (m_X11_lettersMending h) k_X11_lettersMending q_RX11_240 xl_0 (xs_0 _ _) rfl rfl hl.1 rfl (Nat.le_of_ble_eq_true rfl) ⟨⟨rfl, rfl⟩, Nat.le_of_ble_eq_true rfl, Nat.le_of_ble_eq_true rfl⟩ ⟨Nat.zero_le _, Nat.zero_le _⟩ dX11_nearly_38) (fun r38 I38 J38 H locs h hw => ?_)
    exact g_iret C hw h dX11_nearly_41
  have h := h.2 c1_1
  refine lv_lookup (off := 41) (tgt := 42) hx hb dX11_nearly_1 (by decide) (by show Op.lookupswitch.offset [(0, 27), (1, 34)] (41) _ = _; rw [lv_osw c1_0 (by decide), lv_osw c1_1 (by decide)]; rfl) (by decide) ?_
  refine lv_bipush (v := -2) hx hb dX11_nearly_42 (by decide) ?_
  exact g_iret C hw h dX11_nearly_44
theorem m_X11_nearly {l : Launch} {a0 : Int32} {Q : Int32 → MI → MJ → Prop} {I : MI} {J : MJ} (h : P_X11_nearly a0 I J Q) : Met l yX11_nearly (xws yX11_nearly cX11_nearly 2 (some .int)) rmX11_nearly (va_Pc [.ref (ad 0), .int a0] (gB (xS ad cy) 66 ad cy D (xF ad ts) I J)) (gQi (xS ad cy) 66 ad cy D (xF ad ts) Q) 0 0 (gA 66 ad) :=
  g_met (xF_ok ad ts) rfl (by decide) (Nat.le_of_ble_eq_true rfl) (fun p e s m below meth c ls C hw hl => w_X11_nearly C  h hw hl)
/-! BagPhrases.performed(III)Z -/
def P_X11_performed (a0 : Int32) (a1 : Int32) (a2 : Int32) (I : MI) (J : MJ) (Q : Int32 → MI → MJ → Prop) : Prop :=
  P_X11_perform a0 a1 a2 I J (fun I4 J4 => Q (1 : Int32) I4 J4)
abbrev rmX11_performed : Room := { frames := 3, cells := 0, slots := 0, locals := 63 }
set_option maxHeartbeats 4000000 in
set_option maxRecDepth 100000 in
theorem w_X11_performed {Q : Int32 → MI → MJ → Prop} (C : gC RX11 cX11_performed 4 (some .boolean) 66 ad cy D (xF ad ts) p s m args meth c) {a0 : Int32} {a1 : Int32} {a2 : Int32} {I : MI} {J : MJ} {H : Heap} {locs : List Loc} {ls : Array Slot} (h : P_X11_performed a0 a1 a2 I J Q) (hw : gH (xS ad cy) 66 ad D s I J H locs) (hl : lv_has ls 4 [(0, .ref (ad 0)), (1, .int a0), (2, .int a1), (3, .int a2)]) : W p l e rmX11_performed s m args below meth c H locs 0 0 (MQ below (gQz (xS ad cy) 66 ad cy D (xF ad ts) Q) args s 0 0 (gA 66 ad)) (F0 m 0 ls []) := by
  obtain ⟨hx, hb, hC⟩ := id C
  refine lv_aload_n hx hb dX11_performed_0 rfl (lv_at hl 0 rfl) ?_
  refine lv_iload_n hx hb dX11_performed_1 rfl (lv_at hl 1 rfl) ?_
  refine lv_iload_n hx hb dX11_performed_2 rfl (lv_at hl 2 rfl) ?_
  refine lv_iload_n hx hb dX11_performed_3 rfl (lv_at hl 3 rfl) ?_
  refine g_cv hw (g_rV [.int a0, .int a1, .int a2] [] C hw (m_X11_perform h) k_X11_perform q_RX11_189 xl_0 (xs_0 _ _) rfl rfl hl.1 rfl (Nat.le_of_ble_eq_true rfl) ⟨⟨rfl, rfl⟩, Nat.le_of_ble_eq_true rfl, Nat.le_of_ble_eq_true rfl⟩ ⟨Nat.zero_le _, Nat.zero_le _⟩ dX11_performed_4) (fun I4 J4 H locs h hw => ?_)
  refine lv_iconst (v := 1) hx hb dX11_performed_7 (by decide) ?_
  exact g_zret C hw (by decide) h dX11_performed_8
theorem m_X11_performed {l : Launch} {a0 : Int32} {a1 : Int32} {a2 : Int32} {Q : Int32 → MI → MJ → Prop} {I : MI} {J : MJ} (h : P_X11_performed a0 a1 a2 I J Q) : Met l yX11_performed (xws yX11_performed cX11_performed 4 (some .boolean)) rmX11_performed (va_Pc [.ref (ad 0), .int a0, .int a1, .int a2] (gB (xS ad cy) 66 ad cy D (xF ad ts) I J)) (gQz (xS ad cy) 66 ad cy D (xF ad ts) Q) 0 0 (gA 66 ad) :=
  g_met (xF_ok ad ts) rfl (by decide) (Nat.le_of_ble_eq_true rfl) (fun p e s m below meth c ls C hw hl => w_X11_performed C  h hw hl)
/-! BagPhrases.comesTrue(I)Z -/
def P_X11_comesTrue_302 (Q : Int32 → MI → MJ → Prop) (I : MI) (J : MJ) : Prop :=
  Q (0 : Int32) I J
def P_X11_comesTrue_271 (Q : Int32 → MI → MJ → Prop) (I : MI) (J : MJ) : Prop :=
  Q (0 : Int32) I J
def P_X11_comesTrue_227 (Q : Int32 → MI → MJ → Prop) (I : MI) (J : MJ) : Prop :=
  Q (0 : Int32) I J
def P_X11_comesTrue_190 (Q : Int32 → MI → MJ → Prop) (I : MI) (J : MJ) : Prop :=
  Q (0 : Int32) I J
def P_X11_comesTrue_167 (Q : Int32 → MI → MJ → Prop) (I : MI) (J : MJ) : Prop :=
  Q (0 : Int32) I J
def P_X11_comesTrue_136 (Q : Int32 → MI → MJ → Prop) (I : MI) (J : MJ) : Prop :=
  Q (0 : Int32) I J
def P_X11_comesTrue_97 (Q : Int32 → MI → MJ → Prop) (I : MI) (J : MJ) : Prop :=
  Q (0 : Int32) I J
def P_X11_comesTrue (a0 : Int32) (I : MI) (J : MJ) (Q : Int32 → MI → MJ → Prop) : Prop :=
  (((a0 / (1000 : Int32)) = 1 → P_X11_isLetter ((a0 / (100 : Int32)) - (a0 / (100 : Int32)) / (10 : Int32) * (10 : Int32)) I J (fun r61 I61 J61 => ((r61 = 0 → P_X11_comesTrue_97 Q I61 J61) ∧ (¬ r61 = 0 → ((¬ (a0 - a0 / (100 : Int32) * (100 : Int32)) = 0 → P_X11_comesTrue_97 Q I61 J61) ∧ ((a0 - a0 / (100 : Int32) * (100 : Int32)) = 0 → P_X8_letters 17 I61 J61 (fun r75 I75 J75 => (((12 : Int32) ≤ r75 → P_X11_comesTrue_97 Q I75 J75) ∧ (¬ (12 : Int32) ≤ r75 → P_X11_performed (0 : Int32) ((a0 / (100 : Int32)) - (a0 / (100 : Int32)) / (10 : Int32) * (10 : Int32)) (0 : Int32) I75 J75 (fun r87 I87 J87 => ((r87 = 0 → P_X11_comesTrue_97 Q I87 J87) ∧ (¬ r87 = 0 → Q (1 : Int32) I87 J87)))))))))))) ∧ (¬ (a0 / (1000 : Int32)) = 1 → (((a0 / (1000 : Int32)) = 2 → P_X11_isLetter ((a0 / (100 : Int32)) - (a0 / (100 : Int32)) / (10 : Int32) * (10 : Int32)) I J (fun r100 I100 J100 => ((r100 = 0 → P_X11_comesTrue_136 Q I100 J100) ∧ (¬ r100 = 0 → ((¬ (a0 - a0 / (100 : Int32) * (100 : Int32)) = 0 → P_X11_comesTrue_136 Q I100 J100) ∧ ((a0 - a0 / (100 : Int32) * (100 : Int32)) = 0 → vp_in ((a0 / (100 : Int32)) - (a0 / (100 : Int32)) / (10 : Int32) * (10 : Int32)) 8 ∧ ((((I100 18 ((a0 / (100 : Int32)) - (a0 / (100 : Int32)) / (10 : Int32) * (10 : Int32)).toNatClampNeg) ≤ 0 → P_X11_comesTrue_136 Q I100 J100) ∧ (¬ (I100 18 ((a0 / (100 : Int32)) - (a0 / (100 : Int32)) / (10 : Int32) * (10 : Int32)).toNatClampNeg) ≤ 0 → P_X11_performed (1 : Int32) ((a0 / (100 : Int32)) - (a0 / (100 : Int32)) / (10 : Int32) * (10 : Int32)) (0 : Int32) I100 J100 (fun r126 I126 J126 => ((r126 = 0 → P_X11_comesTrue_136 Q I126 J126) ∧ (¬ r126 = 0 → Q (1 : Int32) I126 J126)))))))))))) ∧ (¬ (a0 / (1000 : Int32)) = 2 → (((a0 / (1000 : Int32)) = 3 → P_X5_has 12 ((a0 / (100 : Int32)) - (a0 / (100 : Int32)) / (10 : Int32) * (10 : Int32)) I J (fun r143 I143 J143 => ((r143 = 0 → P_X11_comesTrue_167 Q I143 J143) ∧ (¬ r143 = 0 → ((¬ (a0 - a0 / (100 : Int32) * (100 : Int32)) = 0 → P_X11_comesTrue_167 Q I143 J143) ∧ ((a0 - a0 / (100 : Int32) * (100 : Int32)) = 0 → P_X11_performed (2 : Int32) ((a0 / (100 : Int32)) - (a0 / (100 : Int32)) / (10 : Int32) * (10 : Int32)) (0 : Int32) I143 J143 (fun r157 I157 J157 => ((r157 = 0 → P_X11_comesTrue_167 Q I157 J157) ∧ (¬ r157 = 0 → Q (1 : Int32) I157 J157))))))))) ∧ (¬ (a0 / (1000 : Int32)) = 3 → (((a0 / (1000 : Int32)) = 4 → ((¬ ((a0 / (100 : Int32)) - (a0 / (100 : Int32)) / (10 : Int32) * (10 : Int32)) = 0 → P_X11_comesTrue_190 Q I J) ∧ (((a0 / (100 : Int32)) - (a0 / (100 : Int32)) / (10 : Int32) * (10 : Int32)) = 0 → P_X6_count I J (fun r177 I177 J177 => ((¬ r177 = ((a0 - a0 / (100 : Int32) * (100 : Int32)).toInt64) → P_X11_comesTrue_190 Q I177 J177) ∧ (r177 = ((a0 - a0 / (100 : Int32) * (100 : Int32)).toInt64) → Q (1 : Int32) I177 J177)))))) ∧ (¬ (a0 / (1000 : Int32)) = 4 → (((a0 / (1000 : Int32)) = 5 → P_X5_has 12 ((a0 / (100 : Int32)) - (a0 / (100 : Int32)) / (10 : Int32) * (10 : Int32)) I J (fun r197 I197 J197 => ((r197 = 0 → P_X11_comesTrue_227 Q I197 J197) ∧ (¬ r197 = 0 → (((1 : Int32) < (a0 - a0 / (100 : Int32) * (100 : Int32)) → P_X11_comesTrue_227 Q I197 J197) ∧ (¬ (1 : Int32) < (a0 - a0 / (100 : Int32) * (100 : Int32)) → P_X6_wordsInPhrases I197 J197 (fun r212 I212 J212 => ((¬ ((r212 >>> (((a0 / (100 : Int32)) - (a0 / (100 : Int32)) / (10 : Int32) * (10 : Int32)) &&& 31)) &&& (1 : Int32)) = (a0 - a0 / (100 : Int32) * (100 : Int32)) → P_X11_comesTrue_227 Q I212 J212) ∧ (((r212 >>> (((a0 / (100 : Int32)) - (a0 / (100 : Int32)) / (10 : Int32) * (10 : Int32)) &&& 31)) &&& (1 : Int32)) = (a0 - a0 / (100 : Int32) * (100 : Int32)) → Q (1 : Int32) I212 J212))))))))) ∧ (¬ (a0 / (1000 : Int32)) = 5 → (((a0 / (1000 : Int32)) = 6 → P_X11_isKind ((a0 / (100 : Int32)) - (a0 / (100 : Int32)) / (10 : Int32) * (10 : Int32)) I J (fun r230 I230 J230 => ((r230 = 0 → P_X11_comesTrue_271 Q I230 J230) ∧ (¬ r230 = 0 → P_X11_isKind ((a0 - a0 / (100 : Int32) * (100 : Int32)) / (10 : Int32)) I230 J230 (fun r240 I240 J240 => ((r240 = 0 → P_X11_comesTrue_271 Q I240 J240) ∧ (¬ r240 = 0 → ((¬ ((a0 - a0 / (100 : Int32) * (100 : Int32)) - (a0 - a0 / (100 : Int32) * (100 : Int32)) / (10 : Int32) * (10 : Int32)) = 0 → P_X11_comesTrue_271 Q I240 J240) ∧ (((a0 - a0 / (100 : Int32) * (100 : Int32)) - (a0 - a0 / (100 : Int32) * (100 : Int32)) / (10 : Int32) * (10 : Int32)) = 0 → P_X11_performed (6 : Int32) ((a0 / (100 : Int32)) - (a0 / (100 : Int32)) / (10 : Int32) * (10 : Int32)) ((a0 - a0 / (100 : Int32) * (100 : Int32)) / (10 : Int32)) I240 J240 (fun r261 I261 J261 => ((r261 = 0 → P_X11_comesTrue_271 Q I261 J261) ∧ (¬ r261 = 0 → Q (1 : Int32) I261 J261)))))))))))) ∧ (¬ (a0 / (1000 : Int32)) = 6 → (((a0 / (1000 : Int32)) = 7 → ((¬ ((a0 / (100 : Int32)) - (a0 / (100 : Int32)) / (10 : Int32) * (10 : Int32)) = 0 → P_X11_comesTrue_302 Q I J) ∧ (((a0 / (100 : Int32)) - (a0 / (100 : Int32)) / (10 : Int32) * (10 : Int32)) = 0 → P_X6_findBest I J (fun r281 I281 J281 => ((r281 = 0 → P_X11_comesTrue_302 Q I281 J281) ∧ (¬ r281 = 0 → P_X6_foundWorth I281 J281 (fun r291 I291 J291 => ((¬ r291 = (a0 - a0 / (100 : Int32) * (100 : Int32)) → P_X11_comesTrue_302 Q I291 J291) ∧ (r291 = (a0 - a0 / (100 : Int32) * (100 : Int32)) → Q (1 : Int32) I291 J291))))))))) ∧ (¬ (a0 / (1000 : Int32)) = 7 → Q (0 : Int32) I J))))))))))))))
abbrev rmX11_comesTrue : Room := { frames := 6, cells := 0, slots := 0, locals := 164 }
set_option maxHeartbeats 4000000 in
set_option maxRecDepth 100000 in
theorem w_X11_comesTrue_302 {Q : Int32 → MI → MJ → Prop} (C : gC RX11 cX11_comesTrue 4 (some .boolean) 66 ad cy D (xF ad ts) p s m args meth c) {I : MI} {J : MJ} {H : Heap} {locs : List Loc} {ls : Array Slot} (h : P_X11_comesTrue_302 Q I J) (hw : gH (xS ad cy) 66 ad D s I J H locs) (hl : lv_has ls 4 []) : W p l e rmX11_comesTrue s m args below meth c H locs 0 0 (MQ below (gQz (xS ad cy) 66 ad cy D (xF ad ts) Q) args s 0 0 (gA 66 ad)) (F0 m 302 ls []) := by
  obtain ⟨hx, hb, hC⟩ := id C
  refine lv_iconst (v := 0) hx hb dX11_comesTrue_302 (by decide) ?_
  exact g_zret C hw (by decide) h dX11_comesTrue_303
set_option maxHeartbeats 4000000 in
set_option maxRecDepth 100000 in
theorem w_X11_comesTrue_271 {Q : Int32 → MI → MJ → Prop} (C : gC RX11 cX11_comesTrue 4 (some .boolean) 66 ad cy D (xF ad ts) p s m args meth c) {I : MI} {J : MJ} {H : Heap} {locs : List Loc} {ls : Array Slot} (h : P_X11_comesTrue_271 Q I J) (hw : gH (xS ad cy) 66 ad D s I J H locs) (hl : lv_has ls 4 []) : W p l e rmX11_comesTrue s m args below meth c H locs 0 0 (MQ below (gQz (xS ad cy) 66 ad cy D (xF ad ts) Q) args s 0 0 (gA 66 ad)) (F0 m 271 ls []) := by
  obtain ⟨hx, hb, hC⟩ := id C
  refine lv_iconst (v := 0) hx hb dX11_comesTrue_271 (by decide) ?_
  exact g_zret C hw (by decide) h dX11_comesTrue_272
set_option maxHeartbeats 4000000 in
set_option maxRecDepth 100000 in
theorem w_X11_comesTrue_227 {Q : Int32 → MI → MJ → Prop} (C : gC RX11 cX11_comesTrue 4 (some .boolean) 66 ad cy D (xF ad ts) p s m args meth c) {I : MI} {J : MJ} {H : Heap} {locs : List Loc} {ls : Array Slot} (h : P_X11_comesTrue_227 Q I J) (hw : gH (xS ad cy) 66 ad D s I J H locs) (hl : lv_has ls 4 []) : W p l e rmX11_comesTrue s m args below meth c H locs 0 0 (MQ below (gQz (xS ad cy) 66 ad cy D (xF ad ts) Q) args s 0 0 (gA 66 ad)) (F0 m 227 ls []) := by
  obtain ⟨hx, hb, hC⟩ := id C
  refine lv_iconst (v := 0) hx hb dX11_comesTrue_227 (by decide) ?_
  exact g_zret C hw (by decide) h dX11_comesTrue_228
set_option maxHeartbeats 4000000 in
set_option maxRecDepth 100000 in
theorem w_X11_comesTrue_190 {Q : Int32 → MI → MJ → Prop} (C : gC RX11 cX11_comesTrue 4 (some .boolean) 66 ad cy D (xF ad ts) p s m args meth c) {I : MI} {J : MJ} {H : Heap} {locs : List Loc} {ls : Array Slot} (h : P_X11_comesTrue_190 Q I J) (hw : gH (xS ad cy) 66 ad D s I J H locs) (hl : lv_has ls 4 []) : W p l e rmX11_comesTrue s m args below meth c H locs 0 0 (MQ below (gQz (xS ad cy) 66 ad cy D (xF ad ts) Q) args s 0 0 (gA 66 ad)) (F0 m 190 ls []) := by
  obtain ⟨hx, hb, hC⟩ := id C
  refine lv_iconst (v := 0) hx hb dX11_comesTrue_190 (by decide) ?_
  exact g_zret C hw (by decide) h dX11_comesTrue_191
set_option maxHeartbeats 4000000 in
set_option maxRecDepth 100000 in
theorem w_X11_comesTrue_167 {Q : Int32 → MI → MJ → Prop} (C : gC RX11 cX11_comesTrue 4 (some .boolean) 66 ad cy D (xF ad ts) p s m args meth c) {I : MI} {J : MJ} {H : Heap} {locs : List Loc} {ls : Array Slot} (h : P_X11_comesTrue_167 Q I J) (hw : gH (xS ad cy) 66 ad D s I J H locs) (hl : lv_has ls 4 []) : W p l e rmX11_comesTrue s m args below meth c H locs 0 0 (MQ below (gQz (xS ad cy) 66 ad cy D (xF ad ts) Q) args s 0 0 (gA 66 ad)) (F0 m 167 ls []) := by
  obtain ⟨hx, hb, hC⟩ := id C
  refine lv_iconst (v := 0) hx hb dX11_comesTrue_167 (by decide) ?_
  exact g_zret C hw (by decide) h dX11_comesTrue_168
set_option maxHeartbeats 4000000 in
set_option maxRecDepth 100000 in
theorem w_X11_comesTrue_136 {Q : Int32 → MI → MJ → Prop} (C : gC RX11 cX11_comesTrue 4 (some .boolean) 66 ad cy D (xF ad ts) p s m args meth c) {I : MI} {J : MJ} {H : Heap} {locs : List Loc} {ls : Array Slot} (h : P_X11_comesTrue_136 Q I J) (hw : gH (xS ad cy) 66 ad D s I J H locs) (hl : lv_has ls 4 []) : W p l e rmX11_comesTrue s m args below meth c H locs 0 0 (MQ below (gQz (xS ad cy) 66 ad cy D (xF ad ts) Q) args s 0 0 (gA 66 ad)) (F0 m 136 ls []) := by
  obtain ⟨hx, hb, hC⟩ := id C
  refine lv_iconst (v := 0) hx hb dX11_comesTrue_136 (by decide) ?_
  exact g_zret C hw (by decide) h dX11_comesTrue_137
set_option maxHeartbeats 4000000 in
set_option maxRecDepth 100000 in
theorem w_X11_comesTrue_97 {Q : Int32 → MI → MJ → Prop} (C : gC RX11 cX11_comesTrue 4 (some .boolean) 66 ad cy D (xF ad ts) p s m args meth c) {I : MI} {J : MJ} {H : Heap} {locs : List Loc} {ls : Array Slot} (h : P_X11_comesTrue_97 Q I J) (hw : gH (xS ad cy) 66 ad D s I J H locs) (hl : lv_has ls 4 []) : W p l e rmX11_comesTrue s m args below meth c H locs 0 0 (MQ below (gQz (xS ad cy) 66 ad cy D (xF ad ts) Q) args s 0 0 (gA 66 ad)) (F0 m 97 ls []) := by
  obtain ⟨hx, hb, hC⟩ := id C
  refine lv_iconst (v := 0) hx hb dX11_comesTrue_97 (by decide) ?_
  exact g_zret C hw (by decide) h dX11_comesTrue_98
set_option maxHeartbeats 4000000 in
set_option maxRecDepth 100000 in
theorem w_X11_comesTrue {Q : Int32 → MI → MJ → Prop} (C : gC RX11 cX11_comesTrue 4 (some .boolean) 66 ad cy D (xF ad ts) p s m args meth c) {a0 : Int32} {I : MI} {J : MJ} {H : Heap} {locs : List Loc} {ls : Array Slot} (h : P_X11_comesTrue a0 I J Q) (hw : gH (xS ad cy) 66 ad D s I J H locs) (hl : lv_has ls 4 [(0, .ref (ad 0)), (1, .int a0)]) : W p l e rmX11_comesTrue s m args below meth c H locs 0 0 (MQ below (gQz (xS ad cy) 66 ad cy D (xF ad ts) Q) args s 0 0 (gA 66 ad)) (F0 m 0 ls []) := by
  obtain ⟨hx, hb, hC⟩ := id C
  refine lv_iload_n hx hb dX11_comesTrue_0 rfl (lv_at hl 1 rfl) ?_
  refine lv_bipush (v := 100) hx hb dX11_comesTrue_1 (by decide) ?_
  refine lv_idiv hx hb dX11_comesTrue_3 (by decide) ?_
  refine lv_bipush (v := 10) hx hb dX11_comesTrue_4 (by decide) ?_
  refine lv_irem hx hb dX11_comesTrue_6 (by decide) ?_
  refine lv_istore_n (lv' := [(2, .int ((a0 / (100 : Int32)) - (a0 / (100 : Int32)) / (10 : Int32) * (10 : Int32))), (0, .ref (ad 0)), (1, .int a0)]) hx hb dX11_comesTrue_7 rfl hl (by decide) rfl (fun ls hl => ?_)
  refine lv_iload_n hx hb dX11_comesTrue_8 rfl (lv_at hl 2 rfl) ?_
  refine lv_bipush (v := 100) hx hb dX11_comesTrue_9 (by decide) ?_
  refine lv_irem hx hb dX11_comesTrue_11 (by decide) ?_
  refine lv_istore_n (lv' := [(3, .int (a0 - a0 / (100 : Int32) * (100 : Int32))), (2, .int ((a0 / (100 : Int32)) - (a0 / (100 : Int32)) / (10 : Int32) * (10 : Int32))), (0, .ref (ad 0)), (1, .int a0)]) hx hb dX11_comesTrue_12 rfl hl (by decide) rfl (fun ls hl => ?_)
  refine lv_iload_n hx hb dX11_comesTrue_13 rfl (lv_at hl 3 rfl) ?_
  refine lv_sipush (v := 1000) hx hb dX11_comesTrue_14 (by decide) ?_
  refine lv_idiv hx hb dX11_comesTrue_17 (by decide) ?_
  rcases Classical.em ((a0 / (1000 : Int32)) = 1) with c18_0 | c18_0
  · have h := h.1 c18_0
    refine lv_tableIn (off := 42) (tgt := 60) hx hb dX11_comesTrue_18 (by rw [c18_0]; decide) (by rw [c18_0]; decide) (by rw [c18_0]; rfl) (by decide) ?_
    refine lv_iload_n hx hb dX11_comesTrue_60 rfl (lv_at hl 1 rfl) ?_
    refine g_cz hw (g_rS [.int ((a0 / (100 : Int32)) - (a0 / (100 : Int32)) / (10 : Int32) * (10 : Int32))] [] C hw (m_X11_isLetter h) k_X11_isLetter q_RX11_174 rfl hl.1 rfl (Nat.le_of_ble_eq_true rfl) ⟨⟨rfl, rfl⟩, Nat.le_of_ble_eq_true rfl, Nat.le_of_ble_eq_true rfl⟩ ⟨Nat.zero_le _, Nat.zero_le _⟩ dX11_comesTrue_61) (fun r61 I61 J61 H locs z61 h hw => ?_)
    refine lv_if_eq (tgt := 97) hx hb dX11_comesTrue_64 (by decide) (fun c64 => ?_) (fun c64 => ?_)
    · have h := h.1 c64
      exact w_X11_comesTrue_97 C  h hw (lv_sub hl [] rfl)
    · have h := h.2 c64
      refine lv_iload_n hx hb dX11_comesTrue_67 rfl (lv_at hl 0 rfl) ?_
      refine lv_if_ne (tgt := 97) hx hb dX11_comesTrue_68 (by decide) (fun c68 => ?_) (fun c68 => ?_)
      · have h := h.1 c68
        exact w_X11_comesTrue_97 C  h hw (lv_sub hl [] rfl)
      · have h := h.2 c68
        refine lv_aload_n hx hb dX11_comesTrue_71 rfl (lv_at hl 2 rfl) ?_
        refine g_get C hw f_RX11_26 xl_0 (xs_0 _ _) rfl dX11_comesTrue_72 ?_
        refine g_ci hw (g_rV [] [] C hw (m_X8_letters isSet_17 h) k_X8_letters q_RX11_122 xl_17 (xs_17 _ _) rfl rfl hl.1 rfl (Nat.le_of_ble_eq_true rfl) ⟨⟨rfl, rfl⟩, Nat.le_of_ble_eq_true rfl, Nat.le_of_ble_eq_true rfl⟩ ⟨Nat.zero_le _, Nat.zero_le _⟩ dX11_comesTrue_75) (fun r75 I75 J75 H locs h hw => ?_)
        refine lv_bipush (v := 12) hx hb dX11_comesTrue_78 (by decide) ?_
        refine lv_icmp_ge (tgt := 97) hx hb dX11_comesTrue_80 (by decide) (fun c80 => ?_) (fun c80 => ?_)
        · have h := h.1 c80
          exact w_X11_comesTrue_97 C  h hw (lv_sub hl [] rfl)
        · have h := h.2 c80
          refine lv_aload_n hx hb dX11_comesTrue_83 rfl (lv_at hl 2 rfl) ?_
          refine lv_iconst (v := 0) hx hb dX11_comesTrue_84 (by decide) ?_
          refine lv_iload_n hx hb dX11_comesTrue_85 rfl (lv_at hl 1 rfl) ?_
          refine lv_iconst (v := 0) hx hb dX11_comesTrue_86 (by decide) ?_
          refine g_cz hw (g_rV [.int (0 : Int32), .int ((a0 / (100 : Int32)) - (a0 / (100 : Int32)) / (10 : Int32) * (10 : Int32)), .int (0 : Int32)] [] C hw (m_X11_performed h) k_X11_performed q_RX11_331 xl_0 (xs_0 _ _) rfl rfl hl.1 rfl (Nat.le_of_ble_eq_true rfl) ⟨⟨rfl, rfl⟩, Nat.le_of_ble_eq_true rfl, Nat.le_of_ble_eq_true rfl⟩ ⟨Nat.zero_le _, Nat.zero_le _⟩ dX11_comesTrue_87) (fun r87 I87 J87 H locs z87 h hw => ?_)
          refine lv_if_eq (tgt := 97) hx hb dX11_comesTrue_90 (by decide) (fun c90 => ?_) (fun c90 => ?_)
          · have h := h.1 c90
            exact w_X11_comesTrue_97 C  h hw (lv_sub hl [] rfl)
          · have h := h.2 c90
            refine lv_iconst (v := 1) hx hb dX11_comesTrue_93 (by decide) ?_
            refine lv_goto (tgt := 98) hx hb dX11_comesTrue_94 (by decide) ?_
            exact g_zret C hw (by decide) h dX11_comesTrue_98
  have h := h.2 c18_0
  rcases Classical.em ((a0 / (1000 : Int32)) = 2) with c18_1 | c18_1
  · have h := h.1 c18_1
    refine lv_tableIn (off := 81) (tgt := 99) hx hb dX11_comesTrue_18 (by rw [c18_1]; decide) (by rw [c18_1]; decide) (by rw [c18_1]; rfl) (by decide) ?_
    refine lv_iload_n hx hb dX11_comesTrue_99 rfl (lv_at hl 1 rfl) ?_
    refine g_cz hw (g_rS [.int ((a0 / (100 : Int32)) - (a0 / (100 : Int32)) / (10 : Int32) * (10 : Int32))] [] C hw (m_X11_isLetter h) k_X11_isLetter q_RX11_174 rfl hl.1 rfl (Nat.le_of_ble_eq_true rfl) ⟨⟨rfl, rfl⟩, Nat.le_of_ble_eq_true rfl, Nat.le_of_ble_eq_true rfl⟩ ⟨Nat.zero_le _, Nat.zero_le _⟩ dX11_comesTrue_100) (fun r100 I100 J100 H locs z100 h hw => ?_)
    refine lv_if_eq (tgt := 136) hx hb dX11_comesTrue_103 (by decide) (fun c103 => ?_) (fun c103 => ?_)
    · have h := h.1 c103
      exact w_X11_comesTrue_136 C  h hw (lv_sub hl [] rfl)
    · have h := h.2 c103
      refine lv_iload_n hx hb dX11_comesTrue_106 rfl (lv_at hl 0 rfl) ?_
      refine lv_if_ne (tgt := 136) hx hb dX11_comesTrue_107 (by decide) (fun c107 => ?_) (fun c107 => ?_)
      · have h := h.1 c107
        exact w_X11_comesTrue_136 C  h hw (lv_sub hl [] rfl)
      · have h := h.2 c107
        refine lv_aload_n hx hb dX11_comesTrue_110 rfl (lv_at hl 2 rfl) ?_
        refine g_get C hw f_RX11_26 xl_0 (xs_0 _ _) rfl dX11_comesTrue_111 ?_
        refine g_get C hw f_RX11_180 xl_17 (xs_17 _ _) rfl dX11_comesTrue_114 ?_
        refine lv_iload_n hx hb dX11_comesTrue_117 rfl (lv_at hl 1 rfl) ?_
        refine g_iald C hw xl_18 xs_18 h.1 dX11_comesTrue_118 ?_
        have h := h.2
        refine lv_if_le (tgt := 136) hx hb dX11_comesTrue_119 (by decide) (fun c119 => ?_) (fun c119 => ?_)
        · have h := h.1 c119
          exact w_X11_comesTrue_136 C  h hw (lv_sub hl [] rfl)
        · have h := h.2 c119
          refine lv_aload_n hx hb dX11_comesTrue_122 rfl (lv_at hl 2 rfl) ?_
          refine lv_iconst (v := 1) hx hb dX11_comesTrue_123 (by decide) ?_
          refine lv_iload_n hx hb dX11_comesTrue_124 rfl (lv_at hl 1 rfl) ?_
          refine lv_iconst (v := 0) hx hb dX11_comesTrue_125 (by decide) ?_
          refine g_cz hw (g_rV [.int (1 : Int32), .int ((a0 / (100 : Int32)) - (a0 / (100 : Int32)) / (10 : Int32) * (10 : Int32)), .int (0 : Int32)] [] C hw (m_X11_performed h) k_X11_performed q_RX11_331 xl_0 (xs_0 _ _) rfl rfl hl.1 rfl (Nat.le_of_ble_eq_true rfl) ⟨⟨rfl, rfl⟩, Nat.le_of_ble_eq_true rfl, Nat.le_of_ble_eq_true rfl⟩ ⟨Nat.zero_le _, Nat.zero_le _⟩ dX11_comesTrue_126) (fun r126 I126 J126 H locs z126 h hw => ?_)
          refine lv_if_eq (tgt := 136) hx hb dX11_comesTrue_129 (by decide) (fun c129 => ?_) (fun c129 => ?_)
          · have h := h.1 c129
            exact w_X11_comesTrue_136 C  h hw (lv_sub hl [] rfl)
          · have h := h.2 c129
            refine lv_iconst (v := 1) hx hb dX11_comesTrue_132 (by decide) ?_
            refine lv_goto (tgt := 137) hx hb dX11_comesTrue_133 (by decide) ?_
            exact g_zret C hw (by decide) h dX11_comesTrue_137
  have h := h.2 c18_1
  rcases Classical.em ((a0 / (1000 : Int32)) = 3) with c18_2 | c18_2
  · have h := h.1 c18_2
    refine lv_tableIn (off := 120) (tgt := 138) hx hb dX11_comesTrue_18 (by rw [c18_2]; decide) (by rw [c18_2]; decide) (by rw [c18_2]; rfl) (by decide) ?_
    refine lv_aload_n hx hb dX11_comesTrue_138 rfl (lv_at hl 2 rfl) ?_
    refine g_get C hw f_RX11_19 xl_0 (xs_0 _ _) rfl dX11_comesTrue_139 ?_
    refine lv_iload_n hx hb dX11_comesTrue_142 rfl (lv_at hl 1 rfl) ?_
    refine g_cz hw (g_rV [.int ((a0 / (100 : Int32)) - (a0 / (100 : Int32)) / (10 : Int32) * (10 : Int32))] [] C hw (m_X5_has isLex_12 h) k_X5_has q_RX11_149 xl_12 (xs_12 _ _) rfl rfl hl.1 rfl (Nat.le_of_ble_eq_true rfl) ⟨⟨rfl, rfl⟩, Nat.le_of_ble_eq_true rfl, Nat.le_of_ble_eq_true rfl⟩ ⟨Nat.zero_le _, Nat.zero_le _⟩ dX11_comesTrue_143) (fun r143 I143 J143 H locs z143 h hw => ?_)
    refine lv_if_eq (tgt := 167) hx hb dX11_comesTrue_146 (by decide) (fun c146 => ?_) (fun c146 => ?_)
    · have h := h.1 c146
      exact w_X11_comesTrue_167 C  h hw (lv_sub hl [] rfl)
    · have h := h.2 c146
      refine lv_iload_n hx hb dX11_comesTrue_149 rfl (lv_at hl 0 rfl) ?_
      refine lv_if_ne (tgt := 167) hx hb dX11_comesTrue_150 (by decide) (fun c150 => ?_) (fun c150 => ?_)
      · have h := h.1 c150
        exact w_X11_comesTrue_167 C  h hw (lv_sub hl [] rfl)
      · have h := h.2 c150
        refine lv_aload_n hx hb dX11_comesTrue_153 rfl (lv_at hl 2 rfl) ?_
        refine lv_iconst (v := 2) hx hb dX11_comesTrue_154 (by decide) ?_
        refine lv_iload_n hx hb dX11_comesTrue_155 rfl (lv_at hl 1 rfl) ?_
        refine lv_iconst (v := 0) hx hb dX11_comesTrue_156 (by decide) ?_
        refine g_cz hw (g_rV [.int (2 : Int32), .int ((a0 / (100 : Int32)) - (a0 / (100 : Int32)) / (10 : Int32) * (10 : Int32)), .int (0 : Int32)] [] C hw (m_X11_performed h) k_X11_performed q_RX11_331 xl_0 (xs_0 _ _) rfl rfl hl.1 rfl (Nat.le_of_ble_eq_true rfl) ⟨⟨rfl, rfl⟩, Nat.le_of_ble_eq_true rfl, Nat.le_of_ble_eq_true rfl⟩ ⟨Nat.zero_le _, Nat.zero_le _⟩ dX11_comesTrue_157) (fun r157 I157 J157 H locs z157 h hw => ?_)
        refine lv_if_eq (tgt := 167) hx hb dX11_comesTrue_160 (by decide) (fun c160 => ?_) (fun c160 => ?_)
        · have h := h.1 c160
          exact w_X11_comesTrue_167 C  h hw (lv_sub hl [] rfl)
        · have h := h.2 c160
          refine lv_iconst (v := 1) hx hb dX11_comesTrue_163 (by decide) ?_
          refine lv_goto (tgt := 168) hx hb dX11_comesTrue_164 (by decide) ?_
          exact g_zret C hw (by decide) h dX11_comesTrue_168
  have h := h.2 c18_2
  rcases Classical.em ((a0 / (1000 : Int32)) = 4) with c18_3 | c18_3
  · have h := h.1 c18_3
    refine lv_tableIn (off := 151) (tgt := 169) hx hb dX11_comesTrue_18 (by rw [c18_3]; decide) (by rw [c18_3]; decide) (by rw [c18_3]; rfl) (by decide) ?_
    refine lv_iload_n hx hb dX11_comesTrue_169 rfl (lv_at hl 1 rfl) ?_
    refine lv_if_ne (tgt := 190) hx hb dX11_comesTrue_170 (by decide) (fun c170 => ?_) (fun c170 => ?_)
    · have h := h.1 c170
      exact w_X11_comesTrue_190 C  h hw (lv_sub hl [] rfl)
    · have h := h.2 c170
      refine lv_aload_n hx hb dX11_comesTrue_173 rfl (lv_at hl 2 rfl) ?_
      refine g_get C hw f_RX11_53 xl_0 (xs_0 _ _) rfl dX11_comesTrue_174 ?_
      refine g_cl hw (g_rV [] [] C hw (m_X6_count h) k_X6_count q_RX11_202 xl_39 (xs_39 _ _) rfl rfl hl.1 rfl (Nat.le_of_ble_eq_true rfl) ⟨⟨rfl, rfl⟩, Nat.le_of_ble_eq_true rfl, Nat.le_of_ble_eq_true rfl⟩ ⟨Nat.zero_le _, Nat.zero_le _⟩ dX11_comesTrue_177) (fun r177 I177 J177 H locs h hw => ?_)
      refine lv_iload_n hx hb dX11_comesTrue_180 rfl (lv_at hl 0 rfl) ?_
      refine lv_i2l hx hb dX11_comesTrue_181 rfl ?_
      refine g_lcmp_ne (tgt := 190) hx hb dX11_comesTrue_182 dX11_comesTrue_183 (by decide) (fun c182 => ?_) (fun c182 => ?_)
      · have h := h.1 c182
        exact w_X11_comesTrue_190 C  h hw (lv_sub hl [] rfl)
      · have h := h.2 c182
        refine lv_iconst (v := 1) hx hb dX11_comesTrue_186 (by decide) ?_
        refine lv_goto (tgt := 191) hx hb dX11_comesTrue_187 (by decide) ?_
        exact g_zret C hw (by decide) h dX11_comesTrue_191
  have h := h.2 c18_3
  rcases Classical.em ((a0 / (1000 : Int32)) = 5) with c18_4 | c18_4
  · have h := h.1 c18_4
    refine lv_tableIn (off := 174) (tgt := 192) hx hb dX11_comesTrue_18 (by rw [c18_4]; decide) (by rw [c18_4]; decide) (by rw [c18_4]; rfl) (by decide) ?_
    refine lv_aload_n hx hb dX11_comesTrue_192 rfl (lv_at hl 2 rfl) ?_
    refine g_get C hw f_RX11_19 xl_0 (xs_0 _ _) rfl dX11_comesTrue_193 ?_
    refine lv_iload_n hx hb dX11_comesTrue_196 rfl (lv_at hl 1 rfl) ?_
    refine g_cz hw (g_rV [.int ((a0 / (100 : Int32)) - (a0 / (100 : Int32)) / (10 : Int32) * (10 : Int32))] [] C hw (m_X5_has isLex_12 h) k_X5_has q_RX11_149 xl_12 (xs_12 _ _) rfl rfl hl.1 rfl (Nat.le_of_ble_eq_true rfl) ⟨⟨rfl, rfl⟩, Nat.le_of_ble_eq_true rfl, Nat.le_of_ble_eq_true rfl⟩ ⟨Nat.zero_le _, Nat.zero_le _⟩ dX11_comesTrue_197) (fun r197 I197 J197 H locs z197 h hw => ?_)
    refine lv_if_eq (tgt := 227) hx hb dX11_comesTrue_200 (by decide) (fun c200 => ?_) (fun c200 => ?_)
    · have h := h.1 c200
      exact w_X11_comesTrue_227 C  h hw (lv_sub hl [] rfl)
    · have h := h.2 c200
      refine lv_iload_n hx hb dX11_comesTrue_203 rfl (lv_at hl 0 rfl) ?_
      refine lv_iconst (v := 1) hx hb dX11_comesTrue_204 (by decide) ?_
      refine lv_icmp_gt (tgt := 227) hx hb dX11_comesTrue_205 (by decide) (fun c205 => ?_) (fun c205 => ?_)
      · have h := h.1 c205
        exact w_X11_comesTrue_227 C  h hw (lv_sub hl [] rfl)
      · have h := h.2 c205
        refine lv_aload_n hx hb dX11_comesTrue_208 rfl (lv_at hl 2 rfl) ?_
        refine g_get C hw f_RX11_53 xl_0 (xs_0 _ _) rfl dX11_comesTrue_209 ?_
        refine g_ci hw (g_rV [] [] C hw (m_X6_wordsInPhrases h) k_X6_wordsInPhrases q_RX11_140 xl_39 (xs_39 _ _) rfl rfl hl.1 rfl (Nat.le_of_ble_eq_true rfl) ⟨⟨rfl, rfl⟩, Nat.le_of_ble_eq_true rfl, Nat.le_of_ble_eq_true rfl⟩ ⟨Nat.zero_le _, Nat.zero_le _⟩ dX11_comesTrue_212) (fun r212 I212 J212 H locs h hw => ?_)
        refine lv_iload_n hx hb dX11_comesTrue_215 rfl (lv_at hl 1 rfl) ?_
        refine lv_ishr hx hb dX11_comesTrue_216 ?_
        refine lv_iconst (v := 1) hx hb dX11_comesTrue_217 (by decide) ?_
        refine lv_iand hx hb dX11_comesTrue_218 ?_
        refine lv_iload_n hx hb dX11_comesTrue_219 rfl (lv_at hl 0 rfl) ?_
        refine lv_icmp_ne (tgt := 227) hx hb dX11_comesTrue_220 (by decide) (fun c220 => ?_) (fun c220 => ?_)
        · have h := h.1 c220
          exact w_X11_comesTrue_227 C  h hw (lv_sub hl [] rfl)
        · have h := h.2 c220
          refine lv_iconst (v := 1) hx hb dX11_comesTrue_223 (by decide) ?_
          refine lv_goto (tgt := 228) hx hb dX11_comesTrue_224 (by decide) ?_
          exact g_zret C hw (by decide) h dX11_comesTrue_228
  have h := h.2 c18_4
  rcases Classical.em ((a0 / (1000 : Int32)) = 6) with c18_5 | c18_5
  · have h := h.1 c18_5
    refine lv_tableIn (off := 211) (tgt := 229) hx hb dX11_comesTrue_18 (by rw [c18_5]; decide) (by rw [c18_5]; decide) (by rw [c18_5]; rfl) (by decide) ?_
    refine lv_iload_n hx hb dX11_comesTrue_229 rfl (lv_at hl 1 rfl) ?_
    refine g_cz hw (g_rS [.int ((a0 / (100 : Int32)) - (a0 / (100 : Int32)) / (10 : Int32) * (10 : Int32))] [] C hw (m_X11_isKind h) k_X11_isKind q_RX11_177 rfl hl.1 rfl (Nat.le_of_ble_eq_true rfl) ⟨⟨rfl, rfl⟩, Nat.le_of_ble_eq_true rfl, Nat.le_of_ble_eq_true rfl⟩ ⟨Nat.zero_le _, Nat.zero_le _⟩ dX11_comesTrue_230) (fun r230 I230 J230 H locs z230 h hw => ?_)
    refine lv_if_eq (tgt := 271) hx hb dX11_comesTrue_233 (by decide) (fun c233 => ?_) (fun c233 => ?_)
    · have h := h.1 c233
      exact w_X11_comesTrue_271 C  h hw (lv_sub hl [] rfl)
    · have h := h.2 c233
      refine lv_iload_n hx hb dX11_comesTrue_236 rfl (lv_at hl 0 rfl) ?_
      refine lv_bipush (v := 10) hx hb dX11_comesTrue_237 (by decide) ?_
      refine lv_idiv hx hb dX11_comesTrue_239 (by decide) ?_
      refine g_cz hw (g_rS [.int ((a0 - a0 / (100 : Int32) * (100 : Int32)) / (10 : Int32))] [] C hw (m_X11_isKind h) k_X11_isKind q_RX11_177 rfl hl.1 rfl (Nat.le_of_ble_eq_true rfl) ⟨⟨rfl, rfl⟩, Nat.le_of_ble_eq_true rfl, Nat.le_of_ble_eq_true rfl⟩ ⟨Nat.zero_le _, Nat.zero_le _⟩ dX11_comesTrue_240) (fun r240 I240 J240 H locs z240 h hw => ?_)
      refine lv_if_eq (tgt := 271) hx hb dX11_comesTrue_243 (by decide) (fun c243 => ?_) (fun c243 => ?_)
      · have h := h.1 c243
        exact w_X11_comesTrue_271 C  h hw (lv_sub hl [] rfl)
      · have h := h.2 c243
        refine lv_iload_n hx hb dX11_comesTrue_246 rfl (lv_at hl 0 rfl) ?_
        refine lv_bipush (v := 10) hx hb dX11_comesTrue_247 (by decide) ?_
        refine lv_irem hx hb dX11_comesTrue_249 (by decide) ?_
        refine lv_if_ne (tgt := 271) hx hb dX11_comesTrue_250 (by decide) (fun c250 => ?_) (fun c250 => ?_)
        · have h := h.1 c250
          exact w_X11_comesTrue_271 C  h hw (lv_sub hl [] rfl)
        · have h := h.2 c250
          refine lv_aload_n hx hb dX11_comesTrue_253 rfl (lv_at hl 2 rfl) ?_
          refine lv_bipush (v := 6) hx hb dX11_comesTrue_254 (by decide) ?_
          refine lv_iload_n hx hb dX11_comesTrue_256 rfl (lv_at hl 1 rfl) ?_
          refine lv_iload_n hx hb dX11_comesTrue_257 rfl (lv_at hl 0 rfl) ?_
          refine lv_bipush (v := 10) hx hb dX11_comesTrue_258 (by decide) ?_
          refine lv_idiv hx hb dX11_comesTrue_260 (by decide) ?_
          refine g_cz hw (g_rV [.int (6 : Int32), .int ((a0 / (100 : Int32)) - (a0 / (100 : Int32)) / (10 : Int32) * (10 : Int32)), .int ((a0 - a0 / (100 : Int32) * (100 : Int32)) / (10 : Int32))] [] C hw (m_X11_performed h) k_X11_performed q_RX11_331 xl_0 (xs_0 _ _) rfl rfl hl.1 rfl (Nat.le_of_ble_eq_true rfl) ⟨⟨rfl, rfl⟩, Nat.le_of_ble_eq_true rfl, Nat.le_of_ble_eq_true rfl⟩ ⟨Nat.zero_le _, Nat.zero_le _⟩ dX11_comesTrue_261) (fun r261 I261 J261 H locs z261 h hw => ?_)
          refine lv_if_eq (tgt := 271) hx hb dX11_comesTrue_264 (by decide) (fun c264 => ?_) (fun c264 => ?_)
          · have h := h.1 c264
            exact w_X11_comesTrue_271 C  h hw (lv_sub hl [] rfl)
          · have h := h.2 c264
            refine lv_iconst (v := 1) hx hb dX11_comesTrue_267 (by decide) ?_
            refine lv_goto (tgt := 272) hx hb dX11_comesTrue_268 (by decide) ?_
            exact g_zret C hw (by decide) h dX11_comesTrue_272
  have h := h.2 c18_5
  rcases Classical.em ((a0 / (1000 : Int32)) = 7) with c18_6 | c18_6
  · have h := h.1 c18_6
    refine lv_tableIn (off := 255) (tgt := 273) hx hb dX11_comesTrue_18 (by rw [c18_6]; decide) (by rw [c18_6]; decide) (by rw [c18_6]; rfl) (by decide) ?_
    refine lv_iload_n hx hb dX11_comesTrue_273 rfl (lv_at hl 1 rfl) ?_
    refine lv_if_ne (tgt := 302) hx hb dX11_comesTrue_274 (by decide) (fun c274 => ?_) (fun c274 => ?_)
    · have h := h.1 c274
      exact w_X11_comesTrue_302 C  h hw (lv_sub hl [] rfl)
    · have h := h.2 c274
      refine lv_aload_n hx hb dX11_comesTrue_277 rfl (lv_at hl 2 rfl) ?_
      refine g_get C hw f_RX11_53 xl_0 (xs_0 _ _) rfl dX11_comesTrue_278 ?_
      refine g_cz hw (g_rV [] [] C hw (m_X6_findBest h) k_X6_findBest q_RX11_214 xl_39 (xs_39 _ _) rfl rfl hl.1 rfl (Nat.le_of_ble_eq_true rfl) ⟨⟨rfl, rfl⟩, Nat.le_of_ble_eq_true rfl, Nat.le_of_ble_eq_true rfl⟩ ⟨Nat.zero_le _, Nat.zero_le _⟩ dX11_comesTrue_281) (fun r281 I281 J281 H locs z281 h hw => ?_)
      refine lv_if_eq (tgt := 302) hx hb dX11_comesTrue_284 (by decide) (fun c284 => ?_) (fun c284 => ?_)
      · have h := h.1 c284
        exact w_X11_comesTrue_302 C  h hw (lv_sub hl [] rfl)
      · have h := h.2 c284
        refine lv_aload_n hx hb dX11_comesTrue_287 rfl (lv_at hl 2 rfl) ?_
        refine g_get C hw f_RX11_53 xl_0 (xs_0 _ _) rfl dX11_comesTrue_288 ?_
        refine g_ci hw (g_rV [] [] C hw (m_X6_foundWorth h) k_X6_foundWorth q_RX11_218 xl_39 (xs_39 _ _) rfl rfl hl.1 rfl (Nat.le_of_ble_eq_true rfl) ⟨⟨rfl, rfl⟩, Nat.le_of_ble_eq_true rfl, Nat.le_of_ble_eq_true rfl⟩ ⟨Nat.zero_le _, Nat.zero_le _⟩ dX11_comesTrue_291) (fun r291 I291 J291 H locs h hw => ?_)
        refine lv_iload_n hx hb dX11_comesTrue_294 rfl (lv_at hl 0 rfl) ?_
        refine lv_icmp_ne (tgt := 302) hx hb dX11_comesTrue_295 (by decide) (fun c295 => ?_) (fun c295 => ?_)
        · have h := h.1 c295
          exact w_X11_comesTrue_302 C  h hw (lv_sub hl [] rfl)
        · have h := h.2 c295
          refine lv_iconst (v := 1) hx hb dX11_comesTrue_298 (by decide) ?_
          refine lv_goto (tgt := 303) hx hb dX11_comesTrue_299 (by decide) ?_
          exact g_zret C hw (by decide) h dX11_comesTrue_303
  have h := h.2 c18_6
  refine lv_tableOut (tgt := 304) hx hb dX11_comesTrue_18 (by have hs0 := toInt_ne c18_0 (show (1 : Int32).toInt = 1 from by decide); have hs1 := toInt_ne c18_1 (show (2 : Int32).toInt = 2 from by decide); have hs2 := toInt_ne c18_2 (show (3 : Int32).toInt = 3 from by decide); have hs3 := toInt_ne c18_3 (show (4 : Int32).toInt = 4 from by decide); have hs4 := toInt_ne c18_4 (show (5 : Int32).toInt = 5 from by decide); have hs5 := toInt_ne c18_5 (show (6 : Int32).toInt = 6 from by decide); have hs6 := toInt_ne c18_6 (show (7 : Int32).toInt = 7 from by decide); omega) (by decide) ?_
  refine lv_iconst (v := 0) hx hb dX11_comesTrue_304 (by decide) ?_
  exact g_zret C hw (by decide) h dX11_comesTrue_305
theorem m_X11_comesTrue {l : Launch} {a0 : Int32} {Q : Int32 → MI → MJ → Prop} {I : MI} {J : MJ} (h : P_X11_comesTrue a0 I J Q) : Met l yX11_comesTrue (xws yX11_comesTrue cX11_comesTrue 4 (some .boolean)) rmX11_comesTrue (va_Pc [.ref (ad 0), .int a0] (gB (xS ad cy) 66 ad cy D (xF ad ts) I J)) (gQz (xS ad cy) 66 ad cy D (xF ad ts) Q) 0 0 (gA 66 ad) :=
  g_met (xF_ok ad ts) rfl (by decide) (Nat.le_of_ble_eq_true rfl) (fun p e s m below meth c ls C hw hl => w_X11_comesTrue C  h hw hl)
/-! BagPhrases.judge(IJ)I -/
def P_X11_judge_110 (Q : Int32 → MI → MJ → Prop) (x1 : Int32) (x6 : Int32) (I : MI) (J : MJ) : Prop :=
  P_X8_copy 17 21 I J (fun I118 J118 => P_X11_outdate I118 J118 (fun I122 J122 => ((x1 ≤ x6 → Q (-9 : Int32) I122 J122) ∧ (¬ x1 ≤ x6 → Q x6 I122 J122))))
def P_X11_judge_84 (Q : Int32 → MI → MJ → Prop) (kL84 : Int32 × Int32 × MI × MJ → Prop) : Int32 × Int32 × MI × MJ → Prop := fun z => match z with
  | (x1, x6, I, J) => ((x1 ≤ x6 → P_X11_judge_110 Q x1 x6 I J) ∧ (¬ x1 ≤ x6 → vp_in x6 4 ∧ (P_X11_comesTrue (I 62 x6.toNatClampNeg) I J (fun r98 I98 J98 => ((r98 = 0 → P_X11_judge_110 Q x1 x6 I98 J98) ∧ (¬ r98 = 0 → kL84 (x1, (x6 + 1), I98, J98)))))))
def P_X11_judge_27 (Q : Int32 → MI → MJ → Prop) (kL27 : Int32 × Int64 × Int32 × MI × MJ → Prop) : Int32 × Int64 × Int32 × MI × MJ → Prop := fun z => match z with
  | (x1, x4, x6, I, J) => ((x6 < 0 → ((x4 = (0 : Int64) → P_X8_copy 21 17 I J (fun I78 J78 => lpx (P_X11_judge_84 Q) (x1, (0 : Int32), I78, J78))) ∧ (¬ x4 = (0 : Int64) → Q (-2 : Int32) I J))) ∧ (¬ x6 < 0 → vp_in x6 4 ∧ (∀ I45 : MI, I45 = mI I 62 x6.toNatClampNeg ((x4 - x4 / (10000 : Int64) * (10000 : Int64)).toInt32) → kL27 (x1, (x4 / (10000 : Int64)), (x6 + (-1)), I45, J))))
def P_X11_judge (a0 : Int32) (a1 : Int64) (I : MI) (J : MJ) (Q : Int32 → MI → MJ → Prop) : Prop :=
  ((a0 < (1 : Int32) → Q (-2 : Int32) I J) ∧ (¬ a0 < (1 : Int32) → (((4 : Int32) < a0 → Q (-2 : Int32) I J) ∧ (¬ (4 : Int32) < a0 → (((0 : Int64) ≤ a1 → lpx (P_X11_judge_27 Q) (a0, a1, (a0 - (1 : Int32)), I, J)) ∧ (¬ (0 : Int64) ≤ a1 → Q (-2 : Int32) I J))))))
abbrev rmX11_judge : Room := { frames := 7, cells := 0, slots := 0, locals := 187 }
set_option maxHeartbeats 4000000 in
set_option maxRecDepth 100000 in
theorem w_X11_judge_110 {Q : Int32 → MI → MJ → Prop} (C : gC RX11 cX11_judge 7 (some .int) 66 ad cy D (xF ad ts) p s m args meth c) {x1 : Int32} {x6 : Int32} {I : MI} {J : MJ} {H : Heap} {locs : List Loc} {ls : Array Slot} (h : P_X11_judge_110 Q x1 x6 I J) (hw : gH (xS ad cy) 66 ad D s I J H locs) (hl : lv_has ls 7 [(0, .ref (ad 0)), (1, .int x1), (6, .int x6)]) : W p l e rmX11_judge s m args below meth c H locs 0 0 (MQ below (gQi (xS ad cy) 66 ad cy D (xF ad ts) Q) args s 0 0 (gA 66 ad)) (F0 m 110 ls []) := by
  obtain ⟨hx, hb, hC⟩ := id C
  refine lv_aload_n hx hb dX11_judge_110 rfl (lv_at hl 0 rfl) ?_
  refine g_get C hw f_RX11_26 xl_0 (xs_0 _ _) rfl dX11_judge_111 ?_
  refine lv_aload_n hx hb dX11_judge_114 rfl (lv_at hl 0 rfl) ?_
  refine g_get C hw f_RX11_30 xl_0 (xs_0 _ _) rfl dX11_judge_115 ?_
  refine g_cv hw (g_rV [.ref (ad 21)] [] C hw (m_X8_copy isSet_17 isSet_21 h) k_X8_copy q_RX11_112 xl_17 (xs_17 _ _) rfl rfl hl.1 rfl (Nat.le_of_ble_eq_true rfl) ⟨⟨rfl, rfl⟩, Nat.le_of_ble_eq_true rfl, Nat.le_of_ble_eq_true rfl⟩ ⟨Nat.zero_le _, Nat.zero_le _⟩ dX11_judge_118) (fun I118 J118 H locs h hw => ?_)
  refine lv_aload_n hx hb dX11_judge_121 rfl (lv_at hl 0 rfl) ?_
  refine g_cv hw (g_rV [] [] C hw (m_X11_outdate h) k_X11_outdate q_RX11_116 xl_0 (xs_0 _ _) rfl rfl hl.1 rfl (Nat.le_of_ble_eq_true rfl) ⟨⟨rfl, rfl⟩, Nat.le_of_ble_eq_true rfl, Nat.le_of_ble_eq_true rfl⟩ ⟨Nat.zero_le _, Nat.zero_le _⟩ dX11_judge_122) (fun I122 J122 H locs h hw => ?_)
  refine lv_iload hx hb dX11_judge_125 (lv_at hl 2 rfl) ?_
  refine lv_iload_n hx hb dX11_judge_127 rfl (lv_at hl 1 rfl) ?_
  refine lv_icmp_ge (tgt := 136) hx hb dX11_judge_128 (by decide) (fun c128 => ?_) (fun c128 => ?_)
  · have h := h.1 c128
    refine lv_bipush (v := -9) hx hb dX11_judge_136 (by decide) ?_
    exact g_iret C hw h dX11_judge_138
  · have h := h.2 c128
    refine lv_iload hx hb dX11_judge_131 (lv_at hl 2 rfl) ?_
    refine lv_goto (tgt := 138) hx hb dX11_judge_133 (by decide) ?_
    exact g_iret C hw h dX11_judge_138
set_option maxHeartbeats 4000000 in
set_option maxRecDepth 100000 in
theorem w_X11_judge_84 {Q : Int32 → MI → MJ → Prop} (C : gC RX11 cX11_judge 7 (some .int) 66 ad cy D (xF ad ts) p s m args meth c) {kL84 : Int32 × Int32 × MI × MJ → Prop} (hL84 : ∀ {x1 : Int32} {x6 : Int32} {I : MI} {J : MJ} {H : Heap} {locs : List Loc} {ls : Array Slot}, kL84 (x1, x6, I, J) → gH (xS ad cy) 66 ad D s I J H locs → lv_has ls 7 [(0, .ref (ad 0)), (1, .int x1), (6, .int x6)] → W p l e rmX11_judge s m args below meth c H locs 0 0 (MQ below (gQi (xS ad cy) 66 ad cy D (xF ad ts) Q) args s 0 0 (gA 66 ad)) (F0 m 84 ls [])) {x1 : Int32} {x6 : Int32} {I : MI} {J : MJ} {H : Heap} {locs : List Loc} {ls : Array Slot} (h : P_X11_judge_84 Q kL84 (x1, x6, I, J)) (hw : gH (xS ad cy) 66 ad D s I J H locs) (hl : lv_has ls 7 [(0, .ref (ad 0)), (1, .int x1), (6, .int x6)]) : W p l e rmX11_judge s m args below meth c H locs 0 0 (MQ below (gQi (xS ad cy) 66 ad cy D (xF ad ts) Q) args s 0 0 (gA 66 ad)) (F0 m 84 ls []) := by
  obtain ⟨hx, hb, hC⟩ := id C
  refine lv_iload hx hb dX11_judge_84 (lv_at hl 2 rfl) ?_
  refine lv_iload_n hx hb dX11_judge_86 rfl (lv_at hl 1 rfl) ?_
  refine lv_icmp_ge (tgt := 110) hx hb dX11_judge_87 (by decide) (fun c87 => ?_) (fun c87 => ?_)
  · have h := h.1 c87
    exact w_X11_judge_110 C  h hw (lv_sub hl [0, 1, 2] rfl)
  · have h := h.2 c87
    refine lv_aload_n hx hb dX11_judge_90 rfl (lv_at hl 0 rfl) ?_
    refine lv_aload_n hx hb dX11_judge_91 rfl (lv_at hl 0 rfl) ?_
    refine g_get C hw f_RX11_70 xl_0 (xs_0 _ _) rfl dX11_judge_92 ?_
    refine lv_iload hx hb dX11_judge_95 (lv_at hl 2 rfl) ?_
    refine g_iald C hw xl_62 xs_62 h.1 dX11_judge_97 ?_
    have h := h.2
    refine g_cz hw (g_rV [.int (I 62 x6.toNatClampNeg)] [] C hw (m_X11_comesTrue h) k_X11_comesTrue q_RX11_246 xl_0 (xs_0 _ _) rfl rfl hl.1 rfl (Nat.le_of_ble_eq_true rfl) ⟨⟨rfl, rfl⟩, Nat.le_of_ble_eq_true rfl, Nat.le_of_ble_eq_true rfl⟩ ⟨Nat.zero_le _, Nat.zero_le _⟩ dX11_judge_98) (fun r98 I98 J98 H locs z98 h hw => ?_)
    refine lv_if_eq (tgt := 110) hx hb dX11_judge_101 (by decide) (fun c101 => ?_) (fun c101 => ?_)
    · have h := h.1 c101
      exact w_X11_judge_110 C  h hw (lv_sub hl [0, 1, 2] rfl)
    · have h := h.2 c101
      refine lv_iinc (v := x6 + 1) (lv' := [(6, .int (x6 + 1)), (0, .ref (ad 0)), (1, .int x1)]) hx hb dX11_judge_104 hl (k := 2) rfl rfl (by decide) rfl (fun ls hl => ?_)
      refine lv_goto (tgt := 84) hx hb dX11_judge_107 (by decide) ?_
      exact hL84 h hw (lv_sub hl [1, 2, 0] rfl)
theorem wl_X11_judge_84 {Q : Int32 → MI → MJ → Prop} (C : gC RX11 cX11_judge 7 (some .int) 66 ad cy D (xF ad ts) p s m args meth c) {x1 : Int32} {x6 : Int32} {I : MI} {J : MJ} {H : Heap} {locs : List Loc} {ls : Array Slot} (h : lpx (P_X11_judge_84 Q) (x1, x6, I, J)) (hw : gH (xS ad cy) 66 ad D s I J H locs) (hl : lv_has ls 7 [(0, .ref (ad 0)), (1, .int x1), (6, .int x6)]) : W p l e rmX11_judge s m args below meth c H locs 0 0 (MQ below (gQi (xS ad cy) 66 ad cy D (xF ad ts) Q) args s 0 0 (gA 66 ad)) (F0 m 84 ls []) := by
  obtain ⟨n, h⟩ := h
  induction n generalizing x1 x6 I J H locs ls with
  | zero => exact False.elim h
  | succ n ih => exact w_X11_judge_84 C  (fun hk9 hw9 hl9 => ih hw9 hl9 hk9) h hw hl
set_option maxHeartbeats 4000000 in
set_option maxRecDepth 100000 in
theorem w_X11_judge_27 {Q : Int32 → MI → MJ → Prop} (C : gC RX11 cX11_judge 7 (some .int) 66 ad cy D (xF ad ts) p s m args meth c) {kL27 : Int32 × Int64 × Int32 × MI × MJ → Prop} (hL27 : ∀ {x1 : Int32} {x4 : Int64} {x6 : Int32} {I : MI} {J : MJ} {H : Heap} {locs : List Loc} {ls : Array Slot}, kL27 (x1, x4, x6, I, J) → gH (xS ad cy) 66 ad D s I J H locs → lv_has ls 7 [(0, .ref (ad 0)), (1, .int x1), (4, .long x4), (6, .int x6)] → W p l e rmX11_judge s m args below meth c H locs 0 0 (MQ below (gQi (xS ad cy) 66 ad cy D (xF ad ts) Q) args s 0 0 (gA 66 ad)) (F0 m 27 ls [])) {x1 : Int32} {x4 : Int64} {x6 : Int32} {I : MI} {J : MJ} {H : Heap} {locs : List Loc} {ls : Array Slot} (h : P_X11_judge_27 Q kL27 (x1, x4, x6, I, J)) (hw : gH (xS ad cy) 66 ad D s I J H locs) (hl : lv_has ls 7 [(0, .ref (ad 0)), (1, .int x1), (4, .long x4), (6, .int x6)]) : W p l e rmX11_judge s m args below meth c H locs 0 0 (MQ below (gQi (xS ad cy) 66 ad cy D (xF ad ts) Q) args s 0 0 (gA 66 ad)) (F0 m 27 ls []) := by
  obtain ⟨hx, hb, hC⟩ := id C
  refine lv_iload hx hb dX11_judge_27 (lv_at hl 3 rfl) ?_
  refine lv_if_lt (tgt := 60) hx hb dX11_judge_29 (by decide) (fun c29 => ?_) (fun c29 => ?_)
  · have h := h.1 c29
    refine lv_lload hx hb dX11_judge_60 (lv_at hl 2 rfl) ?_
    refine lv_lconst (v := 0) hx hb dX11_judge_62 (by decide) ?_
    refine g_lcmp_eq (tgt := 70) hx hb dX11_judge_63 dX11_judge_64 (by decide) (fun c63 => ?_) (fun c63 => ?_)
    · have h := h.1 c63
      refine lv_aload_n hx hb dX11_judge_70 rfl (lv_at hl 0 rfl) ?_
      refine g_get C hw f_RX11_30 xl_0 (xs_0 _ _) rfl dX11_judge_71 ?_
      refine lv_aload_n hx hb dX11_judge_74 rfl (lv_at hl 0 rfl) ?_
      refine g_get C hw f_RX11_26 xl_0 (xs_0 _ _) rfl dX11_judge_75 ?_
      refine g_cv hw (g_rV [.ref (ad 17)] [] C hw (m_X8_copy isSet_21 isSet_17 h) k_X8_copy q_RX11_112 xl_21 (xs_21 _ _) rfl rfl hl.1 rfl (Nat.le_of_ble_eq_true rfl) ⟨⟨rfl, rfl⟩, Nat.le_of_ble_eq_true rfl, Nat.le_of_ble_eq_true rfl⟩ ⟨Nat.zero_le _, Nat.zero_le _⟩ dX11_judge_78) (fun I78 J78 H locs h hw => ?_)
      refine lv_iconst (v := 0) hx hb dX11_judge_81 (by decide) ?_
      refine lv_istore (lv' := [(6, .int (0 : Int32)), (0, .ref (ad 0)), (1, .int x1), (4, .long x4)]) hx hb dX11_judge_82 hl (by decide) rfl (fun ls hl => ?_)
      exact wl_X11_judge_84 C  h hw (lv_sub hl [1, 2, 0] rfl)
    · have h := h.2 c63
      refine lv_bipush (v := -2) hx hb dX11_judge_67 (by decide) ?_
      exact g_iret C hw h dX11_judge_69
  · have h := h.2 c29
    refine lv_aload_n hx hb dX11_judge_32 rfl (lv_at hl 0 rfl) ?_
    refine g_get C hw f_RX11_70 xl_0 (xs_0 _ _) rfl dX11_judge_33 ?_
    refine lv_iload hx hb dX11_judge_36 (lv_at hl 3 rfl) ?_
    refine lv_lload hx hb dX11_judge_38 (lv_at hl 2 rfl) ?_
    refine lv_ldc2 (v := (10000)) hx hb hC.2.2.1 (hC.2.2.2.1 _ q_RX11_244) dX11_judge_40 ?_
    refine lv_lrem hx hb dX11_judge_43 (by decide) ?_
    refine lv_l2i hx hb dX11_judge_44 rfl ?_
    refine g_iast C hw xl_62 xs_62 h.1 dX11_judge_45 (fun H locs hw => ?_)
    have h := h.2
    obtain ⟨I45, e45⟩ : ∃ z : MI, z = mI I 62 x6.toNatClampNeg ((x4 - x4 / (10000 : Int64) * (10000 : Int64)).toInt32) := ⟨_, rfl⟩
    have h := h I45 e45
    rw [← e45] at hw
    refine lv_lload hx hb dX11_judge_46 (lv_at hl 2 rfl) ?_
    refine lv_ldc2 (v := (10000)) hx hb hC.2.2.1 (hC.2.2.2.1 _ q_RX11_244) dX11_judge_48 ?_
    refine lv_ldiv hx hb dX11_judge_51 (by decide) ?_
    refine lv_lstore (lv' := [(4, .long (x4 / (10000 : Int64))), (0, .ref (ad 0)), (1, .int x1), (6, .int x6)]) hx hb dX11_judge_52 hl (by decide) rfl (fun ls hl => ?_)
    refine lv_iinc (v := x6 + (-1)) (lv' := [(6, .int (x6 + (-1))), (4, .long (x4 / (10000 : Int64))), (0, .ref (ad 0)), (1, .int x1)]) hx hb dX11_judge_54 hl (k := 3) rfl rfl (by decide) rfl (fun ls hl => ?_)
    refine lv_goto (tgt := 27) hx hb dX11_judge_57 (by decide) ?_
    exact hL27 h hw (lv_sub hl [2, 3, 1, 0] rfl)
theorem wl_X11_judge_27 {Q : Int32 → MI → MJ → Prop} (C : gC RX11 cX11_judge 7 (some .int) 66 ad cy D (xF ad ts) p s m args meth c) {x1 : Int32} {x4 : Int64} {x6 : Int32} {I : MI} {J : MJ} {H : Heap} {locs : List Loc} {ls : Array Slot} (h : lpx (P_X11_judge_27 Q) (x1, x4, x6, I, J)) (hw : gH (xS ad cy) 66 ad D s I J H locs) (hl : lv_has ls 7 [(0, .ref (ad 0)), (1, .int x1), (4, .long x4), (6, .int x6)]) : W p l e rmX11_judge s m args below meth c H locs 0 0 (MQ below (gQi (xS ad cy) 66 ad cy D (xF ad ts) Q) args s 0 0 (gA 66 ad)) (F0 m 27 ls []) := by
  obtain ⟨n, h⟩ := h
  induction n generalizing x1 x4 x6 I J H locs ls with
  | zero => exact False.elim h
  | succ n ih => exact w_X11_judge_27 C  (fun hk9 hw9 hl9 => ih hw9 hl9 hk9) h hw hl
set_option maxHeartbeats 4000000 in
set_option maxRecDepth 100000 in
theorem w_X11_judge {Q : Int32 → MI → MJ → Prop} (C : gC RX11 cX11_judge 7 (some .int) 66 ad cy D (xF ad ts) p s m args meth c) {a0 : Int32} {a1 : Int64} {I : MI} {J : MJ} {H : Heap} {locs : List Loc} {ls : Array Slot} (h : P_X11_judge a0 a1 I J Q) (hw : gH (xS ad cy) 66 ad D s I J H locs) (hl : lv_has ls 7 [(0, .ref (ad 0)), (1, .int a0), (2, .long a1)]) : W p l e rmX11_judge s m args below meth c H locs 0 0 (MQ below (gQi (xS ad cy) 66 ad cy D (xF ad ts) Q) args s 0 0 (gA 66 ad)) (F0 m 0 ls []) := by
  obtain ⟨hx, hb, hC⟩ := id C
  refine lv_iload_n hx hb dX11_judge_0 rfl (lv_at hl 1 rfl) ?_
  refine lv_iconst (v := 1) hx hb dX11_judge_1 (by decide) ?_
  refine lv_icmp_lt (tgt := 16) hx hb dX11_judge_2 (by decide) (fun c2 => ?_) (fun c2 => ?_)
  · have h := h.1 c2
    refine lv_bipush (v := -2) hx hb dX11_judge_16 (by decide) ?_
    exact g_iret C hw h dX11_judge_18
  · have h := h.2 c2
    refine lv_iload_n hx hb dX11_judge_5 rfl (lv_at hl 1 rfl) ?_
    refine lv_iconst (v := 4) hx hb dX11_judge_6 (by decide) ?_
    refine lv_icmp_gt (tgt := 16) hx hb dX11_judge_7 (by decide) (fun c7 => ?_) (fun c7 => ?_)
    · have h := h.1 c7
      refine lv_bipush (v := -2) hx hb dX11_judge_16 (by decide) ?_
      exact g_iret C hw h dX11_judge_18
    · have h := h.2 c7
      refine lv_lload_n hx hb dX11_judge_10 rfl (lv_at hl 2 rfl) ?_
      refine lv_lconst (v := 0) hx hb dX11_judge_11 (by decide) ?_
      refine g_lcmp_ge (tgt := 19) hx hb dX11_judge_12 dX11_judge_13 (by decide) (fun c12 => ?_) (fun c12 => ?_)
      · have h := h.1 c12
        refine lv_lload_n hx hb dX11_judge_19 rfl (lv_at hl 2 rfl) ?_
        refine lv_lstore (lv' := [(4, .long a1), (0, .ref (ad 0)), (1, .int a0), (2, .long a1)]) hx hb dX11_judge_20 hl (by decide) rfl (fun ls hl => ?_)
        refine lv_iload_n hx hb dX11_judge_22 rfl (lv_at hl 2 rfl) ?_
        refine lv_iconst (v := 1) hx hb dX11_judge_23 (by decide) ?_
        refine lv_isub hx hb dX11_judge_24 ?_
        refine lv_istore (lv' := [(6, .int (a0 - (1 : Int32))), (4, .long a1), (0, .ref (ad 0)), (1, .int a0), (2, .long a1)]) hx hb dX11_judge_25 hl (by decide) rfl (fun ls hl => ?_)
        exact wl_X11_judge_27 C  h hw (lv_sub hl [2, 3, 1, 0] rfl)
      · have h := h.2 c12
        refine lv_bipush (v := -2) hx hb dX11_judge_16 (by decide) ?_
        exact g_iret C hw h dX11_judge_18
theorem m_X11_judge {l : Launch} {a0 : Int32} {a1 : Int64} {Q : Int32 → MI → MJ → Prop} {I : MI} {J : MJ} (h : P_X11_judge a0 a1 I J Q) : Met l yX11_judge (xws yX11_judge cX11_judge 7 (some .int)) rmX11_judge (va_Pc [.ref (ad 0), .int a0, .long a1] (gB (xS ad cy) 66 ad cy D (xF ad ts) I J)) (gQi (xS ad cy) 66 ad cy D (xF ad ts) Q) 0 0 (gA 66 ad) :=
  g_met (xF_ok ad ts) rfl (by decide) (Nat.le_of_ble_eq_true rfl) (fun p e s m below meth c ls C hw hl => w_X11_judge C  h hw hl)
/-! BagPhrases.see(III)I -/
def P_X11_see (a0 : Int32) (a1 : Int32) (a2 : Int32) (I : MI) (J : MJ) (Q : Int32 → MI → MJ → Prop) : Prop :=
  ((a0 < 0 → Q (-2 : Int32) I J) ∧ (¬ a0 < 0 → (((3 : Int32) < a0 → Q (-2 : Int32) I J) ∧ (¬ (3 : Int32) < a0 → ((a1 < 0 → Q (-2 : Int32) I J) ∧ (¬ a1 < 0 → (((12 : Int32) < a1 → Q (-2 : Int32) I J) ∧ (¬ (12 : Int32) < a1 → ((a2 < 0 → Q (-2 : Int32) I J) ∧ (¬ a2 < 0 → ((a2 ≤ (1 : Int32) → (((I 0 15) < (6 : Int32) → vp_in ((I 0 15) * (3 : Int32)) 18 ∧ (∀ I54 : MI, I54 = mI I 65 ((I 0 15) * (3 : Int32)).toNatClampNeg a0 → vp_in (((I54 0 15) * (3 : Int32)) + (1 : Int32)) 18 ∧ (∀ I68 : MI, I68 = mI I54 65 (((I54 0 15) * (3 : Int32)) + (1 : Int32)).toNatClampNeg a1 → vp_in (((I68 0 15) * (3 : Int32)) + (2 : Int32)) 18 ∧ (∀ I82 : MI, I82 = mI I68 65 (((I68 0 15) * (3 : Int32)) + (2 : Int32)).toNatClampNeg a2 → (∀ I90 : MI, I90 = mI I82 0 15 ((I82 0 15) + (1 : Int32)) → Q (I90 0 15) I90 J))))) ∧ (¬ (I 0 15) < (6 : Int32) → Q (-4 : Int32) I J))) ∧ (¬ a2 ≤ (1 : Int32) → Q (-2 : Int32) I J))))))))))))
abbrev rmX11_see : Room := { frames := 0, cells := 0, slots := 0, locals := 0 }
set_option maxHeartbeats 4000000 in
set_option maxRecDepth 100000 in
theorem w_X11_see {Q : Int32 → MI → MJ → Prop} (C : gC RX11 cX11_see 4 (some .int) 66 ad cy D (xF ad ts) p s m args meth c) {a0 : Int32} {a1 : Int32} {a2 : Int32} {I : MI} {J : MJ} {H : Heap} {locs : List Loc} {ls : Array Slot} (h : P_X11_see a0 a1 a2 I J Q) (hw : gH (xS ad cy) 66 ad D s I J H locs) (hl : lv_has ls 4 [(0, .ref (ad 0)), (1, .int a0), (2, .int a1), (3, .int a2)]) : W p l e rmX11_see s m args below meth c H locs 0 0 (MQ below (gQi (xS ad cy) 66 ad cy D (xF ad ts) Q) args s 0 0 (gA 66 ad)) (F0 m 0 ls []) := by
  obtain ⟨hx, hb, hC⟩ := id C
  refine lv_iload_n hx hb dX11_see_0 rfl (lv_at hl 1 rfl) ?_
  refine lv_if_lt (tgt := 28) hx hb dX11_see_1 (by decide) (fun c1 => ?_) (fun c1 => ?_)
  · have h := h.1 c1
    refine lv_bipush (v := -2) hx hb dX11_see_28 (by decide) ?_
    exact g_iret C hw h dX11_see_30
  · have h := h.2 c1
    refine lv_iload_n hx hb dX11_see_4 rfl (lv_at hl 1 rfl) ?_
    refine lv_iconst (v := 3) hx hb dX11_see_5 (by decide) ?_
    refine lv_icmp_gt (tgt := 28) hx hb dX11_see_6 (by decide) (fun c6 => ?_) (fun c6 => ?_)
    · have h := h.1 c6
      refine lv_bipush (v := -2) hx hb dX11_see_28 (by decide) ?_
      exact g_iret C hw h dX11_see_30
    · have h := h.2 c6
      refine lv_iload_n hx hb dX11_see_9 rfl (lv_at hl 2 rfl) ?_
      refine lv_if_lt (tgt := 28) hx hb dX11_see_10 (by decide) (fun c10 => ?_) (fun c10 => ?_)
      · have h := h.1 c10
        refine lv_bipush (v := -2) hx hb dX11_see_28 (by decide) ?_
        exact g_iret C hw h dX11_see_30
      · have h := h.2 c10
        refine lv_iload_n hx hb dX11_see_13 rfl (lv_at hl 2 rfl) ?_
        refine lv_bipush (v := 12) hx hb dX11_see_14 (by decide) ?_
        refine lv_icmp_gt (tgt := 28) hx hb dX11_see_16 (by decide) (fun c16 => ?_) (fun c16 => ?_)
        · have h := h.1 c16
          refine lv_bipush (v := -2) hx hb dX11_see_28 (by decide) ?_
          exact g_iret C hw h dX11_see_30
        · have h := h.2 c16
          refine lv_iload_n hx hb dX11_see_19 rfl (lv_at hl 3 rfl) ?_
          refine lv_if_lt (tgt := 28) hx hb dX11_see_20 (by decide) (fun c20 => ?_) (fun c20 => ?_)
          · have h := h.1 c20
            refine lv_bipush (v := -2) hx hb dX11_see_28 (by decide) ?_
            exact g_iret C hw h dX11_see_30
          · have h := h.2 c20
            refine lv_iload_n hx hb dX11_see_23 rfl (lv_at hl 3 rfl) ?_
            refine lv_iconst (v := 1) hx hb dX11_see_24 (by decide) ?_
            refine lv_icmp_le (tgt := 31) hx hb dX11_see_25 (by decide) (fun c25 => ?_) (fun c25 => ?_)
            · have h := h.1 c25
              refine lv_aload_n hx hb dX11_see_31 rfl (lv_at hl 0 rfl) ?_
              refine g_get C hw f_RX11_86 xl_0 (xs_0 _ _) rfl dX11_see_32 ?_
              refine lv_bipush (v := 6) hx hb dX11_see_35 (by decide) ?_
              refine lv_icmp_lt (tgt := 43) hx hb dX11_see_37 (by decide) (fun c37 => ?_) (fun c37 => ?_)
              · have h := h.1 c37
                refine lv_aload_n hx hb dX11_see_43 rfl (lv_at hl 0 rfl) ?_
                refine g_get C hw f_RX11_79 xl_0 (xs_0 _ _) rfl dX11_see_44 ?_
                refine lv_aload_n hx hb dX11_see_47 rfl (lv_at hl 0 rfl) ?_
                refine g_get C hw f_RX11_86 xl_0 (xs_0 _ _) rfl dX11_see_48 ?_
                refine lv_iconst (v := 3) hx hb dX11_see_51 (by decide) ?_
                refine lv_imul hx hb dX11_see_52 ?_
                refine lv_iload_n hx hb dX11_see_53 rfl (lv_at hl 1 rfl) ?_
                refine g_iast C hw xl_65 xs_65 h.1 dX11_see_54 (fun H locs hw => ?_)
                have h := h.2
                obtain ⟨I54, e54⟩ : ∃ z : MI, z = mI I 65 ((I 0 15) * (3 : Int32)).toNatClampNeg a0 := ⟨_, rfl⟩
                have h := h I54 e54
                rw [← e54] at hw
                refine lv_aload_n hx hb dX11_see_55 rfl (lv_at hl 0 rfl) ?_
                refine g_get C hw f_RX11_79 xl_0 (xs_0 _ _) rfl dX11_see_56 ?_
                refine lv_aload_n hx hb dX11_see_59 rfl (lv_at hl 0 rfl) ?_
                refine g_get C hw f_RX11_86 xl_0 (xs_0 _ _) rfl dX11_see_60 ?_
                refine lv_iconst (v := 3) hx hb dX11_see_63 (by decide) ?_
                refine lv_imul hx hb dX11_see_64 ?_
                refine lv_iconst (v := 1) hx hb dX11_see_65 (by decide) ?_
                refine lv_iadd hx hb dX11_see_66 ?_
                refine lv_iload_n hx hb dX11_see_67 rfl (lv_at hl 2 rfl) ?_
                refine g_iast C hw xl_65 xs_65 h.1 dX11_see_68 (fun H locs hw => ?_)
                have h := h.2
                obtain ⟨I68, e68⟩ : ∃ z : MI, z = mI I54 65 (((I54 0 15) * (3 : Int32)) + (1 : Int32)).toNatClampNeg a1 := ⟨_, rfl⟩
                have h := h I68 e68
                rw [← e68] at hw
                refine lv_aload_n hx hb dX11_see_69 rfl (lv_at hl 0 rfl) ?_
                refine g_get C hw f_RX11_79 xl_0 (xs_0 _ _) rfl dX11_see_70 ?_
                refine lv_aload_n hx hb dX11_see_73 rfl (lv_at hl 0 rfl) ?_
                refine g_get C hw f_RX11_86 xl_0 (xs_0 _ _) rfl dX11_see_74 ?_
                refine lv_iconst (v := 3) hx hb dX11_see_77 (by decide) ?_
                refine lv_imul hx hb dX11_see_78 ?_
                refine lv_iconst (v := 2) hx hb dX11_see_79 (by decide) ?_
                refine lv_iadd hx hb dX11_see_80 ?_
                refine lv_iload_n hx hb dX11_see_81 rfl (lv_at hl 3 rfl) ?_
                refine g_iast C hw xl_65 xs_65 h.1 dX11_see_82 (fun H locs hw => ?_)
                have h := h.2
                obtain ⟨I82, e82⟩ : ∃ z : MI, z = mI I68 65 (((I68 0 15) * (3 : Int32)) + (2 : Int32)).toNatClampNeg a2 := ⟨_, rfl⟩
                have h := h I82 e82
                rw [← e82] at hw
                refine lv_aload_n hx hb dX11_see_83 rfl (lv_at hl 0 rfl) ?_
                refine lv_dup hx hb dX11_see_84 rfl ?_
                refine g_get C hw f_RX11_86 xl_0 (xs_0 _ _) rfl dX11_see_85 ?_
                refine lv_iconst (v := 1) hx hb dX11_see_88 (by decide) ?_
                refine lv_iadd hx hb dX11_see_89 ?_
                refine g_putI C hw fp_RX11_86 xl_0 xs_0 (st_10_15 ad _) (Nat.le_of_ble_eq_true rfl) rfl rfl dX11_see_90 (fun H locs hw => ?_)
                obtain ⟨I90, e90⟩ : ∃ z : MI, z = mI I82 0 15 ((I82 0 15) + (1 : Int32)) := ⟨_, rfl⟩
                have h := h I90 e90
                rw [← e90] at hw
                refine lv_aload_n hx hb dX11_see_93 rfl (lv_at hl 0 rfl) ?_
                refine g_get C hw f_RX11_86 xl_0 (xs_0 _ _) rfl dX11_see_94 ?_
                exact g_iret C hw h dX11_see_97
              · have h := h.2 c37
                refine lv_bipush (v := -4) hx hb dX11_see_40 (by decide) ?_
                exact g_iret C hw h dX11_see_42
            · have h := h.2 c25
              refine lv_bipush (v := -2) hx hb dX11_see_28 (by decide) ?_
              exact g_iret C hw h dX11_see_30
theorem m_X11_see {l : Launch} {a0 : Int32} {a1 : Int32} {a2 : Int32} {Q : Int32 → MI → MJ → Prop} {I : MI} {J : MJ} (h : P_X11_see a0 a1 a2 I J Q) : Met l yX11_see (xws yX11_see cX11_see 4 (some .int)) rmX11_see (va_Pc [.ref (ad 0), .int a0, .int a1, .int a2] (gB (xS ad cy) 66 ad cy D (xF ad ts) I J)) (gQi (xS ad cy) 66 ad cy D (xF ad ts) Q) 0 0 (gA 66 ad) :=
  g_met (xF_ok ad ts) rfl (by decide) (Nat.le_of_ble_eq_true rfl) (fun p e s m below meth c ls C hw hl => w_X11_see C  h hw hl)
/-! BagPhrases.unsee()I -/
def P_X11_unsee (I : MI) (J : MJ) (Q : Int32 → MI → MJ → Prop) : Prop :=
  (∀ I7 : MI, I7 = mI I 0 15 (0 : Int32) → Q (I 0 15) I7 J)
abbrev rmX11_unsee : Room := { frames := 0, cells := 0, slots := 0, locals := 0 }
set_option maxHeartbeats 4000000 in
set_option maxRecDepth 100000 in
theorem w_X11_unsee {Q : Int32 → MI → MJ → Prop} (C : gC RX11 cX11_unsee 2 (some .int) 66 ad cy D (xF ad ts) p s m args meth c) {I : MI} {J : MJ} {H : Heap} {locs : List Loc} {ls : Array Slot} (h : P_X11_unsee I J Q) (hw : gH (xS ad cy) 66 ad D s I J H locs) (hl : lv_has ls 2 [(0, .ref (ad 0))]) : W p l e rmX11_unsee s m args below meth c H locs 0 0 (MQ below (gQi (xS ad cy) 66 ad cy D (xF ad ts) Q) args s 0 0 (gA 66 ad)) (F0 m 0 ls []) := by
  obtain ⟨hx, hb, hC⟩ := id C
  refine lv_aload_n hx hb dX11_unsee_0 rfl (lv_at hl 0 rfl) ?_
  refine g_get C hw f_RX11_86 xl_0 (xs_0 _ _) rfl dX11_unsee_1 ?_
  refine lv_istore_n (lv' := [(1, .int (I 0 15)), (0, .ref (ad 0))]) hx hb dX11_unsee_4 rfl hl (by decide) rfl (fun ls hl => ?_)
  refine lv_aload_n hx hb dX11_unsee_5 rfl (lv_at hl 1 rfl) ?_
  refine lv_iconst (v := 0) hx hb dX11_unsee_6 (by decide) ?_
  refine g_putI C hw fp_RX11_86 xl_0 xs_0 (st_10_15 ad _) (Nat.le_of_ble_eq_true rfl) rfl rfl dX11_unsee_7 (fun H locs hw => ?_)
  obtain ⟨I7, e7⟩ : ∃ z : MI, z = mI I 0 15 (0 : Int32) := ⟨_, rfl⟩
  have h := h I7 e7
  rw [← e7] at hw
  refine lv_iload_n hx hb dX11_unsee_10 rfl (lv_at hl 0 rfl) ?_
  exact g_iret C hw h dX11_unsee_11
theorem m_X11_unsee {l : Launch} {Q : Int32 → MI → MJ → Prop} {I : MI} {J : MJ} (h : P_X11_unsee I J Q) : Met l yX11_unsee (xws yX11_unsee cX11_unsee 2 (some .int)) rmX11_unsee (va_Pc [.ref (ad 0)] (gB (xS ad cy) 66 ad cy D (xF ad ts) I J)) (gQi (xS ad cy) 66 ad cy D (xF ad ts) Q) 0 0 (gA 66 ad) :=
  g_met (xF_ok ad ts) rfl (by decide) (Nat.le_of_ble_eq_true rfl) (fun p e s m below meth c ls C hw hl => w_X11_unsee C  h hw hl)
/-! BagPhrases$Phrases.foundHas(I)Z -/
def P_X6_foundHas_2 (Q : Int32 → MI → MJ → Prop) (kL2 : Int32 × Int32 × MI × MJ → Prop) : Int32 × Int32 × MI × MJ → Prop := fun z => match z with
  | (x1, x2, I, J) => (((I 39 10) ≤ x2 → Q (0 : Int32) I J) ∧ (¬ (I 39 10) ≤ x2 → vp_in x2 12 ∧ (((¬ (I 43 x2.toNatClampNeg) = x1 → kL2 (x1, (x2 + 1), I, J)) ∧ ((I 43 x2.toNatClampNeg) = x1 → Q (1 : Int32) I J)))))
def P_X6_foundHas (a0 : Int32) (I : MI) (J : MJ) (Q : Int32 → MI → MJ → Prop) : Prop :=
  lpx (P_X6_foundHas_2 Q) (a0, (0 : Int32), I, J)
abbrev rmX6_foundHas : Room := { frames := 0, cells := 0, slots := 0, locals := 0 }
set_option maxHeartbeats 4000000 in
set_option maxRecDepth 100000 in
theorem w_X6_foundHas_2 {Q : Int32 → MI → MJ → Prop} (C : gC RX6 cX6_foundHas 3 (some .boolean) 66 ad cy D (xF ad ts) p s m args meth c) {kL2 : Int32 × Int32 × MI × MJ → Prop} (hL2 : ∀ {x1 : Int32} {x2 : Int32} {I : MI} {J : MJ} {H : Heap} {locs : List Loc} {ls : Array Slot}, kL2 (x1, x2, I, J) → gH (xS ad cy) 66 ad D s I J H locs → lv_has ls 3 [(0, .ref (ad 39)), (1, .int x1), (2, .int x2)] → W p l e rmX6_foundHas s m args below meth c H locs 0 0 (MQ below (gQz (xS ad cy) 66 ad cy D (xF ad ts) Q) args s 0 0 (gA 66 ad)) (F0 m 2 ls [])) {x1 : Int32} {x2 : Int32} {I : MI} {J : MJ} {H : Heap} {locs : List Loc} {ls : Array Slot} (h : P_X6_foundHas_2 Q kL2 (x1, x2, I, J)) (hw : gH (xS ad cy) 66 ad D s I J H locs) (hl : lv_has ls 3 [(0, .ref (ad 39)), (1, .int x1), (2, .int x2)]) : W p l e rmX6_foundHas s m args below meth c H locs 0 0 (MQ below (gQz (xS ad cy) 66 ad cy D (xF ad ts) Q) args s 0 0 (gA 66 ad)) (F0 m 2 ls []) := by
  obtain ⟨hx, hb, hC⟩ := id C
  refine lv_iload_n hx hb dX6_foundHas_2 rfl (lv_at hl 2 rfl) ?_
  refine lv_aload_n hx hb dX6_foundHas_3 rfl (lv_at hl 0 rfl) ?_
  refine g_get C hw f_RX6_35 xl_39 (xs_39 _ _) rfl dX6_foundHas_4 ?_
  refine lv_icmp_ge (tgt := 28) hx hb dX6_foundHas_7 (by decide) (fun c7 => ?_) (fun c7 => ?_)
  · have h := h.1 c7
    refine lv_iconst (v := 0) hx hb dX6_foundHas_28 (by decide) ?_
    exact g_zret C hw (by decide) h dX6_foundHas_29
  · have h := h.2 c7
    refine lv_aload_n hx hb dX6_foundHas_10 rfl (lv_at hl 0 rfl) ?_
    refine g_get C hw f_RX6_25 xl_39 (xs_39 _ _) rfl dX6_foundHas_11 ?_
    refine lv_iload_n hx hb dX6_foundHas_14 rfl (lv_at hl 2 rfl) ?_
    refine g_iald C hw xl_43 xs_43 h.1 dX6_foundHas_15 ?_
    have h := h.2
    refine lv_iload_n hx hb dX6_foundHas_16 rfl (lv_at hl 1 rfl) ?_
    refine lv_icmp_ne (tgt := 22) hx hb dX6_foundHas_17 (by decide) (fun c17 => ?_) (fun c17 => ?_)
    · have h := h.1 c17
      refine lv_iinc (v := x2 + 1) (lv' := [(2, .int (x2 + 1)), (0, .ref (ad 39)), (1, .int x1)]) hx hb dX6_foundHas_22 hl (k := 2) rfl rfl (by decide) rfl (fun ls hl => ?_)
      refine lv_goto (tgt := 2) hx hb dX6_foundHas_25 (by decide) ?_
      exact hL2 h hw (lv_sub hl [1, 2, 0] rfl)
    · have h := h.2 c17
      refine lv_iconst (v := 1) hx hb dX6_foundHas_20 (by decide) ?_
      exact g_zret C hw (by decide) h dX6_foundHas_21
theorem wl_X6_foundHas_2 {Q : Int32 → MI → MJ → Prop} (C : gC RX6 cX6_foundHas 3 (some .boolean) 66 ad cy D (xF ad ts) p s m args meth c) {x1 : Int32} {x2 : Int32} {I : MI} {J : MJ} {H : Heap} {locs : List Loc} {ls : Array Slot} (h : lpx (P_X6_foundHas_2 Q) (x1, x2, I, J)) (hw : gH (xS ad cy) 66 ad D s I J H locs) (hl : lv_has ls 3 [(0, .ref (ad 39)), (1, .int x1), (2, .int x2)]) : W p l e rmX6_foundHas s m args below meth c H locs 0 0 (MQ below (gQz (xS ad cy) 66 ad cy D (xF ad ts) Q) args s 0 0 (gA 66 ad)) (F0 m 2 ls []) := by
  obtain ⟨n, h⟩ := h
  induction n generalizing x1 x2 I J H locs ls with
  | zero => exact False.elim h
  | succ n ih => exact w_X6_foundHas_2 C  (fun hk9 hw9 hl9 => ih hw9 hl9 hk9) h hw hl
set_option maxHeartbeats 4000000 in
set_option maxRecDepth 100000 in
theorem w_X6_foundHas {Q : Int32 → MI → MJ → Prop} (C : gC RX6 cX6_foundHas 3 (some .boolean) 66 ad cy D (xF ad ts) p s m args meth c) {a0 : Int32} {I : MI} {J : MJ} {H : Heap} {locs : List Loc} {ls : Array Slot} (h : P_X6_foundHas a0 I J Q) (hw : gH (xS ad cy) 66 ad D s I J H locs) (hl : lv_has ls 3 [(0, .ref (ad 39)), (1, .int a0)]) : W p l e rmX6_foundHas s m args below meth c H locs 0 0 (MQ below (gQz (xS ad cy) 66 ad cy D (xF ad ts) Q) args s 0 0 (gA 66 ad)) (F0 m 0 ls []) := by
  obtain ⟨hx, hb, hC⟩ := id C
  refine lv_iconst (v := 0) hx hb dX6_foundHas_0 (by decide) ?_
  refine lv_istore_n (lv' := [(2, .int (0 : Int32)), (0, .ref (ad 39)), (1, .int a0)]) hx hb dX6_foundHas_1 rfl hl (by decide) rfl (fun ls hl => ?_)
  exact wl_X6_foundHas_2 C  h hw (lv_sub hl [1, 2, 0] rfl)
theorem m_X6_foundHas {l : Launch} {a0 : Int32} {Q : Int32 → MI → MJ → Prop} {I : MI} {J : MJ} (h : P_X6_foundHas a0 I J Q) : Met l yX6_foundHas (xws yX6_foundHas cX6_foundHas 3 (some .boolean)) rmX6_foundHas (va_Pc [.ref (ad 39), .int a0] (gB (xS ad cy) 66 ad cy D (xF ad ts) I J)) (gQz (xS ad cy) 66 ad cy D (xF ad ts) Q) 0 0 (gA 66 ad) :=
  g_met (xF_ok ad ts) rfl (by decide) (Nat.le_of_ble_eq_true rfl) (fun p e s m below meth c ls C hw hl => w_X6_foundHas C  h hw hl)
/-! BagPhrases.isSo(II)Z -/
def P_X11_isSo (a0 : Int32) (a1 : Int32) (I : MI) (J : MJ) (Q : Int32 → MI → MJ → Prop) : Prop :=
  ((a0 = 0 → P_X6_foundHas a1 I J (fun r33 I33 J33 => Q r33 I33 J33)) ∧ (¬ a0 = 0 → ((a0 = 1 → ((¬ (I 39 10) = a1 → Q (0 : Int32) I J) ∧ ((I 39 10) = a1 → Q (1 : Int32) I J))) ∧ (¬ a0 = 1 → ((a0 = 2 → P_X6_foundWord (0 : Int32) I J (fun r59 I59 J59 => ((¬ r59 = a1 → Q (0 : Int32) I59 J59) ∧ (r59 = a1 → Q (1 : Int32) I59 J59)))) ∧ (¬ a0 = 2 → P_X6_foundWord ((I 39 10) - (1 : Int32)) I J (fun r85 I85 J85 => ((¬ r85 = a1 → Q (0 : Int32) I85 J85) ∧ (r85 = a1 → Q (1 : Int32) I85 J85)))))))))
abbrev rmX11_isSo : Room := { frames := 1, cells := 0, slots := 0, locals := 22 }
set_option maxHeartbeats 4000000 in
set_option maxRecDepth 100000 in
theorem w_X11_isSo {Q : Int32 → MI → MJ → Prop} (C : gC RX11 cX11_isSo 3 (some .boolean) 66 ad cy D (xF ad ts) p s m args meth c) {a0 : Int32} {a1 : Int32} {I : MI} {J : MJ} {H : Heap} {locs : List Loc} {ls : Array Slot} (h : P_X11_isSo a0 a1 I J Q) (hw : gH (xS ad cy) 66 ad D s I J H locs) (hl : lv_has ls 3 [(0, .ref (ad 0)), (1, .int a0), (2, .int a1)]) : W p l e rmX11_isSo s m args below meth c H locs 0 0 (MQ below (gQz (xS ad cy) 66 ad cy D (xF ad ts) Q) args s 0 0 (gA 66 ad)) (F0 m 0 ls []) := by
  obtain ⟨hx, hb, hC⟩ := id C
  refine lv_iload_n hx hb dX11_isSo_0 rfl (lv_at hl 1 rfl) ?_
  rcases Classical.em (a0 = 0) with c1_0 | c1_0
  · have h := h.1 c1_0
    refine lv_tableIn (off := 27) (tgt := 28) hx hb dX11_isSo_1 (by rw [c1_0]; decide) (by rw [c1_0]; decide) (by rw [c1_0]; rfl) (by decide) ?_
    refine lv_aload_n hx hb dX11_isSo_28 rfl (lv_at hl 0 rfl) ?_
    refine g_get C hw f_RX11_53 xl_0 (xs_0 _ _) rfl dX11_isSo_29 ?_
    refine lv_iload_n hx hb dX11_isSo_32 rfl (lv_at hl 2 rfl) ?_
    refine g_cz hw (g_rV [.int a1] [] C hw (m_X6_foundHas h) k_X6_foundHas q_RX11_338 xl_39 (xs_39 _ _) rfl rfl hl.1 rfl (Nat.le_of_ble_eq_true rfl) ⟨⟨rfl, rfl⟩, Nat.le_of_ble_eq_true rfl, Nat.le_of_ble_eq_true rfl⟩ ⟨Nat.zero_le _, Nat.zero_le _⟩ dX11_isSo_33) (fun r33 I33 J33 H locs z33 h hw => ?_)
    exact g_zret C hw z33 h dX11_isSo_36
  have h := h.2 c1_0
  rcases Classical.em (a0 = 1) with c1_1 | c1_1
  · have h := h.1 c1_1
    refine lv_tableIn (off := 36) (tgt := 37) hx hb dX11_isSo_1 (by rw [c1_1]; decide) (by rw [c1_1]; decide) (by rw [c1_1]; rfl) (by decide) ?_
    refine lv_aload_n hx hb dX11_isSo_37 rfl (lv_at hl 0 rfl) ?_
    refine g_get C hw f_RX11_53 xl_0 (xs_0 _ _) rfl dX11_isSo_38 ?_
    refine g_get C hw f_RX11_221 xl_39 (xs_39 _ _) rfl dX11_isSo_41 ?_
    refine lv_iload_n hx hb dX11_isSo_44 rfl (lv_at hl 2 rfl) ?_
    refine lv_icmp_ne (tgt := 52) hx hb dX11_isSo_45 (by decide) (fun c45 => ?_) (fun c45 => ?_)
    · have h := h.1 c45
      refine lv_iconst (v := 0) hx hb dX11_isSo_52 (by decide) ?_
      exact g_zret C hw (by decide) h dX11_isSo_53
    · have h := h.2 c45
      refine lv_iconst (v := 1) hx hb dX11_isSo_48 (by decide) ?_
      refine lv_goto (tgt := 53) hx hb dX11_isSo_49 (by decide) ?_
      exact g_zret C hw (by decide) h dX11_isSo_53
  have h := h.2 c1_1
  rcases Classical.em (a0 = 2) with c1_2 | c1_2
  · have h := h.1 c1_2
    refine lv_tableIn (off := 53) (tgt := 54) hx hb dX11_isSo_1 (by rw [c1_2]; decide) (by rw [c1_2]; decide) (by rw [c1_2]; rfl) (by decide) ?_
    refine lv_aload_n hx hb dX11_isSo_54 rfl (lv_at hl 0 rfl) ?_
    refine g_get C hw f_RX11_53 xl_0 (xs_0 _ _) rfl dX11_isSo_55 ?_
    refine lv_iconst (v := 0) hx hb dX11_isSo_58 (by decide) ?_
    refine g_ci hw (g_rV [.int (0 : Int32)] [] C hw (m_X6_foundWord h) k_X6_foundWord q_RX11_224 xl_39 (xs_39 _ _) rfl rfl hl.1 rfl (Nat.le_of_ble_eq_true rfl) ⟨⟨rfl, rfl⟩, Nat.le_of_ble_eq_true rfl, Nat.le_of_ble_eq_true rfl⟩ ⟨Nat.zero_le _, Nat.zero_le _⟩ dX11_isSo_59) (fun r59 I59 J59 H locs h hw => ?_)
    refine lv_iload_n hx hb dX11_isSo_62 rfl (lv_at hl 2 rfl) ?_
    refine lv_icmp_ne (tgt := 70) hx hb dX11_isSo_63 (by decide) (fun c63 => ?_) (fun c63 => ?_)
    · have h := h.1 c63
      refine lv_iconst (v := 0) hx hb dX11_isSo_70 (by decide) ?_
      exact g_zret C hw (by decide) h dX11_isSo_71
    · have h := h.2 c63
      refine lv_iconst (v := 1) hx hb dX11_isSo_66 (by decide) ?_
      refine lv_goto (tgt := 71) hx hb dX11_isSo_67 (by decide) ?_
      exact g_zret C hw (by decide) h dX11_isSo_71
  have h := h.2 c1_2
  refine lv_tableOut (tgt := 72) hx hb dX11_isSo_1 (by have hs0 := toInt_ne c1_0 (show (0 : Int32).toInt = 0 from by decide); have hs1 := toInt_ne c1_1 (show (1 : Int32).toInt = 1 from by decide); have hs2 := toInt_ne c1_2 (show (2 : Int32).toInt = 2 from by decide); omega) (by decide) ?_
  refine lv_aload_n hx hb dX11_isSo_72 rfl (lv_at hl 0 rfl) ?_
  refine g_get C hw f_RX11_53 xl_0 (xs_0 _ _) rfl dX11_isSo_73 ?_
  refine lv_aload_n hx hb dX11_isSo_76 rfl (lv_at hl 0 rfl) ?_
  refine g_get C hw f_RX11_53 xl_0 (xs_0 _ _) rfl dX11_isSo_77 ?_
  refine g_get C hw f_RX11_221 xl_39 (xs_39 _ _) rfl dX11_isSo_80 ?_
  refine lv_iconst (v := 1) hx hb dX11_isSo_83 (by decide) ?_
  refine lv_isub hx hb dX11_isSo_84 ?_
  refine g_ci hw (g_rV [.int ((I 39 10) - (1 : Int32))] [] C hw (m_X6_foundWord h) k_X6_foundWord q_RX11_224 xl_39 (xs_39 _ _) rfl rfl hl.1 rfl (Nat.le_of_ble_eq_true rfl) ⟨⟨rfl, rfl⟩, Nat.le_of_ble_eq_true rfl, Nat.le_of_ble_eq_true rfl⟩ ⟨Nat.zero_le _, Nat.zero_le _⟩ dX11_isSo_85) (fun r85 I85 J85 H locs h hw => ?_)
  refine lv_iload_n hx hb dX11_isSo_88 rfl (lv_at hl 2 rfl) ?_
  refine lv_icmp_ne (tgt := 96) hx hb dX11_isSo_89 (by decide) (fun c89 => ?_) (fun c89 => ?_)
  · have h := h.1 c89
    refine lv_iconst (v := 0) hx hb dX11_isSo_96 (by decide) ?_
    exact g_zret C hw (by decide) h dX11_isSo_97
  · have h := h.2 c89
    refine lv_iconst (v := 1) hx hb dX11_isSo_92 (by decide) ?_
    refine lv_goto (tgt := 97) hx hb dX11_isSo_93 (by decide) ?_
    exact g_zret C hw (by decide) h dX11_isSo_97
theorem m_X11_isSo {l : Launch} {a0 : Int32} {a1 : Int32} {Q : Int32 → MI → MJ → Prop} {I : MI} {J : MJ} (h : P_X11_isSo a0 a1 I J Q) : Met l yX11_isSo (xws yX11_isSo cX11_isSo 3 (some .boolean)) rmX11_isSo (va_Pc [.ref (ad 0), .int a0, .int a1] (gB (xS ad cy) 66 ad cy D (xF ad ts) I J)) (gQz (xS ad cy) 66 ad cy D (xF ad ts) Q) 0 0 (gA 66 ad) :=
  g_met (xF_ok ad ts) rfl (by decide) (Nat.le_of_ble_eq_true rfl) (fun p e s m below meth c ls C hw hl => w_X11_isSo C  h hw hl)
/-! BagPhrases.foundAgrees()Z -/
def P_X11_foundAgrees_29 (Q : Int32 → MI → MJ → Prop) (kL2 : Int32 × MI × MJ → Prop) (x1 : Int32) (s0 : Int32) (I : MI) (J : MJ) : Prop :=
  vp_in (x1 * (3 : Int32)) 18 ∧ (vp_in ((x1 * (3 : Int32)) + (1 : Int32)) 18 ∧ (P_X11_isSo (I 65 (x1 * (3 : Int32)).toNatClampNeg) (I 65 ((x1 * (3 : Int32)) + (1 : Int32)).toNatClampNeg) I J (fun r49 I49 J49 => ((r49 = s0 → kL2 ((x1 + 1), I49, J49)) ∧ (¬ r49 = s0 → Q (0 : Int32) I49 J49)))))
def P_X11_foundAgrees_2 (Q : Int32 → MI → MJ → Prop) (kL2 : Int32 × MI × MJ → Prop) : Int32 × MI × MJ → Prop := fun z => match z with
  | (x1, I, J) => (((I 0 15) ≤ x1 → Q (1 : Int32) I J) ∧ (¬ (I 0 15) ≤ x1 → vp_in ((x1 * (3 : Int32)) + (2 : Int32)) 18 ∧ (((¬ (I 65 ((x1 * (3 : Int32)) + (2 : Int32)).toNatClampNeg) = (1 : Int32) → P_X11_foundAgrees_29 Q kL2 x1 (0 : Int32) I J) ∧ ((I 65 ((x1 * (3 : Int32)) + (2 : Int32)).toNatClampNeg) = (1 : Int32) → P_X11_foundAgrees_29 Q kL2 x1 (1 : Int32) I J)))))
def P_X11_foundAgrees (I : MI) (J : MJ) (Q : Int32 → MI → MJ → Prop) : Prop :=
  lpx (P_X11_foundAgrees_2 Q) ((0 : Int32), I, J)
abbrev rmX11_foundAgrees : Room := { frames := 2, cells := 0, slots := 0, locals := 44 }
set_option maxHeartbeats 4000000 in
set_option maxRecDepth 100000 in
theorem w_X11_foundAgrees_29 {Q : Int32 → MI → MJ → Prop} (C : gC RX11 cX11_foundAgrees 3 (some .boolean) 66 ad cy D (xF ad ts) p s m args meth c) {kL2 : Int32 × MI × MJ → Prop} (hL2 : ∀ {x1 : Int32} {I : MI} {J : MJ} {H : Heap} {locs : List Loc} {ls : Array Slot}, kL2 (x1, I, J) → gH (xS ad cy) 66 ad D s I J H locs → lv_has ls 3 [(0, .ref (ad 0)), (1, .int x1)] → W p l e rmX11_foundAgrees s m args below meth c H locs 0 0 (MQ below (gQz (xS ad cy) 66 ad cy D (xF ad ts) Q) args s 0 0 (gA 66 ad)) (F0 m 2 ls [])) {x1 : Int32} {s0 : Int32} {I : MI} {J : MJ} {H : Heap} {locs : List Loc} {ls : Array Slot} (h : P_X11_foundAgrees_29 Q kL2 x1 s0 I J) (hw : gH (xS ad cy) 66 ad D s I J H locs) (hl : lv_has ls 3 [(0, .ref (ad 0)), (1, .int x1)]) : W p l e rmX11_foundAgrees s m args below meth c H locs 0 0 (MQ below (gQz (xS ad cy) 66 ad cy D (xF ad ts) Q) args s 0 0 (gA 66 ad)) (F0 m 29 ls [.int s0]) := by
  obtain ⟨hx, hb, hC⟩ := id C
  refine lv_istore_n (lv' := [(2, .int s0), (0, .ref (ad 0)), (1, .int x1)]) hx hb dX11_foundAgrees_29 rfl hl (by decide) rfl (fun ls hl => ?_)
  refine lv_aload_n hx hb dX11_foundAgrees_30 rfl (lv_at hl 1 rfl) ?_
  refine lv_aload_n hx hb dX11_foundAgrees_31 rfl (lv_at hl 1 rfl) ?_
  refine g_get C hw f_RX11_79 xl_0 (xs_0 _ _) rfl dX11_foundAgrees_32 ?_
  refine lv_iload_n hx hb dX11_foundAgrees_35 rfl (lv_at hl 2 rfl) ?_
  refine lv_iconst (v := 3) hx hb dX11_foundAgrees_36 (by decide) ?_
  refine lv_imul hx hb dX11_foundAgrees_37 ?_
  refine g_iald C hw xl_65 xs_65 h.1 dX11_foundAgrees_38 ?_
  have h := h.2
  refine lv_aload_n hx hb dX11_foundAgrees_39 rfl (lv_at hl 1 rfl) ?_
  refine g_get C hw f_RX11_79 xl_0 (xs_0 _ _) rfl dX11_foundAgrees_40 ?_
  refine lv_iload_n hx hb dX11_foundAgrees_43 rfl (lv_at hl 2 rfl) ?_
  refine lv_iconst (v := 3) hx hb dX11_foundAgrees_44 (by decide) ?_
  refine lv_imul hx hb dX11_foundAgrees_45 ?_
  refine lv_iconst (v := 1) hx hb dX11_foundAgrees_46 (by decide) ?_
  refine lv_iadd hx hb dX11_foundAgrees_47 ?_
  refine g_iald C hw xl_65 xs_65 h.1 dX11_foundAgrees_48 ?_
  have h := h.2
  refine g_cz hw (g_rV [.int (I 65 (x1 * (3 : Int32)).toNatClampNeg), .int (I 65 ((x1 * (3 : Int32)) + (1 : Int32)).toNatClampNeg)] [] C hw (m_X11_isSo h) k_X11_isSo q_RX11_335 xl_0 (xs_0 _ _) rfl rfl hl.1 rfl (Nat.le_of_ble_eq_true rfl) ⟨⟨rfl, rfl⟩, Nat.le_of_ble_eq_true rfl, Nat.le_of_ble_eq_true rfl⟩ ⟨Nat.zero_le _, Nat.zero_le _⟩ dX11_foundAgrees_49) (fun r49 I49 J49 H locs z49 h hw => ?_)
  refine lv_iload_n hx hb dX11_foundAgrees_52 rfl (lv_at hl 0 rfl) ?_
  refine lv_icmp_eq (tgt := 58) hx hb dX11_foundAgrees_53 (by decide) (fun c53 => ?_) (fun c53 => ?_)
  · have h := h.1 c53
    refine lv_iinc (v := x1 + 1) (lv' := [(1, .int (x1 + 1)), (2, .int s0), (0, .ref (ad 0))]) hx hb dX11_foundAgrees_58 hl (k := 2) rfl rfl (by decide) rfl (fun ls hl => ?_)
    refine lv_goto (tgt := 2) hx hb dX11_foundAgrees_61 (by decide) ?_
    exact hL2 h hw (lv_sub hl [2, 0] rfl)
  · have h := h.2 c53
    refine lv_iconst (v := 0) hx hb dX11_foundAgrees_56 (by decide) ?_
    exact g_zret C hw (by decide) h dX11_foundAgrees_57
set_option maxHeartbeats 4000000 in
set_option maxRecDepth 100000 in
theorem w_X11_foundAgrees_2 {Q : Int32 → MI → MJ → Prop} (C : gC RX11 cX11_foundAgrees 3 (some .boolean) 66 ad cy D (xF ad ts) p s m args meth c) {kL2 : Int32 × MI × MJ → Prop} (hL2 : ∀ {x1 : Int32} {I : MI} {J : MJ} {H : Heap} {locs : List Loc} {ls : Array Slot}, kL2 (x1, I, J) → gH (xS ad cy) 66 ad D s I J H locs → lv_has ls 3 [(0, .ref (ad 0)), (1, .int x1)] → W p l e rmX11_foundAgrees s m args below meth c H locs 0 0 (MQ below (gQz (xS ad cy) 66 ad cy D (xF ad ts) Q) args s 0 0 (gA 66 ad)) (F0 m 2 ls [])) {x1 : Int32} {I : MI} {J : MJ} {H : Heap} {locs : List Loc} {ls : Array Slot} (h : P_X11_foundAgrees_2 Q kL2 (x1, I, J)) (hw : gH (xS ad cy) 66 ad D s I J H locs) (hl : lv_has ls 3 [(0, .ref (ad 0)), (1, .int x1)]) : W p l e rmX11_foundAgrees s m args below meth c H locs 0 0 (MQ below (gQz (xS ad cy) 66 ad cy D (xF ad ts) Q) args s 0 0 (gA 66 ad)) (F0 m 2 ls []) := by
  obtain ⟨hx, hb, hC⟩ := id C
  refine lv_iload_n hx hb dX11_foundAgrees_2 rfl (lv_at hl 1 rfl) ?_
  refine lv_aload_n hx hb dX11_foundAgrees_3 rfl (lv_at hl 0 rfl) ?_
  refine g_get C hw f_RX11_86 xl_0 (xs_0 _ _) rfl dX11_foundAgrees_4 ?_
  refine lv_icmp_ge (tgt := 64) hx hb dX11_foundAgrees_7 (by decide) (fun c7 => ?_) (fun c7 => ?_)
  · have h := h.1 c7
    refine lv_iconst (v := 1) hx hb dX11_foundAgrees_64 (by decide) ?_
    exact g_zret C hw (by decide) h dX11_foundAgrees_65
  · have h := h.2 c7
    refine lv_aload_n hx hb dX11_foundAgrees_10 rfl (lv_at hl 0 rfl) ?_
    refine g_get C hw f_RX11_79 xl_0 (xs_0 _ _) rfl dX11_foundAgrees_11 ?_
    refine lv_iload_n hx hb dX11_foundAgrees_14 rfl (lv_at hl 1 rfl) ?_
    refine lv_iconst (v := 3) hx hb dX11_foundAgrees_15 (by decide) ?_
    refine lv_imul hx hb dX11_foundAgrees_16 ?_
    refine lv_iconst (v := 2) hx hb dX11_foundAgrees_17 (by decide) ?_
    refine lv_iadd hx hb dX11_foundAgrees_18 ?_
    refine g_iald C hw xl_65 xs_65 h.1 dX11_foundAgrees_19 ?_
    have h := h.2
    refine lv_iconst (v := 1) hx hb dX11_foundAgrees_20 (by decide) ?_
    refine lv_icmp_ne (tgt := 28) hx hb dX11_foundAgrees_21 (by decide) (fun c21 => ?_) (fun c21 => ?_)
    · have h := h.1 c21
      refine lv_iconst (v := 0) hx hb dX11_foundAgrees_28 (by decide) ?_
      exact w_X11_foundAgrees_29 C hL2 h hw (lv_sub hl [0, 1] rfl)
    · have h := h.2 c21
      refine lv_iconst (v := 1) hx hb dX11_foundAgrees_24 (by decide) ?_
      refine lv_goto (tgt := 29) hx hb dX11_foundAgrees_25 (by decide) ?_
      exact w_X11_foundAgrees_29 C hL2 h hw (lv_sub hl [0, 1] rfl)
theorem wl_X11_foundAgrees_2 {Q : Int32 → MI → MJ → Prop} (C : gC RX11 cX11_foundAgrees 3 (some .boolean) 66 ad cy D (xF ad ts) p s m args meth c) {x1 : Int32} {I : MI} {J : MJ} {H : Heap} {locs : List Loc} {ls : Array Slot} (h : lpx (P_X11_foundAgrees_2 Q) (x1, I, J)) (hw : gH (xS ad cy) 66 ad D s I J H locs) (hl : lv_has ls 3 [(0, .ref (ad 0)), (1, .int x1)]) : W p l e rmX11_foundAgrees s m args below meth c H locs 0 0 (MQ below (gQz (xS ad cy) 66 ad cy D (xF ad ts) Q) args s 0 0 (gA 66 ad)) (F0 m 2 ls []) := by
  obtain ⟨n, h⟩ := h
  induction n generalizing x1 I J H locs ls with
  | zero => exact False.elim h
  | succ n ih => exact w_X11_foundAgrees_2 C  (fun hk9 hw9 hl9 => ih hw9 hl9 hk9) h hw hl
set_option maxHeartbeats 4000000 in
set_option maxRecDepth 100000 in
theorem w_X11_foundAgrees {Q : Int32 → MI → MJ → Prop} (C : gC RX11 cX11_foundAgrees 3 (some .boolean) 66 ad cy D (xF ad ts) p s m args meth c) {I : MI} {J : MJ} {H : Heap} {locs : List Loc} {ls : Array Slot} (h : P_X11_foundAgrees I J Q) (hw : gH (xS ad cy) 66 ad D s I J H locs) (hl : lv_has ls 3 [(0, .ref (ad 0))]) : W p l e rmX11_foundAgrees s m args below meth c H locs 0 0 (MQ below (gQz (xS ad cy) 66 ad cy D (xF ad ts) Q) args s 0 0 (gA 66 ad)) (F0 m 0 ls []) := by
  obtain ⟨hx, hb, hC⟩ := id C
  refine lv_iconst (v := 0) hx hb dX11_foundAgrees_0 (by decide) ?_
  refine lv_istore_n (lv' := [(1, .int (0 : Int32)), (0, .ref (ad 0))]) hx hb dX11_foundAgrees_1 rfl hl (by decide) rfl (fun ls hl => ?_)
  exact wl_X11_foundAgrees_2 C  h hw (lv_sub hl [1, 0] rfl)
theorem m_X11_foundAgrees {l : Launch} {Q : Int32 → MI → MJ → Prop} {I : MI} {J : MJ} (h : P_X11_foundAgrees I J Q) : Met l yX11_foundAgrees (xws yX11_foundAgrees cX11_foundAgrees 3 (some .boolean)) rmX11_foundAgrees (va_Pc [.ref (ad 0)] (gB (xS ad cy) 66 ad cy D (xF ad ts) I J)) (gQz (xS ad cy) 66 ad cy D (xF ad ts) Q) 0 0 (gA 66 ad) :=
  g_met (xF_ok ad ts) rfl (by decide) (Nat.le_of_ble_eq_true rfl) (fun p e s m below meth c ls C hw hl => w_X11_foundAgrees C  h hw hl)
end
