section
variable {p : Program} {l : Launch} {e : Env} {s : State} {m : MethodId} {args : Array Value} {below : List Frame} {meth : Method} {c : Code} {ad : Nat → Nat} {cy : Nat → ClassId} {D : va_G} {ts : Nat → Nat}
/-! BagPhrases$Lexicon.amount(II)I -/
def P_X5_amount (k : Nat) (a0 : Int32) (a1 : Int32) (I : MI) (J : MJ) (Q : Int32 → MI → MJ → Prop) : Prop :=
  vp_in a0 10 ∧ (Q ((((J (k + 3) a0.toNatClampNeg) >>> (((5 : Int32) * a1).toInt64 &&& 63)).toInt32) &&& (15 : Int32)) I J)
abbrev rmX5_amount : Room := { frames := 0, cells := 0, slots := 0, locals := 0 }
set_option maxHeartbeats 4000000 in
set_option maxRecDepth 100000 in
theorem w_X5_amount {Q : Int32 → MI → MJ → Prop} (C : gC RX5 cX5_amount 3 (some .int) 66 ad cy D (xF ad ts) p s m args meth c) {k : Nat} (hk : isLex k) {a0 : Int32} {a1 : Int32} {I : MI} {J : MJ} {H : Heap} {locs : List Loc} {ls : Array Slot} (h : P_X5_amount k a0 a1 I J Q) (hw : gH (xS ad cy) 66 ad D s I J H locs) (hl : lv_has ls 3 [(0, .ref (ad k)), (1, .int a0), (2, .int a1)]) : W p l e rmX5_amount s m args below meth c H locs 0 0 (MQ below (gQi (xS ad cy) 66 ad cy D (xF ad ts) Q) args s 0 0 (gA 66 ad)) (F0 m 0 ls []) := by
  obtain ⟨hx, hb, hC⟩ := id C
  refine lv_aload_n hx hb dX5_amount_0 rfl (lv_at hl 0 rfl) ?_
  refine g_get C hw f_RX5_18 (xl_Lex0 hk) ((xs_Lex0 hk) _ _) rfl dX5_amount_1 ?_
  refine lv_iload_n hx hb dX5_amount_4 rfl (lv_at hl 1 rfl) ?_
  refine g_lald C hw (xl_Lex3 hk) (xs_Lex3 hk) h.1 dX5_amount_5 ?_
  have h := h.2
  refine lv_iconst (v := 5) hx hb dX5_amount_6 (by decide) ?_
  refine lv_iload_n hx hb dX5_amount_7 rfl (lv_at hl 2 rfl) ?_
  refine lv_imul hx hb dX5_amount_8 ?_
  refine lv_lshr hx hb dX5_amount_9 rfl ?_
  refine lv_l2i hx hb dX5_amount_10 rfl ?_
  refine lv_bipush (v := 15) hx hb dX5_amount_11 (by decide) ?_
  refine lv_iand hx hb dX5_amount_13 ?_
  exact g_iret C hw h dX5_amount_14
theorem m_X5_amount {l : Launch} {k : Nat} (hk : isLex k) {a0 : Int32} {a1 : Int32} {Q : Int32 → MI → MJ → Prop} {I : MI} {J : MJ} (h : P_X5_amount k a0 a1 I J Q) : Met l yX5_amount (xws yX5_amount cX5_amount 3 (some .int)) rmX5_amount (va_Pc [.ref (ad k), .int a0, .int a1] (gB (xS ad cy) 66 ad cy D (xF ad ts) I J)) (gQi (xS ad cy) 66 ad cy D (xF ad ts) Q) 0 0 (gA 66 ad) :=
  g_met (xF_ok ad ts) rfl (by decide) (Nat.le_of_ble_eq_true rfl) (fun p e s m below meth c ls C hw hl => w_X5_amount C hk h hw hl)
/-! BagPhrases$Lattice.listSteps(J)V -/
def P_X4_listSteps_113 (Q : MI → MJ → Prop) (kL7 : Int64 × Int32 × MI × MJ → Prop) (x1 : Int64) (x3 : Int32) (I : MI) (J : MJ) : Prop :=
  kL7 (x1, (x3 + 1), I, J)
def P_X4_listSteps_69 (Q : MI → MJ → Prop) (kL7 : Int64 × Int32 × MI × MJ → Prop) (kL69 : Int64 × Int32 × Int32 × Int32 × MI × MJ → Prop) : Int64 × Int32 × Int32 × Int32 × MI × MJ → Prop := fun z => match z with
  | (x1, x3, x4, x5, I, J) => (((8 : Int32) ≤ x5 → vp_in x3 10 ∧ (∀ I112 : MI, I112 = mI I 52 x3.toNatClampNeg x4 → P_X4_listSteps_113 Q kL7 x1 x3 I112 J)) ∧ (¬ (8 : Int32) ≤ x5 → P_X5_amount 12 x3 x5 I J (fun r85 I85 J85 => vp_in x5 8 ∧ (kL69 (x1, x3, (x4 + (r85 * (I85 51 x5.toNatClampNeg))), (x5 + 1), I85, J85)))))
def P_X4_listSteps_7 (Q : MI → MJ → Prop) (kL7 : Int64 × Int32 × MI × MJ → Prop) : Int64 × Int32 × MI × MJ → Prop := fun z => match z with
  | (x1, x3, I, J) => (((I 12 4) ≤ x3 → Q I J) ∧ (¬ (I 12 4) ≤ x3 → ((¬ (((I 17 5) >>> (x3 &&& 31)) &&& (1 : Int32)) = 0 → P_X4_listSteps_113 Q kL7 x1 x3 I J) ∧ ((((I 17 5) >>> (x3 &&& 31)) &&& (1 : Int32)) = 0 → vp_in x3 10 ∧ (P_X11_holds x1 (J 15 x3.toNatClampNeg) I J (fun r42 I42 J42 => ((¬ r42 = 0 → (∀ I60 : MI, I60 = mI I42 46 10 ((I42 46 10) ||| ((1 : Int32) <<< (x3 &&& 31))) → lpx (P_X4_listSteps_69 Q kL7) (x1, x3, (0 : Int32), (0 : Int32), I60, J42))) ∧ (r42 = 0 → P_X4_listSteps_113 Q kL7 x1 x3 I42 J42))))))))
def P_X4_listSteps (a0 : Int64) (I : MI) (J : MJ) (Q : MI → MJ → Prop) : Prop :=
  (∀ I2 : MI, I2 = mI I 46 10 (0 : Int32) → lpx (P_X4_listSteps_7 Q) (a0, (0 : Int32), I2, J))
abbrev rmX4_listSteps : Room := { frames := 1, cells := 0, slots := 0, locals := 23 }
set_option maxHeartbeats 4000000 in
set_option maxRecDepth 100000 in
theorem w_X4_listSteps_113 {Q : MI → MJ → Prop} (C : gC RX4 cX4_listSteps 6 none 66 ad cy D (xF ad ts) p s m args meth c) {kL7 : Int64 × Int32 × MI × MJ → Prop} (hL7 : ∀ {x1 : Int64} {x3 : Int32} {I : MI} {J : MJ} {H : Heap} {locs : List Loc} {ls : Array Slot}, kL7 (x1, x3, I, J) → gH (xS ad cy) 66 ad D s I J H locs → lv_has ls 6 [(0, .ref (ad 46)), (1, .long x1), (3, .int x3)] → W p l e rmX4_listSteps s m args below meth c H locs 0 0 (MQ below (gQv (xS ad cy) 66 ad cy D (xF ad ts) Q) args s 0 0 (gA 66 ad)) (F0 m 7 ls [])) {x1 : Int64} {x3 : Int32} {I : MI} {J : MJ} {H : Heap} {locs : List Loc} {ls : Array Slot} (h : P_X4_listSteps_113 Q kL7 x1 x3 I J) (hw : gH (xS ad cy) 66 ad D s I J H locs) (hl : lv_has ls 6 [(0, .ref (ad 46)), (1, .long x1), (3, .int x3)]) : W p l e rmX4_listSteps s m args below meth c H locs 0 0 (MQ below (gQv (xS ad cy) 66 ad cy D (xF ad ts) Q) args s 0 0 (gA 66 ad)) (F0 m 113 ls []) := by
  obtain ⟨hx, hb, hC⟩ := id C
  refine lv_iinc (v := x3 + 1) (lv' := [(3, .int (x3 + 1)), (0, .ref (ad 46)), (1, .long x1)]) hx hb dX4_listSteps_113 hl (k := 2) rfl rfl (by decide) rfl (fun ls hl => ?_)
  refine lv_goto (tgt := 7) hx hb dX4_listSteps_116 (by decide) ?_
  exact hL7 h hw (lv_sub hl [1, 2, 0] rfl)
set_option maxHeartbeats 4000000 in
set_option maxRecDepth 100000 in
theorem w_X4_listSteps_69 {Q : MI → MJ → Prop} (C : gC RX4 cX4_listSteps 6 none 66 ad cy D (xF ad ts) p s m args meth c) {kL7 : Int64 × Int32 × MI × MJ → Prop} (hL7 : ∀ {x1 : Int64} {x3 : Int32} {I : MI} {J : MJ} {H : Heap} {locs : List Loc} {ls : Array Slot}, kL7 (x1, x3, I, J) → gH (xS ad cy) 66 ad D s I J H locs → lv_has ls 6 [(0, .ref (ad 46)), (1, .long x1), (3, .int x3)] → W p l e rmX4_listSteps s m args below meth c H locs 0 0 (MQ below (gQv (xS ad cy) 66 ad cy D (xF ad ts) Q) args s 0 0 (gA 66 ad)) (F0 m 7 ls [])) {kL69 : Int64 × Int32 × Int32 × Int32 × MI × MJ → Prop} (hL69 : ∀ {x1 : Int64} {x3 : Int32} {x4 : Int32} {x5 : Int32} {I : MI} {J : MJ} {H : Heap} {locs : List Loc} {ls : Array Slot}, kL69 (x1, x3, x4, x5, I, J) → gH (xS ad cy) 66 ad D s I J H locs → lv_has ls 6 [(0, .ref (ad 46)), (1, .long x1), (3, .int x3), (4, .int x4), (5, .int x5)] → W p l e rmX4_listSteps s m args below meth c H locs 0 0 (MQ below (gQv (xS ad cy) 66 ad cy D (xF ad ts) Q) args s 0 0 (gA 66 ad)) (F0 m 69 ls [])) {x1 : Int64} {x3 : Int32} {x4 : Int32} {x5 : Int32} {I : MI} {J : MJ} {H : Heap} {locs : List Loc} {ls : Array Slot} (h : P_X4_listSteps_69 Q kL7 kL69 (x1, x3, x4, x5, I, J)) (hw : gH (xS ad cy) 66 ad D s I J H locs) (hl : lv_has ls 6 [(0, .ref (ad 46)), (1, .long x1), (3, .int x3), (4, .int x4), (5, .int x5)]) : W p l e rmX4_listSteps s m args below meth c H locs 0 0 (MQ below (gQv (xS ad cy) 66 ad cy D (xF ad ts) Q) args s 0 0 (gA 66 ad)) (F0 m 69 ls []) := by
  obtain ⟨hx, hb, hC⟩ := id C
  refine lv_iload hx hb dX4_listSteps_69 (lv_at hl 4 rfl) ?_
  refine lv_bipush (v := 8) hx hb dX4_listSteps_71 (by decide) ?_
  refine lv_icmp_ge (tgt := 105) hx hb dX4_listSteps_73 (by decide) (fun c73 => ?_) (fun c73 => ?_)
  · have h := h.1 c73
    refine lv_aload_n hx hb dX4_listSteps_105 rfl (lv_at hl 0 rfl) ?_
    refine g_get C hw f_RX4_28 xl_46 (xs_46 _ _) rfl dX4_listSteps_106 ?_
    refine lv_iload_n hx hb dX4_listSteps_109 rfl (lv_at hl 2 rfl) ?_
    refine lv_iload hx hb dX4_listSteps_110 (lv_at hl 3 rfl) ?_
    refine g_iast C hw xl_52 xs_52 h.1 dX4_listSteps_112 (fun H locs hw => ?_)
    have h := h.2
    obtain ⟨I112, e112⟩ : ∃ z : MI, z = mI I 52 x3.toNatClampNeg x4 := ⟨_, rfl⟩
    have h := h I112 e112
    rw [← e112] at hw
    exact w_X4_listSteps_113 C hL7 h hw (lv_sub hl [0, 1, 2] rfl)
  · have h := h.2 c73
    refine lv_iload hx hb dX4_listSteps_76 (lv_at hl 3 rfl) ?_
    refine lv_aload_n hx hb dX4_listSteps_78 rfl (lv_at hl 0 rfl) ?_
    refine g_get C hw f_RX4_44 xl_46 (xs_46 _ _) rfl dX4_listSteps_79 ?_
    refine lv_iload_n hx hb dX4_listSteps_82 rfl (lv_at hl 2 rfl) ?_
    refine lv_iload hx hb dX4_listSteps_83 (lv_at hl 4 rfl) ?_
    refine g_ci hw (g_rV [.int x3, .int x5] [.int x4] C hw (m_X5_amount isLex_12 h) k_X5_amount q_RX4_85 xl_12 (xs_12 _ _) rfl rfl hl.1 rfl (Nat.le_of_ble_eq_true rfl) ⟨⟨rfl, rfl⟩, Nat.le_of_ble_eq_true rfl, Nat.le_of_ble_eq_true rfl⟩ ⟨Nat.zero_le _, Nat.zero_le _⟩ dX4_listSteps_85) (fun r85 I85 J85 H locs h hw => ?_)
    refine lv_aload_n hx hb dX4_listSteps_88 rfl (lv_at hl 0 rfl) ?_
    refine g_get C hw f_RX4_25 xl_46 (xs_46 _ _) rfl dX4_listSteps_89 ?_
    refine lv_iload hx hb dX4_listSteps_92 (lv_at hl 4 rfl) ?_
    refine g_iald C hw xl_51 xs_51 h.1 dX4_listSteps_94 ?_
    have h := h.2
    refine lv_imul hx hb dX4_listSteps_95 ?_
    refine lv_iadd hx hb dX4_listSteps_96 ?_
    refine lv_istore (lv' := [(4, .int (x4 + (r85 * (I85 51 x5.toNatClampNeg)))), (0, .ref (ad 46)), (1, .long x1), (3, .int x3), (5, .int x5)]) hx hb dX4_listSteps_97 hl (by decide) rfl (fun ls hl => ?_)
    refine lv_iinc (v := x5 + 1) (lv' := [(5, .int (x5 + 1)), (4, .int (x4 + (r85 * (I85 51 x5.toNatClampNeg)))), (0, .ref (ad 46)), (1, .long x1), (3, .int x3)]) hx hb dX4_listSteps_99 hl (k := 4) rfl rfl (by decide) rfl (fun ls hl => ?_)
    refine lv_goto (tgt := 69) hx hb dX4_listSteps_102 (by decide) ?_
    exact hL69 h hw (lv_sub hl [2, 3, 4, 1, 0] rfl)
theorem wl_X4_listSteps_69 {Q : MI → MJ → Prop} (C : gC RX4 cX4_listSteps 6 none 66 ad cy D (xF ad ts) p s m args meth c) {kL7 : Int64 × Int32 × MI × MJ → Prop} (hL7 : ∀ {x1 : Int64} {x3 : Int32} {I : MI} {J : MJ} {H : Heap} {locs : List Loc} {ls : Array Slot}, kL7 (x1, x3, I, J) → gH (xS ad cy) 66 ad D s I J H locs → lv_has ls 6 [(0, .ref (ad 46)), (1, .long x1), (3, .int x3)] → W p l e rmX4_listSteps s m args below meth c H locs 0 0 (MQ below (gQv (xS ad cy) 66 ad cy D (xF ad ts) Q) args s 0 0 (gA 66 ad)) (F0 m 7 ls [])) {x1 : Int64} {x3 : Int32} {x4 : Int32} {x5 : Int32} {I : MI} {J : MJ} {H : Heap} {locs : List Loc} {ls : Array Slot} (h : lpx (P_X4_listSteps_69 Q kL7) (x1, x3, x4, x5, I, J)) (hw : gH (xS ad cy) 66 ad D s I J H locs) (hl : lv_has ls 6 [(0, .ref (ad 46)), (1, .long x1), (3, .int x3), (4, .int x4), (5, .int x5)]) : W p l e rmX4_listSteps s m args below meth c H locs 0 0 (MQ below (gQv (xS ad cy) 66 ad cy D (xF ad ts) Q) args s 0 0 (gA 66 ad)) (F0 m 69 ls []) := by
  obtain ⟨n, h⟩ := h
  induction n generalizing x1 x3 x4 x5 I J H locs ls with
  | zero => exact False.elim h
  | succ n ih => exact w_X4_listSteps_69 C hL7 (fun hk9 hw9 hl9 => ih hw9 hl9 hk9) h hw hl
set_option maxHeartbeats 4000000 in
set_option maxRecDepth 100000 in
theorem w_X4_listSteps_7 {Q : MI → MJ → Prop} (C : gC RX4 cX4_listSteps 6 none 66 ad cy D (xF ad ts) p s m args meth c) {kL7 : Int64 × Int32 × MI × MJ → Prop} (hL7 : ∀ {x1 : Int64} {x3 : Int32} {I : MI} {J : MJ} {H : Heap} {locs : List Loc} {ls : Array Slot}, kL7 (x1, x3, I, J) → gH (xS ad cy) 66 ad D s I J H locs → lv_has ls 6 [(0, .ref (ad 46)), (1, .long x1), (3, .int x3)] → W p l e rmX4_listSteps s m args below meth c H locs 0 0 (MQ below (gQv (xS ad cy) 66 ad cy D (xF ad ts) Q) args s 0 0 (gA 66 ad)) (F0 m 7 ls [])) {x1 : Int64} {x3 : Int32} {I : MI} {J : MJ} {H : Heap} {locs : List Loc} {ls : Array Slot} (h : P_X4_listSteps_7 Q kL7 (x1, x3, I, J)) (hw : gH (xS ad cy) 66 ad D s I J H locs) (hl : lv_has ls 6 [(0, .ref (ad 46)), (1, .long x1), (3, .int x3)]) : W p l e rmX4_listSteps s m args below meth c H locs 0 0 (MQ below (gQv (xS ad cy) 66 ad cy D (xF ad ts) Q) args s 0 0 (gA 66 ad)) (F0 m 7 ls []) := by
  obtain ⟨hx, hb, hC⟩ := id C
  refine lv_iload_n hx hb dX4_listSteps_7 rfl (lv_at hl 2 rfl) ?_
  refine lv_aload_n hx hb dX4_listSteps_8 rfl (lv_at hl 0 rfl) ?_
  refine g_get C hw f_RX4_44 xl_46 (xs_46 _ _) rfl dX4_listSteps_9 ?_
  refine g_get C hw f_RX4_72 xl_12 (xs_12 _ _) rfl dX4_listSteps_12 ?_
  refine lv_icmp_ge (tgt := 119) hx hb dX4_listSteps_15 (by decide) (fun c15 => ?_) (fun c15 => ?_)
  · have h := h.1 c15
    exact g_vret C hw h dX4_listSteps_119
  · have h := h.2 c15
    refine lv_aload_n hx hb dX4_listSteps_18 rfl (lv_at hl 0 rfl) ?_
    refine g_get C hw f_RX4_48 xl_46 (xs_46 _ _) rfl dX4_listSteps_19 ?_
    refine g_get C hw f_RX4_77 xl_17 (xs_17 _ _) rfl dX4_listSteps_22 ?_
    refine lv_iload_n hx hb dX4_listSteps_25 rfl (lv_at hl 2 rfl) ?_
    refine lv_ishr hx hb dX4_listSteps_26 ?_
    refine lv_iconst (v := 1) hx hb dX4_listSteps_27 (by decide) ?_
    refine lv_iand hx hb dX4_listSteps_28 ?_
    refine lv_if_ne (tgt := 113) hx hb dX4_listSteps_29 (by decide) (fun c29 => ?_) (fun c29 => ?_)
    · have h := h.1 c29
      exact w_X4_listSteps_113 C hL7 h hw (lv_sub hl [0, 1, 2] rfl)
    · have h := h.2 c29
      refine lv_lload_n hx hb dX4_listSteps_32 rfl (lv_at hl 1 rfl) ?_
      refine lv_aload_n hx hb dX4_listSteps_33 rfl (lv_at hl 0 rfl) ?_
      refine g_get C hw f_RX4_44 xl_46 (xs_46 _ _) rfl dX4_listSteps_34 ?_
      refine g_get C hw f_RX4_80 xl_12 (xs_12 _ _) rfl dX4_listSteps_37 ?_
      refine lv_iload_n hx hb dX4_listSteps_40 rfl (lv_at hl 2 rfl) ?_
      refine g_lald C hw xl_15 xs_15 h.1 dX4_listSteps_41 ?_
      have h := h.2
      refine g_cz hw (g_rN [.long x1, .long (J 15 x3.toNatClampNeg)] [] C hw (m_X11_holds h) k_X11_holds hC.2.2.2.2.2.2.1.1.2.2.2.2 rfl hl.1 rfl (Nat.le_of_ble_eq_true rfl) ⟨⟨rfl, rfl⟩, Nat.le_of_ble_eq_true rfl, Nat.le_of_ble_eq_true rfl⟩ ⟨Nat.zero_le _, Nat.zero_le _⟩ dX4_listSteps_42) (fun r42 I42 J42 H locs z42 h hw => ?_)
      refine lv_if_ne (tgt := 51) hx hb dX4_listSteps_45 (by decide) (fun c45 => ?_) (fun c45 => ?_)
      · have h := h.1 c45
        refine lv_aload_n hx hb dX4_listSteps_51 rfl (lv_at hl 0 rfl) ?_
        refine lv_dup hx hb dX4_listSteps_52 rfl ?_
        refine g_get C hw f_RX4_38 xl_46 (xs_46 _ _) rfl dX4_listSteps_53 ?_
        refine lv_iconst (v := 1) hx hb dX4_listSteps_56 (by decide) ?_
        refine lv_iload_n hx hb dX4_listSteps_57 rfl (lv_at hl 2 rfl) ?_
        refine lv_ishl hx hb dX4_listSteps_58 ?_
        refine lv_ior hx hb dX4_listSteps_59 ?_
        refine g_putI C hw fp_RX4_38 xl_46 xs_46 (st_4_10 ad _) (Nat.le_of_ble_eq_true rfl) rfl rfl dX4_listSteps_60 (fun H locs hw => ?_)
        obtain ⟨I60, e60⟩ : ∃ z : MI, z = mI I42 46 10 ((I42 46 10) ||| ((1 : Int32) <<< (x3 &&& 31))) := ⟨_, rfl⟩
        have h := h I60 e60
        rw [← e60] at hw
        refine lv_iconst (v := 0) hx hb dX4_listSteps_63 (by decide) ?_
        refine lv_istore (lv' := [(4, .int (0 : Int32)), (0, .ref (ad 46)), (1, .long x1), (3, .int x3)]) hx hb dX4_listSteps_64 hl (by decide) rfl (fun ls hl => ?_)
        refine lv_iconst (v := 0) hx hb dX4_listSteps_66 (by decide) ?_
        refine lv_istore (lv' := [(5, .int (0 : Int32)), (4, .int (0 : Int32)), (0, .ref (ad 46)), (1, .long x1), (3, .int x3)]) hx hb dX4_listSteps_67 hl (by decide) rfl (fun ls hl => ?_)
        exact wl_X4_listSteps_69 C hL7 h hw (lv_sub hl [2, 3, 4, 1, 0] rfl)
      · have h := h.2 c45
        refine lv_goto (tgt := 113) hx hb dX4_listSteps_48 (by decide) ?_
        exact w_X4_listSteps_113 C hL7 h hw (lv_sub hl [0, 1, 2] rfl)
theorem wl_X4_listSteps_7 {Q : MI → MJ → Prop} (C : gC RX4 cX4_listSteps 6 none 66 ad cy D (xF ad ts) p s m args meth c) {x1 : Int64} {x3 : Int32} {I : MI} {J : MJ} {H : Heap} {locs : List Loc} {ls : Array Slot} (h : lpx (P_X4_listSteps_7 Q) (x1, x3, I, J)) (hw : gH (xS ad cy) 66 ad D s I J H locs) (hl : lv_has ls 6 [(0, .ref (ad 46)), (1, .long x1), (3, .int x3)]) : W p l e rmX4_listSteps s m args below meth c H locs 0 0 (MQ below (gQv (xS ad cy) 66 ad cy D (xF ad ts) Q) args s 0 0 (gA 66 ad)) (F0 m 7 ls []) := by
  obtain ⟨n, h⟩ := h
  induction n generalizing x1 x3 I J H locs ls with
  | zero => exact False.elim h
  | succ n ih => exact w_X4_listSteps_7 C  (fun hk9 hw9 hl9 => ih hw9 hl9 hk9) h hw hl
set_option maxHeartbeats 4000000 in
set_option maxRecDepth 100000 in
theorem w_X4_listSteps {Q : MI → MJ → Prop} (C : gC RX4 cX4_listSteps 6 none 66 ad cy D (xF ad ts) p s m args meth c) {a0 : Int64} {I : MI} {J : MJ} {H : Heap} {locs : List Loc} {ls : Array Slot} (h : P_X4_listSteps a0 I J Q) (hw : gH (xS ad cy) 66 ad D s I J H locs) (hl : lv_has ls 6 [(0, .ref (ad 46)), (1, .long a0)]) : W p l e rmX4_listSteps s m args below meth c H locs 0 0 (MQ below (gQv (xS ad cy) 66 ad cy D (xF ad ts) Q) args s 0 0 (gA 66 ad)) (F0 m 0 ls []) := by
  obtain ⟨hx, hb, hC⟩ := id C
  refine lv_aload_n hx hb dX4_listSteps_0 rfl (lv_at hl 0 rfl) ?_
  refine lv_iconst (v := 0) hx hb dX4_listSteps_1 (by decide) ?_
  refine g_putI C hw fp_RX4_38 xl_46 xs_46 (st_4_10 ad _) (Nat.le_of_ble_eq_true rfl) rfl rfl dX4_listSteps_2 (fun H locs hw => ?_)
  obtain ⟨I2, e2⟩ : ∃ z : MI, z = mI I 46 10 (0 : Int32) := ⟨_, rfl⟩
  have h := h I2 e2
  rw [← e2] at hw
  refine lv_iconst (v := 0) hx hb dX4_listSteps_5 (by decide) ?_
  refine lv_istore_n (lv' := [(3, .int (0 : Int32)), (0, .ref (ad 46)), (1, .long a0)]) hx hb dX4_listSteps_6 rfl hl (by decide) rfl (fun ls hl => ?_)
  exact wl_X4_listSteps_7 C  h hw (lv_sub hl [1, 2, 0] rfl)
theorem m_X4_listSteps {l : Launch} {a0 : Int64} {Q : MI → MJ → Prop} {I : MI} {J : MJ} (h : P_X4_listSteps a0 I J Q) : Met l yX4_listSteps (xws yX4_listSteps cX4_listSteps 6 none) rmX4_listSteps (va_Pc [.ref (ad 46), .long a0] (gB (xS ad cy) 66 ad cy D (xF ad ts) I J)) (gQv (xS ad cy) 66 ad cy D (xF ad ts) Q) 0 0 (gA 66 ad) :=
  g_met (xF_ok ad ts) rfl (by decide) (Nat.le_of_ble_eq_true rfl) (fun p e s m below meth c ls C hw hl => w_X4_listSteps C  h hw hl)
/-! BagPhrases$Lattice.letBehind(I)I -/
def P_X4_letBehind_44 (Q : Int32 → MI → MJ → Prop) (kL19 : Int32 × Int32 × Int32 × MI × MJ → Prop) (x1 : Int32) (x2 : Int32) (x3 : Int32) (I : MI) (J : MJ) : Prop :=
  kL19 (x1, x2, (x3 + 1), I, J)
def P_X4_letBehind_19 (Q : Int32 → MI → MJ → Prop) (kL19 : Int32 × Int32 × Int32 × MI × MJ → Prop) : Int32 × Int32 × Int32 × MI × MJ → Prop := fun z => match z with
  | (x1, x2, x3, I, J) => (((4 : Int32) ≤ x3 → Q x2 I J) ∧ (¬ (4 : Int32) ≤ x3 → ((((x1 >>> (x3 &&& 31)) &&& (1 : Int32)) = 0 → P_X4_letBehind_44 Q kL19 x1 x2 x3 I J) ∧ (¬ ((x1 >>> (x3 &&& 31)) &&& (1 : Int32)) = 0 → vp_in x3 4 ∧ (P_X4_letBehind_44 Q kL19 x1 (x2 ||| (I 20 x3.toNatClampNeg)) x3 I J)))))
def P_X4_letBehind (a0 : Int32) (I : MI) (J : MJ) (Q : Int32 → MI → MJ → Prop) : Prop :=
  (((a0 &&& (16 : Int32)) = 0 → lpx (P_X4_letBehind_19 Q) (a0, (0 : Int32), (0 : Int32), I, J)) ∧ (¬ (a0 &&& (16 : Int32)) = 0 → Q (I 17 3) I J))
abbrev rmX4_letBehind : Room := { frames := 0, cells := 0, slots := 0, locals := 0 }
set_option maxHeartbeats 4000000 in
set_option maxRecDepth 100000 in
theorem w_X4_letBehind_44 {Q : Int32 → MI → MJ → Prop} (C : gC RX4 cX4_letBehind 4 (some .int) 66 ad cy D (xF ad ts) p s m args meth c) {kL19 : Int32 × Int32 × Int32 × MI × MJ → Prop} (hL19 : ∀ {x1 : Int32} {x2 : Int32} {x3 : Int32} {I : MI} {J : MJ} {H : Heap} {locs : List Loc} {ls : Array Slot}, kL19 (x1, x2, x3, I, J) → gH (xS ad cy) 66 ad D s I J H locs → lv_has ls 4 [(0, .ref (ad 46)), (1, .int x1), (2, .int x2), (3, .int x3)] → W p l e rmX4_letBehind s m args below meth c H locs 0 0 (MQ below (gQi (xS ad cy) 66 ad cy D (xF ad ts) Q) args s 0 0 (gA 66 ad)) (F0 m 19 ls [])) {x1 : Int32} {x2 : Int32} {x3 : Int32} {I : MI} {J : MJ} {H : Heap} {locs : List Loc} {ls : Array Slot} (h : P_X4_letBehind_44 Q kL19 x1 x2 x3 I J) (hw : gH (xS ad cy) 66 ad D s I J H locs) (hl : lv_has ls 4 [(0, .ref (ad 46)), (1, .int x1), (2, .int x2), (3, .int x3)]) : W p l e rmX4_letBehind s m args below meth c H locs 0 0 (MQ below (gQi (xS ad cy) 66 ad cy D (xF ad ts) Q) args s 0 0 (gA 66 ad)) (F0 m 44 ls []) := by
  obtain ⟨hx, hb, hC⟩ := id C
  refine lv_iinc (v := x3 + 1) (lv' := [(3, .int (x3 + 1)), (0, .ref (ad 46)), (1, .int x1), (2, .int x2)]) hx hb dX4_letBehind_44 hl (k := 3) rfl rfl (by decide) rfl (fun ls hl => ?_)
  refine lv_goto (tgt := 19) hx hb dX4_letBehind_47 (by decide) ?_
  exact hL19 h hw (lv_sub hl [1, 2, 3, 0] rfl)
set_option maxHeartbeats 4000000 in
set_option maxRecDepth 100000 in
theorem w_X4_letBehind_19 {Q : Int32 → MI → MJ → Prop} (C : gC RX4 cX4_letBehind 4 (some .int) 66 ad cy D (xF ad ts) p s m args meth c) {kL19 : Int32 × Int32 × Int32 × MI × MJ → Prop} (hL19 : ∀ {x1 : Int32} {x2 : Int32} {x3 : Int32} {I : MI} {J : MJ} {H : Heap} {locs : List Loc} {ls : Array Slot}, kL19 (x1, x2, x3, I, J) → gH (xS ad cy) 66 ad D s I J H locs → lv_has ls 4 [(0, .ref (ad 46)), (1, .int x1), (2, .int x2), (3, .int x3)] → W p l e rmX4_letBehind s m args below meth c H locs 0 0 (MQ below (gQi (xS ad cy) 66 ad cy D (xF ad ts) Q) args s 0 0 (gA 66 ad)) (F0 m 19 ls [])) {x1 : Int32} {x2 : Int32} {x3 : Int32} {I : MI} {J : MJ} {H : Heap} {locs : List Loc} {ls : Array Slot} (h : P_X4_letBehind_19 Q kL19 (x1, x2, x3, I, J)) (hw : gH (xS ad cy) 66 ad D s I J H locs) (hl : lv_has ls 4 [(0, .ref (ad 46)), (1, .int x1), (2, .int x2), (3, .int x3)]) : W p l e rmX4_letBehind s m args below meth c H locs 0 0 (MQ below (gQi (xS ad cy) 66 ad cy D (xF ad ts) Q) args s 0 0 (gA 66 ad)) (F0 m 19 ls []) := by
  obtain ⟨hx, hb, hC⟩ := id C
  refine lv_iload_n hx hb dX4_letBehind_19 rfl (lv_at hl 3 rfl) ?_
  refine lv_iconst (v := 4) hx hb dX4_letBehind_20 (by decide) ?_
  refine lv_icmp_ge (tgt := 50) hx hb dX4_letBehind_21 (by decide) (fun c21 => ?_) (fun c21 => ?_)
  · have h := h.1 c21
    refine lv_iload_n hx hb dX4_letBehind_50 rfl (lv_at hl 2 rfl) ?_
    exact g_iret C hw h dX4_letBehind_51
  · have h := h.2 c21
    refine lv_iload_n hx hb dX4_letBehind_24 rfl (lv_at hl 1 rfl) ?_
    refine lv_iload_n hx hb dX4_letBehind_25 rfl (lv_at hl 3 rfl) ?_
    refine lv_ishr hx hb dX4_letBehind_26 ?_
    refine lv_iconst (v := 1) hx hb dX4_letBehind_27 (by decide) ?_
    refine lv_iand hx hb dX4_letBehind_28 ?_
    refine lv_if_eq (tgt := 44) hx hb dX4_letBehind_29 (by decide) (fun c29 => ?_) (fun c29 => ?_)
    · have h := h.1 c29
      exact w_X4_letBehind_44 C hL19 h hw (lv_sub hl [0, 1, 2, 3] rfl)
    · have h := h.2 c29
      refine lv_iload_n hx hb dX4_letBehind_32 rfl (lv_at hl 2 rfl) ?_
      refine lv_aload_n hx hb dX4_letBehind_33 rfl (lv_at hl 0 rfl) ?_
      refine g_get C hw f_RX4_48 xl_46 (xs_46 _ _) rfl dX4_letBehind_34 ?_
      refine g_get C hw f_RX4_102 xl_17 (xs_17 _ _) rfl dX4_letBehind_37 ?_
      refine lv_iload_n hx hb dX4_letBehind_40 rfl (lv_at hl 3 rfl) ?_
      refine g_iald C hw xl_20 xs_20 h.1 dX4_letBehind_41 ?_
      have h := h.2
      refine lv_ior hx hb dX4_letBehind_42 ?_
      refine lv_istore_n (lv' := [(2, .int (x2 ||| (I 20 x3.toNatClampNeg))), (0, .ref (ad 46)), (1, .int x1), (3, .int x3)]) hx hb dX4_letBehind_43 rfl hl (by decide) rfl (fun ls hl => ?_)
      exact w_X4_letBehind_44 C hL19 h hw (lv_sub hl [1, 2, 0, 3] rfl)
theorem wl_X4_letBehind_19 {Q : Int32 → MI → MJ → Prop} (C : gC RX4 cX4_letBehind 4 (some .int) 66 ad cy D (xF ad ts) p s m args meth c) {x1 : Int32} {x2 : Int32} {x3 : Int32} {I : MI} {J : MJ} {H : Heap} {locs : List Loc} {ls : Array Slot} (h : lpx (P_X4_letBehind_19 Q) (x1, x2, x3, I, J)) (hw : gH (xS ad cy) 66 ad D s I J H locs) (hl : lv_has ls 4 [(0, .ref (ad 46)), (1, .int x1), (2, .int x2), (3, .int x3)]) : W p l e rmX4_letBehind s m args below meth c H locs 0 0 (MQ below (gQi (xS ad cy) 66 ad cy D (xF ad ts) Q) args s 0 0 (gA 66 ad)) (F0 m 19 ls []) := by
  obtain ⟨n, h⟩ := h
  induction n generalizing x1 x2 x3 I J H locs ls with
  | zero => exact False.elim h
  | succ n ih => exact w_X4_letBehind_19 C  (fun hk9 hw9 hl9 => ih hw9 hl9 hk9) h hw hl
set_option maxHeartbeats 4000000 in
set_option maxRecDepth 100000 in
theorem w_X4_letBehind {Q : Int32 → MI → MJ → Prop} (C : gC RX4 cX4_letBehind 4 (some .int) 66 ad cy D (xF ad ts) p s m args meth c) {a0 : Int32} {I : MI} {J : MJ} {H : Heap} {locs : List Loc} {ls : Array Slot} (h : P_X4_letBehind a0 I J Q) (hw : gH (xS ad cy) 66 ad D s I J H locs) (hl : lv_has ls 4 [(0, .ref (ad 46)), (1, .int a0)]) : W p l e rmX4_letBehind s m args below meth c H locs 0 0 (MQ below (gQi (xS ad cy) 66 ad cy D (xF ad ts) Q) args s 0 0 (gA 66 ad)) (F0 m 0 ls []) := by
  obtain ⟨hx, hb, hC⟩ := id C
  refine lv_iload_n hx hb dX4_letBehind_0 rfl (lv_at hl 1 rfl) ?_
  refine lv_bipush (v := 16) hx hb dX4_letBehind_1 (by decide) ?_
  refine lv_iand hx hb dX4_letBehind_3 ?_
  refine lv_if_eq (tgt := 15) hx hb dX4_letBehind_4 (by decide) (fun c4 => ?_) (fun c4 => ?_)
  · have h := h.1 c4
    refine lv_iconst (v := 0) hx hb dX4_letBehind_15 (by decide) ?_
    refine lv_istore_n (lv' := [(2, .int (0 : Int32)), (0, .ref (ad 46)), (1, .int a0)]) hx hb dX4_letBehind_16 rfl hl (by decide) rfl (fun ls hl => ?_)
    refine lv_iconst (v := 0) hx hb dX4_letBehind_17 (by decide) ?_
    refine lv_istore_n (lv' := [(3, .int (0 : Int32)), (2, .int (0 : Int32)), (0, .ref (ad 46)), (1, .int a0)]) hx hb dX4_letBehind_18 rfl hl (by decide) rfl (fun ls hl => ?_)
    exact wl_X4_letBehind_19 C  h hw (lv_sub hl [2, 3, 1, 0] rfl)
  · have h := h.2 c4
    refine lv_aload_n hx hb dX4_letBehind_7 rfl (lv_at hl 0 rfl) ?_
    refine g_get C hw f_RX4_48 xl_46 (xs_46 _ _) rfl dX4_letBehind_8 ?_
    refine g_get C hw f_RX4_99 xl_17 (xs_17 _ _) rfl dX4_letBehind_11 ?_
    exact g_iret C hw h dX4_letBehind_14
theorem m_X4_letBehind {l : Launch} {a0 : Int32} {Q : Int32 → MI → MJ → Prop} {I : MI} {J : MJ} (h : P_X4_letBehind a0 I J Q) : Met l yX4_letBehind (xws yX4_letBehind cX4_letBehind 4 (some .int)) rmX4_letBehind (va_Pc [.ref (ad 46), .int a0] (gB (xS ad cy) 66 ad cy D (xF ad ts) I J)) (gQi (xS ad cy) 66 ad cy D (xF ad ts) Q) 0 0 (gA 66 ad) :=
  g_met (xF_ok ad ts) rfl (by decide) (Nat.le_of_ble_eq_true rfl) (fun p e s m below meth c ls C hw hl => w_X4_letBehind C  h hw hl)
/-! BagPhrases$Lattice.spread(I)V -/
def P_X4_spread_170 (Q : MI → MJ → Prop) (kL16 : Int32 × Int32 × Int32 × Int32 × MI × MJ → Prop) (x1 : Int32) (x2 : Int32) (x3 : Int32) (x4 : Int32) (I : MI) (J : MJ) : Prop :=
  kL16 (x1, x2, x3, (x4 + 1), I, J)
def P_X4_spread_125 (Q : MI → MJ → Prop) (kL16 : Int32 × Int32 × Int32 × Int32 × MI × MJ → Prop) (x1 : Int32) (x2 : Int32) (x3 : Int32) (x4 : Int32) (x5 : Int32) (x6 : Int32) (I : MI) (J : MJ) : Prop :=
  vp_in x6 1944 ∧ (vp_in x6 1944 ∧ (∀ I145 : MI, I145 = mI I 48 x6.toNatClampNeg ((I 48 x6.toNatClampNeg) ||| ((1 : Int32) <<< (x5 &&& 31))) → vp_in x1 1944 ∧ (vp_in x4 10 ∧ (vp_in x6 1944 ∧ (∀ J169 : MJ, J169 = mJ J 47 x6.toNatClampNeg ((J 47 x1.toNatClampNeg) - (J 15 x4.toNatClampNeg)) → P_X4_spread_170 Q kL16 x1 x2 (x3 ||| ((1 : Int32) <<< (x4 &&& 31))) x4 I145 J169)))))
def P_X4_spread_16 (Q : MI → MJ → Prop) (kL16 : Int32 × Int32 × Int32 × Int32 × MI × MJ → Prop) : Int32 × Int32 × Int32 × Int32 × MI × MJ → Prop := fun z => match z with
  | (x1, x2, x3, x4, I, J) => (((I 12 4) ≤ x4 → vp_in x1 1944 ∧ (∀ I182 : MI, I182 = mI I 49 x1.toNatClampNeg x3 → Q I182 J)) ∧ (¬ (I 12 4) ≤ x4 → vp_in x4 10 ∧ ((((((I 46 10) >>> (x4 &&& 31)) &&& (1 : Int32)) = 0 → P_X4_spread_170 Q kL16 x1 x2 x3 x4 I J) ∧ (¬ (((I 46 10) >>> (x4 &&& 31)) &&& (1 : Int32)) = 0 → ((((x2 >>> ((I 13 x4.toNatClampNeg) &&& 31)) &&& (1 : Int32)) = 0 → P_X4_spread_170 Q kL16 x1 x2 x3 x4 I J) ∧ (¬ ((x2 >>> ((I 13 x4.toNatClampNeg) &&& 31)) &&& (1 : Int32)) = 0 → vp_in x1 1944 ∧ (vp_in x4 10 ∧ (P_X11_holds (J 47 x1.toNatClampNeg) (J 15 x4.toNatClampNeg) I J (fun r77 I77 J77 => ((¬ r77 = 0 → vp_in x4 10 ∧ ((((x1 - (I77 52 x4.toNatClampNeg)) < 0 → P_X4_spread_170 Q kL16 x1 x2 x3 x4 I77 J77) ∧ (¬ (x1 - (I77 52 x4.toNatClampNeg)) < 0 → ((¬ (x1 - (I77 52 x4.toNatClampNeg)) = 0 → P_X4_spread_125 Q kL16 x1 x2 x3 x4 (I 13 x4.toNatClampNeg) (x1 - (I77 52 x4.toNatClampNeg)) I77 J77) ∧ ((x1 - (I77 52 x4.toNatClampNeg)) = 0 → ((¬ (((I77 17 4) >>> ((I 13 x4.toNatClampNeg) &&& 31)) &&& (1 : Int32)) = 0 → P_X4_spread_125 Q kL16 x1 x2 x3 x4 (I 13 x4.toNatClampNeg) (x1 - (I77 52 x4.toNatClampNeg)) I77 J77) ∧ ((((I77 17 4) >>> ((I 13 x4.toNatClampNeg) &&& 31)) &&& (1 : Int32)) = 0 → P_X4_spread_170 Q kL16 x1 x2 x3 x4 I77 J77)))))))) ∧ (r77 = 0 → P_X4_spread_170 Q kL16 x1 x2 x3 x4 I77 J77))))))))))))
def P_X4_spread (a0 : Int32) (I : MI) (J : MJ) (Q : MI → MJ → Prop) : Prop :=
  vp_in a0 1944 ∧ (P_X4_letBehind (I 48 a0.toNatClampNeg) I J (fun r7 I7 J7 => lpx (P_X4_spread_16 Q) (a0, r7, (0 : Int32), (0 : Int32), I7, J7)))
abbrev rmX4_spread : Room := { frames := 1, cells := 0, slots := 0, locals := 23 }
set_option maxHeartbeats 4000000 in
set_option maxRecDepth 100000 in
theorem w_X4_spread_170 {Q : MI → MJ → Prop} (C : gC RX4 cX4_spread 7 none 66 ad cy D (xF ad ts) p s m args meth c) {kL16 : Int32 × Int32 × Int32 × Int32 × MI × MJ → Prop} (hL16 : ∀ {x1 : Int32} {x2 : Int32} {x3 : Int32} {x4 : Int32} {I : MI} {J : MJ} {H : Heap} {locs : List Loc} {ls : Array Slot}, kL16 (x1, x2, x3, x4, I, J) → gH (xS ad cy) 66 ad D s I J H locs → lv_has ls 7 [(0, .ref (ad 46)), (1, .int x1), (2, .int x2), (3, .int x3), (4, .int x4)] → W p l e rmX4_spread s m args below meth c H locs 0 0 (MQ below (gQv (xS ad cy) 66 ad cy D (xF ad ts) Q) args s 0 0 (gA 66 ad)) (F0 m 16 ls [])) {x1 : Int32} {x2 : Int32} {x3 : Int32} {x4 : Int32} {I : MI} {J : MJ} {H : Heap} {locs : List Loc} {ls : Array Slot} (h : P_X4_spread_170 Q kL16 x1 x2 x3 x4 I J) (hw : gH (xS ad cy) 66 ad D s I J H locs) (hl : lv_has ls 7 [(0, .ref (ad 46)), (1, .int x1), (2, .int x2), (3, .int x3), (4, .int x4)]) : W p l e rmX4_spread s m args below meth c H locs 0 0 (MQ below (gQv (xS ad cy) 66 ad cy D (xF ad ts) Q) args s 0 0 (gA 66 ad)) (F0 m 170 ls []) := by
  obtain ⟨hx, hb, hC⟩ := id C
  refine lv_iinc (v := x4 + 1) (lv' := [(4, .int (x4 + 1)), (0, .ref (ad 46)), (1, .int x1), (2, .int x2), (3, .int x3)]) hx hb dX4_spread_170 hl (k := 4) rfl rfl (by decide) rfl (fun ls hl => ?_)
  refine lv_goto (tgt := 16) hx hb dX4_spread_173 (by decide) ?_
  exact hL16 h hw (lv_sub hl [1, 2, 3, 4, 0] rfl)
set_option maxHeartbeats 4000000 in
set_option maxRecDepth 100000 in
theorem w_X4_spread_125 {Q : MI → MJ → Prop} (C : gC RX4 cX4_spread 7 none 66 ad cy D (xF ad ts) p s m args meth c) {kL16 : Int32 × Int32 × Int32 × Int32 × MI × MJ → Prop} (hL16 : ∀ {x1 : Int32} {x2 : Int32} {x3 : Int32} {x4 : Int32} {I : MI} {J : MJ} {H : Heap} {locs : List Loc} {ls : Array Slot}, kL16 (x1, x2, x3, x4, I, J) → gH (xS ad cy) 66 ad D s I J H locs → lv_has ls 7 [(0, .ref (ad 46)), (1, .int x1), (2, .int x2), (3, .int x3), (4, .int x4)] → W p l e rmX4_spread s m args below meth c H locs 0 0 (MQ below (gQv (xS ad cy) 66 ad cy D (xF ad ts) Q) args s 0 0 (gA 66 ad)) (F0 m 16 ls [])) {x1 : Int32} {x2 : Int32} {x3 : Int32} {x4 : Int32} {x5 : Int32} {x6 : Int32} {I : MI} {J : MJ} {H : Heap} {locs : List Loc} {ls : Array Slot} (h : P_X4_spread_125 Q kL16 x1 x2 x3 x4 x5 x6 I J) (hw : gH (xS ad cy) 66 ad D s I J H locs) (hl : lv_has ls 7 [(0, .ref (ad 46)), (1, .int x1), (2, .int x2), (3, .int x3), (4, .int x4), (5, .int x5), (6, .int x6)]) : W p l e rmX4_spread s m args below meth c H locs 0 0 (MQ below (gQv (xS ad cy) 66 ad cy D (xF ad ts) Q) args s 0 0 (gA 66 ad)) (F0 m 125 ls []) := by
  obtain ⟨hx, hb, hC⟩ := id C
  refine lv_iload_n hx hb dX4_spread_125 rfl (lv_at hl 3 rfl) ?_
  refine lv_iconst (v := 1) hx hb dX4_spread_126 (by decide) ?_
  refine lv_iload hx hb dX4_spread_127 (lv_at hl 4 rfl) ?_
  refine lv_ishl hx hb dX4_spread_129 ?_
  refine lv_ior hx hb dX4_spread_130 ?_
  refine lv_istore_n (lv' := [(3, .int (x3 ||| ((1 : Int32) <<< (x4 &&& 31)))), (0, .ref (ad 46)), (1, .int x1), (2, .int x2), (4, .int x4), (5, .int x5), (6, .int x6)]) hx hb dX4_spread_131 rfl hl (by decide) rfl (fun ls hl => ?_)
  refine lv_aload_n hx hb dX4_spread_132 rfl (lv_at hl 1 rfl) ?_
  refine g_get C hw f_RX4_15 xl_46 (xs_46 _ _) rfl dX4_spread_133 ?_
  refine lv_iload hx hb dX4_spread_136 (lv_at hl 6 rfl) ?_
  refine lv_dup2_11 hx hb dX4_spread_138 rfl rfl ?_
  refine g_iald C hw xl_48 xs_48 h.1 dX4_spread_139 ?_
  have h := h.2
  refine lv_iconst (v := 1) hx hb dX4_spread_140 (by decide) ?_
  refine lv_iload hx hb dX4_spread_141 (lv_at hl 5 rfl) ?_
  refine lv_ishl hx hb dX4_spread_143 ?_
  refine lv_ior hx hb dX4_spread_144 ?_
  refine g_iast C hw xl_48 xs_48 h.1 dX4_spread_145 (fun H locs hw => ?_)
  have h := h.2
  obtain ⟨I145, e145⟩ : ∃ z : MI, z = mI I 48 x6.toNatClampNeg ((I 48 x6.toNatClampNeg) ||| ((1 : Int32) <<< (x5 &&& 31))) := ⟨_, rfl⟩
  have h := h I145 e145
  rw [← e145] at hw
  refine lv_aload_n hx hb dX4_spread_146 rfl (lv_at hl 1 rfl) ?_
  refine g_get C hw f_RX4_9 xl_46 (xs_46 _ _) rfl dX4_spread_147 ?_
  refine lv_iload hx hb dX4_spread_150 (lv_at hl 6 rfl) ?_
  refine lv_aload_n hx hb dX4_spread_152 rfl (lv_at hl 1 rfl) ?_
  refine g_get C hw f_RX4_9 xl_46 (xs_46 _ _) rfl dX4_spread_153 ?_
  refine lv_iload_n hx hb dX4_spread_156 rfl (lv_at hl 2 rfl) ?_
  refine g_lald C hw xl_47 xs_47 h.1 dX4_spread_157 ?_
  have h := h.2
  refine lv_aload_n hx hb dX4_spread_158 rfl (lv_at hl 1 rfl) ?_
  refine g_get C hw f_RX4_44 xl_46 (xs_46 _ _) rfl dX4_spread_159 ?_
  refine g_get C hw f_RX4_80 xl_12 (xs_12 _ _) rfl dX4_spread_162 ?_
  refine lv_iload hx hb dX4_spread_165 (lv_at hl 4 rfl) ?_
  refine g_lald C hw xl_15 xs_15 h.1 dX4_spread_167 ?_
  have h := h.2
  refine lv_lsub hx hb dX4_spread_168 ?_
  refine g_last C hw xl_47 xs_47 h.1 dX4_spread_169 (fun H locs hw => ?_)
  have h := h.2
  obtain ⟨J169, e169⟩ : ∃ z : MJ, z = mJ J 47 x6.toNatClampNeg ((J 47 x1.toNatClampNeg) - (J 15 x4.toNatClampNeg)) := ⟨_, rfl⟩
  have h := h J169 e169
  rw [← e169] at hw
  exact w_X4_spread_170 C hL16 h hw (lv_sub hl [1, 2, 3, 0, 4] rfl)
set_option maxHeartbeats 4000000 in
set_option maxRecDepth 100000 in
theorem w_X4_spread_16 {Q : MI → MJ → Prop} (C : gC RX4 cX4_spread 7 none 66 ad cy D (xF ad ts) p s m args meth c) {kL16 : Int32 × Int32 × Int32 × Int32 × MI × MJ → Prop} (hL16 : ∀ {x1 : Int32} {x2 : Int32} {x3 : Int32} {x4 : Int32} {I : MI} {J : MJ} {H : Heap} {locs : List Loc} {ls : Array Slot}, kL16 (x1, x2, x3, x4, I, J) → gH (xS ad cy) 66 ad D s I J H locs → lv_has ls 7 [(0, .ref (ad 46)), (1, .int x1), (2, .int x2), (3, .int x3), (4, .int x4)] → W p l e rmX4_spread s m args below meth c H locs 0 0 (MQ below (gQv (xS ad cy) 66 ad cy D (xF ad ts) Q) args s 0 0 (gA 66 ad)) (F0 m 16 ls [])) {x1 : Int32} {x2 : Int32} {x3 : Int32} {x4 : Int32} {I : MI} {J : MJ} {H : Heap} {locs : List Loc} {ls : Array Slot} (h : P_X4_spread_16 Q kL16 (x1, x2, x3, x4, I, J)) (hw : gH (xS ad cy) 66 ad D s I J H locs) (hl : lv_has ls 7 [(0, .ref (ad 46)), (1, .int x1), (2, .int x2), (3, .int x3), (4, .int x4)]) : W p l e rmX4_spread s m args below meth c H locs 0 0 (MQ below (gQv (xS ad cy) 66 ad cy D (xF ad ts) Q) args s 0 0 (gA 66 ad)) (F0 m 16 ls []) := by
  obtain ⟨hx, hb, hC⟩ := id C
  refine lv_iload hx hb dX4_spread_16 (lv_at hl 4 rfl) ?_
  refine lv_aload_n hx hb dX4_spread_18 rfl (lv_at hl 0 rfl) ?_
  refine g_get C hw f_RX4_44 xl_46 (xs_46 _ _) rfl dX4_spread_19 ?_
  refine g_get C hw f_RX4_72 xl_12 (xs_12 _ _) rfl dX4_spread_22 ?_
  refine lv_icmp_ge (tgt := 176) hx hb dX4_spread_25 (by decide) (fun c25 => ?_) (fun c25 => ?_)
  · have h := h.1 c25
    refine lv_aload_n hx hb dX4_spread_176 rfl (lv_at hl 0 rfl) ?_
    refine g_get C hw f_RX4_19 xl_46 (xs_46 _ _) rfl dX4_spread_177 ?_
    refine lv_iload_n hx hb dX4_spread_180 rfl (lv_at hl 1 rfl) ?_
    refine lv_iload_n hx hb dX4_spread_181 rfl (lv_at hl 3 rfl) ?_
    refine g_iast C hw xl_49 xs_49 h.1 dX4_spread_182 (fun H locs hw => ?_)
    have h := h.2
    obtain ⟨I182, e182⟩ : ∃ z : MI, z = mI I 49 x1.toNatClampNeg x3 := ⟨_, rfl⟩
    have h := h I182 e182
    rw [← e182] at hw
    exact g_vret C hw h dX4_spread_183
  · have h := h.2 c25
    refine lv_aload_n hx hb dX4_spread_28 rfl (lv_at hl 0 rfl) ?_
    refine g_get C hw f_RX4_44 xl_46 (xs_46 _ _) rfl dX4_spread_29 ?_
    refine g_get C hw f_RX4_93 xl_12 (xs_12 _ _) rfl dX4_spread_32 ?_
    refine lv_iload hx hb dX4_spread_35 (lv_at hl 4 rfl) ?_
    refine g_iald C hw xl_13 xs_13 h.1 dX4_spread_37 ?_
    have h := h.2
    refine lv_istore (lv' := [(5, .int (I 13 x4.toNatClampNeg)), (0, .ref (ad 46)), (1, .int x1), (2, .int x2), (3, .int x3), (4, .int x4)]) hx hb dX4_spread_38 hl (by decide) rfl (fun ls hl => ?_)
    refine lv_aload_n hx hb dX4_spread_40 rfl (lv_at hl 1 rfl) ?_
    refine g_get C hw f_RX4_38 xl_46 (xs_46 _ _) rfl dX4_spread_41 ?_
    refine lv_iload hx hb dX4_spread_44 (lv_at hl 5 rfl) ?_
    refine lv_ishr hx hb dX4_spread_46 ?_
    refine lv_iconst (v := 1) hx hb dX4_spread_47 (by decide) ?_
    refine lv_iand hx hb dX4_spread_48 ?_
    refine lv_if_eq (tgt := 170) hx hb dX4_spread_49 (by decide) (fun c49 => ?_) (fun c49 => ?_)
    · have h := h.1 c49
      exact w_X4_spread_170 C hL16 h hw (lv_sub hl [1, 2, 3, 4, 5] rfl)
    · have h := h.2 c49
      refine lv_iload_n hx hb dX4_spread_52 rfl (lv_at hl 3 rfl) ?_
      refine lv_iload hx hb dX4_spread_53 (lv_at hl 0 rfl) ?_
      refine lv_ishr hx hb dX4_spread_55 ?_
      refine lv_iconst (v := 1) hx hb dX4_spread_56 (by decide) ?_
      refine lv_iand hx hb dX4_spread_57 ?_
      refine lv_if_eq (tgt := 170) hx hb dX4_spread_58 (by decide) (fun c58 => ?_) (fun c58 => ?_)
      · have h := h.1 c58
        exact w_X4_spread_170 C hL16 h hw (lv_sub hl [1, 2, 3, 4, 5] rfl)
      · have h := h.2 c58
        refine lv_aload_n hx hb dX4_spread_61 rfl (lv_at hl 1 rfl) ?_
        refine g_get C hw f_RX4_9 xl_46 (xs_46 _ _) rfl dX4_spread_62 ?_
        refine lv_iload_n hx hb dX4_spread_65 rfl (lv_at hl 2 rfl) ?_
        refine g_lald C hw xl_47 xs_47 h.1 dX4_spread_66 ?_
        have h := h.2
        refine lv_aload_n hx hb dX4_spread_67 rfl (lv_at hl 1 rfl) ?_
        refine g_get C hw f_RX4_44 xl_46 (xs_46 _ _) rfl dX4_spread_68 ?_
        refine g_get C hw f_RX4_80 xl_12 (xs_12 _ _) rfl dX4_spread_71 ?_
        refine lv_iload hx hb dX4_spread_74 (lv_at hl 5 rfl) ?_
        refine g_lald C hw xl_15 xs_15 h.1 dX4_spread_76 ?_
        have h := h.2
        refine g_cz hw (g_rN [.long (J 47 x1.toNatClampNeg), .long (J 15 x4.toNatClampNeg)] [] C hw (m_X11_holds h) k_X11_holds hC.2.2.2.2.2.2.1.1.2.2.2.2 rfl hl.1 rfl (Nat.le_of_ble_eq_true rfl) ⟨⟨rfl, rfl⟩, Nat.le_of_ble_eq_true rfl, Nat.le_of_ble_eq_true rfl⟩ ⟨Nat.zero_le _, Nat.zero_le _⟩ dX4_spread_77) (fun r77 I77 J77 H locs z77 h hw => ?_)
        refine lv_if_ne (tgt := 86) hx hb dX4_spread_80 (by decide) (fun c80 => ?_) (fun c80 => ?_)
        · have h := h.1 c80
          refine lv_iload_n hx hb dX4_spread_86 rfl (lv_at hl 2 rfl) ?_
          refine lv_aload_n hx hb dX4_spread_87 rfl (lv_at hl 1 rfl) ?_
          refine g_get C hw f_RX4_28 xl_46 (xs_46 _ _) rfl dX4_spread_88 ?_
          refine lv_iload hx hb dX4_spread_91 (lv_at hl 5 rfl) ?_
          refine g_iald C hw xl_52 xs_52 h.1 dX4_spread_93 ?_
          have h := h.2
          refine lv_isub hx hb dX4_spread_94 ?_
          refine lv_istore (lv' := [(6, .int (x1 - (I77 52 x4.toNatClampNeg))), (5, .int (I 13 x4.toNatClampNeg)), (0, .ref (ad 46)), (1, .int x1), (2, .int x2), (3, .int x3), (4, .int x4)]) hx hb dX4_spread_95 hl (by decide) rfl (fun ls hl => ?_)
          refine lv_iload hx hb dX4_spread_97 (lv_at hl 0 rfl) ?_
          refine lv_if_lt (tgt := 170) hx hb dX4_spread_99 (by decide) (fun c99 => ?_) (fun c99 => ?_)
          · have h := h.1 c99
            exact w_X4_spread_170 C hL16 h hw (lv_sub hl [2, 3, 4, 5, 6] rfl)
          · have h := h.2 c99
            refine lv_iload hx hb dX4_spread_102 (lv_at hl 0 rfl) ?_
            refine lv_if_ne (tgt := 125) hx hb dX4_spread_104 (by decide) (fun c104 => ?_) (fun c104 => ?_)
            · have h := h.1 c104
              exact w_X4_spread_125 C hL16 h hw (lv_sub hl [2, 3, 4, 5, 6, 1, 0] rfl)
            · have h := h.2 c104
              refine lv_aload_n hx hb dX4_spread_107 rfl (lv_at hl 2 rfl) ?_
              refine g_get C hw f_RX4_48 xl_46 (xs_46 _ _) rfl dX4_spread_108 ?_
              refine g_get C hw f_RX4_96 xl_17 (xs_17 _ _) rfl dX4_spread_111 ?_
              refine lv_iload hx hb dX4_spread_114 (lv_at hl 1 rfl) ?_
              refine lv_ishr hx hb dX4_spread_116 ?_
              refine lv_iconst (v := 1) hx hb dX4_spread_117 (by decide) ?_
              refine lv_iand hx hb dX4_spread_118 ?_
              refine lv_if_ne (tgt := 125) hx hb dX4_spread_119 (by decide) (fun c119 => ?_) (fun c119 => ?_)
              · have h := h.1 c119
                exact w_X4_spread_125 C hL16 h hw (lv_sub hl [2, 3, 4, 5, 6, 1, 0] rfl)
              · have h := h.2 c119
                refine lv_goto (tgt := 170) hx hb dX4_spread_122 (by decide) ?_
                exact w_X4_spread_170 C hL16 h hw (lv_sub hl [2, 3, 4, 5, 6] rfl)
        · have h := h.2 c80
          refine lv_goto (tgt := 170) hx hb dX4_spread_83 (by decide) ?_
          exact w_X4_spread_170 C hL16 h hw (lv_sub hl [1, 2, 3, 4, 5] rfl)
theorem wl_X4_spread_16 {Q : MI → MJ → Prop} (C : gC RX4 cX4_spread 7 none 66 ad cy D (xF ad ts) p s m args meth c) {x1 : Int32} {x2 : Int32} {x3 : Int32} {x4 : Int32} {I : MI} {J : MJ} {H : Heap} {locs : List Loc} {ls : Array Slot} (h : lpx (P_X4_spread_16 Q) (x1, x2, x3, x4, I, J)) (hw : gH (xS ad cy) 66 ad D s I J H locs) (hl : lv_has ls 7 [(0, .ref (ad 46)), (1, .int x1), (2, .int x2), (3, .int x3), (4, .int x4)]) : W p l e rmX4_spread s m args below meth c H locs 0 0 (MQ below (gQv (xS ad cy) 66 ad cy D (xF ad ts) Q) args s 0 0 (gA 66 ad)) (F0 m 16 ls []) := by
  obtain ⟨n, h⟩ := h
  induction n generalizing x1 x2 x3 x4 I J H locs ls with
  | zero => exact False.elim h
  | succ n ih => exact w_X4_spread_16 C  (fun hk9 hw9 hl9 => ih hw9 hl9 hk9) h hw hl
set_option maxHeartbeats 4000000 in
set_option maxRecDepth 100000 in
theorem w_X4_spread {Q : MI → MJ → Prop} (C : gC RX4 cX4_spread 7 none 66 ad cy D (xF ad ts) p s m args meth c) {a0 : Int32} {I : MI} {J : MJ} {H : Heap} {locs : List Loc} {ls : Array Slot} (h : P_X4_spread a0 I J Q) (hw : gH (xS ad cy) 66 ad D s I J H locs) (hl : lv_has ls 7 [(0, .ref (ad 46)), (1, .int a0)]) : W p l e rmX4_spread s m args below meth c H locs 0 0 (MQ below (gQv (xS ad cy) 66 ad cy D (xF ad ts) Q) args s 0 0 (gA 66 ad)) (F0 m 0 ls []) := by
  obtain ⟨hx, hb, hC⟩ := id C
  refine lv_aload_n hx hb dX4_spread_0 rfl (lv_at hl 0 rfl) ?_
  refine lv_aload_n hx hb dX4_spread_1 rfl (lv_at hl 0 rfl) ?_
  refine g_get C hw f_RX4_15 xl_46 (xs_46 _ _) rfl dX4_spread_2 ?_
  refine lv_iload_n hx hb dX4_spread_5 rfl (lv_at hl 1 rfl) ?_
  refine g_iald C hw xl_48 xs_48 h.1 dX4_spread_6 ?_
  have h := h.2
  refine g_ci hw (g_rV [.int (I 48 a0.toNatClampNeg)] [] C hw (m_X4_letBehind h) k_X4_letBehind q_RX4_89 xl_46 (xs_46 _ _) rfl rfl hl.1 rfl (Nat.le_of_ble_eq_true rfl) ⟨⟨rfl, rfl⟩, Nat.le_of_ble_eq_true rfl, Nat.le_of_ble_eq_true rfl⟩ ⟨Nat.zero_le _, Nat.zero_le _⟩ dX4_spread_7) (fun r7 I7 J7 H locs h hw => ?_)
  refine lv_istore_n (lv' := [(2, .int r7), (0, .ref (ad 46)), (1, .int a0)]) hx hb dX4_spread_10 rfl hl (by decide) rfl (fun ls hl => ?_)
  refine lv_iconst (v := 0) hx hb dX4_spread_11 (by decide) ?_
  refine lv_istore_n (lv' := [(3, .int (0 : Int32)), (2, .int r7), (0, .ref (ad 46)), (1, .int a0)]) hx hb dX4_spread_12 rfl hl (by decide) rfl (fun ls hl => ?_)
  refine lv_iconst (v := 0) hx hb dX4_spread_13 (by decide) ?_
  refine lv_istore (lv' := [(4, .int (0 : Int32)), (3, .int (0 : Int32)), (2, .int r7), (0, .ref (ad 46)), (1, .int a0)]) hx hb dX4_spread_14 hl (by decide) rfl (fun ls hl => ?_)
  exact wl_X4_spread_16 C  h hw (lv_sub hl [3, 4, 2, 1, 0] rfl)
theorem m_X4_spread {l : Launch} {a0 : Int32} {Q : MI → MJ → Prop} {I : MI} {J : MJ} (h : P_X4_spread a0 I J Q) : Met l yX4_spread (xws yX4_spread cX4_spread 7 none) rmX4_spread (va_Pc [.ref (ad 46), .int a0] (gB (xS ad cy) 66 ad cy D (xF ad ts) I J)) (gQv (xS ad cy) 66 ad cy D (xF ad ts) Q) 0 0 (gA 66 ad) :=
  g_met (xF_ok ad ts) rfl (by decide) (Nat.le_of_ble_eq_true rfl) (fun p e s m below meth c ls C hw hl => w_X4_spread C  h hw hl)
/-! BagPhrases$Lattice.lay()V -/
def P_X4_lay_122 (Q : MI → MJ → Prop) (kL84 : Int32 × MI × MJ → Prop) (x1 : Int32) (I : MI) (J : MJ) : Prop :=
  kL84 ((x1 + (-1)), I, J)
def P_X4_lay_84 (Q : MI → MJ → Prop) (kL84 : Int32 × MI × MJ → Prop) : Int32 × MI × MJ → Prop := fun z => match z with
  | (x1, I, J) => ((x1 ≤ 0 → Q I J) ∧ (¬ x1 ≤ 0 → vp_in x1 1944 ∧ ((((I 48 x1.toNatClampNeg) = 0 → P_X4_lay_122 Q kL84 x1 I J) ∧ (¬ (I 48 x1.toNatClampNeg) = 0 → vp_in (I 46 9) 1944 ∧ (∀ I106 : MI, I106 = mI I 50 (I 46 9).toNatClampNeg x1 → (∀ I114 : MI, I114 = mI I106 46 9 ((I106 46 9) + (1 : Int32)) → P_X4_spread x1 I114 J (fun I119 J119 => P_X4_lay_122 Q kL84 x1 I119 J119))))))))
def P_X4_lay_79 (Q : MI → MJ → Prop) (I : MI) (J : MJ) : Prop :=
  lpx (P_X4_lay_84 Q) ((I 46 11), I, J)
def P_X4_lay_11 (Q : MI → MJ → Prop) (kL11 : Int32 × MI × MJ → Prop) : Int32 × MI × MJ → Prop := fun z => match z with
  | (x1, I, J) => (((I 46 11) < x1 → P_X8_packed 17 I J (fun r44 I44 J44 => vp_in (I 46 11) 1944 ∧ (∀ J47 : MJ, J47 = mJ J44 47 (I 46 11).toNatClampNeg r44 → vp_in (I44 46 11) 1944 ∧ (P_X4_listSteps (J47 47 (I44 46 11).toNatClampNeg) I44 J47 (fun I58 J58 => (((I58 46 11) ≤ 0 → P_X4_lay_79 Q I58 J58) ∧ (¬ (I58 46 11) ≤ 0 → vp_in (I58 46 11) 1944 ∧ (∀ I78 : MI, I78 = mI I58 48 (I58 46 11).toNatClampNeg (16 : Int32) → P_X4_lay_79 Q I78 J58)))))))) ∧ (¬ (I 46 11) < x1 → vp_in x1 1944 ∧ (∀ I25 : MI, I25 = mI I 48 x1.toNatClampNeg (0 : Int32) → kL11 ((x1 + 1), I25, J))))
def P_X4_lay (I : MI) (J : MJ) (Q : MI → MJ → Prop) : Prop :=
  P_X4_measure I J (fun I1 J1 => (∀ I6 : MI, I6 = mI I1 46 9 (0 : Int32) → lpx (P_X4_lay_11 Q) ((0 : Int32), I6, J1)))
abbrev rmX4_lay : Room := { frames := 2, cells := 0, slots := 0, locals := 49 }
set_option maxHeartbeats 4000000 in
set_option maxRecDepth 100000 in
theorem w_X4_lay_122 {Q : MI → MJ → Prop} (C : gC RX4 cX4_lay 2 none 66 ad cy D (xF ad ts) p s m args meth c) {kL84 : Int32 × MI × MJ → Prop} (hL84 : ∀ {x1 : Int32} {I : MI} {J : MJ} {H : Heap} {locs : List Loc} {ls : Array Slot}, kL84 (x1, I, J) → gH (xS ad cy) 66 ad D s I J H locs → lv_has ls 2 [(0, .ref (ad 46)), (1, .int x1)] → W p l e rmX4_lay s m args below meth c H locs 0 0 (MQ below (gQv (xS ad cy) 66 ad cy D (xF ad ts) Q) args s 0 0 (gA 66 ad)) (F0 m 84 ls [])) {x1 : Int32} {I : MI} {J : MJ} {H : Heap} {locs : List Loc} {ls : Array Slot} (h : P_X4_lay_122 Q kL84 x1 I J) (hw : gH (xS ad cy) 66 ad D s I J H locs) (hl : lv_has ls 2 [(0, .ref (ad 46)), (1, .int x1)]) : W p l e rmX4_lay s m args below meth c H locs 0 0 (MQ below (gQv (xS ad cy) 66 ad cy D (xF ad ts) Q) args s 0 0 (gA 66 ad)) (F0 m 122 ls []) := by
  obtain ⟨hx, hb, hC⟩ := id C
  refine lv_iinc (v := x1 + (-1)) (lv' := [(1, .int (x1 + (-1))), (0, .ref (ad 46))]) hx hb dX4_lay_122 hl (k := 1) rfl rfl (by decide) rfl (fun ls hl => ?_)
  refine lv_goto (tgt := 84) hx hb dX4_lay_125 (by decide) ?_
  exact hL84 h hw (lv_sub hl [1, 0] rfl)
set_option maxHeartbeats 4000000 in
set_option maxRecDepth 100000 in
theorem w_X4_lay_84 {Q : MI → MJ → Prop} (C : gC RX4 cX4_lay 2 none 66 ad cy D (xF ad ts) p s m args meth c) {kL84 : Int32 × MI × MJ → Prop} (hL84 : ∀ {x1 : Int32} {I : MI} {J : MJ} {H : Heap} {locs : List Loc} {ls : Array Slot}, kL84 (x1, I, J) → gH (xS ad cy) 66 ad D s I J H locs → lv_has ls 2 [(0, .ref (ad 46)), (1, .int x1)] → W p l e rmX4_lay s m args below meth c H locs 0 0 (MQ below (gQv (xS ad cy) 66 ad cy D (xF ad ts) Q) args s 0 0 (gA 66 ad)) (F0 m 84 ls [])) {x1 : Int32} {I : MI} {J : MJ} {H : Heap} {locs : List Loc} {ls : Array Slot} (h : P_X4_lay_84 Q kL84 (x1, I, J)) (hw : gH (xS ad cy) 66 ad D s I J H locs) (hl : lv_has ls 2 [(0, .ref (ad 46)), (1, .int x1)]) : W p l e rmX4_lay s m args below meth c H locs 0 0 (MQ below (gQv (xS ad cy) 66 ad cy D (xF ad ts) Q) args s 0 0 (gA 66 ad)) (F0 m 84 ls []) := by
  obtain ⟨hx, hb, hC⟩ := id C
  refine lv_iload_n hx hb dX4_lay_84 rfl (lv_at hl 1 rfl) ?_
  refine lv_if_le (tgt := 128) hx hb dX4_lay_85 (by decide) (fun c85 => ?_) (fun c85 => ?_)
  · have h := h.1 c85
    exact g_vret C hw h dX4_lay_128
  · have h := h.2 c85
    refine lv_aload_n hx hb dX4_lay_88 rfl (lv_at hl 0 rfl) ?_
    refine g_get C hw f_RX4_15 xl_46 (xs_46 _ _) rfl dX4_lay_89 ?_
    refine lv_iload_n hx hb dX4_lay_92 rfl (lv_at hl 1 rfl) ?_
    refine g_iald C hw xl_48 xs_48 h.1 dX4_lay_93 ?_
    have h := h.2
    refine lv_if_eq (tgt := 122) hx hb dX4_lay_94 (by decide) (fun c94 => ?_) (fun c94 => ?_)
    · have h := h.1 c94
      exact w_X4_lay_122 C hL84 h hw (lv_sub hl [0, 1] rfl)
    · have h := h.2 c94
      refine lv_aload_n hx hb dX4_lay_97 rfl (lv_at hl 0 rfl) ?_
      refine g_get C hw f_RX4_22 xl_46 (xs_46 _ _) rfl dX4_lay_98 ?_
      refine lv_aload_n hx hb dX4_lay_101 rfl (lv_at hl 0 rfl) ?_
      refine g_get C hw f_RX4_34 xl_46 (xs_46 _ _) rfl dX4_lay_102 ?_
      refine lv_iload_n hx hb dX4_lay_105 rfl (lv_at hl 1 rfl) ?_
      refine g_iast C hw xl_50 xs_50 h.1 dX4_lay_106 (fun H locs hw => ?_)
      have h := h.2
      obtain ⟨I106, e106⟩ : ∃ z : MI, z = mI I 50 (I 46 9).toNatClampNeg x1 := ⟨_, rfl⟩
      have h := h I106 e106
      rw [← e106] at hw
      refine lv_aload_n hx hb dX4_lay_107 rfl (lv_at hl 0 rfl) ?_
      refine lv_dup hx hb dX4_lay_108 rfl ?_
      refine g_get C hw f_RX4_34 xl_46 (xs_46 _ _) rfl dX4_lay_109 ?_
      refine lv_iconst (v := 1) hx hb dX4_lay_112 (by decide) ?_
      refine lv_iadd hx hb dX4_lay_113 ?_
      refine g_putI C hw fp_RX4_34 xl_46 xs_46 (st_4_9 ad _) (Nat.le_of_ble_eq_true rfl) rfl rfl dX4_lay_114 (fun H locs hw => ?_)
      obtain ⟨I114, e114⟩ : ∃ z : MI, z = mI I106 46 9 ((I106 46 9) + (1 : Int32)) := ⟨_, rfl⟩
      have h := h I114 e114
      rw [← e114] at hw
      refine lv_aload_n hx hb dX4_lay_117 rfl (lv_at hl 0 rfl) ?_
      refine lv_iload_n hx hb dX4_lay_118 rfl (lv_at hl 1 rfl) ?_
      refine g_cv hw (g_rV [.int x1] [] C hw (m_X4_spread h) k_X4_spread q_RX4_65 xl_46 (xs_46 _ _) rfl rfl hl.1 rfl (Nat.le_of_ble_eq_true rfl) ⟨⟨rfl, rfl⟩, Nat.le_of_ble_eq_true rfl, Nat.le_of_ble_eq_true rfl⟩ ⟨Nat.zero_le _, Nat.zero_le _⟩ dX4_lay_119) (fun I119 J119 H locs h hw => ?_)
      exact w_X4_lay_122 C hL84 h hw (lv_sub hl [0, 1] rfl)
theorem wl_X4_lay_84 {Q : MI → MJ → Prop} (C : gC RX4 cX4_lay 2 none 66 ad cy D (xF ad ts) p s m args meth c) {x1 : Int32} {I : MI} {J : MJ} {H : Heap} {locs : List Loc} {ls : Array Slot} (h : lpx (P_X4_lay_84 Q) (x1, I, J)) (hw : gH (xS ad cy) 66 ad D s I J H locs) (hl : lv_has ls 2 [(0, .ref (ad 46)), (1, .int x1)]) : W p l e rmX4_lay s m args below meth c H locs 0 0 (MQ below (gQv (xS ad cy) 66 ad cy D (xF ad ts) Q) args s 0 0 (gA 66 ad)) (F0 m 84 ls []) := by
  obtain ⟨n, h⟩ := h
  induction n generalizing x1 I J H locs ls with
  | zero => exact False.elim h
  | succ n ih => exact w_X4_lay_84 C  (fun hk9 hw9 hl9 => ih hw9 hl9 hk9) h hw hl
set_option maxHeartbeats 4000000 in
set_option maxRecDepth 100000 in
theorem w_X4_lay_79 {Q : MI → MJ → Prop} (C : gC RX4 cX4_lay 2 none 66 ad cy D (xF ad ts) p s m args meth c) {I : MI} {J : MJ} {H : Heap} {locs : List Loc} {ls : Array Slot} (h : P_X4_lay_79 Q I J) (hw : gH (xS ad cy) 66 ad D s I J H locs) (hl : lv_has ls 2 [(0, .ref (ad 46))]) : W p l e rmX4_lay s m args below meth c H locs 0 0 (MQ below (gQv (xS ad cy) 66 ad cy D (xF ad ts) Q) args s 0 0 (gA 66 ad)) (F0 m 79 ls []) := by
  obtain ⟨hx, hb, hC⟩ := id C
  refine lv_aload_n hx hb dX4_lay_79 rfl (lv_at hl 0 rfl) ?_
  refine g_get C hw f_RX4_41 xl_46 (xs_46 _ _) rfl dX4_lay_80 ?_
  refine lv_istore_n (lv' := [(1, .int (I 46 11)), (0, .ref (ad 46))]) hx hb dX4_lay_83 rfl hl (by decide) rfl (fun ls hl => ?_)
  exact wl_X4_lay_84 C  h hw (lv_sub hl [1, 0] rfl)
set_option maxHeartbeats 4000000 in
set_option maxRecDepth 100000 in
theorem w_X4_lay_11 {Q : MI → MJ → Prop} (C : gC RX4 cX4_lay 2 none 66 ad cy D (xF ad ts) p s m args meth c) {kL11 : Int32 × MI × MJ → Prop} (hL11 : ∀ {x1 : Int32} {I : MI} {J : MJ} {H : Heap} {locs : List Loc} {ls : Array Slot}, kL11 (x1, I, J) → gH (xS ad cy) 66 ad D s I J H locs → lv_has ls 2 [(0, .ref (ad 46)), (1, .int x1)] → W p l e rmX4_lay s m args below meth c H locs 0 0 (MQ below (gQv (xS ad cy) 66 ad cy D (xF ad ts) Q) args s 0 0 (gA 66 ad)) (F0 m 11 ls [])) {x1 : Int32} {I : MI} {J : MJ} {H : Heap} {locs : List Loc} {ls : Array Slot} (h : P_X4_lay_11 Q kL11 (x1, I, J)) (hw : gH (xS ad cy) 66 ad D s I J H locs) (hl : lv_has ls 2 [(0, .ref (ad 46)), (1, .int x1)]) : W p l e rmX4_lay s m args below meth c H locs 0 0 (MQ below (gQv (xS ad cy) 66 ad cy D (xF ad ts) Q) args s 0 0 (gA 66 ad)) (F0 m 11 ls []) := by
  obtain ⟨hx, hb, hC⟩ := id C
  refine lv_iload_n hx hb dX4_lay_11 rfl (lv_at hl 1 rfl) ?_
  refine lv_aload_n hx hb dX4_lay_12 rfl (lv_at hl 0 rfl) ?_
  refine g_get C hw f_RX4_41 xl_46 (xs_46 _ _) rfl dX4_lay_13 ?_
  refine lv_icmp_gt (tgt := 32) hx hb dX4_lay_16 (by decide) (fun c16 => ?_) (fun c16 => ?_)
  · have h := h.1 c16
    refine lv_aload_n hx hb dX4_lay_32 rfl (lv_at hl 0 rfl) ?_
    refine g_get C hw f_RX4_9 xl_46 (xs_46 _ _) rfl dX4_lay_33 ?_
    refine lv_aload_n hx hb dX4_lay_36 rfl (lv_at hl 0 rfl) ?_
    refine g_get C hw f_RX4_41 xl_46 (xs_46 _ _) rfl dX4_lay_37 ?_
    refine lv_aload_n hx hb dX4_lay_40 rfl (lv_at hl 0 rfl) ?_
    refine g_get C hw f_RX4_48 xl_46 (xs_46 _ _) rfl dX4_lay_41 ?_
    refine g_cl hw (g_rV [] [.int (I 46 11), .ref (ad 47)] C hw (m_X8_packed isSet_17 h) k_X8_packed q_RX4_55 xl_17 (xs_17 _ _) rfl rfl hl.1 rfl (Nat.le_of_ble_eq_true rfl) ⟨⟨rfl, rfl⟩, Nat.le_of_ble_eq_true rfl, Nat.le_of_ble_eq_true rfl⟩ ⟨Nat.zero_le _, Nat.zero_le _⟩ dX4_lay_44) (fun r44 I44 J44 H locs h hw => ?_)
    refine g_last C hw xl_47 xs_47 h.1 dX4_lay_47 (fun H locs hw => ?_)
    have h := h.2
    obtain ⟨J47, e47⟩ : ∃ z : MJ, z = mJ J44 47 (I 46 11).toNatClampNeg r44 := ⟨_, rfl⟩
    have h := h J47 e47
    rw [← e47] at hw
    refine lv_aload_n hx hb dX4_lay_48 rfl (lv_at hl 0 rfl) ?_
    refine lv_aload_n hx hb dX4_lay_49 rfl (lv_at hl 0 rfl) ?_
    refine g_get C hw f_RX4_9 xl_46 (xs_46 _ _) rfl dX4_lay_50 ?_
    refine lv_aload_n hx hb dX4_lay_53 rfl (lv_at hl 0 rfl) ?_
    refine g_get C hw f_RX4_41 xl_46 (xs_46 _ _) rfl dX4_lay_54 ?_
    refine g_lald C hw xl_47 xs_47 h.1 dX4_lay_57 ?_
    have h := h.2
    refine g_cv hw (g_rV [.long (J47 47 (I44 46 11).toNatClampNeg)] [] C hw (m_X4_listSteps h) k_X4_listSteps q_RX4_61 xl_46 (xs_46 _ _) rfl rfl hl.1 rfl (Nat.le_of_ble_eq_true rfl) ⟨⟨rfl, rfl⟩, Nat.le_of_ble_eq_true rfl, Nat.le_of_ble_eq_true rfl⟩ ⟨Nat.zero_le _, Nat.zero_le _⟩ dX4_lay_58) (fun I58 J58 H locs h hw => ?_)
    refine lv_aload_n hx hb dX4_lay_61 rfl (lv_at hl 0 rfl) ?_
    refine g_get C hw f_RX4_41 xl_46 (xs_46 _ _) rfl dX4_lay_62 ?_
    refine lv_if_le (tgt := 79) hx hb dX4_lay_65 (by decide) (fun c65 => ?_) (fun c65 => ?_)
    · have h := h.1 c65
      exact w_X4_lay_79 C  h hw (lv_sub hl [0] rfl)
    · have h := h.2 c65
      refine lv_aload_n hx hb dX4_lay_68 rfl (lv_at hl 0 rfl) ?_
      refine g_get C hw f_RX4_15 xl_46 (xs_46 _ _) rfl dX4_lay_69 ?_
      refine lv_aload_n hx hb dX4_lay_72 rfl (lv_at hl 0 rfl) ?_
      refine g_get C hw f_RX4_41 xl_46 (xs_46 _ _) rfl dX4_lay_73 ?_
      refine lv_bipush (v := 16) hx hb dX4_lay_76 (by decide) ?_
      refine g_iast C hw xl_48 xs_48 h.1 dX4_lay_78 (fun H locs hw => ?_)
      have h := h.2
      obtain ⟨I78, e78⟩ : ∃ z : MI, z = mI I58 48 (I58 46 11).toNatClampNeg (16 : Int32) := ⟨_, rfl⟩
      have h := h I78 e78
      rw [← e78] at hw
      exact w_X4_lay_79 C  h hw (lv_sub hl [0] rfl)
  · have h := h.2 c16
    refine lv_aload_n hx hb dX4_lay_19 rfl (lv_at hl 0 rfl) ?_
    refine g_get C hw f_RX4_15 xl_46 (xs_46 _ _) rfl dX4_lay_20 ?_
    refine lv_iload_n hx hb dX4_lay_23 rfl (lv_at hl 1 rfl) ?_
    refine lv_iconst (v := 0) hx hb dX4_lay_24 (by decide) ?_
    refine g_iast C hw xl_48 xs_48 h.1 dX4_lay_25 (fun H locs hw => ?_)
    have h := h.2
    obtain ⟨I25, e25⟩ : ∃ z : MI, z = mI I 48 x1.toNatClampNeg (0 : Int32) := ⟨_, rfl⟩
    have h := h I25 e25
    rw [← e25] at hw
    refine lv_iinc (v := x1 + 1) (lv' := [(1, .int (x1 + 1)), (0, .ref (ad 46))]) hx hb dX4_lay_26 hl (k := 1) rfl rfl (by decide) rfl (fun ls hl => ?_)
    refine lv_goto (tgt := 11) hx hb dX4_lay_29 (by decide) ?_
    exact hL11 h hw (lv_sub hl [1, 0] rfl)
theorem wl_X4_lay_11 {Q : MI → MJ → Prop} (C : gC RX4 cX4_lay 2 none 66 ad cy D (xF ad ts) p s m args meth c) {x1 : Int32} {I : MI} {J : MJ} {H : Heap} {locs : List Loc} {ls : Array Slot} (h : lpx (P_X4_lay_11 Q) (x1, I, J)) (hw : gH (xS ad cy) 66 ad D s I J H locs) (hl : lv_has ls 2 [(0, .ref (ad 46)), (1, .int x1)]) : W p l e rmX4_lay s m args below meth c H locs 0 0 (MQ below (gQv (xS ad cy) 66 ad cy D (xF ad ts) Q) args s 0 0 (gA 66 ad)) (F0 m 11 ls []) := by
  obtain ⟨n, h⟩ := h
  induction n generalizing x1 I J H locs ls with
  | zero => exact False.elim h
  | succ n ih => exact w_X4_lay_11 C  (fun hk9 hw9 hl9 => ih hw9 hl9 hk9) h hw hl
set_option maxHeartbeats 4000000 in
set_option maxRecDepth 100000 in
theorem w_X4_lay {Q : MI → MJ → Prop} (C : gC RX4 cX4_lay 2 none 66 ad cy D (xF ad ts) p s m args meth c) {I : MI} {J : MJ} {H : Heap} {locs : List Loc} {ls : Array Slot} (h : P_X4_lay I J Q) (hw : gH (xS ad cy) 66 ad D s I J H locs) (hl : lv_has ls 2 [(0, .ref (ad 46))]) : W p l e rmX4_lay s m args below meth c H locs 0 0 (MQ below (gQv (xS ad cy) 66 ad cy D (xF ad ts) Q) args s 0 0 (gA 66 ad)) (F0 m 0 ls []) := by
  obtain ⟨hx, hb, hC⟩ := id C
  refine lv_aload_n hx hb dX4_lay_0 rfl (lv_at hl 0 rfl) ?_
  refine g_cv hw (g_rV [] [] C hw (m_X4_measure h) k_X4_measure q_RX4_52 xl_46 (xs_46 _ _) rfl rfl hl.1 rfl (Nat.le_of_ble_eq_true rfl) ⟨⟨rfl, rfl⟩, Nat.le_of_ble_eq_true rfl, Nat.le_of_ble_eq_true rfl⟩ ⟨Nat.zero_le _, Nat.zero_le _⟩ dX4_lay_1) (fun I1 J1 H locs h hw => ?_)
  refine lv_aload_n hx hb dX4_lay_4 rfl (lv_at hl 0 rfl) ?_
  refine lv_iconst (v := 0) hx hb dX4_lay_5 (by decide) ?_
  refine g_putI C hw fp_RX4_34 xl_46 xs_46 (st_4_9 ad _) (Nat.le_of_ble_eq_true rfl) rfl rfl dX4_lay_6 (fun H locs hw => ?_)
  obtain ⟨I6, e6⟩ : ∃ z : MI, z = mI I1 46 9 (0 : Int32) := ⟨_, rfl⟩
  have h := h I6 e6
  rw [← e6] at hw
  refine lv_iconst (v := 0) hx hb dX4_lay_9 (by decide) ?_
  refine lv_istore_n (lv' := [(1, .int (0 : Int32)), (0, .ref (ad 46))]) hx hb dX4_lay_10 rfl hl (by decide) rfl (fun ls hl => ?_)
  exact wl_X4_lay_11 C  h hw (lv_sub hl [1, 0] rfl)
theorem m_X4_lay {l : Launch} {Q : MI → MJ → Prop} {I : MI} {J : MJ} (h : P_X4_lay I J Q) : Met l yX4_lay (xws yX4_lay cX4_lay 2 none) rmX4_lay (va_Pc [.ref (ad 46)] (gB (xS ad cy) 66 ad cy D (xF ad ts) I J)) (gQv (xS ad cy) 66 ad cy D (xF ad ts) Q) 0 0 (gA 66 ad) :=
  g_met (xF_ok ad ts) rfl (by decide) (Nat.le_of_ble_eq_true rfl) (fun p e s m below meth c ls C hw hl => w_X4_lay C  h hw hl)
/-! BagPhrases$Lattice.ground(LBagPhrases$Way;[J)V -/
def P_X4_ground_34 (w0 : Nat) (w1 : Nat) (Q : MI → MJ → Prop) (kL2 : Int32 × MI × MJ → Prop) (x3 : Int32) (s1 : Int32) (s2 : Int64) (I : MI) (J : MJ) : Prop :=
  vp_in s1 5184 ∧ (∀ J34 : MJ, J34 = mJ J w1 s1.toNatClampNeg s2 → kL2 ((x3 + 1), I, J34))
def P_X4_ground_2 (w0 : Nat) (w1 : Nat) (Q : MI → MJ → Prop) (kL2 : Int32 × MI × MJ → Prop) : Int32 × MI × MJ → Prop := fun z => match z with
  | (x3, I, J) => (((4 : Int32) ≤ x3 → Q I J) ∧ (¬ (4 : Int32) ≤ x3 → (((((I 17 4) >>> (x3 &&& 31)) &&& (1 : Int32)) = 0 → PW_none w0 I J (fun r31 I31 J31 => P_X4_ground_34 w0 w1 Q kL2 x3 x3 r31 I31 J31)) ∧ (¬ (((I 17 4) >>> (x3 &&& 31)) &&& (1 : Int32)) = 0 → PW_ended w0 I J (fun r24 I24 J24 => P_X4_ground_34 w0 w1 Q kL2 x3 x3 r24 I24 J24)))))
def P_X4_ground (w0 : Nat) (w1 : Nat) (I : MI) (J : MJ) (Q : MI → MJ → Prop) : Prop :=
  lpx (P_X4_ground_2 w0 w1 Q) ((0 : Int32), I, J)
abbrev rmX4_ground : Room := { frames := 2, cells := 0, slots := 0, locals := 60 }
set_option maxHeartbeats 4000000 in
set_option maxRecDepth 100000 in
theorem w_X4_ground_34 {Q : MI → MJ → Prop} (C : gC RX4 cX4_ground 4 none 66 ad cy D (xF ad ts) p s m args meth c) {w0 : Nat} (hw0 : isWay w0) {w1 : Nat} (hw1 : isTl w1) {kL2 : Int32 × MI × MJ → Prop} (hL2 : ∀ {x3 : Int32} {I : MI} {J : MJ} {H : Heap} {locs : List Loc} {ls : Array Slot}, kL2 (x3, I, J) → gH (xS ad cy) 66 ad D s I J H locs → lv_has ls 4 [(0, .ref (ad 46)), (1, .ref (ad w0)), (2, .ref (ad w1)), (3, .int x3)] → W p l e rmX4_ground s m args below meth c H locs 0 0 (MQ below (gQv (xS ad cy) 66 ad cy D (xF ad ts) Q) args s 0 0 (gA 66 ad)) (F0 m 2 ls [])) {x3 : Int32} {s1 : Int32} {s2 : Int64} {I : MI} {J : MJ} {H : Heap} {locs : List Loc} {ls : Array Slot} (h : P_X4_ground_34 w0 w1 Q kL2 x3 s1 s2 I J) (hw : gH (xS ad cy) 66 ad D s I J H locs) (hl : lv_has ls 4 [(0, .ref (ad 46)), (1, .ref (ad w0)), (2, .ref (ad w1)), (3, .int x3)]) : W p l e rmX4_ground s m args below meth c H locs 0 0 (MQ below (gQv (xS ad cy) 66 ad cy D (xF ad ts) Q) args s 0 0 (gA 66 ad)) (F0 m 34 ls [.long s2, .int s1, .ref (ad w1)]) := by
  obtain ⟨hx, hb, hC⟩ := id C
  refine g_last C hw (xl_Tl0 hw1) (xs_Tl0 hw1) h.1 dX4_ground_34 (fun H locs hw => ?_)
  have h := h.2
  obtain ⟨J34, e34⟩ : ∃ z : MJ, z = mJ J w1 s1.toNatClampNeg s2 := ⟨_, rfl⟩
  have h := h J34 e34
  rw [← e34] at hw
  refine lv_iinc (v := x3 + 1) (lv' := [(3, .int (x3 + 1)), (0, .ref (ad 46)), (1, .ref (ad w0)), (2, .ref (ad w1))]) hx hb dX4_ground_35 hl (k := 3) rfl rfl (by decide) rfl (fun ls hl => ?_)
  refine lv_goto (tgt := 2) hx hb dX4_ground_38 (by decide) ?_
  exact hL2 h hw (lv_sub hl [1, 2, 3, 0] rfl)
set_option maxHeartbeats 4000000 in
set_option maxRecDepth 100000 in
theorem w_X4_ground_2 {Q : MI → MJ → Prop} (C : gC RX4 cX4_ground 4 none 66 ad cy D (xF ad ts) p s m args meth c) {w0 : Nat} (hw0 : isWay w0) {w1 : Nat} (hw1 : isTl w1) {kL2 : Int32 × MI × MJ → Prop} (hL2 : ∀ {x3 : Int32} {I : MI} {J : MJ} {H : Heap} {locs : List Loc} {ls : Array Slot}, kL2 (x3, I, J) → gH (xS ad cy) 66 ad D s I J H locs → lv_has ls 4 [(0, .ref (ad 46)), (1, .ref (ad w0)), (2, .ref (ad w1)), (3, .int x3)] → W p l e rmX4_ground s m args below meth c H locs 0 0 (MQ below (gQv (xS ad cy) 66 ad cy D (xF ad ts) Q) args s 0 0 (gA 66 ad)) (F0 m 2 ls [])) {x3 : Int32} {I : MI} {J : MJ} {H : Heap} {locs : List Loc} {ls : Array Slot} (h : P_X4_ground_2 w0 w1 Q kL2 (x3, I, J)) (hw : gH (xS ad cy) 66 ad D s I J H locs) (hl : lv_has ls 4 [(0, .ref (ad 46)), (1, .ref (ad w0)), (2, .ref (ad w1)), (3, .int x3)]) : W p l e rmX4_ground s m args below meth c H locs 0 0 (MQ below (gQv (xS ad cy) 66 ad cy D (xF ad ts) Q) args s 0 0 (gA 66 ad)) (F0 m 2 ls []) := by
  obtain ⟨hx, hb, hC⟩ := id C
  refine lv_iload_n hx hb dX4_ground_2 rfl (lv_at hl 3 rfl) ?_
  refine lv_iconst (v := 4) hx hb dX4_ground_3 (by decide) ?_
  refine lv_icmp_ge (tgt := 41) hx hb dX4_ground_4 (by decide) (fun c4 => ?_) (fun c4 => ?_)
  · have h := h.1 c4
    exact g_vret C hw h dX4_ground_41
  · have h := h.2 c4
    refine lv_aload_n hx hb dX4_ground_7 rfl (lv_at hl 2 rfl) ?_
    refine lv_iload_n hx hb dX4_ground_8 rfl (lv_at hl 3 rfl) ?_
    refine lv_aload_n hx hb dX4_ground_9 rfl (lv_at hl 0 rfl) ?_
    refine g_get C hw f_RX4_48 xl_46 (xs_46 _ _) rfl dX4_ground_10 ?_
    refine g_get C hw f_RX4_96 xl_17 (xs_17 _ _) rfl dX4_ground_13 ?_
    refine lv_iload_n hx hb dX4_ground_16 rfl (lv_at hl 3 rfl) ?_
    refine lv_ishr hx hb dX4_ground_17 ?_
    refine lv_iconst (v := 1) hx hb dX4_ground_18 (by decide) ?_
    refine lv_iand hx hb dX4_ground_19 ?_
    refine lv_if_eq (tgt := 30) hx hb dX4_ground_20 (by decide) (fun c20 => ?_) (fun c20 => ?_)
    · have h := h.1 c20
      refine lv_aload_n hx hb dX4_ground_30 rfl (lv_at hl 1 rfl) ?_
      refine g_cl hw (g_Wnone (rest := [.int x3, .ref (ad w1)]) C hw hw0 h hl.1 rfl (Nat.le_of_ble_eq_true rfl) (Nat.le_of_ble_eq_true rfl) (Nat.le_of_ble_eq_true rfl) dX4_ground_31) (fun r31 I31 J31 H locs h hw => ?_)
      exact w_X4_ground_34 C hw0 hw1 hL2 h hw (lv_sub hl [0, 1, 2, 3] rfl)
    · have h := h.2 c20
      refine lv_aload_n hx hb dX4_ground_23 rfl (lv_at hl 1 rfl) ?_
      refine g_cl hw (g_Wended (rest := [.int x3, .ref (ad w1)]) C hw hw0 h hl.1 rfl (Nat.le_of_ble_eq_true rfl) (Nat.le_of_ble_eq_true rfl) (Nat.le_of_ble_eq_true rfl) dX4_ground_24) (fun r24 I24 J24 H locs h hw => ?_)
      refine lv_goto (tgt := 34) hx hb dX4_ground_27 (by decide) ?_
      exact w_X4_ground_34 C hw0 hw1 hL2 h hw (lv_sub hl [0, 1, 2, 3] rfl)
theorem wl_X4_ground_2 {Q : MI → MJ → Prop} (C : gC RX4 cX4_ground 4 none 66 ad cy D (xF ad ts) p s m args meth c) {w0 : Nat} (hw0 : isWay w0) {w1 : Nat} (hw1 : isTl w1) {x3 : Int32} {I : MI} {J : MJ} {H : Heap} {locs : List Loc} {ls : Array Slot} (h : lpx (P_X4_ground_2 w0 w1 Q) (x3, I, J)) (hw : gH (xS ad cy) 66 ad D s I J H locs) (hl : lv_has ls 4 [(0, .ref (ad 46)), (1, .ref (ad w0)), (2, .ref (ad w1)), (3, .int x3)]) : W p l e rmX4_ground s m args below meth c H locs 0 0 (MQ below (gQv (xS ad cy) 66 ad cy D (xF ad ts) Q) args s 0 0 (gA 66 ad)) (F0 m 2 ls []) := by
  obtain ⟨n, h⟩ := h
  induction n generalizing x3 I J H locs ls with
  | zero => exact False.elim h
  | succ n ih => exact w_X4_ground_2 C hw0 hw1 (fun hk9 hw9 hl9 => ih hw9 hl9 hk9) h hw hl
set_option maxHeartbeats 4000000 in
set_option maxRecDepth 100000 in
theorem w_X4_ground {Q : MI → MJ → Prop} (C : gC RX4 cX4_ground 4 none 66 ad cy D (xF ad ts) p s m args meth c) {w0 : Nat} (hw0 : isWay w0) {w1 : Nat} (hw1 : isTl w1) {I : MI} {J : MJ} {H : Heap} {locs : List Loc} {ls : Array Slot} (h : P_X4_ground w0 w1 I J Q) (hw : gH (xS ad cy) 66 ad D s I J H locs) (hl : lv_has ls 4 [(0, .ref (ad 46)), (1, .ref (ad w0)), (2, .ref (ad w1))]) : W p l e rmX4_ground s m args below meth c H locs 0 0 (MQ below (gQv (xS ad cy) 66 ad cy D (xF ad ts) Q) args s 0 0 (gA 66 ad)) (F0 m 0 ls []) := by
  obtain ⟨hx, hb, hC⟩ := id C
  refine lv_iconst (v := 0) hx hb dX4_ground_0 (by decide) ?_
  refine lv_istore_n (lv' := [(3, .int (0 : Int32)), (0, .ref (ad 46)), (1, .ref (ad w0)), (2, .ref (ad w1))]) hx hb dX4_ground_1 rfl hl (by decide) rfl (fun ls hl => ?_)
  exact wl_X4_ground_2 C hw0 hw1 h hw (lv_sub hl [1, 2, 3, 0] rfl)
theorem m_X4_ground {l : Launch} {w0 : Nat} (hw0 : isWay w0) {w1 : Nat} (hw1 : isTl w1) {Q : MI → MJ → Prop} {I : MI} {J : MJ} (h : P_X4_ground w0 w1 I J Q) : Met l yX4_ground (xws yX4_ground cX4_ground 4 none) rmX4_ground (va_Pc [.ref (ad 46), .ref (ad w0), .ref (ad w1)] (gB (xS ad cy) 66 ad cy D (xF ad ts) I J)) (gQv (xS ad cy) 66 ad cy D (xF ad ts) Q) 0 0 (gA 66 ad) :=
  g_met (xF_ok ad ts) rfl (by decide) (Nat.le_of_ble_eq_true rfl) (fun p e s m below meth c ls C hw hl => w_X4_ground C hw0 hw1 h hw hl)
/-! BagPhrases$Lattice.tailBehind([JII)J -/
def P_X4_tailBehind_41 (w0 : Nat) (Q : Int64 → MI → MJ → Prop) (I : MI) (J : MJ) : Prop :=
  Q (0 : Int64) I J
def P_X4_tailBehind (w0 : Nat) (a1 : Int32) (a2 : Int32) (I : MI) (J : MJ) (Q : Int64 → MI → MJ → Prop) : Prop :=
  vp_in a2 10 ∧ (vp_in a2 10 ∧ ((((((a1 - (I 52 a2.toNatClampNeg)) * (4 : Int32)) + (I 13 a2.toNatClampNeg)) < 0 → P_X4_tailBehind_41 w0 Q I J) ∧ (¬ (((a1 - (I 52 a2.toNatClampNeg)) * (4 : Int32)) + (I 13 a2.toNatClampNeg)) < 0 → (((5184 : Int32) ≤ (((a1 - (I 52 a2.toNatClampNeg)) * (4 : Int32)) + (I 13 a2.toNatClampNeg)) → P_X4_tailBehind_41 w0 Q I J) ∧ (¬ (5184 : Int32) ≤ (((a1 - (I 52 a2.toNatClampNeg)) * (4 : Int32)) + (I 13 a2.toNatClampNeg)) → vp_in (((a1 - (I 52 a2.toNatClampNeg)) * (4 : Int32)) + (I 13 a2.toNatClampNeg)) 5184 ∧ (Q (J w0 (((a1 - (I 52 a2.toNatClampNeg)) * (4 : Int32)) + (I 13 a2.toNatClampNeg)).toNatClampNeg) I J)))))))
abbrev rmX4_tailBehind : Room := { frames := 0, cells := 0, slots := 0, locals := 0 }
set_option maxHeartbeats 4000000 in
set_option maxRecDepth 100000 in
theorem w_X4_tailBehind_41 {Q : Int64 → MI → MJ → Prop} (C : gC RX4 cX4_tailBehind 5 (some .long) 66 ad cy D (xF ad ts) p s m args meth c) {w0 : Nat} (hw0 : isTl w0) {I : MI} {J : MJ} {H : Heap} {locs : List Loc} {ls : Array Slot} (h : P_X4_tailBehind_41 w0 Q I J) (hw : gH (xS ad cy) 66 ad D s I J H locs) (hl : lv_has ls 5 []) : W p l e rmX4_tailBehind s m args below meth c H locs 0 0 (MQ below (gQl (xS ad cy) 66 ad cy D (xF ad ts) Q) args s 0 0 (gA 66 ad)) (F0 m 41 ls []) := by
  obtain ⟨hx, hb, hC⟩ := id C
  refine lv_lconst (v := 0) hx hb dX4_tailBehind_41 (by decide) ?_
  exact g_lret C hw h dX4_tailBehind_42
set_option maxHeartbeats 4000000 in
set_option maxRecDepth 100000 in
theorem w_X4_tailBehind {Q : Int64 → MI → MJ → Prop} (C : gC RX4 cX4_tailBehind 5 (some .long) 66 ad cy D (xF ad ts) p s m args meth c) {w0 : Nat} (hw0 : isTl w0) {a1 : Int32} {a2 : Int32} {I : MI} {J : MJ} {H : Heap} {locs : List Loc} {ls : Array Slot} (h : P_X4_tailBehind w0 a1 a2 I J Q) (hw : gH (xS ad cy) 66 ad D s I J H locs) (hl : lv_has ls 5 [(0, .ref (ad 46)), (1, .ref (ad w0)), (2, .int a1), (3, .int a2)]) : W p l e rmX4_tailBehind s m args below meth c H locs 0 0 (MQ below (gQl (xS ad cy) 66 ad cy D (xF ad ts) Q) args s 0 0 (gA 66 ad)) (F0 m 0 ls []) := by
  obtain ⟨hx, hb, hC⟩ := id C
  refine lv_iload_n hx hb dX4_tailBehind_0 rfl (lv_at hl 2 rfl) ?_
  refine lv_aload_n hx hb dX4_tailBehind_1 rfl (lv_at hl 0 rfl) ?_
  refine g_get C hw f_RX4_28 xl_46 (xs_46 _ _) rfl dX4_tailBehind_2 ?_
  refine lv_iload_n hx hb dX4_tailBehind_5 rfl (lv_at hl 3 rfl) ?_
  refine g_iald C hw xl_52 xs_52 h.1 dX4_tailBehind_6 ?_
  have h := h.2
  refine lv_isub hx hb dX4_tailBehind_7 ?_
  refine lv_iconst (v := 4) hx hb dX4_tailBehind_8 (by decide) ?_
  refine lv_imul hx hb dX4_tailBehind_9 ?_
  refine lv_aload_n hx hb dX4_tailBehind_10 rfl (lv_at hl 0 rfl) ?_
  refine g_get C hw f_RX4_44 xl_46 (xs_46 _ _) rfl dX4_tailBehind_11 ?_
  refine g_get C hw f_RX4_93 xl_12 (xs_12 _ _) rfl dX4_tailBehind_14 ?_
  refine lv_iload_n hx hb dX4_tailBehind_17 rfl (lv_at hl 3 rfl) ?_
  refine g_iald C hw xl_13 xs_13 h.1 dX4_tailBehind_18 ?_
  have h := h.2
  refine lv_iadd hx hb dX4_tailBehind_19 ?_
  refine lv_istore (lv' := [(4, .int (((a1 - (I 52 a2.toNatClampNeg)) * (4 : Int32)) + (I 13 a2.toNatClampNeg))), (0, .ref (ad 46)), (1, .ref (ad w0)), (2, .int a1), (3, .int a2)]) hx hb dX4_tailBehind_20 hl (by decide) rfl (fun ls hl => ?_)
  refine lv_iload hx hb dX4_tailBehind_22 (lv_at hl 0 rfl) ?_
  refine lv_if_lt (tgt := 41) hx hb dX4_tailBehind_24 (by decide) (fun c24 => ?_) (fun c24 => ?_)
  · have h := h.1 c24
    exact w_X4_tailBehind_41 C hw0 h hw (lv_sub hl [] rfl)
  · have h := h.2 c24
    refine lv_iload hx hb dX4_tailBehind_27 (lv_at hl 0 rfl) ?_
    refine lv_aload_n hx hb dX4_tailBehind_29 rfl (lv_at hl 2 rfl) ?_
    refine g_alen (v := 5184) C hw (xl_Tl0 hw0) (xs_Tl0 hw0) (by decide) dX4_tailBehind_30 ?_
    refine lv_icmp_ge (tgt := 41) hx hb dX4_tailBehind_31 (by decide) (fun c31 => ?_) (fun c31 => ?_)
    · have h := h.1 c31
      exact w_X4_tailBehind_41 C hw0 h hw (lv_sub hl [] rfl)
    · have h := h.2 c31
      refine lv_aload_n hx hb dX4_tailBehind_34 rfl (lv_at hl 2 rfl) ?_
      refine lv_iload hx hb dX4_tailBehind_35 (lv_at hl 0 rfl) ?_
      refine g_lald C hw (xl_Tl0 hw0) (xs_Tl0 hw0) h.1 dX4_tailBehind_37 ?_
      have h := h.2
      refine lv_goto (tgt := 42) hx hb dX4_tailBehind_38 (by decide) ?_
      exact g_lret C hw h dX4_tailBehind_42
theorem m_X4_tailBehind {l : Launch} {w0 : Nat} (hw0 : isTl w0) {a1 : Int32} {a2 : Int32} {Q : Int64 → MI → MJ → Prop} {I : MI} {J : MJ} (h : P_X4_tailBehind w0 a1 a2 I J Q) : Met l yX4_tailBehind (xws yX4_tailBehind cX4_tailBehind 5 (some .long)) rmX4_tailBehind (va_Pc [.ref (ad 46), .ref (ad w0), .int a1, .int a2] (gB (xS ad cy) 66 ad cy D (xF ad ts) I J)) (gQl (xS ad cy) 66 ad cy D (xF ad ts) Q) 0 0 (gA 66 ad) :=
  g_met (xF_ok ad ts) rfl (by decide) (Nat.le_of_ble_eq_true rfl) (fun p e s m below meth c ls C hw hl => w_X4_tailBehind C hw0 h hw hl)
/-! BagPhrases$Lattice.gather(LBagPhrases$Way;II[J)V -/
def P_X4_gather_91 (w0 : Nat) (w3 : Nat) (Q : MI → MJ → Prop) (kL29 : Int32 × Int32 × Int32 × MI × MJ → Prop) (x2 : Int32) (x3 : Int32) (x5 : Int32) (I : MI) (J : MJ) : Prop :=
  kL29 (x2, x3, (x5 + 1), I, J)
def P_X4_gather_29 (w0 : Nat) (w3 : Nat) (Q : MI → MJ → Prop) (kL29 : Int32 × Int32 × Int32 × MI × MJ → Prop) : Int32 × Int32 × Int32 × MI × MJ → Prop := fun z => match z with
  | (x2, x3, x5, I, J) => (((I 12 4) ≤ x5 → Q I J) ∧ (¬ (I 12 4) ≤ x5 → ((((x2 >>> (x5 &&& 31)) &&& (1 : Int32)) = 0 → P_X4_gather_91 w0 w3 Q kL29 x2 x3 x5 I J) ∧ (¬ ((x2 >>> (x5 &&& 31)) &&& (1 : Int32)) = 0 → vp_in x5 10 ∧ (vp_in (I 13 x5.toNatClampNeg) 4 ∧ (P_X4_tailBehind w3 x3 x5 I J (fun r82 I82 J82 => PW_with w0 (J 53 (I 13 x5.toNatClampNeg).toNatClampNeg) r82 x5 I82 J82 (fun r87 I87 J87 => vp_in (I 13 x5.toNatClampNeg) 4 ∧ (∀ J90 : MJ, J90 = mJ J87 53 (I 13 x5.toNatClampNeg).toNatClampNeg r87 → P_X4_gather_91 w0 w3 Q kL29 x2 x3 x5 I87 J90)))))))))
def P_X4_gather_3 (w0 : Nat) (w3 : Nat) (Q : MI → MJ → Prop) (kL3 : Int32 × Int32 × Int32 × MI × MJ → Prop) : Int32 × Int32 × Int32 × MI × MJ → Prop := fun z => match z with
  | (x2, x3, x5, I, J) => (((4 : Int32) ≤ x5 → lpx (P_X4_gather_29 w0 w3 Q) (x2, x3, (0 : Int32), I, J)) ∧ (¬ (4 : Int32) ≤ x5 → PW_none w0 I J (fun r16 I16 J16 => vp_in x5 4 ∧ (∀ J19 : MJ, J19 = mJ J16 53 x5.toNatClampNeg r16 → kL3 (x2, x3, (x5 + 1), I16, J19)))))
def P_X4_gather (w0 : Nat) (w3 : Nat) (a1 : Int32) (a2 : Int32) (I : MI) (J : MJ) (Q : MI → MJ → Prop) : Prop :=
  lpx (P_X4_gather_3 w0 w3 Q) (a1, a2, (0 : Int32), I, J)
abbrev rmX4_gather : Room := { frames := 2, cells := 0, slots := 0, locals := 60 }
set_option maxHeartbeats 4000000 in
set_option maxRecDepth 100000 in
theorem w_X4_gather_91 {Q : MI → MJ → Prop} (C : gC RX4 cX4_gather 7 none 66 ad cy D (xF ad ts) p s m args meth c) {w0 : Nat} (hw0 : isWay w0) {w3 : Nat} (hw3 : isTl w3) {kL29 : Int32 × Int32 × Int32 × MI × MJ → Prop} (hL29 : ∀ {x2 : Int32} {x3 : Int32} {x5 : Int32} {I : MI} {J : MJ} {H : Heap} {locs : List Loc} {ls : Array Slot}, kL29 (x2, x3, x5, I, J) → gH (xS ad cy) 66 ad D s I J H locs → lv_has ls 7 [(0, .ref (ad 46)), (1, .ref (ad w0)), (2, .int x2), (3, .int x3), (4, .ref (ad w3)), (5, .int x5)] → W p l e rmX4_gather s m args below meth c H locs 0 0 (MQ below (gQv (xS ad cy) 66 ad cy D (xF ad ts) Q) args s 0 0 (gA 66 ad)) (F0 m 29 ls [])) {x2 : Int32} {x3 : Int32} {x5 : Int32} {I : MI} {J : MJ} {H : Heap} {locs : List Loc} {ls : Array Slot} (h : P_X4_gather_91 w0 w3 Q kL29 x2 x3 x5 I J) (hw : gH (xS ad cy) 66 ad D s I J H locs) (hl : lv_has ls 7 [(0, .ref (ad 46)), (1, .ref (ad w0)), (2, .int x2), (3, .int x3), (4, .ref (ad w3)), (5, .int x5)]) : W p l e rmX4_gather s m args below meth c H locs 0 0 (MQ below (gQv (xS ad cy) 66 ad cy D (xF ad ts) Q) args s 0 0 (gA 66 ad)) (F0 m 91 ls []) := by
  obtain ⟨hx, hb, hC⟩ := id C
  refine lv_iinc (v := x5 + 1) (lv' := [(5, .int (x5 + 1)), (0, .ref (ad 46)), (1, .ref (ad w0)), (2, .int x2), (3, .int x3), (4, .ref (ad w3))]) hx hb dX4_gather_91 hl (k := 5) rfl rfl (by decide) rfl (fun ls hl => ?_)
  refine lv_goto (tgt := 29) hx hb dX4_gather_94 (by decide) ?_
  exact hL29 h hw (lv_sub hl [1, 2, 3, 4, 5, 0] rfl)
set_option maxHeartbeats 4000000 in
set_option maxRecDepth 100000 in
theorem w_X4_gather_29 {Q : MI → MJ → Prop} (C : gC RX4 cX4_gather 7 none 66 ad cy D (xF ad ts) p s m args meth c) {w0 : Nat} (hw0 : isWay w0) {w3 : Nat} (hw3 : isTl w3) {kL29 : Int32 × Int32 × Int32 × MI × MJ → Prop} (hL29 : ∀ {x2 : Int32} {x3 : Int32} {x5 : Int32} {I : MI} {J : MJ} {H : Heap} {locs : List Loc} {ls : Array Slot}, kL29 (x2, x3, x5, I, J) → gH (xS ad cy) 66 ad D s I J H locs → lv_has ls 7 [(0, .ref (ad 46)), (1, .ref (ad w0)), (2, .int x2), (3, .int x3), (4, .ref (ad w3)), (5, .int x5)] → W p l e rmX4_gather s m args below meth c H locs 0 0 (MQ below (gQv (xS ad cy) 66 ad cy D (xF ad ts) Q) args s 0 0 (gA 66 ad)) (F0 m 29 ls [])) {x2 : Int32} {x3 : Int32} {x5 : Int32} {I : MI} {J : MJ} {H : Heap} {locs : List Loc} {ls : Array Slot} (h : P_X4_gather_29 w0 w3 Q kL29 (x2, x3, x5, I, J)) (hw : gH (xS ad cy) 66 ad D s I J H locs) (hl : lv_has ls 7 [(0, .ref (ad 46)), (1, .ref (ad w0)), (2, .int x2), (3, .int x3), (4, .ref (ad w3)), (5, .int x5)]) : W p l e rmX4_gather s m args below meth c H locs 0 0 (MQ below (gQv (xS ad cy) 66 ad cy D (xF ad ts) Q) args s 0 0 (gA 66 ad)) (F0 m 29 ls []) := by
  obtain ⟨hx, hb, hC⟩ := id C
  refine lv_iload hx hb dX4_gather_29 (lv_at hl 5 rfl) ?_
  refine lv_aload_n hx hb dX4_gather_31 rfl (lv_at hl 0 rfl) ?_
  refine g_get C hw f_RX4_44 xl_46 (xs_46 _ _) rfl dX4_gather_32 ?_
  refine g_get C hw f_RX4_72 xl_12 (xs_12 _ _) rfl dX4_gather_35 ?_
  refine lv_icmp_ge (tgt := 97) hx hb dX4_gather_38 (by decide) (fun c38 => ?_) (fun c38 => ?_)
  · have h := h.1 c38
    exact g_vret C hw h dX4_gather_97
  · have h := h.2 c38
    refine lv_iload_n hx hb dX4_gather_41 rfl (lv_at hl 2 rfl) ?_
    refine lv_iload hx hb dX4_gather_42 (lv_at hl 5 rfl) ?_
    refine lv_ishr hx hb dX4_gather_44 ?_
    refine lv_iconst (v := 1) hx hb dX4_gather_45 (by decide) ?_
    refine lv_iand hx hb dX4_gather_46 ?_
    refine lv_if_eq (tgt := 91) hx hb dX4_gather_47 (by decide) (fun c47 => ?_) (fun c47 => ?_)
    · have h := h.1 c47
      exact w_X4_gather_91 C hw0 hw3 hL29 h hw (lv_sub hl [0, 1, 2, 3, 4, 5] rfl)
    · have h := h.2 c47
      refine lv_aload_n hx hb dX4_gather_50 rfl (lv_at hl 0 rfl) ?_
      refine g_get C hw f_RX4_44 xl_46 (xs_46 _ _) rfl dX4_gather_51 ?_
      refine g_get C hw f_RX4_93 xl_12 (xs_12 _ _) rfl dX4_gather_54 ?_
      refine lv_iload hx hb dX4_gather_57 (lv_at hl 5 rfl) ?_
      refine g_iald C hw xl_13 xs_13 h.1 dX4_gather_59 ?_
      have h := h.2
      refine lv_istore (lv' := [(6, .int (I 13 x5.toNatClampNeg)), (0, .ref (ad 46)), (1, .ref (ad w0)), (2, .int x2), (3, .int x3), (4, .ref (ad w3)), (5, .int x5)]) hx hb dX4_gather_60 hl (by decide) rfl (fun ls hl => ?_)
      refine lv_aload_n hx hb dX4_gather_62 rfl (lv_at hl 1 rfl) ?_
      refine g_get C hw f_RX4_31 xl_46 (xs_46 _ _) rfl dX4_gather_63 ?_
      refine lv_iload hx hb dX4_gather_66 (lv_at hl 0 rfl) ?_
      refine lv_aload_n hx hb dX4_gather_68 rfl (lv_at hl 2 rfl) ?_
      refine lv_aload_n hx hb dX4_gather_69 rfl (lv_at hl 1 rfl) ?_
      refine g_get C hw f_RX4_31 xl_46 (xs_46 _ _) rfl dX4_gather_70 ?_
      refine lv_iload hx hb dX4_gather_73 (lv_at hl 0 rfl) ?_
      refine g_lald C hw xl_53 xs_53 h.1 dX4_gather_75 ?_
      have h := h.2
      refine lv_aload_n hx hb dX4_gather_76 rfl (lv_at hl 1 rfl) ?_
      refine lv_aload hx hb dX4_gather_77 (lv_at hl 5 rfl) ?_
      refine lv_iload_n hx hb dX4_gather_79 rfl (lv_at hl 4 rfl) ?_
      refine lv_iload hx hb dX4_gather_80 (lv_at hl 6 rfl) ?_
      refine g_cl hw (g_rV [.ref (ad w3), .int x3, .int x5] [.long (J 53 (I 13 x5.toNatClampNeg).toNatClampNeg), .ref (ad w0), .int (I 13 x5.toNatClampNeg), .ref (ad 53)] C hw (m_X4_tailBehind hw3 h) k_X4_tailBehind q_RX4_121 xl_46 (xs_46 _ _) rfl rfl hl.1 rfl (Nat.le_of_ble_eq_true rfl) ⟨⟨rfl, rfl⟩, Nat.le_of_ble_eq_true rfl, Nat.le_of_ble_eq_true rfl⟩ ⟨Nat.zero_le _, Nat.zero_le _⟩ dX4_gather_82) (fun r82 I82 J82 H locs h hw => ?_)
      refine lv_iload hx hb dX4_gather_85 (lv_at hl 6 rfl) ?_
      refine g_cl hw (g_Wwith (rest := [.int (I 13 x5.toNatClampNeg), .ref (ad 53)]) C hw hw0 h hl.1 rfl (Nat.le_of_ble_eq_true rfl) (Nat.le_of_ble_eq_true rfl) (Nat.le_of_ble_eq_true rfl) dX4_gather_87) (fun r87 I87 J87 H locs h hw => ?_)
      refine g_last C hw xl_53 xs_53 h.1 dX4_gather_90 (fun H locs hw => ?_)
      have h := h.2
      obtain ⟨J90, e90⟩ : ∃ z : MJ, z = mJ J87 53 (I 13 x5.toNatClampNeg).toNatClampNeg r87 := ⟨_, rfl⟩
      have h := h J90 e90
      rw [← e90] at hw
      exact w_X4_gather_91 C hw0 hw3 hL29 h hw (lv_sub hl [1, 2, 3, 4, 5, 6] rfl)
theorem wl_X4_gather_29 {Q : MI → MJ → Prop} (C : gC RX4 cX4_gather 7 none 66 ad cy D (xF ad ts) p s m args meth c) {w0 : Nat} (hw0 : isWay w0) {w3 : Nat} (hw3 : isTl w3) {x2 : Int32} {x3 : Int32} {x5 : Int32} {I : MI} {J : MJ} {H : Heap} {locs : List Loc} {ls : Array Slot} (h : lpx (P_X4_gather_29 w0 w3 Q) (x2, x3, x5, I, J)) (hw : gH (xS ad cy) 66 ad D s I J H locs) (hl : lv_has ls 7 [(0, .ref (ad 46)), (1, .ref (ad w0)), (2, .int x2), (3, .int x3), (4, .ref (ad w3)), (5, .int x5)]) : W p l e rmX4_gather s m args below meth c H locs 0 0 (MQ below (gQv (xS ad cy) 66 ad cy D (xF ad ts) Q) args s 0 0 (gA 66 ad)) (F0 m 29 ls []) := by
  obtain ⟨n, h⟩ := h
  induction n generalizing x2 x3 x5 I J H locs ls with
  | zero => exact False.elim h
  | succ n ih => exact w_X4_gather_29 C hw0 hw3 (fun hk9 hw9 hl9 => ih hw9 hl9 hk9) h hw hl
set_option maxHeartbeats 4000000 in
set_option maxRecDepth 100000 in
theorem w_X4_gather_3 {Q : MI → MJ → Prop} (C : gC RX4 cX4_gather 7 none 66 ad cy D (xF ad ts) p s m args meth c) {w0 : Nat} (hw0 : isWay w0) {w3 : Nat} (hw3 : isTl w3) {kL3 : Int32 × Int32 × Int32 × MI × MJ → Prop} (hL3 : ∀ {x2 : Int32} {x3 : Int32} {x5 : Int32} {I : MI} {J : MJ} {H : Heap} {locs : List Loc} {ls : Array Slot}, kL3 (x2, x3, x5, I, J) → gH (xS ad cy) 66 ad D s I J H locs → lv_has ls 7 [(0, .ref (ad 46)), (1, .ref (ad w0)), (2, .int x2), (3, .int x3), (4, .ref (ad w3)), (5, .int x5)] → W p l e rmX4_gather s m args below meth c H locs 0 0 (MQ below (gQv (xS ad cy) 66 ad cy D (xF ad ts) Q) args s 0 0 (gA 66 ad)) (F0 m 3 ls [])) {x2 : Int32} {x3 : Int32} {x5 : Int32} {I : MI} {J : MJ} {H : Heap} {locs : List Loc} {ls : Array Slot} (h : P_X4_gather_3 w0 w3 Q kL3 (x2, x3, x5, I, J)) (hw : gH (xS ad cy) 66 ad D s I J H locs) (hl : lv_has ls 7 [(0, .ref (ad 46)), (1, .ref (ad w0)), (2, .int x2), (3, .int x3), (4, .ref (ad w3)), (5, .int x5)]) : W p l e rmX4_gather s m args below meth c H locs 0 0 (MQ below (gQv (xS ad cy) 66 ad cy D (xF ad ts) Q) args s 0 0 (gA 66 ad)) (F0 m 3 ls []) := by
  obtain ⟨hx, hb, hC⟩ := id C
  refine lv_iload hx hb dX4_gather_3 (lv_at hl 5 rfl) ?_
  refine lv_iconst (v := 4) hx hb dX4_gather_5 (by decide) ?_
  refine lv_icmp_ge (tgt := 26) hx hb dX4_gather_6 (by decide) (fun c6 => ?_) (fun c6 => ?_)
  · have h := h.1 c6
    refine lv_iconst (v := 0) hx hb dX4_gather_26 (by decide) ?_
    refine lv_istore (lv' := [(5, .int (0 : Int32)), (0, .ref (ad 46)), (1, .ref (ad w0)), (2, .int x2), (3, .int x3), (4, .ref (ad w3))]) hx hb dX4_gather_27 hl (by decide) rfl (fun ls hl => ?_)
    exact wl_X4_gather_29 C hw0 hw3 h hw (lv_sub hl [1, 2, 3, 4, 5, 0] rfl)
  · have h := h.2 c6
    refine lv_aload_n hx hb dX4_gather_9 rfl (lv_at hl 0 rfl) ?_
    refine g_get C hw f_RX4_31 xl_46 (xs_46 _ _) rfl dX4_gather_10 ?_
    refine lv_iload hx hb dX4_gather_13 (lv_at hl 5 rfl) ?_
    refine lv_aload_n hx hb dX4_gather_15 rfl (lv_at hl 1 rfl) ?_
    refine g_cl hw (g_Wnone (rest := [.int x5, .ref (ad 53)]) C hw hw0 h hl.1 rfl (Nat.le_of_ble_eq_true rfl) (Nat.le_of_ble_eq_true rfl) (Nat.le_of_ble_eq_true rfl) dX4_gather_16) (fun r16 I16 J16 H locs h hw => ?_)
    refine g_last C hw xl_53 xs_53 h.1 dX4_gather_19 (fun H locs hw => ?_)
    have h := h.2
    obtain ⟨J19, e19⟩ : ∃ z : MJ, z = mJ J16 53 x5.toNatClampNeg r16 := ⟨_, rfl⟩
    have h := h J19 e19
    rw [← e19] at hw
    refine lv_iinc (v := x5 + 1) (lv' := [(5, .int (x5 + 1)), (0, .ref (ad 46)), (1, .ref (ad w0)), (2, .int x2), (3, .int x3), (4, .ref (ad w3))]) hx hb dX4_gather_20 hl (k := 5) rfl rfl (by decide) rfl (fun ls hl => ?_)
    refine lv_goto (tgt := 3) hx hb dX4_gather_23 (by decide) ?_
    exact hL3 h hw (lv_sub hl [1, 2, 3, 4, 5, 0] rfl)
theorem wl_X4_gather_3 {Q : MI → MJ → Prop} (C : gC RX4 cX4_gather 7 none 66 ad cy D (xF ad ts) p s m args meth c) {w0 : Nat} (hw0 : isWay w0) {w3 : Nat} (hw3 : isTl w3) {x2 : Int32} {x3 : Int32} {x5 : Int32} {I : MI} {J : MJ} {H : Heap} {locs : List Loc} {ls : Array Slot} (h : lpx (P_X4_gather_3 w0 w3 Q) (x2, x3, x5, I, J)) (hw : gH (xS ad cy) 66 ad D s I J H locs) (hl : lv_has ls 7 [(0, .ref (ad 46)), (1, .ref (ad w0)), (2, .int x2), (3, .int x3), (4, .ref (ad w3)), (5, .int x5)]) : W p l e rmX4_gather s m args below meth c H locs 0 0 (MQ below (gQv (xS ad cy) 66 ad cy D (xF ad ts) Q) args s 0 0 (gA 66 ad)) (F0 m 3 ls []) := by
  obtain ⟨n, h⟩ := h
  induction n generalizing x2 x3 x5 I J H locs ls with
  | zero => exact False.elim h
  | succ n ih => exact w_X4_gather_3 C hw0 hw3 (fun hk9 hw9 hl9 => ih hw9 hl9 hk9) h hw hl
set_option maxHeartbeats 4000000 in
set_option maxRecDepth 100000 in
theorem w_X4_gather {Q : MI → MJ → Prop} (C : gC RX4 cX4_gather 7 none 66 ad cy D (xF ad ts) p s m args meth c) {w0 : Nat} (hw0 : isWay w0) {w3 : Nat} (hw3 : isTl w3) {a1 : Int32} {a2 : Int32} {I : MI} {J : MJ} {H : Heap} {locs : List Loc} {ls : Array Slot} (h : P_X4_gather w0 w3 a1 a2 I J Q) (hw : gH (xS ad cy) 66 ad D s I J H locs) (hl : lv_has ls 7 [(0, .ref (ad 46)), (1, .ref (ad w0)), (2, .int a1), (3, .int a2), (4, .ref (ad w3))]) : W p l e rmX4_gather s m args below meth c H locs 0 0 (MQ below (gQv (xS ad cy) 66 ad cy D (xF ad ts) Q) args s 0 0 (gA 66 ad)) (F0 m 0 ls []) := by
  obtain ⟨hx, hb, hC⟩ := id C
  refine lv_iconst (v := 0) hx hb dX4_gather_0 (by decide) ?_
  refine lv_istore (lv' := [(5, .int (0 : Int32)), (0, .ref (ad 46)), (1, .ref (ad w0)), (2, .int a1), (3, .int a2), (4, .ref (ad w3))]) hx hb dX4_gather_1 hl (by decide) rfl (fun ls hl => ?_)
  exact wl_X4_gather_3 C hw0 hw3 h hw (lv_sub hl [1, 2, 3, 4, 5, 0] rfl)
theorem m_X4_gather {l : Launch} {w0 : Nat} (hw0 : isWay w0) {w3 : Nat} (hw3 : isTl w3) {a1 : Int32} {a2 : Int32} {Q : MI → MJ → Prop} {I : MI} {J : MJ} (h : P_X4_gather w0 w3 a1 a2 I J Q) : Met l yX4_gather (xws yX4_gather cX4_gather 7 none) rmX4_gather (va_Pc [.ref (ad 46), .ref (ad w0), .int a1, .int a2, .ref (ad w3)] (gB (xS ad cy) 66 ad cy D (xF ad ts) I J)) (gQv (xS ad cy) 66 ad cy D (xF ad ts) Q) 0 0 (gA 66 ad) :=
  g_met (xF_ok ad ts) rfl (by decide) (Nat.le_of_ble_eq_true rfl) (fun p e s m below meth c ls C hw hl => w_X4_gather C hw0 hw3 h hw hl)
/-! BagPhrases$Lattice.headsOf(LBagPhrases$Way;I)J -/
def P_X4_headsOf_36 (w0 : Nat) (Q : Int64 → MI → MJ → Prop) (kL8 : Int32 × Int64 × Int32 × MI × MJ → Prop) (x2 : Int32) (x3 : Int64) (x5 : Int32) (I : MI) (J : MJ) : Prop :=
  kL8 (x2, x3, (x5 + 1), I, J)
def P_X4_headsOf_8 (w0 : Nat) (Q : Int64 → MI → MJ → Prop) (kL8 : Int32 × Int64 × Int32 × MI × MJ → Prop) : Int32 × Int64 × Int32 × MI × MJ → Prop := fun z => match z with
  | (x2, x3, x5, I, J) => (((4 : Int32) ≤ x5 → Q x3 I J) ∧ (¬ (4 : Int32) ≤ x5 → ((((x2 >>> (x5 &&& 31)) &&& (1 : Int32)) = 0 → P_X4_headsOf_36 w0 Q kL8 x2 x3 x5 I J) ∧ (¬ ((x2 >>> (x5 &&& 31)) &&& (1 : Int32)) = 0 → vp_in x5 4 ∧ (PW_joined w0 x3 (J 53 x5.toNatClampNeg) I J (fun r32 I32 J32 => P_X4_headsOf_36 w0 Q kL8 x2 r32 x5 I32 J32))))))
def P_X4_headsOf (w0 : Nat) (a1 : Int32) (I : MI) (J : MJ) (Q : Int64 → MI → MJ → Prop) : Prop :=
  PW_none w0 I J (fun r1 I1 J1 => lpx (P_X4_headsOf_8 w0 Q) (a1, r1, (0 : Int32), I1, J1))
abbrev rmX4_headsOf : Room := { frames := 2, cells := 0, slots := 0, locals := 60 }
set_option maxHeartbeats 4000000 in
set_option maxRecDepth 100000 in
theorem w_X4_headsOf_36 {Q : Int64 → MI → MJ → Prop} (C : gC RX4 cX4_headsOf 6 (some .long) 66 ad cy D (xF ad ts) p s m args meth c) {w0 : Nat} (hw0 : isWay w0) {kL8 : Int32 × Int64 × Int32 × MI × MJ → Prop} (hL8 : ∀ {x2 : Int32} {x3 : Int64} {x5 : Int32} {I : MI} {J : MJ} {H : Heap} {locs : List Loc} {ls : Array Slot}, kL8 (x2, x3, x5, I, J) → gH (xS ad cy) 66 ad D s I J H locs → lv_has ls 6 [(0, .ref (ad 46)), (1, .ref (ad w0)), (2, .int x2), (3, .long x3), (5, .int x5)] → W p l e rmX4_headsOf s m args below meth c H locs 0 0 (MQ below (gQl (xS ad cy) 66 ad cy D (xF ad ts) Q) args s 0 0 (gA 66 ad)) (F0 m 8 ls [])) {x2 : Int32} {x3 : Int64} {x5 : Int32} {I : MI} {J : MJ} {H : Heap} {locs : List Loc} {ls : Array Slot} (h : P_X4_headsOf_36 w0 Q kL8 x2 x3 x5 I J) (hw : gH (xS ad cy) 66 ad D s I J H locs) (hl : lv_has ls 6 [(0, .ref (ad 46)), (1, .ref (ad w0)), (2, .int x2), (3, .long x3), (5, .int x5)]) : W p l e rmX4_headsOf s m args below meth c H locs 0 0 (MQ below (gQl (xS ad cy) 66 ad cy D (xF ad ts) Q) args s 0 0 (gA 66 ad)) (F0 m 36 ls []) := by
  obtain ⟨hx, hb, hC⟩ := id C
  refine lv_iinc (v := x5 + 1) (lv' := [(5, .int (x5 + 1)), (0, .ref (ad 46)), (1, .ref (ad w0)), (2, .int x2), (3, .long x3)]) hx hb dX4_headsOf_36 hl (k := 4) rfl rfl (by decide) rfl (fun ls hl => ?_)
  refine lv_goto (tgt := 8) hx hb dX4_headsOf_39 (by decide) ?_
  exact hL8 h hw (lv_sub hl [1, 2, 3, 4, 0] rfl)
set_option maxHeartbeats 4000000 in
set_option maxRecDepth 100000 in
theorem w_X4_headsOf_8 {Q : Int64 → MI → MJ → Prop} (C : gC RX4 cX4_headsOf 6 (some .long) 66 ad cy D (xF ad ts) p s m args meth c) {w0 : Nat} (hw0 : isWay w0) {kL8 : Int32 × Int64 × Int32 × MI × MJ → Prop} (hL8 : ∀ {x2 : Int32} {x3 : Int64} {x5 : Int32} {I : MI} {J : MJ} {H : Heap} {locs : List Loc} {ls : Array Slot}, kL8 (x2, x3, x5, I, J) → gH (xS ad cy) 66 ad D s I J H locs → lv_has ls 6 [(0, .ref (ad 46)), (1, .ref (ad w0)), (2, .int x2), (3, .long x3), (5, .int x5)] → W p l e rmX4_headsOf s m args below meth c H locs 0 0 (MQ below (gQl (xS ad cy) 66 ad cy D (xF ad ts) Q) args s 0 0 (gA 66 ad)) (F0 m 8 ls [])) {x2 : Int32} {x3 : Int64} {x5 : Int32} {I : MI} {J : MJ} {H : Heap} {locs : List Loc} {ls : Array Slot} (h : P_X4_headsOf_8 w0 Q kL8 (x2, x3, x5, I, J)) (hw : gH (xS ad cy) 66 ad D s I J H locs) (hl : lv_has ls 6 [(0, .ref (ad 46)), (1, .ref (ad w0)), (2, .int x2), (3, .long x3), (5, .int x5)]) : W p l e rmX4_headsOf s m args below meth c H locs 0 0 (MQ below (gQl (xS ad cy) 66 ad cy D (xF ad ts) Q) args s 0 0 (gA 66 ad)) (F0 m 8 ls []) := by
  obtain ⟨hx, hb, hC⟩ := id C
  refine lv_iload hx hb dX4_headsOf_8 (lv_at hl 4 rfl) ?_
  refine lv_iconst (v := 4) hx hb dX4_headsOf_10 (by decide) ?_
  refine lv_icmp_ge (tgt := 42) hx hb dX4_headsOf_11 (by decide) (fun c11 => ?_) (fun c11 => ?_)
  · have h := h.1 c11
    refine lv_lload_n hx hb dX4_headsOf_42 rfl (lv_at hl 3 rfl) ?_
    exact g_lret C hw h dX4_headsOf_43
  · have h := h.2 c11
    refine lv_iload_n hx hb dX4_headsOf_14 rfl (lv_at hl 2 rfl) ?_
    refine lv_iload hx hb dX4_headsOf_15 (lv_at hl 4 rfl) ?_
    refine lv_ishr hx hb dX4_headsOf_17 ?_
    refine lv_iconst (v := 1) hx hb dX4_headsOf_18 (by decide) ?_
    refine lv_iand hx hb dX4_headsOf_19 ?_
    refine lv_if_eq (tgt := 36) hx hb dX4_headsOf_20 (by decide) (fun c20 => ?_) (fun c20 => ?_)
    · have h := h.1 c20
      exact w_X4_headsOf_36 C hw0 hL8 h hw (lv_sub hl [0, 1, 2, 3, 4] rfl)
    · have h := h.2 c20
      refine lv_aload_n hx hb dX4_headsOf_23 rfl (lv_at hl 1 rfl) ?_
      refine lv_lload_n hx hb dX4_headsOf_24 rfl (lv_at hl 3 rfl) ?_
      refine lv_aload_n hx hb dX4_headsOf_25 rfl (lv_at hl 0 rfl) ?_
      refine g_get C hw f_RX4_31 xl_46 (xs_46 _ _) rfl dX4_headsOf_26 ?_
      refine lv_iload hx hb dX4_headsOf_29 (lv_at hl 4 rfl) ?_
      refine g_lald C hw xl_53 xs_53 h.1 dX4_headsOf_31 ?_
      have h := h.2
      refine g_cl hw (g_Wjoined (rest := []) C hw hw0 h hl.1 rfl (Nat.le_of_ble_eq_true rfl) (Nat.le_of_ble_eq_true rfl) (Nat.le_of_ble_eq_true rfl) dX4_headsOf_32) (fun r32 I32 J32 H locs h hw => ?_)
      refine lv_lstore_n (lv' := [(3, .long r32), (0, .ref (ad 46)), (1, .ref (ad w0)), (2, .int x2), (5, .int x5)]) hx hb dX4_headsOf_35 rfl hl (by decide) rfl (fun ls hl => ?_)
      exact w_X4_headsOf_36 C hw0 hL8 h hw (lv_sub hl [1, 2, 3, 0, 4] rfl)
theorem wl_X4_headsOf_8 {Q : Int64 → MI → MJ → Prop} (C : gC RX4 cX4_headsOf 6 (some .long) 66 ad cy D (xF ad ts) p s m args meth c) {w0 : Nat} (hw0 : isWay w0) {x2 : Int32} {x3 : Int64} {x5 : Int32} {I : MI} {J : MJ} {H : Heap} {locs : List Loc} {ls : Array Slot} (h : lpx (P_X4_headsOf_8 w0 Q) (x2, x3, x5, I, J)) (hw : gH (xS ad cy) 66 ad D s I J H locs) (hl : lv_has ls 6 [(0, .ref (ad 46)), (1, .ref (ad w0)), (2, .int x2), (3, .long x3), (5, .int x5)]) : W p l e rmX4_headsOf s m args below meth c H locs 0 0 (MQ below (gQl (xS ad cy) 66 ad cy D (xF ad ts) Q) args s 0 0 (gA 66 ad)) (F0 m 8 ls []) := by
  obtain ⟨n, h⟩ := h
  induction n generalizing x2 x3 x5 I J H locs ls with
  | zero => exact False.elim h
  | succ n ih => exact w_X4_headsOf_8 C hw0 (fun hk9 hw9 hl9 => ih hw9 hl9 hk9) h hw hl
set_option maxHeartbeats 4000000 in
set_option maxRecDepth 100000 in
theorem w_X4_headsOf {Q : Int64 → MI → MJ → Prop} (C : gC RX4 cX4_headsOf 6 (some .long) 66 ad cy D (xF ad ts) p s m args meth c) {w0 : Nat} (hw0 : isWay w0) {a1 : Int32} {I : MI} {J : MJ} {H : Heap} {locs : List Loc} {ls : Array Slot} (h : P_X4_headsOf w0 a1 I J Q) (hw : gH (xS ad cy) 66 ad D s I J H locs) (hl : lv_has ls 6 [(0, .ref (ad 46)), (1, .ref (ad w0)), (2, .int a1)]) : W p l e rmX4_headsOf s m args below meth c H locs 0 0 (MQ below (gQl (xS ad cy) 66 ad cy D (xF ad ts) Q) args s 0 0 (gA 66 ad)) (F0 m 0 ls []) := by
  obtain ⟨hx, hb, hC⟩ := id C
  refine lv_aload_n hx hb dX4_headsOf_0 rfl (lv_at hl 1 rfl) ?_
  refine g_cl hw (g_Wnone (rest := []) C hw hw0 h hl.1 rfl (Nat.le_of_ble_eq_true rfl) (Nat.le_of_ble_eq_true rfl) (Nat.le_of_ble_eq_true rfl) dX4_headsOf_1) (fun r1 I1 J1 H locs h hw => ?_)
  refine lv_lstore_n (lv' := [(3, .long r1), (0, .ref (ad 46)), (1, .ref (ad w0)), (2, .int a1)]) hx hb dX4_headsOf_4 rfl hl (by decide) rfl (fun ls hl => ?_)
  refine lv_iconst (v := 0) hx hb dX4_headsOf_5 (by decide) ?_
  refine lv_istore (lv' := [(5, .int (0 : Int32)), (3, .long r1), (0, .ref (ad 46)), (1, .ref (ad w0)), (2, .int a1)]) hx hb dX4_headsOf_6 hl (by decide) rfl (fun ls hl => ?_)
  exact wl_X4_headsOf_8 C hw0 h hw (lv_sub hl [2, 3, 4, 1, 0] rfl)
theorem m_X4_headsOf {l : Launch} {w0 : Nat} (hw0 : isWay w0) {a1 : Int32} {Q : Int64 → MI → MJ → Prop} {I : MI} {J : MJ} (h : P_X4_headsOf w0 a1 I J Q) : Met l yX4_headsOf (xws yX4_headsOf cX4_headsOf 6 (some .long)) rmX4_headsOf (va_Pc [.ref (ad 46), .ref (ad w0), .int a1] (gB (xS ad cy) 66 ad cy D (xF ad ts) I J)) (gQl (xS ad cy) 66 ad cy D (xF ad ts) Q) 0 0 (gA 66 ad) :=
  g_met (xF_ok ad ts) rfl (by decide) (Nat.le_of_ble_eq_true rfl) (fun p e s m below meth c ls C hw hl => w_X4_headsOf C hw0 h hw hl)
/-! BagPhrases$Lattice.fold(LBagPhrases$Way;I[J[J)J -/
def P_X4_fold_136 (w0 : Nat) (w2 : Nat) (w3 : Nat) (Q : Int64 → MI → MJ → Prop) (kL27 : Int32 × Int64 × Int32 × MI × MJ → Prop) (x2 : Int32) (x5 : Int64) (x7 : Int32) (I : MI) (J : MJ) : Prop :=
  kL27 (x2, x5, (x7 + (-1)), I, J)
def P_X4_fold_107 (w0 : Nat) (w2 : Nat) (w3 : Nat) (Q : Int64 → MI → MJ → Prop) (kL27 : Int32 × Int64 × Int32 × MI × MJ → Prop) (kL61 : Int32 × Int64 × Int32 × Int32 × Int32 × MI × MJ → Prop) (x2 : Int32) (x5 : Int64) (x7 : Int32) (x8 : Int32) (x9 : Int32) (I : MI) (J : MJ) : Prop :=
  kL61 (x2, x5, x7, x8, (x9 + 1), I, J)
def P_X4_fold_61 (w0 : Nat) (w2 : Nat) (w3 : Nat) (Q : Int64 → MI → MJ → Prop) (kL27 : Int32 × Int64 × Int32 × MI × MJ → Prop) (kL61 : Int32 × Int64 × Int32 × Int32 × Int32 × MI × MJ → Prop) : Int32 × Int64 × Int32 × Int32 × Int32 × MI × MJ → Prop := fun z => match z with
  | (x2, x5, x7, x8, x9, I, J) => (((4 : Int32) ≤ x9 → ((¬ x8 = (I 46 11) → P_X4_fold_136 w0 w2 w3 Q kL27 x2 x5 x7 I J) ∧ (x8 = (I 46 11) → P_X4_headsOf w0 (I 17 3) I J (fun r131 I131 J131 => P_X4_fold_136 w0 w2 w3 Q kL27 x2 r131 x7 I131 J131)))) ∧ (¬ (4 : Int32) ≤ x9 → vp_in x8 1944 ∧ ((((((I 48 x8.toNatClampNeg) >>> (x9 &&& 31)) &&& (1 : Int32)) = 0 → P_X4_fold_107 w0 w2 w3 Q kL27 kL61 x2 x5 x7 x8 x9 I J) ∧ (¬ (((I 48 x8.toNatClampNeg) >>> (x9 &&& 31)) &&& (1 : Int32)) = 0 → vp_in x9 4 ∧ (P_X4_headsOf w0 (I 20 x9.toNatClampNeg) I J (fun r103 I103 J103 => vp_in ((x8 * (4 : Int32)) + x9) 5184 ∧ (∀ J106 : MJ, J106 = mJ J103 w3 ((x8 * (4 : Int32)) + x9).toNatClampNeg r103 → P_X4_fold_107 w0 w2 w3 Q kL27 kL61 x2 x5 x7 x8 x9 I103 J106))))))))
def P_X4_fold_27 (w0 : Nat) (w2 : Nat) (w3 : Nat) (Q : Int64 → MI → MJ → Prop) (kL27 : Int32 × Int64 × Int32 × MI × MJ → Prop) : Int32 × Int64 × Int32 × MI × MJ → Prop := fun z => match z with
  | (x2, x5, x7, I, J) => ((x7 < 0 → Q x5 I J) ∧ (¬ x7 < 0 → vp_in x7 1944 ∧ (vp_in (I 50 x7.toNatClampNeg) 1944 ∧ (P_X4_gather w0 w2 (x2 &&& (I 49 (I 50 x7.toNatClampNeg).toNatClampNeg)) (I 50 x7.toNatClampNeg) I J (fun I55 J55 => lpx (P_X4_fold_61 w0 w2 w3 Q kL27) (x2, x5, x7, (I 50 x7.toNatClampNeg), (0 : Int32), I55, J55))))))
def P_X4_fold (w0 : Nat) (w2 : Nat) (w3 : Nat) (a1 : Int32) (I : MI) (J : MJ) (Q : Int64 → MI → MJ → Prop) : Prop :=
  PW_none w0 I J (fun r1 I1 J1 => (((I1 46 11) < (1296 : Int32) → lpx (P_X4_fold_27 w0 w2 w3 Q) (a1, r1, ((I1 46 9) - (1 : Int32)), I1, J1)) ∧ (¬ (I1 46 11) < (1296 : Int32) → Q r1 I1 J1)))
abbrev rmX4_fold : Room := { frames := 3, cells := 0, slots := 0, locals := 86 }
set_option maxHeartbeats 4000000 in
set_option maxRecDepth 100000 in
theorem w_X4_fold_136 {Q : Int64 → MI → MJ → Prop} (C : gC RX4 cX4_fold 10 (some .long) 66 ad cy D (xF ad ts) p s m args meth c) {w0 : Nat} (hw0 : isWay w0) {w2 : Nat} (hw2 : isTl w2) {w3 : Nat} (hw3 : isTl w3) {kL27 : Int32 × Int64 × Int32 × MI × MJ → Prop} (hL27 : ∀ {x2 : Int32} {x5 : Int64} {x7 : Int32} {I : MI} {J : MJ} {H : Heap} {locs : List Loc} {ls : Array Slot}, kL27 (x2, x5, x7, I, J) → gH (xS ad cy) 66 ad D s I J H locs → lv_has ls 10 [(0, .ref (ad 46)), (1, .ref (ad w0)), (2, .int x2), (3, .ref (ad w2)), (4, .ref (ad w3)), (5, .long x5), (7, .int x7)] → W p l e rmX4_fold s m args below meth c H locs 0 0 (MQ below (gQl (xS ad cy) 66 ad cy D (xF ad ts) Q) args s 0 0 (gA 66 ad)) (F0 m 27 ls [])) {x2 : Int32} {x5 : Int64} {x7 : Int32} {I : MI} {J : MJ} {H : Heap} {locs : List Loc} {ls : Array Slot} (h : P_X4_fold_136 w0 w2 w3 Q kL27 x2 x5 x7 I J) (hw : gH (xS ad cy) 66 ad D s I J H locs) (hl : lv_has ls 10 [(0, .ref (ad 46)), (1, .ref (ad w0)), (2, .int x2), (3, .ref (ad w2)), (4, .ref (ad w3)), (5, .long x5), (7, .int x7)]) : W p l e rmX4_fold s m args below meth c H locs 0 0 (MQ below (gQl (xS ad cy) 66 ad cy D (xF ad ts) Q) args s 0 0 (gA 66 ad)) (F0 m 136 ls []) := by
  obtain ⟨hx, hb, hC⟩ := id C
  refine lv_iinc (v := x7 + (-1)) (lv' := [(7, .int (x7 + (-1))), (0, .ref (ad 46)), (1, .ref (ad w0)), (2, .int x2), (3, .ref (ad w2)), (4, .ref (ad w3)), (5, .long x5)]) hx hb dX4_fold_136 hl (k := 6) rfl rfl (by decide) rfl (fun ls hl => ?_)
  refine lv_goto (tgt := 27) hx hb dX4_fold_139 (by decide) ?_
  exact hL27 h hw (lv_sub hl [1, 2, 3, 4, 5, 6, 0] rfl)
set_option maxHeartbeats 4000000 in
set_option maxRecDepth 100000 in
theorem w_X4_fold_107 {Q : Int64 → MI → MJ → Prop} (C : gC RX4 cX4_fold 10 (some .long) 66 ad cy D (xF ad ts) p s m args meth c) {w0 : Nat} (hw0 : isWay w0) {w2 : Nat} (hw2 : isTl w2) {w3 : Nat} (hw3 : isTl w3) {kL27 : Int32 × Int64 × Int32 × MI × MJ → Prop} (hL27 : ∀ {x2 : Int32} {x5 : Int64} {x7 : Int32} {I : MI} {J : MJ} {H : Heap} {locs : List Loc} {ls : Array Slot}, kL27 (x2, x5, x7, I, J) → gH (xS ad cy) 66 ad D s I J H locs → lv_has ls 10 [(0, .ref (ad 46)), (1, .ref (ad w0)), (2, .int x2), (3, .ref (ad w2)), (4, .ref (ad w3)), (5, .long x5), (7, .int x7)] → W p l e rmX4_fold s m args below meth c H locs 0 0 (MQ below (gQl (xS ad cy) 66 ad cy D (xF ad ts) Q) args s 0 0 (gA 66 ad)) (F0 m 27 ls [])) {kL61 : Int32 × Int64 × Int32 × Int32 × Int32 × MI × MJ → Prop} (hL61 : ∀ {x2 : Int32} {x5 : Int64} {x7 : Int32} {x8 : Int32} {x9 : Int32} {I : MI} {J : MJ} {H : Heap} {locs : List Loc} {ls : Array Slot}, kL61 (x2, x5, x7, x8, x9, I, J) → gH (xS ad cy) 66 ad D s I J H locs → lv_has ls 10 [(0, .ref (ad 46)), (1, .ref (ad w0)), (2, .int x2), (3, .ref (ad w2)), (4, .ref (ad w3)), (5, .long x5), (7, .int x7), (8, .int x8), (9, .int x9)] → W p l e rmX4_fold s m args below meth c H locs 0 0 (MQ below (gQl (xS ad cy) 66 ad cy D (xF ad ts) Q) args s 0 0 (gA 66 ad)) (F0 m 61 ls [])) {x2 : Int32} {x5 : Int64} {x7 : Int32} {x8 : Int32} {x9 : Int32} {I : MI} {J : MJ} {H : Heap} {locs : List Loc} {ls : Array Slot} (h : P_X4_fold_107 w0 w2 w3 Q kL27 kL61 x2 x5 x7 x8 x9 I J) (hw : gH (xS ad cy) 66 ad D s I J H locs) (hl : lv_has ls 10 [(0, .ref (ad 46)), (1, .ref (ad w0)), (2, .int x2), (3, .ref (ad w2)), (4, .ref (ad w3)), (5, .long x5), (7, .int x7), (8, .int x8), (9, .int x9)]) : W p l e rmX4_fold s m args below meth c H locs 0 0 (MQ below (gQl (xS ad cy) 66 ad cy D (xF ad ts) Q) args s 0 0 (gA 66 ad)) (F0 m 107 ls []) := by
  obtain ⟨hx, hb, hC⟩ := id C
  refine lv_iinc (v := x9 + 1) (lv' := [(9, .int (x9 + 1)), (0, .ref (ad 46)), (1, .ref (ad w0)), (2, .int x2), (3, .ref (ad w2)), (4, .ref (ad w3)), (5, .long x5), (7, .int x7), (8, .int x8)]) hx hb dX4_fold_107 hl (k := 8) rfl rfl (by decide) rfl (fun ls hl => ?_)
  refine lv_goto (tgt := 61) hx hb dX4_fold_110 (by decide) ?_
  exact hL61 h hw (lv_sub hl [1, 2, 3, 4, 5, 6, 7, 8, 0] rfl)
set_option maxHeartbeats 4000000 in
set_option maxRecDepth 100000 in
theorem w_X4_fold_61 {Q : Int64 → MI → MJ → Prop} (C : gC RX4 cX4_fold 10 (some .long) 66 ad cy D (xF ad ts) p s m args meth c) {w0 : Nat} (hw0 : isWay w0) {w2 : Nat} (hw2 : isTl w2) {w3 : Nat} (hw3 : isTl w3) {kL27 : Int32 × Int64 × Int32 × MI × MJ → Prop} (hL27 : ∀ {x2 : Int32} {x5 : Int64} {x7 : Int32} {I : MI} {J : MJ} {H : Heap} {locs : List Loc} {ls : Array Slot}, kL27 (x2, x5, x7, I, J) → gH (xS ad cy) 66 ad D s I J H locs → lv_has ls 10 [(0, .ref (ad 46)), (1, .ref (ad w0)), (2, .int x2), (3, .ref (ad w2)), (4, .ref (ad w3)), (5, .long x5), (7, .int x7)] → W p l e rmX4_fold s m args below meth c H locs 0 0 (MQ below (gQl (xS ad cy) 66 ad cy D (xF ad ts) Q) args s 0 0 (gA 66 ad)) (F0 m 27 ls [])) {kL61 : Int32 × Int64 × Int32 × Int32 × Int32 × MI × MJ → Prop} (hL61 : ∀ {x2 : Int32} {x5 : Int64} {x7 : Int32} {x8 : Int32} {x9 : Int32} {I : MI} {J : MJ} {H : Heap} {locs : List Loc} {ls : Array Slot}, kL61 (x2, x5, x7, x8, x9, I, J) → gH (xS ad cy) 66 ad D s I J H locs → lv_has ls 10 [(0, .ref (ad 46)), (1, .ref (ad w0)), (2, .int x2), (3, .ref (ad w2)), (4, .ref (ad w3)), (5, .long x5), (7, .int x7), (8, .int x8), (9, .int x9)] → W p l e rmX4_fold s m args below meth c H locs 0 0 (MQ below (gQl (xS ad cy) 66 ad cy D (xF ad ts) Q) args s 0 0 (gA 66 ad)) (F0 m 61 ls [])) {x2 : Int32} {x5 : Int64} {x7 : Int32} {x8 : Int32} {x9 : Int32} {I : MI} {J : MJ} {H : Heap} {locs : List Loc} {ls : Array Slot} (h : P_X4_fold_61 w0 w2 w3 Q kL27 kL61 (x2, x5, x7, x8, x9, I, J)) (hw : gH (xS ad cy) 66 ad D s I J H locs) (hl : lv_has ls 10 [(0, .ref (ad 46)), (1, .ref (ad w0)), (2, .int x2), (3, .ref (ad w2)), (4, .ref (ad w3)), (5, .long x5), (7, .int x7), (8, .int x8), (9, .int x9)]) : W p l e rmX4_fold s m args below meth c H locs 0 0 (MQ below (gQl (xS ad cy) 66 ad cy D (xF ad ts) Q) args s 0 0 (gA 66 ad)) (F0 m 61 ls []) := by
  obtain ⟨hx, hb, hC⟩ := id C
  refine lv_iload hx hb dX4_fold_61 (lv_at hl 8 rfl) ?_
  refine lv_iconst (v := 4) hx hb dX4_fold_63 (by decide) ?_
  refine lv_icmp_ge (tgt := 113) hx hb dX4_fold_64 (by decide) (fun c64 => ?_) (fun c64 => ?_)
  · have h := h.1 c64
    refine lv_iload hx hb dX4_fold_113 (lv_at hl 7 rfl) ?_
    refine lv_aload_n hx hb dX4_fold_115 rfl (lv_at hl 0 rfl) ?_
    refine g_get C hw f_RX4_41 xl_46 (xs_46 _ _) rfl dX4_fold_116 ?_
    refine lv_icmp_ne (tgt := 136) hx hb dX4_fold_119 (by decide) (fun c119 => ?_) (fun c119 => ?_)
    · have h := h.1 c119
      exact w_X4_fold_136 C hw0 hw2 hw3 hL27 h hw (lv_sub hl [0, 1, 2, 3, 4, 5, 6] rfl)
    · have h := h.2 c119
      refine lv_aload_n hx hb dX4_fold_122 rfl (lv_at hl 0 rfl) ?_
      refine lv_aload_n hx hb dX4_fold_123 rfl (lv_at hl 1 rfl) ?_
      refine lv_aload_n hx hb dX4_fold_124 rfl (lv_at hl 0 rfl) ?_
      refine g_get C hw f_RX4_48 xl_46 (xs_46 _ _) rfl dX4_fold_125 ?_
      refine g_get C hw f_RX4_99 xl_17 (xs_17 _ _) rfl dX4_fold_128 ?_
      refine g_cl hw (g_rV [.ref (ad w0), .int (I 17 3)] [] C hw (m_X4_headsOf hw0 h) k_X4_headsOf q_RX4_117 xl_46 (xs_46 _ _) rfl rfl hl.1 rfl (Nat.le_of_ble_eq_true rfl) ⟨⟨rfl, rfl⟩, Nat.le_of_ble_eq_true rfl, Nat.le_of_ble_eq_true rfl⟩ ⟨Nat.zero_le _, Nat.zero_le _⟩ dX4_fold_131) (fun r131 I131 J131 H locs h hw => ?_)
      refine lv_lstore (lv' := [(5, .long r131), (0, .ref (ad 46)), (1, .ref (ad w0)), (2, .int x2), (3, .ref (ad w2)), (4, .ref (ad w3)), (7, .int x7), (8, .int x8), (9, .int x9)]) hx hb dX4_fold_134 hl (by decide) rfl (fun ls hl => ?_)
      exact w_X4_fold_136 C hw0 hw2 hw3 hL27 h hw (lv_sub hl [1, 2, 3, 4, 5, 0, 6] rfl)
  · have h := h.2 c64
    refine lv_aload_n hx hb dX4_fold_67 rfl (lv_at hl 0 rfl) ?_
    refine g_get C hw f_RX4_15 xl_46 (xs_46 _ _) rfl dX4_fold_68 ?_
    refine lv_iload hx hb dX4_fold_71 (lv_at hl 7 rfl) ?_
    refine g_iald C hw xl_48 xs_48 h.1 dX4_fold_73 ?_
    have h := h.2
    refine lv_iload hx hb dX4_fold_74 (lv_at hl 8 rfl) ?_
    refine lv_ishr hx hb dX4_fold_76 ?_
    refine lv_iconst (v := 1) hx hb dX4_fold_77 (by decide) ?_
    refine lv_iand hx hb dX4_fold_78 ?_
    refine lv_if_eq (tgt := 107) hx hb dX4_fold_79 (by decide) (fun c79 => ?_) (fun c79 => ?_)
    · have h := h.1 c79
      exact w_X4_fold_107 C hw0 hw2 hw3 hL27 hL61 h hw (lv_sub hl [0, 1, 2, 3, 4, 5, 6, 7, 8] rfl)
    · have h := h.2 c79
      refine lv_aload hx hb dX4_fold_82 (lv_at hl 4 rfl) ?_
      refine lv_iload hx hb dX4_fold_84 (lv_at hl 7 rfl) ?_
      refine lv_iconst (v := 4) hx hb dX4_fold_86 (by decide) ?_
      refine lv_imul hx hb dX4_fold_87 ?_
      refine lv_iload hx hb dX4_fold_88 (lv_at hl 8 rfl) ?_
      refine lv_iadd hx hb dX4_fold_90 ?_
      refine lv_aload_n hx hb dX4_fold_91 rfl (lv_at hl 0 rfl) ?_
      refine lv_aload_n hx hb dX4_fold_92 rfl (lv_at hl 1 rfl) ?_
      refine lv_aload_n hx hb dX4_fold_93 rfl (lv_at hl 0 rfl) ?_
      refine g_get C hw f_RX4_48 xl_46 (xs_46 _ _) rfl dX4_fold_94 ?_
      refine g_get C hw f_RX4_102 xl_17 (xs_17 _ _) rfl dX4_fold_97 ?_
      refine lv_iload hx hb dX4_fold_100 (lv_at hl 8 rfl) ?_
      refine g_iald C hw xl_20 xs_20 h.1 dX4_fold_102 ?_
      have h := h.2
      refine g_cl hw (g_rV [.ref (ad w0), .int (I 20 x9.toNatClampNeg)] [.int ((x8 * (4 : Int32)) + x9), .ref (ad w3)] C hw (m_X4_headsOf hw0 h) k_X4_headsOf q_RX4_117 xl_46 (xs_46 _ _) rfl rfl hl.1 rfl (Nat.le_of_ble_eq_true rfl) ⟨⟨rfl, rfl⟩, Nat.le_of_ble_eq_true rfl, Nat.le_of_ble_eq_true rfl⟩ ⟨Nat.zero_le _, Nat.zero_le _⟩ dX4_fold_103) (fun r103 I103 J103 H locs h hw => ?_)
      refine g_last C hw (xl_Tl0 hw3) (xs_Tl0 hw3) h.1 dX4_fold_106 (fun H locs hw => ?_)
      have h := h.2
      obtain ⟨J106, e106⟩ : ∃ z : MJ, z = mJ J103 w3 ((x8 * (4 : Int32)) + x9).toNatClampNeg r103 := ⟨_, rfl⟩
      have h := h J106 e106
      rw [← e106] at hw
      exact w_X4_fold_107 C hw0 hw2 hw3 hL27 hL61 h hw (lv_sub hl [0, 1, 2, 3, 4, 5, 6, 7, 8] rfl)
theorem wl_X4_fold_61 {Q : Int64 → MI → MJ → Prop} (C : gC RX4 cX4_fold 10 (some .long) 66 ad cy D (xF ad ts) p s m args meth c) {w0 : Nat} (hw0 : isWay w0) {w2 : Nat} (hw2 : isTl w2) {w3 : Nat} (hw3 : isTl w3) {kL27 : Int32 × Int64 × Int32 × MI × MJ → Prop} (hL27 : ∀ {x2 : Int32} {x5 : Int64} {x7 : Int32} {I : MI} {J : MJ} {H : Heap} {locs : List Loc} {ls : Array Slot}, kL27 (x2, x5, x7, I, J) → gH (xS ad cy) 66 ad D s I J H locs → lv_has ls 10 [(0, .ref (ad 46)), (1, .ref (ad w0)), (2, .int x2), (3, .ref (ad w2)), (4, .ref (ad w3)), (5, .long x5), (7, .int x7)] → W p l e rmX4_fold s m args below meth c H locs 0 0 (MQ below (gQl (xS ad cy) 66 ad cy D (xF ad ts) Q) args s 0 0 (gA 66 ad)) (F0 m 27 ls [])) {x2 : Int32} {x5 : Int64} {x7 : Int32} {x8 : Int32} {x9 : Int32} {I : MI} {J : MJ} {H : Heap} {locs : List Loc} {ls : Array Slot} (h : lpx (P_X4_fold_61 w0 w2 w3 Q kL27) (x2, x5, x7, x8, x9, I, J)) (hw : gH (xS ad cy) 66 ad D s I J H locs) (hl : lv_has ls 10 [(0, .ref (ad 46)), (1, .ref (ad w0)), (2, .int x2), (3, .ref (ad w2)), (4, .ref (ad w3)), (5, .long x5), (7, .int x7), (8, .int x8), (9, .int x9)]) : W p l e rmX4_fold s m args below meth c H locs 0 0 (MQ below (gQl (xS ad cy) 66 ad cy D (xF ad ts) Q) args s 0 0 (gA 66 ad)) (F0 m 61 ls []) := by
  obtain ⟨n, h⟩ := h
  induction n generalizing x2 x5 x7 x8 x9 I J H locs ls with
  | zero => exact False.elim h
  | succ n ih => exact w_X4_fold_61 C hw0 hw2 hw3 hL27 (fun hk9 hw9 hl9 => ih hw9 hl9 hk9) h hw hl
set_option maxHeartbeats 4000000 in
set_option maxRecDepth 100000 in
theorem w_X4_fold_27 {Q : Int64 → MI → MJ → Prop} (C : gC RX4 cX4_fold 10 (some .long) 66 ad cy D (xF ad ts) p s m args meth c) {w0 : Nat} (hw0 : isWay w0) {w2 : Nat} (hw2 : isTl w2) {w3 : Nat} (hw3 : isTl w3) {kL27 : Int32 × Int64 × Int32 × MI × MJ → Prop} (hL27 : ∀ {x2 : Int32} {x5 : Int64} {x7 : Int32} {I : MI} {J : MJ} {H : Heap} {locs : List Loc} {ls : Array Slot}, kL27 (x2, x5, x7, I, J) → gH (xS ad cy) 66 ad D s I J H locs → lv_has ls 10 [(0, .ref (ad 46)), (1, .ref (ad w0)), (2, .int x2), (3, .ref (ad w2)), (4, .ref (ad w3)), (5, .long x5), (7, .int x7)] → W p l e rmX4_fold s m args below meth c H locs 0 0 (MQ below (gQl (xS ad cy) 66 ad cy D (xF ad ts) Q) args s 0 0 (gA 66 ad)) (F0 m 27 ls [])) {x2 : Int32} {x5 : Int64} {x7 : Int32} {I : MI} {J : MJ} {H : Heap} {locs : List Loc} {ls : Array Slot} (h : P_X4_fold_27 w0 w2 w3 Q kL27 (x2, x5, x7, I, J)) (hw : gH (xS ad cy) 66 ad D s I J H locs) (hl : lv_has ls 10 [(0, .ref (ad 46)), (1, .ref (ad w0)), (2, .int x2), (3, .ref (ad w2)), (4, .ref (ad w3)), (5, .long x5), (7, .int x7)]) : W p l e rmX4_fold s m args below meth c H locs 0 0 (MQ below (gQl (xS ad cy) 66 ad cy D (xF ad ts) Q) args s 0 0 (gA 66 ad)) (F0 m 27 ls []) := by
  obtain ⟨hx, hb, hC⟩ := id C
  refine lv_iload hx hb dX4_fold_27 (lv_at hl 6 rfl) ?_
  refine lv_if_lt (tgt := 142) hx hb dX4_fold_29 (by decide) (fun c29 => ?_) (fun c29 => ?_)
  · have h := h.1 c29
    refine lv_lload hx hb dX4_fold_142 (lv_at hl 5 rfl) ?_
    exact g_lret C hw h dX4_fold_144
  · have h := h.2 c29
    refine lv_aload_n hx hb dX4_fold_32 rfl (lv_at hl 0 rfl) ?_
    refine g_get C hw f_RX4_22 xl_46 (xs_46 _ _) rfl dX4_fold_33 ?_
    refine lv_iload hx hb dX4_fold_36 (lv_at hl 6 rfl) ?_
    refine g_iald C hw xl_50 xs_50 h.1 dX4_fold_38 ?_
    have h := h.2
    refine lv_istore (lv' := [(8, .int (I 50 x7.toNatClampNeg)), (0, .ref (ad 46)), (1, .ref (ad w0)), (2, .int x2), (3, .ref (ad w2)), (4, .ref (ad w3)), (5, .long x5), (7, .int x7)]) hx hb dX4_fold_39 hl (by decide) rfl (fun ls hl => ?_)
    refine lv_aload_n hx hb dX4_fold_41 rfl (lv_at hl 1 rfl) ?_
    refine lv_aload_n hx hb dX4_fold_42 rfl (lv_at hl 2 rfl) ?_
    refine lv_iload_n hx hb dX4_fold_43 rfl (lv_at hl 3 rfl) ?_
    refine lv_aload_n hx hb dX4_fold_44 rfl (lv_at hl 1 rfl) ?_
    refine g_get C hw f_RX4_19 xl_46 (xs_46 _ _) rfl dX4_fold_45 ?_
    refine lv_iload hx hb dX4_fold_48 (lv_at hl 0 rfl) ?_
    refine g_iald C hw xl_49 xs_49 h.1 dX4_fold_50 ?_
    have h := h.2
    refine lv_iand hx hb dX4_fold_51 ?_
    refine lv_iload hx hb dX4_fold_52 (lv_at hl 0 rfl) ?_
    refine lv_aload_n hx hb dX4_fold_54 rfl (lv_at hl 4 rfl) ?_
    refine g_cv hw (g_rV [.ref (ad w0), .int (x2 &&& (I 49 (I 50 x7.toNatClampNeg).toNatClampNeg)), .int (I 50 x7.toNatClampNeg), .ref (ad w2)] [] C hw (m_X4_gather hw0 hw2 h) k_X4_gather q_RX4_113 xl_46 (xs_46 _ _) rfl rfl hl.1 rfl (Nat.le_of_ble_eq_true rfl) ⟨⟨rfl, rfl⟩, Nat.le_of_ble_eq_true rfl, Nat.le_of_ble_eq_true rfl⟩ ⟨Nat.zero_le _, Nat.zero_le _⟩ dX4_fold_55) (fun I55 J55 H locs h hw => ?_)
    refine lv_iconst (v := 0) hx hb dX4_fold_58 (by decide) ?_
    refine lv_istore (lv' := [(9, .int (0 : Int32)), (8, .int (I 50 x7.toNatClampNeg)), (0, .ref (ad 46)), (1, .ref (ad w0)), (2, .int x2), (3, .ref (ad w2)), (4, .ref (ad w3)), (5, .long x5), (7, .int x7)]) hx hb dX4_fold_59 hl (by decide) rfl (fun ls hl => ?_)
    exact wl_X4_fold_61 C hw0 hw2 hw3 hL27 h hw (lv_sub hl [2, 3, 4, 5, 6, 7, 8, 1, 0] rfl)
theorem wl_X4_fold_27 {Q : Int64 → MI → MJ → Prop} (C : gC RX4 cX4_fold 10 (some .long) 66 ad cy D (xF ad ts) p s m args meth c) {w0 : Nat} (hw0 : isWay w0) {w2 : Nat} (hw2 : isTl w2) {w3 : Nat} (hw3 : isTl w3) {x2 : Int32} {x5 : Int64} {x7 : Int32} {I : MI} {J : MJ} {H : Heap} {locs : List Loc} {ls : Array Slot} (h : lpx (P_X4_fold_27 w0 w2 w3 Q) (x2, x5, x7, I, J)) (hw : gH (xS ad cy) 66 ad D s I J H locs) (hl : lv_has ls 10 [(0, .ref (ad 46)), (1, .ref (ad w0)), (2, .int x2), (3, .ref (ad w2)), (4, .ref (ad w3)), (5, .long x5), (7, .int x7)]) : W p l e rmX4_fold s m args below meth c H locs 0 0 (MQ below (gQl (xS ad cy) 66 ad cy D (xF ad ts) Q) args s 0 0 (gA 66 ad)) (F0 m 27 ls []) := by
  obtain ⟨n, h⟩ := h
  induction n generalizing x2 x5 x7 I J H locs ls with
  | zero => exact False.elim h
  | succ n ih => exact w_X4_fold_27 C hw0 hw2 hw3 (fun hk9 hw9 hl9 => ih hw9 hl9 hk9) h hw hl
set_option maxHeartbeats 4000000 in
set_option maxRecDepth 100000 in
theorem w_X4_fold {Q : Int64 → MI → MJ → Prop} (C : gC RX4 cX4_fold 10 (some .long) 66 ad cy D (xF ad ts) p s m args meth c) {w0 : Nat} (hw0 : isWay w0) {w2 : Nat} (hw2 : isTl w2) {w3 : Nat} (hw3 : isTl w3) {a1 : Int32} {I : MI} {J : MJ} {H : Heap} {locs : List Loc} {ls : Array Slot} (h : P_X4_fold w0 w2 w3 a1 I J Q) (hw : gH (xS ad cy) 66 ad D s I J H locs) (hl : lv_has ls 10 [(0, .ref (ad 46)), (1, .ref (ad w0)), (2, .int a1), (3, .ref (ad w2)), (4, .ref (ad w3))]) : W p l e rmX4_fold s m args below meth c H locs 0 0 (MQ below (gQl (xS ad cy) 66 ad cy D (xF ad ts) Q) args s 0 0 (gA 66 ad)) (F0 m 0 ls []) := by
  obtain ⟨hx, hb, hC⟩ := id C
  refine lv_aload_n hx hb dX4_fold_0 rfl (lv_at hl 1 rfl) ?_
  refine g_cl hw (g_Wnone (rest := []) C hw hw0 h hl.1 rfl (Nat.le_of_ble_eq_true rfl) (Nat.le_of_ble_eq_true rfl) (Nat.le_of_ble_eq_true rfl) dX4_fold_1) (fun r1 I1 J1 H locs h hw => ?_)
  refine lv_lstore (lv' := [(5, .long r1), (0, .ref (ad 46)), (1, .ref (ad w0)), (2, .int a1), (3, .ref (ad w2)), (4, .ref (ad w3))]) hx hb dX4_fold_4 hl (by decide) rfl (fun ls hl => ?_)
  refine lv_aload_n hx hb dX4_fold_6 rfl (lv_at hl 1 rfl) ?_
  refine g_get C hw f_RX4_41 xl_46 (xs_46 _ _) rfl dX4_fold_7 ?_
  refine lv_sipush (v := 1296) hx hb dX4_fold_10 (by decide) ?_
  refine lv_icmp_lt (tgt := 19) hx hb dX4_fold_13 (by decide) (fun c13 => ?_) (fun c13 => ?_)
  · have h := h.1 c13
    refine lv_aload_n hx hb dX4_fold_19 rfl (lv_at hl 1 rfl) ?_
    refine g_get C hw f_RX4_34 xl_46 (xs_46 _ _) rfl dX4_fold_20 ?_
    refine lv_iconst (v := 1) hx hb dX4_fold_23 (by decide) ?_
    refine lv_isub hx hb dX4_fold_24 ?_
    refine lv_istore (lv' := [(7, .int ((I1 46 9) - (1 : Int32))), (5, .long r1), (0, .ref (ad 46)), (1, .ref (ad w0)), (2, .int a1), (3, .ref (ad w2)), (4, .ref (ad w3))]) hx hb dX4_fold_25 hl (by decide) rfl (fun ls hl => ?_)
    exact wl_X4_fold_27 C hw0 hw2 hw3 h hw (lv_sub hl [2, 3, 4, 5, 6, 1, 0] rfl)
  · have h := h.2 c13
    refine lv_lload hx hb dX4_fold_16 (lv_at hl 0 rfl) ?_
    exact g_lret C hw h dX4_fold_18
theorem m_X4_fold {l : Launch} {w0 : Nat} (hw0 : isWay w0) {w2 : Nat} (hw2 : isTl w2) {w3 : Nat} (hw3 : isTl w3) {a1 : Int32} {Q : Int64 → MI → MJ → Prop} {I : MI} {J : MJ} (h : P_X4_fold w0 w2 w3 a1 I J Q) : Met l yX4_fold (xws yX4_fold cX4_fold 10 (some .long)) rmX4_fold (va_Pc [.ref (ad 46), .ref (ad w0), .int a1, .ref (ad w2), .ref (ad w3)] (gB (xS ad cy) 66 ad cy D (xF ad ts) I J)) (gQl (xS ad cy) 66 ad cy D (xF ad ts) Q) 0 0 (gA 66 ad) :=
  g_met (xF_ok ad ts) rfl (by decide) (Nat.le_of_ble_eq_true rfl) (fun p e s m below meth c ls C hw hl => w_X4_fold C hw0 hw2 hw3 h hw hl)
/-! BagPhrases$Phrases.refresh()V -/
def P_X6_refresh (I : MI) (J : MJ) (Q : MI → MJ → Prop) : Prop :=
  (((I 39 12) = 0 → P_X4_lay I J (fun I12 J12 => P_X4_ground 40 41 I12 J12 (fun I27 J27 => P_X4_fold 40 41 41 (1023 : Int32) I27 J27 (fun r50 I50 J50 => (∀ J53 : MJ, J53 = mJ J50 39 11 r50 → (∀ I58 : MI, I58 = mI I50 39 13 (0 : Int32) → (∀ I63 : MI, I63 = mI I58 39 12 (1 : Int32) → Q I63 J53))))))) ∧ (¬ (I 39 12) = 0 → Q I J))
abbrev rmX6_refresh : Room := { frames := 4, cells := 0, slots := 0, locals := 115 }
set_option maxHeartbeats 4000000 in
set_option maxRecDepth 100000 in
theorem w_X6_refresh {Q : MI → MJ → Prop} (C : gC RX6 cX6_refresh 1 none 66 ad cy D (xF ad ts) p s m args meth c) {I : MI} {J : MJ} {H : Heap} {locs : List Loc} {ls : Array Slot} (h : P_X6_refresh I J Q) (hw : gH (xS ad cy) 66 ad D s I J H locs) (hl : lv_has ls 1 [(0, .ref (ad 39))]) : W p l e rmX6_refresh s m args below meth c H locs 0 0 (MQ below (gQv (xS ad cy) 66 ad cy D (xF ad ts) Q) args s 0 0 (gA 66 ad)) (F0 m 0 ls []) := by
  obtain ⟨hx, hb, hC⟩ := id C
  refine lv_aload_n hx hb dX6_refresh_0 rfl (lv_at hl 0 rfl) ?_
  refine g_get C hw f_RX6_43 xl_39 (xs_39 _ _) rfl dX6_refresh_1 ?_
  refine lv_if_eq (tgt := 8) hx hb dX6_refresh_4 (by decide) (fun c4 => ?_) (fun c4 => ?_)
  · have h := h.1 c4
    refine lv_aload_n hx hb dX6_refresh_8 rfl (lv_at hl 0 rfl) ?_
    refine g_get C hw f_RX6_63 xl_39 (xs_39 _ _) rfl dX6_refresh_9 ?_
    refine g_cv hw (g_rV [] [] C hw (m_X4_lay h) k_X4_lay q_RX6_81 xl_46 (xs_46 _ _) rfl rfl hl.1 rfl (Nat.le_of_ble_eq_true rfl) ⟨⟨rfl, rfl⟩, Nat.le_of_ble_eq_true rfl, Nat.le_of_ble_eq_true rfl⟩ ⟨Nat.zero_le _, Nat.zero_le _⟩ dX6_refresh_12) (fun I12 J12 H locs h hw => ?_)
    refine lv_aload_n hx hb dX6_refresh_15 rfl (lv_at hl 0 rfl) ?_
    refine g_get C hw f_RX6_63 xl_39 (xs_39 _ _) rfl dX6_refresh_16 ?_
    refine lv_aload_n hx hb dX6_refresh_19 rfl (lv_at hl 0 rfl) ?_
    refine g_get C hw f_RX6_12 xl_39 (xs_39 _ _) rfl dX6_refresh_20 ?_
    refine lv_aload_n hx hb dX6_refresh_23 rfl (lv_at hl 0 rfl) ?_
    refine g_get C hw f_RX6_18 xl_39 (xs_39 _ _) rfl dX6_refresh_24 ?_
    refine g_cv hw (g_rV [.ref (ad 40), .ref (ad 41)] [] C hw (m_X4_ground isWay_40 isTl_41 h) k_X4_ground q_RX6_84 xl_46 (xs_46 _ _) rfl rfl hl.1 rfl (Nat.le_of_ble_eq_true rfl) ⟨⟨rfl, rfl⟩, Nat.le_of_ble_eq_true rfl, Nat.le_of_ble_eq_true rfl⟩ ⟨Nat.zero_le _, Nat.zero_le _⟩ dX6_refresh_27) (fun I27 J27 H locs h hw => ?_)
    refine lv_aload_n hx hb dX6_refresh_30 rfl (lv_at hl 0 rfl) ?_
    refine lv_aload_n hx hb dX6_refresh_31 rfl (lv_at hl 0 rfl) ?_
    refine g_get C hw f_RX6_63 xl_39 (xs_39 _ _) rfl dX6_refresh_32 ?_
    refine lv_aload_n hx hb dX6_refresh_35 rfl (lv_at hl 0 rfl) ?_
    refine g_get C hw f_RX6_12 xl_39 (xs_39 _ _) rfl dX6_refresh_36 ?_
    refine lv_sipush (v := 1023) hx hb dX6_refresh_39 (by decide) ?_
    refine lv_aload_n hx hb dX6_refresh_42 rfl (lv_at hl 0 rfl) ?_
    refine g_get C hw f_RX6_18 xl_39 (xs_39 _ _) rfl dX6_refresh_43 ?_
    refine lv_aload_n hx hb dX6_refresh_46 rfl (lv_at hl 0 rfl) ?_
    refine g_get C hw f_RX6_18 xl_39 (xs_39 _ _) rfl dX6_refresh_47 ?_
    refine g_cl hw (g_rV [.ref (ad 40), .int (1023 : Int32), .ref (ad 41), .ref (ad 41)] [.ref (ad 39)] C hw (m_X4_fold isWay_40 isTl_41 isTl_41 h) k_X4_fold q_RX6_88 xl_46 (xs_46 _ _) rfl rfl hl.1 rfl (Nat.le_of_ble_eq_true rfl) ⟨⟨rfl, rfl⟩, Nat.le_of_ble_eq_true rfl, Nat.le_of_ble_eq_true rfl⟩ ⟨Nat.zero_le _, Nat.zero_le _⟩ dX6_refresh_50) (fun r50 I50 J50 H locs h hw => ?_)
    refine g_putJ C hw fp_RX6_39 xl_39 xs_39 (st_6_11 ad _) (Nat.le_of_ble_eq_true rfl) dX6_refresh_53 (fun H locs hw => ?_)
    obtain ⟨J53, e53⟩ : ∃ z : MJ, z = mJ J50 39 11 r50 := ⟨_, rfl⟩
    have h := h J53 e53
    rw [← e53] at hw
    refine lv_aload_n hx hb dX6_refresh_56 rfl (lv_at hl 0 rfl) ?_
    refine lv_iconst (v := 0) hx hb dX6_refresh_57 (by decide) ?_
    refine g_putI C hw fp_RX6_47 xl_39 xs_39 (st_6_13 ad _) (Nat.le_of_ble_eq_true rfl) (by decide) (by decide) dX6_refresh_58 (fun H locs hw => ?_)
    obtain ⟨I58, e58⟩ : ∃ z : MI, z = mI I50 39 13 (0 : Int32) := ⟨_, rfl⟩
    have h := h I58 e58
    rw [← e58] at hw
    refine lv_aload_n hx hb dX6_refresh_61 rfl (lv_at hl 0 rfl) ?_
    refine lv_iconst (v := 1) hx hb dX6_refresh_62 (by decide) ?_
    refine g_putI C hw fp_RX6_43 xl_39 xs_39 (st_6_12 ad _) (Nat.le_of_ble_eq_true rfl) (by decide) (by decide) dX6_refresh_63 (fun H locs hw => ?_)
    obtain ⟨I63, e63⟩ : ∃ z : MI, z = mI I58 39 12 (1 : Int32) := ⟨_, rfl⟩
    have h := h I63 e63
    rw [← e63] at hw
    exact g_vret C hw h dX6_refresh_66
  · have h := h.2 c4
    exact g_vret C hw h dX6_refresh_7
theorem m_X6_refresh {l : Launch} {Q : MI → MJ → Prop} {I : MI} {J : MJ} (h : P_X6_refresh I J Q) : Met l yX6_refresh (xws yX6_refresh cX6_refresh 1 none) rmX6_refresh (va_Pc [.ref (ad 39)] (gB (xS ad cy) 66 ad cy D (xF ad ts) I J)) (gQv (xS ad cy) 66 ad cy D (xF ad ts) Q) 0 0 (gA 66 ad) :=
  g_met (xF_ok ad ts) rfl (by decide) (Nat.le_of_ble_eq_true rfl) (fun p e s m below meth c ls C hw hl => w_X6_refresh C  h hw hl)
/-! BagPhrases$Lattice.opens(III)Z -/
def P_X4_opens_44 (Q : Int32 → MI → MJ → Prop) (I : MI) (J : MJ) : Prop :=
  Q (0 : Int32) I J
def P_X4_opens (a0 : Int32) (a1 : Int32) (a2 : Int32) (I : MI) (J : MJ) (Q : Int32 → MI → MJ → Prop) : Prop :=
  ((a0 ≤ 0 → P_X4_opens_44 Q I J) ∧ (¬ a0 ≤ 0 → (((1296 : Int32) ≤ a0 → P_X4_opens_44 Q I J) ∧ (¬ (1296 : Int32) ≤ a0 → vp_in a0 1944 ∧ ((((((I 49 a0.toNatClampNeg) >>> (a2 &&& 31)) &&& (1 : Int32)) = 0 → P_X4_opens_44 Q I J) ∧ (¬ (((I 49 a0.toNatClampNeg) >>> (a2 &&& 31)) &&& (1 : Int32)) = 0 → vp_in a2 10 ∧ (((((a1 >>> ((I 13 a2.toNatClampNeg) &&& 31)) &&& (1 : Int32)) = 0 → P_X4_opens_44 Q I J) ∧ (¬ ((a1 >>> ((I 13 a2.toNatClampNeg) &&& 31)) &&& (1 : Int32)) = 0 → Q (1 : Int32) I J))))))))))
abbrev rmX4_opens : Room := { frames := 0, cells := 0, slots := 0, locals := 0 }
set_option maxHeartbeats 4000000 in
set_option maxRecDepth 100000 in
theorem w_X4_opens_44 {Q : Int32 → MI → MJ → Prop} (C : gC RX4 cX4_opens 4 (some .boolean) 66 ad cy D (xF ad ts) p s m args meth c) {I : MI} {J : MJ} {H : Heap} {locs : List Loc} {ls : Array Slot} (h : P_X4_opens_44 Q I J) (hw : gH (xS ad cy) 66 ad D s I J H locs) (hl : lv_has ls 4 []) : W p l e rmX4_opens s m args below meth c H locs 0 0 (MQ below (gQz (xS ad cy) 66 ad cy D (xF ad ts) Q) args s 0 0 (gA 66 ad)) (F0 m 44 ls []) := by
  obtain ⟨hx, hb, hC⟩ := id C
  refine lv_iconst (v := 0) hx hb dX4_opens_44 (by decide) ?_
  exact g_zret C hw (by decide) h dX4_opens_45
set_option maxHeartbeats 4000000 in
set_option maxRecDepth 100000 in
theorem w_X4_opens {Q : Int32 → MI → MJ → Prop} (C : gC RX4 cX4_opens 4 (some .boolean) 66 ad cy D (xF ad ts) p s m args meth c) {a0 : Int32} {a1 : Int32} {a2 : Int32} {I : MI} {J : MJ} {H : Heap} {locs : List Loc} {ls : Array Slot} (h : P_X4_opens a0 a1 a2 I J Q) (hw : gH (xS ad cy) 66 ad D s I J H locs) (hl : lv_has ls 4 [(0, .ref (ad 46)), (1, .int a0), (2, .int a1), (3, .int a2)]) : W p l e rmX4_opens s m args below meth c H locs 0 0 (MQ below (gQz (xS ad cy) 66 ad cy D (xF ad ts) Q) args s 0 0 (gA 66 ad)) (F0 m 0 ls []) := by
  obtain ⟨hx, hb, hC⟩ := id C
  refine lv_iload_n hx hb dX4_opens_0 rfl (lv_at hl 1 rfl) ?_
  refine lv_if_le (tgt := 44) hx hb dX4_opens_1 (by decide) (fun c1 => ?_) (fun c1 => ?_)
  · have h := h.1 c1
    exact w_X4_opens_44 C  h hw (lv_sub hl [] rfl)
  · have h := h.2 c1
    refine lv_iload_n hx hb dX4_opens_4 rfl (lv_at hl 1 rfl) ?_
    refine lv_sipush (v := 1296) hx hb dX4_opens_5 (by decide) ?_
    refine lv_icmp_ge (tgt := 44) hx hb dX4_opens_8 (by decide) (fun c8 => ?_) (fun c8 => ?_)
    · have h := h.1 c8
      exact w_X4_opens_44 C  h hw (lv_sub hl [] rfl)
    · have h := h.2 c8
      refine lv_aload_n hx hb dX4_opens_11 rfl (lv_at hl 0 rfl) ?_
      refine g_get C hw f_RX4_19 xl_46 (xs_46 _ _) rfl dX4_opens_12 ?_
      refine lv_iload_n hx hb dX4_opens_15 rfl (lv_at hl 1 rfl) ?_
      refine g_iald C hw xl_49 xs_49 h.1 dX4_opens_16 ?_
      have h := h.2
      refine lv_iload_n hx hb dX4_opens_17 rfl (lv_at hl 3 rfl) ?_
      refine lv_ishr hx hb dX4_opens_18 ?_
      refine lv_iconst (v := 1) hx hb dX4_opens_19 (by decide) ?_
      refine lv_iand hx hb dX4_opens_20 ?_
      refine lv_if_eq (tgt := 44) hx hb dX4_opens_21 (by decide) (fun c21 => ?_) (fun c21 => ?_)
      · have h := h.1 c21
        exact w_X4_opens_44 C  h hw (lv_sub hl [] rfl)
      · have h := h.2 c21
        refine lv_iload_n hx hb dX4_opens_24 rfl (lv_at hl 2 rfl) ?_
        refine lv_aload_n hx hb dX4_opens_25 rfl (lv_at hl 0 rfl) ?_
        refine g_get C hw f_RX4_44 xl_46 (xs_46 _ _) rfl dX4_opens_26 ?_
        refine g_get C hw f_RX4_93 xl_12 (xs_12 _ _) rfl dX4_opens_29 ?_
        refine lv_iload_n hx hb dX4_opens_32 rfl (lv_at hl 3 rfl) ?_
        refine g_iald C hw xl_13 xs_13 h.1 dX4_opens_33 ?_
        have h := h.2
        refine lv_ishr hx hb dX4_opens_34 ?_
        refine lv_iconst (v := 1) hx hb dX4_opens_35 (by decide) ?_
        refine lv_iand hx hb dX4_opens_36 ?_
        refine lv_if_eq (tgt := 44) hx hb dX4_opens_37 (by decide) (fun c37 => ?_) (fun c37 => ?_)
        · have h := h.1 c37
          exact w_X4_opens_44 C  h hw (lv_sub hl [] rfl)
        · have h := h.2 c37
          refine lv_iconst (v := 1) hx hb dX4_opens_40 (by decide) ?_
          refine lv_goto (tgt := 45) hx hb dX4_opens_41 (by decide) ?_
          exact g_zret C hw (by decide) h dX4_opens_45
theorem m_X4_opens {l : Launch} {a0 : Int32} {a1 : Int32} {a2 : Int32} {Q : Int32 → MI → MJ → Prop} {I : MI} {J : MJ} (h : P_X4_opens a0 a1 a2 I J Q) : Met l yX4_opens (xws yX4_opens cX4_opens 4 (some .boolean)) rmX4_opens (va_Pc [.ref (ad 46), .int a0, .int a1, .int a2] (gB (xS ad cy) 66 ad cy D (xF ad ts) I J)) (gQz (xS ad cy) 66 ad cy D (xF ad ts) Q) 0 0 (gA 66 ad) :=
  g_met (xF_ok ad ts) rfl (by decide) (Nat.le_of_ble_eq_true rfl) (fun p e s m below meth c ls C hw hl => w_X4_opens C  h hw hl)
/-! BagPhrases$Phrases.wordsInPhrases()I -/
def P_X6_wordsInPhrases_85 (Q : Int32 → MI → MJ → Prop) (kL8 : Int32 × Int32 × MI × MJ → Prop) (kL32 : Int32 × Int32 × Int32 × Int32 × MI × MJ → Prop) (x1 : Int32) (x2 : Int32) (x3 : Int32) (x4 : Int32) (I : MI) (J : MJ) : Prop :=
  kL32 (x1, x2, x3, (x4 + 1), I, J)
def P_X6_wordsInPhrases_32 (Q : Int32 → MI → MJ → Prop) (kL8 : Int32 × Int32 × MI × MJ → Prop) (kL32 : Int32 × Int32 × Int32 × Int32 × MI × MJ → Prop) : Int32 × Int32 × Int32 × Int32 × MI × MJ → Prop := fun z => match z with
  | (x1, x2, x3, x4, I, J) => (((I 12 4) ≤ x4 → kL8 (x1, (x2 + 1), I, J)) ∧ (¬ (I 12 4) ≤ x4 → P_X4_opens x3 (15 : Int32) x4 I J (fun r53 I53 J53 => ((r53 = 0 → P_X6_wordsInPhrases_85 Q kL8 kL32 x1 x2 x3 x4 I53 J53) ∧ (¬ r53 = 0 → P_X4_tailBehind 41 x3 x4 I53 J53 (fun r70 I70 J70 => ((r70 ≤ (0 : Int64) → P_X6_wordsInPhrases_85 Q kL8 kL32 x1 x2 x3 x4 I70 J70) ∧ (¬ r70 ≤ (0 : Int64) → P_X6_wordsInPhrases_85 Q kL8 kL32 (x1 ||| ((1 : Int32) <<< (x4 &&& 31))) x2 x3 x4 I70 J70))))))))
def P_X6_wordsInPhrases_8 (Q : Int32 → MI → MJ → Prop) (kL8 : Int32 × Int32 × MI × MJ → Prop) : Int32 × Int32 × MI × MJ → Prop := fun z => match z with
  | (x1, x2, I, J) => (((I 46 9) ≤ x2 → Q x1 I J) ∧ (¬ (I 46 9) ≤ x2 → vp_in x2 1944 ∧ (lpx (P_X6_wordsInPhrases_32 Q kL8) (x1, x2, (I 50 x2.toNatClampNeg), (0 : Int32), I, J))))
def P_X6_wordsInPhrases (I : MI) (J : MJ) (Q : Int32 → MI → MJ → Prop) : Prop :=
  P_X6_refresh I J (fun I1 J1 => lpx (P_X6_wordsInPhrases_8 Q) ((0 : Int32), (0 : Int32), I1, J1))
abbrev rmX6_wordsInPhrases : Room := { frames := 5, cells := 0, slots := 0, locals := 135 }
set_option maxHeartbeats 4000000 in
set_option maxRecDepth 100000 in
theorem w_X6_wordsInPhrases_85 {Q : Int32 → MI → MJ → Prop} (C : gC RX6 cX6_wordsInPhrases 5 (some .int) 66 ad cy D (xF ad ts) p s m args meth c) {kL8 : Int32 × Int32 × MI × MJ → Prop} (hL8 : ∀ {x1 : Int32} {x2 : Int32} {I : MI} {J : MJ} {H : Heap} {locs : List Loc} {ls : Array Slot}, kL8 (x1, x2, I, J) → gH (xS ad cy) 66 ad D s I J H locs → lv_has ls 5 [(0, .ref (ad 39)), (1, .int x1), (2, .int x2)] → W p l e rmX6_wordsInPhrases s m args below meth c H locs 0 0 (MQ below (gQi (xS ad cy) 66 ad cy D (xF ad ts) Q) args s 0 0 (gA 66 ad)) (F0 m 8 ls [])) {kL32 : Int32 × Int32 × Int32 × Int32 × MI × MJ → Prop} (hL32 : ∀ {x1 : Int32} {x2 : Int32} {x3 : Int32} {x4 : Int32} {I : MI} {J : MJ} {H : Heap} {locs : List Loc} {ls : Array Slot}, kL32 (x1, x2, x3, x4, I, J) → gH (xS ad cy) 66 ad D s I J H locs → lv_has ls 5 [(0, .ref (ad 39)), (1, .int x1), (2, .int x2), (3, .int x3), (4, .int x4)] → W p l e rmX6_wordsInPhrases s m args below meth c H locs 0 0 (MQ below (gQi (xS ad cy) 66 ad cy D (xF ad ts) Q) args s 0 0 (gA 66 ad)) (F0 m 32 ls [])) {x1 : Int32} {x2 : Int32} {x3 : Int32} {x4 : Int32} {I : MI} {J : MJ} {H : Heap} {locs : List Loc} {ls : Array Slot} (h : P_X6_wordsInPhrases_85 Q kL8 kL32 x1 x2 x3 x4 I J) (hw : gH (xS ad cy) 66 ad D s I J H locs) (hl : lv_has ls 5 [(0, .ref (ad 39)), (1, .int x1), (2, .int x2), (3, .int x3), (4, .int x4)]) : W p l e rmX6_wordsInPhrases s m args below meth c H locs 0 0 (MQ below (gQi (xS ad cy) 66 ad cy D (xF ad ts) Q) args s 0 0 (gA 66 ad)) (F0 m 85 ls []) := by
  obtain ⟨hx, hb, hC⟩ := id C
  refine lv_iinc (v := x4 + 1) (lv' := [(4, .int (x4 + 1)), (0, .ref (ad 39)), (1, .int x1), (2, .int x2), (3, .int x3)]) hx hb dX6_wordsInPhrases_85 hl (k := 4) rfl rfl (by decide) rfl (fun ls hl => ?_)
  refine lv_goto (tgt := 32) hx hb dX6_wordsInPhrases_88 (by decide) ?_
  exact hL32 h hw (lv_sub hl [1, 2, 3, 4, 0] rfl)
set_option maxHeartbeats 4000000 in
set_option maxRecDepth 100000 in
theorem w_X6_wordsInPhrases_32 {Q : Int32 → MI → MJ → Prop} (C : gC RX6 cX6_wordsInPhrases 5 (some .int) 66 ad cy D (xF ad ts) p s m args meth c) {kL8 : Int32 × Int32 × MI × MJ → Prop} (hL8 : ∀ {x1 : Int32} {x2 : Int32} {I : MI} {J : MJ} {H : Heap} {locs : List Loc} {ls : Array Slot}, kL8 (x1, x2, I, J) → gH (xS ad cy) 66 ad D s I J H locs → lv_has ls 5 [(0, .ref (ad 39)), (1, .int x1), (2, .int x2)] → W p l e rmX6_wordsInPhrases s m args below meth c H locs 0 0 (MQ below (gQi (xS ad cy) 66 ad cy D (xF ad ts) Q) args s 0 0 (gA 66 ad)) (F0 m 8 ls [])) {kL32 : Int32 × Int32 × Int32 × Int32 × MI × MJ → Prop} (hL32 : ∀ {x1 : Int32} {x2 : Int32} {x3 : Int32} {x4 : Int32} {I : MI} {J : MJ} {H : Heap} {locs : List Loc} {ls : Array Slot}, kL32 (x1, x2, x3, x4, I, J) → gH (xS ad cy) 66 ad D s I J H locs → lv_has ls 5 [(0, .ref (ad 39)), (1, .int x1), (2, .int x2), (3, .int x3), (4, .int x4)] → W p l e rmX6_wordsInPhrases s m args below meth c H locs 0 0 (MQ below (gQi (xS ad cy) 66 ad cy D (xF ad ts) Q) args s 0 0 (gA 66 ad)) (F0 m 32 ls [])) {x1 : Int32} {x2 : Int32} {x3 : Int32} {x4 : Int32} {I : MI} {J : MJ} {H : Heap} {locs : List Loc} {ls : Array Slot} (h : P_X6_wordsInPhrases_32 Q kL8 kL32 (x1, x2, x3, x4, I, J)) (hw : gH (xS ad cy) 66 ad D s I J H locs) (hl : lv_has ls 5 [(0, .ref (ad 39)), (1, .int x1), (2, .int x2), (3, .int x3), (4, .int x4)]) : W p l e rmX6_wordsInPhrases s m args below meth c H locs 0 0 (MQ below (gQi (xS ad cy) 66 ad cy D (xF ad ts) Q) args s 0 0 (gA 66 ad)) (F0 m 32 ls []) := by
  obtain ⟨hx, hb, hC⟩ := id C
  refine lv_iload hx hb dX6_wordsInPhrases_32 (lv_at hl 4 rfl) ?_
  refine lv_aload_n hx hb dX6_wordsInPhrases_34 rfl (lv_at hl 0 rfl) ?_
  refine g_get C hw f_RX6_50 xl_39 (xs_39 _ _) rfl dX6_wordsInPhrases_35 ?_
  refine g_get C hw f_RX6_119 xl_12 (xs_12 _ _) rfl dX6_wordsInPhrases_38 ?_
  refine lv_icmp_ge (tgt := 91) hx hb dX6_wordsInPhrases_41 (by decide) (fun c41 => ?_) (fun c41 => ?_)
  · have h := h.1 c41
    refine lv_iinc (v := x2 + 1) (lv' := [(2, .int (x2 + 1)), (0, .ref (ad 39)), (1, .int x1), (3, .int x3), (4, .int x4)]) hx hb dX6_wordsInPhrases_91 hl (k := 2) rfl rfl (by decide) rfl (fun ls hl => ?_)
    refine lv_goto (tgt := 8) hx hb dX6_wordsInPhrases_94 (by decide) ?_
    exact hL8 h hw (lv_sub hl [1, 2, 0] rfl)
  · have h := h.2 c41
    refine lv_aload_n hx hb dX6_wordsInPhrases_44 rfl (lv_at hl 0 rfl) ?_
    refine g_get C hw f_RX6_63 xl_39 (xs_39 _ _) rfl dX6_wordsInPhrases_45 ?_
    refine lv_iload_n hx hb dX6_wordsInPhrases_48 rfl (lv_at hl 3 rfl) ?_
    refine lv_bipush (v := 15) hx hb dX6_wordsInPhrases_49 (by decide) ?_
    refine lv_iload hx hb dX6_wordsInPhrases_51 (lv_at hl 4 rfl) ?_
    refine g_cz hw (g_rV [.int x3, .int (15 : Int32), .int x4] [] C hw (m_X4_opens h) k_X4_opens q_RX6_124 xl_46 (xs_46 _ _) rfl rfl hl.1 rfl (Nat.le_of_ble_eq_true rfl) ⟨⟨rfl, rfl⟩, Nat.le_of_ble_eq_true rfl, Nat.le_of_ble_eq_true rfl⟩ ⟨Nat.zero_le _, Nat.zero_le _⟩ dX6_wordsInPhrases_53) (fun r53 I53 J53 H locs z53 h hw => ?_)
    refine lv_if_eq (tgt := 85) hx hb dX6_wordsInPhrases_56 (by decide) (fun c56 => ?_) (fun c56 => ?_)
    · have h := h.1 c56
      exact w_X6_wordsInPhrases_85 C hL8 hL32 h hw (lv_sub hl [0, 1, 2, 3, 4] rfl)
    · have h := h.2 c56
      refine lv_aload_n hx hb dX6_wordsInPhrases_59 rfl (lv_at hl 0 rfl) ?_
      refine g_get C hw f_RX6_63 xl_39 (xs_39 _ _) rfl dX6_wordsInPhrases_60 ?_
      refine lv_aload_n hx hb dX6_wordsInPhrases_63 rfl (lv_at hl 0 rfl) ?_
      refine g_get C hw f_RX6_18 xl_39 (xs_39 _ _) rfl dX6_wordsInPhrases_64 ?_
      refine lv_iload_n hx hb dX6_wordsInPhrases_67 rfl (lv_at hl 3 rfl) ?_
      refine lv_iload hx hb dX6_wordsInPhrases_68 (lv_at hl 4 rfl) ?_
      refine g_cl hw (g_rV [.ref (ad 41), .int x3, .int x4] [] C hw (m_X4_tailBehind isTl_41 h) k_X4_tailBehind q_RX6_128 xl_46 (xs_46 _ _) rfl rfl hl.1 rfl (Nat.le_of_ble_eq_true rfl) ⟨⟨rfl, rfl⟩, Nat.le_of_ble_eq_true rfl, Nat.le_of_ble_eq_true rfl⟩ ⟨Nat.zero_le _, Nat.zero_le _⟩ dX6_wordsInPhrases_70) (fun r70 I70 J70 H locs h hw => ?_)
      refine lv_lconst (v := 0) hx hb dX6_wordsInPhrases_73 (by decide) ?_
      refine g_lcmp_le (tgt := 85) hx hb dX6_wordsInPhrases_74 dX6_wordsInPhrases_75 (by decide) (fun c74 => ?_) (fun c74 => ?_)
      · have h := h.1 c74
        exact w_X6_wordsInPhrases_85 C hL8 hL32 h hw (lv_sub hl [0, 1, 2, 3, 4] rfl)
      · have h := h.2 c74
        refine lv_iload_n hx hb dX6_wordsInPhrases_78 rfl (lv_at hl 1 rfl) ?_
        refine lv_iconst (v := 1) hx hb dX6_wordsInPhrases_79 (by decide) ?_
        refine lv_iload hx hb dX6_wordsInPhrases_80 (lv_at hl 4 rfl) ?_
        refine lv_ishl hx hb dX6_wordsInPhrases_82 ?_
        refine lv_ior hx hb dX6_wordsInPhrases_83 ?_
        refine lv_istore_n (lv' := [(1, .int (x1 ||| ((1 : Int32) <<< (x4 &&& 31)))), (0, .ref (ad 39)), (2, .int x2), (3, .int x3), (4, .int x4)]) hx hb dX6_wordsInPhrases_84 rfl hl (by decide) rfl (fun ls hl => ?_)
        exact w_X6_wordsInPhrases_85 C hL8 hL32 h hw (lv_sub hl [1, 0, 2, 3, 4] rfl)
theorem wl_X6_wordsInPhrases_32 {Q : Int32 → MI → MJ → Prop} (C : gC RX6 cX6_wordsInPhrases 5 (some .int) 66 ad cy D (xF ad ts) p s m args meth c) {kL8 : Int32 × Int32 × MI × MJ → Prop} (hL8 : ∀ {x1 : Int32} {x2 : Int32} {I : MI} {J : MJ} {H : Heap} {locs : List Loc} {ls : Array Slot}, kL8 (x1, x2, I, J) → gH (xS ad cy) 66 ad D s I J H locs → lv_has ls 5 [(0, .ref (ad 39)), (1, .int x1), (2, .int x2)] → W p l e rmX6_wordsInPhrases s m args below meth c H locs 0 0 (MQ below (gQi (xS ad cy) 66 ad cy D (xF ad ts) Q) args s 0 0 (gA 66 ad)) (F0 m 8 ls [])) {x1 : Int32} {x2 : Int32} {x3 : Int32} {x4 : Int32} {I : MI} {J : MJ} {H : Heap} {locs : List Loc} {ls : Array Slot} (h : lpx (P_X6_wordsInPhrases_32 Q kL8) (x1, x2, x3, x4, I, J)) (hw : gH (xS ad cy) 66 ad D s I J H locs) (hl : lv_has ls 5 [(0, .ref (ad 39)), (1, .int x1), (2, .int x2), (3, .int x3), (4, .int x4)]) : W p l e rmX6_wordsInPhrases s m args below meth c H locs 0 0 (MQ below (gQi (xS ad cy) 66 ad cy D (xF ad ts) Q) args s 0 0 (gA 66 ad)) (F0 m 32 ls []) := by
  obtain ⟨n, h⟩ := h
  induction n generalizing x1 x2 x3 x4 I J H locs ls with
  | zero => exact False.elim h
  | succ n ih => exact w_X6_wordsInPhrases_32 C hL8 (fun hk9 hw9 hl9 => ih hw9 hl9 hk9) h hw hl
set_option maxHeartbeats 4000000 in
set_option maxRecDepth 100000 in
theorem w_X6_wordsInPhrases_8 {Q : Int32 → MI → MJ → Prop} (C : gC RX6 cX6_wordsInPhrases 5 (some .int) 66 ad cy D (xF ad ts) p s m args meth c) {kL8 : Int32 × Int32 × MI × MJ → Prop} (hL8 : ∀ {x1 : Int32} {x2 : Int32} {I : MI} {J : MJ} {H : Heap} {locs : List Loc} {ls : Array Slot}, kL8 (x1, x2, I, J) → gH (xS ad cy) 66 ad D s I J H locs → lv_has ls 5 [(0, .ref (ad 39)), (1, .int x1), (2, .int x2)] → W p l e rmX6_wordsInPhrases s m args below meth c H locs 0 0 (MQ below (gQi (xS ad cy) 66 ad cy D (xF ad ts) Q) args s 0 0 (gA 66 ad)) (F0 m 8 ls [])) {x1 : Int32} {x2 : Int32} {I : MI} {J : MJ} {H : Heap} {locs : List Loc} {ls : Array Slot} (h : P_X6_wordsInPhrases_8 Q kL8 (x1, x2, I, J)) (hw : gH (xS ad cy) 66 ad D s I J H locs) (hl : lv_has ls 5 [(0, .ref (ad 39)), (1, .int x1), (2, .int x2)]) : W p l e rmX6_wordsInPhrases s m args below meth c H locs 0 0 (MQ below (gQi (xS ad cy) 66 ad cy D (xF ad ts) Q) args s 0 0 (gA 66 ad)) (F0 m 8 ls []) := by
  obtain ⟨hx, hb, hC⟩ := id C
  refine lv_iload_n hx hb dX6_wordsInPhrases_8 rfl (lv_at hl 2 rfl) ?_
  refine lv_aload_n hx hb dX6_wordsInPhrases_9 rfl (lv_at hl 0 rfl) ?_
  refine g_get C hw f_RX6_63 xl_39 (xs_39 _ _) rfl dX6_wordsInPhrases_10 ?_
  refine g_get C hw f_RX6_113 xl_46 (xs_46 _ _) rfl dX6_wordsInPhrases_13 ?_
  refine lv_icmp_ge (tgt := 97) hx hb dX6_wordsInPhrases_16 (by decide) (fun c16 => ?_) (fun c16 => ?_)
  · have h := h.1 c16
    refine lv_iload_n hx hb dX6_wordsInPhrases_97 rfl (lv_at hl 1 rfl) ?_
    exact g_iret C hw h dX6_wordsInPhrases_98
  · have h := h.2 c16
    refine lv_aload_n hx hb dX6_wordsInPhrases_19 rfl (lv_at hl 0 rfl) ?_
    refine g_get C hw f_RX6_63 xl_39 (xs_39 _ _) rfl dX6_wordsInPhrases_20 ?_
    refine g_get C hw f_RX6_116 xl_46 (xs_46 _ _) rfl dX6_wordsInPhrases_23 ?_
    refine lv_iload_n hx hb dX6_wordsInPhrases_26 rfl (lv_at hl 2 rfl) ?_
    refine g_iald C hw xl_50 xs_50 h.1 dX6_wordsInPhrases_27 ?_
    have h := h.2
    refine lv_istore_n (lv' := [(3, .int (I 50 x2.toNatClampNeg)), (0, .ref (ad 39)), (1, .int x1), (2, .int x2)]) hx hb dX6_wordsInPhrases_28 rfl hl (by decide) rfl (fun ls hl => ?_)
    refine lv_iconst (v := 0) hx hb dX6_wordsInPhrases_29 (by decide) ?_
    refine lv_istore (lv' := [(4, .int (0 : Int32)), (3, .int (I 50 x2.toNatClampNeg)), (0, .ref (ad 39)), (1, .int x1), (2, .int x2)]) hx hb dX6_wordsInPhrases_30 hl (by decide) rfl (fun ls hl => ?_)
    exact wl_X6_wordsInPhrases_32 C hL8 h hw (lv_sub hl [2, 3, 4, 1, 0] rfl)
theorem wl_X6_wordsInPhrases_8 {Q : Int32 → MI → MJ → Prop} (C : gC RX6 cX6_wordsInPhrases 5 (some .int) 66 ad cy D (xF ad ts) p s m args meth c) {x1 : Int32} {x2 : Int32} {I : MI} {J : MJ} {H : Heap} {locs : List Loc} {ls : Array Slot} (h : lpx (P_X6_wordsInPhrases_8 Q) (x1, x2, I, J)) (hw : gH (xS ad cy) 66 ad D s I J H locs) (hl : lv_has ls 5 [(0, .ref (ad 39)), (1, .int x1), (2, .int x2)]) : W p l e rmX6_wordsInPhrases s m args below meth c H locs 0 0 (MQ below (gQi (xS ad cy) 66 ad cy D (xF ad ts) Q) args s 0 0 (gA 66 ad)) (F0 m 8 ls []) := by
  obtain ⟨n, h⟩ := h
  induction n generalizing x1 x2 I J H locs ls with
  | zero => exact False.elim h
  | succ n ih => exact w_X6_wordsInPhrases_8 C  (fun hk9 hw9 hl9 => ih hw9 hl9 hk9) h hw hl
set_option maxHeartbeats 4000000 in
set_option maxRecDepth 100000 in
theorem w_X6_wordsInPhrases {Q : Int32 → MI → MJ → Prop} (C : gC RX6 cX6_wordsInPhrases 5 (some .int) 66 ad cy D (xF ad ts) p s m args meth c) {I : MI} {J : MJ} {H : Heap} {locs : List Loc} {ls : Array Slot} (h : P_X6_wordsInPhrases I J Q) (hw : gH (xS ad cy) 66 ad D s I J H locs) (hl : lv_has ls 5 [(0, .ref (ad 39))]) : W p l e rmX6_wordsInPhrases s m args below meth c H locs 0 0 (MQ below (gQi (xS ad cy) 66 ad cy D (xF ad ts) Q) args s 0 0 (gA 66 ad)) (F0 m 0 ls []) := by
  obtain ⟨hx, hb, hC⟩ := id C
  refine lv_aload_n hx hb dX6_wordsInPhrases_0 rfl (lv_at hl 0 rfl) ?_
  refine g_cv hw (g_rV [] [] C hw (m_X6_refresh h) k_X6_refresh q_RX6_96 xl_39 (xs_39 _ _) rfl rfl hl.1 rfl (Nat.le_of_ble_eq_true rfl) ⟨⟨rfl, rfl⟩, Nat.le_of_ble_eq_true rfl, Nat.le_of_ble_eq_true rfl⟩ ⟨Nat.zero_le _, Nat.zero_le _⟩ dX6_wordsInPhrases_1) (fun I1 J1 H locs h hw => ?_)
  refine lv_iconst (v := 0) hx hb dX6_wordsInPhrases_4 (by decide) ?_
  refine lv_istore_n (lv' := [(1, .int (0 : Int32)), (0, .ref (ad 39))]) hx hb dX6_wordsInPhrases_5 rfl hl (by decide) rfl (fun ls hl => ?_)
  refine lv_iconst (v := 0) hx hb dX6_wordsInPhrases_6 (by decide) ?_
  refine lv_istore_n (lv' := [(2, .int (0 : Int32)), (1, .int (0 : Int32)), (0, .ref (ad 39))]) hx hb dX6_wordsInPhrases_7 rfl hl (by decide) rfl (fun ls hl => ?_)
  exact wl_X6_wordsInPhrases_8 C  h hw (lv_sub hl [2, 1, 0] rfl)
theorem m_X6_wordsInPhrases {l : Launch} {Q : Int32 → MI → MJ → Prop} {I : MI} {J : MJ} (h : P_X6_wordsInPhrases I J Q) : Met l yX6_wordsInPhrases (xws yX6_wordsInPhrases cX6_wordsInPhrases 5 (some .int)) rmX6_wordsInPhrases (va_Pc [.ref (ad 39)] (gB (xS ad cy) 66 ad cy D (xF ad ts) I J)) (gQi (xS ad cy) 66 ad cy D (xF ad ts) Q) 0 0 (gA 66 ad) :=
  g_met (xF_ok ad ts) rfl (by decide) (Nat.le_of_ble_eq_true rfl) (fun p e s m below meth c ls C hw hl => w_X6_wordsInPhrases C  h hw hl)
/-! BagPhrases$Lattice.empty(LBagPhrases$Way;[J)V -/
def P_X4_empty_54 (w0 : Nat) (w1 : Nat) (Q : MI → MJ → Prop) (kL2 : Int32 × MI × MJ → Prop) (x3 : Int32) (I : MI) (J : MJ) : Prop :=
  kL2 ((x3 + 1), I, J)
def P_X4_empty_13 (w0 : Nat) (w1 : Nat) (Q : MI → MJ → Prop) (kL2 : Int32 × MI × MJ → Prop) (kL13 : Int32 × Int32 × MI × MJ → Prop) : Int32 × Int32 × MI × MJ → Prop := fun z => match z with
  | (x3, x4, I, J) => (((4 : Int32) ≤ x4 → P_X4_empty_54 w0 w1 Q kL2 x3 I J) ∧ (¬ (4 : Int32) ≤ x4 → vp_in x3 1944 ∧ ((((1296 : Int32) ≤ (I 50 x3.toNatClampNeg) → P_X4_empty_54 w0 w1 Q kL2 x3 I J) ∧ (¬ (1296 : Int32) ≤ (I 50 x3.toNatClampNeg) → vp_in x3 1944 ∧ (PW_none w0 I J (fun r44 I44 J44 => vp_in (((I 50 x3.toNatClampNeg) * (4 : Int32)) + x4) 5184 ∧ (∀ J47 : MJ, J47 = mJ J44 w1 (((I 50 x3.toNatClampNeg) * (4 : Int32)) + x4).toNatClampNeg r44 → kL13 (x3, (x4 + 1), I44, J47)))))))))
def P_X4_empty_2 (w0 : Nat) (w1 : Nat) (Q : MI → MJ → Prop) (kL2 : Int32 × MI × MJ → Prop) : Int32 × MI × MJ → Prop := fun z => match z with
  | (x3, I, J) => (((I 46 9) ≤ x3 → Q I J) ∧ (¬ (I 46 9) ≤ x3 → lpx (P_X4_empty_13 w0 w1 Q kL2) (x3, (0 : Int32), I, J)))
def P_X4_empty (w0 : Nat) (w1 : Nat) (I : MI) (J : MJ) (Q : MI → MJ → Prop) : Prop :=
  lpx (P_X4_empty_2 w0 w1 Q) ((0 : Int32), I, J)
abbrev rmX4_empty : Room := { frames := 2, cells := 0, slots := 0, locals := 60 }
set_option maxHeartbeats 4000000 in
set_option maxRecDepth 100000 in
theorem w_X4_empty_54 {Q : MI → MJ → Prop} (C : gC RX4 cX4_empty 5 none 66 ad cy D (xF ad ts) p s m args meth c) {w0 : Nat} (hw0 : isWay w0) {w1 : Nat} (hw1 : isTl w1) {kL2 : Int32 × MI × MJ → Prop} (hL2 : ∀ {x3 : Int32} {I : MI} {J : MJ} {H : Heap} {locs : List Loc} {ls : Array Slot}, kL2 (x3, I, J) → gH (xS ad cy) 66 ad D s I J H locs → lv_has ls 5 [(0, .ref (ad 46)), (1, .ref (ad w0)), (2, .ref (ad w1)), (3, .int x3)] → W p l e rmX4_empty s m args below meth c H locs 0 0 (MQ below (gQv (xS ad cy) 66 ad cy D (xF ad ts) Q) args s 0 0 (gA 66 ad)) (F0 m 2 ls [])) {x3 : Int32} {I : MI} {J : MJ} {H : Heap} {locs : List Loc} {ls : Array Slot} (h : P_X4_empty_54 w0 w1 Q kL2 x3 I J) (hw : gH (xS ad cy) 66 ad D s I J H locs) (hl : lv_has ls 5 [(0, .ref (ad 46)), (1, .ref (ad w0)), (2, .ref (ad w1)), (3, .int x3)]) : W p l e rmX4_empty s m args below meth c H locs 0 0 (MQ below (gQv (xS ad cy) 66 ad cy D (xF ad ts) Q) args s 0 0 (gA 66 ad)) (F0 m 54 ls []) := by
  obtain ⟨hx, hb, hC⟩ := id C
  refine lv_iinc (v := x3 + 1) (lv' := [(3, .int (x3 + 1)), (0, .ref (ad 46)), (1, .ref (ad w0)), (2, .ref (ad w1))]) hx hb dX4_empty_54 hl (k := 3) rfl rfl (by decide) rfl (fun ls hl => ?_)
  refine lv_goto (tgt := 2) hx hb dX4_empty_57 (by decide) ?_
  exact hL2 h hw (lv_sub hl [1, 2, 3, 0] rfl)
set_option maxHeartbeats 4000000 in
set_option maxRecDepth 100000 in
theorem w_X4_empty_13 {Q : MI → MJ → Prop} (C : gC RX4 cX4_empty 5 none 66 ad cy D (xF ad ts) p s m args meth c) {w0 : Nat} (hw0 : isWay w0) {w1 : Nat} (hw1 : isTl w1) {kL2 : Int32 × MI × MJ → Prop} (hL2 : ∀ {x3 : Int32} {I : MI} {J : MJ} {H : Heap} {locs : List Loc} {ls : Array Slot}, kL2 (x3, I, J) → gH (xS ad cy) 66 ad D s I J H locs → lv_has ls 5 [(0, .ref (ad 46)), (1, .ref (ad w0)), (2, .ref (ad w1)), (3, .int x3)] → W p l e rmX4_empty s m args below meth c H locs 0 0 (MQ below (gQv (xS ad cy) 66 ad cy D (xF ad ts) Q) args s 0 0 (gA 66 ad)) (F0 m 2 ls [])) {kL13 : Int32 × Int32 × MI × MJ → Prop} (hL13 : ∀ {x3 : Int32} {x4 : Int32} {I : MI} {J : MJ} {H : Heap} {locs : List Loc} {ls : Array Slot}, kL13 (x3, x4, I, J) → gH (xS ad cy) 66 ad D s I J H locs → lv_has ls 5 [(0, .ref (ad 46)), (1, .ref (ad w0)), (2, .ref (ad w1)), (3, .int x3), (4, .int x4)] → W p l e rmX4_empty s m args below meth c H locs 0 0 (MQ below (gQv (xS ad cy) 66 ad cy D (xF ad ts) Q) args s 0 0 (gA 66 ad)) (F0 m 13 ls [])) {x3 : Int32} {x4 : Int32} {I : MI} {J : MJ} {H : Heap} {locs : List Loc} {ls : Array Slot} (h : P_X4_empty_13 w0 w1 Q kL2 kL13 (x3, x4, I, J)) (hw : gH (xS ad cy) 66 ad D s I J H locs) (hl : lv_has ls 5 [(0, .ref (ad 46)), (1, .ref (ad w0)), (2, .ref (ad w1)), (3, .int x3), (4, .int x4)]) : W p l e rmX4_empty s m args below meth c H locs 0 0 (MQ below (gQv (xS ad cy) 66 ad cy D (xF ad ts) Q) args s 0 0 (gA 66 ad)) (F0 m 13 ls []) := by
  obtain ⟨hx, hb, hC⟩ := id C
  refine lv_iload hx hb dX4_empty_13 (lv_at hl 4 rfl) ?_
  refine lv_iconst (v := 4) hx hb dX4_empty_15 (by decide) ?_
  refine lv_icmp_ge (tgt := 54) hx hb dX4_empty_16 (by decide) (fun c16 => ?_) (fun c16 => ?_)
  · have h := h.1 c16
    exact w_X4_empty_54 C hw0 hw1 hL2 h hw (lv_sub hl [0, 1, 2, 3] rfl)
  · have h := h.2 c16
    refine lv_aload_n hx hb dX4_empty_19 rfl (lv_at hl 0 rfl) ?_
    refine g_get C hw f_RX4_22 xl_46 (xs_46 _ _) rfl dX4_empty_20 ?_
    refine lv_iload_n hx hb dX4_empty_23 rfl (lv_at hl 3 rfl) ?_
    refine g_iald C hw xl_50 xs_50 h.1 dX4_empty_24 ?_
    have h := h.2
    refine lv_sipush (v := 1296) hx hb dX4_empty_25 (by decide) ?_
    refine lv_icmp_ge (tgt := 54) hx hb dX4_empty_28 (by decide) (fun c28 => ?_) (fun c28 => ?_)
    · have h := h.1 c28
      exact w_X4_empty_54 C hw0 hw1 hL2 h hw (lv_sub hl [0, 1, 2, 3] rfl)
    · have h := h.2 c28
      refine lv_aload_n hx hb dX4_empty_31 rfl (lv_at hl 2 rfl) ?_
      refine lv_aload_n hx hb dX4_empty_32 rfl (lv_at hl 0 rfl) ?_
      refine g_get C hw f_RX4_22 xl_46 (xs_46 _ _) rfl dX4_empty_33 ?_
      refine lv_iload_n hx hb dX4_empty_36 rfl (lv_at hl 3 rfl) ?_
      refine g_iald C hw xl_50 xs_50 h.1 dX4_empty_37 ?_
      have h := h.2
      refine lv_iconst (v := 4) hx hb dX4_empty_38 (by decide) ?_
      refine lv_imul hx hb dX4_empty_39 ?_
      refine lv_iload hx hb dX4_empty_40 (lv_at hl 4 rfl) ?_
      refine lv_iadd hx hb dX4_empty_42 ?_
      refine lv_aload_n hx hb dX4_empty_43 rfl (lv_at hl 1 rfl) ?_
      refine g_cl hw (g_Wnone (rest := [.int (((I 50 x3.toNatClampNeg) * (4 : Int32)) + x4), .ref (ad w1)]) C hw hw0 h hl.1 rfl (Nat.le_of_ble_eq_true rfl) (Nat.le_of_ble_eq_true rfl) (Nat.le_of_ble_eq_true rfl) dX4_empty_44) (fun r44 I44 J44 H locs h hw => ?_)
      refine g_last C hw (xl_Tl0 hw1) (xs_Tl0 hw1) h.1 dX4_empty_47 (fun H locs hw => ?_)
      have h := h.2
      obtain ⟨J47, e47⟩ : ∃ z : MJ, z = mJ J44 w1 (((I 50 x3.toNatClampNeg) * (4 : Int32)) + x4).toNatClampNeg r44 := ⟨_, rfl⟩
      have h := h J47 e47
      rw [← e47] at hw
      refine lv_iinc (v := x4 + 1) (lv' := [(4, .int (x4 + 1)), (0, .ref (ad 46)), (1, .ref (ad w0)), (2, .ref (ad w1)), (3, .int x3)]) hx hb dX4_empty_48 hl (k := 4) rfl rfl (by decide) rfl (fun ls hl => ?_)
      refine lv_goto (tgt := 13) hx hb dX4_empty_51 (by decide) ?_
      exact hL13 h hw (lv_sub hl [1, 2, 3, 4, 0] rfl)
theorem wl_X4_empty_13 {Q : MI → MJ → Prop} (C : gC RX4 cX4_empty 5 none 66 ad cy D (xF ad ts) p s m args meth c) {w0 : Nat} (hw0 : isWay w0) {w1 : Nat} (hw1 : isTl w1) {kL2 : Int32 × MI × MJ → Prop} (hL2 : ∀ {x3 : Int32} {I : MI} {J : MJ} {H : Heap} {locs : List Loc} {ls : Array Slot}, kL2 (x3, I, J) → gH (xS ad cy) 66 ad D s I J H locs → lv_has ls 5 [(0, .ref (ad 46)), (1, .ref (ad w0)), (2, .ref (ad w1)), (3, .int x3)] → W p l e rmX4_empty s m args below meth c H locs 0 0 (MQ below (gQv (xS ad cy) 66 ad cy D (xF ad ts) Q) args s 0 0 (gA 66 ad)) (F0 m 2 ls [])) {x3 : Int32} {x4 : Int32} {I : MI} {J : MJ} {H : Heap} {locs : List Loc} {ls : Array Slot} (h : lpx (P_X4_empty_13 w0 w1 Q kL2) (x3, x4, I, J)) (hw : gH (xS ad cy) 66 ad D s I J H locs) (hl : lv_has ls 5 [(0, .ref (ad 46)), (1, .ref (ad w0)), (2, .ref (ad w1)), (3, .int x3), (4, .int x4)]) : W p l e rmX4_empty s m args below meth c H locs 0 0 (MQ below (gQv (xS ad cy) 66 ad cy D (xF ad ts) Q) args s 0 0 (gA 66 ad)) (F0 m 13 ls []) := by
  obtain ⟨n, h⟩ := h
  induction n generalizing x3 x4 I J H locs ls with
  | zero => exact False.elim h
  | succ n ih => exact w_X4_empty_13 C hw0 hw1 hL2 (fun hk9 hw9 hl9 => ih hw9 hl9 hk9) h hw hl
set_option maxHeartbeats 4000000 in
set_option maxRecDepth 100000 in
theorem w_X4_empty_2 {Q : MI → MJ → Prop} (C : gC RX4 cX4_empty 5 none 66 ad cy D (xF ad ts) p s m args meth c) {w0 : Nat} (hw0 : isWay w0) {w1 : Nat} (hw1 : isTl w1) {kL2 : Int32 × MI × MJ → Prop} (hL2 : ∀ {x3 : Int32} {I : MI} {J : MJ} {H : Heap} {locs : List Loc} {ls : Array Slot}, kL2 (x3, I, J) → gH (xS ad cy) 66 ad D s I J H locs → lv_has ls 5 [(0, .ref (ad 46)), (1, .ref (ad w0)), (2, .ref (ad w1)), (3, .int x3)] → W p l e rmX4_empty s m args below meth c H locs 0 0 (MQ below (gQv (xS ad cy) 66 ad cy D (xF ad ts) Q) args s 0 0 (gA 66 ad)) (F0 m 2 ls [])) {x3 : Int32} {I : MI} {J : MJ} {H : Heap} {locs : List Loc} {ls : Array Slot} (h : P_X4_empty_2 w0 w1 Q kL2 (x3, I, J)) (hw : gH (xS ad cy) 66 ad D s I J H locs) (hl : lv_has ls 5 [(0, .ref (ad 46)), (1, .ref (ad w0)), (2, .ref (ad w1)), (3, .int x3)]) : W p l e rmX4_empty s m args below meth c H locs 0 0 (MQ below (gQv (xS ad cy) 66 ad cy D (xF ad ts) Q) args s 0 0 (gA 66 ad)) (F0 m 2 ls []) := by
  obtain ⟨hx, hb, hC⟩ := id C
  refine lv_iload_n hx hb dX4_empty_2 rfl (lv_at hl 3 rfl) ?_
  refine lv_aload_n hx hb dX4_empty_3 rfl (lv_at hl 0 rfl) ?_
  refine g_get C hw f_RX4_34 xl_46 (xs_46 _ _) rfl dX4_empty_4 ?_
  refine lv_icmp_ge (tgt := 60) hx hb dX4_empty_7 (by decide) (fun c7 => ?_) (fun c7 => ?_)
  · have h := h.1 c7
    exact g_vret C hw h dX4_empty_60
  · have h := h.2 c7
    refine lv_iconst (v := 0) hx hb dX4_empty_10 (by decide) ?_
    refine lv_istore (lv' := [(4, .int (0 : Int32)), (0, .ref (ad 46)), (1, .ref (ad w0)), (2, .ref (ad w1)), (3, .int x3)]) hx hb dX4_empty_11 hl (by decide) rfl (fun ls hl => ?_)
    exact wl_X4_empty_13 C hw0 hw1 hL2 h hw (lv_sub hl [1, 2, 3, 4, 0] rfl)
theorem wl_X4_empty_2 {Q : MI → MJ → Prop} (C : gC RX4 cX4_empty 5 none 66 ad cy D (xF ad ts) p s m args meth c) {w0 : Nat} (hw0 : isWay w0) {w1 : Nat} (hw1 : isTl w1) {x3 : Int32} {I : MI} {J : MJ} {H : Heap} {locs : List Loc} {ls : Array Slot} (h : lpx (P_X4_empty_2 w0 w1 Q) (x3, I, J)) (hw : gH (xS ad cy) 66 ad D s I J H locs) (hl : lv_has ls 5 [(0, .ref (ad 46)), (1, .ref (ad w0)), (2, .ref (ad w1)), (3, .int x3)]) : W p l e rmX4_empty s m args below meth c H locs 0 0 (MQ below (gQv (xS ad cy) 66 ad cy D (xF ad ts) Q) args s 0 0 (gA 66 ad)) (F0 m 2 ls []) := by
  obtain ⟨n, h⟩ := h
  induction n generalizing x3 I J H locs ls with
  | zero => exact False.elim h
  | succ n ih => exact w_X4_empty_2 C hw0 hw1 (fun hk9 hw9 hl9 => ih hw9 hl9 hk9) h hw hl
set_option maxHeartbeats 4000000 in
set_option maxRecDepth 100000 in
theorem w_X4_empty {Q : MI → MJ → Prop} (C : gC RX4 cX4_empty 5 none 66 ad cy D (xF ad ts) p s m args meth c) {w0 : Nat} (hw0 : isWay w0) {w1 : Nat} (hw1 : isTl w1) {I : MI} {J : MJ} {H : Heap} {locs : List Loc} {ls : Array Slot} (h : P_X4_empty w0 w1 I J Q) (hw : gH (xS ad cy) 66 ad D s I J H locs) (hl : lv_has ls 5 [(0, .ref (ad 46)), (1, .ref (ad w0)), (2, .ref (ad w1))]) : W p l e rmX4_empty s m args below meth c H locs 0 0 (MQ below (gQv (xS ad cy) 66 ad cy D (xF ad ts) Q) args s 0 0 (gA 66 ad)) (F0 m 0 ls []) := by
  obtain ⟨hx, hb, hC⟩ := id C
  refine lv_iconst (v := 0) hx hb dX4_empty_0 (by decide) ?_
  refine lv_istore_n (lv' := [(3, .int (0 : Int32)), (0, .ref (ad 46)), (1, .ref (ad w0)), (2, .ref (ad w1))]) hx hb dX4_empty_1 rfl hl (by decide) rfl (fun ls hl => ?_)
  exact wl_X4_empty_2 C hw0 hw1 h hw (lv_sub hl [1, 2, 3, 0] rfl)
theorem m_X4_empty {l : Launch} {w0 : Nat} (hw0 : isWay w0) {w1 : Nat} (hw1 : isTl w1) {Q : MI → MJ → Prop} {I : MI} {J : MJ} (h : P_X4_empty w0 w1 I J Q) : Met l yX4_empty (xws yX4_empty cX4_empty 5 none) rmX4_empty (va_Pc [.ref (ad 46), .ref (ad w0), .ref (ad w1)] (gB (xS ad cy) 66 ad cy D (xF ad ts) I J)) (gQv (xS ad cy) 66 ad cy D (xF ad ts) Q) 0 0 (gA 66 ad) :=
  g_met (xF_ok ad ts) rfl (by decide) (Nat.le_of_ble_eq_true rfl) (fun p e s m below meth c ls C hw hl => w_X4_empty C hw0 hw1 h hw hl)
/-! BagPhrases$Phrases.endNowhere([J)V -/
def P_X6_endNowhere_2 (w0 : Nat) (Q : MI → MJ → Prop) (kL2 : Int32 × MI × MJ → Prop) : Int32 × MI × MJ → Prop := fun z => match z with
  | (x1, I, J) => (((4 : Int32) ≤ x1 → Q I J) ∧ (¬ (4 : Int32) ≤ x1 → vp_in x1 5184 ∧ (∀ J10 : MJ, J10 = mJ J w0 x1.toNatClampNeg (0 : Int64) → kL2 ((x1 + 1), I, J10))))
def P_X6_endNowhere (w0 : Nat) (I : MI) (J : MJ) (Q : MI → MJ → Prop) : Prop :=
  lpx (P_X6_endNowhere_2 w0 Q) ((0 : Int32), I, J)
abbrev rmX6_endNowhere : Room := { frames := 0, cells := 0, slots := 0, locals := 0 }
set_option maxHeartbeats 4000000 in
set_option maxRecDepth 100000 in
theorem w_X6_endNowhere_2 {Q : MI → MJ → Prop} (C : gC RX6 cX6_endNowhere 2 none 66 ad cy D (xF ad ts) p s m args meth c) {w0 : Nat} (hw0 : isTl w0) {kL2 : Int32 × MI × MJ → Prop} (hL2 : ∀ {x1 : Int32} {I : MI} {J : MJ} {H : Heap} {locs : List Loc} {ls : Array Slot}, kL2 (x1, I, J) → gH (xS ad cy) 66 ad D s I J H locs → lv_has ls 2 [(0, .ref (ad w0)), (1, .int x1)] → W p l e rmX6_endNowhere s m args below meth c H locs 0 0 (MQ below (gQv (xS ad cy) 66 ad cy D (xF ad ts) Q) args s 0 0 (gA 66 ad)) (F0 m 2 ls [])) {x1 : Int32} {I : MI} {J : MJ} {H : Heap} {locs : List Loc} {ls : Array Slot} (h : P_X6_endNowhere_2 w0 Q kL2 (x1, I, J)) (hw : gH (xS ad cy) 66 ad D s I J H locs) (hl : lv_has ls 2 [(0, .ref (ad w0)), (1, .int x1)]) : W p l e rmX6_endNowhere s m args below meth c H locs 0 0 (MQ below (gQv (xS ad cy) 66 ad cy D (xF ad ts) Q) args s 0 0 (gA 66 ad)) (F0 m 2 ls []) := by
  obtain ⟨hx, hb, hC⟩ := id C
  refine lv_iload_n hx hb dX6_endNowhere_2 rfl (lv_at hl 1 rfl) ?_
  refine lv_iconst (v := 4) hx hb dX6_endNowhere_3 (by decide) ?_
  refine lv_icmp_ge (tgt := 17) hx hb dX6_endNowhere_4 (by decide) (fun c4 => ?_) (fun c4 => ?_)
  · have h := h.1 c4
    exact g_vret C hw h dX6_endNowhere_17
  · have h := h.2 c4
    refine lv_aload_n hx hb dX6_endNowhere_7 rfl (lv_at hl 0 rfl) ?_
    refine lv_iload_n hx hb dX6_endNowhere_8 rfl (lv_at hl 1 rfl) ?_
    refine lv_lconst (v := 0) hx hb dX6_endNowhere_9 (by decide) ?_
    refine g_last C hw (xl_Tl0 hw0) (xs_Tl0 hw0) h.1 dX6_endNowhere_10 (fun H locs hw => ?_)
    have h := h.2
    obtain ⟨J10, e10⟩ : ∃ z : MJ, z = mJ J w0 x1.toNatClampNeg (0 : Int64) := ⟨_, rfl⟩
    have h := h J10 e10
    rw [← e10] at hw
    refine lv_iinc (v := x1 + 1) (lv' := [(1, .int (x1 + 1)), (0, .ref (ad w0))]) hx hb dX6_endNowhere_11 hl (k := 1) rfl rfl (by decide) rfl (fun ls hl => ?_)
    refine lv_goto (tgt := 2) hx hb dX6_endNowhere_14 (by decide) ?_
    exact hL2 h hw (lv_sub hl [1, 0] rfl)
theorem wl_X6_endNowhere_2 {Q : MI → MJ → Prop} (C : gC RX6 cX6_endNowhere 2 none 66 ad cy D (xF ad ts) p s m args meth c) {w0 : Nat} (hw0 : isTl w0) {x1 : Int32} {I : MI} {J : MJ} {H : Heap} {locs : List Loc} {ls : Array Slot} (h : lpx (P_X6_endNowhere_2 w0 Q) (x1, I, J)) (hw : gH (xS ad cy) 66 ad D s I J H locs) (hl : lv_has ls 2 [(0, .ref (ad w0)), (1, .int x1)]) : W p l e rmX6_endNowhere s m args below meth c H locs 0 0 (MQ below (gQv (xS ad cy) 66 ad cy D (xF ad ts) Q) args s 0 0 (gA 66 ad)) (F0 m 2 ls []) := by
  obtain ⟨n, h⟩ := h
  induction n generalizing x1 I J H locs ls with
  | zero => exact False.elim h
  | succ n ih => exact w_X6_endNowhere_2 C hw0 (fun hk9 hw9 hl9 => ih hw9 hl9 hk9) h hw hl
set_option maxHeartbeats 4000000 in
set_option maxRecDepth 100000 in
theorem w_X6_endNowhere {Q : MI → MJ → Prop} (C : gC RX6 cX6_endNowhere 2 none 66 ad cy D (xF ad ts) p s m args meth c) {w0 : Nat} (hw0 : isTl w0) {I : MI} {J : MJ} {H : Heap} {locs : List Loc} {ls : Array Slot} (h : P_X6_endNowhere w0 I J Q) (hw : gH (xS ad cy) 66 ad D s I J H locs) (hl : lv_has ls 2 [(0, .ref (ad w0))]) : W p l e rmX6_endNowhere s m args below meth c H locs 0 0 (MQ below (gQv (xS ad cy) 66 ad cy D (xF ad ts) Q) args s 0 0 (gA 66 ad)) (F0 m 0 ls []) := by
  obtain ⟨hx, hb, hC⟩ := id C
  refine lv_iconst (v := 0) hx hb dX6_endNowhere_0 (by decide) ?_
  refine lv_istore_n (lv' := [(1, .int (0 : Int32)), (0, .ref (ad w0))]) hx hb dX6_endNowhere_1 rfl hl (by decide) rfl (fun ls hl => ?_)
  exact wl_X6_endNowhere_2 C hw0 h hw (lv_sub hl [1, 0] rfl)
theorem m_X6_endNowhere {l : Launch} {w0 : Nat} (hw0 : isTl w0) {Q : MI → MJ → Prop} {I : MI} {J : MJ} (h : P_X6_endNowhere w0 I J Q) : Met l yX6_endNowhere (xws yX6_endNowhere cX6_endNowhere 2 none) rmX6_endNowhere (va_Pc [.ref (ad w0)] (gB (xS ad cy) 66 ad cy D (xF ad ts) I J)) (gQv (xS ad cy) 66 ad cy D (xF ad ts) Q) 0 0 (gA 66 ad) :=
  g_met (xF_ok ad ts) rfl (by decide) (Nat.le_of_ble_eq_true rfl) (fun p e s m below meth c ls C hw hl => w_X6_endNowhere C hw0 h hw hl)
/-! BagPhrases$Phrases.countLengths()V -/
def P_X6_countLengths_132 (Q : MI → MJ → Prop) (kL49 : Int64 × Int32 × MI × MJ → Prop) (x1 : Int64) (x3 : Int32) (I : MI) (J : MJ) : Prop :=
  kL49 (x1, (x3 + 1), I, J)
def P_X6_countLengths_49 (Q : MI → MJ → Prop) (kL49 : Int64 × Int32 × MI × MJ → Prop) : Int64 × Int32 × MI × MJ → Prop := fun z => match z with
  | (x1, x3, I, J) => (((12 : Int32) < x3 → (∀ I140 : MI, I140 = mI I 39 13 (1 : Int32) → Q I140 J)) ∧ (¬ (12 : Int32) < x3 → vp_in x3 13 ∧ (∀ J61 : MJ, J61 = mJ J 42 x3.toNatClampNeg (0 : Int64) → ((x1 ≤ (0 : Int64) → P_X6_countLengths_132 Q kL49 x1 x3 I J61) ∧ (¬ x1 ≤ (0 : Int64) → P_X4_fold 40 (sw (I 39 8)) (sw (I 39 9)) (1023 : Int32) I J61 (fun r92 I92 J92 => vp_in x3 13 ∧ (∀ J95 : MJ, J95 = mJ J92 42 x3.toNatClampNeg r92 → vp_in x3 13 ∧ (P_X6_endNowhere (sw (I92 39 9)) I92 J95 (fun I109 J109 => (∀ I123 : MI, I123 = mI I109 39 8 (swi (sw (I109 39 9))) → (∀ I129 : MI, I129 = mI I123 39 9 (swi (sw (I109 39 8))) → P_X6_countLengths_132 Q kL49 (x1 - (J95 42 x3.toNatClampNeg)) x3 I129 J109)))))))))))
def P_X6_countLengths (I : MI) (J : MJ) (Q : MI → MJ → Prop) : Prop :=
  P_X6_refresh I J (fun I1 J1 => (((I1 39 13) = 0 → P_X4_empty 40 (sw (I1 39 8)) I1 J1 (fun I24 J24 => P_X4_ground 40 (sw (I24 39 8)) I24 J24 (fun I39 J39 => lpx (P_X6_countLengths_49 Q) ((J39 39 11), (1 : Int32), I39, J39)))) ∧ (¬ (I1 39 13) = 0 → Q I1 J1)))
abbrev rmX6_countLengths : Room := { frames := 5, cells := 0, slots := 0, locals := 135 }
set_option maxHeartbeats 4000000 in
set_option maxRecDepth 100000 in
theorem w_X6_countLengths_132 {Q : MI → MJ → Prop} (C : gC RX6 cX6_countLengths 5 none 66 ad cy D (xF ad ts) p s m args meth c) {kL49 : Int64 × Int32 × MI × MJ → Prop} (hL49 : ∀ {x1 : Int64} {x3 : Int32} {I : MI} {J : MJ} {H : Heap} {locs : List Loc} {ls : Array Slot}, kL49 (x1, x3, I, J) → gH (xS ad cy) 66 ad D s I J H locs → lv_has ls 5 [(0, .ref (ad 39)), (1, .long x1), (3, .int x3)] → W p l e rmX6_countLengths s m args below meth c H locs 0 0 (MQ below (gQv (xS ad cy) 66 ad cy D (xF ad ts) Q) args s 0 0 (gA 66 ad)) (F0 m 49 ls [])) {x1 : Int64} {x3 : Int32} {I : MI} {J : MJ} {H : Heap} {locs : List Loc} {ls : Array Slot} (h : P_X6_countLengths_132 Q kL49 x1 x3 I J) (hw : gH (xS ad cy) 66 ad D s I J H locs) (hl : lv_has ls 5 [(0, .ref (ad 39)), (1, .long x1), (3, .int x3)]) : W p l e rmX6_countLengths s m args below meth c H locs 0 0 (MQ below (gQv (xS ad cy) 66 ad cy D (xF ad ts) Q) args s 0 0 (gA 66 ad)) (F0 m 132 ls []) := by
  obtain ⟨hx, hb, hC⟩ := id C
  refine lv_iinc (v := x3 + 1) (lv' := [(3, .int (x3 + 1)), (0, .ref (ad 39)), (1, .long x1)]) hx hb dX6_countLengths_132 hl (k := 2) rfl rfl (by decide) rfl (fun ls hl => ?_)
  refine lv_goto (tgt := 49) hx hb dX6_countLengths_135 (by decide) ?_
  exact hL49 h hw (lv_sub hl [1, 2, 0] rfl)
set_option maxHeartbeats 4000000 in
set_option maxRecDepth 100000 in
theorem w_X6_countLengths_49 {Q : MI → MJ → Prop} (C : gC RX6 cX6_countLengths 5 none 66 ad cy D (xF ad ts) p s m args meth c) {kL49 : Int64 × Int32 × MI × MJ → Prop} (hL49 : ∀ {x1 : Int64} {x3 : Int32} {I : MI} {J : MJ} {H : Heap} {locs : List Loc} {ls : Array Slot}, kL49 (x1, x3, I, J) → gH (xS ad cy) 66 ad D s I J H locs → lv_has ls 5 [(0, .ref (ad 39)), (1, .long x1), (3, .int x3)] → W p l e rmX6_countLengths s m args below meth c H locs 0 0 (MQ below (gQv (xS ad cy) 66 ad cy D (xF ad ts) Q) args s 0 0 (gA 66 ad)) (F0 m 49 ls [])) {x1 : Int64} {x3 : Int32} {I : MI} {J : MJ} {H : Heap} {locs : List Loc} {ls : Array Slot} (h : P_X6_countLengths_49 Q kL49 (x1, x3, I, J)) (hw : gH (xS ad cy) 66 ad D s I J H locs) (hl : lv_has ls 5 [(0, .ref (ad 39)), (1, .long x1), (3, .int x3)]) : W p l e rmX6_countLengths s m args below meth c H locs 0 0 (MQ below (gQv (xS ad cy) 66 ad cy D (xF ad ts) Q) args s 0 0 (gA 66 ad)) (F0 m 49 ls []) := by
  obtain ⟨hx, hb, hC⟩ := id C
  refine lv_iload_n hx hb dX6_countLengths_49 rfl (lv_at hl 2 rfl) ?_
  refine lv_bipush (v := 12) hx hb dX6_countLengths_50 (by decide) ?_
  refine lv_icmp_gt (tgt := 138) hx hb dX6_countLengths_52 (by decide) (fun c52 => ?_) (fun c52 => ?_)
  · have h := h.1 c52
    refine lv_aload_n hx hb dX6_countLengths_138 rfl (lv_at hl 0 rfl) ?_
    refine lv_iconst (v := 1) hx hb dX6_countLengths_139 (by decide) ?_
    refine g_putI C hw fp_RX6_47 xl_39 xs_39 (st_6_13 ad _) (Nat.le_of_ble_eq_true rfl) (by decide) (by decide) dX6_countLengths_140 (fun H locs hw => ?_)
    obtain ⟨I140, e140⟩ : ∃ z : MI, z = mI I 39 13 (1 : Int32) := ⟨_, rfl⟩
    have h := h I140 e140
    rw [← e140] at hw
    exact g_vret C hw h dX6_countLengths_143
  · have h := h.2 c52
    refine lv_aload_n hx hb dX6_countLengths_55 rfl (lv_at hl 0 rfl) ?_
    refine g_get C hw f_RX6_22 xl_39 (xs_39 _ _) rfl dX6_countLengths_56 ?_
    refine lv_iload_n hx hb dX6_countLengths_59 rfl (lv_at hl 2 rfl) ?_
    refine lv_lconst (v := 0) hx hb dX6_countLengths_60 (by decide) ?_
    refine g_last C hw xl_42 xs_42 h.1 dX6_countLengths_61 (fun H locs hw => ?_)
    have h := h.2
    obtain ⟨J61, e61⟩ : ∃ z : MJ, z = mJ J 42 x3.toNatClampNeg (0 : Int64) := ⟨_, rfl⟩
    have h := h J61 e61
    rw [← e61] at hw
    refine lv_lload_n hx hb dX6_countLengths_62 rfl (lv_at hl 1 rfl) ?_
    refine lv_lconst (v := 0) hx hb dX6_countLengths_63 (by decide) ?_
    refine g_lcmp_le (tgt := 132) hx hb dX6_countLengths_64 dX6_countLengths_65 (by decide) (fun c64 => ?_) (fun c64 => ?_)
    · have h := h.1 c64
      exact w_X6_countLengths_132 C hL49 h hw (lv_sub hl [0, 1, 2] rfl)
    · have h := h.2 c64
      refine lv_aload_n hx hb dX6_countLengths_68 rfl (lv_at hl 0 rfl) ?_
      refine g_get C hw f_RX6_22 xl_39 (xs_39 _ _) rfl dX6_countLengths_69 ?_
      refine lv_iload_n hx hb dX6_countLengths_72 rfl (lv_at hl 2 rfl) ?_
      refine lv_aload_n hx hb dX6_countLengths_73 rfl (lv_at hl 0 rfl) ?_
      refine g_get C hw f_RX6_63 xl_39 (xs_39 _ _) rfl dX6_countLengths_74 ?_
      refine lv_aload_n hx hb dX6_countLengths_77 rfl (lv_at hl 0 rfl) ?_
      refine g_get C hw f_RX6_12 xl_39 (xs_39 _ _) rfl dX6_countLengths_78 ?_
      refine lv_sipush (v := 1023) hx hb dX6_countLengths_81 (by decide) ?_
      refine lv_aload_n hx hb dX6_countLengths_84 rfl (lv_at hl 0 rfl) ?_
      refine g_get C hw f_RX6_29 xl_39 (xs_39 _ _) rfl dX6_countLengths_85 ?_
      refine lv_aload_n hx hb dX6_countLengths_88 rfl (lv_at hl 0 rfl) ?_
      refine g_get C hw f_RX6_32 xl_39 (xs_39 _ _) rfl dX6_countLengths_89 ?_
      refine g_cl hw (g_rV [.ref (ad 40), .int (1023 : Int32), .ref (ad (sw (I 39 8))), .ref (ad (sw (I 39 9)))] [.int x3, .ref (ad 42)] C hw (m_X4_fold isWay_40 (isTl_sw _) (isTl_sw _) h) k_X4_fold q_RX6_88 xl_46 (xs_46 _ _) rfl rfl hl.1 rfl (Nat.le_of_ble_eq_true rfl) ⟨⟨rfl, rfl⟩, Nat.le_of_ble_eq_true rfl, Nat.le_of_ble_eq_true rfl⟩ ⟨Nat.zero_le _, Nat.zero_le _⟩ dX6_countLengths_92) (fun r92 I92 J92 H locs h hw => ?_)
      refine g_last C hw xl_42 xs_42 h.1 dX6_countLengths_95 (fun H locs hw => ?_)
      have h := h.2
      obtain ⟨J95, e95⟩ : ∃ z : MJ, z = mJ J92 42 x3.toNatClampNeg r92 := ⟨_, rfl⟩
      have h := h J95 e95
      rw [← e95] at hw
      refine lv_lload_n hx hb dX6_countLengths_96 rfl (lv_at hl 1 rfl) ?_
      refine lv_aload_n hx hb dX6_countLengths_97 rfl (lv_at hl 0 rfl) ?_
      refine g_get C hw f_RX6_22 xl_39 (xs_39 _ _) rfl dX6_countLengths_98 ?_
      refine lv_iload_n hx hb dX6_countLengths_101 rfl (lv_at hl 2 rfl) ?_
      refine g_lald C hw xl_42 xs_42 h.1 dX6_countLengths_102 ?_
      have h := h.2
      refine lv_lsub hx hb dX6_countLengths_103 ?_
      refine lv_lstore_n (lv' := [(1, .long (x1 - (J95 42 x3.toNatClampNeg))), (0, .ref (ad 39)), (3, .int x3)]) hx hb dX6_countLengths_104 rfl hl (by decide) rfl (fun ls hl => ?_)
      refine lv_aload_n hx hb dX6_countLengths_105 rfl (lv_at hl 1 rfl) ?_
      refine g_get C hw f_RX6_32 xl_39 (xs_39 _ _) rfl dX6_countLengths_106 ?_
      refine g_cv hw (g_rS [.ref (ad (sw (I92 39 9)))] [] C hw (m_X6_endNowhere (isTl_sw _) h) k_X6_endNowhere q_RX6_109 rfl hl.1 rfl (Nat.le_of_ble_eq_true rfl) ⟨⟨rfl, rfl⟩, Nat.le_of_ble_eq_true rfl, Nat.le_of_ble_eq_true rfl⟩ ⟨Nat.zero_le _, Nat.zero_le _⟩ dX6_countLengths_109) (fun I109 J109 H locs h hw => ?_)
      refine lv_aload_n hx hb dX6_countLengths_112 rfl (lv_at hl 1 rfl) ?_
      refine g_get C hw f_RX6_29 xl_39 (xs_39 _ _) rfl dX6_countLengths_113 ?_
      refine lv_astore (lv' := [(4, .ref (ad (sw (I109 39 8)))), (1, .long (x1 - (J95 42 x3.toNatClampNeg))), (0, .ref (ad 39)), (3, .int x3)]) hx hb dX6_countLengths_116 hl (by decide) rfl (fun ls hl => ?_)
      refine lv_aload_n hx hb dX6_countLengths_118 rfl (lv_at hl 2 rfl) ?_
      refine lv_aload_n hx hb dX6_countLengths_119 rfl (lv_at hl 2 rfl) ?_
      refine g_get C hw f_RX6_32 xl_39 (xs_39 _ _) rfl dX6_countLengths_120 ?_
      refine g_putT C hw fp_RX6_29 xl_39 xs_39 (fun i q => st_6_8 ad (sw_or _) i q) (Nat.le_of_ble_eq_true rfl) dX6_countLengths_123 (fun H locs hw => ?_)
      obtain ⟨I123, e123⟩ : ∃ z : MI, z = mI I109 39 8 (swi (sw (I109 39 9))) := ⟨_, rfl⟩
      have h := h I123 e123
      rw [← e123] at hw
      refine lv_aload_n hx hb dX6_countLengths_126 rfl (lv_at hl 2 rfl) ?_
      refine lv_aload hx hb dX6_countLengths_127 (lv_at hl 0 rfl) ?_
      refine g_putT C hw fp_RX6_32 xl_39 xs_39 (fun i q => st_6_9 ad (sw_or _) i q) (Nat.le_of_ble_eq_true rfl) dX6_countLengths_129 (fun H locs hw => ?_)
      obtain ⟨I129, e129⟩ : ∃ z : MI, z = mI I123 39 9 (swi (sw (I109 39 8))) := ⟨_, rfl⟩
      have h := h I129 e129
      rw [← e129] at hw
      exact w_X6_countLengths_132 C hL49 h hw (lv_sub hl [2, 1, 3] rfl)
theorem wl_X6_countLengths_49 {Q : MI → MJ → Prop} (C : gC RX6 cX6_countLengths 5 none 66 ad cy D (xF ad ts) p s m args meth c) {x1 : Int64} {x3 : Int32} {I : MI} {J : MJ} {H : Heap} {locs : List Loc} {ls : Array Slot} (h : lpx (P_X6_countLengths_49 Q) (x1, x3, I, J)) (hw : gH (xS ad cy) 66 ad D s I J H locs) (hl : lv_has ls 5 [(0, .ref (ad 39)), (1, .long x1), (3, .int x3)]) : W p l e rmX6_countLengths s m args below meth c H locs 0 0 (MQ below (gQv (xS ad cy) 66 ad cy D (xF ad ts) Q) args s 0 0 (gA 66 ad)) (F0 m 49 ls []) := by
  obtain ⟨n, h⟩ := h
  induction n generalizing x1 x3 I J H locs ls with
  | zero => exact False.elim h
  | succ n ih => exact w_X6_countLengths_49 C  (fun hk9 hw9 hl9 => ih hw9 hl9 hk9) h hw hl
set_option maxHeartbeats 4000000 in
set_option maxRecDepth 100000 in
theorem w_X6_countLengths {Q : MI → MJ → Prop} (C : gC RX6 cX6_countLengths 5 none 66 ad cy D (xF ad ts) p s m args meth c) {I : MI} {J : MJ} {H : Heap} {locs : List Loc} {ls : Array Slot} (h : P_X6_countLengths I J Q) (hw : gH (xS ad cy) 66 ad D s I J H locs) (hl : lv_has ls 5 [(0, .ref (ad 39))]) : W p l e rmX6_countLengths s m args below meth c H locs 0 0 (MQ below (gQv (xS ad cy) 66 ad cy D (xF ad ts) Q) args s 0 0 (gA 66 ad)) (F0 m 0 ls []) := by
  obtain ⟨hx, hb, hC⟩ := id C
  refine lv_aload_n hx hb dX6_countLengths_0 rfl (lv_at hl 0 rfl) ?_
  refine g_cv hw (g_rV [] [] C hw (m_X6_refresh h) k_X6_refresh q_RX6_96 xl_39 (xs_39 _ _) rfl rfl hl.1 rfl (Nat.le_of_ble_eq_true rfl) ⟨⟨rfl, rfl⟩, Nat.le_of_ble_eq_true rfl, Nat.le_of_ble_eq_true rfl⟩ ⟨Nat.zero_le _, Nat.zero_le _⟩ dX6_countLengths_1) (fun I1 J1 H locs h hw => ?_)
  refine lv_aload_n hx hb dX6_countLengths_4 rfl (lv_at hl 0 rfl) ?_
  refine g_get C hw f_RX6_47 xl_39 (xs_39 _ _) rfl dX6_countLengths_5 ?_
  refine lv_if_eq (tgt := 12) hx hb dX6_countLengths_8 (by decide) (fun c8 => ?_) (fun c8 => ?_)
  · have h := h.1 c8
    refine lv_aload_n hx hb dX6_countLengths_12 rfl (lv_at hl 0 rfl) ?_
    refine g_get C hw f_RX6_63 xl_39 (xs_39 _ _) rfl dX6_countLengths_13 ?_
    refine lv_aload_n hx hb dX6_countLengths_16 rfl (lv_at hl 0 rfl) ?_
    refine g_get C hw f_RX6_12 xl_39 (xs_39 _ _) rfl dX6_countLengths_17 ?_
    refine lv_aload_n hx hb dX6_countLengths_20 rfl (lv_at hl 0 rfl) ?_
    refine g_get C hw f_RX6_29 xl_39 (xs_39 _ _) rfl dX6_countLengths_21 ?_
    refine g_cv hw (g_rV [.ref (ad 40), .ref (ad (sw (I1 39 8)))] [] C hw (m_X4_empty isWay_40 (isTl_sw _) h) k_X4_empty q_RX6_106 xl_46 (xs_46 _ _) rfl rfl hl.1 rfl (Nat.le_of_ble_eq_true rfl) ⟨⟨rfl, rfl⟩, Nat.le_of_ble_eq_true rfl, Nat.le_of_ble_eq_true rfl⟩ ⟨Nat.zero_le _, Nat.zero_le _⟩ dX6_countLengths_24) (fun I24 J24 H locs h hw => ?_)
    refine lv_aload_n hx hb dX6_countLengths_27 rfl (lv_at hl 0 rfl) ?_
    refine g_get C hw f_RX6_63 xl_39 (xs_39 _ _) rfl dX6_countLengths_28 ?_
    refine lv_aload_n hx hb dX6_countLengths_31 rfl (lv_at hl 0 rfl) ?_
    refine g_get C hw f_RX6_12 xl_39 (xs_39 _ _) rfl dX6_countLengths_32 ?_
    refine lv_aload_n hx hb dX6_countLengths_35 rfl (lv_at hl 0 rfl) ?_
    refine g_get C hw f_RX6_29 xl_39 (xs_39 _ _) rfl dX6_countLengths_36 ?_
    refine g_cv hw (g_rV [.ref (ad 40), .ref (ad (sw (I24 39 8)))] [] C hw (m_X4_ground isWay_40 (isTl_sw _) h) k_X4_ground q_RX6_84 xl_46 (xs_46 _ _) rfl rfl hl.1 rfl (Nat.le_of_ble_eq_true rfl) ⟨⟨rfl, rfl⟩, Nat.le_of_ble_eq_true rfl, Nat.le_of_ble_eq_true rfl⟩ ⟨Nat.zero_le _, Nat.zero_le _⟩ dX6_countLengths_39) (fun I39 J39 H locs h hw => ?_)
    refine lv_aload_n hx hb dX6_countLengths_42 rfl (lv_at hl 0 rfl) ?_
    refine g_get C hw f_RX6_39 xl_39 (xs_39 _ _) rfl dX6_countLengths_43 ?_
    refine lv_lstore_n (lv' := [(1, .long (J39 39 11)), (0, .ref (ad 39))]) hx hb dX6_countLengths_46 rfl hl (by decide) rfl (fun ls hl => ?_)
    refine lv_iconst (v := 1) hx hb dX6_countLengths_47 (by decide) ?_
    refine lv_istore_n (lv' := [(3, .int (1 : Int32)), (1, .long (J39 39 11)), (0, .ref (ad 39))]) hx hb dX6_countLengths_48 rfl hl (by decide) rfl (fun ls hl => ?_)
    exact wl_X6_countLengths_49 C  h hw (lv_sub hl [2, 1, 0] rfl)
  · have h := h.2 c8
    exact g_vret C hw h dX6_countLengths_11
theorem m_X6_countLengths {l : Launch} {Q : MI → MJ → Prop} {I : MI} {J : MJ} (h : P_X6_countLengths I J Q) : Met l yX6_countLengths (xws yX6_countLengths cX6_countLengths 5 none) rmX6_countLengths (va_Pc [.ref (ad 39)] (gB (xS ad cy) 66 ad cy D (xF ad ts) I J)) (gQv (xS ad cy) 66 ad cy D (xF ad ts) Q) 0 0 (gA 66 ad) :=
  g_met (xF_ok ad ts) rfl (by decide) (Nat.le_of_ble_eq_true rfl) (fun p e s m below meth c ls C hw hl => w_X6_countLengths C  h hw hl)
/-! BagPhrases$Phrases.fewestWords()I -/
def P_X6_fewestWords_6 (Q : Int32 → MI → MJ → Prop) (kL6 : Int32 × MI × MJ → Prop) : Int32 × MI × MJ → Prop := fun z => match z with
  | (x1, I, J) => (((12 : Int32) < x1 → Q (-9 : Int32) I J) ∧ (¬ (12 : Int32) < x1 → vp_in x1 13 ∧ ((((J 42 x1.toNatClampNeg) ≤ (0 : Int64) → kL6 ((x1 + 1), I, J)) ∧ (¬ (J 42 x1.toNatClampNeg) ≤ (0 : Int64) → Q x1 I J)))))
def P_X6_fewestWords (I : MI) (J : MJ) (Q : Int32 → MI → MJ → Prop) : Prop :=
  P_X6_countLengths I J (fun I1 J1 => lpx (P_X6_fewestWords_6 Q) ((1 : Int32), I1, J1))
abbrev rmX6_fewestWords : Room := { frames := 6, cells := 0, slots := 0, locals := 159 }
set_option maxHeartbeats 4000000 in
set_option maxRecDepth 100000 in
theorem w_X6_fewestWords_6 {Q : Int32 → MI → MJ → Prop} (C : gC RX6 cX6_fewestWords 2 (some .int) 66 ad cy D (xF ad ts) p s m args meth c) {kL6 : Int32 × MI × MJ → Prop} (hL6 : ∀ {x1 : Int32} {I : MI} {J : MJ} {H : Heap} {locs : List Loc} {ls : Array Slot}, kL6 (x1, I, J) → gH (xS ad cy) 66 ad D s I J H locs → lv_has ls 2 [(0, .ref (ad 39)), (1, .int x1)] → W p l e rmX6_fewestWords s m args below meth c H locs 0 0 (MQ below (gQi (xS ad cy) 66 ad cy D (xF ad ts) Q) args s 0 0 (gA 66 ad)) (F0 m 6 ls [])) {x1 : Int32} {I : MI} {J : MJ} {H : Heap} {locs : List Loc} {ls : Array Slot} (h : P_X6_fewestWords_6 Q kL6 (x1, I, J)) (hw : gH (xS ad cy) 66 ad D s I J H locs) (hl : lv_has ls 2 [(0, .ref (ad 39)), (1, .int x1)]) : W p l e rmX6_fewestWords s m args below meth c H locs 0 0 (MQ below (gQi (xS ad cy) 66 ad cy D (xF ad ts) Q) args s 0 0 (gA 66 ad)) (F0 m 6 ls []) := by
  obtain ⟨hx, hb, hC⟩ := id C
  refine lv_iload_n hx hb dX6_fewestWords_6 rfl (lv_at hl 1 rfl) ?_
  refine lv_bipush (v := 12) hx hb dX6_fewestWords_7 (by decide) ?_
  refine lv_icmp_gt (tgt := 31) hx hb dX6_fewestWords_9 (by decide) (fun c9 => ?_) (fun c9 => ?_)
  · have h := h.1 c9
    refine lv_bipush (v := -9) hx hb dX6_fewestWords_31 (by decide) ?_
    exact g_iret C hw h dX6_fewestWords_33
  · have h := h.2 c9
    refine lv_aload_n hx hb dX6_fewestWords_12 rfl (lv_at hl 0 rfl) ?_
    refine g_get C hw f_RX6_22 xl_39 (xs_39 _ _) rfl dX6_fewestWords_13 ?_
    refine lv_iload_n hx hb dX6_fewestWords_16 rfl (lv_at hl 1 rfl) ?_
    refine g_lald C hw xl_42 xs_42 h.1 dX6_fewestWords_17 ?_
    have h := h.2
    refine lv_lconst (v := 0) hx hb dX6_fewestWords_18 (by decide) ?_
    refine g_lcmp_le (tgt := 25) hx hb dX6_fewestWords_19 dX6_fewestWords_20 (by decide) (fun c19 => ?_) (fun c19 => ?_)
    · have h := h.1 c19
      refine lv_iinc (v := x1 + 1) (lv' := [(1, .int (x1 + 1)), (0, .ref (ad 39))]) hx hb dX6_fewestWords_25 hl (k := 1) rfl rfl (by decide) rfl (fun ls hl => ?_)
      refine lv_goto (tgt := 6) hx hb dX6_fewestWords_28 (by decide) ?_
      exact hL6 h hw (lv_sub hl [1, 0] rfl)
    · have h := h.2 c19
      refine lv_iload_n hx hb dX6_fewestWords_23 rfl (lv_at hl 1 rfl) ?_
      exact g_iret C hw h dX6_fewestWords_24
theorem wl_X6_fewestWords_6 {Q : Int32 → MI → MJ → Prop} (C : gC RX6 cX6_fewestWords 2 (some .int) 66 ad cy D (xF ad ts) p s m args meth c) {x1 : Int32} {I : MI} {J : MJ} {H : Heap} {locs : List Loc} {ls : Array Slot} (h : lpx (P_X6_fewestWords_6 Q) (x1, I, J)) (hw : gH (xS ad cy) 66 ad D s I J H locs) (hl : lv_has ls 2 [(0, .ref (ad 39)), (1, .int x1)]) : W p l e rmX6_fewestWords s m args below meth c H locs 0 0 (MQ below (gQi (xS ad cy) 66 ad cy D (xF ad ts) Q) args s 0 0 (gA 66 ad)) (F0 m 6 ls []) := by
  obtain ⟨n, h⟩ := h
  induction n generalizing x1 I J H locs ls with
  | zero => exact False.elim h
  | succ n ih => exact w_X6_fewestWords_6 C  (fun hk9 hw9 hl9 => ih hw9 hl9 hk9) h hw hl
set_option maxHeartbeats 4000000 in
set_option maxRecDepth 100000 in
theorem w_X6_fewestWords {Q : Int32 → MI → MJ → Prop} (C : gC RX6 cX6_fewestWords 2 (some .int) 66 ad cy D (xF ad ts) p s m args meth c) {I : MI} {J : MJ} {H : Heap} {locs : List Loc} {ls : Array Slot} (h : P_X6_fewestWords I J Q) (hw : gH (xS ad cy) 66 ad D s I J H locs) (hl : lv_has ls 2 [(0, .ref (ad 39))]) : W p l e rmX6_fewestWords s m args below meth c H locs 0 0 (MQ below (gQi (xS ad cy) 66 ad cy D (xF ad ts) Q) args s 0 0 (gA 66 ad)) (F0 m 0 ls []) := by
  obtain ⟨hx, hb, hC⟩ := id C
  refine lv_aload_n hx hb dX6_fewestWords_0 rfl (lv_at hl 0 rfl) ?_
  refine g_cv hw (g_rV [] [] C hw (m_X6_countLengths h) k_X6_countLengths q_RX6_103 xl_39 (xs_39 _ _) rfl rfl hl.1 rfl (Nat.le_of_ble_eq_true rfl) ⟨⟨rfl, rfl⟩, Nat.le_of_ble_eq_true rfl, Nat.le_of_ble_eq_true rfl⟩ ⟨Nat.zero_le _, Nat.zero_le _⟩ dX6_fewestWords_1) (fun I1 J1 H locs h hw => ?_)
  refine lv_iconst (v := 1) hx hb dX6_fewestWords_4 (by decide) ?_
  refine lv_istore_n (lv' := [(1, .int (1 : Int32)), (0, .ref (ad 39))]) hx hb dX6_fewestWords_5 rfl hl (by decide) rfl (fun ls hl => ?_)
  exact wl_X6_fewestWords_6 C  h hw (lv_sub hl [1, 0] rfl)
theorem m_X6_fewestWords {l : Launch} {Q : Int32 → MI → MJ → Prop} {I : MI} {J : MJ} (h : P_X6_fewestWords I J Q) : Met l yX6_fewestWords (xws yX6_fewestWords cX6_fewestWords 2 (some .int)) rmX6_fewestWords (va_Pc [.ref (ad 39)] (gB (xS ad cy) 66 ad cy D (xF ad ts) I J)) (gQi (xS ad cy) 66 ad cy D (xF ad ts) Q) 0 0 (gA 66 ad) :=
  g_met (xF_ok ad ts) rfl (by decide) (Nat.le_of_ble_eq_true rfl) (fun p e s m below meth c ls C hw hl => w_X6_fewestWords C  h hw hl)
/-! BagPhrases$Phrases.mostWords()I -/
def P_X6_mostWords_7 (Q : Int32 → MI → MJ → Prop) (kL7 : Int32 × MI × MJ → Prop) : Int32 × MI × MJ → Prop := fun z => match z with
  | (x1, I, J) => ((x1 < (1 : Int32) → Q (-9 : Int32) I J) ∧ (¬ x1 < (1 : Int32) → vp_in x1 13 ∧ ((((J 42 x1.toNatClampNeg) ≤ (0 : Int64) → kL7 ((x1 + (-1)), I, J)) ∧ (¬ (J 42 x1.toNatClampNeg) ≤ (0 : Int64) → Q x1 I J)))))
def P_X6_mostWords (I : MI) (J : MJ) (Q : Int32 → MI → MJ → Prop) : Prop :=
  P_X6_countLengths I J (fun I1 J1 => lpx (P_X6_mostWords_7 Q) ((12 : Int32), I1, J1))
abbrev rmX6_mostWords : Room := { frames := 6, cells := 0, slots := 0, locals := 159 }
set_option maxHeartbeats 4000000 in
set_option maxRecDepth 100000 in
theorem w_X6_mostWords_7 {Q : Int32 → MI → MJ → Prop} (C : gC RX6 cX6_mostWords 2 (some .int) 66 ad cy D (xF ad ts) p s m args meth c) {kL7 : Int32 × MI × MJ → Prop} (hL7 : ∀ {x1 : Int32} {I : MI} {J : MJ} {H : Heap} {locs : List Loc} {ls : Array Slot}, kL7 (x1, I, J) → gH (xS ad cy) 66 ad D s I J H locs → lv_has ls 2 [(0, .ref (ad 39)), (1, .int x1)] → W p l e rmX6_mostWords s m args below meth c H locs 0 0 (MQ below (gQi (xS ad cy) 66 ad cy D (xF ad ts) Q) args s 0 0 (gA 66 ad)) (F0 m 7 ls [])) {x1 : Int32} {I : MI} {J : MJ} {H : Heap} {locs : List Loc} {ls : Array Slot} (h : P_X6_mostWords_7 Q kL7 (x1, I, J)) (hw : gH (xS ad cy) 66 ad D s I J H locs) (hl : lv_has ls 2 [(0, .ref (ad 39)), (1, .int x1)]) : W p l e rmX6_mostWords s m args below meth c H locs 0 0 (MQ below (gQi (xS ad cy) 66 ad cy D (xF ad ts) Q) args s 0 0 (gA 66 ad)) (F0 m 7 ls []) := by
  obtain ⟨hx, hb, hC⟩ := id C
  refine lv_iload_n hx hb dX6_mostWords_7 rfl (lv_at hl 1 rfl) ?_
  refine lv_iconst (v := 1) hx hb dX6_mostWords_8 (by decide) ?_
  refine lv_icmp_lt (tgt := 31) hx hb dX6_mostWords_9 (by decide) (fun c9 => ?_) (fun c9 => ?_)
  · have h := h.1 c9
    refine lv_bipush (v := -9) hx hb dX6_mostWords_31 (by decide) ?_
    exact g_iret C hw h dX6_mostWords_33
  · have h := h.2 c9
    refine lv_aload_n hx hb dX6_mostWords_12 rfl (lv_at hl 0 rfl) ?_
    refine g_get C hw f_RX6_22 xl_39 (xs_39 _ _) rfl dX6_mostWords_13 ?_
    refine lv_iload_n hx hb dX6_mostWords_16 rfl (lv_at hl 1 rfl) ?_
    refine g_lald C hw xl_42 xs_42 h.1 dX6_mostWords_17 ?_
    have h := h.2
    refine lv_lconst (v := 0) hx hb dX6_mostWords_18 (by decide) ?_
    refine g_lcmp_le (tgt := 25) hx hb dX6_mostWords_19 dX6_mostWords_20 (by decide) (fun c19 => ?_) (fun c19 => ?_)
    · have h := h.1 c19
      refine lv_iinc (v := x1 + (-1)) (lv' := [(1, .int (x1 + (-1))), (0, .ref (ad 39))]) hx hb dX6_mostWords_25 hl (k := 1) rfl rfl (by decide) rfl (fun ls hl => ?_)
      refine lv_goto (tgt := 7) hx hb dX6_mostWords_28 (by decide) ?_
      exact hL7 h hw (lv_sub hl [1, 0] rfl)
    · have h := h.2 c19
      refine lv_iload_n hx hb dX6_mostWords_23 rfl (lv_at hl 1 rfl) ?_
      exact g_iret C hw h dX6_mostWords_24
theorem wl_X6_mostWords_7 {Q : Int32 → MI → MJ → Prop} (C : gC RX6 cX6_mostWords 2 (some .int) 66 ad cy D (xF ad ts) p s m args meth c) {x1 : Int32} {I : MI} {J : MJ} {H : Heap} {locs : List Loc} {ls : Array Slot} (h : lpx (P_X6_mostWords_7 Q) (x1, I, J)) (hw : gH (xS ad cy) 66 ad D s I J H locs) (hl : lv_has ls 2 [(0, .ref (ad 39)), (1, .int x1)]) : W p l e rmX6_mostWords s m args below meth c H locs 0 0 (MQ below (gQi (xS ad cy) 66 ad cy D (xF ad ts) Q) args s 0 0 (gA 66 ad)) (F0 m 7 ls []) := by
  obtain ⟨n, h⟩ := h
  induction n generalizing x1 I J H locs ls with
  | zero => exact False.elim h
  | succ n ih => exact w_X6_mostWords_7 C  (fun hk9 hw9 hl9 => ih hw9 hl9 hk9) h hw hl
set_option maxHeartbeats 4000000 in
set_option maxRecDepth 100000 in
theorem w_X6_mostWords {Q : Int32 → MI → MJ → Prop} (C : gC RX6 cX6_mostWords 2 (some .int) 66 ad cy D (xF ad ts) p s m args meth c) {I : MI} {J : MJ} {H : Heap} {locs : List Loc} {ls : Array Slot} (h : P_X6_mostWords I J Q) (hw : gH (xS ad cy) 66 ad D s I J H locs) (hl : lv_has ls 2 [(0, .ref (ad 39))]) : W p l e rmX6_mostWords s m args below meth c H locs 0 0 (MQ below (gQi (xS ad cy) 66 ad cy D (xF ad ts) Q) args s 0 0 (gA 66 ad)) (F0 m 0 ls []) := by
  obtain ⟨hx, hb, hC⟩ := id C
  refine lv_aload_n hx hb dX6_mostWords_0 rfl (lv_at hl 0 rfl) ?_
  refine g_cv hw (g_rV [] [] C hw (m_X6_countLengths h) k_X6_countLengths q_RX6_103 xl_39 (xs_39 _ _) rfl rfl hl.1 rfl (Nat.le_of_ble_eq_true rfl) ⟨⟨rfl, rfl⟩, Nat.le_of_ble_eq_true rfl, Nat.le_of_ble_eq_true rfl⟩ ⟨Nat.zero_le _, Nat.zero_le _⟩ dX6_mostWords_1) (fun I1 J1 H locs h hw => ?_)
  refine lv_bipush (v := 12) hx hb dX6_mostWords_4 (by decide) ?_
  refine lv_istore_n (lv' := [(1, .int (12 : Int32)), (0, .ref (ad 39))]) hx hb dX6_mostWords_6 rfl hl (by decide) rfl (fun ls hl => ?_)
  exact wl_X6_mostWords_7 C  h hw (lv_sub hl [1, 0] rfl)
theorem m_X6_mostWords {l : Launch} {Q : Int32 → MI → MJ → Prop} {I : MI} {J : MJ} (h : P_X6_mostWords I J Q) : Met l yX6_mostWords (xws yX6_mostWords cX6_mostWords 2 (some .int)) rmX6_mostWords (va_Pc [.ref (ad 39)] (gB (xS ad cy) 66 ad cy D (xF ad ts) I J)) (gQi (xS ad cy) 66 ad cy D (xF ad ts) Q) 0 0 (gA 66 ad) :=
  g_met (xF_ok ad ts) rfl (by decide) (Nat.le_of_ble_eq_true rfl) (fun p e s m below meth c ls C hw hl => w_X6_mostWords C  h hw hl)
/-! BagPhrases.about(I)I -/
def P_X11_about (a0 : Int32) (I : MI) (J : MJ) (Q : Int32 → MI → MJ → Prop) : Prop :=
  ((a0 = 0 → Q (I 12 4) I J) ∧ (¬ a0 = 0 → ((a0 = 1 → P_X8_letters 17 I J (fun r84 I84 J84 => Q r84 I84 J84)) ∧ (¬ a0 = 1 → ((a0 = 2 → P_X8_unlike 17 I J (fun r92 I92 J92 => Q r92 I92 J92)) ∧ (¬ a0 = 2 → ((a0 = 3 → Q (I 17 5) I J) ∧ (¬ a0 = 3 → ((a0 = 4 → Q (I 17 3) I J) ∧ (¬ a0 = 4 → ((a0 = 5 → Q (I 17 4) I J) ∧ (¬ a0 = 5 → ((a0 = 6 → P_X11_fitting I J (fun r121 I121 J121 => Q r121 I121 J121)) ∧ (¬ a0 = 6 → ((a0 = 7 → P_X6_wordsInPhrases I J (fun r129 I129 J129 => Q r129 I129 J129)) ∧ (¬ a0 = 7 → ((a0 = 8 → P_X6_fewestWords I J (fun r137 I137 J137 => Q r137 I137 J137)) ∧ (¬ a0 = 8 → ((a0 = 9 → P_X6_mostWords I J (fun r145 I145 J145 => Q r145 I145 J145)) ∧ (¬ a0 = 9 → ((a0 = 10 → Q (I 35 3) I J) ∧ (¬ a0 = 10 → ((a0 = 11 → Q (I 0 15) I J) ∧ (¬ a0 = 11 → ((a0 = 12 → Q (I 1 3) I J) ∧ (¬ a0 = 12 → ((a0 = 13 → Q (I 0 14) I J) ∧ (¬ a0 = 13 → Q (-2 : Int32) I J))))))))))))))))))))))))))))
abbrev rmX11_about : Room := { frames := 7, cells := 0, slots := 0, locals := 180 }
set_option maxHeartbeats 4000000 in
set_option maxRecDepth 100000 in
theorem w_X11_about {Q : Int32 → MI → MJ → Prop} (C : gC RX11 cX11_about 2 (some .int) 66 ad cy D (xF ad ts) p s m args meth c) {a0 : Int32} {I : MI} {J : MJ} {H : Heap} {locs : List Loc} {ls : Array Slot} (h : P_X11_about a0 I J Q) (hw : gH (xS ad cy) 66 ad D s I J H locs) (hl : lv_has ls 2 [(0, .ref (ad 0)), (1, .int a0)]) : W p l e rmX11_about s m args below meth c H locs 0 0 (MQ below (gQi (xS ad cy) 66 ad cy D (xF ad ts) Q) args s 0 0 (gA 66 ad)) (F0 m 0 ls []) := by
  obtain ⟨hx, hb, hC⟩ := id C
  refine lv_iload_n hx hb dX11_about_0 rfl (lv_at hl 1 rfl) ?_
  rcases Classical.em (a0 = 0) with c1_0 | c1_0
  · have h := h.1 c1_0
    refine lv_tableIn (off := 71) (tgt := 72) hx hb dX11_about_1 (by rw [c1_0]; decide) (by rw [c1_0]; decide) (by rw [c1_0]; rfl) (by decide) ?_
    refine lv_aload_n hx hb dX11_about_72 rfl (lv_at hl 0 rfl) ?_
    refine g_get C hw f_RX11_19 xl_0 (xs_0 _ _) rfl dX11_about_73 ?_
    refine g_get C hw f_RX11_119 xl_12 (xs_12 _ _) rfl dX11_about_76 ?_
    exact g_iret C hw h dX11_about_79
  have h := h.2 c1_0
  rcases Classical.em (a0 = 1) with c1_1 | c1_1
  · have h := h.1 c1_1
    refine lv_tableIn (off := 79) (tgt := 80) hx hb dX11_about_1 (by rw [c1_1]; decide) (by rw [c1_1]; decide) (by rw [c1_1]; rfl) (by decide) ?_
    refine lv_aload_n hx hb dX11_about_80 rfl (lv_at hl 0 rfl) ?_
    refine g_get C hw f_RX11_26 xl_0 (xs_0 _ _) rfl dX11_about_81 ?_
    refine g_ci hw (g_rV [] [] C hw (m_X8_letters isSet_17 h) k_X8_letters q_RX11_122 xl_17 (xs_17 _ _) rfl rfl hl.1 rfl (Nat.le_of_ble_eq_true rfl) ⟨⟨rfl, rfl⟩, Nat.le_of_ble_eq_true rfl, Nat.le_of_ble_eq_true rfl⟩ ⟨Nat.zero_le _, Nat.zero_le _⟩ dX11_about_84) (fun r84 I84 J84 H locs h hw => ?_)
    exact g_iret C hw h dX11_about_87
  have h := h.2 c1_1
  rcases Classical.em (a0 = 2) with c1_2 | c1_2
  · have h := h.1 c1_2
    refine lv_tableIn (off := 87) (tgt := 88) hx hb dX11_about_1 (by rw [c1_2]; decide) (by rw [c1_2]; decide) (by rw [c1_2]; rfl) (by decide) ?_
    refine lv_aload_n hx hb dX11_about_88 rfl (lv_at hl 0 rfl) ?_
    refine g_get C hw f_RX11_26 xl_0 (xs_0 _ _) rfl dX11_about_89 ?_
    refine g_ci hw (g_rV [] [] C hw (m_X8_unlike isSet_17 h) k_X8_unlike q_RX11_125 xl_17 (xs_17 _ _) rfl rfl hl.1 rfl (Nat.le_of_ble_eq_true rfl) ⟨⟨rfl, rfl⟩, Nat.le_of_ble_eq_true rfl, Nat.le_of_ble_eq_true rfl⟩ ⟨Nat.zero_le _, Nat.zero_le _⟩ dX11_about_92) (fun r92 I92 J92 H locs h hw => ?_)
    exact g_iret C hw h dX11_about_95
  have h := h.2 c1_2
  rcases Classical.em (a0 = 3) with c1_3 | c1_3
  · have h := h.1 c1_3
    refine lv_tableIn (off := 95) (tgt := 96) hx hb dX11_about_1 (by rw [c1_3]; decide) (by rw [c1_3]; decide) (by rw [c1_3]; rfl) (by decide) ?_
    refine lv_aload_n hx hb dX11_about_96 rfl (lv_at hl 0 rfl) ?_
    refine g_get C hw f_RX11_26 xl_0 (xs_0 _ _) rfl dX11_about_97 ?_
    refine g_get C hw f_RX11_128 xl_17 (xs_17 _ _) rfl dX11_about_100 ?_
    exact g_iret C hw h dX11_about_103
  have h := h.2 c1_3
  rcases Classical.em (a0 = 4) with c1_4 | c1_4
  · have h := h.1 c1_4
    refine lv_tableIn (off := 103) (tgt := 104) hx hb dX11_about_1 (by rw [c1_4]; decide) (by rw [c1_4]; decide) (by rw [c1_4]; rfl) (by decide) ?_
    refine lv_aload_n hx hb dX11_about_104 rfl (lv_at hl 0 rfl) ?_
    refine g_get C hw f_RX11_26 xl_0 (xs_0 _ _) rfl dX11_about_105 ?_
    refine g_get C hw f_RX11_131 xl_17 (xs_17 _ _) rfl dX11_about_108 ?_
    exact g_iret C hw h dX11_about_111
  have h := h.2 c1_4
  rcases Classical.em (a0 = 5) with c1_5 | c1_5
  · have h := h.1 c1_5
    refine lv_tableIn (off := 111) (tgt := 112) hx hb dX11_about_1 (by rw [c1_5]; decide) (by rw [c1_5]; decide) (by rw [c1_5]; rfl) (by decide) ?_
    refine lv_aload_n hx hb dX11_about_112 rfl (lv_at hl 0 rfl) ?_
    refine g_get C hw f_RX11_26 xl_0 (xs_0 _ _) rfl dX11_about_113 ?_
    refine g_get C hw f_RX11_134 xl_17 (xs_17 _ _) rfl dX11_about_116 ?_
    exact g_iret C hw h dX11_about_119
  have h := h.2 c1_5
  rcases Classical.em (a0 = 6) with c1_6 | c1_6
  · have h := h.1 c1_6
    refine lv_tableIn (off := 119) (tgt := 120) hx hb dX11_about_1 (by rw [c1_6]; decide) (by rw [c1_6]; decide) (by rw [c1_6]; rfl) (by decide) ?_
    refine lv_aload_n hx hb dX11_about_120 rfl (lv_at hl 0 rfl) ?_
    refine g_ci hw (g_rV [] [] C hw (m_X11_fitting h) k_X11_fitting q_RX11_137 xl_0 (xs_0 _ _) rfl rfl hl.1 rfl (Nat.le_of_ble_eq_true rfl) ⟨⟨rfl, rfl⟩, Nat.le_of_ble_eq_true rfl, Nat.le_of_ble_eq_true rfl⟩ ⟨Nat.zero_le _, Nat.zero_le _⟩ dX11_about_121) (fun r121 I121 J121 H locs h hw => ?_)
    exact g_iret C hw h dX11_about_124
  have h := h.2 c1_6
  rcases Classical.em (a0 = 7) with c1_7 | c1_7
  · have h := h.1 c1_7
    refine lv_tableIn (off := 124) (tgt := 125) hx hb dX11_about_1 (by rw [c1_7]; decide) (by rw [c1_7]; decide) (by rw [c1_7]; rfl) (by decide) ?_
    refine lv_aload_n hx hb dX11_about_125 rfl (lv_at hl 0 rfl) ?_
    refine g_get C hw f_RX11_53 xl_0 (xs_0 _ _) rfl dX11_about_126 ?_
    refine g_ci hw (g_rV [] [] C hw (m_X6_wordsInPhrases h) k_X6_wordsInPhrases q_RX11_140 xl_39 (xs_39 _ _) rfl rfl hl.1 rfl (Nat.le_of_ble_eq_true rfl) ⟨⟨rfl, rfl⟩, Nat.le_of_ble_eq_true rfl, Nat.le_of_ble_eq_true rfl⟩ ⟨Nat.zero_le _, Nat.zero_le _⟩ dX11_about_129) (fun r129 I129 J129 H locs h hw => ?_)
    exact g_iret C hw h dX11_about_132
  have h := h.2 c1_7
  rcases Classical.em (a0 = 8) with c1_8 | c1_8
  · have h := h.1 c1_8
    refine lv_tableIn (off := 132) (tgt := 133) hx hb dX11_about_1 (by rw [c1_8]; decide) (by rw [c1_8]; decide) (by rw [c1_8]; rfl) (by decide) ?_
    refine lv_aload_n hx hb dX11_about_133 rfl (lv_at hl 0 rfl) ?_
    refine g_get C hw f_RX11_53 xl_0 (xs_0 _ _) rfl dX11_about_134 ?_
    refine g_ci hw (g_rV [] [] C hw (m_X6_fewestWords h) k_X6_fewestWords q_RX11_143 xl_39 (xs_39 _ _) rfl rfl hl.1 rfl (Nat.le_of_ble_eq_true rfl) ⟨⟨rfl, rfl⟩, Nat.le_of_ble_eq_true rfl, Nat.le_of_ble_eq_true rfl⟩ ⟨Nat.zero_le _, Nat.zero_le _⟩ dX11_about_137) (fun r137 I137 J137 H locs h hw => ?_)
    exact g_iret C hw h dX11_about_140
  have h := h.2 c1_8
  rcases Classical.em (a0 = 9) with c1_9 | c1_9
  · have h := h.1 c1_9
    refine lv_tableIn (off := 140) (tgt := 141) hx hb dX11_about_1 (by rw [c1_9]; decide) (by rw [c1_9]; decide) (by rw [c1_9]; rfl) (by decide) ?_
    refine lv_aload_n hx hb dX11_about_141 rfl (lv_at hl 0 rfl) ?_
    refine g_get C hw f_RX11_53 xl_0 (xs_0 _ _) rfl dX11_about_142 ?_
    refine g_ci hw (g_rV [] [] C hw (m_X6_mostWords h) k_X6_mostWords q_RX11_146 xl_39 (xs_39 _ _) rfl rfl hl.1 rfl (Nat.le_of_ble_eq_true rfl) ⟨⟨rfl, rfl⟩, Nat.le_of_ble_eq_true rfl, Nat.le_of_ble_eq_true rfl⟩ ⟨Nat.zero_le _, Nat.zero_le _⟩ dX11_about_145) (fun r145 I145 J145 H locs h hw => ?_)
    exact g_iret C hw h dX11_about_148
  have h := h.2 c1_9
  rcases Classical.em (a0 = 10) with c1_10 | c1_10
  · have h := h.1 c1_10
    refine lv_tableIn (off := 148) (tgt := 149) hx hb dX11_about_1 (by rw [c1_10]; decide) (by rw [c1_10]; decide) (by rw [c1_10]; rfl) (by decide) ?_
    refine lv_aload_n hx hb dX11_about_149 rfl (lv_at hl 0 rfl) ?_
    refine g_get C hw f_RX11_44 xl_0 (xs_0 _ _) rfl dX11_about_150 ?_
    refine g_get C hw f_RX11_115 xl_35 (xs_35 _ _) rfl dX11_about_153 ?_
    exact g_iret C hw h dX11_about_156
  have h := h.2 c1_10
  rcases Classical.em (a0 = 11) with c1_11 | c1_11
  · have h := h.1 c1_11
    refine lv_tableIn (off := 156) (tgt := 157) hx hb dX11_about_1 (by rw [c1_11]; decide) (by rw [c1_11]; decide) (by rw [c1_11]; rfl) (by decide) ?_
    refine lv_aload_n hx hb dX11_about_157 rfl (lv_at hl 0 rfl) ?_
    refine g_get C hw f_RX11_86 xl_0 (xs_0 _ _) rfl dX11_about_158 ?_
    exact g_iret C hw h dX11_about_161
  have h := h.2 c1_11
  rcases Classical.em (a0 = 12) with c1_12 | c1_12
  · have h := h.1 c1_12
    refine lv_tableIn (off := 161) (tgt := 162) hx hb dX11_about_1 (by rw [c1_12]; decide) (by rw [c1_12]; decide) (by rw [c1_12]; rfl) (by decide) ?_
    refine lv_aload_n hx hb dX11_about_162 rfl (lv_at hl 0 rfl) ?_
    refine g_get C hw f_RX11_10 xl_0 (xs_0 _ _) rfl dX11_about_163 ?_
    refine g_get C hw f_RX11_97 xl_1 (xs_1 _ _) rfl dX11_about_166 ?_
    exact g_iret C hw h dX11_about_169
  have h := h.2 c1_12
  rcases Classical.em (a0 = 13) with c1_13 | c1_13
  · have h := h.1 c1_13
    refine lv_tableIn (off := 169) (tgt := 170) hx hb dX11_about_1 (by rw [c1_13]; decide) (by rw [c1_13]; decide) (by rw [c1_13]; rfl) (by decide) ?_
    refine lv_aload_n hx hb dX11_about_170 rfl (lv_at hl 0 rfl) ?_
    refine g_get C hw f_RX11_82 xl_0 (xs_0 _ _) rfl dX11_about_171 ?_
    exact g_iret C hw h dX11_about_174
  have h := h.2 c1_13
  refine lv_tableOut (tgt := 175) hx hb dX11_about_1 (by have hs0 := toInt_ne c1_0 (show (0 : Int32).toInt = 0 from by decide); have hs1 := toInt_ne c1_1 (show (1 : Int32).toInt = 1 from by decide); have hs2 := toInt_ne c1_2 (show (2 : Int32).toInt = 2 from by decide); have hs3 := toInt_ne c1_3 (show (3 : Int32).toInt = 3 from by decide); have hs4 := toInt_ne c1_4 (show (4 : Int32).toInt = 4 from by decide); have hs5 := toInt_ne c1_5 (show (5 : Int32).toInt = 5 from by decide); have hs6 := toInt_ne c1_6 (show (6 : Int32).toInt = 6 from by decide); have hs7 := toInt_ne c1_7 (show (7 : Int32).toInt = 7 from by decide); have hs8 := toInt_ne c1_8 (show (8 : Int32).toInt = 8 from by decide); have hs9 := toInt_ne c1_9 (show (9 : Int32).toInt = 9 from by decide); have hs10 := toInt_ne c1_10 (show (10 : Int32).toInt = 10 from by decide); have hs11 := toInt_ne c1_11 (show (11 : Int32).toInt = 11 from by decide); have hs12 := toInt_ne c1_12 (show (12 : Int32).toInt = 12 from by decide); have hs13 := toInt_ne c1_13 (show (13 : Int32).toInt = 13 from by decide); omega) (by decide) ?_
  refine lv_bipush (v := -2) hx hb dX11_about_175 (by decide) ?_
  exact g_iret C hw h dX11_about_177
theorem m_X11_about {l : Launch} {a0 : Int32} {Q : Int32 → MI → MJ → Prop} {I : MI} {J : MJ} (h : P_X11_about a0 I J Q) : Met l yX11_about (xws yX11_about cX11_about 2 (some .int)) rmX11_about (va_Pc [.ref (ad 0), .int a0] (gB (xS ad cy) 66 ad cy D (xF ad ts) I J)) (gQi (xS ad cy) 66 ad cy D (xF ad ts) Q) 0 0 (gA 66 ad) :=
  g_met (xF_ok ad ts) rfl (by decide) (Nat.le_of_ble_eq_true rfl) (fun p e s m below meth c ls C hw hl => w_X11_about C  h hw hl)
/-! BagPhrases$Lexicon.has(I)Z -/
def P_X5_has_16 (k : Nat) (Q : Int32 → MI → MJ → Prop) (I : MI) (J : MJ) : Prop :=
  Q (0 : Int32) I J
def P_X5_has (k : Nat) (a0 : Int32) (I : MI) (J : MJ) (Q : Int32 → MI → MJ → Prop) : Prop :=
  ((a0 < 0 → P_X5_has_16 k Q I J) ∧ (¬ a0 < 0 → (((I k 4) ≤ a0 → P_X5_has_16 k Q I J) ∧ (¬ (I k 4) ≤ a0 → Q (1 : Int32) I J))))
abbrev rmX5_has : Room := { frames := 0, cells := 0, slots := 0, locals := 0 }
set_option maxHeartbeats 4000000 in
set_option maxRecDepth 100000 in
theorem w_X5_has_16 {Q : Int32 → MI → MJ → Prop} (C : gC RX5 cX5_has 2 (some .boolean) 66 ad cy D (xF ad ts) p s m args meth c) {k : Nat} (hk : isLex k) {I : MI} {J : MJ} {H : Heap} {locs : List Loc} {ls : Array Slot} (h : P_X5_has_16 k Q I J) (hw : gH (xS ad cy) 66 ad D s I J H locs) (hl : lv_has ls 2 []) : W p l e rmX5_has s m args below meth c H locs 0 0 (MQ below (gQz (xS ad cy) 66 ad cy D (xF ad ts) Q) args s 0 0 (gA 66 ad)) (F0 m 16 ls []) := by
  obtain ⟨hx, hb, hC⟩ := id C
  refine lv_iconst (v := 0) hx hb dX5_has_16 (by decide) ?_
  exact g_zret C hw (by decide) h dX5_has_17
set_option maxHeartbeats 4000000 in
set_option maxRecDepth 100000 in
theorem w_X5_has {Q : Int32 → MI → MJ → Prop} (C : gC RX5 cX5_has 2 (some .boolean) 66 ad cy D (xF ad ts) p s m args meth c) {k : Nat} (hk : isLex k) {a0 : Int32} {I : MI} {J : MJ} {H : Heap} {locs : List Loc} {ls : Array Slot} (h : P_X5_has k a0 I J Q) (hw : gH (xS ad cy) 66 ad D s I J H locs) (hl : lv_has ls 2 [(0, .ref (ad k)), (1, .int a0)]) : W p l e rmX5_has s m args below meth c H locs 0 0 (MQ below (gQz (xS ad cy) 66 ad cy D (xF ad ts) Q) args s 0 0 (gA 66 ad)) (F0 m 0 ls []) := by
  obtain ⟨hx, hb, hC⟩ := id C
  refine lv_iload_n hx hb dX5_has_0 rfl (lv_at hl 1 rfl) ?_
  refine lv_if_lt (tgt := 16) hx hb dX5_has_1 (by decide) (fun c1 => ?_) (fun c1 => ?_)
  · have h := h.1 c1
    exact w_X5_has_16 C hk h hw (lv_sub hl [] rfl)
  · have h := h.2 c1
    refine lv_iload_n hx hb dX5_has_4 rfl (lv_at hl 1 rfl) ?_
    refine lv_aload_n hx hb dX5_has_5 rfl (lv_at hl 0 rfl) ?_
    refine g_get C hw f_RX5_25 (xl_Lex0 hk) ((xs_Lex0 hk) _ _) rfl dX5_has_6 ?_
    refine lv_icmp_ge (tgt := 16) hx hb dX5_has_9 (by decide) (fun c9 => ?_) (fun c9 => ?_)
    · have h := h.1 c9
      exact w_X5_has_16 C hk h hw (lv_sub hl [] rfl)
    · have h := h.2 c9
      refine lv_iconst (v := 1) hx hb dX5_has_12 (by decide) ?_
      refine lv_goto (tgt := 17) hx hb dX5_has_13 (by decide) ?_
      exact g_zret C hw (by decide) h dX5_has_17
theorem m_X5_has {l : Launch} {k : Nat} (hk : isLex k) {a0 : Int32} {Q : Int32 → MI → MJ → Prop} {I : MI} {J : MJ} (h : P_X5_has k a0 I J Q) : Met l yX5_has (xws yX5_has cX5_has 2 (some .boolean)) rmX5_has (va_Pc [.ref (ad k), .int a0] (gB (xS ad cy) 66 ad cy D (xF ad ts) I J)) (gQz (xS ad cy) 66 ad cy D (xF ad ts) Q) 0 0 (gA 66 ad) :=
  g_met (xF_ok ad ts) rfl (by decide) (Nat.le_of_ble_eq_true rfl) (fun p e s m below meth c ls C hw hl => w_X5_has C hk h hw hl)
/-! BagPhrases$Lexicon.wordsWith(I)I -/
def P_X5_wordsWith_24 (k : Nat) (Q : Int32 → MI → MJ → Prop) (kL4 : Int32 × Int32 × Int32 × MI × MJ → Prop) (x1 : Int32) (x2 : Int32) (x3 : Int32) (I : MI) (J : MJ) : Prop :=
  kL4 (x1, x2, (x3 + 1), I, J)
def P_X5_wordsWith_4 (k : Nat) (Q : Int32 → MI → MJ → Prop) (kL4 : Int32 × Int32 × Int32 × MI × MJ → Prop) : Int32 × Int32 × Int32 × MI × MJ → Prop := fun z => match z with
  | (x1, x2, x3, I, J) => (((I k 4) ≤ x3 → Q x2 I J) ∧ (¬ (I k 4) ≤ x3 → P_X5_amount k x3 x1 I J (fun r15 I15 J15 => ((r15 ≤ 0 → P_X5_wordsWith_24 k Q kL4 x1 x2 x3 I15 J15) ∧ (¬ r15 ≤ 0 → P_X5_wordsWith_24 k Q kL4 x1 (x2 + 1) x3 I15 J15)))))
def P_X5_wordsWith (k : Nat) (a0 : Int32) (I : MI) (J : MJ) (Q : Int32 → MI → MJ → Prop) : Prop :=
  lpx (P_X5_wordsWith_4 k Q) (a0, (0 : Int32), (0 : Int32), I, J)
abbrev rmX5_wordsWith : Room := { frames := 1, cells := 0, slots := 0, locals := 22 }
set_option maxHeartbeats 4000000 in
set_option maxRecDepth 100000 in
theorem w_X5_wordsWith_24 {Q : Int32 → MI → MJ → Prop} (C : gC RX5 cX5_wordsWith 4 (some .int) 66 ad cy D (xF ad ts) p s m args meth c) {k : Nat} (hk : isLex k) {kL4 : Int32 × Int32 × Int32 × MI × MJ → Prop} (hL4 : ∀ {x1 : Int32} {x2 : Int32} {x3 : Int32} {I : MI} {J : MJ} {H : Heap} {locs : List Loc} {ls : Array Slot}, kL4 (x1, x2, x3, I, J) → gH (xS ad cy) 66 ad D s I J H locs → lv_has ls 4 [(0, .ref (ad k)), (1, .int x1), (2, .int x2), (3, .int x3)] → W p l e rmX5_wordsWith s m args below meth c H locs 0 0 (MQ below (gQi (xS ad cy) 66 ad cy D (xF ad ts) Q) args s 0 0 (gA 66 ad)) (F0 m 4 ls [])) {x1 : Int32} {x2 : Int32} {x3 : Int32} {I : MI} {J : MJ} {H : Heap} {locs : List Loc} {ls : Array Slot} (h : P_X5_wordsWith_24 k Q kL4 x1 x2 x3 I J) (hw : gH (xS ad cy) 66 ad D s I J H locs) (hl : lv_has ls 4 [(0, .ref (ad k)), (1, .int x1), (2, .int x2), (3, .int x3)]) : W p l e rmX5_wordsWith s m args below meth c H locs 0 0 (MQ below (gQi (xS ad cy) 66 ad cy D (xF ad ts) Q) args s 0 0 (gA 66 ad)) (F0 m 24 ls []) := by
  obtain ⟨hx, hb, hC⟩ := id C
  refine lv_iinc (v := x3 + 1) (lv' := [(3, .int (x3 + 1)), (0, .ref (ad k)), (1, .int x1), (2, .int x2)]) hx hb dX5_wordsWith_24 hl (k := 3) rfl rfl (by decide) rfl (fun ls hl => ?_)
  refine lv_goto (tgt := 4) hx hb dX5_wordsWith_27 (by decide) ?_
  exact hL4 h hw (lv_sub hl [1, 2, 3, 0] rfl)
set_option maxHeartbeats 4000000 in
set_option maxRecDepth 100000 in
theorem w_X5_wordsWith_4 {Q : Int32 → MI → MJ → Prop} (C : gC RX5 cX5_wordsWith 4 (some .int) 66 ad cy D (xF ad ts) p s m args meth c) {k : Nat} (hk : isLex k) {kL4 : Int32 × Int32 × Int32 × MI × MJ → Prop} (hL4 : ∀ {x1 : Int32} {x2 : Int32} {x3 : Int32} {I : MI} {J : MJ} {H : Heap} {locs : List Loc} {ls : Array Slot}, kL4 (x1, x2, x3, I, J) → gH (xS ad cy) 66 ad D s I J H locs → lv_has ls 4 [(0, .ref (ad k)), (1, .int x1), (2, .int x2), (3, .int x3)] → W p l e rmX5_wordsWith s m args below meth c H locs 0 0 (MQ below (gQi (xS ad cy) 66 ad cy D (xF ad ts) Q) args s 0 0 (gA 66 ad)) (F0 m 4 ls [])) {x1 : Int32} {x2 : Int32} {x3 : Int32} {I : MI} {J : MJ} {H : Heap} {locs : List Loc} {ls : Array Slot} (h : P_X5_wordsWith_4 k Q kL4 (x1, x2, x3, I, J)) (hw : gH (xS ad cy) 66 ad D s I J H locs) (hl : lv_has ls 4 [(0, .ref (ad k)), (1, .int x1), (2, .int x2), (3, .int x3)]) : W p l e rmX5_wordsWith s m args below meth c H locs 0 0 (MQ below (gQi (xS ad cy) 66 ad cy D (xF ad ts) Q) args s 0 0 (gA 66 ad)) (F0 m 4 ls []) := by
  obtain ⟨hx, hb, hC⟩ := id C
  refine lv_iload_n hx hb dX5_wordsWith_4 rfl (lv_at hl 3 rfl) ?_
  refine lv_aload_n hx hb dX5_wordsWith_5 rfl (lv_at hl 0 rfl) ?_
  refine g_get C hw f_RX5_25 (xl_Lex0 hk) ((xs_Lex0 hk) _ _) rfl dX5_wordsWith_6 ?_
  refine lv_icmp_ge (tgt := 30) hx hb dX5_wordsWith_9 (by decide) (fun c9 => ?_) (fun c9 => ?_)
  · have h := h.1 c9
    refine lv_iload_n hx hb dX5_wordsWith_30 rfl (lv_at hl 2 rfl) ?_
    exact g_iret C hw h dX5_wordsWith_31
  · have h := h.2 c9
    refine lv_aload_n hx hb dX5_wordsWith_12 rfl (lv_at hl 0 rfl) ?_
    refine lv_iload_n hx hb dX5_wordsWith_13 rfl (lv_at hl 3 rfl) ?_
    refine lv_iload_n hx hb dX5_wordsWith_14 rfl (lv_at hl 1 rfl) ?_
    refine g_ci hw (g_rV [.int x3, .int x1] [] C hw (m_X5_amount hk h) k_X5_amount q_RX5_35 (xl_Lex0 hk) ((xs_Lex0 hk) _ _) rfl rfl hl.1 rfl (Nat.le_of_ble_eq_true rfl) ⟨⟨rfl, rfl⟩, Nat.le_of_ble_eq_true rfl, Nat.le_of_ble_eq_true rfl⟩ ⟨Nat.zero_le _, Nat.zero_le _⟩ dX5_wordsWith_15) (fun r15 I15 J15 H locs h hw => ?_)
    refine lv_if_le (tgt := 24) hx hb dX5_wordsWith_18 (by decide) (fun c18 => ?_) (fun c18 => ?_)
    · have h := h.1 c18
      exact w_X5_wordsWith_24 C hk hL4 h hw (lv_sub hl [0, 1, 2, 3] rfl)
    · have h := h.2 c18
      refine lv_iinc (v := x2 + 1) (lv' := [(2, .int (x2 + 1)), (0, .ref (ad k)), (1, .int x1), (3, .int x3)]) hx hb dX5_wordsWith_21 hl (k := 2) rfl rfl (by decide) rfl (fun ls hl => ?_)
      exact w_X5_wordsWith_24 C hk hL4 h hw (lv_sub hl [1, 2, 0, 3] rfl)
theorem wl_X5_wordsWith_4 {Q : Int32 → MI → MJ → Prop} (C : gC RX5 cX5_wordsWith 4 (some .int) 66 ad cy D (xF ad ts) p s m args meth c) {k : Nat} (hk : isLex k) {x1 : Int32} {x2 : Int32} {x3 : Int32} {I : MI} {J : MJ} {H : Heap} {locs : List Loc} {ls : Array Slot} (h : lpx (P_X5_wordsWith_4 k Q) (x1, x2, x3, I, J)) (hw : gH (xS ad cy) 66 ad D s I J H locs) (hl : lv_has ls 4 [(0, .ref (ad k)), (1, .int x1), (2, .int x2), (3, .int x3)]) : W p l e rmX5_wordsWith s m args below meth c H locs 0 0 (MQ below (gQi (xS ad cy) 66 ad cy D (xF ad ts) Q) args s 0 0 (gA 66 ad)) (F0 m 4 ls []) := by
  obtain ⟨n, h⟩ := h
  induction n generalizing x1 x2 x3 I J H locs ls with
  | zero => exact False.elim h
  | succ n ih => exact w_X5_wordsWith_4 C hk (fun hk9 hw9 hl9 => ih hw9 hl9 hk9) h hw hl
set_option maxHeartbeats 4000000 in
set_option maxRecDepth 100000 in
theorem w_X5_wordsWith {Q : Int32 → MI → MJ → Prop} (C : gC RX5 cX5_wordsWith 4 (some .int) 66 ad cy D (xF ad ts) p s m args meth c) {k : Nat} (hk : isLex k) {a0 : Int32} {I : MI} {J : MJ} {H : Heap} {locs : List Loc} {ls : Array Slot} (h : P_X5_wordsWith k a0 I J Q) (hw : gH (xS ad cy) 66 ad D s I J H locs) (hl : lv_has ls 4 [(0, .ref (ad k)), (1, .int a0)]) : W p l e rmX5_wordsWith s m args below meth c H locs 0 0 (MQ below (gQi (xS ad cy) 66 ad cy D (xF ad ts) Q) args s 0 0 (gA 66 ad)) (F0 m 0 ls []) := by
  obtain ⟨hx, hb, hC⟩ := id C
  refine lv_iconst (v := 0) hx hb dX5_wordsWith_0 (by decide) ?_
  refine lv_istore_n (lv' := [(2, .int (0 : Int32)), (0, .ref (ad k)), (1, .int a0)]) hx hb dX5_wordsWith_1 rfl hl (by decide) rfl (fun ls hl => ?_)
  refine lv_iconst (v := 0) hx hb dX5_wordsWith_2 (by decide) ?_
  refine lv_istore_n (lv' := [(3, .int (0 : Int32)), (2, .int (0 : Int32)), (0, .ref (ad k)), (1, .int a0)]) hx hb dX5_wordsWith_3 rfl hl (by decide) rfl (fun ls hl => ?_)
  exact wl_X5_wordsWith_4 C hk h hw (lv_sub hl [2, 3, 1, 0] rfl)
theorem m_X5_wordsWith {l : Launch} {k : Nat} (hk : isLex k) {a0 : Int32} {Q : Int32 → MI → MJ → Prop} {I : MI} {J : MJ} (h : P_X5_wordsWith k a0 I J Q) : Met l yX5_wordsWith (xws yX5_wordsWith cX5_wordsWith 4 (some .int)) rmX5_wordsWith (va_Pc [.ref (ad k), .int a0] (gB (xS ad cy) 66 ad cy D (xF ad ts) I J)) (gQi (xS ad cy) 66 ad cy D (xF ad ts) Q) 0 0 (gA 66 ad) :=
  g_met (xF_ok ad ts) rfl (by decide) (Nat.le_of_ble_eq_true rfl) (fun p e s m below meth c ls C hw hl => w_X5_wordsWith C hk h hw hl)
end
