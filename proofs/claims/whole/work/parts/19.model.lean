section
variable {p : Program} {l : Launch} {e : Env} {s : State} {m : MethodId} {args : Array Value} {below : List Frame} {meth : Method} {c : Code} {ad : Nat → Nat} {cy : Nat → ClassId} {D : va_G} {ts : Nat → Nat}
/-! BagPhrasesModel.many(I)J -/
def P_X12_many (a0 : Int32) (I : MI) (J : MJ) (Q : Int64 → MI → MJ → Prop) : Prop :=
  P_X12_in a0.toInt64 (0 : Int64) (12 : Int64) I J (fun r6 I6 J6 => ((¬ r6 = 0 → P_X12_manyOf 6 I6 J6 (fun r21 I21 J21 => ((¬ a0 = 0 → P_X12_manyBy a0 I21 J21 (fun r35 I35 J35 => Q r35 I35 J35)) ∧ (a0 = 0 → Q r21 I21 J21)))) ∧ (r6 = 0 → Q (-2 : Int64) I6 J6)))
abbrev rmX12_many : Room := { frames := 4, cells := 0, slots := 0, locals := 91 }
set_option maxHeartbeats 4000000 in
set_option maxRecDepth 100000 in
theorem w_X12_many {Q : Int64 → MI → MJ → Prop} (C : gC RX12 cX12_many 4 (some .long) 30 ad cy D mE p s m args meth c) {a0 : Int32} {I : MI} {J : MJ} {H : Heap} {locs : List Loc} {ls : Array Slot} (h : P_X12_many a0 I J Q) (hw : gH (mS ad cy) 30 ad D s I J H locs) (hl : lv_has ls 4 [(0, .ref (ad 0)), (1, .int a0)]) : W p l e rmX12_many s m args below meth c H locs 0 0 (MQ below (gQl (mS ad cy) 30 ad cy D mE Q) args s 0 0 (gA 30 ad)) (F0 m 0 ls []) := by
  obtain ⟨hx, hb, hC⟩ := id C
  refine lv_iload_n hx hb dX12_many_0 rfl (lv_at hl 1 rfl) ?_
  refine lv_i2l hx hb dX12_many_1 rfl ?_
  refine lv_lconst (v := 0) hx hb dX12_many_2 (by decide) ?_
  refine lv_ldc2 (v := (12)) hx hb hC.2.2.1 (hC.2.2.2.1 _ q_RX12_268) dX12_many_3 ?_
  refine g_cz hw (g_rS [.long a0.toInt64, .long (0 : Int64), .long (12 : Int64)] [] C hw (m_X12_in h) k_X12_in q_RX12_107 rfl hl.1 rfl (Nat.le_of_ble_eq_true rfl) ⟨⟨rfl, rfl⟩, Nat.le_of_ble_eq_true rfl, Nat.le_of_ble_eq_true rfl⟩ ⟨Nat.zero_le _, Nat.zero_le _⟩ dX12_many_6) (fun r6 I6 J6 H locs z6 h hw => ?_)
  refine lv_if_ne (tgt := 16) hx hb dX12_many_9 (by decide) (fun c9 => ?_) (fun c9 => ?_)
  · have h := h.1 c9
    refine lv_aload_n hx hb dX12_many_16 rfl (lv_at hl 0 rfl) ?_
    refine lv_aload_n hx hb dX12_many_17 rfl (lv_at hl 0 rfl) ?_
    refine g_get C hw f_RX12_25 ml_0 (ms_0 _ _) rfl dX12_many_18 ?_
    refine g_cl hw (g_rV [.ref (ad 6)] [] C hw (m_X12_manyOf isRow_6 h) k_X12_manyOf q_RX12_272 ml_0 (ms_0 _ _) rfl rfl hl.1 rfl (Nat.le_of_ble_eq_true rfl) ⟨⟨rfl, rfl⟩, Nat.le_of_ble_eq_true rfl, Nat.le_of_ble_eq_true rfl⟩ ⟨Nat.zero_le _, Nat.zero_le _⟩ dX12_many_21) (fun r21 I21 J21 H locs h hw => ?_)
    refine lv_lstore_n (lv' := [(2, .long r21), (0, .ref (ad 0)), (1, .int a0)]) hx hb dX12_many_24 rfl hl (by decide) rfl (fun ls hl => ?_)
    refine lv_iload_n hx hb dX12_many_25 rfl (lv_at hl 2 rfl) ?_
    refine lv_if_ne (tgt := 33) hx hb dX12_many_26 (by decide) (fun c26 => ?_) (fun c26 => ?_)
    · have h := h.1 c26
      refine lv_aload_n hx hb dX12_many_33 rfl (lv_at hl 1 rfl) ?_
      refine lv_iload_n hx hb dX12_many_34 rfl (lv_at hl 2 rfl) ?_
      refine g_cl hw (g_rV [.int a0] [] C hw (m_X12_manyBy h) k_X12_manyBy q_RX12_212 ml_0 (ms_0 _ _) rfl rfl hl.1 rfl (Nat.le_of_ble_eq_true rfl) ⟨⟨rfl, rfl⟩, Nat.le_of_ble_eq_true rfl, Nat.le_of_ble_eq_true rfl⟩ ⟨Nat.zero_le _, Nat.zero_le _⟩ dX12_many_35) (fun r35 I35 J35 H locs h hw => ?_)
      exact g_lret C hw h dX12_many_38
    · have h := h.2 c26
      refine lv_lload_n hx hb dX12_many_29 rfl (lv_at hl 0 rfl) ?_
      refine lv_goto (tgt := 38) hx hb dX12_many_30 (by decide) ?_
      exact g_lret C hw h dX12_many_38
  · have h := h.2 c9
    refine lv_ldc2 (v := (-2)) hx hb hC.2.2.1 (hC.2.2.2.1 _ q_RX12_270) dX12_many_12 ?_
    exact g_lret C hw h dX12_many_15
theorem m_X12_many {l : Launch} {a0 : Int32} {Q : Int64 → MI → MJ → Prop} {I : MI} {J : MJ} (h : P_X12_many a0 I J Q) : Met l yX12_many (xws yX12_many cX12_many 4 (some .long)) rmX12_many (va_Pc [.ref (ad 0), .int a0] (gB (mS ad cy) 30 ad cy D mE I J)) (gQl (mS ad cy) 30 ad cy D mE Q) 0 0 (gA 30 ad) :=
  g_met (mE_ok ad) rfl (by decide) (Nat.le_of_ble_eq_true rfl) (fun p e s m below meth c ls C hw hl => w_X12_many C  h hw hl)
/-! BagPhrasesModel.having(I)J -/
def P_X12_having (a0 : Int32) (I : MI) (J : MJ) (Q : Int64 → MI → MJ → Prop) : Prop :=
  P_X12_isWord a0 I J (fun r2 I2 J2 => ((r2 = 0 → Q (-1 : Int64) I2 J2) ∧ (¬ r2 = 0 → P_X12_withWord 6 a0 I2 J2 (fun r14 I14 J14 => Q r14 I14 J14))))
abbrev rmX12_having : Room := { frames := 5, cells := 0, slots := 0, locals := 115 }
set_option maxHeartbeats 4000000 in
set_option maxRecDepth 100000 in
theorem w_X12_having {Q : Int64 → MI → MJ → Prop} (C : gC RX12 cX12_having 2 (some .long) 30 ad cy D mE p s m args meth c) {a0 : Int32} {I : MI} {J : MJ} {H : Heap} {locs : List Loc} {ls : Array Slot} (h : P_X12_having a0 I J Q) (hw : gH (mS ad cy) 30 ad D s I J H locs) (hl : lv_has ls 2 [(0, .ref (ad 0)), (1, .int a0)]) : W p l e rmX12_having s m args below meth c H locs 0 0 (MQ below (gQl (mS ad cy) 30 ad cy D mE Q) args s 0 0 (gA 30 ad)) (F0 m 0 ls []) := by
  obtain ⟨hx, hb, hC⟩ := id C
  refine lv_aload_n hx hb dX12_having_0 rfl (lv_at hl 0 rfl) ?_
  refine lv_iload_n hx hb dX12_having_1 rfl (lv_at hl 1 rfl) ?_
  refine g_cz hw (g_rV [.int a0] [] C hw (m_X12_isWord h) k_X12_isWord q_RX12_243 ml_0 (ms_0 _ _) rfl rfl hl.1 rfl (Nat.le_of_ble_eq_true rfl) ⟨⟨rfl, rfl⟩, Nat.le_of_ble_eq_true rfl, Nat.le_of_ble_eq_true rfl⟩ ⟨Nat.zero_le _, Nat.zero_le _⟩ dX12_having_2) (fun r2 I2 J2 H locs z2 h hw => ?_)
  refine lv_if_eq (tgt := 20) hx hb dX12_having_5 (by decide) (fun c5 => ?_) (fun c5 => ?_)
  · have h := h.1 c5
    refine lv_ldc2 (v := (-1)) hx hb hC.2.2.1 (hC.2.2.2.1 _ q_RX12_276) dX12_having_20 ?_
    exact g_lret C hw h dX12_having_23
  · have h := h.2 c5
    refine lv_aload_n hx hb dX12_having_8 rfl (lv_at hl 0 rfl) ?_
    refine lv_aload_n hx hb dX12_having_9 rfl (lv_at hl 0 rfl) ?_
    refine g_get C hw f_RX12_25 ml_0 (ms_0 _ _) rfl dX12_having_10 ?_
    refine lv_iload_n hx hb dX12_having_13 rfl (lv_at hl 1 rfl) ?_
    refine g_cl hw (g_rV [.ref (ad 6), .int a0] [] C hw (m_X12_withWord isRow_6 h) k_X12_withWord q_RX12_216 ml_0 (ms_0 _ _) rfl rfl hl.1 rfl (Nat.le_of_ble_eq_true rfl) ⟨⟨rfl, rfl⟩, Nat.le_of_ble_eq_true rfl, Nat.le_of_ble_eq_true rfl⟩ ⟨Nat.zero_le _, Nat.zero_le _⟩ dX12_having_14) (fun r14 I14 J14 H locs h hw => ?_)
    refine lv_goto (tgt := 23) hx hb dX12_having_17 (by decide) ?_
    exact g_lret C hw h dX12_having_23
theorem m_X12_having {l : Launch} {a0 : Int32} {Q : Int64 → MI → MJ → Prop} {I : MI} {J : MJ} (h : P_X12_having a0 I J Q) : Met l yX12_having (xws yX12_having cX12_having 2 (some .long)) rmX12_having (va_Pc [.ref (ad 0), .int a0] (gB (mS ad cy) 30 ad cy D mE I J)) (gQl (mS ad cy) 30 ad cy D mE Q) 0 0 (gA 30 ad) :=
  g_met (mE_ok ad) rfl (by decide) (Nat.le_of_ble_eq_true rfl) (fun p e s m below meth c ls C hw hl => w_X12_having C  h hw hl)
/-! BagPhrasesModel.bestWith(II)I -/
def P_X12_bestWith (a0 : Int32) (a1 : Int32) (I : MI) (J : MJ) (Q : Int32 → MI → MJ → Prop) : Prop :=
  vp_in a1 10 ∧ (((¬ (a0 - (I 21 a1.toNatClampNeg)) = 0 → vp_in a1 10 ∧ (vp_in (((5 : Int32) * (a0 - (I 21 a1.toNatClampNeg))) + (I 4 a1.toNatClampNeg)) 9720 ∧ (((0 ≤ (I 25 (((5 : Int32) * (a0 - (I 21 a1.toNatClampNeg))) + (I 4 a1.toNatClampNeg)).toNatClampNeg) → vp_in a1 10 ∧ (vp_in (((5 : Int32) * (a0 - (I 21 a1.toNatClampNeg))) + (I 4 a1.toNatClampNeg)) 9720 ∧ (vp_in ((9 : Int32) + a1) 25 ∧ (Q ((I 25 (((5 : Int32) * (a0 - (I 21 a1.toNatClampNeg))) + (I 4 a1.toNatClampNeg)).toNatClampNeg) + (I 19 ((9 : Int32) + a1).toNatClampNeg)) I J)))) ∧ (¬ 0 ≤ (I 25 (((5 : Int32) * (a0 - (I 21 a1.toNatClampNeg))) + (I 4 a1.toNatClampNeg)).toNatClampNeg) → Q (-9 : Int32) I J))))) ∧ ((a0 - (I 21 a1.toNatClampNeg)) = 0 → vp_in (20 : Int32) 25 ∧ (vp_in a1 10 ∧ (P_X12_has (I 19 (20 : Int32).toNatClampNeg) (I 4 a1.toNatClampNeg) I J (fun r26 I26 J26 => ((r26 = 0 → Q (-9 : Int32) I26 J26) ∧ (¬ r26 = 0 → vp_in ((9 : Int32) + a1) 25 ∧ (Q (I26 19 ((9 : Int32) + a1).toNatClampNeg) I26 J26)))))))))
abbrev rmX12_bestWith : Room := { frames := 1, cells := 0, slots := 0, locals := 21 }
set_option maxHeartbeats 4000000 in
set_option maxRecDepth 100000 in
theorem w_X12_bestWith {Q : Int32 → MI → MJ → Prop} (C : gC RX12 cX12_bestWith 4 (some .int) 30 ad cy D mE p s m args meth c) {a0 : Int32} {a1 : Int32} {I : MI} {J : MJ} {H : Heap} {locs : List Loc} {ls : Array Slot} (h : P_X12_bestWith a0 a1 I J Q) (hw : gH (mS ad cy) 30 ad D s I J H locs) (hl : lv_has ls 4 [(0, .ref (ad 0)), (1, .int a0), (2, .int a1)]) : W p l e rmX12_bestWith s m args below meth c H locs 0 0 (MQ below (gQi (mS ad cy) 30 ad cy D mE Q) args s 0 0 (gA 30 ad)) (F0 m 0 ls []) := by
  obtain ⟨hx, hb, hC⟩ := id C
  refine lv_iload_n hx hb dX12_bestWith_0 rfl (lv_at hl 1 rfl) ?_
  refine lv_aload_n hx hb dX12_bestWith_1 rfl (lv_at hl 0 rfl) ?_
  refine g_get C hw f_RX12_71 ml_0 (ms_0 _ _) rfl dX12_bestWith_2 ?_
  refine lv_iload_n hx hb dX12_bestWith_5 rfl (lv_at hl 2 rfl) ?_
  refine g_iald C hw ml_21 ms_21 h.1 dX12_bestWith_6 ?_
  have h := h.2
  refine lv_isub hx hb dX12_bestWith_7 ?_
  refine lv_istore_n (lv' := [(3, .int (a0 - (I 21 a1.toNatClampNeg))), (0, .ref (ad 0)), (1, .int a0), (2, .int a1)]) hx hb dX12_bestWith_8 rfl hl (by decide) rfl (fun ls hl => ?_)
  refine lv_iload_n hx hb dX12_bestWith_9 rfl (lv_at hl 0 rfl) ?_
  refine lv_if_ne (tgt := 47) hx hb dX12_bestWith_10 (by decide) (fun c10 => ?_) (fun c10 => ?_)
  · have h := h.1 c10
    refine lv_aload_n hx hb dX12_bestWith_47 rfl (lv_at hl 1 rfl) ?_
    refine g_get C hw f_RX12_84 ml_0 (ms_0 _ _) rfl dX12_bestWith_48 ?_
    refine lv_iconst (v := 5) hx hb dX12_bestWith_51 (by decide) ?_
    refine lv_iload_n hx hb dX12_bestWith_52 rfl (lv_at hl 0 rfl) ?_
    refine lv_imul hx hb dX12_bestWith_53 ?_
    refine lv_aload_n hx hb dX12_bestWith_54 rfl (lv_at hl 1 rfl) ?_
    refine g_get C hw f_RX12_19 ml_0 (ms_0 _ _) rfl dX12_bestWith_55 ?_
    refine lv_iload_n hx hb dX12_bestWith_58 rfl (lv_at hl 3 rfl) ?_
    refine g_iald C hw ml_4 ms_4 h.1 dX12_bestWith_59 ?_
    have h := h.2
    refine lv_iadd hx hb dX12_bestWith_60 ?_
    refine g_iald C hw ml_25 ms_25 h.1 dX12_bestWith_61 ?_
    have h := h.2
    refine lv_if_ge (tgt := 70) hx hb dX12_bestWith_62 (by decide) (fun c62 => ?_) (fun c62 => ?_)
    · have h := h.1 c62
      refine lv_aload_n hx hb dX12_bestWith_70 rfl (lv_at hl 1 rfl) ?_
      refine g_get C hw f_RX12_84 ml_0 (ms_0 _ _) rfl dX12_bestWith_71 ?_
      refine lv_iconst (v := 5) hx hb dX12_bestWith_74 (by decide) ?_
      refine lv_iload_n hx hb dX12_bestWith_75 rfl (lv_at hl 0 rfl) ?_
      refine lv_imul hx hb dX12_bestWith_76 ?_
      refine lv_aload_n hx hb dX12_bestWith_77 rfl (lv_at hl 1 rfl) ?_
      refine g_get C hw f_RX12_19 ml_0 (ms_0 _ _) rfl dX12_bestWith_78 ?_
      refine lv_iload_n hx hb dX12_bestWith_81 rfl (lv_at hl 3 rfl) ?_
      refine g_iald C hw ml_4 ms_4 h.1 dX12_bestWith_82 ?_
      have h := h.2
      refine lv_iadd hx hb dX12_bestWith_83 ?_
      refine g_iald C hw ml_25 ms_25 h.1 dX12_bestWith_84 ?_
      have h := h.2
      refine lv_aload_n hx hb dX12_bestWith_85 rfl (lv_at hl 1 rfl) ?_
      refine g_get C hw f_RX12_65 ml_0 (ms_0 _ _) rfl dX12_bestWith_86 ?_
      refine lv_bipush (v := 9) hx hb dX12_bestWith_89 (by decide) ?_
      refine lv_iload_n hx hb dX12_bestWith_91 rfl (lv_at hl 3 rfl) ?_
      refine lv_iadd hx hb dX12_bestWith_92 ?_
      refine g_iald C hw ml_19 ms_19 h.1 dX12_bestWith_93 ?_
      have h := h.2
      refine lv_iadd hx hb dX12_bestWith_94 ?_
      exact g_iret C hw h dX12_bestWith_95
    · have h := h.2 c62
      refine lv_bipush (v := -9) hx hb dX12_bestWith_65 (by decide) ?_
      refine lv_goto (tgt := 95) hx hb dX12_bestWith_67 (by decide) ?_
      exact g_iret C hw h dX12_bestWith_95
  · have h := h.2 c10
    refine lv_aload_n hx hb dX12_bestWith_13 rfl (lv_at hl 1 rfl) ?_
    refine g_get C hw f_RX12_65 ml_0 (ms_0 _ _) rfl dX12_bestWith_14 ?_
    refine lv_bipush (v := 20) hx hb dX12_bestWith_17 (by decide) ?_
    refine g_iald C hw ml_19 ms_19 h.1 dX12_bestWith_19 ?_
    have h := h.2
    refine lv_aload_n hx hb dX12_bestWith_20 rfl (lv_at hl 1 rfl) ?_
    refine g_get C hw f_RX12_19 ml_0 (ms_0 _ _) rfl dX12_bestWith_21 ?_
    refine lv_iload_n hx hb dX12_bestWith_24 rfl (lv_at hl 3 rfl) ?_
    refine g_iald C hw ml_4 ms_4 h.1 dX12_bestWith_25 ?_
    have h := h.2
    refine g_cz hw (g_rS [.int (I 19 (20 : Int32).toNatClampNeg), .int (I 4 a1.toNatClampNeg)] [] C hw (m_X12_has h) k_X12_has q_RX12_149 rfl hl.1 rfl (Nat.le_of_ble_eq_true rfl) ⟨⟨rfl, rfl⟩, Nat.le_of_ble_eq_true rfl, Nat.le_of_ble_eq_true rfl⟩ ⟨Nat.zero_le _, Nat.zero_le _⟩ dX12_bestWith_26) (fun r26 I26 J26 H locs z26 h hw => ?_)
    refine lv_if_eq (tgt := 44) hx hb dX12_bestWith_29 (by decide) (fun c29 => ?_) (fun c29 => ?_)
    · have h := h.1 c29
      refine lv_bipush (v := -9) hx hb dX12_bestWith_44 (by decide) ?_
      exact g_iret C hw h dX12_bestWith_46
    · have h := h.2 c29
      refine lv_aload_n hx hb dX12_bestWith_32 rfl (lv_at hl 1 rfl) ?_
      refine g_get C hw f_RX12_65 ml_0 (ms_0 _ _) rfl dX12_bestWith_33 ?_
      refine lv_bipush (v := 9) hx hb dX12_bestWith_36 (by decide) ?_
      refine lv_iload_n hx hb dX12_bestWith_38 rfl (lv_at hl 3 rfl) ?_
      refine lv_iadd hx hb dX12_bestWith_39 ?_
      refine g_iald C hw ml_19 ms_19 h.1 dX12_bestWith_40 ?_
      have h := h.2
      refine lv_goto (tgt := 46) hx hb dX12_bestWith_41 (by decide) ?_
      exact g_iret C hw h dX12_bestWith_46
theorem m_X12_bestWith {l : Launch} {a0 : Int32} {a1 : Int32} {Q : Int32 → MI → MJ → Prop} {I : MI} {J : MJ} (h : P_X12_bestWith a0 a1 I J Q) : Met l yX12_bestWith (xws yX12_bestWith cX12_bestWith 4 (some .int)) rmX12_bestWith (va_Pc [.ref (ad 0), .int a0, .int a1] (gB (mS ad cy) 30 ad cy D mE I J)) (gQi (mS ad cy) 30 ad cy D mE Q) 0 0 (gA 30 ad) :=
  g_met (mE_ok ad) rfl (by decide) (Nat.le_of_ble_eq_true rfl) (fun p e s m below meth c ls C hw hl => w_X12_bestWith C  h hw hl)
/-! BagPhrasesModel.layBest()V -/
def P_X12_layBest_85 (Q : MI → MJ → Prop) (kL2 : Int32 × MI × MJ → Prop) (kL24 : Int32 × Int32 × MI × MJ → Prop) (x1 : Int32) (x2 : Int32) (s1 : Int32) (s2 : Int32) (I : MI) (J : MJ) : Prop :=
  vp_in s1 9720 ∧ (∀ I85 : MI, I85 = mI I 25 s1.toNatClampNeg s2 → kL24 (x1, (x2 + 1), I85, J))
def P_X12_layBest_59 (Q : MI → MJ → Prop) (kL2 : Int32 × MI × MJ → Prop) (kL24 : Int32 × Int32 × MI × MJ → Prop) (x1 : Int32) (x2 : Int32) (s0 : Int32) (I : MI) (J : MJ) : Prop :=
  vp_in x1 9720 ∧ (((s0 ≤ (I 25 x1.toNatClampNeg) → vp_in x1 9720 ∧ (P_X12_layBest_85 Q kL2 kL24 x1 x2 x1 (I 25 x1.toNatClampNeg) I J)) ∧ (¬ s0 ≤ (I 25 x1.toNatClampNeg) → P_X12_layBest_85 Q kL2 kL24 x1 x2 x1 s0 I J)))
def P_X12_layBest_24 (Q : MI → MJ → Prop) (kL2 : Int32 × MI × MJ → Prop) (kL24 : Int32 × Int32 × MI × MJ → Prop) : Int32 × Int32 × MI × MJ → Prop := fun z => match z with
  | (x1, x2, I, J) => (((I 0 2) ≤ x2 → kL2 ((x1 + 1), I, J)) ∧ (¬ (I 0 2) ≤ x2 → P_X12_mayCome (x1 / (5 : Int32)) (x1 - x1 / (5 : Int32) * (5 : Int32)) x2 I J (fun r40 I40 J40 => ((r40 = 0 → P_X12_layBest_59 Q kL2 kL24 x1 x2 (-9 : Int32) I40 J40) ∧ (¬ r40 = 0 → P_X12_bestWith (x1 / (5 : Int32)) x2 I40 J40 (fun r51 I51 J51 => P_X12_layBest_59 Q kL2 kL24 x1 x2 r51 I51 J51))))))
def P_X12_layBest_2 (Q : MI → MJ → Prop) (kL2 : Int32 × MI × MJ → Prop) : Int32 × MI × MJ → Prop := fun z => match z with
  | (x1, I, J) => (((((5 : Int32) * (I 0 31)) + (4 : Int32)) < x1 → Q I J) ∧ (¬ (((5 : Int32) * (I 0 31)) + (4 : Int32)) < x1 → vp_in x1 9720 ∧ (∀ I21 : MI, I21 = mI I 25 x1.toNatClampNeg (-9 : Int32) → lpx (P_X12_layBest_24 Q kL2) (x1, (0 : Int32), I21, J))))
def P_X12_layBest (I : MI) (J : MJ) (Q : MI → MJ → Prop) : Prop :=
  lpx (P_X12_layBest_2 Q) ((0 : Int32), I, J)
abbrev rmX12_layBest : Room := { frames := 2, cells := 0, slots := 0, locals := 45 }
set_option maxHeartbeats 4000000 in
set_option maxRecDepth 100000 in
theorem w_X12_layBest_85 {Q : MI → MJ → Prop} (C : gC RX12 cX12_layBest 4 none 30 ad cy D mE p s m args meth c) {kL2 : Int32 × MI × MJ → Prop} (hL2 : ∀ {x1 : Int32} {I : MI} {J : MJ} {H : Heap} {locs : List Loc} {ls : Array Slot}, kL2 (x1, I, J) → gH (mS ad cy) 30 ad D s I J H locs → lv_has ls 4 [(0, .ref (ad 0)), (1, .int x1)] → W p l e rmX12_layBest s m args below meth c H locs 0 0 (MQ below (gQv (mS ad cy) 30 ad cy D mE Q) args s 0 0 (gA 30 ad)) (F0 m 2 ls [])) {kL24 : Int32 × Int32 × MI × MJ → Prop} (hL24 : ∀ {x1 : Int32} {x2 : Int32} {I : MI} {J : MJ} {H : Heap} {locs : List Loc} {ls : Array Slot}, kL24 (x1, x2, I, J) → gH (mS ad cy) 30 ad D s I J H locs → lv_has ls 4 [(0, .ref (ad 0)), (1, .int x1), (2, .int x2)] → W p l e rmX12_layBest s m args below meth c H locs 0 0 (MQ below (gQv (mS ad cy) 30 ad cy D mE Q) args s 0 0 (gA 30 ad)) (F0 m 24 ls [])) {x1 : Int32} {x2 : Int32} {s1 : Int32} {s2 : Int32} {I : MI} {J : MJ} {H : Heap} {locs : List Loc} {ls : Array Slot} (h : P_X12_layBest_85 Q kL2 kL24 x1 x2 s1 s2 I J) (hw : gH (mS ad cy) 30 ad D s I J H locs) (hl : lv_has ls 4 [(0, .ref (ad 0)), (1, .int x1), (2, .int x2)]) : W p l e rmX12_layBest s m args below meth c H locs 0 0 (MQ below (gQv (mS ad cy) 30 ad cy D mE Q) args s 0 0 (gA 30 ad)) (F0 m 85 ls [.int s2, .int s1, .ref (ad 25)]) := by
  obtain ⟨hx, hb, hC⟩ := id C
  refine g_iast C hw ml_25 ms_25 h.1 dX12_layBest_85 (fun H locs hw => ?_)
  have h := h.2
  obtain ⟨I85, e85⟩ : ∃ z : MI, z = mI I 25 s1.toNatClampNeg s2 := ⟨_, rfl⟩
  have h := h I85 e85
  rw [← e85] at hw
  refine lv_iinc (v := x2 + 1) (lv' := [(2, .int (x2 + 1)), (0, .ref (ad 0)), (1, .int x1)]) hx hb dX12_layBest_86 hl (k := 2) rfl rfl (by decide) rfl (fun ls hl => ?_)
  refine lv_goto (tgt := 24) hx hb dX12_layBest_89 (by decide) ?_
  exact hL24 h hw (lv_sub hl [1, 2, 0] rfl)
set_option maxHeartbeats 4000000 in
set_option maxRecDepth 100000 in
theorem w_X12_layBest_59 {Q : MI → MJ → Prop} (C : gC RX12 cX12_layBest 4 none 30 ad cy D mE p s m args meth c) {kL2 : Int32 × MI × MJ → Prop} (hL2 : ∀ {x1 : Int32} {I : MI} {J : MJ} {H : Heap} {locs : List Loc} {ls : Array Slot}, kL2 (x1, I, J) → gH (mS ad cy) 30 ad D s I J H locs → lv_has ls 4 [(0, .ref (ad 0)), (1, .int x1)] → W p l e rmX12_layBest s m args below meth c H locs 0 0 (MQ below (gQv (mS ad cy) 30 ad cy D mE Q) args s 0 0 (gA 30 ad)) (F0 m 2 ls [])) {kL24 : Int32 × Int32 × MI × MJ → Prop} (hL24 : ∀ {x1 : Int32} {x2 : Int32} {I : MI} {J : MJ} {H : Heap} {locs : List Loc} {ls : Array Slot}, kL24 (x1, x2, I, J) → gH (mS ad cy) 30 ad D s I J H locs → lv_has ls 4 [(0, .ref (ad 0)), (1, .int x1), (2, .int x2)] → W p l e rmX12_layBest s m args below meth c H locs 0 0 (MQ below (gQv (mS ad cy) 30 ad cy D mE Q) args s 0 0 (gA 30 ad)) (F0 m 24 ls [])) {x1 : Int32} {x2 : Int32} {s0 : Int32} {I : MI} {J : MJ} {H : Heap} {locs : List Loc} {ls : Array Slot} (h : P_X12_layBest_59 Q kL2 kL24 x1 x2 s0 I J) (hw : gH (mS ad cy) 30 ad D s I J H locs) (hl : lv_has ls 4 [(0, .ref (ad 0)), (1, .int x1), (2, .int x2)]) : W p l e rmX12_layBest s m args below meth c H locs 0 0 (MQ below (gQv (mS ad cy) 30 ad cy D mE Q) args s 0 0 (gA 30 ad)) (F0 m 59 ls [.int s0]) := by
  obtain ⟨hx, hb, hC⟩ := id C
  refine lv_istore_n (lv' := [(3, .int s0), (0, .ref (ad 0)), (1, .int x1), (2, .int x2)]) hx hb dX12_layBest_59 rfl hl (by decide) rfl (fun ls hl => ?_)
  refine lv_aload_n hx hb dX12_layBest_60 rfl (lv_at hl 1 rfl) ?_
  refine g_get C hw f_RX12_84 ml_0 (ms_0 _ _) rfl dX12_layBest_61 ?_
  refine lv_iload_n hx hb dX12_layBest_64 rfl (lv_at hl 2 rfl) ?_
  refine lv_iload_n hx hb dX12_layBest_65 rfl (lv_at hl 0 rfl) ?_
  refine lv_aload_n hx hb dX12_layBest_66 rfl (lv_at hl 1 rfl) ?_
  refine g_get C hw f_RX12_84 ml_0 (ms_0 _ _) rfl dX12_layBest_67 ?_
  refine lv_iload_n hx hb dX12_layBest_70 rfl (lv_at hl 2 rfl) ?_
  refine g_iald C hw ml_25 ms_25 h.1 dX12_layBest_71 ?_
  have h := h.2
  refine lv_icmp_le (tgt := 79) hx hb dX12_layBest_72 (by decide) (fun c72 => ?_) (fun c72 => ?_)
  · have h := h.1 c72
    refine lv_aload_n hx hb dX12_layBest_79 rfl (lv_at hl 1 rfl) ?_
    refine g_get C hw f_RX12_84 ml_0 (ms_0 _ _) rfl dX12_layBest_80 ?_
    refine lv_iload_n hx hb dX12_layBest_83 rfl (lv_at hl 2 rfl) ?_
    refine g_iald C hw ml_25 ms_25 h.1 dX12_layBest_84 ?_
    have h := h.2
    exact w_X12_layBest_85 C hL2 hL24 h hw (lv_sub hl [1, 2, 3] rfl)
  · have h := h.2 c72
    refine lv_iload_n hx hb dX12_layBest_75 rfl (lv_at hl 0 rfl) ?_
    refine lv_goto (tgt := 85) hx hb dX12_layBest_76 (by decide) ?_
    exact w_X12_layBest_85 C hL2 hL24 h hw (lv_sub hl [1, 2, 3] rfl)
set_option maxHeartbeats 4000000 in
set_option maxRecDepth 100000 in
theorem w_X12_layBest_24 {Q : MI → MJ → Prop} (C : gC RX12 cX12_layBest 4 none 30 ad cy D mE p s m args meth c) {kL2 : Int32 × MI × MJ → Prop} (hL2 : ∀ {x1 : Int32} {I : MI} {J : MJ} {H : Heap} {locs : List Loc} {ls : Array Slot}, kL2 (x1, I, J) → gH (mS ad cy) 30 ad D s I J H locs → lv_has ls 4 [(0, .ref (ad 0)), (1, .int x1)] → W p l e rmX12_layBest s m args below meth c H locs 0 0 (MQ below (gQv (mS ad cy) 30 ad cy D mE Q) args s 0 0 (gA 30 ad)) (F0 m 2 ls [])) {kL24 : Int32 × Int32 × MI × MJ → Prop} (hL24 : ∀ {x1 : Int32} {x2 : Int32} {I : MI} {J : MJ} {H : Heap} {locs : List Loc} {ls : Array Slot}, kL24 (x1, x2, I, J) → gH (mS ad cy) 30 ad D s I J H locs → lv_has ls 4 [(0, .ref (ad 0)), (1, .int x1), (2, .int x2)] → W p l e rmX12_layBest s m args below meth c H locs 0 0 (MQ below (gQv (mS ad cy) 30 ad cy D mE Q) args s 0 0 (gA 30 ad)) (F0 m 24 ls [])) {x1 : Int32} {x2 : Int32} {I : MI} {J : MJ} {H : Heap} {locs : List Loc} {ls : Array Slot} (h : P_X12_layBest_24 Q kL2 kL24 (x1, x2, I, J)) (hw : gH (mS ad cy) 30 ad D s I J H locs) (hl : lv_has ls 4 [(0, .ref (ad 0)), (1, .int x1), (2, .int x2)]) : W p l e rmX12_layBest s m args below meth c H locs 0 0 (MQ below (gQv (mS ad cy) 30 ad cy D mE Q) args s 0 0 (gA 30 ad)) (F0 m 24 ls []) := by
  obtain ⟨hx, hb, hC⟩ := id C
  refine lv_iload_n hx hb dX12_layBest_24 rfl (lv_at hl 2 rfl) ?_
  refine lv_aload_n hx hb dX12_layBest_25 rfl (lv_at hl 0 rfl) ?_
  refine g_get C hw f_RX12_103 ml_0 (ms_0 _ _) rfl dX12_layBest_26 ?_
  refine lv_icmp_ge (tgt := 92) hx hb dX12_layBest_29 (by decide) (fun c29 => ?_) (fun c29 => ?_)
  · have h := h.1 c29
    refine lv_iinc (v := x1 + 1) (lv' := [(1, .int (x1 + 1)), (0, .ref (ad 0)), (2, .int x2)]) hx hb dX12_layBest_92 hl (k := 1) rfl rfl (by decide) rfl (fun ls hl => ?_)
    refine lv_goto (tgt := 2) hx hb dX12_layBest_95 (by decide) ?_
    exact hL2 h hw (lv_sub hl [1, 0] rfl)
  · have h := h.2 c29
    refine lv_aload_n hx hb dX12_layBest_32 rfl (lv_at hl 0 rfl) ?_
    refine lv_iload_n hx hb dX12_layBest_33 rfl (lv_at hl 1 rfl) ?_
    refine lv_iconst (v := 5) hx hb dX12_layBest_34 (by decide) ?_
    refine lv_idiv hx hb dX12_layBest_35 (by decide) ?_
    refine lv_iload_n hx hb dX12_layBest_36 rfl (lv_at hl 1 rfl) ?_
    refine lv_iconst (v := 5) hx hb dX12_layBest_37 (by decide) ?_
    refine lv_irem hx hb dX12_layBest_38 (by decide) ?_
    refine lv_iload_n hx hb dX12_layBest_39 rfl (lv_at hl 2 rfl) ?_
    refine g_cz hw (g_rV [.int (x1 / (5 : Int32)), .int (x1 - x1 / (5 : Int32) * (5 : Int32)), .int x2] [] C hw (m_X12_mayCome h) k_X12_mayCome q_RX12_194 ml_0 (ms_0 _ _) rfl rfl hl.1 rfl (Nat.le_of_ble_eq_true rfl) ⟨⟨rfl, rfl⟩, Nat.le_of_ble_eq_true rfl, Nat.le_of_ble_eq_true rfl⟩ ⟨Nat.zero_le _, Nat.zero_le _⟩ dX12_layBest_40) (fun r40 I40 J40 H locs z40 h hw => ?_)
    refine lv_if_eq (tgt := 57) hx hb dX12_layBest_43 (by decide) (fun c43 => ?_) (fun c43 => ?_)
    · have h := h.1 c43
      refine lv_bipush (v := -9) hx hb dX12_layBest_57 (by decide) ?_
      exact w_X12_layBest_59 C hL2 hL24 h hw (lv_sub hl [0, 1, 2] rfl)
    · have h := h.2 c43
      refine lv_aload_n hx hb dX12_layBest_46 rfl (lv_at hl 0 rfl) ?_
      refine lv_iload_n hx hb dX12_layBest_47 rfl (lv_at hl 1 rfl) ?_
      refine lv_iconst (v := 5) hx hb dX12_layBest_48 (by decide) ?_
      refine lv_idiv hx hb dX12_layBest_49 (by decide) ?_
      refine lv_iload_n hx hb dX12_layBest_50 rfl (lv_at hl 2 rfl) ?_
      refine g_ci hw (g_rV [.int (x1 / (5 : Int32)), .int x2] [] C hw (m_X12_bestWith h) k_X12_bestWith q_RX12_278 ml_0 (ms_0 _ _) rfl rfl hl.1 rfl (Nat.le_of_ble_eq_true rfl) ⟨⟨rfl, rfl⟩, Nat.le_of_ble_eq_true rfl, Nat.le_of_ble_eq_true rfl⟩ ⟨Nat.zero_le _, Nat.zero_le _⟩ dX12_layBest_51) (fun r51 I51 J51 H locs h hw => ?_)
      refine lv_goto (tgt := 59) hx hb dX12_layBest_54 (by decide) ?_
      exact w_X12_layBest_59 C hL2 hL24 h hw (lv_sub hl [0, 1, 2] rfl)
theorem wl_X12_layBest_24 {Q : MI → MJ → Prop} (C : gC RX12 cX12_layBest 4 none 30 ad cy D mE p s m args meth c) {kL2 : Int32 × MI × MJ → Prop} (hL2 : ∀ {x1 : Int32} {I : MI} {J : MJ} {H : Heap} {locs : List Loc} {ls : Array Slot}, kL2 (x1, I, J) → gH (mS ad cy) 30 ad D s I J H locs → lv_has ls 4 [(0, .ref (ad 0)), (1, .int x1)] → W p l e rmX12_layBest s m args below meth c H locs 0 0 (MQ below (gQv (mS ad cy) 30 ad cy D mE Q) args s 0 0 (gA 30 ad)) (F0 m 2 ls [])) {x1 : Int32} {x2 : Int32} {I : MI} {J : MJ} {H : Heap} {locs : List Loc} {ls : Array Slot} (h : lpx (P_X12_layBest_24 Q kL2) (x1, x2, I, J)) (hw : gH (mS ad cy) 30 ad D s I J H locs) (hl : lv_has ls 4 [(0, .ref (ad 0)), (1, .int x1), (2, .int x2)]) : W p l e rmX12_layBest s m args below meth c H locs 0 0 (MQ below (gQv (mS ad cy) 30 ad cy D mE Q) args s 0 0 (gA 30 ad)) (F0 m 24 ls []) := by
  obtain ⟨n, h⟩ := h
  induction n generalizing x1 x2 I J H locs ls with
  | zero => exact False.elim h
  | succ n ih => exact w_X12_layBest_24 C hL2 (fun hk9 hw9 hl9 => ih hw9 hl9 hk9) h hw hl
set_option maxHeartbeats 4000000 in
set_option maxRecDepth 100000 in
theorem w_X12_layBest_2 {Q : MI → MJ → Prop} (C : gC RX12 cX12_layBest 4 none 30 ad cy D mE p s m args meth c) {kL2 : Int32 × MI × MJ → Prop} (hL2 : ∀ {x1 : Int32} {I : MI} {J : MJ} {H : Heap} {locs : List Loc} {ls : Array Slot}, kL2 (x1, I, J) → gH (mS ad cy) 30 ad D s I J H locs → lv_has ls 4 [(0, .ref (ad 0)), (1, .int x1)] → W p l e rmX12_layBest s m args below meth c H locs 0 0 (MQ below (gQv (mS ad cy) 30 ad cy D mE Q) args s 0 0 (gA 30 ad)) (F0 m 2 ls [])) {x1 : Int32} {I : MI} {J : MJ} {H : Heap} {locs : List Loc} {ls : Array Slot} (h : P_X12_layBest_2 Q kL2 (x1, I, J)) (hw : gH (mS ad cy) 30 ad D s I J H locs) (hl : lv_has ls 4 [(0, .ref (ad 0)), (1, .int x1)]) : W p l e rmX12_layBest s m args below meth c H locs 0 0 (MQ below (gQv (mS ad cy) 30 ad cy D mE Q) args s 0 0 (gA 30 ad)) (F0 m 2 ls []) := by
  obtain ⟨hx, hb, hC⟩ := id C
  refine lv_iload_n hx hb dX12_layBest_2 rfl (lv_at hl 1 rfl) ?_
  refine lv_iconst (v := 5) hx hb dX12_layBest_3 (by decide) ?_
  refine lv_aload_n hx hb dX12_layBest_4 rfl (lv_at hl 0 rfl) ?_
  refine g_get C hw f_RX12_188 ml_0 (ms_0 _ _) rfl dX12_layBest_5 ?_
  refine lv_imul hx hb dX12_layBest_8 ?_
  refine lv_iconst (v := 4) hx hb dX12_layBest_9 (by decide) ?_
  refine lv_iadd hx hb dX12_layBest_10 ?_
  refine lv_icmp_gt (tgt := 98) hx hb dX12_layBest_11 (by decide) (fun c11 => ?_) (fun c11 => ?_)
  · have h := h.1 c11
    exact g_vret C hw h dX12_layBest_98
  · have h := h.2 c11
    refine lv_aload_n hx hb dX12_layBest_14 rfl (lv_at hl 0 rfl) ?_
    refine g_get C hw f_RX12_84 ml_0 (ms_0 _ _) rfl dX12_layBest_15 ?_
    refine lv_iload_n hx hb dX12_layBest_18 rfl (lv_at hl 1 rfl) ?_
    refine lv_bipush (v := -9) hx hb dX12_layBest_19 (by decide) ?_
    refine g_iast C hw ml_25 ms_25 h.1 dX12_layBest_21 (fun H locs hw => ?_)
    have h := h.2
    obtain ⟨I21, e21⟩ : ∃ z : MI, z = mI I 25 x1.toNatClampNeg (-9 : Int32) := ⟨_, rfl⟩
    have h := h I21 e21
    rw [← e21] at hw
    refine lv_iconst (v := 0) hx hb dX12_layBest_22 (by decide) ?_
    refine lv_istore_n (lv' := [(2, .int (0 : Int32)), (0, .ref (ad 0)), (1, .int x1)]) hx hb dX12_layBest_23 rfl hl (by decide) rfl (fun ls hl => ?_)
    exact wl_X12_layBest_24 C hL2 h hw (lv_sub hl [1, 2, 0] rfl)
theorem wl_X12_layBest_2 {Q : MI → MJ → Prop} (C : gC RX12 cX12_layBest 4 none 30 ad cy D mE p s m args meth c) {x1 : Int32} {I : MI} {J : MJ} {H : Heap} {locs : List Loc} {ls : Array Slot} (h : lpx (P_X12_layBest_2 Q) (x1, I, J)) (hw : gH (mS ad cy) 30 ad D s I J H locs) (hl : lv_has ls 4 [(0, .ref (ad 0)), (1, .int x1)]) : W p l e rmX12_layBest s m args below meth c H locs 0 0 (MQ below (gQv (mS ad cy) 30 ad cy D mE Q) args s 0 0 (gA 30 ad)) (F0 m 2 ls []) := by
  obtain ⟨n, h⟩ := h
  induction n generalizing x1 I J H locs ls with
  | zero => exact False.elim h
  | succ n ih => exact w_X12_layBest_2 C  (fun hk9 hw9 hl9 => ih hw9 hl9 hk9) h hw hl
set_option maxHeartbeats 4000000 in
set_option maxRecDepth 100000 in
theorem w_X12_layBest {Q : MI → MJ → Prop} (C : gC RX12 cX12_layBest 4 none 30 ad cy D mE p s m args meth c) {I : MI} {J : MJ} {H : Heap} {locs : List Loc} {ls : Array Slot} (h : P_X12_layBest I J Q) (hw : gH (mS ad cy) 30 ad D s I J H locs) (hl : lv_has ls 4 [(0, .ref (ad 0))]) : W p l e rmX12_layBest s m args below meth c H locs 0 0 (MQ below (gQv (mS ad cy) 30 ad cy D mE Q) args s 0 0 (gA 30 ad)) (F0 m 0 ls []) := by
  obtain ⟨hx, hb, hC⟩ := id C
  refine lv_iconst (v := 0) hx hb dX12_layBest_0 (by decide) ?_
  refine lv_istore_n (lv' := [(1, .int (0 : Int32)), (0, .ref (ad 0))]) hx hb dX12_layBest_1 rfl hl (by decide) rfl (fun ls hl => ?_)
  exact wl_X12_layBest_2 C  h hw (lv_sub hl [1, 0] rfl)
theorem m_X12_layBest {l : Launch} {Q : MI → MJ → Prop} {I : MI} {J : MJ} (h : P_X12_layBest I J Q) : Met l yX12_layBest (xws yX12_layBest cX12_layBest 4 none) rmX12_layBest (va_Pc [.ref (ad 0)] (gB (mS ad cy) 30 ad cy D mE I J)) (gQv (mS ad cy) 30 ad cy D mE Q) 0 0 (gA 30 ad) :=
  g_met (mE_ok ad) rfl (by decide) (Nat.le_of_ble_eq_true rfl) (fun p e s m below meth c ls C hw hl => w_X12_layBest C  h hw hl)
/-! BagPhrasesModel.findBest()I -/
def P_X12_findBest_102 (Q : Int32 → MI → MJ → Prop) (x3 : Int32) (I : MI) (J : MJ) : Prop :=
  ((¬ x3 = 0 → Q x3 I J) ∧ (x3 = 0 → Q (-9 : Int32) I J))
def P_X12_findBest_64 (Q : Int32 → MI → MJ → Prop) (kL13 : Int32 × Int32 × Int32 × MI × MJ → Prop) (kL33 : Int32 × Int32 × Int32 × Int32 × MI × MJ → Prop) (x1 : Int32) (x2 : Int32) (x3 : Int32) (x4 : Int32) (I : MI) (J : MJ) : Prop :=
  kL33 (x1, x2, x3, (x4 + 1), I, J)
def P_X12_findBest_33 (Q : Int32 → MI → MJ → Prop) (kL13 : Int32 × Int32 × Int32 × MI × MJ → Prop) (kL33 : Int32 × Int32 × Int32 × Int32 × MI × MJ → Prop) : Int32 × Int32 × Int32 × Int32 × MI × MJ → Prop := fun z => match z with
  | (x1, x2, x3, x4, I, J) => P_X12_mayCome x1 x2 x4 I J (fun r38 I38 J38 => ((r38 = 0 → P_X12_findBest_64 Q kL13 kL33 x1 x2 x3 x4 I38 J38) ∧ (¬ r38 = 0 → P_X12_bestWith x1 x4 I38 J38 (fun r48 I48 J48 => vp_in (((5 : Int32) * x1) + x2) 9720 ∧ (((r48 = (I48 25 (((5 : Int32) * x1) + x2).toNatClampNeg) → vp_in x3 12 ∧ (∀ I77 : MI, I77 = mI I48 27 x3.toNatClampNeg x4 → vp_in x4 10 ∧ (vp_in x4 10 ∧ (kL13 ((x1 - (I77 21 x4.toNatClampNeg)), (I77 4 x4.toNatClampNeg), (x3 + 1), I77, J48))))) ∧ (¬ r48 = (I48 25 (((5 : Int32) * x1) + x2).toNatClampNeg) → P_X12_findBest_64 Q kL13 kL33 x1 x2 x3 x4 I48 J48)))))))
def P_X12_findBest_13 (Q : Int32 → MI → MJ → Prop) (kL13 : Int32 × Int32 × Int32 × MI × MJ → Prop) : Int32 × Int32 × Int32 × MI × MJ → Prop := fun z => match z with
  | (x1, x2, x3, I, J) => ((x1 ≤ 0 → P_X12_findBest_102 Q x3 I J) ∧ (¬ x1 ≤ 0 → vp_in (((5 : Int32) * x1) + x2) 9720 ∧ ((((I 25 (((5 : Int32) * x1) + x2).toNatClampNeg) < 0 → P_X12_findBest_102 Q x3 I J) ∧ (¬ (I 25 (((5 : Int32) * x1) + x2).toNatClampNeg) < 0 → lpx (P_X12_findBest_33 Q kL13) (x1, x2, x3, (0 : Int32), I, J))))))
def P_X12_findBest (I : MI) (J : MJ) (Q : Int32 → MI → MJ → Prop) : Prop :=
  P_X12_layBest I J (fun I1 J1 => lpx (P_X12_findBest_13 Q) ((I1 0 31), (4 : Int32), (0 : Int32), I1, J1))
abbrev rmX12_findBest : Room := { frames := 3, cells := 0, slots := 0, locals := 68 }
set_option maxHeartbeats 4000000 in
set_option maxRecDepth 100000 in
theorem w_X12_findBest_102 {Q : Int32 → MI → MJ → Prop} (C : gC RX12 cX12_findBest 5 (some .int) 30 ad cy D mE p s m args meth c) {x3 : Int32} {I : MI} {J : MJ} {H : Heap} {locs : List Loc} {ls : Array Slot} (h : P_X12_findBest_102 Q x3 I J) (hw : gH (mS ad cy) 30 ad D s I J H locs) (hl : lv_has ls 5 [(3, .int x3)]) : W p l e rmX12_findBest s m args below meth c H locs 0 0 (MQ below (gQi (mS ad cy) 30 ad cy D mE Q) args s 0 0 (gA 30 ad)) (F0 m 102 ls []) := by
  obtain ⟨hx, hb, hC⟩ := id C
  refine lv_iload_n hx hb dX12_findBest_102 rfl (lv_at hl 0 rfl) ?_
  refine lv_if_ne (tgt := 111) hx hb dX12_findBest_103 (by decide) (fun c103 => ?_) (fun c103 => ?_)
  · have h := h.1 c103
    refine lv_iload_n hx hb dX12_findBest_111 rfl (lv_at hl 0 rfl) ?_
    exact g_iret C hw h dX12_findBest_112
  · have h := h.2 c103
    refine lv_bipush (v := -9) hx hb dX12_findBest_106 (by decide) ?_
    refine lv_goto (tgt := 112) hx hb dX12_findBest_108 (by decide) ?_
    exact g_iret C hw h dX12_findBest_112
set_option maxHeartbeats 4000000 in
set_option maxRecDepth 100000 in
theorem w_X12_findBest_64 {Q : Int32 → MI → MJ → Prop} (C : gC RX12 cX12_findBest 5 (some .int) 30 ad cy D mE p s m args meth c) {kL13 : Int32 × Int32 × Int32 × MI × MJ → Prop} (hL13 : ∀ {x1 : Int32} {x2 : Int32} {x3 : Int32} {I : MI} {J : MJ} {H : Heap} {locs : List Loc} {ls : Array Slot}, kL13 (x1, x2, x3, I, J) → gH (mS ad cy) 30 ad D s I J H locs → lv_has ls 5 [(0, .ref (ad 0)), (1, .int x1), (2, .int x2), (3, .int x3)] → W p l e rmX12_findBest s m args below meth c H locs 0 0 (MQ below (gQi (mS ad cy) 30 ad cy D mE Q) args s 0 0 (gA 30 ad)) (F0 m 13 ls [])) {kL33 : Int32 × Int32 × Int32 × Int32 × MI × MJ → Prop} (hL33 : ∀ {x1 : Int32} {x2 : Int32} {x3 : Int32} {x4 : Int32} {I : MI} {J : MJ} {H : Heap} {locs : List Loc} {ls : Array Slot}, kL33 (x1, x2, x3, x4, I, J) → gH (mS ad cy) 30 ad D s I J H locs → lv_has ls 5 [(0, .ref (ad 0)), (1, .int x1), (2, .int x2), (3, .int x3), (4, .int x4)] → W p l e rmX12_findBest s m args below meth c H locs 0 0 (MQ below (gQi (mS ad cy) 30 ad cy D mE Q) args s 0 0 (gA 30 ad)) (F0 m 33 ls [])) {x1 : Int32} {x2 : Int32} {x3 : Int32} {x4 : Int32} {I : MI} {J : MJ} {H : Heap} {locs : List Loc} {ls : Array Slot} (h : P_X12_findBest_64 Q kL13 kL33 x1 x2 x3 x4 I J) (hw : gH (mS ad cy) 30 ad D s I J H locs) (hl : lv_has ls 5 [(0, .ref (ad 0)), (1, .int x1), (2, .int x2), (3, .int x3), (4, .int x4)]) : W p l e rmX12_findBest s m args below meth c H locs 0 0 (MQ below (gQi (mS ad cy) 30 ad cy D mE Q) args s 0 0 (gA 30 ad)) (F0 m 64 ls []) := by
  obtain ⟨hx, hb, hC⟩ := id C
  refine lv_iinc (v := x4 + 1) (lv' := [(4, .int (x4 + 1)), (0, .ref (ad 0)), (1, .int x1), (2, .int x2), (3, .int x3)]) hx hb dX12_findBest_64 hl (k := 4) rfl rfl (by decide) rfl (fun ls hl => ?_)
  refine lv_goto (tgt := 33) hx hb dX12_findBest_67 (by decide) ?_
  exact hL33 h hw (lv_sub hl [1, 2, 3, 4, 0] rfl)
set_option maxHeartbeats 4000000 in
set_option maxRecDepth 100000 in
theorem w_X12_findBest_33 {Q : Int32 → MI → MJ → Prop} (C : gC RX12 cX12_findBest 5 (some .int) 30 ad cy D mE p s m args meth c) {kL13 : Int32 × Int32 × Int32 × MI × MJ → Prop} (hL13 : ∀ {x1 : Int32} {x2 : Int32} {x3 : Int32} {I : MI} {J : MJ} {H : Heap} {locs : List Loc} {ls : Array Slot}, kL13 (x1, x2, x3, I, J) → gH (mS ad cy) 30 ad D s I J H locs → lv_has ls 5 [(0, .ref (ad 0)), (1, .int x1), (2, .int x2), (3, .int x3)] → W p l e rmX12_findBest s m args below meth c H locs 0 0 (MQ below (gQi (mS ad cy) 30 ad cy D mE Q) args s 0 0 (gA 30 ad)) (F0 m 13 ls [])) {kL33 : Int32 × Int32 × Int32 × Int32 × MI × MJ → Prop} (hL33 : ∀ {x1 : Int32} {x2 : Int32} {x3 : Int32} {x4 : Int32} {I : MI} {J : MJ} {H : Heap} {locs : List Loc} {ls : Array Slot}, kL33 (x1, x2, x3, x4, I, J) → gH (mS ad cy) 30 ad D s I J H locs → lv_has ls 5 [(0, .ref (ad 0)), (1, .int x1), (2, .int x2), (3, .int x3), (4, .int x4)] → W p l e rmX12_findBest s m args below meth c H locs 0 0 (MQ below (gQi (mS ad cy) 30 ad cy D mE Q) args s 0 0 (gA 30 ad)) (F0 m 33 ls [])) {x1 : Int32} {x2 : Int32} {x3 : Int32} {x4 : Int32} {I : MI} {J : MJ} {H : Heap} {locs : List Loc} {ls : Array Slot} (h : P_X12_findBest_33 Q kL13 kL33 (x1, x2, x3, x4, I, J)) (hw : gH (mS ad cy) 30 ad D s I J H locs) (hl : lv_has ls 5 [(0, .ref (ad 0)), (1, .int x1), (2, .int x2), (3, .int x3), (4, .int x4)]) : W p l e rmX12_findBest s m args below meth c H locs 0 0 (MQ below (gQi (mS ad cy) 30 ad cy D mE Q) args s 0 0 (gA 30 ad)) (F0 m 33 ls []) := by
  obtain ⟨hx, hb, hC⟩ := id C
  unfold P_X12_findBest_33 at h
  dsimp only at h
  refine lv_aload_n hx hb dX12_findBest_33 rfl (lv_at hl 0 rfl) ?_
  refine lv_iload_n hx hb dX12_findBest_34 rfl (lv_at hl 1 rfl) ?_
  refine lv_iload_n hx hb dX12_findBest_35 rfl (lv_at hl 2 rfl) ?_
  refine lv_iload hx hb dX12_findBest_36 (lv_at hl 4 rfl) ?_
  refine g_cz hw (g_rV [.int x1, .int x2, .int x4] [] C hw (m_X12_mayCome h) k_X12_mayCome q_RX12_194 ml_0 (ms_0 _ _) rfl rfl hl.1 rfl (Nat.le_of_ble_eq_true rfl) ⟨⟨rfl, rfl⟩, Nat.le_of_ble_eq_true rfl, Nat.le_of_ble_eq_true rfl⟩ ⟨Nat.zero_le _, Nat.zero_le _⟩ dX12_findBest_38) (fun r38 I38 J38 H locs z38 h hw => ?_)
  refine lv_if_eq (tgt := 64) hx hb dX12_findBest_41 (by decide) (fun c41 => ?_) (fun c41 => ?_)
  · have h := h.1 c41
    exact w_X12_findBest_64 C hL13 hL33 h hw (lv_sub hl [0, 1, 2, 3, 4] rfl)
  · have h := h.2 c41
    refine lv_aload_n hx hb dX12_findBest_44 rfl (lv_at hl 0 rfl) ?_
    refine lv_iload_n hx hb dX12_findBest_45 rfl (lv_at hl 1 rfl) ?_
    refine lv_iload hx hb dX12_findBest_46 (lv_at hl 4 rfl) ?_
    refine g_ci hw (g_rV [.int x1, .int x4] [] C hw (m_X12_bestWith h) k_X12_bestWith q_RX12_278 ml_0 (ms_0 _ _) rfl rfl hl.1 rfl (Nat.le_of_ble_eq_true rfl) ⟨⟨rfl, rfl⟩, Nat.le_of_ble_eq_true rfl, Nat.le_of_ble_eq_true rfl⟩ ⟨Nat.zero_le _, Nat.zero_le _⟩ dX12_findBest_48) (fun r48 I48 J48 H locs h hw => ?_)
    refine lv_aload_n hx hb dX12_findBest_51 rfl (lv_at hl 0 rfl) ?_
    refine g_get C hw f_RX12_84 ml_0 (ms_0 _ _) rfl dX12_findBest_52 ?_
    refine lv_iconst (v := 5) hx hb dX12_findBest_55 (by decide) ?_
    refine lv_iload_n hx hb dX12_findBest_56 rfl (lv_at hl 1 rfl) ?_
    refine lv_imul hx hb dX12_findBest_57 ?_
    refine lv_iload_n hx hb dX12_findBest_58 rfl (lv_at hl 2 rfl) ?_
    refine lv_iadd hx hb dX12_findBest_59 ?_
    refine g_iald C hw ml_25 ms_25 h.1 dX12_findBest_60 ?_
    have h := h.2
    refine lv_icmp_eq (tgt := 70) hx hb dX12_findBest_61 (by decide) (fun c61 => ?_) (fun c61 => ?_)
    · have h := h.1 c61
      refine lv_aload_n hx hb dX12_findBest_70 rfl (lv_at hl 0 rfl) ?_
      refine g_get C hw f_RX12_90 ml_0 (ms_0 _ _) rfl dX12_findBest_71 ?_
      refine lv_iload_n hx hb dX12_findBest_74 rfl (lv_at hl 3 rfl) ?_
      refine lv_iload hx hb dX12_findBest_75 (lv_at hl 4 rfl) ?_
      refine g_iast C hw ml_27 ms_27 h.1 dX12_findBest_77 (fun H locs hw => ?_)
      have h := h.2
      obtain ⟨I77, e77⟩ : ∃ z : MI, z = mI I48 27 x3.toNatClampNeg x4 := ⟨_, rfl⟩
      have h := h I77 e77
      rw [← e77] at hw
      refine lv_iinc (v := x3 + 1) (lv' := [(3, .int (x3 + 1)), (0, .ref (ad 0)), (1, .int x1), (2, .int x2), (4, .int x4)]) hx hb dX12_findBest_78 hl (k := 3) rfl rfl (by decide) rfl (fun ls hl => ?_)
      refine lv_iload_n hx hb dX12_findBest_81 rfl (lv_at hl 2 rfl) ?_
      refine lv_aload_n hx hb dX12_findBest_82 rfl (lv_at hl 1 rfl) ?_
      refine g_get C hw f_RX12_71 ml_0 (ms_0 _ _) rfl dX12_findBest_83 ?_
      refine lv_iload hx hb dX12_findBest_86 (lv_at hl 4 rfl) ?_
      refine g_iald C hw ml_21 ms_21 h.1 dX12_findBest_88 ?_
      have h := h.2
      refine lv_isub hx hb dX12_findBest_89 ?_
      refine lv_istore_n (lv' := [(1, .int (x1 - (I77 21 x4.toNatClampNeg))), (3, .int (x3 + 1)), (0, .ref (ad 0)), (2, .int x2), (4, .int x4)]) hx hb dX12_findBest_90 rfl hl (by decide) rfl (fun ls hl => ?_)
      refine lv_aload_n hx hb dX12_findBest_91 rfl (lv_at hl 2 rfl) ?_
      refine g_get C hw f_RX12_19 ml_0 (ms_0 _ _) rfl dX12_findBest_92 ?_
      refine lv_iload hx hb dX12_findBest_95 (lv_at hl 4 rfl) ?_
      refine g_iald C hw ml_4 ms_4 h.1 dX12_findBest_97 ?_
      have h := h.2
      refine lv_istore_n (lv' := [(2, .int (I77 4 x4.toNatClampNeg)), (1, .int (x1 - (I77 21 x4.toNatClampNeg))), (3, .int (x3 + 1)), (0, .ref (ad 0)), (4, .int x4)]) hx hb dX12_findBest_98 rfl hl (by decide) rfl (fun ls hl => ?_)
      refine lv_goto (tgt := 13) hx hb dX12_findBest_99 (by decide) ?_
      exact hL13 h hw (lv_sub hl [3, 1, 0, 2] rfl)
    · have h := h.2 c61
      exact w_X12_findBest_64 C hL13 hL33 h hw (lv_sub hl [0, 1, 2, 3, 4] rfl)
theorem wl_X12_findBest_33 {Q : Int32 → MI → MJ → Prop} (C : gC RX12 cX12_findBest 5 (some .int) 30 ad cy D mE p s m args meth c) {kL13 : Int32 × Int32 × Int32 × MI × MJ → Prop} (hL13 : ∀ {x1 : Int32} {x2 : Int32} {x3 : Int32} {I : MI} {J : MJ} {H : Heap} {locs : List Loc} {ls : Array Slot}, kL13 (x1, x2, x3, I, J) → gH (mS ad cy) 30 ad D s I J H locs → lv_has ls 5 [(0, .ref (ad 0)), (1, .int x1), (2, .int x2), (3, .int x3)] → W p l e rmX12_findBest s m args below meth c H locs 0 0 (MQ below (gQi (mS ad cy) 30 ad cy D mE Q) args s 0 0 (gA 30 ad)) (F0 m 13 ls [])) {x1 : Int32} {x2 : Int32} {x3 : Int32} {x4 : Int32} {I : MI} {J : MJ} {H : Heap} {locs : List Loc} {ls : Array Slot} (h : lpx (P_X12_findBest_33 Q kL13) (x1, x2, x3, x4, I, J)) (hw : gH (mS ad cy) 30 ad D s I J H locs) (hl : lv_has ls 5 [(0, .ref (ad 0)), (1, .int x1), (2, .int x2), (3, .int x3), (4, .int x4)]) : W p l e rmX12_findBest s m args below meth c H locs 0 0 (MQ below (gQi (mS ad cy) 30 ad cy D mE Q) args s 0 0 (gA 30 ad)) (F0 m 33 ls []) := by
  obtain ⟨n, h⟩ := h
  induction n generalizing x1 x2 x3 x4 I J H locs ls with
  | zero => exact False.elim h
  | succ n ih => exact w_X12_findBest_33 C hL13 (fun hk9 hw9 hl9 => ih hw9 hl9 hk9) h hw hl
set_option maxHeartbeats 4000000 in
set_option maxRecDepth 100000 in
theorem w_X12_findBest_13 {Q : Int32 → MI → MJ → Prop} (C : gC RX12 cX12_findBest 5 (some .int) 30 ad cy D mE p s m args meth c) {kL13 : Int32 × Int32 × Int32 × MI × MJ → Prop} (hL13 : ∀ {x1 : Int32} {x2 : Int32} {x3 : Int32} {I : MI} {J : MJ} {H : Heap} {locs : List Loc} {ls : Array Slot}, kL13 (x1, x2, x3, I, J) → gH (mS ad cy) 30 ad D s I J H locs → lv_has ls 5 [(0, .ref (ad 0)), (1, .int x1), (2, .int x2), (3, .int x3)] → W p l e rmX12_findBest s m args below meth c H locs 0 0 (MQ below (gQi (mS ad cy) 30 ad cy D mE Q) args s 0 0 (gA 30 ad)) (F0 m 13 ls [])) {x1 : Int32} {x2 : Int32} {x3 : Int32} {I : MI} {J : MJ} {H : Heap} {locs : List Loc} {ls : Array Slot} (h : P_X12_findBest_13 Q kL13 (x1, x2, x3, I, J)) (hw : gH (mS ad cy) 30 ad D s I J H locs) (hl : lv_has ls 5 [(0, .ref (ad 0)), (1, .int x1), (2, .int x2), (3, .int x3)]) : W p l e rmX12_findBest s m args below meth c H locs 0 0 (MQ below (gQi (mS ad cy) 30 ad cy D mE Q) args s 0 0 (gA 30 ad)) (F0 m 13 ls []) := by
  obtain ⟨hx, hb, hC⟩ := id C
  refine lv_iload_n hx hb dX12_findBest_13 rfl (lv_at hl 1 rfl) ?_
  refine lv_if_le (tgt := 102) hx hb dX12_findBest_14 (by decide) (fun c14 => ?_) (fun c14 => ?_)
  · have h := h.1 c14
    exact w_X12_findBest_102 C  h hw (lv_sub hl [3] rfl)
  · have h := h.2 c14
    refine lv_aload_n hx hb dX12_findBest_17 rfl (lv_at hl 0 rfl) ?_
    refine g_get C hw f_RX12_84 ml_0 (ms_0 _ _) rfl dX12_findBest_18 ?_
    refine lv_iconst (v := 5) hx hb dX12_findBest_21 (by decide) ?_
    refine lv_iload_n hx hb dX12_findBest_22 rfl (lv_at hl 1 rfl) ?_
    refine lv_imul hx hb dX12_findBest_23 ?_
    refine lv_iload_n hx hb dX12_findBest_24 rfl (lv_at hl 2 rfl) ?_
    refine lv_iadd hx hb dX12_findBest_25 ?_
    refine g_iald C hw ml_25 ms_25 h.1 dX12_findBest_26 ?_
    have h := h.2
    refine lv_if_lt (tgt := 102) hx hb dX12_findBest_27 (by decide) (fun c27 => ?_) (fun c27 => ?_)
    · have h := h.1 c27
      exact w_X12_findBest_102 C  h hw (lv_sub hl [3] rfl)
    · have h := h.2 c27
      refine lv_iconst (v := 0) hx hb dX12_findBest_30 (by decide) ?_
      refine lv_istore (lv' := [(4, .int (0 : Int32)), (0, .ref (ad 0)), (1, .int x1), (2, .int x2), (3, .int x3)]) hx hb dX12_findBest_31 hl (by decide) rfl (fun ls hl => ?_)
      exact wl_X12_findBest_33 C hL13 h hw (lv_sub hl [1, 2, 3, 4, 0] rfl)
theorem wl_X12_findBest_13 {Q : Int32 → MI → MJ → Prop} (C : gC RX12 cX12_findBest 5 (some .int) 30 ad cy D mE p s m args meth c) {x1 : Int32} {x2 : Int32} {x3 : Int32} {I : MI} {J : MJ} {H : Heap} {locs : List Loc} {ls : Array Slot} (h : lpx (P_X12_findBest_13 Q) (x1, x2, x3, I, J)) (hw : gH (mS ad cy) 30 ad D s I J H locs) (hl : lv_has ls 5 [(0, .ref (ad 0)), (1, .int x1), (2, .int x2), (3, .int x3)]) : W p l e rmX12_findBest s m args below meth c H locs 0 0 (MQ below (gQi (mS ad cy) 30 ad cy D mE Q) args s 0 0 (gA 30 ad)) (F0 m 13 ls []) := by
  obtain ⟨n, h⟩ := h
  induction n generalizing x1 x2 x3 I J H locs ls with
  | zero => exact False.elim h
  | succ n ih => exact w_X12_findBest_13 C  (fun hk9 hw9 hl9 => ih hw9 hl9 hk9) h hw hl
set_option maxHeartbeats 4000000 in
set_option maxRecDepth 100000 in
theorem w_X12_findBest {Q : Int32 → MI → MJ → Prop} (C : gC RX12 cX12_findBest 5 (some .int) 30 ad cy D mE p s m args meth c) {I : MI} {J : MJ} {H : Heap} {locs : List Loc} {ls : Array Slot} (h : P_X12_findBest I J Q) (hw : gH (mS ad cy) 30 ad D s I J H locs) (hl : lv_has ls 5 [(0, .ref (ad 0))]) : W p l e rmX12_findBest s m args below meth c H locs 0 0 (MQ below (gQi (mS ad cy) 30 ad cy D mE Q) args s 0 0 (gA 30 ad)) (F0 m 0 ls []) := by
  obtain ⟨hx, hb, hC⟩ := id C
  refine lv_aload_n hx hb dX12_findBest_0 rfl (lv_at hl 0 rfl) ?_
  refine g_cv hw (g_rV [] [] C hw (m_X12_layBest h) k_X12_layBest q_RX12_282 ml_0 (ms_0 _ _) rfl rfl hl.1 rfl (Nat.le_of_ble_eq_true rfl) ⟨⟨rfl, rfl⟩, Nat.le_of_ble_eq_true rfl, Nat.le_of_ble_eq_true rfl⟩ ⟨Nat.zero_le _, Nat.zero_le _⟩ dX12_findBest_1) (fun I1 J1 H locs h hw => ?_)
  refine lv_aload_n hx hb dX12_findBest_4 rfl (lv_at hl 0 rfl) ?_
  refine g_get C hw f_RX12_188 ml_0 (ms_0 _ _) rfl dX12_findBest_5 ?_
  refine lv_istore_n (lv' := [(1, .int (I1 0 31)), (0, .ref (ad 0))]) hx hb dX12_findBest_8 rfl hl (by decide) rfl (fun ls hl => ?_)
  refine lv_iconst (v := 4) hx hb dX12_findBest_9 (by decide) ?_
  refine lv_istore_n (lv' := [(2, .int (4 : Int32)), (1, .int (I1 0 31)), (0, .ref (ad 0))]) hx hb dX12_findBest_10 rfl hl (by decide) rfl (fun ls hl => ?_)
  refine lv_iconst (v := 0) hx hb dX12_findBest_11 (by decide) ?_
  refine lv_istore_n (lv' := [(3, .int (0 : Int32)), (2, .int (4 : Int32)), (1, .int (I1 0 31)), (0, .ref (ad 0))]) hx hb dX12_findBest_12 rfl hl (by decide) rfl (fun ls hl => ?_)
  exact wl_X12_findBest_13 C  h hw (lv_sub hl [3, 2, 1, 0] rfl)
theorem m_X12_findBest {l : Launch} {Q : Int32 → MI → MJ → Prop} {I : MI} {J : MJ} (h : P_X12_findBest I J Q) : Met l yX12_findBest (xws yX12_findBest cX12_findBest 5 (some .int)) rmX12_findBest (va_Pc [.ref (ad 0)] (gB (mS ad cy) 30 ad cy D mE I J)) (gQi (mS ad cy) 30 ad cy D mE Q) 0 0 (gA 30 ad) :=
  g_met (mE_ok ad) rfl (by decide) (Nat.le_of_ble_eq_true rfl) (fun p e s m below meth c ls C hw hl => w_X12_findBest C  h hw hl)
/-! BagPhrasesModel.worthOf(I)I -/
def P_X12_worthOf_4 (Q : Int32 → MI → MJ → Prop) (kL4 : Int32 × Int32 × Int32 × MI × MJ → Prop) : Int32 × Int32 × Int32 × MI × MJ → Prop := fun z => match z with
  | (x1, x2, x3, I, J) => ((x1 ≤ x3 → Q x2 I J) ∧ (¬ x1 ≤ x3 → vp_in x3 12 ∧ (vp_in ((9 : Int32) + (I 27 x3.toNatClampNeg)) 25 ∧ (kL4 (x1, (x2 + (I 19 ((9 : Int32) + (I 27 x3.toNatClampNeg)).toNatClampNeg)), (x3 + 1), I, J)))))
def P_X12_worthOf (a0 : Int32) (I : MI) (J : MJ) (Q : Int32 → MI → MJ → Prop) : Prop :=
  lpx (P_X12_worthOf_4 Q) (a0, (0 : Int32), (0 : Int32), I, J)
abbrev rmX12_worthOf : Room := { frames := 0, cells := 0, slots := 0, locals := 0 }
set_option maxHeartbeats 4000000 in
set_option maxRecDepth 100000 in
theorem w_X12_worthOf_4 {Q : Int32 → MI → MJ → Prop} (C : gC RX12 cX12_worthOf 4 (some .int) 30 ad cy D mE p s m args meth c) {kL4 : Int32 × Int32 × Int32 × MI × MJ → Prop} (hL4 : ∀ {x1 : Int32} {x2 : Int32} {x3 : Int32} {I : MI} {J : MJ} {H : Heap} {locs : List Loc} {ls : Array Slot}, kL4 (x1, x2, x3, I, J) → gH (mS ad cy) 30 ad D s I J H locs → lv_has ls 4 [(0, .ref (ad 0)), (1, .int x1), (2, .int x2), (3, .int x3)] → W p l e rmX12_worthOf s m args below meth c H locs 0 0 (MQ below (gQi (mS ad cy) 30 ad cy D mE Q) args s 0 0 (gA 30 ad)) (F0 m 4 ls [])) {x1 : Int32} {x2 : Int32} {x3 : Int32} {I : MI} {J : MJ} {H : Heap} {locs : List Loc} {ls : Array Slot} (h : P_X12_worthOf_4 Q kL4 (x1, x2, x3, I, J)) (hw : gH (mS ad cy) 30 ad D s I J H locs) (hl : lv_has ls 4 [(0, .ref (ad 0)), (1, .int x1), (2, .int x2), (3, .int x3)]) : W p l e rmX12_worthOf s m args below meth c H locs 0 0 (MQ below (gQi (mS ad cy) 30 ad cy D mE Q) args s 0 0 (gA 30 ad)) (F0 m 4 ls []) := by
  obtain ⟨hx, hb, hC⟩ := id C
  refine lv_iload_n hx hb dX12_worthOf_4 rfl (lv_at hl 3 rfl) ?_
  refine lv_iload_n hx hb dX12_worthOf_5 rfl (lv_at hl 1 rfl) ?_
  refine lv_icmp_ge (tgt := 32) hx hb dX12_worthOf_6 (by decide) (fun c6 => ?_) (fun c6 => ?_)
  · have h := h.1 c6
    refine lv_iload_n hx hb dX12_worthOf_32 rfl (lv_at hl 2 rfl) ?_
    exact g_iret C hw h dX12_worthOf_33
  · have h := h.2 c6
    refine lv_iload_n hx hb dX12_worthOf_9 rfl (lv_at hl 2 rfl) ?_
    refine lv_aload_n hx hb dX12_worthOf_10 rfl (lv_at hl 0 rfl) ?_
    refine g_get C hw f_RX12_65 ml_0 (ms_0 _ _) rfl dX12_worthOf_11 ?_
    refine lv_bipush (v := 9) hx hb dX12_worthOf_14 (by decide) ?_
    refine lv_aload_n hx hb dX12_worthOf_16 rfl (lv_at hl 0 rfl) ?_
    refine g_get C hw f_RX12_90 ml_0 (ms_0 _ _) rfl dX12_worthOf_17 ?_
    refine lv_iload_n hx hb dX12_worthOf_20 rfl (lv_at hl 3 rfl) ?_
    refine g_iald C hw ml_27 ms_27 h.1 dX12_worthOf_21 ?_
    have h := h.2
    refine lv_iadd hx hb dX12_worthOf_22 ?_
    refine g_iald C hw ml_19 ms_19 h.1 dX12_worthOf_23 ?_
    have h := h.2
    refine lv_iadd hx hb dX12_worthOf_24 ?_
    refine lv_istore_n (lv' := [(2, .int (x2 + (I 19 ((9 : Int32) + (I 27 x3.toNatClampNeg)).toNatClampNeg))), (0, .ref (ad 0)), (1, .int x1), (3, .int x3)]) hx hb dX12_worthOf_25 rfl hl (by decide) rfl (fun ls hl => ?_)
    refine lv_iinc (v := x3 + 1) (lv' := [(3, .int (x3 + 1)), (2, .int (x2 + (I 19 ((9 : Int32) + (I 27 x3.toNatClampNeg)).toNatClampNeg))), (0, .ref (ad 0)), (1, .int x1)]) hx hb dX12_worthOf_26 hl (k := 3) rfl rfl (by decide) rfl (fun ls hl => ?_)
    refine lv_goto (tgt := 4) hx hb dX12_worthOf_29 (by decide) ?_
    exact hL4 h hw (lv_sub hl [2, 3, 1, 0] rfl)
theorem wl_X12_worthOf_4 {Q : Int32 → MI → MJ → Prop} (C : gC RX12 cX12_worthOf 4 (some .int) 30 ad cy D mE p s m args meth c) {x1 : Int32} {x2 : Int32} {x3 : Int32} {I : MI} {J : MJ} {H : Heap} {locs : List Loc} {ls : Array Slot} (h : lpx (P_X12_worthOf_4 Q) (x1, x2, x3, I, J)) (hw : gH (mS ad cy) 30 ad D s I J H locs) (hl : lv_has ls 4 [(0, .ref (ad 0)), (1, .int x1), (2, .int x2), (3, .int x3)]) : W p l e rmX12_worthOf s m args below meth c H locs 0 0 (MQ below (gQi (mS ad cy) 30 ad cy D mE Q) args s 0 0 (gA 30 ad)) (F0 m 4 ls []) := by
  obtain ⟨n, h⟩ := h
  induction n generalizing x1 x2 x3 I J H locs ls with
  | zero => exact False.elim h
  | succ n ih => exact w_X12_worthOf_4 C  (fun hk9 hw9 hl9 => ih hw9 hl9 hk9) h hw hl
set_option maxHeartbeats 4000000 in
set_option maxRecDepth 100000 in
theorem w_X12_worthOf {Q : Int32 → MI → MJ → Prop} (C : gC RX12 cX12_worthOf 4 (some .int) 30 ad cy D mE p s m args meth c) {a0 : Int32} {I : MI} {J : MJ} {H : Heap} {locs : List Loc} {ls : Array Slot} (h : P_X12_worthOf a0 I J Q) (hw : gH (mS ad cy) 30 ad D s I J H locs) (hl : lv_has ls 4 [(0, .ref (ad 0)), (1, .int a0)]) : W p l e rmX12_worthOf s m args below meth c H locs 0 0 (MQ below (gQi (mS ad cy) 30 ad cy D mE Q) args s 0 0 (gA 30 ad)) (F0 m 0 ls []) := by
  obtain ⟨hx, hb, hC⟩ := id C
  refine lv_iconst (v := 0) hx hb dX12_worthOf_0 (by decide) ?_
  refine lv_istore_n (lv' := [(2, .int (0 : Int32)), (0, .ref (ad 0)), (1, .int a0)]) hx hb dX12_worthOf_1 rfl hl (by decide) rfl (fun ls hl => ?_)
  refine lv_iconst (v := 0) hx hb dX12_worthOf_2 (by decide) ?_
  refine lv_istore_n (lv' := [(3, .int (0 : Int32)), (2, .int (0 : Int32)), (0, .ref (ad 0)), (1, .int a0)]) hx hb dX12_worthOf_3 rfl hl (by decide) rfl (fun ls hl => ?_)
  exact wl_X12_worthOf_4 C  h hw (lv_sub hl [2, 3, 1, 0] rfl)
theorem m_X12_worthOf {l : Launch} {a0 : Int32} {Q : Int32 → MI → MJ → Prop} {I : MI} {J : MJ} (h : P_X12_worthOf a0 I J Q) : Met l yX12_worthOf (xws yX12_worthOf cX12_worthOf 4 (some .int)) rmX12_worthOf (va_Pc [.ref (ad 0), .int a0] (gB (mS ad cy) 30 ad cy D mE I J)) (gQi (mS ad cy) 30 ad cy D mE Q) 0 0 (gA 30 ad) :=
  g_met (mE_ok ad) rfl (by decide) (Nat.le_of_ble_eq_true rfl) (fun p e s m below meth c ls C hw hl => w_X12_worthOf C  h hw hl)
/-! BagPhrasesModel.best(I)I -/
def P_X12_best (a0 : Int32) (I : MI) (J : MJ) (Q : Int32 → MI → MJ → Prop) : Prop :=
  P_X12_in a0.toInt64 (0 : Int64) (13 : Int64) I J (fun r6 I6 J6 => ((¬ r6 = 0 → P_X12_look 6 I6 J6 (fun I20 J20 => P_X12_findBest I20 J20 (fun r24 I24 J24 => ((r24 = (-9 : Int32) → Q (-9 : Int32) I24 J24) ∧ (¬ r24 = (-9 : Int32) → ((a0 < (r24 + (2 : Int32)) → ((¬ a0 = 0 → ((¬ a0 = (1 : Int32) → vp_in (a0 - (2 : Int32)) 12 ∧ (Q (I24 27 (a0 - (2 : Int32)).toNatClampNeg) I24 J24)) ∧ (a0 = (1 : Int32) → Q r24 I24 J24))) ∧ (a0 = 0 → P_X12_worthOf r24 I24 J24 (fun r50 I50 J50 => Q r50 I50 J50)))) ∧ (¬ a0 < (r24 + (2 : Int32)) → Q (-9 : Int32) I24 J24))))))) ∧ (r6 = 0 → Q (-2 : Int32) I6 J6)))
abbrev rmX12_best : Room := { frames := 4, cells := 0, slots := 0, locals := 92 }
set_option maxHeartbeats 4000000 in
set_option maxRecDepth 100000 in
theorem w_X12_best {Q : Int32 → MI → MJ → Prop} (C : gC RX12 cX12_best 3 (some .int) 30 ad cy D mE p s m args meth c) {a0 : Int32} {I : MI} {J : MJ} {H : Heap} {locs : List Loc} {ls : Array Slot} (h : P_X12_best a0 I J Q) (hw : gH (mS ad cy) 30 ad D s I J H locs) (hl : lv_has ls 3 [(0, .ref (ad 0)), (1, .int a0)]) : W p l e rmX12_best s m args below meth c H locs 0 0 (MQ below (gQi (mS ad cy) 30 ad cy D mE Q) args s 0 0 (gA 30 ad)) (F0 m 0 ls []) := by
  obtain ⟨hx, hb, hC⟩ := id C
  refine lv_iload_n hx hb dX12_best_0 rfl (lv_at hl 1 rfl) ?_
  refine lv_i2l hx hb dX12_best_1 rfl ?_
  refine lv_lconst (v := 0) hx hb dX12_best_2 (by decide) ?_
  refine lv_ldc2 (v := (13)) hx hb hC.2.2.1 (hC.2.2.2.1 _ q_RX12_285) dX12_best_3 ?_
  refine g_cz hw (g_rS [.long a0.toInt64, .long (0 : Int64), .long (13 : Int64)] [] C hw (m_X12_in h) k_X12_in q_RX12_107 rfl hl.1 rfl (Nat.le_of_ble_eq_true rfl) ⟨⟨rfl, rfl⟩, Nat.le_of_ble_eq_true rfl, Nat.le_of_ble_eq_true rfl⟩ ⟨Nat.zero_le _, Nat.zero_le _⟩ dX12_best_6) (fun r6 I6 J6 H locs z6 h hw => ?_)
  refine lv_if_ne (tgt := 15) hx hb dX12_best_9 (by decide) (fun c9 => ?_) (fun c9 => ?_)
  · have h := h.1 c9
    refine lv_aload_n hx hb dX12_best_15 rfl (lv_at hl 0 rfl) ?_
    refine lv_aload_n hx hb dX12_best_16 rfl (lv_at hl 0 rfl) ?_
    refine g_get C hw f_RX12_25 ml_0 (ms_0 _ _) rfl dX12_best_17 ?_
    refine g_cv hw (g_rV [.ref (ad 6)] [] C hw (m_X12_look isRow_6 h) k_X12_look q_RX12_202 ml_0 (ms_0 _ _) rfl rfl hl.1 rfl (Nat.le_of_ble_eq_true rfl) ⟨⟨rfl, rfl⟩, Nat.le_of_ble_eq_true rfl, Nat.le_of_ble_eq_true rfl⟩ ⟨Nat.zero_le _, Nat.zero_le _⟩ dX12_best_20) (fun I20 J20 H locs h hw => ?_)
    refine lv_aload_n hx hb dX12_best_23 rfl (lv_at hl 0 rfl) ?_
    refine g_ci hw (g_rV [] [] C hw (m_X12_findBest h) k_X12_findBest q_RX12_287 ml_0 (ms_0 _ _) rfl rfl hl.1 rfl (Nat.le_of_ble_eq_true rfl) ⟨⟨rfl, rfl⟩, Nat.le_of_ble_eq_true rfl, Nat.le_of_ble_eq_true rfl⟩ ⟨Nat.zero_le _, Nat.zero_le _⟩ dX12_best_24) (fun r24 I24 J24 H locs h hw => ?_)
    refine lv_istore_n (lv' := [(2, .int r24), (0, .ref (ad 0)), (1, .int a0)]) hx hb dX12_best_27 rfl hl (by decide) rfl (fun ls hl => ?_)
    refine lv_iload_n hx hb dX12_best_28 rfl (lv_at hl 0 rfl) ?_
    refine lv_bipush (v := -9) hx hb dX12_best_29 (by decide) ?_
    refine lv_icmp_eq (tgt := 41) hx hb dX12_best_31 (by decide) (fun c31 => ?_) (fun c31 => ?_)
    · have h := h.1 c31
      refine lv_bipush (v := -9) hx hb dX12_best_41 (by decide) ?_
      exact g_iret C hw h dX12_best_43
    · have h := h.2 c31
      refine lv_iload_n hx hb dX12_best_34 rfl (lv_at hl 2 rfl) ?_
      refine lv_iload_n hx hb dX12_best_35 rfl (lv_at hl 0 rfl) ?_
      refine lv_iconst (v := 2) hx hb dX12_best_36 (by decide) ?_
      refine lv_iadd hx hb dX12_best_37 ?_
      refine lv_icmp_lt (tgt := 44) hx hb dX12_best_38 (by decide) (fun c38 => ?_) (fun c38 => ?_)
      · have h := h.1 c38
        refine lv_iload_n hx hb dX12_best_44 rfl (lv_at hl 2 rfl) ?_
        refine lv_if_ne (tgt := 56) hx hb dX12_best_45 (by decide) (fun c45 => ?_) (fun c45 => ?_)
        · have h := h.1 c45
          refine lv_iload_n hx hb dX12_best_56 rfl (lv_at hl 2 rfl) ?_
          refine lv_iconst (v := 1) hx hb dX12_best_57 (by decide) ?_
          refine lv_icmp_ne (tgt := 65) hx hb dX12_best_58 (by decide) (fun c58 => ?_) (fun c58 => ?_)
          · have h := h.1 c58
            refine lv_aload_n hx hb dX12_best_65 rfl (lv_at hl 1 rfl) ?_
            refine g_get C hw f_RX12_90 ml_0 (ms_0 _ _) rfl dX12_best_66 ?_
            refine lv_iload_n hx hb dX12_best_69 rfl (lv_at hl 2 rfl) ?_
            refine lv_iconst (v := 2) hx hb dX12_best_70 (by decide) ?_
            refine lv_isub hx hb dX12_best_71 ?_
            refine g_iald C hw ml_27 ms_27 h.1 dX12_best_72 ?_
            have h := h.2
            exact g_iret C hw h dX12_best_73
          · have h := h.2 c58
            refine lv_iload_n hx hb dX12_best_61 rfl (lv_at hl 0 rfl) ?_
            refine lv_goto (tgt := 73) hx hb dX12_best_62 (by decide) ?_
            exact g_iret C hw h dX12_best_73
        · have h := h.2 c45
          refine lv_aload_n hx hb dX12_best_48 rfl (lv_at hl 1 rfl) ?_
          refine lv_iload_n hx hb dX12_best_49 rfl (lv_at hl 0 rfl) ?_
          refine g_ci hw (g_rV [.int r24] [] C hw (m_X12_worthOf h) k_X12_worthOf q_RX12_290 ml_0 (ms_0 _ _) rfl rfl hl.1 rfl (Nat.le_of_ble_eq_true rfl) ⟨⟨rfl, rfl⟩, Nat.le_of_ble_eq_true rfl, Nat.le_of_ble_eq_true rfl⟩ ⟨Nat.zero_le _, Nat.zero_le _⟩ dX12_best_50) (fun r50 I50 J50 H locs h hw => ?_)
          refine lv_goto (tgt := 73) hx hb dX12_best_53 (by decide) ?_
          exact g_iret C hw h dX12_best_73
      · have h := h.2 c38
        refine lv_bipush (v := -9) hx hb dX12_best_41 (by decide) ?_
        exact g_iret C hw h dX12_best_43
  · have h := h.2 c9
    refine lv_bipush (v := -2) hx hb dX12_best_12 (by decide) ?_
    exact g_iret C hw h dX12_best_14
theorem m_X12_best {l : Launch} {a0 : Int32} {Q : Int32 → MI → MJ → Prop} {I : MI} {J : MJ} (h : P_X12_best a0 I J Q) : Met l yX12_best (xws yX12_best cX12_best 3 (some .int)) rmX12_best (va_Pc [.ref (ad 0), .int a0] (gB (mS ad cy) 30 ad cy D mE I J)) (gQi (mS ad cy) 30 ad cy D mE Q) 0 0 (gA 30 ad) :=
  g_met (mE_ok ad) rfl (by decide) (Nat.le_of_ble_eq_true rfl) (fun p e s m below meth c ls C hw hl => w_X12_best C  h hw hl)
/-! BagPhrasesModel.find(J)I -/
def P_X12_find_62 (Q : Int32 → MI → MJ → Prop) (kL14 : Int64 × Int32 × Int32 × Int32 × MI × MJ → Prop) (kL25 : Int64 × Int32 × Int32 × Int32 × Int32 × Int64 × MI × MJ → Prop) (x3 : Int64) (x5 : Int32) (x6 : Int32) (x7 : Int32) (x8 : Int32) (s0 : Int64) (I : MI) (J : MJ) : Prop :=
  ((s0 ≤ x3 → kL25 (x3, x5, x6, x7, x8, s0, I, J)) ∧ (¬ s0 ≤ x3 → vp_in x7 12 ∧ (∀ I79 : MI, I79 = mI I 27 x7.toNatClampNeg x8 → vp_in x8 10 ∧ (vp_in x8 10 ∧ (kL14 (x3, (x5 - (I79 21 x8.toNatClampNeg)), (I79 4 x8.toNatClampNeg), (x7 + 1), I79, J))))))
def P_X12_find_25 (Q : Int32 → MI → MJ → Prop) (kL14 : Int64 × Int32 × Int32 × Int32 × MI × MJ → Prop) (kL25 : Int64 × Int32 × Int32 × Int32 × Int32 × Int64 × MI × MJ → Prop) : Int64 × Int32 × Int32 × Int32 × Int32 × Int64 × MI × MJ → Prop := fun z => match z with
  | (x3, x5, x6, x7, x8, x9, I, J) => P_X12_mayCome x5 x6 (x8 + 1) I J (fun r40 I40 J40 => ((r40 = 0 → P_X12_find_62 Q kL14 kL25 (x3 - x9) x5 x6 x7 (x8 + 1) (0 : Int64) I40 J40) ∧ (¬ r40 = 0 → P_X12_endsAs x5 (x8 + 1) I40 J40 (fun r55 I55 J55 => P_X12_find_62 Q kL14 kL25 (x3 - x9) x5 x6 x7 (x8 + 1) r55 I55 J55))))
def P_X12_find_14 (Q : Int32 → MI → MJ → Prop) (kL14 : Int64 × Int32 × Int32 × Int32 × MI × MJ → Prop) : Int64 × Int32 × Int32 × Int32 × MI × MJ → Prop := fun z => match z with
  | (x3, x5, x6, x7, I, J) => ((x5 ≤ 0 → Q x7 I J) ∧ (¬ x5 ≤ 0 → lpx (P_X12_find_25 Q kL14) (x3, x5, x6, x7, (-1 : Int32), (0 : Int64), I, J)))
def P_X12_find (a0 : Int64) (I : MI) (J : MJ) (Q : Int32 → MI → MJ → Prop) : Prop :=
  lpx (P_X12_find_14 Q) (a0, (I 0 31), (4 : Int32), (0 : Int32), I, J)
abbrev rmX12_find : Room := { frames := 2, cells := 0, slots := 0, locals := 45 }
set_option maxHeartbeats 4000000 in
set_option maxRecDepth 100000 in
theorem w_X12_find_62 {Q : Int32 → MI → MJ → Prop} (C : gC RX12 cX12_find 11 (some .int) 30 ad cy D mE p s m args meth c) {kL14 : Int64 × Int32 × Int32 × Int32 × MI × MJ → Prop} (hL14 : ∀ {x3 : Int64} {x5 : Int32} {x6 : Int32} {x7 : Int32} {I : MI} {J : MJ} {H : Heap} {locs : List Loc} {ls : Array Slot}, kL14 (x3, x5, x6, x7, I, J) → gH (mS ad cy) 30 ad D s I J H locs → lv_has ls 11 [(0, .ref (ad 0)), (3, .long x3), (5, .int x5), (6, .int x6), (7, .int x7)] → W p l e rmX12_find s m args below meth c H locs 0 0 (MQ below (gQi (mS ad cy) 30 ad cy D mE Q) args s 0 0 (gA 30 ad)) (F0 m 14 ls [])) {kL25 : Int64 × Int32 × Int32 × Int32 × Int32 × Int64 × MI × MJ → Prop} (hL25 : ∀ {x3 : Int64} {x5 : Int32} {x6 : Int32} {x7 : Int32} {x8 : Int32} {x9 : Int64} {I : MI} {J : MJ} {H : Heap} {locs : List Loc} {ls : Array Slot}, kL25 (x3, x5, x6, x7, x8, x9, I, J) → gH (mS ad cy) 30 ad D s I J H locs → lv_has ls 11 [(0, .ref (ad 0)), (3, .long x3), (5, .int x5), (6, .int x6), (7, .int x7), (8, .int x8), (9, .long x9)] → W p l e rmX12_find s m args below meth c H locs 0 0 (MQ below (gQi (mS ad cy) 30 ad cy D mE Q) args s 0 0 (gA 30 ad)) (F0 m 25 ls [])) {x3 : Int64} {x5 : Int32} {x6 : Int32} {x7 : Int32} {x8 : Int32} {s0 : Int64} {I : MI} {J : MJ} {H : Heap} {locs : List Loc} {ls : Array Slot} (h : P_X12_find_62 Q kL14 kL25 x3 x5 x6 x7 x8 s0 I J) (hw : gH (mS ad cy) 30 ad D s I J H locs) (hl : lv_has ls 11 [(0, .ref (ad 0)), (3, .long x3), (5, .int x5), (6, .int x6), (7, .int x7), (8, .int x8)]) : W p l e rmX12_find s m args below meth c H locs 0 0 (MQ below (gQi (mS ad cy) 30 ad cy D mE Q) args s 0 0 (gA 30 ad)) (F0 m 62 ls [.long s0]) := by
  obtain ⟨hx, hb, hC⟩ := id C
  refine lv_lstore (lv' := [(9, .long s0), (0, .ref (ad 0)), (3, .long x3), (5, .int x5), (6, .int x6), (7, .int x7), (8, .int x8)]) hx hb dX12_find_62 hl (by decide) rfl (fun ls hl => ?_)
  refine lv_lload_n hx hb dX12_find_64 rfl (lv_at hl 2 rfl) ?_
  refine lv_lload hx hb dX12_find_65 (lv_at hl 0 rfl) ?_
  refine g_lcmp_ge (tgt := 25) hx hb dX12_find_67 dX12_find_68 (by decide) (fun c67 => ?_) (fun c67 => ?_)
  · have h := h.1 c67
    exact hL25 h hw (lv_sub hl [1, 2, 3, 4, 5, 6, 0] rfl)
  · have h := h.2 c67
    refine lv_aload_n hx hb dX12_find_71 rfl (lv_at hl 1 rfl) ?_
    refine g_get C hw f_RX12_90 ml_0 (ms_0 _ _) rfl dX12_find_72 ?_
    refine lv_iload hx hb dX12_find_75 (lv_at hl 5 rfl) ?_
    refine lv_iload hx hb dX12_find_77 (lv_at hl 6 rfl) ?_
    refine g_iast C hw ml_27 ms_27 h.1 dX12_find_79 (fun H locs hw => ?_)
    have h := h.2
    obtain ⟨I79, e79⟩ : ∃ z : MI, z = mI I 27 x7.toNatClampNeg x8 := ⟨_, rfl⟩
    have h := h I79 e79
    rw [← e79] at hw
    refine lv_iinc (v := x7 + 1) (lv' := [(7, .int (x7 + 1)), (9, .long s0), (0, .ref (ad 0)), (3, .long x3), (5, .int x5), (6, .int x6), (8, .int x8)]) hx hb dX12_find_80 hl (k := 5) rfl rfl (by decide) rfl (fun ls hl => ?_)
    refine lv_iload hx hb dX12_find_83 (lv_at hl 4 rfl) ?_
    refine lv_aload_n hx hb dX12_find_85 rfl (lv_at hl 2 rfl) ?_
    refine g_get C hw f_RX12_71 ml_0 (ms_0 _ _) rfl dX12_find_86 ?_
    refine lv_iload hx hb dX12_find_89 (lv_at hl 6 rfl) ?_
    refine g_iald C hw ml_21 ms_21 h.1 dX12_find_91 ?_
    have h := h.2
    refine lv_isub hx hb dX12_find_92 ?_
    refine lv_istore (lv' := [(5, .int (x5 - (I79 21 x8.toNatClampNeg))), (7, .int (x7 + 1)), (9, .long s0), (0, .ref (ad 0)), (3, .long x3), (6, .int x6), (8, .int x8)]) hx hb dX12_find_93 hl (by decide) rfl (fun ls hl => ?_)
    refine lv_aload_n hx hb dX12_find_95 rfl (lv_at hl 3 rfl) ?_
    refine g_get C hw f_RX12_19 ml_0 (ms_0 _ _) rfl dX12_find_96 ?_
    refine lv_iload hx hb dX12_find_99 (lv_at hl 6 rfl) ?_
    refine g_iald C hw ml_4 ms_4 h.1 dX12_find_101 ?_
    have h := h.2
    refine lv_istore (lv' := [(6, .int (I79 4 x8.toNatClampNeg)), (5, .int (x5 - (I79 21 x8.toNatClampNeg))), (7, .int (x7 + 1)), (9, .long s0), (0, .ref (ad 0)), (3, .long x3), (8, .int x8)]) hx hb dX12_find_102 hl (by decide) rfl (fun ls hl => ?_)
    refine lv_goto (tgt := 14) hx hb dX12_find_104 (by decide) ?_
    exact hL14 h hw (lv_sub hl [4, 5, 1, 0, 2] rfl)
set_option maxHeartbeats 4000000 in
set_option maxRecDepth 100000 in
theorem w_X12_find_25 {Q : Int32 → MI → MJ → Prop} (C : gC RX12 cX12_find 11 (some .int) 30 ad cy D mE p s m args meth c) {kL14 : Int64 × Int32 × Int32 × Int32 × MI × MJ → Prop} (hL14 : ∀ {x3 : Int64} {x5 : Int32} {x6 : Int32} {x7 : Int32} {I : MI} {J : MJ} {H : Heap} {locs : List Loc} {ls : Array Slot}, kL14 (x3, x5, x6, x7, I, J) → gH (mS ad cy) 30 ad D s I J H locs → lv_has ls 11 [(0, .ref (ad 0)), (3, .long x3), (5, .int x5), (6, .int x6), (7, .int x7)] → W p l e rmX12_find s m args below meth c H locs 0 0 (MQ below (gQi (mS ad cy) 30 ad cy D mE Q) args s 0 0 (gA 30 ad)) (F0 m 14 ls [])) {kL25 : Int64 × Int32 × Int32 × Int32 × Int32 × Int64 × MI × MJ → Prop} (hL25 : ∀ {x3 : Int64} {x5 : Int32} {x6 : Int32} {x7 : Int32} {x8 : Int32} {x9 : Int64} {I : MI} {J : MJ} {H : Heap} {locs : List Loc} {ls : Array Slot}, kL25 (x3, x5, x6, x7, x8, x9, I, J) → gH (mS ad cy) 30 ad D s I J H locs → lv_has ls 11 [(0, .ref (ad 0)), (3, .long x3), (5, .int x5), (6, .int x6), (7, .int x7), (8, .int x8), (9, .long x9)] → W p l e rmX12_find s m args below meth c H locs 0 0 (MQ below (gQi (mS ad cy) 30 ad cy D mE Q) args s 0 0 (gA 30 ad)) (F0 m 25 ls [])) {x3 : Int64} {x5 : Int32} {x6 : Int32} {x7 : Int32} {x8 : Int32} {x9 : Int64} {I : MI} {J : MJ} {H : Heap} {locs : List Loc} {ls : Array Slot} (h : P_X12_find_25 Q kL14 kL25 (x3, x5, x6, x7, x8, x9, I, J)) (hw : gH (mS ad cy) 30 ad D s I J H locs) (hl : lv_has ls 11 [(0, .ref (ad 0)), (3, .long x3), (5, .int x5), (6, .int x6), (7, .int x7), (8, .int x8), (9, .long x9)]) : W p l e rmX12_find s m args below meth c H locs 0 0 (MQ below (gQi (mS ad cy) 30 ad cy D mE Q) args s 0 0 (gA 30 ad)) (F0 m 25 ls []) := by
  obtain ⟨hx, hb, hC⟩ := id C
  unfold P_X12_find_25 at h
  dsimp only at h
  refine lv_lload_n hx hb dX12_find_25 rfl (lv_at hl 1 rfl) ?_
  refine lv_lload hx hb dX12_find_26 (lv_at hl 6 rfl) ?_
  refine lv_lsub hx hb dX12_find_28 ?_
  refine lv_lstore_n (lv' := [(3, .long (x3 - x9)), (0, .ref (ad 0)), (5, .int x5), (6, .int x6), (7, .int x7), (8, .int x8), (9, .long x9)]) hx hb dX12_find_29 rfl hl (by decide) rfl (fun ls hl => ?_)
  refine lv_iinc (v := x8 + 1) (lv' := [(8, .int (x8 + 1)), (3, .long (x3 - x9)), (0, .ref (ad 0)), (5, .int x5), (6, .int x6), (7, .int x7), (9, .long x9)]) hx hb dX12_find_30 hl (k := 5) rfl rfl (by decide) rfl (fun ls hl => ?_)
  refine lv_aload_n hx hb dX12_find_33 rfl (lv_at hl 2 rfl) ?_
  refine lv_iload hx hb dX12_find_34 (lv_at hl 3 rfl) ?_
  refine lv_iload hx hb dX12_find_36 (lv_at hl 4 rfl) ?_
  refine lv_iload hx hb dX12_find_38 (lv_at hl 0 rfl) ?_
  refine g_cz hw (g_rV [.int x5, .int x6, .int (x8 + 1)] [] C hw (m_X12_mayCome h) k_X12_mayCome q_RX12_194 ml_0 (ms_0 _ _) rfl rfl hl.1 rfl (Nat.le_of_ble_eq_true rfl) ⟨⟨rfl, rfl⟩, Nat.le_of_ble_eq_true rfl, Nat.le_of_ble_eq_true rfl⟩ ⟨Nat.zero_le _, Nat.zero_le _⟩ dX12_find_40) (fun r40 I40 J40 H locs z40 h hw => ?_)
  refine lv_if_eq (tgt := 61) hx hb dX12_find_43 (by decide) (fun c43 => ?_) (fun c43 => ?_)
  · have h := h.1 c43
    refine lv_lconst (v := 0) hx hb dX12_find_61 (by decide) ?_
    exact w_X12_find_62 C hL14 hL25 h hw (lv_sub hl [2, 1, 3, 4, 5, 0] rfl)
  · have h := h.2 c43
    refine lv_aload_n hx hb dX12_find_46 rfl (lv_at hl 2 rfl) ?_
    refine lv_aload_n hx hb dX12_find_47 rfl (lv_at hl 2 rfl) ?_
    refine g_get C hw f_RX12_74 ml_0 (ms_0 _ _) rfl dX12_find_48 ?_
    refine lv_iload hx hb dX12_find_51 (lv_at hl 3 rfl) ?_
    refine lv_iload hx hb dX12_find_53 (lv_at hl 0 rfl) ?_
    refine g_cl hw (g_rV [.ref (ad 22), .int x5, .int (x8 + 1)] [] C hw (m_X12_endsAs h) k_X12_endsAs q_RX12_198 ml_0 (ms_0 _ _) rfl rfl hl.1 rfl (Nat.le_of_ble_eq_true rfl) ⟨⟨rfl, rfl⟩, Nat.le_of_ble_eq_true rfl, Nat.le_of_ble_eq_true rfl⟩ ⟨Nat.zero_le _, Nat.zero_le _⟩ dX12_find_55) (fun r55 I55 J55 H locs h hw => ?_)
    refine lv_goto (tgt := 62) hx hb dX12_find_58 (by decide) ?_
    exact w_X12_find_62 C hL14 hL25 h hw (lv_sub hl [2, 1, 3, 4, 5, 0] rfl)
theorem wl_X12_find_25 {Q : Int32 → MI → MJ → Prop} (C : gC RX12 cX12_find 11 (some .int) 30 ad cy D mE p s m args meth c) {kL14 : Int64 × Int32 × Int32 × Int32 × MI × MJ → Prop} (hL14 : ∀ {x3 : Int64} {x5 : Int32} {x6 : Int32} {x7 : Int32} {I : MI} {J : MJ} {H : Heap} {locs : List Loc} {ls : Array Slot}, kL14 (x3, x5, x6, x7, I, J) → gH (mS ad cy) 30 ad D s I J H locs → lv_has ls 11 [(0, .ref (ad 0)), (3, .long x3), (5, .int x5), (6, .int x6), (7, .int x7)] → W p l e rmX12_find s m args below meth c H locs 0 0 (MQ below (gQi (mS ad cy) 30 ad cy D mE Q) args s 0 0 (gA 30 ad)) (F0 m 14 ls [])) {x3 : Int64} {x5 : Int32} {x6 : Int32} {x7 : Int32} {x8 : Int32} {x9 : Int64} {I : MI} {J : MJ} {H : Heap} {locs : List Loc} {ls : Array Slot} (h : lpx (P_X12_find_25 Q kL14) (x3, x5, x6, x7, x8, x9, I, J)) (hw : gH (mS ad cy) 30 ad D s I J H locs) (hl : lv_has ls 11 [(0, .ref (ad 0)), (3, .long x3), (5, .int x5), (6, .int x6), (7, .int x7), (8, .int x8), (9, .long x9)]) : W p l e rmX12_find s m args below meth c H locs 0 0 (MQ below (gQi (mS ad cy) 30 ad cy D mE Q) args s 0 0 (gA 30 ad)) (F0 m 25 ls []) := by
  obtain ⟨n, h⟩ := h
  induction n generalizing x3 x5 x6 x7 x8 x9 I J H locs ls with
  | zero => exact False.elim h
  | succ n ih => exact w_X12_find_25 C hL14 (fun hk9 hw9 hl9 => ih hw9 hl9 hk9) h hw hl
set_option maxHeartbeats 4000000 in
set_option maxRecDepth 100000 in
theorem w_X12_find_14 {Q : Int32 → MI → MJ → Prop} (C : gC RX12 cX12_find 11 (some .int) 30 ad cy D mE p s m args meth c) {kL14 : Int64 × Int32 × Int32 × Int32 × MI × MJ → Prop} (hL14 : ∀ {x3 : Int64} {x5 : Int32} {x6 : Int32} {x7 : Int32} {I : MI} {J : MJ} {H : Heap} {locs : List Loc} {ls : Array Slot}, kL14 (x3, x5, x6, x7, I, J) → gH (mS ad cy) 30 ad D s I J H locs → lv_has ls 11 [(0, .ref (ad 0)), (3, .long x3), (5, .int x5), (6, .int x6), (7, .int x7)] → W p l e rmX12_find s m args below meth c H locs 0 0 (MQ below (gQi (mS ad cy) 30 ad cy D mE Q) args s 0 0 (gA 30 ad)) (F0 m 14 ls [])) {x3 : Int64} {x5 : Int32} {x6 : Int32} {x7 : Int32} {I : MI} {J : MJ} {H : Heap} {locs : List Loc} {ls : Array Slot} (h : P_X12_find_14 Q kL14 (x3, x5, x6, x7, I, J)) (hw : gH (mS ad cy) 30 ad D s I J H locs) (hl : lv_has ls 11 [(0, .ref (ad 0)), (3, .long x3), (5, .int x5), (6, .int x6), (7, .int x7)]) : W p l e rmX12_find s m args below meth c H locs 0 0 (MQ below (gQi (mS ad cy) 30 ad cy D mE Q) args s 0 0 (gA 30 ad)) (F0 m 14 ls []) := by
  obtain ⟨hx, hb, hC⟩ := id C
  refine lv_iload hx hb dX12_find_14 (lv_at hl 2 rfl) ?_
  refine lv_if_le (tgt := 107) hx hb dX12_find_16 (by decide) (fun c16 => ?_) (fun c16 => ?_)
  · have h := h.1 c16
    refine lv_iload hx hb dX12_find_107 (lv_at hl 4 rfl) ?_
    exact g_iret C hw h dX12_find_109
  · have h := h.2 c16
    refine lv_iconst (v := -1) hx hb dX12_find_19 (by decide) ?_
    refine lv_istore (lv' := [(8, .int (-1 : Int32)), (0, .ref (ad 0)), (3, .long x3), (5, .int x5), (6, .int x6), (7, .int x7)]) hx hb dX12_find_20 hl (by decide) rfl (fun ls hl => ?_)
    refine lv_lconst (v := 0) hx hb dX12_find_22 (by decide) ?_
    refine lv_lstore (lv' := [(9, .long (0 : Int64)), (8, .int (-1 : Int32)), (0, .ref (ad 0)), (3, .long x3), (5, .int x5), (6, .int x6), (7, .int x7)]) hx hb dX12_find_23 hl (by decide) rfl (fun ls hl => ?_)
    exact wl_X12_find_25 C hL14 h hw (lv_sub hl [2, 3, 4, 5, 6, 1, 0] rfl)
theorem wl_X12_find_14 {Q : Int32 → MI → MJ → Prop} (C : gC RX12 cX12_find 11 (some .int) 30 ad cy D mE p s m args meth c) {x3 : Int64} {x5 : Int32} {x6 : Int32} {x7 : Int32} {I : MI} {J : MJ} {H : Heap} {locs : List Loc} {ls : Array Slot} (h : lpx (P_X12_find_14 Q) (x3, x5, x6, x7, I, J)) (hw : gH (mS ad cy) 30 ad D s I J H locs) (hl : lv_has ls 11 [(0, .ref (ad 0)), (3, .long x3), (5, .int x5), (6, .int x6), (7, .int x7)]) : W p l e rmX12_find s m args below meth c H locs 0 0 (MQ below (gQi (mS ad cy) 30 ad cy D mE Q) args s 0 0 (gA 30 ad)) (F0 m 14 ls []) := by
  obtain ⟨n, h⟩ := h
  induction n generalizing x3 x5 x6 x7 I J H locs ls with
  | zero => exact False.elim h
  | succ n ih => exact w_X12_find_14 C  (fun hk9 hw9 hl9 => ih hw9 hl9 hk9) h hw hl
set_option maxHeartbeats 4000000 in
set_option maxRecDepth 100000 in
theorem w_X12_find {Q : Int32 → MI → MJ → Prop} (C : gC RX12 cX12_find 11 (some .int) 30 ad cy D mE p s m args meth c) {a0 : Int64} {I : MI} {J : MJ} {H : Heap} {locs : List Loc} {ls : Array Slot} (h : P_X12_find a0 I J Q) (hw : gH (mS ad cy) 30 ad D s I J H locs) (hl : lv_has ls 11 [(0, .ref (ad 0)), (1, .long a0)]) : W p l e rmX12_find s m args below meth c H locs 0 0 (MQ below (gQi (mS ad cy) 30 ad cy D mE Q) args s 0 0 (gA 30 ad)) (F0 m 0 ls []) := by
  obtain ⟨hx, hb, hC⟩ := id C
  refine lv_lload_n hx hb dX12_find_0 rfl (lv_at hl 1 rfl) ?_
  refine lv_lstore_n (lv' := [(3, .long a0), (0, .ref (ad 0)), (1, .long a0)]) hx hb dX12_find_1 rfl hl (by decide) rfl (fun ls hl => ?_)
  refine lv_aload_n hx hb dX12_find_2 rfl (lv_at hl 1 rfl) ?_
  refine g_get C hw f_RX12_188 ml_0 (ms_0 _ _) rfl dX12_find_3 ?_
  refine lv_istore (lv' := [(5, .int (I 0 31)), (3, .long a0), (0, .ref (ad 0)), (1, .long a0)]) hx hb dX12_find_6 hl (by decide) rfl (fun ls hl => ?_)
  refine lv_iconst (v := 4) hx hb dX12_find_8 (by decide) ?_
  refine lv_istore (lv' := [(6, .int (4 : Int32)), (5, .int (I 0 31)), (3, .long a0), (0, .ref (ad 0)), (1, .long a0)]) hx hb dX12_find_9 hl (by decide) rfl (fun ls hl => ?_)
  refine lv_iconst (v := 0) hx hb dX12_find_11 (by decide) ?_
  refine lv_istore (lv' := [(7, .int (0 : Int32)), (6, .int (4 : Int32)), (5, .int (I 0 31)), (3, .long a0), (0, .ref (ad 0)), (1, .long a0)]) hx hb dX12_find_12 hl (by decide) rfl (fun ls hl => ?_)
  exact wl_X12_find_14 C  h hw (lv_sub hl [4, 3, 2, 1, 0] rfl)
theorem m_X12_find {l : Launch} {a0 : Int64} {Q : Int32 → MI → MJ → Prop} {I : MI} {J : MJ} (h : P_X12_find a0 I J Q) : Met l yX12_find (xws yX12_find cX12_find 11 (some .int)) rmX12_find (va_Pc [.ref (ad 0), .long a0] (gB (mS ad cy) 30 ad cy D mE I J)) (gQi (mS ad cy) 30 ad cy D mE Q) 0 0 (gA 30 ad) :=
  g_met (mE_ok ad) rfl (by decide) (Nat.le_of_ble_eq_true rfl) (fun p e s m below meth c ls C hw hl => w_X12_find C  h hw hl)
/-! BagPhrasesModel.phrase(JI)I -/
def P_X12_phrase (a0 : Int64) (a1 : Int32) (I : MI) (J : MJ) (Q : Int32 → MI → MJ → Prop) : Prop :=
  P_X12_manyOf 6 I J (fun r7 I7 J7 => P_X12_in a0 (0 : Int64) (r7 - (1 : Int64)) I7 J7 (fun r12 I12 J12 => ((¬ r12 = 0 → P_X12_in a1.toInt64 (0 : Int64) (13 : Int64) I12 J12 (fun r26 I26 J26 => ((¬ r26 = 0 → P_X12_find a0 I26 J26 (fun r37 I37 J37 => ((¬ a1 = 0 → ((¬ a1 = (13 : Int32) → ((r37 < a1 → Q (-9 : Int32) I37 J37) ∧ (¬ r37 < a1 → vp_in (a1 - (1 : Int32)) 12 ∧ (Q (I37 27 (a1 - (1 : Int32)).toNatClampNeg) I37 J37)))) ∧ (a1 = (13 : Int32) → P_X12_worthOf r37 I37 J37 (fun r60 I60 J60 => Q r60 I60 J60)))) ∧ (a1 = 0 → Q r37 I37 J37)))) ∧ (r26 = 0 → Q (-2 : Int32) I26 J26)))) ∧ (r12 = 0 → Q (-1 : Int32) I12 J12))))
abbrev rmX12_phrase : Room := { frames := 4, cells := 0, slots := 0, locals := 91 }
set_option maxHeartbeats 4000000 in
set_option maxRecDepth 100000 in
theorem w_X12_phrase {Q : Int32 → MI → MJ → Prop} (C : gC RX12 cX12_phrase 5 (some .int) 30 ad cy D mE p s m args meth c) {a0 : Int64} {a1 : Int32} {I : MI} {J : MJ} {H : Heap} {locs : List Loc} {ls : Array Slot} (h : P_X12_phrase a0 a1 I J Q) (hw : gH (mS ad cy) 30 ad D s I J H locs) (hl : lv_has ls 5 [(0, .ref (ad 0)), (1, .long a0), (3, .int a1)]) : W p l e rmX12_phrase s m args below meth c H locs 0 0 (MQ below (gQi (mS ad cy) 30 ad cy D mE Q) args s 0 0 (gA 30 ad)) (F0 m 0 ls []) := by
  obtain ⟨hx, hb, hC⟩ := id C
  refine lv_lload_n hx hb dX12_phrase_0 rfl (lv_at hl 1 rfl) ?_
  refine lv_lconst (v := 0) hx hb dX12_phrase_1 (by decide) ?_
  refine lv_aload_n hx hb dX12_phrase_2 rfl (lv_at hl 0 rfl) ?_
  refine lv_aload_n hx hb dX12_phrase_3 rfl (lv_at hl 0 rfl) ?_
  refine g_get C hw f_RX12_25 ml_0 (ms_0 _ _) rfl dX12_phrase_4 ?_
  refine g_cl hw (g_rV [.ref (ad 6)] [.long (0 : Int64), .long a0] C hw (m_X12_manyOf isRow_6 h) k_X12_manyOf q_RX12_272 ml_0 (ms_0 _ _) rfl rfl hl.1 rfl (Nat.le_of_ble_eq_true rfl) ⟨⟨rfl, rfl⟩, Nat.le_of_ble_eq_true rfl, Nat.le_of_ble_eq_true rfl⟩ ⟨Nat.zero_le _, Nat.zero_le _⟩ dX12_phrase_7) (fun r7 I7 J7 H locs h hw => ?_)
  refine lv_lconst (v := 1) hx hb dX12_phrase_10 (by decide) ?_
  refine lv_lsub hx hb dX12_phrase_11 ?_
  refine g_cz hw (g_rS [.long a0, .long (0 : Int64), .long (r7 - (1 : Int64))] [] C hw (m_X12_in h) k_X12_in q_RX12_107 rfl hl.1 rfl (Nat.le_of_ble_eq_true rfl) ⟨⟨rfl, rfl⟩, Nat.le_of_ble_eq_true rfl, Nat.le_of_ble_eq_true rfl⟩ ⟨Nat.zero_le _, Nat.zero_le _⟩ dX12_phrase_12) (fun r12 I12 J12 H locs z12 h hw => ?_)
  refine lv_if_ne (tgt := 20) hx hb dX12_phrase_15 (by decide) (fun c15 => ?_) (fun c15 => ?_)
  · have h := h.1 c15
    refine lv_iload_n hx hb dX12_phrase_20 rfl (lv_at hl 2 rfl) ?_
    refine lv_i2l hx hb dX12_phrase_21 rfl ?_
    refine lv_lconst (v := 0) hx hb dX12_phrase_22 (by decide) ?_
    refine lv_ldc2 (v := (13)) hx hb hC.2.2.1 (hC.2.2.2.1 _ q_RX12_285) dX12_phrase_23 ?_
    refine g_cz hw (g_rS [.long a1.toInt64, .long (0 : Int64), .long (13 : Int64)] [] C hw (m_X12_in h) k_X12_in q_RX12_107 rfl hl.1 rfl (Nat.le_of_ble_eq_true rfl) ⟨⟨rfl, rfl⟩, Nat.le_of_ble_eq_true rfl, Nat.le_of_ble_eq_true rfl⟩ ⟨Nat.zero_le _, Nat.zero_le _⟩ dX12_phrase_26) (fun r26 I26 J26 H locs z26 h hw => ?_)
    refine lv_if_ne (tgt := 35) hx hb dX12_phrase_29 (by decide) (fun c29 => ?_) (fun c29 => ?_)
    · have h := h.1 c29
      refine lv_aload_n hx hb dX12_phrase_35 rfl (lv_at hl 0 rfl) ?_
      refine lv_lload_n hx hb dX12_phrase_36 rfl (lv_at hl 1 rfl) ?_
      refine g_ci hw (g_rV [.long a0] [] C hw (m_X12_find h) k_X12_find q_RX12_293 ml_0 (ms_0 _ _) rfl rfl hl.1 rfl (Nat.le_of_ble_eq_true rfl) ⟨⟨rfl, rfl⟩, Nat.le_of_ble_eq_true rfl, Nat.le_of_ble_eq_true rfl⟩ ⟨Nat.zero_le _, Nat.zero_le _⟩ dX12_phrase_37) (fun r37 I37 J37 H locs h hw => ?_)
      refine lv_istore (lv' := [(4, .int r37), (0, .ref (ad 0)), (1, .long a0), (3, .int a1)]) hx hb dX12_phrase_40 hl (by decide) rfl (fun ls hl => ?_)
      refine lv_iload_n hx hb dX12_phrase_42 rfl (lv_at hl 3 rfl) ?_
      refine lv_if_ne (tgt := 51) hx hb dX12_phrase_43 (by decide) (fun c43 => ?_) (fun c43 => ?_)
      · have h := h.1 c43
        refine lv_iload_n hx hb dX12_phrase_51 rfl (lv_at hl 3 rfl) ?_
        refine lv_bipush (v := 13) hx hb dX12_phrase_52 (by decide) ?_
        refine lv_icmp_ne (tgt := 66) hx hb dX12_phrase_54 (by decide) (fun c54 => ?_) (fun c54 => ?_)
        · have h := h.1 c54
          refine lv_iload_n hx hb dX12_phrase_66 rfl (lv_at hl 3 rfl) ?_
          refine lv_iload hx hb dX12_phrase_67 (lv_at hl 0 rfl) ?_
          refine lv_icmp_gt (tgt := 83) hx hb dX12_phrase_69 (by decide) (fun c69 => ?_) (fun c69 => ?_)
          · have h := h.1 c69
            refine lv_bipush (v := -9) hx hb dX12_phrase_83 (by decide) ?_
            exact g_iret C hw h dX12_phrase_85
          · have h := h.2 c69
            refine lv_aload_n hx hb dX12_phrase_72 rfl (lv_at hl 1 rfl) ?_
            refine g_get C hw f_RX12_90 ml_0 (ms_0 _ _) rfl dX12_phrase_73 ?_
            refine lv_iload_n hx hb dX12_phrase_76 rfl (lv_at hl 3 rfl) ?_
            refine lv_iconst (v := 1) hx hb dX12_phrase_77 (by decide) ?_
            refine lv_isub hx hb dX12_phrase_78 ?_
            refine g_iald C hw ml_27 ms_27 h.1 dX12_phrase_79 ?_
            have h := h.2
            refine lv_goto (tgt := 85) hx hb dX12_phrase_80 (by decide) ?_
            exact g_iret C hw h dX12_phrase_85
        · have h := h.2 c54
          refine lv_aload_n hx hb dX12_phrase_57 rfl (lv_at hl 1 rfl) ?_
          refine lv_iload hx hb dX12_phrase_58 (lv_at hl 0 rfl) ?_
          refine g_ci hw (g_rV [.int r37] [] C hw (m_X12_worthOf h) k_X12_worthOf q_RX12_290 ml_0 (ms_0 _ _) rfl rfl hl.1 rfl (Nat.le_of_ble_eq_true rfl) ⟨⟨rfl, rfl⟩, Nat.le_of_ble_eq_true rfl, Nat.le_of_ble_eq_true rfl⟩ ⟨Nat.zero_le _, Nat.zero_le _⟩ dX12_phrase_60) (fun r60 I60 J60 H locs h hw => ?_)
          refine lv_goto (tgt := 85) hx hb dX12_phrase_63 (by decide) ?_
          exact g_iret C hw h dX12_phrase_85
      · have h := h.2 c43
        refine lv_iload hx hb dX12_phrase_46 (lv_at hl 0 rfl) ?_
        refine lv_goto (tgt := 85) hx hb dX12_phrase_48 (by decide) ?_
        exact g_iret C hw h dX12_phrase_85
    · have h := h.2 c29
      refine lv_bipush (v := -2) hx hb dX12_phrase_32 (by decide) ?_
      exact g_iret C hw h dX12_phrase_34
  · have h := h.2 c15
    refine lv_iconst (v := -1) hx hb dX12_phrase_18 (by decide) ?_
    exact g_iret C hw h dX12_phrase_19
theorem m_X12_phrase {l : Launch} {a0 : Int64} {a1 : Int32} {Q : Int32 → MI → MJ → Prop} {I : MI} {J : MJ} (h : P_X12_phrase a0 a1 I J Q) : Met l yX12_phrase (xws yX12_phrase cX12_phrase 5 (some .int)) rmX12_phrase (va_Pc [.ref (ad 0), .long a0, .int a1] (gB (mS ad cy) 30 ad cy D mE I J)) (gQi (mS ad cy) 30 ad cy D mE Q) 0 0 (gA 30 ad) :=
  g_met (mE_ok ad) rfl (by decide) (Nat.le_of_ble_eq_true rfl) (fun p e s m below meth c ls C hw hl => w_X12_phrase C  h hw hl)
/-! BagPhrasesModel.tell(I)I -/
def P_X12_tell (a0 : Int32) (I : MI) (J : MJ) (Q : Int32 → MI → MJ → Prop) : Prop :=
  P_X12_isWord a0 I J (fun r2 I2 J2 => ((¬ r2 = 0 → ((¬ (I2 0 15) = (12 : Int32) → vp_in (I2 0 15) 12 ∧ (∀ I31 : MI, I31 = mI I2 11 (I2 0 15).toNatClampNeg a0 → (∀ I39 : MI, I39 = mI I31 0 15 ((I31 0 15) + (1 : Int32)) → Q (I39 0 15) I39 J2))) ∧ ((I2 0 15) = (12 : Int32) → Q (-4 : Int32) I2 J2))) ∧ (r2 = 0 → Q (-1 : Int32) I2 J2)))
abbrev rmX12_tell : Room := { frames := 2, cells := 0, slots := 0, locals := 46 }
set_option maxHeartbeats 4000000 in
set_option maxRecDepth 100000 in
theorem w_X12_tell {Q : Int32 → MI → MJ → Prop} (C : gC RX12 cX12_tell 2 (some .int) 30 ad cy D mE p s m args meth c) {a0 : Int32} {I : MI} {J : MJ} {H : Heap} {locs : List Loc} {ls : Array Slot} (h : P_X12_tell a0 I J Q) (hw : gH (mS ad cy) 30 ad D s I J H locs) (hl : lv_has ls 2 [(0, .ref (ad 0)), (1, .int a0)]) : W p l e rmX12_tell s m args below meth c H locs 0 0 (MQ below (gQi (mS ad cy) 30 ad cy D mE Q) args s 0 0 (gA 30 ad)) (F0 m 0 ls []) := by
  obtain ⟨hx, hb, hC⟩ := id C
  refine lv_aload_n hx hb dX12_tell_0 rfl (lv_at hl 0 rfl) ?_
  refine lv_iload_n hx hb dX12_tell_1 rfl (lv_at hl 1 rfl) ?_
  refine g_cz hw (g_rV [.int a0] [] C hw (m_X12_isWord h) k_X12_isWord q_RX12_243 ml_0 (ms_0 _ _) rfl rfl hl.1 rfl (Nat.le_of_ble_eq_true rfl) ⟨⟨rfl, rfl⟩, Nat.le_of_ble_eq_true rfl, Nat.le_of_ble_eq_true rfl⟩ ⟨Nat.zero_le _, Nat.zero_le _⟩ dX12_tell_2) (fun r2 I2 J2 H locs z2 h hw => ?_)
  refine lv_if_ne (tgt := 10) hx hb dX12_tell_5 (by decide) (fun c5 => ?_) (fun c5 => ?_)
  · have h := h.1 c5
    refine lv_aload_n hx hb dX12_tell_10 rfl (lv_at hl 0 rfl) ?_
    refine g_get C hw f_RX12_185 ml_0 (ms_0 _ _) rfl dX12_tell_11 ?_
    refine lv_bipush (v := 12) hx hb dX12_tell_14 (by decide) ?_
    refine lv_icmp_ne (tgt := 22) hx hb dX12_tell_16 (by decide) (fun c16 => ?_) (fun c16 => ?_)
    · have h := h.1 c16
      refine lv_aload_n hx hb dX12_tell_22 rfl (lv_at hl 0 rfl) ?_
      refine g_get C hw f_RX12_41 ml_0 (ms_0 _ _) rfl dX12_tell_23 ?_
      refine lv_aload_n hx hb dX12_tell_26 rfl (lv_at hl 0 rfl) ?_
      refine g_get C hw f_RX12_185 ml_0 (ms_0 _ _) rfl dX12_tell_27 ?_
      refine lv_iload_n hx hb dX12_tell_30 rfl (lv_at hl 1 rfl) ?_
      refine g_iast C hw ml_11 ms_11 h.1 dX12_tell_31 (fun H locs hw => ?_)
      have h := h.2
      obtain ⟨I31, e31⟩ : ∃ z : MI, z = mI I2 11 (I2 0 15).toNatClampNeg a0 := ⟨_, rfl⟩
      have h := h I31 e31
      rw [← e31] at hw
      refine lv_aload_n hx hb dX12_tell_32 rfl (lv_at hl 0 rfl) ?_
      refine lv_dup hx hb dX12_tell_33 rfl ?_
      refine g_get C hw f_RX12_185 ml_0 (ms_0 _ _) rfl dX12_tell_34 ?_
      refine lv_iconst (v := 1) hx hb dX12_tell_37 (by decide) ?_
      refine lv_iadd hx hb dX12_tell_38 ?_
      refine g_putI C hw fp_RX12_185 ml_0 ms_0 (st_11_15 ad _) (Nat.le_of_ble_eq_true rfl) rfl rfl dX12_tell_39 (fun H locs hw => ?_)
      obtain ⟨I39, e39⟩ : ∃ z : MI, z = mI I31 0 15 ((I31 0 15) + (1 : Int32)) := ⟨_, rfl⟩
      have h := h I39 e39
      rw [← e39] at hw
      refine lv_aload_n hx hb dX12_tell_42 rfl (lv_at hl 0 rfl) ?_
      refine g_get C hw f_RX12_185 ml_0 (ms_0 _ _) rfl dX12_tell_43 ?_
      exact g_iret C hw h dX12_tell_46
    · have h := h.2 c16
      refine lv_bipush (v := -4) hx hb dX12_tell_19 (by decide) ?_
      exact g_iret C hw h dX12_tell_21
  · have h := h.2 c5
    refine lv_iconst (v := -1) hx hb dX12_tell_8 (by decide) ?_
    exact g_iret C hw h dX12_tell_9
theorem m_X12_tell {l : Launch} {a0 : Int32} {Q : Int32 → MI → MJ → Prop} {I : MI} {J : MJ} (h : P_X12_tell a0 I J Q) : Met l yX12_tell (xws yX12_tell cX12_tell 2 (some .int)) rmX12_tell (va_Pc [.ref (ad 0), .int a0] (gB (mS ad cy) 30 ad cy D mE I J)) (gQi (mS ad cy) 30 ad cy D mE Q) 0 0 (gA 30 ad) :=
  g_met (mE_ok ad) rfl (by decide) (Nat.le_of_ble_eq_true rfl) (fun p e s m below meth c ls C hw hl => w_X12_tell C  h hw hl)
/-! BagPhrasesModel.clear()I -/
def P_X12_clear (I : MI) (J : MJ) (Q : Int32 → MI → MJ → Prop) : Prop :=
  (∀ I7 : MI, I7 = mI I 0 15 (0 : Int32) → Q (I 0 15) I7 J)
abbrev rmX12_clear : Room := { frames := 0, cells := 0, slots := 0, locals := 0 }
set_option maxHeartbeats 4000000 in
set_option maxRecDepth 100000 in
theorem w_X12_clear {Q : Int32 → MI → MJ → Prop} (C : gC RX12 cX12_clear 2 (some .int) 30 ad cy D mE p s m args meth c) {I : MI} {J : MJ} {H : Heap} {locs : List Loc} {ls : Array Slot} (h : P_X12_clear I J Q) (hw : gH (mS ad cy) 30 ad D s I J H locs) (hl : lv_has ls 2 [(0, .ref (ad 0))]) : W p l e rmX12_clear s m args below meth c H locs 0 0 (MQ below (gQi (mS ad cy) 30 ad cy D mE Q) args s 0 0 (gA 30 ad)) (F0 m 0 ls []) := by
  obtain ⟨hx, hb, hC⟩ := id C
  refine lv_aload_n hx hb dX12_clear_0 rfl (lv_at hl 0 rfl) ?_
  refine g_get C hw f_RX12_185 ml_0 (ms_0 _ _) rfl dX12_clear_1 ?_
  refine lv_istore_n (lv' := [(1, .int (I 0 15)), (0, .ref (ad 0))]) hx hb dX12_clear_4 rfl hl (by decide) rfl (fun ls hl => ?_)
  refine lv_aload_n hx hb dX12_clear_5 rfl (lv_at hl 1 rfl) ?_
  refine lv_iconst (v := 0) hx hb dX12_clear_6 (by decide) ?_
  refine g_putI C hw fp_RX12_185 ml_0 ms_0 (st_11_15 ad _) (Nat.le_of_ble_eq_true rfl) rfl rfl dX12_clear_7 (fun H locs hw => ?_)
  obtain ⟨I7, e7⟩ : ∃ z : MI, z = mI I 0 15 (0 : Int32) := ⟨_, rfl⟩
  have h := h I7 e7
  rw [← e7] at hw
  refine lv_iload_n hx hb dX12_clear_10 rfl (lv_at hl 0 rfl) ?_
  exact g_iret C hw h dX12_clear_11
theorem m_X12_clear {l : Launch} {Q : Int32 → MI → MJ → Prop} {I : MI} {J : MJ} (h : P_X12_clear I J Q) : Met l yX12_clear (xws yX12_clear cX12_clear 2 (some .int)) rmX12_clear (va_Pc [.ref (ad 0)] (gB (mS ad cy) 30 ad cy D mE I J)) (gQi (mS ad cy) 30 ad cy D mE Q) 0 0 (gA 30 ad) :=
  g_met (mE_ok ad) rfl (by decide) (Nat.le_of_ble_eq_true rfl) (fun p e s m below meth c ls C hw hl => w_X12_clear C  h hw hl)
/-! BagPhrasesModel.wantedBy(I)I -/
def P_X12_wantedBy_57 (Q : Int32 → MI → MJ → Prop) (kL12 : Int32 × Int32 × Int32 × MI × MJ → Prop) (x1 : Int32) (x3 : Int32) (s0 : Int32) (I : MI) (J : MJ) : Prop :=
  kL12 (x1, s0, (x3 + (-1)), I, J)
def P_X12_wantedBy_12 (Q : Int32 → MI → MJ → Prop) (kL12 : Int32 × Int32 × Int32 × MI × MJ → Prop) : Int32 × Int32 × Int32 × MI × MJ → Prop := fun z => match z with
  | (x1, x2, x3, I, J) => ((x3 < 0 → Q x2 I J) ∧ (¬ x3 < 0 → vp_in (((6 : Int32) * x1) + x3) 60 ∧ (vp_in (((8 : Int32) * x1) + (I 2 (((6 : Int32) * x1) + x3).toNatClampNeg)) 80 ∧ (vp_in (I 2 (((6 : Int32) * x1) + x3).toNatClampNeg) 8 ∧ ((((I 5 (((8 : Int32) * x1) + (I 2 (((6 : Int32) * x1) + x3).toNatClampNeg)).toNatClampNeg) ≤ (I 28 (I 2 (((6 : Int32) * x1) + x3).toNatClampNeg).toNatClampNeg) → P_X12_wantedBy_57 Q kL12 x1 x3 x2 I J) ∧ (¬ (I 5 (((8 : Int32) * x1) + (I 2 (((6 : Int32) * x1) + x3).toNatClampNeg)).toNatClampNeg) ≤ (I 28 (I 2 (((6 : Int32) * x1) + x3).toNatClampNeg).toNatClampNeg) → P_X12_wantedBy_57 Q kL12 x1 x3 (I 2 (((6 : Int32) * x1) + x3).toNatClampNeg) I J)))))))
def P_X12_wantedBy (a0 : Int32) (I : MI) (J : MJ) (Q : Int32 → MI → MJ → Prop) : Prop :=
  vp_in a0 10 ∧ (lpx (P_X12_wantedBy_12 Q) (a0, (-9 : Int32), ((I 3 a0.toNatClampNeg) - (1 : Int32)), I, J))
abbrev rmX12_wantedBy : Room := { frames := 0, cells := 0, slots := 0, locals := 0 }
set_option maxHeartbeats 4000000 in
set_option maxRecDepth 100000 in
theorem w_X12_wantedBy_57 {Q : Int32 → MI → MJ → Prop} (C : gC RX12 cX12_wantedBy 5 (some .int) 30 ad cy D mE p s m args meth c) {kL12 : Int32 × Int32 × Int32 × MI × MJ → Prop} (hL12 : ∀ {x1 : Int32} {x2 : Int32} {x3 : Int32} {I : MI} {J : MJ} {H : Heap} {locs : List Loc} {ls : Array Slot}, kL12 (x1, x2, x3, I, J) → gH (mS ad cy) 30 ad D s I J H locs → lv_has ls 5 [(0, .ref (ad 0)), (1, .int x1), (2, .int x2), (3, .int x3)] → W p l e rmX12_wantedBy s m args below meth c H locs 0 0 (MQ below (gQi (mS ad cy) 30 ad cy D mE Q) args s 0 0 (gA 30 ad)) (F0 m 12 ls [])) {x1 : Int32} {x3 : Int32} {s0 : Int32} {I : MI} {J : MJ} {H : Heap} {locs : List Loc} {ls : Array Slot} (h : P_X12_wantedBy_57 Q kL12 x1 x3 s0 I J) (hw : gH (mS ad cy) 30 ad D s I J H locs) (hl : lv_has ls 5 [(0, .ref (ad 0)), (1, .int x1), (3, .int x3)]) : W p l e rmX12_wantedBy s m args below meth c H locs 0 0 (MQ below (gQi (mS ad cy) 30 ad cy D mE Q) args s 0 0 (gA 30 ad)) (F0 m 57 ls [.int s0]) := by
  obtain ⟨hx, hb, hC⟩ := id C
  refine lv_istore_n (lv' := [(2, .int s0), (0, .ref (ad 0)), (1, .int x1), (3, .int x3)]) hx hb dX12_wantedBy_57 rfl hl (by decide) rfl (fun ls hl => ?_)
  refine lv_iinc (v := x3 + (-1)) (lv' := [(3, .int (x3 + (-1))), (2, .int s0), (0, .ref (ad 0)), (1, .int x1)]) hx hb dX12_wantedBy_58 hl (k := 3) rfl rfl (by decide) rfl (fun ls hl => ?_)
  refine lv_goto (tgt := 12) hx hb dX12_wantedBy_61 (by decide) ?_
  exact hL12 h hw (lv_sub hl [2, 3, 1, 0] rfl)
set_option maxHeartbeats 4000000 in
set_option maxRecDepth 100000 in
theorem w_X12_wantedBy_12 {Q : Int32 → MI → MJ → Prop} (C : gC RX12 cX12_wantedBy 5 (some .int) 30 ad cy D mE p s m args meth c) {kL12 : Int32 × Int32 × Int32 × MI × MJ → Prop} (hL12 : ∀ {x1 : Int32} {x2 : Int32} {x3 : Int32} {I : MI} {J : MJ} {H : Heap} {locs : List Loc} {ls : Array Slot}, kL12 (x1, x2, x3, I, J) → gH (mS ad cy) 30 ad D s I J H locs → lv_has ls 5 [(0, .ref (ad 0)), (1, .int x1), (2, .int x2), (3, .int x3)] → W p l e rmX12_wantedBy s m args below meth c H locs 0 0 (MQ below (gQi (mS ad cy) 30 ad cy D mE Q) args s 0 0 (gA 30 ad)) (F0 m 12 ls [])) {x1 : Int32} {x2 : Int32} {x3 : Int32} {I : MI} {J : MJ} {H : Heap} {locs : List Loc} {ls : Array Slot} (h : P_X12_wantedBy_12 Q kL12 (x1, x2, x3, I, J)) (hw : gH (mS ad cy) 30 ad D s I J H locs) (hl : lv_has ls 5 [(0, .ref (ad 0)), (1, .int x1), (2, .int x2), (3, .int x3)]) : W p l e rmX12_wantedBy s m args below meth c H locs 0 0 (MQ below (gQi (mS ad cy) 30 ad cy D mE Q) args s 0 0 (gA 30 ad)) (F0 m 12 ls []) := by
  obtain ⟨hx, hb, hC⟩ := id C
  refine lv_iload_n hx hb dX12_wantedBy_12 rfl (lv_at hl 3 rfl) ?_
  refine lv_if_lt (tgt := 64) hx hb dX12_wantedBy_13 (by decide) (fun c13 => ?_) (fun c13 => ?_)
  · have h := h.1 c13
    refine lv_iload_n hx hb dX12_wantedBy_64 rfl (lv_at hl 2 rfl) ?_
    exact g_iret C hw h dX12_wantedBy_65
  · have h := h.2 c13
    refine lv_aload_n hx hb dX12_wantedBy_16 rfl (lv_at hl 0 rfl) ?_
    refine g_get C hw f_RX12_13 ml_0 (ms_0 _ _) rfl dX12_wantedBy_17 ?_
    refine lv_bipush (v := 6) hx hb dX12_wantedBy_20 (by decide) ?_
    refine lv_iload_n hx hb dX12_wantedBy_22 rfl (lv_at hl 1 rfl) ?_
    refine lv_imul hx hb dX12_wantedBy_23 ?_
    refine lv_iload_n hx hb dX12_wantedBy_24 rfl (lv_at hl 3 rfl) ?_
    refine lv_iadd hx hb dX12_wantedBy_25 ?_
    refine g_iald C hw ml_2 ms_2 h.1 dX12_wantedBy_26 ?_
    have h := h.2
    refine lv_istore (lv' := [(4, .int (I 2 (((6 : Int32) * x1) + x3).toNatClampNeg)), (0, .ref (ad 0)), (1, .int x1), (2, .int x2), (3, .int x3)]) hx hb dX12_wantedBy_27 hl (by decide) rfl (fun ls hl => ?_)
    refine lv_aload_n hx hb dX12_wantedBy_29 rfl (lv_at hl 1 rfl) ?_
    refine g_get C hw f_RX12_22 ml_0 (ms_0 _ _) rfl dX12_wantedBy_30 ?_
    refine lv_bipush (v := 8) hx hb dX12_wantedBy_33 (by decide) ?_
    refine lv_iload_n hx hb dX12_wantedBy_35 rfl (lv_at hl 2 rfl) ?_
    refine lv_imul hx hb dX12_wantedBy_36 ?_
    refine lv_iload hx hb dX12_wantedBy_37 (lv_at hl 0 rfl) ?_
    refine lv_iadd hx hb dX12_wantedBy_39 ?_
    refine g_iald C hw ml_5 ms_5 h.1 dX12_wantedBy_40 ?_
    have h := h.2
    refine lv_aload_n hx hb dX12_wantedBy_41 rfl (lv_at hl 1 rfl) ?_
    refine g_get C hw f_RX12_93 ml_0 (ms_0 _ _) rfl dX12_wantedBy_42 ?_
    refine lv_iload hx hb dX12_wantedBy_45 (lv_at hl 0 rfl) ?_
    refine g_iald C hw ml_28 ms_28 h.1 dX12_wantedBy_47 ?_
    have h := h.2
    refine lv_icmp_le (tgt := 56) hx hb dX12_wantedBy_48 (by decide) (fun c48 => ?_) (fun c48 => ?_)
    · have h := h.1 c48
      refine lv_iload_n hx hb dX12_wantedBy_56 rfl (lv_at hl 3 rfl) ?_
      exact w_X12_wantedBy_57 C hL12 h hw (lv_sub hl [1, 2, 4] rfl)
    · have h := h.2 c48
      refine lv_iload hx hb dX12_wantedBy_51 (lv_at hl 0 rfl) ?_
      refine lv_goto (tgt := 57) hx hb dX12_wantedBy_53 (by decide) ?_
      exact w_X12_wantedBy_57 C hL12 h hw (lv_sub hl [1, 2, 4] rfl)
theorem wl_X12_wantedBy_12 {Q : Int32 → MI → MJ → Prop} (C : gC RX12 cX12_wantedBy 5 (some .int) 30 ad cy D mE p s m args meth c) {x1 : Int32} {x2 : Int32} {x3 : Int32} {I : MI} {J : MJ} {H : Heap} {locs : List Loc} {ls : Array Slot} (h : lpx (P_X12_wantedBy_12 Q) (x1, x2, x3, I, J)) (hw : gH (mS ad cy) 30 ad D s I J H locs) (hl : lv_has ls 5 [(0, .ref (ad 0)), (1, .int x1), (2, .int x2), (3, .int x3)]) : W p l e rmX12_wantedBy s m args below meth c H locs 0 0 (MQ below (gQi (mS ad cy) 30 ad cy D mE Q) args s 0 0 (gA 30 ad)) (F0 m 12 ls []) := by
  obtain ⟨n, h⟩ := h
  induction n generalizing x1 x2 x3 I J H locs ls with
  | zero => exact False.elim h
  | succ n ih => exact w_X12_wantedBy_12 C  (fun hk9 hw9 hl9 => ih hw9 hl9 hk9) h hw hl
set_option maxHeartbeats 4000000 in
set_option maxRecDepth 100000 in
theorem w_X12_wantedBy {Q : Int32 → MI → MJ → Prop} (C : gC RX12 cX12_wantedBy 5 (some .int) 30 ad cy D mE p s m args meth c) {a0 : Int32} {I : MI} {J : MJ} {H : Heap} {locs : List Loc} {ls : Array Slot} (h : P_X12_wantedBy a0 I J Q) (hw : gH (mS ad cy) 30 ad D s I J H locs) (hl : lv_has ls 5 [(0, .ref (ad 0)), (1, .int a0)]) : W p l e rmX12_wantedBy s m args below meth c H locs 0 0 (MQ below (gQi (mS ad cy) 30 ad cy D mE Q) args s 0 0 (gA 30 ad)) (F0 m 0 ls []) := by
  obtain ⟨hx, hb, hC⟩ := id C
  refine lv_bipush (v := -9) hx hb dX12_wantedBy_0 (by decide) ?_
  refine lv_istore_n (lv' := [(2, .int (-9 : Int32)), (0, .ref (ad 0)), (1, .int a0)]) hx hb dX12_wantedBy_2 rfl hl (by decide) rfl (fun ls hl => ?_)
  refine lv_aload_n hx hb dX12_wantedBy_3 rfl (lv_at hl 1 rfl) ?_
  refine g_get C hw f_RX12_16 ml_0 (ms_0 _ _) rfl dX12_wantedBy_4 ?_
  refine lv_iload_n hx hb dX12_wantedBy_7 rfl (lv_at hl 2 rfl) ?_
  refine g_iald C hw ml_3 ms_3 h.1 dX12_wantedBy_8 ?_
  have h := h.2
  refine lv_iconst (v := 1) hx hb dX12_wantedBy_9 (by decide) ?_
  refine lv_isub hx hb dX12_wantedBy_10 ?_
  refine lv_istore_n (lv' := [(3, .int ((I 3 a0.toNatClampNeg) - (1 : Int32))), (2, .int (-9 : Int32)), (0, .ref (ad 0)), (1, .int a0)]) hx hb dX12_wantedBy_11 rfl hl (by decide) rfl (fun ls hl => ?_)
  exact wl_X12_wantedBy_12 C  h hw (lv_sub hl [2, 3, 1, 0] rfl)
theorem m_X12_wantedBy {l : Launch} {a0 : Int32} {Q : Int32 → MI → MJ → Prop} {I : MI} {J : MJ} (h : P_X12_wantedBy a0 I J Q) : Met l yX12_wantedBy (xws yX12_wantedBy cX12_wantedBy 5 (some .int)) rmX12_wantedBy (va_Pc [.ref (ad 0), .int a0] (gB (mS ad cy) 30 ad cy D mE I J)) (gQi (mS ad cy) 30 ad cy D mE Q) 0 0 (gA 30 ad) :=
  g_met (mE_ok ad) rfl (by decide) (Nat.le_of_ble_eq_true rfl) (fun p e s m below meth c ls C hw hl => w_X12_wantedBy C  h hw hl)
/-! BagPhrasesModel.reason()I -/
def P_X12_reason_229 (Q : Int32 → MI → MJ → Prop) (kL229 : Int32 × MI × MJ → Prop) : Int32 × MI × MJ → Prop := fun z => match z with
  | (x1, I, J) => (((8 : Int32) ≤ x1 → vp_in (20 : Int32) 25 ∧ (vp_in ((I 0 15) - (1 : Int32)) 12 ∧ (vp_in (I 11 ((I 0 15) - (1 : Int32)).toNatClampNeg) 10 ∧ (P_X12_has (I 6 (20 : Int32).toNatClampNeg) (I 4 (I 11 ((I 0 15) - (1 : Int32)).toNatClampNeg).toNatClampNeg) I J (fun r290 I290 J290 => ((¬ r290 = 0 → (∀ I301 : MI, I301 = mI I290 0 41 (-9 : Int32) → Q (0 : Int32) I301 J290)) ∧ (r290 = 0 → Q (5 : Int32) I290 J290))))))) ∧ (¬ (8 : Int32) ≤ x1 → vp_in x1 8 ∧ ((((I 28 x1.toNatClampNeg) ≤ 0 → kL229 ((x1 + 1), I, J)) ∧ (¬ (I 28 x1.toNatClampNeg) ≤ 0 → (∀ I246 : MI, I246 = mI I 0 42 x1 → vp_in x1 8 ∧ ((∀ I256 : MI, I256 = mI I246 0 43 (I246 28 x1.toNatClampNeg) → Q (4 : Int32) I256 J))))))))
def P_X12_reason_168 (Q : Int32 → MI → MJ → Prop) (kL39 : Int32 × MI × MJ → Prop) (kL168 : Int32 × Int32 × Int32 × MI × MJ → Prop) : Int32 × Int32 × Int32 × MI × MJ → Prop := fun z => match z with
  | (x1, x2, x4, I, J) => (((8 : Int32) ≤ x4 → kL39 ((x1 + 1), I, J)) ∧ (¬ (8 : Int32) ≤ x4 → vp_in x4 8 ∧ (vp_in (((8 : Int32) * x2) + x4) 80 ∧ (vp_in x4 8 ∧ (∀ I196 : MI, I196 = mI I 28 x4.toNatClampNeg ((I 28 x4.toNatClampNeg) - (I 5 (((8 : Int32) * x2) + x4).toNatClampNeg)) → kL168 (x1, x2, (x4 + 1), I196, J))))))
def P_X12_reason_110 (Q : Int32 → MI → MJ → Prop) (kL39 : Int32 × MI × MJ → Prop) (x1 : Int32) (x2 : Int32) (s0 : Int32) (I : MI) (J : MJ) : Prop :=
  vp_in x2 10 ∧ (P_X12_has s0 (I 4 x2.toNatClampNeg) I J (fun r116 I116 J116 => ((¬ r116 = 0 → P_X12_wantedBy x2 I116 J116 (fun r126 I126 J126 => ((r126 = (-9 : Int32) → lpx (P_X12_reason_168 Q kL39) (x1, x2, (0 : Int32), I126, J126)) ∧ (¬ r126 = (-9 : Int32) → (∀ I138 : MI, I138 = mI I126 0 42 r126 → vp_in (((8 : Int32) * x2) + r126) 80 ∧ (vp_in r126 8 ∧ ((∀ I160 : MI, I160 = mI I138 0 43 ((I138 5 (((8 : Int32) * x2) + r126).toNatClampNeg) - (I138 28 r126.toNatClampNeg)) → Q (3 : Int32) I160 J126)))))))) ∧ (r116 = 0 → Q (2 : Int32) I116 J116))))
def P_X12_reason_39 (Q : Int32 → MI → MJ → Prop) (kL39 : Int32 × MI × MJ → Prop) : Int32 × MI × MJ → Prop := fun z => match z with
  | (x1, I, J) => (((I 0 15) ≤ x1 → (∀ I214 : MI, I214 = mI I 0 41 (I 0 15) → ((¬ (I214 0 15) = 0 → lpx (P_X12_reason_229 Q) ((0 : Int32), I214, J)) ∧ ((I214 0 15) = 0 → Q (6 : Int32) I214 J)))) ∧ (¬ (I 0 15) ≤ x1 → vp_in x1 12 ∧ ((∀ I56 : MI, I56 = mI I 0 41 x1 → vp_in (8 : Int32) 25 ∧ (P_X12_has (I56 6 (8 : Int32).toNatClampNeg) (I 11 x1.toNatClampNeg) I56 J (fun r67 I67 J67 => ((r67 = 0 → ((¬ x1 = 0 → vp_in (x1 - (1 : Int32)) 12 ∧ (vp_in (I67 11 (x1 - (1 : Int32)).toNatClampNeg) 10 ∧ (vp_in ((21 : Int32) + (I67 4 (I67 11 (x1 - (1 : Int32)).toNatClampNeg).toNatClampNeg)) 25 ∧ (P_X12_reason_110 Q kL39 x1 (I 11 x1.toNatClampNeg) (I67 6 ((21 : Int32) + (I67 4 (I67 11 (x1 - (1 : Int32)).toNatClampNeg).toNatClampNeg)).toNatClampNeg) I67 J67)))) ∧ (x1 = 0 → vp_in (19 : Int32) 25 ∧ (P_X12_reason_110 Q kL39 x1 (I 11 x1.toNatClampNeg) (I67 6 (19 : Int32).toNatClampNeg) I67 J67)))) ∧ (¬ r67 = 0 → Q (1 : Int32) I67 J67))))))))
def P_X12_reason_13 (Q : Int32 → MI → MJ → Prop) (kL13 : Int32 × MI × MJ → Prop) : Int32 × MI × MJ → Prop := fun z => match z with
  | (x1, I, J) => (((8 : Int32) ≤ x1 → lpx (P_X12_reason_39 Q) ((0 : Int32), I, J)) ∧ (¬ (8 : Int32) ≤ x1 → vp_in x1 25 ∧ (vp_in x1 8 ∧ (∀ I30 : MI, I30 = mI I 28 x1.toNatClampNeg (I 6 x1.toNatClampNeg) → kL13 ((x1 + 1), I30, J)))))
def P_X12_reason (I : MI) (J : MJ) (Q : Int32 → MI → MJ → Prop) : Prop :=
  (∀ I3 : MI, I3 = mI I 0 42 (-9 : Int32) → (∀ I8 : MI, I8 = mI I3 0 43 (0 : Int32) → lpx (P_X12_reason_13 Q) ((0 : Int32), I8, J)))
abbrev rmX12_reason : Room := { frames := 1, cells := 0, slots := 0, locals := 24 }
set_option maxHeartbeats 4000000 in
set_option maxRecDepth 100000 in
theorem w_X12_reason_229 {Q : Int32 → MI → MJ → Prop} (C : gC RX12 cX12_reason 5 (some .int) 30 ad cy D mE p s m args meth c) {kL229 : Int32 × MI × MJ → Prop} (hL229 : ∀ {x1 : Int32} {I : MI} {J : MJ} {H : Heap} {locs : List Loc} {ls : Array Slot}, kL229 (x1, I, J) → gH (mS ad cy) 30 ad D s I J H locs → lv_has ls 5 [(0, .ref (ad 0)), (1, .int x1)] → W p l e rmX12_reason s m args below meth c H locs 0 0 (MQ below (gQi (mS ad cy) 30 ad cy D mE Q) args s 0 0 (gA 30 ad)) (F0 m 229 ls [])) {x1 : Int32} {I : MI} {J : MJ} {H : Heap} {locs : List Loc} {ls : Array Slot} (h : P_X12_reason_229 Q kL229 (x1, I, J)) (hw : gH (mS ad cy) 30 ad D s I J H locs) (hl : lv_has ls 5 [(0, .ref (ad 0)), (1, .int x1)]) : W p l e rmX12_reason s m args below meth c H locs 0 0 (MQ below (gQi (mS ad cy) 30 ad cy D mE Q) args s 0 0 (gA 30 ad)) (F0 m 229 ls []) := by
  obtain ⟨hx, hb, hC⟩ := id C
  refine lv_iload_n hx hb dX12_reason_229 rfl (lv_at hl 1 rfl) ?_
  refine lv_bipush (v := 8) hx hb dX12_reason_230 (by decide) ?_
  refine lv_icmp_ge (tgt := 267) hx hb dX12_reason_232 (by decide) (fun c232 => ?_) (fun c232 => ?_)
  · have h := h.1 c232
    refine lv_aload_n hx hb dX12_reason_267 rfl (lv_at hl 0 rfl) ?_
    refine g_get C hw f_RX12_25 ml_0 (ms_0 _ _) rfl dX12_reason_268 ?_
    refine lv_bipush (v := 20) hx hb dX12_reason_271 (by decide) ?_
    refine g_iald C hw ml_6 ms_6 h.1 dX12_reason_273 ?_
    have h := h.2
    refine lv_aload_n hx hb dX12_reason_274 rfl (lv_at hl 0 rfl) ?_
    refine g_get C hw f_RX12_19 ml_0 (ms_0 _ _) rfl dX12_reason_275 ?_
    refine lv_aload_n hx hb dX12_reason_278 rfl (lv_at hl 0 rfl) ?_
    refine g_get C hw f_RX12_41 ml_0 (ms_0 _ _) rfl dX12_reason_279 ?_
    refine lv_aload_n hx hb dX12_reason_282 rfl (lv_at hl 0 rfl) ?_
    refine g_get C hw f_RX12_185 ml_0 (ms_0 _ _) rfl dX12_reason_283 ?_
    refine lv_iconst (v := 1) hx hb dX12_reason_286 (by decide) ?_
    refine lv_isub hx hb dX12_reason_287 ?_
    refine g_iald C hw ml_11 ms_11 h.1 dX12_reason_288 ?_
    have h := h.2
    refine g_iald C hw ml_4 ms_4 h.1 dX12_reason_289 ?_
    have h := h.2
    refine g_cz hw (g_rS [.int (I 6 (20 : Int32).toNatClampNeg), .int (I 4 (I 11 ((I 0 15) - (1 : Int32)).toNatClampNeg).toNatClampNeg)] [] C hw (m_X12_has h) k_X12_has q_RX12_149 rfl hl.1 rfl (Nat.le_of_ble_eq_true rfl) ⟨⟨rfl, rfl⟩, Nat.le_of_ble_eq_true rfl, Nat.le_of_ble_eq_true rfl⟩ ⟨Nat.zero_le _, Nat.zero_le _⟩ dX12_reason_290) (fun r290 I290 J290 H locs z290 h hw => ?_)
    refine lv_if_ne (tgt := 298) hx hb dX12_reason_293 (by decide) (fun c293 => ?_) (fun c293 => ?_)
    · have h := h.1 c293
      refine lv_aload_n hx hb dX12_reason_298 rfl (lv_at hl 0 rfl) ?_
      refine lv_bipush (v := -9) hx hb dX12_reason_299 (by decide) ?_
      refine g_putI C hw fp_RX12_303 ml_0 ms_0 (st_11_41 ad _) (Nat.le_of_ble_eq_true rfl) rfl rfl dX12_reason_301 (fun H locs hw => ?_)
      obtain ⟨I301, e301⟩ : ∃ z : MI, z = mI I290 0 41 (-9 : Int32) := ⟨_, rfl⟩
      have h := h I301 e301
      rw [← e301] at hw
      refine lv_iconst (v := 0) hx hb dX12_reason_304 (by decide) ?_
      exact g_iret C hw h dX12_reason_305
    · have h := h.2 c293
      refine lv_iconst (v := 5) hx hb dX12_reason_296 (by decide) ?_
      exact g_iret C hw h dX12_reason_297
  · have h := h.2 c232
    refine lv_aload_n hx hb dX12_reason_235 rfl (lv_at hl 0 rfl) ?_
    refine g_get C hw f_RX12_93 ml_0 (ms_0 _ _) rfl dX12_reason_236 ?_
    refine lv_iload_n hx hb dX12_reason_239 rfl (lv_at hl 1 rfl) ?_
    refine g_iald C hw ml_28 ms_28 h.1 dX12_reason_240 ?_
    have h := h.2
    refine lv_if_le (tgt := 261) hx hb dX12_reason_241 (by decide) (fun c241 => ?_) (fun c241 => ?_)
    · have h := h.1 c241
      refine lv_iinc (v := x1 + 1) (lv' := [(1, .int (x1 + 1)), (0, .ref (ad 0))]) hx hb dX12_reason_261 hl (k := 1) rfl rfl (by decide) rfl (fun ls hl => ?_)
      refine lv_goto (tgt := 229) hx hb dX12_reason_264 (by decide) ?_
      exact hL229 h hw (lv_sub hl [1, 0] rfl)
    · have h := h.2 c241
      refine lv_aload_n hx hb dX12_reason_244 rfl (lv_at hl 0 rfl) ?_
      refine lv_iload_n hx hb dX12_reason_245 rfl (lv_at hl 1 rfl) ?_
      refine g_putI C hw fp_RX12_297 ml_0 ms_0 (st_11_42 ad _) (Nat.le_of_ble_eq_true rfl) rfl rfl dX12_reason_246 (fun H locs hw => ?_)
      obtain ⟨I246, e246⟩ : ∃ z : MI, z = mI I 0 42 x1 := ⟨_, rfl⟩
      have h := h I246 e246
      rw [← e246] at hw
      refine lv_aload_n hx hb dX12_reason_249 rfl (lv_at hl 0 rfl) ?_
      refine lv_aload_n hx hb dX12_reason_250 rfl (lv_at hl 0 rfl) ?_
      refine g_get C hw f_RX12_93 ml_0 (ms_0 _ _) rfl dX12_reason_251 ?_
      refine lv_iload_n hx hb dX12_reason_254 rfl (lv_at hl 1 rfl) ?_
      refine g_iald C hw ml_28 ms_28 h.1 dX12_reason_255 ?_
      have h := h.2
      refine g_putI C hw fp_RX12_300 ml_0 ms_0 (st_11_43 ad _) (Nat.le_of_ble_eq_true rfl) rfl rfl dX12_reason_256 (fun H locs hw => ?_)
      obtain ⟨I256, e256⟩ : ∃ z : MI, z = mI I246 0 43 (I246 28 x1.toNatClampNeg) := ⟨_, rfl⟩
      have h := h I256 e256
      rw [← e256] at hw
      refine lv_iconst (v := 4) hx hb dX12_reason_259 (by decide) ?_
      exact g_iret C hw h dX12_reason_260
theorem wl_X12_reason_229 {Q : Int32 → MI → MJ → Prop} (C : gC RX12 cX12_reason 5 (some .int) 30 ad cy D mE p s m args meth c) {x1 : Int32} {I : MI} {J : MJ} {H : Heap} {locs : List Loc} {ls : Array Slot} (h : lpx (P_X12_reason_229 Q) (x1, I, J)) (hw : gH (mS ad cy) 30 ad D s I J H locs) (hl : lv_has ls 5 [(0, .ref (ad 0)), (1, .int x1)]) : W p l e rmX12_reason s m args below meth c H locs 0 0 (MQ below (gQi (mS ad cy) 30 ad cy D mE Q) args s 0 0 (gA 30 ad)) (F0 m 229 ls []) := by
  obtain ⟨n, h⟩ := h
  induction n generalizing x1 I J H locs ls with
  | zero => exact False.elim h
  | succ n ih => exact w_X12_reason_229 C  (fun hk9 hw9 hl9 => ih hw9 hl9 hk9) h hw hl
set_option maxHeartbeats 4000000 in
set_option maxRecDepth 100000 in
theorem w_X12_reason_168 {Q : Int32 → MI → MJ → Prop} (C : gC RX12 cX12_reason 5 (some .int) 30 ad cy D mE p s m args meth c) {kL39 : Int32 × MI × MJ → Prop} (hL39 : ∀ {x1 : Int32} {I : MI} {J : MJ} {H : Heap} {locs : List Loc} {ls : Array Slot}, kL39 (x1, I, J) → gH (mS ad cy) 30 ad D s I J H locs → lv_has ls 5 [(0, .ref (ad 0)), (1, .int x1)] → W p l e rmX12_reason s m args below meth c H locs 0 0 (MQ below (gQi (mS ad cy) 30 ad cy D mE Q) args s 0 0 (gA 30 ad)) (F0 m 39 ls [])) {kL168 : Int32 × Int32 × Int32 × MI × MJ → Prop} (hL168 : ∀ {x1 : Int32} {x2 : Int32} {x4 : Int32} {I : MI} {J : MJ} {H : Heap} {locs : List Loc} {ls : Array Slot}, kL168 (x1, x2, x4, I, J) → gH (mS ad cy) 30 ad D s I J H locs → lv_has ls 5 [(0, .ref (ad 0)), (1, .int x1), (2, .int x2), (4, .int x4)] → W p l e rmX12_reason s m args below meth c H locs 0 0 (MQ below (gQi (mS ad cy) 30 ad cy D mE Q) args s 0 0 (gA 30 ad)) (F0 m 168 ls [])) {x1 : Int32} {x2 : Int32} {x4 : Int32} {I : MI} {J : MJ} {H : Heap} {locs : List Loc} {ls : Array Slot} (h : P_X12_reason_168 Q kL39 kL168 (x1, x2, x4, I, J)) (hw : gH (mS ad cy) 30 ad D s I J H locs) (hl : lv_has ls 5 [(0, .ref (ad 0)), (1, .int x1), (2, .int x2), (4, .int x4)]) : W p l e rmX12_reason s m args below meth c H locs 0 0 (MQ below (gQi (mS ad cy) 30 ad cy D mE Q) args s 0 0 (gA 30 ad)) (F0 m 168 ls []) := by
  obtain ⟨hx, hb, hC⟩ := id C
  refine lv_iload hx hb dX12_reason_168 (lv_at hl 3 rfl) ?_
  refine lv_bipush (v := 8) hx hb dX12_reason_170 (by decide) ?_
  refine lv_icmp_ge (tgt := 203) hx hb dX12_reason_172 (by decide) (fun c172 => ?_) (fun c172 => ?_)
  · have h := h.1 c172
    refine lv_iinc (v := x1 + 1) (lv' := [(1, .int (x1 + 1)), (0, .ref (ad 0)), (2, .int x2), (4, .int x4)]) hx hb dX12_reason_203 hl (k := 1) rfl rfl (by decide) rfl (fun ls hl => ?_)
    refine lv_goto (tgt := 39) hx hb dX12_reason_206 (by decide) ?_
    exact hL39 h hw (lv_sub hl [1, 0] rfl)
  · have h := h.2 c172
    refine lv_aload_n hx hb dX12_reason_175 rfl (lv_at hl 0 rfl) ?_
    refine g_get C hw f_RX12_93 ml_0 (ms_0 _ _) rfl dX12_reason_176 ?_
    refine lv_iload hx hb dX12_reason_179 (lv_at hl 3 rfl) ?_
    refine lv_dup2_11 hx hb dX12_reason_181 rfl rfl ?_
    refine g_iald C hw ml_28 ms_28 h.1 dX12_reason_182 ?_
    have h := h.2
    refine lv_aload_n hx hb dX12_reason_183 rfl (lv_at hl 0 rfl) ?_
    refine g_get C hw f_RX12_22 ml_0 (ms_0 _ _) rfl dX12_reason_184 ?_
    refine lv_bipush (v := 8) hx hb dX12_reason_187 (by decide) ?_
    refine lv_iload_n hx hb dX12_reason_189 rfl (lv_at hl 2 rfl) ?_
    refine lv_imul hx hb dX12_reason_190 ?_
    refine lv_iload hx hb dX12_reason_191 (lv_at hl 3 rfl) ?_
    refine lv_iadd hx hb dX12_reason_193 ?_
    refine g_iald C hw ml_5 ms_5 h.1 dX12_reason_194 ?_
    have h := h.2
    refine lv_isub hx hb dX12_reason_195 ?_
    refine g_iast C hw ml_28 ms_28 h.1 dX12_reason_196 (fun H locs hw => ?_)
    have h := h.2
    obtain ⟨I196, e196⟩ : ∃ z : MI, z = mI I 28 x4.toNatClampNeg ((I 28 x4.toNatClampNeg) - (I 5 (((8 : Int32) * x2) + x4).toNatClampNeg)) := ⟨_, rfl⟩
    have h := h I196 e196
    rw [← e196] at hw
    refine lv_iinc (v := x4 + 1) (lv' := [(4, .int (x4 + 1)), (0, .ref (ad 0)), (1, .int x1), (2, .int x2)]) hx hb dX12_reason_197 hl (k := 3) rfl rfl (by decide) rfl (fun ls hl => ?_)
    refine lv_goto (tgt := 168) hx hb dX12_reason_200 (by decide) ?_
    exact hL168 h hw (lv_sub hl [1, 2, 3, 0] rfl)
theorem wl_X12_reason_168 {Q : Int32 → MI → MJ → Prop} (C : gC RX12 cX12_reason 5 (some .int) 30 ad cy D mE p s m args meth c) {kL39 : Int32 × MI × MJ → Prop} (hL39 : ∀ {x1 : Int32} {I : MI} {J : MJ} {H : Heap} {locs : List Loc} {ls : Array Slot}, kL39 (x1, I, J) → gH (mS ad cy) 30 ad D s I J H locs → lv_has ls 5 [(0, .ref (ad 0)), (1, .int x1)] → W p l e rmX12_reason s m args below meth c H locs 0 0 (MQ below (gQi (mS ad cy) 30 ad cy D mE Q) args s 0 0 (gA 30 ad)) (F0 m 39 ls [])) {x1 : Int32} {x2 : Int32} {x4 : Int32} {I : MI} {J : MJ} {H : Heap} {locs : List Loc} {ls : Array Slot} (h : lpx (P_X12_reason_168 Q kL39) (x1, x2, x4, I, J)) (hw : gH (mS ad cy) 30 ad D s I J H locs) (hl : lv_has ls 5 [(0, .ref (ad 0)), (1, .int x1), (2, .int x2), (4, .int x4)]) : W p l e rmX12_reason s m args below meth c H locs 0 0 (MQ below (gQi (mS ad cy) 30 ad cy D mE Q) args s 0 0 (gA 30 ad)) (F0 m 168 ls []) := by
  obtain ⟨n, h⟩ := h
  induction n generalizing x1 x2 x4 I J H locs ls with
  | zero => exact False.elim h
  | succ n ih => exact w_X12_reason_168 C hL39 (fun hk9 hw9 hl9 => ih hw9 hl9 hk9) h hw hl
set_option maxHeartbeats 4000000 in
set_option maxRecDepth 100000 in
theorem w_X12_reason_110 {Q : Int32 → MI → MJ → Prop} (C : gC RX12 cX12_reason 5 (some .int) 30 ad cy D mE p s m args meth c) {kL39 : Int32 × MI × MJ → Prop} (hL39 : ∀ {x1 : Int32} {I : MI} {J : MJ} {H : Heap} {locs : List Loc} {ls : Array Slot}, kL39 (x1, I, J) → gH (mS ad cy) 30 ad D s I J H locs → lv_has ls 5 [(0, .ref (ad 0)), (1, .int x1)] → W p l e rmX12_reason s m args below meth c H locs 0 0 (MQ below (gQi (mS ad cy) 30 ad cy D mE Q) args s 0 0 (gA 30 ad)) (F0 m 39 ls [])) {x1 : Int32} {x2 : Int32} {s0 : Int32} {I : MI} {J : MJ} {H : Heap} {locs : List Loc} {ls : Array Slot} (h : P_X12_reason_110 Q kL39 x1 x2 s0 I J) (hw : gH (mS ad cy) 30 ad D s I J H locs) (hl : lv_has ls 5 [(0, .ref (ad 0)), (1, .int x1), (2, .int x2)]) : W p l e rmX12_reason s m args below meth c H locs 0 0 (MQ below (gQi (mS ad cy) 30 ad cy D mE Q) args s 0 0 (gA 30 ad)) (F0 m 110 ls [.int s0]) := by
  obtain ⟨hx, hb, hC⟩ := id C
  refine lv_aload_n hx hb dX12_reason_110 rfl (lv_at hl 0 rfl) ?_
  refine g_get C hw f_RX12_19 ml_0 (ms_0 _ _) rfl dX12_reason_111 ?_
  refine lv_iload_n hx hb dX12_reason_114 rfl (lv_at hl 2 rfl) ?_
  refine g_iald C hw ml_4 ms_4 h.1 dX12_reason_115 ?_
  have h := h.2
  refine g_cz hw (g_rS [.int s0, .int (I 4 x2.toNatClampNeg)] [] C hw (m_X12_has h) k_X12_has q_RX12_149 rfl hl.1 rfl (Nat.le_of_ble_eq_true rfl) ⟨⟨rfl, rfl⟩, Nat.le_of_ble_eq_true rfl, Nat.le_of_ble_eq_true rfl⟩ ⟨Nat.zero_le _, Nat.zero_le _⟩ dX12_reason_116) (fun r116 I116 J116 H locs z116 h hw => ?_)
  refine lv_if_ne (tgt := 124) hx hb dX12_reason_119 (by decide) (fun c119 => ?_) (fun c119 => ?_)
  · have h := h.1 c119
    refine lv_aload_n hx hb dX12_reason_124 rfl (lv_at hl 0 rfl) ?_
    refine lv_iload_n hx hb dX12_reason_125 rfl (lv_at hl 2 rfl) ?_
    refine g_ci hw (g_rV [.int x2] [] C hw (m_X12_wantedBy h) k_X12_wantedBy q_RX12_306 ml_0 (ms_0 _ _) rfl rfl hl.1 rfl (Nat.le_of_ble_eq_true rfl) ⟨⟨rfl, rfl⟩, Nat.le_of_ble_eq_true rfl, Nat.le_of_ble_eq_true rfl⟩ ⟨Nat.zero_le _, Nat.zero_le _⟩ dX12_reason_126) (fun r126 I126 J126 H locs h hw => ?_)
    refine lv_istore_n (lv' := [(3, .int r126), (0, .ref (ad 0)), (1, .int x1), (2, .int x2)]) hx hb dX12_reason_129 rfl hl (by decide) rfl (fun ls hl => ?_)
    refine lv_iload_n hx hb dX12_reason_130 rfl (lv_at hl 0 rfl) ?_
    refine lv_bipush (v := -9) hx hb dX12_reason_131 (by decide) ?_
    refine lv_icmp_eq (tgt := 165) hx hb dX12_reason_133 (by decide) (fun c133 => ?_) (fun c133 => ?_)
    · have h := h.1 c133
      refine lv_iconst (v := 0) hx hb dX12_reason_165 (by decide) ?_
      refine lv_istore (lv' := [(4, .int (0 : Int32)), (3, .int r126), (0, .ref (ad 0)), (1, .int x1), (2, .int x2)]) hx hb dX12_reason_166 hl (by decide) rfl (fun ls hl => ?_)
      exact wl_X12_reason_168 C hL39 h hw (lv_sub hl [2, 3, 4, 0] rfl)
    · have h := h.2 c133
      refine lv_aload_n hx hb dX12_reason_136 rfl (lv_at hl 1 rfl) ?_
      refine lv_iload_n hx hb dX12_reason_137 rfl (lv_at hl 0 rfl) ?_
      refine g_putI C hw fp_RX12_297 ml_0 ms_0 (st_11_42 ad _) (Nat.le_of_ble_eq_true rfl) rfl rfl dX12_reason_138 (fun H locs hw => ?_)
      obtain ⟨I138, e138⟩ : ∃ z : MI, z = mI I126 0 42 r126 := ⟨_, rfl⟩
      have h := h I138 e138
      rw [← e138] at hw
      refine lv_aload_n hx hb dX12_reason_141 rfl (lv_at hl 1 rfl) ?_
      refine lv_aload_n hx hb dX12_reason_142 rfl (lv_at hl 1 rfl) ?_
      refine g_get C hw f_RX12_22 ml_0 (ms_0 _ _) rfl dX12_reason_143 ?_
      refine lv_bipush (v := 8) hx hb dX12_reason_146 (by decide) ?_
      refine lv_iload_n hx hb dX12_reason_148 rfl (lv_at hl 3 rfl) ?_
      refine lv_imul hx hb dX12_reason_149 ?_
      refine lv_iload_n hx hb dX12_reason_150 rfl (lv_at hl 0 rfl) ?_
      refine lv_iadd hx hb dX12_reason_151 ?_
      refine g_iald C hw ml_5 ms_5 h.1 dX12_reason_152 ?_
      have h := h.2
      refine lv_aload_n hx hb dX12_reason_153 rfl (lv_at hl 1 rfl) ?_
      refine g_get C hw f_RX12_93 ml_0 (ms_0 _ _) rfl dX12_reason_154 ?_
      refine lv_iload_n hx hb dX12_reason_157 rfl (lv_at hl 0 rfl) ?_
      refine g_iald C hw ml_28 ms_28 h.1 dX12_reason_158 ?_
      have h := h.2
      refine lv_isub hx hb dX12_reason_159 ?_
      refine g_putI C hw fp_RX12_300 ml_0 ms_0 (st_11_43 ad _) (Nat.le_of_ble_eq_true rfl) rfl rfl dX12_reason_160 (fun H locs hw => ?_)
      obtain ⟨I160, e160⟩ : ∃ z : MI, z = mI I138 0 43 ((I138 5 (((8 : Int32) * x2) + r126).toNatClampNeg) - (I138 28 r126.toNatClampNeg)) := ⟨_, rfl⟩
      have h := h I160 e160
      rw [← e160] at hw
      refine lv_iconst (v := 3) hx hb dX12_reason_163 (by decide) ?_
      exact g_iret C hw h dX12_reason_164
  · have h := h.2 c119
    refine lv_iconst (v := 2) hx hb dX12_reason_122 (by decide) ?_
    exact g_iret C hw h dX12_reason_123
set_option maxHeartbeats 4000000 in
set_option maxRecDepth 100000 in
theorem w_X12_reason_39 {Q : Int32 → MI → MJ → Prop} (C : gC RX12 cX12_reason 5 (some .int) 30 ad cy D mE p s m args meth c) {kL39 : Int32 × MI × MJ → Prop} (hL39 : ∀ {x1 : Int32} {I : MI} {J : MJ} {H : Heap} {locs : List Loc} {ls : Array Slot}, kL39 (x1, I, J) → gH (mS ad cy) 30 ad D s I J H locs → lv_has ls 5 [(0, .ref (ad 0)), (1, .int x1)] → W p l e rmX12_reason s m args below meth c H locs 0 0 (MQ below (gQi (mS ad cy) 30 ad cy D mE Q) args s 0 0 (gA 30 ad)) (F0 m 39 ls [])) {x1 : Int32} {I : MI} {J : MJ} {H : Heap} {locs : List Loc} {ls : Array Slot} (h : P_X12_reason_39 Q kL39 (x1, I, J)) (hw : gH (mS ad cy) 30 ad D s I J H locs) (hl : lv_has ls 5 [(0, .ref (ad 0)), (1, .int x1)]) : W p l e rmX12_reason s m args below meth c H locs 0 0 (MQ below (gQi (mS ad cy) 30 ad cy D mE Q) args s 0 0 (gA 30 ad)) (F0 m 39 ls []) := by
  obtain ⟨hx, hb, hC⟩ := id C
  refine lv_iload_n hx hb dX12_reason_39 rfl (lv_at hl 1 rfl) ?_
  refine lv_aload_n hx hb dX12_reason_40 rfl (lv_at hl 0 rfl) ?_
  refine g_get C hw f_RX12_185 ml_0 (ms_0 _ _) rfl dX12_reason_41 ?_
  refine lv_icmp_ge (tgt := 209) hx hb dX12_reason_44 (by decide) (fun c44 => ?_) (fun c44 => ?_)
  · have h := h.1 c44
    refine lv_aload_n hx hb dX12_reason_209 rfl (lv_at hl 0 rfl) ?_
    refine lv_aload_n hx hb dX12_reason_210 rfl (lv_at hl 0 rfl) ?_
    refine g_get C hw f_RX12_185 ml_0 (ms_0 _ _) rfl dX12_reason_211 ?_
    refine g_putI C hw fp_RX12_303 ml_0 ms_0 (st_11_41 ad _) (Nat.le_of_ble_eq_true rfl) rfl rfl dX12_reason_214 (fun H locs hw => ?_)
    obtain ⟨I214, e214⟩ : ∃ z : MI, z = mI I 0 41 (I 0 15) := ⟨_, rfl⟩
    have h := h I214 e214
    rw [← e214] at hw
    refine lv_aload_n hx hb dX12_reason_217 rfl (lv_at hl 0 rfl) ?_
    refine g_get C hw f_RX12_185 ml_0 (ms_0 _ _) rfl dX12_reason_218 ?_
    refine lv_if_ne (tgt := 227) hx hb dX12_reason_221 (by decide) (fun c221 => ?_) (fun c221 => ?_)
    · have h := h.1 c221
      refine lv_iconst (v := 0) hx hb dX12_reason_227 (by decide) ?_
      refine lv_istore_n (lv' := [(1, .int (0 : Int32)), (0, .ref (ad 0))]) hx hb dX12_reason_228 rfl hl (by decide) rfl (fun ls hl => ?_)
      exact wl_X12_reason_229 C  h hw (lv_sub hl [1, 0] rfl)
    · have h := h.2 c221
      refine lv_bipush (v := 6) hx hb dX12_reason_224 (by decide) ?_
      exact g_iret C hw h dX12_reason_226
  · have h := h.2 c44
    refine lv_aload_n hx hb dX12_reason_47 rfl (lv_at hl 0 rfl) ?_
    refine g_get C hw f_RX12_41 ml_0 (ms_0 _ _) rfl dX12_reason_48 ?_
    refine lv_iload_n hx hb dX12_reason_51 rfl (lv_at hl 1 rfl) ?_
    refine g_iald C hw ml_11 ms_11 h.1 dX12_reason_52 ?_
    have h := h.2
    refine lv_istore_n (lv' := [(2, .int (I 11 x1.toNatClampNeg)), (0, .ref (ad 0)), (1, .int x1)]) hx hb dX12_reason_53 rfl hl (by decide) rfl (fun ls hl => ?_)
    refine lv_aload_n hx hb dX12_reason_54 rfl (lv_at hl 1 rfl) ?_
    refine lv_iload_n hx hb dX12_reason_55 rfl (lv_at hl 2 rfl) ?_
    refine g_putI C hw fp_RX12_303 ml_0 ms_0 (st_11_41 ad _) (Nat.le_of_ble_eq_true rfl) rfl rfl dX12_reason_56 (fun H locs hw => ?_)
    obtain ⟨I56, e56⟩ : ∃ z : MI, z = mI I 0 41 x1 := ⟨_, rfl⟩
    have h := h I56 e56
    rw [← e56] at hw
    refine lv_aload_n hx hb dX12_reason_59 rfl (lv_at hl 1 rfl) ?_
    refine g_get C hw f_RX12_25 ml_0 (ms_0 _ _) rfl dX12_reason_60 ?_
    refine lv_bipush (v := 8) hx hb dX12_reason_63 (by decide) ?_
    refine g_iald C hw ml_6 ms_6 h.1 dX12_reason_65 ?_
    have h := h.2
    refine lv_iload_n hx hb dX12_reason_66 rfl (lv_at hl 0 rfl) ?_
    refine g_cz hw (g_rS [.int (I56 6 (8 : Int32).toNatClampNeg), .int (I 11 x1.toNatClampNeg)] [] C hw (m_X12_has h) k_X12_has q_RX12_149 rfl hl.1 rfl (Nat.le_of_ble_eq_true rfl) ⟨⟨rfl, rfl⟩, Nat.le_of_ble_eq_true rfl, Nat.le_of_ble_eq_true rfl⟩ ⟨Nat.zero_le _, Nat.zero_le _⟩ dX12_reason_67) (fun r67 I67 J67 H locs z67 h hw => ?_)
    refine lv_if_eq (tgt := 75) hx hb dX12_reason_70 (by decide) (fun c70 => ?_) (fun c70 => ?_)
    · have h := h.1 c70
      refine lv_iload_n hx hb dX12_reason_75 rfl (lv_at hl 2 rfl) ?_
      refine lv_if_ne (tgt := 89) hx hb dX12_reason_76 (by decide) (fun c76 => ?_) (fun c76 => ?_)
      · have h := h.1 c76
        refine lv_aload_n hx hb dX12_reason_89 rfl (lv_at hl 1 rfl) ?_
        refine g_get C hw f_RX12_25 ml_0 (ms_0 _ _) rfl dX12_reason_90 ?_
        refine lv_bipush (v := 21) hx hb dX12_reason_93 (by decide) ?_
        refine lv_aload_n hx hb dX12_reason_95 rfl (lv_at hl 1 rfl) ?_
        refine g_get C hw f_RX12_19 ml_0 (ms_0 _ _) rfl dX12_reason_96 ?_
        refine lv_aload_n hx hb dX12_reason_99 rfl (lv_at hl 1 rfl) ?_
        refine g_get C hw f_RX12_41 ml_0 (ms_0 _ _) rfl dX12_reason_100 ?_
        refine lv_iload_n hx hb dX12_reason_103 rfl (lv_at hl 2 rfl) ?_
        refine lv_iconst (v := 1) hx hb dX12_reason_104 (by decide) ?_
        refine lv_isub hx hb dX12_reason_105 ?_
        refine g_iald C hw ml_11 ms_11 h.1 dX12_reason_106 ?_
        have h := h.2
        refine g_iald C hw ml_4 ms_4 h.1 dX12_reason_107 ?_
        have h := h.2
        refine lv_iadd hx hb dX12_reason_108 ?_
        refine g_iald C hw ml_6 ms_6 h.1 dX12_reason_109 ?_
        have h := h.2
        exact w_X12_reason_110 C hL39 h hw (lv_sub hl [1, 2, 0] rfl)
      · have h := h.2 c76
        refine lv_aload_n hx hb dX12_reason_79 rfl (lv_at hl 1 rfl) ?_
        refine g_get C hw f_RX12_25 ml_0 (ms_0 _ _) rfl dX12_reason_80 ?_
        refine lv_bipush (v := 19) hx hb dX12_reason_83 (by decide) ?_
        refine g_iald C hw ml_6 ms_6 h.1 dX12_reason_85 ?_
        have h := h.2
        refine lv_goto (tgt := 110) hx hb dX12_reason_86 (by decide) ?_
        exact w_X12_reason_110 C hL39 h hw (lv_sub hl [1, 2, 0] rfl)
    · have h := h.2 c70
      refine lv_iconst (v := 1) hx hb dX12_reason_73 (by decide) ?_
      exact g_iret C hw h dX12_reason_74
theorem wl_X12_reason_39 {Q : Int32 → MI → MJ → Prop} (C : gC RX12 cX12_reason 5 (some .int) 30 ad cy D mE p s m args meth c) {x1 : Int32} {I : MI} {J : MJ} {H : Heap} {locs : List Loc} {ls : Array Slot} (h : lpx (P_X12_reason_39 Q) (x1, I, J)) (hw : gH (mS ad cy) 30 ad D s I J H locs) (hl : lv_has ls 5 [(0, .ref (ad 0)), (1, .int x1)]) : W p l e rmX12_reason s m args below meth c H locs 0 0 (MQ below (gQi (mS ad cy) 30 ad cy D mE Q) args s 0 0 (gA 30 ad)) (F0 m 39 ls []) := by
  obtain ⟨n, h⟩ := h
  induction n generalizing x1 I J H locs ls with
  | zero => exact False.elim h
  | succ n ih => exact w_X12_reason_39 C  (fun hk9 hw9 hl9 => ih hw9 hl9 hk9) h hw hl
set_option maxHeartbeats 4000000 in
set_option maxRecDepth 100000 in
theorem w_X12_reason_13 {Q : Int32 → MI → MJ → Prop} (C : gC RX12 cX12_reason 5 (some .int) 30 ad cy D mE p s m args meth c) {kL13 : Int32 × MI × MJ → Prop} (hL13 : ∀ {x1 : Int32} {I : MI} {J : MJ} {H : Heap} {locs : List Loc} {ls : Array Slot}, kL13 (x1, I, J) → gH (mS ad cy) 30 ad D s I J H locs → lv_has ls 5 [(0, .ref (ad 0)), (1, .int x1)] → W p l e rmX12_reason s m args below meth c H locs 0 0 (MQ below (gQi (mS ad cy) 30 ad cy D mE Q) args s 0 0 (gA 30 ad)) (F0 m 13 ls [])) {x1 : Int32} {I : MI} {J : MJ} {H : Heap} {locs : List Loc} {ls : Array Slot} (h : P_X12_reason_13 Q kL13 (x1, I, J)) (hw : gH (mS ad cy) 30 ad D s I J H locs) (hl : lv_has ls 5 [(0, .ref (ad 0)), (1, .int x1)]) : W p l e rmX12_reason s m args below meth c H locs 0 0 (MQ below (gQi (mS ad cy) 30 ad cy D mE Q) args s 0 0 (gA 30 ad)) (F0 m 13 ls []) := by
  obtain ⟨hx, hb, hC⟩ := id C
  refine lv_iload_n hx hb dX12_reason_13 rfl (lv_at hl 1 rfl) ?_
  refine lv_bipush (v := 8) hx hb dX12_reason_14 (by decide) ?_
  refine lv_icmp_ge (tgt := 37) hx hb dX12_reason_16 (by decide) (fun c16 => ?_) (fun c16 => ?_)
  · have h := h.1 c16
    refine lv_iconst (v := 0) hx hb dX12_reason_37 (by decide) ?_
    refine lv_istore_n (lv' := [(1, .int (0 : Int32)), (0, .ref (ad 0))]) hx hb dX12_reason_38 rfl hl (by decide) rfl (fun ls hl => ?_)
    exact wl_X12_reason_39 C  h hw (lv_sub hl [1, 0] rfl)
  · have h := h.2 c16
    refine lv_aload_n hx hb dX12_reason_19 rfl (lv_at hl 0 rfl) ?_
    refine g_get C hw f_RX12_93 ml_0 (ms_0 _ _) rfl dX12_reason_20 ?_
    refine lv_iload_n hx hb dX12_reason_23 rfl (lv_at hl 1 rfl) ?_
    refine lv_aload_n hx hb dX12_reason_24 rfl (lv_at hl 0 rfl) ?_
    refine g_get C hw f_RX12_25 ml_0 (ms_0 _ _) rfl dX12_reason_25 ?_
    refine lv_iload_n hx hb dX12_reason_28 rfl (lv_at hl 1 rfl) ?_
    refine g_iald C hw ml_6 ms_6 h.1 dX12_reason_29 ?_
    have h := h.2
    refine g_iast C hw ml_28 ms_28 h.1 dX12_reason_30 (fun H locs hw => ?_)
    have h := h.2
    obtain ⟨I30, e30⟩ : ∃ z : MI, z = mI I 28 x1.toNatClampNeg (I 6 x1.toNatClampNeg) := ⟨_, rfl⟩
    have h := h I30 e30
    rw [← e30] at hw
    refine lv_iinc (v := x1 + 1) (lv' := [(1, .int (x1 + 1)), (0, .ref (ad 0))]) hx hb dX12_reason_31 hl (k := 1) rfl rfl (by decide) rfl (fun ls hl => ?_)
    refine lv_goto (tgt := 13) hx hb dX12_reason_34 (by decide) ?_
    exact hL13 h hw (lv_sub hl [1, 0] rfl)
theorem wl_X12_reason_13 {Q : Int32 → MI → MJ → Prop} (C : gC RX12 cX12_reason 5 (some .int) 30 ad cy D mE p s m args meth c) {x1 : Int32} {I : MI} {J : MJ} {H : Heap} {locs : List Loc} {ls : Array Slot} (h : lpx (P_X12_reason_13 Q) (x1, I, J)) (hw : gH (mS ad cy) 30 ad D s I J H locs) (hl : lv_has ls 5 [(0, .ref (ad 0)), (1, .int x1)]) : W p l e rmX12_reason s m args below meth c H locs 0 0 (MQ below (gQi (mS ad cy) 30 ad cy D mE Q) args s 0 0 (gA 30 ad)) (F0 m 13 ls []) := by
  obtain ⟨n, h⟩ := h
  induction n generalizing x1 I J H locs ls with
  | zero => exact False.elim h
  | succ n ih => exact w_X12_reason_13 C  (fun hk9 hw9 hl9 => ih hw9 hl9 hk9) h hw hl
set_option maxHeartbeats 4000000 in
set_option maxRecDepth 100000 in
theorem w_X12_reason {Q : Int32 → MI → MJ → Prop} (C : gC RX12 cX12_reason 5 (some .int) 30 ad cy D mE p s m args meth c) {I : MI} {J : MJ} {H : Heap} {locs : List Loc} {ls : Array Slot} (h : P_X12_reason I J Q) (hw : gH (mS ad cy) 30 ad D s I J H locs) (hl : lv_has ls 5 [(0, .ref (ad 0))]) : W p l e rmX12_reason s m args below meth c H locs 0 0 (MQ below (gQi (mS ad cy) 30 ad cy D mE Q) args s 0 0 (gA 30 ad)) (F0 m 0 ls []) := by
  obtain ⟨hx, hb, hC⟩ := id C
  refine lv_aload_n hx hb dX12_reason_0 rfl (lv_at hl 0 rfl) ?_
  refine lv_bipush (v := -9) hx hb dX12_reason_1 (by decide) ?_
  refine g_putI C hw fp_RX12_297 ml_0 ms_0 (st_11_42 ad _) (Nat.le_of_ble_eq_true rfl) rfl rfl dX12_reason_3 (fun H locs hw => ?_)
  obtain ⟨I3, e3⟩ : ∃ z : MI, z = mI I 0 42 (-9 : Int32) := ⟨_, rfl⟩
  have h := h I3 e3
  rw [← e3] at hw
  refine lv_aload_n hx hb dX12_reason_6 rfl (lv_at hl 0 rfl) ?_
  refine lv_iconst (v := 0) hx hb dX12_reason_7 (by decide) ?_
  refine g_putI C hw fp_RX12_300 ml_0 ms_0 (st_11_43 ad _) (Nat.le_of_ble_eq_true rfl) rfl rfl dX12_reason_8 (fun H locs hw => ?_)
  obtain ⟨I8, e8⟩ : ∃ z : MI, z = mI I3 0 43 (0 : Int32) := ⟨_, rfl⟩
  have h := h I8 e8
  rw [← e8] at hw
  refine lv_iconst (v := 0) hx hb dX12_reason_11 (by decide) ?_
  refine lv_istore_n (lv' := [(1, .int (0 : Int32)), (0, .ref (ad 0))]) hx hb dX12_reason_12 rfl hl (by decide) rfl (fun ls hl => ?_)
  exact wl_X12_reason_13 C  h hw (lv_sub hl [1, 0] rfl)
theorem m_X12_reason {l : Launch} {Q : Int32 → MI → MJ → Prop} {I : MI} {J : MJ} (h : P_X12_reason I J Q) : Met l yX12_reason (xws yX12_reason cX12_reason 5 (some .int)) rmX12_reason (va_Pc [.ref (ad 0)] (gB (mS ad cy) 30 ad cy D mE I J)) (gQi (mS ad cy) 30 ad cy D mE Q) 0 0 (gA 30 ad) :=
  g_met (mE_ok ad) rfl (by decide) (Nat.le_of_ble_eq_true rfl) (fun p e s m below meth c ls C hw hl => w_X12_reason C  h hw hl)
/-! BagPhrasesModel.why(I)I -/
def P_X12_why (a0 : Int32) (I : MI) (J : MJ) (Q : Int32 → MI → MJ → Prop) : Prop :=
  P_X12_in a0.toInt64 (0 : Int64) (3 : Int64) I J (fun r6 I6 J6 => ((¬ r6 = 0 → P_X12_reason I6 J6 (fun r16 I16 J16 => ((¬ a0 = 0 → ((¬ a0 = (1 : Int32) → ((¬ a0 = (2 : Int32) → Q (I16 0 43) I16 J16) ∧ (a0 = (2 : Int32) → Q (I16 0 42) I16 J16))) ∧ (a0 = (1 : Int32) → Q (I16 0 41) I16 J16))) ∧ (a0 = 0 → Q r16 I16 J16)))) ∧ (r6 = 0 → Q (-2 : Int32) I6 J6)))
abbrev rmX12_why : Room := { frames := 2, cells := 0, slots := 0, locals := 48 }
set_option maxHeartbeats 4000000 in
set_option maxRecDepth 100000 in
theorem w_X12_why {Q : Int32 → MI → MJ → Prop} (C : gC RX12 cX12_why 3 (some .int) 30 ad cy D mE p s m args meth c) {a0 : Int32} {I : MI} {J : MJ} {H : Heap} {locs : List Loc} {ls : Array Slot} (h : P_X12_why a0 I J Q) (hw : gH (mS ad cy) 30 ad D s I J H locs) (hl : lv_has ls 3 [(0, .ref (ad 0)), (1, .int a0)]) : W p l e rmX12_why s m args below meth c H locs 0 0 (MQ below (gQi (mS ad cy) 30 ad cy D mE Q) args s 0 0 (gA 30 ad)) (F0 m 0 ls []) := by
  obtain ⟨hx, hb, hC⟩ := id C
  refine lv_iload_n hx hb dX12_why_0 rfl (lv_at hl 1 rfl) ?_
  refine lv_i2l hx hb dX12_why_1 rfl ?_
  refine lv_lconst (v := 0) hx hb dX12_why_2 (by decide) ?_
  refine lv_ldc2 (v := (3)) hx hb hC.2.2.1 (hC.2.2.2.1 _ q_RX12_113) dX12_why_3 ?_
  refine g_cz hw (g_rS [.long a0.toInt64, .long (0 : Int64), .long (3 : Int64)] [] C hw (m_X12_in h) k_X12_in q_RX12_107 rfl hl.1 rfl (Nat.le_of_ble_eq_true rfl) ⟨⟨rfl, rfl⟩, Nat.le_of_ble_eq_true rfl, Nat.le_of_ble_eq_true rfl⟩ ⟨Nat.zero_le _, Nat.zero_le _⟩ dX12_why_6) (fun r6 I6 J6 H locs z6 h hw => ?_)
  refine lv_if_ne (tgt := 15) hx hb dX12_why_9 (by decide) (fun c9 => ?_) (fun c9 => ?_)
  · have h := h.1 c9
    refine lv_aload_n hx hb dX12_why_15 rfl (lv_at hl 0 rfl) ?_
    refine g_ci hw (g_rV [] [] C hw (m_X12_reason h) k_X12_reason q_RX12_309 ml_0 (ms_0 _ _) rfl rfl hl.1 rfl (Nat.le_of_ble_eq_true rfl) ⟨⟨rfl, rfl⟩, Nat.le_of_ble_eq_true rfl, Nat.le_of_ble_eq_true rfl⟩ ⟨Nat.zero_le _, Nat.zero_le _⟩ dX12_why_16) (fun r16 I16 J16 H locs h hw => ?_)
    refine lv_istore_n (lv' := [(2, .int r16), (0, .ref (ad 0)), (1, .int a0)]) hx hb dX12_why_19 rfl hl (by decide) rfl (fun ls hl => ?_)
    refine lv_iload_n hx hb dX12_why_20 rfl (lv_at hl 2 rfl) ?_
    refine lv_if_ne (tgt := 28) hx hb dX12_why_21 (by decide) (fun c21 => ?_) (fun c21 => ?_)
    · have h := h.1 c21
      refine lv_iload_n hx hb dX12_why_28 rfl (lv_at hl 2 rfl) ?_
      refine lv_iconst (v := 1) hx hb dX12_why_29 (by decide) ?_
      refine lv_icmp_ne (tgt := 40) hx hb dX12_why_30 (by decide) (fun c30 => ?_) (fun c30 => ?_)
      · have h := h.1 c30
        refine lv_iload_n hx hb dX12_why_40 rfl (lv_at hl 2 rfl) ?_
        refine lv_iconst (v := 2) hx hb dX12_why_41 (by decide) ?_
        refine lv_icmp_ne (tgt := 52) hx hb dX12_why_42 (by decide) (fun c42 => ?_) (fun c42 => ?_)
        · have h := h.1 c42
          refine lv_aload_n hx hb dX12_why_52 rfl (lv_at hl 1 rfl) ?_
          refine g_get C hw f_RX12_300 ml_0 (ms_0 _ _) rfl dX12_why_53 ?_
          exact g_iret C hw h dX12_why_56
        · have h := h.2 c42
          refine lv_aload_n hx hb dX12_why_45 rfl (lv_at hl 1 rfl) ?_
          refine g_get C hw f_RX12_297 ml_0 (ms_0 _ _) rfl dX12_why_46 ?_
          refine lv_goto (tgt := 56) hx hb dX12_why_49 (by decide) ?_
          exact g_iret C hw h dX12_why_56
      · have h := h.2 c30
        refine lv_aload_n hx hb dX12_why_33 rfl (lv_at hl 1 rfl) ?_
        refine g_get C hw f_RX12_303 ml_0 (ms_0 _ _) rfl dX12_why_34 ?_
        refine lv_goto (tgt := 56) hx hb dX12_why_37 (by decide) ?_
        exact g_iret C hw h dX12_why_56
    · have h := h.2 c21
      refine lv_iload_n hx hb dX12_why_24 rfl (lv_at hl 0 rfl) ?_
      refine lv_goto (tgt := 56) hx hb dX12_why_25 (by decide) ?_
      exact g_iret C hw h dX12_why_56
  · have h := h.2 c9
    refine lv_bipush (v := -2) hx hb dX12_why_12 (by decide) ?_
    exact g_iret C hw h dX12_why_14
theorem m_X12_why {l : Launch} {a0 : Int32} {Q : Int32 → MI → MJ → Prop} {I : MI} {J : MJ} (h : P_X12_why a0 I J Q) : Met l yX12_why (xws yX12_why cX12_why 3 (some .int)) rmX12_why (va_Pc [.ref (ad 0), .int a0] (gB (mS ad cy) 30 ad cy D mE I J)) (gQi (mS ad cy) 30 ad cy D mE Q) 0 0 (gA 30 ad) :=
  g_met (mE_ok ad) rfl (by decide) (Nat.le_of_ble_eq_true rfl) (fun p e s m below meth c ls C hw hl => w_X12_why C  h hw hl)
/-! BagPhrasesModel.number()J -/
def P_X12_number_85 (Q : Int64 → MI → MJ → Prop) (kL33 : Int64 × Int32 × Int32 × Int32 × MI × MJ → Prop) (kL45 : Int64 × Int32 × Int32 × Int32 × Int32 × MI × MJ → Prop) (x3 : Int32) (x4 : Int32) (x5 : Int32) (x6 : Int32) (s0 : Int64) (s1 : Int64) (I : MI) (J : MJ) : Prop :=
  kL45 ((s0 + s1), x3, x4, x5, (x6 + 1), I, J)
def P_X12_number_45 (Q : Int64 → MI → MJ → Prop) (kL33 : Int64 × Int32 × Int32 × Int32 × MI × MJ → Prop) (kL45 : Int64 × Int32 × Int32 × Int32 × Int32 × MI × MJ → Prop) : Int64 × Int32 × Int32 × Int32 × Int32 × MI × MJ → Prop := fun z => match z with
  | (x1, x3, x4, x5, x6, I, J) => vp_in x5 12 ∧ ((((I 11 x5.toNatClampNeg) ≤ x6 → vp_in x5 12 ∧ (vp_in (I 11 x5.toNatClampNeg) 10 ∧ (vp_in x5 12 ∧ (vp_in (I 11 x5.toNatClampNeg) 10 ∧ (kL33 (x1, (x3 - (I 21 (I 11 x5.toNatClampNeg).toNatClampNeg)), (I 4 (I 11 x5.toNatClampNeg).toNatClampNeg), (x5 + 1), I, J)))))) ∧ (¬ (I 11 x5.toNatClampNeg) ≤ x6 → P_X12_mayCome x3 x4 x6 I J (fun r64 I64 J64 => ((r64 = 0 → P_X12_number_85 Q kL33 kL45 x3 x4 x5 x6 x1 (0 : Int64) I64 J64) ∧ (¬ r64 = 0 → P_X12_endsAs x3 x6 I64 J64 (fun r78 I78 J78 => P_X12_number_85 Q kL33 kL45 x3 x4 x5 x6 x1 r78 I78 J78)))))))
def P_X12_number_33 (Q : Int64 → MI → MJ → Prop) (kL33 : Int64 × Int32 × Int32 × Int32 × MI × MJ → Prop) : Int64 × Int32 × Int32 × Int32 × MI × MJ → Prop := fun z => match z with
  | (x1, x3, x4, x5, I, J) => (((I 0 15) ≤ x5 → Q x1 I J) ∧ (¬ (I 0 15) ≤ x5 → lpx (P_X12_number_45 Q kL33) (x1, x3, x4, x5, (0 : Int32), I, J)))
def P_X12_number (I : MI) (J : MJ) (Q : Int64 → MI → MJ → Prop) : Prop :=
  P_X12_reason I J (fun r1 I1 J1 => ((r1 = 0 → P_X12_manyOf 6 I1 J1 (fun r16 I16 J16 => lpx (P_X12_number_33 Q) ((0 : Int64), (I16 0 31), (4 : Int32), (0 : Int32), I16, J16))) ∧ (¬ r1 = 0 → Q (-9 : Int64) I1 J1)))
abbrev rmX12_number : Room := { frames := 4, cells := 0, slots := 0, locals := 91 }
set_option maxHeartbeats 4000000 in
set_option maxRecDepth 100000 in
theorem w_X12_number_85 {Q : Int64 → MI → MJ → Prop} (C : gC RX12 cX12_number 7 (some .long) 30 ad cy D mE p s m args meth c) {kL33 : Int64 × Int32 × Int32 × Int32 × MI × MJ → Prop} (hL33 : ∀ {x1 : Int64} {x3 : Int32} {x4 : Int32} {x5 : Int32} {I : MI} {J : MJ} {H : Heap} {locs : List Loc} {ls : Array Slot}, kL33 (x1, x3, x4, x5, I, J) → gH (mS ad cy) 30 ad D s I J H locs → lv_has ls 7 [(0, .ref (ad 0)), (1, .long x1), (3, .int x3), (4, .int x4), (5, .int x5)] → W p l e rmX12_number s m args below meth c H locs 0 0 (MQ below (gQl (mS ad cy) 30 ad cy D mE Q) args s 0 0 (gA 30 ad)) (F0 m 33 ls [])) {kL45 : Int64 × Int32 × Int32 × Int32 × Int32 × MI × MJ → Prop} (hL45 : ∀ {x1 : Int64} {x3 : Int32} {x4 : Int32} {x5 : Int32} {x6 : Int32} {I : MI} {J : MJ} {H : Heap} {locs : List Loc} {ls : Array Slot}, kL45 (x1, x3, x4, x5, x6, I, J) → gH (mS ad cy) 30 ad D s I J H locs → lv_has ls 7 [(0, .ref (ad 0)), (1, .long x1), (3, .int x3), (4, .int x4), (5, .int x5), (6, .int x6)] → W p l e rmX12_number s m args below meth c H locs 0 0 (MQ below (gQl (mS ad cy) 30 ad cy D mE Q) args s 0 0 (gA 30 ad)) (F0 m 45 ls [])) {x3 : Int32} {x4 : Int32} {x5 : Int32} {x6 : Int32} {s0 : Int64} {s1 : Int64} {I : MI} {J : MJ} {H : Heap} {locs : List Loc} {ls : Array Slot} (h : P_X12_number_85 Q kL33 kL45 x3 x4 x5 x6 s0 s1 I J) (hw : gH (mS ad cy) 30 ad D s I J H locs) (hl : lv_has ls 7 [(0, .ref (ad 0)), (3, .int x3), (4, .int x4), (5, .int x5), (6, .int x6)]) : W p l e rmX12_number s m args below meth c H locs 0 0 (MQ below (gQl (mS ad cy) 30 ad cy D mE Q) args s 0 0 (gA 30 ad)) (F0 m 85 ls [.long s1, .long s0]) := by
  obtain ⟨hx, hb, hC⟩ := id C
  refine lv_ladd hx hb dX12_number_85 ?_
  refine lv_lstore_n (lv' := [(1, .long (s0 + s1)), (0, .ref (ad 0)), (3, .int x3), (4, .int x4), (5, .int x5), (6, .int x6)]) hx hb dX12_number_86 rfl hl (by decide) rfl (fun ls hl => ?_)
  refine lv_iinc (v := x6 + 1) (lv' := [(6, .int (x6 + 1)), (1, .long (s0 + s1)), (0, .ref (ad 0)), (3, .int x3), (4, .int x4), (5, .int x5)]) hx hb dX12_number_87 hl (k := 5) rfl rfl (by decide) rfl (fun ls hl => ?_)
  refine lv_goto (tgt := 45) hx hb dX12_number_90 (by decide) ?_
  exact hL45 h hw (lv_sub hl [2, 1, 3, 4, 5, 0] rfl)
set_option maxHeartbeats 4000000 in
set_option maxRecDepth 100000 in
theorem w_X12_number_45 {Q : Int64 → MI → MJ → Prop} (C : gC RX12 cX12_number 7 (some .long) 30 ad cy D mE p s m args meth c) {kL33 : Int64 × Int32 × Int32 × Int32 × MI × MJ → Prop} (hL33 : ∀ {x1 : Int64} {x3 : Int32} {x4 : Int32} {x5 : Int32} {I : MI} {J : MJ} {H : Heap} {locs : List Loc} {ls : Array Slot}, kL33 (x1, x3, x4, x5, I, J) → gH (mS ad cy) 30 ad D s I J H locs → lv_has ls 7 [(0, .ref (ad 0)), (1, .long x1), (3, .int x3), (4, .int x4), (5, .int x5)] → W p l e rmX12_number s m args below meth c H locs 0 0 (MQ below (gQl (mS ad cy) 30 ad cy D mE Q) args s 0 0 (gA 30 ad)) (F0 m 33 ls [])) {kL45 : Int64 × Int32 × Int32 × Int32 × Int32 × MI × MJ → Prop} (hL45 : ∀ {x1 : Int64} {x3 : Int32} {x4 : Int32} {x5 : Int32} {x6 : Int32} {I : MI} {J : MJ} {H : Heap} {locs : List Loc} {ls : Array Slot}, kL45 (x1, x3, x4, x5, x6, I, J) → gH (mS ad cy) 30 ad D s I J H locs → lv_has ls 7 [(0, .ref (ad 0)), (1, .long x1), (3, .int x3), (4, .int x4), (5, .int x5), (6, .int x6)] → W p l e rmX12_number s m args below meth c H locs 0 0 (MQ below (gQl (mS ad cy) 30 ad cy D mE Q) args s 0 0 (gA 30 ad)) (F0 m 45 ls [])) {x1 : Int64} {x3 : Int32} {x4 : Int32} {x5 : Int32} {x6 : Int32} {I : MI} {J : MJ} {H : Heap} {locs : List Loc} {ls : Array Slot} (h : P_X12_number_45 Q kL33 kL45 (x1, x3, x4, x5, x6, I, J)) (hw : gH (mS ad cy) 30 ad D s I J H locs) (hl : lv_has ls 7 [(0, .ref (ad 0)), (1, .long x1), (3, .int x3), (4, .int x4), (5, .int x5), (6, .int x6)]) : W p l e rmX12_number s m args below meth c H locs 0 0 (MQ below (gQl (mS ad cy) 30 ad cy D mE Q) args s 0 0 (gA 30 ad)) (F0 m 45 ls []) := by
  obtain ⟨hx, hb, hC⟩ := id C
  refine lv_iload hx hb dX12_number_45 (lv_at hl 5 rfl) ?_
  refine lv_aload_n hx hb dX12_number_47 rfl (lv_at hl 0 rfl) ?_
  refine g_get C hw f_RX12_41 ml_0 (ms_0 _ _) rfl dX12_number_48 ?_
  refine lv_iload hx hb dX12_number_51 (lv_at hl 4 rfl) ?_
  refine g_iald C hw ml_11 ms_11 h.1 dX12_number_53 ?_
  have h := h.2
  refine lv_icmp_ge (tgt := 93) hx hb dX12_number_54 (by decide) (fun c54 => ?_) (fun c54 => ?_)
  · have h := h.1 c54
    refine lv_iload_n hx hb dX12_number_93 rfl (lv_at hl 2 rfl) ?_
    refine lv_aload_n hx hb dX12_number_94 rfl (lv_at hl 0 rfl) ?_
    refine g_get C hw f_RX12_71 ml_0 (ms_0 _ _) rfl dX12_number_95 ?_
    refine lv_aload_n hx hb dX12_number_98 rfl (lv_at hl 0 rfl) ?_
    refine g_get C hw f_RX12_41 ml_0 (ms_0 _ _) rfl dX12_number_99 ?_
    refine lv_iload hx hb dX12_number_102 (lv_at hl 4 rfl) ?_
    refine g_iald C hw ml_11 ms_11 h.1 dX12_number_104 ?_
    have h := h.2
    refine g_iald C hw ml_21 ms_21 h.1 dX12_number_105 ?_
    have h := h.2
    refine lv_isub hx hb dX12_number_106 ?_
    refine lv_istore_n (lv' := [(3, .int (x3 - (I 21 (I 11 x5.toNatClampNeg).toNatClampNeg))), (0, .ref (ad 0)), (1, .long x1), (4, .int x4), (5, .int x5), (6, .int x6)]) hx hb dX12_number_107 rfl hl (by decide) rfl (fun ls hl => ?_)
    refine lv_aload_n hx hb dX12_number_108 rfl (lv_at hl 1 rfl) ?_
    refine g_get C hw f_RX12_19 ml_0 (ms_0 _ _) rfl dX12_number_109 ?_
    refine lv_aload_n hx hb dX12_number_112 rfl (lv_at hl 1 rfl) ?_
    refine g_get C hw f_RX12_41 ml_0 (ms_0 _ _) rfl dX12_number_113 ?_
    refine lv_iload hx hb dX12_number_116 (lv_at hl 4 rfl) ?_
    refine g_iald C hw ml_11 ms_11 h.1 dX12_number_118 ?_
    have h := h.2
    refine g_iald C hw ml_4 ms_4 h.1 dX12_number_119 ?_
    have h := h.2
    refine lv_istore (lv' := [(4, .int (I 4 (I 11 x5.toNatClampNeg).toNatClampNeg)), (3, .int (x3 - (I 21 (I 11 x5.toNatClampNeg).toNatClampNeg))), (0, .ref (ad 0)), (1, .long x1), (5, .int x5), (6, .int x6)]) hx hb dX12_number_120 hl (by decide) rfl (fun ls hl => ?_)
    refine lv_iinc (v := x5 + 1) (lv' := [(5, .int (x5 + 1)), (4, .int (I 4 (I 11 x5.toNatClampNeg).toNatClampNeg)), (3, .int (x3 - (I 21 (I 11 x5.toNatClampNeg).toNatClampNeg))), (0, .ref (ad 0)), (1, .long x1), (6, .int x6)]) hx hb dX12_number_122 hl (k := 4) rfl rfl (by decide) rfl (fun ls hl => ?_)
    refine lv_goto (tgt := 33) hx hb dX12_number_125 (by decide) ?_
    exact hL33 h hw (lv_sub hl [3, 4, 2, 1, 0] rfl)
  · have h := h.2 c54
    refine lv_lload_n hx hb dX12_number_57 rfl (lv_at hl 1 rfl) ?_
    refine lv_aload_n hx hb dX12_number_58 rfl (lv_at hl 0 rfl) ?_
    refine lv_iload_n hx hb dX12_number_59 rfl (lv_at hl 2 rfl) ?_
    refine lv_iload hx hb dX12_number_60 (lv_at hl 3 rfl) ?_
    refine lv_iload hx hb dX12_number_62 (lv_at hl 5 rfl) ?_
    refine g_cz hw (g_rV [.int x3, .int x4, .int x6] [.long x1] C hw (m_X12_mayCome h) k_X12_mayCome q_RX12_194 ml_0 (ms_0 _ _) rfl rfl hl.1 rfl (Nat.le_of_ble_eq_true rfl) ⟨⟨rfl, rfl⟩, Nat.le_of_ble_eq_true rfl, Nat.le_of_ble_eq_true rfl⟩ ⟨Nat.zero_le _, Nat.zero_le _⟩ dX12_number_64) (fun r64 I64 J64 H locs z64 h hw => ?_)
    refine lv_if_eq (tgt := 84) hx hb dX12_number_67 (by decide) (fun c67 => ?_) (fun c67 => ?_)
    · have h := h.1 c67
      refine lv_lconst (v := 0) hx hb dX12_number_84 (by decide) ?_
      exact w_X12_number_85 C hL33 hL45 h hw (lv_sub hl [0, 2, 3, 4, 5] rfl)
    · have h := h.2 c67
      refine lv_aload_n hx hb dX12_number_70 rfl (lv_at hl 0 rfl) ?_
      refine lv_aload_n hx hb dX12_number_71 rfl (lv_at hl 0 rfl) ?_
      refine g_get C hw f_RX12_74 ml_0 (ms_0 _ _) rfl dX12_number_72 ?_
      refine lv_iload_n hx hb dX12_number_75 rfl (lv_at hl 2 rfl) ?_
      refine lv_iload hx hb dX12_number_76 (lv_at hl 5 rfl) ?_
      refine g_cl hw (g_rV [.ref (ad 22), .int x3, .int x6] [.long x1] C hw (m_X12_endsAs h) k_X12_endsAs q_RX12_198 ml_0 (ms_0 _ _) rfl rfl hl.1 rfl (Nat.le_of_ble_eq_true rfl) ⟨⟨rfl, rfl⟩, Nat.le_of_ble_eq_true rfl, Nat.le_of_ble_eq_true rfl⟩ ⟨Nat.zero_le _, Nat.zero_le _⟩ dX12_number_78) (fun r78 I78 J78 H locs h hw => ?_)
      refine lv_goto (tgt := 85) hx hb dX12_number_81 (by decide) ?_
      exact w_X12_number_85 C hL33 hL45 h hw (lv_sub hl [0, 2, 3, 4, 5] rfl)
theorem wl_X12_number_45 {Q : Int64 → MI → MJ → Prop} (C : gC RX12 cX12_number 7 (some .long) 30 ad cy D mE p s m args meth c) {kL33 : Int64 × Int32 × Int32 × Int32 × MI × MJ → Prop} (hL33 : ∀ {x1 : Int64} {x3 : Int32} {x4 : Int32} {x5 : Int32} {I : MI} {J : MJ} {H : Heap} {locs : List Loc} {ls : Array Slot}, kL33 (x1, x3, x4, x5, I, J) → gH (mS ad cy) 30 ad D s I J H locs → lv_has ls 7 [(0, .ref (ad 0)), (1, .long x1), (3, .int x3), (4, .int x4), (5, .int x5)] → W p l e rmX12_number s m args below meth c H locs 0 0 (MQ below (gQl (mS ad cy) 30 ad cy D mE Q) args s 0 0 (gA 30 ad)) (F0 m 33 ls [])) {x1 : Int64} {x3 : Int32} {x4 : Int32} {x5 : Int32} {x6 : Int32} {I : MI} {J : MJ} {H : Heap} {locs : List Loc} {ls : Array Slot} (h : lpx (P_X12_number_45 Q kL33) (x1, x3, x4, x5, x6, I, J)) (hw : gH (mS ad cy) 30 ad D s I J H locs) (hl : lv_has ls 7 [(0, .ref (ad 0)), (1, .long x1), (3, .int x3), (4, .int x4), (5, .int x5), (6, .int x6)]) : W p l e rmX12_number s m args below meth c H locs 0 0 (MQ below (gQl (mS ad cy) 30 ad cy D mE Q) args s 0 0 (gA 30 ad)) (F0 m 45 ls []) := by
  obtain ⟨n, h⟩ := h
  induction n generalizing x1 x3 x4 x5 x6 I J H locs ls with
  | zero => exact False.elim h
  | succ n ih => exact w_X12_number_45 C hL33 (fun hk9 hw9 hl9 => ih hw9 hl9 hk9) h hw hl
set_option maxHeartbeats 4000000 in
set_option maxRecDepth 100000 in
theorem w_X12_number_33 {Q : Int64 → MI → MJ → Prop} (C : gC RX12 cX12_number 7 (some .long) 30 ad cy D mE p s m args meth c) {kL33 : Int64 × Int32 × Int32 × Int32 × MI × MJ → Prop} (hL33 : ∀ {x1 : Int64} {x3 : Int32} {x4 : Int32} {x5 : Int32} {I : MI} {J : MJ} {H : Heap} {locs : List Loc} {ls : Array Slot}, kL33 (x1, x3, x4, x5, I, J) → gH (mS ad cy) 30 ad D s I J H locs → lv_has ls 7 [(0, .ref (ad 0)), (1, .long x1), (3, .int x3), (4, .int x4), (5, .int x5)] → W p l e rmX12_number s m args below meth c H locs 0 0 (MQ below (gQl (mS ad cy) 30 ad cy D mE Q) args s 0 0 (gA 30 ad)) (F0 m 33 ls [])) {x1 : Int64} {x3 : Int32} {x4 : Int32} {x5 : Int32} {I : MI} {J : MJ} {H : Heap} {locs : List Loc} {ls : Array Slot} (h : P_X12_number_33 Q kL33 (x1, x3, x4, x5, I, J)) (hw : gH (mS ad cy) 30 ad D s I J H locs) (hl : lv_has ls 7 [(0, .ref (ad 0)), (1, .long x1), (3, .int x3), (4, .int x4), (5, .int x5)]) : W p l e rmX12_number s m args below meth c H locs 0 0 (MQ below (gQl (mS ad cy) 30 ad cy D mE Q) args s 0 0 (gA 30 ad)) (F0 m 33 ls []) := by
  obtain ⟨hx, hb, hC⟩ := id C
  refine lv_iload hx hb dX12_number_33 (lv_at hl 4 rfl) ?_
  refine lv_aload_n hx hb dX12_number_35 rfl (lv_at hl 0 rfl) ?_
  refine g_get C hw f_RX12_185 ml_0 (ms_0 _ _) rfl dX12_number_36 ?_
  refine lv_icmp_ge (tgt := 128) hx hb dX12_number_39 (by decide) (fun c39 => ?_) (fun c39 => ?_)
  · have h := h.1 c39
    refine lv_lload_n hx hb dX12_number_128 rfl (lv_at hl 1 rfl) ?_
    exact g_lret C hw h dX12_number_129
  · have h := h.2 c39
    refine lv_iconst (v := 0) hx hb dX12_number_42 (by decide) ?_
    refine lv_istore (lv' := [(6, .int (0 : Int32)), (0, .ref (ad 0)), (1, .long x1), (3, .int x3), (4, .int x4), (5, .int x5)]) hx hb dX12_number_43 hl (by decide) rfl (fun ls hl => ?_)
    exact wl_X12_number_45 C hL33 h hw (lv_sub hl [1, 2, 3, 4, 5, 0] rfl)
theorem wl_X12_number_33 {Q : Int64 → MI → MJ → Prop} (C : gC RX12 cX12_number 7 (some .long) 30 ad cy D mE p s m args meth c) {x1 : Int64} {x3 : Int32} {x4 : Int32} {x5 : Int32} {I : MI} {J : MJ} {H : Heap} {locs : List Loc} {ls : Array Slot} (h : lpx (P_X12_number_33 Q) (x1, x3, x4, x5, I, J)) (hw : gH (mS ad cy) 30 ad D s I J H locs) (hl : lv_has ls 7 [(0, .ref (ad 0)), (1, .long x1), (3, .int x3), (4, .int x4), (5, .int x5)]) : W p l e rmX12_number s m args below meth c H locs 0 0 (MQ below (gQl (mS ad cy) 30 ad cy D mE Q) args s 0 0 (gA 30 ad)) (F0 m 33 ls []) := by
  obtain ⟨n, h⟩ := h
  induction n generalizing x1 x3 x4 x5 I J H locs ls with
  | zero => exact False.elim h
  | succ n ih => exact w_X12_number_33 C  (fun hk9 hw9 hl9 => ih hw9 hl9 hk9) h hw hl
set_option maxHeartbeats 4000000 in
set_option maxRecDepth 100000 in
theorem w_X12_number {Q : Int64 → MI → MJ → Prop} (C : gC RX12 cX12_number 7 (some .long) 30 ad cy D mE p s m args meth c) {I : MI} {J : MJ} {H : Heap} {locs : List Loc} {ls : Array Slot} (h : P_X12_number I J Q) (hw : gH (mS ad cy) 30 ad D s I J H locs) (hl : lv_has ls 7 [(0, .ref (ad 0))]) : W p l e rmX12_number s m args below meth c H locs 0 0 (MQ below (gQl (mS ad cy) 30 ad cy D mE Q) args s 0 0 (gA 30 ad)) (F0 m 0 ls []) := by
  obtain ⟨hx, hb, hC⟩ := id C
  refine lv_aload_n hx hb dX12_number_0 rfl (lv_at hl 0 rfl) ?_
  refine g_ci hw (g_rV [] [] C hw (m_X12_reason h) k_X12_reason q_RX12_309 ml_0 (ms_0 _ _) rfl rfl hl.1 rfl (Nat.le_of_ble_eq_true rfl) ⟨⟨rfl, rfl⟩, Nat.le_of_ble_eq_true rfl, Nat.le_of_ble_eq_true rfl⟩ ⟨Nat.zero_le _, Nat.zero_le _⟩ dX12_number_1) (fun r1 I1 J1 H locs h hw => ?_)
  refine lv_if_eq (tgt := 11) hx hb dX12_number_4 (by decide) (fun c4 => ?_) (fun c4 => ?_)
  · have h := h.1 c4
    refine lv_aload_n hx hb dX12_number_11 rfl (lv_at hl 0 rfl) ?_
    refine lv_aload_n hx hb dX12_number_12 rfl (lv_at hl 0 rfl) ?_
    refine g_get C hw f_RX12_25 ml_0 (ms_0 _ _) rfl dX12_number_13 ?_
    refine g_cl hw (g_rV [.ref (ad 6)] [] C hw (m_X12_manyOf isRow_6 h) k_X12_manyOf q_RX12_272 ml_0 (ms_0 _ _) rfl rfl hl.1 rfl (Nat.le_of_ble_eq_true rfl) ⟨⟨rfl, rfl⟩, Nat.le_of_ble_eq_true rfl, Nat.le_of_ble_eq_true rfl⟩ ⟨Nat.zero_le _, Nat.zero_le _⟩ dX12_number_16) (fun r16 I16 J16 H locs h hw => ?_)
    refine lv_pop2_2 hx hb dX12_number_19 rfl ?_
    refine lv_lconst (v := 0) hx hb dX12_number_20 (by decide) ?_
    refine lv_lstore_n (lv' := [(1, .long (0 : Int64)), (0, .ref (ad 0))]) hx hb dX12_number_21 rfl hl (by decide) rfl (fun ls hl => ?_)
    refine lv_aload_n hx hb dX12_number_22 rfl (lv_at hl 1 rfl) ?_
    refine g_get C hw f_RX12_188 ml_0 (ms_0 _ _) rfl dX12_number_23 ?_
    refine lv_istore_n (lv' := [(3, .int (I16 0 31)), (1, .long (0 : Int64)), (0, .ref (ad 0))]) hx hb dX12_number_26 rfl hl (by decide) rfl (fun ls hl => ?_)
    refine lv_iconst (v := 4) hx hb dX12_number_27 (by decide) ?_
    refine lv_istore (lv' := [(4, .int (4 : Int32)), (3, .int (I16 0 31)), (1, .long (0 : Int64)), (0, .ref (ad 0))]) hx hb dX12_number_28 hl (by decide) rfl (fun ls hl => ?_)
    refine lv_iconst (v := 0) hx hb dX12_number_30 (by decide) ?_
    refine lv_istore (lv' := [(5, .int (0 : Int32)), (4, .int (4 : Int32)), (3, .int (I16 0 31)), (1, .long (0 : Int64)), (0, .ref (ad 0))]) hx hb dX12_number_31 hl (by decide) rfl (fun ls hl => ?_)
    exact wl_X12_number_33 C  h hw (lv_sub hl [4, 3, 2, 1, 0] rfl)
  · have h := h.2 c4
    refine lv_ldc2 (v := (-9)) hx hb hC.2.2.1 (hC.2.2.2.1 _ q_RX12_312) dX12_number_7 ?_
    exact g_lret C hw h dX12_number_10
theorem m_X12_number {l : Launch} {Q : Int64 → MI → MJ → Prop} {I : MI} {J : MJ} (h : P_X12_number I J Q) : Met l yX12_number (xws yX12_number cX12_number 7 (some .long)) rmX12_number (va_Pc [.ref (ad 0)] (gB (mS ad cy) 30 ad cy D mE I J)) (gQl (mS ad cy) 30 ad cy D mE Q) 0 0 (gA 30 ad) :=
  g_met (mE_ok ad) rfl (by decide) (Nat.le_of_ble_eq_true rfl) (fun p e s m below meth c ls C hw hl => w_X12_number C  h hw hl)
/-! BagPhrasesModel.nearly(I)I -/
def P_X12_nearly_86 (Q : Int32 → MI → MJ → Prop) (kL28 : Int32 × Int32 × Int32 × MI × MJ → Prop) (x1 : Int32) (x3 : Int32) (x4 : Int32) (s0 : Int32) (s1 : Int32) (I : MI) (J : MJ) : Prop :=
  vp_in x3 25 ∧ (vp_in x3 25 ∧ (∀ I98 : MI, I98 = mI I 7 x3.toNatClampNeg ((I 7 x3.toNatClampNeg) - x4) → kL28 (x1, (s0 ||| s1), (x3 + 1), I98, J)))
def P_X12_nearly_85 (Q : Int32 → MI → MJ → Prop) (kL28 : Int32 × Int32 × Int32 × MI × MJ → Prop) (x1 : Int32) (x3 : Int32) (x4 : Int32) (s0 : Int32) (I : MI) (J : MJ) : Prop :=
  P_X12_nearly_86 Q kL28 x1 x3 x4 s0 (0 : Int32) I J
def P_X12_nearly_43 (Q : Int32 → MI → MJ → Prop) (kL28 : Int32 × Int32 × Int32 × MI × MJ → Prop) (x1 : Int32) (x2 : Int32) (x3 : Int32) (s0 : Int32) (I : MI) (J : MJ) : Prop :=
  vp_in x3 25 ∧ (vp_in x3 25 ∧ (∀ I55 : MI, I55 = mI I 7 x3.toNatClampNeg ((I 7 x3.toNatClampNeg) + s0) → vp_in x3 25 ∧ ((((I55 7 x3.toNatClampNeg) < 0 → P_X12_nearly_85 Q kL28 x1 x3 s0 x2 I55 J) ∧ (¬ (I55 7 x3.toNatClampNeg) < 0 → P_X12_manyOf 7 I55 J (fun r71 I71 J71 => ((r71 ≤ (0 : Int64) → P_X12_nearly_85 Q kL28 x1 x3 s0 x2 I71 J71) ∧ (¬ r71 ≤ (0 : Int64) → P_X12_nearly_86 Q kL28 x1 x3 s0 x2 ((1 : Int32) <<< (x3 &&& 31)) I71 J71))))))))
def P_X12_nearly_28 (Q : Int32 → MI → MJ → Prop) (kL28 : Int32 × Int32 × Int32 × MI × MJ → Prop) : Int32 × Int32 × Int32 × MI × MJ → Prop := fun z => match z with
  | (x1, x2, x3, I, J) => (((8 : Int32) ≤ x3 → Q x2 I J) ∧ (¬ (8 : Int32) ≤ x3 → ((¬ x1 = 0 → P_X12_nearly_43 Q kL28 x1 x2 x3 (-1 : Int32) I J) ∧ (x1 = 0 → P_X12_nearly_43 Q kL28 x1 x2 x3 (1 : Int32) I J))))
def P_X12_nearly (a0 : Int32) (I : MI) (J : MJ) (Q : Int32 → MI → MJ → Prop) : Prop :=
  P_X12_in a0.toInt64 (0 : Int64) (1 : Int64) I J (fun r4 I4 J4 => ((¬ r4 = 0 → P_X12_copy 6 7 I4 J4 (fun I21 J21 => lpx (P_X12_nearly_28 Q) (a0, (0 : Int32), (0 : Int32), I21, J21))) ∧ (r4 = 0 → Q (-2 : Int32) I4 J4)))
abbrev rmX12_nearly : Room := { frames := 4, cells := 0, slots := 0, locals := 91 }
set_option maxHeartbeats 4000000 in
set_option maxRecDepth 100000 in
theorem w_X12_nearly_86 {Q : Int32 → MI → MJ → Prop} (C : gC RX12 cX12_nearly 5 (some .int) 30 ad cy D mE p s m args meth c) {kL28 : Int32 × Int32 × Int32 × MI × MJ → Prop} (hL28 : ∀ {x1 : Int32} {x2 : Int32} {x3 : Int32} {I : MI} {J : MJ} {H : Heap} {locs : List Loc} {ls : Array Slot}, kL28 (x1, x2, x3, I, J) → gH (mS ad cy) 30 ad D s I J H locs → lv_has ls 5 [(0, .ref (ad 0)), (1, .int x1), (2, .int x2), (3, .int x3)] → W p l e rmX12_nearly s m args below meth c H locs 0 0 (MQ below (gQi (mS ad cy) 30 ad cy D mE Q) args s 0 0 (gA 30 ad)) (F0 m 28 ls [])) {x1 : Int32} {x3 : Int32} {x4 : Int32} {s0 : Int32} {s1 : Int32} {I : MI} {J : MJ} {H : Heap} {locs : List Loc} {ls : Array Slot} (h : P_X12_nearly_86 Q kL28 x1 x3 x4 s0 s1 I J) (hw : gH (mS ad cy) 30 ad D s I J H locs) (hl : lv_has ls 5 [(0, .ref (ad 0)), (1, .int x1), (3, .int x3), (4, .int x4)]) : W p l e rmX12_nearly s m args below meth c H locs 0 0 (MQ below (gQi (mS ad cy) 30 ad cy D mE Q) args s 0 0 (gA 30 ad)) (F0 m 86 ls [.int s1, .int s0]) := by
  obtain ⟨hx, hb, hC⟩ := id C
  refine lv_ior hx hb dX12_nearly_86 ?_
  refine lv_istore_n (lv' := [(2, .int (s0 ||| s1)), (0, .ref (ad 0)), (1, .int x1), (3, .int x3), (4, .int x4)]) hx hb dX12_nearly_87 rfl hl (by decide) rfl (fun ls hl => ?_)
  refine lv_aload_n hx hb dX12_nearly_88 rfl (lv_at hl 1 rfl) ?_
  refine g_get C hw f_RX12_28 ml_0 (ms_0 _ _) rfl dX12_nearly_89 ?_
  refine lv_iload_n hx hb dX12_nearly_92 rfl (lv_at hl 3 rfl) ?_
  refine lv_dup2_11 hx hb dX12_nearly_93 rfl rfl ?_
  refine g_iald C hw ml_7 ms_7 h.1 dX12_nearly_94 ?_
  have h := h.2
  refine lv_iload hx hb dX12_nearly_95 (lv_at hl 4 rfl) ?_
  refine lv_isub hx hb dX12_nearly_97 ?_
  refine g_iast C hw ml_7 ms_7 h.1 dX12_nearly_98 (fun H locs hw => ?_)
  have h := h.2
  obtain ⟨I98, e98⟩ : ∃ z : MI, z = mI I 7 x3.toNatClampNeg ((I 7 x3.toNatClampNeg) - x4) := ⟨_, rfl⟩
  have h := h I98 e98
  rw [← e98] at hw
  refine lv_iinc (v := x3 + 1) (lv' := [(3, .int (x3 + 1)), (2, .int (s0 ||| s1)), (0, .ref (ad 0)), (1, .int x1), (4, .int x4)]) hx hb dX12_nearly_99 hl (k := 3) rfl rfl (by decide) rfl (fun ls hl => ?_)
  refine lv_goto (tgt := 28) hx hb dX12_nearly_102 (by decide) ?_
  exact hL28 h hw (lv_sub hl [2, 3, 1, 0] rfl)
set_option maxHeartbeats 4000000 in
set_option maxRecDepth 100000 in
theorem w_X12_nearly_85 {Q : Int32 → MI → MJ → Prop} (C : gC RX12 cX12_nearly 5 (some .int) 30 ad cy D mE p s m args meth c) {kL28 : Int32 × Int32 × Int32 × MI × MJ → Prop} (hL28 : ∀ {x1 : Int32} {x2 : Int32} {x3 : Int32} {I : MI} {J : MJ} {H : Heap} {locs : List Loc} {ls : Array Slot}, kL28 (x1, x2, x3, I, J) → gH (mS ad cy) 30 ad D s I J H locs → lv_has ls 5 [(0, .ref (ad 0)), (1, .int x1), (2, .int x2), (3, .int x3)] → W p l e rmX12_nearly s m args below meth c H locs 0 0 (MQ below (gQi (mS ad cy) 30 ad cy D mE Q) args s 0 0 (gA 30 ad)) (F0 m 28 ls [])) {x1 : Int32} {x3 : Int32} {x4 : Int32} {s0 : Int32} {I : MI} {J : MJ} {H : Heap} {locs : List Loc} {ls : Array Slot} (h : P_X12_nearly_85 Q kL28 x1 x3 x4 s0 I J) (hw : gH (mS ad cy) 30 ad D s I J H locs) (hl : lv_has ls 5 [(0, .ref (ad 0)), (1, .int x1), (3, .int x3), (4, .int x4)]) : W p l e rmX12_nearly s m args below meth c H locs 0 0 (MQ below (gQi (mS ad cy) 30 ad cy D mE Q) args s 0 0 (gA 30 ad)) (F0 m 85 ls [.int s0]) := by
  obtain ⟨hx, hb, hC⟩ := id C
  refine lv_iconst (v := 0) hx hb dX12_nearly_85 (by decide) ?_
  exact w_X12_nearly_86 C hL28 h hw (lv_sub hl [0, 1, 2, 3] rfl)
set_option maxHeartbeats 4000000 in
set_option maxRecDepth 100000 in
theorem w_X12_nearly_43 {Q : Int32 → MI → MJ → Prop} (C : gC RX12 cX12_nearly 5 (some .int) 30 ad cy D mE p s m args meth c) {kL28 : Int32 × Int32 × Int32 × MI × MJ → Prop} (hL28 : ∀ {x1 : Int32} {x2 : Int32} {x3 : Int32} {I : MI} {J : MJ} {H : Heap} {locs : List Loc} {ls : Array Slot}, kL28 (x1, x2, x3, I, J) → gH (mS ad cy) 30 ad D s I J H locs → lv_has ls 5 [(0, .ref (ad 0)), (1, .int x1), (2, .int x2), (3, .int x3)] → W p l e rmX12_nearly s m args below meth c H locs 0 0 (MQ below (gQi (mS ad cy) 30 ad cy D mE Q) args s 0 0 (gA 30 ad)) (F0 m 28 ls [])) {x1 : Int32} {x2 : Int32} {x3 : Int32} {s0 : Int32} {I : MI} {J : MJ} {H : Heap} {locs : List Loc} {ls : Array Slot} (h : P_X12_nearly_43 Q kL28 x1 x2 x3 s0 I J) (hw : gH (mS ad cy) 30 ad D s I J H locs) (hl : lv_has ls 5 [(0, .ref (ad 0)), (1, .int x1), (2, .int x2), (3, .int x3)]) : W p l e rmX12_nearly s m args below meth c H locs 0 0 (MQ below (gQi (mS ad cy) 30 ad cy D mE Q) args s 0 0 (gA 30 ad)) (F0 m 43 ls [.int s0]) := by
  obtain ⟨hx, hb, hC⟩ := id C
  refine lv_istore (lv' := [(4, .int s0), (0, .ref (ad 0)), (1, .int x1), (2, .int x2), (3, .int x3)]) hx hb dX12_nearly_43 hl (by decide) rfl (fun ls hl => ?_)
  refine lv_aload_n hx hb dX12_nearly_45 rfl (lv_at hl 1 rfl) ?_
  refine g_get C hw f_RX12_28 ml_0 (ms_0 _ _) rfl dX12_nearly_46 ?_
  refine lv_iload_n hx hb dX12_nearly_49 rfl (lv_at hl 4 rfl) ?_
  refine lv_dup2_11 hx hb dX12_nearly_50 rfl rfl ?_
  refine g_iald C hw ml_7 ms_7 h.1 dX12_nearly_51 ?_
  have h := h.2
  refine lv_iload hx hb dX12_nearly_52 (lv_at hl 0 rfl) ?_
  refine lv_iadd hx hb dX12_nearly_54 ?_
  refine g_iast C hw ml_7 ms_7 h.1 dX12_nearly_55 (fun H locs hw => ?_)
  have h := h.2
  obtain ⟨I55, e55⟩ : ∃ z : MI, z = mI I 7 x3.toNatClampNeg ((I 7 x3.toNatClampNeg) + s0) := ⟨_, rfl⟩
  have h := h I55 e55
  rw [← e55] at hw
  refine lv_iload_n hx hb dX12_nearly_56 rfl (lv_at hl 3 rfl) ?_
  refine lv_aload_n hx hb dX12_nearly_57 rfl (lv_at hl 1 rfl) ?_
  refine g_get C hw f_RX12_28 ml_0 (ms_0 _ _) rfl dX12_nearly_58 ?_
  refine lv_iload_n hx hb dX12_nearly_61 rfl (lv_at hl 4 rfl) ?_
  refine g_iald C hw ml_7 ms_7 h.1 dX12_nearly_62 ?_
  have h := h.2
  refine lv_if_lt (tgt := 85) hx hb dX12_nearly_63 (by decide) (fun c63 => ?_) (fun c63 => ?_)
  · have h := h.1 c63
    exact w_X12_nearly_85 C hL28 h hw (lv_sub hl [1, 2, 4, 0] rfl)
  · have h := h.2 c63
    refine lv_aload_n hx hb dX12_nearly_66 rfl (lv_at hl 1 rfl) ?_
    refine lv_aload_n hx hb dX12_nearly_67 rfl (lv_at hl 1 rfl) ?_
    refine g_get C hw f_RX12_28 ml_0 (ms_0 _ _) rfl dX12_nearly_68 ?_
    refine g_cl hw (g_rV [.ref (ad 7)] [.int x2] C hw (m_X12_manyOf isRow_7 h) k_X12_manyOf q_RX12_272 ml_0 (ms_0 _ _) rfl rfl hl.1 rfl (Nat.le_of_ble_eq_true rfl) ⟨⟨rfl, rfl⟩, Nat.le_of_ble_eq_true rfl, Nat.le_of_ble_eq_true rfl⟩ ⟨Nat.zero_le _, Nat.zero_le _⟩ dX12_nearly_71) (fun r71 I71 J71 H locs h hw => ?_)
    refine lv_lconst (v := 0) hx hb dX12_nearly_74 (by decide) ?_
    refine g_lcmp_le (tgt := 85) hx hb dX12_nearly_75 dX12_nearly_76 (by decide) (fun c75 => ?_) (fun c75 => ?_)
    · have h := h.1 c75
      exact w_X12_nearly_85 C hL28 h hw (lv_sub hl [1, 2, 4, 0] rfl)
    · have h := h.2 c75
      refine lv_iconst (v := 1) hx hb dX12_nearly_79 (by decide) ?_
      refine lv_iload_n hx hb dX12_nearly_80 rfl (lv_at hl 4 rfl) ?_
      refine lv_ishl hx hb dX12_nearly_81 ?_
      refine lv_goto (tgt := 86) hx hb dX12_nearly_82 (by decide) ?_
      exact w_X12_nearly_86 C hL28 h hw (lv_sub hl [1, 2, 4, 0] rfl)
set_option maxHeartbeats 4000000 in
set_option maxRecDepth 100000 in
theorem w_X12_nearly_28 {Q : Int32 → MI → MJ → Prop} (C : gC RX12 cX12_nearly 5 (some .int) 30 ad cy D mE p s m args meth c) {kL28 : Int32 × Int32 × Int32 × MI × MJ → Prop} (hL28 : ∀ {x1 : Int32} {x2 : Int32} {x3 : Int32} {I : MI} {J : MJ} {H : Heap} {locs : List Loc} {ls : Array Slot}, kL28 (x1, x2, x3, I, J) → gH (mS ad cy) 30 ad D s I J H locs → lv_has ls 5 [(0, .ref (ad 0)), (1, .int x1), (2, .int x2), (3, .int x3)] → W p l e rmX12_nearly s m args below meth c H locs 0 0 (MQ below (gQi (mS ad cy) 30 ad cy D mE Q) args s 0 0 (gA 30 ad)) (F0 m 28 ls [])) {x1 : Int32} {x2 : Int32} {x3 : Int32} {I : MI} {J : MJ} {H : Heap} {locs : List Loc} {ls : Array Slot} (h : P_X12_nearly_28 Q kL28 (x1, x2, x3, I, J)) (hw : gH (mS ad cy) 30 ad D s I J H locs) (hl : lv_has ls 5 [(0, .ref (ad 0)), (1, .int x1), (2, .int x2), (3, .int x3)]) : W p l e rmX12_nearly s m args below meth c H locs 0 0 (MQ below (gQi (mS ad cy) 30 ad cy D mE Q) args s 0 0 (gA 30 ad)) (F0 m 28 ls []) := by
  obtain ⟨hx, hb, hC⟩ := id C
  refine lv_iload_n hx hb dX12_nearly_28 rfl (lv_at hl 3 rfl) ?_
  refine lv_bipush (v := 8) hx hb dX12_nearly_29 (by decide) ?_
  refine lv_icmp_ge (tgt := 105) hx hb dX12_nearly_31 (by decide) (fun c31 => ?_) (fun c31 => ?_)
  · have h := h.1 c31
    refine lv_iload_n hx hb dX12_nearly_105 rfl (lv_at hl 2 rfl) ?_
    exact g_iret C hw h dX12_nearly_106
  · have h := h.2 c31
    refine lv_iload_n hx hb dX12_nearly_34 rfl (lv_at hl 1 rfl) ?_
    refine lv_if_ne (tgt := 42) hx hb dX12_nearly_35 (by decide) (fun c35 => ?_) (fun c35 => ?_)
    · have h := h.1 c35
      refine lv_iconst (v := -1) hx hb dX12_nearly_42 (by decide) ?_
      exact w_X12_nearly_43 C hL28 h hw (lv_sub hl [0, 1, 2, 3] rfl)
    · have h := h.2 c35
      refine lv_iconst (v := 1) hx hb dX12_nearly_38 (by decide) ?_
      refine lv_goto (tgt := 43) hx hb dX12_nearly_39 (by decide) ?_
      exact w_X12_nearly_43 C hL28 h hw (lv_sub hl [0, 1, 2, 3] rfl)
theorem wl_X12_nearly_28 {Q : Int32 → MI → MJ → Prop} (C : gC RX12 cX12_nearly 5 (some .int) 30 ad cy D mE p s m args meth c) {x1 : Int32} {x2 : Int32} {x3 : Int32} {I : MI} {J : MJ} {H : Heap} {locs : List Loc} {ls : Array Slot} (h : lpx (P_X12_nearly_28 Q) (x1, x2, x3, I, J)) (hw : gH (mS ad cy) 30 ad D s I J H locs) (hl : lv_has ls 5 [(0, .ref (ad 0)), (1, .int x1), (2, .int x2), (3, .int x3)]) : W p l e rmX12_nearly s m args below meth c H locs 0 0 (MQ below (gQi (mS ad cy) 30 ad cy D mE Q) args s 0 0 (gA 30 ad)) (F0 m 28 ls []) := by
  obtain ⟨n, h⟩ := h
  induction n generalizing x1 x2 x3 I J H locs ls with
  | zero => exact False.elim h
  | succ n ih => exact w_X12_nearly_28 C  (fun hk9 hw9 hl9 => ih hw9 hl9 hk9) h hw hl
set_option maxHeartbeats 4000000 in
set_option maxRecDepth 100000 in
theorem w_X12_nearly {Q : Int32 → MI → MJ → Prop} (C : gC RX12 cX12_nearly 5 (some .int) 30 ad cy D mE p s m args meth c) {a0 : Int32} {I : MI} {J : MJ} {H : Heap} {locs : List Loc} {ls : Array Slot} (h : P_X12_nearly a0 I J Q) (hw : gH (mS ad cy) 30 ad D s I J H locs) (hl : lv_has ls 5 [(0, .ref (ad 0)), (1, .int a0)]) : W p l e rmX12_nearly s m args below meth c H locs 0 0 (MQ below (gQi (mS ad cy) 30 ad cy D mE Q) args s 0 0 (gA 30 ad)) (F0 m 0 ls []) := by
  obtain ⟨hx, hb, hC⟩ := id C
  refine lv_iload_n hx hb dX12_nearly_0 rfl (lv_at hl 1 rfl) ?_
  refine lv_i2l hx hb dX12_nearly_1 rfl ?_
  refine lv_lconst (v := 0) hx hb dX12_nearly_2 (by decide) ?_
  refine lv_lconst (v := 1) hx hb dX12_nearly_3 (by decide) ?_
  refine g_cz hw (g_rS [.long a0.toInt64, .long (0 : Int64), .long (1 : Int64)] [] C hw (m_X12_in h) k_X12_in q_RX12_107 rfl hl.1 rfl (Nat.le_of_ble_eq_true rfl) ⟨⟨rfl, rfl⟩, Nat.le_of_ble_eq_true rfl, Nat.le_of_ble_eq_true rfl⟩ ⟨Nat.zero_le _, Nat.zero_le _⟩ dX12_nearly_4) (fun r4 I4 J4 H locs z4 h hw => ?_)
  refine lv_if_ne (tgt := 13) hx hb dX12_nearly_7 (by decide) (fun c7 => ?_) (fun c7 => ?_)
  · have h := h.1 c7
    refine lv_aload_n hx hb dX12_nearly_13 rfl (lv_at hl 0 rfl) ?_
    refine g_get C hw f_RX12_25 ml_0 (ms_0 _ _) rfl dX12_nearly_14 ?_
    refine lv_aload_n hx hb dX12_nearly_17 rfl (lv_at hl 0 rfl) ?_
    refine g_get C hw f_RX12_28 ml_0 (ms_0 _ _) rfl dX12_nearly_18 ?_
    refine g_cv hw (g_rS [.ref (ad 6), .ref (ad 7)] [] C hw (m_X12_copy isRow_6 isRow_7 h) k_X12_copy q_RX12_178 rfl hl.1 rfl (Nat.le_of_ble_eq_true rfl) ⟨⟨rfl, rfl⟩, Nat.le_of_ble_eq_true rfl, Nat.le_of_ble_eq_true rfl⟩ ⟨Nat.zero_le _, Nat.zero_le _⟩ dX12_nearly_21) (fun I21 J21 H locs h hw => ?_)
    refine lv_iconst (v := 0) hx hb dX12_nearly_24 (by decide) ?_
    refine lv_istore_n (lv' := [(2, .int (0 : Int32)), (0, .ref (ad 0)), (1, .int a0)]) hx hb dX12_nearly_25 rfl hl (by decide) rfl (fun ls hl => ?_)
    refine lv_iconst (v := 0) hx hb dX12_nearly_26 (by decide) ?_
    refine lv_istore_n (lv' := [(3, .int (0 : Int32)), (2, .int (0 : Int32)), (0, .ref (ad 0)), (1, .int a0)]) hx hb dX12_nearly_27 rfl hl (by decide) rfl (fun ls hl => ?_)
    exact wl_X12_nearly_28 C  h hw (lv_sub hl [2, 3, 1, 0] rfl)
  · have h := h.2 c7
    refine lv_bipush (v := -2) hx hb dX12_nearly_10 (by decide) ?_
    exact g_iret C hw h dX12_nearly_12
theorem m_X12_nearly {l : Launch} {a0 : Int32} {Q : Int32 → MI → MJ → Prop} {I : MI} {J : MJ} (h : P_X12_nearly a0 I J Q) : Met l yX12_nearly (xws yX12_nearly cX12_nearly 5 (some .int)) rmX12_nearly (va_Pc [.ref (ad 0), .int a0] (gB (mS ad cy) 30 ad cy D mE I J)) (gQi (mS ad cy) 30 ad cy D mE Q) 0 0 (gA 30 ad) :=
  g_met (mE_ok ad) rfl (by decide) (Nat.le_of_ble_eq_true rfl) (fun p e s m below meth c ls C hw hl => w_X12_nearly C  h hw hl)
/-! BagPhrasesModel.tenThousands(I)J -/
def P_X12_tenThousands_4 (Q : Int64 → MI → MJ → Prop) (kL4 : Int32 × Int64 × Int32 × MI × MJ → Prop) : Int32 × Int64 × Int32 × MI × MJ → Prop := fun z => match z with
  | (x0, x1, x3, I, J) => ((x0 ≤ x3 → Q x1 I J) ∧ (¬ x0 ≤ x3 → kL4 (x0, (x1 * (10000 : Int64)), (x3 + 1), I, J)))
def P_X12_tenThousands (a0 : Int32) (I : MI) (J : MJ) (Q : Int64 → MI → MJ → Prop) : Prop :=
  lpx (P_X12_tenThousands_4 Q) (a0, (1 : Int64), (0 : Int32), I, J)
abbrev rmX12_tenThousands : Room := { frames := 0, cells := 0, slots := 0, locals := 0 }
set_option maxHeartbeats 4000000 in
set_option maxRecDepth 100000 in
theorem w_X12_tenThousands_4 {Q : Int64 → MI → MJ → Prop} (C : gC RX12 cX12_tenThousands 4 (some .long) 30 ad cy D mE p s m args meth c) {kL4 : Int32 × Int64 × Int32 × MI × MJ → Prop} (hL4 : ∀ {x0 : Int32} {x1 : Int64} {x3 : Int32} {I : MI} {J : MJ} {H : Heap} {locs : List Loc} {ls : Array Slot}, kL4 (x0, x1, x3, I, J) → gH (mS ad cy) 30 ad D s I J H locs → lv_has ls 4 [(0, .int x0), (1, .long x1), (3, .int x3)] → W p l e rmX12_tenThousands s m args below meth c H locs 0 0 (MQ below (gQl (mS ad cy) 30 ad cy D mE Q) args s 0 0 (gA 30 ad)) (F0 m 4 ls [])) {x0 : Int32} {x1 : Int64} {x3 : Int32} {I : MI} {J : MJ} {H : Heap} {locs : List Loc} {ls : Array Slot} (h : P_X12_tenThousands_4 Q kL4 (x0, x1, x3, I, J)) (hw : gH (mS ad cy) 30 ad D s I J H locs) (hl : lv_has ls 4 [(0, .int x0), (1, .long x1), (3, .int x3)]) : W p l e rmX12_tenThousands s m args below meth c H locs 0 0 (MQ below (gQl (mS ad cy) 30 ad cy D mE Q) args s 0 0 (gA 30 ad)) (F0 m 4 ls []) := by
  obtain ⟨hx, hb, hC⟩ := id C
  refine lv_iload_n hx hb dX12_tenThousands_4 rfl (lv_at hl 2 rfl) ?_
  refine lv_iload_n hx hb dX12_tenThousands_5 rfl (lv_at hl 0 rfl) ?_
  refine lv_icmp_ge (tgt := 21) hx hb dX12_tenThousands_6 (by decide) (fun c6 => ?_) (fun c6 => ?_)
  · have h := h.1 c6
    refine lv_lload_n hx hb dX12_tenThousands_21 rfl (lv_at hl 1 rfl) ?_
    exact g_lret C hw h dX12_tenThousands_22
  · have h := h.2 c6
    refine lv_lload_n hx hb dX12_tenThousands_9 rfl (lv_at hl 1 rfl) ?_
    refine lv_ldc2 (v := (10000)) hx hb hC.2.2.1 (hC.2.2.2.1 _ q_RX12_314) dX12_tenThousands_10 ?_
    refine lv_lmul hx hb dX12_tenThousands_13 ?_
    refine lv_lstore_n (lv' := [(1, .long (x1 * (10000 : Int64))), (0, .int x0), (3, .int x3)]) hx hb dX12_tenThousands_14 rfl hl (by decide) rfl (fun ls hl => ?_)
    refine lv_iinc (v := x3 + 1) (lv' := [(3, .int (x3 + 1)), (1, .long (x1 * (10000 : Int64))), (0, .int x0)]) hx hb dX12_tenThousands_15 hl (k := 2) rfl rfl (by decide) rfl (fun ls hl => ?_)
    refine lv_goto (tgt := 4) hx hb dX12_tenThousands_18 (by decide) ?_
    exact hL4 h hw (lv_sub hl [2, 1, 0] rfl)
theorem wl_X12_tenThousands_4 {Q : Int64 → MI → MJ → Prop} (C : gC RX12 cX12_tenThousands 4 (some .long) 30 ad cy D mE p s m args meth c) {x0 : Int32} {x1 : Int64} {x3 : Int32} {I : MI} {J : MJ} {H : Heap} {locs : List Loc} {ls : Array Slot} (h : lpx (P_X12_tenThousands_4 Q) (x0, x1, x3, I, J)) (hw : gH (mS ad cy) 30 ad D s I J H locs) (hl : lv_has ls 4 [(0, .int x0), (1, .long x1), (3, .int x3)]) : W p l e rmX12_tenThousands s m args below meth c H locs 0 0 (MQ below (gQl (mS ad cy) 30 ad cy D mE Q) args s 0 0 (gA 30 ad)) (F0 m 4 ls []) := by
  obtain ⟨n, h⟩ := h
  induction n generalizing x0 x1 x3 I J H locs ls with
  | zero => exact False.elim h
  | succ n ih => exact w_X12_tenThousands_4 C  (fun hk9 hw9 hl9 => ih hw9 hl9 hk9) h hw hl
set_option maxHeartbeats 4000000 in
set_option maxRecDepth 100000 in
theorem w_X12_tenThousands {Q : Int64 → MI → MJ → Prop} (C : gC RX12 cX12_tenThousands 4 (some .long) 30 ad cy D mE p s m args meth c) {a0 : Int32} {I : MI} {J : MJ} {H : Heap} {locs : List Loc} {ls : Array Slot} (h : P_X12_tenThousands a0 I J Q) (hw : gH (mS ad cy) 30 ad D s I J H locs) (hl : lv_has ls 4 [(0, .int a0)]) : W p l e rmX12_tenThousands s m args below meth c H locs 0 0 (MQ below (gQl (mS ad cy) 30 ad cy D mE Q) args s 0 0 (gA 30 ad)) (F0 m 0 ls []) := by
  obtain ⟨hx, hb, hC⟩ := id C
  refine lv_lconst (v := 1) hx hb dX12_tenThousands_0 (by decide) ?_
  refine lv_lstore_n (lv' := [(1, .long (1 : Int64)), (0, .int a0)]) hx hb dX12_tenThousands_1 rfl hl (by decide) rfl (fun ls hl => ?_)
  refine lv_iconst (v := 0) hx hb dX12_tenThousands_2 (by decide) ?_
  refine lv_istore_n (lv' := [(3, .int (0 : Int32)), (1, .long (1 : Int64)), (0, .int a0)]) hx hb dX12_tenThousands_3 rfl hl (by decide) rfl (fun ls hl => ?_)
  exact wl_X12_tenThousands_4 C  h hw (lv_sub hl [2, 1, 0] rfl)
theorem m_X12_tenThousands {l : Launch} {a0 : Int32} {Q : Int64 → MI → MJ → Prop} {I : MI} {J : MJ} (h : P_X12_tenThousands a0 I J Q) : Met l yX12_tenThousands (xws yX12_tenThousands cX12_tenThousands 4 (some .long)) rmX12_tenThousands (va_Pc [.int a0] (gB (mS ad cy) 30 ad cy D mE I J)) (gQl (mS ad cy) 30 ad cy D mE Q) 0 0 (gA 30 ad) :=
  g_met (mE_ok ad) rfl (by decide) (Nat.le_of_ble_eq_true rfl) (fun p e s m below meth c ls C hw hl => w_X12_tenThousands C  h hw hl)
/-! BagPhrasesModel.judged(IIII)Z -/
def P_X12_judged_329 (Q : Int32 → MI → MJ → Prop) (I : MI) (J : MJ) : Prop :=
  Q (0 : Int32) I J
def P_X12_judged_244 (Q : Int32 → MI → MJ → Prop) (I : MI) (J : MJ) : Prop :=
  Q (0 : Int32) I J
def P_X12_judged_237 (Q : Int32 → MI → MJ → Prop) (s0 : Int32) (s1 : Int32) (I : MI) (J : MJ) : Prop :=
  ((¬ s0 = s1 → P_X12_judged_244 Q I J) ∧ (s0 = s1 → Q (1 : Int32) I J))
def P_X12_judged_226 (Q : Int32 → MI → MJ → Prop) (x4 : Int32) (s0 : Int32) (I : MI) (J : MJ) : Prop :=
  ((¬ x4 = (1 : Int32) → P_X12_judged_237 Q s0 (0 : Int32) I J) ∧ (x4 = (1 : Int32) → P_X12_judged_237 Q s0 (1 : Int32) I J))
def P_X12_judged_187 (Q : Int32 → MI → MJ → Prop) (I : MI) (J : MJ) : Prop :=
  Q (0 : Int32) I J
def P_X12_judged (a0 : Int32) (a1 : Int32) (a2 : Int32) (a3 : Int32) (I : MI) (J : MJ) (Q : Int32 → MI → MJ → Prop) : Prop :=
  ((a0 = 1 → P_X12_isLetter a1 I J (fun r45 I45 J45 => ((r45 = 0 → Q (0 : Int32) I45 J45) ∧ (¬ r45 = 0 → ((¬ a2 = 0 → Q (0 : Int32) I45 J45) ∧ (a2 = 0 → ((¬ a3 = 0 → Q (0 : Int32) I45 J45) ∧ (a3 = 0 → P_X12_bagOf 7 I45 J45 (fun r64 I64 J64 => ((¬ r64 = (12 : Int32) → vp_in a1 25 ∧ (vp_in a1 25 ∧ (∀ I83 : MI, I83 = mI I64 7 a1.toNatClampNeg ((I64 7 a1.toNatClampNeg) + (1 : Int32)) → Q (1 : Int32) I83 J64))) ∧ (r64 = (12 : Int32) → Q (0 : Int32) I64 J64))))))))))) ∧ (¬ a0 = 1 → ((a0 = 2 → P_X12_isLetter a1 I J (fun r87 I87 J87 => ((r87 = 0 → Q (0 : Int32) I87 J87) ∧ (¬ r87 = 0 → ((¬ a2 = 0 → Q (0 : Int32) I87 J87) ∧ (a2 = 0 → ((¬ a3 = 0 → Q (0 : Int32) I87 J87) ∧ (a3 = 0 → vp_in a1 25 ∧ (((¬ (I87 7 a1.toNatClampNeg) = 0 → vp_in a1 25 ∧ (vp_in a1 25 ∧ (∀ I122 : MI, I122 = mI I87 7 a1.toNatClampNeg ((I87 7 a1.toNatClampNeg) - (1 : Int32)) → Q (1 : Int32) I122 J87))) ∧ ((I87 7 a1.toNatClampNeg) = 0 → Q (0 : Int32) I87 J87))))))))))) ∧ (¬ a0 = 2 → ((a0 = 3 → P_X12_isWord a1 I J (fun r127 I127 J127 => ((r127 = 0 → Q (0 : Int32) I127 J127) ∧ (¬ r127 = 0 → ((¬ a2 = 0 → Q (0 : Int32) I127 J127) ∧ (a2 = 0 → ((a3 = 0 → vp_in (8 : Int32) 25 ∧ (vp_in (8 : Int32) 25 ∧ (∀ I156 : MI, I156 = mI I127 7 (8 : Int32).toNatClampNeg ((I127 7 (8 : Int32).toNatClampNeg) ^^^ ((1 : Int32) <<< (a1 &&& 31))) → Q (1 : Int32) I156 J127))) ∧ (¬ a3 = 0 → Q (0 : Int32) I127 J127)))))))) ∧ (¬ a0 = 3 → ((a0 = 4 → ((¬ a1 = 0 → P_X12_judged_187 Q I J) ∧ (a1 = 0 → P_X12_manyOf 7 I J (fun r168 I168 J168 => ((¬ r168 = ((((10 : Int32) * a2) + a3).toInt64) → P_X12_judged_187 Q I168 J168) ∧ (r168 = ((((10 : Int32) * a2) + a3).toInt64) → Q (1 : Int32) I168 J168)))))) ∧ (¬ a0 = 4 → ((a0 = 5 → P_X12_isWord a1 I J (fun r191 I191 J191 => ((r191 = 0 → P_X12_judged_244 Q I191 J191) ∧ (¬ r191 = 0 → ((¬ a2 = 0 → P_X12_judged_244 Q I191 J191) ∧ (a2 = 0 → (((2 : Int32) ≤ a3 → P_X12_judged_244 Q I191 J191) ∧ (¬ (2 : Int32) ≤ a3 → P_X12_withWord 7 a1 I191 J191 (fun r213 I213 J213 => ((r213 ≤ (0 : Int64) → P_X12_judged_226 Q a3 (0 : Int32) I213 J213) ∧ (¬ r213 ≤ (0 : Int64) → P_X12_judged_226 Q a3 (1 : Int32) I213 J213))))))))))) ∧ (¬ a0 = 5 → ((a0 = 6 → P_X12_isKind a1 I J (fun r247 I247 J247 => ((r247 = 0 → Q (0 : Int32) I247 J247) ∧ (¬ r247 = 0 → P_X12_isKind a2 I247 J247 (fun r254 I254 J254 => ((r254 = 0 → Q (0 : Int32) I254 J254) ∧ (¬ r254 = 0 → ((a3 = 0 → vp_in ((21 : Int32) + a1) 25 ∧ (vp_in ((21 : Int32) + a1) 25 ∧ (∀ I281 : MI, I281 = mI I254 7 ((21 : Int32) + a1).toNatClampNeg ((I254 7 ((21 : Int32) + a1).toNatClampNeg) ^^^ ((1 : Int32) <<< (a2 &&& 31))) → Q (1 : Int32) I281 J254))) ∧ (¬ a3 = 0 → Q (0 : Int32) I254 J254))))))))) ∧ (¬ a0 = 6 → ((a0 = 7 → P_X12_look 7 I J (fun I289 J289 => P_X12_findBest I289 J289 (fun r293 I293 J293 => ((¬ a1 = 0 → P_X12_judged_329 Q I293 J293) ∧ (a1 = 0 → ((r293 = (-9 : Int32) → P_X12_judged_329 Q I293 J293) ∧ (¬ r293 = (-9 : Int32) → P_X12_worthOf r293 I293 J293 (fun r312 I312 J312 => ((¬ r312 = (((10 : Int32) * a2) + a3) → P_X12_judged_329 Q I312 J312) ∧ (r312 = (((10 : Int32) * a2) + a3) → Q (1 : Int32) I312 J312)))))))))) ∧ (¬ a0 = 7 → Q (0 : Int32) I J))))))))))))))
abbrev rmX12_judged : Room := { frames := 5, cells := 0, slots := 0, locals := 115 }
set_option maxHeartbeats 4000000 in
set_option maxRecDepth 100000 in
theorem w_X12_judged_329 {Q : Int32 → MI → MJ → Prop} (C : gC RX12 cX12_judged 6 (some .boolean) 30 ad cy D mE p s m args meth c) {I : MI} {J : MJ} {H : Heap} {locs : List Loc} {ls : Array Slot} (h : P_X12_judged_329 Q I J) (hw : gH (mS ad cy) 30 ad D s I J H locs) (hl : lv_has ls 6 []) : W p l e rmX12_judged s m args below meth c H locs 0 0 (MQ below (gQz (mS ad cy) 30 ad cy D mE Q) args s 0 0 (gA 30 ad)) (F0 m 329 ls []) := by
  obtain ⟨hx, hb, hC⟩ := id C
  refine lv_iconst (v := 0) hx hb dX12_judged_329 (by decide) ?_
  exact g_zret C hw (by decide) h dX12_judged_330
set_option maxHeartbeats 4000000 in
set_option maxRecDepth 100000 in
theorem w_X12_judged_244 {Q : Int32 → MI → MJ → Prop} (C : gC RX12 cX12_judged 6 (some .boolean) 30 ad cy D mE p s m args meth c) {I : MI} {J : MJ} {H : Heap} {locs : List Loc} {ls : Array Slot} (h : P_X12_judged_244 Q I J) (hw : gH (mS ad cy) 30 ad D s I J H locs) (hl : lv_has ls 6 []) : W p l e rmX12_judged s m args below meth c H locs 0 0 (MQ below (gQz (mS ad cy) 30 ad cy D mE Q) args s 0 0 (gA 30 ad)) (F0 m 244 ls []) := by
  obtain ⟨hx, hb, hC⟩ := id C
  refine lv_iconst (v := 0) hx hb dX12_judged_244 (by decide) ?_
  exact g_zret C hw (by decide) h dX12_judged_245
set_option maxHeartbeats 4000000 in
set_option maxRecDepth 100000 in
theorem w_X12_judged_237 {Q : Int32 → MI → MJ → Prop} (C : gC RX12 cX12_judged 6 (some .boolean) 30 ad cy D mE p s m args meth c) {s0 : Int32} {s1 : Int32} {I : MI} {J : MJ} {H : Heap} {locs : List Loc} {ls : Array Slot} (h : P_X12_judged_237 Q s0 s1 I J) (hw : gH (mS ad cy) 30 ad D s I J H locs) (hl : lv_has ls 6 []) : W p l e rmX12_judged s m args below meth c H locs 0 0 (MQ below (gQz (mS ad cy) 30 ad cy D mE Q) args s 0 0 (gA 30 ad)) (F0 m 237 ls [.int s1, .int s0]) := by
  obtain ⟨hx, hb, hC⟩ := id C
  refine lv_icmp_ne (tgt := 244) hx hb dX12_judged_237 (by decide) (fun c237 => ?_) (fun c237 => ?_)
  · have h := h.1 c237
    exact w_X12_judged_244 C  h hw (lv_sub hl [] rfl)
  · have h := h.2 c237
    refine lv_iconst (v := 1) hx hb dX12_judged_240 (by decide) ?_
    refine lv_goto (tgt := 245) hx hb dX12_judged_241 (by decide) ?_
    exact g_zret C hw (by decide) h dX12_judged_245
set_option maxHeartbeats 4000000 in
set_option maxRecDepth 100000 in
theorem w_X12_judged_226 {Q : Int32 → MI → MJ → Prop} (C : gC RX12 cX12_judged 6 (some .boolean) 30 ad cy D mE p s m args meth c) {x4 : Int32} {s0 : Int32} {I : MI} {J : MJ} {H : Heap} {locs : List Loc} {ls : Array Slot} (h : P_X12_judged_226 Q x4 s0 I J) (hw : gH (mS ad cy) 30 ad D s I J H locs) (hl : lv_has ls 6 [(4, .int x4)]) : W p l e rmX12_judged s m args below meth c H locs 0 0 (MQ below (gQz (mS ad cy) 30 ad cy D mE Q) args s 0 0 (gA 30 ad)) (F0 m 226 ls [.int s0]) := by
  obtain ⟨hx, hb, hC⟩ := id C
  refine lv_iload hx hb dX12_judged_226 (lv_at hl 0 rfl) ?_
  refine lv_iconst (v := 1) hx hb dX12_judged_228 (by decide) ?_
  refine lv_icmp_ne (tgt := 236) hx hb dX12_judged_229 (by decide) (fun c229 => ?_) (fun c229 => ?_)
  · have h := h.1 c229
    refine lv_iconst (v := 0) hx hb dX12_judged_236 (by decide) ?_
    exact w_X12_judged_237 C  h hw (lv_sub hl [] rfl)
  · have h := h.2 c229
    refine lv_iconst (v := 1) hx hb dX12_judged_232 (by decide) ?_
    refine lv_goto (tgt := 237) hx hb dX12_judged_233 (by decide) ?_
    exact w_X12_judged_237 C  h hw (lv_sub hl [] rfl)
set_option maxHeartbeats 4000000 in
set_option maxRecDepth 100000 in
theorem w_X12_judged_187 {Q : Int32 → MI → MJ → Prop} (C : gC RX12 cX12_judged 6 (some .boolean) 30 ad cy D mE p s m args meth c) {I : MI} {J : MJ} {H : Heap} {locs : List Loc} {ls : Array Slot} (h : P_X12_judged_187 Q I J) (hw : gH (mS ad cy) 30 ad D s I J H locs) (hl : lv_has ls 6 []) : W p l e rmX12_judged s m args below meth c H locs 0 0 (MQ below (gQz (mS ad cy) 30 ad cy D mE Q) args s 0 0 (gA 30 ad)) (F0 m 187 ls []) := by
  obtain ⟨hx, hb, hC⟩ := id C
  refine lv_iconst (v := 0) hx hb dX12_judged_187 (by decide) ?_
  exact g_zret C hw (by decide) h dX12_judged_188
set_option maxHeartbeats 4000000 in
set_option maxRecDepth 100000 in
theorem w_X12_judged {Q : Int32 → MI → MJ → Prop} (C : gC RX12 cX12_judged 6 (some .boolean) 30 ad cy D mE p s m args meth c) {a0 : Int32} {a1 : Int32} {a2 : Int32} {a3 : Int32} {I : MI} {J : MJ} {H : Heap} {locs : List Loc} {ls : Array Slot} (h : P_X12_judged a0 a1 a2 a3 I J Q) (hw : gH (mS ad cy) 30 ad D s I J H locs) (hl : lv_has ls 6 [(0, .ref (ad 0)), (1, .int a0), (2, .int a1), (3, .int a2), (4, .int a3)]) : W p l e rmX12_judged s m args below meth c H locs 0 0 (MQ below (gQz (mS ad cy) 30 ad cy D mE Q) args s 0 0 (gA 30 ad)) (F0 m 0 ls []) := by
  obtain ⟨hx, hb, hC⟩ := id C
  refine lv_iload_n hx hb dX12_judged_0 rfl (lv_at hl 1 rfl) ?_
  rcases Classical.em (a0 = 1) with c1_0 | c1_0
  · have h := h.1 c1_0
    refine lv_tableIn (off := 43) (tgt := 44) hx hb dX12_judged_1 (by rw [c1_0]; decide) (by rw [c1_0]; decide) (by rw [c1_0]; rfl) (by decide) ?_
    refine lv_iload_n hx hb dX12_judged_44 rfl (lv_at hl 2 rfl) ?_
    refine g_cz hw (g_rS [.int a1] [] C hw (m_X12_isLetter h) k_X12_isLetter q_RX12_255 rfl hl.1 rfl (Nat.le_of_ble_eq_true rfl) ⟨⟨rfl, rfl⟩, Nat.le_of_ble_eq_true rfl, Nat.le_of_ble_eq_true rfl⟩ ⟨Nat.zero_le _, Nat.zero_le _⟩ dX12_judged_45) (fun r45 I45 J45 H locs z45 h hw => ?_)
    refine lv_if_eq (tgt := 72) hx hb dX12_judged_48 (by decide) (fun c48 => ?_) (fun c48 => ?_)
    · have h := h.1 c48
      refine lv_iconst (v := 0) hx hb dX12_judged_72 (by decide) ?_
      exact g_zret C hw (by decide) h dX12_judged_73
    · have h := h.2 c48
      refine lv_iload_n hx hb dX12_judged_51 rfl (lv_at hl 3 rfl) ?_
      refine lv_if_ne (tgt := 72) hx hb dX12_judged_52 (by decide) (fun c52 => ?_) (fun c52 => ?_)
      · have h := h.1 c52
        refine lv_iconst (v := 0) hx hb dX12_judged_72 (by decide) ?_
        exact g_zret C hw (by decide) h dX12_judged_73
      · have h := h.2 c52
        refine lv_iload hx hb dX12_judged_55 (lv_at hl 4 rfl) ?_
        refine lv_if_ne (tgt := 72) hx hb dX12_judged_57 (by decide) (fun c57 => ?_) (fun c57 => ?_)
        · have h := h.1 c57
          refine lv_iconst (v := 0) hx hb dX12_judged_72 (by decide) ?_
          exact g_zret C hw (by decide) h dX12_judged_73
        · have h := h.2 c57
          refine lv_aload_n hx hb dX12_judged_60 rfl (lv_at hl 0 rfl) ?_
          refine g_get C hw f_RX12_28 ml_0 (ms_0 _ _) rfl dX12_judged_61 ?_
          refine g_ci hw (g_rS [.ref (ad 7)] [] C hw (m_X12_bagOf isRow_7 h) k_X12_bagOf q_RX12_129 rfl hl.1 rfl (Nat.le_of_ble_eq_true rfl) ⟨⟨rfl, rfl⟩, Nat.le_of_ble_eq_true rfl, Nat.le_of_ble_eq_true rfl⟩ ⟨Nat.zero_le _, Nat.zero_le _⟩ dX12_judged_64) (fun r64 I64 J64 H locs h hw => ?_)
          refine lv_bipush (v := 12) hx hb dX12_judged_67 (by decide) ?_
          refine lv_icmp_ne (tgt := 74) hx hb dX12_judged_69 (by decide) (fun c69 => ?_) (fun c69 => ?_)
          · have h := h.1 c69
            refine lv_aload_n hx hb dX12_judged_74 rfl (lv_at hl 0 rfl) ?_
            refine g_get C hw f_RX12_28 ml_0 (ms_0 _ _) rfl dX12_judged_75 ?_
            refine lv_iload_n hx hb dX12_judged_78 rfl (lv_at hl 2 rfl) ?_
            refine lv_dup2_11 hx hb dX12_judged_79 rfl rfl ?_
            refine g_iald C hw ml_7 ms_7 h.1 dX12_judged_80 ?_
            have h := h.2
            refine lv_iconst (v := 1) hx hb dX12_judged_81 (by decide) ?_
            refine lv_iadd hx hb dX12_judged_82 ?_
            refine g_iast C hw ml_7 ms_7 h.1 dX12_judged_83 (fun H locs hw => ?_)
            have h := h.2
            obtain ⟨I83, e83⟩ : ∃ z : MI, z = mI I64 7 a1.toNatClampNeg ((I64 7 a1.toNatClampNeg) + (1 : Int32)) := ⟨_, rfl⟩
            have h := h I83 e83
            rw [← e83] at hw
            refine lv_iconst (v := 1) hx hb dX12_judged_84 (by decide) ?_
            exact g_zret C hw (by decide) h dX12_judged_85
          · have h := h.2 c69
            refine lv_iconst (v := 0) hx hb dX12_judged_72 (by decide) ?_
            exact g_zret C hw (by decide) h dX12_judged_73
  have h := h.2 c1_0
  rcases Classical.em (a0 = 2) with c1_1 | c1_1
  · have h := h.1 c1_1
    refine lv_tableIn (off := 85) (tgt := 86) hx hb dX12_judged_1 (by rw [c1_1]; decide) (by rw [c1_1]; decide) (by rw [c1_1]; rfl) (by decide) ?_
    refine lv_iload_n hx hb dX12_judged_86 rfl (lv_at hl 2 rfl) ?_
    refine g_cz hw (g_rS [.int a1] [] C hw (m_X12_isLetter h) k_X12_isLetter q_RX12_255 rfl hl.1 rfl (Nat.le_of_ble_eq_true rfl) ⟨⟨rfl, rfl⟩, Nat.le_of_ble_eq_true rfl, Nat.le_of_ble_eq_true rfl⟩ ⟨Nat.zero_le _, Nat.zero_le _⟩ dX12_judged_87) (fun r87 I87 J87 H locs z87 h hw => ?_)
    refine lv_if_eq (tgt := 111) hx hb dX12_judged_90 (by decide) (fun c90 => ?_) (fun c90 => ?_)
    · have h := h.1 c90
      refine lv_iconst (v := 0) hx hb dX12_judged_111 (by decide) ?_
      exact g_zret C hw (by decide) h dX12_judged_112
    · have h := h.2 c90
      refine lv_iload_n hx hb dX12_judged_93 rfl (lv_at hl 3 rfl) ?_
      refine lv_if_ne (tgt := 111) hx hb dX12_judged_94 (by decide) (fun c94 => ?_) (fun c94 => ?_)
      · have h := h.1 c94
        refine lv_iconst (v := 0) hx hb dX12_judged_111 (by decide) ?_
        exact g_zret C hw (by decide) h dX12_judged_112
      · have h := h.2 c94
        refine lv_iload hx hb dX12_judged_97 (lv_at hl 4 rfl) ?_
        refine lv_if_ne (tgt := 111) hx hb dX12_judged_99 (by decide) (fun c99 => ?_) (fun c99 => ?_)
        · have h := h.1 c99
          refine lv_iconst (v := 0) hx hb dX12_judged_111 (by decide) ?_
          exact g_zret C hw (by decide) h dX12_judged_112
        · have h := h.2 c99
          refine lv_aload_n hx hb dX12_judged_102 rfl (lv_at hl 0 rfl) ?_
          refine g_get C hw f_RX12_28 ml_0 (ms_0 _ _) rfl dX12_judged_103 ?_
          refine lv_iload_n hx hb dX12_judged_106 rfl (lv_at hl 2 rfl) ?_
          refine g_iald C hw ml_7 ms_7 h.1 dX12_judged_107 ?_
          have h := h.2
          refine lv_if_ne (tgt := 113) hx hb dX12_judged_108 (by decide) (fun c108 => ?_) (fun c108 => ?_)
          · have h := h.1 c108
            refine lv_aload_n hx hb dX12_judged_113 rfl (lv_at hl 0 rfl) ?_
            refine g_get C hw f_RX12_28 ml_0 (ms_0 _ _) rfl dX12_judged_114 ?_
            refine lv_iload_n hx hb dX12_judged_117 rfl (lv_at hl 2 rfl) ?_
            refine lv_dup2_11 hx hb dX12_judged_118 rfl rfl ?_
            refine g_iald C hw ml_7 ms_7 h.1 dX12_judged_119 ?_
            have h := h.2
            refine lv_iconst (v := 1) hx hb dX12_judged_120 (by decide) ?_
            refine lv_isub hx hb dX12_judged_121 ?_
            refine g_iast C hw ml_7 ms_7 h.1 dX12_judged_122 (fun H locs hw => ?_)
            have h := h.2
            obtain ⟨I122, e122⟩ : ∃ z : MI, z = mI I87 7 a1.toNatClampNeg ((I87 7 a1.toNatClampNeg) - (1 : Int32)) := ⟨_, rfl⟩
            have h := h I122 e122
            rw [← e122] at hw
            refine lv_iconst (v := 1) hx hb dX12_judged_123 (by decide) ?_
            exact g_zret C hw (by decide) h dX12_judged_124
          · have h := h.2 c108
            refine lv_iconst (v := 0) hx hb dX12_judged_111 (by decide) ?_
            exact g_zret C hw (by decide) h dX12_judged_112
  have h := h.2 c1_1
  rcases Classical.em (a0 = 3) with c1_2 | c1_2
  · have h := h.1 c1_2
    refine lv_tableIn (off := 124) (tgt := 125) hx hb dX12_judged_1 (by rw [c1_2]; decide) (by rw [c1_2]; decide) (by rw [c1_2]; rfl) (by decide) ?_
    refine lv_aload_n hx hb dX12_judged_125 rfl (lv_at hl 0 rfl) ?_
    refine lv_iload_n hx hb dX12_judged_126 rfl (lv_at hl 2 rfl) ?_
    refine g_cz hw (g_rV [.int a1] [] C hw (m_X12_isWord h) k_X12_isWord q_RX12_243 ml_0 (ms_0 _ _) rfl rfl hl.1 rfl (Nat.le_of_ble_eq_true rfl) ⟨⟨rfl, rfl⟩, Nat.le_of_ble_eq_true rfl, Nat.le_of_ble_eq_true rfl⟩ ⟨Nat.zero_le _, Nat.zero_le _⟩ dX12_judged_127) (fun r127 I127 J127 H locs z127 h hw => ?_)
    refine lv_if_eq (tgt := 142) hx hb dX12_judged_130 (by decide) (fun c130 => ?_) (fun c130 => ?_)
    · have h := h.1 c130
      refine lv_iconst (v := 0) hx hb dX12_judged_142 (by decide) ?_
      exact g_zret C hw (by decide) h dX12_judged_143
    · have h := h.2 c130
      refine lv_iload_n hx hb dX12_judged_133 rfl (lv_at hl 3 rfl) ?_
      refine lv_if_ne (tgt := 142) hx hb dX12_judged_134 (by decide) (fun c134 => ?_) (fun c134 => ?_)
      · have h := h.1 c134
        refine lv_iconst (v := 0) hx hb dX12_judged_142 (by decide) ?_
        exact g_zret C hw (by decide) h dX12_judged_143
      · have h := h.2 c134
        refine lv_iload hx hb dX12_judged_137 (lv_at hl 4 rfl) ?_
        refine lv_if_eq (tgt := 144) hx hb dX12_judged_139 (by decide) (fun c139 => ?_) (fun c139 => ?_)
        · have h := h.1 c139
          refine lv_aload_n hx hb dX12_judged_144 rfl (lv_at hl 0 rfl) ?_
          refine g_get C hw f_RX12_28 ml_0 (ms_0 _ _) rfl dX12_judged_145 ?_
          refine lv_bipush (v := 8) hx hb dX12_judged_148 (by decide) ?_
          refine lv_dup2_11 hx hb dX12_judged_150 rfl rfl ?_
          refine g_iald C hw ml_7 ms_7 h.1 dX12_judged_151 ?_
          have h := h.2
          refine lv_iconst (v := 1) hx hb dX12_judged_152 (by decide) ?_
          refine lv_iload_n hx hb dX12_judged_153 rfl (lv_at hl 2 rfl) ?_
          refine lv_ishl hx hb dX12_judged_154 ?_
          refine lv_ixor hx hb dX12_judged_155 ?_
          refine g_iast C hw ml_7 ms_7 h.1 dX12_judged_156 (fun H locs hw => ?_)
          have h := h.2
          obtain ⟨I156, e156⟩ : ∃ z : MI, z = mI I127 7 (8 : Int32).toNatClampNeg ((I127 7 (8 : Int32).toNatClampNeg) ^^^ ((1 : Int32) <<< (a1 &&& 31))) := ⟨_, rfl⟩
          have h := h I156 e156
          rw [← e156] at hw
          refine lv_iconst (v := 1) hx hb dX12_judged_157 (by decide) ?_
          exact g_zret C hw (by decide) h dX12_judged_158
        · have h := h.2 c139
          refine lv_iconst (v := 0) hx hb dX12_judged_142 (by decide) ?_
          exact g_zret C hw (by decide) h dX12_judged_143
  have h := h.2 c1_2
  rcases Classical.em (a0 = 4) with c1_3 | c1_3
  · have h := h.1 c1_3
    refine lv_tableIn (off := 158) (tgt := 159) hx hb dX12_judged_1 (by rw [c1_3]; decide) (by rw [c1_3]; decide) (by rw [c1_3]; rfl) (by decide) ?_
    refine lv_iload_n hx hb dX12_judged_159 rfl (lv_at hl 2 rfl) ?_
    refine lv_if_ne (tgt := 187) hx hb dX12_judged_160 (by decide) (fun c160 => ?_) (fun c160 => ?_)
    · have h := h.1 c160
      exact w_X12_judged_187 C  h hw (lv_sub hl [] rfl)
    · have h := h.2 c160
      refine lv_aload_n hx hb dX12_judged_163 rfl (lv_at hl 0 rfl) ?_
      refine lv_aload_n hx hb dX12_judged_164 rfl (lv_at hl 0 rfl) ?_
      refine g_get C hw f_RX12_28 ml_0 (ms_0 _ _) rfl dX12_judged_165 ?_
      refine g_cl hw (g_rV [.ref (ad 7)] [] C hw (m_X12_manyOf isRow_7 h) k_X12_manyOf q_RX12_272 ml_0 (ms_0 _ _) rfl rfl hl.1 rfl (Nat.le_of_ble_eq_true rfl) ⟨⟨rfl, rfl⟩, Nat.le_of_ble_eq_true rfl, Nat.le_of_ble_eq_true rfl⟩ ⟨Nat.zero_le _, Nat.zero_le _⟩ dX12_judged_168) (fun r168 I168 J168 H locs h hw => ?_)
      refine lv_bipush (v := 10) hx hb dX12_judged_171 (by decide) ?_
      refine lv_iload_n hx hb dX12_judged_173 rfl (lv_at hl 3 rfl) ?_
      refine lv_imul hx hb dX12_judged_174 ?_
      refine lv_iload hx hb dX12_judged_175 (lv_at hl 4 rfl) ?_
      refine lv_iadd hx hb dX12_judged_177 ?_
      refine lv_i2l hx hb dX12_judged_178 rfl ?_
      refine g_lcmp_ne (tgt := 187) hx hb dX12_judged_179 dX12_judged_180 (by decide) (fun c179 => ?_) (fun c179 => ?_)
      · have h := h.1 c179
        exact w_X12_judged_187 C  h hw (lv_sub hl [] rfl)
      · have h := h.2 c179
        refine lv_iconst (v := 1) hx hb dX12_judged_183 (by decide) ?_
        refine lv_goto (tgt := 188) hx hb dX12_judged_184 (by decide) ?_
        exact g_zret C hw (by decide) h dX12_judged_188
  have h := h.2 c1_3
  rcases Classical.em (a0 = 5) with c1_4 | c1_4
  · have h := h.1 c1_4
    refine lv_tableIn (off := 188) (tgt := 189) hx hb dX12_judged_1 (by rw [c1_4]; decide) (by rw [c1_4]; decide) (by rw [c1_4]; rfl) (by decide) ?_
    refine lv_aload_n hx hb dX12_judged_189 rfl (lv_at hl 0 rfl) ?_
    refine lv_iload_n hx hb dX12_judged_190 rfl (lv_at hl 2 rfl) ?_
    refine g_cz hw (g_rV [.int a1] [] C hw (m_X12_isWord h) k_X12_isWord q_RX12_243 ml_0 (ms_0 _ _) rfl rfl hl.1 rfl (Nat.le_of_ble_eq_true rfl) ⟨⟨rfl, rfl⟩, Nat.le_of_ble_eq_true rfl, Nat.le_of_ble_eq_true rfl⟩ ⟨Nat.zero_le _, Nat.zero_le _⟩ dX12_judged_191) (fun r191 I191 J191 H locs z191 h hw => ?_)
    refine lv_if_eq (tgt := 244) hx hb dX12_judged_194 (by decide) (fun c194 => ?_) (fun c194 => ?_)
    · have h := h.1 c194
      exact w_X12_judged_244 C  h hw (lv_sub hl [] rfl)
    · have h := h.2 c194
      refine lv_iload_n hx hb dX12_judged_197 rfl (lv_at hl 3 rfl) ?_
      refine lv_if_ne (tgt := 244) hx hb dX12_judged_198 (by decide) (fun c198 => ?_) (fun c198 => ?_)
      · have h := h.1 c198
        exact w_X12_judged_244 C  h hw (lv_sub hl [] rfl)
      · have h := h.2 c198
        refine lv_iload hx hb dX12_judged_201 (lv_at hl 4 rfl) ?_
        refine lv_iconst (v := 2) hx hb dX12_judged_203 (by decide) ?_
        refine lv_icmp_ge (tgt := 244) hx hb dX12_judged_204 (by decide) (fun c204 => ?_) (fun c204 => ?_)
        · have h := h.1 c204
          exact w_X12_judged_244 C  h hw (lv_sub hl [] rfl)
        · have h := h.2 c204
          refine lv_aload_n hx hb dX12_judged_207 rfl (lv_at hl 0 rfl) ?_
          refine lv_aload_n hx hb dX12_judged_208 rfl (lv_at hl 0 rfl) ?_
          refine g_get C hw f_RX12_28 ml_0 (ms_0 _ _) rfl dX12_judged_209 ?_
          refine lv_iload_n hx hb dX12_judged_212 rfl (lv_at hl 2 rfl) ?_
          refine g_cl hw (g_rV [.ref (ad 7), .int a1] [] C hw (m_X12_withWord isRow_7 h) k_X12_withWord q_RX12_216 ml_0 (ms_0 _ _) rfl rfl hl.1 rfl (Nat.le_of_ble_eq_true rfl) ⟨⟨rfl, rfl⟩, Nat.le_of_ble_eq_true rfl, Nat.le_of_ble_eq_true rfl⟩ ⟨Nat.zero_le _, Nat.zero_le _⟩ dX12_judged_213) (fun r213 I213 J213 H locs h hw => ?_)
          refine lv_lconst (v := 0) hx hb dX12_judged_216 (by decide) ?_
          refine g_lcmp_le (tgt := 225) hx hb dX12_judged_217 dX12_judged_218 (by decide) (fun c217 => ?_) (fun c217 => ?_)
          · have h := h.1 c217
            refine lv_iconst (v := 0) hx hb dX12_judged_225 (by decide) ?_
            exact w_X12_judged_226 C  h hw (lv_sub hl [4] rfl)
          · have h := h.2 c217
            refine lv_iconst (v := 1) hx hb dX12_judged_221 (by decide) ?_
            refine lv_goto (tgt := 226) hx hb dX12_judged_222 (by decide) ?_
            exact w_X12_judged_226 C  h hw (lv_sub hl [4] rfl)
  have h := h.2 c1_4
  rcases Classical.em (a0 = 6) with c1_5 | c1_5
  · have h := h.1 c1_5
    refine lv_tableIn (off := 245) (tgt := 246) hx hb dX12_judged_1 (by rw [c1_5]; decide) (by rw [c1_5]; decide) (by rw [c1_5]; rfl) (by decide) ?_
    refine lv_iload_n hx hb dX12_judged_246 rfl (lv_at hl 2 rfl) ?_
    refine g_cz hw (g_rS [.int a1] [] C hw (m_X12_isKind h) k_X12_isKind q_RX12_145 rfl hl.1 rfl (Nat.le_of_ble_eq_true rfl) ⟨⟨rfl, rfl⟩, Nat.le_of_ble_eq_true rfl, Nat.le_of_ble_eq_true rfl⟩ ⟨Nat.zero_le _, Nat.zero_le _⟩ dX12_judged_247) (fun r247 I247 J247 H locs z247 h hw => ?_)
    refine lv_if_eq (tgt := 265) hx hb dX12_judged_250 (by decide) (fun c250 => ?_) (fun c250 => ?_)
    · have h := h.1 c250
      refine lv_iconst (v := 0) hx hb dX12_judged_265 (by decide) ?_
      exact g_zret C hw (by decide) h dX12_judged_266
    · have h := h.2 c250
      refine lv_iload_n hx hb dX12_judged_253 rfl (lv_at hl 3 rfl) ?_
      refine g_cz hw (g_rS [.int a2] [] C hw (m_X12_isKind h) k_X12_isKind q_RX12_145 rfl hl.1 rfl (Nat.le_of_ble_eq_true rfl) ⟨⟨rfl, rfl⟩, Nat.le_of_ble_eq_true rfl, Nat.le_of_ble_eq_true rfl⟩ ⟨Nat.zero_le _, Nat.zero_le _⟩ dX12_judged_254) (fun r254 I254 J254 H locs z254 h hw => ?_)
      refine lv_if_eq (tgt := 265) hx hb dX12_judged_257 (by decide) (fun c257 => ?_) (fun c257 => ?_)
      · have h := h.1 c257
        refine lv_iconst (v := 0) hx hb dX12_judged_265 (by decide) ?_
        exact g_zret C hw (by decide) h dX12_judged_266
      · have h := h.2 c257
        refine lv_iload hx hb dX12_judged_260 (lv_at hl 4 rfl) ?_
        refine lv_if_eq (tgt := 267) hx hb dX12_judged_262 (by decide) (fun c262 => ?_) (fun c262 => ?_)
        · have h := h.1 c262
          refine lv_aload_n hx hb dX12_judged_267 rfl (lv_at hl 0 rfl) ?_
          refine g_get C hw f_RX12_28 ml_0 (ms_0 _ _) rfl dX12_judged_268 ?_
          refine lv_bipush (v := 21) hx hb dX12_judged_271 (by decide) ?_
          refine lv_iload_n hx hb dX12_judged_273 rfl (lv_at hl 2 rfl) ?_
          refine lv_iadd hx hb dX12_judged_274 ?_
          refine lv_dup2_11 hx hb dX12_judged_275 rfl rfl ?_
          refine g_iald C hw ml_7 ms_7 h.1 dX12_judged_276 ?_
          have h := h.2
          refine lv_iconst (v := 1) hx hb dX12_judged_277 (by decide) ?_
          refine lv_iload_n hx hb dX12_judged_278 rfl (lv_at hl 3 rfl) ?_
          refine lv_ishl hx hb dX12_judged_279 ?_
          refine lv_ixor hx hb dX12_judged_280 ?_
          refine g_iast C hw ml_7 ms_7 h.1 dX12_judged_281 (fun H locs hw => ?_)
          have h := h.2
          obtain ⟨I281, e281⟩ : ∃ z : MI, z = mI I254 7 ((21 : Int32) + a1).toNatClampNeg ((I254 7 ((21 : Int32) + a1).toNatClampNeg) ^^^ ((1 : Int32) <<< (a2 &&& 31))) := ⟨_, rfl⟩
          have h := h I281 e281
          rw [← e281] at hw
          refine lv_iconst (v := 1) hx hb dX12_judged_282 (by decide) ?_
          exact g_zret C hw (by decide) h dX12_judged_283
        · have h := h.2 c262
          refine lv_iconst (v := 0) hx hb dX12_judged_265 (by decide) ?_
          exact g_zret C hw (by decide) h dX12_judged_266
  have h := h.2 c1_5
  rcases Classical.em (a0 = 7) with c1_6 | c1_6
  · have h := h.1 c1_6
    refine lv_tableIn (off := 283) (tgt := 284) hx hb dX12_judged_1 (by rw [c1_6]; decide) (by rw [c1_6]; decide) (by rw [c1_6]; rfl) (by decide) ?_
    refine lv_aload_n hx hb dX12_judged_284 rfl (lv_at hl 0 rfl) ?_
    refine lv_aload_n hx hb dX12_judged_285 rfl (lv_at hl 0 rfl) ?_
    refine g_get C hw f_RX12_28 ml_0 (ms_0 _ _) rfl dX12_judged_286 ?_
    refine g_cv hw (g_rV [.ref (ad 7)] [] C hw (m_X12_look isRow_7 h) k_X12_look q_RX12_202 ml_0 (ms_0 _ _) rfl rfl hl.1 rfl (Nat.le_of_ble_eq_true rfl) ⟨⟨rfl, rfl⟩, Nat.le_of_ble_eq_true rfl, Nat.le_of_ble_eq_true rfl⟩ ⟨Nat.zero_le _, Nat.zero_le _⟩ dX12_judged_289) (fun I289 J289 H locs h hw => ?_)
    refine lv_aload_n hx hb dX12_judged_292 rfl (lv_at hl 0 rfl) ?_
    refine g_ci hw (g_rV [] [] C hw (m_X12_findBest h) k_X12_findBest q_RX12_287 ml_0 (ms_0 _ _) rfl rfl hl.1 rfl (Nat.le_of_ble_eq_true rfl) ⟨⟨rfl, rfl⟩, Nat.le_of_ble_eq_true rfl, Nat.le_of_ble_eq_true rfl⟩ ⟨Nat.zero_le _, Nat.zero_le _⟩ dX12_judged_293) (fun r293 I293 J293 H locs h hw => ?_)
    refine lv_istore (lv' := [(5, .int r293), (0, .ref (ad 0)), (1, .int a0), (2, .int a1), (3, .int a2), (4, .int a3)]) hx hb dX12_judged_296 hl (by decide) rfl (fun ls hl => ?_)
    refine lv_iload_n hx hb dX12_judged_298 rfl (lv_at hl 3 rfl) ?_
    refine lv_if_ne (tgt := 329) hx hb dX12_judged_299 (by decide) (fun c299 => ?_) (fun c299 => ?_)
    · have h := h.1 c299
      exact w_X12_judged_329 C  h hw (lv_sub hl [] rfl)
    · have h := h.2 c299
      refine lv_iload hx hb dX12_judged_302 (lv_at hl 0 rfl) ?_
      refine lv_bipush (v := -9) hx hb dX12_judged_304 (by decide) ?_
      refine lv_icmp_eq (tgt := 329) hx hb dX12_judged_306 (by decide) (fun c306 => ?_) (fun c306 => ?_)
      · have h := h.1 c306
        exact w_X12_judged_329 C  h hw (lv_sub hl [] rfl)
      · have h := h.2 c306
        refine lv_aload_n hx hb dX12_judged_309 rfl (lv_at hl 1 rfl) ?_
        refine lv_iload hx hb dX12_judged_310 (lv_at hl 0 rfl) ?_
        refine g_ci hw (g_rV [.int r293] [] C hw (m_X12_worthOf h) k_X12_worthOf q_RX12_290 ml_0 (ms_0 _ _) rfl rfl hl.1 rfl (Nat.le_of_ble_eq_true rfl) ⟨⟨rfl, rfl⟩, Nat.le_of_ble_eq_true rfl, Nat.le_of_ble_eq_true rfl⟩ ⟨Nat.zero_le _, Nat.zero_le _⟩ dX12_judged_312) (fun r312 I312 J312 H locs h hw => ?_)
        refine lv_bipush (v := 10) hx hb dX12_judged_315 (by decide) ?_
        refine lv_iload_n hx hb dX12_judged_317 rfl (lv_at hl 4 rfl) ?_
        refine lv_imul hx hb dX12_judged_318 ?_
        refine lv_iload hx hb dX12_judged_319 (lv_at hl 5 rfl) ?_
        refine lv_iadd hx hb dX12_judged_321 ?_
        refine lv_icmp_ne (tgt := 329) hx hb dX12_judged_322 (by decide) (fun c322 => ?_) (fun c322 => ?_)
        · have h := h.1 c322
          exact w_X12_judged_329 C  h hw (lv_sub hl [] rfl)
        · have h := h.2 c322
          refine lv_iconst (v := 1) hx hb dX12_judged_325 (by decide) ?_
          refine lv_goto (tgt := 330) hx hb dX12_judged_326 (by decide) ?_
          exact g_zret C hw (by decide) h dX12_judged_330
  have h := h.2 c1_6
  refine lv_tableOut (tgt := 331) hx hb dX12_judged_1 (by have hs0 := toInt_ne c1_0 (show (1 : Int32).toInt = 1 from by decide); have hs1 := toInt_ne c1_1 (show (2 : Int32).toInt = 2 from by decide); have hs2 := toInt_ne c1_2 (show (3 : Int32).toInt = 3 from by decide); have hs3 := toInt_ne c1_3 (show (4 : Int32).toInt = 4 from by decide); have hs4 := toInt_ne c1_4 (show (5 : Int32).toInt = 5 from by decide); have hs5 := toInt_ne c1_5 (show (6 : Int32).toInt = 6 from by decide); have hs6 := toInt_ne c1_6 (show (7 : Int32).toInt = 7 from by decide); omega) (by decide) ?_
  refine lv_iconst (v := 0) hx hb dX12_judged_331 (by decide) ?_
  exact g_zret C hw (by decide) h dX12_judged_332
theorem m_X12_judged {l : Launch} {a0 : Int32} {a1 : Int32} {a2 : Int32} {a3 : Int32} {Q : Int32 → MI → MJ → Prop} {I : MI} {J : MJ} (h : P_X12_judged a0 a1 a2 a3 I J Q) : Met l yX12_judged (xws yX12_judged cX12_judged 6 (some .boolean)) rmX12_judged (va_Pc [.ref (ad 0), .int a0, .int a1, .int a2, .int a3] (gB (mS ad cy) 30 ad cy D mE I J)) (gQz (mS ad cy) 30 ad cy D mE Q) 0 0 (gA 30 ad) :=
  g_met (mE_ok ad) rfl (by decide) (Nat.le_of_ble_eq_true rfl) (fun p e s m below meth c ls C hw hl => w_X12_judged C  h hw hl)
end
