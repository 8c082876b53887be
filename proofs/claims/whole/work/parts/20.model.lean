section
variable {p : Program} {l : Launch} {e : Env} {s : State} {m : MethodId} {args : Array Value} {below : List Frame} {meth : Method} {c : Code} {ad : Nat → Nat} {cy : Nat → ClassId} {D : va_G} {ts : Nat → Nat}
/-! BagPhrasesModel.judge(IJ)I -/
def P_X12_judge_43 (Q : Int32 → MI → MJ → Prop) (kL43 : Int32 × Int64 × Int32 × MI × MJ → Prop) : Int32 × Int64 × Int32 × MI × MJ → Prop := fun z => match z with
  | (x1, x2, x4, I, J) => ((x1 ≤ x4 → Q (-9 : Int32) I J) ∧ (¬ x1 ≤ x4 → P_X12_tenThousands ((x1 - (1 : Int32)) - x4) I J (fun r56 I56 J56 => ¬ r56 = 0 ∧ (P_X12_judged ((((x2 / r56) - (x2 / r56) / (10000 : Int64) * (10000 : Int64)).toInt32) / (1000 : Int32)) (((((x2 / r56) - (x2 / r56) / (10000 : Int64) * (10000 : Int64)).toInt32) / (100 : Int32)) - ((((x2 / r56) - (x2 / r56) / (10000 : Int64) * (10000 : Int64)).toInt32) / (100 : Int32)) / (10 : Int32) * (10 : Int32)) (((((x2 / r56) - (x2 / r56) / (10000 : Int64) * (10000 : Int64)).toInt32) / (10 : Int32)) - ((((x2 / r56) - (x2 / r56) / (10000 : Int64) * (10000 : Int64)).toInt32) / (10 : Int32)) / (10 : Int32) * (10 : Int32)) ((((x2 / r56) - (x2 / r56) / (10000 : Int64) * (10000 : Int64)).toInt32) - (((x2 / r56) - (x2 / r56) / (10000 : Int64) * (10000 : Int64)).toInt32) / (10 : Int32) * (10 : Int32)) I56 J56 (fun r95 I95 J95 => ((¬ r95 = 0 → kL43 (x1, x2, (x4 + 1), I95, J95)) ∧ (r95 = 0 → Q x4 I95 J95)))))))
def P_X12_judge (a0 : Int32) (a1 : Int64) (I : MI) (J : MJ) (Q : Int32 → MI → MJ → Prop) : Prop :=
  P_X12_in a0.toInt64 (1 : Int64) (4 : Int64) I J (fun r6 I6 J6 => ((r6 = 0 → Q (-2 : Int32) I6 J6) ∧ (¬ r6 = 0 → P_X12_tenThousands a0 I6 J6 (fun r15 I15 J15 => P_X12_in a1 (0 : Int64) (r15 - (1 : Int64)) I15 J15 (fun r20 I20 J20 => ((¬ r20 = 0 → P_X12_copy 6 7 I20 J20 (fun I37 J37 => lpx (P_X12_judge_43 Q) (a0, a1, (0 : Int32), I37, J37))) ∧ (r20 = 0 → Q (-2 : Int32) I20 J20)))))))
abbrev rmX12_judge : Room := { frames := 6, cells := 0, slots := 0, locals := 140 }
set_option maxHeartbeats 4000000 in
set_option maxRecDepth 100000 in
theorem w_X12_judge_43 {Q : Int32 → MI → MJ → Prop} (C : gC RX12 cX12_judge 6 (some .int) 30 ad cy D mE p s m args meth c) {kL43 : Int32 × Int64 × Int32 × MI × MJ → Prop} (hL43 : ∀ {x1 : Int32} {x2 : Int64} {x4 : Int32} {I : MI} {J : MJ} {H : Heap} {locs : List Loc} {ls : Array Slot}, kL43 (x1, x2, x4, I, J) → gH (mS ad cy) 30 ad D s I J H locs → lv_has ls 6 [(0, .ref (ad 0)), (1, .int x1), (2, .long x2), (4, .int x4)] → W p l e rmX12_judge s m args below meth c H locs 0 0 (MQ below (gQi (mS ad cy) 30 ad cy D mE Q) args s 0 0 (gA 30 ad)) (F0 m 43 ls [])) {x1 : Int32} {x2 : Int64} {x4 : Int32} {I : MI} {J : MJ} {H : Heap} {locs : List Loc} {ls : Array Slot} (h : P_X12_judge_43 Q kL43 (x1, x2, x4, I, J)) (hw : gH (mS ad cy) 30 ad D s I J H locs) (hl : lv_has ls 6 [(0, .ref (ad 0)), (1, .int x1), (2, .long x2), (4, .int x4)]) : W p l e rmX12_judge s m args below meth c H locs 0 0 (MQ below (gQi (mS ad cy) 30 ad cy D mE Q) args s 0 0 (gA 30 ad)) (F0 m 43 ls []) := by
  obtain ⟨hx, hb, hC⟩ := id C
  refine lv_iload hx hb dX12_judge_43 (lv_at hl 3 rfl) ?_
  refine lv_iload_n hx hb dX12_judge_45 rfl (lv_at hl 1 rfl) ?_
  refine lv_icmp_ge (tgt := 110) hx hb dX12_judge_46 (by decide) (fun c46 => ?_) (fun c46 => ?_)
  · have h := h.1 c46
    refine lv_bipush (v := -9) hx hb dX12_judge_110 (by decide) ?_
    exact g_iret C hw h dX12_judge_112
  · have h := h.2 c46
    refine lv_lload_n hx hb dX12_judge_49 rfl (lv_at hl 2 rfl) ?_
    refine lv_iload_n hx hb dX12_judge_50 rfl (lv_at hl 1 rfl) ?_
    refine lv_iconst (v := 1) hx hb dX12_judge_51 (by decide) ?_
    refine lv_isub hx hb dX12_judge_52 ?_
    refine lv_iload hx hb dX12_judge_53 (lv_at hl 3 rfl) ?_
    refine lv_isub hx hb dX12_judge_55 ?_
    refine g_cl hw (g_rS [.int ((x1 - (1 : Int32)) - x4)] [.long x2] C hw (m_X12_tenThousands h) k_X12_tenThousands q_RX12_318 rfl hl.1 rfl (Nat.le_of_ble_eq_true rfl) ⟨⟨rfl, rfl⟩, Nat.le_of_ble_eq_true rfl, Nat.le_of_ble_eq_true rfl⟩ ⟨Nat.zero_le _, Nat.zero_le _⟩ dX12_judge_56) (fun r56 I56 J56 H locs h hw => ?_)
    refine lv_ldiv hx hb dX12_judge_59 h.1 ?_
    have h := h.2
    refine lv_ldc2 (v := (10000)) hx hb hC.2.2.1 (hC.2.2.2.1 _ q_RX12_314) dX12_judge_60 ?_
    refine lv_lrem hx hb dX12_judge_63 (by decide) ?_
    refine lv_l2i hx hb dX12_judge_64 rfl ?_
    refine lv_istore (lv' := [(5, .int (((x2 / r56) - (x2 / r56) / (10000 : Int64) * (10000 : Int64)).toInt32)), (0, .ref (ad 0)), (1, .int x1), (2, .long x2), (4, .int x4)]) hx hb dX12_judge_65 hl (by decide) rfl (fun ls hl => ?_)
    refine lv_aload_n hx hb dX12_judge_67 rfl (lv_at hl 1 rfl) ?_
    refine lv_iload hx hb dX12_judge_68 (lv_at hl 0 rfl) ?_
    refine lv_sipush (v := 1000) hx hb dX12_judge_70 (by decide) ?_
    refine lv_idiv hx hb dX12_judge_73 (by decide) ?_
    refine lv_iload hx hb dX12_judge_74 (lv_at hl 0 rfl) ?_
    refine lv_bipush (v := 100) hx hb dX12_judge_76 (by decide) ?_
    refine lv_idiv hx hb dX12_judge_78 (by decide) ?_
    refine lv_bipush (v := 10) hx hb dX12_judge_79 (by decide) ?_
    refine lv_irem hx hb dX12_judge_81 (by decide) ?_
    refine lv_iload hx hb dX12_judge_82 (lv_at hl 0 rfl) ?_
    refine lv_bipush (v := 10) hx hb dX12_judge_84 (by decide) ?_
    refine lv_idiv hx hb dX12_judge_86 (by decide) ?_
    refine lv_bipush (v := 10) hx hb dX12_judge_87 (by decide) ?_
    refine lv_irem hx hb dX12_judge_89 (by decide) ?_
    refine lv_iload hx hb dX12_judge_90 (lv_at hl 0 rfl) ?_
    refine lv_bipush (v := 10) hx hb dX12_judge_92 (by decide) ?_
    refine lv_irem hx hb dX12_judge_94 (by decide) ?_
    refine g_cz hw (g_rV [.int ((((x2 / r56) - (x2 / r56) / (10000 : Int64) * (10000 : Int64)).toInt32) / (1000 : Int32)), .int (((((x2 / r56) - (x2 / r56) / (10000 : Int64) * (10000 : Int64)).toInt32) / (100 : Int32)) - ((((x2 / r56) - (x2 / r56) / (10000 : Int64) * (10000 : Int64)).toInt32) / (100 : Int32)) / (10 : Int32) * (10 : Int32)), .int (((((x2 / r56) - (x2 / r56) / (10000 : Int64) * (10000 : Int64)).toInt32) / (10 : Int32)) - ((((x2 / r56) - (x2 / r56) / (10000 : Int64) * (10000 : Int64)).toInt32) / (10 : Int32)) / (10 : Int32) * (10 : Int32)), .int ((((x2 / r56) - (x2 / r56) / (10000 : Int64) * (10000 : Int64)).toInt32) - (((x2 / r56) - (x2 / r56) / (10000 : Int64) * (10000 : Int64)).toInt32) / (10 : Int32) * (10 : Int32))] [] C hw (m_X12_judged h) k_X12_judged q_RX12_321 ml_0 (ms_0 _ _) rfl rfl hl.1 rfl (Nat.le_of_ble_eq_true rfl) ⟨⟨rfl, rfl⟩, Nat.le_of_ble_eq_true rfl, Nat.le_of_ble_eq_true rfl⟩ ⟨Nat.zero_le _, Nat.zero_le _⟩ dX12_judge_95) (fun r95 I95 J95 H locs z95 h hw => ?_)
    refine lv_if_ne (tgt := 104) hx hb dX12_judge_98 (by decide) (fun c98 => ?_) (fun c98 => ?_)
    · have h := h.1 c98
      refine lv_iinc (v := x4 + 1) (lv' := [(4, .int (x4 + 1)), (5, .int (((x2 / r56) - (x2 / r56) / (10000 : Int64) * (10000 : Int64)).toInt32)), (0, .ref (ad 0)), (1, .int x1), (2, .long x2)]) hx hb dX12_judge_104 hl (k := 4) rfl rfl (by decide) rfl (fun ls hl => ?_)
      refine lv_goto (tgt := 43) hx hb dX12_judge_107 (by decide) ?_
      exact hL43 h hw (lv_sub hl [2, 3, 4, 0] rfl)
    · have h := h.2 c98
      refine lv_iload hx hb dX12_judge_101 (lv_at hl 4 rfl) ?_
      exact g_iret C hw h dX12_judge_103
theorem wl_X12_judge_43 {Q : Int32 → MI → MJ → Prop} (C : gC RX12 cX12_judge 6 (some .int) 30 ad cy D mE p s m args meth c) {x1 : Int32} {x2 : Int64} {x4 : Int32} {I : MI} {J : MJ} {H : Heap} {locs : List Loc} {ls : Array Slot} (h : lpx (P_X12_judge_43 Q) (x1, x2, x4, I, J)) (hw : gH (mS ad cy) 30 ad D s I J H locs) (hl : lv_has ls 6 [(0, .ref (ad 0)), (1, .int x1), (2, .long x2), (4, .int x4)]) : W p l e rmX12_judge s m args below meth c H locs 0 0 (MQ below (gQi (mS ad cy) 30 ad cy D mE Q) args s 0 0 (gA 30 ad)) (F0 m 43 ls []) := by
  obtain ⟨n, h⟩ := h
  induction n generalizing x1 x2 x4 I J H locs ls with
  | zero => exact False.elim h
  | succ n ih => exact w_X12_judge_43 C  (fun hk9 hw9 hl9 => ih hw9 hl9 hk9) h hw hl
set_option maxHeartbeats 4000000 in
set_option maxRecDepth 100000 in
theorem w_X12_judge {Q : Int32 → MI → MJ → Prop} (C : gC RX12 cX12_judge 6 (some .int) 30 ad cy D mE p s m args meth c) {a0 : Int32} {a1 : Int64} {I : MI} {J : MJ} {H : Heap} {locs : List Loc} {ls : Array Slot} (h : P_X12_judge a0 a1 I J Q) (hw : gH (mS ad cy) 30 ad D s I J H locs) (hl : lv_has ls 6 [(0, .ref (ad 0)), (1, .int a0), (2, .long a1)]) : W p l e rmX12_judge s m args below meth c H locs 0 0 (MQ below (gQi (mS ad cy) 30 ad cy D mE Q) args s 0 0 (gA 30 ad)) (F0 m 0 ls []) := by
  obtain ⟨hx, hb, hC⟩ := id C
  refine lv_iload_n hx hb dX12_judge_0 rfl (lv_at hl 1 rfl) ?_
  refine lv_i2l hx hb dX12_judge_1 rfl ?_
  refine lv_lconst (v := 1) hx hb dX12_judge_2 (by decide) ?_
  refine lv_ldc2 (v := (4)) hx hb hC.2.2.1 (hC.2.2.2.1 _ q_RX12_316) dX12_judge_3 ?_
  refine g_cz hw (g_rS [.long a0.toInt64, .long (1 : Int64), .long (4 : Int64)] [] C hw (m_X12_in h) k_X12_in q_RX12_107 rfl hl.1 rfl (Nat.le_of_ble_eq_true rfl) ⟨⟨rfl, rfl⟩, Nat.le_of_ble_eq_true rfl, Nat.le_of_ble_eq_true rfl⟩ ⟨Nat.zero_le _, Nat.zero_le _⟩ dX12_judge_6) (fun r6 I6 J6 H locs z6 h hw => ?_)
  refine lv_if_eq (tgt := 26) hx hb dX12_judge_9 (by decide) (fun c9 => ?_) (fun c9 => ?_)
  · have h := h.1 c9
    refine lv_bipush (v := -2) hx hb dX12_judge_26 (by decide) ?_
    exact g_iret C hw h dX12_judge_28
  · have h := h.2 c9
    refine lv_lload_n hx hb dX12_judge_12 rfl (lv_at hl 2 rfl) ?_
    refine lv_lconst (v := 0) hx hb dX12_judge_13 (by decide) ?_
    refine lv_iload_n hx hb dX12_judge_14 rfl (lv_at hl 1 rfl) ?_
    refine g_cl hw (g_rS [.int a0] [.long (0 : Int64), .long a1] C hw (m_X12_tenThousands h) k_X12_tenThousands q_RX12_318 rfl hl.1 rfl (Nat.le_of_ble_eq_true rfl) ⟨⟨rfl, rfl⟩, Nat.le_of_ble_eq_true rfl, Nat.le_of_ble_eq_true rfl⟩ ⟨Nat.zero_le _, Nat.zero_le _⟩ dX12_judge_15) (fun r15 I15 J15 H locs h hw => ?_)
    refine lv_lconst (v := 1) hx hb dX12_judge_18 (by decide) ?_
    refine lv_lsub hx hb dX12_judge_19 ?_
    refine g_cz hw (g_rS [.long a1, .long (0 : Int64), .long (r15 - (1 : Int64))] [] C hw (m_X12_in h) k_X12_in q_RX12_107 rfl hl.1 rfl (Nat.le_of_ble_eq_true rfl) ⟨⟨rfl, rfl⟩, Nat.le_of_ble_eq_true rfl, Nat.le_of_ble_eq_true rfl⟩ ⟨Nat.zero_le _, Nat.zero_le _⟩ dX12_judge_20) (fun r20 I20 J20 H locs z20 h hw => ?_)
    refine lv_if_ne (tgt := 29) hx hb dX12_judge_23 (by decide) (fun c23 => ?_) (fun c23 => ?_)
    · have h := h.1 c23
      refine lv_aload_n hx hb dX12_judge_29 rfl (lv_at hl 0 rfl) ?_
      refine g_get C hw f_RX12_25 ml_0 (ms_0 _ _) rfl dX12_judge_30 ?_
      refine lv_aload_n hx hb dX12_judge_33 rfl (lv_at hl 0 rfl) ?_
      refine g_get C hw f_RX12_28 ml_0 (ms_0 _ _) rfl dX12_judge_34 ?_
      refine g_cv hw (g_rS [.ref (ad 6), .ref (ad 7)] [] C hw (m_X12_copy isRow_6 isRow_7 h) k_X12_copy q_RX12_178 rfl hl.1 rfl (Nat.le_of_ble_eq_true rfl) ⟨⟨rfl, rfl⟩, Nat.le_of_ble_eq_true rfl, Nat.le_of_ble_eq_true rfl⟩ ⟨Nat.zero_le _, Nat.zero_le _⟩ dX12_judge_37) (fun I37 J37 H locs h hw => ?_)
      refine lv_iconst (v := 0) hx hb dX12_judge_40 (by decide) ?_
      refine lv_istore (lv' := [(4, .int (0 : Int32)), (0, .ref (ad 0)), (1, .int a0), (2, .long a1)]) hx hb dX12_judge_41 hl (by decide) rfl (fun ls hl => ?_)
      exact wl_X12_judge_43 C  h hw (lv_sub hl [1, 2, 3, 0] rfl)
    · have h := h.2 c23
      refine lv_bipush (v := -2) hx hb dX12_judge_26 (by decide) ?_
      exact g_iret C hw h dX12_judge_28
theorem m_X12_judge {l : Launch} {a0 : Int32} {a1 : Int64} {Q : Int32 → MI → MJ → Prop} {I : MI} {J : MJ} (h : P_X12_judge a0 a1 I J Q) : Met l yX12_judge (xws yX12_judge cX12_judge 6 (some .int)) rmX12_judge (va_Pc [.ref (ad 0), .int a0, .long a1] (gB (mS ad cy) 30 ad cy D mE I J)) (gQi (mS ad cy) 30 ad cy D mE Q) 0 0 (gA 30 ad) :=
  g_met (mE_ok ad) rfl (by decide) (Nat.le_of_ble_eq_true rfl) (fun p e s m below meth c ls C hw hl => w_X12_judge C  h hw hl)
/-! BagPhrasesModel.see(III)I -/
def P_X12_see (a0 : Int32) (a1 : Int32) (a2 : Int32) (I : MI) (J : MJ) (Q : Int32 → MI → MJ → Prop) : Prop :=
  P_X12_in a0.toInt64 (0 : Int64) (3 : Int64) I J (fun r6 I6 J6 => ((r6 = 0 → Q (-2 : Int32) I6 J6) ∧ (¬ r6 = 0 → P_X12_in a1.toInt64 (0 : Int64) (12 : Int64) I6 J6 (fun r18 I18 J18 => ((r18 = 0 → Q (-2 : Int32) I18 J18) ∧ (¬ r18 = 0 → P_X12_in a2.toInt64 (0 : Int64) (1 : Int64) I18 J18 (fun r28 I28 J28 => ((¬ r28 = 0 → ((¬ (I28 0 19) = (6 : Int32) → vp_in (I28 0 19) 6 ∧ (∀ I58 : MI, I58 = mI I28 12 (I28 0 19).toNatClampNeg a0 → vp_in (I58 0 19) 6 ∧ (∀ I68 : MI, I68 = mI I58 13 (I58 0 19).toNatClampNeg a1 → vp_in (I68 0 19) 6 ∧ (∀ I78 : MI, I78 = mI I68 14 (I68 0 19).toNatClampNeg a2 → (∀ I86 : MI, I86 = mI I78 0 19 ((I78 0 19) + (1 : Int32)) → Q (I86 0 19) I86 J28))))) ∧ ((I28 0 19) = (6 : Int32) → Q (-4 : Int32) I28 J28))) ∧ (r28 = 0 → Q (-2 : Int32) I28 J28)))))))))
abbrev rmX12_see : Room := { frames := 1, cells := 0, slots := 0, locals := 25 }
set_option maxHeartbeats 4000000 in
set_option maxRecDepth 100000 in
theorem w_X12_see {Q : Int32 → MI → MJ → Prop} (C : gC RX12 cX12_see 4 (some .int) 30 ad cy D mE p s m args meth c) {a0 : Int32} {a1 : Int32} {a2 : Int32} {I : MI} {J : MJ} {H : Heap} {locs : List Loc} {ls : Array Slot} (h : P_X12_see a0 a1 a2 I J Q) (hw : gH (mS ad cy) 30 ad D s I J H locs) (hl : lv_has ls 4 [(0, .ref (ad 0)), (1, .int a0), (2, .int a1), (3, .int a2)]) : W p l e rmX12_see s m args below meth c H locs 0 0 (MQ below (gQi (mS ad cy) 30 ad cy D mE Q) args s 0 0 (gA 30 ad)) (F0 m 0 ls []) := by
  obtain ⟨hx, hb, hC⟩ := id C
  refine lv_iload_n hx hb dX12_see_0 rfl (lv_at hl 1 rfl) ?_
  refine lv_i2l hx hb dX12_see_1 rfl ?_
  refine lv_lconst (v := 0) hx hb dX12_see_2 (by decide) ?_
  refine lv_ldc2 (v := (3)) hx hb hC.2.2.1 (hC.2.2.2.1 _ q_RX12_113) dX12_see_3 ?_
  refine g_cz hw (g_rS [.long a0.toInt64, .long (0 : Int64), .long (3 : Int64)] [] C hw (m_X12_in h) k_X12_in q_RX12_107 rfl hl.1 rfl (Nat.le_of_ble_eq_true rfl) ⟨⟨rfl, rfl⟩, Nat.le_of_ble_eq_true rfl, Nat.le_of_ble_eq_true rfl⟩ ⟨Nat.zero_le _, Nat.zero_le _⟩ dX12_see_6) (fun r6 I6 J6 H locs z6 h hw => ?_)
  refine lv_if_eq (tgt := 34) hx hb dX12_see_9 (by decide) (fun c9 => ?_) (fun c9 => ?_)
  · have h := h.1 c9
    refine lv_bipush (v := -2) hx hb dX12_see_34 (by decide) ?_
    exact g_iret C hw h dX12_see_36
  · have h := h.2 c9
    refine lv_iload_n hx hb dX12_see_12 rfl (lv_at hl 2 rfl) ?_
    refine lv_i2l hx hb dX12_see_13 rfl ?_
    refine lv_lconst (v := 0) hx hb dX12_see_14 (by decide) ?_
    refine lv_ldc2 (v := (12)) hx hb hC.2.2.1 (hC.2.2.2.1 _ q_RX12_268) dX12_see_15 ?_
    refine g_cz hw (g_rS [.long a1.toInt64, .long (0 : Int64), .long (12 : Int64)] [] C hw (m_X12_in h) k_X12_in q_RX12_107 rfl hl.1 rfl (Nat.le_of_ble_eq_true rfl) ⟨⟨rfl, rfl⟩, Nat.le_of_ble_eq_true rfl, Nat.le_of_ble_eq_true rfl⟩ ⟨Nat.zero_le _, Nat.zero_le _⟩ dX12_see_18) (fun r18 I18 J18 H locs z18 h hw => ?_)
    refine lv_if_eq (tgt := 34) hx hb dX12_see_21 (by decide) (fun c21 => ?_) (fun c21 => ?_)
    · have h := h.1 c21
      refine lv_bipush (v := -2) hx hb dX12_see_34 (by decide) ?_
      exact g_iret C hw h dX12_see_36
    · have h := h.2 c21
      refine lv_iload_n hx hb dX12_see_24 rfl (lv_at hl 3 rfl) ?_
      refine lv_i2l hx hb dX12_see_25 rfl ?_
      refine lv_lconst (v := 0) hx hb dX12_see_26 (by decide) ?_
      refine lv_lconst (v := 1) hx hb dX12_see_27 (by decide) ?_
      refine g_cz hw (g_rS [.long a2.toInt64, .long (0 : Int64), .long (1 : Int64)] [] C hw (m_X12_in h) k_X12_in q_RX12_107 rfl hl.1 rfl (Nat.le_of_ble_eq_true rfl) ⟨⟨rfl, rfl⟩, Nat.le_of_ble_eq_true rfl, Nat.le_of_ble_eq_true rfl⟩ ⟨Nat.zero_le _, Nat.zero_le _⟩ dX12_see_28) (fun r28 I28 J28 H locs z28 h hw => ?_)
      refine lv_if_ne (tgt := 37) hx hb dX12_see_31 (by decide) (fun c31 => ?_) (fun c31 => ?_)
      · have h := h.1 c31
        refine lv_aload_n hx hb dX12_see_37 rfl (lv_at hl 0 rfl) ?_
        refine g_get C hw f_RX12_237 ml_0 (ms_0 _ _) rfl dX12_see_38 ?_
        refine lv_bipush (v := 6) hx hb dX12_see_41 (by decide) ?_
        refine lv_icmp_ne (tgt := 49) hx hb dX12_see_43 (by decide) (fun c43 => ?_) (fun c43 => ?_)
        · have h := h.1 c43
          refine lv_aload_n hx hb dX12_see_49 rfl (lv_at hl 0 rfl) ?_
          refine g_get C hw f_RX12_44 ml_0 (ms_0 _ _) rfl dX12_see_50 ?_
          refine lv_aload_n hx hb dX12_see_53 rfl (lv_at hl 0 rfl) ?_
          refine g_get C hw f_RX12_237 ml_0 (ms_0 _ _) rfl dX12_see_54 ?_
          refine lv_iload_n hx hb dX12_see_57 rfl (lv_at hl 1 rfl) ?_
          refine g_iast C hw ml_12 ms_12 h.1 dX12_see_58 (fun H locs hw => ?_)
          have h := h.2
          obtain ⟨I58, e58⟩ : ∃ z : MI, z = mI I28 12 (I28 0 19).toNatClampNeg a0 := ⟨_, rfl⟩
          have h := h I58 e58
          rw [← e58] at hw
          refine lv_aload_n hx hb dX12_see_59 rfl (lv_at hl 0 rfl) ?_
          refine g_get C hw f_RX12_47 ml_0 (ms_0 _ _) rfl dX12_see_60 ?_
          refine lv_aload_n hx hb dX12_see_63 rfl (lv_at hl 0 rfl) ?_
          refine g_get C hw f_RX12_237 ml_0 (ms_0 _ _) rfl dX12_see_64 ?_
          refine lv_iload_n hx hb dX12_see_67 rfl (lv_at hl 2 rfl) ?_
          refine g_iast C hw ml_13 ms_13 h.1 dX12_see_68 (fun H locs hw => ?_)
          have h := h.2
          obtain ⟨I68, e68⟩ : ∃ z : MI, z = mI I58 13 (I58 0 19).toNatClampNeg a1 := ⟨_, rfl⟩
          have h := h I68 e68
          rw [← e68] at hw
          refine lv_aload_n hx hb dX12_see_69 rfl (lv_at hl 0 rfl) ?_
          refine g_get C hw f_RX12_50 ml_0 (ms_0 _ _) rfl dX12_see_70 ?_
          refine lv_aload_n hx hb dX12_see_73 rfl (lv_at hl 0 rfl) ?_
          refine g_get C hw f_RX12_237 ml_0 (ms_0 _ _) rfl dX12_see_74 ?_
          refine lv_iload_n hx hb dX12_see_77 rfl (lv_at hl 3 rfl) ?_
          refine g_iast C hw ml_14 ms_14 h.1 dX12_see_78 (fun H locs hw => ?_)
          have h := h.2
          obtain ⟨I78, e78⟩ : ∃ z : MI, z = mI I68 14 (I68 0 19).toNatClampNeg a2 := ⟨_, rfl⟩
          have h := h I78 e78
          rw [← e78] at hw
          refine lv_aload_n hx hb dX12_see_79 rfl (lv_at hl 0 rfl) ?_
          refine lv_dup hx hb dX12_see_80 rfl ?_
          refine g_get C hw f_RX12_237 ml_0 (ms_0 _ _) rfl dX12_see_81 ?_
          refine lv_iconst (v := 1) hx hb dX12_see_84 (by decide) ?_
          refine lv_iadd hx hb dX12_see_85 ?_
          refine g_putI C hw fp_RX12_237 ml_0 ms_0 (st_11_19 ad _) (Nat.le_of_ble_eq_true rfl) rfl rfl dX12_see_86 (fun H locs hw => ?_)
          obtain ⟨I86, e86⟩ : ∃ z : MI, z = mI I78 0 19 ((I78 0 19) + (1 : Int32)) := ⟨_, rfl⟩
          have h := h I86 e86
          rw [← e86] at hw
          refine lv_aload_n hx hb dX12_see_89 rfl (lv_at hl 0 rfl) ?_
          refine g_get C hw f_RX12_237 ml_0 (ms_0 _ _) rfl dX12_see_90 ?_
          exact g_iret C hw h dX12_see_93
        · have h := h.2 c43
          refine lv_bipush (v := -4) hx hb dX12_see_46 (by decide) ?_
          exact g_iret C hw h dX12_see_48
      · have h := h.2 c31
        refine lv_bipush (v := -2) hx hb dX12_see_34 (by decide) ?_
        exact g_iret C hw h dX12_see_36
theorem m_X12_see {l : Launch} {a0 : Int32} {a1 : Int32} {a2 : Int32} {Q : Int32 → MI → MJ → Prop} {I : MI} {J : MJ} (h : P_X12_see a0 a1 a2 I J Q) : Met l yX12_see (xws yX12_see cX12_see 4 (some .int)) rmX12_see (va_Pc [.ref (ad 0), .int a0, .int a1, .int a2] (gB (mS ad cy) 30 ad cy D mE I J)) (gQi (mS ad cy) 30 ad cy D mE Q) 0 0 (gA 30 ad) :=
  g_met (mE_ok ad) rfl (by decide) (Nat.le_of_ble_eq_true rfl) (fun p e s m below meth c ls C hw hl => w_X12_see C  h hw hl)
/-! BagPhrasesModel.unsee()I -/
def P_X12_unsee (I : MI) (J : MJ) (Q : Int32 → MI → MJ → Prop) : Prop :=
  (∀ I7 : MI, I7 = mI I 0 19 (0 : Int32) → Q (I 0 19) I7 J)
abbrev rmX12_unsee : Room := { frames := 0, cells := 0, slots := 0, locals := 0 }
set_option maxHeartbeats 4000000 in
set_option maxRecDepth 100000 in
theorem w_X12_unsee {Q : Int32 → MI → MJ → Prop} (C : gC RX12 cX12_unsee 2 (some .int) 30 ad cy D mE p s m args meth c) {I : MI} {J : MJ} {H : Heap} {locs : List Loc} {ls : Array Slot} (h : P_X12_unsee I J Q) (hw : gH (mS ad cy) 30 ad D s I J H locs) (hl : lv_has ls 2 [(0, .ref (ad 0))]) : W p l e rmX12_unsee s m args below meth c H locs 0 0 (MQ below (gQi (mS ad cy) 30 ad cy D mE Q) args s 0 0 (gA 30 ad)) (F0 m 0 ls []) := by
  obtain ⟨hx, hb, hC⟩ := id C
  refine lv_aload_n hx hb dX12_unsee_0 rfl (lv_at hl 0 rfl) ?_
  refine g_get C hw f_RX12_237 ml_0 (ms_0 _ _) rfl dX12_unsee_1 ?_
  refine lv_istore_n (lv' := [(1, .int (I 0 19)), (0, .ref (ad 0))]) hx hb dX12_unsee_4 rfl hl (by decide) rfl (fun ls hl => ?_)
  refine lv_aload_n hx hb dX12_unsee_5 rfl (lv_at hl 1 rfl) ?_
  refine lv_iconst (v := 0) hx hb dX12_unsee_6 (by decide) ?_
  refine g_putI C hw fp_RX12_237 ml_0 ms_0 (st_11_19 ad _) (Nat.le_of_ble_eq_true rfl) rfl rfl dX12_unsee_7 (fun H locs hw => ?_)
  obtain ⟨I7, e7⟩ : ∃ z : MI, z = mI I 0 19 (0 : Int32) := ⟨_, rfl⟩
  have h := h I7 e7
  rw [← e7] at hw
  refine lv_iload_n hx hb dX12_unsee_10 rfl (lv_at hl 0 rfl) ?_
  exact g_iret C hw h dX12_unsee_11
theorem m_X12_unsee {l : Launch} {Q : Int32 → MI → MJ → Prop} {I : MI} {J : MJ} (h : P_X12_unsee I J Q) : Met l yX12_unsee (xws yX12_unsee cX12_unsee 2 (some .int)) rmX12_unsee (va_Pc [.ref (ad 0)] (gB (mS ad cy) 30 ad cy D mE I J)) (gQi (mS ad cy) 30 ad cy D mE Q) 0 0 (gA 30 ad) :=
  g_met (mE_ok ad) rfl (by decide) (Nat.le_of_ble_eq_true rfl) (fun p e s m below meth c ls C hw hl => w_X12_unsee C  h hw hl)
/-! BagPhrasesModel.isSo(III)Z -/
def P_X12_isSo_33 (Q : Int32 → MI → MJ → Prop) (kL6 : Int32 × Int32 × Int32 × Int32 × Int32 × MI × MJ → Prop) (x1 : Int32) (x2 : Int32) (x3 : Int32) (x5 : Int32) (s0 : Int32) (I : MI) (J : MJ) : Prop :=
  kL6 (x1, x2, x3, s0, (x5 + 1), I, J)
def P_X12_isSo_28 (Q : Int32 → MI → MJ → Prop) (kL6 : Int32 × Int32 × Int32 × Int32 × Int32 × MI × MJ → Prop) (x1 : Int32) (x2 : Int32) (x3 : Int32) (x5 : Int32) (I : MI) (J : MJ) : Prop :=
  P_X12_isSo_33 Q kL6 x1 x2 x3 x5 (1 : Int32) I J
def P_X12_isSo_6 (Q : Int32 → MI → MJ → Prop) (kL6 : Int32 × Int32 × Int32 × Int32 × Int32 × MI × MJ → Prop) : Int32 × Int32 × Int32 × Int32 × Int32 × MI × MJ → Prop := fun z => match z with
  | (x1, x2, x3, x4, x5, I, J) => ((x1 ≤ x5 → ((¬ x2 = 0 → ((¬ x2 = (1 : Int32) → ((¬ x2 = (2 : Int32) → vp_in (x1 - (1 : Int32)) 12 ∧ (((¬ (I 27 (x1 - (1 : Int32)).toNatClampNeg) = x3 → Q (0 : Int32) I J) ∧ ((I 27 (x1 - (1 : Int32)).toNatClampNeg) = x3 → Q (1 : Int32) I J)))) ∧ (x2 = (2 : Int32) → vp_in (0 : Int32) 12 ∧ (((¬ (I 27 (0 : Int32).toNatClampNeg) = x3 → Q (0 : Int32) I J) ∧ ((I 27 (0 : Int32).toNatClampNeg) = x3 → Q (1 : Int32) I J)))))) ∧ (x2 = (1 : Int32) → ((¬ x1 = x3 → Q (0 : Int32) I J) ∧ (x1 = x3 → Q (1 : Int32) I J))))) ∧ (x2 = 0 → (x4 = 0 ∨ x4 = 1) ∧ Q x4 I J))) ∧ (¬ x1 ≤ x5 → ((¬ x4 = 0 → P_X12_isSo_28 Q kL6 x1 x2 x3 x5 I J) ∧ (x4 = 0 → vp_in x5 12 ∧ (((¬ (I 27 x5.toNatClampNeg) = x3 → P_X12_isSo_33 Q kL6 x1 x2 x3 x5 (0 : Int32) I J) ∧ ((I 27 x5.toNatClampNeg) = x3 → P_X12_isSo_28 Q kL6 x1 x2 x3 x5 I J)))))))
def P_X12_isSo (a0 : Int32) (a1 : Int32) (a2 : Int32) (I : MI) (J : MJ) (Q : Int32 → MI → MJ → Prop) : Prop :=
  lpx (P_X12_isSo_6 Q) (a0, a1, a2, (0 : Int32), (0 : Int32), I, J)
abbrev rmX12_isSo : Room := { frames := 0, cells := 0, slots := 0, locals := 0 }
set_option maxHeartbeats 4000000 in
set_option maxRecDepth 100000 in
theorem w_X12_isSo_33 {Q : Int32 → MI → MJ → Prop} (C : gC RX12 cX12_isSo 6 (some .boolean) 30 ad cy D mE p s m args meth c) {kL6 : Int32 × Int32 × Int32 × Int32 × Int32 × MI × MJ → Prop} (hL6 : ∀ {x1 : Int32} {x2 : Int32} {x3 : Int32} {x4 : Int32} {x5 : Int32} {I : MI} {J : MJ} {H : Heap} {locs : List Loc} {ls : Array Slot}, kL6 (x1, x2, x3, x4, x5, I, J) → gH (mS ad cy) 30 ad D s I J H locs → lv_has ls 6 [(0, .ref (ad 0)), (1, .int x1), (2, .int x2), (3, .int x3), (4, .int x4), (5, .int x5)] → W p l e rmX12_isSo s m args below meth c H locs 0 0 (MQ below (gQz (mS ad cy) 30 ad cy D mE Q) args s 0 0 (gA 30 ad)) (F0 m 6 ls [])) {x1 : Int32} {x2 : Int32} {x3 : Int32} {x5 : Int32} {s0 : Int32} {I : MI} {J : MJ} {H : Heap} {locs : List Loc} {ls : Array Slot} (h : P_X12_isSo_33 Q kL6 x1 x2 x3 x5 s0 I J) (hw : gH (mS ad cy) 30 ad D s I J H locs) (hl : lv_has ls 6 [(0, .ref (ad 0)), (1, .int x1), (2, .int x2), (3, .int x3), (5, .int x5)]) : W p l e rmX12_isSo s m args below meth c H locs 0 0 (MQ below (gQz (mS ad cy) 30 ad cy D mE Q) args s 0 0 (gA 30 ad)) (F0 m 33 ls [.int s0]) := by
  obtain ⟨hx, hb, hC⟩ := id C
  refine lv_istore (lv' := [(4, .int s0), (0, .ref (ad 0)), (1, .int x1), (2, .int x2), (3, .int x3), (5, .int x5)]) hx hb dX12_isSo_33 hl (by decide) rfl (fun ls hl => ?_)
  refine lv_iinc (v := x5 + 1) (lv' := [(5, .int (x5 + 1)), (4, .int s0), (0, .ref (ad 0)), (1, .int x1), (2, .int x2), (3, .int x3)]) hx hb dX12_isSo_35 hl (k := 5) rfl rfl (by decide) rfl (fun ls hl => ?_)
  refine lv_goto (tgt := 6) hx hb dX12_isSo_38 (by decide) ?_
  exact hL6 h hw (lv_sub hl [2, 3, 4, 5, 1, 0] rfl)
set_option maxHeartbeats 4000000 in
set_option maxRecDepth 100000 in
theorem w_X12_isSo_28 {Q : Int32 → MI → MJ → Prop} (C : gC RX12 cX12_isSo 6 (some .boolean) 30 ad cy D mE p s m args meth c) {kL6 : Int32 × Int32 × Int32 × Int32 × Int32 × MI × MJ → Prop} (hL6 : ∀ {x1 : Int32} {x2 : Int32} {x3 : Int32} {x4 : Int32} {x5 : Int32} {I : MI} {J : MJ} {H : Heap} {locs : List Loc} {ls : Array Slot}, kL6 (x1, x2, x3, x4, x5, I, J) → gH (mS ad cy) 30 ad D s I J H locs → lv_has ls 6 [(0, .ref (ad 0)), (1, .int x1), (2, .int x2), (3, .int x3), (4, .int x4), (5, .int x5)] → W p l e rmX12_isSo s m args below meth c H locs 0 0 (MQ below (gQz (mS ad cy) 30 ad cy D mE Q) args s 0 0 (gA 30 ad)) (F0 m 6 ls [])) {x1 : Int32} {x2 : Int32} {x3 : Int32} {x5 : Int32} {I : MI} {J : MJ} {H : Heap} {locs : List Loc} {ls : Array Slot} (h : P_X12_isSo_28 Q kL6 x1 x2 x3 x5 I J) (hw : gH (mS ad cy) 30 ad D s I J H locs) (hl : lv_has ls 6 [(0, .ref (ad 0)), (1, .int x1), (2, .int x2), (3, .int x3), (5, .int x5)]) : W p l e rmX12_isSo s m args below meth c H locs 0 0 (MQ below (gQz (mS ad cy) 30 ad cy D mE Q) args s 0 0 (gA 30 ad)) (F0 m 28 ls []) := by
  obtain ⟨hx, hb, hC⟩ := id C
  refine lv_iconst (v := 1) hx hb dX12_isSo_28 (by decide) ?_
  refine lv_goto (tgt := 33) hx hb dX12_isSo_29 (by decide) ?_
  exact w_X12_isSo_33 C hL6 h hw (lv_sub hl [0, 1, 2, 3, 4] rfl)
set_option maxHeartbeats 4000000 in
set_option maxRecDepth 100000 in
theorem w_X12_isSo_6 {Q : Int32 → MI → MJ → Prop} (C : gC RX12 cX12_isSo 6 (some .boolean) 30 ad cy D mE p s m args meth c) {kL6 : Int32 × Int32 × Int32 × Int32 × Int32 × MI × MJ → Prop} (hL6 : ∀ {x1 : Int32} {x2 : Int32} {x3 : Int32} {x4 : Int32} {x5 : Int32} {I : MI} {J : MJ} {H : Heap} {locs : List Loc} {ls : Array Slot}, kL6 (x1, x2, x3, x4, x5, I, J) → gH (mS ad cy) 30 ad D s I J H locs → lv_has ls 6 [(0, .ref (ad 0)), (1, .int x1), (2, .int x2), (3, .int x3), (4, .int x4), (5, .int x5)] → W p l e rmX12_isSo s m args below meth c H locs 0 0 (MQ below (gQz (mS ad cy) 30 ad cy D mE Q) args s 0 0 (gA 30 ad)) (F0 m 6 ls [])) {x1 : Int32} {x2 : Int32} {x3 : Int32} {x4 : Int32} {x5 : Int32} {I : MI} {J : MJ} {H : Heap} {locs : List Loc} {ls : Array Slot} (h : P_X12_isSo_6 Q kL6 (x1, x2, x3, x4, x5, I, J)) (hw : gH (mS ad cy) 30 ad D s I J H locs) (hl : lv_has ls 6 [(0, .ref (ad 0)), (1, .int x1), (2, .int x2), (3, .int x3), (4, .int x4), (5, .int x5)]) : W p l e rmX12_isSo s m args below meth c H locs 0 0 (MQ below (gQz (mS ad cy) 30 ad cy D mE Q) args s 0 0 (gA 30 ad)) (F0 m 6 ls []) := by
  obtain ⟨hx, hb, hC⟩ := id C
  refine lv_iload hx hb dX12_isSo_6 (lv_at hl 5 rfl) ?_
  refine lv_iload_n hx hb dX12_isSo_8 rfl (lv_at hl 1 rfl) ?_
  refine lv_icmp_ge (tgt := 41) hx hb dX12_isSo_9 (by decide) (fun c9 => ?_) (fun c9 => ?_)
  · have h := h.1 c9
    refine lv_iload_n hx hb dX12_isSo_41 rfl (lv_at hl 2 rfl) ?_
    refine lv_if_ne (tgt := 50) hx hb dX12_isSo_42 (by decide) (fun c42 => ?_) (fun c42 => ?_)
    · have h := h.1 c42
      refine lv_iload_n hx hb dX12_isSo_50 rfl (lv_at hl 2 rfl) ?_
      refine lv_iconst (v := 1) hx hb dX12_isSo_51 (by decide) ?_
      refine lv_icmp_ne (tgt := 68) hx hb dX12_isSo_52 (by decide) (fun c52 => ?_) (fun c52 => ?_)
      · have h := h.1 c52
        refine lv_iload_n hx hb dX12_isSo_68 rfl (lv_at hl 2 rfl) ?_
        refine lv_iconst (v := 2) hx hb dX12_isSo_69 (by decide) ?_
        refine lv_icmp_ne (tgt := 91) hx hb dX12_isSo_70 (by decide) (fun c70 => ?_) (fun c70 => ?_)
        · have h := h.1 c70
          refine lv_aload_n hx hb dX12_isSo_91 rfl (lv_at hl 0 rfl) ?_
          refine g_get C hw f_RX12_90 ml_0 (ms_0 _ _) rfl dX12_isSo_92 ?_
          refine lv_iload_n hx hb dX12_isSo_95 rfl (lv_at hl 1 rfl) ?_
          refine lv_iconst (v := 1) hx hb dX12_isSo_96 (by decide) ?_
          refine lv_isub hx hb dX12_isSo_97 ?_
          refine g_iald C hw ml_27 ms_27 h.1 dX12_isSo_98 ?_
          have h := h.2
          refine lv_iload_n hx hb dX12_isSo_99 rfl (lv_at hl 3 rfl) ?_
          refine lv_icmp_ne (tgt := 107) hx hb dX12_isSo_100 (by decide) (fun c100 => ?_) (fun c100 => ?_)
          · have h := h.1 c100
            refine lv_iconst (v := 0) hx hb dX12_isSo_107 (by decide) ?_
            exact g_zret C hw (by decide) h dX12_isSo_108
          · have h := h.2 c100
            refine lv_iconst (v := 1) hx hb dX12_isSo_103 (by decide) ?_
            refine lv_goto (tgt := 108) hx hb dX12_isSo_104 (by decide) ?_
            exact g_zret C hw (by decide) h dX12_isSo_108
        · have h := h.2 c70
          refine lv_aload_n hx hb dX12_isSo_73 rfl (lv_at hl 0 rfl) ?_
          refine g_get C hw f_RX12_90 ml_0 (ms_0 _ _) rfl dX12_isSo_74 ?_
          refine lv_iconst (v := 0) hx hb dX12_isSo_77 (by decide) ?_
          refine g_iald C hw ml_27 ms_27 h.1 dX12_isSo_78 ?_
          have h := h.2
          refine lv_iload_n hx hb dX12_isSo_79 rfl (lv_at hl 3 rfl) ?_
          refine lv_icmp_ne (tgt := 87) hx hb dX12_isSo_80 (by decide) (fun c80 => ?_) (fun c80 => ?_)
          · have h := h.1 c80
            refine lv_iconst (v := 0) hx hb dX12_isSo_87 (by decide) ?_
            refine lv_goto (tgt := 108) hx hb dX12_isSo_88 (by decide) ?_
            exact g_zret C hw (by decide) h dX12_isSo_108
          · have h := h.2 c80
            refine lv_iconst (v := 1) hx hb dX12_isSo_83 (by decide) ?_
            refine lv_goto (tgt := 108) hx hb dX12_isSo_84 (by decide) ?_
            exact g_zret C hw (by decide) h dX12_isSo_108
      · have h := h.2 c52
        refine lv_iload_n hx hb dX12_isSo_55 rfl (lv_at hl 1 rfl) ?_
        refine lv_iload_n hx hb dX12_isSo_56 rfl (lv_at hl 3 rfl) ?_
        refine lv_icmp_ne (tgt := 64) hx hb dX12_isSo_57 (by decide) (fun c57 => ?_) (fun c57 => ?_)
        · have h := h.1 c57
          refine lv_iconst (v := 0) hx hb dX12_isSo_64 (by decide) ?_
          refine lv_goto (tgt := 108) hx hb dX12_isSo_65 (by decide) ?_
          exact g_zret C hw (by decide) h dX12_isSo_108
        · have h := h.2 c57
          refine lv_iconst (v := 1) hx hb dX12_isSo_60 (by decide) ?_
          refine lv_goto (tgt := 108) hx hb dX12_isSo_61 (by decide) ?_
          exact g_zret C hw (by decide) h dX12_isSo_108
    · have h := h.2 c42
      refine lv_iload hx hb dX12_isSo_45 (lv_at hl 4 rfl) ?_
      refine lv_goto (tgt := 108) hx hb dX12_isSo_47 (by decide) ?_
      exact g_zret C hw h.1 h.2 dX12_isSo_108
  · have h := h.2 c9
    refine lv_iload hx hb dX12_isSo_12 (lv_at hl 4 rfl) ?_
    refine lv_if_ne (tgt := 28) hx hb dX12_isSo_14 (by decide) (fun c14 => ?_) (fun c14 => ?_)
    · have h := h.1 c14
      exact w_X12_isSo_28 C hL6 h hw (lv_sub hl [0, 1, 2, 3, 5] rfl)
    · have h := h.2 c14
      refine lv_aload_n hx hb dX12_isSo_17 rfl (lv_at hl 0 rfl) ?_
      refine g_get C hw f_RX12_90 ml_0 (ms_0 _ _) rfl dX12_isSo_18 ?_
      refine lv_iload hx hb dX12_isSo_21 (lv_at hl 5 rfl) ?_
      refine g_iald C hw ml_27 ms_27 h.1 dX12_isSo_23 ?_
      have h := h.2
      refine lv_iload_n hx hb dX12_isSo_24 rfl (lv_at hl 3 rfl) ?_
      refine lv_icmp_ne (tgt := 32) hx hb dX12_isSo_25 (by decide) (fun c25 => ?_) (fun c25 => ?_)
      · have h := h.1 c25
        refine lv_iconst (v := 0) hx hb dX12_isSo_32 (by decide) ?_
        exact w_X12_isSo_33 C hL6 h hw (lv_sub hl [0, 1, 2, 3, 5] rfl)
      · have h := h.2 c25
        exact w_X12_isSo_28 C hL6 h hw (lv_sub hl [0, 1, 2, 3, 5] rfl)
theorem wl_X12_isSo_6 {Q : Int32 → MI → MJ → Prop} (C : gC RX12 cX12_isSo 6 (some .boolean) 30 ad cy D mE p s m args meth c) {x1 : Int32} {x2 : Int32} {x3 : Int32} {x4 : Int32} {x5 : Int32} {I : MI} {J : MJ} {H : Heap} {locs : List Loc} {ls : Array Slot} (h : lpx (P_X12_isSo_6 Q) (x1, x2, x3, x4, x5, I, J)) (hw : gH (mS ad cy) 30 ad D s I J H locs) (hl : lv_has ls 6 [(0, .ref (ad 0)), (1, .int x1), (2, .int x2), (3, .int x3), (4, .int x4), (5, .int x5)]) : W p l e rmX12_isSo s m args below meth c H locs 0 0 (MQ below (gQz (mS ad cy) 30 ad cy D mE Q) args s 0 0 (gA 30 ad)) (F0 m 6 ls []) := by
  obtain ⟨n, h⟩ := h
  induction n generalizing x1 x2 x3 x4 x5 I J H locs ls with
  | zero => exact False.elim h
  | succ n ih => exact w_X12_isSo_6 C  (fun hk9 hw9 hl9 => ih hw9 hl9 hk9) h hw hl
set_option maxHeartbeats 4000000 in
set_option maxRecDepth 100000 in
theorem w_X12_isSo {Q : Int32 → MI → MJ → Prop} (C : gC RX12 cX12_isSo 6 (some .boolean) 30 ad cy D mE p s m args meth c) {a0 : Int32} {a1 : Int32} {a2 : Int32} {I : MI} {J : MJ} {H : Heap} {locs : List Loc} {ls : Array Slot} (h : P_X12_isSo a0 a1 a2 I J Q) (hw : gH (mS ad cy) 30 ad D s I J H locs) (hl : lv_has ls 6 [(0, .ref (ad 0)), (1, .int a0), (2, .int a1), (3, .int a2)]) : W p l e rmX12_isSo s m args below meth c H locs 0 0 (MQ below (gQz (mS ad cy) 30 ad cy D mE Q) args s 0 0 (gA 30 ad)) (F0 m 0 ls []) := by
  obtain ⟨hx, hb, hC⟩ := id C
  refine lv_iconst (v := 0) hx hb dX12_isSo_0 (by decide) ?_
  refine lv_istore (lv' := [(4, .int (0 : Int32)), (0, .ref (ad 0)), (1, .int a0), (2, .int a1), (3, .int a2)]) hx hb dX12_isSo_1 hl (by decide) rfl (fun ls hl => ?_)
  refine lv_iconst (v := 0) hx hb dX12_isSo_3 (by decide) ?_
  refine lv_istore (lv' := [(5, .int (0 : Int32)), (4, .int (0 : Int32)), (0, .ref (ad 0)), (1, .int a0), (2, .int a1), (3, .int a2)]) hx hb dX12_isSo_4 hl (by decide) rfl (fun ls hl => ?_)
  exact wl_X12_isSo_6 C  h hw (lv_sub hl [2, 3, 4, 5, 1, 0] rfl)
theorem m_X12_isSo {l : Launch} {a0 : Int32} {a1 : Int32} {a2 : Int32} {Q : Int32 → MI → MJ → Prop} {I : MI} {J : MJ} (h : P_X12_isSo a0 a1 a2 I J Q) : Met l yX12_isSo (xws yX12_isSo cX12_isSo 6 (some .boolean)) rmX12_isSo (va_Pc [.ref (ad 0), .int a0, .int a1, .int a2] (gB (mS ad cy) 30 ad cy D mE I J)) (gQz (mS ad cy) 30 ad cy D mE Q) 0 0 (gA 30 ad) :=
  g_met (mE_ok ad) rfl (by decide) (Nat.le_of_ble_eq_true rfl) (fun p e s m below meth c ls C hw hl => w_X12_isSo C  h hw hl)
/-! BagPhrasesModel.left(I)I -/
def P_X12_left_159 (Q : Int32 → MI → MJ → Prop) (kL46 : Int32 × Int32 × Int32 × Int32 × MI × MJ → Prop) (x1 : Int32) (x4 : Int32) (x6 : Int32) (s0 : Int32) (I : MI) (J : MJ) : Prop :=
  kL46 (x1, x4, s0, (x6 + (-1)), I, J)
def P_X12_left_144 (Q : Int32 → MI → MJ → Prop) (kL46 : Int32 × Int32 × Int32 × Int32 × MI × MJ → Prop) (x1 : Int32) (x5 : Int32) (x6 : Int32) (x8 : Int32) (s0 : Int32) (s1 : Int32) (I : MI) (J : MJ) : Prop :=
  ((x8 = 0 → P_X12_left_159 Q kL46 x1 (s0 + s1) x6 x5 I J) ∧ (¬ x8 = 0 → P_X12_left_159 Q kL46 x1 (s0 + s1) x6 x6 I J))
def P_X12_left_124 (Q : Int32 → MI → MJ → Prop) (kL46 : Int32 × Int32 × Int32 × Int32 × MI × MJ → Prop) (kL66 : Int32 × Int32 × Int32 × Int32 × Int32 × Int32 × Int32 × MI × MJ → Prop) (x1 : Int32) (x4 : Int32) (x5 : Int32) (x6 : Int32) (x7 : Int32) (x9 : Int32) (s0 : Int32) (I : MI) (J : MJ) : Prop :=
  kL66 (x1, x4, x5, x6, x7, s0, (x9 + 1), I, J)
def P_X12_left_123 (Q : Int32 → MI → MJ → Prop) (kL46 : Int32 × Int32 × Int32 × Int32 × MI × MJ → Prop) (kL66 : Int32 × Int32 × Int32 × Int32 × Int32 × Int32 × Int32 × MI × MJ → Prop) (x1 : Int32) (x4 : Int32) (x5 : Int32) (x6 : Int32) (x7 : Int32) (x9 : Int32) (I : MI) (J : MJ) : Prop :=
  P_X12_left_124 Q kL46 kL66 x1 x4 x5 x6 x7 x9 (0 : Int32) I J
def P_X12_left_116 (Q : Int32 → MI → MJ → Prop) (kL46 : Int32 × Int32 × Int32 × Int32 × MI × MJ → Prop) (kL66 : Int32 × Int32 × Int32 × Int32 × Int32 × Int32 × Int32 × MI × MJ → Prop) (x1 : Int32) (x4 : Int32) (x5 : Int32) (x6 : Int32) (x7 : Int32) (x9 : Int32) (s0 : Int32) (s1 : Int32) (I : MI) (J : MJ) : Prop :=
  ((¬ s0 = s1 → P_X12_left_123 Q kL46 kL66 x1 x4 x5 x6 x7 x9 I J) ∧ (s0 = s1 → P_X12_left_124 Q kL46 kL66 x1 x4 x5 x6 x7 x9 (1 : Int32) I J))
def P_X12_left_66 (Q : Int32 → MI → MJ → Prop) (kL46 : Int32 × Int32 × Int32 × Int32 × MI × MJ → Prop) (kL66 : Int32 × Int32 × Int32 × Int32 × Int32 × Int32 × Int32 × MI × MJ → Prop) : Int32 × Int32 × Int32 × Int32 × Int32 × Int32 × Int32 × MI × MJ → Prop := fun z => match z with
  | (x1, x4, x5, x6, x7, x8, x9, I, J) => (((I 0 19) ≤ x9 → ((x8 = 0 → P_X12_left_144 Q kL46 x1 x5 x6 x8 x4 (0 : Int32) I J) ∧ (¬ x8 = 0 → P_X12_left_144 Q kL46 x1 x5 x6 x8 x4 (1 : Int32) I J))) ∧ (¬ (I 0 19) ≤ x9 → ((x8 = 0 → P_X12_left_123 Q kL46 kL66 x1 x4 x5 x6 x7 x9 I J) ∧ (¬ x8 = 0 → vp_in x9 6 ∧ (vp_in x9 6 ∧ (P_X12_isSo x7 (I 12 x9.toNatClampNeg) (I 13 x9.toNatClampNeg) I J (fun r97 I97 J97 => vp_in x9 6 ∧ (((¬ (I97 14 x9.toNatClampNeg) = (1 : Int32) → P_X12_left_116 Q kL46 kL66 x1 x4 x5 x6 x7 x9 r97 (0 : Int32) I97 J97) ∧ ((I97 14 x9.toNatClampNeg) = (1 : Int32) → P_X12_left_116 Q kL46 kL66 x1 x4 x5 x6 x7 x9 r97 (1 : Int32) I97 J97))))))))))
def P_X12_left_46 (Q : Int32 → MI → MJ → Prop) (kL46 : Int32 × Int32 × Int32 × Int32 × MI × MJ → Prop) : Int32 × Int32 × Int32 × Int32 × MI × MJ → Prop := fun z => match z with
  | (x1, x4, x5, x6, I, J) => ((x6 < 0 → ((¬ x1 = 0 → Q x5 I J) ∧ (x1 = 0 → Q x4 I J))) ∧ (¬ x6 < 0 → P_X12_find x6.toInt64 I J (fun r55 I55 J55 => lpx (P_X12_left_66 Q kL46) (x1, x4, x5, x6, r55, (1 : Int32), (0 : Int32), I55, J55))))
def P_X12_left (a0 : Int32) (I : MI) (J : MJ) (Q : Int32 → MI → MJ → Prop) : Prop :=
  P_X12_in a0.toInt64 (0 : Int64) (1 : Int64) I J (fun r4 I4 J4 => ((¬ r4 = 0 → P_X12_manyOf 6 I4 J4 (fun r18 I18 J18 => ((r18 ≤ (2000 : Int64) → lpx (P_X12_left_46 Q) (a0, (0 : Int32), (-9 : Int32), (r18.toInt32 - (1 : Int32)), I18, J18)) ∧ (¬ r18 ≤ (2000 : Int64) → Q (-3 : Int32) I18 J18)))) ∧ (r4 = 0 → Q (-2 : Int32) I4 J4)))
abbrev rmX12_left : Room := { frames := 4, cells := 0, slots := 0, locals := 91 }
set_option maxHeartbeats 4000000 in
set_option maxRecDepth 100000 in
theorem w_X12_left_159 {Q : Int32 → MI → MJ → Prop} (C : gC RX12 cX12_left 10 (some .int) 30 ad cy D mE p s m args meth c) {kL46 : Int32 × Int32 × Int32 × Int32 × MI × MJ → Prop} (hL46 : ∀ {x1 : Int32} {x4 : Int32} {x5 : Int32} {x6 : Int32} {I : MI} {J : MJ} {H : Heap} {locs : List Loc} {ls : Array Slot}, kL46 (x1, x4, x5, x6, I, J) → gH (mS ad cy) 30 ad D s I J H locs → lv_has ls 10 [(0, .ref (ad 0)), (1, .int x1), (4, .int x4), (5, .int x5), (6, .int x6)] → W p l e rmX12_left s m args below meth c H locs 0 0 (MQ below (gQi (mS ad cy) 30 ad cy D mE Q) args s 0 0 (gA 30 ad)) (F0 m 46 ls [])) {x1 : Int32} {x4 : Int32} {x6 : Int32} {s0 : Int32} {I : MI} {J : MJ} {H : Heap} {locs : List Loc} {ls : Array Slot} (h : P_X12_left_159 Q kL46 x1 x4 x6 s0 I J) (hw : gH (mS ad cy) 30 ad D s I J H locs) (hl : lv_has ls 10 [(0, .ref (ad 0)), (1, .int x1), (4, .int x4), (6, .int x6)]) : W p l e rmX12_left s m args below meth c H locs 0 0 (MQ below (gQi (mS ad cy) 30 ad cy D mE Q) args s 0 0 (gA 30 ad)) (F0 m 159 ls [.int s0]) := by
  obtain ⟨hx, hb, hC⟩ := id C
  refine lv_istore (lv' := [(5, .int s0), (0, .ref (ad 0)), (1, .int x1), (4, .int x4), (6, .int x6)]) hx hb dX12_left_159 hl (by decide) rfl (fun ls hl => ?_)
  refine lv_iinc (v := x6 + (-1)) (lv' := [(6, .int (x6 + (-1))), (5, .int s0), (0, .ref (ad 0)), (1, .int x1), (4, .int x4)]) hx hb dX12_left_161 hl (k := 4) rfl rfl (by decide) rfl (fun ls hl => ?_)
  refine lv_goto (tgt := 46) hx hb dX12_left_164 (by decide) ?_
  exact hL46 h hw (lv_sub hl [2, 3, 4, 1, 0] rfl)
set_option maxHeartbeats 4000000 in
set_option maxRecDepth 100000 in
theorem w_X12_left_144 {Q : Int32 → MI → MJ → Prop} (C : gC RX12 cX12_left 10 (some .int) 30 ad cy D mE p s m args meth c) {kL46 : Int32 × Int32 × Int32 × Int32 × MI × MJ → Prop} (hL46 : ∀ {x1 : Int32} {x4 : Int32} {x5 : Int32} {x6 : Int32} {I : MI} {J : MJ} {H : Heap} {locs : List Loc} {ls : Array Slot}, kL46 (x1, x4, x5, x6, I, J) → gH (mS ad cy) 30 ad D s I J H locs → lv_has ls 10 [(0, .ref (ad 0)), (1, .int x1), (4, .int x4), (5, .int x5), (6, .int x6)] → W p l e rmX12_left s m args below meth c H locs 0 0 (MQ below (gQi (mS ad cy) 30 ad cy D mE Q) args s 0 0 (gA 30 ad)) (F0 m 46 ls [])) {x1 : Int32} {x5 : Int32} {x6 : Int32} {x8 : Int32} {s0 : Int32} {s1 : Int32} {I : MI} {J : MJ} {H : Heap} {locs : List Loc} {ls : Array Slot} (h : P_X12_left_144 Q kL46 x1 x5 x6 x8 s0 s1 I J) (hw : gH (mS ad cy) 30 ad D s I J H locs) (hl : lv_has ls 10 [(0, .ref (ad 0)), (1, .int x1), (5, .int x5), (6, .int x6), (8, .int x8)]) : W p l e rmX12_left s m args below meth c H locs 0 0 (MQ below (gQi (mS ad cy) 30 ad cy D mE Q) args s 0 0 (gA 30 ad)) (F0 m 144 ls [.int s1, .int s0]) := by
  obtain ⟨hx, hb, hC⟩ := id C
  refine lv_iadd hx hb dX12_left_144 ?_
  refine lv_istore (lv' := [(4, .int (s0 + s1)), (0, .ref (ad 0)), (1, .int x1), (5, .int x5), (6, .int x6), (8, .int x8)]) hx hb dX12_left_145 hl (by decide) rfl (fun ls hl => ?_)
  refine lv_iload hx hb dX12_left_147 (lv_at hl 5 rfl) ?_
  refine lv_if_eq (tgt := 157) hx hb dX12_left_149 (by decide) (fun c149 => ?_) (fun c149 => ?_)
  · have h := h.1 c149
    refine lv_iload hx hb dX12_left_157 (lv_at hl 3 rfl) ?_
    exact w_X12_left_159 C hL46 h hw (lv_sub hl [1, 2, 0, 4] rfl)
  · have h := h.2 c149
    refine lv_iload hx hb dX12_left_152 (lv_at hl 4 rfl) ?_
    refine lv_goto (tgt := 159) hx hb dX12_left_154 (by decide) ?_
    exact w_X12_left_159 C hL46 h hw (lv_sub hl [1, 2, 0, 4] rfl)
set_option maxHeartbeats 4000000 in
set_option maxRecDepth 100000 in
theorem w_X12_left_124 {Q : Int32 → MI → MJ → Prop} (C : gC RX12 cX12_left 10 (some .int) 30 ad cy D mE p s m args meth c) {kL46 : Int32 × Int32 × Int32 × Int32 × MI × MJ → Prop} (hL46 : ∀ {x1 : Int32} {x4 : Int32} {x5 : Int32} {x6 : Int32} {I : MI} {J : MJ} {H : Heap} {locs : List Loc} {ls : Array Slot}, kL46 (x1, x4, x5, x6, I, J) → gH (mS ad cy) 30 ad D s I J H locs → lv_has ls 10 [(0, .ref (ad 0)), (1, .int x1), (4, .int x4), (5, .int x5), (6, .int x6)] → W p l e rmX12_left s m args below meth c H locs 0 0 (MQ below (gQi (mS ad cy) 30 ad cy D mE Q) args s 0 0 (gA 30 ad)) (F0 m 46 ls [])) {kL66 : Int32 × Int32 × Int32 × Int32 × Int32 × Int32 × Int32 × MI × MJ → Prop} (hL66 : ∀ {x1 : Int32} {x4 : Int32} {x5 : Int32} {x6 : Int32} {x7 : Int32} {x8 : Int32} {x9 : Int32} {I : MI} {J : MJ} {H : Heap} {locs : List Loc} {ls : Array Slot}, kL66 (x1, x4, x5, x6, x7, x8, x9, I, J) → gH (mS ad cy) 30 ad D s I J H locs → lv_has ls 10 [(0, .ref (ad 0)), (1, .int x1), (4, .int x4), (5, .int x5), (6, .int x6), (7, .int x7), (8, .int x8), (9, .int x9)] → W p l e rmX12_left s m args below meth c H locs 0 0 (MQ below (gQi (mS ad cy) 30 ad cy D mE Q) args s 0 0 (gA 30 ad)) (F0 m 66 ls [])) {x1 : Int32} {x4 : Int32} {x5 : Int32} {x6 : Int32} {x7 : Int32} {x9 : Int32} {s0 : Int32} {I : MI} {J : MJ} {H : Heap} {locs : List Loc} {ls : Array Slot} (h : P_X12_left_124 Q kL46 kL66 x1 x4 x5 x6 x7 x9 s0 I J) (hw : gH (mS ad cy) 30 ad D s I J H locs) (hl : lv_has ls 10 [(0, .ref (ad 0)), (1, .int x1), (4, .int x4), (5, .int x5), (6, .int x6), (7, .int x7), (9, .int x9)]) : W p l e rmX12_left s m args below meth c H locs 0 0 (MQ below (gQi (mS ad cy) 30 ad cy D mE Q) args s 0 0 (gA 30 ad)) (F0 m 124 ls [.int s0]) := by
  obtain ⟨hx, hb, hC⟩ := id C
  refine lv_istore (lv' := [(8, .int s0), (0, .ref (ad 0)), (1, .int x1), (4, .int x4), (5, .int x5), (6, .int x6), (7, .int x7), (9, .int x9)]) hx hb dX12_left_124 hl (by decide) rfl (fun ls hl => ?_)
  refine lv_iinc (v := x9 + 1) (lv' := [(9, .int (x9 + 1)), (8, .int s0), (0, .ref (ad 0)), (1, .int x1), (4, .int x4), (5, .int x5), (6, .int x6), (7, .int x7)]) hx hb dX12_left_126 hl (k := 7) rfl rfl (by decide) rfl (fun ls hl => ?_)
  refine lv_goto (tgt := 66) hx hb dX12_left_129 (by decide) ?_
  exact hL66 h hw (lv_sub hl [2, 3, 4, 5, 6, 7, 1, 0] rfl)
set_option maxHeartbeats 4000000 in
set_option maxRecDepth 100000 in
theorem w_X12_left_123 {Q : Int32 → MI → MJ → Prop} (C : gC RX12 cX12_left 10 (some .int) 30 ad cy D mE p s m args meth c) {kL46 : Int32 × Int32 × Int32 × Int32 × MI × MJ → Prop} (hL46 : ∀ {x1 : Int32} {x4 : Int32} {x5 : Int32} {x6 : Int32} {I : MI} {J : MJ} {H : Heap} {locs : List Loc} {ls : Array Slot}, kL46 (x1, x4, x5, x6, I, J) → gH (mS ad cy) 30 ad D s I J H locs → lv_has ls 10 [(0, .ref (ad 0)), (1, .int x1), (4, .int x4), (5, .int x5), (6, .int x6)] → W p l e rmX12_left s m args below meth c H locs 0 0 (MQ below (gQi (mS ad cy) 30 ad cy D mE Q) args s 0 0 (gA 30 ad)) (F0 m 46 ls [])) {kL66 : Int32 × Int32 × Int32 × Int32 × Int32 × Int32 × Int32 × MI × MJ → Prop} (hL66 : ∀ {x1 : Int32} {x4 : Int32} {x5 : Int32} {x6 : Int32} {x7 : Int32} {x8 : Int32} {x9 : Int32} {I : MI} {J : MJ} {H : Heap} {locs : List Loc} {ls : Array Slot}, kL66 (x1, x4, x5, x6, x7, x8, x9, I, J) → gH (mS ad cy) 30 ad D s I J H locs → lv_has ls 10 [(0, .ref (ad 0)), (1, .int x1), (4, .int x4), (5, .int x5), (6, .int x6), (7, .int x7), (8, .int x8), (9, .int x9)] → W p l e rmX12_left s m args below meth c H locs 0 0 (MQ below (gQi (mS ad cy) 30 ad cy D mE Q) args s 0 0 (gA 30 ad)) (F0 m 66 ls [])) {x1 : Int32} {x4 : Int32} {x5 : Int32} {x6 : Int32} {x7 : Int32} {x9 : Int32} {I : MI} {J : MJ} {H : Heap} {locs : List Loc} {ls : Array Slot} (h : P_X12_left_123 Q kL46 kL66 x1 x4 x5 x6 x7 x9 I J) (hw : gH (mS ad cy) 30 ad D s I J H locs) (hl : lv_has ls 10 [(0, .ref (ad 0)), (1, .int x1), (4, .int x4), (5, .int x5), (6, .int x6), (7, .int x7), (9, .int x9)]) : W p l e rmX12_left s m args below meth c H locs 0 0 (MQ below (gQi (mS ad cy) 30 ad cy D mE Q) args s 0 0 (gA 30 ad)) (F0 m 123 ls []) := by
  obtain ⟨hx, hb, hC⟩ := id C
  refine lv_iconst (v := 0) hx hb dX12_left_123 (by decide) ?_
  exact w_X12_left_124 C hL46 hL66 h hw (lv_sub hl [0, 1, 2, 3, 4, 5, 6] rfl)
set_option maxHeartbeats 4000000 in
set_option maxRecDepth 100000 in
theorem w_X12_left_116 {Q : Int32 → MI → MJ → Prop} (C : gC RX12 cX12_left 10 (some .int) 30 ad cy D mE p s m args meth c) {kL46 : Int32 × Int32 × Int32 × Int32 × MI × MJ → Prop} (hL46 : ∀ {x1 : Int32} {x4 : Int32} {x5 : Int32} {x6 : Int32} {I : MI} {J : MJ} {H : Heap} {locs : List Loc} {ls : Array Slot}, kL46 (x1, x4, x5, x6, I, J) → gH (mS ad cy) 30 ad D s I J H locs → lv_has ls 10 [(0, .ref (ad 0)), (1, .int x1), (4, .int x4), (5, .int x5), (6, .int x6)] → W p l e rmX12_left s m args below meth c H locs 0 0 (MQ below (gQi (mS ad cy) 30 ad cy D mE Q) args s 0 0 (gA 30 ad)) (F0 m 46 ls [])) {kL66 : Int32 × Int32 × Int32 × Int32 × Int32 × Int32 × Int32 × MI × MJ → Prop} (hL66 : ∀ {x1 : Int32} {x4 : Int32} {x5 : Int32} {x6 : Int32} {x7 : Int32} {x8 : Int32} {x9 : Int32} {I : MI} {J : MJ} {H : Heap} {locs : List Loc} {ls : Array Slot}, kL66 (x1, x4, x5, x6, x7, x8, x9, I, J) → gH (mS ad cy) 30 ad D s I J H locs → lv_has ls 10 [(0, .ref (ad 0)), (1, .int x1), (4, .int x4), (5, .int x5), (6, .int x6), (7, .int x7), (8, .int x8), (9, .int x9)] → W p l e rmX12_left s m args below meth c H locs 0 0 (MQ below (gQi (mS ad cy) 30 ad cy D mE Q) args s 0 0 (gA 30 ad)) (F0 m 66 ls [])) {x1 : Int32} {x4 : Int32} {x5 : Int32} {x6 : Int32} {x7 : Int32} {x9 : Int32} {s0 : Int32} {s1 : Int32} {I : MI} {J : MJ} {H : Heap} {locs : List Loc} {ls : Array Slot} (h : P_X12_left_116 Q kL46 kL66 x1 x4 x5 x6 x7 x9 s0 s1 I J) (hw : gH (mS ad cy) 30 ad D s I J H locs) (hl : lv_has ls 10 [(0, .ref (ad 0)), (1, .int x1), (4, .int x4), (5, .int x5), (6, .int x6), (7, .int x7), (9, .int x9)]) : W p l e rmX12_left s m args below meth c H locs 0 0 (MQ below (gQi (mS ad cy) 30 ad cy D mE Q) args s 0 0 (gA 30 ad)) (F0 m 116 ls [.int s1, .int s0]) := by
  obtain ⟨hx, hb, hC⟩ := id C
  refine lv_icmp_ne (tgt := 123) hx hb dX12_left_116 (by decide) (fun c116 => ?_) (fun c116 => ?_)
  · have h := h.1 c116
    exact w_X12_left_123 C hL46 hL66 h hw (lv_sub hl [0, 1, 2, 3, 4, 5, 6] rfl)
  · have h := h.2 c116
    refine lv_iconst (v := 1) hx hb dX12_left_119 (by decide) ?_
    refine lv_goto (tgt := 124) hx hb dX12_left_120 (by decide) ?_
    exact w_X12_left_124 C hL46 hL66 h hw (lv_sub hl [0, 1, 2, 3, 4, 5, 6] rfl)
set_option maxHeartbeats 4000000 in
set_option maxRecDepth 100000 in
theorem w_X12_left_66 {Q : Int32 → MI → MJ → Prop} (C : gC RX12 cX12_left 10 (some .int) 30 ad cy D mE p s m args meth c) {kL46 : Int32 × Int32 × Int32 × Int32 × MI × MJ → Prop} (hL46 : ∀ {x1 : Int32} {x4 : Int32} {x5 : Int32} {x6 : Int32} {I : MI} {J : MJ} {H : Heap} {locs : List Loc} {ls : Array Slot}, kL46 (x1, x4, x5, x6, I, J) → gH (mS ad cy) 30 ad D s I J H locs → lv_has ls 10 [(0, .ref (ad 0)), (1, .int x1), (4, .int x4), (5, .int x5), (6, .int x6)] → W p l e rmX12_left s m args below meth c H locs 0 0 (MQ below (gQi (mS ad cy) 30 ad cy D mE Q) args s 0 0 (gA 30 ad)) (F0 m 46 ls [])) {kL66 : Int32 × Int32 × Int32 × Int32 × Int32 × Int32 × Int32 × MI × MJ → Prop} (hL66 : ∀ {x1 : Int32} {x4 : Int32} {x5 : Int32} {x6 : Int32} {x7 : Int32} {x8 : Int32} {x9 : Int32} {I : MI} {J : MJ} {H : Heap} {locs : List Loc} {ls : Array Slot}, kL66 (x1, x4, x5, x6, x7, x8, x9, I, J) → gH (mS ad cy) 30 ad D s I J H locs → lv_has ls 10 [(0, .ref (ad 0)), (1, .int x1), (4, .int x4), (5, .int x5), (6, .int x6), (7, .int x7), (8, .int x8), (9, .int x9)] → W p l e rmX12_left s m args below meth c H locs 0 0 (MQ below (gQi (mS ad cy) 30 ad cy D mE Q) args s 0 0 (gA 30 ad)) (F0 m 66 ls [])) {x1 : Int32} {x4 : Int32} {x5 : Int32} {x6 : Int32} {x7 : Int32} {x8 : Int32} {x9 : Int32} {I : MI} {J : MJ} {H : Heap} {locs : List Loc} {ls : Array Slot} (h : P_X12_left_66 Q kL46 kL66 (x1, x4, x5, x6, x7, x8, x9, I, J)) (hw : gH (mS ad cy) 30 ad D s I J H locs) (hl : lv_has ls 10 [(0, .ref (ad 0)), (1, .int x1), (4, .int x4), (5, .int x5), (6, .int x6), (7, .int x7), (8, .int x8), (9, .int x9)]) : W p l e rmX12_left s m args below meth c H locs 0 0 (MQ below (gQi (mS ad cy) 30 ad cy D mE Q) args s 0 0 (gA 30 ad)) (F0 m 66 ls []) := by
  obtain ⟨hx, hb, hC⟩ := id C
  refine lv_iload hx hb dX12_left_66 (lv_at hl 7 rfl) ?_
  refine lv_aload_n hx hb dX12_left_68 rfl (lv_at hl 0 rfl) ?_
  refine g_get C hw f_RX12_237 ml_0 (ms_0 _ _) rfl dX12_left_69 ?_
  refine lv_icmp_ge (tgt := 132) hx hb dX12_left_72 (by decide) (fun c72 => ?_) (fun c72 => ?_)
  · have h := h.1 c72
    refine lv_iload hx hb dX12_left_132 (lv_at hl 2 rfl) ?_
    refine lv_iload hx hb dX12_left_134 (lv_at hl 6 rfl) ?_
    refine lv_if_eq (tgt := 143) hx hb dX12_left_136 (by decide) (fun c136 => ?_) (fun c136 => ?_)
    · have h := h.1 c136
      refine lv_iconst (v := 0) hx hb dX12_left_143 (by decide) ?_
      exact w_X12_left_144 C hL46 h hw (lv_sub hl [0, 1, 3, 4, 6] rfl)
    · have h := h.2 c136
      refine lv_iconst (v := 1) hx hb dX12_left_139 (by decide) ?_
      refine lv_goto (tgt := 144) hx hb dX12_left_140 (by decide) ?_
      exact w_X12_left_144 C hL46 h hw (lv_sub hl [0, 1, 3, 4, 6] rfl)
  · have h := h.2 c72
    refine lv_iload hx hb dX12_left_75 (lv_at hl 6 rfl) ?_
    refine lv_if_eq (tgt := 123) hx hb dX12_left_77 (by decide) (fun c77 => ?_) (fun c77 => ?_)
    · have h := h.1 c77
      exact w_X12_left_123 C hL46 hL66 h hw (lv_sub hl [0, 1, 2, 3, 4, 5, 7] rfl)
    · have h := h.2 c77
      refine lv_aload_n hx hb dX12_left_80 rfl (lv_at hl 0 rfl) ?_
      refine lv_iload hx hb dX12_left_81 (lv_at hl 5 rfl) ?_
      refine lv_aload_n hx hb dX12_left_83 rfl (lv_at hl 0 rfl) ?_
      refine g_get C hw f_RX12_44 ml_0 (ms_0 _ _) rfl dX12_left_84 ?_
      refine lv_iload hx hb dX12_left_87 (lv_at hl 7 rfl) ?_
      refine g_iald C hw ml_12 ms_12 h.1 dX12_left_89 ?_
      have h := h.2
      refine lv_aload_n hx hb dX12_left_90 rfl (lv_at hl 0 rfl) ?_
      refine g_get C hw f_RX12_47 ml_0 (ms_0 _ _) rfl dX12_left_91 ?_
      refine lv_iload hx hb dX12_left_94 (lv_at hl 7 rfl) ?_
      refine g_iald C hw ml_13 ms_13 h.1 dX12_left_96 ?_
      have h := h.2
      refine g_cz hw (g_rV [.int x7, .int (I 12 x9.toNatClampNeg), .int (I 13 x9.toNatClampNeg)] [] C hw (m_X12_isSo h) k_X12_isSo q_RX12_327 ml_0 (ms_0 _ _) rfl rfl hl.1 rfl (Nat.le_of_ble_eq_true rfl) ⟨⟨rfl, rfl⟩, Nat.le_of_ble_eq_true rfl, Nat.le_of_ble_eq_true rfl⟩ ⟨Nat.zero_le _, Nat.zero_le _⟩ dX12_left_97) (fun r97 I97 J97 H locs z97 h hw => ?_)
      refine lv_aload_n hx hb dX12_left_100 rfl (lv_at hl 0 rfl) ?_
      refine g_get C hw f_RX12_50 ml_0 (ms_0 _ _) rfl dX12_left_101 ?_
      refine lv_iload hx hb dX12_left_104 (lv_at hl 7 rfl) ?_
      refine g_iald C hw ml_14 ms_14 h.1 dX12_left_106 ?_
      have h := h.2
      refine lv_iconst (v := 1) hx hb dX12_left_107 (by decide) ?_
      refine lv_icmp_ne (tgt := 115) hx hb dX12_left_108 (by decide) (fun c108 => ?_) (fun c108 => ?_)
      · have h := h.1 c108
        refine lv_iconst (v := 0) hx hb dX12_left_115 (by decide) ?_
        exact w_X12_left_116 C hL46 hL66 h hw (lv_sub hl [0, 1, 2, 3, 4, 5, 7] rfl)
      · have h := h.2 c108
        refine lv_iconst (v := 1) hx hb dX12_left_111 (by decide) ?_
        refine lv_goto (tgt := 116) hx hb dX12_left_112 (by decide) ?_
        exact w_X12_left_116 C hL46 hL66 h hw (lv_sub hl [0, 1, 2, 3, 4, 5, 7] rfl)
theorem wl_X12_left_66 {Q : Int32 → MI → MJ → Prop} (C : gC RX12 cX12_left 10 (some .int) 30 ad cy D mE p s m args meth c) {kL46 : Int32 × Int32 × Int32 × Int32 × MI × MJ → Prop} (hL46 : ∀ {x1 : Int32} {x4 : Int32} {x5 : Int32} {x6 : Int32} {I : MI} {J : MJ} {H : Heap} {locs : List Loc} {ls : Array Slot}, kL46 (x1, x4, x5, x6, I, J) → gH (mS ad cy) 30 ad D s I J H locs → lv_has ls 10 [(0, .ref (ad 0)), (1, .int x1), (4, .int x4), (5, .int x5), (6, .int x6)] → W p l e rmX12_left s m args below meth c H locs 0 0 (MQ below (gQi (mS ad cy) 30 ad cy D mE Q) args s 0 0 (gA 30 ad)) (F0 m 46 ls [])) {x1 : Int32} {x4 : Int32} {x5 : Int32} {x6 : Int32} {x7 : Int32} {x8 : Int32} {x9 : Int32} {I : MI} {J : MJ} {H : Heap} {locs : List Loc} {ls : Array Slot} (h : lpx (P_X12_left_66 Q kL46) (x1, x4, x5, x6, x7, x8, x9, I, J)) (hw : gH (mS ad cy) 30 ad D s I J H locs) (hl : lv_has ls 10 [(0, .ref (ad 0)), (1, .int x1), (4, .int x4), (5, .int x5), (6, .int x6), (7, .int x7), (8, .int x8), (9, .int x9)]) : W p l e rmX12_left s m args below meth c H locs 0 0 (MQ below (gQi (mS ad cy) 30 ad cy D mE Q) args s 0 0 (gA 30 ad)) (F0 m 66 ls []) := by
  obtain ⟨n, h⟩ := h
  induction n generalizing x1 x4 x5 x6 x7 x8 x9 I J H locs ls with
  | zero => exact False.elim h
  | succ n ih => exact w_X12_left_66 C hL46 (fun hk9 hw9 hl9 => ih hw9 hl9 hk9) h hw hl
set_option maxHeartbeats 4000000 in
set_option maxRecDepth 100000 in
theorem w_X12_left_46 {Q : Int32 → MI → MJ → Prop} (C : gC RX12 cX12_left 10 (some .int) 30 ad cy D mE p s m args meth c) {kL46 : Int32 × Int32 × Int32 × Int32 × MI × MJ → Prop} (hL46 : ∀ {x1 : Int32} {x4 : Int32} {x5 : Int32} {x6 : Int32} {I : MI} {J : MJ} {H : Heap} {locs : List Loc} {ls : Array Slot}, kL46 (x1, x4, x5, x6, I, J) → gH (mS ad cy) 30 ad D s I J H locs → lv_has ls 10 [(0, .ref (ad 0)), (1, .int x1), (4, .int x4), (5, .int x5), (6, .int x6)] → W p l e rmX12_left s m args below meth c H locs 0 0 (MQ below (gQi (mS ad cy) 30 ad cy D mE Q) args s 0 0 (gA 30 ad)) (F0 m 46 ls [])) {x1 : Int32} {x4 : Int32} {x5 : Int32} {x6 : Int32} {I : MI} {J : MJ} {H : Heap} {locs : List Loc} {ls : Array Slot} (h : P_X12_left_46 Q kL46 (x1, x4, x5, x6, I, J)) (hw : gH (mS ad cy) 30 ad D s I J H locs) (hl : lv_has ls 10 [(0, .ref (ad 0)), (1, .int x1), (4, .int x4), (5, .int x5), (6, .int x6)]) : W p l e rmX12_left s m args below meth c H locs 0 0 (MQ below (gQi (mS ad cy) 30 ad cy D mE Q) args s 0 0 (gA 30 ad)) (F0 m 46 ls []) := by
  obtain ⟨hx, hb, hC⟩ := id C
  refine lv_iload hx hb dX12_left_46 (lv_at hl 4 rfl) ?_
  refine lv_if_lt (tgt := 167) hx hb dX12_left_48 (by decide) (fun c48 => ?_) (fun c48 => ?_)
  · have h := h.1 c48
    refine lv_iload_n hx hb dX12_left_167 rfl (lv_at hl 1 rfl) ?_
    refine lv_if_ne (tgt := 176) hx hb dX12_left_168 (by decide) (fun c168 => ?_) (fun c168 => ?_)
    · have h := h.1 c168
      refine lv_iload hx hb dX12_left_176 (lv_at hl 3 rfl) ?_
      exact g_iret C hw h dX12_left_178
    · have h := h.2 c168
      refine lv_iload hx hb dX12_left_171 (lv_at hl 2 rfl) ?_
      refine lv_goto (tgt := 178) hx hb dX12_left_173 (by decide) ?_
      exact g_iret C hw h dX12_left_178
  · have h := h.2 c48
    refine lv_aload_n hx hb dX12_left_51 rfl (lv_at hl 0 rfl) ?_
    refine lv_iload hx hb dX12_left_52 (lv_at hl 4 rfl) ?_
    refine lv_i2l hx hb dX12_left_54 rfl ?_
    refine g_ci hw (g_rV [.long x6.toInt64] [] C hw (m_X12_find h) k_X12_find q_RX12_293 ml_0 (ms_0 _ _) rfl rfl hl.1 rfl (Nat.le_of_ble_eq_true rfl) ⟨⟨rfl, rfl⟩, Nat.le_of_ble_eq_true rfl, Nat.le_of_ble_eq_true rfl⟩ ⟨Nat.zero_le _, Nat.zero_le _⟩ dX12_left_55) (fun r55 I55 J55 H locs h hw => ?_)
    refine lv_istore (lv' := [(7, .int r55), (0, .ref (ad 0)), (1, .int x1), (4, .int x4), (5, .int x5), (6, .int x6)]) hx hb dX12_left_58 hl (by decide) rfl (fun ls hl => ?_)
    refine lv_iconst (v := 1) hx hb dX12_left_60 (by decide) ?_
    refine lv_istore (lv' := [(8, .int (1 : Int32)), (7, .int r55), (0, .ref (ad 0)), (1, .int x1), (4, .int x4), (5, .int x5), (6, .int x6)]) hx hb dX12_left_61 hl (by decide) rfl (fun ls hl => ?_)
    refine lv_iconst (v := 0) hx hb dX12_left_63 (by decide) ?_
    refine lv_istore (lv' := [(9, .int (0 : Int32)), (8, .int (1 : Int32)), (7, .int r55), (0, .ref (ad 0)), (1, .int x1), (4, .int x4), (5, .int x5), (6, .int x6)]) hx hb dX12_left_64 hl (by decide) rfl (fun ls hl => ?_)
    exact wl_X12_left_66 C hL46 h hw (lv_sub hl [3, 4, 5, 6, 7, 2, 1, 0] rfl)
theorem wl_X12_left_46 {Q : Int32 → MI → MJ → Prop} (C : gC RX12 cX12_left 10 (some .int) 30 ad cy D mE p s m args meth c) {x1 : Int32} {x4 : Int32} {x5 : Int32} {x6 : Int32} {I : MI} {J : MJ} {H : Heap} {locs : List Loc} {ls : Array Slot} (h : lpx (P_X12_left_46 Q) (x1, x4, x5, x6, I, J)) (hw : gH (mS ad cy) 30 ad D s I J H locs) (hl : lv_has ls 10 [(0, .ref (ad 0)), (1, .int x1), (4, .int x4), (5, .int x5), (6, .int x6)]) : W p l e rmX12_left s m args below meth c H locs 0 0 (MQ below (gQi (mS ad cy) 30 ad cy D mE Q) args s 0 0 (gA 30 ad)) (F0 m 46 ls []) := by
  obtain ⟨n, h⟩ := h
  induction n generalizing x1 x4 x5 x6 I J H locs ls with
  | zero => exact False.elim h
  | succ n ih => exact w_X12_left_46 C  (fun hk9 hw9 hl9 => ih hw9 hl9 hk9) h hw hl
set_option maxHeartbeats 4000000 in
set_option maxRecDepth 100000 in
theorem w_X12_left {Q : Int32 → MI → MJ → Prop} (C : gC RX12 cX12_left 10 (some .int) 30 ad cy D mE p s m args meth c) {a0 : Int32} {I : MI} {J : MJ} {H : Heap} {locs : List Loc} {ls : Array Slot} (h : P_X12_left a0 I J Q) (hw : gH (mS ad cy) 30 ad D s I J H locs) (hl : lv_has ls 10 [(0, .ref (ad 0)), (1, .int a0)]) : W p l e rmX12_left s m args below meth c H locs 0 0 (MQ below (gQi (mS ad cy) 30 ad cy D mE Q) args s 0 0 (gA 30 ad)) (F0 m 0 ls []) := by
  obtain ⟨hx, hb, hC⟩ := id C
  refine lv_iload_n hx hb dX12_left_0 rfl (lv_at hl 1 rfl) ?_
  refine lv_i2l hx hb dX12_left_1 rfl ?_
  refine lv_lconst (v := 0) hx hb dX12_left_2 (by decide) ?_
  refine lv_lconst (v := 1) hx hb dX12_left_3 (by decide) ?_
  refine g_cz hw (g_rS [.long a0.toInt64, .long (0 : Int64), .long (1 : Int64)] [] C hw (m_X12_in h) k_X12_in q_RX12_107 rfl hl.1 rfl (Nat.le_of_ble_eq_true rfl) ⟨⟨rfl, rfl⟩, Nat.le_of_ble_eq_true rfl, Nat.le_of_ble_eq_true rfl⟩ ⟨Nat.zero_le _, Nat.zero_le _⟩ dX12_left_4) (fun r4 I4 J4 H locs z4 h hw => ?_)
  refine lv_if_ne (tgt := 13) hx hb dX12_left_7 (by decide) (fun c7 => ?_) (fun c7 => ?_)
  · have h := h.1 c7
    refine lv_aload_n hx hb dX12_left_13 rfl (lv_at hl 0 rfl) ?_
    refine lv_aload_n hx hb dX12_left_14 rfl (lv_at hl 0 rfl) ?_
    refine g_get C hw f_RX12_25 ml_0 (ms_0 _ _) rfl dX12_left_15 ?_
    refine g_cl hw (g_rV [.ref (ad 6)] [] C hw (m_X12_manyOf isRow_6 h) k_X12_manyOf q_RX12_272 ml_0 (ms_0 _ _) rfl rfl hl.1 rfl (Nat.le_of_ble_eq_true rfl) ⟨⟨rfl, rfl⟩, Nat.le_of_ble_eq_true rfl, Nat.le_of_ble_eq_true rfl⟩ ⟨Nat.zero_le _, Nat.zero_le _⟩ dX12_left_18) (fun r18 I18 J18 H locs h hw => ?_)
    refine lv_lstore_n (lv' := [(2, .long r18), (0, .ref (ad 0)), (1, .int a0)]) hx hb dX12_left_21 rfl hl (by decide) rfl (fun ls hl => ?_)
    refine lv_lload_n hx hb dX12_left_22 rfl (lv_at hl 0 rfl) ?_
    refine lv_ldc2 (v := (2000)) hx hb hC.2.2.1 (hC.2.2.2.1 _ q_RX12_325) dX12_left_23 ?_
    refine g_lcmp_le (tgt := 33) hx hb dX12_left_26 dX12_left_27 (by decide) (fun c26 => ?_) (fun c26 => ?_)
    · have h := h.1 c26
      refine lv_iconst (v := 0) hx hb dX12_left_33 (by decide) ?_
      refine lv_istore (lv' := [(4, .int (0 : Int32)), (2, .long r18), (0, .ref (ad 0)), (1, .int a0)]) hx hb dX12_left_34 hl (by decide) rfl (fun ls hl => ?_)
      refine lv_bipush (v := -9) hx hb dX12_left_36 (by decide) ?_
      refine lv_istore (lv' := [(5, .int (-9 : Int32)), (4, .int (0 : Int32)), (2, .long r18), (0, .ref (ad 0)), (1, .int a0)]) hx hb dX12_left_38 hl (by decide) rfl (fun ls hl => ?_)
      refine lv_lload_n hx hb dX12_left_40 rfl (lv_at hl 2 rfl) ?_
      refine lv_l2i hx hb dX12_left_41 rfl ?_
      refine lv_iconst (v := 1) hx hb dX12_left_42 (by decide) ?_
      refine lv_isub hx hb dX12_left_43 ?_
      refine lv_istore (lv' := [(6, .int (r18.toInt32 - (1 : Int32))), (5, .int (-9 : Int32)), (4, .int (0 : Int32)), (2, .long r18), (0, .ref (ad 0)), (1, .int a0)]) hx hb dX12_left_44 hl (by decide) rfl (fun ls hl => ?_)
      exact wl_X12_left_46 C  h hw (lv_sub hl [4, 5, 2, 1, 0] rfl)
    · have h := h.2 c26
      refine lv_bipush (v := -3) hx hb dX12_left_30 (by decide) ?_
      exact g_iret C hw h dX12_left_32
  · have h := h.2 c7
    refine lv_bipush (v := -2) hx hb dX12_left_10 (by decide) ?_
    exact g_iret C hw h dX12_left_12
theorem m_X12_left {l : Launch} {a0 : Int32} {Q : Int32 → MI → MJ → Prop} {I : MI} {J : MJ} (h : P_X12_left a0 I J Q) : Met l yX12_left (xws yX12_left cX12_left 10 (some .int)) rmX12_left (va_Pc [.ref (ad 0), .int a0] (gB (mS ad cy) 30 ad cy D mE I J)) (gQi (mS ad cy) 30 ad cy D mE Q) 0 0 (gA 30 ad) :=
  g_met (mE_ok ad) rfl (by decide) (Nat.le_of_ble_eq_true rfl) (fun p e s m below meth c ls C hw hl => w_X12_left C  h hw hl)
/-! BagPhrasesModel.ones(I)I -/
def P_X12_ones_4 (Q : Int32 → MI → MJ → Prop) (kL4 : Int32 × Int32 × Int32 × MI × MJ → Prop) : Int32 × Int32 × Int32 × MI × MJ → Prop := fun z => match z with
  | (x0, x1, x2, I, J) => (((16 : Int32) ≤ x2 → Q x1 I J) ∧ (¬ (16 : Int32) ≤ x2 → kL4 (x0, (x1 + ((x0 >>> (x2 &&& 31)) &&& (1 : Int32))), (x2 + 1), I, J)))
def P_X12_ones (a0 : Int32) (I : MI) (J : MJ) (Q : Int32 → MI → MJ → Prop) : Prop :=
  lpx (P_X12_ones_4 Q) (a0, (0 : Int32), (0 : Int32), I, J)
abbrev rmX12_ones : Room := { frames := 0, cells := 0, slots := 0, locals := 0 }
set_option maxHeartbeats 4000000 in
set_option maxRecDepth 100000 in
theorem w_X12_ones_4 {Q : Int32 → MI → MJ → Prop} (C : gC RX12 cX12_ones 3 (some .int) 30 ad cy D mE p s m args meth c) {kL4 : Int32 × Int32 × Int32 × MI × MJ → Prop} (hL4 : ∀ {x0 : Int32} {x1 : Int32} {x2 : Int32} {I : MI} {J : MJ} {H : Heap} {locs : List Loc} {ls : Array Slot}, kL4 (x0, x1, x2, I, J) → gH (mS ad cy) 30 ad D s I J H locs → lv_has ls 3 [(0, .int x0), (1, .int x1), (2, .int x2)] → W p l e rmX12_ones s m args below meth c H locs 0 0 (MQ below (gQi (mS ad cy) 30 ad cy D mE Q) args s 0 0 (gA 30 ad)) (F0 m 4 ls [])) {x0 : Int32} {x1 : Int32} {x2 : Int32} {I : MI} {J : MJ} {H : Heap} {locs : List Loc} {ls : Array Slot} (h : P_X12_ones_4 Q kL4 (x0, x1, x2, I, J)) (hw : gH (mS ad cy) 30 ad D s I J H locs) (hl : lv_has ls 3 [(0, .int x0), (1, .int x1), (2, .int x2)]) : W p l e rmX12_ones s m args below meth c H locs 0 0 (MQ below (gQi (mS ad cy) 30 ad cy D mE Q) args s 0 0 (gA 30 ad)) (F0 m 4 ls []) := by
  obtain ⟨hx, hb, hC⟩ := id C
  refine lv_iload_n hx hb dX12_ones_4 rfl (lv_at hl 2 rfl) ?_
  refine lv_bipush (v := 16) hx hb dX12_ones_5 (by decide) ?_
  refine lv_icmp_ge (tgt := 24) hx hb dX12_ones_7 (by decide) (fun c7 => ?_) (fun c7 => ?_)
  · have h := h.1 c7
    refine lv_iload_n hx hb dX12_ones_24 rfl (lv_at hl 1 rfl) ?_
    exact g_iret C hw h dX12_ones_25
  · have h := h.2 c7
    refine lv_iload_n hx hb dX12_ones_10 rfl (lv_at hl 1 rfl) ?_
    refine lv_iload_n hx hb dX12_ones_11 rfl (lv_at hl 0 rfl) ?_
    refine lv_iload_n hx hb dX12_ones_12 rfl (lv_at hl 2 rfl) ?_
    refine lv_ishr hx hb dX12_ones_13 ?_
    refine lv_iconst (v := 1) hx hb dX12_ones_14 (by decide) ?_
    refine lv_iand hx hb dX12_ones_15 ?_
    refine lv_iadd hx hb dX12_ones_16 ?_
    refine lv_istore_n (lv' := [(1, .int (x1 + ((x0 >>> (x2 &&& 31)) &&& (1 : Int32)))), (0, .int x0), (2, .int x2)]) hx hb dX12_ones_17 rfl hl (by decide) rfl (fun ls hl => ?_)
    refine lv_iinc (v := x2 + 1) (lv' := [(2, .int (x2 + 1)), (1, .int (x1 + ((x0 >>> (x2 &&& 31)) &&& (1 : Int32)))), (0, .int x0)]) hx hb dX12_ones_18 hl (k := 2) rfl rfl (by decide) rfl (fun ls hl => ?_)
    refine lv_goto (tgt := 4) hx hb dX12_ones_21 (by decide) ?_
    exact hL4 h hw (lv_sub hl [2, 1, 0] rfl)
theorem wl_X12_ones_4 {Q : Int32 → MI → MJ → Prop} (C : gC RX12 cX12_ones 3 (some .int) 30 ad cy D mE p s m args meth c) {x0 : Int32} {x1 : Int32} {x2 : Int32} {I : MI} {J : MJ} {H : Heap} {locs : List Loc} {ls : Array Slot} (h : lpx (P_X12_ones_4 Q) (x0, x1, x2, I, J)) (hw : gH (mS ad cy) 30 ad D s I J H locs) (hl : lv_has ls 3 [(0, .int x0), (1, .int x1), (2, .int x2)]) : W p l e rmX12_ones s m args below meth c H locs 0 0 (MQ below (gQi (mS ad cy) 30 ad cy D mE Q) args s 0 0 (gA 30 ad)) (F0 m 4 ls []) := by
  obtain ⟨n, h⟩ := h
  induction n generalizing x0 x1 x2 I J H locs ls with
  | zero => exact False.elim h
  | succ n ih => exact w_X12_ones_4 C  (fun hk9 hw9 hl9 => ih hw9 hl9 hk9) h hw hl
set_option maxHeartbeats 4000000 in
set_option maxRecDepth 100000 in
theorem w_X12_ones {Q : Int32 → MI → MJ → Prop} (C : gC RX12 cX12_ones 3 (some .int) 30 ad cy D mE p s m args meth c) {a0 : Int32} {I : MI} {J : MJ} {H : Heap} {locs : List Loc} {ls : Array Slot} (h : P_X12_ones a0 I J Q) (hw : gH (mS ad cy) 30 ad D s I J H locs) (hl : lv_has ls 3 [(0, .int a0)]) : W p l e rmX12_ones s m args below meth c H locs 0 0 (MQ below (gQi (mS ad cy) 30 ad cy D mE Q) args s 0 0 (gA 30 ad)) (F0 m 0 ls []) := by
  obtain ⟨hx, hb, hC⟩ := id C
  refine lv_iconst (v := 0) hx hb dX12_ones_0 (by decide) ?_
  refine lv_istore_n (lv' := [(1, .int (0 : Int32)), (0, .int a0)]) hx hb dX12_ones_1 rfl hl (by decide) rfl (fun ls hl => ?_)
  refine lv_iconst (v := 0) hx hb dX12_ones_2 (by decide) ?_
  refine lv_istore_n (lv' := [(2, .int (0 : Int32)), (1, .int (0 : Int32)), (0, .int a0)]) hx hb dX12_ones_3 rfl hl (by decide) rfl (fun ls hl => ?_)
  exact wl_X12_ones_4 C  h hw (lv_sub hl [2, 1, 0] rfl)
theorem m_X12_ones {l : Launch} {a0 : Int32} {Q : Int32 → MI → MJ → Prop} {I : MI} {J : MJ} (h : P_X12_ones a0 I J Q) : Met l yX12_ones (xws yX12_ones cX12_ones 3 (some .int)) rmX12_ones (va_Pc [.int a0] (gB (mS ad cy) 30 ad cy D mE I J)) (gQi (mS ad cy) 30 ad cy D mE Q) 0 0 (gA 30 ad) :=
  g_met (mE_ok ad) rfl (by decide) (Nat.le_of_ble_eq_true rfl) (fun p e s m below meth c ls C hw hl => w_X12_ones C  h hw hl)
/-! BagPhrasesModel.unbarred()I -/
def P_X12_unbarred (I : MI) (J : MJ) (Q : Int32 → MI → MJ → Prop) : Prop :=
  vp_in (8 : Int32) 25 ∧ (P_X12_ones (I 6 (8 : Int32).toNatClampNeg) I J (fun r11 I11 J11 => Q ((I 0 2) - r11) I11 J11))
abbrev rmX12_unbarred : Room := { frames := 1, cells := 0, slots := 0, locals := 22 }
set_option maxHeartbeats 4000000 in
set_option maxRecDepth 100000 in
theorem w_X12_unbarred {Q : Int32 → MI → MJ → Prop} (C : gC RX12 cX12_unbarred 1 (some .int) 30 ad cy D mE p s m args meth c) {I : MI} {J : MJ} {H : Heap} {locs : List Loc} {ls : Array Slot} (h : P_X12_unbarred I J Q) (hw : gH (mS ad cy) 30 ad D s I J H locs) (hl : lv_has ls 1 [(0, .ref (ad 0))]) : W p l e rmX12_unbarred s m args below meth c H locs 0 0 (MQ below (gQi (mS ad cy) 30 ad cy D mE Q) args s 0 0 (gA 30 ad)) (F0 m 0 ls []) := by
  obtain ⟨hx, hb, hC⟩ := id C
  refine lv_aload_n hx hb dX12_unbarred_0 rfl (lv_at hl 0 rfl) ?_
  refine g_get C hw f_RX12_103 ml_0 (ms_0 _ _) rfl dX12_unbarred_1 ?_
  refine lv_aload_n hx hb dX12_unbarred_4 rfl (lv_at hl 0 rfl) ?_
  refine g_get C hw f_RX12_25 ml_0 (ms_0 _ _) rfl dX12_unbarred_5 ?_
  refine lv_bipush (v := 8) hx hb dX12_unbarred_8 (by decide) ?_
  refine g_iald C hw ml_6 ms_6 h.1 dX12_unbarred_10 ?_
  have h := h.2
  refine g_ci hw (g_rS [.int (I 6 (8 : Int32).toNatClampNeg)] [.int (I 0 2)] C hw (m_X12_ones h) k_X12_ones q_RX12_330 rfl hl.1 rfl (Nat.le_of_ble_eq_true rfl) ⟨⟨rfl, rfl⟩, Nat.le_of_ble_eq_true rfl, Nat.le_of_ble_eq_true rfl⟩ ⟨Nat.zero_le _, Nat.zero_le _⟩ dX12_unbarred_11) (fun r11 I11 J11 H locs h hw => ?_)
  refine lv_isub hx hb dX12_unbarred_14 ?_
  exact g_iret C hw h dX12_unbarred_15
theorem m_X12_unbarred {l : Launch} {Q : Int32 → MI → MJ → Prop} {I : MI} {J : MJ} (h : P_X12_unbarred I J Q) : Met l yX12_unbarred (xws yX12_unbarred cX12_unbarred 1 (some .int)) rmX12_unbarred (va_Pc [.ref (ad 0)] (gB (mS ad cy) 30 ad cy D mE I J)) (gQi (mS ad cy) 30 ad cy D mE Q) 0 0 (gA 30 ad) :=
  g_met (mE_ok ad) rfl (by decide) (Nat.le_of_ble_eq_true rfl) (fun p e s m below meth c ls C hw hl => w_X12_unbarred C  h hw hl)
/-! BagPhrasesModel.someOf(I)I -/
def P_X12_someOf_53 (Q : Int32 → MI → MJ → Prop) (kL7 : Int32 × Int32 × Int32 × Int32 × MI × MJ → Prop) (x1 : Int32) (x2 : Int32) (x3 : Int32) (x4 : Int32) (I : MI) (J : MJ) : Prop :=
  kL7 (x1, x2, x3, (x4 + 1), I, J)
def P_X12_someOf_48 (Q : Int32 → MI → MJ → Prop) (kL7 : Int32 × Int32 × Int32 × Int32 × MI × MJ → Prop) (x1 : Int32) (x3 : Int32) (x4 : Int32) (s0 : Int32) (s1 : Int32) (I : MI) (J : MJ) : Prop :=
  P_X12_someOf_53 Q kL7 x1 (s0 ||| s1) (x3 + 1) x4 I J
def P_X12_someOf_7 (Q : Int32 → MI → MJ → Prop) (kL7 : Int32 × Int32 × Int32 × Int32 × MI × MJ → Prop) : Int32 × Int32 × Int32 × Int32 × MI × MJ → Prop := fun z => match z with
  | (x1, x2, x3, x4, I, J) => (((I 0 2) ≤ x4 → Q x2 I J) ∧ (¬ (I 0 2) ≤ x4 → vp_in (8 : Int32) 25 ∧ (P_X12_has (I 6 (8 : Int32).toNatClampNeg) x4 I J (fun r25 I25 J25 => ((¬ r25 = 0 → P_X12_someOf_53 Q kL7 x1 x2 x3 x4 I25 J25) ∧ (r25 = 0 → P_X12_has x1 x3 I25 J25 (fun r34 I34 J34 => ((r34 = 0 → P_X12_someOf_48 Q kL7 x1 x3 x4 x2 (0 : Int32) I34 J34) ∧ (¬ r34 = 0 → P_X12_someOf_48 Q kL7 x1 x3 x4 x2 ((1 : Int32) <<< (x4 &&& 31)) I34 J34)))))))))
def P_X12_someOf (a0 : Int32) (I : MI) (J : MJ) (Q : Int32 → MI → MJ → Prop) : Prop :=
  lpx (P_X12_someOf_7 Q) (a0, (0 : Int32), (0 : Int32), (0 : Int32), I, J)
abbrev rmX12_someOf : Room := { frames := 1, cells := 0, slots := 0, locals := 21 }
set_option maxHeartbeats 4000000 in
set_option maxRecDepth 100000 in
theorem w_X12_someOf_53 {Q : Int32 → MI → MJ → Prop} (C : gC RX12 cX12_someOf 5 (some .int) 30 ad cy D mE p s m args meth c) {kL7 : Int32 × Int32 × Int32 × Int32 × MI × MJ → Prop} (hL7 : ∀ {x1 : Int32} {x2 : Int32} {x3 : Int32} {x4 : Int32} {I : MI} {J : MJ} {H : Heap} {locs : List Loc} {ls : Array Slot}, kL7 (x1, x2, x3, x4, I, J) → gH (mS ad cy) 30 ad D s I J H locs → lv_has ls 5 [(0, .ref (ad 0)), (1, .int x1), (2, .int x2), (3, .int x3), (4, .int x4)] → W p l e rmX12_someOf s m args below meth c H locs 0 0 (MQ below (gQi (mS ad cy) 30 ad cy D mE Q) args s 0 0 (gA 30 ad)) (F0 m 7 ls [])) {x1 : Int32} {x2 : Int32} {x3 : Int32} {x4 : Int32} {I : MI} {J : MJ} {H : Heap} {locs : List Loc} {ls : Array Slot} (h : P_X12_someOf_53 Q kL7 x1 x2 x3 x4 I J) (hw : gH (mS ad cy) 30 ad D s I J H locs) (hl : lv_has ls 5 [(0, .ref (ad 0)), (1, .int x1), (2, .int x2), (3, .int x3), (4, .int x4)]) : W p l e rmX12_someOf s m args below meth c H locs 0 0 (MQ below (gQi (mS ad cy) 30 ad cy D mE Q) args s 0 0 (gA 30 ad)) (F0 m 53 ls []) := by
  obtain ⟨hx, hb, hC⟩ := id C
  refine lv_iinc (v := x4 + 1) (lv' := [(4, .int (x4 + 1)), (0, .ref (ad 0)), (1, .int x1), (2, .int x2), (3, .int x3)]) hx hb dX12_someOf_53 hl (k := 4) rfl rfl (by decide) rfl (fun ls hl => ?_)
  refine lv_goto (tgt := 7) hx hb dX12_someOf_56 (by decide) ?_
  exact hL7 h hw (lv_sub hl [1, 2, 3, 4, 0] rfl)
set_option maxHeartbeats 4000000 in
set_option maxRecDepth 100000 in
theorem w_X12_someOf_48 {Q : Int32 → MI → MJ → Prop} (C : gC RX12 cX12_someOf 5 (some .int) 30 ad cy D mE p s m args meth c) {kL7 : Int32 × Int32 × Int32 × Int32 × MI × MJ → Prop} (hL7 : ∀ {x1 : Int32} {x2 : Int32} {x3 : Int32} {x4 : Int32} {I : MI} {J : MJ} {H : Heap} {locs : List Loc} {ls : Array Slot}, kL7 (x1, x2, x3, x4, I, J) → gH (mS ad cy) 30 ad D s I J H locs → lv_has ls 5 [(0, .ref (ad 0)), (1, .int x1), (2, .int x2), (3, .int x3), (4, .int x4)] → W p l e rmX12_someOf s m args below meth c H locs 0 0 (MQ below (gQi (mS ad cy) 30 ad cy D mE Q) args s 0 0 (gA 30 ad)) (F0 m 7 ls [])) {x1 : Int32} {x3 : Int32} {x4 : Int32} {s0 : Int32} {s1 : Int32} {I : MI} {J : MJ} {H : Heap} {locs : List Loc} {ls : Array Slot} (h : P_X12_someOf_48 Q kL7 x1 x3 x4 s0 s1 I J) (hw : gH (mS ad cy) 30 ad D s I J H locs) (hl : lv_has ls 5 [(0, .ref (ad 0)), (1, .int x1), (3, .int x3), (4, .int x4)]) : W p l e rmX12_someOf s m args below meth c H locs 0 0 (MQ below (gQi (mS ad cy) 30 ad cy D mE Q) args s 0 0 (gA 30 ad)) (F0 m 48 ls [.int s1, .int s0]) := by
  obtain ⟨hx, hb, hC⟩ := id C
  refine lv_ior hx hb dX12_someOf_48 ?_
  refine lv_istore_n (lv' := [(2, .int (s0 ||| s1)), (0, .ref (ad 0)), (1, .int x1), (3, .int x3), (4, .int x4)]) hx hb dX12_someOf_49 rfl hl (by decide) rfl (fun ls hl => ?_)
  refine lv_iinc (v := x3 + 1) (lv' := [(3, .int (x3 + 1)), (2, .int (s0 ||| s1)), (0, .ref (ad 0)), (1, .int x1), (4, .int x4)]) hx hb dX12_someOf_50 hl (k := 3) rfl rfl (by decide) rfl (fun ls hl => ?_)
  exact w_X12_someOf_53 C hL7 h hw (lv_sub hl [2, 3, 1, 0, 4] rfl)
set_option maxHeartbeats 4000000 in
set_option maxRecDepth 100000 in
theorem w_X12_someOf_7 {Q : Int32 → MI → MJ → Prop} (C : gC RX12 cX12_someOf 5 (some .int) 30 ad cy D mE p s m args meth c) {kL7 : Int32 × Int32 × Int32 × Int32 × MI × MJ → Prop} (hL7 : ∀ {x1 : Int32} {x2 : Int32} {x3 : Int32} {x4 : Int32} {I : MI} {J : MJ} {H : Heap} {locs : List Loc} {ls : Array Slot}, kL7 (x1, x2, x3, x4, I, J) → gH (mS ad cy) 30 ad D s I J H locs → lv_has ls 5 [(0, .ref (ad 0)), (1, .int x1), (2, .int x2), (3, .int x3), (4, .int x4)] → W p l e rmX12_someOf s m args below meth c H locs 0 0 (MQ below (gQi (mS ad cy) 30 ad cy D mE Q) args s 0 0 (gA 30 ad)) (F0 m 7 ls [])) {x1 : Int32} {x2 : Int32} {x3 : Int32} {x4 : Int32} {I : MI} {J : MJ} {H : Heap} {locs : List Loc} {ls : Array Slot} (h : P_X12_someOf_7 Q kL7 (x1, x2, x3, x4, I, J)) (hw : gH (mS ad cy) 30 ad D s I J H locs) (hl : lv_has ls 5 [(0, .ref (ad 0)), (1, .int x1), (2, .int x2), (3, .int x3), (4, .int x4)]) : W p l e rmX12_someOf s m args below meth c H locs 0 0 (MQ below (gQi (mS ad cy) 30 ad cy D mE Q) args s 0 0 (gA 30 ad)) (F0 m 7 ls []) := by
  obtain ⟨hx, hb, hC⟩ := id C
  refine lv_iload hx hb dX12_someOf_7 (lv_at hl 4 rfl) ?_
  refine lv_aload_n hx hb dX12_someOf_9 rfl (lv_at hl 0 rfl) ?_
  refine g_get C hw f_RX12_103 ml_0 (ms_0 _ _) rfl dX12_someOf_10 ?_
  refine lv_icmp_ge (tgt := 59) hx hb dX12_someOf_13 (by decide) (fun c13 => ?_) (fun c13 => ?_)
  · have h := h.1 c13
    refine lv_iload_n hx hb dX12_someOf_59 rfl (lv_at hl 2 rfl) ?_
    exact g_iret C hw h dX12_someOf_60
  · have h := h.2 c13
    refine lv_aload_n hx hb dX12_someOf_16 rfl (lv_at hl 0 rfl) ?_
    refine g_get C hw f_RX12_25 ml_0 (ms_0 _ _) rfl dX12_someOf_17 ?_
    refine lv_bipush (v := 8) hx hb dX12_someOf_20 (by decide) ?_
    refine g_iald C hw ml_6 ms_6 h.1 dX12_someOf_22 ?_
    have h := h.2
    refine lv_iload hx hb dX12_someOf_23 (lv_at hl 4 rfl) ?_
    refine g_cz hw (g_rS [.int (I 6 (8 : Int32).toNatClampNeg), .int x4] [] C hw (m_X12_has h) k_X12_has q_RX12_149 rfl hl.1 rfl (Nat.le_of_ble_eq_true rfl) ⟨⟨rfl, rfl⟩, Nat.le_of_ble_eq_true rfl, Nat.le_of_ble_eq_true rfl⟩ ⟨Nat.zero_le _, Nat.zero_le _⟩ dX12_someOf_25) (fun r25 I25 J25 H locs z25 h hw => ?_)
    refine lv_if_ne (tgt := 53) hx hb dX12_someOf_28 (by decide) (fun c28 => ?_) (fun c28 => ?_)
    · have h := h.1 c28
      exact w_X12_someOf_53 C hL7 h hw (lv_sub hl [0, 1, 2, 3, 4] rfl)
    · have h := h.2 c28
      refine lv_iload_n hx hb dX12_someOf_31 rfl (lv_at hl 2 rfl) ?_
      refine lv_iload_n hx hb dX12_someOf_32 rfl (lv_at hl 1 rfl) ?_
      refine lv_iload_n hx hb dX12_someOf_33 rfl (lv_at hl 3 rfl) ?_
      refine g_cz hw (g_rS [.int x1, .int x3] [.int x2] C hw (m_X12_has h) k_X12_has q_RX12_149 rfl hl.1 rfl (Nat.le_of_ble_eq_true rfl) ⟨⟨rfl, rfl⟩, Nat.le_of_ble_eq_true rfl, Nat.le_of_ble_eq_true rfl⟩ ⟨Nat.zero_le _, Nat.zero_le _⟩ dX12_someOf_34) (fun r34 I34 J34 H locs z34 h hw => ?_)
      refine lv_if_eq (tgt := 47) hx hb dX12_someOf_37 (by decide) (fun c37 => ?_) (fun c37 => ?_)
      · have h := h.1 c37
        refine lv_iconst (v := 0) hx hb dX12_someOf_47 (by decide) ?_
        exact w_X12_someOf_48 C hL7 h hw (lv_sub hl [0, 1, 3, 4] rfl)
      · have h := h.2 c37
        refine lv_iconst (v := 1) hx hb dX12_someOf_40 (by decide) ?_
        refine lv_iload hx hb dX12_someOf_41 (lv_at hl 4 rfl) ?_
        refine lv_ishl hx hb dX12_someOf_43 ?_
        refine lv_goto (tgt := 48) hx hb dX12_someOf_44 (by decide) ?_
        exact w_X12_someOf_48 C hL7 h hw (lv_sub hl [0, 1, 3, 4] rfl)
theorem wl_X12_someOf_7 {Q : Int32 → MI → MJ → Prop} (C : gC RX12 cX12_someOf 5 (some .int) 30 ad cy D mE p s m args meth c) {x1 : Int32} {x2 : Int32} {x3 : Int32} {x4 : Int32} {I : MI} {J : MJ} {H : Heap} {locs : List Loc} {ls : Array Slot} (h : lpx (P_X12_someOf_7 Q) (x1, x2, x3, x4, I, J)) (hw : gH (mS ad cy) 30 ad D s I J H locs) (hl : lv_has ls 5 [(0, .ref (ad 0)), (1, .int x1), (2, .int x2), (3, .int x3), (4, .int x4)]) : W p l e rmX12_someOf s m args below meth c H locs 0 0 (MQ below (gQi (mS ad cy) 30 ad cy D mE Q) args s 0 0 (gA 30 ad)) (F0 m 7 ls []) := by
  obtain ⟨n, h⟩ := h
  induction n generalizing x1 x2 x3 x4 I J H locs ls with
  | zero => exact False.elim h
  | succ n ih => exact w_X12_someOf_7 C  (fun hk9 hw9 hl9 => ih hw9 hl9 hk9) h hw hl
set_option maxHeartbeats 4000000 in
set_option maxRecDepth 100000 in
theorem w_X12_someOf {Q : Int32 → MI → MJ → Prop} (C : gC RX12 cX12_someOf 5 (some .int) 30 ad cy D mE p s m args meth c) {a0 : Int32} {I : MI} {J : MJ} {H : Heap} {locs : List Loc} {ls : Array Slot} (h : P_X12_someOf a0 I J Q) (hw : gH (mS ad cy) 30 ad D s I J H locs) (hl : lv_has ls 5 [(0, .ref (ad 0)), (1, .int a0)]) : W p l e rmX12_someOf s m args below meth c H locs 0 0 (MQ below (gQi (mS ad cy) 30 ad cy D mE Q) args s 0 0 (gA 30 ad)) (F0 m 0 ls []) := by
  obtain ⟨hx, hb, hC⟩ := id C
  refine lv_iconst (v := 0) hx hb dX12_someOf_0 (by decide) ?_
  refine lv_istore_n (lv' := [(2, .int (0 : Int32)), (0, .ref (ad 0)), (1, .int a0)]) hx hb dX12_someOf_1 rfl hl (by decide) rfl (fun ls hl => ?_)
  refine lv_iconst (v := 0) hx hb dX12_someOf_2 (by decide) ?_
  refine lv_istore_n (lv' := [(3, .int (0 : Int32)), (2, .int (0 : Int32)), (0, .ref (ad 0)), (1, .int a0)]) hx hb dX12_someOf_3 rfl hl (by decide) rfl (fun ls hl => ?_)
  refine lv_iconst (v := 0) hx hb dX12_someOf_4 (by decide) ?_
  refine lv_istore (lv' := [(4, .int (0 : Int32)), (3, .int (0 : Int32)), (2, .int (0 : Int32)), (0, .ref (ad 0)), (1, .int a0)]) hx hb dX12_someOf_5 hl (by decide) rfl (fun ls hl => ?_)
  exact wl_X12_someOf_7 C  h hw (lv_sub hl [3, 4, 2, 1, 0] rfl)
theorem m_X12_someOf {l : Launch} {a0 : Int32} {Q : Int32 → MI → MJ → Prop} {I : MI} {J : MJ} (h : P_X12_someOf a0 I J Q) : Met l yX12_someOf (xws yX12_someOf cX12_someOf 5 (some .int)) rmX12_someOf (va_Pc [.ref (ad 0), .int a0] (gB (mS ad cy) 30 ad cy D mE I J)) (gQi (mS ad cy) 30 ad cy D mE Q) 0 0 (gA 30 ad) :=
  g_met (mE_ok ad) rfl (by decide) (Nat.le_of_ble_eq_true rfl) (fun p e s m below meth c ls C hw hl => w_X12_someOf C  h hw hl)
/-! BagPhrasesModel.layWorth()V -/
def P_X12_layWorth_10 (Q : MI → MJ → Prop) (kL10 : Int32 × MI × MJ → Prop) : Int32 × MI × MJ → Prop := fun z => match z with
  | (x1, I, J) => P_X12_unbarred I J (fun r13 I13 J13 => ((((1 : Int32) <<< (r13 &&& 31)) ≤ x1 → Q I13 J13) ∧ (¬ ((1 : Int32) <<< (r13 &&& 31)) ≤ x1 → P_X12_someOf x1 I13 J13 (fun r23 I23 J23 => (∀ I26 : MI, I26 = mI I23 0 32 r23 → P_X12_layWays I26 J23 (fun I30 J30 => P_X12_all I30 J30 (fun r39 I39 J39 => vp_in x1 256 ∧ (∀ J42 : MJ, J42 = mJ J39 29 x1.toNatClampNeg r39 → kL10 ((x1 + 1), I39, J42)))))))))
def P_X12_layWorth (I : MI) (J : MJ) (Q : MI → MJ → Prop) : Prop :=
  P_X12_look 6 I J (fun I5 J5 => lpx (P_X12_layWorth_10 Q) ((0 : Int32), I5, J5))
abbrev rmX12_layWorth : Room := { frames := 3, cells := 0, slots := 0, locals := 70 }
set_option maxHeartbeats 4000000 in
set_option maxRecDepth 100000 in
theorem w_X12_layWorth_10 {Q : MI → MJ → Prop} (C : gC RX12 cX12_layWorth 2 none 30 ad cy D mE p s m args meth c) {kL10 : Int32 × MI × MJ → Prop} (hL10 : ∀ {x1 : Int32} {I : MI} {J : MJ} {H : Heap} {locs : List Loc} {ls : Array Slot}, kL10 (x1, I, J) → gH (mS ad cy) 30 ad D s I J H locs → lv_has ls 2 [(0, .ref (ad 0)), (1, .int x1)] → W p l e rmX12_layWorth s m args below meth c H locs 0 0 (MQ below (gQv (mS ad cy) 30 ad cy D mE Q) args s 0 0 (gA 30 ad)) (F0 m 10 ls [])) {x1 : Int32} {I : MI} {J : MJ} {H : Heap} {locs : List Loc} {ls : Array Slot} (h : P_X12_layWorth_10 Q kL10 (x1, I, J)) (hw : gH (mS ad cy) 30 ad D s I J H locs) (hl : lv_has ls 2 [(0, .ref (ad 0)), (1, .int x1)]) : W p l e rmX12_layWorth s m args below meth c H locs 0 0 (MQ below (gQv (mS ad cy) 30 ad cy D mE Q) args s 0 0 (gA 30 ad)) (F0 m 10 ls []) := by
  obtain ⟨hx, hb, hC⟩ := id C
  unfold P_X12_layWorth_10 at h
  dsimp only at h
  refine lv_iload_n hx hb dX12_layWorth_10 rfl (lv_at hl 1 rfl) ?_
  refine lv_iconst (v := 1) hx hb dX12_layWorth_11 (by decide) ?_
  refine lv_aload_n hx hb dX12_layWorth_12 rfl (lv_at hl 0 rfl) ?_
  refine g_ci hw (g_rV [] [.int (1 : Int32), .int x1] C hw (m_X12_unbarred h) k_X12_unbarred q_RX12_333 ml_0 (ms_0 _ _) rfl rfl hl.1 rfl (Nat.le_of_ble_eq_true rfl) ⟨⟨rfl, rfl⟩, Nat.le_of_ble_eq_true rfl, Nat.le_of_ble_eq_true rfl⟩ ⟨Nat.zero_le _, Nat.zero_le _⟩ dX12_layWorth_13) (fun r13 I13 J13 H locs h hw => ?_)
  refine lv_ishl hx hb dX12_layWorth_16 ?_
  refine lv_icmp_ge (tgt := 49) hx hb dX12_layWorth_17 (by decide) (fun c17 => ?_) (fun c17 => ?_)
  · have h := h.1 c17
    exact g_vret C hw h dX12_layWorth_49
  · have h := h.2 c17
    refine lv_aload_n hx hb dX12_layWorth_20 rfl (lv_at hl 0 rfl) ?_
    refine lv_aload_n hx hb dX12_layWorth_21 rfl (lv_at hl 0 rfl) ?_
    refine lv_iload_n hx hb dX12_layWorth_22 rfl (lv_at hl 1 rfl) ?_
    refine g_ci hw (g_rV [.int x1] [.ref (ad 0)] C hw (m_X12_someOf h) k_X12_someOf q_RX12_336 ml_0 (ms_0 _ _) rfl rfl hl.1 rfl (Nat.le_of_ble_eq_true rfl) ⟨⟨rfl, rfl⟩, Nat.le_of_ble_eq_true rfl, Nat.le_of_ble_eq_true rfl⟩ ⟨Nat.zero_le _, Nat.zero_le _⟩ dX12_layWorth_23) (fun r23 I23 J23 H locs h hw => ?_)
    refine g_putI C hw fp_RX12_191 ml_0 ms_0 (st_11_32 ad _) (Nat.le_of_ble_eq_true rfl) rfl rfl dX12_layWorth_26 (fun H locs hw => ?_)
    obtain ⟨I26, e26⟩ : ∃ z : MI, z = mI I23 0 32 r23 := ⟨_, rfl⟩
    have h := h I26 e26
    rw [← e26] at hw
    refine lv_aload_n hx hb dX12_layWorth_29 rfl (lv_at hl 0 rfl) ?_
    refine g_cv hw (g_rV [] [] C hw (m_X12_layWays h) k_X12_layWays q_RX12_205 ml_0 (ms_0 _ _) rfl rfl hl.1 rfl (Nat.le_of_ble_eq_true rfl) ⟨⟨rfl, rfl⟩, Nat.le_of_ble_eq_true rfl, Nat.le_of_ble_eq_true rfl⟩ ⟨Nat.zero_le _, Nat.zero_le _⟩ dX12_layWorth_30) (fun I30 J30 H locs h hw => ?_)
    refine lv_aload_n hx hb dX12_layWorth_33 rfl (lv_at hl 0 rfl) ?_
    refine g_get C hw f_RX12_96 ml_0 (ms_0 _ _) rfl dX12_layWorth_34 ?_
    refine lv_iload_n hx hb dX12_layWorth_37 rfl (lv_at hl 1 rfl) ?_
    refine lv_aload_n hx hb dX12_layWorth_38 rfl (lv_at hl 0 rfl) ?_
    refine g_cl hw (g_rV [] [.int x1, .ref (ad 29)] C hw (m_X12_all h) k_X12_all q_RX12_208 ml_0 (ms_0 _ _) rfl rfl hl.1 rfl (Nat.le_of_ble_eq_true rfl) ⟨⟨rfl, rfl⟩, Nat.le_of_ble_eq_true rfl, Nat.le_of_ble_eq_true rfl⟩ ⟨Nat.zero_le _, Nat.zero_le _⟩ dX12_layWorth_39) (fun r39 I39 J39 H locs h hw => ?_)
    refine g_last C hw ml_29 ms_29 h.1 dX12_layWorth_42 (fun H locs hw => ?_)
    have h := h.2
    obtain ⟨J42, e42⟩ : ∃ z : MJ, z = mJ J39 29 x1.toNatClampNeg r39 := ⟨_, rfl⟩
    have h := h J42 e42
    rw [← e42] at hw
    refine lv_iinc (v := x1 + 1) (lv' := [(1, .int (x1 + 1)), (0, .ref (ad 0))]) hx hb dX12_layWorth_43 hl (k := 1) rfl rfl (by decide) rfl (fun ls hl => ?_)
    refine lv_goto (tgt := 10) hx hb dX12_layWorth_46 (by decide) ?_
    exact hL10 h hw (lv_sub hl [1, 0] rfl)
theorem wl_X12_layWorth_10 {Q : MI → MJ → Prop} (C : gC RX12 cX12_layWorth 2 none 30 ad cy D mE p s m args meth c) {x1 : Int32} {I : MI} {J : MJ} {H : Heap} {locs : List Loc} {ls : Array Slot} (h : lpx (P_X12_layWorth_10 Q) (x1, I, J)) (hw : gH (mS ad cy) 30 ad D s I J H locs) (hl : lv_has ls 2 [(0, .ref (ad 0)), (1, .int x1)]) : W p l e rmX12_layWorth s m args below meth c H locs 0 0 (MQ below (gQv (mS ad cy) 30 ad cy D mE Q) args s 0 0 (gA 30 ad)) (F0 m 10 ls []) := by
  obtain ⟨n, h⟩ := h
  induction n generalizing x1 I J H locs ls with
  | zero => exact False.elim h
  | succ n ih => exact w_X12_layWorth_10 C  (fun hk9 hw9 hl9 => ih hw9 hl9 hk9) h hw hl
set_option maxHeartbeats 4000000 in
set_option maxRecDepth 100000 in
theorem w_X12_layWorth {Q : MI → MJ → Prop} (C : gC RX12 cX12_layWorth 2 none 30 ad cy D mE p s m args meth c) {I : MI} {J : MJ} {H : Heap} {locs : List Loc} {ls : Array Slot} (h : P_X12_layWorth I J Q) (hw : gH (mS ad cy) 30 ad D s I J H locs) (hl : lv_has ls 2 [(0, .ref (ad 0))]) : W p l e rmX12_layWorth s m args below meth c H locs 0 0 (MQ below (gQv (mS ad cy) 30 ad cy D mE Q) args s 0 0 (gA 30 ad)) (F0 m 0 ls []) := by
  obtain ⟨hx, hb, hC⟩ := id C
  refine lv_aload_n hx hb dX12_layWorth_0 rfl (lv_at hl 0 rfl) ?_
  refine lv_aload_n hx hb dX12_layWorth_1 rfl (lv_at hl 0 rfl) ?_
  refine g_get C hw f_RX12_25 ml_0 (ms_0 _ _) rfl dX12_layWorth_2 ?_
  refine g_cv hw (g_rV [.ref (ad 6)] [] C hw (m_X12_look isRow_6 h) k_X12_look q_RX12_202 ml_0 (ms_0 _ _) rfl rfl hl.1 rfl (Nat.le_of_ble_eq_true rfl) ⟨⟨rfl, rfl⟩, Nat.le_of_ble_eq_true rfl, Nat.le_of_ble_eq_true rfl⟩ ⟨Nat.zero_le _, Nat.zero_le _⟩ dX12_layWorth_5) (fun I5 J5 H locs h hw => ?_)
  refine lv_iconst (v := 0) hx hb dX12_layWorth_8 (by decide) ?_
  refine lv_istore_n (lv' := [(1, .int (0 : Int32)), (0, .ref (ad 0))]) hx hb dX12_layWorth_9 rfl hl (by decide) rfl (fun ls hl => ?_)
  exact wl_X12_layWorth_10 C  h hw (lv_sub hl [1, 0] rfl)
theorem m_X12_layWorth {l : Launch} {Q : MI → MJ → Prop} {I : MI} {J : MJ} (h : P_X12_layWorth I J Q) : Met l yX12_layWorth (xws yX12_layWorth cX12_layWorth 2 none) rmX12_layWorth (va_Pc [.ref (ad 0)] (gB (mS ad cy) 30 ad cy D mE I J)) (gQv (mS ad cy) 30 ad cy D mE Q) 0 0 (gA 30 ad) :=
  g_met (mE_ok ad) rfl (by decide) (Nat.le_of_ble_eq_true rfl) (fun p e s m below meth c ls C hw hl => w_X12_layWorth C  h hw hl)
/-! BagPhrasesModel.factorial(I)I -/
def P_X12_factorial_4 (Q : Int32 → MI → MJ → Prop) (kL4 : Int32 × Int32 × Int32 × MI × MJ → Prop) : Int32 × Int32 × Int32 × MI × MJ → Prop := fun z => match z with
  | (x0, x1, x2, I, J) => ((x0 < x2 → Q x1 I J) ∧ (¬ x0 < x2 → kL4 (x0, (x1 * x2), (x2 + 1), I, J)))
def P_X12_factorial (a0 : Int32) (I : MI) (J : MJ) (Q : Int32 → MI → MJ → Prop) : Prop :=
  lpx (P_X12_factorial_4 Q) (a0, (1 : Int32), (2 : Int32), I, J)
abbrev rmX12_factorial : Room := { frames := 0, cells := 0, slots := 0, locals := 0 }
set_option maxHeartbeats 4000000 in
set_option maxRecDepth 100000 in
theorem w_X12_factorial_4 {Q : Int32 → MI → MJ → Prop} (C : gC RX12 cX12_factorial 3 (some .int) 30 ad cy D mE p s m args meth c) {kL4 : Int32 × Int32 × Int32 × MI × MJ → Prop} (hL4 : ∀ {x0 : Int32} {x1 : Int32} {x2 : Int32} {I : MI} {J : MJ} {H : Heap} {locs : List Loc} {ls : Array Slot}, kL4 (x0, x1, x2, I, J) → gH (mS ad cy) 30 ad D s I J H locs → lv_has ls 3 [(0, .int x0), (1, .int x1), (2, .int x2)] → W p l e rmX12_factorial s m args below meth c H locs 0 0 (MQ below (gQi (mS ad cy) 30 ad cy D mE Q) args s 0 0 (gA 30 ad)) (F0 m 4 ls [])) {x0 : Int32} {x1 : Int32} {x2 : Int32} {I : MI} {J : MJ} {H : Heap} {locs : List Loc} {ls : Array Slot} (h : P_X12_factorial_4 Q kL4 (x0, x1, x2, I, J)) (hw : gH (mS ad cy) 30 ad D s I J H locs) (hl : lv_has ls 3 [(0, .int x0), (1, .int x1), (2, .int x2)]) : W p l e rmX12_factorial s m args below meth c H locs 0 0 (MQ below (gQi (mS ad cy) 30 ad cy D mE Q) args s 0 0 (gA 30 ad)) (F0 m 4 ls []) := by
  obtain ⟨hx, hb, hC⟩ := id C
  refine lv_iload_n hx hb dX12_factorial_4 rfl (lv_at hl 2 rfl) ?_
  refine lv_iload_n hx hb dX12_factorial_5 rfl (lv_at hl 0 rfl) ?_
  refine lv_icmp_gt (tgt := 19) hx hb dX12_factorial_6 (by decide) (fun c6 => ?_) (fun c6 => ?_)
  · have h := h.1 c6
    refine lv_iload_n hx hb dX12_factorial_19 rfl (lv_at hl 1 rfl) ?_
    exact g_iret C hw h dX12_factorial_20
  · have h := h.2 c6
    refine lv_iload_n hx hb dX12_factorial_9 rfl (lv_at hl 1 rfl) ?_
    refine lv_iload_n hx hb dX12_factorial_10 rfl (lv_at hl 2 rfl) ?_
    refine lv_imul hx hb dX12_factorial_11 ?_
    refine lv_istore_n (lv' := [(1, .int (x1 * x2)), (0, .int x0), (2, .int x2)]) hx hb dX12_factorial_12 rfl hl (by decide) rfl (fun ls hl => ?_)
    refine lv_iinc (v := x2 + 1) (lv' := [(2, .int (x2 + 1)), (1, .int (x1 * x2)), (0, .int x0)]) hx hb dX12_factorial_13 hl (k := 2) rfl rfl (by decide) rfl (fun ls hl => ?_)
    refine lv_goto (tgt := 4) hx hb dX12_factorial_16 (by decide) ?_
    exact hL4 h hw (lv_sub hl [2, 1, 0] rfl)
theorem wl_X12_factorial_4 {Q : Int32 → MI → MJ → Prop} (C : gC RX12 cX12_factorial 3 (some .int) 30 ad cy D mE p s m args meth c) {x0 : Int32} {x1 : Int32} {x2 : Int32} {I : MI} {J : MJ} {H : Heap} {locs : List Loc} {ls : Array Slot} (h : lpx (P_X12_factorial_4 Q) (x0, x1, x2, I, J)) (hw : gH (mS ad cy) 30 ad D s I J H locs) (hl : lv_has ls 3 [(0, .int x0), (1, .int x1), (2, .int x2)]) : W p l e rmX12_factorial s m args below meth c H locs 0 0 (MQ below (gQi (mS ad cy) 30 ad cy D mE Q) args s 0 0 (gA 30 ad)) (F0 m 4 ls []) := by
  obtain ⟨n, h⟩ := h
  induction n generalizing x0 x1 x2 I J H locs ls with
  | zero => exact False.elim h
  | succ n ih => exact w_X12_factorial_4 C  (fun hk9 hw9 hl9 => ih hw9 hl9 hk9) h hw hl
set_option maxHeartbeats 4000000 in
set_option maxRecDepth 100000 in
theorem w_X12_factorial {Q : Int32 → MI → MJ → Prop} (C : gC RX12 cX12_factorial 3 (some .int) 30 ad cy D mE p s m args meth c) {a0 : Int32} {I : MI} {J : MJ} {H : Heap} {locs : List Loc} {ls : Array Slot} (h : P_X12_factorial a0 I J Q) (hw : gH (mS ad cy) 30 ad D s I J H locs) (hl : lv_has ls 3 [(0, .int a0)]) : W p l e rmX12_factorial s m args below meth c H locs 0 0 (MQ below (gQi (mS ad cy) 30 ad cy D mE Q) args s 0 0 (gA 30 ad)) (F0 m 0 ls []) := by
  obtain ⟨hx, hb, hC⟩ := id C
  refine lv_iconst (v := 1) hx hb dX12_factorial_0 (by decide) ?_
  refine lv_istore_n (lv' := [(1, .int (1 : Int32)), (0, .int a0)]) hx hb dX12_factorial_1 rfl hl (by decide) rfl (fun ls hl => ?_)
  refine lv_iconst (v := 2) hx hb dX12_factorial_2 (by decide) ?_
  refine lv_istore_n (lv' := [(2, .int (2 : Int32)), (1, .int (1 : Int32)), (0, .int a0)]) hx hb dX12_factorial_3 rfl hl (by decide) rfl (fun ls hl => ?_)
  exact wl_X12_factorial_4 C  h hw (lv_sub hl [2, 1, 0] rfl)
theorem m_X12_factorial {l : Launch} {a0 : Int32} {Q : Int32 → MI → MJ → Prop} {I : MI} {J : MJ} (h : P_X12_factorial a0 I J Q) : Met l yX12_factorial (xws yX12_factorial cX12_factorial 3 (some .int)) rmX12_factorial (va_Pc [.int a0] (gB (mS ad cy) 30 ad cy D mE I J)) (gQi (mS ad cy) 30 ad cy D mE Q) 0 0 (gA 30 ad) :=
  g_met (mE_ok ad) rfl (by decide) (Nat.le_of_ble_eq_true rfl) (fun p e s m below meth c ls C hw hl => w_X12_factorial C  h hw hl)
/-! BagPhrasesModel.bitOf(I)I -/
def P_X12_bitOf_29 (Q : Int32 → MI → MJ → Prop) (kL4 : Int32 × Int32 × Int32 × MI × MJ → Prop) (x1 : Int32) (x3 : Int32) (s0 : Int32) (s1 : Int32) (I : MI) (J : MJ) : Prop :=
  kL4 (x1, (s0 + s1), (x3 + 1), I, J)
def P_X12_bitOf_4 (Q : Int32 → MI → MJ → Prop) (kL4 : Int32 × Int32 × Int32 × MI × MJ → Prop) : Int32 × Int32 × Int32 × MI × MJ → Prop := fun z => match z with
  | (x1, x2, x3, I, J) => ((x1 ≤ x3 → Q ((1 : Int32) <<< (x2 &&& 31)) I J) ∧ (¬ x1 ≤ x3 → vp_in (8 : Int32) 25 ∧ (P_X12_has (I 6 (8 : Int32).toNatClampNeg) x3 I J (fun r18 I18 J18 => ((r18 = 0 → P_X12_bitOf_29 Q kL4 x1 x3 x2 (1 : Int32) I18 J18) ∧ (¬ r18 = 0 → P_X12_bitOf_29 Q kL4 x1 x3 x2 (0 : Int32) I18 J18))))))
def P_X12_bitOf (a0 : Int32) (I : MI) (J : MJ) (Q : Int32 → MI → MJ → Prop) : Prop :=
  lpx (P_X12_bitOf_4 Q) (a0, (0 : Int32), (0 : Int32), I, J)
abbrev rmX12_bitOf : Room := { frames := 1, cells := 0, slots := 0, locals := 21 }
set_option maxHeartbeats 4000000 in
set_option maxRecDepth 100000 in
theorem w_X12_bitOf_29 {Q : Int32 → MI → MJ → Prop} (C : gC RX12 cX12_bitOf 4 (some .int) 30 ad cy D mE p s m args meth c) {kL4 : Int32 × Int32 × Int32 × MI × MJ → Prop} (hL4 : ∀ {x1 : Int32} {x2 : Int32} {x3 : Int32} {I : MI} {J : MJ} {H : Heap} {locs : List Loc} {ls : Array Slot}, kL4 (x1, x2, x3, I, J) → gH (mS ad cy) 30 ad D s I J H locs → lv_has ls 4 [(0, .ref (ad 0)), (1, .int x1), (2, .int x2), (3, .int x3)] → W p l e rmX12_bitOf s m args below meth c H locs 0 0 (MQ below (gQi (mS ad cy) 30 ad cy D mE Q) args s 0 0 (gA 30 ad)) (F0 m 4 ls [])) {x1 : Int32} {x3 : Int32} {s0 : Int32} {s1 : Int32} {I : MI} {J : MJ} {H : Heap} {locs : List Loc} {ls : Array Slot} (h : P_X12_bitOf_29 Q kL4 x1 x3 s0 s1 I J) (hw : gH (mS ad cy) 30 ad D s I J H locs) (hl : lv_has ls 4 [(0, .ref (ad 0)), (1, .int x1), (3, .int x3)]) : W p l e rmX12_bitOf s m args below meth c H locs 0 0 (MQ below (gQi (mS ad cy) 30 ad cy D mE Q) args s 0 0 (gA 30 ad)) (F0 m 29 ls [.int s1, .int s0]) := by
  obtain ⟨hx, hb, hC⟩ := id C
  refine lv_iadd hx hb dX12_bitOf_29 ?_
  refine lv_istore_n (lv' := [(2, .int (s0 + s1)), (0, .ref (ad 0)), (1, .int x1), (3, .int x3)]) hx hb dX12_bitOf_30 rfl hl (by decide) rfl (fun ls hl => ?_)
  refine lv_iinc (v := x3 + 1) (lv' := [(3, .int (x3 + 1)), (2, .int (s0 + s1)), (0, .ref (ad 0)), (1, .int x1)]) hx hb dX12_bitOf_31 hl (k := 3) rfl rfl (by decide) rfl (fun ls hl => ?_)
  refine lv_goto (tgt := 4) hx hb dX12_bitOf_34 (by decide) ?_
  exact hL4 h hw (lv_sub hl [2, 3, 1, 0] rfl)
set_option maxHeartbeats 4000000 in
set_option maxRecDepth 100000 in
theorem w_X12_bitOf_4 {Q : Int32 → MI → MJ → Prop} (C : gC RX12 cX12_bitOf 4 (some .int) 30 ad cy D mE p s m args meth c) {kL4 : Int32 × Int32 × Int32 × MI × MJ → Prop} (hL4 : ∀ {x1 : Int32} {x2 : Int32} {x3 : Int32} {I : MI} {J : MJ} {H : Heap} {locs : List Loc} {ls : Array Slot}, kL4 (x1, x2, x3, I, J) → gH (mS ad cy) 30 ad D s I J H locs → lv_has ls 4 [(0, .ref (ad 0)), (1, .int x1), (2, .int x2), (3, .int x3)] → W p l e rmX12_bitOf s m args below meth c H locs 0 0 (MQ below (gQi (mS ad cy) 30 ad cy D mE Q) args s 0 0 (gA 30 ad)) (F0 m 4 ls [])) {x1 : Int32} {x2 : Int32} {x3 : Int32} {I : MI} {J : MJ} {H : Heap} {locs : List Loc} {ls : Array Slot} (h : P_X12_bitOf_4 Q kL4 (x1, x2, x3, I, J)) (hw : gH (mS ad cy) 30 ad D s I J H locs) (hl : lv_has ls 4 [(0, .ref (ad 0)), (1, .int x1), (2, .int x2), (3, .int x3)]) : W p l e rmX12_bitOf s m args below meth c H locs 0 0 (MQ below (gQi (mS ad cy) 30 ad cy D mE Q) args s 0 0 (gA 30 ad)) (F0 m 4 ls []) := by
  obtain ⟨hx, hb, hC⟩ := id C
  refine lv_iload_n hx hb dX12_bitOf_4 rfl (lv_at hl 3 rfl) ?_
  refine lv_iload_n hx hb dX12_bitOf_5 rfl (lv_at hl 1 rfl) ?_
  refine lv_icmp_ge (tgt := 37) hx hb dX12_bitOf_6 (by decide) (fun c6 => ?_) (fun c6 => ?_)
  · have h := h.1 c6
    refine lv_iconst (v := 1) hx hb dX12_bitOf_37 (by decide) ?_
    refine lv_iload_n hx hb dX12_bitOf_38 rfl (lv_at hl 2 rfl) ?_
    refine lv_ishl hx hb dX12_bitOf_39 ?_
    exact g_iret C hw h dX12_bitOf_40
  · have h := h.2 c6
    refine lv_iload_n hx hb dX12_bitOf_9 rfl (lv_at hl 2 rfl) ?_
    refine lv_aload_n hx hb dX12_bitOf_10 rfl (lv_at hl 0 rfl) ?_
    refine g_get C hw f_RX12_25 ml_0 (ms_0 _ _) rfl dX12_bitOf_11 ?_
    refine lv_bipush (v := 8) hx hb dX12_bitOf_14 (by decide) ?_
    refine g_iald C hw ml_6 ms_6 h.1 dX12_bitOf_16 ?_
    have h := h.2
    refine lv_iload_n hx hb dX12_bitOf_17 rfl (lv_at hl 3 rfl) ?_
    refine g_cz hw (g_rS [.int (I 6 (8 : Int32).toNatClampNeg), .int x3] [.int x2] C hw (m_X12_has h) k_X12_has q_RX12_149 rfl hl.1 rfl (Nat.le_of_ble_eq_true rfl) ⟨⟨rfl, rfl⟩, Nat.le_of_ble_eq_true rfl, Nat.le_of_ble_eq_true rfl⟩ ⟨Nat.zero_le _, Nat.zero_le _⟩ dX12_bitOf_18) (fun r18 I18 J18 H locs z18 h hw => ?_)
    refine lv_if_eq (tgt := 28) hx hb dX12_bitOf_21 (by decide) (fun c21 => ?_) (fun c21 => ?_)
    · have h := h.1 c21
      refine lv_iconst (v := 1) hx hb dX12_bitOf_28 (by decide) ?_
      exact w_X12_bitOf_29 C hL4 h hw (lv_sub hl [0, 1, 3] rfl)
    · have h := h.2 c21
      refine lv_iconst (v := 0) hx hb dX12_bitOf_24 (by decide) ?_
      refine lv_goto (tgt := 29) hx hb dX12_bitOf_25 (by decide) ?_
      exact w_X12_bitOf_29 C hL4 h hw (lv_sub hl [0, 1, 3] rfl)
theorem wl_X12_bitOf_4 {Q : Int32 → MI → MJ → Prop} (C : gC RX12 cX12_bitOf 4 (some .int) 30 ad cy D mE p s m args meth c) {x1 : Int32} {x2 : Int32} {x3 : Int32} {I : MI} {J : MJ} {H : Heap} {locs : List Loc} {ls : Array Slot} (h : lpx (P_X12_bitOf_4 Q) (x1, x2, x3, I, J)) (hw : gH (mS ad cy) 30 ad D s I J H locs) (hl : lv_has ls 4 [(0, .ref (ad 0)), (1, .int x1), (2, .int x2), (3, .int x3)]) : W p l e rmX12_bitOf s m args below meth c H locs 0 0 (MQ below (gQi (mS ad cy) 30 ad cy D mE Q) args s 0 0 (gA 30 ad)) (F0 m 4 ls []) := by
  obtain ⟨n, h⟩ := h
  induction n generalizing x1 x2 x3 I J H locs ls with
  | zero => exact False.elim h
  | succ n ih => exact w_X12_bitOf_4 C  (fun hk9 hw9 hl9 => ih hw9 hl9 hk9) h hw hl
set_option maxHeartbeats 4000000 in
set_option maxRecDepth 100000 in
theorem w_X12_bitOf {Q : Int32 → MI → MJ → Prop} (C : gC RX12 cX12_bitOf 4 (some .int) 30 ad cy D mE p s m args meth c) {a0 : Int32} {I : MI} {J : MJ} {H : Heap} {locs : List Loc} {ls : Array Slot} (h : P_X12_bitOf a0 I J Q) (hw : gH (mS ad cy) 30 ad D s I J H locs) (hl : lv_has ls 4 [(0, .ref (ad 0)), (1, .int a0)]) : W p l e rmX12_bitOf s m args below meth c H locs 0 0 (MQ below (gQi (mS ad cy) 30 ad cy D mE Q) args s 0 0 (gA 30 ad)) (F0 m 0 ls []) := by
  obtain ⟨hx, hb, hC⟩ := id C
  refine lv_iconst (v := 0) hx hb dX12_bitOf_0 (by decide) ?_
  refine lv_istore_n (lv' := [(2, .int (0 : Int32)), (0, .ref (ad 0)), (1, .int a0)]) hx hb dX12_bitOf_1 rfl hl (by decide) rfl (fun ls hl => ?_)
  refine lv_iconst (v := 0) hx hb dX12_bitOf_2 (by decide) ?_
  refine lv_istore_n (lv' := [(3, .int (0 : Int32)), (2, .int (0 : Int32)), (0, .ref (ad 0)), (1, .int a0)]) hx hb dX12_bitOf_3 rfl hl (by decide) rfl (fun ls hl => ?_)
  exact wl_X12_bitOf_4 C  h hw (lv_sub hl [2, 3, 1, 0] rfl)
theorem m_X12_bitOf {l : Launch} {a0 : Int32} {Q : Int32 → MI → MJ → Prop} {I : MI} {J : MJ} (h : P_X12_bitOf a0 I J Q) : Met l yX12_bitOf (xws yX12_bitOf cX12_bitOf 4 (some .int)) rmX12_bitOf (va_Pc [.ref (ad 0), .int a0] (gB (mS ad cy) 30 ad cy D mE I J)) (gQi (mS ad cy) 30 ad cy D mE Q) 0 0 (gA 30 ad) :=
  g_met (mE_ok ad) rfl (by decide) (Nat.le_of_ble_eq_true rfl) (fun p e s m below meth c ls C hw hl => w_X12_bitOf C  h hw hl)
/-! BagPhrasesModel.fraction(JJZ)J -/
def P_X12_fraction_17 (Q : Int64 → MI → MJ → Prop) (kL17 : Int64 × Int64 × Int32 × Int64 × Int64 × MI × MJ → Prop) : Int64 × Int64 × Int32 × Int64 × Int64 × MI × MJ → Prop := fun z => match z with
  | (x0, x2, x4, x5, x7, I, J) => ((x7 = (0 : Int64) → ((x4 = 0 → ¬ x5 = 0 ∧ (Q (x2 / x5) I J)) ∧ (¬ x4 = 0 → ¬ x5 = 0 ∧ (Q (x0 / x5) I J)))) ∧ (¬ x7 = (0 : Int64) → ¬ x7 = 0 ∧ (kL17 (x0, x2, x4, x7, (x5 - x5 / x7 * x7), I, J))))
def P_X12_fraction_12 (Q : Int64 → MI → MJ → Prop) (x0 : Int64) (x2 : Int64) (x4 : Int32) (s0 : Int64) (I : MI) (J : MJ) : Prop :=
  lpx (P_X12_fraction_17 Q) (x0, x2, x4, s0, x2, I, J)
def P_X12_fraction (a0 : Int64) (a1 : Int64) (a2 : Int32) (I : MI) (J : MJ) (Q : Int64 → MI → MJ → Prop) : Prop :=
  (((0 : Int64) ≤ a0 → P_X12_fraction_12 Q a0 a1 a2 a0 I J) ∧ (¬ (0 : Int64) ≤ a0 → P_X12_fraction_12 Q a0 a1 a2 (-a0) I J))
abbrev rmX12_fraction : Room := { frames := 0, cells := 0, slots := 0, locals := 0 }
set_option maxHeartbeats 4000000 in
set_option maxRecDepth 100000 in
theorem w_X12_fraction_17 {Q : Int64 → MI → MJ → Prop} (C : gC RX12 cX12_fraction 11 (some .long) 30 ad cy D mE p s m args meth c) {kL17 : Int64 × Int64 × Int32 × Int64 × Int64 × MI × MJ → Prop} (hL17 : ∀ {x0 : Int64} {x2 : Int64} {x4 : Int32} {x5 : Int64} {x7 : Int64} {I : MI} {J : MJ} {H : Heap} {locs : List Loc} {ls : Array Slot}, kL17 (x0, x2, x4, x5, x7, I, J) → gH (mS ad cy) 30 ad D s I J H locs → lv_has ls 11 [(0, .long x0), (2, .long x2), (4, .int x4), (5, .long x5), (7, .long x7)] → W p l e rmX12_fraction s m args below meth c H locs 0 0 (MQ below (gQl (mS ad cy) 30 ad cy D mE Q) args s 0 0 (gA 30 ad)) (F0 m 17 ls [])) {x0 : Int64} {x2 : Int64} {x4 : Int32} {x5 : Int64} {x7 : Int64} {I : MI} {J : MJ} {H : Heap} {locs : List Loc} {ls : Array Slot} (h : P_X12_fraction_17 Q kL17 (x0, x2, x4, x5, x7, I, J)) (hw : gH (mS ad cy) 30 ad D s I J H locs) (hl : lv_has ls 11 [(0, .long x0), (2, .long x2), (4, .int x4), (5, .long x5), (7, .long x7)]) : W p l e rmX12_fraction s m args below meth c H locs 0 0 (MQ below (gQl (mS ad cy) 30 ad cy D mE Q) args s 0 0 (gA 30 ad)) (F0 m 17 ls []) := by
  obtain ⟨hx, hb, hC⟩ := id C
  refine lv_lload hx hb dX12_fraction_17 (lv_at hl 4 rfl) ?_
  refine lv_lconst (v := 0) hx hb dX12_fraction_19 (by decide) ?_
  refine g_lcmp_eq (tgt := 42) hx hb dX12_fraction_20 dX12_fraction_21 (by decide) (fun c20 => ?_) (fun c20 => ?_)
  · have h := h.1 c20
    refine lv_iload hx hb dX12_fraction_42 (lv_at hl 2 rfl) ?_
    refine lv_if_eq (tgt := 54) hx hb dX12_fraction_44 (by decide) (fun c44 => ?_) (fun c44 => ?_)
    · have h := h.1 c44
      refine lv_lload_n hx hb dX12_fraction_54 rfl (lv_at hl 1 rfl) ?_
      refine lv_lload hx hb dX12_fraction_55 (lv_at hl 3 rfl) ?_
      refine lv_ldiv hx hb dX12_fraction_57 h.1 ?_
      have h := h.2
      exact g_lret C hw h dX12_fraction_58
    · have h := h.2 c44
      refine lv_lload_n hx hb dX12_fraction_47 rfl (lv_at hl 0 rfl) ?_
      refine lv_lload hx hb dX12_fraction_48 (lv_at hl 3 rfl) ?_
      refine lv_ldiv hx hb dX12_fraction_50 h.1 ?_
      have h := h.2
      refine lv_goto (tgt := 58) hx hb dX12_fraction_51 (by decide) ?_
      exact g_lret C hw h dX12_fraction_58
  · have h := h.2 c20
    refine lv_lload hx hb dX12_fraction_24 (lv_at hl 3 rfl) ?_
    refine lv_lload hx hb dX12_fraction_26 (lv_at hl 4 rfl) ?_
    refine lv_lrem hx hb dX12_fraction_28 h.1 ?_
    have h := h.2
    refine lv_lstore (lv' := [(9, .long (x5 - x5 / x7 * x7)), (0, .long x0), (2, .long x2), (4, .int x4), (5, .long x5), (7, .long x7)]) hx hb dX12_fraction_29 hl (by decide) rfl (fun ls hl => ?_)
    refine lv_lload hx hb dX12_fraction_31 (lv_at hl 5 rfl) ?_
    refine lv_lstore (lv' := [(5, .long x7), (9, .long (x5 - x5 / x7 * x7)), (0, .long x0), (2, .long x2), (4, .int x4), (7, .long x7)]) hx hb dX12_fraction_33 hl (by decide) rfl (fun ls hl => ?_)
    refine lv_lload hx hb dX12_fraction_35 (lv_at hl 1 rfl) ?_
    refine lv_lstore (lv' := [(7, .long (x5 - x5 / x7 * x7)), (5, .long x7), (9, .long (x5 - x5 / x7 * x7)), (0, .long x0), (2, .long x2), (4, .int x4)]) hx hb dX12_fraction_37 hl (by decide) rfl (fun ls hl => ?_)
    refine lv_goto (tgt := 17) hx hb dX12_fraction_39 (by decide) ?_
    exact hL17 h hw (lv_sub hl [3, 4, 5, 1, 0] rfl)
theorem wl_X12_fraction_17 {Q : Int64 → MI → MJ → Prop} (C : gC RX12 cX12_fraction 11 (some .long) 30 ad cy D mE p s m args meth c) {x0 : Int64} {x2 : Int64} {x4 : Int32} {x5 : Int64} {x7 : Int64} {I : MI} {J : MJ} {H : Heap} {locs : List Loc} {ls : Array Slot} (h : lpx (P_X12_fraction_17 Q) (x0, x2, x4, x5, x7, I, J)) (hw : gH (mS ad cy) 30 ad D s I J H locs) (hl : lv_has ls 11 [(0, .long x0), (2, .long x2), (4, .int x4), (5, .long x5), (7, .long x7)]) : W p l e rmX12_fraction s m args below meth c H locs 0 0 (MQ below (gQl (mS ad cy) 30 ad cy D mE Q) args s 0 0 (gA 30 ad)) (F0 m 17 ls []) := by
  obtain ⟨n, h⟩ := h
  induction n generalizing x0 x2 x4 x5 x7 I J H locs ls with
  | zero => exact False.elim h
  | succ n ih => exact w_X12_fraction_17 C  (fun hk9 hw9 hl9 => ih hw9 hl9 hk9) h hw hl
set_option maxHeartbeats 4000000 in
set_option maxRecDepth 100000 in
theorem w_X12_fraction_12 {Q : Int64 → MI → MJ → Prop} (C : gC RX12 cX12_fraction 11 (some .long) 30 ad cy D mE p s m args meth c) {x0 : Int64} {x2 : Int64} {x4 : Int32} {s0 : Int64} {I : MI} {J : MJ} {H : Heap} {locs : List Loc} {ls : Array Slot} (h : P_X12_fraction_12 Q x0 x2 x4 s0 I J) (hw : gH (mS ad cy) 30 ad D s I J H locs) (hl : lv_has ls 11 [(0, .long x0), (2, .long x2), (4, .int x4)]) : W p l e rmX12_fraction s m args below meth c H locs 0 0 (MQ below (gQl (mS ad cy) 30 ad cy D mE Q) args s 0 0 (gA 30 ad)) (F0 m 12 ls [.long s0]) := by
  obtain ⟨hx, hb, hC⟩ := id C
  refine lv_lstore (lv' := [(5, .long s0), (0, .long x0), (2, .long x2), (4, .int x4)]) hx hb dX12_fraction_12 hl (by decide) rfl (fun ls hl => ?_)
  refine lv_lload_n hx hb dX12_fraction_14 rfl (lv_at hl 2 rfl) ?_
  refine lv_lstore (lv' := [(7, .long x2), (5, .long s0), (0, .long x0), (2, .long x2), (4, .int x4)]) hx hb dX12_fraction_15 hl (by decide) rfl (fun ls hl => ?_)
  exact wl_X12_fraction_17 C  h hw (lv_sub hl [2, 3, 4, 1, 0] rfl)
set_option maxHeartbeats 4000000 in
set_option maxRecDepth 100000 in
theorem w_X12_fraction {Q : Int64 → MI → MJ → Prop} (C : gC RX12 cX12_fraction 11 (some .long) 30 ad cy D mE p s m args meth c) {a0 : Int64} {a1 : Int64} {a2 : Int32} {I : MI} {J : MJ} {H : Heap} {locs : List Loc} {ls : Array Slot} (h : P_X12_fraction a0 a1 a2 I J Q) (hw : gH (mS ad cy) 30 ad D s I J H locs) (hl : lv_has ls 11 [(0, .long a0), (2, .long a1), (4, .int a2)]) : W p l e rmX12_fraction s m args below meth c H locs 0 0 (MQ below (gQl (mS ad cy) 30 ad cy D mE Q) args s 0 0 (gA 30 ad)) (F0 m 0 ls []) := by
  obtain ⟨hx, hb, hC⟩ := id C
  refine lv_lload_n hx hb dX12_fraction_0 rfl (lv_at hl 0 rfl) ?_
  refine lv_lconst (v := 0) hx hb dX12_fraction_1 (by decide) ?_
  refine g_lcmp_ge (tgt := 11) hx hb dX12_fraction_2 dX12_fraction_3 (by decide) (fun c2 => ?_) (fun c2 => ?_)
  · have h := h.1 c2
    refine lv_lload_n hx hb dX12_fraction_11 rfl (lv_at hl 0 rfl) ?_
    exact w_X12_fraction_12 C  h hw (lv_sub hl [0, 1, 2] rfl)
  · have h := h.2 c2
    refine lv_lload_n hx hb dX12_fraction_6 rfl (lv_at hl 0 rfl) ?_
    refine lv_lneg hx hb dX12_fraction_7 ?_
    refine lv_goto (tgt := 12) hx hb dX12_fraction_8 (by decide) ?_
    exact w_X12_fraction_12 C  h hw (lv_sub hl [0, 1, 2] rfl)
theorem m_X12_fraction {l : Launch} {a0 : Int64} {a1 : Int64} {a2 : Int32} {Q : Int64 → MI → MJ → Prop} {I : MI} {J : MJ} (h : P_X12_fraction a0 a1 a2 I J Q) : Met l yX12_fraction (xws yX12_fraction cX12_fraction 11 (some .long)) rmX12_fraction (va_Pc [.long a0, .long a1, .int a2] (gB (mS ad cy) 30 ad cy D mE I J)) (gQl (mS ad cy) 30 ad cy D mE Q) 0 0 (gA 30 ad) :=
  g_met (mE_ok ad) rfl (by decide) (Nat.le_of_ble_eq_true rfl) (fun p e s m below meth c ls C hw hl => w_X12_fraction C  h hw hl)
/-! BagPhrasesModel.share(IZ)J -/
def P_X12_share_131 (Q : Int64 → MI → MJ → Prop) (kL51 : Int32 × Int32 × Int32 × Int64 × Int32 × MI × MJ → Prop) (x1 : Int32) (x2 : Int32) (x3 : Int32) (x4 : Int64) (x6 : Int32) (I : MI) (J : MJ) : Prop :=
  kL51 (x1, x2, x3, x4, (x6 + 1), I, J)
def P_X12_share_51 (Q : Int64 → MI → MJ → Prop) (kL51 : Int32 × Int32 × Int32 × Int64 × Int32 × MI × MJ → Prop) : Int32 × Int32 × Int32 × Int64 × Int32 × MI × MJ → Prop := fun z => match z with
  | (x1, x2, x3, x4, x6, I, J) => ((((1 : Int32) <<< (x3 &&& 31)) ≤ x6 → P_X12_factorial x3 I J (fun r140 I140 J140 => P_X12_fraction x4 r140.toInt64 x2 I140 J140 (fun r145 I145 J145 => Q r145 I145 J145))) ∧ (¬ ((1 : Int32) <<< (x3 &&& 31)) ≤ x6 → P_X12_someOf x6 I J (fun r62 I62 J62 => P_X12_has r62 x1 I62 J62 (fun r70 I70 J70 => ((r70 = 0 → P_X12_share_131 Q kL51 x1 x2 x3 x4 x6 I70 J70) ∧ (¬ r70 = 0 → P_X12_ones x6 I70 J70 (fun r78 I78 J78 => P_X12_factorial (r78 - (1 : Int32)) I78 J78 (fun r89 I89 J89 => P_X12_factorial ((x3 - (1 : Int32)) - (r78 - (1 : Int32))) I89 J89 (fun r99 I99 J99 => vp_in x6 256 ∧ (P_X12_bitOf x1 I99 J99 (fun r119 I119 J119 => vp_in (x6 &&& (r119 ^^^ (-1 : Int32))) 256 ∧ (P_X12_share_131 Q kL51 x1 x2 x3 (x4 + ((r89.toInt64 * r99.toInt64) * ((J99 29 x6.toNatClampNeg) - (J119 29 (x6 &&& (r119 ^^^ (-1 : Int32))).toNatClampNeg)))) x6 I119 J119))))))))))))
def P_X12_share_37 (Q : Int64 → MI → MJ → Prop) (I : MI) (J : MJ) : Prop :=
  Q (-3 : Int64) I J
def P_X12_share (a0 : Int32) (a1 : Int32) (I : MI) (J : MJ) (Q : Int64 → MI → MJ → Prop) : Prop :=
  P_X12_isWord a0 I J (fun r2 I2 J2 => ((¬ r2 = 0 → P_X12_unbarred I2 J2 (fun r13 I13 J13 => vp_in (8 : Int32) 25 ∧ (P_X12_has (I13 6 (8 : Int32).toNatClampNeg) a0 I13 J13 (fun r25 I25 J25 => ((¬ r25 = 0 → P_X12_share_37 Q I25 J25) ∧ (r25 = 0 → ((r13 ≤ (8 : Int32) → P_X12_layWorth I25 J25 (fun I42 J42 => lpx (P_X12_share_51 Q) (a0, a1, r13, (0 : Int64), (0 : Int32), I42, J42))) ∧ (¬ r13 ≤ (8 : Int32) → P_X12_share_37 Q I25 J25)))))))) ∧ (r2 = 0 → Q (-1 : Int64) I2 J2)))
abbrev rmX12_share : Room := { frames := 4, cells := 0, slots := 0, locals := 91 }
set_option maxHeartbeats 4000000 in
set_option maxRecDepth 100000 in
theorem w_X12_share_131 {Q : Int64 → MI → MJ → Prop} (C : gC RX12 cX12_share 9 (some .long) 30 ad cy D mE p s m args meth c) {kL51 : Int32 × Int32 × Int32 × Int64 × Int32 × MI × MJ → Prop} (hL51 : ∀ {x1 : Int32} {x2 : Int32} {x3 : Int32} {x4 : Int64} {x6 : Int32} {I : MI} {J : MJ} {H : Heap} {locs : List Loc} {ls : Array Slot}, kL51 (x1, x2, x3, x4, x6, I, J) → gH (mS ad cy) 30 ad D s I J H locs → lv_has ls 9 [(0, .ref (ad 0)), (1, .int x1), (2, .int x2), (3, .int x3), (4, .long x4), (6, .int x6)] → W p l e rmX12_share s m args below meth c H locs 0 0 (MQ below (gQl (mS ad cy) 30 ad cy D mE Q) args s 0 0 (gA 30 ad)) (F0 m 51 ls [])) {x1 : Int32} {x2 : Int32} {x3 : Int32} {x4 : Int64} {x6 : Int32} {I : MI} {J : MJ} {H : Heap} {locs : List Loc} {ls : Array Slot} (h : P_X12_share_131 Q kL51 x1 x2 x3 x4 x6 I J) (hw : gH (mS ad cy) 30 ad D s I J H locs) (hl : lv_has ls 9 [(0, .ref (ad 0)), (1, .int x1), (2, .int x2), (3, .int x3), (4, .long x4), (6, .int x6)]) : W p l e rmX12_share s m args below meth c H locs 0 0 (MQ below (gQl (mS ad cy) 30 ad cy D mE Q) args s 0 0 (gA 30 ad)) (F0 m 131 ls []) := by
  obtain ⟨hx, hb, hC⟩ := id C
  refine lv_iinc (v := x6 + 1) (lv' := [(6, .int (x6 + 1)), (0, .ref (ad 0)), (1, .int x1), (2, .int x2), (3, .int x3), (4, .long x4)]) hx hb dX12_share_131 hl (k := 5) rfl rfl (by decide) rfl (fun ls hl => ?_)
  refine lv_goto (tgt := 51) hx hb dX12_share_134 (by decide) ?_
  exact hL51 h hw (lv_sub hl [1, 2, 3, 4, 5, 0] rfl)
set_option maxHeartbeats 4000000 in
set_option maxRecDepth 100000 in
theorem w_X12_share_51 {Q : Int64 → MI → MJ → Prop} (C : gC RX12 cX12_share 9 (some .long) 30 ad cy D mE p s m args meth c) {kL51 : Int32 × Int32 × Int32 × Int64 × Int32 × MI × MJ → Prop} (hL51 : ∀ {x1 : Int32} {x2 : Int32} {x3 : Int32} {x4 : Int64} {x6 : Int32} {I : MI} {J : MJ} {H : Heap} {locs : List Loc} {ls : Array Slot}, kL51 (x1, x2, x3, x4, x6, I, J) → gH (mS ad cy) 30 ad D s I J H locs → lv_has ls 9 [(0, .ref (ad 0)), (1, .int x1), (2, .int x2), (3, .int x3), (4, .long x4), (6, .int x6)] → W p l e rmX12_share s m args below meth c H locs 0 0 (MQ below (gQl (mS ad cy) 30 ad cy D mE Q) args s 0 0 (gA 30 ad)) (F0 m 51 ls [])) {x1 : Int32} {x2 : Int32} {x3 : Int32} {x4 : Int64} {x6 : Int32} {I : MI} {J : MJ} {H : Heap} {locs : List Loc} {ls : Array Slot} (h : P_X12_share_51 Q kL51 (x1, x2, x3, x4, x6, I, J)) (hw : gH (mS ad cy) 30 ad D s I J H locs) (hl : lv_has ls 9 [(0, .ref (ad 0)), (1, .int x1), (2, .int x2), (3, .int x3), (4, .long x4), (6, .int x6)]) : W p l e rmX12_share s m args below meth c H locs 0 0 (MQ below (gQl (mS ad cy) 30 ad cy D mE Q) args s 0 0 (gA 30 ad)) (F0 m 51 ls []) := by
  obtain ⟨hx, hb, hC⟩ := id C
  refine lv_iload hx hb dX12_share_51 (lv_at hl 5 rfl) ?_
  refine lv_iconst (v := 1) hx hb dX12_share_53 (by decide) ?_
  refine lv_iload_n hx hb dX12_share_54 rfl (lv_at hl 3 rfl) ?_
  refine lv_ishl hx hb dX12_share_55 ?_
  refine lv_icmp_ge (tgt := 137) hx hb dX12_share_56 (by decide) (fun c56 => ?_) (fun c56 => ?_)
  · have h := h.1 c56
    refine lv_lload hx hb dX12_share_137 (lv_at hl 4 rfl) ?_
    refine lv_iload_n hx hb dX12_share_139 rfl (lv_at hl 3 rfl) ?_
    refine g_ci hw (g_rS [.int x3] [.long x4] C hw (m_X12_factorial h) k_X12_factorial q_RX12_344 rfl hl.1 rfl (Nat.le_of_ble_eq_true rfl) ⟨⟨rfl, rfl⟩, Nat.le_of_ble_eq_true rfl, Nat.le_of_ble_eq_true rfl⟩ ⟨Nat.zero_le _, Nat.zero_le _⟩ dX12_share_140) (fun r140 I140 J140 H locs h hw => ?_)
    refine lv_i2l hx hb dX12_share_143 rfl ?_
    refine lv_iload_n hx hb dX12_share_144 rfl (lv_at hl 2 rfl) ?_
    refine g_cl hw (g_rS [.long x4, .long r140.toInt64, .int x2] [] C hw (m_X12_fraction h) k_X12_fraction q_RX12_350 rfl hl.1 rfl (Nat.le_of_ble_eq_true rfl) ⟨⟨rfl, rfl⟩, Nat.le_of_ble_eq_true rfl, Nat.le_of_ble_eq_true rfl⟩ ⟨Nat.zero_le _, Nat.zero_le _⟩ dX12_share_145) (fun r145 I145 J145 H locs h hw => ?_)
    exact g_lret C hw h dX12_share_148
  · have h := h.2 c56
    refine lv_aload_n hx hb dX12_share_59 rfl (lv_at hl 0 rfl) ?_
    refine lv_iload hx hb dX12_share_60 (lv_at hl 5 rfl) ?_
    refine g_ci hw (g_rV [.int x6] [] C hw (m_X12_someOf h) k_X12_someOf q_RX12_336 ml_0 (ms_0 _ _) rfl rfl hl.1 rfl (Nat.le_of_ble_eq_true rfl) ⟨⟨rfl, rfl⟩, Nat.le_of_ble_eq_true rfl, Nat.le_of_ble_eq_true rfl⟩ ⟨Nat.zero_le _, Nat.zero_le _⟩ dX12_share_62) (fun r62 I62 J62 H locs h hw => ?_)
    refine lv_istore (lv' := [(7, .int r62), (0, .ref (ad 0)), (1, .int x1), (2, .int x2), (3, .int x3), (4, .long x4), (6, .int x6)]) hx hb dX12_share_65 hl (by decide) rfl (fun ls hl => ?_)
    refine lv_iload hx hb dX12_share_67 (lv_at hl 0 rfl) ?_
    refine lv_iload_n hx hb dX12_share_69 rfl (lv_at hl 2 rfl) ?_
    refine g_cz hw (g_rS [.int r62, .int x1] [] C hw (m_X12_has h) k_X12_has q_RX12_149 rfl hl.1 rfl (Nat.le_of_ble_eq_true rfl) ⟨⟨rfl, rfl⟩, Nat.le_of_ble_eq_true rfl, Nat.le_of_ble_eq_true rfl⟩ ⟨Nat.zero_le _, Nat.zero_le _⟩ dX12_share_70) (fun r70 I70 J70 H locs z70 h hw => ?_)
    refine lv_if_eq (tgt := 131) hx hb dX12_share_73 (by decide) (fun c73 => ?_) (fun c73 => ?_)
    · have h := h.1 c73
      exact w_X12_share_131 C hL51 h hw (lv_sub hl [1, 2, 3, 4, 5, 6] rfl)
    · have h := h.2 c73
      refine lv_iload hx hb dX12_share_76 (lv_at hl 6 rfl) ?_
      refine g_ci hw (g_rS [.int x6] [] C hw (m_X12_ones h) k_X12_ones q_RX12_330 rfl hl.1 rfl (Nat.le_of_ble_eq_true rfl) ⟨⟨rfl, rfl⟩, Nat.le_of_ble_eq_true rfl, Nat.le_of_ble_eq_true rfl⟩ ⟨Nat.zero_le _, Nat.zero_le _⟩ dX12_share_78) (fun r78 I78 J78 H locs h hw => ?_)
      refine lv_iconst (v := 1) hx hb dX12_share_81 (by decide) ?_
      refine lv_isub hx hb dX12_share_82 ?_
      refine lv_istore (lv' := [(8, .int (r78 - (1 : Int32))), (7, .int r62), (0, .ref (ad 0)), (1, .int x1), (2, .int x2), (3, .int x3), (4, .long x4), (6, .int x6)]) hx hb dX12_share_83 hl (by decide) rfl (fun ls hl => ?_)
      refine lv_lload hx hb dX12_share_85 (lv_at hl 6 rfl) ?_
      refine lv_iload hx hb dX12_share_87 (lv_at hl 0 rfl) ?_
      refine g_ci hw (g_rS [.int (r78 - (1 : Int32))] [.long x4] C hw (m_X12_factorial h) k_X12_factorial q_RX12_344 rfl hl.1 rfl (Nat.le_of_ble_eq_true rfl) ⟨⟨rfl, rfl⟩, Nat.le_of_ble_eq_true rfl, Nat.le_of_ble_eq_true rfl⟩ ⟨Nat.zero_le _, Nat.zero_le _⟩ dX12_share_89) (fun r89 I89 J89 H locs h hw => ?_)
      refine lv_i2l hx hb dX12_share_92 rfl ?_
      refine lv_iload_n hx hb dX12_share_93 rfl (lv_at hl 5 rfl) ?_
      refine lv_iconst (v := 1) hx hb dX12_share_94 (by decide) ?_
      refine lv_isub hx hb dX12_share_95 ?_
      refine lv_iload hx hb dX12_share_96 (lv_at hl 0 rfl) ?_
      refine lv_isub hx hb dX12_share_98 ?_
      refine g_ci hw (g_rS [.int ((x3 - (1 : Int32)) - (r78 - (1 : Int32)))] [.long r89.toInt64, .long x4] C hw (m_X12_factorial h) k_X12_factorial q_RX12_344 rfl hl.1 rfl (Nat.le_of_ble_eq_true rfl) ⟨⟨rfl, rfl⟩, Nat.le_of_ble_eq_true rfl, Nat.le_of_ble_eq_true rfl⟩ ⟨Nat.zero_le _, Nat.zero_le _⟩ dX12_share_99) (fun r99 I99 J99 H locs h hw => ?_)
      refine lv_i2l hx hb dX12_share_102 rfl ?_
      refine lv_lmul hx hb dX12_share_103 ?_
      refine lv_aload_n hx hb dX12_share_104 rfl (lv_at hl 2 rfl) ?_
      refine g_get C hw f_RX12_96 ml_0 (ms_0 _ _) rfl dX12_share_105 ?_
      refine lv_iload hx hb dX12_share_108 (lv_at hl 7 rfl) ?_
      refine g_lald C hw ml_29 ms_29 h.1 dX12_share_110 ?_
      have h := h.2
      refine lv_aload_n hx hb dX12_share_111 rfl (lv_at hl 2 rfl) ?_
      refine g_get C hw f_RX12_96 ml_0 (ms_0 _ _) rfl dX12_share_112 ?_
      refine lv_iload hx hb dX12_share_115 (lv_at hl 7 rfl) ?_
      refine lv_aload_n hx hb dX12_share_117 rfl (lv_at hl 2 rfl) ?_
      refine lv_iload_n hx hb dX12_share_118 rfl (lv_at hl 3 rfl) ?_
      refine g_ci hw (g_rV [.int x1] [.int x6, .ref (ad 29), .long (J99 29 x6.toNatClampNeg), .long (r89.toInt64 * r99.toInt64), .long x4] C hw (m_X12_bitOf h) k_X12_bitOf q_RX12_347 ml_0 (ms_0 _ _) rfl rfl hl.1 rfl (Nat.le_of_ble_eq_true rfl) ⟨⟨rfl, rfl⟩, Nat.le_of_ble_eq_true rfl, Nat.le_of_ble_eq_true rfl⟩ ⟨Nat.zero_le _, Nat.zero_le _⟩ dX12_share_119) (fun r119 I119 J119 H locs h hw => ?_)
      refine lv_iconst (v := -1) hx hb dX12_share_122 (by decide) ?_
      refine lv_ixor hx hb dX12_share_123 ?_
      refine lv_iand hx hb dX12_share_124 ?_
      refine g_lald C hw ml_29 ms_29 h.1 dX12_share_125 ?_
      have h := h.2
      refine lv_lsub hx hb dX12_share_126 ?_
      refine lv_lmul hx hb dX12_share_127 ?_
      refine lv_ladd hx hb dX12_share_128 ?_
      refine lv_lstore (lv' := [(4, .long (x4 + ((r89.toInt64 * r99.toInt64) * ((J99 29 x6.toNatClampNeg) - (J119 29 (x6 &&& (r119 ^^^ (-1 : Int32))).toNatClampNeg))))), (8, .int (r78 - (1 : Int32))), (7, .int r62), (0, .ref (ad 0)), (1, .int x1), (2, .int x2), (3, .int x3), (6, .int x6)]) hx hb dX12_share_129 hl (by decide) rfl (fun ls hl => ?_)
      exact w_X12_share_131 C hL51 h hw (lv_sub hl [3, 4, 5, 6, 0, 7] rfl)
theorem wl_X12_share_51 {Q : Int64 → MI → MJ → Prop} (C : gC RX12 cX12_share 9 (some .long) 30 ad cy D mE p s m args meth c) {x1 : Int32} {x2 : Int32} {x3 : Int32} {x4 : Int64} {x6 : Int32} {I : MI} {J : MJ} {H : Heap} {locs : List Loc} {ls : Array Slot} (h : lpx (P_X12_share_51 Q) (x1, x2, x3, x4, x6, I, J)) (hw : gH (mS ad cy) 30 ad D s I J H locs) (hl : lv_has ls 9 [(0, .ref (ad 0)), (1, .int x1), (2, .int x2), (3, .int x3), (4, .long x4), (6, .int x6)]) : W p l e rmX12_share s m args below meth c H locs 0 0 (MQ below (gQl (mS ad cy) 30 ad cy D mE Q) args s 0 0 (gA 30 ad)) (F0 m 51 ls []) := by
  obtain ⟨n, h⟩ := h
  induction n generalizing x1 x2 x3 x4 x6 I J H locs ls with
  | zero => exact False.elim h
  | succ n ih => exact w_X12_share_51 C  (fun hk9 hw9 hl9 => ih hw9 hl9 hk9) h hw hl
set_option maxHeartbeats 4000000 in
set_option maxRecDepth 100000 in
theorem w_X12_share_37 {Q : Int64 → MI → MJ → Prop} (C : gC RX12 cX12_share 9 (some .long) 30 ad cy D mE p s m args meth c) {I : MI} {J : MJ} {H : Heap} {locs : List Loc} {ls : Array Slot} (h : P_X12_share_37 Q I J) (hw : gH (mS ad cy) 30 ad D s I J H locs) (hl : lv_has ls 9 []) : W p l e rmX12_share s m args below meth c H locs 0 0 (MQ below (gQl (mS ad cy) 30 ad cy D mE Q) args s 0 0 (gA 30 ad)) (F0 m 37 ls []) := by
  obtain ⟨hx, hb, hC⟩ := id C
  refine lv_ldc2 (v := (-3)) hx hb hC.2.2.1 (hC.2.2.2.1 _ q_RX12_339) dX12_share_37 ?_
  exact g_lret C hw h dX12_share_40
set_option maxHeartbeats 4000000 in
set_option maxRecDepth 100000 in
theorem w_X12_share {Q : Int64 → MI → MJ → Prop} (C : gC RX12 cX12_share 9 (some .long) 30 ad cy D mE p s m args meth c) {a0 : Int32} {a1 : Int32} {I : MI} {J : MJ} {H : Heap} {locs : List Loc} {ls : Array Slot} (h : P_X12_share a0 a1 I J Q) (hw : gH (mS ad cy) 30 ad D s I J H locs) (hl : lv_has ls 9 [(0, .ref (ad 0)), (1, .int a0), (2, .int a1)]) : W p l e rmX12_share s m args below meth c H locs 0 0 (MQ below (gQl (mS ad cy) 30 ad cy D mE Q) args s 0 0 (gA 30 ad)) (F0 m 0 ls []) := by
  obtain ⟨hx, hb, hC⟩ := id C
  refine lv_aload_n hx hb dX12_share_0 rfl (lv_at hl 0 rfl) ?_
  refine lv_iload_n hx hb dX12_share_1 rfl (lv_at hl 1 rfl) ?_
  refine g_cz hw (g_rV [.int a0] [] C hw (m_X12_isWord h) k_X12_isWord q_RX12_243 ml_0 (ms_0 _ _) rfl rfl hl.1 rfl (Nat.le_of_ble_eq_true rfl) ⟨⟨rfl, rfl⟩, Nat.le_of_ble_eq_true rfl, Nat.le_of_ble_eq_true rfl⟩ ⟨Nat.zero_le _, Nat.zero_le _⟩ dX12_share_2) (fun r2 I2 J2 H locs z2 h hw => ?_)
  refine lv_if_ne (tgt := 12) hx hb dX12_share_5 (by decide) (fun c5 => ?_) (fun c5 => ?_)
  · have h := h.1 c5
    refine lv_aload_n hx hb dX12_share_12 rfl (lv_at hl 0 rfl) ?_
    refine g_ci hw (g_rV [] [] C hw (m_X12_unbarred h) k_X12_unbarred q_RX12_333 ml_0 (ms_0 _ _) rfl rfl hl.1 rfl (Nat.le_of_ble_eq_true rfl) ⟨⟨rfl, rfl⟩, Nat.le_of_ble_eq_true rfl, Nat.le_of_ble_eq_true rfl⟩ ⟨Nat.zero_le _, Nat.zero_le _⟩ dX12_share_13) (fun r13 I13 J13 H locs h hw => ?_)
    refine lv_istore_n (lv' := [(3, .int r13), (0, .ref (ad 0)), (1, .int a0), (2, .int a1)]) hx hb dX12_share_16 rfl hl (by decide) rfl (fun ls hl => ?_)
    refine lv_aload_n hx hb dX12_share_17 rfl (lv_at hl 1 rfl) ?_
    refine g_get C hw f_RX12_25 ml_0 (ms_0 _ _) rfl dX12_share_18 ?_
    refine lv_bipush (v := 8) hx hb dX12_share_21 (by decide) ?_
    refine g_iald C hw ml_6 ms_6 h.1 dX12_share_23 ?_
    have h := h.2
    refine lv_iload_n hx hb dX12_share_24 rfl (lv_at hl 2 rfl) ?_
    refine g_cz hw (g_rS [.int (I13 6 (8 : Int32).toNatClampNeg), .int a0] [] C hw (m_X12_has h) k_X12_has q_RX12_149 rfl hl.1 rfl (Nat.le_of_ble_eq_true rfl) ⟨⟨rfl, rfl⟩, Nat.le_of_ble_eq_true rfl, Nat.le_of_ble_eq_true rfl⟩ ⟨Nat.zero_le _, Nat.zero_le _⟩ dX12_share_25) (fun r25 I25 J25 H locs z25 h hw => ?_)
    refine lv_if_ne (tgt := 37) hx hb dX12_share_28 (by decide) (fun c28 => ?_) (fun c28 => ?_)
    · have h := h.1 c28
      exact w_X12_share_37 C  h hw (lv_sub hl [] rfl)
    · have h := h.2 c28
      refine lv_iload_n hx hb dX12_share_31 rfl (lv_at hl 0 rfl) ?_
      refine lv_bipush (v := 8) hx hb dX12_share_32 (by decide) ?_
      refine lv_icmp_le (tgt := 41) hx hb dX12_share_34 (by decide) (fun c34 => ?_) (fun c34 => ?_)
      · have h := h.1 c34
        refine lv_aload_n hx hb dX12_share_41 rfl (lv_at hl 1 rfl) ?_
        refine g_cv hw (g_rV [] [] C hw (m_X12_layWorth h) k_X12_layWorth q_RX12_341 ml_0 (ms_0 _ _) rfl rfl hl.1 rfl (Nat.le_of_ble_eq_true rfl) ⟨⟨rfl, rfl⟩, Nat.le_of_ble_eq_true rfl, Nat.le_of_ble_eq_true rfl⟩ ⟨Nat.zero_le _, Nat.zero_le _⟩ dX12_share_42) (fun I42 J42 H locs h hw => ?_)
        refine lv_lconst (v := 0) hx hb dX12_share_45 (by decide) ?_
        refine lv_lstore (lv' := [(4, .long (0 : Int64)), (3, .int r13), (0, .ref (ad 0)), (1, .int a0), (2, .int a1)]) hx hb dX12_share_46 hl (by decide) rfl (fun ls hl => ?_)
        refine lv_iconst (v := 0) hx hb dX12_share_48 (by decide) ?_
        refine lv_istore (lv' := [(6, .int (0 : Int32)), (4, .long (0 : Int64)), (3, .int r13), (0, .ref (ad 0)), (1, .int a0), (2, .int a1)]) hx hb dX12_share_49 hl (by decide) rfl (fun ls hl => ?_)
        exact wl_X12_share_51 C  h hw (lv_sub hl [3, 4, 5, 2, 1, 0] rfl)
      · have h := h.2 c34
        exact w_X12_share_37 C  h hw (lv_sub hl [] rfl)
  · have h := h.2 c5
    refine lv_ldc2 (v := (-1)) hx hb hC.2.2.1 (hC.2.2.2.1 _ q_RX12_276) dX12_share_8 ?_
    exact g_lret C hw h dX12_share_11
theorem m_X12_share {l : Launch} {a0 : Int32} {a1 : Int32} {Q : Int64 → MI → MJ → Prop} {I : MI} {J : MJ} (h : P_X12_share a0 a1 I J Q) : Met l yX12_share (xws yX12_share cX12_share 9 (some .long)) rmX12_share (va_Pc [.ref (ad 0), .int a0, .int a1] (gB (mS ad cy) 30 ad cy D mE I J)) (gQl (mS ad cy) 30 ad cy D mE Q) 0 0 (gA 30 ad) :=
  g_met (mE_ok ad) rfl (by decide) (Nat.le_of_ble_eq_true rfl) (fun p e s m below meth c ls C hw hl => w_X12_share C  h hw hl)
/-! BagPhrasesModel.power(II)I -/
def P_X12_power_4 (Q : Int32 → MI → MJ → Prop) (kL4 : Int32 × Int32 × Int32 × Int32 × MI × MJ → Prop) : Int32 × Int32 × Int32 × Int32 × MI × MJ → Prop := fun z => match z with
  | (x0, x1, x2, x3, I, J) => ((x1 ≤ x3 → Q x2 I J) ∧ (¬ x1 ≤ x3 → kL4 (x0, x1, (x2 * x0), (x3 + 1), I, J)))
def P_X12_power (a0 : Int32) (a1 : Int32) (I : MI) (J : MJ) (Q : Int32 → MI → MJ → Prop) : Prop :=
  lpx (P_X12_power_4 Q) (a0, a1, (1 : Int32), (0 : Int32), I, J)
abbrev rmX12_power : Room := { frames := 0, cells := 0, slots := 0, locals := 0 }
set_option maxHeartbeats 4000000 in
set_option maxRecDepth 100000 in
theorem w_X12_power_4 {Q : Int32 → MI → MJ → Prop} (C : gC RX12 cX12_power 4 (some .int) 30 ad cy D mE p s m args meth c) {kL4 : Int32 × Int32 × Int32 × Int32 × MI × MJ → Prop} (hL4 : ∀ {x0 : Int32} {x1 : Int32} {x2 : Int32} {x3 : Int32} {I : MI} {J : MJ} {H : Heap} {locs : List Loc} {ls : Array Slot}, kL4 (x0, x1, x2, x3, I, J) → gH (mS ad cy) 30 ad D s I J H locs → lv_has ls 4 [(0, .int x0), (1, .int x1), (2, .int x2), (3, .int x3)] → W p l e rmX12_power s m args below meth c H locs 0 0 (MQ below (gQi (mS ad cy) 30 ad cy D mE Q) args s 0 0 (gA 30 ad)) (F0 m 4 ls [])) {x0 : Int32} {x1 : Int32} {x2 : Int32} {x3 : Int32} {I : MI} {J : MJ} {H : Heap} {locs : List Loc} {ls : Array Slot} (h : P_X12_power_4 Q kL4 (x0, x1, x2, x3, I, J)) (hw : gH (mS ad cy) 30 ad D s I J H locs) (hl : lv_has ls 4 [(0, .int x0), (1, .int x1), (2, .int x2), (3, .int x3)]) : W p l e rmX12_power s m args below meth c H locs 0 0 (MQ below (gQi (mS ad cy) 30 ad cy D mE Q) args s 0 0 (gA 30 ad)) (F0 m 4 ls []) := by
  obtain ⟨hx, hb, hC⟩ := id C
  refine lv_iload_n hx hb dX12_power_4 rfl (lv_at hl 3 rfl) ?_
  refine lv_iload_n hx hb dX12_power_5 rfl (lv_at hl 1 rfl) ?_
  refine lv_icmp_ge (tgt := 19) hx hb dX12_power_6 (by decide) (fun c6 => ?_) (fun c6 => ?_)
  · have h := h.1 c6
    refine lv_iload_n hx hb dX12_power_19 rfl (lv_at hl 2 rfl) ?_
    exact g_iret C hw h dX12_power_20
  · have h := h.2 c6
    refine lv_iload_n hx hb dX12_power_9 rfl (lv_at hl 2 rfl) ?_
    refine lv_iload_n hx hb dX12_power_10 rfl (lv_at hl 0 rfl) ?_
    refine lv_imul hx hb dX12_power_11 ?_
    refine lv_istore_n (lv' := [(2, .int (x2 * x0)), (0, .int x0), (1, .int x1), (3, .int x3)]) hx hb dX12_power_12 rfl hl (by decide) rfl (fun ls hl => ?_)
    refine lv_iinc (v := x3 + 1) (lv' := [(3, .int (x3 + 1)), (2, .int (x2 * x0)), (0, .int x0), (1, .int x1)]) hx hb dX12_power_13 hl (k := 3) rfl rfl (by decide) rfl (fun ls hl => ?_)
    refine lv_goto (tgt := 4) hx hb dX12_power_16 (by decide) ?_
    exact hL4 h hw (lv_sub hl [2, 3, 1, 0] rfl)
theorem wl_X12_power_4 {Q : Int32 → MI → MJ → Prop} (C : gC RX12 cX12_power 4 (some .int) 30 ad cy D mE p s m args meth c) {x0 : Int32} {x1 : Int32} {x2 : Int32} {x3 : Int32} {I : MI} {J : MJ} {H : Heap} {locs : List Loc} {ls : Array Slot} (h : lpx (P_X12_power_4 Q) (x0, x1, x2, x3, I, J)) (hw : gH (mS ad cy) 30 ad D s I J H locs) (hl : lv_has ls 4 [(0, .int x0), (1, .int x1), (2, .int x2), (3, .int x3)]) : W p l e rmX12_power s m args below meth c H locs 0 0 (MQ below (gQi (mS ad cy) 30 ad cy D mE Q) args s 0 0 (gA 30 ad)) (F0 m 4 ls []) := by
  obtain ⟨n, h⟩ := h
  induction n generalizing x0 x1 x2 x3 I J H locs ls with
  | zero => exact False.elim h
  | succ n ih => exact w_X12_power_4 C  (fun hk9 hw9 hl9 => ih hw9 hl9 hk9) h hw hl
set_option maxHeartbeats 4000000 in
set_option maxRecDepth 100000 in
theorem w_X12_power {Q : Int32 → MI → MJ → Prop} (C : gC RX12 cX12_power 4 (some .int) 30 ad cy D mE p s m args meth c) {a0 : Int32} {a1 : Int32} {I : MI} {J : MJ} {H : Heap} {locs : List Loc} {ls : Array Slot} (h : P_X12_power a0 a1 I J Q) (hw : gH (mS ad cy) 30 ad D s I J H locs) (hl : lv_has ls 4 [(0, .int a0), (1, .int a1)]) : W p l e rmX12_power s m args below meth c H locs 0 0 (MQ below (gQi (mS ad cy) 30 ad cy D mE Q) args s 0 0 (gA 30 ad)) (F0 m 0 ls []) := by
  obtain ⟨hx, hb, hC⟩ := id C
  refine lv_iconst (v := 1) hx hb dX12_power_0 (by decide) ?_
  refine lv_istore_n (lv' := [(2, .int (1 : Int32)), (0, .int a0), (1, .int a1)]) hx hb dX12_power_1 rfl hl (by decide) rfl (fun ls hl => ?_)
  refine lv_iconst (v := 0) hx hb dX12_power_2 (by decide) ?_
  refine lv_istore_n (lv' := [(3, .int (0 : Int32)), (2, .int (1 : Int32)), (0, .int a0), (1, .int a1)]) hx hb dX12_power_3 rfl hl (by decide) rfl (fun ls hl => ?_)
  exact wl_X12_power_4 C  h hw (lv_sub hl [2, 3, 1, 0] rfl)
theorem m_X12_power {l : Launch} {a0 : Int32} {a1 : Int32} {Q : Int32 → MI → MJ → Prop} {I : MI} {J : MJ} (h : P_X12_power a0 a1 I J Q) : Met l yX12_power (xws yX12_power cX12_power 4 (some .int)) rmX12_power (va_Pc [.int a0, .int a1] (gB (mS ad cy) 30 ad cy D mE I J)) (gQi (mS ad cy) 30 ad cy D mE Q) 0 0 (gA 30 ad) :=
  g_met (mE_ok ad) rfl (by decide) (Nat.le_of_ble_eq_true rfl) (fun p e s m below meth c ls C hw hl => w_X12_power C  h hw hl)
/-! BagPhrasesModel.hope(IZ)I -/
def P_X12_hope_89 (Q : Int32 → MI → MJ → Prop) (kL39 : Int32 × Int32 × Int32 × Int32 × Int32 × MI × MJ → Prop) (x1 : Int32) (x2 : Int32) (x3 : Int32) (x5 : Int32) (s0 : Int32) (s1 : Int32) (I : MI) (J : MJ) : Prop :=
  kL39 (x1, x2, x3, (s0 + s1), (x5 + 1), I, J)
def P_X12_hope_39 (Q : Int32 → MI → MJ → Prop) (kL39 : Int32 × Int32 × Int32 × Int32 × Int32 × MI × MJ → Prop) : Int32 × Int32 × Int32 × Int32 × Int32 × MI × MJ → Prop := fun z => match z with
  | (x1, x2, x3, x4, x5, I, J) => ((((1 : Int32) <<< (x3 &&& 31)) ≤ x5 → P_X12_power (10 : Int32) x3 I J (fun r104 I104 J104 => P_X12_fraction x4.toInt64 r104.toInt64 x2 I104 J104 (fun r109 I109 J109 => Q r109.toInt32 I109 J109))) ∧ (¬ ((1 : Int32) <<< (x3 &&& 31)) ≤ x5 → vp_in x5 256 ∧ ((((J 29 x5.toNatClampNeg) ≤ (0 : Int64) → P_X12_hope_89 Q kL39 x1 x2 x3 x5 x4 (0 : Int32) I J) ∧ (¬ (J 29 x5.toNatClampNeg) ≤ (0 : Int64) → P_X12_ones x5 I J (fun r67 I67 J67 => P_X12_power ((10 : Int32) - x1) r67 I67 J67 (fun r70 I70 J70 => P_X12_ones x5 I70 J70 (fun r77 I77 J77 => P_X12_power x1 (x3 - r77) I77 J77 (fun r81 I81 J81 => P_X12_hope_89 Q kL39 x1 x2 x3 x5 x4 (r70 * r81) I81 J81)))))))))
def P_X12_hope (a0 : Int32) (a1 : Int32) (I : MI) (J : MJ) (Q : Int32 → MI → MJ → Prop) : Prop :=
  P_X12_in a0.toInt64 (0 : Int64) (10 : Int64) I J (fun r6 I6 J6 => ((¬ r6 = 0 → P_X12_unbarred I6 J6 (fun r16 I16 J16 => ((r16 ≤ (8 : Int32) → P_X12_layWorth I16 J16 (fun I30 J30 => lpx (P_X12_hope_39 Q) (a0, a1, r16, (0 : Int32), (0 : Int32), I30, J30))) ∧ (¬ r16 ≤ (8 : Int32) → Q (-3 : Int32) I16 J16)))) ∧ (r6 = 0 → Q (-2 : Int32) I6 J6)))
abbrev rmX12_hope : Room := { frames := 4, cells := 0, slots := 0, locals := 91 }
set_option maxHeartbeats 4000000 in
set_option maxRecDepth 100000 in
theorem w_X12_hope_89 {Q : Int32 → MI → MJ → Prop} (C : gC RX12 cX12_hope 6 (some .int) 30 ad cy D mE p s m args meth c) {kL39 : Int32 × Int32 × Int32 × Int32 × Int32 × MI × MJ → Prop} (hL39 : ∀ {x1 : Int32} {x2 : Int32} {x3 : Int32} {x4 : Int32} {x5 : Int32} {I : MI} {J : MJ} {H : Heap} {locs : List Loc} {ls : Array Slot}, kL39 (x1, x2, x3, x4, x5, I, J) → gH (mS ad cy) 30 ad D s I J H locs → lv_has ls 6 [(0, .ref (ad 0)), (1, .int x1), (2, .int x2), (3, .int x3), (4, .int x4), (5, .int x5)] → W p l e rmX12_hope s m args below meth c H locs 0 0 (MQ below (gQi (mS ad cy) 30 ad cy D mE Q) args s 0 0 (gA 30 ad)) (F0 m 39 ls [])) {x1 : Int32} {x2 : Int32} {x3 : Int32} {x5 : Int32} {s0 : Int32} {s1 : Int32} {I : MI} {J : MJ} {H : Heap} {locs : List Loc} {ls : Array Slot} (h : P_X12_hope_89 Q kL39 x1 x2 x3 x5 s0 s1 I J) (hw : gH (mS ad cy) 30 ad D s I J H locs) (hl : lv_has ls 6 [(0, .ref (ad 0)), (1, .int x1), (2, .int x2), (3, .int x3), (5, .int x5)]) : W p l e rmX12_hope s m args below meth c H locs 0 0 (MQ below (gQi (mS ad cy) 30 ad cy D mE Q) args s 0 0 (gA 30 ad)) (F0 m 89 ls [.int s1, .int s0]) := by
  obtain ⟨hx, hb, hC⟩ := id C
  refine lv_iadd hx hb dX12_hope_89 ?_
  refine lv_istore (lv' := [(4, .int (s0 + s1)), (0, .ref (ad 0)), (1, .int x1), (2, .int x2), (3, .int x3), (5, .int x5)]) hx hb dX12_hope_90 hl (by decide) rfl (fun ls hl => ?_)
  refine lv_iinc (v := x5 + 1) (lv' := [(5, .int (x5 + 1)), (4, .int (s0 + s1)), (0, .ref (ad 0)), (1, .int x1), (2, .int x2), (3, .int x3)]) hx hb dX12_hope_92 hl (k := 5) rfl rfl (by decide) rfl (fun ls hl => ?_)
  refine lv_goto (tgt := 39) hx hb dX12_hope_95 (by decide) ?_
  exact hL39 h hw (lv_sub hl [2, 3, 4, 5, 1, 0] rfl)
set_option maxHeartbeats 4000000 in
set_option maxRecDepth 100000 in
theorem w_X12_hope_39 {Q : Int32 → MI → MJ → Prop} (C : gC RX12 cX12_hope 6 (some .int) 30 ad cy D mE p s m args meth c) {kL39 : Int32 × Int32 × Int32 × Int32 × Int32 × MI × MJ → Prop} (hL39 : ∀ {x1 : Int32} {x2 : Int32} {x3 : Int32} {x4 : Int32} {x5 : Int32} {I : MI} {J : MJ} {H : Heap} {locs : List Loc} {ls : Array Slot}, kL39 (x1, x2, x3, x4, x5, I, J) → gH (mS ad cy) 30 ad D s I J H locs → lv_has ls 6 [(0, .ref (ad 0)), (1, .int x1), (2, .int x2), (3, .int x3), (4, .int x4), (5, .int x5)] → W p l e rmX12_hope s m args below meth c H locs 0 0 (MQ below (gQi (mS ad cy) 30 ad cy D mE Q) args s 0 0 (gA 30 ad)) (F0 m 39 ls [])) {x1 : Int32} {x2 : Int32} {x3 : Int32} {x4 : Int32} {x5 : Int32} {I : MI} {J : MJ} {H : Heap} {locs : List Loc} {ls : Array Slot} (h : P_X12_hope_39 Q kL39 (x1, x2, x3, x4, x5, I, J)) (hw : gH (mS ad cy) 30 ad D s I J H locs) (hl : lv_has ls 6 [(0, .ref (ad 0)), (1, .int x1), (2, .int x2), (3, .int x3), (4, .int x4), (5, .int x5)]) : W p l e rmX12_hope s m args below meth c H locs 0 0 (MQ below (gQi (mS ad cy) 30 ad cy D mE Q) args s 0 0 (gA 30 ad)) (F0 m 39 ls []) := by
  obtain ⟨hx, hb, hC⟩ := id C
  refine lv_iload hx hb dX12_hope_39 (lv_at hl 5 rfl) ?_
  refine lv_iconst (v := 1) hx hb dX12_hope_41 (by decide) ?_
  refine lv_iload_n hx hb dX12_hope_42 rfl (lv_at hl 3 rfl) ?_
  refine lv_ishl hx hb dX12_hope_43 ?_
  refine lv_icmp_ge (tgt := 98) hx hb dX12_hope_44 (by decide) (fun c44 => ?_) (fun c44 => ?_)
  · have h := h.1 c44
    refine lv_iload hx hb dX12_hope_98 (lv_at hl 4 rfl) ?_
    refine lv_i2l hx hb dX12_hope_100 rfl ?_
    refine lv_bipush (v := 10) hx hb dX12_hope_101 (by decide) ?_
    refine lv_iload_n hx hb dX12_hope_103 rfl (lv_at hl 3 rfl) ?_
    refine g_ci hw (g_rS [.int (10 : Int32), .int x3] [.long x4.toInt64] C hw (m_X12_power h) k_X12_power q_RX12_356 rfl hl.1 rfl (Nat.le_of_ble_eq_true rfl) ⟨⟨rfl, rfl⟩, Nat.le_of_ble_eq_true rfl, Nat.le_of_ble_eq_true rfl⟩ ⟨Nat.zero_le _, Nat.zero_le _⟩ dX12_hope_104) (fun r104 I104 J104 H locs h hw => ?_)
    refine lv_i2l hx hb dX12_hope_107 rfl ?_
    refine lv_iload_n hx hb dX12_hope_108 rfl (lv_at hl 2 rfl) ?_
    refine g_cl hw (g_rS [.long x4.toInt64, .long r104.toInt64, .int x2] [] C hw (m_X12_fraction h) k_X12_fraction q_RX12_350 rfl hl.1 rfl (Nat.le_of_ble_eq_true rfl) ⟨⟨rfl, rfl⟩, Nat.le_of_ble_eq_true rfl, Nat.le_of_ble_eq_true rfl⟩ ⟨Nat.zero_le _, Nat.zero_le _⟩ dX12_hope_109) (fun r109 I109 J109 H locs h hw => ?_)
    refine lv_l2i hx hb dX12_hope_112 rfl ?_
    exact g_iret C hw h dX12_hope_113
  · have h := h.2 c44
    refine lv_iload hx hb dX12_hope_47 (lv_at hl 4 rfl) ?_
    refine lv_aload_n hx hb dX12_hope_49 rfl (lv_at hl 0 rfl) ?_
    refine g_get C hw f_RX12_96 ml_0 (ms_0 _ _) rfl dX12_hope_50 ?_
    refine lv_iload hx hb dX12_hope_53 (lv_at hl 5 rfl) ?_
    refine g_lald C hw ml_29 ms_29 h.1 dX12_hope_55 ?_
    have h := h.2
    refine lv_lconst (v := 0) hx hb dX12_hope_56 (by decide) ?_
    refine g_lcmp_le (tgt := 88) hx hb dX12_hope_57 dX12_hope_58 (by decide) (fun c57 => ?_) (fun c57 => ?_)
    · have h := h.1 c57
      refine lv_iconst (v := 0) hx hb dX12_hope_88 (by decide) ?_
      exact w_X12_hope_89 C hL39 h hw (lv_sub hl [0, 1, 2, 3, 5] rfl)
    · have h := h.2 c57
      refine lv_bipush (v := 10) hx hb dX12_hope_61 (by decide) ?_
      refine lv_iload_n hx hb dX12_hope_63 rfl (lv_at hl 1 rfl) ?_
      refine lv_isub hx hb dX12_hope_64 ?_
      refine lv_iload hx hb dX12_hope_65 (lv_at hl 5 rfl) ?_
      refine g_ci hw (g_rS [.int x5] [.int ((10 : Int32) - x1), .int x4] C hw (m_X12_ones h) k_X12_ones q_RX12_330 rfl hl.1 rfl (Nat.le_of_ble_eq_true rfl) ⟨⟨rfl, rfl⟩, Nat.le_of_ble_eq_true rfl, Nat.le_of_ble_eq_true rfl⟩ ⟨Nat.zero_le _, Nat.zero_le _⟩ dX12_hope_67) (fun r67 I67 J67 H locs h hw => ?_)
      refine g_ci hw (g_rS [.int ((10 : Int32) - x1), .int r67] [.int x4] C hw (m_X12_power h) k_X12_power q_RX12_356 rfl hl.1 rfl (Nat.le_of_ble_eq_true rfl) ⟨⟨rfl, rfl⟩, Nat.le_of_ble_eq_true rfl, Nat.le_of_ble_eq_true rfl⟩ ⟨Nat.zero_le _, Nat.zero_le _⟩ dX12_hope_70) (fun r70 I70 J70 H locs h hw => ?_)
      refine lv_iload_n hx hb dX12_hope_73 rfl (lv_at hl 1 rfl) ?_
      refine lv_iload_n hx hb dX12_hope_74 rfl (lv_at hl 3 rfl) ?_
      refine lv_iload hx hb dX12_hope_75 (lv_at hl 5 rfl) ?_
      refine g_ci hw (g_rS [.int x5] [.int x3, .int x1, .int r70, .int x4] C hw (m_X12_ones h) k_X12_ones q_RX12_330 rfl hl.1 rfl (Nat.le_of_ble_eq_true rfl) ⟨⟨rfl, rfl⟩, Nat.le_of_ble_eq_true rfl, Nat.le_of_ble_eq_true rfl⟩ ⟨Nat.zero_le _, Nat.zero_le _⟩ dX12_hope_77) (fun r77 I77 J77 H locs h hw => ?_)
      refine lv_isub hx hb dX12_hope_80 ?_
      refine g_ci hw (g_rS [.int x1, .int (x3 - r77)] [.int r70, .int x4] C hw (m_X12_power h) k_X12_power q_RX12_356 rfl hl.1 rfl (Nat.le_of_ble_eq_true rfl) ⟨⟨rfl, rfl⟩, Nat.le_of_ble_eq_true rfl, Nat.le_of_ble_eq_true rfl⟩ ⟨Nat.zero_le _, Nat.zero_le _⟩ dX12_hope_81) (fun r81 I81 J81 H locs h hw => ?_)
      refine lv_imul hx hb dX12_hope_84 ?_
      refine lv_goto (tgt := 89) hx hb dX12_hope_85 (by decide) ?_
      exact w_X12_hope_89 C hL39 h hw (lv_sub hl [0, 1, 2, 3, 5] rfl)
theorem wl_X12_hope_39 {Q : Int32 → MI → MJ → Prop} (C : gC RX12 cX12_hope 6 (some .int) 30 ad cy D mE p s m args meth c) {x1 : Int32} {x2 : Int32} {x3 : Int32} {x4 : Int32} {x5 : Int32} {I : MI} {J : MJ} {H : Heap} {locs : List Loc} {ls : Array Slot} (h : lpx (P_X12_hope_39 Q) (x1, x2, x3, x4, x5, I, J)) (hw : gH (mS ad cy) 30 ad D s I J H locs) (hl : lv_has ls 6 [(0, .ref (ad 0)), (1, .int x1), (2, .int x2), (3, .int x3), (4, .int x4), (5, .int x5)]) : W p l e rmX12_hope s m args below meth c H locs 0 0 (MQ below (gQi (mS ad cy) 30 ad cy D mE Q) args s 0 0 (gA 30 ad)) (F0 m 39 ls []) := by
  obtain ⟨n, h⟩ := h
  induction n generalizing x1 x2 x3 x4 x5 I J H locs ls with
  | zero => exact False.elim h
  | succ n ih => exact w_X12_hope_39 C  (fun hk9 hw9 hl9 => ih hw9 hl9 hk9) h hw hl
set_option maxHeartbeats 4000000 in
set_option maxRecDepth 100000 in
theorem w_X12_hope {Q : Int32 → MI → MJ → Prop} (C : gC RX12 cX12_hope 6 (some .int) 30 ad cy D mE p s m args meth c) {a0 : Int32} {a1 : Int32} {I : MI} {J : MJ} {H : Heap} {locs : List Loc} {ls : Array Slot} (h : P_X12_hope a0 a1 I J Q) (hw : gH (mS ad cy) 30 ad D s I J H locs) (hl : lv_has ls 6 [(0, .ref (ad 0)), (1, .int a0), (2, .int a1)]) : W p l e rmX12_hope s m args below meth c H locs 0 0 (MQ below (gQi (mS ad cy) 30 ad cy D mE Q) args s 0 0 (gA 30 ad)) (F0 m 0 ls []) := by
  obtain ⟨hx, hb, hC⟩ := id C
  refine lv_iload_n hx hb dX12_hope_0 rfl (lv_at hl 1 rfl) ?_
  refine lv_i2l hx hb dX12_hope_1 rfl ?_
  refine lv_lconst (v := 0) hx hb dX12_hope_2 (by decide) ?_
  refine lv_ldc2 (v := (10)) hx hb hC.2.2.1 (hC.2.2.2.1 _ q_RX12_354) dX12_hope_3 ?_
  refine g_cz hw (g_rS [.long a0.toInt64, .long (0 : Int64), .long (10 : Int64)] [] C hw (m_X12_in h) k_X12_in q_RX12_107 rfl hl.1 rfl (Nat.le_of_ble_eq_true rfl) ⟨⟨rfl, rfl⟩, Nat.le_of_ble_eq_true rfl, Nat.le_of_ble_eq_true rfl⟩ ⟨Nat.zero_le _, Nat.zero_le _⟩ dX12_hope_6) (fun r6 I6 J6 H locs z6 h hw => ?_)
  refine lv_if_ne (tgt := 15) hx hb dX12_hope_9 (by decide) (fun c9 => ?_) (fun c9 => ?_)
  · have h := h.1 c9
    refine lv_aload_n hx hb dX12_hope_15 rfl (lv_at hl 0 rfl) ?_
    refine g_ci hw (g_rV [] [] C hw (m_X12_unbarred h) k_X12_unbarred q_RX12_333 ml_0 (ms_0 _ _) rfl rfl hl.1 rfl (Nat.le_of_ble_eq_true rfl) ⟨⟨rfl, rfl⟩, Nat.le_of_ble_eq_true rfl, Nat.le_of_ble_eq_true rfl⟩ ⟨Nat.zero_le _, Nat.zero_le _⟩ dX12_hope_16) (fun r16 I16 J16 H locs h hw => ?_)
    refine lv_istore_n (lv' := [(3, .int r16), (0, .ref (ad 0)), (1, .int a0), (2, .int a1)]) hx hb dX12_hope_19 rfl hl (by decide) rfl (fun ls hl => ?_)
    refine lv_iload_n hx hb dX12_hope_20 rfl (lv_at hl 0 rfl) ?_
    refine lv_bipush (v := 8) hx hb dX12_hope_21 (by decide) ?_
    refine lv_icmp_le (tgt := 29) hx hb dX12_hope_23 (by decide) (fun c23 => ?_) (fun c23 => ?_)
    · have h := h.1 c23
      refine lv_aload_n hx hb dX12_hope_29 rfl (lv_at hl 1 rfl) ?_
      refine g_cv hw (g_rV [] [] C hw (m_X12_layWorth h) k_X12_layWorth q_RX12_341 ml_0 (ms_0 _ _) rfl rfl hl.1 rfl (Nat.le_of_ble_eq_true rfl) ⟨⟨rfl, rfl⟩, Nat.le_of_ble_eq_true rfl, Nat.le_of_ble_eq_true rfl⟩ ⟨Nat.zero_le _, Nat.zero_le _⟩ dX12_hope_30) (fun I30 J30 H locs h hw => ?_)
      refine lv_iconst (v := 0) hx hb dX12_hope_33 (by decide) ?_
      refine lv_istore (lv' := [(4, .int (0 : Int32)), (3, .int r16), (0, .ref (ad 0)), (1, .int a0), (2, .int a1)]) hx hb dX12_hope_34 hl (by decide) rfl (fun ls hl => ?_)
      refine lv_iconst (v := 0) hx hb dX12_hope_36 (by decide) ?_
      refine lv_istore (lv' := [(5, .int (0 : Int32)), (4, .int (0 : Int32)), (3, .int r16), (0, .ref (ad 0)), (1, .int a0), (2, .int a1)]) hx hb dX12_hope_37 hl (by decide) rfl (fun ls hl => ?_)
      exact wl_X12_hope_39 C  h hw (lv_sub hl [3, 4, 5, 2, 1, 0] rfl)
    · have h := h.2 c23
      refine lv_bipush (v := -3) hx hb dX12_hope_26 (by decide) ?_
      exact g_iret C hw h dX12_hope_28
  · have h := h.2 c9
    refine lv_bipush (v := -2) hx hb dX12_hope_12 (by decide) ?_
    exact g_iret C hw h dX12_hope_14
theorem m_X12_hope {l : Launch} {a0 : Int32} {a1 : Int32} {Q : Int32 → MI → MJ → Prop} {I : MI} {J : MJ} (h : P_X12_hope a0 a1 I J Q) : Met l yX12_hope (xws yX12_hope cX12_hope 6 (some .int)) rmX12_hope (va_Pc [.ref (ad 0), .int a0, .int a1] (gB (mS ad cy) 30 ad cy D mE I J)) (gQi (mS ad cy) 30 ad cy D mE Q) 0 0 (gA 30 ad) :=
  g_met (mE_ok ad) rfl (by decide) (Nat.le_of_ble_eq_true rfl) (fun p e s m below meth c ls C hw hl => w_X12_hope C  h hw hl)
/-! BagPhrasesModel.seed(J)J -/
def P_X12_seed (a0 : Int64) (I : MI) (J : MJ) (Q : Int64 → MI → MJ → Prop) : Prop :=
  (∀ J7 : MJ, J7 = mJ J 0 20 a0 → Q (J 0 20) I J7)
abbrev rmX12_seed : Room := { frames := 0, cells := 0, slots := 0, locals := 0 }
set_option maxHeartbeats 4000000 in
set_option maxRecDepth 100000 in
theorem w_X12_seed {Q : Int64 → MI → MJ → Prop} (C : gC RX12 cX12_seed 5 (some .long) 30 ad cy D mE p s m args meth c) {a0 : Int64} {I : MI} {J : MJ} {H : Heap} {locs : List Loc} {ls : Array Slot} (h : P_X12_seed a0 I J Q) (hw : gH (mS ad cy) 30 ad D s I J H locs) (hl : lv_has ls 5 [(0, .ref (ad 0)), (1, .long a0)]) : W p l e rmX12_seed s m args below meth c H locs 0 0 (MQ below (gQl (mS ad cy) 30 ad cy D mE Q) args s 0 0 (gA 30 ad)) (F0 m 0 ls []) := by
  obtain ⟨hx, hb, hC⟩ := id C
  refine lv_aload_n hx hb dX12_seed_0 rfl (lv_at hl 0 rfl) ?_
  refine g_get C hw f_RX12_359 ml_0 (ms_0 _ _) rfl dX12_seed_1 ?_
  refine lv_lstore_n (lv' := [(3, .long (J 0 20)), (0, .ref (ad 0)), (1, .long a0)]) hx hb dX12_seed_4 rfl hl (by decide) rfl (fun ls hl => ?_)
  refine lv_aload_n hx hb dX12_seed_5 rfl (lv_at hl 1 rfl) ?_
  refine lv_lload_n hx hb dX12_seed_6 rfl (lv_at hl 2 rfl) ?_
  refine g_putJ C hw fp_RX12_359 ml_0 ms_0 (st_11_20 ad _) (Nat.le_of_ble_eq_true rfl) dX12_seed_7 (fun H locs hw => ?_)
  obtain ⟨J7, e7⟩ : ∃ z : MJ, z = mJ J 0 20 a0 := ⟨_, rfl⟩
  have h := h J7 e7
  rw [← e7] at hw
  refine lv_lload_n hx hb dX12_seed_10 rfl (lv_at hl 0 rfl) ?_
  exact g_lret C hw h dX12_seed_11
theorem m_X12_seed {l : Launch} {a0 : Int64} {Q : Int64 → MI → MJ → Prop} {I : MI} {J : MJ} (h : P_X12_seed a0 I J Q) : Met l yX12_seed (xws yX12_seed cX12_seed 5 (some .long)) rmX12_seed (va_Pc [.ref (ad 0), .long a0] (gB (mS ad cy) 30 ad cy D mE I J)) (gQl (mS ad cy) 30 ad cy D mE Q) 0 0 (gA 30 ad) :=
  g_met (mE_ok ad) rfl (by decide) (Nat.le_of_ble_eq_true rfl) (fun p e s m below meth c ls C hw hl => w_X12_seed C  h hw hl)
/-! BagPhrasesModel.drawn(I)I -/
def P_X12_drawn_81 (Q : Int32 → MI → MJ → Prop) (kL30 : Int32 × Int64 × Int32 × Int32 × MI × MJ → Prop) (x1 : Int32) (x2 : Int64) (x5 : Int32) (s0 : Int32) (s1 : Int32) (I : MI) (J : MJ) : Prop :=
  kL30 (x1, x2, (s0 + s1), (x5 + 1), I, J)
def P_X12_drawn_30 (Q : Int32 → MI → MJ → Prop) (kL30 : Int32 × Int64 × Int32 × Int32 × MI × MJ → Prop) : Int32 × Int64 × Int32 × Int32 × MI × MJ → Prop := fun z => match z with
  | (x1, x2, x4, x5, I, J) => ((x1 ≤ x5 → Q x4 I J) ∧ (¬ x1 ≤ x5 → (∀ J49 : MJ, J49 = mJ J 0 20 (((J 0 20) * (6364136223846793005 : Int64)) + (1442695040888963407 : Int64)) → ((x2 ≤ (0 : Int64) → P_X12_drawn_81 Q kL30 x1 x2 x5 x4 (0 : Int32) I J49) ∧ (¬ x2 ≤ (0 : Int64) → ¬ x2 = 0 ∧ (P_X12_find ((((J49 0 20).toUInt64 >>> ((33 : Int32).toInt64.toUInt64 &&& Int64.toUInt64 63)).toInt64) - (((J49 0 20).toUInt64 >>> ((33 : Int32).toInt64.toUInt64 &&& Int64.toUInt64 63)).toInt64) / x2 * x2) I J49 (fun r71 I71 J71 => P_X12_worthOf r71 I71 J71 (fun r74 I74 J74 => P_X12_drawn_81 Q kL30 x1 x2 x5 x4 r74 I74 J74))))))))
def P_X12_drawn (a0 : Int32) (I : MI) (J : MJ) (Q : Int32 → MI → MJ → Prop) : Prop :=
  P_X12_in a0.toInt64 (1 : Int64) (20 : Int64) I J (fun r6 I6 J6 => ((¬ r6 = 0 → P_X12_manyOf 6 I6 J6 (fun r20 I20 J20 => lpx (P_X12_drawn_30 Q) (a0, r20, (0 : Int32), (0 : Int32), I20, J20))) ∧ (r6 = 0 → Q (-2 : Int32) I6 J6)))
abbrev rmX12_drawn : Room := { frames := 4, cells := 0, slots := 0, locals := 91 }
set_option maxHeartbeats 4000000 in
set_option maxRecDepth 100000 in
theorem w_X12_drawn_81 {Q : Int32 → MI → MJ → Prop} (C : gC RX12 cX12_drawn 6 (some .int) 30 ad cy D mE p s m args meth c) {kL30 : Int32 × Int64 × Int32 × Int32 × MI × MJ → Prop} (hL30 : ∀ {x1 : Int32} {x2 : Int64} {x4 : Int32} {x5 : Int32} {I : MI} {J : MJ} {H : Heap} {locs : List Loc} {ls : Array Slot}, kL30 (x1, x2, x4, x5, I, J) → gH (mS ad cy) 30 ad D s I J H locs → lv_has ls 6 [(0, .ref (ad 0)), (1, .int x1), (2, .long x2), (4, .int x4), (5, .int x5)] → W p l e rmX12_drawn s m args below meth c H locs 0 0 (MQ below (gQi (mS ad cy) 30 ad cy D mE Q) args s 0 0 (gA 30 ad)) (F0 m 30 ls [])) {x1 : Int32} {x2 : Int64} {x5 : Int32} {s0 : Int32} {s1 : Int32} {I : MI} {J : MJ} {H : Heap} {locs : List Loc} {ls : Array Slot} (h : P_X12_drawn_81 Q kL30 x1 x2 x5 s0 s1 I J) (hw : gH (mS ad cy) 30 ad D s I J H locs) (hl : lv_has ls 6 [(0, .ref (ad 0)), (1, .int x1), (2, .long x2), (5, .int x5)]) : W p l e rmX12_drawn s m args below meth c H locs 0 0 (MQ below (gQi (mS ad cy) 30 ad cy D mE Q) args s 0 0 (gA 30 ad)) (F0 m 81 ls [.int s1, .int s0]) := by
  obtain ⟨hx, hb, hC⟩ := id C
  refine lv_iadd hx hb dX12_drawn_81 ?_
  refine lv_istore (lv' := [(4, .int (s0 + s1)), (0, .ref (ad 0)), (1, .int x1), (2, .long x2), (5, .int x5)]) hx hb dX12_drawn_82 hl (by decide) rfl (fun ls hl => ?_)
  refine lv_iinc (v := x5 + 1) (lv' := [(5, .int (x5 + 1)), (4, .int (s0 + s1)), (0, .ref (ad 0)), (1, .int x1), (2, .long x2)]) hx hb dX12_drawn_84 hl (k := 4) rfl rfl (by decide) rfl (fun ls hl => ?_)
  refine lv_goto (tgt := 30) hx hb dX12_drawn_87 (by decide) ?_
  exact hL30 h hw (lv_sub hl [2, 3, 4, 1, 0] rfl)
set_option maxHeartbeats 4000000 in
set_option maxRecDepth 100000 in
theorem w_X12_drawn_30 {Q : Int32 → MI → MJ → Prop} (C : gC RX12 cX12_drawn 6 (some .int) 30 ad cy D mE p s m args meth c) {kL30 : Int32 × Int64 × Int32 × Int32 × MI × MJ → Prop} (hL30 : ∀ {x1 : Int32} {x2 : Int64} {x4 : Int32} {x5 : Int32} {I : MI} {J : MJ} {H : Heap} {locs : List Loc} {ls : Array Slot}, kL30 (x1, x2, x4, x5, I, J) → gH (mS ad cy) 30 ad D s I J H locs → lv_has ls 6 [(0, .ref (ad 0)), (1, .int x1), (2, .long x2), (4, .int x4), (5, .int x5)] → W p l e rmX12_drawn s m args below meth c H locs 0 0 (MQ below (gQi (mS ad cy) 30 ad cy D mE Q) args s 0 0 (gA 30 ad)) (F0 m 30 ls [])) {x1 : Int32} {x2 : Int64} {x4 : Int32} {x5 : Int32} {I : MI} {J : MJ} {H : Heap} {locs : List Loc} {ls : Array Slot} (h : P_X12_drawn_30 Q kL30 (x1, x2, x4, x5, I, J)) (hw : gH (mS ad cy) 30 ad D s I J H locs) (hl : lv_has ls 6 [(0, .ref (ad 0)), (1, .int x1), (2, .long x2), (4, .int x4), (5, .int x5)]) : W p l e rmX12_drawn s m args below meth c H locs 0 0 (MQ below (gQi (mS ad cy) 30 ad cy D mE Q) args s 0 0 (gA 30 ad)) (F0 m 30 ls []) := by
  obtain ⟨hx, hb, hC⟩ := id C
  refine lv_iload hx hb dX12_drawn_30 (lv_at hl 4 rfl) ?_
  refine lv_iload_n hx hb dX12_drawn_32 rfl (lv_at hl 1 rfl) ?_
  refine lv_icmp_ge (tgt := 90) hx hb dX12_drawn_33 (by decide) (fun c33 => ?_) (fun c33 => ?_)
  · have h := h.1 c33
    refine lv_iload hx hb dX12_drawn_90 (lv_at hl 3 rfl) ?_
    exact g_iret C hw h dX12_drawn_92
  · have h := h.2 c33
    refine lv_aload_n hx hb dX12_drawn_36 rfl (lv_at hl 0 rfl) ?_
    refine lv_aload_n hx hb dX12_drawn_37 rfl (lv_at hl 0 rfl) ?_
    refine g_get C hw f_RX12_359 ml_0 (ms_0 _ _) rfl dX12_drawn_38 ?_
    refine lv_ldc2 (v := (6364136223846793005)) hx hb hC.2.2.1 (hC.2.2.2.1 _ q_RX12_365) dX12_drawn_41 ?_
    refine lv_lmul hx hb dX12_drawn_44 ?_
    refine lv_ldc2 (v := (1442695040888963407)) hx hb hC.2.2.1 (hC.2.2.2.1 _ q_RX12_367) dX12_drawn_45 ?_
    refine lv_ladd hx hb dX12_drawn_48 ?_
    refine g_putJ C hw fp_RX12_359 ml_0 ms_0 (st_11_20 ad _) (Nat.le_of_ble_eq_true rfl) dX12_drawn_49 (fun H locs hw => ?_)
    obtain ⟨J49, e49⟩ : ∃ z : MJ, z = mJ J 0 20 (((J 0 20) * (6364136223846793005 : Int64)) + (1442695040888963407 : Int64)) := ⟨_, rfl⟩
    have h := h J49 e49
    rw [← e49] at hw
    refine lv_iload hx hb dX12_drawn_52 (lv_at hl 3 rfl) ?_
    refine lv_lload_n hx hb dX12_drawn_54 rfl (lv_at hl 2 rfl) ?_
    refine lv_lconst (v := 0) hx hb dX12_drawn_55 (by decide) ?_
    refine g_lcmp_le (tgt := 80) hx hb dX12_drawn_56 dX12_drawn_57 (by decide) (fun c56 => ?_) (fun c56 => ?_)
    · have h := h.1 c56
      refine lv_iconst (v := 0) hx hb dX12_drawn_80 (by decide) ?_
      exact w_X12_drawn_81 C hL30 h hw (lv_sub hl [0, 1, 2, 4] rfl)
    · have h := h.2 c56
      refine lv_aload_n hx hb dX12_drawn_60 rfl (lv_at hl 0 rfl) ?_
      refine lv_aload_n hx hb dX12_drawn_61 rfl (lv_at hl 0 rfl) ?_
      refine lv_aload_n hx hb dX12_drawn_62 rfl (lv_at hl 0 rfl) ?_
      refine g_get C hw f_RX12_359 ml_0 (ms_0 _ _) rfl dX12_drawn_63 ?_
      refine lv_bipush (v := 33) hx hb dX12_drawn_66 (by decide) ?_
      refine lv_lushr hx hb dX12_drawn_68 rfl ?_
      refine lv_lload_n hx hb dX12_drawn_69 rfl (lv_at hl 2 rfl) ?_
      refine lv_lrem hx hb dX12_drawn_70 h.1 ?_
      have h := h.2
      refine g_ci hw (g_rV [.long ((((J49 0 20).toUInt64 >>> ((33 : Int32).toInt64.toUInt64 &&& Int64.toUInt64 63)).toInt64) - (((J49 0 20).toUInt64 >>> ((33 : Int32).toInt64.toUInt64 &&& Int64.toUInt64 63)).toInt64) / x2 * x2)] [.ref (ad 0), .int x4] C hw (m_X12_find h) k_X12_find q_RX12_293 ml_0 (ms_0 _ _) rfl rfl hl.1 rfl (Nat.le_of_ble_eq_true rfl) ⟨⟨rfl, rfl⟩, Nat.le_of_ble_eq_true rfl, Nat.le_of_ble_eq_true rfl⟩ ⟨Nat.zero_le _, Nat.zero_le _⟩ dX12_drawn_71) (fun r71 I71 J71 H locs h hw => ?_)
      refine g_ci hw (g_rV [.int r71] [.int x4] C hw (m_X12_worthOf h) k_X12_worthOf q_RX12_290 ml_0 (ms_0 _ _) rfl rfl hl.1 rfl (Nat.le_of_ble_eq_true rfl) ⟨⟨rfl, rfl⟩, Nat.le_of_ble_eq_true rfl, Nat.le_of_ble_eq_true rfl⟩ ⟨Nat.zero_le _, Nat.zero_le _⟩ dX12_drawn_74) (fun r74 I74 J74 H locs h hw => ?_)
      refine lv_goto (tgt := 81) hx hb dX12_drawn_77 (by decide) ?_
      exact w_X12_drawn_81 C hL30 h hw (lv_sub hl [0, 1, 2, 4] rfl)
theorem wl_X12_drawn_30 {Q : Int32 → MI → MJ → Prop} (C : gC RX12 cX12_drawn 6 (some .int) 30 ad cy D mE p s m args meth c) {x1 : Int32} {x2 : Int64} {x4 : Int32} {x5 : Int32} {I : MI} {J : MJ} {H : Heap} {locs : List Loc} {ls : Array Slot} (h : lpx (P_X12_drawn_30 Q) (x1, x2, x4, x5, I, J)) (hw : gH (mS ad cy) 30 ad D s I J H locs) (hl : lv_has ls 6 [(0, .ref (ad 0)), (1, .int x1), (2, .long x2), (4, .int x4), (5, .int x5)]) : W p l e rmX12_drawn s m args below meth c H locs 0 0 (MQ below (gQi (mS ad cy) 30 ad cy D mE Q) args s 0 0 (gA 30 ad)) (F0 m 30 ls []) := by
  obtain ⟨n, h⟩ := h
  induction n generalizing x1 x2 x4 x5 I J H locs ls with
  | zero => exact False.elim h
  | succ n ih => exact w_X12_drawn_30 C  (fun hk9 hw9 hl9 => ih hw9 hl9 hk9) h hw hl
set_option maxHeartbeats 4000000 in
set_option maxRecDepth 100000 in
theorem w_X12_drawn {Q : Int32 → MI → MJ → Prop} (C : gC RX12 cX12_drawn 6 (some .int) 30 ad cy D mE p s m args meth c) {a0 : Int32} {I : MI} {J : MJ} {H : Heap} {locs : List Loc} {ls : Array Slot} (h : P_X12_drawn a0 I J Q) (hw : gH (mS ad cy) 30 ad D s I J H locs) (hl : lv_has ls 6 [(0, .ref (ad 0)), (1, .int a0)]) : W p l e rmX12_drawn s m args below meth c H locs 0 0 (MQ below (gQi (mS ad cy) 30 ad cy D mE Q) args s 0 0 (gA 30 ad)) (F0 m 0 ls []) := by
  obtain ⟨hx, hb, hC⟩ := id C
  refine lv_iload_n hx hb dX12_drawn_0 rfl (lv_at hl 1 rfl) ?_
  refine lv_i2l hx hb dX12_drawn_1 rfl ?_
  refine lv_lconst (v := 1) hx hb dX12_drawn_2 (by decide) ?_
  refine lv_ldc2 (v := (20)) hx hb hC.2.2.1 (hC.2.2.2.1 _ q_RX12_363) dX12_drawn_3 ?_
  refine g_cz hw (g_rS [.long a0.toInt64, .long (1 : Int64), .long (20 : Int64)] [] C hw (m_X12_in h) k_X12_in q_RX12_107 rfl hl.1 rfl (Nat.le_of_ble_eq_true rfl) ⟨⟨rfl, rfl⟩, Nat.le_of_ble_eq_true rfl, Nat.le_of_ble_eq_true rfl⟩ ⟨Nat.zero_le _, Nat.zero_le _⟩ dX12_drawn_6) (fun r6 I6 J6 H locs z6 h hw => ?_)
  refine lv_if_ne (tgt := 15) hx hb dX12_drawn_9 (by decide) (fun c9 => ?_) (fun c9 => ?_)
  · have h := h.1 c9
    refine lv_aload_n hx hb dX12_drawn_15 rfl (lv_at hl 0 rfl) ?_
    refine lv_aload_n hx hb dX12_drawn_16 rfl (lv_at hl 0 rfl) ?_
    refine g_get C hw f_RX12_25 ml_0 (ms_0 _ _) rfl dX12_drawn_17 ?_
    refine g_cl hw (g_rV [.ref (ad 6)] [] C hw (m_X12_manyOf isRow_6 h) k_X12_manyOf q_RX12_272 ml_0 (ms_0 _ _) rfl rfl hl.1 rfl (Nat.le_of_ble_eq_true rfl) ⟨⟨rfl, rfl⟩, Nat.le_of_ble_eq_true rfl, Nat.le_of_ble_eq_true rfl⟩ ⟨Nat.zero_le _, Nat.zero_le _⟩ dX12_drawn_20) (fun r20 I20 J20 H locs h hw => ?_)
    refine lv_lstore_n (lv' := [(2, .long r20), (0, .ref (ad 0)), (1, .int a0)]) hx hb dX12_drawn_23 rfl hl (by decide) rfl (fun ls hl => ?_)
    refine lv_iconst (v := 0) hx hb dX12_drawn_24 (by decide) ?_
    refine lv_istore (lv' := [(4, .int (0 : Int32)), (2, .long r20), (0, .ref (ad 0)), (1, .int a0)]) hx hb dX12_drawn_25 hl (by decide) rfl (fun ls hl => ?_)
    refine lv_iconst (v := 0) hx hb dX12_drawn_27 (by decide) ?_
    refine lv_istore (lv' := [(5, .int (0 : Int32)), (4, .int (0 : Int32)), (2, .long r20), (0, .ref (ad 0)), (1, .int a0)]) hx hb dX12_drawn_28 hl (by decide) rfl (fun ls hl => ?_)
    exact wl_X12_drawn_30 C  h hw (lv_sub hl [3, 4, 2, 1, 0] rfl)
  · have h := h.2 c9
    refine lv_bipush (v := -2) hx hb dX12_drawn_12 (by decide) ?_
    exact g_iret C hw h dX12_drawn_14
theorem m_X12_drawn {l : Launch} {a0 : Int32} {Q : Int32 → MI → MJ → Prop} {I : MI} {J : MJ} (h : P_X12_drawn a0 I J Q) : Met l yX12_drawn (xws yX12_drawn cX12_drawn 6 (some .int)) rmX12_drawn (va_Pc [.ref (ad 0), .int a0] (gB (mS ad cy) 30 ad cy D mE I J)) (gQi (mS ad cy) 30 ad cy D mE Q) 0 0 (gA 30 ad) :=
  g_met (mE_ok ad) rfl (by decide) (Nat.le_of_ble_eq_true rfl) (fun p e s m below meth c ls C hw hl => w_X12_drawn C  h hw hl)
/-! BagPhrasesModel.keep(I)I -/
def P_X12_keep_21 (Q : Int32 → MI → MJ → Prop) (kL21 : Int32 × Int32 × MI × MJ → Prop) : Int32 × Int32 × MI × MJ → Prop := fun z => match z with
  | (x1, x2, I, J) => (((25 : Int32) ≤ x2 → Q (I 0 2) I J) ∧ (¬ (25 : Int32) ≤ x2 → vp_in x2 25 ∧ (vp_in (((25 : Int32) * x1) + x2) 50 ∧ (∀ I43 : MI, I43 = mI I 9 (((25 : Int32) * x1) + x2).toNatClampNeg (I 6 x2.toNatClampNeg) → kL21 (x1, (x2 + 1), I43, J)))))
def P_X12_keep (a0 : Int32) (I : MI) (J : MJ) (Q : Int32 → MI → MJ → Prop) : Prop :=
  P_X12_in a0.toInt64 (0 : Int64) (1 : Int64) I J (fun r4 I4 J4 => ((¬ r4 = 0 → vp_in a0 2 ∧ (∀ I18 : MI, I18 = mI I4 10 a0.toNatClampNeg (vp_nar .boolean (1 : Int32)) → lpx (P_X12_keep_21 Q) (a0, (0 : Int32), I18, J4))) ∧ (r4 = 0 → Q (-1 : Int32) I4 J4)))
abbrev rmX12_keep : Room := { frames := 1, cells := 0, slots := 0, locals := 25 }
set_option maxHeartbeats 4000000 in
set_option maxRecDepth 100000 in
theorem w_X12_keep_21 {Q : Int32 → MI → MJ → Prop} (C : gC RX12 cX12_keep 3 (some .int) 30 ad cy D mE p s m args meth c) {kL21 : Int32 × Int32 × MI × MJ → Prop} (hL21 : ∀ {x1 : Int32} {x2 : Int32} {I : MI} {J : MJ} {H : Heap} {locs : List Loc} {ls : Array Slot}, kL21 (x1, x2, I, J) → gH (mS ad cy) 30 ad D s I J H locs → lv_has ls 3 [(0, .ref (ad 0)), (1, .int x1), (2, .int x2)] → W p l e rmX12_keep s m args below meth c H locs 0 0 (MQ below (gQi (mS ad cy) 30 ad cy D mE Q) args s 0 0 (gA 30 ad)) (F0 m 21 ls [])) {x1 : Int32} {x2 : Int32} {I : MI} {J : MJ} {H : Heap} {locs : List Loc} {ls : Array Slot} (h : P_X12_keep_21 Q kL21 (x1, x2, I, J)) (hw : gH (mS ad cy) 30 ad D s I J H locs) (hl : lv_has ls 3 [(0, .ref (ad 0)), (1, .int x1), (2, .int x2)]) : W p l e rmX12_keep s m args below meth c H locs 0 0 (MQ below (gQi (mS ad cy) 30 ad cy D mE Q) args s 0 0 (gA 30 ad)) (F0 m 21 ls []) := by
  obtain ⟨hx, hb, hC⟩ := id C
  refine lv_iload_n hx hb dX12_keep_21 rfl (lv_at hl 2 rfl) ?_
  refine lv_bipush (v := 25) hx hb dX12_keep_22 (by decide) ?_
  refine lv_icmp_ge (tgt := 50) hx hb dX12_keep_24 (by decide) (fun c24 => ?_) (fun c24 => ?_)
  · have h := h.1 c24
    refine lv_aload_n hx hb dX12_keep_50 rfl (lv_at hl 0 rfl) ?_
    refine g_get C hw f_RX12_103 ml_0 (ms_0 _ _) rfl dX12_keep_51 ?_
    exact g_iret C hw h dX12_keep_54
  · have h := h.2 c24
    refine lv_aload_n hx hb dX12_keep_27 rfl (lv_at hl 0 rfl) ?_
    refine g_get C hw f_RX12_34 ml_0 (ms_0 _ _) rfl dX12_keep_28 ?_
    refine lv_bipush (v := 25) hx hb dX12_keep_31 (by decide) ?_
    refine lv_iload_n hx hb dX12_keep_33 rfl (lv_at hl 1 rfl) ?_
    refine lv_imul hx hb dX12_keep_34 ?_
    refine lv_iload_n hx hb dX12_keep_35 rfl (lv_at hl 2 rfl) ?_
    refine lv_iadd hx hb dX12_keep_36 ?_
    refine lv_aload_n hx hb dX12_keep_37 rfl (lv_at hl 0 rfl) ?_
    refine g_get C hw f_RX12_25 ml_0 (ms_0 _ _) rfl dX12_keep_38 ?_
    refine lv_iload_n hx hb dX12_keep_41 rfl (lv_at hl 2 rfl) ?_
    refine g_iald C hw ml_6 ms_6 h.1 dX12_keep_42 ?_
    have h := h.2
    refine g_iast C hw ml_9 ms_9 h.1 dX12_keep_43 (fun H locs hw => ?_)
    have h := h.2
    obtain ⟨I43, e43⟩ : ∃ z : MI, z = mI I 9 (((25 : Int32) * x1) + x2).toNatClampNeg (I 6 x2.toNatClampNeg) := ⟨_, rfl⟩
    have h := h I43 e43
    rw [← e43] at hw
    refine lv_iinc (v := x2 + 1) (lv' := [(2, .int (x2 + 1)), (0, .ref (ad 0)), (1, .int x1)]) hx hb dX12_keep_44 hl (k := 2) rfl rfl (by decide) rfl (fun ls hl => ?_)
    refine lv_goto (tgt := 21) hx hb dX12_keep_47 (by decide) ?_
    exact hL21 h hw (lv_sub hl [1, 2, 0] rfl)
theorem wl_X12_keep_21 {Q : Int32 → MI → MJ → Prop} (C : gC RX12 cX12_keep 3 (some .int) 30 ad cy D mE p s m args meth c) {x1 : Int32} {x2 : Int32} {I : MI} {J : MJ} {H : Heap} {locs : List Loc} {ls : Array Slot} (h : lpx (P_X12_keep_21 Q) (x1, x2, I, J)) (hw : gH (mS ad cy) 30 ad D s I J H locs) (hl : lv_has ls 3 [(0, .ref (ad 0)), (1, .int x1), (2, .int x2)]) : W p l e rmX12_keep s m args below meth c H locs 0 0 (MQ below (gQi (mS ad cy) 30 ad cy D mE Q) args s 0 0 (gA 30 ad)) (F0 m 21 ls []) := by
  obtain ⟨n, h⟩ := h
  induction n generalizing x1 x2 I J H locs ls with
  | zero => exact False.elim h
  | succ n ih => exact w_X12_keep_21 C  (fun hk9 hw9 hl9 => ih hw9 hl9 hk9) h hw hl
set_option maxHeartbeats 4000000 in
set_option maxRecDepth 100000 in
theorem w_X12_keep {Q : Int32 → MI → MJ → Prop} (C : gC RX12 cX12_keep 3 (some .int) 30 ad cy D mE p s m args meth c) {a0 : Int32} {I : MI} {J : MJ} {H : Heap} {locs : List Loc} {ls : Array Slot} (h : P_X12_keep a0 I J Q) (hw : gH (mS ad cy) 30 ad D s I J H locs) (hl : lv_has ls 3 [(0, .ref (ad 0)), (1, .int a0)]) : W p l e rmX12_keep s m args below meth c H locs 0 0 (MQ below (gQi (mS ad cy) 30 ad cy D mE Q) args s 0 0 (gA 30 ad)) (F0 m 0 ls []) := by
  obtain ⟨hx, hb, hC⟩ := id C
  refine lv_iload_n hx hb dX12_keep_0 rfl (lv_at hl 1 rfl) ?_
  refine lv_i2l hx hb dX12_keep_1 rfl ?_
  refine lv_lconst (v := 0) hx hb dX12_keep_2 (by decide) ?_
  refine lv_lconst (v := 1) hx hb dX12_keep_3 (by decide) ?_
  refine g_cz hw (g_rS [.long a0.toInt64, .long (0 : Int64), .long (1 : Int64)] [] C hw (m_X12_in h) k_X12_in q_RX12_107 rfl hl.1 rfl (Nat.le_of_ble_eq_true rfl) ⟨⟨rfl, rfl⟩, Nat.le_of_ble_eq_true rfl, Nat.le_of_ble_eq_true rfl⟩ ⟨Nat.zero_le _, Nat.zero_le _⟩ dX12_keep_4) (fun r4 I4 J4 H locs z4 h hw => ?_)
  refine lv_if_ne (tgt := 12) hx hb dX12_keep_7 (by decide) (fun c7 => ?_) (fun c7 => ?_)
  · have h := h.1 c7
    refine lv_aload_n hx hb dX12_keep_12 rfl (lv_at hl 0 rfl) ?_
    refine g_get C hw f_RX12_37 ml_0 (ms_0 _ _) rfl dX12_keep_13 ?_
    refine lv_iload_n hx hb dX12_keep_16 rfl (lv_at hl 1 rfl) ?_
    refine lv_iconst (v := 1) hx hb dX12_keep_17 (by decide) ?_
    refine g_zast C hw ml_10 ms_10 h.1 dX12_keep_18 (fun H locs hw => ?_)
    have h := h.2
    obtain ⟨I18, e18⟩ : ∃ z : MI, z = mI I4 10 a0.toNatClampNeg (vp_nar .boolean (1 : Int32)) := ⟨_, rfl⟩
    have h := h I18 e18
    rw [← e18] at hw
    refine lv_iconst (v := 0) hx hb dX12_keep_19 (by decide) ?_
    refine lv_istore_n (lv' := [(2, .int (0 : Int32)), (0, .ref (ad 0)), (1, .int a0)]) hx hb dX12_keep_20 rfl hl (by decide) rfl (fun ls hl => ?_)
    exact wl_X12_keep_21 C  h hw (lv_sub hl [1, 2, 0] rfl)
  · have h := h.2 c7
    refine lv_iconst (v := -1) hx hb dX12_keep_10 (by decide) ?_
    exact g_iret C hw h dX12_keep_11
theorem m_X12_keep {l : Launch} {a0 : Int32} {Q : Int32 → MI → MJ → Prop} {I : MI} {J : MJ} (h : P_X12_keep a0 I J Q) : Met l yX12_keep (xws yX12_keep cX12_keep 3 (some .int)) rmX12_keep (va_Pc [.ref (ad 0), .int a0] (gB (mS ad cy) 30 ad cy D mE I J)) (gQi (mS ad cy) 30 ad cy D mE Q) 0 0 (gA 30 ad) :=
  g_met (mE_ok ad) rfl (by decide) (Nat.le_of_ble_eq_true rfl) (fun p e s m below meth c ls C hw hl => w_X12_keep C  h hw hl)
/-! BagPhrasesModel.again(I)I -/
def P_X12_again_26 (Q : Int32 → MI → MJ → Prop) (kL26 : Int32 × Int32 × MI × MJ → Prop) : Int32 × Int32 × MI × MJ → Prop := fun z => match z with
  | (x1, x2, I, J) => (((25 : Int32) ≤ x2 → (∀ I57 : MI, I57 = mI I 0 10 (0 : Int32) → Q (I57 0 2) I57 J)) ∧ (¬ (25 : Int32) ≤ x2 → vp_in (((25 : Int32) * x1) + x2) 50 ∧ (vp_in x2 25 ∧ (∀ I48 : MI, I48 = mI I 6 x2.toNatClampNeg (I 9 (((25 : Int32) * x1) + x2).toNatClampNeg) → kL26 (x1, (x2 + 1), I48, J)))))
def P_X12_again (a0 : Int32) (I : MI) (J : MJ) (Q : Int32 → MI → MJ → Prop) : Prop :=
  P_X12_in a0.toInt64 (0 : Int64) (1 : Int64) I J (fun r4 I4 J4 => ((¬ r4 = 0 → vp_in a0 2 ∧ (((¬ (I4 10 a0.toNatClampNeg) = 0 → lpx (P_X12_again_26 Q) (a0, (0 : Int32), I4, J4)) ∧ ((I4 10 a0.toNatClampNeg) = 0 → Q (-3 : Int32) I4 J4)))) ∧ (r4 = 0 → Q (-1 : Int32) I4 J4)))
abbrev rmX12_again : Room := { frames := 1, cells := 0, slots := 0, locals := 25 }
set_option maxHeartbeats 4000000 in
set_option maxRecDepth 100000 in
theorem w_X12_again_26 {Q : Int32 → MI → MJ → Prop} (C : gC RX12 cX12_again 3 (some .int) 30 ad cy D mE p s m args meth c) {kL26 : Int32 × Int32 × MI × MJ → Prop} (hL26 : ∀ {x1 : Int32} {x2 : Int32} {I : MI} {J : MJ} {H : Heap} {locs : List Loc} {ls : Array Slot}, kL26 (x1, x2, I, J) → gH (mS ad cy) 30 ad D s I J H locs → lv_has ls 3 [(0, .ref (ad 0)), (1, .int x1), (2, .int x2)] → W p l e rmX12_again s m args below meth c H locs 0 0 (MQ below (gQi (mS ad cy) 30 ad cy D mE Q) args s 0 0 (gA 30 ad)) (F0 m 26 ls [])) {x1 : Int32} {x2 : Int32} {I : MI} {J : MJ} {H : Heap} {locs : List Loc} {ls : Array Slot} (h : P_X12_again_26 Q kL26 (x1, x2, I, J)) (hw : gH (mS ad cy) 30 ad D s I J H locs) (hl : lv_has ls 3 [(0, .ref (ad 0)), (1, .int x1), (2, .int x2)]) : W p l e rmX12_again s m args below meth c H locs 0 0 (MQ below (gQi (mS ad cy) 30 ad cy D mE Q) args s 0 0 (gA 30 ad)) (F0 m 26 ls []) := by
  obtain ⟨hx, hb, hC⟩ := id C
  refine lv_iload_n hx hb dX12_again_26 rfl (lv_at hl 2 rfl) ?_
  refine lv_bipush (v := 25) hx hb dX12_again_27 (by decide) ?_
  refine lv_icmp_ge (tgt := 55) hx hb dX12_again_29 (by decide) (fun c29 => ?_) (fun c29 => ?_)
  · have h := h.1 c29
    refine lv_aload_n hx hb dX12_again_55 rfl (lv_at hl 0 rfl) ?_
    refine lv_iconst (v := 0) hx hb dX12_again_56 (by decide) ?_
    refine g_putI C hw fp_RX12_182 ml_0 ms_0 (st_11_10 ad _) (Nat.le_of_ble_eq_true rfl) rfl rfl dX12_again_57 (fun H locs hw => ?_)
    obtain ⟨I57, e57⟩ : ∃ z : MI, z = mI I 0 10 (0 : Int32) := ⟨_, rfl⟩
    have h := h I57 e57
    rw [← e57] at hw
    refine lv_aload_n hx hb dX12_again_60 rfl (lv_at hl 0 rfl) ?_
    refine g_get C hw f_RX12_103 ml_0 (ms_0 _ _) rfl dX12_again_61 ?_
    exact g_iret C hw h dX12_again_64
  · have h := h.2 c29
    refine lv_aload_n hx hb dX12_again_32 rfl (lv_at hl 0 rfl) ?_
    refine g_get C hw f_RX12_25 ml_0 (ms_0 _ _) rfl dX12_again_33 ?_
    refine lv_iload_n hx hb dX12_again_36 rfl (lv_at hl 2 rfl) ?_
    refine lv_aload_n hx hb dX12_again_37 rfl (lv_at hl 0 rfl) ?_
    refine g_get C hw f_RX12_34 ml_0 (ms_0 _ _) rfl dX12_again_38 ?_
    refine lv_bipush (v := 25) hx hb dX12_again_41 (by decide) ?_
    refine lv_iload_n hx hb dX12_again_43 rfl (lv_at hl 1 rfl) ?_
    refine lv_imul hx hb dX12_again_44 ?_
    refine lv_iload_n hx hb dX12_again_45 rfl (lv_at hl 2 rfl) ?_
    refine lv_iadd hx hb dX12_again_46 ?_
    refine g_iald C hw ml_9 ms_9 h.1 dX12_again_47 ?_
    have h := h.2
    refine g_iast C hw ml_6 ms_6 h.1 dX12_again_48 (fun H locs hw => ?_)
    have h := h.2
    obtain ⟨I48, e48⟩ : ∃ z : MI, z = mI I 6 x2.toNatClampNeg (I 9 (((25 : Int32) * x1) + x2).toNatClampNeg) := ⟨_, rfl⟩
    have h := h I48 e48
    rw [← e48] at hw
    refine lv_iinc (v := x2 + 1) (lv' := [(2, .int (x2 + 1)), (0, .ref (ad 0)), (1, .int x1)]) hx hb dX12_again_49 hl (k := 2) rfl rfl (by decide) rfl (fun ls hl => ?_)
    refine lv_goto (tgt := 26) hx hb dX12_again_52 (by decide) ?_
    exact hL26 h hw (lv_sub hl [1, 2, 0] rfl)
theorem wl_X12_again_26 {Q : Int32 → MI → MJ → Prop} (C : gC RX12 cX12_again 3 (some .int) 30 ad cy D mE p s m args meth c) {x1 : Int32} {x2 : Int32} {I : MI} {J : MJ} {H : Heap} {locs : List Loc} {ls : Array Slot} (h : lpx (P_X12_again_26 Q) (x1, x2, I, J)) (hw : gH (mS ad cy) 30 ad D s I J H locs) (hl : lv_has ls 3 [(0, .ref (ad 0)), (1, .int x1), (2, .int x2)]) : W p l e rmX12_again s m args below meth c H locs 0 0 (MQ below (gQi (mS ad cy) 30 ad cy D mE Q) args s 0 0 (gA 30 ad)) (F0 m 26 ls []) := by
  obtain ⟨n, h⟩ := h
  induction n generalizing x1 x2 I J H locs ls with
  | zero => exact False.elim h
  | succ n ih => exact w_X12_again_26 C  (fun hk9 hw9 hl9 => ih hw9 hl9 hk9) h hw hl
set_option maxHeartbeats 4000000 in
set_option maxRecDepth 100000 in
theorem w_X12_again {Q : Int32 → MI → MJ → Prop} (C : gC RX12 cX12_again 3 (some .int) 30 ad cy D mE p s m args meth c) {a0 : Int32} {I : MI} {J : MJ} {H : Heap} {locs : List Loc} {ls : Array Slot} (h : P_X12_again a0 I J Q) (hw : gH (mS ad cy) 30 ad D s I J H locs) (hl : lv_has ls 3 [(0, .ref (ad 0)), (1, .int a0)]) : W p l e rmX12_again s m args below meth c H locs 0 0 (MQ below (gQi (mS ad cy) 30 ad cy D mE Q) args s 0 0 (gA 30 ad)) (F0 m 0 ls []) := by
  obtain ⟨hx, hb, hC⟩ := id C
  refine lv_iload_n hx hb dX12_again_0 rfl (lv_at hl 1 rfl) ?_
  refine lv_i2l hx hb dX12_again_1 rfl ?_
  refine lv_lconst (v := 0) hx hb dX12_again_2 (by decide) ?_
  refine lv_lconst (v := 1) hx hb dX12_again_3 (by decide) ?_
  refine g_cz hw (g_rS [.long a0.toInt64, .long (0 : Int64), .long (1 : Int64)] [] C hw (m_X12_in h) k_X12_in q_RX12_107 rfl hl.1 rfl (Nat.le_of_ble_eq_true rfl) ⟨⟨rfl, rfl⟩, Nat.le_of_ble_eq_true rfl, Nat.le_of_ble_eq_true rfl⟩ ⟨Nat.zero_le _, Nat.zero_le _⟩ dX12_again_4) (fun r4 I4 J4 H locs z4 h hw => ?_)
  refine lv_if_ne (tgt := 12) hx hb dX12_again_7 (by decide) (fun c7 => ?_) (fun c7 => ?_)
  · have h := h.1 c7
    refine lv_aload_n hx hb dX12_again_12 rfl (lv_at hl 0 rfl) ?_
    refine g_get C hw f_RX12_37 ml_0 (ms_0 _ _) rfl dX12_again_13 ?_
    refine lv_iload_n hx hb dX12_again_16 rfl (lv_at hl 1 rfl) ?_
    refine g_zald C hw ml_10 ms_10 h.1 dX12_again_17 ?_
    have h := h.2
    refine lv_if_ne (tgt := 24) hx hb dX12_again_18 (by decide) (fun c18 => ?_) (fun c18 => ?_)
    · have h := h.1 c18
      refine lv_iconst (v := 0) hx hb dX12_again_24 (by decide) ?_
      refine lv_istore_n (lv' := [(2, .int (0 : Int32)), (0, .ref (ad 0)), (1, .int a0)]) hx hb dX12_again_25 rfl hl (by decide) rfl (fun ls hl => ?_)
      exact wl_X12_again_26 C  h hw (lv_sub hl [1, 2, 0] rfl)
    · have h := h.2 c18
      refine lv_bipush (v := -3) hx hb dX12_again_21 (by decide) ?_
      exact g_iret C hw h dX12_again_23
  · have h := h.2 c7
    refine lv_iconst (v := -1) hx hb dX12_again_10 (by decide) ?_
    exact g_iret C hw h dX12_again_11
theorem m_X12_again {l : Launch} {a0 : Int32} {Q : Int32 → MI → MJ → Prop} {I : MI} {J : MJ} (h : P_X12_again a0 I J Q) : Met l yX12_again (xws yX12_again cX12_again 3 (some .int)) rmX12_again (va_Pc [.ref (ad 0), .int a0] (gB (mS ad cy) 30 ad cy D mE I J)) (gQi (mS ad cy) 30 ad cy D mE Q) 0 0 (gA 30 ad) :=
  g_met (mE_ok ad) rfl (by decide) (Nat.le_of_ble_eq_true rfl) (fun p e s m below meth c ls C hw hl => w_X12_again C  h hw hl)
end
