section
variable {p : Program} {l : Launch} {e : Env} {s : State} {m : MethodId} {args : Array Value} {below : List Frame} {meth : Method} {c : Code} {ad : Nat → Nat} {cy : Nat → ClassId} {D : va_G} {ts : Nat → Nat}
/-! BagPhrasesModel.endsAs([JII)J -/
def P_X12_endsAs (a1 : Int32) (a2 : Int32) (I : MI) (J : MJ) (Q : Int64 → MI → MJ → Prop) : Prop :=
  vp_in a2 10 ∧ ((((a1 - (I 21 a2.toNatClampNeg)) ≤ 0 → vp_in (20 : Int32) 25 ∧ (vp_in a2 10 ∧ (P_X12_has (I 19 (20 : Int32).toNatClampNeg) (I 4 a2.toNatClampNeg) I J (fun r44 I44 J44 => ((r44 = 0 → Q (0 : Int64) I44 J44) ∧ (¬ r44 = 0 → Q (1 : Int64) I44 J44)))))) ∧ (¬ (a1 - (I 21 a2.toNatClampNeg)) ≤ 0 → vp_in a2 10 ∧ (vp_in (((5 : Int32) * (a1 - (I 21 a2.toNatClampNeg))) + (I 4 a2.toNatClampNeg)) 9720 ∧ (Q (J 22 (((5 : Int32) * (a1 - (I 21 a2.toNatClampNeg))) + (I 4 a2.toNatClampNeg)).toNatClampNeg) I J)))))
abbrev rmX12_endsAs : Room := { frames := 1, cells := 0, slots := 0, locals := 21 }
set_option maxHeartbeats 4000000 in
set_option maxRecDepth 100000 in
theorem w_X12_endsAs {Q : Int64 → MI → MJ → Prop} (C : gC RX12 cX12_endsAs 5 (some .long) 30 ad cy D mE p s m args meth c) {a1 : Int32} {a2 : Int32} {I : MI} {J : MJ} {H : Heap} {locs : List Loc} {ls : Array Slot} (h : P_X12_endsAs a1 a2 I J Q) (hw : gH (mS ad cy) 30 ad D s I J H locs) (hl : lv_has ls 5 [(0, .ref (ad 0)), (1, .ref (ad 22)), (2, .int a1), (3, .int a2)]) : W p l e rmX12_endsAs s m args below meth c H locs 0 0 (MQ below (gQl (mS ad cy) 30 ad cy D mE Q) args s 0 0 (gA 30 ad)) (F0 m 0 ls []) := by
  obtain ⟨hx, hb, hC⟩ := id C
  refine lv_iload_n hx hb dX12_endsAs_0 rfl (lv_at hl 2 rfl) ?_
  refine lv_aload_n hx hb dX12_endsAs_1 rfl (lv_at hl 0 rfl) ?_
  refine g_get C hw f_RX12_71 ml_0 (ms_0 _ _) rfl dX12_endsAs_2 ?_
  refine lv_iload_n hx hb dX12_endsAs_5 rfl (lv_at hl 3 rfl) ?_
  refine g_iald C hw ml_21 ms_21 h.1 dX12_endsAs_6 ?_
  have h := h.2
  refine lv_isub hx hb dX12_endsAs_7 ?_
  refine lv_istore (lv' := [(4, .int (a1 - (I 21 a2.toNatClampNeg))), (0, .ref (ad 0)), (1, .ref (ad 22)), (2, .int a1), (3, .int a2)]) hx hb dX12_endsAs_8 hl (by decide) rfl (fun ls hl => ?_)
  refine lv_iload hx hb dX12_endsAs_10 (lv_at hl 0 rfl) ?_
  refine lv_if_le (tgt := 31) hx hb dX12_endsAs_12 (by decide) (fun c12 => ?_) (fun c12 => ?_)
  · have h := h.1 c12
    refine lv_aload_n hx hb dX12_endsAs_31 rfl (lv_at hl 1 rfl) ?_
    refine g_get C hw f_RX12_65 ml_0 (ms_0 _ _) rfl dX12_endsAs_32 ?_
    refine lv_bipush (v := 20) hx hb dX12_endsAs_35 (by decide) ?_
    refine g_iald C hw ml_19 ms_19 h.1 dX12_endsAs_37 ?_
    have h := h.2
    refine lv_aload_n hx hb dX12_endsAs_38 rfl (lv_at hl 1 rfl) ?_
    refine g_get C hw f_RX12_19 ml_0 (ms_0 _ _) rfl dX12_endsAs_39 ?_
    refine lv_iload_n hx hb dX12_endsAs_42 rfl (lv_at hl 4 rfl) ?_
    refine g_iald C hw ml_4 ms_4 h.1 dX12_endsAs_43 ?_
    have h := h.2
    refine g_cz hw (g_rS [.int (I 19 (20 : Int32).toNatClampNeg), .int (I 4 a2.toNatClampNeg)] [] C hw (m_X12_has h) k_X12_has q_RX12_149 rfl hl.1 rfl (Nat.le_of_ble_eq_true rfl) ⟨⟨rfl, rfl⟩, Nat.le_of_ble_eq_true rfl, Nat.le_of_ble_eq_true rfl⟩ ⟨Nat.zero_le _, Nat.zero_le _⟩ dX12_endsAs_44) (fun r44 I44 J44 H locs z44 h hw => ?_)
    refine lv_if_eq (tgt := 54) hx hb dX12_endsAs_47 (by decide) (fun c47 => ?_) (fun c47 => ?_)
    · have h := h.1 c47
      refine lv_lconst (v := 0) hx hb dX12_endsAs_54 (by decide) ?_
      exact g_lret C hw h dX12_endsAs_55
    · have h := h.2 c47
      refine lv_lconst (v := 1) hx hb dX12_endsAs_50 (by decide) ?_
      refine lv_goto (tgt := 55) hx hb dX12_endsAs_51 (by decide) ?_
      exact g_lret C hw h dX12_endsAs_55
  · have h := h.2 c12
    refine lv_aload_n hx hb dX12_endsAs_15 rfl (lv_at hl 2 rfl) ?_
    refine lv_iconst (v := 5) hx hb dX12_endsAs_16 (by decide) ?_
    refine lv_iload hx hb dX12_endsAs_17 (lv_at hl 0 rfl) ?_
    refine lv_imul hx hb dX12_endsAs_19 ?_
    refine lv_aload_n hx hb dX12_endsAs_20 rfl (lv_at hl 1 rfl) ?_
    refine g_get C hw f_RX12_19 ml_0 (ms_0 _ _) rfl dX12_endsAs_21 ?_
    refine lv_iload_n hx hb dX12_endsAs_24 rfl (lv_at hl 4 rfl) ?_
    refine g_iald C hw ml_4 ms_4 h.1 dX12_endsAs_25 ?_
    have h := h.2
    refine lv_iadd hx hb dX12_endsAs_26 ?_
    refine g_lald C hw ml_22 ms_22 h.1 dX12_endsAs_27 ?_
    have h := h.2
    refine lv_goto (tgt := 55) hx hb dX12_endsAs_28 (by decide) ?_
    exact g_lret C hw h dX12_endsAs_55
theorem m_X12_endsAs {l : Launch} {a1 : Int32} {a2 : Int32} {Q : Int64 → MI → MJ → Prop} {I : MI} {J : MJ} (h : P_X12_endsAs a1 a2 I J Q) : Met l yX12_endsAs (xws yX12_endsAs cX12_endsAs 5 (some .long)) rmX12_endsAs (va_Pc [.ref (ad 0), .ref (ad 22), .int a1, .int a2] (gB (mS ad cy) 30 ad cy D mE I J)) (gQl (mS ad cy) 30 ad cy D mE Q) 0 0 (gA 30 ad) :=
  g_met (mE_ok ad) rfl (by decide) (Nat.le_of_ble_eq_true rfl) (fun p e s m below meth c ls C hw hl => w_X12_endsAs C  h hw hl)
/-! BagPhrasesModel.layWays()V -/
def P_X12_layWays_58 (Q : MI → MJ → Prop) (kL2 : Int32 × MI × MJ → Prop) (kL12 : Int32 × Int32 × MI × MJ → Prop) (kL22 : Int32 × Int32 × Int64 × Int32 × MI × MJ → Prop) (x1 : Int32) (x2 : Int32) (x5 : Int32) (s0 : Int64) (s1 : Int64) (I : MI) (J : MJ) : Prop :=
  kL22 (x1, x2, (s0 + s1), (x5 + 1), I, J)
def P_X12_layWays_22 (Q : MI → MJ → Prop) (kL2 : Int32 × MI × MJ → Prop) (kL12 : Int32 × Int32 × MI × MJ → Prop) (kL22 : Int32 × Int32 × Int64 × Int32 × MI × MJ → Prop) : Int32 × Int32 × Int64 × Int32 × MI × MJ → Prop := fun z => match z with
  | (x1, x2, x3, x5, I, J) => (((I 0 2) ≤ x5 → vp_in (((5 : Int32) * x1) + x2) 9720 ∧ (∀ J76 : MJ, J76 = mJ J 22 (((5 : Int32) * x1) + x2).toNatClampNeg x3 → kL12 (x1, (x2 + 1), I, J76))) ∧ (¬ (I 0 2) ≤ x5 → P_X12_mayCome x1 x2 x5 I J (fun r37 I37 J37 => ((r37 = 0 → P_X12_layWays_58 Q kL2 kL12 kL22 x1 x2 x5 x3 (0 : Int64) I37 J37) ∧ (¬ r37 = 0 → P_X12_endsAs x1 x5 I37 J37 (fun r51 I51 J51 => P_X12_layWays_58 Q kL2 kL12 kL22 x1 x2 x5 x3 r51 I51 J51))))))
def P_X12_layWays_12 (Q : MI → MJ → Prop) (kL2 : Int32 × MI × MJ → Prop) (kL12 : Int32 × Int32 × MI × MJ → Prop) : Int32 × Int32 × MI × MJ → Prop := fun z => match z with
  | (x1, x2, I, J) => (((4 : Int32) < x2 → kL2 ((x1 + 1), I, J)) ∧ (¬ (4 : Int32) < x2 → lpx (P_X12_layWays_22 Q kL2 kL12) (x1, x2, (0 : Int64), (0 : Int32), I, J)))
def P_X12_layWays_2 (Q : MI → MJ → Prop) (kL2 : Int32 × MI × MJ → Prop) : Int32 × MI × MJ → Prop := fun z => match z with
  | (x1, I, J) => (((I 0 31) < x1 → Q I J) ∧ (¬ (I 0 31) < x1 → lpx (P_X12_layWays_12 Q kL2) (x1, (0 : Int32), I, J)))
def P_X12_layWays (I : MI) (J : MJ) (Q : MI → MJ → Prop) : Prop :=
  lpx (P_X12_layWays_2 Q) ((0 : Int32), I, J)
abbrev rmX12_layWays : Room := { frames := 2, cells := 0, slots := 0, locals := 45 }
set_option maxHeartbeats 4000000 in
set_option maxRecDepth 100000 in
theorem w_X12_layWays_58 {Q : MI → MJ → Prop} (C : gC RX12 cX12_layWays 6 none 30 ad cy D mE p s m args meth c) {kL2 : Int32 × MI × MJ → Prop} (hL2 : ∀ {x1 : Int32} {I : MI} {J : MJ} {H : Heap} {locs : List Loc} {ls : Array Slot}, kL2 (x1, I, J) → gH (mS ad cy) 30 ad D s I J H locs → lv_has ls 6 [(0, .ref (ad 0)), (1, .int x1)] → W p l e rmX12_layWays s m args below meth c H locs 0 0 (MQ below (gQv (mS ad cy) 30 ad cy D mE Q) args s 0 0 (gA 30 ad)) (F0 m 2 ls [])) {kL12 : Int32 × Int32 × MI × MJ → Prop} (hL12 : ∀ {x1 : Int32} {x2 : Int32} {I : MI} {J : MJ} {H : Heap} {locs : List Loc} {ls : Array Slot}, kL12 (x1, x2, I, J) → gH (mS ad cy) 30 ad D s I J H locs → lv_has ls 6 [(0, .ref (ad 0)), (1, .int x1), (2, .int x2)] → W p l e rmX12_layWays s m args below meth c H locs 0 0 (MQ below (gQv (mS ad cy) 30 ad cy D mE Q) args s 0 0 (gA 30 ad)) (F0 m 12 ls [])) {kL22 : Int32 × Int32 × Int64 × Int32 × MI × MJ → Prop} (hL22 : ∀ {x1 : Int32} {x2 : Int32} {x3 : Int64} {x5 : Int32} {I : MI} {J : MJ} {H : Heap} {locs : List Loc} {ls : Array Slot}, kL22 (x1, x2, x3, x5, I, J) → gH (mS ad cy) 30 ad D s I J H locs → lv_has ls 6 [(0, .ref (ad 0)), (1, .int x1), (2, .int x2), (3, .long x3), (5, .int x5)] → W p l e rmX12_layWays s m args below meth c H locs 0 0 (MQ below (gQv (mS ad cy) 30 ad cy D mE Q) args s 0 0 (gA 30 ad)) (F0 m 22 ls [])) {x1 : Int32} {x2 : Int32} {x5 : Int32} {s0 : Int64} {s1 : Int64} {I : MI} {J : MJ} {H : Heap} {locs : List Loc} {ls : Array Slot} (h : P_X12_layWays_58 Q kL2 kL12 kL22 x1 x2 x5 s0 s1 I J) (hw : gH (mS ad cy) 30 ad D s I J H locs) (hl : lv_has ls 6 [(0, .ref (ad 0)), (1, .int x1), (2, .int x2), (5, .int x5)]) : W p l e rmX12_layWays s m args below meth c H locs 0 0 (MQ below (gQv (mS ad cy) 30 ad cy D mE Q) args s 0 0 (gA 30 ad)) (F0 m 58 ls [.long s1, .long s0]) := by
  obtain ⟨hx, hb, hC⟩ := id C
  refine lv_ladd hx hb dX12_layWays_58 ?_
  refine lv_lstore_n (lv' := [(3, .long (s0 + s1)), (0, .ref (ad 0)), (1, .int x1), (2, .int x2), (5, .int x5)]) hx hb dX12_layWays_59 rfl hl (by decide) rfl (fun ls hl => ?_)
  refine lv_iinc (v := x5 + 1) (lv' := [(5, .int (x5 + 1)), (3, .long (s0 + s1)), (0, .ref (ad 0)), (1, .int x1), (2, .int x2)]) hx hb dX12_layWays_60 hl (k := 4) rfl rfl (by decide) rfl (fun ls hl => ?_)
  refine lv_goto (tgt := 22) hx hb dX12_layWays_63 (by decide) ?_
  exact hL22 h hw (lv_sub hl [2, 3, 4, 1, 0] rfl)
set_option maxHeartbeats 4000000 in
set_option maxRecDepth 100000 in
theorem w_X12_layWays_22 {Q : MI → MJ → Prop} (C : gC RX12 cX12_layWays 6 none 30 ad cy D mE p s m args meth c) {kL2 : Int32 × MI × MJ → Prop} (hL2 : ∀ {x1 : Int32} {I : MI} {J : MJ} {H : Heap} {locs : List Loc} {ls : Array Slot}, kL2 (x1, I, J) → gH (mS ad cy) 30 ad D s I J H locs → lv_has ls 6 [(0, .ref (ad 0)), (1, .int x1)] → W p l e rmX12_layWays s m args below meth c H locs 0 0 (MQ below (gQv (mS ad cy) 30 ad cy D mE Q) args s 0 0 (gA 30 ad)) (F0 m 2 ls [])) {kL12 : Int32 × Int32 × MI × MJ → Prop} (hL12 : ∀ {x1 : Int32} {x2 : Int32} {I : MI} {J : MJ} {H : Heap} {locs : List Loc} {ls : Array Slot}, kL12 (x1, x2, I, J) → gH (mS ad cy) 30 ad D s I J H locs → lv_has ls 6 [(0, .ref (ad 0)), (1, .int x1), (2, .int x2)] → W p l e rmX12_layWays s m args below meth c H locs 0 0 (MQ below (gQv (mS ad cy) 30 ad cy D mE Q) args s 0 0 (gA 30 ad)) (F0 m 12 ls [])) {kL22 : Int32 × Int32 × Int64 × Int32 × MI × MJ → Prop} (hL22 : ∀ {x1 : Int32} {x2 : Int32} {x3 : Int64} {x5 : Int32} {I : MI} {J : MJ} {H : Heap} {locs : List Loc} {ls : Array Slot}, kL22 (x1, x2, x3, x5, I, J) → gH (mS ad cy) 30 ad D s I J H locs → lv_has ls 6 [(0, .ref (ad 0)), (1, .int x1), (2, .int x2), (3, .long x3), (5, .int x5)] → W p l e rmX12_layWays s m args below meth c H locs 0 0 (MQ below (gQv (mS ad cy) 30 ad cy D mE Q) args s 0 0 (gA 30 ad)) (F0 m 22 ls [])) {x1 : Int32} {x2 : Int32} {x3 : Int64} {x5 : Int32} {I : MI} {J : MJ} {H : Heap} {locs : List Loc} {ls : Array Slot} (h : P_X12_layWays_22 Q kL2 kL12 kL22 (x1, x2, x3, x5, I, J)) (hw : gH (mS ad cy) 30 ad D s I J H locs) (hl : lv_has ls 6 [(0, .ref (ad 0)), (1, .int x1), (2, .int x2), (3, .long x3), (5, .int x5)]) : W p l e rmX12_layWays s m args below meth c H locs 0 0 (MQ below (gQv (mS ad cy) 30 ad cy D mE Q) args s 0 0 (gA 30 ad)) (F0 m 22 ls []) := by
  obtain ⟨hx, hb, hC⟩ := id C
  refine lv_iload hx hb dX12_layWays_22 (lv_at hl 4 rfl) ?_
  refine lv_aload_n hx hb dX12_layWays_24 rfl (lv_at hl 0 rfl) ?_
  refine g_get C hw f_RX12_103 ml_0 (ms_0 _ _) rfl dX12_layWays_25 ?_
  refine lv_icmp_ge (tgt := 66) hx hb dX12_layWays_28 (by decide) (fun c28 => ?_) (fun c28 => ?_)
  · have h := h.1 c28
    refine lv_aload_n hx hb dX12_layWays_66 rfl (lv_at hl 0 rfl) ?_
    refine g_get C hw f_RX12_74 ml_0 (ms_0 _ _) rfl dX12_layWays_67 ?_
    refine lv_iconst (v := 5) hx hb dX12_layWays_70 (by decide) ?_
    refine lv_iload_n hx hb dX12_layWays_71 rfl (lv_at hl 1 rfl) ?_
    refine lv_imul hx hb dX12_layWays_72 ?_
    refine lv_iload_n hx hb dX12_layWays_73 rfl (lv_at hl 2 rfl) ?_
    refine lv_iadd hx hb dX12_layWays_74 ?_
    refine lv_lload_n hx hb dX12_layWays_75 rfl (lv_at hl 3 rfl) ?_
    refine g_last C hw ml_22 ms_22 h.1 dX12_layWays_76 (fun H locs hw => ?_)
    have h := h.2
    obtain ⟨J76, e76⟩ : ∃ z : MJ, z = mJ J 22 (((5 : Int32) * x1) + x2).toNatClampNeg x3 := ⟨_, rfl⟩
    have h := h J76 e76
    rw [← e76] at hw
    refine lv_iinc (v := x2 + 1) (lv' := [(2, .int (x2 + 1)), (0, .ref (ad 0)), (1, .int x1), (3, .long x3), (5, .int x5)]) hx hb dX12_layWays_77 hl (k := 2) rfl rfl (by decide) rfl (fun ls hl => ?_)
    refine lv_goto (tgt := 12) hx hb dX12_layWays_80 (by decide) ?_
    exact hL12 h hw (lv_sub hl [1, 2, 0] rfl)
  · have h := h.2 c28
    refine lv_lload_n hx hb dX12_layWays_31 rfl (lv_at hl 3 rfl) ?_
    refine lv_aload_n hx hb dX12_layWays_32 rfl (lv_at hl 0 rfl) ?_
    refine lv_iload_n hx hb dX12_layWays_33 rfl (lv_at hl 1 rfl) ?_
    refine lv_iload_n hx hb dX12_layWays_34 rfl (lv_at hl 2 rfl) ?_
    refine lv_iload hx hb dX12_layWays_35 (lv_at hl 4 rfl) ?_
    refine g_cz hw (g_rV [.int x1, .int x2, .int x5] [.long x3] C hw (m_X12_mayCome h) k_X12_mayCome q_RX12_194 ml_0 (ms_0 _ _) rfl rfl hl.1 rfl (Nat.le_of_ble_eq_true rfl) ⟨⟨rfl, rfl⟩, Nat.le_of_ble_eq_true rfl, Nat.le_of_ble_eq_true rfl⟩ ⟨Nat.zero_le _, Nat.zero_le _⟩ dX12_layWays_37) (fun r37 I37 J37 H locs z37 h hw => ?_)
    refine lv_if_eq (tgt := 57) hx hb dX12_layWays_40 (by decide) (fun c40 => ?_) (fun c40 => ?_)
    · have h := h.1 c40
      refine lv_lconst (v := 0) hx hb dX12_layWays_57 (by decide) ?_
      exact w_X12_layWays_58 C hL2 hL12 hL22 h hw (lv_sub hl [0, 1, 2, 4] rfl)
    · have h := h.2 c40
      refine lv_aload_n hx hb dX12_layWays_43 rfl (lv_at hl 0 rfl) ?_
      refine lv_aload_n hx hb dX12_layWays_44 rfl (lv_at hl 0 rfl) ?_
      refine g_get C hw f_RX12_74 ml_0 (ms_0 _ _) rfl dX12_layWays_45 ?_
      refine lv_iload_n hx hb dX12_layWays_48 rfl (lv_at hl 1 rfl) ?_
      refine lv_iload hx hb dX12_layWays_49 (lv_at hl 4 rfl) ?_
      refine g_cl hw (g_rV [.ref (ad 22), .int x1, .int x5] [.long x3] C hw (m_X12_endsAs h) k_X12_endsAs q_RX12_198 ml_0 (ms_0 _ _) rfl rfl hl.1 rfl (Nat.le_of_ble_eq_true rfl) ⟨⟨rfl, rfl⟩, Nat.le_of_ble_eq_true rfl, Nat.le_of_ble_eq_true rfl⟩ ⟨Nat.zero_le _, Nat.zero_le _⟩ dX12_layWays_51) (fun r51 I51 J51 H locs h hw => ?_)
      refine lv_goto (tgt := 58) hx hb dX12_layWays_54 (by decide) ?_
      exact w_X12_layWays_58 C hL2 hL12 hL22 h hw (lv_sub hl [0, 1, 2, 4] rfl)
theorem wl_X12_layWays_22 {Q : MI → MJ → Prop} (C : gC RX12 cX12_layWays 6 none 30 ad cy D mE p s m args meth c) {kL2 : Int32 × MI × MJ → Prop} (hL2 : ∀ {x1 : Int32} {I : MI} {J : MJ} {H : Heap} {locs : List Loc} {ls : Array Slot}, kL2 (x1, I, J) → gH (mS ad cy) 30 ad D s I J H locs → lv_has ls 6 [(0, .ref (ad 0)), (1, .int x1)] → W p l e rmX12_layWays s m args below meth c H locs 0 0 (MQ below (gQv (mS ad cy) 30 ad cy D mE Q) args s 0 0 (gA 30 ad)) (F0 m 2 ls [])) {kL12 : Int32 × Int32 × MI × MJ → Prop} (hL12 : ∀ {x1 : Int32} {x2 : Int32} {I : MI} {J : MJ} {H : Heap} {locs : List Loc} {ls : Array Slot}, kL12 (x1, x2, I, J) → gH (mS ad cy) 30 ad D s I J H locs → lv_has ls 6 [(0, .ref (ad 0)), (1, .int x1), (2, .int x2)] → W p l e rmX12_layWays s m args below meth c H locs 0 0 (MQ below (gQv (mS ad cy) 30 ad cy D mE Q) args s 0 0 (gA 30 ad)) (F0 m 12 ls [])) {x1 : Int32} {x2 : Int32} {x3 : Int64} {x5 : Int32} {I : MI} {J : MJ} {H : Heap} {locs : List Loc} {ls : Array Slot} (h : lpx (P_X12_layWays_22 Q kL2 kL12) (x1, x2, x3, x5, I, J)) (hw : gH (mS ad cy) 30 ad D s I J H locs) (hl : lv_has ls 6 [(0, .ref (ad 0)), (1, .int x1), (2, .int x2), (3, .long x3), (5, .int x5)]) : W p l e rmX12_layWays s m args below meth c H locs 0 0 (MQ below (gQv (mS ad cy) 30 ad cy D mE Q) args s 0 0 (gA 30 ad)) (F0 m 22 ls []) := by
  obtain ⟨n, h⟩ := h
  induction n generalizing x1 x2 x3 x5 I J H locs ls with
  | zero => exact False.elim h
  | succ n ih => exact w_X12_layWays_22 C hL2 hL12 (fun hk9 hw9 hl9 => ih hw9 hl9 hk9) h hw hl
set_option maxHeartbeats 4000000 in
set_option maxRecDepth 100000 in
theorem w_X12_layWays_12 {Q : MI → MJ → Prop} (C : gC RX12 cX12_layWays 6 none 30 ad cy D mE p s m args meth c) {kL2 : Int32 × MI × MJ → Prop} (hL2 : ∀ {x1 : Int32} {I : MI} {J : MJ} {H : Heap} {locs : List Loc} {ls : Array Slot}, kL2 (x1, I, J) → gH (mS ad cy) 30 ad D s I J H locs → lv_has ls 6 [(0, .ref (ad 0)), (1, .int x1)] → W p l e rmX12_layWays s m args below meth c H locs 0 0 (MQ below (gQv (mS ad cy) 30 ad cy D mE Q) args s 0 0 (gA 30 ad)) (F0 m 2 ls [])) {kL12 : Int32 × Int32 × MI × MJ → Prop} (hL12 : ∀ {x1 : Int32} {x2 : Int32} {I : MI} {J : MJ} {H : Heap} {locs : List Loc} {ls : Array Slot}, kL12 (x1, x2, I, J) → gH (mS ad cy) 30 ad D s I J H locs → lv_has ls 6 [(0, .ref (ad 0)), (1, .int x1), (2, .int x2)] → W p l e rmX12_layWays s m args below meth c H locs 0 0 (MQ below (gQv (mS ad cy) 30 ad cy D mE Q) args s 0 0 (gA 30 ad)) (F0 m 12 ls [])) {x1 : Int32} {x2 : Int32} {I : MI} {J : MJ} {H : Heap} {locs : List Loc} {ls : Array Slot} (h : P_X12_layWays_12 Q kL2 kL12 (x1, x2, I, J)) (hw : gH (mS ad cy) 30 ad D s I J H locs) (hl : lv_has ls 6 [(0, .ref (ad 0)), (1, .int x1), (2, .int x2)]) : W p l e rmX12_layWays s m args below meth c H locs 0 0 (MQ below (gQv (mS ad cy) 30 ad cy D mE Q) args s 0 0 (gA 30 ad)) (F0 m 12 ls []) := by
  obtain ⟨hx, hb, hC⟩ := id C
  refine lv_iload_n hx hb dX12_layWays_12 rfl (lv_at hl 2 rfl) ?_
  refine lv_iconst (v := 4) hx hb dX12_layWays_13 (by decide) ?_
  refine lv_icmp_gt (tgt := 83) hx hb dX12_layWays_14 (by decide) (fun c14 => ?_) (fun c14 => ?_)
  · have h := h.1 c14
    refine lv_iinc (v := x1 + 1) (lv' := [(1, .int (x1 + 1)), (0, .ref (ad 0)), (2, .int x2)]) hx hb dX12_layWays_83 hl (k := 1) rfl rfl (by decide) rfl (fun ls hl => ?_)
    refine lv_goto (tgt := 2) hx hb dX12_layWays_86 (by decide) ?_
    exact hL2 h hw (lv_sub hl [1, 0] rfl)
  · have h := h.2 c14
    refine lv_lconst (v := 0) hx hb dX12_layWays_17 (by decide) ?_
    refine lv_lstore_n (lv' := [(3, .long (0 : Int64)), (0, .ref (ad 0)), (1, .int x1), (2, .int x2)]) hx hb dX12_layWays_18 rfl hl (by decide) rfl (fun ls hl => ?_)
    refine lv_iconst (v := 0) hx hb dX12_layWays_19 (by decide) ?_
    refine lv_istore (lv' := [(5, .int (0 : Int32)), (3, .long (0 : Int64)), (0, .ref (ad 0)), (1, .int x1), (2, .int x2)]) hx hb dX12_layWays_20 hl (by decide) rfl (fun ls hl => ?_)
    exact wl_X12_layWays_22 C hL2 hL12 h hw (lv_sub hl [2, 3, 4, 1, 0] rfl)
theorem wl_X12_layWays_12 {Q : MI → MJ → Prop} (C : gC RX12 cX12_layWays 6 none 30 ad cy D mE p s m args meth c) {kL2 : Int32 × MI × MJ → Prop} (hL2 : ∀ {x1 : Int32} {I : MI} {J : MJ} {H : Heap} {locs : List Loc} {ls : Array Slot}, kL2 (x1, I, J) → gH (mS ad cy) 30 ad D s I J H locs → lv_has ls 6 [(0, .ref (ad 0)), (1, .int x1)] → W p l e rmX12_layWays s m args below meth c H locs 0 0 (MQ below (gQv (mS ad cy) 30 ad cy D mE Q) args s 0 0 (gA 30 ad)) (F0 m 2 ls [])) {x1 : Int32} {x2 : Int32} {I : MI} {J : MJ} {H : Heap} {locs : List Loc} {ls : Array Slot} (h : lpx (P_X12_layWays_12 Q kL2) (x1, x2, I, J)) (hw : gH (mS ad cy) 30 ad D s I J H locs) (hl : lv_has ls 6 [(0, .ref (ad 0)), (1, .int x1), (2, .int x2)]) : W p l e rmX12_layWays s m args below meth c H locs 0 0 (MQ below (gQv (mS ad cy) 30 ad cy D mE Q) args s 0 0 (gA 30 ad)) (F0 m 12 ls []) := by
  obtain ⟨n, h⟩ := h
  induction n generalizing x1 x2 I J H locs ls with
  | zero => exact False.elim h
  | succ n ih => exact w_X12_layWays_12 C hL2 (fun hk9 hw9 hl9 => ih hw9 hl9 hk9) h hw hl
set_option maxHeartbeats 4000000 in
set_option maxRecDepth 100000 in
theorem w_X12_layWays_2 {Q : MI → MJ → Prop} (C : gC RX12 cX12_layWays 6 none 30 ad cy D mE p s m args meth c) {kL2 : Int32 × MI × MJ → Prop} (hL2 : ∀ {x1 : Int32} {I : MI} {J : MJ} {H : Heap} {locs : List Loc} {ls : Array Slot}, kL2 (x1, I, J) → gH (mS ad cy) 30 ad D s I J H locs → lv_has ls 6 [(0, .ref (ad 0)), (1, .int x1)] → W p l e rmX12_layWays s m args below meth c H locs 0 0 (MQ below (gQv (mS ad cy) 30 ad cy D mE Q) args s 0 0 (gA 30 ad)) (F0 m 2 ls [])) {x1 : Int32} {I : MI} {J : MJ} {H : Heap} {locs : List Loc} {ls : Array Slot} (h : P_X12_layWays_2 Q kL2 (x1, I, J)) (hw : gH (mS ad cy) 30 ad D s I J H locs) (hl : lv_has ls 6 [(0, .ref (ad 0)), (1, .int x1)]) : W p l e rmX12_layWays s m args below meth c H locs 0 0 (MQ below (gQv (mS ad cy) 30 ad cy D mE Q) args s 0 0 (gA 30 ad)) (F0 m 2 ls []) := by
  obtain ⟨hx, hb, hC⟩ := id C
  refine lv_iload_n hx hb dX12_layWays_2 rfl (lv_at hl 1 rfl) ?_
  refine lv_aload_n hx hb dX12_layWays_3 rfl (lv_at hl 0 rfl) ?_
  refine g_get C hw f_RX12_188 ml_0 (ms_0 _ _) rfl dX12_layWays_4 ?_
  refine lv_icmp_gt (tgt := 89) hx hb dX12_layWays_7 (by decide) (fun c7 => ?_) (fun c7 => ?_)
  · have h := h.1 c7
    exact g_vret C hw h dX12_layWays_89
  · have h := h.2 c7
    refine lv_iconst (v := 0) hx hb dX12_layWays_10 (by decide) ?_
    refine lv_istore_n (lv' := [(2, .int (0 : Int32)), (0, .ref (ad 0)), (1, .int x1)]) hx hb dX12_layWays_11 rfl hl (by decide) rfl (fun ls hl => ?_)
    exact wl_X12_layWays_12 C hL2 h hw (lv_sub hl [1, 2, 0] rfl)
theorem wl_X12_layWays_2 {Q : MI → MJ → Prop} (C : gC RX12 cX12_layWays 6 none 30 ad cy D mE p s m args meth c) {x1 : Int32} {I : MI} {J : MJ} {H : Heap} {locs : List Loc} {ls : Array Slot} (h : lpx (P_X12_layWays_2 Q) (x1, I, J)) (hw : gH (mS ad cy) 30 ad D s I J H locs) (hl : lv_has ls 6 [(0, .ref (ad 0)), (1, .int x1)]) : W p l e rmX12_layWays s m args below meth c H locs 0 0 (MQ below (gQv (mS ad cy) 30 ad cy D mE Q) args s 0 0 (gA 30 ad)) (F0 m 2 ls []) := by
  obtain ⟨n, h⟩ := h
  induction n generalizing x1 I J H locs ls with
  | zero => exact False.elim h
  | succ n ih => exact w_X12_layWays_2 C  (fun hk9 hw9 hl9 => ih hw9 hl9 hk9) h hw hl
set_option maxHeartbeats 4000000 in
set_option maxRecDepth 100000 in
theorem w_X12_layWays {Q : MI → MJ → Prop} (C : gC RX12 cX12_layWays 6 none 30 ad cy D mE p s m args meth c) {I : MI} {J : MJ} {H : Heap} {locs : List Loc} {ls : Array Slot} (h : P_X12_layWays I J Q) (hw : gH (mS ad cy) 30 ad D s I J H locs) (hl : lv_has ls 6 [(0, .ref (ad 0))]) : W p l e rmX12_layWays s m args below meth c H locs 0 0 (MQ below (gQv (mS ad cy) 30 ad cy D mE Q) args s 0 0 (gA 30 ad)) (F0 m 0 ls []) := by
  obtain ⟨hx, hb, hC⟩ := id C
  refine lv_iconst (v := 0) hx hb dX12_layWays_0 (by decide) ?_
  refine lv_istore_n (lv' := [(1, .int (0 : Int32)), (0, .ref (ad 0))]) hx hb dX12_layWays_1 rfl hl (by decide) rfl (fun ls hl => ?_)
  exact wl_X12_layWays_2 C  h hw (lv_sub hl [1, 0] rfl)
theorem m_X12_layWays {l : Launch} {Q : MI → MJ → Prop} {I : MI} {J : MJ} (h : P_X12_layWays I J Q) : Met l yX12_layWays (xws yX12_layWays cX12_layWays 6 none) rmX12_layWays (va_Pc [.ref (ad 0)] (gB (mS ad cy) 30 ad cy D mE I J)) (gQv (mS ad cy) 30 ad cy D mE Q) 0 0 (gA 30 ad) :=
  g_met (mE_ok ad) rfl (by decide) (Nat.le_of_ble_eq_true rfl) (fun p e s m below meth c ls C hw hl => w_X12_layWays C  h hw hl)
/-! BagPhrasesModel.all()J -/
def P_X12_all (I : MI) (J : MJ) (Q : Int64 → MI → MJ → Prop) : Prop :=
  vp_in (((5 : Int32) * (I 0 31)) + (4 : Int32)) 9720 ∧ (Q (J 22 (((5 : Int32) * (I 0 31)) + (4 : Int32)).toNatClampNeg) I J)
abbrev rmX12_all : Room := { frames := 0, cells := 0, slots := 0, locals := 0 }
set_option maxHeartbeats 4000000 in
set_option maxRecDepth 100000 in
theorem w_X12_all {Q : Int64 → MI → MJ → Prop} (C : gC RX12 cX12_all 1 (some .long) 30 ad cy D mE p s m args meth c) {I : MI} {J : MJ} {H : Heap} {locs : List Loc} {ls : Array Slot} (h : P_X12_all I J Q) (hw : gH (mS ad cy) 30 ad D s I J H locs) (hl : lv_has ls 1 [(0, .ref (ad 0))]) : W p l e rmX12_all s m args below meth c H locs 0 0 (MQ below (gQl (mS ad cy) 30 ad cy D mE Q) args s 0 0 (gA 30 ad)) (F0 m 0 ls []) := by
  obtain ⟨hx, hb, hC⟩ := id C
  refine lv_aload_n hx hb dX12_all_0 rfl (lv_at hl 0 rfl) ?_
  refine g_get C hw f_RX12_74 ml_0 (ms_0 _ _) rfl dX12_all_1 ?_
  refine lv_iconst (v := 5) hx hb dX12_all_4 (by decide) ?_
  refine lv_aload_n hx hb dX12_all_5 rfl (lv_at hl 0 rfl) ?_
  refine g_get C hw f_RX12_188 ml_0 (ms_0 _ _) rfl dX12_all_6 ?_
  refine lv_imul hx hb dX12_all_9 ?_
  refine lv_iconst (v := 4) hx hb dX12_all_10 (by decide) ?_
  refine lv_iadd hx hb dX12_all_11 ?_
  refine g_lald C hw ml_22 ms_22 h.1 dX12_all_12 ?_
  have h := h.2
  exact g_lret C hw h dX12_all_13
theorem m_X12_all {l : Launch} {Q : Int64 → MI → MJ → Prop} {I : MI} {J : MJ} (h : P_X12_all I J Q) : Met l yX12_all (xws yX12_all cX12_all 1 (some .long)) rmX12_all (va_Pc [.ref (ad 0)] (gB (mS ad cy) 30 ad cy D mE I J)) (gQl (mS ad cy) 30 ad cy D mE Q) 0 0 (gA 30 ad) :=
  g_met (mE_ok ad) rfl (by decide) (Nat.le_of_ble_eq_true rfl) (fun p e s m below meth c ls C hw hl => w_X12_all C  h hw hl)
/-! BagPhrasesModel.manyOf([I)J -/
def P_X12_manyOf (w0 : Nat) (I : MI) (J : MJ) (Q : Int64 → MI → MJ → Prop) : Prop :=
  P_X12_look w0 I J (fun I2 J2 => P_X12_layWays I2 J2 (fun I6 J6 => P_X12_all I6 J6 (fun r10 I10 J10 => Q r10 I10 J10)))
abbrev rmX12_manyOf : Room := { frames := 3, cells := 0, slots := 0, locals := 70 }
set_option maxHeartbeats 4000000 in
set_option maxRecDepth 100000 in
theorem w_X12_manyOf {Q : Int64 → MI → MJ → Prop} (C : gC RX12 cX12_manyOf 2 (some .long) 30 ad cy D mE p s m args meth c) {w0 : Nat} (hw0 : isRow w0) {I : MI} {J : MJ} {H : Heap} {locs : List Loc} {ls : Array Slot} (h : P_X12_manyOf w0 I J Q) (hw : gH (mS ad cy) 30 ad D s I J H locs) (hl : lv_has ls 2 [(0, .ref (ad 0)), (1, .ref (ad w0))]) : W p l e rmX12_manyOf s m args below meth c H locs 0 0 (MQ below (gQl (mS ad cy) 30 ad cy D mE Q) args s 0 0 (gA 30 ad)) (F0 m 0 ls []) := by
  obtain ⟨hx, hb, hC⟩ := id C
  refine lv_aload_n hx hb dX12_manyOf_0 rfl (lv_at hl 0 rfl) ?_
  refine lv_aload_n hx hb dX12_manyOf_1 rfl (lv_at hl 1 rfl) ?_
  refine g_cv hw (g_rV [.ref (ad w0)] [] C hw (m_X12_look hw0 h) k_X12_look q_RX12_202 ml_0 (ms_0 _ _) rfl rfl hl.1 rfl (Nat.le_of_ble_eq_true rfl) ⟨⟨rfl, rfl⟩, Nat.le_of_ble_eq_true rfl, Nat.le_of_ble_eq_true rfl⟩ ⟨Nat.zero_le _, Nat.zero_le _⟩ dX12_manyOf_2) (fun I2 J2 H locs h hw => ?_)
  refine lv_aload_n hx hb dX12_manyOf_5 rfl (lv_at hl 0 rfl) ?_
  refine g_cv hw (g_rV [] [] C hw (m_X12_layWays h) k_X12_layWays q_RX12_205 ml_0 (ms_0 _ _) rfl rfl hl.1 rfl (Nat.le_of_ble_eq_true rfl) ⟨⟨rfl, rfl⟩, Nat.le_of_ble_eq_true rfl, Nat.le_of_ble_eq_true rfl⟩ ⟨Nat.zero_le _, Nat.zero_le _⟩ dX12_manyOf_6) (fun I6 J6 H locs h hw => ?_)
  refine lv_aload_n hx hb dX12_manyOf_9 rfl (lv_at hl 0 rfl) ?_
  refine g_cl hw (g_rV [] [] C hw (m_X12_all h) k_X12_all q_RX12_208 ml_0 (ms_0 _ _) rfl rfl hl.1 rfl (Nat.le_of_ble_eq_true rfl) ⟨⟨rfl, rfl⟩, Nat.le_of_ble_eq_true rfl, Nat.le_of_ble_eq_true rfl⟩ ⟨Nat.zero_le _, Nat.zero_le _⟩ dX12_manyOf_10) (fun r10 I10 J10 H locs h hw => ?_)
  exact g_lret C hw h dX12_manyOf_13
theorem m_X12_manyOf {l : Launch} {w0 : Nat} (hw0 : isRow w0) {Q : Int64 → MI → MJ → Prop} {I : MI} {J : MJ} (h : P_X12_manyOf w0 I J Q) : Met l yX12_manyOf (xws yX12_manyOf cX12_manyOf 2 (some .long)) rmX12_manyOf (va_Pc [.ref (ad 0), .ref (ad w0)] (gB (mS ad cy) 30 ad cy D mE I J)) (gQl (mS ad cy) 30 ad cy D mE Q) 0 0 (gA 30 ad) :=
  g_met (mE_ok ad) rfl (by decide) (Nat.le_of_ble_eq_true rfl) (fun p e s m below meth c ls C hw hl => w_X12_manyOf C hw0 h hw hl)
/-! BagPhrasesModel.withWord([II)J -/
def P_X12_withWord (w0 : Nat) (a1 : Int32) (I : MI) (J : MJ) (Q : Int64 → MI → MJ → Prop) : Prop :=
  P_X12_manyOf w0 I J (fun r2 I2 J2 => (∀ I17 : MI, I17 = mI I2 0 32 ((I2 0 32) &&& (((1 : Int32) <<< (a1 &&& 31)) ^^^ (-1 : Int32))) → P_X12_layWays I17 J2 (fun I21 J21 => P_X12_all I21 J21 (fun r26 I26 J26 => Q (r2 - r26) I26 J26))))
abbrev rmX12_withWord : Room := { frames := 4, cells := 0, slots := 0, locals := 91 }
set_option maxHeartbeats 4000000 in
set_option maxRecDepth 100000 in
theorem w_X12_withWord {Q : Int64 → MI → MJ → Prop} (C : gC RX12 cX12_withWord 5 (some .long) 30 ad cy D mE p s m args meth c) {w0 : Nat} (hw0 : isRow w0) {a1 : Int32} {I : MI} {J : MJ} {H : Heap} {locs : List Loc} {ls : Array Slot} (h : P_X12_withWord w0 a1 I J Q) (hw : gH (mS ad cy) 30 ad D s I J H locs) (hl : lv_has ls 5 [(0, .ref (ad 0)), (1, .ref (ad w0)), (2, .int a1)]) : W p l e rmX12_withWord s m args below meth c H locs 0 0 (MQ below (gQl (mS ad cy) 30 ad cy D mE Q) args s 0 0 (gA 30 ad)) (F0 m 0 ls []) := by
  obtain ⟨hx, hb, hC⟩ := id C
  refine lv_aload_n hx hb dX12_withWord_0 rfl (lv_at hl 0 rfl) ?_
  refine lv_aload_n hx hb dX12_withWord_1 rfl (lv_at hl 1 rfl) ?_
  refine g_cl hw (g_rV [.ref (ad w0)] [] C hw (m_X12_manyOf hw0 h) k_X12_manyOf q_RX12_272 ml_0 (ms_0 _ _) rfl rfl hl.1 rfl (Nat.le_of_ble_eq_true rfl) ⟨⟨rfl, rfl⟩, Nat.le_of_ble_eq_true rfl, Nat.le_of_ble_eq_true rfl⟩ ⟨Nat.zero_le _, Nat.zero_le _⟩ dX12_withWord_2) (fun r2 I2 J2 H locs h hw => ?_)
  refine lv_lstore_n (lv' := [(3, .long r2), (0, .ref (ad 0)), (1, .ref (ad w0)), (2, .int a1)]) hx hb dX12_withWord_5 rfl hl (by decide) rfl (fun ls hl => ?_)
  refine lv_aload_n hx hb dX12_withWord_6 rfl (lv_at hl 1 rfl) ?_
  refine lv_dup hx hb dX12_withWord_7 rfl ?_
  refine g_get C hw f_RX12_191 ml_0 (ms_0 _ _) rfl dX12_withWord_8 ?_
  refine lv_iconst (v := 1) hx hb dX12_withWord_11 (by decide) ?_
  refine lv_iload_n hx hb dX12_withWord_12 rfl (lv_at hl 3 rfl) ?_
  refine lv_ishl hx hb dX12_withWord_13 ?_
  refine lv_iconst (v := -1) hx hb dX12_withWord_14 (by decide) ?_
  refine lv_ixor hx hb dX12_withWord_15 ?_
  refine lv_iand hx hb dX12_withWord_16 ?_
  refine g_putI C hw fp_RX12_191 ml_0 ms_0 (st_11_32 ad _) (Nat.le_of_ble_eq_true rfl) rfl rfl dX12_withWord_17 (fun H locs hw => ?_)
  obtain ⟨I17, e17⟩ : ∃ z : MI, z = mI I2 0 32 ((I2 0 32) &&& (((1 : Int32) <<< (a1 &&& 31)) ^^^ (-1 : Int32))) := ⟨_, rfl⟩
  have h := h I17 e17
  rw [← e17] at hw
  refine lv_aload_n hx hb dX12_withWord_20 rfl (lv_at hl 1 rfl) ?_
  refine g_cv hw (g_rV [] [] C hw (m_X12_layWays h) k_X12_layWays q_RX12_205 ml_0 (ms_0 _ _) rfl rfl hl.1 rfl (Nat.le_of_ble_eq_true rfl) ⟨⟨rfl, rfl⟩, Nat.le_of_ble_eq_true rfl, Nat.le_of_ble_eq_true rfl⟩ ⟨Nat.zero_le _, Nat.zero_le _⟩ dX12_withWord_21) (fun I21 J21 H locs h hw => ?_)
  refine lv_lload_n hx hb dX12_withWord_24 rfl (lv_at hl 0 rfl) ?_
  refine lv_aload_n hx hb dX12_withWord_25 rfl (lv_at hl 1 rfl) ?_
  refine g_cl hw (g_rV [] [.long r2] C hw (m_X12_all h) k_X12_all q_RX12_208 ml_0 (ms_0 _ _) rfl rfl hl.1 rfl (Nat.le_of_ble_eq_true rfl) ⟨⟨rfl, rfl⟩, Nat.le_of_ble_eq_true rfl, Nat.le_of_ble_eq_true rfl⟩ ⟨Nat.zero_le _, Nat.zero_le _⟩ dX12_withWord_26) (fun r26 I26 J26 H locs h hw => ?_)
  refine lv_lsub hx hb dX12_withWord_29 ?_
  exact g_lret C hw h dX12_withWord_30
theorem m_X12_withWord {l : Launch} {w0 : Nat} (hw0 : isRow w0) {a1 : Int32} {Q : Int64 → MI → MJ → Prop} {I : MI} {J : MJ} (h : P_X12_withWord w0 a1 I J Q) : Met l yX12_withWord (xws yX12_withWord cX12_withWord 5 (some .long)) rmX12_withWord (va_Pc [.ref (ad 0), .ref (ad w0), .int a1] (gB (mS ad cy) 30 ad cy D mE I J)) (gQl (mS ad cy) 30 ad cy D mE Q) 0 0 (gA 30 ad) :=
  g_met (mE_ok ad) rfl (by decide) (Nat.le_of_ble_eq_true rfl) (fun p e s m below meth c ls C hw hl => w_X12_withWord C hw0 h hw hl)
/-! BagPhrasesModel.inPhrases()I -/
def P_X12_inPhrases_34 (Q : Int32 → MI → MJ → Prop) (kL4 : Int32 × Int32 × MI × MJ → Prop) (x2 : Int32) (s0 : Int32) (s1 : Int32) (I : MI) (J : MJ) : Prop :=
  kL4 ((s0 ||| s1), (x2 + 1), I, J)
def P_X12_inPhrases_4 (Q : Int32 → MI → MJ → Prop) (kL4 : Int32 × Int32 × MI × MJ → Prop) : Int32 × Int32 × MI × MJ → Prop := fun z => match z with
  | (x1, x2, I, J) => (((I 0 2) ≤ x2 → Q x1 I J) ∧ (¬ (I 0 2) ≤ x2 → P_X12_withWord 6 x2 I J (fun r19 I19 J19 => ((r19 ≤ (0 : Int64) → P_X12_inPhrases_34 Q kL4 x2 x1 (0 : Int32) I19 J19) ∧ (¬ r19 ≤ (0 : Int64) → P_X12_inPhrases_34 Q kL4 x2 x1 ((1 : Int32) <<< (x2 &&& 31)) I19 J19)))))
def P_X12_inPhrases (I : MI) (J : MJ) (Q : Int32 → MI → MJ → Prop) : Prop :=
  lpx (P_X12_inPhrases_4 Q) ((0 : Int32), (0 : Int32), I, J)
abbrev rmX12_inPhrases : Room := { frames := 5, cells := 0, slots := 0, locals := 115 }
set_option maxHeartbeats 4000000 in
set_option maxRecDepth 100000 in
theorem w_X12_inPhrases_34 {Q : Int32 → MI → MJ → Prop} (C : gC RX12 cX12_inPhrases 3 (some .int) 30 ad cy D mE p s m args meth c) {kL4 : Int32 × Int32 × MI × MJ → Prop} (hL4 : ∀ {x1 : Int32} {x2 : Int32} {I : MI} {J : MJ} {H : Heap} {locs : List Loc} {ls : Array Slot}, kL4 (x1, x2, I, J) → gH (mS ad cy) 30 ad D s I J H locs → lv_has ls 3 [(0, .ref (ad 0)), (1, .int x1), (2, .int x2)] → W p l e rmX12_inPhrases s m args below meth c H locs 0 0 (MQ below (gQi (mS ad cy) 30 ad cy D mE Q) args s 0 0 (gA 30 ad)) (F0 m 4 ls [])) {x2 : Int32} {s0 : Int32} {s1 : Int32} {I : MI} {J : MJ} {H : Heap} {locs : List Loc} {ls : Array Slot} (h : P_X12_inPhrases_34 Q kL4 x2 s0 s1 I J) (hw : gH (mS ad cy) 30 ad D s I J H locs) (hl : lv_has ls 3 [(0, .ref (ad 0)), (2, .int x2)]) : W p l e rmX12_inPhrases s m args below meth c H locs 0 0 (MQ below (gQi (mS ad cy) 30 ad cy D mE Q) args s 0 0 (gA 30 ad)) (F0 m 34 ls [.int s1, .int s0]) := by
  obtain ⟨hx, hb, hC⟩ := id C
  refine lv_ior hx hb dX12_inPhrases_34 ?_
  refine lv_istore_n (lv' := [(1, .int (s0 ||| s1)), (0, .ref (ad 0)), (2, .int x2)]) hx hb dX12_inPhrases_35 rfl hl (by decide) rfl (fun ls hl => ?_)
  refine lv_iinc (v := x2 + 1) (lv' := [(2, .int (x2 + 1)), (1, .int (s0 ||| s1)), (0, .ref (ad 0))]) hx hb dX12_inPhrases_36 hl (k := 2) rfl rfl (by decide) rfl (fun ls hl => ?_)
  refine lv_goto (tgt := 4) hx hb dX12_inPhrases_39 (by decide) ?_
  exact hL4 h hw (lv_sub hl [2, 1, 0] rfl)
set_option maxHeartbeats 4000000 in
set_option maxRecDepth 100000 in
theorem w_X12_inPhrases_4 {Q : Int32 → MI → MJ → Prop} (C : gC RX12 cX12_inPhrases 3 (some .int) 30 ad cy D mE p s m args meth c) {kL4 : Int32 × Int32 × MI × MJ → Prop} (hL4 : ∀ {x1 : Int32} {x2 : Int32} {I : MI} {J : MJ} {H : Heap} {locs : List Loc} {ls : Array Slot}, kL4 (x1, x2, I, J) → gH (mS ad cy) 30 ad D s I J H locs → lv_has ls 3 [(0, .ref (ad 0)), (1, .int x1), (2, .int x2)] → W p l e rmX12_inPhrases s m args below meth c H locs 0 0 (MQ below (gQi (mS ad cy) 30 ad cy D mE Q) args s 0 0 (gA 30 ad)) (F0 m 4 ls [])) {x1 : Int32} {x2 : Int32} {I : MI} {J : MJ} {H : Heap} {locs : List Loc} {ls : Array Slot} (h : P_X12_inPhrases_4 Q kL4 (x1, x2, I, J)) (hw : gH (mS ad cy) 30 ad D s I J H locs) (hl : lv_has ls 3 [(0, .ref (ad 0)), (1, .int x1), (2, .int x2)]) : W p l e rmX12_inPhrases s m args below meth c H locs 0 0 (MQ below (gQi (mS ad cy) 30 ad cy D mE Q) args s 0 0 (gA 30 ad)) (F0 m 4 ls []) := by
  obtain ⟨hx, hb, hC⟩ := id C
  refine lv_iload_n hx hb dX12_inPhrases_4 rfl (lv_at hl 2 rfl) ?_
  refine lv_aload_n hx hb dX12_inPhrases_5 rfl (lv_at hl 0 rfl) ?_
  refine g_get C hw f_RX12_103 ml_0 (ms_0 _ _) rfl dX12_inPhrases_6 ?_
  refine lv_icmp_ge (tgt := 42) hx hb dX12_inPhrases_9 (by decide) (fun c9 => ?_) (fun c9 => ?_)
  · have h := h.1 c9
    refine lv_iload_n hx hb dX12_inPhrases_42 rfl (lv_at hl 1 rfl) ?_
    exact g_iret C hw h dX12_inPhrases_43
  · have h := h.2 c9
    refine lv_iload_n hx hb dX12_inPhrases_12 rfl (lv_at hl 1 rfl) ?_
    refine lv_aload_n hx hb dX12_inPhrases_13 rfl (lv_at hl 0 rfl) ?_
    refine lv_aload_n hx hb dX12_inPhrases_14 rfl (lv_at hl 0 rfl) ?_
    refine g_get C hw f_RX12_25 ml_0 (ms_0 _ _) rfl dX12_inPhrases_15 ?_
    refine lv_iload_n hx hb dX12_inPhrases_18 rfl (lv_at hl 2 rfl) ?_
    refine g_cl hw (g_rV [.ref (ad 6), .int x2] [.int x1] C hw (m_X12_withWord isRow_6 h) k_X12_withWord q_RX12_216 ml_0 (ms_0 _ _) rfl rfl hl.1 rfl (Nat.le_of_ble_eq_true rfl) ⟨⟨rfl, rfl⟩, Nat.le_of_ble_eq_true rfl, Nat.le_of_ble_eq_true rfl⟩ ⟨Nat.zero_le _, Nat.zero_le _⟩ dX12_inPhrases_19) (fun r19 I19 J19 H locs h hw => ?_)
    refine lv_lconst (v := 0) hx hb dX12_inPhrases_22 (by decide) ?_
    refine g_lcmp_le (tgt := 33) hx hb dX12_inPhrases_23 dX12_inPhrases_24 (by decide) (fun c23 => ?_) (fun c23 => ?_)
    · have h := h.1 c23
      refine lv_iconst (v := 0) hx hb dX12_inPhrases_33 (by decide) ?_
      exact w_X12_inPhrases_34 C hL4 h hw (lv_sub hl [0, 2] rfl)
    · have h := h.2 c23
      refine lv_iconst (v := 1) hx hb dX12_inPhrases_27 (by decide) ?_
      refine lv_iload_n hx hb dX12_inPhrases_28 rfl (lv_at hl 2 rfl) ?_
      refine lv_ishl hx hb dX12_inPhrases_29 ?_
      refine lv_goto (tgt := 34) hx hb dX12_inPhrases_30 (by decide) ?_
      exact w_X12_inPhrases_34 C hL4 h hw (lv_sub hl [0, 2] rfl)
theorem wl_X12_inPhrases_4 {Q : Int32 → MI → MJ → Prop} (C : gC RX12 cX12_inPhrases 3 (some .int) 30 ad cy D mE p s m args meth c) {x1 : Int32} {x2 : Int32} {I : MI} {J : MJ} {H : Heap} {locs : List Loc} {ls : Array Slot} (h : lpx (P_X12_inPhrases_4 Q) (x1, x2, I, J)) (hw : gH (mS ad cy) 30 ad D s I J H locs) (hl : lv_has ls 3 [(0, .ref (ad 0)), (1, .int x1), (2, .int x2)]) : W p l e rmX12_inPhrases s m args below meth c H locs 0 0 (MQ below (gQi (mS ad cy) 30 ad cy D mE Q) args s 0 0 (gA 30 ad)) (F0 m 4 ls []) := by
  obtain ⟨n, h⟩ := h
  induction n generalizing x1 x2 I J H locs ls with
  | zero => exact False.elim h
  | succ n ih => exact w_X12_inPhrases_4 C  (fun hk9 hw9 hl9 => ih hw9 hl9 hk9) h hw hl
set_option maxHeartbeats 4000000 in
set_option maxRecDepth 100000 in
theorem w_X12_inPhrases {Q : Int32 → MI → MJ → Prop} (C : gC RX12 cX12_inPhrases 3 (some .int) 30 ad cy D mE p s m args meth c) {I : MI} {J : MJ} {H : Heap} {locs : List Loc} {ls : Array Slot} (h : P_X12_inPhrases I J Q) (hw : gH (mS ad cy) 30 ad D s I J H locs) (hl : lv_has ls 3 [(0, .ref (ad 0))]) : W p l e rmX12_inPhrases s m args below meth c H locs 0 0 (MQ below (gQi (mS ad cy) 30 ad cy D mE Q) args s 0 0 (gA 30 ad)) (F0 m 0 ls []) := by
  obtain ⟨hx, hb, hC⟩ := id C
  refine lv_iconst (v := 0) hx hb dX12_inPhrases_0 (by decide) ?_
  refine lv_istore_n (lv' := [(1, .int (0 : Int32)), (0, .ref (ad 0))]) hx hb dX12_inPhrases_1 rfl hl (by decide) rfl (fun ls hl => ?_)
  refine lv_iconst (v := 0) hx hb dX12_inPhrases_2 (by decide) ?_
  refine lv_istore_n (lv' := [(2, .int (0 : Int32)), (1, .int (0 : Int32)), (0, .ref (ad 0))]) hx hb dX12_inPhrases_3 rfl hl (by decide) rfl (fun ls hl => ?_)
  exact wl_X12_inPhrases_4 C  h hw (lv_sub hl [2, 1, 0] rfl)
theorem m_X12_inPhrases {l : Launch} {Q : Int32 → MI → MJ → Prop} {I : MI} {J : MJ} (h : P_X12_inPhrases I J Q) : Met l yX12_inPhrases (xws yX12_inPhrases cX12_inPhrases 3 (some .int)) rmX12_inPhrases (va_Pc [.ref (ad 0)] (gB (mS ad cy) 30 ad cy D mE I J)) (gQi (mS ad cy) 30 ad cy D mE Q) 0 0 (gA 30 ad) :=
  g_met (mE_ok ad) rfl (by decide) (Nat.le_of_ble_eq_true rfl) (fun p e s m below meth c ls C hw hl => w_X12_inPhrases C  h hw hl)
/-! BagPhrasesModel.manyBy(I)J -/
def P_X12_manyBy_181 (Q : Int64 → MI → MJ → Prop) (kL29 : Int32 × Int32 × MI × MJ → Prop) (kL181 : Int32 × Int32 × Int32 × MI × MJ → Prop) : Int32 × Int32 × Int32 × MI × MJ → Prop := fun z => match z with
  | (x1, x2, x3, I, J) => (((((5 : Int32) * (I 0 31)) + (4 : Int32)) < x3 → kL29 (x1, (x2 + 1), I, J)) ∧ (¬ (((5 : Int32) * (I 0 31)) + (4 : Int32)) < x3 → vp_in x3 9720 ∧ (vp_in x3 9720 ∧ (∀ J204 : MJ, J204 = mJ J 23 x3.toNatClampNeg (J 24 x3.toNatClampNeg) → kL181 (x1, x2, (x3 + 1), I, J204)))))
def P_X12_manyBy_156 (Q : Int64 → MI → MJ → Prop) (kL29 : Int32 × Int32 × MI × MJ → Prop) (kL36 : Int32 × Int32 × Int32 × MI × MJ → Prop) (kL54 : Int32 × Int32 × Int32 × Int64 × Int32 × MI × MJ → Prop) (x1 : Int32) (x2 : Int32) (x3 : Int32) (x6 : Int32) (s0 : Int64) (s1 : Int64) (I : MI) (J : MJ) : Prop :=
  kL54 (x1, x2, x3, (s0 + s1), (x6 + 1), I, J)
def P_X12_manyBy_155 (Q : Int64 → MI → MJ → Prop) (kL29 : Int32 × Int32 × MI × MJ → Prop) (kL36 : Int32 × Int32 × Int32 × MI × MJ → Prop) (kL54 : Int32 × Int32 × Int32 × Int64 × Int32 × MI × MJ → Prop) (x1 : Int32) (x2 : Int32) (x3 : Int32) (x6 : Int32) (s0 : Int64) (I : MI) (J : MJ) : Prop :=
  P_X12_manyBy_156 Q kL29 kL36 kL54 x1 x2 x3 x6 s0 (0 : Int64) I J
def P_X12_manyBy_54 (Q : Int64 → MI → MJ → Prop) (kL29 : Int32 × Int32 × MI × MJ → Prop) (kL36 : Int32 × Int32 × Int32 × MI × MJ → Prop) (kL54 : Int32 × Int32 × Int32 × Int64 × Int32 × MI × MJ → Prop) : Int32 × Int32 × Int32 × Int64 × Int32 × MI × MJ → Prop := fun z => match z with
  | (x1, x2, x3, x4, x6, I, J) => (((I 0 2) ≤ x6 → vp_in x3 9720 ∧ (∀ J172 : MJ, J172 = mJ J 24 x3.toNatClampNeg x4 → kL36 (x1, x2, (x3 + 1), I, J172))) ∧ (¬ (I 0 2) ≤ x6 → vp_in x6 10 ∧ (P_X12_mayCome (x3 / (5 : Int32)) (x3 - x3 / (5 : Int32) * (5 : Int32)) x6 I J (fun r85 I85 J85 => ((¬ r85 = 0 → ((((x3 / (5 : Int32)) - (I 21 x6.toNatClampNeg)) ≤ 0 → ((¬ x2 = (1 : Int32) → P_X12_manyBy_155 Q kL29 kL36 kL54 x1 x2 x3 x6 x4 I85 J85) ∧ (x2 = (1 : Int32) → vp_in (20 : Int32) 25 ∧ (vp_in x6 10 ∧ (P_X12_has (I85 19 (20 : Int32).toNatClampNeg) (I85 4 x6.toNatClampNeg) I85 J85 (fun r145 I145 J145 => ((r145 = 0 → P_X12_manyBy_155 Q kL29 kL36 kL54 x1 x2 x3 x6 x4 I145 J145) ∧ (¬ r145 = 0 → P_X12_manyBy_156 Q kL29 kL36 kL54 x1 x2 x3 x6 x4 (1 : Int64) I145 J145)))))))) ∧ (¬ ((x3 / (5 : Int32)) - (I 21 x6.toNatClampNeg)) ≤ 0 → vp_in x6 10 ∧ (vp_in (((5 : Int32) * ((x3 / (5 : Int32)) - (I 21 x6.toNatClampNeg))) + (I85 4 x6.toNatClampNeg)) 9720 ∧ (P_X12_manyBy_156 Q kL29 kL36 kL54 x1 x2 x3 x6 x4 (J85 23 (((5 : Int32) * ((x3 / (5 : Int32)) - (I 21 x6.toNatClampNeg))) + (I85 4 x6.toNatClampNeg)).toNatClampNeg) I85 J85))))) ∧ (r85 = 0 → P_X12_manyBy_156 Q kL29 kL36 kL54 x1 x2 x3 x6 x4 (0 : Int64) I85 J85))))))
def P_X12_manyBy_36 (Q : Int64 → MI → MJ → Prop) (kL29 : Int32 × Int32 × MI × MJ → Prop) (kL36 : Int32 × Int32 × Int32 × MI × MJ → Prop) : Int32 × Int32 × Int32 × MI × MJ → Prop := fun z => match z with
  | (x1, x2, x3, I, J) => (((((5 : Int32) * (I 0 31)) + (4 : Int32)) < x3 → lpx (P_X12_manyBy_181 Q kL29) (x1, x2, (0 : Int32), I, J)) ∧ (¬ (((5 : Int32) * (I 0 31)) + (4 : Int32)) < x3 → lpx (P_X12_manyBy_54 Q kL29 kL36) (x1, x2, x3, (0 : Int64), (0 : Int32), I, J)))
def P_X12_manyBy_29 (Q : Int64 → MI → MJ → Prop) (kL29 : Int32 × Int32 × MI × MJ → Prop) : Int32 × Int32 × MI × MJ → Prop := fun z => match z with
  | (x1, x2, I, J) => ((x1 < x2 → vp_in (((5 : Int32) * (I 0 31)) + (4 : Int32)) 9720 ∧ (Q (J 23 (((5 : Int32) * (I 0 31)) + (4 : Int32)).toNatClampNeg) I J)) ∧ (¬ x1 < x2 → lpx (P_X12_manyBy_36 Q kL29) (x1, x2, (0 : Int32), I, J)))
def P_X12_manyBy_2 (Q : Int64 → MI → MJ → Prop) (kL2 : Int32 × Int32 × MI × MJ → Prop) : Int32 × Int32 × MI × MJ → Prop := fun z => match z with
  | (x1, x2, I, J) => (((((5 : Int32) * (I 0 31)) + (4 : Int32)) < x2 → lpx (P_X12_manyBy_29 Q) (x1, (1 : Int32), I, J)) ∧ (¬ (((5 : Int32) * (I 0 31)) + (4 : Int32)) < x2 → vp_in x2 9720 ∧ (∀ J20 : MJ, J20 = mJ J 23 x2.toNatClampNeg (0 : Int64) → kL2 (x1, (x2 + 1), I, J20))))
def P_X12_manyBy (a0 : Int32) (I : MI) (J : MJ) (Q : Int64 → MI → MJ → Prop) : Prop :=
  lpx (P_X12_manyBy_2 Q) (a0, (0 : Int32), I, J)
abbrev rmX12_manyBy : Room := { frames := 2, cells := 0, slots := 0, locals := 45 }
set_option maxHeartbeats 4000000 in
set_option maxRecDepth 100000 in
theorem w_X12_manyBy_181 {Q : Int64 → MI → MJ → Prop} (C : gC RX12 cX12_manyBy 9 (some .long) 30 ad cy D mE p s m args meth c) {kL29 : Int32 × Int32 × MI × MJ → Prop} (hL29 : ∀ {x1 : Int32} {x2 : Int32} {I : MI} {J : MJ} {H : Heap} {locs : List Loc} {ls : Array Slot}, kL29 (x1, x2, I, J) → gH (mS ad cy) 30 ad D s I J H locs → lv_has ls 9 [(0, .ref (ad 0)), (1, .int x1), (2, .int x2)] → W p l e rmX12_manyBy s m args below meth c H locs 0 0 (MQ below (gQl (mS ad cy) 30 ad cy D mE Q) args s 0 0 (gA 30 ad)) (F0 m 29 ls [])) {kL181 : Int32 × Int32 × Int32 × MI × MJ → Prop} (hL181 : ∀ {x1 : Int32} {x2 : Int32} {x3 : Int32} {I : MI} {J : MJ} {H : Heap} {locs : List Loc} {ls : Array Slot}, kL181 (x1, x2, x3, I, J) → gH (mS ad cy) 30 ad D s I J H locs → lv_has ls 9 [(0, .ref (ad 0)), (1, .int x1), (2, .int x2), (3, .int x3)] → W p l e rmX12_manyBy s m args below meth c H locs 0 0 (MQ below (gQl (mS ad cy) 30 ad cy D mE Q) args s 0 0 (gA 30 ad)) (F0 m 181 ls [])) {x1 : Int32} {x2 : Int32} {x3 : Int32} {I : MI} {J : MJ} {H : Heap} {locs : List Loc} {ls : Array Slot} (h : P_X12_manyBy_181 Q kL29 kL181 (x1, x2, x3, I, J)) (hw : gH (mS ad cy) 30 ad D s I J H locs) (hl : lv_has ls 9 [(0, .ref (ad 0)), (1, .int x1), (2, .int x2), (3, .int x3)]) : W p l e rmX12_manyBy s m args below meth c H locs 0 0 (MQ below (gQl (mS ad cy) 30 ad cy D mE Q) args s 0 0 (gA 30 ad)) (F0 m 181 ls []) := by
  obtain ⟨hx, hb, hC⟩ := id C
  refine lv_iload_n hx hb dX12_manyBy_181 rfl (lv_at hl 3 rfl) ?_
  refine lv_iconst (v := 5) hx hb dX12_manyBy_182 (by decide) ?_
  refine lv_aload_n hx hb dX12_manyBy_183 rfl (lv_at hl 0 rfl) ?_
  refine g_get C hw f_RX12_188 ml_0 (ms_0 _ _) rfl dX12_manyBy_184 ?_
  refine lv_imul hx hb dX12_manyBy_187 ?_
  refine lv_iconst (v := 4) hx hb dX12_manyBy_188 (by decide) ?_
  refine lv_iadd hx hb dX12_manyBy_189 ?_
  refine lv_icmp_gt (tgt := 211) hx hb dX12_manyBy_190 (by decide) (fun c190 => ?_) (fun c190 => ?_)
  · have h := h.1 c190
    refine lv_iinc (v := x2 + 1) (lv' := [(2, .int (x2 + 1)), (0, .ref (ad 0)), (1, .int x1), (3, .int x3)]) hx hb dX12_manyBy_211 hl (k := 2) rfl rfl (by decide) rfl (fun ls hl => ?_)
    refine lv_goto (tgt := 29) hx hb dX12_manyBy_214 (by decide) ?_
    exact hL29 h hw (lv_sub hl [1, 2, 0] rfl)
  · have h := h.2 c190
    refine lv_aload_n hx hb dX12_manyBy_193 rfl (lv_at hl 0 rfl) ?_
    refine g_get C hw f_RX12_78 ml_0 (ms_0 _ _) rfl dX12_manyBy_194 ?_
    refine lv_iload_n hx hb dX12_manyBy_197 rfl (lv_at hl 3 rfl) ?_
    refine lv_aload_n hx hb dX12_manyBy_198 rfl (lv_at hl 0 rfl) ?_
    refine g_get C hw f_RX12_81 ml_0 (ms_0 _ _) rfl dX12_manyBy_199 ?_
    refine lv_iload_n hx hb dX12_manyBy_202 rfl (lv_at hl 3 rfl) ?_
    refine g_lald C hw ml_24 ms_24 h.1 dX12_manyBy_203 ?_
    have h := h.2
    refine g_last C hw ml_23 ms_23 h.1 dX12_manyBy_204 (fun H locs hw => ?_)
    have h := h.2
    obtain ⟨J204, e204⟩ : ∃ z : MJ, z = mJ J 23 x3.toNatClampNeg (J 24 x3.toNatClampNeg) := ⟨_, rfl⟩
    have h := h J204 e204
    rw [← e204] at hw
    refine lv_iinc (v := x3 + 1) (lv' := [(3, .int (x3 + 1)), (0, .ref (ad 0)), (1, .int x1), (2, .int x2)]) hx hb dX12_manyBy_205 hl (k := 3) rfl rfl (by decide) rfl (fun ls hl => ?_)
    refine lv_goto (tgt := 181) hx hb dX12_manyBy_208 (by decide) ?_
    exact hL181 h hw (lv_sub hl [1, 2, 3, 0] rfl)
theorem wl_X12_manyBy_181 {Q : Int64 → MI → MJ → Prop} (C : gC RX12 cX12_manyBy 9 (some .long) 30 ad cy D mE p s m args meth c) {kL29 : Int32 × Int32 × MI × MJ → Prop} (hL29 : ∀ {x1 : Int32} {x2 : Int32} {I : MI} {J : MJ} {H : Heap} {locs : List Loc} {ls : Array Slot}, kL29 (x1, x2, I, J) → gH (mS ad cy) 30 ad D s I J H locs → lv_has ls 9 [(0, .ref (ad 0)), (1, .int x1), (2, .int x2)] → W p l e rmX12_manyBy s m args below meth c H locs 0 0 (MQ below (gQl (mS ad cy) 30 ad cy D mE Q) args s 0 0 (gA 30 ad)) (F0 m 29 ls [])) {x1 : Int32} {x2 : Int32} {x3 : Int32} {I : MI} {J : MJ} {H : Heap} {locs : List Loc} {ls : Array Slot} (h : lpx (P_X12_manyBy_181 Q kL29) (x1, x2, x3, I, J)) (hw : gH (mS ad cy) 30 ad D s I J H locs) (hl : lv_has ls 9 [(0, .ref (ad 0)), (1, .int x1), (2, .int x2), (3, .int x3)]) : W p l e rmX12_manyBy s m args below meth c H locs 0 0 (MQ below (gQl (mS ad cy) 30 ad cy D mE Q) args s 0 0 (gA 30 ad)) (F0 m 181 ls []) := by
  obtain ⟨n, h⟩ := h
  induction n generalizing x1 x2 x3 I J H locs ls with
  | zero => exact False.elim h
  | succ n ih => exact w_X12_manyBy_181 C hL29 (fun hk9 hw9 hl9 => ih hw9 hl9 hk9) h hw hl
set_option maxHeartbeats 4000000 in
set_option maxRecDepth 100000 in
theorem w_X12_manyBy_156 {Q : Int64 → MI → MJ → Prop} (C : gC RX12 cX12_manyBy 9 (some .long) 30 ad cy D mE p s m args meth c) {kL29 : Int32 × Int32 × MI × MJ → Prop} (hL29 : ∀ {x1 : Int32} {x2 : Int32} {I : MI} {J : MJ} {H : Heap} {locs : List Loc} {ls : Array Slot}, kL29 (x1, x2, I, J) → gH (mS ad cy) 30 ad D s I J H locs → lv_has ls 9 [(0, .ref (ad 0)), (1, .int x1), (2, .int x2)] → W p l e rmX12_manyBy s m args below meth c H locs 0 0 (MQ below (gQl (mS ad cy) 30 ad cy D mE Q) args s 0 0 (gA 30 ad)) (F0 m 29 ls [])) {kL36 : Int32 × Int32 × Int32 × MI × MJ → Prop} (hL36 : ∀ {x1 : Int32} {x2 : Int32} {x3 : Int32} {I : MI} {J : MJ} {H : Heap} {locs : List Loc} {ls : Array Slot}, kL36 (x1, x2, x3, I, J) → gH (mS ad cy) 30 ad D s I J H locs → lv_has ls 9 [(0, .ref (ad 0)), (1, .int x1), (2, .int x2), (3, .int x3)] → W p l e rmX12_manyBy s m args below meth c H locs 0 0 (MQ below (gQl (mS ad cy) 30 ad cy D mE Q) args s 0 0 (gA 30 ad)) (F0 m 36 ls [])) {kL54 : Int32 × Int32 × Int32 × Int64 × Int32 × MI × MJ → Prop} (hL54 : ∀ {x1 : Int32} {x2 : Int32} {x3 : Int32} {x4 : Int64} {x6 : Int32} {I : MI} {J : MJ} {H : Heap} {locs : List Loc} {ls : Array Slot}, kL54 (x1, x2, x3, x4, x6, I, J) → gH (mS ad cy) 30 ad D s I J H locs → lv_has ls 9 [(0, .ref (ad 0)), (1, .int x1), (2, .int x2), (3, .int x3), (4, .long x4), (6, .int x6)] → W p l e rmX12_manyBy s m args below meth c H locs 0 0 (MQ below (gQl (mS ad cy) 30 ad cy D mE Q) args s 0 0 (gA 30 ad)) (F0 m 54 ls [])) {x1 : Int32} {x2 : Int32} {x3 : Int32} {x6 : Int32} {s0 : Int64} {s1 : Int64} {I : MI} {J : MJ} {H : Heap} {locs : List Loc} {ls : Array Slot} (h : P_X12_manyBy_156 Q kL29 kL36 kL54 x1 x2 x3 x6 s0 s1 I J) (hw : gH (mS ad cy) 30 ad D s I J H locs) (hl : lv_has ls 9 [(0, .ref (ad 0)), (1, .int x1), (2, .int x2), (3, .int x3), (6, .int x6)]) : W p l e rmX12_manyBy s m args below meth c H locs 0 0 (MQ below (gQl (mS ad cy) 30 ad cy D mE Q) args s 0 0 (gA 30 ad)) (F0 m 156 ls [.long s1, .long s0]) := by
  obtain ⟨hx, hb, hC⟩ := id C
  refine lv_ladd hx hb dX12_manyBy_156 ?_
  refine lv_lstore (lv' := [(4, .long (s0 + s1)), (0, .ref (ad 0)), (1, .int x1), (2, .int x2), (3, .int x3), (6, .int x6)]) hx hb dX12_manyBy_157 hl (by decide) rfl (fun ls hl => ?_)
  refine lv_iinc (v := x6 + 1) (lv' := [(6, .int (x6 + 1)), (4, .long (s0 + s1)), (0, .ref (ad 0)), (1, .int x1), (2, .int x2), (3, .int x3)]) hx hb dX12_manyBy_159 hl (k := 5) rfl rfl (by decide) rfl (fun ls hl => ?_)
  refine lv_goto (tgt := 54) hx hb dX12_manyBy_162 (by decide) ?_
  exact hL54 h hw (lv_sub hl [2, 3, 4, 5, 1, 0] rfl)
set_option maxHeartbeats 4000000 in
set_option maxRecDepth 100000 in
theorem w_X12_manyBy_155 {Q : Int64 → MI → MJ → Prop} (C : gC RX12 cX12_manyBy 9 (some .long) 30 ad cy D mE p s m args meth c) {kL29 : Int32 × Int32 × MI × MJ → Prop} (hL29 : ∀ {x1 : Int32} {x2 : Int32} {I : MI} {J : MJ} {H : Heap} {locs : List Loc} {ls : Array Slot}, kL29 (x1, x2, I, J) → gH (mS ad cy) 30 ad D s I J H locs → lv_has ls 9 [(0, .ref (ad 0)), (1, .int x1), (2, .int x2)] → W p l e rmX12_manyBy s m args below meth c H locs 0 0 (MQ below (gQl (mS ad cy) 30 ad cy D mE Q) args s 0 0 (gA 30 ad)) (F0 m 29 ls [])) {kL36 : Int32 × Int32 × Int32 × MI × MJ → Prop} (hL36 : ∀ {x1 : Int32} {x2 : Int32} {x3 : Int32} {I : MI} {J : MJ} {H : Heap} {locs : List Loc} {ls : Array Slot}, kL36 (x1, x2, x3, I, J) → gH (mS ad cy) 30 ad D s I J H locs → lv_has ls 9 [(0, .ref (ad 0)), (1, .int x1), (2, .int x2), (3, .int x3)] → W p l e rmX12_manyBy s m args below meth c H locs 0 0 (MQ below (gQl (mS ad cy) 30 ad cy D mE Q) args s 0 0 (gA 30 ad)) (F0 m 36 ls [])) {kL54 : Int32 × Int32 × Int32 × Int64 × Int32 × MI × MJ → Prop} (hL54 : ∀ {x1 : Int32} {x2 : Int32} {x3 : Int32} {x4 : Int64} {x6 : Int32} {I : MI} {J : MJ} {H : Heap} {locs : List Loc} {ls : Array Slot}, kL54 (x1, x2, x3, x4, x6, I, J) → gH (mS ad cy) 30 ad D s I J H locs → lv_has ls 9 [(0, .ref (ad 0)), (1, .int x1), (2, .int x2), (3, .int x3), (4, .long x4), (6, .int x6)] → W p l e rmX12_manyBy s m args below meth c H locs 0 0 (MQ below (gQl (mS ad cy) 30 ad cy D mE Q) args s 0 0 (gA 30 ad)) (F0 m 54 ls [])) {x1 : Int32} {x2 : Int32} {x3 : Int32} {x6 : Int32} {s0 : Int64} {I : MI} {J : MJ} {H : Heap} {locs : List Loc} {ls : Array Slot} (h : P_X12_manyBy_155 Q kL29 kL36 kL54 x1 x2 x3 x6 s0 I J) (hw : gH (mS ad cy) 30 ad D s I J H locs) (hl : lv_has ls 9 [(0, .ref (ad 0)), (1, .int x1), (2, .int x2), (3, .int x3), (6, .int x6)]) : W p l e rmX12_manyBy s m args below meth c H locs 0 0 (MQ below (gQl (mS ad cy) 30 ad cy D mE Q) args s 0 0 (gA 30 ad)) (F0 m 155 ls [.long s0]) := by
  obtain ⟨hx, hb, hC⟩ := id C
  refine lv_lconst (v := 0) hx hb dX12_manyBy_155 (by decide) ?_
  exact w_X12_manyBy_156 C hL29 hL36 hL54 h hw (lv_sub hl [0, 1, 2, 3, 4] rfl)
set_option maxHeartbeats 4000000 in
set_option maxRecDepth 100000 in
theorem w_X12_manyBy_54 {Q : Int64 → MI → MJ → Prop} (C : gC RX12 cX12_manyBy 9 (some .long) 30 ad cy D mE p s m args meth c) {kL29 : Int32 × Int32 × MI × MJ → Prop} (hL29 : ∀ {x1 : Int32} {x2 : Int32} {I : MI} {J : MJ} {H : Heap} {locs : List Loc} {ls : Array Slot}, kL29 (x1, x2, I, J) → gH (mS ad cy) 30 ad D s I J H locs → lv_has ls 9 [(0, .ref (ad 0)), (1, .int x1), (2, .int x2)] → W p l e rmX12_manyBy s m args below meth c H locs 0 0 (MQ below (gQl (mS ad cy) 30 ad cy D mE Q) args s 0 0 (gA 30 ad)) (F0 m 29 ls [])) {kL36 : Int32 × Int32 × Int32 × MI × MJ → Prop} (hL36 : ∀ {x1 : Int32} {x2 : Int32} {x3 : Int32} {I : MI} {J : MJ} {H : Heap} {locs : List Loc} {ls : Array Slot}, kL36 (x1, x2, x3, I, J) → gH (mS ad cy) 30 ad D s I J H locs → lv_has ls 9 [(0, .ref (ad 0)), (1, .int x1), (2, .int x2), (3, .int x3)] → W p l e rmX12_manyBy s m args below meth c H locs 0 0 (MQ below (gQl (mS ad cy) 30 ad cy D mE Q) args s 0 0 (gA 30 ad)) (F0 m 36 ls [])) {kL54 : Int32 × Int32 × Int32 × Int64 × Int32 × MI × MJ → Prop} (hL54 : ∀ {x1 : Int32} {x2 : Int32} {x3 : Int32} {x4 : Int64} {x6 : Int32} {I : MI} {J : MJ} {H : Heap} {locs : List Loc} {ls : Array Slot}, kL54 (x1, x2, x3, x4, x6, I, J) → gH (mS ad cy) 30 ad D s I J H locs → lv_has ls 9 [(0, .ref (ad 0)), (1, .int x1), (2, .int x2), (3, .int x3), (4, .long x4), (6, .int x6)] → W p l e rmX12_manyBy s m args below meth c H locs 0 0 (MQ below (gQl (mS ad cy) 30 ad cy D mE Q) args s 0 0 (gA 30 ad)) (F0 m 54 ls [])) {x1 : Int32} {x2 : Int32} {x3 : Int32} {x4 : Int64} {x6 : Int32} {I : MI} {J : MJ} {H : Heap} {locs : List Loc} {ls : Array Slot} (h : P_X12_manyBy_54 Q kL29 kL36 kL54 (x1, x2, x3, x4, x6, I, J)) (hw : gH (mS ad cy) 30 ad D s I J H locs) (hl : lv_has ls 9 [(0, .ref (ad 0)), (1, .int x1), (2, .int x2), (3, .int x3), (4, .long x4), (6, .int x6)]) : W p l e rmX12_manyBy s m args below meth c H locs 0 0 (MQ below (gQl (mS ad cy) 30 ad cy D mE Q) args s 0 0 (gA 30 ad)) (F0 m 54 ls []) := by
  obtain ⟨hx, hb, hC⟩ := id C
  refine lv_iload hx hb dX12_manyBy_54 (lv_at hl 5 rfl) ?_
  refine lv_aload_n hx hb dX12_manyBy_56 rfl (lv_at hl 0 rfl) ?_
  refine g_get C hw f_RX12_103 ml_0 (ms_0 _ _) rfl dX12_manyBy_57 ?_
  refine lv_icmp_ge (tgt := 165) hx hb dX12_manyBy_60 (by decide) (fun c60 => ?_) (fun c60 => ?_)
  · have h := h.1 c60
    refine lv_aload_n hx hb dX12_manyBy_165 rfl (lv_at hl 0 rfl) ?_
    refine g_get C hw f_RX12_81 ml_0 (ms_0 _ _) rfl dX12_manyBy_166 ?_
    refine lv_iload_n hx hb dX12_manyBy_169 rfl (lv_at hl 3 rfl) ?_
    refine lv_lload hx hb dX12_manyBy_170 (lv_at hl 4 rfl) ?_
    refine g_last C hw ml_24 ms_24 h.1 dX12_manyBy_172 (fun H locs hw => ?_)
    have h := h.2
    obtain ⟨J172, e172⟩ : ∃ z : MJ, z = mJ J 24 x3.toNatClampNeg x4 := ⟨_, rfl⟩
    have h := h J172 e172
    rw [← e172] at hw
    refine lv_iinc (v := x3 + 1) (lv' := [(3, .int (x3 + 1)), (0, .ref (ad 0)), (1, .int x1), (2, .int x2), (4, .long x4), (6, .int x6)]) hx hb dX12_manyBy_173 hl (k := 3) rfl rfl (by decide) rfl (fun ls hl => ?_)
    refine lv_goto (tgt := 36) hx hb dX12_manyBy_176 (by decide) ?_
    exact hL36 h hw (lv_sub hl [1, 2, 3, 0] rfl)
  · have h := h.2 c60
    refine lv_iload_n hx hb dX12_manyBy_63 rfl (lv_at hl 3 rfl) ?_
    refine lv_iconst (v := 5) hx hb dX12_manyBy_64 (by decide) ?_
    refine lv_idiv hx hb dX12_manyBy_65 (by decide) ?_
    refine lv_aload_n hx hb dX12_manyBy_66 rfl (lv_at hl 0 rfl) ?_
    refine g_get C hw f_RX12_71 ml_0 (ms_0 _ _) rfl dX12_manyBy_67 ?_
    refine lv_iload hx hb dX12_manyBy_70 (lv_at hl 5 rfl) ?_
    refine g_iald C hw ml_21 ms_21 h.1 dX12_manyBy_72 ?_
    have h := h.2
    refine lv_isub hx hb dX12_manyBy_73 ?_
    refine lv_istore (lv' := [(7, .int ((x3 / (5 : Int32)) - (I 21 x6.toNatClampNeg))), (0, .ref (ad 0)), (1, .int x1), (2, .int x2), (3, .int x3), (4, .long x4), (6, .int x6)]) hx hb dX12_manyBy_74 hl (by decide) rfl (fun ls hl => ?_)
    refine lv_aload_n hx hb dX12_manyBy_76 rfl (lv_at hl 1 rfl) ?_
    refine lv_iload_n hx hb dX12_manyBy_77 rfl (lv_at hl 4 rfl) ?_
    refine lv_iconst (v := 5) hx hb dX12_manyBy_78 (by decide) ?_
    refine lv_idiv hx hb dX12_manyBy_79 (by decide) ?_
    refine lv_iload_n hx hb dX12_manyBy_80 rfl (lv_at hl 4 rfl) ?_
    refine lv_iconst (v := 5) hx hb dX12_manyBy_81 (by decide) ?_
    refine lv_irem hx hb dX12_manyBy_82 (by decide) ?_
    refine lv_iload hx hb dX12_manyBy_83 (lv_at hl 6 rfl) ?_
    refine g_cz hw (g_rV [.int (x3 / (5 : Int32)), .int (x3 - x3 / (5 : Int32) * (5 : Int32)), .int x6] [] C hw (m_X12_mayCome h) k_X12_mayCome q_RX12_194 ml_0 (ms_0 _ _) rfl rfl hl.1 rfl (Nat.le_of_ble_eq_true rfl) ⟨⟨rfl, rfl⟩, Nat.le_of_ble_eq_true rfl, Nat.le_of_ble_eq_true rfl⟩ ⟨Nat.zero_le _, Nat.zero_le _⟩ dX12_manyBy_85) (fun r85 I85 J85 H locs z85 h hw => ?_)
    refine lv_istore (lv' := [(8, .int r85), (7, .int ((x3 / (5 : Int32)) - (I 21 x6.toNatClampNeg))), (0, .ref (ad 0)), (1, .int x1), (2, .int x2), (3, .int x3), (4, .long x4), (6, .int x6)]) hx hb dX12_manyBy_88 hl (by decide) rfl (fun ls hl => ?_)
    refine lv_lload hx hb dX12_manyBy_90 (lv_at hl 6 rfl) ?_
    refine lv_iload hx hb dX12_manyBy_92 (lv_at hl 0 rfl) ?_
    refine lv_if_ne (tgt := 101) hx hb dX12_manyBy_94 (by decide) (fun c94 => ?_) (fun c94 => ?_)
    · have h := h.1 c94
      refine lv_iload hx hb dX12_manyBy_101 (lv_at hl 1 rfl) ?_
      refine lv_if_le (tgt := 126) hx hb dX12_manyBy_103 (by decide) (fun c103 => ?_) (fun c103 => ?_)
      · have h := h.1 c103
        refine lv_iload_n hx hb dX12_manyBy_126 rfl (lv_at hl 4 rfl) ?_
        refine lv_iconst (v := 1) hx hb dX12_manyBy_127 (by decide) ?_
        refine lv_icmp_ne (tgt := 155) hx hb dX12_manyBy_128 (by decide) (fun c128 => ?_) (fun c128 => ?_)
        · have h := h.1 c128
          exact w_X12_manyBy_155 C hL29 hL36 hL54 h hw (lv_sub hl [2, 3, 4, 5, 7] rfl)
        · have h := h.2 c128
          refine lv_aload_n hx hb dX12_manyBy_131 rfl (lv_at hl 2 rfl) ?_
          refine g_get C hw f_RX12_65 ml_0 (ms_0 _ _) rfl dX12_manyBy_132 ?_
          refine lv_bipush (v := 20) hx hb dX12_manyBy_135 (by decide) ?_
          refine g_iald C hw ml_19 ms_19 h.1 dX12_manyBy_137 ?_
          have h := h.2
          refine lv_aload_n hx hb dX12_manyBy_138 rfl (lv_at hl 2 rfl) ?_
          refine g_get C hw f_RX12_19 ml_0 (ms_0 _ _) rfl dX12_manyBy_139 ?_
          refine lv_iload hx hb dX12_manyBy_142 (lv_at hl 7 rfl) ?_
          refine g_iald C hw ml_4 ms_4 h.1 dX12_manyBy_144 ?_
          have h := h.2
          refine g_cz hw (g_rS [.int (I85 19 (20 : Int32).toNatClampNeg), .int (I85 4 x6.toNatClampNeg)] [.long x4] C hw (m_X12_has h) k_X12_has q_RX12_149 rfl hl.1 rfl (Nat.le_of_ble_eq_true rfl) ⟨⟨rfl, rfl⟩, Nat.le_of_ble_eq_true rfl, Nat.le_of_ble_eq_true rfl⟩ ⟨Nat.zero_le _, Nat.zero_le _⟩ dX12_manyBy_145) (fun r145 I145 J145 H locs z145 h hw => ?_)
          refine lv_if_eq (tgt := 155) hx hb dX12_manyBy_148 (by decide) (fun c148 => ?_) (fun c148 => ?_)
          · have h := h.1 c148
            exact w_X12_manyBy_155 C hL29 hL36 hL54 h hw (lv_sub hl [2, 3, 4, 5, 7] rfl)
          · have h := h.2 c148
            refine lv_lconst (v := 1) hx hb dX12_manyBy_151 (by decide) ?_
            refine lv_goto (tgt := 156) hx hb dX12_manyBy_152 (by decide) ?_
            exact w_X12_manyBy_156 C hL29 hL36 hL54 h hw (lv_sub hl [2, 3, 4, 5, 7] rfl)
      · have h := h.2 c103
        refine lv_aload_n hx hb dX12_manyBy_106 rfl (lv_at hl 2 rfl) ?_
        refine g_get C hw f_RX12_78 ml_0 (ms_0 _ _) rfl dX12_manyBy_107 ?_
        refine lv_iconst (v := 5) hx hb dX12_manyBy_110 (by decide) ?_
        refine lv_iload hx hb dX12_manyBy_111 (lv_at hl 1 rfl) ?_
        refine lv_imul hx hb dX12_manyBy_113 ?_
        refine lv_aload_n hx hb dX12_manyBy_114 rfl (lv_at hl 2 rfl) ?_
        refine g_get C hw f_RX12_19 ml_0 (ms_0 _ _) rfl dX12_manyBy_115 ?_
        refine lv_iload hx hb dX12_manyBy_118 (lv_at hl 7 rfl) ?_
        refine g_iald C hw ml_4 ms_4 h.1 dX12_manyBy_120 ?_
        have h := h.2
        refine lv_iadd hx hb dX12_manyBy_121 ?_
        refine g_lald C hw ml_23 ms_23 h.1 dX12_manyBy_122 ?_
        have h := h.2
        refine lv_goto (tgt := 156) hx hb dX12_manyBy_123 (by decide) ?_
        exact w_X12_manyBy_156 C hL29 hL36 hL54 h hw (lv_sub hl [2, 3, 4, 5, 7] rfl)
    · have h := h.2 c94
      refine lv_lconst (v := 0) hx hb dX12_manyBy_97 (by decide) ?_
      refine lv_goto (tgt := 156) hx hb dX12_manyBy_98 (by decide) ?_
      exact w_X12_manyBy_156 C hL29 hL36 hL54 h hw (lv_sub hl [2, 3, 4, 5, 7] rfl)
theorem wl_X12_manyBy_54 {Q : Int64 → MI → MJ → Prop} (C : gC RX12 cX12_manyBy 9 (some .long) 30 ad cy D mE p s m args meth c) {kL29 : Int32 × Int32 × MI × MJ → Prop} (hL29 : ∀ {x1 : Int32} {x2 : Int32} {I : MI} {J : MJ} {H : Heap} {locs : List Loc} {ls : Array Slot}, kL29 (x1, x2, I, J) → gH (mS ad cy) 30 ad D s I J H locs → lv_has ls 9 [(0, .ref (ad 0)), (1, .int x1), (2, .int x2)] → W p l e rmX12_manyBy s m args below meth c H locs 0 0 (MQ below (gQl (mS ad cy) 30 ad cy D mE Q) args s 0 0 (gA 30 ad)) (F0 m 29 ls [])) {kL36 : Int32 × Int32 × Int32 × MI × MJ → Prop} (hL36 : ∀ {x1 : Int32} {x2 : Int32} {x3 : Int32} {I : MI} {J : MJ} {H : Heap} {locs : List Loc} {ls : Array Slot}, kL36 (x1, x2, x3, I, J) → gH (mS ad cy) 30 ad D s I J H locs → lv_has ls 9 [(0, .ref (ad 0)), (1, .int x1), (2, .int x2), (3, .int x3)] → W p l e rmX12_manyBy s m args below meth c H locs 0 0 (MQ below (gQl (mS ad cy) 30 ad cy D mE Q) args s 0 0 (gA 30 ad)) (F0 m 36 ls [])) {x1 : Int32} {x2 : Int32} {x3 : Int32} {x4 : Int64} {x6 : Int32} {I : MI} {J : MJ} {H : Heap} {locs : List Loc} {ls : Array Slot} (h : lpx (P_X12_manyBy_54 Q kL29 kL36) (x1, x2, x3, x4, x6, I, J)) (hw : gH (mS ad cy) 30 ad D s I J H locs) (hl : lv_has ls 9 [(0, .ref (ad 0)), (1, .int x1), (2, .int x2), (3, .int x3), (4, .long x4), (6, .int x6)]) : W p l e rmX12_manyBy s m args below meth c H locs 0 0 (MQ below (gQl (mS ad cy) 30 ad cy D mE Q) args s 0 0 (gA 30 ad)) (F0 m 54 ls []) := by
  obtain ⟨n, h⟩ := h
  induction n generalizing x1 x2 x3 x4 x6 I J H locs ls with
  | zero => exact False.elim h
  | succ n ih => exact w_X12_manyBy_54 C hL29 hL36 (fun hk9 hw9 hl9 => ih hw9 hl9 hk9) h hw hl
set_option maxHeartbeats 4000000 in
set_option maxRecDepth 100000 in
theorem w_X12_manyBy_36 {Q : Int64 → MI → MJ → Prop} (C : gC RX12 cX12_manyBy 9 (some .long) 30 ad cy D mE p s m args meth c) {kL29 : Int32 × Int32 × MI × MJ → Prop} (hL29 : ∀ {x1 : Int32} {x2 : Int32} {I : MI} {J : MJ} {H : Heap} {locs : List Loc} {ls : Array Slot}, kL29 (x1, x2, I, J) → gH (mS ad cy) 30 ad D s I J H locs → lv_has ls 9 [(0, .ref (ad 0)), (1, .int x1), (2, .int x2)] → W p l e rmX12_manyBy s m args below meth c H locs 0 0 (MQ below (gQl (mS ad cy) 30 ad cy D mE Q) args s 0 0 (gA 30 ad)) (F0 m 29 ls [])) {kL36 : Int32 × Int32 × Int32 × MI × MJ → Prop} (hL36 : ∀ {x1 : Int32} {x2 : Int32} {x3 : Int32} {I : MI} {J : MJ} {H : Heap} {locs : List Loc} {ls : Array Slot}, kL36 (x1, x2, x3, I, J) → gH (mS ad cy) 30 ad D s I J H locs → lv_has ls 9 [(0, .ref (ad 0)), (1, .int x1), (2, .int x2), (3, .int x3)] → W p l e rmX12_manyBy s m args below meth c H locs 0 0 (MQ below (gQl (mS ad cy) 30 ad cy D mE Q) args s 0 0 (gA 30 ad)) (F0 m 36 ls [])) {x1 : Int32} {x2 : Int32} {x3 : Int32} {I : MI} {J : MJ} {H : Heap} {locs : List Loc} {ls : Array Slot} (h : P_X12_manyBy_36 Q kL29 kL36 (x1, x2, x3, I, J)) (hw : gH (mS ad cy) 30 ad D s I J H locs) (hl : lv_has ls 9 [(0, .ref (ad 0)), (1, .int x1), (2, .int x2), (3, .int x3)]) : W p l e rmX12_manyBy s m args below meth c H locs 0 0 (MQ below (gQl (mS ad cy) 30 ad cy D mE Q) args s 0 0 (gA 30 ad)) (F0 m 36 ls []) := by
  obtain ⟨hx, hb, hC⟩ := id C
  refine lv_iload_n hx hb dX12_manyBy_36 rfl (lv_at hl 3 rfl) ?_
  refine lv_iconst (v := 5) hx hb dX12_manyBy_37 (by decide) ?_
  refine lv_aload_n hx hb dX12_manyBy_38 rfl (lv_at hl 0 rfl) ?_
  refine g_get C hw f_RX12_188 ml_0 (ms_0 _ _) rfl dX12_manyBy_39 ?_
  refine lv_imul hx hb dX12_manyBy_42 ?_
  refine lv_iconst (v := 4) hx hb dX12_manyBy_43 (by decide) ?_
  refine lv_iadd hx hb dX12_manyBy_44 ?_
  refine lv_icmp_gt (tgt := 179) hx hb dX12_manyBy_45 (by decide) (fun c45 => ?_) (fun c45 => ?_)
  · have h := h.1 c45
    refine lv_iconst (v := 0) hx hb dX12_manyBy_179 (by decide) ?_
    refine lv_istore_n (lv' := [(3, .int (0 : Int32)), (0, .ref (ad 0)), (1, .int x1), (2, .int x2)]) hx hb dX12_manyBy_180 rfl hl (by decide) rfl (fun ls hl => ?_)
    exact wl_X12_manyBy_181 C hL29 h hw (lv_sub hl [1, 2, 3, 0] rfl)
  · have h := h.2 c45
    refine lv_lconst (v := 0) hx hb dX12_manyBy_48 (by decide) ?_
    refine lv_lstore (lv' := [(4, .long (0 : Int64)), (0, .ref (ad 0)), (1, .int x1), (2, .int x2), (3, .int x3)]) hx hb dX12_manyBy_49 hl (by decide) rfl (fun ls hl => ?_)
    refine lv_iconst (v := 0) hx hb dX12_manyBy_51 (by decide) ?_
    refine lv_istore (lv' := [(6, .int (0 : Int32)), (4, .long (0 : Int64)), (0, .ref (ad 0)), (1, .int x1), (2, .int x2), (3, .int x3)]) hx hb dX12_manyBy_52 hl (by decide) rfl (fun ls hl => ?_)
    exact wl_X12_manyBy_54 C hL29 hL36 h hw (lv_sub hl [2, 3, 4, 5, 1, 0] rfl)
theorem wl_X12_manyBy_36 {Q : Int64 → MI → MJ → Prop} (C : gC RX12 cX12_manyBy 9 (some .long) 30 ad cy D mE p s m args meth c) {kL29 : Int32 × Int32 × MI × MJ → Prop} (hL29 : ∀ {x1 : Int32} {x2 : Int32} {I : MI} {J : MJ} {H : Heap} {locs : List Loc} {ls : Array Slot}, kL29 (x1, x2, I, J) → gH (mS ad cy) 30 ad D s I J H locs → lv_has ls 9 [(0, .ref (ad 0)), (1, .int x1), (2, .int x2)] → W p l e rmX12_manyBy s m args below meth c H locs 0 0 (MQ below (gQl (mS ad cy) 30 ad cy D mE Q) args s 0 0 (gA 30 ad)) (F0 m 29 ls [])) {x1 : Int32} {x2 : Int32} {x3 : Int32} {I : MI} {J : MJ} {H : Heap} {locs : List Loc} {ls : Array Slot} (h : lpx (P_X12_manyBy_36 Q kL29) (x1, x2, x3, I, J)) (hw : gH (mS ad cy) 30 ad D s I J H locs) (hl : lv_has ls 9 [(0, .ref (ad 0)), (1, .int x1), (2, .int x2), (3, .int x3)]) : W p l e rmX12_manyBy s m args below meth c H locs 0 0 (MQ below (gQl (mS ad cy) 30 ad cy D mE Q) args s 0 0 (gA 30 ad)) (F0 m 36 ls []) := by
  obtain ⟨n, h⟩ := h
  induction n generalizing x1 x2 x3 I J H locs ls with
  | zero => exact False.elim h
  | succ n ih => exact w_X12_manyBy_36 C hL29 (fun hk9 hw9 hl9 => ih hw9 hl9 hk9) h hw hl
set_option maxHeartbeats 4000000 in
set_option maxRecDepth 100000 in
theorem w_X12_manyBy_29 {Q : Int64 → MI → MJ → Prop} (C : gC RX12 cX12_manyBy 9 (some .long) 30 ad cy D mE p s m args meth c) {kL29 : Int32 × Int32 × MI × MJ → Prop} (hL29 : ∀ {x1 : Int32} {x2 : Int32} {I : MI} {J : MJ} {H : Heap} {locs : List Loc} {ls : Array Slot}, kL29 (x1, x2, I, J) → gH (mS ad cy) 30 ad D s I J H locs → lv_has ls 9 [(0, .ref (ad 0)), (1, .int x1), (2, .int x2)] → W p l e rmX12_manyBy s m args below meth c H locs 0 0 (MQ below (gQl (mS ad cy) 30 ad cy D mE Q) args s 0 0 (gA 30 ad)) (F0 m 29 ls [])) {x1 : Int32} {x2 : Int32} {I : MI} {J : MJ} {H : Heap} {locs : List Loc} {ls : Array Slot} (h : P_X12_manyBy_29 Q kL29 (x1, x2, I, J)) (hw : gH (mS ad cy) 30 ad D s I J H locs) (hl : lv_has ls 9 [(0, .ref (ad 0)), (1, .int x1), (2, .int x2)]) : W p l e rmX12_manyBy s m args below meth c H locs 0 0 (MQ below (gQl (mS ad cy) 30 ad cy D mE Q) args s 0 0 (gA 30 ad)) (F0 m 29 ls []) := by
  obtain ⟨hx, hb, hC⟩ := id C
  refine lv_iload_n hx hb dX12_manyBy_29 rfl (lv_at hl 2 rfl) ?_
  refine lv_iload_n hx hb dX12_manyBy_30 rfl (lv_at hl 1 rfl) ?_
  refine lv_icmp_gt (tgt := 217) hx hb dX12_manyBy_31 (by decide) (fun c31 => ?_) (fun c31 => ?_)
  · have h := h.1 c31
    refine lv_aload_n hx hb dX12_manyBy_217 rfl (lv_at hl 0 rfl) ?_
    refine g_get C hw f_RX12_78 ml_0 (ms_0 _ _) rfl dX12_manyBy_218 ?_
    refine lv_iconst (v := 5) hx hb dX12_manyBy_221 (by decide) ?_
    refine lv_aload_n hx hb dX12_manyBy_222 rfl (lv_at hl 0 rfl) ?_
    refine g_get C hw f_RX12_188 ml_0 (ms_0 _ _) rfl dX12_manyBy_223 ?_
    refine lv_imul hx hb dX12_manyBy_226 ?_
    refine lv_iconst (v := 4) hx hb dX12_manyBy_227 (by decide) ?_
    refine lv_iadd hx hb dX12_manyBy_228 ?_
    refine g_lald C hw ml_23 ms_23 h.1 dX12_manyBy_229 ?_
    have h := h.2
    exact g_lret C hw h dX12_manyBy_230
  · have h := h.2 c31
    refine lv_iconst (v := 0) hx hb dX12_manyBy_34 (by decide) ?_
    refine lv_istore_n (lv' := [(3, .int (0 : Int32)), (0, .ref (ad 0)), (1, .int x1), (2, .int x2)]) hx hb dX12_manyBy_35 rfl hl (by decide) rfl (fun ls hl => ?_)
    exact wl_X12_manyBy_36 C hL29 h hw (lv_sub hl [1, 2, 3, 0] rfl)
theorem wl_X12_manyBy_29 {Q : Int64 → MI → MJ → Prop} (C : gC RX12 cX12_manyBy 9 (some .long) 30 ad cy D mE p s m args meth c) {x1 : Int32} {x2 : Int32} {I : MI} {J : MJ} {H : Heap} {locs : List Loc} {ls : Array Slot} (h : lpx (P_X12_manyBy_29 Q) (x1, x2, I, J)) (hw : gH (mS ad cy) 30 ad D s I J H locs) (hl : lv_has ls 9 [(0, .ref (ad 0)), (1, .int x1), (2, .int x2)]) : W p l e rmX12_manyBy s m args below meth c H locs 0 0 (MQ below (gQl (mS ad cy) 30 ad cy D mE Q) args s 0 0 (gA 30 ad)) (F0 m 29 ls []) := by
  obtain ⟨n, h⟩ := h
  induction n generalizing x1 x2 I J H locs ls with
  | zero => exact False.elim h
  | succ n ih => exact w_X12_manyBy_29 C  (fun hk9 hw9 hl9 => ih hw9 hl9 hk9) h hw hl
set_option maxHeartbeats 4000000 in
set_option maxRecDepth 100000 in
theorem w_X12_manyBy_2 {Q : Int64 → MI → MJ → Prop} (C : gC RX12 cX12_manyBy 9 (some .long) 30 ad cy D mE p s m args meth c) {kL2 : Int32 × Int32 × MI × MJ → Prop} (hL2 : ∀ {x1 : Int32} {x2 : Int32} {I : MI} {J : MJ} {H : Heap} {locs : List Loc} {ls : Array Slot}, kL2 (x1, x2, I, J) → gH (mS ad cy) 30 ad D s I J H locs → lv_has ls 9 [(0, .ref (ad 0)), (1, .int x1), (2, .int x2)] → W p l e rmX12_manyBy s m args below meth c H locs 0 0 (MQ below (gQl (mS ad cy) 30 ad cy D mE Q) args s 0 0 (gA 30 ad)) (F0 m 2 ls [])) {x1 : Int32} {x2 : Int32} {I : MI} {J : MJ} {H : Heap} {locs : List Loc} {ls : Array Slot} (h : P_X12_manyBy_2 Q kL2 (x1, x2, I, J)) (hw : gH (mS ad cy) 30 ad D s I J H locs) (hl : lv_has ls 9 [(0, .ref (ad 0)), (1, .int x1), (2, .int x2)]) : W p l e rmX12_manyBy s m args below meth c H locs 0 0 (MQ below (gQl (mS ad cy) 30 ad cy D mE Q) args s 0 0 (gA 30 ad)) (F0 m 2 ls []) := by
  obtain ⟨hx, hb, hC⟩ := id C
  refine lv_iload_n hx hb dX12_manyBy_2 rfl (lv_at hl 2 rfl) ?_
  refine lv_iconst (v := 5) hx hb dX12_manyBy_3 (by decide) ?_
  refine lv_aload_n hx hb dX12_manyBy_4 rfl (lv_at hl 0 rfl) ?_
  refine g_get C hw f_RX12_188 ml_0 (ms_0 _ _) rfl dX12_manyBy_5 ?_
  refine lv_imul hx hb dX12_manyBy_8 ?_
  refine lv_iconst (v := 4) hx hb dX12_manyBy_9 (by decide) ?_
  refine lv_iadd hx hb dX12_manyBy_10 ?_
  refine lv_icmp_gt (tgt := 27) hx hb dX12_manyBy_11 (by decide) (fun c11 => ?_) (fun c11 => ?_)
  · have h := h.1 c11
    refine lv_iconst (v := 1) hx hb dX12_manyBy_27 (by decide) ?_
    refine lv_istore_n (lv' := [(2, .int (1 : Int32)), (0, .ref (ad 0)), (1, .int x1)]) hx hb dX12_manyBy_28 rfl hl (by decide) rfl (fun ls hl => ?_)
    exact wl_X12_manyBy_29 C  h hw (lv_sub hl [1, 2, 0] rfl)
  · have h := h.2 c11
    refine lv_aload_n hx hb dX12_manyBy_14 rfl (lv_at hl 0 rfl) ?_
    refine g_get C hw f_RX12_78 ml_0 (ms_0 _ _) rfl dX12_manyBy_15 ?_
    refine lv_iload_n hx hb dX12_manyBy_18 rfl (lv_at hl 2 rfl) ?_
    refine lv_lconst (v := 0) hx hb dX12_manyBy_19 (by decide) ?_
    refine g_last C hw ml_23 ms_23 h.1 dX12_manyBy_20 (fun H locs hw => ?_)
    have h := h.2
    obtain ⟨J20, e20⟩ : ∃ z : MJ, z = mJ J 23 x2.toNatClampNeg (0 : Int64) := ⟨_, rfl⟩
    have h := h J20 e20
    rw [← e20] at hw
    refine lv_iinc (v := x2 + 1) (lv' := [(2, .int (x2 + 1)), (0, .ref (ad 0)), (1, .int x1)]) hx hb dX12_manyBy_21 hl (k := 2) rfl rfl (by decide) rfl (fun ls hl => ?_)
    refine lv_goto (tgt := 2) hx hb dX12_manyBy_24 (by decide) ?_
    exact hL2 h hw (lv_sub hl [1, 2, 0] rfl)
theorem wl_X12_manyBy_2 {Q : Int64 → MI → MJ → Prop} (C : gC RX12 cX12_manyBy 9 (some .long) 30 ad cy D mE p s m args meth c) {x1 : Int32} {x2 : Int32} {I : MI} {J : MJ} {H : Heap} {locs : List Loc} {ls : Array Slot} (h : lpx (P_X12_manyBy_2 Q) (x1, x2, I, J)) (hw : gH (mS ad cy) 30 ad D s I J H locs) (hl : lv_has ls 9 [(0, .ref (ad 0)), (1, .int x1), (2, .int x2)]) : W p l e rmX12_manyBy s m args below meth c H locs 0 0 (MQ below (gQl (mS ad cy) 30 ad cy D mE Q) args s 0 0 (gA 30 ad)) (F0 m 2 ls []) := by
  obtain ⟨n, h⟩ := h
  induction n generalizing x1 x2 I J H locs ls with
  | zero => exact False.elim h
  | succ n ih => exact w_X12_manyBy_2 C  (fun hk9 hw9 hl9 => ih hw9 hl9 hk9) h hw hl
set_option maxHeartbeats 4000000 in
set_option maxRecDepth 100000 in
theorem w_X12_manyBy {Q : Int64 → MI → MJ → Prop} (C : gC RX12 cX12_manyBy 9 (some .long) 30 ad cy D mE p s m args meth c) {a0 : Int32} {I : MI} {J : MJ} {H : Heap} {locs : List Loc} {ls : Array Slot} (h : P_X12_manyBy a0 I J Q) (hw : gH (mS ad cy) 30 ad D s I J H locs) (hl : lv_has ls 9 [(0, .ref (ad 0)), (1, .int a0)]) : W p l e rmX12_manyBy s m args below meth c H locs 0 0 (MQ below (gQl (mS ad cy) 30 ad cy D mE Q) args s 0 0 (gA 30 ad)) (F0 m 0 ls []) := by
  obtain ⟨hx, hb, hC⟩ := id C
  refine lv_iconst (v := 0) hx hb dX12_manyBy_0 (by decide) ?_
  refine lv_istore_n (lv' := [(2, .int (0 : Int32)), (0, .ref (ad 0)), (1, .int a0)]) hx hb dX12_manyBy_1 rfl hl (by decide) rfl (fun ls hl => ?_)
  exact wl_X12_manyBy_2 C  h hw (lv_sub hl [1, 2, 0] rfl)
theorem m_X12_manyBy {l : Launch} {a0 : Int32} {Q : Int64 → MI → MJ → Prop} {I : MI} {J : MJ} (h : P_X12_manyBy a0 I J Q) : Met l yX12_manyBy (xws yX12_manyBy cX12_manyBy 9 (some .long)) rmX12_manyBy (va_Pc [.ref (ad 0), .int a0] (gB (mS ad cy) 30 ad cy D mE I J)) (gQl (mS ad cy) 30 ad cy D mE Q) 0 0 (gA 30 ad) :=
  g_met (mE_ok ad) rfl (by decide) (Nat.le_of_ble_eq_true rfl) (fun p e s m below meth c ls C hw hl => w_X12_manyBy C  h hw hl)
/-! BagPhrasesModel.few(Z)I -/
def P_X12_few_35 (Q : Int32 → MI → MJ → Prop) (kL6 : Int32 × Int32 × Int32 × MI × MJ → Prop) (x1 : Int32) (x3 : Int32) (s0 : Int32) (I : MI) (J : MJ) : Prop :=
  kL6 (x1, s0, (x3 + (-1)), I, J)
def P_X12_few_34 (Q : Int32 → MI → MJ → Prop) (kL6 : Int32 × Int32 × Int32 × MI × MJ → Prop) (x1 : Int32) (x2 : Int32) (x3 : Int32) (I : MI) (J : MJ) : Prop :=
  P_X12_few_35 Q kL6 x1 x3 x2 I J
def P_X12_few_30 (Q : Int32 → MI → MJ → Prop) (kL6 : Int32 × Int32 × Int32 × MI × MJ → Prop) (x1 : Int32) (x3 : Int32) (I : MI) (J : MJ) : Prop :=
  P_X12_few_35 Q kL6 x1 x3 x3 I J
def P_X12_few_6 (Q : Int32 → MI → MJ → Prop) (kL6 : Int32 × Int32 × Int32 × MI × MJ → Prop) : Int32 × Int32 × Int32 × MI × MJ → Prop := fun z => match z with
  | (x1, x2, x3, I, J) => ((x3 ≤ 0 → Q x2 I J) ∧ (¬ x3 ≤ 0 → P_X12_manyBy x3 I J (fun r12 I12 J12 => ((r12 ≤ (0 : Int64) → P_X12_few_34 Q kL6 x1 x2 x3 I12 J12) ∧ (¬ r12 ≤ (0 : Int64) → ((x1 = 0 → P_X12_few_30 Q kL6 x1 x3 I12 J12) ∧ (¬ x1 = 0 → ((¬ x2 = (-9 : Int32) → P_X12_few_34 Q kL6 x1 x2 x3 I12 J12) ∧ (x2 = (-9 : Int32) → P_X12_few_30 Q kL6 x1 x3 I12 J12)))))))))
def P_X12_few (a0 : Int32) (I : MI) (J : MJ) (Q : Int32 → MI → MJ → Prop) : Prop :=
  lpx (P_X12_few_6 Q) (a0, (-9 : Int32), (12 : Int32), I, J)
abbrev rmX12_few : Room := { frames := 3, cells := 0, slots := 0, locals := 73 }
set_option maxHeartbeats 4000000 in
set_option maxRecDepth 100000 in
theorem w_X12_few_35 {Q : Int32 → MI → MJ → Prop} (C : gC RX12 cX12_few 4 (some .int) 30 ad cy D mE p s m args meth c) {kL6 : Int32 × Int32 × Int32 × MI × MJ → Prop} (hL6 : ∀ {x1 : Int32} {x2 : Int32} {x3 : Int32} {I : MI} {J : MJ} {H : Heap} {locs : List Loc} {ls : Array Slot}, kL6 (x1, x2, x3, I, J) → gH (mS ad cy) 30 ad D s I J H locs → lv_has ls 4 [(0, .ref (ad 0)), (1, .int x1), (2, .int x2), (3, .int x3)] → W p l e rmX12_few s m args below meth c H locs 0 0 (MQ below (gQi (mS ad cy) 30 ad cy D mE Q) args s 0 0 (gA 30 ad)) (F0 m 6 ls [])) {x1 : Int32} {x3 : Int32} {s0 : Int32} {I : MI} {J : MJ} {H : Heap} {locs : List Loc} {ls : Array Slot} (h : P_X12_few_35 Q kL6 x1 x3 s0 I J) (hw : gH (mS ad cy) 30 ad D s I J H locs) (hl : lv_has ls 4 [(0, .ref (ad 0)), (1, .int x1), (3, .int x3)]) : W p l e rmX12_few s m args below meth c H locs 0 0 (MQ below (gQi (mS ad cy) 30 ad cy D mE Q) args s 0 0 (gA 30 ad)) (F0 m 35 ls [.int s0]) := by
  obtain ⟨hx, hb, hC⟩ := id C
  refine lv_istore_n (lv' := [(2, .int s0), (0, .ref (ad 0)), (1, .int x1), (3, .int x3)]) hx hb dX12_few_35 rfl hl (by decide) rfl (fun ls hl => ?_)
  refine lv_iinc (v := x3 + (-1)) (lv' := [(3, .int (x3 + (-1))), (2, .int s0), (0, .ref (ad 0)), (1, .int x1)]) hx hb dX12_few_36 hl (k := 3) rfl rfl (by decide) rfl (fun ls hl => ?_)
  refine lv_goto (tgt := 6) hx hb dX12_few_39 (by decide) ?_
  exact hL6 h hw (lv_sub hl [2, 3, 1, 0] rfl)
set_option maxHeartbeats 4000000 in
set_option maxRecDepth 100000 in
theorem w_X12_few_34 {Q : Int32 → MI → MJ → Prop} (C : gC RX12 cX12_few 4 (some .int) 30 ad cy D mE p s m args meth c) {kL6 : Int32 × Int32 × Int32 × MI × MJ → Prop} (hL6 : ∀ {x1 : Int32} {x2 : Int32} {x3 : Int32} {I : MI} {J : MJ} {H : Heap} {locs : List Loc} {ls : Array Slot}, kL6 (x1, x2, x3, I, J) → gH (mS ad cy) 30 ad D s I J H locs → lv_has ls 4 [(0, .ref (ad 0)), (1, .int x1), (2, .int x2), (3, .int x3)] → W p l e rmX12_few s m args below meth c H locs 0 0 (MQ below (gQi (mS ad cy) 30 ad cy D mE Q) args s 0 0 (gA 30 ad)) (F0 m 6 ls [])) {x1 : Int32} {x2 : Int32} {x3 : Int32} {I : MI} {J : MJ} {H : Heap} {locs : List Loc} {ls : Array Slot} (h : P_X12_few_34 Q kL6 x1 x2 x3 I J) (hw : gH (mS ad cy) 30 ad D s I J H locs) (hl : lv_has ls 4 [(0, .ref (ad 0)), (1, .int x1), (2, .int x2), (3, .int x3)]) : W p l e rmX12_few s m args below meth c H locs 0 0 (MQ below (gQi (mS ad cy) 30 ad cy D mE Q) args s 0 0 (gA 30 ad)) (F0 m 34 ls []) := by
  obtain ⟨hx, hb, hC⟩ := id C
  refine lv_iload_n hx hb dX12_few_34 rfl (lv_at hl 2 rfl) ?_
  exact w_X12_few_35 C hL6 h hw (lv_sub hl [0, 1, 3] rfl)
set_option maxHeartbeats 4000000 in
set_option maxRecDepth 100000 in
theorem w_X12_few_30 {Q : Int32 → MI → MJ → Prop} (C : gC RX12 cX12_few 4 (some .int) 30 ad cy D mE p s m args meth c) {kL6 : Int32 × Int32 × Int32 × MI × MJ → Prop} (hL6 : ∀ {x1 : Int32} {x2 : Int32} {x3 : Int32} {I : MI} {J : MJ} {H : Heap} {locs : List Loc} {ls : Array Slot}, kL6 (x1, x2, x3, I, J) → gH (mS ad cy) 30 ad D s I J H locs → lv_has ls 4 [(0, .ref (ad 0)), (1, .int x1), (2, .int x2), (3, .int x3)] → W p l e rmX12_few s m args below meth c H locs 0 0 (MQ below (gQi (mS ad cy) 30 ad cy D mE Q) args s 0 0 (gA 30 ad)) (F0 m 6 ls [])) {x1 : Int32} {x3 : Int32} {I : MI} {J : MJ} {H : Heap} {locs : List Loc} {ls : Array Slot} (h : P_X12_few_30 Q kL6 x1 x3 I J) (hw : gH (mS ad cy) 30 ad D s I J H locs) (hl : lv_has ls 4 [(0, .ref (ad 0)), (1, .int x1), (3, .int x3)]) : W p l e rmX12_few s m args below meth c H locs 0 0 (MQ below (gQi (mS ad cy) 30 ad cy D mE Q) args s 0 0 (gA 30 ad)) (F0 m 30 ls []) := by
  obtain ⟨hx, hb, hC⟩ := id C
  refine lv_iload_n hx hb dX12_few_30 rfl (lv_at hl 2 rfl) ?_
  refine lv_goto (tgt := 35) hx hb dX12_few_31 (by decide) ?_
  exact w_X12_few_35 C hL6 h hw (lv_sub hl [0, 1, 2] rfl)
set_option maxHeartbeats 4000000 in
set_option maxRecDepth 100000 in
theorem w_X12_few_6 {Q : Int32 → MI → MJ → Prop} (C : gC RX12 cX12_few 4 (some .int) 30 ad cy D mE p s m args meth c) {kL6 : Int32 × Int32 × Int32 × MI × MJ → Prop} (hL6 : ∀ {x1 : Int32} {x2 : Int32} {x3 : Int32} {I : MI} {J : MJ} {H : Heap} {locs : List Loc} {ls : Array Slot}, kL6 (x1, x2, x3, I, J) → gH (mS ad cy) 30 ad D s I J H locs → lv_has ls 4 [(0, .ref (ad 0)), (1, .int x1), (2, .int x2), (3, .int x3)] → W p l e rmX12_few s m args below meth c H locs 0 0 (MQ below (gQi (mS ad cy) 30 ad cy D mE Q) args s 0 0 (gA 30 ad)) (F0 m 6 ls [])) {x1 : Int32} {x2 : Int32} {x3 : Int32} {I : MI} {J : MJ} {H : Heap} {locs : List Loc} {ls : Array Slot} (h : P_X12_few_6 Q kL6 (x1, x2, x3, I, J)) (hw : gH (mS ad cy) 30 ad D s I J H locs) (hl : lv_has ls 4 [(0, .ref (ad 0)), (1, .int x1), (2, .int x2), (3, .int x3)]) : W p l e rmX12_few s m args below meth c H locs 0 0 (MQ below (gQi (mS ad cy) 30 ad cy D mE Q) args s 0 0 (gA 30 ad)) (F0 m 6 ls []) := by
  obtain ⟨hx, hb, hC⟩ := id C
  refine lv_iload_n hx hb dX12_few_6 rfl (lv_at hl 3 rfl) ?_
  refine lv_if_le (tgt := 42) hx hb dX12_few_7 (by decide) (fun c7 => ?_) (fun c7 => ?_)
  · have h := h.1 c7
    refine lv_iload_n hx hb dX12_few_42 rfl (lv_at hl 2 rfl) ?_
    exact g_iret C hw h dX12_few_43
  · have h := h.2 c7
    refine lv_aload_n hx hb dX12_few_10 rfl (lv_at hl 0 rfl) ?_
    refine lv_iload_n hx hb dX12_few_11 rfl (lv_at hl 3 rfl) ?_
    refine g_cl hw (g_rV [.int x3] [] C hw (m_X12_manyBy h) k_X12_manyBy q_RX12_212 ml_0 (ms_0 _ _) rfl rfl hl.1 rfl (Nat.le_of_ble_eq_true rfl) ⟨⟨rfl, rfl⟩, Nat.le_of_ble_eq_true rfl, Nat.le_of_ble_eq_true rfl⟩ ⟨Nat.zero_le _, Nat.zero_le _⟩ dX12_few_12) (fun r12 I12 J12 H locs h hw => ?_)
    refine lv_lconst (v := 0) hx hb dX12_few_15 (by decide) ?_
    refine g_lcmp_le (tgt := 34) hx hb dX12_few_16 dX12_few_17 (by decide) (fun c16 => ?_) (fun c16 => ?_)
    · have h := h.1 c16
      exact w_X12_few_34 C hL6 h hw (lv_sub hl [0, 1, 2, 3] rfl)
    · have h := h.2 c16
      refine lv_iload_n hx hb dX12_few_20 rfl (lv_at hl 1 rfl) ?_
      refine lv_if_eq (tgt := 30) hx hb dX12_few_21 (by decide) (fun c21 => ?_) (fun c21 => ?_)
      · have h := h.1 c21
        exact w_X12_few_30 C hL6 h hw (lv_sub hl [0, 1, 3] rfl)
      · have h := h.2 c21
        refine lv_iload_n hx hb dX12_few_24 rfl (lv_at hl 2 rfl) ?_
        refine lv_bipush (v := -9) hx hb dX12_few_25 (by decide) ?_
        refine lv_icmp_ne (tgt := 34) hx hb dX12_few_27 (by decide) (fun c27 => ?_) (fun c27 => ?_)
        · have h := h.1 c27
          exact w_X12_few_34 C hL6 h hw (lv_sub hl [0, 1, 2, 3] rfl)
        · have h := h.2 c27
          exact w_X12_few_30 C hL6 h hw (lv_sub hl [0, 1, 3] rfl)
theorem wl_X12_few_6 {Q : Int32 → MI → MJ → Prop} (C : gC RX12 cX12_few 4 (some .int) 30 ad cy D mE p s m args meth c) {x1 : Int32} {x2 : Int32} {x3 : Int32} {I : MI} {J : MJ} {H : Heap} {locs : List Loc} {ls : Array Slot} (h : lpx (P_X12_few_6 Q) (x1, x2, x3, I, J)) (hw : gH (mS ad cy) 30 ad D s I J H locs) (hl : lv_has ls 4 [(0, .ref (ad 0)), (1, .int x1), (2, .int x2), (3, .int x3)]) : W p l e rmX12_few s m args below meth c H locs 0 0 (MQ below (gQi (mS ad cy) 30 ad cy D mE Q) args s 0 0 (gA 30 ad)) (F0 m 6 ls []) := by
  obtain ⟨n, h⟩ := h
  induction n generalizing x1 x2 x3 I J H locs ls with
  | zero => exact False.elim h
  | succ n ih => exact w_X12_few_6 C  (fun hk9 hw9 hl9 => ih hw9 hl9 hk9) h hw hl
set_option maxHeartbeats 4000000 in
set_option maxRecDepth 100000 in
theorem w_X12_few {Q : Int32 → MI → MJ → Prop} (C : gC RX12 cX12_few 4 (some .int) 30 ad cy D mE p s m args meth c) {a0 : Int32} {I : MI} {J : MJ} {H : Heap} {locs : List Loc} {ls : Array Slot} (h : P_X12_few a0 I J Q) (hw : gH (mS ad cy) 30 ad D s I J H locs) (hl : lv_has ls 4 [(0, .ref (ad 0)), (1, .int a0)]) : W p l e rmX12_few s m args below meth c H locs 0 0 (MQ below (gQi (mS ad cy) 30 ad cy D mE Q) args s 0 0 (gA 30 ad)) (F0 m 0 ls []) := by
  obtain ⟨hx, hb, hC⟩ := id C
  refine lv_bipush (v := -9) hx hb dX12_few_0 (by decide) ?_
  refine lv_istore_n (lv' := [(2, .int (-9 : Int32)), (0, .ref (ad 0)), (1, .int a0)]) hx hb dX12_few_2 rfl hl (by decide) rfl (fun ls hl => ?_)
  refine lv_bipush (v := 12) hx hb dX12_few_3 (by decide) ?_
  refine lv_istore_n (lv' := [(3, .int (12 : Int32)), (2, .int (-9 : Int32)), (0, .ref (ad 0)), (1, .int a0)]) hx hb dX12_few_5 rfl hl (by decide) rfl (fun ls hl => ?_)
  exact wl_X12_few_6 C  h hw (lv_sub hl [2, 3, 1, 0] rfl)
theorem m_X12_few {l : Launch} {a0 : Int32} {Q : Int32 → MI → MJ → Prop} {I : MI} {J : MJ} (h : P_X12_few a0 I J Q) : Met l yX12_few (xws yX12_few cX12_few 4 (some .int)) rmX12_few (va_Pc [.ref (ad 0), .int a0] (gB (mS ad cy) 30 ad cy D mE I J)) (gQi (mS ad cy) 30 ad cy D mE Q) 0 0 (gA 30 ad) :=
  g_met (mE_ok ad) rfl (by decide) (Nat.le_of_ble_eq_true rfl) (fun p e s m below meth c ls C hw hl => w_X12_few C  h hw hl)
/-! BagPhrasesModel.about(I)I -/
def P_X12_about (a0 : Int32) (I : MI) (J : MJ) (Q : Int32 → MI → MJ → Prop) : Prop :=
  P_X12_look 6 I J (fun I5 J5 => ((a0 = 0 → Q (I5 0 2) I5 J5) ∧ (¬ a0 = 0 → ((a0 = 1 → P_X12_bagOf 6 I5 J5 (fun r89 I89 J89 => Q r89 I89 J89)) ∧ (¬ a0 = 1 → ((a0 = 2 → P_X12_unlike I5 J5 (fun r94 I94 J94 => Q r94 I94 J94)) ∧ (¬ a0 = 2 → ((a0 = 3 → vp_in (8 : Int32) 25 ∧ (Q (I5 6 (8 : Int32).toNatClampNeg) I5 J5)) ∧ (¬ a0 = 3 → ((a0 = 4 → vp_in (19 : Int32) 25 ∧ (Q (I5 6 (19 : Int32).toNatClampNeg) I5 J5)) ∧ (¬ a0 = 4 → ((a0 = 5 → vp_in (20 : Int32) 25 ∧ (Q (I5 6 (20 : Int32).toNatClampNeg) I5 J5)) ∧ (¬ a0 = 5 → ((a0 = 6 → P_X12_makeable I5 J5 (fun r123 I123 J123 => Q r123 I123 J123)) ∧ (¬ a0 = 6 → ((a0 = 7 → P_X12_inPhrases I5 J5 (fun r128 I128 J128 => Q r128 I128 J128)) ∧ (¬ a0 = 7 → ((a0 = 8 → P_X12_few (0 : Int32) I5 J5 (fun r134 I134 J134 => Q r134 I134 J134)) ∧ (¬ a0 = 8 → ((a0 = 9 → P_X12_few (1 : Int32) I5 J5 (fun r140 I140 J140 => Q r140 I140 J140)) ∧ (¬ a0 = 9 → ((a0 = 10 → Q (I5 0 10) I5 J5) ∧ (¬ a0 = 10 → ((a0 = 11 → Q (I5 0 19) I5 J5) ∧ (¬ a0 = 11 → ((a0 = 12 → Q (I5 0 1) I5 J5) ∧ (¬ a0 = 12 → ((a0 = 13 → Q (I5 0 15) I5 J5) ∧ (¬ a0 = 13 → Q (-2 : Int32) I5 J5)))))))))))))))))))))))))))))
abbrev rmX12_about : Room := { frames := 6, cells := 0, slots := 0, locals := 137 }
set_option maxHeartbeats 4000000 in
set_option maxRecDepth 100000 in
theorem w_X12_about {Q : Int32 → MI → MJ → Prop} (C : gC RX12 cX12_about 2 (some .int) 30 ad cy D mE p s m args meth c) {a0 : Int32} {I : MI} {J : MJ} {H : Heap} {locs : List Loc} {ls : Array Slot} (h : P_X12_about a0 I J Q) (hw : gH (mS ad cy) 30 ad D s I J H locs) (hl : lv_has ls 2 [(0, .ref (ad 0)), (1, .int a0)]) : W p l e rmX12_about s m args below meth c H locs 0 0 (MQ below (gQi (mS ad cy) 30 ad cy D mE Q) args s 0 0 (gA 30 ad)) (F0 m 0 ls []) := by
  obtain ⟨hx, hb, hC⟩ := id C
  refine lv_aload_n hx hb dX12_about_0 rfl (lv_at hl 0 rfl) ?_
  refine lv_aload_n hx hb dX12_about_1 rfl (lv_at hl 0 rfl) ?_
  refine g_get C hw f_RX12_25 ml_0 (ms_0 _ _) rfl dX12_about_2 ?_
  refine g_cv hw (g_rV [.ref (ad 6)] [] C hw (m_X12_look isRow_6 h) k_X12_look q_RX12_202 ml_0 (ms_0 _ _) rfl rfl hl.1 rfl (Nat.le_of_ble_eq_true rfl) ⟨⟨rfl, rfl⟩, Nat.le_of_ble_eq_true rfl, Nat.le_of_ble_eq_true rfl⟩ ⟨Nat.zero_le _, Nat.zero_le _⟩ dX12_about_5) (fun I5 J5 H locs h hw => ?_)
  refine lv_iload_n hx hb dX12_about_8 rfl (lv_at hl 1 rfl) ?_
  rcases Classical.em (a0 = 0) with c9_0 | c9_0
  · have h := h.1 c9_0
    refine lv_tableIn (off := 71) (tgt := 80) hx hb dX12_about_9 (by rw [c9_0]; decide) (by rw [c9_0]; decide) (by rw [c9_0]; rfl) (by decide) ?_
    refine lv_aload_n hx hb dX12_about_80 rfl (lv_at hl 0 rfl) ?_
    refine g_get C hw f_RX12_103 ml_0 (ms_0 _ _) rfl dX12_about_81 ?_
    exact g_iret C hw h dX12_about_84
  have h := h.2 c9_0
  rcases Classical.em (a0 = 1) with c9_1 | c9_1
  · have h := h.1 c9_1
    refine lv_tableIn (off := 76) (tgt := 85) hx hb dX12_about_9 (by rw [c9_1]; decide) (by rw [c9_1]; decide) (by rw [c9_1]; rfl) (by decide) ?_
    refine lv_aload_n hx hb dX12_about_85 rfl (lv_at hl 0 rfl) ?_
    refine g_get C hw f_RX12_25 ml_0 (ms_0 _ _) rfl dX12_about_86 ?_
    refine g_ci hw (g_rS [.ref (ad 6)] [] C hw (m_X12_bagOf isRow_6 h) k_X12_bagOf q_RX12_129 rfl hl.1 rfl (Nat.le_of_ble_eq_true rfl) ⟨⟨rfl, rfl⟩, Nat.le_of_ble_eq_true rfl, Nat.le_of_ble_eq_true rfl⟩ ⟨Nat.zero_le _, Nat.zero_le _⟩ dX12_about_89) (fun r89 I89 J89 H locs h hw => ?_)
    exact g_iret C hw h dX12_about_92
  have h := h.2 c9_1
  rcases Classical.em (a0 = 2) with c9_2 | c9_2
  · have h := h.1 c9_2
    refine lv_tableIn (off := 84) (tgt := 93) hx hb dX12_about_9 (by rw [c9_2]; decide) (by rw [c9_2]; decide) (by rw [c9_2]; rfl) (by decide) ?_
    refine lv_aload_n hx hb dX12_about_93 rfl (lv_at hl 0 rfl) ?_
    refine g_ci hw (g_rV [] [] C hw (m_X12_unlike h) k_X12_unlike q_RX12_224 ml_0 (ms_0 _ _) rfl rfl hl.1 rfl (Nat.le_of_ble_eq_true rfl) ⟨⟨rfl, rfl⟩, Nat.le_of_ble_eq_true rfl, Nat.le_of_ble_eq_true rfl⟩ ⟨Nat.zero_le _, Nat.zero_le _⟩ dX12_about_94) (fun r94 I94 J94 H locs h hw => ?_)
    exact g_iret C hw h dX12_about_97
  have h := h.2 c9_2
  rcases Classical.em (a0 = 3) with c9_3 | c9_3
  · have h := h.1 c9_3
    refine lv_tableIn (off := 89) (tgt := 98) hx hb dX12_about_9 (by rw [c9_3]; decide) (by rw [c9_3]; decide) (by rw [c9_3]; rfl) (by decide) ?_
    refine lv_aload_n hx hb dX12_about_98 rfl (lv_at hl 0 rfl) ?_
    refine g_get C hw f_RX12_25 ml_0 (ms_0 _ _) rfl dX12_about_99 ?_
    refine lv_bipush (v := 8) hx hb dX12_about_102 (by decide) ?_
    refine g_iald C hw ml_6 ms_6 h.1 dX12_about_104 ?_
    have h := h.2
    exact g_iret C hw h dX12_about_105
  have h := h.2 c9_3
  rcases Classical.em (a0 = 4) with c9_4 | c9_4
  · have h := h.1 c9_4
    refine lv_tableIn (off := 97) (tgt := 106) hx hb dX12_about_9 (by rw [c9_4]; decide) (by rw [c9_4]; decide) (by rw [c9_4]; rfl) (by decide) ?_
    refine lv_aload_n hx hb dX12_about_106 rfl (lv_at hl 0 rfl) ?_
    refine g_get C hw f_RX12_25 ml_0 (ms_0 _ _) rfl dX12_about_107 ?_
    refine lv_bipush (v := 19) hx hb dX12_about_110 (by decide) ?_
    refine g_iald C hw ml_6 ms_6 h.1 dX12_about_112 ?_
    have h := h.2
    exact g_iret C hw h dX12_about_113
  have h := h.2 c9_4
  rcases Classical.em (a0 = 5) with c9_5 | c9_5
  · have h := h.1 c9_5
    refine lv_tableIn (off := 105) (tgt := 114) hx hb dX12_about_9 (by rw [c9_5]; decide) (by rw [c9_5]; decide) (by rw [c9_5]; rfl) (by decide) ?_
    refine lv_aload_n hx hb dX12_about_114 rfl (lv_at hl 0 rfl) ?_
    refine g_get C hw f_RX12_25 ml_0 (ms_0 _ _) rfl dX12_about_115 ?_
    refine lv_bipush (v := 20) hx hb dX12_about_118 (by decide) ?_
    refine g_iald C hw ml_6 ms_6 h.1 dX12_about_120 ?_
    have h := h.2
    exact g_iret C hw h dX12_about_121
  have h := h.2 c9_5
  rcases Classical.em (a0 = 6) with c9_6 | c9_6
  · have h := h.1 c9_6
    refine lv_tableIn (off := 113) (tgt := 122) hx hb dX12_about_9 (by rw [c9_6]; decide) (by rw [c9_6]; decide) (by rw [c9_6]; rfl) (by decide) ?_
    refine lv_aload_n hx hb dX12_about_122 rfl (lv_at hl 0 rfl) ?_
    refine g_ci hw (g_rV [] [] C hw (m_X12_makeable h) k_X12_makeable q_RX12_227 ml_0 (ms_0 _ _) rfl rfl hl.1 rfl (Nat.le_of_ble_eq_true rfl) ⟨⟨rfl, rfl⟩, Nat.le_of_ble_eq_true rfl, Nat.le_of_ble_eq_true rfl⟩ ⟨Nat.zero_le _, Nat.zero_le _⟩ dX12_about_123) (fun r123 I123 J123 H locs h hw => ?_)
    exact g_iret C hw h dX12_about_126
  have h := h.2 c9_6
  rcases Classical.em (a0 = 7) with c9_7 | c9_7
  · have h := h.1 c9_7
    refine lv_tableIn (off := 118) (tgt := 127) hx hb dX12_about_9 (by rw [c9_7]; decide) (by rw [c9_7]; decide) (by rw [c9_7]; rfl) (by decide) ?_
    refine lv_aload_n hx hb dX12_about_127 rfl (lv_at hl 0 rfl) ?_
    refine g_ci hw (g_rV [] [] C hw (m_X12_inPhrases h) k_X12_inPhrases q_RX12_230 ml_0 (ms_0 _ _) rfl rfl hl.1 rfl (Nat.le_of_ble_eq_true rfl) ⟨⟨rfl, rfl⟩, Nat.le_of_ble_eq_true rfl, Nat.le_of_ble_eq_true rfl⟩ ⟨Nat.zero_le _, Nat.zero_le _⟩ dX12_about_128) (fun r128 I128 J128 H locs h hw => ?_)
    exact g_iret C hw h dX12_about_131
  have h := h.2 c9_7
  rcases Classical.em (a0 = 8) with c9_8 | c9_8
  · have h := h.1 c9_8
    refine lv_tableIn (off := 123) (tgt := 132) hx hb dX12_about_9 (by rw [c9_8]; decide) (by rw [c9_8]; decide) (by rw [c9_8]; rfl) (by decide) ?_
    refine lv_aload_n hx hb dX12_about_132 rfl (lv_at hl 0 rfl) ?_
    refine lv_iconst (v := 0) hx hb dX12_about_133 (by decide) ?_
    refine g_ci hw (g_rV [.int (0 : Int32)] [] C hw (m_X12_few h) k_X12_few q_RX12_233 ml_0 (ms_0 _ _) rfl rfl hl.1 rfl (Nat.le_of_ble_eq_true rfl) ⟨⟨rfl, rfl⟩, Nat.le_of_ble_eq_true rfl, Nat.le_of_ble_eq_true rfl⟩ ⟨Nat.zero_le _, Nat.zero_le _⟩ dX12_about_134) (fun r134 I134 J134 H locs h hw => ?_)
    exact g_iret C hw h dX12_about_137
  have h := h.2 c9_8
  rcases Classical.em (a0 = 9) with c9_9 | c9_9
  · have h := h.1 c9_9
    refine lv_tableIn (off := 129) (tgt := 138) hx hb dX12_about_9 (by rw [c9_9]; decide) (by rw [c9_9]; decide) (by rw [c9_9]; rfl) (by decide) ?_
    refine lv_aload_n hx hb dX12_about_138 rfl (lv_at hl 0 rfl) ?_
    refine lv_iconst (v := 1) hx hb dX12_about_139 (by decide) ?_
    refine g_ci hw (g_rV [.int (1 : Int32)] [] C hw (m_X12_few h) k_X12_few q_RX12_233 ml_0 (ms_0 _ _) rfl rfl hl.1 rfl (Nat.le_of_ble_eq_true rfl) ⟨⟨rfl, rfl⟩, Nat.le_of_ble_eq_true rfl, Nat.le_of_ble_eq_true rfl⟩ ⟨Nat.zero_le _, Nat.zero_le _⟩ dX12_about_140) (fun r140 I140 J140 H locs h hw => ?_)
    exact g_iret C hw h dX12_about_143
  have h := h.2 c9_9
  rcases Classical.em (a0 = 10) with c9_10 | c9_10
  · have h := h.1 c9_10
    refine lv_tableIn (off := 135) (tgt := 144) hx hb dX12_about_9 (by rw [c9_10]; decide) (by rw [c9_10]; decide) (by rw [c9_10]; rfl) (by decide) ?_
    refine lv_aload_n hx hb dX12_about_144 rfl (lv_at hl 0 rfl) ?_
    refine g_get C hw f_RX12_182 ml_0 (ms_0 _ _) rfl dX12_about_145 ?_
    exact g_iret C hw h dX12_about_148
  have h := h.2 c9_10
  rcases Classical.em (a0 = 11) with c9_11 | c9_11
  · have h := h.1 c9_11
    refine lv_tableIn (off := 140) (tgt := 149) hx hb dX12_about_9 (by rw [c9_11]; decide) (by rw [c9_11]; decide) (by rw [c9_11]; rfl) (by decide) ?_
    refine lv_aload_n hx hb dX12_about_149 rfl (lv_at hl 0 rfl) ?_
    refine g_get C hw f_RX12_237 ml_0 (ms_0 _ _) rfl dX12_about_150 ?_
    exact g_iret C hw h dX12_about_153
  have h := h.2 c9_11
  rcases Classical.em (a0 = 12) with c9_12 | c9_12
  · have h := h.1 c9_12
    refine lv_tableIn (off := 145) (tgt := 154) hx hb dX12_about_9 (by rw [c9_12]; decide) (by rw [c9_12]; decide) (by rw [c9_12]; rfl) (by decide) ?_
    refine lv_aload_n hx hb dX12_about_154 rfl (lv_at hl 0 rfl) ?_
    refine g_get C hw f_RX12_117 ml_0 (ms_0 _ _) rfl dX12_about_155 ?_
    exact g_iret C hw h dX12_about_158
  have h := h.2 c9_12
  rcases Classical.em (a0 = 13) with c9_13 | c9_13
  · have h := h.1 c9_13
    refine lv_tableIn (off := 150) (tgt := 159) hx hb dX12_about_9 (by rw [c9_13]; decide) (by rw [c9_13]; decide) (by rw [c9_13]; rfl) (by decide) ?_
    refine lv_aload_n hx hb dX12_about_159 rfl (lv_at hl 0 rfl) ?_
    refine g_get C hw f_RX12_185 ml_0 (ms_0 _ _) rfl dX12_about_160 ?_
    exact g_iret C hw h dX12_about_163
  have h := h.2 c9_13
  refine lv_tableOut (tgt := 164) hx hb dX12_about_9 (by have hs0 := toInt_ne c9_0 (show (0 : Int32).toInt = 0 from by decide); have hs1 := toInt_ne c9_1 (show (1 : Int32).toInt = 1 from by decide); have hs2 := toInt_ne c9_2 (show (2 : Int32).toInt = 2 from by decide); have hs3 := toInt_ne c9_3 (show (3 : Int32).toInt = 3 from by decide); have hs4 := toInt_ne c9_4 (show (4 : Int32).toInt = 4 from by decide); have hs5 := toInt_ne c9_5 (show (5 : Int32).toInt = 5 from by decide); have hs6 := toInt_ne c9_6 (show (6 : Int32).toInt = 6 from by decide); have hs7 := toInt_ne c9_7 (show (7 : Int32).toInt = 7 from by decide); have hs8 := toInt_ne c9_8 (show (8 : Int32).toInt = 8 from by decide); have hs9 := toInt_ne c9_9 (show (9 : Int32).toInt = 9 from by decide); have hs10 := toInt_ne c9_10 (show (10 : Int32).toInt = 10 from by decide); have hs11 := toInt_ne c9_11 (show (11 : Int32).toInt = 11 from by decide); have hs12 := toInt_ne c9_12 (show (12 : Int32).toInt = 12 from by decide); have hs13 := toInt_ne c9_13 (show (13 : Int32).toInt = 13 from by decide); omega) (by decide) ?_
  refine lv_bipush (v := -2) hx hb dX12_about_164 (by decide) ?_
  exact g_iret C hw h dX12_about_166
theorem m_X12_about {l : Launch} {a0 : Int32} {Q : Int32 → MI → MJ → Prop} {I : MI} {J : MJ} (h : P_X12_about a0 I J Q) : Met l yX12_about (xws yX12_about cX12_about 2 (some .int)) rmX12_about (va_Pc [.ref (ad 0), .int a0] (gB (mS ad cy) 30 ad cy D mE I J)) (gQi (mS ad cy) 30 ad cy D mE Q) 0 0 (gA 30 ad) :=
  g_met (mE_ok ad) rfl (by decide) (Nat.le_of_ble_eq_true rfl) (fun p e s m below meth c ls C hw hl => w_X12_about C  h hw hl)
/-! BagPhrasesModel.isWord(I)Z -/
def P_X12_isWord (a0 : Int32) (I : MI) (J : MJ) (Q : Int32 → MI → MJ → Prop) : Prop :=
  P_X12_in a0.toInt64 (0 : Int64) (((I 0 2) - (1 : Int32)).toInt64) I J (fun r10 I10 J10 => Q r10 I10 J10)
abbrev rmX12_isWord : Room := { frames := 1, cells := 0, slots := 0, locals := 25 }
set_option maxHeartbeats 4000000 in
set_option maxRecDepth 100000 in
theorem w_X12_isWord {Q : Int32 → MI → MJ → Prop} (C : gC RX12 cX12_isWord 2 (some .boolean) 30 ad cy D mE p s m args meth c) {a0 : Int32} {I : MI} {J : MJ} {H : Heap} {locs : List Loc} {ls : Array Slot} (h : P_X12_isWord a0 I J Q) (hw : gH (mS ad cy) 30 ad D s I J H locs) (hl : lv_has ls 2 [(0, .ref (ad 0)), (1, .int a0)]) : W p l e rmX12_isWord s m args below meth c H locs 0 0 (MQ below (gQz (mS ad cy) 30 ad cy D mE Q) args s 0 0 (gA 30 ad)) (F0 m 0 ls []) := by
  obtain ⟨hx, hb, hC⟩ := id C
  refine lv_iload_n hx hb dX12_isWord_0 rfl (lv_at hl 1 rfl) ?_
  refine lv_i2l hx hb dX12_isWord_1 rfl ?_
  refine lv_lconst (v := 0) hx hb dX12_isWord_2 (by decide) ?_
  refine lv_aload_n hx hb dX12_isWord_3 rfl (lv_at hl 0 rfl) ?_
  refine g_get C hw f_RX12_103 ml_0 (ms_0 _ _) rfl dX12_isWord_4 ?_
  refine lv_iconst (v := 1) hx hb dX12_isWord_7 (by decide) ?_
  refine lv_isub hx hb dX12_isWord_8 ?_
  refine lv_i2l hx hb dX12_isWord_9 rfl ?_
  refine g_cz hw (g_rS [.long a0.toInt64, .long (0 : Int64), .long (((I 0 2) - (1 : Int32)).toInt64)] [] C hw (m_X12_in h) k_X12_in q_RX12_107 rfl hl.1 rfl (Nat.le_of_ble_eq_true rfl) ⟨⟨rfl, rfl⟩, Nat.le_of_ble_eq_true rfl, Nat.le_of_ble_eq_true rfl⟩ ⟨Nat.zero_le _, Nat.zero_le _⟩ dX12_isWord_10) (fun r10 I10 J10 H locs z10 h hw => ?_)
  exact g_zret C hw z10 h dX12_isWord_13
theorem m_X12_isWord {l : Launch} {a0 : Int32} {Q : Int32 → MI → MJ → Prop} {I : MI} {J : MJ} (h : P_X12_isWord a0 I J Q) : Met l yX12_isWord (xws yX12_isWord cX12_isWord 2 (some .boolean)) rmX12_isWord (va_Pc [.ref (ad 0), .int a0] (gB (mS ad cy) 30 ad cy D mE I J)) (gQz (mS ad cy) 30 ad cy D mE Q) 0 0 (gA 30 ad) :=
  g_met (mE_ok ad) rfl (by decide) (Nat.le_of_ble_eq_true rfl) (fun p e s m below meth c ls C hw hl => w_X12_isWord C  h hw hl)
/-! BagPhrasesModel.havers(I)I -/
def P_X12_havers_32 (Q : Int32 → MI → MJ → Prop) (kL4 : Int32 × Int32 × Int32 × MI × MJ → Prop) (x1 : Int32) (x3 : Int32) (s0 : Int32) (s1 : Int32) (I : MI) (J : MJ) : Prop :=
  kL4 (x1, (s0 + s1), (x3 + 1), I, J)
def P_X12_havers_4 (Q : Int32 → MI → MJ → Prop) (kL4 : Int32 × Int32 × Int32 × MI × MJ → Prop) : Int32 × Int32 × Int32 × MI × MJ → Prop := fun z => match z with
  | (x1, x2, x3, I, J) => (((I 0 2) ≤ x3 → Q x2 I J) ∧ (¬ (I 0 2) ≤ x3 → vp_in (((8 : Int32) * x3) + x1) 80 ∧ ((((I 5 (((8 : Int32) * x3) + x1).toNatClampNeg) ≤ 0 → P_X12_havers_32 Q kL4 x1 x3 x2 (0 : Int32) I J) ∧ (¬ (I 5 (((8 : Int32) * x3) + x1).toNatClampNeg) ≤ 0 → P_X12_havers_32 Q kL4 x1 x3 x2 (1 : Int32) I J)))))
def P_X12_havers (a0 : Int32) (I : MI) (J : MJ) (Q : Int32 → MI → MJ → Prop) : Prop :=
  lpx (P_X12_havers_4 Q) (a0, (0 : Int32), (0 : Int32), I, J)
abbrev rmX12_havers : Room := { frames := 0, cells := 0, slots := 0, locals := 0 }
set_option maxHeartbeats 4000000 in
set_option maxRecDepth 100000 in
theorem w_X12_havers_32 {Q : Int32 → MI → MJ → Prop} (C : gC RX12 cX12_havers 4 (some .int) 30 ad cy D mE p s m args meth c) {kL4 : Int32 × Int32 × Int32 × MI × MJ → Prop} (hL4 : ∀ {x1 : Int32} {x2 : Int32} {x3 : Int32} {I : MI} {J : MJ} {H : Heap} {locs : List Loc} {ls : Array Slot}, kL4 (x1, x2, x3, I, J) → gH (mS ad cy) 30 ad D s I J H locs → lv_has ls 4 [(0, .ref (ad 0)), (1, .int x1), (2, .int x2), (3, .int x3)] → W p l e rmX12_havers s m args below meth c H locs 0 0 (MQ below (gQi (mS ad cy) 30 ad cy D mE Q) args s 0 0 (gA 30 ad)) (F0 m 4 ls [])) {x1 : Int32} {x3 : Int32} {s0 : Int32} {s1 : Int32} {I : MI} {J : MJ} {H : Heap} {locs : List Loc} {ls : Array Slot} (h : P_X12_havers_32 Q kL4 x1 x3 s0 s1 I J) (hw : gH (mS ad cy) 30 ad D s I J H locs) (hl : lv_has ls 4 [(0, .ref (ad 0)), (1, .int x1), (3, .int x3)]) : W p l e rmX12_havers s m args below meth c H locs 0 0 (MQ below (gQi (mS ad cy) 30 ad cy D mE Q) args s 0 0 (gA 30 ad)) (F0 m 32 ls [.int s1, .int s0]) := by
  obtain ⟨hx, hb, hC⟩ := id C
  refine lv_iadd hx hb dX12_havers_32 ?_
  refine lv_istore_n (lv' := [(2, .int (s0 + s1)), (0, .ref (ad 0)), (1, .int x1), (3, .int x3)]) hx hb dX12_havers_33 rfl hl (by decide) rfl (fun ls hl => ?_)
  refine lv_iinc (v := x3 + 1) (lv' := [(3, .int (x3 + 1)), (2, .int (s0 + s1)), (0, .ref (ad 0)), (1, .int x1)]) hx hb dX12_havers_34 hl (k := 3) rfl rfl (by decide) rfl (fun ls hl => ?_)
  refine lv_goto (tgt := 4) hx hb dX12_havers_37 (by decide) ?_
  exact hL4 h hw (lv_sub hl [2, 3, 1, 0] rfl)
set_option maxHeartbeats 4000000 in
set_option maxRecDepth 100000 in
theorem w_X12_havers_4 {Q : Int32 → MI → MJ → Prop} (C : gC RX12 cX12_havers 4 (some .int) 30 ad cy D mE p s m args meth c) {kL4 : Int32 × Int32 × Int32 × MI × MJ → Prop} (hL4 : ∀ {x1 : Int32} {x2 : Int32} {x3 : Int32} {I : MI} {J : MJ} {H : Heap} {locs : List Loc} {ls : Array Slot}, kL4 (x1, x2, x3, I, J) → gH (mS ad cy) 30 ad D s I J H locs → lv_has ls 4 [(0, .ref (ad 0)), (1, .int x1), (2, .int x2), (3, .int x3)] → W p l e rmX12_havers s m args below meth c H locs 0 0 (MQ below (gQi (mS ad cy) 30 ad cy D mE Q) args s 0 0 (gA 30 ad)) (F0 m 4 ls [])) {x1 : Int32} {x2 : Int32} {x3 : Int32} {I : MI} {J : MJ} {H : Heap} {locs : List Loc} {ls : Array Slot} (h : P_X12_havers_4 Q kL4 (x1, x2, x3, I, J)) (hw : gH (mS ad cy) 30 ad D s I J H locs) (hl : lv_has ls 4 [(0, .ref (ad 0)), (1, .int x1), (2, .int x2), (3, .int x3)]) : W p l e rmX12_havers s m args below meth c H locs 0 0 (MQ below (gQi (mS ad cy) 30 ad cy D mE Q) args s 0 0 (gA 30 ad)) (F0 m 4 ls []) := by
  obtain ⟨hx, hb, hC⟩ := id C
  refine lv_iload_n hx hb dX12_havers_4 rfl (lv_at hl 3 rfl) ?_
  refine lv_aload_n hx hb dX12_havers_5 rfl (lv_at hl 0 rfl) ?_
  refine g_get C hw f_RX12_103 ml_0 (ms_0 _ _) rfl dX12_havers_6 ?_
  refine lv_icmp_ge (tgt := 40) hx hb dX12_havers_9 (by decide) (fun c9 => ?_) (fun c9 => ?_)
  · have h := h.1 c9
    refine lv_iload_n hx hb dX12_havers_40 rfl (lv_at hl 2 rfl) ?_
    exact g_iret C hw h dX12_havers_41
  · have h := h.2 c9
    refine lv_iload_n hx hb dX12_havers_12 rfl (lv_at hl 2 rfl) ?_
    refine lv_aload_n hx hb dX12_havers_13 rfl (lv_at hl 0 rfl) ?_
    refine g_get C hw f_RX12_22 ml_0 (ms_0 _ _) rfl dX12_havers_14 ?_
    refine lv_bipush (v := 8) hx hb dX12_havers_17 (by decide) ?_
    refine lv_iload_n hx hb dX12_havers_19 rfl (lv_at hl 3 rfl) ?_
    refine lv_imul hx hb dX12_havers_20 ?_
    refine lv_iload_n hx hb dX12_havers_21 rfl (lv_at hl 1 rfl) ?_
    refine lv_iadd hx hb dX12_havers_22 ?_
    refine g_iald C hw ml_5 ms_5 h.1 dX12_havers_23 ?_
    have h := h.2
    refine lv_if_le (tgt := 31) hx hb dX12_havers_24 (by decide) (fun c24 => ?_) (fun c24 => ?_)
    · have h := h.1 c24
      refine lv_iconst (v := 0) hx hb dX12_havers_31 (by decide) ?_
      exact w_X12_havers_32 C hL4 h hw (lv_sub hl [0, 1, 3] rfl)
    · have h := h.2 c24
      refine lv_iconst (v := 1) hx hb dX12_havers_27 (by decide) ?_
      refine lv_goto (tgt := 32) hx hb dX12_havers_28 (by decide) ?_
      exact w_X12_havers_32 C hL4 h hw (lv_sub hl [0, 1, 3] rfl)
theorem wl_X12_havers_4 {Q : Int32 → MI → MJ → Prop} (C : gC RX12 cX12_havers 4 (some .int) 30 ad cy D mE p s m args meth c) {x1 : Int32} {x2 : Int32} {x3 : Int32} {I : MI} {J : MJ} {H : Heap} {locs : List Loc} {ls : Array Slot} (h : lpx (P_X12_havers_4 Q) (x1, x2, x3, I, J)) (hw : gH (mS ad cy) 30 ad D s I J H locs) (hl : lv_has ls 4 [(0, .ref (ad 0)), (1, .int x1), (2, .int x2), (3, .int x3)]) : W p l e rmX12_havers s m args below meth c H locs 0 0 (MQ below (gQi (mS ad cy) 30 ad cy D mE Q) args s 0 0 (gA 30 ad)) (F0 m 4 ls []) := by
  obtain ⟨n, h⟩ := h
  induction n generalizing x1 x2 x3 I J H locs ls with
  | zero => exact False.elim h
  | succ n ih => exact w_X12_havers_4 C  (fun hk9 hw9 hl9 => ih hw9 hl9 hk9) h hw hl
set_option maxHeartbeats 4000000 in
set_option maxRecDepth 100000 in
theorem w_X12_havers {Q : Int32 → MI → MJ → Prop} (C : gC RX12 cX12_havers 4 (some .int) 30 ad cy D mE p s m args meth c) {a0 : Int32} {I : MI} {J : MJ} {H : Heap} {locs : List Loc} {ls : Array Slot} (h : P_X12_havers a0 I J Q) (hw : gH (mS ad cy) 30 ad D s I J H locs) (hl : lv_has ls 4 [(0, .ref (ad 0)), (1, .int a0)]) : W p l e rmX12_havers s m args below meth c H locs 0 0 (MQ below (gQi (mS ad cy) 30 ad cy D mE Q) args s 0 0 (gA 30 ad)) (F0 m 0 ls []) := by
  obtain ⟨hx, hb, hC⟩ := id C
  refine lv_iconst (v := 0) hx hb dX12_havers_0 (by decide) ?_
  refine lv_istore_n (lv' := [(2, .int (0 : Int32)), (0, .ref (ad 0)), (1, .int a0)]) hx hb dX12_havers_1 rfl hl (by decide) rfl (fun ls hl => ?_)
  refine lv_iconst (v := 0) hx hb dX12_havers_2 (by decide) ?_
  refine lv_istore_n (lv' := [(3, .int (0 : Int32)), (2, .int (0 : Int32)), (0, .ref (ad 0)), (1, .int a0)]) hx hb dX12_havers_3 rfl hl (by decide) rfl (fun ls hl => ?_)
  exact wl_X12_havers_4 C  h hw (lv_sub hl [2, 3, 1, 0] rfl)
theorem m_X12_havers {l : Launch} {a0 : Int32} {Q : Int32 → MI → MJ → Prop} {I : MI} {J : MJ} (h : P_X12_havers a0 I J Q) : Met l yX12_havers (xws yX12_havers cX12_havers 4 (some .int)) rmX12_havers (va_Pc [.ref (ad 0), .int a0] (gB (mS ad cy) 30 ad cy D mE I J)) (gQi (mS ad cy) 30 ad cy D mE Q) 0 0 (gA 30 ad) :=
  g_met (mE_ok ad) rfl (by decide) (Nat.le_of_ble_eq_true rfl) (fun p e s m below meth c ls C hw hl => w_X12_havers C  h hw hl)
/-! BagPhrasesModel.rarest(I)I -/
def P_X12_rarest_48 (Q : Int32 → MI → MJ → Prop) (kL6 : Int32 × Int32 × Int32 × MI × MJ → Prop) (x1 : Int32) (x3 : Int32) (s0 : Int32) (I : MI) (J : MJ) : Prop :=
  kL6 (x1, s0, (x3 + (-1)), I, J)
def P_X12_rarest_47 (Q : Int32 → MI → MJ → Prop) (kL6 : Int32 × Int32 × Int32 × MI × MJ → Prop) (x1 : Int32) (x2 : Int32) (x3 : Int32) (I : MI) (J : MJ) : Prop :=
  P_X12_rarest_48 Q kL6 x1 x3 x2 I J
def P_X12_rarest_43 (Q : Int32 → MI → MJ → Prop) (kL6 : Int32 × Int32 × Int32 × MI × MJ → Prop) (x1 : Int32) (x3 : Int32) (I : MI) (J : MJ) : Prop :=
  P_X12_rarest_48 Q kL6 x1 x3 x3 I J
def P_X12_rarest_6 (Q : Int32 → MI → MJ → Prop) (kL6 : Int32 × Int32 × Int32 × MI × MJ → Prop) : Int32 × Int32 × Int32 × MI × MJ → Prop := fun z => match z with
  | (x1, x2, x3, I, J) => ((x3 < 0 → Q x2 I J) ∧ (¬ x3 < 0 → vp_in (((8 : Int32) * x1) + x3) 80 ∧ ((((I 5 (((8 : Int32) * x1) + x3).toNatClampNeg) ≤ 0 → P_X12_rarest_47 Q kL6 x1 x2 x3 I J) ∧ (¬ (I 5 (((8 : Int32) * x1) + x3).toNatClampNeg) ≤ 0 → ((x2 = (-9 : Int32) → P_X12_rarest_43 Q kL6 x1 x3 I J) ∧ (¬ x2 = (-9 : Int32) → P_X12_havers x3 I J (fun r32 I32 J32 => P_X12_havers x2 I32 J32 (fun r37 I37 J37 => ((r37 < r32 → P_X12_rarest_47 Q kL6 x1 x2 x3 I37 J37) ∧ (¬ r37 < r32 → P_X12_rarest_43 Q kL6 x1 x3 I37 J37)))))))))))
def P_X12_rarest (a0 : Int32) (I : MI) (J : MJ) (Q : Int32 → MI → MJ → Prop) : Prop :=
  lpx (P_X12_rarest_6 Q) (a0, (-9 : Int32), (7 : Int32), I, J)
abbrev rmX12_rarest : Room := { frames := 1, cells := 0, slots := 0, locals := 23 }
set_option maxHeartbeats 4000000 in
set_option maxRecDepth 100000 in
theorem w_X12_rarest_48 {Q : Int32 → MI → MJ → Prop} (C : gC RX12 cX12_rarest 4 (some .int) 30 ad cy D mE p s m args meth c) {kL6 : Int32 × Int32 × Int32 × MI × MJ → Prop} (hL6 : ∀ {x1 : Int32} {x2 : Int32} {x3 : Int32} {I : MI} {J : MJ} {H : Heap} {locs : List Loc} {ls : Array Slot}, kL6 (x1, x2, x3, I, J) → gH (mS ad cy) 30 ad D s I J H locs → lv_has ls 4 [(0, .ref (ad 0)), (1, .int x1), (2, .int x2), (3, .int x3)] → W p l e rmX12_rarest s m args below meth c H locs 0 0 (MQ below (gQi (mS ad cy) 30 ad cy D mE Q) args s 0 0 (gA 30 ad)) (F0 m 6 ls [])) {x1 : Int32} {x3 : Int32} {s0 : Int32} {I : MI} {J : MJ} {H : Heap} {locs : List Loc} {ls : Array Slot} (h : P_X12_rarest_48 Q kL6 x1 x3 s0 I J) (hw : gH (mS ad cy) 30 ad D s I J H locs) (hl : lv_has ls 4 [(0, .ref (ad 0)), (1, .int x1), (3, .int x3)]) : W p l e rmX12_rarest s m args below meth c H locs 0 0 (MQ below (gQi (mS ad cy) 30 ad cy D mE Q) args s 0 0 (gA 30 ad)) (F0 m 48 ls [.int s0]) := by
  obtain ⟨hx, hb, hC⟩ := id C
  refine lv_istore_n (lv' := [(2, .int s0), (0, .ref (ad 0)), (1, .int x1), (3, .int x3)]) hx hb dX12_rarest_48 rfl hl (by decide) rfl (fun ls hl => ?_)
  refine lv_iinc (v := x3 + (-1)) (lv' := [(3, .int (x3 + (-1))), (2, .int s0), (0, .ref (ad 0)), (1, .int x1)]) hx hb dX12_rarest_49 hl (k := 3) rfl rfl (by decide) rfl (fun ls hl => ?_)
  refine lv_goto (tgt := 6) hx hb dX12_rarest_52 (by decide) ?_
  exact hL6 h hw (lv_sub hl [2, 3, 1, 0] rfl)
set_option maxHeartbeats 4000000 in
set_option maxRecDepth 100000 in
theorem w_X12_rarest_47 {Q : Int32 → MI → MJ → Prop} (C : gC RX12 cX12_rarest 4 (some .int) 30 ad cy D mE p s m args meth c) {kL6 : Int32 × Int32 × Int32 × MI × MJ → Prop} (hL6 : ∀ {x1 : Int32} {x2 : Int32} {x3 : Int32} {I : MI} {J : MJ} {H : Heap} {locs : List Loc} {ls : Array Slot}, kL6 (x1, x2, x3, I, J) → gH (mS ad cy) 30 ad D s I J H locs → lv_has ls 4 [(0, .ref (ad 0)), (1, .int x1), (2, .int x2), (3, .int x3)] → W p l e rmX12_rarest s m args below meth c H locs 0 0 (MQ below (gQi (mS ad cy) 30 ad cy D mE Q) args s 0 0 (gA 30 ad)) (F0 m 6 ls [])) {x1 : Int32} {x2 : Int32} {x3 : Int32} {I : MI} {J : MJ} {H : Heap} {locs : List Loc} {ls : Array Slot} (h : P_X12_rarest_47 Q kL6 x1 x2 x3 I J) (hw : gH (mS ad cy) 30 ad D s I J H locs) (hl : lv_has ls 4 [(0, .ref (ad 0)), (1, .int x1), (2, .int x2), (3, .int x3)]) : W p l e rmX12_rarest s m args below meth c H locs 0 0 (MQ below (gQi (mS ad cy) 30 ad cy D mE Q) args s 0 0 (gA 30 ad)) (F0 m 47 ls []) := by
  obtain ⟨hx, hb, hC⟩ := id C
  refine lv_iload_n hx hb dX12_rarest_47 rfl (lv_at hl 2 rfl) ?_
  exact w_X12_rarest_48 C hL6 h hw (lv_sub hl [0, 1, 3] rfl)
set_option maxHeartbeats 4000000 in
set_option maxRecDepth 100000 in
theorem w_X12_rarest_43 {Q : Int32 → MI → MJ → Prop} (C : gC RX12 cX12_rarest 4 (some .int) 30 ad cy D mE p s m args meth c) {kL6 : Int32 × Int32 × Int32 × MI × MJ → Prop} (hL6 : ∀ {x1 : Int32} {x2 : Int32} {x3 : Int32} {I : MI} {J : MJ} {H : Heap} {locs : List Loc} {ls : Array Slot}, kL6 (x1, x2, x3, I, J) → gH (mS ad cy) 30 ad D s I J H locs → lv_has ls 4 [(0, .ref (ad 0)), (1, .int x1), (2, .int x2), (3, .int x3)] → W p l e rmX12_rarest s m args below meth c H locs 0 0 (MQ below (gQi (mS ad cy) 30 ad cy D mE Q) args s 0 0 (gA 30 ad)) (F0 m 6 ls [])) {x1 : Int32} {x3 : Int32} {I : MI} {J : MJ} {H : Heap} {locs : List Loc} {ls : Array Slot} (h : P_X12_rarest_43 Q kL6 x1 x3 I J) (hw : gH (mS ad cy) 30 ad D s I J H locs) (hl : lv_has ls 4 [(0, .ref (ad 0)), (1, .int x1), (3, .int x3)]) : W p l e rmX12_rarest s m args below meth c H locs 0 0 (MQ below (gQi (mS ad cy) 30 ad cy D mE Q) args s 0 0 (gA 30 ad)) (F0 m 43 ls []) := by
  obtain ⟨hx, hb, hC⟩ := id C
  refine lv_iload_n hx hb dX12_rarest_43 rfl (lv_at hl 2 rfl) ?_
  refine lv_goto (tgt := 48) hx hb dX12_rarest_44 (by decide) ?_
  exact w_X12_rarest_48 C hL6 h hw (lv_sub hl [0, 1, 2] rfl)
set_option maxHeartbeats 4000000 in
set_option maxRecDepth 100000 in
theorem w_X12_rarest_6 {Q : Int32 → MI → MJ → Prop} (C : gC RX12 cX12_rarest 4 (some .int) 30 ad cy D mE p s m args meth c) {kL6 : Int32 × Int32 × Int32 × MI × MJ → Prop} (hL6 : ∀ {x1 : Int32} {x2 : Int32} {x3 : Int32} {I : MI} {J : MJ} {H : Heap} {locs : List Loc} {ls : Array Slot}, kL6 (x1, x2, x3, I, J) → gH (mS ad cy) 30 ad D s I J H locs → lv_has ls 4 [(0, .ref (ad 0)), (1, .int x1), (2, .int x2), (3, .int x3)] → W p l e rmX12_rarest s m args below meth c H locs 0 0 (MQ below (gQi (mS ad cy) 30 ad cy D mE Q) args s 0 0 (gA 30 ad)) (F0 m 6 ls [])) {x1 : Int32} {x2 : Int32} {x3 : Int32} {I : MI} {J : MJ} {H : Heap} {locs : List Loc} {ls : Array Slot} (h : P_X12_rarest_6 Q kL6 (x1, x2, x3, I, J)) (hw : gH (mS ad cy) 30 ad D s I J H locs) (hl : lv_has ls 4 [(0, .ref (ad 0)), (1, .int x1), (2, .int x2), (3, .int x3)]) : W p l e rmX12_rarest s m args below meth c H locs 0 0 (MQ below (gQi (mS ad cy) 30 ad cy D mE Q) args s 0 0 (gA 30 ad)) (F0 m 6 ls []) := by
  obtain ⟨hx, hb, hC⟩ := id C
  refine lv_iload_n hx hb dX12_rarest_6 rfl (lv_at hl 3 rfl) ?_
  refine lv_if_lt (tgt := 55) hx hb dX12_rarest_7 (by decide) (fun c7 => ?_) (fun c7 => ?_)
  · have h := h.1 c7
    refine lv_iload_n hx hb dX12_rarest_55 rfl (lv_at hl 2 rfl) ?_
    exact g_iret C hw h dX12_rarest_56
  · have h := h.2 c7
    refine lv_aload_n hx hb dX12_rarest_10 rfl (lv_at hl 0 rfl) ?_
    refine g_get C hw f_RX12_22 ml_0 (ms_0 _ _) rfl dX12_rarest_11 ?_
    refine lv_bipush (v := 8) hx hb dX12_rarest_14 (by decide) ?_
    refine lv_iload_n hx hb dX12_rarest_16 rfl (lv_at hl 1 rfl) ?_
    refine lv_imul hx hb dX12_rarest_17 ?_
    refine lv_iload_n hx hb dX12_rarest_18 rfl (lv_at hl 3 rfl) ?_
    refine lv_iadd hx hb dX12_rarest_19 ?_
    refine g_iald C hw ml_5 ms_5 h.1 dX12_rarest_20 ?_
    have h := h.2
    refine lv_if_le (tgt := 47) hx hb dX12_rarest_21 (by decide) (fun c21 => ?_) (fun c21 => ?_)
    · have h := h.1 c21
      exact w_X12_rarest_47 C hL6 h hw (lv_sub hl [0, 1, 2, 3] rfl)
    · have h := h.2 c21
      refine lv_iload_n hx hb dX12_rarest_24 rfl (lv_at hl 2 rfl) ?_
      refine lv_bipush (v := -9) hx hb dX12_rarest_25 (by decide) ?_
      refine lv_icmp_eq (tgt := 43) hx hb dX12_rarest_27 (by decide) (fun c27 => ?_) (fun c27 => ?_)
      · have h := h.1 c27
        exact w_X12_rarest_43 C hL6 h hw (lv_sub hl [0, 1, 3] rfl)
      · have h := h.2 c27
        refine lv_aload_n hx hb dX12_rarest_30 rfl (lv_at hl 0 rfl) ?_
        refine lv_iload_n hx hb dX12_rarest_31 rfl (lv_at hl 3 rfl) ?_
        refine g_ci hw (g_rV [.int x3] [] C hw (m_X12_havers h) k_X12_havers q_RX12_240 ml_0 (ms_0 _ _) rfl rfl hl.1 rfl (Nat.le_of_ble_eq_true rfl) ⟨⟨rfl, rfl⟩, Nat.le_of_ble_eq_true rfl, Nat.le_of_ble_eq_true rfl⟩ ⟨Nat.zero_le _, Nat.zero_le _⟩ dX12_rarest_32) (fun r32 I32 J32 H locs h hw => ?_)
        refine lv_aload_n hx hb dX12_rarest_35 rfl (lv_at hl 0 rfl) ?_
        refine lv_iload_n hx hb dX12_rarest_36 rfl (lv_at hl 2 rfl) ?_
        refine g_ci hw (g_rV [.int x2] [.int r32] C hw (m_X12_havers h) k_X12_havers q_RX12_240 ml_0 (ms_0 _ _) rfl rfl hl.1 rfl (Nat.le_of_ble_eq_true rfl) ⟨⟨rfl, rfl⟩, Nat.le_of_ble_eq_true rfl, Nat.le_of_ble_eq_true rfl⟩ ⟨Nat.zero_le _, Nat.zero_le _⟩ dX12_rarest_37) (fun r37 I37 J37 H locs h hw => ?_)
        refine lv_icmp_gt (tgt := 47) hx hb dX12_rarest_40 (by decide) (fun c40 => ?_) (fun c40 => ?_)
        · have h := h.1 c40
          exact w_X12_rarest_47 C hL6 h hw (lv_sub hl [0, 1, 2, 3] rfl)
        · have h := h.2 c40
          exact w_X12_rarest_43 C hL6 h hw (lv_sub hl [0, 1, 3] rfl)
theorem wl_X12_rarest_6 {Q : Int32 → MI → MJ → Prop} (C : gC RX12 cX12_rarest 4 (some .int) 30 ad cy D mE p s m args meth c) {x1 : Int32} {x2 : Int32} {x3 : Int32} {I : MI} {J : MJ} {H : Heap} {locs : List Loc} {ls : Array Slot} (h : lpx (P_X12_rarest_6 Q) (x1, x2, x3, I, J)) (hw : gH (mS ad cy) 30 ad D s I J H locs) (hl : lv_has ls 4 [(0, .ref (ad 0)), (1, .int x1), (2, .int x2), (3, .int x3)]) : W p l e rmX12_rarest s m args below meth c H locs 0 0 (MQ below (gQi (mS ad cy) 30 ad cy D mE Q) args s 0 0 (gA 30 ad)) (F0 m 6 ls []) := by
  obtain ⟨n, h⟩ := h
  induction n generalizing x1 x2 x3 I J H locs ls with
  | zero => exact False.elim h
  | succ n ih => exact w_X12_rarest_6 C  (fun hk9 hw9 hl9 => ih hw9 hl9 hk9) h hw hl
set_option maxHeartbeats 4000000 in
set_option maxRecDepth 100000 in
theorem w_X12_rarest {Q : Int32 → MI → MJ → Prop} (C : gC RX12 cX12_rarest 4 (some .int) 30 ad cy D mE p s m args meth c) {a0 : Int32} {I : MI} {J : MJ} {H : Heap} {locs : List Loc} {ls : Array Slot} (h : P_X12_rarest a0 I J Q) (hw : gH (mS ad cy) 30 ad D s I J H locs) (hl : lv_has ls 4 [(0, .ref (ad 0)), (1, .int a0)]) : W p l e rmX12_rarest s m args below meth c H locs 0 0 (MQ below (gQi (mS ad cy) 30 ad cy D mE Q) args s 0 0 (gA 30 ad)) (F0 m 0 ls []) := by
  obtain ⟨hx, hb, hC⟩ := id C
  refine lv_bipush (v := -9) hx hb dX12_rarest_0 (by decide) ?_
  refine lv_istore_n (lv' := [(2, .int (-9 : Int32)), (0, .ref (ad 0)), (1, .int a0)]) hx hb dX12_rarest_2 rfl hl (by decide) rfl (fun ls hl => ?_)
  refine lv_bipush (v := 7) hx hb dX12_rarest_3 (by decide) ?_
  refine lv_istore_n (lv' := [(3, .int (7 : Int32)), (2, .int (-9 : Int32)), (0, .ref (ad 0)), (1, .int a0)]) hx hb dX12_rarest_5 rfl hl (by decide) rfl (fun ls hl => ?_)
  exact wl_X12_rarest_6 C  h hw (lv_sub hl [2, 3, 1, 0] rfl)
theorem m_X12_rarest {l : Launch} {a0 : Int32} {Q : Int32 → MI → MJ → Prop} {I : MI} {J : MJ} (h : P_X12_rarest a0 I J Q) : Met l yX12_rarest (xws yX12_rarest cX12_rarest 4 (some .int)) rmX12_rarest (va_Pc [.ref (ad 0), .int a0] (gB (mS ad cy) 30 ad cy D mE I J)) (gQi (mS ad cy) 30 ad cy D mE Q) 0 0 (gA 30 ad) :=
  g_met (mE_ok ad) rfl (by decide) (Nat.le_of_ble_eq_true rfl) (fun p e s m below meth c ls C hw hl => w_X12_rarest C  h hw hl)
/-! BagPhrasesModel.twins(I)I -/
def P_X12_twins_81 (Q : Int32 → MI → MJ → Prop) (kL4 : Int32 × Int32 × Int32 × MI × MJ → Prop) (x1 : Int32) (x3 : Int32) (s0 : Int32) (s1 : Int32) (I : MI) (J : MJ) : Prop :=
  kL4 (x1, (s0 + s1), (x3 + 1), I, J)
def P_X12_twins_62 (Q : Int32 → MI → MJ → Prop) (kL4 : Int32 × Int32 × Int32 × MI × MJ → Prop) (kL18 : Int32 × Int32 × Int32 × Int32 × Int32 × MI × MJ → Prop) (x1 : Int32) (x2 : Int32) (x3 : Int32) (x5 : Int32) (s0 : Int32) (I : MI) (J : MJ) : Prop :=
  kL18 (x1, x2, x3, s0, (x5 + 1), I, J)
def P_X12_twins_61 (Q : Int32 → MI → MJ → Prop) (kL4 : Int32 × Int32 × Int32 × MI × MJ → Prop) (kL18 : Int32 × Int32 × Int32 × Int32 × Int32 × MI × MJ → Prop) (x1 : Int32) (x2 : Int32) (x3 : Int32) (x5 : Int32) (I : MI) (J : MJ) : Prop :=
  P_X12_twins_62 Q kL4 kL18 x1 x2 x3 x5 (0 : Int32) I J
def P_X12_twins_18 (Q : Int32 → MI → MJ → Prop) (kL4 : Int32 × Int32 × Int32 × MI × MJ → Prop) (kL18 : Int32 × Int32 × Int32 × Int32 × Int32 × MI × MJ → Prop) : Int32 × Int32 × Int32 × Int32 × Int32 × MI × MJ → Prop := fun z => match z with
  | (x1, x2, x3, x4, x5, I, J) => (((8 : Int32) ≤ x5 → ((x4 = 0 → P_X12_twins_81 Q kL4 x1 x3 x2 (0 : Int32) I J) ∧ (¬ x4 = 0 → P_X12_twins_81 Q kL4 x1 x3 x2 (1 : Int32) I J))) ∧ (¬ (8 : Int32) ≤ x5 → ((x4 = 0 → P_X12_twins_61 Q kL4 kL18 x1 x2 x3 x5 I J) ∧ (¬ x4 = 0 → vp_in (((8 : Int32) * x1) + x5) 80 ∧ (vp_in (((8 : Int32) * x3) + x5) 80 ∧ (((¬ (I 5 (((8 : Int32) * x1) + x5).toNatClampNeg) = (I 5 (((8 : Int32) * x3) + x5).toNatClampNeg) → P_X12_twins_61 Q kL4 kL18 x1 x2 x3 x5 I J) ∧ ((I 5 (((8 : Int32) * x1) + x5).toNatClampNeg) = (I 5 (((8 : Int32) * x3) + x5).toNatClampNeg) → P_X12_twins_62 Q kL4 kL18 x1 x2 x3 x5 (1 : Int32) I J))))))))
def P_X12_twins_4 (Q : Int32 → MI → MJ → Prop) (kL4 : Int32 × Int32 × Int32 × MI × MJ → Prop) : Int32 × Int32 × Int32 × MI × MJ → Prop := fun z => match z with
  | (x1, x2, x3, I, J) => (((I 0 2) ≤ x3 → Q x2 I J) ∧ (¬ (I 0 2) ≤ x3 → lpx (P_X12_twins_18 Q kL4) (x1, x2, x3, (1 : Int32), (0 : Int32), I, J)))
def P_X12_twins (a0 : Int32) (I : MI) (J : MJ) (Q : Int32 → MI → MJ → Prop) : Prop :=
  lpx (P_X12_twins_4 Q) (a0, (0 : Int32), (0 : Int32), I, J)
abbrev rmX12_twins : Room := { frames := 0, cells := 0, slots := 0, locals := 0 }
set_option maxHeartbeats 4000000 in
set_option maxRecDepth 100000 in
theorem w_X12_twins_81 {Q : Int32 → MI → MJ → Prop} (C : gC RX12 cX12_twins 6 (some .int) 30 ad cy D mE p s m args meth c) {kL4 : Int32 × Int32 × Int32 × MI × MJ → Prop} (hL4 : ∀ {x1 : Int32} {x2 : Int32} {x3 : Int32} {I : MI} {J : MJ} {H : Heap} {locs : List Loc} {ls : Array Slot}, kL4 (x1, x2, x3, I, J) → gH (mS ad cy) 30 ad D s I J H locs → lv_has ls 6 [(0, .ref (ad 0)), (1, .int x1), (2, .int x2), (3, .int x3)] → W p l e rmX12_twins s m args below meth c H locs 0 0 (MQ below (gQi (mS ad cy) 30 ad cy D mE Q) args s 0 0 (gA 30 ad)) (F0 m 4 ls [])) {x1 : Int32} {x3 : Int32} {s0 : Int32} {s1 : Int32} {I : MI} {J : MJ} {H : Heap} {locs : List Loc} {ls : Array Slot} (h : P_X12_twins_81 Q kL4 x1 x3 s0 s1 I J) (hw : gH (mS ad cy) 30 ad D s I J H locs) (hl : lv_has ls 6 [(0, .ref (ad 0)), (1, .int x1), (3, .int x3)]) : W p l e rmX12_twins s m args below meth c H locs 0 0 (MQ below (gQi (mS ad cy) 30 ad cy D mE Q) args s 0 0 (gA 30 ad)) (F0 m 81 ls [.int s1, .int s0]) := by
  obtain ⟨hx, hb, hC⟩ := id C
  refine lv_iadd hx hb dX12_twins_81 ?_
  refine lv_istore_n (lv' := [(2, .int (s0 + s1)), (0, .ref (ad 0)), (1, .int x1), (3, .int x3)]) hx hb dX12_twins_82 rfl hl (by decide) rfl (fun ls hl => ?_)
  refine lv_iinc (v := x3 + 1) (lv' := [(3, .int (x3 + 1)), (2, .int (s0 + s1)), (0, .ref (ad 0)), (1, .int x1)]) hx hb dX12_twins_83 hl (k := 3) rfl rfl (by decide) rfl (fun ls hl => ?_)
  refine lv_goto (tgt := 4) hx hb dX12_twins_86 (by decide) ?_
  exact hL4 h hw (lv_sub hl [2, 3, 1, 0] rfl)
set_option maxHeartbeats 4000000 in
set_option maxRecDepth 100000 in
theorem w_X12_twins_62 {Q : Int32 → MI → MJ → Prop} (C : gC RX12 cX12_twins 6 (some .int) 30 ad cy D mE p s m args meth c) {kL4 : Int32 × Int32 × Int32 × MI × MJ → Prop} (hL4 : ∀ {x1 : Int32} {x2 : Int32} {x3 : Int32} {I : MI} {J : MJ} {H : Heap} {locs : List Loc} {ls : Array Slot}, kL4 (x1, x2, x3, I, J) → gH (mS ad cy) 30 ad D s I J H locs → lv_has ls 6 [(0, .ref (ad 0)), (1, .int x1), (2, .int x2), (3, .int x3)] → W p l e rmX12_twins s m args below meth c H locs 0 0 (MQ below (gQi (mS ad cy) 30 ad cy D mE Q) args s 0 0 (gA 30 ad)) (F0 m 4 ls [])) {kL18 : Int32 × Int32 × Int32 × Int32 × Int32 × MI × MJ → Prop} (hL18 : ∀ {x1 : Int32} {x2 : Int32} {x3 : Int32} {x4 : Int32} {x5 : Int32} {I : MI} {J : MJ} {H : Heap} {locs : List Loc} {ls : Array Slot}, kL18 (x1, x2, x3, x4, x5, I, J) → gH (mS ad cy) 30 ad D s I J H locs → lv_has ls 6 [(0, .ref (ad 0)), (1, .int x1), (2, .int x2), (3, .int x3), (4, .int x4), (5, .int x5)] → W p l e rmX12_twins s m args below meth c H locs 0 0 (MQ below (gQi (mS ad cy) 30 ad cy D mE Q) args s 0 0 (gA 30 ad)) (F0 m 18 ls [])) {x1 : Int32} {x2 : Int32} {x3 : Int32} {x5 : Int32} {s0 : Int32} {I : MI} {J : MJ} {H : Heap} {locs : List Loc} {ls : Array Slot} (h : P_X12_twins_62 Q kL4 kL18 x1 x2 x3 x5 s0 I J) (hw : gH (mS ad cy) 30 ad D s I J H locs) (hl : lv_has ls 6 [(0, .ref (ad 0)), (1, .int x1), (2, .int x2), (3, .int x3), (5, .int x5)]) : W p l e rmX12_twins s m args below meth c H locs 0 0 (MQ below (gQi (mS ad cy) 30 ad cy D mE Q) args s 0 0 (gA 30 ad)) (F0 m 62 ls [.int s0]) := by
  obtain ⟨hx, hb, hC⟩ := id C
  refine lv_istore (lv' := [(4, .int s0), (0, .ref (ad 0)), (1, .int x1), (2, .int x2), (3, .int x3), (5, .int x5)]) hx hb dX12_twins_62 hl (by decide) rfl (fun ls hl => ?_)
  refine lv_iinc (v := x5 + 1) (lv' := [(5, .int (x5 + 1)), (4, .int s0), (0, .ref (ad 0)), (1, .int x1), (2, .int x2), (3, .int x3)]) hx hb dX12_twins_64 hl (k := 5) rfl rfl (by decide) rfl (fun ls hl => ?_)
  refine lv_goto (tgt := 18) hx hb dX12_twins_67 (by decide) ?_
  exact hL18 h hw (lv_sub hl [2, 3, 4, 5, 1, 0] rfl)
set_option maxHeartbeats 4000000 in
set_option maxRecDepth 100000 in
theorem w_X12_twins_61 {Q : Int32 → MI → MJ → Prop} (C : gC RX12 cX12_twins 6 (some .int) 30 ad cy D mE p s m args meth c) {kL4 : Int32 × Int32 × Int32 × MI × MJ → Prop} (hL4 : ∀ {x1 : Int32} {x2 : Int32} {x3 : Int32} {I : MI} {J : MJ} {H : Heap} {locs : List Loc} {ls : Array Slot}, kL4 (x1, x2, x3, I, J) → gH (mS ad cy) 30 ad D s I J H locs → lv_has ls 6 [(0, .ref (ad 0)), (1, .int x1), (2, .int x2), (3, .int x3)] → W p l e rmX12_twins s m args below meth c H locs 0 0 (MQ below (gQi (mS ad cy) 30 ad cy D mE Q) args s 0 0 (gA 30 ad)) (F0 m 4 ls [])) {kL18 : Int32 × Int32 × Int32 × Int32 × Int32 × MI × MJ → Prop} (hL18 : ∀ {x1 : Int32} {x2 : Int32} {x3 : Int32} {x4 : Int32} {x5 : Int32} {I : MI} {J : MJ} {H : Heap} {locs : List Loc} {ls : Array Slot}, kL18 (x1, x2, x3, x4, x5, I, J) → gH (mS ad cy) 30 ad D s I J H locs → lv_has ls 6 [(0, .ref (ad 0)), (1, .int x1), (2, .int x2), (3, .int x3), (4, .int x4), (5, .int x5)] → W p l e rmX12_twins s m args below meth c H locs 0 0 (MQ below (gQi (mS ad cy) 30 ad cy D mE Q) args s 0 0 (gA 30 ad)) (F0 m 18 ls [])) {x1 : Int32} {x2 : Int32} {x3 : Int32} {x5 : Int32} {I : MI} {J : MJ} {H : Heap} {locs : List Loc} {ls : Array Slot} (h : P_X12_twins_61 Q kL4 kL18 x1 x2 x3 x5 I J) (hw : gH (mS ad cy) 30 ad D s I J H locs) (hl : lv_has ls 6 [(0, .ref (ad 0)), (1, .int x1), (2, .int x2), (3, .int x3), (5, .int x5)]) : W p l e rmX12_twins s m args below meth c H locs 0 0 (MQ below (gQi (mS ad cy) 30 ad cy D mE Q) args s 0 0 (gA 30 ad)) (F0 m 61 ls []) := by
  obtain ⟨hx, hb, hC⟩ := id C
  refine lv_iconst (v := 0) hx hb dX12_twins_61 (by decide) ?_
  exact w_X12_twins_62 C hL4 hL18 h hw (lv_sub hl [0, 1, 2, 3, 4] rfl)
set_option maxHeartbeats 4000000 in
set_option maxRecDepth 100000 in
theorem w_X12_twins_18 {Q : Int32 → MI → MJ → Prop} (C : gC RX12 cX12_twins 6 (some .int) 30 ad cy D mE p s m args meth c) {kL4 : Int32 × Int32 × Int32 × MI × MJ → Prop} (hL4 : ∀ {x1 : Int32} {x2 : Int32} {x3 : Int32} {I : MI} {J : MJ} {H : Heap} {locs : List Loc} {ls : Array Slot}, kL4 (x1, x2, x3, I, J) → gH (mS ad cy) 30 ad D s I J H locs → lv_has ls 6 [(0, .ref (ad 0)), (1, .int x1), (2, .int x2), (3, .int x3)] → W p l e rmX12_twins s m args below meth c H locs 0 0 (MQ below (gQi (mS ad cy) 30 ad cy D mE Q) args s 0 0 (gA 30 ad)) (F0 m 4 ls [])) {kL18 : Int32 × Int32 × Int32 × Int32 × Int32 × MI × MJ → Prop} (hL18 : ∀ {x1 : Int32} {x2 : Int32} {x3 : Int32} {x4 : Int32} {x5 : Int32} {I : MI} {J : MJ} {H : Heap} {locs : List Loc} {ls : Array Slot}, kL18 (x1, x2, x3, x4, x5, I, J) → gH (mS ad cy) 30 ad D s I J H locs → lv_has ls 6 [(0, .ref (ad 0)), (1, .int x1), (2, .int x2), (3, .int x3), (4, .int x4), (5, .int x5)] → W p l e rmX12_twins s m args below meth c H locs 0 0 (MQ below (gQi (mS ad cy) 30 ad cy D mE Q) args s 0 0 (gA 30 ad)) (F0 m 18 ls [])) {x1 : Int32} {x2 : Int32} {x3 : Int32} {x4 : Int32} {x5 : Int32} {I : MI} {J : MJ} {H : Heap} {locs : List Loc} {ls : Array Slot} (h : P_X12_twins_18 Q kL4 kL18 (x1, x2, x3, x4, x5, I, J)) (hw : gH (mS ad cy) 30 ad D s I J H locs) (hl : lv_has ls 6 [(0, .ref (ad 0)), (1, .int x1), (2, .int x2), (3, .int x3), (4, .int x4), (5, .int x5)]) : W p l e rmX12_twins s m args below meth c H locs 0 0 (MQ below (gQi (mS ad cy) 30 ad cy D mE Q) args s 0 0 (gA 30 ad)) (F0 m 18 ls []) := by
  obtain ⟨hx, hb, hC⟩ := id C
  refine lv_iload hx hb dX12_twins_18 (lv_at hl 5 rfl) ?_
  refine lv_bipush (v := 8) hx hb dX12_twins_20 (by decide) ?_
  refine lv_icmp_ge (tgt := 70) hx hb dX12_twins_22 (by decide) (fun c22 => ?_) (fun c22 => ?_)
  · have h := h.1 c22
    refine lv_iload_n hx hb dX12_twins_70 rfl (lv_at hl 2 rfl) ?_
    refine lv_iload hx hb dX12_twins_71 (lv_at hl 4 rfl) ?_
    refine lv_if_eq (tgt := 80) hx hb dX12_twins_73 (by decide) (fun c73 => ?_) (fun c73 => ?_)
    · have h := h.1 c73
      refine lv_iconst (v := 0) hx hb dX12_twins_80 (by decide) ?_
      exact w_X12_twins_81 C hL4 h hw (lv_sub hl [0, 1, 3] rfl)
    · have h := h.2 c73
      refine lv_iconst (v := 1) hx hb dX12_twins_76 (by decide) ?_
      refine lv_goto (tgt := 81) hx hb dX12_twins_77 (by decide) ?_
      exact w_X12_twins_81 C hL4 h hw (lv_sub hl [0, 1, 3] rfl)
  · have h := h.2 c22
    refine lv_iload hx hb dX12_twins_25 (lv_at hl 4 rfl) ?_
    refine lv_if_eq (tgt := 61) hx hb dX12_twins_27 (by decide) (fun c27 => ?_) (fun c27 => ?_)
    · have h := h.1 c27
      exact w_X12_twins_61 C hL4 hL18 h hw (lv_sub hl [0, 1, 2, 3, 5] rfl)
    · have h := h.2 c27
      refine lv_aload_n hx hb dX12_twins_30 rfl (lv_at hl 0 rfl) ?_
      refine g_get C hw f_RX12_22 ml_0 (ms_0 _ _) rfl dX12_twins_31 ?_
      refine lv_bipush (v := 8) hx hb dX12_twins_34 (by decide) ?_
      refine lv_iload_n hx hb dX12_twins_36 rfl (lv_at hl 1 rfl) ?_
      refine lv_imul hx hb dX12_twins_37 ?_
      refine lv_iload hx hb dX12_twins_38 (lv_at hl 5 rfl) ?_
      refine lv_iadd hx hb dX12_twins_40 ?_
      refine g_iald C hw ml_5 ms_5 h.1 dX12_twins_41 ?_
      have h := h.2
      refine lv_aload_n hx hb dX12_twins_42 rfl (lv_at hl 0 rfl) ?_
      refine g_get C hw f_RX12_22 ml_0 (ms_0 _ _) rfl dX12_twins_43 ?_
      refine lv_bipush (v := 8) hx hb dX12_twins_46 (by decide) ?_
      refine lv_iload_n hx hb dX12_twins_48 rfl (lv_at hl 3 rfl) ?_
      refine lv_imul hx hb dX12_twins_49 ?_
      refine lv_iload hx hb dX12_twins_50 (lv_at hl 5 rfl) ?_
      refine lv_iadd hx hb dX12_twins_52 ?_
      refine g_iald C hw ml_5 ms_5 h.1 dX12_twins_53 ?_
      have h := h.2
      refine lv_icmp_ne (tgt := 61) hx hb dX12_twins_54 (by decide) (fun c54 => ?_) (fun c54 => ?_)
      · have h := h.1 c54
        exact w_X12_twins_61 C hL4 hL18 h hw (lv_sub hl [0, 1, 2, 3, 5] rfl)
      · have h := h.2 c54
        refine lv_iconst (v := 1) hx hb dX12_twins_57 (by decide) ?_
        refine lv_goto (tgt := 62) hx hb dX12_twins_58 (by decide) ?_
        exact w_X12_twins_62 C hL4 hL18 h hw (lv_sub hl [0, 1, 2, 3, 5] rfl)
theorem wl_X12_twins_18 {Q : Int32 → MI → MJ → Prop} (C : gC RX12 cX12_twins 6 (some .int) 30 ad cy D mE p s m args meth c) {kL4 : Int32 × Int32 × Int32 × MI × MJ → Prop} (hL4 : ∀ {x1 : Int32} {x2 : Int32} {x3 : Int32} {I : MI} {J : MJ} {H : Heap} {locs : List Loc} {ls : Array Slot}, kL4 (x1, x2, x3, I, J) → gH (mS ad cy) 30 ad D s I J H locs → lv_has ls 6 [(0, .ref (ad 0)), (1, .int x1), (2, .int x2), (3, .int x3)] → W p l e rmX12_twins s m args below meth c H locs 0 0 (MQ below (gQi (mS ad cy) 30 ad cy D mE Q) args s 0 0 (gA 30 ad)) (F0 m 4 ls [])) {x1 : Int32} {x2 : Int32} {x3 : Int32} {x4 : Int32} {x5 : Int32} {I : MI} {J : MJ} {H : Heap} {locs : List Loc} {ls : Array Slot} (h : lpx (P_X12_twins_18 Q kL4) (x1, x2, x3, x4, x5, I, J)) (hw : gH (mS ad cy) 30 ad D s I J H locs) (hl : lv_has ls 6 [(0, .ref (ad 0)), (1, .int x1), (2, .int x2), (3, .int x3), (4, .int x4), (5, .int x5)]) : W p l e rmX12_twins s m args below meth c H locs 0 0 (MQ below (gQi (mS ad cy) 30 ad cy D mE Q) args s 0 0 (gA 30 ad)) (F0 m 18 ls []) := by
  obtain ⟨n, h⟩ := h
  induction n generalizing x1 x2 x3 x4 x5 I J H locs ls with
  | zero => exact False.elim h
  | succ n ih => exact w_X12_twins_18 C hL4 (fun hk9 hw9 hl9 => ih hw9 hl9 hk9) h hw hl
set_option maxHeartbeats 4000000 in
set_option maxRecDepth 100000 in
theorem w_X12_twins_4 {Q : Int32 → MI → MJ → Prop} (C : gC RX12 cX12_twins 6 (some .int) 30 ad cy D mE p s m args meth c) {kL4 : Int32 × Int32 × Int32 × MI × MJ → Prop} (hL4 : ∀ {x1 : Int32} {x2 : Int32} {x3 : Int32} {I : MI} {J : MJ} {H : Heap} {locs : List Loc} {ls : Array Slot}, kL4 (x1, x2, x3, I, J) → gH (mS ad cy) 30 ad D s I J H locs → lv_has ls 6 [(0, .ref (ad 0)), (1, .int x1), (2, .int x2), (3, .int x3)] → W p l e rmX12_twins s m args below meth c H locs 0 0 (MQ below (gQi (mS ad cy) 30 ad cy D mE Q) args s 0 0 (gA 30 ad)) (F0 m 4 ls [])) {x1 : Int32} {x2 : Int32} {x3 : Int32} {I : MI} {J : MJ} {H : Heap} {locs : List Loc} {ls : Array Slot} (h : P_X12_twins_4 Q kL4 (x1, x2, x3, I, J)) (hw : gH (mS ad cy) 30 ad D s I J H locs) (hl : lv_has ls 6 [(0, .ref (ad 0)), (1, .int x1), (2, .int x2), (3, .int x3)]) : W p l e rmX12_twins s m args below meth c H locs 0 0 (MQ below (gQi (mS ad cy) 30 ad cy D mE Q) args s 0 0 (gA 30 ad)) (F0 m 4 ls []) := by
  obtain ⟨hx, hb, hC⟩ := id C
  refine lv_iload_n hx hb dX12_twins_4 rfl (lv_at hl 3 rfl) ?_
  refine lv_aload_n hx hb dX12_twins_5 rfl (lv_at hl 0 rfl) ?_
  refine g_get C hw f_RX12_103 ml_0 (ms_0 _ _) rfl dX12_twins_6 ?_
  refine lv_icmp_ge (tgt := 89) hx hb dX12_twins_9 (by decide) (fun c9 => ?_) (fun c9 => ?_)
  · have h := h.1 c9
    refine lv_iload_n hx hb dX12_twins_89 rfl (lv_at hl 2 rfl) ?_
    exact g_iret C hw h dX12_twins_90
  · have h := h.2 c9
    refine lv_iconst (v := 1) hx hb dX12_twins_12 (by decide) ?_
    refine lv_istore (lv' := [(4, .int (1 : Int32)), (0, .ref (ad 0)), (1, .int x1), (2, .int x2), (3, .int x3)]) hx hb dX12_twins_13 hl (by decide) rfl (fun ls hl => ?_)
    refine lv_iconst (v := 0) hx hb dX12_twins_15 (by decide) ?_
    refine lv_istore (lv' := [(5, .int (0 : Int32)), (4, .int (1 : Int32)), (0, .ref (ad 0)), (1, .int x1), (2, .int x2), (3, .int x3)]) hx hb dX12_twins_16 hl (by decide) rfl (fun ls hl => ?_)
    exact wl_X12_twins_18 C hL4 h hw (lv_sub hl [2, 3, 4, 5, 1, 0] rfl)
theorem wl_X12_twins_4 {Q : Int32 → MI → MJ → Prop} (C : gC RX12 cX12_twins 6 (some .int) 30 ad cy D mE p s m args meth c) {x1 : Int32} {x2 : Int32} {x3 : Int32} {I : MI} {J : MJ} {H : Heap} {locs : List Loc} {ls : Array Slot} (h : lpx (P_X12_twins_4 Q) (x1, x2, x3, I, J)) (hw : gH (mS ad cy) 30 ad D s I J H locs) (hl : lv_has ls 6 [(0, .ref (ad 0)), (1, .int x1), (2, .int x2), (3, .int x3)]) : W p l e rmX12_twins s m args below meth c H locs 0 0 (MQ below (gQi (mS ad cy) 30 ad cy D mE Q) args s 0 0 (gA 30 ad)) (F0 m 4 ls []) := by
  obtain ⟨n, h⟩ := h
  induction n generalizing x1 x2 x3 I J H locs ls with
  | zero => exact False.elim h
  | succ n ih => exact w_X12_twins_4 C  (fun hk9 hw9 hl9 => ih hw9 hl9 hk9) h hw hl
set_option maxHeartbeats 4000000 in
set_option maxRecDepth 100000 in
theorem w_X12_twins {Q : Int32 → MI → MJ → Prop} (C : gC RX12 cX12_twins 6 (some .int) 30 ad cy D mE p s m args meth c) {a0 : Int32} {I : MI} {J : MJ} {H : Heap} {locs : List Loc} {ls : Array Slot} (h : P_X12_twins a0 I J Q) (hw : gH (mS ad cy) 30 ad D s I J H locs) (hl : lv_has ls 6 [(0, .ref (ad 0)), (1, .int a0)]) : W p l e rmX12_twins s m args below meth c H locs 0 0 (MQ below (gQi (mS ad cy) 30 ad cy D mE Q) args s 0 0 (gA 30 ad)) (F0 m 0 ls []) := by
  obtain ⟨hx, hb, hC⟩ := id C
  refine lv_iconst (v := 0) hx hb dX12_twins_0 (by decide) ?_
  refine lv_istore_n (lv' := [(2, .int (0 : Int32)), (0, .ref (ad 0)), (1, .int a0)]) hx hb dX12_twins_1 rfl hl (by decide) rfl (fun ls hl => ?_)
  refine lv_iconst (v := 0) hx hb dX12_twins_2 (by decide) ?_
  refine lv_istore_n (lv' := [(3, .int (0 : Int32)), (2, .int (0 : Int32)), (0, .ref (ad 0)), (1, .int a0)]) hx hb dX12_twins_3 rfl hl (by decide) rfl (fun ls hl => ?_)
  exact wl_X12_twins_4 C  h hw (lv_sub hl [2, 3, 1, 0] rfl)
theorem m_X12_twins {l : Launch} {a0 : Int32} {Q : Int32 → MI → MJ → Prop} {I : MI} {J : MJ} (h : P_X12_twins a0 I J Q) : Met l yX12_twins (xws yX12_twins cX12_twins 6 (some .int)) rmX12_twins (va_Pc [.ref (ad 0), .int a0] (gB (mS ad cy) 30 ad cy D mE I J)) (gQi (mS ad cy) 30 ad cy D mE Q) 0 0 (gA 30 ad) :=
  g_met (mE_ok ad) rfl (by decide) (Nat.le_of_ble_eq_true rfl) (fun p e s m below meth c ls C hw hl => w_X12_twins C  h hw hl)
/-! BagPhrasesModel.lettersOf(I)I -/
def P_X12_lettersOf_32 (Q : Int32 → MI → MJ → Prop) (kL4 : Int32 × Int32 × Int32 × MI × MJ → Prop) (x1 : Int32) (x3 : Int32) (s0 : Int32) (s1 : Int32) (I : MI) (J : MJ) : Prop :=
  kL4 (x1, (s0 ||| s1), (x3 + 1), I, J)
def P_X12_lettersOf_4 (Q : Int32 → MI → MJ → Prop) (kL4 : Int32 × Int32 × Int32 × MI × MJ → Prop) : Int32 × Int32 × Int32 × MI × MJ → Prop := fun z => match z with
  | (x1, x2, x3, I, J) => (((8 : Int32) ≤ x3 → Q x2 I J) ∧ (¬ (8 : Int32) ≤ x3 → vp_in (((8 : Int32) * x1) + x3) 80 ∧ ((((I 5 (((8 : Int32) * x1) + x3).toNatClampNeg) ≤ 0 → P_X12_lettersOf_32 Q kL4 x1 x3 x2 (0 : Int32) I J) ∧ (¬ (I 5 (((8 : Int32) * x1) + x3).toNatClampNeg) ≤ 0 → P_X12_lettersOf_32 Q kL4 x1 x3 x2 ((1 : Int32) <<< (x3 &&& 31)) I J)))))
def P_X12_lettersOf (a0 : Int32) (I : MI) (J : MJ) (Q : Int32 → MI → MJ → Prop) : Prop :=
  lpx (P_X12_lettersOf_4 Q) (a0, (0 : Int32), (0 : Int32), I, J)
abbrev rmX12_lettersOf : Room := { frames := 0, cells := 0, slots := 0, locals := 0 }
set_option maxHeartbeats 4000000 in
set_option maxRecDepth 100000 in
theorem w_X12_lettersOf_32 {Q : Int32 → MI → MJ → Prop} (C : gC RX12 cX12_lettersOf 4 (some .int) 30 ad cy D mE p s m args meth c) {kL4 : Int32 × Int32 × Int32 × MI × MJ → Prop} (hL4 : ∀ {x1 : Int32} {x2 : Int32} {x3 : Int32} {I : MI} {J : MJ} {H : Heap} {locs : List Loc} {ls : Array Slot}, kL4 (x1, x2, x3, I, J) → gH (mS ad cy) 30 ad D s I J H locs → lv_has ls 4 [(0, .ref (ad 0)), (1, .int x1), (2, .int x2), (3, .int x3)] → W p l e rmX12_lettersOf s m args below meth c H locs 0 0 (MQ below (gQi (mS ad cy) 30 ad cy D mE Q) args s 0 0 (gA 30 ad)) (F0 m 4 ls [])) {x1 : Int32} {x3 : Int32} {s0 : Int32} {s1 : Int32} {I : MI} {J : MJ} {H : Heap} {locs : List Loc} {ls : Array Slot} (h : P_X12_lettersOf_32 Q kL4 x1 x3 s0 s1 I J) (hw : gH (mS ad cy) 30 ad D s I J H locs) (hl : lv_has ls 4 [(0, .ref (ad 0)), (1, .int x1), (3, .int x3)]) : W p l e rmX12_lettersOf s m args below meth c H locs 0 0 (MQ below (gQi (mS ad cy) 30 ad cy D mE Q) args s 0 0 (gA 30 ad)) (F0 m 32 ls [.int s1, .int s0]) := by
  obtain ⟨hx, hb, hC⟩ := id C
  refine lv_ior hx hb dX12_lettersOf_32 ?_
  refine lv_istore_n (lv' := [(2, .int (s0 ||| s1)), (0, .ref (ad 0)), (1, .int x1), (3, .int x3)]) hx hb dX12_lettersOf_33 rfl hl (by decide) rfl (fun ls hl => ?_)
  refine lv_iinc (v := x3 + 1) (lv' := [(3, .int (x3 + 1)), (2, .int (s0 ||| s1)), (0, .ref (ad 0)), (1, .int x1)]) hx hb dX12_lettersOf_34 hl (k := 3) rfl rfl (by decide) rfl (fun ls hl => ?_)
  refine lv_goto (tgt := 4) hx hb dX12_lettersOf_37 (by decide) ?_
  exact hL4 h hw (lv_sub hl [2, 3, 1, 0] rfl)
set_option maxHeartbeats 4000000 in
set_option maxRecDepth 100000 in
theorem w_X12_lettersOf_4 {Q : Int32 → MI → MJ → Prop} (C : gC RX12 cX12_lettersOf 4 (some .int) 30 ad cy D mE p s m args meth c) {kL4 : Int32 × Int32 × Int32 × MI × MJ → Prop} (hL4 : ∀ {x1 : Int32} {x2 : Int32} {x3 : Int32} {I : MI} {J : MJ} {H : Heap} {locs : List Loc} {ls : Array Slot}, kL4 (x1, x2, x3, I, J) → gH (mS ad cy) 30 ad D s I J H locs → lv_has ls 4 [(0, .ref (ad 0)), (1, .int x1), (2, .int x2), (3, .int x3)] → W p l e rmX12_lettersOf s m args below meth c H locs 0 0 (MQ below (gQi (mS ad cy) 30 ad cy D mE Q) args s 0 0 (gA 30 ad)) (F0 m 4 ls [])) {x1 : Int32} {x2 : Int32} {x3 : Int32} {I : MI} {J : MJ} {H : Heap} {locs : List Loc} {ls : Array Slot} (h : P_X12_lettersOf_4 Q kL4 (x1, x2, x3, I, J)) (hw : gH (mS ad cy) 30 ad D s I J H locs) (hl : lv_has ls 4 [(0, .ref (ad 0)), (1, .int x1), (2, .int x2), (3, .int x3)]) : W p l e rmX12_lettersOf s m args below meth c H locs 0 0 (MQ below (gQi (mS ad cy) 30 ad cy D mE Q) args s 0 0 (gA 30 ad)) (F0 m 4 ls []) := by
  obtain ⟨hx, hb, hC⟩ := id C
  refine lv_iload_n hx hb dX12_lettersOf_4 rfl (lv_at hl 3 rfl) ?_
  refine lv_bipush (v := 8) hx hb dX12_lettersOf_5 (by decide) ?_
  refine lv_icmp_ge (tgt := 40) hx hb dX12_lettersOf_7 (by decide) (fun c7 => ?_) (fun c7 => ?_)
  · have h := h.1 c7
    refine lv_iload_n hx hb dX12_lettersOf_40 rfl (lv_at hl 2 rfl) ?_
    exact g_iret C hw h dX12_lettersOf_41
  · have h := h.2 c7
    refine lv_iload_n hx hb dX12_lettersOf_10 rfl (lv_at hl 2 rfl) ?_
    refine lv_aload_n hx hb dX12_lettersOf_11 rfl (lv_at hl 0 rfl) ?_
    refine g_get C hw f_RX12_22 ml_0 (ms_0 _ _) rfl dX12_lettersOf_12 ?_
    refine lv_bipush (v := 8) hx hb dX12_lettersOf_15 (by decide) ?_
    refine lv_iload_n hx hb dX12_lettersOf_17 rfl (lv_at hl 1 rfl) ?_
    refine lv_imul hx hb dX12_lettersOf_18 ?_
    refine lv_iload_n hx hb dX12_lettersOf_19 rfl (lv_at hl 3 rfl) ?_
    refine lv_iadd hx hb dX12_lettersOf_20 ?_
    refine g_iald C hw ml_5 ms_5 h.1 dX12_lettersOf_21 ?_
    have h := h.2
    refine lv_if_le (tgt := 31) hx hb dX12_lettersOf_22 (by decide) (fun c22 => ?_) (fun c22 => ?_)
    · have h := h.1 c22
      refine lv_iconst (v := 0) hx hb dX12_lettersOf_31 (by decide) ?_
      exact w_X12_lettersOf_32 C hL4 h hw (lv_sub hl [0, 1, 3] rfl)
    · have h := h.2 c22
      refine lv_iconst (v := 1) hx hb dX12_lettersOf_25 (by decide) ?_
      refine lv_iload_n hx hb dX12_lettersOf_26 rfl (lv_at hl 3 rfl) ?_
      refine lv_ishl hx hb dX12_lettersOf_27 ?_
      refine lv_goto (tgt := 32) hx hb dX12_lettersOf_28 (by decide) ?_
      exact w_X12_lettersOf_32 C hL4 h hw (lv_sub hl [0, 1, 3] rfl)
theorem wl_X12_lettersOf_4 {Q : Int32 → MI → MJ → Prop} (C : gC RX12 cX12_lettersOf 4 (some .int) 30 ad cy D mE p s m args meth c) {x1 : Int32} {x2 : Int32} {x3 : Int32} {I : MI} {J : MJ} {H : Heap} {locs : List Loc} {ls : Array Slot} (h : lpx (P_X12_lettersOf_4 Q) (x1, x2, x3, I, J)) (hw : gH (mS ad cy) 30 ad D s I J H locs) (hl : lv_has ls 4 [(0, .ref (ad 0)), (1, .int x1), (2, .int x2), (3, .int x3)]) : W p l e rmX12_lettersOf s m args below meth c H locs 0 0 (MQ below (gQi (mS ad cy) 30 ad cy D mE Q) args s 0 0 (gA 30 ad)) (F0 m 4 ls []) := by
  obtain ⟨n, h⟩ := h
  induction n generalizing x1 x2 x3 I J H locs ls with
  | zero => exact False.elim h
  | succ n ih => exact w_X12_lettersOf_4 C  (fun hk9 hw9 hl9 => ih hw9 hl9 hk9) h hw hl
set_option maxHeartbeats 4000000 in
set_option maxRecDepth 100000 in
theorem w_X12_lettersOf {Q : Int32 → MI → MJ → Prop} (C : gC RX12 cX12_lettersOf 4 (some .int) 30 ad cy D mE p s m args meth c) {a0 : Int32} {I : MI} {J : MJ} {H : Heap} {locs : List Loc} {ls : Array Slot} (h : P_X12_lettersOf a0 I J Q) (hw : gH (mS ad cy) 30 ad D s I J H locs) (hl : lv_has ls 4 [(0, .ref (ad 0)), (1, .int a0)]) : W p l e rmX12_lettersOf s m args below meth c H locs 0 0 (MQ below (gQi (mS ad cy) 30 ad cy D mE Q) args s 0 0 (gA 30 ad)) (F0 m 0 ls []) := by
  obtain ⟨hx, hb, hC⟩ := id C
  refine lv_iconst (v := 0) hx hb dX12_lettersOf_0 (by decide) ?_
  refine lv_istore_n (lv' := [(2, .int (0 : Int32)), (0, .ref (ad 0)), (1, .int a0)]) hx hb dX12_lettersOf_1 rfl hl (by decide) rfl (fun ls hl => ?_)
  refine lv_iconst (v := 0) hx hb dX12_lettersOf_2 (by decide) ?_
  refine lv_istore_n (lv' := [(3, .int (0 : Int32)), (2, .int (0 : Int32)), (0, .ref (ad 0)), (1, .int a0)]) hx hb dX12_lettersOf_3 rfl hl (by decide) rfl (fun ls hl => ?_)
  exact wl_X12_lettersOf_4 C  h hw (lv_sub hl [2, 3, 1, 0] rfl)
theorem m_X12_lettersOf {l : Launch} {a0 : Int32} {Q : Int32 → MI → MJ → Prop} {I : MI} {J : MJ} (h : P_X12_lettersOf a0 I J Q) : Met l yX12_lettersOf (xws yX12_lettersOf cX12_lettersOf 4 (some .int)) rmX12_lettersOf (va_Pc [.ref (ad 0), .int a0] (gB (mS ad cy) 30 ad cy D mE I J)) (gQi (mS ad cy) 30 ad cy D mE Q) 0 0 (gA 30 ad) :=
  g_met (mE_ok ad) rfl (by decide) (Nat.le_of_ble_eq_true rfl) (fun p e s m below meth c ls C hw hl => w_X12_lettersOf C  h hw hl)
/-! BagPhrasesModel.word(II)I -/
def P_X12_word (a0 : Int32) (a1 : Int32) (I : MI) (J : MJ) (Q : Int32 → MI → MJ → Prop) : Prop :=
  P_X12_isWord a0 I J (fun r2 I2 J2 => ((¬ r2 = 0 → ((a1 = 0 → vp_in a0 10 ∧ (Q (I2 3 a0.toNatClampNeg) I2 J2)) ∧ (¬ a1 = 0 → ((a1 = 1 → vp_in a0 10 ∧ (Q (I2 4 a0.toNatClampNeg) I2 J2)) ∧ (¬ a1 = 1 → ((a1 = 2 → vp_in ((9 : Int32) + a0) 25 ∧ (Q (I2 6 ((9 : Int32) + a0).toNatClampNeg) I2 J2)) ∧ (¬ a1 = 2 → ((a1 = 3 → vp_in (8 : Int32) 25 ∧ (Q (((I2 6 (8 : Int32).toNatClampNeg) >>> (a0 &&& 31)) &&& (1 : Int32)) I2 J2)) ∧ (¬ a1 = 3 → ((a1 = 4 → P_X12_rarest a0 I2 J2 (fun r94 I94 J94 => Q r94 I94 J94)) ∧ (¬ a1 = 4 → ((a1 = 5 → P_X12_twins a0 I2 J2 (fun r100 I100 J100 => Q r100 I100 J100)) ∧ (¬ a1 = 5 → ((a1 = 6 → P_X12_madeOf a0 I2 J2 (fun r106 I106 J106 => Q r106 I106 J106)) ∧ (¬ a1 = 6 → ((a1 = 7 → P_X12_lettersOf a0 I2 J2 (fun r112 I112 J112 => Q r112 I112 J112)) ∧ (¬ a1 = 7 → Q (-2 : Int32) I2 J2))))))))))))))))) ∧ (r2 = 0 → Q (-1 : Int32) I2 J2)))
abbrev rmX12_word : Room := { frames := 2, cells := 0, slots := 0, locals := 46 }
set_option maxHeartbeats 4000000 in
set_option maxRecDepth 100000 in
theorem w_X12_word {Q : Int32 → MI → MJ → Prop} (C : gC RX12 cX12_word 3 (some .int) 30 ad cy D mE p s m args meth c) {a0 : Int32} {a1 : Int32} {I : MI} {J : MJ} {H : Heap} {locs : List Loc} {ls : Array Slot} (h : P_X12_word a0 a1 I J Q) (hw : gH (mS ad cy) 30 ad D s I J H locs) (hl : lv_has ls 3 [(0, .ref (ad 0)), (1, .int a0), (2, .int a1)]) : W p l e rmX12_word s m args below meth c H locs 0 0 (MQ below (gQi (mS ad cy) 30 ad cy D mE Q) args s 0 0 (gA 30 ad)) (F0 m 0 ls []) := by
  obtain ⟨hx, hb, hC⟩ := id C
  refine lv_aload_n hx hb dX12_word_0 rfl (lv_at hl 0 rfl) ?_
  refine lv_iload_n hx hb dX12_word_1 rfl (lv_at hl 1 rfl) ?_
  refine g_cz hw (g_rV [.int a0] [] C hw (m_X12_isWord h) k_X12_isWord q_RX12_243 ml_0 (ms_0 _ _) rfl rfl hl.1 rfl (Nat.le_of_ble_eq_true rfl) ⟨⟨rfl, rfl⟩, Nat.le_of_ble_eq_true rfl, Nat.le_of_ble_eq_true rfl⟩ ⟨Nat.zero_le _, Nat.zero_le _⟩ dX12_word_2) (fun r2 I2 J2 H locs z2 h hw => ?_)
  refine lv_if_ne (tgt := 10) hx hb dX12_word_5 (by decide) (fun c5 => ?_) (fun c5 => ?_)
  · have h := h.1 c5
    refine lv_iload_n hx hb dX12_word_10 rfl (lv_at hl 2 rfl) ?_
    rcases Classical.em (a1 = 0) with c11_0 | c11_0
    · have h := h.1 c11_0
      refine lv_tableIn (off := 45) (tgt := 56) hx hb dX12_word_11 (by rw [c11_0]; decide) (by rw [c11_0]; decide) (by rw [c11_0]; rfl) (by decide) ?_
      refine lv_aload_n hx hb dX12_word_56 rfl (lv_at hl 0 rfl) ?_
      refine g_get C hw f_RX12_16 ml_0 (ms_0 _ _) rfl dX12_word_57 ?_
      refine lv_iload_n hx hb dX12_word_60 rfl (lv_at hl 1 rfl) ?_
      refine g_iald C hw ml_3 ms_3 h.1 dX12_word_61 ?_
      have h := h.2
      exact g_iret C hw h dX12_word_62
    have h := h.2 c11_0
    rcases Classical.em (a1 = 1) with c11_1 | c11_1
    · have h := h.1 c11_1
      refine lv_tableIn (off := 52) (tgt := 63) hx hb dX12_word_11 (by rw [c11_1]; decide) (by rw [c11_1]; decide) (by rw [c11_1]; rfl) (by decide) ?_
      refine lv_aload_n hx hb dX12_word_63 rfl (lv_at hl 0 rfl) ?_
      refine g_get C hw f_RX12_19 ml_0 (ms_0 _ _) rfl dX12_word_64 ?_
      refine lv_iload_n hx hb dX12_word_67 rfl (lv_at hl 1 rfl) ?_
      refine g_iald C hw ml_4 ms_4 h.1 dX12_word_68 ?_
      have h := h.2
      exact g_iret C hw h dX12_word_69
    have h := h.2 c11_1
    rcases Classical.em (a1 = 2) with c11_2 | c11_2
    · have h := h.1 c11_2
      refine lv_tableIn (off := 59) (tgt := 70) hx hb dX12_word_11 (by rw [c11_2]; decide) (by rw [c11_2]; decide) (by rw [c11_2]; rfl) (by decide) ?_
      refine lv_aload_n hx hb dX12_word_70 rfl (lv_at hl 0 rfl) ?_
      refine g_get C hw f_RX12_25 ml_0 (ms_0 _ _) rfl dX12_word_71 ?_
      refine lv_bipush (v := 9) hx hb dX12_word_74 (by decide) ?_
      refine lv_iload_n hx hb dX12_word_76 rfl (lv_at hl 1 rfl) ?_
      refine lv_iadd hx hb dX12_word_77 ?_
      refine g_iald C hw ml_6 ms_6 h.1 dX12_word_78 ?_
      have h := h.2
      exact g_iret C hw h dX12_word_79
    have h := h.2 c11_2
    rcases Classical.em (a1 = 3) with c11_3 | c11_3
    · have h := h.1 c11_3
      refine lv_tableIn (off := 69) (tgt := 80) hx hb dX12_word_11 (by rw [c11_3]; decide) (by rw [c11_3]; decide) (by rw [c11_3]; rfl) (by decide) ?_
      refine lv_aload_n hx hb dX12_word_80 rfl (lv_at hl 0 rfl) ?_
      refine g_get C hw f_RX12_25 ml_0 (ms_0 _ _) rfl dX12_word_81 ?_
      refine lv_bipush (v := 8) hx hb dX12_word_84 (by decide) ?_
      refine g_iald C hw ml_6 ms_6 h.1 dX12_word_86 ?_
      have h := h.2
      refine lv_iload_n hx hb dX12_word_87 rfl (lv_at hl 1 rfl) ?_
      refine lv_ishr hx hb dX12_word_88 ?_
      refine lv_iconst (v := 1) hx hb dX12_word_89 (by decide) ?_
      refine lv_iand hx hb dX12_word_90 ?_
      exact g_iret C hw h dX12_word_91
    have h := h.2 c11_3
    rcases Classical.em (a1 = 4) with c11_4 | c11_4
    · have h := h.1 c11_4
      refine lv_tableIn (off := 81) (tgt := 92) hx hb dX12_word_11 (by rw [c11_4]; decide) (by rw [c11_4]; decide) (by rw [c11_4]; rfl) (by decide) ?_
      refine lv_aload_n hx hb dX12_word_92 rfl (lv_at hl 0 rfl) ?_
      refine lv_iload_n hx hb dX12_word_93 rfl (lv_at hl 1 rfl) ?_
      refine g_ci hw (g_rV [.int a0] [] C hw (m_X12_rarest h) k_X12_rarest q_RX12_246 ml_0 (ms_0 _ _) rfl rfl hl.1 rfl (Nat.le_of_ble_eq_true rfl) ⟨⟨rfl, rfl⟩, Nat.le_of_ble_eq_true rfl, Nat.le_of_ble_eq_true rfl⟩ ⟨Nat.zero_le _, Nat.zero_le _⟩ dX12_word_94) (fun r94 I94 J94 H locs h hw => ?_)
      exact g_iret C hw h dX12_word_97
    have h := h.2 c11_4
    rcases Classical.em (a1 = 5) with c11_5 | c11_5
    · have h := h.1 c11_5
      refine lv_tableIn (off := 87) (tgt := 98) hx hb dX12_word_11 (by rw [c11_5]; decide) (by rw [c11_5]; decide) (by rw [c11_5]; rfl) (by decide) ?_
      refine lv_aload_n hx hb dX12_word_98 rfl (lv_at hl 0 rfl) ?_
      refine lv_iload_n hx hb dX12_word_99 rfl (lv_at hl 1 rfl) ?_
      refine g_ci hw (g_rV [.int a0] [] C hw (m_X12_twins h) k_X12_twins q_RX12_249 ml_0 (ms_0 _ _) rfl rfl hl.1 rfl (Nat.le_of_ble_eq_true rfl) ⟨⟨rfl, rfl⟩, Nat.le_of_ble_eq_true rfl, Nat.le_of_ble_eq_true rfl⟩ ⟨Nat.zero_le _, Nat.zero_le _⟩ dX12_word_100) (fun r100 I100 J100 H locs h hw => ?_)
      exact g_iret C hw h dX12_word_103
    have h := h.2 c11_5
    rcases Classical.em (a1 = 6) with c11_6 | c11_6
    · have h := h.1 c11_6
      refine lv_tableIn (off := 93) (tgt := 104) hx hb dX12_word_11 (by rw [c11_6]; decide) (by rw [c11_6]; decide) (by rw [c11_6]; rfl) (by decide) ?_
      refine lv_aload_n hx hb dX12_word_104 rfl (lv_at hl 0 rfl) ?_
      refine lv_iload_n hx hb dX12_word_105 rfl (lv_at hl 1 rfl) ?_
      refine g_ci hw (g_rV [.int a0] [] C hw (m_X12_madeOf h) k_X12_madeOf q_RX12_220 ml_0 (ms_0 _ _) rfl rfl hl.1 rfl (Nat.le_of_ble_eq_true rfl) ⟨⟨rfl, rfl⟩, Nat.le_of_ble_eq_true rfl, Nat.le_of_ble_eq_true rfl⟩ ⟨Nat.zero_le _, Nat.zero_le _⟩ dX12_word_106) (fun r106 I106 J106 H locs h hw => ?_)
      exact g_iret C hw h dX12_word_109
    have h := h.2 c11_6
    rcases Classical.em (a1 = 7) with c11_7 | c11_7
    · have h := h.1 c11_7
      refine lv_tableIn (off := 99) (tgt := 110) hx hb dX12_word_11 (by rw [c11_7]; decide) (by rw [c11_7]; decide) (by rw [c11_7]; rfl) (by decide) ?_
      refine lv_aload_n hx hb dX12_word_110 rfl (lv_at hl 0 rfl) ?_
      refine lv_iload_n hx hb dX12_word_111 rfl (lv_at hl 1 rfl) ?_
      refine g_ci hw (g_rV [.int a0] [] C hw (m_X12_lettersOf h) k_X12_lettersOf q_RX12_252 ml_0 (ms_0 _ _) rfl rfl hl.1 rfl (Nat.le_of_ble_eq_true rfl) ⟨⟨rfl, rfl⟩, Nat.le_of_ble_eq_true rfl, Nat.le_of_ble_eq_true rfl⟩ ⟨Nat.zero_le _, Nat.zero_le _⟩ dX12_word_112) (fun r112 I112 J112 H locs h hw => ?_)
      exact g_iret C hw h dX12_word_115
    have h := h.2 c11_7
    refine lv_tableOut (tgt := 116) hx hb dX12_word_11 (by have hs0 := toInt_ne c11_0 (show (0 : Int32).toInt = 0 from by decide); have hs1 := toInt_ne c11_1 (show (1 : Int32).toInt = 1 from by decide); have hs2 := toInt_ne c11_2 (show (2 : Int32).toInt = 2 from by decide); have hs3 := toInt_ne c11_3 (show (3 : Int32).toInt = 3 from by decide); have hs4 := toInt_ne c11_4 (show (4 : Int32).toInt = 4 from by decide); have hs5 := toInt_ne c11_5 (show (5 : Int32).toInt = 5 from by decide); have hs6 := toInt_ne c11_6 (show (6 : Int32).toInt = 6 from by decide); have hs7 := toInt_ne c11_7 (show (7 : Int32).toInt = 7 from by decide); omega) (by decide) ?_
    refine lv_bipush (v := -2) hx hb dX12_word_116 (by decide) ?_
    exact g_iret C hw h dX12_word_118
  · have h := h.2 c5
    refine lv_iconst (v := -1) hx hb dX12_word_8 (by decide) ?_
    exact g_iret C hw h dX12_word_9
theorem m_X12_word {l : Launch} {a0 : Int32} {a1 : Int32} {Q : Int32 → MI → MJ → Prop} {I : MI} {J : MJ} (h : P_X12_word a0 a1 I J Q) : Met l yX12_word (xws yX12_word cX12_word 3 (some .int)) rmX12_word (va_Pc [.ref (ad 0), .int a0, .int a1] (gB (mS ad cy) 30 ad cy D mE I J)) (gQi (mS ad cy) 30 ad cy D mE Q) 0 0 (gA 30 ad) :=
  g_met (mE_ok ad) rfl (by decide) (Nat.le_of_ble_eq_true rfl) (fun p e s m below meth c ls C hw hl => w_X12_word C  h hw hl)
/-! BagPhrasesModel.isLetter(I)Z -/
def P_X12_isLetter (a0 : Int32) (I : MI) (J : MJ) (Q : Int32 → MI → MJ → Prop) : Prop :=
  P_X12_in a0.toInt64 (0 : Int64) (7 : Int64) I J (fun r6 I6 J6 => Q r6 I6 J6)
abbrev rmX12_isLetter : Room := { frames := 1, cells := 0, slots := 0, locals := 25 }
set_option maxHeartbeats 4000000 in
set_option maxRecDepth 100000 in
theorem w_X12_isLetter {Q : Int32 → MI → MJ → Prop} (C : gC RX12 cX12_isLetter 1 (some .boolean) 30 ad cy D mE p s m args meth c) {a0 : Int32} {I : MI} {J : MJ} {H : Heap} {locs : List Loc} {ls : Array Slot} (h : P_X12_isLetter a0 I J Q) (hw : gH (mS ad cy) 30 ad D s I J H locs) (hl : lv_has ls 1 [(0, .int a0)]) : W p l e rmX12_isLetter s m args below meth c H locs 0 0 (MQ below (gQz (mS ad cy) 30 ad cy D mE Q) args s 0 0 (gA 30 ad)) (F0 m 0 ls []) := by
  obtain ⟨hx, hb, hC⟩ := id C
  refine lv_iload_n hx hb dX12_isLetter_0 rfl (lv_at hl 0 rfl) ?_
  refine lv_i2l hx hb dX12_isLetter_1 rfl ?_
  refine lv_lconst (v := 0) hx hb dX12_isLetter_2 (by decide) ?_
  refine lv_ldc2 (v := (7)) hx hb hC.2.2.1 (hC.2.2.2.1 _ q_RX12_111) dX12_isLetter_3 ?_
  refine g_cz hw (g_rS [.long a0.toInt64, .long (0 : Int64), .long (7 : Int64)] [] C hw (m_X12_in h) k_X12_in q_RX12_107 rfl hl.1 rfl (Nat.le_of_ble_eq_true rfl) ⟨⟨rfl, rfl⟩, Nat.le_of_ble_eq_true rfl, Nat.le_of_ble_eq_true rfl⟩ ⟨Nat.zero_le _, Nat.zero_le _⟩ dX12_isLetter_6) (fun r6 I6 J6 H locs z6 h hw => ?_)
  exact g_zret C hw z6 h dX12_isLetter_9
theorem m_X12_isLetter {l : Launch} {a0 : Int32} {Q : Int32 → MI → MJ → Prop} {I : MI} {J : MJ} (h : P_X12_isLetter a0 I J Q) : Met l yX12_isLetter (xws yX12_isLetter cX12_isLetter 1 (some .boolean)) rmX12_isLetter (va_Pc [.int a0] (gB (mS ad cy) 30 ad cy D mE I J)) (gQz (mS ad cy) 30 ad cy D mE Q) 0 0 (gA 30 ad) :=
  g_met (mE_ok ad) rfl (by decide) (Nat.le_of_ble_eq_true rfl) (fun p e s m below meth c ls C hw hl => w_X12_isLetter C  h hw hl)
/-! BagPhrasesModel.letter(II)I -/
def P_X12_letter_21 (Q : Int32 → MI → MJ → Prop) (x1 : Int32) (x2 : Int32) (I : MI) (J : MJ) : Prop :=
  ((x2 = 0 → vp_in x1 25 ∧ (Q (I 6 x1.toNatClampNeg) I J)) ∧ (¬ x2 = 0 → ((x2 = 1 → P_X12_havers x1 I J (fun r57 I57 J57 => Q r57 I57 J57)) ∧ (¬ x2 = 1 → ((x2 = 2 → vp_in ((21 : Int32) + x1) 25 ∧ (Q (I 6 ((21 : Int32) + x1).toNatClampNeg) I J)) ∧ (¬ x2 = 2 → Q (-2 : Int32) I J))))))
def P_X12_letter (a0 : Int32) (a1 : Int32) (I : MI) (J : MJ) (Q : Int32 → MI → MJ → Prop) : Prop :=
  P_X12_isLetter a0 I J (fun r1 I1 J1 => ((r1 = 0 → Q (-1 : Int32) I1 J1) ∧ (¬ r1 = 0 → ((¬ a1 = (2 : Int32) → P_X12_letter_21 Q a0 a1 I1 J1) ∧ (a1 = (2 : Int32) → P_X12_isKind a0 I1 J1 (fun r13 I13 J13 => ((¬ r13 = 0 → P_X12_letter_21 Q a0 a1 I13 J13) ∧ (r13 = 0 → Q (-1 : Int32) I13 J13))))))))
abbrev rmX12_letter : Room := { frames := 2, cells := 0, slots := 0, locals := 45 }
set_option maxHeartbeats 4000000 in
set_option maxRecDepth 100000 in
theorem w_X12_letter_21 {Q : Int32 → MI → MJ → Prop} (C : gC RX12 cX12_letter 3 (some .int) 30 ad cy D mE p s m args meth c) {x1 : Int32} {x2 : Int32} {I : MI} {J : MJ} {H : Heap} {locs : List Loc} {ls : Array Slot} (h : P_X12_letter_21 Q x1 x2 I J) (hw : gH (mS ad cy) 30 ad D s I J H locs) (hl : lv_has ls 3 [(0, .ref (ad 0)), (1, .int x1), (2, .int x2)]) : W p l e rmX12_letter s m args below meth c H locs 0 0 (MQ below (gQi (mS ad cy) 30 ad cy D mE Q) args s 0 0 (gA 30 ad)) (F0 m 21 ls []) := by
  obtain ⟨hx, hb, hC⟩ := id C
  refine lv_iload_n hx hb dX12_letter_21 rfl (lv_at hl 2 rfl) ?_
  rcases Classical.em (x2 = 0) with c22_0 | c22_0
  · have h := h.1 c22_0
    refine lv_tableIn (off := 26) (tgt := 48) hx hb dX12_letter_22 (by rw [c22_0]; decide) (by rw [c22_0]; decide) (by rw [c22_0]; rfl) (by decide) ?_
    refine lv_aload_n hx hb dX12_letter_48 rfl (lv_at hl 0 rfl) ?_
    refine g_get C hw f_RX12_25 ml_0 (ms_0 _ _) rfl dX12_letter_49 ?_
    refine lv_iload_n hx hb dX12_letter_52 rfl (lv_at hl 1 rfl) ?_
    refine g_iald C hw ml_6 ms_6 h.1 dX12_letter_53 ?_
    have h := h.2
    exact g_iret C hw h dX12_letter_54
  have h := h.2 c22_0
  rcases Classical.em (x2 = 1) with c22_1 | c22_1
  · have h := h.1 c22_1
    refine lv_tableIn (off := 33) (tgt := 55) hx hb dX12_letter_22 (by rw [c22_1]; decide) (by rw [c22_1]; decide) (by rw [c22_1]; rfl) (by decide) ?_
    refine lv_aload_n hx hb dX12_letter_55 rfl (lv_at hl 0 rfl) ?_
    refine lv_iload_n hx hb dX12_letter_56 rfl (lv_at hl 1 rfl) ?_
    refine g_ci hw (g_rV [.int x1] [] C hw (m_X12_havers h) k_X12_havers q_RX12_240 ml_0 (ms_0 _ _) rfl rfl hl.1 rfl (Nat.le_of_ble_eq_true rfl) ⟨⟨rfl, rfl⟩, Nat.le_of_ble_eq_true rfl, Nat.le_of_ble_eq_true rfl⟩ ⟨Nat.zero_le _, Nat.zero_le _⟩ dX12_letter_57) (fun r57 I57 J57 H locs h hw => ?_)
    exact g_iret C hw h dX12_letter_60
  have h := h.2 c22_1
  rcases Classical.em (x2 = 2) with c22_2 | c22_2
  · have h := h.1 c22_2
    refine lv_tableIn (off := 39) (tgt := 61) hx hb dX12_letter_22 (by rw [c22_2]; decide) (by rw [c22_2]; decide) (by rw [c22_2]; rfl) (by decide) ?_
    refine lv_aload_n hx hb dX12_letter_61 rfl (lv_at hl 0 rfl) ?_
    refine g_get C hw f_RX12_25 ml_0 (ms_0 _ _) rfl dX12_letter_62 ?_
    refine lv_bipush (v := 21) hx hb dX12_letter_65 (by decide) ?_
    refine lv_iload_n hx hb dX12_letter_67 rfl (lv_at hl 1 rfl) ?_
    refine lv_iadd hx hb dX12_letter_68 ?_
    refine g_iald C hw ml_6 ms_6 h.1 dX12_letter_69 ?_
    have h := h.2
    exact g_iret C hw h dX12_letter_70
  have h := h.2 c22_2
  refine lv_tableOut (tgt := 71) hx hb dX12_letter_22 (by have hs0 := toInt_ne c22_0 (show (0 : Int32).toInt = 0 from by decide); have hs1 := toInt_ne c22_1 (show (1 : Int32).toInt = 1 from by decide); have hs2 := toInt_ne c22_2 (show (2 : Int32).toInt = 2 from by decide); omega) (by decide) ?_
  refine lv_bipush (v := -2) hx hb dX12_letter_71 (by decide) ?_
  exact g_iret C hw h dX12_letter_73
set_option maxHeartbeats 4000000 in
set_option maxRecDepth 100000 in
theorem w_X12_letter {Q : Int32 → MI → MJ → Prop} (C : gC RX12 cX12_letter 3 (some .int) 30 ad cy D mE p s m args meth c) {a0 : Int32} {a1 : Int32} {I : MI} {J : MJ} {H : Heap} {locs : List Loc} {ls : Array Slot} (h : P_X12_letter a0 a1 I J Q) (hw : gH (mS ad cy) 30 ad D s I J H locs) (hl : lv_has ls 3 [(0, .ref (ad 0)), (1, .int a0), (2, .int a1)]) : W p l e rmX12_letter s m args below meth c H locs 0 0 (MQ below (gQi (mS ad cy) 30 ad cy D mE Q) args s 0 0 (gA 30 ad)) (F0 m 0 ls []) := by
  obtain ⟨hx, hb, hC⟩ := id C
  refine lv_iload_n hx hb dX12_letter_0 rfl (lv_at hl 1 rfl) ?_
  refine g_cz hw (g_rS [.int a0] [] C hw (m_X12_isLetter h) k_X12_isLetter q_RX12_255 rfl hl.1 rfl (Nat.le_of_ble_eq_true rfl) ⟨⟨rfl, rfl⟩, Nat.le_of_ble_eq_true rfl, Nat.le_of_ble_eq_true rfl⟩ ⟨Nat.zero_le _, Nat.zero_le _⟩ dX12_letter_1) (fun r1 I1 J1 H locs z1 h hw => ?_)
  refine lv_if_eq (tgt := 19) hx hb dX12_letter_4 (by decide) (fun c4 => ?_) (fun c4 => ?_)
  · have h := h.1 c4
    refine lv_iconst (v := -1) hx hb dX12_letter_19 (by decide) ?_
    exact g_iret C hw h dX12_letter_20
  · have h := h.2 c4
    refine lv_iload_n hx hb dX12_letter_7 rfl (lv_at hl 2 rfl) ?_
    refine lv_iconst (v := 2) hx hb dX12_letter_8 (by decide) ?_
    refine lv_icmp_ne (tgt := 21) hx hb dX12_letter_9 (by decide) (fun c9 => ?_) (fun c9 => ?_)
    · have h := h.1 c9
      exact w_X12_letter_21 C  h hw (lv_sub hl [0, 1, 2] rfl)
    · have h := h.2 c9
      refine lv_iload_n hx hb dX12_letter_12 rfl (lv_at hl 1 rfl) ?_
      refine g_cz hw (g_rS [.int a0] [] C hw (m_X12_isKind h) k_X12_isKind q_RX12_145 rfl hl.1 rfl (Nat.le_of_ble_eq_true rfl) ⟨⟨rfl, rfl⟩, Nat.le_of_ble_eq_true rfl, Nat.le_of_ble_eq_true rfl⟩ ⟨Nat.zero_le _, Nat.zero_le _⟩ dX12_letter_13) (fun r13 I13 J13 H locs z13 h hw => ?_)
      refine lv_if_ne (tgt := 21) hx hb dX12_letter_16 (by decide) (fun c16 => ?_) (fun c16 => ?_)
      · have h := h.1 c16
        exact w_X12_letter_21 C  h hw (lv_sub hl [0, 1, 2] rfl)
      · have h := h.2 c16
        refine lv_iconst (v := -1) hx hb dX12_letter_19 (by decide) ?_
        exact g_iret C hw h dX12_letter_20
theorem m_X12_letter {l : Launch} {a0 : Int32} {a1 : Int32} {Q : Int32 → MI → MJ → Prop} {I : MI} {J : MJ} (h : P_X12_letter a0 a1 I J Q) : Met l yX12_letter (xws yX12_letter cX12_letter 3 (some .int)) rmX12_letter (va_Pc [.ref (ad 0), .int a0, .int a1] (gB (mS ad cy) 30 ad cy D mE I J)) (gQi (mS ad cy) 30 ad cy D mE Q) 0 0 (gA 30 ad) :=
  g_met (mE_ok ad) rfl (by decide) (Nat.le_of_ble_eq_true rfl) (fun p e s m below meth c ls C hw hl => w_X12_letter C  h hw hl)
/-! BagPhrasesModel.note()V -/
def P_X12_note_68 (Q : MI → MJ → Prop) (s1 : Int32) (I : MI) (J : MJ) : Prop :=
  (∀ I68 : MI, I68 = mI I 0 10 s1 → Q I68 J)
def P_X12_note_2 (Q : MI → MJ → Prop) (kL2 : Int32 × MI × MJ → Prop) : Int32 × MI × MJ → Prop := fun z => match z with
  | (x1, I, J) => (((25 : Int32) ≤ x1 → (∀ I44 : MI, I44 = mI I 0 11 (((I 0 11) + (1 : Int32)) - ((I 0 11) + (1 : Int32)) / (14 : Int32) * (14 : Int32)) → (((14 : Int32) ≤ (I44 0 10) → P_X12_note_68 Q (14 : Int32) I44 J) ∧ (¬ (14 : Int32) ≤ (I44 0 10) → P_X12_note_68 Q ((I44 0 10) + (1 : Int32)) I44 J)))) ∧ (¬ (25 : Int32) ≤ x1 → vp_in x1 25 ∧ (vp_in (((25 : Int32) * (I 0 11)) + x1) 350 ∧ (∀ I27 : MI, I27 = mI I 8 (((25 : Int32) * (I 0 11)) + x1).toNatClampNeg (I 6 x1.toNatClampNeg) → kL2 ((x1 + 1), I27, J)))))
def P_X12_note (I : MI) (J : MJ) (Q : MI → MJ → Prop) : Prop :=
  lpx (P_X12_note_2 Q) ((0 : Int32), I, J)
abbrev rmX12_note : Room := { frames := 0, cells := 0, slots := 0, locals := 0 }
set_option maxHeartbeats 4000000 in
set_option maxRecDepth 100000 in
theorem w_X12_note_68 {Q : MI → MJ → Prop} (C : gC RX12 cX12_note 2 none 30 ad cy D mE p s m args meth c) {s1 : Int32} {I : MI} {J : MJ} {H : Heap} {locs : List Loc} {ls : Array Slot} (h : P_X12_note_68 Q s1 I J) (hw : gH (mS ad cy) 30 ad D s I J H locs) (hl : lv_has ls 2 []) : W p l e rmX12_note s m args below meth c H locs 0 0 (MQ below (gQv (mS ad cy) 30 ad cy D mE Q) args s 0 0 (gA 30 ad)) (F0 m 68 ls [.int s1, .ref (ad 0)]) := by
  obtain ⟨hx, hb, hC⟩ := id C
  refine g_putI C hw fp_RX12_182 ml_0 ms_0 (st_11_10 ad _) (Nat.le_of_ble_eq_true rfl) rfl rfl dX12_note_68 (fun H locs hw => ?_)
  obtain ⟨I68, e68⟩ : ∃ z : MI, z = mI I 0 10 s1 := ⟨_, rfl⟩
  have h := h I68 e68
  rw [← e68] at hw
  exact g_vret C hw h dX12_note_71
set_option maxHeartbeats 4000000 in
set_option maxRecDepth 100000 in
theorem w_X12_note_2 {Q : MI → MJ → Prop} (C : gC RX12 cX12_note 2 none 30 ad cy D mE p s m args meth c) {kL2 : Int32 × MI × MJ → Prop} (hL2 : ∀ {x1 : Int32} {I : MI} {J : MJ} {H : Heap} {locs : List Loc} {ls : Array Slot}, kL2 (x1, I, J) → gH (mS ad cy) 30 ad D s I J H locs → lv_has ls 2 [(0, .ref (ad 0)), (1, .int x1)] → W p l e rmX12_note s m args below meth c H locs 0 0 (MQ below (gQv (mS ad cy) 30 ad cy D mE Q) args s 0 0 (gA 30 ad)) (F0 m 2 ls [])) {x1 : Int32} {I : MI} {J : MJ} {H : Heap} {locs : List Loc} {ls : Array Slot} (h : P_X12_note_2 Q kL2 (x1, I, J)) (hw : gH (mS ad cy) 30 ad D s I J H locs) (hl : lv_has ls 2 [(0, .ref (ad 0)), (1, .int x1)]) : W p l e rmX12_note s m args below meth c H locs 0 0 (MQ below (gQv (mS ad cy) 30 ad cy D mE Q) args s 0 0 (gA 30 ad)) (F0 m 2 ls []) := by
  obtain ⟨hx, hb, hC⟩ := id C
  refine lv_iload_n hx hb dX12_note_2 rfl (lv_at hl 1 rfl) ?_
  refine lv_bipush (v := 25) hx hb dX12_note_3 (by decide) ?_
  refine lv_icmp_ge (tgt := 34) hx hb dX12_note_5 (by decide) (fun c5 => ?_) (fun c5 => ?_)
  · have h := h.1 c5
    refine lv_aload_n hx hb dX12_note_34 rfl (lv_at hl 0 rfl) ?_
    refine lv_aload_n hx hb dX12_note_35 rfl (lv_at hl 0 rfl) ?_
    refine g_get C hw f_RX12_258 ml_0 (ms_0 _ _) rfl dX12_note_36 ?_
    refine lv_iconst (v := 1) hx hb dX12_note_39 (by decide) ?_
    refine lv_iadd hx hb dX12_note_40 ?_
    refine lv_bipush (v := 14) hx hb dX12_note_41 (by decide) ?_
    refine lv_irem hx hb dX12_note_43 (by decide) ?_
    refine g_putI C hw fp_RX12_258 ml_0 ms_0 (st_11_11 ad _) (Nat.le_of_ble_eq_true rfl) rfl rfl dX12_note_44 (fun H locs hw => ?_)
    obtain ⟨I44, e44⟩ : ∃ z : MI, z = mI I 0 11 (((I 0 11) + (1 : Int32)) - ((I 0 11) + (1 : Int32)) / (14 : Int32) * (14 : Int32)) := ⟨_, rfl⟩
    have h := h I44 e44
    rw [← e44] at hw
    refine lv_aload_n hx hb dX12_note_47 rfl (lv_at hl 0 rfl) ?_
    refine lv_aload_n hx hb dX12_note_48 rfl (lv_at hl 0 rfl) ?_
    refine g_get C hw f_RX12_182 ml_0 (ms_0 _ _) rfl dX12_note_49 ?_
    refine lv_bipush (v := 14) hx hb dX12_note_52 (by decide) ?_
    refine lv_icmp_ge (tgt := 66) hx hb dX12_note_54 (by decide) (fun c54 => ?_) (fun c54 => ?_)
    · have h := h.1 c54
      refine lv_bipush (v := 14) hx hb dX12_note_66 (by decide) ?_
      exact w_X12_note_68 C  h hw (lv_sub hl [] rfl)
    · have h := h.2 c54
      refine lv_aload_n hx hb dX12_note_57 rfl (lv_at hl 0 rfl) ?_
      refine g_get C hw f_RX12_182 ml_0 (ms_0 _ _) rfl dX12_note_58 ?_
      refine lv_iconst (v := 1) hx hb dX12_note_61 (by decide) ?_
      refine lv_iadd hx hb dX12_note_62 ?_
      refine lv_goto (tgt := 68) hx hb dX12_note_63 (by decide) ?_
      exact w_X12_note_68 C  h hw (lv_sub hl [] rfl)
  · have h := h.2 c5
    refine lv_aload_n hx hb dX12_note_8 rfl (lv_at hl 0 rfl) ?_
    refine g_get C hw f_RX12_31 ml_0 (ms_0 _ _) rfl dX12_note_9 ?_
    refine lv_bipush (v := 25) hx hb dX12_note_12 (by decide) ?_
    refine lv_aload_n hx hb dX12_note_14 rfl (lv_at hl 0 rfl) ?_
    refine g_get C hw f_RX12_258 ml_0 (ms_0 _ _) rfl dX12_note_15 ?_
    refine lv_imul hx hb dX12_note_18 ?_
    refine lv_iload_n hx hb dX12_note_19 rfl (lv_at hl 1 rfl) ?_
    refine lv_iadd hx hb dX12_note_20 ?_
    refine lv_aload_n hx hb dX12_note_21 rfl (lv_at hl 0 rfl) ?_
    refine g_get C hw f_RX12_25 ml_0 (ms_0 _ _) rfl dX12_note_22 ?_
    refine lv_iload_n hx hb dX12_note_25 rfl (lv_at hl 1 rfl) ?_
    refine g_iald C hw ml_6 ms_6 h.1 dX12_note_26 ?_
    have h := h.2
    refine g_iast C hw ml_8 ms_8 h.1 dX12_note_27 (fun H locs hw => ?_)
    have h := h.2
    obtain ⟨I27, e27⟩ : ∃ z : MI, z = mI I 8 (((25 : Int32) * (I 0 11)) + x1).toNatClampNeg (I 6 x1.toNatClampNeg) := ⟨_, rfl⟩
    have h := h I27 e27
    rw [← e27] at hw
    refine lv_iinc (v := x1 + 1) (lv' := [(1, .int (x1 + 1)), (0, .ref (ad 0))]) hx hb dX12_note_28 hl (k := 1) rfl rfl (by decide) rfl (fun ls hl => ?_)
    refine lv_goto (tgt := 2) hx hb dX12_note_31 (by decide) ?_
    exact hL2 h hw (lv_sub hl [1, 0] rfl)
theorem wl_X12_note_2 {Q : MI → MJ → Prop} (C : gC RX12 cX12_note 2 none 30 ad cy D mE p s m args meth c) {x1 : Int32} {I : MI} {J : MJ} {H : Heap} {locs : List Loc} {ls : Array Slot} (h : lpx (P_X12_note_2 Q) (x1, I, J)) (hw : gH (mS ad cy) 30 ad D s I J H locs) (hl : lv_has ls 2 [(0, .ref (ad 0)), (1, .int x1)]) : W p l e rmX12_note s m args below meth c H locs 0 0 (MQ below (gQv (mS ad cy) 30 ad cy D mE Q) args s 0 0 (gA 30 ad)) (F0 m 2 ls []) := by
  obtain ⟨n, h⟩ := h
  induction n generalizing x1 I J H locs ls with
  | zero => exact False.elim h
  | succ n ih => exact w_X12_note_2 C  (fun hk9 hw9 hl9 => ih hw9 hl9 hk9) h hw hl
set_option maxHeartbeats 4000000 in
set_option maxRecDepth 100000 in
theorem w_X12_note {Q : MI → MJ → Prop} (C : gC RX12 cX12_note 2 none 30 ad cy D mE p s m args meth c) {I : MI} {J : MJ} {H : Heap} {locs : List Loc} {ls : Array Slot} (h : P_X12_note I J Q) (hw : gH (mS ad cy) 30 ad D s I J H locs) (hl : lv_has ls 2 [(0, .ref (ad 0))]) : W p l e rmX12_note s m args below meth c H locs 0 0 (MQ below (gQv (mS ad cy) 30 ad cy D mE Q) args s 0 0 (gA 30 ad)) (F0 m 0 ls []) := by
  obtain ⟨hx, hb, hC⟩ := id C
  refine lv_iconst (v := 0) hx hb dX12_note_0 (by decide) ?_
  refine lv_istore_n (lv' := [(1, .int (0 : Int32)), (0, .ref (ad 0))]) hx hb dX12_note_1 rfl hl (by decide) rfl (fun ls hl => ?_)
  exact wl_X12_note_2 C  h hw (lv_sub hl [1, 0] rfl)
theorem m_X12_note {l : Launch} {Q : MI → MJ → Prop} {I : MI} {J : MJ} (h : P_X12_note I J Q) : Met l yX12_note (xws yX12_note cX12_note 2 none) rmX12_note (va_Pc [.ref (ad 0)] (gB (mS ad cy) 30 ad cy D mE I J)) (gQv (mS ad cy) 30 ad cy D mE Q) 0 0 (gA 30 ad) :=
  g_met (mE_ok ad) rfl (by decide) (Nat.le_of_ble_eq_true rfl) (fun p e s m below meth c ls C hw hl => w_X12_note C  h hw hl)
/-! BagPhrasesModel.put(I)I -/
def P_X12_put (a0 : Int32) (I : MI) (J : MJ) (Q : Int32 → MI → MJ → Prop) : Prop :=
  P_X12_isLetter a0 I J (fun r1 I1 J1 => ((¬ r1 = 0 → P_X12_bagOf 6 I1 J1 (fun r13 I13 J13 => ((¬ r13 = (12 : Int32) → P_X12_note I13 J13 (fun I25 J25 => vp_in a0 25 ∧ (vp_in a0 25 ∧ (∀ I37 : MI, I37 = mI I25 6 a0.toNatClampNeg ((I25 6 a0.toNatClampNeg) + (1 : Int32)) → P_X12_bagOf 6 I37 J25 (fun r42 I42 J42 => Q r42 I42 J42))))) ∧ (r13 = (12 : Int32) → Q (-4 : Int32) I13 J13)))) ∧ (r1 = 0 → Q (-1 : Int32) I1 J1)))
abbrev rmX12_put : Room := { frames := 2, cells := 0, slots := 0, locals := 45 }
set_option maxHeartbeats 4000000 in
set_option maxRecDepth 100000 in
theorem w_X12_put {Q : Int32 → MI → MJ → Prop} (C : gC RX12 cX12_put 2 (some .int) 30 ad cy D mE p s m args meth c) {a0 : Int32} {I : MI} {J : MJ} {H : Heap} {locs : List Loc} {ls : Array Slot} (h : P_X12_put a0 I J Q) (hw : gH (mS ad cy) 30 ad D s I J H locs) (hl : lv_has ls 2 [(0, .ref (ad 0)), (1, .int a0)]) : W p l e rmX12_put s m args below meth c H locs 0 0 (MQ below (gQi (mS ad cy) 30 ad cy D mE Q) args s 0 0 (gA 30 ad)) (F0 m 0 ls []) := by
  obtain ⟨hx, hb, hC⟩ := id C
  refine lv_iload_n hx hb dX12_put_0 rfl (lv_at hl 1 rfl) ?_
  refine g_cz hw (g_rS [.int a0] [] C hw (m_X12_isLetter h) k_X12_isLetter q_RX12_255 rfl hl.1 rfl (Nat.le_of_ble_eq_true rfl) ⟨⟨rfl, rfl⟩, Nat.le_of_ble_eq_true rfl, Nat.le_of_ble_eq_true rfl⟩ ⟨Nat.zero_le _, Nat.zero_le _⟩ dX12_put_1) (fun r1 I1 J1 H locs z1 h hw => ?_)
  refine lv_if_ne (tgt := 9) hx hb dX12_put_4 (by decide) (fun c4 => ?_) (fun c4 => ?_)
  · have h := h.1 c4
    refine lv_aload_n hx hb dX12_put_9 rfl (lv_at hl 0 rfl) ?_
    refine g_get C hw f_RX12_25 ml_0 (ms_0 _ _) rfl dX12_put_10 ?_
    refine g_ci hw (g_rS [.ref (ad 6)] [] C hw (m_X12_bagOf isRow_6 h) k_X12_bagOf q_RX12_129 rfl hl.1 rfl (Nat.le_of_ble_eq_true rfl) ⟨⟨rfl, rfl⟩, Nat.le_of_ble_eq_true rfl, Nat.le_of_ble_eq_true rfl⟩ ⟨Nat.zero_le _, Nat.zero_le _⟩ dX12_put_13) (fun r13 I13 J13 H locs h hw => ?_)
    refine lv_bipush (v := 12) hx hb dX12_put_16 (by decide) ?_
    refine lv_icmp_ne (tgt := 24) hx hb dX12_put_18 (by decide) (fun c18 => ?_) (fun c18 => ?_)
    · have h := h.1 c18
      refine lv_aload_n hx hb dX12_put_24 rfl (lv_at hl 0 rfl) ?_
      refine g_cv hw (g_rV [] [] C hw (m_X12_note h) k_X12_note q_RX12_261 ml_0 (ms_0 _ _) rfl rfl hl.1 rfl (Nat.le_of_ble_eq_true rfl) ⟨⟨rfl, rfl⟩, Nat.le_of_ble_eq_true rfl, Nat.le_of_ble_eq_true rfl⟩ ⟨Nat.zero_le _, Nat.zero_le _⟩ dX12_put_25) (fun I25 J25 H locs h hw => ?_)
      refine lv_aload_n hx hb dX12_put_28 rfl (lv_at hl 0 rfl) ?_
      refine g_get C hw f_RX12_25 ml_0 (ms_0 _ _) rfl dX12_put_29 ?_
      refine lv_iload_n hx hb dX12_put_32 rfl (lv_at hl 1 rfl) ?_
      refine lv_dup2_11 hx hb dX12_put_33 rfl rfl ?_
      refine g_iald C hw ml_6 ms_6 h.1 dX12_put_34 ?_
      have h := h.2
      refine lv_iconst (v := 1) hx hb dX12_put_35 (by decide) ?_
      refine lv_iadd hx hb dX12_put_36 ?_
      refine g_iast C hw ml_6 ms_6 h.1 dX12_put_37 (fun H locs hw => ?_)
      have h := h.2
      obtain ⟨I37, e37⟩ : ∃ z : MI, z = mI I25 6 a0.toNatClampNeg ((I25 6 a0.toNatClampNeg) + (1 : Int32)) := ⟨_, rfl⟩
      have h := h I37 e37
      rw [← e37] at hw
      refine lv_aload_n hx hb dX12_put_38 rfl (lv_at hl 0 rfl) ?_
      refine g_get C hw f_RX12_25 ml_0 (ms_0 _ _) rfl dX12_put_39 ?_
      refine g_ci hw (g_rS [.ref (ad 6)] [] C hw (m_X12_bagOf isRow_6 h) k_X12_bagOf q_RX12_129 rfl hl.1 rfl (Nat.le_of_ble_eq_true rfl) ⟨⟨rfl, rfl⟩, Nat.le_of_ble_eq_true rfl, Nat.le_of_ble_eq_true rfl⟩ ⟨Nat.zero_le _, Nat.zero_le _⟩ dX12_put_42) (fun r42 I42 J42 H locs h hw => ?_)
      exact g_iret C hw h dX12_put_45
    · have h := h.2 c18
      refine lv_bipush (v := -4) hx hb dX12_put_21 (by decide) ?_
      exact g_iret C hw h dX12_put_23
  · have h := h.2 c4
    refine lv_iconst (v := -1) hx hb dX12_put_7 (by decide) ?_
    exact g_iret C hw h dX12_put_8
theorem m_X12_put {l : Launch} {a0 : Int32} {Q : Int32 → MI → MJ → Prop} {I : MI} {J : MJ} (h : P_X12_put a0 I J Q) : Met l yX12_put (xws yX12_put cX12_put 2 (some .int)) rmX12_put (va_Pc [.ref (ad 0), .int a0] (gB (mS ad cy) 30 ad cy D mE I J)) (gQi (mS ad cy) 30 ad cy D mE Q) 0 0 (gA 30 ad) :=
  g_met (mE_ok ad) rfl (by decide) (Nat.le_of_ble_eq_true rfl) (fun p e s m below meth c ls C hw hl => w_X12_put C  h hw hl)
/-! BagPhrasesModel.take(I)I -/
def P_X12_take (a0 : Int32) (I : MI) (J : MJ) (Q : Int32 → MI → MJ → Prop) : Prop :=
  P_X12_isLetter a0 I J (fun r1 I1 J1 => ((¬ r1 = 0 → vp_in a0 25 ∧ (((¬ (I1 6 a0.toNatClampNeg) = 0 → P_X12_note I1 J1 (fun I22 J22 => vp_in a0 25 ∧ (vp_in a0 25 ∧ (∀ I34 : MI, I34 = mI I22 6 a0.toNatClampNeg ((I22 6 a0.toNatClampNeg) - (1 : Int32)) → P_X12_bagOf 6 I34 J22 (fun r39 I39 J39 => Q r39 I39 J39))))) ∧ ((I1 6 a0.toNatClampNeg) = 0 → Q (-3 : Int32) I1 J1)))) ∧ (r1 = 0 → Q (-1 : Int32) I1 J1)))
abbrev rmX12_take : Room := { frames := 2, cells := 0, slots := 0, locals := 45 }
set_option maxHeartbeats 4000000 in
set_option maxRecDepth 100000 in
theorem w_X12_take {Q : Int32 → MI → MJ → Prop} (C : gC RX12 cX12_take 2 (some .int) 30 ad cy D mE p s m args meth c) {a0 : Int32} {I : MI} {J : MJ} {H : Heap} {locs : List Loc} {ls : Array Slot} (h : P_X12_take a0 I J Q) (hw : gH (mS ad cy) 30 ad D s I J H locs) (hl : lv_has ls 2 [(0, .ref (ad 0)), (1, .int a0)]) : W p l e rmX12_take s m args below meth c H locs 0 0 (MQ below (gQi (mS ad cy) 30 ad cy D mE Q) args s 0 0 (gA 30 ad)) (F0 m 0 ls []) := by
  obtain ⟨hx, hb, hC⟩ := id C
  refine lv_iload_n hx hb dX12_take_0 rfl (lv_at hl 1 rfl) ?_
  refine g_cz hw (g_rS [.int a0] [] C hw (m_X12_isLetter h) k_X12_isLetter q_RX12_255 rfl hl.1 rfl (Nat.le_of_ble_eq_true rfl) ⟨⟨rfl, rfl⟩, Nat.le_of_ble_eq_true rfl, Nat.le_of_ble_eq_true rfl⟩ ⟨Nat.zero_le _, Nat.zero_le _⟩ dX12_take_1) (fun r1 I1 J1 H locs z1 h hw => ?_)
  refine lv_if_ne (tgt := 9) hx hb dX12_take_4 (by decide) (fun c4 => ?_) (fun c4 => ?_)
  · have h := h.1 c4
    refine lv_aload_n hx hb dX12_take_9 rfl (lv_at hl 0 rfl) ?_
    refine g_get C hw f_RX12_25 ml_0 (ms_0 _ _) rfl dX12_take_10 ?_
    refine lv_iload_n hx hb dX12_take_13 rfl (lv_at hl 1 rfl) ?_
    refine g_iald C hw ml_6 ms_6 h.1 dX12_take_14 ?_
    have h := h.2
    refine lv_if_ne (tgt := 21) hx hb dX12_take_15 (by decide) (fun c15 => ?_) (fun c15 => ?_)
    · have h := h.1 c15
      refine lv_aload_n hx hb dX12_take_21 rfl (lv_at hl 0 rfl) ?_
      refine g_cv hw (g_rV [] [] C hw (m_X12_note h) k_X12_note q_RX12_261 ml_0 (ms_0 _ _) rfl rfl hl.1 rfl (Nat.le_of_ble_eq_true rfl) ⟨⟨rfl, rfl⟩, Nat.le_of_ble_eq_true rfl, Nat.le_of_ble_eq_true rfl⟩ ⟨Nat.zero_le _, Nat.zero_le _⟩ dX12_take_22) (fun I22 J22 H locs h hw => ?_)
      refine lv_aload_n hx hb dX12_take_25 rfl (lv_at hl 0 rfl) ?_
      refine g_get C hw f_RX12_25 ml_0 (ms_0 _ _) rfl dX12_take_26 ?_
      refine lv_iload_n hx hb dX12_take_29 rfl (lv_at hl 1 rfl) ?_
      refine lv_dup2_11 hx hb dX12_take_30 rfl rfl ?_
      refine g_iald C hw ml_6 ms_6 h.1 dX12_take_31 ?_
      have h := h.2
      refine lv_iconst (v := 1) hx hb dX12_take_32 (by decide) ?_
      refine lv_isub hx hb dX12_take_33 ?_
      refine g_iast C hw ml_6 ms_6 h.1 dX12_take_34 (fun H locs hw => ?_)
      have h := h.2
      obtain ⟨I34, e34⟩ : ∃ z : MI, z = mI I22 6 a0.toNatClampNeg ((I22 6 a0.toNatClampNeg) - (1 : Int32)) := ⟨_, rfl⟩
      have h := h I34 e34
      rw [← e34] at hw
      refine lv_aload_n hx hb dX12_take_35 rfl (lv_at hl 0 rfl) ?_
      refine g_get C hw f_RX12_25 ml_0 (ms_0 _ _) rfl dX12_take_36 ?_
      refine g_ci hw (g_rS [.ref (ad 6)] [] C hw (m_X12_bagOf isRow_6 h) k_X12_bagOf q_RX12_129 rfl hl.1 rfl (Nat.le_of_ble_eq_true rfl) ⟨⟨rfl, rfl⟩, Nat.le_of_ble_eq_true rfl, Nat.le_of_ble_eq_true rfl⟩ ⟨Nat.zero_le _, Nat.zero_le _⟩ dX12_take_39) (fun r39 I39 J39 H locs h hw => ?_)
      exact g_iret C hw h dX12_take_42
    · have h := h.2 c15
      refine lv_bipush (v := -3) hx hb dX12_take_18 (by decide) ?_
      exact g_iret C hw h dX12_take_20
  · have h := h.2 c4
    refine lv_iconst (v := -1) hx hb dX12_take_7 (by decide) ?_
    exact g_iret C hw h dX12_take_8
theorem m_X12_take {l : Launch} {a0 : Int32} {Q : Int32 → MI → MJ → Prop} {I : MI} {J : MJ} (h : P_X12_take a0 I J Q) : Met l yX12_take (xws yX12_take cX12_take 2 (some .int)) rmX12_take (va_Pc [.ref (ad 0), .int a0] (gB (mS ad cy) 30 ad cy D mE I J)) (gQi (mS ad cy) 30 ad cy D mE Q) 0 0 (gA 30 ad) :=
  g_met (mE_ok ad) rfl (by decide) (Nat.le_of_ble_eq_true rfl) (fun p e s m below meth c ls C hw hl => w_X12_take C  h hw hl)
/-! BagPhrasesModel.bar(I)I -/
def P_X12_bar (a0 : Int32) (I : MI) (J : MJ) (Q : Int32 → MI → MJ → Prop) : Prop :=
  P_X12_isWord a0 I J (fun r2 I2 J2 => ((¬ r2 = 0 → P_X12_note I2 J2 (fun I11 J11 => vp_in (8 : Int32) 25 ∧ (vp_in (8 : Int32) 25 ∧ (∀ I26 : MI, I26 = mI I11 6 (8 : Int32).toNatClampNeg ((I11 6 (8 : Int32).toNatClampNeg) ^^^ ((1 : Int32) <<< (a0 &&& 31))) → vp_in (8 : Int32) 25 ∧ (Q (((I26 6 (8 : Int32).toNatClampNeg) >>> (a0 &&& 31)) &&& (1 : Int32)) I26 J11))))) ∧ (r2 = 0 → Q (-1 : Int32) I2 J2)))
abbrev rmX12_bar : Room := { frames := 2, cells := 0, slots := 0, locals := 46 }
set_option maxHeartbeats 4000000 in
set_option maxRecDepth 100000 in
theorem w_X12_bar {Q : Int32 → MI → MJ → Prop} (C : gC RX12 cX12_bar 2 (some .int) 30 ad cy D mE p s m args meth c) {a0 : Int32} {I : MI} {J : MJ} {H : Heap} {locs : List Loc} {ls : Array Slot} (h : P_X12_bar a0 I J Q) (hw : gH (mS ad cy) 30 ad D s I J H locs) (hl : lv_has ls 2 [(0, .ref (ad 0)), (1, .int a0)]) : W p l e rmX12_bar s m args below meth c H locs 0 0 (MQ below (gQi (mS ad cy) 30 ad cy D mE Q) args s 0 0 (gA 30 ad)) (F0 m 0 ls []) := by
  obtain ⟨hx, hb, hC⟩ := id C
  refine lv_aload_n hx hb dX12_bar_0 rfl (lv_at hl 0 rfl) ?_
  refine lv_iload_n hx hb dX12_bar_1 rfl (lv_at hl 1 rfl) ?_
  refine g_cz hw (g_rV [.int a0] [] C hw (m_X12_isWord h) k_X12_isWord q_RX12_243 ml_0 (ms_0 _ _) rfl rfl hl.1 rfl (Nat.le_of_ble_eq_true rfl) ⟨⟨rfl, rfl⟩, Nat.le_of_ble_eq_true rfl, Nat.le_of_ble_eq_true rfl⟩ ⟨Nat.zero_le _, Nat.zero_le _⟩ dX12_bar_2) (fun r2 I2 J2 H locs z2 h hw => ?_)
  refine lv_if_ne (tgt := 10) hx hb dX12_bar_5 (by decide) (fun c5 => ?_) (fun c5 => ?_)
  · have h := h.1 c5
    refine lv_aload_n hx hb dX12_bar_10 rfl (lv_at hl 0 rfl) ?_
    refine g_cv hw (g_rV [] [] C hw (m_X12_note h) k_X12_note q_RX12_261 ml_0 (ms_0 _ _) rfl rfl hl.1 rfl (Nat.le_of_ble_eq_true rfl) ⟨⟨rfl, rfl⟩, Nat.le_of_ble_eq_true rfl, Nat.le_of_ble_eq_true rfl⟩ ⟨Nat.zero_le _, Nat.zero_le _⟩ dX12_bar_11) (fun I11 J11 H locs h hw => ?_)
    refine lv_aload_n hx hb dX12_bar_14 rfl (lv_at hl 0 rfl) ?_
    refine g_get C hw f_RX12_25 ml_0 (ms_0 _ _) rfl dX12_bar_15 ?_
    refine lv_bipush (v := 8) hx hb dX12_bar_18 (by decide) ?_
    refine lv_dup2_11 hx hb dX12_bar_20 rfl rfl ?_
    refine g_iald C hw ml_6 ms_6 h.1 dX12_bar_21 ?_
    have h := h.2
    refine lv_iconst (v := 1) hx hb dX12_bar_22 (by decide) ?_
    refine lv_iload_n hx hb dX12_bar_23 rfl (lv_at hl 1 rfl) ?_
    refine lv_ishl hx hb dX12_bar_24 ?_
    refine lv_ixor hx hb dX12_bar_25 ?_
    refine g_iast C hw ml_6 ms_6 h.1 dX12_bar_26 (fun H locs hw => ?_)
    have h := h.2
    obtain ⟨I26, e26⟩ : ∃ z : MI, z = mI I11 6 (8 : Int32).toNatClampNeg ((I11 6 (8 : Int32).toNatClampNeg) ^^^ ((1 : Int32) <<< (a0 &&& 31))) := ⟨_, rfl⟩
    have h := h I26 e26
    rw [← e26] at hw
    refine lv_aload_n hx hb dX12_bar_27 rfl (lv_at hl 0 rfl) ?_
    refine g_get C hw f_RX12_25 ml_0 (ms_0 _ _) rfl dX12_bar_28 ?_
    refine lv_bipush (v := 8) hx hb dX12_bar_31 (by decide) ?_
    refine g_iald C hw ml_6 ms_6 h.1 dX12_bar_33 ?_
    have h := h.2
    refine lv_iload_n hx hb dX12_bar_34 rfl (lv_at hl 1 rfl) ?_
    refine lv_ishr hx hb dX12_bar_35 ?_
    refine lv_iconst (v := 1) hx hb dX12_bar_36 (by decide) ?_
    refine lv_iand hx hb dX12_bar_37 ?_
    exact g_iret C hw h dX12_bar_38
  · have h := h.2 c5
    refine lv_iconst (v := -1) hx hb dX12_bar_8 (by decide) ?_
    exact g_iret C hw h dX12_bar_9
theorem m_X12_bar {l : Launch} {a0 : Int32} {Q : Int32 → MI → MJ → Prop} {I : MI} {J : MJ} (h : P_X12_bar a0 I J Q) : Met l yX12_bar (xws yX12_bar cX12_bar 2 (some .int)) rmX12_bar (va_Pc [.ref (ad 0), .int a0] (gB (mS ad cy) 30 ad cy D mE I J)) (gQi (mS ad cy) 30 ad cy D mE Q) 0 0 (gA 30 ad) :=
  g_met (mE_ok ad) rfl (by decide) (Nat.le_of_ble_eq_true rfl) (fun p e s m below meth c ls C hw hl => w_X12_bar C  h hw hl)
/-! BagPhrasesModel.rank(II)I -/
def P_X12_rank (a0 : Int32) (a1 : Int32) (I : MI) (J : MJ) (Q : Int32 → MI → MJ → Prop) : Prop :=
  P_X12_isWord a0 I J (fun r2 I2 J2 => ((¬ r2 = 0 → P_X12_in a1.toInt64 (0 : Int64) (9 : Int64) I2 J2 (fun r16 I16 J16 => ((¬ r16 = 0 → P_X12_note I16 J16 (fun I26 J26 => vp_in ((9 : Int32) + a0) 25 ∧ (vp_in ((9 : Int32) + a0) 25 ∧ (∀ I48 : MI, I48 = mI I26 6 ((9 : Int32) + a0).toNatClampNeg a1 → Q (I26 6 ((9 : Int32) + a0).toNatClampNeg) I48 J26)))) ∧ (r16 = 0 → Q (-2 : Int32) I16 J16)))) ∧ (r2 = 0 → Q (-1 : Int32) I2 J2)))
abbrev rmX12_rank : Room := { frames := 2, cells := 0, slots := 0, locals := 46 }
set_option maxHeartbeats 4000000 in
set_option maxRecDepth 100000 in
theorem w_X12_rank {Q : Int32 → MI → MJ → Prop} (C : gC RX12 cX12_rank 4 (some .int) 30 ad cy D mE p s m args meth c) {a0 : Int32} {a1 : Int32} {I : MI} {J : MJ} {H : Heap} {locs : List Loc} {ls : Array Slot} (h : P_X12_rank a0 a1 I J Q) (hw : gH (mS ad cy) 30 ad D s I J H locs) (hl : lv_has ls 4 [(0, .ref (ad 0)), (1, .int a0), (2, .int a1)]) : W p l e rmX12_rank s m args below meth c H locs 0 0 (MQ below (gQi (mS ad cy) 30 ad cy D mE Q) args s 0 0 (gA 30 ad)) (F0 m 0 ls []) := by
  obtain ⟨hx, hb, hC⟩ := id C
  refine lv_aload_n hx hb dX12_rank_0 rfl (lv_at hl 0 rfl) ?_
  refine lv_iload_n hx hb dX12_rank_1 rfl (lv_at hl 1 rfl) ?_
  refine g_cz hw (g_rV [.int a0] [] C hw (m_X12_isWord h) k_X12_isWord q_RX12_243 ml_0 (ms_0 _ _) rfl rfl hl.1 rfl (Nat.le_of_ble_eq_true rfl) ⟨⟨rfl, rfl⟩, Nat.le_of_ble_eq_true rfl, Nat.le_of_ble_eq_true rfl⟩ ⟨Nat.zero_le _, Nat.zero_le _⟩ dX12_rank_2) (fun r2 I2 J2 H locs z2 h hw => ?_)
  refine lv_if_ne (tgt := 10) hx hb dX12_rank_5 (by decide) (fun c5 => ?_) (fun c5 => ?_)
  · have h := h.1 c5
    refine lv_iload_n hx hb dX12_rank_10 rfl (lv_at hl 2 rfl) ?_
    refine lv_i2l hx hb dX12_rank_11 rfl ?_
    refine lv_lconst (v := 0) hx hb dX12_rank_12 (by decide) ?_
    refine lv_ldc2 (v := (9)) hx hb hC.2.2.1 (hC.2.2.2.1 _ q_RX12_264) dX12_rank_13 ?_
    refine g_cz hw (g_rS [.long a1.toInt64, .long (0 : Int64), .long (9 : Int64)] [] C hw (m_X12_in h) k_X12_in q_RX12_107 rfl hl.1 rfl (Nat.le_of_ble_eq_true rfl) ⟨⟨rfl, rfl⟩, Nat.le_of_ble_eq_true rfl, Nat.le_of_ble_eq_true rfl⟩ ⟨Nat.zero_le _, Nat.zero_le _⟩ dX12_rank_16) (fun r16 I16 J16 H locs z16 h hw => ?_)
    refine lv_if_ne (tgt := 25) hx hb dX12_rank_19 (by decide) (fun c19 => ?_) (fun c19 => ?_)
    · have h := h.1 c19
      refine lv_aload_n hx hb dX12_rank_25 rfl (lv_at hl 0 rfl) ?_
      refine g_cv hw (g_rV [] [] C hw (m_X12_note h) k_X12_note q_RX12_261 ml_0 (ms_0 _ _) rfl rfl hl.1 rfl (Nat.le_of_ble_eq_true rfl) ⟨⟨rfl, rfl⟩, Nat.le_of_ble_eq_true rfl, Nat.le_of_ble_eq_true rfl⟩ ⟨Nat.zero_le _, Nat.zero_le _⟩ dX12_rank_26) (fun I26 J26 H locs h hw => ?_)
      refine lv_aload_n hx hb dX12_rank_29 rfl (lv_at hl 0 rfl) ?_
      refine g_get C hw f_RX12_25 ml_0 (ms_0 _ _) rfl dX12_rank_30 ?_
      refine lv_bipush (v := 9) hx hb dX12_rank_33 (by decide) ?_
      refine lv_iload_n hx hb dX12_rank_35 rfl (lv_at hl 1 rfl) ?_
      refine lv_iadd hx hb dX12_rank_36 ?_
      refine g_iald C hw ml_6 ms_6 h.1 dX12_rank_37 ?_
      have h := h.2
      refine lv_istore_n (lv' := [(3, .int (I26 6 ((9 : Int32) + a0).toNatClampNeg)), (0, .ref (ad 0)), (1, .int a0), (2, .int a1)]) hx hb dX12_rank_38 rfl hl (by decide) rfl (fun ls hl => ?_)
      refine lv_aload_n hx hb dX12_rank_39 rfl (lv_at hl 1 rfl) ?_
      refine g_get C hw f_RX12_25 ml_0 (ms_0 _ _) rfl dX12_rank_40 ?_
      refine lv_bipush (v := 9) hx hb dX12_rank_43 (by decide) ?_
      refine lv_iload_n hx hb dX12_rank_45 rfl (lv_at hl 2 rfl) ?_
      refine lv_iadd hx hb dX12_rank_46 ?_
      refine lv_iload_n hx hb dX12_rank_47 rfl (lv_at hl 3 rfl) ?_
      refine g_iast C hw ml_6 ms_6 h.1 dX12_rank_48 (fun H locs hw => ?_)
      have h := h.2
      obtain ⟨I48, e48⟩ : ∃ z : MI, z = mI I26 6 ((9 : Int32) + a0).toNatClampNeg a1 := ⟨_, rfl⟩
      have h := h I48 e48
      rw [← e48] at hw
      refine lv_iload_n hx hb dX12_rank_49 rfl (lv_at hl 0 rfl) ?_
      exact g_iret C hw h dX12_rank_50
    · have h := h.2 c19
      refine lv_bipush (v := -2) hx hb dX12_rank_22 (by decide) ?_
      exact g_iret C hw h dX12_rank_24
  · have h := h.2 c5
    refine lv_iconst (v := -1) hx hb dX12_rank_8 (by decide) ?_
    exact g_iret C hw h dX12_rank_9
theorem m_X12_rank {l : Launch} {a0 : Int32} {a1 : Int32} {Q : Int32 → MI → MJ → Prop} {I : MI} {J : MJ} (h : P_X12_rank a0 a1 I J Q) : Met l yX12_rank (xws yX12_rank cX12_rank 4 (some .int)) rmX12_rank (va_Pc [.ref (ad 0), .int a0, .int a1] (gB (mS ad cy) 30 ad cy D mE I J)) (gQi (mS ad cy) 30 ad cy D mE Q) 0 0 (gA 30 ad) :=
  g_met (mE_ok ad) rfl (by decide) (Nat.le_of_ble_eq_true rfl) (fun p e s m below meth c ls C hw hl => w_X12_rank C  h hw hl)
/-! BagPhrasesModel.allow(III)I -/
def P_X12_allow_70 (Q : Int32 → MI → MJ → Prop) (x4 : Int32) (s0 : Int32) (I : MI) (J : MJ) : Prop :=
  vp_in x4 25 ∧ (vp_in x4 25 ∧ (∀ I85 : MI, I85 = mI I 6 x4.toNatClampNeg ((I 6 x4.toNatClampNeg) ^^^ ((1 : Int32) <<< (s0 &&& 31))) → vp_in x4 25 ∧ (Q (((I85 6 x4.toNatClampNeg) >>> (s0 &&& 31)) &&& (1 : Int32)) I85 J)))
def P_X12_allow_58 (Q : Int32 → MI → MJ → Prop) (x1 : Int32) (x2 : Int32) (x3 : Int32) (s0 : Int32) (I : MI) (J : MJ) : Prop :=
  ((¬ x1 = (2 : Int32) → P_X12_allow_70 Q s0 x2 I J) ∧ (x1 = (2 : Int32) → P_X12_allow_70 Q s0 x3 I J))
def P_X12_allow (a0 : Int32) (a1 : Int32) (a2 : Int32) (I : MI) (J : MJ) (Q : Int32 → MI → MJ → Prop) : Prop :=
  P_X12_isKind a1 I J (fun r1 I1 J1 => ((r1 = 0 → Q (-1 : Int32) I1 J1) ∧ (¬ r1 = 0 → P_X12_isKind a2 I1 J1 (fun r8 I8 J8 => ((¬ r8 = 0 → P_X12_in a0.toInt64 (0 : Int64) (2 : Int64) I8 J8 (fun r22 I22 J22 => ((¬ r22 = 0 → P_X12_note I22 J22 (fun I32 J32 => ((¬ a0 = 0 → ((¬ a0 = (1 : Int32) → P_X12_allow_58 Q a0 a1 a2 ((21 : Int32) + a1) I32 J32) ∧ (a0 = (1 : Int32) → P_X12_allow_58 Q a0 a1 a2 (20 : Int32) I32 J32))) ∧ (a0 = 0 → P_X12_allow_58 Q a0 a1 a2 (19 : Int32) I32 J32)))) ∧ (r22 = 0 → Q (-2 : Int32) I22 J22)))) ∧ (r8 = 0 → Q (-1 : Int32) I8 J8))))))
abbrev rmX12_allow : Room := { frames := 2, cells := 0, slots := 0, locals := 45 }
set_option maxHeartbeats 4000000 in
set_option maxRecDepth 100000 in
theorem w_X12_allow_70 {Q : Int32 → MI → MJ → Prop} (C : gC RX12 cX12_allow 6 (some .int) 30 ad cy D mE p s m args meth c) {x4 : Int32} {s0 : Int32} {I : MI} {J : MJ} {H : Heap} {locs : List Loc} {ls : Array Slot} (h : P_X12_allow_70 Q x4 s0 I J) (hw : gH (mS ad cy) 30 ad D s I J H locs) (hl : lv_has ls 6 [(0, .ref (ad 0)), (4, .int x4)]) : W p l e rmX12_allow s m args below meth c H locs 0 0 (MQ below (gQi (mS ad cy) 30 ad cy D mE Q) args s 0 0 (gA 30 ad)) (F0 m 70 ls [.int s0]) := by
  obtain ⟨hx, hb, hC⟩ := id C
  refine lv_istore (lv' := [(5, .int s0), (0, .ref (ad 0)), (4, .int x4)]) hx hb dX12_allow_70 hl (by decide) rfl (fun ls hl => ?_)
  refine lv_aload_n hx hb dX12_allow_72 rfl (lv_at hl 1 rfl) ?_
  refine g_get C hw f_RX12_25 ml_0 (ms_0 _ _) rfl dX12_allow_73 ?_
  refine lv_iload hx hb dX12_allow_76 (lv_at hl 2 rfl) ?_
  refine lv_dup2_11 hx hb dX12_allow_78 rfl rfl ?_
  refine g_iald C hw ml_6 ms_6 h.1 dX12_allow_79 ?_
  have h := h.2
  refine lv_iconst (v := 1) hx hb dX12_allow_80 (by decide) ?_
  refine lv_iload hx hb dX12_allow_81 (lv_at hl 0 rfl) ?_
  refine lv_ishl hx hb dX12_allow_83 ?_
  refine lv_ixor hx hb dX12_allow_84 ?_
  refine g_iast C hw ml_6 ms_6 h.1 dX12_allow_85 (fun H locs hw => ?_)
  have h := h.2
  obtain ⟨I85, e85⟩ : ∃ z : MI, z = mI I 6 x4.toNatClampNeg ((I 6 x4.toNatClampNeg) ^^^ ((1 : Int32) <<< (s0 &&& 31))) := ⟨_, rfl⟩
  have h := h I85 e85
  rw [← e85] at hw
  refine lv_aload_n hx hb dX12_allow_86 rfl (lv_at hl 1 rfl) ?_
  refine g_get C hw f_RX12_25 ml_0 (ms_0 _ _) rfl dX12_allow_87 ?_
  refine lv_iload hx hb dX12_allow_90 (lv_at hl 2 rfl) ?_
  refine g_iald C hw ml_6 ms_6 h.1 dX12_allow_92 ?_
  have h := h.2
  refine lv_iload hx hb dX12_allow_93 (lv_at hl 0 rfl) ?_
  refine lv_ishr hx hb dX12_allow_95 ?_
  refine lv_iconst (v := 1) hx hb dX12_allow_96 (by decide) ?_
  refine lv_iand hx hb dX12_allow_97 ?_
  exact g_iret C hw h dX12_allow_98
set_option maxHeartbeats 4000000 in
set_option maxRecDepth 100000 in
theorem w_X12_allow_58 {Q : Int32 → MI → MJ → Prop} (C : gC RX12 cX12_allow 6 (some .int) 30 ad cy D mE p s m args meth c) {x1 : Int32} {x2 : Int32} {x3 : Int32} {s0 : Int32} {I : MI} {J : MJ} {H : Heap} {locs : List Loc} {ls : Array Slot} (h : P_X12_allow_58 Q x1 x2 x3 s0 I J) (hw : gH (mS ad cy) 30 ad D s I J H locs) (hl : lv_has ls 6 [(0, .ref (ad 0)), (1, .int x1), (2, .int x2), (3, .int x3)]) : W p l e rmX12_allow s m args below meth c H locs 0 0 (MQ below (gQi (mS ad cy) 30 ad cy D mE Q) args s 0 0 (gA 30 ad)) (F0 m 58 ls [.int s0]) := by
  obtain ⟨hx, hb, hC⟩ := id C
  refine lv_istore (lv' := [(4, .int s0), (0, .ref (ad 0)), (1, .int x1), (2, .int x2), (3, .int x3)]) hx hb dX12_allow_58 hl (by decide) rfl (fun ls hl => ?_)
  refine lv_iload_n hx hb dX12_allow_60 rfl (lv_at hl 2 rfl) ?_
  refine lv_iconst (v := 2) hx hb dX12_allow_61 (by decide) ?_
  refine lv_icmp_ne (tgt := 69) hx hb dX12_allow_62 (by decide) (fun c62 => ?_) (fun c62 => ?_)
  · have h := h.1 c62
    refine lv_iload_n hx hb dX12_allow_69 rfl (lv_at hl 3 rfl) ?_
    exact w_X12_allow_70 C  h hw (lv_sub hl [1, 0] rfl)
  · have h := h.2 c62
    refine lv_iload_n hx hb dX12_allow_65 rfl (lv_at hl 4 rfl) ?_
    refine lv_goto (tgt := 70) hx hb dX12_allow_66 (by decide) ?_
    exact w_X12_allow_70 C  h hw (lv_sub hl [1, 0] rfl)
set_option maxHeartbeats 4000000 in
set_option maxRecDepth 100000 in
theorem w_X12_allow {Q : Int32 → MI → MJ → Prop} (C : gC RX12 cX12_allow 6 (some .int) 30 ad cy D mE p s m args meth c) {a0 : Int32} {a1 : Int32} {a2 : Int32} {I : MI} {J : MJ} {H : Heap} {locs : List Loc} {ls : Array Slot} (h : P_X12_allow a0 a1 a2 I J Q) (hw : gH (mS ad cy) 30 ad D s I J H locs) (hl : lv_has ls 6 [(0, .ref (ad 0)), (1, .int a0), (2, .int a1), (3, .int a2)]) : W p l e rmX12_allow s m args below meth c H locs 0 0 (MQ below (gQi (mS ad cy) 30 ad cy D mE Q) args s 0 0 (gA 30 ad)) (F0 m 0 ls []) := by
  obtain ⟨hx, hb, hC⟩ := id C
  refine lv_iload_n hx hb dX12_allow_0 rfl (lv_at hl 2 rfl) ?_
  refine g_cz hw (g_rS [.int a1] [] C hw (m_X12_isKind h) k_X12_isKind q_RX12_145 rfl hl.1 rfl (Nat.le_of_ble_eq_true rfl) ⟨⟨rfl, rfl⟩, Nat.le_of_ble_eq_true rfl, Nat.le_of_ble_eq_true rfl⟩ ⟨Nat.zero_le _, Nat.zero_le _⟩ dX12_allow_1) (fun r1 I1 J1 H locs z1 h hw => ?_)
  refine lv_if_eq (tgt := 14) hx hb dX12_allow_4 (by decide) (fun c4 => ?_) (fun c4 => ?_)
  · have h := h.1 c4
    refine lv_iconst (v := -1) hx hb dX12_allow_14 (by decide) ?_
    exact g_iret C hw h dX12_allow_15
  · have h := h.2 c4
    refine lv_iload_n hx hb dX12_allow_7 rfl (lv_at hl 3 rfl) ?_
    refine g_cz hw (g_rS [.int a2] [] C hw (m_X12_isKind h) k_X12_isKind q_RX12_145 rfl hl.1 rfl (Nat.le_of_ble_eq_true rfl) ⟨⟨rfl, rfl⟩, Nat.le_of_ble_eq_true rfl, Nat.le_of_ble_eq_true rfl⟩ ⟨Nat.zero_le _, Nat.zero_le _⟩ dX12_allow_8) (fun r8 I8 J8 H locs z8 h hw => ?_)
    refine lv_if_ne (tgt := 16) hx hb dX12_allow_11 (by decide) (fun c11 => ?_) (fun c11 => ?_)
    · have h := h.1 c11
      refine lv_iload_n hx hb dX12_allow_16 rfl (lv_at hl 1 rfl) ?_
      refine lv_i2l hx hb dX12_allow_17 rfl ?_
      refine lv_lconst (v := 0) hx hb dX12_allow_18 (by decide) ?_
      refine lv_ldc2 (v := (2)) hx hb hC.2.2.1 (hC.2.2.2.1 _ q_RX12_266) dX12_allow_19 ?_
      refine g_cz hw (g_rS [.long a0.toInt64, .long (0 : Int64), .long (2 : Int64)] [] C hw (m_X12_in h) k_X12_in q_RX12_107 rfl hl.1 rfl (Nat.le_of_ble_eq_true rfl) ⟨⟨rfl, rfl⟩, Nat.le_of_ble_eq_true rfl, Nat.le_of_ble_eq_true rfl⟩ ⟨Nat.zero_le _, Nat.zero_le _⟩ dX12_allow_22) (fun r22 I22 J22 H locs z22 h hw => ?_)
      refine lv_if_ne (tgt := 31) hx hb dX12_allow_25 (by decide) (fun c25 => ?_) (fun c25 => ?_)
      · have h := h.1 c25
        refine lv_aload_n hx hb dX12_allow_31 rfl (lv_at hl 0 rfl) ?_
        refine g_cv hw (g_rV [] [] C hw (m_X12_note h) k_X12_note q_RX12_261 ml_0 (ms_0 _ _) rfl rfl hl.1 rfl (Nat.le_of_ble_eq_true rfl) ⟨⟨rfl, rfl⟩, Nat.le_of_ble_eq_true rfl, Nat.le_of_ble_eq_true rfl⟩ ⟨Nat.zero_le _, Nat.zero_le _⟩ dX12_allow_32) (fun I32 J32 H locs h hw => ?_)
        refine lv_iload_n hx hb dX12_allow_35 rfl (lv_at hl 1 rfl) ?_
        refine lv_if_ne (tgt := 44) hx hb dX12_allow_36 (by decide) (fun c36 => ?_) (fun c36 => ?_)
        · have h := h.1 c36
          refine lv_iload_n hx hb dX12_allow_44 rfl (lv_at hl 1 rfl) ?_
          refine lv_iconst (v := 1) hx hb dX12_allow_45 (by decide) ?_
          refine lv_icmp_ne (tgt := 54) hx hb dX12_allow_46 (by decide) (fun c46 => ?_) (fun c46 => ?_)
          · have h := h.1 c46
            refine lv_bipush (v := 21) hx hb dX12_allow_54 (by decide) ?_
            refine lv_iload_n hx hb dX12_allow_56 rfl (lv_at hl 2 rfl) ?_
            refine lv_iadd hx hb dX12_allow_57 ?_
            exact w_X12_allow_58 C  h hw (lv_sub hl [0, 1, 2, 3] rfl)
          · have h := h.2 c46
            refine lv_bipush (v := 20) hx hb dX12_allow_49 (by decide) ?_
            refine lv_goto (tgt := 58) hx hb dX12_allow_51 (by decide) ?_
            exact w_X12_allow_58 C  h hw (lv_sub hl [0, 1, 2, 3] rfl)
        · have h := h.2 c36
          refine lv_bipush (v := 19) hx hb dX12_allow_39 (by decide) ?_
          refine lv_goto (tgt := 58) hx hb dX12_allow_41 (by decide) ?_
          exact w_X12_allow_58 C  h hw (lv_sub hl [0, 1, 2, 3] rfl)
      · have h := h.2 c25
        refine lv_bipush (v := -2) hx hb dX12_allow_28 (by decide) ?_
        exact g_iret C hw h dX12_allow_30
    · have h := h.2 c11
      refine lv_iconst (v := -1) hx hb dX12_allow_14 (by decide) ?_
      exact g_iret C hw h dX12_allow_15
theorem m_X12_allow {l : Launch} {a0 : Int32} {a1 : Int32} {a2 : Int32} {Q : Int32 → MI → MJ → Prop} {I : MI} {J : MJ} (h : P_X12_allow a0 a1 a2 I J Q) : Met l yX12_allow (xws yX12_allow cX12_allow 6 (some .int)) rmX12_allow (va_Pc [.ref (ad 0), .int a0, .int a1, .int a2] (gB (mS ad cy) 30 ad cy D mE I J)) (gQi (mS ad cy) 30 ad cy D mE Q) 0 0 (gA 30 ad) :=
  g_met (mE_ok ad) rfl (by decide) (Nat.le_of_ble_eq_true rfl) (fun p e s m below meth c ls C hw hl => w_X12_allow C  h hw hl)
/-! BagPhrasesModel.undo()I -/
def P_X12_undo_38 (Q : Int32 → MI → MJ → Prop) (kL38 : Int32 × MI × MJ → Prop) : Int32 × MI × MJ → Prop := fun z => match z with
  | (x1, I, J) => (((25 : Int32) ≤ x1 → Q (I 0 10) I J) ∧ (¬ (25 : Int32) ≤ x1 → vp_in (((25 : Int32) * (I 0 11)) + x1) 350 ∧ (vp_in x1 25 ∧ (∀ I63 : MI, I63 = mI I 6 x1.toNatClampNeg (I 8 (((25 : Int32) * (I 0 11)) + x1).toNatClampNeg) → kL38 ((x1 + 1), I63, J)))))
def P_X12_undo (I : MI) (J : MJ) (Q : Int32 → MI → MJ → Prop) : Prop :=
  ((¬ (I 0 10) = 0 → (∀ I17 : MI, I17 = mI I 0 10 ((I 0 10) - (1 : Int32)) → (∀ I33 : MI, I33 = mI I17 0 11 ((((I17 0 11) + (14 : Int32)) - (1 : Int32)) - (((I17 0 11) + (14 : Int32)) - (1 : Int32)) / (14 : Int32) * (14 : Int32)) → lpx (P_X12_undo_38 Q) ((0 : Int32), I33, J)))) ∧ ((I 0 10) = 0 → Q (-3 : Int32) I J))
abbrev rmX12_undo : Room := { frames := 0, cells := 0, slots := 0, locals := 0 }
set_option maxHeartbeats 4000000 in
set_option maxRecDepth 100000 in
theorem w_X12_undo_38 {Q : Int32 → MI → MJ → Prop} (C : gC RX12 cX12_undo 2 (some .int) 30 ad cy D mE p s m args meth c) {kL38 : Int32 × MI × MJ → Prop} (hL38 : ∀ {x1 : Int32} {I : MI} {J : MJ} {H : Heap} {locs : List Loc} {ls : Array Slot}, kL38 (x1, I, J) → gH (mS ad cy) 30 ad D s I J H locs → lv_has ls 2 [(0, .ref (ad 0)), (1, .int x1)] → W p l e rmX12_undo s m args below meth c H locs 0 0 (MQ below (gQi (mS ad cy) 30 ad cy D mE Q) args s 0 0 (gA 30 ad)) (F0 m 38 ls [])) {x1 : Int32} {I : MI} {J : MJ} {H : Heap} {locs : List Loc} {ls : Array Slot} (h : P_X12_undo_38 Q kL38 (x1, I, J)) (hw : gH (mS ad cy) 30 ad D s I J H locs) (hl : lv_has ls 2 [(0, .ref (ad 0)), (1, .int x1)]) : W p l e rmX12_undo s m args below meth c H locs 0 0 (MQ below (gQi (mS ad cy) 30 ad cy D mE Q) args s 0 0 (gA 30 ad)) (F0 m 38 ls []) := by
  obtain ⟨hx, hb, hC⟩ := id C
  refine lv_iload_n hx hb dX12_undo_38 rfl (lv_at hl 1 rfl) ?_
  refine lv_bipush (v := 25) hx hb dX12_undo_39 (by decide) ?_
  refine lv_icmp_ge (tgt := 70) hx hb dX12_undo_41 (by decide) (fun c41 => ?_) (fun c41 => ?_)
  · have h := h.1 c41
    refine lv_aload_n hx hb dX12_undo_70 rfl (lv_at hl 0 rfl) ?_
    refine g_get C hw f_RX12_182 ml_0 (ms_0 _ _) rfl dX12_undo_71 ?_
    exact g_iret C hw h dX12_undo_74
  · have h := h.2 c41
    refine lv_aload_n hx hb dX12_undo_44 rfl (lv_at hl 0 rfl) ?_
    refine g_get C hw f_RX12_25 ml_0 (ms_0 _ _) rfl dX12_undo_45 ?_
    refine lv_iload_n hx hb dX12_undo_48 rfl (lv_at hl 1 rfl) ?_
    refine lv_aload_n hx hb dX12_undo_49 rfl (lv_at hl 0 rfl) ?_
    refine g_get C hw f_RX12_31 ml_0 (ms_0 _ _) rfl dX12_undo_50 ?_
    refine lv_bipush (v := 25) hx hb dX12_undo_53 (by decide) ?_
    refine lv_aload_n hx hb dX12_undo_55 rfl (lv_at hl 0 rfl) ?_
    refine g_get C hw f_RX12_258 ml_0 (ms_0 _ _) rfl dX12_undo_56 ?_
    refine lv_imul hx hb dX12_undo_59 ?_
    refine lv_iload_n hx hb dX12_undo_60 rfl (lv_at hl 1 rfl) ?_
    refine lv_iadd hx hb dX12_undo_61 ?_
    refine g_iald C hw ml_8 ms_8 h.1 dX12_undo_62 ?_
    have h := h.2
    refine g_iast C hw ml_6 ms_6 h.1 dX12_undo_63 (fun H locs hw => ?_)
    have h := h.2
    obtain ⟨I63, e63⟩ : ∃ z : MI, z = mI I 6 x1.toNatClampNeg (I 8 (((25 : Int32) * (I 0 11)) + x1).toNatClampNeg) := ⟨_, rfl⟩
    have h := h I63 e63
    rw [← e63] at hw
    refine lv_iinc (v := x1 + 1) (lv' := [(1, .int (x1 + 1)), (0, .ref (ad 0))]) hx hb dX12_undo_64 hl (k := 1) rfl rfl (by decide) rfl (fun ls hl => ?_)
    refine lv_goto (tgt := 38) hx hb dX12_undo_67 (by decide) ?_
    exact hL38 h hw (lv_sub hl [1, 0] rfl)
theorem wl_X12_undo_38 {Q : Int32 → MI → MJ → Prop} (C : gC RX12 cX12_undo 2 (some .int) 30 ad cy D mE p s m args meth c) {x1 : Int32} {I : MI} {J : MJ} {H : Heap} {locs : List Loc} {ls : Array Slot} (h : lpx (P_X12_undo_38 Q) (x1, I, J)) (hw : gH (mS ad cy) 30 ad D s I J H locs) (hl : lv_has ls 2 [(0, .ref (ad 0)), (1, .int x1)]) : W p l e rmX12_undo s m args below meth c H locs 0 0 (MQ below (gQi (mS ad cy) 30 ad cy D mE Q) args s 0 0 (gA 30 ad)) (F0 m 38 ls []) := by
  obtain ⟨n, h⟩ := h
  induction n generalizing x1 I J H locs ls with
  | zero => exact False.elim h
  | succ n ih => exact w_X12_undo_38 C  (fun hk9 hw9 hl9 => ih hw9 hl9 hk9) h hw hl
set_option maxHeartbeats 4000000 in
set_option maxRecDepth 100000 in
theorem w_X12_undo {Q : Int32 → MI → MJ → Prop} (C : gC RX12 cX12_undo 2 (some .int) 30 ad cy D mE p s m args meth c) {I : MI} {J : MJ} {H : Heap} {locs : List Loc} {ls : Array Slot} (h : P_X12_undo I J Q) (hw : gH (mS ad cy) 30 ad D s I J H locs) (hl : lv_has ls 2 [(0, .ref (ad 0))]) : W p l e rmX12_undo s m args below meth c H locs 0 0 (MQ below (gQi (mS ad cy) 30 ad cy D mE Q) args s 0 0 (gA 30 ad)) (F0 m 0 ls []) := by
  obtain ⟨hx, hb, hC⟩ := id C
  refine lv_aload_n hx hb dX12_undo_0 rfl (lv_at hl 0 rfl) ?_
  refine g_get C hw f_RX12_182 ml_0 (ms_0 _ _) rfl dX12_undo_1 ?_
  refine lv_if_ne (tgt := 10) hx hb dX12_undo_4 (by decide) (fun c4 => ?_) (fun c4 => ?_)
  · have h := h.1 c4
    refine lv_aload_n hx hb dX12_undo_10 rfl (lv_at hl 0 rfl) ?_
    refine lv_dup hx hb dX12_undo_11 rfl ?_
    refine g_get C hw f_RX12_182 ml_0 (ms_0 _ _) rfl dX12_undo_12 ?_
    refine lv_iconst (v := 1) hx hb dX12_undo_15 (by decide) ?_
    refine lv_isub hx hb dX12_undo_16 ?_
    refine g_putI C hw fp_RX12_182 ml_0 ms_0 (st_11_10 ad _) (Nat.le_of_ble_eq_true rfl) rfl rfl dX12_undo_17 (fun H locs hw => ?_)
    obtain ⟨I17, e17⟩ : ∃ z : MI, z = mI I 0 10 ((I 0 10) - (1 : Int32)) := ⟨_, rfl⟩
    have h := h I17 e17
    rw [← e17] at hw
    refine lv_aload_n hx hb dX12_undo_20 rfl (lv_at hl 0 rfl) ?_
    refine lv_aload_n hx hb dX12_undo_21 rfl (lv_at hl 0 rfl) ?_
    refine g_get C hw f_RX12_258 ml_0 (ms_0 _ _) rfl dX12_undo_22 ?_
    refine lv_bipush (v := 14) hx hb dX12_undo_25 (by decide) ?_
    refine lv_iadd hx hb dX12_undo_27 ?_
    refine lv_iconst (v := 1) hx hb dX12_undo_28 (by decide) ?_
    refine lv_isub hx hb dX12_undo_29 ?_
    refine lv_bipush (v := 14) hx hb dX12_undo_30 (by decide) ?_
    refine lv_irem hx hb dX12_undo_32 (by decide) ?_
    refine g_putI C hw fp_RX12_258 ml_0 ms_0 (st_11_11 ad _) (Nat.le_of_ble_eq_true rfl) rfl rfl dX12_undo_33 (fun H locs hw => ?_)
    obtain ⟨I33, e33⟩ : ∃ z : MI, z = mI I17 0 11 ((((I17 0 11) + (14 : Int32)) - (1 : Int32)) - (((I17 0 11) + (14 : Int32)) - (1 : Int32)) / (14 : Int32) * (14 : Int32)) := ⟨_, rfl⟩
    have h := h I33 e33
    rw [← e33] at hw
    refine lv_iconst (v := 0) hx hb dX12_undo_36 (by decide) ?_
    refine lv_istore_n (lv' := [(1, .int (0 : Int32)), (0, .ref (ad 0))]) hx hb dX12_undo_37 rfl hl (by decide) rfl (fun ls hl => ?_)
    exact wl_X12_undo_38 C  h hw (lv_sub hl [1, 0] rfl)
  · have h := h.2 c4
    refine lv_bipush (v := -3) hx hb dX12_undo_7 (by decide) ?_
    exact g_iret C hw h dX12_undo_9
theorem m_X12_undo {l : Launch} {Q : Int32 → MI → MJ → Prop} {I : MI} {J : MJ} (h : P_X12_undo I J Q) : Met l yX12_undo (xws yX12_undo cX12_undo 2 (some .int)) rmX12_undo (va_Pc [.ref (ad 0)] (gB (mS ad cy) 30 ad cy D mE I J)) (gQi (mS ad cy) 30 ad cy D mE Q) 0 0 (gA 30 ad) :=
  g_met (mE_ok ad) rfl (by decide) (Nat.le_of_ble_eq_true rfl) (fun p e s m below meth c ls C hw hl => w_X12_undo C  h hw hl)
end
