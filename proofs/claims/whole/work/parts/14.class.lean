section
variable {p : Program} {l : Launch} {e : Env} {s : State} {m : MethodId} {args : Array Value} {below : List Frame} {meth : Method} {c : Code} {ad : Nat → Nat} {cy : Nat → ClassId} {D : va_G} {ts : Nat → Nat}
/-! BagPhrases$Lexicon.rarest(I)I -/
def P_X5_rarest_46 (k : Nat) (Q : Int32 → MI → MJ → Prop) (kL9 : Int32 × Int32 × Int32 × Int32 × MI × MJ → Prop) (x1 : Int32) (x2 : Int32) (x3 : Int32) (x4 : Int32) (I : MI) (J : MJ) : Prop :=
  kL9 (x1, x2, x3, (x4 + 1), I, J)
def P_X5_rarest_9 (k : Nat) (Q : Int32 → MI → MJ → Prop) (kL9 : Int32 × Int32 × Int32 × Int32 × MI × MJ → Prop) : Int32 × Int32 × Int32 × Int32 × MI × MJ → Prop := fun z => match z with
  | (x1, x2, x3, x4, I, J) => (((8 : Int32) ≤ x4 → Q x2 I J) ∧ (¬ (8 : Int32) ≤ x4 → P_X5_amount k x1 x4 I J (fun r20 I20 J20 => ((r20 ≤ 0 → P_X5_rarest_46 k Q kL9 x1 x2 x3 x4 I20 J20) ∧ (¬ r20 ≤ 0 → P_X5_wordsWith k x4 I20 J20 (fun r29 I29 J29 => ((x3 ≤ r29 → P_X5_rarest_46 k Q kL9 x1 x2 x3 x4 I29 J29) ∧ (¬ x3 ≤ r29 → P_X5_wordsWith k x4 I29 J29 (fun r42 I42 J42 => P_X5_rarest_46 k Q kL9 x1 x4 r42 x4 I42 J42)))))))))
def P_X5_rarest (k : Nat) (a0 : Int32) (I : MI) (J : MJ) (Q : Int32 → MI → MJ → Prop) : Prop :=
  lpx (P_X5_rarest_9 k Q) (a0, (-9 : Int32), (11 : Int32), (0 : Int32), I, J)
abbrev rmX5_rarest : Room := { frames := 2, cells := 0, slots := 0, locals := 45 }
set_option maxHeartbeats 4000000 in
set_option maxRecDepth 100000 in
theorem w_X5_rarest_46 {Q : Int32 → MI → MJ → Prop} (C : gC RX5 cX5_rarest 5 (some .int) 66 ad cy D (xF ad ts) p s m args meth c) {k : Nat} (hk : isLex k) {kL9 : Int32 × Int32 × Int32 × Int32 × MI × MJ → Prop} (hL9 : ∀ {x1 : Int32} {x2 : Int32} {x3 : Int32} {x4 : Int32} {I : MI} {J : MJ} {H : Heap} {locs : List Loc} {ls : Array Slot}, kL9 (x1, x2, x3, x4, I, J) → gH (xS ad cy) 66 ad D s I J H locs → lv_has ls 5 [(0, .ref (ad k)), (1, .int x1), (2, .int x2), (3, .int x3), (4, .int x4)] → W p l e rmX5_rarest s m args below meth c H locs 0 0 (MQ below (gQi (xS ad cy) 66 ad cy D (xF ad ts) Q) args s 0 0 (gA 66 ad)) (F0 m 9 ls [])) {x1 : Int32} {x2 : Int32} {x3 : Int32} {x4 : Int32} {I : MI} {J : MJ} {H : Heap} {locs : List Loc} {ls : Array Slot} (h : P_X5_rarest_46 k Q kL9 x1 x2 x3 x4 I J) (hw : gH (xS ad cy) 66 ad D s I J H locs) (hl : lv_has ls 5 [(0, .ref (ad k)), (1, .int x1), (2, .int x2), (3, .int x3), (4, .int x4)]) : W p l e rmX5_rarest s m args below meth c H locs 0 0 (MQ below (gQi (xS ad cy) 66 ad cy D (xF ad ts) Q) args s 0 0 (gA 66 ad)) (F0 m 46 ls []) := by
  obtain ⟨hx, hb, hC⟩ := id C
  refine lv_iinc (v := x4 + 1) (lv' := [(4, .int (x4 + 1)), (0, .ref (ad k)), (1, .int x1), (2, .int x2), (3, .int x3)]) hx hb dX5_rarest_46 hl (k := 4) rfl rfl (by decide) rfl (fun ls hl => ?_)
  refine lv_goto (tgt := 9) hx hb dX5_rarest_49 (by decide) ?_
  exact hL9 h hw (lv_sub hl [1, 2, 3, 4, 0] rfl)
set_option maxHeartbeats 4000000 in
set_option maxRecDepth 100000 in
theorem w_X5_rarest_9 {Q : Int32 → MI → MJ → Prop} (C : gC RX5 cX5_rarest 5 (some .int) 66 ad cy D (xF ad ts) p s m args meth c) {k : Nat} (hk : isLex k) {kL9 : Int32 × Int32 × Int32 × Int32 × MI × MJ → Prop} (hL9 : ∀ {x1 : Int32} {x2 : Int32} {x3 : Int32} {x4 : Int32} {I : MI} {J : MJ} {H : Heap} {locs : List Loc} {ls : Array Slot}, kL9 (x1, x2, x3, x4, I, J) → gH (xS ad cy) 66 ad D s I J H locs → lv_has ls 5 [(0, .ref (ad k)), (1, .int x1), (2, .int x2), (3, .int x3), (4, .int x4)] → W p l e rmX5_rarest s m args below meth c H locs 0 0 (MQ below (gQi (xS ad cy) 66 ad cy D (xF ad ts) Q) args s 0 0 (gA 66 ad)) (F0 m 9 ls [])) {x1 : Int32} {x2 : Int32} {x3 : Int32} {x4 : Int32} {I : MI} {J : MJ} {H : Heap} {locs : List Loc} {ls : Array Slot} (h : P_X5_rarest_9 k Q kL9 (x1, x2, x3, x4, I, J)) (hw : gH (xS ad cy) 66 ad D s I J H locs) (hl : lv_has ls 5 [(0, .ref (ad k)), (1, .int x1), (2, .int x2), (3, .int x3), (4, .int x4)]) : W p l e rmX5_rarest s m args below meth c H locs 0 0 (MQ below (gQi (xS ad cy) 66 ad cy D (xF ad ts) Q) args s 0 0 (gA 66 ad)) (F0 m 9 ls []) := by
  obtain ⟨hx, hb, hC⟩ := id C
  refine lv_iload hx hb dX5_rarest_9 (lv_at hl 4 rfl) ?_
  refine lv_bipush (v := 8) hx hb dX5_rarest_11 (by decide) ?_
  refine lv_icmp_ge (tgt := 52) hx hb dX5_rarest_13 (by decide) (fun c13 => ?_) (fun c13 => ?_)
  · have h := h.1 c13
    refine lv_iload_n hx hb dX5_rarest_52 rfl (lv_at hl 2 rfl) ?_
    exact g_iret C hw h dX5_rarest_53
  · have h := h.2 c13
    refine lv_aload_n hx hb dX5_rarest_16 rfl (lv_at hl 0 rfl) ?_
    refine lv_iload_n hx hb dX5_rarest_17 rfl (lv_at hl 1 rfl) ?_
    refine lv_iload hx hb dX5_rarest_18 (lv_at hl 4 rfl) ?_
    refine g_ci hw (g_rV [.int x1, .int x4] [] C hw (m_X5_amount hk h) k_X5_amount q_RX5_35 (xl_Lex0 hk) ((xs_Lex0 hk) _ _) rfl rfl hl.1 rfl (Nat.le_of_ble_eq_true rfl) ⟨⟨rfl, rfl⟩, Nat.le_of_ble_eq_true rfl, Nat.le_of_ble_eq_true rfl⟩ ⟨Nat.zero_le _, Nat.zero_le _⟩ dX5_rarest_20) (fun r20 I20 J20 H locs h hw => ?_)
    refine lv_if_le (tgt := 46) hx hb dX5_rarest_23 (by decide) (fun c23 => ?_) (fun c23 => ?_)
    · have h := h.1 c23
      exact w_X5_rarest_46 C hk hL9 h hw (lv_sub hl [0, 1, 2, 3, 4] rfl)
    · have h := h.2 c23
      refine lv_aload_n hx hb dX5_rarest_26 rfl (lv_at hl 0 rfl) ?_
      refine lv_iload hx hb dX5_rarest_27 (lv_at hl 4 rfl) ?_
      refine g_ci hw (g_rV [.int x4] [] C hw (m_X5_wordsWith hk h) k_X5_wordsWith q_RX5_39 (xl_Lex0 hk) ((xs_Lex0 hk) _ _) rfl rfl hl.1 rfl (Nat.le_of_ble_eq_true rfl) ⟨⟨rfl, rfl⟩, Nat.le_of_ble_eq_true rfl, Nat.le_of_ble_eq_true rfl⟩ ⟨Nat.zero_le _, Nat.zero_le _⟩ dX5_rarest_29) (fun r29 I29 J29 H locs h hw => ?_)
      refine lv_iload_n hx hb dX5_rarest_32 rfl (lv_at hl 3 rfl) ?_
      refine lv_icmp_ge (tgt := 46) hx hb dX5_rarest_33 (by decide) (fun c33 => ?_) (fun c33 => ?_)
      · have h := h.1 c33
        exact w_X5_rarest_46 C hk hL9 h hw (lv_sub hl [0, 1, 2, 3, 4] rfl)
      · have h := h.2 c33
        refine lv_iload hx hb dX5_rarest_36 (lv_at hl 4 rfl) ?_
        refine lv_istore_n (lv' := [(2, .int x4), (0, .ref (ad k)), (1, .int x1), (3, .int x3), (4, .int x4)]) hx hb dX5_rarest_38 rfl hl (by decide) rfl (fun ls hl => ?_)
        refine lv_aload_n hx hb dX5_rarest_39 rfl (lv_at hl 1 rfl) ?_
        refine lv_iload hx hb dX5_rarest_40 (lv_at hl 4 rfl) ?_
        refine g_ci hw (g_rV [.int x4] [] C hw (m_X5_wordsWith hk h) k_X5_wordsWith q_RX5_39 (xl_Lex0 hk) ((xs_Lex0 hk) _ _) rfl rfl hl.1 rfl (Nat.le_of_ble_eq_true rfl) ⟨⟨rfl, rfl⟩, Nat.le_of_ble_eq_true rfl, Nat.le_of_ble_eq_true rfl⟩ ⟨Nat.zero_le _, Nat.zero_le _⟩ dX5_rarest_42) (fun r42 I42 J42 H locs h hw => ?_)
        refine lv_istore_n (lv' := [(3, .int r42), (2, .int x4), (0, .ref (ad k)), (1, .int x1), (4, .int x4)]) hx hb dX5_rarest_45 rfl hl (by decide) rfl (fun ls hl => ?_)
        exact w_X5_rarest_46 C hk hL9 h hw (lv_sub hl [2, 3, 1, 0, 4] rfl)
theorem wl_X5_rarest_9 {Q : Int32 → MI → MJ → Prop} (C : gC RX5 cX5_rarest 5 (some .int) 66 ad cy D (xF ad ts) p s m args meth c) {k : Nat} (hk : isLex k) {x1 : Int32} {x2 : Int32} {x3 : Int32} {x4 : Int32} {I : MI} {J : MJ} {H : Heap} {locs : List Loc} {ls : Array Slot} (h : lpx (P_X5_rarest_9 k Q) (x1, x2, x3, x4, I, J)) (hw : gH (xS ad cy) 66 ad D s I J H locs) (hl : lv_has ls 5 [(0, .ref (ad k)), (1, .int x1), (2, .int x2), (3, .int x3), (4, .int x4)]) : W p l e rmX5_rarest s m args below meth c H locs 0 0 (MQ below (gQi (xS ad cy) 66 ad cy D (xF ad ts) Q) args s 0 0 (gA 66 ad)) (F0 m 9 ls []) := by
  obtain ⟨n, h⟩ := h
  induction n generalizing x1 x2 x3 x4 I J H locs ls with
  | zero => exact False.elim h
  | succ n ih => exact w_X5_rarest_9 C hk (fun hk9 hw9 hl9 => ih hw9 hl9 hk9) h hw hl
set_option maxHeartbeats 4000000 in
set_option maxRecDepth 100000 in
theorem w_X5_rarest {Q : Int32 → MI → MJ → Prop} (C : gC RX5 cX5_rarest 5 (some .int) 66 ad cy D (xF ad ts) p s m args meth c) {k : Nat} (hk : isLex k) {a0 : Int32} {I : MI} {J : MJ} {H : Heap} {locs : List Loc} {ls : Array Slot} (h : P_X5_rarest k a0 I J Q) (hw : gH (xS ad cy) 66 ad D s I J H locs) (hl : lv_has ls 5 [(0, .ref (ad k)), (1, .int a0)]) : W p l e rmX5_rarest s m args below meth c H locs 0 0 (MQ below (gQi (xS ad cy) 66 ad cy D (xF ad ts) Q) args s 0 0 (gA 66 ad)) (F0 m 0 ls []) := by
  obtain ⟨hx, hb, hC⟩ := id C
  refine lv_bipush (v := -9) hx hb dX5_rarest_0 (by decide) ?_
  refine lv_istore_n (lv' := [(2, .int (-9 : Int32)), (0, .ref (ad k)), (1, .int a0)]) hx hb dX5_rarest_2 rfl hl (by decide) rfl (fun ls hl => ?_)
  refine lv_bipush (v := 11) hx hb dX5_rarest_3 (by decide) ?_
  refine lv_istore_n (lv' := [(3, .int (11 : Int32)), (2, .int (-9 : Int32)), (0, .ref (ad k)), (1, .int a0)]) hx hb dX5_rarest_5 rfl hl (by decide) rfl (fun ls hl => ?_)
  refine lv_iconst (v := 0) hx hb dX5_rarest_6 (by decide) ?_
  refine lv_istore (lv' := [(4, .int (0 : Int32)), (3, .int (11 : Int32)), (2, .int (-9 : Int32)), (0, .ref (ad k)), (1, .int a0)]) hx hb dX5_rarest_7 hl (by decide) rfl (fun ls hl => ?_)
  exact wl_X5_rarest_9 C hk h hw (lv_sub hl [3, 4, 2, 1, 0] rfl)
theorem m_X5_rarest {l : Launch} {k : Nat} (hk : isLex k) {a0 : Int32} {Q : Int32 → MI → MJ → Prop} {I : MI} {J : MJ} (h : P_X5_rarest k a0 I J Q) : Met l yX5_rarest (xws yX5_rarest cX5_rarest 5 (some .int)) rmX5_rarest (va_Pc [.ref (ad k), .int a0] (gB (xS ad cy) 66 ad cy D (xF ad ts) I J)) (gQi (xS ad cy) 66 ad cy D (xF ad ts) Q) 0 0 (gA 66 ad) :=
  g_met (xF_ok ad ts) rfl (by decide) (Nat.le_of_ble_eq_true rfl) (fun p e s m below meth c ls C hw hl => w_X5_rarest C hk h hw hl)
/-! BagPhrases$Lexicon.twins(I)I -/
def P_X5_twins_31 (k : Nat) (Q : Int32 → MI → MJ → Prop) (kL4 : Int32 × Int32 × Int32 × MI × MJ → Prop) (x1 : Int32) (x2 : Int32) (x3 : Int32) (I : MI) (J : MJ) : Prop :=
  kL4 (x1, x2, (x3 + 1), I, J)
def P_X5_twins_4 (k : Nat) (Q : Int32 → MI → MJ → Prop) (kL4 : Int32 × Int32 × Int32 × MI × MJ → Prop) : Int32 × Int32 × Int32 × MI × MJ → Prop := fun z => match z with
  | (x1, x2, x3, I, J) => (((I k 4) ≤ x3 → Q x2 I J) ∧ (¬ (I k 4) ≤ x3 → vp_in x3 10 ∧ (vp_in x1 10 ∧ (((¬ (J (k + 3) x3.toNatClampNeg) = (J (k + 3) x1.toNatClampNeg) → P_X5_twins_31 k Q kL4 x1 x2 x3 I J) ∧ ((J (k + 3) x3.toNatClampNeg) = (J (k + 3) x1.toNatClampNeg) → P_X5_twins_31 k Q kL4 x1 (x2 + 1) x3 I J))))))
def P_X5_twins (k : Nat) (a0 : Int32) (I : MI) (J : MJ) (Q : Int32 → MI → MJ → Prop) : Prop :=
  lpx (P_X5_twins_4 k Q) (a0, (0 : Int32), (0 : Int32), I, J)
abbrev rmX5_twins : Room := { frames := 0, cells := 0, slots := 0, locals := 0 }
set_option maxHeartbeats 4000000 in
set_option maxRecDepth 100000 in
theorem w_X5_twins_31 {Q : Int32 → MI → MJ → Prop} (C : gC RX5 cX5_twins 4 (some .int) 66 ad cy D (xF ad ts) p s m args meth c) {k : Nat} (hk : isLex k) {kL4 : Int32 × Int32 × Int32 × MI × MJ → Prop} (hL4 : ∀ {x1 : Int32} {x2 : Int32} {x3 : Int32} {I : MI} {J : MJ} {H : Heap} {locs : List Loc} {ls : Array Slot}, kL4 (x1, x2, x3, I, J) → gH (xS ad cy) 66 ad D s I J H locs → lv_has ls 4 [(0, .ref (ad k)), (1, .int x1), (2, .int x2), (3, .int x3)] → W p l e rmX5_twins s m args below meth c H locs 0 0 (MQ below (gQi (xS ad cy) 66 ad cy D (xF ad ts) Q) args s 0 0 (gA 66 ad)) (F0 m 4 ls [])) {x1 : Int32} {x2 : Int32} {x3 : Int32} {I : MI} {J : MJ} {H : Heap} {locs : List Loc} {ls : Array Slot} (h : P_X5_twins_31 k Q kL4 x1 x2 x3 I J) (hw : gH (xS ad cy) 66 ad D s I J H locs) (hl : lv_has ls 4 [(0, .ref (ad k)), (1, .int x1), (2, .int x2), (3, .int x3)]) : W p l e rmX5_twins s m args below meth c H locs 0 0 (MQ below (gQi (xS ad cy) 66 ad cy D (xF ad ts) Q) args s 0 0 (gA 66 ad)) (F0 m 31 ls []) := by
  obtain ⟨hx, hb, hC⟩ := id C
  refine lv_iinc (v := x3 + 1) (lv' := [(3, .int (x3 + 1)), (0, .ref (ad k)), (1, .int x1), (2, .int x2)]) hx hb dX5_twins_31 hl (k := 3) rfl rfl (by decide) rfl (fun ls hl => ?_)
  refine lv_goto (tgt := 4) hx hb dX5_twins_34 (by decide) ?_
  exact hL4 h hw (lv_sub hl [1, 2, 3, 0] rfl)
set_option maxHeartbeats 4000000 in
set_option maxRecDepth 100000 in
theorem w_X5_twins_4 {Q : Int32 → MI → MJ → Prop} (C : gC RX5 cX5_twins 4 (some .int) 66 ad cy D (xF ad ts) p s m args meth c) {k : Nat} (hk : isLex k) {kL4 : Int32 × Int32 × Int32 × MI × MJ → Prop} (hL4 : ∀ {x1 : Int32} {x2 : Int32} {x3 : Int32} {I : MI} {J : MJ} {H : Heap} {locs : List Loc} {ls : Array Slot}, kL4 (x1, x2, x3, I, J) → gH (xS ad cy) 66 ad D s I J H locs → lv_has ls 4 [(0, .ref (ad k)), (1, .int x1), (2, .int x2), (3, .int x3)] → W p l e rmX5_twins s m args below meth c H locs 0 0 (MQ below (gQi (xS ad cy) 66 ad cy D (xF ad ts) Q) args s 0 0 (gA 66 ad)) (F0 m 4 ls [])) {x1 : Int32} {x2 : Int32} {x3 : Int32} {I : MI} {J : MJ} {H : Heap} {locs : List Loc} {ls : Array Slot} (h : P_X5_twins_4 k Q kL4 (x1, x2, x3, I, J)) (hw : gH (xS ad cy) 66 ad D s I J H locs) (hl : lv_has ls 4 [(0, .ref (ad k)), (1, .int x1), (2, .int x2), (3, .int x3)]) : W p l e rmX5_twins s m args below meth c H locs 0 0 (MQ below (gQi (xS ad cy) 66 ad cy D (xF ad ts) Q) args s 0 0 (gA 66 ad)) (F0 m 4 ls []) := by
  obtain ⟨hx, hb, hC⟩ := id C
  refine lv_iload_n hx hb dX5_twins_4 rfl (lv_at hl 3 rfl) ?_
  refine lv_aload_n hx hb dX5_twins_5 rfl (lv_at hl 0 rfl) ?_
  refine g_get C hw f_RX5_25 (xl_Lex0 hk) ((xs_Lex0 hk) _ _) rfl dX5_twins_6 ?_
  refine lv_icmp_ge (tgt := 37) hx hb dX5_twins_9 (by decide) (fun c9 => ?_) (fun c9 => ?_)
  · have h := h.1 c9
    refine lv_iload_n hx hb dX5_twins_37 rfl (lv_at hl 2 rfl) ?_
    exact g_iret C hw h dX5_twins_38
  · have h := h.2 c9
    refine lv_aload_n hx hb dX5_twins_12 rfl (lv_at hl 0 rfl) ?_
    refine g_get C hw f_RX5_18 (xl_Lex0 hk) ((xs_Lex0 hk) _ _) rfl dX5_twins_13 ?_
    refine lv_iload_n hx hb dX5_twins_16 rfl (lv_at hl 3 rfl) ?_
    refine g_lald C hw (xl_Lex3 hk) (xs_Lex3 hk) h.1 dX5_twins_17 ?_
    have h := h.2
    refine lv_aload_n hx hb dX5_twins_18 rfl (lv_at hl 0 rfl) ?_
    refine g_get C hw f_RX5_18 (xl_Lex0 hk) ((xs_Lex0 hk) _ _) rfl dX5_twins_19 ?_
    refine lv_iload_n hx hb dX5_twins_22 rfl (lv_at hl 1 rfl) ?_
    refine g_lald C hw (xl_Lex3 hk) (xs_Lex3 hk) h.1 dX5_twins_23 ?_
    have h := h.2
    refine g_lcmp_ne (tgt := 31) hx hb dX5_twins_24 dX5_twins_25 (by decide) (fun c24 => ?_) (fun c24 => ?_)
    · have h := h.1 c24
      exact w_X5_twins_31 C hk hL4 h hw (lv_sub hl [0, 1, 2, 3] rfl)
    · have h := h.2 c24
      refine lv_iinc (v := x2 + 1) (lv' := [(2, .int (x2 + 1)), (0, .ref (ad k)), (1, .int x1), (3, .int x3)]) hx hb dX5_twins_28 hl (k := 2) rfl rfl (by decide) rfl (fun ls hl => ?_)
      exact w_X5_twins_31 C hk hL4 h hw (lv_sub hl [1, 2, 0, 3] rfl)
theorem wl_X5_twins_4 {Q : Int32 → MI → MJ → Prop} (C : gC RX5 cX5_twins 4 (some .int) 66 ad cy D (xF ad ts) p s m args meth c) {k : Nat} (hk : isLex k) {x1 : Int32} {x2 : Int32} {x3 : Int32} {I : MI} {J : MJ} {H : Heap} {locs : List Loc} {ls : Array Slot} (h : lpx (P_X5_twins_4 k Q) (x1, x2, x3, I, J)) (hw : gH (xS ad cy) 66 ad D s I J H locs) (hl : lv_has ls 4 [(0, .ref (ad k)), (1, .int x1), (2, .int x2), (3, .int x3)]) : W p l e rmX5_twins s m args below meth c H locs 0 0 (MQ below (gQi (xS ad cy) 66 ad cy D (xF ad ts) Q) args s 0 0 (gA 66 ad)) (F0 m 4 ls []) := by
  obtain ⟨n, h⟩ := h
  induction n generalizing x1 x2 x3 I J H locs ls with
  | zero => exact False.elim h
  | succ n ih => exact w_X5_twins_4 C hk (fun hk9 hw9 hl9 => ih hw9 hl9 hk9) h hw hl
set_option maxHeartbeats 4000000 in
set_option maxRecDepth 100000 in
theorem w_X5_twins {Q : Int32 → MI → MJ → Prop} (C : gC RX5 cX5_twins 4 (some .int) 66 ad cy D (xF ad ts) p s m args meth c) {k : Nat} (hk : isLex k) {a0 : Int32} {I : MI} {J : MJ} {H : Heap} {locs : List Loc} {ls : Array Slot} (h : P_X5_twins k a0 I J Q) (hw : gH (xS ad cy) 66 ad D s I J H locs) (hl : lv_has ls 4 [(0, .ref (ad k)), (1, .int a0)]) : W p l e rmX5_twins s m args below meth c H locs 0 0 (MQ below (gQi (xS ad cy) 66 ad cy D (xF ad ts) Q) args s 0 0 (gA 66 ad)) (F0 m 0 ls []) := by
  obtain ⟨hx, hb, hC⟩ := id C
  refine lv_iconst (v := 0) hx hb dX5_twins_0 (by decide) ?_
  refine lv_istore_n (lv' := [(2, .int (0 : Int32)), (0, .ref (ad k)), (1, .int a0)]) hx hb dX5_twins_1 rfl hl (by decide) rfl (fun ls hl => ?_)
  refine lv_iconst (v := 0) hx hb dX5_twins_2 (by decide) ?_
  refine lv_istore_n (lv' := [(3, .int (0 : Int32)), (2, .int (0 : Int32)), (0, .ref (ad k)), (1, .int a0)]) hx hb dX5_twins_3 rfl hl (by decide) rfl (fun ls hl => ?_)
  exact wl_X5_twins_4 C hk h hw (lv_sub hl [2, 3, 1, 0] rfl)
theorem m_X5_twins {l : Launch} {k : Nat} (hk : isLex k) {a0 : Int32} {Q : Int32 → MI → MJ → Prop} {I : MI} {J : MJ} (h : P_X5_twins k a0 I J Q) : Met l yX5_twins (xws yX5_twins cX5_twins 4 (some .int)) rmX5_twins (va_Pc [.ref (ad k), .int a0] (gB (xS ad cy) 66 ad cy D (xF ad ts) I J)) (gQi (xS ad cy) 66 ad cy D (xF ad ts) Q) 0 0 (gA 66 ad) :=
  g_met (xF_ok ad ts) rfl (by decide) (Nat.le_of_ble_eq_true rfl) (fun p e s m below meth c ls C hw hl => w_X5_twins C hk h hw hl)
/-! BagPhrases.makings(I)I -/
def P_X11_makings_44 (Q : Int32 → MI → MJ → Prop) (kL5 : Int32 × Int32 × Int32 × MI × MJ → Prop) (x1 : Int32) (x2 : Int32) (x3 : Int32) (I : MI) (J : MJ) : Prop :=
  kL5 (x1, x2, (x3 + 1), I, J)
def P_X11_makings_5 (Q : Int32 → MI → MJ → Prop) (kL5 : Int32 × Int32 × Int32 × MI × MJ → Prop) : Int32 × Int32 × Int32 × MI × MJ → Prop := fun z => match z with
  | (x1, x2, x3, I, J) => (((8 : Int32) ≤ x3 → Q x2 I J) ∧ (¬ (8 : Int32) ≤ x3 → P_X5_amount 12 x1 x3 I J (fun r17 I17 J17 => ((r17 ≤ 0 → P_X11_makings_44 Q kL5 x1 x2 x3 I17 J17) ∧ (¬ r17 ≤ 0 → vp_in x3 8 ∧ (¬ r17 = 0 ∧ (P_X11_makings_44 Q kL5 x1 (if ((I17 18 x3.toNatClampNeg) / r17) < x2 then ((I17 18 x3.toNatClampNeg) / r17) else x2) x3 I17 J17)))))))
def P_X11_makings (a0 : Int32) (I : MI) (J : MJ) (Q : Int32 → MI → MJ → Prop) : Prop :=
  lpx (P_X11_makings_5 Q) (a0, (12 : Int32), (0 : Int32), I, J)
abbrev rmX11_makings : Room := { frames := 1, cells := 0, slots := 0, locals := 24 }
set_option maxHeartbeats 4000000 in
set_option maxRecDepth 100000 in
theorem w_X11_makings_44 {Q : Int32 → MI → MJ → Prop} (C : gC RX11 cX11_makings 5 (some .int) 66 ad cy D (xF ad ts) p s m args meth c) {kL5 : Int32 × Int32 × Int32 × MI × MJ → Prop} (hL5 : ∀ {x1 : Int32} {x2 : Int32} {x3 : Int32} {I : MI} {J : MJ} {H : Heap} {locs : List Loc} {ls : Array Slot}, kL5 (x1, x2, x3, I, J) → gH (xS ad cy) 66 ad D s I J H locs → lv_has ls 5 [(0, .ref (ad 0)), (1, .int x1), (2, .int x2), (3, .int x3)] → W p l e rmX11_makings s m args below meth c H locs 0 0 (MQ below (gQi (xS ad cy) 66 ad cy D (xF ad ts) Q) args s 0 0 (gA 66 ad)) (F0 m 5 ls [])) {x1 : Int32} {x2 : Int32} {x3 : Int32} {I : MI} {J : MJ} {H : Heap} {locs : List Loc} {ls : Array Slot} (h : P_X11_makings_44 Q kL5 x1 x2 x3 I J) (hw : gH (xS ad cy) 66 ad D s I J H locs) (hl : lv_has ls 5 [(0, .ref (ad 0)), (1, .int x1), (2, .int x2), (3, .int x3)]) : W p l e rmX11_makings s m args below meth c H locs 0 0 (MQ below (gQi (xS ad cy) 66 ad cy D (xF ad ts) Q) args s 0 0 (gA 66 ad)) (F0 m 44 ls []) := by
  obtain ⟨hx, hb, hC⟩ := id C
  refine lv_iinc (v := x3 + 1) (lv' := [(3, .int (x3 + 1)), (0, .ref (ad 0)), (1, .int x1), (2, .int x2)]) hx hb dX11_makings_44 hl (k := 3) rfl rfl (by decide) rfl (fun ls hl => ?_)
  refine lv_goto (tgt := 5) hx hb dX11_makings_47 (by decide) ?_
  exact hL5 h hw (lv_sub hl [1, 2, 3, 0] rfl)
set_option maxHeartbeats 4000000 in
set_option maxRecDepth 100000 in
theorem w_X11_makings_5 {Q : Int32 → MI → MJ → Prop} (C : gC RX11 cX11_makings 5 (some .int) 66 ad cy D (xF ad ts) p s m args meth c) {kL5 : Int32 × Int32 × Int32 × MI × MJ → Prop} (hL5 : ∀ {x1 : Int32} {x2 : Int32} {x3 : Int32} {I : MI} {J : MJ} {H : Heap} {locs : List Loc} {ls : Array Slot}, kL5 (x1, x2, x3, I, J) → gH (xS ad cy) 66 ad D s I J H locs → lv_has ls 5 [(0, .ref (ad 0)), (1, .int x1), (2, .int x2), (3, .int x3)] → W p l e rmX11_makings s m args below meth c H locs 0 0 (MQ below (gQi (xS ad cy) 66 ad cy D (xF ad ts) Q) args s 0 0 (gA 66 ad)) (F0 m 5 ls [])) {x1 : Int32} {x2 : Int32} {x3 : Int32} {I : MI} {J : MJ} {H : Heap} {locs : List Loc} {ls : Array Slot} (h : P_X11_makings_5 Q kL5 (x1, x2, x3, I, J)) (hw : gH (xS ad cy) 66 ad D s I J H locs) (hl : lv_has ls 5 [(0, .ref (ad 0)), (1, .int x1), (2, .int x2), (3, .int x3)]) : W p l e rmX11_makings s m args below meth c H locs 0 0 (MQ below (gQi (xS ad cy) 66 ad cy D (xF ad ts) Q) args s 0 0 (gA 66 ad)) (F0 m 5 ls []) := by
  obtain ⟨hx, hb, hC⟩ := id C
  refine lv_iload_n hx hb dX11_makings_5 rfl (lv_at hl 3 rfl) ?_
  refine lv_bipush (v := 8) hx hb dX11_makings_6 (by decide) ?_
  refine lv_icmp_ge (tgt := 50) hx hb dX11_makings_8 (by decide) (fun c8 => ?_) (fun c8 => ?_)
  · have h := h.1 c8
    refine lv_iload_n hx hb dX11_makings_50 rfl (lv_at hl 2 rfl) ?_
    exact g_iret C hw h dX11_makings_51
  · have h := h.2 c8
    refine lv_aload_n hx hb dX11_makings_11 rfl (lv_at hl 0 rfl) ?_
    refine g_get C hw f_RX11_19 xl_0 (xs_0 _ _) rfl dX11_makings_12 ?_
    refine lv_iload_n hx hb dX11_makings_15 rfl (lv_at hl 1 rfl) ?_
    refine lv_iload_n hx hb dX11_makings_16 rfl (lv_at hl 3 rfl) ?_
    refine g_ci hw (g_rV [.int x1, .int x3] [] C hw (m_X5_amount isLex_12 h) k_X5_amount q_RX11_300 xl_12 (xs_12 _ _) rfl rfl hl.1 rfl (Nat.le_of_ble_eq_true rfl) ⟨⟨rfl, rfl⟩, Nat.le_of_ble_eq_true rfl, Nat.le_of_ble_eq_true rfl⟩ ⟨Nat.zero_le _, Nat.zero_le _⟩ dX11_makings_17) (fun r17 I17 J17 H locs h hw => ?_)
    refine lv_istore (lv' := [(4, .int r17), (0, .ref (ad 0)), (1, .int x1), (2, .int x2), (3, .int x3)]) hx hb dX11_makings_20 hl (by decide) rfl (fun ls hl => ?_)
    refine lv_iload hx hb dX11_makings_22 (lv_at hl 0 rfl) ?_
    refine lv_if_le (tgt := 44) hx hb dX11_makings_24 (by decide) (fun c24 => ?_) (fun c24 => ?_)
    · have h := h.1 c24
      exact w_X11_makings_44 C hL5 h hw (lv_sub hl [1, 2, 3, 4] rfl)
    · have h := h.2 c24
      refine lv_iload_n hx hb dX11_makings_27 rfl (lv_at hl 3 rfl) ?_
      refine lv_aload_n hx hb dX11_makings_28 rfl (lv_at hl 1 rfl) ?_
      refine g_get C hw f_RX11_26 xl_0 (xs_0 _ _) rfl dX11_makings_29 ?_
      refine g_get C hw f_RX11_180 xl_17 (xs_17 _ _) rfl dX11_makings_32 ?_
      refine lv_iload_n hx hb dX11_makings_35 rfl (lv_at hl 4 rfl) ?_
      refine g_iald C hw xl_18 xs_18 h.1 dX11_makings_36 ?_
      have h := h.2
      refine lv_iload hx hb dX11_makings_37 (lv_at hl 0 rfl) ?_
      refine lv_idiv hx hb dX11_makings_39 h.1 ?_
      have h := h.2
      refine va_mmin hx hb (hC.2.1.trans hl.1.symm) hC.2.2.1 (hC.2.2.2.1 _ q_RX11_303) (hC.2.2.2.1 _ qms_min) (hC.2.2.2.1 _ qi_RJ9) (hC.2.2.2.1 _ qmc_min) (Nat.le_of_ble_eq_true rfl) (Nat.le_of_ble_eq_true rfl) (Nat.zero_le _) (Nat.zero_le _) dX11_makings_40 ?_
      refine lv_istore_n (lv' := [(2, .int (if ((I17 18 x3.toNatClampNeg) / r17) < x2 then ((I17 18 x3.toNatClampNeg) / r17) else x2)), (4, .int r17), (0, .ref (ad 0)), (1, .int x1), (3, .int x3)]) hx hb dX11_makings_43 rfl hl (by decide) rfl (fun ls hl => ?_)
      exact w_X11_makings_44 C hL5 h hw (lv_sub hl [2, 3, 0, 4] rfl)
theorem wl_X11_makings_5 {Q : Int32 → MI → MJ → Prop} (C : gC RX11 cX11_makings 5 (some .int) 66 ad cy D (xF ad ts) p s m args meth c) {x1 : Int32} {x2 : Int32} {x3 : Int32} {I : MI} {J : MJ} {H : Heap} {locs : List Loc} {ls : Array Slot} (h : lpx (P_X11_makings_5 Q) (x1, x2, x3, I, J)) (hw : gH (xS ad cy) 66 ad D s I J H locs) (hl : lv_has ls 5 [(0, .ref (ad 0)), (1, .int x1), (2, .int x2), (3, .int x3)]) : W p l e rmX11_makings s m args below meth c H locs 0 0 (MQ below (gQi (xS ad cy) 66 ad cy D (xF ad ts) Q) args s 0 0 (gA 66 ad)) (F0 m 5 ls []) := by
  obtain ⟨n, h⟩ := h
  induction n generalizing x1 x2 x3 I J H locs ls with
  | zero => exact False.elim h
  | succ n ih => exact w_X11_makings_5 C  (fun hk9 hw9 hl9 => ih hw9 hl9 hk9) h hw hl
set_option maxHeartbeats 4000000 in
set_option maxRecDepth 100000 in
theorem w_X11_makings {Q : Int32 → MI → MJ → Prop} (C : gC RX11 cX11_makings 5 (some .int) 66 ad cy D (xF ad ts) p s m args meth c) {a0 : Int32} {I : MI} {J : MJ} {H : Heap} {locs : List Loc} {ls : Array Slot} (h : P_X11_makings a0 I J Q) (hw : gH (xS ad cy) 66 ad D s I J H locs) (hl : lv_has ls 5 [(0, .ref (ad 0)), (1, .int a0)]) : W p l e rmX11_makings s m args below meth c H locs 0 0 (MQ below (gQi (xS ad cy) 66 ad cy D (xF ad ts) Q) args s 0 0 (gA 66 ad)) (F0 m 0 ls []) := by
  obtain ⟨hx, hb, hC⟩ := id C
  refine lv_bipush (v := 12) hx hb dX11_makings_0 (by decide) ?_
  refine lv_istore_n (lv' := [(2, .int (12 : Int32)), (0, .ref (ad 0)), (1, .int a0)]) hx hb dX11_makings_2 rfl hl (by decide) rfl (fun ls hl => ?_)
  refine lv_iconst (v := 0) hx hb dX11_makings_3 (by decide) ?_
  refine lv_istore_n (lv' := [(3, .int (0 : Int32)), (2, .int (12 : Int32)), (0, .ref (ad 0)), (1, .int a0)]) hx hb dX11_makings_4 rfl hl (by decide) rfl (fun ls hl => ?_)
  exact wl_X11_makings_5 C  h hw (lv_sub hl [2, 3, 1, 0] rfl)
theorem m_X11_makings {l : Launch} {a0 : Int32} {Q : Int32 → MI → MJ → Prop} {I : MI} {J : MJ} (h : P_X11_makings a0 I J Q) : Met l yX11_makings (xws yX11_makings cX11_makings 5 (some .int)) rmX11_makings (va_Pc [.ref (ad 0), .int a0] (gB (xS ad cy) 66 ad cy D (xF ad ts) I J)) (gQi (xS ad cy) 66 ad cy D (xF ad ts) Q) 0 0 (gA 66 ad) :=
  g_met (xF_ok ad ts) rfl (by decide) (Nat.le_of_ble_eq_true rfl) (fun p e s m below meth c ls C hw hl => w_X11_makings C  h hw hl)
/-! BagPhrases$Lexicon.letterBits(I)I -/
def P_X5_letterBits_25 (k : Nat) (Q : Int32 → MI → MJ → Prop) (kL4 : Int32 × Int32 × Int32 × MI × MJ → Prop) (x1 : Int32) (x2 : Int32) (x3 : Int32) (I : MI) (J : MJ) : Prop :=
  kL4 (x1, x2, (x3 + 1), I, J)
def P_X5_letterBits_4 (k : Nat) (Q : Int32 → MI → MJ → Prop) (kL4 : Int32 × Int32 × Int32 × MI × MJ → Prop) : Int32 × Int32 × Int32 × MI × MJ → Prop := fun z => match z with
  | (x1, x2, x3, I, J) => (((8 : Int32) ≤ x3 → Q x2 I J) ∧ (¬ (8 : Int32) ≤ x3 → P_X5_amount k x1 x3 I J (fun r13 I13 J13 => ((r13 ≤ 0 → P_X5_letterBits_25 k Q kL4 x1 x2 x3 I13 J13) ∧ (¬ r13 ≤ 0 → P_X5_letterBits_25 k Q kL4 x1 (x2 ||| ((1 : Int32) <<< (x3 &&& 31))) x3 I13 J13)))))
def P_X5_letterBits (k : Nat) (a0 : Int32) (I : MI) (J : MJ) (Q : Int32 → MI → MJ → Prop) : Prop :=
  lpx (P_X5_letterBits_4 k Q) (a0, (0 : Int32), (0 : Int32), I, J)
abbrev rmX5_letterBits : Room := { frames := 1, cells := 0, slots := 0, locals := 22 }
set_option maxHeartbeats 4000000 in
set_option maxRecDepth 100000 in
theorem w_X5_letterBits_25 {Q : Int32 → MI → MJ → Prop} (C : gC RX5 cX5_letterBits 4 (some .int) 66 ad cy D (xF ad ts) p s m args meth c) {k : Nat} (hk : isLex k) {kL4 : Int32 × Int32 × Int32 × MI × MJ → Prop} (hL4 : ∀ {x1 : Int32} {x2 : Int32} {x3 : Int32} {I : MI} {J : MJ} {H : Heap} {locs : List Loc} {ls : Array Slot}, kL4 (x1, x2, x3, I, J) → gH (xS ad cy) 66 ad D s I J H locs → lv_has ls 4 [(0, .ref (ad k)), (1, .int x1), (2, .int x2), (3, .int x3)] → W p l e rmX5_letterBits s m args below meth c H locs 0 0 (MQ below (gQi (xS ad cy) 66 ad cy D (xF ad ts) Q) args s 0 0 (gA 66 ad)) (F0 m 4 ls [])) {x1 : Int32} {x2 : Int32} {x3 : Int32} {I : MI} {J : MJ} {H : Heap} {locs : List Loc} {ls : Array Slot} (h : P_X5_letterBits_25 k Q kL4 x1 x2 x3 I J) (hw : gH (xS ad cy) 66 ad D s I J H locs) (hl : lv_has ls 4 [(0, .ref (ad k)), (1, .int x1), (2, .int x2), (3, .int x3)]) : W p l e rmX5_letterBits s m args below meth c H locs 0 0 (MQ below (gQi (xS ad cy) 66 ad cy D (xF ad ts) Q) args s 0 0 (gA 66 ad)) (F0 m 25 ls []) := by
  obtain ⟨hx, hb, hC⟩ := id C
  refine lv_iinc (v := x3 + 1) (lv' := [(3, .int (x3 + 1)), (0, .ref (ad k)), (1, .int x1), (2, .int x2)]) hx hb dX5_letterBits_25 hl (k := 3) rfl rfl (by decide) rfl (fun ls hl => ?_)
  refine lv_goto (tgt := 4) hx hb dX5_letterBits_28 (by decide) ?_
  exact hL4 h hw (lv_sub hl [1, 2, 3, 0] rfl)
set_option maxHeartbeats 4000000 in
set_option maxRecDepth 100000 in
theorem w_X5_letterBits_4 {Q : Int32 → MI → MJ → Prop} (C : gC RX5 cX5_letterBits 4 (some .int) 66 ad cy D (xF ad ts) p s m args meth c) {k : Nat} (hk : isLex k) {kL4 : Int32 × Int32 × Int32 × MI × MJ → Prop} (hL4 : ∀ {x1 : Int32} {x2 : Int32} {x3 : Int32} {I : MI} {J : MJ} {H : Heap} {locs : List Loc} {ls : Array Slot}, kL4 (x1, x2, x3, I, J) → gH (xS ad cy) 66 ad D s I J H locs → lv_has ls 4 [(0, .ref (ad k)), (1, .int x1), (2, .int x2), (3, .int x3)] → W p l e rmX5_letterBits s m args below meth c H locs 0 0 (MQ below (gQi (xS ad cy) 66 ad cy D (xF ad ts) Q) args s 0 0 (gA 66 ad)) (F0 m 4 ls [])) {x1 : Int32} {x2 : Int32} {x3 : Int32} {I : MI} {J : MJ} {H : Heap} {locs : List Loc} {ls : Array Slot} (h : P_X5_letterBits_4 k Q kL4 (x1, x2, x3, I, J)) (hw : gH (xS ad cy) 66 ad D s I J H locs) (hl : lv_has ls 4 [(0, .ref (ad k)), (1, .int x1), (2, .int x2), (3, .int x3)]) : W p l e rmX5_letterBits s m args below meth c H locs 0 0 (MQ below (gQi (xS ad cy) 66 ad cy D (xF ad ts) Q) args s 0 0 (gA 66 ad)) (F0 m 4 ls []) := by
  obtain ⟨hx, hb, hC⟩ := id C
  refine lv_iload_n hx hb dX5_letterBits_4 rfl (lv_at hl 3 rfl) ?_
  refine lv_bipush (v := 8) hx hb dX5_letterBits_5 (by decide) ?_
  refine lv_icmp_ge (tgt := 31) hx hb dX5_letterBits_7 (by decide) (fun c7 => ?_) (fun c7 => ?_)
  · have h := h.1 c7
    refine lv_iload_n hx hb dX5_letterBits_31 rfl (lv_at hl 2 rfl) ?_
    exact g_iret C hw h dX5_letterBits_32
  · have h := h.2 c7
    refine lv_aload_n hx hb dX5_letterBits_10 rfl (lv_at hl 0 rfl) ?_
    refine lv_iload_n hx hb dX5_letterBits_11 rfl (lv_at hl 1 rfl) ?_
    refine lv_iload_n hx hb dX5_letterBits_12 rfl (lv_at hl 3 rfl) ?_
    refine g_ci hw (g_rV [.int x1, .int x3] [] C hw (m_X5_amount hk h) k_X5_amount q_RX5_35 (xl_Lex0 hk) ((xs_Lex0 hk) _ _) rfl rfl hl.1 rfl (Nat.le_of_ble_eq_true rfl) ⟨⟨rfl, rfl⟩, Nat.le_of_ble_eq_true rfl, Nat.le_of_ble_eq_true rfl⟩ ⟨Nat.zero_le _, Nat.zero_le _⟩ dX5_letterBits_13) (fun r13 I13 J13 H locs h hw => ?_)
    refine lv_if_le (tgt := 25) hx hb dX5_letterBits_16 (by decide) (fun c16 => ?_) (fun c16 => ?_)
    · have h := h.1 c16
      exact w_X5_letterBits_25 C hk hL4 h hw (lv_sub hl [0, 1, 2, 3] rfl)
    · have h := h.2 c16
      refine lv_iload_n hx hb dX5_letterBits_19 rfl (lv_at hl 2 rfl) ?_
      refine lv_iconst (v := 1) hx hb dX5_letterBits_20 (by decide) ?_
      refine lv_iload_n hx hb dX5_letterBits_21 rfl (lv_at hl 3 rfl) ?_
      refine lv_ishl hx hb dX5_letterBits_22 ?_
      refine lv_ior hx hb dX5_letterBits_23 ?_
      refine lv_istore_n (lv' := [(2, .int (x2 ||| ((1 : Int32) <<< (x3 &&& 31)))), (0, .ref (ad k)), (1, .int x1), (3, .int x3)]) hx hb dX5_letterBits_24 rfl hl (by decide) rfl (fun ls hl => ?_)
      exact w_X5_letterBits_25 C hk hL4 h hw (lv_sub hl [1, 2, 0, 3] rfl)
theorem wl_X5_letterBits_4 {Q : Int32 → MI → MJ → Prop} (C : gC RX5 cX5_letterBits 4 (some .int) 66 ad cy D (xF ad ts) p s m args meth c) {k : Nat} (hk : isLex k) {x1 : Int32} {x2 : Int32} {x3 : Int32} {I : MI} {J : MJ} {H : Heap} {locs : List Loc} {ls : Array Slot} (h : lpx (P_X5_letterBits_4 k Q) (x1, x2, x3, I, J)) (hw : gH (xS ad cy) 66 ad D s I J H locs) (hl : lv_has ls 4 [(0, .ref (ad k)), (1, .int x1), (2, .int x2), (3, .int x3)]) : W p l e rmX5_letterBits s m args below meth c H locs 0 0 (MQ below (gQi (xS ad cy) 66 ad cy D (xF ad ts) Q) args s 0 0 (gA 66 ad)) (F0 m 4 ls []) := by
  obtain ⟨n, h⟩ := h
  induction n generalizing x1 x2 x3 I J H locs ls with
  | zero => exact False.elim h
  | succ n ih => exact w_X5_letterBits_4 C hk (fun hk9 hw9 hl9 => ih hw9 hl9 hk9) h hw hl
set_option maxHeartbeats 4000000 in
set_option maxRecDepth 100000 in
theorem w_X5_letterBits {Q : Int32 → MI → MJ → Prop} (C : gC RX5 cX5_letterBits 4 (some .int) 66 ad cy D (xF ad ts) p s m args meth c) {k : Nat} (hk : isLex k) {a0 : Int32} {I : MI} {J : MJ} {H : Heap} {locs : List Loc} {ls : Array Slot} (h : P_X5_letterBits k a0 I J Q) (hw : gH (xS ad cy) 66 ad D s I J H locs) (hl : lv_has ls 4 [(0, .ref (ad k)), (1, .int a0)]) : W p l e rmX5_letterBits s m args below meth c H locs 0 0 (MQ below (gQi (xS ad cy) 66 ad cy D (xF ad ts) Q) args s 0 0 (gA 66 ad)) (F0 m 0 ls []) := by
  obtain ⟨hx, hb, hC⟩ := id C
  refine lv_iconst (v := 0) hx hb dX5_letterBits_0 (by decide) ?_
  refine lv_istore_n (lv' := [(2, .int (0 : Int32)), (0, .ref (ad k)), (1, .int a0)]) hx hb dX5_letterBits_1 rfl hl (by decide) rfl (fun ls hl => ?_)
  refine lv_iconst (v := 0) hx hb dX5_letterBits_2 (by decide) ?_
  refine lv_istore_n (lv' := [(3, .int (0 : Int32)), (2, .int (0 : Int32)), (0, .ref (ad k)), (1, .int a0)]) hx hb dX5_letterBits_3 rfl hl (by decide) rfl (fun ls hl => ?_)
  exact wl_X5_letterBits_4 C hk h hw (lv_sub hl [2, 3, 1, 0] rfl)
theorem m_X5_letterBits {l : Launch} {k : Nat} (hk : isLex k) {a0 : Int32} {Q : Int32 → MI → MJ → Prop} {I : MI} {J : MJ} (h : P_X5_letterBits k a0 I J Q) : Met l yX5_letterBits (xws yX5_letterBits cX5_letterBits 4 (some .int)) rmX5_letterBits (va_Pc [.ref (ad k), .int a0] (gB (xS ad cy) 66 ad cy D (xF ad ts) I J)) (gQi (xS ad cy) 66 ad cy D (xF ad ts) Q) 0 0 (gA 66 ad) :=
  g_met (xF_ok ad ts) rfl (by decide) (Nat.le_of_ble_eq_true rfl) (fun p e s m below meth c ls C hw hl => w_X5_letterBits C hk h hw hl)
/-! BagPhrases.word(II)I -/
def P_X11_word (a0 : Int32) (a1 : Int32) (I : MI) (J : MJ) (Q : Int32 → MI → MJ → Prop) : Prop :=
  P_X5_has 12 a0 I J (fun r5 I5 J5 => ((¬ r5 = 0 → ((a1 = 0 → vp_in a0 10 ∧ (Q (I5 14 a0.toNatClampNeg) I5 J5)) ∧ (¬ a1 = 0 → ((a1 = 1 → vp_in a0 10 ∧ (Q (I5 13 a0.toNatClampNeg) I5 J5)) ∧ (¬ a1 = 1 → ((a1 = 2 → vp_in a0 10 ∧ (Q (I5 19 a0.toNatClampNeg) I5 J5)) ∧ (¬ a1 = 2 → ((a1 = 3 → Q (((I5 17 5) >>> (a0 &&& 31)) &&& (1 : Int32)) I5 J5) ∧ (¬ a1 = 3 → ((a1 = 4 → P_X5_rarest 12 a0 I5 J5 (fun r107 I107 J107 => Q r107 I107 J107)) ∧ (¬ a1 = 4 → ((a1 = 5 → P_X5_twins 12 a0 I5 J5 (fun r116 I116 J116 => Q r116 I116 J116)) ∧ (¬ a1 = 5 → ((a1 = 6 → P_X11_makings a0 I5 J5 (fun r122 I122 J122 => Q r122 I122 J122)) ∧ (¬ a1 = 6 → ((a1 = 7 → P_X5_letterBits 12 a0 I5 J5 (fun r131 I131 J131 => Q r131 I131 J131)) ∧ (¬ a1 = 7 → Q (-2 : Int32) I5 J5))))))))))))))))) ∧ (r5 = 0 → Q (-1 : Int32) I5 J5)))
abbrev rmX11_word : Room := { frames := 3, cells := 0, slots := 0, locals := 69 }
set_option maxHeartbeats 4000000 in
set_option maxRecDepth 100000 in
theorem w_X11_word {Q : Int32 → MI → MJ → Prop} (C : gC RX11 cX11_word 3 (some .int) 66 ad cy D (xF ad ts) p s m args meth c) {a0 : Int32} {a1 : Int32} {I : MI} {J : MJ} {H : Heap} {locs : List Loc} {ls : Array Slot} (h : P_X11_word a0 a1 I J Q) (hw : gH (xS ad cy) 66 ad D s I J H locs) (hl : lv_has ls 3 [(0, .ref (ad 0)), (1, .int a0), (2, .int a1)]) : W p l e rmX11_word s m args below meth c H locs 0 0 (MQ below (gQi (xS ad cy) 66 ad cy D (xF ad ts) Q) args s 0 0 (gA 66 ad)) (F0 m 0 ls []) := by
  obtain ⟨hx, hb, hC⟩ := id C
  refine lv_aload_n hx hb dX11_word_0 rfl (lv_at hl 0 rfl) ?_
  refine g_get C hw f_RX11_19 xl_0 (xs_0 _ _) rfl dX11_word_1 ?_
  refine lv_iload_n hx hb dX11_word_4 rfl (lv_at hl 1 rfl) ?_
  refine g_cz hw (g_rV [.int a0] [] C hw (m_X5_has isLex_12 h) k_X5_has q_RX11_149 xl_12 (xs_12 _ _) rfl rfl hl.1 rfl (Nat.le_of_ble_eq_true rfl) ⟨⟨rfl, rfl⟩, Nat.le_of_ble_eq_true rfl, Nat.le_of_ble_eq_true rfl⟩ ⟨Nat.zero_le _, Nat.zero_le _⟩ dX11_word_5) (fun r5 I5 J5 H locs z5 h hw => ?_)
  refine lv_if_ne (tgt := 13) hx hb dX11_word_8 (by decide) (fun c8 => ?_) (fun c8 => ?_)
  · have h := h.1 c8
    refine lv_iload_n hx hb dX11_word_13 rfl (lv_at hl 2 rfl) ?_
    rcases Classical.em (a1 = 0) with c14_0 | c14_0
    · have h := h.1 c14_0
      refine lv_tableIn (off := 46) (tgt := 60) hx hb dX11_word_14 (by rw [c14_0]; decide) (by rw [c14_0]; decide) (by rw [c14_0]; rfl) (by decide) ?_
      refine lv_aload_n hx hb dX11_word_60 rfl (lv_at hl 0 rfl) ?_
      refine g_get C hw f_RX11_19 xl_0 (xs_0 _ _) rfl dX11_word_61 ?_
      refine g_get C hw f_RX11_152 xl_12 (xs_12 _ _) rfl dX11_word_64 ?_
      refine lv_iload_n hx hb dX11_word_67 rfl (lv_at hl 1 rfl) ?_
      refine g_iald C hw xl_14 xs_14 h.1 dX11_word_68 ?_
      have h := h.2
      exact g_iret C hw h dX11_word_69
    have h := h.2 c14_0
    rcases Classical.em (a1 = 1) with c14_1 | c14_1
    · have h := h.1 c14_1
      refine lv_tableIn (off := 56) (tgt := 70) hx hb dX11_word_14 (by rw [c14_1]; decide) (by rw [c14_1]; decide) (by rw [c14_1]; rfl) (by decide) ?_
      refine lv_aload_n hx hb dX11_word_70 rfl (lv_at hl 0 rfl) ?_
      refine g_get C hw f_RX11_19 xl_0 (xs_0 _ _) rfl dX11_word_71 ?_
      refine g_get C hw f_RX11_155 xl_12 (xs_12 _ _) rfl dX11_word_74 ?_
      refine lv_iload_n hx hb dX11_word_77 rfl (lv_at hl 1 rfl) ?_
      refine g_iald C hw xl_13 xs_13 h.1 dX11_word_78 ?_
      have h := h.2
      exact g_iret C hw h dX11_word_79
    have h := h.2 c14_1
    rcases Classical.em (a1 = 2) with c14_2 | c14_2
    · have h := h.1 c14_2
      refine lv_tableIn (off := 66) (tgt := 80) hx hb dX11_word_14 (by rw [c14_2]; decide) (by rw [c14_2]; decide) (by rw [c14_2]; rfl) (by decide) ?_
      refine lv_aload_n hx hb dX11_word_80 rfl (lv_at hl 0 rfl) ?_
      refine g_get C hw f_RX11_26 xl_0 (xs_0 _ _) rfl dX11_word_81 ?_
      refine g_get C hw f_RX11_158 xl_17 (xs_17 _ _) rfl dX11_word_84 ?_
      refine lv_iload_n hx hb dX11_word_87 rfl (lv_at hl 1 rfl) ?_
      refine g_iald C hw xl_19 xs_19 h.1 dX11_word_88 ?_
      have h := h.2
      exact g_iret C hw h dX11_word_89
    have h := h.2 c14_2
    rcases Classical.em (a1 = 3) with c14_3 | c14_3
    · have h := h.1 c14_3
      refine lv_tableIn (off := 76) (tgt := 90) hx hb dX11_word_14 (by rw [c14_3]; decide) (by rw [c14_3]; decide) (by rw [c14_3]; rfl) (by decide) ?_
      refine lv_aload_n hx hb dX11_word_90 rfl (lv_at hl 0 rfl) ?_
      refine g_get C hw f_RX11_26 xl_0 (xs_0 _ _) rfl dX11_word_91 ?_
      refine g_get C hw f_RX11_128 xl_17 (xs_17 _ _) rfl dX11_word_94 ?_
      refine lv_iload_n hx hb dX11_word_97 rfl (lv_at hl 1 rfl) ?_
      refine lv_ishr hx hb dX11_word_98 ?_
      refine lv_iconst (v := 1) hx hb dX11_word_99 (by decide) ?_
      refine lv_iand hx hb dX11_word_100 ?_
      exact g_iret C hw h dX11_word_101
    have h := h.2 c14_3
    rcases Classical.em (a1 = 4) with c14_4 | c14_4
    · have h := h.1 c14_4
      refine lv_tableIn (off := 88) (tgt := 102) hx hb dX11_word_14 (by rw [c14_4]; decide) (by rw [c14_4]; decide) (by rw [c14_4]; rfl) (by decide) ?_
      refine lv_aload_n hx hb dX11_word_102 rfl (lv_at hl 0 rfl) ?_
      refine g_get C hw f_RX11_19 xl_0 (xs_0 _ _) rfl dX11_word_103 ?_
      refine lv_iload_n hx hb dX11_word_106 rfl (lv_at hl 1 rfl) ?_
      refine g_ci hw (g_rV [.int a0] [] C hw (m_X5_rarest isLex_12 h) k_X5_rarest q_RX11_161 xl_12 (xs_12 _ _) rfl rfl hl.1 rfl (Nat.le_of_ble_eq_true rfl) ⟨⟨rfl, rfl⟩, Nat.le_of_ble_eq_true rfl, Nat.le_of_ble_eq_true rfl⟩ ⟨Nat.zero_le _, Nat.zero_le _⟩ dX11_word_107) (fun r107 I107 J107 H locs h hw => ?_)
      exact g_iret C hw h dX11_word_110
    have h := h.2 c14_4
    rcases Classical.em (a1 = 5) with c14_5 | c14_5
    · have h := h.1 c14_5
      refine lv_tableIn (off := 97) (tgt := 111) hx hb dX11_word_14 (by rw [c14_5]; decide) (by rw [c14_5]; decide) (by rw [c14_5]; rfl) (by decide) ?_
      refine lv_aload_n hx hb dX11_word_111 rfl (lv_at hl 0 rfl) ?_
      refine g_get C hw f_RX11_19 xl_0 (xs_0 _ _) rfl dX11_word_112 ?_
      refine lv_iload_n hx hb dX11_word_115 rfl (lv_at hl 1 rfl) ?_
      refine g_ci hw (g_rV [.int a0] [] C hw (m_X5_twins isLex_12 h) k_X5_twins q_RX11_165 xl_12 (xs_12 _ _) rfl rfl hl.1 rfl (Nat.le_of_ble_eq_true rfl) ⟨⟨rfl, rfl⟩, Nat.le_of_ble_eq_true rfl, Nat.le_of_ble_eq_true rfl⟩ ⟨Nat.zero_le _, Nat.zero_le _⟩ dX11_word_116) (fun r116 I116 J116 H locs h hw => ?_)
      exact g_iret C hw h dX11_word_119
    have h := h.2 c14_5
    rcases Classical.em (a1 = 6) with c14_6 | c14_6
    · have h := h.1 c14_6
      refine lv_tableIn (off := 106) (tgt := 120) hx hb dX11_word_14 (by rw [c14_6]; decide) (by rw [c14_6]; decide) (by rw [c14_6]; rfl) (by decide) ?_
      refine lv_aload_n hx hb dX11_word_120 rfl (lv_at hl 0 rfl) ?_
      refine lv_iload_n hx hb dX11_word_121 rfl (lv_at hl 1 rfl) ?_
      refine g_ci hw (g_rV [.int a0] [] C hw (m_X11_makings h) k_X11_makings q_RX11_168 xl_0 (xs_0 _ _) rfl rfl hl.1 rfl (Nat.le_of_ble_eq_true rfl) ⟨⟨rfl, rfl⟩, Nat.le_of_ble_eq_true rfl, Nat.le_of_ble_eq_true rfl⟩ ⟨Nat.zero_le _, Nat.zero_le _⟩ dX11_word_122) (fun r122 I122 J122 H locs h hw => ?_)
      exact g_iret C hw h dX11_word_125
    have h := h.2 c14_6
    rcases Classical.em (a1 = 7) with c14_7 | c14_7
    · have h := h.1 c14_7
      refine lv_tableIn (off := 112) (tgt := 126) hx hb dX11_word_14 (by rw [c14_7]; decide) (by rw [c14_7]; decide) (by rw [c14_7]; rfl) (by decide) ?_
      refine lv_aload_n hx hb dX11_word_126 rfl (lv_at hl 0 rfl) ?_
      refine g_get C hw f_RX11_19 xl_0 (xs_0 _ _) rfl dX11_word_127 ?_
      refine lv_iload_n hx hb dX11_word_130 rfl (lv_at hl 1 rfl) ?_
      refine g_ci hw (g_rV [.int a0] [] C hw (m_X5_letterBits isLex_12 h) k_X5_letterBits q_RX11_171 xl_12 (xs_12 _ _) rfl rfl hl.1 rfl (Nat.le_of_ble_eq_true rfl) ⟨⟨rfl, rfl⟩, Nat.le_of_ble_eq_true rfl, Nat.le_of_ble_eq_true rfl⟩ ⟨Nat.zero_le _, Nat.zero_le _⟩ dX11_word_131) (fun r131 I131 J131 H locs h hw => ?_)
      exact g_iret C hw h dX11_word_134
    have h := h.2 c14_7
    refine lv_tableOut (tgt := 135) hx hb dX11_word_14 (by have hs0 := toInt_ne c14_0 (show (0 : Int32).toInt = 0 from by decide); have hs1 := toInt_ne c14_1 (show (1 : Int32).toInt = 1 from by decide); have hs2 := toInt_ne c14_2 (show (2 : Int32).toInt = 2 from by decide); have hs3 := toInt_ne c14_3 (show (3 : Int32).toInt = 3 from by decide); have hs4 := toInt_ne c14_4 (show (4 : Int32).toInt = 4 from by decide); have hs5 := toInt_ne c14_5 (show (5 : Int32).toInt = 5 from by decide); have hs6 := toInt_ne c14_6 (show (6 : Int32).toInt = 6 from by decide); have hs7 := toInt_ne c14_7 (show (7 : Int32).toInt = 7 from by decide); omega) (by decide) ?_
    refine lv_bipush (v := -2) hx hb dX11_word_135 (by decide) ?_
    exact g_iret C hw h dX11_word_137
  · have h := h.2 c8
    refine lv_iconst (v := -1) hx hb dX11_word_11 (by decide) ?_
    exact g_iret C hw h dX11_word_12
theorem m_X11_word {l : Launch} {a0 : Int32} {a1 : Int32} {Q : Int32 → MI → MJ → Prop} {I : MI} {J : MJ} (h : P_X11_word a0 a1 I J Q) : Met l yX11_word (xws yX11_word cX11_word 3 (some .int)) rmX11_word (va_Pc [.ref (ad 0), .int a0, .int a1] (gB (xS ad cy) 66 ad cy D (xF ad ts) I J)) (gQi (xS ad cy) 66 ad cy D (xF ad ts) Q) 0 0 (gA 66 ad) :=
  g_met (xF_ok ad ts) rfl (by decide) (Nat.le_of_ble_eq_true rfl) (fun p e s m below meth c ls C hw hl => w_X11_word C  h hw hl)
/-! BagPhrases.letter(II)I -/
def P_X11_letter_21 (Q : Int32 → MI → MJ → Prop) (x1 : Int32) (x2 : Int32) (I : MI) (J : MJ) : Prop :=
  ((x2 = 0 → vp_in x1 8 ∧ (Q (I 18 x1.toNatClampNeg) I J)) ∧ (¬ x2 = 0 → ((x2 = 1 → P_X5_wordsWith 12 x1 I J (fun r63 I63 J63 => Q r63 I63 J63)) ∧ (¬ x2 = 1 → ((x2 = 2 → vp_in x1 4 ∧ (Q (I 20 x1.toNatClampNeg) I J)) ∧ (¬ x2 = 2 → Q (-2 : Int32) I J))))))
def P_X11_letter (a0 : Int32) (a1 : Int32) (I : MI) (J : MJ) (Q : Int32 → MI → MJ → Prop) : Prop :=
  P_X11_isLetter a0 I J (fun r1 I1 J1 => ((r1 = 0 → Q (-1 : Int32) I1 J1) ∧ (¬ r1 = 0 → ((¬ a1 = (2 : Int32) → P_X11_letter_21 Q a0 a1 I1 J1) ∧ (a1 = (2 : Int32) → P_X11_isKind a0 I1 J1 (fun r13 I13 J13 => ((¬ r13 = 0 → P_X11_letter_21 Q a0 a1 I13 J13) ∧ (r13 = 0 → Q (-1 : Int32) I13 J13))))))))
abbrev rmX11_letter : Room := { frames := 2, cells := 0, slots := 0, locals := 45 }
set_option maxHeartbeats 4000000 in
set_option maxRecDepth 100000 in
theorem w_X11_letter_21 {Q : Int32 → MI → MJ → Prop} (C : gC RX11 cX11_letter 3 (some .int) 66 ad cy D (xF ad ts) p s m args meth c) {x1 : Int32} {x2 : Int32} {I : MI} {J : MJ} {H : Heap} {locs : List Loc} {ls : Array Slot} (h : P_X11_letter_21 Q x1 x2 I J) (hw : gH (xS ad cy) 66 ad D s I J H locs) (hl : lv_has ls 3 [(0, .ref (ad 0)), (1, .int x1), (2, .int x2)]) : W p l e rmX11_letter s m args below meth c H locs 0 0 (MQ below (gQi (xS ad cy) 66 ad cy D (xF ad ts) Q) args s 0 0 (gA 66 ad)) (F0 m 21 ls []) := by
  obtain ⟨hx, hb, hC⟩ := id C
  refine lv_iload_n hx hb dX11_letter_21 rfl (lv_at hl 2 rfl) ?_
  rcases Classical.em (x2 = 0) with c22_0 | c22_0
  · have h := h.1 c22_0
    refine lv_tableIn (off := 26) (tgt := 48) hx hb dX11_letter_22 (by rw [c22_0]; decide) (by rw [c22_0]; decide) (by rw [c22_0]; rfl) (by decide) ?_
    refine lv_aload_n hx hb dX11_letter_48 rfl (lv_at hl 0 rfl) ?_
    refine g_get C hw f_RX11_26 xl_0 (xs_0 _ _) rfl dX11_letter_49 ?_
    refine g_get C hw f_RX11_180 xl_17 (xs_17 _ _) rfl dX11_letter_52 ?_
    refine lv_iload_n hx hb dX11_letter_55 rfl (lv_at hl 1 rfl) ?_
    refine g_iald C hw xl_18 xs_18 h.1 dX11_letter_56 ?_
    have h := h.2
    exact g_iret C hw h dX11_letter_57
  have h := h.2 c22_0
  rcases Classical.em (x2 = 1) with c22_1 | c22_1
  · have h := h.1 c22_1
    refine lv_tableIn (off := 36) (tgt := 58) hx hb dX11_letter_22 (by rw [c22_1]; decide) (by rw [c22_1]; decide) (by rw [c22_1]; rfl) (by decide) ?_
    refine lv_aload_n hx hb dX11_letter_58 rfl (lv_at hl 0 rfl) ?_
    refine g_get C hw f_RX11_19 xl_0 (xs_0 _ _) rfl dX11_letter_59 ?_
    refine lv_iload_n hx hb dX11_letter_62 rfl (lv_at hl 1 rfl) ?_
    refine g_ci hw (g_rV [.int x1] [] C hw (m_X5_wordsWith isLex_12 h) k_X5_wordsWith q_RX11_183 xl_12 (xs_12 _ _) rfl rfl hl.1 rfl (Nat.le_of_ble_eq_true rfl) ⟨⟨rfl, rfl⟩, Nat.le_of_ble_eq_true rfl, Nat.le_of_ble_eq_true rfl⟩ ⟨Nat.zero_le _, Nat.zero_le _⟩ dX11_letter_63) (fun r63 I63 J63 H locs h hw => ?_)
    exact g_iret C hw h dX11_letter_66
  have h := h.2 c22_1
  rcases Classical.em (x2 = 2) with c22_2 | c22_2
  · have h := h.1 c22_2
    refine lv_tableIn (off := 45) (tgt := 67) hx hb dX11_letter_22 (by rw [c22_2]; decide) (by rw [c22_2]; decide) (by rw [c22_2]; rfl) (by decide) ?_
    refine lv_aload_n hx hb dX11_letter_67 rfl (lv_at hl 0 rfl) ?_
    refine g_get C hw f_RX11_26 xl_0 (xs_0 _ _) rfl dX11_letter_68 ?_
    refine g_get C hw f_RX11_186 xl_17 (xs_17 _ _) rfl dX11_letter_71 ?_
    refine lv_iload_n hx hb dX11_letter_74 rfl (lv_at hl 1 rfl) ?_
    refine g_iald C hw xl_20 xs_20 h.1 dX11_letter_75 ?_
    have h := h.2
    exact g_iret C hw h dX11_letter_76
  have h := h.2 c22_2
  refine lv_tableOut (tgt := 77) hx hb dX11_letter_22 (by have hs0 := toInt_ne c22_0 (show (0 : Int32).toInt = 0 from by decide); have hs1 := toInt_ne c22_1 (show (1 : Int32).toInt = 1 from by decide); have hs2 := toInt_ne c22_2 (show (2 : Int32).toInt = 2 from by decide); omega) (by decide) ?_
  refine lv_bipush (v := -2) hx hb dX11_letter_77 (by decide) ?_
  exact g_iret C hw h dX11_letter_79
set_option maxHeartbeats 4000000 in
set_option maxRecDepth 100000 in
theorem w_X11_letter {Q : Int32 → MI → MJ → Prop} (C : gC RX11 cX11_letter 3 (some .int) 66 ad cy D (xF ad ts) p s m args meth c) {a0 : Int32} {a1 : Int32} {I : MI} {J : MJ} {H : Heap} {locs : List Loc} {ls : Array Slot} (h : P_X11_letter a0 a1 I J Q) (hw : gH (xS ad cy) 66 ad D s I J H locs) (hl : lv_has ls 3 [(0, .ref (ad 0)), (1, .int a0), (2, .int a1)]) : W p l e rmX11_letter s m args below meth c H locs 0 0 (MQ below (gQi (xS ad cy) 66 ad cy D (xF ad ts) Q) args s 0 0 (gA 66 ad)) (F0 m 0 ls []) := by
  obtain ⟨hx, hb, hC⟩ := id C
  refine lv_iload_n hx hb dX11_letter_0 rfl (lv_at hl 1 rfl) ?_
  refine g_cz hw (g_rS [.int a0] [] C hw (m_X11_isLetter h) k_X11_isLetter q_RX11_174 rfl hl.1 rfl (Nat.le_of_ble_eq_true rfl) ⟨⟨rfl, rfl⟩, Nat.le_of_ble_eq_true rfl, Nat.le_of_ble_eq_true rfl⟩ ⟨Nat.zero_le _, Nat.zero_le _⟩ dX11_letter_1) (fun r1 I1 J1 H locs z1 h hw => ?_)
  refine lv_if_eq (tgt := 19) hx hb dX11_letter_4 (by decide) (fun c4 => ?_) (fun c4 => ?_)
  · have h := h.1 c4
    refine lv_iconst (v := -1) hx hb dX11_letter_19 (by decide) ?_
    exact g_iret C hw h dX11_letter_20
  · have h := h.2 c4
    refine lv_iload_n hx hb dX11_letter_7 rfl (lv_at hl 2 rfl) ?_
    refine lv_iconst (v := 2) hx hb dX11_letter_8 (by decide) ?_
    refine lv_icmp_ne (tgt := 21) hx hb dX11_letter_9 (by decide) (fun c9 => ?_) (fun c9 => ?_)
    · have h := h.1 c9
      exact w_X11_letter_21 C  h hw (lv_sub hl [0, 1, 2] rfl)
    · have h := h.2 c9
      refine lv_iload_n hx hb dX11_letter_12 rfl (lv_at hl 1 rfl) ?_
      refine g_cz hw (g_rS [.int a0] [] C hw (m_X11_isKind h) k_X11_isKind q_RX11_177 rfl hl.1 rfl (Nat.le_of_ble_eq_true rfl) ⟨⟨rfl, rfl⟩, Nat.le_of_ble_eq_true rfl, Nat.le_of_ble_eq_true rfl⟩ ⟨Nat.zero_le _, Nat.zero_le _⟩ dX11_letter_13) (fun r13 I13 J13 H locs z13 h hw => ?_)
      refine lv_if_ne (tgt := 21) hx hb dX11_letter_16 (by decide) (fun c16 => ?_) (fun c16 => ?_)
      · have h := h.1 c16
        exact w_X11_letter_21 C  h hw (lv_sub hl [0, 1, 2] rfl)
      · have h := h.2 c16
        refine lv_iconst (v := -1) hx hb dX11_letter_19 (by decide) ?_
        exact g_iret C hw h dX11_letter_20
theorem m_X11_letter {l : Launch} {a0 : Int32} {a1 : Int32} {Q : Int32 → MI → MJ → Prop} {I : MI} {J : MJ} (h : P_X11_letter a0 a1 I J Q) : Met l yX11_letter (xws yX11_letter cX11_letter 3 (some .int)) rmX11_letter (va_Pc [.ref (ad 0), .int a0, .int a1] (gB (xS ad cy) 66 ad cy D (xF ad ts) I J)) (gQi (xS ad cy) 66 ad cy D (xF ad ts) Q) 0 0 (gA 66 ad) :=
  g_met (xF_ok ad ts) rfl (by decide) (Nat.le_of_ble_eq_true rfl) (fun p e s m below meth c ls C hw hl => w_X11_letter C  h hw hl)
/-! BagPhrases.perform(III)V -/
def P_X11_perform (a0 : Int32) (a1 : Int32) (a2 : Int32) (I : MI) (J : MJ) (Q : MI → MJ → Prop) : Prop :=
  P_X8_change 17 a0 a1 a2 I J (fun I7 J7 => P_X11_outdate I7 J7 (fun I11 J11 => Q I11 J11))
abbrev rmX11_perform : Room := { frames := 2, cells := 0, slots := 0, locals := 40 }
set_option maxHeartbeats 4000000 in
set_option maxRecDepth 100000 in
theorem w_X11_perform {Q : MI → MJ → Prop} (C : gC RX11 cX11_perform 4 none 66 ad cy D (xF ad ts) p s m args meth c) {a0 : Int32} {a1 : Int32} {a2 : Int32} {I : MI} {J : MJ} {H : Heap} {locs : List Loc} {ls : Array Slot} (h : P_X11_perform a0 a1 a2 I J Q) (hw : gH (xS ad cy) 66 ad D s I J H locs) (hl : lv_has ls 4 [(0, .ref (ad 0)), (1, .int a0), (2, .int a1), (3, .int a2)]) : W p l e rmX11_perform s m args below meth c H locs 0 0 (MQ below (gQv (xS ad cy) 66 ad cy D (xF ad ts) Q) args s 0 0 (gA 66 ad)) (F0 m 0 ls []) := by
  obtain ⟨hx, hb, hC⟩ := id C
  refine lv_aload_n hx hb dX11_perform_0 rfl (lv_at hl 0 rfl) ?_
  refine g_get C hw f_RX11_26 xl_0 (xs_0 _ _) rfl dX11_perform_1 ?_
  refine lv_iload_n hx hb dX11_perform_4 rfl (lv_at hl 1 rfl) ?_
  refine lv_iload_n hx hb dX11_perform_5 rfl (lv_at hl 2 rfl) ?_
  refine lv_iload_n hx hb dX11_perform_6 rfl (lv_at hl 3 rfl) ?_
  refine g_cv hw (g_rV [.int a0, .int a1, .int a2] [] C hw (m_X8_change isSet_17 h) k_X8_change q_RX11_279 xl_17 (xs_17 _ _) rfl rfl hl.1 rfl (Nat.le_of_ble_eq_true rfl) ⟨⟨rfl, rfl⟩, Nat.le_of_ble_eq_true rfl, Nat.le_of_ble_eq_true rfl⟩ ⟨Nat.zero_le _, Nat.zero_le _⟩ dX11_perform_7) (fun I7 J7 H locs h hw => ?_)
  refine lv_aload_n hx hb dX11_perform_10 rfl (lv_at hl 0 rfl) ?_
  refine g_cv hw (g_rV [] [] C hw (m_X11_outdate h) k_X11_outdate q_RX11_116 xl_0 (xs_0 _ _) rfl rfl hl.1 rfl (Nat.le_of_ble_eq_true rfl) ⟨⟨rfl, rfl⟩, Nat.le_of_ble_eq_true rfl, Nat.le_of_ble_eq_true rfl⟩ ⟨Nat.zero_le _, Nat.zero_le _⟩ dX11_perform_11) (fun I11 J11 H locs h hw => ?_)
  exact g_vret C hw h dX11_perform_14
theorem m_X11_perform {l : Launch} {a0 : Int32} {a1 : Int32} {a2 : Int32} {Q : MI → MJ → Prop} {I : MI} {J : MJ} (h : P_X11_perform a0 a1 a2 I J Q) : Met l yX11_perform (xws yX11_perform cX11_perform 4 none) rmX11_perform (va_Pc [.ref (ad 0), .int a0, .int a1, .int a2] (gB (xS ad cy) 66 ad cy D (xF ad ts) I J)) (gQv (xS ad cy) 66 ad cy D (xF ad ts) Q) 0 0 (gA 66 ad) :=
  g_met (xF_ok ad ts) rfl (by decide) (Nat.le_of_ble_eq_true rfl) (fun p e s m below meth c ls C hw hl => w_X11_perform C  h hw hl)
/-! BagPhrases$Doings.forgetFirst()V -/
def P_X2_forgetFirst (I : MI) (J : MJ) (Q : MI → MJ → Prop) : Prop :=
  (∀ I3 : MI, I3 = mI I 35 3 (13 : Int32) → (¬ (1 : Int32) < 0 ∧ ¬ (0 : Int32) < 0 ∧ ¬ (I3 35 3) < 0 ∧ (1 : Int32).toNatClampNeg + (I3 35 3).toNatClampNeg ≤ 14 ∧ (0 : Int32).toNatClampNeg + (I3 35 3).toNatClampNeg ≤ 14) ∧ (∀ I20 : MI, I20 = wI I3 36 (va_cpy (I3 36) (I3 36) (1 : Int32).toNatClampNeg (0 : Int32).toNatClampNeg (I3 35 3).toNatClampNeg) → (¬ (1 : Int32) < 0 ∧ ¬ (0 : Int32) < 0 ∧ ¬ (I20 35 3) < 0 ∧ (1 : Int32).toNatClampNeg + (I20 35 3).toNatClampNeg ≤ 14 ∧ (0 : Int32).toNatClampNeg + (I20 35 3).toNatClampNeg ≤ 14) ∧ (∀ I37 : MI, I37 = wI I20 37 (va_cpy (I20 37) (I20 37) (1 : Int32).toNatClampNeg (0 : Int32).toNatClampNeg (I20 35 3).toNatClampNeg) → (¬ (1 : Int32) < 0 ∧ ¬ (0 : Int32) < 0 ∧ ¬ (I37 35 3) < 0 ∧ (1 : Int32).toNatClampNeg + (I37 35 3).toNatClampNeg ≤ 14 ∧ (0 : Int32).toNatClampNeg + (I37 35 3).toNatClampNeg ≤ 14) ∧ (∀ I54 : MI, I54 = wI I37 38 (va_cpy (I37 38) (I37 38) (1 : Int32).toNatClampNeg (0 : Int32).toNatClampNeg (I37 35 3).toNatClampNeg) → Q I54 J))))
abbrev rmX2_forgetFirst : Room := { frames := 1, cells := 0, slots := 0, locals := 38 }
set_option maxHeartbeats 4000000 in
set_option maxRecDepth 100000 in
theorem w_X2_forgetFirst {Q : MI → MJ → Prop} (C : gC RX2 cX2_forgetFirst 1 none 66 ad cy D (xF ad ts) p s m args meth c) {I : MI} {J : MJ} {H : Heap} {locs : List Loc} {ls : Array Slot} (h : P_X2_forgetFirst I J Q) (hw : gH (xS ad cy) 66 ad D s I J H locs) (hl : lv_has ls 1 [(0, .ref (ad 35))]) : W p l e rmX2_forgetFirst s m args below meth c H locs 0 0 (MQ below (gQv (xS ad cy) 66 ad cy D (xF ad ts) Q) args s 0 0 (gA 66 ad)) (F0 m 0 ls []) := by
  obtain ⟨hx, hb, hC⟩ := id C
  refine lv_aload_n hx hb dX2_forgetFirst_0 rfl (lv_at hl 0 rfl) ?_
  refine lv_bipush (v := 13) hx hb dX2_forgetFirst_1 (by decide) ?_
  refine g_putI C hw fp_RX2_21 xl_35 xs_35 (st_2_3 ad _) (Nat.le_of_ble_eq_true rfl) rfl rfl dX2_forgetFirst_3 (fun H locs hw => ?_)
  obtain ⟨I3, e3⟩ : ∃ z : MI, z = mI I 35 3 (13 : Int32) := ⟨_, rfl⟩
  have h := h I3 e3
  rw [← e3] at hw
  refine lv_aload_n hx hb dX2_forgetFirst_6 rfl (lv_at hl 0 rfl) ?_
  refine g_get C hw f_RX2_9 xl_35 (xs_35 _ _) rfl dX2_forgetFirst_7 ?_
  refine lv_iconst (v := 1) hx hb dX2_forgetFirst_10 (by decide) ?_
  refine lv_aload_n hx hb dX2_forgetFirst_11 rfl (lv_at hl 0 rfl) ?_
  refine g_get C hw f_RX2_9 xl_35 (xs_35 _ _) rfl dX2_forgetFirst_12 ?_
  refine lv_iconst (v := 0) hx hb dX2_forgetFirst_15 (by decide) ?_
  refine lv_aload_n hx hb dX2_forgetFirst_16 rfl (lv_at hl 0 rfl) ?_
  refine g_get C hw f_RX2_21 xl_35 (xs_35 _ _) rfl dX2_forgetFirst_17 ?_
  refine g_copyi C hw hl.1 q_RX2_28 qn_copy qs_copy qi_RJ10 xl_36 xs_36 xl_36 xs_36 h.1.1 h.1.2.1 h.1.2.2.1 h.1.2.2.2.1 h.1.2.2.2.2 (Nat.le_of_ble_eq_true rfl) (Nat.le_of_ble_eq_true rfl) dX2_forgetFirst_20 (fun H locs hw => ?_)
  have h := h.2
  obtain ⟨I20, e20⟩ : ∃ z : MI, z = wI I3 36 (va_cpy (I3 36) (I3 36) (1 : Int32).toNatClampNeg (0 : Int32).toNatClampNeg (I3 35 3).toNatClampNeg) := ⟨_, rfl⟩
  have h := h I20 e20
  rw [← e20] at hw
  refine lv_aload_n hx hb dX2_forgetFirst_23 rfl (lv_at hl 0 rfl) ?_
  refine g_get C hw f_RX2_15 xl_35 (xs_35 _ _) rfl dX2_forgetFirst_24 ?_
  refine lv_iconst (v := 1) hx hb dX2_forgetFirst_27 (by decide) ?_
  refine lv_aload_n hx hb dX2_forgetFirst_28 rfl (lv_at hl 0 rfl) ?_
  refine g_get C hw f_RX2_15 xl_35 (xs_35 _ _) rfl dX2_forgetFirst_29 ?_
  refine lv_iconst (v := 0) hx hb dX2_forgetFirst_32 (by decide) ?_
  refine lv_aload_n hx hb dX2_forgetFirst_33 rfl (lv_at hl 0 rfl) ?_
  refine g_get C hw f_RX2_21 xl_35 (xs_35 _ _) rfl dX2_forgetFirst_34 ?_
  refine g_copyi C hw hl.1 q_RX2_28 qn_copy qs_copy qi_RJ10 xl_37 xs_37 xl_37 xs_37 h.1.1 h.1.2.1 h.1.2.2.1 h.1.2.2.2.1 h.1.2.2.2.2 (Nat.le_of_ble_eq_true rfl) (Nat.le_of_ble_eq_true rfl) dX2_forgetFirst_37 (fun H locs hw => ?_)
  have h := h.2
  obtain ⟨I37, e37⟩ : ∃ z : MI, z = wI I20 37 (va_cpy (I20 37) (I20 37) (1 : Int32).toNatClampNeg (0 : Int32).toNatClampNeg (I20 35 3).toNatClampNeg) := ⟨_, rfl⟩
  have h := h I37 e37
  rw [← e37] at hw
  refine lv_aload_n hx hb dX2_forgetFirst_40 rfl (lv_at hl 0 rfl) ?_
  refine g_get C hw f_RX2_18 xl_35 (xs_35 _ _) rfl dX2_forgetFirst_41 ?_
  refine lv_iconst (v := 1) hx hb dX2_forgetFirst_44 (by decide) ?_
  refine lv_aload_n hx hb dX2_forgetFirst_45 rfl (lv_at hl 0 rfl) ?_
  refine g_get C hw f_RX2_18 xl_35 (xs_35 _ _) rfl dX2_forgetFirst_46 ?_
  refine lv_iconst (v := 0) hx hb dX2_forgetFirst_49 (by decide) ?_
  refine lv_aload_n hx hb dX2_forgetFirst_50 rfl (lv_at hl 0 rfl) ?_
  refine g_get C hw f_RX2_21 xl_35 (xs_35 _ _) rfl dX2_forgetFirst_51 ?_
  refine g_copyi C hw hl.1 q_RX2_28 qn_copy qs_copy qi_RJ10 xl_38 xs_38 xl_38 xs_38 h.1.1 h.1.2.1 h.1.2.2.1 h.1.2.2.2.1 h.1.2.2.2.2 (Nat.le_of_ble_eq_true rfl) (Nat.le_of_ble_eq_true rfl) dX2_forgetFirst_54 (fun H locs hw => ?_)
  have h := h.2
  obtain ⟨I54, e54⟩ : ∃ z : MI, z = wI I37 38 (va_cpy (I37 38) (I37 38) (1 : Int32).toNatClampNeg (0 : Int32).toNatClampNeg (I37 35 3).toNatClampNeg) := ⟨_, rfl⟩
  have h := h I54 e54
  rw [← e54] at hw
  exact g_vret C hw h dX2_forgetFirst_57
theorem m_X2_forgetFirst {l : Launch} {Q : MI → MJ → Prop} {I : MI} {J : MJ} (h : P_X2_forgetFirst I J Q) : Met l yX2_forgetFirst (xws yX2_forgetFirst cX2_forgetFirst 1 none) rmX2_forgetFirst (va_Pc [.ref (ad 35)] (gB (xS ad cy) 66 ad cy D (xF ad ts) I J)) (gQv (xS ad cy) 66 ad cy D (xF ad ts) Q) 0 0 (gA 66 ad) :=
  g_met (xF_ok ad ts) rfl (by decide) (Nat.le_of_ble_eq_true rfl) (fun p e s m below meth c ls C hw hl => w_X2_forgetFirst C  h hw hl)
/-! BagPhrases$Doings.note(III)V -/
def P_X2_note_13 (Q : MI → MJ → Prop) (x1 : Int32) (x2 : Int32) (x3 : Int32) (I : MI) (J : MJ) : Prop :=
  vp_in (I 35 3) 14 ∧ (∀ I22 : MI, I22 = mI I 36 (I 35 3).toNatClampNeg x1 → vp_in (I22 35 3) 14 ∧ (∀ I32 : MI, I32 = mI I22 37 (I22 35 3).toNatClampNeg x2 → vp_in (I32 35 3) 14 ∧ (∀ I42 : MI, I42 = mI I32 38 (I32 35 3).toNatClampNeg x3 → (∀ I50 : MI, I50 = mI I42 35 3 ((I42 35 3) + (1 : Int32)) → Q I50 J))))
def P_X2_note (a0 : Int32) (a1 : Int32) (a2 : Int32) (I : MI) (J : MJ) (Q : MI → MJ → Prop) : Prop :=
  (((I 35 3) < (14 : Int32) → P_X2_note_13 Q a0 a1 a2 I J) ∧ (¬ (I 35 3) < (14 : Int32) → P_X2_forgetFirst I J (fun I10 J10 => P_X2_note_13 Q a0 a1 a2 I10 J10)))
abbrev rmX2_note : Room := { frames := 2, cells := 0, slots := 0, locals := 58 }
set_option maxHeartbeats 4000000 in
set_option maxRecDepth 100000 in
theorem w_X2_note_13 {Q : MI → MJ → Prop} (C : gC RX2 cX2_note 4 none 66 ad cy D (xF ad ts) p s m args meth c) {x1 : Int32} {x2 : Int32} {x3 : Int32} {I : MI} {J : MJ} {H : Heap} {locs : List Loc} {ls : Array Slot} (h : P_X2_note_13 Q x1 x2 x3 I J) (hw : gH (xS ad cy) 66 ad D s I J H locs) (hl : lv_has ls 4 [(0, .ref (ad 35)), (1, .int x1), (2, .int x2), (3, .int x3)]) : W p l e rmX2_note s m args below meth c H locs 0 0 (MQ below (gQv (xS ad cy) 66 ad cy D (xF ad ts) Q) args s 0 0 (gA 66 ad)) (F0 m 13 ls []) := by
  obtain ⟨hx, hb, hC⟩ := id C
  refine lv_aload_n hx hb dX2_note_13 rfl (lv_at hl 0 rfl) ?_
  refine g_get C hw f_RX2_9 xl_35 (xs_35 _ _) rfl dX2_note_14 ?_
  refine lv_aload_n hx hb dX2_note_17 rfl (lv_at hl 0 rfl) ?_
  refine g_get C hw f_RX2_21 xl_35 (xs_35 _ _) rfl dX2_note_18 ?_
  refine lv_iload_n hx hb dX2_note_21 rfl (lv_at hl 1 rfl) ?_
  refine g_iast C hw xl_36 xs_36 h.1 dX2_note_22 (fun H locs hw => ?_)
  have h := h.2
  obtain ⟨I22, e22⟩ : ∃ z : MI, z = mI I 36 (I 35 3).toNatClampNeg x1 := ⟨_, rfl⟩
  have h := h I22 e22
  rw [← e22] at hw
  refine lv_aload_n hx hb dX2_note_23 rfl (lv_at hl 0 rfl) ?_
  refine g_get C hw f_RX2_15 xl_35 (xs_35 _ _) rfl dX2_note_24 ?_
  refine lv_aload_n hx hb dX2_note_27 rfl (lv_at hl 0 rfl) ?_
  refine g_get C hw f_RX2_21 xl_35 (xs_35 _ _) rfl dX2_note_28 ?_
  refine lv_iload_n hx hb dX2_note_31 rfl (lv_at hl 2 rfl) ?_
  refine g_iast C hw xl_37 xs_37 h.1 dX2_note_32 (fun H locs hw => ?_)
  have h := h.2
  obtain ⟨I32, e32⟩ : ∃ z : MI, z = mI I22 37 (I22 35 3).toNatClampNeg x2 := ⟨_, rfl⟩
  have h := h I32 e32
  rw [← e32] at hw
  refine lv_aload_n hx hb dX2_note_33 rfl (lv_at hl 0 rfl) ?_
  refine g_get C hw f_RX2_18 xl_35 (xs_35 _ _) rfl dX2_note_34 ?_
  refine lv_aload_n hx hb dX2_note_37 rfl (lv_at hl 0 rfl) ?_
  refine g_get C hw f_RX2_21 xl_35 (xs_35 _ _) rfl dX2_note_38 ?_
  refine lv_iload_n hx hb dX2_note_41 rfl (lv_at hl 3 rfl) ?_
  refine g_iast C hw xl_38 xs_38 h.1 dX2_note_42 (fun H locs hw => ?_)
  have h := h.2
  obtain ⟨I42, e42⟩ : ∃ z : MI, z = mI I32 38 (I32 35 3).toNatClampNeg x3 := ⟨_, rfl⟩
  have h := h I42 e42
  rw [← e42] at hw
  refine lv_aload_n hx hb dX2_note_43 rfl (lv_at hl 0 rfl) ?_
  refine lv_dup hx hb dX2_note_44 rfl ?_
  refine g_get C hw f_RX2_21 xl_35 (xs_35 _ _) rfl dX2_note_45 ?_
  refine lv_iconst (v := 1) hx hb dX2_note_48 (by decide) ?_
  refine lv_iadd hx hb dX2_note_49 ?_
  refine g_putI C hw fp_RX2_21 xl_35 xs_35 (st_2_3 ad _) (Nat.le_of_ble_eq_true rfl) rfl rfl dX2_note_50 (fun H locs hw => ?_)
  obtain ⟨I50, e50⟩ : ∃ z : MI, z = mI I42 35 3 ((I42 35 3) + (1 : Int32)) := ⟨_, rfl⟩
  have h := h I50 e50
  rw [← e50] at hw
  exact g_vret C hw h dX2_note_53
set_option maxHeartbeats 4000000 in
set_option maxRecDepth 100000 in
theorem w_X2_note {Q : MI → MJ → Prop} (C : gC RX2 cX2_note 4 none 66 ad cy D (xF ad ts) p s m args meth c) {a0 : Int32} {a1 : Int32} {a2 : Int32} {I : MI} {J : MJ} {H : Heap} {locs : List Loc} {ls : Array Slot} (h : P_X2_note a0 a1 a2 I J Q) (hw : gH (xS ad cy) 66 ad D s I J H locs) (hl : lv_has ls 4 [(0, .ref (ad 35)), (1, .int a0), (2, .int a1), (3, .int a2)]) : W p l e rmX2_note s m args below meth c H locs 0 0 (MQ below (gQv (xS ad cy) 66 ad cy D (xF ad ts) Q) args s 0 0 (gA 66 ad)) (F0 m 0 ls []) := by
  obtain ⟨hx, hb, hC⟩ := id C
  refine lv_aload_n hx hb dX2_note_0 rfl (lv_at hl 0 rfl) ?_
  refine g_get C hw f_RX2_21 xl_35 (xs_35 _ _) rfl dX2_note_1 ?_
  refine lv_bipush (v := 14) hx hb dX2_note_4 (by decide) ?_
  refine lv_icmp_lt (tgt := 13) hx hb dX2_note_6 (by decide) (fun c6 => ?_) (fun c6 => ?_)
  · have h := h.1 c6
    exact w_X2_note_13 C  h hw (lv_sub hl [0, 1, 2, 3] rfl)
  · have h := h.2 c6
    refine lv_aload_n hx hb dX2_note_9 rfl (lv_at hl 0 rfl) ?_
    refine g_cv hw (g_rV [] [] C hw (m_X2_forgetFirst h) k_X2_forgetFirst q_RX2_25 xl_35 (xs_35 _ _) rfl rfl hl.1 rfl (Nat.le_of_ble_eq_true rfl) ⟨⟨rfl, rfl⟩, Nat.le_of_ble_eq_true rfl, Nat.le_of_ble_eq_true rfl⟩ ⟨Nat.zero_le _, Nat.zero_le _⟩ dX2_note_10) (fun I10 J10 H locs h hw => ?_)
    exact w_X2_note_13 C  h hw (lv_sub hl [0, 1, 2, 3] rfl)
theorem m_X2_note {l : Launch} {a0 : Int32} {a1 : Int32} {a2 : Int32} {Q : MI → MJ → Prop} {I : MI} {J : MJ} (h : P_X2_note a0 a1 a2 I J Q) : Met l yX2_note (xws yX2_note cX2_note 4 none) rmX2_note (va_Pc [.ref (ad 35), .int a0, .int a1, .int a2] (gB (xS ad cy) 66 ad cy D (xF ad ts) I J)) (gQv (xS ad cy) 66 ad cy D (xF ad ts) Q) 0 0 (gA 66 ad) :=
  g_met (xF_ok ad ts) rfl (by decide) (Nat.le_of_ble_eq_true rfl) (fun p e s m below meth c ls C hw hl => w_X2_note C  h hw hl)
/-! BagPhrases.put(I)I -/
def P_X11_put (a0 : Int32) (I : MI) (J : MJ) (Q : Int32 → MI → MJ → Prop) : Prop :=
  P_X11_isLetter a0 I J (fun r1 I1 J1 => ((¬ r1 = 0 → P_X8_letters 17 I1 J1 (fun r13 I13 J13 => ((r13 < (12 : Int32) → P_X11_perform (0 : Int32) a0 (0 : Int32) I13 J13 (fun I28 J28 => P_X2_note (1 : Int32) a0 (0 : Int32) I28 J28 (fun I38 J38 => P_X8_letters 17 I38 J38 (fun r45 I45 J45 => Q r45 I45 J45)))) ∧ (¬ r13 < (12 : Int32) → Q (-4 : Int32) I13 J13)))) ∧ (r1 = 0 → Q (-1 : Int32) I1 J1)))
abbrev rmX11_put : Room := { frames := 3, cells := 0, slots := 0, locals := 81 }
set_option maxHeartbeats 4000000 in
set_option maxRecDepth 100000 in
theorem w_X11_put {Q : Int32 → MI → MJ → Prop} (C : gC RX11 cX11_put 2 (some .int) 66 ad cy D (xF ad ts) p s m args meth c) {a0 : Int32} {I : MI} {J : MJ} {H : Heap} {locs : List Loc} {ls : Array Slot} (h : P_X11_put a0 I J Q) (hw : gH (xS ad cy) 66 ad D s I J H locs) (hl : lv_has ls 2 [(0, .ref (ad 0)), (1, .int a0)]) : W p l e rmX11_put s m args below meth c H locs 0 0 (MQ below (gQi (xS ad cy) 66 ad cy D (xF ad ts) Q) args s 0 0 (gA 66 ad)) (F0 m 0 ls []) := by
  obtain ⟨hx, hb, hC⟩ := id C
  refine lv_iload_n hx hb dX11_put_0 rfl (lv_at hl 1 rfl) ?_
  refine g_cz hw (g_rS [.int a0] [] C hw (m_X11_isLetter h) k_X11_isLetter q_RX11_174 rfl hl.1 rfl (Nat.le_of_ble_eq_true rfl) ⟨⟨rfl, rfl⟩, Nat.le_of_ble_eq_true rfl, Nat.le_of_ble_eq_true rfl⟩ ⟨Nat.zero_le _, Nat.zero_le _⟩ dX11_put_1) (fun r1 I1 J1 H locs z1 h hw => ?_)
  refine lv_if_ne (tgt := 9) hx hb dX11_put_4 (by decide) (fun c4 => ?_) (fun c4 => ?_)
  · have h := h.1 c4
    refine lv_aload_n hx hb dX11_put_9 rfl (lv_at hl 0 rfl) ?_
    refine g_get C hw f_RX11_26 xl_0 (xs_0 _ _) rfl dX11_put_10 ?_
    refine g_ci hw (g_rV [] [] C hw (m_X8_letters isSet_17 h) k_X8_letters q_RX11_122 xl_17 (xs_17 _ _) rfl rfl hl.1 rfl (Nat.le_of_ble_eq_true rfl) ⟨⟨rfl, rfl⟩, Nat.le_of_ble_eq_true rfl, Nat.le_of_ble_eq_true rfl⟩ ⟨Nat.zero_le _, Nat.zero_le _⟩ dX11_put_13) (fun r13 I13 J13 H locs h hw => ?_)
    refine lv_bipush (v := 12) hx hb dX11_put_16 (by decide) ?_
    refine lv_icmp_lt (tgt := 24) hx hb dX11_put_18 (by decide) (fun c18 => ?_) (fun c18 => ?_)
    · have h := h.1 c18
      refine lv_aload_n hx hb dX11_put_24 rfl (lv_at hl 0 rfl) ?_
      refine lv_iconst (v := 0) hx hb dX11_put_25 (by decide) ?_
      refine lv_iload_n hx hb dX11_put_26 rfl (lv_at hl 1 rfl) ?_
      refine lv_iconst (v := 0) hx hb dX11_put_27 (by decide) ?_
      refine g_cv hw (g_rV [.int (0 : Int32), .int a0, .int (0 : Int32)] [] C hw (m_X11_perform h) k_X11_perform q_RX11_189 xl_0 (xs_0 _ _) rfl rfl hl.1 rfl (Nat.le_of_ble_eq_true rfl) ⟨⟨rfl, rfl⟩, Nat.le_of_ble_eq_true rfl, Nat.le_of_ble_eq_true rfl⟩ ⟨Nat.zero_le _, Nat.zero_le _⟩ dX11_put_28) (fun I28 J28 H locs h hw => ?_)
      refine lv_aload_n hx hb dX11_put_31 rfl (lv_at hl 0 rfl) ?_
      refine g_get C hw f_RX11_44 xl_0 (xs_0 _ _) rfl dX11_put_32 ?_
      refine lv_iconst (v := 1) hx hb dX11_put_35 (by decide) ?_
      refine lv_iload_n hx hb dX11_put_36 rfl (lv_at hl 1 rfl) ?_
      refine lv_iconst (v := 0) hx hb dX11_put_37 (by decide) ?_
      refine g_cv hw (g_rV [.int (1 : Int32), .int a0, .int (0 : Int32)] [] C hw (m_X2_note h) k_X2_note q_RX11_193 xl_35 (xs_35 _ _) rfl rfl hl.1 rfl (Nat.le_of_ble_eq_true rfl) ⟨⟨rfl, rfl⟩, Nat.le_of_ble_eq_true rfl, Nat.le_of_ble_eq_true rfl⟩ ⟨Nat.zero_le _, Nat.zero_le _⟩ dX11_put_38) (fun I38 J38 H locs h hw => ?_)
      refine lv_aload_n hx hb dX11_put_41 rfl (lv_at hl 0 rfl) ?_
      refine g_get C hw f_RX11_26 xl_0 (xs_0 _ _) rfl dX11_put_42 ?_
      refine g_ci hw (g_rV [] [] C hw (m_X8_letters isSet_17 h) k_X8_letters q_RX11_122 xl_17 (xs_17 _ _) rfl rfl hl.1 rfl (Nat.le_of_ble_eq_true rfl) ⟨⟨rfl, rfl⟩, Nat.le_of_ble_eq_true rfl, Nat.le_of_ble_eq_true rfl⟩ ⟨Nat.zero_le _, Nat.zero_le _⟩ dX11_put_45) (fun r45 I45 J45 H locs h hw => ?_)
      exact g_iret C hw h dX11_put_48
    · have h := h.2 c18
      refine lv_bipush (v := -4) hx hb dX11_put_21 (by decide) ?_
      exact g_iret C hw h dX11_put_23
  · have h := h.2 c4
    refine lv_iconst (v := -1) hx hb dX11_put_7 (by decide) ?_
    exact g_iret C hw h dX11_put_8
theorem m_X11_put {l : Launch} {a0 : Int32} {Q : Int32 → MI → MJ → Prop} {I : MI} {J : MJ} (h : P_X11_put a0 I J Q) : Met l yX11_put (xws yX11_put cX11_put 2 (some .int)) rmX11_put (va_Pc [.ref (ad 0), .int a0] (gB (xS ad cy) 66 ad cy D (xF ad ts) I J)) (gQi (xS ad cy) 66 ad cy D (xF ad ts) Q) 0 0 (gA 66 ad) :=
  g_met (xF_ok ad ts) rfl (by decide) (Nat.le_of_ble_eq_true rfl) (fun p e s m below meth c ls C hw hl => w_X11_put C  h hw hl)
/-! BagPhrases.take(I)I -/
def P_X11_take (a0 : Int32) (I : MI) (J : MJ) (Q : Int32 → MI → MJ → Prop) : Prop :=
  P_X11_isLetter a0 I J (fun r1 I1 J1 => ((¬ r1 = 0 → vp_in a0 8 ∧ (((¬ (I1 18 a0.toNatClampNeg) = 0 → P_X11_perform (1 : Int32) a0 (0 : Int32) I1 J1 (fun I28 J28 => P_X2_note (0 : Int32) a0 (0 : Int32) I28 J28 (fun I38 J38 => P_X8_letters 17 I38 J38 (fun r45 I45 J45 => Q r45 I45 J45)))) ∧ ((I1 18 a0.toNatClampNeg) = 0 → Q (-3 : Int32) I1 J1)))) ∧ (r1 = 0 → Q (-1 : Int32) I1 J1)))
abbrev rmX11_take : Room := { frames := 3, cells := 0, slots := 0, locals := 81 }
set_option maxHeartbeats 4000000 in
set_option maxRecDepth 100000 in
theorem w_X11_take {Q : Int32 → MI → MJ → Prop} (C : gC RX11 cX11_take 2 (some .int) 66 ad cy D (xF ad ts) p s m args meth c) {a0 : Int32} {I : MI} {J : MJ} {H : Heap} {locs : List Loc} {ls : Array Slot} (h : P_X11_take a0 I J Q) (hw : gH (xS ad cy) 66 ad D s I J H locs) (hl : lv_has ls 2 [(0, .ref (ad 0)), (1, .int a0)]) : W p l e rmX11_take s m args below meth c H locs 0 0 (MQ below (gQi (xS ad cy) 66 ad cy D (xF ad ts) Q) args s 0 0 (gA 66 ad)) (F0 m 0 ls []) := by
  obtain ⟨hx, hb, hC⟩ := id C
  refine lv_iload_n hx hb dX11_take_0 rfl (lv_at hl 1 rfl) ?_
  refine g_cz hw (g_rS [.int a0] [] C hw (m_X11_isLetter h) k_X11_isLetter q_RX11_174 rfl hl.1 rfl (Nat.le_of_ble_eq_true rfl) ⟨⟨rfl, rfl⟩, Nat.le_of_ble_eq_true rfl, Nat.le_of_ble_eq_true rfl⟩ ⟨Nat.zero_le _, Nat.zero_le _⟩ dX11_take_1) (fun r1 I1 J1 H locs z1 h hw => ?_)
  refine lv_if_ne (tgt := 9) hx hb dX11_take_4 (by decide) (fun c4 => ?_) (fun c4 => ?_)
  · have h := h.1 c4
    refine lv_aload_n hx hb dX11_take_9 rfl (lv_at hl 0 rfl) ?_
    refine g_get C hw f_RX11_26 xl_0 (xs_0 _ _) rfl dX11_take_10 ?_
    refine g_get C hw f_RX11_180 xl_17 (xs_17 _ _) rfl dX11_take_13 ?_
    refine lv_iload_n hx hb dX11_take_16 rfl (lv_at hl 1 rfl) ?_
    refine g_iald C hw xl_18 xs_18 h.1 dX11_take_17 ?_
    have h := h.2
    refine lv_if_ne (tgt := 24) hx hb dX11_take_18 (by decide) (fun c18 => ?_) (fun c18 => ?_)
    · have h := h.1 c18
      refine lv_aload_n hx hb dX11_take_24 rfl (lv_at hl 0 rfl) ?_
      refine lv_iconst (v := 1) hx hb dX11_take_25 (by decide) ?_
      refine lv_iload_n hx hb dX11_take_26 rfl (lv_at hl 1 rfl) ?_
      refine lv_iconst (v := 0) hx hb dX11_take_27 (by decide) ?_
      refine g_cv hw (g_rV [.int (1 : Int32), .int a0, .int (0 : Int32)] [] C hw (m_X11_perform h) k_X11_perform q_RX11_189 xl_0 (xs_0 _ _) rfl rfl hl.1 rfl (Nat.le_of_ble_eq_true rfl) ⟨⟨rfl, rfl⟩, Nat.le_of_ble_eq_true rfl, Nat.le_of_ble_eq_true rfl⟩ ⟨Nat.zero_le _, Nat.zero_le _⟩ dX11_take_28) (fun I28 J28 H locs h hw => ?_)
      refine lv_aload_n hx hb dX11_take_31 rfl (lv_at hl 0 rfl) ?_
      refine g_get C hw f_RX11_44 xl_0 (xs_0 _ _) rfl dX11_take_32 ?_
      refine lv_iconst (v := 0) hx hb dX11_take_35 (by decide) ?_
      refine lv_iload_n hx hb dX11_take_36 rfl (lv_at hl 1 rfl) ?_
      refine lv_iconst (v := 0) hx hb dX11_take_37 (by decide) ?_
      refine g_cv hw (g_rV [.int (0 : Int32), .int a0, .int (0 : Int32)] [] C hw (m_X2_note h) k_X2_note q_RX11_193 xl_35 (xs_35 _ _) rfl rfl hl.1 rfl (Nat.le_of_ble_eq_true rfl) ⟨⟨rfl, rfl⟩, Nat.le_of_ble_eq_true rfl, Nat.le_of_ble_eq_true rfl⟩ ⟨Nat.zero_le _, Nat.zero_le _⟩ dX11_take_38) (fun I38 J38 H locs h hw => ?_)
      refine lv_aload_n hx hb dX11_take_41 rfl (lv_at hl 0 rfl) ?_
      refine g_get C hw f_RX11_26 xl_0 (xs_0 _ _) rfl dX11_take_42 ?_
      refine g_ci hw (g_rV [] [] C hw (m_X8_letters isSet_17 h) k_X8_letters q_RX11_122 xl_17 (xs_17 _ _) rfl rfl hl.1 rfl (Nat.le_of_ble_eq_true rfl) ⟨⟨rfl, rfl⟩, Nat.le_of_ble_eq_true rfl, Nat.le_of_ble_eq_true rfl⟩ ⟨Nat.zero_le _, Nat.zero_le _⟩ dX11_take_45) (fun r45 I45 J45 H locs h hw => ?_)
      exact g_iret C hw h dX11_take_48
    · have h := h.2 c18
      refine lv_bipush (v := -3) hx hb dX11_take_21 (by decide) ?_
      exact g_iret C hw h dX11_take_23
  · have h := h.2 c4
    refine lv_iconst (v := -1) hx hb dX11_take_7 (by decide) ?_
    exact g_iret C hw h dX11_take_8
theorem m_X11_take {l : Launch} {a0 : Int32} {Q : Int32 → MI → MJ → Prop} {I : MI} {J : MJ} (h : P_X11_take a0 I J Q) : Met l yX11_take (xws yX11_take cX11_take 2 (some .int)) rmX11_take (va_Pc [.ref (ad 0), .int a0] (gB (xS ad cy) 66 ad cy D (xF ad ts) I J)) (gQi (xS ad cy) 66 ad cy D (xF ad ts) Q) 0 0 (gA 66 ad) :=
  g_met (xF_ok ad ts) rfl (by decide) (Nat.le_of_ble_eq_true rfl) (fun p e s m below meth c ls C hw hl => w_X11_take C  h hw hl)
/-! BagPhrases.bar(I)I -/
def P_X11_bar (a0 : Int32) (I : MI) (J : MJ) (Q : Int32 → MI → MJ → Prop) : Prop :=
  P_X5_has 12 a0 I J (fun r5 I5 J5 => ((¬ r5 = 0 → P_X11_perform (2 : Int32) a0 (0 : Int32) I5 J5 (fun I17 J17 => P_X2_note (2 : Int32) a0 (0 : Int32) I17 J17 (fun I27 J27 => Q (((I27 17 5) >>> (a0 &&& 31)) &&& (1 : Int32)) I27 J27))) ∧ (r5 = 0 → Q (-1 : Int32) I5 J5)))
abbrev rmX11_bar : Room := { frames := 3, cells := 0, slots := 0, locals := 81 }
set_option maxHeartbeats 4000000 in
set_option maxRecDepth 100000 in
theorem w_X11_bar {Q : Int32 → MI → MJ → Prop} (C : gC RX11 cX11_bar 2 (some .int) 66 ad cy D (xF ad ts) p s m args meth c) {a0 : Int32} {I : MI} {J : MJ} {H : Heap} {locs : List Loc} {ls : Array Slot} (h : P_X11_bar a0 I J Q) (hw : gH (xS ad cy) 66 ad D s I J H locs) (hl : lv_has ls 2 [(0, .ref (ad 0)), (1, .int a0)]) : W p l e rmX11_bar s m args below meth c H locs 0 0 (MQ below (gQi (xS ad cy) 66 ad cy D (xF ad ts) Q) args s 0 0 (gA 66 ad)) (F0 m 0 ls []) := by
  obtain ⟨hx, hb, hC⟩ := id C
  refine lv_aload_n hx hb dX11_bar_0 rfl (lv_at hl 0 rfl) ?_
  refine g_get C hw f_RX11_19 xl_0 (xs_0 _ _) rfl dX11_bar_1 ?_
  refine lv_iload_n hx hb dX11_bar_4 rfl (lv_at hl 1 rfl) ?_
  refine g_cz hw (g_rV [.int a0] [] C hw (m_X5_has isLex_12 h) k_X5_has q_RX11_149 xl_12 (xs_12 _ _) rfl rfl hl.1 rfl (Nat.le_of_ble_eq_true rfl) ⟨⟨rfl, rfl⟩, Nat.le_of_ble_eq_true rfl, Nat.le_of_ble_eq_true rfl⟩ ⟨Nat.zero_le _, Nat.zero_le _⟩ dX11_bar_5) (fun r5 I5 J5 H locs z5 h hw => ?_)
  refine lv_if_ne (tgt := 13) hx hb dX11_bar_8 (by decide) (fun c8 => ?_) (fun c8 => ?_)
  · have h := h.1 c8
    refine lv_aload_n hx hb dX11_bar_13 rfl (lv_at hl 0 rfl) ?_
    refine lv_iconst (v := 2) hx hb dX11_bar_14 (by decide) ?_
    refine lv_iload_n hx hb dX11_bar_15 rfl (lv_at hl 1 rfl) ?_
    refine lv_iconst (v := 0) hx hb dX11_bar_16 (by decide) ?_
    refine g_cv hw (g_rV [.int (2 : Int32), .int a0, .int (0 : Int32)] [] C hw (m_X11_perform h) k_X11_perform q_RX11_189 xl_0 (xs_0 _ _) rfl rfl hl.1 rfl (Nat.le_of_ble_eq_true rfl) ⟨⟨rfl, rfl⟩, Nat.le_of_ble_eq_true rfl, Nat.le_of_ble_eq_true rfl⟩ ⟨Nat.zero_le _, Nat.zero_le _⟩ dX11_bar_17) (fun I17 J17 H locs h hw => ?_)
    refine lv_aload_n hx hb dX11_bar_20 rfl (lv_at hl 0 rfl) ?_
    refine g_get C hw f_RX11_44 xl_0 (xs_0 _ _) rfl dX11_bar_21 ?_
    refine lv_iconst (v := 2) hx hb dX11_bar_24 (by decide) ?_
    refine lv_iload_n hx hb dX11_bar_25 rfl (lv_at hl 1 rfl) ?_
    refine lv_iconst (v := 0) hx hb dX11_bar_26 (by decide) ?_
    refine g_cv hw (g_rV [.int (2 : Int32), .int a0, .int (0 : Int32)] [] C hw (m_X2_note h) k_X2_note q_RX11_193 xl_35 (xs_35 _ _) rfl rfl hl.1 rfl (Nat.le_of_ble_eq_true rfl) ⟨⟨rfl, rfl⟩, Nat.le_of_ble_eq_true rfl, Nat.le_of_ble_eq_true rfl⟩ ⟨Nat.zero_le _, Nat.zero_le _⟩ dX11_bar_27) (fun I27 J27 H locs h hw => ?_)
    refine lv_aload_n hx hb dX11_bar_30 rfl (lv_at hl 0 rfl) ?_
    refine g_get C hw f_RX11_26 xl_0 (xs_0 _ _) rfl dX11_bar_31 ?_
    refine g_get C hw f_RX11_128 xl_17 (xs_17 _ _) rfl dX11_bar_34 ?_
    refine lv_iload_n hx hb dX11_bar_37 rfl (lv_at hl 1 rfl) ?_
    refine lv_ishr hx hb dX11_bar_38 ?_
    refine lv_iconst (v := 1) hx hb dX11_bar_39 (by decide) ?_
    refine lv_iand hx hb dX11_bar_40 ?_
    exact g_iret C hw h dX11_bar_41
  · have h := h.2 c8
    refine lv_iconst (v := -1) hx hb dX11_bar_11 (by decide) ?_
    exact g_iret C hw h dX11_bar_12
theorem m_X11_bar {l : Launch} {a0 : Int32} {Q : Int32 → MI → MJ → Prop} {I : MI} {J : MJ} (h : P_X11_bar a0 I J Q) : Met l yX11_bar (xws yX11_bar cX11_bar 2 (some .int)) rmX11_bar (va_Pc [.ref (ad 0), .int a0] (gB (xS ad cy) 66 ad cy D (xF ad ts) I J)) (gQi (xS ad cy) 66 ad cy D (xF ad ts) Q) 0 0 (gA 66 ad) :=
  g_met (xF_ok ad ts) rfl (by decide) (Nat.le_of_ble_eq_true rfl) (fun p e s m below meth c ls C hw hl => w_X11_bar C  h hw hl)
/-! BagPhrases.rank(II)I -/
def P_X11_rank (a0 : Int32) (a1 : Int32) (I : MI) (J : MJ) (Q : Int32 → MI → MJ → Prop) : Prop :=
  P_X5_has 12 a0 I J (fun r5 I5 J5 => ((¬ r5 = 0 → ((a1 < 0 → Q (-2 : Int32) I5 J5) ∧ (¬ a1 < 0 → ((a1 ≤ (9 : Int32) → vp_in a0 10 ∧ (P_X11_perform (3 : Int32) a0 a1 I5 J5 (fun I40 J40 => P_X2_note (3 : Int32) a0 (I5 19 a0.toNatClampNeg) I40 J40 (fun I50 J50 => Q (I5 19 a0.toNatClampNeg) I50 J50)))) ∧ (¬ a1 ≤ (9 : Int32) → Q (-2 : Int32) I5 J5))))) ∧ (r5 = 0 → Q (-1 : Int32) I5 J5)))
abbrev rmX11_rank : Room := { frames := 3, cells := 0, slots := 0, locals := 81 }
set_option maxHeartbeats 4000000 in
set_option maxRecDepth 100000 in
theorem w_X11_rank {Q : Int32 → MI → MJ → Prop} (C : gC RX11 cX11_rank 4 (some .int) 66 ad cy D (xF ad ts) p s m args meth c) {a0 : Int32} {a1 : Int32} {I : MI} {J : MJ} {H : Heap} {locs : List Loc} {ls : Array Slot} (h : P_X11_rank a0 a1 I J Q) (hw : gH (xS ad cy) 66 ad D s I J H locs) (hl : lv_has ls 4 [(0, .ref (ad 0)), (1, .int a0), (2, .int a1)]) : W p l e rmX11_rank s m args below meth c H locs 0 0 (MQ below (gQi (xS ad cy) 66 ad cy D (xF ad ts) Q) args s 0 0 (gA 66 ad)) (F0 m 0 ls []) := by
  obtain ⟨hx, hb, hC⟩ := id C
  refine lv_aload_n hx hb dX11_rank_0 rfl (lv_at hl 0 rfl) ?_
  refine g_get C hw f_RX11_19 xl_0 (xs_0 _ _) rfl dX11_rank_1 ?_
  refine lv_iload_n hx hb dX11_rank_4 rfl (lv_at hl 1 rfl) ?_
  refine g_cz hw (g_rV [.int a0] [] C hw (m_X5_has isLex_12 h) k_X5_has q_RX11_149 xl_12 (xs_12 _ _) rfl rfl hl.1 rfl (Nat.le_of_ble_eq_true rfl) ⟨⟨rfl, rfl⟩, Nat.le_of_ble_eq_true rfl, Nat.le_of_ble_eq_true rfl⟩ ⟨Nat.zero_le _, Nat.zero_le _⟩ dX11_rank_5) (fun r5 I5 J5 H locs z5 h hw => ?_)
  refine lv_if_ne (tgt := 13) hx hb dX11_rank_8 (by decide) (fun c8 => ?_) (fun c8 => ?_)
  · have h := h.1 c8
    refine lv_iload_n hx hb dX11_rank_13 rfl (lv_at hl 2 rfl) ?_
    refine lv_if_lt (tgt := 23) hx hb dX11_rank_14 (by decide) (fun c14 => ?_) (fun c14 => ?_)
    · have h := h.1 c14
      refine lv_bipush (v := -2) hx hb dX11_rank_23 (by decide) ?_
      exact g_iret C hw h dX11_rank_25
    · have h := h.2 c14
      refine lv_iload_n hx hb dX11_rank_17 rfl (lv_at hl 2 rfl) ?_
      refine lv_bipush (v := 9) hx hb dX11_rank_18 (by decide) ?_
      refine lv_icmp_le (tgt := 26) hx hb dX11_rank_20 (by decide) (fun c20 => ?_) (fun c20 => ?_)
      · have h := h.1 c20
        refine lv_aload_n hx hb dX11_rank_26 rfl (lv_at hl 0 rfl) ?_
        refine g_get C hw f_RX11_26 xl_0 (xs_0 _ _) rfl dX11_rank_27 ?_
        refine g_get C hw f_RX11_158 xl_17 (xs_17 _ _) rfl dX11_rank_30 ?_
        refine lv_iload_n hx hb dX11_rank_33 rfl (lv_at hl 1 rfl) ?_
        refine g_iald C hw xl_19 xs_19 h.1 dX11_rank_34 ?_
        have h := h.2
        refine lv_istore_n (lv' := [(3, .int (I5 19 a0.toNatClampNeg)), (0, .ref (ad 0)), (1, .int a0), (2, .int a1)]) hx hb dX11_rank_35 rfl hl (by decide) rfl (fun ls hl => ?_)
        refine lv_aload_n hx hb dX11_rank_36 rfl (lv_at hl 1 rfl) ?_
        refine lv_iconst (v := 3) hx hb dX11_rank_37 (by decide) ?_
        refine lv_iload_n hx hb dX11_rank_38 rfl (lv_at hl 2 rfl) ?_
        refine lv_iload_n hx hb dX11_rank_39 rfl (lv_at hl 3 rfl) ?_
        refine g_cv hw (g_rV [.int (3 : Int32), .int a0, .int a1] [] C hw (m_X11_perform h) k_X11_perform q_RX11_189 xl_0 (xs_0 _ _) rfl rfl hl.1 rfl (Nat.le_of_ble_eq_true rfl) ⟨⟨rfl, rfl⟩, Nat.le_of_ble_eq_true rfl, Nat.le_of_ble_eq_true rfl⟩ ⟨Nat.zero_le _, Nat.zero_le _⟩ dX11_rank_40) (fun I40 J40 H locs h hw => ?_)
        refine lv_aload_n hx hb dX11_rank_43 rfl (lv_at hl 1 rfl) ?_
        refine g_get C hw f_RX11_44 xl_0 (xs_0 _ _) rfl dX11_rank_44 ?_
        refine lv_iconst (v := 3) hx hb dX11_rank_47 (by decide) ?_
        refine lv_iload_n hx hb dX11_rank_48 rfl (lv_at hl 2 rfl) ?_
        refine lv_iload_n hx hb dX11_rank_49 rfl (lv_at hl 0 rfl) ?_
        refine g_cv hw (g_rV [.int (3 : Int32), .int a0, .int (I5 19 a0.toNatClampNeg)] [] C hw (m_X2_note h) k_X2_note q_RX11_193 xl_35 (xs_35 _ _) rfl rfl hl.1 rfl (Nat.le_of_ble_eq_true rfl) ⟨⟨rfl, rfl⟩, Nat.le_of_ble_eq_true rfl, Nat.le_of_ble_eq_true rfl⟩ ⟨Nat.zero_le _, Nat.zero_le _⟩ dX11_rank_50) (fun I50 J50 H locs h hw => ?_)
        refine lv_iload_n hx hb dX11_rank_53 rfl (lv_at hl 0 rfl) ?_
        exact g_iret C hw h dX11_rank_54
      · have h := h.2 c20
        refine lv_bipush (v := -2) hx hb dX11_rank_23 (by decide) ?_
        exact g_iret C hw h dX11_rank_25
  · have h := h.2 c8
    refine lv_iconst (v := -1) hx hb dX11_rank_11 (by decide) ?_
    exact g_iret C hw h dX11_rank_12
theorem m_X11_rank {l : Launch} {a0 : Int32} {a1 : Int32} {Q : Int32 → MI → MJ → Prop} {I : MI} {J : MJ} (h : P_X11_rank a0 a1 I J Q) : Met l yX11_rank (xws yX11_rank cX11_rank 4 (some .int)) rmX11_rank (va_Pc [.ref (ad 0), .int a0, .int a1] (gB (xS ad cy) 66 ad cy D (xF ad ts) I J)) (gQi (xS ad cy) 66 ad cy D (xF ad ts) Q) 0 0 (gA 66 ad) :=
  g_met (xF_ok ad ts) rfl (by decide) (Nat.le_of_ble_eq_true rfl) (fun p e s m below meth c ls C hw hl => w_X11_rank C  h hw hl)
/-! BagPhrases.allow(III)I -/
def P_X11_allow (a0 : Int32) (a1 : Int32) (a2 : Int32) (I : MI) (J : MJ) (Q : Int32 → MI → MJ → Prop) : Prop :=
  P_X11_isKind a1 I J (fun r1 I1 J1 => ((r1 = 0 → Q (-1 : Int32) I1 J1) ∧ (¬ r1 = 0 → P_X11_isKind a2 I1 J1 (fun r8 I8 J8 => ((¬ r8 = 0 → ((a0 < 0 → Q (-2 : Int32) I8 J8) ∧ (¬ a0 < 0 → ((a0 ≤ (2 : Int32) → P_X11_perform ((4 : Int32) + a0) a1 a2 I8 J8 (fun I34 J34 => P_X2_note ((4 : Int32) + a0) a1 a2 I34 J34 (fun I46 J46 => ((a0 = 0 → Q (((I46 17 3) >>> (a1 &&& 31)) &&& (1 : Int32)) I46 J46) ∧ (¬ a0 = 0 → ((a0 = 1 → Q (((I46 17 4) >>> (a1 &&& 31)) &&& (1 : Int32)) I46 J46) ∧ (¬ a0 = 1 → vp_in a1 4 ∧ (Q (((I46 20 a1.toNatClampNeg) >>> (a2 &&& 31)) &&& (1 : Int32)) I46 J46)))))))) ∧ (¬ a0 ≤ (2 : Int32) → Q (-2 : Int32) I8 J8))))) ∧ (r8 = 0 → Q (-1 : Int32) I8 J8))))))
abbrev rmX11_allow : Room := { frames := 3, cells := 0, slots := 0, locals := 81 }
set_option maxHeartbeats 4000000 in
set_option maxRecDepth 100000 in
theorem w_X11_allow {Q : Int32 → MI → MJ → Prop} (C : gC RX11 cX11_allow 4 (some .int) 66 ad cy D (xF ad ts) p s m args meth c) {a0 : Int32} {a1 : Int32} {a2 : Int32} {I : MI} {J : MJ} {H : Heap} {locs : List Loc} {ls : Array Slot} (h : P_X11_allow a0 a1 a2 I J Q) (hw : gH (xS ad cy) 66 ad D s I J H locs) (hl : lv_has ls 4 [(0, .ref (ad 0)), (1, .int a0), (2, .int a1), (3, .int a2)]) : W p l e rmX11_allow s m args below meth c H locs 0 0 (MQ below (gQi (xS ad cy) 66 ad cy D (xF ad ts) Q) args s 0 0 (gA 66 ad)) (F0 m 0 ls []) := by
  obtain ⟨hx, hb, hC⟩ := id C
  refine lv_iload_n hx hb dX11_allow_0 rfl (lv_at hl 2 rfl) ?_
  refine g_cz hw (g_rS [.int a1] [] C hw (m_X11_isKind h) k_X11_isKind q_RX11_177 rfl hl.1 rfl (Nat.le_of_ble_eq_true rfl) ⟨⟨rfl, rfl⟩, Nat.le_of_ble_eq_true rfl, Nat.le_of_ble_eq_true rfl⟩ ⟨Nat.zero_le _, Nat.zero_le _⟩ dX11_allow_1) (fun r1 I1 J1 H locs z1 h hw => ?_)
  refine lv_if_eq (tgt := 14) hx hb dX11_allow_4 (by decide) (fun c4 => ?_) (fun c4 => ?_)
  · have h := h.1 c4
    refine lv_iconst (v := -1) hx hb dX11_allow_14 (by decide) ?_
    exact g_iret C hw h dX11_allow_15
  · have h := h.2 c4
    refine lv_iload_n hx hb dX11_allow_7 rfl (lv_at hl 3 rfl) ?_
    refine g_cz hw (g_rS [.int a2] [] C hw (m_X11_isKind h) k_X11_isKind q_RX11_177 rfl hl.1 rfl (Nat.le_of_ble_eq_true rfl) ⟨⟨rfl, rfl⟩, Nat.le_of_ble_eq_true rfl, Nat.le_of_ble_eq_true rfl⟩ ⟨Nat.zero_le _, Nat.zero_le _⟩ dX11_allow_8) (fun r8 I8 J8 H locs z8 h hw => ?_)
    refine lv_if_ne (tgt := 16) hx hb dX11_allow_11 (by decide) (fun c11 => ?_) (fun c11 => ?_)
    · have h := h.1 c11
      refine lv_iload_n hx hb dX11_allow_16 rfl (lv_at hl 1 rfl) ?_
      refine lv_if_lt (tgt := 25) hx hb dX11_allow_17 (by decide) (fun c17 => ?_) (fun c17 => ?_)
      · have h := h.1 c17
        refine lv_bipush (v := -2) hx hb dX11_allow_25 (by decide) ?_
        exact g_iret C hw h dX11_allow_27
      · have h := h.2 c17
        refine lv_iload_n hx hb dX11_allow_20 rfl (lv_at hl 1 rfl) ?_
        refine lv_iconst (v := 2) hx hb dX11_allow_21 (by decide) ?_
        refine lv_icmp_le (tgt := 28) hx hb dX11_allow_22 (by decide) (fun c22 => ?_) (fun c22 => ?_)
        · have h := h.1 c22
          refine lv_aload_n hx hb dX11_allow_28 rfl (lv_at hl 0 rfl) ?_
          refine lv_iconst (v := 4) hx hb dX11_allow_29 (by decide) ?_
          refine lv_iload_n hx hb dX11_allow_30 rfl (lv_at hl 1 rfl) ?_
          refine lv_iadd hx hb dX11_allow_31 ?_
          refine lv_iload_n hx hb dX11_allow_32 rfl (lv_at hl 2 rfl) ?_
          refine lv_iload_n hx hb dX11_allow_33 rfl (lv_at hl 3 rfl) ?_
          refine g_cv hw (g_rV [.int ((4 : Int32) + a0), .int a1, .int a2] [] C hw (m_X11_perform h) k_X11_perform q_RX11_189 xl_0 (xs_0 _ _) rfl rfl hl.1 rfl (Nat.le_of_ble_eq_true rfl) ⟨⟨rfl, rfl⟩, Nat.le_of_ble_eq_true rfl, Nat.le_of_ble_eq_true rfl⟩ ⟨Nat.zero_le _, Nat.zero_le _⟩ dX11_allow_34) (fun I34 J34 H locs h hw => ?_)
          refine lv_aload_n hx hb dX11_allow_37 rfl (lv_at hl 0 rfl) ?_
          refine g_get C hw f_RX11_44 xl_0 (xs_0 _ _) rfl dX11_allow_38 ?_
          refine lv_iconst (v := 4) hx hb dX11_allow_41 (by decide) ?_
          refine lv_iload_n hx hb dX11_allow_42 rfl (lv_at hl 1 rfl) ?_
          refine lv_iadd hx hb dX11_allow_43 ?_
          refine lv_iload_n hx hb dX11_allow_44 rfl (lv_at hl 2 rfl) ?_
          refine lv_iload_n hx hb dX11_allow_45 rfl (lv_at hl 3 rfl) ?_
          refine g_cv hw (g_rV [.int ((4 : Int32) + a0), .int a1, .int a2] [] C hw (m_X2_note h) k_X2_note q_RX11_193 xl_35 (xs_35 _ _) rfl rfl hl.1 rfl (Nat.le_of_ble_eq_true rfl) ⟨⟨rfl, rfl⟩, Nat.le_of_ble_eq_true rfl, Nat.le_of_ble_eq_true rfl⟩ ⟨Nat.zero_le _, Nat.zero_le _⟩ dX11_allow_46) (fun I46 J46 H locs h hw => ?_)
          refine lv_iload_n hx hb dX11_allow_49 rfl (lv_at hl 1 rfl) ?_
          rcases Classical.em (a0 = 0) with c50_0 | c50_0
          · have h := h.1 c50_0
            refine lv_lookup (off := 26) (tgt := 76) hx hb dX11_allow_50 (by decide) (by rw [c50_0]; decide) (by decide) ?_
            refine lv_aload_n hx hb dX11_allow_76 rfl (lv_at hl 0 rfl) ?_
            refine g_get C hw f_RX11_26 xl_0 (xs_0 _ _) rfl dX11_allow_77 ?_
            refine g_get C hw f_RX11_131 xl_17 (xs_17 _ _) rfl dX11_allow_80 ?_
            refine lv_iload_n hx hb dX11_allow_83 rfl (lv_at hl 2 rfl) ?_
            refine lv_ishr hx hb dX11_allow_84 ?_
            refine lv_iconst (v := 1) hx hb dX11_allow_85 (by decide) ?_
            refine lv_iand hx hb dX11_allow_86 ?_
            exact g_iret C hw h dX11_allow_87
          have h := h.2 c50_0
          rcases Classical.em (a0 = 1) with c50_1 | c50_1
          · have h := h.1 c50_1
            refine lv_lookup (off := 38) (tgt := 88) hx hb dX11_allow_50 (by decide) (by rw [c50_1]; decide) (by decide) ?_
            refine lv_aload_n hx hb dX11_allow_88 rfl (lv_at hl 0 rfl) ?_
            refine g_get C hw f_RX11_26 xl_0 (xs_0 _ _) rfl dX11_allow_89 ?_
            refine g_get C hw f_RX11_134 xl_17 (xs_17 _ _) rfl dX11_allow_92 ?_
            refine lv_iload_n hx hb dX11_allow_95 rfl (lv_at hl 2 rfl) ?_
            refine lv_ishr hx hb dX11_allow_96 ?_
            refine lv_iconst (v := 1) hx hb dX11_allow_97 (by decide) ?_
            refine lv_iand hx hb dX11_allow_98 ?_
            exact g_iret C hw h dX11_allow_99
          have h := h.2 c50_1
          refine lv_lookup (off := 50) (tgt := 100) hx hb dX11_allow_50 (by decide) (by show Op.lookupswitch.offset [(0, 26), (1, 38)] (50) _ = _; rw [lv_osw c50_0 (by decide), lv_osw c50_1 (by decide)]; rfl) (by decide) ?_
          refine lv_aload_n hx hb dX11_allow_100 rfl (lv_at hl 0 rfl) ?_
          refine g_get C hw f_RX11_26 xl_0 (xs_0 _ _) rfl dX11_allow_101 ?_
          refine g_get C hw f_RX11_186 xl_17 (xs_17 _ _) rfl dX11_allow_104 ?_
          refine lv_iload_n hx hb dX11_allow_107 rfl (lv_at hl 2 rfl) ?_
          refine g_iald C hw xl_20 xs_20 h.1 dX11_allow_108 ?_
          have h := h.2
          refine lv_iload_n hx hb dX11_allow_109 rfl (lv_at hl 3 rfl) ?_
          refine lv_ishr hx hb dX11_allow_110 ?_
          refine lv_iconst (v := 1) hx hb dX11_allow_111 (by decide) ?_
          refine lv_iand hx hb dX11_allow_112 ?_
          exact g_iret C hw h dX11_allow_113
        · have h := h.2 c22
          refine lv_bipush (v := -2) hx hb dX11_allow_25 (by decide) ?_
          exact g_iret C hw h dX11_allow_27
    · have h := h.2 c11
      refine lv_iconst (v := -1) hx hb dX11_allow_14 (by decide) ?_
      exact g_iret C hw h dX11_allow_15
theorem m_X11_allow {l : Launch} {a0 : Int32} {a1 : Int32} {a2 : Int32} {Q : Int32 → MI → MJ → Prop} {I : MI} {J : MJ} (h : P_X11_allow a0 a1 a2 I J Q) : Met l yX11_allow (xws yX11_allow cX11_allow 4 (some .int)) rmX11_allow (va_Pc [.ref (ad 0), .int a0, .int a1, .int a2] (gB (xS ad cy) 66 ad cy D (xF ad ts) I J)) (gQi (xS ad cy) 66 ad cy D (xF ad ts) Q) 0 0 (gA 66 ad) :=
  g_met (xF_ok ad ts) rfl (by decide) (Nat.le_of_ble_eq_true rfl) (fun p e s m below meth c ls C hw hl => w_X11_allow C  h hw hl)
/-! BagPhrases$Doings.undoLast(LBagPhrases$Setting;)Z -/
def P_X2_undoLast (w0 : Nat) (I : MI) (J : MJ) (Q : Int32 → MI → MJ → Prop) : Prop :=
  ((0 < (I 35 3) → (∀ I16 : MI, I16 = mI I 35 3 ((I 35 3) - (1 : Int32)) → vp_in (I16 35 3) 14 ∧ (vp_in (I16 35 3) 14 ∧ (vp_in (I16 35 3) 14 ∧ (P_X8_change w0 (I16 36 (I16 35 3).toNatClampNeg) (I16 37 (I16 35 3).toNatClampNeg) (I16 38 (I16 35 3).toNatClampNeg) I16 J (fun I47 J47 => Q (1 : Int32) I47 J47)))))) ∧ (¬ 0 < (I 35 3) → Q (0 : Int32) I J))
abbrev rmX2_undoLast : Room := { frames := 1, cells := 0, slots := 0, locals := 23 }
set_option maxHeartbeats 4000000 in
set_option maxRecDepth 100000 in
theorem w_X2_undoLast {Q : Int32 → MI → MJ → Prop} (C : gC RX2 cX2_undoLast 2 (some .boolean) 66 ad cy D (xF ad ts) p s m args meth c) {w0 : Nat} (hw0 : isSet w0) {I : MI} {J : MJ} {H : Heap} {locs : List Loc} {ls : Array Slot} (h : P_X2_undoLast w0 I J Q) (hw : gH (xS ad cy) 66 ad D s I J H locs) (hl : lv_has ls 2 [(0, .ref (ad 35)), (1, .ref (ad w0))]) : W p l e rmX2_undoLast s m args below meth c H locs 0 0 (MQ below (gQz (xS ad cy) 66 ad cy D (xF ad ts) Q) args s 0 0 (gA 66 ad)) (F0 m 0 ls []) := by
  obtain ⟨hx, hb, hC⟩ := id C
  refine lv_aload_n hx hb dX2_undoLast_0 rfl (lv_at hl 0 rfl) ?_
  refine g_get C hw f_RX2_21 xl_35 (xs_35 _ _) rfl dX2_undoLast_1 ?_
  refine lv_if_gt (tgt := 9) hx hb dX2_undoLast_4 (by decide) (fun c4 => ?_) (fun c4 => ?_)
  · have h := h.1 c4
    refine lv_aload_n hx hb dX2_undoLast_9 rfl (lv_at hl 0 rfl) ?_
    refine lv_dup hx hb dX2_undoLast_10 rfl ?_
    refine g_get C hw f_RX2_21 xl_35 (xs_35 _ _) rfl dX2_undoLast_11 ?_
    refine lv_iconst (v := 1) hx hb dX2_undoLast_14 (by decide) ?_
    refine lv_isub hx hb dX2_undoLast_15 ?_
    refine g_putI C hw fp_RX2_21 xl_35 xs_35 (st_2_3 ad _) (Nat.le_of_ble_eq_true rfl) rfl rfl dX2_undoLast_16 (fun H locs hw => ?_)
    obtain ⟨I16, e16⟩ : ∃ z : MI, z = mI I 35 3 ((I 35 3) - (1 : Int32)) := ⟨_, rfl⟩
    have h := h I16 e16
    rw [← e16] at hw
    refine lv_aload_n hx hb dX2_undoLast_19 rfl (lv_at hl 1 rfl) ?_
    refine lv_aload_n hx hb dX2_undoLast_20 rfl (lv_at hl 0 rfl) ?_
    refine g_get C hw f_RX2_9 xl_35 (xs_35 _ _) rfl dX2_undoLast_21 ?_
    refine lv_aload_n hx hb dX2_undoLast_24 rfl (lv_at hl 0 rfl) ?_
    refine g_get C hw f_RX2_21 xl_35 (xs_35 _ _) rfl dX2_undoLast_25 ?_
    refine g_iald C hw xl_36 xs_36 h.1 dX2_undoLast_28 ?_
    have h := h.2
    refine lv_aload_n hx hb dX2_undoLast_29 rfl (lv_at hl 0 rfl) ?_
    refine g_get C hw f_RX2_15 xl_35 (xs_35 _ _) rfl dX2_undoLast_30 ?_
    refine lv_aload_n hx hb dX2_undoLast_33 rfl (lv_at hl 0 rfl) ?_
    refine g_get C hw f_RX2_21 xl_35 (xs_35 _ _) rfl dX2_undoLast_34 ?_
    refine g_iald C hw xl_37 xs_37 h.1 dX2_undoLast_37 ?_
    have h := h.2
    refine lv_aload_n hx hb dX2_undoLast_38 rfl (lv_at hl 0 rfl) ?_
    refine g_get C hw f_RX2_18 xl_35 (xs_35 _ _) rfl dX2_undoLast_39 ?_
    refine lv_aload_n hx hb dX2_undoLast_42 rfl (lv_at hl 0 rfl) ?_
    refine g_get C hw f_RX2_21 xl_35 (xs_35 _ _) rfl dX2_undoLast_43 ?_
    refine g_iald C hw xl_38 xs_38 h.1 dX2_undoLast_46 ?_
    have h := h.2
    refine g_cv hw (g_rV [.int (I16 36 (I16 35 3).toNatClampNeg), .int (I16 37 (I16 35 3).toNatClampNeg), .int (I16 38 (I16 35 3).toNatClampNeg)] [] C hw (m_X8_change hw0 h) k_X8_change q_RX2_34 (xl_Set0 hw0) ((xs_Set0 hw0) _ _) rfl rfl hl.1 rfl (Nat.le_of_ble_eq_true rfl) ⟨⟨rfl, rfl⟩, Nat.le_of_ble_eq_true rfl, Nat.le_of_ble_eq_true rfl⟩ ⟨Nat.zero_le _, Nat.zero_le _⟩ dX2_undoLast_47) (fun I47 J47 H locs h hw => ?_)
    refine lv_iconst (v := 1) hx hb dX2_undoLast_50 (by decide) ?_
    exact g_zret C hw (by decide) h dX2_undoLast_51
  · have h := h.2 c4
    refine lv_iconst (v := 0) hx hb dX2_undoLast_7 (by decide) ?_
    exact g_zret C hw (by decide) h dX2_undoLast_8
theorem m_X2_undoLast {l : Launch} {w0 : Nat} (hw0 : isSet w0) {Q : Int32 → MI → MJ → Prop} {I : MI} {J : MJ} (h : P_X2_undoLast w0 I J Q) : Met l yX2_undoLast (xws yX2_undoLast cX2_undoLast 2 (some .boolean)) rmX2_undoLast (va_Pc [.ref (ad 35), .ref (ad w0)] (gB (xS ad cy) 66 ad cy D (xF ad ts) I J)) (gQz (xS ad cy) 66 ad cy D (xF ad ts) Q) 0 0 (gA 66 ad) :=
  g_met (xF_ok ad ts) rfl (by decide) (Nat.le_of_ble_eq_true rfl) (fun p e s m below meth c ls C hw hl => w_X2_undoLast C hw0 h hw hl)
/-! BagPhrases.undo()I -/
def P_X11_undo (I : MI) (J : MJ) (Q : Int32 → MI → MJ → Prop) : Prop :=
  P_X2_undoLast 17 I J (fun r8 I8 J8 => ((¬ r8 = 0 → P_X11_outdate I8 J8 (fun I18 J18 => Q (I18 35 3) I18 J18)) ∧ (r8 = 0 → Q (-3 : Int32) I8 J8)))
abbrev rmX11_undo : Room := { frames := 2, cells := 0, slots := 0, locals := 44 }
set_option maxHeartbeats 4000000 in
set_option maxRecDepth 100000 in
theorem w_X11_undo {Q : Int32 → MI → MJ → Prop} (C : gC RX11 cX11_undo 1 (some .int) 66 ad cy D (xF ad ts) p s m args meth c) {I : MI} {J : MJ} {H : Heap} {locs : List Loc} {ls : Array Slot} (h : P_X11_undo I J Q) (hw : gH (xS ad cy) 66 ad D s I J H locs) (hl : lv_has ls 1 [(0, .ref (ad 0))]) : W p l e rmX11_undo s m args below meth c H locs 0 0 (MQ below (gQi (xS ad cy) 66 ad cy D (xF ad ts) Q) args s 0 0 (gA 66 ad)) (F0 m 0 ls []) := by
  obtain ⟨hx, hb, hC⟩ := id C
  refine lv_aload_n hx hb dX11_undo_0 rfl (lv_at hl 0 rfl) ?_
  refine g_get C hw f_RX11_44 xl_0 (xs_0 _ _) rfl dX11_undo_1 ?_
  refine lv_aload_n hx hb dX11_undo_4 rfl (lv_at hl 0 rfl) ?_
  refine g_get C hw f_RX11_26 xl_0 (xs_0 _ _) rfl dX11_undo_5 ?_
  refine g_cz hw (g_rV [.ref (ad 17)] [] C hw (m_X2_undoLast isSet_17 h) k_X2_undoLast q_RX11_196 xl_35 (xs_35 _ _) rfl rfl hl.1 rfl (Nat.le_of_ble_eq_true rfl) ⟨⟨rfl, rfl⟩, Nat.le_of_ble_eq_true rfl, Nat.le_of_ble_eq_true rfl⟩ ⟨Nat.zero_le _, Nat.zero_le _⟩ dX11_undo_8) (fun r8 I8 J8 H locs z8 h hw => ?_)
  refine lv_if_ne (tgt := 17) hx hb dX11_undo_11 (by decide) (fun c11 => ?_) (fun c11 => ?_)
  · have h := h.1 c11
    refine lv_aload_n hx hb dX11_undo_17 rfl (lv_at hl 0 rfl) ?_
    refine g_cv hw (g_rV [] [] C hw (m_X11_outdate h) k_X11_outdate q_RX11_116 xl_0 (xs_0 _ _) rfl rfl hl.1 rfl (Nat.le_of_ble_eq_true rfl) ⟨⟨rfl, rfl⟩, Nat.le_of_ble_eq_true rfl, Nat.le_of_ble_eq_true rfl⟩ ⟨Nat.zero_le _, Nat.zero_le _⟩ dX11_undo_18) (fun I18 J18 H locs h hw => ?_)
    refine lv_aload_n hx hb dX11_undo_21 rfl (lv_at hl 0 rfl) ?_
    refine g_get C hw f_RX11_44 xl_0 (xs_0 _ _) rfl dX11_undo_22 ?_
    refine g_get C hw f_RX11_115 xl_35 (xs_35 _ _) rfl dX11_undo_25 ?_
    exact g_iret C hw h dX11_undo_28
  · have h := h.2 c11
    refine lv_bipush (v := -3) hx hb dX11_undo_14 (by decide) ?_
    exact g_iret C hw h dX11_undo_16
theorem m_X11_undo {l : Launch} {Q : Int32 → MI → MJ → Prop} {I : MI} {J : MJ} (h : P_X11_undo I J Q) : Met l yX11_undo (xws yX11_undo cX11_undo 1 (some .int)) rmX11_undo (va_Pc [.ref (ad 0)] (gB (xS ad cy) 66 ad cy D (xF ad ts) I J)) (gQi (xS ad cy) 66 ad cy D (xF ad ts) Q) 0 0 (gA 66 ad) :=
  g_met (xF_ok ad ts) rfl (by decide) (Nat.le_of_ble_eq_true rfl) (fun p e s m below meth c ls C hw hl => w_X11_undo C  h hw hl)
/-! BagPhrases$Phrases.count()J -/
def P_X6_count (I : MI) (J : MJ) (Q : Int64 → MI → MJ → Prop) : Prop :=
  P_X6_refresh I J (fun I1 J1 => Q (J1 39 11) I1 J1)
abbrev rmX6_count : Room := { frames := 5, cells := 0, slots := 0, locals := 135 }
set_option maxHeartbeats 4000000 in
set_option maxRecDepth 100000 in
theorem w_X6_count {Q : Int64 → MI → MJ → Prop} (C : gC RX6 cX6_count 1 (some .long) 66 ad cy D (xF ad ts) p s m args meth c) {I : MI} {J : MJ} {H : Heap} {locs : List Loc} {ls : Array Slot} (h : P_X6_count I J Q) (hw : gH (xS ad cy) 66 ad D s I J H locs) (hl : lv_has ls 1 [(0, .ref (ad 39))]) : W p l e rmX6_count s m args below meth c H locs 0 0 (MQ below (gQl (xS ad cy) 66 ad cy D (xF ad ts) Q) args s 0 0 (gA 66 ad)) (F0 m 0 ls []) := by
  obtain ⟨hx, hb, hC⟩ := id C
  refine lv_aload_n hx hb dX6_count_0 rfl (lv_at hl 0 rfl) ?_
  refine g_cv hw (g_rV [] [] C hw (m_X6_refresh h) k_X6_refresh q_RX6_96 xl_39 (xs_39 _ _) rfl rfl hl.1 rfl (Nat.le_of_ble_eq_true rfl) ⟨⟨rfl, rfl⟩, Nat.le_of_ble_eq_true rfl, Nat.le_of_ble_eq_true rfl⟩ ⟨Nat.zero_le _, Nat.zero_le _⟩ dX6_count_1) (fun I1 J1 H locs h hw => ?_)
  refine lv_aload_n hx hb dX6_count_4 rfl (lv_at hl 0 rfl) ?_
  refine g_get C hw f_RX6_39 xl_39 (xs_39 _ _) rfl dX6_count_5 ?_
  exact g_lret C hw h dX6_count_8
theorem m_X6_count {l : Launch} {Q : Int64 → MI → MJ → Prop} {I : MI} {J : MJ} (h : P_X6_count I J Q) : Met l yX6_count (xws yX6_count cX6_count 1 (some .long)) rmX6_count (va_Pc [.ref (ad 39)] (gB (xS ad cy) 66 ad cy D (xF ad ts) I J)) (gQl (xS ad cy) 66 ad cy D (xF ad ts) Q) 0 0 (gA 66 ad) :=
  g_met (xF_ok ad ts) rfl (by decide) (Nat.le_of_ble_eq_true rfl) (fun p e s m below meth c ls C hw hl => w_X6_count C  h hw hl)
/-! BagPhrases$Phrases.countOf(I)J -/
def P_X6_countOf_24 (Q : Int64 → MI → MJ → Prop) (I : MI) (J : MJ) : Prop :=
  Q (0 : Int64) I J
def P_X6_countOf (a0 : Int32) (I : MI) (J : MJ) (Q : Int64 → MI → MJ → Prop) : Prop :=
  P_X6_countLengths I J (fun I1 J1 => ((a0 < (1 : Int32) → P_X6_countOf_24 Q I1 J1) ∧ (¬ a0 < (1 : Int32) → (((12 : Int32) < a0 → P_X6_countOf_24 Q I1 J1) ∧ (¬ (12 : Int32) < a0 → vp_in a0 13 ∧ (Q (J1 42 a0.toNatClampNeg) I1 J1))))))
abbrev rmX6_countOf : Room := { frames := 6, cells := 0, slots := 0, locals := 159 }
set_option maxHeartbeats 4000000 in
set_option maxRecDepth 100000 in
theorem w_X6_countOf_24 {Q : Int64 → MI → MJ → Prop} (C : gC RX6 cX6_countOf 2 (some .long) 66 ad cy D (xF ad ts) p s m args meth c) {I : MI} {J : MJ} {H : Heap} {locs : List Loc} {ls : Array Slot} (h : P_X6_countOf_24 Q I J) (hw : gH (xS ad cy) 66 ad D s I J H locs) (hl : lv_has ls 2 []) : W p l e rmX6_countOf s m args below meth c H locs 0 0 (MQ below (gQl (xS ad cy) 66 ad cy D (xF ad ts) Q) args s 0 0 (gA 66 ad)) (F0 m 24 ls []) := by
  obtain ⟨hx, hb, hC⟩ := id C
  refine lv_lconst (v := 0) hx hb dX6_countOf_24 (by decide) ?_
  exact g_lret C hw h dX6_countOf_25
set_option maxHeartbeats 4000000 in
set_option maxRecDepth 100000 in
theorem w_X6_countOf {Q : Int64 → MI → MJ → Prop} (C : gC RX6 cX6_countOf 2 (some .long) 66 ad cy D (xF ad ts) p s m args meth c) {a0 : Int32} {I : MI} {J : MJ} {H : Heap} {locs : List Loc} {ls : Array Slot} (h : P_X6_countOf a0 I J Q) (hw : gH (xS ad cy) 66 ad D s I J H locs) (hl : lv_has ls 2 [(0, .ref (ad 39)), (1, .int a0)]) : W p l e rmX6_countOf s m args below meth c H locs 0 0 (MQ below (gQl (xS ad cy) 66 ad cy D (xF ad ts) Q) args s 0 0 (gA 66 ad)) (F0 m 0 ls []) := by
  obtain ⟨hx, hb, hC⟩ := id C
  refine lv_aload_n hx hb dX6_countOf_0 rfl (lv_at hl 0 rfl) ?_
  refine g_cv hw (g_rV [] [] C hw (m_X6_countLengths h) k_X6_countLengths q_RX6_103 xl_39 (xs_39 _ _) rfl rfl hl.1 rfl (Nat.le_of_ble_eq_true rfl) ⟨⟨rfl, rfl⟩, Nat.le_of_ble_eq_true rfl, Nat.le_of_ble_eq_true rfl⟩ ⟨Nat.zero_le _, Nat.zero_le _⟩ dX6_countOf_1) (fun I1 J1 H locs h hw => ?_)
  refine lv_iload_n hx hb dX6_countOf_4 rfl (lv_at hl 1 rfl) ?_
  refine lv_iconst (v := 1) hx hb dX6_countOf_5 (by decide) ?_
  refine lv_icmp_lt (tgt := 24) hx hb dX6_countOf_6 (by decide) (fun c6 => ?_) (fun c6 => ?_)
  · have h := h.1 c6
    exact w_X6_countOf_24 C  h hw (lv_sub hl [] rfl)
  · have h := h.2 c6
    refine lv_iload_n hx hb dX6_countOf_9 rfl (lv_at hl 1 rfl) ?_
    refine lv_bipush (v := 12) hx hb dX6_countOf_10 (by decide) ?_
    refine lv_icmp_gt (tgt := 24) hx hb dX6_countOf_12 (by decide) (fun c12 => ?_) (fun c12 => ?_)
    · have h := h.1 c12
      exact w_X6_countOf_24 C  h hw (lv_sub hl [] rfl)
    · have h := h.2 c12
      refine lv_aload_n hx hb dX6_countOf_15 rfl (lv_at hl 0 rfl) ?_
      refine g_get C hw f_RX6_22 xl_39 (xs_39 _ _) rfl dX6_countOf_16 ?_
      refine lv_iload_n hx hb dX6_countOf_19 rfl (lv_at hl 1 rfl) ?_
      refine g_lald C hw xl_42 xs_42 h.1 dX6_countOf_20 ?_
      have h := h.2
      refine lv_goto (tgt := 25) hx hb dX6_countOf_21 (by decide) ?_
      exact g_lret C hw h dX6_countOf_25
theorem m_X6_countOf {l : Launch} {a0 : Int32} {Q : Int64 → MI → MJ → Prop} {I : MI} {J : MJ} (h : P_X6_countOf a0 I J Q) : Met l yX6_countOf (xws yX6_countOf cX6_countOf 2 (some .long)) rmX6_countOf (va_Pc [.ref (ad 39), .int a0] (gB (xS ad cy) 66 ad cy D (xF ad ts) I J)) (gQl (xS ad cy) 66 ad cy D (xF ad ts) Q) 0 0 (gA 66 ad) :=
  g_met (xF_ok ad ts) rfl (by decide) (Nat.le_of_ble_eq_true rfl) (fun p e s m below meth c ls C hw hl => w_X6_countOf C  h hw hl)
/-! BagPhrases.many(I)J -/
def P_X11_many_10 (Q : Int64 → MI → MJ → Prop) (I : MI) (J : MJ) : Prop :=
  Q (-2 : Int64) I J
def P_X11_many (a0 : Int32) (I : MI) (J : MJ) (Q : Int64 → MI → MJ → Prop) : Prop :=
  ((a0 < 0 → P_X11_many_10 Q I J) ∧ (¬ a0 < 0 → ((a0 ≤ (12 : Int32) → ((¬ a0 = 0 → P_X6_countOf a0 I J (fun r33 I33 J33 => Q r33 I33 J33)) ∧ (a0 = 0 → P_X6_count I J (fun r22 I22 J22 => Q r22 I22 J22)))) ∧ (¬ a0 ≤ (12 : Int32) → P_X11_many_10 Q I J))))
abbrev rmX11_many : Room := { frames := 7, cells := 0, slots := 0, locals := 180 }
set_option maxHeartbeats 4000000 in
set_option maxRecDepth 100000 in
theorem w_X11_many_10 {Q : Int64 → MI → MJ → Prop} (C : gC RX11 cX11_many 2 (some .long) 66 ad cy D (xF ad ts) p s m args meth c) {I : MI} {J : MJ} {H : Heap} {locs : List Loc} {ls : Array Slot} (h : P_X11_many_10 Q I J) (hw : gH (xS ad cy) 66 ad D s I J H locs) (hl : lv_has ls 2 []) : W p l e rmX11_many s m args below meth c H locs 0 0 (MQ below (gQl (xS ad cy) 66 ad cy D (xF ad ts) Q) args s 0 0 (gA 66 ad)) (F0 m 10 ls []) := by
  obtain ⟨hx, hb, hC⟩ := id C
  refine lv_ldc2 (v := (-2)) hx hb hC.2.2.1 (hC.2.2.2.1 _ q_RX11_200) dX11_many_10 ?_
  exact g_lret C hw h dX11_many_13
set_option maxHeartbeats 4000000 in
set_option maxRecDepth 100000 in
theorem w_X11_many {Q : Int64 → MI → MJ → Prop} (C : gC RX11 cX11_many 2 (some .long) 66 ad cy D (xF ad ts) p s m args meth c) {a0 : Int32} {I : MI} {J : MJ} {H : Heap} {locs : List Loc} {ls : Array Slot} (h : P_X11_many a0 I J Q) (hw : gH (xS ad cy) 66 ad D s I J H locs) (hl : lv_has ls 2 [(0, .ref (ad 0)), (1, .int a0)]) : W p l e rmX11_many s m args below meth c H locs 0 0 (MQ below (gQl (xS ad cy) 66 ad cy D (xF ad ts) Q) args s 0 0 (gA 66 ad)) (F0 m 0 ls []) := by
  obtain ⟨hx, hb, hC⟩ := id C
  refine lv_iload_n hx hb dX11_many_0 rfl (lv_at hl 1 rfl) ?_
  refine lv_if_lt (tgt := 10) hx hb dX11_many_1 (by decide) (fun c1 => ?_) (fun c1 => ?_)
  · have h := h.1 c1
    exact w_X11_many_10 C  h hw (lv_sub hl [] rfl)
  · have h := h.2 c1
    refine lv_iload_n hx hb dX11_many_4 rfl (lv_at hl 1 rfl) ?_
    refine lv_bipush (v := 12) hx hb dX11_many_5 (by decide) ?_
    refine lv_icmp_le (tgt := 14) hx hb dX11_many_7 (by decide) (fun c7 => ?_) (fun c7 => ?_)
    · have h := h.1 c7
      refine lv_iload_n hx hb dX11_many_14 rfl (lv_at hl 1 rfl) ?_
      refine lv_if_ne (tgt := 28) hx hb dX11_many_15 (by decide) (fun c15 => ?_) (fun c15 => ?_)
      · have h := h.1 c15
        refine lv_aload_n hx hb dX11_many_28 rfl (lv_at hl 0 rfl) ?_
        refine g_get C hw f_RX11_53 xl_0 (xs_0 _ _) rfl dX11_many_29 ?_
        refine lv_iload_n hx hb dX11_many_32 rfl (lv_at hl 1 rfl) ?_
        refine g_cl hw (g_rV [.int a0] [] C hw (m_X6_countOf h) k_X6_countOf q_RX11_205 xl_39 (xs_39 _ _) rfl rfl hl.1 rfl (Nat.le_of_ble_eq_true rfl) ⟨⟨rfl, rfl⟩, Nat.le_of_ble_eq_true rfl, Nat.le_of_ble_eq_true rfl⟩ ⟨Nat.zero_le _, Nat.zero_le _⟩ dX11_many_33) (fun r33 I33 J33 H locs h hw => ?_)
        exact g_lret C hw h dX11_many_36
      · have h := h.2 c15
        refine lv_aload_n hx hb dX11_many_18 rfl (lv_at hl 0 rfl) ?_
        refine g_get C hw f_RX11_53 xl_0 (xs_0 _ _) rfl dX11_many_19 ?_
        refine g_cl hw (g_rV [] [] C hw (m_X6_count h) k_X6_count q_RX11_202 xl_39 (xs_39 _ _) rfl rfl hl.1 rfl (Nat.le_of_ble_eq_true rfl) ⟨⟨rfl, rfl⟩, Nat.le_of_ble_eq_true rfl, Nat.le_of_ble_eq_true rfl⟩ ⟨Nat.zero_le _, Nat.zero_le _⟩ dX11_many_22) (fun r22 I22 J22 H locs h hw => ?_)
        refine lv_goto (tgt := 36) hx hb dX11_many_25 (by decide) ?_
        exact g_lret C hw h dX11_many_36
    · have h := h.2 c7
      exact w_X11_many_10 C  h hw (lv_sub hl [] rfl)
theorem m_X11_many {l : Launch} {a0 : Int32} {Q : Int64 → MI → MJ → Prop} {I : MI} {J : MJ} (h : P_X11_many a0 I J Q) : Met l yX11_many (xws yX11_many cX11_many 2 (some .long)) rmX11_many (va_Pc [.ref (ad 0), .int a0] (gB (xS ad cy) 66 ad cy D (xF ad ts) I J)) (gQl (xS ad cy) 66 ad cy D (xF ad ts) Q) 0 0 (gA 66 ad) :=
  g_met (xF_ok ad ts) rfl (by decide) (Nat.le_of_ble_eq_true rfl) (fun p e s m below meth c ls C hw hl => w_X11_many C  h hw hl)
/-! BagPhrases$Phrases.foldWithin(LBagPhrases$Way;I)J -/
def P_X6_foldWithin (w0 : Nat) (a1 : Int32) (I : MI) (J : MJ) (Q : Int64 → MI → MJ → Prop) : Prop :=
  P_X4_ground w0 (sw (I 39 8)) I J (fun I9 J9 => P_X4_fold w0 (sw (I9 39 8)) (sw (I9 39 8)) a1 I9 J9 (fun r26 I26 J26 => Q r26 I26 J26))
abbrev rmX6_foldWithin : Room := { frames := 4, cells := 0, slots := 0, locals := 115 }
set_option maxHeartbeats 4000000 in
set_option maxRecDepth 100000 in
theorem w_X6_foldWithin {Q : Int64 → MI → MJ → Prop} (C : gC RX6 cX6_foldWithin 3 (some .long) 66 ad cy D (xF ad ts) p s m args meth c) {w0 : Nat} (hw0 : isWay w0) {a1 : Int32} {I : MI} {J : MJ} {H : Heap} {locs : List Loc} {ls : Array Slot} (h : P_X6_foldWithin w0 a1 I J Q) (hw : gH (xS ad cy) 66 ad D s I J H locs) (hl : lv_has ls 3 [(0, .ref (ad 39)), (1, .ref (ad w0)), (2, .int a1)]) : W p l e rmX6_foldWithin s m args below meth c H locs 0 0 (MQ below (gQl (xS ad cy) 66 ad cy D (xF ad ts) Q) args s 0 0 (gA 66 ad)) (F0 m 0 ls []) := by
  obtain ⟨hx, hb, hC⟩ := id C
  refine lv_aload_n hx hb dX6_foldWithin_0 rfl (lv_at hl 0 rfl) ?_
  refine g_get C hw f_RX6_63 xl_39 (xs_39 _ _) rfl dX6_foldWithin_1 ?_
  refine lv_aload_n hx hb dX6_foldWithin_4 rfl (lv_at hl 1 rfl) ?_
  refine lv_aload_n hx hb dX6_foldWithin_5 rfl (lv_at hl 0 rfl) ?_
  refine g_get C hw f_RX6_29 xl_39 (xs_39 _ _) rfl dX6_foldWithin_6 ?_
  refine g_cv hw (g_rV [.ref (ad w0), .ref (ad (sw (I 39 8)))] [] C hw (m_X4_ground hw0 (isTl_sw _) h) k_X4_ground q_RX6_84 xl_46 (xs_46 _ _) rfl rfl hl.1 rfl (Nat.le_of_ble_eq_true rfl) ⟨⟨rfl, rfl⟩, Nat.le_of_ble_eq_true rfl, Nat.le_of_ble_eq_true rfl⟩ ⟨Nat.zero_le _, Nat.zero_le _⟩ dX6_foldWithin_9) (fun I9 J9 H locs h hw => ?_)
  refine lv_aload_n hx hb dX6_foldWithin_12 rfl (lv_at hl 0 rfl) ?_
  refine g_get C hw f_RX6_63 xl_39 (xs_39 _ _) rfl dX6_foldWithin_13 ?_
  refine lv_aload_n hx hb dX6_foldWithin_16 rfl (lv_at hl 1 rfl) ?_
  refine lv_iload_n hx hb dX6_foldWithin_17 rfl (lv_at hl 2 rfl) ?_
  refine lv_aload_n hx hb dX6_foldWithin_18 rfl (lv_at hl 0 rfl) ?_
  refine g_get C hw f_RX6_29 xl_39 (xs_39 _ _) rfl dX6_foldWithin_19 ?_
  refine lv_aload_n hx hb dX6_foldWithin_22 rfl (lv_at hl 0 rfl) ?_
  refine g_get C hw f_RX6_29 xl_39 (xs_39 _ _) rfl dX6_foldWithin_23 ?_
  refine g_cl hw (g_rV [.ref (ad w0), .int a1, .ref (ad (sw (I9 39 8))), .ref (ad (sw (I9 39 8)))] [] C hw (m_X4_fold hw0 (isTl_sw _) (isTl_sw _) h) k_X4_fold q_RX6_88 xl_46 (xs_46 _ _) rfl rfl hl.1 rfl (Nat.le_of_ble_eq_true rfl) ⟨⟨rfl, rfl⟩, Nat.le_of_ble_eq_true rfl, Nat.le_of_ble_eq_true rfl⟩ ⟨Nat.zero_le _, Nat.zero_le _⟩ dX6_foldWithin_26) (fun r26 I26 J26 H locs h hw => ?_)
  exact g_lret C hw h dX6_foldWithin_29
theorem m_X6_foldWithin {l : Launch} {w0 : Nat} (hw0 : isWay w0) {a1 : Int32} {Q : Int64 → MI → MJ → Prop} {I : MI} {J : MJ} (h : P_X6_foldWithin w0 a1 I J Q) : Met l yX6_foldWithin (xws yX6_foldWithin cX6_foldWithin 3 (some .long)) rmX6_foldWithin (va_Pc [.ref (ad 39), .ref (ad w0), .int a1] (gB (xS ad cy) 66 ad cy D (xF ad ts) I J)) (gQl (xS ad cy) 66 ad cy D (xF ad ts) Q) 0 0 (gA 66 ad) :=
  g_met (xF_ok ad ts) rfl (by decide) (Nat.le_of_ble_eq_true rfl) (fun p e s m below meth c ls C hw hl => w_X6_foldWithin C hw0 h hw hl)
/-! BagPhrases$Phrases.countWithin(I)J -/
def P_X6_countWithin (a0 : Int32) (I : MI) (J : MJ) (Q : Int64 → MI → MJ → Prop) : Prop :=
  P_X6_refresh I J (fun I1 J1 => P_X6_foldWithin 40 a0 I1 J1 (fun r10 I10 J10 => Q r10 I10 J10))
abbrev rmX6_countWithin : Room := { frames := 5, cells := 0, slots := 0, locals := 137 }
set_option maxHeartbeats 4000000 in
set_option maxRecDepth 100000 in
theorem w_X6_countWithin {Q : Int64 → MI → MJ → Prop} (C : gC RX6 cX6_countWithin 2 (some .long) 66 ad cy D (xF ad ts) p s m args meth c) {a0 : Int32} {I : MI} {J : MJ} {H : Heap} {locs : List Loc} {ls : Array Slot} (h : P_X6_countWithin a0 I J Q) (hw : gH (xS ad cy) 66 ad D s I J H locs) (hl : lv_has ls 2 [(0, .ref (ad 39)), (1, .int a0)]) : W p l e rmX6_countWithin s m args below meth c H locs 0 0 (MQ below (gQl (xS ad cy) 66 ad cy D (xF ad ts) Q) args s 0 0 (gA 66 ad)) (F0 m 0 ls []) := by
  obtain ⟨hx, hb, hC⟩ := id C
  refine lv_aload_n hx hb dX6_countWithin_0 rfl (lv_at hl 0 rfl) ?_
  refine g_cv hw (g_rV [] [] C hw (m_X6_refresh h) k_X6_refresh q_RX6_96 xl_39 (xs_39 _ _) rfl rfl hl.1 rfl (Nat.le_of_ble_eq_true rfl) ⟨⟨rfl, rfl⟩, Nat.le_of_ble_eq_true rfl, Nat.le_of_ble_eq_true rfl⟩ ⟨Nat.zero_le _, Nat.zero_le _⟩ dX6_countWithin_1) (fun I1 J1 H locs h hw => ?_)
  refine lv_aload_n hx hb dX6_countWithin_4 rfl (lv_at hl 0 rfl) ?_
  refine lv_aload_n hx hb dX6_countWithin_5 rfl (lv_at hl 0 rfl) ?_
  refine g_get C hw f_RX6_12 xl_39 (xs_39 _ _) rfl dX6_countWithin_6 ?_
  refine lv_iload_n hx hb dX6_countWithin_9 rfl (lv_at hl 1 rfl) ?_
  refine g_cl hw (g_rV [.ref (ad 40), .int a0] [] C hw (m_X6_foldWithin isWay_40 h) k_X6_foldWithin q_RX6_99 xl_39 (xs_39 _ _) rfl rfl hl.1 rfl (Nat.le_of_ble_eq_true rfl) ⟨⟨rfl, rfl⟩, Nat.le_of_ble_eq_true rfl, Nat.le_of_ble_eq_true rfl⟩ ⟨Nat.zero_le _, Nat.zero_le _⟩ dX6_countWithin_10) (fun r10 I10 J10 H locs h hw => ?_)
  exact g_lret C hw h dX6_countWithin_13
theorem m_X6_countWithin {l : Launch} {a0 : Int32} {Q : Int64 → MI → MJ → Prop} {I : MI} {J : MJ} (h : P_X6_countWithin a0 I J Q) : Met l yX6_countWithin (xws yX6_countWithin cX6_countWithin 2 (some .long)) rmX6_countWithin (va_Pc [.ref (ad 39), .int a0] (gB (xS ad cy) 66 ad cy D (xF ad ts) I J)) (gQl (xS ad cy) 66 ad cy D (xF ad ts) Q) 0 0 (gA 66 ad) :=
  g_met (xF_ok ad ts) rfl (by decide) (Nat.le_of_ble_eq_true rfl) (fun p e s m below meth c ls C hw hl => w_X6_countWithin C  h hw hl)
/-! BagPhrases.having(I)J -/
def P_X11_having (a0 : Int32) (I : MI) (J : MJ) (Q : Int64 → MI → MJ → Prop) : Prop :=
  P_X5_has 12 a0 I J (fun r5 I5 J5 => ((¬ r5 = 0 → P_X6_count I5 J5 (fun r19 I19 J19 => P_X6_countWithin ((1023 : Int32) &&& (((1 : Int32) <<< (a0 &&& 31)) ^^^ (-1 : Int32))) I19 J19 (fun r35 I35 J35 => Q (r19 - r35) I35 J35))) ∧ (r5 = 0 → Q (-1 : Int64) I5 J5)))
abbrev rmX11_having : Room := { frames := 6, cells := 0, slots := 0, locals := 158 }
set_option maxHeartbeats 4000000 in
set_option maxRecDepth 100000 in
theorem w_X11_having {Q : Int64 → MI → MJ → Prop} (C : gC RX11 cX11_having 2 (some .long) 66 ad cy D (xF ad ts) p s m args meth c) {a0 : Int32} {I : MI} {J : MJ} {H : Heap} {locs : List Loc} {ls : Array Slot} (h : P_X11_having a0 I J Q) (hw : gH (xS ad cy) 66 ad D s I J H locs) (hl : lv_has ls 2 [(0, .ref (ad 0)), (1, .int a0)]) : W p l e rmX11_having s m args below meth c H locs 0 0 (MQ below (gQl (xS ad cy) 66 ad cy D (xF ad ts) Q) args s 0 0 (gA 66 ad)) (F0 m 0 ls []) := by
  obtain ⟨hx, hb, hC⟩ := id C
  refine lv_aload_n hx hb dX11_having_0 rfl (lv_at hl 0 rfl) ?_
  refine g_get C hw f_RX11_19 xl_0 (xs_0 _ _) rfl dX11_having_1 ?_
  refine lv_iload_n hx hb dX11_having_4 rfl (lv_at hl 1 rfl) ?_
  refine g_cz hw (g_rV [.int a0] [] C hw (m_X5_has isLex_12 h) k_X5_has q_RX11_149 xl_12 (xs_12 _ _) rfl rfl hl.1 rfl (Nat.le_of_ble_eq_true rfl) ⟨⟨rfl, rfl⟩, Nat.le_of_ble_eq_true rfl, Nat.le_of_ble_eq_true rfl⟩ ⟨Nat.zero_le _, Nat.zero_le _⟩ dX11_having_5) (fun r5 I5 J5 H locs z5 h hw => ?_)
  refine lv_if_ne (tgt := 15) hx hb dX11_having_8 (by decide) (fun c8 => ?_) (fun c8 => ?_)
  · have h := h.1 c8
    refine lv_aload_n hx hb dX11_having_15 rfl (lv_at hl 0 rfl) ?_
    refine g_get C hw f_RX11_53 xl_0 (xs_0 _ _) rfl dX11_having_16 ?_
    refine g_cl hw (g_rV [] [] C hw (m_X6_count h) k_X6_count q_RX11_202 xl_39 (xs_39 _ _) rfl rfl hl.1 rfl (Nat.le_of_ble_eq_true rfl) ⟨⟨rfl, rfl⟩, Nat.le_of_ble_eq_true rfl, Nat.le_of_ble_eq_true rfl⟩ ⟨Nat.zero_le _, Nat.zero_le _⟩ dX11_having_19) (fun r19 I19 J19 H locs h hw => ?_)
    refine lv_aload_n hx hb dX11_having_22 rfl (lv_at hl 0 rfl) ?_
    refine g_get C hw f_RX11_53 xl_0 (xs_0 _ _) rfl dX11_having_23 ?_
    refine lv_sipush (v := 1023) hx hb dX11_having_26 (by decide) ?_
    refine lv_iconst (v := 1) hx hb dX11_having_29 (by decide) ?_
    refine lv_iload_n hx hb dX11_having_30 rfl (lv_at hl 1 rfl) ?_
    refine lv_ishl hx hb dX11_having_31 ?_
    refine lv_iconst (v := -1) hx hb dX11_having_32 (by decide) ?_
    refine lv_ixor hx hb dX11_having_33 ?_
    refine lv_iand hx hb dX11_having_34 ?_
    refine g_cl hw (g_rV [.int ((1023 : Int32) &&& (((1 : Int32) <<< (a0 &&& 31)) ^^^ (-1 : Int32)))] [.long r19] C hw (m_X6_countWithin h) k_X6_countWithin q_RX11_211 xl_39 (xs_39 _ _) rfl rfl hl.1 rfl (Nat.le_of_ble_eq_true rfl) ⟨⟨rfl, rfl⟩, Nat.le_of_ble_eq_true rfl, Nat.le_of_ble_eq_true rfl⟩ ⟨Nat.zero_le _, Nat.zero_le _⟩ dX11_having_35) (fun r35 I35 J35 H locs h hw => ?_)
    refine lv_lsub hx hb dX11_having_38 ?_
    exact g_lret C hw h dX11_having_39
  · have h := h.2 c8
    refine lv_ldc2 (v := (-1)) hx hb hC.2.2.1 (hC.2.2.2.1 _ q_RX11_209) dX11_having_11 ?_
    exact g_lret C hw h dX11_having_14
theorem m_X11_having {l : Launch} {a0 : Int32} {Q : Int64 → MI → MJ → Prop} {I : MI} {J : MJ} (h : P_X11_having a0 I J Q) : Met l yX11_having (xws yX11_having cX11_having 2 (some .long)) rmX11_having (va_Pc [.ref (ad 0), .int a0] (gB (xS ad cy) 66 ad cy D (xF ad ts) I J)) (gQl (xS ad cy) 66 ad cy D (xF ad ts) Q) 0 0 (gA 66 ad) :=
  g_met (xF_ok ad ts) rfl (by decide) (Nat.le_of_ble_eq_true rfl) (fun p e s m below meth c ls C hw hl => w_X11_having C  h hw hl)
/-! BagPhrases$Phrases.reaches(JIII)Z -/
def P_X6_reaches_62 (Q : Int32 → MI → MJ → Prop) (I : MI) (J : MJ) : Prop :=
  Q (0 : Int32) I J
def P_X6_reaches (a0 : Int64) (a1 : Int32) (a2 : Int32) (a3 : Int32) (I : MI) (J : MJ) (Q : Int32 → MI → MJ → Prop) : Prop :=
  P_X4_opens a2 a3 a1 I J (fun r9 I9 J9 => ((¬ r9 = 0 → P_X4_tailBehind (sw (I9 39 8)) a2 a1 I9 J9 (fun r28 I28 J28 => ((r28 < (0 : Int64) → P_X6_reaches_62 Q I28 J28) ∧ (¬ r28 < (0 : Int64) → vp_in a1 10 ∧ (((¬ (r28 + ((I28 19 a1.toNatClampNeg).toInt64)) = a0 → P_X6_reaches_62 Q I28 J28) ∧ ((r28 + ((I28 19 a1.toNatClampNeg).toInt64)) = a0 → Q (1 : Int32) I28 J28))))))) ∧ (r9 = 0 → Q (0 : Int32) I9 J9)))
abbrev rmX6_reaches : Room := { frames := 1, cells := 0, slots := 0, locals := 24 }
set_option maxHeartbeats 4000000 in
set_option maxRecDepth 100000 in
theorem w_X6_reaches_62 {Q : Int32 → MI → MJ → Prop} (C : gC RX6 cX6_reaches 8 (some .boolean) 66 ad cy D (xF ad ts) p s m args meth c) {I : MI} {J : MJ} {H : Heap} {locs : List Loc} {ls : Array Slot} (h : P_X6_reaches_62 Q I J) (hw : gH (xS ad cy) 66 ad D s I J H locs) (hl : lv_has ls 8 []) : W p l e rmX6_reaches s m args below meth c H locs 0 0 (MQ below (gQz (xS ad cy) 66 ad cy D (xF ad ts) Q) args s 0 0 (gA 66 ad)) (F0 m 62 ls []) := by
  obtain ⟨hx, hb, hC⟩ := id C
  refine lv_iconst (v := 0) hx hb dX6_reaches_62 (by decide) ?_
  exact g_zret C hw (by decide) h dX6_reaches_63
set_option maxHeartbeats 4000000 in
set_option maxRecDepth 100000 in
theorem w_X6_reaches {Q : Int32 → MI → MJ → Prop} (C : gC RX6 cX6_reaches 8 (some .boolean) 66 ad cy D (xF ad ts) p s m args meth c) {a0 : Int64} {a1 : Int32} {a2 : Int32} {a3 : Int32} {I : MI} {J : MJ} {H : Heap} {locs : List Loc} {ls : Array Slot} (h : P_X6_reaches a0 a1 a2 a3 I J Q) (hw : gH (xS ad cy) 66 ad D s I J H locs) (hl : lv_has ls 8 [(0, .ref (ad 39)), (1, .long a0), (3, .int a1), (4, .int a2), (5, .int a3)]) : W p l e rmX6_reaches s m args below meth c H locs 0 0 (MQ below (gQz (xS ad cy) 66 ad cy D (xF ad ts) Q) args s 0 0 (gA 66 ad)) (F0 m 0 ls []) := by
  obtain ⟨hx, hb, hC⟩ := id C
  refine lv_aload_n hx hb dX6_reaches_0 rfl (lv_at hl 0 rfl) ?_
  refine g_get C hw f_RX6_63 xl_39 (xs_39 _ _) rfl dX6_reaches_1 ?_
  refine lv_iload hx hb dX6_reaches_4 (lv_at hl 3 rfl) ?_
  refine lv_iload hx hb dX6_reaches_6 (lv_at hl 4 rfl) ?_
  refine lv_iload_n hx hb dX6_reaches_8 rfl (lv_at hl 2 rfl) ?_
  refine g_cz hw (g_rV [.int a2, .int a3, .int a1] [] C hw (m_X4_opens h) k_X4_opens q_RX6_124 xl_46 (xs_46 _ _) rfl rfl hl.1 rfl (Nat.le_of_ble_eq_true rfl) ⟨⟨rfl, rfl⟩, Nat.le_of_ble_eq_true rfl, Nat.le_of_ble_eq_true rfl⟩ ⟨Nat.zero_le _, Nat.zero_le _⟩ dX6_reaches_9) (fun r9 I9 J9 H locs z9 h hw => ?_)
  refine lv_if_ne (tgt := 17) hx hb dX6_reaches_12 (by decide) (fun c12 => ?_) (fun c12 => ?_)
  · have h := h.1 c12
    refine lv_aload_n hx hb dX6_reaches_17 rfl (lv_at hl 0 rfl) ?_
    refine g_get C hw f_RX6_63 xl_39 (xs_39 _ _) rfl dX6_reaches_18 ?_
    refine lv_aload_n hx hb dX6_reaches_21 rfl (lv_at hl 0 rfl) ?_
    refine g_get C hw f_RX6_29 xl_39 (xs_39 _ _) rfl dX6_reaches_22 ?_
    refine lv_iload hx hb dX6_reaches_25 (lv_at hl 3 rfl) ?_
    refine lv_iload_n hx hb dX6_reaches_27 rfl (lv_at hl 2 rfl) ?_
    refine g_cl hw (g_rV [.ref (ad (sw (I9 39 8))), .int a2, .int a1] [] C hw (m_X4_tailBehind (isTl_sw _) h) k_X4_tailBehind q_RX6_128 xl_46 (xs_46 _ _) rfl rfl hl.1 rfl (Nat.le_of_ble_eq_true rfl) ⟨⟨rfl, rfl⟩, Nat.le_of_ble_eq_true rfl, Nat.le_of_ble_eq_true rfl⟩ ⟨Nat.zero_le _, Nat.zero_le _⟩ dX6_reaches_28) (fun r28 I28 J28 H locs h hw => ?_)
    refine lv_lstore (lv' := [(6, .long r28), (0, .ref (ad 39)), (1, .long a0), (3, .int a1), (4, .int a2), (5, .int a3)]) hx hb dX6_reaches_31 hl (by decide) rfl (fun ls hl => ?_)
    refine lv_lload hx hb dX6_reaches_33 (lv_at hl 0 rfl) ?_
    refine lv_lconst (v := 0) hx hb dX6_reaches_35 (by decide) ?_
    refine g_lcmp_lt (tgt := 62) hx hb dX6_reaches_36 dX6_reaches_37 (by decide) (fun c36 => ?_) (fun c36 => ?_)
    · have h := h.1 c36
      exact w_X6_reaches_62 C  h hw (lv_sub hl [] rfl)
    · have h := h.2 c36
      refine lv_lload hx hb dX6_reaches_40 (lv_at hl 0 rfl) ?_
      refine lv_aload_n hx hb dX6_reaches_42 rfl (lv_at hl 1 rfl) ?_
      refine g_get C hw f_RX6_54 xl_39 (xs_39 _ _) rfl dX6_reaches_43 ?_
      refine g_get C hw f_RX6_69 xl_17 (xs_17 _ _) rfl dX6_reaches_46 ?_
      refine lv_iload_n hx hb dX6_reaches_49 rfl (lv_at hl 3 rfl) ?_
      refine g_iald C hw xl_19 xs_19 h.1 dX6_reaches_50 ?_
      have h := h.2
      refine lv_i2l hx hb dX6_reaches_51 rfl ?_
      refine lv_ladd hx hb dX6_reaches_52 ?_
      refine lv_lload_n hx hb dX6_reaches_53 rfl (lv_at hl 2 rfl) ?_
      refine g_lcmp_ne (tgt := 62) hx hb dX6_reaches_54 dX6_reaches_55 (by decide) (fun c54 => ?_) (fun c54 => ?_)
      · have h := h.1 c54
        exact w_X6_reaches_62 C  h hw (lv_sub hl [] rfl)
      · have h := h.2 c54
        refine lv_iconst (v := 1) hx hb dX6_reaches_58 (by decide) ?_
        refine lv_goto (tgt := 63) hx hb dX6_reaches_59 (by decide) ?_
        exact g_zret C hw (by decide) h dX6_reaches_63
  · have h := h.2 c12
    refine lv_iconst (v := 0) hx hb dX6_reaches_15 (by decide) ?_
    exact g_zret C hw (by decide) h dX6_reaches_16
theorem m_X6_reaches {l : Launch} {a0 : Int64} {a1 : Int32} {a2 : Int32} {a3 : Int32} {Q : Int32 → MI → MJ → Prop} {I : MI} {J : MJ} (h : P_X6_reaches a0 a1 a2 a3 I J Q) : Met l yX6_reaches (xws yX6_reaches cX6_reaches 8 (some .boolean)) rmX6_reaches (va_Pc [.ref (ad 39), .long a0, .int a1, .int a2, .int a3] (gB (xS ad cy) 66 ad cy D (xF ad ts) I J)) (gQz (xS ad cy) 66 ad cy D (xF ad ts) Q) 0 0 (gA 66 ad) :=
  g_met (xF_ok ad ts) rfl (by decide) (Nat.le_of_ble_eq_true rfl) (fun p e s m below meth c ls C hw hl => w_X6_reaches C  h hw hl)
/-! BagPhrases$Phrases.firstReaching(JII)I -/
def P_X6_firstReaching_3 (Q : Int32 → MI → MJ → Prop) (kL3 : Int64 × Int32 × Int32 × Int32 × MI × MJ → Prop) : Int64 × Int32 × Int32 × Int32 × MI × MJ → Prop := fun z => match z with
  | (x1, x3, x4, x5, I, J) => (((I 12 4) ≤ x5 → Q x5 I J) ∧ (¬ (I 12 4) ≤ x5 → P_X6_reaches x1 x5 x3 x4 I J (fun r22 I22 J22 => ((¬ r22 = 0 → Q x5 I22 J22) ∧ (r22 = 0 → kL3 (x1, x3, x4, (x5 + 1), I22, J22))))))
def P_X6_firstReaching (a0 : Int64) (a1 : Int32) (a2 : Int32) (I : MI) (J : MJ) (Q : Int32 → MI → MJ → Prop) : Prop :=
  lpx (P_X6_firstReaching_3 Q) (a0, a1, a2, (0 : Int32), I, J)
abbrev rmX6_firstReaching : Room := { frames := 2, cells := 0, slots := 0, locals := 51 }
set_option maxHeartbeats 4000000 in
set_option maxRecDepth 100000 in
theorem w_X6_firstReaching_3 {Q : Int32 → MI → MJ → Prop} (C : gC RX6 cX6_firstReaching 6 (some .int) 66 ad cy D (xF ad ts) p s m args meth c) {kL3 : Int64 × Int32 × Int32 × Int32 × MI × MJ → Prop} (hL3 : ∀ {x1 : Int64} {x3 : Int32} {x4 : Int32} {x5 : Int32} {I : MI} {J : MJ} {H : Heap} {locs : List Loc} {ls : Array Slot}, kL3 (x1, x3, x4, x5, I, J) → gH (xS ad cy) 66 ad D s I J H locs → lv_has ls 6 [(0, .ref (ad 39)), (1, .long x1), (3, .int x3), (4, .int x4), (5, .int x5)] → W p l e rmX6_firstReaching s m args below meth c H locs 0 0 (MQ below (gQi (xS ad cy) 66 ad cy D (xF ad ts) Q) args s 0 0 (gA 66 ad)) (F0 m 3 ls [])) {x1 : Int64} {x3 : Int32} {x4 : Int32} {x5 : Int32} {I : MI} {J : MJ} {H : Heap} {locs : List Loc} {ls : Array Slot} (h : P_X6_firstReaching_3 Q kL3 (x1, x3, x4, x5, I, J)) (hw : gH (xS ad cy) 66 ad D s I J H locs) (hl : lv_has ls 6 [(0, .ref (ad 39)), (1, .long x1), (3, .int x3), (4, .int x4), (5, .int x5)]) : W p l e rmX6_firstReaching s m args below meth c H locs 0 0 (MQ below (gQi (xS ad cy) 66 ad cy D (xF ad ts) Q) args s 0 0 (gA 66 ad)) (F0 m 3 ls []) := by
  obtain ⟨hx, hb, hC⟩ := id C
  refine lv_iload hx hb dX6_firstReaching_3 (lv_at hl 4 rfl) ?_
  refine lv_aload_n hx hb dX6_firstReaching_5 rfl (lv_at hl 0 rfl) ?_
  refine g_get C hw f_RX6_50 xl_39 (xs_39 _ _) rfl dX6_firstReaching_6 ?_
  refine g_get C hw f_RX6_119 xl_12 (xs_12 _ _) rfl dX6_firstReaching_9 ?_
  refine lv_icmp_ge (tgt := 34) hx hb dX6_firstReaching_12 (by decide) (fun c12 => ?_) (fun c12 => ?_)
  · have h := h.1 c12
    refine lv_iload hx hb dX6_firstReaching_34 (lv_at hl 4 rfl) ?_
    exact g_iret C hw h dX6_firstReaching_36
  · have h := h.2 c12
    refine lv_aload_n hx hb dX6_firstReaching_15 rfl (lv_at hl 0 rfl) ?_
    refine lv_lload_n hx hb dX6_firstReaching_16 rfl (lv_at hl 1 rfl) ?_
    refine lv_iload hx hb dX6_firstReaching_17 (lv_at hl 4 rfl) ?_
    refine lv_iload_n hx hb dX6_firstReaching_19 rfl (lv_at hl 2 rfl) ?_
    refine lv_iload hx hb dX6_firstReaching_20 (lv_at hl 3 rfl) ?_
    refine g_cz hw (g_rV [.long x1, .int x5, .int x3, .int x4] [] C hw (m_X6_reaches h) k_X6_reaches q_RX6_156 xl_39 (xs_39 _ _) rfl rfl hl.1 rfl (Nat.le_of_ble_eq_true rfl) ⟨⟨rfl, rfl⟩, Nat.le_of_ble_eq_true rfl, Nat.le_of_ble_eq_true rfl⟩ ⟨Nat.zero_le _, Nat.zero_le _⟩ dX6_firstReaching_22) (fun r22 I22 J22 H locs z22 h hw => ?_)
    refine lv_if_ne (tgt := 34) hx hb dX6_firstReaching_25 (by decide) (fun c25 => ?_) (fun c25 => ?_)
    · have h := h.1 c25
      refine lv_iload hx hb dX6_firstReaching_34 (lv_at hl 4 rfl) ?_
      exact g_iret C hw h dX6_firstReaching_36
    · have h := h.2 c25
      refine lv_iinc (v := x5 + 1) (lv' := [(5, .int (x5 + 1)), (0, .ref (ad 39)), (1, .long x1), (3, .int x3), (4, .int x4)]) hx hb dX6_firstReaching_28 hl (k := 4) rfl rfl (by decide) rfl (fun ls hl => ?_)
      refine lv_goto (tgt := 3) hx hb dX6_firstReaching_31 (by decide) ?_
      exact hL3 h hw (lv_sub hl [1, 2, 3, 4, 0] rfl)
theorem wl_X6_firstReaching_3 {Q : Int32 → MI → MJ → Prop} (C : gC RX6 cX6_firstReaching 6 (some .int) 66 ad cy D (xF ad ts) p s m args meth c) {x1 : Int64} {x3 : Int32} {x4 : Int32} {x5 : Int32} {I : MI} {J : MJ} {H : Heap} {locs : List Loc} {ls : Array Slot} (h : lpx (P_X6_firstReaching_3 Q) (x1, x3, x4, x5, I, J)) (hw : gH (xS ad cy) 66 ad D s I J H locs) (hl : lv_has ls 6 [(0, .ref (ad 39)), (1, .long x1), (3, .int x3), (4, .int x4), (5, .int x5)]) : W p l e rmX6_firstReaching s m args below meth c H locs 0 0 (MQ below (gQi (xS ad cy) 66 ad cy D (xF ad ts) Q) args s 0 0 (gA 66 ad)) (F0 m 3 ls []) := by
  obtain ⟨n, h⟩ := h
  induction n generalizing x1 x3 x4 x5 I J H locs ls with
  | zero => exact False.elim h
  | succ n ih => exact w_X6_firstReaching_3 C  (fun hk9 hw9 hl9 => ih hw9 hl9 hk9) h hw hl
set_option maxHeartbeats 4000000 in
set_option maxRecDepth 100000 in
theorem w_X6_firstReaching {Q : Int32 → MI → MJ → Prop} (C : gC RX6 cX6_firstReaching 6 (some .int) 66 ad cy D (xF ad ts) p s m args meth c) {a0 : Int64} {a1 : Int32} {a2 : Int32} {I : MI} {J : MJ} {H : Heap} {locs : List Loc} {ls : Array Slot} (h : P_X6_firstReaching a0 a1 a2 I J Q) (hw : gH (xS ad cy) 66 ad D s I J H locs) (hl : lv_has ls 6 [(0, .ref (ad 39)), (1, .long a0), (3, .int a1), (4, .int a2)]) : W p l e rmX6_firstReaching s m args below meth c H locs 0 0 (MQ below (gQi (xS ad cy) 66 ad cy D (xF ad ts) Q) args s 0 0 (gA 66 ad)) (F0 m 0 ls []) := by
  obtain ⟨hx, hb, hC⟩ := id C
  refine lv_iconst (v := 0) hx hb dX6_firstReaching_0 (by decide) ?_
  refine lv_istore (lv' := [(5, .int (0 : Int32)), (0, .ref (ad 39)), (1, .long a0), (3, .int a1), (4, .int a2)]) hx hb dX6_firstReaching_1 hl (by decide) rfl (fun ls hl => ?_)
  exact wl_X6_firstReaching_3 C  h hw (lv_sub hl [1, 2, 3, 4, 0] rfl)
theorem m_X6_firstReaching {l : Launch} {a0 : Int64} {a1 : Int32} {a2 : Int32} {Q : Int32 → MI → MJ → Prop} {I : MI} {J : MJ} (h : P_X6_firstReaching a0 a1 a2 I J Q) : Met l yX6_firstReaching (xws yX6_firstReaching cX6_firstReaching 6 (some .int)) rmX6_firstReaching (va_Pc [.ref (ad 39), .long a0, .int a1, .int a2] (gB (xS ad cy) 66 ad cy D (xF ad ts) I J)) (gQi (xS ad cy) 66 ad cy D (xF ad ts) Q) 0 0 (gA 66 ad) :=
  g_met (xF_ok ad ts) rfl (by decide) (Nat.le_of_ble_eq_true rfl) (fun p e s m below meth c ls C hw hl => w_X6_firstReaching C  h hw hl)
/-! BagPhrases$Phrases.cameToBy(II)I -/
def P_X6_cameToBy (a0 : Int32) (a1 : Int32) (I : MI) (J : MJ) (Q : Int32 → MI → MJ → Prop) : Prop :=
  vp_in (I 39 10) 12 ∧ (∀ I9 : MI, I9 = mI I 43 (I 39 10).toNatClampNeg a0 → (∀ I17 : MI, I17 = mI I9 39 10 ((I9 39 10) + (1 : Int32)) → vp_in a0 10 ∧ (Q (a1 - (I17 52 a0.toNatClampNeg)) I17 J)))
abbrev rmX6_cameToBy : Room := { frames := 0, cells := 0, slots := 0, locals := 0 }
set_option maxHeartbeats 4000000 in
set_option maxRecDepth 100000 in
theorem w_X6_cameToBy {Q : Int32 → MI → MJ → Prop} (C : gC RX6 cX6_cameToBy 3 (some .int) 66 ad cy D (xF ad ts) p s m args meth c) {a0 : Int32} {a1 : Int32} {I : MI} {J : MJ} {H : Heap} {locs : List Loc} {ls : Array Slot} (h : P_X6_cameToBy a0 a1 I J Q) (hw : gH (xS ad cy) 66 ad D s I J H locs) (hl : lv_has ls 3 [(0, .ref (ad 39)), (1, .int a0), (2, .int a1)]) : W p l e rmX6_cameToBy s m args below meth c H locs 0 0 (MQ below (gQi (xS ad cy) 66 ad cy D (xF ad ts) Q) args s 0 0 (gA 66 ad)) (F0 m 0 ls []) := by
  obtain ⟨hx, hb, hC⟩ := id C
  refine lv_aload_n hx hb dX6_cameToBy_0 rfl (lv_at hl 0 rfl) ?_
  refine g_get C hw f_RX6_25 xl_39 (xs_39 _ _) rfl dX6_cameToBy_1 ?_
  refine lv_aload_n hx hb dX6_cameToBy_4 rfl (lv_at hl 0 rfl) ?_
  refine g_get C hw f_RX6_35 xl_39 (xs_39 _ _) rfl dX6_cameToBy_5 ?_
  refine lv_iload_n hx hb dX6_cameToBy_8 rfl (lv_at hl 1 rfl) ?_
  refine g_iast C hw xl_43 xs_43 h.1 dX6_cameToBy_9 (fun H locs hw => ?_)
  have h := h.2
  obtain ⟨I9, e9⟩ : ∃ z : MI, z = mI I 43 (I 39 10).toNatClampNeg a0 := ⟨_, rfl⟩
  have h := h I9 e9
  rw [← e9] at hw
  refine lv_aload_n hx hb dX6_cameToBy_10 rfl (lv_at hl 0 rfl) ?_
  refine lv_dup hx hb dX6_cameToBy_11 rfl ?_
  refine g_get C hw f_RX6_35 xl_39 (xs_39 _ _) rfl dX6_cameToBy_12 ?_
  refine lv_iconst (v := 1) hx hb dX6_cameToBy_15 (by decide) ?_
  refine lv_iadd hx hb dX6_cameToBy_16 ?_
  refine g_putI C hw fp_RX6_35 xl_39 xs_39 (st_6_10 ad _) (Nat.le_of_ble_eq_true rfl) rfl rfl dX6_cameToBy_17 (fun H locs hw => ?_)
  obtain ⟨I17, e17⟩ : ∃ z : MI, z = mI I9 39 10 ((I9 39 10) + (1 : Int32)) := ⟨_, rfl⟩
  have h := h I17 e17
  rw [← e17] at hw
  refine lv_iload_n hx hb dX6_cameToBy_20 rfl (lv_at hl 2 rfl) ?_
  refine lv_aload_n hx hb dX6_cameToBy_21 rfl (lv_at hl 0 rfl) ?_
  refine g_get C hw f_RX6_63 xl_39 (xs_39 _ _) rfl dX6_cameToBy_22 ?_
  refine g_get C hw f_RX6_160 xl_46 (xs_46 _ _) rfl dX6_cameToBy_25 ?_
  refine lv_iload_n hx hb dX6_cameToBy_28 rfl (lv_at hl 1 rfl) ?_
  refine g_iald C hw xl_52 xs_52 h.1 dX6_cameToBy_29 ?_
  have h := h.2
  refine lv_isub hx hb dX6_cameToBy_30 ?_
  exact g_iret C hw h dX6_cameToBy_31
theorem m_X6_cameToBy {l : Launch} {a0 : Int32} {a1 : Int32} {Q : Int32 → MI → MJ → Prop} {I : MI} {J : MJ} (h : P_X6_cameToBy a0 a1 I J Q) : Met l yX6_cameToBy (xws yX6_cameToBy cX6_cameToBy 3 (some .int)) rmX6_cameToBy (va_Pc [.ref (ad 39), .int a0, .int a1] (gB (xS ad cy) 66 ad cy D (xF ad ts) I J)) (gQi (xS ad cy) 66 ad cy D (xF ad ts) Q) 0 0 (gA 66 ad) :=
  g_met (xF_ok ad ts) rfl (by decide) (Nat.le_of_ble_eq_true rfl) (fun p e s m below meth c ls C hw hl => w_X6_cameToBy C  h hw hl)
/-! BagPhrases$Phrases.findBest()Z -/
def P_X6_findBest_54 (Q : Int32 → MI → MJ → Prop) (kL54 : Int64 × Int32 × Int32 × Int32 × Int32 × MI × MJ → Prop) : Int64 × Int32 × Int32 × Int32 × Int32 × MI × MJ → Prop := fun z => match z with
  | (x1, x3, x4, x5, x6, I, J) => (((12 : Int32) ≤ x6 → (x3 = 0 ∨ x3 = 1) ∧ Q x3 I J) ∧ (¬ (12 : Int32) ≤ x6 → ((x3 = 0 → (x3 = 0 ∨ x3 = 1) ∧ Q x3 I J) ∧ (¬ x3 = 0 → ((x4 ≤ 0 → (x3 = 0 ∨ x3 = 1) ∧ Q x3 I J) ∧ (¬ x4 ≤ 0 → P_X6_firstReaching x1 x4 x5 I J (fun r76 I76 J76 => ((r76 < (I76 12 4) → vp_in r76 10 ∧ (P_X6_cameToBy r76 x4 I76 J76 (fun r114 I114 J114 => vp_in r76 10 ∧ (vp_in (I114 13 r76.toNatClampNeg) 4 ∧ (kL54 ((x1 - ((I76 19 r76.toNatClampNeg).toInt64)), x3, r114, (I114 20 (I114 13 r76.toNatClampNeg).toNatClampNeg), (x6 + 1), I114, J114)))))) ∧ (¬ r76 < (I76 12 4) → Q (0 : Int32) I76 J76)))))))))
def P_X6_findBest_32 (Q : Int32 → MI → MJ → Prop) (x1 : Int64) (s0 : Int32) (I : MI) (J : MJ) : Prop :=
  lpx (P_X6_findBest_54 Q) (x1, s0, (I 46 11), (I 17 3), (0 : Int32), I, J)
def P_X6_findBest (I : MI) (J : MJ) (Q : Int32 → MI → MJ → Prop) : Prop :=
  P_X6_refresh I J (fun I1 J1 => (∀ I6 : MI, I6 = mI I1 39 10 (0 : Int32) → P_X6_foldWithin 54 (1023 : Int32) I6 J1 (fun r17 I17 J17 => ((r17 < (0 : Int64) → P_X6_findBest_32 Q r17 (0 : Int32) I17 J17) ∧ (¬ r17 < (0 : Int64) → P_X6_findBest_32 Q r17 (1 : Int32) I17 J17)))))
abbrev rmX6_findBest : Room := { frames := 5, cells := 0, slots := 0, locals := 137 }
set_option maxHeartbeats 4000000 in
set_option maxRecDepth 100000 in
theorem w_X6_findBest_54 {Q : Int32 → MI → MJ → Prop} (C : gC RX6 cX6_findBest 8 (some .boolean) 66 ad cy D (xF ad ts) p s m args meth c) {kL54 : Int64 × Int32 × Int32 × Int32 × Int32 × MI × MJ → Prop} (hL54 : ∀ {x1 : Int64} {x3 : Int32} {x4 : Int32} {x5 : Int32} {x6 : Int32} {I : MI} {J : MJ} {H : Heap} {locs : List Loc} {ls : Array Slot}, kL54 (x1, x3, x4, x5, x6, I, J) → gH (xS ad cy) 66 ad D s I J H locs → lv_has ls 8 [(0, .ref (ad 39)), (1, .long x1), (3, .int x3), (4, .int x4), (5, .int x5), (6, .int x6)] → W p l e rmX6_findBest s m args below meth c H locs 0 0 (MQ below (gQz (xS ad cy) 66 ad cy D (xF ad ts) Q) args s 0 0 (gA 66 ad)) (F0 m 54 ls [])) {x1 : Int64} {x3 : Int32} {x4 : Int32} {x5 : Int32} {x6 : Int32} {I : MI} {J : MJ} {H : Heap} {locs : List Loc} {ls : Array Slot} (h : P_X6_findBest_54 Q kL54 (x1, x3, x4, x5, x6, I, J)) (hw : gH (xS ad cy) 66 ad D s I J H locs) (hl : lv_has ls 8 [(0, .ref (ad 39)), (1, .long x1), (3, .int x3), (4, .int x4), (5, .int x5), (6, .int x6)]) : W p l e rmX6_findBest s m args below meth c H locs 0 0 (MQ below (gQz (xS ad cy) 66 ad cy D (xF ad ts) Q) args s 0 0 (gA 66 ad)) (F0 m 54 ls []) := by
  obtain ⟨hx, hb, hC⟩ := id C
  refine lv_iload hx hb dX6_findBest_54 (lv_at hl 5 rfl) ?_
  refine lv_bipush (v := 12) hx hb dX6_findBest_56 (by decide) ?_
  refine lv_icmp_ge (tgt := 145) hx hb dX6_findBest_58 (by decide) (fun c58 => ?_) (fun c58 => ?_)
  · have h := h.1 c58
    refine lv_iload_n hx hb dX6_findBest_145 rfl (lv_at hl 2 rfl) ?_
    exact g_zret C hw h.1 h.2 dX6_findBest_146
  · have h := h.2 c58
    refine lv_iload_n hx hb dX6_findBest_61 rfl (lv_at hl 2 rfl) ?_
    refine lv_if_eq (tgt := 145) hx hb dX6_findBest_62 (by decide) (fun c62 => ?_) (fun c62 => ?_)
    · have h := h.1 c62
      refine lv_iload_n hx hb dX6_findBest_145 rfl (lv_at hl 2 rfl) ?_
      exact g_zret C hw h.1 h.2 dX6_findBest_146
    · have h := h.2 c62
      refine lv_iload hx hb dX6_findBest_65 (lv_at hl 3 rfl) ?_
      refine lv_if_le (tgt := 145) hx hb dX6_findBest_67 (by decide) (fun c67 => ?_) (fun c67 => ?_)
      · have h := h.1 c67
        refine lv_iload_n hx hb dX6_findBest_145 rfl (lv_at hl 2 rfl) ?_
        exact g_zret C hw h.1 h.2 dX6_findBest_146
      · have h := h.2 c67
        refine lv_aload_n hx hb dX6_findBest_70 rfl (lv_at hl 0 rfl) ?_
        refine lv_lload_n hx hb dX6_findBest_71 rfl (lv_at hl 1 rfl) ?_
        refine lv_iload hx hb dX6_findBest_72 (lv_at hl 3 rfl) ?_
        refine lv_iload hx hb dX6_findBest_74 (lv_at hl 4 rfl) ?_
        refine g_ci hw (g_rV [.long x1, .int x4, .int x5] [] C hw (m_X6_firstReaching h) k_X6_firstReaching q_RX6_152 xl_39 (xs_39 _ _) rfl rfl hl.1 rfl (Nat.le_of_ble_eq_true rfl) ⟨⟨rfl, rfl⟩, Nat.le_of_ble_eq_true rfl, Nat.le_of_ble_eq_true rfl⟩ ⟨Nat.zero_le _, Nat.zero_le _⟩ dX6_findBest_76) (fun r76 I76 J76 H locs h hw => ?_)
        refine lv_istore (lv' := [(7, .int r76), (0, .ref (ad 39)), (1, .long x1), (3, .int x3), (4, .int x4), (5, .int x5), (6, .int x6)]) hx hb dX6_findBest_79 hl (by decide) rfl (fun ls hl => ?_)
        refine lv_iload hx hb dX6_findBest_81 (lv_at hl 0 rfl) ?_
        refine lv_aload_n hx hb dX6_findBest_83 rfl (lv_at hl 1 rfl) ?_
        refine g_get C hw f_RX6_50 xl_39 (xs_39 _ _) rfl dX6_findBest_84 ?_
        refine g_get C hw f_RX6_119 xl_12 (xs_12 _ _) rfl dX6_findBest_87 ?_
        refine lv_icmp_lt (tgt := 95) hx hb dX6_findBest_90 (by decide) (fun c90 => ?_) (fun c90 => ?_)
        · have h := h.1 c90
          refine lv_lload_n hx hb dX6_findBest_95 rfl (lv_at hl 2 rfl) ?_
          refine lv_aload_n hx hb dX6_findBest_96 rfl (lv_at hl 1 rfl) ?_
          refine g_get C hw f_RX6_54 xl_39 (xs_39 _ _) rfl dX6_findBest_97 ?_
          refine g_get C hw f_RX6_69 xl_17 (xs_17 _ _) rfl dX6_findBest_100 ?_
          refine lv_iload hx hb dX6_findBest_103 (lv_at hl 0 rfl) ?_
          refine g_iald C hw xl_19 xs_19 h.1 dX6_findBest_105 ?_
          have h := h.2
          refine lv_i2l hx hb dX6_findBest_106 rfl ?_
          refine lv_lsub hx hb dX6_findBest_107 ?_
          refine lv_lstore_n (lv' := [(1, .long (x1 - ((I76 19 r76.toNatClampNeg).toInt64))), (7, .int r76), (0, .ref (ad 39)), (3, .int x3), (4, .int x4), (5, .int x5), (6, .int x6)]) hx hb dX6_findBest_108 rfl hl (by decide) rfl (fun ls hl => ?_)
          refine lv_aload_n hx hb dX6_findBest_109 rfl (lv_at hl 2 rfl) ?_
          refine lv_iload hx hb dX6_findBest_110 (lv_at hl 1 rfl) ?_
          refine lv_iload hx hb dX6_findBest_112 (lv_at hl 4 rfl) ?_
          refine g_ci hw (g_rV [.int r76, .int x4] [] C hw (m_X6_cameToBy h) k_X6_cameToBy q_RX6_142 xl_39 (xs_39 _ _) rfl rfl hl.1 rfl (Nat.le_of_ble_eq_true rfl) ⟨⟨rfl, rfl⟩, Nat.le_of_ble_eq_true rfl, Nat.le_of_ble_eq_true rfl⟩ ⟨Nat.zero_le _, Nat.zero_le _⟩ dX6_findBest_114) (fun r114 I114 J114 H locs h hw => ?_)
          refine lv_istore (lv' := [(4, .int r114), (1, .long (x1 - ((I76 19 r76.toNatClampNeg).toInt64))), (7, .int r76), (0, .ref (ad 39)), (3, .int x3), (5, .int x5), (6, .int x6)]) hx hb dX6_findBest_117 hl (by decide) rfl (fun ls hl => ?_)
          refine lv_aload_n hx hb dX6_findBest_119 rfl (lv_at hl 3 rfl) ?_
          refine g_get C hw f_RX6_54 xl_39 (xs_39 _ _) rfl dX6_findBest_120 ?_
          refine g_get C hw f_RX6_146 xl_17 (xs_17 _ _) rfl dX6_findBest_123 ?_
          refine lv_aload_n hx hb dX6_findBest_126 rfl (lv_at hl 3 rfl) ?_
          refine g_get C hw f_RX6_50 xl_39 (xs_39 _ _) rfl dX6_findBest_127 ?_
          refine g_get C hw f_RX6_149 xl_12 (xs_12 _ _) rfl dX6_findBest_130 ?_
          refine lv_iload hx hb dX6_findBest_133 (lv_at hl 2 rfl) ?_
          refine g_iald C hw xl_13 xs_13 h.1 dX6_findBest_135 ?_
          have h := h.2
          refine g_iald C hw xl_20 xs_20 h.1 dX6_findBest_136 ?_
          have h := h.2
          refine lv_istore (lv' := [(5, .int (I114 20 (I114 13 r76.toNatClampNeg).toNatClampNeg)), (4, .int r114), (1, .long (x1 - ((I76 19 r76.toNatClampNeg).toInt64))), (7, .int r76), (0, .ref (ad 39)), (3, .int x3), (6, .int x6)]) hx hb dX6_findBest_137 hl (by decide) rfl (fun ls hl => ?_)
          refine lv_iinc (v := x6 + 1) (lv' := [(6, .int (x6 + 1)), (5, .int (I114 20 (I114 13 r76.toNatClampNeg).toNatClampNeg)), (4, .int r114), (1, .long (x1 - ((I76 19 r76.toNatClampNeg).toInt64))), (7, .int r76), (0, .ref (ad 39)), (3, .int x3)]) hx hb dX6_findBest_139 hl (k := 6) rfl rfl (by decide) rfl (fun ls hl => ?_)
          refine lv_goto (tgt := 54) hx hb dX6_findBest_142 (by decide) ?_
          exact hL54 h hw (lv_sub hl [5, 3, 6, 2, 1, 0] rfl)
        · have h := h.2 c90
          refine lv_iconst (v := 0) hx hb dX6_findBest_93 (by decide) ?_
          exact g_zret C hw (by decide) h dX6_findBest_94
theorem wl_X6_findBest_54 {Q : Int32 → MI → MJ → Prop} (C : gC RX6 cX6_findBest 8 (some .boolean) 66 ad cy D (xF ad ts) p s m args meth c) {x1 : Int64} {x3 : Int32} {x4 : Int32} {x5 : Int32} {x6 : Int32} {I : MI} {J : MJ} {H : Heap} {locs : List Loc} {ls : Array Slot} (h : lpx (P_X6_findBest_54 Q) (x1, x3, x4, x5, x6, I, J)) (hw : gH (xS ad cy) 66 ad D s I J H locs) (hl : lv_has ls 8 [(0, .ref (ad 39)), (1, .long x1), (3, .int x3), (4, .int x4), (5, .int x5), (6, .int x6)]) : W p l e rmX6_findBest s m args below meth c H locs 0 0 (MQ below (gQz (xS ad cy) 66 ad cy D (xF ad ts) Q) args s 0 0 (gA 66 ad)) (F0 m 54 ls []) := by
  obtain ⟨n, h⟩ := h
  induction n generalizing x1 x3 x4 x5 x6 I J H locs ls with
  | zero => exact False.elim h
  | succ n ih => exact w_X6_findBest_54 C  (fun hk9 hw9 hl9 => ih hw9 hl9 hk9) h hw hl
set_option maxHeartbeats 4000000 in
set_option maxRecDepth 100000 in
theorem w_X6_findBest_32 {Q : Int32 → MI → MJ → Prop} (C : gC RX6 cX6_findBest 8 (some .boolean) 66 ad cy D (xF ad ts) p s m args meth c) {x1 : Int64} {s0 : Int32} {I : MI} {J : MJ} {H : Heap} {locs : List Loc} {ls : Array Slot} (h : P_X6_findBest_32 Q x1 s0 I J) (hw : gH (xS ad cy) 66 ad D s I J H locs) (hl : lv_has ls 8 [(0, .ref (ad 39)), (1, .long x1)]) : W p l e rmX6_findBest s m args below meth c H locs 0 0 (MQ below (gQz (xS ad cy) 66 ad cy D (xF ad ts) Q) args s 0 0 (gA 66 ad)) (F0 m 32 ls [.int s0]) := by
  obtain ⟨hx, hb, hC⟩ := id C
  refine lv_istore_n (lv' := [(3, .int s0), (0, .ref (ad 39)), (1, .long x1)]) hx hb dX6_findBest_32 rfl hl (by decide) rfl (fun ls hl => ?_)
  refine lv_aload_n hx hb dX6_findBest_33 rfl (lv_at hl 1 rfl) ?_
  refine g_get C hw f_RX6_63 xl_39 (xs_39 _ _) rfl dX6_findBest_34 ?_
  refine g_get C hw f_RX6_132 xl_46 (xs_46 _ _) rfl dX6_findBest_37 ?_
  refine lv_istore (lv' := [(4, .int (I 46 11)), (3, .int s0), (0, .ref (ad 39)), (1, .long x1)]) hx hb dX6_findBest_40 hl (by decide) rfl (fun ls hl => ?_)
  refine lv_aload_n hx hb dX6_findBest_42 rfl (lv_at hl 2 rfl) ?_
  refine g_get C hw f_RX6_54 xl_39 (xs_39 _ _) rfl dX6_findBest_43 ?_
  refine g_get C hw f_RX6_135 xl_17 (xs_17 _ _) rfl dX6_findBest_46 ?_
  refine lv_istore (lv' := [(5, .int (I 17 3)), (4, .int (I 46 11)), (3, .int s0), (0, .ref (ad 39)), (1, .long x1)]) hx hb dX6_findBest_49 hl (by decide) rfl (fun ls hl => ?_)
  refine lv_iconst (v := 0) hx hb dX6_findBest_51 (by decide) ?_
  refine lv_istore (lv' := [(6, .int (0 : Int32)), (5, .int (I 17 3)), (4, .int (I 46 11)), (3, .int s0), (0, .ref (ad 39)), (1, .long x1)]) hx hb dX6_findBest_52 hl (by decide) rfl (fun ls hl => ?_)
  exact wl_X6_findBest_54 C  h hw (lv_sub hl [4, 5, 3, 2, 1, 0] rfl)
set_option maxHeartbeats 4000000 in
set_option maxRecDepth 100000 in
theorem w_X6_findBest {Q : Int32 → MI → MJ → Prop} (C : gC RX6 cX6_findBest 8 (some .boolean) 66 ad cy D (xF ad ts) p s m args meth c) {I : MI} {J : MJ} {H : Heap} {locs : List Loc} {ls : Array Slot} (h : P_X6_findBest I J Q) (hw : gH (xS ad cy) 66 ad D s I J H locs) (hl : lv_has ls 8 [(0, .ref (ad 39))]) : W p l e rmX6_findBest s m args below meth c H locs 0 0 (MQ below (gQz (xS ad cy) 66 ad cy D (xF ad ts) Q) args s 0 0 (gA 66 ad)) (F0 m 0 ls []) := by
  obtain ⟨hx, hb, hC⟩ := id C
  refine lv_aload_n hx hb dX6_findBest_0 rfl (lv_at hl 0 rfl) ?_
  refine g_cv hw (g_rV [] [] C hw (m_X6_refresh h) k_X6_refresh q_RX6_96 xl_39 (xs_39 _ _) rfl rfl hl.1 rfl (Nat.le_of_ble_eq_true rfl) ⟨⟨rfl, rfl⟩, Nat.le_of_ble_eq_true rfl, Nat.le_of_ble_eq_true rfl⟩ ⟨Nat.zero_le _, Nat.zero_le _⟩ dX6_findBest_1) (fun I1 J1 H locs h hw => ?_)
  refine lv_aload_n hx hb dX6_findBest_4 rfl (lv_at hl 0 rfl) ?_
  refine lv_iconst (v := 0) hx hb dX6_findBest_5 (by decide) ?_
  refine g_putI C hw fp_RX6_35 xl_39 xs_39 (st_6_10 ad _) (Nat.le_of_ble_eq_true rfl) rfl rfl dX6_findBest_6 (fun H locs hw => ?_)
  obtain ⟨I6, e6⟩ : ∃ z : MI, z = mI I1 39 10 (0 : Int32) := ⟨_, rfl⟩
  have h := h I6 e6
  rw [← e6] at hw
  refine lv_aload_n hx hb dX6_findBest_9 rfl (lv_at hl 0 rfl) ?_
  refine lv_aload_n hx hb dX6_findBest_10 rfl (lv_at hl 0 rfl) ?_
  refine g_get C hw f_RX6_77 xl_39 (xs_39 _ _) rfl dX6_findBest_11 ?_
  refine lv_sipush (v := 1023) hx hb dX6_findBest_14 (by decide) ?_
  refine g_cl hw (g_rV [.ref (ad 54), .int (1023 : Int32)] [] C hw (m_X6_foldWithin isWay_54 h) k_X6_foldWithin q_RX6_99 xl_39 (xs_39 _ _) rfl rfl hl.1 rfl (Nat.le_of_ble_eq_true rfl) ⟨⟨rfl, rfl⟩, Nat.le_of_ble_eq_true rfl, Nat.le_of_ble_eq_true rfl⟩ ⟨Nat.zero_le _, Nat.zero_le _⟩ dX6_findBest_17) (fun r17 I17 J17 H locs h hw => ?_)
  refine lv_lstore_n (lv' := [(1, .long r17), (0, .ref (ad 39))]) hx hb dX6_findBest_20 rfl hl (by decide) rfl (fun ls hl => ?_)
  refine lv_lload_n hx hb dX6_findBest_21 rfl (lv_at hl 0 rfl) ?_
  refine lv_lconst (v := 0) hx hb dX6_findBest_22 (by decide) ?_
  refine g_lcmp_lt (tgt := 31) hx hb dX6_findBest_23 dX6_findBest_24 (by decide) (fun c23 => ?_) (fun c23 => ?_)
  · have h := h.1 c23
    refine lv_iconst (v := 0) hx hb dX6_findBest_31 (by decide) ?_
    exact w_X6_findBest_32 C  h hw (lv_sub hl [1, 0] rfl)
  · have h := h.2 c23
    refine lv_iconst (v := 1) hx hb dX6_findBest_27 (by decide) ?_
    refine lv_goto (tgt := 32) hx hb dX6_findBest_28 (by decide) ?_
    exact w_X6_findBest_32 C  h hw (lv_sub hl [1, 0] rfl)
theorem m_X6_findBest {l : Launch} {Q : Int32 → MI → MJ → Prop} {I : MI} {J : MJ} (h : P_X6_findBest I J Q) : Met l yX6_findBest (xws yX6_findBest cX6_findBest 8 (some .boolean)) rmX6_findBest (va_Pc [.ref (ad 39)] (gB (xS ad cy) 66 ad cy D (xF ad ts) I J)) (gQz (xS ad cy) 66 ad cy D (xF ad ts) Q) 0 0 (gA 66 ad) :=
  g_met (xF_ok ad ts) rfl (by decide) (Nat.le_of_ble_eq_true rfl) (fun p e s m below meth c ls C hw hl => w_X6_findBest C  h hw hl)
/-! BagPhrases$Phrases.foundWorth()I -/
def P_X6_foundWorth_4 (Q : Int32 → MI → MJ → Prop) (kL4 : Int32 × Int32 × MI × MJ → Prop) : Int32 × Int32 × MI × MJ → Prop := fun z => match z with
  | (x1, x2, I, J) => (((I 39 10) ≤ x2 → Q x1 I J) ∧ (¬ (I 39 10) ≤ x2 → vp_in x2 12 ∧ (vp_in (I 43 x2.toNatClampNeg) 10 ∧ (kL4 ((x1 + (I 19 (I 43 x2.toNatClampNeg).toNatClampNeg)), (x2 + 1), I, J)))))
def P_X6_foundWorth (I : MI) (J : MJ) (Q : Int32 → MI → MJ → Prop) : Prop :=
  lpx (P_X6_foundWorth_4 Q) ((0 : Int32), (0 : Int32), I, J)
abbrev rmX6_foundWorth : Room := { frames := 0, cells := 0, slots := 0, locals := 0 }
set_option maxHeartbeats 4000000 in
set_option maxRecDepth 100000 in
theorem w_X6_foundWorth_4 {Q : Int32 → MI → MJ → Prop} (C : gC RX6 cX6_foundWorth 3 (some .int) 66 ad cy D (xF ad ts) p s m args meth c) {kL4 : Int32 × Int32 × MI × MJ → Prop} (hL4 : ∀ {x1 : Int32} {x2 : Int32} {I : MI} {J : MJ} {H : Heap} {locs : List Loc} {ls : Array Slot}, kL4 (x1, x2, I, J) → gH (xS ad cy) 66 ad D s I J H locs → lv_has ls 3 [(0, .ref (ad 39)), (1, .int x1), (2, .int x2)] → W p l e rmX6_foundWorth s m args below meth c H locs 0 0 (MQ below (gQi (xS ad cy) 66 ad cy D (xF ad ts) Q) args s 0 0 (gA 66 ad)) (F0 m 4 ls [])) {x1 : Int32} {x2 : Int32} {I : MI} {J : MJ} {H : Heap} {locs : List Loc} {ls : Array Slot} (h : P_X6_foundWorth_4 Q kL4 (x1, x2, I, J)) (hw : gH (xS ad cy) 66 ad D s I J H locs) (hl : lv_has ls 3 [(0, .ref (ad 39)), (1, .int x1), (2, .int x2)]) : W p l e rmX6_foundWorth s m args below meth c H locs 0 0 (MQ below (gQi (xS ad cy) 66 ad cy D (xF ad ts) Q) args s 0 0 (gA 66 ad)) (F0 m 4 ls []) := by
  obtain ⟨hx, hb, hC⟩ := id C
  refine lv_iload_n hx hb dX6_foundWorth_4 rfl (lv_at hl 2 rfl) ?_
  refine lv_aload_n hx hb dX6_foundWorth_5 rfl (lv_at hl 0 rfl) ?_
  refine g_get C hw f_RX6_35 xl_39 (xs_39 _ _) rfl dX6_foundWorth_6 ?_
  refine lv_icmp_ge (tgt := 35) hx hb dX6_foundWorth_9 (by decide) (fun c9 => ?_) (fun c9 => ?_)
  · have h := h.1 c9
    refine lv_iload_n hx hb dX6_foundWorth_35 rfl (lv_at hl 1 rfl) ?_
    exact g_iret C hw h dX6_foundWorth_36
  · have h := h.2 c9
    refine lv_iload_n hx hb dX6_foundWorth_12 rfl (lv_at hl 1 rfl) ?_
    refine lv_aload_n hx hb dX6_foundWorth_13 rfl (lv_at hl 0 rfl) ?_
    refine g_get C hw f_RX6_54 xl_39 (xs_39 _ _) rfl dX6_foundWorth_14 ?_
    refine g_get C hw f_RX6_69 xl_17 (xs_17 _ _) rfl dX6_foundWorth_17 ?_
    refine lv_aload_n hx hb dX6_foundWorth_20 rfl (lv_at hl 0 rfl) ?_
    refine g_get C hw f_RX6_25 xl_39 (xs_39 _ _) rfl dX6_foundWorth_21 ?_
    refine lv_iload_n hx hb dX6_foundWorth_24 rfl (lv_at hl 2 rfl) ?_
    refine g_iald C hw xl_43 xs_43 h.1 dX6_foundWorth_25 ?_
    have h := h.2
    refine g_iald C hw xl_19 xs_19 h.1 dX6_foundWorth_26 ?_
    have h := h.2
    refine lv_iadd hx hb dX6_foundWorth_27 ?_
    refine lv_istore_n (lv' := [(1, .int (x1 + (I 19 (I 43 x2.toNatClampNeg).toNatClampNeg))), (0, .ref (ad 39)), (2, .int x2)]) hx hb dX6_foundWorth_28 rfl hl (by decide) rfl (fun ls hl => ?_)
    refine lv_iinc (v := x2 + 1) (lv' := [(2, .int (x2 + 1)), (1, .int (x1 + (I 19 (I 43 x2.toNatClampNeg).toNatClampNeg))), (0, .ref (ad 39))]) hx hb dX6_foundWorth_29 hl (k := 2) rfl rfl (by decide) rfl (fun ls hl => ?_)
    refine lv_goto (tgt := 4) hx hb dX6_foundWorth_32 (by decide) ?_
    exact hL4 h hw (lv_sub hl [2, 1, 0] rfl)
theorem wl_X6_foundWorth_4 {Q : Int32 → MI → MJ → Prop} (C : gC RX6 cX6_foundWorth 3 (some .int) 66 ad cy D (xF ad ts) p s m args meth c) {x1 : Int32} {x2 : Int32} {I : MI} {J : MJ} {H : Heap} {locs : List Loc} {ls : Array Slot} (h : lpx (P_X6_foundWorth_4 Q) (x1, x2, I, J)) (hw : gH (xS ad cy) 66 ad D s I J H locs) (hl : lv_has ls 3 [(0, .ref (ad 39)), (1, .int x1), (2, .int x2)]) : W p l e rmX6_foundWorth s m args below meth c H locs 0 0 (MQ below (gQi (xS ad cy) 66 ad cy D (xF ad ts) Q) args s 0 0 (gA 66 ad)) (F0 m 4 ls []) := by
  obtain ⟨n, h⟩ := h
  induction n generalizing x1 x2 I J H locs ls with
  | zero => exact False.elim h
  | succ n ih => exact w_X6_foundWorth_4 C  (fun hk9 hw9 hl9 => ih hw9 hl9 hk9) h hw hl
set_option maxHeartbeats 4000000 in
set_option maxRecDepth 100000 in
theorem w_X6_foundWorth {Q : Int32 → MI → MJ → Prop} (C : gC RX6 cX6_foundWorth 3 (some .int) 66 ad cy D (xF ad ts) p s m args meth c) {I : MI} {J : MJ} {H : Heap} {locs : List Loc} {ls : Array Slot} (h : P_X6_foundWorth I J Q) (hw : gH (xS ad cy) 66 ad D s I J H locs) (hl : lv_has ls 3 [(0, .ref (ad 39))]) : W p l e rmX6_foundWorth s m args below meth c H locs 0 0 (MQ below (gQi (xS ad cy) 66 ad cy D (xF ad ts) Q) args s 0 0 (gA 66 ad)) (F0 m 0 ls []) := by
  obtain ⟨hx, hb, hC⟩ := id C
  refine lv_iconst (v := 0) hx hb dX6_foundWorth_0 (by decide) ?_
  refine lv_istore_n (lv' := [(1, .int (0 : Int32)), (0, .ref (ad 39))]) hx hb dX6_foundWorth_1 rfl hl (by decide) rfl (fun ls hl => ?_)
  refine lv_iconst (v := 0) hx hb dX6_foundWorth_2 (by decide) ?_
  refine lv_istore_n (lv' := [(2, .int (0 : Int32)), (1, .int (0 : Int32)), (0, .ref (ad 39))]) hx hb dX6_foundWorth_3 rfl hl (by decide) rfl (fun ls hl => ?_)
  exact wl_X6_foundWorth_4 C  h hw (lv_sub hl [2, 1, 0] rfl)
theorem m_X6_foundWorth {l : Launch} {Q : Int32 → MI → MJ → Prop} {I : MI} {J : MJ} (h : P_X6_foundWorth I J Q) : Met l yX6_foundWorth (xws yX6_foundWorth cX6_foundWorth 3 (some .int)) rmX6_foundWorth (va_Pc [.ref (ad 39)] (gB (xS ad cy) 66 ad cy D (xF ad ts) I J)) (gQi (xS ad cy) 66 ad cy D (xF ad ts) Q) 0 0 (gA 66 ad) :=
  g_met (xF_ok ad ts) rfl (by decide) (Nat.le_of_ble_eq_true rfl) (fun p e s m below meth c ls C hw hl => w_X6_foundWorth C  h hw hl)
/-! BagPhrases$Phrases.foundWord(I)I -/
def P_X6_foundWord_21 (Q : Int32 → MI → MJ → Prop) (I : MI) (J : MJ) : Prop :=
  Q (-9 : Int32) I J
def P_X6_foundWord (a0 : Int32) (I : MI) (J : MJ) (Q : Int32 → MI → MJ → Prop) : Prop :=
  ((a0 < 0 → P_X6_foundWord_21 Q I J) ∧ (¬ a0 < 0 → (((I 39 10) ≤ a0 → P_X6_foundWord_21 Q I J) ∧ (¬ (I 39 10) ≤ a0 → vp_in a0 12 ∧ (Q (I 43 a0.toNatClampNeg) I J)))))
abbrev rmX6_foundWord : Room := { frames := 0, cells := 0, slots := 0, locals := 0 }
set_option maxHeartbeats 4000000 in
set_option maxRecDepth 100000 in
theorem w_X6_foundWord_21 {Q : Int32 → MI → MJ → Prop} (C : gC RX6 cX6_foundWord 2 (some .int) 66 ad cy D (xF ad ts) p s m args meth c) {I : MI} {J : MJ} {H : Heap} {locs : List Loc} {ls : Array Slot} (h : P_X6_foundWord_21 Q I J) (hw : gH (xS ad cy) 66 ad D s I J H locs) (hl : lv_has ls 2 []) : W p l e rmX6_foundWord s m args below meth c H locs 0 0 (MQ below (gQi (xS ad cy) 66 ad cy D (xF ad ts) Q) args s 0 0 (gA 66 ad)) (F0 m 21 ls []) := by
  obtain ⟨hx, hb, hC⟩ := id C
  refine lv_bipush (v := -9) hx hb dX6_foundWord_21 (by decide) ?_
  exact g_iret C hw h dX6_foundWord_23
set_option maxHeartbeats 4000000 in
set_option maxRecDepth 100000 in
theorem w_X6_foundWord {Q : Int32 → MI → MJ → Prop} (C : gC RX6 cX6_foundWord 2 (some .int) 66 ad cy D (xF ad ts) p s m args meth c) {a0 : Int32} {I : MI} {J : MJ} {H : Heap} {locs : List Loc} {ls : Array Slot} (h : P_X6_foundWord a0 I J Q) (hw : gH (xS ad cy) 66 ad D s I J H locs) (hl : lv_has ls 2 [(0, .ref (ad 39)), (1, .int a0)]) : W p l e rmX6_foundWord s m args below meth c H locs 0 0 (MQ below (gQi (xS ad cy) 66 ad cy D (xF ad ts) Q) args s 0 0 (gA 66 ad)) (F0 m 0 ls []) := by
  obtain ⟨hx, hb, hC⟩ := id C
  refine lv_iload_n hx hb dX6_foundWord_0 rfl (lv_at hl 1 rfl) ?_
  refine lv_if_lt (tgt := 21) hx hb dX6_foundWord_1 (by decide) (fun c1 => ?_) (fun c1 => ?_)
  · have h := h.1 c1
    exact w_X6_foundWord_21 C  h hw (lv_sub hl [] rfl)
  · have h := h.2 c1
    refine lv_iload_n hx hb dX6_foundWord_4 rfl (lv_at hl 1 rfl) ?_
    refine lv_aload_n hx hb dX6_foundWord_5 rfl (lv_at hl 0 rfl) ?_
    refine g_get C hw f_RX6_35 xl_39 (xs_39 _ _) rfl dX6_foundWord_6 ?_
    refine lv_icmp_ge (tgt := 21) hx hb dX6_foundWord_9 (by decide) (fun c9 => ?_) (fun c9 => ?_)
    · have h := h.1 c9
      exact w_X6_foundWord_21 C  h hw (lv_sub hl [] rfl)
    · have h := h.2 c9
      refine lv_aload_n hx hb dX6_foundWord_12 rfl (lv_at hl 0 rfl) ?_
      refine g_get C hw f_RX6_25 xl_39 (xs_39 _ _) rfl dX6_foundWord_13 ?_
      refine lv_iload_n hx hb dX6_foundWord_16 rfl (lv_at hl 1 rfl) ?_
      refine g_iald C hw xl_43 xs_43 h.1 dX6_foundWord_17 ?_
      have h := h.2
      refine lv_goto (tgt := 23) hx hb dX6_foundWord_18 (by decide) ?_
      exact g_iret C hw h dX6_foundWord_23
theorem m_X6_foundWord {l : Launch} {a0 : Int32} {Q : Int32 → MI → MJ → Prop} {I : MI} {J : MJ} (h : P_X6_foundWord a0 I J Q) : Met l yX6_foundWord (xws yX6_foundWord cX6_foundWord 2 (some .int)) rmX6_foundWord (va_Pc [.ref (ad 39), .int a0] (gB (xS ad cy) 66 ad cy D (xF ad ts) I J)) (gQi (xS ad cy) 66 ad cy D (xF ad ts) Q) 0 0 (gA 66 ad) :=
  g_met (xF_ok ad ts) rfl (by decide) (Nat.le_of_ble_eq_true rfl) (fun p e s m below meth c ls C hw hl => w_X6_foundWord C  h hw hl)
/-! BagPhrases.best(I)I -/
def P_X11_best (a0 : Int32) (I : MI) (J : MJ) (Q : Int32 → MI → MJ → Prop) : Prop :=
  ((a0 < 0 → Q (-2 : Int32) I J) ∧ (¬ a0 < 0 → ((a0 ≤ (13 : Int32) → P_X6_findBest I J (fun r17 I17 J17 => ((¬ r17 = 0 → ((a0 = 0 → P_X6_foundWorth I17 J17 (fun r56 I56 J56 => Q r56 I56 J56)) ∧ (¬ a0 = 0 → ((a0 = 1 → Q (I17 39 10) I17 J17) ∧ (¬ a0 = 1 → P_X6_foundWord (a0 - (2 : Int32)) I17 J17 (fun r75 I75 J75 => Q r75 I75 J75)))))) ∧ (r17 = 0 → Q (-9 : Int32) I17 J17)))) ∧ (¬ a0 ≤ (13 : Int32) → Q (-2 : Int32) I J))))
abbrev rmX11_best : Room := { frames := 6, cells := 0, slots := 0, locals := 164 }
set_option maxHeartbeats 4000000 in
set_option maxRecDepth 100000 in
theorem w_X11_best {Q : Int32 → MI → MJ → Prop} (C : gC RX11 cX11_best 2 (some .int) 66 ad cy D (xF ad ts) p s m args meth c) {a0 : Int32} {I : MI} {J : MJ} {H : Heap} {locs : List Loc} {ls : Array Slot} (h : P_X11_best a0 I J Q) (hw : gH (xS ad cy) 66 ad D s I J H locs) (hl : lv_has ls 2 [(0, .ref (ad 0)), (1, .int a0)]) : W p l e rmX11_best s m args below meth c H locs 0 0 (MQ below (gQi (xS ad cy) 66 ad cy D (xF ad ts) Q) args s 0 0 (gA 66 ad)) (F0 m 0 ls []) := by
  obtain ⟨hx, hb, hC⟩ := id C
  refine lv_iload_n hx hb dX11_best_0 rfl (lv_at hl 1 rfl) ?_
  refine lv_if_lt (tgt := 10) hx hb dX11_best_1 (by decide) (fun c1 => ?_) (fun c1 => ?_)
  · have h := h.1 c1
    refine lv_bipush (v := -2) hx hb dX11_best_10 (by decide) ?_
    exact g_iret C hw h dX11_best_12
  · have h := h.2 c1
    refine lv_iload_n hx hb dX11_best_4 rfl (lv_at hl 1 rfl) ?_
    refine lv_bipush (v := 13) hx hb dX11_best_5 (by decide) ?_
    refine lv_icmp_le (tgt := 13) hx hb dX11_best_7 (by decide) (fun c7 => ?_) (fun c7 => ?_)
    · have h := h.1 c7
      refine lv_aload_n hx hb dX11_best_13 rfl (lv_at hl 0 rfl) ?_
      refine g_get C hw f_RX11_53 xl_0 (xs_0 _ _) rfl dX11_best_14 ?_
      refine g_cz hw (g_rV [] [] C hw (m_X6_findBest h) k_X6_findBest q_RX11_214 xl_39 (xs_39 _ _) rfl rfl hl.1 rfl (Nat.le_of_ble_eq_true rfl) ⟨⟨rfl, rfl⟩, Nat.le_of_ble_eq_true rfl, Nat.le_of_ble_eq_true rfl⟩ ⟨Nat.zero_le _, Nat.zero_le _⟩ dX11_best_17) (fun r17 I17 J17 H locs z17 h hw => ?_)
      refine lv_if_ne (tgt := 26) hx hb dX11_best_20 (by decide) (fun c20 => ?_) (fun c20 => ?_)
      · have h := h.1 c20
        refine lv_iload_n hx hb dX11_best_26 rfl (lv_at hl 1 rfl) ?_
        rcases Classical.em (a0 = 0) with c27_0 | c27_0
        · have h := h.1 c27_0
          refine lv_lookup (off := 25) (tgt := 52) hx hb dX11_best_27 (by decide) (by rw [c27_0]; decide) (by decide) ?_
          refine lv_aload_n hx hb dX11_best_52 rfl (lv_at hl 0 rfl) ?_
          refine g_get C hw f_RX11_53 xl_0 (xs_0 _ _) rfl dX11_best_53 ?_
          refine g_ci hw (g_rV [] [] C hw (m_X6_foundWorth h) k_X6_foundWorth q_RX11_218 xl_39 (xs_39 _ _) rfl rfl hl.1 rfl (Nat.le_of_ble_eq_true rfl) ⟨⟨rfl, rfl⟩, Nat.le_of_ble_eq_true rfl, Nat.le_of_ble_eq_true rfl⟩ ⟨Nat.zero_le _, Nat.zero_le _⟩ dX11_best_56) (fun r56 I56 J56 H locs h hw => ?_)
          exact g_iret C hw h dX11_best_59
        have h := h.2 c27_0
        rcases Classical.em (a0 = 1) with c27_1 | c27_1
        · have h := h.1 c27_1
          refine lv_lookup (off := 33) (tgt := 60) hx hb dX11_best_27 (by decide) (by rw [c27_1]; decide) (by decide) ?_
          refine lv_aload_n hx hb dX11_best_60 rfl (lv_at hl 0 rfl) ?_
          refine g_get C hw f_RX11_53 xl_0 (xs_0 _ _) rfl dX11_best_61 ?_
          refine g_get C hw f_RX11_221 xl_39 (xs_39 _ _) rfl dX11_best_64 ?_
          exact g_iret C hw h dX11_best_67
        have h := h.2 c27_1
        refine lv_lookup (off := 41) (tgt := 68) hx hb dX11_best_27 (by decide) (by show Op.lookupswitch.offset [(0, 25), (1, 33)] (41) _ = _; rw [lv_osw c27_0 (by decide), lv_osw c27_1 (by decide)]; rfl) (by decide) ?_
        refine lv_aload_n hx hb dX11_best_68 rfl (lv_at hl 0 rfl) ?_
        refine g_get C hw f_RX11_53 xl_0 (xs_0 _ _) rfl dX11_best_69 ?_
        refine lv_iload_n hx hb dX11_best_72 rfl (lv_at hl 1 rfl) ?_
        refine lv_iconst (v := 2) hx hb dX11_best_73 (by decide) ?_
        refine lv_isub hx hb dX11_best_74 ?_
        refine g_ci hw (g_rV [.int (a0 - (2 : Int32))] [] C hw (m_X6_foundWord h) k_X6_foundWord q_RX11_224 xl_39 (xs_39 _ _) rfl rfl hl.1 rfl (Nat.le_of_ble_eq_true rfl) ⟨⟨rfl, rfl⟩, Nat.le_of_ble_eq_true rfl, Nat.le_of_ble_eq_true rfl⟩ ⟨Nat.zero_le _, Nat.zero_le _⟩ dX11_best_75) (fun r75 I75 J75 H locs h hw => ?_)
        exact g_iret C hw h dX11_best_78
      · have h := h.2 c20
        refine lv_bipush (v := -9) hx hb dX11_best_23 (by decide) ?_
        exact g_iret C hw h dX11_best_25
    · have h := h.2 c7
      refine lv_bipush (v := -2) hx hb dX11_best_10 (by decide) ?_
      exact g_iret C hw h dX11_best_12
theorem m_X11_best {l : Launch} {a0 : Int32} {Q : Int32 → MI → MJ → Prop} {I : MI} {J : MJ} (h : P_X11_best a0 I J Q) : Met l yX11_best (xws yX11_best cX11_best 2 (some .int)) rmX11_best (va_Pc [.ref (ad 0), .int a0] (gB (xS ad cy) 66 ad cy D (xF ad ts) I J)) (gQi (xS ad cy) 66 ad cy D (xF ad ts) Q) 0 0 (gA 66 ad) :=
  g_met (xF_ok ad ts) rfl (by decide) (Nat.le_of_ble_eq_true rfl) (fun p e s m below meth c ls C hw hl => w_X11_best C  h hw hl)
/-! BagPhrases$Phrases.waysBy(III)J -/
def P_X6_waysBy (a0 : Int32) (a1 : Int32) (a2 : Int32) (I : MI) (J : MJ) (Q : Int64 → MI → MJ → Prop) : Prop :=
  P_X4_opens a1 a2 a0 I J (fun r7 I7 J7 => ((r7 = 0 → Q (0 : Int64) I7 J7) ∧ (¬ r7 = 0 → P_X4_tailBehind 41 a1 a0 I7 J7 (fun r23 I23 J23 => Q r23 I23 J23))))
abbrev rmX6_waysBy : Room := { frames := 1, cells := 0, slots := 0, locals := 24 }
set_option maxHeartbeats 4000000 in
set_option maxRecDepth 100000 in
theorem w_X6_waysBy {Q : Int64 → MI → MJ → Prop} (C : gC RX6 cX6_waysBy 4 (some .long) 66 ad cy D (xF ad ts) p s m args meth c) {a0 : Int32} {a1 : Int32} {a2 : Int32} {I : MI} {J : MJ} {H : Heap} {locs : List Loc} {ls : Array Slot} (h : P_X6_waysBy a0 a1 a2 I J Q) (hw : gH (xS ad cy) 66 ad D s I J H locs) (hl : lv_has ls 4 [(0, .ref (ad 39)), (1, .int a0), (2, .int a1), (3, .int a2)]) : W p l e rmX6_waysBy s m args below meth c H locs 0 0 (MQ below (gQl (xS ad cy) 66 ad cy D (xF ad ts) Q) args s 0 0 (gA 66 ad)) (F0 m 0 ls []) := by
  obtain ⟨hx, hb, hC⟩ := id C
  refine lv_aload_n hx hb dX6_waysBy_0 rfl (lv_at hl 0 rfl) ?_
  refine g_get C hw f_RX6_63 xl_39 (xs_39 _ _) rfl dX6_waysBy_1 ?_
  refine lv_iload_n hx hb dX6_waysBy_4 rfl (lv_at hl 2 rfl) ?_
  refine lv_iload_n hx hb dX6_waysBy_5 rfl (lv_at hl 3 rfl) ?_
  refine lv_iload_n hx hb dX6_waysBy_6 rfl (lv_at hl 1 rfl) ?_
  refine g_cz hw (g_rV [.int a1, .int a2, .int a0] [] C hw (m_X4_opens h) k_X4_opens q_RX6_124 xl_46 (xs_46 _ _) rfl rfl hl.1 rfl (Nat.le_of_ble_eq_true rfl) ⟨⟨rfl, rfl⟩, Nat.le_of_ble_eq_true rfl, Nat.le_of_ble_eq_true rfl⟩ ⟨Nat.zero_le _, Nat.zero_le _⟩ dX6_waysBy_7) (fun r7 I7 J7 H locs z7 h hw => ?_)
  refine lv_if_eq (tgt := 29) hx hb dX6_waysBy_10 (by decide) (fun c10 => ?_) (fun c10 => ?_)
  · have h := h.1 c10
    refine lv_lconst (v := 0) hx hb dX6_waysBy_29 (by decide) ?_
    exact g_lret C hw h dX6_waysBy_30
  · have h := h.2 c10
    refine lv_aload_n hx hb dX6_waysBy_13 rfl (lv_at hl 0 rfl) ?_
    refine g_get C hw f_RX6_63 xl_39 (xs_39 _ _) rfl dX6_waysBy_14 ?_
    refine lv_aload_n hx hb dX6_waysBy_17 rfl (lv_at hl 0 rfl) ?_
    refine g_get C hw f_RX6_18 xl_39 (xs_39 _ _) rfl dX6_waysBy_18 ?_
    refine lv_iload_n hx hb dX6_waysBy_21 rfl (lv_at hl 2 rfl) ?_
    refine lv_iload_n hx hb dX6_waysBy_22 rfl (lv_at hl 1 rfl) ?_
    refine g_cl hw (g_rV [.ref (ad 41), .int a1, .int a0] [] C hw (m_X4_tailBehind isTl_41 h) k_X4_tailBehind q_RX6_128 xl_46 (xs_46 _ _) rfl rfl hl.1 rfl (Nat.le_of_ble_eq_true rfl) ⟨⟨rfl, rfl⟩, Nat.le_of_ble_eq_true rfl, Nat.le_of_ble_eq_true rfl⟩ ⟨Nat.zero_le _, Nat.zero_le _⟩ dX6_waysBy_23) (fun r23 I23 J23 H locs h hw => ?_)
    refine lv_goto (tgt := 30) hx hb dX6_waysBy_26 (by decide) ?_
    exact g_lret C hw h dX6_waysBy_30
theorem m_X6_waysBy {l : Launch} {a0 : Int32} {a1 : Int32} {a2 : Int32} {Q : Int64 → MI → MJ → Prop} {I : MI} {J : MJ} (h : P_X6_waysBy a0 a1 a2 I J Q) : Met l yX6_waysBy (xws yX6_waysBy cX6_waysBy 4 (some .long)) rmX6_waysBy (va_Pc [.ref (ad 39), .int a0, .int a1, .int a2] (gB (xS ad cy) 66 ad cy D (xF ad ts) I J)) (gQl (xS ad cy) 66 ad cy D (xF ad ts) Q) 0 0 (gA 66 ad) :=
  g_met (xF_ok ad ts) rfl (by decide) (Nat.le_of_ble_eq_true rfl) (fun p e s m below meth c ls C hw hl => w_X6_waysBy C  h hw hl)
/-! BagPhrases$Phrases.findNumbered(J)V -/
def P_X6_findNumbered_116 (Q : MI → MJ → Prop) (kL32 : Int32 × Int32 × Int64 × Int32 × MI × MJ → Prop) (x3 : Int32) (x5 : Int64) (x7 : Int32) (x8 : Int32) (I : MI) (J : MJ) : Prop :=
  ((x8 < (I 12 4) → P_X6_cameToBy x8 x3 I J (fun r133 I133 J133 => vp_in x8 10 ∧ (vp_in (I133 13 x8.toNatClampNeg) 4 ∧ (kL32 (r133, (I133 20 (I133 13 x8.toNatClampNeg).toNatClampNeg), x5, (x7 + 1), I133, J133))))) ∧ (¬ x8 < (I 12 4) → Q I J))
def P_X6_findNumbered_111 (Q : MI → MJ → Prop) (kL32 : Int32 × Int32 × Int64 × Int32 × MI × MJ → Prop) (kL56 : Int32 × Int32 × Int64 × Int32 × Int32 × Int64 × MI × MJ → Prop) (x3 : Int32) (x4 : Int32) (x5 : Int64) (x7 : Int32) (x8 : Int32) (s0 : Int64) (I : MI) (J : MJ) : Prop :=
  kL56 (x3, x4, x5, x7, x8, s0, I, J)
def P_X6_findNumbered_56 (Q : MI → MJ → Prop) (kL32 : Int32 × Int32 × Int64 × Int32 × MI × MJ → Prop) (kL56 : Int32 × Int32 × Int64 × Int32 × Int32 × Int64 × MI × MJ → Prop) : Int32 × Int32 × Int64 × Int32 × Int32 × Int64 × MI × MJ → Prop := fun z => match z with
  | (x3, x4, x5, x7, x8, x9, I, J) => (((I 12 4) ≤ x8 → P_X6_findNumbered_116 Q kL32 x3 x5 x7 x8 I J) ∧ (¬ (I 12 4) ≤ x8 → ((x5 < x9 → P_X6_findNumbered_116 Q kL32 x3 x5 x7 x8 I J) ∧ (¬ x5 < x9 → (((I 12 4) ≤ (x8 + 1) → P_X6_findNumbered_111 Q kL32 kL56 x3 x4 (x5 - x9) x7 (x8 + 1) (0 : Int64) I J) ∧ (¬ (I 12 4) ≤ (x8 + 1) → P_X6_waysBy (x8 + 1) x3 x4 I J (fun r104 I104 J104 => P_X6_findNumbered_111 Q kL32 kL56 x3 x4 (x5 - x9) x7 (x8 + 1) r104 I104 J104)))))))
def P_X6_findNumbered_32 (Q : MI → MJ → Prop) (kL32 : Int32 × Int32 × Int64 × Int32 × MI × MJ → Prop) : Int32 × Int32 × Int64 × Int32 × MI × MJ → Prop := fun z => match z with
  | (x3, x4, x5, x7, I, J) => (((12 : Int32) ≤ x7 → Q I J) ∧ (¬ (12 : Int32) ≤ x7 → ((x3 ≤ 0 → Q I J) ∧ (¬ x3 ≤ 0 → P_X6_waysBy (0 : Int32) x3 x4 I J (fun r51 I51 J51 => lpx (P_X6_findNumbered_56 Q kL32) (x3, x4, x5, x7, (0 : Int32), r51, I51, J51))))))
def P_X6_findNumbered (a0 : Int64) (I : MI) (J : MJ) (Q : MI → MJ → Prop) : Prop :=
  P_X6_refresh I J (fun I1 J1 => (∀ I6 : MI, I6 = mI I1 39 10 (0 : Int32) → lpx (P_X6_findNumbered_32 Q) ((I6 46 11), (I6 17 3), a0, (0 : Int32), I6, J1)))
abbrev rmX6_findNumbered : Room := { frames := 5, cells := 0, slots := 0, locals := 135 }
set_option maxHeartbeats 4000000 in
set_option maxRecDepth 100000 in
theorem w_X6_findNumbered_116 {Q : MI → MJ → Prop} (C : gC RX6 cX6_findNumbered 11 none 66 ad cy D (xF ad ts) p s m args meth c) {kL32 : Int32 × Int32 × Int64 × Int32 × MI × MJ → Prop} (hL32 : ∀ {x3 : Int32} {x4 : Int32} {x5 : Int64} {x7 : Int32} {I : MI} {J : MJ} {H : Heap} {locs : List Loc} {ls : Array Slot}, kL32 (x3, x4, x5, x7, I, J) → gH (xS ad cy) 66 ad D s I J H locs → lv_has ls 11 [(0, .ref (ad 39)), (3, .int x3), (4, .int x4), (5, .long x5), (7, .int x7)] → W p l e rmX6_findNumbered s m args below meth c H locs 0 0 (MQ below (gQv (xS ad cy) 66 ad cy D (xF ad ts) Q) args s 0 0 (gA 66 ad)) (F0 m 32 ls [])) {x3 : Int32} {x5 : Int64} {x7 : Int32} {x8 : Int32} {I : MI} {J : MJ} {H : Heap} {locs : List Loc} {ls : Array Slot} (h : P_X6_findNumbered_116 Q kL32 x3 x5 x7 x8 I J) (hw : gH (xS ad cy) 66 ad D s I J H locs) (hl : lv_has ls 11 [(0, .ref (ad 39)), (3, .int x3), (5, .long x5), (7, .int x7), (8, .int x8)]) : W p l e rmX6_findNumbered s m args below meth c H locs 0 0 (MQ below (gQv (xS ad cy) 66 ad cy D (xF ad ts) Q) args s 0 0 (gA 66 ad)) (F0 m 116 ls []) := by
  obtain ⟨hx, hb, hC⟩ := id C
  refine lv_iload hx hb dX6_findNumbered_116 (lv_at hl 4 rfl) ?_
  refine lv_aload_n hx hb dX6_findNumbered_118 rfl (lv_at hl 0 rfl) ?_
  refine g_get C hw f_RX6_50 xl_39 (xs_39 _ _) rfl dX6_findNumbered_119 ?_
  refine g_get C hw f_RX6_119 xl_12 (xs_12 _ _) rfl dX6_findNumbered_122 ?_
  refine lv_icmp_lt (tgt := 129) hx hb dX6_findNumbered_125 (by decide) (fun c125 => ?_) (fun c125 => ?_)
  · have h := h.1 c125
    refine lv_aload_n hx hb dX6_findNumbered_129 rfl (lv_at hl 0 rfl) ?_
    refine lv_iload hx hb dX6_findNumbered_130 (lv_at hl 4 rfl) ?_
    refine lv_iload_n hx hb dX6_findNumbered_132 rfl (lv_at hl 1 rfl) ?_
    refine g_ci hw (g_rV [.int x8, .int x3] [] C hw (m_X6_cameToBy h) k_X6_cameToBy q_RX6_142 xl_39 (xs_39 _ _) rfl rfl hl.1 rfl (Nat.le_of_ble_eq_true rfl) ⟨⟨rfl, rfl⟩, Nat.le_of_ble_eq_true rfl, Nat.le_of_ble_eq_true rfl⟩ ⟨Nat.zero_le _, Nat.zero_le _⟩ dX6_findNumbered_133) (fun r133 I133 J133 H locs h hw => ?_)
    refine lv_istore_n (lv' := [(3, .int r133), (0, .ref (ad 39)), (5, .long x5), (7, .int x7), (8, .int x8)]) hx hb dX6_findNumbered_136 rfl hl (by decide) rfl (fun ls hl => ?_)
    refine lv_aload_n hx hb dX6_findNumbered_137 rfl (lv_at hl 1 rfl) ?_
    refine g_get C hw f_RX6_54 xl_39 (xs_39 _ _) rfl dX6_findNumbered_138 ?_
    refine g_get C hw f_RX6_146 xl_17 (xs_17 _ _) rfl dX6_findNumbered_141 ?_
    refine lv_aload_n hx hb dX6_findNumbered_144 rfl (lv_at hl 1 rfl) ?_
    refine g_get C hw f_RX6_50 xl_39 (xs_39 _ _) rfl dX6_findNumbered_145 ?_
    refine g_get C hw f_RX6_149 xl_12 (xs_12 _ _) rfl dX6_findNumbered_148 ?_
    refine lv_iload hx hb dX6_findNumbered_151 (lv_at hl 4 rfl) ?_
    refine g_iald C hw xl_13 xs_13 h.1 dX6_findNumbered_153 ?_
    have h := h.2
    refine g_iald C hw xl_20 xs_20 h.1 dX6_findNumbered_154 ?_
    have h := h.2
    refine lv_istore (lv' := [(4, .int (I133 20 (I133 13 x8.toNatClampNeg).toNatClampNeg)), (3, .int r133), (0, .ref (ad 39)), (5, .long x5), (7, .int x7), (8, .int x8)]) hx hb dX6_findNumbered_155 hl (by decide) rfl (fun ls hl => ?_)
    refine lv_iinc (v := x7 + 1) (lv' := [(7, .int (x7 + 1)), (4, .int (I133 20 (I133 13 x8.toNatClampNeg).toNatClampNeg)), (3, .int r133), (0, .ref (ad 39)), (5, .long x5), (8, .int x8)]) hx hb dX6_findNumbered_157 hl (k := 4) rfl rfl (by decide) rfl (fun ls hl => ?_)
    refine lv_goto (tgt := 32) hx hb dX6_findNumbered_160 (by decide) ?_
    exact hL32 h hw (lv_sub hl [3, 2, 1, 4, 0] rfl)
  · have h := h.2 c125
    exact g_vret C hw h dX6_findNumbered_128
set_option maxHeartbeats 4000000 in
set_option maxRecDepth 100000 in
theorem w_X6_findNumbered_111 {Q : MI → MJ → Prop} (C : gC RX6 cX6_findNumbered 11 none 66 ad cy D (xF ad ts) p s m args meth c) {kL32 : Int32 × Int32 × Int64 × Int32 × MI × MJ → Prop} (hL32 : ∀ {x3 : Int32} {x4 : Int32} {x5 : Int64} {x7 : Int32} {I : MI} {J : MJ} {H : Heap} {locs : List Loc} {ls : Array Slot}, kL32 (x3, x4, x5, x7, I, J) → gH (xS ad cy) 66 ad D s I J H locs → lv_has ls 11 [(0, .ref (ad 39)), (3, .int x3), (4, .int x4), (5, .long x5), (7, .int x7)] → W p l e rmX6_findNumbered s m args below meth c H locs 0 0 (MQ below (gQv (xS ad cy) 66 ad cy D (xF ad ts) Q) args s 0 0 (gA 66 ad)) (F0 m 32 ls [])) {kL56 : Int32 × Int32 × Int64 × Int32 × Int32 × Int64 × MI × MJ → Prop} (hL56 : ∀ {x3 : Int32} {x4 : Int32} {x5 : Int64} {x7 : Int32} {x8 : Int32} {x9 : Int64} {I : MI} {J : MJ} {H : Heap} {locs : List Loc} {ls : Array Slot}, kL56 (x3, x4, x5, x7, x8, x9, I, J) → gH (xS ad cy) 66 ad D s I J H locs → lv_has ls 11 [(0, .ref (ad 39)), (3, .int x3), (4, .int x4), (5, .long x5), (7, .int x7), (8, .int x8), (9, .long x9)] → W p l e rmX6_findNumbered s m args below meth c H locs 0 0 (MQ below (gQv (xS ad cy) 66 ad cy D (xF ad ts) Q) args s 0 0 (gA 66 ad)) (F0 m 56 ls [])) {x3 : Int32} {x4 : Int32} {x5 : Int64} {x7 : Int32} {x8 : Int32} {s0 : Int64} {I : MI} {J : MJ} {H : Heap} {locs : List Loc} {ls : Array Slot} (h : P_X6_findNumbered_111 Q kL32 kL56 x3 x4 x5 x7 x8 s0 I J) (hw : gH (xS ad cy) 66 ad D s I J H locs) (hl : lv_has ls 11 [(0, .ref (ad 39)), (3, .int x3), (4, .int x4), (5, .long x5), (7, .int x7), (8, .int x8)]) : W p l e rmX6_findNumbered s m args below meth c H locs 0 0 (MQ below (gQv (xS ad cy) 66 ad cy D (xF ad ts) Q) args s 0 0 (gA 66 ad)) (F0 m 111 ls [.long s0]) := by
  obtain ⟨hx, hb, hC⟩ := id C
  refine lv_lstore (lv' := [(9, .long s0), (0, .ref (ad 39)), (3, .int x3), (4, .int x4), (5, .long x5), (7, .int x7), (8, .int x8)]) hx hb dX6_findNumbered_111 hl (by decide) rfl (fun ls hl => ?_)
  refine lv_goto (tgt := 56) hx hb dX6_findNumbered_113 (by decide) ?_
  exact hL56 h hw (lv_sub hl [1, 2, 3, 4, 5, 6, 0] rfl)
set_option maxHeartbeats 4000000 in
set_option maxRecDepth 100000 in
theorem w_X6_findNumbered_56 {Q : MI → MJ → Prop} (C : gC RX6 cX6_findNumbered 11 none 66 ad cy D (xF ad ts) p s m args meth c) {kL32 : Int32 × Int32 × Int64 × Int32 × MI × MJ → Prop} (hL32 : ∀ {x3 : Int32} {x4 : Int32} {x5 : Int64} {x7 : Int32} {I : MI} {J : MJ} {H : Heap} {locs : List Loc} {ls : Array Slot}, kL32 (x3, x4, x5, x7, I, J) → gH (xS ad cy) 66 ad D s I J H locs → lv_has ls 11 [(0, .ref (ad 39)), (3, .int x3), (4, .int x4), (5, .long x5), (7, .int x7)] → W p l e rmX6_findNumbered s m args below meth c H locs 0 0 (MQ below (gQv (xS ad cy) 66 ad cy D (xF ad ts) Q) args s 0 0 (gA 66 ad)) (F0 m 32 ls [])) {kL56 : Int32 × Int32 × Int64 × Int32 × Int32 × Int64 × MI × MJ → Prop} (hL56 : ∀ {x3 : Int32} {x4 : Int32} {x5 : Int64} {x7 : Int32} {x8 : Int32} {x9 : Int64} {I : MI} {J : MJ} {H : Heap} {locs : List Loc} {ls : Array Slot}, kL56 (x3, x4, x5, x7, x8, x9, I, J) → gH (xS ad cy) 66 ad D s I J H locs → lv_has ls 11 [(0, .ref (ad 39)), (3, .int x3), (4, .int x4), (5, .long x5), (7, .int x7), (8, .int x8), (9, .long x9)] → W p l e rmX6_findNumbered s m args below meth c H locs 0 0 (MQ below (gQv (xS ad cy) 66 ad cy D (xF ad ts) Q) args s 0 0 (gA 66 ad)) (F0 m 56 ls [])) {x3 : Int32} {x4 : Int32} {x5 : Int64} {x7 : Int32} {x8 : Int32} {x9 : Int64} {I : MI} {J : MJ} {H : Heap} {locs : List Loc} {ls : Array Slot} (h : P_X6_findNumbered_56 Q kL32 kL56 (x3, x4, x5, x7, x8, x9, I, J)) (hw : gH (xS ad cy) 66 ad D s I J H locs) (hl : lv_has ls 11 [(0, .ref (ad 39)), (3, .int x3), (4, .int x4), (5, .long x5), (7, .int x7), (8, .int x8), (9, .long x9)]) : W p l e rmX6_findNumbered s m args below meth c H locs 0 0 (MQ below (gQv (xS ad cy) 66 ad cy D (xF ad ts) Q) args s 0 0 (gA 66 ad)) (F0 m 56 ls []) := by
  obtain ⟨hx, hb, hC⟩ := id C
  refine lv_iload hx hb dX6_findNumbered_56 (lv_at hl 5 rfl) ?_
  refine lv_aload_n hx hb dX6_findNumbered_58 rfl (lv_at hl 0 rfl) ?_
  refine g_get C hw f_RX6_50 xl_39 (xs_39 _ _) rfl dX6_findNumbered_59 ?_
  refine g_get C hw f_RX6_119 xl_12 (xs_12 _ _) rfl dX6_findNumbered_62 ?_
  refine lv_icmp_ge (tgt := 116) hx hb dX6_findNumbered_65 (by decide) (fun c65 => ?_) (fun c65 => ?_)
  · have h := h.1 c65
    exact w_X6_findNumbered_116 C hL32 h hw (lv_sub hl [0, 1, 3, 4, 5] rfl)
  · have h := h.2 c65
    refine lv_lload hx hb dX6_findNumbered_68 (lv_at hl 3 rfl) ?_
    refine lv_lload hx hb dX6_findNumbered_70 (lv_at hl 6 rfl) ?_
    refine g_lcmp_lt (tgt := 116) hx hb dX6_findNumbered_72 dX6_findNumbered_73 (by decide) (fun c72 => ?_) (fun c72 => ?_)
    · have h := h.1 c72
      exact w_X6_findNumbered_116 C hL32 h hw (lv_sub hl [0, 1, 3, 4, 5] rfl)
    · have h := h.2 c72
      refine lv_lload hx hb dX6_findNumbered_76 (lv_at hl 3 rfl) ?_
      refine lv_lload hx hb dX6_findNumbered_78 (lv_at hl 6 rfl) ?_
      refine lv_lsub hx hb dX6_findNumbered_80 ?_
      refine lv_lstore (lv' := [(5, .long (x5 - x9)), (0, .ref (ad 39)), (3, .int x3), (4, .int x4), (7, .int x7), (8, .int x8), (9, .long x9)]) hx hb dX6_findNumbered_81 hl (by decide) rfl (fun ls hl => ?_)
      refine lv_iinc (v := x8 + 1) (lv' := [(8, .int (x8 + 1)), (5, .long (x5 - x9)), (0, .ref (ad 39)), (3, .int x3), (4, .int x4), (7, .int x7), (9, .long x9)]) hx hb dX6_findNumbered_83 hl (k := 5) rfl rfl (by decide) rfl (fun ls hl => ?_)
      refine lv_iload hx hb dX6_findNumbered_86 (lv_at hl 0 rfl) ?_
      refine lv_aload_n hx hb dX6_findNumbered_88 rfl (lv_at hl 2 rfl) ?_
      refine g_get C hw f_RX6_50 xl_39 (xs_39 _ _) rfl dX6_findNumbered_89 ?_
      refine g_get C hw f_RX6_119 xl_12 (xs_12 _ _) rfl dX6_findNumbered_92 ?_
      refine lv_icmp_ge (tgt := 110) hx hb dX6_findNumbered_95 (by decide) (fun c95 => ?_) (fun c95 => ?_)
      · have h := h.1 c95
        refine lv_lconst (v := 0) hx hb dX6_findNumbered_110 (by decide) ?_
        exact w_X6_findNumbered_111 C hL32 hL56 h hw (lv_sub hl [2, 3, 4, 1, 5, 0] rfl)
      · have h := h.2 c95
        refine lv_aload_n hx hb dX6_findNumbered_98 rfl (lv_at hl 2 rfl) ?_
        refine lv_iload hx hb dX6_findNumbered_99 (lv_at hl 0 rfl) ?_
        refine lv_iload_n hx hb dX6_findNumbered_101 rfl (lv_at hl 3 rfl) ?_
        refine lv_iload hx hb dX6_findNumbered_102 (lv_at hl 4 rfl) ?_
        refine g_cl hw (g_rV [.int (x8 + 1), .int x3, .int x4] [] C hw (m_X6_waysBy h) k_X6_waysBy q_RX6_138 xl_39 (xs_39 _ _) rfl rfl hl.1 rfl (Nat.le_of_ble_eq_true rfl) ⟨⟨rfl, rfl⟩, Nat.le_of_ble_eq_true rfl, Nat.le_of_ble_eq_true rfl⟩ ⟨Nat.zero_le _, Nat.zero_le _⟩ dX6_findNumbered_104) (fun r104 I104 J104 H locs h hw => ?_)
        refine lv_goto (tgt := 111) hx hb dX6_findNumbered_107 (by decide) ?_
        exact w_X6_findNumbered_111 C hL32 hL56 h hw (lv_sub hl [2, 3, 4, 1, 5, 0] rfl)
theorem wl_X6_findNumbered_56 {Q : MI → MJ → Prop} (C : gC RX6 cX6_findNumbered 11 none 66 ad cy D (xF ad ts) p s m args meth c) {kL32 : Int32 × Int32 × Int64 × Int32 × MI × MJ → Prop} (hL32 : ∀ {x3 : Int32} {x4 : Int32} {x5 : Int64} {x7 : Int32} {I : MI} {J : MJ} {H : Heap} {locs : List Loc} {ls : Array Slot}, kL32 (x3, x4, x5, x7, I, J) → gH (xS ad cy) 66 ad D s I J H locs → lv_has ls 11 [(0, .ref (ad 39)), (3, .int x3), (4, .int x4), (5, .long x5), (7, .int x7)] → W p l e rmX6_findNumbered s m args below meth c H locs 0 0 (MQ below (gQv (xS ad cy) 66 ad cy D (xF ad ts) Q) args s 0 0 (gA 66 ad)) (F0 m 32 ls [])) {x3 : Int32} {x4 : Int32} {x5 : Int64} {x7 : Int32} {x8 : Int32} {x9 : Int64} {I : MI} {J : MJ} {H : Heap} {locs : List Loc} {ls : Array Slot} (h : lpx (P_X6_findNumbered_56 Q kL32) (x3, x4, x5, x7, x8, x9, I, J)) (hw : gH (xS ad cy) 66 ad D s I J H locs) (hl : lv_has ls 11 [(0, .ref (ad 39)), (3, .int x3), (4, .int x4), (5, .long x5), (7, .int x7), (8, .int x8), (9, .long x9)]) : W p l e rmX6_findNumbered s m args below meth c H locs 0 0 (MQ below (gQv (xS ad cy) 66 ad cy D (xF ad ts) Q) args s 0 0 (gA 66 ad)) (F0 m 56 ls []) := by
  obtain ⟨n, h⟩ := h
  induction n generalizing x3 x4 x5 x7 x8 x9 I J H locs ls with
  | zero => exact False.elim h
  | succ n ih => exact w_X6_findNumbered_56 C hL32 (fun hk9 hw9 hl9 => ih hw9 hl9 hk9) h hw hl
set_option maxHeartbeats 4000000 in
set_option maxRecDepth 100000 in
theorem w_X6_findNumbered_32 {Q : MI → MJ → Prop} (C : gC RX6 cX6_findNumbered 11 none 66 ad cy D (xF ad ts) p s m args meth c) {kL32 : Int32 × Int32 × Int64 × Int32 × MI × MJ → Prop} (hL32 : ∀ {x3 : Int32} {x4 : Int32} {x5 : Int64} {x7 : Int32} {I : MI} {J : MJ} {H : Heap} {locs : List Loc} {ls : Array Slot}, kL32 (x3, x4, x5, x7, I, J) → gH (xS ad cy) 66 ad D s I J H locs → lv_has ls 11 [(0, .ref (ad 39)), (3, .int x3), (4, .int x4), (5, .long x5), (7, .int x7)] → W p l e rmX6_findNumbered s m args below meth c H locs 0 0 (MQ below (gQv (xS ad cy) 66 ad cy D (xF ad ts) Q) args s 0 0 (gA 66 ad)) (F0 m 32 ls [])) {x3 : Int32} {x4 : Int32} {x5 : Int64} {x7 : Int32} {I : MI} {J : MJ} {H : Heap} {locs : List Loc} {ls : Array Slot} (h : P_X6_findNumbered_32 Q kL32 (x3, x4, x5, x7, I, J)) (hw : gH (xS ad cy) 66 ad D s I J H locs) (hl : lv_has ls 11 [(0, .ref (ad 39)), (3, .int x3), (4, .int x4), (5, .long x5), (7, .int x7)]) : W p l e rmX6_findNumbered s m args below meth c H locs 0 0 (MQ below (gQv (xS ad cy) 66 ad cy D (xF ad ts) Q) args s 0 0 (gA 66 ad)) (F0 m 32 ls []) := by
  obtain ⟨hx, hb, hC⟩ := id C
  refine lv_iload hx hb dX6_findNumbered_32 (lv_at hl 4 rfl) ?_
  refine lv_bipush (v := 12) hx hb dX6_findNumbered_34 (by decide) ?_
  refine lv_icmp_ge (tgt := 163) hx hb dX6_findNumbered_36 (by decide) (fun c36 => ?_) (fun c36 => ?_)
  · have h := h.1 c36
    exact g_vret C hw h dX6_findNumbered_163
  · have h := h.2 c36
    refine lv_iload_n hx hb dX6_findNumbered_39 rfl (lv_at hl 1 rfl) ?_
    refine lv_if_le (tgt := 163) hx hb dX6_findNumbered_40 (by decide) (fun c40 => ?_) (fun c40 => ?_)
    · have h := h.1 c40
      exact g_vret C hw h dX6_findNumbered_163
    · have h := h.2 c40
      refine lv_iconst (v := 0) hx hb dX6_findNumbered_43 (by decide) ?_
      refine lv_istore (lv' := [(8, .int (0 : Int32)), (0, .ref (ad 39)), (3, .int x3), (4, .int x4), (5, .long x5), (7, .int x7)]) hx hb dX6_findNumbered_44 hl (by decide) rfl (fun ls hl => ?_)
      refine lv_aload_n hx hb dX6_findNumbered_46 rfl (lv_at hl 1 rfl) ?_
      refine lv_iconst (v := 0) hx hb dX6_findNumbered_47 (by decide) ?_
      refine lv_iload_n hx hb dX6_findNumbered_48 rfl (lv_at hl 2 rfl) ?_
      refine lv_iload hx hb dX6_findNumbered_49 (lv_at hl 3 rfl) ?_
      refine g_cl hw (g_rV [.int (0 : Int32), .int x3, .int x4] [] C hw (m_X6_waysBy h) k_X6_waysBy q_RX6_138 xl_39 (xs_39 _ _) rfl rfl hl.1 rfl (Nat.le_of_ble_eq_true rfl) ⟨⟨rfl, rfl⟩, Nat.le_of_ble_eq_true rfl, Nat.le_of_ble_eq_true rfl⟩ ⟨Nat.zero_le _, Nat.zero_le _⟩ dX6_findNumbered_51) (fun r51 I51 J51 H locs h hw => ?_)
      refine lv_lstore (lv' := [(9, .long r51), (8, .int (0 : Int32)), (0, .ref (ad 39)), (3, .int x3), (4, .int x4), (5, .long x5), (7, .int x7)]) hx hb dX6_findNumbered_54 hl (by decide) rfl (fun ls hl => ?_)
      exact wl_X6_findNumbered_56 C hL32 h hw (lv_sub hl [2, 3, 4, 5, 6, 1, 0] rfl)
theorem wl_X6_findNumbered_32 {Q : MI → MJ → Prop} (C : gC RX6 cX6_findNumbered 11 none 66 ad cy D (xF ad ts) p s m args meth c) {x3 : Int32} {x4 : Int32} {x5 : Int64} {x7 : Int32} {I : MI} {J : MJ} {H : Heap} {locs : List Loc} {ls : Array Slot} (h : lpx (P_X6_findNumbered_32 Q) (x3, x4, x5, x7, I, J)) (hw : gH (xS ad cy) 66 ad D s I J H locs) (hl : lv_has ls 11 [(0, .ref (ad 39)), (3, .int x3), (4, .int x4), (5, .long x5), (7, .int x7)]) : W p l e rmX6_findNumbered s m args below meth c H locs 0 0 (MQ below (gQv (xS ad cy) 66 ad cy D (xF ad ts) Q) args s 0 0 (gA 66 ad)) (F0 m 32 ls []) := by
  obtain ⟨n, h⟩ := h
  induction n generalizing x3 x4 x5 x7 I J H locs ls with
  | zero => exact False.elim h
  | succ n ih => exact w_X6_findNumbered_32 C  (fun hk9 hw9 hl9 => ih hw9 hl9 hk9) h hw hl
set_option maxHeartbeats 4000000 in
set_option maxRecDepth 100000 in
theorem w_X6_findNumbered {Q : MI → MJ → Prop} (C : gC RX6 cX6_findNumbered 11 none 66 ad cy D (xF ad ts) p s m args meth c) {a0 : Int64} {I : MI} {J : MJ} {H : Heap} {locs : List Loc} {ls : Array Slot} (h : P_X6_findNumbered a0 I J Q) (hw : gH (xS ad cy) 66 ad D s I J H locs) (hl : lv_has ls 11 [(0, .ref (ad 39)), (1, .long a0)]) : W p l e rmX6_findNumbered s m args below meth c H locs 0 0 (MQ below (gQv (xS ad cy) 66 ad cy D (xF ad ts) Q) args s 0 0 (gA 66 ad)) (F0 m 0 ls []) := by
  obtain ⟨hx, hb, hC⟩ := id C
  refine lv_aload_n hx hb dX6_findNumbered_0 rfl (lv_at hl 0 rfl) ?_
  refine g_cv hw (g_rV [] [] C hw (m_X6_refresh h) k_X6_refresh q_RX6_96 xl_39 (xs_39 _ _) rfl rfl hl.1 rfl (Nat.le_of_ble_eq_true rfl) ⟨⟨rfl, rfl⟩, Nat.le_of_ble_eq_true rfl, Nat.le_of_ble_eq_true rfl⟩ ⟨Nat.zero_le _, Nat.zero_le _⟩ dX6_findNumbered_1) (fun I1 J1 H locs h hw => ?_)
  refine lv_aload_n hx hb dX6_findNumbered_4 rfl (lv_at hl 0 rfl) ?_
  refine lv_iconst (v := 0) hx hb dX6_findNumbered_5 (by decide) ?_
  refine g_putI C hw fp_RX6_35 xl_39 xs_39 (st_6_10 ad _) (Nat.le_of_ble_eq_true rfl) rfl rfl dX6_findNumbered_6 (fun H locs hw => ?_)
  obtain ⟨I6, e6⟩ : ∃ z : MI, z = mI I1 39 10 (0 : Int32) := ⟨_, rfl⟩
  have h := h I6 e6
  rw [← e6] at hw
  refine lv_aload_n hx hb dX6_findNumbered_9 rfl (lv_at hl 0 rfl) ?_
  refine g_get C hw f_RX6_63 xl_39 (xs_39 _ _) rfl dX6_findNumbered_10 ?_
  refine g_get C hw f_RX6_132 xl_46 (xs_46 _ _) rfl dX6_findNumbered_13 ?_
  refine lv_istore_n (lv' := [(3, .int (I6 46 11)), (0, .ref (ad 39)), (1, .long a0)]) hx hb dX6_findNumbered_16 rfl hl (by decide) rfl (fun ls hl => ?_)
  refine lv_aload_n hx hb dX6_findNumbered_17 rfl (lv_at hl 1 rfl) ?_
  refine g_get C hw f_RX6_54 xl_39 (xs_39 _ _) rfl dX6_findNumbered_18 ?_
  refine g_get C hw f_RX6_135 xl_17 (xs_17 _ _) rfl dX6_findNumbered_21 ?_
  refine lv_istore (lv' := [(4, .int (I6 17 3)), (3, .int (I6 46 11)), (0, .ref (ad 39)), (1, .long a0)]) hx hb dX6_findNumbered_24 hl (by decide) rfl (fun ls hl => ?_)
  refine lv_lload_n hx hb dX6_findNumbered_26 rfl (lv_at hl 3 rfl) ?_
  refine lv_lstore (lv' := [(5, .long a0), (4, .int (I6 17 3)), (3, .int (I6 46 11)), (0, .ref (ad 39)), (1, .long a0)]) hx hb dX6_findNumbered_27 hl (by decide) rfl (fun ls hl => ?_)
  refine lv_iconst (v := 0) hx hb dX6_findNumbered_29 (by decide) ?_
  refine lv_istore (lv' := [(7, .int (0 : Int32)), (5, .long a0), (4, .int (I6 17 3)), (3, .int (I6 46 11)), (0, .ref (ad 39)), (1, .long a0)]) hx hb dX6_findNumbered_30 hl (by decide) rfl (fun ls hl => ?_)
  exact wl_X6_findNumbered_32 C  h hw (lv_sub hl [4, 3, 2, 1, 0] rfl)
theorem m_X6_findNumbered {l : Launch} {a0 : Int64} {Q : MI → MJ → Prop} {I : MI} {J : MJ} (h : P_X6_findNumbered a0 I J Q) : Met l yX6_findNumbered (xws yX6_findNumbered cX6_findNumbered 11 none) rmX6_findNumbered (va_Pc [.ref (ad 39), .long a0] (gB (xS ad cy) 66 ad cy D (xF ad ts) I J)) (gQv (xS ad cy) 66 ad cy D (xF ad ts) Q) 0 0 (gA 66 ad) :=
  g_met (xF_ok ad ts) rfl (by decide) (Nat.le_of_ble_eq_true rfl) (fun p e s m below meth c ls C hw hl => w_X6_findNumbered C  h hw hl)
end
