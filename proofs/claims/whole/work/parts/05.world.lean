/-! the cells of the two worlds: printed by wip/whole/world.py out of layout.py -/
def sw (x : Int32) : Nat := if x = 0 then 44 else 45
def swi (c : Nat) : Int32 := if c = 44 then 0 else 1
def fR (ad : Nat → Nat) : Nat → Option Nat := fun j => if j = 0 then some (ad 26) else some (ad 30)
def fs10 (ad : Nat → Nat) (i : Nat → Int32) (q : Nat → Int64) : List Value := [.ref (ad 1), .ref (ad 12), .ref (ad 17), .ref (ad 21), .ref (ad 25), .ref (ad 34), .ref (ad 35), .ref (ad 39), .ref (ad 55), .ref (ad 61), .ref (ad 62), .ref (ad 63), .ref (ad 64), .ref (ad 65), .int (i 14), .int (i 15), .long (q 16)]
def fs7 (ad : Nat → Nat) (i : Nat → Int32) (q : Nat → Int64) : List Value := [.ref (ad 2), .ref (ad 3), .ref (ad 8), .int (i 3), .int (i 4), .int (i 5)]
def fs5 (ad : Nat → Nat) (k : Nat) (i : Nat → Int32) (q : Nat → Int64) : List Value := [.ref (ad (k + 1)), .ref (ad (k + 2)), .ref (ad (k + 3)), .ref (ad (k + 4)), .int (i 4)]
def fs8 (ad : Nat → Nat) (k : Nat) (i : Nat → Int32) (q : Nat → Int64) : List Value := [.ref (ad (k + 1)), .ref (ad (k + 2)), .ref (ad (k + 3)), .int (i 3), .int (i 4), .int (i 5)]
def fs2 (ad : Nat → Nat) (i : Nat → Int32) (q : Nat → Int64) : List Value := [.ref (ad 36), .ref (ad 37), .ref (ad 38), .int (i 3)]
def fs6 (ad : Nat → Nat) (i : Nat → Int32) (q : Nat → Int64) : List Value := [.ref (ad 12), .ref (ad 17), .ref (ad 46), .ref (ad 40), .ref (ad 54), .ref (ad 41), .ref (ad 42), .ref (ad 43), .ref (ad (sw (i 8))), .ref (ad (sw (i 9))), .int (i 10), .long (q 11), .int (i 12), .int (i 13)]
def fs1 (ad : Nat → Nat) (i : Nat → Int32) (q : Nat → Int64) : List Value := []
def fs4 (ad : Nat → Nat) (i : Nat → Int32) (q : Nat → Int64) : List Value := [.ref (ad 12), .ref (ad 17), .ref (ad 47), .ref (ad 48), .ref (ad 49), .ref (ad 50), .ref (ad 51), .ref (ad 52), .ref (ad 53), .int (i 9), .int (i 10), .int (i 11)]
def fs9 (ad : Nat → Nat) (i : Nat → Int32) (q : Nat → Int64) : List Value := [.ref (ad 19)]
def fs0 (ad : Nat → Nat) (i : Nat → Int32) (q : Nat → Int64) : List Value := [.ref (ad 12), .ref (ad 17), .ref (ad 39), .ref (ad 56), .ref (ad 58), .ref (ad 59), .ref (ad 60), .int (i 7), .int (i 8), .int (i 9)]
def fs3 (ad : Nat → Nat) (i : Nat → Int32) (q : Nat → Int64) : List Value := [.ref (ad 57)]
def fs11 (ad : Nat → Nat) (i : Nat → Int32) (q : Nat → Int64) : List Value := [.ref (ad 1), .int (i 1), .int (i 2), .ref (ad 2), .ref (ad 3), .ref (ad 4), .ref (ad 5), .ref (ad 6), .ref (ad 7), .ref (ad 8), .int (i 10), .int (i 11), .ref (ad 9), .ref (ad 10), .ref (ad 11), .int (i 15), .ref (ad 12), .ref (ad 13), .ref (ad 14), .int (i 19), .long (q 20), .int (i 21), .ref (ad 15), .ref (ad 16), .ref (ad 17), .ref (ad 18), .int (i 26), .int (i 27), .int (i 28), .ref (ad 19), .ref (ad 20), .int (i 31), .int (i 32), .ref (ad 21), .ref (ad 22), .ref (ad 23), .ref (ad 24), .ref (ad 25), .ref (ad 26), .ref (ad 27), .ref (ad 28), .int (i 41), .int (i 42), .int (i 43), .ref (ad 29)]
def xS (ad : Nat → Nat) (cy : Nat → ClassId) : gS := fun c i q => match c with
  | 0 => .inr (10, fs10 ad i q)
  | 1 => .inr (7, fs7 ad i q)
  | 2 => .inl (cy 0, 180, .inl i)
  | 3 => .inr (5, fs5 ad 3 i q)
  | 4 => .inl (cy 0, 10, .inl i)
  | 5 => .inl (cy 0, 10, .inl i)
  | 6 => .inl (cy 1, 10, .inr (.inl q))
  | 7 => .inl (cy 0, 60, .inl i)
  | 8 => .inr (8, fs8 ad 8 i q)
  | 9 => .inl (cy 0, 8, .inl i)
  | 10 => .inl (cy 0, 10, .inl i)
  | 11 => .inl (cy 0, 4, .inl i)
  | 12 => .inr (5, fs5 ad 12 i q)
  | 13 => .inl (cy 0, 10, .inl i)
  | 14 => .inl (cy 0, 10, .inl i)
  | 15 => .inl (cy 1, 10, .inr (.inl q))
  | 16 => .inl (cy 0, 60, .inl i)
  | 17 => .inr (8, fs8 ad 17 i q)
  | 18 => .inl (cy 0, 8, .inl i)
  | 19 => .inl (cy 0, 10, .inl i)
  | 20 => .inl (cy 0, 4, .inl i)
  | 21 => .inr (8, fs8 ad 21 i q)
  | 22 => .inl (cy 0, 8, .inl i)
  | 23 => .inl (cy 0, 10, .inl i)
  | 24 => .inl (cy 0, 4, .inl i)
  | 25 => .inl (cy 3, 2, .inr (.inr (.inr (.inr (fR ad)))))
  | 26 => .inr (8, fs8 ad 26 i q)
  | 27 => .inl (cy 0, 8, .inl i)
  | 28 => .inl (cy 0, 10, .inl i)
  | 29 => .inl (cy 0, 4, .inl i)
  | 30 => .inr (8, fs8 ad 30 i q)
  | 31 => .inl (cy 0, 8, .inl i)
  | 32 => .inl (cy 0, 10, .inl i)
  | 33 => .inl (cy 0, 4, .inl i)
  | 34 => .inl (cy 2, 2, .inl i)
  | 35 => .inr (2, fs2 ad i q)
  | 36 => .inl (cy 0, 14, .inl i)
  | 37 => .inl (cy 0, 14, .inl i)
  | 38 => .inl (cy 0, 14, .inl i)
  | 39 => .inr (6, fs6 ad i q)
  | 40 => .inr (1, fs1 ad i q)
  | 41 => .inl (cy 1, 5184, .inr (.inl q))
  | 42 => .inl (cy 1, 13, .inr (.inl q))
  | 43 => .inl (cy 0, 12, .inl i)
  | 44 => .inl (cy 1, 5184, .inr (.inl q))
  | 45 => .inl (cy 1, 5184, .inr (.inl q))
  | 46 => .inr (4, fs4 ad i q)
  | 47 => .inl (cy 1, 1944, .inr (.inl q))
  | 48 => .inl (cy 0, 1944, .inl i)
  | 49 => .inl (cy 0, 1944, .inl i)
  | 50 => .inl (cy 0, 1944, .inl i)
  | 51 => .inl (cy 0, 8, .inl i)
  | 52 => .inl (cy 0, 10, .inl i)
  | 53 => .inl (cy 1, 4, .inr (.inl q))
  | 54 => .inr (9, fs9 ad i q)
  | 55 => .inr (0, fs0 ad i q)
  | 56 => .inr (3, fs3 ad i q)
  | 57 => .inl (cy 1, 10, .inr (.inl q))
  | 58 => .inl (cy 0, 8, .inl i)
  | 59 => .inl (cy 1, 4, .inr (.inl q))
  | 60 => .inl (cy 1, 256, .inr (.inl q))
  | 61 => .inl (cy 0, 12, .inl i)
  | 62 => .inl (cy 0, 4, .inl i)
  | 63 => .inl (cy 0, 4, .inl i)
  | 64 => .inl (cy 0, 8, .inl i)
  | 65 => .inl (cy 0, 18, .inl i)
  | _ => .inr (1, [])
theorem xs_0 {ad : Nat → Nat} {cy : Nat → ClassId} (i : Nat → Int32) (q : Nat → Int64) : xS ad cy 0 i q = .inr (10, fs10 ad i q) := rfl
theorem xl_0 : 0 < 66 := by decide
theorem xs_1 {ad : Nat → Nat} {cy : Nat → ClassId} (i : Nat → Int32) (q : Nat → Int64) : xS ad cy 1 i q = .inr (7, fs7 ad i q) := rfl
theorem xl_1 : 1 < 66 := by decide
theorem xs_2 {ad : Nat → Nat} {cy : Nat → ClassId} (i : Nat → Int32) (q : Nat → Int64) : xS ad cy 2 i q = .inl (cy 0, 180, .inl i) := rfl
theorem xl_2 : 2 < 66 := by decide
theorem xs_3 {ad : Nat → Nat} {cy : Nat → ClassId} (i : Nat → Int32) (q : Nat → Int64) : xS ad cy 3 i q = .inr (5, fs5 ad 3 i q) := rfl
theorem xl_3 : 3 < 66 := by decide
theorem xs_4 {ad : Nat → Nat} {cy : Nat → ClassId} (i : Nat → Int32) (q : Nat → Int64) : xS ad cy 4 i q = .inl (cy 0, 10, .inl i) := rfl
theorem xl_4 : 4 < 66 := by decide
theorem xs_5 {ad : Nat → Nat} {cy : Nat → ClassId} (i : Nat → Int32) (q : Nat → Int64) : xS ad cy 5 i q = .inl (cy 0, 10, .inl i) := rfl
theorem xl_5 : 5 < 66 := by decide
theorem xs_6 {ad : Nat → Nat} {cy : Nat → ClassId} (i : Nat → Int32) (q : Nat → Int64) : xS ad cy 6 i q = .inl (cy 1, 10, .inr (.inl q)) := rfl
theorem xl_6 : 6 < 66 := by decide
theorem xs_7 {ad : Nat → Nat} {cy : Nat → ClassId} (i : Nat → Int32) (q : Nat → Int64) : xS ad cy 7 i q = .inl (cy 0, 60, .inl i) := rfl
theorem xl_7 : 7 < 66 := by decide
theorem xs_8 {ad : Nat → Nat} {cy : Nat → ClassId} (i : Nat → Int32) (q : Nat → Int64) : xS ad cy 8 i q = .inr (8, fs8 ad 8 i q) := rfl
theorem xl_8 : 8 < 66 := by decide
theorem xs_9 {ad : Nat → Nat} {cy : Nat → ClassId} (i : Nat → Int32) (q : Nat → Int64) : xS ad cy 9 i q = .inl (cy 0, 8, .inl i) := rfl
theorem xl_9 : 9 < 66 := by decide
theorem xs_10 {ad : Nat → Nat} {cy : Nat → ClassId} (i : Nat → Int32) (q : Nat → Int64) : xS ad cy 10 i q = .inl (cy 0, 10, .inl i) := rfl
theorem xl_10 : 10 < 66 := by decide
theorem xs_11 {ad : Nat → Nat} {cy : Nat → ClassId} (i : Nat → Int32) (q : Nat → Int64) : xS ad cy 11 i q = .inl (cy 0, 4, .inl i) := rfl
theorem xl_11 : 11 < 66 := by decide
theorem xs_12 {ad : Nat → Nat} {cy : Nat → ClassId} (i : Nat → Int32) (q : Nat → Int64) : xS ad cy 12 i q = .inr (5, fs5 ad 12 i q) := rfl
theorem xl_12 : 12 < 66 := by decide
theorem xs_13 {ad : Nat → Nat} {cy : Nat → ClassId} (i : Nat → Int32) (q : Nat → Int64) : xS ad cy 13 i q = .inl (cy 0, 10, .inl i) := rfl
theorem xl_13 : 13 < 66 := by decide
theorem xs_14 {ad : Nat → Nat} {cy : Nat → ClassId} (i : Nat → Int32) (q : Nat → Int64) : xS ad cy 14 i q = .inl (cy 0, 10, .inl i) := rfl
theorem xl_14 : 14 < 66 := by decide
theorem xs_15 {ad : Nat → Nat} {cy : Nat → ClassId} (i : Nat → Int32) (q : Nat → Int64) : xS ad cy 15 i q = .inl (cy 1, 10, .inr (.inl q)) := rfl
theorem xl_15 : 15 < 66 := by decide
theorem xs_16 {ad : Nat → Nat} {cy : Nat → ClassId} (i : Nat → Int32) (q : Nat → Int64) : xS ad cy 16 i q = .inl (cy 0, 60, .inl i) := rfl
theorem xl_16 : 16 < 66 := by decide
theorem xs_17 {ad : Nat → Nat} {cy : Nat → ClassId} (i : Nat → Int32) (q : Nat → Int64) : xS ad cy 17 i q = .inr (8, fs8 ad 17 i q) := rfl
theorem xl_17 : 17 < 66 := by decide
theorem xs_18 {ad : Nat → Nat} {cy : Nat → ClassId} (i : Nat → Int32) (q : Nat → Int64) : xS ad cy 18 i q = .inl (cy 0, 8, .inl i) := rfl
theorem xl_18 : 18 < 66 := by decide
theorem xs_19 {ad : Nat → Nat} {cy : Nat → ClassId} (i : Nat → Int32) (q : Nat → Int64) : xS ad cy 19 i q = .inl (cy 0, 10, .inl i) := rfl
theorem xl_19 : 19 < 66 := by decide
theorem xs_20 {ad : Nat → Nat} {cy : Nat → ClassId} (i : Nat → Int32) (q : Nat → Int64) : xS ad cy 20 i q = .inl (cy 0, 4, .inl i) := rfl
theorem xl_20 : 20 < 66 := by decide
theorem xs_21 {ad : Nat → Nat} {cy : Nat → ClassId} (i : Nat → Int32) (q : Nat → Int64) : xS ad cy 21 i q = .inr (8, fs8 ad 21 i q) := rfl
theorem xl_21 : 21 < 66 := by decide
theorem xs_22 {ad : Nat → Nat} {cy : Nat → ClassId} (i : Nat → Int32) (q : Nat → Int64) : xS ad cy 22 i q = .inl (cy 0, 8, .inl i) := rfl
theorem xl_22 : 22 < 66 := by decide
theorem xs_23 {ad : Nat → Nat} {cy : Nat → ClassId} (i : Nat → Int32) (q : Nat → Int64) : xS ad cy 23 i q = .inl (cy 0, 10, .inl i) := rfl
theorem xl_23 : 23 < 66 := by decide
theorem xs_24 {ad : Nat → Nat} {cy : Nat → ClassId} (i : Nat → Int32) (q : Nat → Int64) : xS ad cy 24 i q = .inl (cy 0, 4, .inl i) := rfl
theorem xl_24 : 24 < 66 := by decide
theorem xs_25 {ad : Nat → Nat} {cy : Nat → ClassId} (i : Nat → Int32) (q : Nat → Int64) : xS ad cy 25 i q = .inl (cy 3, 2, .inr (.inr (.inr (.inr (fR ad))))) := rfl
theorem xl_25 : 25 < 66 := by decide
theorem xs_26 {ad : Nat → Nat} {cy : Nat → ClassId} (i : Nat → Int32) (q : Nat → Int64) : xS ad cy 26 i q = .inr (8, fs8 ad 26 i q) := rfl
theorem xl_26 : 26 < 66 := by decide
theorem xs_27 {ad : Nat → Nat} {cy : Nat → ClassId} (i : Nat → Int32) (q : Nat → Int64) : xS ad cy 27 i q = .inl (cy 0, 8, .inl i) := rfl
theorem xl_27 : 27 < 66 := by decide
theorem xs_28 {ad : Nat → Nat} {cy : Nat → ClassId} (i : Nat → Int32) (q : Nat → Int64) : xS ad cy 28 i q = .inl (cy 0, 10, .inl i) := rfl
theorem xl_28 : 28 < 66 := by decide
theorem xs_29 {ad : Nat → Nat} {cy : Nat → ClassId} (i : Nat → Int32) (q : Nat → Int64) : xS ad cy 29 i q = .inl (cy 0, 4, .inl i) := rfl
theorem xl_29 : 29 < 66 := by decide
theorem xs_30 {ad : Nat → Nat} {cy : Nat → ClassId} (i : Nat → Int32) (q : Nat → Int64) : xS ad cy 30 i q = .inr (8, fs8 ad 30 i q) := rfl
theorem xl_30 : 30 < 66 := by decide
theorem xs_31 {ad : Nat → Nat} {cy : Nat → ClassId} (i : Nat → Int32) (q : Nat → Int64) : xS ad cy 31 i q = .inl (cy 0, 8, .inl i) := rfl
theorem xl_31 : 31 < 66 := by decide
theorem xs_32 {ad : Nat → Nat} {cy : Nat → ClassId} (i : Nat → Int32) (q : Nat → Int64) : xS ad cy 32 i q = .inl (cy 0, 10, .inl i) := rfl
theorem xl_32 : 32 < 66 := by decide
theorem xs_33 {ad : Nat → Nat} {cy : Nat → ClassId} (i : Nat → Int32) (q : Nat → Int64) : xS ad cy 33 i q = .inl (cy 0, 4, .inl i) := rfl
theorem xl_33 : 33 < 66 := by decide
theorem xs_34 {ad : Nat → Nat} {cy : Nat → ClassId} (i : Nat → Int32) (q : Nat → Int64) : xS ad cy 34 i q = .inl (cy 2, 2, .inl i) := rfl
theorem xl_34 : 34 < 66 := by decide
theorem xs_35 {ad : Nat → Nat} {cy : Nat → ClassId} (i : Nat → Int32) (q : Nat → Int64) : xS ad cy 35 i q = .inr (2, fs2 ad i q) := rfl
theorem xl_35 : 35 < 66 := by decide
theorem xs_36 {ad : Nat → Nat} {cy : Nat → ClassId} (i : Nat → Int32) (q : Nat → Int64) : xS ad cy 36 i q = .inl (cy 0, 14, .inl i) := rfl
theorem xl_36 : 36 < 66 := by decide
theorem xs_37 {ad : Nat → Nat} {cy : Nat → ClassId} (i : Nat → Int32) (q : Nat → Int64) : xS ad cy 37 i q = .inl (cy 0, 14, .inl i) := rfl
theorem xl_37 : 37 < 66 := by decide
theorem xs_38 {ad : Nat → Nat} {cy : Nat → ClassId} (i : Nat → Int32) (q : Nat → Int64) : xS ad cy 38 i q = .inl (cy 0, 14, .inl i) := rfl
theorem xl_38 : 38 < 66 := by decide
theorem xs_39 {ad : Nat → Nat} {cy : Nat → ClassId} (i : Nat → Int32) (q : Nat → Int64) : xS ad cy 39 i q = .inr (6, fs6 ad i q) := rfl
theorem xl_39 : 39 < 66 := by decide
theorem xs_40 {ad : Nat → Nat} {cy : Nat → ClassId} (i : Nat → Int32) (q : Nat → Int64) : xS ad cy 40 i q = .inr (1, fs1 ad i q) := rfl
theorem xl_40 : 40 < 66 := by decide
theorem xs_41 {ad : Nat → Nat} {cy : Nat → ClassId} (i : Nat → Int32) (q : Nat → Int64) : xS ad cy 41 i q = .inl (cy 1, 5184, .inr (.inl q)) := rfl
theorem xl_41 : 41 < 66 := by decide
theorem xs_42 {ad : Nat → Nat} {cy : Nat → ClassId} (i : Nat → Int32) (q : Nat → Int64) : xS ad cy 42 i q = .inl (cy 1, 13, .inr (.inl q)) := rfl
theorem xl_42 : 42 < 66 := by decide
theorem xs_43 {ad : Nat → Nat} {cy : Nat → ClassId} (i : Nat → Int32) (q : Nat → Int64) : xS ad cy 43 i q = .inl (cy 0, 12, .inl i) := rfl
theorem xl_43 : 43 < 66 := by decide
theorem xs_44 {ad : Nat → Nat} {cy : Nat → ClassId} (i : Nat → Int32) (q : Nat → Int64) : xS ad cy 44 i q = .inl (cy 1, 5184, .inr (.inl q)) := rfl
theorem xl_44 : 44 < 66 := by decide
theorem xs_45 {ad : Nat → Nat} {cy : Nat → ClassId} (i : Nat → Int32) (q : Nat → Int64) : xS ad cy 45 i q = .inl (cy 1, 5184, .inr (.inl q)) := rfl
theorem xl_45 : 45 < 66 := by decide
theorem xs_46 {ad : Nat → Nat} {cy : Nat → ClassId} (i : Nat → Int32) (q : Nat → Int64) : xS ad cy 46 i q = .inr (4, fs4 ad i q) := rfl
theorem xl_46 : 46 < 66 := by decide
theorem xs_47 {ad : Nat → Nat} {cy : Nat → ClassId} (i : Nat → Int32) (q : Nat → Int64) : xS ad cy 47 i q = .inl (cy 1, 1944, .inr (.inl q)) := rfl
theorem xl_47 : 47 < 66 := by decide
theorem xs_48 {ad : Nat → Nat} {cy : Nat → ClassId} (i : Nat → Int32) (q : Nat → Int64) : xS ad cy 48 i q = .inl (cy 0, 1944, .inl i) := rfl
theorem xl_48 : 48 < 66 := by decide
theorem xs_49 {ad : Nat → Nat} {cy : Nat → ClassId} (i : Nat → Int32) (q : Nat → Int64) : xS ad cy 49 i q = .inl (cy 0, 1944, .inl i) := rfl
theorem xl_49 : 49 < 66 := by decide
theorem xs_50 {ad : Nat → Nat} {cy : Nat → ClassId} (i : Nat → Int32) (q : Nat → Int64) : xS ad cy 50 i q = .inl (cy 0, 1944, .inl i) := rfl
theorem xl_50 : 50 < 66 := by decide
theorem xs_51 {ad : Nat → Nat} {cy : Nat → ClassId} (i : Nat → Int32) (q : Nat → Int64) : xS ad cy 51 i q = .inl (cy 0, 8, .inl i) := rfl
theorem xl_51 : 51 < 66 := by decide
theorem xs_52 {ad : Nat → Nat} {cy : Nat → ClassId} (i : Nat → Int32) (q : Nat → Int64) : xS ad cy 52 i q = .inl (cy 0, 10, .inl i) := rfl
theorem xl_52 : 52 < 66 := by decide
theorem xs_53 {ad : Nat → Nat} {cy : Nat → ClassId} (i : Nat → Int32) (q : Nat → Int64) : xS ad cy 53 i q = .inl (cy 1, 4, .inr (.inl q)) := rfl
theorem xl_53 : 53 < 66 := by decide
theorem xs_54 {ad : Nat → Nat} {cy : Nat → ClassId} (i : Nat → Int32) (q : Nat → Int64) : xS ad cy 54 i q = .inr (9, fs9 ad i q) := rfl
theorem xl_54 : 54 < 66 := by decide
theorem xs_55 {ad : Nat → Nat} {cy : Nat → ClassId} (i : Nat → Int32) (q : Nat → Int64) : xS ad cy 55 i q = .inr (0, fs0 ad i q) := rfl
theorem xl_55 : 55 < 66 := by decide
theorem xs_56 {ad : Nat → Nat} {cy : Nat → ClassId} (i : Nat → Int32) (q : Nat → Int64) : xS ad cy 56 i q = .inr (3, fs3 ad i q) := rfl
theorem xl_56 : 56 < 66 := by decide
theorem xs_57 {ad : Nat → Nat} {cy : Nat → ClassId} (i : Nat → Int32) (q : Nat → Int64) : xS ad cy 57 i q = .inl (cy 1, 10, .inr (.inl q)) := rfl
theorem xl_57 : 57 < 66 := by decide
theorem xs_58 {ad : Nat → Nat} {cy : Nat → ClassId} (i : Nat → Int32) (q : Nat → Int64) : xS ad cy 58 i q = .inl (cy 0, 8, .inl i) := rfl
theorem xl_58 : 58 < 66 := by decide
theorem xs_59 {ad : Nat → Nat} {cy : Nat → ClassId} (i : Nat → Int32) (q : Nat → Int64) : xS ad cy 59 i q = .inl (cy 1, 4, .inr (.inl q)) := rfl
theorem xl_59 : 59 < 66 := by decide
theorem xs_60 {ad : Nat → Nat} {cy : Nat → ClassId} (i : Nat → Int32) (q : Nat → Int64) : xS ad cy 60 i q = .inl (cy 1, 256, .inr (.inl q)) := rfl
theorem xl_60 : 60 < 66 := by decide
theorem xs_61 {ad : Nat → Nat} {cy : Nat → ClassId} (i : Nat → Int32) (q : Nat → Int64) : xS ad cy 61 i q = .inl (cy 0, 12, .inl i) := rfl
theorem xl_61 : 61 < 66 := by decide
theorem xs_62 {ad : Nat → Nat} {cy : Nat → ClassId} (i : Nat → Int32) (q : Nat → Int64) : xS ad cy 62 i q = .inl (cy 0, 4, .inl i) := rfl
theorem xl_62 : 62 < 66 := by decide
theorem xs_63 {ad : Nat → Nat} {cy : Nat → ClassId} (i : Nat → Int32) (q : Nat → Int64) : xS ad cy 63 i q = .inl (cy 0, 4, .inl i) := rfl
theorem xl_63 : 63 < 66 := by decide
theorem xs_64 {ad : Nat → Nat} {cy : Nat → ClassId} (i : Nat → Int32) (q : Nat → Int64) : xS ad cy 64 i q = .inl (cy 0, 8, .inl i) := rfl
theorem xl_64 : 64 < 66 := by decide
theorem xs_65 {ad : Nat → Nat} {cy : Nat → ClassId} (i : Nat → Int32) (q : Nat → Int64) : xS ad cy 65 i q = .inl (cy 0, 18, .inl i) := rfl
theorem xl_65 : 65 < 66 := by decide
def mS (ad : Nat → Nat) (cy : Nat → ClassId) : gS := fun c i q => match c with
  | 0 => .inr (11, fs11 ad i q)
  | 1 => .inl (cy 0, 180, .inl i)
  | 2 => .inl (cy 0, 60, .inl i)
  | 3 => .inl (cy 0, 10, .inl i)
  | 4 => .inl (cy 0, 10, .inl i)
  | 5 => .inl (cy 0, 80, .inl i)
  | 6 => .inl (cy 0, 25, .inl i)
  | 7 => .inl (cy 0, 25, .inl i)
  | 8 => .inl (cy 0, 350, .inl i)
  | 9 => .inl (cy 0, 50, .inl i)
  | 10 => .inl (cy 2, 2, .inl i)
  | 11 => .inl (cy 0, 12, .inl i)
  | 12 => .inl (cy 0, 6, .inl i)
  | 13 => .inl (cy 0, 6, .inl i)
  | 14 => .inl (cy 0, 6, .inl i)
  | 15 => .inl (cy 0, 60, .inl i)
  | 16 => .inl (cy 0, 10, .inl i)
  | 17 => .inl (cy 0, 10, .inl i)
  | 18 => .inl (cy 0, 25, .inl i)
  | 19 => .inl (cy 0, 25, .inl i)
  | 20 => .inl (cy 0, 9, .inl i)
  | 21 => .inl (cy 0, 10, .inl i)
  | 22 => .inl (cy 1, 9720, .inr (.inl q))
  | 23 => .inl (cy 1, 9720, .inr (.inl q))
  | 24 => .inl (cy 1, 9720, .inr (.inl q))
  | 25 => .inl (cy 0, 9720, .inl i)
  | 26 => .inl (cy 2, 19440, .inl i)
  | 27 => .inl (cy 0, 12, .inl i)
  | 28 => .inl (cy 0, 8, .inl i)
  | 29 => .inl (cy 1, 256, .inr (.inl q))
  | _ => .inr (1, [])
theorem ms_0 {ad : Nat → Nat} {cy : Nat → ClassId} (i : Nat → Int32) (q : Nat → Int64) : mS ad cy 0 i q = .inr (11, fs11 ad i q) := rfl
theorem ml_0 : 0 < 30 := by decide
theorem ms_1 {ad : Nat → Nat} {cy : Nat → ClassId} (i : Nat → Int32) (q : Nat → Int64) : mS ad cy 1 i q = .inl (cy 0, 180, .inl i) := rfl
theorem ml_1 : 1 < 30 := by decide
theorem ms_2 {ad : Nat → Nat} {cy : Nat → ClassId} (i : Nat → Int32) (q : Nat → Int64) : mS ad cy 2 i q = .inl (cy 0, 60, .inl i) := rfl
theorem ml_2 : 2 < 30 := by decide
theorem ms_3 {ad : Nat → Nat} {cy : Nat → ClassId} (i : Nat → Int32) (q : Nat → Int64) : mS ad cy 3 i q = .inl (cy 0, 10, .inl i) := rfl
theorem ml_3 : 3 < 30 := by decide
theorem ms_4 {ad : Nat → Nat} {cy : Nat → ClassId} (i : Nat → Int32) (q : Nat → Int64) : mS ad cy 4 i q = .inl (cy 0, 10, .inl i) := rfl
theorem ml_4 : 4 < 30 := by decide
theorem ms_5 {ad : Nat → Nat} {cy : Nat → ClassId} (i : Nat → Int32) (q : Nat → Int64) : mS ad cy 5 i q = .inl (cy 0, 80, .inl i) := rfl
theorem ml_5 : 5 < 30 := by decide
theorem ms_6 {ad : Nat → Nat} {cy : Nat → ClassId} (i : Nat → Int32) (q : Nat → Int64) : mS ad cy 6 i q = .inl (cy 0, 25, .inl i) := rfl
theorem ml_6 : 6 < 30 := by decide
theorem ms_7 {ad : Nat → Nat} {cy : Nat → ClassId} (i : Nat → Int32) (q : Nat → Int64) : mS ad cy 7 i q = .inl (cy 0, 25, .inl i) := rfl
theorem ml_7 : 7 < 30 := by decide
theorem ms_8 {ad : Nat → Nat} {cy : Nat → ClassId} (i : Nat → Int32) (q : Nat → Int64) : mS ad cy 8 i q = .inl (cy 0, 350, .inl i) := rfl
theorem ml_8 : 8 < 30 := by decide
theorem ms_9 {ad : Nat → Nat} {cy : Nat → ClassId} (i : Nat → Int32) (q : Nat → Int64) : mS ad cy 9 i q = .inl (cy 0, 50, .inl i) := rfl
theorem ml_9 : 9 < 30 := by decide
theorem ms_10 {ad : Nat → Nat} {cy : Nat → ClassId} (i : Nat → Int32) (q : Nat → Int64) : mS ad cy 10 i q = .inl (cy 2, 2, .inl i) := rfl
theorem ml_10 : 10 < 30 := by decide
theorem ms_11 {ad : Nat → Nat} {cy : Nat → ClassId} (i : Nat → Int32) (q : Nat → Int64) : mS ad cy 11 i q = .inl (cy 0, 12, .inl i) := rfl
theorem ml_11 : 11 < 30 := by decide
theorem ms_12 {ad : Nat → Nat} {cy : Nat → ClassId} (i : Nat → Int32) (q : Nat → Int64) : mS ad cy 12 i q = .inl (cy 0, 6, .inl i) := rfl
theorem ml_12 : 12 < 30 := by decide
theorem ms_13 {ad : Nat → Nat} {cy : Nat → ClassId} (i : Nat → Int32) (q : Nat → Int64) : mS ad cy 13 i q = .inl (cy 0, 6, .inl i) := rfl
theorem ml_13 : 13 < 30 := by decide
theorem ms_14 {ad : Nat → Nat} {cy : Nat → ClassId} (i : Nat → Int32) (q : Nat → Int64) : mS ad cy 14 i q = .inl (cy 0, 6, .inl i) := rfl
theorem ml_14 : 14 < 30 := by decide
theorem ms_15 {ad : Nat → Nat} {cy : Nat → ClassId} (i : Nat → Int32) (q : Nat → Int64) : mS ad cy 15 i q = .inl (cy 0, 60, .inl i) := rfl
theorem ml_15 : 15 < 30 := by decide
theorem ms_16 {ad : Nat → Nat} {cy : Nat → ClassId} (i : Nat → Int32) (q : Nat → Int64) : mS ad cy 16 i q = .inl (cy 0, 10, .inl i) := rfl
theorem ml_16 : 16 < 30 := by decide
theorem ms_17 {ad : Nat → Nat} {cy : Nat → ClassId} (i : Nat → Int32) (q : Nat → Int64) : mS ad cy 17 i q = .inl (cy 0, 10, .inl i) := rfl
theorem ml_17 : 17 < 30 := by decide
theorem ms_18 {ad : Nat → Nat} {cy : Nat → ClassId} (i : Nat → Int32) (q : Nat → Int64) : mS ad cy 18 i q = .inl (cy 0, 25, .inl i) := rfl
theorem ml_18 : 18 < 30 := by decide
theorem ms_19 {ad : Nat → Nat} {cy : Nat → ClassId} (i : Nat → Int32) (q : Nat → Int64) : mS ad cy 19 i q = .inl (cy 0, 25, .inl i) := rfl
theorem ml_19 : 19 < 30 := by decide
theorem ms_20 {ad : Nat → Nat} {cy : Nat → ClassId} (i : Nat → Int32) (q : Nat → Int64) : mS ad cy 20 i q = .inl (cy 0, 9, .inl i) := rfl
theorem ml_20 : 20 < 30 := by decide
theorem ms_21 {ad : Nat → Nat} {cy : Nat → ClassId} (i : Nat → Int32) (q : Nat → Int64) : mS ad cy 21 i q = .inl (cy 0, 10, .inl i) := rfl
theorem ml_21 : 21 < 30 := by decide
theorem ms_22 {ad : Nat → Nat} {cy : Nat → ClassId} (i : Nat → Int32) (q : Nat → Int64) : mS ad cy 22 i q = .inl (cy 1, 9720, .inr (.inl q)) := rfl
theorem ml_22 : 22 < 30 := by decide
theorem ms_23 {ad : Nat → Nat} {cy : Nat → ClassId} (i : Nat → Int32) (q : Nat → Int64) : mS ad cy 23 i q = .inl (cy 1, 9720, .inr (.inl q)) := rfl
theorem ml_23 : 23 < 30 := by decide
theorem ms_24 {ad : Nat → Nat} {cy : Nat → ClassId} (i : Nat → Int32) (q : Nat → Int64) : mS ad cy 24 i q = .inl (cy 1, 9720, .inr (.inl q)) := rfl
theorem ml_24 : 24 < 30 := by decide
theorem ms_25 {ad : Nat → Nat} {cy : Nat → ClassId} (i : Nat → Int32) (q : Nat → Int64) : mS ad cy 25 i q = .inl (cy 0, 9720, .inl i) := rfl
theorem ml_25 : 25 < 30 := by decide
theorem ms_26 {ad : Nat → Nat} {cy : Nat → ClassId} (i : Nat → Int32) (q : Nat → Int64) : mS ad cy 26 i q = .inl (cy 2, 19440, .inl i) := rfl
theorem ml_26 : 26 < 30 := by decide
theorem ms_27 {ad : Nat → Nat} {cy : Nat → ClassId} (i : Nat → Int32) (q : Nat → Int64) : mS ad cy 27 i q = .inl (cy 0, 12, .inl i) := rfl
theorem ml_27 : 27 < 30 := by decide
theorem ms_28 {ad : Nat → Nat} {cy : Nat → ClassId} (i : Nat → Int32) (q : Nat → Int64) : mS ad cy 28 i q = .inl (cy 0, 8, .inl i) := rfl
theorem ml_28 : 28 < 30 := by decide
theorem ms_29 {ad : Nat → Nat} {cy : Nat → ClassId} (i : Nat → Int32) (q : Nat → Int64) : mS ad cy 29 i q = .inl (cy 1, 256, .inr (.inl q)) := rfl
theorem ml_29 : 29 < 30 := by decide
def isLex (k : Nat) : Prop := k = 3 ∨ k = 12
theorem isLex_3 : isLex 3 := by simp [isLex]
theorem isLex_12 : isLex 12 := by simp [isLex]
theorem xs_Lex0 {k : Nat} (h : isLex k) {ad : Nat → Nat} {cy : Nat → ClassId} (i : Nat → Int32) (q : Nat → Int64) : xS ad cy k i q = .inr (5, fs5 ad k i q) := by rcases h with rfl | rfl <;> rfl
theorem xl_Lex0 {k : Nat} (h : isLex k) : k < 66 := by rcases h with rfl | rfl <;> decide
theorem xs_Lex1 {k : Nat} (h : isLex k) {ad : Nat → Nat} {cy : Nat → ClassId} (i : Nat → Int32) (q : Nat → Int64) : xS ad cy (k + 1) i q = .inl (cy 0, 10, .inl i) := by rcases h with rfl | rfl <;> rfl
theorem xl_Lex1 {k : Nat} (h : isLex k) : (k + 1) < 66 := by rcases h with rfl | rfl <;> decide
theorem xs_Lex2 {k : Nat} (h : isLex k) {ad : Nat → Nat} {cy : Nat → ClassId} (i : Nat → Int32) (q : Nat → Int64) : xS ad cy (k + 2) i q = .inl (cy 0, 10, .inl i) := by rcases h with rfl | rfl <;> rfl
theorem xl_Lex2 {k : Nat} (h : isLex k) : (k + 2) < 66 := by rcases h with rfl | rfl <;> decide
theorem xs_Lex3 {k : Nat} (h : isLex k) {ad : Nat → Nat} {cy : Nat → ClassId} (i : Nat → Int32) (q : Nat → Int64) : xS ad cy (k + 3) i q = .inl (cy 1, 10, .inr (.inl q)) := by rcases h with rfl | rfl <;> rfl
theorem xl_Lex3 {k : Nat} (h : isLex k) : (k + 3) < 66 := by rcases h with rfl | rfl <;> decide
theorem xs_Lex4 {k : Nat} (h : isLex k) {ad : Nat → Nat} {cy : Nat → ClassId} (i : Nat → Int32) (q : Nat → Int64) : xS ad cy (k + 4) i q = .inl (cy 0, 60, .inl i) := by rcases h with rfl | rfl <;> rfl
theorem xl_Lex4 {k : Nat} (h : isLex k) : (k + 4) < 66 := by rcases h with rfl | rfl <;> decide
def isSet (k : Nat) : Prop := k = 8 ∨ k = 17 ∨ k = 21 ∨ k = 26 ∨ k = 30
theorem isSet_8 : isSet 8 := by simp [isSet]
theorem isSet_17 : isSet 17 := by simp [isSet]
theorem isSet_21 : isSet 21 := by simp [isSet]
theorem isSet_26 : isSet 26 := by simp [isSet]
theorem isSet_30 : isSet 30 := by simp [isSet]
theorem xs_Set0 {k : Nat} (h : isSet k) {ad : Nat → Nat} {cy : Nat → ClassId} (i : Nat → Int32) (q : Nat → Int64) : xS ad cy k i q = .inr (8, fs8 ad k i q) := by rcases h with rfl | rfl | rfl | rfl | rfl <;> rfl
theorem xl_Set0 {k : Nat} (h : isSet k) : k < 66 := by rcases h with rfl | rfl | rfl | rfl | rfl <;> decide
theorem xs_Set1 {k : Nat} (h : isSet k) {ad : Nat → Nat} {cy : Nat → ClassId} (i : Nat → Int32) (q : Nat → Int64) : xS ad cy (k + 1) i q = .inl (cy 0, 8, .inl i) := by rcases h with rfl | rfl | rfl | rfl | rfl <;> rfl
theorem xl_Set1 {k : Nat} (h : isSet k) : (k + 1) < 66 := by rcases h with rfl | rfl | rfl | rfl | rfl <;> decide
theorem xs_Set2 {k : Nat} (h : isSet k) {ad : Nat → Nat} {cy : Nat → ClassId} (i : Nat → Int32) (q : Nat → Int64) : xS ad cy (k + 2) i q = .inl (cy 0, 10, .inl i) := by rcases h with rfl | rfl | rfl | rfl | rfl <;> rfl
theorem xl_Set2 {k : Nat} (h : isSet k) : (k + 2) < 66 := by rcases h with rfl | rfl | rfl | rfl | rfl <;> decide
theorem xs_Set3 {k : Nat} (h : isSet k) {ad : Nat → Nat} {cy : Nat → ClassId} (i : Nat → Int32) (q : Nat → Int64) : xS ad cy (k + 3) i q = .inl (cy 0, 4, .inl i) := by rcases h with rfl | rfl | rfl | rfl | rfl <;> rfl
theorem xl_Set3 {k : Nat} (h : isSet k) : (k + 3) < 66 := by rcases h with rfl | rfl | rfl | rfl | rfl <;> decide
def isWay (k : Nat) : Prop := k = 40 ∨ k = 54 ∨ k = 56
theorem isWay_40 : isWay 40 := by simp [isWay]
theorem isWay_54 : isWay 54 := by simp [isWay]
theorem isWay_56 : isWay 56 := by simp [isWay]
def isTl (k : Nat) : Prop := k = 41 ∨ k = 44 ∨ k = 45
theorem isTl_41 : isTl 41 := by simp [isTl]
theorem isTl_44 : isTl 44 := by simp [isTl]
theorem isTl_45 : isTl 45 := by simp [isTl]
theorem xs_Tl0 {k : Nat} (h : isTl k) {ad : Nat → Nat} {cy : Nat → ClassId} (i : Nat → Int32) (q : Nat → Int64) : xS ad cy k i q = .inl (cy 1, 5184, .inr (.inl q)) := by rcases h with rfl | rfl | rfl <;> rfl
theorem xl_Tl0 {k : Nat} (h : isTl k) : k < 66 := by rcases h with rfl | rfl | rfl <;> decide
def isRow (k : Nat) : Prop := k = 6 ∨ k = 7 ∨ k = 18 ∨ k = 19
theorem isRow_6 : isRow 6 := by simp [isRow]
theorem isRow_7 : isRow 7 := by simp [isRow]
theorem isRow_18 : isRow 18 := by simp [isRow]
theorem isRow_19 : isRow 19 := by simp [isRow]
theorem ms_Row0 {k : Nat} (h : isRow k) {ad : Nat → Nat} {cy : Nat → ClassId} (i : Nat → Int32) (q : Nat → Int64) : mS ad cy k i q = .inl (cy 0, 25, .inl i) := by rcases h with rfl | rfl | rfl | rfl <;> rfl
theorem ml_Row0 {k : Nat} (h : isRow k) : k < 30 := by rcases h with rfl | rfl | rfl | rfl <;> decide
def isNine (k : Nat) : Prop := k = 22 ∨ k = 23 ∨ k = 24
theorem isNine_22 : isNine 22 := by simp [isNine]
theorem isNine_23 : isNine 23 := by simp [isNine]
theorem isNine_24 : isNine 24 := by simp [isNine]
theorem ms_Nine0 {k : Nat} (h : isNine k) {ad : Nat → Nat} {cy : Nat → ClassId} (i : Nat → Int32) (q : Nat → Int64) : mS ad cy k i q = .inl (cy 1, 9720, .inr (.inl q)) := by rcases h with rfl | rfl | rfl <;> rfl
theorem ml_Nine0 {k : Nat} (h : isNine k) : k < 30 := by rcases h with rfl | rfl | rfl <;> decide
theorem isTl_sw (x : Int32) : isTl (sw x) := by unfold sw isTl; by_cases h : x = 0 <;> simp [h]
theorem st_10_14 (ad : Nat → Nat) (x : Int32) (i : Nat → Int32) (q : Nat → Int64) : (fs10 ad i q).set 14 (.int x) = fs10 ad (upd i 14 x) q := rfl
theorem st_10_15 (ad : Nat → Nat) (x : Int32) (i : Nat → Int32) (q : Nat → Int64) : (fs10 ad i q).set 15 (.int x) = fs10 ad (upd i 15 x) q := rfl
theorem st_10_16 (ad : Nat → Nat) (x : Int64) (i : Nat → Int32) (q : Nat → Int64) : (fs10 ad i q).set 16 (.long x) = fs10 ad i (vp_updL q 16 x) := rfl
theorem st_7_3 (ad : Nat → Nat) (x : Int32) (i : Nat → Int32) (q : Nat → Int64) : (fs7 ad i q).set 3 (.int x) = fs7 ad (upd i 3 x) q := rfl
theorem st_7_4 (ad : Nat → Nat) (x : Int32) (i : Nat → Int32) (q : Nat → Int64) : (fs7 ad i q).set 4 (.int x) = fs7 ad (upd i 4 x) q := rfl
theorem st_7_5 (ad : Nat → Nat) (x : Int32) (i : Nat → Int32) (q : Nat → Int64) : (fs7 ad i q).set 5 (.int x) = fs7 ad (upd i 5 x) q := rfl
theorem st_5_4 (ad : Nat → Nat) (k : Nat) (x : Int32) (i : Nat → Int32) (q : Nat → Int64) : (fs5 ad k i q).set 4 (.int x) = fs5 ad k (upd i 4 x) q := rfl
theorem st_8_3 (ad : Nat → Nat) (k : Nat) (x : Int32) (i : Nat → Int32) (q : Nat → Int64) : (fs8 ad k i q).set 3 (.int x) = fs8 ad k (upd i 3 x) q := rfl
theorem st_8_4 (ad : Nat → Nat) (k : Nat) (x : Int32) (i : Nat → Int32) (q : Nat → Int64) : (fs8 ad k i q).set 4 (.int x) = fs8 ad k (upd i 4 x) q := rfl
theorem st_8_5 (ad : Nat → Nat) (k : Nat) (x : Int32) (i : Nat → Int32) (q : Nat → Int64) : (fs8 ad k i q).set 5 (.int x) = fs8 ad k (upd i 5 x) q := rfl
theorem st_2_3 (ad : Nat → Nat) (x : Int32) (i : Nat → Int32) (q : Nat → Int64) : (fs2 ad i q).set 3 (.int x) = fs2 ad (upd i 3 x) q := rfl
theorem sw_swi {c : Nat} (h : c = 44 ∨ c = 45) : sw (swi c) = c := by rcases h with rfl | rfl <;> decide
theorem st_6_8 (ad : Nat → Nat) {c : Nat} (h : c = 44 ∨ c = 45) (i : Nat → Int32) (q : Nat → Int64) : (fs6 ad i q).set 8 (.ref (ad c)) = fs6 ad (upd i 8 (swi c)) q := by rcases h with rfl | rfl <;> rfl
theorem st_6_9 (ad : Nat → Nat) {c : Nat} (h : c = 44 ∨ c = 45) (i : Nat → Int32) (q : Nat → Int64) : (fs6 ad i q).set 9 (.ref (ad c)) = fs6 ad (upd i 9 (swi c)) q := by rcases h with rfl | rfl <;> rfl
theorem st_6_10 (ad : Nat → Nat) (x : Int32) (i : Nat → Int32) (q : Nat → Int64) : (fs6 ad i q).set 10 (.int x) = fs6 ad (upd i 10 x) q := rfl
theorem st_6_11 (ad : Nat → Nat) (x : Int64) (i : Nat → Int32) (q : Nat → Int64) : (fs6 ad i q).set 11 (.long x) = fs6 ad i (vp_updL q 11 x) := rfl
theorem st_6_12 (ad : Nat → Nat) (x : Int32) (i : Nat → Int32) (q : Nat → Int64) : (fs6 ad i q).set 12 (.int x) = fs6 ad (upd i 12 x) q := rfl
theorem st_6_13 (ad : Nat → Nat) (x : Int32) (i : Nat → Int32) (q : Nat → Int64) : (fs6 ad i q).set 13 (.int x) = fs6 ad (upd i 13 x) q := rfl
theorem st_4_9 (ad : Nat → Nat) (x : Int32) (i : Nat → Int32) (q : Nat → Int64) : (fs4 ad i q).set 9 (.int x) = fs4 ad (upd i 9 x) q := rfl
theorem st_4_10 (ad : Nat → Nat) (x : Int32) (i : Nat → Int32) (q : Nat → Int64) : (fs4 ad i q).set 10 (.int x) = fs4 ad (upd i 10 x) q := rfl
theorem st_4_11 (ad : Nat → Nat) (x : Int32) (i : Nat → Int32) (q : Nat → Int64) : (fs4 ad i q).set 11 (.int x) = fs4 ad (upd i 11 x) q := rfl
theorem st_0_7 (ad : Nat → Nat) (x : Int32) (i : Nat → Int32) (q : Nat → Int64) : (fs0 ad i q).set 7 (.int x) = fs0 ad (upd i 7 x) q := rfl
theorem st_0_8 (ad : Nat → Nat) (x : Int32) (i : Nat → Int32) (q : Nat → Int64) : (fs0 ad i q).set 8 (.int x) = fs0 ad (upd i 8 x) q := rfl
theorem st_0_9 (ad : Nat → Nat) (x : Int32) (i : Nat → Int32) (q : Nat → Int64) : (fs0 ad i q).set 9 (.int x) = fs0 ad (upd i 9 x) q := rfl
theorem st_11_1 (ad : Nat → Nat) (x : Int32) (i : Nat → Int32) (q : Nat → Int64) : (fs11 ad i q).set 1 (.int x) = fs11 ad (upd i 1 x) q := rfl
theorem st_11_2 (ad : Nat → Nat) (x : Int32) (i : Nat → Int32) (q : Nat → Int64) : (fs11 ad i q).set 2 (.int x) = fs11 ad (upd i 2 x) q := rfl
theorem st_11_10 (ad : Nat → Nat) (x : Int32) (i : Nat → Int32) (q : Nat → Int64) : (fs11 ad i q).set 10 (.int x) = fs11 ad (upd i 10 x) q := rfl
theorem st_11_11 (ad : Nat → Nat) (x : Int32) (i : Nat → Int32) (q : Nat → Int64) : (fs11 ad i q).set 11 (.int x) = fs11 ad (upd i 11 x) q := rfl
theorem st_11_15 (ad : Nat → Nat) (x : Int32) (i : Nat → Int32) (q : Nat → Int64) : (fs11 ad i q).set 15 (.int x) = fs11 ad (upd i 15 x) q := rfl
theorem st_11_19 (ad : Nat → Nat) (x : Int32) (i : Nat → Int32) (q : Nat → Int64) : (fs11 ad i q).set 19 (.int x) = fs11 ad (upd i 19 x) q := rfl
theorem st_11_20 (ad : Nat → Nat) (x : Int64) (i : Nat → Int32) (q : Nat → Int64) : (fs11 ad i q).set 20 (.long x) = fs11 ad i (vp_updL q 20 x) := rfl
theorem st_11_21 (ad : Nat → Nat) (x : Int32) (i : Nat → Int32) (q : Nat → Int64) : (fs11 ad i q).set 21 (.int x) = fs11 ad (upd i 21 x) q := rfl
theorem st_11_26 (ad : Nat → Nat) (x : Int32) (i : Nat → Int32) (q : Nat → Int64) : (fs11 ad i q).set 26 (.int x) = fs11 ad (upd i 26 x) q := rfl
theorem st_11_27 (ad : Nat → Nat) (x : Int32) (i : Nat → Int32) (q : Nat → Int64) : (fs11 ad i q).set 27 (.int x) = fs11 ad (upd i 27 x) q := rfl
theorem st_11_28 (ad : Nat → Nat) (x : Int32) (i : Nat → Int32) (q : Nat → Int64) : (fs11 ad i q).set 28 (.int x) = fs11 ad (upd i 28 x) q := rfl
theorem st_11_31 (ad : Nat → Nat) (x : Int32) (i : Nat → Int32) (q : Nat → Int64) : (fs11 ad i q).set 31 (.int x) = fs11 ad (upd i 31 x) q := rfl
theorem st_11_32 (ad : Nat → Nat) (x : Int32) (i : Nat → Int32) (q : Nat → Int64) : (fs11 ad i q).set 32 (.int x) = fs11 ad (upd i 32 x) q := rfl
theorem st_11_41 (ad : Nat → Nat) (x : Int32) (i : Nat → Int32) (q : Nat → Int64) : (fs11 ad i q).set 41 (.int x) = fs11 ad (upd i 41 x) q := rfl
theorem st_11_42 (ad : Nat → Nat) (x : Int32) (i : Nat → Int32) (q : Nat → Int64) : (fs11 ad i q).set 42 (.int x) = fs11 ad (upd i 42 x) q := rfl
theorem st_11_43 (ad : Nat → Nat) (x : Int32) (i : Nat → Int32) (q : Nat → Int64) : (fs11 ad i q).set 43 (.int x) = fs11 ad (upd i 43 x) q := rfl
def stL : Nat → Int64 := fun j => match j with
  | 0 => -6148914691236517206
  | 1 => -3689348814741910324
  | 2 => -1085102592571150096
  | 3 => -71777214294589696
  | 4 => -281470681808896
  | _ => -4294967296
def stI : Nat → Int32 := fun j => match j with
  | 0 => 1
  | 1 => 1
  | 2 => 2
  | 3 => 6
  | 4 => 24
  | 5 => 120
  | 6 => 720
  | 7 => 5040
  | _ => 40320
def xE (ad ts : Nat → Nat) (U : State) : Prop :=
  (va_Z "BagPhrases$Chances" "SETS_WITH" "[J" (.ref (ts 0)) (gA 66 ad) U U.heap ∧ va_T .long (ts 0) 6 (fun j => .long (stL j)) (gA 66 ad) U U.heap) ∧
  (va_Z "BagPhrases$Chances" "FACTORIALS" "[I" (.ref (ts 1)) (gA 66 ad) U U.heap ∧ va_T .int (ts 1) 9 (fun j => .int (stI j)) (gA 66 ad) U U.heap) ∧
  va_Nw (.methodLinkNest RX7 58 yX11_isLetter "BagPhrases") U ∧ va_Nw (.methodLinkNest RX7 98 yX11_isKind "BagPhrases") U ∧ va_Nw (.methodLinkNest RX4 81 yX11_holds "BagPhrases") U
theorem xE_ok (ad ts : Nat → Nat) : gEok 66 ad (xE ad ts) := by
  refine ⟨fun u U hW hk h => ?_, fun u U hv hh h => ?_⟩
  · obtain ⟨⟨h1, h2⟩, ⟨h3, h4⟩, h5, h6, h7⟩ := h
    exact ⟨⟨(h1.moved hW.alike).kept hk, (h2.moved hW.alike).kept hk⟩, ⟨(h3.moved hW.alike).kept hk, (h4.moved hW.alike).kept hk⟩, h5.warmM hW, h6.warmM hW, h7.warmM hW⟩
  · obtain ⟨⟨h1, h2⟩, ⟨h3, h4⟩, h5, h6, h7⟩ := h
    have hA : u.vm.Alike U.vm := hv ▸ Vm.Alike.refl u.vm
    exact ⟨⟨hh ▸ h1.moved hA, hh ▸ h2.moved hA⟩, ⟨hh ▸ h3.moved hA, hh ▸ h4.moved hA⟩, h5.same rfl hv, h6.same rfl hv, h7.same rfl hv⟩
def mE (U : State) : Prop := U = U
theorem mE_ok (ad : Nat → Nat) : gEok 30 ad mE := ⟨fun _ _ _ _ _ => rfl, fun _ _ _ _ _ => rfl⟩
