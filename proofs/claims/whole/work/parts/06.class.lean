/-! THE CLASS: its cells, what a write makes of them, what holds outside (printed by wip/whole/gen/world.py) -/
def cX (X : xG) (S : gS) (k : Nat) : va_E := match k with
  | 0 => .inr (7, [.ref (xa X 1), .ref (xa X 2), .ref (xa X 3), .ref (xa X 4), .ref (xa X 5), .ref (xa X 6), .ref (xa X 7), .ref (xa X 8), .ref (xa X 9), .int (gI S 0)])
  | 1 => .inr (0, [.int (gI S 1), .int (gI S 2), .int (gI S 3), .int (gI S 4), .ref (xa X 10), .ref (xa X 11), .ref (xa X 12)])
  | 2 => .inr (5, [.int (gI S 5), .ref (xa X 13)])
  | 3 => .inr (0, [.int (gI S 6), .int (gI S 7), .int (gI S 8), .int (gI S 9), .ref (xa X 14), .ref (xa X 15), .ref (xa X 16)])
  | 4 => .inr (5, [.int (gI S 10), .ref (xa X 17)])
  | 5 => .inr (1, [.ref (xa X 1), .ref (xa X 18), .int (gI S 11)])
  | 6 => .inr (3, [.ref (xa X 1), .ref (xa X 19), .int (gI S 12), .ref (xa X 2)])
  | 7 => .inr (6, [.ref (xa X 1), .ref (xa X 5), .ref (xa X 20), .int (gI S 13)])
  | 8 => .inr (4, [.ref (xa X 1), .int (gI S 14), .long (gJ S 0), .int (gI S 15), .ref (xa X 21), .ref (xa X 22), .ref (xa X 23), .ref (xa X 24), .ref (xa X 25), .ref (xa X 26), .ref (xa X 27)])
  | 9 => .inr (2, [.ref (xa X 28), .ref (xa X 29), .ref (xa X 30), .ref (xa X 31)])
  | 10 => .inl (xc X 0, 96, .inl (gA S 10))
  | 11 => .inl (xc X 0, 6, .inl (gA S 11))
  | 12 => .inl (xc X 2, 6, .inl (gA S 12))
  | 13 => .inl (xc X 0, 8, .inl (gA S 13))
  | 14 => .inl (xc X 0, 96, .inl (gA S 14))
  | 15 => .inl (xc X 0, 6, .inl (gA S 15))
  | 16 => .inl (xc X 2, 6, .inl (gA S 16))
  | 17 => .inl (xc X 0, 8, .inl (gA S 17))
  | 18 => .inl (xc X 1, 60, .inr (.inl (gB S 18)))
  | 19 => .inl (xc X 1, 384, .inr (.inl (gB S 19)))
  | 20 => .inl (xc X 1, 10930, .inr (.inl (gB S 20)))
  | 21 => .inl (xc X 0, 15, .inl (gA S 21))
  | 22 => .inl (xc X 0, 15, .inl (gA S 22))
  | 23 => .inl (xc X 0, 15, .inl (gA S 23))
  | 24 => .inl (xc X 0, 15, .inl (gA S 24))
  | 25 => .inl (xc X 0, 15, .inl (gA S 25))
  | 26 => .inl (xc X 0, 15, .inl (gA S 26))
  | 27 => .inl (xc X 1, 15, .inr (.inl (gB S 27)))
  | 28 => .inl (xc X 2, 3, .inl (gA S 28))
  | 29 => .inl (xc X 2, 3, .inl (gA S 29))
  | 30 => .inl (xc X 0, 3, .inl (gA S 30))
  | 31 => .inl (xc X 0, 120, .inl (gA S 31))
  | 32 => .inl (xc X 1, 1, .inr (.inl (gB S 32)))
  | 33 => .inl (xc X 3, 1, .inr (.inr (.inr (.inl (fun j => (gB S 33 j).toUInt64)))))
  | _ => .inr (0, [])
theorem uX_I0 (X : xG) (S : gS) (v : Int32) : va_up (cX X S) 0 (.inr (7, [.ref (xa X 1), .ref (xa X 2), .ref (xa X 3), .ref (xa X 4), .ref (xa X 5), .ref (xa X 6), .ref (xa X 7), .ref (xa X 8), .ref (xa X 9), .int v])) = cX X (uI S 0 v) := by
  funext j
  by_cases h : j = 0
  · subst h; rfl
  · rw [va_up, if_neg h]
    match j, h with
    | 0, h => exact absurd rfl h
    | 1, h => rfl
    | 2, h => rfl
    | 3, h => rfl
    | 4, h => rfl
    | 5, h => rfl
    | 6, h => rfl
    | 7, h => rfl
    | 8, h => rfl
    | 9, h => rfl
    | 10, h => rfl
    | 11, h => rfl
    | 12, h => rfl
    | 13, h => rfl
    | 14, h => rfl
    | 15, h => rfl
    | 16, h => rfl
    | 17, h => rfl
    | 18, h => rfl
    | 19, h => rfl
    | 20, h => rfl
    | 21, h => rfl
    | 22, h => rfl
    | 23, h => rfl
    | 24, h => rfl
    | 25, h => rfl
    | 26, h => rfl
    | 27, h => rfl
    | 28, h => rfl
    | 29, h => rfl
    | 30, h => rfl
    | 31, h => rfl
    | 32, h => rfl
    | 33, h => rfl
    | j + 34, h => rfl
theorem uX_I1 (X : xG) (S : gS) (v : Int32) : va_up (cX X S) 1 (.inr (0, [.int v, .int (gI S 2), .int (gI S 3), .int (gI S 4), .ref (xa X 10), .ref (xa X 11), .ref (xa X 12)])) = cX X (uI S 1 v) := by
  funext j
  by_cases h : j = 1
  · subst h; rfl
  · rw [va_up, if_neg h]
    match j, h with
    | 0, h => rfl
    | 1, h => exact absurd rfl h
    | 2, h => rfl
    | 3, h => rfl
    | 4, h => rfl
    | 5, h => rfl
    | 6, h => rfl
    | 7, h => rfl
    | 8, h => rfl
    | 9, h => rfl
    | 10, h => rfl
    | 11, h => rfl
    | 12, h => rfl
    | 13, h => rfl
    | 14, h => rfl
    | 15, h => rfl
    | 16, h => rfl
    | 17, h => rfl
    | 18, h => rfl
    | 19, h => rfl
    | 20, h => rfl
    | 21, h => rfl
    | 22, h => rfl
    | 23, h => rfl
    | 24, h => rfl
    | 25, h => rfl
    | 26, h => rfl
    | 27, h => rfl
    | 28, h => rfl
    | 29, h => rfl
    | 30, h => rfl
    | 31, h => rfl
    | 32, h => rfl
    | 33, h => rfl
    | j + 34, h => rfl
theorem uX_I2 (X : xG) (S : gS) (v : Int32) : va_up (cX X S) 1 (.inr (0, [.int (gI S 1), .int v, .int (gI S 3), .int (gI S 4), .ref (xa X 10), .ref (xa X 11), .ref (xa X 12)])) = cX X (uI S 2 v) := by
  funext j
  by_cases h : j = 1
  · subst h; rfl
  · rw [va_up, if_neg h]
    match j, h with
    | 0, h => rfl
    | 1, h => exact absurd rfl h
    | 2, h => rfl
    | 3, h => rfl
    | 4, h => rfl
    | 5, h => rfl
    | 6, h => rfl
    | 7, h => rfl
    | 8, h => rfl
    | 9, h => rfl
    | 10, h => rfl
    | 11, h => rfl
    | 12, h => rfl
    | 13, h => rfl
    | 14, h => rfl
    | 15, h => rfl
    | 16, h => rfl
    | 17, h => rfl
    | 18, h => rfl
    | 19, h => rfl
    | 20, h => rfl
    | 21, h => rfl
    | 22, h => rfl
    | 23, h => rfl
    | 24, h => rfl
    | 25, h => rfl
    | 26, h => rfl
    | 27, h => rfl
    | 28, h => rfl
    | 29, h => rfl
    | 30, h => rfl
    | 31, h => rfl
    | 32, h => rfl
    | 33, h => rfl
    | j + 34, h => rfl
theorem uX_I3 (X : xG) (S : gS) (v : Int32) : va_up (cX X S) 1 (.inr (0, [.int (gI S 1), .int (gI S 2), .int v, .int (gI S 4), .ref (xa X 10), .ref (xa X 11), .ref (xa X 12)])) = cX X (uI S 3 v) := by
  funext j
  by_cases h : j = 1
  · subst h; rfl
  · rw [va_up, if_neg h]
    match j, h with
    | 0, h => rfl
    | 1, h => exact absurd rfl h
    | 2, h => rfl
    | 3, h => rfl
    | 4, h => rfl
    | 5, h => rfl
    | 6, h => rfl
    | 7, h => rfl
    | 8, h => rfl
    | 9, h => rfl
    | 10, h => rfl
    | 11, h => rfl
    | 12, h => rfl
    | 13, h => rfl
    | 14, h => rfl
    | 15, h => rfl
    | 16, h => rfl
    | 17, h => rfl
    | 18, h => rfl
    | 19, h => rfl
    | 20, h => rfl
    | 21, h => rfl
    | 22, h => rfl
    | 23, h => rfl
    | 24, h => rfl
    | 25, h => rfl
    | 26, h => rfl
    | 27, h => rfl
    | 28, h => rfl
    | 29, h => rfl
    | 30, h => rfl
    | 31, h => rfl
    | 32, h => rfl
    | 33, h => rfl
    | j + 34, h => rfl
theorem uX_I4 (X : xG) (S : gS) (v : Int32) : va_up (cX X S) 1 (.inr (0, [.int (gI S 1), .int (gI S 2), .int (gI S 3), .int v, .ref (xa X 10), .ref (xa X 11), .ref (xa X 12)])) = cX X (uI S 4 v) := by
  funext j
  by_cases h : j = 1
  · subst h; rfl
  · rw [va_up, if_neg h]
    match j, h with
    | 0, h => rfl
    | 1, h => exact absurd rfl h
    | 2, h => rfl
    | 3, h => rfl
    | 4, h => rfl
    | 5, h => rfl
    | 6, h => rfl
    | 7, h => rfl
    | 8, h => rfl
    | 9, h => rfl
    | 10, h => rfl
    | 11, h => rfl
    | 12, h => rfl
    | 13, h => rfl
    | 14, h => rfl
    | 15, h => rfl
    | 16, h => rfl
    | 17, h => rfl
    | 18, h => rfl
    | 19, h => rfl
    | 20, h => rfl
    | 21, h => rfl
    | 22, h => rfl
    | 23, h => rfl
    | 24, h => rfl
    | 25, h => rfl
    | 26, h => rfl
    | 27, h => rfl
    | 28, h => rfl
    | 29, h => rfl
    | 30, h => rfl
    | 31, h => rfl
    | 32, h => rfl
    | 33, h => rfl
    | j + 34, h => rfl
theorem uX_I5 (X : xG) (S : gS) (v : Int32) : va_up (cX X S) 2 (.inr (5, [.int v, .ref (xa X 13)])) = cX X (uI S 5 v) := by
  funext j
  by_cases h : j = 2
  · subst h; rfl
  · rw [va_up, if_neg h]
    match j, h with
    | 0, h => rfl
    | 1, h => rfl
    | 2, h => exact absurd rfl h
    | 3, h => rfl
    | 4, h => rfl
    | 5, h => rfl
    | 6, h => rfl
    | 7, h => rfl
    | 8, h => rfl
    | 9, h => rfl
    | 10, h => rfl
    | 11, h => rfl
    | 12, h => rfl
    | 13, h => rfl
    | 14, h => rfl
    | 15, h => rfl
    | 16, h => rfl
    | 17, h => rfl
    | 18, h => rfl
    | 19, h => rfl
    | 20, h => rfl
    | 21, h => rfl
    | 22, h => rfl
    | 23, h => rfl
    | 24, h => rfl
    | 25, h => rfl
    | 26, h => rfl
    | 27, h => rfl
    | 28, h => rfl
    | 29, h => rfl
    | 30, h => rfl
    | 31, h => rfl
    | 32, h => rfl
    | 33, h => rfl
    | j + 34, h => rfl
theorem uX_I6 (X : xG) (S : gS) (v : Int32) : va_up (cX X S) 3 (.inr (0, [.int v, .int (gI S 7), .int (gI S 8), .int (gI S 9), .ref (xa X 14), .ref (xa X 15), .ref (xa X 16)])) = cX X (uI S 6 v) := by
  funext j
  by_cases h : j = 3
  · subst h; rfl
  · rw [va_up, if_neg h]
    match j, h with
    | 0, h => rfl
    | 1, h => rfl
    | 2, h => rfl
    | 3, h => exact absurd rfl h
    | 4, h => rfl
    | 5, h => rfl
    | 6, h => rfl
    | 7, h => rfl
    | 8, h => rfl
    | 9, h => rfl
    | 10, h => rfl
    | 11, h => rfl
    | 12, h => rfl
    | 13, h => rfl
    | 14, h => rfl
    | 15, h => rfl
    | 16, h => rfl
    | 17, h => rfl
    | 18, h => rfl
    | 19, h => rfl
    | 20, h => rfl
    | 21, h => rfl
    | 22, h => rfl
    | 23, h => rfl
    | 24, h => rfl
    | 25, h => rfl
    | 26, h => rfl
    | 27, h => rfl
    | 28, h => rfl
    | 29, h => rfl
    | 30, h => rfl
    | 31, h => rfl
    | 32, h => rfl
    | 33, h => rfl
    | j + 34, h => rfl
theorem uX_I7 (X : xG) (S : gS) (v : Int32) : va_up (cX X S) 3 (.inr (0, [.int (gI S 6), .int v, .int (gI S 8), .int (gI S 9), .ref (xa X 14), .ref (xa X 15), .ref (xa X 16)])) = cX X (uI S 7 v) := by
  funext j
  by_cases h : j = 3
  · subst h; rfl
  · rw [va_up, if_neg h]
    match j, h with
    | 0, h => rfl
    | 1, h => rfl
    | 2, h => rfl
    | 3, h => exact absurd rfl h
    | 4, h => rfl
    | 5, h => rfl
    | 6, h => rfl
    | 7, h => rfl
    | 8, h => rfl
    | 9, h => rfl
    | 10, h => rfl
    | 11, h => rfl
    | 12, h => rfl
    | 13, h => rfl
    | 14, h => rfl
    | 15, h => rfl
    | 16, h => rfl
    | 17, h => rfl
    | 18, h => rfl
    | 19, h => rfl
    | 20, h => rfl
    | 21, h => rfl
    | 22, h => rfl
    | 23, h => rfl
    | 24, h => rfl
    | 25, h => rfl
    | 26, h => rfl
    | 27, h => rfl
    | 28, h => rfl
    | 29, h => rfl
    | 30, h => rfl
    | 31, h => rfl
    | 32, h => rfl
    | 33, h => rfl
    | j + 34, h => rfl
theorem uX_I8 (X : xG) (S : gS) (v : Int32) : va_up (cX X S) 3 (.inr (0, [.int (gI S 6), .int (gI S 7), .int v, .int (gI S 9), .ref (xa X 14), .ref (xa X 15), .ref (xa X 16)])) = cX X (uI S 8 v) := by
  funext j
  by_cases h : j = 3
  · subst h; rfl
  · rw [va_up, if_neg h]
    match j, h with
    | 0, h => rfl
    | 1, h => rfl
    | 2, h => rfl
    | 3, h => exact absurd rfl h
    | 4, h => rfl
    | 5, h => rfl
    | 6, h => rfl
    | 7, h => rfl
    | 8, h => rfl
    | 9, h => rfl
    | 10, h => rfl
    | 11, h => rfl
    | 12, h => rfl
    | 13, h => rfl
    | 14, h => rfl
    | 15, h => rfl
    | 16, h => rfl
    | 17, h => rfl
    | 18, h => rfl
    | 19, h => rfl
    | 20, h => rfl
    | 21, h => rfl
    | 22, h => rfl
    | 23, h => rfl
    | 24, h => rfl
    | 25, h => rfl
    | 26, h => rfl
    | 27, h => rfl
    | 28, h => rfl
    | 29, h => rfl
    | 30, h => rfl
    | 31, h => rfl
    | 32, h => rfl
    | 33, h => rfl
    | j + 34, h => rfl
theorem uX_I9 (X : xG) (S : gS) (v : Int32) : va_up (cX X S) 3 (.inr (0, [.int (gI S 6), .int (gI S 7), .int (gI S 8), .int v, .ref (xa X 14), .ref (xa X 15), .ref (xa X 16)])) = cX X (uI S 9 v) := by
  funext j
  by_cases h : j = 3
  · subst h; rfl
  · rw [va_up, if_neg h]
    match j, h with
    | 0, h => rfl
    | 1, h => rfl
    | 2, h => rfl
    | 3, h => exact absurd rfl h
    | 4, h => rfl
    | 5, h => rfl
    | 6, h => rfl
    | 7, h => rfl
    | 8, h => rfl
    | 9, h => rfl
    | 10, h => rfl
    | 11, h => rfl
    | 12, h => rfl
    | 13, h => rfl
    | 14, h => rfl
    | 15, h => rfl
    | 16, h => rfl
    | 17, h => rfl
    | 18, h => rfl
    | 19, h => rfl
    | 20, h => rfl
    | 21, h => rfl
    | 22, h => rfl
    | 23, h => rfl
    | 24, h => rfl
    | 25, h => rfl
    | 26, h => rfl
    | 27, h => rfl
    | 28, h => rfl
    | 29, h => rfl
    | 30, h => rfl
    | 31, h => rfl
    | 32, h => rfl
    | 33, h => rfl
    | j + 34, h => rfl
theorem uX_I10 (X : xG) (S : gS) (v : Int32) : va_up (cX X S) 4 (.inr (5, [.int v, .ref (xa X 17)])) = cX X (uI S 10 v) := by
  funext j
  by_cases h : j = 4
  · subst h; rfl
  · rw [va_up, if_neg h]
    match j, h with
    | 0, h => rfl
    | 1, h => rfl
    | 2, h => rfl
    | 3, h => rfl
    | 4, h => exact absurd rfl h
    | 5, h => rfl
    | 6, h => rfl
    | 7, h => rfl
    | 8, h => rfl
    | 9, h => rfl
    | 10, h => rfl
    | 11, h => rfl
    | 12, h => rfl
    | 13, h => rfl
    | 14, h => rfl
    | 15, h => rfl
    | 16, h => rfl
    | 17, h => rfl
    | 18, h => rfl
    | 19, h => rfl
    | 20, h => rfl
    | 21, h => rfl
    | 22, h => rfl
    | 23, h => rfl
    | 24, h => rfl
    | 25, h => rfl
    | 26, h => rfl
    | 27, h => rfl
    | 28, h => rfl
    | 29, h => rfl
    | 30, h => rfl
    | 31, h => rfl
    | 32, h => rfl
    | 33, h => rfl
    | j + 34, h => rfl
theorem uX_I11 (X : xG) (S : gS) (v : Int32) : va_up (cX X S) 5 (.inr (1, [.ref (xa X 1), .ref (xa X 18), .int v])) = cX X (uI S 11 v) := by
  funext j
  by_cases h : j = 5
  · subst h; rfl
  · rw [va_up, if_neg h]
    match j, h with
    | 0, h => rfl
    | 1, h => rfl
    | 2, h => rfl
    | 3, h => rfl
    | 4, h => rfl
    | 5, h => exact absurd rfl h
    | 6, h => rfl
    | 7, h => rfl
    | 8, h => rfl
    | 9, h => rfl
    | 10, h => rfl
    | 11, h => rfl
    | 12, h => rfl
    | 13, h => rfl
    | 14, h => rfl
    | 15, h => rfl
    | 16, h => rfl
    | 17, h => rfl
    | 18, h => rfl
    | 19, h => rfl
    | 20, h => rfl
    | 21, h => rfl
    | 22, h => rfl
    | 23, h => rfl
    | 24, h => rfl
    | 25, h => rfl
    | 26, h => rfl
    | 27, h => rfl
    | 28, h => rfl
    | 29, h => rfl
    | 30, h => rfl
    | 31, h => rfl
    | 32, h => rfl
    | 33, h => rfl
    | j + 34, h => rfl
theorem uX_I12 (X : xG) (S : gS) (v : Int32) : va_up (cX X S) 6 (.inr (3, [.ref (xa X 1), .ref (xa X 19), .int v, .ref (xa X 2)])) = cX X (uI S 12 v) := by
  funext j
  by_cases h : j = 6
  · subst h; rfl
  · rw [va_up, if_neg h]
    match j, h with
    | 0, h => rfl
    | 1, h => rfl
    | 2, h => rfl
    | 3, h => rfl
    | 4, h => rfl
    | 5, h => rfl
    | 6, h => exact absurd rfl h
    | 7, h => rfl
    | 8, h => rfl
    | 9, h => rfl
    | 10, h => rfl
    | 11, h => rfl
    | 12, h => rfl
    | 13, h => rfl
    | 14, h => rfl
    | 15, h => rfl
    | 16, h => rfl
    | 17, h => rfl
    | 18, h => rfl
    | 19, h => rfl
    | 20, h => rfl
    | 21, h => rfl
    | 22, h => rfl
    | 23, h => rfl
    | 24, h => rfl
    | 25, h => rfl
    | 26, h => rfl
    | 27, h => rfl
    | 28, h => rfl
    | 29, h => rfl
    | 30, h => rfl
    | 31, h => rfl
    | 32, h => rfl
    | 33, h => rfl
    | j + 34, h => rfl
theorem uX_I13 (X : xG) (S : gS) (v : Int32) : va_up (cX X S) 7 (.inr (6, [.ref (xa X 1), .ref (xa X 5), .ref (xa X 20), .int v])) = cX X (uI S 13 v) := by
  funext j
  by_cases h : j = 7
  · subst h; rfl
  · rw [va_up, if_neg h]
    match j, h with
    | 0, h => rfl
    | 1, h => rfl
    | 2, h => rfl
    | 3, h => rfl
    | 4, h => rfl
    | 5, h => rfl
    | 6, h => rfl
    | 7, h => exact absurd rfl h
    | 8, h => rfl
    | 9, h => rfl
    | 10, h => rfl
    | 11, h => rfl
    | 12, h => rfl
    | 13, h => rfl
    | 14, h => rfl
    | 15, h => rfl
    | 16, h => rfl
    | 17, h => rfl
    | 18, h => rfl
    | 19, h => rfl
    | 20, h => rfl
    | 21, h => rfl
    | 22, h => rfl
    | 23, h => rfl
    | 24, h => rfl
    | 25, h => rfl
    | 26, h => rfl
    | 27, h => rfl
    | 28, h => rfl
    | 29, h => rfl
    | 30, h => rfl
    | 31, h => rfl
    | 32, h => rfl
    | 33, h => rfl
    | j + 34, h => rfl
theorem uX_I14 (X : xG) (S : gS) (v : Int32) : va_up (cX X S) 8 (.inr (4, [.ref (xa X 1), .int v, .long (gJ S 0), .int (gI S 15), .ref (xa X 21), .ref (xa X 22), .ref (xa X 23), .ref (xa X 24), .ref (xa X 25), .ref (xa X 26), .ref (xa X 27)])) = cX X (uI S 14 v) := by
  funext j
  by_cases h : j = 8
  · subst h; rfl
  · rw [va_up, if_neg h]
    match j, h with
    | 0, h => rfl
    | 1, h => rfl
    | 2, h => rfl
    | 3, h => rfl
    | 4, h => rfl
    | 5, h => rfl
    | 6, h => rfl
    | 7, h => rfl
    | 8, h => exact absurd rfl h
    | 9, h => rfl
    | 10, h => rfl
    | 11, h => rfl
    | 12, h => rfl
    | 13, h => rfl
    | 14, h => rfl
    | 15, h => rfl
    | 16, h => rfl
    | 17, h => rfl
    | 18, h => rfl
    | 19, h => rfl
    | 20, h => rfl
    | 21, h => rfl
    | 22, h => rfl
    | 23, h => rfl
    | 24, h => rfl
    | 25, h => rfl
    | 26, h => rfl
    | 27, h => rfl
    | 28, h => rfl
    | 29, h => rfl
    | 30, h => rfl
    | 31, h => rfl
    | 32, h => rfl
    | 33, h => rfl
    | j + 34, h => rfl
theorem uX_J0 (X : xG) (S : gS) (v : Int64) : va_up (cX X S) 8 (.inr (4, [.ref (xa X 1), .int (gI S 14), .long v, .int (gI S 15), .ref (xa X 21), .ref (xa X 22), .ref (xa X 23), .ref (xa X 24), .ref (xa X 25), .ref (xa X 26), .ref (xa X 27)])) = cX X (uJ S 0 v) := by
  funext j
  by_cases h : j = 8
  · subst h; rfl
  · rw [va_up, if_neg h]
    match j, h with
    | 0, h => rfl
    | 1, h => rfl
    | 2, h => rfl
    | 3, h => rfl
    | 4, h => rfl
    | 5, h => rfl
    | 6, h => rfl
    | 7, h => rfl
    | 8, h => exact absurd rfl h
    | 9, h => rfl
    | 10, h => rfl
    | 11, h => rfl
    | 12, h => rfl
    | 13, h => rfl
    | 14, h => rfl
    | 15, h => rfl
    | 16, h => rfl
    | 17, h => rfl
    | 18, h => rfl
    | 19, h => rfl
    | 20, h => rfl
    | 21, h => rfl
    | 22, h => rfl
    | 23, h => rfl
    | 24, h => rfl
    | 25, h => rfl
    | 26, h => rfl
    | 27, h => rfl
    | 28, h => rfl
    | 29, h => rfl
    | 30, h => rfl
    | 31, h => rfl
    | 32, h => rfl
    | 33, h => rfl
    | j + 34, h => rfl
theorem uX_I15 (X : xG) (S : gS) (v : Int32) : va_up (cX X S) 8 (.inr (4, [.ref (xa X 1), .int (gI S 14), .long (gJ S 0), .int v, .ref (xa X 21), .ref (xa X 22), .ref (xa X 23), .ref (xa X 24), .ref (xa X 25), .ref (xa X 26), .ref (xa X 27)])) = cX X (uI S 15 v) := by
  funext j
  by_cases h : j = 8
  · subst h; rfl
  · rw [va_up, if_neg h]
    match j, h with
    | 0, h => rfl
    | 1, h => rfl
    | 2, h => rfl
    | 3, h => rfl
    | 4, h => rfl
    | 5, h => rfl
    | 6, h => rfl
    | 7, h => rfl
    | 8, h => exact absurd rfl h
    | 9, h => rfl
    | 10, h => rfl
    | 11, h => rfl
    | 12, h => rfl
    | 13, h => rfl
    | 14, h => rfl
    | 15, h => rfl
    | 16, h => rfl
    | 17, h => rfl
    | 18, h => rfl
    | 19, h => rfl
    | 20, h => rfl
    | 21, h => rfl
    | 22, h => rfl
    | 23, h => rfl
    | 24, h => rfl
    | 25, h => rfl
    | 26, h => rfl
    | 27, h => rfl
    | 28, h => rfl
    | 29, h => rfl
    | 30, h => rfl
    | 31, h => rfl
    | 32, h => rfl
    | 33, h => rfl
    | j + 34, h => rfl
theorem uX_A10 (X : xG) (S : gS) (i : Nat) (v : Int32) : va_up (cX X S) 10 (.inl (xc X 0, 96, .inl (upd (gA S 10) i v))) = cX X (uA S 10 i v) := by
  funext j
  by_cases h : j = 10
  · subst h; rfl
  · rw [va_up, if_neg h]
    match j, h with
    | 0, h => rfl
    | 1, h => rfl
    | 2, h => rfl
    | 3, h => rfl
    | 4, h => rfl
    | 5, h => rfl
    | 6, h => rfl
    | 7, h => rfl
    | 8, h => rfl
    | 9, h => rfl
    | 10, h => exact absurd rfl h
    | 11, h => rfl
    | 12, h => rfl
    | 13, h => rfl
    | 14, h => rfl
    | 15, h => rfl
    | 16, h => rfl
    | 17, h => rfl
    | 18, h => rfl
    | 19, h => rfl
    | 20, h => rfl
    | 21, h => rfl
    | 22, h => rfl
    | 23, h => rfl
    | 24, h => rfl
    | 25, h => rfl
    | 26, h => rfl
    | 27, h => rfl
    | 28, h => rfl
    | 29, h => rfl
    | 30, h => rfl
    | 31, h => rfl
    | 32, h => rfl
    | 33, h => rfl
    | j + 34, h => rfl
theorem uX_A11 (X : xG) (S : gS) (i : Nat) (v : Int32) : va_up (cX X S) 11 (.inl (xc X 0, 6, .inl (upd (gA S 11) i v))) = cX X (uA S 11 i v) := by
  funext j
  by_cases h : j = 11
  · subst h; rfl
  · rw [va_up, if_neg h]
    match j, h with
    | 0, h => rfl
    | 1, h => rfl
    | 2, h => rfl
    | 3, h => rfl
    | 4, h => rfl
    | 5, h => rfl
    | 6, h => rfl
    | 7, h => rfl
    | 8, h => rfl
    | 9, h => rfl
    | 10, h => rfl
    | 11, h => exact absurd rfl h
    | 12, h => rfl
    | 13, h => rfl
    | 14, h => rfl
    | 15, h => rfl
    | 16, h => rfl
    | 17, h => rfl
    | 18, h => rfl
    | 19, h => rfl
    | 20, h => rfl
    | 21, h => rfl
    | 22, h => rfl
    | 23, h => rfl
    | 24, h => rfl
    | 25, h => rfl
    | 26, h => rfl
    | 27, h => rfl
    | 28, h => rfl
    | 29, h => rfl
    | 30, h => rfl
    | 31, h => rfl
    | 32, h => rfl
    | 33, h => rfl
    | j + 34, h => rfl
theorem uX_A12 (X : xG) (S : gS) (i : Nat) (v : Int32) : va_up (cX X S) 12 (.inl (xc X 2, 6, .inl (upd (gA S 12) i v))) = cX X (uA S 12 i v) := by
  funext j
  by_cases h : j = 12
  · subst h; rfl
  · rw [va_up, if_neg h]
    match j, h with
    | 0, h => rfl
    | 1, h => rfl
    | 2, h => rfl
    | 3, h => rfl
    | 4, h => rfl
    | 5, h => rfl
    | 6, h => rfl
    | 7, h => rfl
    | 8, h => rfl
    | 9, h => rfl
    | 10, h => rfl
    | 11, h => rfl
    | 12, h => exact absurd rfl h
    | 13, h => rfl
    | 14, h => rfl
    | 15, h => rfl
    | 16, h => rfl
    | 17, h => rfl
    | 18, h => rfl
    | 19, h => rfl
    | 20, h => rfl
    | 21, h => rfl
    | 22, h => rfl
    | 23, h => rfl
    | 24, h => rfl
    | 25, h => rfl
    | 26, h => rfl
    | 27, h => rfl
    | 28, h => rfl
    | 29, h => rfl
    | 30, h => rfl
    | 31, h => rfl
    | 32, h => rfl
    | 33, h => rfl
    | j + 34, h => rfl
theorem uX_A13 (X : xG) (S : gS) (i : Nat) (v : Int32) : va_up (cX X S) 13 (.inl (xc X 0, 8, .inl (upd (gA S 13) i v))) = cX X (uA S 13 i v) := by
  funext j
  by_cases h : j = 13
  · subst h; rfl
  · rw [va_up, if_neg h]
    match j, h with
    | 0, h => rfl
    | 1, h => rfl
    | 2, h => rfl
    | 3, h => rfl
    | 4, h => rfl
    | 5, h => rfl
    | 6, h => rfl
    | 7, h => rfl
    | 8, h => rfl
    | 9, h => rfl
    | 10, h => rfl
    | 11, h => rfl
    | 12, h => rfl
    | 13, h => exact absurd rfl h
    | 14, h => rfl
    | 15, h => rfl
    | 16, h => rfl
    | 17, h => rfl
    | 18, h => rfl
    | 19, h => rfl
    | 20, h => rfl
    | 21, h => rfl
    | 22, h => rfl
    | 23, h => rfl
    | 24, h => rfl
    | 25, h => rfl
    | 26, h => rfl
    | 27, h => rfl
    | 28, h => rfl
    | 29, h => rfl
    | 30, h => rfl
    | 31, h => rfl
    | 32, h => rfl
    | 33, h => rfl
    | j + 34, h => rfl
theorem uX_A14 (X : xG) (S : gS) (i : Nat) (v : Int32) : va_up (cX X S) 14 (.inl (xc X 0, 96, .inl (upd (gA S 14) i v))) = cX X (uA S 14 i v) := by
  funext j
  by_cases h : j = 14
  · subst h; rfl
  · rw [va_up, if_neg h]
    match j, h with
    | 0, h => rfl
    | 1, h => rfl
    | 2, h => rfl
    | 3, h => rfl
    | 4, h => rfl
    | 5, h => rfl
    | 6, h => rfl
    | 7, h => rfl
    | 8, h => rfl
    | 9, h => rfl
    | 10, h => rfl
    | 11, h => rfl
    | 12, h => rfl
    | 13, h => rfl
    | 14, h => exact absurd rfl h
    | 15, h => rfl
    | 16, h => rfl
    | 17, h => rfl
    | 18, h => rfl
    | 19, h => rfl
    | 20, h => rfl
    | 21, h => rfl
    | 22, h => rfl
    | 23, h => rfl
    | 24, h => rfl
    | 25, h => rfl
    | 26, h => rfl
    | 27, h => rfl
    | 28, h => rfl
    | 29, h => rfl
    | 30, h => rfl
    | 31, h => rfl
    | 32, h => rfl
    | 33, h => rfl
    | j + 34, h => rfl
theorem uX_A15 (X : xG) (S : gS) (i : Nat) (v : Int32) : va_up (cX X S) 15 (.inl (xc X 0, 6, .inl (upd (gA S 15) i v))) = cX X (uA S 15 i v) := by
  funext j
  by_cases h : j = 15
  · subst h; rfl
  · rw [va_up, if_neg h]
    match j, h with
    | 0, h => rfl
    | 1, h => rfl
    | 2, h => rfl
    | 3, h => rfl
    | 4, h => rfl
    | 5, h => rfl
    | 6, h => rfl
    | 7, h => rfl
    | 8, h => rfl
    | 9, h => rfl
    | 10, h => rfl
    | 11, h => rfl
    | 12, h => rfl
    | 13, h => rfl
    | 14, h => rfl
    | 15, h => exact absurd rfl h
    | 16, h => rfl
    | 17, h => rfl
    | 18, h => rfl
    | 19, h => rfl
    | 20, h => rfl
    | 21, h => rfl
    | 22, h => rfl
    | 23, h => rfl
    | 24, h => rfl
    | 25, h => rfl
    | 26, h => rfl
    | 27, h => rfl
    | 28, h => rfl
    | 29, h => rfl
    | 30, h => rfl
    | 31, h => rfl
    | 32, h => rfl
    | 33, h => rfl
    | j + 34, h => rfl
theorem uX_A16 (X : xG) (S : gS) (i : Nat) (v : Int32) : va_up (cX X S) 16 (.inl (xc X 2, 6, .inl (upd (gA S 16) i v))) = cX X (uA S 16 i v) := by
  funext j
  by_cases h : j = 16
  · subst h; rfl
  · rw [va_up, if_neg h]
    match j, h with
    | 0, h => rfl
    | 1, h => rfl
    | 2, h => rfl
    | 3, h => rfl
    | 4, h => rfl
    | 5, h => rfl
    | 6, h => rfl
    | 7, h => rfl
    | 8, h => rfl
    | 9, h => rfl
    | 10, h => rfl
    | 11, h => rfl
    | 12, h => rfl
    | 13, h => rfl
    | 14, h => rfl
    | 15, h => rfl
    | 16, h => exact absurd rfl h
    | 17, h => rfl
    | 18, h => rfl
    | 19, h => rfl
    | 20, h => rfl
    | 21, h => rfl
    | 22, h => rfl
    | 23, h => rfl
    | 24, h => rfl
    | 25, h => rfl
    | 26, h => rfl
    | 27, h => rfl
    | 28, h => rfl
    | 29, h => rfl
    | 30, h => rfl
    | 31, h => rfl
    | 32, h => rfl
    | 33, h => rfl
    | j + 34, h => rfl
theorem uX_A17 (X : xG) (S : gS) (i : Nat) (v : Int32) : va_up (cX X S) 17 (.inl (xc X 0, 8, .inl (upd (gA S 17) i v))) = cX X (uA S 17 i v) := by
  funext j
  by_cases h : j = 17
  · subst h; rfl
  · rw [va_up, if_neg h]
    match j, h with
    | 0, h => rfl
    | 1, h => rfl
    | 2, h => rfl
    | 3, h => rfl
    | 4, h => rfl
    | 5, h => rfl
    | 6, h => rfl
    | 7, h => rfl
    | 8, h => rfl
    | 9, h => rfl
    | 10, h => rfl
    | 11, h => rfl
    | 12, h => rfl
    | 13, h => rfl
    | 14, h => rfl
    | 15, h => rfl
    | 16, h => rfl
    | 17, h => exact absurd rfl h
    | 18, h => rfl
    | 19, h => rfl
    | 20, h => rfl
    | 21, h => rfl
    | 22, h => rfl
    | 23, h => rfl
    | 24, h => rfl
    | 25, h => rfl
    | 26, h => rfl
    | 27, h => rfl
    | 28, h => rfl
    | 29, h => rfl
    | 30, h => rfl
    | 31, h => rfl
    | 32, h => rfl
    | 33, h => rfl
    | j + 34, h => rfl
theorem uX_A18 (X : xG) (S : gS) (i : Nat) (v : Int64) : va_up (cX X S) 18 (.inl (xc X 1, 60, .inr (.inl (vp_updL (gB S 18) i v)))) = cX X (uB S 18 i v) := by
  funext j
  by_cases h : j = 18
  · subst h; rfl
  · rw [va_up, if_neg h]
    match j, h with
    | 0, h => rfl
    | 1, h => rfl
    | 2, h => rfl
    | 3, h => rfl
    | 4, h => rfl
    | 5, h => rfl
    | 6, h => rfl
    | 7, h => rfl
    | 8, h => rfl
    | 9, h => rfl
    | 10, h => rfl
    | 11, h => rfl
    | 12, h => rfl
    | 13, h => rfl
    | 14, h => rfl
    | 15, h => rfl
    | 16, h => rfl
    | 17, h => rfl
    | 18, h => exact absurd rfl h
    | 19, h => rfl
    | 20, h => rfl
    | 21, h => rfl
    | 22, h => rfl
    | 23, h => rfl
    | 24, h => rfl
    | 25, h => rfl
    | 26, h => rfl
    | 27, h => rfl
    | 28, h => rfl
    | 29, h => rfl
    | 30, h => rfl
    | 31, h => rfl
    | 32, h => rfl
    | 33, h => rfl
    | j + 34, h => rfl
theorem uX_A19 (X : xG) (S : gS) (i : Nat) (v : Int64) : va_up (cX X S) 19 (.inl (xc X 1, 384, .inr (.inl (vp_updL (gB S 19) i v)))) = cX X (uB S 19 i v) := by
  funext j
  by_cases h : j = 19
  · subst h; rfl
  · rw [va_up, if_neg h]
    match j, h with
    | 0, h => rfl
    | 1, h => rfl
    | 2, h => rfl
    | 3, h => rfl
    | 4, h => rfl
    | 5, h => rfl
    | 6, h => rfl
    | 7, h => rfl
    | 8, h => rfl
    | 9, h => rfl
    | 10, h => rfl
    | 11, h => rfl
    | 12, h => rfl
    | 13, h => rfl
    | 14, h => rfl
    | 15, h => rfl
    | 16, h => rfl
    | 17, h => rfl
    | 18, h => rfl
    | 19, h => exact absurd rfl h
    | 20, h => rfl
    | 21, h => rfl
    | 22, h => rfl
    | 23, h => rfl
    | 24, h => rfl
    | 25, h => rfl
    | 26, h => rfl
    | 27, h => rfl
    | 28, h => rfl
    | 29, h => rfl
    | 30, h => rfl
    | 31, h => rfl
    | 32, h => rfl
    | 33, h => rfl
    | j + 34, h => rfl
theorem uX_A20 (X : xG) (S : gS) (i : Nat) (v : Int64) : va_up (cX X S) 20 (.inl (xc X 1, 10930, .inr (.inl (vp_updL (gB S 20) i v)))) = cX X (uB S 20 i v) := by
  funext j
  by_cases h : j = 20
  · subst h; rfl
  · rw [va_up, if_neg h]
    match j, h with
    | 0, h => rfl
    | 1, h => rfl
    | 2, h => rfl
    | 3, h => rfl
    | 4, h => rfl
    | 5, h => rfl
    | 6, h => rfl
    | 7, h => rfl
    | 8, h => rfl
    | 9, h => rfl
    | 10, h => rfl
    | 11, h => rfl
    | 12, h => rfl
    | 13, h => rfl
    | 14, h => rfl
    | 15, h => rfl
    | 16, h => rfl
    | 17, h => rfl
    | 18, h => rfl
    | 19, h => rfl
    | 20, h => exact absurd rfl h
    | 21, h => rfl
    | 22, h => rfl
    | 23, h => rfl
    | 24, h => rfl
    | 25, h => rfl
    | 26, h => rfl
    | 27, h => rfl
    | 28, h => rfl
    | 29, h => rfl
    | 30, h => rfl
    | 31, h => rfl
    | 32, h => rfl
    | 33, h => rfl
    | j + 34, h => rfl
theorem uX_A21 (X : xG) (S : gS) (i : Nat) (v : Int32) : va_up (cX X S) 21 (.inl (xc X 0, 15, .inl (upd (gA S 21) i v))) = cX X (uA S 21 i v) := by
  funext j
  by_cases h : j = 21
  · subst h; rfl
  · rw [va_up, if_neg h]
    match j, h with
    | 0, h => rfl
    | 1, h => rfl
    | 2, h => rfl
    | 3, h => rfl
    | 4, h => rfl
    | 5, h => rfl
    | 6, h => rfl
    | 7, h => rfl
    | 8, h => rfl
    | 9, h => rfl
    | 10, h => rfl
    | 11, h => rfl
    | 12, h => rfl
    | 13, h => rfl
    | 14, h => rfl
    | 15, h => rfl
    | 16, h => rfl
    | 17, h => rfl
    | 18, h => rfl
    | 19, h => rfl
    | 20, h => rfl
    | 21, h => exact absurd rfl h
    | 22, h => rfl
    | 23, h => rfl
    | 24, h => rfl
    | 25, h => rfl
    | 26, h => rfl
    | 27, h => rfl
    | 28, h => rfl
    | 29, h => rfl
    | 30, h => rfl
    | 31, h => rfl
    | 32, h => rfl
    | 33, h => rfl
    | j + 34, h => rfl
theorem uX_A22 (X : xG) (S : gS) (i : Nat) (v : Int32) : va_up (cX X S) 22 (.inl (xc X 0, 15, .inl (upd (gA S 22) i v))) = cX X (uA S 22 i v) := by
  funext j
  by_cases h : j = 22
  · subst h; rfl
  · rw [va_up, if_neg h]
    match j, h with
    | 0, h => rfl
    | 1, h => rfl
    | 2, h => rfl
    | 3, h => rfl
    | 4, h => rfl
    | 5, h => rfl
    | 6, h => rfl
    | 7, h => rfl
    | 8, h => rfl
    | 9, h => rfl
    | 10, h => rfl
    | 11, h => rfl
    | 12, h => rfl
    | 13, h => rfl
    | 14, h => rfl
    | 15, h => rfl
    | 16, h => rfl
    | 17, h => rfl
    | 18, h => rfl
    | 19, h => rfl
    | 20, h => rfl
    | 21, h => rfl
    | 22, h => exact absurd rfl h
    | 23, h => rfl
    | 24, h => rfl
    | 25, h => rfl
    | 26, h => rfl
    | 27, h => rfl
    | 28, h => rfl
    | 29, h => rfl
    | 30, h => rfl
    | 31, h => rfl
    | 32, h => rfl
    | 33, h => rfl
    | j + 34, h => rfl
theorem uX_A23 (X : xG) (S : gS) (i : Nat) (v : Int32) : va_up (cX X S) 23 (.inl (xc X 0, 15, .inl (upd (gA S 23) i v))) = cX X (uA S 23 i v) := by
  funext j
  by_cases h : j = 23
  · subst h; rfl
  · rw [va_up, if_neg h]
    match j, h with
    | 0, h => rfl
    | 1, h => rfl
    | 2, h => rfl
    | 3, h => rfl
    | 4, h => rfl
    | 5, h => rfl
    | 6, h => rfl
    | 7, h => rfl
    | 8, h => rfl
    | 9, h => rfl
    | 10, h => rfl
    | 11, h => rfl
    | 12, h => rfl
    | 13, h => rfl
    | 14, h => rfl
    | 15, h => rfl
    | 16, h => rfl
    | 17, h => rfl
    | 18, h => rfl
    | 19, h => rfl
    | 20, h => rfl
    | 21, h => rfl
    | 22, h => rfl
    | 23, h => exact absurd rfl h
    | 24, h => rfl
    | 25, h => rfl
    | 26, h => rfl
    | 27, h => rfl
    | 28, h => rfl
    | 29, h => rfl
    | 30, h => rfl
    | 31, h => rfl
    | 32, h => rfl
    | 33, h => rfl
    | j + 34, h => rfl
theorem uX_A24 (X : xG) (S : gS) (i : Nat) (v : Int32) : va_up (cX X S) 24 (.inl (xc X 0, 15, .inl (upd (gA S 24) i v))) = cX X (uA S 24 i v) := by
  funext j
  by_cases h : j = 24
  · subst h; rfl
  · rw [va_up, if_neg h]
    match j, h with
    | 0, h => rfl
    | 1, h => rfl
    | 2, h => rfl
    | 3, h => rfl
    | 4, h => rfl
    | 5, h => rfl
    | 6, h => rfl
    | 7, h => rfl
    | 8, h => rfl
    | 9, h => rfl
    | 10, h => rfl
    | 11, h => rfl
    | 12, h => rfl
    | 13, h => rfl
    | 14, h => rfl
    | 15, h => rfl
    | 16, h => rfl
    | 17, h => rfl
    | 18, h => rfl
    | 19, h => rfl
    | 20, h => rfl
    | 21, h => rfl
    | 22, h => rfl
    | 23, h => rfl
    | 24, h => exact absurd rfl h
    | 25, h => rfl
    | 26, h => rfl
    | 27, h => rfl
    | 28, h => rfl
    | 29, h => rfl
    | 30, h => rfl
    | 31, h => rfl
    | 32, h => rfl
    | 33, h => rfl
    | j + 34, h => rfl
theorem uX_A25 (X : xG) (S : gS) (i : Nat) (v : Int32) : va_up (cX X S) 25 (.inl (xc X 0, 15, .inl (upd (gA S 25) i v))) = cX X (uA S 25 i v) := by
  funext j
  by_cases h : j = 25
  · subst h; rfl
  · rw [va_up, if_neg h]
    match j, h with
    | 0, h => rfl
    | 1, h => rfl
    | 2, h => rfl
    | 3, h => rfl
    | 4, h => rfl
    | 5, h => rfl
    | 6, h => rfl
    | 7, h => rfl
    | 8, h => rfl
    | 9, h => rfl
    | 10, h => rfl
    | 11, h => rfl
    | 12, h => rfl
    | 13, h => rfl
    | 14, h => rfl
    | 15, h => rfl
    | 16, h => rfl
    | 17, h => rfl
    | 18, h => rfl
    | 19, h => rfl
    | 20, h => rfl
    | 21, h => rfl
    | 22, h => rfl
    | 23, h => rfl
    | 24, h => rfl
    | 25, h => exact absurd rfl h
    | 26, h => rfl
    | 27, h => rfl
    | 28, h => rfl
    | 29, h => rfl
    | 30, h => rfl
    | 31, h => rfl
    | 32, h => rfl
    | 33, h => rfl
    | j + 34, h => rfl
theorem uX_A26 (X : xG) (S : gS) (i : Nat) (v : Int32) : va_up (cX X S) 26 (.inl (xc X 0, 15, .inl (upd (gA S 26) i v))) = cX X (uA S 26 i v) := by
  funext j
  by_cases h : j = 26
  · subst h; rfl
  · rw [va_up, if_neg h]
    match j, h with
    | 0, h => rfl
    | 1, h => rfl
    | 2, h => rfl
    | 3, h => rfl
    | 4, h => rfl
    | 5, h => rfl
    | 6, h => rfl
    | 7, h => rfl
    | 8, h => rfl
    | 9, h => rfl
    | 10, h => rfl
    | 11, h => rfl
    | 12, h => rfl
    | 13, h => rfl
    | 14, h => rfl
    | 15, h => rfl
    | 16, h => rfl
    | 17, h => rfl
    | 18, h => rfl
    | 19, h => rfl
    | 20, h => rfl
    | 21, h => rfl
    | 22, h => rfl
    | 23, h => rfl
    | 24, h => rfl
    | 25, h => rfl
    | 26, h => exact absurd rfl h
    | 27, h => rfl
    | 28, h => rfl
    | 29, h => rfl
    | 30, h => rfl
    | 31, h => rfl
    | 32, h => rfl
    | 33, h => rfl
    | j + 34, h => rfl
theorem uX_A27 (X : xG) (S : gS) (i : Nat) (v : Int64) : va_up (cX X S) 27 (.inl (xc X 1, 15, .inr (.inl (vp_updL (gB S 27) i v)))) = cX X (uB S 27 i v) := by
  funext j
  by_cases h : j = 27
  · subst h; rfl
  · rw [va_up, if_neg h]
    match j, h with
    | 0, h => rfl
    | 1, h => rfl
    | 2, h => rfl
    | 3, h => rfl
    | 4, h => rfl
    | 5, h => rfl
    | 6, h => rfl
    | 7, h => rfl
    | 8, h => rfl
    | 9, h => rfl
    | 10, h => rfl
    | 11, h => rfl
    | 12, h => rfl
    | 13, h => rfl
    | 14, h => rfl
    | 15, h => rfl
    | 16, h => rfl
    | 17, h => rfl
    | 18, h => rfl
    | 19, h => rfl
    | 20, h => rfl
    | 21, h => rfl
    | 22, h => rfl
    | 23, h => rfl
    | 24, h => rfl
    | 25, h => rfl
    | 26, h => rfl
    | 27, h => exact absurd rfl h
    | 28, h => rfl
    | 29, h => rfl
    | 30, h => rfl
    | 31, h => rfl
    | 32, h => rfl
    | 33, h => rfl
    | j + 34, h => rfl
theorem uX_A28 (X : xG) (S : gS) (i : Nat) (v : Int32) : va_up (cX X S) 28 (.inl (xc X 2, 3, .inl (upd (gA S 28) i v))) = cX X (uA S 28 i v) := by
  funext j
  by_cases h : j = 28
  · subst h; rfl
  · rw [va_up, if_neg h]
    match j, h with
    | 0, h => rfl
    | 1, h => rfl
    | 2, h => rfl
    | 3, h => rfl
    | 4, h => rfl
    | 5, h => rfl
    | 6, h => rfl
    | 7, h => rfl
    | 8, h => rfl
    | 9, h => rfl
    | 10, h => rfl
    | 11, h => rfl
    | 12, h => rfl
    | 13, h => rfl
    | 14, h => rfl
    | 15, h => rfl
    | 16, h => rfl
    | 17, h => rfl
    | 18, h => rfl
    | 19, h => rfl
    | 20, h => rfl
    | 21, h => rfl
    | 22, h => rfl
    | 23, h => rfl
    | 24, h => rfl
    | 25, h => rfl
    | 26, h => rfl
    | 27, h => rfl
    | 28, h => exact absurd rfl h
    | 29, h => rfl
    | 30, h => rfl
    | 31, h => rfl
    | 32, h => rfl
    | 33, h => rfl
    | j + 34, h => rfl
theorem uX_A29 (X : xG) (S : gS) (i : Nat) (v : Int32) : va_up (cX X S) 29 (.inl (xc X 2, 3, .inl (upd (gA S 29) i v))) = cX X (uA S 29 i v) := by
  funext j
  by_cases h : j = 29
  · subst h; rfl
  · rw [va_up, if_neg h]
    match j, h with
    | 0, h => rfl
    | 1, h => rfl
    | 2, h => rfl
    | 3, h => rfl
    | 4, h => rfl
    | 5, h => rfl
    | 6, h => rfl
    | 7, h => rfl
    | 8, h => rfl
    | 9, h => rfl
    | 10, h => rfl
    | 11, h => rfl
    | 12, h => rfl
    | 13, h => rfl
    | 14, h => rfl
    | 15, h => rfl
    | 16, h => rfl
    | 17, h => rfl
    | 18, h => rfl
    | 19, h => rfl
    | 20, h => rfl
    | 21, h => rfl
    | 22, h => rfl
    | 23, h => rfl
    | 24, h => rfl
    | 25, h => rfl
    | 26, h => rfl
    | 27, h => rfl
    | 28, h => rfl
    | 29, h => exact absurd rfl h
    | 30, h => rfl
    | 31, h => rfl
    | 32, h => rfl
    | 33, h => rfl
    | j + 34, h => rfl
theorem uX_A30 (X : xG) (S : gS) (i : Nat) (v : Int32) : va_up (cX X S) 30 (.inl (xc X 0, 3, .inl (upd (gA S 30) i v))) = cX X (uA S 30 i v) := by
  funext j
  by_cases h : j = 30
  · subst h; rfl
  · rw [va_up, if_neg h]
    match j, h with
    | 0, h => rfl
    | 1, h => rfl
    | 2, h => rfl
    | 3, h => rfl
    | 4, h => rfl
    | 5, h => rfl
    | 6, h => rfl
    | 7, h => rfl
    | 8, h => rfl
    | 9, h => rfl
    | 10, h => rfl
    | 11, h => rfl
    | 12, h => rfl
    | 13, h => rfl
    | 14, h => rfl
    | 15, h => rfl
    | 16, h => rfl
    | 17, h => rfl
    | 18, h => rfl
    | 19, h => rfl
    | 20, h => rfl
    | 21, h => rfl
    | 22, h => rfl
    | 23, h => rfl
    | 24, h => rfl
    | 25, h => rfl
    | 26, h => rfl
    | 27, h => rfl
    | 28, h => rfl
    | 29, h => rfl
    | 30, h => exact absurd rfl h
    | 31, h => rfl
    | 32, h => rfl
    | 33, h => rfl
    | j + 34, h => rfl
theorem uX_A31 (X : xG) (S : gS) (i : Nat) (v : Int32) : va_up (cX X S) 31 (.inl (xc X 0, 120, .inl (upd (gA S 31) i v))) = cX X (uA S 31 i v) := by
  funext j
  by_cases h : j = 31
  · subst h; rfl
  · rw [va_up, if_neg h]
    match j, h with
    | 0, h => rfl
    | 1, h => rfl
    | 2, h => rfl
    | 3, h => rfl
    | 4, h => rfl
    | 5, h => rfl
    | 6, h => rfl
    | 7, h => rfl
    | 8, h => rfl
    | 9, h => rfl
    | 10, h => rfl
    | 11, h => rfl
    | 12, h => rfl
    | 13, h => rfl
    | 14, h => rfl
    | 15, h => rfl
    | 16, h => rfl
    | 17, h => rfl
    | 18, h => rfl
    | 19, h => rfl
    | 20, h => rfl
    | 21, h => rfl
    | 22, h => rfl
    | 23, h => rfl
    | 24, h => rfl
    | 25, h => rfl
    | 26, h => rfl
    | 27, h => rfl
    | 28, h => rfl
    | 29, h => rfl
    | 30, h => rfl
    | 31, h => exact absurd rfl h
    | 32, h => rfl
    | 33, h => rfl
    | j + 34, h => rfl
theorem uX_A32 (X : xG) (S : gS) (i : Nat) (v : Int64) : va_up (cX X S) 32 (.inl (xc X 1, 1, .inr (.inl (vp_updL (gB S 32) i v)))) = cX X (uB S 32 i v) := by
  funext j
  by_cases h : j = 32
  · subst h; rfl
  · rw [va_up, if_neg h]
    match j, h with
    | 0, h => rfl
    | 1, h => rfl
    | 2, h => rfl
    | 3, h => rfl
    | 4, h => rfl
    | 5, h => rfl
    | 6, h => rfl
    | 7, h => rfl
    | 8, h => rfl
    | 9, h => rfl
    | 10, h => rfl
    | 11, h => rfl
    | 12, h => rfl
    | 13, h => rfl
    | 14, h => rfl
    | 15, h => rfl
    | 16, h => rfl
    | 17, h => rfl
    | 18, h => rfl
    | 19, h => rfl
    | 20, h => rfl
    | 21, h => rfl
    | 22, h => rfl
    | 23, h => rfl
    | 24, h => rfl
    | 25, h => rfl
    | 26, h => rfl
    | 27, h => rfl
    | 28, h => rfl
    | 29, h => rfl
    | 30, h => rfl
    | 31, h => rfl
    | 32, h => exact absurd rfl h
    | 33, h => rfl
    | j + 34, h => rfl
/-- words that nest mates link by, and abstract names -/
def nestW : List Cond := [.fieldLinkNest "GrammarAmbiguity" 110 "GrammarAmbiguity$Grammar" "productions" "I" "GrammarAmbiguity", .fieldLinkNest "GrammarAmbiguity" 145 "GrammarAmbiguity$Grammar" "start" "I" "GrammarAmbiguity", .fieldLinkNest "GrammarAmbiguity" 148 "GrammarAmbiguity$Tree" "present" "Z" "GrammarAmbiguity", .fieldLinkNest "GrammarAmbiguity" 214 "GrammarAmbiguity$Grammar" "terminals" "I" "GrammarAmbiguity", .fieldLinkNest "GrammarAmbiguity" 238 "GrammarAmbiguity$Tree" "size" "I" "GrammarAmbiguity", .fieldLinkNest "GrammarAmbiguity" 253 "GrammarAmbiguity$Tree" "number" "J" "GrammarAmbiguity", .fieldLinkNest "GrammarAmbiguity" 264 "GrammarAmbiguity$Tree" "productions" "[I" "GrammarAmbiguity", .fieldLinkNest "GrammarAmbiguity" 267 "GrammarAmbiguity$Tree" "begins" "[I" "GrammarAmbiguity", .fieldLinkNest "GrammarAmbiguity" 270 "GrammarAmbiguity$Tree" "lengths" "[I" "GrammarAmbiguity", .fieldLinkNest "GrammarAmbiguity" 87 "GrammarAmbiguity$Word" "length" "I" "GrammarAmbiguity", .fieldLinkNest "GrammarAmbiguity$Counts" 27 "GrammarAmbiguity$Grammar" "nonterminals" "I" "GrammarAmbiguity", .fieldLinkNest "GrammarAmbiguity$Counts" 32 "GrammarAmbiguity$Grammar" "productions" "I" "GrammarAmbiguity", .fieldLinkNest "GrammarAmbiguity$SpanCounts" 15 "GrammarAmbiguity$Word" "length" "I" "GrammarAmbiguity", .fieldLinkNest "GrammarAmbiguity$SpanCounts" 21 "GrammarAmbiguity$Word" "letters" "[I" "GrammarAmbiguity", .fieldLinkNest "GrammarAmbiguity$Tree" 83 "GrammarAmbiguity$Grammar" "productions" "I" "GrammarAmbiguity", .fieldLinkNest "GrammarAmbiguity$WordCounts" 27 "GrammarAmbiguity" "WORD_PLACES" "[I" "GrammarAmbiguity", .fieldLinkNest "GrammarAmbiguity$WordCounts" 31 "GrammarAmbiguity$Grammar" "nonterminals" "I" "GrammarAmbiguity", .fieldLinkNest "GrammarAmbiguity$WordCounts" 40 "GrammarAmbiguity$Grammar" "productions" "I" "GrammarAmbiguity", .fieldLinkNest "GrammarAmbiguity$WordCounts" 59 "GrammarAmbiguity$Grammar" "terminals" "I" "GrammarAmbiguity", .fieldLinkNest "GrammarAmbiguity$WordCounts" 62 "GrammarAmbiguity" "POWERS" "[I" "GrammarAmbiguity", .fieldLinkNest "GrammarAmbiguity$WordCounts" 87 "GrammarAmbiguity$Grammar" "start" "I" "GrammarAmbiguity", .methodLinkNest "GrammarAmbiguity" 104 ⟨"GrammarAmbiguity$Grammar", "holds", "(IIII)Z"⟩ "GrammarAmbiguity", .methodLinkNest "GrammarAmbiguity" 11 ⟨"GrammarAmbiguity$Grammar", "<init>", "()V"⟩ "GrammarAmbiguity", .methodLinkNest "GrammarAmbiguity" 118 ⟨"GrammarAmbiguity$Grammar", "add", "(IIII)V"⟩ "GrammarAmbiguity", .methodLinkNest "GrammarAmbiguity" 126 ⟨"GrammarAmbiguity$Grammar", "remove", "(I)V"⟩ "GrammarAmbiguity", .methodLinkNest "GrammarAmbiguity" 129 ⟨"GrammarAmbiguity$Grammar", "removeUnused", "()I"⟩ "GrammarAmbiguity", .methodLinkNest "GrammarAmbiguity" 138 ⟨"GrammarAmbiguity$Grammar", "symbol", "(II)I"⟩ "GrammarAmbiguity", .methodLinkNest "GrammarAmbiguity" 151 ⟨"GrammarAmbiguity$Grammar", "measure", "()V"⟩ "GrammarAmbiguity", .methodLinkNest "GrammarAmbiguity" 154 ⟨"GrammarAmbiguity$Grammar", "shortestPart", "(I)I"⟩ "GrammarAmbiguity", .methodLinkNest "GrammarAmbiguity" 158 ⟨"GrammarAmbiguity$Grammar", "isTerminal", "(I)Z"⟩ "GrammarAmbiguity", .methodLinkNest "GrammarAmbiguity" 165 ⟨"GrammarAmbiguity$Word", "put", "(II)V"⟩ "GrammarAmbiguity", .methodLinkNest "GrammarAmbiguity" 170 ⟨"GrammarAmbiguity$Word", "letter", "(I)I"⟩ "GrammarAmbiguity", .methodLinkNest "GrammarAmbiguity" 18 ⟨"GrammarAmbiguity$Word", "<init>", "()V"⟩ "GrammarAmbiguity", .methodLinkNest "GrammarAmbiguity" 192 ⟨"GrammarAmbiguity$WordCounts", "atLeast", "(II)I"⟩ "GrammarAmbiguity", .methodLinkNest "GrammarAmbiguity" 195 ⟨"GrammarAmbiguity$WordCounts", "ofLength", "(I)I"⟩ "GrammarAmbiguity", .methodLinkNest "GrammarAmbiguity" 203 ⟨"GrammarAmbiguity$WordCounts", "find", "(III)I"⟩ "GrammarAmbiguity", .methodLinkNest "GrammarAmbiguity" 217 ⟨"GrammarAmbiguity$Word", "key", "(I)I"⟩ "GrammarAmbiguity", .methodLinkNest "GrammarAmbiguity" 220 ⟨"GrammarAmbiguity$WordCounts", "count", "(II)J"⟩ "GrammarAmbiguity", .methodLinkNest "GrammarAmbiguity" 225 ⟨"GrammarAmbiguity$WordCounts", "atLeastBefore", "(III)I"⟩ "GrammarAmbiguity", .methodLinkNest "GrammarAmbiguity" 241 ⟨"GrammarAmbiguity$Tree", "grow", "(LGrammarAmbiguity$Counts;IIIIJ)V"⟩ "GrammarAmbiguity", .methodLinkNest "GrammarAmbiguity" 245 ⟨"GrammarAmbiguity$Tree", "spell", "(LGrammarAmbiguity$Word;)V"⟩ "GrammarAmbiguity", .methodLinkNest "GrammarAmbiguity" 249 ⟨"GrammarAmbiguity$Tree", "findNumber", "(LGrammarAmbiguity$SpanCounts;)J"⟩ "GrammarAmbiguity", .methodLinkNest "GrammarAmbiguity" 279 ⟨"GrammarAmbiguity$Slots", "begin", "(IZI)V"⟩ "GrammarAmbiguity", .methodLinkNest "GrammarAmbiguity" 289 ⟨"GrammarAmbiguity$Slots", "element", "(II)I"⟩ "GrammarAmbiguity", .methodLinkNest "GrammarAmbiguity" 292 ⟨"GrammarAmbiguity$Slots", "put", "(III)V"⟩ "GrammarAmbiguity", .methodLinkNest "GrammarAmbiguity" 298 ⟨"GrammarAmbiguity$Grammar", "copy", "(LGrammarAmbiguity$Grammar;)V"⟩ "GrammarAmbiguity", .methodLinkNest "GrammarAmbiguity" 301 ⟨"GrammarAmbiguity$Word", "copy", "(LGrammarAmbiguity$Word;)V"⟩ "GrammarAmbiguity", .methodLinkNest "GrammarAmbiguity" 308 ⟨"GrammarAmbiguity$WordCounts", "forget", "()V"⟩ "GrammarAmbiguity", .methodLinkNest "GrammarAmbiguity" 31 ⟨"GrammarAmbiguity$LengthCounts", "<init>", "(LGrammarAmbiguity$Grammar;)V"⟩ "GrammarAmbiguity", .methodLinkNest "GrammarAmbiguity" 315 ⟨"GrammarAmbiguity$WordCounts", "fill", "(I)V"⟩ "GrammarAmbiguity", .methodLinkNest "GrammarAmbiguity" 316 ⟨"GrammarAmbiguity$Word", "set", "(III)V"⟩ "GrammarAmbiguity", .methodLinkNest "GrammarAmbiguity" 331 ⟨"GrammarAmbiguity$Slots", "isHeld", "(I)Z"⟩ "GrammarAmbiguity", .methodLinkNest "GrammarAmbiguity" 336 ⟨"GrammarAmbiguity$Slots", "length", "(I)I"⟩ "GrammarAmbiguity", .methodLinkNest "GrammarAmbiguity" 40 ⟨"GrammarAmbiguity$SpanCounts", "<init>", "(LGrammarAmbiguity$Grammar;LGrammarAmbiguity$Word;)V"⟩ "GrammarAmbiguity", .methodLinkNest "GrammarAmbiguity" 49 ⟨"GrammarAmbiguity$WordCounts", "<init>", "(LGrammarAmbiguity$Grammar;LGrammarAmbiguity$LengthCounts;)V"⟩ "GrammarAmbiguity", .methodLinkNest "GrammarAmbiguity" 58 ⟨"GrammarAmbiguity$Tree", "<init>", "(LGrammarAmbiguity$Grammar;)V"⟩ "GrammarAmbiguity", .methodLinkNest "GrammarAmbiguity" 65 ⟨"GrammarAmbiguity$Slots", "<init>", "()V"⟩ "GrammarAmbiguity", .methodLinkNest "GrammarAmbiguity" 83 ⟨"GrammarAmbiguity$Grammar", "begin", "(II)V"⟩ "GrammarAmbiguity", .methodLinkNest "GrammarAmbiguity" 94 ⟨"GrammarAmbiguity$Grammar", "isNonterminal", "(I)Z"⟩ "GrammarAmbiguity", .methodLinkNest "GrammarAmbiguity" 98 ⟨"GrammarAmbiguity$Grammar", "isRightSide", "(III)Z"⟩ "GrammarAmbiguity", .methodLinkNest "GrammarAmbiguity$Counts" 56 ⟨"GrammarAmbiguity$Grammar", "symbol", "(II)I"⟩ "GrammarAmbiguity", .methodLinkNest "GrammarAmbiguity$LengthCounts" 3 ⟨"GrammarAmbiguity$Counts", "<init>", "(LGrammarAmbiguity$Grammar;I)V"⟩ "GrammarAmbiguity", .methodLinkNest "GrammarAmbiguity$SpanCounts" 3 ⟨"GrammarAmbiguity$Counts", "<init>", "(LGrammarAmbiguity$Grammar;I)V"⟩ "GrammarAmbiguity", .methodLinkNest "GrammarAmbiguity$Tree" 100 ⟨"GrammarAmbiguity$Word", "put", "(II)V"⟩ "GrammarAmbiguity", .methodLinkNest "GrammarAmbiguity$Tree" 50 ⟨"GrammarAmbiguity$Grammar", "isNonterminal", "(I)Z"⟩ "GrammarAmbiguity", .methodLinkNest "GrammarAmbiguity$Tree" 66 ⟨"GrammarAmbiguity$Grammar", "symbol", "(II)I"⟩ "GrammarAmbiguity", .methodLinkNest "GrammarAmbiguity$WordCounts" 72 ⟨"GrammarAmbiguity$Grammar", "symbol", "(II)I"⟩ "GrammarAmbiguity", .declares ⟨"GrammarAmbiguity$Counts", "count", "(III)J"⟩, .declares ⟨"GrammarAmbiguity$Counts", "fill", "(I)V"⟩, .declares ⟨"GrammarAmbiguity$Counts", "fits", "(II)Z"⟩, .declares ⟨"GrammarAmbiguity$Counts", "forget", "()V"⟩, .declares ⟨"GrammarAmbiguity$Counts", "ofFirst", "(IIII)J"⟩, .declares ⟨"GrammarAmbiguity$Counts", "ofProduction", "(IIII)J"⟩, .declares ⟨"GrammarAmbiguity$Counts", "ofSecond", "(IIIII)J"⟩, .declares ⟨"GrammarAmbiguity$Counts", "part", "(II)I"⟩, .declares ⟨"GrammarAmbiguity$Counts", "pieces", "(I)I"⟩, .declares ⟨"GrammarAmbiguity$Counts", "place", "(II)I"⟩, .declares ⟨"java/lang/Exception", "<init>", "()V"⟩, .declares ⟨"java/lang/Exception", "<init>", "(Ljava/lang/String;)V"⟩, .declares ⟨"java/lang/RuntimeException", "<init>", "()V"⟩, .declares ⟨"java/lang/RuntimeException", "<init>", "(Ljava/lang/String;)V"⟩, .declares ⟨"java/lang/Throwable", "<init>", "()V"⟩, .declares ⟨"java/lang/Throwable", "<init>", "(Ljava/lang/String;)V"⟩, .castable "GrammarAmbiguity" "java/lang/Object", .castable "GrammarAmbiguity$Grammar" "java/lang/Object", .castable "GrammarAmbiguity$LengthCounts" "java/lang/Object", .castable "GrammarAmbiguity$Slots" "java/lang/Object", .castable "GrammarAmbiguity$SpanCounts" "java/lang/Object", .castable "GrammarAmbiguity$Tree" "java/lang/Object", .castable "GrammarAmbiguity$Word" "java/lang/Object", .castable "GrammarAmbiguity$WordCounts" "java/lang/Object", .castable "GrammarAmbiguityModel" "java/lang/Object", .castable "java/lang/IllegalArgumentException" "java/lang/IllegalArgumentException", .castable "java/lang/IllegalArgumentException" "java/lang/Object", .castable "java/lang/IllegalStateException" "java/lang/IllegalStateException", .castable "java/lang/IllegalStateException" "java/lang/Object", .castable "java/lang/IndexOutOfBoundsException" "java/lang/IndexOutOfBoundsException", .castable "java/lang/IndexOutOfBoundsException" "java/lang/Object", .castable "java/lang/String" "java/lang/Object", .castable "java/lang/Throwable" "java/lang/Object", .castable "java/util/NoSuchElementException" "java/lang/Object", .castable "java/util/NoSuchElementException" "java/util/NoSuchElementException"]
theorem nestW_warm {s U : State} (hW : s.WarmedH U.vm) (h : ∀ w ∈ nestW, va_Nw w s) : ∀ w ∈ nestW, va_Nw w U := by
  intro w hw
  have h1 := h w hw
  simp only [nestW, List.mem_cons, List.not_mem_nil, or_false] at hw
  rcases hw with rfl | rfl | rfl | rfl | rfl | rfl | rfl | rfl | rfl | rfl | rfl | rfl | rfl | rfl | rfl | rfl | rfl | rfl | rfl | rfl | rfl | rfl | rfl | rfl | rfl | rfl | rfl | rfl | rfl | rfl | rfl | rfl | rfl | rfl | rfl | rfl | rfl | rfl | rfl | rfl | rfl | rfl | rfl | rfl | rfl | rfl | rfl | rfl | rfl | rfl | rfl | rfl | rfl | rfl | rfl | rfl | rfl | rfl | rfl | rfl | rfl | rfl | rfl | rfl | rfl | rfl | rfl | rfl | rfl | rfl | rfl | rfl | rfl | rfl | rfl | rfl | rfl | rfl | rfl | rfl | rfl | rfl | rfl | rfl | rfl | rfl | rfl | rfl | rfl | rfl | rfl | rfl | rfl | rfl | rfl | rfl | rfl | rfl | rfl | rfl | rfl | rfl
  · exact va_Nw.warmF hW h1
  · exact va_Nw.warmF hW h1
  · exact va_Nw.warmF hW h1
  · exact va_Nw.warmF hW h1
  · exact va_Nw.warmF hW h1
  · exact va_Nw.warmF hW h1
  · exact va_Nw.warmF hW h1
  · exact va_Nw.warmF hW h1
  · exact va_Nw.warmF hW h1
  · exact va_Nw.warmF hW h1
  · exact va_Nw.warmF hW h1
  · exact va_Nw.warmF hW h1
  · exact va_Nw.warmF hW h1
  · exact va_Nw.warmF hW h1
  · exact va_Nw.warmF hW h1
  · exact va_Nw.warmF hW h1
  · exact va_Nw.warmF hW h1
  · exact va_Nw.warmF hW h1
  · exact va_Nw.warmF hW h1
  · exact va_Nw.warmF hW h1
  · exact va_Nw.warmF hW h1
  · exact va_Nw.warmM hW h1
  · exact va_Nw.warmM hW h1
  · exact va_Nw.warmM hW h1
  · exact va_Nw.warmM hW h1
  · exact va_Nw.warmM hW h1
  · exact va_Nw.warmM hW h1
  · exact va_Nw.warmM hW h1
  · exact va_Nw.warmM hW h1
  · exact va_Nw.warmM hW h1
  · exact va_Nw.warmM hW h1
  · exact va_Nw.warmM hW h1
  · exact va_Nw.warmM hW h1
  · exact va_Nw.warmM hW h1
  · exact va_Nw.warmM hW h1
  · exact va_Nw.warmM hW h1
  · exact va_Nw.warmM hW h1
  · exact va_Nw.warmM hW h1
  · exact va_Nw.warmM hW h1
  · exact va_Nw.warmM hW h1
  · exact va_Nw.warmM hW h1
  · exact va_Nw.warmM hW h1
  · exact va_Nw.warmM hW h1
  · exact va_Nw.warmM hW h1
  · exact va_Nw.warmM hW h1
  · exact va_Nw.warmM hW h1
  · exact va_Nw.warmM hW h1
  · exact va_Nw.warmM hW h1
  · exact va_Nw.warmM hW h1
  · exact va_Nw.warmM hW h1
  · exact va_Nw.warmM hW h1
  · exact va_Nw.warmM hW h1
  · exact va_Nw.warmM hW h1
  · exact va_Nw.warmM hW h1
  · exact va_Nw.warmM hW h1
  · exact va_Nw.warmM hW h1
  · exact va_Nw.warmM hW h1
  · exact va_Nw.warmM hW h1
  · exact va_Nw.warmM hW h1
  · exact va_Nw.warmM hW h1
  · exact va_Nw.warmM hW h1
  · exact va_Nw.warmM hW h1
  · exact va_Nw.warmM hW h1
  · exact va_Nw.warmM hW h1
  · exact va_Nw.warmM hW h1
  · exact va_Nw.warmM hW h1
  · exact va_Nw.warmM hW h1
  · exact va_Nw.warmD hW h1
  · exact va_Nw.warmD hW h1
  · exact va_Nw.warmD hW h1
  · exact va_Nw.warmD hW h1
  · exact va_Nw.warmD hW h1
  · exact va_Nw.warmD hW h1
  · exact va_Nw.warmD hW h1
  · exact va_Nw.warmD hW h1
  · exact va_Nw.warmD hW h1
  · exact va_Nw.warmD hW h1
  · exact va_Nw.warmD hW h1
  · exact va_Nw.warmD hW h1
  · exact va_Nw.warmD hW h1
  · exact va_Nw.warmD hW h1
  · exact va_Nw.warmD hW h1
  · exact va_Nw.warmD hW h1
  · exact va_Nw.warmC hW h1
  · exact va_Nw.warmC hW h1
  · exact va_Nw.warmC hW h1
  · exact va_Nw.warmC hW h1
  · exact va_Nw.warmC hW h1
  · exact va_Nw.warmC hW h1
  · exact va_Nw.warmC hW h1
  · exact va_Nw.warmC hW h1
  · exact va_Nw.warmC hW h1
  · exact va_Nw.warmC hW h1
  · exact va_Nw.warmC hW h1
  · exact va_Nw.warmC hW h1
  · exact va_Nw.warmC hW h1
  · exact va_Nw.warmC hW h1
  · exact va_Nw.warmC hW h1
  · exact va_Nw.warmC hW h1
  · exact va_Nw.warmC hW h1
  · exact va_Nw.warmC hW h1
  · exact va_Nw.warmC hW h1
theorem nestW_tab : ∀ w ∈ nestW, w ∈ lw_tbl := by decide +kernel
theorem nestW_on : ∀ w ∈ nestW, w.onTables = true := by decide +kernel
/-- the words of the throws -/
def thrW_0 : List Cond := [.classLink "GrammarAmbiguity" 113 "java/lang/IllegalStateException", .classLink "GrammarAmbiguity" 133 "java/lang/IndexOutOfBoundsException", .classLink "GrammarAmbiguity" 198 "java/util/NoSuchElementException", .classLink "GrammarAmbiguity" 74 "java/lang/IllegalArgumentException", .classLink "GrammarAmbiguityLaw" 13 "java/lang/IllegalArgumentException", .classLink "GrammarAmbiguityLaw" 19 "java/lang/IllegalStateException", .classLink "GrammarAmbiguityLaw" 29 "java/lang/IndexOutOfBoundsException", .classLink "GrammarAmbiguityLaw" 57 "java/util/NoSuchElementException", .code ⟨"java/lang/Exception", "<init>", "(Ljava/lang/String;)V"⟩ prog_13_method_2_code 2 none, .code ⟨"java/lang/IllegalArgumentException", "<init>", "(Ljava/lang/String;)V"⟩ prog_14_method_2_code 2 none, .code ⟨"java/lang/IllegalStateException", "<init>", "(Ljava/lang/String;)V"⟩ prog_15_method_2_code 2 none, .code ⟨"java/lang/IndexOutOfBoundsException", "<init>", "(Ljava/lang/String;)V"⟩ prog_16_method_2_code 2 none, .code ⟨"java/lang/Object", "<init>", "()V"⟩ object_method_1_code 1 none, .code ⟨"java/lang/RuntimeException", "<init>", "(Ljava/lang/String;)V"⟩ prog_18_method_2_code 2 none, .code ⟨"java/lang/Throwable", "<init>", "()V"⟩ prog_20_method_1_code 1 none, .code ⟨"java/lang/Throwable", "<init>", "(Ljava/lang/String;)V"⟩ prog_20_method_2_code 2 none, .code ⟨"java/util/NoSuchElementException", "<init>", "(Ljava/lang/String;)V"⟩ prog_21_method_4_code 2 none, .codeSync ⟨"java/lang/Throwable", "fillInStackTrace", "()Ljava/lang/Throwable;"⟩ prog_20_method_18_code 1 (some (.object "java/lang/Throwable")), .fieldLink "java/lang/Throwable" 13 "java/lang/Throwable" "UNASSIGNED_STACK" "[Ljava/lang/StackTraceElement;", .fieldLink "java/lang/Throwable" 17 "java/lang/Throwable" "stackTrace" "[Ljava/lang/StackTraceElement;", .fieldLink "java/lang/Throwable" 198 "java/lang/Throwable" "backtrace" "Ljava/lang/Object;", .fieldLink "java/lang/Throwable" 20 "java/lang/Throwable" "SUPPRESSED_SENTINEL" "Ljava/util/List;", .fieldLink "java/lang/Throwable" 24 "java/lang/Throwable" "suppressedExceptions" "Ljava/util/List;", .fieldLink "java/lang/Throwable" 31 "java/lang/Throwable" "detailMessage" "Ljava/lang/String;", .fieldLink "java/lang/Throwable" 7 "java/lang/Throwable" "cause" "Ljava/lang/Throwable;", .initialized "java/lang/Exception", .initialized "java/lang/IllegalArgumentException", .initialized "java/lang/IllegalStateException", .initialized "java/lang/IndexOutOfBoundsException", .initialized "java/lang/RuntimeException", .initialized "java/lang/Throwable", .initialized "java/util/NoSuchElementException", .instanceMethod ⟨"java/lang/Exception", "<init>", "(Ljava/lang/String;)V"⟩, .instanceMethod ⟨"java/lang/IllegalArgumentException", "<init>", "(Ljava/lang/String;)V"⟩, .instanceMethod ⟨"java/lang/IllegalStateException", "<init>", "(Ljava/lang/String;)V"⟩, .instanceMethod ⟨"java/lang/IndexOutOfBoundsException", "<init>", "(Ljava/lang/String;)V"⟩, .instanceMethod ⟨"java/lang/Object", "<init>", "()V"⟩, .instanceMethod ⟨"java/lang/RuntimeException", "<init>", "(Ljava/lang/String;)V"⟩, .instanceMethod ⟨"java/lang/Throwable", "<init>", "()V"⟩, .instanceMethod ⟨"java/lang/Throwable", "<init>", "(Ljava/lang/String;)V"⟩]
def thrW_1 : List Cond := [.instanceMethod ⟨"java/lang/Throwable", "fillInStackTrace", "()Ljava/lang/Throwable;"⟩, .instanceMethod ⟨"java/lang/Throwable", "fillInStackTrace", "(I)Ljava/lang/Throwable;"⟩, .instanceMethod ⟨"java/util/NoSuchElementException", "<init>", "(Ljava/lang/String;)V"⟩, .instantiable "java/lang/IllegalArgumentException" 6, .instantiable "java/lang/IllegalStateException" 6, .instantiable "java/lang/IndexOutOfBoundsException" 6, .instantiable "java/lang/Throwable" 6, .instantiable "java/util/NoSuchElementException" 6, .lays "java/lang/IllegalArgumentException" "java/lang/Throwable" "backtrace" "Ljava/lang/Object;", .lays "java/lang/IllegalArgumentException" "java/lang/Throwable" "cause" "Ljava/lang/Throwable;", .lays "java/lang/IllegalArgumentException" "java/lang/Throwable" "depth" "I", .lays "java/lang/IllegalArgumentException" "java/lang/Throwable" "detailMessage" "Ljava/lang/String;", .lays "java/lang/IllegalArgumentException" "java/lang/Throwable" "stackTrace" "[Ljava/lang/StackTraceElement;", .lays "java/lang/IllegalArgumentException" "java/lang/Throwable" "suppressedExceptions" "Ljava/util/List;", .lays "java/lang/IllegalStateException" "java/lang/Throwable" "backtrace" "Ljava/lang/Object;", .lays "java/lang/IllegalStateException" "java/lang/Throwable" "cause" "Ljava/lang/Throwable;", .lays "java/lang/IllegalStateException" "java/lang/Throwable" "depth" "I", .lays "java/lang/IllegalStateException" "java/lang/Throwable" "detailMessage" "Ljava/lang/String;", .lays "java/lang/IllegalStateException" "java/lang/Throwable" "stackTrace" "[Ljava/lang/StackTraceElement;", .lays "java/lang/IllegalStateException" "java/lang/Throwable" "suppressedExceptions" "Ljava/util/List;", .lays "java/lang/IndexOutOfBoundsException" "java/lang/Throwable" "backtrace" "Ljava/lang/Object;", .lays "java/lang/IndexOutOfBoundsException" "java/lang/Throwable" "cause" "Ljava/lang/Throwable;", .lays "java/lang/IndexOutOfBoundsException" "java/lang/Throwable" "depth" "I", .lays "java/lang/IndexOutOfBoundsException" "java/lang/Throwable" "detailMessage" "Ljava/lang/String;", .lays "java/lang/IndexOutOfBoundsException" "java/lang/Throwable" "stackTrace" "[Ljava/lang/StackTraceElement;", .lays "java/lang/IndexOutOfBoundsException" "java/lang/Throwable" "suppressedExceptions" "Ljava/util/List;", .lays "java/lang/Throwable" "java/lang/Throwable" "backtrace" "Ljava/lang/Object;", .lays "java/lang/Throwable" "java/lang/Throwable" "cause" "Ljava/lang/Throwable;", .lays "java/lang/Throwable" "java/lang/Throwable" "detailMessage" "Ljava/lang/String;", .lays "java/lang/Throwable" "java/lang/Throwable" "stackTrace" "[Ljava/lang/StackTraceElement;", .lays "java/lang/Throwable" "java/lang/Throwable" "suppressedExceptions" "Ljava/util/List;", .lays "java/util/NoSuchElementException" "java/lang/Throwable" "backtrace" "Ljava/lang/Object;", .lays "java/util/NoSuchElementException" "java/lang/Throwable" "cause" "Ljava/lang/Throwable;", .lays "java/util/NoSuchElementException" "java/lang/Throwable" "depth" "I", .lays "java/util/NoSuchElementException" "java/lang/Throwable" "detailMessage" "Ljava/lang/String;", .lays "java/util/NoSuchElementException" "java/lang/Throwable" "stackTrace" "[Ljava/lang/StackTraceElement;", .lays "java/util/NoSuchElementException" "java/lang/Throwable" "suppressedExceptions" "Ljava/util/List;", .methodLink "GrammarAmbiguity" 117 ⟨"java/lang/IllegalStateException", "<init>", "(Ljava/lang/String;)V"⟩, .methodLink "GrammarAmbiguity" 137 ⟨"java/lang/IndexOutOfBoundsException", "<init>", "(Ljava/lang/String;)V"⟩, .methodLink "GrammarAmbiguity" 202 ⟨"java/util/NoSuchElementException", "<init>", "(Ljava/lang/String;)V"⟩]
def thrW_2 : List Cond := [.methodLink "GrammarAmbiguity" 78 ⟨"java/lang/IllegalArgumentException", "<init>", "(Ljava/lang/String;)V"⟩, .methodLink "java/lang/Exception" 7 ⟨"java/lang/Throwable", "<init>", "(Ljava/lang/String;)V"⟩, .methodLink "java/lang/IllegalArgumentException" 7 ⟨"java/lang/RuntimeException", "<init>", "(Ljava/lang/String;)V"⟩, .methodLink "java/lang/IllegalStateException" 7 ⟨"java/lang/RuntimeException", "<init>", "(Ljava/lang/String;)V"⟩, .methodLink "java/lang/IndexOutOfBoundsException" 7 ⟨"java/lang/RuntimeException", "<init>", "(Ljava/lang/String;)V"⟩, .methodLink "java/lang/RuntimeException" 7 ⟨"java/lang/Exception", "<init>", "(Ljava/lang/String;)V"⟩, .methodLink "java/lang/Throwable" 1 ⟨"java/lang/Object", "<init>", "()V"⟩, .methodLink "java/lang/Throwable" 202 ⟨"java/lang/Throwable", "fillInStackTrace", "(I)Ljava/lang/Throwable;"⟩, .methodLink "java/lang/Throwable" 27 ⟨"java/lang/Throwable", "fillInStackTrace", "()Ljava/lang/Throwable;"⟩, .methodLink "java/util/NoSuchElementException" 13 ⟨"java/lang/RuntimeException", "<init>", "(Ljava/lang/String;)V"⟩, .native ⟨"java/lang/Throwable", "fillInStackTrace", "(I)Ljava/lang/Throwable;"⟩, .selects "java/lang/IllegalArgumentException" ⟨"java/lang/Throwable", "fillInStackTrace", "()Ljava/lang/Throwable;"⟩ ⟨"java/lang/Throwable", "fillInStackTrace", "()Ljava/lang/Throwable;"⟩, .selects "java/lang/IllegalArgumentException" ⟨"java/lang/Throwable", "fillInStackTrace", "(I)Ljava/lang/Throwable;"⟩ ⟨"java/lang/Throwable", "fillInStackTrace", "(I)Ljava/lang/Throwable;"⟩, .selects "java/lang/IllegalStateException" ⟨"java/lang/Throwable", "fillInStackTrace", "()Ljava/lang/Throwable;"⟩ ⟨"java/lang/Throwable", "fillInStackTrace", "()Ljava/lang/Throwable;"⟩, .selects "java/lang/IllegalStateException" ⟨"java/lang/Throwable", "fillInStackTrace", "(I)Ljava/lang/Throwable;"⟩ ⟨"java/lang/Throwable", "fillInStackTrace", "(I)Ljava/lang/Throwable;"⟩, .selects "java/lang/IndexOutOfBoundsException" ⟨"java/lang/Throwable", "fillInStackTrace", "()Ljava/lang/Throwable;"⟩ ⟨"java/lang/Throwable", "fillInStackTrace", "()Ljava/lang/Throwable;"⟩, .selects "java/lang/IndexOutOfBoundsException" ⟨"java/lang/Throwable", "fillInStackTrace", "(I)Ljava/lang/Throwable;"⟩ ⟨"java/lang/Throwable", "fillInStackTrace", "(I)Ljava/lang/Throwable;"⟩, .selects "java/util/NoSuchElementException" ⟨"java/lang/Throwable", "fillInStackTrace", "()Ljava/lang/Throwable;"⟩ ⟨"java/lang/Throwable", "fillInStackTrace", "()Ljava/lang/Throwable;"⟩, .selects "java/util/NoSuchElementException" ⟨"java/lang/Throwable", "fillInStackTrace", "(I)Ljava/lang/Throwable;"⟩ ⟨"java/lang/Throwable", "fillInStackTrace", "(I)Ljava/lang/Throwable;"⟩, .superclass "java/lang/IllegalArgumentException" "java/lang/RuntimeException", .superclass "java/lang/IllegalStateException" "java/lang/RuntimeException", .superclass "java/lang/IndexOutOfBoundsException" "java/lang/RuntimeException", .superclass "java/lang/Throwable" "java/lang/Object", .superclass "java/util/NoSuchElementException" "java/lang/RuntimeException"]
def thrW : List Cond := thrW_0 ++ (thrW_1 ++ (thrW_2))
theorem thrW_good : thrW.all goodWord = true := by decide +kernel
theorem thrW_on : thrW.all Cond.onTables = true := by decide +kernel
theorem thrW_tab : ∀ w ∈ thrW, w ∈ lw_tbl := by decide +kernel
def strX : List (Nat × String) := [(76, "the number of nonterminals is out of range"), (81, "the number of terminals is out of range"), (102, "this is no production of the grammar"), (108, "an equal production exists"), (115, "there is no room for a production"), (135, "the position is not from 0 to 3"), (161, "there is no such terminal"), (163, "the word has 8 terminals"), (168, "there is no such position"), (187, "trees is not from 0 to 3"), (200, "the language has no word of this length"), (210, "no word of at most this length is ambiguous"), (212, "the current word has no terminal or more than 6"), (223, "the current word is not in the language"), (228, "the rank is negative"), (230, "the language has no word with this rank"), (236, "the grammar has no tree of this length"), (257, "the current word has no tree with this number"), (262, "there is no such node"), (272, "what is not from 0 to 2"), (277, "the length is out of range"), (294, "the count is out of range"), (296, "an element is not the number of a terminal"), (303, "there is no snapshot"), (323, "there is no such production"), (325, "there is no such nonterminal"), (327, "there is no current tree"), (329, "the slot is out of range"), (334, "the slot is empty"), (338, "the array does not have these indexes")]
def xPow (j : Nat) : Int32 := ([1, 1, 1, 1, 1, 1, 1, 1, 2, 4, 8, 16, 32, 64, 1, 3, 9, 27, 81, 243, 729] : List Int32).getD j 0
def xPla (j : Nat) : Int32 := ([0, 1, 4, 13, 40, 121, 364] : List Int32).getD j 0
abbrev tX (X : xG) : List (ClassId × FieldType) := [(xc X 0, .int), (xc X 1, .long), (xc X 2, .boolean), (xc X 3, .double)]
def eX (X : xG) (A : Nat → Prop) (U : State) (H : Heap) : Prop := va_K X.1 vwCl (tX X) U ∧ (∀ w ∈ nestW, va_Nw w U) ∧
  (va_Z "GrammarAmbiguity" "POWERS" "[I" (.ref (xa X 34)) A U H ∧ va_T .int (xa X 34) 21 (fun j => .int (xPow j)) A U H) ∧
  (va_Z "GrammarAmbiguity" "WORD_PLACES" "[I" (.ref (xa X 35)) A U H ∧ va_T .int (xa X 35) 7 (fun j => .int (xPla j)) A U H) ∧
  vx_Zq Bundle.tN "UNASSIGNED_STACK" Bundle.steD A U H ∧ vx_Zq Bundle.tN "SUPPRESSED_SENTINEL" Bundle.listD A U H ∧ (∀ q ∈ strX, ∃ sa : Nat, vk_R RX8 q.1 q.2 sa U) ∧ (∀ w ∈ thrW, va_Nw w U)
theorem okX (X : xG) : xOK (eX X) := by
  refine ⟨fun A s U H hW h => ?_, fun A U H g mk a h => ?_, fun A A' s H0 H locs hS hA h => ?_⟩
  · obtain ⟨h1, h2, ⟨h3, h4⟩, ⟨h5, h6⟩, h7, h8, h9, h10⟩ := h
    exact ⟨va_K.moved hW.alike h1, nestW_warm hW h2, ⟨va_Z.moved hW.alike h3, va_T.moved hW.alike h4⟩, ⟨va_Z.moved hW.alike h5, va_T.moved hW.alike h6⟩, vx_Zq.moved hW.alike h7, vx_Zq.moved hW.alike h8, fun q hq => (h9 q hq).imp (fun _ h => vk_R.warm hW h), fun w hw => word_at hW (good_of_word (List.all_eq_true.mp thrW_good w hw)) (h10 w hw)⟩
  · obtain ⟨h1, h2, ⟨h3, h4⟩, ⟨h5, h6⟩, h7, h8, h9, h10⟩ := h
    have ha : U.vm.Alike (U.calling g mk a).vm := Vm.Alike.refl U.vm
    exact ⟨va_K.moved ha h1, fun w hw => va_Nw.same (u := U) (U := U.calling g mk a) (nestW_on w hw) rfl (h2 w hw), ⟨va_Z.moved ha h3, va_T.moved ha h4⟩, ⟨va_Z.moved ha h5, va_T.moved ha h6⟩, vx_Zq.moved ha h7, vx_Zq.moved ha h8, fun q hq => (h9 q hq).imp (fun _ h => vk_R.same (u := U) (U := U.calling g mk a) rfl h), fun w hw => va_Nw.same (u := U) (U := U.calling g mk a) (List.all_eq_true.mp thrW_on w hw) rfl (h10 w hw)⟩
  · obtain ⟨h1, h2, ⟨h3, h4⟩, ⟨h5, h6⟩, h7, h8, h9, h10⟩ := h
    have hk : ∀ a : Nat, a < H0.size → ¬ A a → H[a]? = H0[a]? := fun a h1 h2 => hS.2.1 a h1 h2
    exact ⟨h1, h2, ⟨(h3.kept hk).narrow hA, (h4.kept hk).narrow hA⟩, ⟨(h5.kept hk).narrow hA, (h6.kept hk).narrow hA⟩, (h7.kept hk).narrow hA, (h8.kept hk).narrow hA, h9, h10⟩
