/-! THE MODEL: its cells, what a write makes of them (printed by wip/whole/gen/worldm.py) -/
def cM0 (X : xG) (S : gS) (k : Nat) : va_E := match k with
  | 0 => .inr (8, [.int (gI S 0), .int (gI S 1), .int (gI S 2), .int (gI S 3), .int (gI S 4), .ref (xa X 1), .ref (xa X 2), .int (gI S 5), .ref (xa X 3), .ref (xa X 4), .ref (xa X 5), .ref (xa X 6), .ref (xa X 7), .int (gI S 6), .ref (xa X 8), .ref (xa X 9), .ref (xa X 10), .int (gI S 7), .int (gI S 8), .ref (xa X 11), .ref (xa X 12), .ref (xa X 13), .int (gI S 9), .int (gI S 10), .int (gI S 11), .int (gI S 12), .int (gI S 13), .int (gI S 14), .ref (xa X 14), .ref (xa X 15)])
  | 1 => .inl (xc X 3, 24, .inr (.inr (.inr (.inr (fun j => if j < 24 then some (xa X (16 + j)) else none)))))
  | 2 => .inl (xc X 0, 8, .inl (gA S 2))
  | 3 => .inl (xc X 0, 6, .inl (gA S 3))
  | 4 => .inl (xc X 2, 6, .inl (gA S 4))
  | 5 => .inl (xc X 4, 6, .inr (.inr (.inr (.inr (fun j => if j < 6 then some (xa X (67 + j)) else none)))))
  | 6 => .inl (xc X 0, 8, .inl (gA S 6))
  | 7 => .inl (xc X 5, 6, .inr (.inr (.inr (.inr (fun j => if j < 6 then some (xa X (73 + j)) else none)))))
  | 8 => .inl (xc X 0, 16, .inl (gA S 8))
  | 9 => .inl (xc X 0, 16, .inl (gA S 9))
  | 10 => .inl (xc X 0, 16, .inl (gA S 10))
  | 11 => .inl (xc X 0, 3, .inl (gA S 11))
  | 12 => .inl (xc X 2, 3, .inl (gA S 12))
  | 13 => .inl (xc X 3, 3, .inr (.inr (.inr (.inr (fun j => if j < 3 then some (xa X (64 + j)) else none)))))
  | 14 => .inl (xc X 3, 24, .inr (.inr (.inr (.inr (fun j => if j < 24 then some (xa X (40 + j)) else none)))))
  | 15 => .inl (xc X 0, 8, .inl (gA S 15))
  | _ => .inr (0, [])
def cM (X : xG) (S : gS) (k : Nat) : va_E :=
  if k < 16 then cM0 X S k
  else if k < 64 then .inl (xc X 0, 4, .inl (gA S k))
  else if k < 67 then .inl (xc X 0, 40, .inl (gA S k))
  else if k < 73 then .inl (xc X 1, 11, .inr (.inl (gB S k)))
  else if k < 79 then .inl (xc X 4, 9, .inr (.inr (.inr (.inr (fun j => if j < 9 then some (xa X (79 + (k - 73) * 9 + j)) else none)))))
  else if k < 133 then .inl (xc X 1, 9, .inr (.inl (gB S k)))
  else .inr (0, [])
theorem cM_sy {X : xG} {S : gS} {i : Nat} (h : i < 24) : cM X S (16 + i) = .inl (xc X 0, 4, .inl (gA S (16 + i))) := by
  unfold cM; rw [if_neg (by omega), if_pos (by omega)]
theorem cM_ss {X : xG} {S : gS} {i : Nat} (h : i < 24) : cM X S (40 + i) = .inl (xc X 0, 4, .inl (gA S (40 + i))) := by
  unfold cM; rw [if_neg (by omega), if_pos (by omega)]
theorem cM_el {X : xG} {S : gS} {i : Nat} (h : i < 3) : cM X S (64 + i) = .inl (xc X 0, 40, .inl (gA S (64 + i))) := by
  unfold cM; rw [if_neg (by omega), if_neg (by omega), if_pos (by omega)]
theorem cM_bl {X : xG} {S : gS} {i : Nat} (h : i < 6) : cM X S (67 + i) = .inl (xc X 1, 11, .inr (.inl (gB S (67 + i)))) := by
  unfold cM; rw [if_neg (by omega), if_neg (by omega), if_neg (by omega), if_pos (by omega)]
theorem cM_mi {X : xG} {S : gS} {i : Nat} (h : i < 6) : cM X S (73 + i) = .inl (xc X 4, 9, .inr (.inr (.inr (.inr (fun j => if j < 9 then some (xa X (79 + i * 9 + j)) else none))))) := by
  unfold cM; rw [if_neg (by omega), if_neg (by omega), if_neg (by omega), if_neg (by omega), if_pos (by omega), Nat.add_sub_cancel_left]
theorem cM_pa {X : xG} {S : gS} {i j : Nat} (h : i < 6) (h2 : j < 9) : cM X S (79 + i * 9 + j) = .inl (xc X 1, 9, .inr (.inl (gB S (79 + i * 9 + j)))) := by
  unfold cM; rw [if_neg (by omega), if_neg (by omega), if_neg (by omega), if_neg (by omega), if_neg (by omega), if_pos (by omega)]
theorem gA_ne {S : gS} {a b i : Nat} {v : Int32} (h : b ≠ a) : gA (uA S a i v) b = gA S b := by
  unfold gA uA; show va_up _ _ _ _ = _; rw [va_up, if_neg h]
theorem gA_eq {S : gS} {a i : Nat} {v : Int32} : gA (uA S a i v) a = upd (gA S a) i v := by
  unfold gA uA; show va_up _ _ _ _ = _; rw [va_up, if_pos rfl]
theorem gB_ne {S : gS} {a b i : Nat} {v : Int64} (h : b ≠ a) : gB (uB S a i v) b = gB S b := by
  unfold gB uB; show va_up _ _ _ _ = _; rw [va_up, if_neg h]
theorem gB_eq {S : gS} {a i : Nat} {v : Int64} : gB (uB S a i v) a = vp_updL (gB S a) i v := by
  unfold gB uB; show va_up _ _ _ _ = _; rw [va_up, if_pos rfl]
theorem cM0_uA {X : xG} {S : gS} {a i : Nat} {v : Int32} (h : 16 ≤ a) (j : Nat) (hj : j < 16) : cM0 X (uA S a i v) j = cM0 X S j := by
  unfold cM0
  split <;> first | rfl | (rw [gA_ne (by omega)])
theorem cM0_uB {X : xG} {S : gS} {a i : Nat} {v : Int64} (j : Nat) : cM0 X (uB S a i v) j = cM0 X S j := by
  unfold cM0
  split <;> rfl
theorem cM_uA {X : xG} {S : gS} {a i : Nat} {v : Int32} (h : 16 ≤ a) (j : Nat) (hj : j ≠ a) : cM X (uA S a i v) j = cM X S j := by
  unfold cM
  by_cases h1 : j < 16
  · rw [if_pos h1, if_pos h1, cM0_uA h j h1]
  · rw [if_neg h1, if_neg h1, gA_ne hj]; rfl
theorem cM_uB {X : xG} {S : gS} {a i : Nat} {v : Int64} (j : Nat) (hj : j ≠ a) : cM X (uB S a i v) j = cM X S j := by
  unfold cM
  by_cases h1 : j < 16
  · rw [if_pos h1, if_pos h1, cM0_uB j]
  · rw [if_neg h1, if_neg h1, gB_ne hj]; rfl
theorem uM_rI {X : xG} {S : gS} {k n : Nat} (h : 16 ≤ k) (he : ∀ S' : gS, cM X S' k = .inl (xc X 0, n, .inl (gA S' k))) (i : Nat) (v : Int32) : va_up (cM X S) k (.inl (xc X 0, n, .inl (upd (gA S k) i v))) = cM X (uA S k i v) := by
  funext j
  by_cases hj : j = k
  · subst hj; rw [va_up, if_pos rfl, he, gA_eq]
  · rw [va_up, if_neg hj, cM_uA h j hj]
theorem uM_rJ {X : xG} {S : gS} {k n : Nat} (he : ∀ S' : gS, cM X S' k = .inl (xc X 1, n, .inr (.inl (gB S' k)))) (i : Nat) (v : Int64) : va_up (cM X S) k (.inl (xc X 1, n, .inr (.inl (vp_updL (gB S k) i v)))) = cM X (uB S k i v) := by
  funext j
  by_cases hj : j = k
  · subst hj; rw [va_up, if_pos rfl, he, gB_eq]
  · rw [va_up, if_neg hj, cM_uB j hj]
theorem uM_I0 (X : xG) (S : gS) (v : Int32) : va_up (cM X S) 0 (.inr (8, [.int v, .int (gI S 1), .int (gI S 2), .int (gI S 3), .int (gI S 4), .ref (xa X 1), .ref (xa X 2), .int (gI S 5), .ref (xa X 3), .ref (xa X 4), .ref (xa X 5), .ref (xa X 6), .ref (xa X 7), .int (gI S 6), .ref (xa X 8), .ref (xa X 9), .ref (xa X 10), .int (gI S 7), .int (gI S 8), .ref (xa X 11), .ref (xa X 12), .ref (xa X 13), .int (gI S 9), .int (gI S 10), .int (gI S 11), .int (gI S 12), .int (gI S 13), .int (gI S 14), .ref (xa X 14), .ref (xa X 15)])) = cM X (uI S 0 v) := by
  funext j
  by_cases h : j = 0
  · subst h; rfl
  · rw [va_up, if_neg h]
    by_cases h1 : j < 16
    · unfold cM; rw [if_pos h1, if_pos h1]
      match j, h with
      | 0, h => exact absurd rfl h
      | 1, h => rfl
      | 2, h => rfl
      | 3, h => rfl
      | 4, h => rfl
      | 5, h => rfl
      | 6, h => rfl
      | 7, h => rfl
      | 8, h => rfl
      | 9, h => rfl
      | 10, h => rfl
      | 11, h => rfl
      | 12, h => rfl
      | 13, h => rfl
      | 14, h => rfl
      | 15, h => rfl
      | j + 16, h => rfl
    · unfold cM; rw [if_neg h1, if_neg h1]; rfl
theorem uM_I1 (X : xG) (S : gS) (v : Int32) : va_up (cM X S) 0 (.inr (8, [.int (gI S 0), .int v, .int (gI S 2), .int (gI S 3), .int (gI S 4), .ref (xa X 1), .ref (xa X 2), .int (gI S 5), .ref (xa X 3), .ref (xa X 4), .ref (xa X 5), .ref (xa X 6), .ref (xa X 7), .int (gI S 6), .ref (xa X 8), .ref (xa X 9), .ref (xa X 10), .int (gI S 7), .int (gI S 8), .ref (xa X 11), .ref (xa X 12), .ref (xa X 13), .int (gI S 9), .int (gI S 10), .int (gI S 11), .int (gI S 12), .int (gI S 13), .int (gI S 14), .ref (xa X 14), .ref (xa X 15)])) = cM X (uI S 1 v) := by
  funext j
  by_cases h : j = 0
  · subst h; rfl
  · rw [va_up, if_neg h]
    by_cases h1 : j < 16
    · unfold cM; rw [if_pos h1, if_pos h1]
      match j, h with
      | 0, h => exact absurd rfl h
      | 1, h => rfl
      | 2, h => rfl
      | 3, h => rfl
      | 4, h => rfl
      | 5, h => rfl
      | 6, h => rfl
      | 7, h => rfl
      | 8, h => rfl
      | 9, h => rfl
      | 10, h => rfl
      | 11, h => rfl
      | 12, h => rfl
      | 13, h => rfl
      | 14, h => rfl
      | 15, h => rfl
      | j + 16, h => rfl
    · unfold cM; rw [if_neg h1, if_neg h1]; rfl
theorem uM_I2 (X : xG) (S : gS) (v : Int32) : va_up (cM X S) 0 (.inr (8, [.int (gI S 0), .int (gI S 1), .int v, .int (gI S 3), .int (gI S 4), .ref (xa X 1), .ref (xa X 2), .int (gI S 5), .ref (xa X 3), .ref (xa X 4), .ref (xa X 5), .ref (xa X 6), .ref (xa X 7), .int (gI S 6), .ref (xa X 8), .ref (xa X 9), .ref (xa X 10), .int (gI S 7), .int (gI S 8), .ref (xa X 11), .ref (xa X 12), .ref (xa X 13), .int (gI S 9), .int (gI S 10), .int (gI S 11), .int (gI S 12), .int (gI S 13), .int (gI S 14), .ref (xa X 14), .ref (xa X 15)])) = cM X (uI S 2 v) := by
  funext j
  by_cases h : j = 0
  · subst h; rfl
  · rw [va_up, if_neg h]
    by_cases h1 : j < 16
    · unfold cM; rw [if_pos h1, if_pos h1]
      match j, h with
      | 0, h => exact absurd rfl h
      | 1, h => rfl
      | 2, h => rfl
      | 3, h => rfl
      | 4, h => rfl
      | 5, h => rfl
      | 6, h => rfl
      | 7, h => rfl
      | 8, h => rfl
      | 9, h => rfl
      | 10, h => rfl
      | 11, h => rfl
      | 12, h => rfl
      | 13, h => rfl
      | 14, h => rfl
      | 15, h => rfl
      | j + 16, h => rfl
    · unfold cM; rw [if_neg h1, if_neg h1]; rfl
theorem uM_I3 (X : xG) (S : gS) (v : Int32) : va_up (cM X S) 0 (.inr (8, [.int (gI S 0), .int (gI S 1), .int (gI S 2), .int v, .int (gI S 4), .ref (xa X 1), .ref (xa X 2), .int (gI S 5), .ref (xa X 3), .ref (xa X 4), .ref (xa X 5), .ref (xa X 6), .ref (xa X 7), .int (gI S 6), .ref (xa X 8), .ref (xa X 9), .ref (xa X 10), .int (gI S 7), .int (gI S 8), .ref (xa X 11), .ref (xa X 12), .ref (xa X 13), .int (gI S 9), .int (gI S 10), .int (gI S 11), .int (gI S 12), .int (gI S 13), .int (gI S 14), .ref (xa X 14), .ref (xa X 15)])) = cM X (uI S 3 v) := by
  funext j
  by_cases h : j = 0
  · subst h; rfl
  · rw [va_up, if_neg h]
    by_cases h1 : j < 16
    · unfold cM; rw [if_pos h1, if_pos h1]
      match j, h with
      | 0, h => exact absurd rfl h
      | 1, h => rfl
      | 2, h => rfl
      | 3, h => rfl
      | 4, h => rfl
      | 5, h => rfl
      | 6, h => rfl
      | 7, h => rfl
      | 8, h => rfl
      | 9, h => rfl
      | 10, h => rfl
      | 11, h => rfl
      | 12, h => rfl
      | 13, h => rfl
      | 14, h => rfl
      | 15, h => rfl
      | j + 16, h => rfl
    · unfold cM; rw [if_neg h1, if_neg h1]; rfl
theorem uM_I4 (X : xG) (S : gS) (v : Int32) : va_up (cM X S) 0 (.inr (8, [.int (gI S 0), .int (gI S 1), .int (gI S 2), .int (gI S 3), .int v, .ref (xa X 1), .ref (xa X 2), .int (gI S 5), .ref (xa X 3), .ref (xa X 4), .ref (xa X 5), .ref (xa X 6), .ref (xa X 7), .int (gI S 6), .ref (xa X 8), .ref (xa X 9), .ref (xa X 10), .int (gI S 7), .int (gI S 8), .ref (xa X 11), .ref (xa X 12), .ref (xa X 13), .int (gI S 9), .int (gI S 10), .int (gI S 11), .int (gI S 12), .int (gI S 13), .int (gI S 14), .ref (xa X 14), .ref (xa X 15)])) = cM X (uI S 4 v) := by
  funext j
  by_cases h : j = 0
  · subst h; rfl
  · rw [va_up, if_neg h]
    by_cases h1 : j < 16
    · unfold cM; rw [if_pos h1, if_pos h1]
      match j, h with
      | 0, h => exact absurd rfl h
      | 1, h => rfl
      | 2, h => rfl
      | 3, h => rfl
      | 4, h => rfl
      | 5, h => rfl
      | 6, h => rfl
      | 7, h => rfl
      | 8, h => rfl
      | 9, h => rfl
      | 10, h => rfl
      | 11, h => rfl
      | 12, h => rfl
      | 13, h => rfl
      | 14, h => rfl
      | 15, h => rfl
      | j + 16, h => rfl
    · unfold cM; rw [if_neg h1, if_neg h1]; rfl
theorem uM_I5 (X : xG) (S : gS) (v : Int32) : va_up (cM X S) 0 (.inr (8, [.int (gI S 0), .int (gI S 1), .int (gI S 2), .int (gI S 3), .int (gI S 4), .ref (xa X 1), .ref (xa X 2), .int v, .ref (xa X 3), .ref (xa X 4), .ref (xa X 5), .ref (xa X 6), .ref (xa X 7), .int (gI S 6), .ref (xa X 8), .ref (xa X 9), .ref (xa X 10), .int (gI S 7), .int (gI S 8), .ref (xa X 11), .ref (xa X 12), .ref (xa X 13), .int (gI S 9), .int (gI S 10), .int (gI S 11), .int (gI S 12), .int (gI S 13), .int (gI S 14), .ref (xa X 14), .ref (xa X 15)])) = cM X (uI S 5 v) := by
  funext j
  by_cases h : j = 0
  · subst h; rfl
  · rw [va_up, if_neg h]
    by_cases h1 : j < 16
    · unfold cM; rw [if_pos h1, if_pos h1]
      match j, h with
      | 0, h => exact absurd rfl h
      | 1, h => rfl
      | 2, h => rfl
      | 3, h => rfl
      | 4, h => rfl
      | 5, h => rfl
      | 6, h => rfl
      | 7, h => rfl
      | 8, h => rfl
      | 9, h => rfl
      | 10, h => rfl
      | 11, h => rfl
      | 12, h => rfl
      | 13, h => rfl
      | 14, h => rfl
      | 15, h => rfl
      | j + 16, h => rfl
    · unfold cM; rw [if_neg h1, if_neg h1]; rfl
theorem uM_I6 (X : xG) (S : gS) (v : Int32) : va_up (cM X S) 0 (.inr (8, [.int (gI S 0), .int (gI S 1), .int (gI S 2), .int (gI S 3), .int (gI S 4), .ref (xa X 1), .ref (xa X 2), .int (gI S 5), .ref (xa X 3), .ref (xa X 4), .ref (xa X 5), .ref (xa X 6), .ref (xa X 7), .int v, .ref (xa X 8), .ref (xa X 9), .ref (xa X 10), .int (gI S 7), .int (gI S 8), .ref (xa X 11), .ref (xa X 12), .ref (xa X 13), .int (gI S 9), .int (gI S 10), .int (gI S 11), .int (gI S 12), .int (gI S 13), .int (gI S 14), .ref (xa X 14), .ref (xa X 15)])) = cM X (uI S 6 v) := by
  funext j
  by_cases h : j = 0
  · subst h; rfl
  · rw [va_up, if_neg h]
    by_cases h1 : j < 16
    · unfold cM; rw [if_pos h1, if_pos h1]
      match j, h with
      | 0, h => exact absurd rfl h
      | 1, h => rfl
      | 2, h => rfl
      | 3, h => rfl
      | 4, h => rfl
      | 5, h => rfl
      | 6, h => rfl
      | 7, h => rfl
      | 8, h => rfl
      | 9, h => rfl
      | 10, h => rfl
      | 11, h => rfl
      | 12, h => rfl
      | 13, h => rfl
      | 14, h => rfl
      | 15, h => rfl
      | j + 16, h => rfl
    · unfold cM; rw [if_neg h1, if_neg h1]; rfl
theorem uM_I7 (X : xG) (S : gS) (v : Int32) : va_up (cM X S) 0 (.inr (8, [.int (gI S 0), .int (gI S 1), .int (gI S 2), .int (gI S 3), .int (gI S 4), .ref (xa X 1), .ref (xa X 2), .int (gI S 5), .ref (xa X 3), .ref (xa X 4), .ref (xa X 5), .ref (xa X 6), .ref (xa X 7), .int (gI S 6), .ref (xa X 8), .ref (xa X 9), .ref (xa X 10), .int v, .int (gI S 8), .ref (xa X 11), .ref (xa X 12), .ref (xa X 13), .int (gI S 9), .int (gI S 10), .int (gI S 11), .int (gI S 12), .int (gI S 13), .int (gI S 14), .ref (xa X 14), .ref (xa X 15)])) = cM X (uI S 7 v) := by
  funext j
  by_cases h : j = 0
  · subst h; rfl
  · rw [va_up, if_neg h]
    by_cases h1 : j < 16
    · unfold cM; rw [if_pos h1, if_pos h1]
      match j, h with
      | 0, h => exact absurd rfl h
      | 1, h => rfl
      | 2, h => rfl
      | 3, h => rfl
      | 4, h => rfl
      | 5, h => rfl
      | 6, h => rfl
      | 7, h => rfl
      | 8, h => rfl
      | 9, h => rfl
      | 10, h => rfl
      | 11, h => rfl
      | 12, h => rfl
      | 13, h => rfl
      | 14, h => rfl
      | 15, h => rfl
      | j + 16, h => rfl
    · unfold cM; rw [if_neg h1, if_neg h1]; rfl
theorem uM_I8 (X : xG) (S : gS) (v : Int32) : va_up (cM X S) 0 (.inr (8, [.int (gI S 0), .int (gI S 1), .int (gI S 2), .int (gI S 3), .int (gI S 4), .ref (xa X 1), .ref (xa X 2), .int (gI S 5), .ref (xa X 3), .ref (xa X 4), .ref (xa X 5), .ref (xa X 6), .ref (xa X 7), .int (gI S 6), .ref (xa X 8), .ref (xa X 9), .ref (xa X 10), .int (gI S 7), .int v, .ref (xa X 11), .ref (xa X 12), .ref (xa X 13), .int (gI S 9), .int (gI S 10), .int (gI S 11), .int (gI S 12), .int (gI S 13), .int (gI S 14), .ref (xa X 14), .ref (xa X 15)])) = cM X (uI S 8 v) := by
  funext j
  by_cases h : j = 0
  · subst h; rfl
  · rw [va_up, if_neg h]
    by_cases h1 : j < 16
    · unfold cM; rw [if_pos h1, if_pos h1]
      match j, h with
      | 0, h => exact absurd rfl h
      | 1, h => rfl
      | 2, h => rfl
      | 3, h => rfl
      | 4, h => rfl
      | 5, h => rfl
      | 6, h => rfl
      | 7, h => rfl
      | 8, h => rfl
      | 9, h => rfl
      | 10, h => rfl
      | 11, h => rfl
      | 12, h => rfl
      | 13, h => rfl
      | 14, h => rfl
      | 15, h => rfl
      | j + 16, h => rfl
    · unfold cM; rw [if_neg h1, if_neg h1]; rfl
theorem uM_I9 (X : xG) (S : gS) (v : Int32) : va_up (cM X S) 0 (.inr (8, [.int (gI S 0), .int (gI S 1), .int (gI S 2), .int (gI S 3), .int (gI S 4), .ref (xa X 1), .ref (xa X 2), .int (gI S 5), .ref (xa X 3), .ref (xa X 4), .ref (xa X 5), .ref (xa X 6), .ref (xa X 7), .int (gI S 6), .ref (xa X 8), .ref (xa X 9), .ref (xa X 10), .int (gI S 7), .int (gI S 8), .ref (xa X 11), .ref (xa X 12), .ref (xa X 13), .int v, .int (gI S 10), .int (gI S 11), .int (gI S 12), .int (gI S 13), .int (gI S 14), .ref (xa X 14), .ref (xa X 15)])) = cM X (uI S 9 v) := by
  funext j
  by_cases h : j = 0
  · subst h; rfl
  · rw [va_up, if_neg h]
    by_cases h1 : j < 16
    · unfold cM; rw [if_pos h1, if_pos h1]
      match j, h with
      | 0, h => exact absurd rfl h
      | 1, h => rfl
      | 2, h => rfl
      | 3, h => rfl
      | 4, h => rfl
      | 5, h => rfl
      | 6, h => rfl
      | 7, h => rfl
      | 8, h => rfl
      | 9, h => rfl
      | 10, h => rfl
      | 11, h => rfl
      | 12, h => rfl
      | 13, h => rfl
      | 14, h => rfl
      | 15, h => rfl
      | j + 16, h => rfl
    · unfold cM; rw [if_neg h1, if_neg h1]; rfl
theorem uM_I10 (X : xG) (S : gS) (v : Int32) : va_up (cM X S) 0 (.inr (8, [.int (gI S 0), .int (gI S 1), .int (gI S 2), .int (gI S 3), .int (gI S 4), .ref (xa X 1), .ref (xa X 2), .int (gI S 5), .ref (xa X 3), .ref (xa X 4), .ref (xa X 5), .ref (xa X 6), .ref (xa X 7), .int (gI S 6), .ref (xa X 8), .ref (xa X 9), .ref (xa X 10), .int (gI S 7), .int (gI S 8), .ref (xa X 11), .ref (xa X 12), .ref (xa X 13), .int (gI S 9), .int v, .int (gI S 11), .int (gI S 12), .int (gI S 13), .int (gI S 14), .ref (xa X 14), .ref (xa X 15)])) = cM X (uI S 10 v) := by
  funext j
  by_cases h : j = 0
  · subst h; rfl
  · rw [va_up, if_neg h]
    by_cases h1 : j < 16
    · unfold cM; rw [if_pos h1, if_pos h1]
      match j, h with
      | 0, h => exact absurd rfl h
      | 1, h => rfl
      | 2, h => rfl
      | 3, h => rfl
      | 4, h => rfl
      | 5, h => rfl
      | 6, h => rfl
      | 7, h => rfl
      | 8, h => rfl
      | 9, h => rfl
      | 10, h => rfl
      | 11, h => rfl
      | 12, h => rfl
      | 13, h => rfl
      | 14, h => rfl
      | 15, h => rfl
      | j + 16, h => rfl
    · unfold cM; rw [if_neg h1, if_neg h1]; rfl
theorem uM_I11 (X : xG) (S : gS) (v : Int32) : va_up (cM X S) 0 (.inr (8, [.int (gI S 0), .int (gI S 1), .int (gI S 2), .int (gI S 3), .int (gI S 4), .ref (xa X 1), .ref (xa X 2), .int (gI S 5), .ref (xa X 3), .ref (xa X 4), .ref (xa X 5), .ref (xa X 6), .ref (xa X 7), .int (gI S 6), .ref (xa X 8), .ref (xa X 9), .ref (xa X 10), .int (gI S 7), .int (gI S 8), .ref (xa X 11), .ref (xa X 12), .ref (xa X 13), .int (gI S 9), .int (gI S 10), .int v, .int (gI S 12), .int (gI S 13), .int (gI S 14), .ref (xa X 14), .ref (xa X 15)])) = cM X (uI S 11 v) := by
  funext j
  by_cases h : j = 0
  · subst h; rfl
  · rw [va_up, if_neg h]
    by_cases h1 : j < 16
    · unfold cM; rw [if_pos h1, if_pos h1]
      match j, h with
      | 0, h => exact absurd rfl h
      | 1, h => rfl
      | 2, h => rfl
      | 3, h => rfl
      | 4, h => rfl
      | 5, h => rfl
      | 6, h => rfl
      | 7, h => rfl
      | 8, h => rfl
      | 9, h => rfl
      | 10, h => rfl
      | 11, h => rfl
      | 12, h => rfl
      | 13, h => rfl
      | 14, h => rfl
      | 15, h => rfl
      | j + 16, h => rfl
    · unfold cM; rw [if_neg h1, if_neg h1]; rfl
theorem uM_I12 (X : xG) (S : gS) (v : Int32) : va_up (cM X S) 0 (.inr (8, [.int (gI S 0), .int (gI S 1), .int (gI S 2), .int (gI S 3), .int (gI S 4), .ref (xa X 1), .ref (xa X 2), .int (gI S 5), .ref (xa X 3), .ref (xa X 4), .ref (xa X 5), .ref (xa X 6), .ref (xa X 7), .int (gI S 6), .ref (xa X 8), .ref (xa X 9), .ref (xa X 10), .int (gI S 7), .int (gI S 8), .ref (xa X 11), .ref (xa X 12), .ref (xa X 13), .int (gI S 9), .int (gI S 10), .int (gI S 11), .int v, .int (gI S 13), .int (gI S 14), .ref (xa X 14), .ref (xa X 15)])) = cM X (uI S 12 v) := by
  funext j
  by_cases h : j = 0
  · subst h; rfl
  · rw [va_up, if_neg h]
    by_cases h1 : j < 16
    · unfold cM; rw [if_pos h1, if_pos h1]
      match j, h with
      | 0, h => exact absurd rfl h
      | 1, h => rfl
      | 2, h => rfl
      | 3, h => rfl
      | 4, h => rfl
      | 5, h => rfl
      | 6, h => rfl
      | 7, h => rfl
      | 8, h => rfl
      | 9, h => rfl
      | 10, h => rfl
      | 11, h => rfl
      | 12, h => rfl
      | 13, h => rfl
      | 14, h => rfl
      | 15, h => rfl
      | j + 16, h => rfl
    · unfold cM; rw [if_neg h1, if_neg h1]; rfl
theorem uM_I13 (X : xG) (S : gS) (v : Int32) : va_up (cM X S) 0 (.inr (8, [.int (gI S 0), .int (gI S 1), .int (gI S 2), .int (gI S 3), .int (gI S 4), .ref (xa X 1), .ref (xa X 2), .int (gI S 5), .ref (xa X 3), .ref (xa X 4), .ref (xa X 5), .ref (xa X 6), .ref (xa X 7), .int (gI S 6), .ref (xa X 8), .ref (xa X 9), .ref (xa X 10), .int (gI S 7), .int (gI S 8), .ref (xa X 11), .ref (xa X 12), .ref (xa X 13), .int (gI S 9), .int (gI S 10), .int (gI S 11), .int (gI S 12), .int v, .int (gI S 14), .ref (xa X 14), .ref (xa X 15)])) = cM X (uI S 13 v) := by
  funext j
  by_cases h : j = 0
  · subst h; rfl
  · rw [va_up, if_neg h]
    by_cases h1 : j < 16
    · unfold cM; rw [if_pos h1, if_pos h1]
      match j, h with
      | 0, h => exact absurd rfl h
      | 1, h => rfl
      | 2, h => rfl
      | 3, h => rfl
      | 4, h => rfl
      | 5, h => rfl
      | 6, h => rfl
      | 7, h => rfl
      | 8, h => rfl
      | 9, h => rfl
      | 10, h => rfl
      | 11, h => rfl
      | 12, h => rfl
      | 13, h => rfl
      | 14, h => rfl
      | 15, h => rfl
      | j + 16, h => rfl
    · unfold cM; rw [if_neg h1, if_neg h1]; rfl
theorem uM_I14 (X : xG) (S : gS) (v : Int32) : va_up (cM X S) 0 (.inr (8, [.int (gI S 0), .int (gI S 1), .int (gI S 2), .int (gI S 3), .int (gI S 4), .ref (xa X 1), .ref (xa X 2), .int (gI S 5), .ref (xa X 3), .ref (xa X 4), .ref (xa X 5), .ref (xa X 6), .ref (xa X 7), .int (gI S 6), .ref (xa X 8), .ref (xa X 9), .ref (xa X 10), .int (gI S 7), .int (gI S 8), .ref (xa X 11), .ref (xa X 12), .ref (xa X 13), .int (gI S 9), .int (gI S 10), .int (gI S 11), .int (gI S 12), .int (gI S 13), .int v, .ref (xa X 14), .ref (xa X 15)])) = cM X (uI S 14 v) := by
  funext j
  by_cases h : j = 0
  · subst h; rfl
  · rw [va_up, if_neg h]
    by_cases h1 : j < 16
    · unfold cM; rw [if_pos h1, if_pos h1]
      match j, h with
      | 0, h => exact absurd rfl h
      | 1, h => rfl
      | 2, h => rfl
      | 3, h => rfl
      | 4, h => rfl
      | 5, h => rfl
      | 6, h => rfl
      | 7, h => rfl
      | 8, h => rfl
      | 9, h => rfl
      | 10, h => rfl
      | 11, h => rfl
      | 12, h => rfl
      | 13, h => rfl
      | 14, h => rfl
      | 15, h => rfl
      | j + 16, h => rfl
    · unfold cM; rw [if_neg h1, if_neg h1]; rfl
theorem uM_A2 (X : xG) (S : gS) (i : Nat) (v : Int32) : va_up (cM X S) 2 (.inl (xc X 0, 8, .inl (upd (gA S 2) i v))) = cM X (uA S 2 i v) := by
  funext j
  by_cases h : j = 2
  · subst h; rfl
  · rw [va_up, if_neg h]
    by_cases h1 : j < 16
    · unfold cM; rw [if_pos h1, if_pos h1]
      match j, h with
      | 0, h => rfl
      | 1, h => rfl
      | 2, h => exact absurd rfl h
      | 3, h => rfl
      | 4, h => rfl
      | 5, h => rfl
      | 6, h => rfl
      | 7, h => rfl
      | 8, h => rfl
      | 9, h => rfl
      | 10, h => rfl
      | 11, h => rfl
      | 12, h => rfl
      | 13, h => rfl
      | 14, h => rfl
      | 15, h => rfl
      | j + 16, h => rfl
    · unfold cM; rw [if_neg h1, if_neg h1]; rw [gA_ne h]; rfl
theorem uM_A3 (X : xG) (S : gS) (i : Nat) (v : Int32) : va_up (cM X S) 3 (.inl (xc X 0, 6, .inl (upd (gA S 3) i v))) = cM X (uA S 3 i v) := by
  funext j
  by_cases h : j = 3
  · subst h; rfl
  · rw [va_up, if_neg h]
    by_cases h1 : j < 16
    · unfold cM; rw [if_pos h1, if_pos h1]
      match j, h with
      | 0, h => rfl
      | 1, h => rfl
      | 2, h => rfl
      | 3, h => exact absurd rfl h
      | 4, h => rfl
      | 5, h => rfl
      | 6, h => rfl
      | 7, h => rfl
      | 8, h => rfl
      | 9, h => rfl
      | 10, h => rfl
      | 11, h => rfl
      | 12, h => rfl
      | 13, h => rfl
      | 14, h => rfl
      | 15, h => rfl
      | j + 16, h => rfl
    · unfold cM; rw [if_neg h1, if_neg h1]; rw [gA_ne h]; rfl
theorem uM_A4 (X : xG) (S : gS) (i : Nat) (v : Int32) : va_up (cM X S) 4 (.inl (xc X 2, 6, .inl (upd (gA S 4) i v))) = cM X (uA S 4 i v) := by
  funext j
  by_cases h : j = 4
  · subst h; rfl
  · rw [va_up, if_neg h]
    by_cases h1 : j < 16
    · unfold cM; rw [if_pos h1, if_pos h1]
      match j, h with
      | 0, h => rfl
      | 1, h => rfl
      | 2, h => rfl
      | 3, h => rfl
      | 4, h => exact absurd rfl h
      | 5, h => rfl
      | 6, h => rfl
      | 7, h => rfl
      | 8, h => rfl
      | 9, h => rfl
      | 10, h => rfl
      | 11, h => rfl
      | 12, h => rfl
      | 13, h => rfl
      | 14, h => rfl
      | 15, h => rfl
      | j + 16, h => rfl
    · unfold cM; rw [if_neg h1, if_neg h1]; rw [gA_ne h]; rfl
theorem uM_A6 (X : xG) (S : gS) (i : Nat) (v : Int32) : va_up (cM X S) 6 (.inl (xc X 0, 8, .inl (upd (gA S 6) i v))) = cM X (uA S 6 i v) := by
  funext j
  by_cases h : j = 6
  · subst h; rfl
  · rw [va_up, if_neg h]
    by_cases h1 : j < 16
    · unfold cM; rw [if_pos h1, if_pos h1]
      match j, h with
      | 0, h => rfl
      | 1, h => rfl
      | 2, h => rfl
      | 3, h => rfl
      | 4, h => rfl
      | 5, h => rfl
      | 6, h => exact absurd rfl h
      | 7, h => rfl
      | 8, h => rfl
      | 9, h => rfl
      | 10, h => rfl
      | 11, h => rfl
      | 12, h => rfl
      | 13, h => rfl
      | 14, h => rfl
      | 15, h => rfl
      | j + 16, h => rfl
    · unfold cM; rw [if_neg h1, if_neg h1]; rw [gA_ne h]; rfl
theorem uM_A8 (X : xG) (S : gS) (i : Nat) (v : Int32) : va_up (cM X S) 8 (.inl (xc X 0, 16, .inl (upd (gA S 8) i v))) = cM X (uA S 8 i v) := by
  funext j
  by_cases h : j = 8
  · subst h; rfl
  · rw [va_up, if_neg h]
    by_cases h1 : j < 16
    · unfold cM; rw [if_pos h1, if_pos h1]
      match j, h with
      | 0, h => rfl
      | 1, h => rfl
      | 2, h => rfl
      | 3, h => rfl
      | 4, h => rfl
      | 5, h => rfl
      | 6, h => rfl
      | 7, h => rfl
      | 8, h => exact absurd rfl h
      | 9, h => rfl
      | 10, h => rfl
      | 11, h => rfl
      | 12, h => rfl
      | 13, h => rfl
      | 14, h => rfl
      | 15, h => rfl
      | j + 16, h => rfl
    · unfold cM; rw [if_neg h1, if_neg h1]; rw [gA_ne h]; rfl
theorem uM_A9 (X : xG) (S : gS) (i : Nat) (v : Int32) : va_up (cM X S) 9 (.inl (xc X 0, 16, .inl (upd (gA S 9) i v))) = cM X (uA S 9 i v) := by
  funext j
  by_cases h : j = 9
  · subst h; rfl
  · rw [va_up, if_neg h]
    by_cases h1 : j < 16
    · unfold cM; rw [if_pos h1, if_pos h1]
      match j, h with
      | 0, h => rfl
      | 1, h => rfl
      | 2, h => rfl
      | 3, h => rfl
      | 4, h => rfl
      | 5, h => rfl
      | 6, h => rfl
      | 7, h => rfl
      | 8, h => rfl
      | 9, h => exact absurd rfl h
      | 10, h => rfl
      | 11, h => rfl
      | 12, h => rfl
      | 13, h => rfl
      | 14, h => rfl
      | 15, h => rfl
      | j + 16, h => rfl
    · unfold cM; rw [if_neg h1, if_neg h1]; rw [gA_ne h]; rfl
theorem uM_A10 (X : xG) (S : gS) (i : Nat) (v : Int32) : va_up (cM X S) 10 (.inl (xc X 0, 16, .inl (upd (gA S 10) i v))) = cM X (uA S 10 i v) := by
  funext j
  by_cases h : j = 10
  · subst h; rfl
  · rw [va_up, if_neg h]
    by_cases h1 : j < 16
    · unfold cM; rw [if_pos h1, if_pos h1]
      match j, h with
      | 0, h => rfl
      | 1, h => rfl
      | 2, h => rfl
      | 3, h => rfl
      | 4, h => rfl
      | 5, h => rfl
      | 6, h => rfl
      | 7, h => rfl
      | 8, h => rfl
      | 9, h => rfl
      | 10, h => exact absurd rfl h
      | 11, h => rfl
      | 12, h => rfl
      | 13, h => rfl
      | 14, h => rfl
      | 15, h => rfl
      | j + 16, h => rfl
    · unfold cM; rw [if_neg h1, if_neg h1]; rw [gA_ne h]; rfl
theorem uM_A11 (X : xG) (S : gS) (i : Nat) (v : Int32) : va_up (cM X S) 11 (.inl (xc X 0, 3, .inl (upd (gA S 11) i v))) = cM X (uA S 11 i v) := by
  funext j
  by_cases h : j = 11
  · subst h; rfl
  · rw [va_up, if_neg h]
    by_cases h1 : j < 16
    · unfold cM; rw [if_pos h1, if_pos h1]
      match j, h with
      | 0, h => rfl
      | 1, h => rfl
      | 2, h => rfl
      | 3, h => rfl
      | 4, h => rfl
      | 5, h => rfl
      | 6, h => rfl
      | 7, h => rfl
      | 8, h => rfl
      | 9, h => rfl
      | 10, h => rfl
      | 11, h => exact absurd rfl h
      | 12, h => rfl
      | 13, h => rfl
      | 14, h => rfl
      | 15, h => rfl
      | j + 16, h => rfl
    · unfold cM; rw [if_neg h1, if_neg h1]; rw [gA_ne h]; rfl
theorem uM_A12 (X : xG) (S : gS) (i : Nat) (v : Int32) : va_up (cM X S) 12 (.inl (xc X 2, 3, .inl (upd (gA S 12) i v))) = cM X (uA S 12 i v) := by
  funext j
  by_cases h : j = 12
  · subst h; rfl
  · rw [va_up, if_neg h]
    by_cases h1 : j < 16
    · unfold cM; rw [if_pos h1, if_pos h1]
      match j, h with
      | 0, h => rfl
      | 1, h => rfl
      | 2, h => rfl
      | 3, h => rfl
      | 4, h => rfl
      | 5, h => rfl
      | 6, h => rfl
      | 7, h => rfl
      | 8, h => rfl
      | 9, h => rfl
      | 10, h => rfl
      | 11, h => rfl
      | 12, h => exact absurd rfl h
      | 13, h => rfl
      | 14, h => rfl
      | 15, h => rfl
      | j + 16, h => rfl
    · unfold cM; rw [if_neg h1, if_neg h1]; rw [gA_ne h]; rfl
theorem uM_A15 (X : xG) (S : gS) (i : Nat) (v : Int32) : va_up (cM X S) 15 (.inl (xc X 0, 8, .inl (upd (gA S 15) i v))) = cM X (uA S 15 i v) := by
  funext j
  by_cases h : j = 15
  · subst h; rfl
  · rw [va_up, if_neg h]
    by_cases h1 : j < 16
    · unfold cM; rw [if_pos h1, if_pos h1]
      match j, h with
      | 0, h => rfl
      | 1, h => rfl
      | 2, h => rfl
      | 3, h => rfl
      | 4, h => rfl
      | 5, h => rfl
      | 6, h => rfl
      | 7, h => rfl
      | 8, h => rfl
      | 9, h => rfl
      | 10, h => rfl
      | 11, h => rfl
      | 12, h => rfl
      | 13, h => rfl
      | 14, h => rfl
      | 15, h => exact absurd rfl h
      | j + 16, h => rfl
    · unfold cM; rw [if_neg h1, if_neg h1]; rw [gA_ne h]; rfl
abbrev tM (X : xG) : List (ClassId × FieldType) := [(xc X 0, .int), (xc X 1, .long), (xc X 2, .boolean), (xc X 3, .array .int), (xc X 4, .array .long), (xc X 5, .array (.array .long))]
def eM (X : xG) (_ : Nat → Prop) (U : State) (_ : Heap) : Prop := va_K X.1 vwCl (tM X) U ∧ True
theorem okM (X : xG) : xOK (eM X) := ⟨fun _ _ _ _ hW h => ⟨va_K.moved hW.alike h.1, trivial⟩, fun _ U _ _ _ _ h => ⟨va_K.moved (Vm.Alike.refl U.vm) h.1, trivial⟩, fun _ _ _ _ _ _ _ _ h => h⟩
theorem vp_lt {i : Int32} {n : Nat} (h : vp_in i n) : i.toNatClampNeg < n := Nat.not_le.mp fun q => h (Or.inr q)
theorem rf_lt {a i n : Nat} (h : i < n) : va_rf (if i < n then some a else none) = .ref a := by rw [if_pos h]; rfl
