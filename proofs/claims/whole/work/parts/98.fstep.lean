section
/-! THE MATHEMATICS, 34: every step keeps the invariant. -/
theorem inv_step (k : Nat) (a1 a2 a3 a4 : Int32) (Sx Sm : gS) (hk : k < 32) (h : Inv Sx Sm) : qL k a1 a2 a3 a4 Sx Sm Inv := by
  rcases (show k = 0 ∨ k = 1 ∨ k = 2 ∨ k = 3 ∨ k = 4 ∨ k = 5 ∨ k = 6 ∨ k = 7 ∨ k = 8 ∨ k = 9 ∨ k = 10 ∨ k = 11 ∨ k = 12 ∨ k = 13 ∨ k = 14 ∨ k = 15 ∨ k = 16 ∨ k = 17 ∨ k = 18 ∨ k = 19 ∨ k = 20 ∨ k = 21 ∨ k = 22 ∨ k = 23 ∨ k = 24 ∨ k = 25 ∨ k = 26 ∨ k = 27 ∨ k = 28 ∨ k = 29 ∨ k = 30 ∨ k = 31 by omega) with rfl | rfl | rfl | rfl | rfl | rfl | rfl | rfl | rfl | rfl | rfl | rfl | rfl | rfl | rfl | rfl | rfl | rfl | rfl | rfl | rfl | rfl | rfl | rfl | rfl | rfl | rfl | rfl | rfl | rfl | rfl | rfl
  · exact @s_0 a1 a2 a3 a4 Sx Sm h
  · exact @s_1 a1 a2 a3 a4 Sx Sm h
  · exact @s_2 a1 a2 a3 a4 Sx Sm h
  · exact @s_3 a1 a2 a3 a4 Sx Sm h
  · exact @s_4 a1 a2 a3 a4 Sx Sm h
  · exact @s_5 a1 a2 a3 a4 Sx Sm h
  · exact @s_6 a1 a2 a3 a4 Sx Sm h
  · exact @s_7 a1 a2 a3 a4 Sx Sm h
  · exact @s_8 a1 a2 a3 a4 Sx Sm h
  · exact @s_9 a1 a2 a3 a4 Sx Sm h
  · exact @s_10 a1 a2 a3 a4 Sx Sm h
  · exact @s_11 a1 a2 a3 a4 Sx Sm h
  · exact @s_12 a1 a2 a3 a4 Sx Sm h
  · exact @s_13 a1 a2 a3 a4 Sx Sm h
  · exact @s_14 a1 a2 a3 a4 Sx Sm h
  · exact @s_15 a1 a2 a3 a4 Sx Sm h
  · exact @s_16 a1 a2 a3 a4 Sx Sm h
  · exact @s_17 a1 a2 a3 a4 Sx Sm h
  · exact @s_18 a1 a2 a3 a4 Sx Sm h
  · exact @s_19 a1 a2 a3 a4 Sx Sm h
  · exact @s_20 a1 a2 a3 a4 Sx Sm h
  · exact @s_21 a1 a2 a3 a4 Sx Sm h
  · exact @s_22 a1 a2 a3 a4 Sx Sm h
  · exact @s_23 a1 a2 a3 a4 Sx Sm h
  · exact @s_24 a1 a2 a3 a4 Sx Sm h
  · exact @s_25 a1 a2 a3 a4 Sx Sm h
  · exact @s_26 a1 a2 a3 a4 Sx Sm h
  · exact @s_27 a1 a2 a3 a4 Sx Sm h
  · exact @s_28 a1 a2 a3 a4 Sx Sm h
  · exact @s_29 a1 a2 a3 a4 Sx Sm h
  · exact @s_30 a1 a2 a3 a4 Sx Sm h
  · exact @s_31 a1 a2 a3 a4 Sx Sm h
end
