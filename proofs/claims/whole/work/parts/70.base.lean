/-! THE MATHEMATICS, 1: states, loops, numbers. -/
theorem gI_uI {S : gS} {f g : Nat} {v : Int32} : gI (uI S f v) g = if g = f then v else gI S g := by
  show va_up S.1 f v g = _
  unfold va_up
  rfl
theorem gI_uJ {S : gS} {f g : Nat} {v : Int64} : gI (uJ S f v) g = gI S g := rfl
theorem gI_uA {S : gS} {a i g : Nat} {v : Int32} : gI (uA S a i v) g = gI S g := rfl
theorem gI_uB {S : gS} {a i g : Nat} {v : Int64} : gI (uB S a i v) g = gI S g := rfl
theorem gJ_uI {S : gS} {f g : Nat} {v : Int32} : gJ (uI S f v) g = gJ S g := rfl
theorem gJ_uJ {S : gS} {f g : Nat} {v : Int64} : gJ (uJ S f v) g = if g = f then v else gJ S g := by
  show va_up S.2.1 f v g = _
  unfold va_up
  rfl
theorem gJ_uA {S : gS} {a i g : Nat} {v : Int32} : gJ (uA S a i v) g = gJ S g := rfl
theorem gJ_uB {S : gS} {a i g : Nat} {v : Int64} : gJ (uB S a i v) g = gJ S g := rfl
theorem gA_uI {S : gS} {f g : Nat} {v : Int32} : gA (uI S f v) g = gA S g := rfl
theorem gA_uJ {S : gS} {f g : Nat} {v : Int64} : gA (uJ S f v) g = gA S g := rfl
theorem gA_uA {S : gS} {a i g : Nat} {v : Int32} : gA (uA S a i v) g = if g = a then upd (gA S a) i v else gA S g := by
  show va_up S.2.2.1 a (upd (S.2.2.1 a) i v) g = _
  unfold va_up
  rfl
theorem gA_uB {S : gS} {a i g : Nat} {v : Int64} : gA (uB S a i v) g = gA S g := rfl
theorem gB_uI {S : gS} {f g : Nat} {v : Int32} : gB (uI S f v) g = gB S g := rfl
theorem gB_uJ {S : gS} {f g : Nat} {v : Int64} : gB (uJ S f v) g = gB S g := rfl
theorem gB_uA {S : gS} {a i g : Nat} {v : Int32} : gB (uA S a i v) g = gB S g := rfl
theorem gB_uB {S : gS} {a i g : Nat} {v : Int64} : gB (uB S a i v) g = if g = a then vp_updL (gB S a) i v else gB S g := by
  show va_up S.2.2.2 a (vp_updL (S.2.2.2 a) i v) g = _
  unfold va_up
  rfl
/-- a whole array written -/
def sA (S : gS) (a : Nat) (F : Nat → Int32) : gS := (S.1, S.2.1, va_up S.2.2.1 a F, S.2.2.2)
def sB (S : gS) (a : Nat) (F : Nat → Int64) : gS := (S.1, S.2.1, S.2.2.1, va_up S.2.2.2 a F)
theorem gI_sA {S : gS} {a g : Nat} {F : Nat → Int32} : gI (sA S a F) g = gI S g := rfl
theorem gJ_sA {S : gS} {a g : Nat} {F : Nat → Int32} : gJ (sA S a F) g = gJ S g := rfl
theorem gB_sA {S : gS} {a g : Nat} {F : Nat → Int32} : gB (sA S a F) g = gB S g := rfl
theorem gA_sA {S : gS} {a g : Nat} {F : Nat → Int32} : gA (sA S a F) g = if g = a then F else gA S g := by
  show va_up S.2.2.1 a F g = _
  unfold va_up
  rfl
theorem gI_sB {S : gS} {a g : Nat} {F : Nat → Int64} : gI (sB S a F) g = gI S g := rfl
theorem gJ_sB {S : gS} {a g : Nat} {F : Nat → Int64} : gJ (sB S a F) g = gJ S g := rfl
theorem gA_sB {S : gS} {a g : Nat} {F : Nat → Int64} : gA (sB S a F) g = gA S g := rfl
theorem gB_sB {S : gS} {a g : Nat} {F : Nat → Int64} : gB (sB S a F) g = if g = a then F else gB S g := by
  show va_up S.2.2.2 a F g = _
  unfold va_up
  rfl
theorem up_up {α : Type} {f : Nat → α} {a : Nat} {x y : α} : va_up (va_up f a x) a y = va_up f a y := by
  funext k
  simp only [va_up]
  split <;> rfl
theorem up_id {α : Type} {f : Nat → α} {a : Nat} : va_up f a (f a) = f := by
  funext k
  simp only [va_up]
  split
  · rename_i h; rw [h]
  · rfl
theorem uA_s {S : gS} {a i : Nat} {v : Int32} : uA S a i v = sA S a (upd (gA S a) i v) := rfl
theorem uB_s {S : gS} {a i : Nat} {v : Int64} : uB S a i v = sB S a (vp_updL (gB S a) i v) := rfl
theorem sA_sA {S : gS} {a : Nat} {F G : Nat → Int32} : sA (sA S a F) a G = sA S a G := by
  show (S.1, S.2.1, va_up (va_up S.2.2.1 a F) a G, S.2.2.2) = _
  rw [up_up]
  rfl
theorem sB_sB {S : gS} {a : Nat} {F G : Nat → Int64} : sB (sB S a F) a G = sB S a G := by
  show (S.1, S.2.1, S.2.2.1, va_up (va_up S.2.2.2 a F) a G) = _
  rw [up_up]
  rfl
theorem sA_id {S : gS} {a : Nat} : sA S a (gA S a) = S := by
  show (S.1, S.2.1, va_up S.2.2.1 a (S.2.2.1 a), S.2.2.2) = _
  rw [up_id]
theorem sB_id {S : gS} {a : Nat} : sB S a (gB S a) = S := by
  show (S.1, S.2.1, S.2.2.1, va_up S.2.2.2 a (S.2.2.2 a)) = _
  rw [up_id]
theorem upd_at {f : Nat → Int32} {i j : Nat} {v : Int32} : upd f i v j = if j = i then v else f j := rfl
theorem updL_at {f : Nat → Int64} {i j : Nat} {v : Int64} : vp_updL f i v j = if j = i then v else f j := rfl
/-- a loop by the sequence of its states -/
theorem lp_seq {α : Type} {B : (α → Prop) → α → Prop} (X : Nat → α) (N : Nat) (hs : ∀ k L, k < N → L (X (k + 1)) → B L (X k)) (he : ∀ L, B L (X N)) : ∃ n, lp B n (X 0) := by
  have key : ∀ d k, k + d = N → lp B (d + 1) (X k) := by
    intro d
    induction d with
    | zero => intro k hk; rw [show k = N by omega]; exact he _
    | succ d ih => intro k hk; exact hs k _ (by omega) (ih (k + 1) (by omega))
  exact ⟨N + 1, key N 0 (by omega)⟩
/-- a loop by an invariant that counts up -/
theorem lp_inv {α : Type} {B : (α → Prop) → α → Prop} (I : Nat → α → Prop) (N : Nat) (hs : ∀ k x L, k < N → I k x → (∀ y, I (k + 1) y → L y) → B L x) (he : ∀ x L, I N x → B L x) {x : α} (h0 : I 0 x) : ∃ n, lp B n x := by
  have key : ∀ d k x, k + d = N → I k x → lp B (d + 1) x := by
    intro d
    induction d with
    | zero => intro k x hk hI; rw [show k = N by omega] at hI; exact he _ _ hI
    | succ d ih => intro k x hk hI; exact hs k x _ (by omega) hI (fun y hy => ih (k + 1) y (by omega) hy)
  exact ⟨N + 1, key N 0 x (by omega) h0⟩
/-- a loop that may leave early -/
theorem lp_ex {α : Type} {B : (α → Prop) → α → Prop} (I : Nat → α → Prop) (N : Nat) (hs : ∀ k x, k ≤ N → I k x → (∀ L, B L x) ∨ (k < N ∧ ∀ L, (∀ y, I (k + 1) y → L y) → B L x)) {x : α} (h0 : I 0 x) : ∃ n, lp B n x := by
  have key : ∀ d k x, k + d = N → I k x → lp B (d + 1) x := by
    intro d
    induction d with
    | zero =>
      intro k x hk hI
      rcases hs k x (by omega) hI with h | ⟨h, -⟩
      · exact h _
      · omega
    | succ d ih =>
      intro k x hk hI
      rcases hs k x (by omega) hI with h | ⟨-, h⟩
      · exact h _
      · exact h _ (fun y hy => ih (k + 1) y (by omega) hy)
  exact ⟨N + 1, key N 0 x (by omega) h0⟩
theorem lt_i {a b : Int32} : a < b ↔ a.toInt < b.toInt := Int32.lt_iff_toInt_lt
theorem le_i {a b : Int32} : a ≤ b ↔ a.toInt ≤ b.toInt := Int32.le_iff_toInt_le
theorem eq_i {a b : Int32} : a = b ↔ a.toInt = b.toInt := Int32.toInt_inj.symm
theorem rg_i (a : Int32) : -2147483648 ≤ a.toInt ∧ a.toInt < 2147483648 := ⟨by have := Int32.le_toInt a; omega, by have := Int32.toInt_lt a; omega⟩
theorem add_i {a b : Int32} (h1 : -2147483648 ≤ a.toInt + b.toInt) (h2 : a.toInt + b.toInt < 2147483648) : (a + b).toInt = a.toInt + b.toInt := by
  rw [Int32.toInt_add, Int.bmod_eq_of_le (by omega) (by omega)]
theorem sub_i {a b : Int32} (h1 : -2147483648 ≤ a.toInt - b.toInt) (h2 : a.toInt - b.toInt < 2147483648) : (a - b).toInt = a.toInt - b.toInt := by
  rw [Int32.toInt_sub, Int.bmod_eq_of_le (by omega) (by omega)]
theorem mul_i {a b : Int32} (h1 : -2147483648 ≤ a.toInt * b.toInt) (h2 : a.toInt * b.toInt < 2147483648) : (a * b).toInt = a.toInt * b.toInt := by
  rw [Int32.toInt_mul, Int.bmod_eq_of_le (by omega) (by omega)]
theorem nI_mul (a b : Nat) : nI a * nI b = nI (a * b) := (Int32.ofNat_mul a b).symm
theorem nI_sub {a b : Nat} (h : b ≤ a) : nI a - nI b = nI (a - b) := by
  have h1 : nI (a - b) + nI b = nI a := by rw [nI_add, Nat.sub_add_cancel h]
  rw [← h1, Int32.add_sub_cancel]
theorem nI_div {a b : Nat} (ha : a < 2 ^ 31) (hb : b < 2 ^ 31) : nI a / nI b = nI (a / b) := by
  rw [eq_i, Int32.toInt_div, nI_toInt ha, nI_toInt hb, nI_toInt (Nat.lt_of_le_of_lt (Nat.div_le_self a b) ha)]
  have h : (a : Int).tdiv (b : Int) = ((a / b : Nat) : Int) := by rw [Int.ofNat_tdiv]
  rw [h]
  have h2 : a / b ≤ a := Nat.div_le_self a b
  generalize a / b = q at h2 ⊢
  rw [Int.bmod_eq_of_le (by omega) (by omega)]
theorem nI_rem {a b : Nat} (ha : a < 2 ^ 31) (hb : b < 2 ^ 31) : nI a - nI a / nI b * nI b = nI (a % b) := by
  rw [nI_div ha hb, nI_mul, nI_sub (Nat.div_mul_le_self a b)]
  congr 1
  have := Nat.div_add_mod a b
  rw [Nat.mul_comm] at this
  omega
theorem nI_m1 {a : Nat} (h : a < 2 ^ 31) : ¬ nI a = -1 := by
  rw [eq_i, nI_toInt h]
  show ¬ (a : Int) = -1
  omega
theorem b_10 : narrow .boolean (.int (0 : Int32)) = .int 0 := rfl
theorem b_11 : narrow .boolean (.int (1 : Int32)) = .int 1 := rfl
theorem n_b0 : vp_nar .boolean (0 : Int32) = 0 := rfl
theorem n_b1 : vp_nar .boolean (1 : Int32) = 1 := rfl
theorem i_0 : (0 : Int32) = nI 0 := rfl
theorem i_1 : (1 : Int32) = nI 1 := rfl
theorem i_2 : (2 : Int32) = nI 2 := rfl
theorem i_3 : (3 : Int32) = nI 3 := rfl
theorem i_4 : (4 : Int32) = nI 4 := rfl
theorem i_6 : (6 : Int32) = nI 6 := rfl
theorem i_8 : (8 : Int32) = nI 8 := rfl
theorem i_9 : (9 : Int32) = nI 9 := rfl
theorem i_10 : (10 : Int32) = nI 10 := rfl
theorem i_11 : (11 : Int32) = nI 11 := rfl
theorem i_24 : (24 : Int32) = nI 24 := rfl
theorem i_40 : (40 : Int32) = nI 40 := rfl
theorem i_96 : (96 : Int32) = nI 96 := rfl
theorem in_i {x : Int32} {n : Nat} (h1 : 0 ≤ x.toInt) (h2 : x.toInt < n) : vp_in x n := vp_in_iff.mpr ⟨h1, h2⟩
theorem t_0 : (0 : Int32).toInt = 0 := rfl
theorem t_1 : (1 : Int32).toInt = 1 := rfl
theorem t_2 : (2 : Int32).toInt = 2 := rfl
theorem t_3 : (3 : Int32).toInt = 3 := rfl
theorem t_4 : (4 : Int32).toInt = 4 := rfl
theorem t_6 : (6 : Int32).toInt = 6 := rfl
theorem t_8 : (8 : Int32).toInt = 8 := rfl
theorem t_10 : (10 : Int32).toInt = 10 := rfl
theorem t_11 : (11 : Int32).toInt = 11 := rfl
theorem t_24 : (24 : Int32).toInt = 24 := rfl
theorem t_40 : (40 : Int32).toInt = 40 := rfl
theorem t_m1 : (-1 : Int32).toInt = -1 := rfl
theorem clamp_i {x : Int32} (h : 0 ≤ x.toInt) : (x.toNatClampNeg : Int) = x.toInt := by
  show (x.toInt.toNat : Int) = x.toInt
  omega
