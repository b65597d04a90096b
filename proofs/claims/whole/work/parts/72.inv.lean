/-! THE MATHEMATICS, 3: numbers of trees; the invariant. -/
def sN (f : Nat → Nat) : Nat → Nat
  | 0 => 0
  | k + 1 => sN f k + f k
def nL (n : Nat) : Int64 := Int64.ofNat n
/-- the trees of a part: of no symbol, of a terminal, of a nonterminal by T -/
def vl (fit : Nat → Int32 → Bool) (T : Nat → Nat → Int32 → Nat) (len b : Nat) (c : Int32) : Nat :=
  if c = -1 then (if len = 0 then 1 else 0) else if (10 : Int32) ≤ c then (if len = 1 ∧ fit b (c - 10) = true then 1 else 0) else if len = 0 then 0 else T len b c
def pr (fit : Nat → Int32 → Bool) (T : Nat → Nat → Int32 → Nat) (F : Nat → Int32) (p len b i j : Nat) : Nat :=
  vl fit T i b (F (4 * p + 1)) * (vl fit T j (b + i) (F (4 * p + 2)) * vl fit T (len - i - j) (b + i + j) (F (4 * p + 3)))
def pj (fit : Nat → Int32 → Bool) (T : Nat → Nat → Int32 → Nat) (F : Nat → Int32) (p len b i j : Nat) : Nat := if i + j ≤ len then pr fit T F p len b i j else 0
def tp (fit : Nat → Int32 → Bool) (T : Nat → Nat → Int32 → Nat) (F : Nat → Int32) (p len b : Nat) : Nat := sN (fun i => sN (fun j => pj fit T F p len b i j) (len + 1)) (len + 1)
def tn (fit : Nat → Int32 → Bool) (P : Nat) (F : Nat → Int32) : Nat → Nat → Nat → Int32 → Nat
  | 0 => fun _ _ _ => 0
  | f + 1 => fun len b c => sN (fun p => if F (4 * p) = c then tp fit (tn fit P F f) F p len b else 0) P
/-- the number of trees of a nonterminal for a piece -/
def TT (fit : Nat → Int32 → Bool) (P : Nat) (F : Nat → Int32) (len b : Nat) (c : Int32) : Nat := tn fit P F len len b c
def fitL : Nat → Int32 → Bool := fun _ _ => true
def fitW (W : Nat → Int32) : Nat → Int32 → Bool := fun b x => decide (W b = x)
/-- the letters of the word with a key -/
def dig (t len key : Nat) (i : Nat) : Int32 := nI (key / t ^ (len - 1 - i) % t)
def okP (n t P : Nat) (F : Nat → Int32) : Prop := (∀ p, p < P → isN n (F (4 * p)) ∧ isR n t (F (4 * p + 1)) (F (4 * p + 2)) (F (4 * p + 3))) ∧ ∀ p q, p < P → q < P → (∀ k, k < 4 → F (4 * p + k) = F (4 * q + k)) → p = q
def rgG (a b c d : Int32) (n t st P : Nat) : Prop := a = nI n ∧ b = nI t ∧ c = nI st ∧ d = nI P ∧ 1 ≤ n ∧ n ≤ 6 ∧ 1 ≤ t ∧ t ≤ 3 ∧ st < n ∧ P ≤ 24
def vG (a b c d : Int32) (F : Nat → Int32) : Prop := ∃ n t st P : Nat, rgG a b c d n t st P ∧ okP n t P F
def vW (b e : Int32) (W : Nat → Int32) : Prop := ∃ z : Nat, z ≤ 8 ∧ e = nI z ∧ ∀ i, i < z → 0 ≤ (W i).toInt ∧ (W i).toInt < b.toInt
def cL (n P : Nat) (F : Nat → Int32) (fl : Int32) (R : Nat → Int64) : Prop := ∃ z : Nat, z ≤ 10 ∧ fl = nI z ∧ ∀ len a, 1 ≤ len → len ≤ z → a < n → R ((len - 1) * 6 + a) = nL (TT fitL P F len 0 (nI a))
def plW (len : Nat) : Nat := ([0, 1, 4, 13, 40, 121, 364] : List Nat).getD len 0
def cW (n t P : Nat) (F : Nat → Int32) (fw : Int32) (R : Nat → Int64) : Prop :=
  (∃ z : Nat, z ≤ 6 ∧ fw = nI z ∧ ∀ len a key, 1 ≤ len → len ≤ z → a < n → key < t ^ len → R (a * 1093 + plW len + key) = nL (TT (fitW (dig t len key)) P F len 0 (nI a))) ∧
  (∀ u v, u < 3 → v < 3 → R ((6 + u) * 1093 + 1 + v) = if u = v then 1 else 0) ∧ R 9837 = 1
/-- the trees of a symbol's piece that come before a production and lengths of parts -/
def bf (fit : Nat → Int32 → Bool) (P : Nat) (F : Nat → Int32) (c : Int32) (len b p i j : Nat) : Nat :=
  sN (fun q => if F (4 * q) = c then tp fit (TT fit P F) F q len b else 0) p + (sN (fun u => sN (fun v => pj fit (TT fit P F) F p len b u v) (len + 1)) i + sN (fun v => pj fit (TT fit P F) F p len b i v) j)
/-- the nodes from i up to i' are the tree, in preorder, of a symbol and a piece; r: its number -/
def TV (fit : Nat → Int32 → Bool) (P : Nat) (F NP NF NS : Nat → Int32) : Nat → Int32 → Nat → Nat → Nat → Nat → Nat → Prop
  | 0 => fun _ _ _ _ _ _ => False
  | f + 1 => fun c b len i i' r =>
    (c = -1 ∧ len = 0 ∧ i' = i ∧ r = 0) ∨ ((10 : Int32) ≤ c ∧ len = 1 ∧ fit b (c - 10) = true ∧ i' = i ∧ r = 0) ∨
    (¬ c = -1 ∧ ¬ (10 : Int32) ≤ c ∧ ∃ p u v i1 i2 r1 r2 r3 : Nat, p < P ∧ F (4 * p) = c ∧ NP i = nI p ∧ NF i = nI b ∧ NS i = nI len ∧ u + v ≤ len ∧
      TV fit P F NP NF NS f (F (4 * p + 1)) b u (i + 1) i1 r1 ∧ TV fit P F NP NF NS f (F (4 * p + 2)) (b + u) v i1 i2 r2 ∧ TV fit P F NP NF NS f (F (4 * p + 3)) (b + u + v) (len - u - v) i2 i' r3 ∧
      r = bf fit P F c len b p u v + ((r1 * vl fit (TT fit P F) v (b + u) (F (4 * p + 2)) + r2) * vl fit (TT fit P F) (len - u - v) (b + u + v) (F (4 * p + 3)) + r3))
def eqG (Sx Sm : gS) : Prop := gI Sm 1 = gI Sx 1 ∧ gI Sm 2 = gI Sx 2 ∧ gI Sm 3 = gI Sx 3 ∧ gI Sm 4 = gI Sx 4 ∧ gI Sm 5 = gI Sx 5 ∧ (∀ p k, p < 24 → k < 4 → gA Sm (16 + p) k = gA Sx 10 (4 * p + k)) ∧ ∀ i, i < 8 → gA Sm 2 i = gA Sx 13 i
def eqV (Sx Sm : gS) : Prop := gI Sm 9 = gI Sx 0 ∧ (gI Sx 0 = 0 ∨ (gI Sx 0 = 1 ∧ vG (gI Sx 6) (gI Sx 7) (gI Sx 8) (gI Sx 9) (gA Sx 14) ∧ vW (gI Sx 7) (gI Sx 10) (gA Sx 17) ∧ gI Sm 10 = gI Sx 6 ∧ gI Sm 11 = gI Sx 7 ∧ gI Sm 12 = gI Sx 8 ∧ gI Sm 13 = gI Sx 9 ∧ gI Sm 14 = gI Sx 10 ∧ (∀ p k, p < 24 → k < 4 → gA Sm (40 + p) k = gA Sx 14 (4 * p + k)) ∧ ∀ i, i < 8 → gA Sm 15 i = gA Sx 17 i))
def eqL (Sx Sm : gS) : Prop := ∀ s, s < 3 → (gA Sx 28 s = 0 ∧ gA Sm 11 s = -1) ∨ (gA Sx 28 s = 1 ∧ ∃ z : Nat, z ≤ 40 ∧ gA Sm 11 s = nI z ∧ gA Sx 30 s = nI z ∧ gA Sm 12 s = gA Sx 29 s ∧ ∀ i, i < z → gA Sm (64 + s) i = gA Sx 31 (40 * s + i))
def eqT (Sx Sm : gS) : Prop := (gI Sx 14 = 0 ∧ gI Sm 6 = 0) ∨ (gI Sx 14 = 1 ∧ ∃ z P w st r : Nat, 1 ≤ z ∧ z ≤ 15 ∧ gI Sx 15 = nI z ∧ gI Sm 6 = nI z ∧ (∀ i, i < z → gA Sm 8 i = gA Sx 21 i ∧ gA Sm 9 i = gA Sx 22 i ∧ gA Sm 10 i = gA Sx 23 i) ∧
  gI Sx 4 = nI P ∧ P ≤ 24 ∧ gI Sx 5 = nI w ∧ 1 ≤ w ∧ w ≤ 8 ∧ gI Sx 3 = nI st ∧ st < 6 ∧ TV (fitW (gA Sx 13)) P (gA Sx 10) (gA Sx 21) (gA Sx 22) (gA Sx 23) 10 (nI st) 0 w 0 z r ∧ gJ Sx 0 = nL r)
def eqC (Sx : gS) : Prop := ∃ n t st P : Nat, rgG (gI Sx 1) (gI Sx 2) (gI Sx 3) (gI Sx 4) n t st P ∧ okP n t P (gA Sx 10) ∧ cL n P (gA Sx 10) (gI Sx 11) (gB Sx 18) ∧ cW n t P (gA Sx 10) (gI Sx 13) (gB Sx 20)
def Inv (Sx Sm : gS) : Prop := eqG Sx Sm ∧ eqC Sx ∧ vW (gI Sx 2) (gI Sx 5) (gA Sx 13) ∧ eqV Sx Sm ∧ eqL Sx Sm ∧ eqT Sx Sm
/-- what only answers and writes to out -/
theorem Inv.out {Sx Sm : gS} {v : Int64} {i : Nat} (h : Inv Sx Sm) : Inv (uB Sx 32 i v) Sm := by
  unfold Inv eqG eqC eqV eqL eqT at h ⊢
  simp only [gI_uB, gJ_uB, gA_uB, gB_uB] at h ⊢
  exact h
theorem Inv.outD {Sx Sm : gS} {v : Int64} {i : Nat} (h : Inv Sx Sm) : Inv (uB Sx 33 i v) Sm := by
  unfold Inv eqG eqC eqV eqL eqT at h ⊢
  simp only [gI_uB, gJ_uB, gA_uB, gB_uB] at h ⊢
  exact h
theorem Inv.thr {Sx Sm : gS} {v : Int32} (h : Inv Sx Sm) : Inv Sx (uI Sm 0 v) := by
  unfold Inv eqG eqC eqV eqL eqT at h ⊢
  simp only [gI_uI, gJ_uI, gA_uI, gB_uI] at h ⊢
  exact h
theorem Inv.nod {Sx Sm : gS} (h : Inv Sx Sm) : Inv (uI Sx 14 0) (uI Sm 6 0) := by
  unfold Inv eqG eqC eqV eqL eqT at h ⊢
  simp only [gI_uI, gJ_uI, gA_uI, gB_uI] at h ⊢
  simp at h ⊢
  exact ⟨h.1, h.2.1, h.2.2.1, h.2.2.2.1, h.2.2.2.2.1⟩
theorem cmp_self (x : Int64) : lg_cmp x x = 0 := by
  unfold lg_cmp
  simp
theorem inv_0 : Inv S0x S0m := by
  have e : ∀ k, k ≠ 11 → gA S0m k = fun _ => 0 := fun k hk => by
    unfold S0m
    simp only [gA_uA, if_neg hk]
    rfl
  have e1 : ∀ k, gA S0x k = fun _ => 0 := fun k => rfl
  refine ⟨⟨rfl, rfl, rfl, rfl, rfl, fun p k hp hk => ?_, fun i hi => ?_⟩, ⟨1, 2, 0, 0, ⟨rfl, rfl, rfl, rfl, by decide, by decide, by decide, by decide, by decide, by decide⟩, ⟨fun p hp => absurd hp (by omega), fun p q hp => absurd hp (by omega)⟩, ⟨0, by decide, rfl, fun len a h1 h2 => by omega⟩, ⟨⟨0, by decide, rfl, fun len a key h1 h2 => by omega⟩, fun u v hu hv => ?_, ?_⟩⟩, ⟨0, by decide, rfl, fun i hi => by omega⟩, ⟨rfl, Or.inl rfl⟩, fun s hs => Or.inl ⟨rfl, ?_⟩, Or.inl ⟨rfl, rfl⟩⟩
  · rw [e _ (by omega), e1]
  · rw [e _ (by omega), e1]
  · rcases (show u = 0 ∨ u = 1 ∨ u = 2 by omega) with rfl | rfl | rfl <;> rcases (show v = 0 ∨ v = 1 ∨ v = 2 by omega) with rfl | rfl | rfl <;> decide +kernel
  · decide +kernel
  · rcases (show s = 0 ∨ s = 1 ∨ s = 2 by omega) with rfl | rfl | rfl <;> decide +kernel
