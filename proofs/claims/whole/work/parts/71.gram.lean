/-! THE MATHEMATICS, 2: the grammar, its tests. -/
/-- the class's grammar: n nonterminals, t terminals, start st, P productions; the symbols by the array itself -/
def cG (S : gS) (n t st P : Nat) : Prop := gI S 1 = nI n ∧ gI S 2 = nI t ∧ gI S 3 = nI st ∧ gI S 4 = nI P ∧ 1 ≤ n ∧ n ≤ 6 ∧ 1 ≤ t ∧ t ≤ 3 ∧ st < n ∧ P ≤ 24
def isN (n : Nat) (x : Int32) : Prop := 0 ≤ x.toInt ∧ x.toInt < n
def isT (t : Nat) (x : Int32) : Prop := 10 ≤ x.toInt ∧ x.toInt < 10 + t
def isS (n t : Nat) (x : Int32) : Prop := isN n x ∨ isT t x
/-- a right side that the document allows -/
def isR (n t : Nat) (x y z : Int32) : Prop := isS n t x ∧ ((y = -1 ∧ z = -1 ∧ ¬ isN n x) ∨ (isS n t y ∧ (z = -1 ∨ isS n t z)))
theorem c_isN {S : gS} {n t st P : Nat} (h : cG S n t st P) {x : Int32} {Post : Int32 → Prop} (h1 : isN n x → Post 1) (h0 : ¬ isN n x → Post 0) : pX1_isNonterminal x S Post := by
  obtain ⟨e1, e2, e3, e4, b1, b2, b3, b4, b5, b6⟩ := h
  unfold pX1_isNonterminal
  rw [e1]
  simp only [lt_i, le_i, t_0, t_6, nI_toInt (show n < 2 ^ 31 by omega)]
  unfold isN at h1 h0
  refine ⟨fun c => h0 (by omega), fun c => ⟨fun c => h0 (by omega), fun c => ⟨fun c => h0 (by omega), fun c => h1 (by omega)⟩⟩⟩
theorem c_isTn {S : gS} {n t st P : Nat} (h : cG S n t st P) {x : Int32} {Post : Int32 → Prop} (h1 : 0 ≤ x.toInt → x.toInt < t → Post 1) (h0 : ¬ (0 ≤ x.toInt ∧ x.toInt < t) → Post 0) : pX1_isTerminal x S Post := by
  obtain ⟨e1, e2, e3, e4, b1, b2, b3, b4, b5, b6⟩ := h
  unfold pX1_isTerminal
  rw [e2]
  simp only [lt_i, le_i, t_0, t_6, nI_toInt (show t < 2 ^ 31 by omega)]
  refine ⟨fun c => h0 (by omega), fun c => ⟨fun c => h0 (by omega), fun c => h1 (by omega) (by omega)⟩⟩
theorem c_isS {S : gS} {n t st P : Nat} (h : cG S n t st P) {x : Int32} {Post : Int32 → Prop} (h1 : isS n t x → Post 1) (h0 : ¬ isS n t x → Post 0) : pX1_isSymbol x S Post := by
  unfold pX1_isSymbol
  have r := rg_i x
  refine c_isN h (fun c => ⟨fun _ => h1 (Or.inl c), fun c => absurd c (by decide)⟩) (fun c => ⟨fun c => absurd rfl c, fun _ => ⟨fun c1 => h0 (fun c2 => ?_), fun c1 => ?_⟩⟩)
  · rcases c2 with c2 | c2
    · exact c c2
    · rw [lt_i, t_10] at c1; unfold isT at c2; omega
  · rw [lt_i, t_10] at c1
    have e : (x - 10).toInt = x.toInt - 10 := by rw [sub_i] <;> rw [t_10] <;> omega
    refine c_isTn h (fun c2 c3 => ⟨fun c => absurd c (by decide), fun _ => h1 (Or.inr ⟨by omega, by omega⟩)⟩) (fun c2 => ⟨fun _ => h0 (fun c3 => ?_), fun c => absurd rfl c⟩)
    rcases c3 with c3 | c3
    · exact c c3
    · unfold isT at c3; omega
theorem c_isR {S : gS} {n t st P : Nat} (h : cG S n t st P) {x y z : Int32} {Post : Int32 → Prop} (h1 : isR n t x y z → Post 1) (h0 : ¬ isR n t x y z → Post 0) : pX1_isRightSide x y z S Post := by
  have n1 : ∀ {v : Int32}, v = -1 → ¬ isS n t v := fun hv c => by
    subst hv
    rcases c with c | c
    · have := c.1; rw [t_m1] at this; omega
    · have := c.1; rw [t_m1] at this; omega
  unfold pX1_isRightSide
  refine c_isS h (fun cx => ⟨fun _ => ⟨fun cy => ?_, fun cy => ⟨fun cz => h0 (fun c => ?_), fun cz => ?_⟩⟩, fun c => absurd c (by decide)⟩) (fun cx => ⟨fun c => absurd rfl c, fun _ => h0 (fun c => cx c.1)⟩)
  · refine c_isS h (fun dy => ⟨fun c => absurd c (by decide), fun _ => ⟨fun cz => h1 ⟨cx, Or.inr ⟨dy, Or.inl cz⟩⟩, fun cz => ?_⟩⟩) (fun dy => ⟨fun _ => h0 (fun c => ?_), fun c => absurd rfl c⟩)
    · refine c_isS h (fun dz => ⟨fun c => absurd c (by decide), fun _ => h1 ⟨cx, Or.inr ⟨dy, Or.inr dz⟩⟩⟩) (fun dz => ⟨fun _ => h0 (fun c => ?_), fun c => absurd rfl c⟩)
      rcases c.2 with c | c
      · exact cz c.2.1
      · exact c.2.elim cz dz
    · rcases c.2 with c | c
      · exact cy c.1
      · exact dy c.1
  · rcases c.2 with c | c
    · exact cz c.2.1
    · exact n1 cy c.1
  · refine c_isN h (fun d => ⟨fun _ => h0 (fun c => ?_), fun c => absurd c (by decide)⟩) (fun d => ⟨fun c => absurd rfl c, fun _ => h1 ⟨cx, Or.inl ⟨cy, cz, d⟩⟩⟩)
    rcases c.2 with c | c
    · exact c.2.2 d
    · exact n1 cy c.1
/-- a symbol of a production that there is -/
theorem c_sym {S : gS} {n t st P : Nat} (h : cG S n t st P) {p k : Nat} (hp : p < P) (hk : k < 4) {Post : Int32 → Prop} (hq : Post (gA S 10 (4 * p + k))) : pX1_symbol (nI p) (nI k) S Post := by
  obtain ⟨e1, e2, e3, e4, b1, b2, b3, b4, b5, b6⟩ := h
  have e : nI p * 4 + nI k = nI (4 * p + k) := by rw [i_4, nI_mul, nI_add, Nat.mul_comm]
  unfold pX1_symbol
  rw [e4, e]
  refine ⟨fun c => absurd c (nI_pos (by omega)), fun _ => ⟨fun c => absurd c (nI_ge hp (by omega)), fun _ => ⟨fun c => absurd c (nI_ge (a := p) (b := 24) (by omega) (by decide)), fun _ => ⟨fun c => absurd c (nI_pos (by omega)), fun _ => ⟨fun _ => ⟨vp_in_nI (by omega) (by omega), ?_⟩, fun c => absurd (nI_le (a := k) (b := 3) (by omega) (by decide)) c⟩⟩⟩⟩⟩
  rw [nI_clamp (by omega)]
  exact hq
