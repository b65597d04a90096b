/-! THE MATHEMATICS, 4: the calls that need no counting. -/
theorem m_bt {S : gS} {x a b : Int32} {Post : Int32 → Prop} (h1 : a.toInt ≤ x.toInt → x.toInt ≤ b.toInt → Post 1) (h0 : ¬ (a.toInt ≤ x.toInt ∧ x.toInt ≤ b.toInt) → Post 0) : pX9_isBetween x a b S Post := by
  unfold pX9_isBetween
  simp only [lt_i]
  exact ⟨fun c => h0 (by omega), fun c => ⟨fun c => h0 (by omega), fun c => h1 (by omega) (by omega)⟩⟩
theorem m_f0 {S : gS} {k : Int32} {Post : Int32 → gS → Prop} (h : Post 0 (uI S 0 0)) : pX9_fails k 0 S Post := by
  unfold pX9_fails
  refine ⟨fun _ S2 e => ?_, fun c => absurd rfl c⟩
  subst e
  exact ⟨rfl, h⟩
theorem m_f1 {S : gS} {k : Int32} {Post : Int32 → gS → Prop} (h : Post 1 (uI S 0 k)) : pX9_fails k 1 S Post := by
  unfold pX9_fails
  refine ⟨fun c => absurd c (by decide), fun _ S2 e => ?_⟩
  subst e
  exact ⟨rfl, h⟩
theorem fin {r k : Int32} {x y : Int64} {Post : Prop} (hr : r = k) (h : Post) (e : k = 0 → x = y) : (r = k → ((¬ k = 0 → Post) ∧ (k = 0 → ((lg_cmp x y = 0 → Post) ∧ (¬ lg_cmp x y = 0 → False))))) ∧ (¬ r = k → False) :=
  ⟨fun _ => ⟨fun _ => h, fun c => ⟨fun _ => h, fun d => d (by rw [e c]; exact cmp_self y)⟩⟩, fun c => c hr⟩
theorem finv {r k : Int32} {Post : Prop} (hr : r = k) (h : Post) : (r = k → Post) ∧ (¬ r = k → False) := ⟨fun _ => h, fun c => c hr⟩
theorem rd0 {S : gS} {v : Int32} : gI (uI S 0 v) 0 = v := by rw [gI_uI, if_pos rfl]
theorem out0 {S : gS} {v : Int64} : gB (uB S 32 (0 : Int32).toNatClampNeg v) 32 0 = v := by rw [gB_uB, if_pos rfl]; rfl
/-- the model's grammar is the class's -/
theorem m_rg {Sx Sm : gS} (h : eqG Sx Sm) {n t st P : Nat} (hr : rgG (gI Sx 1) (gI Sx 2) (gI Sx 3) (gI Sx 4) n t st P) : rgG (gI Sm 1) (gI Sm 2) (gI Sm 3) (gI Sm 4) n t st P := by
  obtain ⟨e1, e2, e3, e4, -⟩ := h
  rw [e1, e2, e3, e4]
  exact hr
theorem m_isN {S : gS} {n t st P : Nat} (h : rgG (gI S 1) (gI S 2) (gI S 3) (gI S 4) n t st P) {x : Int32} {Post : Int32 → Prop} (h1 : isN n x → Post 1) (h0 : ¬ isN n x → Post 0) : pX9_isNonterminal x S Post := by
  obtain ⟨e1, e2, e3, e4, b1, b2, b3, b4, b5, b6⟩ := h
  unfold pX9_isNonterminal
  have e : (gI S 1 - 1).toInt = n - 1 := by rw [e1, sub_i] <;> rw [nI_toInt (by omega), t_1] <;> omega
  unfold isN at h1 h0
  refine m_bt (fun c1 c2 => ⟨rfl, h1 ?_⟩) (fun c => ⟨rfl, h0 ?_⟩) <;> rw [e, t_0] at * <;> omega
theorem m_isT {S : gS} {n t st P : Nat} (h : rgG (gI S 1) (gI S 2) (gI S 3) (gI S 4) n t st P) {x : Int32} {Post : Int32 → Prop} (h1 : isT t x → Post 1) (h0 : ¬ isT t x → Post 0) : pX9_isTerminal x S Post := by
  obtain ⟨e1, e2, e3, e4, b1, b2, b3, b4, b5, b6⟩ := h
  unfold pX9_isTerminal
  have e : (10 + gI S 2 - 1).toInt = 10 + t - 1 := by
    rw [e2, show (10 : Int32) + nI t - 1 = nI (9 + t) by rw [i_10, i_1, nI_add, nI_sub (by omega)]; congr 1; omega, nI_toInt (by omega)]
    omega
  unfold isT at h1 h0
  refine m_bt (fun c1 c2 => ⟨rfl, h1 ?_⟩) (fun c => ⟨rfl, h0 ?_⟩) <;> rw [e, t_10] at * <;> omega
theorem m_isP {S : gS} {n t st P : Nat} (h : rgG (gI S 1) (gI S 2) (gI S 3) (gI S 4) n t st P) {x : Int32} {Post : Int32 → Prop} (h1 : isN P x → Post 1) (h0 : ¬ isN P x → Post 0) : pX9_isProduction x S Post := by
  obtain ⟨e1, e2, e3, e4, b1, b2, b3, b4, b5, b6⟩ := h
  unfold pX9_isProduction
  have e : (gI S 4 - 1).toInt = P - 1 := by rw [e4, sub_i] <;> rw [nI_toInt (by omega), t_1] <;> omega
  unfold isN at h1 h0
  refine m_bt (fun c1 c2 => ⟨rfl, h1 ?_⟩) (fun c => ⟨rfl, h0 ?_⟩) <;> rw [e, t_0] at * <;> omega
theorem m_isS {S : gS} {n t st P : Nat} (h : rgG (gI S 1) (gI S 2) (gI S 3) (gI S 4) n t st P) {x : Int32} {Post : Int32 → Prop} (h1 : isS n t x → Post 1) (h0 : ¬ isS n t x → Post 0) : pX9_isSymbol x S Post := by
  unfold pX9_isSymbol
  refine m_isN h (fun c => ⟨fun _ => h1 (Or.inl c), fun c => absurd c (by decide)⟩) (fun c => ⟨fun c => absurd rfl c, fun _ => m_isT h (fun d => ⟨fun c => absurd c (by decide), fun _ => h1 (Or.inr d)⟩) (fun d => ⟨fun _ => h0 (fun e => e.elim c d), fun c => absurd rfl c⟩)⟩)
theorem c_forget {S : gS} {Post : gS → Prop} (h : Post (uI (uI (uI S 11 0) 13 0) 14 0)) : pX8_forgetGrammar S Post := by
  unfold pX8_forgetGrammar pX0_forget_5 pX7_forget
  simp only [forall_eq]
  exact h
/-- a grammar with other productions: caches and tree are forgotten -/
theorem Inv.gram {Sx Sm Tx Tm : gS} (h : Inv Sx Sm) (hg : eqG Tx Tm) {n t st P : Nat} (hr : rgG (gI Tx 1) (gI Tx 2) (gI Tx 3) (gI Tx 4) n t st P) (hp : okP n t P (gA Tx 10)) (hw : vW (gI Tx 2) (gI Tx 5) (gA Tx 13))
    (h11 : gI Tx 11 = 0) (h13 : gI Tx 13 = 0) (h20 : gB Tx 20 = gB Sx 20) (hv : eqV Tx Tm) (hl : eqL Tx Tm) (h14 : gI Tx 14 = 0) (h6 : gI Tm 6 = 0) : Inv Tx Tm := by
  obtain ⟨n0, t0, st0, P0, -, -, -, -, hc, hc2⟩ := h.2.1
  exact ⟨hg, ⟨n, t, st, P, hr, hp, ⟨0, by omega, h11, fun len a g1 g2 => by omega⟩, ⟨⟨0, by omega, h13, fun len a key g1 g2 => by omega⟩, by rw [h20]; exact hc, by rw [h20]; exact hc2⟩⟩, hw, hv, hl, Or.inl ⟨h14, h6⟩⟩
theorem s_0 {a1 a2 a3 a4 : Int32} {Sx Sm : gS} (h : Inv Sx Sm) : qL_0 a1 a2 a3 a4 Sx Sm Inv := by
  have cls : ∀ {Post : Int32 → gS → Prop}, (1 ≤ a1.toInt → a1.toInt ≤ 6 → 1 ≤ a2.toInt → a2.toInt ≤ 3 → Post 0 (uI (uI (uI (uI (uI (uI (uI (uI Sx 1 a1) 2 a2) 3 0) 4 0) 5 0) 11 0) 13 0) 14 0)) → (¬ (1 ≤ a1.toInt ∧ a1.toInt ≤ 6 ∧ 1 ≤ a2.toInt ∧ a2.toInt ≤ 3) → Post 1 Sx) → pL_reset a1 a2 Sx Post := by
    intro Post h1 h0
    unfold pL_reset pX8_reset pX1_begin
    simp only [lt_i, le_i, t_1, t_6, t_3, forall_eq]
    refine ⟨fun c => ⟨by simp, h0 (by omega)⟩, fun c => ⟨fun c1 => ⟨fun c2 => ⟨by simp, h0 (by omega)⟩, fun c2 => ⟨fun c3 => c_forget (h1 (by omega) (by omega) (by omega) (by omega)), fun c3 => ⟨by simp, h0 (by omega)⟩⟩⟩, fun c1 => ⟨by simp, h0 (by omega)⟩⟩⟩
  have mod : ∀ {Post : gS → Prop}, (1 ≤ a1.toInt → a1.toInt ≤ 6 → 1 ≤ a2.toInt → a2.toInt ≤ 3 → Post (uI (uI (uI (uI (uI (uI (uI Sm 0 0) 1 a1) 2 a2) 3 0) 4 0) 5 0) 6 0)) → (¬ (1 ≤ a1.toInt ∧ a1.toInt ≤ 6 ∧ 1 ≤ a2.toInt ∧ a2.toInt ≤ 3) → Post (uI Sm 0 1)) → pX9_reset a1 a2 Sm Post := by
    intro Post h1 h0
    have j1 : ¬ (1 ≤ a1.toInt ∧ a1.toInt ≤ 6 ∧ 1 ≤ a2.toInt ∧ a2.toInt ≤ 3) → jX9_reset_26 a1 a2 Sm Post 1 := fun c => by
      unfold jX9_reset_26
      exact m_f1 ⟨fun c => absurd c (by decide), fun _ => h0 c⟩
    have j0 : 1 ≤ a1.toInt → a1.toInt ≤ 6 → 1 ≤ a2.toInt → a2.toInt ≤ 3 → jX9_reset_26 a1 a2 Sm Post 0 := fun c1 c2 c3 c4 => by
      unfold jX9_reset_26
      refine m_f0 ⟨fun _ => ?_, fun c => absurd rfl c⟩
      simp only [forall_eq]
      exact h1 c1 c2 c3 c4
    unfold pX9_reset
    refine m_bt (fun c1 c2 => ⟨fun c => absurd c (by decide), fun _ => m_bt (fun c3 c4 => ⟨fun _ => j0 c1 c2 c3 c4, fun c => absurd c (by decide)⟩) (fun c3 => ⟨fun c => absurd rfl c, fun _ => j1 (fun d => c3 ⟨d.2.2.1, d.2.2.2⟩)⟩)⟩) (fun c => ⟨fun _ => j1 (fun d => c ⟨d.1, d.2.1⟩), fun c => absurd rfl c⟩)
  unfold qL_0
  refine cls (fun c1 c2 c3 c4 => mod (fun _ _ _ _ => finv ?_ ?_) (fun d => absurd ⟨c1, c2, c3, c4⟩ d)) (fun d => mod (fun c1 c2 c3 c4 => absurd ⟨c1, c2, c3, c4⟩ d) (fun _ => finv rd0 h.thr))
  · simp [gI_uI]
  · obtain ⟨n, hn, en⟩ := nI_of (x := a1) (by rw [lt_i, t_0]; omega)
    obtain ⟨t, ht, et⟩ := nI_of (x := a2) (by rw [lt_i, t_0]; omega)
    rw [en, nI_toInt hn] at c1 c2
    rw [et, nI_toInt ht] at c3 c4
    obtain ⟨g, gc, gw, gv, gl, gt⟩ := id h
    refine h.gram (n := n) (t := t) (st := 0) (P := 0) ?_ ?_ ⟨fun p hp => absurd hp (by omega), fun p q hp => absurd hp (by omega)⟩ ?_ ?_ ?_ ?_ ?_ ?_ ?_ ?_
    · unfold eqG at g ⊢
      simp only [gI_uI, gA_uI]
      simp
      exact ⟨g.2.2.2.2.2.1, g.2.2.2.2.2.2⟩
    · simp only [gI_uI]
      simp
      exact ⟨en, et, rfl, rfl, by omega, by omega, by omega, by omega, by omega, by omega⟩
    · simp only [gI_uI, gA_uI]
      simp
      exact ⟨0, by omega, rfl, fun i hi => absurd hi (by omega)⟩
    · simp [gI_uI]
    · simp [gI_uI]
    · rfl
    · unfold eqV at gv ⊢
      simp only [gI_uI, gA_uI]
      simpa using gv
    · unfold eqL at gl ⊢
      simp only [gA_uI]
      exact gl
    · simp [gI_uI]
    · simp [gI_uI]
theorem s_4 {a1 a2 a3 a4 : Int32} {Sx Sm : gS} (h : Inv Sx Sm) : qL_4 a1 a2 a3 a4 Sx Sm Inv := by
  unfold qL_4 pX8_productionCount pX9_productionCount
  simp only [forall_eq]
  refine finv ?_ h.thr
  rw [gI_uI, if_neg (by decide)]
  exact h.1.2.2.2.1.symm
theorem s_10 {a1 a2 a3 a4 : Int32} {Sx Sm : gS} (h : Inv Sx Sm) : qL_10 a1 a2 a3 a4 Sx Sm Inv := by
  unfold qL_10 pX8_wordLength pX9_wordLength
  simp only [forall_eq]
  refine finv ?_ h.thr
  rw [gI_uI, if_neg (by decide)]
  exact h.1.2.2.2.2.1.symm
