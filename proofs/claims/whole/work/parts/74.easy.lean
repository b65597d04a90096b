/-! THE MATHEMATICS, 5: more calls that need no counting. -/
theorem nI_of' {x : Int32} (h : 0 ≤ x.toInt) : ∃ j : Nat, j < 2 ^ 31 ∧ x = nI j := nI_of (by rw [lt_i, t_0]; omega)
theorem s_5 {a1 a2 a3 a4 : Int32} {Sx Sm : gS} (h : Inv Sx Sm) : qL_5 a1 a2 a3 a4 Sx Sm Inv := by
  obtain ⟨n, t, st, P, hr, hp, -, -⟩ := h.2.1
  have hm := m_rg h.1 hr
  have hr' := hr
  obtain ⟨e1, e2, e3, e4, b1, b2, b3, b4, b5, b6⟩ := hr'
  have cls : ∀ {Post : Int32 → gS → Prop}, (∀ p k, p < P → k < 4 → a1 = nI p → a2 = nI k → Post 0 (uB Sx 32 (0 : Int32).toNatClampNeg (gA Sx 10 (4 * p + k)).toInt64)) → (¬ isN P a1 → Post 1 Sx) → (isN P a1 → ¬ (0 ≤ a2.toInt ∧ a2.toInt ≤ 3) → Post 2 Sx) → pL_productionSymbol a1 a2 Sx Post := by
    intro Post h1 h0 h2
    unfold pL_productionSymbol pX8_productionSymbol pX8_checkProduction
    rw [e4]
    simp only [lt_i, le_i, t_0, t_3, nI_toInt (show P < 2 ^ 31 by omega)]
    refine ⟨fun c => Or.inl ⟨by simp, h0 (fun d => absurd d.1 (by omega))⟩, fun c => ⟨fun c1 => ⟨fun c2 => Or.inr ⟨by simp, h2 ⟨by omega, c1⟩ (by omega)⟩, fun c2 => ⟨fun c3 => ?_, fun c3 => Or.inr ⟨by simp, h2 ⟨by omega, c1⟩ (by omega)⟩⟩⟩, fun c1 => Or.inl ⟨by simp, h0 (fun d => absurd d.2 (by omega))⟩⟩⟩
    obtain ⟨p, hp1, ep⟩ := nI_of' (x := a1) (by omega)
    obtain ⟨k, hk1, ek⟩ := nI_of' (x := a2) (by omega)
    rw [ep, nI_toInt hp1] at c1
    rw [ek, nI_toInt hk1] at c3
    rw [ep, ek]
    exact c_sym (S := Sx) hr (p := p) (k := k) (by omega) (by omega) (h1 p k (by omega) (by omega) ep ek)
  have mod : ∀ {Post : Int32 → gS → Prop}, (isN P a1 → 0 ≤ a2.toInt → a2.toInt ≤ 3 → ∀ r, r = gA Sm (16 + a1.toNatClampNeg) a2.toNatClampNeg → Post r (uI (uI Sm 0 0) 0 0)) → (¬ isN P a1 → Post 0 (uI Sm 0 1)) → (isN P a1 → ¬ (0 ≤ a2.toInt ∧ a2.toInt ≤ 3) → Post 0 (uI (uI Sm 0 0) 0 2)) → pX9_productionSymbol a1 a2 Sm Post := by
    intro Post h1 h0 h2
    have j0 : isN P a1 → jX9_productionSymbol_15 a1 a2 Sm Post 0 := fun c => by
      unfold jX9_productionSymbol_15
      refine m_f0 ⟨fun c => absurd rfl c, fun _ => m_bt (fun c1 c2 => ⟨fun _ => m_f0 ⟨fun _ => ⟨in_i c.1 (by have := c.2; omega), in_i c1 (by rw [t_3] at c2; omega), ?_⟩, fun c => absurd rfl c⟩, fun c => absurd c (by decide)⟩) (fun c1 => ⟨fun c => absurd rfl c, fun _ => m_f1 ⟨fun c => absurd c (by decide), fun _ => h2 c c1⟩⟩)⟩
      exact h1 c c1 c2 _ rfl
    have j1 : ¬ isN P a1 → jX9_productionSymbol_15 a1 a2 Sm Post 1 := fun c => by
      unfold jX9_productionSymbol_15
      exact m_f1 ⟨fun _ => h0 c, fun c => absurd c (by decide)⟩
    unfold pX9_productionSymbol
    exact m_isP hm (fun c => ⟨fun _ => j0 c, fun c => absurd c (by decide)⟩) (fun c => ⟨fun c => absurd rfl c, fun _ => j1 c⟩)
  unfold qL_5
  refine cls (fun p k hp hk ep ek => mod (fun _ _ _ r er => fin rd0 h.thr.thr.out (fun _ => ?_)) (fun d => ?_) (fun _ d => ?_)) (fun c => mod (fun d => absurd d c) (fun _ => fin rd0 h.thr (fun c => absurd c (by decide))) (fun d => absurd d c)) (fun c c1 => mod (fun _ d1 d2 => absurd ⟨d1, d2⟩ c1) (fun d => absurd c d) (fun _ _ => fin rd0 h.thr.thr (fun c => absurd c (by decide))))
  · rw [out0, er, ep, ek, nI_clamp (by omega), nI_clamp (by omega), h.1.2.2.2.2.2.1 p k (by omega) (by omega)]
  · refine absurd ?_ d
    unfold isN
    rw [ep, nI_toInt (by omega)]
    omega
  · refine absurd ?_ d
    rw [ek, nI_toInt (by omega)]
    omega
theorem s_6 {a1 a2 a3 a4 : Int32} {Sx Sm : gS} (h : Inv Sx Sm) : qL_6 a1 a2 a3 a4 Sx Sm Inv := by
  obtain ⟨n, t, st, P, hr, hp, hcl, hcw⟩ := h.2.1
  have hm := m_rg h.1 hr
  have hr' := hr
  obtain ⟨e1, e2, e3, e4, b1, b2, b3, b4, b5, b6⟩ := hr'
  have mod : ∀ {Post : Int32 → gS → Prop}, (isN n a1 → Post (gI Sm 3) (uI (uI (uI Sm 0 0) 3 a1) 6 0)) → (¬ isN n a1 → Post 0 (uI Sm 0 1)) → pX9_setStart a1 Sm Post := by
    intro Post h1 h0
    unfold pX9_setStart
    refine m_isN hm (fun c => ⟨fun _ => ?_, fun c => absurd c (by decide)⟩) (fun c => ⟨fun c => absurd rfl c, fun _ => ?_⟩)
    · unfold jX9_setStart_15
      refine m_f0 ⟨fun _ => ?_, fun c => absurd rfl c⟩
      simp only [forall_eq]
      exact h1 c
    · unfold jX9_setStart_15
      exact m_f1 ⟨fun c => absurd c (by decide), fun _ => h0 c⟩
  have cls : ∀ {Post : Int32 → gS → Prop}, (isN n a1 → Post 0 (uB (uI (uI Sx 3 a1) 14 0) 32 (0 : Int32).toNatClampNeg (gI Sx 3).toInt64)) → (¬ isN n a1 → Post 1 Sx) → pL_setStart a1 Sx Post := by
    intro Post h1 h0
    unfold pL_setStart pX8_setStart pX8_checkNonterminal
    simp only [forall_eq]
    exact c_isN (S := Sx) hr (fun c => ⟨fun _ => h1 c, fun c => absurd c (by decide)⟩) (fun c => ⟨fun c => absurd rfl c, fun _ => ⟨by simp, h0 c⟩⟩)
  unfold qL_6
  refine cls (fun c => mod (fun _ => fin ?_ (Inv.out ?_) (fun _ => ?_)) (fun d => absurd c d)) (fun c => mod (fun d => absurd d c) (fun _ => fin rd0 h.thr (fun c => absurd c (by decide))))
  · simp [gI_uI]
  · obtain ⟨s, hs, es⟩ := nI_of' (x := a1) c.1
    have c2 := c.2
    rw [es, nI_toInt hs] at c2
    obtain ⟨g, gc, gw, gv, gl, gt⟩ := id h
    refine ⟨?_, ⟨n, t, s, P, ?_, ?_, ?_, ?_⟩, ?_, ?_, ?_, Or.inl ?_⟩
    · unfold eqG at g ⊢
      simp only [gI_uI, gA_uI]
      simp
      exact ⟨g.1, g.2.1, g.2.2.2.1, g.2.2.2.2.1, g.2.2.2.2.2.1, g.2.2.2.2.2.2⟩
    · simp only [gI_uI]
      simp
      exact ⟨e1, e2, es, e4, b1, b2, b3, b4, by omega, b6⟩
    · exact hp
    · simpa [gI_uI, gA_uI, gB_uI] using hcl
    · simpa [gI_uI, gA_uI, gB_uI] using hcw
    · simpa [gI_uI, gA_uI] using gw
    · unfold eqV at gv ⊢
      simp only [gI_uI, gA_uI]
      simpa using gv
    · exact gl
    · simp [gI_uI]
  · rw [out0, h.1.2.2.1]
theorem s_9 {a1 a2 a3 a4 : Int32} {Sx Sm : gS} (h : Inv Sx Sm) : qL_9 a1 a2 a3 a4 Sx Sm Inv := by
  obtain ⟨g, gc, gw, gv, gl, gt⟩ := id h
  unfold qL_9 pX8_clearWord pX9_clearWord
  simp only [forall_eq]
  refine finv ?_ ?_
  · rw [gI_uI, if_neg (by decide)]
    exact g.2.2.2.2.1.symm
  · refine ⟨?_, ?_, ⟨0, by omega, ?_, fun i hi => absurd hi (by omega)⟩, ?_, ?_, Or.inl ?_⟩
    · unfold eqG at g ⊢
      simp only [gI_uI, gA_uI]
      simp
      exact ⟨g.1, g.2.1, g.2.2.1, g.2.2.2.1, g.2.2.2.2.2.1, g.2.2.2.2.2.2⟩
    · unfold eqC at gc ⊢
      simpa [gI_uI, gA_uI, gB_uI] using gc
    · simp [gI_uI]
      rfl
    · unfold eqV at gv ⊢
      simp only [gI_uI, gA_uI]
      simpa using gv
    · exact gl
    · simp [gI_uI]
theorem s_8 {a1 a2 a3 a4 : Int32} {Sx Sm : gS} (h : Inv Sx Sm) : qL_8 a1 a2 a3 a4 Sx Sm Inv := by
  obtain ⟨n, t, st, P, hr, hp, hcl, hcw⟩ := h.2.1
  have hm := m_rg h.1 hr
  have hr' := hr
  obtain ⟨e1, e2, e3, e4, b1, b2, b3, b4, b5, b6⟩ := hr'
  obtain ⟨g, gc, ⟨z, z8, ez, hz⟩, gv, gl, gt⟩ := id h
  have ez' : gI Sm 5 = nI z := by rw [g.2.2.2.2.1, ez]
  have e2' : gI Sm 2 = nI t := by rw [g.2.1, e2]
  have mod : ∀ {Post : Int32 → gS → Prop}, (0 ≤ a1.toInt → a1.toInt < t → z < 8 → Post (nI (z + 1)) (uI (uI (uA (uI (uI Sm 0 0) 0 0) 2 z a1) 5 (nI (z + 1))) 6 0)) → (0 ≤ a1.toInt → a1.toInt < t → z = 8 → Post 0 (uI (uI Sm 0 0) 0 2)) → (¬ (0 ≤ a1.toInt ∧ a1.toInt < t) → Post 0 (uI Sm 0 1)) → pX9_append a1 Sm Post := by
    intro Post h1 h2 h0
    have e : (gI Sm 2 - 1).toInt = t - 1 := by rw [e2', sub_i] <;> rw [nI_toInt (by omega), t_1] <;> omega
    unfold pX9_append
    refine m_bt (fun c1 c2 => ⟨fun _ => ?_, fun c => absurd c (by decide)⟩) (fun c => ⟨fun c => absurd rfl c, fun _ => ?_⟩)
    · rw [e] at c2
      rw [t_0] at c1
      unfold jX9_append_21
      refine m_f0 ⟨fun c => absurd rfl c, fun _ => ⟨fun c3 => ?_, fun c3 => ?_⟩⟩
      · rw [gI_uI, if_neg (by decide), ez', i_8, nI_eq (by omega) (by omega)] at c3
        unfold jX9_append_43
        refine m_f0 ⟨fun _ => ⟨?_, ?_⟩, fun c => absurd rfl c⟩
        · simp only [gI_uI]
          simp
          rw [ez']
          exact vp_in_nI (by omega) (by omega)
        · simp only [forall_eq, gI_uI, gI_uA]
          simp only [show ((5 : Nat) = 0) = False by simp, show ((5 : Nat) = 6) = False by simp, if_false, if_true]
          rw [ez', i_1, nI_add, nI_clamp (by omega)]
          exact h1 c1 (by omega) (by omega)
      · rw [gI_uI, if_neg (by decide), ez', i_8, nI_eq (by omega) (by omega)] at c3
        unfold jX9_append_43
        exact m_f1 ⟨fun c => absurd c (by decide), fun _ => h2 c1 (by omega) c3⟩
    · unfold jX9_append_21
      exact m_f1 ⟨fun _ => h0 (by rw [e, t_0] at c; omega), fun c => absurd c (by decide)⟩
  have cls : ∀ {Post : Int32 → gS → Prop}, (0 ≤ a1.toInt → a1.toInt < t → z < 8 → Post 0 (uB (uI (uA (uI Sx 5 (nI (z + 1))) 13 z a1) 14 0) 32 (0 : Int32).toNatClampNeg (nI (z + 1)).toInt64)) → (0 ≤ a1.toInt → a1.toInt < t → z = 8 → Post 2 Sx) → (¬ (0 ≤ a1.toInt ∧ a1.toInt < t) → Post 1 Sx) → pL_append a1 Sx Post := by
    intro Post h1 h2 h0
    unfold pL_append pX8_append
    simp only [forall_eq]
    refine c_isTn (S := Sx) hr (fun c1 c2 => ⟨fun _ => ⟨fun c3 => ?_, fun c3 => Or.inr ⟨by simp, ?_⟩⟩, fun c => absurd c (by decide)⟩) (fun c => ⟨fun c => absurd rfl c, fun _ => Or.inl ⟨by simp, h0 c⟩⟩)
    · rw [ez, i_8, nI_ltI (by omega) (by omega)] at c3
      rw [gI_uI, if_pos rfl, ez, i_1, nI_add, nI_sub (by omega)]
      unfold pX6_put
      refine ⟨fun c => absurd c (nI_pos (by omega)), fun _ => ⟨fun c => absurd c (nI_ge (a := z + 1 - 1) (b := 8) (by omega) (by decide)), fun _ => ⟨vp_in_nI (by omega) (by omega), ?_⟩⟩⟩
      rw [nI_clamp (by omega), show z + 1 - 1 = z by omega]
      simp only [forall_eq, gI_uI, gI_uA]
      simp only [show ((5 : Nat) = 14) = False by simp, if_false, if_true]
      exact h1 c1 c2 c3
    · rw [ez, i_8, nI_ltI (by omega) (by omega)] at c3
      exact h2 c1 c2 (by omega)
  unfold qL_8
  refine cls (fun c1 c2 c3 => mod (fun _ _ _ => fin ?_ (Inv.out ?_) (fun _ => ?_)) (fun _ _ d => absurd d (by omega)) (fun d => absurd ⟨c1, c2⟩ d)) (fun c1 c2 c3 => mod (fun _ _ d => absurd d (by omega)) (fun _ _ _ => fin rd0 h.thr.thr (fun c => absurd c (by decide))) (fun d => absurd ⟨c1, c2⟩ d)) (fun c => mod (fun d1 d2 => absurd ⟨d1, d2⟩ c) (fun d1 d2 => absurd ⟨d1, d2⟩ c) (fun _ => fin rd0 h.thr (fun c => absurd c (by decide))))
  · simp [gI_uI, gI_uA]
  · refine ⟨?_, ?_, ⟨z + 1, by omega, ?_, fun i hi => ?_⟩, ?_, ?_, Or.inl ?_⟩
    · unfold eqG at g ⊢
      simp only [gI_uI, gA_uI, gI_uA, gA_uA]
      simp
      refine ⟨g.1, g.2.1, g.2.2.1, g.2.2.2.1, fun p k hp hk => ?_, fun i hi => ?_⟩
      · rw [if_neg (by omega)]
        exact g.2.2.2.2.2.1 p k hp hk
      · simp only [upd_at]
        rw [g.2.2.2.2.2.2 i hi]
    · unfold eqC at gc ⊢
      simpa [gI_uI, gA_uI, gB_uI, gI_uA, gA_uA, gB_uA] using gc
    · simp [gI_uI, gI_uA]
    · simp only [gI_uI, gA_uI, gI_uA, gA_uA]
      simp [upd_at]
      by_cases hi2 : i = z
      · rw [if_pos hi2, e2, nI_toInt (by omega)]
        exact ⟨c1, c2⟩
      · rw [if_neg hi2]
        exact hz i (by omega)
    · unfold eqV at gv ⊢
      simp only [gI_uI, gA_uI, gI_uA, gA_uA]
      simp
      refine ⟨gv.1, gv.2.imp id (fun w => ⟨w.1, w.2.1, w.2.2.1, w.2.2.2.1, w.2.2.2.2.1, w.2.2.2.2.2.1, w.2.2.2.2.2.2.1, w.2.2.2.2.2.2.2.1, fun p k hp hk => ?_, w.2.2.2.2.2.2.2.2.2⟩)⟩
      rw [if_neg (by omega)]
      exact w.2.2.2.2.2.2.2.2.1 p k hp hk
    · unfold eqL at gl ⊢
      simp only [gI_uI, gA_uI, gI_uA, gA_uA]
      simp
      intro s hs
      rw [if_neg (by omega)]
      exact gl s hs
    · simp [gI_uI, gI_uA]
  · rw [out0]
theorem s_11 {a1 a2 a3 a4 : Int32} {Sx Sm : gS} (h : Inv Sx Sm) : qL_11 a1 a2 a3 a4 Sx Sm Inv := by
  obtain ⟨g, gc, ⟨z, z8, ez, hz⟩, gv, gl, gt⟩ := id h
  have ez' : gI Sm 5 = nI z := by rw [g.2.2.2.2.1, ez]
  have mod : ∀ {Post : Int32 → gS → Prop}, (0 ≤ a1.toInt → a1.toInt < z → Post (gA Sm 2 a1.toNatClampNeg) (uI Sm 0 0)) → (¬ (0 ≤ a1.toInt ∧ a1.toInt < z) → Post 0 (uI Sm 0 1)) → pX9_terminalAt a1 Sm Post := by
    intro Post h1 h0
    have e : (gI Sm 5 - 1).toInt = z - 1 := by rw [ez', sub_i] <;> rw [nI_toInt (by omega), t_1] <;> omega
    unfold pX9_terminalAt
    refine m_bt (fun c1 c2 => ⟨fun _ => m_f0 ⟨fun _ => ⟨?_, ?_⟩, fun c => absurd rfl c⟩, fun c => absurd c (by decide)⟩) (fun c => ⟨fun c => absurd rfl c, fun _ => m_f1 ⟨fun c => absurd c (by decide), fun _ => h0 ?_⟩⟩)
    · rw [e] at c2
      exact in_i c1 (by omega)
    · rw [e] at c2
      exact h1 c1 (by omega)
    · rw [e, t_0] at c
      omega
  have cls : ∀ {Post : Int32 → gS → Prop}, (0 ≤ a1.toInt → a1.toInt < z → Post 0 (uB Sx 32 (0 : Int32).toNatClampNeg (gA Sx 13 a1.toNatClampNeg).toInt64)) → (¬ (0 ≤ a1.toInt ∧ a1.toInt < z) → Post 1 Sx) → pL_terminalAt a1 Sx Post := by
    intro Post h1 h0
    unfold pL_terminalAt pX8_terminalAt pX6_letter
    rw [ez]
    simp only [lt_i, le_i, t_0, t_8, nI_toInt (show z < 2 ^ 31 by omega)]
    exact ⟨fun c => ⟨by simp, h0 (by omega)⟩, fun c => ⟨fun c1 => ⟨fun d => absurd d c, fun _ => ⟨fun d => absurd d (by omega), fun _ => ⟨in_i (by omega) (by omega), h1 (by omega) c1⟩⟩⟩, fun c1 => ⟨by simp, h0 (by omega)⟩⟩⟩
  unfold qL_11
  refine cls (fun c c1 => mod (fun _ _ => fin rd0 h.thr.out (fun _ => ?_)) (fun d => absurd ⟨c, c1⟩ d)) (fun c => mod (fun d1 d2 => absurd ⟨d1, d2⟩ c) (fun _ => fin rd0 h.thr (fun c => absurd c (by decide))))
  obtain ⟨k, hk1, ek⟩ := nI_of' (x := a1) (by omega)
  rw [ek, nI_toInt hk1] at c1
  rw [out0, ek, nI_clamp hk1, g.2.2.2.2.2.2 k (by omega)]
