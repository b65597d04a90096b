/-! THE MATHEMATICS, 6: what the invariant doesn't look at; reading the tree; copies. -/
def mS (S T : gS) : Prop := (∀ f, 1 ≤ f → f ≠ 7 → f ≠ 8 → gI T f = gI S f) ∧ ∀ a, a ≠ 3 → a ≠ 4 → a ≠ 6 → gA T a = gA S a
def cS (S T : gS) : Prop := (∀ f, f ≠ 12 → gI T f = gI S f) ∧ gJ T = gJ S ∧ (∀ a, a ≠ 11 → a ≠ 12 → a ≠ 24 → a ≠ 25 → a ≠ 26 → gA T a = gA S a) ∧ gB T 18 = gB S 18 ∧ gB T 20 = gB S 20
theorem mS.rfl {S : gS} : mS S S := ⟨fun _ _ _ _ => Eq.refl _, fun _ _ _ _ => Eq.refl _⟩
theorem mS.trans {S T U : gS} (h1 : mS S T) (h2 : mS T U) : mS S U := ⟨fun f a b c => (h2.1 f a b c).trans (h1.1 f a b c), fun f a b c => (h2.2 f a b c).trans (h1.2 f a b c)⟩
theorem cS.rfl {S : gS} : cS S S := ⟨fun _ _ => Eq.refl _, Eq.refl _, fun _ _ _ _ _ _ => Eq.refl _, Eq.refl _, Eq.refl _⟩
theorem cS.trans {S T U : gS} (h1 : cS S T) (h2 : cS T U) : cS S U := ⟨fun f a => (h2.1 f a).trans (h1.1 f a), h2.2.1.trans h1.2.1, fun f a b c d e => (h2.2.2.1 f a b c d e).trans (h1.2.2.1 f a b c d e), h2.2.2.2.1.trans h1.2.2.2.1, h2.2.2.2.2.trans h1.2.2.2.2⟩
theorem Inv.mod {Sx Sm T : gS} (h : Inv Sx Sm) (hs : mS Sm T) : Inv Sx T := by
  obtain ⟨g, gc, gw, gv, gl, gt⟩ := h
  obtain ⟨h1, h2⟩ := hs
  refine ⟨?_, gc, gw, ?_, ?_, ?_⟩
  · unfold eqG at g ⊢
    rw [h1 1 (by omega) (by omega) (by omega), h1 2 (by omega) (by omega) (by omega), h1 3 (by omega) (by omega) (by omega), h1 4 (by omega) (by omega) (by omega), h1 5 (by omega) (by omega) (by omega), h2 2 (by omega) (by omega) (by omega)]
    exact ⟨g.1, g.2.1, g.2.2.1, g.2.2.2.1, g.2.2.2.2.1, fun p k hp hk => by rw [h2 _ (by omega) (by omega) (by omega)]; exact g.2.2.2.2.2.1 p k hp hk, g.2.2.2.2.2.2⟩
  · unfold eqV at gv ⊢
    rw [h1 9 (by omega) (by omega) (by omega), h1 10 (by omega) (by omega) (by omega), h1 11 (by omega) (by omega) (by omega), h1 12 (by omega) (by omega) (by omega), h1 13 (by omega) (by omega) (by omega), h1 14 (by omega) (by omega) (by omega), h2 15 (by omega) (by omega) (by omega)]
    refine ⟨gv.1, gv.2.imp id (fun w => ⟨w.1, w.2.1, w.2.2.1, w.2.2.2.1, w.2.2.2.2.1, w.2.2.2.2.2.1, w.2.2.2.2.2.2.1, w.2.2.2.2.2.2.2.1, fun p k hp hk => ?_, w.2.2.2.2.2.2.2.2.2⟩)⟩
    rw [h2 _ (by omega) (by omega) (by omega)]
    exact w.2.2.2.2.2.2.2.2.1 p k hp hk
  · unfold eqL at gl ⊢
    intro s hs
    rw [h2 11 (by omega) (by omega) (by omega), h2 12 (by omega) (by omega) (by omega), h2 _ (by omega) (by omega) (by omega)]
    exact gl s hs
  · unfold eqT at gt ⊢
    rw [h1 6 (by omega) (by omega) (by omega), h2 8 (by omega) (by omega) (by omega), h2 9 (by omega) (by omega) (by omega), h2 10 (by omega) (by omega) (by omega)]
    exact gt
theorem Inv.cls {Sx Sm T : gS} (h : Inv Sx Sm) (hs : cS Sx T) : Inv T Sm := by
  obtain ⟨h1, h2, h3, h4, h5⟩ := hs
  unfold Inv eqG eqC eqV eqL eqT at h ⊢
  rw [h1 0 (by omega), h1 1 (by omega), h1 2 (by omega), h1 3 (by omega), h1 4 (by omega), h1 5 (by omega), h1 6 (by omega), h1 7 (by omega), h1 8 (by omega), h1 9 (by omega), h1 10 (by omega), h1 11 (by omega), h1 13 (by omega), h1 14 (by omega), h1 15 (by omega), h2, h4, h5,
    h3 10 (by omega) (by omega) (by omega) (by omega) (by omega), h3 13 (by omega) (by omega) (by omega) (by omega) (by omega), h3 14 (by omega) (by omega) (by omega) (by omega) (by omega), h3 17 (by omega) (by omega) (by omega) (by omega) (by omega), h3 21 (by omega) (by omega) (by omega) (by omega) (by omega), h3 22 (by omega) (by omega) (by omega) (by omega) (by omega), h3 23 (by omega) (by omega) (by omega) (by omega) (by omega), h3 28 (by omega) (by omega) (by omega) (by omega) (by omega), h3 29 (by omega) (by omega) (by omega) (by omega) (by omega), h3 30 (by omega) (by omega) (by omega) (by omega) (by omega), h3 31 (by omega) (by omega) (by omega) (by omega) (by omega)]
  exact h
theorem s_24 {a1 a2 a3 a4 : Int32} {Sx Sm : gS} (h : Inv Sx Sm) : qL_24 a1 a2 a3 a4 Sx Sm Inv := by
  obtain ⟨g, gc, gw, gv, gl, gt⟩ := id h
  unfold qL_24 pL_treeSize pX8_treeSize pX8_checkTree pX9_treeSize
  rcases gt with ⟨t1, t2⟩ | ⟨t1, z, P, w, st, r, z1, z2, ez, em, -⟩
  · refine ⟨fun c => absurd t1 c, fun _ => ⟨rfl, ⟨fun c => absurd t2 c, fun _ => m_f1 ⟨fun c => absurd c (by decide), fun _ => fin rd0 h.thr (fun c => absurd c (by decide))⟩⟩⟩⟩
  · refine ⟨fun _ => ⟨fun _ => m_f0 ⟨fun _ => fin rd0 h.thr.out (fun _ => ?_), fun c => absurd rfl c⟩, fun c => ?_⟩, fun c => ?_⟩
    · rw [out0, gI_uI, if_neg (by decide), ez, em]
    · rw [em] at c
      exact absurd c (nI_ne0 (by omega) (by omega))
    · rw [t1] at c
      exact absurd c (by decide)
theorem s_25 {a1 a2 a3 a4 : Int32} {Sx Sm : gS} (h : Inv Sx Sm) : qL_25 a1 a2 a3 a4 Sx Sm Inv := by
  obtain ⟨g, gc, gw, gv, gl, gt⟩ := id h
  unfold qL_25
  rcases gt with ⟨t1, t2⟩ | ⟨t1, z, P, w, st, r, z1, z2, ez, em, hn, -⟩
  · unfold pL_treeNode pX8_treeNode pX8_checkTree pX9_treeNode jX9_treeNode_14
    exact ⟨fun c => absurd t1 c, fun _ => Or.inl ⟨rfl, ⟨fun c => absurd t2 c, fun _ => m_f1 ⟨fun _ => fin rd0 h.thr (fun c => absurd c (by decide)), fun c => absurd c (by decide)⟩⟩⟩⟩
  · have cls : ∀ {Post : Int32 → gS → Prop}, (0 ≤ a1.toInt → a1.toInt < z → a2 = 0 → Post 0 (uB Sx 32 (0 : Int32).toNatClampNeg (gA Sx 21 a1.toNatClampNeg).toInt64)) → (0 ≤ a1.toInt → a1.toInt < z → a2 = 1 → Post 0 (uB Sx 32 (0 : Int32).toNatClampNeg (gA Sx 22 a1.toNatClampNeg).toInt64)) → (0 ≤ a1.toInt → a1.toInt < z → a2 = 2 → Post 0 (uB Sx 32 (0 : Int32).toNatClampNeg (gA Sx 23 a1.toNatClampNeg).toInt64)) →
        (¬ (0 ≤ a1.toInt ∧ a1.toInt < z) → Post 2 Sx) → (0 ≤ a1.toInt → a1.toInt < z → ¬ a2 = 0 → ¬ a2 = 1 → ¬ a2 = 2 → Post 3 Sx) → pL_treeNode a1 a2 Sx Post := by
      intro Post h0 h1 h2 h3 h4
      unfold pL_treeNode pX8_treeNode pX8_checkTree
      rw [ez, t1]
      simp only [lt_i, t_0, nI_toInt (show z < 2 ^ 31 by omega)]
      exact ⟨fun _ => ⟨fun c => Or.inr (Or.inl ⟨by simp, h3 (by omega)⟩), fun c => ⟨fun c1 => ⟨fun c2 => ⟨in_i (by omega) (by omega), h0 (by omega) c1 c2⟩, fun c2 => ⟨fun c3 => ⟨in_i (by omega) (by omega), h1 (by omega) c1 c3⟩, fun c3 => ⟨fun c4 => ⟨in_i (by omega) (by omega), h2 (by omega) c1 c4⟩, fun c4 => Or.inr (Or.inr ⟨by simp, h4 (by omega) c1 c2 c3 c4⟩)⟩⟩⟩, fun c1 => Or.inr (Or.inl ⟨by simp, h3 (by omega)⟩)⟩⟩, fun c => absurd c (by decide)⟩
    have e : (gI (uI Sm 0 0) 6 - 1).toInt = z - 1 := by rw [gI_uI, if_neg (by decide), em, sub_i] <;> rw [nI_toInt (by omega), t_1] <;> omega
    have mod : ∀ {Post : Int32 → gS → Prop}, (0 ≤ a1.toInt → a1.toInt < z → a2 = 0 → Post (gA Sm 8 a1.toNatClampNeg) (uI (uI (uI Sm 0 0) 0 0) 0 0)) → (0 ≤ a1.toInt → a1.toInt < z → a2 = 1 → Post (gA Sm 9 a1.toNatClampNeg) (uI (uI (uI Sm 0 0) 0 0) 0 0)) → (0 ≤ a1.toInt → a1.toInt < z → a2 = 2 → Post (gA Sm 10 a1.toNatClampNeg) (uI (uI (uI Sm 0 0) 0 0) 0 0)) →
        (¬ (0 ≤ a1.toInt ∧ a1.toInt < z) → Post 0 (uI (uI Sm 0 0) 0 2)) → (0 ≤ a1.toInt → a1.toInt < z → ¬ a2 = 0 → ¬ a2 = 1 → ¬ a2 = 2 → Post 0 (uI (uI (uI Sm 0 0) 0 0) 0 3)) → pX9_treeNode a1 a2 Sm Post := by
      intro Post h0 h1 h2 h3 h4
      unfold pX9_treeNode jX9_treeNode_14
      refine ⟨fun _ => m_f0 ⟨fun c => absurd rfl c, fun _ => m_bt (fun c1 c2 => ⟨fun _ => ?_, fun c => absurd c (by decide)⟩) (fun c => ⟨fun c => absurd rfl c, fun _ => ?_⟩)⟩, fun c => ?_⟩
      · rw [e] at c2
        rw [t_0] at c1
        unfold jX9_treeNode_41
        refine m_f0 ⟨fun c => absurd rfl c, fun _ => m_bt (fun c3 c4 => ⟨fun _ => ?_, fun c => absurd c (by decide)⟩) (fun c3 => ⟨fun c => absurd rfl c, fun _ => ?_⟩)⟩
        · unfold jX9_treeNode_63
          refine m_f0 ⟨fun _ => ⟨fun d1 => ⟨fun d2 => ⟨in_i c1 (by omega), h2 c1 (by omega) ?_⟩, fun d2 => ⟨in_i c1 (by omega), h1 c1 (by omega) d2⟩⟩, fun d1 => ⟨in_i c1 (by omega), h0 c1 (by omega) d1⟩⟩, fun c => absurd rfl c⟩
          rw [eq_i, t_0] at d1
          rw [eq_i, t_1] at d2
          rw [t_0] at c3
          rw [t_2] at c4
          rw [eq_i, t_2]
          omega
        · unfold jX9_treeNode_63
          refine m_f1 ⟨fun c => absurd c (by decide), fun _ => h4 c1 (by omega) (fun d => c3 ?_) (fun d => c3 ?_) (fun d => c3 ?_)⟩ <;> rw [d] <;> decide
      · unfold jX9_treeNode_41
        rw [e, t_0] at c
        exact m_f1 ⟨fun _ => h3 (by omega), fun c => absurd c (by decide)⟩
      · rw [em] at c
        exact absurd c (nI_ne0 (by omega) (by omega))
    have nd : 0 ≤ a1.toInt → a1.toInt < z → ∃ i, i < z ∧ a1.toNatClampNeg = i := fun c1 c2 => by
      obtain ⟨k, hk1, ek⟩ := nI_of' (x := a1) c1
      rw [ek, nI_toInt hk1] at c2
      exact ⟨k, by omega, by rw [ek, nI_clamp hk1]⟩
    refine cls (fun c1 c2 c3 => mod (fun _ _ _ => fin rd0 h.thr.thr.thr.out (fun _ => ?_)) (fun _ _ d => absurd (c3.symm.trans d) (by decide)) (fun _ _ d => absurd (c3.symm.trans d) (by decide)) (fun d => absurd ⟨c1, c2⟩ d) (fun _ _ d => absurd c3 d))
      (fun c1 c2 c3 => mod (fun _ _ d => absurd (c3.symm.trans d) (by decide)) (fun _ _ _ => fin rd0 h.thr.thr.thr.out (fun _ => ?_)) (fun _ _ d => absurd (c3.symm.trans d) (by decide)) (fun d => absurd ⟨c1, c2⟩ d) (fun _ _ _ d => absurd c3 d))
      (fun c1 c2 c3 => mod (fun _ _ d => absurd (c3.symm.trans d) (by decide)) (fun _ _ d => absurd (c3.symm.trans d) (by decide)) (fun _ _ _ => fin rd0 h.thr.thr.thr.out (fun _ => ?_)) (fun d => absurd ⟨c1, c2⟩ d) (fun _ _ _ _ d => absurd c3 d))
      (fun c => mod (fun d1 d2 => absurd ⟨d1, d2⟩ c) (fun d1 d2 => absurd ⟨d1, d2⟩ c) (fun d1 d2 => absurd ⟨d1, d2⟩ c) (fun _ => fin rd0 h.thr.thr (fun c => absurd c (by decide))) (fun d1 d2 => absurd ⟨d1, d2⟩ c))
      (fun c1 c2 c3 c4 c5 => mod (fun _ _ d => absurd d c3) (fun _ _ d => absurd d c4) (fun _ _ d => absurd d c5) (fun d => absurd ⟨c1, c2⟩ d) (fun _ _ _ _ _ => fin rd0 h.thr.thr.thr (fun c => absurd c (by decide))))
    · obtain ⟨i, hi, ei⟩ := nd c1 c2
      rw [out0, ei, (hn i hi).1]
    · obtain ⟨i, hi, ei⟩ := nd c1 c2
      rw [out0, ei, (hn i hi).2.1]
    · obtain ⟨i, hi, ei⟩ := nd c1 c2
      rw [out0, ei, (hn i hi).2.2]
/-- an array copied into another, place by place -/
def cpy (N : Nat) (F G : Nat → Int32) : Nat → Int32 := fun i => if i < N then F i else G i
theorem cpy_0 {F G : Nat → Int32} : cpy 0 F G = G := by
  funext i
  simp [cpy]
theorem cpy_s {k : Nat} {F G : Nat → Int32} : upd (cpy k F G) k (F k) = cpy (k + 1) F G := by
  funext i
  simp only [upd, cpy]
  by_cases h : i = k
  · rw [if_pos h, if_pos (by omega), h]
  · rw [if_neg h]
    by_cases h2 : i < k
    · rw [if_pos h2, if_pos (by omega)]
    · rw [if_neg h2, if_neg (by omega)]
theorem cpy_lt {N i : Nat} {F G : Nat → Int32} (h : i < N) : cpy N F G i = F i := if_pos h
theorem c_copy31 {S : gS} {Post : gS → Prop} (h : Post (sA (uI (uI (uI (uI S 6 (gI S 1)) 7 (gI S 2)) 8 (gI S 3)) 9 (gI S 4)) 14 (cpy 96 (gA S 10) (gA S 14)))) : pX1_copy_31 S Post := by
  unfold pX1_copy_31
  simp only [forall_eq, gI_uI]
  simp only [show ((2 : Nat) = 6) = False by simp, show ((3 : Nat) = 7) = False by simp, show ((3 : Nat) = 6) = False by simp, show ((4 : Nat) = 8) = False by simp, show ((4 : Nat) = 7) = False by simp, show ((4 : Nat) = 6) = False by simp, if_false]
  generalize hT : uI (uI (uI (uI S 6 (gI S 1)) 7 (gI S 2)) 8 (gI S 3)) 9 (gI S 4) = T at h ⊢
  have e1 : gA T 10 = gA S 10 := by rw [← hT]; rfl
  have e2 : gA T 14 = gA S 14 := by rw [← hT]; rfl
  rw [← e1, ← e2] at h
  have := lp_seq (B := fun L x => bX1_copy_31_34 Post L x.1 x.2) (fun k => (nI k, sA T 14 (cpy k (gA T 10) (gA T 14)))) 96 (fun k L hk hL => ?_) (fun L => ?_)
  · simp only [cpy_0, sA_id] at this
    exact this
  · unfold bX1_copy_31_34
    simp only [forall_eq]
    have c : ¬ (96 : Int32) ≤ nI k := nI_ge (b := 96) hk (by decide)
    refine ⟨fun d => absurd d c, fun _ => ⟨fun d => absurd d c, fun _ => ⟨vp_in_nI hk (by decide), vp_in_nI hk (by decide), ?_⟩⟩⟩
    rw [nI_clamp (by omega), uA_s, gA_sA, if_pos rfl, gA_sA, if_neg (by decide), cpy_s, sA_sA, nI_1]
    exact hL
  · unfold bX1_copy_31_34
    exact ⟨fun _ => h, fun d => absurd (nI_le (Nat.le_refl 96) (by decide)) d⟩
theorem c_copy13 {S : gS} {Post : gS → Prop} (h : Post (sA (uI (uI (uI (uI S 1 (gI S 6)) 2 (gI S 7)) 3 (gI S 8)) 4 (gI S 9)) 10 (cpy 96 (gA S 14) (gA S 10)))) : pX1_copy_13 S Post := by
  unfold pX1_copy_13
  simp only [forall_eq, gI_uI]
  simp only [show ((7 : Nat) = 1) = False by simp, show ((8 : Nat) = 2) = False by simp, show ((8 : Nat) = 1) = False by simp, show ((9 : Nat) = 3) = False by simp, show ((9 : Nat) = 2) = False by simp, show ((9 : Nat) = 1) = False by simp, if_false]
  generalize hT : uI (uI (uI (uI S 1 (gI S 6)) 2 (gI S 7)) 3 (gI S 8)) 4 (gI S 9) = T at h ⊢
  have e1 : gA T 10 = gA S 10 := by rw [← hT]; rfl
  have e2 : gA T 14 = gA S 14 := by rw [← hT]; rfl
  rw [← e1, ← e2] at h
  have := lp_seq (B := fun L x => bX1_copy_13_34 Post L x.1 x.2) (fun k => (nI k, sA T 10 (cpy k (gA T 14) (gA T 10)))) 96 (fun k L hk hL => ?_) (fun L => ?_)
  · simp only [cpy_0, sA_id] at this
    exact this
  · unfold bX1_copy_13_34
    simp only [forall_eq]
    have c : ¬ (96 : Int32) ≤ nI k := nI_ge (b := 96) hk (by decide)
    refine ⟨fun d => absurd d c, fun _ => ⟨fun d => absurd d c, fun _ => ⟨vp_in_nI hk (by decide), vp_in_nI hk (by decide), ?_⟩⟩⟩
    rw [nI_clamp (by omega), uA_s, gA_sA, if_pos rfl, gA_sA, if_neg (by decide), cpy_s, sA_sA, nI_1]
    exact hL
  · unfold bX1_copy_13_34
    exact ⟨fun _ => h, fun d => absurd (nI_le (Nat.le_refl 96) (by decide)) d⟩
theorem c_copy42 {S : gS} {Post : gS → Prop} (h : Post (sA (uI S 10 (gI S 5)) 17 (cpy 8 (gA S 13) (gA S 17)))) : pX6_copy_42 S Post := by
  unfold pX6_copy_42
  simp only [forall_eq]
  generalize hT : uI S 10 (gI S 5) = T at h ⊢
  have e1 : gA T 13 = gA S 13 := by rw [← hT]; rfl
  have e2 : gA T 17 = gA S 17 := by rw [← hT]; rfl
  rw [← e1, ← e2] at h
  have := lp_seq (B := fun L x => bX6_copy_42_10 Post L x.1 x.2) (fun k => (nI k, sA T 17 (cpy k (gA T 13) (gA T 17)))) 8 (fun k L hk hL => ?_) (fun L => ?_)
  · simp only [cpy_0, sA_id] at this
    exact this
  · unfold bX6_copy_42_10
    simp only [forall_eq]
    refine ⟨fun d => absurd d (nI_ge (b := 8) hk (by decide)), fun _ => ⟨vp_in_nI hk (by decide), vp_in_nI hk (by decide), ?_⟩⟩
    rw [nI_clamp (by omega), uA_s, gA_sA, if_pos rfl, gA_sA, if_neg (by decide), cpy_s, sA_sA, nI_1]
    exact hL
  · unfold bX6_copy_42_10
    exact ⟨fun _ => h, fun d => absurd (nI_le (Nat.le_refl 8) (by decide)) d⟩
theorem c_copy24 {S : gS} {Post : gS → Prop} (h : Post (sA (uI S 5 (gI S 10)) 13 (cpy 8 (gA S 17) (gA S 13)))) : pX6_copy_24 S Post := by
  unfold pX6_copy_24
  simp only [forall_eq]
  generalize hT : uI S 5 (gI S 10) = T at h ⊢
  have e1 : gA T 13 = gA S 13 := by rw [← hT]; rfl
  have e2 : gA T 17 = gA S 17 := by rw [← hT]; rfl
  rw [← e1, ← e2] at h
  have := lp_seq (B := fun L x => bX6_copy_24_10 Post L x.1 x.2) (fun k => (nI k, sA T 13 (cpy k (gA T 17) (gA T 13)))) 8 (fun k L hk hL => ?_) (fun L => ?_)
  · simp only [cpy_0, sA_id] at this
    exact this
  · unfold bX6_copy_24_10
    simp only [forall_eq]
    refine ⟨fun d => absurd d (nI_ge (b := 8) hk (by decide)), fun _ => ⟨vp_in_nI hk (by decide), vp_in_nI hk (by decide), ?_⟩⟩
    rw [nI_clamp (by omega), uA_s, gA_sA, if_pos rfl, gA_sA, if_neg (by decide), cpy_s, sA_sA, nI_1]
    exact hL
  · unfold bX6_copy_24_10
    exact ⟨fun _ => h, fun d => absurd (nI_le (Nat.le_refl 8) (by decide)) d⟩
