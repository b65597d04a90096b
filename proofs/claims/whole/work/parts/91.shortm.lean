section
/-! THE MATHEMATICS, 22: shortestLength on both sides. -/
def rel (A : Nat → Int32) (x : Nat → Nat) : Prop := ∀ a, a < 6 → A a = nI (x a)
theorem pv_b {n : Nat} {x : Nat → Nat} {c : Int32} (hb : ∀ a, x a ≤ 729) : pv n x c ≤ 729 := by
  unfold pv
  split
  · exact hb _
  · omega
theorem so_b {n p : Nat} {F : Nat → Int32} {x : Nat → Nat} (hb : ∀ a, x a ≤ 729) : so n F x p ≤ 2187 := by
  have hs : ∀ c, sv n x c ≤ 729 := fun c => by
    unfold sv
    split
    · omega
    · exact pv_b hb
  unfold so
  split
  · omega
  · rw [ss_3]
    have h1 := hs (F (4 * p + 1))
    have h2 := hs (F (4 * p + 2))
    have h3 := hs (F (4 * p + 3))
    omega
section CS
variable {S : gS} {n t st P : Nat} {F : Nat → Int32} {x : Nat → Nat}
theorem c_sp (h1 : cG S n t st P) (hr : rel (gA S 11) x) {c : Int32} {Post : Int32 → Prop} (hq : Post (nI (pv n x c))) : pX1_shortestPart c S Post := by
  have hn : n ≤ 6 := h1.2.2.2.2.2.1
  unfold pX1_shortestPart
  refine c_isN h1 (fun d => ⟨fun e => absurd e (by decide), fun _ => ⟨in_i d.1 (by have := d.2; omega), ?_⟩⟩) (fun d => ⟨fun _ => ?_, fun e => absurd rfl e⟩)
  · rw [pv_N d] at hq
    obtain ⟨a, ha, ea, ec⟩ := clamp_nn d hn
    rw [ec] at hq ⊢
    rw [hr a (by omega)]
    exact hq
  · rw [pv_T d] at hq
    exact hq
theorem c_so (h1 : cG S n t st P) (eF : gA S 10 = F) (hr : rel (gA S 11) x) (hb : ∀ a, x a ≤ 729) {p : Nat} (hp : p < P) {Post : Int32 → Prop} (hq : Post (nI (so n F x p))) : pX1_shortestOf (nI p) S Post := by
  subst eF
  unfold pX1_shortestOf
  refine lp_ex (B := fun L y => bX1_shortestOf_4 (nI p) S Post L y.1 y.2) (fun k y => y = (nI (ss n (gA S 10) x p k), nI (1 + k)) ∧ ∀ j, 1 ≤ j → j ≤ k → zt n x (gA S 10 (4 * p + j)) = false) 3 (fun k y hk hI => ?_) ⟨rfl, fun j g1 g2 => by omega⟩
  obtain ⟨rfl, hI⟩ := hI
  by_cases e : k = 3
  · left
    intro L
    subst e
    unfold bX1_shortestOf_4
    rw [so_n hI] at hq
    exact ⟨fun _ => hq, fun c => absurd (nI_lt (a := 3) (by omega) (by omega)) c⟩
  · have hpv : pv n x (gA S 10 (4 * p + (1 + k))) ≤ 729 := pv_b hb
    cases ez : zt n x (gA S 10 (4 * p + (1 + k)))
    · right
      refine ⟨by omega, fun L hL => ?_⟩
      have hL' : L (nI (ss n (gA S 10) x p k + sv n x (gA S 10 (4 * p + (1 + k)))), nI (1 + k + 1)) := hL _ ⟨rfl, fun j g1 g2 => by
        by_cases ej : j = 1 + k
        · rw [ej]; exact ez
        · exact hI j g1 (by omega)⟩
      unfold bX1_shortestOf_4
      refine ⟨fun c => absurd c (nI_nlt (a := 3) (by omega) (by omega)), fun _ => c_sym (k := 1 + k) h1 hp (by omega) ?_⟩
      simp only [forall_eq]
      rw [nI_1]
      refine ⟨fun d => ?_, fun d => c_sp h1 hr ⟨fun _ => ?_, fun d2 => ?_⟩⟩
      · unfold sv at hL'
        rw [if_pos d] at hL'
        exact hL'
      · unfold sv at hL'
        rw [if_neg d] at hL'
        rw [nI_add]
        exact hL'
      · rw [i_0, nI_eq (by omega) (by omega)] at d2
        rcases zt_f ez with g | g
        · exact absurd g d
        · exact absurd d2 g
    · left
      intro L
      have h0 := so_z (n := n) (F := gA S 10) (x := x) (p := p) (j := 1 + k) (by omega) (by omega) ez
      rw [h0] at hq
      unfold zt at ez
      have hz := of_decide_eq_true ez
      unfold bX1_shortestOf_4
      refine ⟨fun c => absurd c (nI_nlt (a := 3) (by omega) (by omega)), fun _ => c_sym (k := 1 + k) h1 hp (by omega) ⟨fun d => absurd d hz.1, fun _ => c_sp h1 hr ⟨fun d => absurd (by rw [hz.2]; rfl) d, fun _ => hq⟩⟩⟩
theorem rel_u {A : Nat → Int32} {p : Nat} (hr : rel A x) (c : 0 < so n F x p ∧ (x (lf F p) = 0 ∨ so n F x p < x (lf F p))) : rel (upd A (lf F p) (nI (so n F x p))) (stp n F x p) := by
  intro a ha
  unfold stp
  rw [if_pos c, upd_at]
  unfold upN
  by_cases e : a = lf F p
  · rw [if_pos e, if_pos e]
  · rw [if_neg e, if_neg e]
    exact hr a ha
theorem rel_k {A : Nat → Int32} {p : Nat} (hr : rel A x) (c : ¬ (0 < so n F x p ∧ (x (lf F p) = 0 ∨ so n F x p < x (lf F p)))) : rel A (stp n F x p) := by
  intro a ha
  unfold stp
  rw [if_neg c]
  exact hr a ha
theorem c_sho (h1 : cG S n t st P) (ok : okP n t P F) (hr : rel (gA S 11) x) (hb : ∀ a, x a ≤ 729) {p : Nat} (hp : p < P) {Post : gS → Prop} (hq : ∀ A, rel A (stp n F x p) → Post (sA S 11 A)) : pX1_shorten (nI (lf F p)) (nI (so n F x p)) S Post := by
  have hn : n ≤ 6 := h1.2.2.2.2.2.1
  have hl := (lf_n hn ok hp).1
  have hs := so_b (n := n) (F := F) (p := p) hb
  have hx := hb (lf F p)
  unfold pX1_shorten
  refine c_isN h1 (fun _ => ⟨fun e => absurd e (by decide), fun _ => ?_⟩) (fun d => absurd (nI_isN (by omega) hl) d)
  simp only [forall_eq]
  rw [nI_clamp (by omega), hr (lf F p) (by omega)]
  have up : (0 < so n F x p ∧ (x (lf F p) = 0 ∨ so n F x p < x (lf F p))) → Post (uA S 11 (lf F p) (nI (so n F x p))) := fun c => by
    rw [uA_s]
    exact hq _ (rel_u hr c)
  have kp : ¬ (0 < so n F x p ∧ (x (lf F p) = 0 ∨ so n F x p < x (lf F p))) → Post S := fun c => by
    have := hq (gA S 11) (rel_k hr c)
    rw [sA_id] at this
    exact this
  rw [i_1, i_0, nI_leI (by omega) (by omega), nI_eq (by omega) (by omega), nI_leI (by omega) (by omega)]
  have vp : vp_in (nI (lf F p)) 6 := vp_in_nI (by omega) (by omega)
  exact ⟨fun c => ⟨vp, fun d => ⟨vp, up (by omega)⟩, fun d => ⟨vp, fun d2 => kp (by omega), fun d2 => ⟨vp, up (by omega)⟩⟩⟩, fun c => kp (by omega)⟩
theorem c_mea (h1 : cG S n t st P) (ok : okP n t P (gA S 10)) {Post : gS → Prop} (hq : ∀ A, rel A (itn n P (gA S 10) n) → Post (sA S 11 A)) : pX1_measure S Post := by
  have hn : n ≤ 6 := h1.2.2.2.2.2.1
  have hP : P ≤ 24 := h1.2.2.2.2.2.2.2.2.2
  have e1 : gI S 1 = nI n := h1.1
  have e4 : gI S 4 = nI P := h1.2.2.2.1
  unfold pX1_measure
  refine lp_inv (B := fun L y => bX1_measure_2 Post L y.1 y.2) (fun k y => ∃ A, y = (nI k, sA S 11 A) ∧ ∀ a, a < k → A a = 0) 6 (fun k y L hk hI hL => ?_) (fun y L hI => ?_) ⟨gA S 11, by rw [sA_id]; rfl, fun a g => by omega⟩
  · obtain ⟨A, rfl, hA⟩ := hI
    unfold bX1_measure_2
    refine ⟨fun c => absurd c (nI_ge (b := 6) hk (by omega)), fun _ => ⟨vp_in_nI hk (by omega), ?_⟩⟩
    simp only [forall_eq]
    rw [nI_clamp (by omega), nI_1, uA_s, sA_sA, gA_sA, if_pos rfl]
    refine hL _ ⟨_, rfl, fun a ha => ?_⟩
    rw [upd_at]
    by_cases e : a = k
    · rw [if_pos e]
    · rw [if_neg e]
      exact hA a (by omega)
  · obtain ⟨A, rfl, hA⟩ := hI
    unfold bX1_measure_2
    refine ⟨fun _ => ?_, fun c => absurd (nI_le (a := 6) (by omega) (by omega)) c⟩
    refine lp_inv (B := fun L y => bX1_measure_23 Post L y.1 y.2) (fun k y => ∃ A, y = (nI k, sA S 11 A) ∧ rel A (itn n P (gA S 10) k)) n (fun k y L hk hI hL => ?_) (fun y L hI => ?_) ⟨A, rfl, hA⟩
    · obtain ⟨A, rfl, hA⟩ := hI
      unfold bX1_measure_23
      rw [gI_sA, e1]
      refine ⟨fun c => absurd c (nI_ge hk (by omega)), fun _ => ?_⟩
      refine lp_inv (B := fun L' y => bX1_measure_33 (nI k) L L' y.1 y.2) (fun p y => ∃ A, y = (nI p, sA S 11 A) ∧ rel A (rn n (gA S 10) (itn n P (gA S 10) k) p)) P (fun p y L2 hp hI hL2 => ?_) (fun y L2 hI => ?_) ⟨A, rfl, hA⟩
      · obtain ⟨A, rfl, hA⟩ := hI
        have hb := (bd_rn hn ok (bd_it hn ok k) p (by omega)).le hn
        have h1' : cG (sA S 11 A) n t st P := h1
        have eF : gA (sA S 11 A) 10 = gA S 10 := by rw [gA_sA, if_neg (by decide)]
        have hr' : rel (gA (sA S 11 A) 11) (rn n (gA S 10) (itn n P (gA S 10) k) p) := by rw [gA_sA, if_pos rfl]; exact hA
        unfold bX1_measure_33
        rw [gI_sA, e4]
        refine ⟨fun c => absurd c (nI_ge hp (by omega)), fun _ => c_sym (k := 0) h1' hp (by decide) (c_so h1' eF hr' hb hp ?_)⟩
        rw [eF]
        show pX1_shorten (gA S 10 (4 * p)) _ _ _
        rw [(lf_n hn ok hp).2]
        refine c_sho h1' ok hr' hb hp (fun B hB => ?_)
        simp only [forall_eq]
        rw [nI_1, sA_sA]
        exact hL2 _ ⟨B, rfl, hB⟩
      · obtain ⟨A, rfl, hA⟩ := hI
        unfold bX1_measure_33
        rw [gI_sA, e4]
        refine ⟨fun _ => ?_, fun c => absurd (nI_le (Nat.le_refl _) (by omega)) c⟩
        simp only [forall_eq]
        rw [nI_1]
        exact hL _ ⟨A, rfl, hA⟩
    · obtain ⟨A, rfl, hA⟩ := hI
      unfold bX1_measure_23
      rw [gI_sA, e1]
      exact ⟨fun _ => hq A hA, fun c => absurd (nI_le (Nat.le_refl _) (by omega)) c⟩
end CS
section MS
variable {S : gS} {n t st P : Nat} {F : Nat → Int32} {x : Nat → Nat}
theorem m_so (h : mG S n t st P F) (hr : rel (gA S 3) x) (hb : ∀ a, x a ≤ 729) {p : Nat} (hp : p < P) {Post : Int32 → Prop} (hq : Post (nI (so n F x p))) : pX9_shortestOf (nI p) S Post := by
  have hn : n ≤ 6 := h.1.2.2.2.2.2.1
  have hP : P ≤ 24 := h.1.2.2.2.2.2.2.2.2.2
  unfold pX9_shortestOf
  refine lp_ex (B := fun L y => bX9_shortestOf_4 (nI p) S Post L y.1 y.2) (fun k y => y = (nI (ss n F x p k), nI (1 + k)) ∧ ∀ j, 1 ≤ j → j ≤ k → zt n x (F (4 * p + j)) = false) 3 (fun k y hk hI => ?_) ⟨rfl, fun j g1 g2 => by omega⟩
  obtain ⟨rfl, hI⟩ := hI
  by_cases e : k = 3
  · left
    intro L
    subst e
    unfold bX9_shortestOf_4
    rw [so_n hI] at hq
    exact ⟨fun _ => hq, fun c => absurd (nI_le (a := 4) (by omega) (by omega)) c⟩
  · have hpv : pv n x (F (4 * p + (1 + k))) ≤ 729 := pv_b hb
    have hcc := h.2.2.k (k := 1 + k) hp (by omega) (by omega)
    have er : gA S (16 + (nI p).toNatClampNeg) (nI (1 + k)).toNatClampNeg = F (4 * p + (1 + k)) := by
      rw [nI_clamp (n := 1 + k) (by omega)]
      exact row_at h hp (by omega)
    cases ez : zt n x (F (4 * p + (1 + k)))
    · right
      refine ⟨by omega, fun L hL => ?_⟩
      have hL' : L (nI (ss n F x p k + sv n x (F (4 * p + (1 + k)))), nI (1 + k + 1)) := hL _ ⟨rfl, fun j g1 g2 => by
        by_cases ej : j = 1 + k
        · rw [ej]; exact ez
        · exact hI j g1 (by omega)⟩
      unfold bX9_shortestOf_4
      refine ⟨fun c => absurd c (nI_ge (b := 4) (by omega) (by omega)), fun _ => ⟨vp_in_nI (by omega) (by omega), vp_in_nI (by omega) (by omega), ?_⟩⟩
      simp only [forall_eq]
      rw [er]
      revert hL' hpv ez hcc
      generalize F (4 * p + (1 + k)) = c
      intro hpv hcc ez hL'
      have j40 : jX9_shortestOf_40 S (nI (ss n F x p k)) (nI (1 + k)) L c := by
        unfold jX9_shortestOf_40
        simp only [forall_eq]
        rw [nI_1, nI_1, Int32.add_zero]
        unfold sv at hL'
        refine ⟨fun c0 => m_isN h.1 (fun d => ⟨fun e => absurd e (by decide), fun _ => ⟨in_i d.1 (by have := d.2; omega), ?_⟩⟩) (fun d => ⟨fun _ => ?_, fun e => absurd rfl e⟩), fun c0 => ?_⟩
        · obtain ⟨a, ha, ea, ec⟩ := clamp_nn d hn
          rw [if_neg (isS_m1 (t := t) (Or.inl d)), pv_N d, ec] at hL'
          rw [ec, hr a (by omega), nI_add]
          exact hL'
        · rw [if_neg (fun d2 => by rw [d2, le_i, t_0, t_m1] at c0; omega), pv_T d] at hL'
          exact hL'
        · rw [if_pos ((neg_m1 hcc).1 c0)] at hL'
          exact hL'
      refine m_isN h.1 (fun d => ⟨fun e => absurd e (by decide), fun _ => ⟨in_i d.1 (by have := d.2; omega), fun _ => j40, fun d2 => ?_⟩⟩) (fun d => ⟨fun _ => j40, fun e => absurd rfl e⟩)
      obtain ⟨a, ha, ea, ec⟩ := clamp_nn d hn
      rcases zt_f ez with g | g
      · exact absurd g (isS_m1 (t := t) (Or.inl d))
      · rw [pv_N d, ec] at g hpv
        rw [ec, hr a (by omega), i_0, nI_eq (by omega) (by omega)] at d2
        exact absurd d2 g
    · left
      intro L
      have h0 := so_z (n := n) (F := F) (x := x) (p := p) (j := 1 + k) (by omega) (by omega) ez
      rw [h0] at hq
      unfold zt at ez
      have hz := of_decide_eq_true ez
      unfold bX9_shortestOf_4
      refine ⟨fun c => absurd c (nI_ge (b := 4) (by omega) (by omega)), fun _ => ⟨vp_in_nI (by omega) (by omega), vp_in_nI (by omega) (by omega), ?_⟩⟩
      simp only [forall_eq]
      rw [er]
      have hN : isN n (F (4 * p + (1 + k))) := Classical.byContradiction (fun d => by
        have := hz.2
        rw [pv_T d] at this
        omega)
      obtain ⟨a, ha, ea, ec⟩ := clamp_nn hN hn
      have hz2 := hz.2
      rw [pv_N hN, ec] at hz2
      refine m_isN h.1 (fun d => ⟨fun e => absurd e (by decide), fun _ => ⟨in_i d.1 (by have := d.2; omega), fun d2 => absurd ?_ d2, fun _ => hq⟩⟩) (fun d => absurd hN d)
      rw [ec, hr a (by omega), hz2]
      rfl
theorem m_fs (h : mG S n t st P F) {Post : gS → Prop} (hq : ∀ T : gS, gI T = gI S → (∀ a, a ≠ 3 → gA T a = gA S a) → rel (gA T 3) (itn n P F n) → Post T) : pX9_findShortest S Post := by
  have hn : n ≤ 6 := h.1.2.2.2.2.2.1
  have hP : P ≤ 24 := h.1.2.2.2.2.2.2.2.2.2
  have e4 : gI S 4 = nI P := h.1.2.2.2.1
  have ok := h.2.2
  unfold pX9_findShortest
  refine lp_inv (B := fun L y => bX9_findShortest_2 Post L y.1 y.2) (fun k y => ∃ T, y = (nI k, T) ∧ gI T = gI S ∧ (∀ a, a ≠ 3 → gA T a = gA S a) ∧ ∀ a, a < k → gA T 3 a = 0) 6 (fun k y L hk hI hL => ?_) (fun y L hI => ?_) ⟨S, rfl, rfl, fun _ _ => rfl, fun a g => by omega⟩
  · obtain ⟨T, rfl, k1, k2, k3⟩ := hI
    unfold bX9_findShortest_2
    refine ⟨fun c => absurd c (nI_ge (b := 6) hk (by omega)), fun _ => ⟨vp_in_nI hk (by omega), ?_⟩⟩
    simp only [forall_eq]
    rw [nI_clamp (by omega), nI_1]
    refine hL _ ⟨_, rfl, k1, fun a ha => ?_, fun a ha => ?_⟩
    · rw [gA_uA, if_neg ha]
      exact k2 a ha
    · rw [gA_uA, if_pos rfl, upd_at]
      by_cases e : a = k
      · rw [if_pos e]
      · rw [if_neg e]
        exact k3 a (by omega)
  · obtain ⟨T, rfl, k1, k2, k3⟩ := hI
    unfold bX9_findShortest_2
    refine ⟨fun _ => ?_, fun c => absurd (nI_le (a := 6) (by omega) (by omega)) c⟩
    refine lp_ex (B := fun L y => bX9_findShortest_23 Post L y.1 y.2) (fun k y => ∃ (T : gS) (fl : Int32), y = (fl, T) ∧ gI T = gI S ∧ (∀ a, a ≠ 3 → gA T a = gA S a) ∧ rel (gA T 3) (itn n P F k) ∧ ((fl = 0 ∧ 1 ≤ k ∧ itn n P F k = itn n P F (k - 1)) ∨ (fl = 1 ∧ (k = 0 ∨ itn n P F k ≠ itn n P F (k - 1))))) (n + 1) (fun k y hk hI => ?_) ⟨T, 1, rfl, k1, k2, k3, Or.inr ⟨rfl, Or.inl rfl⟩⟩
    obtain ⟨T, fl, rfl, k1, k2, k3, k4⟩ := hI
    rcases k4 with ⟨rfl, kk, e⟩ | ⟨rfl, e⟩
    · left
      intro L
      unfold bX9_findShortest_23
      refine ⟨fun _ => hq T k1 k2 ?_, fun c => absurd rfl c⟩
      have e' : itn n P F (k - 1 + 1) = itn n P F (k - 1) := by rw [Nat.sub_add_cancel kk]; exact e
      have := it_st e' (n - (k - 1))
      rw [show k - 1 + (n - (k - 1)) = n by omega] at this
      rw [this, ← e]
      exact k3
    · right
      have kn : k < n + 1 := by
        refine Classical.byContradiction (fun d => ?_)
        have ek : k = n + 1 := by omega
        rcases e with e | e
        · omega
        · subst ek
          exact e (it_fix hn ok)
      refine ⟨kn, fun L hL => ?_⟩
      unfold bX9_findShortest_23
      refine ⟨fun c => absurd c (show ¬ (1 : Int32) = 0 by decide), fun _ => ?_⟩
      refine lp_inv (B := fun L' y => bX9_findShortest_31 L L' y.1 y.2.1 y.2.2) (fun p y => ∃ (T : gS) (fl : Int32), y = (fl, nI p, T) ∧ gI T = gI S ∧ (∀ a, a ≠ 3 → gA T a = gA S a) ∧ rel (gA T 3) (rn n F (itn n P F k) p) ∧ ((fl = 0 ∧ rn n F (itn n P F k) p = itn n P F k) ∨ (fl = 1 ∧ ∃ a, bt (itn n P F k) (rn n F (itn n P F k) p) a))) P (fun p y L2 hp hI hL2 => ?_) (fun y L2 hI => ?_) ⟨T, 0, rfl, k1, k2, k3, Or.inl ⟨rfl, rfl⟩⟩
      · obtain ⟨T, fl, rfl, k1, k2, k3, k4⟩ := hI
        have hT : mG T n t st P F := h.eq (fun f _ _ => by rw [k1]) (fun p _ => k2 _ (by omega))
        have hb := (bd_rn hn ok (bd_it hn ok k) p (by omega)).le hn
        have hl := lf_n hn ok hp
        have hs := so_b (n := n) (F := F) (p := p) hb
        have hx := hb (lf F p)
        unfold bX9_findShortest_31
        rw [k1, e4]
        refine ⟨fun c => absurd c (nI_ge hp (by omega)), fun _ => m_so hT k3 hb hp ⟨vp_in_nI (by omega) (by omega), vp_in_nI (n := 0) (by omega) (by omega), ?_⟩⟩
        simp only [forall_eq]
        rw [show (0 : Int32).toNatClampNeg = 0 from rfl, row_at hT hp (by decide)]
        show ((nI (so n F (rn n F (itn n P F k) p) p) ≤ 0 → _) ∧ (¬ nI (so n F (rn n F (itn n P F k) p) p) ≤ 0 → vp_in (F (4 * p)) 6 ∧ _))
        rw [show F (4 * p + 0) = nI (lf F p) from hl.2, hl.2, nI_clamp (by omega), k3 (lf F p) (by omega), nI_1]
        have vp : vp_in (nI (lf F p)) 6 := vp_in_nI (by omega) (by omega)
        have d1 : dn (itn n P F k) (rn n F (itn n P F k) p) := dn_rn
        have up : (0 < so n F (rn n F (itn n P F k) p) p ∧ (rn n F (itn n P F k) p (lf F p) = 0 ∨ so n F (rn n F (itn n P F k) p) p < rn n F (itn n P F k) p (lf F p))) → L2 (1, nI (p + 1), uA T 3 (lf F p) (nI (so n F (rn n F (itn n P F k) p) p))) := fun c => by
          refine hL2 _ ⟨_, 1, rfl, k1, fun a ha => ?_, ?_, Or.inr ⟨rfl, lf F p, bt.l d1 (stp_bt c)⟩⟩
          · rw [gA_uA, if_neg ha]
            exact k2 a ha
          · rw [gA_uA, if_pos rfl]
            exact rel_u k3 c
        have kp : ¬ (0 < so n F (rn n F (itn n P F k) p) p ∧ (rn n F (itn n P F k) p (lf F p) = 0 ∨ so n F (rn n F (itn n P F k) p) p < rn n F (itn n P F k) p (lf F p))) → L2 (fl, nI (p + 1), T) := fun c => by
          refine hL2 _ ⟨T, fl, rfl, k1, k2, rel_k k3 c, ?_⟩
          have es : rn n F (itn n P F k) (p + 1) = rn n F (itn n P F k) p := if_neg c
          rw [es]
          exact k4
        rw [i_0, nI_leI (by omega) (by omega), nI_eq (by omega) (by omega), nI_leI (by omega) (by omega)]
        exact ⟨fun c => kp (by omega), fun c => ⟨vp, fun d => ⟨vp, up (by omega)⟩, fun d => ⟨vp, fun d2 => kp (by omega), fun d2 => ⟨vp, up (by omega)⟩⟩⟩⟩
      · obtain ⟨T, fl, rfl, k1, k2, k3, k4⟩ := hI
        unfold bX9_findShortest_31
        rw [k1, e4]
        refine ⟨fun _ => ?_, fun c => absurd (nI_le (Nat.le_refl _) (by omega)) c⟩
        refine hL _ ⟨T, fl, rfl, k1, k2, k3, ?_⟩
        rcases k4 with ⟨f0, e⟩ | ⟨f1, a, e⟩
        · exact Or.inl ⟨f0, by omega, e⟩
        · exact Or.inr ⟨f1, Or.inr e.ne⟩
end MS
theorem s_7 {a1 a2 a3 a4 : Int32} {Sx Sm : gS} (h : Inv Sx Sm) : qL_7 a1 a2 a3 a4 Sx Sm Inv := by
  obtain ⟨n, t, st, P, h1, ok, hm, hL, hW⟩ := h.G
  have hn : n ≤ 6 := h1.2.2.2.2.2.1
  unfold qL_7 pL_shortestLength pX8_shortestLength pX8_checkNonterminal
  refine c_isN h1 (fun d => ⟨fun _ => ?_, fun e => absurd e (by decide)⟩) (fun d => ⟨fun e => absurd rfl e, fun _ => ⟨rfl, ?_⟩⟩)
  · refine c_mea h1 ok (fun A hA => ?_)
    have h1' : cG (sA Sx 11 A) n t st P := h1
    refine c_sp h1' (x := itn n P (gA Sx 10) n) (by rw [gA_sA, if_pos rfl]; exact hA) ?_
    unfold pX9_shortestLength
    refine m_isN hm.1 (fun _ => ⟨fun _ => ?_, fun e => absurd e (by decide)⟩) (fun d2 => absurd d d2)
    unfold jX9_shortestLength_15
    refine m_f0 ⟨fun _ => m_fs hm.thr (fun T k1 k2 k3 => ⟨in_i d.1 (by have := d.2; omega), ?_⟩), fun c => absurd rfl c⟩
    obtain ⟨a, ha, ea, ec⟩ := clamp_nn d hn
    rw [ec, k3 a (by omega), pv_N d, ec]
    refine fin (by rw [k1, rd0]) (Inv.out ?_) (fun _ => out0)
    refine (h.cls ?_).mod ⟨fun f f1 f2 f3 => ?_, fun a a1 a2 a3 => ?_⟩
    · exact ⟨fun f _ => rfl, rfl, fun a g1 g2 g3 g4 g5 => by rw [gA_sA, if_neg g1], rfl, rfl⟩
    · rw [k1, gI_uI, if_neg (by omega)]
    · rw [k2 a a1]
      rfl
  · unfold pX9_shortestLength
    refine m_isN hm.1 (fun d2 => absurd d2 d) (fun _ => ⟨fun e => absurd rfl e, fun _ => ?_⟩)
    unfold jX9_shortestLength_15
    exact m_f1 ⟨fun c => absurd c (by decide), fun _ => fin rd0 h.thr (fun c => absurd c (by decide))⟩
end
