section
/-! THE MATHEMATICS, 24: removeUseless on the model's side, and on both. -/
section MR
variable {S : gS} {n t st P : Nat} {F : Nat → Int32} {x : Nat → Nat} {y : Nat → Bool}
theorem m_rp (h : mG S n t st P F) (hr : rel (gA S 3) x) (hb : ∀ a, x a ≤ 729) {p : Nat} (hp : p < P) (hy : relb (gA S 4) y) {L : Int32 × gS → Prop} (hq : ∀ T, gI T = gI S → (∀ a, a ≠ 4 → gA T a = gA S a) → relb (gA T 4) (stq n F x y p) → L (nI (p + 1), T)) : ∃ n, lp (fun L' w => bX9_removeUseless_62 (nI p) L L' w.1 w.2) n (1, S) := by
  have hn : n ≤ 6 := h.1.2.2.2.2.2.1
  have hP : P ≤ 24 := h.1.2.2.2.2.2.2.2.2.2
  have hl := lf_n hn h.2.2 hp
  have hs := so_b (n := n) (F := F) (p := p) hb
  refine lp_inv (B := fun L' w => bX9_removeUseless_62 (nI p) L L' w.1 w.2) (fun k w => ∃ T, w = (nI (1 + k), T) ∧ gI T = gI S ∧ (∀ a, a ≠ 4 → gA T a = gA S a) ∧ relb (gA T 4) (if usd n F x y p = true then mkk n F p y k else y)) 3 (fun k w L' hk hI hL' => ?_) (fun w L' hI => ?_) ⟨S, rfl, rfl, fun _ _ => rfl, by rw [show mkk n F p y 0 = y from rfl, ite_self]; exact hy⟩
  · obtain ⟨T, rfl, k1, k2, k3⟩ := hI
    have hT : mG T n t st P F := h.eq (fun f _ _ => by rw [k1]) (fun p _ => k2 _ (by omega))
    have hr' : rel (gA T 3) x := by rw [k2 3 (by decide)]; exact hr
    have e0 : gA T (16 + (nI p).toNatClampNeg) (0 : Int32).toNatClampNeg = nI (lf F p) := (row_at hT hp (by decide)).trans hl.2
    have ek : gA T (16 + (nI p).toNatClampNeg) (nI (1 + k)).toNatClampNeg = F (4 * p + (1 + k)) := by
      rw [nI_clamp (n := 1 + k) (by omega)]
      exact row_at hT hp (by omega)
    unfold bX9_removeUseless_62
    refine ⟨fun c => absurd c (nI_ge (b := 4) (by omega) (by omega)), fun _ => ⟨vp_in_nI (by omega) (by omega), vp_in_nI (by omega) (by omega), ?_⟩⟩
    simp only [forall_eq]
    rw [e0, ek, nI_clamp (n := lf F p) (by omega), k3 (lf F p) (by omega), nI_1, n_b1]
    refine ⟨vp_in_nI (by omega) (by omega), vp_in_nI (n := 0) (by omega) (by omega), vp_in_nI (by omega) (by omega), ?_⟩
    have same : usd n F x y p = false → L' (nI (1 + k + 1), T) := fun u => by
      refine hL' _ ⟨T, rfl, k1, k2, ?_⟩
      rw [if_neg (by rw [u]; decide)] at k3 ⊢
      exact k3
    cases e : y (lf F p)
    · have u : usd n F x y p = false := by unfold usd; rw [e]; rfl
      have e2 : (if usd n F x y p = true then mkk n F p y k else y) (lf F p) = false := by
        rw [u]
        exact e
      rw [e2]
      exact ⟨fun _ => same u, fun c => absurd rfl c⟩
    · have e2 : (if usd n F x y p = true then mkk n F p y k else y) (lf F p) = true := by
        split
        · exact mo_mkk _ e
        · exact e
      rw [e2]
      refine ⟨fun c => absurd c (by decide), fun _ => m_so hT hr' hb hp ?_⟩
      rw [i_0, nI_leI (by omega) (by omega)]
      refine ⟨fun c => same ?_, fun c => ?_⟩
      · unfold usd
        rw [e, decide_eq_false (by omega)]
        rfl
      · have u : usd n F x y p = true := by
          unfold usd
          rw [e, decide_eq_true (by omega)]
          rfl
        rw [if_pos u] at k3
        refine m_isN hT.1 (fun d => ⟨fun e => absurd e (by decide), fun _ => ⟨in_i d.1 (by have := d.2; omega), hL' _ ⟨_, rfl, k1, fun a ha => ?_, ?_⟩⟩⟩) (fun d => ⟨fun _ => hL' _ ⟨T, rfl, k1, k2, ?_⟩, fun e => absurd rfl e⟩)
        · rw [gA_uA, if_neg ha]
          exact k2 a ha
        · rw [gA_uA, if_pos rfl, if_pos u]
          exact relb_1 hn k3 d
        · rw [if_pos u]
          exact relb_0 k3 d
  · obtain ⟨T, rfl, k1, k2, k3⟩ := hI
    unfold bX9_removeUseless_62
    refine ⟨fun _ => ?_, fun c => absurd (nI_le (a := 4) (by omega) (by omega)) c⟩
    simp only [forall_eq]
    rw [nI_1]
    exact hq T k1 k2 k3
theorem m_rm (h : mG S n t st P F) (hr : rel (gA S 3) x) (hb : ∀ a, x a ≤ 729) (hy : relb (gA S 4) y) {Post : Int32 → gS → Prop} (hq : ∀ T, (∀ f, f ≠ 4 → gI T f = gI S f) → gI T 4 = nI (rmu P F (usd n F x y) P).2 → (∀ a, ¬ (16 ≤ a ∧ a < 40) → gA T a = gA S a) → rowsEq T (rmu P F (usd n F x y) P).1 → Post (nI (P - (rmu P F (usd n F x y) P).2)) (uI T 6 0)) : ∃ n, lp (fun L w => bX9_removeUseless_145 Post L w.1 w.2.1 w.2.2) n (0, gI S 4 - 1, S) := by
  have hn : n ≤ 6 := h.1.2.2.2.2.2.1
  have hP : P ≤ 24 := h.1.2.2.2.2.2.2.2.2.2
  have e4 : gI S 4 = nI P := h.1.2.2.2.1
  refine lp_inv (B := fun L w => bX9_removeUseless_145 Post L w.1 w.2.1 w.2.2) (fun k w => ∃ T, w = (nI (P - (rmu P F (usd n F x y) k).2), nI (P - k) - 1, T) ∧ (∀ f, f ≠ 4 → gI T f = gI S f) ∧ gI T 4 = nI (rmu P F (usd n F x y) k).2 ∧ (∀ a, ¬ (16 ≤ a ∧ a < 40) → gA T a = gA S a) ∧ rowsEq T (rmu P F (usd n F x y) k).1) P (fun k w L hk hI hL => ?_) (fun w L hI => ?_) ⟨S, ?_, fun _ _ => rfl, e4, fun _ _ => rfl, h.2.1⟩
  · obtain ⟨T, rfl, k1, k2, k3, k4⟩ := hI
    obtain ⟨m1, m2, m3, m4⟩ := rmu_ok (ud := usd n F x y) h.2.2 k (by omega)
    have hT : mG T n t st (rmu P F (usd n F x y) k).2 (rmu P F (usd n F x y) k).1 := by
      refine ⟨?_, k4, m4⟩
      rw [k1 1 (by decide), k1 2 (by decide), k1 3 (by decide), k2]
      have hh := h.1
      exact ⟨hh.1, hh.2.1, hh.2.2.1, rfl, hh.2.2.2.2.1, hh.2.2.2.2.2.1, hh.2.2.2.2.2.2.1, hh.2.2.2.2.2.2.2.1, hh.2.2.2.2.2.2.2.2.1, by omega⟩
    have hr' : rel (gA T 3) x := by rw [k3 3 (by omega)]; exact hr
    have hy' : relb (gA T 4) y := by rw [k3 4 (by omega)]; exact hy
    have cg := so_cg (n := n) (x := x) (p := P - 1 - k) (m := P - k) (by omega) m3
    have hl := lf_n hn m4 (show P - 1 - k < (rmu P F (usd n F x y) k).2 by omega)
    have hs := so_b (n := n) (F := F) (p := P - 1 - k) hb
    have hE : rmu P F (usd n F x y) (k + 1) = if usd n F x y (P - 1 - k) = true then rmu P F (usd n F x y) k else (rmv (P - 1 - k) (rmu P F (usd n F x y) k).2 (rmu P F (usd n F x y) k).1, (rmu P F (usd n F x y) k).2 - 1) := rfl
    have ei : nI (P - k) - 1 = nI (P - 1 - k) := by
      rw [i_1, nI_sub (by omega), show P - k - 1 = P - 1 - k by omega]
    have ed : nI (P - 1 - k) + -1 = nI (P - (k + 1)) - 1 := by
      rw [← Int32.sub_eq_add_neg, show P - 1 - k = P - (k + 1) by omega]
    have e0 : gA T (16 + (nI (P - 1 - k)).toNatClampNeg) (0 : Int32).toNatClampNeg = nI (lf F (P - 1 - k)) := by
      rw [← cg.2]
      exact (row_at hT (show P - 1 - k < (rmu P F (usd n F x y) k).2 by omega) (by decide)).trans hl.2
    rw [cg.2] at hl
    unfold bX9_removeUseless_145
    rw [ei]
    refine ⟨fun c => absurd c (nI_pos (by omega)), fun _ => ?_⟩
    simp only [forall_eq]
    rw [ed, nI_1, e0, nI_clamp (n := lf F (P - 1 - k)) (by omega), hy' _ (by omega)]
    have rmv' : usd n F x y (P - 1 - k) = false → pX9_remove (nI (P - 1 - k)) T (fun S_19 => L (nI (P - (rmu P F (usd n F x y) k).2 + 1), nI (P - (k + 1)) - 1, S_19)) := fun u => by
      rw [if_neg (by rw [u]; decide)] at hE
      refine m_remove k2 (by omega) (by omega) k4 (fun U u1 u2 u3 u4 => hL _ ⟨U, ?_, ?_, ?_, ?_, ?_⟩)
      · rw [hE]
        show (_, _, _) = (nI (P - ((rmu P F (usd n F x y) k).2 - 1)), _, _)
        rw [show P - ((rmu P F (usd n F x y) k).2 - 1) = P - (rmu P F (usd n F x y) k).2 + 1 by omega]
      · exact fun f hf => (u1 f hf).trans (k1 f hf)
      · rw [hE]
        exact u2
      · exact fun a ha => (u3 a ha).trans (k3 a ha)
      · rw [hE]
        exact u4
    have keep : usd n F x y (P - 1 - k) = true → L (nI (P - (rmu P F (usd n F x y) k).2), nI (P - (k + 1)) - 1, T) := fun u => by
      rw [if_pos u] at hE
      exact hL _ ⟨T, by rw [hE], k1, by rw [hE]; exact k2, k3, by rw [hE]; exact k4⟩
    refine ⟨vp_in_nI (by omega) (by omega), vp_in_nI (n := 0) (by omega) (by omega), vp_in_nI (by omega) (by omega), ?_⟩
    unfold usd at rmv' keep
    cases e : y (lf F (P - 1 - k))
    · rw [e] at rmv'
      exact ⟨fun _ => rmv' rfl, fun c => absurd rfl c⟩
    · rw [e, Bool.true_and] at rmv' keep
      refine ⟨fun c => absurd c (by decide), fun _ => m_so hT hr' hb (by omega) ?_⟩
      rw [cg.1, i_0, nI_eq (by omega) (by omega)]
      exact ⟨fun c => keep (decide_eq_true (by omega)), fun c => rmv' (decide_eq_false (by omega))⟩
  · obtain ⟨T, rfl, k1, k2, k3, k4⟩ := hI
    unfold bX9_removeUseless_145
    refine ⟨fun _ => ?_, fun c => absurd (show nI (P - P) - 1 < 0 by rw [Nat.sub_self]; decide) c⟩
    simp only [forall_eq]
    exact hq T k1 k2 k3 k4
  · show (0, gI S 4 - 1, S) = (nI (P - P), nI (P - 0) - 1, S)
    rw [Nat.sub_self, Nat.sub_zero, e4]
    rfl
theorem m_ru (h : mG S n t st P F) {Post : Int32 → gS → Prop} (hq : ∀ T, (∀ f, f ≠ 4 → gI T f = gI (uI S 0 0) f) → gI T 4 = nI (rmu P F (usd n F (itn n P F n) (iq n P F (itn n P F n) st n)) P).2 → (∀ a, a ≠ 3 → a ≠ 4 → ¬ (16 ≤ a ∧ a < 40) → gA T a = gA S a) → rowsEq T (rmu P F (usd n F (itn n P F n) (iq n P F (itn n P F n) st n)) P).1 → Post (nI (P - (rmu P F (usd n F (itn n P F n) (iq n P F (itn n P F n) st n)) P).2)) (uI T 6 0)) : pX9_removeUseless S Post := by
  have hn : n ≤ 6 := h.1.2.2.2.2.2.1
  have hst : st < n := h.1.2.2.2.2.2.2.2.2.1
  have hP : P ≤ 24 := h.1.2.2.2.2.2.2.2.2.2
  have ok := h.2.2
  have hb := (bd_it hn ok n).le hn
  unfold pX9_removeUseless
  simp only [forall_eq]
  refine m_fs h.thr (fun T k1 k2 k3 => ?_)
  have hT : mG T n t st P F := h.thr.eq (fun f _ _ => by rw [k1]) (fun p _ => k2 _ (by omega))
  have e3 : gI T 3 = nI st := hT.1.2.2.1
  have e4 : gI T 4 = nI P := hT.1.2.2.2.1
  refine lp_inv (B := fun L w => bX9_removeUseless_11 Post L w.1 w.2) (fun k w => ∃ U, w = (nI k, U) ∧ gI U = gI T ∧ (∀ a, a ≠ 4 → gA U a = gA T a) ∧ ∀ a, a < k → gA U 4 a = if decide (a = st) = true then 1 else 0) 6 (fun k w L hk hI hL => ?_) (fun w L hI => ?_) ⟨T, rfl, rfl, fun _ _ => rfl, fun a g => by omega⟩
  · obtain ⟨U, rfl, u1, u2, u3⟩ := hI
    unfold bX9_removeUseless_11
    rw [u1, e3]
    refine ⟨fun c => absurd c (nI_ge (b := 6) hk (by omega)), fun _ => ?_⟩
    simp only [forall_eq]
    rw [nI_clamp (by omega), nI_1, nI_eq (by omega) (by omega), n_b0, n_b1]
    refine ⟨fun d => ⟨vp_in_nI hk (by omega), hL _ ⟨_, rfl, u1, fun a ha => ?_, fun a ha => ?_⟩⟩, fun d => ⟨vp_in_nI hk (by omega), hL _ ⟨_, rfl, u1, fun a ha => ?_, fun a ha => ?_⟩⟩⟩
    · rw [gA_uA, if_neg ha]
      exact u2 a ha
    · rw [gA_uA, if_pos rfl, upd_at]
      by_cases e : a = k
      · rw [if_pos e, if_neg (by rw [decide_eq_true_iff]; omega)]
      · rw [if_neg e]
        exact u3 a (by omega)
    · rw [gA_uA, if_neg ha]
      exact u2 a ha
    · rw [gA_uA, if_pos rfl, upd_at]
      by_cases e : a = k
      · rw [if_pos e, if_pos (by rw [decide_eq_true_iff]; omega)]
      · rw [if_neg e]
        exact u3 a (by omega)
  · obtain ⟨U, rfl, u1, u2, u3⟩ := hI
    unfold bX9_removeUseless_11
    refine ⟨fun _ => ?_, fun c => absurd (nI_le (a := 6) (by omega) (by omega)) c⟩
    refine lp_inv (B := fun L w => bX9_removeUseless_44 Post L w.1 w.2) (fun k w => ∃ U, w = (nI k, U) ∧ gI U = gI T ∧ (∀ a, a ≠ 4 → gA U a = gA T a) ∧ relb (gA U 4) (iq n P F (itn n P F n) st k)) 6 (fun k w L hk hI hL => ?_) (fun w L hI => ?_) ⟨U, rfl, u1, u2, u3⟩
    · obtain ⟨U, rfl, u1, u2, u3⟩ := hI
      unfold bX9_removeUseless_44
      refine ⟨fun c => absurd c (nI_ge (b := 6) hk (by omega)), fun _ => ?_⟩
      refine lp_inv (B := fun L' w => bX9_removeUseless_52 (nI k) L L' w.1 w.2) (fun p w => ∃ U, w = (nI p, U) ∧ gI U = gI T ∧ (∀ a, a ≠ 4 → gA U a = gA T a) ∧ relb (gA U 4) (rq n F (itn n P F n) (iq n P F (itn n P F n) st k) p)) P (fun p w L2 hp hI hL2 => ?_) (fun w L2 hI => ?_) ⟨U, rfl, u1, u2, u3⟩
      · obtain ⟨U, rfl, u1, u2, u3⟩ := hI
        have hU : mG U n t st P F := hT.eq (fun f _ _ => by rw [u1]) (fun p _ => u2 _ (by omega))
        unfold bX9_removeUseless_52
        rw [u1, e4]
        refine ⟨fun c => absurd c (nI_ge hp (by omega)), fun _ => ?_⟩
        exact m_rp hU (by rw [u2 3 (by decide)]; exact k3) hb hp u3 (fun V v1 v2 v3 => hL2 _ ⟨V, rfl, v1.trans u1, fun a ha => (v2 a ha).trans (u2 a ha), v3⟩)
      · obtain ⟨U, rfl, u1, u2, u3⟩ := hI
        unfold bX9_removeUseless_52
        rw [u1, e4]
        refine ⟨fun _ => ?_, fun c => absurd (nI_le (Nat.le_refl _) (by omega)) c⟩
        simp only [forall_eq]
        rw [nI_1]
        exact hL _ ⟨U, rfl, u1, u2, u3⟩
    · obtain ⟨U, rfl, u1, u2, u3⟩ := hI
      have hU : mG U n t st P F := hT.eq (fun f _ _ => by rw [u1]) (fun p _ => u2 _ (by omega))
      unfold bX9_removeUseless_44
      refine ⟨fun _ => ?_, fun c => absurd (nI_le (a := 6) (by omega) (by omega)) c⟩
      simp only [forall_eq]
      rw [iq_6 hst hn] at u3
      refine m_rm hU (by rw [u2 3 (by decide)]; exact k3) hb u3 (fun V v1 v2 v3 v4 => hq V (fun f hf => ?_) v2 (fun a a3 a4 ha => ?_) v4)
      · rw [v1 f hf, u1, k1]
      · rw [v3 a ha, u2 a a4, k2 a a3]
        rfl
end MR
theorem s_3 {a1 a2 a3 a4 : Int32} {Sx Sm : gS} (h : Inv Sx Sm) : qL_3 a1 a2 a3 a4 Sx Sm Inv := by
  obtain ⟨n, t, st, P, h1, ok, hm, hL, hW⟩ := h.G
  obtain ⟨g, gc, gw, gv, gl, gt⟩ := id h
  have hn : n ≤ 6 := h1.2.2.2.2.2.1
  have hb := (bd_it hn ok n).le hn
  unfold qL_3 pX8_removeUseless pX1_removeUnused
  refine c_mea h1 ok (fun A hA => ?_)
  have h1a : cG (sA Sx 11 A) n t st P := h1
  have eFa : gA (sA Sx 11 A) 10 = gA Sx 10 := by rw [gA_sA, if_neg (by decide)]
  refine c_rch (x := itn n P (gA Sx 10) n) h1a (by rw [eFa]; exact ok) (by rw [gA_sA, if_pos rfl]; exact hA) hb (fun B hB => ?_)
  rw [eFa] at hB
  have h1b : cG (sA (sA Sx 11 A) 12 B) n t st P := h1
  have eFb : gA (sA (sA Sx 11 A) 12 B) 10 = gA Sx 10 := by rw [gA_sA, if_neg (by decide), eFa]
  simp only [forall_eq]
  refine c_rmu (x := itn n P (gA Sx 10) n) (y := iq n P (gA Sx 10) (itn n P (gA Sx 10) n) st n) h1b (by rw [eFb]; exact ok) ?_ hb ?_ (fun T hT => c_forget ?_)
  · rw [gA_sA, if_neg (by decide), gA_sA, if_pos rfl]
    exact hA
  · rw [gA_sA, if_pos rfl]
    exact hB
  rw [eFb] at hT ⊢
  obtain ⟨m1, m2, m3, m4⟩ := rmu_ok (ud := usd n (gA Sx 10) (itn n P (gA Sx 10) n) (iq n P (gA Sx 10) (itn n P (gA Sx 10) n) st n)) ok P (Nat.le_refl _)
  have hP : P ≤ 24 := h1.2.2.2.2.2.2.2.2.2
  obtain ⟨c1, c2, c3, c4, c5⟩ := hT
  have c2' : ∀ f, f ≠ 4 → gI T f = gI Sx f := c2
  have c4' : ∀ a, a ≠ 10 → a ≠ 11 → a ≠ 12 → gA T a = gA Sx a := fun a x1 x2 x3 => by rw [c4 a x1, gA_sA, if_neg x3, gA_sA, if_neg x2]
  have c5' : gB T = gB Sx := c5
  refine m_ru hm (fun U k1 k2 k3 k4 => ⟨fun _ => ?_, fun c => c rfl⟩)
  have k1' : ∀ f, f ≠ 4 → f ≠ 0 → gI U f = gI Sm f := fun f x1 x2 => by rw [k1 f x1, gI_uI, if_neg x2]
  refine h.gram (n := n) (t := t) (st := st) (P := (rmu P (gA Sx 10) (usd n (gA Sx 10) (itn n P (gA Sx 10) n) (iq n P (gA Sx 10) (itn n P (gA Sx 10) n) st n)) P).2) ?_ ?_ ?_ ?_ ?_ ?_ ?_ ?_ ?_ ?_ ?_
  · unfold eqG at g ⊢
    simp only [gI_uI, gA_uI]
    simp
    rw [k1' 1 (by decide) (by decide), k1' 2 (by decide) (by decide), k1' 3 (by decide) (by decide), k1' 5 (by decide) (by decide), k2, k3 2 (by decide) (by decide) (by omega), c1, c2' 1 (by decide), c2' 2 (by decide), c2' 3 (by decide), c2' 5 (by decide), c3, c4' 13 (by decide) (by decide) (by decide)]
    exact ⟨g.1, g.2.1, g.2.2.1, rfl, g.2.2.2.2.1, k4, g.2.2.2.2.2.2⟩
  · simp only [gI_uI]
    simp
    rw [c1, c2' 1 (by decide), c2' 2 (by decide), c2' 3 (by decide)]
    exact ⟨h1.1, h1.2.1, h1.2.2.1, rfl, h1.2.2.2.2.1, h1.2.2.2.2.2.1, h1.2.2.2.2.2.2.1, h1.2.2.2.2.2.2.2.1, h1.2.2.2.2.2.2.2.2.1, by omega⟩
  · simp only [gA_uI]
    rw [c3]
    exact m4
  · simp only [gI_uI, gA_uI]
    simp
    rw [c2' 2 (by decide), c2' 5 (by decide), c4' 13 (by decide) (by decide) (by decide)]
    exact gw
  · simp [gI_uI]
  · simp [gI_uI]
  · simp only [gB_uI]
    rw [c5']
  · unfold eqV at gv ⊢
    simp only [gI_uI, gA_uI]
    simp
    rw [k1' 9 (by decide) (by decide), k1' 10 (by decide) (by decide), k1' 11 (by decide) (by decide), k1' 12 (by decide) (by decide), k1' 13 (by decide) (by decide), k1' 14 (by decide) (by decide), k3 15 (by decide) (by decide) (by omega), c2' 0 (by decide), c2' 6 (by decide), c2' 7 (by decide), c2' 8 (by decide), c2' 9 (by decide), c2' 10 (by decide), c4' 14 (by decide) (by decide) (by decide), c4' 17 (by decide) (by decide) (by decide)]
    refine ⟨gv.1, gv.2.imp id (fun w => ⟨w.1, w.2.1, w.2.2.1, w.2.2.2.1, w.2.2.2.2.1, w.2.2.2.2.2.1, w.2.2.2.2.2.2.1, w.2.2.2.2.2.2.2.1, fun p k hp hk => ?_, w.2.2.2.2.2.2.2.2.2⟩)⟩
    rw [k3 _ (by omega) (by omega) (by omega)]
    exact w.2.2.2.2.2.2.2.2.1 p k hp hk
  · unfold eqL at gl ⊢
    intro s hs
    simp only [gA_uI]
    rw [k3 11 (by decide) (by decide) (by omega), k3 12 (by decide) (by decide) (by omega), k3 (64 + s) (by omega) (by omega) (by omega), c4' 28 (by decide) (by decide) (by decide), c4' 29 (by decide) (by decide) (by decide), c4' 30 (by decide) (by decide) (by decide), c4' 31 (by decide) (by decide) (by decide)]
    exact gl s hs
  · simp [gI_uI]
  · simp [gI_uI]
end
