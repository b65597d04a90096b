/-! THE MATHEMATICS, 7: snapshot, restore, the array slots. -/
theorem m_copyS {S : gS} {Post : gS → Prop} (h : ∀ T : gS, (∀ f, gI T f = gI S f) → (∀ a, ¬ (40 ≤ a ∧ a < 64) → gA T a = gA S a) → (∀ p k, p < 24 → k < 4 → gA T (40 + p) k = gA S (16 + p) k) → Post T) : pX9_copyTable_s S Post := by
  unfold pX9_copyTable_s
  refine lp_inv (fun k x => x.1 = nI k ∧ (∀ f, gI x.2 f = gI S f) ∧ (∀ a, ¬ (40 ≤ a ∧ a < 64) → gA x.2 a = gA S a) ∧ ∀ p q, q < 4 → p < k → gA x.2 (40 + p) q = gA S (16 + p) q) 24 ?_ ?_ ⟨rfl, fun _ => rfl, fun _ _ => rfl, fun p q _ h => absurd h (by omega)⟩
  · rintro k ⟨x, T⟩ L hk ⟨e, h1, h2, h3⟩ hL
    dsimp only at e h1 h2 h3
    subst e
    unfold bX9_copyTable_s_2
    refine ⟨fun c => absurd c (nI_ge (b := 24) hk (by decide)), fun _ => ?_⟩
    refine lp_inv (fun j y => y.1 = nI j ∧ (∀ f, gI y.2 f = gI S f) ∧ (∀ a, ¬ (40 ≤ a ∧ a < 64) → gA y.2 a = gA S a) ∧ ∀ p q, q < 4 → (p < k ∨ p = k ∧ q < j) → gA y.2 (40 + p) q = gA S (16 + p) q) 4 ?_ ?_ ⟨rfl, h1, h2, fun p q hq hp => h3 p q hq (by omega)⟩
    · rintro j ⟨y, U⟩ L' hj ⟨e, g1, g2, g3⟩ hL'
      dsimp only at e g1 g2 g3
      subst e
      unfold bX9_copyTable_s_10
      simp only [forall_eq]
      refine ⟨fun c => absurd c (nI_ge (b := 4) hj (by decide)), fun _ => ⟨vp_in_nI hk (by decide), vp_in_nI hk (by decide), vp_in_nI hj (by decide), vp_in_nI hj (by decide), hL' _ ⟨nI_1 j, fun f => g1 f, fun a ha => ?_, fun p q hq hp => ?_⟩⟩⟩
      · rw [nI_clamp (by omega), gA_uA, if_neg (by omega)]
        exact g2 a ha
      · rw [nI_clamp (by omega), nI_clamp (by omega), gA_uA]
        by_cases c : 40 + p = 40 + k
        · rw [if_pos c, upd_at]
          by_cases d : q = j
          · rw [if_pos d, d, show p = k by omega, g2 _ (by omega)]
          · rw [if_neg d, show p = k by omega]
            exact g3 k q hq (by omega)
        · rw [if_neg c]
          exact g3 p q hq (by omega)
    · rintro ⟨y, U⟩ L' ⟨e, g1, g2, g3⟩
      dsimp only at e g1 g2 g3
      subst e
      unfold bX9_copyTable_s_10
      simp only [forall_eq]
      exact ⟨fun _ => hL _ ⟨nI_1 k, g1, g2, fun p q hq hp => g3 p q hq (by omega)⟩, fun c => absurd (nI_le (Nat.le_refl 4) (by decide)) c⟩
  · rintro ⟨x, T⟩ L ⟨e, h1, h2, h3⟩
    dsimp only at e h1 h2 h3
    subst e
    unfold bX9_copyTable_s_2
    exact ⟨fun _ => h T h1 h2 (fun p k hp hk => h3 p k hk hp), fun c => absurd (nI_le (Nat.le_refl 24) (by decide)) c⟩
theorem m_copyR {S : gS} {Post : gS → Prop} (h : ∀ T : gS, (∀ f, gI T f = gI S f) → (∀ a, ¬ (16 ≤ a ∧ a < 40) → gA T a = gA S a) → (∀ p k, p < 24 → k < 4 → gA T (16 + p) k = gA S (40 + p) k) → Post T) : pX9_copyTable_r S Post := by
  unfold pX9_copyTable_r
  refine lp_inv (fun k x => x.1 = nI k ∧ (∀ f, gI x.2 f = gI S f) ∧ (∀ a, ¬ (16 ≤ a ∧ a < 40) → gA x.2 a = gA S a) ∧ ∀ p q, q < 4 → p < k → gA x.2 (16 + p) q = gA S (40 + p) q) 24 ?_ ?_ ⟨rfl, fun _ => rfl, fun _ _ => rfl, fun p q _ h => absurd h (by omega)⟩
  · rintro k ⟨x, T⟩ L hk ⟨e, h1, h2, h3⟩ hL
    dsimp only at e h1 h2 h3
    subst e
    unfold bX9_copyTable_r_2
    refine ⟨fun c => absurd c (nI_ge (b := 24) hk (by decide)), fun _ => ?_⟩
    refine lp_inv (fun j y => y.1 = nI j ∧ (∀ f, gI y.2 f = gI S f) ∧ (∀ a, ¬ (16 ≤ a ∧ a < 40) → gA y.2 a = gA S a) ∧ ∀ p q, q < 4 → (p < k ∨ p = k ∧ q < j) → gA y.2 (16 + p) q = gA S (40 + p) q) 4 ?_ ?_ ⟨rfl, h1, h2, fun p q hq hp => h3 p q hq (by omega)⟩
    · rintro j ⟨y, U⟩ L' hj ⟨e, g1, g2, g3⟩ hL'
      dsimp only at e g1 g2 g3
      subst e
      unfold bX9_copyTable_r_10
      simp only [forall_eq]
      refine ⟨fun c => absurd c (nI_ge (b := 4) hj (by decide)), fun _ => ⟨vp_in_nI hk (by decide), vp_in_nI hk (by decide), vp_in_nI hj (by decide), vp_in_nI hj (by decide), hL' _ ⟨nI_1 j, fun f => g1 f, fun a ha => ?_, fun p q hq hp => ?_⟩⟩⟩
      · rw [nI_clamp (by omega), gA_uA, if_neg (by omega)]
        exact g2 a ha
      · rw [nI_clamp (by omega), nI_clamp (by omega), gA_uA]
        by_cases c : 16 + p = 16 + k
        · rw [if_pos c, upd_at]
          by_cases d : q = j
          · rw [if_pos d, d, show p = k by omega, g2 _ (by omega)]
          · rw [if_neg d, show p = k by omega]
            exact g3 k q hq (by omega)
        · rw [if_neg c]
          exact g3 p q hq (by omega)
    · rintro ⟨y, U⟩ L' ⟨e, g1, g2, g3⟩
      dsimp only at e g1 g2 g3
      subst e
      unfold bX9_copyTable_r_10
      simp only [forall_eq]
      exact ⟨fun _ => hL _ ⟨nI_1 k, g1, g2, fun p q hq hp => g3 p q hq (by omega)⟩, fun c => absurd (nI_le (Nat.le_refl 4) (by decide)) c⟩
  · rintro ⟨x, T⟩ L ⟨e, h1, h2, h3⟩
    dsimp only at e h1 h2 h3
    subst e
    unfold bX9_copyTable_r_2
    exact ⟨fun _ => h T h1 h2 (fun p k hp hk => h3 p k hk hp), fun c => absurd (nI_le (Nat.le_refl 24) (by decide)) c⟩
theorem m_snap {S : gS} {Post : gS → Prop} (h : ∀ T : gS, (∀ f, f < 10 → f ≠ 0 → f ≠ 9 → gI T f = gI S f) → gI T 9 = 1 → gI T 10 = gI S 1 → gI T 11 = gI S 2 → gI T 12 = gI S 3 → gI T 13 = gI S 4 → gI T 14 = gI S 5 → (∀ a, ¬ (40 ≤ a ∧ a < 64) → a ≠ 15 → gA T a = gA S a) → (∀ p k, p < 24 → k < 4 → gA T (40 + p) k = gA S (16 + p) k) → (∀ i, i < 8 → gA T 15 i = gA S 2 i) → Post T) : pX9_snapshot S Post := by
  unfold pX9_snapshot
  simp only [forall_eq]
  refine m_copyS (fun T h1 h2 h3 => ?_)
  simp only [gI_uI, gA_uI] at h1 h2 h3
  have := lp_seq (B := fun L x => bX9_snapshot_63 Post L x.1 x.2) (fun k => (nI k, sA T 15 (cpy k (gA T 2) (gA T 15)))) 8 (fun k L hk hL => ?_) (fun L => ?_)
  · simp only [cpy_0, sA_id] at this
    exact this
  · unfold bX9_snapshot_63
    simp only [forall_eq]
    refine ⟨fun d => absurd d (nI_ge (b := 8) hk (by decide)), fun _ => ⟨vp_in_nI hk (by decide), vp_in_nI hk (by decide), ?_⟩⟩
    rw [nI_clamp (by omega), uA_s, gA_sA, if_pos rfl, gA_sA, if_neg (by decide), cpy_s, sA_sA, nI_1]
    exact hL
  · unfold bX9_snapshot_63
    refine ⟨fun _ => h _ (fun f f1 f2 f3 => ?_) ?_ ?_ ?_ ?_ ?_ ?_ (fun a ha hb => ?_) (fun p k hp hk => ?_) (fun i hi => ?_), fun d => absurd (nI_le (Nat.le_refl 8) (by decide)) d⟩
    · rw [gI_sA, h1, if_neg (by omega), if_neg (by omega), if_neg (by omega), if_neg (by omega), if_neg (by omega), if_neg (by omega), if_neg (by omega)]
    · rw [gI_sA, h1]; simp
    · rw [gI_sA, h1]; simp
    · rw [gI_sA, h1]; simp
    · rw [gI_sA, h1]; simp
    · rw [gI_sA, h1]; simp
    · rw [gI_sA, h1]; simp
    · rw [gA_sA, if_neg hb, h2 a ha]
    · rw [gA_sA, if_neg (by omega), h3 p k hp hk]
    · rw [gA_sA, if_pos rfl, cpy_lt hi, h2 2 (by omega)]
theorem m_rest {S : gS} {Post : gS → Prop} (h9 : gI S 9 = 1) (h : ∀ T : gS, (∀ f, 6 < f → gI T f = gI S f) → gI T 0 = 0 → gI T 1 = gI S 10 → gI T 2 = gI S 11 → gI T 3 = gI S 12 → gI T 4 = gI S 13 → gI T 5 = gI S 14 → gI T 6 = 0 → (∀ a, ¬ (16 ≤ a ∧ a < 40) → a ≠ 2 → gA T a = gA S a) → (∀ p k, p < 24 → k < 4 → gA T (16 + p) k = gA S (40 + p) k) → (∀ i, i < 8 → gA T 2 i = gA S 15 i) → Post T) : pX9_restore S Post := by
  unfold pX9_restore
  refine ⟨fun _ => ?_, fun c => absurd (h9.symm.trans c) (by decide)⟩
  unfold jX9_restore_14
  refine m_f0 ⟨fun _ => ?_, fun c => absurd rfl c⟩
  simp only [forall_eq]
  refine m_copyR (fun T h1 h2 h3 => ?_)
  simp only [gI_uI, gA_uI] at h1 h2 h3
  have := lp_seq (B := fun L x => bX9_restore_74 Post L x.1 x.2) (fun k => (nI k, sA T 2 (cpy k (gA T 15) (gA T 2)))) 8 (fun k L hk hL => ?_) (fun L => ?_)
  · simp only [cpy_0, sA_id] at this
    exact this
  · unfold bX9_restore_74
    simp only [forall_eq]
    refine ⟨fun d => absurd d (nI_ge (b := 8) hk (by decide)), fun _ => ⟨vp_in_nI hk (by decide), vp_in_nI hk (by decide), ?_⟩⟩
    rw [nI_clamp (by omega), uA_s, gA_sA, if_pos rfl, gA_sA, if_neg (by decide), cpy_s, sA_sA, nI_1]
    exact hL
  · unfold bX9_restore_74
    simp only [forall_eq]
    refine ⟨fun _ => h _ (fun f f1 => ?_) ?_ ?_ ?_ ?_ ?_ ?_ ?_ (fun a ha hb => ?_) (fun p k hp hk => ?_) (fun i hi => ?_), fun d => absurd (nI_le (Nat.le_refl 8) (by decide)) d⟩
    · rw [gI_uI, if_neg (by omega), gI_sA, h1, if_neg (by omega), if_neg (by omega), if_neg (by omega), if_neg (by omega), if_neg (by omega), if_neg (by omega)]
    · rw [gI_uI, if_neg (by omega), gI_sA, h1]; simp
    · rw [gI_uI, if_neg (by omega), gI_sA, h1]; simp
    · rw [gI_uI, if_neg (by omega), gI_sA, h1]; simp
    · rw [gI_uI, if_neg (by omega), gI_sA, h1]; simp
    · rw [gI_uI, if_neg (by omega), gI_sA, h1]; simp
    · rw [gI_uI, if_neg (by omega), gI_sA, h1]; simp
    · rw [gI_uI, if_pos rfl]
    · rw [gA_uI, gA_sA, if_neg hb, h2 a ha]
    · rw [gA_uI, gA_sA, if_neg (by omega), h3 p k hp hk]
    · rw [gA_uI, gA_sA, if_pos rfl, cpy_lt hi, h2 15 (by omega)]
theorem rgG_eq {a b c d a' b' c' d' : Int32} {F F' : Nat → Int32} (h : vG a b c d F) (ha : a' = a) (hb : b' = b) (hc : c' = c) (hd : d' = d) (hF : ∀ i, i < 96 → F' i = F i) : vG a' b' c' d' F' := by
  obtain ⟨n, t, st, P, hr, hp, hq⟩ := h
  subst ha hb hc hd
  have e := hr.2.2.2.2.2.2.2.2.2
  refine ⟨n, t, st, P, hr, fun p h1 => ?_, fun p q h1 h2 h3 => hq p q h1 h2 (fun k hk => ?_)⟩
  · rw [hF _ (by omega), hF _ (by omega), hF _ (by omega), hF _ (by omega)]
    exact hp p h1
  · have h4 := h3 k hk
    rw [hF _ (by omega), hF _ (by omega)] at h4
    exact h4
theorem vW_eq {b e b' e' : Int32} {W W' : Nat → Int32} (h : vW b e W) (hb : b' = b) (he : e' = e) (hW : ∀ i, i < 8 → W' i = W i) : vW b' e' W' := by
  obtain ⟨z, z8, ez, hz⟩ := h
  subst hb he
  exact ⟨z, z8, ez, fun i hi => by rw [hW i (by omega)]; exact hz i hi⟩
theorem s_30 {a1 a2 a3 a4 : Int32} {Sx Sm : gS} (h : Inv Sx Sm) : qL_30 a1 a2 a3 a4 Sx Sm Inv := by
  obtain ⟨g, gc, gw, gv, gl, gt⟩ := id h
  unfold qL_30 pX8_snapshot
  refine c_copy31 (c_copy42 ?_)
  simp only [forall_eq]
  refine m_snap (fun T k1 k2 k3 k4 k5 k6 k7 k8 k9 k10 => ?_)
  refine ⟨?_, ?_, ?_, ?_, ?_, ?_⟩
  · unfold eqG at g ⊢
    simp only [gI_uI, gI_sA, gA_uI, gA_sA]
    rw [k1 1 (by omega) (by omega) (by omega), k1 2 (by omega) (by omega) (by omega), k1 3 (by omega) (by omega) (by omega), k1 4 (by omega) (by omega) (by omega), k1 5 (by omega) (by omega) (by omega), k8 2 (by omega) (by omega)]
    simp
    exact ⟨g.1, g.2.1, g.2.2.1, g.2.2.2.1, g.2.2.2.2.1, fun p k hp hk => by rw [k8 _ (by omega) (by omega)]; exact g.2.2.2.2.2.1 p k hp hk, g.2.2.2.2.2.2⟩
  · unfold eqC at gc ⊢
    simp only [gI_uI, gI_sA, gA_uI, gA_sA, gB_uI, gB_sA]
    simpa using gc
  · simp only [gI_uI, gI_sA, gA_uI, gA_sA]
    simpa using gw
  · obtain ⟨n, t, st, P, hr, hp, -, -⟩ := gc
    unfold eqV
    simp only [gI_uI, gI_sA, gA_uI, gA_sA]
    rw [k2, k3, k4, k5, k6, k7]
    simp
    refine ⟨rgG_eq ⟨n, t, st, P, hr, hp⟩ rfl rfl rfl rfl (fun i hi => cpy_lt hi), vW_eq gw rfl rfl (fun i hi => cpy_lt hi), g.1, g.2.1, g.2.2.1, g.2.2.2.1, g.2.2.2.2.1, fun p k hp hk => ?_, fun i hi => ?_⟩
    · rw [k9 p k hp hk, cpy_lt (by omega)]
      exact g.2.2.2.2.2.1 p k hp hk
    · rw [k10 i hi, cpy_lt hi]
      exact g.2.2.2.2.2.2 i hi
  · unfold eqL at gl ⊢
    intro s hs
    simp only [gA_uI, gA_sA]
    rw [k8 11 (by omega) (by omega), k8 12 (by omega) (by omega), k8 (64 + s) (by omega) (by omega)]
    simpa using gl s hs
  · unfold eqT at gt ⊢
    simp only [gI_uI, gI_sA, gA_uI, gA_sA, gJ_uI, gJ_sA]
    rw [k1 6 (by omega) (by omega) (by omega), k8 8 (by omega) (by omega), k8 9 (by omega) (by omega), k8 10 (by omega) (by omega)]
    simpa using gt
theorem s_31 {a1 a2 a3 a4 : Int32} {Sx Sm : gS} (h : Inv Sx Sm) : qL_31 a1 a2 a3 a4 Sx Sm Inv := by
  obtain ⟨g, gc, gw, gv, gl, gt⟩ := id h
  have gv' := gv
  unfold qL_31 pL_restore pX8_restore
  obtain ⟨v0, v1 | ⟨v1, w1, w2, w3, w4, w5, w6, w7, w8, w9⟩⟩ := gv
  · refine ⟨fun c => absurd v1 c, fun _ => ⟨rfl, ?_⟩⟩
    unfold pX9_restore jX9_restore_14
    refine ⟨fun c => absurd (v0.trans v1) c, fun _ => m_f1 ⟨fun c => absurd c (by decide), fun _ => finv rd0 h.thr⟩⟩
  · refine ⟨fun _ => c_copy13 (c_copy24 (c_forget ?_)), fun c => absurd (v1.symm.trans c) (by decide)⟩
    refine m_rest (v0.trans v1) (fun T k1 k0 k2 k3 k4 k5 k6 k7 k8 k9 k10 => finv k0 ?_)
    have vg := w1
    obtain ⟨n, t, st, P, hr, hp⟩ := rgG_eq (a' := gI Sx 6) (b' := gI Sx 7) (c' := gI Sx 8) (d' := gI Sx 9) (F' := cpy 96 (gA Sx 14) (gA Sx 10)) w1 rfl rfl rfl rfl (fun i hi => cpy_lt hi)
    refine h.gram (n := n) (t := t) (st := st) (P := P) ?_ ?_ ?_ ?_ ?_ ?_ ?_ ?_ ?_ ?_ k7
    · unfold eqG
      simp only [gI_uI, gI_sA, gA_uI, gA_sA]
      rw [k2, k3, k4, k5, k6]
      simp
      refine ⟨w3, w4, w5, w6, w7, fun p k hp hk => ?_, fun i hi => ?_⟩
      · rw [k9 p k hp hk, cpy_lt (by omega)]
        exact w8 p k hp hk
      · rw [k10 i hi, cpy_lt hi]
        exact w9 i hi
    · simp only [gI_uI, gI_sA]
      simpa using hr
    · simp only [gA_uI, gA_sA]
      simpa using hp
    · simp only [gI_uI, gI_sA, gA_uI, gA_sA]
      simp
      exact vW_eq w2 rfl rfl (fun i hi => cpy_lt hi)
    · simp [gI_uI]
    · simp [gI_uI]
    · rfl
    · unfold eqV at gv' ⊢
      simp only [gI_uI, gI_sA, gA_uI, gA_sA]
      rw [k1 9 (by omega), k1 10 (by omega), k1 11 (by omega), k1 12 (by omega), k1 13 (by omega), k1 14 (by omega), k8 15 (by omega) (by omega)]
      simp
      refine ⟨gv'.1, gv'.2.imp id (fun w => ⟨w.1, w.2.1, w.2.2.1, w.2.2.2.1, w.2.2.2.2.1, w.2.2.2.2.2.1, w.2.2.2.2.2.2.1, w.2.2.2.2.2.2.2.1, fun p k hp hk => ?_, w.2.2.2.2.2.2.2.2.2⟩)⟩
      rw [k8 _ (by omega) (by omega)]
      exact w.2.2.2.2.2.2.2.2.1 p k hp hk
    · unfold eqL at gl ⊢
      intro s hs
      simp only [gA_uI, gA_sA]
      rw [k8 11 (by omega) (by omega), k8 12 (by omega) (by omega), k8 (64 + s) (by omega) (by omega)]
      simpa using gl s hs
    · simp [gI_uI]
