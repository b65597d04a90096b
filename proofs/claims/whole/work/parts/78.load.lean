/-! THE MATHEMATICS, 9: loadWord. -/
theorem cmp_gt {x y : Int64} : 0 < lg_cmp x y ↔ y.toInt < x.toInt := by
  unfold lg_cmp
  simp only [gt_iff_lt, Int64.lt_iff_toInt_lt, ← Int64.toInt_inj]
  repeat' split
  all_goals first | (refine ⟨fun _ => by omega, fun _ => by decide⟩; done) | (refine ⟨fun c => absurd c (by decide), fun c => absurd c (by omega)⟩; done)
theorem cmp_lt {x y : Int64} : lg_cmp x y < 0 ↔ x.toInt < y.toInt := by
  unfold lg_cmp
  simp only [gt_iff_lt, Int64.lt_iff_toInt_lt, ← Int64.toInt_inj]
  repeat' split
  all_goals first | (refine ⟨fun _ => by omega, fun _ => by decide⟩; done) | (refine ⟨fun c => absurd c (by decide), fun c => absurd c (by omega)⟩; done)
theorem cmp_le {x y : Int64} : lg_cmp x y ≤ 0 ↔ x.toInt ≤ y.toInt := by
  unfold lg_cmp
  simp only [gt_iff_lt, Int64.lt_iff_toInt_lt, ← Int64.toInt_inj]
  repeat' split
  all_goals first | (refine ⟨fun _ => by omega, fun _ => by decide⟩; done) | (refine ⟨fun c => absurd c (by decide), fun c => absurd c (by omega)⟩; done)
theorem cmp_ge {x y : Int64} : 0 ≤ lg_cmp x y ↔ y.toInt ≤ x.toInt := by
  unfold lg_cmp
  simp only [gt_iff_lt, Int64.lt_iff_toInt_lt, ← Int64.toInt_inj]
  repeat' split
  all_goals first | (refine ⟨fun _ => by omega, fun _ => by decide⟩; done) | (refine ⟨fun c => absurd c (by decide), fun c => absurd c (by omega)⟩; done)
theorem cmp_eq {x y : Int64} : lg_cmp x y = 0 ↔ x = y := by
  unfold lg_cmp
  simp only [gt_iff_lt, Int64.lt_iff_toInt_lt, ← Int64.toInt_inj]
  repeat' split
  all_goals first | (refine ⟨fun _ => by omega, fun _ => by decide⟩; done) | (refine ⟨fun c => absurd c (by decide), fun c => absurd c (by omega)⟩; done)
theorem ls_i {x y : Int32} : (x.toInt64 + y.toInt64).toInt = x.toInt + y.toInt := by
  have r1 := rg_i x
  have r2 := rg_i y
  rw [Int64.toInt_add, Int32.toInt_toInt64, Int32.toInt_toInt64, Int.bmod_eq_of_le (by omega) (by omega)]
/-- are all of so many elements terminals? -/
def allT (t c : Nat) (E : Nat → Int32) : Prop := ∀ i, i < c → 0 ≤ (E i).toInt ∧ (E i).toInt < t
theorem s_29 {a1 a2 a3 a4 : Int32} {Sx Sm : gS} (h : Inv Sx Sm) : qL_29 a1 a2 a3 a4 Sx Sm Inv := by
  obtain ⟨g, gc, gw, gv, gl, gt⟩ := id h
  obtain ⟨n, t, st, P, hr, hp, hcl, hcw⟩ := gc
  have hr' := hr
  obtain ⟨e1, e2, e3, e4, b1, b2, b3, b4, b5, b6⟩ := hr'
  have e2' : gI Sm 2 = nI t := by rw [g.2.1, e2]
  have m24 : ∀ {Post : gS → Prop} {s c : Nat}, s < 3 → c ≤ 8 → a1 = nI s → a3 = nI c → jX9_loadWord_24 a1 a2 a3 Sm Post 0 → pX9_loadWord a1 a2 a3 Sm Post := by
    intro Post s c hs hc es ec hj
    unfold pX9_loadWord
    refine m_slot (fun _ _ _ => ⟨fun c => absurd c (by decide), fun _ => m_bt (fun _ _ => ⟨fun _ => hj, fun c => absurd c (by decide)⟩) (fun d => absurd ?_ d)⟩) (fun c => absurd c (by rw [es]; exact nslot hs))
    rw [ec, nI_toInt (by omega), t_0, t_8]
    omega
  have bad : ∀ {Post : gS → Prop}, ¬ ((0 ≤ a1.toInt ∧ a1.toInt < 3) ∧ 0 ≤ a3.toInt ∧ a3.toInt ≤ 8) → Post (uI Sm 0 1) → pX9_loadWord a1 a2 a3 Sm Post := by
    intro Post c hP
    have j1 : jX9_loadWord_24 a1 a2 a3 Sm Post 1 := by
      unfold jX9_loadWord_24
      exact m_f1 ⟨fun _ => hP, fun c => absurd c (by decide)⟩
    unfold pX9_loadWord
    refine m_slot (fun s hs es => ⟨fun c => absurd c (by decide), fun _ => m_bt (fun c1 c2 => absurd ⟨?_, c1, c2⟩ c) (fun _ => ⟨fun c => absurd rfl c, fun _ => j1⟩)⟩) (fun _ => ⟨fun _ => j1, fun c => absurd rfl c⟩)
    rw [es]
    exact Classical.not_not.mp (nslot hs)
  unfold qL_29 pL_loadWord pX8_loadWord
  refine c_slot (fun s hs es => ?_) (fun c => Or.inl ⟨rfl, bad (fun d => c d.1) (finv rd0 h.thr)⟩)
  refine ⟨fun c => Or.inl ⟨rfl, bad (fun d => ?_) (finv rd0 h.thr)⟩, fun c0 => ⟨fun c1 => ?_, fun c1 => Or.inl ⟨rfl, bad (fun d => ?_) (finv rd0 h.thr)⟩⟩⟩
  · rw [lt_i, t_0] at c
    omega
  · rw [lt_i, t_0] at c0
    rw [le_i, t_8] at c1
    obtain ⟨c, hc, ec⟩ := nI_of' (x := a3) (by omega)
    rw [ec, nI_toInt hc] at c1
    have hc8 : c ≤ 8 := by omega
    rw [es, ec]
    rcases gl s hs with ⟨l1, l2⟩ | ⟨l1, z, z40, l2, l3, l4, l5⟩
    · refine c_array hs (fun _ => Or.inr (Or.inl ⟨rfl, ?_⟩)) (fun c => absurd l1 c)
      rw [← es, ← ec]
      refine m24 hs hc8 es ec ?_
      unfold jX9_loadWord_24 jX9_loadWord_46
      rw [es]
      refine m_f0 ⟨fun c => absurd rfl c, fun _ => ⟨vp_in_nI hs (by decide), ?_⟩⟩
      rw [nI_clamp (by omega), gA_uI, l2]
      exact ⟨fun c => absurd c (by decide), fun _ => m_f1 ⟨fun c => absurd c (by decide), fun _ => finv rd0 h.thr.thr⟩⟩
    · refine c_array hs (fun c => absurd (l1.symm.trans c) (by decide)) (fun _ => ?_)
      -- the model, past its first two tests
      have m46 : ∀ {Post : gS → Prop}, jX9_loadWord_46 (nI s) a2 (nI c) Post (uI Sm 0 0) 0 → pX9_loadWord (nI s) a2 (nI c) Sm Post := by
        intro Post hj
        rw [← es, ← ec]
        refine m24 hs hc8 es ec ?_
        unfold jX9_loadWord_24
        rw [es, ec]
        refine m_f0 ⟨fun c => absurd rfl c, fun _ => ⟨vp_in_nI hs (by decide), ?_⟩⟩
        rw [nI_clamp (by omega), gA_uI, l2]
        exact ⟨fun _ => hj, fun c => absurd (nI_pos' (by omega)) c⟩
      -- the two sides, where all indexes are inside
      have both : ∀ x : Nat, (c = 0 ∨ x + c ≤ z) → (∀ k, k < c → a2 + nI k = nI (x + k)) →
          jX8_loadWord_41 (nI s) a2 (nI c) Sx (fun S1 => (fun k_1 Sx_2 => pX9_loadWord (nI s) a2 (nI c) Sm (fun Sm_4 => pX9_thrown Sm_4 (fun r_5 => (r_5 = k_1 → Inv Sx_2 Sm_4) ∧ (¬ r_5 = k_1 → False)))) 0 S1)
            (fun E S1 => (E = "java/lang/IllegalArgumentException" ∧ (fun k_1 Sx_2 => pX9_loadWord (nI s) a2 (nI c) Sm (fun Sm_4 => pX9_thrown Sm_4 (fun r_5 => (r_5 = k_1 → Inv Sx_2 Sm_4) ∧ (¬ r_5 = k_1 → False)))) 1 S1) ∨ (E = "java/lang/IllegalStateException" ∧ (fun k_1 Sx_2 => pX9_loadWord (nI s) a2 (nI c) Sm (fun Sm_4 => pX9_thrown Sm_4 (fun r_5 => (r_5 = k_1 → Inv Sx_2 Sm_4) ∧ (¬ r_5 = k_1 → False)))) 2 S1) ∨ (E = "java/lang/IndexOutOfBoundsException" ∧ (fun k_1 Sx_2 => pX9_loadWord (nI s) a2 (nI c) Sm (fun Sm_4 => pX9_thrown Sm_4 (fun r_5 => (r_5 = k_1 → Inv Sx_2 Sm_4) ∧ (¬ r_5 = k_1 → False)))) 3 S1) ∨ (E = "java/util/NoSuchElementException" ∧ (fun k_1 Sx_2 => pX9_loadWord (nI s) a2 (nI c) Sm (fun Sm_4 => pX9_thrown Sm_4 (fun r_5 => (r_5 = k_1 → Inv Sx_2 Sm_4) ∧ (¬ r_5 = k_1 → False)))) 4 S1)) := by
        intro x hx ex
        have em : ∀ k, k < c → gA Sm (64 + s) (x + k) = gA Sx 31 (40 * s + (x + k)) := fun k hk => l5 _ (by omega)
        -- the model past its third test
        have m96 : ∀ {Post : gS → Prop}, jX9_loadWord_96 (nI s) a2 (nI c) Post (uI (uI Sm 0 0) 0 0) 0 → pX9_loadWord (nI s) a2 (nI c) Sm Post := by
          intro Post hj
          refine m46 ?_
          unfold jX9_loadWord_46 jX9_loadWord_82
          refine m_f0 ⟨fun _ => ⟨fun _ => ⟨fun _ => hj, fun c => absurd c (by decide)⟩, fun d1 => ?_⟩, fun c => absurd rfl c⟩
          have hc0 : c ≠ 0 := fun d => d1 (by rw [d]; rfl)
          have e0 := ex 0 (by omega)
          have ea : a2 = nI x := by
            rw [← i_0, Int32.add_zero] at e0
            exact e0
          rw [ea]
          refine ⟨fun d => absurd d (nI_pos (by omega)), fun _ => ⟨vp_in_nI hs (by decide), ?_⟩⟩
          rw [nI_clamp (by omega), gA_uI, gA_uI, l2, cmp_gt, ls_i, nI_toInt (by omega), nI_toInt (by omega), Int32.toInt_toInt64, nI_toInt (by omega)]
          exact ⟨fun d => absurd d (by omega), fun _ => ⟨fun _ => by rw [← ea]; exact hj, fun c => absurd c (by decide)⟩⟩
        have mT : ∀ {Post : gS → Prop}, (allT t c (fun k => gA Sx 31 (40 * s + (x + k))) → Post (uI (uI (sA (uI (uI (uI (uI Sm 0 0) 0 0) 0 0) 0 0) 2 (cpy c (fun k => gA Sm (64 + s) (x + k)) (gA Sm 2))) 5 (nI c)) 6 0)) → (¬ allT t c (fun k => gA Sx 31 (40 * s + (x + k))) → Post (uI (uI (uI (uI Sm 0 0) 0 0) 0 0) 0 4)) → pX9_loadWord (nI s) a2 (nI c) Sm Post := by
          intro Post h1 h0
          refine m96 ?_
          unfold jX9_loadWord_96
          refine m_f0 ⟨fun c => absurd rfl c, fun _ => ?_⟩
          have e : (gI (uI (uI (uI Sm 0 0) 0 0) 0 0) 2 - 1).toInt = (t : Int) - 1 := by
            rw [gI_uI, if_neg (by decide), gI_uI, if_neg (by decide), gI_uI, if_neg (by decide), e2', sub_i] <;> rw [nI_toInt (by omega), t_1] <;> omega
          unfold pX9_areTerminals
          refine lp_ex (fun k y => y = nI k ∧ allT t k (fun k => gA Sx 31 (40 * s + (x + k)))) c ?_ ⟨rfl, fun i hi => absurd hi (by omega)⟩
          rintro k y hk ⟨rfl, hA⟩
          by_cases hkc : k < c
          · by_cases hb : 0 ≤ (gA Sx 31 (40 * s + (x + k))).toInt ∧ (gA Sx 31 (40 * s + (x + k))).toInt < t
            · refine Or.inr ⟨hkc, fun L hL => ?_⟩
              unfold bX9_areTerminals_3
              simp only [forall_eq]
              refine ⟨fun d => absurd d (nI_ge hkc (by omega)), fun _ => ⟨vp_in_nI hs (by decide), ?_⟩⟩
              rw [ex k hkc, nI_clamp (by omega), nI_clamp (by omega), gA_uI, gA_uI, gA_uI, em k hkc]
              refine ⟨vp_in_nI (by omega) (by decide), m_bt (fun _ _ => ⟨fun _ => hL _ ⟨nI_1 k, fun i hi => ?_⟩, fun c => absurd c (by decide)⟩) (fun d => absurd ?_ d)⟩
              · by_cases hik : i = k
                · rw [hik]; exact hb
                · exact hA i (by omega)
              · rw [e, t_0]
                omega
            · refine Or.inl (fun L => ?_)
              unfold bX9_areTerminals_3
              refine ⟨fun d => absurd d (nI_ge hkc (by omega)), fun _ => ⟨vp_in_nI hs (by decide), ?_⟩⟩
              rw [ex k hkc, nI_clamp (by omega), nI_clamp (by omega), gA_uI, gA_uI, gA_uI, em k hkc]
              refine ⟨vp_in_nI (by omega) (by decide), m_bt (fun d1 d2 => absurd ?_ hb) (fun _ => ⟨fun c => absurd rfl c, fun _ => ⟨fun c => absurd rfl c, fun _ => ?_⟩⟩)⟩
              · rw [t_0] at d1
                rw [e] at d2
                omega
              · unfold jX9_loadWord_119
                exact m_f1 ⟨fun c => absurd c (by decide), fun _ => h0 (fun d => hb (d k hkc))⟩
          · have hkc' : k = c := by omega
            subst hkc'
            refine Or.inl (fun L => ?_)
            unfold bX9_areTerminals_3
            refine ⟨fun _ => ⟨fun _ => ?_, fun c => absurd c (by decide)⟩, fun d => absurd (nI_le (Nat.le_refl k) (by omega)) d⟩
            unfold jX9_loadWord_119
            refine m_f0 ⟨fun _ => ?_, fun c => absurd rfl c⟩
            generalize hT : uI (uI (uI (uI Sm 0 0) 0 0) 0 0) 0 0 = T at h1 ⊢
            have eT : ∀ a, gA T a = gA Sm a := fun a => by rw [← hT]; rfl
            have h2 := h1 hA
            rw [← eT, ← eT] at h2
            have := lp_seq (B := fun L x => bX9_loadWord_129 (nI s) a2 (nI k) Post L x.1 x.2) (fun j => (nI j, sA T 2 (cpy j (fun j => gA T (64 + s) (x + j)) (gA T 2)))) k (fun j L hj hL => ?_) (fun L => ?_)
            · simp only [cpy_0, sA_id] at this
              exact this
            · unfold bX9_loadWord_129
              simp only [forall_eq]
              refine ⟨fun d => absurd d (nI_ge hj (by omega)), fun _ => ⟨vp_in_nI hs (by decide), ?_⟩⟩
              rw [ex j hj]
              refine ⟨vp_in_nI (by omega) (by decide), vp_in_nI (by omega) (by decide), ?_⟩
              rw [nI_clamp (by omega), nI_clamp (by omega), nI_clamp (by omega), uA_s, gA_sA, if_pos rfl, gA_sA, if_neg (by omega), show upd (cpy j (fun j => gA T (64 + s) (x + j)) (gA T 2)) j (gA T (64 + s) (x + j)) = cpy (j + 1) (fun j => gA T (64 + s) (x + j)) (gA T 2) from cpy_s, sA_sA, nI_1]
              exact hL
            · unfold bX9_loadWord_129
              simp only [forall_eq]
              exact ⟨fun _ => h2, fun d => absurd (nI_le (Nat.le_refl k) (by omega)) d⟩
        unfold jX8_loadWord_41
        refine lp_ex (fun k y => y = nI k ∧ allT t k (fun k => gA Sx 31 (40 * s + (x + k)))) c ?_ ⟨rfl, fun i hi => absurd hi (by omega)⟩
        rintro k y hk ⟨rfl, hA⟩
        by_cases hkc : k < c
        · by_cases hb : 0 ≤ (gA Sx 31 (40 * s + (x + k))).toInt ∧ (gA Sx 31 (40 * s + (x + k))).toInt < t
          · refine Or.inr ⟨hkc, fun L hL => ?_⟩
            unfold bX8_loadWord_44
            refine ⟨fun d => absurd d (nI_ge hkc (by omega)), fun _ => ?_⟩
            rw [ex k hkc]
            refine c_elem hs l1 (by omega) (c_isTn (S := Sx) hr (fun _ _ => ⟨fun _ y ey => ?_, fun c => absurd c (by decide)⟩) (fun d => absurd hb d))
            subst ey
            refine hL _ ⟨nI_1 k, fun i hi => ?_⟩
            by_cases hik : i = k
            · rw [hik]; exact hb
            · exact hA i (by omega)
          · refine Or.inl (fun L => ?_)
            unfold bX8_loadWord_44
            refine ⟨fun d => absurd d (nI_ge hkc (by omega)), fun _ => ?_⟩
            rw [ex k hkc]
            refine c_elem hs l1 (by omega) (c_isTn (S := Sx) hr (fun d1 d2 => absurd ⟨d1, d2⟩ hb) (fun _ => ⟨fun c => absurd rfl c, fun _ => Or.inr (Or.inr (Or.inr ⟨rfl, ?_⟩))⟩))
            exact mT (fun d => absurd (d k hkc) hb) (fun _ => finv rd0 h.thr.thr.thr.thr)
        · have hkc' : k = c := by omega
          subst hkc'
          refine Or.inl (fun L => ?_)
          unfold bX8_loadWord_44
          refine ⟨fun _ T eT => ?_, fun d => absurd (nI_le (Nat.le_refl k) (by omega)) d⟩
          have eA : ∀ a, gA T a = gA Sx a := fun a => by rw [eT]; rfl
          have fin1 : pX9_loadWord (nI s) a2 (nI k) Sm (fun Sm_4 => pX9_thrown Sm_4 (fun r_5 => (r_5 = 0 → Inv (uI (sA T 13 (cpy k (fun j => gA T 31 (40 * s + (x + j))) (gA T 13))) 14 0) Sm_4) ∧ (¬ r_5 = 0 → False))) := by
            refine mT (fun _ => finv ?_ ?_) (fun d => absurd hA d)
            · simp [gI_uI, gI_sA]
            · subst eT
              refine ⟨?_, ?_, ⟨k, hc8, ?_, fun i hi => ?_⟩, ?_, ?_, Or.inl ?_⟩
              · unfold eqG at g ⊢
                simp only [gI_uI, gI_sA, gA_uI, gA_sA]
                simp
                refine ⟨g.1, g.2.1, g.2.2.1, g.2.2.2.1, fun p k hp hk => ?_, fun i hi => ?_⟩
                · rw [if_neg (by omega)]
                  exact g.2.2.2.2.2.1 p k hp hk
                · unfold cpy
                  rw [g.2.2.2.2.2.2 i hi]
                  by_cases hik : i < k
                  · rw [if_pos hik, if_pos hik]
                    exact em i hik
                  · rw [if_neg hik, if_neg hik]
              · unfold eqC
                simp only [gI_uI, gI_sA, gA_uI, gA_sA, gB_uI, gB_sA]
                simpa using ⟨n, t, st, P, hr, hp, hcl, hcw⟩
              · simp [gI_uI, gI_sA]
              · simp only [gI_uI, gI_sA, gA_uI, gA_sA]
                simp
                rw [cpy_lt hi, e2, nI_toInt (by omega)]
                exact hA i hi
              · unfold eqV at gv ⊢
                simp only [gI_uI, gI_sA, gA_uI, gA_sA]
                simp
                refine ⟨gv.1, gv.2.imp id (fun w => ⟨w.1, w.2.1, w.2.2.1, w.2.2.2.1, w.2.2.2.2.1, w.2.2.2.2.2.1, w.2.2.2.2.2.2.1, w.2.2.2.2.2.2.2.1, fun p k hp hk => ?_, w.2.2.2.2.2.2.2.2.2⟩)⟩
                rw [if_neg (by omega)]
                exact w.2.2.2.2.2.2.2.2.1 p k hp hk
              · unfold eqL at gl ⊢
                intro s2 hs2
                simp only [gA_uI, gA_sA]
                simp
                rw [if_neg (by omega)]
                exact gl s2 hs2
              · simp [gI_uI, gI_sA]
          have := lp_seq (B := fun L x => bX8_loadWord_100 (nI s) a2 (nI k) (fun S1 => pX9_loadWord (nI s) a2 (nI k) Sm (fun Sm_4 => pX9_thrown Sm_4 (fun r_5 => (r_5 = 0 → Inv S1 Sm_4) ∧ (¬ r_5 = 0 → False)))) L x.1 x.2) (fun j => (nI j, sA T 13 (cpy j (fun j => gA T 31 (40 * s + (x + j))) (gA T 13)))) k (fun j L hj hL => ?_) (fun L => ?_)
          · simp only [cpy_0, sA_id] at this
            exact this
          · unfold bX8_loadWord_100
            refine ⟨fun d => absurd d (nI_ge hj (by omega)), fun _ => ?_⟩
            dsimp only
            rw [ex j hj]
            refine c_elem hs (by rw [gA_sA, if_neg (by decide), eA]; exact l1) (by omega) ?_
            unfold pX6_put
            simp only [forall_eq]
            refine ⟨fun d => absurd d (nI_pos (by omega)), fun _ => ⟨fun d => absurd d (nI_ge (b := 8) (by omega) (by decide)), fun _ => ⟨vp_in_nI (by omega) (by decide), ?_⟩⟩⟩
            rw [nI_clamp (by omega), uA_s, gA_sA, if_pos rfl, gA_sA, if_neg (by decide), show upd (cpy j (fun j => gA T 31 (40 * s + (x + j))) (gA T 13)) j (gA T 31 (40 * s + (x + j))) = cpy (j + 1) (fun j => gA T 31 (40 * s + (x + j))) (gA T 13) from cpy_s, sA_sA, nI_1]
            exact hL
          · unfold bX8_loadWord_100
            exact ⟨fun _ S1 eS => by rw [eS]; exact fin1, fun d => absurd (nI_le (Nat.le_refl k) (by omega)) d⟩
      refine ⟨fun d => ?_, fun d => ?_⟩
      · have hc0 : c = 0 := by
          rw [i_0, nI_leI (by omega) (by omega)] at d
          omega
        exact both 0 (Or.inl hc0) (fun k hk => absurd hk (by omega))
      · have hc0 : 0 < c := by
          rw [i_0, nI_leI (by omega) (by omega)] at d
          omega
        refine c_index hs l1 l3 z40 hc8 (fun i ei hi => both i (Or.inr hi) (fun k hk => by rw [ei, nI_add])) (fun d => Or.inr (Or.inr (Or.inl ⟨rfl, m46 ?_⟩)))
        unfold jX9_loadWord_46 jX9_loadWord_82 jX9_loadWord_96
        refine m_f0 ⟨fun _ => ⟨fun d1 => absurd d1 (nI_ne0 hc0 (by omega)), fun _ => ⟨fun _ => ⟨fun c => absurd rfl c, fun _ => m_f1 ⟨fun _ => finv rd0 h.thr.thr.thr, fun c => absurd c (by decide)⟩⟩, fun d1 => ⟨vp_in_nI hs (by decide), fun _ => ⟨fun c => absurd rfl c, fun _ => m_f1 ⟨fun _ => finv rd0 h.thr.thr.thr, fun c => absurd c (by decide)⟩⟩, fun d2 => ?_⟩⟩⟩, fun c => absurd rfl c⟩
        rw [nI_clamp (by omega), gA_uI, gA_uI, l2, cmp_gt, ls_i, nI_toInt (show c < 2 ^ 31 by omega), Int32.toInt_toInt64, nI_toInt (show z < 2 ^ 31 by omega)] at d2
        rw [lt_i, t_0] at d1
        exact absurd ⟨by omega, by omega⟩ d
  · rw [le_i, t_8] at c1
    omega
