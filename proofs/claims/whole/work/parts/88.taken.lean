section
/-! THE MATHEMATICS, 19: words taken: firstAmbiguous, wordRank, takeWord, drawWord. -/
theorem dig_b {t l key i : Nat} (t1 : 1 ≤ t) (t3 : t ≤ 3) : 0 ≤ (dig t l key i).toInt ∧ (dig t l key i).toInt < t := by
  unfold dig
  have := Nat.mod_lt (key / t ^ (l - 1 - i)) (show 0 < t by omega)
  rw [nI_toInt (by omega)]
  omega
theorem c_wput {S : gS} {i : Nat} {v : Int32} (hi : i < 8) {Post : gS → Prop} (hq : Post (uA S 13 i v)) : pX6_put (nI i) v S Post := by
  unfold pX6_put
  simp only [forall_eq]
  refine ⟨fun d => absurd d (nI_pos (by omega)), fun _ => ⟨fun d => absurd d (nI_ge (b := 8) hi (by omega)), fun _ => ⟨vp_in_nI hi (by omega), ?_⟩⟩⟩
  rw [nI_clamp (by omega)]
  exact hq
theorem c_sw {S : gS} {t l key : Nat} (e2 : gI S 2 = nI t) (t1 : 1 ≤ t) (t3 : t ≤ 3) (l8 : l ≤ 8) (hk : key < 2 ^ 31) {Post : gS → Prop} (hq : ∀ W : Nat → Int32, (∀ i, i < l → W i = dig t l key i) → (∀ i, l ≤ i → W i = gA S 13 i) → Post (uI (sA (uI S 5 (nI l)) 13 W) 14 0)) : pX8_setWord (nI l) (nI key) S Post := by
  unfold pX8_setWord pX6_set
  simp only [forall_eq]
  have eb : (if (1 : Int32) < gI S 2 then gI S 2 else 1) = nI t := by
    rw [e2]
    by_cases e : t = 1
    · rw [e]
      rfl
    · rw [if_pos (show (1 : Int32) < nI t from nI_lt (a := 1) (b := t) (by omega) (by omega))]
  rw [eb]
  refine lp_inv (B := fun L x => bX6_set_20 _ (nI t) L x.1 x.2.1 x.2.2) (fun k x => ∃ W : Nat → Int32, x = (nI (key / t ^ k), nI (l - k) - 1, sA (uI S 5 (nI l)) 13 W) ∧ (∀ i, i < l → l ≤ i + k → W i = dig t l key i) ∧ ∀ i, l ≤ i → W i = gA S 13 i) l (fun k x L hk' hI hL => ?_) (fun x L hI => ?_) ⟨gA S 13, ?_, fun i g1 g2 => by omega, fun _ _ => rfl⟩
  · obtain ⟨W, rfl, k1, k2⟩ := hI
    have hd : key / t ^ k < 2 ^ 31 := Nat.lt_of_le_of_lt (Nat.div_le_self _ _) hk
    unfold bX6_set_20
    rw [i_1, nI_sub (show 1 ≤ l - k by omega)]
    refine ⟨fun c => absurd c (nI_pos (by omega)), fun _ => ⟨nI_ne0 (by omega) (by omega), ?_⟩⟩
    refine c_wput (by omega) ⟨nI_ne0 (by omega) (by omega), ?_⟩
    simp only [forall_eq]
    rw [nI_rem hd (by omega), nI_div hd (by omega), uA_s, sA_sA, gA_sA, if_pos rfl]
    refine hL _ ⟨upd W (l - k - 1) (nI (key / t ^ k % t)), ?_, fun i g1 g2 => ?_, fun i g1 => ?_⟩
    · rw [Nat.div_div_eq_div_mul, ← Nat.pow_succ, ← Int32.sub_eq_add_neg, show l - k - 1 = l - (k + 1) by omega] <;> rfl
    · rw [upd_at]
      by_cases e : i = l - k - 1
      · rw [if_pos e]
        unfold dig
        rw [show l - 1 - i = k by omega]
      · rw [if_neg e]
        exact k1 i g1 (by omega)
    · rw [upd_at, if_neg (by omega)]
      exact k2 i g1
  · obtain ⟨W, rfl, k1, k2⟩ := hI
    unfold bX6_set_20
    refine ⟨fun _ => ?_, fun c => absurd (show nI (l - l) - 1 < 0 by rw [Nat.sub_self]; decide) c⟩
    exact hq W (fun i hi => k1 i hi (by omega)) k2
  · rw [Nat.pow_zero, Nat.div_one, show gA S 13 = gA (uI S 5 (nI l)) 13 from rfl, sA_id]
    rfl
theorem m_tk {S : gS} {l : Nat} (l8 : l ≤ 8) {Post : gS → Prop} (hq : Post (uI (uI (sA S 2 (cpy l (gA S 6) (gA S 2))) 5 (nI l)) 6 0)) : pX9_take (nI l) S Post := by
  unfold pX9_take
  refine lp_sq (B := fun L x => bX9_take_2 (nI l) Post L x.1 x.2) (fun k => (nI k, sA S 2 (cpy k (gA S 6) (gA S 2)))) l (fun k L hk hL => ?_) (fun L => ?_) ?_
  · unfold bX9_take_2
    refine ⟨fun c => absurd c (nI_ge hk (by omega)), fun _ => ⟨vp_in_nI (by omega) (by omega), vp_in_nI (by omega) (by omega), ?_⟩⟩
    simp only [forall_eq]
    rw [nI_clamp (by omega), nI_1, uA_s, sA_sA, gA_sA, if_pos rfl, gA_sA, if_neg (by decide), cpy_s]
    exact hL
  · unfold bX9_take_2
    refine ⟨fun _ => ?_, fun c => absurd (nI_le (Nat.le_refl _) (by omega)) c⟩
    simp only [forall_eq]
    exact hq
  · show (0, S) = (nI 0, sA S 2 (cpy 0 _ _))
    rw [cpy_0, sA_id]
    rfl
theorem Inv.word {Sx Sm : gS} (h : Inv Sx Sm) {n t st P l : Nat} {W W' : Nat → Int32} (h1 : cG Sx n t st P) (l8 : l ≤ 8) (hW : ∀ i, i < l → 0 ≤ (W i).toInt ∧ (W i).toInt < t) (e : ∀ i, i < 8 → W' i = W i) : Inv (uI (sA (uI Sx 5 (nI l)) 13 W) 14 0) (uI (uI (sA Sm 2 W') 5 (nI l)) 6 0) := by
  obtain ⟨g, gc, gw, gv, gl, gt⟩ := id h
  have t3 : t ≤ 3 := h1.2.2.2.2.2.2.2.1
  refine ⟨?_, ?_, ?_, ?_, ?_, ?_⟩
  · unfold eqG at g ⊢
    simp only [gI_uI, gA_uI, gI_sA, gA_sA]
    simp
    refine ⟨g.1, g.2.1, g.2.2.1, g.2.2.2.1, fun p k hp hk => ?_, e⟩
    rw [if_neg (by omega)]
    exact g.2.2.2.2.2.1 p k hp hk
  · unfold eqC at gc ⊢
    simp only [gI_uI, gA_uI, gB_uI, gI_sA, gA_sA, gB_sA]
    simpa using gc
  · simp only [gI_uI, gA_uI, gI_sA, gA_sA]
    simp
    refine ⟨l, l8, rfl, fun i hi => ?_⟩
    rw [h1.2.1, nI_toInt (by omega)]
    exact hW i hi
  · unfold eqV at gv ⊢
    simp only [gI_uI, gA_uI, gI_sA, gA_sA]
    simp
    refine ⟨gv.1, gv.2.imp id (fun w => ⟨w.1, w.2.1, w.2.2.1, w.2.2.2.1, w.2.2.2.2.1, w.2.2.2.2.2.1, w.2.2.2.2.2.2.1, w.2.2.2.2.2.2.2.1, fun p k hp hk => ?_, w.2.2.2.2.2.2.2.2.2⟩)⟩
    rw [if_neg (by omega)]
    exact w.2.2.2.2.2.2.2.2.1 p k hp hk
  · unfold eqL at gl ⊢
    intro s hs
    simp only [gA_uI, gA_sA]
    rw [if_neg (show ¬ 64 + s = 2 by omega)]
    simpa using gl s hs
  · refine Or.inl ⟨?_, ?_⟩
    · rw [gI_uI, if_pos rfl]
    · rw [gI_uI, if_pos rfl]
/-- the word of a key on both sides -/
theorem Inv.key {T Sm U : gS} (h : Inv T Sm) (hU : mS Sm U) {n t st P l k : Nat} {W : Nat → Int32} (h1 : cG T n t st P) (l8 : l ≤ 8) (hW : ∀ i, i < l → W i = dig t l k i) (hW2 : ∀ i, l ≤ i → W i = gA T 13 i) (hr : ∀ i, i < l → gA U 6 i = dig t l k i) : Inv (uI (sA (uI T 5 (nI l)) 13 W) 14 0) (uI (uI (sA U 2 (cpy l (gA U 6) (gA U 2))) 5 (nI l)) 6 0) := by
  have t1 : 1 ≤ t := h1.2.2.2.2.2.2.1
  have t3 : t ≤ 3 := h1.2.2.2.2.2.2.2.1
  refine (h.mod hU).word h1 l8 (fun i hi => by rw [hW i hi]; exact dig_b t1 t3) (fun i hi => ?_)
  unfold cpy
  by_cases e : i < l
  · rw [if_pos e, hr i e, hW i e]
  · rw [if_neg e, hW2 i (by omega), (h.mod hU).1.2.2.2.2.2.2 i hi]
section MT
variable {S : gS} {n t st P : Nat} {F : Nat → Int32}
theorem m_tr (h : mG S n t st P F) {l r : Nat} (l1 : 1 ≤ l) (hl : l ≤ 6) (hr : r < 2 ^ 31) {Post : Int32 → gS → Prop} (hf : ∀ k U, k < t ^ l → 1 ≤ tk t P F st l k → cw t P F st 1 l k = r → gI U = gI S → (∀ a, a ≠ 6 → gA U a = gA S a) → (∀ i, i < l → gA U 6 i = dig t l k i) → Post 1 (uI (uI (sA U 2 (cpy l (gA U 6) (gA U 2))) 5 (nI l)) 6 0)) (hno : cw t P F st 1 l (t ^ l) ≤ r → ∀ U, gI U = gI S → (∀ a, a ≠ 6 → gA U a = gA S a) → Post 0 U) : pX9_takeRanked (nI l) (nI r) S Post := by
  have hn : n ≤ 6 := h.1.2.2.2.2.2.1
  have t3 : t ≤ 3 := h.1.2.2.2.2.2.2.2.1
  have hP : P ≤ 24 := h.1.2.2.2.2.2.2.2.2.2
  have e2 : gI S 2 = nI t := h.1.2.1
  have p1 := p729 (l := l) t3 (by omega)
  unfold pX9_takeRanked
  refine lp_ex (B := fun L x => bX9_takeRanked_5 (nI l) Post L x.1 x.2.1 x.2.2) (fun k x => ∃ U, x = (nI (r - cw t P F st 1 l k), nI k, U) ∧ cw t P F st 1 l k ≤ r ∧ gI U = gI S ∧ ∀ a, a ≠ 6 → gA U a = gA S a) (t ^ l) (fun k x hk hI => ?_) ⟨S, rfl, Nat.zero_le _, rfl, fun _ _ => rfl⟩
  obtain ⟨U, rfl, hc, k1, k2⟩ := hI
  have hU : mG U n t st P F := h.eq (fun f _ _ => by rw [k1]) (fun p _ => k2 _ (by omega))
  have hb := tk_lt (st := st) (l := l) (key := k) hn t3 hP h.2.2 (by omega)
  by_cases e : k = t ^ l
  · left
    intro L
    unfold bX9_takeRanked_5
    subst e
    exact m_wo (t := t) (by rw [k1, e2]) (by omega) ⟨fun _ => hno hc U k1 k2, fun c => absurd (nI_le (Nat.le_refl _) (by omega)) c⟩
  · by_cases e1 : 1 ≤ tk t P F st l k
    · by_cases e3 : cw t P F st 1 l k = r
      · left
        intro L
        unfold bX9_takeRanked_5
        refine m_wo (t := t) (by rw [k1, e2]) (by omega) ⟨fun c => absurd c (nI_ge (by omega) (by omega)), fun _ => m_cn hU l1 (by omega) (by omega) (fun V v1 v2 v3 => ?_)⟩
        rw [cmp_le, nL_toInt hb, show (0 : Int64).toInt = 0 from rfl]
        refine ⟨fun c => by omega, fun _ => ⟨fun c => absurd (show nI (r - cw t P F st 1 l k) = 0 by rw [e3, Nat.sub_self]; rfl) c, fun _ => m_tk (by omega) ?_⟩⟩
        exact hf k V (by omega) e1 e3 (v1.trans k1) (fun a ha => (v2 a ha).trans (k2 a ha)) v3
      · right
        refine ⟨by omega, fun L hL => ?_⟩
        unfold bX9_takeRanked_5
        refine m_wo (t := t) (by rw [k1, e2]) (by omega) ⟨fun c => absurd c (nI_ge (by omega) (by omega)), fun _ => m_cn hU l1 (by omega) (by omega) (fun V v1 v2 v3 => ?_)⟩
        rw [cmp_le, nL_toInt hb, show (0 : Int64).toInt = 0 from rfl]
        simp only [forall_eq]
        refine ⟨fun c => by omega, fun _ => ⟨fun _ => hL _ ⟨V, ?_, ?_, v1.trans k1, fun a ha => (v2 a ha).trans (k2 a ha)⟩, fun c => absurd c (nI_ne0 (by omega) (by omega))⟩⟩
        · rw [nI_1, ← Int32.sub_eq_add_neg, i_1, nI_sub (by omega), cw_s, if_pos e1, Nat.sub_sub]
        · rw [cw_s, if_pos e1]
          omega
    · right
      refine ⟨by omega, fun L hL => ?_⟩
      unfold bX9_takeRanked_5
      refine m_wo (t := t) (by rw [k1, e2]) (by omega) ⟨fun c => absurd c (nI_ge (by omega) (by omega)), fun _ => m_cn hU l1 (by omega) (by omega) (fun V v1 v2 v3 => ?_)⟩
      rw [cmp_le, nL_toInt hb, show (0 : Int64).toInt = 0 from rfl]
      simp only [forall_eq]
      refine ⟨fun _ => hL _ ⟨V, ?_, ?_, v1.trans k1, fun a ha => (v2 a ha).trans (k2 a ha)⟩, fun c => by omega⟩
      · rw [nI_1, cw_s, if_neg e1] <;> rfl
      · rw [cw_s, if_neg e1]
        exact hc
end MT
theorem s_19 {a1 a2 a3 a4 : Int32} {Sx Sm : gS} (h : Inv Sx Sm) : qL_19 a1 a2 a3 a4 Sx Sm Inv := by
  obtain ⟨n, t, st, P, h1, ok, hm, hL, hW⟩ := h.G
  have t1 : 1 ≤ t := h1.2.2.2.2.2.2.1
  have t3 : t ≤ 3 := h1.2.2.2.2.2.2.2.1
  have bad : ∀ {Q : gS → Prop}, ¬ (1 ≤ a1.toInt ∧ a1.toInt ≤ 6 ∧ 0 ≤ a2.toInt) → Q (uI Sm 0 1) → pX9_takeWord a1 a2 Sm Q := by
    intro Q c hq
    have hj : jX9_takeWord_18 a1 a2 Sm Q 1 := by
      unfold jX9_takeWord_18
      exact m_f1 ⟨fun c => absurd c (by decide), fun _ => hq⟩
    unfold pX9_takeWord
    refine m_ls (fun l l1 l2 el => ⟨fun c => absurd c (by decide), fun _ => ⟨fun d => absurd ?_ c, fun _ => hj⟩⟩) (fun _ => ⟨fun _ => hj, fun c => absurd rfl c⟩)
    rw [le_i, t_0] at d
    rw [el, nI_toInt (by omega)]
    exact ⟨by omega, by omega, d⟩
  unfold qL_19 pL_takeWord pX8_takeWord
  refine c_len (m := 6) (by omega) (fun l l1 l2 el => ?_) (fun c => Or.inl ⟨rfl, bad (fun d => c ⟨d.1, d.2.1⟩) (finv rd0 h.thr)⟩)
  refine ⟨fun c => ?_, fun c => Or.inl ⟨rfl, bad (fun d => c (by rw [le_i, t_0]; exact d.2.2)) (finv rd0 h.thr)⟩⟩
  rw [le_i, t_0] at c
  obtain ⟨r, hr, er⟩ := nI_of' (x := a2) c
  rw [el, er]
  refine c_cwd h h1 ok hL hW l1 l2 (fun T z i g eA eI cl cw' hR lz z6 => ?_)
  have ok' : okP n t P (gA T 10) := by rw [eA]; exact ok
  have p1 := p729 (l := l) t3 (by omega)
  have key : ∀ {Q : gS → Prop}, (∀ k U, k < t ^ l → 1 ≤ tk t P (gA Sx 10) st l k → cw t P (gA Sx 10) st 1 l k = r → mS Sm U → (∀ i, i < l → gA U 6 i = dig t l k i) → Q (uI (uI (uI (sA U 2 (cpy l (gA U 6) (gA U 2))) 5 (nI l)) 6 0) 0 0)) → (cw t P (gA Sx 10) st 1 l (t ^ l) ≤ r → ∀ U, mS Sm U → Q (uI U 0 2)) → pX9_takeWord (nI l) (nI r) Sm Q := by
    intro Q hf hno
    unfold pX9_takeWord
    refine m_ls (fun _ _ _ _ => ⟨fun c => absurd c (by decide), fun _ => ⟨fun _ => ?_, fun c => absurd (nI_pos' hr) c⟩⟩) (fun c => absurd (by rw [nI_toInt (by omega)]; omega) c)
    unfold jX9_takeWord_18
    refine m_f0 ⟨fun _ => m_tr hm.thr l1 l2 hr (fun k U g1 g2 g3 u1 u2 u3 => ⟨fun _ => m_f0 ?_, fun c => absurd c (by decide)⟩) (fun g1 U u1 u2 => ⟨fun c => absurd rfl c, fun _ => m_f1 ?_⟩), fun c => absurd rfl c⟩
    · exact hf k U g1 g2 g3 (.thr u1 u2) u3
    · exact hno g1 U (.thr u1 u2)
  refine c_find (q := 1) g ok' hR l1 lz z6 (by omega) (fun k g1 g2 g3 => ?_) (fun hno => ⟨fun c => absurd c (by decide), fun _ => Or.inr ⟨rfl, ?_⟩⟩)
  · have ck := cw_le (t := t) (P := P) (F := gA T 10) (st := st) (q := 1) (l := l) (e := k)
    rw [nI_eq (by omega) hr] at g3
    refine ⟨fun _ => c_sw g.2.1 t1 t3 (by omega) (by omega) (fun W w1 w2 => ?_), fun c => absurd (nI_pos' (by omega)) c⟩
    rw [eA] at g2 g3
    refine key (fun k' U d1 d2 d3 hU u3 => finv rd0 ?_) (fun d => ?_)
    · have ek : k' = k := cw_inj d2 g2 (d3.trans g3.symm)
      subst ek
      exact (i.key hU g (by omega) w1 w2 u3).thr
    · have := cw_up g2 g1
      omega
  · rw [eA] at hno
    refine key (fun k' U d1 d2 d3 hU u3 => absurd (by rw [d3]) (hno k' d1 d2)) (fun _ U hU => finv rd0 (i.mod hU).thr)
theorem nL_sub {a b : Nat} (h : b ≤ a) : nL a - nL b = nL (a - b) := by
  have h1 : nL (a - b) + nL b = nL a := by rw [nL_add, Nat.sub_add_cancel h]
  rw [← h1, Int64.add_sub_cancel]
theorem nL_div {a b : Nat} (ha : a < 2 ^ 63) (hb : b < 2 ^ 63) : nL a / nL b = nL (a / b) := by
  refine Int64.toInt_inj.mp ?_
  rw [Int64.toInt_div, nL_toInt ha, nL_toInt hb, nL_toInt (Nat.lt_of_le_of_lt (Nat.div_le_self a b) ha)]
  have h : (a : Int).tdiv (b : Int) = ((a / b : Nat) : Int) := by rw [Int.ofNat_tdiv]
  rw [h]
  have h2 : a / b ≤ a := Nat.div_le_self a b
  generalize a / b = q at h2 ⊢
  rw [Int.bmod_eq_of_le (by omega) (by omega)]
theorem nL_rem {a b : Nat} (ha : a < 2 ^ 63) (hb : b < 2 ^ 63) : nL a - nL a / nL b * nL b = nL (a % b) := by
  rw [nL_div ha hb, nL_mul, nL_sub (Nat.div_mul_le_self a b)]
  congr 1
  have := Nat.div_add_mod a b
  rw [Nat.mul_comm] at this
  omega
theorem nI_nL {c : Nat} (h : c < 2 ^ 31) : (nI c).toInt64 = nL c := Int64.toInt_inj.mp (by rw [toL h, nL_toInt (by omega)])
theorem shr1 (y : Int64) : ∃ U : Nat, U < 2 ^ 63 ∧ (y.toUInt64 >>> ((1 : Int32).toInt64.toUInt64 &&& Int64.toUInt64 63)).toInt64 = nL U := by
  have hy := y.toUInt64.toNat_lt
  refine ⟨y.toUInt64.toNat / 2, by omega, ?_⟩
  have e : y.toUInt64 >>> ((1 : Int32).toInt64.toUInt64 &&& Int64.toUInt64 63) = UInt64.ofNat (y.toUInt64.toNat / 2) := UInt64.toNat_inj.mp (by
    rw [show ((1 : Int32).toInt64.toUInt64 &&& Int64.toUInt64 63) = (1 : UInt64) from by decide, UInt64.toNat_shiftRight, UInt64.toNat_ofNat_of_lt' (n := y.toUInt64.toNat / 2) (by show _ < 2 ^ 64; omega), show (1 : UInt64).toNat % 64 = 1 from rfl, Nat.shiftRight_eq_div_pow])
  rw [e]
  rfl
/-- what is drawn, on both sides -/
theorem c_draw {S : gS} {seed : Int64} {c : Nat} (h1 : 1 ≤ c) (h2 : c < 2 ^ 63) {U : Nat} (hU : U < 2 ^ 63) (eU : ((seed * 6364136223846793005 + 1442695040888963407).toUInt64 >>> ((1 : Int32).toInt64.toUInt64 &&& Int64.toUInt64 63)).toInt64 = nL U) {Post : Int64 → Prop} (hq : Post (nL (U % c))) : pX8_draw seed (nL c) S Post := by
  unfold pX8_draw
  rw [eU, nL_rem hU h2, cmp_ge, nL_toInt h2, show (1 : Int64).toInt = 1 from rfl]
  exact ⟨fun _ => ⟨fun d => by rw [← nL_0, nL_inj h2 (by decide)] at d; omega, hq⟩, fun d => by omega⟩
theorem m_draw {S : gS} {seed : Int64} {c : Nat} (h1 : 1 ≤ c) (h2 : c < 2 ^ 63) {U : Nat} (hU : U < 2 ^ 63) (eU : ((seed * 6364136223846793005 + 1442695040888963407).toUInt64 >>> ((1 : Int32).toInt64.toUInt64 &&& Int64.toUInt64 63)).toInt64 = nL U) {Post : Int64 → Prop} (hq : Post (nL (U % c))) : pX9_drawn seed (nL c) S Post := by
  unfold pX9_drawn
  simp only [forall_eq]
  rw [eU, nL_rem hU h2]
  exact ⟨fun d => by rw [← nL_0, nL_inj h2 (by decide)] at d; omega, hq⟩
theorem s_20 {a1 a2 a3 a4 : Int32} {Sx Sm : gS} (h : Inv Sx Sm) : qL_20 a1 a2 a3 a4 Sx Sm Inv := by
  obtain ⟨n, t, st, P, h1, ok, hm, hL, hW⟩ := h.G
  have t1 : 1 ≤ t := h1.2.2.2.2.2.2.1
  have t3 : t ≤ 3 := h1.2.2.2.2.2.2.2.1
  unfold qL_20 pL_drawWord pX8_drawWord
  generalize (a1.toInt64 <<< ((32 : Int32).toInt64 &&& 63)) ||| (a2.toInt64 &&& 4294967295) = seed
  obtain ⟨U0, hU0, eU0⟩ := shr1 (seed * 6364136223846793005 + 1442695040888963407)
  refine c_len (m := 6) (by omega) (fun l l1 l2 el => ?_) (fun c => Or.inl ⟨rfl, ?_⟩)
  · rw [el]
    refine c_cwd h h1 ok hL hW l1 l2 (fun T z i g eA eI cl cw' hR lz z6 => ?_)
    have ok' : okP n t P (gA T 10) := by rw [eA]; exact ok
    have p1 := p729 (l := l) t3 (by omega)
    have c1 := cw_le (t := t) (P := P) (F := gA T 10) (st := st) (q := 1) (l := l) (e := t ^ l)
    refine c_al (q := 1) g ok' hR l1 lz z6 (by omega) ?_
    have key : ∀ {Q : Int32 → gS → Prop}, (cw t P (gA T 10) st 1 l (t ^ l) = 0 → ∀ U, mS Sm U → gI U 0 = 2 → Q 0 U) → (¬ cw t P (gA T 10) st 1 l (t ^ l) = 0 → ∀ k U, k < t ^ l → 1 ≤ tk t P (gA T 10) st l k → cw t P (gA T 10) st 1 l k = U0 % cw t P (gA T 10) st 1 l (t ^ l) → mS Sm U → gI U 0 = 0 → (∀ i, i < l → gA U 6 i = dig t l k i) → Q (nI (U0 % cw t P (gA T 10) st 1 l (t ^ l))) (uI (uI (sA U 2 (cpy l (gA U 6) (gA U 2))) 5 (nI l)) 6 0)) → pX9_drawWord seed (nI l) Sm Q := by
      intro Q h0 hn0
      rw [eA] at h0 hn0 c1
      unfold pX9_drawWord
      refine m_ls (fun _ _ _ _ => ⟨fun _ => ?_, fun c => absurd c (by decide)⟩) (fun c => absurd (by rw [nI_toInt (by omega)]; omega) c)
      unfold jX9_drawWord_14
      refine m_f0 ⟨fun _ => m_cw (tr := 3) hm.thr l1 l2 (by omega) (fun U u1 u2 => ?_), fun c => absurd rfl c⟩
      have hU : mS Sm U := .thr u1 u2
      rw [cd_3]
      unfold jX9_drawWord_42
      refine ⟨fun c => m_f0 ⟨fun _ => ?_, fun c => absurd rfl c⟩, fun c => m_f1 ⟨fun c => absurd c (by decide), fun _ => h0 ?_ _ (hU.trans (.thr (v := 2) rfl (fun _ _ => rfl))) rd0⟩⟩
      · have c0 : ¬ cw t P (gA Sx 10) st 1 l (t ^ l) = 0 := fun e => c (by rw [e]; rfl)
        have hlt := Nat.mod_lt U0 (show 0 < cw t P (gA Sx 10) st 1 l (t ^ l) by omega)
        rw [nI_nL (by omega)]
        refine m_draw (by omega) (by omega) hU0 eU0 ?_
        rw [show (nL (U0 % cw t P (gA Sx 10) st 1 l (t ^ l))).toInt32 = nI (U0 % cw t P (gA Sx 10) st 1 l (t ^ l)) from Int64.toInt32_ofNat']
        refine m_tr (hm.s hU).thr l1 l2 (by omega) (fun k V g1 g2 g3 v1 v2 v3 => ?_) (fun g1 => by omega)
        exact hn0 c0 k V g1 g2 g3 (hU.trans (.thr (v := 0) v1 v2)) (by rw [v1, rd0]) v3
      · rw [i_0, nI_eq (by omega) (by omega)] at c
        exact c
    refine ⟨fun d => ?_, fun d => Or.inr ⟨rfl, key (fun e U hU u0 => fin u0 (i.mod hU) (fun c => absurd c (by decide))) (fun e => absurd (nI_le (a := 1) (by omega) (by omega)) d)⟩⟩
    have d' : 1 ≤ cw t P (gA T 10) st 1 l (t ^ l) := by
      rw [i_1, nI_leI (by omega) (by omega)] at d
      exact d
    have hlt := Nat.mod_lt U0 (show 0 < cw t P (gA T 10) st 1 l (t ^ l) by omega)
    rw [nI_nL (by omega)]
    refine c_draw d' (by omega) hU0 eU0 ?_
    rw [show (nL (U0 % cw t P (gA T 10) st 1 l (t ^ l))).toInt32 = nI (U0 % cw t P (gA T 10) st 1 l (t ^ l)) from Int64.toInt32_ofNat']
    refine c_find (q := 1) g ok' hR l1 lz z6 (by omega) (fun k g1 g2 g3 => ?_) (fun hno => ?_)
    · have ck := cw_le (t := t) (P := P) (F := gA T 10) (st := st) (q := 1) (l := l) (e := k)
      rw [nI_eq (by omega) (by omega)] at g3
      refine c_sw g.2.1 t1 t3 (by omega) (by omega) (fun W w1 w2 => key (fun e => by omega) (fun _ k' U d1 d2 d3 hU u0 u3 => fin ?_ ?_ (fun _ => out0)))
      · rw [gI_uI, if_neg (by decide), gI_uI, if_neg (by decide), gI_sA, u0]
      · have ek : k' = k := cw_inj d2 g2 (d3.trans g3.symm)
        subst ek
        exact (i.key hU g (by omega) w1 w2 u3).out
    · obtain ⟨k, k1, k2, k3⟩ := cw_ex _ hlt
      exact absurd (by rw [k3]) (hno k k1 k2)
  · unfold pX9_drawWord
    refine m_ls (fun l l1 l2 el => absurd (by rw [el, nI_toInt (by omega)]; omega) c) (fun _ => ⟨fun c => absurd rfl c, fun _ => ?_⟩)
    unfold jX9_drawWord_14
    exact m_f1 ⟨fun c => absurd c (by decide), fun _ => fin rd0 h.thr (fun c => absurd c (by decide))⟩
end
