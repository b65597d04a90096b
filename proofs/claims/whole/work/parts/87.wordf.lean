section
/-! THE MATHEMATICS, 18: wordsOfLength, unambiguousShare, averageTrees, storeCounts. -/
theorem mS.thr {S U : gS} {v : Int32} (h1 : gI U = gI (uI S 0 v)) (h2 : ∀ a, a ≠ 6 → gA U a = gA S a) : mS S U := ⟨fun f f1 _ _ => by rw [h1, gI_uI, if_neg (by omega)], fun a _ _ a3 => h2 a a3⟩
theorem mG.thr {S : gS} {v : Int32} {n t st P : Nat} {F : Nat → Int32} (h : mG S n t st P F) : mG (uI S 0 v) n t st P F := h.eq (fun f _ _ => by rw [gI_uI, if_neg (by omega)]) (fun p _ => rfl)
theorem mG.s {S U : gS} {n t st P : Nat} {F : Nat → Int32} (h : mG S n t st P F) (hs : mS S U) : mG U n t st P F := h.eq (fun f f1 f2 => hs.1 f f1 (by omega) (by omega)) (fun p _ => hs.2 _ (by omega) (by omega) (by omega))
theorem s_14 {a1 a2 a3 a4 : Int32} {Sx Sm : gS} (h : Inv Sx Sm) : qL_14 a1 a2 a3 a4 Sx Sm Inv := by
  obtain ⟨n, t, st, P, h1, ok, hm, hL, hW⟩ := h.G
  have t1 : 1 ≤ t := h1.2.2.2.2.2.2.1
  have t3 : t ≤ 3 := h1.2.2.2.2.2.2.2.1
  have bad : ∀ {Q : Int32 → gS → Prop}, ¬ (1 ≤ a1.toInt ∧ a1.toInt ≤ 6 ∧ 0 ≤ a2.toInt ∧ a2.toInt ≤ 3) → Q 0 (uI Sm 0 1) → pX9_wordsOfLength a1 a2 Sm Q := by
    intro Q c hq
    have hj : jX9_wordsOfLength_18 a1 a2 Sm Q := by
      unfold jX9_wordsOfLength_18
      exact m_f1 ⟨fun c => absurd c (by decide), fun _ => hq⟩
    unfold pX9_wordsOfLength
    refine m_ls (fun l l1 l2 el => ⟨fun c => absurd c (by decide), fun _ => m_bt (fun c1 c2 => absurd ?_ c) (fun _ => ⟨fun c => absurd rfl c, fun _ => hj⟩)⟩) (fun _ => ⟨fun _ => hj, fun c => absurd rfl c⟩)
    rw [el, nI_toInt (by omega)]
    exact ⟨by omega, by omega, c1, c2⟩
  unfold qL_14 pL_wordsOfLength pX8_wordsOfLength
  refine c_len (m := 6) (by omega) (fun l l1 l2 el => ?_) (fun c => ⟨rfl, bad (fun d => c ⟨d.1, d.2.1⟩) (fin rd0 h.thr (fun c => absurd c (by decide)))⟩)
  refine ⟨fun c => ⟨rfl, bad (fun d => ?_) (fin rd0 h.thr (fun c => absurd c (by decide)))⟩, fun c => ⟨fun c2 => ?_, fun c2 => ⟨rfl, bad (fun d => ?_) (fin rd0 h.thr (fun c => absurd c (by decide)))⟩⟩⟩
  · rw [lt_i, t_0] at c
    omega
  · rw [lt_i, t_0] at c
    rw [le_i, t_3] at c2
    obtain ⟨tr, htr, et⟩ := nI_of' (x := a2) (by omega)
    rw [et, nI_toInt htr] at c2
    rw [el]
    refine c_cwd h h1 ok hL hW l1 l2 (fun T z i g eA eI cl cw' hR lz z6 => ?_)
    have ok' : okP n t P (gA T 10) := by rw [eA]; exact ok
    have p1 := p729 (l := l) t3 (by omega)
    have key : ∀ {Q : Int32 → gS → Prop}, (∀ U, mS Sm U → gI U 0 = 0 → Q (nI (sN (fun k => cd tr (tk t P (gA T 10) st l k)) (t ^ l))) U) → pX9_wordsOfLength (nI l) a2 Sm Q := by
      intro Q hq
      rw [eA] at hq
      unfold pX9_wordsOfLength
      rw [et]
      refine m_ls (fun _ _ _ _ => ⟨fun c => absurd c (by decide), fun _ => m_bt (fun _ _ => ⟨fun _ => m_f0 ⟨fun _ => m_cw hm.thr l1 l2 (by omega) (fun U u1 u2 => hq U (.thr u1 u2) (by rw [u1, rd0])), fun c => absurd rfl c⟩, fun c => absurd c (by decide)⟩) (fun c => absurd ?_ c)⟩) (fun c => absurd ?_ c)
      · rw [t_0, t_3, nI_toInt htr]
        omega
      · rw [nI_toInt (by omega)]
        omega
    refine c_al (q := 1) g ok' hR l1 lz z6 (by omega) (c_al (q := 2) g ok' hR l1 lz z6 (by omega) ?_)
    have r0 := cd_0 (t := t) (P := P) (F := gA T 10) (st := st) (l := l) (e := t ^ l)
    have r1 := cd_1 (t := t) (P := P) (F := gA T 10) (st := st) (l := l) (e := t ^ l)
    refine ⟨fun d => ?_, fun d => ⟨fun d2 => ?_, fun d2 => ⟨fun d3 => ?_, fun d3 => ?_⟩⟩⟩
    · have e : tr = 0 := by rw [et, i_0, nI_eq htr (by omega)] at d; exact d
      refine c_ol g.2.1 t1 t3 (by omega) (key (fun U hU u0 => fin u0 (i.mod hU).out (fun _ => ?_)))
      rw [out0, nI_sub (by omega), e, show t ^ l - cw t P (gA T 10) st 1 l (t ^ l) = sN (fun k => cd 0 (tk t P (gA T 10) st l k)) (t ^ l) by omega]
    · have e : tr = 1 := by rw [et, i_1, nI_eq htr (by omega)] at d2; exact d2
      refine key (fun U hU u0 => fin u0 (i.mod hU).out (fun _ => ?_))
      rw [out0, nI_sub (by omega), e, show cw t P (gA T 10) st 1 l (t ^ l) - cw t P (gA T 10) st 2 l (t ^ l) = sN (fun k => cd 1 (tk t P (gA T 10) st l k)) (t ^ l) by omega]
    · have e : tr = 2 := by rw [et, i_2, nI_eq htr (by omega)] at d3; exact d3
      refine key (fun U hU u0 => fin u0 (i.mod hU).out (fun _ => ?_))
      rw [out0, e, cd_2]
    · have e : tr = 3 := by
        rw [et, i_0, nI_eq htr (by omega)] at d
        rw [et, i_1, nI_eq htr (by omega)] at d2
        rw [et, i_2, nI_eq htr (by omega)] at d3
        omega
      refine key (fun U hU u0 => fin u0 (i.mod hU).out (fun _ => ?_))
      rw [out0, e, cd_3]
  · rw [le_i, t_3] at c2
    omega
theorem findD {r k : Int32} {x y : UInt64} {Post : Prop} (hr : r = k) (h : Post) (e : k = 0 → x = y) : (r = k → ((¬ k = 0 → Post) ∧ (k = 0 → (((Op.cmpValue (FP.dcmp x y) .l) = 0 → Post) ∧ (¬ (Op.cmpValue (FP.dcmp x y) .l) = 0 → (((Op.cmpValue (FP.dcmp x x) .l) = 0 → False) ∧ (¬ (Op.cmpValue (FP.dcmp x x) .l) = 0 → ((¬ (Op.cmpValue (FP.dcmp y y) .l) = 0 → Post) ∧ ((Op.cmpValue (FP.dcmp y y) .l) = 0 → False))))))))) ∧ (¬ r = k → False) := by
  refine ⟨fun _ => ⟨fun _ => h, fun c => ?_⟩, fun c => c hr⟩
  rw [e c]
  exact ⟨fun _ => h, fun d => ⟨fun d2 => d d2, fun _ => ⟨fun _ => h, fun d2 => d d2⟩⟩⟩
theorem outD0 {S : gS} {v : UInt64} : (gB (uB S 33 (0 : Int32).toNatClampNeg v.toInt64) 33 0).toUInt64 = v := by
  rw [gB_uB, if_pos rfl]
  show v.toInt64.toUInt64 = v
  exact UInt64.toUInt64_toInt64 v
theorem n64 {a b : UInt64} (ha : FP.Core.DFin a) (hb : FP.Core.DFin b) (hz : b.toNat % 2 ^ 63 ≠ 0) : vf_n64 (FP.ddiv a b) := by
  have h := FP.Core.ddiv_out ha.notNaN hb (fun d => hz ((FP.Core.zero_bits2 b).mp d))
  have h2 : ¬ (9218868437227405312 < (FP.Core.ddiv a b).toNat % 2 ^ 63) := fun c => by
    rw [← FP.Core.isNaN_bits, h] at c
    cases c
  unfold vf_n64
  rw [FP.ddiv_core, UInt64.le_iff_toNat_le, UInt64.toNat_and, show (0x7fffffffffffffff : UInt64).toNat = 2 ^ 63 - 1 from rfl, Nat.and_two_pow_sub_one_eq_mod]
  exact Nat.le_of_not_lt h2
theorem n64i {x y : Int32} (h : ¬ y = 0) : vf_n64 (FP.ddiv (FP.i2d x) (FP.i2d y)) := n64 (FP.Core.i2d_fin x) (FP.Core.i2d_fin y) (FP.Core.i2d_ne_zero h)
theorem n64l {x : Int64} {y : Int32} (h : ¬ y = 0) : vf_n64 (FP.ddiv (FP.l2d x) (FP.i2d y)) := n64 (FP.Core.l2d_fin x) (FP.Core.i2d_fin y) (FP.Core.i2d_ne_zero h)
theorem s_15 {a1 a2 a3 a4 : Int32} {Sx Sm : gS} (h : Inv Sx Sm) : qL_15 a1 a2 a3 a4 Sx Sm Inv := by
  obtain ⟨n, t, st, P, h1, ok, hm, hL, hW⟩ := h.G
  have t3 : t ≤ 3 := h1.2.2.2.2.2.2.2.1
  unfold qL_15 pL_unambiguousShare pX8_unambiguousShare
  refine c_len (m := 6) (by omega) (fun l l1 l2 el => ?_) (fun c => ⟨rfl, ?_⟩)
  · rw [el]
    refine c_cwd h h1 ok hL hW l1 l2 (fun T z i g eA eI cl cw' hR lz z6 => ?_)
    have ok' : okP n t P (gA T 10) := by rw [eA]; exact ok
    have p1 := p729 (l := l) t3 (by omega)
    have c1 := cw_le (t := t) (P := P) (F := gA T 10) (st := st) (q := 1) (l := l) (e := t ^ l)
    refine c_al (q := 1) g ok' hR l1 lz z6 (by omega) ?_
    have key : ∀ {Q : UInt64 → gS → Prop}, (cw t P (gA T 10) st 1 l (t ^ l) = 0 → ∀ U, mS Sm U → gI U 0 = 0 → Q FP.dconst1 U) → (¬ cw t P (gA T 10) st 1 l (t ^ l) = 0 → ∀ U, mS Sm U → gI U 0 = 0 → Q (FP.ddiv (FP.i2d (nI (sN (fun k => cd 1 (tk t P (gA T 10) st l k)) (t ^ l)))) (FP.i2d (nI (cw t P (gA T 10) st 1 l (t ^ l))))) U) → pX9_unambiguousShare (nI l) Sm Q := by
      intro Q h0 hn0
      rw [eA] at h0 hn0 c1
      unfold pX9_unambiguousShare
      refine m_ls (fun _ _ _ _ => ⟨fun _ => ?_, fun c => absurd c (by decide)⟩) (fun c => absurd (by rw [nI_toInt (by omega)]; omega) c)
      unfold jX9_unambiguousShare_14
      refine m_f0 ⟨fun _ => m_cw (tr := 3) hm.thr l1 l2 (by omega) (fun U u1 u2 => ?_), fun c => absurd rfl c⟩
      rw [cd_3]
      refine ⟨fun c => m_cw (tr := 1) (hm.thr.eq (fun f _ _ => by rw [u1]) (fun p _ => u2 _ (by omega))) l1 l2 (by omega) (fun V v1 v2 => ⟨n64i c, hn0 (fun e => c (by rw [e]; rfl)) V (.thr (v1.trans u1) (fun a ha => (v2 a ha).trans (u2 a ha))) (by rw [v1, u1, rd0])⟩), fun c => h0 ?_ U (.thr u1 u2) (by rw [u1, rd0])⟩
      rw [i_0, nI_eq (by omega) (by omega)] at c
      exact c
    refine ⟨fun d => c_al (q := 2) g ok' hR l1 lz z6 (by omega) ?_, fun d => key (fun e U hU u0 => findD u0 (i.mod hU).outD (fun _ => outD0)) (fun e => absurd (nI_le (a := 1) (by omega) (by omega)) d)⟩
    have d' : 1 ≤ cw t P (gA T 10) st 1 l (t ^ l) := by
      rw [i_1, nI_leI (by omega) (by omega)] at d
      exact d
    have r1 := cd_1 (t := t) (P := P) (F := gA T 10) (st := st) (l := l) (e := t ^ l)
    rintro _ rfl
    rw [nI_sub (by omega), show cw t P (gA T 10) st 1 l (t ^ l) - cw t P (gA T 10) st 2 l (t ^ l) = sN (fun k => cd 1 (tk t P (gA T 10) st l k)) (t ^ l) by omega]
    exact ⟨n64i (nI_ne0 (by omega) (by omega)), key (fun e => by omega) (fun _ U hU u0 => findD u0 (i.mod hU).outD (fun _ => outD0))⟩
  · unfold pX9_unambiguousShare
    refine m_ls (fun l l1 l2 el => absurd (by rw [el, nI_toInt (by omega)]; omega) c) (fun _ => ⟨fun c => absurd rfl c, fun _ => ?_⟩)
    unfold jX9_unambiguousShare_14
    exact m_f1 ⟨fun c => absurd c (by decide), fun _ => findD rd0 h.thr (fun c => absurd c (by decide))⟩
theorem s_16 {a1 a2 a3 a4 : Int32} {Sx Sm : gS} (h : Inv Sx Sm) : qL_16 a1 a2 a3 a4 Sx Sm Inv := by
  obtain ⟨n, t, st, P, h1, ok, hm, hL, hW⟩ := h.G
  have hn : n ≤ 6 := h1.2.2.2.2.2.1
  have t3 : t ≤ 3 := h1.2.2.2.2.2.2.2.1
  have hst : st < n := h1.2.2.2.2.2.2.2.2.1
  unfold qL_16 pL_averageTrees pX8_averageTrees
  refine c_len (m := 6) (by omega) (fun l l1 l2 el => ?_) (fun c => Or.inl ⟨rfl, ?_⟩)
  · rw [el]
    refine c_cwd h h1 ok hL hW l1 l2 (fun T z i g eA eI cl cw' hR lz z6 => ?_)
    have ok' : okP n t P (gA T 10) := by rw [eA]; exact ok
    have p1 := p729 (l := l) t3 (by omega)
    have c1 := cw_le (t := t) (P := P) (F := gA T 10) (st := st) (q := 1) (l := l) (e := t ^ l)
    refine c_al (q := 1) g ok' hR l1 lz z6 (by omega) ?_
    have key : ∀ {Q : UInt64 → gS → Prop}, (cw t P (gA T 10) st 1 l (t ^ l) = 0 → ∀ U, mS Sm U → gI U 0 = 2 → Q FP.dconst0 U) → (¬ cw t P (gA T 10) st 1 l (t ^ l) = 0 → ∀ U, mS Sm U → gI U 0 = 0 → Q (FP.ddiv (FP.l2d (nL (TT fitL P (gA T 10) l 0 (nI st)))) (FP.i2d (nI (cw t P (gA T 10) st 1 l (t ^ l))))) U) → pX9_averageTrees (nI l) Sm Q := by
      intro Q h0 hn0
      rw [eA] at h0 hn0 c1
      unfold pX9_averageTrees
      refine m_ls (fun _ _ _ _ => ⟨fun _ => ?_, fun c => absurd c (by decide)⟩) (fun c => absurd (by rw [nI_toInt (by omega)]; omega) c)
      unfold jX9_averageTrees_14
      refine m_f0 ⟨fun _ => m_cw (tr := 3) hm.thr l1 l2 (by omega) (fun U u1 u2 => ?_), fun c => absurd rfl c⟩
      have hU : mS Sm U := .thr u1 u2
      rw [cd_3]
      unfold jX9_averageTrees_40
      refine ⟨fun c => m_f0 ⟨fun _ => m_cbl (hm.s hU).thr (fun V v1 v2 v3 => ?_), fun c => absurd rfl c⟩, fun c => m_f1 ⟨fun c => absurd c (by decide), fun _ => h0 ?_ _ (hU.trans (.thr (v := 2) rfl (fun _ _ => rfl))) rd0⟩⟩
      · have hV : mS Sm V := hU.trans (.thr (v := 0) v1 (fun a _ => by rw [v2]; rfl))
        have e3 : gI V 3 = nI st := by rw [hV.1 3 (by decide) (by decide) (by decide)]; exact hm.1.2.2.1
        rw [e3, nI_clamp (by omega), nI_clamp (by omega), v3 l st (by omega) hst]
        exact ⟨vp_in_nI (by omega) (by omega), vp_in_nI (by omega) (by omega), n64l c, hn0 (fun e => c (by rw [e]; rfl)) V hV (by rw [v1, rd0])⟩
      · rw [i_0, nI_eq (by omega) (by omega)] at c
        exact c
    refine ⟨fun d => ?_, fun d => Or.inr ⟨rfl, key (fun e U hU u0 => findD u0 (i.mod hU) (fun c => absurd c (by decide))) (fun e => absurd (nI_le (a := 1) (by omega) (by omega)) d)⟩⟩
    have d' : 1 ≤ cw t P (gA T 10) st 1 l (t ^ l) := by
      rw [i_1, nI_leI (by omega) (by omega)] at d
      exact d
    refine c_all g ok' cl l1 (by omega) (fun R z5 y1 y2 hR5 => ?_)
    exact ⟨n64l (nI_ne0 (by omega) (by omega)), key (fun e => by omega) (fun _ U hU u0 => findD u0 ((i.fill5 g y2 hR5).mod hU).outD (fun _ => outD0))⟩
  · unfold pX9_averageTrees
    refine m_ls (fun l l1 l2 el => absurd (by rw [el, nI_toInt (by omega)]; omega) c) (fun _ => ⟨fun c => absurd rfl c, fun _ => ?_⟩)
    unfold jX9_averageTrees_14
    exact m_f1 ⟨fun c => absurd c (by decide), fun _ => findD rd0 h.thr (fun c => absurd c (by decide))⟩
/-- the class's slots, k counts written -/
def stC (T : gS) (s i : Nat) (v : Nat → Int32) : Nat → gS
  | 0 => T
  | k + 1 => uA (stC T s i v k) 31 (40 * s + (i + k)) (v k)
theorem stC_I {T : gS} {s i k : Nat} {v : Nat → Int32} : gI (stC T s i v k) = gI T := by
  induction k with
  | zero => rfl
  | succ k ih => exact ih
theorem stC_B {T : gS} {s i k : Nat} {v : Nat → Int32} : gB (stC T s i v k) = gB T := by
  induction k with
  | zero => rfl
  | succ k ih => exact ih
theorem stC_A {T : gS} {s i k a : Nat} {v : Nat → Int32} (ha : a ≠ 31) : gA (stC T s i v k) a = gA T a := by
  induction k with
  | zero => rfl
  | succ k ih =>
    show gA (uA (stC T s i v k) 31 (40 * s + (i + k)) (v k)) a = _
    rw [gA_uA, if_neg ha]
    exact ih
theorem s_28 {a1 a2 a3 a4 : Int32} {Sx Sm : gS} (h : Inv Sx Sm) : qL_28 a1 a2 a3 a4 Sx Sm Inv := by
  obtain ⟨n, t, st, P, h1, ok, hm, hL, hW⟩ := h.G
  obtain ⟨g, gc, gw, gv, gl, gt⟩ := id h
  have t3 : t ≤ 3 := h1.2.2.2.2.2.2.2.1
  unfold qL_28 pL_storeCounts pX8_storeCounts
  have m14 : ∀ {Post : gS → Prop} {s : Nat}, s < 3 → a1 = nI s → jX9_storeCounts_14 a1 a2 Sm Post 0 → pX9_storeCounts a1 a2 Sm Post := by
    intro Post s hs es hj
    unfold pX9_storeCounts
    exact m_slot (fun _ _ _ => ⟨fun _ => hj, fun c => absurd c (by decide)⟩) (fun c => absurd c (by rw [es]; exact nslot hs))
  refine c_slot (fun s hs es => ?_) (fun c => Or.inl ⟨rfl, ?_⟩)
  · rw [es]
    rcases gl s hs with ⟨l1, l2⟩ | ⟨l1, z, z40, l2, l3, l4, l5⟩
    · refine c_array hs (fun _ => Or.inr (Or.inl ⟨rfl, ?_⟩)) (fun c => absurd l1 c)
      rw [← es]
      refine m14 hs es ?_
      unfold jX9_storeCounts_14 jX9_storeCounts_36
      rw [es]
      refine m_f0 ⟨fun c => absurd rfl c, fun _ => ⟨vp_in_nI hs (by decide), ?_⟩⟩
      rw [nI_clamp (by omega), gA_uI, l2]
      exact ⟨fun c => absurd c (by decide), fun _ => m_f1 ⟨fun _ => finv rd0 h.thr.thr, fun c => absurd c (by decide)⟩⟩
    · refine c_array hs (fun c => absurd (l1.symm.trans c) (by decide)) (fun _ => ?_)
      have mm : ∀ {Post : gS → Prop}, (∀ i : Nat, a2 = nI i → i + 6 ≤ z → ∃ n, lp (fun L x => bX9_storeCounts_75 (nI s) (nI i) Post L x.1 x.2) n (1, uI (uI (uI Sm 0 0) 0 0) 0 0)) → (¬ (0 ≤ a2.toInt ∧ a2.toInt + (6 : Nat) ≤ z) → Post (uI (uI (uI Sm 0 0) 0 0) 0 3)) → pX9_storeCounts (nI s) a2 Sm Post := by
        intro Post h1 h0
        rw [← es]
        refine m14 hs es ?_
        unfold jX9_storeCounts_14 jX9_storeCounts_36
        rw [es]
        refine m_f0 ⟨fun c => absurd rfl c, fun _ => ⟨vp_in_nI hs (by decide), ?_⟩⟩
        rw [nI_clamp (by omega), gA_uI, l2]
        refine ⟨fun _ => m_f0 ⟨fun c => absurd rfl c, fun _ => ⟨vp_in_nI hs (by decide), ?_⟩⟩, fun c => absurd (nI_pos' (by omega)) c⟩
        rw [gA_uI, gA_uI, l2]
        have e : (nI z - 6).toInt = (z : Int) - 6 := by rw [sub_i] <;> rw [nI_toInt (by omega), t_6] <;> omega
        unfold jX9_storeCounts_66
        refine m_bt (fun c1 c2 => ⟨fun _ => m_f0 ⟨fun _ => ?_, fun c => absurd rfl c⟩, fun c => absurd c (by decide)⟩) (fun c => ⟨fun c => absurd rfl c, fun _ => m_f1 ⟨fun c => absurd c (by decide), fun _ => h0 ?_⟩⟩)
        · rw [e] at c2
          rw [t_0] at c1
          obtain ⟨i, hi, ei⟩ := nI_of' (x := a2) c1
          rw [ei, nI_toInt hi] at c2
          rw [ei]
          exact h1 i ei (by omega)
        · rw [e, t_0] at c
          omega
      refine c_index (c := 6) hs l1 l3 z40 (by decide) (fun i ei hi => ?_) (fun c => Or.inr (Or.inr ⟨rfl, mm (fun i ei hi => absurd ?_ c) (fun _ => finv rd0 h.thr.thr.thr)⟩))
      · rw [ei]
        refine c_cwd h h1 ok hL hW (l := 6) (by decide) (by decide) (fun T zw iT gT eA eI cl cw' hR lz z6 => ?_)
        have ok' : okP n t P (gA T 10) := by rw [eA]; exact ok
        have hh : ∀ k v, gA (stC T s i v k) 28 s = 1 := fun k v => by rw [stC_A (by decide), eA]; exact l1
        refine lp_sq (B := fun L x => bX8_storeCounts_25 (nI s) (nI i) _ L x.1 x.2) (fun k => (nI (1 + k), stC T s i (fun k => nrw (gA T 29 s) (nI (cw t P (gA T 10) st 1 (1 + k) (t ^ (1 + k))))) k)) 6 (fun k L hk hL => ?_) (fun L => ?_) rfl
        · unfold bX8_storeCounts_25
          refine ⟨fun c => absurd c (nI_nlt (a := 6) (by omega) (by omega)), fun _ => ?_⟩
          refine c_al (q := 1) (z := zw) (t := t) (n := n) (st := st) (P := P) ?_ ?_ ?_ (by omega) (by omega) z6 (by omega) ?_
          · unfold cG
            rw [stC_I]
            exact gT
          · rw [stC_A (by decide)]
            exact ok'
          · rw [stC_A (by decide), stC_B]
            exact hR
          · rw [show nI i + nI (1 + k) - 1 = nI (i + k) by rw [nI_add, i_1, nI_sub (by omega)]; congr 1; omega]
            refine c_put hs (hh k _) (by omega) ?_
            simp only [forall_eq]
            rw [nI_1, Nat.add_assoc, stC_A (a := 29) (by decide), stC_A (a := 10) (by decide)]
            exact hL
        · unfold bX8_storeCounts_25
          refine ⟨fun _ => ?_, fun c => absurd (nI_lt (a := 6) (by omega) (by omega)) c⟩
          rw [← ei]
          refine mm (fun j ej hj => ?_) (fun d => absurd (by rw [ei, nI_toInt (by omega)]; omega) d)
          have e5 : j = i := by rw [ei, nI_eq (by omega) (by omega)] at ej; omega
          rw [e5]
          refine lp_inv (B := fun L x => bX9_storeCounts_75 (nI s) (nI i) _ L x.1 x.2) (fun k x => ∃ U, x = (nI (1 + k), U) ∧ Inv (stC T s i (fun k => nrw (gA T 29 s) (nI (cw t P (gA T 10) st 1 (1 + k) (t ^ (1 + k))))) k) U ∧ mG U n t st P (gA Sx 10) ∧ gI U 0 = 0 ∧ gA U 11 s = nI z ∧ gA U 12 s = gA T 29 s) 6 (fun k x L hk hI hL => ?_) (fun x L hI => ?_) ⟨_, rfl, iT.thr.thr.thr, hm.thr.thr.thr, rd0, l2, by rw [eA]; exact l4⟩
          · obtain ⟨U, rfl, u1, u2, u3, u4, u5⟩ := hI
            unfold bX9_storeCounts_75
            refine ⟨fun c => absurd c (nI_nlt (a := 6) (by omega) (by omega)), fun _ => ⟨vp_in_nI hs (by decide), ?_⟩⟩
            refine m_cw (tr := 3) u2 (by omega) (by omega) (by omega) (fun V v1 v2 => ?_)
            have hV : mS U V := ⟨fun f f1 _ _ => by rw [v1], fun a _ _ a3 => v2 a a3⟩
            rw [cd_3]
            refine m_nrw hs ?_
            rw [show nI i + nI (1 + k) - 1 = nI (i + k) by rw [nI_add, i_1, nI_sub (by omega)]; congr 1; omega]
            refine ⟨vp_in_nI (by omega) (by decide), ?_⟩
            simp only [forall_eq]
            rw [nI_1, Nat.add_assoc, nI_clamp (by omega), nI_clamp (by omega), v2 12 (by decide), u5]
            refine hL _ ⟨_, rfl, ?_, ?_, ?_, ?_, ?_⟩
            · have hE := (u1.mod hV).elem (i := i + k) (v := nrw (gA T 29 s) (nI (cw t P (gA T 10) st 1 (1 + k) (t ^ (1 + k))))) hs (hh k _) (by rw [v2 11 (by decide)]; exact u4) z40 (by omega)
              rw [eA] at hE ⊢
              exact hE
            · exact (u2.s hV).eq (fun f _ _ => rfl) (fun p _ => by rw [gA_uA, if_neg (by omega)])
            · rw [gI_uA, v1, u3]
            · rw [gA_uA, if_neg (by omega), v2 11 (by decide), u4]
            · rw [gA_uA, if_neg (by omega), v2 12 (by decide), u5]
          · obtain ⟨U, rfl, u1, u2, u3, u4, u5⟩ := hI
            unfold bX9_storeCounts_75
            exact ⟨fun _ => finv u3 u1, fun c => absurd (nI_lt (a := 6) (by omega) (by omega)) c⟩
      · rw [ei, nI_toInt (by omega)]
        omega
  · unfold pX9_storeCounts jX9_storeCounts_14
    refine m_slot (fun s hs es => absurd c (by rw [es]; exact nslot hs)) (fun _ => ⟨fun c => absurd rfl c, fun _ => m_f1 ⟨fun _ => finv rd0 h.thr, fun c => absurd c (by decide)⟩⟩)
end
