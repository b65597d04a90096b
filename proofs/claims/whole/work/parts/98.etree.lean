section
/-! THE MATHEMATICS, 33: drawTree. -/
theorem c_spell {S : gS} {n t st P z : Nat} {F : Nat → Int32} (h1 : cG S n t st P) (eF : gA S 10 = F) (ok : okP n t P F) (e15 : gI S 15 = nI z) (hz : z ≤ 15) {c : Int32} {len r : Nat} (hN : isN n c) (l8 : len ≤ 8) (hX : TX fitL P F (gA S 21) (gA S 22) (gA S 23) (gA S 24) (gA S 25) 10 c 0 len 0 z r) {Post : gS → Prop} (hq : ∀ W : Nat → Int32, (∀ q, len ≤ q → W q = gA S 13 q) → (∃ r', TX (fitW W) P F (gA S 21) (gA S 22) (gA S 23) (gA S 24) (gA S 25) 10 c 0 len 0 z r') → Post (sA S 13 W)) : pX5_spell S Post := by
  have hn : n ≤ 6 := h1.2.2.2.2.2.1
  unfold pX5_spell
  have sp := spX (Post := Post) h1 eF ok e15 hz 10 c 0 len 0 z r (gA S 13) (Or.inr (Or.inl hN)) (by omega) (Nat.le_refl _) hX (fun d => absurd d (isN_lt hn hN)) (fun W x1 x2 => lp_en (fun L => ?_))
  · rw [sA_id] at sp
    exact sp
  · show bX5_spell_2 Post L (nI z) (sA S 13 W)
    unfold bX5_spell_2
    rw [gI_sA, e15]
    exact ⟨fun _ => hq W (fun q hq => x1 q (by omega)) x2, fun d => absurd (nI_le (Nat.le_refl _) (by omega)) d⟩
def kS (S T : gS) : Prop := (∀ f, f ≠ 12 → gI T f = gI S f) ∧ gJ T = gJ S ∧ gA T = gA S ∧ ∀ a, a ≠ 19 → gB T a = gB S a
theorem c_spans2 {S : gS} {n t st P w : Nat} (h1 : cG S n t st P) (ok : okP n t P (gA S 10)) (hw : w ≤ 8) (h5 : gI S 5 = nI w) {Post : gS → Prop} (hq : ∀ T : gS, kS S T → H6 T n t st P w w → Post T) : pX8_countSpans S Post := by
  unfold pX8_countSpans pX0_forget_6
  simp only [forall_eq]
  rw [gI_uI, if_neg (by decide), h5]
  have h1' : cG (uI S 12 0) n t st P := by
    unfold cG at h1 ⊢
    simp only [gI_uI]
    exact h1
  refine c_fill6 h1' ok hw (by rw [gI_uI, if_neg (by decide), h5]) (by rw [gI_uI, if_pos rfl]) (fun R hR => hq _ ⟨fun f hf => ?_, rfl, rfl, fun a ha => ?_⟩ ⟨?_, ok, hw, ?_⟩)
  · rw [gI_uI, if_neg hf, gI_sB, gI_uI, if_neg hf]
  · rw [gB_uI, gB_sB, if_neg ha, gB_uI]
  · unfold cG at h1 ⊢
    simp only [gI_uI, gI_sB]
    exact h1
  · rw [gB_uI, gB_sB, if_pos rfl]
    exact hR
theorem s_21 {a1 a2 a3 a4 : Int32} {Sx Sm : gS} (h : Inv Sx Sm) : qL_21 a1 a2 a3 a4 Sx Sm Inv := by
  obtain ⟨n, t, st, P, h1, ok, hm, hL, hW⟩ := h.G
  obtain ⟨g, gc, gw, gv, gl, gt⟩ := id h
  have hn : n ≤ 6 := h1.2.2.2.2.2.1
  have t3 : t ≤ 3 := h1.2.2.2.2.2.2.2.1
  have hst : st < n := h1.2.2.2.2.2.2.2.2.1
  have hP : P ≤ 24 := h1.2.2.2.2.2.2.2.2.2
  have hN := nI_isN (n := n) (by omega) hst
  unfold qL_21 pL_drawTree pX8_drawTree
  generalize (a1.toInt64 <<< ((32 : Int32).toInt64 &&& 63)) ||| (a2.toInt64 &&& 4294967295) = seed
  obtain ⟨U0, hU0, eU0⟩ := shr1 (seed * 6364136223846793005 + 1442695040888963407)
  refine c_len (m := 8) (by omega) (fun l l1 l8 el => ?_) (fun c => Or.inl ⟨rfl, ?_⟩)
  · rw [el]
    have hTlt := TT_lt (fit := fitL) (b := 0) (c := nI st) hn t3 hP ok l8
    refine c_all h1 ok hL l1 (by omega) (fun R5 z5 y1 y2 hR5 => ?_)
    have i1 := h.fill5 h1 y2 hR5
    obtain ⟨S1, eS1⟩ : ∃ S1, S1 = uI (sB Sx 18 R5) 11 (nI z5) := ⟨_, rfl⟩
    rw [← eS1] at i1 ⊢
    have sI : ∀ f, f ≠ 11 → gI S1 f = gI Sx f := fun f hf => by rw [eS1, gI_uI, if_neg hf, gI_sB]
    have sA1 : gA S1 = gA Sx := by rw [eS1]; rfl
    have s18 : gB S1 18 = R5 := by rw [eS1, gB_uI, gB_sB, if_pos rfl]
    have g1 : cG S1 n t st P := by
      unfold cG
      rw [sI 1 (by decide), sI 2 (by decide), sI 3 (by decide), sI 4 (by decide)]
      exact h1
    -- the model up to the draw
    have key : ∀ {Q : Int64 → gS → Prop}, (TT fitL P (gA Sx 10) l 0 (nI st) = 0 → ∀ U, mS Sm U → gI U 0 = 2 → Q 0 U) → (1 ≤ TT fitL P (gA Sx 10) l 0 (nI st) → ∀ (V : gS) (z : Nat), (∀ f, 1 ≤ f → f ≠ 6 → f ≠ 7 → gI V f = gI Sm f) → (∀ a, a ≠ 6 → a ≠ 8 → a ≠ 9 → a ≠ 10 → gA V a = gA Sm a) → gI V 0 = 0 → gI V 6 = nI z → TV fitL P (gA Sx 10) (gA V 8) (gA V 9) (gA V 10) 10 (nI st) 0 l 0 z (U0 % TT fitL P (gA Sx 10) l 0 (nI st)) → (∃ r', TV (fitW (gA V 6)) P (gA Sx 10) (gA V 8) (gA V 9) (gA V 10) 10 (nI st) 0 l 0 z r') → Q (nL (U0 % TT fitL P (gA Sx 10) l 0 (nI st))) (uI (uI (uI (sA V 2 (cpy l (gA V 6) (gA V 2))) 5 (nI l)) 6 0) 6 (nI z))) → pX9_drawTree seed (nI l) Sm Q := by
      intro Q h0 hn0
      unfold pX9_drawTree
      refine m_bt (fun _ _ => ⟨fun _ => ?_, fun c => absurd c (by decide)⟩) (fun c => absurd ⟨by rw [t_1, nI_toInt (by omega)]; omega, by rw [t_8, nI_toInt (by omega)]; omega⟩ c)
      unfold jX9_drawTree_17
      refine m_f0 ⟨fun _ => m_cbl hm.thr (fun U u1 u2 u3 => ?_), fun c => absurd rfl c⟩
      have hU : mS Sm U := .thr u1 (fun a _ => by rw [u2]; rfl)
      have e3 : gI U 3 = nI st := by rw [hU.1 3 (by decide) (by decide) (by decide)]; exact hm.1.2.2.1
      rw [e3, nI_clamp (n := st) (by omega), nI_clamp (n := l) (by omega), u3 l st (by omega) hst, cmp_eq, ← nL_0, nL_inj hTlt (by decide)]
      refine ⟨vp_in_nI (by omega) (by omega), vp_in_nI (by omega) (by omega), fun c => ?_, fun c => ?_⟩
      · unfold jX9_drawTree_52
        refine m_f0 ⟨fun _ => ?_, fun c => absurd rfl c⟩
        have e3' : gI (uI U 0 0) 3 = nI st := by rw [gI_uI, if_neg (by decide)]; exact e3
        rw [e3', nI_clamp (n := st) (by omega), nI_clamp (n := l) (by omega), gB_uI, u3 l st (by omega) hst]
        refine ⟨vp_in_nI (by omega) (by omega), vp_in_nI (by omega) (by omega), m_draw (by omega) hTlt hU0 eU0 ?_⟩
        rintro _ rfl
        rintro _ rfl
        obtain ⟨M, eM⟩ : ∃ M, M = uI (uI (uI U 0 0) 7 0) 6 0 := ⟨_, rfl⟩
        rw [← eM]
        have mI : ∀ f, 1 ≤ f → f ≠ 6 → f ≠ 7 → gI M f = gI Sm f := fun f f1 f2 f3 => by rw [eM, gI_uI, if_neg f2, gI_uI, if_neg f3, gI_uI, if_neg (by omega), u1, gI_uI, if_neg (by omega)]
        have mA : gA M = gA Sm := by rw [eM]; exact u2
        have hM : mG M n t st P (gA Sx 10) := hm.eq (fun f f1 f2 => mI f f1 (by omega) (by omega)) (fun p _ => by rw [mA])
        have heM : mE n P (gA Sx 10) fitL l M := ⟨l8, Or.inr ⟨by rw [eM, gI_uI, if_neg (by decide), gI_uI, if_pos rfl], rfl, by rw [eM]; exact u3⟩⟩
        rw [mI 3 (by omega) (by omega) (by omega), hm.1.2.2.1]
        refine m_bd (fit := fitL) 10 (nI st) 0 l 0 _ M _ hM heM (by rw [eM, gI_uI, if_pos rfl]; rfl) (Or.inr (Or.inl hN)) l8 (by omega) (by rw [vl_N hn hN, if_neg (by omega)]; exact Nat.mod_lt _ (by omega)) (fun _ => by omega) (by omega) (fun V z fV tV _ qV qW => ?_)
        rintro _ rfl
        refine m_tk l8 ?_
        rintro _ rfl
        rw [tV]
        refine hn0 (by omega) V z (fun f f1 f2 f3 => (fV.1 f f2).trans (mI f f1 f2 f3)) (fun a x1 x2 x3 x4 => by rw [fV.2.1 a x1 x2 x3 x4, mA]) ?_ tV qV qW
        rw [fV.1 0 (by decide), eM, gI_uI, if_neg (by decide), gI_uI, if_neg (by decide), rd0]
      · unfold jX9_drawTree_52
        exact m_f1 ⟨fun c => absurd c (by decide), fun _ => h0 c _ (hU.trans (.thr (v := 2) rfl (fun _ _ => rfl))) rd0⟩
    rw [cmp_ge, nL_toInt hTlt, show (1 : Int64).toInt = 1 from rfl]
    refine ⟨fun d => ?_, fun d => Or.inr ⟨rfl, key (fun e U hU u0 => fin u0 (i1.mod hU) (fun c => absurd c (by decide))) (fun e => by omega)⟩⟩
    have hT1 : 1 ≤ TT fitL P (gA Sx 10) l 0 (nI st) := by omega
    refine c_draw hT1 hTlt hU0 eU0 ?_
    have hNlt : U0 % TT fitL P (gA Sx 10) l 0 (nI st) < vl fitL (TT fitL P (gA Sx 10)) l 0 (nI st) := by
      rw [vl_N hn hN, if_neg (by omega)]
      exact Nat.mod_lt _ (by omega)
    obtain ⟨num, enum⟩ : ∃ num, num = U0 % TT fitL P (gA Sx 10) l 0 (nI st) := ⟨_, rfl⟩
    rw [← enum] at hNlt key ⊢
    rintro _ rfl
    rw [gI_uI, if_neg (by decide), sI 3 (by decide), h1.2.2.1]
    have h5 : H5 (uI S1 15 0) n t st P z5 := ⟨by
      unfold cG
      simp only [gI_uI]
      exact g1, by rw [gA_uI, sA1]; exact ok, y2, by rw [gA_uI, sA1, gB_uI, s18]; exact hR5⟩
    refine c_gr5 (F := gA Sx 10) 10 (nI st) 0 l 0 num (uI S1 15 0) 0 _ h5 (by rw [gA_uI, sA1]) (by rw [gI_uI, if_pos rfl]; rfl) (Or.inr (Or.inl hN)) l8 (by omega) hNlt (fun _ => by omega) (by omega) (fun S9 z gf t9 q => ?_)
    have zz := TX_sz hn ok _ _ _ _ _ _ _ (Or.inr (Or.inl hN)) q
    have z1 := zz.2.2.2.1 hN
    have z2 := (zz.2.1 (Or.inl hN)).2
    rintro _ rfl
    have A9 : ∀ a, ¬ (21 ≤ a ∧ a ≤ 25) → gA (uI S9 5 (nI l)) a = gA Sx a := fun a ha => by rw [gA_uI, gf.2.1 a ha, gA_uI, sA1]
    have I9 : ∀ f, f ≠ 5 → f ≠ 11 → f ≠ 15 → gI (uI S9 5 (nI l)) f = gI Sx f := fun f f1 f2 f3 => by rw [gI_uI, if_neg f1, gf.1 f f3, gI_uI, if_neg f3, sI f f2]
    have g10 : cG (uI S9 5 (nI l)) n t st P := by
      unfold cG
      rw [I9 1 (by decide) (by decide) (by decide), I9 2 (by decide) (by decide) (by decide), I9 3 (by decide) (by decide) (by decide), I9 4 (by decide) (by decide) (by decide)]
      exact h1
    have e15 : gI (uI S9 5 (nI l)) 15 = nI z := by rw [gI_uI, if_neg (by decide), t9]
    obtain ⟨SA, eSA⟩ : ∃ SA, SA = uI S9 5 (nI l) := ⟨_, rfl⟩
    rw [← eSA] at A9 I9 g10 e15 ⊢
    have qA : TX fitL P (gA Sx 10) (gA SA 21) (gA SA 22) (gA SA 23) (gA SA 24) (gA SA 25) 10 (nI st) 0 l 0 z num := by rw [eSA]; exact q
    have BA : gB SA = gB S1 := by rw [eSA]; exact gf.2.2.1
    have eFA : gA SA 10 = gA Sx 10 := A9 10 (by omega)
    have e5A : gI SA 5 = nI l := by rw [eSA, gI_uI, if_pos rfl]
    refine c_spell g10 eFA ok e15 (by omega) hN l8 qA (fun W x1 x2 => ?_)
    obtain ⟨r', x2⟩ := x2
    have g12 : cG (sA SA 13 W) n t st P := g10
    have eF12 : gA (sA SA 13 W) 10 = gA Sx 10 := by rw [gA_sA, if_neg (by decide)]; exact eFA
    have e13 : gA (sA SA 13 W) 13 = W := by rw [gA_sA, if_pos rfl]
    refine c_spans2 g12 (by rw [eF12]; exact ok) l8 (by rw [gI_sA]; exact e5A) (fun T hT h6 => ?_)
    have AT : ∀ a, a ≠ 13 → gA T a = gA SA a := fun a ha => by rw [hT.2.2.1, gA_sA, if_neg ha]
    have AW : gA T 13 = W := by rw [hT.2.2.1]; exact e13
    have xT : TX (fitW (gA T 13)) P (gA T 10) (gA T 21) (gA T 22) (gA T 23) (gA T 24) (gA T 25) 10 (nI st) 0 l 0 z r' := by
      rw [AW, AT 10 (by decide), AT 21 (by decide), AT 22 (by decide), AT 23 (by decide), AT 24 (by decide), AT 25 (by decide), eFA]
      exact x2
    refine c_fn h6 hN (by rw [hT.1 15 (by decide), gI_sA]; exact e15) (by omega) xT (fun T' bT => ?_)
    rintro _ rfl
    rintro _ rfl
    obtain ⟨SF, eSF⟩ : ∃ SF, SF = uI (uJ T' 0 (nL r')) 14 1 := ⟨_, rfl⟩
    rw [← eSF]
    have fI : ∀ f, f ≠ 5 → f ≠ 12 → f ≠ 14 → f ≠ 15 → gI SF f = gI S1 f := fun f f1 f2 f3 f4 => by
      rw [eSF, gI_uI, if_neg f3, gI_uJ, bT.1, hT.1 f f2, gI_sA, eSA, gI_uI, if_neg f1, gf.1 f f4, gI_uI, if_neg f4]
    have f5 : gI SF 5 = nI l := by rw [eSF, gI_uI, if_neg (by decide), gI_uJ, bT.1, hT.1 5 (by decide), gI_sA]; exact e5A
    have f15 : gI SF 15 = nI z := by rw [eSF, gI_uI, if_neg (by decide), gI_uJ, bT.1, hT.1 15 (by decide), gI_sA]; exact e15
    have f14 : gI SF 14 = 1 := by rw [eSF, gI_uI, if_pos rfl]
    have fJ : gJ SF 0 = nL r' := by rw [eSF, gJ_uI, gJ_uJ, if_pos rfl]
    have fT : ∀ a, a ≠ 26 → gA SF a = gA T a := fun a ha => by rw [eSF, gA_uI, gA_uJ]; exact bT.2.2.1 a ha
    have f13 : gA SF 13 = W := (fT 13 (by decide)).trans AW
    have fA : ∀ a, a ≠ 13 → ¬ (21 ≤ a ∧ a ≤ 26) → gA SF a = gA Sx a := fun a a1 a2 => by rw [fT a (by omega), AT a a1, A9 a (by omega)]
    have fX : ∀ a, a ≠ 26 → a ≠ 13 → gA SF a = gA SA a := fun a a1 a2 => by rw [fT a a1, AT a a2]
    have fB : ∀ a, a ≠ 19 → a ≠ 27 → gB SF a = gB S1 a := fun a a1 a2 => by
      rw [eSF]
      show gB T' a = _
      rw [bT.2.2.2 a a2, hT.2.2.2 a a1]
      show gB SA a = _
      rw [BA]
    refine key (fun e => by omega) (fun _ V z' vI vA v0 v6 qV qW => ?_)
    have qT := TX_TV _ _ _ _ _ _ _ qA
    obtain ⟨ez, hA⟩ := TV_un hn ok _ _ _ _ _ _ _ _ (Or.inr (Or.inl hN)) qT qV
    subst ez
    obtain ⟨r'', qW⟩ := qW
    have qW2 := TV_loc (NP' := gA SA 21) (NF' := gA SA 22) (NS' := gA SA 23) hn ok _ _ _ _ _ _ _ (Or.inr (Or.inl hN)) qW (fun j a b => by
      have := hA j a b
      exact ⟨this.1.symm, this.2.1.symm, this.2.2.symm⟩)
    obtain ⟨-, -, hWW⟩ := TV_dt hn hP ok _ _ _ _ _ _ _ _ _ _ (Or.inr (Or.inl hN)) l8 l8 (TX_TV _ _ _ _ _ _ _ x2) qW2
    have hlet := TX_wl ok _ _ _ _ _ _ _ (Or.inr (Or.inl hN)) hn x2
    have iw := i1.word (l := l) (W := W) (W' := cpy l (gA V 6) (gA V 2)) g1 l8 (fun i hi => by
      have := hlet i hi
      rw [Nat.zero_add] at this
      exact this) (fun i hi => by
      unfold cpy
      by_cases e : i < l
      · rw [if_pos e]
        have := hWW i e
        rw [Nat.zero_add] at this
        exact this.symm
      · rw [if_neg e, vA 2 (by decide) (by decide) (by decide) (by decide), g.2.2.2.2.2.2 i hi, x1 i (by omega), A9 13 (by omega)])
    refine fin ?_ (Inv.out (iw.tree (fun f y1 y2 y3 => ?_) (fun a y1 y2 y3 => ?_) ?_ ?_ (fun f y1 y2 y3 y4 => ?_) (fun a y1 y2 y3 y4 y5 y6 => ?_) ?_)) (fun _ => out0)
    · rw [gI_uI, if_neg (by decide), gI_uI, if_neg (by decide), gI_uI, if_neg (by decide), gI_sA, v0]
    · rw [gI_uI, if_neg y2, gI_sA, gI_uI]
      by_cases e : f = 5
      · rw [if_pos e, e, f5]
      · rw [if_neg e, fI f e y1 y2 y3]
    · rw [gA_uI, gA_sA]
      by_cases e : a = 13
      · rw [if_pos e, e, f13]
      · rw [if_neg e, gA_uI, fA a e y3, sA1]
    · rw [fB 18 (by decide) (by decide)]
      rfl
    · rw [fB 20 (by decide) (by decide)]
      rfl
    · rw [gI_uI, if_neg y2, gI_uI, if_neg y2, gI_uI, gI_sA, gI_uI, if_neg y2, gI_uI, gI_sA]
      by_cases e : f = 5
      · rw [if_pos e, if_pos e]
      · rw [if_neg e, if_neg e, vI f y1 y2 y3]
    · rw [gA_uI, gA_uI, gA_uI, gA_sA, gA_uI, gA_uI, gA_sA]
      by_cases e : a = 2
      · rw [if_pos e, if_pos e]
      · rw [if_neg e, if_neg e, vA a y3 y4 y5 y6]
    · refine Or.inr ⟨f14, z', P, l, st, r', by omega, by omega, f15, ?_, fun i hi => ?_, ?_, hP, f5, l1, l8, ?_, by omega, ?_, fJ⟩
      · rw [gI_uI, if_pos rfl]
      · have := hA i (by omega) hi
        rw [fX 21 (by decide) (by decide), fX 22 (by decide) (by decide), fX 23 (by decide) (by decide)]
        simp only [gA_uI]
        rw [gA_sA, if_neg (by decide), gA_sA, if_neg (by decide), gA_sA, if_neg (by decide)]
        exact ⟨this.1.symm, this.2.1.symm, this.2.2.symm⟩
      · rw [fI 4 (by decide) (by decide) (by decide) (by decide), sI 4 (by decide)]
        exact h1.2.2.2.1
      · rw [fI 3 (by decide) (by decide) (by decide) (by decide), sI 3 (by decide)]
        exact h1.2.2.1
      · rw [f13, fA 10 (by decide) (by omega), fX 21 (by decide) (by decide), fX 22 (by decide) (by decide), fX 23 (by decide) (by decide)]
        exact TX_TV _ _ _ _ _ _ _ x2
  · unfold pX9_drawTree
    refine m_bt (fun c1 c2 => absurd ⟨by rw [t_1] at c1; omega, by rw [t_8] at c2; omega⟩ c) (fun _ => ⟨fun c => absurd rfl c, fun _ => ?_⟩)
    unfold jX9_drawTree_17
    exact m_f1 ⟨fun c => absurd c (by decide), fun _ => fin rd0 h.thr (fun c => absurd c (by decide))⟩
end
