section
/-! THE MATHEMATICS, 29: the model's build; takeTree. -/
theorem m_bd {n t st P w : Nat} {F : Nat → Int32} {fit : Nat → Int32 → Bool} : ∀ d, bdP n t st P w F fit d := by
  intro d
  induction d with
  | zero => intro c b len i R S Post _ _ _ _ _ _ _ _ h; omega
  | succ d ih =>
    intro c b len i R S Post h he e6 hc l8 hb hR hd _ hq
    have hn : n ≤ 6 := h.1.2.2.2.2.2.1
    have t3 : t ≤ 3 := h.1.2.2.2.2.2.2.2.1
    have hP : P ≤ 24 := h.1.2.2.2.2.2.2.2.2.2
    have e4 : gI S 4 = nI P := h.1.2.2.2.1
    have ok := h.2.2
    have w8 := he.1
    show fX9_build (pX9_build d) c (nI b) (nI len) (nL R) S Post
    unfold fX9_build
    refine ⟨fun c10 => ⟨fun c0 => ?_, fun c0 => ?_⟩, fun c10 => ?_⟩
    · have hN : isN n c := by
        rcases (neg_m1 hc).2 c0 with g | g
        · exact g
        · exact absurd (isT_ge g) (by rw [lt_i, t_10] at c10; rw [le_i, t_10]; omega)
      have hTT : R < TT fit P F len b c := by
        rw [vl_N hn hN] at hR
        by_cases e : len = 0
        · rw [if_pos e] at hR
          omega
        · rw [if_neg e] at hR
          exact hR
      have l1 : 1 ≤ len := by
        refine Classical.byContradiction (fun e => ?_)
        rw [show len = 0 by omega, TT_0 hn ok] at hTT
        omega
      have hd' := hd hN
      have hTlt := TT_lt (fit := fit) (b := b) (c := c) hn t3 hP ok l8
      have sq := sq_le (len := len) (by omega)
      obtain ⟨SP, eSP⟩ : ∃ SP : Nat → Nat, SP = fun k => sN (fun q => if F (4 * q) = c then tp fit (TT fit P F) F q len b else 0) k := ⟨_, rfl⟩
      have SPs : ∀ k, SP (k + 1) = SP k + if F (4 * k) = c then tp fit (TT fit P F) F k len b else 0 := fun k => by rw [eSP]; rfl
      have SPP : SP P = TT fit P F len b c := by rw [eSP]; exact (TT_eq hn ok).symm
      have SPm : ∀ k, k ≤ P → SP k ≤ SP P := fun k hk => by rw [eSP]; exact sN_mono hk
      refine lp_ex (B := fun L x => bX9_build_29 (pX9_build d) c (nI b) (nI len) S Post L x.1 x.2) (fun k x => x = (nL (R - SP k), nI k) ∧ SP k ≤ R) P (fun p x hk hI => ?_) ⟨by rw [show SP 0 = 0 by rw [eSP]; rfl]; rfl, by rw [show SP 0 = 0 by rw [eSP]; rfl]; omega⟩
      obtain ⟨rfl, hS⟩ := hI
      have hp : p < P := by
        refine Classical.byContradiction (fun e => ?_)
        rw [show p = P by omega] at hS
        omega
      have hSm := SPm (p + 1) (by omega)
      have e0 : gA S (16 + (nI p).toNatClampNeg) (0 : Int32).toNatClampNeg = F (4 * p) := row_at h hp (by decide)
      have vpp : vp_in (nI p) 24 := vp_in_nI (by omega) (by omega)
      by_cases el : F (4 * p) = c
      · have hx := (ok.1 p hp).2.1
        have htp := tp_lt (fit := fit) (b := b) hn t3 hP ok l8 hp
        have eS1 := SPs p
        rw [if_pos el] at eS1
        obtain ⟨FL, eFL⟩ : ∃ FL : Nat → Nat, FL = fun k => sN (fun m => pj fit (TT fit P F) F p len b (m / (len + 1)) (m % (len + 1))) k := ⟨_, rfl⟩
        have FLs : ∀ k, FL (k + 1) = FL k + pj fit (TT fit P F) F p len b (k / (len + 1)) (k % (len + 1)) := fun k => by rw [eFL]; rfl
        have FLe : FL ((len + 1) * (len + 1)) = tp fit (TT fit P F) F p len b := by rw [eFL]; exact tp_flat
        have FLm : ∀ k, k ≤ (len + 1) * (len + 1) → FL k ≤ FL ((len + 1) * (len + 1)) := fun k hk => by rw [eFL]; exact sN_mono hk
        have FL0 : FL 0 = 0 := by rw [eFL]; rfl
        have ebf : ∀ m, bf fit P F c len b p (m / (len + 1)) (m % (len + 1)) = SP p + FL m := fun m => by
          have := sN_flat (f := fun i j => pj fit (TT fit P F) F p len b i j) (m := len + 1) (a := m / (len + 1)) (by omega) (m % (len + 1)) (Nat.le_of_lt (Nat.mod_lt _ (by omega)))
          rw [Nat.div_add_mod'] at this
          rw [eSP, eFL]
          unfold bf
          rw [← this]
        have stepL : ∀ m L, m < (len + 1) * (len + 1) → SP p + FL m ≤ R → (R < SP p + FL (m + 1) ∨ L (nL (R - SP p - FL (m + 1)), nI (m + 1))) → ∀ L29, bX9_build_41 (pX9_build d) c (nI b) (nI len) S Post (nI p) L29 L (nL (R - SP p - FL m)) (nI m) := by
          intro m L hm hF hor L29
          have hdv := dm_lt hm
          have hr := Nat.mod_lt m (show 0 < len + 1 by omega)
          have hFm := FLm (m + 1) (by omega)
          rw [FLs] at hFm hor
          unfold bX9_build_41
          rw [i_sq, e0]
          refine ⟨fun d => absurd d (nI_ge hm (by omega)), fun _ => ⟨vpp, vp_in_nI (n := 0) (by omega) (by omega), fun d => absurd el d, fun _ => ?_⟩⟩
          rw [nI_1 len, nI_rem (by omega) (by omega), nI_div (by omega) (by omega)]
          refine ⟨nI_ne0 (by omega) (by omega), ?_⟩
          rintro _ rfl
          refine ⟨nI_ne0 (by omega) (by omega), ?_⟩
          rintro _ rfl
          rintro _ rfl
          have j113 : ∀ x12 : Int32, (m / (len + 1) + m % (len + 1) ≤ len → x12 = nI (len - m / (len + 1) - m % (len + 1))) → jX9_build_113 (pX9_build d) (nI b) S Post (nI p) (nL (R - SP p - FL m)) (nI m) L (nI (m / (len + 1))) (nI (m % (len + 1))) x12 (nL (pj fit (TT fit P F) F p len b (m / (len + 1)) (m % (len + 1)))) := by
            intro x12 hx12
            unfold jX9_build_113
            rw [cmp_ge, nL_toInt (by omega), nL_toInt (by omega)]
            simp only [forall_eq]
            refine ⟨fun d => ?_, fun d => ?_⟩
            · rcases hor with g | g
              · omega
              · rw [nL_sub (by omega), nI_1, Nat.sub_sub _ (FL m)]
                exact g
            · have huv : m / (len + 1) + m % (len + 1) ≤ len := by
                refine Classical.byContradiction (fun e => ?_)
                rw [show pj fit (TT fit P F) F p len b (m / (len + 1)) (m % (len + 1)) = 0 from if_neg e] at d
                omega
              rw [show pj fit (TT fit P F) F p len b (m / (len + 1)) (m % (len + 1)) = pr fit (TT fit P F) F p len b (m / (len + 1)) (m % (len + 1)) from if_pos huv] at d
              rw [hx12 huv, show R - SP p - FL m = R - bf fit P F c len b p (m / (len + 1)) (m % (len + 1)) by rw [ebf]; omega]
              exact m_bn ih h he e6 hN l1 l8 hb (by omega) (by omega) hp el huv (by rw [ebf]; omega) (by rw [ebf]; omega) hq
          by_cases huv : m / (len + 1) + m % (len + 1) ≤ len
          · rw [nI_sub (by omega), nI_sub (by omega)]
            refine ⟨fun d => absurd d (nI_pos (Nat.lt_of_le_of_lt (Nat.sub_le _ _) (Nat.lt_of_le_of_lt (Nat.sub_le _ _) (by omega)))), fun _ => m_po h he hp huv hb ?_⟩
            have := j113 (nI (len - m / (len + 1) - m % (len + 1))) (fun _ => rfl)
            rw [show pj fit (TT fit P F) F p len b (m / (len + 1)) (m % (len + 1)) = pr fit (TT fit P F) F p len b (m / (len + 1)) (m % (len + 1)) from if_pos huv] at this
            exact this
          · refine ⟨fun _ => ?_, fun d => absurd (sub_ng (by omega) (by omega) l8 (by omega)) d⟩
            have := j113 (nI len - nI (m / (len + 1)) - nI (m % (len + 1))) (fun e => absurd e huv)
            rw [show pj fit (TT fit P F) F p len b (m / (len + 1)) (m % (len + 1)) = 0 from if_neg huv] at this
            exact this
        by_cases hlt : R < SP (p + 1)
        · left
          intro L29
          unfold bX9_build_29
          rw [e4]
          refine ⟨fun d => absurd d (nI_ge hp (by omega)), fun _ => ?_⟩
          refine lp_ex (B := fun L x => bX9_build_41 (pX9_build d) c (nI b) (nI len) S Post (nI p) L29 L x.1 x.2) (fun m x => x = (nL (R - SP p - FL m), nI m) ∧ SP p + FL m ≤ R) ((len + 1) * (len + 1)) (fun m x hm hI => ?_) ⟨by rw [FL0]; rfl, by rw [FL0]; omega⟩
          obtain ⟨rfl, hF⟩ := hI
          have hm' : m < (len + 1) * (len + 1) := by
            refine Classical.byContradiction (fun e => ?_)
            rw [show m = (len + 1) * (len + 1) by omega, FLe] at hF
            omega
          by_cases hlt2 : R < SP p + FL (m + 1)
          · left
            intro L
            exact stepL m L hm' hF (Or.inl hlt2) L29
          · right
            exact ⟨hm', fun L hL => stepL m L hm' hF (Or.inr (hL _ ⟨rfl, by omega⟩)) L29⟩
        · right
          refine ⟨hp, fun L29 hL29 => ?_⟩
          unfold bX9_build_29
          rw [e4]
          refine ⟨fun d => absurd d (nI_ge hp (by omega)), fun _ => ?_⟩
          refine lp_sq (B := fun L x => bX9_build_41 (pX9_build d) c (nI b) (nI len) S Post (nI p) L29 L x.1 x.2) (fun m => (nL (R - SP p - FL m), nI m)) ((len + 1) * (len + 1)) (fun m L hm hL => ?_) (fun L => ?_) (by rw [FL0]; rfl)
          · have := FLm m (by omega)
            exact stepL m L hm (by omega) (Or.inr hL) L29
          · unfold bX9_build_41
            rw [i_sq]
            refine ⟨fun _ => ?_, fun d => absurd (nI_le (Nat.le_refl _) (by omega)) d⟩
            rintro _ rfl
            rw [nI_1]
            refine hL29 _ ⟨?_, by omega⟩
            rw [FLe, eS1, Nat.sub_sub]
      · have eS1 : SP (p + 1) = SP p := by
          rw [SPs, if_neg el] <;> rfl
        right
        refine ⟨hp, fun L29 hL29 => ?_⟩
        unfold bX9_build_29
        rw [e4]
        refine ⟨fun d => absurd d (nI_ge hp (by omega)), fun _ => ?_⟩
        refine lp_sq (B := fun L x => bX9_build_41 (pX9_build d) c (nI b) (nI len) S Post (nI p) L29 L x.1 x.2) (fun _ => (nL (R - SP p), 0)) 0 (fun m L hm => by omega) (fun L => ?_) rfl
        unfold bX9_build_41
        rw [i_sq, e0]
        refine ⟨fun d => absurd d (nI_ge (a := 0) (Nat.mul_pos (by omega) (by omega)) (by omega)), fun _ => ⟨vpp, vp_in_nI (n := 0) (by omega) (by omega), fun _ => ?_, fun d => absurd d el⟩⟩
        rintro _ rfl
        rw [nI_1]
        exact hL29 _ ⟨by rw [eS1], by omega⟩
    · have g := (neg_m1 hc).1 c0
      rw [g, vl_m1] at hR
      by_cases e : len = 0
      · rw [if_pos e] at hR
        exact hq S i mF.rfl e6 he (Or.inl ⟨g, e, rfl, by omega⟩) ⟨0, Or.inl ⟨g, e, rfl, rfl⟩⟩
      · rw [if_neg e] at hR
        omega
    · have g : (10 : Int32) ≤ c := by rw [lt_i, t_10] at c10; rw [le_i, t_10]; omega
      rw [vl_T g] at hR
      by_cases e : len = 1 ∧ fit b (c - 10) = true
      · rw [if_pos e] at hR
        have e1 := e.1
        refine ⟨vp_in_nI (by omega) (by omega), ?_⟩
        rintro _ rfl
        rw [nI_clamp (by omega)]
        refine hq _ i ⟨fun _ _ => rfl, fun a a1 _ _ _ => by rw [gA_uA, if_neg a1], rfl, fun j _ => ⟨?_, ?_, ?_⟩, fun q hq => ?_⟩ e6 (he.put e.2) (Or.inr (Or.inl ⟨g, e.1, e.2, rfl, by omega⟩)) ⟨0, Or.inr (Or.inl ⟨g, e.1, decide_eq_true ?_, rfl, rfl⟩)⟩
        · rw [gA_uA, if_neg (by decide)]
        · rw [gA_uA, if_neg (by decide)]
        · rw [gA_uA, if_neg (by decide)]
        · rw [gA_uA, if_pos rfl, pk_un (by omega)]
        · rw [gA_uA, if_pos rfl, pk_us]
      · rw [if_neg e] at hR
        omega
theorem Inv.tree {S0 M0 S1 M1 : gS} (h : Inv S0 M0) (a1 : ∀ f, f ≠ 12 → f ≠ 14 → f ≠ 15 → gI S1 f = gI S0 f) (a2 : ∀ a, a ≠ 11 → a ≠ 12 → ¬ (21 ≤ a ∧ a ≤ 26) → gA S1 a = gA S0 a) (a3 : gB S1 18 = gB S0 18) (a4 : gB S1 20 = gB S0 20) (b1 : ∀ f, 1 ≤ f → f ≠ 6 → f ≠ 7 → f ≠ 8 → gI M1 f = gI M0 f) (b2 : ∀ a, a ≠ 3 → a ≠ 4 → a ≠ 6 → a ≠ 8 → a ≠ 9 → a ≠ 10 → gA M1 a = gA M0 a) (ht : eqT S1 M1) : Inv S1 M1 := by
  obtain ⟨g, gc, gw, gv, gl, gt⟩ := h
  have A1 : ∀ f, f < 12 → gI S1 f = gI S0 f := fun f hf => a1 f (by omega) (by omega) (by omega)
  have A2 : ∀ a, a ≠ 11 → a ≠ 12 → ¬ (21 ≤ a ∧ a ≤ 26) → gA S1 a = gA S0 a := a2
  have B1 : ∀ f, 1 ≤ f → f ≠ 6 → f ≠ 7 → f ≠ 8 → gI M1 f = gI M0 f := b1
  refine ⟨?_, ?_, ?_, ?_, ?_, ht⟩
  · unfold eqG at g ⊢
    rw [A1 1 (by omega), A1 2 (by omega), A1 3 (by omega), A1 4 (by omega), A1 5 (by omega), A2 10 (by omega) (by omega) (by omega), A2 13 (by omega) (by omega) (by omega), B1 1 (by omega) (by omega) (by omega) (by omega), B1 2 (by omega) (by omega) (by omega) (by omega), B1 3 (by omega) (by omega) (by omega) (by omega), B1 4 (by omega) (by omega) (by omega) (by omega), B1 5 (by omega) (by omega) (by omega) (by omega), b2 2 (by omega) (by omega) (by omega) (by omega) (by omega) (by omega)]
    refine ⟨g.1, g.2.1, g.2.2.1, g.2.2.2.1, g.2.2.2.2.1, fun p k hp hk => ?_, g.2.2.2.2.2.2⟩
    rw [b2 (16 + p) (by omega) (by omega) (by omega) (by omega) (by omega) (by omega)]
    exact g.2.2.2.2.2.1 p k hp hk
  · unfold eqC at gc ⊢
    rw [A1 1 (by omega), A1 2 (by omega), A1 3 (by omega), A1 4 (by omega), A1 11 (by omega), a1 13 (by omega) (by omega) (by omega), A2 10 (by omega) (by omega) (by omega), a3, a4]
    exact gc
  · rw [A1 2 (by omega), A1 5 (by omega), A2 13 (by omega) (by omega) (by omega)]
    exact gw
  · unfold eqV at gv ⊢
    rw [A1 0 (by omega), A1 6 (by omega), A1 7 (by omega), A1 8 (by omega), A1 9 (by omega), A1 10 (by omega), A2 14 (by omega) (by omega) (by omega), A2 17 (by omega) (by omega) (by omega), B1 9 (by omega) (by omega) (by omega) (by omega), B1 10 (by omega) (by omega) (by omega) (by omega), B1 11 (by omega) (by omega) (by omega) (by omega), B1 12 (by omega) (by omega) (by omega) (by omega), B1 13 (by omega) (by omega) (by omega) (by omega), B1 14 (by omega) (by omega) (by omega) (by omega), b2 15 (by omega) (by omega) (by omega) (by omega) (by omega) (by omega)]
    refine ⟨gv.1, gv.2.imp id (fun w => ⟨w.1, w.2.1, w.2.2.1, w.2.2.2.1, w.2.2.2.2.1, w.2.2.2.2.2.1, w.2.2.2.2.2.2.1, w.2.2.2.2.2.2.2.1, fun p k hp hk => ?_, w.2.2.2.2.2.2.2.2.2⟩)⟩
    rw [b2 (40 + p) (by omega) (by omega) (by omega) (by omega) (by omega) (by omega)]
    exact w.2.2.2.2.2.2.2.2.1 p k hp hk
  · unfold eqL at gl ⊢
    intro s hs
    rw [A2 28 (by omega) (by omega) (by omega), A2 29 (by omega) (by omega) (by omega), A2 30 (by omega) (by omega) (by omega), A2 31 (by omega) (by omega) (by omega), b2 11 (by omega) (by omega) (by omega) (by omega) (by omega) (by omega), b2 12 (by omega) (by omega) (by omega) (by omega) (by omega) (by omega), b2 (64 + s) (by omega) (by omega) (by omega) (by omega) (by omega) (by omega)]
    exact gl s hs
theorem nL_of {x : Int64} (h : 0 ≤ x.toInt) : ∃ R : Nat, R < 2 ^ 63 ∧ x = nL R := by
  have h2 := Int64.toInt_lt x
  refine ⟨x.toInt.toNat, by omega, Int64.toInt_inj.mp ?_⟩
  rw [nL_toInt (by omega)]
  omega
theorem s_22 {a1 a2 a3 a4 : Int32} {Sx Sm : gS} (h : Inv Sx Sm) : qL_22 a1 a2 a3 a4 Sx Sm Inv := by
  obtain ⟨n, t, st, P, h1, ok, hm, hL, hW⟩ := h.G
  obtain ⟨g, gc, ⟨w, w8, ew, hw⟩, gv, gl, gt⟩ := id h
  have hn : n ≤ 6 := h1.2.2.2.2.2.1
  have t3 : t ≤ 3 := h1.2.2.2.2.2.2.2.1
  have hst : st < n := h1.2.2.2.2.2.2.2.2.1
  have hP : P ≤ 24 := h1.2.2.2.2.2.2.2.2.2
  have ew' : gI Sm 5 = nI w := by rw [g.2.2.2.2.1, ew]
  have hN := nI_isN (n := n) (by omega) hst
  unfold qL_22 pL_takeTree pX8_takeTree
  generalize (a1.toInt64 <<< ((32 : Int32).toInt64 &&& 63)) ||| (a2.toInt64 &&& 4294967295) = num
  refine c_spans h1 ok w8 ew (fun T hT h6 => ?_)
  have eT : TT (fitW (gA (uI Sm 0 0) 2)) P (gA Sx 10) w 0 (nI st) = TT (fitW (gA Sx 13)) P (gA Sx 10) w 0 (nI st) := TT_W hn ok (fun i hi => g.2.2.2.2.2.2 i (by omega)) (show 0 + w ≤ w by omega)
  have eT' : TT (fitW (gA Sm 2)) P (gA Sx 10) w 0 (nI st) = TT (fitW (gA Sx 13)) P (gA Sx 10) w 0 (nI st) := eT
  have evl : vl (fitW (gA Sx 13)) (TT (fitW (gA Sx 13)) P (gA Sx 10)) w 0 (nI st) = if w = 0 then 0 else TT (fitW (gA Sx 13)) P (gA Sx 10) w 0 (nI st) := vl_N hn hN
  have hlt := vl_lt (fit := fitW (gA Sx 13)) (b := 0) (c := nI st) hn t3 hP ok w8 (Or.inr (Or.inl hN))
  have eA : ∀ a, a ≠ 11 → a ≠ 12 → a ≠ 24 → a ≠ 25 → a ≠ 26 → gA T a = gA Sx a := hT.2.2.1
  have eF : gA T 10 = gA Sx 10 := eA 10 (by decide) (by decide) (by decide) (by decide) (by decide)
  have eW : gA T 13 = gA Sx 13 := eA 13 (by decide) (by decide) (by decide) (by decide) (by decide)
  have e3 : gI T 3 = nI st := (hT.1 3 (by decide)).trans h1.2.2.1
  have e5 : gI T 5 = nI w := (hT.1 5 (by decide)).trans ew
  have iT := h.cls hT
  -- the model's side
  have bad : ∀ {Q : Int32 → gS → Prop}, (num.toInt < 0 ∨ (vl (fitW (gA Sx 13)) (TT (fitW (gA Sx 13)) P (gA Sx 10)) w 0 (nI st) : Int) ≤ num.toInt) → (∀ U, mS Sm U → gI U 0 = 1 → Q 0 U) → pX9_takeTree num Sm Q := by
    intro Q c hq
    unfold pX9_takeTree
    refine m_cc hm w8 ew' (fun U u1 u2 u3 u4 => ?_)
    rw [eT', ← evl, cmp_lt, cmp_lt, nL_toInt hlt, show (0 : Int64).toInt = 0 from rfl]
    have hU : mS Sm (uI U 0 1) := ⟨fun f f1 _ _ => by rw [gI_uI, if_neg (by omega), u1], fun a _ _ a3 => u2 a a3⟩
    have j1 : jX9_takeTree_24 num Q U 1 := by
      unfold jX9_takeTree_24
      exact m_f1 ⟨fun c => absurd c (by decide), fun _ => hq _ hU rd0⟩
    exact ⟨fun _ => j1, fun d => ⟨fun d2 => absurd c (by omega), fun _ => j1⟩⟩
  rw [cmp_lt, show (0 : Int64).toInt = 0 from rfl]
  refine ⟨fun d => ⟨rfl, bad (Or.inl d) (fun U hU u0 => fin u0 (iT.mod hU) (fun c => absurd c (by decide)))⟩, fun d => ?_⟩
  rw [e3, e5]
  refine c_cnt6 (b := 0) h6 (Or.inr (Or.inl hN)) (fun _ => Nat.le_refl _) (by omega) (by omega) ?_
  rw [eF, eW, cmp_lt, nL_toInt hlt]
  refine ⟨fun d2 => ?_, fun d2 => ⟨rfl, bad (Or.inr (by omega)) (fun U hU u0 => fin u0 (iT.mod hU) (fun c => absurd c (by decide)))⟩⟩
  obtain ⟨R, hR, eR⟩ := nL_of (x := num) (by omega)
  rw [eR, nL_toInt hR] at d2
  have hRv : R < vl (fitW (gA Sx 13)) (TT (fitW (gA Sx 13)) P (gA Sx 10)) w 0 (nI st) := by omega
  have w1 : 1 ≤ w := by
    refine Classical.byContradiction (fun e => ?_)
    rw [evl, if_pos (by omega)] at hRv
    omega
  rintro _ rfl
  rw [gI_uI, if_neg (by decide), gI_uI, if_neg (by decide), e3, e5, eR]
  have h6' : H6 (uI T 15 0) n t st P w w := ⟨by
    unfold cG
    simp only [gI_uI]
    exact h6.1, h6.2.1, h6.2.2.1, h6.2.2.2⟩
  refine c_gr6 (W := gA Sx 13) (F := gA Sx 10) 10 (nI st) 0 w 0 R (uI T 15 0) _ h6' eF eW (by rw [gI_uI, if_pos rfl]; rfl) (Or.inr (Or.inl hN)) w8 (by omega) hRv (fun _ => by omega) (by omega) (fun T2 z gf t2 q => ?_)
  have zz := TX_sz hn ok _ _ _ _ _ _ _ (Or.inr (Or.inl hN)) q
  have z1 := zz.2.2.2.1 hN
  have z2 := (zz.2.1 (Or.inl hN)).2
  rintro _ rfl
  rintro _ rfl
  have e15 : gI (uI (uJ T2 0 (nL R)) 14 1) 15 = nI z := by rw [gI_uI, if_neg (by decide), gI_uJ, t2]
  rw [e15]
  -- the model
  unfold pX9_takeTree
  refine m_cc hm w8 ew' (fun U u1 u2 u3 u4 => ?_)
  rw [eT', ← evl, cmp_lt, cmp_lt, nL_toInt hlt, nL_toInt hR, show (0 : Int64).toInt = 0 from rfl]
  refine ⟨fun c => by omega, fun _ => ⟨fun _ => ?_, fun c => by omega⟩⟩
  unfold jX9_takeTree_24
  refine m_f0 ⟨fun _ => ?_, fun c => absurd rfl c⟩
  rintro _ rfl
  rintro _ rfl
  obtain ⟨M, eM⟩ : ∃ M, M = uI (uI (uI U 0 0) 7 1) 6 0 := ⟨_, rfl⟩
  rw [← eM]
  have mI : ∀ f, 1 ≤ f → f ≠ 6 → f ≠ 7 → gI M f = gI Sm f := fun f f1 f2 f3 => by rw [eM, gI_uI, if_neg f2, gI_uI, if_neg f3, gI_uI, if_neg (by omega), u1]
  have mA : ∀ a, a ≠ 6 → gA M a = gA Sm a := fun a ha => by rw [eM]; exact u2 a ha
  have hM : mG M n t st P (gA Sx 10) := hm.eq (fun f f1 f2 => mI f f1 (by omega) (by omega)) (fun p _ => mA _ (by omega))
  have heM : mE n P (gA Sx 10) (fitW (gA Sx 13)) w M := by
    refine ⟨w8, Or.inl ⟨by rw [eM, gI_uI, if_neg (by decide), gI_uI, if_pos rfl], gA Sx 13, rfl, fun i hi => ?_, ?_⟩⟩
    · rw [eM]
      exact (u3 i hi).trans (g.2.2.2.2.2.2 i (by omega))
    · have := u4.W hn ok (W' := gA Sx 13) (fun i hi => (u3 i hi).trans (g.2.2.2.2.2.2 i (by omega)))
      rw [eM]
      exact this
  rw [mI 3 (by omega) (by omega) (by omega), mI 5 (by omega) (by omega) (by omega), hm.1.2.2.1, ew']
  refine m_bd (fit := fitW (gA Sx 13)) 10 (nI st) 0 w 0 R M _ hM heM (by rw [eM, gI_uI, if_pos rfl]; rfl) (Or.inr (Or.inl hN)) w8 (by omega) hRv (fun _ => by omega) (by omega) (fun V z' fV tV _ qV _ => ?_)
  have qT := TX_TV _ _ _ _ _ _ _ q
  obtain ⟨ez, hA⟩ := TV_un hn ok _ _ _ _ _ _ _ _ (Or.inr (Or.inl hN)) qT qV
  subst ez
  have eA2 : ∀ a, a ≠ 11 → a ≠ 12 → ¬ (21 ≤ a ∧ a ≤ 26) → gA (uI (uJ T2 0 (nL R)) 14 1) a = gA Sx a := fun a x1 x2 x3 => by
    rw [gA_uI, gA_uJ, gf.2.1 a (by omega), gA_uI]
    exact eA a x1 x2 (by omega) (by omega) (by omega)
  have eI2 : ∀ f, f ≠ 12 → f ≠ 14 → f ≠ 15 → gI (uI (uJ T2 0 (nL R)) 14 1) f = gI Sx f := fun f x1 x2 x3 => by
    rw [gI_uI, if_neg x2, gI_uJ, gf.1 f x3, gI_uI, if_neg x3]
    exact hT.1 f x1
  refine fin ?_ (Inv.out (h.tree eI2 eA2 ?_ ?_ (fun f x1 x2 x3 x4 => ?_) (fun a x1 x2 x3 x4 x5 x6 => ?_) ?_)) (fun _ => ?_)
  · rw [fV.1 0 (by decide), eM, gI_uI, if_neg (by decide), gI_uI, if_neg (by decide), rd0]
  · show gB T2 18 = _
    rw [gf.2.2.1]
    exact hT.2.2.2.1
  · show gB T2 20 = _
    rw [gf.2.2.1]
    exact hT.2.2.2.2
  · rw [fV.1 f x2]
    exact mI f x1 x2 x3
  · rw [fV.2.1 a x3 x4 x5 x6]
    exact mA a x3
  · refine Or.inr ⟨by rw [gI_uI, if_pos rfl], z', P, w, st, R, by omega, by omega, e15, tV, fun i hi => ?_, ?_, hP, ?_, w1, w8, ?_, by omega, ?_, ?_⟩
    · have := hA i (by omega) hi
      exact ⟨this.1.symm, this.2.1.symm, this.2.2.symm⟩
    · exact (eI2 4 (by decide) (by decide) (by decide)).trans h1.2.2.2.1
    · exact (eI2 5 (by decide) (by decide) (by decide)).trans ew
    · exact (eI2 3 (by decide) (by decide) (by decide)).trans h1.2.2.1
    · rw [eA2 13 (by decide) (by decide) (by omega), eA2 10 (by decide) (by decide) (by omega)]
      exact qT
    · rw [gJ_uI, gJ_uJ, if_pos rfl]
  · rw [out0, tV]
end
