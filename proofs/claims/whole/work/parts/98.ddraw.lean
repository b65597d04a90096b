section
/-! THE MATHEMATICS, 32: the number of a drawn tree; drawTree. -/
def bF (S T : gS) : Prop := gI T = gI S ∧ gJ T = gJ S ∧ (∀ a, a ≠ 26 → gA T a = gA S a) ∧ ∀ a, a ≠ 27 → gB T a = gB S a
theorem bF.H6 {S T : gS} {n t st P w z : Nat} (h : bF S T) (h1 : H6 S n t st P w z) : H6 T n t st P w z := by
  refine ⟨?_, by rw [h.2.2.1 10 (by decide)]; exact h1.2.1, h1.2.2.1, by rw [h.2.2.1 10 (by decide), h.2.2.1 13 (by decide), h.2.2.2 19 (by decide)]; exact h1.2.2.2⟩
  unfold cG
  rw [h.1]
  exact h1.1
/-- a part's digit -/
def fnB (cc : Int32) (a dd : Nat) (T : gS) (LL : Int32 × Int64 → Prop) : Prop := pX1_isNonterminal cc T (fun r_17 => ((r_17 = 0 → LL (nI a, nL dd)) ∧ (¬ r_17 = 0 → ((nI a < 0 → LL (nI a, nL dd)) ∧ (¬ nI a < 0 → ((15 ≤ nI a → LL (nI a, nL dd)) ∧ (¬ 15 ≤ nI a → (vp_in (nI a) 15 ∧ (vp_in (nI a) 15 ∧ (pX0_count_6 cc (gA T 23 (nI a).toNatClampNeg) (gA T 22 (nI a).toNatClampNeg) T (fun r_25 => (vp_in (nI a) 15 ∧ (vp_in (nI a) 15 ∧ LL (gA T 26 (nI a).toNatClampNeg, nL dd * r_25 + gB T 27 (nI a).toNatClampNeg))))))))))))))
section FN
variable {S : gS} {n t st P w : Nat} {Post : Int64 → gS → Prop}
theorem fnP {T : gS} (h : H6 T n t st P w w) (w8 : w ≤ 8) {cc : Int32} {bb l a a' rr dd f : Nat} {L : Int32 × Int64 → Prop} (hcc : cc = -1 ∨ isS n t cc) (hb : bb + l ≤ w) (ha' : a' ≤ 15) (hX : TX (fitW (gA T 13)) P (gA T 10) (gA T 21) (gA T 22) (gA T 23) (gA T 24) (gA T 25) f cc bb l a a' rr) (hv : isN n cc → gA T 26 a = nI a' ∧ gB T 27 a = nL rr) (hL : L (nI a', nL (dd * vl (fitW (gA T 13)) (TT (fitW (gA T 13)) P (gA T 10)) l bb cc + rr))) : fnB cc a dd T L := by
  unfold fnB
  have hn : n ≤ 6 := h.1.2.2.2.2.2.1
  refine c_isN h.1 (fun hN => ⟨fun e => absurd e (by decide), fun _ => ?_⟩) (fun hN => ⟨fun _ => ?_, fun e => absurd rfl e⟩)
  · have zz := TX_sz hn h.2.1 _ _ _ _ _ _ _ hcc hX
    have z1 := zz.2.2.2.1 hN
    obtain ⟨x1, x2⟩ := TX_nd hn hN hX
    obtain ⟨y1, y2⟩ := hv hN
    have vp : vp_in (nI a) 15 := vp_in_nI (by omega) (by omega)
    refine ⟨fun d => absurd d (nI_pos (by omega)), fun _ => ⟨fun d => absurd d (nI_ge (b := 15) (by omega) (by omega)), fun _ => ⟨vp, vp, ?_⟩⟩⟩
    rw [nI_clamp (by omega), x1, x2, y1, y2]
    refine c_cnt6 (b := bb) h hcc (fun _ => by omega) (by omega) hb ⟨vp, vp, ?_⟩
    rw [nL_mul, nL_add]
    exact hL
  · obtain ⟨x1, x2, x3, -⟩ := TX_nt hn hcc hN hX
    rw [x1, x2, x3, Nat.mul_one, Nat.add_zero] at hL
    exact hL
theorem fnX (h : H6 S n t st P w w) : ∀ f c b len i i' r (T : gS), bF S T → (c = -1 ∨ isS n t c) → len ≤ 8 → b + len ≤ w → i' ≤ 15 → TX (fitW (gA S 13)) P (gA S 10) (gA S 21) (gA S 22) (gA S 23) (gA S 24) (gA S 25) f c b len i i' r → (∀ T' : gS, bF S T' → (∀ j, ¬ (i ≤ j ∧ j < i') → gA T' 26 j = gA T 26 j ∧ gB T' 27 j = gB T 27 j) → (isN n c → gA T' 26 i = nI i' ∧ gB T' 27 i = nL r) → ∃ n, lp (fun L x => bX5_findNumber_12 Post L x.1 x.2) n (nI i - 1, T')) → ∃ n, lp (fun L x => bX5_findNumber_12 Post L x.1 x.2) n (nI i' - 1, T) := by
  have hn : n ≤ 6 := h.1.2.2.2.2.2.1
  have hP : P ≤ 24 := h.1.2.2.2.2.2.2.2.2.2
  have ok := h.2.1
  have w8 := h.2.2.1
  intro f
  induction f with
  | zero => intro c b len i i' r T _ _ _ _ _ h; exact h.elim
  | succ f ih =>
    intro c b len i i' r T hT hc l8 hb hi' hX hE
    rcases hX with ⟨g1, g2, g3, g4⟩ | ⟨g1, g2, g3, g4, g5⟩ | ⟨c1, c2, p, u, v, i1, i2, r1, r2, r3, hp, el, n0, n1, n2, n3, n4, huv, q1, q2, q3, er⟩
    · rw [g3]
      exact hE T hT (fun _ _ => ⟨rfl, rfl⟩) (fun d => absurd g1 (isS_m1 (t := t) (Or.inl d)))
    · rw [g4]
      exact hE T hT (fun _ _ => ⟨rfl, rfl⟩) (fun d => absurd g1 (isN_lt hn d))
    · have o1 := ok.k (k := 1) hp (by decide) (by decide)
      have o2 := ok.k (k := 2) hp (by decide) (by decide)
      have o3 := ok.k (k := 3) hp (by decide) (by decide)
      have z1 := TX_sz hn ok _ _ _ _ _ _ _ o1 q1
      have z2 := TX_sz hn ok _ _ _ _ _ _ _ o2 q2
      have z3 := TX_sz hn ok _ _ _ _ _ _ _ o3 q3
      have hx := (ok.1 p hp).2.1
      have u1 := (z1.2.1 hx).1
      refine ih _ (b + u + v) (len - u - v) i2 i' r3 T hT o3 (by omega) (by omega) hi' q3 (fun T1 b1 k1 v1 => ?_)
      refine ih _ (b + u) v i1 i2 r2 T1 b1 o2 (by omega) (by omega) (by omega) q2 (fun T2 b2 k2 v2 => ?_)
      refine ih _ b u (i + 1) i1 r1 T2 b2 o1 (by omega) (by omega) (by omega) q1 (fun T3 b3 k3 v3 => ?_)
      have h3 := b3.H6 h
      have A3 := b3.2.2.1
      have vp : vp_in (nI i) 15 := vp_in_nI (by omega) (by omega)
      have e10 := A3 10 (by decide)
      have e13 := A3 13 (by decide)
      have e21 := A3 21 (by decide)
      have e22 := A3 22 (by decide)
      have e23 := A3 23 (by decide)
      have e24 := A3 24 (by decide)
      have e25 := A3 25 (by decide)
      rw [show nI (i + 1) - 1 = nI i from nI_pred i]
      refine lp_st (nI i - 1, uB (uA T3 26 i (nI i')) 27 i (nL r)) (fun L hL => ?_) ?_
      · show bX5_findNumber_12 Post L (nI i) T3
        unfold bX5_findNumber_12
        refine ⟨fun d => absurd d (nI_pos (by omega)), fun _ => ?_⟩
        rintro _ rfl
        rw [nI_1]
        obtain ⟨V2, eV2⟩ : ∃ V2, V2 = vl (fitW (gA S 13)) (TT (fitW (gA S 13)) P (gA S 10)) v (b + u) (gA S 10 (4 * p + 2)) := ⟨_, rfl⟩
        obtain ⟨V3, eV3⟩ : ∃ V3, V3 = vl (fitW (gA S 13)) (TT (fitW (gA S 13)) P (gA S 10)) (len - u - v) (b + u + v) (gA S 10 (4 * p + 3)) := ⟨_, rfl⟩
        have w2 : isN n (gA S 10 (4 * p + 2)) → gA T3 26 i1 = nI i2 ∧ gB T3 27 i1 = nL r2 := fun d => by
          have := k3 i1 (by omega)
          rw [this.1, this.2]
          exact v2 d
        have w3 : isN n (gA S 10 (4 * p + 3)) → gA T3 26 i2 = nI i' ∧ gB T3 27 i2 = nL r3 := fun d => by
          have x1 := k3 i2 (by omega)
          have x2 := k2 i2 (by omega)
          rw [x1.1, x1.2, x2.1, x2.2]
          exact v1 d
        have step : ∀ (k a dd a' dd' : Nat) (L' : Int32 × Int64 × Int32 → Prop), k < 3 → (∀ LL : Int32 × Int64 → Prop, LL (nI a', nL dd') → fnB (gA S 10 (4 * p + (1 + k))) a dd T3 LL) → L' (nI a', nL dd', nI (1 + k + 1)) → bX5_findNumber_26 (nI i) T3 L L' (nI a) (nL dd) (nI (1 + k)) := by
          intro k a dd a' dd' L' hk hP' hL'
          unfold bX5_findNumber_26
          refine ⟨fun d => absurd d (nI_nlt (a := 3) (by omega) (by omega)), fun _ => ⟨vp, ?_⟩⟩
          rw [nI_clamp (n := i) (by omega), e21, n0]
          refine c_sym (k := 1 + k) h3.1 hp (by omega) ?_
          rw [e10]
          have := hP' (fun x => L' (x.1, x.2, nI (1 + k + 1))) hL'
          unfold fnB at this
          simp only [forall_eq]
          rw [nI_1 (1 + k)]
          exact this
        refine lp_sq (B := fun L' x => bX5_findNumber_26 (nI i) T3 L L' x.1 x.2.1 x.2.2) (fun k => (nI (if k = 0 then i + 1 else if k = 1 then i1 else if k = 2 then i2 else i'), nL (if k = 0 then 0 else if k = 1 then r1 else if k = 2 then r1 * V2 + r2 else (r1 * V2 + r2) * V3 + r3), nI (1 + k))) 3 (fun k L' hk hL' => ?_) (fun L' => ?_) rfl
        · rcases (show k = 0 ∨ k = 1 ∨ k = 2 by omega) with rfl | rfl | rfl
          · refine step 0 (i + 1) 0 i1 r1 L' (by omega) (fun LL hLL => fnP (f := f) (bb := b) (l := u) (rr := r1) h3 w8 o1 (by omega) (by omega) (by rw [e13, e10, e21, e22, e23, e24, e25]; exact q1) v3 ?_) hL'
            rw [Nat.zero_mul, Nat.zero_add]
            exact hLL
          · refine step 1 i1 r1 i2 (r1 * V2 + r2) L' (by omega) (fun LL hLL => fnP (f := f) (bb := b + u) (l := v) (rr := r2) h3 w8 o2 (by omega) (by omega) (by rw [e13, e10, e21, e22, e23, e24, e25]; exact q2) w2 ?_) hL'
            rw [e13, e10]
            show LL (_, nL (r1 * vl (fitW (gA S 13)) (TT (fitW (gA S 13)) P (gA S 10)) v (b + u) (gA S 10 (4 * p + 2)) + r2))
            rw [← eV2]
            exact hLL
          · refine step 2 i2 (r1 * V2 + r2) i' ((r1 * V2 + r2) * V3 + r3) L' (by omega) (fun LL hLL => fnP (f := f) (bb := b + u + v) (l := len - u - v) (rr := r3) h3 w8 o3 (by omega) (by omega) (by rw [e13, e10, e21, e22, e23, e24, e25]; exact q3) w3 ?_) hL'
            rw [e13, e10]
            show LL (_, nL ((r1 * V2 + r2) * vl (fitW (gA S 13)) (TT (fitW (gA S 13)) P (gA S 10)) (len - u - v) (b + u + v) (gA S 10 (4 * p + 3)) + r3))
            rw [← eV3]
            exact hLL
        · show bX5_findNumber_26 (nI i) T3 L L' (nI i') (nL ((r1 * V2 + r2) * V3 + r3)) (nI 4)
          unfold bX5_findNumber_26
          refine ⟨fun _ => ⟨vp, ?_⟩, fun d => absurd (nI_lt (a := 3) (by omega) (by omega)) d⟩
          rintro _ rfl
          rw [nI_clamp (n := i) (by omega)]
          have h10 : H6 (uA T3 26 i (nI i')) n t st P w w := ⟨h3.1, by rw [gA_uA, if_neg (by decide)]; exact h3.2.1, h3.2.2.1, by rw [gA_uA, if_neg (by decide), gA_uA, if_neg (by decide)]; exact h3.2.2.2⟩
          have ne : ∀ a, a ≠ 26 → gA (uA T3 26 i (nI i')) a = gA S a := fun a ha => by rw [gA_uA, if_neg ha]; exact A3 a ha
          refine c_cb (c := c) (b := b) (len := len) (p := p) (u := u) (v := v) h10 (by omega) l8 hb hp (by rw [ne 10 (by decide)]; exact el) (by rw [ne 21 (by decide)]; exact n0) (by rw [ne 22 (by decide)]; exact n1) (by rw [ne 23 (by decide)]; exact n2) (by rw [ne 24 (by decide)]; exact n3) (by rw [ne 25 (by decide)]; exact n4) u1 huv ⟨vp, ?_⟩
          rintro _ rfl
          rintro _ rfl
          rw [ne 13 (by decide), ne 10 (by decide), nL_add, eV2, eV3, ← er, ← Int32.sub_eq_add_neg]
          exact hL
      · refine hE _ ⟨b3.1, b3.2.1, fun a ha => ?_, fun a ha => ?_⟩ (fun j hj => ?_) (fun _ => ?_)
        · rw [gA_uB, gA_uA, if_neg ha]
          exact A3 a ha
        · rw [gB_uB, if_neg ha, gB_uA]
          exact b3.2.2.2 a ha
        · rw [gA_uB, gA_uA, if_pos rfl, pk_un (by omega), gB_uB, if_pos rfl, pk_uLn (by omega), gB_uA]
          have x3 := k3 j (by omega)
          have x2 := k2 j (by omega)
          have x1 := k1 j (by omega)
          exact ⟨by rw [x3.1, x2.1, x1.1], by rw [x3.2, x2.2, x1.2]⟩
        · rw [gA_uB, gA_uA, if_pos rfl, pk_us, gB_uB, if_pos rfl, pk_uLs]
          exact ⟨rfl, rfl⟩
theorem c_fn (h : H6 S n t st P w w) {z r : Nat} {c : Int32} (hN : isN n c) (e15 : gI S 15 = nI z) (hz : z ≤ 15) (hX : TX (fitW (gA S 13)) P (gA S 10) (gA S 21) (gA S 22) (gA S 23) (gA S 24) (gA S 25) 10 c 0 w 0 z r) (hq : ∀ T, bF S T → Post (nL r) T) : pX5_findNumber S Post := by
  unfold pX5_findNumber
  rw [e15]
  have e : (if (15 : Int32) < nI z then 15 else nI z) = nI z := by
    rw [if_neg]
    exact nI_nlt (a := 15) hz (by omega)
  rw [e]
  rintro _ rfl
  refine fnX h 10 c 0 w 0 z r S ⟨rfl, rfl, fun _ _ => rfl, fun _ _ => rfl⟩ (Or.inr (Or.inl hN)) h.2.2.1 (by omega) hz hX (fun T' bT _ hv => lp_en (fun L => ?_))
  show bX5_findNumber_12 Post L (nI 0 - 1) T'
  unfold bX5_findNumber_12
  refine ⟨fun _ => ⟨vp_in_nI (n := 0) (by omega) (by omega), ?_⟩, fun d => absurd (by decide) d⟩
  have := hq T' bT
  rw [← (hv hN).2] at this
  exact this
end FN
end
