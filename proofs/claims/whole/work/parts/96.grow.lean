section
/-! THE MATHEMATICS, 27: the class grows a tree. -/
def gF (S T : gS) (i : Nat) : Prop := (∀ f, f ≠ 15 → gI T f = gI S f) ∧ (∀ a, ¬ (21 ≤ a ∧ a ≤ 25) → gA T a = gA S a) ∧ gB T = gB S ∧ gJ T = gJ S ∧ ∀ a j, 21 ≤ a → a ≤ 25 → j < i → gA T a j = gA S a j
theorem gF.rfl {S : gS} {i : Nat} : gF S S i := ⟨fun _ _ => Eq.refl _, fun _ _ => Eq.refl _, Eq.refl _, Eq.refl _, fun _ _ _ _ _ => Eq.refl _⟩
theorem gF.trans {S T U : gS} {i j : Nat} (h1 : gF S T i) (h2 : gF T U j) (hij : i ≤ j) : gF S U i := ⟨fun f hf => (h2.1 f hf).trans (h1.1 f hf), fun a ha => (h2.2.1 a ha).trans (h1.2.1 a ha), h2.2.2.1.trans h1.2.2.1, h2.2.2.2.1.trans h1.2.2.2.1, fun a k a1 a2 hk => (h2.2.2.2.2 a k a1 a2 (by omega)).trans (h1.2.2.2.2 a k a1 a2 hk)⟩
theorem gF.G {S T : gS} {i n t st P : Nat} (h : gF S T i) (h1 : cG S n t st P) : cG T n t st P := by
  unfold cG at h1 ⊢
  rw [h.1 1 (by decide), h.1 2 (by decide), h.1 3 (by decide), h.1 4 (by decide)]
  exact h1
theorem gF.H5 {S T : gS} {i n t st P z : Nat} (h : gF S T i) (h1 : H5 S n t st P z) : H5 T n t st P z := ⟨h.G h1.1, by rw [h.2.1 10 (by omega)]; exact h1.2.1, h1.2.2.1, by rw [h.2.1 10 (by omega), h.2.2.1]; exact h1.2.2.2⟩
theorem gF.H6 {S T : gS} {i n t st P w z : Nat} (h : gF S T i) (h1 : H6 S n t st P w z) : H6 T n t st P w z := ⟨h.G h1.1, by rw [h.2.1 10 (by omega)]; exact h1.2.1, h1.2.2.1, by rw [h.2.1 10 (by omega), h.2.1 13 (by omega), h.2.2.1]; exact h1.2.2.2⟩
theorem mx1 {X : Nat} (h1 : 1 ≤ X) (h2 : X < 2 ^ 63) : (if nL X < 1 then 1 else nL X) = nL X := by
  rw [if_neg]
  rw [Int64.lt_iff_toInt_lt, nL_toInt h2, show (1 : Int64).toInt = 1 from rfl]
  omega
theorem nL_ne {X : Nat} (h1 : 1 ≤ X) (h2 : X < 2 ^ 63) : ¬ nL X = 0 := by
  rw [← nL_0, nL_inj h2 (by decide)]
  omega
theorem r_1 {v1 v2 v3 m : Nat} (h : m < v1 * (v2 * v3)) : m / v3 / v2 < v1 := by
  rw [Nat.div_div_eq_div_mul]
  refine Nat.div_lt_of_lt_mul ?_
  rw [Nat.mul_comm v3 v2, Nat.mul_comm (v2 * v3)]
  exact h
theorem r_e {v2 v3 m : Nat} : (m / v3 / v2 * v2 + m / v3 % v2) * v3 + m % v3 = m := by
  rw [Nat.div_add_mod', Nat.div_add_mod']
theorem c_gr5 {n t st P z : Nat} {F : Nat → Int32} : ∀ d c b len i R (S : gS) (k : Int32) (Post : gS → Prop), H5 S n t st P z → gA S 10 = F →  gI S 15 = nI i → (c = -1 ∨ isS n t c) → len ≤ 8 → len ≤ z → R < vl fitL (TT fitL P F) len b c → (isN n c → i + 2 * len ≤ 16 ∧ len + 1 ≤ d) → 1 ≤ d → (∀ (T : gS) (i' : Nat), gF S T i → gI T 15 = nI i' → TX fitL P F (gA T 21) (gA T 22) (gA T 23) (gA T 24) (gA T 25) d c b len i i' R → Post T) → pX5_grow_5 d c k (nI b) (nI len) (nL R) S Post := by
  intro d
  induction d with
  | zero => intro c b len i R S k Post _ _  _ _ _ _ _ _ h; omega
  | succ d ih =>
    intro c b len i R S k Post h eF  e15 hc l8 hb hR hd _ hq
    have hn : n ≤ 6 := h.1.2.2.2.2.2.1
    have t3 : t ≤ 3 := h.1.2.2.2.2.2.2.2.1
    have hP : P ≤ 24 := h.1.2.2.2.2.2.2.2.2.2
    have ok : okP n t P F := eF ▸ h.2.1
    show fX5_grow_5 (pX5_grow_5 d) c k (nI b) (nI len) (nL R) S Post
    unfold fX5_grow_5
    rintro _ rfl
    rw [e15]
    refine c_isN h.1 (fun hN => ⟨fun e => absurd e (by decide), fun _ => ?_⟩) (fun hN => ⟨fun _ => ?_, fun e => absurd rfl e⟩)
    · have hTT : R < TT fitL P F len b c := by
        rw [vl_N hn hN] at hR
        by_cases e : len = 0
        · rw [if_pos e] at hR
          omega
        · rw [if_neg e] at hR
          exact hR
      have l1 : 1 ≤ len := by
        refine Classical.byContradiction (fun e => ?_)
        rw [show len = 0 by omega, TT_0 hn ok] at hTT
        omega
      have hd' := hd hN
      have hTlt := TT_lt (fit := fitL) (b := b) (c := c) hn t3 hP ok l8
      refine ⟨fun e => absurd e (nI_nlt (b := 1) (by omega) (by omega)), fun _ => ⟨fun e => absurd e (nI_pos (by omega)), fun _ => ⟨fun _ => ?_, fun e => absurd (nI_lt (b := 15) (by omega) (by omega)) e⟩⟩⟩
      have vp : vp_in (nI i) 15 := vp_in_nI (by omega) (by omega)
      rintro _ rfl
      refine ⟨vp, ?_⟩
      rintro _ rfl
      refine ⟨vp, ?_⟩
      rintro _ rfl
      rw [nI_1, nI_clamp (n := i) (by omega)]
      obtain ⟨S10, e10⟩ : ∃ S10, S10 = uA (uA (uI S 15 (nI (i + 1))) 22 i (nI b)) 23 i (nI len) := ⟨_, rfl⟩
      rw [← e10]
      have g10 : gF S S10 i := by
        rw [e10]
        refine ⟨fun f hf => ?_, fun a ha => ?_, rfl, rfl, fun a j a1 a2 hj => ?_⟩
        · rw [gI_uA, gI_uA, gI_uI, if_neg hf]
        · rw [gA_uA, if_neg (by omega), gA_uA, if_neg (by omega), gA_uI]
        · rw [gA_uA]
          by_cases x : a = 23
          · rw [if_pos x, pk_un (by omega), gA_uA, if_neg (by omega), gA_uI, x]
          · rw [if_neg x, gA_uA]
            by_cases x : a = 22
            · rw [if_pos x, pk_un (by omega), gA_uI, x]
            · rw [if_neg x, gA_uI]
      have b22 : gA S10 22 i = nI b := by rw [e10, gA_uA, if_neg (by decide), gA_uA, if_pos rfl, pk_us]
      have b23 : gA S10 23 i = nI len := by rw [e10, gA_uA, if_pos rfl, pk_us]
      have b15 : gI S10 15 = nI (i + 1) := by rw [e10, gI_uA, gI_uA, gI_uI, if_pos rfl]
      have eF10 : gA S10 10 = F := (g10.2.1 10 (by omega)).trans eF
      skip
      refine c_ch5 (S := S10) (g10.H5 h) hN l1 l8 hb (by omega) b23 (by rw [eF10]; exact hTT) (fun p u v hp el u1 huv hb1 hb2 => ?_)
      rw [eF10] at el
      rw [eF10] at hb1 hb2 ⊢
      obtain ⟨S12, e12⟩ : ∃ S12, S12 = uA (uA (uA S10 21 i (nI p)) 24 i (nI u)) 25 i (nI v) := ⟨_, rfl⟩
      rw [← e12]
      have g12' : gF S10 S12 i := by
        rw [e12]
        refine ⟨fun f hf => rfl, fun a ha => ?_, rfl, rfl, fun a j a1 a2 hj => ?_⟩
        · rw [gA_uA, if_neg (by omega), gA_uA, if_neg (by omega), gA_uA, if_neg (by omega)]
        · rw [gA_uA]
          by_cases x : a = 25
          · rw [if_pos x, pk_un (by omega), gA_uA, if_neg (by omega), gA_uA, if_neg (by omega), x]
          · rw [if_neg x, gA_uA]
            by_cases x : a = 24
            · rw [if_pos x, pk_un (by omega), gA_uA, if_neg (by omega), x]
            · rw [if_neg x, gA_uA]
              by_cases x : a = 21
              · rw [if_pos x, pk_un (by omega), x]
              · rw [if_neg x]
      have g12 : gF S S12 i := g10.trans g12' (Nat.le_refl _)
      have a21 : gA S12 21 i = nI p := by rw [e12, gA_uA, if_neg (by decide), gA_uA, if_neg (by decide), gA_uA, if_pos rfl, pk_us]
      have a22 : gA S12 22 i = nI b := by rw [e12, gA_uA, if_neg (by decide), gA_uA, if_neg (by decide), gA_uA, if_neg (by decide)]; exact b22
      have a23 : gA S12 23 i = nI len := by rw [e12, gA_uA, if_neg (by decide), gA_uA, if_neg (by decide), gA_uA, if_neg (by decide)]; exact b23
      have a24 : gA S12 24 i = nI u := by rw [e12, gA_uA, if_neg (by decide), gA_uA, if_pos rfl, pk_us]
      have a25 : gA S12 25 i = nI v := by rw [e12, gA_uA, if_pos rfl, pk_us]
      have a15 : gI S12 15 = nI (i + 1) := by rw [e12]; exact b15
      have h12 := g12.H5 h
      have eF12 : gA S12 10 = F := (g12.2.1 10 (by omega)).trans eF
      skip
      have o1 := ok.k (k := 1) hp (by decide) (by decide)
      have o2 := ok.k (k := 2) hp (by decide) (by decide)
      have o3 := ok.k (k := 3) hp (by decide) (by decide)
      have lt2 := vl_lt (fit := fitL) (b := b + u) (c := F (4 * p + 2)) hn t3 hP ok (show v ≤ 8 by omega) o2
      have lt3 := vl_lt (fit := fitL) (b := b + u + v) (c := F (4 * p + 3)) hn t3 hP ok (show len - u - v ≤ 8 by omega) o3
      have hpr : R - bf fitL P F c len b p u v < pr fitL (TT fitL P F) F p len b u v := by omega
      have hprp : 0 < pr fitL (TT fitL P F) F p len b u v := by omega
      have hrem : R - bf fitL P F c len b p u v < 2 ^ 63 := by omega
      obtain ⟨m, em⟩ : ∃ m, m = R - bf fitL P F c len b p u v := ⟨_, rfl⟩
      rw [← em] at hpr hrem ⊢
      unfold pr at hpr hprp
      have y1 : 1 ≤ vl fitL (TT fitL P F) u b (F (4 * p + 1)) := Nat.pos_of_ne_zero (fun e => by rw [e, Nat.zero_mul] at hprp; omega)
      have y2 : 1 ≤ vl fitL (TT fitL P F) v (b + u) (F (4 * p + 2)) := Nat.pos_of_ne_zero (fun e => by rw [e, Nat.zero_mul, Nat.mul_zero] at hprp; omega)
      have y3 : 1 ≤ vl fitL (TT fitL P F) (len - u - v) (b + u + v) (F (4 * p + 3)) := Nat.pos_of_ne_zero (fun e => by rw [e, Nat.mul_zero, Nat.mul_zero] at hprp; omega)
      have er : R = bf fitL P F c len b p u v + ((m / vl fitL (TT fitL P F) (len - u - v) (b + u + v) (F (4 * p + 3)) / vl fitL (TT fitL P F) v (b + u) (F (4 * p + 2)) * vl fitL (TT fitL P F) v (b + u) (F (4 * p + 2)) + m / vl fitL (TT fitL P F) (len - u - v) (b + u + v) (F (4 * p + 3)) % vl fitL (TT fitL P F) v (b + u) (F (4 * p + 2))) * vl fitL (TT fitL P F) (len - u - v) (b + u + v) (F (4 * p + 3)) + m % vl fitL (TT fitL P F) (len - u - v) (b + u + v) (F (4 * p + 3))) := by
        rw [r_e]
        omega
      have k1 := r_1 hpr
      have k2 := Nat.mod_lt (m / vl fitL (TT fitL P F) (len - u - v) (b + u + v) (F (4 * p + 3))) (show 0 < vl fitL (TT fitL P F) v (b + u) (F (4 * p + 2)) by omega)
      have k3 := Nat.mod_lt m (show 0 < vl fitL (TT fitL P F) (len - u - v) (b + u + v) (F (4 * p + 3)) by omega)
      have hdv : m / vl fitL (TT fitL P F) (len - u - v) (b + u + v) (F (4 * p + 3)) < 2 ^ 63 := Nat.lt_of_le_of_lt (Nat.div_le_self _ _) hrem
      obtain ⟨-, hx, hyz⟩ := ok.1 p hp
      have yv : isS n t (F (4 * p + 2)) → 1 ≤ v := fun g => Nat.pos_of_ne_zero (fun e => by rw [e, vl_0 hn g] at y2; omega)
      have xv : isN n (F (4 * p + 1)) → 1 ≤ v := fun g => by
        rcases hyz with ⟨-, -, hx'⟩ | ⟨hy, -⟩
        · exact absurd g hx'
        · exact yv hy
      have zv : isN n (F (4 * p + 3)) → isS n t (F (4 * p + 2)) := fun g => by
        rcases hyz with ⟨-, hz, -⟩ | ⟨hy, -⟩
        · exact absurd hz (isS_m1 (t := t) (Or.inl g))
        · exact hy
      rw [a21, a24, a25]
      refine ⟨vp, ?_⟩
      rintro _ rfl
      refine ⟨vp, ?_⟩
      rintro _ rfl
      refine ⟨vp, ?_⟩
      rintro _ rfl
      rintro _ rfl
      rw [nI_sub (show u ≤ len by omega), nI_sub (show v ≤ len - u by omega)]
      unfold pX2_part
      rw [nI_add b u, nI_add (b + u) v]
      refine c_sym (k := 2) h12.1 hp (by decide) (c_sym (k := 3) h12.1 hp (by decide) ?_)
      rw [eF12]
      refine c_cnt5 (b := b + u) h12 o2 (fun _ => by omega) (by omega) ?_
      rw [eF12]
      rintro _ rfl
      refine c_cnt5 (b := b + u + v) h12 o3 (fun _ => by omega) (by omega) ?_
      rw [eF12, mx1 y2 lt2]
      rintro _ rfl
      rw [mx1 y3 lt3]
      refine c_sym (k := 1) h12.1 hp (by decide) ?_
      rw [eF12]
      rw [nL_rem hrem lt3, nL_div hrem lt3, nL_rem hdv lt2, nL_div hdv lt2]
      refine ⟨nL_ne y3 lt3, nL_ne y2 lt2, ih _ b u (i + 1) _ S12 _ _ h12 eF12  a15 o1 (by omega) (by omega) k1 (fun g => by have := xv g; omega) (by omega) (fun T1 i1 g1 t1 q1 => ?_)⟩
      have z1 := TX_sz hn ok _ _ _ _ _ _ _ o1 q1
      have z1' := z1.2.1 hx
      refine ⟨nL_ne y3 lt3, nL_ne y2 lt2, ih _ (b + u) v i1 _ T1 _ _ (g1.H5 h12) ((g1.2.1 10 (by omega)).trans eF12)  t1 o2 (by omega) (by omega) k2 (fun g => by omega) (by omega) (fun T2 i2 g2 t2 q2 => ?_)⟩
      have z2 := TX_sz hn ok _ _ _ _ _ _ _ o2 q2
      have g13 := g1.trans g2 z1.1
      refine ⟨nL_ne y3 lt3, ih _ (b + u + v) (len - u - v) i2 _ T2 _ _ (g13.H5 h12) ((g13.2.1 10 (by omega)).trans eF12)  t2 o3 (by omega) (by omega) k3 (fun g => by have := z2.2.1 (zv g); omega) (by omega) (fun T3 i3 g3 t3' q3 => ?_)⟩
      have z3 := TX_sz hn ok _ _ _ _ _ _ _ o3 q3
      have g23 := g2.trans g3 z2.1
      have g14 := g1.trans g23 z1.1
      have nd : ∀ a, 21 ≤ a → a ≤ 25 → gA T3 a i = gA S12 a i := fun a x1 x2 => g14.2.2.2.2 a i x1 x2 (by omega)
      refine hq T3 i3 (g12.trans g14 (by omega)) t3' (Or.inr (Or.inr ⟨isS_m1 (t := t) (Or.inl hN), isN_lt hn hN, p, u, v, i1, i2, _, _, _, hp, el, (nd 21 (by omega) (by omega)).trans a21, (nd 22 (by omega) (by omega)).trans a22, (nd 23 (by omega) (by omega)).trans a23, (nd 24 (by omega) (by omega)).trans a24, (nd 25 (by omega) (by omega)).trans a25, huv, ?_, ?_, q3, er⟩))
      · exact TX_loc hn ok _ _ _ _ _ _ _ o1 q1 (fun j x1 x2 => ⟨(g23.2.2.2.2 21 j (by omega) (by omega) x2).symm, (g23.2.2.2.2 22 j (by omega) (by omega) x2).symm, (g23.2.2.2.2 23 j (by omega) (by omega) x2).symm, (g23.2.2.2.2 24 j (by omega) (by omega) x2).symm, (g23.2.2.2.2 25 j (by omega) (by omega) x2).symm⟩)
      · exact TX_loc hn ok _ _ _ _ _ _ _ o2 q2 (fun j x1 x2 => ⟨(g3.2.2.2.2 21 j (by omega) (by omega) x2).symm, (g3.2.2.2.2 22 j (by omega) (by omega) x2).symm, (g3.2.2.2.2 23 j (by omega) (by omega) x2).symm, (g3.2.2.2.2 24 j (by omega) (by omega) x2).symm, (g3.2.2.2.2 25 j (by omega) (by omega) x2).symm⟩)
    · refine hq S i gF.rfl e15 ?_
      rcases hc with g | g | g
      · rw [g, vl_m1] at hR
        by_cases e : len = 0
        · rw [if_pos e] at hR
          exact Or.inl ⟨g, e, rfl, by omega⟩
        · rw [if_neg e] at hR
          omega
      · exact absurd g hN
      · rw [vl_T (isT_ge g)] at hR
        by_cases e : len = 1 ∧ fitL b (c - 10) = true
        · rw [if_pos e] at hR
          exact Or.inr (Or.inl ⟨isT_ge g, e.1, e.2, rfl, by omega⟩)
        · rw [if_neg e] at hR
          omega
theorem c_gr6 {n t st P w : Nat} {F W : Nat → Int32} : ∀ d c b len i R (S : gS) (Post : gS → Prop), H6 S n t st P w w → gA S 10 = F → gA S 13 = W → gI S 15 = nI i → (c = -1 ∨ isS n t c) → len ≤ 8 → b + len ≤ w → R < vl (fitW W) (TT (fitW W) P F) len b c → (isN n c → i + 2 * len ≤ 16 ∧ len + 1 ≤ d) → 1 ≤ d → (∀ (T : gS) (i' : Nat), gF S T i → gI T 15 = nI i' → TX (fitW W) P F (gA T 21) (gA T 22) (gA T 23) (gA T 24) (gA T 25) d c b len i i' R → Post T) → pX5_grow_6 d c (nI b) (nI b) (nI len) (nL R) S Post := by
  intro d
  induction d with
  | zero => intro c b len i R S Post _ _ _  _ _ _ _ _ _ h; omega
  | succ d ih =>
    intro c b len i R S Post h eF eW e15 hc l8 hb hR hd _ hq
    have hn : n ≤ 6 := h.1.2.2.2.2.2.1
    have t3 : t ≤ 3 := h.1.2.2.2.2.2.2.2.1
    have hP : P ≤ 24 := h.1.2.2.2.2.2.2.2.2.2
    have ok : okP n t P F := eF ▸ h.2.1
    show fX5_grow_6 (pX5_grow_6 d) c (nI b) (nI b) (nI len) (nL R) S Post
    unfold fX5_grow_6
    rintro _ rfl
    rw [e15]
    refine c_isN h.1 (fun hN => ⟨fun e => absurd e (by decide), fun _ => ?_⟩) (fun hN => ⟨fun _ => ?_, fun e => absurd rfl e⟩)
    · have hTT : R < TT (fitW W) P F len b c := by
        rw [vl_N hn hN] at hR
        by_cases e : len = 0
        · rw [if_pos e] at hR
          omega
        · rw [if_neg e] at hR
          exact hR
      have l1 : 1 ≤ len := by
        refine Classical.byContradiction (fun e => ?_)
        rw [show len = 0 by omega, TT_0 hn ok] at hTT
        omega
      have hd' := hd hN
      have hTlt := TT_lt (fit := (fitW W)) (b := b) (c := c) hn t3 hP ok l8
      refine ⟨fun e => absurd e (nI_nlt (b := 1) (by omega) (by omega)), fun _ => ⟨fun e => absurd e (nI_pos (by omega)), fun _ => ⟨fun _ => ?_, fun e => absurd (nI_lt (b := 15) (by omega) (by omega)) e⟩⟩⟩
      have vp : vp_in (nI i) 15 := vp_in_nI (by omega) (by omega)
      rintro _ rfl
      refine ⟨vp, ?_⟩
      rintro _ rfl
      refine ⟨vp, ?_⟩
      rintro _ rfl
      rw [nI_1, nI_clamp (n := i) (by omega)]
      obtain ⟨S10, e10⟩ : ∃ S10, S10 = uA (uA (uI S 15 (nI (i + 1))) 22 i (nI b)) 23 i (nI len) := ⟨_, rfl⟩
      rw [← e10]
      have g10 : gF S S10 i := by
        rw [e10]
        refine ⟨fun f hf => ?_, fun a ha => ?_, rfl, rfl, fun a j a1 a2 hj => ?_⟩
        · rw [gI_uA, gI_uA, gI_uI, if_neg hf]
        · rw [gA_uA, if_neg (by omega), gA_uA, if_neg (by omega), gA_uI]
        · rw [gA_uA]
          by_cases x : a = 23
          · rw [if_pos x, pk_un (by omega), gA_uA, if_neg (by omega), gA_uI, x]
          · rw [if_neg x, gA_uA]
            by_cases x : a = 22
            · rw [if_pos x, pk_un (by omega), gA_uI, x]
            · rw [if_neg x, gA_uI]
      have b22 : gA S10 22 i = nI b := by rw [e10, gA_uA, if_neg (by decide), gA_uA, if_pos rfl, pk_us]
      have b23 : gA S10 23 i = nI len := by rw [e10, gA_uA, if_pos rfl, pk_us]
      have b15 : gI S10 15 = nI (i + 1) := by rw [e10, gI_uA, gI_uA, gI_uI, if_pos rfl]
      have eF10 : gA S10 10 = F := (g10.2.1 10 (by omega)).trans eF
      have eW10 : gA S10 13 = W := (g10.2.1 13 (by omega)).trans eW
      refine c_ch6 (S := S10) (g10.H6 h) hN l1 l8 hb (by omega) b23 (by rw [eF10, eW10]; exact hTT) (fun p u v hp el u1 huv hb1 hb2 => ?_)
      rw [eF10] at el
      rw [eF10, eW10] at hb1 hb2 ⊢
      obtain ⟨S12, e12⟩ : ∃ S12, S12 = uA (uA (uA S10 21 i (nI p)) 24 i (nI u)) 25 i (nI v) := ⟨_, rfl⟩
      rw [← e12]
      have g12' : gF S10 S12 i := by
        rw [e12]
        refine ⟨fun f hf => rfl, fun a ha => ?_, rfl, rfl, fun a j a1 a2 hj => ?_⟩
        · rw [gA_uA, if_neg (by omega), gA_uA, if_neg (by omega), gA_uA, if_neg (by omega)]
        · rw [gA_uA]
          by_cases x : a = 25
          · rw [if_pos x, pk_un (by omega), gA_uA, if_neg (by omega), gA_uA, if_neg (by omega), x]
          · rw [if_neg x, gA_uA]
            by_cases x : a = 24
            · rw [if_pos x, pk_un (by omega), gA_uA, if_neg (by omega), x]
            · rw [if_neg x, gA_uA]
              by_cases x : a = 21
              · rw [if_pos x, pk_un (by omega), x]
              · rw [if_neg x]
      have g12 : gF S S12 i := g10.trans g12' (Nat.le_refl _)
      have a21 : gA S12 21 i = nI p := by rw [e12, gA_uA, if_neg (by decide), gA_uA, if_neg (by decide), gA_uA, if_pos rfl, pk_us]
      have a22 : gA S12 22 i = nI b := by rw [e12, gA_uA, if_neg (by decide), gA_uA, if_neg (by decide), gA_uA, if_neg (by decide)]; exact b22
      have a23 : gA S12 23 i = nI len := by rw [e12, gA_uA, if_neg (by decide), gA_uA, if_neg (by decide), gA_uA, if_neg (by decide)]; exact b23
      have a24 : gA S12 24 i = nI u := by rw [e12, gA_uA, if_neg (by decide), gA_uA, if_pos rfl, pk_us]
      have a25 : gA S12 25 i = nI v := by rw [e12, gA_uA, if_pos rfl, pk_us]
      have a15 : gI S12 15 = nI (i + 1) := by rw [e12]; exact b15
      have h12 := g12.H6 h
      have eF12 : gA S12 10 = F := (g12.2.1 10 (by omega)).trans eF
      have eW12 : gA S12 13 = W := (g12.2.1 13 (by omega)).trans eW
      have o1 := ok.k (k := 1) hp (by decide) (by decide)
      have o2 := ok.k (k := 2) hp (by decide) (by decide)
      have o3 := ok.k (k := 3) hp (by decide) (by decide)
      have lt2 := vl_lt (fit := (fitW W)) (b := b + u) (c := F (4 * p + 2)) hn t3 hP ok (show v ≤ 8 by omega) o2
      have lt3 := vl_lt (fit := (fitW W)) (b := b + u + v) (c := F (4 * p + 3)) hn t3 hP ok (show len - u - v ≤ 8 by omega) o3
      have hpr : R - bf (fitW W) P F c len b p u v < pr (fitW W) (TT (fitW W) P F) F p len b u v := by omega
      have hprp : 0 < pr (fitW W) (TT (fitW W) P F) F p len b u v := by omega
      have hrem : R - bf (fitW W) P F c len b p u v < 2 ^ 63 := by omega
      obtain ⟨m, em⟩ : ∃ m, m = R - bf (fitW W) P F c len b p u v := ⟨_, rfl⟩
      rw [← em] at hpr hrem ⊢
      unfold pr at hpr hprp
      have y1 : 1 ≤ vl (fitW W) (TT (fitW W) P F) u b (F (4 * p + 1)) := Nat.pos_of_ne_zero (fun e => by rw [e, Nat.zero_mul] at hprp; omega)
      have y2 : 1 ≤ vl (fitW W) (TT (fitW W) P F) v (b + u) (F (4 * p + 2)) := Nat.pos_of_ne_zero (fun e => by rw [e, Nat.zero_mul, Nat.mul_zero] at hprp; omega)
      have y3 : 1 ≤ vl (fitW W) (TT (fitW W) P F) (len - u - v) (b + u + v) (F (4 * p + 3)) := Nat.pos_of_ne_zero (fun e => by rw [e, Nat.mul_zero, Nat.mul_zero] at hprp; omega)
      have er : R = bf (fitW W) P F c len b p u v + ((m / vl (fitW W) (TT (fitW W) P F) (len - u - v) (b + u + v) (F (4 * p + 3)) / vl (fitW W) (TT (fitW W) P F) v (b + u) (F (4 * p + 2)) * vl (fitW W) (TT (fitW W) P F) v (b + u) (F (4 * p + 2)) + m / vl (fitW W) (TT (fitW W) P F) (len - u - v) (b + u + v) (F (4 * p + 3)) % vl (fitW W) (TT (fitW W) P F) v (b + u) (F (4 * p + 2))) * vl (fitW W) (TT (fitW W) P F) (len - u - v) (b + u + v) (F (4 * p + 3)) + m % vl (fitW W) (TT (fitW W) P F) (len - u - v) (b + u + v) (F (4 * p + 3))) := by
        rw [r_e]
        omega
      have k1 := r_1 hpr
      have k2 := Nat.mod_lt (m / vl (fitW W) (TT (fitW W) P F) (len - u - v) (b + u + v) (F (4 * p + 3))) (show 0 < vl (fitW W) (TT (fitW W) P F) v (b + u) (F (4 * p + 2)) by omega)
      have k3 := Nat.mod_lt m (show 0 < vl (fitW W) (TT (fitW W) P F) (len - u - v) (b + u + v) (F (4 * p + 3)) by omega)
      have hdv : m / vl (fitW W) (TT (fitW W) P F) (len - u - v) (b + u + v) (F (4 * p + 3)) < 2 ^ 63 := Nat.lt_of_le_of_lt (Nat.div_le_self _ _) hrem
      obtain ⟨-, hx, hyz⟩ := ok.1 p hp
      have yv : isS n t (F (4 * p + 2)) → 1 ≤ v := fun g => Nat.pos_of_ne_zero (fun e => by rw [e, vl_0 hn g] at y2; omega)
      have xv : isN n (F (4 * p + 1)) → 1 ≤ v := fun g => by
        rcases hyz with ⟨-, -, hx'⟩ | ⟨hy, -⟩
        · exact absurd g hx'
        · exact yv hy
      have zv : isN n (F (4 * p + 3)) → isS n t (F (4 * p + 2)) := fun g => by
        rcases hyz with ⟨-, hz, -⟩ | ⟨hy, -⟩
        · exact absurd hz (isS_m1 (t := t) (Or.inl g))
        · exact hy
      rw [a21, a24, a25]
      refine ⟨vp, ?_⟩
      rintro _ rfl
      refine ⟨vp, ?_⟩
      rintro _ rfl
      refine ⟨vp, ?_⟩
      rintro _ rfl
      rintro _ rfl
      rw [nI_sub (show u ≤ len by omega), nI_sub (show v ≤ len - u by omega)]
      unfold pX4_part
      rw [nI_add u v, nI_add b (u + v), ← Nat.add_assoc b u v, nI_add b u, nI_add (b + u) v]
      refine c_sym (k := 2) h12.1 hp (by decide) (c_sym (k := 3) h12.1 hp (by decide) ?_)
      rw [eF12]
      refine c_cnt6 (b := b + u) h12 o2 (fun _ => by omega) (by omega) (by omega) ?_
      rw [eF12, eW12]
      rintro _ rfl
      refine c_cnt6 (b := b + u + v) h12 o3 (fun _ => by omega) (by omega) (by omega) ?_
      rw [eF12, eW12, mx1 y2 lt2]
      rintro _ rfl
      rw [mx1 y3 lt3]
      refine c_sym (k := 1) h12.1 hp (by decide) ?_
      rw [eF12, Int32.add_zero]
      rw [nL_rem hrem lt3, nL_div hrem lt3, nL_rem hdv lt2, nL_div hdv lt2]
      refine ⟨nL_ne y3 lt3, nL_ne y2 lt2, ih _ b u (i + 1) _ S12 _ h12 eF12 eW12 a15 o1 (by omega) (by omega) k1 (fun g => by have := xv g; omega) (by omega) (fun T1 i1 g1 t1 q1 => ?_)⟩
      have z1 := TX_sz hn ok _ _ _ _ _ _ _ o1 q1
      have z1' := z1.2.1 hx
      refine ⟨nL_ne y3 lt3, nL_ne y2 lt2, ih _ (b + u) v i1 _ T1 _ (g1.H6 h12) ((g1.2.1 10 (by omega)).trans eF12) ((g1.2.1 13 (by omega)).trans eW12) t1 o2 (by omega) (by omega) k2 (fun g => by omega) (by omega) (fun T2 i2 g2 t2 q2 => ?_)⟩
      have z2 := TX_sz hn ok _ _ _ _ _ _ _ o2 q2
      have g13 := g1.trans g2 z1.1
      refine ⟨nL_ne y3 lt3, ih _ (b + u + v) (len - u - v) i2 _ T2 _ (g13.H6 h12) ((g13.2.1 10 (by omega)).trans eF12) ((g13.2.1 13 (by omega)).trans eW12) t2 o3 (by omega) (by omega) k3 (fun g => by have := z2.2.1 (zv g); omega) (by omega) (fun T3 i3 g3 t3' q3 => ?_)⟩
      have z3 := TX_sz hn ok _ _ _ _ _ _ _ o3 q3
      have g23 := g2.trans g3 z2.1
      have g14 := g1.trans g23 z1.1
      have nd : ∀ a, 21 ≤ a → a ≤ 25 → gA T3 a i = gA S12 a i := fun a x1 x2 => g14.2.2.2.2 a i x1 x2 (by omega)
      refine hq T3 i3 (g12.trans g14 (by omega)) t3' (Or.inr (Or.inr ⟨isS_m1 (t := t) (Or.inl hN), isN_lt hn hN, p, u, v, i1, i2, _, _, _, hp, el, (nd 21 (by omega) (by omega)).trans a21, (nd 22 (by omega) (by omega)).trans a22, (nd 23 (by omega) (by omega)).trans a23, (nd 24 (by omega) (by omega)).trans a24, (nd 25 (by omega) (by omega)).trans a25, huv, ?_, ?_, q3, er⟩))
      · exact TX_loc hn ok _ _ _ _ _ _ _ o1 q1 (fun j x1 x2 => ⟨(g23.2.2.2.2 21 j (by omega) (by omega) x2).symm, (g23.2.2.2.2 22 j (by omega) (by omega) x2).symm, (g23.2.2.2.2 23 j (by omega) (by omega) x2).symm, (g23.2.2.2.2 24 j (by omega) (by omega) x2).symm, (g23.2.2.2.2 25 j (by omega) (by omega) x2).symm⟩)
      · exact TX_loc hn ok _ _ _ _ _ _ _ o2 q2 (fun j x1 x2 => ⟨(g3.2.2.2.2 21 j (by omega) (by omega) x2).symm, (g3.2.2.2.2 22 j (by omega) (by omega) x2).symm, (g3.2.2.2.2 23 j (by omega) (by omega) x2).symm, (g3.2.2.2.2 24 j (by omega) (by omega) x2).symm, (g3.2.2.2.2 25 j (by omega) (by omega) x2).symm⟩)
    · refine hq S i gF.rfl e15 ?_
      rcases hc with g | g | g
      · rw [g, vl_m1] at hR
        by_cases e : len = 0
        · rw [if_pos e] at hR
          exact Or.inl ⟨g, e, rfl, by omega⟩
        · rw [if_neg e] at hR
          omega
      · exact absurd g hN
      · rw [vl_T (isT_ge g)] at hR
        by_cases e : len = 1 ∧ (fitW W) b (c - 10) = true
        · rw [if_pos e] at hR
          exact Or.inr (Or.inl ⟨isT_ge g, e.1, e.2, rfl, by omega⟩)
        · rw [if_neg e] at hR
          omega
end
