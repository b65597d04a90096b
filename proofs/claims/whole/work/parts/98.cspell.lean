section
/-! THE MATHEMATICS, 31: the class spells a tree and finds its number. -/
theorem lp_st {α : Type} {B : (α → Prop) → α → Prop} {x : α} (y : α) (h : ∀ L, L y → B L x) (hy : ∃ n, lp B n y) : ∃ n, lp B n x := by
  obtain ⟨m, hm⟩ := hy
  exact ⟨m + 1, h _ hm⟩
theorem lp_en {α : Type} {B : (α → Prop) → α → Prop} {x : α} (h : ∀ L, B L x) : ∃ n, lp B n x := ⟨1, h _⟩
/-- a terminal written -/
def pt (c : Int32) (q : Nat) (W : Nat → Int32) : Nat → Int32 := if (10 : Int32) ≤ c then upd W q (c - 10) else W
theorem pt_n {c : Int32} {q j : Nat} {W : Nat → Int32} (h : j ≠ q) : pt c q W j = W j := by
  unfold pt
  split
  · exact pk_un h
  · rfl
theorem pt_e {c : Int32} {q : Nat} {W : Nat → Int32} (h : (10 : Int32) ≤ c) : pt c q W q = c - 10 := by
  unfold pt
  rw [if_pos h, pk_us]
theorem pt_c {c : Int32} {q : Nat} {W : Nat → Int32} (h : ¬ (10 : Int32) ≤ c) : pt c q W = W := if_neg h
theorem c_spp {S : gS} {c : Int32} {q : Nat} {W : Nat → Int32} (hq : (10 : Int32) ≤ c → q < 8) {Post : gS → Prop} (h : Post (sA S 13 (pt c q W))) : pX5_spellPart (nI q) c (sA S 13 W) Post := by
  unfold pX5_spellPart
  refine ⟨fun d => ?_, fun d => ?_⟩
  · rw [pt_c (by rw [lt_i, t_10] at d; rw [le_i, t_10]; omega)] at h
    exact h
  · have g : (10 : Int32) ≤ c := by rw [lt_i, t_10] at d; rw [le_i, t_10]; omega
    refine c_wput (hq g) ?_
    unfold pt at h
    rw [if_pos g] at h
    rw [uA_s, sA_sA, gA_sA, if_pos rfl]
    exact h
section SPL
variable {S : gS} {n t st P z : Nat} {F : Nat → Int32} {Post : gS → Prop}
theorem TX_nt {fit : Nat → Int32 → Bool} {NP NF NS NU NV : Nat → Int32} (hn : n ≤ 6) {f b l a a' r : Nat} {c : Int32} (hc : c = -1 ∨ isS n t c) (hN : ¬ isN n c) (h : TX fit P F NP NF NS NU NV f c b l a a' r) : a' = a ∧ r = 0 ∧ vl fit (TT fit P F) l b c = 1 ∧ ((10 : Int32) ≤ c → l = 1) := by
  cases f with
  | zero => exact h.elim
  | succ f =>
    rcases h with ⟨g1, g2, g3, g4⟩ | ⟨g1, g2, g3, g4, g5⟩ | ⟨c1, c2, _⟩
    · exact ⟨g3, g4, by rw [g1, vl_m1, if_pos g2], fun d => by rw [g1] at d; exact absurd d (by decide)⟩
    · exact ⟨g4, g5, by rw [vl_T g1, if_pos ⟨g2, g3⟩], fun _ => g2⟩
    · rcases hc with g | g | g
      · exact absurd g c1
      · exact absurd g hN
      · exact absurd (isT_ge g) c2
theorem TX_nd {fit : Nat → Int32 → Bool} {NP NF NS NU NV : Nat → Int32} (hn : n ≤ 6) {f b l a a' r : Nat} {c : Int32} (hN : isN n c) (h : TX fit P F NP NF NS NU NV f c b l a a' r) : NF a = nI b ∧ NS a = nI l := by
  cases f with
  | zero => exact h.elim
  | succ f =>
    rcases h with ⟨g1, _⟩ | ⟨g1, _⟩ | ⟨c1, c2, p, u, v, i1, i2, r1, r2, r3, hp, el, n0, n1, n2, _⟩
    · exact absurd g1 (isS_m1 (t := 0) (Or.inl hN))
    · exact absurd g1 (isN_lt hn hN)
    · exact ⟨n1, n2⟩
theorem TX_l1 {fit : Nat → Int32 → Bool} {NP NF NS NU NV : Nat → Int32} {f b l a a' r : Nat} {c : Int32} (g : (10 : Int32) ≤ c) (h : TX fit P F NP NF NS NU NV f c b l a a' r) : l = 1 := by
  cases f with
  | zero => exact h.elim
  | succ f =>
    rcases h with ⟨g1, _⟩ | ⟨_, g2, _⟩ | ⟨_, c2, _⟩
    · rw [g1] at g
      exact absurd g (by decide)
    · exact g2
    · exact absurd g c2
theorem spX (h1 : cG S n t st P) (eF : gA S 10 = F) (ok : okP n t P F) (e15 : gI S 15 = nI z) (hz : z ≤ 15) : ∀ f c b len i i' r W, (c = -1 ∨ isS n t c) → b + len ≤ 8 → i' ≤ z → TX fitL P F (gA S 21) (gA S 22) (gA S 23) (gA S 24) (gA S 25) f c b len i i' r → ((10 : Int32) ≤ c → W b = c - 10) → (∀ W' : Nat → Int32, (∀ q, ¬ (b ≤ q ∧ q < b + len) → W' q = W q) → (∃ r', TX (fitW W') P F (gA S 21) (gA S 22) (gA S 23) (gA S 24) (gA S 25) f c b len i i' r') → ∃ n, lp (fun L x => bX5_spell_2 Post L x.1 x.2) n (nI i', sA S 13 W')) → ∃ n, lp (fun L x => bX5_spell_2 Post L x.1 x.2) n (nI i, sA S 13 W) := by
  have hn : n ≤ 6 := h1.2.2.2.2.2.1
  have hP : P ≤ 24 := h1.2.2.2.2.2.2.2.2.2
  intro f
  induction f with
  | zero => intro c b len i i' r W _ _ _ h; exact h.elim
  | succ f ih =>
    intro c b len i i' r W hc hb hi' hT hw hE
    rcases hT with ⟨g1, g2, g3, g4⟩ | ⟨g1, g2, g3, g4, g5⟩ | ⟨c1, c2, p, u, v, i1, i2, r1, r2, r3, hp, el, n0, n1, n2, n3, n4, huv, q1, q2, q3, er⟩
    · subst g3
      exact hE W (fun _ _ => rfl) ⟨0, Or.inl ⟨g1, g2, rfl, rfl⟩⟩
    · subst g4
      exact hE W (fun _ _ => rfl) ⟨0, Or.inr (Or.inl ⟨g1, g2, decide_eq_true (hw g1), rfl, rfl⟩)⟩
    · have o1 := ok.k (k := 1) hp (by decide) (by decide)
      have o2 := ok.k (k := 2) hp (by decide) (by decide)
      have o3 := ok.k (k := 3) hp (by decide) (by decide)
      have z1 := TX_sz hn ok _ _ _ _ _ _ _ o1 q1
      have z2 := TX_sz hn ok _ _ _ _ _ _ _ o2 q2
      have z3 := TX_sz hn ok _ _ _ _ _ _ _ o3 q3
      have hx := (ok.1 p hp).2.1
      have u1 := (z1.2.1 hx).1
      have p1 : (10 : Int32) ≤ F (4 * p + 1) → u = 1 := fun g => TX_l1 g q1
      have p2 : (10 : Int32) ≤ F (4 * p + 2) → v = 1 := fun g => TX_l1 g q2
      have p3 : (10 : Int32) ≤ F (4 * p + 3) → len - u - v = 1 := fun g => TX_l1 g q3
      obtain ⟨W1, eW1⟩ : ∃ W1, W1 = pt (F (4 * p + 3)) (b + u + v) (pt (F (4 * p + 2)) (b + u) (pt (F (4 * p + 1)) b W)) := ⟨_, rfl⟩
      have w1a : (10 : Int32) ≤ F (4 * p + 1) → W1 b = F (4 * p + 1) - 10 := fun g => by rw [eW1, pt_n (by omega), pt_n (by omega), pt_e g]
      have w1b : (10 : Int32) ≤ F (4 * p + 2) → W1 (b + u) = F (4 * p + 2) - 10 := fun g => by have := p2 g; rw [eW1, pt_n (by omega), pt_e g]
      have w1c : (10 : Int32) ≤ F (4 * p + 3) → W1 (b + u + v) = F (4 * p + 3) - 10 := fun g => by rw [eW1, pt_e g]
      have w1o : ∀ q, ¬ (b ≤ q ∧ q < b + len) → W1 q = W q := fun q hq => by
        rw [eW1]
        have s3 : pt (F (4 * p + 3)) (b + u + v) (pt (F (4 * p + 2)) (b + u) (pt (F (4 * p + 1)) b W)) q = pt (F (4 * p + 2)) (b + u) (pt (F (4 * p + 1)) b W) q := by
          by_cases g : (10 : Int32) ≤ F (4 * p + 3)
          · have := p3 g
            exact pt_n (by omega)
          · rw [pt_c g]
        have s2 : pt (F (4 * p + 2)) (b + u) (pt (F (4 * p + 1)) b W) q = pt (F (4 * p + 1)) b W q := by
          by_cases g : (10 : Int32) ≤ F (4 * p + 2)
          · have := p2 g
            exact pt_n (by omega)
          · rw [pt_c g]
        rw [s3, s2, pt_n (by omega)]
      refine lp_st (nI (i + 1), sA S 13 W1) (fun L hL => ?_) ?_
      · show bX5_spell_2 Post L (nI i) (sA S 13 W)
        have cg : ∀ V, cG (sA S 13 V) n t st P := fun V => h1
        have a21 : ∀ V, gA (sA S 13 V) 21 i = nI p := fun V => by rw [gA_sA, if_neg (by decide)]; exact n0
        have a24 : ∀ V, gA (sA S 13 V) 24 i = nI u := fun V => by rw [gA_sA, if_neg (by decide)]; exact n3
        have a25 : ∀ V, gA (sA S 13 V) 25 i = nI v := fun V => by rw [gA_sA, if_neg (by decide)]; exact n4
        have a10 : ∀ V, gA (sA S 13 V) 10 = F := fun V => by rw [gA_sA, if_neg (by decide)]; exact eF
        have vp : vp_in (nI i) 15 := vp_in_nI (by omega) (by omega)
        unfold bX5_spell_2
        rw [gI_sA, e15, nI_clamp (n := i) (by omega), gA_sA, if_neg (by decide), n1, a21]
        refine ⟨fun d => absurd d (nI_ge (by omega) (by omega)), fun _ => ⟨fun d => absurd d (nI_ge (b := 15) (by omega) (by omega)), fun _ => ⟨vp, ?_⟩⟩⟩
        rintro _ rfl
        refine ⟨vp, c_sym (k := 1) (cg _) hp (by decide) ?_⟩
        rw [a10]
        refine c_spp (fun g => by have := p1 g; omega) ⟨vp, ?_⟩
        rw [a24, nI_add b u, a21]
        rintro _ rfl
        refine ⟨vp, c_sym (k := 2) (cg _) hp (by decide) ?_⟩
        rw [a10]
        refine c_spp (fun g => by have := p2 g; omega) ⟨vp, ?_⟩
        rw [a25, nI_add (b + u) v, a21]
        rintro _ rfl
        refine ⟨vp, c_sym (k := 3) (cg _) hp (by decide) ?_⟩
        rw [a10]
        refine c_spp (fun g => by have := p3 g; omega) ?_
        rintro _ rfl
        rw [nI_1, ← eW1]
        exact hL
      · refine ih _ b u (i + 1) i1 r1 W1 o1 (by omega) (by omega) q1 w1a (fun W2 x2 t2 => ?_)
        refine ih _ (b + u) v i1 i2 r2 W2 o2 (by omega) (by omega) q2 (fun g => by rw [x2 _ (by omega)]; exact w1b g) (fun W3 x3 t3 => ?_)
        refine ih _ (b + u + v) (len - u - v) i2 i' r3 W3 o3 (by omega) (by omega) q3 (fun g => by rw [x3 _ (by omega), x2 _ (by omega)]; exact w1c g) (fun W4 x4 t4 => ?_)
        refine hE W4 (fun q hq => by rw [x4 q (by omega), x3 q (by omega), x2 q (by omega)]; exact w1o q hq) ?_
        obtain ⟨s1, t2⟩ := t2
        obtain ⟨s2, t3⟩ := t3
        obtain ⟨s3, t4⟩ := t4
        refine ⟨_, Or.inr (Or.inr ⟨c1, c2, p, u, v, i1, i2, s1, s2, s3, hp, el, n0, n1, n2, n3, n4, huv, ?_, ?_, t4, rfl⟩)⟩
        · refine TX_fit hn ok _ _ _ _ _ _ _ t2 (fun q x hq => ?_)
          unfold fitW
          rw [x4 (b + q) (by omega), x3 (b + q) (by omega)]
        · refine TX_fit hn ok _ _ _ _ _ _ _ t3 (fun q x hq => ?_)
          unfold fitW
          rw [x4 (b + u + q) (by omega)]
/-- the letters of a tree's word are terminals -/
theorem TX_wl {W NP NF NS NU NV : Nat → Int32} (ok : okP n t P F) : ∀ f c b len i i' r, (c = -1 ∨ isS n t c) → n ≤ 6 → TX (fitW W) P F NP NF NS NU NV f c b len i i' r → ∀ q, q < len → 0 ≤ (W (b + q)).toInt ∧ (W (b + q)).toInt < t := by
  intro f
  induction f with
  | zero => intro c b len i i' r _ _ h; exact h.elim
  | succ f ih =>
    intro c b len i i' r hc hn hT q hq
    rcases hT with ⟨g1, g2, g3, g4⟩ | ⟨g1, g2, g3, g4, g5⟩ | ⟨c1, c2, p, u, v, i1, i2, r1, r2, r3, hp, el, n0, n1, n2, n3, n4, huv, q1, q2, q3, er⟩
    · omega
    · have hcT : isT t c := by
        rcases hc with g | g | g
        · rw [g] at g1
          exact absurd g1 (by decide)
        · exact absurd g1 (isN_lt hn g)
        · exact g
      rw [show q = 0 by omega, show W (b + 0) = c - 10 from of_decide_eq_true g3, sub_i]
      · rw [t_10]
        have := hcT.1
        have := hcT.2
        omega
      · rw [t_10]
        have := hcT.1
        omega
      · rw [t_10]
        have := rg_i c
        omega
    · by_cases e1 : q < u
      · exact ih _ _ _ _ _ _ (ok.k (k := 1) hp (by decide) (by decide)) hn q1 q e1
      · by_cases e2 : q < u + v
        · have := ih _ _ _ _ _ _ (ok.k (k := 2) hp (by decide) (by decide)) hn q2 (q - u) (by omega)
          rw [show b + u + (q - u) = b + q by omega] at this
          exact this
        · have := ih _ _ _ _ _ _ (ok.k (k := 3) hp (by decide) (by decide)) hn q3 (q - u - v) (by omega)
          rw [show b + u + v + (q - u - v) = b + q by omega] at this
          exact this
end SPL
/-- the trees before a node -/
theorem c_cb {S : gS} {n t st P w : Nat} (h : H6 S n t st P w w) {c : Int32} {b len i p u v : Nat} (hi : i < 15) (l8 : len ≤ 8) (hb : b + len ≤ w) (hp : p < P) (el : gA S 10 (4 * p) = c) (n0 : gA S 21 i = nI p) (n1 : gA S 22 i = nI b) (n2 : gA S 23 i = nI len) (n3 : gA S 24 i = nI u) (n4 : gA S 25 i = nI v) (u1 : 1 ≤ u) (huv : u + v ≤ len) {Post : Int64 → Prop} (hq : Post (nL (bf (fitW (gA S 13)) P (gA S 10) c len b p u v))) : pX5_countBefore (nI i) S Post := by
  have hn : n ≤ 6 := h.1.2.2.2.2.2.1
  have hP : P ≤ 24 := h.1.2.2.2.2.2.2.2.2.2
  have ok := h.2.1
  have w8 := h.2.2.1
  have vp : vp_in (nI i) 15 := vp_in_nI (by omega) (by omega)
  have hx := (ok.1 p hp).2.1
  obtain ⟨SP, eSP⟩ : ∃ SP : Nat → Nat, SP = fun k => sN (fun q => if gA S 10 (4 * q) = c then tp (fitW (gA S 13)) (TT (fitW (gA S 13)) P (gA S 10)) (gA S 10) q len b else 0) k := ⟨_, rfl⟩
  have SPs : ∀ k, SP (k + 1) = SP k + if gA S 10 (4 * k) = c then tp (fitW (gA S 13)) (TT (fitW (gA S 13)) P (gA S 10)) (gA S 10) k len b else 0 := fun k => by rw [eSP]; rfl
  obtain ⟨U, eU⟩ : ∃ U : Nat → Nat, U = fun k => sN (fun u => sF (fitW (gA S 13)) (TT (fitW (gA S 13)) P (gA S 10)) (gA S 10) p len b u) k := ⟨_, rfl⟩
  have Us : ∀ k, U (k + 1) = U k + sF (fitW (gA S 13)) (TT (fitW (gA S 13)) P (gA S 10)) (gA S 10) p len b k := fun k => by rw [eU]; rfl
  have U1 : U 1 = 0 := by rw [Us, sF_0 hn hx, eU]; rfl
  obtain ⟨V, eV⟩ : ∃ V : Nat → Nat, V = fun k => sN (fun v => pj (fitW (gA S 13)) (TT (fitW (gA S 13)) P (gA S 10)) (gA S 10) p len b u v) k := ⟨_, rfl⟩
  have Vs : ∀ k, V (k + 1) = V k + pj (fitW (gA S 13)) (TT (fitW (gA S 13)) P (gA S 10)) (gA S 10) p len b u k := fun k => by rw [eV]; rfl
  have ebf : bf (fitW (gA S 13)) P (gA S 10) c len b p u v = SP p + U u + V v := by rw [eSP, eU, eV, Nat.add_assoc]; rfl
  rw [ebf] at hq
  unfold pX5_countBefore
  rw [nI_clamp (by omega), n0, n1, n2]
  refine ⟨vp, ?_⟩
  rintro _ rfl
  refine c_sym (k := 0) h.1 hp (by decide) ⟨vp, ?_⟩
  rintro _ rfl
  refine ⟨vp, ?_⟩
  rintro _ rfl
  rw [show gA S 10 (4 * p + 0) = c from el]
  refine lp_sq (B := fun L x => bX5_countBefore_40 (nI i) S Post (nI p) c (nI len) (nI b) L x.1 x.2) (fun k => (nL (SP k), nI k)) p (fun k L hk hL => ?_) (fun L => ?_) (by rw [show SP 0 = 0 by rw [eSP]; rfl]; rfl)
  · unfold bX5_countBefore_40
    refine ⟨fun d => absurd d (nI_ge hk (by omega)), fun _ => c_op6 h (b := b) (show k < P by omega) (by omega) hb (by omega) ?_⟩
    simp only [forall_eq]
    rw [nL_add, nI_1, ← SPs]
    exact hL
  · unfold bX5_countBefore_40
    refine ⟨fun _ => ?_, fun d => absurd (nI_le (Nat.le_refl _) (by omega)) d⟩
    refine lp_sq (B := fun L x => bX5_countBefore_72 (nI i) S Post (nI p) (nI len) (nI b) L x.1 x.2) (fun k => (nL (SP p + U (1 + k)), nI (1 + k))) (u - 1) (fun k L hk hL => ?_) (fun L => ?_) (by rw [U1]; rfl)
    · unfold bX5_countBefore_72
      rw [nI_clamp (by omega), n3]
      refine ⟨vp, fun d => absurd d (nI_ge (by omega) (by omega)), fun _ => c_of6 h (b := b) hp (by omega) (by omega) (by omega) hb (by omega) ?_⟩
      simp only [forall_eq]
      rw [nL_add, nI_1, Nat.add_assoc, ← Us]
      exact hL
    · unfold bX5_countBefore_72
      rw [nI_clamp (by omega), n3, show 1 + (u - 1) = u by omega]
      refine ⟨vp, fun _ => ?_, fun d => absurd (nI_le (Nat.le_refl _) (by omega)) d⟩
      refine lp_sq (B := fun L x => bX5_countBefore_108 (nI i) S Post (nI p) (nI len) (nI b) L x.1 x.2) (fun k => (nL (SP p + U u + V k), nI k)) v (fun k L hk hL => ?_) (fun L => ?_) (by rw [show V 0 = 0 by rw [eV]; rfl]; rfl)
      · unfold bX5_countBefore_108
        rw [nI_clamp (by omega), n4, n3]
        refine ⟨vp, fun d => absurd d (nI_ge (by omega) (by omega)), fun _ => ⟨vp, c_os6 h (b := b) hp (by omega) (by omega) hb (fun _ => by omega) (by omega) (by omega) ?_⟩⟩
        simp only [forall_eq]
        rw [nL_add, nI_1, Nat.add_assoc, show pr (fitW (gA S 13)) (TT (fitW (gA S 13)) P (gA S 10)) (gA S 10) p len b u k = pj (fitW (gA S 13)) (TT (fitW (gA S 13)) P (gA S 10)) (gA S 10) p len b u k from (if_pos (by omega)).symm, ← Vs]
        exact hL
      · unfold bX5_countBefore_108
        rw [nI_clamp (by omega), n4]
        exact ⟨vp, fun _ => hq, fun d => absurd (nI_le (Nat.le_refl _) (by omega)) d⟩
end
