section
/-! THE MATHEMATICS, 14: the model's counts by parts of the word that was read; treeCount, treesOfLength. -/
section M6
variable {S : gS} {n t st P : Nat} {F : Nat → Int32}
theorem m_tpany (h : mG S n t st P F) {c : Int32} {l b : Nat} (hc : c = -1 ∨ isS n t c) (hb : b + l ≤ 8) {Post : Int64 → Prop} (hq : ∀ v, Post v) : pX9_treesOfPart c (nI b) (nI l) S Post := by
  have hn : n ≤ 6 := h.1.2.2.2.2.2.1
  unfold pX9_treesOfPart
  refine ⟨fun c1 => ⟨fun c2 => ⟨fun _ => hq _, fun c3 => ?_⟩, fun c2 => ⟨fun _ => hq _, fun c3 => ⟨?_, fun _ => hq _, fun _ => hq _⟩⟩⟩, fun c1 => ⟨fun _ => hq _, fun _ => hq _⟩⟩
  · rcases (neg_m1 hc).2 c1 with g | g
    · exact ⟨in_i g.1 (by have := g.2; omega), vp_in_nI (by omega) (by omega), vp_in_nI (by omega) (by omega), hq _⟩
    · exact absurd (isT_ge g) (by rw [lt_i, t_10] at c2; rw [le_i, t_10]; omega)
  · rw [i_1, nI_eq (by omega) (by omega)] at c3
    exact vp_in_nI (by omega) (by omega)
theorem m_tp (h : mG S n t st P F) {w z : Nat} (hw : w ≤ 8) (h6 : m6 n P F (gA S 6) w S z) {c : Int32} {l b : Nat} (hc : c = -1 ∨ isS n t c) (hb : b + l ≤ w) (hz : isN n c → l ≤ z) {Post : Int64 → Prop} (hq : Post (nL (vl (fitW (gA S 6)) (TT (fitW (gA S 6)) P F) l b c))) : pX9_treesOfPart c (nI b) (nI l) S Post := by
  have hn : n ≤ 6 := h.1.2.2.2.2.2.1
  unfold pX9_treesOfPart
  refine ⟨fun c1 => ⟨fun c2 => ?_, fun c2 => ?_⟩, fun c1 => ?_⟩
  · rcases (neg_m1 hc).2 c1 with g | g
    · rw [vl_N hn g] at hq
      refine ⟨fun c3 => ?_, fun c3 => ⟨in_i g.1 (by have := g.2; omega), vp_in_nI (by omega) (by omega), vp_in_nI (by omega) (by omega), ?_⟩⟩
      · rw [i_0, nI_leI (by omega) (by omega)] at c3
        rw [if_pos (by omega)] at hq
        exact hq
      · rw [i_0, nI_leI (by omega) (by omega)] at c3
        rw [if_neg (by omega)] at hq
        obtain ⟨a, ha, ea, ec⟩ := clamp_nn g hn
        rw [ec, nI_clamp (by omega), nI_clamp (by omega), h6 l b a (by omega) (hz g) hb ha, ← ea]
        exact hq
    · exact absurd (isT_ge g) (by rw [lt_i, t_10] at c2; rw [le_i, t_10]; omega)
  · rw [vl_T (by rw [lt_i, t_10] at c2; rw [le_i, t_10]; omega)] at hq
    refine ⟨fun d => ?_, fun d => ?_⟩
    · rw [if_neg (fun e => d (by rw [e.1]; rfl))] at hq
      exact hq
    · rw [i_1, nI_eq (by omega) (by omega)] at d
      rw [nI_clamp (by omega)]
      refine ⟨vp_in_nI (by omega) (by omega), fun e => ?_, fun e => ?_⟩
      · rw [if_neg (fun g => e (of_decide_eq_true g.2))] at hq
        exact hq
      · rw [if_pos ⟨d, decide_eq_true e⟩] at hq
        exact hq
  · rw [(neg_m1 hc).1 c1, vl_m1] at hq
    refine ⟨fun d => ?_, fun d => ?_⟩
    · rw [if_neg (fun e => d (by rw [e]; rfl))] at hq
      exact hq
    · rw [i_0, nI_eq (by omega) (by omega)] at d
      rw [if_pos d] at hq
      exact hq
theorem m_tf47 (h : mG S n t st P F) {w z : Nat} (hw : w ≤ 8) (h6 : m6 n P F (gA S 6) w S z) {p b i j k y : Nat} (hp : p < P) (hb : b + i + j + k ≤ w) (hz : k ≤ z) {Post : Int64 → Prop} (hq : Post (nL (y * vl (fitW (gA S 6)) (TT (fitW (gA S 6)) P F) k (b + i + j) (F (4 * p + 3))))) : jX9_treesFrom_47 (nI p) (nI b) (nI i) (nI j) (nI k) S Post (nL y) := by
  have hP : P ≤ 24 := h.1.2.2.2.2.2.2.2.2.2
  unfold jX9_treesFrom_47
  refine ⟨fun _ => ⟨vp_in_nI (by omega) (by omega), vp_in_nI (n := 3) (by omega) (by omega), ?_⟩, fun c => ?_⟩
  · rw [show (3 : Int32).toNatClampNeg = 3 from rfl, row_at h hp (by decide), nI_add b i, nI_add (b + i) j]
    refine m_tp h hw h6 (h.2.2.k (k := 3) hp (by decide) (by decide)) (by omega) (fun _ => hz) ?_
    rw [nL_mul]
    exact hq
  · rw [cmp_eq] at c
    rw [← nL_mul, c, Int64.zero_mul] at hq
    exact hq
theorem m_tf0 {p : Nat} {b i j k : Int32} {Post : Int64 → Prop} (hq : Post 0) : jX9_treesFrom_47 (nI p) b i j k S Post 0 := by
  unfold jX9_treesFrom_47
  exact ⟨fun c => absurd (cmp_self 0) c, fun _ => hq⟩
theorem m_tf (h : mG S n t st P F) {w z : Nat} (hw : w ≤ 8) (h6 : m6 n P F (gA S 6) w S z) {p len b i j : Nat} (hp : p < P) (hij : i + j ≤ len) (hb : b + len ≤ w) (hz : len ≤ z + 1) {Post : Int64 → Prop} (hq : Post (nL (pr (fitW (gA S 6)) (TT (fitW (gA S 6)) P F) F p len b i j))) : pX9_treesFrom (nI p) (nI b) (nI i) (nI j) (nI (len - i - j)) S Post := by
  have hn : n ≤ 6 := h.1.2.2.2.2.2.1
  have hP : P ≤ 24 := h.1.2.2.2.2.2.2.2.2.2
  have ok := h.2.2
  unfold pX9_treesFrom
  refine ⟨vp_in_nI (by omega) (by omega), vp_in_nI (n := 1) (by omega) (by omega), ?_⟩
  rw [show (1 : Int32).toNatClampNeg = 1 from rfl, row_at h hp (by decide)]
  have nx : ∀ {X : Nat}, (j ≤ z ∧ len - i - j ≤ z) → X = vl (fitW (gA S 6)) (TT (fitW (gA S 6)) P F) i b (F (4 * p + 1)) → ((¬ lg_cmp (nL X) 0 = 0 → (vp_in (nI p) 24 ∧ (vp_in (2 : Int32) 4 ∧ (pX9_treesOfPart (gA S (16 + (nI p).toNatClampNeg) (2 : Int32).toNatClampNeg) (nI b + nI i) (nI j) S (fun r_11 => jX9_treesFrom_47 (nI p) (nI b) (nI i) (nI j) (nI (len - i - j)) S Post (nL X * r_11)))))) ∧ ((lg_cmp (nL X) 0) = 0 → jX9_treesFrom_47 (nI p) (nI b) (nI i) (nI j) (nI (len - i - j)) S Post 0)) := by
    intro X hz2 eX
    subst eX
    refine ⟨fun _ => ⟨vp_in_nI (by omega) (by omega), vp_in_nI (n := 2) (by omega) (by omega), ?_⟩, fun c => m_tf0 ?_⟩
    · rw [show (2 : Int32).toNatClampNeg = 2 from rfl, row_at h hp (by decide), nI_add b i]
      refine m_tp h hw h6 (ok.k (k := 2) hp (by decide) (by decide)) (by omega) (fun _ => hz2.1) ?_
      rw [nL_mul]
      refine m_tf47 h hw h6 hp (by omega) hz2.2 ?_
      rw [Nat.mul_assoc]
      exact hq
    · rw [cmp_eq] at c
      unfold pr at hq
      rw [← nL_mul, c, Int64.zero_mul] at hq
      exact hq
  obtain ⟨-, hx, hyz⟩ := ok.1 p hp
  by_cases hi0 : i = 0
  · refine m_tp h hw h6 (Or.inr hx) (by omega) (fun _ => by omega) ?_
    have e0 : vl (fitW (gA S 6)) (TT (fitW (gA S 6)) P F) i b (F (4 * p + 1)) = 0 := by rw [hi0]; exact vl_0 hn hx
    rw [e0]
    refine ⟨fun c => absurd (cmp_self 0) c, fun _ => m_tf0 ?_⟩
    unfold pr at hq
    rw [e0, Nat.zero_mul] at hq
    exact hq
  · rcases hyz with ⟨hy, hz', hx'⟩ | ⟨hy, hz'⟩
    · refine m_tp h hw h6 (Or.inr hx) (by omega) (fun d => absurd d hx') ?_
      exact nx ⟨by omega, by omega⟩ rfl
    · by_cases hj0 : j = 0
      · refine m_tpany h (Or.inr hx) (by omega) (fun v => ?_)
        have e0 : pr (fitW (gA S 6)) (TT (fitW (gA S 6)) P F) F p len b i j = 0 := by
          unfold pr
          rw [hj0, vl_0 (b := b + i) hn hy, Nat.zero_mul, Nat.mul_zero]
        rw [e0] at hq
        refine ⟨fun _ => ⟨vp_in_nI (by omega) (by omega), vp_in_nI (n := 2) (by omega) (by omega), ?_⟩, fun _ => m_tf0 hq⟩
        rw [show (2 : Int32).toNatClampNeg = 2 from rfl, row_at h hp (by decide), nI_add b i]
        refine m_tp h hw h6 (Or.inr hy) (by omega) (fun _ => by omega) ?_
        rw [hj0, vl_0 (b := b + i) hn hy, nL_0, Int64.mul_zero]
        exact m_tf0 hq
      · refine m_tp h hw h6 (Or.inr hx) (by omega) (fun _ => by omega) ?_
        exact nx ⟨by omega, by omega⟩ rfl
theorem m_top (h : mG S n t st P F) {w z : Nat} (hw : w ≤ 8) (h6 : m6 n P F (gA S 6) w S z) {p len b : Nat} (hp : p < P) (hb : b + len ≤ w) (hz : len ≤ z + 1) {Post : Int64 → Prop} (hq : Post (nL (tp (fitW (gA S 6)) (TT (fitW (gA S 6)) P F) F p len b))) : pX9_treesOfProduction (nI p) (nI b) (nI len) S Post := by
  unfold pX9_treesOfProduction
  have sq := sq_le (len := len) (by omega)
  refine lp_seq (B := fun L x => bX9_treesOfProduction_6 (nI p) (nI b) (nI len) S Post L x.1 x.2) (fun m => (nL (sN (fun m => pj (fitW (gA S 6)) (TT (fitW (gA S 6)) P F) F p len b (m / (len + 1)) (m % (len + 1))) m), nI m)) ((len + 1) * (len + 1)) (fun m L hm hL => ?_) (fun L => ?_)
  · unfold bX9_treesOfProduction_6
    have hd := dm_lt hm
    have hr := Nat.mod_lt m (show 0 < len + 1 by omega)
    rw [i_sq]
    refine ⟨fun c => absurd c (nI_ge hm (by omega)), fun _ => ?_⟩
    rw [nI_1, nI_rem (by omega) (by omega), nI_div (by omega) (by omega)]
    refine ⟨nI_ne0 (by omega) (by omega), ?_⟩
    simp only [forall_eq]
    refine ⟨nI_ne0 (by omega) (by omega), ?_⟩
    rw [nI_add (m / (len + 1)) (m % (len + 1))]
    have hL4 : L (nL (sN (fun m => pj (fitW (gA S 6)) (TT (fitW (gA S 6)) P F) F p len b (m / (len + 1)) (m % (len + 1))) m + pj (fitW (gA S 6)) (TT (fitW (gA S 6)) P F) F p len b (m / (len + 1)) (m % (len + 1))), nI (m + 1)) := hL
    refine ⟨fun c => ?_, fun c => ?_⟩
    · rw [nI_ltI (by omega) (by omega)] at c
      rw [← nL_0, nL_add, nI_1]
      have e : pj (fitW (gA S 6)) (TT (fitW (gA S 6)) P F) F p len b (m / (len + 1)) (m % (len + 1)) = 0 := if_neg (by omega)
      rw [e] at hL4
      exact hL4
    · rw [nI_ltI (by omega) (by omega)] at c
      rw [nI_sub (by omega), nI_sub (by omega)]
      refine m_tf h hw h6 hp (by omega) hb hz ?_
      rw [nL_add, nI_1]
      have e : pj (fitW (gA S 6)) (TT (fitW (gA S 6)) P F) F p len b (m / (len + 1)) (m % (len + 1)) = pr (fitW (gA S 6)) (TT (fitW (gA S 6)) P F) F p len b (m / (len + 1)) (m % (len + 1)) := if_pos (by omega)
      rw [e] at hL4
      exact hL4
  · unfold bX9_treesOfProduction_6
    rw [i_sq]
    refine ⟨fun _ => ?_, fun c => absurd (nI_le (Nat.le_refl _) (by omega)) c⟩
    rw [tp_flat]
    exact hq
end M6
theorem m_cbp {S : gS} {n t st P : Nat} {F : Nat → Int32} (h : mG S n t st P F) {w : Nat} (hw : w ≤ 8) {Post : Int64 → gS → Prop} (hq : ∀ T : gS, gI T = gI S → gA T = gA S → m6 n P F (gA T 6) w T w → Post (nL (if w = 0 then 0 else TT (fitW (gA S 6)) P F w 0 (nI st))) T) : pX9_countByPart (nI w) S Post := by
  have hn : n ≤ 6 := h.1.2.2.2.2.2.1
  have hP : P ≤ 24 := h.1.2.2.2.2.2.2.2.2.2
  have hst : st < n := h.1.2.2.2.2.2.2.2.2.1
  have e3 : gI S 3 = nI st := h.1.2.2.1
  have e4 : gI S 4 = nI P := h.1.2.2.2.1
  have ok := h.2.2
  unfold pX9_countByPart
  refine lp_inv (B := fun L x => bX9_countByPart_2 (nI w) Post L x.1 x.2) (fun k x => ∃ T : gS, x = (nI (1 + k), T) ∧ gI T = gI S ∧ gA T = gA S ∧ m6 n P F (gA S 6) w T k) w (fun k x L hk hI hL => ?_) (fun x L hI => ?_) ⟨S, rfl, rfl, rfl, fun l b a g1 g2 => by omega⟩
  · obtain ⟨T, rfl, k1, k2, k3⟩ := hI
    unfold bX9_countByPart_2
    refine ⟨fun c => absurd c (nI_nlt (by omega) (by omega)), fun _ => ?_⟩
    rw [Nat.add_comm 1 k]
    refine lp_inv (B := fun L' x => bX9_countByPart_9 (nI w) (nI (k + 1)) L L' x.1 x.2) (fun b x => ∃ T : gS, x = (nI b, T) ∧ gI T = gI S ∧ gA T = gA S ∧ m6 n P F (gA S 6) w T k ∧ ∀ b' a, b' < b → a < n → gB T (79 + a * 9 + b') (k + 1) = nL (TT (fitW (gA S 6)) P F (k + 1) b' (nI a))) (w - k) (fun b x L2 hb hI hL2 => ?_) (fun x L2 hI => ?_) ⟨T, rfl, k1, k2, k3, fun b' a g1 => by omega⟩
    · obtain ⟨T, rfl, k1, k2, k3, k4⟩ := hI
      unfold bX9_countByPart_9
      rw [nI_add b (k + 1)]
      refine ⟨fun c => absurd c (nI_nlt (by omega) (by omega)), fun _ => ?_⟩
      refine lp_inv (B := fun L' x => bX9_countByPart_19 (nI (k + 1)) (nI b) L2 L' x.1 x.2) (fun a x => ∃ T : gS, x = (nI a, T) ∧ gI T = gI S ∧ gA T = gA S ∧ m6 n P F (gA S 6) w T k ∧ (∀ b' a, b' < b → a < n → gB T (79 + a * 9 + b') (k + 1) = nL (TT (fitW (gA S 6)) P F (k + 1) b' (nI a))) ∧ ∀ a', a' < a → gB T (79 + a' * 9 + b) (k + 1) = 0) 6 (fun a x L3 ha hI hL3 => ?_) (fun x L3 hI => ?_) ⟨T, rfl, k1, k2, k3, k4, fun a' g1 => by omega⟩
      · obtain ⟨T, rfl, k1, k2, k3, k4, k5⟩ := hI
        unfold bX9_countByPart_19
        refine ⟨fun c => absurd c (nI_ge (b := 6) ha (by omega)), fun _ => ⟨vp_in_nI ha (by omega), vp_in_nI (by omega) (by omega), vp_in_nI (by omega) (by omega), ?_⟩⟩
        simp only [forall_eq]
        rw [nI_clamp (n := a) (by omega), nI_clamp (n := b) (by omega), nI_clamp (n := k + 1) (by omega), nI_1]
        refine hL3 _ ⟨_, rfl, k1, k2, fun l b' a' g1 g2 g3 g4 => ?_, fun b' a' g1 g2 => ?_, fun a' g1 => ?_⟩
        · rw [gB_uB]
          by_cases e : 79 + a' * 9 + b' = 79 + a * 9 + b
          · rw [if_pos e, pk_uLn (by omega), ← e]
            exact k3 l b' a' g1 g2 g3 g4
          · rw [if_neg e]
            exact k3 l b' a' g1 g2 g3 g4
        · rw [gB_uB, if_neg (by omega)]
          exact k4 b' a' g1 g2
        · rw [gB_uB]
          by_cases e : a' = a
          · rw [if_pos (by omega), pk_uLs]
          · rw [if_neg (by omega)]
            exact k5 a' (by omega)
      · obtain ⟨T, rfl, k1, k2, k3, k4, k5⟩ := hI
        unfold bX9_countByPart_19
        refine ⟨fun _ => ?_, fun c => absurd (nI_le (a := 6) (by omega) (by omega)) c⟩
        refine lp_inv (B := fun L' x => bX9_countByPart_47 (nI (k + 1)) (nI b) L2 L' x.1 x.2) (fun p x => ∃ T : gS, x = (nI p, T) ∧ gI T = gI S ∧ gA T = gA S ∧ m6 n P F (gA S 6) w T k ∧ (∀ b' a, b' < b → a < n → gB T (79 + a * 9 + b') (k + 1) = nL (TT (fitW (gA S 6)) P F (k + 1) b' (nI a))) ∧ ∀ a, a < n → gB T (79 + a * 9 + b) (k + 1) = nL (sN (fun q => if F (4 * q) = nI a then tp (fitW (gA S 6)) (TT (fitW (gA S 6)) P F) F q (k + 1) b else 0) p)) P (fun p x L3 hp hI hL3 => ?_) (fun x L3 hI => ?_) ⟨T, rfl, k1, k2, k3, k4, fun a g1 => k5 a (by omega)⟩
        · obtain ⟨T, rfl, k1, k2, k3, k4, k5⟩ := hI
          have hT : mG T n t st P F := h.eq (fun f _ _ => by rw [k1]) (fun p _ => by rw [k2])
          unfold bX9_countByPart_47
          rw [k1, e4]
          refine ⟨fun c => absurd c (nI_ge hp (by omega)), fun _ => ?_⟩
          obtain ⟨a0, ha0, ea0, ec0⟩ := clamp_nn (ok.1 p hp).1 hn
          rw [show (0 : Int32).toNatClampNeg = 0 from rfl, row_at hT hp (by decide)]
          show _ ∧ _ ∧ vp_in (F (4 * p)) 6 ∧ _
          refine ⟨vp_in_nI (by omega) (by omega), vp_in_nI (n := 0) (by omega) (by omega), in_i (ok.1 p hp).1.1 (by have := (ok.1 p hp).1.2; omega), vp_in_nI (by omega) (by omega), vp_in_nI (by omega) (by omega), ?_⟩
          refine m_top hT hw (by rw [k2]; exact k3) hp (by omega) (by omega) ⟨vp_in_nI (by omega) (by omega), ?_⟩
          simp only [forall_eq]
          show L3 (_, uB T (79 + (F (4 * p)).toNatClampNeg * 9 + _) _ (gB T (79 + (F (4 * p)).toNatClampNeg * 9 + _) _ + _))
          rw [ec0, nI_clamp (n := b) (by omega), nI_clamp (n := k + 1) (by omega), nI_1, k5 a0 ha0, nL_add, k2]
          refine hL3 _ ⟨_, rfl, k1, k2, fun l b' a' g1 g2 g3 g4 => ?_, fun b' a' g1 g2 => ?_, fun a g1 => ?_⟩
          · rw [gB_uB]
            by_cases e : 79 + a' * 9 + b' = 79 + a0 * 9 + b
            · rw [if_pos e, pk_uLn (by omega), ← e]
              exact k3 l b' a' g1 g2 g3 g4
            · rw [if_neg e]
              exact k3 l b' a' g1 g2 g3 g4
          · rw [gB_uB, if_neg (by omega)]
            exact k4 b' a' g1 g2
          · rw [gB_uB]
            show _ = nL (_ + if F (4 * p) = nI a then tp (fitW (gA S 6)) (TT (fitW (gA S 6)) P F) F p (k + 1) b else 0)
            by_cases e : a = a0
            · rw [if_pos (by omega), pk_uLs, e, if_pos ea0]
            · rw [if_neg (by omega), k5 a g1, if_neg (fun d => e (by rw [ea0, nI_eq (by omega) (by omega)] at d; exact d.symm))]
              rfl
        · obtain ⟨T, rfl, k1, k2, k3, k4, k5⟩ := hI
          unfold bX9_countByPart_47
          rw [k1, e4]
          refine ⟨fun _ => ?_, fun c => absurd (nI_le (Nat.le_refl _) (by omega)) c⟩
          simp only [forall_eq]
          rw [nI_1]
          refine hL2 _ ⟨T, rfl, k1, k2, k3, fun b' a g1 g2 => ?_⟩
          by_cases e : b' = b
          · rw [e, k5 a g2, ← TT_eq hn ok]
          · exact k4 b' a (by omega) g2
    · obtain ⟨T, rfl, k1, k2, k3, k4⟩ := hI
      unfold bX9_countByPart_9
      rw [nI_add (w - k) (k + 1)]
      refine ⟨fun _ => ?_, fun c => absurd (nI_lt (by omega) (by omega)) c⟩
      simp only [forall_eq]
      rw [nI_1, Nat.add_comm (k + 1) 1]
      refine hL _ ⟨T, rfl, k1, k2, fun l b a g1 g2 g3 g4 => ?_⟩
      by_cases e : l = k + 1
      · rw [e]
        exact k4 b a (by omega) g4
      · exact k3 l b a g1 (by omega) g3 g4
  · obtain ⟨T, rfl, k1, k2, k3⟩ := hI
    unfold bX9_countByPart_2
    refine ⟨fun _ => ⟨fun c => ?_, fun c => ?_⟩, fun c => absurd (nI_lt (by omega) (by omega)) c⟩
    · have hw0 : ¬ w = 0 := fun e => c (by rw [e]; rfl)
      rw [k1, e3, nI_clamp (n := st) (by omega), nI_clamp (n := w) (by omega)]
      refine ⟨vp_in_nI (by omega) (by omega), vp_in_nI (n := 0) (by omega) (by omega), vp_in_nI (by omega) (by omega), ?_⟩
      have hq' := hq T k1 k2 (by rw [k2]; exact k3)
      rw [if_neg hw0] at hq'
      rw [show (79 + st * 9 + (0 : Int32).toNatClampNeg) = 79 + st * 9 + 0 from rfl, k3 w 0 st (by omega) (by omega) (by omega) hst]
      exact hq'
    · rw [i_0, nI_eq (by omega) (by omega)] at c
      have hq' := hq T k1 k2 (by rw [k2]; exact k3)
      rw [if_pos c] at hq'
      exact hq'
theorem fitW_loc {W W' : Nat → Int32} {w : Nat} (h : ∀ i, i < w → W i = W' i) {l b : Nat} (hb : b + l ≤ w) : ∀ q x, q < l → fitW W (b + q) x = fitW W' (b + q) x := by
  intro q x hq
  unfold fitW
  rw [h (b + q) (by omega)]
theorem TT_W {n t P : Nat} {F W W' : Nat → Int32} {w l b : Nat} {c : Int32} (hn : n ≤ 6) (ok : okP n t P F) (h : ∀ i, i < w → W i = W' i) (hb : b + l ≤ w) : TT (fitW W) P F l b c = TT (fitW W') P F l b c := TT_loc hn ok (fitW_loc h hb)
theorem m6.W {n t P : Nat} {F W W' : Nat → Int32} {w z : Nat} {S : gS} (hn : n ≤ 6) (ok : okP n t P F) (h6 : m6 n P F W w S z) (h : ∀ i, i < w → W i = W' i) : m6 n P F W' w S z := fun l b a g1 g2 g3 g4 => by
  rw [h6 l b a g1 g2 g3 g4, TT_W hn ok h g3]
theorem m_cc {S : gS} {n t st P : Nat} {F : Nat → Int32} (h : mG S n t st P F) {w : Nat} (hw : w ≤ 8) (h5 : gI S 5 = nI w) {Post : Int64 → gS → Prop} (hq : ∀ T : gS, gI T = gI S → (∀ a, a ≠ 6 → gA T a = gA S a) → (∀ i, i < w → gA T 6 i = gA S 2 i) → m6 n P F (gA T 6) w T w → Post (nL (if w = 0 then 0 else TT (fitW (gA S 2)) P F w 0 (nI st))) T) : pX9_countCurrent S Post := by
  have hn : n ≤ 6 := h.1.2.2.2.2.2.1
  unfold pX9_countCurrent
  refine lp_inv (B := fun L x => bX9_countCurrent_2 Post L x.1 x.2) (fun k x => ∃ T : gS, x = (nI k, T) ∧ gI T = gI S ∧ (∀ a, a ≠ 6 → gA T a = gA S a) ∧ ∀ i, i < k → gA T 6 i = gA S 2 i) w (fun k x L hk hI hL => ?_) (fun x L hI => ?_) ⟨S, rfl, rfl, fun _ _ => rfl, fun i g => by omega⟩
  · obtain ⟨T, rfl, k1, k2, k3⟩ := hI
    unfold bX9_countCurrent_2
    rw [k1, h5]
    refine ⟨fun c => absurd c (nI_ge hk (by omega)), fun _ => ⟨vp_in_nI (by omega) (by omega), vp_in_nI (by omega) (by omega), ?_⟩⟩
    simp only [forall_eq]
    rw [nI_clamp (by omega), nI_1]
    refine hL _ ⟨_, rfl, k1, fun a ha => ?_, fun i hi => ?_⟩
    · rw [gA_uA, if_neg ha]
      exact k2 a ha
    · rw [gA_uA, if_pos rfl, upd_at]
      by_cases e : i = k
      · rw [if_pos e, k2 2 (by omega), e]
      · rw [if_neg e]
        exact k3 i (by omega)
  · obtain ⟨T, rfl, k1, k2, k3⟩ := hI
    unfold bX9_countCurrent_2
    rw [k1, h5]
    refine ⟨fun _ => ?_, fun c => absurd (nI_le (Nat.le_refl _) (by omega)) c⟩
    have hT : mG T n t st P F := h.eq (fun f _ _ => by rw [k1]) (fun p _ => k2 _ (by omega))
    refine m_cbp hT hw (fun U u1 u2 u3 => ?_)
    rw [TT_W (W' := gA S 2) hn h.2.2 k3 (show 0 + w ≤ w by omega)]
    exact hq U (u1.trans k1) (fun a ha => by rw [u2]; exact k2 a ha) (fun i hi => by rw [u2]; exact k3 i hi) u3
/-- what the invariant says of both grammars -/
theorem Inv.G {Sx Sm : gS} (h : Inv Sx Sm) : ∃ n t st P : Nat, cG Sx n t st P ∧ okP n t P (gA Sx 10) ∧ mG Sm n t st P (gA Sx 10) ∧ cL n P (gA Sx 10) (gI Sx 11) (gB Sx 18) ∧ cW n t P (gA Sx 10) (gI Sx 13) (gB Sx 20) := by
  obtain ⟨g, ⟨n, t, st, P, hr, ok, hL, hW⟩, -⟩ := h
  exact ⟨n, t, st, P, hr, ok, ⟨m_rg g hr, g.2.2.2.2.2.1, ok⟩, hL, hW⟩
theorem c_spans {S : gS} {n t st P w : Nat} (h1 : cG S n t st P) (ok : okP n t P (gA S 10)) (hw : w ≤ 8) (h5 : gI S 5 = nI w) {Post : gS → Prop} (hq : ∀ T : gS, cS S T → H6 T n t st P w w → Post T) : pX8_countSpans S Post := by
  unfold pX8_countSpans pX0_forget_6
  simp only [forall_eq]
  rw [gI_uI, if_neg (by decide), h5]
  have h1' : cG (uI S 12 0) n t st P := by
    unfold cG at h1 ⊢
    simp only [gI_uI]
    exact h1
  refine c_fill6 h1' ok hw (by rw [gI_uI, if_neg (by decide), h5]) (by rw [gI_uI, if_pos rfl]) (fun R hR => hq _ ⟨fun f hf => ?_, rfl, fun _ _ _ _ _ _ => rfl, ?_, ?_⟩ ⟨?_, ok, hw, ?_⟩)
  · rw [gI_uI, if_neg hf, gI_sB, gI_uI, if_neg hf]
  · rw [gB_uI, gB_sB, if_neg (by decide), gB_uI]
  · rw [gB_uI, gB_sB, if_neg (by decide), gB_uI]
  · unfold cG at h1 ⊢
    simp only [gI_uI, gI_sB]
    exact h1
  · rw [gB_uI, gB_sB, if_pos rfl]
    exact hR
theorem cS.G {S T : gS} {n t st P : Nat} (h : cS S T) (h1 : cG S n t st P) : cG T n t st P := by
  unfold cG at h1 ⊢
  rw [h.1 1 (by decide), h.1 2 (by decide), h.1 3 (by decide), h.1 4 (by decide)]
  exact h1
theorem s_12 {a1 a2 a3 a4 : Int32} {Sx Sm : gS} (h : Inv Sx Sm) : qL_12 a1 a2 a3 a4 Sx Sm Inv := by
  obtain ⟨n, t, st, P, h1, ok, hm, hL, hW⟩ := h.G
  obtain ⟨g, gc, ⟨w, w8, ew, hw⟩, gv, gl, gt⟩ := id h
  have hn : n ≤ 6 := h1.2.2.2.2.2.1
  have hst : st < n := h1.2.2.2.2.2.2.2.2.1
  have ew' : gI Sm 5 = nI w := by rw [g.2.2.2.2.1, ew]
  unfold qL_12 pX8_treeCount pX9_treeCount
  refine c_spans h1 ok w8 ew (fun T hT h6 => ?_)
  rw [hT.1 3 (by decide), hT.1 5 (by decide), h1.2.2.1, ew]
  refine c_cnt6 (b := 0) h6 (Or.inr (Or.inl (nI_isN (by omega) hst))) (fun _ => Nat.le_refl _) (by omega) (by omega) ?_
  simp only [forall_eq]
  have hm' : mG (uI Sm 0 0) n t st P (gA Sx 10) := hm.eq (fun f _ _ => by rw [gI_uI, if_neg (by omega)]) (fun p _ => rfl)
  refine m_cc hm' w8 (by rw [gI_uI, if_neg (by decide), ew']) (fun U u1 u2 u3 u4 => ⟨fun _ => (h.cls hT).mod ⟨fun f f1 f2 f3 => ?_, fun a a1 a2 a3 => u2 a a3⟩, fun c => c ?_⟩)
  · rw [u1, gI_uI, if_neg (by omega)]
  · rw [cmp_eq, vl_N hn (nI_isN (by omega) hst)]
    have e13 : gA T 13 = gA Sx 13 := hT.2.2.1 13 (by decide) (by decide) (by decide) (by decide) (by decide)
    have e10 : gA T 10 = gA Sx 10 := hT.2.2.1 10 (by decide) (by decide) (by decide) (by decide) (by decide)
    rw [e13, e10]
    congr 1
    by_cases e : w = 0
    · rw [if_pos e, if_pos e]
    · rw [if_neg e, if_neg e]
      exact TT_W hn ok (fun i hi => (g.2.2.2.2.2.2 i (by omega)).symm) (show 0 + w ≤ w by omega)
theorem c_len {S : gS} {x : Int32} {m : Nat} (hm : m < 100) {Post : Prop} {PX : String → gS → Prop} (h1 : ∀ l : Nat, 1 ≤ l → l ≤ m → x = nI l → Post) (h0 : ¬ (1 ≤ x.toInt ∧ x.toInt ≤ m) → PX "java/lang/IllegalArgumentException" S) : pX8_checkLength x (nI m) S Post PX := by
  unfold pX8_checkLength
  simp only [lt_i, le_i, t_1, nI_toInt (show m < 2 ^ 31 by omega)]
  refine ⟨fun c => h0 (by omega), fun c => ⟨fun c1 => ?_, fun c1 => h0 (by omega)⟩⟩
  obtain ⟨l, hl, e⟩ := nI_of' (x := x) (by omega)
  rw [e, nI_toInt hl] at c c1
  exact h1 l (by omega) (by omega) e
theorem c_all {S : gS} {n t st P : Nat} (h1 : cG S n t st P) (ok : okP n t P (gA S 10)) (hL : cL n P (gA S 10) (gI S 11) (gB S 18)) {l : Nat} (l1 : 1 ≤ l) (l2 : l ≤ 10) {Post : Int64 → gS → Prop} (hq : ∀ R z, l ≤ z → z ≤ 10 → r5 n P (gA S 10) R z → Post (nL (TT fitL P (gA S 10) l 0 (nI st))) (uI (sB S 18 R) 11 (nI z))) : pX8_allTrees (nI l) S Post := by
  obtain ⟨z, hz, e11, hR⟩ := hL
  have hn : n ≤ 6 := h1.2.2.2.2.2.1
  have hst : st < n := h1.2.2.2.2.2.2.2.2.1
  unfold pX8_allTrees
  refine c_fill5 h1 ok hz l2 e11 hR (fun R hR => ?_)
  rw [gI_uI, if_neg (by decide), gI_sB, h1.2.2.1]
  have h5 : H5 (uI (sB S 18 R) 11 (nI (max z l))) n t st P (max z l) := ⟨h1, ok, by omega, by rw [gB_uI, gB_sB, if_pos rfl]; exact hR⟩
  refine c_cnt5 (b := 0) h5 (Or.inr (Or.inl (nI_isN (by omega) hst))) (fun _ => by omega) (by omega) ?_
  rw [vl_N hn (nI_isN (by omega) hst), if_neg (by omega)]
  exact hq R (max z l) (by omega) (by omega) hR
theorem Inv.fill5 {Sx Sm : gS} (h : Inv Sx Sm) {n t st P z : Nat} {R : Nat → Int64} (h1 : cG Sx n t st P) (hz : z ≤ 10) (hR : r5 n P (gA Sx 10) R z) : Inv (uI (sB Sx 18 R) 11 (nI z)) Sm := by
  obtain ⟨g, ⟨n', t', st', P', hr, ok, hL, hW⟩, gw, gv, gl, gt⟩ := h
  have en : n = n' := by
    have := hr.1.symm.trans h1.1
    rw [nI_eq (by have := hr.2.2.2.2.2.1; omega) (by have := h1.2.2.2.2.2.1; omega)] at this
    exact this.symm
  have eP : P = P' := by
    have := hr.2.2.2.1.symm.trans h1.2.2.2.1
    rw [nI_eq (by have := hr.2.2.2.2.2.2.2.2.2; omega) (by have := h1.2.2.2.2.2.2.2.2.2; omega)] at this
    exact this.symm
  refine ⟨g, ⟨n', t', st', P', hr, ok, ⟨z, hz, ?_, ?_⟩, hW⟩, gw, gv, gl, gt⟩
  · rw [gI_uI, if_pos rfl]
  · rw [gB_uI, gB_sB, if_pos rfl, ← en, ← eP]
    exact hR
theorem s_13 {a1 a2 a3 a4 : Int32} {Sx Sm : gS} (h : Inv Sx Sm) : qL_13 a1 a2 a3 a4 Sx Sm Inv := by
  obtain ⟨n, t, st, P, h1, ok, hm, hL, hW⟩ := h.G
  have hn : n ≤ 6 := h1.2.2.2.2.2.1
  have hst : st < n := h1.2.2.2.2.2.2.2.2.1
  unfold qL_13 pL_treesOfLength pX8_treesOfLength
  refine c_len (m := 10) (by omega) (fun l l1 l2 el => ?_) (fun c => ⟨rfl, ?_⟩)
  · subst el
    refine c_all h1 ok hL l1 l2 (fun R z z1 z2 hR => ?_)
    unfold pX9_treesOfLength
    refine m_bt (fun _ _ => ⟨fun _ => ?_, fun c => absurd c (by decide)⟩) (fun c => absurd ⟨by rw [t_1, nI_toInt (by omega)]; omega, by rw [t_10, nI_toInt (by omega)]; omega⟩ c)
    unfold jX9_treesOfLength_17
    refine m_f0 ⟨fun _ => ?_, fun c => absurd rfl c⟩
    have hm' : mG (uI Sm 0 0) n t st P (gA Sx 10) := hm.eq (fun f _ _ => by rw [gI_uI, if_neg (by omega)]) (fun p _ => rfl)
    refine m_cbl hm' (fun U u1 u2 u3 => ?_)
    have e3 : gI U 3 = nI st := by rw [u1, gI_uI, if_neg (by decide)]; exact hm.1.2.2.1
    rw [e3]
    refine ⟨vp_in_nI (by omega) (by omega), vp_in_nI (by omega) (by omega), ?_⟩
    refine fin (by rw [u1, rd0]) ((h.fill5 h1 z2 hR).mod ⟨fun f f1 f2 f3 => by rw [u1, gI_uI, if_neg (by omega)], fun a a1 a2 a3 => by rw [u2]; rfl⟩).out (fun _ => ?_)
    rw [out0, nI_clamp (by omega), nI_clamp (by omega), u3 l st (by omega) hst]
  · unfold pX9_treesOfLength
    refine m_bt (fun c1 c2 => absurd ⟨c1, c2⟩ c) (fun _ => ⟨fun c => absurd rfl c, fun _ => ?_⟩)
    unfold jX9_treesOfLength_17
    exact m_f1 ⟨fun c => absurd c (by decide), fun _ => fin rd0 h.thr (fun c => absurd c (by decide))⟩
end
