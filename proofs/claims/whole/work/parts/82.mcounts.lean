/-! THE MATHEMATICS, 13: the model's counts by lengths and by parts. -/
def mG (S : gS) (n t st P : Nat) (F : Nat → Int32) : Prop := rgG (gI S 1) (gI S 2) (gI S 3) (gI S 4) n t st P ∧ rowsEq S F ∧ okP n t P F
def m5 (n P : Nat) (F : Nat → Int32) (S : gS) (z : Nat) : Prop := ∀ l a, l ≤ z → a < n → gB S (67 + a) l = nL (TT fitL P F l 0 (nI a))
def m6 (n P : Nat) (F W : Nat → Int32) (w : Nat) (S : gS) (z : Nat) : Prop := ∀ l b a, 1 ≤ l → l ≤ z → b + l ≤ w → a < n → gB S (79 + a * 9 + b) l = nL (TT (fitW W) P F l b (nI a))
theorem mG.eq {S T : gS} {n t st P : Nat} {F : Nat → Int32} (h : mG S n t st P F) (h1 : ∀ f, 1 ≤ f → f ≤ 4 → gI T f = gI S f) (h2 : ∀ p, p < 24 → gA T (16 + p) = gA S (16 + p)) : mG T n t st P F := by
  obtain ⟨a, b, c⟩ := h
  refine ⟨?_, fun p k hp hk => by rw [h2 p hp]; exact b p k hp hk, c⟩
  rw [h1 1 (by omega) (by omega), h1 2 (by omega) (by omega), h1 3 (by omega) (by omega), h1 4 (by omega) (by omega)]
  exact a
theorem clamp_nn {c : Int32} {n : Nat} (h : isN n c) (hn : n ≤ 6) : ∃ a, a < n ∧ c = nI a ∧ c.toNatClampNeg = a := by
  obtain ⟨a, ha, e⟩ := isN_nI h
  exact ⟨a, ha, e, by rw [e, nI_clamp (by omega)]⟩
theorem neg_m1 {c : Int32} {n t : Nat} (hc : c = -1 ∨ isS n t c) : (¬ (0 : Int32) ≤ c → c = -1) ∧ ((0 : Int32) ≤ c → isS n t c) := by
  rw [le_i, t_0]
  constructor
  · intro h
    rcases hc with g | g
    · exact g
    · rcases g with g | g
      · exact absurd g.1 h
      · have := g.1; omega
  · intro h
    rcases hc with g | g
    · rw [g, t_m1] at h; omega
    · exact g
section M5
variable {S : gS} {n t st P : Nat} {F : Nat → Int32}
theorem m_plany (h : mG S n t st P F) {c : Int32} {l : Nat} (hc : c = -1 ∨ isS n t c) (hl : l ≤ 10) {Post : Int64 → Prop} (hq : ∀ v, Post v) : pX9_partsOfLength c (nI l) S Post := by
  have hn : n ≤ 6 := h.1.2.2.2.2.2.1
  unfold pX9_partsOfLength
  refine ⟨fun c1 => ⟨fun c2 => ?_, fun c2 => ⟨fun _ => hq _, fun _ => hq _⟩⟩, fun c1 => ⟨fun _ => hq _, fun _ => hq _⟩⟩
  rcases (neg_m1 hc).2 c1 with g | g
  · exact ⟨in_i g.1 (by have := g.2; omega), vp_in_nI (by omega) (by omega), hq _⟩
  · exact absurd (isT_ge g) (by rw [lt_i, t_10] at c2; rw [le_i, t_10]; omega)
theorem m_pl (h : mG S n t st P F) {z : Nat} (h5 : m5 n P F S z) {c : Int32} {l b : Nat} (hc : c = -1 ∨ isS n t c) (hl : l ≤ 10) (hz : isN n c → l ≤ z) {Post : Int64 → Prop} (hq : Post (nL (vl fitL (TT fitL P F) l b c))) : pX9_partsOfLength c (nI l) S Post := by
  have hn : n ≤ 6 := h.1.2.2.2.2.2.1
  unfold pX9_partsOfLength
  refine ⟨fun c1 => ⟨fun c2 => ?_, fun c2 => ?_⟩, fun c1 => ?_⟩
  · rcases (neg_m1 hc).2 c1 with g | g
    · refine ⟨in_i g.1 (by have := g.2; omega), vp_in_nI (by omega) (by omega), ?_⟩
      obtain ⟨a, ha, ea, ec⟩ := clamp_nn g hn
      rw [ec, nI_clamp (by omega), h5 l a (hz g) ha]
      rw [vl_N hn g] at hq
      by_cases e : l = 0
      · rw [if_pos e] at hq
        rw [e, TT_0 hn h.2.2]
        exact hq
      · rw [if_neg e] at hq
        rw [TT_L hn h.2.2 (b' := b), ← ea]
        exact hq
    · exact absurd (isT_ge g) (by rw [lt_i, t_10] at c2; rw [le_i, t_10]; omega)
  · rw [vl_T (by rw [lt_i, t_10] at c2; rw [le_i, t_10]; omega)] at hq
    refine ⟨fun d => ?_, fun d => ?_⟩
    · rw [if_neg (fun e => d (by rw [e.1]; rfl))] at hq
      exact hq
    · rw [i_1, nI_eq (by omega) (by omega)] at d
      rw [if_pos ⟨d, rfl⟩] at hq
      exact hq
  · rw [(neg_m1 hc).1 c1, vl_m1] at hq
    refine ⟨fun d => ?_, fun d => ?_⟩
    · rw [if_neg (fun e => d (by rw [e]; rfl))] at hq
      exact hq
    · rw [i_0, nI_eq (by omega) (by omega)] at d
      rw [if_pos d] at hq
      exact hq
theorem row_at (h : mG S n t st P F) {p k : Nat} (hp : p < P) (hk : k < 4) : gA S (16 + (nI p).toNatClampNeg) k = F (4 * p + k) := by
  have hP : P ≤ 24 := h.1.2.2.2.2.2.2.2.2.2
  rw [nI_clamp (by omega)]
  exact h.2.1 p k (by omega) hk
theorem m_tw42 (h : mG S n t st P F) {z : Nat} (h5 : m5 n P F S z) {p k b y : Nat} (hp : p < P) (hk : k ≤ 10) (hz : k ≤ z) {Post : Int64 → Prop} (hq : Post (nL (y * vl fitL (TT fitL P F) k b (F (4 * p + 3))))) : jX9_treesWith_42 (nI p) (nI k) S Post (nL y) := by
  have hP : P ≤ 24 := h.1.2.2.2.2.2.2.2.2.2
  unfold jX9_treesWith_42
  refine ⟨fun _ => ⟨vp_in_nI (by omega) (by omega), vp_in_nI (n := 3) (by omega) (by omega), ?_⟩, fun c => ?_⟩
  · rw [show (3 : Int32).toNatClampNeg = 3 from rfl, row_at h hp (by decide)]
    refine m_pl h h5 (b := b) (h.2.2.k (k := 3) hp (by decide) (by decide)) hk (fun _ => hz) ?_
    rw [nL_mul]
    exact hq
  · rw [cmp_eq] at c
    rw [← nL_mul, c, Int64.zero_mul] at hq
    exact hq
theorem m_tw0 (h : mG S n t st P F) {p : Nat} {k : Int32} {Post : Int64 → Prop} (hq : Post 0) : jX9_treesWith_42 (nI p) k S Post 0 := by
  unfold jX9_treesWith_42
  exact ⟨fun c => absurd (cmp_self 0) c, fun _ => hq⟩
theorem m_tw (h : mG S n t st P F) {z : Nat} (h5 : m5 n P F S z) {p len b i j : Nat} (hp : p < P) (hij : i + j ≤ len) (hl : len ≤ 10) (hz : len ≤ z + 1) {Post : Int64 → Prop} (hq : Post (nL (pr fitL (TT fitL P F) F p len b i j))) : pX9_treesWith (nI p) (nI i) (nI j) (nI (len - i - j)) S Post := by
  have hn : n ≤ 6 := h.1.2.2.2.2.2.1
  have hP : P ≤ 24 := h.1.2.2.2.2.2.2.2.2.2
  have ok := h.2.2
  unfold pX9_treesWith
  refine ⟨vp_in_nI (by omega) (by omega), vp_in_nI (n := 1) (by omega) (by omega), ?_⟩
  rw [show (1 : Int32).toNatClampNeg = 1 from rfl, row_at h hp (by decide)]
  have nx : ∀ {X : Nat}, (i ≤ z ∨ ¬ isN n (F (4 * p + 1))) → (j ≤ z ∧ len - i - j ≤ z) → X = vl fitL (TT fitL P F) i b (F (4 * p + 1)) → ((¬ lg_cmp (nL X) 0 = 0 → (vp_in (nI p) 24 ∧ (vp_in (2 : Int32) 4 ∧ (pX9_partsOfLength (gA S (16 + (nI p).toNatClampNeg) (2 : Int32).toNatClampNeg) (nI j) S (fun r_11 => jX9_treesWith_42 (nI p) (nI (len - i - j)) S Post (nL X * r_11)))))) ∧ ((lg_cmp (nL X) 0) = 0 → jX9_treesWith_42 (nI p) (nI (len - i - j)) S Post 0)) := by
    intro X _ hz2 eX
    subst eX
    refine ⟨fun _ => ⟨vp_in_nI (by omega) (by omega), vp_in_nI (n := 2) (by omega) (by omega), ?_⟩, fun c => m_tw0 h ?_⟩
    · rw [show (2 : Int32).toNatClampNeg = 2 from rfl, row_at h hp (by decide)]
      refine m_pl h h5 (b := b + i) (ok.k (k := 2) hp (by decide) (by decide)) (by omega) (fun _ => hz2.1) ?_
      rw [nL_mul]
      refine m_tw42 h h5 (b := b + i + j) hp (by omega) hz2.2 ?_
      rw [Nat.mul_assoc]
      exact hq
    · rw [cmp_eq] at c
      unfold pr at hq
      rw [← nL_mul, c, Int64.zero_mul] at hq
      exact hq
  obtain ⟨-, hx, hyz⟩ := ok.1 p hp
  by_cases hi0 : i = 0
  · refine m_pl h h5 (b := b) (Or.inr hx) (by omega) (fun _ => by omega) ?_
    have e0 : vl fitL (TT fitL P F) i b (F (4 * p + 1)) = 0 := by rw [hi0]; exact vl_0 hn hx
    rw [e0]
    refine ⟨fun c => absurd (cmp_self 0) c, fun _ => m_tw0 h ?_⟩
    unfold pr at hq
    rw [e0, Nat.zero_mul] at hq
    exact hq
  · rcases hyz with ⟨hy, hz', hx'⟩ | ⟨hy, hz'⟩
    · refine m_pl h h5 (b := b) (Or.inr hx) (by omega) (fun d => absurd d hx') ?_
      exact nx (Or.inr hx') ⟨by omega, by omega⟩ rfl
    · by_cases hj0 : j = 0
      · refine m_plany h (Or.inr hx) (by omega) (fun v => ?_)
        have e0 : pr fitL (TT fitL P F) F p len b i j = 0 := by
          unfold pr
          rw [hj0, vl_0 (b := b + i) hn hy, Nat.zero_mul, Nat.mul_zero]
        rw [e0] at hq
        refine ⟨fun _ => ⟨vp_in_nI (by omega) (by omega), vp_in_nI (n := 2) (by omega) (by omega), ?_⟩, fun _ => m_tw0 h hq⟩
        rw [show (2 : Int32).toNatClampNeg = 2 from rfl, row_at h hp (by decide)]
        refine m_pl h h5 (b := b + i) (Or.inr hy) (by omega) (fun _ => by omega) ?_
        rw [hj0, vl_0 (b := b + i) hn hy, nL_0, Int64.mul_zero]
        exact m_tw0 h hq
      · refine m_pl h h5 (b := b) (Or.inr hx) (by omega) (fun _ => by omega) ?_
        exact nx (Or.inl (by omega)) ⟨by omega, by omega⟩ rfl
end M5
theorem i_sq {len : Nat} : (nI len + 1) * (nI len + 1) = nI ((len + 1) * (len + 1)) := by rw [nI_1, nI_mul]
theorem sq_le {len : Nat} (h : len ≤ 10) : (len + 1) * (len + 1) ≤ 121 := Nat.le_trans (Nat.mul_le_mul (show len + 1 ≤ 11 by omega) (show len + 1 ≤ 11 by omega)) (by decide)
theorem dm_lt {len k : Nat} (h : k < (len + 1) * (len + 1)) : k / (len + 1) < len + 1 := Nat.div_lt_of_lt_mul h
theorem tp_flat {fit : Nat → Int32 → Bool} {T : Nat → Nat → Int32 → Nat} {F : Nat → Int32} {p len b : Nat} : sN (fun k => pj fit T F p len b (k / (len + 1)) (k % (len + 1))) ((len + 1) * (len + 1)) = tp fit T F p len b := by
  have h := sN_flat (f := fun i j => pj fit T F p len b i j) (m := len + 1) (a := len + 1) (by omega) 0 (by omega)
  exact h
theorem m_cbl {S : gS} {n t st P : Nat} {F : Nat → Int32} (h : mG S n t st P F) {Post : gS → Prop} (hq : ∀ T : gS, gI T = gI S → gA T = gA S → m5 n P F T 10 → Post T) : pX9_countByLength S Post := by
  have hn : n ≤ 6 := h.1.2.2.2.2.2.1
  have hP : P ≤ 24 := h.1.2.2.2.2.2.2.2.2.2
  have e4 : gI S 4 = nI P := h.1.2.2.2.1
  have ok := h.2.2
  unfold pX9_countByLength
  refine lp_inv (B := fun L x => bX9_countByLength_2 Post L x.1 x.2) (fun a x => ∃ T : gS, x = (nI a, T) ∧ gI T = gI S ∧ gA T = gA S ∧ ∀ a' l, a' < a → l < 11 → gB T (67 + a') l = 0) 6 (fun a x L ha hI hL => ?_) (fun x L hI => ?_) ⟨S, rfl, rfl, rfl, fun a' l g => by omega⟩
  · obtain ⟨T, rfl, k1, k2, k3⟩ := hI
    unfold bX9_countByLength_2
    refine ⟨fun c => absurd c (nI_ge (b := 6) ha (by omega)), fun _ => ?_⟩
    refine lp_inv (B := fun L' x => bX9_countByLength_10 (nI a) L L' x.1 x.2) (fun l x => ∃ T : gS, x = (nI l, T) ∧ gI T = gI S ∧ gA T = gA S ∧ (∀ a' l, a' < a → l < 11 → gB T (67 + a') l = 0) ∧ ∀ l', l' < l → gB T (67 + a) l' = 0) 11 (fun l x L2 hl hI hL2 => ?_) (fun x L2 hI => ?_) ⟨T, rfl, k1, k2, k3, fun l' g => by omega⟩
    · obtain ⟨T, rfl, k1, k2, k3, k4⟩ := hI
      unfold bX9_countByLength_10
      refine ⟨fun c => absurd c (nI_ge (b := 11) hl (by omega)), fun _ => ⟨vp_in_nI ha (by omega), vp_in_nI hl (by omega), ?_⟩⟩
      simp only [forall_eq]
      rw [nI_clamp (by omega), nI_clamp (by omega), nI_1]
      refine hL2 _ ⟨_, rfl, k1, k2, fun a' l' g1 g2 => ?_, fun l' g1 => ?_⟩
      · rw [gB_uB, if_neg (by omega)]
        exact k3 a' l' g1 g2
      · rw [gB_uB, if_pos rfl]
        by_cases e : l' = l
        · rw [e, pk_uLs]
        · rw [pk_uLn e]
          exact k4 l' (by omega)
    · obtain ⟨T, rfl, k1, k2, k3, k4⟩ := hI
      unfold bX9_countByLength_10
      refine ⟨fun _ => ?_, fun c => absurd (nI_le (a := 11) (by omega) (by omega)) c⟩
      simp only [forall_eq]
      rw [nI_1]
      refine hL _ ⟨T, rfl, k1, k2, fun a' l' g1 g2 => ?_⟩
      by_cases e : a' = a
      · rw [e]
        exact k4 l' g2
      · exact k3 a' l' (by omega) g2
  · obtain ⟨T, rfl, k1, k2, k3⟩ := hI
    unfold bX9_countByLength_2
    refine ⟨fun _ => ?_, fun c => absurd (nI_le (a := 6) (by omega) (by omega)) c⟩
    refine lp_inv (B := fun L x => bX9_countByLength_39 Post L x.1 x.2) (fun k x => ∃ T : gS, x = (nI (1 + k), T) ∧ gI T = gI S ∧ gA T = gA S ∧ m5 n P F T k ∧ ∀ a l, a < n → k < l → l < 11 → gB T (67 + a) l = 0) 10 (fun k x L hk hI hL => ?_) (fun x L hI => ?_) ⟨T, rfl, k1, k2, fun l a g1 g2 => by rw [show l = 0 by omega, k3 a 0 (by omega) (by omega), TT_0 hn ok]; rfl, fun a l g1 g2 g3 => k3 a l (by omega) g3⟩
    · obtain ⟨T, rfl, k1, k2, k3, k4⟩ := hI
      unfold bX9_countByLength_39
      refine ⟨fun c => absurd c (nI_ge (b := 11) (by omega) (by omega)), fun _ => ?_⟩
      rw [Nat.add_comm 1 k]
      refine lp_inv (B := fun L' x => bX9_countByLength_47 (nI (k + 1)) L L' x.1 x.2) (fun p x => ∃ T : gS, x = (nI p, T) ∧ gI T = gI S ∧ gA T = gA S ∧ m5 n P F T k ∧ (∀ a l, a < n → k + 1 < l → l < 11 → gB T (67 + a) l = 0) ∧ ∀ a, a < n → gB T (67 + a) (k + 1) = nL (sN (fun q => if F (4 * q) = nI a then tp fitL (TT fitL P F) F q (k + 1) 0 else 0) p)) P (fun p x L2 hp hI hL2 => ?_) (fun x L2 hI => ?_) ⟨T, rfl, k1, k2, k3, fun a l g1 g2 g3 => k4 a l g1 (by omega) g3, fun a g1 => k4 a (k + 1) g1 (by omega) (by omega)⟩
      · obtain ⟨T, rfl, k1, k2, k3, k4, k5⟩ := hI
        have hT : mG T n t st P F := h.eq (fun f _ _ => by rw [k1]) (fun p _ => by rw [k2])
        have sq := sq_le (len := k + 1) (by omega)
        unfold bX9_countByLength_47
        rw [k1, e4]
        refine ⟨fun c => absurd c (nI_ge hp (by omega)), fun _ => ?_⟩
        refine lp_seq (B := fun L' x => bX9_countByLength_60 (nI (k + 1)) (nI p) T L2 L' x.1 x.2) (fun m => (nL (sN (fun m => pj fitL (TT fitL P F) F p (k + 1) 0 (m / (k + 1 + 1)) (m % (k + 1 + 1))) m), nI m)) ((k + 1 + 1) * (k + 1 + 1)) (fun m L3 hm hL3 => ?_) (fun L3 => ?_)
        · unfold bX9_countByLength_60
          have hd := dm_lt hm
          have hr := Nat.mod_lt m (show 0 < k + 1 + 1 by omega)
          rw [i_sq]
          refine ⟨fun c => absurd c (nI_ge hm (by omega)), fun _ => ?_⟩
          rw [nI_1, nI_rem (by omega) (by omega), nI_div (by omega) (by omega)]
          refine ⟨nI_ne0 (by omega) (by omega), ?_⟩
          simp only [forall_eq]
          refine ⟨nI_ne0 (by omega) (by omega), ?_⟩
          rw [nI_add]
          refine ⟨fun c => ?_, fun c => ?_⟩
          · rw [nI_ltI (by omega) (by omega)] at c
            rw [← nL_0, nL_add, nI_1]
            have e : pj fitL (TT fitL P F) F p (k + 1) 0 (m / (k + 1 + 1)) (m % (k + 1 + 1)) = 0 := if_neg (by omega)
            have hL4 : L3 (nL (sN (fun m => pj fitL (TT fitL P F) F p (k + 1) 0 (m / (k + 1 + 1)) (m % (k + 1 + 1))) m + pj fitL (TT fitL P F) F p (k + 1) 0 (m / (k + 1 + 1)) (m % (k + 1 + 1))), nI (m + 1)) := hL3
            rw [e] at hL4
            exact hL4
          · rw [nI_ltI (by omega) (by omega)] at c
            rw [nI_sub (by omega), nI_sub (by omega)]
            refine m_tw hT k3 (b := 0) hp (by omega) (by omega) (by omega) ?_
            rw [nL_add, nI_1]
            have e : pj fitL (TT fitL P F) F p (k + 1) 0 (m / (k + 1 + 1)) (m % (k + 1 + 1)) = pr fitL (TT fitL P F) F p (k + 1) 0 (m / (k + 1 + 1)) (m % (k + 1 + 1)) := if_pos (by omega)
            have hL4 : L3 (nL (sN (fun m => pj fitL (TT fitL P F) F p (k + 1) 0 (m / (k + 1 + 1)) (m % (k + 1 + 1))) m + pj fitL (TT fitL P F) F p (k + 1) 0 (m / (k + 1 + 1)) (m % (k + 1 + 1))), nI (m + 1)) := hL3
            rw [e] at hL4
            exact hL4
        · unfold bX9_countByLength_60
          rw [i_sq]
          refine ⟨fun _ => ?_, fun c => absurd (nI_le (Nat.le_refl _) (by omega)) c⟩
          obtain ⟨a0, ha0, ea0, ec0⟩ := clamp_nn (ok.1 p hp).1 hn
          rw [show (0 : Int32).toNatClampNeg = 0 from rfl, row_at hT hp (by decide)]
          show _ ∧ _ ∧ vp_in (F (4 * p)) 6 ∧ _
          refine ⟨vp_in_nI (by omega) (by omega), vp_in_nI (n := 0) (by omega) (by omega), in_i (ok.1 p hp).1.1 (by have := (ok.1 p hp).1.2; omega), vp_in_nI (by omega) (by omega), vp_in_nI (by omega) (by omega), ?_⟩
          simp only [forall_eq]
          show L2 (_, uB T (67 + (F (4 * p)).toNatClampNeg) _ (gB T (67 + (F (4 * p)).toNatClampNeg) _ + _))
          rw [ec0, nI_clamp (by omega), nI_1, tp_flat, k5 a0 ha0, nL_add]
          refine hL2 _ ⟨_, rfl, k1, k2, fun l a g1 g2 => ?_, fun a l g1 g2 g3 => ?_, fun a g1 => ?_⟩
          · rw [gB_uB]
            by_cases e : a = a0
            · rw [if_pos (by omega), pk_uLn (by omega), ← e]
              exact k3 l a g1 g2
            · rw [if_neg (by omega)]
              exact k3 l a g1 g2
          · rw [gB_uB]
            by_cases e : a = a0
            · rw [if_pos (by omega), pk_uLn (by omega), ← e]
              exact k4 a l g1 g2 g3
            · rw [if_neg (by omega)]
              exact k4 a l g1 g2 g3
          · rw [gB_uB]
            show _ = nL (_ + if F (4 * p) = nI a then tp fitL (TT fitL P F) F p (k + 1) 0 else 0)
            by_cases e : a = a0
            · rw [if_pos (by omega), pk_uLs, e, if_pos ea0]
            · rw [if_neg (by omega), k5 a g1, if_neg (fun d => e (by rw [ea0, nI_eq (by omega) (by omega)] at d; exact d.symm))]
              rfl
      · obtain ⟨T, rfl, k1, k2, k3, k4, k5⟩ := hI
        unfold bX9_countByLength_47
        rw [k1, e4]
        refine ⟨fun _ => ?_, fun c => absurd (nI_le (Nat.le_refl _) (by omega)) c⟩
        simp only [forall_eq]
        rw [nI_1, Nat.add_comm (k + 1) 1]
        refine hL _ ⟨T, rfl, k1, k2, fun l a g1 g2 => ?_, k4⟩
        by_cases e : l = k + 1
        · rw [e, k5 a g2, ← TT_eq hn ok]
        · exact k3 l a (by omega) g2
    · obtain ⟨T, rfl, k1, k2, k3, k4⟩ := hI
      unfold bX9_countByLength_39
      exact ⟨fun _ => hq T k1 k2 k3, fun c => absurd (nI_le (a := 11) (by omega) (by omega)) c⟩
