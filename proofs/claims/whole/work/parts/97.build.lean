section
/-! THE MATHEMATICS, 28: the model builds a tree; takeTree. -/
theorem TV_fit {fit fit' : Nat → Int32 → Bool} {n t P : Nat} {F NP NF NS : Nat → Int32} (hn : n ≤ 6) (ok : okP n t P F) : ∀ f c b len i i' r, TV fit P F NP NF NS f c b len i i' r → (∀ q x, q < len → fit (b + q) x = fit' (b + q) x) → TV fit' P F NP NF NS f c b len i i' r := by
  intro f
  induction f with
  | zero => intro c b len i i' r h; exact h.elim
  | succ f ih =>
    intro c b len i i' r h hf
    rcases h with h | ⟨h1, h2, h3, h4, h5⟩ | ⟨c1, c2, p, u, v, i1, i2, r1, r2, r3, hp, el, n0, n1, n2, huv, q1, q2, q3, er⟩
    · exact Or.inl h
    · exact Or.inr (Or.inl ⟨h1, h2, (hf 0 (c - 10) (by omega)) ▸ h3, h4, h5⟩)
    · have f2 : ∀ q x, q < v → fit (b + u + q) x = fit' (b + u + q) x := fun q x hq => by
        have := hf (u + q) x (by omega)
        rw [← Nat.add_assoc] at this
        exact this
      have f3 : ∀ q x, q < len - u - v → fit (b + u + v + q) x = fit' (b + u + v + q) x := fun q x hq => by
        have := hf (u + v + q) x (by omega)
        rw [← Nat.add_assoc, ← Nat.add_assoc] at this
        exact this
      rw [bf_loc (fit' := fit') hn ok hp hf, vl_loc (fit' := fit') hn ok f2, vl_loc (fit' := fit') hn ok f3] at er
      exact Or.inr (Or.inr ⟨c1, c2, p, u, v, i1, i2, r1, r2, r3, hp, el, n0, n1, n2, huv, ih _ _ _ _ _ _ q1 (fun q x hq => hf q x (by omega)), ih _ _ _ _ _ _ q2 f2, ih _ _ _ _ _ _ q3 f3, er⟩)
/-- what the model counts by: the parts of a word, or lengths -/
def mE (n P : Nat) (F : Nat → Int32) (fit : Nat → Int32 → Bool) (w : Nat) (S : gS) : Prop := w ≤ 8 ∧ ((gI S 7 = 1 ∧ ∃ W, fit = fitW W ∧ (∀ i, i < w → gA S 6 i = W i) ∧ m6 n P F W w S w) ∨ (gI S 7 = 0 ∧ fit = fitL ∧ m5 n P F S 10))
theorem mE.c {n P w : Nat} {F : Nat → Int32} {fit : Nat → Int32 → Bool} {S T : gS} (h : mE n P F fit w S) (h7 : gI T 7 = gI S 7) (h6 : gA T 6 = gA S 6) (hB : gB T = gB S) : mE n P F fit w T := by
  obtain ⟨w8, h⟩ := h
  refine ⟨w8, ?_⟩
  rcases h with ⟨e7, W, ef, eW, hm⟩ | ⟨e7, ef, hm⟩
  · exact Or.inl ⟨h7.trans e7, W, ef, by rw [h6]; exact eW, fun l b a g1 g2 g3 g4 => by rw [hB]; exact hm l b a g1 g2 g3 g4⟩
  · exact Or.inr ⟨h7.trans e7, ef, fun l a g1 g2 => by rw [hB]; exact hm l a g1 g2⟩
theorem mE.put {n P w b : Nat} {F : Nat → Int32} {fit : Nat → Int32 → Bool} {S : gS} {x : Int32} (h : mE n P F fit w S) (hx : fit b x = true) : mE n P F fit w (uA S 6 b x) := by
  obtain ⟨w8, h⟩ := h
  refine ⟨w8, ?_⟩
  rcases h with ⟨e7, W, ef, eW, hm⟩ | ⟨e7, ef, hm⟩
  · refine Or.inl ⟨e7, W, ef, fun i hi => ?_, hm⟩
    rw [gA_uA, if_pos rfl, upd_at]
    by_cases e : i = b
    · rw [if_pos e, e]
      rw [ef] at hx
      exact (of_decide_eq_true hx).symm
    · rw [if_neg e]
      exact eW i hi
  · exact Or.inr ⟨e7, ef, hm⟩
section MB
variable {n t st P w : Nat} {F : Nat → Int32} {fit : Nat → Int32 → Bool}
theorem m_to {S : gS} (h : mG S n t st P F) (he : mE n P F fit w S) {c : Int32} {l b : Nat} (hc : c = -1 ∨ isS n t c) (hb : b + l ≤ w) {Post : Int64 → Prop} (hq : Post (nL (vl fit (TT fit P F) l b c))) : pX9_treesOf c (nI b) (nI l) S Post := by
  have hn : n ≤ 6 := h.1.2.2.2.2.2.1
  obtain ⟨w8, he⟩ := he
  unfold pX9_treesOf
  rcases he with ⟨e7, W, ef, eW, hm⟩ | ⟨e7, ef, hm⟩
  · rw [e7]
    refine ⟨fun d => absurd d (by decide), fun _ => m_tp h w8 (hm.W hn h.2.2 (fun i hi => (eW i hi).symm)) hc hb (fun _ => by omega) ?_⟩
    rw [vl_loc (fit' := fitW W) (b' := b) hn h.2.2 (fitW_loc eW hb), ← ef]
    exact hq
  · rw [e7]
    subst ef
    exact ⟨fun _ => m_pl h hm (b := b) hc (by omega) (fun _ => by omega) hq, fun d => absurd rfl d⟩
theorem m_po47 {S : gS} (h : mG S n t st P F) (he : mE n P F fit w S) {p b i j k y : Nat} (hp : p < P) (hb : b + i + j + k ≤ w) {Post : Int64 → Prop} (hq : Post (nL (y * vl fit (TT fit P F) k (b + i + j) (F (4 * p + 3))))) : jX9_productOf_47 (nI p) (nI b) (nI i) (nI j) (nI k) S Post (nL y) := by
  have hP : P ≤ 24 := h.1.2.2.2.2.2.2.2.2.2
  unfold jX9_productOf_47
  refine ⟨fun _ => ⟨vp_in_nI (by omega) (by omega), vp_in_nI (n := 3) (by omega) (by omega), ?_⟩, fun c => ?_⟩
  · rw [show (3 : Int32).toNatClampNeg = 3 from rfl, row_at h hp (by decide), nI_add b i, nI_add (b + i) j]
    refine m_to h he (h.2.2.k (k := 3) hp (by decide) (by decide)) (by omega) ?_
    rw [nL_mul]
    exact hq
  · rw [cmp_eq] at c
    rw [← nL_mul, c, Int64.zero_mul] at hq
    exact hq
theorem m_po {S : gS} (h : mG S n t st P F) (he : mE n P F fit w S) {p len b i j : Nat} (hp : p < P) (hij : i + j ≤ len) (hb : b + len ≤ w) {Post : Int64 → Prop} (hq : Post (nL (pr fit (TT fit P F) F p len b i j))) : pX9_productOf (nI p) (nI b) (nI i) (nI j) (nI (len - i - j)) S Post := by
  have hP : P ≤ 24 := h.1.2.2.2.2.2.2.2.2.2
  have ok := h.2.2
  unfold pX9_productOf
  refine ⟨vp_in_nI (by omega) (by omega), vp_in_nI (n := 1) (by omega) (by omega), ?_⟩
  rw [show (1 : Int32).toNatClampNeg = 1 from rfl, row_at h hp (by decide)]
  refine m_to h he (ok.k (k := 1) hp (by decide) (by decide)) (by omega) ?_
  refine ⟨fun _ => ⟨vp_in_nI (by omega) (by omega), vp_in_nI (n := 2) (by omega) (by omega), ?_⟩, fun c => ?_⟩
  · rw [show (2 : Int32).toNatClampNeg = 2 from rfl, row_at h hp (by decide), nI_add b i]
    refine m_to h he (ok.k (k := 2) hp (by decide) (by decide)) (by omega) ?_
    rw [nL_mul]
    refine m_po47 h he hp (by omega) ?_
    rw [Nat.mul_assoc]
    exact hq
  · rw [cmp_eq] at c
    unfold pr at hq
    rw [← nL_mul, c, Int64.zero_mul] at hq
    unfold jX9_productOf_47
    exact ⟨fun c => absurd (cmp_self 0) c, fun _ => hq⟩
def mF (S T : gS) (i b len : Nat) : Prop := (∀ f, f ≠ 6 → gI T f = gI S f) ∧ (∀ a, a ≠ 6 → a ≠ 8 → a ≠ 9 → a ≠ 10 → gA T a = gA S a) ∧ gB T = gB S ∧ (∀ j, j < i → gA T 8 j = gA S 8 j ∧ gA T 9 j = gA S 9 j ∧ gA T 10 j = gA S 10 j) ∧ ∀ q, ¬ (b ≤ q ∧ q < b + len) → gA T 6 q = gA S 6 q
theorem mF.rfl {S : gS} {i b len : Nat} : mF S S i b len := ⟨fun _ _ => Eq.refl _, fun _ _ _ _ _ => Eq.refl _, Eq.refl _, fun _ _ => ⟨Eq.refl _, Eq.refl _, Eq.refl _⟩, fun _ _ => Eq.refl _⟩
theorem mF.trans {S T U : gS} {i b len i' b' len' B L : Nat} (h1 : mF S T i b len) (h2 : mF T U i' b' len') (hi : i ≤ i') (e1 : B ≤ b) (e2 : b + len ≤ B + L) (e3 : B ≤ b') (e4 : b' + len' ≤ B + L) : mF S U i B L := by
  refine ⟨fun f hf => (h2.1 f hf).trans (h1.1 f hf), fun a a1 a2 a3 a4 => (h2.2.1 a a1 a2 a3 a4).trans (h1.2.1 a a1 a2 a3 a4), h2.2.2.1.trans h1.2.2.1, fun j hj => ?_, fun q hq => (h2.2.2.2.2 q (by omega)).trans (h1.2.2.2.2 q (by omega))⟩
  have x1 := h1.2.2.2.1 j hj
  have x2 := h2.2.2.2.1 j (by omega)
  exact ⟨x2.1.trans x1.1, x2.2.1.trans x1.2.1, x2.2.2.trans x1.2.2⟩
theorem mF.G {S T : gS} {i b len : Nat} (h : mF S T i b len) (h1 : mG S n t st P F) : mG T n t st P F := h1.eq (fun f f1 f2 => h.1 f (by omega)) (fun p _ => h.2.1 _ (by omega) (by omega) (by omega) (by omega))
theorem sub_ng {len a c : Nat} (ha : a ≤ len) (hc : c ≤ len) (hl : len ≤ 8) (h : len < a + c) : nI len - nI a - nI c < 0 := by
  rw [nI_sub ha, lt_i, t_0, sub_i] <;> rw [nI_toInt (by omega), nI_toInt (by omega)] <;> omega
def bdP (n t st P w : Nat) (F : Nat → Int32) (fit : Nat → Int32 → Bool) (d : Nat) : Prop := ∀ c b len i R (S : gS) (Post : gS → Prop), mG S n t st P F → mE n P F fit w S → gI S 6 = nI i → (c = -1 ∨ isS n t c) → len ≤ 8 → b + len ≤ w → R < vl fit (TT fit P F) len b c → (isN n c → i + 2 * len ≤ 16 ∧ len + 1 ≤ d) → 1 ≤ d → (∀ (T : gS) (i' : Nat), mF S T i b len → gI T 6 = nI i' → mE n P F fit w T → TV fit P F (gA T 8) (gA T 9) (gA T 10) d c b len i i' R → (∃ r', TV (fitW (gA T 6)) P F (gA T 8) (gA T 9) (gA T 10) d c b len i i' r') → Post T) → pX9_build d c (nI b) (nI len) (nL R) S Post
theorem m_bn {d : Nat} (ih : bdP n t st P w F fit d) {c : Int32} {b len i R p u v : Nat} {S : gS} (h : mG S n t st P F) (he : mE n P F fit w S) (e6 : gI S 6 = nI i) (hN : isN n c) (l1 : 1 ≤ len) (l8 : len ≤ 8) (hb : b + len ≤ w) (hi : i + 2 * len ≤ 16) (hd : len ≤ d) (hp : p < P) (el : F (4 * p) = c) (huv : u + v ≤ len) (hb1 : bf fit P F c len b p u v ≤ R) (hb2 : R < bf fit P F c len b p u v + pr fit (TT fit P F) F p len b u v) {Post : gS → Prop}
    (hq : ∀ (T : gS) (i' : Nat), mF S T i b len → gI T 6 = nI i' → mE n P F fit w T → TV fit P F (gA T 8) (gA T 9) (gA T 10) (d + 1) c b len i i' R → (∃ r', TV (fitW (gA T 6)) P F (gA T 8) (gA T 9) (gA T 10) (d + 1) c b len i i' r') → Post T) : pX9_buildNode (pX9_build d) (nI p) (nI b) (nI u) (nI v) (nI (len - u - v)) (nL (R - bf fit P F c len b p u v)) S Post := by
  have hn : n ≤ 6 := h.1.2.2.2.2.2.1
  have t3 : t ≤ 3 := h.1.2.2.2.2.2.2.2.1
  have hP : P ≤ 24 := h.1.2.2.2.2.2.2.2.2.2
  have ok := h.2.2
  have w8 := he.1
  have hTlt := TT_lt (fit := fit) (b := b) (c := c) hn t3 hP ok l8
  have hle := bf_le (fit := fit) (b := b) hn ok hp el huv
  have o1 := ok.k (k := 1) hp (by decide) (by decide)
  have o2 := ok.k (k := 2) hp (by decide) (by decide)
  have o3 := ok.k (k := 3) hp (by decide) (by decide)
  have lt2 := vl_lt (fit := fit) (b := b + u) (c := F (4 * p + 2)) hn t3 hP ok (show v ≤ 8 by omega) o2
  have lt3 := vl_lt (fit := fit) (b := b + u + v) (c := F (4 * p + 3)) hn t3 hP ok (show len - u - v ≤ 8 by omega) o3
  have hpr : R - bf fit P F c len b p u v < pr fit (TT fit P F) F p len b u v := by omega
  have hprp : 0 < pr fit (TT fit P F) F p len b u v := by omega
  have hprl : pr fit (TT fit P F) F p len b u v < 2 ^ 63 := by omega
  have hrem : R - bf fit P F c len b p u v < 2 ^ 63 := by omega
  obtain ⟨m, em⟩ : ∃ m, m = R - bf fit P F c len b p u v := ⟨_, rfl⟩
  rw [← em] at hpr hrem ⊢
  unfold pr at hpr hprp hprl
  have y1 : 1 ≤ vl fit (TT fit P F) u b (F (4 * p + 1)) := Nat.pos_of_ne_zero (fun e => by rw [e, Nat.zero_mul] at hprp; omega)
  have y2 : 1 ≤ vl fit (TT fit P F) v (b + u) (F (4 * p + 2)) := Nat.pos_of_ne_zero (fun e => by rw [e, Nat.zero_mul, Nat.mul_zero] at hprp; omega)
  have y3 : 1 ≤ vl fit (TT fit P F) (len - u - v) (b + u + v) (F (4 * p + 3)) := Nat.pos_of_ne_zero (fun e => by rw [e, Nat.mul_zero, Nat.mul_zero] at hprp; omega)
  have l23 : vl fit (TT fit P F) (len - u - v) (b + u + v) (F (4 * p + 3)) * vl fit (TT fit P F) v (b + u) (F (4 * p + 2)) < 2 ^ 63 := by
    rw [Nat.mul_comm]
    refine Nat.lt_of_le_of_lt (Nat.le_trans (Nat.le_of_eq (Nat.one_mul _).symm) (Nat.mul_le_mul_right _ y1)) hprl
  have y23 : 1 ≤ vl fit (TT fit P F) (len - u - v) (b + u + v) (F (4 * p + 3)) * vl fit (TT fit P F) v (b + u) (F (4 * p + 2)) := Nat.mul_pos y3 y2
  have k1 := r_1 hpr
  have k2 := Nat.mod_lt (m / vl fit (TT fit P F) (len - u - v) (b + u + v) (F (4 * p + 3))) (show 0 < vl fit (TT fit P F) v (b + u) (F (4 * p + 2)) by omega)
  have k3 := Nat.mod_lt m (show 0 < vl fit (TT fit P F) (len - u - v) (b + u + v) (F (4 * p + 3)) by omega)
  have er : R = bf fit P F c len b p u v + ((m / vl fit (TT fit P F) (len - u - v) (b + u + v) (F (4 * p + 3)) / vl fit (TT fit P F) v (b + u) (F (4 * p + 2)) * vl fit (TT fit P F) v (b + u) (F (4 * p + 2)) + m / vl fit (TT fit P F) (len - u - v) (b + u + v) (F (4 * p + 3)) % vl fit (TT fit P F) v (b + u) (F (4 * p + 2))) * vl fit (TT fit P F) (len - u - v) (b + u + v) (F (4 * p + 3)) + m % vl fit (TT fit P F) (len - u - v) (b + u + v) (F (4 * p + 3))) := by
    rw [r_e]
    omega
  obtain ⟨-, hx, hyz⟩ := ok.1 p hp
  have u1 : 1 ≤ u := Nat.pos_of_ne_zero (fun e => by rw [e, vl_0 hn hx] at y1; omega)
  have yv : isS n t (F (4 * p + 2)) → 1 ≤ v := fun g => Nat.pos_of_ne_zero (fun e => by rw [e, vl_0 hn g] at y2; omega)
  have xv : isN n (F (4 * p + 1)) → 1 ≤ v := fun g => by
    rcases hyz with ⟨-, -, hx'⟩ | ⟨hy, -⟩
    · exact absurd g hx'
    · exact yv hy
  have zv : isN n (F (4 * p + 3)) → isS n t (F (4 * p + 2)) := fun g => by
    rcases hyz with ⟨-, hz, -⟩ | ⟨hy, -⟩
    · exact absurd hz (isS_m1 (t := t) (Or.inl g))
    · exact hy
  unfold pX9_buildNode
  have vp : vp_in (nI i) 16 := vp_in_nI (by omega) (by omega)
  have vpp : vp_in (nI p) 24 := vp_in_nI (by omega) (by omega)
  rw [e6]
  refine ⟨vp, ?_⟩
  rintro _ rfl
  rw [gI_uA, e6]
  refine ⟨vp, ?_⟩
  rintro _ rfl
  rw [gI_uA, gI_uA, e6]
  refine ⟨vp, ?_⟩
  rintro _ rfl
  rw [gI_uA, gI_uA, gI_uA, e6, nI_1, nI_clamp (n := i) (by omega), nI_add u v, nI_add (u + v), show u + v + (len - u - v) = len by omega]
  rintro _ rfl
  obtain ⟨S4, e4⟩ : ∃ S4, S4 = uI (uA (uA (uA S 8 i (nI p)) 9 i (nI b)) 10 i (nI len)) 6 (nI (i + 1)) := ⟨_, rfl⟩
  rw [← e4]
  have f4 : mF S S4 i b len := by
    rw [e4]
    refine ⟨fun f hf => ?_, fun a a1 a2 a3 a4 => ?_, rfl, fun j hj => ⟨?_, ?_, ?_⟩, fun q _ => ?_⟩
    · rw [gI_uI, if_neg hf, gI_uA, gI_uA, gI_uA]
    · rw [gA_uI, gA_uA, if_neg a4, gA_uA, if_neg a3, gA_uA, if_neg a2]
    · rw [gA_uI, gA_uA, if_neg (by decide), gA_uA, if_neg (by decide), gA_uA, if_pos rfl, pk_un (by omega)]
    · rw [gA_uI, gA_uA, if_neg (by decide), gA_uA, if_pos rfl, pk_un (by omega), gA_uA, if_neg (by decide)]
    · rw [gA_uI, gA_uA, if_pos rfl, pk_un (by omega), gA_uA, if_neg (by decide), gA_uA, if_neg (by decide)]
    · rw [gA_uI, gA_uA, if_neg (by decide), gA_uA, if_neg (by decide), gA_uA, if_neg (by decide)]
  have a8 : gA S4 8 i = nI p := by rw [e4, gA_uI, gA_uA, if_neg (by decide), gA_uA, if_neg (by decide), gA_uA, if_pos rfl, pk_us]
  have a9 : gA S4 9 i = nI b := by rw [e4, gA_uI, gA_uA, if_neg (by decide), gA_uA, if_pos rfl, pk_us]
  have a10 : gA S4 10 i = nI len := by rw [e4, gA_uI, gA_uA, if_pos rfl, pk_us]
  have a6 : gI S4 6 = nI (i + 1) := by rw [e4, gI_uI, if_pos rfl]
  have h4 := f4.G h
  have w6 : gA S4 6 = gA S 6 := by rw [e4, gA_uI, gA_uA, if_neg (by decide), gA_uA, if_neg (by decide), gA_uA, if_neg (by decide)]
  have he4 : mE n P F fit w S4 := he.c (f4.1 7 (by decide)) w6 f4.2.2.1
  refine ⟨vpp, vp_in_nI (n := 3) (by omega) (by omega), ?_⟩
  rw [nI_add b u, nI_add (b + u) v, show (3 : Int32).toNatClampNeg = 3 from rfl, show (2 : Int32).toNatClampNeg = 2 from rfl, show (1 : Int32).toNatClampNeg = 1 from rfl, row_at h4 hp (by decide), row_at h4 hp (by decide), row_at h4 hp (by decide)]
  refine m_to h4 he4 o3 (by omega) ⟨vpp, vp_in_nI (n := 2) (by omega) (by omega), m_to h4 he4 o2 (by omega) ?_⟩
  rintro _ rfl
  rw [nL_mul, nL_rem hrem l23, nL_rem hrem lt3, nL_div hrem l23, nL_div (Nat.lt_of_le_of_lt (Nat.mod_le _ _) hrem) lt3, Nat.mod_mul_right_div_self, ← Nat.div_div_eq_div_mul]
  refine ⟨vpp, vp_in_nI (n := 1) (by omega) (by omega), nL_ne y23 l23, ih _ b u (i + 1) _ S4 _ h4 he4 a6 o1 (by omega) (by omega) k1 (fun g => by have := xv g; omega) (by omega) (fun T1 i1 g1 t1 m1 q1 q1' => ?_)⟩
  have z1 := TV_sz hn ok _ _ _ _ _ _ _ o1 q1
  have z1' := z1.2.1 hx
  have h5 := g1.G h4
  rw [row_at h5 hp (by decide)]
  refine ⟨vpp, vp_in_nI (n := 2) (by omega) (by omega), nL_ne y23 l23, nL_ne y3 lt3, ih _ (b + u) v i1 _ T1 _ h5 m1 t1 o2 (by omega) (by omega) k2 (fun g => by omega) (by omega) (fun T2 i2 g2 t2 m2 q2 q2' => ?_)⟩
  have z2 := TV_sz hn ok _ _ _ _ _ _ _ o2 q2
  have h6 := g2.G h5
  rw [row_at h6 hp (by decide)]
  refine ⟨vpp, vp_in_nI (n := 3) (by omega) (by omega), nL_ne y3 lt3, ih _ (b + u + v) (len - u - v) i2 _ T2 _ h6 m2 t2 o3 (by omega) (by omega) k3 (fun g => by have := z2.2.1 (zv g); omega) (by omega) (fun T3 i3 g3 t3' m3 q3 q3' => ?_)⟩
  have z3 := TV_sz hn ok _ _ _ _ _ _ _ o3 q3
  have g23 : mF T1 T3 i1 (b + u) (len - u) := g2.trans g3 z2.1 (by omega) (by omega) (by omega) (by omega)
  have g14 : mF S4 T3 (i + 1) b len := g1.trans g23 z1.1 (by omega) (by omega) (by omega) (by omega)
  have nd := g14.2.2.2.1 i (by omega)
  have c1 := isS_m1 (t := t) (Or.inl hN)
  have c2 := isN_lt hn hN
  have ag1 : ∀ j, i + 1 ≤ j → j < i1 → gA T1 8 j = gA T3 8 j ∧ gA T1 9 j = gA T3 9 j ∧ gA T1 10 j = gA T3 10 j := fun j _ x2 => by
    have := g23.2.2.2.1 j x2
    exact ⟨this.1.symm, this.2.1.symm, this.2.2.symm⟩
  have ag2 : ∀ j, i1 ≤ j → j < i2 → gA T2 8 j = gA T3 8 j ∧ gA T2 9 j = gA T3 9 j ∧ gA T2 10 j = gA T3 10 j := fun j _ x2 => by
    have := g3.2.2.2.1 j x2
    exact ⟨this.1.symm, this.2.1.symm, this.2.2.symm⟩
  obtain ⟨s1, q1'⟩ := q1'
  obtain ⟨s2, q2'⟩ := q2'
  obtain ⟨s3, q3'⟩ := q3'
  refine hq T3 i3 (f4.trans g14 (by omega) (by omega) (by omega) (by omega) (by omega)) t3' m3 (Or.inr (Or.inr ⟨c1, c2, p, u, v, i1, i2, _, _, _, hp, el, nd.1.trans a8, nd.2.1.trans a9, nd.2.2.trans a10, huv, TV_loc hn ok _ _ _ _ _ _ _ o1 q1 ag1, TV_loc hn ok _ _ _ _ _ _ _ o2 q2 ag2, q3, er⟩)) ⟨_, Or.inr (Or.inr ⟨c1, c2, p, u, v, i1, i2, s1, s2, s3, hp, el, nd.1.trans a8, nd.2.1.trans a9, nd.2.2.trans a10, huv, ?_, ?_, q3', rfl⟩)⟩
  · refine TV_fit hn ok _ _ _ _ _ _ _ (TV_loc hn ok _ _ _ _ _ _ _ o1 q1' ag1) (fun q x hq => ?_)
    unfold fitW
    rw [g23.2.2.2.2 (b + q) (by omega)]
  · refine TV_fit hn ok _ _ _ _ _ _ _ (TV_loc hn ok _ _ _ _ _ _ _ o2 q2' ag2) (fun q x hq => ?_)
    unfold fitW
    rw [g3.2.2.2.2 (b + u + q) (by omega)]
end MB
end
