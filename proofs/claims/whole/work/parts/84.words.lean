section
/-! THE MATHEMATICS, 15: words by their keys; the class's counts of all words. -/
theorem pl_lt : ∀ l, l < 7 → ∀ m, m < 7 → l < m → plW l + 3 ^ l ≤ plW m := by decide +kernel
theorem pl_le : ∀ l, l < 7 → plW l + 3 ^ l ≤ 1093 := by decide +kernel
theorem pla_e : ∀ l, l < 7 → xPla l = nI (plW l) := by decide +kernel
theorem pow_e : ∀ t, t < 4 → 1 ≤ t → ∀ l, l < 7 → xPow ((t - 1) * 7 + l) = nI (t ^ l) := by decide +kernel
theorem pow3 {t l : Nat} (h : t ≤ 3) : t ^ l ≤ 3 ^ l := Nat.pow_le_pow_left h l
theorem lp_sq {α : Type} {B : (α → Prop) → α → Prop} (X : Nat → α) (N : Nat) (hs : ∀ k L, k < N → L (X (k + 1)) → B L (X k)) (he : ∀ L, B L (X N)) {x : α} (hx : x = X 0) : ∃ n, lp B n x := by
  rw [hx]
  exact lp_seq X N hs he
theorem dg_hi {t X m j a : Nat} (hm : m < t ^ j) : (X * t ^ j + m) / t ^ (j + a) = X / t ^ a := by
  rw [Nat.pow_add, ← Nat.div_div_eq_div_mul]
  congr 1
  rw [Nat.add_comm, Nat.add_mul_div_right _ _ (show 0 < t ^ j by omega), Nat.div_eq_of_lt hm, Nat.zero_add]
theorem dg_lo {t X m j e : Nat} (ht : 0 < t) (he : e < j) : (X * t ^ j + m) / t ^ e % t = m / t ^ e % t := by
  have h1 : t ^ j = t ^ (j - e - 1) * t * t ^ e := by
    rw [← Nat.pow_succ, ← Nat.pow_add]
    congr 1
    omega
  rw [h1, ← Nat.mul_assoc, ← Nat.mul_assoc, Nat.add_comm, Nat.add_mul_div_right _ _ (Nat.pow_pos ht), Nat.add_mul_mod_self_right]
section KY
variable {t i j k h m r q : Nat}
theorem dig_1 (hm : m < t ^ j) (hr : r < t ^ k) (hq : q < i) : dig t (i + j + k) ((h * t ^ j + m) * t ^ k + r) q = dig t i h q := by
  unfold dig
  rw [show i + j + k - 1 - q = k + (j + (i - 1 - q)) by omega, dg_hi hr, dg_hi hm]
theorem dig_2 (ht : 0 < t) (hr : r < t ^ k) (hq : q < j) : dig t (i + j + k) ((h * t ^ j + m) * t ^ k + r) (i + q) = dig t j m q := by
  unfold dig
  rw [show i + j + k - 1 - (i + q) = k + (j - 1 - q) by omega, dg_hi hr, dg_lo ht (by omega)]
theorem dig_3 (ht : 0 < t) (hq : q < k) : dig t (i + j + k) ((h * t ^ j + m) * t ^ k + r) (i + j + q) = dig t k r q := by
  unfold dig
  rw [show i + j + k - 1 - (i + j + q) = k - 1 - q by omega, dg_lo ht (by omega)]
end KY
theorem vl_loc {fit fit' : Nat → Int32 → Bool} {n t P : Nat} {F : Nat → Int32} {l b b' : Nat} {c : Int32} (hn : n ≤ 6) (ok : okP n t P F) (hf : ∀ q x, q < l → fit (b + q) x = fit' (b' + q) x) : vl fit (TT fit P F) l b c = vl fit' (TT fit' P F) l b' c :=
  Nat.le_antisymm (vl_le (fun q x hq g => (hf q x hq) ▸ g) (Nat.le_of_eq (TT_loc hn ok hf))) (vl_le (fun q x hq g => (hf q x hq).symm ▸ g) (Nat.le_of_eq (TT_loc hn ok hf).symm))
theorem mul3 {a b c a' b' c' : Nat} (h1 : a = a') (h2 : b = b') (h3 : c = c') : a * (b * c) = a' * (b' * c') := by rw [h1, h2, h3]
theorem pr_key {n t P : Nat} {F : Nat → Int32} (hn : n ≤ 6) (ht : 0 < t) (ok : okP n t P F) {p i j k h m r : Nat} (hm : m < t ^ j) (hr : r < t ^ k) : pr (fitW (dig t (i + j + k) ((h * t ^ j + m) * t ^ k + r))) (TT (fitW (dig t (i + j + k) ((h * t ^ j + m) * t ^ k + r))) P F) F p (i + j + k) 0 i j = vl (fitW (dig t i h)) (TT (fitW (dig t i h)) P F) i 0 (F (4 * p + 1)) * (vl (fitW (dig t j m)) (TT (fitW (dig t j m)) P F) j 0 (F (4 * p + 2)) * vl (fitW (dig t k r)) (TT (fitW (dig t k r)) P F) k 0 (F (4 * p + 3))) := by
  unfold pr
  rw [show i + j + k - i - j = k by omega]
  refine mul3 (vl_loc hn ok (fun q x hq => ?_)) (vl_loc hn ok (fun q x hq => ?_)) (vl_loc hn ok (fun q x hq => ?_))
  · unfold fitW
    rw [Nat.zero_add, dig_1 hm hr hq]
  · unfold fitW
    rw [Nat.zero_add, Nat.zero_add, dig_2 ht hr hq]
  · unfold fitW
    rw [Nat.zero_add, Nat.zero_add, dig_3 ht hq]
def rwN (c : Int32) : Nat := if c = -1 then 9 else if (10 : Int32) ≤ c then c.toNatClampNeg - 4 else c.toNatClampNeg
theorem rw_T {t : Nat} {c : Int32} (ht : t ≤ 3) (h : isT t c) : ∃ u, u < t ∧ c = nI (10 + u) ∧ rwN c = 6 + u := by
  obtain ⟨j, hj, e⟩ := nI_of' (x := c) (by have := h.1; omega)
  have h1 := h.1
  have h2 := h.2
  rw [e, nI_toInt hj] at h1 h2
  refine ⟨j - 10, by omega, by rw [e]; congr 1; omega, ?_⟩
  unfold rwN
  rw [if_neg (isS_m1 (n := 0) (Or.inr h)), if_pos (isT_ge h), e, nI_clamp hj]
  omega
theorem rw_N {n : Nat} {c : Int32} (hn : n ≤ 6) (h : isN n c) : ∃ a, a < n ∧ c = nI a ∧ rwN c = a := by
  obtain ⟨a, ha, ea, ec⟩ := clamp_nn h hn
  refine ⟨a, ha, ea, ?_⟩
  unfold rwN
  rw [if_neg (isS_m1 (t := 0) (Or.inl h)), if_neg (isN_lt hn h), ec]
theorem rw_n {n a : Nat} (hn : n ≤ 6) (h : a < n) : rwN (nI a) = a := by
  obtain ⟨a', h', ea, er⟩ := rw_N hn (nI_isN (by omega) h)
  rw [er]
  exact ((nI_eq (by omega) (by omega)).mp ea).symm
theorem rw_lt {n t : Nat} {c : Int32} (hn : n ≤ 6) (ht : t ≤ 3) (hc : c = -1 ∨ isS n t c) : rwN c < 10 ∧ (rwN c < 6 → isN n c) := by
  rcases hc with g | g | g
  · rw [g]
    exact ⟨by decide, fun d => absurd d (by decide)⟩
  · obtain ⟨a, ha, ea, er⟩ := rw_N hn g
    exact ⟨by omega, fun _ => g⟩
  · obtain ⟨u, hu, eu, er⟩ := rw_T ht g
    exact ⟨by omega, fun _ => by omega⟩
theorem c_bg {S : gS} {n t : Nat} {c : Int32} {l : Nat} (hn : n ≤ 6) (ht : t ≤ 3) (hc : c = -1 ∨ isS n t c) (hl : l ≤ 6) {Post : Int32 → Prop} (hq : Post (nI (rwN c * 1093 + plW l))) : pX7_begin c (nI l) S Post := by
  have j : ∀ r : Nat, r < 10 → rwN c = r → jX7_begin_27 (nI l) Post (nI r) := fun r hr e => by
    unfold jX7_begin_27
    refine ⟨fun d => absurd d (nI_pos (by omega)), fun _ => ⟨fun d => absurd d (nI_ge (b := 10) hr (by omega)), fun _ => ⟨fun d => absurd d (nI_pos (by omega)), fun _ => ⟨fun _ => ⟨vp_in_nI (by omega) (by omega), ?_⟩, fun d => absurd (nI_le (b := 6) hl (by omega)) d⟩⟩⟩⟩
    have h2 : nI r * 1093 + xPla (nI l).toNatClampNeg = nI (r * 1093 + plW l) := by
      rw [nI_clamp (by omega), pla_e l (by omega), show (1093 : Int32) = nI 1093 from rfl, nI_mul, nI_add]
    rw [h2, ← e]
    exact hq
  unfold pX7_begin
  refine ⟨fun c1 => ⟨fun c2 => ?_, fun c2 => ?_⟩, fun c1 => ?_⟩
  · rcases hc with g | g | g
    · exact absurd g c1
    · obtain ⟨a, ha, ea, er⟩ := rw_N hn g
      have := j a (by omega) er
      rw [← ea] at this
      exact this
    · exact absurd (isT_ge g) (by rw [lt_i, t_10] at c2; rw [le_i, t_10]; omega)
  · rcases hc with g | g | g
    · exact absurd g c1
    · exact absurd (by rw [lt_i, t_10]; have := g.2; omega) c2
    · obtain ⟨u, hu, eu, er⟩ := rw_T ht g
      simp only [forall_eq]
      have e : (6 : Int32) + c - 10 = nI (6 + u) := by
        rw [eu, i_6, i_10, nI_add, nI_sub (by omega)]
        congr 1
        omega
      rw [e]
      exact j (6 + u) (by omega) er
  · exact j 9 (by omega) (by rw [c1]; rfl)
theorem c_ol {S : gS} {t l : Nat} (e2 : gI S 2 = nI t) (t1 : 1 ≤ t) (t3 : t ≤ 3) (hl : l ≤ 6) {Post : Int32 → Prop} (hq : Post (nI (t ^ l))) : pX7_ofLength (nI l) S Post := by
  unfold pX7_ofLength
  simp only [forall_eq]
  have e : (gI S 2 - 1) * 7 + nI l = nI ((t - 1) * 7 + l) := by
    rw [e2, i_1, nI_sub t1, show (7 : Int32) = nI 7 from rfl, nI_mul, nI_add]
  rw [e]
  refine ⟨fun d => absurd d (nI_pos (by omega)), fun _ => ⟨fun d => absurd d (nI_nlt (a := 6) hl (by omega)), fun _ => ⟨fun d => absurd d (nI_pos (by omega)), fun _ => ⟨fun _ => ⟨vp_in_nI (by omega) (by omega), ?_⟩, fun d => absurd (nI_lt (b := 21) (by omega) (by omega)) d⟩⟩⟩⟩
  rw [nI_clamp (by omega), pow_e t (by omega) t1 l (by omega)]
  exact hq
def rgn (I w : Nat) (f g : Nat → Int64) : Nat → Int64 := fun q => if I ≤ q ∧ q < I + w then f q else g q
section RG
variable {I w q : Nat} {f g : Nat → Int64}
theorem rgn_0 : rgn I 0 f g = g := by
  funext q
  unfold rgn
  rw [if_neg (by omega)]
theorem rgn_s : vp_updL (rgn I w f g) (I + w) (f (I + w)) = rgn I (w + 1) f g := by
  funext q
  rw [updL_at]
  unfold rgn
  by_cases e : q = I + w
  · rw [if_pos e, if_pos (by omega), e]
  · rw [if_neg e]
    by_cases e2 : I ≤ q ∧ q < I + w
    · rw [if_pos e2, if_pos (by omega)]
    · rw [if_neg e2, if_neg (by omega)]
theorem rgn_in (h : I ≤ q ∧ q < I + w) : rgn I w f g q = f q := if_pos h
theorem rgn_out (h : ¬ (I ≤ q ∧ q < I + w)) : rgn I w f g q = g q := if_neg h
theorem rgn_z {m : Nat} (h : ∀ r, r < w → f (I + m + r) = g (I + m + r)) : rgn I m f g = rgn I (m + w) f g := by
  funext q
  unfold rgn
  by_cases e : I ≤ q ∧ q < I + m
  · rw [if_pos e, if_pos (by omega)]
  · rw [if_neg e]
    by_cases e2 : I ≤ q ∧ q < I + (m + w)
    · rw [if_pos e2]
      have := h (q - I - m) (by omega)
      rw [show I + m + (q - I - m) = q by omega] at this
      exact this.symm
    · rw [if_neg e2]
end RG
theorem c_clr {S : gS} {I w : Nat} (hI : I + w ≤ 10930) {Post : gS → Prop} (hq : Post (sB S 20 (rgn I w (fun _ => 0) (gB S 20)))) : ∃ n, lp (fun L x => bX7_clear_24 Post (nI (I + w)) L x.1 x.2) n (nI I, S) := by
  refine lp_sq (B := fun L x => bX7_clear_24 Post (nI (I + w)) L x.1 x.2) (fun k => (nI (I + k), sB S 20 (rgn I k (fun _ => 0) (gB S 20)))) w (fun k L hk hL => ?_) (fun L => ?_) ?_
  · unfold bX7_clear_24
    refine ⟨fun c => absurd c (nI_ge (by omega) (by omega)), fun _ => ⟨fun c => absurd c (nI_ge (b := 10930) (by omega) (by omega)), fun _ => ⟨vp_in_nI (by omega) (by omega), ?_⟩⟩⟩
    simp only [forall_eq]
    rw [nI_clamp (by omega), uB_s, sB_sB, gB_sB, if_pos rfl, nI_1, show vp_updL (rgn I k (fun _ => 0) (gB S 20)) (I + k) 0 = rgn I (k + 1) (fun _ => 0) (gB S 20) from rgn_s]
    exact hL
  · unfold bX7_clear_24
    exact ⟨fun _ => hq, fun c => absurd (nI_le (Nat.le_refl _) (by omega)) c⟩
  · show (nI I, S) = (nI (I + 0), sB S 20 (rgn I 0 _ _))
    rw [Nat.add_zero, rgn_0, sB_id]
theorem c_clear {S : gS} {n t a l : Nat} (hn : n ≤ 6) (ha : a < n) (e2 : gI S 2 = nI t) (t1 : 1 ≤ t) (t3 : t ≤ 3) (hl : l ≤ 6) {Post : gS → Prop} (hq : Post (sB S 20 (rgn (a * 1093 + plW l) (t ^ l) (fun _ => 0) (gB S 20)))) : pX7_clear (nI a) (nI l) S Post := by
  have p1 := pow3 (l := l) t3
  have p2 := pl_le l (by omega)
  unfold pX7_clear
  refine c_bg (t := t) hn t3 (Or.inr (Or.inl (nI_isN (by omega) ha))) hl ?_
  rw [rw_n hn ha]
  refine ⟨fun _ => ?_, fun d => absurd (nI_pos' (by omega)) d⟩
  refine c_ol e2 t1 t3 hl ?_
  simp only [forall_eq]
  rw [nI_add]
  exact c_clr (by omega) hq
def adG (R0 : Nat → Int64) (I : Nat) (G : Nat → Nat) : Nat → Int64 := fun q => R0 q + nL (G (q - I))
theorem c_addT {S : gS} {R0 : Nat → Int64} {G : Nat → Nat} {I L m wk : Nat} {f : Int64} (h1 : I + m + wk ≤ 10930) (h2 : L + wk ≤ 10930) (hd : L + wk ≤ I ∨ I + m + wk ≤ L) (hf : ∀ r, r < wk → f * R0 (L + r) = nL (G (m + r))) {Post : gS → Prop} (hq : Post (sB S 20 (rgn I (m + wk) (adG R0 I G) R0))) : pX7_addTimes (nI (I + m)) (nI L) (nI wk) f (sB S 20 (rgn I m (adG R0 I G) R0)) Post := by
  unfold pX7_addTimes
  rw [nI_add (I + m) wk, nI_add L wk]
  refine ⟨fun d => absurd d (nI_pos (by omega)), fun _ => ⟨fun d => absurd d (nI_pos (by omega)), fun _ => ⟨fun d => absurd d (nI_nlt (a := 10930) (by omega) (by omega)), fun _ => ⟨fun _ => ?_, fun d => absurd (nI_le (b := 10930) (by omega) (by omega)) d⟩⟩⟩⟩
  refine lp_sq (B := fun L' x => bX7_addTimes_34 (nI (I + m)) (nI L) (nI wk) f Post L' x.1 x.2) (fun k => (nI k, sB S 20 (rgn I (m + k) (adG R0 I G) R0))) wk (fun k L' hk hL => ?_) (fun L' => ?_) rfl
  · unfold bX7_addTimes_34
    rw [nI_add (I + m) k, nI_add L k]
    refine ⟨fun c => absurd c (nI_ge hk (by omega)), fun _ => ⟨vp_in_nI (by omega) (by omega), vp_in_nI (by omega) (by omega), vp_in_nI (by omega) (by omega), ?_⟩⟩
    simp only [forall_eq]
    rw [nI_clamp (n := I + m + k) (by omega), nI_clamp (n := L + k) (by omega), uB_s, sB_sB, gB_sB, if_pos rfl, nI_1, rgn_out (q := I + m + k) (by omega), rgn_out (q := L + k) (by omega), hf k hk]
    have e : vp_updL (rgn I (m + k) (adG R0 I G) R0) (I + (m + k)) (adG R0 I G (I + (m + k))) = rgn I (m + k + 1) (adG R0 I G) R0 := rgn_s
    unfold adG at e
    rw [Nat.add_sub_cancel_left, ← Nat.add_assoc] at e
    unfold adG
    rw [e]
    exact hL
  · unfold bX7_addTimes_34
    exact ⟨fun _ => hq, fun c => absurd (nI_le (Nat.le_refl _) (by omega)) c⟩
theorem key_le {h m wi wj wk : Nat} (hh : h < wi) (hm : m < wj) : (h * wj + m) * wk + wk ≤ wi * wj * wk := by
  have e : (h * wj + m) * wk + wk = (h * wj + m + 1) * wk := by rw [Nat.add_mul (h * wj + m) 1, Nat.one_mul]
  rw [e]
  refine Nat.mul_le_mul_right wk ?_
  have h1 : (h + 1) * wj ≤ wi * wj := Nat.mul_le_mul_right wj (by omega)
  rw [Nat.add_mul, Nat.one_mul] at h1
  omega
theorem c_addL {S : gS} {R0 : Nat → Int64} {G : Nat → Nat} {I H M L wi wj wk : Nat} (hI : I + wi * wj * wk ≤ 10930) (hH : H + wi ≤ 10930) (hM : M + wj ≤ 10930) (hLl : L + wk ≤ 10930)
    (dH : H + wi ≤ I ∨ I + wi * wj * wk ≤ H) (dM : M + wj ≤ I ∨ I + wi * wj * wk ≤ M) (dL : L + wk ≤ I ∨ I + wi * wj * wk ≤ L) (hv : ∀ h m r, h < wi → m < wj → r < wk → nL (G ((h * wj + m) * wk + r)) = R0 (H + h) * R0 (M + m) * R0 (L + r))
    {Post : gS → Prop} (hq : Post (sB S 20 (rgn I (wi * wj * wk) (adG R0 I G) R0))) : ∃ n, lp (fun L' x => bX7_addWords_128 Post (nI M) (nI L) (nI (H + wi)) (nI (M + wj)) (nI wk) L' x.1 x.2.1 x.2.2) n (nI I, nI H, sB S 20 R0) := by
  refine lp_sq (B := fun L' x => bX7_addWords_128 Post (nI M) (nI L) (nI (H + wi)) (nI (M + wj)) (nI wk) L' x.1 x.2.1 x.2.2) (fun h => (nI (I + h * wj * wk), nI (H + h), sB S 20 (rgn I (h * wj * wk) (adG R0 I G) R0))) wi (fun h L2 hh hL2 => ?_) (fun L2 => ?_) ?_
  · unfold bX7_addWords_128
    refine ⟨fun c => absurd c (nI_ge (by omega) (by omega)), fun _ => ⟨fun c => absurd c (nI_ge (b := 10930) (by omega) (by omega)), fun _ => ?_⟩⟩
    refine lp_sq (B := fun L' x => bX7_addWords_149 (nI L) (nI (M + wj)) (nI wk) (nI (H + h)) L2 L' x.1 x.2.1 x.2.2) (fun m => (nI (I + (h * wj + m) * wk), nI (M + m), sB S 20 (rgn I ((h * wj + m) * wk) (adG R0 I G) R0))) wj (fun m L3 hm hL3 => ?_) (fun L3 => ?_) rfl
    · have hk := key_le (wk := wk) hh hm
      have hv' := fun r hr => hv h m r hh hm hr
      have e : (h * wj + (m + 1)) * wk = (h * wj + m) * wk + wk := by rw [← Nat.add_assoc, Nat.add_mul (h * wj + m) 1, Nat.one_mul]
      have hL4 : L3 (nI (I + ((h * wj + m) * wk + wk)), nI (M + m + 1), sB S 20 (rgn I ((h * wj + m) * wk + wk) (adG R0 I G) R0)) := by
        rw [← e]
        exact hL3
      unfold bX7_addWords_149
      revert hk hL4 hv'
      dsimp only
      generalize (h * wj + m) * wk = K
      intro hk hv' hL4
      refine ⟨fun c => absurd c (nI_ge (by omega) (by omega)), fun _ => ⟨fun c => absurd c (nI_ge (b := 10930) (by omega) (by omega)), fun _ => ⟨vp_in_nI (by omega) (by omega), ?_⟩⟩⟩
      simp only [forall_eq]
      rw [nI_clamp (n := H + h) (by omega), nI_clamp (n := M + m) (by omega), gB_sB, if_pos rfl, rgn_out (q := H + h) (by omega), rgn_out (q := M + m) (by omega), nI_add (I + K) wk, nI_1, Nat.add_assoc I K wk]
      have sk : (∀ r, r < wk → nL (G (K + r)) = 0) → L3 (nI (I + (K + wk)), nI (M + m + 1), sB S 20 (rgn I K (adG R0 I G) R0)) := fun z => by
        rw [rgn_z (w := wk)]
        · exact hL4
        · intro r hr
          unfold adG
          rw [show I + K + r - I = K + r by omega, z r hr, Int64.add_zero]
      refine ⟨fun c => sk (fun r hr => ?_), fun c => ⟨vp_in_nI (by omega) (by omega), fun c2 => sk (fun r hr => ?_), fun c2 => ⟨vp_in_nI (by omega) (by omega), vp_in_nI (by omega) (by omega), ?_⟩⟩⟩
      · rw [cmp_eq] at c
        rw [hv' r hr, c, Int64.zero_mul, Int64.zero_mul]
      · rw [cmp_eq] at c2
        rw [hv' r hr, c2, Int64.mul_zero, Int64.zero_mul]
      · refine c_addT (by omega) (by omega) (by omega) (fun r hr => (hv' r hr).symm) ?_
        exact hL4
    · unfold bX7_addWords_149
      refine ⟨fun _ => ?_, fun c => absurd (nI_le (Nat.le_refl _) (by omega)) c⟩
      simp only [forall_eq]
      rw [nI_1, show h * wj + wj = (h + 1) * wj by rw [Nat.add_mul, Nat.one_mul]]
      exact hL2
  · unfold bX7_addWords_128
    exact ⟨fun _ => hq, fun c => absurd (nI_le (Nat.le_refl _) (by omega)) c⟩
  · show (nI I, nI H, sB S 20 R0) = (nI (I + 0 * wj * wk), nI (H + 0), sB S 20 (rgn I (0 * wj * wk) _ _))
    rw [Nat.zero_mul, Nat.zero_mul, Nat.add_zero, Nat.add_zero, rgn_0]
def wA (n t P : Nat) (F : Nat → Int32) (R : Nat → Int64) (z : Nat) : Prop := ∀ len a key, 1 ≤ len → len ≤ z → a < n → key < t ^ len → R (a * 1093 + plW len + key) = nL (TT (fitW (dig t len key)) P F len 0 (nI a))
def wR (n t P : Nat) (F : Nat → Int32) (R : Nat → Int64) (z : Nat) : Prop := wA n t P F R z ∧ (∀ u v, u < 3 → v < 3 → R ((6 + u) * 1093 + 1 + v) = if u = v then 1 else 0) ∧ R 9837 = 1
theorem wR.out {n t P : Nat} {F : Nat → Int32} {R R' : Nat → Int64} {z a0 len : Nat} (hn : n ≤ 6) (ht : t ≤ 3) (h : wR n t P F R z) (hz : z < len) (hl : len ≤ 6) (ha : a0 < 6) (ho : ∀ q, ¬ (a0 * 1093 + plW len ≤ q ∧ q < a0 * 1093 + plW len + t ^ len) → R' q = R q) : wR n t P F R' z := by
  obtain ⟨h1, h2, h3⟩ := h
  have p1 := pow3 (l := len) ht
  have p2 := pl_le len (by omega)
  refine ⟨fun l a key g1 g2 g3 g4 => ?_, fun u v hu hv => ?_, ?_⟩
  · have q1 := pow3 (l := l) ht
    have q2 := pl_le l (by omega)
    have q3 := pl_lt l (by omega) len (by omega) (by omega)
    rw [ho _ (by omega)]
    exact h1 l a key g1 g2 g3 g4
  · rw [ho _ (by omega)]
    exact h2 u v hu hv
  · rw [ho _ (by omega)]
    exact h3
theorem wv {n t P : Nat} {F : Nat → Int32} {R : Nat → Int64} {z b l K : Nat} {c : Int32} (hn : n ≤ 6) (ht : t ≤ 3) (hR : wR n t P F R z) (hc : c = -1 ∨ isS n t c) (hnz : vl fitL (TT fitL P F) l b c ≠ 0) (hz : isN n c → l ≤ z) (hK : K < t ^ l) : R (rwN c * 1093 + plW l + K) = nL (vl (fitW (dig t l K)) (TT (fitW (dig t l K)) P F) l 0 c) := by
  rcases hc with g | g | g
  · subst g
    rw [vl_m1] at hnz ⊢
    by_cases e : l = 0
    · subst e
      rw [Nat.pow_zero] at hK
      rw [show K = 0 by omega, if_pos rfl]
      exact hR.2.2
    · rw [if_neg e] at hnz
      exact absurd rfl hnz
  · rw [vl_N hn g] at hnz ⊢
    obtain ⟨a, ha, ea, er⟩ := rw_N hn g
    by_cases e : l = 0
    · rw [if_pos e] at hnz
      exact absurd rfl hnz
    · rw [if_neg e, er, ea]
      exact hR.1 l a K (by omega) (hz g) ha hK
  · rw [vl_T (isT_ge g)] at hnz ⊢
    obtain ⟨u, hu, eu, er⟩ := rw_T ht g
    by_cases e : l = 1
    · subst e
      rw [Nat.pow_one] at hK
      rw [er]
      have h2 := hR.2.1 u K (by omega) (by omega)
      rw [show plW 1 = 1 from rfl, h2]
      have e2 : dig t 1 K 0 = nI K := by
        unfold dig
        rw [show 1 - 1 - 0 = 0 from rfl, Nat.pow_zero, Nat.div_one, Nat.mod_eq_of_lt hK]
      have e3 : c - 10 = nI u := by rw [eu, i_10, nI_sub (by omega), Nat.add_sub_cancel_left]
      by_cases d : u = K
      · rw [if_pos d, if_pos ⟨rfl, decide_eq_true (by rw [e2, e3, d])⟩]
        rfl
      · rw [if_neg d, if_neg (fun x => ?_)]
        · rfl
        · have := of_decide_eq_true x.2
          rw [e2, e3, nI_eq (by omega) (by omega)] at this
          exact d this.symm
    · rw [if_neg (fun x => e x.1)] at hnz
      exact absurd rfl hnz
theorem dj {t a0 len l r : Nat} (ht : t ≤ 3) (ha : a0 < 6) (hlen : len ≤ 6) (hl : l ≤ 6) (hr : r < 6 → l < len) : r * 1093 + plW l + t ^ l ≤ a0 * 1093 + plW len ∨ a0 * 1093 + plW len + t ^ len ≤ r * 1093 + plW l := by
  have p1 := pow3 (l := len) ht
  have p2 := pl_le len (by omega)
  have q1 := pow3 (l := l) ht
  have q2 := pl_le l (by omega)
  rcases Nat.lt_trichotomy r a0 with g | g | g
  · left; omega
  · have q3 := pl_lt l (by omega) len (by omega) (hr (by omega))
    left; omega
  · right; omega
theorem c_addW {S : gS} {n t st P : Nat} (h1 : cG S n t st P) (ok : okP n t P (gA S 10)) {p i j k z : Nat} (hp : p < P) (hlen : i + j + k ≤ 6) (hnz : pr fitL (TT fitL P (gA S 10)) (gA S 10) p (i + j + k) 0 i j ≠ 0) (hR : wR n t P (gA S 10) (gB S 20) z) (hz : i + j + k ≤ z + 1)
    {Post : gS → Prop} (hq : Post (sB S 20 (rgn (rwN (gA S 10 (4 * p)) * 1093 + plW (i + j + k)) (t ^ (i + j + k)) (adG (gB S 20) (rwN (gA S 10 (4 * p)) * 1093 + plW (i + j + k)) (fun K => pr (fitW (dig t (i + j + k) K)) (TT (fitW (dig t (i + j + k) K)) P (gA S 10)) (gA S 10) p (i + j + k) 0 i j)) (gB S 20)))) : pX7_addWords (nI p) (nI (i + j + k)) (nI i) (nI j) S Post := by
  have hn : n ≤ 6 := h1.2.2.2.2.2.1
  have t1 : 1 ≤ t := h1.2.2.2.2.2.2.1
  have t3 : t ≤ 3 := h1.2.2.2.2.2.2.2.1
  have e2 : gI S 2 = nI t := h1.2.1
  obtain ⟨hl, hx, hyz⟩ := ok.1 p hp
  have ky := ok.k (k := 2) hp (by decide) (by decide)
  have kz := ok.k (k := 3) hp (by decide) (by decide)
  have hnz' := hnz
  unfold pr at hnz'
  have nx : vl fitL (TT fitL P (gA S 10)) i 0 (gA S 10 (4 * p + 1)) ≠ 0 := fun e => hnz' (by rw [e, Nat.zero_mul])
  have ny : vl fitL (TT fitL P (gA S 10)) j (0 + i) (gA S 10 (4 * p + 2)) ≠ 0 := fun e => hnz' (by rw [e, Nat.zero_mul, Nat.mul_zero])
  have nz : vl fitL (TT fitL P (gA S 10)) (i + j + k - i - j) (0 + i + j) (gA S 10 (4 * p + 3)) ≠ 0 := fun e => hnz' (by rw [e, Nat.mul_zero, Nat.mul_zero])
  rw [show i + j + k - i - j = k by omega] at nz
  have i1 : 1 ≤ i := by
    refine Classical.byContradiction (fun d => nx ?_)
    rw [show i = 0 by omega]
    exact vl_0 hn hx
  have kx : isN n (gA S 10 (4 * p + 1)) → i < i + j + k := by
    intro d
    rcases hyz with ⟨-, -, hx'⟩ | ⟨hy, -⟩
    · exact absurd d hx'
    · have : ¬ j = 0 := fun e => ny (by rw [e]; exact vl_0 hn hy)
      omega
  unfold pX7_addWords
  simp only [forall_eq]
  rw [nI_sub (show i ≤ i + j + k by omega), nI_sub (show j ≤ i + j + k - i by omega), show i + j + k - i - j = k by omega]
  refine c_sym (k := 0) h1 hp (by decide) (c_bg hn t3 (Or.inr (Or.inl hl)) hlen ?_)
  refine c_sym (k := 1) h1 hp (by decide) (c_bg hn t3 (Or.inr hx) (by omega) ?_)
  refine c_sym (k := 2) h1 hp (by decide) (c_bg hn t3 ky (by omega) ?_)
  refine c_sym (k := 3) h1 hp (by decide) (c_bg hn t3 kz (by omega) ?_)
  obtain ⟨a0, ha0, ea0, er0⟩ := rw_N hn hl
  have rx := rw_lt hn t3 (Or.inr hx)
  have ry := rw_lt hn t3 ky
  have rz := rw_lt hn t3 kz
  have dx := dj (t := t) (a0 := a0) (len := i + j + k) (l := i) t3 (by omega) hlen (by omega) (fun d => kx (rx.2 d))
  have dy := dj (t := t) (a0 := a0) (len := i + j + k) (l := j) t3 (by omega) hlen (by omega) (fun d => show j < i + j + k by omega) (r := rwN (gA S 10 (4 * p + 2)))
  have dz := dj (t := t) (a0 := a0) (len := i + j + k) (l := k) t3 (by omega) hlen (by omega) (fun d => show k < i + j + k by omega) (r := rwN (gA S 10 (4 * p + 3)))
  have p1 := pow3 (l := i + j + k) t3
  have p2 := pl_le (i + j + k) (by omega)
  have x1 := pow3 (l := i) t3
  have x2 := pl_le i (by omega)
  have y1 := pow3 (l := j) t3
  have y2 := pl_le j (by omega)
  have z1 := pow3 (l := k) t3
  have z2 := pl_le k (by omega)
  have ew : t ^ i * t ^ j * t ^ k = t ^ (i + j + k) := by rw [Nat.pow_add, Nat.pow_add]
  have hv : ∀ h m r, h < t ^ i → m < t ^ j → r < t ^ k → nL ((fun K => pr (fitW (dig t (i + j + k) K)) (TT (fitW (dig t (i + j + k) K)) P (gA S 10)) (gA S 10) p (i + j + k) 0 i j) ((h * t ^ j + m) * t ^ k + r)) = gB S 20 (rwN (gA S 10 (4 * p + 1)) * 1093 + plW i + h) * gB S 20 (rwN (gA S 10 (4 * p + 2)) * 1093 + plW j + m) * gB S 20 (rwN (gA S 10 (4 * p + 3)) * 1093 + plW k + r) := by
    intro h m r hh hm hr
    show nL (pr _ _ _ _ _ _ _ _) = _
    rw [pr_key hn t1 ok hm hr, wv hn t3 hR (Or.inr hx) nx (fun d => by have := kx d; omega) hh, wv hn t3 hR ky ny (fun _ => by omega) hm, wv hn t3 hR kz nz (fun _ => by omega) hr, nL_mul, nL_mul, Nat.mul_assoc]
  have er : rwN (gA S 10 (4 * p + 0)) = a0 := er0
  have hq' := hq
  rw [er0] at hq'
  rw [er0]
  refine ⟨fun d => absurd d (nI_pos (by omega)), fun _ => ⟨fun d => absurd d (nI_pos (by omega)), fun _ => ⟨fun d => absurd d (nI_pos (by omega)), fun _ => ⟨fun _ => ?_, fun d => absurd (nI_pos' (by omega)) d⟩⟩⟩⟩
  refine c_ol e2 t1 t3 (by omega) (c_ol e2 t1 t3 (by omega) (c_ol e2 t1 t3 (by omega) ?_))
  rw [nI_add, nI_add]
  have core := c_addL (S := S) (R0 := gB S 20) (G := fun K => pr (fitW (dig t (i + j + k) K)) (TT (fitW (dig t (i + j + k) K)) P (gA S 10)) (gA S 10) p (i + j + k) 0 i j) (I := a0 * 1093 + plW (i + j + k)) (H := rwN (gA S 10 (4 * p + 1)) * 1093 + plW i) (M := rwN (gA S 10 (4 * p + 2)) * 1093 + plW j) (L := rwN (gA S 10 (4 * p + 3)) * 1093 + plW k) (wi := t ^ i) (wj := t ^ j) (wk := t ^ k) (by omega) (by omega) (by omega) (by omega) (by rw [ew]; exact dx) (by rw [ew]; exact dy) (by rw [ew]; exact dz) hv (Post := Post) (by rw [ew]; exact hq')
  rw [sB_id] at core
  exact core
end
