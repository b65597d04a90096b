/-! THE MATHEMATICS, 12: the class's counts, by lengths (5) and by spans (6); printed by wip/whole/gen/counts81.py. -/
def r5 (n P : Nat) (F : Nat → Int32) (R : Nat → Int64) (z : Nat) : Prop := ∀ l a, 1 ≤ l → l ≤ z → a < n → R ((l - 1) * 6 + a) = nL (TT fitL P F l 0 (nI a))
def r6 (n P : Nat) (F W : Nat → Int32) (w : Nat) (R : Nat → Int64) (z : Nat) : Prop := ∀ l b a, 1 ≤ l → l ≤ z → b + l ≤ w → a < n → R (((l - 1) * 8 + b) * 6 + a) = nL (TT (fitW W) P F l b (nI a))
def H5 (S : gS) (n t st P z : Nat) : Prop := cG S n t st P ∧ okP n t P (gA S 10) ∧ z ≤ 10 ∧ r5 n P (gA S 10) (gB S 18) z
def H6 (S : gS) (n t st P w z : Nat) : Prop := cG S n t st P ∧ okP n t P (gA S 10) ∧ w ≤ 8 ∧ r6 n P (gA S 10) (gA S 13) w (gB S 19) z
theorem nI_neg {a : Nat} (h : a < 2 ^ 31) : ¬ nI a < 0 := nI_pos h
theorem isN_nI {n : Nat} {c : Int32} (h : isN n c) : ∃ a : Nat, a < n ∧ c = nI a := by
  obtain ⟨h1, h2⟩ := h
  obtain ⟨j, hj, e⟩ := nI_of' (x := c) h1
  rw [e, nI_toInt hj] at h2
  exact ⟨j, by omega, e⟩
theorem nI_isN {n a : Nat} (hn : n < 2 ^ 31) (h : a < n) : isN n (nI a) := by
  unfold isN
  rw [nI_toInt (by omega)]
  omega
def tlv (fit : Nat → Int32 → Bool) (T : Nat → Nat → Int32 → Nat) (F : Nat → Int32) (p len b i j : Nat) : Nat := vl fit T j (b + i) (F (4 * p + 2)) * vl fit T (len - i - j) (b + i + j) (F (4 * p + 3))
def sF (fit : Nat → Int32 → Bool) (T : Nat → Nat → Int32 → Nat) (F : Nat → Int32) (p len b i : Nat) : Nat := sN (fun j => pj fit T F p len b i j) (len + 1)
section SF
variable {fit : Nat → Int32 → Bool} {T : Nat → Nat → Int32 → Nat} {n t P : Nat} {F : Nat → Int32} {p len b i : Nat}
theorem sF_a (hy : F (4 * p + 2) = -1) (hz : F (4 * p + 3) = -1) (hi : i < len) : sF fit T F p len b i = 0 := by
  refine sN_zero (fun j hj => ?_)
  unfold pj pr
  rw [hy, hz, vl_m1, vl_m1]
  by_cases hij : i + j ≤ len
  · rw [if_pos hij]
    by_cases hj0 : j = 0
    · rw [if_neg (c := len - i - j = 0) (by omega), Nat.mul_zero, Nat.mul_zero]
    · rw [if_neg hj0, Nat.zero_mul, Nat.mul_zero]
  · rw [if_neg hij]
theorem sF_e (hn : n ≤ 6) (hy : isS n t (F (4 * p + 2))) (hi : i = len) : sF fit T F p len b i = 0 := by
  refine sN_zero (fun j hj => ?_)
  unfold pj pr
  by_cases hij : i + j ≤ len
  · rw [if_pos hij, show j = 0 by omega, vl_0 (b := b + i) hn hy, Nat.zero_mul, Nat.mul_zero]
  · rw [if_neg hij]
theorem sF_z (hz : F (4 * p + 3) = -1) (hi : i ≤ len) : sF fit T F p len b i = vl fit T i b (F (4 * p + 1)) * tlv fit T F p len b i (len - i) := by
  refine (sN_one (k := len - i) (by omega) (fun j hj hne => ?_)).trans ?_
  · unfold pj pr
    by_cases hij : i + j ≤ len
    · rw [if_pos hij, hz, vl_m1, if_neg (by omega), Nat.mul_zero, Nat.mul_zero]
    · rw [if_neg hij]
  · unfold pj
    rw [if_pos (by omega)]
    rfl
theorem sF_t (hn : n ≤ 6) (hy : isS n t (F (4 * p + 2))) (hz : isS n t (F (4 * p + 3))) (hi : i < len) : sF fit T F p len b i = vl fit T i b (F (4 * p + 1)) * sN (fun v => tlv fit T F p len b i (1 + v)) (len - i - 1) := by
  unfold sF
  rw [show len + 1 = 1 + ((len - i - 1) + (1 + i)) by omega, sN_split, sN_split, sN_zero (f := fun v => pj fit T F p len b i (1 + (len - i - 1 + v))) (fun v hv => ?_), sN_zero (n := 1) (fun j hj => ?_), Nat.zero_add, Nat.add_zero, ← sN_mul]
  · refine sN_congr (fun v hv => ?_)
    unfold pj
    rw [if_pos (by omega)]
    rfl
  · unfold pj pr
    rw [show j = 0 by omega, vl_0 (b := b + i) hn hy, Nat.zero_mul, Nat.mul_zero, ite_self]
  · show pj fit T F p len b i (1 + (len - i - 1 + v)) = 0
    unfold pj pr
    by_cases hij : i + (1 + (len - i - 1 + v)) ≤ len
    · rw [if_pos hij, show len - i - (1 + (len - i - 1 + v)) = 0 by omega, vl_0 hn hz, Nat.mul_zero, Nat.mul_zero]
    · rw [if_neg hij]
theorem sF_0 (hn : n ≤ 6) (hx : isS n t (F (4 * p + 1))) : sF fit T F p len b 0 = 0 := by
  refine sN_zero (fun j hj => ?_)
  unfold pj pr
  rw [vl_0 (b := b) hn hx, Nat.zero_mul, ite_self]
theorem tp_s (hn : n ≤ 6) (hx : isS n t (F (4 * p + 1))) : tp fit T F p len b = sN (fun u => sF fit T F p len b (1 + u)) len := by
  have e : tp fit T F p len b = sN (fun i => sF fit T F p len b i) (len + 1) := rfl
  rw [e, Nat.add_comm, sN_split]
  show (0 + sF fit T F p len b 0) + _ = _
  rw [sF_0 hn hx, Nat.zero_add]
end SF
theorem c_cnt5 {S : gS} {n t st P z : Nat} (h : H5 S n t st P z) {c : Int32} {l b : Nat} {k : Int32} (hc : c = -1 ∨ isS n t c) (hl : isN n c → l ≤ z) (hl2 : l < 2 ^ 31) {Post : Int64 → Prop} (hq : Post (nL (vl fitL (TT fitL P (gA S 10)) l b c))) : pX0_count_5 c (nI l) k S Post := by
  obtain ⟨h1, ok, hz, hR⟩ := h
  have hn : n ≤ 6 := h1.2.2.2.2.2.1
  unfold pX0_count_5 pX2_place pX2_fits
  simp only [forall_eq]
  refine ⟨fun c1 => ⟨fun c2 => ⟨fun c3 => ?_, fun c3 => ⟨fun c4 => ?_, fun c4 => ⟨fun c5 => absurd c5 (by decide), fun _ => ?_⟩⟩⟩, fun c2 => ?_⟩, fun c1 => ⟨fun c2 => ?_, fun c2 => ?_⟩⟩
  · have hN : isN n c := by
      rcases hc.resolve_left c1 with g | g
      · exact g
      · exact absurd (isT_ge g) (by rw [lt_i, t_10] at c3; rw [le_i, t_10]; omega)
    have hlz := hl hN
    rw [vl_N hn hN] at hq
    obtain ⟨a, ha, ea⟩ := isN_nI hN
    rw [i_1, nI_leI (by omega) hl2] at c2
    rw [if_neg (by omega)] at hq
    have e : (nI l - 1) * 6 + c = nI ((l - 1) * 6 + a) := by rw [ea, i_1, nI_sub c2, i_6, nI_mul, nI_add]
    rw [e]
    refine ⟨fun d => absurd d (nI_neg (by omega)), fun _ => ⟨fun d => absurd d (nI_ge (b := 60) (by omega) (by omega)), fun _ => ⟨vp_in_nI (by omega) (by omega), ?_⟩⟩⟩
    rw [nI_clamp (by omega), hR l a c2 hlz ha, TT_L hn ok (b' := b), ← ea]
    exact hq
  · rw [vl_T (by rw [lt_i, t_10] at c3; rw [le_i, t_10]; omega), if_neg (fun e => c4 (by rw [e.1]; rfl))] at hq
    exact hq
  · rw [i_1, nI_eq hl2 (by omega)] at c4
    rw [vl_T (by rw [lt_i, t_10] at c3; rw [le_i, t_10]; omega), if_pos ⟨c4, rfl⟩] at hq
    exact hq
  · have e : l = 0 := by rw [i_1, nI_leI (by omega) hl2] at c2; omega
    rw [e, vl_0 hn (hc.resolve_left c1)] at hq
    exact hq
  · rw [c1, vl_m1, if_neg (fun e => c2 (by rw [e]; rfl))] at hq
    exact hq
  · rw [i_0, nI_eq hl2 (by omega)] at c2
    rw [c1, vl_m1, if_pos c2] at hq
    exact hq
theorem c_cnt6 {S : gS} {n t st P w z : Nat} (h : H6 S n t st P w z) {c : Int32} {l b : Nat} (hc : c = -1 ∨ isS n t c) (hl : isN n c → l ≤ z) (hl2 : l < 2 ^ 31) (hb : b + l ≤ w) {Post : Int64 → Prop} (hq : Post (nL (vl (fitW (gA S 13)) (TT (fitW (gA S 13)) P (gA S 10)) l b c))) : pX0_count_6 c (nI l) (nI b) S Post := by
  obtain ⟨h1, ok, hw, hR⟩ := h
  have hn : n ≤ 6 := h1.2.2.2.2.2.1
  unfold pX0_count_6 pX4_place pX4_fits
  simp only [forall_eq]
  refine ⟨fun c1 => ⟨fun c2 => ⟨fun c3 => ?_, fun c3 => ⟨fun c4 => ?_, fun c4 => ⟨fun c5 => absurd c5 (nI_neg (by omega)), fun _ => ⟨fun c5 => ?_, fun c5 => ?_⟩⟩⟩⟩, fun c2 => ?_⟩, fun c1 => ⟨fun c2 => ?_, fun c2 => ?_⟩⟩
  · have hN : isN n c := by
      rcases hc.resolve_left c1 with g | g
      · exact g
      · exact absurd (isT_ge g) (by rw [lt_i, t_10] at c3; rw [le_i, t_10]; omega)
    have hlz := hl hN
    rw [vl_N hn hN] at hq
    obtain ⟨a, ha, ea⟩ := isN_nI hN
    rw [i_1, nI_leI (by omega) hl2] at c2
    rw [if_neg (by omega)] at hq
    have e : ((nI l - 1) * 8 + nI b) * 6 + c = nI (((l - 1) * 8 + b) * 6 + a) := by rw [ea, i_1, nI_sub c2, i_6, i_8, nI_mul, nI_add, nI_mul, nI_add]
    rw [e]
    refine ⟨fun d => absurd d (nI_neg (by omega)), fun _ => ⟨fun d => absurd d (nI_ge (b := 384) (by omega) (by omega)), fun _ => ⟨vp_in_nI (by omega) (by omega), ?_⟩⟩⟩
    rw [nI_clamp (by omega), hR l b a c2 hlz hb ha, ← ea]
    exact hq
  · rw [vl_T (by rw [lt_i, t_10] at c3; rw [le_i, t_10]; omega), if_neg (fun e => c4 (by rw [e.1]; rfl))] at hq
    exact hq
  · rw [i_1, nI_eq hl2 (by omega)] at c4
    rw [i_8, nI_leI (by omega) (by omega)] at c5
    omega
  · rw [i_1, nI_eq hl2 (by omega)] at c4
    have hv := vl_T (fit := fitW (gA S 13)) (T := TT (fitW (gA S 13)) P (gA S 10)) (len := l) (b := b) (c := c) (by rw [lt_i, t_10] at c3; rw [le_i, t_10]; omega)
    refine ⟨vp_in_nI (by omega) (by omega), ?_⟩
    rw [nI_clamp (by omega)]
    refine ⟨fun d => ⟨fun _ => ?_, fun d => absurd trivial d⟩, fun d => ⟨fun d => absurd d (by decide), fun _ => ?_⟩⟩
    · rw [hv, if_neg (fun e => d (of_decide_eq_true e.2))] at hq
      exact hq
    · rw [hv, if_pos ⟨c4, decide_eq_true d⟩] at hq
      exact hq
  · have e : l = 0 := by rw [i_1, nI_leI (by omega) hl2] at c2; omega
    rw [e, vl_0 hn (hc.resolve_left c1)] at hq
    exact hq
  · rw [c1, vl_m1, if_neg (fun e => c2 (by rw [e]; rfl))] at hq
    exact hq
  · rw [i_0, nI_eq hl2 (by omega)] at c2
    rw [c1, vl_m1, if_pos c2] at hq
    exact hq
theorem c_tl5 {S : gS} {n t st P  z : Nat} (h : H5 S n t st P z) {p len b i j : Nat} {k : Int32} (hp : p < P) (hij : i + j ≤ len) (hlen : len < 2 ^ 20)  (hz1 : j ≤ z) (hz2 : len - i - j ≤ z) {Post : Int64 → Prop} (hq : Post (nL (tlv fitL (TT fitL P (gA S 10)) (gA S 10) p len b i j))) : pX0_tailsOf_5 (nI p) (nI len) k (nI i) (nI j) S Post := by
  unfold pX0_tailsOf_5 pX2_part
  refine c_sym (k := 2) h.1 hp (by decide) ?_
  skip
  refine c_cnt5 (b := b + i) h (h.2.1.k (k := 2) hp (by decide) (by decide)) (fun _ => hz1) (by omega)  ?_
  simp only [forall_eq]
  refine ⟨fun _ => ?_, fun c => ?_⟩
  · refine c_sym (k := 3) h.1 hp (by decide) ?_
    show pX0_count_5 _ (nI len - (nI i + nI j)) _ S _
    rw [nI_add i j, nI_sub hij, Nat.sub_add_eq]
    skip
    refine c_cnt5 (b := b + i + j) h (h.2.1.k (k := 3) hp (by decide) (by decide)) (fun _ => hz2) (by omega)  ?_
    rw [nL_mul]
    exact hq
  · rw [cmp_eq] at c
    unfold tlv at hq
    rw [← nL_mul, c, Int64.zero_mul] at hq
    exact hq
theorem c_os5 {S : gS} {n t st P  z : Nat} (h : H5 S n t st P z) {p len b i j : Nat} {k : Int32} (hp : p < P) (hij : i + j ≤ len) (hlen : len < 2 ^ 20)  (hz0 : isN n (gA S 10 (4 * p + 1)) → i ≤ z) (hz1 : j ≤ z) (hz2 : len - i - j ≤ z) {Post : Int64 → Prop} (hq : Post (nL (pr fitL (TT fitL P (gA S 10)) (gA S 10) p len b i j))) : pX0_ofSecond_5 (nI p) (nI len) k (nI i) (nI j) S Post := by
  unfold pX0_ofSecond_5 pX2_part
  refine c_sym (k := 1) h.1 hp (by decide) ?_
  skip
  refine c_cnt5 (b := b) h (h.2.1.k (k := 1) hp (by decide) (by decide)) hz0 (by omega)  ?_
  refine c_tl5 h (b := b) hp hij hlen  hz1 hz2 ?_
  rw [nL_mul]
  exact hq
theorem c_of1255 {S : gS} {n t st P  z : Nat} (h : H5 S n t st P z) {p len b i lo hi : Nat} {k : Int32} {r : Int64} (hp : p < P) (hlo : lo ≤ hi + 1) (hhi : i + hi ≤ len) (hlen : len < 2 ^ 20)  (hz1 : hi ≤ z) (hz2 : len - i - lo ≤ z) {Post : Int64 → Prop} (hq : Post (r * nL (sN (fun v => tlv fitL (TT fitL P (gA S 10)) (gA S 10) p len b i (lo + v)) (hi + 1 - lo)))) : jX0_ofFirst_5_125 (nI p) (nI len) k (nI i) S Post r (nI hi) (nI lo) := by
  unfold jX0_ofFirst_5_125
  refine lp_seq (B := fun L x => bX0_ofFirst_5_127 (nI p) (nI len) k (nI i) S Post r (nI hi) L x.1 x.2) (fun k => (nL (sN (fun v => tlv fitL (TT fitL P (gA S 10)) (gA S 10) p len b i (lo + v)) k), nI (lo + k))) (hi + 1 - lo) (fun k L hk hL => ?_) (fun L => ?_)
  · unfold bX0_ofFirst_5_127
    refine ⟨fun c => absurd c (nI_nlt (by omega) (by omega)), fun _ => ?_⟩
    refine c_tl5 h (b := b) hp (by omega) hlen  (by omega) (by omega) ?_
    simp only [forall_eq]
    rw [nL_add, nI_1]
    exact hL
  · unfold bX0_ofFirst_5_127
    exact ⟨fun _ => hq, fun c => absurd (nI_lt (by omega) (by omega)) c⟩
theorem c_of385 {S : gS} {n t st P  z : Nat} (h : H5 S n t st P z) {p len b i : Nat} {k : Int32} {y : Int32} (hp : p < P) (hi1 : 1 ≤ i) (hi : i ≤ len) (hlen : len < 2 ^ 20)  (hz0 : isN n (gA S 10 (4 * p + 1)) → i ≤ z) (hz1 : len ≤ z + 1) (hc : gA S 10 (4 * p + 3) = -1 ∨ (isS n t (gA S 10 (4 * p + 2)) ∧ isS n t (gA S 10 (4 * p + 3)) ∧ i < len)) {Post : Int64 → Prop} (hq : Post (nL (sF fitL (TT fitL P (gA S 10)) (gA S 10) p len b i))) : jX0_ofFirst_5_38 (nI p) (nI len) k (nI i) S Post (nI (len - i)) y y := by
  have hn : n ≤ 6 := h.1.2.2.2.2.2.1
  unfold jX0_ofFirst_5_38 pX2_part
  refine ⟨fun _ => ?_, fun c => absurd rfl c⟩
  refine c_sym (k := 1) h.1 hp (by decide) ?_
  skip
  refine c_cnt5 (b := b) h (h.2.1.k (k := 1) hp (by decide) (by decide)) hz0 (by omega)  ?_
  refine ⟨fun _ => ?_, fun c => ?_⟩
  · refine c_sym (k := 3) h.1 hp (by decide) ?_
    rcases hc with hz | ⟨hy, hz, hil⟩
    · refine ⟨fun _ => ?_, fun c => absurd hz c⟩
      unfold jX0_ofFirst_5_93
      refine ⟨fun _ => ?_, fun c => absurd rfl c⟩
      unfold jX0_ofFirst_5_109
      refine ⟨fun _ => ?_, fun c => absurd rfl c⟩
      refine c_of1255 h (b := b) (lo := len - i) (hi := len - i) hp (by omega) (by omega) hlen  (by omega) (by omega) ?_
      rw [show len - i + 1 - (len - i) = 1 by omega, nL_mul]
      rw [sF_z hz hi] at hq
      show Post (nL (_ * (0 + tlv _ _ _ p len b i (len - i + 0))))
      rw [Nat.zero_add, Nat.add_zero]
      exact hq
    · refine ⟨fun c => absurd c (isS_m1 hz), fun _ => ?_⟩
      unfold jX0_ofFirst_5_93
      refine ⟨fun c => absurd c (by decide), fun _ => ?_⟩
      unfold jX0_ofFirst_5_109
      refine ⟨fun c => absurd c (by decide), fun _ => ?_⟩
      have e : nI (len - i) - 1 = nI (len - i - 1) := by rw [i_1, nI_sub (by omega)]
      rw [e]
      refine c_of1255 h (b := b) (lo := 1) (hi := len - i - 1) hp (by omega) (by omega) hlen  (by omega) (by omega) ?_
      rw [show len - i - 1 + 1 - 1 = len - i - 1 by omega, nL_mul]
      rw [sF_t hn hy hz hil] at hq
      exact hq
  · rw [cmp_eq] at c
    rcases hc with hz | ⟨hy, hz, hil⟩
    · rw [sF_z hz hi, ← nL_mul, c, Int64.zero_mul] at hq
      exact hq
    · rw [sF_t hn hy hz hil, ← nL_mul, c, Int64.zero_mul] at hq
      exact hq
theorem c_of5 {S : gS} {n t st P  z : Nat} (h : H5 S n t st P z) {p len b i : Nat} {k : Int32} (hp : p < P) (hi1 : 1 ≤ i) (hi : i ≤ len) (hlen : len < 2 ^ 20)  (hz1 : len ≤ z + 1) {Post : Int64 → Prop} (hq : Post (nL (sF fitL (TT fitL P (gA S 10)) (gA S 10) p len b i))) : pX0_ofFirst_5 (nI p) (nI len) k (nI i) S Post := by
  have hn : n ≤ 6 := h.1.2.2.2.2.2.1
  unfold pX0_ofFirst_5
  simp only [forall_eq]
  rw [nI_sub hi]
  refine c_sym (k := 2) h.1 hp (by decide) ?_
  obtain ⟨-, hx, hyz⟩ := h.2.1.1 p hp
  rcases hyz with ⟨hy, hz, hx'⟩ | ⟨hy, hz⟩
  · refine ⟨fun c => absurd hy c, fun _ => ?_⟩
    unfold jX0_ofFirst_5_24
    refine ⟨fun c => ?_, fun c => ?_⟩
    · unfold jX0_ofFirst_5_38
      refine ⟨fun c => absurd c (by decide), fun _ => ?_⟩
      have : i < len := by
        refine Classical.byContradiction (fun d => c ?_)
        rw [show len - i = 0 by omega]
        rfl
      rw [sF_a hy hz this] at hq
      exact hq
    · exact c_of385 h hp hi1 hi hlen  (fun d => absurd d hx') hz1 (Or.inl hz) hq
  · refine ⟨fun _ => ?_, fun c => absurd c (isS_m1 hy)⟩
    unfold jX0_ofFirst_5_24
    refine ⟨fun c => ?_, fun c => ?_⟩
    · have : i < len := by
        refine Classical.byContradiction (fun d => c ?_)
        rw [show len - i = 0 by omega]
        rfl
      exact c_of385 h hp hi1 hi hlen  (fun _ => by omega) hz1 (hz.imp id (fun g => ⟨hy, g, this⟩)) hq
    · unfold jX0_ofFirst_5_38
      refine ⟨fun c => absurd c (by decide), fun _ => ?_⟩
      rw [i_0, nI_eq (by omega) (by omega)] at c
      rw [sF_e hn hy (by omega)] at hq
      exact hq
theorem c_op5 {S : gS} {n t st P  z : Nat} (h : H5 S n t st P z) {p len b : Nat} {c : Int32} {k : Int32} (hp : p < P) (hlen : len < 2 ^ 20)  (hz1 : len ≤ z + 1) {Post : Int64 → Prop} (hq : Post (nL (if gA S 10 (4 * p) = c then tp fitL (TT fitL P (gA S 10)) (gA S 10) p len b else 0))) : pX0_ofProduction_5 c (nI p) (nI len) k S Post := by
  have hn : n ≤ 6 := h.1.2.2.2.2.2.1
  unfold pX0_ofProduction_5
  refine c_sym (k := 0) h.1 hp (by decide) ?_
  refine ⟨fun e => ?_, fun e => ?_⟩
  · have e : gA S 10 (4 * p) = c := e
    rw [if_pos e, tp_s hn (h.2.1.x hp)] at hq
    refine lp_seq (B := fun L x => bX0_ofProduction_5_21 (nI p) (nI len) k S Post L x.1 x.2) (fun k => (nL (sN (fun u => sF fitL (TT fitL P (gA S 10)) (gA S 10) p len b (1 + u)) k), nI (1 + k))) len (fun k L hk hL => ?_) (fun L => ?_)
    · unfold bX0_ofProduction_5_21
      refine ⟨fun d => absurd d (nI_nlt (by omega) (by omega)), fun _ => ?_⟩
      refine c_of5 h (b := b) hp (by omega) (by omega) hlen  hz1 ?_
      simp only [forall_eq]
      rw [nL_add, nI_1]
      exact hL
    · unfold bX0_ofProduction_5_21
      exact ⟨fun _ => hq, fun d => absurd (nI_lt (by omega) (by omega)) d⟩
  · have e : ¬ gA S 10 (4 * p) = c := e
    rw [if_neg e] at hq
    exact hq
theorem c_tl6 {S : gS} {n t st P w z : Nat} (h : H6 S n t st P w z) {p len b i j : Nat}  (hp : p < P) (hij : i + j ≤ len) (hlen : len < 2 ^ 20) (hb : b + len ≤ w) (hz1 : j ≤ z) (hz2 : len - i - j ≤ z) {Post : Int64 → Prop} (hq : Post (nL (tlv (fitW (gA S 13)) (TT (fitW (gA S 13)) P (gA S 10)) (gA S 10) p len b i j))) : pX0_tailsOf_6 (nI p) (nI len) (nI b) (nI i) (nI j) S Post := by
  unfold pX0_tailsOf_6 pX4_part
  refine c_sym (k := 2) h.1 hp (by decide) ?_
  show pX0_count_6 _ _ (nI b + nI i) S _
  rw [nI_add b i]
  refine c_cnt6 (b := b + i) h (h.2.1.k (k := 2) hp (by decide) (by decide)) (fun _ => hz1) (by omega) (by omega) ?_
  simp only [forall_eq]
  refine ⟨fun _ => ?_, fun c => ?_⟩
  · refine c_sym (k := 3) h.1 hp (by decide) ?_
    show pX0_count_6 _ (nI len - (nI i + nI j)) _ S _
    rw [nI_add i j, nI_sub hij, Nat.sub_add_eq]
    rw [nI_add, ← Nat.add_assoc]
    refine c_cnt6 (b := b + i + j) h (h.2.1.k (k := 3) hp (by decide) (by decide)) (fun _ => hz2) (by omega) (by omega) ?_
    rw [nL_mul]
    exact hq
  · rw [cmp_eq] at c
    unfold tlv at hq
    rw [← nL_mul, c, Int64.zero_mul] at hq
    exact hq
theorem c_os6 {S : gS} {n t st P w z : Nat} (h : H6 S n t st P w z) {p len b i j : Nat}  (hp : p < P) (hij : i + j ≤ len) (hlen : len < 2 ^ 20) (hb : b + len ≤ w) (hz0 : isN n (gA S 10 (4 * p + 1)) → i ≤ z) (hz1 : j ≤ z) (hz2 : len - i - j ≤ z) {Post : Int64 → Prop} (hq : Post (nL (pr (fitW (gA S 13)) (TT (fitW (gA S 13)) P (gA S 10)) (gA S 10) p len b i j))) : pX0_ofSecond_6 (nI p) (nI len) (nI b) (nI i) (nI j) S Post := by
  unfold pX0_ofSecond_6 pX4_part
  refine c_sym (k := 1) h.1 hp (by decide) ?_
  show pX0_count_6 _ _ (nI b + 0) S _
  rw [Int32.add_zero]
  refine c_cnt6 (b := b) h (h.2.1.k (k := 1) hp (by decide) (by decide)) hz0 (by omega) (by omega) ?_
  refine c_tl6 h (b := b) hp hij hlen hb hz1 hz2 ?_
  rw [nL_mul]
  exact hq
theorem c_of1256 {S : gS} {n t st P w z : Nat} (h : H6 S n t st P w z) {p len b i lo hi : Nat}  {r : Int64} (hp : p < P) (hlo : lo ≤ hi + 1) (hhi : i + hi ≤ len) (hlen : len < 2 ^ 20) (hb : b + len ≤ w) (hz1 : hi ≤ z) (hz2 : len - i - lo ≤ z) {Post : Int64 → Prop} (hq : Post (r * nL (sN (fun v => tlv (fitW (gA S 13)) (TT (fitW (gA S 13)) P (gA S 10)) (gA S 10) p len b i (lo + v)) (hi + 1 - lo)))) : jX0_ofFirst_6_125 (nI p) (nI len) (nI b) (nI i) S Post r (nI hi) (nI lo) := by
  unfold jX0_ofFirst_6_125
  refine lp_seq (B := fun L x => bX0_ofFirst_6_127 (nI p) (nI len) (nI b) (nI i) S Post r (nI hi) L x.1 x.2) (fun k => (nL (sN (fun v => tlv (fitW (gA S 13)) (TT (fitW (gA S 13)) P (gA S 10)) (gA S 10) p len b i (lo + v)) k), nI (lo + k))) (hi + 1 - lo) (fun k L hk hL => ?_) (fun L => ?_)
  · unfold bX0_ofFirst_6_127
    refine ⟨fun c => absurd c (nI_nlt (by omega) (by omega)), fun _ => ?_⟩
    refine c_tl6 h (b := b) hp (by omega) hlen hb (by omega) (by omega) ?_
    simp only [forall_eq]
    rw [nL_add, nI_1]
    exact hL
  · unfold bX0_ofFirst_6_127
    exact ⟨fun _ => hq, fun c => absurd (nI_lt (by omega) (by omega)) c⟩
theorem c_of386 {S : gS} {n t st P w z : Nat} (h : H6 S n t st P w z) {p len b i : Nat}  {y : Int32} (hp : p < P) (hi1 : 1 ≤ i) (hi : i ≤ len) (hlen : len < 2 ^ 20) (hb : b + len ≤ w) (hz0 : isN n (gA S 10 (4 * p + 1)) → i ≤ z) (hz1 : len ≤ z + 1) (hc : gA S 10 (4 * p + 3) = -1 ∨ (isS n t (gA S 10 (4 * p + 2)) ∧ isS n t (gA S 10 (4 * p + 3)) ∧ i < len)) {Post : Int64 → Prop} (hq : Post (nL (sF (fitW (gA S 13)) (TT (fitW (gA S 13)) P (gA S 10)) (gA S 10) p len b i))) : jX0_ofFirst_6_38 (nI p) (nI len) (nI b) (nI i) S Post (nI (len - i)) y y := by
  have hn : n ≤ 6 := h.1.2.2.2.2.2.1
  unfold jX0_ofFirst_6_38 pX4_part
  refine ⟨fun _ => ?_, fun c => absurd rfl c⟩
  refine c_sym (k := 1) h.1 hp (by decide) ?_
  show pX0_count_6 _ _ (nI b + 0) S _
  rw [Int32.add_zero]
  refine c_cnt6 (b := b) h (h.2.1.k (k := 1) hp (by decide) (by decide)) hz0 (by omega) (by omega) ?_
  refine ⟨fun _ => ?_, fun c => ?_⟩
  · refine c_sym (k := 3) h.1 hp (by decide) ?_
    rcases hc with hz | ⟨hy, hz, hil⟩
    · refine ⟨fun _ => ?_, fun c => absurd hz c⟩
      unfold jX0_ofFirst_6_93
      refine ⟨fun _ => ?_, fun c => absurd rfl c⟩
      unfold jX0_ofFirst_6_109
      refine ⟨fun _ => ?_, fun c => absurd rfl c⟩
      refine c_of1256 h (b := b) (lo := len - i) (hi := len - i) hp (by omega) (by omega) hlen hb (by omega) (by omega) ?_
      rw [show len - i + 1 - (len - i) = 1 by omega, nL_mul]
      rw [sF_z hz hi] at hq
      show Post (nL (_ * (0 + tlv _ _ _ p len b i (len - i + 0))))
      rw [Nat.zero_add, Nat.add_zero]
      exact hq
    · refine ⟨fun c => absurd c (isS_m1 hz), fun _ => ?_⟩
      unfold jX0_ofFirst_6_93
      refine ⟨fun c => absurd c (by decide), fun _ => ?_⟩
      unfold jX0_ofFirst_6_109
      refine ⟨fun c => absurd c (by decide), fun _ => ?_⟩
      have e : nI (len - i) - 1 = nI (len - i - 1) := by rw [i_1, nI_sub (by omega)]
      rw [e]
      refine c_of1256 h (b := b) (lo := 1) (hi := len - i - 1) hp (by omega) (by omega) hlen hb (by omega) (by omega) ?_
      rw [show len - i - 1 + 1 - 1 = len - i - 1 by omega, nL_mul]
      rw [sF_t hn hy hz hil] at hq
      exact hq
  · rw [cmp_eq] at c
    rcases hc with hz | ⟨hy, hz, hil⟩
    · rw [sF_z hz hi, ← nL_mul, c, Int64.zero_mul] at hq
      exact hq
    · rw [sF_t hn hy hz hil, ← nL_mul, c, Int64.zero_mul] at hq
      exact hq
theorem c_of6 {S : gS} {n t st P w z : Nat} (h : H6 S n t st P w z) {p len b i : Nat}  (hp : p < P) (hi1 : 1 ≤ i) (hi : i ≤ len) (hlen : len < 2 ^ 20) (hb : b + len ≤ w) (hz1 : len ≤ z + 1) {Post : Int64 → Prop} (hq : Post (nL (sF (fitW (gA S 13)) (TT (fitW (gA S 13)) P (gA S 10)) (gA S 10) p len b i))) : pX0_ofFirst_6 (nI p) (nI len) (nI b) (nI i) S Post := by
  have hn : n ≤ 6 := h.1.2.2.2.2.2.1
  unfold pX0_ofFirst_6
  simp only [forall_eq]
  rw [nI_sub hi]
  refine c_sym (k := 2) h.1 hp (by decide) ?_
  obtain ⟨-, hx, hyz⟩ := h.2.1.1 p hp
  rcases hyz with ⟨hy, hz, hx'⟩ | ⟨hy, hz⟩
  · refine ⟨fun c => absurd hy c, fun _ => ?_⟩
    unfold jX0_ofFirst_6_24
    refine ⟨fun c => ?_, fun c => ?_⟩
    · unfold jX0_ofFirst_6_38
      refine ⟨fun c => absurd c (by decide), fun _ => ?_⟩
      have : i < len := by
        refine Classical.byContradiction (fun d => c ?_)
        rw [show len - i = 0 by omega]
        rfl
      rw [sF_a hy hz this] at hq
      exact hq
    · exact c_of386 h hp hi1 hi hlen hb (fun d => absurd d hx') hz1 (Or.inl hz) hq
  · refine ⟨fun _ => ?_, fun c => absurd c (isS_m1 hy)⟩
    unfold jX0_ofFirst_6_24
    refine ⟨fun c => ?_, fun c => ?_⟩
    · have : i < len := by
        refine Classical.byContradiction (fun d => c ?_)
        rw [show len - i = 0 by omega]
        rfl
      exact c_of386 h hp hi1 hi hlen hb (fun _ => by omega) hz1 (hz.imp id (fun g => ⟨hy, g, this⟩)) hq
    · unfold jX0_ofFirst_6_38
      refine ⟨fun c => absurd c (by decide), fun _ => ?_⟩
      rw [i_0, nI_eq (by omega) (by omega)] at c
      rw [sF_e hn hy (by omega)] at hq
      exact hq
theorem c_op6 {S : gS} {n t st P w z : Nat} (h : H6 S n t st P w z) {p len b : Nat} {c : Int32}  (hp : p < P) (hlen : len < 2 ^ 20) (hb : b + len ≤ w) (hz1 : len ≤ z + 1) {Post : Int64 → Prop} (hq : Post (nL (if gA S 10 (4 * p) = c then tp (fitW (gA S 13)) (TT (fitW (gA S 13)) P (gA S 10)) (gA S 10) p len b else 0))) : pX0_ofProduction_6 c (nI p) (nI len) (nI b) S Post := by
  have hn : n ≤ 6 := h.1.2.2.2.2.2.1
  unfold pX0_ofProduction_6
  refine c_sym (k := 0) h.1 hp (by decide) ?_
  refine ⟨fun e => ?_, fun e => ?_⟩
  · have e : gA S 10 (4 * p) = c := e
    rw [if_pos e, tp_s hn (h.2.1.x hp)] at hq
    refine lp_seq (B := fun L x => bX0_ofProduction_6_21 (nI p) (nI len) (nI b) S Post L x.1 x.2) (fun k => (nL (sN (fun u => sF (fitW (gA S 13)) (TT (fitW (gA S 13)) P (gA S 10)) (gA S 10) p len b (1 + u)) k), nI (1 + k))) len (fun k L hk hL => ?_) (fun L => ?_)
    · unfold bX0_ofProduction_6_21
      refine ⟨fun d => absurd d (nI_nlt (by omega) (by omega)), fun _ => ?_⟩
      refine c_of6 h (b := b) hp (by omega) (by omega) hlen hb hz1 ?_
      simp only [forall_eq]
      rw [nL_add, nI_1]
      exact hL
    · unfold bX0_ofProduction_6_21
      exact ⟨fun _ => hq, fun d => absurd (nI_lt (by omega) (by omega)) d⟩
  · have e : ¬ gA S 10 (4 * p) = c := e
    rw [if_neg e] at hq
    exact hq
theorem c_fill6 {S : gS} {n t st P w : Nat} (h1 : cG S n t st P) (ok : okP n t P (gA S 10)) (hw : w ≤ 8) (h5 : gI S 5 = nI w) (h12 : gI S 12 = 0) {Post : gS → Prop} (hq : ∀ R, r6 n P (gA S 10) (gA S 13) w R w → Post (uI (sB S 19 R) 12 (nI w))) : pX0_fill_6 (nI w) S Post := by
  have hn : n ≤ 6 := h1.2.2.2.2.2.1
  have hP : P ≤ 24 := h1.2.2.2.2.2.2.2.2.2
  have e1 : gI S 1 = nI n := h1.1
  have e4 : gI S 4 = nI P := h1.2.2.2.1
  have hH : ∀ {R : Nat → Int64} {z : Nat}, r6 n P (gA S 10) (gA S 13) w R z → H6 (sB S 19 R) n t st P w z := fun hr => ⟨h1, ok, hw, by rw [gB_sB, if_pos rfl]; exact hr⟩
  unfold pX0_fill_6
  simp only [forall_eq]
  rw [h12]
  refine lp_inv (B := fun L x => bX0_fill_6_7 (nI w) Post L x.1 x.2) (fun k x => ∃ R, x = (nI (1 + k), sB S 19 R) ∧ r6 n P (gA S 10) (gA S 13) w R k) w (fun k x L hk hI hL => ?_) (fun x L hI => ?_) ⟨gB S 19, by rw [sB_id]; rfl, fun l b a g1 g2 => by omega⟩
  · obtain ⟨R, rfl, hR⟩ := hI
    unfold bX0_fill_6_7 pX4_pieces
    refine ⟨fun c => absurd c (nI_nlt (by omega) (by omega)), fun _ => ?_⟩
    have ep : gI (sB S 19 R) 5 - nI (1 + k) + 1 = nI (w - k) := by
      rw [gI_sB, h5, nI_sub (by omega), nI_1]
      congr 1
      omega
    simp only [ep]
    refine lp_inv (B := fun L' x => bX0_fill_6_21 (nI (1 + k)) L (nI (w - k)) L' x.1 x.2) (fun b x => ∃ R, x = (nI b, sB S 19 R) ∧ r6 n P (gA S 10) (gA S 13) w R k ∧ ∀ b' a, b' < b → a < n → R ((k * 8 + b') * 6 + a) = nL (TT (fitW (gA S 13)) P (gA S 10) (k + 1) b' (nI a))) (w - k) (fun b x L2 hb hI hL2 => ?_) (fun x L2 hI => ?_) ⟨R, rfl, hR, fun b' a g1 => by omega⟩
    · obtain ⟨R, rfl, hR, hR1⟩ := hI
      unfold bX0_fill_6_21
      refine ⟨fun c => absurd c (nI_ge (by omega) (by omega)), fun _ => ?_⟩
      refine lp_inv (B := fun L' x => bX0_fill_6_30 (nI (1 + k)) (nI b) L2 L' x.1 x.2) (fun a x => ∃ R, x = (nI a, sB S 19 R) ∧ r6 n P (gA S 10) (gA S 13) w R k ∧ (∀ b' a, b' < b → a < n → R ((k * 8 + b') * 6 + a) = nL (TT (fitW (gA S 13)) P (gA S 10) (k + 1) b' (nI a))) ∧ ∀ a', a' < a → R ((k * 8 + b) * 6 + a') = nL (TT (fitW (gA S 13)) P (gA S 10) (k + 1) b (nI a'))) n (fun a x L3 ha hI hL3 => ?_) (fun x L3 hI => ?_) ⟨R, rfl, hR, hR1, fun a' g1 => by omega⟩
      · obtain ⟨R, rfl, hR, hR1, hR2⟩ := hI
        unfold bX0_fill_6_30
        rw [gI_sB, e1]
        refine ⟨fun c => absurd c (nI_ge (by omega) (by omega)), fun _ => ?_⟩
        refine lp_seq (B := fun L' x => bX0_fill_6_48 (nI (1 + k)) (nI b) (nI a) (sB S 19 R) L3 L' x.1 x.2) (fun p => (nL (sN (fun q => if gA S 10 (4 * q) = nI a then tp (fitW (gA S 13)) (TT (fitW (gA S 13)) P (gA S 10)) (gA S 10) q (k + 1) b else 0) p), nI p)) P (fun p L4 hp hL4 => ?_) (fun L4 => ?_)
        · unfold bX0_fill_6_48
          rw [gI_sB, e4]
          refine ⟨fun c => absurd c (nI_ge (by omega) (by omega)), fun _ => ?_⟩
          refine c_op6 (hH hR) (b := b) hp (by omega) (by omega) (by omega) ?_
          simp only [forall_eq]
          rw [nL_add, nI_1, Nat.add_comm 1 k]
          exact hL4
        · unfold bX0_fill_6_48
          rw [gI_sB, e4]
          refine ⟨fun _ => ?_, fun c => absurd (nI_le (by omega) (by omega)) c⟩
          rw [← TT_eq hn ok]
          unfold pX0_put_6 pX4_place
          have e : ((nI (1 + k) - 1) * 8 + nI b) * 6 + nI a = nI ((k * 8 + b) * 6 + a) := by
            rw [i_1, nI_sub (by omega), i_6, i_8, nI_mul, nI_add, nI_mul, nI_add, Nat.add_sub_cancel_left]
          simp only [forall_eq]
          rw [e]
          refine ⟨fun d => absurd d (nI_neg (by omega)), fun _ => ⟨fun d => absurd d (nI_ge (b := 384) (by omega) (by omega)), fun _ => ⟨vp_in_nI (by omega) (by omega), ?_⟩⟩⟩
          rw [nI_clamp (by omega), uB_s, sB_sB, gB_sB, if_pos rfl, nI_1]
          refine hL3 _ ⟨_, rfl, fun l b' a' g1 g2 g3 g4 => ?_, fun b' a' g1 g2 => ?_, fun a' g1 => ?_⟩
          · rw [pk_uLn (by omega)]
            exact hR l b' a' g1 g2 g3 g4
          · rw [pk_uLn (by omega)]
            exact hR1 b' a' g1 g2
          · by_cases ea : a' = a
            · rw [ea, pk_uLs]
            · rw [pk_uLn (by omega)]
              exact hR2 a' (by omega)
      · obtain ⟨R, rfl, hR, hR1, hR2⟩ := hI
        unfold bX0_fill_6_30
        rw [gI_sB, e1]
        refine ⟨fun _ => ?_, fun c => absurd (nI_le (by omega) (by omega)) c⟩
        simp only [forall_eq]
        rw [nI_1]
        refine hL2 _ ⟨R, rfl, hR, fun b' a g1 g2 => ?_⟩
        by_cases eb : b' = b
        · rw [eb]
          exact hR2 a g2
        · exact hR1 b' a (by omega) g2
    · obtain ⟨R, rfl, hR, hR1⟩ := hI
      unfold bX0_fill_6_21
      refine ⟨fun _ => ?_, fun c => absurd (nI_le (by omega) (by omega)) c⟩
      simp only [forall_eq]
      rw [nI_1]
      refine hL _ ⟨R, rfl, fun l b a g1 g2 g3 g4 => ?_⟩
      by_cases el : l = k + 1
      · rw [el, Nat.add_sub_cancel]
        exact hR1 b a (by omega) g4
      · exact hR l b a g1 (by omega) g3 g4
  · obtain ⟨R, rfl, hR⟩ := hI
    unfold bX0_fill_6_7
    refine ⟨fun _ => ?_, fun c => absurd (nI_lt (by omega) (by omega)) c⟩
    simp only [forall_eq]
    rw [gI_sB, h12]
    have e : (if (0 : Int32) < nI w then nI w else 0) = nI w := by
      by_cases hw0 : w = 0
      · rw [hw0]; rfl
      · rw [if_pos]
        exact nI_lt (a := 0) (by omega) (by omega)
    rw [e]
    exact hq R hR
theorem c_fill5 {S : gS} {n t st P z m : Nat} (h1 : cG S n t st P) (ok : okP n t P (gA S 10)) (hz : z ≤ 10) (hm : m ≤ 10) (h11 : gI S 11 = nI z) (hR0 : r5 n P (gA S 10) (gB S 18) z) {Post : gS → Prop} (hq : ∀ R, r5 n P (gA S 10) R (max z m) → Post (uI (sB S 18 R) 11 (nI (max z m)))) : pX0_fill_5 (nI m) S Post := by
  have hn : n ≤ 6 := h1.2.2.2.2.2.1
  have hP : P ≤ 24 := h1.2.2.2.2.2.2.2.2.2
  have e1 : gI S 1 = nI n := h1.1
  have e4 : gI S 4 = nI P := h1.2.2.2.1
  have hH : ∀ {R : Nat → Int64} {z : Nat}, z ≤ 10 → r5 n P (gA S 10) R z → H5 (sB S 18 R) n t st P z := fun hz hr => ⟨h1, ok, hz, by rw [gB_sB, if_pos rfl]; exact hr⟩
  unfold pX0_fill_5
  simp only [forall_eq]
  rw [h11, nI_1]
  refine lp_inv (B := fun L x => bX0_fill_5_7 (nI m) Post L x.1 x.2) (fun k x => ∃ R, x = (nI (z + 1 + k), sB S 18 R) ∧ r5 n P (gA S 10) R (z + k)) (m - z) (fun k x L hk hI hL => ?_) (fun x L hI => ?_) ⟨gB S 18, by rw [sB_id], hR0⟩
  · obtain ⟨R, rfl, hR⟩ := hI
    unfold bX0_fill_5_7 pX2_pieces
    refine ⟨fun c => absurd c (nI_nlt (by omega) (by omega)), fun _ => ?_⟩
    refine lp_inv (B := fun L' x => bX0_fill_5_21 (nI (z + 1 + k)) L 1 L' x.1 x.2) (fun b x => ∃ R, x = (nI b, sB S 18 R) ∧ r5 n P (gA S 10) R (z + k) ∧ (b = 1 → ∀ a, a < n → R ((z + k) * 6 + a) = nL (TT fitL P (gA S 10) (z + k + 1) 0 (nI a)))) 1 (fun b x L2 hb hI hL2 => ?_) (fun x L2 hI => ?_) ⟨R, rfl, hR, fun g1 => by omega⟩
    · obtain ⟨R, rfl, hR, -⟩ := hI
      unfold bX0_fill_5_21
      refine ⟨fun c => absurd c (nI_ge (b := 1) (by omega) (by omega)), fun _ => ?_⟩
      refine lp_inv (B := fun L' x => bX0_fill_5_30 (nI (z + 1 + k)) (nI b) L2 L' x.1 x.2) (fun a x => ∃ R, x = (nI a, sB S 18 R) ∧ r5 n P (gA S 10) R (z + k) ∧ ∀ a', a' < a → R ((z + k) * 6 + a') = nL (TT fitL P (gA S 10) (z + k + 1) 0 (nI a'))) n (fun a x L3 ha hI hL3 => ?_) (fun x L3 hI => ?_) ⟨R, rfl, hR, fun a' g1 => by omega⟩
      · obtain ⟨R, rfl, hR, hR2⟩ := hI
        unfold bX0_fill_5_30
        rw [gI_sB, e1]
        refine ⟨fun c => absurd c (nI_ge (by omega) (by omega)), fun _ => ?_⟩
        refine lp_seq (B := fun L' x => bX0_fill_5_48 (nI (z + 1 + k)) (nI b) (nI a) (sB S 18 R) L3 L' x.1 x.2) (fun p => (nL (sN (fun q => if gA S 10 (4 * q) = nI a then tp fitL (TT fitL P (gA S 10)) (gA S 10) q (z + k + 1) 0 else 0) p), nI p)) P (fun p L4 hp hL4 => ?_) (fun L4 => ?_)
        · unfold bX0_fill_5_48
          rw [gI_sB, e4]
          refine ⟨fun c => absurd c (nI_ge (by omega) (by omega)), fun _ => ?_⟩
          refine c_op5 (hH (by omega) hR) (b := 0) hp (by omega) (by omega) ?_
          simp only [forall_eq]
          rw [nL_add, nI_1, show z + 1 + k = z + k + 1 by omega]
          exact hL4
        · unfold bX0_fill_5_48
          rw [gI_sB, e4]
          refine ⟨fun _ => ?_, fun c => absurd (nI_le (by omega) (by omega)) c⟩
          rw [← TT_eq hn ok]
          unfold pX0_put_5 pX2_place
          have e : (nI (z + 1 + k) - 1) * 6 + nI a = nI ((z + k) * 6 + a) := by
            rw [i_1, nI_sub (by omega), i_6, nI_mul, nI_add, show z + 1 + k - 1 = z + k by omega]
          simp only [forall_eq]
          rw [e]
          refine ⟨fun d => absurd d (nI_neg (by omega)), fun _ => ⟨fun d => absurd d (nI_ge (b := 60) (by omega) (by omega)), fun _ => ⟨vp_in_nI (by omega) (by omega), ?_⟩⟩⟩
          rw [nI_clamp (by omega), uB_s, sB_sB, gB_sB, if_pos rfl, nI_1]
          refine hL3 _ ⟨_, rfl, fun l a' g1 g2 g4 => ?_, fun a' g1 => ?_⟩
          · rw [pk_uLn (by omega)]
            exact hR l a' g1 g2 g4
          · by_cases ea : a' = a
            · rw [ea, pk_uLs]
            · rw [pk_uLn (by omega)]
              exact hR2 a' (by omega)
      · obtain ⟨R, rfl, hR, hR2⟩ := hI
        unfold bX0_fill_5_30
        rw [gI_sB, e1]
        refine ⟨fun _ => ?_, fun c => absurd (nI_le (by omega) (by omega)) c⟩
        simp only [forall_eq]
        rw [nI_1]
        exact hL2 _ ⟨R, rfl, hR, fun _ a g2 => hR2 a g2⟩
    · obtain ⟨R, rfl, hR, hR1⟩ := hI
      unfold bX0_fill_5_21
      refine ⟨fun _ => ?_, fun c => absurd (nI_le (a := 1) (by omega) (by omega)) c⟩
      simp only [forall_eq]
      rw [nI_1]
      refine hL _ ⟨R, rfl, fun l a g1 g2 g4 => ?_⟩
      by_cases el : l = z + k + 1
      · rw [el, Nat.add_sub_cancel]
        exact hR1 rfl a g4
      · exact hR l a g1 (by omega) g4
  · obtain ⟨R, rfl, hR⟩ := hI
    unfold bX0_fill_5_7
    refine ⟨fun _ => ?_, fun c => absurd (nI_lt (by omega) (by omega)) c⟩
    simp only [forall_eq]
    rw [gI_sB, h11]
    have e : (if nI z < nI m then nI m else nI z) = nI (max z m) := by
      by_cases hw0 : z < m
      · rw [if_pos (nI_lt hw0 (by omega)), Nat.max_eq_right (by omega)]
      · rw [if_neg (nI_nlt (by omega) (by omega)), Nat.max_eq_left (by omega)]
    rw [e]
    refine hq R ?_
    rw [show max z m = z + (m - z) by omega]
    exact hR
