section
/-! THE MATHEMATICS, 17: numbers of words; the class's and the model's ways to them. -/
def tk (t P : Nat) (F : Nat → Int32) (st l key : Nat) : Nat := TT (fitW (dig t l key)) P F l 0 (nI st)
def cw (t P : Nat) (F : Nat → Int32) (st q l e : Nat) : Nat := sN (fun key => if q ≤ tk t P F st l key then 1 else 0) e
theorem tk_lt {n t P st l key : Nat} {F : Nat → Int32} (hn : n ≤ 6) (ht : t ≤ 3) (hP : P ≤ 24) (ok : okP n t P F) (h : l ≤ 8) : tk t P F st l key < 2 ^ 63 := TT_lt hn ht hP ok h
theorem cw_le {t P st q l e : Nat} {F : Nat → Int32} : cw t P F st q l e ≤ e := by
  unfold cw
  refine Nat.le_trans (sN_le (g := fun _ => 1) (fun i _ => ?_)) (Nat.le_of_eq (by rw [sN_c, Nat.mul_one]))
  show (if _ then 1 else 0) ≤ 1
  split <;> omega
theorem cw_s {t P st q l e : Nat} {F : Nat → Int32} : cw t P F st q l (e + 1) = cw t P F st q l e + if q ≤ tk t P F st l e then 1 else 0 := rfl
theorem p729 {t l : Nat} (ht : t ≤ 3) (hl : l ≤ 6) : t ^ l ≤ 729 := Nat.le_trans (pow3 ht) (Nat.le_trans (Nat.pow_le_pow_right (by decide) hl) (by decide))
theorem pkey_le {t l : Nat} (ht : t ≤ 3) (hl : l ≤ 6) : plW l + t ^ l ≤ 1093 := Nat.le_trans (Nat.add_le_add_left (pow3 ht) _) (pl_le l (by omega))
theorem toL {q : Nat} (h : q < 2 ^ 31) : (nI q).toInt64.toInt = q := by rw [Int32.toInt_toInt64, nI_toInt h]
section CQ
variable {S : gS} {n t st P z : Nat}
theorem c_cntW (h1 : cG S n t st P) (hR : wR n t P (gA S 10) (gB S 20) z) {l key : Nat} (l1 : 1 ≤ l) (hl : l ≤ z) (z6 : z ≤ 6) (hk : key < t ^ l) {Post : Int64 → Prop} (hq : Post (nL (tk t P (gA S 10) st l key))) : pX7_count (nI l) (nI key) S Post := by
  have hn : n ≤ 6 := h1.2.2.2.2.2.1
  have t3 : t ≤ 3 := h1.2.2.2.2.2.2.2.1
  have hst : st < n := h1.2.2.2.2.2.2.2.2.1
  have p1 := pkey_le (l := l) t3 (by omega)
  unfold pX7_count
  rw [h1.2.2.1]
  refine c_bg (t := t) hn t3 (Or.inr (Or.inl (nI_isN (by omega) hst))) (by omega) ?_
  rw [rw_n hn hst]
  simp only [forall_eq]
  rw [nI_add]
  refine ⟨fun d => absurd d (nI_pos (by omega)), fun _ => ⟨fun d => absurd d (nI_ge (b := 10930) (by omega) (by omega)), fun _ => ⟨vp_in_nI (by omega) (by omega), ?_⟩⟩⟩
  rw [nI_clamp (by omega), hR.1 l st key l1 hl hst hk]
  exact hq
theorem c_alb (h1 : cG S n t st P) (ok : okP n t P (gA S 10)) (hR : wR n t P (gA S 10) (gB S 20) z) {l q e : Nat} (l1 : 1 ≤ l) (hl : l ≤ z) (z6 : z ≤ 6) (hq3 : q < 3) (he : e ≤ t ^ l) {Post : Int32 → Prop} (hq : Post (nI (cw t P (gA S 10) st q l e))) : pX7_atLeastBefore (nI e) (nI q) (nI l) S Post := by
  have hn : n ≤ 6 := h1.2.2.2.2.2.1
  have t3 : t ≤ 3 := h1.2.2.2.2.2.2.2.1
  have hP : P ≤ 24 := h1.2.2.2.2.2.2.2.2.2
  have p1 := p729 (l := l) t3 (by omega)
  unfold pX7_atLeastBefore
  refine lp_sq (B := fun L x => bX7_atLeastBefore_6 (nI e) (nI q) (nI l) S Post L x.1 x.2) (fun k => (nI (cw t P (gA S 10) st q l k), nI k)) e (fun k L hk hL => ?_) (fun L => ?_) rfl
  · unfold bX7_atLeastBefore_6
    refine ⟨fun c => absurd c (nI_ge hk (by omega)), fun _ => c_cntW h1 hR l1 hl z6 (by omega) ?_⟩
    have hb := tk_lt (st := st) (l := l) (key := k) hn t3 hP ok (by omega)
    simp only [forall_eq]
    rw [cmp_lt, nL_toInt hb, toL (by omega), nI_1, nI_1]
    have hL' : L (nI (cw t P (gA S 10) st q l k + if q ≤ tk t P (gA S 10) st l k then 1 else 0), nI (k + 1)) := hL
    refine ⟨fun c => ?_, fun c => ?_⟩
    · rw [if_neg (by omega)] at hL'
      exact hL'
    · rw [if_pos (by omega)] at hL'
      exact hL'
  · unfold bX7_atLeastBefore_6
    exact ⟨fun _ => hq, fun c => absurd (nI_le (Nat.le_refl _) (by omega)) c⟩
theorem c_al (h1 : cG S n t st P) (ok : okP n t P (gA S 10)) (hR : wR n t P (gA S 10) (gB S 20) z) {l q : Nat} (l1 : 1 ≤ l) (hl : l ≤ z) (z6 : z ≤ 6) (hq3 : q < 3) {Post : Int32 → Prop} (hq : Post (nI (cw t P (gA S 10) st q l (t ^ l)))) : pX7_atLeast (nI q) (nI l) S Post := by
  unfold pX7_atLeast
  exact c_ol h1.2.1 h1.2.2.2.2.2.2.1 h1.2.2.2.2.2.2.2.1 (by omega) (c_alb h1 ok hR l1 hl z6 hq3 (Nat.le_refl _) hq)
theorem c_find (h1 : cG S n t st P) (ok : okP n t P (gA S 10)) (hR : wR n t P (gA S 10) (gB S 20) z) {l q : Nat} {rank : Int32} (l1 : 1 ≤ l) (hl : l ≤ z) (z6 : z ≤ 6) (hq3 : q < 3) {Post : Int32 → Prop} (hf : ∀ k, k < t ^ l → q ≤ tk t P (gA S 10) st l k → nI (cw t P (gA S 10) st q l k) = rank → Post (nI k)) (hno : (∀ k, k < t ^ l → q ≤ tk t P (gA S 10) st l k → nI (cw t P (gA S 10) st q l k) ≠ rank) → Post (-1)) : pX7_find (nI q) (nI l) rank S Post := by
  have hn : n ≤ 6 := h1.2.2.2.2.2.1
  have t3 : t ≤ 3 := h1.2.2.2.2.2.2.2.1
  have hP : P ≤ 24 := h1.2.2.2.2.2.2.2.2.2
  have p1 := p729 (l := l) t3 (by omega)
  unfold pX7_find
  refine c_ol h1.2.1 h1.2.2.2.2.2.2.1 t3 (by omega) ?_
  refine lp_ex (B := fun L x => bX7_find_13 (nI q) (nI l) rank S Post (nI (t ^ l)) L x.1 x.2) (fun k x => x = (nI (cw t P (gA S 10) st q l k), nI k) ∧ ∀ k', k' < k → q ≤ tk t P (gA S 10) st l k' → nI (cw t P (gA S 10) st q l k') ≠ rank) (t ^ l) (fun k x hk hI => ?_) ⟨rfl, fun k' g => by omega⟩
  obtain ⟨rfl, hI⟩ := hI
  have hb := tk_lt (st := st) (l := l) (key := k) hn t3 hP ok (by omega)
  by_cases e : k = t ^ l
  · left
    intro L
    unfold bX7_find_13
    subst e
    exact ⟨fun _ => hno hI, fun c => absurd (nI_le (Nat.le_refl _) (by omega)) c⟩
  · by_cases e1 : q ≤ tk t P (gA S 10) st l k
    · by_cases e2 : nI (cw t P (gA S 10) st q l k) = rank
      · left
        intro L
        unfold bX7_find_13
        refine ⟨fun c => absurd c (nI_ge (by omega) (by omega)), fun _ => c_cntW h1 hR l1 hl z6 (by omega) ?_⟩
        rw [cmp_lt, nL_toInt hb, toL (by omega)]
        exact ⟨fun c => by omega, fun _ => ⟨fun c => absurd e2 c, fun _ => hf k (by omega) e1 e2⟩⟩
      · right
        refine ⟨by omega, fun L hL => ?_⟩
        unfold bX7_find_13
        refine ⟨fun c => absurd c (nI_ge (by omega) (by omega)), fun _ => c_cntW h1 hR l1 hl z6 (by omega) ?_⟩
        simp only [forall_eq]
        rw [cmp_lt, nL_toInt hb, toL (by omega), nI_1, nI_1]
        refine ⟨fun c => by omega, fun _ => ⟨fun _ => hL _ ⟨?_, fun k' g1 g2 => ?_⟩, fun c => absurd c e2⟩⟩
        · rw [cw_s, if_pos e1]
        · by_cases e3 : k' = k
          · rw [e3]
            exact e2
          · exact hI k' (by omega) g2
    · right
      refine ⟨by omega, fun L hL => ?_⟩
      unfold bX7_find_13
      refine ⟨fun c => absurd c (nI_ge (by omega) (by omega)), fun _ => c_cntW h1 hR l1 hl z6 (by omega) ?_⟩
      simp only [forall_eq]
      rw [cmp_lt, nL_toInt hb, toL (by omega), nI_1]
      refine ⟨fun _ => hL _ ⟨?_, fun k' g1 g2 => ?_⟩, fun c => by omega⟩
      · rw [cw_s, if_neg e1] <;> rfl
      · by_cases e3 : k' = k
        · rw [e3] at g2
          exact absurd g2 e1
        · exact hI k' (by omega) g2
end CQ
theorem cw_up {t P st q l k k' : Nat} {F : Nat → Int32} (h : q ≤ tk t P F st l k) (hk : k < k') : cw t P F st q l k < cw t P F st q l k' := by
  have h1 : cw t P F st q l (k + 1) ≤ cw t P F st q l k' := sN_mono (by omega)
  rw [cw_s, if_pos h] at h1
  omega
theorem cw_inj {t P st q l k k' : Nat} {F : Nat → Int32} (h : q ≤ tk t P F st l k) (h' : q ≤ tk t P F st l k') (e : cw t P F st q l k = cw t P F st q l k') : k = k' := by
  rcases Nat.lt_trichotomy k k' with g | g | g
  · have := cw_up h g; omega
  · exact g
  · have := cw_up h' g; omega
/-- there is a word of each rank below the number of words -/
theorem cw_ex {t P st q l r : Nat} {F : Nat → Int32} : ∀ e, r < cw t P F st q l e → ∃ k, k < e ∧ q ≤ tk t P F st l k ∧ cw t P F st q l k = r := by
  intro e
  induction e with
  | zero => intro h; exact absurd h (Nat.not_lt_zero _)
  | succ e ih =>
    intro h
    rcases Nat.lt_or_ge r (cw t P F st q l e) with g | g
    · obtain ⟨k, h1, h2, h3⟩ := ih g
      exact ⟨k, by omega, h2, h3⟩
    · rw [cw_s] at h
      by_cases c : q ≤ tk t P F st l e
      · rw [if_pos c] at h
        exact ⟨e, by omega, c, by omega⟩
      · rw [if_neg c] at h
        omega
def cd (tr x : Nat) : Nat := if tr = 0 then (if x = 0 then 1 else 0) else if tr = 1 then (if x = 1 then 1 else 0) else if tr = 2 then (if 1 < x then 1 else 0) else if 0 < x then 1 else 0
theorem cd_3 {t P st l e : Nat} {F : Nat → Int32} : sN (fun k => cd 3 (tk t P F st l k)) e = cw t P F st 1 l e := rfl
theorem cd_2 {t P st l e : Nat} {F : Nat → Int32} : sN (fun k => cd 2 (tk t P F st l k)) e = cw t P F st 2 l e := rfl
theorem cd_1 {t P st l e : Nat} {F : Nat → Int32} : sN (fun k => cd 1 (tk t P F st l k)) e + cw t P F st 2 l e = cw t P F st 1 l e := by
  unfold cw
  rw [← sN_add]
  refine sN_congr (fun k _ => ?_)
  show (if tk t P F st l k = 1 then 1 else 0) + _ = _
  generalize tk t P F st l k = x
  rcases (show x = 0 ∨ x = 1 ∨ 2 ≤ x by omega) with g | g | g
  · subst g
    rfl
  · subst g
    rfl
  · rw [if_neg (by omega), if_pos g, if_pos (by omega)]
theorem cd_0 {t P st l e : Nat} {F : Nat → Int32} : sN (fun k => cd 0 (tk t P F st l k)) e + cw t P F st 1 l e = e := by
  unfold cw
  rw [← sN_add]
  refine Eq.trans (sN_congr (g := fun _ => 1) (fun k _ => ?_)) (by rw [sN_c, Nat.mul_one])
  show (if tk t P F st l k = 0 then 1 else 0) + (if 1 ≤ tk t P F st l k then 1 else 0) = 1
  generalize tk t P F st l k = x
  by_cases h1 : x = 0
  · rw [if_pos h1, if_neg (by omega)]
  · rw [if_neg h1, if_pos (by omega)]
section MQ
variable {S : gS} {n t st P : Nat} {F : Nat → Int32}
theorem m_wo {l : Nat} (e2 : gI S 2 = nI t) (hl : l < 2 ^ 31) {Post : Int32 → Prop} (hq : Post (nI (t ^ l))) : pX9_wordsOf (nI l) S Post := by
  unfold pX9_wordsOf
  refine lp_sq (B := fun L x => bX9_wordsOf_4 (nI l) S Post L x.1 x.2) (fun k => (nI (t ^ k), nI k)) l (fun k L hk hL => ?_) (fun L => ?_) rfl
  · unfold bX9_wordsOf_4
    refine ⟨fun c => absurd c (nI_ge hk (by omega)), fun _ => ?_⟩
    simp only [forall_eq]
    rw [e2, nI_mul, nI_1, ← Nat.pow_succ]
    exact hL
  · unfold bX9_wordsOf_4
    exact ⟨fun _ => hq, fun c => absurd (nI_le (Nat.le_refl _) (by omega)) c⟩
theorem m_cn (h : mG S n t st P F) {l w : Nat} (l1 : 1 ≤ l) (hl : l ≤ 8) (hw : w < 2 ^ 31) {Post : Int64 → gS → Prop} (hq : ∀ T : gS, gI T = gI S → (∀ a, a ≠ 6 → gA T a = gA S a) → (∀ i, i < l → gA T 6 i = dig t l w i) → Post (nL (tk t P F st l w)) T) : pX9_countNumbered (nI w) (nI l) S Post := by
  have hn : n ≤ 6 := h.1.2.2.2.2.2.1
  have t1 : 1 ≤ t := h.1.2.2.2.2.2.2.1
  have t3 : t ≤ 3 := h.1.2.2.2.2.2.2.2.1
  have e2 : gI S 2 = nI t := h.1.2.1
  unfold pX9_countNumbered
  simp only [forall_eq]
  refine lp_inv (B := fun L x => bX9_countNumbered_7 (nI l) Post L x.1 x.2.1 x.2.2) (fun k x => ∃ T : gS, x = (nI (w / t ^ k), nI (l - k) - 1, T) ∧ gI T = gI S ∧ (∀ a, a ≠ 6 → gA T a = gA S a) ∧ ∀ i, i < l → l ≤ i + k → gA T 6 i = dig t l w i) l (fun k x L hk hI hL => ?_) (fun x L hI => ?_) ⟨S, by rw [Nat.pow_zero, Nat.div_one]; rfl, rfl, fun _ _ => rfl, fun i g1 g2 => by omega⟩
  · obtain ⟨T, rfl, k1, k2, k3⟩ := hI
    have hd : w / t ^ k < 2 ^ 31 := Nat.lt_of_le_of_lt (Nat.div_le_self _ _) hw
    unfold bX9_countNumbered_7
    rw [i_1, nI_sub (show 1 ≤ l - k by omega), k1, e2]
    refine ⟨fun c => absurd c (nI_pos (by omega)), fun _ => ⟨nI_ne0 (by omega) (by omega), vp_in_nI (by omega) (by omega), ?_⟩⟩
    simp only [forall_eq]
    rw [gI_uA, k1, e2, nI_rem hd (by omega), nI_div hd (by omega), nI_clamp (by omega)]
    refine ⟨nI_ne0 (by omega) (by omega), ?_⟩
    refine hL _ ⟨uA T 6 (l - k - 1) (nI (w / t ^ k % t)), ?_, k1, fun a ha => ?_, fun i g1 g2 => ?_⟩
    · rw [Nat.div_div_eq_div_mul, ← Nat.pow_succ, ← Int32.sub_eq_add_neg, show l - k - 1 = l - (k + 1) by omega] <;> rfl
    · rw [gA_uA, if_neg ha]
      exact k2 a ha
    · rw [gA_uA, if_pos rfl, upd_at]
      by_cases e : i = l - k - 1
      · rw [if_pos e]
        unfold dig
        rw [show l - 1 - i = k by omega]
      · rw [if_neg e]
        exact k3 i g1 (by omega)
  · obtain ⟨T, rfl, k1, k2, k3⟩ := hI
    unfold bX9_countNumbered_7
    refine ⟨fun _ => ?_, fun c => absurd (show nI (l - l) - 1 < 0 by rw [Nat.sub_self]; decide) c⟩
    have hT : mG T n t st P F := h.eq (fun f _ _ => by rw [k1]) (fun p _ => k2 _ (by omega))
    refine m_cbp hT hl (fun U u1 u2 u3 => ?_)
    rw [if_neg (by omega), TT_W (W' := dig t l w) hn h.2.2 (fun i hi => k3 i hi (by omega)) (show 0 + l ≤ l by omega)]
    exact hq U (u1.trans k1) (fun a ha => by rw [u2]; exact k2 a ha) (fun i hi => by rw [u2]; exact k3 i hi (by omega))
theorem m_cw (h : mG S n t st P F) {l tr : Nat} (l1 : 1 ≤ l) (hl : l ≤ 6) (htr : tr < 4) {Post : Int32 → gS → Prop} (hq : ∀ T : gS, gI T = gI S → (∀ a, a ≠ 6 → gA T a = gA S a) → Post (nI (sN (fun k => cd tr (tk t P F st l k)) (t ^ l))) T) : pX9_countWords (nI l) (nI tr) S Post := by
  have hn : n ≤ 6 := h.1.2.2.2.2.2.1
  have t3 : t ≤ 3 := h.1.2.2.2.2.2.2.2.1
  have hP : P ≤ 24 := h.1.2.2.2.2.2.2.2.2.2
  have e2 : gI S 2 = nI t := h.1.2.1
  have p1 := p729 (l := l) t3 (by omega)
  unfold pX9_countWords
  refine lp_inv (B := fun L x => bX9_countWords_5 (nI l) (nI tr) Post L x.1 x.2.1 x.2.2) (fun k x => ∃ T : gS, x = (nI (sN (fun k => cd tr (tk t P F st l k)) k), nI k, T) ∧ gI T = gI S ∧ ∀ a, a ≠ 6 → gA T a = gA S a) (t ^ l) (fun k x L hk hI hL => ?_) (fun x L hI => ?_) ⟨S, rfl, rfl, fun _ _ => rfl⟩
  · obtain ⟨T, rfl, k1, k2⟩ := hI
    have hT : mG T n t st P F := h.eq (fun f _ _ => by rw [k1]) (fun p _ => k2 _ (by omega))
    have hb := tk_lt (st := st) (l := l) (key := k) hn t3 hP h.2.2 (by omega)
    unfold bX9_countWords_5
    refine m_wo (t := t) (by rw [k1, e2]) (by omega) ⟨fun c => absurd c (nI_ge hk (by omega)), fun _ => ?_⟩
    refine m_cn hT l1 (by omega) (by omega) (fun U u1 u2 u3 => ?_)
    have f0 : cd tr (tk t P F st l k) = 0 → jX9_countWords_95 (nI (sN (fun k => cd tr (tk t P F st l k)) k)) (nI k) L U 0 := fun e => by
      unfold jX9_countWords_95
      refine ⟨fun _ => ?_, fun c => absurd rfl c⟩
      simp only [forall_eq]
      rw [Int32.add_zero, nI_1]
      refine hL _ ⟨U, ?_, u1.trans k1, fun a ha => (u2 a ha).trans (k2 a ha)⟩
      show _ = (nI (_ + cd tr (tk t P F st l k)), _, _)
      rw [e] <;> rfl
    have f1 : cd tr (tk t P F st l k) = 1 → jX9_countWords_95 (nI (sN (fun k => cd tr (tk t P F st l k)) k)) (nI k) L U 1 := fun e => by
      unfold jX9_countWords_95
      refine ⟨fun c => absurd c (by decide), fun _ => ?_⟩
      simp only [forall_eq]
      rw [nI_1, nI_1]
      refine hL _ ⟨U, ?_, u1.trans k1, fun a ha => (u2 a ha).trans (k2 a ha)⟩
      show _ = (nI (_ + cd tr (tk t P F st l k)), _, _)
      rw [e]
    unfold cd at f0 f1
    rw [cmp_eq, cmp_eq, cmp_le, cmp_le, nL_toInt hb, ← nL_0, ← nL_1, nL_inj hb (by decide), nL_inj hb (by decide), show (nL 0).toInt = 0 from rfl, show (nL 1).toInt = 1 from rfl]
    rw [i_0, i_1, i_2, nI_eq (by omega) (by omega), nI_eq (by omega) (by omega), nI_eq (by omega) (by omega)]
    revert f0 f1
    generalize tk t P F st l k = x
    intro f0 f1
    refine ⟨fun n0 => ⟨fun n1 => ⟨fun n2 => ⟨fun c => f0 ?_, fun c => f1 ?_⟩, fun n2 => ⟨fun c => f0 ?_, fun c => f1 ?_⟩⟩, fun n1 => ⟨fun c => f0 ?_, fun c => f1 ?_⟩⟩, fun n0 => ⟨fun c => f0 ?_, fun c => f1 ?_⟩⟩
    · rw [if_neg n0, if_neg n1, if_neg n2, if_neg (by omega)]
    · rw [if_neg n0, if_neg n1, if_neg n2, if_pos (by omega)]
    · rw [if_neg n0, if_neg n1, if_pos n2, if_neg (by omega)]
    · rw [if_neg n0, if_neg n1, if_pos n2, if_pos (by omega)]
    · rw [if_neg n0, if_pos n1, if_neg c]
    · rw [if_neg n0, if_pos n1, if_pos c]
    · rw [if_pos n0, if_neg c]
    · rw [if_pos n0, if_pos c]
  · obtain ⟨T, rfl, k1, k2⟩ := hI
    unfold bX9_countWords_5
    exact m_wo (t := t) (by rw [k1, e2]) (by omega) ⟨fun _ => hq T k1 k2, fun c => absurd (nI_le (Nat.le_refl _) (by omega)) c⟩
theorem m_ls {x : Int32} {Post : Int32 → Prop} (h1 : ∀ l : Nat, 1 ≤ l → l ≤ 6 → x = nI l → Post 1) (h0 : ¬ (1 ≤ x.toInt ∧ x.toInt ≤ 6) → Post 0) : pX9_isListed x S Post := by
  unfold pX9_isListed
  refine m_bt (fun c1 c2 => ⟨rfl, ?_⟩) (fun c => ⟨rfl, h0 c⟩)
  rw [t_1] at c1
  rw [t_6] at c2
  obtain ⟨l, hl, e⟩ := nI_of' (x := x) (by omega)
  rw [e, nI_toInt hl] at c1 c2
  exact h1 l (by omega) (by omega) e
end MQ
theorem Inv.fillW {Sx Sm : gS} (h : Inv Sx Sm) {n t st P z : Nat} {R : Nat → Int64} (h1 : cG Sx n t st P) (hz : z ≤ 6) (hR : wR n t P (gA Sx 10) R z) : Inv (uI (sB Sx 20 R) 13 (nI z)) Sm := by
  obtain ⟨g, ⟨n', t', st', P', hr, ok, hL, hW⟩, gw, gv, gl, gt⟩ := h
  have en : n = n' := by
    have := hr.1.symm.trans h1.1
    rw [nI_eq (by have := hr.2.2.2.2.2.1; omega) (by have := h1.2.2.2.2.2.1; omega)] at this
    exact this.symm
  have et : t = t' := by
    have := hr.2.1.symm.trans h1.2.1
    rw [nI_eq (by have := hr.2.2.2.2.2.2.2.1; omega) (by have := h1.2.2.2.2.2.2.2.1; omega)] at this
    exact this.symm
  have eP : P = P' := by
    have := hr.2.2.2.1.symm.trans h1.2.2.2.1
    rw [nI_eq (by have := hr.2.2.2.2.2.2.2.2.2; omega) (by have := h1.2.2.2.2.2.2.2.2.2; omega)] at this
    exact this.symm
  subst en et eP
  refine ⟨g, ⟨n, t, st', P, hr, ok, hL, ⟨⟨z, hz, ?_, ?_⟩, ?_, ?_⟩⟩, gw, gv, gl, gt⟩
  · rw [gI_uI, if_pos rfl]
  · rw [gB_uI, gB_sB, if_pos rfl]
    exact hR.1
  · rw [gB_uI, gB_sB, if_pos rfl]
    exact hR.2.1
  · rw [gB_uI, gB_sB, if_pos rfl]
    exact hR.2.2
/-- the class counts words: what holds then -/
theorem c_cwd {Sx Sm : gS} (h : Inv Sx Sm) {n t st P : Nat} (h1 : cG Sx n t st P) (ok : okP n t P (gA Sx 10)) (hL : cL n P (gA Sx 10) (gI Sx 11) (gB Sx 18)) (hW : cW n t P (gA Sx 10) (gI Sx 13) (gB Sx 20)) {l : Nat} (l1 : 1 ≤ l) (l6 : l ≤ 6) {Post : gS → Prop}
    (hq : ∀ (T : gS) (z : Nat), Inv T Sm → cG T n t st P → gA T = gA Sx → (∀ f, f ≠ 11 → f ≠ 13 → gI T f = gI Sx f) → cL n P (gA T 10) (gI T 11) (gB T 18) → cW n t P (gA T 10) (gI T 13) (gB T 20) → wR n t P (gA T 10) (gB T 20) z → l ≤ z → z ≤ 6 → Post T) : pX8_countWords (nI l) Sx Post := by
  obtain ⟨z5, hz5, e11, hR5⟩ := id hL
  obtain ⟨⟨zw, hzw, e13, hA⟩, hB, hC⟩ := id hW
  unfold pX8_countWords
  refine c_fill5 h1 ok hz5 (by omega) e11 hR5 (fun R hR => ?_)
  have i1 := h.fill5 h1 (show max z5 l ≤ 10 by omega) hR
  have g1 : cG (uI (sB Sx 18 R) 11 (nI (max z5 l))) n t st P := h1
  refine c_fillW (z5 := max z5 l) g1 ok hzw l6 e13 ⟨hA, hB, hC⟩ (by omega) (by omega) (by rw [gB_uI, gB_sB, if_pos rfl]; exact hR) (fun R' hR' => ?_)
  have i2 := i1.fillW g1 (show max zw l ≤ 6 by omega) hR'
  refine hq _ (max zw l) i2 h1 rfl (fun f f1 f2 => ?_) ⟨max z5 l, by omega, ?_, ?_⟩ ⟨⟨max zw l, by omega, ?_, ?_⟩, ?_, ?_⟩ ?_ (by omega) (by omega)
  · rw [gI_uI, if_neg f2, gI_sB, gI_uI, if_neg f1, gI_sB]
  · rw [gI_uI, if_neg (by decide), gI_sB, gI_uI, if_pos rfl]
  · rw [gB_uI, gB_sB, if_neg (by decide), gB_uI, gB_sB, if_pos rfl]
    exact hR
  · rw [gI_uI, if_pos rfl]
  · rw [gB_uI, gB_sB, if_pos rfl]
    exact hR'.1
  · rw [gB_uI, gB_sB, if_pos rfl]
    exact hR'.2.1
  · rw [gB_uI, gB_sB, if_pos rfl]
    exact hR'.2.2
  · rw [gB_uI, gB_sB, if_pos rfl]
    exact hR'
end
