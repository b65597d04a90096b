section
/-! THE MATHEMATICS, 20: firstAmbiguous, wordRank. -/
section MF
variable {S : gS} {n t st P : Nat} {F : Nat → Int32}
theorem m_fa31 (h : mG S n t st P F) {l : Nat} (l1 : 1 ≤ l) (l6 : l ≤ 6) (hna : ∀ key, key < t ^ l → ¬ 2 ≤ tk t P F st l key) {Post : Int32 → gS → Prop} {L : Int32 × gS → Prop} (hL : ∀ U, gI U = gI S → (∀ a, a ≠ 6 → gA U a = gA S a) → L (nI (l + 1), U)) : ∃ n, lp (fun L' x => bX9_firstAmbiguous_31 Post (nI l) L L' x.1 x.2) n (0, S) := by
  have hn : n ≤ 6 := h.1.2.2.2.2.2.1
  have t3 : t ≤ 3 := h.1.2.2.2.2.2.2.2.1
  have hP : P ≤ 24 := h.1.2.2.2.2.2.2.2.2.2
  have e2 : gI S 2 = nI t := h.1.2.1
  have p1 := p729 (l := l) t3 (by omega)
  refine lp_inv (B := fun L' x => bX9_firstAmbiguous_31 Post (nI l) L L' x.1 x.2) (fun k x => ∃ U, x = (nI k, U) ∧ gI U = gI S ∧ ∀ a, a ≠ 6 → gA U a = gA S a) (t ^ l) (fun k x L' hk hI hL' => ?_) (fun x L' hI => ?_) ⟨S, rfl, rfl, fun _ _ => rfl⟩
  · obtain ⟨U, rfl, k1, k2⟩ := hI
    have hU : mG U n t st P F := h.eq (fun f _ _ => by rw [k1]) (fun p _ => k2 _ (by omega))
    have hb := tk_lt (st := st) (l := l) (key := k) hn t3 hP h.2.2 (by omega)
    unfold bX9_firstAmbiguous_31
    refine m_wo (t := t) (by rw [k1, e2]) (by omega) ⟨fun c => absurd c (nI_ge (by omega) (by omega)), fun _ => m_cn hU l1 (by omega) (by omega) (fun V v1 v2 v3 => ?_)⟩
    rw [cmp_le, nL_toInt hb, show (1 : Int64).toInt = 1 from rfl]
    have := hna k hk
    refine ⟨fun _ => ?_, fun c => by omega⟩
    simp only [forall_eq]
    rw [nI_1]
    exact hL' _ ⟨V, rfl, v1.trans k1, fun a ha => (v2 a ha).trans (k2 a ha)⟩
  · obtain ⟨U, rfl, k1, k2⟩ := hI
    unfold bX9_firstAmbiguous_31
    refine m_wo (t := t) (by rw [k1, e2]) (by omega) ⟨fun _ => ?_, fun c => absurd (nI_le (Nat.le_refl _) (by omega)) c⟩
    simp only [forall_eq]
    rw [nI_1]
    exact hL U k1 k2
theorem m_faA (h : mG S n t st P F) {lim l k0 : Nat} (l1 : 1 ≤ l) (ll : l ≤ lim) (l6 : lim ≤ 6) (hk0 : k0 < t ^ l) (ha : 2 ≤ tk t P F st l k0) (hc : cw t P F st 2 l k0 = 0) (hna : ∀ l', 1 ≤ l' → l' < l → ∀ key, key < t ^ l' → ¬ 2 ≤ tk t P F st l' key) {Post : Int32 → gS → Prop} (hq : ∀ U, gI U = gI S → (∀ a, a ≠ 6 → gA U a = gA S a) → (∀ i, i < l → gA U 6 i = dig t l k0 i) → Post (nI l) (uI (uI (sA U 2 (cpy l (gA U 6) (gA U 2))) 5 (nI l)) 6 0)) : ∃ n, lp (fun L x => bX9_firstAmbiguous_24 (nI lim) Post L x.1 x.2) n (1, S) := by
  have hn : n ≤ 6 := h.1.2.2.2.2.2.1
  have t3 : t ≤ 3 := h.1.2.2.2.2.2.2.2.1
  have hP : P ≤ 24 := h.1.2.2.2.2.2.2.2.2.2
  have e2 : gI S 2 = nI t := h.1.2.1
  refine lp_ex (B := fun L x => bX9_firstAmbiguous_24 (nI lim) Post L x.1 x.2) (fun k x => ∃ U, x = (nI (1 + k), U) ∧ gI U = gI S ∧ ∀ a, a ≠ 6 → gA U a = gA S a) (l - 1) (fun k x hk hI => ?_) ⟨S, rfl, rfl, fun _ _ => rfl⟩
  obtain ⟨U, rfl, k1, k2⟩ := hI
  have hU : mG U n t st P F := h.eq (fun f _ _ => by rw [k1]) (fun p _ => k2 _ (by omega))
  by_cases e : k = l - 1
  · left
    intro L
    have el : 1 + k = l := by omega
    rw [el]
    have p1 := p729 (l := l) t3 (by omega)
    unfold bX9_firstAmbiguous_24
    refine ⟨fun c => absurd c (nI_nlt (by omega) (by omega)), fun _ => ?_⟩
    refine lp_ex (B := fun L' x => bX9_firstAmbiguous_31 Post (nI l) L L' x.1 x.2) (fun k x => ∃ U, x = (nI k, U) ∧ gI U = gI S ∧ ∀ a, a ≠ 6 → gA U a = gA S a) k0 (fun k x hk hI => ?_) ⟨U, rfl, k1, k2⟩
    obtain ⟨U, rfl, k1, k2⟩ := hI
    have hU : mG U n t st P F := h.eq (fun f _ _ => by rw [k1]) (fun p _ => k2 _ (by omega))
    have hb := tk_lt (st := st) (l := l) (key := k) hn t3 hP h.2.2 (by omega)
    by_cases e3 : k = k0
    · left
      intro L'
      unfold bX9_firstAmbiguous_31
      refine m_wo (t := t) (by rw [k1, e2]) (by omega) ⟨fun c => absurd c (nI_ge (by omega) (by omega)), fun _ => m_cn hU l1 (by omega) (by omega) (fun V v1 v2 v3 => ?_)⟩
      rw [cmp_le, nL_toInt hb, show (1 : Int64).toInt = 1 from rfl]
      rw [← e3] at ha hq
      exact ⟨fun c => by omega, fun _ => m_tk (by omega) (hq V (v1.trans k1) (fun a ha => (v2 a ha).trans (k2 a ha)) v3)⟩
    · right
      refine ⟨by omega, fun L' hL' => ?_⟩
      unfold bX9_firstAmbiguous_31
      refine m_wo (t := t) (by rw [k1, e2]) (by omega) ⟨fun c => absurd c (nI_ge (by omega) (by omega)), fun _ => m_cn hU l1 (by omega) (by omega) (fun V v1 v2 v3 => ?_)⟩
      rw [cmp_le, nL_toInt hb, show (1 : Int64).toInt = 1 from rfl]
      have hna' : ¬ 2 ≤ tk t P F st l k := fun d => by
        have := cw_up d (show k < k0 by omega)
        omega
      refine ⟨fun _ => ?_, fun c => by omega⟩
      simp only [forall_eq]
      rw [nI_1]
      exact hL' _ ⟨V, rfl, v1.trans k1, fun a ha => (v2 a ha).trans (k2 a ha)⟩
  · right
    refine ⟨by omega, fun L hL => ?_⟩
    unfold bX9_firstAmbiguous_24
    refine ⟨fun c => absurd c (nI_nlt (by omega) (by omega)), fun _ => ?_⟩
    refine m_fa31 hU (by omega) (by omega) (hna (1 + k) (by omega) (by omega)) (fun V v1 v2 => hL _ ⟨V, ?_, v1.trans k1, fun a ha => (v2 a ha).trans (k2 a ha)⟩)
    rw [Nat.add_assoc]
theorem m_faB (h : mG S n t st P F) {lim : Nat} (l6 : lim ≤ 6) (hna : ∀ l', 1 ≤ l' → l' ≤ lim → ∀ key, key < t ^ l' → ¬ 2 ≤ tk t P F st l' key) {Post : Int32 → gS → Prop} (hq : ∀ U, gI U = gI S → (∀ a, a ≠ 6 → gA U a = gA S a) → Post 0 (uI U 0 2)) : ∃ n, lp (fun L x => bX9_firstAmbiguous_24 (nI lim) Post L x.1 x.2) n (1, S) := by
  refine lp_inv (B := fun L x => bX9_firstAmbiguous_24 (nI lim) Post L x.1 x.2) (fun k x => ∃ U, x = (nI (1 + k), U) ∧ gI U = gI S ∧ ∀ a, a ≠ 6 → gA U a = gA S a) lim (fun k x L hk hI hL => ?_) (fun x L hI => ?_) ⟨S, rfl, rfl, fun _ _ => rfl⟩
  · obtain ⟨U, rfl, k1, k2⟩ := hI
    have hU : mG U n t st P F := h.eq (fun f _ _ => by rw [k1]) (fun p _ => k2 _ (by omega))
    unfold bX9_firstAmbiguous_24
    refine ⟨fun c => absurd c (nI_nlt (by omega) (by omega)), fun _ => ?_⟩
    refine m_fa31 hU (by omega) (by omega) (hna (1 + k) (by omega) (by omega)) (fun V v1 v2 => hL _ ⟨V, ?_, v1.trans k1, fun a ha => (v2 a ha).trans (k2 a ha)⟩)
    rw [Nat.add_assoc]
  · obtain ⟨U, rfl, k1, k2⟩ := hI
    unfold bX9_firstAmbiguous_24
    refine ⟨fun _ => ?_, fun c => absurd (nI_lt (by omega) (by omega)) c⟩
    simp only [forall_eq]
    exact hq U k1 k2
end MF
theorem s_17 {a1 a2 a3 a4 : Int32} {Sx Sm : gS} (h : Inv Sx Sm) : qL_17 a1 a2 a3 a4 Sx Sm Inv := by
  obtain ⟨n, t, st, P, h1, ok, hm, hL, hW⟩ := h.G
  have t1 : 1 ≤ t := h1.2.2.2.2.2.2.1
  have t3 : t ≤ 3 := h1.2.2.2.2.2.2.2.1
  unfold qL_17 pL_firstAmbiguous pX8_firstAmbiguous
  refine c_len (m := 6) (by omega) (fun lim l1 l6 el => ?_) (fun c => Or.inl ⟨rfl, ?_⟩)
  · rw [el]
    have key : ∀ {Q : Int32 → gS → Prop}, (∃ n, lp (fun L x => bX9_firstAmbiguous_24 (nI lim) Q L x.1 x.2) n (1, uI Sm 0 0)) → pX9_firstAmbiguous (nI lim) Sm Q := by
      intro Q hq
      unfold pX9_firstAmbiguous
      refine m_ls (fun _ _ _ _ => ⟨fun _ => ?_, fun c => absurd c (by decide)⟩) (fun c => absurd (by rw [nI_toInt (by omega)]; omega) c)
      unfold jX9_firstAmbiguous_14
      exact m_f0 ⟨fun _ => hq, fun c => absurd rfl c⟩
    refine lp_ex (B := fun L x => bX8_firstAmbiguous_8 (nI lim) _ _ L x.1 x.2) (fun k x => ∃ T, x = (nI (1 + k), T) ∧ Inv T Sm ∧ cG T n t st P ∧ gA T = gA Sx ∧ cL n P (gA T 10) (gI T 11) (gB T 18) ∧ cW n t P (gA T 10) (gI T 13) (gB T 20) ∧ ∀ l', 1 ≤ l' → l' < 1 + k → ∀ key, key < t ^ l' → ¬ 2 ≤ tk t P (gA Sx 10) st l' key) lim (fun k x hk hI => ?_) ⟨Sx, rfl, h, h1, rfl, hL, hW, fun l' g1 g2 => by omega⟩
    obtain ⟨T, rfl, iT, gT, eA, cl, cw', hna⟩ := hI
    have ok' : okP n t P (gA T 10) := by rw [eA]; exact ok
    by_cases e : k = lim
    · left
      intro L
      unfold bX8_firstAmbiguous_8
      subst e
      refine ⟨fun _ => Or.inr ⟨rfl, key (m_faB hm.thr l6 (fun l' g1 g2 => hna l' g1 (by omega)) (fun U u1 u2 => fin rd0 (iT.mod (.thr u1 u2)).thr (fun c => absurd c (by decide))))⟩, fun c => absurd (nI_lt (by omega) (by omega)) c⟩
    · have p1 := p729 (l := 1 + k) t3 (by omega)
      by_cases ex : ∃ key, key < t ^ (1 + k) ∧ 2 ≤ tk t P (gA Sx 10) st (1 + k) key
      · left
        intro L
        unfold bX8_firstAmbiguous_8
        refine ⟨fun c => absurd c (nI_nlt (by omega) (by omega)), fun _ => ?_⟩
        refine c_cwd iT gT ok' cl cw' (by omega) (by omega) (fun V z i g eA2 eI cl2 cw2 hR lz z6 => ?_)
        have eA3 : gA V = gA Sx := eA2.trans eA
        have ok2 : okP n t P (gA V 10) := by rw [eA3]; exact ok
        refine c_find (q := 2) (rank := 0) g ok2 hR (by omega) lz z6 (by omega) (fun k0 g1 g2 g3 => ?_) (fun hno => ?_)
        · have ck := cw_le (t := t) (P := P) (F := gA V 10) (st := st) (q := 2) (l := 1 + k) (e := k0)
          rw [i_0, nI_eq (by omega) (by omega)] at g3
          rw [eA3] at g2 g3
          refine ⟨fun c => absurd c (nI_pos (by omega)), fun _ => c_sw g.2.1 t1 t3 (by omega) (by omega) (fun W w1 w2 => ?_)⟩
          refine key (m_faA hm.thr (l := 1 + k) (k0 := k0) (by omega) (by omega) l6 g1 g2 g3 hna (fun U u1 u2 u3 => fin ?_ (i.key (.thr u1 u2) g (by omega) w1 w2 u3).out (fun _ => out0)))
          rw [gI_uI, if_neg (by decide), gI_uI, if_neg (by decide), gI_sA, u1, rd0]
        · obtain ⟨ky, y1, y2⟩ := ex
          rw [eA3] at hno
          obtain ⟨k0, d1, d2, d3⟩ := cw_ex (r := 0) (t ^ (1 + k)) (Nat.lt_of_le_of_lt (Nat.zero_le _) (cw_up y2 y1))
          exact absurd (by rw [d3]; rfl) (hno k0 d1 d2)
      · right
        refine ⟨by omega, fun L hLL => ?_⟩
        unfold bX8_firstAmbiguous_8
        refine ⟨fun c => absurd c (nI_nlt (by omega) (by omega)), fun _ => ?_⟩
        refine c_cwd iT gT ok' cl cw' (by omega) (by omega) (fun V z i g eA2 eI cl2 cw2 hR lz z6 => ?_)
        have eA3 : gA V = gA Sx := eA2.trans eA
        have ok2 : okP n t P (gA V 10) := by rw [eA3]; exact ok
        refine c_find (q := 2) (rank := 0) g ok2 hR (by omega) lz z6 (by omega) (fun k0 g1 g2 g3 => ?_) (fun hno => ?_)
        · rw [eA3] at g2
          exact absurd ⟨k0, g1, g2⟩ ex
        · refine ⟨fun _ => ?_, fun c => absurd (by decide) c⟩
          simp only [forall_eq]
          rw [nI_1]
          refine hLL _ ⟨V, by rw [Nat.add_assoc], i, g, eA3, cl2, cw2, fun l' g1 g2 key g3 g4 => ?_⟩
          by_cases e4 : l' = 1 + k
          · subst e4
            exact ex ⟨key, g3, g4⟩
          · exact hna l' g1 (by omega) key g3 g4
  · unfold pX9_firstAmbiguous
    refine m_ls (fun l l1 l2 el => absurd (by rw [el, nI_toInt (by omega)]; omega) c) (fun _ => ⟨fun c => absurd rfl c, fun _ => ?_⟩)
    unfold jX9_firstAmbiguous_14
    exact m_f1 ⟨fun c => absurd c (by decide), fun _ => fin rd0 h.thr (fun c => absurd c (by decide))⟩
/-- the key of a word -/
def kv (t : Nat) (W : Nat → Int32) : Nat → Nat
  | 0 => 0
  | k + 1 => kv t W k * t + (W k).toNatClampNeg
theorem kv_lt {t : Nat} {W : Nat → Int32} {w : Nat} (hW : ∀ i, i < w → 0 ≤ (W i).toInt ∧ (W i).toInt < t) : kv t W w < t ^ w := by
  induction w with
  | zero => exact Nat.one_pos
  | succ w ih =>
    have h1 := ih (fun i hi => hW i (by omega))
    have h2 := hW w (by omega)
    have h3 := clamp_i h2.1
    show kv t W w * t + (W w).toNatClampNeg < t ^ w * t
    have h4 : (kv t W w + 1) * t ≤ t ^ w * t := Nat.mul_le_mul_right t h1
    rw [Nat.add_mul, Nat.one_mul] at h4
    omega
theorem kv_dig {t : Nat} {W : Nat → Int32} {w : Nat} (hW : ∀ i, i < w → 0 ≤ (W i).toInt ∧ (W i).toInt < t) : ∀ i, i < w → dig t w (kv t W w) i = W i := by
  induction w with
  | zero => intro i hi; omega
  | succ w ih =>
    intro i hi
    have h2 := hW w (by omega)
    have h3 := clamp_i h2.1
    have hd : (W w).toNatClampNeg < t := by omega
    by_cases e : i = w
    · subst e
      unfold dig
      show nI ((kv t W i * t + (W i).toNatClampNeg) / t ^ (i + 1 - 1 - i) % t) = W i
      rw [show i + 1 - 1 - i = 0 by omega, Nat.pow_zero, Nat.div_one, Nat.add_comm, Nat.add_mul_mod_self_right, Nat.mod_eq_of_lt hd, eq_i, nI_toInt (by have := rg_i (W i); omega)]
      exact h3
    · rw [← ih (fun i hi => hW i (by omega)) i (by omega)]
      unfold dig
      show nI ((kv t W w * t + (W w).toNatClampNeg) / t ^ (w + 1 - 1 - i) % t) = _
      have hh := dg_hi (t := t) (X := kv t W w) (m := (W w).toNatClampNeg) (j := 1) (a := w - 1 - i) (by rw [Nat.pow_one]; exact hd)
      rw [Nat.pow_one] at hh
      rw [show w + 1 - 1 - i = 1 + (w - 1 - i) by omega, hh]
theorem kv_cg {t : Nat} {W W' : Nat → Int32} {w : Nat} (h : ∀ i, i < w → W i = W' i) : kv t W w = kv t W' w := by
  induction w with
  | zero => rfl
  | succ w ih =>
    show kv t W w * t + (W w).toNatClampNeg = kv t W' w * t + (W' w).toNatClampNeg
    rw [ih (fun i hi => h i (by omega)), h w (by omega)]
theorem s_18 {a1 a2 a3 a4 : Int32} {Sx Sm : gS} (h : Inv Sx Sm) : qL_18 a1 a2 a3 a4 Sx Sm Inv := by
  obtain ⟨n, t, st, P, h1, ok, hm, hL, hW⟩ := h.G
  obtain ⟨g, gc, ⟨w, w8, ew, hw⟩, gv, gl, gt⟩ := id h
  have hn : n ≤ 6 := h1.2.2.2.2.2.1
  have t1 : 1 ≤ t := h1.2.2.2.2.2.2.1
  have t3 : t ≤ 3 := h1.2.2.2.2.2.2.2.1
  have hP : P ≤ 24 := h1.2.2.2.2.2.2.2.2.2
  have ew' : gI Sm 5 = nI w := by rw [g.2.2.2.2.1, ew]
  rw [h1.2.1, nI_toInt (by omega)] at hw
  have eM : ∀ i, i < w → gA Sm 2 i = gA Sx 13 i := fun i hi => g.2.2.2.2.2.2 i (by omega)
  have hK := kv_lt hw
  have hD := kv_dig hw
  have bad : ∀ {Q : Int32 → gS → Prop}, ¬ (1 ≤ w ∧ w ≤ 6) → Q 0 (uI Sm 0 1) → pX9_wordRank Sm Q := by
    intro Q c hq
    unfold pX9_wordRank
    rw [ew']
    refine m_ls (fun l l1 l2 el => absurd (by rw [nI_eq (by omega) (by omega)] at el; omega) c) (fun _ => ⟨fun c => absurd rfl c, fun _ => ?_⟩)
    unfold jX9_wordRank_17
    exact m_f1 ⟨fun _ => hq, fun c => absurd c (by decide)⟩
  unfold qL_18 pL_wordRank pX8_wordRank
  rw [ew]
  refine ⟨fun c => Or.inl ⟨rfl, bad (fun d => absurd c (nI_nlt (b := 1) d.1 (by omega))) (fin rd0 h.thr (fun c => absurd c (by decide)))⟩, fun c => ⟨fun c2 => ?_, fun c2 => Or.inl ⟨rfl, bad (fun d => c2 (nI_le (b := 6) d.2 (by omega))) (fin rd0 h.thr (fun c => absurd c (by decide)))⟩⟩⟩
  have w1 : 1 ≤ w := by
    rw [i_1, nI_ltI (by omega) (by omega)] at c
    omega
  have w6 : w ≤ 6 := by
    rw [i_6, nI_leI (by omega) (by omega)] at c2
    exact c2
  have p1 := p729 (l := w) t3 w6
  have eT : TT (fitW (gA Sx 13)) P (gA Sx 10) w 0 (nI st) = tk t P (gA Sx 10) st w (kv t (gA Sx 13) w) := TT_W hn ok (fun i hi => (hD i hi).symm) (show 0 + w ≤ w by omega)
  have hb := tk_lt (st := st) (l := w) (key := kv t (gA Sx 13) w) hn t3 hP ok (by omega)
  have key : ∀ {Q : Int32 → gS → Prop}, (tk t P (gA Sx 10) st w (kv t (gA Sx 13) w) = 0 → ∀ U, mS Sm U → gI U 0 = 2 → Q 0 U) → (¬ tk t P (gA Sx 10) st w (kv t (gA Sx 13) w) = 0 → ∀ U, mS Sm U → gI U 0 = 0 → Q (nI (cw t P (gA Sx 10) st 1 w (kv t (gA Sx 13) w))) U) → pX9_wordRank Sm Q := by
    intro Q h0 hn0
    unfold pX9_wordRank
    rw [ew']
    refine m_ls (fun _ _ _ _ => ⟨fun _ => ?_, fun c => absurd c (by decide)⟩) (fun c => absurd (by rw [nI_toInt (by omega)]; omega) c)
    unfold jX9_wordRank_17
    refine m_f0 ⟨fun c => absurd rfl c, fun _ => m_cc hm.thr w8 (by rw [gI_uI, if_neg (by decide)]; exact ew') (fun U u1 u2 u3 u4 => ?_)⟩
    have hU : mS Sm U := .thr u1 u2
    rw [if_neg (by omega), show TT (fitW (gA (uI Sm 0 0) 2)) P (gA Sx 10) w 0 (nI st) = tk t P (gA Sx 10) st w (kv t (gA Sx 13) w) from (TT_W hn ok eM (show 0 + w ≤ w by omega)).trans eT, cmp_eq, ← nL_0, nL_inj hb (by decide)]
    unfold jX9_wordRank_39
    refine ⟨fun c => m_f0 ⟨fun _ => ?_, fun c => absurd rfl c⟩, fun c => m_f1 ⟨fun c => absurd c (by decide), fun _ => h0 c _ (hU.trans (.thr (v := 2) rfl (fun _ _ => rfl))) rd0⟩⟩
    have hU0 : mS Sm (uI U 0 0) := hU.trans (.thr (v := 0) rfl (fun _ _ => rfl))
    have hG := hm.s hU0
    have e5 : gI (uI U 0 0) 5 = nI w := (hU0.1 5 (by decide) (by decide) (by decide)).trans ew'
    have eA2 : gA (uI U 0 0) 2 = gA Sm 2 := hU0.2 2 (by decide) (by decide) (by decide)
    refine lp_sq (B := fun L x => bX9_wordRank_51 Q (uI U 0 0) L x.1 x.2) (fun k => (nI (kv t (gA Sx 13) k), nI k)) w (fun k L hk hL => ?_) (fun L => ?_) rfl
    · unfold bX9_wordRank_51
      rw [e5, hG.1.2.1, eA2]
      refine ⟨fun c => absurd c (nI_ge hk (by omega)), fun _ => ⟨vp_in_nI (by omega) (by omega), ?_⟩⟩
      simp only [forall_eq]
      rw [nI_clamp (by omega), nI_1, nI_mul, eM k hk]
      have hwk := hw k hk
      have e6 : gA Sx 13 k = nI (gA Sx 13 k).toNatClampNeg := by
        rw [eq_i, nI_toInt (by have := clamp_i hwk.1; omega)]
        exact (clamp_i hwk.1).symm
      rw [e6, nI_add, Nat.mul_comm t]
      exact hL
    · unfold bX9_wordRank_51
      rw [e5]
      refine ⟨fun _ => ?_, fun c => absurd (nI_le (Nat.le_refl _) (by omega)) c⟩
      refine lp_inv (B := fun L x => bX9_wordRank_83 Q (nI (kv t (gA Sx 13) w)) L x.1 x.2.1 x.2.2) (fun k x => ∃ V, x = (nI (cw t P (gA Sx 10) st 1 w k), nI k, V) ∧ mS Sm V ∧ gI V 0 = 0) (kv t (gA Sx 13) w) (fun k x L hk hI hL => ?_) (fun x L hI => ?_) ⟨_, rfl, hU0, rd0⟩
      · obtain ⟨V, rfl, v1, v2⟩ := hI
        have hb2 := tk_lt (st := st) (l := w) (key := k) hn t3 hP ok (by omega)
        unfold bX9_wordRank_83
        rw [v1.1 5 (by decide) (by decide) (by decide), ew']
        refine ⟨fun c => absurd c (nI_ge hk (by omega)), fun _ => m_cn (hm.s v1) w1 (by omega) (by omega) (fun X x1 x2 x3 => ?_)⟩
        have hX : mS Sm X := v1.trans ⟨fun f _ _ _ => by rw [x1], fun a _ _ a3 => x2 a a3⟩
        rw [cmp_le, nL_toInt hb2, show (0 : Int64).toInt = 0 from rfl]
        simp only [forall_eq]
        rw [nI_1, nI_1, Int32.add_zero]
        refine ⟨fun d => hL _ ⟨X, ?_, hX, by rw [x1, v2]⟩, fun d => hL _ ⟨X, ?_, hX, by rw [x1, v2]⟩⟩
        · rw [cw_s, if_neg (by omega)] <;> rfl
        · rw [cw_s, if_pos (by omega)]
      · obtain ⟨V, rfl, v1, v2⟩ := hI
        unfold bX9_wordRank_83
        exact ⟨fun _ => hn0 c V v1 v2, fun c => absurd (nI_le (Nat.le_refl _) (by omega)) c⟩
  refine c_cwd h h1 ok hL hW w1 w6 (fun T z i gT eA eI cl cw' hR lz z6 => ?_)
  have ok' : okP n t P (gA T 10) := by rw [eA]; exact ok
  have e5 : gI T 5 = nI w := (eI 5 (by decide) (by decide)).trans ew
  rw [gT.2.1, e5]
  unfold pX6_key
  refine lp_sq (B := fun L x => bX6_key_4 (nI t) T _ L x.1 x.2) (fun k => (nI (kv t (gA Sx 13) k), nI k)) w (fun k L hk hL => ?_) (fun L => ?_) rfl
  · unfold bX6_key_4 pX6_letter
    rw [e5]
    refine ⟨fun c => absurd c (nI_ge hk (by omega)), fun _ => ⟨fun c => absurd c (nI_pos (by omega)), fun _ => ⟨fun c => absurd c (nI_ge (b := 8) (by omega) (by omega)), fun _ => ⟨vp_in_nI (by omega) (by omega), ?_⟩⟩⟩⟩
    simp only [forall_eq]
    rw [nI_clamp (by omega), nI_1, nI_mul, eA]
    have hwk := hw k hk
    have e6 : gA Sx 13 k = nI (gA Sx 13 k).toNatClampNeg := by
      rw [eq_i, nI_toInt (by have := clamp_i hwk.1; omega)]
      exact (clamp_i hwk.1).symm
    rw [e6, nI_add]
    exact hL
  · unfold bX6_key_4
    rw [e5]
    refine ⟨fun _ => ?_, fun c => absurd (nI_le (Nat.le_refl _) (by omega)) c⟩
    refine c_cntW gT hR w1 lz z6 hK ?_
    rw [eA, cmp_ge, nL_toInt hb, show (1 : Int64).toInt = 1 from rfl]
    refine ⟨fun d => c_alb (q := 1) gT ok' hR w1 lz z6 (by omega) (by omega) ?_, fun d => Or.inr ⟨rfl, key (fun e U hU u0 => fin u0 (i.mod hU) (fun c => absurd c (by decide))) (fun e => by omega)⟩⟩
    rw [eA]
    exact key (fun e => by omega) (fun _ U hU u0 => fin u0 (i.mod hU).out (fun _ => out0))
end
