section
/-! THE MATHEMATICS, 25: trees as nodes in preorder, and their numbers. -/
/-- as TV; the lengths of the first two parts stand in rows of their own -/
def TX (fit : Nat → Int32 → Bool) (P : Nat) (F NP NF NS NU NV : Nat → Int32) : Nat → Int32 → Nat → Nat → Nat → Nat → Nat → Prop
  | 0 => fun _ _ _ _ _ _ => False
  | f + 1 => fun c b len i i' r =>
    (c = -1 ∧ len = 0 ∧ i' = i ∧ r = 0) ∨ ((10 : Int32) ≤ c ∧ len = 1 ∧ fit b (c - 10) = true ∧ i' = i ∧ r = 0) ∨
    (¬ c = -1 ∧ ¬ (10 : Int32) ≤ c ∧ ∃ p u v i1 i2 r1 r2 r3 : Nat, p < P ∧ F (4 * p) = c ∧ NP i = nI p ∧ NF i = nI b ∧ NS i = nI len ∧ NU i = nI u ∧ NV i = nI v ∧ u + v ≤ len ∧
      TX fit P F NP NF NS NU NV f (F (4 * p + 1)) b u (i + 1) i1 r1 ∧ TX fit P F NP NF NS NU NV f (F (4 * p + 2)) (b + u) v i1 i2 r2 ∧ TX fit P F NP NF NS NU NV f (F (4 * p + 3)) (b + u + v) (len - u - v) i2 i' r3 ∧
      r = bf fit P F c len b p u v + ((r1 * vl fit (TT fit P F) v (b + u) (F (4 * p + 2)) + r2) * vl fit (TT fit P F) (len - u - v) (b + u + v) (F (4 * p + 3)) + r3))
section TR
variable {fit fit' : Nat → Int32 → Bool} {n t P : Nat} {F NP NF NS NU NV NP' NF' NS' NU' NV' : Nat → Int32}
theorem TX_TV : ∀ f c b len i i' r, TX fit P F NP NF NS NU NV f c b len i i' r → TV fit P F NP NF NS f c b len i i' r := by
  intro f
  induction f with
  | zero => intro c b len i i' r h; exact h.elim
  | succ f ih =>
    intro c b len i i' r h
    rcases h with h | h | ⟨c1, c2, p, u, v, i1, i2, r1, r2, r3, hp, el, n0, n1, n2, n3, n4, huv, q1, q2, q3, er⟩
    · exact Or.inl h
    · exact Or.inr (Or.inl h)
    · exact Or.inr (Or.inr ⟨c1, c2, p, u, v, i1, i2, r1, r2, r3, hp, el, n0, n1, n2, huv, ih _ _ _ _ _ _ q1, ih _ _ _ _ _ _ q2, ih _ _ _ _ _ _ q3, er⟩)
theorem TV_sz (hn : n ≤ 6) (ok : okP n t P F) : ∀ f c b len i i' r, (c = -1 ∨ isS n t c) → TV fit P F NP NF NS f c b len i i' r → i ≤ i' ∧ (isS n t c → 1 ≤ len ∧ i' + 1 ≤ i + 2 * len) ∧ (c = -1 → len = 0) ∧ (isN n c → i < i') ∧ (¬ isN n c → i' = i) := by
  intro f
  induction f with
  | zero => intro c b len i i' r _ h; exact h.elim
  | succ f ih =>
    intro c b len i i' r hc h
    rcases h with ⟨h1, h2, h3, h4⟩ | ⟨h1, h2, h3, h4, h5⟩ | ⟨c1, c2, p, u, v, i1, i2, r1, r2, r3, hp, el, n0, n1, n2, huv, q1, q2, q3, er⟩
    · exact ⟨by omega, fun d => absurd h1 (isS_m1 d), fun _ => h2, fun d => absurd h1 (isS_m1 (t := t) (Or.inl d)), fun _ => h3⟩
    · exact ⟨by omega, fun _ => by omega, fun d => by rw [d] at h1; exact absurd h1 (by decide), fun d => absurd h1 (isN_lt hn d), fun _ => h4⟩
    · have z1 := ih _ _ _ _ _ _ (ok.k (k := 1) hp (by decide) (by decide)) q1
      have z2 := ih _ _ _ _ _ _ (ok.k (k := 2) hp (by decide) (by decide)) q2
      have z3 := ih _ _ _ _ _ _ (ok.k (k := 3) hp (by decide) (by decide)) q3
      have hN : isN n c := by
        rcases hc with g | g | g
        · exact absurd g c1
        · exact g
        · exact absurd (isT_ge g) c2
      obtain ⟨-, hx, hyz⟩ := ok.1 p hp
      have y1 := z1.2.1 hx
      refine ⟨by omega, fun _ => ?_, fun d => absurd d c1, fun _ => by omega, fun d => absurd hN d⟩
      rcases hyz with ⟨hy, hz, hx'⟩ | ⟨hy, hz⟩
      · have e1 := z1.2.2.2.2 hx'
        have e2 := z2.2.2.2.2 (fun d => isS_m1 (t := t) (Or.inl d) hy)
        have e3 := z3.2.2.2.2 (fun d => isS_m1 (t := t) (Or.inl d) hz)
        omega
      · have y2 := z2.2.1 hy
        rcases hz with hz | hz
        · have e3 := z3.2.2.2.2 (fun d => isS_m1 (t := t) (Or.inl d) hz)
          have e4 := z3.2.2.1 hz
          omega
        · have y3 := z3.2.1 hz
          omega
theorem TX_sz (hn : n ≤ 6) (ok : okP n t P F) : ∀ f c b len i i' r, (c = -1 ∨ isS n t c) → TX fit P F NP NF NS NU NV f c b len i i' r → i ≤ i' ∧ (isS n t c → 1 ≤ len ∧ i' + 1 ≤ i + 2 * len) ∧ (c = -1 → len = 0) ∧ (isN n c → i < i') ∧ (¬ isN n c → i' = i) := by
  intro f
  induction f with
  | zero => intro c b len i i' r _ h; exact h.elim
  | succ f ih =>
    intro c b len i i' r hc h
    rcases h with ⟨h1, h2, h3, h4⟩ | ⟨h1, h2, h3, h4, h5⟩ | ⟨c1, c2, p, u, v, i1, i2, r1, r2, r3, hp, el, n0, n1, n2, n3, n4, huv, q1, q2, q3, er⟩
    · exact ⟨by omega, fun d => absurd h1 (isS_m1 d), fun _ => h2, fun d => absurd h1 (isS_m1 (t := t) (Or.inl d)), fun _ => h3⟩
    · exact ⟨by omega, fun _ => by omega, fun d => by rw [d] at h1; exact absurd h1 (by decide), fun d => absurd h1 (isN_lt hn d), fun _ => h4⟩
    · have z1 := ih _ _ _ _ _ _ (ok.k (k := 1) hp (by decide) (by decide)) q1
      have z2 := ih _ _ _ _ _ _ (ok.k (k := 2) hp (by decide) (by decide)) q2
      have z3 := ih _ _ _ _ _ _ (ok.k (k := 3) hp (by decide) (by decide)) q3
      have hN : isN n c := by
        rcases hc with g | g | g
        · exact absurd g c1
        · exact g
        · exact absurd (isT_ge g) c2
      obtain ⟨-, hx, hyz⟩ := ok.1 p hp
      have y1 := z1.2.1 hx
      refine ⟨by omega, fun _ => ?_, fun d => absurd d c1, fun _ => by omega, fun d => absurd hN d⟩
      rcases hyz with ⟨hy, hz, hx'⟩ | ⟨hy, hz⟩
      · have e1 := z1.2.2.2.2 hx'
        have e2 := z2.2.2.2.2 (fun d => isS_m1 (t := t) (Or.inl d) hy)
        have e3 := z3.2.2.2.2 (fun d => isS_m1 (t := t) (Or.inl d) hz)
        omega
      · have y2 := z2.2.1 hy
        rcases hz with hz | hz
        · have e3 := z3.2.2.2.2 (fun d => isS_m1 (t := t) (Or.inl d) hz)
          have e4 := z3.2.2.1 hz
          omega
        · have y3 := z3.2.1 hz
          omega
theorem TV_loc (hn : n ≤ 6) (ok : okP n t P F) : ∀ f c b len i i' r, (c = -1 ∨ isS n t c) → TV fit P F NP NF NS f c b len i i' r → (∀ j, i ≤ j → j < i' → NP j = NP' j ∧ NF j = NF' j ∧ NS j = NS' j) → TV fit P F NP' NF' NS' f c b len i i' r := by
  intro f
  induction f with
  | zero => intro c b len i i' r _ h; exact h.elim
  | succ f ih =>
    intro c b len i i' r hc h hj
    rcases h with h | h | ⟨c1, c2, p, u, v, i1, i2, r1, r2, r3, hp, el, n0, n1, n2, huv, q1, q2, q3, er⟩
    · exact Or.inl h
    · exact Or.inr (Or.inl h)
    · have z1 := TV_sz hn ok f _ _ _ _ _ _ (ok.k (k := 1) hp (by decide) (by decide)) q1
      have z2 := TV_sz hn ok f _ _ _ _ _ _ (ok.k (k := 2) hp (by decide) (by decide)) q2
      have z3 := TV_sz hn ok f _ _ _ _ _ _ (ok.k (k := 3) hp (by decide) (by decide)) q3
      have h0 := hj i (by omega) (by omega)
      refine Or.inr (Or.inr ⟨c1, c2, p, u, v, i1, i2, r1, r2, r3, hp, el, by rw [← h0.1]; exact n0, by rw [← h0.2.1]; exact n1, by rw [← h0.2.2]; exact n2, huv, ?_, ?_, ?_, er⟩)
      · exact ih _ _ _ _ _ _ (ok.k (k := 1) hp (by decide) (by decide)) q1 (fun j a b => hj j (by omega) (by omega))
      · exact ih _ _ _ _ _ _ (ok.k (k := 2) hp (by decide) (by decide)) q2 (fun j a b => hj j (by omega) (by omega))
      · exact ih _ _ _ _ _ _ (ok.k (k := 3) hp (by decide) (by decide)) q3 (fun j a b => hj j (by omega) (by omega))
theorem TX_loc (hn : n ≤ 6) (ok : okP n t P F) : ∀ f c b len i i' r, (c = -1 ∨ isS n t c) → TX fit P F NP NF NS NU NV f c b len i i' r → (∀ j, i ≤ j → j < i' → NP j = NP' j ∧ NF j = NF' j ∧ NS j = NS' j ∧ NU j = NU' j ∧ NV j = NV' j) → TX fit P F NP' NF' NS' NU' NV' f c b len i i' r := by
  intro f
  induction f with
  | zero => intro c b len i i' r _ h; exact h.elim
  | succ f ih =>
    intro c b len i i' r hc h hj
    rcases h with h | h | ⟨c1, c2, p, u, v, i1, i2, r1, r2, r3, hp, el, n0, n1, n2, n3, n4, huv, q1, q2, q3, er⟩
    · exact Or.inl h
    · exact Or.inr (Or.inl h)
    · have z1 := TX_sz hn ok f _ _ _ _ _ _ (ok.k (k := 1) hp (by decide) (by decide)) q1
      have z2 := TX_sz hn ok f _ _ _ _ _ _ (ok.k (k := 2) hp (by decide) (by decide)) q2
      have z3 := TX_sz hn ok f _ _ _ _ _ _ (ok.k (k := 3) hp (by decide) (by decide)) q3
      have h0 := hj i (by omega) (by omega)
      refine Or.inr (Or.inr ⟨c1, c2, p, u, v, i1, i2, r1, r2, r3, hp, el, by rw [← h0.1]; exact n0, by rw [← h0.2.1]; exact n1, by rw [← h0.2.2.1]; exact n2, by rw [← h0.2.2.2.1]; exact n3, by rw [← h0.2.2.2.2]; exact n4, huv, ?_, ?_, ?_, er⟩)
      · exact ih _ _ _ _ _ _ (ok.k (k := 1) hp (by decide) (by decide)) q1 (fun j a b => hj j (by omega) (by omega))
      · exact ih _ _ _ _ _ _ (ok.k (k := 2) hp (by decide) (by decide)) q2 (fun j a b => hj j (by omega) (by omega))
      · exact ih _ _ _ _ _ _ (ok.k (k := 3) hp (by decide) (by decide)) q3 (fun j a b => hj j (by omega) (by omega))

theorem rem_lt {v1 v2 v3 r1 r2 r3 : Nat} (h1 : r1 < v1) (h2 : r2 < v2) (h3 : r3 < v3) : (r1 * v2 + r2) * v3 + r3 < v1 * (v2 * v3) := by
  have := key_le (wk := v3) h1 h2
  rw [Nat.mul_assoc v1] at this
  omega
theorem bf_pj {c : Int32} {len b p u v : Nat} (huv : u + v ≤ len) : bf fit P F c len b p u v + pr fit (TT fit P F) F p len b u v ≤ sN (fun q => if F (4 * q) = c then tp fit (TT fit P F) F q len b else 0) p + tp fit (TT fit P F) F p len b := by
  have e : pj fit (TT fit P F) F p len b u v = pr fit (TT fit P F) F p len b u v := if_pos huv
  have h1 : sN (fun v => pj fit (TT fit P F) F p len b u v) (v + 1) ≤ sN (fun v => pj fit (TT fit P F) F p len b u v) (len + 1) := sN_mono (by omega)
  have h2 : sN (fun u => sN (fun v => pj fit (TT fit P F) F p len b u v) (len + 1)) (u + 1) ≤ sN (fun u => sN (fun v => pj fit (TT fit P F) F p len b u v) (len + 1)) (len + 1) := sN_mono (by omega)
  have h1' : sN (fun v => pj fit (TT fit P F) F p len b u v) v + pj fit (TT fit P F) F p len b u v ≤ sN (fun v => pj fit (TT fit P F) F p len b u v) (len + 1) := h1
  have h2' : sN (fun u => sN (fun v => pj fit (TT fit P F) F p len b u v) (len + 1)) u + sN (fun v => pj fit (TT fit P F) F p len b u v) (len + 1) ≤ tp fit (TT fit P F) F p len b := h2
  unfold bf
  omega
theorem bf_le (hn : n ≤ 6) (ok : okP n t P F) {c : Int32} {len b p u v : Nat} (hp : p < P) (el : F (4 * p) = c) (huv : u + v ≤ len) : bf fit P F c len b p u v + pr fit (TT fit P F) F p len b u v ≤ TT fit P F len b c := by
  have h := bf_pj (fit := fit) (P := P) (F := F) (c := c) (b := b) (p := p) huv
  have h3 : sN (fun q => if F (4 * q) = c then tp fit (TT fit P F) F q len b else 0) (p + 1) ≤ sN (fun q => if F (4 * q) = c then tp fit (TT fit P F) F q len b else 0) P := sN_mono (by omega)
  have h3' : sN (fun q => if F (4 * q) = c then tp fit (TT fit P F) F q len b else 0) p + (if F (4 * p) = c then tp fit (TT fit P F) F p len b else 0) ≤ sN (fun q => if F (4 * q) = c then tp fit (TT fit P F) F q len b else 0) P := h3
  rw [if_pos el, ← TT_eq hn ok] at h3'
  omega
theorem bf_mo {c : Int32} {len b p u v p' u' v' : Nat} (el : F (4 * p) = c) (huv : u + v ≤ len) (huv' : u' + v' ≤ len) (h : p < p' ∨ (p = p' ∧ (u < u' ∨ (u = u' ∧ v < v')))) : bf fit P F c len b p u v + pr fit (TT fit P F) F p len b u v ≤ bf fit P F c len b p' u' v' := by
  have e : pj fit (TT fit P F) F p len b u v = pr fit (TT fit P F) F p len b u v := if_pos huv
  rcases h with h | ⟨rfl, h | ⟨rfl, h⟩⟩
  · have h1 := bf_pj (fit := fit) (P := P) (F := F) (c := c) (b := b) (p := p) huv
    have h3 : sN (fun q => if F (4 * q) = c then tp fit (TT fit P F) F q len b else 0) (p + 1) ≤ sN (fun q => if F (4 * q) = c then tp fit (TT fit P F) F q len b else 0) p' := sN_mono (by omega)
    have h3' : sN (fun q => if F (4 * q) = c then tp fit (TT fit P F) F q len b else 0) p + (if F (4 * p) = c then tp fit (TT fit P F) F p len b else 0) ≤ sN (fun q => if F (4 * q) = c then tp fit (TT fit P F) F q len b else 0) p' := h3
    rw [if_pos el] at h3'
    unfold bf at h1 ⊢
    omega
  · have h1 : sN (fun v => pj fit (TT fit P F) F p len b u v) (v + 1) ≤ sN (fun v => pj fit (TT fit P F) F p len b u v) (len + 1) := sN_mono (by omega)
    have h1' : sN (fun v => pj fit (TT fit P F) F p len b u v) v + pj fit (TT fit P F) F p len b u v ≤ sN (fun v => pj fit (TT fit P F) F p len b u v) (len + 1) := h1
    have h2 : sN (fun u => sN (fun v => pj fit (TT fit P F) F p len b u v) (len + 1)) (u + 1) ≤ sN (fun u => sN (fun v => pj fit (TT fit P F) F p len b u v) (len + 1)) u' := sN_mono (by omega)
    have h2' : sN (fun u => sN (fun v => pj fit (TT fit P F) F p len b u v) (len + 1)) u + sN (fun v => pj fit (TT fit P F) F p len b u v) (len + 1) ≤ sN (fun u => sN (fun v => pj fit (TT fit P F) F p len b u v) (len + 1)) u' := h2
    unfold bf
    omega
  · have h1 : sN (fun v => pj fit (TT fit P F) F p len b u v) (v + 1) ≤ sN (fun v => pj fit (TT fit P F) F p len b u v) v' := sN_mono (by omega)
    have h1' : sN (fun v => pj fit (TT fit P F) F p len b u v) v + pj fit (TT fit P F) F p len b u v ≤ sN (fun v => pj fit (TT fit P F) F p len b u v) v' := h1
    unfold bf
    omega
theorem bf_un {c : Int32} {len b p u v p' u' v' R : Nat} (el : F (4 * p) = c) (el' : F (4 * p') = c) (huv : u + v ≤ len) (huv' : u' + v' ≤ len) (h1 : bf fit P F c len b p u v ≤ R) (h2 : R < bf fit P F c len b p u v + pr fit (TT fit P F) F p len b u v) (h1' : bf fit P F c len b p' u' v' ≤ R) (h2' : R < bf fit P F c len b p' u' v' + pr fit (TT fit P F) F p' len b u' v') : p = p' ∧ u = u' ∧ v = v' := by
  refine Classical.byContradiction (fun d => ?_)
  by_cases c1 : p < p' ∨ (p = p' ∧ (u < u' ∨ (u = u' ∧ v < v')))
  · have := bf_mo (fit := fit) (P := P) (b := b) el huv huv' c1
    omega
  · have := bf_mo (fit := fit) (P := P) (b := b) el' huv' huv (show p' < p ∨ (p' = p ∧ (u' < u ∨ (u' = u ∧ v' < v))) by omega)
    omega
theorem TV_lt (hn : n ≤ 6) (ok : okP n t P F) : ∀ f c b len i i' r, (c = -1 ∨ isS n t c) → TV fit P F NP NF NS f c b len i i' r → r < vl fit (TT fit P F) len b c := by
  intro f
  induction f with
  | zero => intro c b len i i' r _ h; exact h.elim
  | succ f ih =>
    intro c b len i i' r hc h
    rcases h with ⟨h1, h2, h3, h4⟩ | ⟨h1, h2, h3, h4, h5⟩ | ⟨c1, c2, p, u, v, i1, i2, r1, r2, r3, hp, el, n0, n1, n2, huv, q1, q2, q3, er⟩
    · rw [h1, vl_m1, if_pos h2, h4]
      decide
    · rw [vl_T h1, if_pos ⟨h2, h3⟩, h5]
      decide
    · have k1 := ih _ _ _ _ _ _ (ok.k (k := 1) hp (by decide) (by decide)) q1
      have k2 := ih _ _ _ _ _ _ (ok.k (k := 2) hp (by decide) (by decide)) q2
      have k3 := ih _ _ _ _ _ _ (ok.k (k := 3) hp (by decide) (by decide)) q3
      have hN : isN n c := by
        rcases hc with g | g | g
        · exact absurd g c1
        · exact g
        · exact absurd (isT_ge g) c2
      have hr := rem_lt k1 k2 k3
      have hb := bf_le (fit := fit) (b := b) hn ok hp el huv
      unfold pr at hb
      have hlt : r < TT fit P F len b c := by omega
      rw [vl_N hn hN, if_neg (fun e => by rw [e, TT_0 hn ok] at hlt; omega)]
      exact hlt
theorem rem_un {v2 v3 r1 r2 r3 s1 s2 s3 : Nat} (h2 : r2 < v2) (h3 : r3 < v3) (g2 : s2 < v2) (g3 : s3 < v3) (e : (r1 * v2 + r2) * v3 + r3 = (s1 * v2 + s2) * v3 + s3) : r1 = s1 ∧ r2 = s2 ∧ r3 = s3 := by
  have e3 : r3 = s3 := by
    have := congrArg (· % v3) e
    simp only [Nat.add_comm _ r3, Nat.add_comm _ s3, Nat.add_mul_mod_self_right, Nat.mod_eq_of_lt h3, Nat.mod_eq_of_lt g3] at this
    exact this
  have e12 : r1 * v2 + r2 = s1 * v2 + s2 := by
    subst e3
    exact Nat.eq_of_mul_eq_mul_right (show 0 < v3 by omega) (Nat.add_right_cancel e)
  have e2 : r2 = s2 := by
    have := congrArg (· % v2) e12
    simp only [Nat.add_comm _ r2, Nat.add_comm _ s2, Nat.add_mul_mod_self_right, Nat.mod_eq_of_lt h2, Nat.mod_eq_of_lt g2] at this
    exact this
  subst e2
  exact ⟨Nat.eq_of_mul_eq_mul_right (show 0 < v2 by omega) (Nat.add_right_cancel e12), rfl, e3⟩
theorem TV_un (hn : n ≤ 6) (ok : okP n t P F) : ∀ f c b len i i' i'' r, (c = -1 ∨ isS n t c) → TV fit P F NP NF NS f c b len i i' r → TV fit P F NP' NF' NS' f c b len i i'' r → i'' = i' ∧ ∀ j, i ≤ j → j < i' → NP j = NP' j ∧ NF j = NF' j ∧ NS j = NS' j := by
  intro f
  induction f with
  | zero => intro c b len i i' i'' r _ h; exact h.elim
  | succ f ih =>
    intro c b len i i' i'' r hc h h'
    rcases h with ⟨h1, h2, h3, h4⟩ | ⟨h1, h2, h3, h4, h5⟩ | ⟨c1, c2, p, u, v, i1, i2, r1, r2, r3, hp, el, n0, n1, n2, huv, q1, q2, q3, er⟩
    · rcases h' with ⟨g1, g2, g3, g4⟩ | ⟨g1, g2, g3, g4, g5⟩ | ⟨d1, d2, _⟩
      · exact ⟨by omega, fun j a b => by omega⟩
      · rw [h1] at g1
        exact absurd g1 (by decide)
      · exact absurd h1 d1
    · rcases h' with ⟨g1, g2, g3, g4⟩ | ⟨g1, g2, g3, g4, g5⟩ | ⟨d1, d2, _⟩
      · rw [g1] at h1
        exact absurd h1 (by decide)
      · exact ⟨by omega, fun j a b => by omega⟩
      · exact absurd h1 d2
    · rcases h' with ⟨g1, g2, g3, g4⟩ | ⟨g1, g2, g3, g4, g5⟩ | ⟨d1, d2, p', u', v', i1', i2', s1, s2, s3, hp', el', m0, m1, m2, huv', w1, w2, w3, er'⟩
      · exact absurd g1 c1
      · exact absurd g1 c2
      · have o1 := ok.k (k := 1) hp (by decide) (by decide)
        have o2 := ok.k (k := 2) hp (by decide) (by decide)
        have o3 := ok.k (k := 3) hp (by decide) (by decide)
        have k1 := TV_lt hn ok _ _ _ _ _ _ _ o1 q1
        have k2 := TV_lt hn ok _ _ _ _ _ _ _ o2 q2
        have k3 := TV_lt hn ok _ _ _ _ _ _ _ o3 q3
        have l1 := TV_lt hn ok _ _ _ _ _ _ _ (ok.k (k := 1) hp' (by decide) (by decide)) w1
        have l2 := TV_lt hn ok _ _ _ _ _ _ _ (ok.k (k := 2) hp' (by decide) (by decide)) w2
        have l3 := TV_lt hn ok _ _ _ _ _ _ _ (ok.k (k := 3) hp' (by decide) (by decide)) w3
        have hr := rem_lt k1 k2 k3
        have hr' := rem_lt l1 l2 l3
        obtain ⟨ep, eu, ev⟩ := bf_un (fit := fit) (P := P) (b := b) el el' huv huv' (R := r) (by omega) (by unfold pr; omega) (by omega) (by unfold pr; omega)
        subst ep eu ev
        obtain ⟨f1, f2, f3⟩ := rem_un (r1 := r1) (s1 := s1) k2 k3 l2 l3 (by omega)
        subst f1 f2 f3
        have x1 := ih _ _ _ _ _ _ _ o1 q1 w1
        obtain ⟨j1, x1⟩ := x1
        subst j1
        obtain ⟨j2, x2⟩ := ih _ _ _ _ _ _ _ o2 q2 w2
        subst j2
        obtain ⟨j3, x3⟩ := ih _ _ _ _ _ _ _ o3 q3 w3
        refine ⟨j3, fun j a b => ?_⟩
        by_cases e0 : j = i
        · rw [e0]
          exact ⟨n0.trans m0.symm, n1.trans m1.symm, n2.trans m2.symm⟩
        · by_cases e1 : j < i1'
          · exact x1 j (by omega) e1
          · by_cases e2 : j < i2'
            · exact x2 j (by omega) e2
            · exact x3 j (by omega) b
theorem TV_dt {W W' : Nat → Int32} (hn : n ≤ 6) (hP : P ≤ 24) (ok : okP n t P F) : ∀ f c b len len' i i' i'' r r', (c = -1 ∨ isS n t c) → len ≤ 8 → len' ≤ 8 → TV (fitW W) P F NP NF NS f c b len i i' r → TV (fitW W') P F NP NF NS f c b len' i i'' r' → len' = len ∧ i'' = i' ∧ ∀ q, q < len → W (b + q) = W' (b + q) := by
  intro f
  induction f with
  | zero => intro c b len len' i i' i'' r r' _ _ _ h; exact h.elim
  | succ f ih =>
    intro c b len len' i i' i'' r r' hc hl hl' h h'
    rcases h with ⟨h1, h2, h3, h4⟩ | ⟨h1, h2, h3, h4, h5⟩ | ⟨c1, c2, p, u, v, i1, i2, r1, r2, r3, hp, el, n0, n1, n2, huv, q1, q2, q3, er⟩
    · rcases h' with ⟨g1, g2, g3, g4⟩ | ⟨g1, g2, g3, g4, g5⟩ | ⟨d1, d2, _⟩
      · exact ⟨by omega, by omega, fun q hq => by omega⟩
      · rw [h1] at g1
        exact absurd g1 (by decide)
      · exact absurd h1 d1
    · rcases h' with ⟨g1, g2, g3, g4⟩ | ⟨g1, g2, g3, g4, g5⟩ | ⟨d1, d2, _⟩
      · rw [g1] at h1
        exact absurd h1 (by decide)
      · refine ⟨by omega, by omega, fun q hq => ?_⟩
        rw [show q = 0 by omega]
        exact (of_decide_eq_true h3).trans (of_decide_eq_true g3).symm
      · exact absurd h1 d2
    · rcases h' with ⟨g1, g2, g3, g4⟩ | ⟨g1, g2, g3, g4, g5⟩ | ⟨d1, d2, p', u', v', i1', i2', s1, s2, s3, hp', el', m0, m1, m2, huv', w1, w2, w3, er'⟩
      · exact absurd g1 c1
      · exact absurd g1 c2
      · have ep : p' = p := (nI_eq (by omega) (by omega)).mp (m0.symm.trans n0)
        subst ep
        have ee : len' = len := (nI_eq (by omega) (by omega)).mp (m2.symm.trans n2)
        subst ee
        have o1 := ok.k (k := 1) hp (by decide) (by decide)
        have o2 := ok.k (k := 2) hp (by decide) (by decide)
        have o3 := ok.k (k := 3) hp (by decide) (by decide)
        obtain ⟨eu, j1, x1⟩ := ih _ _ _ _ _ _ _ _ _ o1 (by omega) (by omega) q1 w1
        subst eu j1
        obtain ⟨ev, j2, x2⟩ := ih _ _ _ _ _ _ _ _ _ o2 (by omega) (by omega) q2 w2
        subst ev j2
        obtain ⟨ew, j3, x3⟩ := ih _ _ _ _ _ _ _ _ _ o3 (by omega) (by omega) q3 w3
        refine ⟨rfl, j3, fun q hq => ?_⟩
        by_cases e1 : q < u'
        · exact x1 q e1
        · by_cases e2 : q < u' + v'
          · have := x2 (q - u') (by omega)
            rw [show b + u' + (q - u') = b + q by omega] at this
            exact this
          · have := x3 (q - u' - v') (by omega)
            rw [show b + u' + v' + (q - u' - v') = b + q by omega] at this
            exact this
theorem pr_loc (hn : n ≤ 6) (ok : okP n t P F) {p len b i j : Nat} (hp : p < P) (hij : i + j ≤ len) (hf : ∀ q x, q < len → fit (b + q) x = fit' (b + q) x) : pr fit (TT fit P F) F p len b i j = pr fit' (TT fit' P F) F p len b i j := by
  refine Nat.le_antisymm (pr_le hn ok hp hij (fun q x hq g => (hf q x hq) ▸ g) (fun l d c hl hd => Nat.le_of_eq (TT_loc hn ok (fun q x hq => ?_)))) (pr_le hn ok hp hij (fun q x hq g => (hf q x hq).symm ▸ g) (fun l d c hl hd => Nat.le_of_eq (TT_loc hn ok (fun q x hq => ?_))))
  · have := hf (d + q) x (by omega)
    rw [← Nat.add_assoc] at this
    exact this
  · have := hf (d + q) x (by omega)
    rw [← Nat.add_assoc] at this
    exact this.symm
theorem pj_loc (hn : n ≤ 6) (ok : okP n t P F) {p len b i j : Nat} (hp : p < P) (hf : ∀ q x, q < len → fit (b + q) x = fit' (b + q) x) : pj fit (TT fit P F) F p len b i j = pj fit' (TT fit' P F) F p len b i j := by
  unfold pj
  by_cases hij : i + j ≤ len
  · rw [if_pos hij, if_pos hij, pr_loc hn ok hp hij hf]
  · rw [if_neg hij, if_neg hij]
theorem bf_loc (hn : n ≤ 6) (ok : okP n t P F) {c : Int32} {p len b u v : Nat} (hp : p < P) (hf : ∀ q x, q < len → fit (b + q) x = fit' (b + q) x) : bf fit P F c len b p u v = bf fit' P F c len b p u v := by
  have hj : ∀ {q i j : Nat}, q < P → pj fit (TT fit P F) F q len b i j = pj fit' (TT fit' P F) F q len b i j := fun hq => pj_loc hn ok hq hf
  unfold bf
  refine congr (congrArg _ (sN_congr (fun q hq => ?_))) (congr (congrArg _ (sN_congr (fun i _ => sN_congr (fun j _ => hj hp)))) (sN_congr (fun j _ => hj hp)))
  by_cases e : F (4 * q) = c
  · rw [if_pos e, if_pos e]
    unfold tp
    exact sN_congr (fun i _ => sN_congr (fun j _ => hj (by omega)))
  · rw [if_neg e, if_neg e]
theorem TX_fit (hn : n ≤ 6) (ok : okP n t P F) : ∀ f c b len i i' r, TX fit P F NP NF NS NU NV f c b len i i' r → (∀ q x, q < len → fit (b + q) x = fit' (b + q) x) → TX fit' P F NP NF NS NU NV f c b len i i' r := by
  intro f
  induction f with
  | zero => intro c b len i i' r h; exact h.elim
  | succ f ih =>
    intro c b len i i' r h hf
    rcases h with h | ⟨h1, h2, h3, h4, h5⟩ | ⟨c1, c2, p, u, v, i1, i2, r1, r2, r3, hp, el, n0, n1, n2, n3, n4, huv, q1, q2, q3, er⟩
    · exact Or.inl h
    · exact Or.inr (Or.inl ⟨h1, h2, (hf 0 (c - 10) (by omega)) ▸ h3, h4, h5⟩)
    · have f2 : ∀ q x, q < v → fit (b + u + q) x = fit' (b + u + q) x := fun q x hq => by
        have := hf (u + q) x (by omega)
        rw [← Nat.add_assoc] at this
        exact this
      have f3 : ∀ q x, q < len - u - v → fit (b + u + v + q) x = fit' (b + u + v + q) x := fun q x hq => by
        have := hf (u + v + q) x (by omega)
        rw [← Nat.add_assoc, ← Nat.add_assoc] at this
        exact this
      rw [bf_loc (fit' := fit') hn ok hp hf, vl_loc (fit' := fit') hn ok f2, vl_loc (fit' := fit') hn ok f3] at er
      exact Or.inr (Or.inr ⟨c1, c2, p, u, v, i1, i2, r1, r2, r3, hp, el, n0, n1, n2, n3, n4, huv, ih _ _ _ _ _ _ q1 (fun q x hq => hf q x (by omega)), ih _ _ _ _ _ _ q2 f2, ih _ _ _ _ _ _ q3 f3, er⟩)
end TR
end
