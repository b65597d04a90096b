/-! THE MATHEMATICS, 10: productions come and go. -/
def dup (P : Nat) (F : Nat → Int32) (a b c d : Int32) : Prop := ∃ p, p < P ∧ F (4 * p) = a ∧ F (4 * p + 1) = b ∧ F (4 * p + 2) = c ∧ F (4 * p + 3) = d
theorem dup_s {P : Nat} {F : Nat → Int32} {a b c d : Int32} : dup (P + 1) F a b c d ↔ dup P F a b c d ∨ (F (4 * P) = a ∧ F (4 * P + 1) = b ∧ F (4 * P + 2) = c ∧ F (4 * P + 3) = d) := by
  constructor
  · rintro ⟨p, hp, h⟩
    by_cases e : p = P
    · subst e
      exact Or.inr h
    · exact Or.inl ⟨p, by omega, h⟩
  · rintro (⟨p, hp, h⟩ | h)
    · exact ⟨p, by omega, h⟩
    · exact ⟨P, by omega, h⟩
theorem c_holds {S : gS} {n t st P : Nat} (h : cG S n t st P) {a b c d : Int32} {Post : Int32 → Prop} (h1 : dup P (gA S 10) a b c d → Post 1) (h0 : ¬ dup P (gA S 10) a b c d → Post 0) : pX1_holds a b c d S Post := by
  have e4 := h.2.2.2.1
  have b6 := h.2.2.2.2.2.2.2.2.2
  unfold pX1_holds
  refine lp_ex (fun k x => x = nI k ∧ ¬ dup k (gA S 10) a b c d) P ?_ ⟨rfl, fun ⟨p, hp, _⟩ => absurd hp (by omega)⟩
  rintro k x hk ⟨rfl, hn⟩
  by_cases hkP : k < P
  · by_cases hd : gA S 10 (4 * k) = a ∧ gA S 10 (4 * k + 1) = b ∧ gA S 10 (4 * k + 2) = c ∧ gA S 10 (4 * k + 3) = d
    · refine Or.inl (fun L => ?_)
      unfold bX1_holds_3
      rw [e4]
      refine ⟨fun c => absurd c (nI_ge hkP (by omega)), fun _ => c_sym h (k := 0) hkP (by omega) ⟨fun c => absurd hd.1 c, fun _ => c_sym h (k := 1) hkP (by omega) ⟨fun c => absurd hd.2.1 c, fun _ => c_sym h (k := 2) hkP (by omega) ⟨fun c => absurd hd.2.2.1 c, fun _ => c_sym h (k := 3) hkP (by omega) ⟨fun c => absurd hd.2.2.2 c, fun _ => h1 ⟨k, hkP, hd⟩⟩⟩⟩⟩⟩
    · refine Or.inr ⟨hkP, fun L hL => ?_⟩
      have hn' : ¬ dup (k + 1) (gA S 10) a b c d := fun e => (dup_s.mp e).elim hn hd
      have hL' : ∀ y : Int32, y = nI k + 1 → L y := fun y ey => hL y ⟨by rw [ey, nI_1], hn'⟩
      unfold bX1_holds_3
      rw [e4]
      exact ⟨fun c => absurd c (nI_ge hkP (by omega)), fun _ => c_sym h (k := 0) hkP (by omega) ⟨fun _ => hL', fun d0 => c_sym h (k := 1) hkP (by omega) ⟨fun _ => hL', fun d1 => c_sym h (k := 2) hkP (by omega) ⟨fun _ => hL', fun d2 => c_sym h (k := 3) hkP (by omega) ⟨fun _ => hL', fun d3 => absurd ⟨d0, d1, d2, d3⟩ hd⟩⟩⟩⟩⟩
  · have e : k = P := by omega
    subst e
    refine Or.inl (fun L => ?_)
    unfold bX1_holds_3
    rw [e4]
    exact ⟨fun _ => h0 hn, fun c => absurd (nI_le (Nat.le_refl k) (by omega)) c⟩
/-- the model's rows hold the class's symbols -/
def rowsEq (S : gS) (F : Nat → Int32) : Prop := ∀ p k, p < 24 → k < 4 → gA S (16 + p) k = F (4 * p + k)
theorem m_wr77 {S : gS} {n t st P : Nat} {F : Nat → Int32} (h : rgG (gI S 1) (gI S 2) (gI S 3) (gI S 4) n t st P) (hF : rowsEq S F) {a b c d y z : Int32} {B : Prop} {Post : Int32 → Prop} (hB : (y ||| z = 1 ∧ B) ∨ (y ||| z = 0 ∧ ¬ B)) (h1 : B ∨ dup P F a b c d → Post 1) (h0 : ¬ (B ∨ dup P F a b c d) → Post 0) : jX9_isWrong_77 a b c d S Post y z := by
  obtain ⟨e1, e2, e3, e4, b1, b2, b3, b4, b5, b6⟩ := h
  unfold jX9_isWrong_77
  intro x5 e5
  refine lp_inv (fun k x => x.2 = nI k ∧ ((x.1 = 1 ∧ (B ∨ dup k F a b c d)) ∨ (x.1 = 0 ∧ ¬ (B ∨ dup k F a b c d)))) P ?_ ?_ ⟨rfl, ?_⟩
  · rintro k ⟨w, x⟩ L hk ⟨ex, hw⟩ hL
    dsimp only at ex hw
    subst ex
    have f0 : gA S (16 + k) 0 = F (4 * k) := hF k 0 (by omega) (by omega)
    have f1 : gA S (16 + k) 1 = F (4 * k + 1) := hF k 1 (by omega) (by omega)
    have f2 : gA S (16 + k) 2 = F (4 * k + 2) := hF k 2 (by omega) (by omega)
    have f3 : gA S (16 + k) 3 = F (4 * k + 3) := hF k 3 (by omega) (by omega)
    have no : ¬ (F (4 * k) = a ∧ F (4 * k + 1) = b ∧ F (4 * k + 2) = c ∧ F (4 * k + 3) = d) → ∀ u v : Int32, u = w ||| 0 → v = nI k + 1 → L (u, v) := fun hd u v eu ev => hL _ ⟨by rw [ev, nI_1], by
      have e9 : (B ∨ dup (k + 1) F a b c d) ↔ (B ∨ dup k F a b c d) := by rw [dup_s]; exact ⟨fun q => q.elim Or.inl (fun q => q.elim Or.inr (fun q => absurd q hd)), fun q => q.elim Or.inl (fun q => Or.inr (Or.inl q))⟩
      dsimp only
      rw [e9, eu]
      rcases hw with ⟨hw, h5⟩ | ⟨hw, h5⟩
      · exact Or.inl ⟨by rw [hw]; rfl, h5⟩
      · exact Or.inr ⟨by rw [hw]; rfl, h5⟩⟩
    unfold bX9_isWrong_83
    rw [e4, nI_clamp (by omega)]
    simp only [show (0 : Int32).toNatClampNeg = 0 from rfl, show (1 : Int32).toNatClampNeg = 1 from rfl, show (2 : Int32).toNatClampNeg = 2 from rfl, show (3 : Int32).toNatClampNeg = 3 from rfl]
    rw [f0, f1, f2, f3]
    refine ⟨fun c => absurd c (nI_ge hk (by omega)), fun _ => ⟨vp_in_nI (by omega) (by decide), vp_in_nI (n := 0) (by decide) (by decide), fun d0 u eu v ev => no (fun q => d0 q.1) u v eu ev, fun d0 => ⟨vp_in_nI (by omega) (by decide), vp_in_nI (n := 1) (by decide) (by decide), fun d1 u eu v ev => no (fun q => d1 q.2.1) u v eu ev, fun d1 => ⟨vp_in_nI (by omega) (by decide), vp_in_nI (n := 2) (by decide) (by decide), fun d2 u eu v ev => no (fun q => d2 q.2.2.1) u v eu ev, fun d2 => ⟨vp_in_nI (by omega) (by decide), vp_in_nI (n := 3) (by decide) (by decide), fun d3 u eu v ev => no (fun q => d3 q.2.2.2) u v eu ev, fun d3 u eu v ev => hL _ ⟨by rw [ev, nI_1], Or.inl ⟨?_, Or.inr (dup_s.mpr (Or.inr ⟨d0, d1, d2, d3⟩))⟩⟩⟩⟩⟩⟩⟩
    rcases hw with ⟨hw, -⟩ | ⟨hw, -⟩
    · rw [eu, hw]; rfl
    · rw [eu, hw]; rfl
  · rintro ⟨w, x⟩ L ⟨ex, hw⟩
    dsimp only at ex hw
    subst ex
    unfold bX9_isWrong_83
    rw [e4]
    refine ⟨fun _ => ?_, fun c => absurd (nI_le (Nat.le_refl P) (by omega)) c⟩
    rcases hw with ⟨hw, h5⟩ | ⟨hw, h5⟩
    · rw [hw]
      exact ⟨b_11, h1 h5⟩
    · rw [hw]
      exact ⟨b_10, h0 h5⟩
  · have nd : ¬ dup 0 F a b c d := fun ⟨p, hp, _⟩ => absurd hp (by omega)
    rw [e5]
    rcases hB with ⟨q1, q2⟩ | ⟨q1, q2⟩
    · exact Or.inl ⟨q1, Or.inl q2⟩
    · exact Or.inr ⟨q1, fun q => q.elim q2 nd⟩
theorem m_wrong {S : gS} {n t st P : Nat} {F : Nat → Int32} (h : rgG (gI S 1) (gI S 2) (gI S 3) (gI S 4) n t st P) (hF : rowsEq S F) {a b c d : Int32} {Post : Int32 → Prop} (h1 : ¬ (isN n a ∧ isR n t b c d) ∨ dup P F a b c d → Post 1) (h0 : ¬ (¬ (isN n a ∧ isR n t b c d) ∨ dup P F a b c d) → Post 0) : pX9_isWrong a b c d S Post := by
  have n1 : ∀ {v : Int32}, v = -1 → ¬ isS n t v := fun hv c => by
    subst hv
    rcases c with c | c
    · have := c.1; rw [t_m1] at this; omega
    · have := c.1; rw [t_m1] at this; omega
  have w1 : ∀ z : Int32, z = 0 ∨ z = 1 → ¬ (isN n a ∧ isR n t b c d) → jX9_isWrong_77 a b c d S Post 1 z := fun z hz hn => m_wr77 h hF (B := ¬ (isN n a ∧ isR n t b c d)) (Or.inl ⟨by rcases hz with rfl | rfl <;> rfl, hn⟩) h1 h0
  have w49 : ¬ (isN n a ∧ isR n t b c d) → jX9_isWrong_49 a b c d S Post 1 := fun hn => by
    unfold jX9_isWrong_49
    exact ⟨fun _ => w1 0 (Or.inl rfl) hn, fun _ => ⟨fun _ => w1 1 (Or.inr rfl) hn, fun _ => m_isN h (fun _ => ⟨fun c => absurd c (by decide), fun _ => w1 1 (Or.inr rfl) hn⟩) (fun _ => ⟨fun _ => w1 0 (Or.inl rfl) hn, fun c => absurd rfl c⟩)⟩⟩
  have ok49 : isN n a → isS n t b → (c = -1 ∨ isS n t c) → (d = -1 ∨ isS n t d) → jX9_isWrong_49 a b c d S Post 0 := fun ha hb hc hd => by
    unfold jX9_isWrong_49
    refine ⟨fun c1 => m_wr77 h hF (B := ¬ (isN n a ∧ isR n t b c d)) (Or.inr ⟨rfl, fun q => q ⟨ha, hb, Or.inr ⟨hc.resolve_left c1, hd⟩⟩⟩) h1 h0, fun c1 => ⟨fun d1 => m_wr77 h hF (B := ¬ (isN n a ∧ isR n t b c d)) (Or.inl ⟨rfl, fun q => ?_⟩) h1 h0, fun d1 => m_isN h (fun e => ⟨fun c => absurd c (by decide), fun _ => m_wr77 h hF (B := ¬ (isN n a ∧ isR n t b c d)) (Or.inl ⟨rfl, fun q => ?_⟩) h1 h0⟩) (fun e => ⟨fun _ => m_wr77 h hF (B := ¬ (isN n a ∧ isR n t b c d)) (Or.inr ⟨rfl, fun q => q ⟨ha, hb, Or.inl ⟨c1, d1, e⟩⟩⟩) h1 h0, fun c => absurd rfl c⟩)⟩⟩
    · rcases q.2.2 with q | q
      · exact d1 q.2.1
      · exact n1 c1 q.1
    · rcases q.2.2 with q | q
      · exact q.2.2 e
      · exact n1 c1 q.1
  have w29 : isN n a → isS n t b → (c = -1 ∨ isS n t c) → jX9_isWrong_29 a b c d S Post := fun ha hb hc => by
    unfold jX9_isWrong_29
    refine ⟨fun d1 => ok49 ha hb hc (Or.inl d1), fun d1 => m_isS h (fun e => ⟨fun _ => ok49 ha hb hc (Or.inr e), fun c => absurd c (by decide)⟩) (fun e => ⟨fun c => absurd rfl c, fun _ => w49 (fun q => ?_)⟩)⟩
    rcases q.2.2 with q | q
    · exact d1 q.2.1
    · exact q.2.elim d1 e
  unfold pX9_isWrong
  refine m_isN h (fun ha => ⟨fun c => absurd c (by decide), fun _ => m_isS h (fun hb => ⟨fun c => absurd c (by decide), fun _ => ⟨fun c1 => w29 ha hb (Or.inl c1), fun c1 => m_isS h (fun hc => ⟨fun c => absurd c (by decide), fun _ => w29 ha hb (Or.inr hc)⟩) (fun hc => ⟨fun _ => w49 (fun q => ?_), fun c => absurd rfl c⟩)⟩⟩) (fun hb => ⟨fun _ => w49 (fun q => hb q.2.1), fun c => absurd rfl c⟩)⟩) (fun ha => ⟨fun _ => w49 (fun q => ha q.1), fun c => absurd rfl c⟩)
  rcases q.2.2 with q | q
  · exact c1 q.1
  · exact hc q.1
/-- four symbols written at the place of a production -/
def put4 (P : Nat) (F : Nat → Int32) (a b c d : Int32) : Nat → Int32 := upd (upd (upd (upd F (4 * P) a) (4 * P + 1) b) (4 * P + 2) c) (4 * P + 3) d
theorem s_1 {a1 a2 a3 a4 : Int32} {Sx Sm : gS} (h : Inv Sx Sm) : qL_1 a1 a2 a3 a4 Sx Sm Inv := by
  obtain ⟨g, gc, gw, gv, gl, gt⟩ := id h
  obtain ⟨n, t, st, P, hr, hp, hcl, hcw⟩ := gc
  have hm := m_rg g hr
  have hF : rowsEq Sm (gA Sx 10) := g.2.2.2.2.2.1
  have hr' := hr
  obtain ⟨e1, e2, e3, e4, b1, b2, b3, b4, b5, b6⟩ := hr'
  have e4' : gI Sm 4 = nI P := by rw [g.2.2.2.1, e4]
  have mod : ∀ {Post : Int32 → gS → Prop}, (isN n a1 → isR n t a2 a3 a4 → ¬ dup P (gA Sx 10) a1 a2 a3 a4 → P < 24 → Post (nI P) (uI (uI (uA (uA (uA (uA (uI (uI Sm 0 0) 0 0) (16 + P) 0 a1) (16 + P) 1 a2) (16 + P) 2 a3) (16 + P) 3 a4) 4 (nI (P + 1))) 6 0)) → (isN n a1 → isR n t a2 a3 a4 → ¬ dup P (gA Sx 10) a1 a2 a3 a4 → P = 24 → Post 0 (uI (uI Sm 0 0) 0 2)) → (¬ (isN n a1 ∧ isR n t a2 a3 a4) ∨ dup P (gA Sx 10) a1 a2 a3 a4 → Post 0 (uI Sm 0 1)) → pX9_addProduction a1 a2 a3 a4 Sm Post := by
    intro Post h1 h2 h0
    unfold pX9_addProduction
    refine m_wrong hm hF (fun c => m_f1 ⟨fun _ => h0 c, fun c => absurd c (by decide)⟩) (fun c => m_f0 ⟨fun c => absurd rfl c, fun _ => ?_⟩)
    have c1 : isN n a1 ∧ isR n t a2 a3 a4 := Classical.not_not.mp (fun q => c (Or.inl q))
    have c2 : ¬ dup P (gA Sx 10) a1 a2 a3 a4 := fun q => c (Or.inr q)
    rw [gI_uI, if_neg (by decide), e4']
    unfold jX9_addProduction_33
    refine ⟨fun d => m_f0 ⟨fun _ => ?_, fun c => absurd rfl c⟩, fun d => m_f1 ⟨fun c => absurd c (by decide), fun _ => h2 c1.1 c1.2 c2 ?_⟩⟩
    · have hP : P < 24 := by
        rw [i_24, nI_eq (by omega) (by omega)] at d
        omega
      simp only [forall_eq, gI_uI, gI_uA]
      simp only [show ((4 : Nat) = 0) = False by simp, show ((4 : Nat) = 6) = False by simp, if_false, if_true]
      rw [e4', nI_clamp (by omega), i_1, nI_add, nI_sub (by omega), show P + 1 - 1 = P by omega]
      exact ⟨vp_in_nI hP (by decide), vp_in_nI (n := 0) (by decide) (by decide), vp_in_nI hP (by decide), vp_in_nI (n := 1) (by decide) (by decide), vp_in_nI hP (by decide), vp_in_nI (n := 2) (by decide) (by decide), vp_in_nI hP (by decide), vp_in_nI (n := 3) (by decide) (by decide), h1 c1.1 c1.2 c2 hP⟩
    · rw [i_24, nI_eq (by omega) (by omega)] at d
      exact d
  have cls : ∀ {Post : Int32 → gS → Prop}, (isN n a1 → isR n t a2 a3 a4 → ¬ dup P (gA Sx 10) a1 a2 a3 a4 → P < 24 → Post 0 (uB (uI (uI (uI (uI (sA Sx 10 (put4 P (gA Sx 10) a1 a2 a3 a4)) 4 (nI (P + 1))) 11 0) 13 0) 14 0) 32 (0 : Int32).toNatClampNeg (nI P).toInt64)) → (isN n a1 → isR n t a2 a3 a4 → ¬ dup P (gA Sx 10) a1 a2 a3 a4 → P = 24 → Post 2 Sx) → (¬ (isN n a1 ∧ isR n t a2 a3 a4) ∨ dup P (gA Sx 10) a1 a2 a3 a4 → Post 1 Sx) → pL_addProduction a1 a2 a3 a4 Sx Post := by
    intro Post h1 h2 h0
    unfold pL_addProduction pX8_addProduction
    refine c_isN (S := Sx) hr (fun ca => ⟨fun c => absurd c (by decide), fun _ => c_isR (S := Sx) hr (fun cr => ⟨fun _ => c_holds (S := Sx) hr (fun cd => ⟨fun c => absurd c (by decide), fun _ => Or.inl ⟨rfl, h0 (Or.inr cd)⟩⟩) (fun cd => ⟨fun _ => ⟨fun c => ?_, fun c => Or.inr ⟨rfl, h2 ca cr cd ?_⟩⟩, fun c => absurd rfl c⟩), fun c => absurd c (by decide)⟩) (fun cr => ⟨fun c => absurd rfl c, fun _ => Or.inl ⟨rfl, h0 (Or.inl (fun q => cr q.2))⟩⟩)⟩) (fun ca => ⟨fun _ => Or.inl ⟨rfl, h0 (Or.inl (fun q => ca q.1))⟩, fun c => absurd rfl c⟩)
    · rw [e4, i_24, nI_ltI (by omega) (by omega)] at c
      intro x5 e5
      have f0 : nI P * 4 = nI (4 * P) := by rw [i_4, nI_mul, Nat.mul_comm]
      unfold pX1_add
      simp only [forall_eq]
      rw [e4, f0, i_1, i_2, i_3, nI_add, nI_add, nI_add, nI_clamp (by omega), nI_clamp (by omega), nI_clamp (by omega), nI_clamp (by omega)]
      refine ⟨fun d => absurd d (nI_pos (by omega)), fun _ => ⟨fun _ => ⟨vp_in_nI (by omega) (by decide), vp_in_nI (by omega) (by decide), vp_in_nI (by omega) (by decide), vp_in_nI (by omega) (by decide), c_forget ?_⟩, fun d => absurd (nI_lt (b := 24) c (by decide)) d⟩⟩
      have e9 : uA (uA (uA (uA Sx 10 (4 * P) a1) 10 (4 * P + 1) a2) 10 (4 * P + 2) a3) 10 (4 * P + 3) a4 = sA Sx 10 (put4 P (gA Sx 10) a1 a2 a3 a4) := by
        simp only [uA_s, gA_sA, if_true, sA_sA]
        rfl
      rw [e9, gI_sA, e4, nI_add, e5, e4]
      exact h1 ca cr cd c
    · rw [e4, i_24, nI_ltI (by omega) (by omega)] at c
      omega
  unfold qL_1
  refine cls (fun ca cr cd cP => mod (fun _ _ _ _ => fin ?_ (Inv.out ?_) (fun _ => ?_)) (fun _ _ _ d => absurd d (by omega)) (fun d => absurd d ?_)) (fun ca cr cd cP => mod (fun _ _ _ d => absurd d (by omega)) (fun _ _ _ _ => fin rd0 h.thr.thr (fun c => absurd c (by decide))) (fun d => absurd d ?_)) (fun c => mod (fun d1 d2 d3 => absurd c ?_) (fun d1 d2 d3 => absurd c ?_) (fun _ => fin rd0 h.thr (fun c => absurd c (by decide))))
  · simp [gI_uI, gI_uA]
  · have fo : ∀ i, i < 4 * P → put4 P (gA Sx 10) a1 a2 a3 a4 i = gA Sx 10 i := fun i hi => by
      simp only [put4, upd_at]
      rw [if_neg (by omega), if_neg (by omega), if_neg (by omega), if_neg (by omega)]
    have f0 : put4 P (gA Sx 10) a1 a2 a3 a4 (4 * P) = a1 := by
      simp only [put4, upd_at]
      rw [if_neg (by omega), if_neg (by omega), if_neg (by omega), if_pos trivial]
    have f1 : put4 P (gA Sx 10) a1 a2 a3 a4 (4 * P + 1) = a2 := by
      simp only [put4, upd_at]
      rw [if_neg (by omega), if_neg (by omega), if_pos trivial]
    have f2 : put4 P (gA Sx 10) a1 a2 a3 a4 (4 * P + 2) = a3 := by
      simp only [put4, upd_at]
      rw [if_neg (by omega), if_pos trivial]
    have f3 : put4 P (gA Sx 10) a1 a2 a3 a4 (4 * P + 3) = a4 := by
      simp only [put4, upd_at]
      rw [if_pos trivial]
    refine h.gram (n := n) (t := t) (st := st) (P := P + 1) ?_ ?_ ⟨fun p hp2 => ?_, fun p q h1 h2 h3 => ?_⟩ ?_ ?_ ?_ ?_ ?_ ?_ ?_ ?_
    · unfold eqG at g ⊢
      simp only [gI_uI, gI_uA, gI_sA, gA_uI, gA_uA, gA_sA]
      simp
      refine ⟨g.1, g.2.1, g.2.2.1, g.2.2.2.2.1, fun p k hp hk => ?_, fun i hi => ?_⟩
      · by_cases e : p = P
        · rw [if_pos e, e]
          simp only [upd_at]
          rcases (show k = 0 ∨ k = 1 ∨ k = 2 ∨ k = 3 by omega) with rfl | rfl | rfl | rfl
          · exact f0.symm
          · exact f1.symm
          · exact f2.symm
          · exact f3.symm
        · simp only [if_neg e]
          have e5 : put4 P (gA Sx 10) a1 a2 a3 a4 (4 * p + k) = gA Sx 10 (4 * p + k) := by
            simp only [put4, upd_at]
            rw [if_neg (by omega), if_neg (by omega), if_neg (by omega), if_neg (by omega)]
          rw [e5]
          exact g.2.2.2.2.2.1 p k hp hk
      · simp only [if_neg (show ¬ 2 = 16 + P by omega)]
        exact g.2.2.2.2.2.2 i hi
    · simp only [gI_uI, gI_sA]
      simp
      exact ⟨e1, e2, e3, rfl, b1, b2, b3, b4, b5, by omega⟩
    · simp only [gA_uI, gA_sA, if_true]
      by_cases e : p = P
      · rw [e, f0, f1, f2, f3]
        exact ⟨ca, cr⟩
      · rw [fo _ (by omega), fo _ (by omega), fo _ (by omega), fo _ (by omega)]
        exact hp.1 p (by omega)
    · simp only [gA_uI, gA_sA, if_true] at h3
      have key : ∀ u, u < P → (∀ k, k < 4 → put4 P (gA Sx 10) a1 a2 a3 a4 (4 * u + k) = put4 P (gA Sx 10) a1 a2 a3 a4 (4 * P + k)) → False := fun u hu q => cd ⟨u, hu, by
        have q0 := q 0 (by omega)
        have q1 := q 1 (by omega)
        have q2 := q 2 (by omega)
        have q3 := q 3 (by omega)
        rw [fo _ (by omega)] at q0 q1 q2 q3
        rw [Nat.add_zero, Nat.add_zero, f0] at q0
        rw [f1] at q1
        rw [f2] at q2
        rw [f3] at q3
        exact ⟨q0, q1, q2, q3⟩⟩
      by_cases ep : p = P
      · by_cases eq : q = P
        · rw [ep, eq]
        · exact absurd (fun k hk => (by have h5 := (h3 k hk).symm; rw [ep] at h5; exact h5)) (key q (by omega))
      · by_cases eq : q = P
        · exact absurd (fun k hk => (by have h5 := h3 k hk; rw [eq] at h5; exact h5)) (key p (by omega))
        · refine hp.2 p q (by omega) (by omega) (fun k hk => ?_)
          have h4 := h3 k hk
          rw [fo _ (by omega), fo _ (by omega)] at h4
          exact h4
    · simp only [gI_uI, gI_sA, gA_uI, gA_sA]
      simpa using gw
    · simp [gI_uI]
    · simp [gI_uI]
    · rfl
    · unfold eqV at gv ⊢
      simp only [gI_uI, gI_uA, gI_sA, gA_uI, gA_uA, gA_sA]
      simp
      refine ⟨gv.1, gv.2.imp id (fun w => ⟨w.1, w.2.1, w.2.2.1, w.2.2.2.1, w.2.2.2.2.1, w.2.2.2.2.2.1, w.2.2.2.2.2.2.1, w.2.2.2.2.2.2.2.1, fun p k hp hk => ?_, fun i hi => ?_⟩)⟩
      · simp only [if_neg (show ¬ 40 + p = 16 + P by omega)]
        exact w.2.2.2.2.2.2.2.2.1 p k hp hk
      · simp only [if_neg (show ¬ 15 = 16 + P by omega)]
        exact w.2.2.2.2.2.2.2.2.2 i hi
    · unfold eqL at gl ⊢
      intro s hs
      simp only [gA_uI, gA_uA, gA_sA]
      simp
      simp only [if_neg (show ¬ 11 = 16 + P by omega), if_neg (show ¬ 12 = 16 + P by omega), if_neg (show ¬ 64 + s = 16 + P by omega)]
      exact gl s hs
    · simp [gI_uI]
    · simp [gI_uI]
  · rw [out0]
  · exact fun q => q.elim (fun q => q ⟨ca, cr⟩) cd
  · exact fun q => q.elim (fun q => q ⟨ca, cr⟩) cd
  · exact fun q => q.elim (fun q => q ⟨d1, d2⟩) d3
  · exact fun q => q.elim (fun q => q ⟨d1, d2⟩) d3
/-- a production taken out -/
def rmv (p P : Nat) (F : Nat → Int32) : Nat → Int32 := fun i => if 4 * p ≤ i ∧ i < 4 * (P - 1) then F (i + 4) else F i
def rmk (p k : Nat) (F : Nat → Int32) : Nat → Int32 := fun i => if 4 * p ≤ i ∧ i < 4 * p + k then F (i + 4) else F i
theorem rmk_0 {p : Nat} {F : Nat → Int32} : rmk p 0 F = F := by
  funext i
  unfold rmk
  rw [if_neg (by omega)]
theorem rmk_s {p k : Nat} {F : Nat → Int32} : upd (rmk p k F) (4 * p + k) (F (4 * p + k + 4)) = rmk p (k + 1) F := by
  funext i
  simp only [upd, rmk]
  by_cases h : i = 4 * p + k
  · rw [if_pos h, if_pos (by omega), h]
  · rw [if_neg h]
    by_cases h2 : 4 * p ≤ i ∧ i < 4 * p + k
    · rw [if_pos h2, if_pos (by omega)]
    · rw [if_neg h2, if_neg (by omega)]
theorem rmk_e {p P : Nat} {F : Nat → Int32} (h : p < P) : rmk p (4 * (P - 1) - 4 * p) F = rmv p P F := by
  funext i
  unfold rmk rmv
  rw [show 4 * p + (4 * (P - 1) - 4 * p) = 4 * (P - 1) by omega]
theorem c_remove {S : gS} {p P : Nat} {Post : gS → Prop} (e4 : gI S 4 = nI P) (hp : p < P) (hP : P ≤ 24) (h : Post (uI (sA S 10 (rmv p P (gA S 10))) 4 (nI (P - 1)))) : pX1_remove (nI p) S Post := by
  have e0 : nI p * 4 = nI (4 * p) := by rw [i_4, nI_mul, Nat.mul_comm]
  unfold pX1_remove
  simp only [forall_eq]
  rw [e4, e0]
  refine ⟨fun c => absurd c (nI_pos (by omega)), fun _ => ⟨fun c => absurd c (nI_ge hp (by omega)), fun _ => ⟨fun _ => ?_, fun c => absurd (nI_le (b := 24) hP (by decide)) c⟩⟩⟩
  have := lp_seq (B := fun L x => bX1_remove_28 Post L x.1 x.2) (fun k => (nI (4 * p + k), sA S 10 (rmk p k (gA S 10)))) (4 * (P - 1) - 4 * p) (fun k L hk hL => ?_) (fun L => ?_)
  · simp only [rmk_0, sA_id, Nat.add_zero] at this
    exact this
  · have e5 : (nI P - 1) * 4 = nI (4 * (P - 1)) := by rw [i_1, nI_sub (by omega), i_4, nI_mul, Nat.mul_comm]
    have e6 : nI (4 * p + k) + 4 = nI (4 * p + k + 4) := nI_add _ 4
    unfold bX1_remove_28
    simp only [forall_eq]
    rw [gI_sA, e4, e5, e6]
    refine ⟨fun c => absurd c (nI_ge (by omega) (by omega)), fun _ => ⟨vp_in_nI (by omega) (by decide), vp_in_nI (by omega) (by decide), ?_⟩⟩
    have e7 : rmk p k (gA S 10) (4 * p + k + 4) = gA S 10 (4 * p + k + 4) := by
      unfold rmk
      rw [if_neg (by omega)]
    rw [nI_clamp (by omega), nI_clamp (by omega), uA_s, gA_sA, if_pos rfl, e7, rmk_s, sA_sA, nI_1]
    exact hL
  · have e5 : (nI P - 1) * 4 = nI (4 * (P - 1)) := by rw [i_1, nI_sub (by omega), i_4, nI_mul, Nat.mul_comm]
    unfold bX1_remove_28
    simp only [forall_eq]
    rw [gI_sA, e4, e5, show 4 * p + (4 * (P - 1) - 4 * p) = 4 * (P - 1) by omega, rmk_e hp, i_1, nI_sub (by omega)]
    exact ⟨fun _ => h, fun c => absurd (nI_le (Nat.le_refl _) (by omega)) c⟩
theorem m_remove {S : gS} {p P : Nat} {F : Nat → Int32} {Post : gS → Prop} (e4 : gI S 4 = nI P) (hp : p < P) (hP : P ≤ 24) (hF : rowsEq S F) (h : ∀ T : gS, (∀ f, f ≠ 4 → gI T f = gI S f) → gI T 4 = nI (P - 1) → (∀ a, ¬ (16 ≤ a ∧ a < 40) → gA T a = gA S a) → rowsEq T (rmv p P F) → Post T) : pX9_remove (nI p) S Post := by
  unfold pX9_remove
  simp only [forall_eq]
  have e9 : (nI p, uI S 4 (gI S 4 - 1)) = (nI (p + 0), uI S 4 (gI S 4 - 1)) := rfl
  refine lp_inv (fun k x => x.1 = nI (p + k) ∧ (∀ f, f ≠ 4 → gI x.2 f = gI S f) ∧ gI x.2 4 = nI (P - 1) ∧ (∀ a, ¬ (16 ≤ a ∧ a < 40) → gA x.2 a = gA S a) ∧ rowsEq x.2 (rmk p (4 * k) F)) (P - 1 - p) ?_ ?_ ⟨rfl, fun f hf => ?_, ?_, fun a _ => rfl, ?_⟩
  · rintro k ⟨x, T⟩ L hk ⟨ex, h1, h2, h3, h4⟩ hL
    dsimp only at ex h1 h2 h3 h4
    subst ex
    unfold bX9_remove_12
    rw [h2]
    refine ⟨fun c => absurd c (nI_ge (by omega) (by omega)), fun _ => ?_⟩
    refine lp_inv (fun j y => y.1 = nI j ∧ (∀ f, f ≠ 4 → gI y.2 f = gI S f) ∧ gI y.2 4 = nI (P - 1) ∧ (∀ a, ¬ (16 ≤ a ∧ a < 40) → gA y.2 a = gA S a) ∧ rowsEq y.2 (rmk p (4 * k + j) F)) 4 ?_ ?_ ⟨rfl, h1, h2, h3, h4⟩
    · rintro j ⟨y, U⟩ L' hj ⟨ey, g1, g2, g3, g4⟩ hL'
      dsimp only at ey g1 g2 g3 g4
      subst ey
      unfold bX9_remove_22
      simp only [forall_eq]
      refine ⟨fun c => absurd c (nI_ge (b := 4) hj (by decide)), fun _ => ?_⟩
      rw [nI_1]
      refine ⟨vp_in_nI (by omega) (by decide), vp_in_nI (by omega) (by decide), vp_in_nI hj (by decide), vp_in_nI hj (by decide), hL' _ ⟨nI_1 j, fun f hf => g1 f hf, g2, fun a ha => ?_, fun q r hq hr => ?_⟩⟩
      · rw [nI_clamp (by omega), gA_uA, if_neg (by omega)]
        exact g3 a ha
      · rw [nI_clamp (by omega), nI_clamp (by omega), nI_clamp (by omega), gA_uA]
        have e8 : gA U (16 + (p + k + 1)) j = F (4 * p + (4 * k + j) + 4) := by
          rw [g4 _ _ (by omega) hj]
          unfold rmk
          rw [if_neg (by omega)]
          congr 1
          omega
        by_cases c : 16 + q = 16 + (p + k)
        · rw [if_pos c, upd_at]
          by_cases d : r = j
          · rw [if_pos d, e8, show 4 * k + (j + 1) = (4 * k + j) + 1 by omega, ← rmk_s, upd_at, if_pos (by omega)]
          · rw [if_neg d, ← c, g4 q r hq hr, show 4 * k + (j + 1) = (4 * k + j) + 1 by omega, ← rmk_s, upd_at, if_neg (by omega)]
        · rw [if_neg c, g4 q r hq hr, show 4 * k + (j + 1) = (4 * k + j) + 1 by omega, ← rmk_s, upd_at, if_neg (by omega)]
    · rintro ⟨y, U⟩ L' ⟨ey, g1, g2, g3, g4⟩
      dsimp only at ey g1 g2 g3 g4
      subst ey
      unfold bX9_remove_22
      simp only [forall_eq]
      exact ⟨fun _ => hL _ ⟨nI_1 (p + k), g1, g2, g3, g4⟩, fun c => absurd (nI_le (Nat.le_refl 4) (by decide)) c⟩
  · rintro ⟨x, T⟩ L ⟨ex, h1, h2, h3, h4⟩
    dsimp only at ex h1 h2 h3 h4
    subst ex
    unfold bX9_remove_12
    rw [h2, show p + (P - 1 - p) = P - 1 by omega]
    refine ⟨fun _ => h T h1 h2 h3 ?_, fun c => absurd (nI_le (Nat.le_refl _) (by omega)) c⟩
    rw [← rmk_e hp, show 4 * (P - 1) - 4 * p = 4 * (P - 1 - p) by omega]
    exact h4
  · rw [gI_uI, if_neg hf]
  · rw [gI_uI, if_pos rfl, e4, i_1, nI_sub (by omega)]
  · rw [show 4 * 0 = 0 from rfl, rmk_0]
    exact hF
theorem rmv_lt {p q P k : Nat} {F : Nat → Int32} (hq : q < P - 1) (hk : k < 4) : rmv p P F (4 * q + k) = F (4 * (if q < p then q else q + 1) + k) := by
  unfold rmv
  by_cases h : q < p
  · rw [if_pos h, if_neg (by omega)]
  · rw [if_neg h, if_pos (by omega)]
    congr 1
    omega
theorem okP_rmv {n t P p : Nat} {F : Nat → Int32} (hp : p < P) (h : okP n t P F) : okP n t (P - 1) (rmv p P F) := by
  refine ⟨fun q hq => ?_, fun q r hq hr e => ?_⟩
  · have e0 := rmv_lt (p := p) (F := F) hq (show 0 < 4 by omega)
    rw [Nat.add_zero, Nat.add_zero] at e0
    rw [e0, rmv_lt hq (by omega), rmv_lt hq (by omega), rmv_lt hq (by omega)]
    exact h.1 _ (by split <;> omega)
  · have e2 := h.2 (if q < p then q else q + 1) (if r < p then r else r + 1) (by split <;> omega) (by split <;> omega) (fun k hk => by
      have e3 := e k hk
      rw [rmv_lt hq hk, rmv_lt hr hk] at e3
      exact e3)
    split at e2 <;> split at e2 <;> omega
theorem s_2 {a1 a2 a3 a4 : Int32} {Sx Sm : gS} (h : Inv Sx Sm) : qL_2 a1 a2 a3 a4 Sx Sm Inv := by
  obtain ⟨g, gc, gw, gv, gl, gt⟩ := id h
  obtain ⟨n, t, st, P, hr, hp, hcl, hcw⟩ := gc
  have hm := m_rg g hr
  have hF : rowsEq Sm (gA Sx 10) := g.2.2.2.2.2.1
  have hr' := hr
  obtain ⟨e1, e2, e3, e4, b1, b2, b3, b4, b5, b6⟩ := hr'
  have e4' : gI Sm 4 = nI P := by rw [g.2.2.2.1, e4]
  unfold qL_2 pL_removeProduction pX8_removeProduction pX8_checkProduction
  rw [e4, lt_i, lt_i, t_0, nI_toInt (show P < 2 ^ 31 by omega)]
  have bad : ∀ {Post : Int32 → gS → Prop}, ¬ isN P a1 → Post 0 (uI Sm 0 1) → pX9_removeProduction a1 Sm Post := by
    intro Post c hP
    unfold pX9_removeProduction jX9_removeProduction_15
    exact m_isP hm (fun d => absurd d c) (fun _ => ⟨fun c => absurd rfl c, fun _ => m_f1 ⟨fun c => absurd c (by decide), fun _ => hP⟩⟩)
  refine ⟨fun c => ⟨rfl, bad (fun d => absurd d.1 (by omega)) (fin rd0 h.thr (fun c => absurd c (by decide)))⟩, fun c => ⟨fun c1 => ?_, fun c1 => ⟨rfl, bad (fun d => absurd d.2 c1) (fin rd0 h.thr (fun c => absurd c (by decide)))⟩⟩⟩
  obtain ⟨p, hp1, ep⟩ := nI_of' (x := a1) (by omega)
  rw [ep, nI_toInt hp1] at c1
  have hpP : p < P := by omega
  rw [ep]
  refine c_remove e4 hpP b6 (c_forget ?_)
  unfold pX9_removeProduction jX9_removeProduction_15
  refine m_isP hm (fun _ => ⟨fun _ => m_f0 ⟨fun _ => m_remove (F := gA Sx 10) (P := P) ?_ hpP b6 hF (fun T k1 k2 k3 k4 => ?_), fun c => absurd rfl c⟩, fun c => absurd c (by decide)⟩) (fun d => absurd ?_ d)
  · rw [gI_uI, if_neg (by decide)]
    exact e4'
  · intro S9 e9
    subst e9
    refine fin ?_ (Inv.out ?_) (fun _ => ?_)
    · rw [gI_uI, if_neg (by decide), k1 0 (by decide), rd0]
    · simp only [gI_uI] at k1
      simp only [gA_uI] at k3
      refine h.gram (n := n) (t := t) (st := st) (P := P - 1) ?_ ?_ ?_ ?_ ?_ ?_ ?_ ?_ ?_ ?_ ?_
      · unfold eqG at g ⊢
        simp only [gI_uI, gI_sA, gA_uI, gA_sA]
        rw [k1 1 (by omega), k1 2 (by omega), k1 3 (by omega), k1 5 (by omega), k2, k3 2 (by omega)]
        simp
        exact ⟨g.1, g.2.1, g.2.2.1, g.2.2.2.2.1, k4, g.2.2.2.2.2.2⟩
      · simp only [gI_uI, gI_sA]
        simp
        exact ⟨e1, e2, e3, rfl, b1, b2, b3, b4, b5, by omega⟩
      · simp only [gA_uI, gA_sA, if_true]
        exact okP_rmv hpP hp
      · simp only [gI_uI, gI_sA, gA_uI, gA_sA]
        simpa using gw
      · simp [gI_uI]
      · simp [gI_uI]
      · rfl
      · unfold eqV at gv ⊢
        simp only [gI_uI, gI_sA, gA_uI, gA_sA]
        rw [k1 9 (by omega), k1 10 (by omega), k1 11 (by omega), k1 12 (by omega), k1 13 (by omega), k1 14 (by omega), k3 15 (by omega)]
        simp
        refine ⟨gv.1, gv.2.imp id (fun w => ⟨w.1, w.2.1, w.2.2.1, w.2.2.2.1, w.2.2.2.2.1, w.2.2.2.2.2.1, w.2.2.2.2.2.2.1, w.2.2.2.2.2.2.2.1, fun p k hp hk => ?_, w.2.2.2.2.2.2.2.2.2⟩)⟩
        rw [k3 _ (by omega)]
        exact w.2.2.2.2.2.2.2.2.1 p k hp hk
      · unfold eqL at gl ⊢
        intro s hs
        simp only [gA_uI, gA_sA]
        rw [k3 11 (by omega), k3 12 (by omega), k3 (64 + s) (by omega)]
        simpa using gl s hs
      · simp [gI_uI]
      · simp [gI_uI]
    · rw [out0]
      simp only [gI_uI, gI_sA]
      rw [k2]
      simp
  · unfold isN
    rw [nI_toInt hp1]
    omega
