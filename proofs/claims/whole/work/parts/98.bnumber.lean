section
/-! THE MATHEMATICS, 30: the model numbers a tree; treeNumber. -/
theorem TV_mo {fit : Nat → Int32 → Bool} {P : Nat} {F NP NF NS : Nat → Int32} : ∀ f c b len i i' r, TV fit P F NP NF NS f c b len i i' r → TV fit P F NP NF NS (f + 1) c b len i i' r := by
  intro f
  induction f with
  | zero => intro c b len i i' r h; exact h.elim
  | succ f ih =>
    intro c b len i i' r h
    rcases h with h | h | ⟨c1, c2, p, u, v, i1, i2, r1, r2, r3, hp, el, n0, n1, n2, huv, q1, q2, q3, er⟩
    · exact Or.inl h
    · exact Or.inr (Or.inl h)
    · exact Or.inr (Or.inr ⟨c1, c2, p, u, v, i1, i2, r1, r2, r3, hp, el, n0, n1, n2, huv, ih _ _ _ _ _ _ q1, ih _ _ _ _ _ _ q2, ih _ _ _ _ _ _ q3, er⟩)
theorem TV_ge {fit : Nat → Int32 → Bool} {P : Nat} {F NP NF NS : Nat → Int32} {f g : Nat} (hfg : f ≤ g) {c : Int32} {b len i i' r : Nat} (h : TV fit P F NP NF NS f c b len i i' r) : TV fit P F NP NF NS g c b len i i' r := by
  induction g with
  | zero => rw [show f = 0 by omega] at h; exact h
  | succ g ih =>
    by_cases e : f = g + 1
    · rw [← e]; exact h
    · exact TV_mo _ _ _ _ _ _ _ (ih (by omega))
section MN
variable {n t st P w : Nat} {F : Nat → Int32} {fit : Nat → Int32 → Bool}
theorem m_sk {S : gS} (h : mG S n t st P F) : ∀ f c b len i i' r (Post : Int32 → Prop), isN n c → i' ≤ 16 → TV fit P F (gA S 8) (gA S 9) (gA S 10) f c b len i i' r → Post (nI i') → pX9_skip f (nI i) S Post := by
  have hn : n ≤ 6 := h.1.2.2.2.2.2.1
  have hP : P ≤ 24 := h.1.2.2.2.2.2.2.2.2.2
  have ok := h.2.2
  intro f
  induction f with
  | zero => intro c b len i i' r Post _ _ h; exact h.elim
  | succ f ih =>
    intro c b len i i' r Post hN hi' hT hq
    rcases hT with ⟨g1, _⟩ | ⟨g1, _⟩ | ⟨c1, c2, p, u, v, i1, i2, r1, r2, r3, hp, el, n0, n1, n2, huv, q1, q2, q3, er⟩
    · exact absurd g1 (isS_m1 (t := t) (Or.inl hN))
    · exact absurd g1 (isN_lt hn hN)
    have z1 := TV_sz hn ok _ _ _ _ _ _ _ (ok.k (k := 1) hp (by decide) (by decide)) q1
    have z2 := TV_sz hn ok _ _ _ _ _ _ _ (ok.k (k := 2) hp (by decide) (by decide)) q2
    have z3 := TV_sz hn ok _ _ _ _ _ _ _ (ok.k (k := 3) hp (by decide) (by decide)) q3
    show fX9_skip (pX9_skip f) (nI i) S Post
    unfold fX9_skip
    rintro _ rfl
    rw [nI_1]
    have part : ∀ (cc : Int32) (bb l a a' rr : Nat) (L : Int32 → Prop), (cc = -1 ∨ isS n t cc) → a' ≤ 16 → TV fit P F (gA S 8) (gA S 9) (gA S 10) f cc bb l a a' rr → L (nI a') → ((cc < 0 → L (nI a)) ∧ (¬ cc < 0 → ((10 ≤ cc → L (nI a)) ∧ (¬ 10 ≤ cc → pX9_skip f (nI a) S L)))) := by
      intro cc bb l a a' rr L hcc ha' hq hL
      have z := TV_sz hn ok _ _ _ _ _ _ _ hcc hq
      by_cases hN : isN n cc
      · refine ⟨fun d => absurd d (by rw [lt_i, t_0]; have := hN.1; omega), fun _ => ⟨fun d => absurd d (isN_lt hn hN), fun _ => ih _ _ _ _ _ _ _ hN ha' hq hL⟩⟩
      · rw [z.2.2.2.2 hN] at hL
        refine ⟨fun _ => hL, fun d0 => ⟨fun _ => hL, fun d => ?_⟩⟩
        rcases hcc with g | g | g
        · rw [g] at d0
          exact absurd (by decide) d0
        · exact absurd g hN
        · exact absurd (isT_ge g) d
    have idx : ∀ k, k < 3 → ∃ bb l rr, TV fit P F (gA S 8) (gA S 9) (gA S 10) f (F (4 * p + (1 + k))) bb l (if k = 0 then i + 1 else if k = 1 then i1 else i2) (if k = 0 then i1 else if k = 1 then i2 else i') rr := by
      intro k hk
      rcases (show k = 0 ∨ k = 1 ∨ k = 2 by omega) with rfl | rfl | rfl
      · exact ⟨_, _, _, q1⟩
      · exact ⟨_, _, _, q2⟩
      · exact ⟨_, _, _, q3⟩
    refine lp_sq (B := fun L x => bX9_skip_6 (pX9_skip f) (nI i) S Post L x.1 x.2) (fun k => (nI (if k = 0 then i + 1 else if k = 1 then i1 else if k = 2 then i2 else i'), nI (1 + k))) 3 (fun k L hk hL => ?_) (fun L => ?_) rfl
    · unfold bX9_skip_6
      have ec : gA S (16 + (gA S 8 (nI i).toNatClampNeg).toNatClampNeg) (nI (1 + k)).toNatClampNeg = F (4 * p + (1 + k)) := by
        rw [nI_clamp (n := i) (by omega), n0, nI_clamp (n := 1 + k) (by omega)]
        exact row_at h hp (by omega)
      have e8 : gA S 8 (nI i).toNatClampNeg = nI p := by rw [nI_clamp (by omega), n0]
      refine ⟨fun d => absurd d (nI_ge (b := 4) (by omega) (by omega)), fun _ => ⟨vp_in_nI (by omega) (by omega), by rw [e8]; exact vp_in_nI (by omega) (by omega), vp_in_nI (by omega) (by omega), ?_⟩⟩
      simp only [forall_eq]
      rw [ec, nI_1]
      obtain ⟨bb, l, rr, hk'⟩ := idx k hk
      have hL' : L (nI (if k = 0 then i1 else if k = 1 then i2 else i'), nI (1 + k + 1)) := by
        rcases (show k = 0 ∨ k = 1 ∨ k = 2 by omega) with rfl | rfl | rfl
        · exact hL
        · exact hL
        · exact hL
      have h16 : (if k = 0 then i1 else if k = 1 then i2 else i') ≤ 16 := by
        rcases (show k = 0 ∨ k = 1 ∨ k = 2 by omega) with rfl | rfl | rfl
        · show i1 ≤ 16
          omega
        · show i2 ≤ 16
          omega
        · exact hi'
      have := part _ _ _ _ _ _ (fun x => L (x, nI (1 + k + 1))) (ok.k (k := 1 + k) hp (by omega) (by omega)) h16 hk' hL'
      have ei : (if k = 0 then i + 1 else if k = 1 then i1 else if k = 2 then i2 else i') = (if k = 0 then i + 1 else if k = 1 then i1 else i2) := by
        rcases (show k = 0 ∨ k = 1 ∨ k = 2 by omega) with rfl | rfl | rfl <;> rfl
      rw [ei]
      exact this
    · unfold bX9_skip_6
      exact ⟨fun _ => hq, fun d => absurd (nI_le (a := 4) (by omega) (by omega)) d⟩
/-- the length of a part -/
theorem m_sop {S : gS} (hn : n ≤ 6) {f b l a a' rr : Nat} {c x : Int32} (hc : isS n t c) (ha : a ≤ 15) (hT : TV fit P F (gA S 8) (gA S 9) (gA S 10) f c b l a a' rr) {Post : Int32 → Prop} (hq : Post (nI l)) : pX9_sizeOfPart c x (nI a) S Post := by
  unfold pX9_sizeOfPart
  cases f with
  | zero => exact hT.elim
  | succ f =>
    rcases hT with ⟨g1, _⟩ | ⟨g1, g2, _⟩ | ⟨c1, c2, p, u, v, i1, i2, r1, r2, r3, hp, el, n0, n1, n2, _⟩
    · exact absurd g1 (isS_m1 hc)
    · subst g2
      exact ⟨fun d => absurd g1 (by rw [lt_i, t_10] at d; rw [le_i, t_10]; omega), fun _ => hq⟩
    · refine ⟨fun _ => ⟨vp_in_nI (by omega) (by omega), ?_⟩, fun d => absurd (by rw [lt_i, t_10] at d; rw [le_i, t_10]; omega) c2⟩
      rw [nI_clamp (by omega), n2]
      exact hq
theorem m_no : ∀ f c b len i i' r (S : gS) (Post : Int64 → gS → Prop), mG S n t st P F → w ≤ 8 → m6 n P F (gA S 6) w S w → gI S 8 = nI i → (c = -1 ∨ isS n t c) → len ≤ 8 → b + len ≤ w → i' ≤ 15 → f ≤ 10 → TV (fitW (gA S 6)) P F (gA S 8) (gA S 9) (gA S 10) f c b len i i' r → (∀ T : gS, gI T 8 = nI i' → (∀ f, f ≠ 8 → gI T f = gI S f) → gA T = gA S → gB T = gB S → Post (nL r) T) → pX9_numberOf f c (nI b) (nI len) S Post := by
  intro f
  induction f with
  | zero => intro c b len i i' r S Post _ _ _ _ _ _ _ _ _ h; exact h.elim
  | succ f ih =>
    intro c b len i i' r S Post h w8 h6 e8 hc l8 hb hi' hf hT hq
    have hn : n ≤ 6 := h.1.2.2.2.2.2.1
    have hP : P ≤ 24 := h.1.2.2.2.2.2.2.2.2.2
    have ok := h.2.2
    show fX9_numberOf (pX9_numberOf f) c (nI b) (nI len) S Post
    unfold fX9_numberOf
    rcases hT with ⟨g1, g2, g3, g4⟩ | ⟨g1, g2, g3, g4, g5⟩ | ⟨c1, c2, p, u, v, i1, i2, r1, r2, r3, hp, el, n0, n1, n2, huv, q1, q2, q3, er⟩
    · have := hq S (by rw [g3]; exact e8) (fun _ _ => rfl) rfl rfl
      rw [g4] at this
      exact ⟨fun _ => this, fun d => absurd (by rw [g1]; decide) d⟩
    · have := hq S (by rw [g4]; exact e8) (fun _ _ => rfl) rfl rfl
      rw [g5] at this
      exact ⟨fun d => absurd d (by rw [le_i, t_10] at g1; rw [lt_i, t_0]; omega), fun _ => ⟨fun d => absurd g1 (by rw [lt_i, t_10] at d; rw [le_i, t_10]; omega), fun _ => this⟩⟩
    · have hN : isN n c := by
        rcases hc with g | g | g
        · exact absurd g c1
        · exact g
        · exact absurd (isT_ge g) c2
      have o1 := ok.k (k := 1) hp (by decide) (by decide)
      have o2 := ok.k (k := 2) hp (by decide) (by decide)
      have o3 := ok.k (k := 3) hp (by decide) (by decide)
      have z1 := TV_sz hn ok _ _ _ _ _ _ _ o1 q1
      have z2 := TV_sz hn ok _ _ _ _ _ _ _ o2 q2
      have z3 := TV_sz hn ok _ _ _ _ _ _ _ o3 q3
      obtain ⟨-, hx, hyz⟩ := ok.1 p hp
      have vpp : vp_in (nI p) 24 := vp_in_nI (by omega) (by omega)
      refine ⟨fun d => absurd d (by rw [lt_i, t_0]; have := hN.1; omega), fun _ => ⟨fun _ => ?_, fun d => absurd (by rw [lt_i, t_10]; have := hN.2; omega) d⟩⟩
      rw [e8]
      refine ⟨vp_in_nI (by omega) (by omega), ?_⟩
      rintro _ rfl
      rintro _ rfl
      rw [nI_clamp (n := i) (by omega), n0, nI_1]
      obtain ⟨S4, e4⟩ : ∃ S4, S4 = uI S 8 (nI (i + 1)) := ⟨_, rfl⟩
      rw [← e4]
      have h4 : mG S4 n t st P F := h.eq (fun f f1 f2 => by rw [e4, gI_uI, if_neg (by omega)]) (fun p _ => by rw [e4]; rfl)
      have A4 : gA S4 = gA S := by rw [e4]; rfl
      have B4 : gB S4 = gB S := by rw [e4]; rfl
      have I4 : ∀ f, f ≠ 8 → gI S4 f = gI S f := fun f hf => by rw [e4, gI_uI, if_neg hf]
      have e84 : gI S4 8 = nI (i + 1) := by rw [e4, gI_uI, if_pos rfl]
      have h64 : m6 n P F (gA S4 6) w S4 w := by
        rw [A4]
        exact fun l b a g1 g2 g3 g4 => by rw [B4]; exact h6 l b a g1 g2 g3 g4
      obtain ⟨SP, eSP⟩ : ∃ SP : Nat → Nat, SP = fun k => sN (fun q => if F (4 * q) = c then tp (fitW (gA S 6)) (TT (fitW (gA S 6)) P F) F q len b else 0) k := ⟨_, rfl⟩
      have SPs : ∀ k, SP (k + 1) = SP k + if F (4 * k) = c then tp (fitW (gA S 6)) (TT (fitW (gA S 6)) P F) F k len b else 0 := fun k => by rw [eSP]; rfl
      have j168 : jX9_numberOf_168 (pX9_numberOf f) (nI b) (nI len) Post (nI p) S4 (nL (SP p)) (nI u) (nI v) := by
        unfold jX9_numberOf_168
        rintro _ rfl
        rw [nI_sub (show u ≤ len by omega), nI_sub (show v ≤ len - u by omega)]
        have sq := sq_le (len := len) (by omega)
        have hNb : u * (len + 1) + v ≤ (len + 1) * (len + 1) := by
          have h1 : u * (len + 1) ≤ len * (len + 1) := Nat.mul_le_mul_right _ (by omega)
          rw [Nat.add_mul len 1, Nat.one_mul]
          omega
        have eN : nI u * (nI len + 1) + nI v = nI (u * (len + 1) + v) := by rw [nI_1, nI_mul, nI_add]
        obtain ⟨FL, eFL⟩ : ∃ FL : Nat → Nat, FL = fun k => sN (fun m => pj (fitW (gA S 6)) (TT (fitW (gA S 6)) P F) F p len b (m / (len + 1)) (m % (len + 1))) k := ⟨_, rfl⟩
        have FLs : ∀ k, FL (k + 1) = FL k + pj (fitW (gA S 6)) (TT (fitW (gA S 6)) P F) F p len b (k / (len + 1)) (k % (len + 1)) := fun k => by rw [eFL]; rfl
        have ebf : bf (fitW (gA S 6)) P F c len b p u v = SP p + FL (u * (len + 1) + v) := by
          have := sN_flat (f := fun i j => pj (fitW (gA S 6)) (TT (fitW (gA S 6)) P F) F p len b i j) (m := len + 1) (a := u) (by omega) v (by omega)
          rw [eSP, eFL]
          unfold bf
          rw [← this]
        refine lp_sq (B := fun L x => bX9_numberOf_182 (pX9_numberOf f) (nI b) (nI len) Post (nI p) S4 (nI u) (nI v) (nI (len - u - v)) L x.1 x.2) (fun k => (nL (SP p + FL k), nI k)) (u * (len + 1) + v) (fun m L hm hL => ?_) (fun L => ?_) (by rw [show FL 0 = 0 by rw [eFL]; rfl]; rfl)
        · have hdv := dm_lt (show m < (len + 1) * (len + 1) by omega)
          have hr := Nat.mod_lt m (show 0 < len + 1 by omega)
          unfold bX9_numberOf_182
          rw [eN]
          refine ⟨fun d => absurd d (nI_ge hm (by omega)), fun _ => ?_⟩
          rw [nI_1 len, nI_rem (by omega) (by omega), nI_div (by omega) (by omega)]
          refine ⟨nI_ne0 (by omega) (by omega), ?_⟩
          rintro _ rfl
          refine ⟨nI_ne0 (by omega) (by omega), ?_⟩
          rintro _ rfl
          rw [nI_add (m / (len + 1)) (m % (len + 1))]
          simp only [forall_eq]
          have hL4 : L (nL (SP p + (FL m + pj (fitW (gA S 6)) (TT (fitW (gA S 6)) P F) F p len b (m / (len + 1)) (m % (len + 1)))), nI (m + 1)) := by rw [← FLs]; exact hL
          rw [← Nat.add_assoc] at hL4
          refine ⟨fun d => ?_, fun d => ?_⟩
          · rw [nI_ltI (by omega) (by omega)] at d
            rw [← nL_0, nL_add, nI_1]
            rw [show pj (fitW (gA S 6)) (TT (fitW (gA S 6)) P F) F p len b (m / (len + 1)) (m % (len + 1)) = 0 from if_neg (by omega)] at hL4
            exact hL4
          · rw [nI_ltI (by omega) (by omega)] at d
            rw [nI_sub (by omega), nI_sub (by omega)]
            refine m_tf h4 w8 h64 hp (by omega) hb (by omega) ?_
            rw [nL_add, nI_1, A4]
            rw [show pj (fitW (gA S 6)) (TT (fitW (gA S 6)) P F) F p len b (m / (len + 1)) (m % (len + 1)) = pr (fitW (gA S 6)) (TT (fitW (gA S 6)) P F) F p len b (m / (len + 1)) (m % (len + 1)) from if_pos (by omega)] at hL4
            exact hL4
        · unfold bX9_numberOf_182
          rw [eN]
          refine ⟨fun _ => ⟨vpp, vp_in_nI (n := 3) (by omega) (by omega), ?_⟩, fun d => absurd (nI_le (Nat.le_refl _) (by omega)) d⟩
          rw [nI_add b u, nI_add (b + u) v, show (3 : Int32).toNatClampNeg = 3 from rfl, show (2 : Int32).toNatClampNeg = 2 from rfl, show (1 : Int32).toNatClampNeg = 1 from rfl, row_at h4 hp (by decide), row_at h4 hp (by decide), row_at h4 hp (by decide)]
          refine m_tp h4 w8 h64 o3 (by omega) (fun _ => by omega) ⟨vpp, vp_in_nI (n := 2) (by omega) (by omega), m_tp h4 w8 h64 o2 (by omega) (fun _ => by omega) ?_⟩
          rintro _ rfl
          rw [A4]
          refine ⟨vpp, vp_in_nI (n := 1) (by omega) (by omega), ih _ b u (i + 1) i1 r1 S4 _ h4 w8 h64 e84 o1 (by omega) (by omega) (by omega) (by omega) (by rw [A4]; exact q1) (fun T1 t1 t2 t3 t4 => ?_)⟩
          rintro _ rfl
          have h5 : mG T1 n t st P F := h4.eq (fun f f1 f2 => t2 f (by omega)) (fun p _ => by rw [t3])
          have A5 : gA T1 = gA S := t3.trans A4
          have B5 : gB T1 = gB S := t4.trans B4
          rw [row_at h5 hp (by decide)]
          refine ⟨vpp, vp_in_nI (n := 2) (by omega) (by omega), ih _ (b + u) v i1 i2 r2 T1 _ h5 w8 (by rw [A5]; exact fun l b a g1 g2 g3 g4 => by rw [B5]; exact h6 l b a g1 g2 g3 g4) t1 o2 (by omega) (by omega) (by omega) (by omega) (by rw [A5]; exact q2) (fun T2 s1 s2 s3 s4 => ?_)⟩
          rintro _ rfl
          have h6' : mG T2 n t st P F := h5.eq (fun f f1 f2 => s2 f (by omega)) (fun p _ => by rw [s3])
          have A6 : gA T2 = gA S := s3.trans A5
          have B6 : gB T2 = gB S := s4.trans B5
          rw [row_at h6' hp (by decide)]
          refine ⟨vpp, vp_in_nI (n := 3) (by omega) (by omega), ih _ (b + u + v) (len - u - v) i2 i' r3 T2 _ h6' w8 (by rw [A6]; exact fun l b a g1 g2 g3 g4 => by rw [B6]; exact h6 l b a g1 g2 g3 g4) s1 o3 (by omega) (by omega) (by omega) (by omega) (by rw [A6]; exact q3) (fun T3 x1 x2 x3 x4 => ?_)⟩
          have hq' := hq T3 x1 (fun f hf => by rw [x2 f hf, s2 f hf, t2 f hf, I4 f hf]) (x3.trans A6) (x4.trans B6)
          rw [← ebf, nL_mul, nL_mul, nL_mul, nL_add, nL_add, nL_add]
          rw [er, Nat.add_mul, Nat.mul_assoc r1, Nat.mul_comm (vl (fitW (gA S 6)) (TT (fitW (gA S 6)) P F) v (b + u) (F (4 * p + 2))), ← Nat.add_assoc, ← Nat.add_assoc] at hq'
          exact hq'
      refine lp_sq (B := fun L x => bX9_numberOf_39 (pX9_numberOf f) c (nI b) (nI len) Post (nI p) S4 L x.1 x.2) (fun k => (nL (SP k), nI k)) p (fun k L hk hL => ?_) (fun L => ?_) (by rw [show SP 0 = 0 by rw [eSP]; rfl]; rfl)
      · unfold bX9_numberOf_39
        rw [show gA S4 (16 + (nI k).toNatClampNeg) (0 : Int32).toNatClampNeg = F (4 * k) from row_at h4 (show k < P by omega) (by decide)]
        refine ⟨fun d => absurd d (nI_ge hk (by omega)), fun _ => ⟨vp_in_nI (by omega) (by omega), vp_in_nI (n := 0) (by omega) (by omega), fun d => ?_, fun d => m_top h4 w8 h64 (by omega) hb (by omega) ?_⟩⟩
        · simp only [forall_eq]
          rw [← nL_0, nL_add, nI_1]
          have := SPs k
          rw [if_neg d] at this
          rw [← this]
          exact hL
        · simp only [forall_eq]
          rw [nL_add, nI_1, A4]
          have := SPs k
          rw [if_pos d] at this
          rw [← this]
          exact hL
      · unfold bX9_numberOf_39
        refine ⟨fun _ => ⟨vpp, vp_in_nI (n := 1) (by omega) (by omega), ?_⟩, fun d => absurd (nI_le (Nat.le_refl _) (by omega)) d⟩
        rw [show (1 : Int32).toNatClampNeg = 1 from rfl, row_at h4 hp (by decide), e84]
        have q1' : TV (fitW (gA S 6)) P F (gA S4 8) (gA S4 9) (gA S4 10) f (F (4 * p + 1)) b u (i + 1) i1 r1 := by rw [A4]; exact q1
        have q2' : TV (fitW (gA S 6)) P F (gA S4 8) (gA S4 9) (gA S4 10) f (F (4 * p + 2)) (b + u) v i1 i2 r2 := by rw [A4]; exact q2
        refine m_sop hn hx (by omega) q1' ⟨vpp, vp_in_nI (n := 1) (by omega) (by omega), ?_⟩
        have j131 : jX9_numberOf_131 (pX9_numberOf f) (nI b) (nI len) Post (nI p) S4 (nL (SP p)) (nI u) (nI i1) := by
          unfold jX9_numberOf_131
          rw [show (2 : Int32).toNatClampNeg = 2 from rfl, row_at h4 hp (by decide)]
          refine ⟨vpp, vp_in_nI (n := 2) (by omega) (by omega), fun d => ⟨vpp, vp_in_nI (n := 2) (by omega) (by omega), m_sop hn ((neg_m1 o2).2 d) (by omega) q2' j168⟩, fun d => ?_⟩
          have ev := z2.2.2.1 ((neg_m1 o2).1 d)
          rw [ev] at j168
          exact j168
        refine ⟨fun d => ?_, fun d => ?_⟩
        · rw [z1.2.2.2.2 (fun g => isN_lt hn g d)] at j131
          exact j131
        · have hN1 : isN n (F (4 * p + 1)) := by
            rcases hx with g | g
            · exact g
            · exact absurd (isT_ge g) d
          exact m_sk h4 10 _ _ _ _ _ _ _ hN1 (by omega) (TV_ge (by omega) q1') j131
end MN
theorem s_23 {a1 a2 a3 a4 : Int32} {Sx Sm : gS} (h : Inv Sx Sm) : qL_23 a1 a2 a3 a4 Sx Sm Inv := by
  obtain ⟨n, t, st, P, h1, ok, hm, hL, hW⟩ := h.G
  obtain ⟨g, gc, ⟨w, w8, ew, hw⟩, gv, gl, gt⟩ := id h
  have hn : n ≤ 6 := h1.2.2.2.2.2.1
  have hst : st < n := h1.2.2.2.2.2.2.2.2.1
  have hP : P ≤ 24 := h1.2.2.2.2.2.2.2.2.2
  have ew' : gI Sm 5 = nI w := by rw [g.2.2.2.2.1, ew]
  have hN := nI_isN (n := n) (by omega) hst
  unfold qL_23 pL_treeNumber pX8_treeNumber pX8_checkTree pX9_treeNumber
  rcases gt with ⟨t1, t2⟩ | ⟨t1, z, P', w', st', r, z1, z2, ez, em, eA, eP, hP', ew2, w1, w8', e3, hs6, hTV, eJ⟩
  · refine ⟨fun c => absurd t1 c, fun _ => ⟨rfl, fun c => absurd t2 c, fun _ => ?_⟩⟩
    unfold jX9_treeNumber_14
    exact m_f1 ⟨fun c => absurd c (by decide), fun _ => fin rd0 h.thr (fun c => absurd c (by decide))⟩
  · have x1 : P' = P := (nI_eq (by omega) (by omega)).mp (eP.symm.trans h1.2.2.2.1)
    have x2 : w' = w := (nI_eq (by omega) (by omega)).mp (ew2.symm.trans ew)
    have x3 : st' = st := (nI_eq (by omega) (by omega)).mp (e3.symm.trans h1.2.2.1)
    subst x1 x2 x3
    refine ⟨fun _ => ⟨fun _ => ?_, fun c => ?_⟩, fun c => ?_⟩
    · unfold jX9_treeNumber_14
      refine m_f0 ⟨fun _ => m_cc hm.thr w8 (by rw [gI_uI, if_neg (by decide)]; exact ew') (fun U u1 u2 u3 u4 => ?_), fun c => absurd rfl c⟩
      rintro _ rfl
      obtain ⟨M, eM⟩ : ∃ M, M = uI U 8 0 := ⟨_, rfl⟩
      rw [← eM]
      have mI : ∀ f, 1 ≤ f → f ≠ 8 → gI M f = gI Sm f := fun f f1 f2 => by rw [eM, gI_uI, if_neg f2, u1, gI_uI, if_neg (by omega)]
      have mA : ∀ a, a ≠ 6 → gA M a = gA Sm a := fun a ha => by rw [eM]; exact u2 a ha
      have hM : mG M n t st' P' (gA Sx 10) := hm.eq (fun f f1 f2 => mI f f1 (by omega)) (fun p _ => mA _ (by omega))
      have m6' : m6 n P' (gA Sx 10) (gA M 6) w' M w' := by rw [eM]; exact u4
      have w6 : ∀ i, i < w' → gA Sx 13 i = gA M 6 i := fun i hi => by
        rw [eM]
        exact ((u3 i hi).trans (g.2.2.2.2.2.2 i (by omega))).symm
      rw [mI 3 (by omega) (by omega), mI 5 (by omega) (by omega), hm.1.2.2.1, ew']
      have q : TV (fitW (gA M 6)) P' (gA Sx 10) (gA M 8) (gA M 9) (gA M 10) 10 (nI st') 0 w' 0 z r := by
        refine TV_fit hn ok _ _ _ _ _ _ _ (TV_loc hn ok _ _ _ _ _ _ _ (Or.inr (Or.inl hN)) hTV (fun j _ hj => ?_)) (fitW_loc w6 (by omega))
        have := eA j hj
        rw [mA 8 (by decide), mA 9 (by decide), mA 10 (by decide)]
        exact ⟨this.1.symm, this.2.1.symm, this.2.2.symm⟩
      refine m_no 10 (nI st') 0 w' 0 z r M _ hM w8 m6' (by rw [eM, gI_uI, if_pos rfl]; rfl) (Or.inr (Or.inl hN)) w8 (by omega) z2 (by omega) q (fun V v1 v2 v3 v4 => ?_)
      refine fin ?_ (Inv.out (h.mod ⟨fun f f1 f2 f3 => ?_, fun a x1 x2 x3 => ?_⟩)) (fun _ => ?_)
      · rw [v2 0 (by decide), eM, gI_uI, if_neg (by decide), u1, rd0]
      · rw [v2 f f3, mI f f1 f3]
      · rw [v3, mA a x3]
      · rw [out0, eJ]
    · rw [em] at c
      exact absurd c (nI_ne0 (by omega) (by omega))
    · rw [t1] at c
      exact absurd c (by decide)
end
