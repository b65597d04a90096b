section
/-! THE MATHEMATICS, 26: the class chooses a production and lengths of parts. -/
theorem c_ch5 {S : gS} {n t st P z : Nat} (h : H5 S n t st P z) {c : Int32} {b len i R : Nat} {k : Int32} (hN : isN n c) (l1 : 1 ≤ len) (l8 : len ≤ 8) (hb : len ≤ z) (hi : i < 15) (e23 : gA S 23 i = nI len) (hR : R < TT fitL P (gA S 10) len b c) {Post : Int64 → gS → Prop} (hq : ∀ p u v, p < P → gA S 10 (4 * p) = c → 1 ≤ u → u + v ≤ len → bf fitL P (gA S 10) c len b p u v ≤ R → R < bf fitL P (gA S 10) c len b p u v + pr fitL (TT fitL P (gA S 10)) (gA S 10) p len b u v → Post (nL (R - bf fitL P (gA S 10) c len b p u v)) (uA (uA (uA S 21 i (nI p)) 24 i (nI u)) 25 i (nI v))) : pX5_choose_5 c k (nI i) (nL R) S Post := by
  have hn : n ≤ 6 := h.1.2.2.2.2.2.1
  have t3 : t ≤ 3 := h.1.2.2.2.2.2.2.2.1
  have hP : P ≤ 24 := h.1.2.2.2.2.2.2.2.2.2
  have e4 : gI S 4 = nI P := h.1.2.2.2.1
  have ok := h.2.1
  have hTT := TT_lt (fit := fitL) (b := b) (c := c) hn t3 hP ok l8
  obtain ⟨SP, eSP⟩ : ∃ SP : Nat → Nat, SP = fun k => sN (fun q => if gA S 10 (4 * q) = c then tp fitL (TT fitL P (gA S 10)) (gA S 10) q len b else 0) k := ⟨_, rfl⟩
  have SPs : ∀ k, SP (k + 1) = SP k + if gA S 10 (4 * k) = c then tp fitL (TT fitL P (gA S 10)) (gA S 10) k len b else 0 := fun k => by rw [eSP]; rfl
  have SPP : SP P = TT fitL P (gA S 10) len b c := by rw [eSP]; exact (TT_eq hn ok).symm
  have SPm : ∀ k, k ≤ P → SP k ≤ SP P := fun k hk => by rw [eSP]; exact sN_mono hk
  have P1 : 1 ≤ P := by
    refine Classical.byContradiction (fun d => ?_)
    have : SP P = 0 := by rw [show P = 0 by omega, eSP]; rfl
    omega
  have j66 : ∀ p, p < P → SP p ≤ R → R < SP (p + 1) → jX5_choose_5_66 k (nI i) S Post (nI len) (nL (R - SP p)) (nI p) := by
    intro p hp hS1 hS2
    have el : gA S 10 (4 * p) = c := by
      refine Classical.byContradiction (fun d => ?_)
      rw [SPs, if_neg d] at hS2
      omega
    rw [SPs, if_pos el] at hS2
    have hx := (ok.1 p hp).2.1
    have htp := tp_lt (fit := fitL) (b := b) hn t3 hP ok l8 hp
    obtain ⟨U, eU⟩ : ∃ U : Nat → Nat, U = fun k => sN (fun u => sF fitL (TT fitL P (gA S 10)) (gA S 10) p len b u) k := ⟨_, rfl⟩
    have Us : ∀ k, U (k + 1) = U k + sF fitL (TT fitL P (gA S 10)) (gA S 10) p len b k := fun k => by rw [eU]; rfl
    have Ul : U (len + 1) = tp fitL (TT fitL P (gA S 10)) (gA S 10) p len b := by rw [eU]; rfl
    have Um : ∀ k, k ≤ len + 1 → U k ≤ U (len + 1) := fun k hk => by rw [eU]; exact sN_mono hk
    have U1 : U 1 = 0 := by rw [Us, sF_0 hn hx, eU]; rfl
    have j113 : ∀ u, 1 ≤ u → u ≤ len → SP p + U u ≤ R → R < SP p + U (u + 1) → jX5_choose_5_113 k (nI i) S Post (nI len) (nI p) (nL (R - SP p - U u)) (nI u) := by
      intro u u1 u2 hU1 hU2
      have hUm := Um (u + 1) (by omega)
      rw [Us] at hU2 hUm
      obtain ⟨V, eV⟩ : ∃ V : Nat → Nat, V = fun k => sN (fun v => pj fitL (TT fitL P (gA S 10)) (gA S 10) p len b u v) k := ⟨_, rfl⟩
      have Vs : ∀ k, V (k + 1) = V k + pj fitL (TT fitL P (gA S 10)) (gA S 10) p len b u k := fun k => by rw [eV]; rfl
      have Vl : V (len - u + 1) = sF fitL (TT fitL P (gA S 10)) (gA S 10) p len b u := by
        rw [eV]
        exact sN_ext (by omega) (fun v hv _ => if_neg (by omega))
      have Vm : ∀ k, k ≤ len - u + 1 → V k ≤ V (len - u + 1) := fun k hk => by rw [eV]; exact sN_mono hk
      have ebf : ∀ v, bf fitL P (gA S 10) c len b p u v = SP p + (U u + V v) := fun v => by rw [eSP, eU, eV]; rfl
      have j165 : ∀ v, u + v ≤ len → SP p + U u + V v ≤ R → R < SP p + U u + V (v + 1) → jX5_choose_5_165 (nI i) S Post (nI p) (nI u) (nL (R - SP p - U u - V v)) (nI v) := by
        intro v huv hV1 hV2
        rw [Vs, show pj fitL (TT fitL P (gA S 10)) (gA S 10) p len b u v = pr fitL (TT fitL P (gA S 10)) (gA S 10) p len b u v from if_pos huv] at hV2
        have hq' := hq p u v hp el u1 huv (by rw [ebf]; omega) (by rw [ebf]; omega)
        unfold jX5_choose_5_165
        have vp : vp_in (nI i) 15 := vp_in_nI hi (by omega)
        simp only [forall_eq]
        rw [nI_clamp (by omega), show R - SP p - U u - V v = R - bf fitL P (gA S 10) c len b p u v by rw [ebf]; omega]
        exact ⟨vp, vp, vp, hq'⟩
      unfold jX5_choose_5_113
      refine lp_ex (B := fun L x => bX5_choose_5_116 k (nI i) S Post (nI len) (nI p) (nI u) L x.1 x.2) (fun k x => x = (nL (R - SP p - U u - V k), nI k) ∧ SP p + U u + V k ≤ R) (len - u) (fun k x hk hI => ?_) ⟨by rw [show V 0 = 0 by rw [eV]; rfl]; rfl, by rw [show V 0 = 0 by rw [eV]; rfl]; omega⟩
      obtain ⟨rfl, hV⟩ := hI
      have ej : pj fitL (TT fitL P (gA S 10)) (gA S 10) p len b u k = pr fitL (TT fitL P (gA S 10)) (gA S 10) p len b u k := if_pos (by omega)
      have hVm := Vm (k + 1) (by omega)
      rw [Vs, ej] at hVm
      by_cases e : k = len - u
      · left
        intro L
        unfold bX5_choose_5_116
        rw [nI_sub u2]
        refine ⟨fun _ => j165 k (by omega) hV (by rw [e, Vl]; omega), fun d => absurd (nI_le (by omega) (by omega)) d⟩
      · by_cases hlt : R < SP p + U u + V (k + 1)
        · left
          intro L
          unfold bX5_choose_5_116
          rw [nI_sub u2]
          refine ⟨fun d => absurd d (nI_ge (by omega) (by omega)), fun _ => c_os5 h (b := b) hp (by omega) (by omega) (fun _ => by omega) (by omega) (by omega) ?_⟩
          rw [cmp_ge, nL_toInt (by omega), nL_toInt (by omega)]
          have hlt' := hlt
          rw [Vs, ej] at hlt'
          exact ⟨fun d => by omega, fun _ => j165 k (by omega) hV hlt⟩
        · right
          refine ⟨by omega, fun L hL => ?_⟩
          unfold bX5_choose_5_116
          rw [nI_sub u2]
          refine ⟨fun d => absurd d (nI_ge (by omega) (by omega)), fun _ => c_os5 h (b := b) hp (by omega) (by omega) (fun _ => by omega) (by omega) (by omega) ?_⟩
          rw [cmp_ge, nL_toInt (by omega), nL_toInt (by omega)]
          have hlt' := hlt
          rw [Vs, ej] at hlt'
          simp only [forall_eq]
          refine ⟨fun _ => hL _ ⟨?_, by rw [Vs, ej]; omega⟩, fun d => absurd (by omega) d⟩
          rw [nL_sub (by omega), nI_1, Vs, ej, Nat.sub_sub _ (V k)]
    unfold jX5_choose_5_66
    refine lp_ex (B := fun L x => bX5_choose_5_69 k (nI i) S Post (nI len) (nI p) L x.1 x.2) (fun k x => x = (nL (R - SP p - U (1 + k)), nI (1 + k)) ∧ SP p + U (1 + k) ≤ R) (len - 1) (fun k x hk hI => ?_) ⟨by rw [U1]; rfl, by rw [U1]; omega⟩
    obtain ⟨rfl, hU⟩ := hI
    have hUm := Um (1 + k + 1) (by omega)
    rw [Us] at hUm
    by_cases e : k = len - 1
    · left
      intro L
      unfold bX5_choose_5_69
      refine ⟨fun _ => j113 (1 + k) (by omega) (by omega) hU (by rw [show 1 + k + 1 = len + 1 by omega, Ul]; omega), fun d => absurd (nI_le (by omega) (by omega)) d⟩
    · by_cases hlt : R < SP p + U (1 + k + 1)
      · left
        intro L
        unfold bX5_choose_5_69
        refine ⟨fun d => absurd d (nI_ge (by omega) (by omega)), fun _ => c_of5 h (b := b) hp (by omega) (by omega) (by omega) (by omega) ?_⟩
        rw [cmp_ge, nL_toInt (by omega), nL_toInt (by omega)]
        have hlt' := hlt
        rw [Us] at hlt'
        exact ⟨fun d => by omega, fun _ => j113 (1 + k) (by omega) (by omega) hU hlt⟩
      · right
        refine ⟨by omega, fun L hL => ?_⟩
        unfold bX5_choose_5_69
        refine ⟨fun d => absurd d (nI_ge (by omega) (by omega)), fun _ => c_of5 h (b := b) hp (by omega) (by omega) (by omega) (by omega) ?_⟩
        rw [cmp_ge, nL_toInt (by omega), nL_toInt (by omega)]
        have hlt' := hlt
        rw [Us] at hlt'
        simp only [forall_eq]
        refine ⟨fun _ => hL _ ⟨?_, by rw [show 1 + (k + 1) = 1 + k + 1 from rfl, Us]; omega⟩, fun d => absurd (by omega) d⟩
        rw [nL_sub (by omega), nI_1, show 1 + (k + 1) = 1 + k + 1 from rfl, Us, Nat.sub_sub _ (U (1 + k))]
  unfold pX5_choose_5
  refine ⟨vp_in_nI hi (by omega), ?_⟩
  rintro _ rfl
  rw [nI_clamp (by omega), e23]
  refine lp_ex (B := fun L x => bX5_choose_5_16 c k (nI i) S Post (nI len) L x.1 x.2) (fun k x => x = (nL (R - SP k), nI k) ∧ SP k ≤ R) (P - 1) (fun k x hk hI => ?_) ⟨by rw [show SP 0 = 0 by rw [eSP]; rfl]; rfl, by rw [show SP 0 = 0 by rw [eSP]; rfl]; omega⟩
  obtain ⟨rfl, hS⟩ := hI
  have ek : gI S 4 - 1 = nI (P - 1) := by rw [e4, i_1, nI_sub P1]
  have hSm := SPm (k + 1) (by omega)
  by_cases e : k = P - 1
  · left
    intro L
    unfold bX5_choose_5_16
    rw [ek]
    refine ⟨fun _ => j66 k (by omega) hS (by rw [show k + 1 = P by omega]; omega), fun d => absurd (nI_le (by omega) (by omega)) d⟩
  · rw [SPs] at hSm
    by_cases hlt : R < SP (k + 1)
    · left
      intro L
      unfold bX5_choose_5_16
      rw [ek]
      refine ⟨fun d => absurd d (nI_ge (by omega) (by omega)), fun _ => c_op5 h (b := b) (show k < P by omega) (by omega) (by omega) ?_⟩
      rw [cmp_ge, nL_toInt (by omega), nL_toInt (by omega)]
      have hlt' := hlt
      rw [SPs] at hlt'
      exact ⟨fun d => by omega, fun _ => j66 k (by omega) hS hlt⟩
    · right
      refine ⟨by omega, fun L hL => ?_⟩
      unfold bX5_choose_5_16
      rw [ek]
      refine ⟨fun d => absurd d (nI_ge (by omega) (by omega)), fun _ => c_op5 h (b := b) (show k < P by omega) (by omega) (by omega) ?_⟩
      rw [cmp_ge, nL_toInt (by omega), nL_toInt (by omega)]
      have hlt' := hlt
      rw [SPs] at hlt'
      simp only [forall_eq]
      refine ⟨fun _ => hL _ ⟨?_, by rw [SPs]; omega⟩, fun d => absurd (by omega) d⟩
      rw [nL_sub (by omega), nI_1, SPs, Nat.sub_sub _ (SP k)]
theorem c_ch6 {S : gS} {n t st P w : Nat} (h : H6 S n t st P w w) {c : Int32} {b len i R : Nat} (hN : isN n c) (l1 : 1 ≤ len) (l8 : len ≤ 8) (hb : b + len ≤ w) (hi : i < 15) (e23 : gA S 23 i = nI len) (hR : R < TT (fitW (gA S 13)) P (gA S 10) len b c) {Post : Int64 → gS → Prop} (hq : ∀ p u v, p < P → gA S 10 (4 * p) = c → 1 ≤ u → u + v ≤ len → bf (fitW (gA S 13)) P (gA S 10) c len b p u v ≤ R → R < bf (fitW (gA S 13)) P (gA S 10) c len b p u v + pr (fitW (gA S 13)) (TT (fitW (gA S 13)) P (gA S 10)) (gA S 10) p len b u v → Post (nL (R - bf (fitW (gA S 13)) P (gA S 10) c len b p u v)) (uA (uA (uA S 21 i (nI p)) 24 i (nI u)) 25 i (nI v))) : pX5_choose_6 c (nI b) (nI i) (nL R) S Post := by
  have hn : n ≤ 6 := h.1.2.2.2.2.2.1
  have t3 : t ≤ 3 := h.1.2.2.2.2.2.2.2.1
  have hP : P ≤ 24 := h.1.2.2.2.2.2.2.2.2.2
  have e4 : gI S 4 = nI P := h.1.2.2.2.1
  have ok := h.2.1
  have hTT := TT_lt (fit := (fitW (gA S 13))) (b := b) (c := c) hn t3 hP ok l8
  obtain ⟨SP, eSP⟩ : ∃ SP : Nat → Nat, SP = fun k => sN (fun q => if gA S 10 (4 * q) = c then tp (fitW (gA S 13)) (TT (fitW (gA S 13)) P (gA S 10)) (gA S 10) q len b else 0) k := ⟨_, rfl⟩
  have SPs : ∀ k, SP (k + 1) = SP k + if gA S 10 (4 * k) = c then tp (fitW (gA S 13)) (TT (fitW (gA S 13)) P (gA S 10)) (gA S 10) k len b else 0 := fun k => by rw [eSP]; rfl
  have SPP : SP P = TT (fitW (gA S 13)) P (gA S 10) len b c := by rw [eSP]; exact (TT_eq hn ok).symm
  have SPm : ∀ k, k ≤ P → SP k ≤ SP P := fun k hk => by rw [eSP]; exact sN_mono hk
  have P1 : 1 ≤ P := by
    refine Classical.byContradiction (fun d => ?_)
    have : SP P = 0 := by rw [show P = 0 by omega, eSP]; rfl
    omega
  have j66 : ∀ p, p < P → SP p ≤ R → R < SP (p + 1) → jX5_choose_6_66 (nI b) (nI i) S Post (nI len) (nL (R - SP p)) (nI p) := by
    intro p hp hS1 hS2
    have el : gA S 10 (4 * p) = c := by
      refine Classical.byContradiction (fun d => ?_)
      rw [SPs, if_neg d] at hS2
      omega
    rw [SPs, if_pos el] at hS2
    have hx := (ok.1 p hp).2.1
    have htp := tp_lt (fit := (fitW (gA S 13))) (b := b) hn t3 hP ok l8 hp
    obtain ⟨U, eU⟩ : ∃ U : Nat → Nat, U = fun k => sN (fun u => sF (fitW (gA S 13)) (TT (fitW (gA S 13)) P (gA S 10)) (gA S 10) p len b u) k := ⟨_, rfl⟩
    have Us : ∀ k, U (k + 1) = U k + sF (fitW (gA S 13)) (TT (fitW (gA S 13)) P (gA S 10)) (gA S 10) p len b k := fun k => by rw [eU]; rfl
    have Ul : U (len + 1) = tp (fitW (gA S 13)) (TT (fitW (gA S 13)) P (gA S 10)) (gA S 10) p len b := by rw [eU]; rfl
    have Um : ∀ k, k ≤ len + 1 → U k ≤ U (len + 1) := fun k hk => by rw [eU]; exact sN_mono hk
    have U1 : U 1 = 0 := by rw [Us, sF_0 hn hx, eU]; rfl
    have j113 : ∀ u, 1 ≤ u → u ≤ len → SP p + U u ≤ R → R < SP p + U (u + 1) → jX5_choose_6_113 (nI b) (nI i) S Post (nI len) (nI p) (nL (R - SP p - U u)) (nI u) := by
      intro u u1 u2 hU1 hU2
      have hUm := Um (u + 1) (by omega)
      rw [Us] at hU2 hUm
      obtain ⟨V, eV⟩ : ∃ V : Nat → Nat, V = fun k => sN (fun v => pj (fitW (gA S 13)) (TT (fitW (gA S 13)) P (gA S 10)) (gA S 10) p len b u v) k := ⟨_, rfl⟩
      have Vs : ∀ k, V (k + 1) = V k + pj (fitW (gA S 13)) (TT (fitW (gA S 13)) P (gA S 10)) (gA S 10) p len b u k := fun k => by rw [eV]; rfl
      have Vl : V (len - u + 1) = sF (fitW (gA S 13)) (TT (fitW (gA S 13)) P (gA S 10)) (gA S 10) p len b u := by
        rw [eV]
        exact sN_ext (by omega) (fun v hv _ => if_neg (by omega))
      have Vm : ∀ k, k ≤ len - u + 1 → V k ≤ V (len - u + 1) := fun k hk => by rw [eV]; exact sN_mono hk
      have ebf : ∀ v, bf (fitW (gA S 13)) P (gA S 10) c len b p u v = SP p + (U u + V v) := fun v => by rw [eSP, eU, eV]; rfl
      have j165 : ∀ v, u + v ≤ len → SP p + U u + V v ≤ R → R < SP p + U u + V (v + 1) → jX5_choose_6_165 (nI i) S Post (nI p) (nI u) (nL (R - SP p - U u - V v)) (nI v) := by
        intro v huv hV1 hV2
        rw [Vs, show pj (fitW (gA S 13)) (TT (fitW (gA S 13)) P (gA S 10)) (gA S 10) p len b u v = pr (fitW (gA S 13)) (TT (fitW (gA S 13)) P (gA S 10)) (gA S 10) p len b u v from if_pos huv] at hV2
        have hq' := hq p u v hp el u1 huv (by rw [ebf]; omega) (by rw [ebf]; omega)
        unfold jX5_choose_6_165
        have vp : vp_in (nI i) 15 := vp_in_nI hi (by omega)
        simp only [forall_eq]
        rw [nI_clamp (by omega), show R - SP p - U u - V v = R - bf (fitW (gA S 13)) P (gA S 10) c len b p u v by rw [ebf]; omega]
        exact ⟨vp, vp, vp, hq'⟩
      unfold jX5_choose_6_113
      refine lp_ex (B := fun L x => bX5_choose_6_116 (nI b) (nI i) S Post (nI len) (nI p) (nI u) L x.1 x.2) (fun k x => x = (nL (R - SP p - U u - V k), nI k) ∧ SP p + U u + V k ≤ R) (len - u) (fun k x hk hI => ?_) ⟨by rw [show V 0 = 0 by rw [eV]; rfl]; rfl, by rw [show V 0 = 0 by rw [eV]; rfl]; omega⟩
      obtain ⟨rfl, hV⟩ := hI
      have ej : pj (fitW (gA S 13)) (TT (fitW (gA S 13)) P (gA S 10)) (gA S 10) p len b u k = pr (fitW (gA S 13)) (TT (fitW (gA S 13)) P (gA S 10)) (gA S 10) p len b u k := if_pos (by omega)
      have hVm := Vm (k + 1) (by omega)
      rw [Vs, ej] at hVm
      by_cases e : k = len - u
      · left
        intro L
        unfold bX5_choose_6_116
        rw [nI_sub u2]
        refine ⟨fun _ => j165 k (by omega) hV (by rw [e, Vl]; omega), fun d => absurd (nI_le (by omega) (by omega)) d⟩
      · by_cases hlt : R < SP p + U u + V (k + 1)
        · left
          intro L
          unfold bX5_choose_6_116
          rw [nI_sub u2]
          refine ⟨fun d => absurd d (nI_ge (by omega) (by omega)), fun _ => c_os6 h (b := b) hp (by omega) (by omega) hb (fun _ => by omega) (by omega) (by omega) ?_⟩
          rw [cmp_ge, nL_toInt (by omega), nL_toInt (by omega)]
          have hlt' := hlt
          rw [Vs, ej] at hlt'
          exact ⟨fun d => by omega, fun _ => j165 k (by omega) hV hlt⟩
        · right
          refine ⟨by omega, fun L hL => ?_⟩
          unfold bX5_choose_6_116
          rw [nI_sub u2]
          refine ⟨fun d => absurd d (nI_ge (by omega) (by omega)), fun _ => c_os6 h (b := b) hp (by omega) (by omega) hb (fun _ => by omega) (by omega) (by omega) ?_⟩
          rw [cmp_ge, nL_toInt (by omega), nL_toInt (by omega)]
          have hlt' := hlt
          rw [Vs, ej] at hlt'
          simp only [forall_eq]
          refine ⟨fun _ => hL _ ⟨?_, by rw [Vs, ej]; omega⟩, fun d => absurd (by omega) d⟩
          rw [nL_sub (by omega), nI_1, Vs, ej, Nat.sub_sub _ (V k)]
    unfold jX5_choose_6_66
    refine lp_ex (B := fun L x => bX5_choose_6_69 (nI b) (nI i) S Post (nI len) (nI p) L x.1 x.2) (fun k x => x = (nL (R - SP p - U (1 + k)), nI (1 + k)) ∧ SP p + U (1 + k) ≤ R) (len - 1) (fun k x hk hI => ?_) ⟨by rw [U1]; rfl, by rw [U1]; omega⟩
    obtain ⟨rfl, hU⟩ := hI
    have hUm := Um (1 + k + 1) (by omega)
    rw [Us] at hUm
    by_cases e : k = len - 1
    · left
      intro L
      unfold bX5_choose_6_69
      refine ⟨fun _ => j113 (1 + k) (by omega) (by omega) hU (by rw [show 1 + k + 1 = len + 1 by omega, Ul]; omega), fun d => absurd (nI_le (by omega) (by omega)) d⟩
    · by_cases hlt : R < SP p + U (1 + k + 1)
      · left
        intro L
        unfold bX5_choose_6_69
        refine ⟨fun d => absurd d (nI_ge (by omega) (by omega)), fun _ => c_of6 h (b := b) hp (by omega) (by omega) (by omega) hb (by omega) ?_⟩
        rw [cmp_ge, nL_toInt (by omega), nL_toInt (by omega)]
        have hlt' := hlt
        rw [Us] at hlt'
        exact ⟨fun d => by omega, fun _ => j113 (1 + k) (by omega) (by omega) hU hlt⟩
      · right
        refine ⟨by omega, fun L hL => ?_⟩
        unfold bX5_choose_6_69
        refine ⟨fun d => absurd d (nI_ge (by omega) (by omega)), fun _ => c_of6 h (b := b) hp (by omega) (by omega) (by omega) hb (by omega) ?_⟩
        rw [cmp_ge, nL_toInt (by omega), nL_toInt (by omega)]
        have hlt' := hlt
        rw [Us] at hlt'
        simp only [forall_eq]
        refine ⟨fun _ => hL _ ⟨?_, by rw [show 1 + (k + 1) = 1 + k + 1 from rfl, Us]; omega⟩, fun d => absurd (by omega) d⟩
        rw [nL_sub (by omega), nI_1, show 1 + (k + 1) = 1 + k + 1 from rfl, Us, Nat.sub_sub _ (U (1 + k))]
  unfold pX5_choose_6
  refine ⟨vp_in_nI hi (by omega), ?_⟩
  rintro _ rfl
  rw [nI_clamp (by omega), e23]
  refine lp_ex (B := fun L x => bX5_choose_6_16 c (nI b) (nI i) S Post (nI len) L x.1 x.2) (fun k x => x = (nL (R - SP k), nI k) ∧ SP k ≤ R) (P - 1) (fun k x hk hI => ?_) ⟨by rw [show SP 0 = 0 by rw [eSP]; rfl]; rfl, by rw [show SP 0 = 0 by rw [eSP]; rfl]; omega⟩
  obtain ⟨rfl, hS⟩ := hI
  have ek : gI S 4 - 1 = nI (P - 1) := by rw [e4, i_1, nI_sub P1]
  have hSm := SPm (k + 1) (by omega)
  by_cases e : k = P - 1
  · left
    intro L
    unfold bX5_choose_6_16
    rw [ek]
    refine ⟨fun _ => j66 k (by omega) hS (by rw [show k + 1 = P by omega]; omega), fun d => absurd (nI_le (by omega) (by omega)) d⟩
  · rw [SPs] at hSm
    by_cases hlt : R < SP (k + 1)
    · left
      intro L
      unfold bX5_choose_6_16
      rw [ek]
      refine ⟨fun d => absurd d (nI_ge (by omega) (by omega)), fun _ => c_op6 h (b := b) (show k < P by omega) (by omega) hb (by omega) ?_⟩
      rw [cmp_ge, nL_toInt (by omega), nL_toInt (by omega)]
      have hlt' := hlt
      rw [SPs] at hlt'
      exact ⟨fun d => by omega, fun _ => j66 k (by omega) hS hlt⟩
    · right
      refine ⟨by omega, fun L hL => ?_⟩
      unfold bX5_choose_6_16
      rw [ek]
      refine ⟨fun d => absurd d (nI_ge (by omega) (by omega)), fun _ => c_op6 h (b := b) (show k < P by omega) (by omega) hb (by omega) ?_⟩
      rw [cmp_ge, nL_toInt (by omega), nL_toInt (by omega)]
      have hlt' := hlt
      rw [SPs] at hlt'
      simp only [forall_eq]
      refine ⟨fun _ => hL _ ⟨?_, by rw [SPs]; omega⟩, fun d => absurd (by omega) d⟩
      rw [nL_sub (by omega), nI_1, SPs, Nat.sub_sub _ (SP k)]
end
