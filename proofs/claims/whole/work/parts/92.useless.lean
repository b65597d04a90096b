section
/-! THE MATHEMATICS, 23: what is reached; removeUseless. -/
def mkc (n : Nat) (c : Int32) (y : Nat → Bool) : Nat → Bool := fun b => y b || decide ((0 ≤ c.toInt ∧ c.toInt < n) ∧ c.toNatClampNeg = b)
def mkk (n : Nat) (F : Nat → Int32) (p : Nat) (y : Nat → Bool) : Nat → Nat → Bool
  | 0 => y
  | k + 1 => mkc n (F (4 * p + (1 + k))) (mkk n F p y k)
def usd (n : Nat) (F : Nat → Int32) (x : Nat → Nat) (y : Nat → Bool) (p : Nat) : Bool := y (lf F p) && decide (0 < so n F x p)
def stq (n : Nat) (F : Nat → Int32) (x : Nat → Nat) (y : Nat → Bool) (p : Nat) : Nat → Bool := if usd n F x y p = true then mkk n F p y 3 else y
def rq (n : Nat) (F : Nat → Int32) (x : Nat → Nat) (y : Nat → Bool) : Nat → Nat → Bool
  | 0 => y
  | p + 1 => stq n F x (rq n F x y p) p
def iq (n P : Nat) (F : Nat → Int32) (x : Nat → Nat) (st : Nat) : Nat → Nat → Bool
  | 0 => fun b => decide (b = st)
  | k + 1 => rq n F x (iq n P F x st k) P
def relb (A : Nat → Int32) (y : Nat → Bool) : Prop := ∀ a, a < 6 → A a = if y a = true then 1 else 0
section RQ
variable {n P p st : Nat} {F : Nat → Int32} {x : Nat → Nat} {y z : Nat → Bool} {c : Int32}
def mo (y z : Nat → Bool) : Prop := ∀ b, y b = true → z b = true
def ob (n : Nat) (y : Nat → Bool) : Prop := ∀ b, n ≤ b → y b = false
theorem mo_mkc : mo y (mkc n c y) := fun b h => by
  unfold mkc
  rw [h]
  rfl
theorem mo_mkk {k : Nat} : mo y (mkk n F p y k) := by
  induction k with
  | zero => exact fun _ h => h
  | succ k ih => exact fun b h => mo_mkc b (ih b h)
theorem ob_mkc (h : ob n y) : ob n (mkc n c y) := fun b hb => by
  unfold mkc
  rw [h b hb, Bool.false_or]
  refine decide_eq_false (fun d => ?_)
  have h1 := clamp_i d.1.1
  have h2 := d.1.2
  have h3 := d.2
  omega
theorem ob_mkk (h : ob n y) {k : Nat} : ob n (mkk n F p y k) := by
  induction k with
  | zero => exact h
  | succ k ih => exact ob_mkc ih
theorem mo_stq : mo y (stq n F x y p) := by
  unfold stq
  split
  · exact mo_mkk
  · exact fun _ h => h
theorem ob_stq (h : ob n y) : ob n (stq n F x y p) := by
  unfold stq
  split
  · exact ob_mkk h
  · exact h
theorem mo_rq {k : Nat} : mo y (rq n F x y k) := by
  induction k with
  | zero => exact fun _ h => h
  | succ k ih => exact fun b h => mo_stq b (ih b h)
theorem ob_rq (h : ob n y) {k : Nat} : ob n (rq n F x y k) := by
  induction k with
  | zero => exact h
  | succ k ih => exact ob_stq ih
theorem ob_iq (hs : st < n) {k : Nat} : ob n (iq n P F x st k) := by
  induction k with
  | zero => exact fun b hb => decide_eq_false (by omega)
  | succ k ih => exact ob_rq ih
def cq (n : Nat) (y : Nat → Bool) : Nat := sN (fun b => if y b = true then 1 else 0) n
theorem cq_le : cq n y ≤ n := by
  unfold cq
  refine Nat.le_trans (sN_le (g := fun _ => 1) (fun i _ => ?_)) (Nat.le_of_eq (by rw [sN_c, Nat.mul_one]))
  show (if _ then 1 else 0) ≤ 1
  split <;> omega
theorem cq_lt (h1 : mo y z) (h2 : z ≠ y) (h3 : ob n z) : cq n y < cq n z := by
  have hex : ∃ b, z b ≠ y b := by
    refine Classical.byContradiction (fun d => h2 (funext (fun b => ?_)))
    refine Classical.byContradiction (fun e => d ⟨b, e⟩)
  obtain ⟨b, hb⟩ := hex
  have yb : y b = false := by
    cases e : y b
    · rfl
    · rw [h1 b e, e] at hb
      exact absurd rfl hb
  have zb : z b = true := by
    cases e : z b
    · rw [e, yb] at hb
      exact absurd rfl hb
    · rfl
  have bn : b < n := by
    refine Classical.byContradiction (fun d => ?_)
    rw [h3 b (by omega)] at zb
    cases zb
  unfold cq
  refine sN_lt (k := b) (fun i hi => ?_) bn ?_
  · show (if y i = true then 1 else 0) ≤ (if z i = true then 1 else 0)
    by_cases e : y i = true
    · rw [if_pos e, if_pos (h1 i e)]
      exact Nat.le_refl _
    · rw [if_neg e]
      exact Nat.zero_le _
  · show (if y b = true then 1 else 0) < (if z b = true then 1 else 0)
    rw [if_neg (by rw [yb]; decide), if_pos zb]
    omega
theorem iq_gr (hs : st < n) : ∀ k, iq n P F x st (k + 1) = iq n P F x st k ∨ k + 2 ≤ cq n (iq n P F x st (k + 1)) := by
  have step : ∀ k, iq n P F x st (k + 1) = iq n P F x st k ∨ cq n (iq n P F x st k) < cq n (iq n P F x st (k + 1)) := fun k => by
    by_cases e : iq n P F x st (k + 1) = iq n P F x st k
    · exact Or.inl e
    · exact Or.inr (cq_lt mo_rq e (ob_iq hs))
  intro k
  induction k with
  | zero =>
    refine (step 0).imp id (fun h => ?_)
    have h1 : 1 ≤ cq n (iq n P F x st 0) := by
      have := sN_ge (f := fun b => if iq n P F x st 0 b = true then 1 else 0) hs
      have e : (if iq n P F x st 0 st = true then 1 else 0) = 1 := if_pos (decide_eq_true rfl)
      rw [e] at this
      exact this
    omega
  | succ k ih =>
    rcases ih with ih | ih
    · left
      show rq n F x (iq n P F x st (k + 1)) P = iq n P F x st (k + 1)
      rw [ih]
      exact ih
    · refine (step (k + 1)).imp id (fun h => ?_)
      omega
theorem iq_6 (hs : st < n) (hn : n ≤ 6) : iq n P F x st 6 = iq n P F x st n := by
  obtain ⟨m, em⟩ : ∃ m, n = m + 1 := ⟨n - 1, by omega⟩
  have h := iq_gr (P := P) (F := F) (x := x) hs m
  rcases h with h | h
  · have st' : ∀ k, iq n P F x st (m + k) = iq n P F x st m := by
      intro k
      induction k with
      | zero => rfl
      | succ k ih =>
        show rq n F x (iq n P F x st (m + k)) P = _
        rw [ih]
        exact h
    have e := st' (6 - m)
    have e2 := st' 1
    rw [show m + (6 - m) = 6 by omega] at e
    rw [← em] at e2
    rw [e, e2]
  · have := cq_le (n := n) (y := iq n P F x st (m + 1))
    omega
theorem relb_1 {A : Nat → Int32} (hn : n ≤ 6) (h : relb A y) (hc : isN n c) : relb (upd A c.toNatClampNeg 1) (mkc n c y) := by
  intro a ha
  rw [upd_at]
  unfold mkc
  by_cases e : a = c.toNatClampNeg
  · rw [if_pos e, decide_eq_true (show (0 ≤ c.toInt ∧ c.toInt < n) ∧ c.toNatClampNeg = a from ⟨hc, e.symm⟩), Bool.or_true]
    rfl
  · rw [if_neg e, decide_eq_false (show ¬ ((0 ≤ c.toInt ∧ c.toInt < n) ∧ c.toNatClampNeg = a) from fun d => e d.2.symm), Bool.or_false]
    exact h a ha
theorem relb_0 {A : Nat → Int32} (h : relb A y) (hc : ¬ isN n c) : relb A (mkc n c y) := by
  intro a ha
  unfold mkc
  rw [decide_eq_false (show ¬ ((0 ≤ c.toInt ∧ c.toInt < n) ∧ c.toNatClampNeg = a) from fun d => hc d.1), Bool.or_false]
  exact h a ha
end RQ
section CR
variable {S : gS} {n t st P : Nat} {F : Nat → Int32} {x : Nat → Nat} {y : Nat → Bool}
theorem c_used (h1 : cG S n t st P) (eF : gA S 10 = F) (ok : okP n t P F) (hr : rel (gA S 11) x) (hb : ∀ a, x a ≤ 729) (hy : relb (gA S 12) y) {p : Nat} (hp : p < P) {Post : Int32 → Prop} (h0 : usd n F x y p = false → Post 0) (h1' : usd n F x y p = true → Post 1) : pX1_isUsed (nI p) S Post := by
  have hn : n ≤ 6 := h1.2.2.2.2.2.1
  have hl := lf_n hn ok hp
  have hs := so_b (n := n) (F := F) (p := p) hb
  unfold pX1_isUsed
  refine c_sym (k := 0) h1 hp (by decide) ?_
  rw [eF, show F (4 * p + 0) = nI (lf F p) from hl.2]
  refine c_isN h1 (fun _ => ⟨fun e => absurd e (by decide), fun _ => ⟨vp_in_nI (by omega) (by omega), ?_⟩⟩) (fun d => absurd (nI_isN (by omega) hl.1) d)
  rw [nI_clamp (by omega), hy (lf F p) (by omega)]
  unfold usd at h0 h1'
  cases e : y (lf F p)
  · rw [e] at h0
    exact ⟨fun _ => h0 rfl, fun c => absurd rfl c⟩
  · rw [e, Bool.true_and] at h0 h1'
    refine ⟨fun c => absurd c (by decide), fun _ => c_so h1 eF hr hb hp ?_⟩
    rw [i_0, nI_leI (by omega) (by omega)]
    exact ⟨fun c => h0 (decide_eq_false (by omega)), fun c => h1' (decide_eq_true (by omega))⟩
theorem c_rp (h1 : cG S n t st P) (eF : gA S 10 = F) {p : Nat} (hp : p < P) (hy : relb (gA S 12) y) {Post : gS → Prop} (hq : ∀ A, relb A (mkk n F p y 3) → Post (sA S 12 A)) : pX1_reachParts (nI p) S Post := by
  have hn : n ≤ 6 := h1.2.2.2.2.2.1
  unfold pX1_reachParts
  refine lp_inv (B := fun L w => bX1_reachParts_2 (nI p) Post L w.1 w.2) (fun k w => ∃ A, w = (nI (1 + k), sA S 12 A) ∧ relb A (mkk n F p y k)) 3 (fun k w L hk hI hL => ?_) (fun w L hI => ?_) ⟨gA S 12, by rw [sA_id]; rfl, hy⟩
  · obtain ⟨A, rfl, hA⟩ := hI
    have h1' : cG (sA S 12 A) n t st P := h1
    unfold bX1_reachParts_2
    refine ⟨fun c => absurd c (nI_nlt (a := 3) (by omega) (by omega)), fun _ => c_sym (k := 1 + k) h1' hp (by omega) ?_⟩
    rw [gA_sA, if_neg (by decide), eF]
    simp only [forall_eq]
    rw [nI_1, n_b1]
    refine c_isN h1' (fun d => ⟨fun e => absurd e (by decide), fun _ => ⟨in_i d.1 (by have := d.2; omega), ?_⟩⟩) (fun d => ⟨fun _ => ?_, fun e => absurd rfl e⟩)
    · rw [uA_s, sA_sA, gA_sA, if_pos rfl]
      exact hL _ ⟨_, rfl, relb_1 hn hA d⟩
    · exact hL _ ⟨A, rfl, relb_0 hA d⟩
  · obtain ⟨A, rfl, hA⟩ := hI
    unfold bX1_reachParts_2
    exact ⟨fun _ => hq A hA, fun c => absurd (nI_lt (a := 3) (by omega) (by omega)) c⟩
theorem c_rch (h1 : cG S n t st P) (ok : okP n t P (gA S 10)) (hr : rel (gA S 11) x) (hb : ∀ a, x a ≤ 729) {Post : gS → Prop} (hq : ∀ A, relb A (iq n P (gA S 10) x st n) → Post (sA S 12 A)) : pX1_reach S Post := by
  have hn : n ≤ 6 := h1.2.2.2.2.2.1
  have hst : st < n := h1.2.2.2.2.2.2.2.2.1
  have hP : P ≤ 24 := h1.2.2.2.2.2.2.2.2.2
  have e1 : gI S 1 = nI n := h1.1
  have e3 : gI S 3 = nI st := h1.2.2.1
  have e4 : gI S 4 = nI P := h1.2.2.2.1
  unfold pX1_reach
  refine lp_inv (B := fun L w => bX1_reach_2 Post L w.1 w.2) (fun k w => ∃ A, w = (nI k, sA S 12 A) ∧ ∀ a, a < k → A a = if decide (a = st) = true then 1 else 0) 6 (fun k w L hk hI hL => ?_) (fun w L hI => ?_) ⟨gA S 12, by rw [sA_id]; rfl, fun a g => by omega⟩
  · obtain ⟨A, rfl, hA⟩ := hI
    unfold bX1_reach_2
    rw [gI_sA, e3]
    refine ⟨fun c => absurd c (nI_ge (b := 6) hk (by omega)), fun _ => ?_⟩
    simp only [forall_eq]
    rw [nI_clamp (by omega), nI_1, uA_s, uA_s, sA_sA, sA_sA, gA_sA, if_pos rfl, nI_eq (by omega) (by omega), n_b0, n_b1]
    refine ⟨fun d => ⟨vp_in_nI hk (by omega), hL _ ⟨_, rfl, fun a ha => ?_⟩⟩, fun d => ⟨vp_in_nI hk (by omega), hL _ ⟨_, rfl, fun a ha => ?_⟩⟩⟩
    · rw [upd_at]
      by_cases e : a = k
      · rw [if_pos e, if_neg (by rw [decide_eq_true_iff]; omega)]
      · rw [if_neg e]
        exact hA a (by omega)
    · rw [upd_at]
      by_cases e : a = k
      · rw [if_pos e, if_pos (by rw [decide_eq_true_iff]; omega)]
      · rw [if_neg e]
        exact hA a (by omega)
  · obtain ⟨A, rfl, hA⟩ := hI
    unfold bX1_reach_2
    refine ⟨fun _ => ?_, fun c => absurd (nI_le (a := 6) (by omega) (by omega)) c⟩
    refine lp_inv (B := fun L w => bX1_reach_35 Post L w.1 w.2) (fun k w => ∃ A, w = (nI k, sA S 12 A) ∧ relb A (iq n P (gA S 10) x st k)) n (fun k w L hk hI hL => ?_) (fun w L hI => ?_) ⟨A, rfl, hA⟩
    · obtain ⟨A, rfl, hA⟩ := hI
      unfold bX1_reach_35
      rw [gI_sA, e1]
      refine ⟨fun c => absurd c (nI_ge hk (by omega)), fun _ => ?_⟩
      refine lp_inv (B := fun L' w => bX1_reach_45 (nI k) L L' w.1 w.2) (fun p w => ∃ A, w = (nI p, sA S 12 A) ∧ relb A (rq n (gA S 10) x (iq n P (gA S 10) x st k) p)) P (fun p w L2 hp hI hL2 => ?_) (fun w L2 hI => ?_) ⟨A, rfl, hA⟩
      · obtain ⟨A, rfl, hA⟩ := hI
        have h1' : cG (sA S 12 A) n t st P := h1
        have eF : gA (sA S 12 A) 10 = gA S 10 := by rw [gA_sA, if_neg (by decide)]
        have hr' : rel (gA (sA S 12 A) 11) x := by rw [gA_sA, if_neg (by decide)]; exact hr
        have hy' : relb (gA (sA S 12 A) 12) (rq n (gA S 10) x (iq n P (gA S 10) x st k) p) := by rw [gA_sA, if_pos rfl]; exact hA
        unfold bX1_reach_45
        rw [gI_sA, e4]
        refine ⟨fun c => absurd c (nI_ge hp (by omega)), fun _ => ?_⟩
        simp only [forall_eq]
        rw [nI_1]
        refine c_used h1' eF ok hr' hb hy' hp (fun u => ⟨fun _ => ?_, fun c => absurd rfl c⟩) (fun u => ⟨fun c => absurd c (by decide), fun _ => c_rp h1' eF hp hy' (fun B hB => ?_)⟩)
        · refine hL2 _ ⟨A, rfl, ?_⟩
          show relb A (stq n (gA S 10) x (rq n (gA S 10) x (iq n P (gA S 10) x st k) p) p)
          unfold stq
          rw [if_neg (by rw [u]; decide)]
          exact hA
        · rw [sA_sA]
          refine hL2 _ ⟨B, rfl, ?_⟩
          show relb B (stq n (gA S 10) x (rq n (gA S 10) x (iq n P (gA S 10) x st k) p) p)
          unfold stq
          rw [if_pos u]
          exact hB
      · obtain ⟨A, rfl, hA⟩ := hI
        unfold bX1_reach_45
        rw [gI_sA, e4]
        refine ⟨fun _ => ?_, fun c => absurd (nI_le (Nat.le_refl _) (by omega)) c⟩
        simp only [forall_eq]
        rw [nI_1]
        exact hL _ ⟨A, rfl, hA⟩
    · obtain ⟨A, rfl, hA⟩ := hI
      unfold bX1_reach_35
      rw [gI_sA, e1]
      exact ⟨fun _ => hq A hA, fun c => absurd (nI_le (Nat.le_refl _) (by omega)) c⟩
end CR
/-- k productions looked at from the last one: the symbols and how many are left -/
def rmu (P : Nat) (F : Nat → Int32) (ud : Nat → Bool) : Nat → (Nat → Int32) × Nat
  | 0 => (F, P)
  | k + 1 => if ud (P - 1 - k) = true then rmu P F ud k else (rmv (P - 1 - k) (rmu P F ud k).2 (rmu P F ud k).1, (rmu P F ud k).2 - 1)
theorem rmu_ok {n t P : Nat} {F : Nat → Int32} {ud : Nat → Bool} (ok : okP n t P F) : ∀ k, k ≤ P → P - k ≤ (rmu P F ud k).2 ∧ (rmu P F ud k).2 ≤ P ∧ (∀ i, i < 4 * (P - k) → (rmu P F ud k).1 i = F i) ∧ okP n t (rmu P F ud k).2 (rmu P F ud k).1 := by
  intro k
  induction k with
  | zero => intro _; exact ⟨Nat.le_refl _, Nat.le_refl _, fun _ _ => rfl, ok⟩
  | succ k ih =>
    intro hk
    obtain ⟨h1, h2, h3, h4⟩ := ih (by omega)
    show _ ∧ _ ∧ _
    unfold rmu
    by_cases u : ud (P - 1 - k) = true
    · rw [if_pos u]
      exact ⟨by omega, h2, fun i hi => h3 i (by omega), h4⟩
    · rw [if_neg u]
      refine ⟨?_, ?_, fun i hi => ?_, okP_rmv (by omega) h4⟩
      · show P - (k + 1) ≤ (rmu P F ud k).2 - 1
        omega
      · show (rmu P F ud k).2 - 1 ≤ P
        omega
      · show rmv (P - 1 - k) (rmu P F ud k).2 (rmu P F ud k).1 i = F i
        unfold rmv
        rw [if_neg (by omega)]
        exact h3 i (by omega)
theorem so_cg {n p : Nat} {F G : Nat → Int32} {x : Nat → Nat} {m : Nat} (hp : p < m) (h : ∀ i, i < 4 * m → G i = F i) : so n G x p = so n F x p ∧ lf G p = lf F p := by
  unfold so lf
  rw [ss_3, ss_3, h (4 * p + 1) (by omega), h (4 * p + 2) (by omega), h (4 * p + 3) (by omega), h (4 * p) (by omega)]
  exact ⟨rfl, rfl⟩
theorem usd_cg {n p : Nat} {F G : Nat → Int32} {x : Nat → Nat} {y : Nat → Bool} (e1 : so n G x p = so n F x p) (e2 : lf G p = lf F p) : usd n G x y p = usd n F x y p := by
  unfold usd
  rw [e1, e2]
/-- the class's state with other productions -/
def cP (S T : gS) (F : Nat → Int32) (P : Nat) : Prop := gI T 4 = nI P ∧ (∀ f, f ≠ 4 → gI T f = gI S f) ∧ gA T 10 = F ∧ (∀ a, a ≠ 10 → gA T a = gA S a) ∧ gB T = gB S
theorem c_rmu {S : gS} {n t st P : Nat} {x : Nat → Nat} {y : Nat → Bool} (h1 : cG S n t st P) (ok : okP n t P (gA S 10)) (hr : rel (gA S 11) x) (hb : ∀ a, x a ≤ 729) (hy : relb (gA S 12) y) {Post : Int32 → gS → Prop} (hq : ∀ T, cP S T (rmu P (gA S 10) (usd n (gA S 10) x y) P).1 (rmu P (gA S 10) (usd n (gA S 10) x y) P).2 → Post (nI (P - (rmu P (gA S 10) (usd n (gA S 10) x y) P).2)) T) : ∃ n, lp (fun L w => bX1_removeUnused_17 Post L w.1 w.2.1 w.2.2) n (0, gI S 4 - 1, S) := by
  have hP : P ≤ 24 := h1.2.2.2.2.2.2.2.2.2
  have e4 : gI S 4 = nI P := h1.2.2.2.1
  refine lp_inv (B := fun L w => bX1_removeUnused_17 Post L w.1 w.2.1 w.2.2) (fun k w => ∃ T, w = (nI (P - (rmu P (gA S 10) (usd n (gA S 10) x y) k).2), nI (P - k) - 1, T) ∧ cP S T (rmu P (gA S 10) (usd n (gA S 10) x y) k).1 (rmu P (gA S 10) (usd n (gA S 10) x y) k).2) P (fun k w L hk hI hL => ?_) (fun w L hI => ?_) ⟨S, ?_, e4, fun _ _ => rfl, rfl, fun _ _ => rfl, rfl⟩
  · obtain ⟨T, rfl, k1, k2, k3, k4, k5⟩ := hI
    obtain ⟨m1, m2, m3, m4⟩ := rmu_ok (ud := usd n (gA S 10) x y) ok k (by omega)
    have hT : cG T n t st (rmu P (gA S 10) (usd n (gA S 10) x y) k).2 := by
      unfold cG at h1 ⊢
      rw [k2 1 (by decide), k2 2 (by decide), k2 3 (by decide), k1]
      exact ⟨h1.1, h1.2.1, h1.2.2.1, rfl, h1.2.2.2.2.1, h1.2.2.2.2.2.1, h1.2.2.2.2.2.2.1, h1.2.2.2.2.2.2.2.1, h1.2.2.2.2.2.2.2.2.1, by omega⟩
    have hr' : rel (gA T 11) x := by rw [k4 11 (by decide)]; exact hr
    have hy' : relb (gA T 12) y := by rw [k4 12 (by decide)]; exact hy
    have hu : usd n (rmu P (gA S 10) (usd n (gA S 10) x y) k).1 x y (P - 1 - k) = usd n (gA S 10) x y (P - 1 - k) := by
      have := so_cg (n := n) (x := x) (p := P - 1 - k) (m := P - k) (by omega) m3
      exact usd_cg this.1 this.2
    have hE : rmu P (gA S 10) (usd n (gA S 10) x y) (k + 1) = if usd n (gA S 10) x y (P - 1 - k) = true then rmu P (gA S 10) (usd n (gA S 10) x y) k else (rmv (P - 1 - k) (rmu P (gA S 10) (usd n (gA S 10) x y) k).2 (rmu P (gA S 10) (usd n (gA S 10) x y) k).1, (rmu P (gA S 10) (usd n (gA S 10) x y) k).2 - 1) := rfl
    unfold bX1_removeUnused_17
    have ei : nI (P - k) - 1 = nI (P - 1 - k) := by
      rw [i_1, nI_sub (by omega), show P - k - 1 = P - 1 - k by omega]
    have ed : nI (P - 1 - k) + -1 = nI (P - (k + 1)) - 1 := by
      rw [← Int32.sub_eq_add_neg, show P - 1 - k = P - (k + 1) by omega]
    rw [ei]
    refine ⟨fun c => absurd c (nI_pos (by omega)), fun _ => ?_⟩
    simp only [forall_eq]
    rw [ed, nI_1]
    refine c_used hT k3 m4 hr' hb hy' (by omega) (fun u => ⟨fun c => absurd rfl c, fun _ => c_remove k1 (by omega) (by omega) ?_⟩) (fun u => ⟨fun _ => ?_, fun c => absurd c (by decide)⟩)
    · rw [hu] at u
      rw [if_neg (by rw [u]; decide)] at hE
      refine hL _ ⟨uI (sA T 10 (rmv (P - 1 - k) (rmu P (gA S 10) (usd n (gA S 10) x y) k).2 (gA T 10))) 4 (nI ((rmu P (gA S 10) (usd n (gA S 10) x y) k).2 - 1)), ?_, ?_⟩
      · rw [hE]
        show (_, _, _) = (nI (P - ((rmu P (gA S 10) (usd n (gA S 10) x y) k).2 - 1)), _, _)
        rw [show P - ((rmu P (gA S 10) (usd n (gA S 10) x y) k).2 - 1) = P - (rmu P (gA S 10) (usd n (gA S 10) x y) k).2 + 1 by omega]
      · rw [hE]
        refine ⟨by rw [gI_uI, if_pos rfl], fun f hf => by rw [gI_uI, if_neg hf]; exact k2 f hf, ?_, fun a ha => ?_, k5⟩
        · rw [gA_uI, gA_sA, if_pos rfl, k3]
        · rw [gA_uI, gA_sA, if_neg ha]
          exact k4 a ha
    · rw [hu] at u
      rw [if_pos u] at hE
      exact hL _ ⟨T, by rw [hE], by rw [hE]; exact ⟨k1, k2, k3, k4, k5⟩⟩
  · obtain ⟨T, rfl, hT⟩ := hI
    unfold bX1_removeUnused_17
    exact ⟨fun _ => hq T hT, fun c => absurd (show nI (P - P) - 1 < 0 by rw [Nat.sub_self]; decide) c⟩
  · show (0, gI S 4 - 1, S) = (nI (P - P), nI (P - 0) - 1, S)
    rw [Nat.sub_self, Nat.sub_zero, e4]
    rfl
end
