section
/-! THE MATHEMATICS, 21: shortest trees. -/
def pv (n : Nat) (x : Nat → Nat) (c : Int32) : Nat := if 0 ≤ c.toInt ∧ c.toInt < n then x c.toNatClampNeg else 1
def zt (n : Nat) (x : Nat → Nat) (c : Int32) : Bool := decide (¬ c = -1 ∧ pv n x c = 0)
def sv (n : Nat) (x : Nat → Nat) (c : Int32) : Nat := if c = -1 then 0 else pv n x c
def ss (n : Nat) (F : Nat → Int32) (x : Nat → Nat) (p k : Nat) : Nat := sN (fun j => sv n x (F (4 * p + (1 + j)))) k
def so (n : Nat) (F : Nat → Int32) (x : Nat → Nat) (p : Nat) : Nat := if (zt n x (F (4 * p + 1)) || zt n x (F (4 * p + 2)) || zt n x (F (4 * p + 3))) = true then 0 else ss n F x p 3
def lf (F : Nat → Int32) (p : Nat) : Nat := (F (4 * p)).toNatClampNeg
def upN (x : Nat → Nat) (a v : Nat) : Nat → Nat := fun b => if b = a then v else x b
def stp (n : Nat) (F : Nat → Int32) (x : Nat → Nat) (p : Nat) : Nat → Nat := if 0 < so n F x p ∧ (x (lf F p) = 0 ∨ so n F x p < x (lf F p)) then upN x (lf F p) (so n F x p) else x
def rn (n : Nat) (F : Nat → Int32) (x : Nat → Nat) : Nat → Nat → Nat
  | 0 => x
  | p + 1 => stp n F (rn n F x p) p
def itn (n P : Nat) (F : Nat → Int32) : Nat → Nat → Nat
  | 0 => fun _ => 0
  | k + 1 => rn n F (itn n P F k) P
section SO
variable {n t P p : Nat} {F : Nat → Int32} {x y z : Nat → Nat} {c : Int32}
theorem pv_N (h : isN n c) : pv n x c = x c.toNatClampNeg := if_pos h
theorem pv_T (h : ¬ isN n c) : pv n x c = 1 := if_neg h
theorem so_z {j : Nat} (h1 : 1 ≤ j) (h3 : j ≤ 3) (h : zt n x (F (4 * p + j)) = true) : so n F x p = 0 := by
  unfold so
  rcases (show j = 1 ∨ j = 2 ∨ j = 3 by omega) with rfl | rfl | rfl
  · rw [h]; rfl
  · rw [h, Bool.or_true]; rfl
  · rw [h, Bool.or_true]; rfl
theorem so_n (h : ∀ j, 1 ≤ j → j ≤ 3 → zt n x (F (4 * p + j)) = false) : so n F x p = ss n F x p 3 := by
  unfold so
  rw [h 1 (by omega) (by omega), h 2 (by omega) (by omega), h 3 (by omega) (by omega)]
  rfl
theorem so_pos (h : so n F x p ≠ 0) : ∀ j, 1 ≤ j → j ≤ 3 → zt n x (F (4 * p + j)) = false := by
  intro j h1 h3
  cases e : zt n x (F (4 * p + j))
  · rfl
  · exact absurd (so_z h1 h3 e) h
theorem zt_f (h : zt n x c = false) : c = -1 ∨ pv n x c ≠ 0 := by
  unfold zt at h
  have := of_decide_eq_false h
  by_cases e : c = -1
  · exact Or.inl e
  · exact Or.inr (fun d => this ⟨e, d⟩)
theorem f_zt (h : c = -1 ∨ pv n x c ≠ 0) : zt n x c = false := by
  unfold zt
  refine decide_eq_false (fun d => ?_)
  rcases h with h | h
  · exact d.1 h
  · exact h d.2
/-- better values -/
def dn (x y : Nat → Nat) : Prop := ∀ a, x a ≠ 0 → y a ≠ 0 ∧ y a ≤ x a
theorem dn.rfl : dn x x := fun a h => ⟨h, Nat.le_refl _⟩
theorem dn.trans (h1 : dn x y) (h2 : dn y z) : dn x z := fun a h => ⟨(h2 a (h1 a h).1).1, Nat.le_trans (h2 a (h1 a h).1).2 (h1 a h).2⟩
theorem dn_stp : dn x (stp n F x p) := by
  intro a ha
  unfold stp
  by_cases c : 0 < so n F x p ∧ (x (lf F p) = 0 ∨ so n F x p < x (lf F p))
  · rw [if_pos c]
    unfold upN
    by_cases e : a = lf F p
    · rw [if_pos e]
      rw [e] at ha ⊢
      have := c.2
      omega
    · rw [if_neg e]
      exact ⟨ha, Nat.le_refl _⟩
  · rw [if_neg c]
    exact ⟨ha, Nat.le_refl _⟩
theorem dn_rn {k : Nat} : dn x (rn n F x k) := by
  induction k with
  | zero => exact dn.rfl
  | succ k ih => exact ih.trans dn_stp
theorem dn_rn2 {k m : Nat} (h : k ≤ m) : dn (rn n F x k) (rn n F x m) := by
  induction m with
  | zero => rw [show k = 0 by omega]; exact dn.rfl
  | succ m ih =>
    by_cases e : k = m + 1
    · rw [e]; exact dn.rfl
    · exact (ih (by omega)).trans dn_stp
/-- a value that became better -/
def bt (x y : Nat → Nat) (a : Nat) : Prop := y a ≠ 0 ∧ (x a = 0 ∨ y a < x a)
theorem bt.r {a : Nat} (h : bt x y a) (h2 : dn y z) : bt x z a := ⟨(h2 a h.1).1, by have := (h2 a h.1).2; have := h.2; omega⟩
theorem bt.l {a : Nat} (h1 : dn x y) (h : bt y z a) : bt x z a := by
  refine ⟨h.1, ?_⟩
  by_cases e : x a = 0
  · exact Or.inl e
  · have := h1 a e
    have := h.2
    right
    omega
theorem bt.ne {a : Nat} (h : bt x y a) : y ≠ x := fun e => by
  rw [e] at h
  have := h.1
  have := h.2
  omega
theorem stp_bt (c : 0 < so n F x p ∧ (x (lf F p) = 0 ∨ so n F x p < x (lf F p))) : bt x (stp n F x p) (lf F p) := by
  unfold stp bt
  rw [if_pos c]
  unfold upN
  rw [if_pos rfl]
  exact ⟨by omega, c.2⟩
/-- the symbols of a production -/
theorem sv_le (h1 : dn x y) (hc : zt n x c = false) : zt n y c = false ∧ sv n y c ≤ sv n x c := by
  rcases zt_f hc with h | h
  · exact ⟨f_zt (Or.inl h), by unfold sv; rw [if_pos h, if_pos h]; exact Nat.le_refl _⟩
  · by_cases e : isN n c
    · rw [pv_N e] at h
      have := h1 _ h
      refine ⟨f_zt (Or.inr (by rw [pv_N e]; exact this.1)), ?_⟩
      unfold sv
      by_cases m : c = -1
      · rw [if_pos m, if_pos m]; exact Nat.le_refl _
      · rw [if_neg m, if_neg m, pv_N e, pv_N e]
        exact this.2
    · refine ⟨f_zt (Or.inr (by rw [pv_T e]; omega)), ?_⟩
      unfold sv
      by_cases m : c = -1
      · rw [if_pos m, if_pos m]; exact Nat.le_refl _
      · rw [if_neg m, if_neg m, pv_T e, pv_T e]; exact Nat.le_refl _
theorem sv_1 (h : isS n t c) (hz : zt n x c = false) : 1 ≤ sv n x c := by
  unfold sv
  rw [if_neg (isS_m1 h)]
  rcases zt_f hz with g | g
  · exact absurd g (isS_m1 h)
  · omega
theorem ss_3 : ss n F x p 3 = sv n x (F (4 * p + 1)) + sv n x (F (4 * p + 2)) + sv n x (F (4 * p + 3)) := by
  show 0 + sv n x (F (4 * p + 1)) + sv n x (F (4 * p + 2)) + sv n x (F (4 * p + 3)) = _
  rw [Nat.zero_add]
theorem so_le (h1 : dn x y) (h : so n F x p ≠ 0) : so n F y p ≤ so n F x p ∧ (∀ j, 1 ≤ j → j ≤ 3 → zt n y (F (4 * p + j)) = false) := by
  have hz := so_pos h
  have hy : ∀ j, 1 ≤ j → j ≤ 3 → zt n y (F (4 * p + j)) = false := fun j a b => (sv_le h1 (hz j a b)).1
  refine ⟨?_, hy⟩
  rw [so_n hz, so_n hy, ss_3, ss_3]
  have e1 := (sv_le h1 (hz 1 (by omega) (by omega))).2
  have e2 := (sv_le h1 (hz 2 (by omega) (by omega))).2
  have e3 := (sv_le h1 (hz 3 (by omega) (by omega))).2
  omega
theorem so_1 (ok : okP n t P F) (hp : p < P) (hz : ∀ j, 1 ≤ j → j ≤ 3 → zt n x (F (4 * p + j)) = false) : 1 ≤ so n F x p := by
  rw [so_n hz, ss_3]
  have := sv_1 (ok.x hp) (hz 1 (by omega) (by omega))
  omega
/-- what a step does to its left side -/
theorem stp_l (h : 1 ≤ so n F x p) : stp n F x p (lf F p) ≠ 0 ∧ stp n F x p (lf F p) ≤ so n F x p := by
  unfold stp
  by_cases c : 0 < so n F x p ∧ (x (lf F p) = 0 ∨ so n F x p < x (lf F p))
  · rw [if_pos c]
    unfold upN
    rw [if_pos rfl]
    omega
  · rw [if_neg c]
    omega
theorem lf_n (hn : n ≤ 6) (ok : okP n t P F) (hp : p < P) : lf F p < n ∧ F (4 * p) = nI (lf F p) := by
  obtain ⟨a, ha, ea, ec⟩ := clamp_nn (ok.1 p hp).1 hn
  unfold lf
  rw [ec]
  exact ⟨ha, ea⟩
/-- only left sides have values -/
def ou (n : Nat) (x : Nat → Nat) : Prop := ∀ a, n ≤ a → x a = 0
theorem ou_rn (hn : n ≤ 6) (ok : okP n t P F) (h : ou n x) : ∀ k, k ≤ P → ou n (rn n F x k) := by
  intro k
  induction k with
  | zero => intro _; exact h
  | succ k ih =>
    intro hk a ha
    have := lf_n hn ok (show k < P by omega)
    show stp n F (rn n F x k) k a = 0
    unfold stp
    split
    · unfold upN
      rw [if_neg (by omega)]
      exact ih (by omega) a ha
    · exact ih (by omega) a ha
theorem ou_it (hn : n ≤ 6) (ok : okP n t P F) : ∀ k, ou n (itn n P F k) := by
  intro k
  induction k with
  | zero => intro a _; rfl
  | succ k ih => exact ou_rn hn ok ih P (Nat.le_refl _)
/-- values are lengths of trees -/
def at' (P : Nat) (F : Nat → Int32) (x : Nat → Nat) : Prop := ∀ a, x a ≠ 0 → TT fitL P F (x a) 0 (nI a) ≠ 0
theorem vl_sv (hn : n ≤ 6) (ok : okP n t P F) (hx : at' P F x) (hc : c = -1 ∨ isS n t c) (hz : zt n x c = false) {b : Nat} : vl fitL (TT fitL P F) (sv n x c) b c ≠ 0 := by
  unfold sv
  rcases hc with h | h
  · rw [if_pos h, h, vl_m1, if_pos rfl]
    decide
  · rw [if_neg (isS_m1 h)]
    rcases zt_f hz with g | g
    · exact absurd g (isS_m1 h)
    · rcases h with h | h
      · obtain ⟨a, ha, ea, ec⟩ := clamp_nn h hn
        rw [pv_N h, ec] at g
        rw [pv_N h, vl_N hn h, ec, if_neg g, ea, TT_L hn ok (b' := 0)]
        exact hx a g
      · have hN : ¬ isN n c := fun d => isN_lt hn d (isT_ge h)
        rw [pv_T hN, vl_T (isT_ge h), if_pos ⟨Eq.refl 1, Eq.refl true⟩]
        decide
theorem at_stp (hn : n ≤ 6) (ok : okP n t P F) (hp : p < P) (hx : at' P F x) : at' P F (stp n F x p) := by
  intro a ha
  unfold stp at ha ⊢
  by_cases c : 0 < so n F x p ∧ (x (lf F p) = 0 ∨ so n F x p < x (lf F p))
  · rw [if_pos c] at ha ⊢
    unfold upN at ha ⊢
    by_cases e : a = lf F p
    · rw [if_pos e]
      have hz := so_pos (show so n F x p ≠ 0 by omega)
      have e3 := so_n hz
      rw [ss_3] at e3
      have v1 := vl_sv hn ok hx (ok.k (k := 1) hp (by decide) (by decide)) (hz 1 (by omega) (by omega)) (b := 0)
      have v2 := vl_sv hn ok hx (ok.k (k := 2) hp (by decide) (by decide)) (hz 2 (by omega) (by omega)) (b := 0 + sv n x (F (4 * p + 1)))
      have v3 := vl_sv hn ok hx (ok.k (k := 3) hp (by decide) (by decide)) (hz 3 (by omega) (by omega)) (b := 0 + sv n x (F (4 * p + 1)) + sv n x (F (4 * p + 2)))
      have hl := tp_le_TT (fit := fitL) (len := so n F x p) (b := 0) hn ok hp (lf_n hn ok hp).2
      have hj := pj_le_tp (fit := fitL) (T := TT fitL P F) (F := F) (p := p) (b := 0) (len := so n F x p) (i := sv n x (F (4 * p + 1))) (j := sv n x (F (4 * p + 2))) (by omega)
      have hpr : pr fitL (TT fitL P F) F p (so n F x p) 0 (sv n x (F (4 * p + 1))) (sv n x (F (4 * p + 2))) ≠ 0 := by
        unfold pr
        rw [show so n F x p - sv n x (F (4 * p + 1)) - sv n x (F (4 * p + 2)) = sv n x (F (4 * p + 3)) by omega]
        exact Nat.mul_ne_zero v1 (Nat.mul_ne_zero v2 v3)
      rw [e]
      omega
    · rw [if_neg e] at ha ⊢
      exact hx a ha
  · rw [if_neg c] at ha ⊢
    exact hx a ha
theorem at_rn (hn : n ≤ 6) (ok : okP n t P F) (hx : at' P F x) : ∀ k, k ≤ P → at' P F (rn n F x k) := by
  intro k
  induction k with
  | zero => intro _; exact hx
  | succ k ih => intro hk; exact at_stp hn ok (by omega) (ih (by omega))
theorem at_it (hn : n ≤ 6) (ok : okP n t P F) : ∀ k, at' P F (itn n P F k) := by
  intro k
  induction k with
  | zero => intro a ha; exact absurd (Eq.refl _) ha
  | succ k ih => exact at_rn hn ok ih P (Nat.le_refl _)
end SO
theorem sN_ne {f : Nat → Nat} {n : Nat} (h : sN f n ≠ 0) : ∃ i, i < n ∧ f i ≠ 0 := by
  refine Classical.byContradiction (fun c => h (sN_zero (fun i hi => ?_)))
  refine Classical.byContradiction (fun d => c ⟨i, hi, d⟩)
theorem sN_lt {f g : Nat → Nat} {n k : Nat} (h : ∀ i, i < n → f i ≤ g i) (hk : k < n) (h2 : f k < g k) : sN f n < sN g n := by
  have e : n = k + (1 + (n - k - 1)) := by omega
  rw [e, sN_split, sN_split, sN_split (f := g), sN_split (f := fun v => g (k + v))]
  have h3 : sN f k ≤ sN g k := sN_le (fun i hi => h i (by omega))
  have h4 : sN (fun v => f (k + (1 + v))) (n - k - 1) ≤ sN (fun v => g (k + (1 + v))) (n - k - 1) := sN_le (fun i hi => h _ (by omega))
  show sN f k + (0 + f (k + 0) + _) < sN g k + (0 + g (k + 0) + _)
  rw [Nat.add_zero, Nat.zero_add, Nat.zero_add]
  omega
theorem least {Q : Nat → Prop} (h : ∃ l, Q l) : ∃ l, Q l ∧ ∀ m, m < l → ¬ Q m := by
  obtain ⟨l, hl⟩ := h
  induction l using Nat.strongRecOn with
  | ind l ih =>
    by_cases c : ∃ m, m < l ∧ Q m
    · obtain ⟨m, h1, h2⟩ := c
      exact ih m h1 h2
    · exact ⟨l, hl, fun m h1 h2 => c ⟨m, h1, h2⟩⟩
section BB
variable {n t P : Nat} {F : Nat → Int32}
/-- how many nonterminals have a tree that is shorter -/
def cnt (n P : Nat) (F : Nat → Int32) (v : Nat) : Nat := sN (fun b => if sN (fun l => TT fitL P F l 0 (nI b)) v = 0 then 0 else 1) n
theorem cnt_lt {m len b : Nat} (hb : b < n) (h1 : TT fitL P F m 0 (nI b) ≠ 0) (h2 : ∀ l, l < m → TT fitL P F l 0 (nI b) = 0) (h3 : m < len) : cnt n P F m < cnt n P F len := by
  unfold cnt
  refine sN_lt (k := b) (fun i hi => ?_) hb ?_
  · show (if _ then 0 else 1) ≤ (if _ then 0 else 1)
    have hm : sN (fun l => TT fitL P F l 0 (nI i)) m ≤ sN (fun l => TT fitL P F l 0 (nI i)) len := sN_mono (by omega)
    by_cases e : sN (fun l => TT fitL P F l 0 (nI i)) len = 0
    · rw [if_pos e, if_pos (by omega)]
      exact Nat.le_refl _
    · rw [if_neg e]
      split <;> omega
  · show (if _ then 0 else 1) < (if _ then 0 else 1)
    have hg : TT fitL P F m 0 (nI b) ≤ sN (fun l => TT fitL P F l 0 (nI b)) len := sN_ge (f := fun l => TT fitL P F l 0 (nI b)) h3
    rw [if_pos (sN_zero h2), if_neg (by omega)]
    omega
theorem cnt_n {m b : Nat} (hb : b < n) (h2 : ∀ l, l < m → TT fitL P F l 0 (nI b) = 0) : cnt n P F m < n := by
  have h : cnt n P F m < sN (fun _ => 1) n := by
    unfold cnt
    refine sN_lt (k := b) (fun i hi => ?_) hb ?_
    · show (if _ then 0 else 1) ≤ 1
      split <;> omega
    · show (if _ then 0 else 1) < 1
      rw [if_pos (sN_zero h2)]
      omega
  rw [sN_c, Nat.mul_one] at h
  exact h
theorem prog (hn : n ≤ 6) (ok : okP n t P F) : ∀ k len a, a < n → TT fitL P F len 0 (nI a) ≠ 0 → cnt n P F len < k → itn n P F k a ≠ 0 ∧ itn n P F k a ≤ len := by
  intro k
  induction k with
  | zero => intro len a _ _ h; omega
  | succ k ih =>
    intro len a ha hT hc
    rw [TT_eq hn ok] at hT
    obtain ⟨p, hp, h1⟩ := sN_ne hT
    have el : F (4 * p) = nI a := by
      refine Classical.byContradiction (fun d => h1 ?_)
      exact if_neg d
    have h1' : tp fitL (TT fitL P F) F p len 0 ≠ 0 := fun d => h1 (by show (if _ then _ else _) = 0; rw [if_pos el, d])
    unfold tp at h1'
    obtain ⟨i, hi, h2⟩ := sN_ne h1'
    obtain ⟨j, hj, h3⟩ := sN_ne h2
    have h3' : pj fitL (TT fitL P F) F p len 0 i j ≠ 0 := h3
    unfold pj at h3'
    by_cases hij : i + j ≤ len
    · rw [if_pos hij] at h3'
      unfold pr at h3'
      have v1 : vl fitL (TT fitL P F) i 0 (F (4 * p + 1)) ≠ 0 := fun e => h3' (by rw [e, Nat.zero_mul])
      have v2 : vl fitL (TT fitL P F) j (0 + i) (F (4 * p + 2)) ≠ 0 := fun e => h3' (by rw [e, Nat.zero_mul, Nat.mul_zero])
      have v3 : vl fitL (TT fitL P F) (len - i - j) (0 + i + j) (F (4 * p + 3)) ≠ 0 := fun e => h3' (by rw [e, Nat.mul_zero, Nat.mul_zero])
      obtain ⟨-, hx, hyz⟩ := ok.1 p hp
      have i1 : 1 ≤ i := by
        refine Classical.byContradiction (fun d => v1 ?_)
        rw [show i = 0 by omega]
        exact vl_0 hn hx
      have part : ∀ c l b, (c = -1 ∨ isS n t c) → (isN n c → l < len) → vl fitL (TT fitL P F) l b c ≠ 0 → zt n (itn n P F k) c = false ∧ sv n (itn n P F k) c ≤ l := by
        intro c l b hcc hl hv
        unfold sv
        rcases hcc with g | g | g
        · exact ⟨f_zt (Or.inl g), by rw [if_pos g]; exact Nat.zero_le _⟩
        · rw [if_neg (isS_m1 (t := t) (Or.inl g)), pv_N g]
          obtain ⟨d, hd, ed, ec⟩ := clamp_nn g hn
          rw [vl_N hn g] at hv
          by_cases l0 : l = 0
          · rw [if_pos l0] at hv
            exact absurd rfl hv
          · rw [if_neg l0, ed, TT_L hn ok (b' := 0)] at hv
            obtain ⟨m, hm, hm2⟩ := least (Q := fun l => TT fitL P F l 0 (nI d) ≠ 0) ⟨l, hv⟩
            have ml : m ≤ l := by
              refine Classical.byContradiction (fun d => hm2 l (by omega) hv)
            have hcl := cnt_lt (n := n) hd hm (fun l hl => Classical.byContradiction (fun d => hm2 l hl d)) (show m < len by have := hl g; omega)
            have := ih m d hd hm (by omega)
            refine ⟨f_zt (Or.inr (by rw [pv_N g, ec]; exact this.1)), ?_⟩
            rw [ec]
            omega
        · have hN : ¬ isN n c := fun d => isN_lt hn d (isT_ge g)
          rw [if_neg (isS_m1 (n := n) (Or.inr g)), pv_T hN]
          refine ⟨f_zt (Or.inr (by rw [pv_T hN]; omega)), ?_⟩
          rw [vl_T (isT_ge g)] at hv
          by_cases l1 : l = 1
          · omega
          · rw [if_neg (fun e => l1 e.1)] at hv
            exact absurd rfl hv
      have q1 := part _ i 0 (Or.inr hx) (fun d => by
        rcases hyz with ⟨-, -, hx'⟩ | ⟨hy, -⟩
        · exact absurd d hx'
        · have : ¬ j = 0 := fun e => v2 (by rw [e]; exact vl_0 hn hy)
          omega) v1
      have q2 := part _ j (0 + i) (ok.k (k := 2) hp (by decide) (by decide)) (fun _ => by omega) v2
      have q3 := part _ (len - i - j) (0 + i + j) (ok.k (k := 3) hp (by decide) (by decide)) (fun _ => by omega) v3
      have hz : ∀ j, 1 ≤ j → j ≤ 3 → zt n (itn n P F k) (F (4 * p + j)) = false := by
        intro j h1 h3
        rcases (show j = 1 ∨ j = 2 ∨ j = 3 by omega) with rfl | rfl | rfl
        · exact q1.1
        · exact q2.1
        · exact q3.1
      have s1 := so_1 ok hp hz
      have s2 := so_n hz
      rw [ss_3] at s2
      have d1 : dn (itn n P F k) (rn n F (itn n P F k) p) := dn_rn
      have s3 := so_le d1 (show so n F (itn n P F k) p ≠ 0 by omega)
      have s4 := so_1 ok hp s3.2
      have s5 := stp_l s4
      have elf : lf F p = a := by
        unfold lf
        rw [el, nI_clamp (by omega)]
      have d2 : dn (rn n F (itn n P F k) (p + 1)) (rn n F (itn n P F k) P) := dn_rn2 (by omega)
      rw [elf] at s5
      have s6 := d2 a s5.1
      refine ⟨s6.1, ?_⟩
      have s7 : rn n F (itn n P F k) (p + 1) a ≤ so n F (rn n F (itn n P F k) p) p := s5.2
      show rn n F (itn n P F k) P a ≤ len
      omega
    · rw [if_neg hij] at h3'
      exact absurd rfl h3'
theorem it_fix (hn : n ≤ 6) (ok : okP n t P F) : itn n P F (n + 1) = itn n P F n := by
  funext a
  by_cases ha : a < n
  · by_cases ex : ∃ l, TT fitL P F l 0 (nI a) ≠ 0
    · obtain ⟨m, hm, hm2⟩ := least ex
      have hc := cnt_n (m := m) ha (fun l hl => Classical.byContradiction (fun d => hm2 l hl d))
      have p1 := prog hn ok n m a ha hm hc
      have p2 := prog hn ok (n + 1) m a ha hm (by omega)
      have q1 := at_it hn ok n a p1.1
      have q2 := at_it hn ok (n + 1) a p2.1
      have r1 : ¬ itn n P F n a < m := fun d => hm2 _ d q1
      have r2 : ¬ itn n P F (n + 1) a < m := fun d => hm2 _ d q2
      omega
    · have r1 : itn n P F n a = 0 := Classical.byContradiction (fun d => ex ⟨_, at_it hn ok n a d⟩)
      have r2 : itn n P F (n + 1) a = 0 := Classical.byContradiction (fun d => ex ⟨_, at_it hn ok (n + 1) a d⟩)
      rw [r1, r2]
  · rw [ou_it hn ok (n + 1) a (by omega), ou_it hn ok n a (by omega)]
theorem it_st {k : Nat} (h : itn n P F (k + 1) = itn n P F k) : ∀ m, itn n P F (k + m) = itn n P F k := by
  intro m
  induction m with
  | zero => rfl
  | succ m ih =>
    show rn n F (itn n P F (k + m)) P = _
    rw [ih]
    exact h
/-- no value is large -/
def cx (n : Nat) (x : Nat → Nat) : Nat := sN (fun a => if x a = 0 then 0 else 1) n
def bd (n : Nat) (x : Nat → Nat) : Prop := ∀ a, x a ≤ 3 ^ cx n x
theorem cx_le {x : Nat → Nat} : cx n x ≤ n := by
  unfold cx
  refine Nat.le_trans (sN_le (g := fun _ => 1) (fun i _ => ?_)) (Nat.le_of_eq (by rw [sN_c, Nat.mul_one]))
  show (if _ then 0 else 1) ≤ 1
  split <;> omega
theorem bd.le {x : Nat → Nat} (hn : n ≤ 6) (h : bd n x) : ∀ a, x a ≤ 729 := fun a => Nat.le_trans (h a) (Nat.le_trans (Nat.pow_le_pow_right (by decide) (Nat.le_trans cx_le hn)) (by decide))
theorem sv_b {x : Nat → Nat} (h : bd n x) {c : Int32} : sv n x c ≤ 3 ^ cx n x := by
  have h1 : 1 ≤ 3 ^ cx n x := Nat.pow_pos (by decide)
  unfold sv pv
  split
  · omega
  · split
    · exact h _
    · exact h1
theorem bd_stp {x : Nat → Nat} {p : Nat} (hn : n ≤ 6) (ok : okP n t P F) (hp : p < P) (h : bd n x) : bd n (stp n F x p) := by
  have hl := (lf_n hn ok hp).1
  unfold stp
  by_cases c : 0 < so n F x p ∧ (x (lf F p) = 0 ∨ so n F x p < x (lf F p))
  · rw [if_pos c]
    have e3 := so_n (so_pos (show so n F x p ≠ 0 by omega))
    rw [ss_3] at e3
    have b1 := sv_b h (c := F (4 * p + 1))
    have b2 := sv_b h (c := F (4 * p + 2))
    have b3 := sv_b h (c := F (4 * p + 3))
    by_cases e : x (lf F p) = 0
    · have hc : cx n x < cx n (upN x (lf F p) (so n F x p)) := by
        unfold cx
        refine sN_lt (k := lf F p) (fun i hi => ?_) hl ?_
        · show (if x i = 0 then 0 else 1) ≤ (if upN x (lf F p) (so n F x p) i = 0 then 0 else 1)
          unfold upN
          by_cases ei : i = lf F p
          · rw [if_pos ei, ei, if_pos e]
            exact Nat.zero_le _
          · rw [if_neg ei]
            exact Nat.le_refl _
        · show (if x (lf F p) = 0 then 0 else 1) < (if upN x (lf F p) (so n F x p) (lf F p) = 0 then 0 else 1)
          unfold upN
          rw [if_pos e, if_pos rfl, if_neg (by omega)]
          omega
      have hp3 : 3 ^ (cx n x + 1) ≤ 3 ^ cx n (upN x (lf F p) (so n F x p)) := Nat.pow_le_pow_right (by decide) hc
      rw [Nat.pow_succ] at hp3
      intro a
      have := h a
      show (if a = lf F p then so n F x p else x a) ≤ _
      split <;> omega
    · have hc : cx n (upN x (lf F p) (so n F x p)) = cx n x := by
        unfold cx
        refine sN_congr (fun i hi => ?_)
        unfold upN
        by_cases ei : i = lf F p
        · rw [if_pos ei, if_neg (by omega), ei, if_neg e]
        · rw [if_neg ei]
      intro a
      rw [hc]
      have h1 := h a
      have h2 := h (lf F p)
      show (if a = lf F p then so n F x p else x a) ≤ _
      split <;> omega
  · rw [if_neg c]
    exact h
theorem bd_rn {x : Nat → Nat} (hn : n ≤ 6) (ok : okP n t P F) (h : bd n x) : ∀ k, k ≤ P → bd n (rn n F x k) := by
  intro k
  induction k with
  | zero => intro _; exact h
  | succ k ih => intro hk; exact bd_stp hn ok (by omega) (ih (by omega))
theorem bd_it (hn : n ≤ 6) (ok : okP n t P F) : ∀ k, bd n (itn n P F k) := by
  intro k
  induction k with
  | zero => intro a; exact Nat.zero_le _
  | succ k ih => exact bd_rn hn ok ih P (Nat.le_refl _)
end BB
end
