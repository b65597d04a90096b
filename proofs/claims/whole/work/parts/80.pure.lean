/-! THE MATHEMATICS, 11: sums; numbers of trees; how large they are. -/
theorem nL_add (a b : Nat) : nL a + nL b = nL (a + b) := (Int64.ofNat_add a b).symm
theorem nL_mul (a b : Nat) : nL a * nL b = nL (a * b) := (Int64.ofNat_mul a b).symm
theorem nL_0 : nL 0 = 0 := rfl
theorem nL_1 : nL 1 = 1 := rfl
theorem nL_toInt {n : Nat} (h : n < 2 ^ 63) : (nL n).toInt = n := Int64.toInt_ofNat_of_lt h
theorem nL_inj {a b : Nat} (ha : a < 2 ^ 63) (hb : b < 2 ^ 63) : nL a = nL b ↔ a = b := by
  constructor
  · intro h
    have h2 := congrArg Int64.toInt h
    rw [nL_toInt ha, nL_toInt hb] at h2
    omega
  · intro h
    rw [h]
theorem sN_congr {f g : Nat → Nat} {n : Nat} (h : ∀ i, i < n → f i = g i) : sN f n = sN g n := by
  induction n with
  | zero => rfl
  | succ n ih =>
    show sN f n + f n = sN g n + g n
    rw [ih (fun i hi => h i (by omega)), h n (by omega)]
theorem sN_le {f g : Nat → Nat} {n : Nat} (h : ∀ i, i < n → f i ≤ g i) : sN f n ≤ sN g n := by
  induction n with
  | zero => exact Nat.le_refl _
  | succ n ih => exact Nat.add_le_add (ih (fun i hi => h i (by omega))) (h n (by omega))
theorem sN_mono {f : Nat → Nat} {m n : Nat} (h : m ≤ n) : sN f m ≤ sN f n := by
  induction n with
  | zero => rw [Nat.le_zero.mp h]; exact Nat.le_refl _
  | succ n ih =>
    rcases Nat.lt_or_ge n m with h1 | h1
    · rw [show m = n + 1 by omega]; exact Nat.le_refl _
    · exact Nat.le_trans (ih h1) (Nat.le_add_right _ _)
theorem sN_zero {f : Nat → Nat} {n : Nat} (h : ∀ i, i < n → f i = 0) : sN f n = 0 := by
  induction n with
  | zero => rfl
  | succ n ih =>
    show sN f n + f n = 0
    rw [ih (fun i hi => h i (by omega)), h n (by omega)]
theorem sN_mul {c : Nat} {f : Nat → Nat} {n : Nat} : sN (fun i => c * f i) n = c * sN f n := by
  induction n with
  | zero => rfl
  | succ n ih =>
    show sN (fun i => c * f i) n + c * f n = c * (sN f n + f n)
    rw [ih, Nat.mul_add]
theorem sN_add {f g : Nat → Nat} {n : Nat} : sN (fun i => f i + g i) n = sN f n + sN g n := by
  induction n with
  | zero => rfl
  | succ n ih =>
    show sN (fun i => f i + g i) n + (f n + g n) = (sN f n + f n) + (sN g n + g n)
    rw [ih]
    omega
theorem sN_c {c n : Nat} : sN (fun _ => c) n = n * c := by
  induction n with
  | zero => exact (Nat.zero_mul c).symm
  | succ n ih =>
    show sN (fun _ => c) n + c = (n + 1) * c
    rw [ih, Nat.add_mul, Nat.one_mul]
theorem sN_split {f : Nat → Nat} {m n : Nat} : sN f (m + n) = sN f m + sN (fun v => f (m + v)) n := by
  induction n with
  | zero => rfl
  | succ n ih =>
    show sN f (m + n) + f (m + n) = sN f m + (sN (fun v => f (m + v)) n + f (m + n))
    rw [ih]
    omega
theorem sN_ge {f : Nat → Nat} {n k : Nat} (h : k < n) : f k ≤ sN f n :=
  Nat.le_trans (show f k ≤ sN f (k + 1) from Nat.le_add_left _ _) (sN_mono (by omega))
theorem sN_one {f : Nat → Nat} {n k : Nat} (hk : k < n) (h : ∀ i, i < n → i ≠ k → f i = 0) : sN f n = f k := by
  have e : n = k + (1 + (n - k - 1)) := by omega
  rw [e, sN_split, sN_split, sN_zero (fun i hi => h i (by omega) (by omega)), sN_zero (f := fun v => f (k + (1 + v))) (fun i hi => h _ (by omega) (by omega))]
  show 0 + (0 + f (k + 0) + 0) = f k
  rw [Nat.add_zero, Nat.zero_add, Nat.zero_add, Nat.add_zero]
theorem sN_uniq {f : Nat → Nat} {n : Nat} (h1 : ∀ i, i < n → f i ≤ 1) (h : ∀ i j, i < n → j < n → f i ≠ 0 → f j ≠ 0 → i = j) : sN f n ≤ 1 := by
  induction n with
  | zero => exact Nat.zero_le _
  | succ n ih =>
    show sN f n + f n ≤ 1
    by_cases e : f n = 0
    · rw [e]
      exact ih (fun i hi => h1 i (by omega)) (fun i j hi hj => h i j (by omega) (by omega))
    · rw [sN_zero (fun i hi => ?_)]
      · have := h1 n (by omega)
        omega
      · refine Classical.byContradiction (fun c => ?_)
        have := h i n (by omega) (by omega) c e
        omega
theorem sN_flat {f : Nat → Nat → Nat} {m a : Nat} (hm : 0 < m) : ∀ b, b ≤ m → sN (fun k => f (k / m) (k % m)) (a * m + b) = sN (fun i => sN (fun j => f i j) m) a + sN (fun j => f a j) b := by
  induction a with
  | zero =>
    intro b hb
    rw [Nat.zero_mul, Nat.zero_add]
    show _ = 0 + _
    rw [Nat.zero_add]
    refine sN_congr (fun k hk => ?_)
    rw [Nat.div_eq_of_lt (by omega), Nat.mod_eq_of_lt (by omega)]
  | succ a ih =>
    intro b hb
    rw [show (a + 1) * m + b = (a * m + m) + b by rw [Nat.add_mul, Nat.one_mul], sN_split, ih m (Nat.le_refl m)]
    show _ = (sN (fun i => sN (fun j => f i j) m) a + sN (fun j => f a j) m) + _
    congr 1
    refine sN_congr (fun k hk => ?_)
    rw [show a * m + m + k = k + (a + 1) * m by rw [Nat.add_mul, Nat.one_mul]; omega, Nat.add_mul_div_right _ _ hm, Nat.add_mul_mod_self_right, Nat.div_eq_of_lt (by omega), Nat.mod_eq_of_lt (by omega), Nat.zero_add]
theorem isS_m1 {n t : Nat} {c : Int32} (h : isS n t c) : ¬ c = -1 := fun e => by
  subst e
  rcases h with h | h
  · have := h.1; rw [t_m1] at this; omega
  · have := h.1; rw [t_m1] at this; omega
theorem isT_ge {t : Nat} {c : Int32} (h : isT t c) : (10 : Int32) ≤ c := by rw [le_i, t_10]; exact h.1
theorem isN_lt {n : Nat} (hn : n ≤ 6) {c : Int32} (h : isN n c) : ¬ (10 : Int32) ≤ c := by rw [le_i, t_10]; have := h.2; omega
section VL
variable {fit fit' : Nat → Int32 → Bool} {T T' : Nat → Nat → Int32 → Nat} {n t P : Nat} {F : Nat → Int32} {len b b' i j p : Nat} {c : Int32}
theorem vl_m1 : vl fit T len b (-1) = if len = 0 then 1 else 0 := if_pos rfl
theorem vl_T (h : (10 : Int32) ≤ c) : vl fit T len b c = if len = 1 ∧ fit b (c - 10) = true then 1 else 0 := by
  unfold vl
  rw [if_neg (fun e => by rw [e] at h; exact absurd h (by decide)), if_pos h]
theorem vl_N (hn : n ≤ 6) (h : isN n c) : vl fit T len b c = if len = 0 then 0 else T len b c := by
  unfold vl
  rw [if_neg (isS_m1 (t := 0) (Or.inl h)), if_neg (isN_lt hn h)]
theorem vl_0 (hn : n ≤ 6) (h : isS n t c) : vl fit T 0 b c = 0 := by
  rcases h with h | h
  · rw [vl_N hn h, if_pos rfl]
  · rw [vl_T (isT_ge h), if_neg (fun e => absurd e.1 (by decide))]
theorem vl_le (hf : ∀ q x, q < len → fit (b + q) x = true → fit' (b' + q) x = true) (hT : T len b c ≤ T' len b' c) : vl fit T len b c ≤ vl fit' T' len b' c := by
  unfold vl
  by_cases h1 : c = -1
  · rw [if_pos h1, if_pos h1]; exact Nat.le_refl _
  · rw [if_neg h1, if_neg h1]
    by_cases h2 : (10 : Int32) ≤ c
    · rw [if_pos h2, if_pos h2]
      by_cases e : len = 1 ∧ fit b (c - 10) = true
      · rw [if_pos e, if_pos ⟨e.1, hf 0 _ (by omega) e.2⟩]; exact Nat.le_refl _
      · rw [if_neg e]; exact Nat.zero_le _
    · rw [if_neg h2, if_neg h2]
      by_cases e : len = 0
      · rw [if_pos e]; exact Nat.zero_le _
      · rw [if_neg e, if_neg e]; exact hT
theorem pr_le (hn : n ≤ 6) (ok : okP n t P F) (hp : p < P) (hij : i + j ≤ len) (hf : ∀ q x, q < len → fit (b + q) x = true → fit' (b' + q) x = true) (hT : ∀ l d c, l < len → d + l ≤ len → T l (b + d) c ≤ T' l (b' + d) c) : pr fit T F p len b i j ≤ pr fit' T' F p len b' i j := by
  obtain ⟨-, hx, hyz⟩ := ok.1 p hp
  unfold pr
  rcases hyz with ⟨hy, hz, hx'⟩ | ⟨hy, hz⟩
  · rw [hy, hz]
    simp only [vl_m1]
    refine Nat.mul_le_mul ?_ (Nat.le_refl _)
    have h10 := isT_ge (hx.resolve_left hx')
    rw [vl_T h10, vl_T h10]
    by_cases e : i = 1 ∧ fit b (F (4 * p + 1) - 10) = true
    · rw [if_pos e, if_pos ⟨e.1, hf 0 _ (by omega) e.2⟩]; exact Nat.le_refl _
    · rw [if_neg e]; exact Nat.zero_le _
  · by_cases hj : j = 0
    · subst hj
      rw [vl_0 (fit := fit) (T := T) (b := b + i) hn hy, Nat.zero_mul, Nat.mul_zero]
      exact Nat.zero_le _
    · by_cases hi : i = 0
      · subst hi
        rw [vl_0 (fit := fit) (T := T) (b := b) hn hx, Nat.zero_mul]
        exact Nat.zero_le _
      · refine Nat.mul_le_mul (vl_le (fun q x hq => hf q x (by omega)) (hT i 0 _ (by omega) (by omega))) (Nat.mul_le_mul (vl_le (fun q x hq => ?_) (hT j i _ (by omega) (by omega))) (vl_le (fun q x hq => ?_) ?_))
        · have := hf (i + q) x (by omega)
          rw [← Nat.add_assoc, ← Nat.add_assoc] at this
          exact this
        · have := hf (i + j + q) x (by omega)
          rw [show b + (i + j + q) = b + i + j + q by omega, show b' + (i + j + q) = b' + i + j + q by omega] at this
          exact this
        · have := hT (len - i - j) (i + j) (F (4 * p + 3)) (by omega) (by omega)
          rw [← Nat.add_assoc, ← Nat.add_assoc] at this
          exact this
theorem pr_congr (hn : n ≤ 6) (ok : okP n t P F) (hp : p < P) (hij : i + j ≤ len) (hT : ∀ l d c, l < len → T l d c = T' l d c) : pr fit T F p len b i j = pr fit T' F p len b i j :=
  Nat.le_antisymm (pr_le hn ok hp hij (fun _ _ _ h => h) (fun l d c hl _ => Nat.le_of_eq (hT l (b + d) c hl))) (pr_le hn ok hp hij (fun _ _ _ h => h) (fun l d c hl _ => Nat.le_of_eq (hT l (b + d) c hl).symm))
theorem tp_congr (hn : n ≤ 6) (ok : okP n t P F) (hp : p < P) (hT : ∀ l d c, l < len → T l d c = T' l d c) : tp fit T F p len b = tp fit T' F p len b := by
  unfold tp
  refine sN_congr (fun i hi => sN_congr (fun j hj => ?_))
  unfold pj
  by_cases hij : i + j ≤ len
  · rw [if_pos hij, if_pos hij, pr_congr hn ok hp hij hT]
  · rw [if_neg hij, if_neg hij]
theorem tn_le (hn : n ≤ 6) (ok : okP n t P F) : ∀ f len b b' c, (∀ q x, q < len → fit (b + q) x = true → fit' (b' + q) x = true) → tn fit P F f len b c ≤ tn fit' P F f len b' c := by
  intro f
  induction f with
  | zero => intro len b b' c hf; exact Nat.le_refl 0
  | succ f ih =>
    intro len b b' c hf
    refine sN_le (fun p hp => ?_)
    show (if F (4 * p) = c then tp fit (tn fit P F f) F p len b else 0) ≤ (if F (4 * p) = c then tp fit' (tn fit' P F f) F p len b' else 0)
    by_cases e : F (4 * p) = c
    · rw [if_pos e, if_pos e]
      unfold tp
      refine sN_le (fun i hi => sN_le (fun j hj => ?_))
      unfold pj
      by_cases hij : i + j ≤ len
      · rw [if_pos hij, if_pos hij]
        refine pr_le hn ok hp hij hf (fun l d c hl hd => ih l (b + d) (b' + d) c (fun q x hq => ?_))
        have := hf (d + q) x (by omega)
        rw [← Nat.add_assoc, ← Nat.add_assoc] at this
        exact this
      · rw [if_neg hij]; exact Nat.zero_le _
    · rw [if_neg e, if_neg e]; exact Nat.le_refl _
theorem tn_0 (hn : n ≤ 6) (ok : okP n t P F) {f : Nat} : tn fit P F f 0 b c = 0 := by
  cases f with
  | zero => rfl
  | succ f =>
    refine sN_zero (fun p hp => ?_)
    show (if F (4 * p) = c then tp fit (tn fit P F f) F p 0 b else 0) = 0
    by_cases e : F (4 * p) = c
    · rw [if_pos e]
      unfold tp
      refine sN_zero (fun i hi => sN_zero (fun j hj => ?_))
      have hi : i = 0 := by omega
      unfold pj pr
      rw [hi, vl_0 hn (ok.1 p hp).2.1, Nat.zero_mul, ite_self]
    · rw [if_neg e]
theorem tn_eq (hn : n ≤ 6) (ok : okP n t P F) : ∀ f g len b c, len ≤ f → len ≤ g → tn fit P F f len b c = tn fit P F g len b c := by
  intro f
  induction f with
  | zero =>
    intro g len b c h1 h2
    rw [show len = 0 by omega, tn_0 hn ok, tn_0 hn ok]
  | succ f ih =>
    intro g len b c h1 h2
    cases g with
    | zero => rw [show len = 0 by omega, tn_0 hn ok, tn_0 hn ok]
    | succ g =>
      refine sN_congr (fun p hp => ?_)
      show (if F (4 * p) = c then tp fit (tn fit P F f) F p len b else 0) = (if F (4 * p) = c then tp fit (tn fit P F g) F p len b else 0)
      rw [tp_congr hn ok hp (fun l d c hl => ih g l d c (by omega) (by omega))]
theorem TT_0 (hn : n ≤ 6) (ok : okP n t P F) : TT fit P F 0 b c = 0 := tn_0 hn ok
theorem TT_eq (hn : n ≤ 6) (ok : okP n t P F) : TT fit P F len b c = sN (fun p => if F (4 * p) = c then tp fit (TT fit P F) F p len b else 0) P := by
  cases len with
  | zero =>
    rw [TT_0 hn ok]
    refine (sN_zero (fun p hp => ?_)).symm
    by_cases e : F (4 * p) = c
    · rw [if_pos e]
      unfold tp
      refine sN_zero (fun i hi => sN_zero (fun j hj => ?_))
      have hi : i = 0 := by omega
      unfold pj pr
      rw [hi, vl_0 hn (ok.1 p hp).2.1, Nat.zero_mul, ite_self]
    · rw [if_neg e]
  | succ len =>
    refine sN_congr (fun p hp => ?_)
    show (if F (4 * p) = c then tp fit (tn fit P F len) F p (len + 1) b else 0) = (if F (4 * p) = c then tp fit (TT fit P F) F p (len + 1) b else 0)
    rw [tp_congr hn ok hp (fun l d c hl => tn_eq hn ok len l l d c (by omega) (by omega))]
    rfl
theorem TT_le (hn : n ≤ 6) (ok : okP n t P F) (hf : ∀ q x, q < len → fit (b + q) x = true → fit' (b' + q) x = true) : TT fit P F len b c ≤ TT fit' P F len b' c := tn_le hn ok len len b b' c hf
theorem TT_loc (hn : n ≤ 6) (ok : okP n t P F) (hf : ∀ q x, q < len → fit (b + q) x = fit' (b' + q) x) : TT fit P F len b c = TT fit' P F len b' c :=
  Nat.le_antisymm (TT_le hn ok (fun q x hq h => (hf q x hq) ▸ h)) (TT_le hn ok (fun q x hq h => (hf q x hq).symm ▸ h))
theorem TT_L (hn : n ≤ 6) (ok : okP n t P F) : TT fitL P F len b c = TT fitL P F len b' c := TT_loc hn ok (fun _ _ _ => rfl)
theorem tp_le_TT (hn : n ≤ 6) (ok : okP n t P F) (hp : p < P) (e : F (4 * p) = c) : tp fit (TT fit P F) F p len b ≤ TT fit P F len b c := by
  rw [TT_eq hn ok]
  have := sN_ge (f := fun p => if F (4 * p) = c then tp fit (TT fit P F) F p len b else 0) hp
  simp only [if_pos e] at this
  exact this
theorem pj_le_tp (h : i + j ≤ len) : pr fit T F p len b i j ≤ tp fit T F p len b := by
  have h1 := sN_ge (f := fun j => pj fit T F p len b i j) (n := len + 1) (k := j) (by omega)
  have h2 := sN_ge (f := fun i => sN (fun j => pj fit T F p len b i j) (len + 1)) (n := len + 1) (k := i) (by omega)
  have h3 : pj fit T F p len b i j = pr fit T F p len b i j := if_pos h
  simp only [h3] at h1
  exact Nat.le_trans h1 h2
end VL
def uU (l : Nat) : Nat := ([0, 3, 216, 31104, 5598720, 1128701952, 243799621632, 55168371523584, 12909398936518656] : List Nat).getD l 0
def uE (l : Nat) : Nat := if l = 0 then 1 else 0
def uT (e : Bool) (n : Nat) : Nat := sN (fun i => sN (fun j => if i + j ≤ n then uU i * (uU j * (if e = true then uE (n - i - j) else uU (n - i - j))) else 0) (n + 1)) (n + 1)
theorem uT_le : ∀ n, n < 9 → 2 ≤ n → 24 * max (uT true n) (uT false n) ≤ uU n := by decide +kernel
theorem uU_lt : ∀ n, n < 9 → uU n < 2 ^ 63 := by decide +kernel
section BD
variable {fit : Nat → Int32 → Bool} {n t P : Nat} {F : Nat → Int32} {len b p l : Nat} {c : Int32}
theorem vl_u {T : Nat → Nat → Int32 → Nat} (hn : n ≤ 6) (h : isS n t c) (hT : T l b c ≤ uU l) : vl fit T l b c ≤ uU l := by
  rcases h with h | h
  · rw [vl_N hn h]
    by_cases e : l = 0
    · rw [if_pos e]; exact Nat.zero_le _
    · rw [if_neg e]; exact hT
  · rw [vl_T (isT_ge h)]
    by_cases e : l = 1 ∧ fit b (c - 10) = true
    · rw [if_pos e, e.1]; decide
    · rw [if_neg e]; exact Nat.zero_le _
theorem tp_u (hn : n ≤ 6) (ok : okP n t P F) (hp : p < P) (h2 : 2 ≤ len) (hT : ∀ l d c, l < len → TT fit P F l d c ≤ uU l) : tp fit (TT fit P F) F p len b ≤ max (uT true len) (uT false len) := by
  obtain ⟨-, hx, hyz⟩ := ok.1 p hp
  rcases hyz with ⟨hy, hz, hx'⟩ | ⟨hy, hz⟩
  · refine Nat.le_trans (Nat.le_of_eq ?_) (Nat.zero_le _)
    unfold tp
    refine sN_zero (fun i hi => sN_zero (fun j hj => ?_))
    unfold pj pr
    rw [hy, hz, vl_m1, vl_m1]
    by_cases hij : i + j ≤ len
    · rw [if_pos hij]
      by_cases hj0 : j = 0
      · by_cases hk : len - i - j = 0
        · rw [vl_T (isT_ge (hx.resolve_left hx')), if_neg (fun e => by omega), Nat.zero_mul]
        · rw [if_neg hk, Nat.mul_zero, Nat.mul_zero]
      · rw [if_neg hj0, Nat.zero_mul, Nat.mul_zero]
    · rw [if_neg hij]
  · have key : ∀ e : Bool, (∀ k d, k < len → vl fit (TT fit P F) k d (F (4 * p + 3)) ≤ (if e = true then uE k else uU k)) → tp fit (TT fit P F) F p len b ≤ uT e len := by
      intro e he
      unfold tp uT
      refine sN_le (fun i hi => sN_le (fun j hj => ?_))
      unfold pj pr
      by_cases hij : i + j ≤ len
      · rw [if_pos hij, if_pos hij]
        by_cases hj0 : j = 0
        · rw [hj0, vl_0 (b := b + i) hn hy, Nat.zero_mul, Nat.mul_zero]
          exact Nat.zero_le _
        · by_cases hi0 : i = 0
          · rw [hi0, vl_0 (b := b) hn hx, Nat.zero_mul]
            exact Nat.zero_le _
          · exact Nat.mul_le_mul (vl_u hn hx (hT _ _ _ (by omega))) (Nat.mul_le_mul (vl_u hn hy (hT _ _ _ (by omega))) (he _ _ (by omega)))
      · rw [if_neg hij]
        exact Nat.zero_le _
    rcases hz with hz | hz
    · refine Nat.le_trans (key true (fun k d _ => ?_)) (Nat.le_max_left _ _)
      rw [hz, vl_m1, if_pos rfl]
      exact Nat.le_refl _
    · refine Nat.le_trans (key false (fun k d hk => ?_)) (Nat.le_max_right _ _)
      rw [if_neg (by decide)]
      exact vl_u hn hz (hT _ _ _ hk)
def g1 (F : Nat → Int32) (c : Int32) (u : Nat) (p : Nat) : Nat := if F (4 * p) = c ∧ F (4 * p + 1) = nI (10 + u) ∧ F (4 * p + 2) = -1 ∧ F (4 * p + 3) = -1 then 1 else 0
theorem g1_le (ok : okP n t P F) {u : Nat} : sN (g1 F c u) P ≤ 1 := by
  refine sN_uniq (fun i hi => ?_) (fun i j hi hj h1 h2 => ?_)
  · unfold g1
    split <;> omega
  · unfold g1 at h1 h2
    have e1 := Classical.byContradiction (fun e => h1 (if_neg e))
    have e2 := Classical.byContradiction (fun e => h2 (if_neg e))
    refine ok.2 i j hi hj (fun k hk => ?_)
    rcases (show k = 0 ∨ k = 1 ∨ k = 2 ∨ k = 3 by omega) with rfl | rfl | rfl | rfl
    · exact e1.1.trans e2.1.symm
    · exact e1.2.1.trans e2.2.1.symm
    · exact e1.2.2.1.trans e2.2.2.1.symm
    · exact e1.2.2.2.trans e2.2.2.2.symm
theorem TT_1 (hn : n ≤ 6) (ht : t ≤ 3) (ok : okP n t P F) : TT fit P F 1 b c ≤ 3 := by
  rw [TT_eq hn ok]
  refine Nat.le_trans (sN_le (g := fun p => g1 F c 0 p + (g1 F c 1 p + g1 F c 2 p)) (fun p hp => ?_)) ?_
  · by_cases e : F (4 * p) = c
    · rw [if_pos e]
      obtain ⟨-, hx, hyz⟩ := ok.1 p hp
      rcases hyz with ⟨hy, hz, hx'⟩ | ⟨hy, hz⟩
      · have hxT := hx.resolve_left hx'
        have h1 : tp fit (TT fit P F) F p 1 b ≤ 1 := by
          refine Nat.le_trans (sN_le (g := fun i => sN (fun j => if i = 1 ∧ j = 0 then 1 else 0) 2) (fun i hi => sN_le (fun j hj => ?_))) (by decide)
          unfold pj pr
          rw [hy, hz, vl_m1, vl_m1, vl_T (isT_ge hxT)]
          by_cases hij : i + j ≤ 1
          · rw [if_pos hij]
            by_cases ei : i = 1 ∧ fit b (F (4 * p + 1) - 10) = true
            · rw [if_pos ei, if_pos (show j = 0 by omega), if_pos (show 1 - i - j = 0 by omega), if_pos ⟨ei.1, show j = 0 by omega⟩]
              exact Nat.le_refl _
            · rw [if_neg ei, Nat.zero_mul]
              exact Nat.zero_le _
          · rw [if_neg hij]
            exact Nat.zero_le _
        refine Nat.le_trans h1 ?_
        obtain ⟨x1, x2⟩ := hxT
        have ev : ∃ u : Nat, u < 3 ∧ F (4 * p + 1) = nI (10 + u) := by
          obtain ⟨j, hj, ej⟩ := nI_of' (x := F (4 * p + 1)) (by omega)
          rw [ej, nI_toInt hj] at x1 x2
          exact ⟨j - 10, by omega, by rw [ej]; congr 1; omega⟩
        obtain ⟨u, hu, eu⟩ := ev
        have hg : g1 F c u p = 1 := if_pos ⟨e, eu, hy, hz⟩
        rcases (show u = 0 ∨ u = 1 ∨ u = 2 by omega) with rfl | rfl | rfl <;> omega
      · refine Nat.le_trans (Nat.le_of_eq ?_) (Nat.zero_le _)
        unfold tp
        refine sN_zero (fun i hi => sN_zero (fun j hj => ?_))
        unfold pj pr
        by_cases hij : i + j ≤ 1
        · rw [if_pos hij]
          by_cases hj0 : j = 0
          · rw [hj0, vl_0 (b := b + i) hn hy, Nat.zero_mul, Nat.mul_zero]
          · rw [show i = 0 by omega, vl_0 (b := b) hn hx, Nat.zero_mul]
        · rw [if_neg hij]
    · rw [if_neg e]
      exact Nat.zero_le _
  · rw [sN_add, sN_add]
    have h0 := g1_le (c := c) (u := 0) ok
    have h1 := g1_le (c := c) (u := 1) ok
    have h2 := g1_le (c := c) (u := 2) ok
    have e : ∀ f : Nat → Nat, sN (fun p => f p) P = sN f P := fun f => rfl
    omega
theorem TT_u (hn : n ≤ 6) (ht : t ≤ 3) (hP : P ≤ 24) (ok : okP n t P F) : ∀ m len, len ≤ m → len ≤ 8 → ∀ b c, TT fit P F len b c ≤ uU len := by
  intro m
  induction m with
  | zero =>
    intro len h1 h2 b c
    rw [show len = 0 by omega, TT_0 hn ok]
    exact Nat.zero_le _
  | succ m ih =>
    intro len h1 h2 b c
    rcases (show len = 0 ∨ len = 1 ∨ 2 ≤ len by omega) with e | e | e
    · rw [e, TT_0 hn ok]
      exact Nat.zero_le _
    · rw [e]
      exact TT_1 hn ht ok
    · rw [TT_eq hn ok]
      refine Nat.le_trans (sN_le (g := fun _ => max (uT true len) (uT false len)) (fun p hp => ?_)) ?_
      · by_cases e2 : F (4 * p) = c
        · rw [if_pos e2]
          exact tp_u hn ok hp e (fun l d c hl => ih l (by omega) (by omega) d c)
        · rw [if_neg e2]
          exact Nat.zero_le _
      · rw [sN_c]
        exact Nat.le_trans (Nat.mul_le_mul hP (Nat.le_refl _)) (uT_le len (by omega) e)
theorem TT_lt (hn : n ≤ 6) (ht : t ≤ 3) (hP : P ≤ 24) (ok : okP n t P F) (h : len ≤ 8) : TT fit P F len b c < 2 ^ 63 :=
  Nat.lt_of_le_of_lt (TT_u hn ht hP ok len len (Nat.le_refl _) h b c) (uU_lt len (by omega))
theorem vl_lt (hn : n ≤ 6) (ht : t ≤ 3) (hP : P ≤ 24) (ok : okP n t P F) (h : len ≤ 8) (hc : c = -1 ∨ isS n t c) : vl fit (TT fit P F) len b c < 2 ^ 63 := by
  rcases hc with hc | hc
  · rw [hc, vl_m1]
    split <;> decide
  · exact Nat.lt_of_le_of_lt (vl_u hn hc (TT_u hn ht hP ok len len (Nat.le_refl _) h b c)) (uU_lt len (by omega))
theorem tp_lt (hn : n ≤ 6) (ht : t ≤ 3) (hP : P ≤ 24) (ok : okP n t P F) (h : len ≤ 8) (hp : p < P) : tp fit (TT fit P F) F p len b < 2 ^ 63 :=
  Nat.lt_of_le_of_lt (tp_le_TT hn ok hp rfl) (TT_lt hn ht hP ok h)
end BD
/-- the parts of a production -/
theorem okP.x {n t P : Nat} {F : Nat → Int32} (ok : okP n t P F) {p : Nat} (hp : p < P) : isS n t (F (4 * p + 1)) := (ok.1 p hp).2.1
theorem okP.k {n t P : Nat} {F : Nat → Int32} (ok : okP n t P F) {p k : Nat} (hp : p < P) (h1 : 1 ≤ k) (h3 : k ≤ 3) : F (4 * p + k) = -1 ∨ isS n t (F (4 * p + k)) := by
  obtain ⟨-, hx, hyz⟩ := ok.1 p hp
  rcases (show k = 1 ∨ k = 2 ∨ k = 3 by omega) with rfl | rfl | rfl
  · exact Or.inr hx
  · exact hyz.elim (fun h => Or.inl h.1) (fun h => Or.inr h.1)
  · exact hyz.elim (fun h => Or.inl h.2.1) (fun h => h.2)
