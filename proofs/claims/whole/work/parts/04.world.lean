/-! THE WORLDS. A state of a world: its int fields, its long fields, its int and boolean arrays, its long arrays; the cells have fixed numbers. -/
abbrev gS : Type := (Nat → Int32) × (Nat → Int64) × (Nat → Nat → Int32) × (Nat → Nat → Int64)
def gI (S : gS) (f : Nat) : Int32 := S.1 f
def gJ (S : gS) (f : Nat) : Int64 := S.2.1 f
def gA (S : gS) (a : Nat) : Nat → Int32 := S.2.2.1 a
def gB (S : gS) (a : Nat) : Nat → Int64 := S.2.2.2 a
def uI (S : gS) (f : Nat) (v : Int32) : gS := (va_up S.1 f v, S.2)
def uJ (S : gS) (f : Nat) (v : Int64) : gS := (S.1, va_up S.2.1 f v, S.2.2)
def uA (S : gS) (a i : Nat) (v : Int32) : gS := (S.1, S.2.1, va_up S.2.2.1 a (upd (S.2.2.1 a) i v), S.2.2.2)
def uB (S : gS) (a i : Nat) (v : Int64) : gS := (S.1, S.2.1, S.2.2.1, va_up S.2.2.2 a (vp_updL (S.2.2.2 a) i v))
abbrev xG : Type := va_G × (Nat → Nat) × (Nat → ClassId)
def xa (X : xG) (k : Nat) : Nat := X.2.1 k
def xc (X : xG) (k : Nat) : ClassId := X.2.2 k
/-- K cells, the k-th at the address xa X k, with what f says -/
def wd (K : Nat) (X : xG) (f : Nat → va_E) : va_W := (List.range K).map fun k => (xa X k, f k)
theorem wd_at {K k : Nat} {X : xG} {f : Nat → va_E} (h : k < K) : (wd K X f)[k]? = some (xa X k, f k) := by
  simp [wd, h]
theorem wd_in {K k : Nat} {X : xG} {f : Nat → va_E} {q : Nat × va_E} (h : (wd K X f)[k]? = some q) : k < K ∧ q = (xa X k, f k) := by
  have hk : k < K := by
    have := (List.getElem?_eq_some_iff.mp h).1
    simpa [wd] using this
  rw [wd_at hk] at h
  exact ⟨hk, (Option.some.inj h).symm⟩
theorem wd_set {K k : Nat} {X : xG} {f : Nat → va_E} (h : k < K) (e : va_E) : (wd K X f).set k (xa X k, e) = wd K X (va_up f k e) := by
  apply List.ext_getElem?
  intro j
  by_cases hj : j < K
  · rw [wd_at hj, List.getElem?_set]
    by_cases e1 : k = j
    · subst e1
      have hl : k < (wd K X f).length := by simp [wd, h]
      simp [hl, va_up]
    · rw [if_neg e1, wd_at hj, va_up, if_neg (fun q => e1 q.symm)]
  · have h1 : ((wd K X f).set k (xa X k, e)).length ≤ j := by simp [wd]; omega
    have h2 : (wd K X (va_up f k e)).length ≤ j := by simp [wd]; omega
    rw [List.getElem?_eq_none h1, List.getElem?_eq_none h2]
/-- which cells are a world's, or new -/
def xA (K : Nat) (X : xG) (sz : Nat) : Nat → Prop := fun q => (∃ k, k < K ∧ q = xa X k) ∨ sz ≤ q
def xInj (K : Nat) (X : xG) : Prop := ∀ i j, i < K → j < K → xa X i = xa X j → i = j
theorem wd_D {K : Nat} {X : xG} {f : Nat → va_E} {A : Nat → Prop} (hi : xInj K X) (hA : ∀ k, k < K → A (xa X k)) : va_D A (wd K X f) := by
  refine ⟨fun i j p q hp hq hpq => ?_, fun k q hq => ?_⟩
  · obtain ⟨h1, rfl⟩ := wd_in hp
    obtain ⟨h2, rfl⟩ := wd_in hq
    exact hi i j h1 h2 hpq
  · obtain ⟨h1, rfl⟩ := wd_in hq
    exact hA k h1
theorem wd_Aof {K : Nat} {X : xG} {f : Nat → va_E} {A : Nat → Prop} (h : va_D A (wd K X f)) : ∀ k, k < K → A (xa X k) := fun k hk => h.2 k _ (wd_at hk)
/-- the world holds, its cells are apart and of A, and since H0 nothing but A has changed -/
def xH (K : Nat) (X : xG) (cf : gS → Nat → va_E) (A : Nat → Prop) (H0 : Heap) (S : gS) (H : Heap) (locs : List Loc) : Prop :=
  va_P X.1 vwCl (wd K X (cf S)) H ∧ va_D A (wd K X (cf S)) ∧ va_S A H0 H locs
section XR
variable {p : Program} {l : Launch} {e : Env} {R : Room} {s : State} {m : MethodId} {args : Array Value} {below : List Frame} {meth : Method} {c : Code} {H : Heap} {locs : List Loc} {cells slots : Nat} {Q : State → Prop}
variable {cc : ByteArray} {pc : Nat} {ls : Array Slot} {rest : List Value} {K : Nat} {X : xG} {cf : gS → Nat → va_E} {A : Nat → Prop} {H0 : Heap} {S : gS} {tys : List (ClassId × FieldType)} {Ts : List Cond}
theorem x_get (hx : p.tables.exec = Jvm.exec) (hb : c.code = cc) {own ref C : String} {T : u_T} {N ci index : Nat} (hts : ∀ w ∈ Ts, w.before args s = true) (hin : ∀ w ∈ u_ws C T N, w ∈ Ts) (hown : s.vm.findClass own = some m.cls) (hK : va_K X.1 vwCl tys s) (hw : xH K X cf A H0 S H locs) {k : Nat} (hk : k < K) {fs : List Value} (he : cf S k = .inr (ci, fs)) (hc : vwCl[ci]? = some (C, T, N)) (j : Nat) (hj : j < N) (hlink : (Cond.fieldLink own index ref (T j).2.1 (T j).2.2.1).before args s = true) (hsame : ∀ x, s.fieldFound? (T j).1 (T j).2.1 (T j).2.2.1 = some x → s.fieldFound? ref (T j).2.1 (T j).2.2.1 = some x) {v : Value} (hv : fs[j]? = some v) (hdg : decode cc pc = .ok (.getfield index, 3))
    (kk : W p l e R s m args below meth c H locs cells slots Q (F0 m (pc + 3) ls (v :: rest))) : W p l e R s m args below meth c H locs cells slots Q (F0 m pc ls (.ref (xa X k) :: rest)) :=
  va_get hx hb hts hin hown hK hw.1 k (by rw [wd_at hk, he]) hc j hj hlink hsame hv hdg kk
theorem x_getN (hx : p.tables.exec = Jvm.exec) (hb : c.code = cc) {own ref C host : String} {T : u_T} {N ci index : Nat} (hts : ∀ w ∈ Ts, w.before args s = true) (hin : ∀ w ∈ u_ws C T N, w ∈ Ts) (hown : s.vm.findClass own = some m.cls) (hK : va_K X.1 vwCl tys s) (hw : xH K X cf A H0 S H locs) {k : Nat} (hk : k < K) {fs : List Value} (he : cf S k = .inr (ci, fs)) (hc : vwCl[ci]? = some (C, T, N)) (j : Nat) (hj : j < N) (hlink : va_Nw (.fieldLinkNest own index ref (T j).2.1 (T j).2.2.1 host) s) (hsame : ∀ x, s.fieldFound? (T j).1 (T j).2.1 (T j).2.2.1 = some x → s.fieldFound? ref (T j).2.1 (T j).2.2.1 = some x) {v : Value} (hv : fs[j]? = some v) (hdg : decode cc pc = .ok (.getfield index, 3))
    (kk : W p l e R s m args below meth c H locs cells slots Q (F0 m (pc + 3) ls (v :: rest))) : W p l e R s m args below meth c H locs cells slots Q (F0 m pc ls (.ref (xa X k) :: rest)) :=
  va_getN hx hb hts hin hown hK hw.1 k (by rw [wd_at hk, he]) hc j hj (va_Nw.use rfl hlink) hsame hv hdg kk
theorem xH.up {S' : gS} {k : Nat} {e1 : va_E} {H1 : Heap} {locs1 : List Loc} (hk : k < K) (hu : va_up (cf S) k e1 = cf S') (h1 : va_P X.1 vwCl ((wd K X (cf S)).set k (xa X k, e1)) H1) (h2 : va_D A ((wd K X (cf S)).set k (xa X k, e1))) (h3 : va_S A H0 H1 locs1) : xH K X cf A H0 S' H1 locs1 := by
  rw [wd_set hk, hu] at h1 h2
  exact ⟨h1, h2, h3⟩
theorem x_put (hx : p.tables.exec = Jvm.exec) (hb : c.code = cc) {own ref C : String} {T : u_T} {N ci index : Nat} (hts : ∀ w ∈ Ts, w.before args s = true) (hin : ∀ w ∈ u_ws C T N, w ∈ Ts) {ty0 : Nat → FieldType} (hty : ∀ k, k < N → parseFieldDescriptor (T k).2.2.1 = some (ty0 k)) (hnm : ∀ a, a < N → ∀ b, b < N → a ≠ b → (T a).2.1 ≠ (T b).2.1) (hown : s.vm.findClass own = some m.cls) (hK : va_K X.1 vwCl tys s) (hw : xH K X cf A H0 S H locs) {k : Nat} (hk : k < K) {fs : List Value} (he : cf S k = .inr (ci, fs)) (hc : vwCl[ci]? = some (C, T, N)) (j : Nat) (hj : j < N) (hlink : (Cond.fieldLink own index ref (T j).2.1 (T j).2.2.1).before args s = true) (hsame : ∀ x, s.fieldFound? (T j).1 (T j).2.1 (T j).2.2.1 = some x → s.fieldFound? ref (T j).2.1 (T j).2.2.1 = some x) (hfin : (T j).2.2.2 = false) {ty : FieldType} {v : Value} (hd : parseFieldDescriptor (T j).2.2.1 = some ty) (hn : narrow ty v = v) (hfit : fits ty v = true) (hl : j < fs.length) (hdg : decode cc pc = .ok (.putfield index, 3)) {S' : gS} (hu : va_up (cf S) k (.inr (ci, fs.set j v)) = cf S')
    (kk : ∀ (H1 : Heap) (locs1 : List Loc), xH K X cf A H0 S' H1 locs1 → W p l e R s m args below meth c H1 locs1 cells slots Q (F0 m (pc + 3) ls rest)) : W p l e R s m args below meth c H locs cells slots Q (F0 m pc ls (v :: .ref (xa X k) :: rest)) :=
  va_put hx hb hts hin ty0 hty hnm hown hK hw.1 hw.2.1 hw.2.2 k (by rw [wd_at hk, he]) hc j hj hlink hsame hfin hd hn hfit hl hdg (fun H1 locs1 h1 h2 h3 => kk H1 locs1 (xH.up hk hu h1 h2 h3))
theorem x_putN (hx : p.tables.exec = Jvm.exec) (hb : c.code = cc) {own ref C host : String} {T : u_T} {N ci index : Nat} (hts : ∀ w ∈ Ts, w.before args s = true) (hin : ∀ w ∈ u_ws C T N, w ∈ Ts) {ty0 : Nat → FieldType} (hty : ∀ k, k < N → parseFieldDescriptor (T k).2.2.1 = some (ty0 k)) (hnm : ∀ a, a < N → ∀ b, b < N → a ≠ b → (T a).2.1 ≠ (T b).2.1) (hown : s.vm.findClass own = some m.cls) (hK : va_K X.1 vwCl tys s) (hw : xH K X cf A H0 S H locs) {k : Nat} (hk : k < K) {fs : List Value} (he : cf S k = .inr (ci, fs)) (hc : vwCl[ci]? = some (C, T, N)) (j : Nat) (hj : j < N) (hlink : va_Nw (.fieldLinkNest own index ref (T j).2.1 (T j).2.2.1 host) s) (hsame : ∀ x, s.fieldFound? (T j).1 (T j).2.1 (T j).2.2.1 = some x → s.fieldFound? ref (T j).2.1 (T j).2.2.1 = some x) (hfin : (T j).2.2.2 = false) {ty : FieldType} {v : Value} (hd : parseFieldDescriptor (T j).2.2.1 = some ty) (hn : narrow ty v = v) (hfit : fits ty v = true) (hl : j < fs.length) (hdg : decode cc pc = .ok (.putfield index, 3)) {S' : gS} (hu : va_up (cf S) k (.inr (ci, fs.set j v)) = cf S')
    (kk : ∀ (H1 : Heap) (locs1 : List Loc), xH K X cf A H0 S' H1 locs1 → W p l e R s m args below meth c H1 locs1 cells slots Q (F0 m (pc + 3) ls rest)) : W p l e R s m args below meth c H locs cells slots Q (F0 m pc ls (v :: .ref (xa X k) :: rest)) :=
  va_putN hx hb hts hin ty0 hty hnm hown hK hw.1 hw.2.1 hw.2.2 k (by rw [wd_at hk, he]) hc j hj (va_Nw.use rfl hlink) hsame hfin hd hn hfit hl hdg (fun H1 locs1 h1 h2 h3 => kk H1 locs1 (xH.up hk hu h1 h2 h3))
theorem x_ild (hx : p.tables.exec = Jvm.exec) (hb : c.code = cc) (hK : va_K X.1 vwCl tys s) (hw : xH K X cf A H0 S H locs) {k n : Nat} (hk : k < K) (he : cf S k = .inl (xc X 0, n, .inl (gA S k))) (ht : tys[0]? = some (xc X 0, .int)) {i : Int32} (hin : vp_in i n) (hdg : decode cc pc = .ok (.iaload, 1))
    (kk : W p l e R s m args below meth c H locs cells slots Q (F0 m (pc + 1) ls (.int (gA S k i.toNatClampNeg) :: rest))) : W p l e R s m args below meth c H locs cells slots Q (F0 m pc ls (.int i :: .ref (xa X k) :: rest)) :=
  va_iald hx hb hK hw.1 k 0 (by rw [wd_at hk, he]) ht hin hdg kk
theorem x_zld (hx : p.tables.exec = Jvm.exec) (hb : c.code = cc) (hK : va_K X.1 vwCl tys s) (hw : xH K X cf A H0 S H locs) {k n : Nat} (hk : k < K) (he : cf S k = .inl (xc X 2, n, .inl (gA S k))) (ht : tys[2]? = some (xc X 2, .boolean)) {i : Int32} (hin : vp_in i n) (hdg : decode cc pc = .ok (.baload, 1))
    (kk : W p l e R s m args below meth c H locs cells slots Q (F0 m (pc + 1) ls (.int (gA S k i.toNatClampNeg) :: rest))) : W p l e R s m args below meth c H locs cells slots Q (F0 m pc ls (.int i :: .ref (xa X k) :: rest)) :=
  va_zald hx hb hK hw.1 k 2 (by rw [wd_at hk, he]) ht hin hdg kk
theorem x_lld (hx : p.tables.exec = Jvm.exec) (hb : c.code = cc) (hK : va_K X.1 vwCl tys s) (hw : xH K X cf A H0 S H locs) {k n : Nat} (hk : k < K) (he : cf S k = .inl (xc X 1, n, .inr (.inl (gB S k)))) (ht : tys[1]? = some (xc X 1, .long)) {i : Int32} (hin : vp_in i n) (hdg : decode cc pc = .ok (.laload, 1))
    (kk : W p l e R s m args below meth c H locs cells slots Q (F0 m (pc + 1) ls (.long (gB S k i.toNatClampNeg) :: rest))) : W p l e R s m args below meth c H locs cells slots Q (F0 m pc ls (.int i :: .ref (xa X k) :: rest)) :=
  va_lald hx hb hK hw.1 k 1 (by rw [wd_at hk, he]) ht hin hdg kk
theorem x_ist (hx : p.tables.exec = Jvm.exec) (hb : c.code = cc) (hK : va_K X.1 vwCl tys s) (hw : xH K X cf A H0 S H locs) {k n : Nat} (hk : k < K) (he : cf S k = .inl (xc X 0, n, .inl (gA S k))) (ht : tys[0]? = some (xc X 0, .int)) {i x : Int32} (hin : vp_in i n) (hdg : decode cc pc = .ok (.iastore, 1)) (hu : va_up (cf S) k (.inl (xc X 0, n, .inl (upd (gA S k) i.toNatClampNeg x))) = cf (uA S k i.toNatClampNeg x))
    (kk : ∀ (H1 : Heap) (locs1 : List Loc), xH K X cf A H0 (uA S k i.toNatClampNeg x) H1 locs1 → W p l e R s m args below meth c H1 locs1 cells slots Q (F0 m (pc + 1) ls rest)) : W p l e R s m args below meth c H locs cells slots Q (F0 m pc ls (.int x :: .int i :: .ref (xa X k) :: rest)) :=
  va_iast hx hb hK hw.1 hw.2.1 hw.2.2 k 0 (by rw [wd_at hk, he]) ht hin hdg (fun H1 locs1 h1 h2 h3 => kk H1 locs1 (xH.up hk hu h1 h2 h3))
theorem x_zst (hx : p.tables.exec = Jvm.exec) (hb : c.code = cc) (hK : va_K X.1 vwCl tys s) (hw : xH K X cf A H0 S H locs) {k n : Nat} (hk : k < K) (he : cf S k = .inl (xc X 2, n, .inl (gA S k))) (ht : tys[2]? = some (xc X 2, .boolean)) {i x : Int32} (hin : vp_in i n) (hdg : decode cc pc = .ok (.bastore, 1)) (hu : va_up (cf S) k (.inl (xc X 2, n, .inl (upd (gA S k) i.toNatClampNeg (vp_nar .boolean x)))) = cf (uA S k i.toNatClampNeg (vp_nar .boolean x)))
    (kk : ∀ (H1 : Heap) (locs1 : List Loc), xH K X cf A H0 (uA S k i.toNatClampNeg (vp_nar .boolean x)) H1 locs1 → W p l e R s m args below meth c H1 locs1 cells slots Q (F0 m (pc + 1) ls rest)) : W p l e R s m args below meth c H locs cells slots Q (F0 m pc ls (.int x :: .int i :: .ref (xa X k) :: rest)) :=
  va_zast hx hb hK hw.1 hw.2.1 hw.2.2 k 2 (by rw [wd_at hk, he]) ht hin hdg (fun H1 locs1 h1 h2 h3 => kk H1 locs1 (xH.up hk hu h1 h2 h3))
theorem x_lst (hx : p.tables.exec = Jvm.exec) (hb : c.code = cc) (hK : va_K X.1 vwCl tys s) (hw : xH K X cf A H0 S H locs) {k n : Nat} (hk : k < K) (he : cf S k = .inl (xc X 1, n, .inr (.inl (gB S k)))) (ht : tys[1]? = some (xc X 1, .long)) {i : Int32} {x : Int64} (hin : vp_in i n) (hdg : decode cc pc = .ok (.lastore, 1)) (hu : va_up (cf S) k (.inl (xc X 1, n, .inr (.inl (vp_updL (gB S k) i.toNatClampNeg x)))) = cf (uB S k i.toNatClampNeg x))
    (kk : ∀ (H1 : Heap) (locs1 : List Loc), xH K X cf A H0 (uB S k i.toNatClampNeg x) H1 locs1 → W p l e R s m args below meth c H1 locs1 cells slots Q (F0 m (pc + 1) ls rest)) : W p l e R s m args below meth c H locs cells slots Q (F0 m pc ls (.long x :: .int i :: .ref (xa X k) :: rest)) :=
  va_last hx hb hK hw.1 hw.2.1 hw.2.2 k 1 (by rw [wd_at hk, he]) ht hin hdg (fun H1 locs1 h1 h2 h3 => kk H1 locs1 (xH.up hk hu h1 h2 h3))
theorem x_len (hx : p.tables.exec = Jvm.exec) (hb : c.code = cc) (hK : va_K X.1 vwCl tys s) (hw : xH K X cf A H0 S H locs) {k : Nat} (hk : k < K) {cA : ClassId} {x : vp_A} (he : cf S k = .inl (cA, x)) (t0 : Nat) {ty : FieldType} (ht : tys[t0]? = some (cA, ty)) {v : Int32} (hv : Int32.ofNat x.1 = v) (hdg : decode cc pc = .ok (.arraylength, 1))
    (kk : W p l e R s m args below meth c H locs cells slots Q (F0 m (pc + 1) ls (.int v :: rest))) : W p l e R s m args below meth c H locs cells slots Q (F0 m pc ls (.ref (xa X k) :: rest)) :=
  va_alen hx hb hK hw.1 k t0 (by rw [wd_at hk, he]) ht hv hdg kk
/-- an array of arrays: the row number i -/
theorem x_ald (hx : p.tables.exec = Jvm.exec) (hb : c.code = cc) (hK : va_K X.1 vwCl tys s) (hw : xH K X cf A H0 S H locs) {k n : Nat} (hk : k < K) {cA : ClassId} {f : Nat → Option Nat} (he : cf S k = .inl (cA, n, .inr (.inr (.inr (.inr f))))) (t0 : Nat) {ty : FieldType} (hr : ty.isReference = true) (ht : tys[t0]? = some (cA, ty)) {i : Int32} (hin : vp_in i n) {v : Value} (hv : va_rf (f i.toNatClampNeg) = v) (hdg : decode cc pc = .ok (.aaload, 1))
    (kk : W p l e R s m args below meth c H locs cells slots Q (F0 m (pc + 1) ls (v :: rest))) : W p l e R s m args below meth c H locs cells slots Q (F0 m pc ls (.int i :: .ref (xa X k) :: rest)) := by
  have hlt : i.toNatClampNeg < n := Nat.not_le.mp fun q => hin (Or.inr q)
  subst hv
  have hcell : va_at X.1 vwCl (xa X k, .inl (cA, n, .inr (.inr (.inr (.inr f))))) H := hw.1 k _ (by rw [wd_at hk, he])
  exact W.aald (v := va_rf (f i.toNatClampNeg)) (ty := ty) hx hb hcell ((hK.2 t0 _ ht).1 n (fun j => va_rf (f j))) hr (fun q => by cases q) (by show ¬ (i < 0 ∨ (arrV _ _ _).slots.size ≤ _); rw [arrV_size]; exact hin) (by show (arrV _ _ _).slots[_]? = _; rw [arrV_read _ _ hlt]) rfl rfl hdg kk
end XR
