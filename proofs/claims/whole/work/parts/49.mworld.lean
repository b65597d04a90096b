/-! THE MODEL'S CONSTRUCTOR: cells come one behind another; the j-th new cell is the cell kM j of the model's world. -/
def kM (j : Nat) : Nat := if j = 0 then 1 else if j < 25 then 15 + j else if j = 25 then 2 else if j = 26 then 3 else if j = 27 then 4 else if j = 28 then 5 else if j < 35 then 38 + j else if j = 35 then 6 else if j = 36 then 7 else if j < 97 then (if (j - 37) % 10 = 0 then 73 + (j - 37) / 10 else 79 + (j - 37) / 10 * 9 + ((j - 37) % 10 - 1)) else if j = 97 then 8 else if j = 98 then 9 else if j = 99 then 10 else if j = 100 then 11 else if j = 101 then 12 else if j = 102 then 13 else if j < 106 then j - 39 else if j = 106 then 14 else if j < 131 then j - 67 else 15
def offM (k : Nat) : Nat := if k = 1 then 0 else if k = 2 then 25 else if k = 3 then 26 else if k = 4 then 27 else if k = 5 then 28 else if k = 6 then 35 else if k = 7 then 36 else if k = 8 then 97 else if k = 9 then 98 else if k = 10 then 99 else if k = 11 then 100 else if k = 12 then 101 else if k = 13 then 102 else if k = 14 then 106 else if k = 15 then 131 else if k < 40 then k - 15 else if k < 64 then k + 67 else if k < 67 then k + 39 else if k < 73 then k - 38 else if k < 79 then 37 + (k - 73) * 10 else 38 + (k - 79) / 9 * 10 + (k - 79) % 9
def bdM (b sz k : Nat) : Nat := if k = 0 then b else sz + offM k
theorem kM_off : ∀ j, j < 132 → offM (kM j) = j ∧ kM j ≠ 0 ∧ kM j < 133 ∧ (kM j = 11 → j = 100) := by decide +kernel
theorem off_kM : ∀ k, k < 133 → k ≠ 0 → kM (offM k) = k ∧ offM k < 132 := by decide +kernel
def Sz : gS := (fun f => if f = 1 then 1 else if f = 2 then 2 else 0, fun _ => 0, fun _ _ => 0, fun _ _ => 0)
def mY (D : va_G) (cs : Nat → ClassId) (b sz : Nat) : xG := (D, bdM b sz, cs)
def mW (Y : xG) (S : gS) (n : Nat) : va_W := (List.range n).map fun j => (xa Y (kM j), cM Y S (kM j))
theorem mW_at {Y : xG} {S : gS} {n j : Nat} (h : j < n) : (mW Y S n)[j]? = some (xa Y (kM j), cM Y S (kM j)) := by simp [mW, h]
theorem mW_in {Y : xG} {S : gS} {n j : Nat} {q : Nat × va_E} (h : (mW Y S n)[j]? = some q) : j < n ∧ q = (xa Y (kM j), cM Y S (kM j)) := by
  have hk : j < n := by
    have := (List.getElem?_eq_some_iff.mp h).1
    simpa [mW] using this
  rw [mW_at hk] at h
  exact ⟨hk, (Option.some.inj h).symm⟩
theorem mY_at {D : va_G} {cs : Nat → ClassId} {b sz j : Nat} (h : j < 132) : xa (mY D cs b sz) (kM j) = sz + j := by
  show bdM b sz (kM j) = _
  obtain ⟨h1, h2, -⟩ := kM_off j h
  rw [bdM, if_neg h2, h1]
theorem mW_app {D : va_G} {cs : Nat → ClassId} {b sz n r : Nat} {S : gS} {o : va_E} {H H1 : Heap} (hP : va_P D vwCl ((b, o) :: mW (mY D cs b sz) S n) H) (hold : ∀ q : Nat, q < H.size → H1[q]? = H[q]?) (hnew : ∀ j, n ≤ j → j < n + r → va_at D vwCl (xa (mY D cs b sz) (kM j), cM (mY D cs b sz) S (kM j)) H1) : va_P D vwCl ((b, o) :: mW (mY D cs b sz) S (n + r)) H1 := by
  intro k q hq
  cases k with
  | zero => exact (hP 0 q hq).kept (hold _ (hP 0 q hq).lt)
  | succ i =>
    have hq' : (mW (mY D cs b sz) S (n + r))[i]? = some q := hq
    obtain ⟨h1, rfl⟩ := mW_in hq'
    rcases Nat.lt_or_ge i n with h | h
    · have h2 := hP (i + 1) (xa (mY D cs b sz) (kM i), cM (mY D cs b sz) S (kM i)) (show (mW (mY D cs b sz) S n)[i]? = _ from mW_at h)
      exact h2.kept (hold _ h2.lt)
    · exact hnew i h h1
theorem mW_D {D : va_G} {cs : Nat → ClassId} {b sz n : Nat} {S : gS} {o : va_E} {A : Nat → Prop} (hn : n ≤ 132) (hb : b < sz) (hAb : A b) (hA : ∀ q, sz ≤ q → A q) : va_D A ((b, o) :: mW (mY D cs b sz) S n) := by
  have key : ∀ (i : Nat) (q : Nat × va_E), (mW (mY D cs b sz) S n)[i]? = some q → i < n ∧ q.1 = sz + i := fun i q h => by
    obtain ⟨h1, rfl⟩ := mW_in h
    exact ⟨h1, mY_at (D := D) (cs := cs) (by omega)⟩
  refine ⟨fun i j x y hx hy hxy => ?_, fun k q hq => ?_⟩
  · cases i with
    | zero =>
      cases j with
      | zero => rfl
      | succ j =>
        obtain ⟨-, e⟩ := key j y hy
        cases hx
        have hxy : b = y.1 := hxy
        omega
    | succ i =>
      obtain ⟨-, e1⟩ := key i x hx
      cases j with
      | zero =>
        cases hy
        have hxy : x.1 = b := hxy
        omega
      | succ j =>
        obtain ⟨-, e2⟩ := key j y hy
        omega
  · cases k with
    | zero => cases hq; exact hAb
    | succ i =>
      obtain ⟨-, e⟩ := key i q hq
      exact hA _ (by omega)
/-- the whole world, once all is there -/
theorem mW_all {D : va_G} {cs : Nat → ClassId} {b sz : Nat} {S : gS} {H : Heap} (hP : va_P D vwCl ((b, cM (mY D cs b sz) S 0) :: mW (mY D cs b sz) S 132) H) : va_P D vwCl (wd 133 (mY D cs b sz) (cM (mY D cs b sz) S)) H := by
  intro k q hq
  obtain ⟨h1, rfl⟩ := wd_in hq
  by_cases h0 : k = 0
  · subst h0
    exact hP 0 _ rfl
  · obtain ⟨h2, h3⟩ := off_kM k h1 h0
    have h4 := hP (offM k + 1) _ (show (mW (mY D cs b sz) S 132)[offM k]? = _ from mW_at h3)
    rw [h2] at h4
    exact h4
theorem mW_set {D : va_G} {cs : Nat → ClassId} {b sz n i : Nat} {S : gS} {v : Int32} (h1 : 100 < n) (h2 : n ≤ 132) : (mW (mY D cs b sz) S n).set 100 (sz + 100, .inl (xc (mY D cs b sz) 0, 3, .inl (upd (gA S 11) i v))) = mW (mY D cs b sz) (uA S 11 i v) n := by
  apply List.ext_getElem?
  intro j
  by_cases hj : j < n
  · rw [mW_at hj, List.getElem?_set, ← uM_A11]
    by_cases e : 100 = j
    · subst e
      have hl : 100 < (mW (mY D cs b sz) S n).length := by simp [mW, h1]
      rw [if_pos rfl, if_pos hl, mY_at (by omega)]
      rfl
    · rw [if_neg e, mW_at hj, va_up, if_neg (fun q => e ((kM_off j (by omega)).2.2.2 q).symm)]
  · have l1 : ((mW (mY D cs b sz) S n).set 100 (sz + 100, .inl (xc (mY D cs b sz) 0, 3, .inl (upd (gA S 11) i v)))).length ≤ j := by simp [mW]; omega
    have l2 : (mW (mY D cs b sz) (uA S 11 i v) n).length ≤ j := by simp [mW]; omega
    rw [List.getElem?_eq_none l1, List.getElem?_eq_none l2]
section MR
variable {p : Program} {l : Launch} {e : Env} {R : Room} {s : State} {m : MethodId} {args : Array Value} {below : List Frame} {meth : Method} {c : Code} {H : Heap} {locs : List Loc} {cells slots : Nat} {Q : State → Prop}
variable {cc : ByteArray} {pc : Nat} {ls : Array Slot} {rest : List Value} {D : va_G} {cs : Nat → ClassId} {b sz n : Nat} {S : gS} {o : va_E} {A : Nat → Prop} {H0 : Heap} {tys : List (ClassId × FieldType)}
theorem mS_grow {H1 : Heap} (hS : va_S A H0 H locs) (hz : H.size ≤ H1.size) (hold : ∀ q : Nat, q < H.size → H1[q]? = H[q]?) : va_S A H0 H1 locs := ⟨Nat.le_trans hS.1 hz, fun q h1 h2 => (hold q (Nat.lt_of_lt_of_le h1 hS.1)).trans (hS.2.1 q h1 h2), hS.2.2⟩
theorem m_prim (hexec : p.tables.exec = Jvm.exec) (hb : c.code = cc) {atype : ArrayType} {ty : FieldType} (hty : newarray.typeOf atype = ty) (harr : (Cond.arrayClass (newarray.typeOf atype)).before args s = true) (hP : va_P D vwCl ((b, o) :: mW (mY D cs b sz) S n) H) (hS : va_S A H0 H locs) (hz : H.size = sz + n) (hn : n < 132)
    {t N : Nat} {z : (Nat → Int32) ⊕ (Nat → Int64) ⊕ (Nat → UInt32) ⊕ (Nat → UInt64) ⊕ (Nat → Option Nat)} (he : cM (mY D cs b sz) S (kM n) = .inl (cs t, N, z)) (hcv : ∀ cA : ClassId, vp_cell cA (N, z) = arrV cA N (fun _ => defaultValue ty)) (hcs : s.vm.findClass ("[" ++ ty.toString) = some (cs t))
    {k : Int32} (hk : ¬ k < 0) (hN : k.toNatClampNeg = N) (hbytes : N * componentBytes ty ≤ 536870912) (hcells : cells + 1 ≤ R.cells) (hslots : slots + N ≤ R.slots) (hdg : decode cc pc = .ok (.newarray atype, 2))
    (kk : ∀ H1 : Heap, va_P D vwCl ((b, o) :: mW (mY D cs b sz) S (n + 1)) H1 → H1.size = sz + (n + 1) → va_S A H0 H1 locs → W p l e R s m args below meth c H1 locs (cells + 1) (slots + N) Q (F0 m (pc + 2) ls (.ref (sz + n) :: rest))) : W p l e R s m args below meth c H locs cells slots Q (F0 m pc ls (.int k :: rest)) := by
  subst hty
  refine va_newaK hexec hb harr rfl hdg rfl hk hN hbytes hcells hslots hz (fun H1 cA h1 h2 h3 _ h5 => ?_)
  cases Option.some.inj (h5.symm.trans hcs)
  refine kk H1 (mW_app hP (fun q hq => h3 q (by omega)) (fun j j1 j2 => ?_)) (by omega) (mS_grow hS (by omega) (fun q hq => h3 q (by omega)))
  have ej : j = n := by omega
  subst ej
  rw [he, mY_at hn]
  show H1[sz + j]? = some (vp_cell _ _)
  rw [hcv]
  exact h1
theorem m_two (hexec : p.tables.exec = Jvm.exec) (hb : c.code = cc) {own : String} {index : Nat} {ty : FieldType} (hown : s.vm.findClass own = some m.cls) (hclink : (Cond.classLink own index ("[" ++ (FieldType.array ty).toString)).before args s = true) (hover : (Cond.arrayOver (.array ty)).before args s = true) (harr : (Cond.arrayClass ty).before args s = true)
    (hP : va_P D vwCl ((b, o) :: mW (mY D cs b sz) S n) H) (hS : va_S A H0 H locs) (hz : H.size = sz + n) {t u N K : Nat} {f : Nat → Option Nat} {z : (Nat → Int32) ⊕ (Nat → Int64) ⊕ (Nat → UInt32) ⊕ (Nat → UInt64) ⊕ (Nat → Option Nat)} (hn : n + (1 + N) ≤ 132)
    (he : cM (mY D cs b sz) S (kM n) = .inl (cs t, N, .inr (.inr (.inr (.inr f))))) (hfe : ∀ i, i < N → f i = some (sz + n + 1 + i)) (hfn : ∀ i, ¬ i < N → f i = none) (hi : ∀ i, i < N → cM (mY D cs b sz) S (kM (n + 1 + i)) = .inl (cs u, K, z)) (hzc : ∀ c9 : ClassId, Jvm.Free.Multi.innerC c9 K (defaultValue ty) = vp_cell c9 (K, z))
    (hct : s.vm.findClass ("[" ++ (FieldType.array ty).toString) = some (cs t)) (hcu : s.vm.findClass (FieldType.array ty).toString = some (cs u)) {x k : Int32} (hx : ¬ x < 0) (hk : ¬ k < 0) (hN : x.toNatClampNeg = N) (hK : k.toNatClampNeg = K)
    (hb1 : N * 4 ≤ 536870912) (hb2 : K * componentBytes ty ≤ 536870912) (hb3 : K ≤ 536870912) (hdf : fits ty (defaultValue ty) = true) (hdd : (defaultValue ty).isDefault = true) (hcells : cells + (1 + N) ≤ R.cells) (hslots : slots + (N + N * K) ≤ R.slots) (hdg : decode cc pc = .ok (.multianewarray index 2, 4))
    (kk : ∀ H1 : Heap, va_P D vwCl ((b, o) :: mW (mY D cs b sz) S (n + (1 + N))) H1 → H1.size = sz + (n + (1 + N)) → va_S A H0 H1 locs → W p l e R s m args below meth c H1 locs (cells + 1 + N) (slots + N + N * K) Q (F0 m (pc + 4) ls (.ref (sz + n) :: rest))) : W p l e R s m args below meth c H locs cells slots Q (F0 m pc ls (.int k :: .int x :: rest)) := by
  subst hN
  subst hK
  intro T hT Xs
  obtain ⟨vm₁, cA, comp, -, fA, fC, -, -, X', step⟩ := Xs.multianewarray2F hexec hown hclink hover harr (g := F0 m pc ls (.int k :: .int x :: rest)) rfl (by rw [hb]; exact hdg) rfl hx hk hb1 hb2 hb3 hdf hdd hcells hslots
  cases Option.some.inj (fA.symm.trans hct)
  cases Option.some.inj (fC.symm.trans hcu)
  generalize hF : Jvm.Free.Multi.fill (T.setVm vm₁) (cs t) (cs u) x.toNatClampNeg k.toNatClampNeg (defaultValue ty) x.toNatClampNeg = F at X' step
  have hTh : (T.setVm vm₁).heap = H := hT
  obtain ⟨f1, f2, -, -⟩ := Jvm.Free.Multi.fill_facts (T.setVm vm₁) (cs t) (cs u) x.toNatClampNeg k.toNatClampNeg (defaultValue ty) x.toNatClampNeg
  rw [hF, hTh] at f1 f2
  have hold : ∀ q : Nat, q < H.size → F.heap[q]? = H[q]? := fun q hq => by
    have := Jvm.Free.Multi.fill_old (T.setVm vm₁) (cs t) (cs u) x.toNatClampNeg k.toNatClampNeg (defaultValue ty) (a := q) (by rw [hTh]; exact hq) x.toNatClampNeg
    rw [hF, hTh] at this
    exact this
  have hrow : ∀ j : Nat, j < x.toNatClampNeg → F.heap[H.size + 1 + j]? = some (vp_cell (cs u) (k.toNatClampNeg, z)) := fun j hj => by
    have := Jvm.Free.Multi.fill_inner (T.setVm vm₁) (cs t) (cs u) x.toNatClampNeg k.toNatClampNeg (defaultValue ty) x.toNatClampNeg j hj
    rw [hF, hTh, hzc] at this
    exact this
  have hout : Jvm.Free.Multi.outerC (cs t) x.toNatClampNeg H.size x.toNatClampNeg = vp_cell (cs t) (x.toNatClampNeg, .inr (.inr (.inr (.inr f)))) := by
    rw [vp_cell_q]
    have hfun : (fun j => va_rf (if j < x.toNatClampNeg then some (H.size + 1 + j) else none)) = (fun j => va_rf (f j)) := funext fun j => by
      by_cases hj : j < x.toNatClampNeg
      · rw [if_pos hj, hfe j hj, hz]
      · rw [if_neg hj, hfn j hj]
    exact (vr_outer (cs t) x.toNatClampNeg H.size x.toNatClampNeg).trans (congrArg (arrV (cs t) x.toNatClampNeg) hfun)
  rw [hout] at f2
  obtain ⟨tt, a1, b1⟩ := kk F.heap (mW_app hP hold (fun j j1 j2 => by
    rcases Nat.eq_or_lt_of_le j1 with ej | ej
    · subst ej
      rw [he, mY_at (by omega), ← hz]
      exact f2
    · obtain ⟨i, rfl⟩ : ∃ i, j = n + 1 + i := ⟨j - (n + 1), by omega⟩
      rw [hi i (by omega), mY_at (by omega)]
      have h9 := hrow i (by omega)
      rw [hz, Nat.add_assoc sz, Nat.add_assoc sz] at h9
      exact h9)) (by omega) (mS_grow hS (by omega) hold) F rfl X'
  exact ⟨tt, step tt (by rw [hT, hz]; exact a1), b1⟩
theorem m_three (hexec : p.tables.exec = Jvm.exec) (hb : c.code = cc) {own : String} {index : Nat} {ty : FieldType} (hown : s.vm.findClass own = some m.cls) (hclink : (Cond.classLink own index ("[" ++ (FieldType.array (.array ty)).toString)).before args s = true) (hover : (Cond.arrayOver (.array (.array ty))).before args s = true) (hover2 : (Cond.arrayOver (.array ty)).before args s = true) (harr : (Cond.arrayClass ty).before args s = true)
    (hP : va_P D vwCl ((b, o) :: mW (mY D cs b sz) S n) H) (hS : va_S A H0 H locs) (hz : H.size = sz + n) {t u v N M K : Nat} {f : Nat → Option Nat} {fm : Nat → Nat → Option Nat} {z : (Nat → Int32) ⊕ (Nat → Int64) ⊕ (Nat → UInt32) ⊕ (Nat → UInt64) ⊕ (Nat → Option Nat)} (hn : n + (1 + N * (1 + M)) ≤ 132)
    (he : cM (mY D cs b sz) S (kM n) = .inl (cs t, N, .inr (.inr (.inr (.inr f))))) (hfe : ∀ i, i < N → f i = some (sz + n + 1 + i * (1 + M))) (hfn : ∀ i, ¬ i < N → f i = none)
    (hm : ∀ i, i < N → cM (mY D cs b sz) S (kM (n + 1 + i * (1 + M))) = .inl (cs u, M, .inr (.inr (.inr (.inr (fm i)))))) (hme : ∀ i j, i < N → j < M → fm i j = some (sz + n + 1 + i * (1 + M) + 1 + j)) (hmn : ∀ i j, i < N → ¬ j < M → fm i j = none)
    (hr : ∀ i j, i < N → j < M → cM (mY D cs b sz) S (kM (n + 1 + i * (1 + M) + 1 + j)) = .inl (cs v, K, z)) (hzc : ∀ c9 : ClassId, Jvm.Free.Multi.innerC c9 K (defaultValue ty) = vp_cell c9 (K, z)) (hcov : ∀ j, n + 1 ≤ j → j < n + (1 + N * (1 + M)) → ∃ i, i < N ∧ (j = n + 1 + i * (1 + M) ∨ ∃ q, q < M ∧ j = n + 1 + i * (1 + M) + 1 + q))
    (hct : s.vm.findClass ("[" ++ (FieldType.array (.array ty)).toString) = some (cs t)) (hcu : s.vm.findClass (FieldType.array (.array ty)).toString = some (cs u)) (hcv : s.vm.findClass (FieldType.array ty).toString = some (cs v)) {x y k : Int32} (hx : ¬ x < 0) (hy : ¬ y < 0) (hk : ¬ k < 0) (hN : x.toNatClampNeg = N) (hM : y.toNatClampNeg = M) (hK : k.toNatClampNeg = K)
    (hb1 : N * 4 ≤ 536870912) (hb2 : M * 4 ≤ 536870912) (hb3 : K * componentBytes ty ≤ 536870912) (hb4 : K ≤ 536870912) (hdf : fits ty (defaultValue ty) = true) (hdd : (defaultValue ty).isDefault = true) (hcells : cells + (1 + N * (1 + M)) ≤ R.cells) (hslots : slots + (N + N * (M + M * K)) ≤ R.slots) (hdg : decode cc pc = .ok (.multianewarray index 3, 4))
    (kk : ∀ H1 : Heap, va_P D vwCl ((b, o) :: mW (mY D cs b sz) S (n + (1 + N * (1 + M)))) H1 → H1.size = sz + (n + (1 + N * (1 + M))) → va_S A H0 H1 locs → W p l e R s m args below meth c H1 locs (cells + 1 + N * (1 + M)) (slots + N + N * (M + M * K)) Q (F0 m (pc + 4) ls (.ref (sz + n) :: rest))) : W p l e R s m args below meth c H locs cells slots Q (F0 m pc ls (.int k :: .int y :: .int x :: rest)) := by
  subst hN
  subst hM
  subst hK
  intro T hT Xs
  obtain ⟨vm₁, cA, comp, comp2, -, fA, fB, fC, X', step⟩ := m3step Xs hexec hown hclink hover hover2 harr (g := F0 m pc ls (.int k :: .int y :: .int x :: rest)) rfl (by rw [hb]; exact hdg) rfl hx hy hk hb1 hb2 hb3 hb4 hdf hdd hcells hslots
  cases Option.some.inj (fA.symm.trans hct)
  cases Option.some.inj (fB.symm.trans hcu)
  cases Option.some.inj (fC.symm.trans hcv)
  generalize hF : m3fill (T.setVm vm₁) (cs t) (cs u) (cs v) x.toNatClampNeg y.toNatClampNeg k.toNatClampNeg (defaultValue ty) x.toNatClampNeg = F at X' step
  have hTh : (T.setVm vm₁).heap = H := hT
  obtain ⟨f1, f2, -, -⟩ := m3fill_facts (T.setVm vm₁) (cs t) (cs u) (cs v) x.toNatClampNeg y.toNatClampNeg k.toNatClampNeg (defaultValue ty) x.toNatClampNeg
  rw [hF, hTh] at f1 f2
  have hold : ∀ q : Nat, q < H.size → F.heap[q]? = H[q]? := fun q hq => by
    have := m3fill_old (T.setVm vm₁) (cs t) (cs u) (cs v) x.toNatClampNeg y.toNatClampNeg k.toNatClampNeg (defaultValue ty) (a := q) (by rw [hTh]; exact hq) x.toNatClampNeg
    rw [hF, hTh] at this
    exact this
  have hnew : ∀ i : Nat, i < x.toNatClampNeg → F.heap[H.size + 1 + i * (1 + y.toNatClampNeg)]? = some (Jvm.Free.Multi.outerC (cs u) y.toNatClampNeg (H.size + 1 + i * (1 + y.toNatClampNeg)) y.toNatClampNeg) ∧ ∀ q, q < y.toNatClampNeg → F.heap[H.size + 1 + i * (1 + y.toNatClampNeg) + 1 + q]? = some (Jvm.Free.Multi.innerC (cs v) k.toNatClampNeg (defaultValue ty)) := fun i hi => by
    have := m3fill_new (T.setVm vm₁) (cs t) (cs u) (cs v) x.toNatClampNeg y.toNatClampNeg k.toNatClampNeg (defaultValue ty) x.toNatClampNeg i hi
    rw [hF, hTh] at this
    exact this
  have hout : m3out (cs t) x.toNatClampNeg H.size y.toNatClampNeg x.toNatClampNeg = vp_cell (cs t) (x.toNatClampNeg, .inr (.inr (.inr (.inr f)))) := by
    rw [vp_cell_q]
    have hfun : (fun j => va_rf (if j < x.toNatClampNeg then some (H.size + 1 + j * (1 + y.toNatClampNeg)) else none)) = (fun j => va_rf (f j)) := funext fun j => by
      by_cases hj : j < x.toNatClampNeg
      · rw [if_pos hj, hfe j hj, hz]
      · rw [if_neg hj, hfn j hj]
    exact (m3out_arr (cs t) x.toNatClampNeg H.size y.toNatClampNeg x.toNatClampNeg).trans (congrArg (arrV (cs t) x.toNatClampNeg) hfun)
  have hmid : ∀ i, i < x.toNatClampNeg → Jvm.Free.Multi.outerC (cs u) y.toNatClampNeg (H.size + 1 + i * (1 + y.toNatClampNeg)) y.toNatClampNeg = vp_cell (cs u) (y.toNatClampNeg, .inr (.inr (.inr (.inr (fm i))))) := fun i hi => by
    rw [vp_cell_q]
    have hfun : (fun j => va_rf (if j < y.toNatClampNeg then some (H.size + 1 + i * (1 + y.toNatClampNeg) + 1 + j) else none)) = (fun j => va_rf (fm i j)) := funext fun j => by
      by_cases hj : j < y.toNatClampNeg
      · rw [if_pos hj, hme i j hi hj, hz]
      · rw [if_neg hj, hmn i j hi hj]
    exact (vr_outer (cs u) y.toNatClampNeg (H.size + 1 + i * (1 + y.toNatClampNeg)) y.toNatClampNeg).trans (congrArg (arrV (cs u) y.toNatClampNeg) hfun)
  rw [hout] at f2
  obtain ⟨tt, a1, b1⟩ := kk F.heap (mW_app hP hold (fun j j1 j2 => by
    rcases Nat.eq_or_lt_of_le j1 with ej | ej
    · subst ej
      rw [he, mY_at (by omega), ← hz]
      exact f2
    · obtain ⟨i, hi, h | ⟨q, hq, h⟩⟩ := hcov j (by omega) j2
      · have h9 := (hnew i hi).1
        rw [hmid i hi, hz, Nat.add_assoc sz, Nat.add_assoc sz, ← h] at h9
        rw [h, hm i hi, ← h, mY_at (by omega)]
        exact h9
      · have h9 := (hnew i hi).2 q hq
        rw [hzc, hz, Nat.add_assoc sz, Nat.add_assoc sz, Nat.add_assoc sz, Nat.add_assoc sz, ← h] at h9
        rw [h, hr i q hi hq, ← h, mY_at (by omega)]
        exact h9)) (by omega) (mS_grow hS (by omega) hold) F rfl X'
  exact ⟨tt, step tt (by rw [hT, hz]; exact a1), b1⟩
end MR
