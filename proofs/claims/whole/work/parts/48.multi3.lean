/-! new T[n][k][j]: three dimensions, after the library's two (Free.Multi). -/
def m3out (c : ClassId) (N h0 M : Nat) : Nat → Cell
  | 0 => { cls := c, slots := Array.replicate N .null, vm := .none }
  | i + 1 => (m3out c N h0 M i).setSlot i (.ref (h0 + 1 + i * (1 + M)))
def m3fill (s : State) (c comp comp2 : ClassId) (N M K : Nat) (dv : Value) : Nat → State
  | 0 => s.pushCell (m3out c N s.heap.size M 0)
  | i + 1 => (Jvm.Free.Multi.fill (m3fill s c comp comp2 N M K dv i) comp comp2 M K dv M).setCell s.heap.size (m3out c N s.heap.size M (i + 1))
theorem m3out_facts (c : ClassId) (N h0 M : Nat) : ∀ i, (m3out c N h0 M i).cls = c ∧ (m3out c N h0 M i).vm = .none ∧ (m3out c N h0 M i).slots.size = N
  | 0 => ⟨rfl, rfl, by simp [m3out]⟩
  | i + 1 => by
    obtain ⟨a, b, d⟩ := m3out_facts c N h0 M i
    exact ⟨by simp [m3out, Cell.setSlot, a], by simp [m3out, Cell.setSlot, b], by simp [m3out, Cell.setSlot, d]⟩
theorem m3fill_facts (s : State) (c comp comp2 : ClassId) (N M K : Nat) (dv : Value) : ∀ i, (m3fill s c comp comp2 N M K dv i).heap.size = s.heap.size + 1 + i * (1 + M) ∧ (m3fill s c comp comp2 N M K dv i).heap[s.heap.size]? = some (m3out c N s.heap.size M i) ∧
    (m3fill s c comp comp2 N M K dv i).vm = s.vm ∧ (m3fill s c comp comp2 N M K dv i).slotsUsed = s.slotsUsed + N + i * (M + M * K)
  | 0 => ⟨by simp [m3fill], by simp [m3fill], rfl, by simp [m3fill, m3out]⟩
  | i + 1 => by
    obtain ⟨a, b, d, u⟩ := m3fill_facts s c comp comp2 N M K dv i
    obtain ⟨a2, b2, d2, u2⟩ := Jvm.Free.Multi.fill_facts (m3fill s c comp comp2 N M K dv i) comp comp2 M K dv M
    have hlt : s.heap.size < (m3fill s c comp comp2 N M K dv i).heap.size := by omega
    have hb' : (Jvm.Free.Multi.fill (m3fill s c comp comp2 N M K dv i) comp comp2 M K dv M).heap[s.heap.size]? = some (m3out c N s.heap.size M i) := by
      rw [Jvm.Free.Multi.fill_old (m3fill s c comp comp2 N M K dv i) comp comp2 M K dv hlt M]; exact b
    refine ⟨?_, State.heap_setCell_self hb', by simp only [m3fill]; show (Jvm.Free.Multi.fill (m3fill s c comp comp2 N M K dv i) comp comp2 M K dv M).vm = s.vm; rw [d2, d], ?_⟩
    · simp only [m3fill, State.setCell, Array.size_setIfInBounds, a2, a, Nat.succ_mul]; omega
    · simp only [m3fill]; show (Jvm.Free.Multi.fill (m3fill s c comp comp2 N M K dv i) comp comp2 M K dv M).slotsUsed = _; rw [u2, u, Nat.succ_mul]; omega
theorem m3fill_setTop (s : State) (f : JFrame) (c comp comp2 : ClassId) (N M K : Nat) (dv : Value) : ∀ i, m3fill (s.setTop f) c comp comp2 N M K dv i = (m3fill s c comp comp2 N M K dv i).setTop f
  | 0 => rfl
  | i + 1 => by simp only [m3fill, m3fill_setTop s f c comp comp2 N M K dv i, State.heap_setTop, Jvm.Free.Multi.fill_setTop, State.setCell_setTop]
theorem m3fill_old (s : State) (c comp comp2 : ClassId) (N M K : Nat) (dv : Value) {a : Addr} (ha : a < s.heap.size) : ∀ i, (m3fill s c comp comp2 N M K dv i).heap[a]? = s.heap[a]?
  | 0 => State.heap_pushCell_of_lt _ _ ha
  | i + 1 => by
    have f1 := (m3fill_facts s c comp comp2 N M K dv i).1
    show ((Jvm.Free.Multi.fill (m3fill s c comp comp2 N M K dv i) comp comp2 M K dv M).setCell s.heap.size _).heap[a]? = _
    rw [State.heap_setCell_other (Nat.ne_of_gt ha), Jvm.Free.Multi.fill_old _ comp comp2 M K dv (show a < (m3fill s c comp comp2 N M K dv i).heap.size from Nat.lt_of_lt_of_le ha (by rw [f1]; omega)) M]
    exact m3fill_old s c comp comp2 N M K dv ha i
theorem m3fill_new (s : State) (c comp comp2 : ClassId) (N M K : Nat) (dv : Value) : ∀ i j, j < i → (m3fill s c comp comp2 N M K dv i).heap[s.heap.size + 1 + j * (1 + M)]? = some (Jvm.Free.Multi.outerC comp M (s.heap.size + 1 + j * (1 + M)) M) ∧ ∀ q, q < M → (m3fill s c comp comp2 N M K dv i).heap[s.heap.size + 1 + j * (1 + M) + 1 + q]? = some (Jvm.Free.Multi.innerC comp2 K dv)
  | 0, _, h => absurd h (Nat.not_lt_zero _)
  | i + 1, j, h => by
    obtain ⟨f1, -, -, -⟩ := m3fill_facts s c comp comp2 N M K dv i
    obtain ⟨g1, g2, -, -⟩ := Jvm.Free.Multi.fill_facts (m3fill s c comp comp2 N M K dv i) comp comp2 M K dv M
    rcases Nat.lt_or_ge j i with hj | hj
    · obtain ⟨h1, h2⟩ := m3fill_new s c comp comp2 N M K dv i j hj
      have hm : j * (1 + M) + (1 + M) ≤ i * (1 + M) := by rw [← Nat.succ_mul]; exact Nat.mul_le_mul_right _ hj
      refine ⟨?_, fun q hq => ?_⟩
      · show ((Jvm.Free.Multi.fill (m3fill s c comp comp2 N M K dv i) comp comp2 M K dv M).setCell s.heap.size _).heap[_]? = _
        rw [State.heap_setCell_other (show s.heap.size ≠ s.heap.size + 1 + j * (1 + M) by omega), Jvm.Free.Multi.fill_old _ comp comp2 M K dv (show s.heap.size + 1 + j * (1 + M) < (m3fill s c comp comp2 N M K dv i).heap.size by rw [f1]; omega) M]
        exact h1
      · show ((Jvm.Free.Multi.fill (m3fill s c comp comp2 N M K dv i) comp comp2 M K dv M).setCell s.heap.size _).heap[_]? = _
        rw [State.heap_setCell_other (show s.heap.size ≠ s.heap.size + 1 + j * (1 + M) + 1 + q by omega), Jvm.Free.Multi.fill_old _ comp comp2 M K dv (show s.heap.size + 1 + j * (1 + M) + 1 + q < (m3fill s c comp comp2 N M K dv i).heap.size by rw [f1]; omega) M]
        exact h2 q hq
    · have e : j = i := by omega
      subst e
      refine ⟨?_, fun q hq => ?_⟩
      · show ((Jvm.Free.Multi.fill (m3fill s c comp comp2 N M K dv j) comp comp2 M K dv M).setCell s.heap.size _).heap[_]? = _
        rw [State.heap_setCell_other (show s.heap.size ≠ s.heap.size + 1 + j * (1 + M) by omega), ← f1]
        exact g2
      · show ((Jvm.Free.Multi.fill (m3fill s c comp comp2 N M K dv j) comp comp2 M K dv M).setCell s.heap.size _).heap[_]? = _
        rw [State.heap_setCell_other (show s.heap.size ≠ s.heap.size + 1 + j * (1 + M) + 1 + q by omega), ← f1]
        exact Jvm.Free.Multi.fill_inner _ comp comp2 M K dv M q hq
theorem m3out_arr (c : ClassId) (N h0 M : Nat) : ∀ i : Nat, m3out c N h0 M i = arrV c N (fun j => va_rf (if j < i then some (h0 + 1 + j * (1 + M)) else none))
  | 0 => by
    show ({ cls := c, slots := Array.replicate N .null, vm := .none } : Cell) = _
    rw [arrV_new]
    refine congrArg (arrV c N) (funext fun j => ?_)
    simp [va_rf]
  | i + 1 => by
    show (m3out c N h0 M i).setSlot i (.ref (h0 + 1 + i * (1 + M))) = _
    rw [m3out_arr c N h0 M i, arrV_store]
    refine congrArg (arrV c N) (funext fun j => ?_)
    by_cases e : j = i
    · subst e
      simp [updV, va_rf]
    · by_cases h : j < i
      · simp [updV, e, h, Nat.lt_succ_of_lt h]
      · simp [updV, e, h, show ¬ j < i + 1 by omega]
section M3
variable {E : CtlPost} {e : Env} {d : Bool} {acts : List Action} {s : State}
theorem m3make {c comp comp2 cc : ClassId} {k k1 k2 : Class} {t0 t1 type : FieldType} {n m j : Int32} (hk : s.vm.classes[c]? = some k) (hkind : k.kind = .array comp t0) (href : t0.isReference = true)
    (hk1 : s.vm.classes[comp]? = some k1) (hkind1 : k1.kind = .array comp2 t1) (href1 : t1.isReference = true) (hk2 : s.vm.classes[comp2]? = some k2) (hkind2 : k2.kind = .array cc type) (hn : ¬ n < 0) (hm : ¬ m < 0) (hj : ¬ j < 0)
    (hl1 : ¬ n.toNatClampNeg > e.platform.arrayLengthLimit) (hh1 : ¬ n.toNatClampNeg * componentBytes t0 > e.platform.maxHeapBytes)
    (hl2 : ¬ m.toNatClampNeg > e.platform.arrayLengthLimit) (hh2 : ¬ m.toNatClampNeg * componentBytes t1 > e.platform.maxHeapBytes)
    (hl3 : ¬ j.toNatClampNeg > e.platform.arrayLengthLimit) (hh3 : ¬ j.toNatClampNeg * componentBytes type > e.platform.maxHeapBytes)
    (hdf : fits type (defaultValue type) = true) (hdd : (defaultValue type).isDefault = true)
    (hc : s.heap.size + 1 + n.toNatClampNeg * (1 + m.toNatClampNeg) ≤ e.platform.maxCells) (hs : s.slotsUsed + n.toNatClampNeg + n.toNatClampNeg * (m.toNatClampNeg + m.toNatClampNeg * j.toNatClampNeg) ≤ e.platform.maxSlots)
    {Q : Addr → Pre} (hq : ∀ d' acts', Q s.heap.size d' acts' (m3fill s c comp comp2 n.toNatClampNeg m.toNatClampNeg j.toNatClampNeg (defaultValue type) n.toNatClampNeg)) :
    Sem.wp (Op.multianewarray.make c [n, m, j]) Q E e d acts s := by
  have hfind : ([m, j].find? (· < 0)) = none := by simp [hm, hj]
  rw [Op.multianewarray.make]
  simp only [Sem.wp_bind', Jvm.W.ite, hn, if_false, Sem.wp_pure', Jvm.W.theClass, hk, hkind, Option.some.injEq, exists_eq_left']
  refine Jvm.Free.Multi.wp_newArray hk hkind hl1 hh1 (Jvm.Free.Multi.refFits href _ (Or.inl rfl)) rfl (by omega) (by omega) ?_
  simp only [hfind]
  rw [ite_self, Sem.wp_bind', Std.Legacy.Range.forIn_eq_forIn_range']
  have hsz : ([:n.toNatClampNeg] : Std.Legacy.Range).size = n.toNatClampNeg := by simp [Std.Legacy.Range.size]
  rw [hsz]
  show Sem.wp (forIn (List.range' 0 n.toNatClampNeg 1) PUnit.unit _) _ E e d acts _
  refine wp_forIn_inv (fun rest s' => ∃ i, i ≤ n.toNatClampNeg ∧ rest = List.range' i (n.toNatClampNeg - i) ∧ s' = m3fill s c comp comp2 n.toNatClampNeg m.toNatClampNeg j.toNatClampNeg (defaultValue type) i) _ _ ⟨0, Nat.zero_le _, rfl, rfl⟩ ?_ ?_
  · rintro x rest s' d' acts' Q' ⟨i, hi, hl, rfl⟩ hnext
    have hlt : i < n.toNatClampNeg := by
      rcases Nat.lt_or_ge i n.toNatClampNeg with h | h
      · exact h
      · rw [show n.toNatClampNeg - i = 0 from by omega] at hl; simp at hl
    obtain ⟨rfl, hrest⟩ : x = i ∧ rest = List.range' (i + 1) (n.toNatClampNeg - (i + 1)) := by
      rw [show n.toNatClampNeg - i = (n.toNatClampNeg - (i + 1)) + 1 from by omega, List.range'_succ] at hl
      exact ⟨(List.cons.inj hl).1, (List.cons.inj hl).2⟩
    obtain ⟨f1, f2, f3, f4⟩ := m3fill_facts s c comp comp2 n.toNatClampNeg m.toNatClampNeg j.toNatClampNeg (defaultValue type) x
    obtain ⟨o1, o2, o3⟩ := m3out_facts c n.toNatClampNeg s.heap.size m.toNatClampNeg x
    have hm1 : x * (1 + m.toNatClampNeg) + (1 + m.toNatClampNeg) ≤ n.toNatClampNeg * (1 + m.toNatClampNeg) := by
      rw [← Nat.succ_mul]; exact Nat.mul_le_mul_right _ hlt
    have hm2 : x * (m.toNatClampNeg + m.toNatClampNeg * j.toNatClampNeg) + (m.toNatClampNeg + m.toNatClampNeg * j.toNatClampNeg) ≤ n.toNatClampNeg * (m.toNatClampNeg + m.toNatClampNeg * j.toNatClampNeg) := by
      rw [← Nat.succ_mul]; exact Nat.mul_le_mul_right _ hlt
    simp only [Sem.wp_bind']
    refine Jvm.Free.Multi.wp_make2 (by rw [f3]; exact hk1) hkind1 href1 (by rw [f3]; exact hk2) hkind2 hm hj hl2 hh2 hl3 hh3 hdf hdd (by rw [f1]; omega) (by rw [f4]; omega) (fun d2 acts2 => ?_)
    have hlt0 : s.heap.size < (m3fill s c comp comp2 n.toNatClampNeg m.toNatClampNeg j.toNatClampNeg (defaultValue type) x).heap.size := by rw [f1]; omega
    simp only [Sem.wp_bind', Jvm.W.writeLoc, Sem.wp_pure']
    refine ⟨m3out c n.toNatClampNeg s.heap.size m.toNatClampNeg x, by rw [Jvm.Free.Multi.fill_old _ comp comp2 _ _ _ hlt0]; exact f2, by rw [o2]; simp, by rw [o3]; exact hlt, ?_, hnext _ _ _ ⟨x + 1, hlt, hrest, ?_⟩⟩
    · have f5 := (Jvm.Free.Multi.fill_facts (m3fill s c comp comp2 n.toNatClampNeg m.toNatClampNeg j.toNatClampNeg (defaultValue type) x) comp comp2 m.toNatClampNeg j.toNatClampNeg (defaultValue type) m.toNatClampNeg).2.2.1
      rw [o1, o2]
      simp [State.fitsSlot, State.slotType?, f5, f3, hk, hkind, Jvm.Free.Multi.refFits href _ (Or.inr ⟨_, rfl⟩)]
    · rw [f1]; rfl
  · rintro s' d' acts' ⟨i, hi, hl, rfl⟩
    have hiN : i = n.toNatClampNeg := by
      rcases Nat.lt_or_ge i n.toNatClampNeg with h | h
      · rw [show n.toNatClampNeg - i = (n.toNatClampNeg - (i + 1)) + 1 from by omega, List.range'_succ] at hl; cases hl
      · omega
    subst hiN
    simp only [Sem.wp_pure']
    exact hq _ _
end M3
section M3S
variable {p : Program} {l : Launch} {e : Env} {R : Room} {s : State} {m : MethodId} {args : Array Value} {below : List Frame} {meth : Method} {c : Code} {T : State} {locs : List Loc} {cells slots : Nat}
theorem m3stand (X : Stand p l e R s m args below meth c T locs cells slots) (cA comp comp2 : ClassId) (N M K : Nat) (dv : Value) :
    ∀ i, ∃ L : List Loc, (∀ q ∈ L, T.heap.size ≤ q.base) ∧ Stand p l e R s m args below meth c (m3fill T cA comp comp2 N M K dv i) (locs ++ L) (cells + 1 + i * (1 + M)) (slots + N + i * (M + M * K))
  | 0 => by
    have h := X.pushed (m3out cA N T.heap.size M 0)
    rw [(m3out_facts cA N T.heap.size M 0).2.2] at h
    exact ⟨[], (fun q hq => by cases hq), by simpa [m3fill] using h⟩
  | i + 1 => by
    obtain ⟨L, hL, Xi⟩ := m3stand X cA comp comp2 N M K dv i
    obtain ⟨f1, f2, f3, f4⟩ := m3fill_facts T cA comp comp2 N M K dv i
    have hlt0 : T.heap.size < (m3fill T cA comp comp2 N M K dv i).heap.size := by rw [f1]; omega
    have hcell : (Jvm.Free.Multi.fill (m3fill T cA comp comp2 N M K dv i) comp comp2 M K dv M).heap[T.heap.size]? = some (m3out cA N T.heap.size M i) := by rw [Jvm.Free.Multi.fill_old _ comp comp2 M K dv hlt0 M]; exact f2
    have h := (Xi.filled comp comp2 M K dv M).stored hcell i (.ref (T.heap.size + 1 + i * (1 + M)))
    refine ⟨L ++ ((List.range M).map fun j => (⟨(m3fill T cA comp comp2 N M K dv i).heap.size, j⟩ : Loc)) ++ [⟨T.heap.size, i⟩], fun q hq => ?_, ?_⟩
    · rcases List.mem_append.mp hq with hq | hq
      · rcases List.mem_append.mp hq with hq | hq
        · exact hL q hq
        · obtain ⟨j, -, rfl⟩ := List.mem_map.mp hq
          exact Nat.le_of_lt hlt0
      · simp only [List.mem_cons, List.not_mem_nil, or_false] at hq
        rw [hq]
        exact Nat.le_refl _
    · have e3 : slots + N + (i + 1) * (M + M * K) = slots + N + i * (M + M * K) + M + M * K := by rw [Nat.succ_mul]; omega
      have e4 : cells + 1 + (i + 1) * (1 + M) = cells + 1 + i * (1 + M) + 1 + M := by rw [Nat.succ_mul]; omega
      rw [e3, e4, ← List.append_assoc, ← List.append_assoc]
      exact h
theorem m3step (X : Stand p l e R s m args below meth c T locs cells slots) (hexec : p.tables.exec = Jvm.exec) {own : String} {index : Nat} {ty : FieldType}
    (hown : s.vm.findClass own = some m.cls) (hclink : (Cond.classLink own index ("[" ++ (FieldType.array (.array ty)).toString)).before args s = true)
    (hover : (Cond.arrayOver (.array (.array ty))).before args s = true) (hover2 : (Cond.arrayOver (.array ty)).before args s = true) (harr : (Cond.arrayClass ty).before args s = true)
    {g : JFrame} (hg : g.method = m) (hdg : decode c.code g.pc = .ok (.multianewarray index 3, 4)) {n k j : Int32} {rest : List Value} (hstack : g.stack = .int j :: .int k :: .int n :: rest)
    (hn : ¬ n < 0) (hk : ¬ k < 0) (hj : ¬ j < 0) (hb1 : n.toNatClampNeg * 4 ≤ 536870912) (hb2 : k.toNatClampNeg * 4 ≤ 536870912) (hb3 : j.toNatClampNeg * componentBytes ty ≤ 536870912) (hb4 : j.toNatClampNeg ≤ 536870912)
    (hdf : fits ty (defaultValue ty) = true) (hdd : (defaultValue ty).isDefault = true)
    (hcells : cells + (1 + n.toNatClampNeg * (1 + k.toNatClampNeg)) ≤ R.cells) (hslots : slots + (n.toNatClampNeg + n.toNatClampNeg * (k.toNatClampNeg + k.toNatClampNeg * j.toNatClampNeg)) ≤ R.slots) :
    ∃ (vm₁ : Vm) (cA comp comp2 : ClassId), s.WarmedH vm₁ ∧ s.vm.findClass ("[" ++ (FieldType.array (.array ty)).toString) = some cA ∧ s.vm.findClass (FieldType.array (.array ty)).toString = some comp ∧ s.vm.findClass (FieldType.array ty).toString = some comp2 ∧
      Stand p l e R s m args below meth c (m3fill (T.setVm vm₁) cA comp comp2 n.toNatClampNeg k.toNatClampNeg j.toNatClampNeg (defaultValue ty) n.toNatClampNeg) locs (cells + 1 + n.toNatClampNeg * (1 + k.toNatClampNeg)) (slots + n.toNatClampNeg + n.toNatClampNeg * (k.toNatClampNeg + k.toNatClampNeg * j.toNatClampNeg)) ∧
      ∀ target, Steps p.tables e below ((m3fill (T.setVm vm₁) cA comp comp2 n.toNatClampNeg k.toNatClampNeg j.toNatClampNeg (defaultValue ty) n.toNatClampNeg).setTop { g with pc := g.pc + 4, stack := .ref T.heap.size :: rest }) target →
        Steps p.tables e below (T.setTop g) target := by
  subst hg
  have hpl : e.platform.magicAccessors = ({} : Platform).magicAccessors := by rw [X.admits.platform]
  obtain ⟨comp, cA, kA, hcomp, hkA, hkindA, hnameA⟩ := Cond.arrayOver_specA hover
  obtain ⟨comp2, comp', kB, hcomp2, hkB, hkindB, hnameB⟩ := Cond.arrayOver_specA hover2
  have eB : comp' = comp := Option.some.inj (hnameB.symm.trans hcomp)
  subst eB
  obtain ⟨comp3, kC, cc, hcomp3, hkC, hkindC⟩ := Cond.arrayClass_spec harr
  have eC : comp3 = comp2 := Option.some.inj (hcomp3.symm.trans hcomp2)
  subst eC
  obtain ⟨c0, hfc0, hcl⟩ := Cond.classLink_spec hown hclink e.platform hpl
  cases hnameA.symm.trans hfc0
  obtain ⟨hg₁, hwarm₁, hready₁⟩ := State.classEntry (e := e) X.warmed hcl
  generalize T.vm.noted g.method.cls index (.cls cA) = vm₁ at hg₁ hwarm₁ hready₁
  have hal : s.vm.Alike vm₁ := hwarm₁.alike
  obtain ⟨kA₁, hkA₁, heA⟩ := hal.2.2 _ _ hkA
  obtain ⟨kB₁, hkB₁, heB⟩ := hal.2.2 _ _ hkB
  obtain ⟨kC₁, hkC₁, heC⟩ := hal.2.2 _ _ hkC
  have hkindA₁ : kA₁.kind = .array comp' (.array (.array ty)) := by rw [heA]; exact hkindA
  have hkindB₁ : kB₁.kind = .array comp3 (.array ty) := by rw [heB]; exact hkindB
  have hkindC₁ : kC₁.kind = .array cc ty := by rw [heC]; exact hkindC
  have X₁ := X.noted hwarm₁
  obtain ⟨hr1, hr2⟩ := X.roomAbove hcells hslots
  obtain ⟨LF, hLF, XF⟩ := m3stand X₁ cA comp' comp3 n.toNatClampNeg k.toNatClampNeg j.toNatClampNeg (defaultValue ty) n.toNatClampNeg
  have XF := XF.dropFresh (fun q hq => Nat.le_trans X.heapGrown (hLF q hq))
  refine ⟨vm₁, cA, comp', comp3, hwarm₁, hnameA, hcomp, hcomp2, XF, fun target hrest => ?_⟩
  have hl1 : ¬ n.toNatClampNeg > e.platform.arrayLengthLimit := by rw [Launch.admits_arrayLengthLimit X.admits]; omega
  have hh1 : ¬ n.toNatClampNeg * componentBytes (.array (.array ty)) > e.platform.maxHeapBytes := by
    rw [Launch.admits_maxHeapBytes X.admits]; show ¬ n.toNatClampNeg * 4 > 536870912; omega
  have hl2 : ¬ k.toNatClampNeg > e.platform.arrayLengthLimit := by rw [Launch.admits_arrayLengthLimit X.admits]; omega
  have hh2 : ¬ k.toNatClampNeg * componentBytes (.array ty) > e.platform.maxHeapBytes := by
    rw [Launch.admits_maxHeapBytes X.admits]; show ¬ k.toNatClampNeg * 4 > 536870912; omega
  have hl3 : ¬ j.toNatClampNeg > e.platform.arrayLengthLimit := by rw [Launch.admits_arrayLengthLimit X.admits]; omega
  have hh3 : ¬ j.toNatClampNeg * componentBytes ty > e.platform.maxHeapBytes := by rw [Launch.admits_maxHeapBytes X.admits]; omega
  jvm_step X.here [hexec, hdg]
  simp only [Op.multianewarray.sem, Sem.wp_bind', Jvm.W.resolveClassAt_links (State.method?_setTop g X.here.top) hg₁]
  rw [Jvm.W.popN, if_neg (by decide)]
  refine ⟨g, State.topJava?_setTop' (s := T.setVm vm₁) g X.here.top, [.int n, .int k, .int j], rest, rfl, hstack, ?_⟩
  simp only [List.mapM_cons, List.mapM_nil, Sem.wp_bind', Sem.wp_pure']
  refine m3make (k := kA₁) (k1 := kB₁) (k2 := kC₁) (comp := comp') (comp2 := comp3) (cc := cc) (t0 := .array (.array ty)) (t1 := .array ty) (type := ty) hkA₁ hkindA₁ rfl hkB₁ hkindB₁ rfl hkC₁ hkindC₁ hn hk hj hl1 hh1 hl2 hh2 hl3 hh3 hdf hdd (by show T.heap.size + 1 + _ ≤ _; omega) (by show T.slotsUsed + _ + _ ≤ _; omega) (fun d' acts' => ?_)
  have eS : ((T.setTop g).setVm vm₁).setTop { g with stack := rest } = (T.setVm vm₁).setTop { g with stack := rest } := by
    show ((T.setVm vm₁).setTop g).setTop _ = _
    rw [State.setTop_setTop]
  rw [eS, m3fill_setTop]
  simp only [Sem.wp_bind', Jvm.W.mark, Jvm.W.pushRef, State.topJava?_setTop' _ XF.here.top, Option.some.injEq, exists_eq_left', State.setTop_setTop, State.heap_setTop]
  intro acts
  simp [jvm, XF.here.top]
  exact hrest
end M3S
