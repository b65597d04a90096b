/-! WS out of the tables (printed by wip/whole/gen/start.py). -/
theorem sel_priv {C : String} {y : MethodName} {s : State} {args : Array Value} {n : Nat} (hy : y.cls ≠ "java/lang/invoke/MethodHandle" ∧ y.cls ≠ "java/lang/invoke/VarHandle")
    (hins : (Cond.instantiable C n).before args s = true) (hpriv : (Cond.privateMethod y).before args s = true) (hinst : (Cond.instanceMethod y).before args s = true) (hsame : (Cond.sameMethod y.cls y.cls y.name y.desc).before args s = true) :
    (Cond.selects C y y).before args s = true := by
  obtain ⟨c, k, hc, hk, -, hniab, -, -⟩ := Cond.instantiable_spec hins
  have hni : k.isInterface = false := (Bool.or_eq_false_iff.mp hniab).1
  obtain ⟨mk, methM, hnamed, hmethM, -, -⟩ := Cond.instanceMethod_spec hinst
  have hfound : s.methodFound? y.cls y.name y.desc = some mk := State.methodFound?_of_named hnamed hy
  obtain ⟨-, k2, hk2, hni2⟩ := Cond.sameMethod_spec (findClass_of_methodNamed hnamed) hfound hsame
  have hsel : selectMethod {} s.vm c mk = .method mk := selectMethod_private hmethM (Cond.privateMethod_at hpriv mk methM hnamed hmethM)
  simp only [Cond.before, Cond.holds, Cond.value, hc, hfound, hnamed, hsel, hk, hk2]
  simp; exact hni2
theorem sel_RX2_tailsOf {a : Array Value} {s : State} (h : ∀ w ∈ lw_tbl, w.before a s = true) : (Cond.selects RX2 yX0_tailsOf yX0_tailsOf).before a s = true := sel_priv (n := 3) (by decide +kernel) (h _ (List.mem_of_getElem? (i := 171) (by decide +kernel))) (h _ (List.mem_of_getElem? (i := 467) (by decide +kernel))) (h _ (List.mem_of_getElem? (i := 468) (by decide +kernel))) (h _ (List.mem_of_getElem? (i := 1426) (by decide +kernel)))
theorem sel_RX4_tailsOf {a : Array Value} {s : State} (h : ∀ w ∈ lw_tbl, w.before a s = true) : (Cond.selects RX4 yX0_tailsOf yX0_tailsOf).before a s = true := sel_priv (n := 4) (by decide +kernel) (h _ (List.mem_of_getElem? (i := 191) (by decide +kernel))) (h _ (List.mem_of_getElem? (i := 467) (by decide +kernel))) (h _ (List.mem_of_getElem? (i := 468) (by decide +kernel))) (h _ (List.mem_of_getElem? (i := 1426) (by decide +kernel)))
theorem sel_RX2_put {a : Array Value} {s : State} (h : ∀ w ∈ lw_tbl, w.before a s = true) : (Cond.selects RX2 yX0_put yX0_put).before a s = true := sel_priv (n := 3) (by decide +kernel) (h _ (List.mem_of_getElem? (i := 171) (by decide +kernel))) (h _ (List.mem_of_getElem? (i := 471) (by decide +kernel))) (h _ (List.mem_of_getElem? (i := 472) (by decide +kernel))) (h _ (List.mem_of_getElem? (i := 1427) (by decide +kernel)))
theorem sel_RX4_put {a : Array Value} {s : State} (h : ∀ w ∈ lw_tbl, w.before a s = true) : (Cond.selects RX4 yX0_put yX0_put).before a s = true := sel_priv (n := 4) (by decide +kernel) (h _ (List.mem_of_getElem? (i := 191) (by decide +kernel))) (h _ (List.mem_of_getElem? (i := 471) (by decide +kernel))) (h _ (List.mem_of_getElem? (i := 472) (by decide +kernel))) (h _ (List.mem_of_getElem? (i := 1427) (by decide +kernel)))
theorem bef_0 {a : Array Value} {s : State} (h : ∀ w ∈ lw_tbl, w.before a s = true) : ∀ w ∈ WS_0, w.before a s = true := fun w hw => by
  rw [tab_0] at hw
  obtain ⟨i, -, hi⟩ := List.mem_filterMap.mp hw
  exact h w (List.mem_of_getElem? hi)
theorem bef_1 {a : Array Value} {s : State} (h : ∀ w ∈ lw_tbl, w.before a s = true) : ∀ w ∈ WS_1, w.before a s = true := fun w hw => by
  rw [tab_1] at hw
  obtain ⟨i, -, hi⟩ := List.mem_filterMap.mp hw
  exact h w (List.mem_of_getElem? hi)
theorem bef_2 {a : Array Value} {s : State} (h : ∀ w ∈ lw_tbl, w.before a s = true) : ∀ w ∈ WS_2, w.before a s = true := fun w hw => by
  rw [tab_2] at hw
  obtain ⟨i, -, hi⟩ := List.mem_filterMap.mp hw
  exact h w (List.mem_of_getElem? hi)
theorem bef_3 {a : Array Value} {s : State} (h : ∀ w ∈ lw_tbl, w.before a s = true) : ∀ w ∈ WS_3, w.before a s = true := fun w hw => by
  rw [tab_3] at hw
  obtain ⟨i, -, hi⟩ := List.mem_filterMap.mp hw
  exact h w (List.mem_of_getElem? hi)
theorem bef_4 {a : Array Value} {s : State} (h : ∀ w ∈ lw_tbl, w.before a s = true) : ∀ w ∈ WS_4, w.before a s = true := fun w hw => by
  rw [tab_4] at hw
  obtain ⟨i, -, hi⟩ := List.mem_filterMap.mp hw
  exact h w (List.mem_of_getElem? hi)
theorem bef_5 {a : Array Value} {s : State} (h : ∀ w ∈ lw_tbl, w.before a s = true) : ∀ w ∈ WS_5, w.before a s = true := fun w hw => by
  rw [tab_5] at hw
  obtain ⟨i, -, hi⟩ := List.mem_filterMap.mp hw
  exact h w (List.mem_of_getElem? hi)
theorem bef_6 {a : Array Value} {s : State} (h : ∀ w ∈ lw_tbl, w.before a s = true) : ∀ w ∈ WS_6, w.before a s = true := fun w hw => by
  rw [tab_6] at hw
  obtain ⟨i, -, hi⟩ := List.mem_filterMap.mp hw
  exact h w (List.mem_of_getElem? hi)
theorem bef_7 {a : Array Value} {s : State} (h : ∀ w ∈ lw_tbl, w.before a s = true) : ∀ w ∈ WS_7, w.before a s = true := fun w hw => by
  rw [tab_7] at hw
  obtain ⟨i, -, hi⟩ := List.mem_filterMap.mp hw
  exact h w (List.mem_of_getElem? hi)
theorem bef_8 {a : Array Value} {s : State} (h : ∀ w ∈ lw_tbl, w.before a s = true) : ∀ w ∈ WS_8, w.before a s = true := fun w hw => by
  rw [tab_8] at hw
  obtain ⟨i, -, hi⟩ := List.mem_filterMap.mp hw
  exact h w (List.mem_of_getElem? hi)
theorem bef_9 {a : Array Value} {s : State} (h : ∀ w ∈ lw_tbl, w.before a s = true) : ∀ w ∈ WS_9, w.before a s = true := fun w hw => by
  rw [tab_9] at hw
  obtain ⟨i, -, hi⟩ := List.mem_filterMap.mp hw
  exact h w (List.mem_of_getElem? hi)
theorem bef_10 {a : Array Value} {s : State} (h : ∀ w ∈ lw_tbl, w.before a s = true) : ∀ w ∈ WS_10, w.before a s = true := fun w hw => by
  rw [tab_10] at hw
  obtain ⟨i, -, hi⟩ := List.mem_filterMap.mp hw
  exact h w (List.mem_of_getElem? hi)
theorem bef_11 {a : Array Value} {s : State} (h : ∀ w ∈ lw_tbl, w.before a s = true) : ∀ w ∈ WS_11, w.before a s = true := fun w hw => by
  rcases List.mem_append.mp (tab_11 w hw) with hw | hw
  · obtain ⟨i, -, hi⟩ := List.mem_filterMap.mp hw
    exact h w (List.mem_of_getElem? hi)
  · simp only [List.mem_cons, List.not_mem_nil, or_false] at hw
    rcases hw with rfl | rfl | rfl | rfl
    · exact sel_RX2_tailsOf h
    · exact sel_RX4_tailsOf h
    · exact sel_RX2_put h
    · exact sel_RX4_put h
theorem bef_12 {a : Array Value} {s : State} (h : ∀ w ∈ lw_tbl, w.before a s = true) : ∀ w ∈ WS_12, w.before a s = true := fun w hw => by
  rw [tab_12] at hw
  obtain ⟨i, -, hi⟩ := List.mem_filterMap.mp hw
  exact h w (List.mem_of_getElem? hi)
theorem bef_13 {a : Array Value} {s : State} (h : ∀ w ∈ lw_tbl, w.before a s = true) : ∀ w ∈ WS_13, w.before a s = true := fun w hw => by
  rw [tab_13] at hw
  obtain ⟨i, -, hi⟩ := List.mem_filterMap.mp hw
  exact h w (List.mem_of_getElem? hi)
theorem bef_14 {a : Array Value} {s : State} (h : ∀ w ∈ lw_tbl, w.before a s = true) : ∀ w ∈ WS_14, w.before a s = true := fun w hw => by
  rw [tab_14] at hw
  obtain ⟨i, -, hi⟩ := List.mem_filterMap.mp hw
  exact h w (List.mem_of_getElem? hi)
theorem bef_15 {a : Array Value} {s : State} (h : ∀ w ∈ lw_tbl, w.before a s = true) : ∀ w ∈ WS_15, w.before a s = true := fun w hw => by
  rw [tab_15] at hw
  obtain ⟨i, -, hi⟩ := List.mem_filterMap.mp hw
  exact h w (List.mem_of_getElem? hi)
theorem bef_16 {a : Array Value} {s : State} (h : ∀ w ∈ lw_tbl, w.before a s = true) : ∀ w ∈ WS_16, w.before a s = true := fun w hw => by
  rw [tab_16] at hw
  obtain ⟨i, -, hi⟩ := List.mem_filterMap.mp hw
  exact h w (List.mem_of_getElem? hi)
theorem bef_17 {a : Array Value} {s : State} (h : ∀ w ∈ lw_tbl, w.before a s = true) : ∀ w ∈ WS_17, w.before a s = true := fun w hw => by
  rw [tab_17] at hw
  obtain ⟨i, -, hi⟩ := List.mem_filterMap.mp hw
  exact h w (List.mem_of_getElem? hi)
theorem bef_18 {a : Array Value} {s : State} (h : ∀ w ∈ lw_tbl, w.before a s = true) : ∀ w ∈ WS_18, w.before a s = true := fun w hw => by
  rw [tab_18] at hw
  obtain ⟨i, -, hi⟩ := List.mem_filterMap.mp hw
  exact h w (List.mem_of_getElem? hi)
theorem bef_19 {a : Array Value} {s : State} (h : ∀ w ∈ lw_tbl, w.before a s = true) : ∀ w ∈ WS_19, w.before a s = true := fun w hw => by
  rw [tab_19] at hw
  obtain ⟨i, -, hi⟩ := List.mem_filterMap.mp hw
  exact h w (List.mem_of_getElem? hi)
theorem bef_20 {a : Array Value} {s : State} (h : ∀ w ∈ lw_tbl, w.before a s = true) : ∀ w ∈ WS_20, w.before a s = true := fun w hw => by
  rw [tab_20] at hw
  obtain ⟨i, -, hi⟩ := List.mem_filterMap.mp hw
  exact h w (List.mem_of_getElem? hi)
theorem bef_21 {a : Array Value} {s : State} (h : ∀ w ∈ lw_tbl, w.before a s = true) : ∀ w ∈ WS_21, w.before a s = true := fun w hw => by
  rw [tab_21] at hw
  obtain ⟨i, -, hi⟩ := List.mem_filterMap.mp hw
  exact h w (List.mem_of_getElem? hi)
theorem bef_22 {a : Array Value} {s : State} (h : ∀ w ∈ lw_tbl, w.before a s = true) : ∀ w ∈ WS_22, w.before a s = true := fun w hw => by
  rw [tab_22] at hw
  obtain ⟨i, -, hi⟩ := List.mem_filterMap.mp hw
  exact h w (List.mem_of_getElem? hi)
theorem bef_23 {a : Array Value} {s : State} (h : ∀ w ∈ lw_tbl, w.before a s = true) : ∀ w ∈ WS_23, w.before a s = true := fun w hw => by
  rw [tab_23] at hw
  obtain ⟨i, -, hi⟩ := List.mem_filterMap.mp hw
  exact h w (List.mem_of_getElem? hi)
theorem bef_24 {a : Array Value} {s : State} (h : ∀ w ∈ lw_tbl, w.before a s = true) : ∀ w ∈ WS_24, w.before a s = true := fun w hw => by
  rw [tab_24] at hw
  obtain ⟨i, -, hi⟩ := List.mem_filterMap.mp hw
  exact h w (List.mem_of_getElem? hi)
theorem WS_bef {a : Array Value} {s : State} (h : ∀ w ∈ lw_tbl, w.before a s = true) : ∀ w ∈ WS, w.before a s = true :=
  List.forall_mem_append.mpr ⟨bef_0 h, List.forall_mem_append.mpr ⟨bef_1 h, List.forall_mem_append.mpr ⟨bef_2 h, List.forall_mem_append.mpr ⟨bef_3 h, List.forall_mem_append.mpr ⟨bef_4 h, List.forall_mem_append.mpr ⟨bef_5 h, List.forall_mem_append.mpr ⟨bef_6 h, List.forall_mem_append.mpr ⟨bef_7 h, List.forall_mem_append.mpr ⟨bef_8 h, List.forall_mem_append.mpr ⟨bef_9 h, List.forall_mem_append.mpr ⟨bef_10 h, List.forall_mem_append.mpr ⟨bef_11 h, List.forall_mem_append.mpr ⟨bef_12 h, List.forall_mem_append.mpr ⟨bef_13 h, List.forall_mem_append.mpr ⟨bef_14 h, List.forall_mem_append.mpr ⟨bef_15 h, List.forall_mem_append.mpr ⟨bef_16 h, List.forall_mem_append.mpr ⟨bef_17 h, List.forall_mem_append.mpr ⟨bef_18 h, List.forall_mem_append.mpr ⟨bef_19 h, List.forall_mem_append.mpr ⟨bef_20 h, List.forall_mem_append.mpr ⟨bef_21 h, List.forall_mem_append.mpr ⟨bef_22 h, List.forall_mem_append.mpr ⟨bef_23 h, List.forall_mem_append.mpr ⟨bef_24 h, fun w hw => h w (tab_25 w hw)⟩⟩⟩⟩⟩⟩⟩⟩⟩⟩⟩⟩⟩⟩⟩⟩⟩⟩⟩⟩⟩⟩⟩⟩⟩
