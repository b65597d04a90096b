/-! THE MATHEMATICS, 8: the array slots. -/
def zr (s k : Nat) (G : Nat → Int32) : Nat → Int32 := fun i => if 40 * s ≤ i ∧ i < 40 * s + k then 0 else G i
theorem zr_0 {s : Nat} {G : Nat → Int32} : zr s 0 G = G := by
  funext i
  unfold zr
  rw [if_neg (by omega)]
theorem zr_s {s k : Nat} {G : Nat → Int32} : upd (zr s k G) (40 * s + k) 0 = zr s (k + 1) G := by
  funext i
  simp only [upd, zr]
  by_cases h : i = 40 * s + k
  · rw [if_pos h, if_pos (by omega)]
  · rw [if_neg h]
    by_cases h2 : 40 * s ≤ i ∧ i < 40 * s + k
    · rw [if_pos h2, if_pos (by omega)]
    · rw [if_neg h2, if_neg (by omega)]
theorem c_begin {S : gS} {s : Nat} {w v : Int32} {Post : gS → Prop} (hs : s < 3) (hw : w = 0 ∨ w = 1) (h : Post (sA (uA (uA (uA S 28 s 1) 29 s w) 30 s v) 31 (zr s 40 (gA S 31)))) : pX3_begin (nI s) w v S Post := by
  have ew : vp_nar .boolean w = w := by rcases hw with rfl | rfl <;> rfl
  unfold pX3_begin
  simp only [forall_eq, ew, n_b1, nI_clamp (show s < 2 ^ 31 by omega)]
  refine ⟨fun c => absurd c (nI_pos (by omega)), fun _ => ⟨fun _ => ⟨vp_in_nI hs (by decide), vp_in_nI hs (by decide), vp_in_nI hs (by decide), ?_⟩, fun c => absurd (nI_lt (a := s) (b := 3) hs (by decide)) c⟩⟩
  generalize hT : uA (uA (uA S 28 s 1) 29 s w) 30 s v = T at h ⊢
  have e2 : gA T 31 = gA S 31 := by rw [← hT]; rfl
  rw [← e2] at h
  have := lp_seq (B := fun L x => bX3_begin_34 (nI s) Post L x.1 x.2) (fun k => (nI k, sA T 31 (zr s k (gA T 31)))) 40 (fun k L hk hL => ?_) (fun L => ?_)
  · simp only [zr_0, sA_id] at this
    exact this
  · unfold bX3_begin_34
    simp only [forall_eq]
    have e : nI s * 40 + nI k = nI (40 * s + k) := by rw [i_40, nI_mul, nI_add, Nat.mul_comm]
    rw [e]
    refine ⟨fun d => absurd d (nI_ge (b := 40) hk (by decide)), fun _ => ⟨vp_in_nI (by omega) (by decide), ?_⟩⟩
    rw [nI_clamp (by omega), uA_s, gA_sA, if_pos rfl, zr_s, sA_sA, nI_1]
    exact hL
  · unfold bX3_begin_34
    exact ⟨fun _ => h, fun d => absurd (nI_le (Nat.le_refl 40) (by decide)) d⟩
theorem m_slot {S : gS} {x : Int32} {Post : Int32 → Prop} (h1 : ∀ s : Nat, s < 3 → x = nI s → Post 1) (h0 : ¬ (0 ≤ x.toInt ∧ x.toInt < 3) → Post 0) : pX9_isSlot x S Post := by
  unfold pX9_isSlot
  refine m_bt (fun c1 c2 => ⟨rfl, ?_⟩) (fun c => ⟨rfl, h0 ?_⟩)
  · rw [t_0] at c1
    rw [t_2] at c2
    obtain ⟨s, hs, es⟩ := nI_of' (x := x) c1
    rw [es, nI_toInt hs] at c2
    exact h1 s (by omega) es
  · rw [t_0, t_2] at c
    omega
theorem c_slot {S : gS} {x : Int32} {Post : Prop} {PX : String → gS → Prop} (h1 : ∀ s : Nat, s < 3 → x = nI s → Post) (h0 : ¬ (0 ≤ x.toInt ∧ x.toInt < 3) → PX "java/lang/IllegalArgumentException" S) : pX8_checkSlot x S Post PX := by
  unfold pX8_checkSlot
  simp only [lt_i, t_0, t_3]
  refine ⟨fun c => h0 (by omega), fun c => ⟨fun c1 => ?_, fun c1 => h0 (by omega)⟩⟩
  obtain ⟨s, hs, es⟩ := nI_of' (x := x) (by omega)
  rw [es, nI_toInt hs] at c1
  exact h1 s (by omega) es
theorem nslot {s : Nat} (h : s < 3) : ¬ ¬ (0 ≤ (nI s).toInt ∧ (nI s).toInt < 3) := by
  rw [nI_toInt (by omega)]
  omega
theorem al {a1 a3 w : Int32} {Sx Sm : gS} (h : Inv Sx Sm) (hw : w = 0 ∨ w = 1) : pL_allocate a1 w a3 Sx (fun k Sx' => pX9_allocate a1 w a3 Sm (fun Sm' => pX9_thrown Sm' (fun r => (r = k → Inv Sx' Sm') ∧ (¬ r = k → False)))) := by
  obtain ⟨g, gc, gw, gv, gl, gt⟩ := id h
  have mod : ∀ {Post : gS → Prop}, (∀ s z : Nat, s < 3 → z ≤ 40 → a1 = nI s → a3 = nI z → Post (sA (uA (uA (uI Sm 0 0) 11 s (nI z)) 12 s w) (64 + s) (cpy z (fun _ => 0) (gA Sm (64 + s))))) → (¬ ((0 ≤ a1.toInt ∧ a1.toInt < 3) ∧ 0 ≤ a3.toInt ∧ a3.toInt ≤ 40) → Post (uI Sm 0 1)) → pX9_allocate a1 w a3 Sm Post := by
    intro Post h1 h0
    have j1 : ¬ ((0 ≤ a1.toInt ∧ a1.toInt < 3) ∧ 0 ≤ a3.toInt ∧ a3.toInt ≤ 40) → jX9_allocate_24 a1 w a3 Sm Post 1 := fun c => by
      unfold jX9_allocate_24
      exact m_f1 ⟨fun c => absurd c (by decide), fun _ => h0 c⟩
    unfold pX9_allocate
    refine m_slot (fun s hs es => ⟨fun c => absurd c (by decide), fun _ => m_bt (fun c1 c2 => ⟨fun _ => ?_, fun c => absurd c (by decide)⟩) (fun c => ⟨fun c => absurd rfl c, fun _ => j1 (fun d => c (by rw [t_0, t_40]; exact d.2))⟩)⟩) (fun c => ⟨fun _ => j1 (fun d => c d.1), fun c => absurd rfl c⟩)
    rw [t_0] at c1
    rw [t_40] at c2
    obtain ⟨z, hz, ez⟩ := nI_of' (x := a3) c1
    rw [ez, nI_toInt hz] at c2
    have ew : vp_nar .boolean w = w := by rcases hw with rfl | rfl <;> rfl
    have h2 := h1 s z hs (by omega) es ez
    unfold jX9_allocate_24
    refine m_f0 ⟨fun _ => ?_, fun c => absurd rfl c⟩
    rw [es, ez]
    simp only [forall_eq, ew, nI_clamp (show s < 2 ^ 31 by omega)]
    refine ⟨vp_in_nI hs (by decide), vp_in_nI hs (by decide), ?_⟩
    generalize hT : uA (uA (uI Sm 0 0) 11 s (nI z)) 12 s w = T at h2 ⊢
    have e2 : gA T (64 + s) = gA Sm (64 + s) := by
      rw [← hT, gA_uA, if_neg (by omega), gA_uA, if_neg (by omega), gA_uI]
    rw [← e2] at h2
    have := lp_seq (B := fun L x => bX9_allocate_48 (nI s) (nI z) Post L x.1 x.2) (fun k => (nI k, sA T (64 + s) (cpy k (fun _ => 0) (gA T (64 + s))))) z (fun k L hk hL => ?_) (fun L => ?_)
    · simp only [cpy_0, sA_id] at this
      exact this
    · unfold bX9_allocate_48
      simp only [forall_eq]
      refine ⟨fun d => absurd d (nI_ge (b := z) hk (by omega)), fun _ => ⟨vp_in_nI hs (by decide), vp_in_nI (by omega) (by decide), ?_⟩⟩
      rw [nI_clamp (by omega), nI_clamp (by omega), uA_s, gA_sA, if_pos rfl, show upd (cpy k (fun _ => 0) (gA T (64 + s))) k 0 = cpy (k + 1) (fun _ => 0) (gA T (64 + s)) from cpy_s, sA_sA, nI_1]
      exact hL
    · unfold bX9_allocate_48
      exact ⟨fun _ => h2, fun d => absurd (nI_le (Nat.le_refl z) (by omega)) d⟩
  have cls : ∀ {Post : Int32 → gS → Prop}, (∀ s z : Nat, s < 3 → z ≤ 40 → a1 = nI s → a3 = nI z → Post 0 (sA (uA (uA (uA Sx 28 s 1) 29 s w) 30 s (nI z)) 31 (zr s 40 (gA Sx 31)))) → (¬ ((0 ≤ a1.toInt ∧ a1.toInt < 3) ∧ 0 ≤ a3.toInt ∧ a3.toInt ≤ 40) → Post 1 Sx) → pL_allocate a1 w a3 Sx Post := by
    intro Post h1 h0
    unfold pL_allocate pX8_allocate
    refine c_slot (fun s hs es => ?_) (fun c => ⟨rfl, h0 (fun d => c d.1)⟩)
    refine ⟨fun c => ⟨rfl, h0 (fun d => ?_)⟩, fun c => ⟨fun c1 => ?_, fun c1 => ⟨rfl, h0 (fun d => ?_)⟩⟩⟩
    · rw [lt_i, t_0] at c
      omega
    · rw [lt_i, t_0] at c
      rw [le_i, t_40] at c1
      obtain ⟨z, hz, ez⟩ := nI_of' (x := a3) (by omega)
      rw [ez, nI_toInt hz] at c1
      rw [es, ez]
      exact c_begin hs hw (h1 s z hs (by omega) es ez)
    · rw [le_i, t_40] at c1
      omega
  refine cls (fun s z hs hz es ez => mod (fun s' z' hs' hz' es' ez' => finv ?_ ?_) (fun d => absurd ?_ d)) (fun c => mod (fun s' z' hs' hz' es' ez' => absurd ?_ c) (fun _ => finv rd0 h.thr))
  · rw [gI_sA, gI_uA, gI_uA, rd0]
  · have e3 : s' = s := by rw [es, nI_eq (by omega) (by omega)] at es'; omega
    have e4 : z' = z := by rw [ez, nI_eq (by omega) (by omega)] at ez'; omega
    subst e3 e4
    refine ⟨?_, ?_, ?_, ?_, ?_, ?_⟩
    · unfold eqG at g ⊢
      simp only [gI_uI, gI_uA, gI_sA, gA_uI, gA_uA, gA_sA]
      simp
      refine ⟨g.1, g.2.1, g.2.2.1, g.2.2.2.1, g.2.2.2.2.1, fun p k hp hk => ?_, fun i hi => ?_⟩
      · rw [if_neg (by omega), if_neg (by omega), if_neg (by omega)]
        exact g.2.2.2.2.2.1 p k hp hk
      · rw [if_neg (by omega)]
        exact g.2.2.2.2.2.2 i hi
    · unfold eqC at gc ⊢
      simp only [gI_uA, gI_sA, gA_uA, gA_sA, gB_uA, gB_sA]
      simpa using gc
    · simp only [gI_uA, gI_sA, gA_uA, gA_sA]
      simpa using gw
    · unfold eqV at gv ⊢
      simp only [gI_uI, gI_uA, gI_sA, gA_uI, gA_uA, gA_sA]
      simp
      refine ⟨gv.1, gv.2.imp id (fun w => ⟨w.1, w.2.1, w.2.2.1, w.2.2.2.1, w.2.2.2.2.1, w.2.2.2.2.2.1, w.2.2.2.2.2.2.1, w.2.2.2.2.2.2.2.1, fun p k hp hk => ?_, fun i hi => ?_⟩)⟩
      · rw [if_neg (by omega), if_neg (by omega), if_neg (by omega)]
        exact w.2.2.2.2.2.2.2.2.1 p k hp hk
      · rw [if_neg (by omega)]
        exact w.2.2.2.2.2.2.2.2.2 i hi
    · unfold eqL at gl ⊢
      intro s2 hs2
      simp only [gA_uI, gA_uA, gA_sA]
      by_cases e : s2 = s'
      · subst e
        right
        refine ⟨?_, z', hz, ?_, ?_, ?_, fun i hi => ?_⟩
        · simp [upd_at]
        · rw [if_neg (show ¬ 11 = 64 + s2 by omega)]
          simp [upd_at]
        · simp [upd_at]
        · rw [if_neg (show ¬ 12 = 64 + s2 by omega)]
          simp [upd_at]
        · rw [if_pos rfl, cpy_lt hi]
          simp only [if_true]
          unfold zr
          rw [if_pos (by omega)]
      · rw [if_neg (show ¬ 11 = 64 + s' by omega), if_neg (show ¬ 12 = 64 + s' by omega), if_neg (show ¬ 64 + s2 = 64 + s' by omega), if_neg (show ¬ 64 + s2 = 12 by omega), if_neg (show ¬ 64 + s2 = 11 by omega)]
        simp
        simp only [upd_at, if_neg e]
        refine (gl s2 hs2).imp id (fun w => ⟨w.1, ?_⟩)
        obtain ⟨y, y1, y2, y3, y4, y5⟩ := w.2
        refine ⟨y, y1, y2, y3, y4, fun i hi => ?_⟩
        unfold zr
        rw [if_neg (by omega)]
        exact y5 i hi
    · unfold eqT at gt ⊢
      simp only [gI_uI, gI_uA, gI_sA, gA_uI, gA_uA, gA_sA, gJ_uA, gJ_sA]
      rw [if_neg (show ¬ 8 = 64 + s' by omega), if_neg (show ¬ 9 = 64 + s' by omega), if_neg (show ¬ 10 = 64 + s' by omega)]
      simpa using gt
  · rw [es, ez, nI_toInt (by omega), nI_toInt (by omega)]
    omega
  · rw [es', ez', nI_toInt (by omega), nI_toInt (by omega)]
    omega
theorem s_26 {a1 a2 a3 a4 : Int32} {Sx Sm : gS} (h : Inv Sx Sm) : qL_26 a1 a2 a3 a4 Sx Sm Inv := by
  unfold qL_26
  exact ⟨fun _ => al h (Or.inl rfl), fun _ => al h (Or.inr rfl)⟩
theorem c_held {S : gS} {s : Nat} {Post : Int32 → Prop} (hs : s < 3) (h0 : gA S 28 s = 0 → Post 0) (h1 : ¬ gA S 28 s = 0 → Post 1) : pX3_isHeld (nI s) S Post := by
  unfold pX3_isHeld
  rw [nI_clamp (by omega)]
  exact ⟨fun c => absurd c (nI_pos (by omega)), fun _ => ⟨fun c => absurd c (nI_ge (b := 3) hs (by decide)), fun _ => ⟨vp_in_nI hs (by decide), ⟨h0, h1⟩⟩⟩⟩
theorem c_array {S : gS} {s : Nat} {Post : Prop} {PX : String → gS → Prop} (hs : s < 3) (h0 : gA S 28 s = 0 → PX "java/lang/IllegalStateException" S) (h1 : ¬ gA S 28 s = 0 → Post) : pX8_checkArray (nI s) S Post PX := by
  unfold pX8_checkArray
  exact c_held hs (fun c => ⟨fun c => absurd rfl c, fun _ => h0 c⟩) (fun c => ⟨fun _ => h1 c, fun c => absurd c (by decide)⟩)
theorem c_index {S : gS} {s z c : Nat} {x : Int32} {Post : Prop} {PX : String → gS → Prop} (hs : s < 3) (hh : gA S 28 s = 1) (ez : gA S 30 s = nI z) (hz : z ≤ 40) (hc : c ≤ 8) (h1 : ∀ i : Nat, x = nI i → i + c ≤ z → Post) (h0 : ¬ (0 ≤ x.toInt ∧ x.toInt + c ≤ z) → PX "java/lang/IndexOutOfBoundsException" S) : pX8_checkIndexes (nI s) x (nI c) S Post PX := by
  unfold pX8_checkIndexes pX3_length
  refine ⟨fun d => h0 ?_, fun d => c_held hs (fun d2 => absurd (hh.symm.trans d2) (by decide)) (fun _ => ⟨fun d2 => absurd d2 (by decide), fun _ => ⟨vp_in_nI hs (by decide), ?_⟩⟩)⟩
  · rw [lt_i, t_0] at d
    omega
  · rw [lt_i, t_0] at d
    rw [nI_clamp (by omega), ez, le_i]
    have e : (nI z - nI c).toInt = (z : Int) - c := by rw [sub_i] <;> rw [nI_toInt (by omega), nI_toInt (by omega)] <;> omega
    rw [e]
    refine ⟨fun d2 => ?_, fun d2 => h0 (by omega)⟩
    obtain ⟨i, hi, ei⟩ := nI_of' (x := x) (by omega)
    rw [ei, nI_toInt hi] at d2
    exact h1 i ei (by omega)
theorem c_elem {S : gS} {s i : Nat} {Post : Int32 → Prop} (hs : s < 3) (hh : gA S 28 s = 1) (hi : i < 40) (h : Post (gA S 31 (40 * s + i))) : pX3_element (nI s) (nI i) S Post := by
  have e : nI s * 40 + nI i = nI (40 * s + i) := by rw [i_40, nI_mul, nI_add, Nat.mul_comm]
  unfold pX3_element pX3_isElement
  rw [e]
  refine c_held hs (fun d2 => absurd (hh.symm.trans d2) (by decide)) (fun _ => ⟨fun d2 => absurd d2 (by decide), fun _ => ⟨fun d => absurd d (nI_pos (by omega)), fun _ => ⟨fun d => absurd d (nI_ge (b := 40) hi (by decide)), fun _ => ⟨fun d2 => absurd d2 (by decide), fun _ => ⟨vp_in_nI (by omega) (by decide), ?_⟩⟩⟩⟩⟩)
  rw [nI_clamp (by omega)]
  exact h
/-- what is stored: as it is, or as a short -/
def nrw (w v : Int32) : Int32 := if w = 0 then v.toInt16.toInt32 else v
theorem c_put {S : gS} {s i : Nat} {v : Int32} {Post : gS → Prop} (hs : s < 3) (hh : gA S 28 s = 1) (hi : i < 40) (h : Post (uA S 31 (40 * s + i) (nrw (gA S 29 s) v))) : pX3_put (nI s) (nI i) v S Post := by
  have e : nI s * 40 + nI i = nI (40 * s + i) := by rw [i_40, nI_mul, nI_add, Nat.mul_comm]
  unfold pX3_put pX3_isElement
  rw [e]
  simp only [forall_eq]
  refine c_held hs (fun d2 => absurd (hh.symm.trans d2) (by decide)) (fun _ => ⟨fun d2 => absurd d2 (by decide), fun _ => ⟨fun d => absurd d (nI_pos (by omega)), fun _ => ⟨fun d => absurd d (nI_ge (b := 40) hi (by decide)), fun _ => ⟨fun d2 => absurd d2 (by decide), fun _ => ⟨vp_in_nI hs (by decide), ?_⟩⟩⟩⟩⟩)
  rw [nI_clamp (by omega), nI_clamp (by omega)]
  unfold nrw at h
  refine ⟨fun c => ⟨vp_in_nI (by omega) (by decide), ?_⟩, fun c => ⟨vp_in_nI (by omega) (by decide), ?_⟩⟩
  · rw [if_pos c] at h
    exact h
  · rw [if_neg c] at h
    exact h
theorem m_nrw {S : gS} {s : Nat} {v : Int32} {Post : Int32 → Prop} (hs : s < 3) (h : Post (nrw (gA S 12 s) v)) : pX9_narrowed (nI s) v S Post := by
  unfold pX9_narrowed
  rw [nI_clamp (by omega)]
  unfold nrw at h
  refine ⟨vp_in_nI hs (by decide), fun c => ?_, fun c => ?_⟩
  · rw [if_pos c] at h
    exact h
  · rw [if_neg c] at h
    exact h
/-- one element written on both sides -/
theorem Inv.elem {Sx Sm : gS} {s z i : Nat} {v : Int32} (h : Inv Sx Sm) (hs : s < 3) (hh : gA Sx 28 s = 1) (ez : gA Sm 11 s = nI z) (hz : z ≤ 40) (hi : i < z) : Inv (uA Sx 31 (40 * s + i) v) (uA Sm (64 + s) i v) := by
  obtain ⟨g, gc, gw, gv, gl, gt⟩ := id h
  refine ⟨?_, ?_, ?_, ?_, ?_, ?_⟩
  · unfold eqG at g ⊢
    simp only [gI_uA, gA_uA]
    simp
    refine ⟨g.1, g.2.1, g.2.2.1, g.2.2.2.1, g.2.2.2.2.1, fun p k hp hk => ?_, fun i hi => ?_⟩
    · rw [if_neg (by omega)]
      exact g.2.2.2.2.2.1 p k hp hk
    · rw [if_neg (by omega)]
      exact g.2.2.2.2.2.2 i hi
  · unfold eqC at gc ⊢
    simp only [gI_uA, gA_uA, gB_uA]
    simpa using gc
  · simp only [gI_uA, gA_uA]
    simpa using gw
  · unfold eqV at gv ⊢
    simp only [gI_uA, gA_uA]
    simp
    refine ⟨gv.1, gv.2.imp id (fun w => ⟨w.1, w.2.1, w.2.2.1, w.2.2.2.1, w.2.2.2.2.1, w.2.2.2.2.2.1, w.2.2.2.2.2.2.1, w.2.2.2.2.2.2.2.1, fun p k hp hk => ?_, fun i hi => ?_⟩)⟩
    · rw [if_neg (by omega)]
      exact w.2.2.2.2.2.2.2.2.1 p k hp hk
    · rw [if_neg (by omega)]
      exact w.2.2.2.2.2.2.2.2.2 i hi
  · unfold eqL at gl ⊢
    intro s2 hs2
    simp only [gA_uA]
    rw [if_neg (show ¬ 11 = 64 + s by omega), if_neg (show ¬ 12 = 64 + s by omega)]
    simp
    refine (gl s2 hs2).imp id (fun w => ⟨w.1, ?_⟩)
    obtain ⟨y, y1, y2, y3, y4, y5⟩ := w.2
    refine ⟨y, y1, y2, y3, y4, fun j hj => ?_⟩
    by_cases e : s2 = s
    · subst e
      rw [if_pos rfl, upd_at, upd_at, y5 j hj]
      by_cases e2 : j = i
      · rw [if_pos e2, if_pos (by omega)]
      · rw [if_neg e2, if_neg (by omega)]
    · rw [if_neg (by omega), upd_at, if_neg (by omega)]
      exact y5 j hj
  · unfold eqT at gt ⊢
    simp only [gI_uA, gA_uA, gJ_uA]
    rw [if_neg (show ¬ 8 = 64 + s by omega), if_neg (show ¬ 9 = 64 + s by omega), if_neg (show ¬ 10 = 64 + s by omega)]
    simpa using gt
theorem s_27 {a1 a2 a3 a4 : Int32} {Sx Sm : gS} (h : Inv Sx Sm) : qL_27 a1 a2 a3 a4 Sx Sm Inv := by
  obtain ⟨g, gc, gw, gv, gl, gt⟩ := id h
  unfold qL_27 pL_setElement pX8_setElement
  have m14 : ∀ {Post : Int32 → gS → Prop} {s : Nat}, s < 3 → a1 = nI s → jX9_setElement_14 a1 a2 a3 Sm Post 0 → pX9_setElement a1 a2 a3 Sm Post := by
    intro Post s hs es hj
    unfold pX9_setElement
    exact m_slot (fun _ _ _ => ⟨fun _ => hj, fun c => absurd c (by decide)⟩) (fun c => absurd c (by rw [es]; exact nslot hs))
  refine c_slot (fun s hs es => ?_) (fun c => Or.inl ⟨rfl, ?_⟩)
  · rw [es]
    rcases gl s hs with ⟨l1, l2⟩ | ⟨l1, z, z40, l2, l3, l4, l5⟩
    · refine c_array hs (fun _ => Or.inr (Or.inl ⟨rfl, ?_⟩)) (fun c => absurd l1 c)
      rw [← es]
      refine m14 hs es ?_
      unfold jX9_setElement_14 jX9_setElement_36
      rw [es]
      refine m_f0 ⟨fun c => absurd rfl c, fun _ => ⟨vp_in_nI hs (by decide), ?_⟩⟩
      rw [nI_clamp (by omega), gA_uI, l2]
      exact ⟨fun c => absurd c (by decide), fun _ => m_f1 ⟨fun _ => fin rd0 h.thr.thr (fun c => absurd c (by decide)), fun c => absurd c (by decide)⟩⟩
    · refine c_array hs (fun c => absurd (l1.symm.trans c) (by decide)) (fun _ => ?_)
      have mm : ∀ {Post : Int32 → gS → Prop}, (∀ i : Nat, a2 = nI i → i < z → Post (gA Sm (64 + s) i) (uA (uI (uI (uI Sm 0 0) 0 0) 0 0) (64 + s) i (nrw (gA Sm 12 s) a3))) → (¬ (0 ≤ a2.toInt ∧ a2.toInt + (1 : Nat) ≤ z) → Post 0 (uI (uI (uI Sm 0 0) 0 0) 0 3)) → pX9_setElement (nI s) a2 a3 Sm Post := by
        intro Post h1 h0
        rw [← es]
        refine m14 hs es ?_
        unfold jX9_setElement_14 jX9_setElement_36
        rw [es]
        refine m_f0 ⟨fun c => absurd rfl c, fun _ => ⟨vp_in_nI hs (by decide), ?_⟩⟩
        rw [nI_clamp (by omega), gA_uI, l2]
        refine ⟨fun _ => m_f0 ⟨fun c => absurd rfl c, fun _ => ⟨vp_in_nI hs (by decide), ?_⟩⟩, fun c => absurd (nI_pos' (by omega)) c⟩
        rw [gA_uI, gA_uI, l2]
        have e : (nI z - 1).toInt = (z : Int) - 1 := by rw [sub_i] <;> rw [nI_toInt (by omega), t_1] <;> omega
        unfold jX9_setElement_65
        refine m_bt (fun c1 c2 => ⟨fun _ => m_f0 ⟨fun _ => ⟨vp_in_nI hs (by decide), ?_⟩, fun c => absurd rfl c⟩, fun c => absurd c (by decide)⟩) (fun c => ⟨fun c => absurd rfl c, fun _ => m_f1 ⟨fun c => absurd c (by decide), fun _ => h0 ?_⟩⟩)
        · rw [e] at c2
          rw [t_0] at c1
          obtain ⟨i, hi, ei⟩ := nI_of' (x := a2) c1
          rw [ei, nI_toInt hi] at c2
          rw [ei]
          simp only [forall_eq]
          refine ⟨vp_in_nI (by omega) (by decide), vp_in_nI hs (by decide), m_nrw hs ⟨vp_in_nI (by omega) (by decide), ?_⟩⟩
          rw [nI_clamp (by omega), nI_clamp (by omega)]
          exact h1 i ei (by omega)
        · rw [e, t_0] at c
          omega
      refine c_index (c := 1) hs l1 l3 z40 (by decide) (fun i ei hi => ?_) (fun c => Or.inr (Or.inr ⟨rfl, mm (fun i ei hi => absurd ?_ c) (fun _ => fin rd0 h.thr.thr.thr (fun c => absurd c (by decide)))⟩))
      · rw [ei]
        refine c_elem hs l1 (by omega) (c_put hs l1 (by omega) ?_)
        rw [← ei]
        refine mm (fun j ej hj => fin ?_ (Inv.out ?_) (fun _ => ?_)) (fun d => absurd ?_ d)
        · rw [gI_uA, rd0]
        · have e5 : j = i := by rw [ei, nI_eq (by omega) (by omega)] at ej; omega
          rw [e5, l4]
          exact h.thr.thr.thr.elem hs l1 l2 z40 (by omega)
        · have e5 : j = i := by rw [ei, nI_eq (by omega) (by omega)] at ej; omega
          rw [out0, e5, l5 i (by omega)]
        · rw [ei, nI_toInt (by omega)]
          omega
      · rw [ei, nI_toInt (by omega)]
        omega
  · unfold pX9_setElement jX9_setElement_14
    refine m_slot (fun s hs es => absurd c (by rw [es]; exact nslot hs)) (fun _ => ⟨fun c => absurd rfl c, fun _ => m_f1 ⟨fun _ => fin rd0 h.thr (fun c => absurd c (by decide)), fun c => absurd c (by decide)⟩⟩)
