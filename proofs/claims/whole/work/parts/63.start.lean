/-! FROM THE LAW'S ENTRY TO ITS LOOP. -/
def S0x : gS := (fun f => if f = 1 then 1 else if f = 2 then 2 else if f = 6 then 1 else if f = 7 then 2 else 0, fun _ => 0, fun _ _ => 0, fun k => if k = 20 then vp_updL (vp_updL (vp_updL (vp_updL (fun _ => 0) (6559 : Int32).toNatClampNeg 1) (7653 : Int32).toNatClampNeg 1) (8747 : Int32).toNatClampNeg 1) (9837 : Int32).toNatClampNeg 1 else fun _ => 0)
theorem mY_inj {D : va_G} {cs : Nat → ClassId} {b sz : Nat} (h : b < sz) : xInj 133 (mY D cs b sz) := fun i j hi hj e => by
  have e : bdM b sz i = bdM b sz j := e
  unfold bdM at e
  by_cases h1 : i = 0
  · by_cases h2 : j = 0
    · omega
    · rw [if_pos h1, if_neg h2] at e; omega
  · by_cases h2 : j = 0
    · rw [if_neg h1, if_pos h2] at e; omega
    · rw [if_neg h1, if_neg h2] at e
      rw [← (off_kM i hi h1).1, ← (off_kM j hj h2).1, show offM i = offM j by omega]
theorem mY_in {D : va_G} {cs : Nat → ClassId} {b sz : Nat} {o : va_E} (k : Nat) : va_A [(b, o)] sz (xa (mY D cs b sz) k) := by
  show va_A [(b, o)] sz (bdM b sz k)
  unfold bdM
  by_cases h : k = 0
  · rw [if_pos h]; exact Or.inl ⟨0, o, rfl⟩
  · rw [if_neg h]; exact Or.inr (Nat.le_add_right _ _)
theorem va_Ach {b sz q : Nat} {o o' : va_E} (h : va_A [(b, o)] sz q) : va_A [(b, o')] sz q := by
  rcases h with ⟨k, e, h⟩ | h
  · cases k with
    | zero => cases h; exact Or.inl ⟨0, o', rfl⟩
    | succ k => simp at h
  · exact Or.inr h
def litX (D : va_G) (csX : Nat → ClassId) (pw wp h0 q1 q2 q3 q4 q5 q6 q7 q8 q9 q10 q11 q12 q13 q14 q15 q16 q17 q18 q19 q20 q21 q22 q23 q24 q25 q26 q27 q28 q29 q30 q31 : Nat) : va_W := [(h0, .inr (7, [.ref q1, .ref q5, .ref q7, .ref q11, .ref q13, .ref q15, .ref q17, .ref q19, .ref q27, .int 0])), (q1, .inr (0, [.int 1, .int 2, .int 0, .int 0, .ref q2, .ref q3, .ref q4])), (q2, .inl (xc ((D, fun k => if k = 34 then pw else wp, csX) : xG) 0, 96, .inl (fun _ => 0))), (q3, .inl (xc ((D, fun k => if k = 34 then pw else wp, csX) : xG) 0, 6, .inl (fun _ => 0))), (q4, .inl (xc ((D, fun k => if k = 34 then pw else wp, csX) : xG) 2, 6, .inl (fun _ => 0))), (q5, .inr (5, [.int 0, .ref q6])), (q6, .inl (xc ((D, fun k => if k = 34 then pw else wp, csX) : xG) 0, 8, .inl (fun _ => 0))), (q7, .inr (0, [.int 1, .int 2, .int 0, .int 0, .ref q8, .ref q9, .ref q10])), (q8, .inl (xc ((D, fun k => if k = 34 then pw else wp, csX) : xG) 0, 96, .inl (fun _ => 0))), (q9, .inl (xc ((D, fun k => if k = 34 then pw else wp, csX) : xG) 0, 6, .inl (fun _ => 0))), (q10, .inl (xc ((D, fun k => if k = 34 then pw else wp, csX) : xG) 2, 6, .inl (fun _ => 0))), (q11, .inr (5, [.int 0, .ref q12])), (q12, .inl (xc ((D, fun k => if k = 34 then pw else wp, csX) : xG) 0, 8, .inl (fun _ => 0))), (q13, .inr (1, [.ref q1, .ref q14, .int 0])), (q14, .inl (xc ((D, fun k => if k = 34 then pw else wp, csX) : xG) 1, 60, .inr (.inl (fun _ => 0)))), (q15, .inr (3, [.ref q1, .ref q16, .int 0, .ref q5])), (q16, .inl (xc ((D, fun k => if k = 34 then pw else wp, csX) : xG) 1, 384, .inr (.inl (fun _ => 0)))), (q17, .inr (6, [.ref q1, .ref q13, .ref q18, .int 0])), (q18, .inl (xc ((D, fun k => if k = 34 then pw else wp, csX) : xG) 1, 10930, .inr (.inl (vp_updL (vp_updL (vp_updL (vp_updL (fun _ => 0) (6559 : Int32).toNatClampNeg 1) (7653 : Int32).toNatClampNeg 1) (8747 : Int32).toNatClampNeg 1) (9837 : Int32).toNatClampNeg 1)))), (q19, .inr (4, [.ref q1, .int 0, .long 0, .int 0, .ref q20, .ref q21, .ref q22, .ref q23, .ref q24, .ref q25, .ref q26])), (q20, .inl (xc ((D, fun k => if k = 34 then pw else wp, csX) : xG) 0, 15, .inl (fun _ => 0))), (q21, .inl (xc ((D, fun k => if k = 34 then pw else wp, csX) : xG) 0, 15, .inl (fun _ => 0))), (q22, .inl (xc ((D, fun k => if k = 34 then pw else wp, csX) : xG) 0, 15, .inl (fun _ => 0))), (q23, .inl (xc ((D, fun k => if k = 34 then pw else wp, csX) : xG) 0, 15, .inl (fun _ => 0))), (q24, .inl (xc ((D, fun k => if k = 34 then pw else wp, csX) : xG) 0, 15, .inl (fun _ => 0))), (q25, .inl (xc ((D, fun k => if k = 34 then pw else wp, csX) : xG) 0, 15, .inl (fun _ => 0))), (q26, .inl (xc ((D, fun k => if k = 34 then pw else wp, csX) : xG) 1, 15, .inr (.inl (fun _ => 0)))), (q27, .inr (2, [.ref q28, .ref q29, .ref q30, .ref q31])), (q28, .inl (xc ((D, fun k => if k = 34 then pw else wp, csX) : xG) 2, 3, .inl (fun _ => 0))), (q29, .inl (xc ((D, fun k => if k = 34 then pw else wp, csX) : xG) 2, 3, .inl (fun _ => 0))), (q30, .inl (xc ((D, fun k => if k = 34 then pw else wp, csX) : xG) 0, 3, .inl (fun _ => 0))), (q31, .inl (xc ((D, fun k => if k = 34 then pw else wp, csX) : xG) 0, 120, .inl (fun _ => 0)))]
def litZ (D : va_G) (csX : Nat → ClassId) (pw wp h0 q1 q2 q3 q4 q5 q6 q7 q8 q9 q10 q11 q12 q13 q14 q15 q16 q17 q18 q19 q20 q21 q22 q23 q24 q25 q26 q27 q28 q29 q30 q31 qL qD : Nat) : xG := (D, fun k => ([h0, q1, q5, q7, q11, q13, q15, q17, q19, q27, q2, q3, q4, q6, q8, q9, q10, q12, q14, q16, q18, q20, q21, q22, q23, q24, q25, q26, q28, q29, q30, q31, qL, qD, pw, wp] : List Nat).getD k 0, csX)
def posX (i : Nat) : Nat := ([0, 1, 5, 7, 11, 13, 15, 17, 19, 27, 2, 3, 4, 6, 8, 9, 10, 12, 14, 16, 18, 20, 21, 22, 23, 24, 25, 26, 28, 29, 30, 31, 165, 166] : List Nat).getD i 0
theorem posX_lt : ∀ i, i < 32 → posX i < 32 := by decide +kernel
theorem posX_inj : ∀ i, i < 34 → ∀ j, j < 34 → posX i = posX j → i = j := by decide +kernel
theorem posX_out : ∀ i, i < 34 → posX i < 32 ∨ 165 ≤ posX i := by decide +kernel
set_option maxHeartbeats 4000000 in
theorem lit_at {D : va_G} {csX : Nat → ClassId} {pw wp h0 q1 q2 q3 q4 q5 q6 q7 q8 q9 q10 q11 q12 q13 q14 q15 q16 q17 q18 q19 q20 q21 q22 q23 q24 q25 q26 q27 q28 q29 q30 q31 qL qD : Nat} : ∀ i, i < 32 → (litX D csX pw wp h0 q1 q2 q3 q4 q5 q6 q7 q8 q9 q10 q11 q12 q13 q14 q15 q16 q17 q18 q19 q20 q21 q22 q23 q24 q25 q26 q27 q28 q29 q30 q31)[posX i]? = some (xa (litZ D csX pw wp h0 q1 q2 q3 q4 q5 q6 q7 q8 q9 q10 q11 q12 q13 q14 q15 q16 q17 q18 q19 q20 q21 q22 q23 q24 q25 q26 q27 q28 q29 q30 q31 qL qD) i, cX (litZ D csX pw wp h0 q1 q2 q3 q4 q5 q6 q7 q8 q9 q10 q11 q12 q13 q14 q15 q16 q17 q18 q19 q20 q21 q22 q23 q24 q25 q26 q27 q28 q29 q30 q31 qL qD) S0x i) := by
  intro i hi
  match i, hi with
  | 0, _ => rfl
  | 1, _ => rfl
  | 2, _ => rfl
  | 3, _ => rfl
  | 4, _ => rfl
  | 5, _ => rfl
  | 6, _ => rfl
  | 7, _ => rfl
  | 8, _ => rfl
  | 9, _ => rfl
  | 10, _ => rfl
  | 11, _ => rfl
  | 12, _ => rfl
  | 13, _ => rfl
  | 14, _ => rfl
  | 15, _ => rfl
  | 16, _ => rfl
  | 17, _ => rfl
  | 18, _ => rfl
  | 19, _ => rfl
  | 20, _ => rfl
  | 21, _ => rfl
  | 22, _ => rfl
  | 23, _ => rfl
  | 24, _ => rfl
  | 25, _ => rfl
  | 26, _ => rfl
  | 27, _ => rfl
  | 28, _ => rfl
  | 29, _ => rfl
  | 30, _ => rfl
  | 31, _ => rfl
  | i + 32, hi => exact absurd hi (by omega)
theorem wd_len {K : Nat} {X : xG} {f : Nat → va_E} : (wd K X f).length = K := by simp [wd]
set_option maxHeartbeats 40000000 in
set_option maxRecDepth 100000 in
theorem go_start {p : Program} {e : Env} {s : State} {m : MethodId} {below : List Frame} {meth : Method} {c : Code} {l : Launch} {Q : State → Prop} (hlt : l.stackTraces = false) {b L : Nat} {xs : Nat → Int32} (hL : L ≤ 2560) (Inv : gS → gS → Prop) (hInv : ∀ (k : Nat) (a1 a2 a3 a4 : Int32) (Sx Sm : gS), k < 32 → Inv Sx Sm → qL k a1 a2 a3 a4 Sx Sm Inv) (hI0 : Inv S0x S0m)
    (hx : p.tables.exec = Jvm.exec) (hb : c.code = code) (hml : c.maxLocals = 9) (hown : s.vm.findClass RL = some m.cls) (ht : ∀ w ∈ lw_tbl, w.before #[Value.ref b] s = true) (hXs : va_X b L xs s s.heap) (hbl : b < s.heap.size) (hg : (Jvm.Cond.and given_1 narrow_1).before #[Value.ref b] s = true)
    (hEnd : ∀ (H : Heap) (locs : List Loc) (ls : Array Slot) (cells slots : Nat), va_S (fun q => s.heap.size ≤ q) s.heap H locs → cells ≤ 601024 → slots ≤ 7293034 → W p l e room_1 s m #[Value.ref b] below meth c H locs cells slots Q (F0 m 1914 ls [])) :
    W p l e room_1 s m #[Value.ref b] below meth c s.heap [] 0 0 Q (entryFrame m ([Value.ref b] : List Value).toArray 9) := by
  have hf : ∀ w ∈ fl0, w.before #[Value.ref b] s = true := flat_of_before _ hg
  have hts := WS_bef ht
  obtain ⟨D, hKD⟩ := st_K hts
  obtain ⟨csX, pw, wp, hEX⟩ := st_eX ht hf D hKD
  obtain ⟨csM, hME⟩ := st_mEnv ht D hKD
  have hA : ∀ q : Nat, s.heap.size ≤ q → (fun q : Nat => s.heap.size ≤ q) q := fun _ h => h
  have hbA : ¬ (fun q : Nat => s.heap.size ≤ q) b := Nat.not_le.mpr hbl
  have hS : va_S (fun q : Nat => s.heap.size ≤ q) s.heap s.heap [] := va_S.rf
  have hP : va_P D vwCl [] s.heap := fun k q h => by simp at h
  have hD : va_D (fun q : Nat => s.heap.size ≤ q) [] := ⟨fun i j p q h => by simp at h, fun k q h => by simp at h⟩
  have hK : va_K D vwCl (tX (D, fun k => if k = 34 then pw else wp, csX)) s := (hEX (D, fun k => if k = 34 then pw else wp, csX) rfl rfl rfl rfl).1
  have hC : nC (D, fun k => if k = 34 then pw else wp, csX) (fun q : Nat => s.heap.size ≤ q) p s m #[Value.ref b] c code 9 RL := ⟨hx, hb, hml, hown, hts, hEX (D, fun k => if k = 34 then pw else wp, csX) rfl rfl rfl rfl⟩
  have hl := lv_entry ([.ref b]) (n := 9) (Nat.le_of_ble_eq_true rfl)
  rw [lg_entry_eq]
  generalize (lg_sl ([.ref b]) ++ List.replicate (9 - (lg_sl ([.ref b])).length) Slot.unset).toArray = ls at hl ⊢
  have hl : lv_has ls 9 [(0, .ref b)] := hl
  refine va_new (D := D) (cl := vwCl) (ci := 7) (fs := [.null, .null, .null, .null, .null, .null, .null, .null, .null, .int 0]) (C := RX8) (T := TX8) (N := 10) hx hb hts i_X8 tyX8 tyX8_ok hown (hts _ q_0) (hts _ q_1) (hts _ q_2) hK hP hD hS hA rfl (fun j hj => by rcases (show j = 0 ∨ j = 1 ∨ j = 2 ∨ j = 3 ∨ j = 4 ∨ j = 5 ∨ j = 6 ∨ j = 7 ∨ j = 8 ∨ j = 9 by omega) with rfl | rfl | rfl | rfl | rfl | rfl | rfl | rfl | rfl | rfl <;> rfl) (Nat.le_of_ble_eq_true rfl) (Nat.le_of_ble_eq_true rfl) dL_law_0 (fun h0 H hP hD hS => ?_)
  have hP : va_P D vwCl [(h0, .inr (7, [.null, .null, .null, .null, .null, .null, .null, .null, .null, .int 0]))] H := hP
  have hD : va_D (fun q : Nat => s.heap.size ≤ q) [(h0, .inr (7, [.null, .null, .null, .null, .null, .null, .null, .null, .null, .int 0]))] := hD
  refine lv_dup hx hb dL_law_3 rfl ?_
  have hFc := va_free (wc := [(h0, .inr (7, [.null, .null, .null, .null, .null, .null, .null, .null, .null, .int 0]))]) hD hS hA [0] rfl
  refine va_callv (va_runI (As := []) (rest := [.ref h0]) ⟨hx, hb, hml, hown, hts⟩ (nX8_init l (D, fun k => if k = 34 then pw else wp, csX) _ h0) (cwI 0 hts (gN q_11) rfl rfl rfl (hts _ q_2) (hts _ q_9) (hts _ q_10) rfl (by decide +kernel) ⟨Nat.le_of_ble_eq_true rfl, Nat.le_of_ble_eq_true rfl⟩) ⟨n_blind, n_pre hC hS hP hD hFc⟩ rfl rfl hl.1 rfl (lv_room (Nat.le_of_ble_eq_true rfl)) dL_law_4 ⟨Nat.le_of_ble_eq_true rfl, Nat.le_of_ble_eq_true rfl⟩) hS (fun q _ h => hFc q h) hFc (fun _ t H1 locs ht1 hvm hw hB hz1 hk1 hS => ?_)
  obtain ⟨q1, q2, q3, q4, q5, q6, q7, q8, q9, q10, q11, q12, q13, q14, q15, q16, q17, q18, q19, q20, q21, q22, q23, q24, q25, q26, q27, q28, q29, q30, q31, hP1, hD1⟩ := hB
  rw [ht1] at hP1
  obtain ⟨hP, hD⟩ := va_join (wr := []) hP hD [0] [] rfl rfl (by decide) (by decide) hk1 hFc hP1 hD1
  have hP : va_P D vwCl (litX D csX pw wp h0 q1 q2 q3 q4 q5 q6 q7 q8 q9 q10 q11 q12 q13 q14 q15 q16 q17 q18 q19 q20 q21 q22 q23 q24 q25 q26 q27 q28 q29 q30 q31) H1 := hP
  have hD : va_D (fun q : Nat => s.heap.size ≤ q) (litX D csX pw wp h0 q1 q2 q3 q4 q5 q6 q7 q8 q9 q10 q11 q12 q13 q14 q15 q16 q17 q18 q19 q20 q21 q22 q23 q24 q25 q26 q27 q28 q29 q30 q31) := hD
  generalize H1 = H at hP hS ⊢
  refine lv_astore_n (lv' := [(1, .ref h0), (0, .ref b)]) hx hb dL_law_7 rfl hl (by decide) rfl (fun ls hl => ?_)

  refine va_new (D := D) (cl := vwCl) (ci := 8) (fs := [.int 0, .int 0, .int 0, .int 0, .int 0, .null, .null, .int 0, .null, .null, .null, .null, .null, .int 0, .null, .null, .null, .int 0, .int 0, .null, .null, .null, .int 0, .int 0, .int 0, .int 0, .int 0, .int 0, .null, .null]) (C := RX9) (T := TX9) (N := 30) hx hb hts i_X9 tyX9 tyX9_ok hown (hts _ q_3) (hts _ q_4) (hts _ q_5) hK hP hD hS hA rfl (fun j hj => by rcases (show j = 0 ∨ j = 1 ∨ j = 2 ∨ j = 3 ∨ j = 4 ∨ j = 5 ∨ j = 6 ∨ j = 7 ∨ j = 8 ∨ j = 9 ∨ j = 10 ∨ j = 11 ∨ j = 12 ∨ j = 13 ∨ j = 14 ∨ j = 15 ∨ j = 16 ∨ j = 17 ∨ j = 18 ∨ j = 19 ∨ j = 20 ∨ j = 21 ∨ j = 22 ∨ j = 23 ∨ j = 24 ∨ j = 25 ∨ j = 26 ∨ j = 27 ∨ j = 28 ∨ j = 29 by omega) with rfl | rfl | rfl | rfl | rfl | rfl | rfl | rfl | rfl | rfl | rfl | rfl | rfl | rfl | rfl | rfl | rfl | rfl | rfl | rfl | rfl | rfl | rfl | rfl | rfl | rfl | rfl | rfl | rfl | rfl <;> rfl) (Nat.le_of_ble_eq_true rfl) (Nat.le_of_ble_eq_true rfl) dL_law_8 (fun y0 H hP hD hS => ?_)
  have hy : (litX D csX pw wp h0 q1 q2 q3 q4 q5 q6 q7 q8 q9 q10 q11 q12 q13 q14 q15 q16 q17 q18 q19 q20 q21 q22 q23 q24 q25 q26 q27 q28 q29 q30 q31 ++ [(y0, .inr (8, [.int 0, .int 0, .int 0, .int 0, .int 0, .null, .null, .int 0, .null, .null, .null, .null, .null, .int 0, .null, .null, .null, .int 0, .int 0, .null, .null, .null, .int 0, .int 0, .int 0, .int 0, .int 0, .int 0, .null, .null]))])[32]? = some (y0, .inr (8, [.int 0, .int 0, .int 0, .int 0, .int 0, .null, .null, .int 0, .null, .null, .null, .null, .null, .int 0, .null, .null, .null, .int 0, .int 0, .null, .null, .null, .int 0, .int 0, .int 0, .int 0, .int 0, .int 0, .null, .null])) := by rw [List.getElem?_append_right (by rw [show (litX D csX pw wp h0 q1 q2 q3 q4 q5 q6 q7 q8 q9 q10 q11 q12 q13 q14 q15 q16 q17 q18 q19 q20 q21 q22 q23 q24 q25 q26 q27 q28 q29 q30 q31).length = 32 from rfl]; exact Nat.le_refl _)]; rfl
  have hyl : y0 < H.size := (hP 32 _ hy).lt
  have hyA : s.heap.size ≤ y0 := hD.2 32 _ hy
  refine lv_dup hx hb dL_law_11 rfl ?_
  have hFy : ∀ q, va_A [(y0, .inr (8, []))] H.size q → (fun q : Nat => s.heap.size ≤ q) q := fun q h => by
    rcases h with ⟨k, e, h⟩ | h
    · cases k with
      | zero => cases h; exact hyA
      | succ k => simp at h
    · exact Nat.le_trans hS.1 h
  refine va_callv (va_runI (As := []) (rest := [.ref y0]) ⟨hx, hb, hml, hown, hts⟩ (nX9_init l D csM H.size y0 hyl) (cwI 0 hts (gN q_105) rfl rfl rfl (hts _ q_5) (hts _ q_103) (hts _ q_104) rfl (by decide +kernel) ⟨Nat.le_of_ble_eq_true rfl, Nat.le_of_ble_eq_true rfl⟩) ⟨fun a U g mk q => by
    obtain ⟨q0, q1, q2, q3⟩ := q
    exact ⟨q0, q1, q2, mEnv_call q3⟩, fun U hU hW => ⟨rfl, by rw [hU], by
    rw [hU]
    intro k q hq
    cases k with
    | zero => cases hq; exact hP 32 _ hy
    | succ k => simp at hq, mEnv_warm hW hME⟩⟩ rfl rfl hl.1 rfl (lv_room (Nat.le_of_ble_eq_true rfl)) dL_law_12 ⟨Nat.le_of_ble_eq_true rfl, Nat.le_of_ble_eq_true rfl⟩) hS (fun q _ h => hFy q h) hFy (fun _ t H1 locs ht1 hvm hw hB hz1 hk1 hS => ?_)
  obtain ⟨-, hPY⟩ := hB
  rw [ht1] at hPY
  have hiY : xInj 133 (mY D csM y0 H.size) := mY_inj hyl
  have hPD := va_join (wc := [(y0, .inr (8, [.int 0, .int 0, .int 0, .int 0, .int 0, .null, .null, .int 0, .null, .null, .null, .null, .null, .int 0, .null, .null, .null, .int 0, .int 0, .null, .null, .null, .int 0, .int 0, .int 0, .int 0, .int 0, .int 0, .null, .null]))]) (wr := litX D csX pw wp h0 q1 q2 q3 q4 q5 q6 q7 q8 q9 q10 q11 q12 q13 q14 q15 q16 q17 q18 q19 q20 q21 q22 q23 q24 q25 q26 q27 q28 q29 q30 q31) (w1 := wd 133 (mY D csM y0 H.size) (cM (mY D csM y0 H.size) S0m)) hP hD [32] (List.range 32) (by
      show [(litX D csX pw wp h0 q1 q2 q3 q4 q5 q6 q7 q8 q9 q10 q11 q12 q13 q14 q15 q16 q17 q18 q19 q20 q21 q22 q23 q24 q25 q26 q27 q28 q29 q30 q31 ++ [(y0, .inr (8, [.int 0, .int 0, .int 0, .int 0, .int 0, .null, .null, .int 0, .null, .null, .null, .null, .null, .int 0, .null, .null, .null, .int 0, .int 0, .null, .null, .null, .int 0, .int 0, .int 0, .int 0, .int 0, .int 0, .null, .null]))])[32]?] = _
      rw [hy]; rfl) (by rfl) (by decide) (by decide) (fun q h1 h2 => hk1 q h1 (fun h => h2 (va_Ach h))) (fun q h => hFy q (va_Ach h)) hPY (wd_D hiY (fun k _ => mY_in k))
  obtain ⟨hP, hD⟩ := hPD
  generalize hY0 : mY D csM y0 H.size = Y at *
  have hYD : Y.1 = D := by rw [← hY0]; rfl
  have hYb : xa Y 0 = y0 := by rw [← hY0]; rfl
  have hYc : Y.2.2 = csM := by rw [← hY0]; rfl
  generalize H1 = H at hP hS ⊢
  refine lv_astore_n (lv' := [(2, .ref y0), (1, .ref h0), (0, .ref b)]) hx hb dL_law_15 rfl hl (by decide) rfl (fun ls hl => ?_)
  refine lv_iconst (v := 1) hx hb dL_law_16 (by decide) ?_
  refine n_newa (X := (D, fun k => if k = 34 then pw else wp, csX)) (atype := .long) (ty := .long) (N' := 1) (a0 := (1, .inr (.inl (fun _ => 0)))) hx hb (hts _ q_6) rfl hK hP hD hS hA (fun _ => rfl) (by decide) (by decide) (by decide) (Nat.le_of_ble_eq_true rfl) (Nat.le_of_ble_eq_true rfl) dL_law_17 1 rfl (fun _ h => h) (fun qL H hP hD hS => ?_)
  refine lv_astore_n (lv' := [(3, .ref qL), (2, .ref y0), (1, .ref h0), (0, .ref b)]) hx hb dL_law_19 rfl hl (by decide) rfl (fun ls hl => ?_)
  refine lv_iconst (v := 1) hx hb dL_law_20 (by decide) ?_
  refine n_newa (X := (D, fun k => if k = 34 then pw else wp, csX)) (atype := .double) (ty := .double) (N' := 1) (a0 := (1, .inr (.inr (.inr (.inl (fun _ => 0)))))) hx hb (hts _ q_7) rfl hK hP hD hS hA (fun _ => rfl) (by decide) (by decide) (by decide) (Nat.le_of_ble_eq_true rfl) (Nat.le_of_ble_eq_true rfl) dL_law_21 3 rfl (fun _ h => h) (fun qD H hP hD hS => ?_)
  refine lv_astore (lv' := [(4, .ref qD), (3, .ref qL), (2, .ref y0), (1, .ref h0), (0, .ref b)]) hx hb dL_law_23 hl (by decide) rfl (fun ls hl => ?_)
  refine lv_iconst (v := 0) hx hb dL_law_25 (by decide) ?_
  refine lv_istore (lv' := [(5, .int 0), (4, .ref qD), (3, .ref qL), (2, .ref y0), (1, .ref h0), (0, .ref b)]) hx hb dL_law_26 hl (by decide) rfl (fun ls hl => ?_)
  obtain ⟨Z, hZ⟩ : ∃ Z : xG, Z = litZ D csX pw wp h0 q1 q2 q3 q4 q5 q6 q7 q8 q9 q10 q11 q12 q13 q14 q15 q16 q17 q18 q19 q20 q21 q22 q23 q24 q25 q26 q27 q28 q29 q30 q31 qL qD := ⟨_, rfl⟩
  generalize hws : litX D csX pw wp h0 q1 q2 q3 q4 q5 q6 q7 q8 q9 q10 q11 q12 q13 q14 q15 q16 q17 q18 q19 q20 q21 q22 q23 q24 q25 q26 q27 q28 q29 q30 q31 ++ wd 133 Y (cM Y S0m) ++ [(qL, .inl (xc (D, fun k => if k = 34 then pw else wp, csX) 1, 1, .inr (.inl (fun _ => 0))))] ++ [(qD, .inl (xc (D, fun k => if k = 34 then pw else wp, csX) 3, 1, .inr (.inr (.inr (.inl (fun _ => 0))))))] = ws at hP hD
  have l1 : (litX D csX pw wp h0 q1 q2 q3 q4 q5 q6 q7 q8 q9 q10 q11 q12 q13 q14 q15 q16 q17 q18 q19 q20 q21 q22 q23 q24 q25 q26 q27 q28 q29 q30 q31).length = 32 := rfl
  have l2 : (wd 133 Y (cM Y S0m)).length = 133 := wd_len
  have pX : ∀ i, i < 34 → ws[posX i]? = some (xa Z i, cX Z S0x i) := fun i hi => by
    rw [← hws]
    rcases Nat.lt_or_ge i 32 with h | h
    · have h5 := posX_lt i h
      rw [List.getElem?_append_left (by simp [l1, l2]; omega), List.getElem?_append_left (by simp [l1, l2]; omega), List.getElem?_append_left (by rw [l1]; exact h5), hZ]
      exact lit_at i h
    · rcases (show i = 32 ∨ i = 33 by omega) with rfl | rfl
      · rw [show posX 32 = 165 from rfl, List.getElem?_append_left (by simp [l1, l2]), List.getElem?_append_right (by simp [l1, l2])]
        simp only [List.length_append, l1, l2]
        subst hZ
        rfl
      · rw [show posX 33 = 166 from rfl, List.getElem?_append_right (by simp [l1, l2])]
        simp only [List.length_append, l1, l2]
        subst hZ
        rfl
  have pY : ∀ j, j < 133 → ws[32 + j]? = some (xa Y j, cM Y S0m j) := fun j hj => by
    rw [← hws, List.getElem?_append_left (by simp [l1, l2]; omega), List.getElem?_append_left (by simp [l1, l2]; omega), List.getElem?_append_right (by rw [l1]; omega), l1, show 32 + j - 32 = j by omega, wd_at hj]
  have hZD : Z.1 = D := by rw [hZ]; rfl
  have hiZ : xInj 34 Z := fun i j hi hj he => by
    exact posX_inj i hi j hj (hD.1 _ _ _ _ (pX i hi) (pX j hj) he)
  have hdis : ∀ i j : Nat, i < 34 → j < 133 → xa Z i ≠ xa Y j := fun i j hi hj he => by
    have h7 := hD.1 _ _ _ _ (pX i hi) (pY j hj) he
    rcases posX_out i hi with h | h <;> omega
  have hCL : LC Z Y (fun q : Nat => s.heap.size ≤ q) b L xs p s m #[Value.ref b] c := ⟨hx, hb, hml, hown, hts, hEX Z hZD (by rw [hZ]; rfl) (by rw [hZ]; rfl) (by rw [hZ]; rfl), ⟨by
    have h1 := hME.1
    rw [hYD]
    obtain ⟨Y1, Y2, Y3⟩ := Y
    cases hYc
    exact h1, trivial⟩, hiZ, hiY, hdis, fun q hq => va_Nc.of (hf _ (fl_nc q hq)), hXs, hbl, hbA, fun q h => h⟩
  have hLW : LW Z Y (fun q : Nat => s.heap.size ≤ q) s.heap S0x S0m H locs := ⟨⟨fun k q hq => by
    obtain ⟨h1, rfl⟩ := wd_in hq
    rw [hZD]
    exact hP _ _ (pX k h1), wd_D hiZ (fun k hk => hD.2 _ _ (pX k hk)), hS⟩, fun k q hq => by
    obtain ⟨h1, rfl⟩ := wd_in hq
    rw [hYD]
    exact hP _ _ (pY k h1), wd_D hiY (fun k hk => hD.2 _ _ (pY k hk))⟩
  have e0 : xa Z 0 = h0 := by rw [hZ]; rfl
  have e1 : xa Z 32 = qL := by rw [hZ]; rfl
  have e2 : xa Z 33 = qD := by rw [hZ]; rfl
  refine law_loop hlt hCL hL Inv hInv hEnd 513 0 0 S0x S0m H locs ls _ _ (by decide) (by decide) rfl (Nat.le_of_ble_eq_true rfl) (Nat.le_of_ble_eq_true rfl) hI0 hLW ?_
  rw [e0, e1, e2, hYb]
  exact lv_sub hl [5, 4, 3, 2, 1, 0] rfl
