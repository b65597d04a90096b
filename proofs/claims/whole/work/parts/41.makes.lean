/-! The class's constructors (printed by wip/whole/gen/ctor.py). -/
def rX1_init : Room := { frames := 1, cells := 3, slots := 108, locals := 20 }
set_option maxHeartbeats 40000000 in
set_option maxRecDepth 100000 in
theorem nX1_init (l : Launch) (X : xG) (sz : Nat) (h0 : Nat) : nM l yX1_init (Cond.code yX1_init cX1_init 1 none :: WS) rX1_init X [(h0, .inr (0, [.int 0, .int 0, .int 0, .int 0, .null, .null, .null]))] sz [.ref h0] (fun H => ∃ q1 q2 q3 : Nat, va_P X.1 vwCl [(h0, .inr (0, [.int 1, .int 2, .int 0, .int 0, .ref q1, .ref q2, .ref q3])), (q1, .inl (xc X 0, 96, .inl (fun _ => 0))), (q2, .inl (xc X 0, 6, .inl (fun _ => 0))), (q3, .inl (xc X 2, 6, .inl (fun _ => 0)))] H ∧ va_D (va_A [(h0, .inr (0, [.int 0, .int 0, .int 0, .int 0, .null, .null, .null]))] sz) [(h0, .inr (0, [.int 1, .int 2, .int 0, .int 0, .ref q1, .ref q2, .ref q3])), (q1, .inl (xc X 0, 96, .inl (fun _ => 0))), (q2, .inl (xc X 0, 6, .inl (fun _ => 0))), (q3, .inl (xc X 2, 6, .inl (fun _ => 0)))]) 3 108 := by
  refine nM.of (cc := cX1_init) (maxL := 1) (own := RX1) (by decide) rfl rfl rfl (Nat.le_of_ble_eq_true rfl) ?_
  intro p e s m args below meth c ls Q hsz hC hin hQ hP hD hS hl
  subst hsz
  obtain ⟨hx, hb, hml, hown, hts, hE⟩ := id hC
  have hK := hE.1
  have hA : ∀ q : Nat, s.heap.size ≤ q → va_A [(h0, .inr (0, [.int 0, .int 0, .int 0, .int 0, .null, .null, .null]))] s.heap.size q := fun q h => Or.inr h
  generalize hAe : va_A [(h0, .inr (0, [.int 0, .int 0, .int 0, .int 0, .null, .null, .null]))] s.heap.size = A at hD hS hA hQ hC hE ⊢
  have hl : lv_has ls 1 [(0, .ref h0)] := hl
  have lo1 : (Cond.methodLink RX1 3 objectInit).before args s = true := hts _ q_48
  have lo2 : (Cond.instanceMethod objectInit).before args s = true := hts _ q_13
  have lo3 : (Cond.code objectInit ⟨#[0xb1]⟩ 1 none).before args s = true := hts _ q_14
  have lf_9 : (Cond.fieldLink RX1 9 "GrammarAmbiguity$Grammar" "nonterminals" "I").before args s = true := hts _ q_49
  have lf_15 : (Cond.fieldLink RX1 15 "GrammarAmbiguity$Grammar" "terminals" "I").before args s = true := hts _ q_50
  have lf_18 : (Cond.fieldLink RX1 18 "GrammarAmbiguity$Grammar" "start" "I").before args s = true := hts _ q_51
  have lf_21 : (Cond.fieldLink RX1 21 "GrammarAmbiguity$Grammar" "productions" "I").before args s = true := hts _ q_52
  have la_int : (Cond.arrayClass .int).before args s = true := hts _ q_53
  have lf_24 : (Cond.fieldLink RX1 24 "GrammarAmbiguity$Grammar" "symbols" "[I").before args s = true := hts _ q_54
  have lf_28 : (Cond.fieldLink RX1 28 "GrammarAmbiguity$Grammar" "shortest" "[I").before args s = true := hts _ q_55
  have la_boolean : (Cond.arrayClass .boolean).before args s = true := hts _ q_56
  have lf_31 : (Cond.fieldLink RX1 31 "GrammarAmbiguity$Grammar" "reached" "[Z").before args s = true := hts _ q_57
  refine lv_aload_n hx hb dX1_init_0 rfl (lv_at hl 0 rfl) ?_
  refine W.objInit hx hb hown lo1 lo2 lo3 rfl (by rw [hml]; exact hl.1) rfl dX1_init_1 (Nat.le_of_ble_eq_true rfl) (Nat.le_of_ble_eq_true rfl) ?_
  refine W.eq (g2 := F0 m 4 ls []) rfl ?_
  refine lv_aload_n hx hb dX1_init_4 rfl (lv_at hl 0 rfl) ?_
  refine lv_iconst (v := 1) hx hb dX1_init_5 (by decide) ?_
  refine va_put (D := X.1) (ci := 0) (v := .int 1) (ty := .int) (C := RX1) (T := TX1) (N := 7) hx hb hts i_X1 tyX1 tyX1_ok nmX1 hown hK hP hD hS 0 rfl rfl 0 (by decide) lf_9 (fun _ h9 => h9) rfl (by decide +kernel) rfl rfl (Nat.le_of_ble_eq_true rfl) dX1_init_6 (fun H locs hP hD hS => ?_)
  have hP : va_P X.1 vwCl [(h0, .inr (0, [.int 1, .int 0, .int 0, .int 0, .null, .null, .null]))] H := hP
  have hD : va_D A [(h0, .inr (0, [.int 1, .int 0, .int 0, .int 0, .null, .null, .null]))] := hD
  refine lv_aload_n hx hb dX1_init_9 rfl (lv_at hl 0 rfl) ?_
  refine lv_iconst (v := 2) hx hb dX1_init_10 (by decide) ?_
  refine va_put (D := X.1) (ci := 0) (v := .int 2) (ty := .int) (C := RX1) (T := TX1) (N := 7) hx hb hts i_X1 tyX1 tyX1_ok nmX1 hown hK hP hD hS 0 rfl rfl 1 (by decide) lf_15 (fun _ h9 => h9) rfl (by decide +kernel) rfl rfl (Nat.le_of_ble_eq_true rfl) dX1_init_11 (fun H locs hP hD hS => ?_)
  have hP : va_P X.1 vwCl [(h0, .inr (0, [.int 1, .int 2, .int 0, .int 0, .null, .null, .null]))] H := hP
  have hD : va_D A [(h0, .inr (0, [.int 1, .int 2, .int 0, .int 0, .null, .null, .null]))] := hD
  refine lv_aload_n hx hb dX1_init_14 rfl (lv_at hl 0 rfl) ?_
  refine lv_iconst (v := 0) hx hb dX1_init_15 (by decide) ?_
  refine va_put (D := X.1) (ci := 0) (v := .int 0) (ty := .int) (C := RX1) (T := TX1) (N := 7) hx hb hts i_X1 tyX1 tyX1_ok nmX1 hown hK hP hD hS 0 rfl rfl 2 (by decide) lf_18 (fun _ h9 => h9) rfl (by decide +kernel) rfl rfl (Nat.le_of_ble_eq_true rfl) dX1_init_16 (fun H locs hP hD hS => ?_)
  have hP : va_P X.1 vwCl [(h0, .inr (0, [.int 1, .int 2, .int 0, .int 0, .null, .null, .null]))] H := hP
  have hD : va_D A [(h0, .inr (0, [.int 1, .int 2, .int 0, .int 0, .null, .null, .null]))] := hD
  refine lv_aload_n hx hb dX1_init_19 rfl (lv_at hl 0 rfl) ?_
  refine lv_iconst (v := 0) hx hb dX1_init_20 (by decide) ?_
  refine va_put (D := X.1) (ci := 0) (v := .int 0) (ty := .int) (C := RX1) (T := TX1) (N := 7) hx hb hts i_X1 tyX1 tyX1_ok nmX1 hown hK hP hD hS 0 rfl rfl 3 (by decide) lf_21 (fun _ h9 => h9) rfl (by decide +kernel) rfl rfl (Nat.le_of_ble_eq_true rfl) dX1_init_21 (fun H locs hP hD hS => ?_)
  have hP : va_P X.1 vwCl [(h0, .inr (0, [.int 1, .int 2, .int 0, .int 0, .null, .null, .null]))] H := hP
  have hD : va_D A [(h0, .inr (0, [.int 1, .int 2, .int 0, .int 0, .null, .null, .null]))] := hD
  refine lv_aload_n hx hb dX1_init_24 rfl (lv_at hl 0 rfl) ?_
  refine lv_bipush (v := 96) hx hb dX1_init_25 (by decide) ?_
  refine n_newa (atype := .int) (ty := .int) (N' := 96) (a0 := (96, .inl (fun _ => 0))) (cI := xc X 0) hx hb la_int rfl hK hP hD hS hA (fun _ => rfl) (by decide) (by decide) (Nat.le_of_ble_eq_true rfl) (Nat.le_of_ble_eq_true rfl) (Nat.le_of_ble_eq_true rfl) dX1_init_27 0 rfl (fun _ h => h) (fun q1 H hP hD hS => ?_)
  have hP : va_P X.1 vwCl [(h0, .inr (0, [.int 1, .int 2, .int 0, .int 0, .null, .null, .null])), (q1, .inl (xc X 0, 96, .inl (fun _ => 0)))] H := hP
  have hD : va_D A [(h0, .inr (0, [.int 1, .int 2, .int 0, .int 0, .null, .null, .null])), (q1, .inl (xc X 0, 96, .inl (fun _ => 0)))] := hD
  refine va_putF (D := X.1) (ci := 0) (v := .ref q1) (ty := .array .int) (C := RX1) (T := TX1) (N := 7) hx hb hts i_X1 tyX1 tyX1_ok nmX1 hown hK hP hD hS 0 rfl rfl 4 (by decide) lf_24 (fun _ h9 => h9) rfl hin rfl (by decide +kernel) rfl rfl (Nat.le_of_ble_eq_true rfl) dX1_init_29 (fun H locs hP hD hS => ?_)
  have hP : va_P X.1 vwCl [(h0, .inr (0, [.int 1, .int 2, .int 0, .int 0, .ref q1, .null, .null])), (q1, .inl (xc X 0, 96, .inl (fun _ => 0)))] H := hP
  have hD : va_D A [(h0, .inr (0, [.int 1, .int 2, .int 0, .int 0, .ref q1, .null, .null])), (q1, .inl (xc X 0, 96, .inl (fun _ => 0)))] := hD
  refine lv_aload_n hx hb dX1_init_32 rfl (lv_at hl 0 rfl) ?_
  refine lv_bipush (v := 6) hx hb dX1_init_33 (by decide) ?_
  refine n_newa (atype := .int) (ty := .int) (N' := 6) (a0 := (6, .inl (fun _ => 0))) (cI := xc X 0) hx hb la_int rfl hK hP hD hS hA (fun _ => rfl) (by decide) (by decide) (Nat.le_of_ble_eq_true rfl) (Nat.le_of_ble_eq_true rfl) (Nat.le_of_ble_eq_true rfl) dX1_init_35 0 rfl (fun _ h => h) (fun q2 H hP hD hS => ?_)
  have hP : va_P X.1 vwCl [(h0, .inr (0, [.int 1, .int 2, .int 0, .int 0, .ref q1, .null, .null])), (q1, .inl (xc X 0, 96, .inl (fun _ => 0))), (q2, .inl (xc X 0, 6, .inl (fun _ => 0)))] H := hP
  have hD : va_D A [(h0, .inr (0, [.int 1, .int 2, .int 0, .int 0, .ref q1, .null, .null])), (q1, .inl (xc X 0, 96, .inl (fun _ => 0))), (q2, .inl (xc X 0, 6, .inl (fun _ => 0)))] := hD
  refine va_putF (D := X.1) (ci := 0) (v := .ref q2) (ty := .array .int) (C := RX1) (T := TX1) (N := 7) hx hb hts i_X1 tyX1 tyX1_ok nmX1 hown hK hP hD hS 0 rfl rfl 5 (by decide) lf_28 (fun _ h9 => h9) rfl hin rfl (by decide +kernel) rfl rfl (Nat.le_of_ble_eq_true rfl) dX1_init_37 (fun H locs hP hD hS => ?_)
  have hP : va_P X.1 vwCl [(h0, .inr (0, [.int 1, .int 2, .int 0, .int 0, .ref q1, .ref q2, .null])), (q1, .inl (xc X 0, 96, .inl (fun _ => 0))), (q2, .inl (xc X 0, 6, .inl (fun _ => 0)))] H := hP
  have hD : va_D A [(h0, .inr (0, [.int 1, .int 2, .int 0, .int 0, .ref q1, .ref q2, .null])), (q1, .inl (xc X 0, 96, .inl (fun _ => 0))), (q2, .inl (xc X 0, 6, .inl (fun _ => 0)))] := hD
  refine lv_aload_n hx hb dX1_init_40 rfl (lv_at hl 0 rfl) ?_
  refine lv_bipush (v := 6) hx hb dX1_init_41 (by decide) ?_
  refine n_newa (atype := .boolean) (ty := .boolean) (N' := 6) (a0 := (6, .inl (fun _ => 0))) (cI := xc X 2) hx hb la_boolean rfl hK hP hD hS hA (fun _ => rfl) (by decide) (by decide) (Nat.le_of_ble_eq_true rfl) (Nat.le_of_ble_eq_true rfl) (Nat.le_of_ble_eq_true rfl) dX1_init_43 2 rfl (fun _ h => h) (fun q3 H hP hD hS => ?_)
  have hP : va_P X.1 vwCl [(h0, .inr (0, [.int 1, .int 2, .int 0, .int 0, .ref q1, .ref q2, .null])), (q1, .inl (xc X 0, 96, .inl (fun _ => 0))), (q2, .inl (xc X 0, 6, .inl (fun _ => 0))), (q3, .inl (xc X 2, 6, .inl (fun _ => 0)))] H := hP
  have hD : va_D A [(h0, .inr (0, [.int 1, .int 2, .int 0, .int 0, .ref q1, .ref q2, .null])), (q1, .inl (xc X 0, 96, .inl (fun _ => 0))), (q2, .inl (xc X 0, 6, .inl (fun _ => 0))), (q3, .inl (xc X 2, 6, .inl (fun _ => 0)))] := hD
  refine va_putF (D := X.1) (ci := 0) (v := .ref q3) (ty := .array .boolean) (C := RX1) (T := TX1) (N := 7) hx hb hts i_X1 tyX1 tyX1_ok nmX1 hown hK hP hD hS 0 rfl rfl 6 (by decide) lf_31 (fun _ h9 => h9) rfl hin rfl (by decide +kernel) rfl rfl (Nat.le_of_ble_eq_true rfl) dX1_init_45 (fun H locs hP hD hS => ?_)
  have hP : va_P X.1 vwCl [(h0, .inr (0, [.int 1, .int 2, .int 0, .int 0, .ref q1, .ref q2, .ref q3])), (q1, .inl (xc X 0, 96, .inl (fun _ => 0))), (q2, .inl (xc X 0, 6, .inl (fun _ => 0))), (q3, .inl (xc X 2, 6, .inl (fun _ => 0)))] H := hP
  have hD : va_D A [(h0, .inr (0, [.int 1, .int 2, .int 0, .int 0, .ref q1, .ref q2, .ref q3])), (q1, .inl (xc X 0, 96, .inl (fun _ => 0))), (q2, .inl (xc X 0, 6, .inl (fun _ => 0))), (q3, .inl (xc X 2, 6, .inl (fun _ => 0)))] := hD
  exact hQ _ _ _ _ _ _ ⟨q1, q2, q3, hP, hD⟩ hS dX1_init_48 (Nat.le_of_ble_eq_true rfl) (Nat.le_of_ble_eq_true rfl)
def rX6_init : Room := { frames := 1, cells := 1, slots := 8, locals := 20 }
set_option maxHeartbeats 40000000 in
set_option maxRecDepth 100000 in
theorem nX6_init (l : Launch) (X : xG) (sz : Nat) (h0 : Nat) : nM l yX6_init (Cond.code yX6_init cX6_init 1 none :: WS) rX6_init X [(h0, .inr (5, [.int 0, .null]))] sz [.ref h0] (fun H => ∃ q1 : Nat, va_P X.1 vwCl [(h0, .inr (5, [.int 0, .ref q1])), (q1, .inl (xc X 0, 8, .inl (fun _ => 0)))] H ∧ va_D (va_A [(h0, .inr (5, [.int 0, .null]))] sz) [(h0, .inr (5, [.int 0, .ref q1])), (q1, .inl (xc X 0, 8, .inl (fun _ => 0)))]) 1 8 := by
  refine nM.of (cc := cX6_init) (maxL := 1) (own := RX6) (by decide) rfl rfl rfl (Nat.le_of_ble_eq_true rfl) ?_
  intro p e s m args below meth c ls Q hsz hC hin hQ hP hD hS hl
  subst hsz
  obtain ⟨hx, hb, hml, hown, hts, hE⟩ := id hC
  have hK := hE.1
  have hA : ∀ q : Nat, s.heap.size ≤ q → va_A [(h0, .inr (5, [.int 0, .null]))] s.heap.size q := fun q h => Or.inr h
  generalize hAe : va_A [(h0, .inr (5, [.int 0, .null]))] s.heap.size = A at hD hS hA hQ hC hE ⊢
  have hl : lv_has ls 1 [(0, .ref h0)] := hl
  have lo1 : (Cond.methodLink RX6 3 objectInit).before args s = true := hts _ q_60
  have lo2 : (Cond.instanceMethod objectInit).before args s = true := hts _ q_13
  have lo3 : (Cond.code objectInit ⟨#[0xb1]⟩ 1 none).before args s = true := hts _ q_14
  have lf_9 : (Cond.fieldLink RX6 9 "GrammarAmbiguity$Word" "length" "I").before args s = true := hts _ q_61
  have la_int : (Cond.arrayClass .int).before args s = true := hts _ q_53
  have lf_15 : (Cond.fieldLink RX6 15 "GrammarAmbiguity$Word" "letters" "[I").before args s = true := hts _ q_62
  refine lv_aload_n hx hb dX6_init_0 rfl (lv_at hl 0 rfl) ?_
  refine W.objInit hx hb hown lo1 lo2 lo3 rfl (by rw [hml]; exact hl.1) rfl dX6_init_1 (Nat.le_of_ble_eq_true rfl) (Nat.le_of_ble_eq_true rfl) ?_
  refine W.eq (g2 := F0 m 4 ls []) rfl ?_
  refine lv_aload_n hx hb dX6_init_4 rfl (lv_at hl 0 rfl) ?_
  refine lv_iconst (v := 0) hx hb dX6_init_5 (by decide) ?_
  refine va_put (D := X.1) (ci := 5) (v := .int 0) (ty := .int) (C := RX6) (T := TX6) (N := 2) hx hb hts i_X6 tyX6 tyX6_ok nmX6 hown hK hP hD hS 0 rfl rfl 0 (by decide) lf_9 (fun _ h9 => h9) rfl (by decide +kernel) rfl rfl (Nat.le_of_ble_eq_true rfl) dX6_init_6 (fun H locs hP hD hS => ?_)
  have hP : va_P X.1 vwCl [(h0, .inr (5, [.int 0, .null]))] H := hP
  have hD : va_D A [(h0, .inr (5, [.int 0, .null]))] := hD
  refine lv_aload_n hx hb dX6_init_9 rfl (lv_at hl 0 rfl) ?_
  refine lv_bipush (v := 8) hx hb dX6_init_10 (by decide) ?_
  refine n_newa (atype := .int) (ty := .int) (N' := 8) (a0 := (8, .inl (fun _ => 0))) (cI := xc X 0) hx hb la_int rfl hK hP hD hS hA (fun _ => rfl) (by decide) (by decide) (Nat.le_of_ble_eq_true rfl) (Nat.le_of_ble_eq_true rfl) (Nat.le_of_ble_eq_true rfl) dX6_init_12 0 rfl (fun _ h => h) (fun q1 H hP hD hS => ?_)
  have hP : va_P X.1 vwCl [(h0, .inr (5, [.int 0, .null])), (q1, .inl (xc X 0, 8, .inl (fun _ => 0)))] H := hP
  have hD : va_D A [(h0, .inr (5, [.int 0, .null])), (q1, .inl (xc X 0, 8, .inl (fun _ => 0)))] := hD
  refine va_putF (D := X.1) (ci := 5) (v := .ref q1) (ty := .array .int) (C := RX6) (T := TX6) (N := 2) hx hb hts i_X6 tyX6 tyX6_ok nmX6 hown hK hP hD hS 0 rfl rfl 1 (by decide) lf_15 (fun _ h9 => h9) rfl hin rfl (by decide +kernel) rfl rfl (Nat.le_of_ble_eq_true rfl) dX6_init_14 (fun H locs hP hD hS => ?_)
  have hP : va_P X.1 vwCl [(h0, .inr (5, [.int 0, .ref q1])), (q1, .inl (xc X 0, 8, .inl (fun _ => 0)))] H := hP
  have hD : va_D A [(h0, .inr (5, [.int 0, .ref q1])), (q1, .inl (xc X 0, 8, .inl (fun _ => 0)))] := hD
  exact hQ _ _ _ _ _ _ ⟨q1, hP, hD⟩ hS dX6_init_17 (Nat.le_of_ble_eq_true rfl) (Nat.le_of_ble_eq_true rfl)
def rX3_init : Room := { frames := 1, cells := 4, slots := 129, locals := 20 }
set_option maxHeartbeats 40000000 in
set_option maxRecDepth 100000 in
theorem nX3_init (l : Launch) (X : xG) (sz : Nat) (h0 : Nat) : nM l yX3_init (Cond.code yX3_init cX3_init 1 none :: WS) rX3_init X [(h0, .inr (2, [.null, .null, .null, .null]))] sz [.ref h0] (fun H => ∃ q1 q2 q3 q4 : Nat, va_P X.1 vwCl [(h0, .inr (2, [.ref q1, .ref q2, .ref q3, .ref q4])), (q1, .inl (xc X 2, 3, .inl (fun _ => 0))), (q2, .inl (xc X 2, 3, .inl (fun _ => 0))), (q3, .inl (xc X 0, 3, .inl (fun _ => 0))), (q4, .inl (xc X 0, 120, .inl (fun _ => 0)))] H ∧ va_D (va_A [(h0, .inr (2, [.null, .null, .null, .null]))] sz) [(h0, .inr (2, [.ref q1, .ref q2, .ref q3, .ref q4])), (q1, .inl (xc X 2, 3, .inl (fun _ => 0))), (q2, .inl (xc X 2, 3, .inl (fun _ => 0))), (q3, .inl (xc X 0, 3, .inl (fun _ => 0))), (q4, .inl (xc X 0, 120, .inl (fun _ => 0)))]) 4 129 := by
  refine nM.of (cc := cX3_init) (maxL := 1) (own := RX3) (by decide) rfl rfl rfl (Nat.le_of_ble_eq_true rfl) ?_
  intro p e s m args below meth c ls Q hsz hC hin hQ hP hD hS hl
  subst hsz
  obtain ⟨hx, hb, hml, hown, hts, hE⟩ := id hC
  have hK := hE.1
  have hA : ∀ q : Nat, s.heap.size ≤ q → va_A [(h0, .inr (2, [.null, .null, .null, .null]))] s.heap.size q := fun q h => Or.inr h
  generalize hAe : va_A [(h0, .inr (2, [.null, .null, .null, .null]))] s.heap.size = A at hD hS hA hQ hC hE ⊢
  have hl : lv_has ls 1 [(0, .ref h0)] := hl
  have lo1 : (Cond.methodLink RX3 3 objectInit).before args s = true := hts _ q_98
  have lo2 : (Cond.instanceMethod objectInit).before args s = true := hts _ q_13
  have lo3 : (Cond.code objectInit ⟨#[0xb1]⟩ 1 none).before args s = true := hts _ q_14
  have la_boolean : (Cond.arrayClass .boolean).before args s = true := hts _ q_56
  have lf_9 : (Cond.fieldLink RX3 9 "GrammarAmbiguity$Slots" "held" "[Z").before args s = true := hts _ q_99
  have lf_15 : (Cond.fieldLink RX3 15 "GrammarAmbiguity$Slots" "wide" "[Z").before args s = true := hts _ q_100
  have la_int : (Cond.arrayClass .int).before args s = true := hts _ q_53
  have lf_18 : (Cond.fieldLink RX3 18 "GrammarAmbiguity$Slots" "lengths" "[I").before args s = true := hts _ q_101
  have lf_22 : (Cond.fieldLink RX3 22 "GrammarAmbiguity$Slots" "elements" "[I").before args s = true := hts _ q_102
  refine lv_aload_n hx hb dX3_init_0 rfl (lv_at hl 0 rfl) ?_
  refine W.objInit hx hb hown lo1 lo2 lo3 rfl (by rw [hml]; exact hl.1) rfl dX3_init_1 (Nat.le_of_ble_eq_true rfl) (Nat.le_of_ble_eq_true rfl) ?_
  refine W.eq (g2 := F0 m 4 ls []) rfl ?_
  refine lv_aload_n hx hb dX3_init_4 rfl (lv_at hl 0 rfl) ?_
  refine lv_iconst (v := 3) hx hb dX3_init_5 (by decide) ?_
  refine n_newa (atype := .boolean) (ty := .boolean) (N' := 3) (a0 := (3, .inl (fun _ => 0))) (cI := xc X 2) hx hb la_boolean rfl hK hP hD hS hA (fun _ => rfl) (by decide) (by decide) (Nat.le_of_ble_eq_true rfl) (Nat.le_of_ble_eq_true rfl) (Nat.le_of_ble_eq_true rfl) dX3_init_6 2 rfl (fun _ h => h) (fun q1 H hP hD hS => ?_)
  have hP : va_P X.1 vwCl [(h0, .inr (2, [.null, .null, .null, .null])), (q1, .inl (xc X 2, 3, .inl (fun _ => 0)))] H := hP
  have hD : va_D A [(h0, .inr (2, [.null, .null, .null, .null])), (q1, .inl (xc X 2, 3, .inl (fun _ => 0)))] := hD
  refine va_putF (D := X.1) (ci := 2) (v := .ref q1) (ty := .array .boolean) (C := RX3) (T := TX3) (N := 4) hx hb hts i_X3 tyX3 tyX3_ok nmX3 hown hK hP hD hS 0 rfl rfl 0 (by decide) lf_9 (fun _ h9 => h9) rfl hin rfl (by decide +kernel) rfl rfl (Nat.le_of_ble_eq_true rfl) dX3_init_8 (fun H locs hP hD hS => ?_)
  have hP : va_P X.1 vwCl [(h0, .inr (2, [.ref q1, .null, .null, .null])), (q1, .inl (xc X 2, 3, .inl (fun _ => 0)))] H := hP
  have hD : va_D A [(h0, .inr (2, [.ref q1, .null, .null, .null])), (q1, .inl (xc X 2, 3, .inl (fun _ => 0)))] := hD
  refine lv_aload_n hx hb dX3_init_11 rfl (lv_at hl 0 rfl) ?_
  refine lv_iconst (v := 3) hx hb dX3_init_12 (by decide) ?_
  refine n_newa (atype := .boolean) (ty := .boolean) (N' := 3) (a0 := (3, .inl (fun _ => 0))) (cI := xc X 2) hx hb la_boolean rfl hK hP hD hS hA (fun _ => rfl) (by decide) (by decide) (Nat.le_of_ble_eq_true rfl) (Nat.le_of_ble_eq_true rfl) (Nat.le_of_ble_eq_true rfl) dX3_init_13 2 rfl (fun _ h => h) (fun q2 H hP hD hS => ?_)
  have hP : va_P X.1 vwCl [(h0, .inr (2, [.ref q1, .null, .null, .null])), (q1, .inl (xc X 2, 3, .inl (fun _ => 0))), (q2, .inl (xc X 2, 3, .inl (fun _ => 0)))] H := hP
  have hD : va_D A [(h0, .inr (2, [.ref q1, .null, .null, .null])), (q1, .inl (xc X 2, 3, .inl (fun _ => 0))), (q2, .inl (xc X 2, 3, .inl (fun _ => 0)))] := hD
  refine va_putF (D := X.1) (ci := 2) (v := .ref q2) (ty := .array .boolean) (C := RX3) (T := TX3) (N := 4) hx hb hts i_X3 tyX3 tyX3_ok nmX3 hown hK hP hD hS 0 rfl rfl 1 (by decide) lf_15 (fun _ h9 => h9) rfl hin rfl (by decide +kernel) rfl rfl (Nat.le_of_ble_eq_true rfl) dX3_init_15 (fun H locs hP hD hS => ?_)
  have hP : va_P X.1 vwCl [(h0, .inr (2, [.ref q1, .ref q2, .null, .null])), (q1, .inl (xc X 2, 3, .inl (fun _ => 0))), (q2, .inl (xc X 2, 3, .inl (fun _ => 0)))] H := hP
  have hD : va_D A [(h0, .inr (2, [.ref q1, .ref q2, .null, .null])), (q1, .inl (xc X 2, 3, .inl (fun _ => 0))), (q2, .inl (xc X 2, 3, .inl (fun _ => 0)))] := hD
  refine lv_aload_n hx hb dX3_init_18 rfl (lv_at hl 0 rfl) ?_
  refine lv_iconst (v := 3) hx hb dX3_init_19 (by decide) ?_
  refine n_newa (atype := .int) (ty := .int) (N' := 3) (a0 := (3, .inl (fun _ => 0))) (cI := xc X 0) hx hb la_int rfl hK hP hD hS hA (fun _ => rfl) (by decide) (by decide) (Nat.le_of_ble_eq_true rfl) (Nat.le_of_ble_eq_true rfl) (Nat.le_of_ble_eq_true rfl) dX3_init_20 0 rfl (fun _ h => h) (fun q3 H hP hD hS => ?_)
  have hP : va_P X.1 vwCl [(h0, .inr (2, [.ref q1, .ref q2, .null, .null])), (q1, .inl (xc X 2, 3, .inl (fun _ => 0))), (q2, .inl (xc X 2, 3, .inl (fun _ => 0))), (q3, .inl (xc X 0, 3, .inl (fun _ => 0)))] H := hP
  have hD : va_D A [(h0, .inr (2, [.ref q1, .ref q2, .null, .null])), (q1, .inl (xc X 2, 3, .inl (fun _ => 0))), (q2, .inl (xc X 2, 3, .inl (fun _ => 0))), (q3, .inl (xc X 0, 3, .inl (fun _ => 0)))] := hD
  refine va_putF (D := X.1) (ci := 2) (v := .ref q3) (ty := .array .int) (C := RX3) (T := TX3) (N := 4) hx hb hts i_X3 tyX3 tyX3_ok nmX3 hown hK hP hD hS 0 rfl rfl 2 (by decide) lf_18 (fun _ h9 => h9) rfl hin rfl (by decide +kernel) rfl rfl (Nat.le_of_ble_eq_true rfl) dX3_init_22 (fun H locs hP hD hS => ?_)
  have hP : va_P X.1 vwCl [(h0, .inr (2, [.ref q1, .ref q2, .ref q3, .null])), (q1, .inl (xc X 2, 3, .inl (fun _ => 0))), (q2, .inl (xc X 2, 3, .inl (fun _ => 0))), (q3, .inl (xc X 0, 3, .inl (fun _ => 0)))] H := hP
  have hD : va_D A [(h0, .inr (2, [.ref q1, .ref q2, .ref q3, .null])), (q1, .inl (xc X 2, 3, .inl (fun _ => 0))), (q2, .inl (xc X 2, 3, .inl (fun _ => 0))), (q3, .inl (xc X 0, 3, .inl (fun _ => 0)))] := hD
  refine lv_aload_n hx hb dX3_init_25 rfl (lv_at hl 0 rfl) ?_
  refine lv_bipush (v := 120) hx hb dX3_init_26 (by decide) ?_
  refine n_newa (atype := .int) (ty := .int) (N' := 120) (a0 := (120, .inl (fun _ => 0))) (cI := xc X 0) hx hb la_int rfl hK hP hD hS hA (fun _ => rfl) (by decide) (by decide) (Nat.le_of_ble_eq_true rfl) (Nat.le_of_ble_eq_true rfl) (Nat.le_of_ble_eq_true rfl) dX3_init_28 0 rfl (fun _ h => h) (fun q4 H hP hD hS => ?_)
  have hP : va_P X.1 vwCl [(h0, .inr (2, [.ref q1, .ref q2, .ref q3, .null])), (q1, .inl (xc X 2, 3, .inl (fun _ => 0))), (q2, .inl (xc X 2, 3, .inl (fun _ => 0))), (q3, .inl (xc X 0, 3, .inl (fun _ => 0))), (q4, .inl (xc X 0, 120, .inl (fun _ => 0)))] H := hP
  have hD : va_D A [(h0, .inr (2, [.ref q1, .ref q2, .ref q3, .null])), (q1, .inl (xc X 2, 3, .inl (fun _ => 0))), (q2, .inl (xc X 2, 3, .inl (fun _ => 0))), (q3, .inl (xc X 0, 3, .inl (fun _ => 0))), (q4, .inl (xc X 0, 120, .inl (fun _ => 0)))] := hD
  refine va_putF (D := X.1) (ci := 2) (v := .ref q4) (ty := .array .int) (C := RX3) (T := TX3) (N := 4) hx hb hts i_X3 tyX3 tyX3_ok nmX3 hown hK hP hD hS 0 rfl rfl 3 (by decide) lf_22 (fun _ h9 => h9) rfl hin rfl (by decide +kernel) rfl rfl (Nat.le_of_ble_eq_true rfl) dX3_init_30 (fun H locs hP hD hS => ?_)
  have hP : va_P X.1 vwCl [(h0, .inr (2, [.ref q1, .ref q2, .ref q3, .ref q4])), (q1, .inl (xc X 2, 3, .inl (fun _ => 0))), (q2, .inl (xc X 2, 3, .inl (fun _ => 0))), (q3, .inl (xc X 0, 3, .inl (fun _ => 0))), (q4, .inl (xc X 0, 120, .inl (fun _ => 0)))] H := hP
  have hD : va_D A [(h0, .inr (2, [.ref q1, .ref q2, .ref q3, .ref q4])), (q1, .inl (xc X 2, 3, .inl (fun _ => 0))), (q2, .inl (xc X 2, 3, .inl (fun _ => 0))), (q3, .inl (xc X 0, 3, .inl (fun _ => 0))), (q4, .inl (xc X 0, 120, .inl (fun _ => 0)))] := hD
  exact hQ _ _ _ _ _ _ ⟨q1, q2, q3, q4, hP, hD⟩ hS dX3_init_33 (Nat.le_of_ble_eq_true rfl) (Nat.le_of_ble_eq_true rfl)
def rX0_init_5 : Room := { frames := 1, cells := 1, slots := 60, locals := 20 }
set_option maxHeartbeats 40000000 in
set_option maxRecDepth 100000 in
theorem nX0_init_5 (l : Launch) (X : xG) (sz : Nat) (h0 g1 : Nat) : nM l yX0_init (Cond.code yX0_init cX0_init 3 none :: WS) rX0_init_5 X [(h0, .inr (1, [.null, .null, .int 0]))] sz [.ref h0, .ref g1, .int 10] (fun H => ∃ q1 : Nat, va_P X.1 vwCl [(h0, .inr (1, [.ref g1, .ref q1, .int 0])), (q1, .inl (xc X 1, 60, .inr (.inl (fun _ => 0))))] H ∧ va_D (va_A [(h0, .inr (1, [.null, .null, .int 0]))] sz) [(h0, .inr (1, [.ref g1, .ref q1, .int 0])), (q1, .inl (xc X 1, 60, .inr (.inl (fun _ => 0))))]) 1 60 := by
  refine nM.of (cc := cX0_init) (maxL := 3) (own := RX0) (by decide) rfl rfl rfl (Nat.le_of_ble_eq_true rfl) ?_
  intro p e s m args below meth c ls Q hsz hC hin hQ hP hD hS hl
  subst hsz
  obtain ⟨hx, hb, hml, hown, hts, hE⟩ := id hC
  have hK := hE.1
  have hA : ∀ q : Nat, s.heap.size ≤ q → va_A [(h0, .inr (1, [.null, .null, .int 0]))] s.heap.size q := fun q h => Or.inr h
  generalize hAe : va_A [(h0, .inr (1, [.null, .null, .int 0]))] s.heap.size = A at hD hS hA hQ hC hE ⊢
  have hl : lv_has ls 3 [(0, .ref h0), (1, .ref g1), (2, .int 10)] := hl
  have lo1 : (Cond.methodLink RX0 3 objectInit).before args s = true := hts _ q_68
  have lo2 : (Cond.instanceMethod objectInit).before args s = true := hts _ q_13
  have lo3 : (Cond.code objectInit ⟨#[0xb1]⟩ 1 none).before args s = true := hts _ q_14
  have lf_9 : (Cond.fieldLink RX0 9 "GrammarAmbiguity$Counts" "grammar" "LGrammarAmbiguity$Grammar;").before args s = true := hts _ q_69
  have la_long : (Cond.arrayClass .long).before args s = true := hts _ q_6
  have lf_15 : (Cond.fieldLink RX0 15 "GrammarAmbiguity$Counts" "rows" "[J").before args s = true := hts _ q_70
  have lf_19 : (Cond.fieldLink RX0 19 "GrammarAmbiguity$Counts" "filled" "I").before args s = true := hts _ q_71
  refine lv_aload_n hx hb dX0_init_0 rfl (lv_at hl 0 rfl) ?_
  refine W.objInit hx hb hown lo1 lo2 lo3 rfl (by rw [hml]; exact hl.1) rfl dX0_init_1 (Nat.le_of_ble_eq_true rfl) (Nat.le_of_ble_eq_true rfl) ?_
  refine W.eq (g2 := F0 m 4 ls []) rfl ?_
  refine lv_aload_n hx hb dX0_init_4 rfl (lv_at hl 0 rfl) ?_
  refine lv_aload_n hx hb dX0_init_5 rfl (lv_at hl 1 rfl) ?_
  refine va_putF (D := X.1) (ci := 1) (v := .ref g1) (ty := .object "GrammarAmbiguity$Grammar") (C := RX2) (T := TX2) (N := 3) hx hb hts i_X2 tyX2 tyX2_ok nmX2 hown hK hP hD hS 0 rfl rfl 0 (by decide) lf_9 (fun _ h9 => h9) rfl hin rfl (by decide +kernel) rfl rfl (Nat.le_of_ble_eq_true rfl) dX0_init_6 (fun H locs hP hD hS => ?_)
  have hP : va_P X.1 vwCl [(h0, .inr (1, [.ref g1, .null, .int 0]))] H := hP
  have hD : va_D A [(h0, .inr (1, [.ref g1, .null, .int 0]))] := hD
  refine lv_aload_n hx hb dX0_init_9 rfl (lv_at hl 0 rfl) ?_
  refine lv_iload_n hx hb dX0_init_10 rfl (lv_at hl 2 rfl) ?_
  refine lv_iconst (v := 1) hx hb dX0_init_11 (by decide) ?_
  refine lv_icmp_ge (tgt := 19) hx hb dX0_init_12 (by decide) (fun _ => ?_) (fun c9 => absurd (by decide) c9)
  refine lv_iload_n hx hb dX0_init_19 rfl (lv_at hl 2 rfl) ?_
  refine lv_bipush (v := 6) hx hb dX0_init_20 (by decide) ?_
  refine lv_imul hx hb dX0_init_22 ?_
  refine lv_topi (fun z_2212 ez_2212 => ?_)
  have ez_2212 : z_2212 = 60 := ez_2212.trans (by decide)
  subst ez_2212
  refine n_newa (atype := .long) (ty := .long) (N' := 60) (a0 := (60, .inr (.inl (fun _ => 0)))) (cI := xc X 1) hx hb la_long rfl hK hP hD hS hA (fun _ => rfl) (by decide) (by decide) (Nat.le_of_ble_eq_true rfl) (Nat.le_of_ble_eq_true rfl) (Nat.le_of_ble_eq_true rfl) dX0_init_23 1 rfl (fun _ h => h) (fun q1 H hP hD hS => ?_)
  have hP : va_P X.1 vwCl [(h0, .inr (1, [.ref g1, .null, .int 0])), (q1, .inl (xc X 1, 60, .inr (.inl (fun _ => 0))))] H := hP
  have hD : va_D A [(h0, .inr (1, [.ref g1, .null, .int 0])), (q1, .inl (xc X 1, 60, .inr (.inl (fun _ => 0))))] := hD
  refine va_putF (D := X.1) (ci := 1) (v := .ref q1) (ty := .array .long) (C := RX2) (T := TX2) (N := 3) hx hb hts i_X2 tyX2 tyX2_ok nmX2 hown hK hP hD hS 0 rfl rfl 1 (by decide) lf_15 (fun _ h9 => h9) rfl hin rfl (by decide +kernel) rfl rfl (Nat.le_of_ble_eq_true rfl) dX0_init_25 (fun H locs hP hD hS => ?_)
  have hP : va_P X.1 vwCl [(h0, .inr (1, [.ref g1, .ref q1, .int 0])), (q1, .inl (xc X 1, 60, .inr (.inl (fun _ => 0))))] H := hP
  have hD : va_D A [(h0, .inr (1, [.ref g1, .ref q1, .int 0])), (q1, .inl (xc X 1, 60, .inr (.inl (fun _ => 0))))] := hD
  refine lv_aload_n hx hb dX0_init_28 rfl (lv_at hl 0 rfl) ?_
  refine lv_iconst (v := 0) hx hb dX0_init_29 (by decide) ?_
  refine va_put (D := X.1) (ci := 1) (v := .int 0) (ty := .int) (C := RX2) (T := TX2) (N := 3) hx hb hts i_X2 tyX2 tyX2_ok nmX2 hown hK hP hD hS 0 rfl rfl 2 (by decide) lf_19 (fun _ h9 => h9) rfl (by decide +kernel) rfl rfl (Nat.le_of_ble_eq_true rfl) dX0_init_30 (fun H locs hP hD hS => ?_)
  have hP : va_P X.1 vwCl [(h0, .inr (1, [.ref g1, .ref q1, .int 0])), (q1, .inl (xc X 1, 60, .inr (.inl (fun _ => 0))))] H := hP
  have hD : va_D A [(h0, .inr (1, [.ref g1, .ref q1, .int 0])), (q1, .inl (xc X 1, 60, .inr (.inl (fun _ => 0))))] := hD
  exact hQ _ _ _ _ _ _ ⟨q1, hP, hD⟩ hS dX0_init_33 (Nat.le_of_ble_eq_true rfl) (Nat.le_of_ble_eq_true rfl)
def rX0_init_6 : Room := { frames := 1, cells := 1, slots := 384, locals := 20 }
set_option maxHeartbeats 40000000 in
set_option maxRecDepth 100000 in
theorem nX0_init_6 (l : Launch) (X : xG) (sz : Nat) (h0 g1 : Nat) : nM l yX0_init (Cond.code yX0_init cX0_init 3 none :: WS) rX0_init_6 X [(h0, .inr (3, [.null, .null, .int 0, .null]))] sz [.ref h0, .ref g1, .int 64] (fun H => ∃ q1 : Nat, va_P X.1 vwCl [(h0, .inr (3, [.ref g1, .ref q1, .int 0, .null])), (q1, .inl (xc X 1, 384, .inr (.inl (fun _ => 0))))] H ∧ va_D (va_A [(h0, .inr (3, [.null, .null, .int 0, .null]))] sz) [(h0, .inr (3, [.ref g1, .ref q1, .int 0, .null])), (q1, .inl (xc X 1, 384, .inr (.inl (fun _ => 0))))]) 1 384 := by
  refine nM.of (cc := cX0_init) (maxL := 3) (own := RX0) (by decide) rfl rfl rfl (Nat.le_of_ble_eq_true rfl) ?_
  intro p e s m args below meth c ls Q hsz hC hin hQ hP hD hS hl
  subst hsz
  obtain ⟨hx, hb, hml, hown, hts, hE⟩ := id hC
  have hK := hE.1
  have hA : ∀ q : Nat, s.heap.size ≤ q → va_A [(h0, .inr (3, [.null, .null, .int 0, .null]))] s.heap.size q := fun q h => Or.inr h
  generalize hAe : va_A [(h0, .inr (3, [.null, .null, .int 0, .null]))] s.heap.size = A at hD hS hA hQ hC hE ⊢
  have hl : lv_has ls 3 [(0, .ref h0), (1, .ref g1), (2, .int 64)] := hl
  have lo1 : (Cond.methodLink RX0 3 objectInit).before args s = true := hts _ q_68
  have lo2 : (Cond.instanceMethod objectInit).before args s = true := hts _ q_13
  have lo3 : (Cond.code objectInit ⟨#[0xb1]⟩ 1 none).before args s = true := hts _ q_14
  have lf_9 : (Cond.fieldLink RX0 9 "GrammarAmbiguity$Counts" "grammar" "LGrammarAmbiguity$Grammar;").before args s = true := hts _ q_69
  have la_long : (Cond.arrayClass .long).before args s = true := hts _ q_6
  have lf_15 : (Cond.fieldLink RX0 15 "GrammarAmbiguity$Counts" "rows" "[J").before args s = true := hts _ q_70
  have lf_19 : (Cond.fieldLink RX0 19 "GrammarAmbiguity$Counts" "filled" "I").before args s = true := hts _ q_71
  refine lv_aload_n hx hb dX0_init_0 rfl (lv_at hl 0 rfl) ?_
  refine W.objInit hx hb hown lo1 lo2 lo3 rfl (by rw [hml]; exact hl.1) rfl dX0_init_1 (Nat.le_of_ble_eq_true rfl) (Nat.le_of_ble_eq_true rfl) ?_
  refine W.eq (g2 := F0 m 4 ls []) rfl ?_
  refine lv_aload_n hx hb dX0_init_4 rfl (lv_at hl 0 rfl) ?_
  refine lv_aload_n hx hb dX0_init_5 rfl (lv_at hl 1 rfl) ?_
  refine va_putF (D := X.1) (ci := 3) (v := .ref g1) (ty := .object "GrammarAmbiguity$Grammar") (C := RX4) (T := TX4) (N := 4) hx hb hts i_X4 tyX4 tyX4_ok nmX4 hown hK hP hD hS 0 rfl rfl 0 (by decide) lf_9 (fun _ h9 => h9) rfl hin rfl (by decide +kernel) rfl rfl (Nat.le_of_ble_eq_true rfl) dX0_init_6 (fun H locs hP hD hS => ?_)
  have hP : va_P X.1 vwCl [(h0, .inr (3, [.ref g1, .null, .int 0, .null]))] H := hP
  have hD : va_D A [(h0, .inr (3, [.ref g1, .null, .int 0, .null]))] := hD
  refine lv_aload_n hx hb dX0_init_9 rfl (lv_at hl 0 rfl) ?_
  refine lv_iload_n hx hb dX0_init_10 rfl (lv_at hl 2 rfl) ?_
  refine lv_iconst (v := 1) hx hb dX0_init_11 (by decide) ?_
  refine lv_icmp_ge (tgt := 19) hx hb dX0_init_12 (by decide) (fun _ => ?_) (fun c9 => absurd (by decide) c9)
  refine lv_iload_n hx hb dX0_init_19 rfl (lv_at hl 2 rfl) ?_
  refine lv_bipush (v := 6) hx hb dX0_init_20 (by decide) ?_
  refine lv_imul hx hb dX0_init_22 ?_
  refine lv_topi (fun z_2212 ez_2212 => ?_)
  have ez_2212 : z_2212 = 384 := ez_2212.trans (by decide)
  subst ez_2212
  refine n_newa (atype := .long) (ty := .long) (N' := 384) (a0 := (384, .inr (.inl (fun _ => 0)))) (cI := xc X 1) hx hb la_long rfl hK hP hD hS hA (fun _ => rfl) (by decide) (by decide) (Nat.le_of_ble_eq_true rfl) (Nat.le_of_ble_eq_true rfl) (Nat.le_of_ble_eq_true rfl) dX0_init_23 1 rfl (fun _ h => h) (fun q1 H hP hD hS => ?_)
  have hP : va_P X.1 vwCl [(h0, .inr (3, [.ref g1, .null, .int 0, .null])), (q1, .inl (xc X 1, 384, .inr (.inl (fun _ => 0))))] H := hP
  have hD : va_D A [(h0, .inr (3, [.ref g1, .null, .int 0, .null])), (q1, .inl (xc X 1, 384, .inr (.inl (fun _ => 0))))] := hD
  refine va_putF (D := X.1) (ci := 3) (v := .ref q1) (ty := .array .long) (C := RX4) (T := TX4) (N := 4) hx hb hts i_X4 tyX4 tyX4_ok nmX4 hown hK hP hD hS 0 rfl rfl 1 (by decide) lf_15 (fun _ h9 => h9) rfl hin rfl (by decide +kernel) rfl rfl (Nat.le_of_ble_eq_true rfl) dX0_init_25 (fun H locs hP hD hS => ?_)
  have hP : va_P X.1 vwCl [(h0, .inr (3, [.ref g1, .ref q1, .int 0, .null])), (q1, .inl (xc X 1, 384, .inr (.inl (fun _ => 0))))] H := hP
  have hD : va_D A [(h0, .inr (3, [.ref g1, .ref q1, .int 0, .null])), (q1, .inl (xc X 1, 384, .inr (.inl (fun _ => 0))))] := hD
  refine lv_aload_n hx hb dX0_init_28 rfl (lv_at hl 0 rfl) ?_
  refine lv_iconst (v := 0) hx hb dX0_init_29 (by decide) ?_
  refine va_put (D := X.1) (ci := 3) (v := .int 0) (ty := .int) (C := RX4) (T := TX4) (N := 4) hx hb hts i_X4 tyX4 tyX4_ok nmX4 hown hK hP hD hS 0 rfl rfl 2 (by decide) lf_19 (fun _ h9 => h9) rfl (by decide +kernel) rfl rfl (Nat.le_of_ble_eq_true rfl) dX0_init_30 (fun H locs hP hD hS => ?_)
  have hP : va_P X.1 vwCl [(h0, .inr (3, [.ref g1, .ref q1, .int 0, .null])), (q1, .inl (xc X 1, 384, .inr (.inl (fun _ => 0))))] H := hP
  have hD : va_D A [(h0, .inr (3, [.ref g1, .ref q1, .int 0, .null])), (q1, .inl (xc X 1, 384, .inr (.inl (fun _ => 0))))] := hD
  exact hQ _ _ _ _ _ _ ⟨q1, hP, hD⟩ hS dX0_init_33 (Nat.le_of_ble_eq_true rfl) (Nat.le_of_ble_eq_true rfl)
def rX2_init : Room := { frames := 2, cells := 1, slots := 60, locals := 42 }
set_option maxHeartbeats 40000000 in
set_option maxRecDepth 100000 in
theorem nX2_init (l : Launch) (X : xG) (sz : Nat) (h0 g1 : Nat) : nM l yX2_init (Cond.code yX2_init cX2_init 2 none :: WS) rX2_init X [(h0, .inr (1, [.null, .null, .int 0]))] sz [.ref h0, .ref g1] (fun H => ∃ q1 : Nat, va_P X.1 vwCl [(h0, .inr (1, [.ref g1, .ref q1, .int 0])), (q1, .inl (xc X 1, 60, .inr (.inl (fun _ => 0))))] H ∧ va_D (va_A [(h0, .inr (1, [.null, .null, .int 0]))] sz) [(h0, .inr (1, [.ref g1, .ref q1, .int 0])), (q1, .inl (xc X 1, 60, .inr (.inl (fun _ => 0))))]) 1 60 := by
  refine nM.of (cc := cX2_init) (maxL := 2) (own := RX2) (by decide) rfl rfl rfl (Nat.le_of_ble_eq_true rfl) ?_
  intro p e s m args below meth c ls Q hsz hC hin hQ hP hD hS hl
  subst hsz
  obtain ⟨hx, hb, hml, hown, hts, hE⟩ := id hC
  have hK := hE.1
  have hA : ∀ q : Nat, s.heap.size ≤ q → va_A [(h0, .inr (1, [.null, .null, .int 0]))] s.heap.size q := fun q h => Or.inr h
  generalize hAe : va_A [(h0, .inr (1, [.null, .null, .int 0]))] s.heap.size = A at hD hS hA hQ hC hE ⊢
  have hl : lv_has ls 2 [(0, .ref h0), (1, .ref g1)] := hl
  have ln_3 : va_Nw (.methodLinkNest RX2 3 yX0_init "GrammarAmbiguity") s := hE.2.1 _ (by decide +kernel)
  refine lv_aload_n hx hb dX2_init_0 rfl (lv_at hl 0 rfl) ?_
  refine lv_aload_n hx hb dX2_init_1 rfl (lv_at hl 1 rfl) ?_
  refine lv_bipush (v := 10) hx hb dX2_init_2 (by decide) ?_
  have hPc := hP.sub (ws' := [(h0, .inr (1, [.null, .null, .int 0]))]) [0] rfl
  have hDc := hD.sub (ws' := [(h0, .inr (1, [.null, .null, .int 0]))]) [0] (by decide) rfl
  have hFc := va_free (wc := [(h0, .inr (1, [.null, .null, .int 0]))]) hD hS hA [0] rfl
  refine va_callv (va_runIN (As := [.ref g1, .int 10]) (rest := []) ⟨hx, hb, hml, hown, hts⟩ (nX0_init_5 l X _ h0 g1) ⟨va_cnB 2 hts (gN q_67) rfl rfl rfl ln_3 (hts _ q_66) (by decide +kernel) ⟨Nat.le_of_ble_eq_true rfl, Nat.le_of_ble_eq_true rfl⟩, rfl, hts _ q_65⟩ ⟨n_blind, n_pre hC hS hPc hDc hFc⟩ rfl rfl hl.1 rfl (lv_room (Nat.le_of_ble_eq_true rfl)) dX2_init_4 ⟨Nat.le_of_ble_eq_true rfl, Nat.le_of_ble_eq_true rfl⟩) hS (fun q _ h => hFc q h) hFc (fun _ t H1 locs ht hvm hw hB hz1 hk1 hS => ?_)
  obtain ⟨q1, hP1, hD1⟩ := hB
  rw [ht] at hP1
  obtain ⟨hP, hD⟩ := va_join (wr := []) (w1 := [(h0, .inr (1, [.ref g1, .ref q1, .int 0])), (q1, .inl (xc X 1, 60, .inr (.inl (fun _ => 0))))]) hP hD [0] [] rfl rfl (by decide) (by decide) hk1 hFc hP1 hD1
  generalize H1 = H at hP hS ⊢
  have hP : va_P X.1 vwCl [(h0, .inr (1, [.ref g1, .ref q1, .int 0])), (q1, .inl (xc X 1, 60, .inr (.inl (fun _ => 0))))] H := hP
  have hD : va_D A [(h0, .inr (1, [.ref g1, .ref q1, .int 0])), (q1, .inl (xc X 1, 60, .inr (.inl (fun _ => 0))))] := hD
  exact hQ _ _ _ _ _ _ ⟨q1, hP, hD⟩ hS dX2_init_7 (Nat.le_of_ble_eq_true rfl) (Nat.le_of_ble_eq_true rfl)
def rX4_init : Room := { frames := 2, cells := 1, slots := 384, locals := 42 }
set_option maxHeartbeats 40000000 in
set_option maxRecDepth 100000 in
theorem nX4_init (l : Launch) (X : xG) (sz : Nat) (h0 g1 w1 : Nat) : nM l yX4_init (Cond.code yX4_init cX4_init 3 none :: WS) rX4_init X [(h0, .inr (3, [.null, .null, .int 0, .null]))] sz [.ref h0, .ref g1, .ref w1] (fun H => ∃ q1 : Nat, va_P X.1 vwCl [(h0, .inr (3, [.ref g1, .ref q1, .int 0, .ref w1])), (q1, .inl (xc X 1, 384, .inr (.inl (fun _ => 0))))] H ∧ va_D (va_A [(h0, .inr (3, [.null, .null, .int 0, .null]))] sz) [(h0, .inr (3, [.ref g1, .ref q1, .int 0, .ref w1])), (q1, .inl (xc X 1, 384, .inr (.inl (fun _ => 0))))]) 1 384 := by
  refine nM.of (cc := cX4_init) (maxL := 3) (own := RX4) (by decide) rfl rfl rfl (Nat.le_of_ble_eq_true rfl) ?_
  intro p e s m args below meth c ls Q hsz hC hin hQ hP hD hS hl
  subst hsz
  obtain ⟨hx, hb, hml, hown, hts, hE⟩ := id hC
  have hK := hE.1
  have hA : ∀ q : Nat, s.heap.size ≤ q → va_A [(h0, .inr (3, [.null, .null, .int 0, .null]))] s.heap.size q := fun q h => Or.inr h
  generalize hAe : va_A [(h0, .inr (3, [.null, .null, .int 0, .null]))] s.heap.size = A at hD hS hA hQ hC hE ⊢
  have hl : lv_has ls 3 [(0, .ref h0), (1, .ref g1), (2, .ref w1)] := hl
  have ln_3 : va_Nw (.methodLinkNest RX4 3 yX0_init "GrammarAmbiguity") s := hE.2.1 _ (by decide +kernel)
  have lf_9 : (Cond.fieldLink RX4 9 "GrammarAmbiguity$SpanCounts" "word" "LGrammarAmbiguity$Word;").before args s = true := hts _ q_74
  refine lv_aload_n hx hb dX4_init_0 rfl (lv_at hl 0 rfl) ?_
  refine lv_aload_n hx hb dX4_init_1 rfl (lv_at hl 1 rfl) ?_
  refine lv_bipush (v := 64) hx hb dX4_init_2 (by decide) ?_
  have hPc := hP.sub (ws' := [(h0, .inr (3, [.null, .null, .int 0, .null]))]) [0] rfl
  have hDc := hD.sub (ws' := [(h0, .inr (3, [.null, .null, .int 0, .null]))]) [0] (by decide) rfl
  have hFc := va_free (wc := [(h0, .inr (3, [.null, .null, .int 0, .null]))]) hD hS hA [0] rfl
  refine va_callv (va_runIN (As := [.ref g1, .int 64]) (rest := []) ⟨hx, hb, hml, hown, hts⟩ (nX0_init_6 l X _ h0 g1) ⟨va_cnB 2 hts (gN q_67) rfl rfl rfl ln_3 (hts _ q_66) (by decide +kernel) ⟨Nat.le_of_ble_eq_true rfl, Nat.le_of_ble_eq_true rfl⟩, rfl, hts _ q_65⟩ ⟨n_blind, n_pre hC hS hPc hDc hFc⟩ rfl rfl hl.1 rfl (lv_room (Nat.le_of_ble_eq_true rfl)) dX4_init_4 ⟨Nat.le_of_ble_eq_true rfl, Nat.le_of_ble_eq_true rfl⟩) hS (fun q _ h => hFc q h) hFc (fun _ t H1 locs ht hvm hw hB hz1 hk1 hS => ?_)
  obtain ⟨q1, hP1, hD1⟩ := hB
  rw [ht] at hP1
  obtain ⟨hP, hD⟩ := va_join (wr := []) (w1 := [(h0, .inr (3, [.ref g1, .ref q1, .int 0, .null])), (q1, .inl (xc X 1, 384, .inr (.inl (fun _ => 0))))]) hP hD [0] [] rfl rfl (by decide) (by decide) hk1 hFc hP1 hD1
  generalize H1 = H at hP hS ⊢
  have hP : va_P X.1 vwCl [(h0, .inr (3, [.ref g1, .ref q1, .int 0, .null])), (q1, .inl (xc X 1, 384, .inr (.inl (fun _ => 0))))] H := hP
  have hD : va_D A [(h0, .inr (3, [.ref g1, .ref q1, .int 0, .null])), (q1, .inl (xc X 1, 384, .inr (.inl (fun _ => 0))))] := hD
  refine lv_aload_n hx hb dX4_init_7 rfl (lv_at hl 0 rfl) ?_
  refine lv_aload_n hx hb dX4_init_8 rfl (lv_at hl 2 rfl) ?_
  refine va_putF (D := X.1) (ci := 3) (v := .ref w1) (ty := .object "GrammarAmbiguity$Word") (C := RX4) (T := TX4) (N := 4) hx hb hts i_X4 tyX4 tyX4_ok nmX4 hown hK hP hD hS 0 rfl rfl 3 (by decide) lf_9 (fun _ h9 => h9) rfl hin rfl (by decide +kernel) rfl rfl (Nat.le_of_ble_eq_true rfl) dX4_init_9 (fun H locs hP hD hS => ?_)
  have hP : va_P X.1 vwCl [(h0, .inr (3, [.ref g1, .ref q1, .int 0, .ref w1])), (q1, .inl (xc X 1, 384, .inr (.inl (fun _ => 0))))] H := hP
  have hD : va_D A [(h0, .inr (3, [.ref g1, .ref q1, .int 0, .ref w1])), (q1, .inl (xc X 1, 384, .inr (.inl (fun _ => 0))))] := hD
  exact hQ _ _ _ _ _ _ ⟨q1, hP, hD⟩ hS dX4_init_12 (Nat.le_of_ble_eq_true rfl) (Nat.le_of_ble_eq_true rfl)
def rX7_init : Room := { frames := 1, cells := 1, slots := 10930, locals := 20 }
set_option maxHeartbeats 40000000 in
set_option maxRecDepth 100000 in
theorem nX7_init (l : Launch) (X : xG) (sz : Nat) (h0 g1 w1 : Nat) : nM l yX7_init (Cond.code yX7_init cX7_init 4 none :: WS) rX7_init X [(h0, .inr (6, [.null, .null, .null, .int 0]))] sz [.ref h0, .ref g1, .ref w1] (fun H => ∃ q1 : Nat, va_P X.1 vwCl [(h0, .inr (6, [.ref g1, .ref w1, .ref q1, .int 0])), (q1, .inl (xc X 1, 10930, .inr (.inl (vp_updL (vp_updL (vp_updL (vp_updL (fun _ => 0) (6559 : Int32).toNatClampNeg 1) (7653 : Int32).toNatClampNeg 1) (8747 : Int32).toNatClampNeg 1) (9837 : Int32).toNatClampNeg 1))))] H ∧ va_D (va_A [(h0, .inr (6, [.null, .null, .null, .int 0]))] sz) [(h0, .inr (6, [.ref g1, .ref w1, .ref q1, .int 0])), (q1, .inl (xc X 1, 10930, .inr (.inl (vp_updL (vp_updL (vp_updL (vp_updL (fun _ => 0) (6559 : Int32).toNatClampNeg 1) (7653 : Int32).toNatClampNeg 1) (8747 : Int32).toNatClampNeg 1) (9837 : Int32).toNatClampNeg 1))))]) 1 10930 := by
  refine nM.of (cc := cX7_init) (maxL := 4) (own := RX7) (by decide) rfl rfl rfl (Nat.le_of_ble_eq_true rfl) ?_
  intro p e s m args below meth c ls Q hsz hC hin hQ hP hD hS hl
  subst hsz
  obtain ⟨hx, hb, hml, hown, hts, hE⟩ := id hC
  have hK := hE.1
  have hA : ∀ q : Nat, s.heap.size ≤ q → va_A [(h0, .inr (6, [.null, .null, .null, .int 0]))] s.heap.size q := fun q h => Or.inr h
  generalize hAe : va_A [(h0, .inr (6, [.null, .null, .null, .int 0]))] s.heap.size = A at hD hS hA hQ hC hE ⊢
  have hl : lv_has ls 4 [(0, .ref h0), (1, .ref g1), (2, .ref w1)] := hl
  have lo1 : (Cond.methodLink RX7 3 objectInit).before args s = true := hts _ q_77
  have lo2 : (Cond.instanceMethod objectInit).before args s = true := hts _ q_13
  have lo3 : (Cond.code objectInit ⟨#[0xb1]⟩ 1 none).before args s = true := hts _ q_14
  have lf_9 : (Cond.fieldLink RX7 9 "GrammarAmbiguity$WordCounts" "grammar" "LGrammarAmbiguity$Grammar;").before args s = true := hts _ q_78
  have lf_15 : (Cond.fieldLink RX7 15 "GrammarAmbiguity$WordCounts" "lengths" "LGrammarAmbiguity$LengthCounts;").before args s = true := hts _ q_79
  have la_long : (Cond.arrayClass .long).before args s = true := hts _ q_6
  have lf_19 : (Cond.fieldLink RX7 19 "GrammarAmbiguity$WordCounts" "rows" "[J").before args s = true := hts _ q_80
  have lf_23 : (Cond.fieldLink RX7 23 "GrammarAmbiguity$WordCounts" "filled" "I").before args s = true := hts _ q_81
  have lf_27 : va_Nw (.fieldLinkNest RX7 27 "GrammarAmbiguity" "WORD_PLACES" "[I" "GrammarAmbiguity") s := hE.2.1 _ (by decide +kernel)
  refine lv_aload_n hx hb dX7_init_0 rfl (lv_at hl 0 rfl) ?_
  refine W.objInit hx hb hown lo1 lo2 lo3 rfl (by rw [hml]; exact hl.1) rfl dX7_init_1 (Nat.le_of_ble_eq_true rfl) (Nat.le_of_ble_eq_true rfl) ?_
  refine W.eq (g2 := F0 m 4 ls []) rfl ?_
  refine lv_aload_n hx hb dX7_init_4 rfl (lv_at hl 0 rfl) ?_
  refine lv_aload_n hx hb dX7_init_5 rfl (lv_at hl 1 rfl) ?_
  refine va_putF (D := X.1) (ci := 6) (v := .ref g1) (ty := .object "GrammarAmbiguity$Grammar") (C := RX7) (T := TX7) (N := 4) hx hb hts i_X7 tyX7 tyX7_ok nmX7 hown hK hP hD hS 0 rfl rfl 0 (by decide) lf_9 (fun _ h9 => h9) rfl hin rfl (by decide +kernel) rfl rfl (Nat.le_of_ble_eq_true rfl) dX7_init_6 (fun H locs hP hD hS => ?_)
  have hP : va_P X.1 vwCl [(h0, .inr (6, [.ref g1, .null, .null, .int 0]))] H := hP
  have hD : va_D A [(h0, .inr (6, [.ref g1, .null, .null, .int 0]))] := hD
  refine lv_aload_n hx hb dX7_init_9 rfl (lv_at hl 0 rfl) ?_
  refine lv_aload_n hx hb dX7_init_10 rfl (lv_at hl 2 rfl) ?_
  refine va_putF (D := X.1) (ci := 6) (v := .ref w1) (ty := .object "GrammarAmbiguity$LengthCounts") (C := RX7) (T := TX7) (N := 4) hx hb hts i_X7 tyX7 tyX7_ok nmX7 hown hK hP hD hS 0 rfl rfl 1 (by decide) lf_15 (fun _ h9 => h9) rfl hin rfl (by decide +kernel) rfl rfl (Nat.le_of_ble_eq_true rfl) dX7_init_11 (fun H locs hP hD hS => ?_)
  have hP : va_P X.1 vwCl [(h0, .inr (6, [.ref g1, .ref w1, .null, .int 0]))] H := hP
  have hD : va_D A [(h0, .inr (6, [.ref g1, .ref w1, .null, .int 0]))] := hD
  refine lv_aload_n hx hb dX7_init_14 rfl (lv_at hl 0 rfl) ?_
  refine lv_sipush (v := 10930) hx hb dX7_init_15 (by decide) ?_
  refine n_newa (atype := .long) (ty := .long) (N' := 10930) (a0 := (10930, .inr (.inl (fun _ => 0)))) (cI := xc X 1) hx hb la_long rfl hK hP hD hS hA (fun _ => rfl) (by decide) (by decide) (Nat.le_of_ble_eq_true rfl) (Nat.le_of_ble_eq_true rfl) (Nat.le_of_ble_eq_true rfl) dX7_init_18 1 rfl (fun _ h => h) (fun q1 H hP hD hS => ?_)
  have hP : va_P X.1 vwCl [(h0, .inr (6, [.ref g1, .ref w1, .null, .int 0])), (q1, .inl (xc X 1, 10930, .inr (.inl (fun _ => 0))))] H := hP
  have hD : va_D A [(h0, .inr (6, [.ref g1, .ref w1, .null, .int 0])), (q1, .inl (xc X 1, 10930, .inr (.inl (fun _ => 0))))] := hD
  refine va_putF (D := X.1) (ci := 6) (v := .ref q1) (ty := .array .long) (C := RX7) (T := TX7) (N := 4) hx hb hts i_X7 tyX7 tyX7_ok nmX7 hown hK hP hD hS 0 rfl rfl 2 (by decide) lf_19 (fun _ h9 => h9) rfl hin rfl (by decide +kernel) rfl rfl (Nat.le_of_ble_eq_true rfl) dX7_init_20 (fun H locs hP hD hS => ?_)
  have hP : va_P X.1 vwCl [(h0, .inr (6, [.ref g1, .ref w1, .ref q1, .int 0])), (q1, .inl (xc X 1, 10930, .inr (.inl (fun _ => 0))))] H := hP
  have hD : va_D A [(h0, .inr (6, [.ref g1, .ref w1, .ref q1, .int 0])), (q1, .inl (xc X 1, 10930, .inr (.inl (fun _ => 0))))] := hD
  refine lv_aload_n hx hb dX7_init_23 rfl (lv_at hl 0 rfl) ?_
  refine lv_iconst (v := 0) hx hb dX7_init_24 (by decide) ?_
  refine va_put (D := X.1) (ci := 6) (v := .int 0) (ty := .int) (C := RX7) (T := TX7) (N := 4) hx hb hts i_X7 tyX7 tyX7_ok nmX7 hown hK hP hD hS 0 rfl rfl 3 (by decide) lf_23 (fun _ h9 => h9) rfl (by decide +kernel) rfl rfl (Nat.le_of_ble_eq_true rfl) dX7_init_25 (fun H locs hP hD hS => ?_)
  have hP : va_P X.1 vwCl [(h0, .inr (6, [.ref g1, .ref w1, .ref q1, .int 0])), (q1, .inl (xc X 1, 10930, .inr (.inl (fun _ => 0))))] H := hP
  have hD : va_D A [(h0, .inr (6, [.ref g1, .ref w1, .ref q1, .int 0])), (q1, .inl (xc X 1, 10930, .inr (.inl (fun _ => 0))))] := hD
  refine lv_iconst (v := 0) hx hb dX7_init_28 (by decide) ?_
  refine lv_istore_n (lv' := [(3, .int 0), (0, .ref h0), (1, .ref g1), (2, .ref w1)]) hx hb dX7_init_29 rfl hl (by decide) rfl (fun ls hl => ?_)
  refine lv_iload_n hx hb dX7_init_30 rfl (lv_at hl 0 rfl) ?_
  refine lv_iconst (v := 3) hx hb dX7_init_31 (by decide) ?_
  refine lv_icmp_ge (tgt := 63) hx hb dX7_init_32 (by decide) (fun c9 => absurd c9 (by decide)) (fun _ => ?_)
  refine lv_aload_n hx hb dX7_init_35 rfl (lv_at hl 1 rfl) ?_
  refine va_get (D := X.1) (ci := 6) (v := .ref q1) (C := RX7) (T := TX7) (N := 4) hx hb hts i_X7 hown hK hP 0 rfl rfl 2 (by decide) lf_19 (fun _ h9 => h9) rfl dX7_init_36 ?_
  refine lv_bipush (v := 6) hx hb dX7_init_39 (by decide) ?_
  refine lv_iload_n hx hb dX7_init_41 rfl (lv_at hl 0 rfl) ?_
  refine lv_iadd hx hb dX7_init_42 ?_
  refine lv_topi (fun z_4225 ez_4225 => ?_)
  have ez_4225 : z_4225 = 6 := ez_4225.trans (by decide)
  subst ez_4225
  refine lv_sipush (v := 1093) hx hb dX7_init_43 (by decide) ?_
  refine lv_imul hx hb dX7_init_46 ?_
  refine lv_topi (fun z_4627 ez_4627 => ?_)
  have ez_4627 : z_4627 = 6558 := ez_4627.trans (by decide)
  subst ez_4627
  refine va_getsN hx hb hE.2.2.2.1.1 hS hown (va_Nw.use rfl lf_27) (fun _ h9 => h9) dX7_init_47 ?_
  refine lv_iconst (v := 1) hx hb dX7_init_50 (by decide) ?_
  refine va_ti (v := .int 1) hx hb hE.2.2.2.1.2 hS (by unfold vp_in; decide +kernel) rfl dX7_init_51 ?_
  refine lv_iadd hx hb dX7_init_52 ?_
  refine lv_topi (fun z_5231 ez_5231 => ?_)
  have ez_5231 : z_5231 = 6559 := ez_5231.trans (by decide)
  subst ez_5231
  refine lv_iload_n hx hb dX7_init_53 rfl (lv_at hl 0 rfl) ?_
  refine lv_iadd hx hb dX7_init_54 ?_
  refine lv_topi (fun z_5433 ez_5433 => ?_)
  have ez_5433 : z_5433 = 6559 := ez_5433.trans (by decide)
  subst ez_5433
  refine lv_lconst (v := 1) hx hb dX7_init_55 (by decide) ?_
  refine va_last hx hb hK hP hD hS 1 1 rfl rfl (by unfold vp_in; decide +kernel) dX7_init_56 (fun H locs hP hD hS => ?_)
  have hP : va_P X.1 vwCl [(h0, .inr (6, [.ref g1, .ref w1, .ref q1, .int 0])), (q1, .inl (xc X 1, 10930, .inr (.inl (vp_updL (fun _ => 0) (6559 : Int32).toNatClampNeg 1))))] H := hP
  have hD : va_D A [(h0, .inr (6, [.ref g1, .ref w1, .ref q1, .int 0])), (q1, .inl (xc X 1, 10930, .inr (.inl (vp_updL (fun _ => 0) (6559 : Int32).toNatClampNeg 1))))] := hD
  refine lv_iinc (v := 1) (lv' := [(3, .int 1), (0, .ref h0), (1, .ref g1), (2, .ref w1)]) hx hb dX7_init_57 hl (k := 0) rfl (by decide) (by decide) rfl (fun ls hl => ?_)
  refine lv_goto (tgt := 30) hx hb dX7_init_60 (by decide) ?_
  refine lv_iload_n hx hb dX7_init_30 rfl (lv_at hl 0 rfl) ?_
  refine lv_iconst (v := 3) hx hb dX7_init_31 (by decide) ?_
  refine lv_icmp_ge (tgt := 63) hx hb dX7_init_32 (by decide) (fun c9 => absurd c9 (by decide)) (fun _ => ?_)
  refine lv_aload_n hx hb dX7_init_35 rfl (lv_at hl 1 rfl) ?_
  refine va_get (D := X.1) (ci := 6) (v := .ref q1) (C := RX7) (T := TX7) (N := 4) hx hb hts i_X7 hown hK hP 0 rfl rfl 2 (by decide) lf_19 (fun _ h9 => h9) rfl dX7_init_36 ?_
  refine lv_bipush (v := 6) hx hb dX7_init_39 (by decide) ?_
  refine lv_iload_n hx hb dX7_init_41 rfl (lv_at hl 0 rfl) ?_
  refine lv_iadd hx hb dX7_init_42 ?_
  refine lv_topi (fun z_4245 ez_4245 => ?_)
  have ez_4245 : z_4245 = 7 := ez_4245.trans (by decide)
  subst ez_4245
  refine lv_sipush (v := 1093) hx hb dX7_init_43 (by decide) ?_
  refine lv_imul hx hb dX7_init_46 ?_
  refine lv_topi (fun z_4647 ez_4647 => ?_)
  have ez_4647 : z_4647 = 7651 := ez_4647.trans (by decide)
  subst ez_4647
  refine va_getsN hx hb hE.2.2.2.1.1 hS hown (va_Nw.use rfl lf_27) (fun _ h9 => h9) dX7_init_47 ?_
  refine lv_iconst (v := 1) hx hb dX7_init_50 (by decide) ?_
  refine va_ti (v := .int 1) hx hb hE.2.2.2.1.2 hS (by unfold vp_in; decide +kernel) rfl dX7_init_51 ?_
  refine lv_iadd hx hb dX7_init_52 ?_
  refine lv_topi (fun z_5251 ez_5251 => ?_)
  have ez_5251 : z_5251 = 7652 := ez_5251.trans (by decide)
  subst ez_5251
  refine lv_iload_n hx hb dX7_init_53 rfl (lv_at hl 0 rfl) ?_
  refine lv_iadd hx hb dX7_init_54 ?_
  refine lv_topi (fun z_5453 ez_5453 => ?_)
  have ez_5453 : z_5453 = 7653 := ez_5453.trans (by decide)
  subst ez_5453
  refine lv_lconst (v := 1) hx hb dX7_init_55 (by decide) ?_
  refine va_last hx hb hK hP hD hS 1 1 rfl rfl (by unfold vp_in; decide +kernel) dX7_init_56 (fun H locs hP hD hS => ?_)
  have hP : va_P X.1 vwCl [(h0, .inr (6, [.ref g1, .ref w1, .ref q1, .int 0])), (q1, .inl (xc X 1, 10930, .inr (.inl (vp_updL (vp_updL (fun _ => 0) (6559 : Int32).toNatClampNeg 1) (7653 : Int32).toNatClampNeg 1))))] H := hP
  have hD : va_D A [(h0, .inr (6, [.ref g1, .ref w1, .ref q1, .int 0])), (q1, .inl (xc X 1, 10930, .inr (.inl (vp_updL (vp_updL (fun _ => 0) (6559 : Int32).toNatClampNeg 1) (7653 : Int32).toNatClampNeg 1))))] := hD
  refine lv_iinc (v := 2) (lv' := [(3, .int 2), (0, .ref h0), (1, .ref g1), (2, .ref w1)]) hx hb dX7_init_57 hl (k := 0) rfl (by decide) (by decide) rfl (fun ls hl => ?_)
  refine lv_goto (tgt := 30) hx hb dX7_init_60 (by decide) ?_
  refine lv_iload_n hx hb dX7_init_30 rfl (lv_at hl 0 rfl) ?_
  refine lv_iconst (v := 3) hx hb dX7_init_31 (by decide) ?_
  refine lv_icmp_ge (tgt := 63) hx hb dX7_init_32 (by decide) (fun c9 => absurd c9 (by decide)) (fun _ => ?_)
  refine lv_aload_n hx hb dX7_init_35 rfl (lv_at hl 1 rfl) ?_
  refine va_get (D := X.1) (ci := 6) (v := .ref q1) (C := RX7) (T := TX7) (N := 4) hx hb hts i_X7 hown hK hP 0 rfl rfl 2 (by decide) lf_19 (fun _ h9 => h9) rfl dX7_init_36 ?_
  refine lv_bipush (v := 6) hx hb dX7_init_39 (by decide) ?_
  refine lv_iload_n hx hb dX7_init_41 rfl (lv_at hl 0 rfl) ?_
  refine lv_iadd hx hb dX7_init_42 ?_
  refine lv_topi (fun z_4265 ez_4265 => ?_)
  have ez_4265 : z_4265 = 8 := ez_4265.trans (by decide)
  subst ez_4265
  refine lv_sipush (v := 1093) hx hb dX7_init_43 (by decide) ?_
  refine lv_imul hx hb dX7_init_46 ?_
  refine lv_topi (fun z_4667 ez_4667 => ?_)
  have ez_4667 : z_4667 = 8744 := ez_4667.trans (by decide)
  subst ez_4667
  refine va_getsN hx hb hE.2.2.2.1.1 hS hown (va_Nw.use rfl lf_27) (fun _ h9 => h9) dX7_init_47 ?_
  refine lv_iconst (v := 1) hx hb dX7_init_50 (by decide) ?_
  refine va_ti (v := .int 1) hx hb hE.2.2.2.1.2 hS (by unfold vp_in; decide +kernel) rfl dX7_init_51 ?_
  refine lv_iadd hx hb dX7_init_52 ?_
  refine lv_topi (fun z_5271 ez_5271 => ?_)
  have ez_5271 : z_5271 = 8745 := ez_5271.trans (by decide)
  subst ez_5271
  refine lv_iload_n hx hb dX7_init_53 rfl (lv_at hl 0 rfl) ?_
  refine lv_iadd hx hb dX7_init_54 ?_
  refine lv_topi (fun z_5473 ez_5473 => ?_)
  have ez_5473 : z_5473 = 8747 := ez_5473.trans (by decide)
  subst ez_5473
  refine lv_lconst (v := 1) hx hb dX7_init_55 (by decide) ?_
  refine va_last hx hb hK hP hD hS 1 1 rfl rfl (by unfold vp_in; decide +kernel) dX7_init_56 (fun H locs hP hD hS => ?_)
  have hP : va_P X.1 vwCl [(h0, .inr (6, [.ref g1, .ref w1, .ref q1, .int 0])), (q1, .inl (xc X 1, 10930, .inr (.inl (vp_updL (vp_updL (vp_updL (fun _ => 0) (6559 : Int32).toNatClampNeg 1) (7653 : Int32).toNatClampNeg 1) (8747 : Int32).toNatClampNeg 1))))] H := hP
  have hD : va_D A [(h0, .inr (6, [.ref g1, .ref w1, .ref q1, .int 0])), (q1, .inl (xc X 1, 10930, .inr (.inl (vp_updL (vp_updL (vp_updL (fun _ => 0) (6559 : Int32).toNatClampNeg 1) (7653 : Int32).toNatClampNeg 1) (8747 : Int32).toNatClampNeg 1))))] := hD
  refine lv_iinc (v := 3) (lv' := [(3, .int 3), (0, .ref h0), (1, .ref g1), (2, .ref w1)]) hx hb dX7_init_57 hl (k := 0) rfl (by decide) (by decide) rfl (fun ls hl => ?_)
  refine lv_goto (tgt := 30) hx hb dX7_init_60 (by decide) ?_
  refine lv_iload_n hx hb dX7_init_30 rfl (lv_at hl 0 rfl) ?_
  refine lv_iconst (v := 3) hx hb dX7_init_31 (by decide) ?_
  refine lv_icmp_ge (tgt := 63) hx hb dX7_init_32 (by decide) (fun _ => ?_) (fun c9 => absurd (by decide) c9)
  refine lv_aload_n hx hb dX7_init_63 rfl (lv_at hl 1 rfl) ?_
  refine va_get (D := X.1) (ci := 6) (v := .ref q1) (C := RX7) (T := TX7) (N := 4) hx hb hts i_X7 hown hK hP 0 rfl rfl 2 (by decide) lf_19 (fun _ h9 => h9) rfl dX7_init_64 ?_
  refine lv_sipush (v := 9837) hx hb dX7_init_67 (by decide) ?_
  refine lv_lconst (v := 1) hx hb dX7_init_70 (by decide) ?_
  refine va_last hx hb hK hP hD hS 1 1 rfl rfl (by unfold vp_in; decide +kernel) dX7_init_71 (fun H locs hP hD hS => ?_)
  have hP : va_P X.1 vwCl [(h0, .inr (6, [.ref g1, .ref w1, .ref q1, .int 0])), (q1, .inl (xc X 1, 10930, .inr (.inl (vp_updL (vp_updL (vp_updL (vp_updL (fun _ => 0) (6559 : Int32).toNatClampNeg 1) (7653 : Int32).toNatClampNeg 1) (8747 : Int32).toNatClampNeg 1) (9837 : Int32).toNatClampNeg 1))))] H := hP
  have hD : va_D A [(h0, .inr (6, [.ref g1, .ref w1, .ref q1, .int 0])), (q1, .inl (xc X 1, 10930, .inr (.inl (vp_updL (vp_updL (vp_updL (vp_updL (fun _ => 0) (6559 : Int32).toNatClampNeg 1) (7653 : Int32).toNatClampNeg 1) (8747 : Int32).toNatClampNeg 1) (9837 : Int32).toNatClampNeg 1))))] := hD
  exact hQ _ _ _ _ _ _ ⟨q1, hP, hD⟩ hS dX7_init_72 (Nat.le_of_ble_eq_true rfl) (Nat.le_of_ble_eq_true rfl)
def rX5_init : Room := { frames := 1, cells := 7, slots := 105, locals := 20 }
set_option maxHeartbeats 40000000 in
set_option maxRecDepth 100000 in
theorem nX5_init (l : Launch) (X : xG) (sz : Nat) (h0 g1 : Nat) : nM l yX5_init (Cond.code yX5_init cX5_init 2 none :: WS) rX5_init X [(h0, .inr (4, [.null, .int 0, .long 0, .int 0, .null, .null, .null, .null, .null, .null, .null]))] sz [.ref h0, .ref g1] (fun H => ∃ q1 q2 q3 q4 q5 q6 q7 : Nat, va_P X.1 vwCl [(h0, .inr (4, [.ref g1, .int 0, .long 0, .int 0, .ref q1, .ref q2, .ref q3, .ref q4, .ref q5, .ref q6, .ref q7])), (q1, .inl (xc X 0, 15, .inl (fun _ => 0))), (q2, .inl (xc X 0, 15, .inl (fun _ => 0))), (q3, .inl (xc X 0, 15, .inl (fun _ => 0))), (q4, .inl (xc X 0, 15, .inl (fun _ => 0))), (q5, .inl (xc X 0, 15, .inl (fun _ => 0))), (q6, .inl (xc X 0, 15, .inl (fun _ => 0))), (q7, .inl (xc X 1, 15, .inr (.inl (fun _ => 0))))] H ∧ va_D (va_A [(h0, .inr (4, [.null, .int 0, .long 0, .int 0, .null, .null, .null, .null, .null, .null, .null]))] sz) [(h0, .inr (4, [.ref g1, .int 0, .long 0, .int 0, .ref q1, .ref q2, .ref q3, .ref q4, .ref q5, .ref q6, .ref q7])), (q1, .inl (xc X 0, 15, .inl (fun _ => 0))), (q2, .inl (xc X 0, 15, .inl (fun _ => 0))), (q3, .inl (xc X 0, 15, .inl (fun _ => 0))), (q4, .inl (xc X 0, 15, .inl (fun _ => 0))), (q5, .inl (xc X 0, 15, .inl (fun _ => 0))), (q6, .inl (xc X 0, 15, .inl (fun _ => 0))), (q7, .inl (xc X 1, 15, .inr (.inl (fun _ => 0))))]) 7 105 := by
  refine nM.of (cc := cX5_init) (maxL := 2) (own := RX5) (by decide) rfl rfl rfl (Nat.le_of_ble_eq_true rfl) ?_
  intro p e s m args below meth c ls Q hsz hC hin hQ hP hD hS hl
  subst hsz
  obtain ⟨hx, hb, hml, hown, hts, hE⟩ := id hC
  have hK := hE.1
  have hA : ∀ q : Nat, s.heap.size ≤ q → va_A [(h0, .inr (4, [.null, .int 0, .long 0, .int 0, .null, .null, .null, .null, .null, .null, .null]))] s.heap.size q := fun q h => Or.inr h
  generalize hAe : va_A [(h0, .inr (4, [.null, .int 0, .long 0, .int 0, .null, .null, .null, .null, .null, .null, .null]))] s.heap.size = A at hD hS hA hQ hC hE ⊢
  have hl : lv_has ls 2 [(0, .ref h0), (1, .ref g1)] := hl
  have lo1 : (Cond.methodLink RX5 3 objectInit).before args s = true := hts _ q_84
  have lo2 : (Cond.instanceMethod objectInit).before args s = true := hts _ q_13
  have lo3 : (Cond.code objectInit ⟨#[0xb1]⟩ 1 none).before args s = true := hts _ q_14
  have lf_9 : (Cond.fieldLink RX5 9 "GrammarAmbiguity$Tree" "grammar" "LGrammarAmbiguity$Grammar;").before args s = true := hts _ q_85
  have lf_15 : (Cond.fieldLink RX5 15 "GrammarAmbiguity$Tree" "present" "Z").before args s = true := hts _ q_86
  have lf_19 : (Cond.fieldLink RX5 19 "GrammarAmbiguity$Tree" "number" "J").before args s = true := hts _ q_87
  have lf_23 : (Cond.fieldLink RX5 23 "GrammarAmbiguity$Tree" "size" "I").before args s = true := hts _ q_88
  have la_int : (Cond.arrayClass .int).before args s = true := hts _ q_53
  have lf_27 : (Cond.fieldLink RX5 27 "GrammarAmbiguity$Tree" "productions" "[I").before args s = true := hts _ q_89
  have lf_31 : (Cond.fieldLink RX5 31 "GrammarAmbiguity$Tree" "begins" "[I").before args s = true := hts _ q_90
  have lf_34 : (Cond.fieldLink RX5 34 "GrammarAmbiguity$Tree" "lengths" "[I").before args s = true := hts _ q_91
  have lf_37 : (Cond.fieldLink RX5 37 "GrammarAmbiguity$Tree" "firsts" "[I").before args s = true := hts _ q_92
  have lf_40 : (Cond.fieldLink RX5 40 "GrammarAmbiguity$Tree" "seconds" "[I").before args s = true := hts _ q_93
  have lf_43 : (Cond.fieldLink RX5 43 "GrammarAmbiguity$Tree" "ends" "[I").before args s = true := hts _ q_94
  have la_long : (Cond.arrayClass .long).before args s = true := hts _ q_6
  have lf_46 : (Cond.fieldLink RX5 46 "GrammarAmbiguity$Tree" "numbers" "[J").before args s = true := hts _ q_95
  refine lv_aload_n hx hb dX5_init_0 rfl (lv_at hl 0 rfl) ?_
  refine W.objInit hx hb hown lo1 lo2 lo3 rfl (by rw [hml]; exact hl.1) rfl dX5_init_1 (Nat.le_of_ble_eq_true rfl) (Nat.le_of_ble_eq_true rfl) ?_
  refine W.eq (g2 := F0 m 4 ls []) rfl ?_
  refine lv_aload_n hx hb dX5_init_4 rfl (lv_at hl 0 rfl) ?_
  refine lv_aload_n hx hb dX5_init_5 rfl (lv_at hl 1 rfl) ?_
  refine va_putF (D := X.1) (ci := 4) (v := .ref g1) (ty := .object "GrammarAmbiguity$Grammar") (C := RX5) (T := TX5) (N := 11) hx hb hts i_X5 tyX5 tyX5_ok nmX5 hown hK hP hD hS 0 rfl rfl 0 (by decide) lf_9 (fun _ h9 => h9) rfl hin rfl (by decide +kernel) rfl rfl (Nat.le_of_ble_eq_true rfl) dX5_init_6 (fun H locs hP hD hS => ?_)
  have hP : va_P X.1 vwCl [(h0, .inr (4, [.ref g1, .int 0, .long 0, .int 0, .null, .null, .null, .null, .null, .null, .null]))] H := hP
  have hD : va_D A [(h0, .inr (4, [.ref g1, .int 0, .long 0, .int 0, .null, .null, .null, .null, .null, .null, .null]))] := hD
  refine lv_aload_n hx hb dX5_init_9 rfl (lv_at hl 0 rfl) ?_
  refine lv_iconst (v := 0) hx hb dX5_init_10 (by decide) ?_
  refine va_put (D := X.1) (ci := 4) (v := .int 0) (ty := .boolean) (C := RX5) (T := TX5) (N := 11) hx hb hts i_X5 tyX5 tyX5_ok nmX5 hown hK hP hD hS 0 rfl rfl 1 (by decide) lf_15 (fun _ h9 => h9) rfl (by decide +kernel) rfl rfl (Nat.le_of_ble_eq_true rfl) dX5_init_11 (fun H locs hP hD hS => ?_)
  have hP : va_P X.1 vwCl [(h0, .inr (4, [.ref g1, .int 0, .long 0, .int 0, .null, .null, .null, .null, .null, .null, .null]))] H := hP
  have hD : va_D A [(h0, .inr (4, [.ref g1, .int 0, .long 0, .int 0, .null, .null, .null, .null, .null, .null, .null]))] := hD
  refine lv_aload_n hx hb dX5_init_14 rfl (lv_at hl 0 rfl) ?_
  refine lv_lconst (v := 0) hx hb dX5_init_15 (by decide) ?_
  refine va_put (D := X.1) (ci := 4) (v := .long 0) (ty := .long) (C := RX5) (T := TX5) (N := 11) hx hb hts i_X5 tyX5 tyX5_ok nmX5 hown hK hP hD hS 0 rfl rfl 2 (by decide) lf_19 (fun _ h9 => h9) rfl (by decide +kernel) rfl rfl (Nat.le_of_ble_eq_true rfl) dX5_init_16 (fun H locs hP hD hS => ?_)
  have hP : va_P X.1 vwCl [(h0, .inr (4, [.ref g1, .int 0, .long 0, .int 0, .null, .null, .null, .null, .null, .null, .null]))] H := hP
  have hD : va_D A [(h0, .inr (4, [.ref g1, .int 0, .long 0, .int 0, .null, .null, .null, .null, .null, .null, .null]))] := hD
  refine lv_aload_n hx hb dX5_init_19 rfl (lv_at hl 0 rfl) ?_
  refine lv_iconst (v := 0) hx hb dX5_init_20 (by decide) ?_
  refine va_put (D := X.1) (ci := 4) (v := .int 0) (ty := .int) (C := RX5) (T := TX5) (N := 11) hx hb hts i_X5 tyX5 tyX5_ok nmX5 hown hK hP hD hS 0 rfl rfl 3 (by decide) lf_23 (fun _ h9 => h9) rfl (by decide +kernel) rfl rfl (Nat.le_of_ble_eq_true rfl) dX5_init_21 (fun H locs hP hD hS => ?_)
  have hP : va_P X.1 vwCl [(h0, .inr (4, [.ref g1, .int 0, .long 0, .int 0, .null, .null, .null, .null, .null, .null, .null]))] H := hP
  have hD : va_D A [(h0, .inr (4, [.ref g1, .int 0, .long 0, .int 0, .null, .null, .null, .null, .null, .null, .null]))] := hD
  refine lv_aload_n hx hb dX5_init_24 rfl (lv_at hl 0 rfl) ?_
  refine lv_bipush (v := 15) hx hb dX5_init_25 (by decide) ?_
  refine n_newa (atype := .int) (ty := .int) (N' := 15) (a0 := (15, .inl (fun _ => 0))) (cI := xc X 0) hx hb la_int rfl hK hP hD hS hA (fun _ => rfl) (by decide) (by decide) (Nat.le_of_ble_eq_true rfl) (Nat.le_of_ble_eq_true rfl) (Nat.le_of_ble_eq_true rfl) dX5_init_27 0 rfl (fun _ h => h) (fun q1 H hP hD hS => ?_)
  have hP : va_P X.1 vwCl [(h0, .inr (4, [.ref g1, .int 0, .long 0, .int 0, .null, .null, .null, .null, .null, .null, .null])), (q1, .inl (xc X 0, 15, .inl (fun _ => 0)))] H := hP
  have hD : va_D A [(h0, .inr (4, [.ref g1, .int 0, .long 0, .int 0, .null, .null, .null, .null, .null, .null, .null])), (q1, .inl (xc X 0, 15, .inl (fun _ => 0)))] := hD
  refine va_putF (D := X.1) (ci := 4) (v := .ref q1) (ty := .array .int) (C := RX5) (T := TX5) (N := 11) hx hb hts i_X5 tyX5 tyX5_ok nmX5 hown hK hP hD hS 0 rfl rfl 4 (by decide) lf_27 (fun _ h9 => h9) rfl hin rfl (by decide +kernel) rfl rfl (Nat.le_of_ble_eq_true rfl) dX5_init_29 (fun H locs hP hD hS => ?_)
  have hP : va_P X.1 vwCl [(h0, .inr (4, [.ref g1, .int 0, .long 0, .int 0, .ref q1, .null, .null, .null, .null, .null, .null])), (q1, .inl (xc X 0, 15, .inl (fun _ => 0)))] H := hP
  have hD : va_D A [(h0, .inr (4, [.ref g1, .int 0, .long 0, .int 0, .ref q1, .null, .null, .null, .null, .null, .null])), (q1, .inl (xc X 0, 15, .inl (fun _ => 0)))] := hD
  refine lv_aload_n hx hb dX5_init_32 rfl (lv_at hl 0 rfl) ?_
  refine lv_bipush (v := 15) hx hb dX5_init_33 (by decide) ?_
  refine n_newa (atype := .int) (ty := .int) (N' := 15) (a0 := (15, .inl (fun _ => 0))) (cI := xc X 0) hx hb la_int rfl hK hP hD hS hA (fun _ => rfl) (by decide) (by decide) (Nat.le_of_ble_eq_true rfl) (Nat.le_of_ble_eq_true rfl) (Nat.le_of_ble_eq_true rfl) dX5_init_35 0 rfl (fun _ h => h) (fun q2 H hP hD hS => ?_)
  have hP : va_P X.1 vwCl [(h0, .inr (4, [.ref g1, .int 0, .long 0, .int 0, .ref q1, .null, .null, .null, .null, .null, .null])), (q1, .inl (xc X 0, 15, .inl (fun _ => 0))), (q2, .inl (xc X 0, 15, .inl (fun _ => 0)))] H := hP
  have hD : va_D A [(h0, .inr (4, [.ref g1, .int 0, .long 0, .int 0, .ref q1, .null, .null, .null, .null, .null, .null])), (q1, .inl (xc X 0, 15, .inl (fun _ => 0))), (q2, .inl (xc X 0, 15, .inl (fun _ => 0)))] := hD
  refine va_putF (D := X.1) (ci := 4) (v := .ref q2) (ty := .array .int) (C := RX5) (T := TX5) (N := 11) hx hb hts i_X5 tyX5 tyX5_ok nmX5 hown hK hP hD hS 0 rfl rfl 5 (by decide) lf_31 (fun _ h9 => h9) rfl hin rfl (by decide +kernel) rfl rfl (Nat.le_of_ble_eq_true rfl) dX5_init_37 (fun H locs hP hD hS => ?_)
  have hP : va_P X.1 vwCl [(h0, .inr (4, [.ref g1, .int 0, .long 0, .int 0, .ref q1, .ref q2, .null, .null, .null, .null, .null])), (q1, .inl (xc X 0, 15, .inl (fun _ => 0))), (q2, .inl (xc X 0, 15, .inl (fun _ => 0)))] H := hP
  have hD : va_D A [(h0, .inr (4, [.ref g1, .int 0, .long 0, .int 0, .ref q1, .ref q2, .null, .null, .null, .null, .null])), (q1, .inl (xc X 0, 15, .inl (fun _ => 0))), (q2, .inl (xc X 0, 15, .inl (fun _ => 0)))] := hD
  refine lv_aload_n hx hb dX5_init_40 rfl (lv_at hl 0 rfl) ?_
  refine lv_bipush (v := 15) hx hb dX5_init_41 (by decide) ?_
  refine n_newa (atype := .int) (ty := .int) (N' := 15) (a0 := (15, .inl (fun _ => 0))) (cI := xc X 0) hx hb la_int rfl hK hP hD hS hA (fun _ => rfl) (by decide) (by decide) (Nat.le_of_ble_eq_true rfl) (Nat.le_of_ble_eq_true rfl) (Nat.le_of_ble_eq_true rfl) dX5_init_43 0 rfl (fun _ h => h) (fun q3 H hP hD hS => ?_)
  have hP : va_P X.1 vwCl [(h0, .inr (4, [.ref g1, .int 0, .long 0, .int 0, .ref q1, .ref q2, .null, .null, .null, .null, .null])), (q1, .inl (xc X 0, 15, .inl (fun _ => 0))), (q2, .inl (xc X 0, 15, .inl (fun _ => 0))), (q3, .inl (xc X 0, 15, .inl (fun _ => 0)))] H := hP
  have hD : va_D A [(h0, .inr (4, [.ref g1, .int 0, .long 0, .int 0, .ref q1, .ref q2, .null, .null, .null, .null, .null])), (q1, .inl (xc X 0, 15, .inl (fun _ => 0))), (q2, .inl (xc X 0, 15, .inl (fun _ => 0))), (q3, .inl (xc X 0, 15, .inl (fun _ => 0)))] := hD
  refine va_putF (D := X.1) (ci := 4) (v := .ref q3) (ty := .array .int) (C := RX5) (T := TX5) (N := 11) hx hb hts i_X5 tyX5 tyX5_ok nmX5 hown hK hP hD hS 0 rfl rfl 6 (by decide) lf_34 (fun _ h9 => h9) rfl hin rfl (by decide +kernel) rfl rfl (Nat.le_of_ble_eq_true rfl) dX5_init_45 (fun H locs hP hD hS => ?_)
  have hP : va_P X.1 vwCl [(h0, .inr (4, [.ref g1, .int 0, .long 0, .int 0, .ref q1, .ref q2, .ref q3, .null, .null, .null, .null])), (q1, .inl (xc X 0, 15, .inl (fun _ => 0))), (q2, .inl (xc X 0, 15, .inl (fun _ => 0))), (q3, .inl (xc X 0, 15, .inl (fun _ => 0)))] H := hP
  have hD : va_D A [(h0, .inr (4, [.ref g1, .int 0, .long 0, .int 0, .ref q1, .ref q2, .ref q3, .null, .null, .null, .null])), (q1, .inl (xc X 0, 15, .inl (fun _ => 0))), (q2, .inl (xc X 0, 15, .inl (fun _ => 0))), (q3, .inl (xc X 0, 15, .inl (fun _ => 0)))] := hD
  refine lv_aload_n hx hb dX5_init_48 rfl (lv_at hl 0 rfl) ?_
  refine lv_bipush (v := 15) hx hb dX5_init_49 (by decide) ?_
  refine n_newa (atype := .int) (ty := .int) (N' := 15) (a0 := (15, .inl (fun _ => 0))) (cI := xc X 0) hx hb la_int rfl hK hP hD hS hA (fun _ => rfl) (by decide) (by decide) (Nat.le_of_ble_eq_true rfl) (Nat.le_of_ble_eq_true rfl) (Nat.le_of_ble_eq_true rfl) dX5_init_51 0 rfl (fun _ h => h) (fun q4 H hP hD hS => ?_)
  have hP : va_P X.1 vwCl [(h0, .inr (4, [.ref g1, .int 0, .long 0, .int 0, .ref q1, .ref q2, .ref q3, .null, .null, .null, .null])), (q1, .inl (xc X 0, 15, .inl (fun _ => 0))), (q2, .inl (xc X 0, 15, .inl (fun _ => 0))), (q3, .inl (xc X 0, 15, .inl (fun _ => 0))), (q4, .inl (xc X 0, 15, .inl (fun _ => 0)))] H := hP
  have hD : va_D A [(h0, .inr (4, [.ref g1, .int 0, .long 0, .int 0, .ref q1, .ref q2, .ref q3, .null, .null, .null, .null])), (q1, .inl (xc X 0, 15, .inl (fun _ => 0))), (q2, .inl (xc X 0, 15, .inl (fun _ => 0))), (q3, .inl (xc X 0, 15, .inl (fun _ => 0))), (q4, .inl (xc X 0, 15, .inl (fun _ => 0)))] := hD
  refine va_putF (D := X.1) (ci := 4) (v := .ref q4) (ty := .array .int) (C := RX5) (T := TX5) (N := 11) hx hb hts i_X5 tyX5 tyX5_ok nmX5 hown hK hP hD hS 0 rfl rfl 7 (by decide) lf_37 (fun _ h9 => h9) rfl hin rfl (by decide +kernel) rfl rfl (Nat.le_of_ble_eq_true rfl) dX5_init_53 (fun H locs hP hD hS => ?_)
  have hP : va_P X.1 vwCl [(h0, .inr (4, [.ref g1, .int 0, .long 0, .int 0, .ref q1, .ref q2, .ref q3, .ref q4, .null, .null, .null])), (q1, .inl (xc X 0, 15, .inl (fun _ => 0))), (q2, .inl (xc X 0, 15, .inl (fun _ => 0))), (q3, .inl (xc X 0, 15, .inl (fun _ => 0))), (q4, .inl (xc X 0, 15, .inl (fun _ => 0)))] H := hP
  have hD : va_D A [(h0, .inr (4, [.ref g1, .int 0, .long 0, .int 0, .ref q1, .ref q2, .ref q3, .ref q4, .null, .null, .null])), (q1, .inl (xc X 0, 15, .inl (fun _ => 0))), (q2, .inl (xc X 0, 15, .inl (fun _ => 0))), (q3, .inl (xc X 0, 15, .inl (fun _ => 0))), (q4, .inl (xc X 0, 15, .inl (fun _ => 0)))] := hD
  refine lv_aload_n hx hb dX5_init_56 rfl (lv_at hl 0 rfl) ?_
  refine lv_bipush (v := 15) hx hb dX5_init_57 (by decide) ?_
  refine n_newa (atype := .int) (ty := .int) (N' := 15) (a0 := (15, .inl (fun _ => 0))) (cI := xc X 0) hx hb la_int rfl hK hP hD hS hA (fun _ => rfl) (by decide) (by decide) (Nat.le_of_ble_eq_true rfl) (Nat.le_of_ble_eq_true rfl) (Nat.le_of_ble_eq_true rfl) dX5_init_59 0 rfl (fun _ h => h) (fun q5 H hP hD hS => ?_)
  have hP : va_P X.1 vwCl [(h0, .inr (4, [.ref g1, .int 0, .long 0, .int 0, .ref q1, .ref q2, .ref q3, .ref q4, .null, .null, .null])), (q1, .inl (xc X 0, 15, .inl (fun _ => 0))), (q2, .inl (xc X 0, 15, .inl (fun _ => 0))), (q3, .inl (xc X 0, 15, .inl (fun _ => 0))), (q4, .inl (xc X 0, 15, .inl (fun _ => 0))), (q5, .inl (xc X 0, 15, .inl (fun _ => 0)))] H := hP
  have hD : va_D A [(h0, .inr (4, [.ref g1, .int 0, .long 0, .int 0, .ref q1, .ref q2, .ref q3, .ref q4, .null, .null, .null])), (q1, .inl (xc X 0, 15, .inl (fun _ => 0))), (q2, .inl (xc X 0, 15, .inl (fun _ => 0))), (q3, .inl (xc X 0, 15, .inl (fun _ => 0))), (q4, .inl (xc X 0, 15, .inl (fun _ => 0))), (q5, .inl (xc X 0, 15, .inl (fun _ => 0)))] := hD
  refine va_putF (D := X.1) (ci := 4) (v := .ref q5) (ty := .array .int) (C := RX5) (T := TX5) (N := 11) hx hb hts i_X5 tyX5 tyX5_ok nmX5 hown hK hP hD hS 0 rfl rfl 8 (by decide) lf_40 (fun _ h9 => h9) rfl hin rfl (by decide +kernel) rfl rfl (Nat.le_of_ble_eq_true rfl) dX5_init_61 (fun H locs hP hD hS => ?_)
  have hP : va_P X.1 vwCl [(h0, .inr (4, [.ref g1, .int 0, .long 0, .int 0, .ref q1, .ref q2, .ref q3, .ref q4, .ref q5, .null, .null])), (q1, .inl (xc X 0, 15, .inl (fun _ => 0))), (q2, .inl (xc X 0, 15, .inl (fun _ => 0))), (q3, .inl (xc X 0, 15, .inl (fun _ => 0))), (q4, .inl (xc X 0, 15, .inl (fun _ => 0))), (q5, .inl (xc X 0, 15, .inl (fun _ => 0)))] H := hP
  have hD : va_D A [(h0, .inr (4, [.ref g1, .int 0, .long 0, .int 0, .ref q1, .ref q2, .ref q3, .ref q4, .ref q5, .null, .null])), (q1, .inl (xc X 0, 15, .inl (fun _ => 0))), (q2, .inl (xc X 0, 15, .inl (fun _ => 0))), (q3, .inl (xc X 0, 15, .inl (fun _ => 0))), (q4, .inl (xc X 0, 15, .inl (fun _ => 0))), (q5, .inl (xc X 0, 15, .inl (fun _ => 0)))] := hD
  refine lv_aload_n hx hb dX5_init_64 rfl (lv_at hl 0 rfl) ?_
  refine lv_bipush (v := 15) hx hb dX5_init_65 (by decide) ?_
  refine n_newa (atype := .int) (ty := .int) (N' := 15) (a0 := (15, .inl (fun _ => 0))) (cI := xc X 0) hx hb la_int rfl hK hP hD hS hA (fun _ => rfl) (by decide) (by decide) (Nat.le_of_ble_eq_true rfl) (Nat.le_of_ble_eq_true rfl) (Nat.le_of_ble_eq_true rfl) dX5_init_67 0 rfl (fun _ h => h) (fun q6 H hP hD hS => ?_)
  have hP : va_P X.1 vwCl [(h0, .inr (4, [.ref g1, .int 0, .long 0, .int 0, .ref q1, .ref q2, .ref q3, .ref q4, .ref q5, .null, .null])), (q1, .inl (xc X 0, 15, .inl (fun _ => 0))), (q2, .inl (xc X 0, 15, .inl (fun _ => 0))), (q3, .inl (xc X 0, 15, .inl (fun _ => 0))), (q4, .inl (xc X 0, 15, .inl (fun _ => 0))), (q5, .inl (xc X 0, 15, .inl (fun _ => 0))), (q6, .inl (xc X 0, 15, .inl (fun _ => 0)))] H := hP
  have hD : va_D A [(h0, .inr (4, [.ref g1, .int 0, .long 0, .int 0, .ref q1, .ref q2, .ref q3, .ref q4, .ref q5, .null, .null])), (q1, .inl (xc X 0, 15, .inl (fun _ => 0))), (q2, .inl (xc X 0, 15, .inl (fun _ => 0))), (q3, .inl (xc X 0, 15, .inl (fun _ => 0))), (q4, .inl (xc X 0, 15, .inl (fun _ => 0))), (q5, .inl (xc X 0, 15, .inl (fun _ => 0))), (q6, .inl (xc X 0, 15, .inl (fun _ => 0)))] := hD
  refine va_putF (D := X.1) (ci := 4) (v := .ref q6) (ty := .array .int) (C := RX5) (T := TX5) (N := 11) hx hb hts i_X5 tyX5 tyX5_ok nmX5 hown hK hP hD hS 0 rfl rfl 9 (by decide) lf_43 (fun _ h9 => h9) rfl hin rfl (by decide +kernel) rfl rfl (Nat.le_of_ble_eq_true rfl) dX5_init_69 (fun H locs hP hD hS => ?_)
  have hP : va_P X.1 vwCl [(h0, .inr (4, [.ref g1, .int 0, .long 0, .int 0, .ref q1, .ref q2, .ref q3, .ref q4, .ref q5, .ref q6, .null])), (q1, .inl (xc X 0, 15, .inl (fun _ => 0))), (q2, .inl (xc X 0, 15, .inl (fun _ => 0))), (q3, .inl (xc X 0, 15, .inl (fun _ => 0))), (q4, .inl (xc X 0, 15, .inl (fun _ => 0))), (q5, .inl (xc X 0, 15, .inl (fun _ => 0))), (q6, .inl (xc X 0, 15, .inl (fun _ => 0)))] H := hP
  have hD : va_D A [(h0, .inr (4, [.ref g1, .int 0, .long 0, .int 0, .ref q1, .ref q2, .ref q3, .ref q4, .ref q5, .ref q6, .null])), (q1, .inl (xc X 0, 15, .inl (fun _ => 0))), (q2, .inl (xc X 0, 15, .inl (fun _ => 0))), (q3, .inl (xc X 0, 15, .inl (fun _ => 0))), (q4, .inl (xc X 0, 15, .inl (fun _ => 0))), (q5, .inl (xc X 0, 15, .inl (fun _ => 0))), (q6, .inl (xc X 0, 15, .inl (fun _ => 0)))] := hD
  refine lv_aload_n hx hb dX5_init_72 rfl (lv_at hl 0 rfl) ?_
  refine lv_bipush (v := 15) hx hb dX5_init_73 (by decide) ?_
  refine n_newa (atype := .long) (ty := .long) (N' := 15) (a0 := (15, .inr (.inl (fun _ => 0)))) (cI := xc X 1) hx hb la_long rfl hK hP hD hS hA (fun _ => rfl) (by decide) (by decide) (Nat.le_of_ble_eq_true rfl) (Nat.le_of_ble_eq_true rfl) (Nat.le_of_ble_eq_true rfl) dX5_init_75 1 rfl (fun _ h => h) (fun q7 H hP hD hS => ?_)
  have hP : va_P X.1 vwCl [(h0, .inr (4, [.ref g1, .int 0, .long 0, .int 0, .ref q1, .ref q2, .ref q3, .ref q4, .ref q5, .ref q6, .null])), (q1, .inl (xc X 0, 15, .inl (fun _ => 0))), (q2, .inl (xc X 0, 15, .inl (fun _ => 0))), (q3, .inl (xc X 0, 15, .inl (fun _ => 0))), (q4, .inl (xc X 0, 15, .inl (fun _ => 0))), (q5, .inl (xc X 0, 15, .inl (fun _ => 0))), (q6, .inl (xc X 0, 15, .inl (fun _ => 0))), (q7, .inl (xc X 1, 15, .inr (.inl (fun _ => 0))))] H := hP
  have hD : va_D A [(h0, .inr (4, [.ref g1, .int 0, .long 0, .int 0, .ref q1, .ref q2, .ref q3, .ref q4, .ref q5, .ref q6, .null])), (q1, .inl (xc X 0, 15, .inl (fun _ => 0))), (q2, .inl (xc X 0, 15, .inl (fun _ => 0))), (q3, .inl (xc X 0, 15, .inl (fun _ => 0))), (q4, .inl (xc X 0, 15, .inl (fun _ => 0))), (q5, .inl (xc X 0, 15, .inl (fun _ => 0))), (q6, .inl (xc X 0, 15, .inl (fun _ => 0))), (q7, .inl (xc X 1, 15, .inr (.inl (fun _ => 0))))] := hD
  refine va_putF (D := X.1) (ci := 4) (v := .ref q7) (ty := .array .long) (C := RX5) (T := TX5) (N := 11) hx hb hts i_X5 tyX5 tyX5_ok nmX5 hown hK hP hD hS 0 rfl rfl 10 (by decide) lf_46 (fun _ h9 => h9) rfl hin rfl (by decide +kernel) rfl rfl (Nat.le_of_ble_eq_true rfl) dX5_init_77 (fun H locs hP hD hS => ?_)
  have hP : va_P X.1 vwCl [(h0, .inr (4, [.ref g1, .int 0, .long 0, .int 0, .ref q1, .ref q2, .ref q3, .ref q4, .ref q5, .ref q6, .ref q7])), (q1, .inl (xc X 0, 15, .inl (fun _ => 0))), (q2, .inl (xc X 0, 15, .inl (fun _ => 0))), (q3, .inl (xc X 0, 15, .inl (fun _ => 0))), (q4, .inl (xc X 0, 15, .inl (fun _ => 0))), (q5, .inl (xc X 0, 15, .inl (fun _ => 0))), (q6, .inl (xc X 0, 15, .inl (fun _ => 0))), (q7, .inl (xc X 1, 15, .inr (.inl (fun _ => 0))))] H := hP
  have hD : va_D A [(h0, .inr (4, [.ref g1, .int 0, .long 0, .int 0, .ref q1, .ref q2, .ref q3, .ref q4, .ref q5, .ref q6, .ref q7])), (q1, .inl (xc X 0, 15, .inl (fun _ => 0))), (q2, .inl (xc X 0, 15, .inl (fun _ => 0))), (q3, .inl (xc X 0, 15, .inl (fun _ => 0))), (q4, .inl (xc X 0, 15, .inl (fun _ => 0))), (q5, .inl (xc X 0, 15, .inl (fun _ => 0))), (q6, .inl (xc X 0, 15, .inl (fun _ => 0))), (q7, .inl (xc X 1, 15, .inr (.inl (fun _ => 0))))] := hD
  exact hQ _ _ _ _ _ _ ⟨q1, q2, q3, q4, q5, q6, q7, hP, hD⟩ hS dX5_init_80 (Nat.le_of_ble_eq_true rfl) (Nat.le_of_ble_eq_true rfl)
def rX8_init : Room := { frames := 3, cells := 31, slots := 11884, locals := 64 }
set_option maxHeartbeats 40000000 in
set_option maxRecDepth 100000 in
theorem nX8_init (l : Launch) (X : xG) (sz : Nat) (h0 : Nat) : nM l yX8_init (Cond.code yX8_init cX8_init 1 none :: WS) rX8_init X [(h0, .inr (7, [.null, .null, .null, .null, .null, .null, .null, .null, .null, .int 0]))] sz [.ref h0] (fun H => ∃ q1 q2 q3 q4 q5 q6 q7 q8 q9 q10 q11 q12 q13 q14 q15 q16 q17 q18 q19 q20 q21 q22 q23 q24 q25 q26 q27 q28 q29 q30 q31 : Nat, va_P X.1 vwCl [(h0, .inr (7, [.ref q1, .ref q5, .ref q7, .ref q11, .ref q13, .ref q15, .ref q17, .ref q19, .ref q27, .int 0])), (q1, .inr (0, [.int 1, .int 2, .int 0, .int 0, .ref q2, .ref q3, .ref q4])), (q2, .inl (xc X 0, 96, .inl (fun _ => 0))), (q3, .inl (xc X 0, 6, .inl (fun _ => 0))), (q4, .inl (xc X 2, 6, .inl (fun _ => 0))), (q5, .inr (5, [.int 0, .ref q6])), (q6, .inl (xc X 0, 8, .inl (fun _ => 0))), (q7, .inr (0, [.int 1, .int 2, .int 0, .int 0, .ref q8, .ref q9, .ref q10])), (q8, .inl (xc X 0, 96, .inl (fun _ => 0))), (q9, .inl (xc X 0, 6, .inl (fun _ => 0))), (q10, .inl (xc X 2, 6, .inl (fun _ => 0))), (q11, .inr (5, [.int 0, .ref q12])), (q12, .inl (xc X 0, 8, .inl (fun _ => 0))), (q13, .inr (1, [.ref q1, .ref q14, .int 0])), (q14, .inl (xc X 1, 60, .inr (.inl (fun _ => 0)))), (q15, .inr (3, [.ref q1, .ref q16, .int 0, .ref q5])), (q16, .inl (xc X 1, 384, .inr (.inl (fun _ => 0)))), (q17, .inr (6, [.ref q1, .ref q13, .ref q18, .int 0])), (q18, .inl (xc X 1, 10930, .inr (.inl (vp_updL (vp_updL (vp_updL (vp_updL (fun _ => 0) (6559 : Int32).toNatClampNeg 1) (7653 : Int32).toNatClampNeg 1) (8747 : Int32).toNatClampNeg 1) (9837 : Int32).toNatClampNeg 1)))), (q19, .inr (4, [.ref q1, .int 0, .long 0, .int 0, .ref q20, .ref q21, .ref q22, .ref q23, .ref q24, .ref q25, .ref q26])), (q20, .inl (xc X 0, 15, .inl (fun _ => 0))), (q21, .inl (xc X 0, 15, .inl (fun _ => 0))), (q22, .inl (xc X 0, 15, .inl (fun _ => 0))), (q23, .inl (xc X 0, 15, .inl (fun _ => 0))), (q24, .inl (xc X 0, 15, .inl (fun _ => 0))), (q25, .inl (xc X 0, 15, .inl (fun _ => 0))), (q26, .inl (xc X 1, 15, .inr (.inl (fun _ => 0)))), (q27, .inr (2, [.ref q28, .ref q29, .ref q30, .ref q31])), (q28, .inl (xc X 2, 3, .inl (fun _ => 0))), (q29, .inl (xc X 2, 3, .inl (fun _ => 0))), (q30, .inl (xc X 0, 3, .inl (fun _ => 0))), (q31, .inl (xc X 0, 120, .inl (fun _ => 0)))] H ∧ va_D (va_A [(h0, .inr (7, [.null, .null, .null, .null, .null, .null, .null, .null, .null, .int 0]))] sz) [(h0, .inr (7, [.ref q1, .ref q5, .ref q7, .ref q11, .ref q13, .ref q15, .ref q17, .ref q19, .ref q27, .int 0])), (q1, .inr (0, [.int 1, .int 2, .int 0, .int 0, .ref q2, .ref q3, .ref q4])), (q2, .inl (xc X 0, 96, .inl (fun _ => 0))), (q3, .inl (xc X 0, 6, .inl (fun _ => 0))), (q4, .inl (xc X 2, 6, .inl (fun _ => 0))), (q5, .inr (5, [.int 0, .ref q6])), (q6, .inl (xc X 0, 8, .inl (fun _ => 0))), (q7, .inr (0, [.int 1, .int 2, .int 0, .int 0, .ref q8, .ref q9, .ref q10])), (q8, .inl (xc X 0, 96, .inl (fun _ => 0))), (q9, .inl (xc X 0, 6, .inl (fun _ => 0))), (q10, .inl (xc X 2, 6, .inl (fun _ => 0))), (q11, .inr (5, [.int 0, .ref q12])), (q12, .inl (xc X 0, 8, .inl (fun _ => 0))), (q13, .inr (1, [.ref q1, .ref q14, .int 0])), (q14, .inl (xc X 1, 60, .inr (.inl (fun _ => 0)))), (q15, .inr (3, [.ref q1, .ref q16, .int 0, .ref q5])), (q16, .inl (xc X 1, 384, .inr (.inl (fun _ => 0)))), (q17, .inr (6, [.ref q1, .ref q13, .ref q18, .int 0])), (q18, .inl (xc X 1, 10930, .inr (.inl (vp_updL (vp_updL (vp_updL (vp_updL (fun _ => 0) (6559 : Int32).toNatClampNeg 1) (7653 : Int32).toNatClampNeg 1) (8747 : Int32).toNatClampNeg 1) (9837 : Int32).toNatClampNeg 1)))), (q19, .inr (4, [.ref q1, .int 0, .long 0, .int 0, .ref q20, .ref q21, .ref q22, .ref q23, .ref q24, .ref q25, .ref q26])), (q20, .inl (xc X 0, 15, .inl (fun _ => 0))), (q21, .inl (xc X 0, 15, .inl (fun _ => 0))), (q22, .inl (xc X 0, 15, .inl (fun _ => 0))), (q23, .inl (xc X 0, 15, .inl (fun _ => 0))), (q24, .inl (xc X 0, 15, .inl (fun _ => 0))), (q25, .inl (xc X 0, 15, .inl (fun _ => 0))), (q26, .inl (xc X 1, 15, .inr (.inl (fun _ => 0)))), (q27, .inr (2, [.ref q28, .ref q29, .ref q30, .ref q31])), (q28, .inl (xc X 2, 3, .inl (fun _ => 0))), (q29, .inl (xc X 2, 3, .inl (fun _ => 0))), (q30, .inl (xc X 0, 3, .inl (fun _ => 0))), (q31, .inl (xc X 0, 120, .inl (fun _ => 0)))]) 31 11884 := by
  refine nM.of (cc := cX8_init) (maxL := 1) (own := RX8) (by decide) rfl rfl rfl (Nat.le_of_ble_eq_true rfl) ?_
  intro p e s m args below meth c ls Q hsz hC hin hQ hP hD hS hl
  subst hsz
  obtain ⟨hx, hb, hml, hown, hts, hE⟩ := id hC
  have hK := hE.1
  have hA : ∀ q : Nat, s.heap.size ≤ q → va_A [(h0, .inr (7, [.null, .null, .null, .null, .null, .null, .null, .null, .null, .int 0]))] s.heap.size q := fun q h => Or.inr h
  generalize hAe : va_A [(h0, .inr (7, [.null, .null, .null, .null, .null, .null, .null, .null, .null, .int 0]))] s.heap.size = A at hD hS hA hQ hC hE ⊢
  have hl : lv_has ls 1 [(0, .ref h0)] := hl
  have lo1 : (Cond.methodLink RX8 3 objectInit).before args s = true := hts _ q_12
  have lo2 : (Cond.instanceMethod objectInit).before args s = true := hts _ q_13
  have lo3 : (Cond.code objectInit ⟨#[0xb1]⟩ 1 none).before args s = true := hts _ q_14
  have lc_9 : (Cond.classLink RX8 9 RX1).before args s = true := hts _ q_15
  have lq_X1 : (Cond.instantiable RX1 7).before args s = true := hts _ q_16
  have li_X1 : (Cond.initialized RX1).before args s = true := hts _ q_17
  have ln_11 : va_Nw (.methodLinkNest RX8 11 yX1_init "GrammarAmbiguity") s := hE.2.1 _ (by decide +kernel)
  have lf_12 : (Cond.fieldLink RX8 12 "GrammarAmbiguity" "grammar" "LGrammarAmbiguity$Grammar;").before args s = true := hts _ q_18
  have lc_16 : (Cond.classLink RX8 16 RX6).before args s = true := hts _ q_19
  have lq_X6 : (Cond.instantiable RX6 2).before args s = true := hts _ q_20
  have li_X6 : (Cond.initialized RX6).before args s = true := hts _ q_21
  have ln_18 : va_Nw (.methodLinkNest RX8 18 yX6_init "GrammarAmbiguity") s := hE.2.1 _ (by decide +kernel)
  have lf_19 : (Cond.fieldLink RX8 19 "GrammarAmbiguity" "word" "LGrammarAmbiguity$Word;").before args s = true := hts _ q_22
  have lf_23 : (Cond.fieldLink RX8 23 "GrammarAmbiguity" "savedGrammar" "LGrammarAmbiguity$Grammar;").before args s = true := hts _ q_23
  have lf_26 : (Cond.fieldLink RX8 26 "GrammarAmbiguity" "savedWord" "LGrammarAmbiguity$Word;").before args s = true := hts _ q_24
  have lc_29 : (Cond.classLink RX8 29 RX2).before args s = true := hts _ q_25
  have lq_X2 : (Cond.instantiable RX2 3).before args s = true := hts _ q_26
  have li_X2 : (Cond.initialized RX2).before args s = true := hts _ q_27
  have ln_31 : va_Nw (.methodLinkNest RX8 31 yX2_init "GrammarAmbiguity") s := hE.2.1 _ (by decide +kernel)
  have lf_34 : (Cond.fieldLink RX8 34 "GrammarAmbiguity" "lengths" "LGrammarAmbiguity$LengthCounts;").before args s = true := hts _ q_28
  have lc_38 : (Cond.classLink RX8 38 RX4).before args s = true := hts _ q_29
  have lq_X4 : (Cond.instantiable RX4 4).before args s = true := hts _ q_30
  have li_X4 : (Cond.initialized RX4).before args s = true := hts _ q_31
  have ln_40 : va_Nw (.methodLinkNest RX8 40 yX4_init "GrammarAmbiguity") s := hE.2.1 _ (by decide +kernel)
  have lf_43 : (Cond.fieldLink RX8 43 "GrammarAmbiguity" "spans" "LGrammarAmbiguity$SpanCounts;").before args s = true := hts _ q_32
  have lc_47 : (Cond.classLink RX8 47 RX7).before args s = true := hts _ q_33
  have lq_X7 : (Cond.instantiable RX7 4).before args s = true := hts _ q_34
  have li_X7 : (Cond.initialized RX7).before args s = true := hts _ q_35
  have ln_49 : va_Nw (.methodLinkNest RX8 49 yX7_init "GrammarAmbiguity") s := hE.2.1 _ (by decide +kernel)
  have lf_52 : (Cond.fieldLink RX8 52 "GrammarAmbiguity" "words" "LGrammarAmbiguity$WordCounts;").before args s = true := hts _ q_36
  have lc_56 : (Cond.classLink RX8 56 RX5).before args s = true := hts _ q_37
  have lq_X5 : (Cond.instantiable RX5 11).before args s = true := hts _ q_38
  have li_X5 : (Cond.initialized RX5).before args s = true := hts _ q_39
  have ln_58 : va_Nw (.methodLinkNest RX8 58 yX5_init "GrammarAmbiguity") s := hE.2.1 _ (by decide +kernel)
  have lf_59 : (Cond.fieldLink RX8 59 "GrammarAmbiguity" "tree" "LGrammarAmbiguity$Tree;").before args s = true := hts _ q_40
  have lc_63 : (Cond.classLink RX8 63 RX3).before args s = true := hts _ q_41
  have lq_X3 : (Cond.instantiable RX3 4).before args s = true := hts _ q_42
  have li_X3 : (Cond.initialized RX3).before args s = true := hts _ q_43
  have ln_65 : va_Nw (.methodLinkNest RX8 65 yX3_init "GrammarAmbiguity") s := hE.2.1 _ (by decide +kernel)
  have lf_66 : (Cond.fieldLink RX8 66 "GrammarAmbiguity" "slots" "LGrammarAmbiguity$Slots;").before args s = true := hts _ q_44
  have lf_70 : (Cond.fieldLink RX8 70 "GrammarAmbiguity" "saved" "Z").before args s = true := hts _ q_45
  refine lv_aload_n hx hb dX8_init_0 rfl (lv_at hl 0 rfl) ?_
  refine W.objInit hx hb hown lo1 lo2 lo3 rfl (by rw [hml]; exact hl.1) rfl dX8_init_1 (Nat.le_of_ble_eq_true rfl) (Nat.le_of_ble_eq_true rfl) ?_
  refine W.eq (g2 := F0 m 4 ls []) rfl ?_
  refine lv_aload_n hx hb dX8_init_4 rfl (lv_at hl 0 rfl) ?_
  refine va_new (D := X.1) (cl := vwCl) (ci := 0) (fs := [.int 0, .int 0, .int 0, .int 0, .null, .null, .null]) (C := RX1) (T := TX1) (N := 7) hx hb hts i_X1 tyX1 tyX1_ok hown lc_9 lq_X1 li_X1 hK hP hD hS hA rfl (fun j hj => by rcases (show j = 0 ∨ j = 1 ∨ j = 2 ∨ j = 3 ∨ j = 4 ∨ j = 5 ∨ j = 6 by omega) with rfl | rfl | rfl | rfl | rfl | rfl | rfl <;> rfl) (Nat.le_of_ble_eq_true rfl) (Nat.le_of_ble_eq_true rfl) dX8_init_5 (fun q1 H hP hD hS => ?_)
  have hP : va_P X.1 vwCl [(h0, .inr (7, [.null, .null, .null, .null, .null, .null, .null, .null, .null, .int 0])), (q1, .inr (0, [.int 0, .int 0, .int 0, .int 0, .null, .null, .null]))] H := hP
  have hD : va_D A [(h0, .inr (7, [.null, .null, .null, .null, .null, .null, .null, .null, .null, .int 0])), (q1, .inr (0, [.int 0, .int 0, .int 0, .int 0, .null, .null, .null]))] := hD
  refine lv_dup hx hb dX8_init_8 rfl ?_
  have hPc := hP.sub (ws' := [(q1, .inr (0, [.int 0, .int 0, .int 0, .int 0, .null, .null, .null]))]) [1] rfl
  have hDc := hD.sub (ws' := [(q1, .inr (0, [.int 0, .int 0, .int 0, .int 0, .null, .null, .null]))]) [1] (by decide) rfl
  have hFc := va_free (wc := [(q1, .inr (0, [.int 0, .int 0, .int 0, .int 0, .null, .null, .null]))]) hD hS hA [1] rfl
  refine va_callv (va_runIN (As := []) (rest := [.ref q1, .ref h0]) ⟨hx, hb, hml, hown, hts⟩ (nX1_init l X _ q1 ) ⟨va_cnB 0 hts (gN q_47) rfl rfl rfl ln_11 (hts _ q_17) (by decide +kernel) ⟨Nat.le_of_ble_eq_true rfl, Nat.le_of_ble_eq_true rfl⟩, rfl, hts _ q_46⟩ ⟨n_blind, n_pre hC hS hPc hDc hFc⟩ rfl rfl hl.1 rfl (lv_room (Nat.le_of_ble_eq_true rfl)) dX8_init_9 ⟨Nat.le_of_ble_eq_true rfl, Nat.le_of_ble_eq_true rfl⟩) hS (fun q _ h => hFc q h) hFc (fun _ t H1 locs ht hvm hw hB hz1 hk1 hS => ?_)
  obtain ⟨q2, q3, q4, hP1, hD1⟩ := hB
  rw [ht] at hP1
  obtain ⟨hP, hD⟩ := va_join (wr := [(h0, .inr (7, [.null, .null, .null, .null, .null, .null, .null, .null, .null, .int 0]))]) (w1 := [(q1, .inr (0, [.int 1, .int 2, .int 0, .int 0, .ref q2, .ref q3, .ref q4])), (q2, .inl (xc X 0, 96, .inl (fun _ => 0))), (q3, .inl (xc X 0, 6, .inl (fun _ => 0))), (q4, .inl (xc X 2, 6, .inl (fun _ => 0)))]) hP hD [1] [0] rfl rfl (by decide) (by decide) hk1 hFc hP1 hD1
  generalize H1 = H at hP hS ⊢
  have hP : va_P X.1 vwCl [(h0, .inr (7, [.null, .null, .null, .null, .null, .null, .null, .null, .null, .int 0])), (q1, .inr (0, [.int 1, .int 2, .int 0, .int 0, .ref q2, .ref q3, .ref q4])), (q2, .inl (xc X 0, 96, .inl (fun _ => 0))), (q3, .inl (xc X 0, 6, .inl (fun _ => 0))), (q4, .inl (xc X 2, 6, .inl (fun _ => 0)))] H := hP
  have hD : va_D A [(h0, .inr (7, [.null, .null, .null, .null, .null, .null, .null, .null, .null, .int 0])), (q1, .inr (0, [.int 1, .int 2, .int 0, .int 0, .ref q2, .ref q3, .ref q4])), (q2, .inl (xc X 0, 96, .inl (fun _ => 0))), (q3, .inl (xc X 0, 6, .inl (fun _ => 0))), (q4, .inl (xc X 2, 6, .inl (fun _ => 0)))] := hD
  refine va_putF (D := X.1) (ci := 7) (v := .ref q1) (ty := .object "GrammarAmbiguity$Grammar") (C := RX8) (T := TX8) (N := 10) hx hb hts i_X8 tyX8 tyX8_ok nmX8 hown hK hP hD hS 0 rfl rfl 0 (by decide) lf_12 (fun _ h9 => h9) rfl hin rfl (by decide +kernel) rfl rfl (Nat.le_of_ble_eq_true rfl) dX8_init_12 (fun H locs hP hD hS => ?_)
  have hP : va_P X.1 vwCl [(h0, .inr (7, [.ref q1, .null, .null, .null, .null, .null, .null, .null, .null, .int 0])), (q1, .inr (0, [.int 1, .int 2, .int 0, .int 0, .ref q2, .ref q3, .ref q4])), (q2, .inl (xc X 0, 96, .inl (fun _ => 0))), (q3, .inl (xc X 0, 6, .inl (fun _ => 0))), (q4, .inl (xc X 2, 6, .inl (fun _ => 0)))] H := hP
  have hD : va_D A [(h0, .inr (7, [.ref q1, .null, .null, .null, .null, .null, .null, .null, .null, .int 0])), (q1, .inr (0, [.int 1, .int 2, .int 0, .int 0, .ref q2, .ref q3, .ref q4])), (q2, .inl (xc X 0, 96, .inl (fun _ => 0))), (q3, .inl (xc X 0, 6, .inl (fun _ => 0))), (q4, .inl (xc X 2, 6, .inl (fun _ => 0)))] := hD
  refine lv_aload_n hx hb dX8_init_15 rfl (lv_at hl 0 rfl) ?_
  refine va_new (D := X.1) (cl := vwCl) (ci := 5) (fs := [.int 0, .null]) (C := RX6) (T := TX6) (N := 2) hx hb hts i_X6 tyX6 tyX6_ok hown lc_16 lq_X6 li_X6 hK hP hD hS hA rfl (fun j hj => by rcases (show j = 0 ∨ j = 1 by omega) with rfl | rfl <;> rfl) (Nat.le_of_ble_eq_true rfl) (Nat.le_of_ble_eq_true rfl) dX8_init_16 (fun q5 H hP hD hS => ?_)
  have hP : va_P X.1 vwCl [(h0, .inr (7, [.ref q1, .null, .null, .null, .null, .null, .null, .null, .null, .int 0])), (q1, .inr (0, [.int 1, .int 2, .int 0, .int 0, .ref q2, .ref q3, .ref q4])), (q2, .inl (xc X 0, 96, .inl (fun _ => 0))), (q3, .inl (xc X 0, 6, .inl (fun _ => 0))), (q4, .inl (xc X 2, 6, .inl (fun _ => 0))), (q5, .inr (5, [.int 0, .null]))] H := hP
  have hD : va_D A [(h0, .inr (7, [.ref q1, .null, .null, .null, .null, .null, .null, .null, .null, .int 0])), (q1, .inr (0, [.int 1, .int 2, .int 0, .int 0, .ref q2, .ref q3, .ref q4])), (q2, .inl (xc X 0, 96, .inl (fun _ => 0))), (q3, .inl (xc X 0, 6, .inl (fun _ => 0))), (q4, .inl (xc X 2, 6, .inl (fun _ => 0))), (q5, .inr (5, [.int 0, .null]))] := hD
  refine lv_dup hx hb dX8_init_19 rfl ?_
  have hPc := hP.sub (ws' := [(q5, .inr (5, [.int 0, .null]))]) [5] rfl
  have hDc := hD.sub (ws' := [(q5, .inr (5, [.int 0, .null]))]) [5] (by decide) rfl
  have hFc := va_free (wc := [(q5, .inr (5, [.int 0, .null]))]) hD hS hA [5] rfl
  refine va_callv (va_runIN (As := []) (rest := [.ref q5, .ref h0]) ⟨hx, hb, hml, hown, hts⟩ (nX6_init l X _ q5 ) ⟨va_cnB 0 hts (gN q_59) rfl rfl rfl ln_18 (hts _ q_21) (by decide +kernel) ⟨Nat.le_of_ble_eq_true rfl, Nat.le_of_ble_eq_true rfl⟩, rfl, hts _ q_58⟩ ⟨n_blind, n_pre hC hS hPc hDc hFc⟩ rfl rfl hl.1 rfl (lv_room (Nat.le_of_ble_eq_true rfl)) dX8_init_20 ⟨Nat.le_of_ble_eq_true rfl, Nat.le_of_ble_eq_true rfl⟩) hS (fun q _ h => hFc q h) hFc (fun _ t H1 locs ht hvm hw hB hz1 hk1 hS => ?_)
  obtain ⟨q6, hP1, hD1⟩ := hB
  rw [ht] at hP1
  obtain ⟨hP, hD⟩ := va_join (wr := [(h0, .inr (7, [.ref q1, .null, .null, .null, .null, .null, .null, .null, .null, .int 0])), (q1, .inr (0, [.int 1, .int 2, .int 0, .int 0, .ref q2, .ref q3, .ref q4])), (q2, .inl (xc X 0, 96, .inl (fun _ => 0))), (q3, .inl (xc X 0, 6, .inl (fun _ => 0))), (q4, .inl (xc X 2, 6, .inl (fun _ => 0)))]) (w1 := [(q5, .inr (5, [.int 0, .ref q6])), (q6, .inl (xc X 0, 8, .inl (fun _ => 0)))]) hP hD [5] [0, 1, 2, 3, 4] rfl rfl (by decide) (by decide) hk1 hFc hP1 hD1
  generalize H1 = H at hP hS ⊢
  have hP : va_P X.1 vwCl [(h0, .inr (7, [.ref q1, .null, .null, .null, .null, .null, .null, .null, .null, .int 0])), (q1, .inr (0, [.int 1, .int 2, .int 0, .int 0, .ref q2, .ref q3, .ref q4])), (q2, .inl (xc X 0, 96, .inl (fun _ => 0))), (q3, .inl (xc X 0, 6, .inl (fun _ => 0))), (q4, .inl (xc X 2, 6, .inl (fun _ => 0))), (q5, .inr (5, [.int 0, .ref q6])), (q6, .inl (xc X 0, 8, .inl (fun _ => 0)))] H := hP
  have hD : va_D A [(h0, .inr (7, [.ref q1, .null, .null, .null, .null, .null, .null, .null, .null, .int 0])), (q1, .inr (0, [.int 1, .int 2, .int 0, .int 0, .ref q2, .ref q3, .ref q4])), (q2, .inl (xc X 0, 96, .inl (fun _ => 0))), (q3, .inl (xc X 0, 6, .inl (fun _ => 0))), (q4, .inl (xc X 2, 6, .inl (fun _ => 0))), (q5, .inr (5, [.int 0, .ref q6])), (q6, .inl (xc X 0, 8, .inl (fun _ => 0)))] := hD
  refine va_putF (D := X.1) (ci := 7) (v := .ref q5) (ty := .object "GrammarAmbiguity$Word") (C := RX8) (T := TX8) (N := 10) hx hb hts i_X8 tyX8 tyX8_ok nmX8 hown hK hP hD hS 0 rfl rfl 1 (by decide) lf_19 (fun _ h9 => h9) rfl hin rfl (by decide +kernel) rfl rfl (Nat.le_of_ble_eq_true rfl) dX8_init_23 (fun H locs hP hD hS => ?_)
  have hP : va_P X.1 vwCl [(h0, .inr (7, [.ref q1, .ref q5, .null, .null, .null, .null, .null, .null, .null, .int 0])), (q1, .inr (0, [.int 1, .int 2, .int 0, .int 0, .ref q2, .ref q3, .ref q4])), (q2, .inl (xc X 0, 96, .inl (fun _ => 0))), (q3, .inl (xc X 0, 6, .inl (fun _ => 0))), (q4, .inl (xc X 2, 6, .inl (fun _ => 0))), (q5, .inr (5, [.int 0, .ref q6])), (q6, .inl (xc X 0, 8, .inl (fun _ => 0)))] H := hP
  have hD : va_D A [(h0, .inr (7, [.ref q1, .ref q5, .null, .null, .null, .null, .null, .null, .null, .int 0])), (q1, .inr (0, [.int 1, .int 2, .int 0, .int 0, .ref q2, .ref q3, .ref q4])), (q2, .inl (xc X 0, 96, .inl (fun _ => 0))), (q3, .inl (xc X 0, 6, .inl (fun _ => 0))), (q4, .inl (xc X 2, 6, .inl (fun _ => 0))), (q5, .inr (5, [.int 0, .ref q6])), (q6, .inl (xc X 0, 8, .inl (fun _ => 0)))] := hD
  refine lv_aload_n hx hb dX8_init_26 rfl (lv_at hl 0 rfl) ?_
  refine va_new (D := X.1) (cl := vwCl) (ci := 0) (fs := [.int 0, .int 0, .int 0, .int 0, .null, .null, .null]) (C := RX1) (T := TX1) (N := 7) hx hb hts i_X1 tyX1 tyX1_ok hown lc_9 lq_X1 li_X1 hK hP hD hS hA rfl (fun j hj => by rcases (show j = 0 ∨ j = 1 ∨ j = 2 ∨ j = 3 ∨ j = 4 ∨ j = 5 ∨ j = 6 by omega) with rfl | rfl | rfl | rfl | rfl | rfl | rfl <;> rfl) (Nat.le_of_ble_eq_true rfl) (Nat.le_of_ble_eq_true rfl) dX8_init_27 (fun q7 H hP hD hS => ?_)
  have hP : va_P X.1 vwCl [(h0, .inr (7, [.ref q1, .ref q5, .null, .null, .null, .null, .null, .null, .null, .int 0])), (q1, .inr (0, [.int 1, .int 2, .int 0, .int 0, .ref q2, .ref q3, .ref q4])), (q2, .inl (xc X 0, 96, .inl (fun _ => 0))), (q3, .inl (xc X 0, 6, .inl (fun _ => 0))), (q4, .inl (xc X 2, 6, .inl (fun _ => 0))), (q5, .inr (5, [.int 0, .ref q6])), (q6, .inl (xc X 0, 8, .inl (fun _ => 0))), (q7, .inr (0, [.int 0, .int 0, .int 0, .int 0, .null, .null, .null]))] H := hP
  have hD : va_D A [(h0, .inr (7, [.ref q1, .ref q5, .null, .null, .null, .null, .null, .null, .null, .int 0])), (q1, .inr (0, [.int 1, .int 2, .int 0, .int 0, .ref q2, .ref q3, .ref q4])), (q2, .inl (xc X 0, 96, .inl (fun _ => 0))), (q3, .inl (xc X 0, 6, .inl (fun _ => 0))), (q4, .inl (xc X 2, 6, .inl (fun _ => 0))), (q5, .inr (5, [.int 0, .ref q6])), (q6, .inl (xc X 0, 8, .inl (fun _ => 0))), (q7, .inr (0, [.int 0, .int 0, .int 0, .int 0, .null, .null, .null]))] := hD
  refine lv_dup hx hb dX8_init_30 rfl ?_
  have hPc := hP.sub (ws' := [(q7, .inr (0, [.int 0, .int 0, .int 0, .int 0, .null, .null, .null]))]) [7] rfl
  have hDc := hD.sub (ws' := [(q7, .inr (0, [.int 0, .int 0, .int 0, .int 0, .null, .null, .null]))]) [7] (by decide) rfl
  have hFc := va_free (wc := [(q7, .inr (0, [.int 0, .int 0, .int 0, .int 0, .null, .null, .null]))]) hD hS hA [7] rfl
  refine va_callv (va_runIN (As := []) (rest := [.ref q7, .ref h0]) ⟨hx, hb, hml, hown, hts⟩ (nX1_init l X _ q7 ) ⟨va_cnB 0 hts (gN q_47) rfl rfl rfl ln_11 (hts _ q_17) (by decide +kernel) ⟨Nat.le_of_ble_eq_true rfl, Nat.le_of_ble_eq_true rfl⟩, rfl, hts _ q_46⟩ ⟨n_blind, n_pre hC hS hPc hDc hFc⟩ rfl rfl hl.1 rfl (lv_room (Nat.le_of_ble_eq_true rfl)) dX8_init_31 ⟨Nat.le_of_ble_eq_true rfl, Nat.le_of_ble_eq_true rfl⟩) hS (fun q _ h => hFc q h) hFc (fun _ t H1 locs ht hvm hw hB hz1 hk1 hS => ?_)
  obtain ⟨q8, q9, q10, hP1, hD1⟩ := hB
  rw [ht] at hP1
  obtain ⟨hP, hD⟩ := va_join (wr := [(h0, .inr (7, [.ref q1, .ref q5, .null, .null, .null, .null, .null, .null, .null, .int 0])), (q1, .inr (0, [.int 1, .int 2, .int 0, .int 0, .ref q2, .ref q3, .ref q4])), (q2, .inl (xc X 0, 96, .inl (fun _ => 0))), (q3, .inl (xc X 0, 6, .inl (fun _ => 0))), (q4, .inl (xc X 2, 6, .inl (fun _ => 0))), (q5, .inr (5, [.int 0, .ref q6])), (q6, .inl (xc X 0, 8, .inl (fun _ => 0)))]) (w1 := [(q7, .inr (0, [.int 1, .int 2, .int 0, .int 0, .ref q8, .ref q9, .ref q10])), (q8, .inl (xc X 0, 96, .inl (fun _ => 0))), (q9, .inl (xc X 0, 6, .inl (fun _ => 0))), (q10, .inl (xc X 2, 6, .inl (fun _ => 0)))]) hP hD [7] [0, 1, 2, 3, 4, 5, 6] rfl rfl (by decide) (by decide) hk1 hFc hP1 hD1
  generalize H1 = H at hP hS ⊢
  have hP : va_P X.1 vwCl [(h0, .inr (7, [.ref q1, .ref q5, .null, .null, .null, .null, .null, .null, .null, .int 0])), (q1, .inr (0, [.int 1, .int 2, .int 0, .int 0, .ref q2, .ref q3, .ref q4])), (q2, .inl (xc X 0, 96, .inl (fun _ => 0))), (q3, .inl (xc X 0, 6, .inl (fun _ => 0))), (q4, .inl (xc X 2, 6, .inl (fun _ => 0))), (q5, .inr (5, [.int 0, .ref q6])), (q6, .inl (xc X 0, 8, .inl (fun _ => 0))), (q7, .inr (0, [.int 1, .int 2, .int 0, .int 0, .ref q8, .ref q9, .ref q10])), (q8, .inl (xc X 0, 96, .inl (fun _ => 0))), (q9, .inl (xc X 0, 6, .inl (fun _ => 0))), (q10, .inl (xc X 2, 6, .inl (fun _ => 0)))] H := hP
  have hD : va_D A [(h0, .inr (7, [.ref q1, .ref q5, .null, .null, .null, .null, .null, .null, .null, .int 0])), (q1, .inr (0, [.int 1, .int 2, .int 0, .int 0, .ref q2, .ref q3, .ref q4])), (q2, .inl (xc X 0, 96, .inl (fun _ => 0))), (q3, .inl (xc X 0, 6, .inl (fun _ => 0))), (q4, .inl (xc X 2, 6, .inl (fun _ => 0))), (q5, .inr (5, [.int 0, .ref q6])), (q6, .inl (xc X 0, 8, .inl (fun _ => 0))), (q7, .inr (0, [.int 1, .int 2, .int 0, .int 0, .ref q8, .ref q9, .ref q10])), (q8, .inl (xc X 0, 96, .inl (fun _ => 0))), (q9, .inl (xc X 0, 6, .inl (fun _ => 0))), (q10, .inl (xc X 2, 6, .inl (fun _ => 0)))] := hD
  refine va_putF (D := X.1) (ci := 7) (v := .ref q7) (ty := .object "GrammarAmbiguity$Grammar") (C := RX8) (T := TX8) (N := 10) hx hb hts i_X8 tyX8 tyX8_ok nmX8 hown hK hP hD hS 0 rfl rfl 2 (by decide) lf_23 (fun _ h9 => h9) rfl hin rfl (by decide +kernel) rfl rfl (Nat.le_of_ble_eq_true rfl) dX8_init_34 (fun H locs hP hD hS => ?_)
  have hP : va_P X.1 vwCl [(h0, .inr (7, [.ref q1, .ref q5, .ref q7, .null, .null, .null, .null, .null, .null, .int 0])), (q1, .inr (0, [.int 1, .int 2, .int 0, .int 0, .ref q2, .ref q3, .ref q4])), (q2, .inl (xc X 0, 96, .inl (fun _ => 0))), (q3, .inl (xc X 0, 6, .inl (fun _ => 0))), (q4, .inl (xc X 2, 6, .inl (fun _ => 0))), (q5, .inr (5, [.int 0, .ref q6])), (q6, .inl (xc X 0, 8, .inl (fun _ => 0))), (q7, .inr (0, [.int 1, .int 2, .int 0, .int 0, .ref q8, .ref q9, .ref q10])), (q8, .inl (xc X 0, 96, .inl (fun _ => 0))), (q9, .inl (xc X 0, 6, .inl (fun _ => 0))), (q10, .inl (xc X 2, 6, .inl (fun _ => 0)))] H := hP
  have hD : va_D A [(h0, .inr (7, [.ref q1, .ref q5, .ref q7, .null, .null, .null, .null, .null, .null, .int 0])), (q1, .inr (0, [.int 1, .int 2, .int 0, .int 0, .ref q2, .ref q3, .ref q4])), (q2, .inl (xc X 0, 96, .inl (fun _ => 0))), (q3, .inl (xc X 0, 6, .inl (fun _ => 0))), (q4, .inl (xc X 2, 6, .inl (fun _ => 0))), (q5, .inr (5, [.int 0, .ref q6])), (q6, .inl (xc X 0, 8, .inl (fun _ => 0))), (q7, .inr (0, [.int 1, .int 2, .int 0, .int 0, .ref q8, .ref q9, .ref q10])), (q8, .inl (xc X 0, 96, .inl (fun _ => 0))), (q9, .inl (xc X 0, 6, .inl (fun _ => 0))), (q10, .inl (xc X 2, 6, .inl (fun _ => 0)))] := hD
  refine lv_aload_n hx hb dX8_init_37 rfl (lv_at hl 0 rfl) ?_
  refine va_new (D := X.1) (cl := vwCl) (ci := 5) (fs := [.int 0, .null]) (C := RX6) (T := TX6) (N := 2) hx hb hts i_X6 tyX6 tyX6_ok hown lc_16 lq_X6 li_X6 hK hP hD hS hA rfl (fun j hj => by rcases (show j = 0 ∨ j = 1 by omega) with rfl | rfl <;> rfl) (Nat.le_of_ble_eq_true rfl) (Nat.le_of_ble_eq_true rfl) dX8_init_38 (fun q11 H hP hD hS => ?_)
  have hP : va_P X.1 vwCl [(h0, .inr (7, [.ref q1, .ref q5, .ref q7, .null, .null, .null, .null, .null, .null, .int 0])), (q1, .inr (0, [.int 1, .int 2, .int 0, .int 0, .ref q2, .ref q3, .ref q4])), (q2, .inl (xc X 0, 96, .inl (fun _ => 0))), (q3, .inl (xc X 0, 6, .inl (fun _ => 0))), (q4, .inl (xc X 2, 6, .inl (fun _ => 0))), (q5, .inr (5, [.int 0, .ref q6])), (q6, .inl (xc X 0, 8, .inl (fun _ => 0))), (q7, .inr (0, [.int 1, .int 2, .int 0, .int 0, .ref q8, .ref q9, .ref q10])), (q8, .inl (xc X 0, 96, .inl (fun _ => 0))), (q9, .inl (xc X 0, 6, .inl (fun _ => 0))), (q10, .inl (xc X 2, 6, .inl (fun _ => 0))), (q11, .inr (5, [.int 0, .null]))] H := hP
  have hD : va_D A [(h0, .inr (7, [.ref q1, .ref q5, .ref q7, .null, .null, .null, .null, .null, .null, .int 0])), (q1, .inr (0, [.int 1, .int 2, .int 0, .int 0, .ref q2, .ref q3, .ref q4])), (q2, .inl (xc X 0, 96, .inl (fun _ => 0))), (q3, .inl (xc X 0, 6, .inl (fun _ => 0))), (q4, .inl (xc X 2, 6, .inl (fun _ => 0))), (q5, .inr (5, [.int 0, .ref q6])), (q6, .inl (xc X 0, 8, .inl (fun _ => 0))), (q7, .inr (0, [.int 1, .int 2, .int 0, .int 0, .ref q8, .ref q9, .ref q10])), (q8, .inl (xc X 0, 96, .inl (fun _ => 0))), (q9, .inl (xc X 0, 6, .inl (fun _ => 0))), (q10, .inl (xc X 2, 6, .inl (fun _ => 0))), (q11, .inr (5, [.int 0, .null]))] := hD
  refine lv_dup hx hb dX8_init_41 rfl ?_
  have hPc := hP.sub (ws' := [(q11, .inr (5, [.int 0, .null]))]) [11] rfl
  have hDc := hD.sub (ws' := [(q11, .inr (5, [.int 0, .null]))]) [11] (by decide) rfl
  have hFc := va_free (wc := [(q11, .inr (5, [.int 0, .null]))]) hD hS hA [11] rfl
  refine va_callv (va_runIN (As := []) (rest := [.ref q11, .ref h0]) ⟨hx, hb, hml, hown, hts⟩ (nX6_init l X _ q11 ) ⟨va_cnB 0 hts (gN q_59) rfl rfl rfl ln_18 (hts _ q_21) (by decide +kernel) ⟨Nat.le_of_ble_eq_true rfl, Nat.le_of_ble_eq_true rfl⟩, rfl, hts _ q_58⟩ ⟨n_blind, n_pre hC hS hPc hDc hFc⟩ rfl rfl hl.1 rfl (lv_room (Nat.le_of_ble_eq_true rfl)) dX8_init_42 ⟨Nat.le_of_ble_eq_true rfl, Nat.le_of_ble_eq_true rfl⟩) hS (fun q _ h => hFc q h) hFc (fun _ t H1 locs ht hvm hw hB hz1 hk1 hS => ?_)
  obtain ⟨q12, hP1, hD1⟩ := hB
  rw [ht] at hP1
  obtain ⟨hP, hD⟩ := va_join (wr := [(h0, .inr (7, [.ref q1, .ref q5, .ref q7, .null, .null, .null, .null, .null, .null, .int 0])), (q1, .inr (0, [.int 1, .int 2, .int 0, .int 0, .ref q2, .ref q3, .ref q4])), (q2, .inl (xc X 0, 96, .inl (fun _ => 0))), (q3, .inl (xc X 0, 6, .inl (fun _ => 0))), (q4, .inl (xc X 2, 6, .inl (fun _ => 0))), (q5, .inr (5, [.int 0, .ref q6])), (q6, .inl (xc X 0, 8, .inl (fun _ => 0))), (q7, .inr (0, [.int 1, .int 2, .int 0, .int 0, .ref q8, .ref q9, .ref q10])), (q8, .inl (xc X 0, 96, .inl (fun _ => 0))), (q9, .inl (xc X 0, 6, .inl (fun _ => 0))), (q10, .inl (xc X 2, 6, .inl (fun _ => 0)))]) (w1 := [(q11, .inr (5, [.int 0, .ref q12])), (q12, .inl (xc X 0, 8, .inl (fun _ => 0)))]) hP hD [11] [0, 1, 2, 3, 4, 5, 6, 7, 8, 9, 10] rfl rfl (by decide) (by decide) hk1 hFc hP1 hD1
  generalize H1 = H at hP hS ⊢
  have hP : va_P X.1 vwCl [(h0, .inr (7, [.ref q1, .ref q5, .ref q7, .null, .null, .null, .null, .null, .null, .int 0])), (q1, .inr (0, [.int 1, .int 2, .int 0, .int 0, .ref q2, .ref q3, .ref q4])), (q2, .inl (xc X 0, 96, .inl (fun _ => 0))), (q3, .inl (xc X 0, 6, .inl (fun _ => 0))), (q4, .inl (xc X 2, 6, .inl (fun _ => 0))), (q5, .inr (5, [.int 0, .ref q6])), (q6, .inl (xc X 0, 8, .inl (fun _ => 0))), (q7, .inr (0, [.int 1, .int 2, .int 0, .int 0, .ref q8, .ref q9, .ref q10])), (q8, .inl (xc X 0, 96, .inl (fun _ => 0))), (q9, .inl (xc X 0, 6, .inl (fun _ => 0))), (q10, .inl (xc X 2, 6, .inl (fun _ => 0))), (q11, .inr (5, [.int 0, .ref q12])), (q12, .inl (xc X 0, 8, .inl (fun _ => 0)))] H := hP
  have hD : va_D A [(h0, .inr (7, [.ref q1, .ref q5, .ref q7, .null, .null, .null, .null, .null, .null, .int 0])), (q1, .inr (0, [.int 1, .int 2, .int 0, .int 0, .ref q2, .ref q3, .ref q4])), (q2, .inl (xc X 0, 96, .inl (fun _ => 0))), (q3, .inl (xc X 0, 6, .inl (fun _ => 0))), (q4, .inl (xc X 2, 6, .inl (fun _ => 0))), (q5, .inr (5, [.int 0, .ref q6])), (q6, .inl (xc X 0, 8, .inl (fun _ => 0))), (q7, .inr (0, [.int 1, .int 2, .int 0, .int 0, .ref q8, .ref q9, .ref q10])), (q8, .inl (xc X 0, 96, .inl (fun _ => 0))), (q9, .inl (xc X 0, 6, .inl (fun _ => 0))), (q10, .inl (xc X 2, 6, .inl (fun _ => 0))), (q11, .inr (5, [.int 0, .ref q12])), (q12, .inl (xc X 0, 8, .inl (fun _ => 0)))] := hD
  refine va_putF (D := X.1) (ci := 7) (v := .ref q11) (ty := .object "GrammarAmbiguity$Word") (C := RX8) (T := TX8) (N := 10) hx hb hts i_X8 tyX8 tyX8_ok nmX8 hown hK hP hD hS 0 rfl rfl 3 (by decide) lf_26 (fun _ h9 => h9) rfl hin rfl (by decide +kernel) rfl rfl (Nat.le_of_ble_eq_true rfl) dX8_init_45 (fun H locs hP hD hS => ?_)
  have hP : va_P X.1 vwCl [(h0, .inr (7, [.ref q1, .ref q5, .ref q7, .ref q11, .null, .null, .null, .null, .null, .int 0])), (q1, .inr (0, [.int 1, .int 2, .int 0, .int 0, .ref q2, .ref q3, .ref q4])), (q2, .inl (xc X 0, 96, .inl (fun _ => 0))), (q3, .inl (xc X 0, 6, .inl (fun _ => 0))), (q4, .inl (xc X 2, 6, .inl (fun _ => 0))), (q5, .inr (5, [.int 0, .ref q6])), (q6, .inl (xc X 0, 8, .inl (fun _ => 0))), (q7, .inr (0, [.int 1, .int 2, .int 0, .int 0, .ref q8, .ref q9, .ref q10])), (q8, .inl (xc X 0, 96, .inl (fun _ => 0))), (q9, .inl (xc X 0, 6, .inl (fun _ => 0))), (q10, .inl (xc X 2, 6, .inl (fun _ => 0))), (q11, .inr (5, [.int 0, .ref q12])), (q12, .inl (xc X 0, 8, .inl (fun _ => 0)))] H := hP
  have hD : va_D A [(h0, .inr (7, [.ref q1, .ref q5, .ref q7, .ref q11, .null, .null, .null, .null, .null, .int 0])), (q1, .inr (0, [.int 1, .int 2, .int 0, .int 0, .ref q2, .ref q3, .ref q4])), (q2, .inl (xc X 0, 96, .inl (fun _ => 0))), (q3, .inl (xc X 0, 6, .inl (fun _ => 0))), (q4, .inl (xc X 2, 6, .inl (fun _ => 0))), (q5, .inr (5, [.int 0, .ref q6])), (q6, .inl (xc X 0, 8, .inl (fun _ => 0))), (q7, .inr (0, [.int 1, .int 2, .int 0, .int 0, .ref q8, .ref q9, .ref q10])), (q8, .inl (xc X 0, 96, .inl (fun _ => 0))), (q9, .inl (xc X 0, 6, .inl (fun _ => 0))), (q10, .inl (xc X 2, 6, .inl (fun _ => 0))), (q11, .inr (5, [.int 0, .ref q12])), (q12, .inl (xc X 0, 8, .inl (fun _ => 0)))] := hD
  refine lv_aload_n hx hb dX8_init_48 rfl (lv_at hl 0 rfl) ?_
  refine va_new (D := X.1) (cl := vwCl) (ci := 1) (fs := [.null, .null, .int 0]) (C := RX2) (T := TX2) (N := 3) hx hb hts i_X2 tyX2 tyX2_ok hown lc_29 lq_X2 li_X2 hK hP hD hS hA rfl (fun j hj => by rcases (show j = 0 ∨ j = 1 ∨ j = 2 by omega) with rfl | rfl | rfl <;> rfl) (Nat.le_of_ble_eq_true rfl) (Nat.le_of_ble_eq_true rfl) dX8_init_49 (fun q13 H hP hD hS => ?_)
  have hP : va_P X.1 vwCl [(h0, .inr (7, [.ref q1, .ref q5, .ref q7, .ref q11, .null, .null, .null, .null, .null, .int 0])), (q1, .inr (0, [.int 1, .int 2, .int 0, .int 0, .ref q2, .ref q3, .ref q4])), (q2, .inl (xc X 0, 96, .inl (fun _ => 0))), (q3, .inl (xc X 0, 6, .inl (fun _ => 0))), (q4, .inl (xc X 2, 6, .inl (fun _ => 0))), (q5, .inr (5, [.int 0, .ref q6])), (q6, .inl (xc X 0, 8, .inl (fun _ => 0))), (q7, .inr (0, [.int 1, .int 2, .int 0, .int 0, .ref q8, .ref q9, .ref q10])), (q8, .inl (xc X 0, 96, .inl (fun _ => 0))), (q9, .inl (xc X 0, 6, .inl (fun _ => 0))), (q10, .inl (xc X 2, 6, .inl (fun _ => 0))), (q11, .inr (5, [.int 0, .ref q12])), (q12, .inl (xc X 0, 8, .inl (fun _ => 0))), (q13, .inr (1, [.null, .null, .int 0]))] H := hP
  have hD : va_D A [(h0, .inr (7, [.ref q1, .ref q5, .ref q7, .ref q11, .null, .null, .null, .null, .null, .int 0])), (q1, .inr (0, [.int 1, .int 2, .int 0, .int 0, .ref q2, .ref q3, .ref q4])), (q2, .inl (xc X 0, 96, .inl (fun _ => 0))), (q3, .inl (xc X 0, 6, .inl (fun _ => 0))), (q4, .inl (xc X 2, 6, .inl (fun _ => 0))), (q5, .inr (5, [.int 0, .ref q6])), (q6, .inl (xc X 0, 8, .inl (fun _ => 0))), (q7, .inr (0, [.int 1, .int 2, .int 0, .int 0, .ref q8, .ref q9, .ref q10])), (q8, .inl (xc X 0, 96, .inl (fun _ => 0))), (q9, .inl (xc X 0, 6, .inl (fun _ => 0))), (q10, .inl (xc X 2, 6, .inl (fun _ => 0))), (q11, .inr (5, [.int 0, .ref q12])), (q12, .inl (xc X 0, 8, .inl (fun _ => 0))), (q13, .inr (1, [.null, .null, .int 0]))] := hD
  refine lv_dup hx hb dX8_init_52 rfl ?_
  refine lv_aload_n hx hb dX8_init_53 rfl (lv_at hl 0 rfl) ?_
  refine va_get (D := X.1) (ci := 7) (v := .ref q1) (C := RX8) (T := TX8) (N := 10) hx hb hts i_X8 hown hK hP 0 rfl rfl 0 (by decide) lf_12 (fun _ h9 => h9) rfl dX8_init_54 ?_
  have hPc := hP.sub (ws' := [(q13, .inr (1, [.null, .null, .int 0]))]) [13] rfl
  have hDc := hD.sub (ws' := [(q13, .inr (1, [.null, .null, .int 0]))]) [13] (by decide) rfl
  have hFc := va_free (wc := [(q13, .inr (1, [.null, .null, .int 0]))]) hD hS hA [13] rfl
  refine va_callv (va_runIN (As := [.ref q1]) (rest := [.ref q13, .ref h0]) ⟨hx, hb, hml, hown, hts⟩ (nX2_init l X _ q13 q1) ⟨va_cnB 1 hts (gN q_64) rfl rfl rfl ln_31 (hts _ q_27) (by decide +kernel) ⟨Nat.le_of_ble_eq_true rfl, Nat.le_of_ble_eq_true rfl⟩, rfl, hts _ q_63⟩ ⟨n_blind, n_pre hC hS hPc hDc hFc⟩ rfl rfl hl.1 rfl (lv_room (Nat.le_of_ble_eq_true rfl)) dX8_init_57 ⟨Nat.le_of_ble_eq_true rfl, Nat.le_of_ble_eq_true rfl⟩) hS (fun q _ h => hFc q h) hFc (fun _ t H1 locs ht hvm hw hB hz1 hk1 hS => ?_)
  obtain ⟨q14, hP1, hD1⟩ := hB
  rw [ht] at hP1
  obtain ⟨hP, hD⟩ := va_join (wr := [(h0, .inr (7, [.ref q1, .ref q5, .ref q7, .ref q11, .null, .null, .null, .null, .null, .int 0])), (q1, .inr (0, [.int 1, .int 2, .int 0, .int 0, .ref q2, .ref q3, .ref q4])), (q2, .inl (xc X 0, 96, .inl (fun _ => 0))), (q3, .inl (xc X 0, 6, .inl (fun _ => 0))), (q4, .inl (xc X 2, 6, .inl (fun _ => 0))), (q5, .inr (5, [.int 0, .ref q6])), (q6, .inl (xc X 0, 8, .inl (fun _ => 0))), (q7, .inr (0, [.int 1, .int 2, .int 0, .int 0, .ref q8, .ref q9, .ref q10])), (q8, .inl (xc X 0, 96, .inl (fun _ => 0))), (q9, .inl (xc X 0, 6, .inl (fun _ => 0))), (q10, .inl (xc X 2, 6, .inl (fun _ => 0))), (q11, .inr (5, [.int 0, .ref q12])), (q12, .inl (xc X 0, 8, .inl (fun _ => 0)))]) (w1 := [(q13, .inr (1, [.ref q1, .ref q14, .int 0])), (q14, .inl (xc X 1, 60, .inr (.inl (fun _ => 0))))]) hP hD [13] [0, 1, 2, 3, 4, 5, 6, 7, 8, 9, 10, 11, 12] rfl rfl (by decide) (by decide) hk1 hFc hP1 hD1
  generalize H1 = H at hP hS ⊢
  have hP : va_P X.1 vwCl [(h0, .inr (7, [.ref q1, .ref q5, .ref q7, .ref q11, .null, .null, .null, .null, .null, .int 0])), (q1, .inr (0, [.int 1, .int 2, .int 0, .int 0, .ref q2, .ref q3, .ref q4])), (q2, .inl (xc X 0, 96, .inl (fun _ => 0))), (q3, .inl (xc X 0, 6, .inl (fun _ => 0))), (q4, .inl (xc X 2, 6, .inl (fun _ => 0))), (q5, .inr (5, [.int 0, .ref q6])), (q6, .inl (xc X 0, 8, .inl (fun _ => 0))), (q7, .inr (0, [.int 1, .int 2, .int 0, .int 0, .ref q8, .ref q9, .ref q10])), (q8, .inl (xc X 0, 96, .inl (fun _ => 0))), (q9, .inl (xc X 0, 6, .inl (fun _ => 0))), (q10, .inl (xc X 2, 6, .inl (fun _ => 0))), (q11, .inr (5, [.int 0, .ref q12])), (q12, .inl (xc X 0, 8, .inl (fun _ => 0))), (q13, .inr (1, [.ref q1, .ref q14, .int 0])), (q14, .inl (xc X 1, 60, .inr (.inl (fun _ => 0))))] H := hP
  have hD : va_D A [(h0, .inr (7, [.ref q1, .ref q5, .ref q7, .ref q11, .null, .null, .null, .null, .null, .int 0])), (q1, .inr (0, [.int 1, .int 2, .int 0, .int 0, .ref q2, .ref q3, .ref q4])), (q2, .inl (xc X 0, 96, .inl (fun _ => 0))), (q3, .inl (xc X 0, 6, .inl (fun _ => 0))), (q4, .inl (xc X 2, 6, .inl (fun _ => 0))), (q5, .inr (5, [.int 0, .ref q6])), (q6, .inl (xc X 0, 8, .inl (fun _ => 0))), (q7, .inr (0, [.int 1, .int 2, .int 0, .int 0, .ref q8, .ref q9, .ref q10])), (q8, .inl (xc X 0, 96, .inl (fun _ => 0))), (q9, .inl (xc X 0, 6, .inl (fun _ => 0))), (q10, .inl (xc X 2, 6, .inl (fun _ => 0))), (q11, .inr (5, [.int 0, .ref q12])), (q12, .inl (xc X 0, 8, .inl (fun _ => 0))), (q13, .inr (1, [.ref q1, .ref q14, .int 0])), (q14, .inl (xc X 1, 60, .inr (.inl (fun _ => 0))))] := hD
  refine va_putF (D := X.1) (ci := 7) (v := .ref q13) (ty := .object "GrammarAmbiguity$LengthCounts") (C := RX8) (T := TX8) (N := 10) hx hb hts i_X8 tyX8 tyX8_ok nmX8 hown hK hP hD hS 0 rfl rfl 4 (by decide) lf_34 (fun _ h9 => h9) rfl hin rfl (by decide +kernel) rfl rfl (Nat.le_of_ble_eq_true rfl) dX8_init_60 (fun H locs hP hD hS => ?_)
  have hP : va_P X.1 vwCl [(h0, .inr (7, [.ref q1, .ref q5, .ref q7, .ref q11, .ref q13, .null, .null, .null, .null, .int 0])), (q1, .inr (0, [.int 1, .int 2, .int 0, .int 0, .ref q2, .ref q3, .ref q4])), (q2, .inl (xc X 0, 96, .inl (fun _ => 0))), (q3, .inl (xc X 0, 6, .inl (fun _ => 0))), (q4, .inl (xc X 2, 6, .inl (fun _ => 0))), (q5, .inr (5, [.int 0, .ref q6])), (q6, .inl (xc X 0, 8, .inl (fun _ => 0))), (q7, .inr (0, [.int 1, .int 2, .int 0, .int 0, .ref q8, .ref q9, .ref q10])), (q8, .inl (xc X 0, 96, .inl (fun _ => 0))), (q9, .inl (xc X 0, 6, .inl (fun _ => 0))), (q10, .inl (xc X 2, 6, .inl (fun _ => 0))), (q11, .inr (5, [.int 0, .ref q12])), (q12, .inl (xc X 0, 8, .inl (fun _ => 0))), (q13, .inr (1, [.ref q1, .ref q14, .int 0])), (q14, .inl (xc X 1, 60, .inr (.inl (fun _ => 0))))] H := hP
  have hD : va_D A [(h0, .inr (7, [.ref q1, .ref q5, .ref q7, .ref q11, .ref q13, .null, .null, .null, .null, .int 0])), (q1, .inr (0, [.int 1, .int 2, .int 0, .int 0, .ref q2, .ref q3, .ref q4])), (q2, .inl (xc X 0, 96, .inl (fun _ => 0))), (q3, .inl (xc X 0, 6, .inl (fun _ => 0))), (q4, .inl (xc X 2, 6, .inl (fun _ => 0))), (q5, .inr (5, [.int 0, .ref q6])), (q6, .inl (xc X 0, 8, .inl (fun _ => 0))), (q7, .inr (0, [.int 1, .int 2, .int 0, .int 0, .ref q8, .ref q9, .ref q10])), (q8, .inl (xc X 0, 96, .inl (fun _ => 0))), (q9, .inl (xc X 0, 6, .inl (fun _ => 0))), (q10, .inl (xc X 2, 6, .inl (fun _ => 0))), (q11, .inr (5, [.int 0, .ref q12])), (q12, .inl (xc X 0, 8, .inl (fun _ => 0))), (q13, .inr (1, [.ref q1, .ref q14, .int 0])), (q14, .inl (xc X 1, 60, .inr (.inl (fun _ => 0))))] := hD
  refine lv_aload_n hx hb dX8_init_63 rfl (lv_at hl 0 rfl) ?_
  refine va_new (D := X.1) (cl := vwCl) (ci := 3) (fs := [.null, .null, .int 0, .null]) (C := RX4) (T := TX4) (N := 4) hx hb hts i_X4 tyX4 tyX4_ok hown lc_38 lq_X4 li_X4 hK hP hD hS hA rfl (fun j hj => by rcases (show j = 0 ∨ j = 1 ∨ j = 2 ∨ j = 3 by omega) with rfl | rfl | rfl | rfl <;> rfl) (Nat.le_of_ble_eq_true rfl) (Nat.le_of_ble_eq_true rfl) dX8_init_64 (fun q15 H hP hD hS => ?_)
  have hP : va_P X.1 vwCl [(h0, .inr (7, [.ref q1, .ref q5, .ref q7, .ref q11, .ref q13, .null, .null, .null, .null, .int 0])), (q1, .inr (0, [.int 1, .int 2, .int 0, .int 0, .ref q2, .ref q3, .ref q4])), (q2, .inl (xc X 0, 96, .inl (fun _ => 0))), (q3, .inl (xc X 0, 6, .inl (fun _ => 0))), (q4, .inl (xc X 2, 6, .inl (fun _ => 0))), (q5, .inr (5, [.int 0, .ref q6])), (q6, .inl (xc X 0, 8, .inl (fun _ => 0))), (q7, .inr (0, [.int 1, .int 2, .int 0, .int 0, .ref q8, .ref q9, .ref q10])), (q8, .inl (xc X 0, 96, .inl (fun _ => 0))), (q9, .inl (xc X 0, 6, .inl (fun _ => 0))), (q10, .inl (xc X 2, 6, .inl (fun _ => 0))), (q11, .inr (5, [.int 0, .ref q12])), (q12, .inl (xc X 0, 8, .inl (fun _ => 0))), (q13, .inr (1, [.ref q1, .ref q14, .int 0])), (q14, .inl (xc X 1, 60, .inr (.inl (fun _ => 0)))), (q15, .inr (3, [.null, .null, .int 0, .null]))] H := hP
  have hD : va_D A [(h0, .inr (7, [.ref q1, .ref q5, .ref q7, .ref q11, .ref q13, .null, .null, .null, .null, .int 0])), (q1, .inr (0, [.int 1, .int 2, .int 0, .int 0, .ref q2, .ref q3, .ref q4])), (q2, .inl (xc X 0, 96, .inl (fun _ => 0))), (q3, .inl (xc X 0, 6, .inl (fun _ => 0))), (q4, .inl (xc X 2, 6, .inl (fun _ => 0))), (q5, .inr (5, [.int 0, .ref q6])), (q6, .inl (xc X 0, 8, .inl (fun _ => 0))), (q7, .inr (0, [.int 1, .int 2, .int 0, .int 0, .ref q8, .ref q9, .ref q10])), (q8, .inl (xc X 0, 96, .inl (fun _ => 0))), (q9, .inl (xc X 0, 6, .inl (fun _ => 0))), (q10, .inl (xc X 2, 6, .inl (fun _ => 0))), (q11, .inr (5, [.int 0, .ref q12])), (q12, .inl (xc X 0, 8, .inl (fun _ => 0))), (q13, .inr (1, [.ref q1, .ref q14, .int 0])), (q14, .inl (xc X 1, 60, .inr (.inl (fun _ => 0)))), (q15, .inr (3, [.null, .null, .int 0, .null]))] := hD
  refine lv_dup hx hb dX8_init_67 rfl ?_
  refine lv_aload_n hx hb dX8_init_68 rfl (lv_at hl 0 rfl) ?_
  refine va_get (D := X.1) (ci := 7) (v := .ref q1) (C := RX8) (T := TX8) (N := 10) hx hb hts i_X8 hown hK hP 0 rfl rfl 0 (by decide) lf_12 (fun _ h9 => h9) rfl dX8_init_69 ?_
  refine lv_aload_n hx hb dX8_init_72 rfl (lv_at hl 0 rfl) ?_
  refine va_get (D := X.1) (ci := 7) (v := .ref q5) (C := RX8) (T := TX8) (N := 10) hx hb hts i_X8 hown hK hP 0 rfl rfl 1 (by decide) lf_19 (fun _ h9 => h9) rfl dX8_init_73 ?_
  have hPc := hP.sub (ws' := [(q15, .inr (3, [.null, .null, .int 0, .null]))]) [15] rfl
  have hDc := hD.sub (ws' := [(q15, .inr (3, [.null, .null, .int 0, .null]))]) [15] (by decide) rfl
  have hFc := va_free (wc := [(q15, .inr (3, [.null, .null, .int 0, .null]))]) hD hS hA [15] rfl
  refine va_callv (va_runIN (As := [.ref q1, .ref q5]) (rest := [.ref q15, .ref h0]) ⟨hx, hb, hml, hown, hts⟩ (nX4_init l X _ q15 q1 q5) ⟨va_cnB 2 hts (gN q_73) rfl rfl rfl ln_40 (hts _ q_31) (by decide +kernel) ⟨Nat.le_of_ble_eq_true rfl, Nat.le_of_ble_eq_true rfl⟩, rfl, hts _ q_72⟩ ⟨n_blind, n_pre hC hS hPc hDc hFc⟩ rfl rfl hl.1 rfl (lv_room (Nat.le_of_ble_eq_true rfl)) dX8_init_76 ⟨Nat.le_of_ble_eq_true rfl, Nat.le_of_ble_eq_true rfl⟩) hS (fun q _ h => hFc q h) hFc (fun _ t H1 locs ht hvm hw hB hz1 hk1 hS => ?_)
  obtain ⟨q16, hP1, hD1⟩ := hB
  rw [ht] at hP1
  obtain ⟨hP, hD⟩ := va_join (wr := [(h0, .inr (7, [.ref q1, .ref q5, .ref q7, .ref q11, .ref q13, .null, .null, .null, .null, .int 0])), (q1, .inr (0, [.int 1, .int 2, .int 0, .int 0, .ref q2, .ref q3, .ref q4])), (q2, .inl (xc X 0, 96, .inl (fun _ => 0))), (q3, .inl (xc X 0, 6, .inl (fun _ => 0))), (q4, .inl (xc X 2, 6, .inl (fun _ => 0))), (q5, .inr (5, [.int 0, .ref q6])), (q6, .inl (xc X 0, 8, .inl (fun _ => 0))), (q7, .inr (0, [.int 1, .int 2, .int 0, .int 0, .ref q8, .ref q9, .ref q10])), (q8, .inl (xc X 0, 96, .inl (fun _ => 0))), (q9, .inl (xc X 0, 6, .inl (fun _ => 0))), (q10, .inl (xc X 2, 6, .inl (fun _ => 0))), (q11, .inr (5, [.int 0, .ref q12])), (q12, .inl (xc X 0, 8, .inl (fun _ => 0))), (q13, .inr (1, [.ref q1, .ref q14, .int 0])), (q14, .inl (xc X 1, 60, .inr (.inl (fun _ => 0))))]) (w1 := [(q15, .inr (3, [.ref q1, .ref q16, .int 0, .ref q5])), (q16, .inl (xc X 1, 384, .inr (.inl (fun _ => 0))))]) hP hD [15] [0, 1, 2, 3, 4, 5, 6, 7, 8, 9, 10, 11, 12, 13, 14] rfl rfl (by decide) (by decide) hk1 hFc hP1 hD1
  generalize H1 = H at hP hS ⊢
  have hP : va_P X.1 vwCl [(h0, .inr (7, [.ref q1, .ref q5, .ref q7, .ref q11, .ref q13, .null, .null, .null, .null, .int 0])), (q1, .inr (0, [.int 1, .int 2, .int 0, .int 0, .ref q2, .ref q3, .ref q4])), (q2, .inl (xc X 0, 96, .inl (fun _ => 0))), (q3, .inl (xc X 0, 6, .inl (fun _ => 0))), (q4, .inl (xc X 2, 6, .inl (fun _ => 0))), (q5, .inr (5, [.int 0, .ref q6])), (q6, .inl (xc X 0, 8, .inl (fun _ => 0))), (q7, .inr (0, [.int 1, .int 2, .int 0, .int 0, .ref q8, .ref q9, .ref q10])), (q8, .inl (xc X 0, 96, .inl (fun _ => 0))), (q9, .inl (xc X 0, 6, .inl (fun _ => 0))), (q10, .inl (xc X 2, 6, .inl (fun _ => 0))), (q11, .inr (5, [.int 0, .ref q12])), (q12, .inl (xc X 0, 8, .inl (fun _ => 0))), (q13, .inr (1, [.ref q1, .ref q14, .int 0])), (q14, .inl (xc X 1, 60, .inr (.inl (fun _ => 0)))), (q15, .inr (3, [.ref q1, .ref q16, .int 0, .ref q5])), (q16, .inl (xc X 1, 384, .inr (.inl (fun _ => 0))))] H := hP
  have hD : va_D A [(h0, .inr (7, [.ref q1, .ref q5, .ref q7, .ref q11, .ref q13, .null, .null, .null, .null, .int 0])), (q1, .inr (0, [.int 1, .int 2, .int 0, .int 0, .ref q2, .ref q3, .ref q4])), (q2, .inl (xc X 0, 96, .inl (fun _ => 0))), (q3, .inl (xc X 0, 6, .inl (fun _ => 0))), (q4, .inl (xc X 2, 6, .inl (fun _ => 0))), (q5, .inr (5, [.int 0, .ref q6])), (q6, .inl (xc X 0, 8, .inl (fun _ => 0))), (q7, .inr (0, [.int 1, .int 2, .int 0, .int 0, .ref q8, .ref q9, .ref q10])), (q8, .inl (xc X 0, 96, .inl (fun _ => 0))), (q9, .inl (xc X 0, 6, .inl (fun _ => 0))), (q10, .inl (xc X 2, 6, .inl (fun _ => 0))), (q11, .inr (5, [.int 0, .ref q12])), (q12, .inl (xc X 0, 8, .inl (fun _ => 0))), (q13, .inr (1, [.ref q1, .ref q14, .int 0])), (q14, .inl (xc X 1, 60, .inr (.inl (fun _ => 0)))), (q15, .inr (3, [.ref q1, .ref q16, .int 0, .ref q5])), (q16, .inl (xc X 1, 384, .inr (.inl (fun _ => 0))))] := hD
  refine va_putF (D := X.1) (ci := 7) (v := .ref q15) (ty := .object "GrammarAmbiguity$SpanCounts") (C := RX8) (T := TX8) (N := 10) hx hb hts i_X8 tyX8 tyX8_ok nmX8 hown hK hP hD hS 0 rfl rfl 5 (by decide) lf_43 (fun _ h9 => h9) rfl hin rfl (by decide +kernel) rfl rfl (Nat.le_of_ble_eq_true rfl) dX8_init_79 (fun H locs hP hD hS => ?_)
  have hP : va_P X.1 vwCl [(h0, .inr (7, [.ref q1, .ref q5, .ref q7, .ref q11, .ref q13, .ref q15, .null, .null, .null, .int 0])), (q1, .inr (0, [.int 1, .int 2, .int 0, .int 0, .ref q2, .ref q3, .ref q4])), (q2, .inl (xc X 0, 96, .inl (fun _ => 0))), (q3, .inl (xc X 0, 6, .inl (fun _ => 0))), (q4, .inl (xc X 2, 6, .inl (fun _ => 0))), (q5, .inr (5, [.int 0, .ref q6])), (q6, .inl (xc X 0, 8, .inl (fun _ => 0))), (q7, .inr (0, [.int 1, .int 2, .int 0, .int 0, .ref q8, .ref q9, .ref q10])), (q8, .inl (xc X 0, 96, .inl (fun _ => 0))), (q9, .inl (xc X 0, 6, .inl (fun _ => 0))), (q10, .inl (xc X 2, 6, .inl (fun _ => 0))), (q11, .inr (5, [.int 0, .ref q12])), (q12, .inl (xc X 0, 8, .inl (fun _ => 0))), (q13, .inr (1, [.ref q1, .ref q14, .int 0])), (q14, .inl (xc X 1, 60, .inr (.inl (fun _ => 0)))), (q15, .inr (3, [.ref q1, .ref q16, .int 0, .ref q5])), (q16, .inl (xc X 1, 384, .inr (.inl (fun _ => 0))))] H := hP
  have hD : va_D A [(h0, .inr (7, [.ref q1, .ref q5, .ref q7, .ref q11, .ref q13, .ref q15, .null, .null, .null, .int 0])), (q1, .inr (0, [.int 1, .int 2, .int 0, .int 0, .ref q2, .ref q3, .ref q4])), (q2, .inl (xc X 0, 96, .inl (fun _ => 0))), (q3, .inl (xc X 0, 6, .inl (fun _ => 0))), (q4, .inl (xc X 2, 6, .inl (fun _ => 0))), (q5, .inr (5, [.int 0, .ref q6])), (q6, .inl (xc X 0, 8, .inl (fun _ => 0))), (q7, .inr (0, [.int 1, .int 2, .int 0, .int 0, .ref q8, .ref q9, .ref q10])), (q8, .inl (xc X 0, 96, .inl (fun _ => 0))), (q9, .inl (xc X 0, 6, .inl (fun _ => 0))), (q10, .inl (xc X 2, 6, .inl (fun _ => 0))), (q11, .inr (5, [.int 0, .ref q12])), (q12, .inl (xc X 0, 8, .inl (fun _ => 0))), (q13, .inr (1, [.ref q1, .ref q14, .int 0])), (q14, .inl (xc X 1, 60, .inr (.inl (fun _ => 0)))), (q15, .inr (3, [.ref q1, .ref q16, .int 0, .ref q5])), (q16, .inl (xc X 1, 384, .inr (.inl (fun _ => 0))))] := hD
  refine lv_aload_n hx hb dX8_init_82 rfl (lv_at hl 0 rfl) ?_
  refine va_new (D := X.1) (cl := vwCl) (ci := 6) (fs := [.null, .null, .null, .int 0]) (C := RX7) (T := TX7) (N := 4) hx hb hts i_X7 tyX7 tyX7_ok hown lc_47 lq_X7 li_X7 hK hP hD hS hA rfl (fun j hj => by rcases (show j = 0 ∨ j = 1 ∨ j = 2 ∨ j = 3 by omega) with rfl | rfl | rfl | rfl <;> rfl) (Nat.le_of_ble_eq_true rfl) (Nat.le_of_ble_eq_true rfl) dX8_init_83 (fun q17 H hP hD hS => ?_)
  have hP : va_P X.1 vwCl [(h0, .inr (7, [.ref q1, .ref q5, .ref q7, .ref q11, .ref q13, .ref q15, .null, .null, .null, .int 0])), (q1, .inr (0, [.int 1, .int 2, .int 0, .int 0, .ref q2, .ref q3, .ref q4])), (q2, .inl (xc X 0, 96, .inl (fun _ => 0))), (q3, .inl (xc X 0, 6, .inl (fun _ => 0))), (q4, .inl (xc X 2, 6, .inl (fun _ => 0))), (q5, .inr (5, [.int 0, .ref q6])), (q6, .inl (xc X 0, 8, .inl (fun _ => 0))), (q7, .inr (0, [.int 1, .int 2, .int 0, .int 0, .ref q8, .ref q9, .ref q10])), (q8, .inl (xc X 0, 96, .inl (fun _ => 0))), (q9, .inl (xc X 0, 6, .inl (fun _ => 0))), (q10, .inl (xc X 2, 6, .inl (fun _ => 0))), (q11, .inr (5, [.int 0, .ref q12])), (q12, .inl (xc X 0, 8, .inl (fun _ => 0))), (q13, .inr (1, [.ref q1, .ref q14, .int 0])), (q14, .inl (xc X 1, 60, .inr (.inl (fun _ => 0)))), (q15, .inr (3, [.ref q1, .ref q16, .int 0, .ref q5])), (q16, .inl (xc X 1, 384, .inr (.inl (fun _ => 0)))), (q17, .inr (6, [.null, .null, .null, .int 0]))] H := hP
  have hD : va_D A [(h0, .inr (7, [.ref q1, .ref q5, .ref q7, .ref q11, .ref q13, .ref q15, .null, .null, .null, .int 0])), (q1, .inr (0, [.int 1, .int 2, .int 0, .int 0, .ref q2, .ref q3, .ref q4])), (q2, .inl (xc X 0, 96, .inl (fun _ => 0))), (q3, .inl (xc X 0, 6, .inl (fun _ => 0))), (q4, .inl (xc X 2, 6, .inl (fun _ => 0))), (q5, .inr (5, [.int 0, .ref q6])), (q6, .inl (xc X 0, 8, .inl (fun _ => 0))), (q7, .inr (0, [.int 1, .int 2, .int 0, .int 0, .ref q8, .ref q9, .ref q10])), (q8, .inl (xc X 0, 96, .inl (fun _ => 0))), (q9, .inl (xc X 0, 6, .inl (fun _ => 0))), (q10, .inl (xc X 2, 6, .inl (fun _ => 0))), (q11, .inr (5, [.int 0, .ref q12])), (q12, .inl (xc X 0, 8, .inl (fun _ => 0))), (q13, .inr (1, [.ref q1, .ref q14, .int 0])), (q14, .inl (xc X 1, 60, .inr (.inl (fun _ => 0)))), (q15, .inr (3, [.ref q1, .ref q16, .int 0, .ref q5])), (q16, .inl (xc X 1, 384, .inr (.inl (fun _ => 0)))), (q17, .inr (6, [.null, .null, .null, .int 0]))] := hD
  refine lv_dup hx hb dX8_init_86 rfl ?_
  refine lv_aload_n hx hb dX8_init_87 rfl (lv_at hl 0 rfl) ?_
  refine va_get (D := X.1) (ci := 7) (v := .ref q1) (C := RX8) (T := TX8) (N := 10) hx hb hts i_X8 hown hK hP 0 rfl rfl 0 (by decide) lf_12 (fun _ h9 => h9) rfl dX8_init_88 ?_
  refine lv_aload_n hx hb dX8_init_91 rfl (lv_at hl 0 rfl) ?_
  refine va_get (D := X.1) (ci := 7) (v := .ref q13) (C := RX8) (T := TX8) (N := 10) hx hb hts i_X8 hown hK hP 0 rfl rfl 4 (by decide) lf_34 (fun _ h9 => h9) rfl dX8_init_92 ?_
  have hPc := hP.sub (ws' := [(q17, .inr (6, [.null, .null, .null, .int 0]))]) [17] rfl
  have hDc := hD.sub (ws' := [(q17, .inr (6, [.null, .null, .null, .int 0]))]) [17] (by decide) rfl
  have hFc := va_free (wc := [(q17, .inr (6, [.null, .null, .null, .int 0]))]) hD hS hA [17] rfl
  refine va_callv (va_runIN (As := [.ref q1, .ref q13]) (rest := [.ref q17, .ref h0]) ⟨hx, hb, hml, hown, hts⟩ (nX7_init l X _ q17 q1 q13) ⟨va_cnB 2 hts (gN q_76) rfl rfl rfl ln_49 (hts _ q_35) (by decide +kernel) ⟨Nat.le_of_ble_eq_true rfl, Nat.le_of_ble_eq_true rfl⟩, rfl, hts _ q_75⟩ ⟨n_blind, n_pre hC hS hPc hDc hFc⟩ rfl rfl hl.1 rfl (lv_room (Nat.le_of_ble_eq_true rfl)) dX8_init_95 ⟨Nat.le_of_ble_eq_true rfl, Nat.le_of_ble_eq_true rfl⟩) hS (fun q _ h => hFc q h) hFc (fun _ t H1 locs ht hvm hw hB hz1 hk1 hS => ?_)
  obtain ⟨q18, hP1, hD1⟩ := hB
  rw [ht] at hP1
  obtain ⟨hP, hD⟩ := va_join (wr := [(h0, .inr (7, [.ref q1, .ref q5, .ref q7, .ref q11, .ref q13, .ref q15, .null, .null, .null, .int 0])), (q1, .inr (0, [.int 1, .int 2, .int 0, .int 0, .ref q2, .ref q3, .ref q4])), (q2, .inl (xc X 0, 96, .inl (fun _ => 0))), (q3, .inl (xc X 0, 6, .inl (fun _ => 0))), (q4, .inl (xc X 2, 6, .inl (fun _ => 0))), (q5, .inr (5, [.int 0, .ref q6])), (q6, .inl (xc X 0, 8, .inl (fun _ => 0))), (q7, .inr (0, [.int 1, .int 2, .int 0, .int 0, .ref q8, .ref q9, .ref q10])), (q8, .inl (xc X 0, 96, .inl (fun _ => 0))), (q9, .inl (xc X 0, 6, .inl (fun _ => 0))), (q10, .inl (xc X 2, 6, .inl (fun _ => 0))), (q11, .inr (5, [.int 0, .ref q12])), (q12, .inl (xc X 0, 8, .inl (fun _ => 0))), (q13, .inr (1, [.ref q1, .ref q14, .int 0])), (q14, .inl (xc X 1, 60, .inr (.inl (fun _ => 0)))), (q15, .inr (3, [.ref q1, .ref q16, .int 0, .ref q5])), (q16, .inl (xc X 1, 384, .inr (.inl (fun _ => 0))))]) (w1 := [(q17, .inr (6, [.ref q1, .ref q13, .ref q18, .int 0])), (q18, .inl (xc X 1, 10930, .inr (.inl (vp_updL (vp_updL (vp_updL (vp_updL (fun _ => 0) (6559 : Int32).toNatClampNeg 1) (7653 : Int32).toNatClampNeg 1) (8747 : Int32).toNatClampNeg 1) (9837 : Int32).toNatClampNeg 1))))]) hP hD [17] [0, 1, 2, 3, 4, 5, 6, 7, 8, 9, 10, 11, 12, 13, 14, 15, 16] rfl rfl (by decide) (by decide) hk1 hFc hP1 hD1
  generalize H1 = H at hP hS ⊢
  have hP : va_P X.1 vwCl [(h0, .inr (7, [.ref q1, .ref q5, .ref q7, .ref q11, .ref q13, .ref q15, .null, .null, .null, .int 0])), (q1, .inr (0, [.int 1, .int 2, .int 0, .int 0, .ref q2, .ref q3, .ref q4])), (q2, .inl (xc X 0, 96, .inl (fun _ => 0))), (q3, .inl (xc X 0, 6, .inl (fun _ => 0))), (q4, .inl (xc X 2, 6, .inl (fun _ => 0))), (q5, .inr (5, [.int 0, .ref q6])), (q6, .inl (xc X 0, 8, .inl (fun _ => 0))), (q7, .inr (0, [.int 1, .int 2, .int 0, .int 0, .ref q8, .ref q9, .ref q10])), (q8, .inl (xc X 0, 96, .inl (fun _ => 0))), (q9, .inl (xc X 0, 6, .inl (fun _ => 0))), (q10, .inl (xc X 2, 6, .inl (fun _ => 0))), (q11, .inr (5, [.int 0, .ref q12])), (q12, .inl (xc X 0, 8, .inl (fun _ => 0))), (q13, .inr (1, [.ref q1, .ref q14, .int 0])), (q14, .inl (xc X 1, 60, .inr (.inl (fun _ => 0)))), (q15, .inr (3, [.ref q1, .ref q16, .int 0, .ref q5])), (q16, .inl (xc X 1, 384, .inr (.inl (fun _ => 0)))), (q17, .inr (6, [.ref q1, .ref q13, .ref q18, .int 0])), (q18, .inl (xc X 1, 10930, .inr (.inl (vp_updL (vp_updL (vp_updL (vp_updL (fun _ => 0) (6559 : Int32).toNatClampNeg 1) (7653 : Int32).toNatClampNeg 1) (8747 : Int32).toNatClampNeg 1) (9837 : Int32).toNatClampNeg 1))))] H := hP
  have hD : va_D A [(h0, .inr (7, [.ref q1, .ref q5, .ref q7, .ref q11, .ref q13, .ref q15, .null, .null, .null, .int 0])), (q1, .inr (0, [.int 1, .int 2, .int 0, .int 0, .ref q2, .ref q3, .ref q4])), (q2, .inl (xc X 0, 96, .inl (fun _ => 0))), (q3, .inl (xc X 0, 6, .inl (fun _ => 0))), (q4, .inl (xc X 2, 6, .inl (fun _ => 0))), (q5, .inr (5, [.int 0, .ref q6])), (q6, .inl (xc X 0, 8, .inl (fun _ => 0))), (q7, .inr (0, [.int 1, .int 2, .int 0, .int 0, .ref q8, .ref q9, .ref q10])), (q8, .inl (xc X 0, 96, .inl (fun _ => 0))), (q9, .inl (xc X 0, 6, .inl (fun _ => 0))), (q10, .inl (xc X 2, 6, .inl (fun _ => 0))), (q11, .inr (5, [.int 0, .ref q12])), (q12, .inl (xc X 0, 8, .inl (fun _ => 0))), (q13, .inr (1, [.ref q1, .ref q14, .int 0])), (q14, .inl (xc X 1, 60, .inr (.inl (fun _ => 0)))), (q15, .inr (3, [.ref q1, .ref q16, .int 0, .ref q5])), (q16, .inl (xc X 1, 384, .inr (.inl (fun _ => 0)))), (q17, .inr (6, [.ref q1, .ref q13, .ref q18, .int 0])), (q18, .inl (xc X 1, 10930, .inr (.inl (vp_updL (vp_updL (vp_updL (vp_updL (fun _ => 0) (6559 : Int32).toNatClampNeg 1) (7653 : Int32).toNatClampNeg 1) (8747 : Int32).toNatClampNeg 1) (9837 : Int32).toNatClampNeg 1))))] := hD
  refine va_putF (D := X.1) (ci := 7) (v := .ref q17) (ty := .object "GrammarAmbiguity$WordCounts") (C := RX8) (T := TX8) (N := 10) hx hb hts i_X8 tyX8 tyX8_ok nmX8 hown hK hP hD hS 0 rfl rfl 6 (by decide) lf_52 (fun _ h9 => h9) rfl hin rfl (by decide +kernel) rfl rfl (Nat.le_of_ble_eq_true rfl) dX8_init_98 (fun H locs hP hD hS => ?_)
  have hP : va_P X.1 vwCl [(h0, .inr (7, [.ref q1, .ref q5, .ref q7, .ref q11, .ref q13, .ref q15, .ref q17, .null, .null, .int 0])), (q1, .inr (0, [.int 1, .int 2, .int 0, .int 0, .ref q2, .ref q3, .ref q4])), (q2, .inl (xc X 0, 96, .inl (fun _ => 0))), (q3, .inl (xc X 0, 6, .inl (fun _ => 0))), (q4, .inl (xc X 2, 6, .inl (fun _ => 0))), (q5, .inr (5, [.int 0, .ref q6])), (q6, .inl (xc X 0, 8, .inl (fun _ => 0))), (q7, .inr (0, [.int 1, .int 2, .int 0, .int 0, .ref q8, .ref q9, .ref q10])), (q8, .inl (xc X 0, 96, .inl (fun _ => 0))), (q9, .inl (xc X 0, 6, .inl (fun _ => 0))), (q10, .inl (xc X 2, 6, .inl (fun _ => 0))), (q11, .inr (5, [.int 0, .ref q12])), (q12, .inl (xc X 0, 8, .inl (fun _ => 0))), (q13, .inr (1, [.ref q1, .ref q14, .int 0])), (q14, .inl (xc X 1, 60, .inr (.inl (fun _ => 0)))), (q15, .inr (3, [.ref q1, .ref q16, .int 0, .ref q5])), (q16, .inl (xc X 1, 384, .inr (.inl (fun _ => 0)))), (q17, .inr (6, [.ref q1, .ref q13, .ref q18, .int 0])), (q18, .inl (xc X 1, 10930, .inr (.inl (vp_updL (vp_updL (vp_updL (vp_updL (fun _ => 0) (6559 : Int32).toNatClampNeg 1) (7653 : Int32).toNatClampNeg 1) (8747 : Int32).toNatClampNeg 1) (9837 : Int32).toNatClampNeg 1))))] H := hP
  have hD : va_D A [(h0, .inr (7, [.ref q1, .ref q5, .ref q7, .ref q11, .ref q13, .ref q15, .ref q17, .null, .null, .int 0])), (q1, .inr (0, [.int 1, .int 2, .int 0, .int 0, .ref q2, .ref q3, .ref q4])), (q2, .inl (xc X 0, 96, .inl (fun _ => 0))), (q3, .inl (xc X 0, 6, .inl (fun _ => 0))), (q4, .inl (xc X 2, 6, .inl (fun _ => 0))), (q5, .inr (5, [.int 0, .ref q6])), (q6, .inl (xc X 0, 8, .inl (fun _ => 0))), (q7, .inr (0, [.int 1, .int 2, .int 0, .int 0, .ref q8, .ref q9, .ref q10])), (q8, .inl (xc X 0, 96, .inl (fun _ => 0))), (q9, .inl (xc X 0, 6, .inl (fun _ => 0))), (q10, .inl (xc X 2, 6, .inl (fun _ => 0))), (q11, .inr (5, [.int 0, .ref q12])), (q12, .inl (xc X 0, 8, .inl (fun _ => 0))), (q13, .inr (1, [.ref q1, .ref q14, .int 0])), (q14, .inl (xc X 1, 60, .inr (.inl (fun _ => 0)))), (q15, .inr (3, [.ref q1, .ref q16, .int 0, .ref q5])), (q16, .inl (xc X 1, 384, .inr (.inl (fun _ => 0)))), (q17, .inr (6, [.ref q1, .ref q13, .ref q18, .int 0])), (q18, .inl (xc X 1, 10930, .inr (.inl (vp_updL (vp_updL (vp_updL (vp_updL (fun _ => 0) (6559 : Int32).toNatClampNeg 1) (7653 : Int32).toNatClampNeg 1) (8747 : Int32).toNatClampNeg 1) (9837 : Int32).toNatClampNeg 1))))] := hD
  refine lv_aload_n hx hb dX8_init_101 rfl (lv_at hl 0 rfl) ?_
  refine va_new (D := X.1) (cl := vwCl) (ci := 4) (fs := [.null, .int 0, .long 0, .int 0, .null, .null, .null, .null, .null, .null, .null]) (C := RX5) (T := TX5) (N := 11) hx hb hts i_X5 tyX5 tyX5_ok hown lc_56 lq_X5 li_X5 hK hP hD hS hA rfl (fun j hj => by rcases (show j = 0 ∨ j = 1 ∨ j = 2 ∨ j = 3 ∨ j = 4 ∨ j = 5 ∨ j = 6 ∨ j = 7 ∨ j = 8 ∨ j = 9 ∨ j = 10 by omega) with rfl | rfl | rfl | rfl | rfl | rfl | rfl | rfl | rfl | rfl | rfl <;> rfl) (Nat.le_of_ble_eq_true rfl) (Nat.le_of_ble_eq_true rfl) dX8_init_102 (fun q19 H hP hD hS => ?_)
  have hP : va_P X.1 vwCl [(h0, .inr (7, [.ref q1, .ref q5, .ref q7, .ref q11, .ref q13, .ref q15, .ref q17, .null, .null, .int 0])), (q1, .inr (0, [.int 1, .int 2, .int 0, .int 0, .ref q2, .ref q3, .ref q4])), (q2, .inl (xc X 0, 96, .inl (fun _ => 0))), (q3, .inl (xc X 0, 6, .inl (fun _ => 0))), (q4, .inl (xc X 2, 6, .inl (fun _ => 0))), (q5, .inr (5, [.int 0, .ref q6])), (q6, .inl (xc X 0, 8, .inl (fun _ => 0))), (q7, .inr (0, [.int 1, .int 2, .int 0, .int 0, .ref q8, .ref q9, .ref q10])), (q8, .inl (xc X 0, 96, .inl (fun _ => 0))), (q9, .inl (xc X 0, 6, .inl (fun _ => 0))), (q10, .inl (xc X 2, 6, .inl (fun _ => 0))), (q11, .inr (5, [.int 0, .ref q12])), (q12, .inl (xc X 0, 8, .inl (fun _ => 0))), (q13, .inr (1, [.ref q1, .ref q14, .int 0])), (q14, .inl (xc X 1, 60, .inr (.inl (fun _ => 0)))), (q15, .inr (3, [.ref q1, .ref q16, .int 0, .ref q5])), (q16, .inl (xc X 1, 384, .inr (.inl (fun _ => 0)))), (q17, .inr (6, [.ref q1, .ref q13, .ref q18, .int 0])), (q18, .inl (xc X 1, 10930, .inr (.inl (vp_updL (vp_updL (vp_updL (vp_updL (fun _ => 0) (6559 : Int32).toNatClampNeg 1) (7653 : Int32).toNatClampNeg 1) (8747 : Int32).toNatClampNeg 1) (9837 : Int32).toNatClampNeg 1)))), (q19, .inr (4, [.null, .int 0, .long 0, .int 0, .null, .null, .null, .null, .null, .null, .null]))] H := hP
  have hD : va_D A [(h0, .inr (7, [.ref q1, .ref q5, .ref q7, .ref q11, .ref q13, .ref q15, .ref q17, .null, .null, .int 0])), (q1, .inr (0, [.int 1, .int 2, .int 0, .int 0, .ref q2, .ref q3, .ref q4])), (q2, .inl (xc X 0, 96, .inl (fun _ => 0))), (q3, .inl (xc X 0, 6, .inl (fun _ => 0))), (q4, .inl (xc X 2, 6, .inl (fun _ => 0))), (q5, .inr (5, [.int 0, .ref q6])), (q6, .inl (xc X 0, 8, .inl (fun _ => 0))), (q7, .inr (0, [.int 1, .int 2, .int 0, .int 0, .ref q8, .ref q9, .ref q10])), (q8, .inl (xc X 0, 96, .inl (fun _ => 0))), (q9, .inl (xc X 0, 6, .inl (fun _ => 0))), (q10, .inl (xc X 2, 6, .inl (fun _ => 0))), (q11, .inr (5, [.int 0, .ref q12])), (q12, .inl (xc X 0, 8, .inl (fun _ => 0))), (q13, .inr (1, [.ref q1, .ref q14, .int 0])), (q14, .inl (xc X 1, 60, .inr (.inl (fun _ => 0)))), (q15, .inr (3, [.ref q1, .ref q16, .int 0, .ref q5])), (q16, .inl (xc X 1, 384, .inr (.inl (fun _ => 0)))), (q17, .inr (6, [.ref q1, .ref q13, .ref q18, .int 0])), (q18, .inl (xc X 1, 10930, .inr (.inl (vp_updL (vp_updL (vp_updL (vp_updL (fun _ => 0) (6559 : Int32).toNatClampNeg 1) (7653 : Int32).toNatClampNeg 1) (8747 : Int32).toNatClampNeg 1) (9837 : Int32).toNatClampNeg 1)))), (q19, .inr (4, [.null, .int 0, .long 0, .int 0, .null, .null, .null, .null, .null, .null, .null]))] := hD
  refine lv_dup hx hb dX8_init_105 rfl ?_
  refine lv_aload_n hx hb dX8_init_106 rfl (lv_at hl 0 rfl) ?_
  refine va_get (D := X.1) (ci := 7) (v := .ref q1) (C := RX8) (T := TX8) (N := 10) hx hb hts i_X8 hown hK hP 0 rfl rfl 0 (by decide) lf_12 (fun _ h9 => h9) rfl dX8_init_107 ?_
  have hPc := hP.sub (ws' := [(q19, .inr (4, [.null, .int 0, .long 0, .int 0, .null, .null, .null, .null, .null, .null, .null]))]) [19] rfl
  have hDc := hD.sub (ws' := [(q19, .inr (4, [.null, .int 0, .long 0, .int 0, .null, .null, .null, .null, .null, .null, .null]))]) [19] (by decide) rfl
  have hFc := va_free (wc := [(q19, .inr (4, [.null, .int 0, .long 0, .int 0, .null, .null, .null, .null, .null, .null, .null]))]) hD hS hA [19] rfl
  refine va_callv (va_runIN (As := [.ref q1]) (rest := [.ref q19, .ref h0]) ⟨hx, hb, hml, hown, hts⟩ (nX5_init l X _ q19 q1) ⟨va_cnB 1 hts (gN q_83) rfl rfl rfl ln_58 (hts _ q_39) (by decide +kernel) ⟨Nat.le_of_ble_eq_true rfl, Nat.le_of_ble_eq_true rfl⟩, rfl, hts _ q_82⟩ ⟨n_blind, n_pre hC hS hPc hDc hFc⟩ rfl rfl hl.1 rfl (lv_room (Nat.le_of_ble_eq_true rfl)) dX8_init_110 ⟨Nat.le_of_ble_eq_true rfl, Nat.le_of_ble_eq_true rfl⟩) hS (fun q _ h => hFc q h) hFc (fun _ t H1 locs ht hvm hw hB hz1 hk1 hS => ?_)
  obtain ⟨q20, q21, q22, q23, q24, q25, q26, hP1, hD1⟩ := hB
  rw [ht] at hP1
  obtain ⟨hP, hD⟩ := va_join (wr := [(h0, .inr (7, [.ref q1, .ref q5, .ref q7, .ref q11, .ref q13, .ref q15, .ref q17, .null, .null, .int 0])), (q1, .inr (0, [.int 1, .int 2, .int 0, .int 0, .ref q2, .ref q3, .ref q4])), (q2, .inl (xc X 0, 96, .inl (fun _ => 0))), (q3, .inl (xc X 0, 6, .inl (fun _ => 0))), (q4, .inl (xc X 2, 6, .inl (fun _ => 0))), (q5, .inr (5, [.int 0, .ref q6])), (q6, .inl (xc X 0, 8, .inl (fun _ => 0))), (q7, .inr (0, [.int 1, .int 2, .int 0, .int 0, .ref q8, .ref q9, .ref q10])), (q8, .inl (xc X 0, 96, .inl (fun _ => 0))), (q9, .inl (xc X 0, 6, .inl (fun _ => 0))), (q10, .inl (xc X 2, 6, .inl (fun _ => 0))), (q11, .inr (5, [.int 0, .ref q12])), (q12, .inl (xc X 0, 8, .inl (fun _ => 0))), (q13, .inr (1, [.ref q1, .ref q14, .int 0])), (q14, .inl (xc X 1, 60, .inr (.inl (fun _ => 0)))), (q15, .inr (3, [.ref q1, .ref q16, .int 0, .ref q5])), (q16, .inl (xc X 1, 384, .inr (.inl (fun _ => 0)))), (q17, .inr (6, [.ref q1, .ref q13, .ref q18, .int 0])), (q18, .inl (xc X 1, 10930, .inr (.inl (vp_updL (vp_updL (vp_updL (vp_updL (fun _ => 0) (6559 : Int32).toNatClampNeg 1) (7653 : Int32).toNatClampNeg 1) (8747 : Int32).toNatClampNeg 1) (9837 : Int32).toNatClampNeg 1))))]) (w1 := [(q19, .inr (4, [.ref q1, .int 0, .long 0, .int 0, .ref q20, .ref q21, .ref q22, .ref q23, .ref q24, .ref q25, .ref q26])), (q20, .inl (xc X 0, 15, .inl (fun _ => 0))), (q21, .inl (xc X 0, 15, .inl (fun _ => 0))), (q22, .inl (xc X 0, 15, .inl (fun _ => 0))), (q23, .inl (xc X 0, 15, .inl (fun _ => 0))), (q24, .inl (xc X 0, 15, .inl (fun _ => 0))), (q25, .inl (xc X 0, 15, .inl (fun _ => 0))), (q26, .inl (xc X 1, 15, .inr (.inl (fun _ => 0))))]) hP hD [19] [0, 1, 2, 3, 4, 5, 6, 7, 8, 9, 10, 11, 12, 13, 14, 15, 16, 17, 18] rfl rfl (by decide) (by decide) hk1 hFc hP1 hD1
  generalize H1 = H at hP hS ⊢
  have hP : va_P X.1 vwCl [(h0, .inr (7, [.ref q1, .ref q5, .ref q7, .ref q11, .ref q13, .ref q15, .ref q17, .null, .null, .int 0])), (q1, .inr (0, [.int 1, .int 2, .int 0, .int 0, .ref q2, .ref q3, .ref q4])), (q2, .inl (xc X 0, 96, .inl (fun _ => 0))), (q3, .inl (xc X 0, 6, .inl (fun _ => 0))), (q4, .inl (xc X 2, 6, .inl (fun _ => 0))), (q5, .inr (5, [.int 0, .ref q6])), (q6, .inl (xc X 0, 8, .inl (fun _ => 0))), (q7, .inr (0, [.int 1, .int 2, .int 0, .int 0, .ref q8, .ref q9, .ref q10])), (q8, .inl (xc X 0, 96, .inl (fun _ => 0))), (q9, .inl (xc X 0, 6, .inl (fun _ => 0))), (q10, .inl (xc X 2, 6, .inl (fun _ => 0))), (q11, .inr (5, [.int 0, .ref q12])), (q12, .inl (xc X 0, 8, .inl (fun _ => 0))), (q13, .inr (1, [.ref q1, .ref q14, .int 0])), (q14, .inl (xc X 1, 60, .inr (.inl (fun _ => 0)))), (q15, .inr (3, [.ref q1, .ref q16, .int 0, .ref q5])), (q16, .inl (xc X 1, 384, .inr (.inl (fun _ => 0)))), (q17, .inr (6, [.ref q1, .ref q13, .ref q18, .int 0])), (q18, .inl (xc X 1, 10930, .inr (.inl (vp_updL (vp_updL (vp_updL (vp_updL (fun _ => 0) (6559 : Int32).toNatClampNeg 1) (7653 : Int32).toNatClampNeg 1) (8747 : Int32).toNatClampNeg 1) (9837 : Int32).toNatClampNeg 1)))), (q19, .inr (4, [.ref q1, .int 0, .long 0, .int 0, .ref q20, .ref q21, .ref q22, .ref q23, .ref q24, .ref q25, .ref q26])), (q20, .inl (xc X 0, 15, .inl (fun _ => 0))), (q21, .inl (xc X 0, 15, .inl (fun _ => 0))), (q22, .inl (xc X 0, 15, .inl (fun _ => 0))), (q23, .inl (xc X 0, 15, .inl (fun _ => 0))), (q24, .inl (xc X 0, 15, .inl (fun _ => 0))), (q25, .inl (xc X 0, 15, .inl (fun _ => 0))), (q26, .inl (xc X 1, 15, .inr (.inl (fun _ => 0))))] H := hP
  have hD : va_D A [(h0, .inr (7, [.ref q1, .ref q5, .ref q7, .ref q11, .ref q13, .ref q15, .ref q17, .null, .null, .int 0])), (q1, .inr (0, [.int 1, .int 2, .int 0, .int 0, .ref q2, .ref q3, .ref q4])), (q2, .inl (xc X 0, 96, .inl (fun _ => 0))), (q3, .inl (xc X 0, 6, .inl (fun _ => 0))), (q4, .inl (xc X 2, 6, .inl (fun _ => 0))), (q5, .inr (5, [.int 0, .ref q6])), (q6, .inl (xc X 0, 8, .inl (fun _ => 0))), (q7, .inr (0, [.int 1, .int 2, .int 0, .int 0, .ref q8, .ref q9, .ref q10])), (q8, .inl (xc X 0, 96, .inl (fun _ => 0))), (q9, .inl (xc X 0, 6, .inl (fun _ => 0))), (q10, .inl (xc X 2, 6, .inl (fun _ => 0))), (q11, .inr (5, [.int 0, .ref q12])), (q12, .inl (xc X 0, 8, .inl (fun _ => 0))), (q13, .inr (1, [.ref q1, .ref q14, .int 0])), (q14, .inl (xc X 1, 60, .inr (.inl (fun _ => 0)))), (q15, .inr (3, [.ref q1, .ref q16, .int 0, .ref q5])), (q16, .inl (xc X 1, 384, .inr (.inl (fun _ => 0)))), (q17, .inr (6, [.ref q1, .ref q13, .ref q18, .int 0])), (q18, .inl (xc X 1, 10930, .inr (.inl (vp_updL (vp_updL (vp_updL (vp_updL (fun _ => 0) (6559 : Int32).toNatClampNeg 1) (7653 : Int32).toNatClampNeg 1) (8747 : Int32).toNatClampNeg 1) (9837 : Int32).toNatClampNeg 1)))), (q19, .inr (4, [.ref q1, .int 0, .long 0, .int 0, .ref q20, .ref q21, .ref q22, .ref q23, .ref q24, .ref q25, .ref q26])), (q20, .inl (xc X 0, 15, .inl (fun _ => 0))), (q21, .inl (xc X 0, 15, .inl (fun _ => 0))), (q22, .inl (xc X 0, 15, .inl (fun _ => 0))), (q23, .inl (xc X 0, 15, .inl (fun _ => 0))), (q24, .inl (xc X 0, 15, .inl (fun _ => 0))), (q25, .inl (xc X 0, 15, .inl (fun _ => 0))), (q26, .inl (xc X 1, 15, .inr (.inl (fun _ => 0))))] := hD
  refine va_putF (D := X.1) (ci := 7) (v := .ref q19) (ty := .object "GrammarAmbiguity$Tree") (C := RX8) (T := TX8) (N := 10) hx hb hts i_X8 tyX8 tyX8_ok nmX8 hown hK hP hD hS 0 rfl rfl 7 (by decide) lf_59 (fun _ h9 => h9) rfl hin rfl (by decide +kernel) rfl rfl (Nat.le_of_ble_eq_true rfl) dX8_init_113 (fun H locs hP hD hS => ?_)
  have hP : va_P X.1 vwCl [(h0, .inr (7, [.ref q1, .ref q5, .ref q7, .ref q11, .ref q13, .ref q15, .ref q17, .ref q19, .null, .int 0])), (q1, .inr (0, [.int 1, .int 2, .int 0, .int 0, .ref q2, .ref q3, .ref q4])), (q2, .inl (xc X 0, 96, .inl (fun _ => 0))), (q3, .inl (xc X 0, 6, .inl (fun _ => 0))), (q4, .inl (xc X 2, 6, .inl (fun _ => 0))), (q5, .inr (5, [.int 0, .ref q6])), (q6, .inl (xc X 0, 8, .inl (fun _ => 0))), (q7, .inr (0, [.int 1, .int 2, .int 0, .int 0, .ref q8, .ref q9, .ref q10])), (q8, .inl (xc X 0, 96, .inl (fun _ => 0))), (q9, .inl (xc X 0, 6, .inl (fun _ => 0))), (q10, .inl (xc X 2, 6, .inl (fun _ => 0))), (q11, .inr (5, [.int 0, .ref q12])), (q12, .inl (xc X 0, 8, .inl (fun _ => 0))), (q13, .inr (1, [.ref q1, .ref q14, .int 0])), (q14, .inl (xc X 1, 60, .inr (.inl (fun _ => 0)))), (q15, .inr (3, [.ref q1, .ref q16, .int 0, .ref q5])), (q16, .inl (xc X 1, 384, .inr (.inl (fun _ => 0)))), (q17, .inr (6, [.ref q1, .ref q13, .ref q18, .int 0])), (q18, .inl (xc X 1, 10930, .inr (.inl (vp_updL (vp_updL (vp_updL (vp_updL (fun _ => 0) (6559 : Int32).toNatClampNeg 1) (7653 : Int32).toNatClampNeg 1) (8747 : Int32).toNatClampNeg 1) (9837 : Int32).toNatClampNeg 1)))), (q19, .inr (4, [.ref q1, .int 0, .long 0, .int 0, .ref q20, .ref q21, .ref q22, .ref q23, .ref q24, .ref q25, .ref q26])), (q20, .inl (xc X 0, 15, .inl (fun _ => 0))), (q21, .inl (xc X 0, 15, .inl (fun _ => 0))), (q22, .inl (xc X 0, 15, .inl (fun _ => 0))), (q23, .inl (xc X 0, 15, .inl (fun _ => 0))), (q24, .inl (xc X 0, 15, .inl (fun _ => 0))), (q25, .inl (xc X 0, 15, .inl (fun _ => 0))), (q26, .inl (xc X 1, 15, .inr (.inl (fun _ => 0))))] H := hP
  have hD : va_D A [(h0, .inr (7, [.ref q1, .ref q5, .ref q7, .ref q11, .ref q13, .ref q15, .ref q17, .ref q19, .null, .int 0])), (q1, .inr (0, [.int 1, .int 2, .int 0, .int 0, .ref q2, .ref q3, .ref q4])), (q2, .inl (xc X 0, 96, .inl (fun _ => 0))), (q3, .inl (xc X 0, 6, .inl (fun _ => 0))), (q4, .inl (xc X 2, 6, .inl (fun _ => 0))), (q5, .inr (5, [.int 0, .ref q6])), (q6, .inl (xc X 0, 8, .inl (fun _ => 0))), (q7, .inr (0, [.int 1, .int 2, .int 0, .int 0, .ref q8, .ref q9, .ref q10])), (q8, .inl (xc X 0, 96, .inl (fun _ => 0))), (q9, .inl (xc X 0, 6, .inl (fun _ => 0))), (q10, .inl (xc X 2, 6, .inl (fun _ => 0))), (q11, .inr (5, [.int 0, .ref q12])), (q12, .inl (xc X 0, 8, .inl (fun _ => 0))), (q13, .inr (1, [.ref q1, .ref q14, .int 0])), (q14, .inl (xc X 1, 60, .inr (.inl (fun _ => 0)))), (q15, .inr (3, [.ref q1, .ref q16, .int 0, .ref q5])), (q16, .inl (xc X 1, 384, .inr (.inl (fun _ => 0)))), (q17, .inr (6, [.ref q1, .ref q13, .ref q18, .int 0])), (q18, .inl (xc X 1, 10930, .inr (.inl (vp_updL (vp_updL (vp_updL (vp_updL (fun _ => 0) (6559 : Int32).toNatClampNeg 1) (7653 : Int32).toNatClampNeg 1) (8747 : Int32).toNatClampNeg 1) (9837 : Int32).toNatClampNeg 1)))), (q19, .inr (4, [.ref q1, .int 0, .long 0, .int 0, .ref q20, .ref q21, .ref q22, .ref q23, .ref q24, .ref q25, .ref q26])), (q20, .inl (xc X 0, 15, .inl (fun _ => 0))), (q21, .inl (xc X 0, 15, .inl (fun _ => 0))), (q22, .inl (xc X 0, 15, .inl (fun _ => 0))), (q23, .inl (xc X 0, 15, .inl (fun _ => 0))), (q24, .inl (xc X 0, 15, .inl (fun _ => 0))), (q25, .inl (xc X 0, 15, .inl (fun _ => 0))), (q26, .inl (xc X 1, 15, .inr (.inl (fun _ => 0))))] := hD
  refine lv_aload_n hx hb dX8_init_116 rfl (lv_at hl 0 rfl) ?_
  refine va_new (D := X.1) (cl := vwCl) (ci := 2) (fs := [.null, .null, .null, .null]) (C := RX3) (T := TX3) (N := 4) hx hb hts i_X3 tyX3 tyX3_ok hown lc_63 lq_X3 li_X3 hK hP hD hS hA rfl (fun j hj => by rcases (show j = 0 ∨ j = 1 ∨ j = 2 ∨ j = 3 by omega) with rfl | rfl | rfl | rfl <;> rfl) (Nat.le_of_ble_eq_true rfl) (Nat.le_of_ble_eq_true rfl) dX8_init_117 (fun q27 H hP hD hS => ?_)
  have hP : va_P X.1 vwCl [(h0, .inr (7, [.ref q1, .ref q5, .ref q7, .ref q11, .ref q13, .ref q15, .ref q17, .ref q19, .null, .int 0])), (q1, .inr (0, [.int 1, .int 2, .int 0, .int 0, .ref q2, .ref q3, .ref q4])), (q2, .inl (xc X 0, 96, .inl (fun _ => 0))), (q3, .inl (xc X 0, 6, .inl (fun _ => 0))), (q4, .inl (xc X 2, 6, .inl (fun _ => 0))), (q5, .inr (5, [.int 0, .ref q6])), (q6, .inl (xc X 0, 8, .inl (fun _ => 0))), (q7, .inr (0, [.int 1, .int 2, .int 0, .int 0, .ref q8, .ref q9, .ref q10])), (q8, .inl (xc X 0, 96, .inl (fun _ => 0))), (q9, .inl (xc X 0, 6, .inl (fun _ => 0))), (q10, .inl (xc X 2, 6, .inl (fun _ => 0))), (q11, .inr (5, [.int 0, .ref q12])), (q12, .inl (xc X 0, 8, .inl (fun _ => 0))), (q13, .inr (1, [.ref q1, .ref q14, .int 0])), (q14, .inl (xc X 1, 60, .inr (.inl (fun _ => 0)))), (q15, .inr (3, [.ref q1, .ref q16, .int 0, .ref q5])), (q16, .inl (xc X 1, 384, .inr (.inl (fun _ => 0)))), (q17, .inr (6, [.ref q1, .ref q13, .ref q18, .int 0])), (q18, .inl (xc X 1, 10930, .inr (.inl (vp_updL (vp_updL (vp_updL (vp_updL (fun _ => 0) (6559 : Int32).toNatClampNeg 1) (7653 : Int32).toNatClampNeg 1) (8747 : Int32).toNatClampNeg 1) (9837 : Int32).toNatClampNeg 1)))), (q19, .inr (4, [.ref q1, .int 0, .long 0, .int 0, .ref q20, .ref q21, .ref q22, .ref q23, .ref q24, .ref q25, .ref q26])), (q20, .inl (xc X 0, 15, .inl (fun _ => 0))), (q21, .inl (xc X 0, 15, .inl (fun _ => 0))), (q22, .inl (xc X 0, 15, .inl (fun _ => 0))), (q23, .inl (xc X 0, 15, .inl (fun _ => 0))), (q24, .inl (xc X 0, 15, .inl (fun _ => 0))), (q25, .inl (xc X 0, 15, .inl (fun _ => 0))), (q26, .inl (xc X 1, 15, .inr (.inl (fun _ => 0)))), (q27, .inr (2, [.null, .null, .null, .null]))] H := hP
  have hD : va_D A [(h0, .inr (7, [.ref q1, .ref q5, .ref q7, .ref q11, .ref q13, .ref q15, .ref q17, .ref q19, .null, .int 0])), (q1, .inr (0, [.int 1, .int 2, .int 0, .int 0, .ref q2, .ref q3, .ref q4])), (q2, .inl (xc X 0, 96, .inl (fun _ => 0))), (q3, .inl (xc X 0, 6, .inl (fun _ => 0))), (q4, .inl (xc X 2, 6, .inl (fun _ => 0))), (q5, .inr (5, [.int 0, .ref q6])), (q6, .inl (xc X 0, 8, .inl (fun _ => 0))), (q7, .inr (0, [.int 1, .int 2, .int 0, .int 0, .ref q8, .ref q9, .ref q10])), (q8, .inl (xc X 0, 96, .inl (fun _ => 0))), (q9, .inl (xc X 0, 6, .inl (fun _ => 0))), (q10, .inl (xc X 2, 6, .inl (fun _ => 0))), (q11, .inr (5, [.int 0, .ref q12])), (q12, .inl (xc X 0, 8, .inl (fun _ => 0))), (q13, .inr (1, [.ref q1, .ref q14, .int 0])), (q14, .inl (xc X 1, 60, .inr (.inl (fun _ => 0)))), (q15, .inr (3, [.ref q1, .ref q16, .int 0, .ref q5])), (q16, .inl (xc X 1, 384, .inr (.inl (fun _ => 0)))), (q17, .inr (6, [.ref q1, .ref q13, .ref q18, .int 0])), (q18, .inl (xc X 1, 10930, .inr (.inl (vp_updL (vp_updL (vp_updL (vp_updL (fun _ => 0) (6559 : Int32).toNatClampNeg 1) (7653 : Int32).toNatClampNeg 1) (8747 : Int32).toNatClampNeg 1) (9837 : Int32).toNatClampNeg 1)))), (q19, .inr (4, [.ref q1, .int 0, .long 0, .int 0, .ref q20, .ref q21, .ref q22, .ref q23, .ref q24, .ref q25, .ref q26])), (q20, .inl (xc X 0, 15, .inl (fun _ => 0))), (q21, .inl (xc X 0, 15, .inl (fun _ => 0))), (q22, .inl (xc X 0, 15, .inl (fun _ => 0))), (q23, .inl (xc X 0, 15, .inl (fun _ => 0))), (q24, .inl (xc X 0, 15, .inl (fun _ => 0))), (q25, .inl (xc X 0, 15, .inl (fun _ => 0))), (q26, .inl (xc X 1, 15, .inr (.inl (fun _ => 0)))), (q27, .inr (2, [.null, .null, .null, .null]))] := hD
  refine lv_dup hx hb dX8_init_120 rfl ?_
  have hPc := hP.sub (ws' := [(q27, .inr (2, [.null, .null, .null, .null]))]) [27] rfl
  have hDc := hD.sub (ws' := [(q27, .inr (2, [.null, .null, .null, .null]))]) [27] (by decide) rfl
  have hFc := va_free (wc := [(q27, .inr (2, [.null, .null, .null, .null]))]) hD hS hA [27] rfl
  refine va_callv (va_runIN (As := []) (rest := [.ref q27, .ref h0]) ⟨hx, hb, hml, hown, hts⟩ (nX3_init l X _ q27 ) ⟨va_cnB 0 hts (gN q_97) rfl rfl rfl ln_65 (hts _ q_43) (by decide +kernel) ⟨Nat.le_of_ble_eq_true rfl, Nat.le_of_ble_eq_true rfl⟩, rfl, hts _ q_96⟩ ⟨n_blind, n_pre hC hS hPc hDc hFc⟩ rfl rfl hl.1 rfl (lv_room (Nat.le_of_ble_eq_true rfl)) dX8_init_121 ⟨Nat.le_of_ble_eq_true rfl, Nat.le_of_ble_eq_true rfl⟩) hS (fun q _ h => hFc q h) hFc (fun _ t H1 locs ht hvm hw hB hz1 hk1 hS => ?_)
  obtain ⟨q28, q29, q30, q31, hP1, hD1⟩ := hB
  rw [ht] at hP1
  obtain ⟨hP, hD⟩ := va_join (wr := [(h0, .inr (7, [.ref q1, .ref q5, .ref q7, .ref q11, .ref q13, .ref q15, .ref q17, .ref q19, .null, .int 0])), (q1, .inr (0, [.int 1, .int 2, .int 0, .int 0, .ref q2, .ref q3, .ref q4])), (q2, .inl (xc X 0, 96, .inl (fun _ => 0))), (q3, .inl (xc X 0, 6, .inl (fun _ => 0))), (q4, .inl (xc X 2, 6, .inl (fun _ => 0))), (q5, .inr (5, [.int 0, .ref q6])), (q6, .inl (xc X 0, 8, .inl (fun _ => 0))), (q7, .inr (0, [.int 1, .int 2, .int 0, .int 0, .ref q8, .ref q9, .ref q10])), (q8, .inl (xc X 0, 96, .inl (fun _ => 0))), (q9, .inl (xc X 0, 6, .inl (fun _ => 0))), (q10, .inl (xc X 2, 6, .inl (fun _ => 0))), (q11, .inr (5, [.int 0, .ref q12])), (q12, .inl (xc X 0, 8, .inl (fun _ => 0))), (q13, .inr (1, [.ref q1, .ref q14, .int 0])), (q14, .inl (xc X 1, 60, .inr (.inl (fun _ => 0)))), (q15, .inr (3, [.ref q1, .ref q16, .int 0, .ref q5])), (q16, .inl (xc X 1, 384, .inr (.inl (fun _ => 0)))), (q17, .inr (6, [.ref q1, .ref q13, .ref q18, .int 0])), (q18, .inl (xc X 1, 10930, .inr (.inl (vp_updL (vp_updL (vp_updL (vp_updL (fun _ => 0) (6559 : Int32).toNatClampNeg 1) (7653 : Int32).toNatClampNeg 1) (8747 : Int32).toNatClampNeg 1) (9837 : Int32).toNatClampNeg 1)))), (q19, .inr (4, [.ref q1, .int 0, .long 0, .int 0, .ref q20, .ref q21, .ref q22, .ref q23, .ref q24, .ref q25, .ref q26])), (q20, .inl (xc X 0, 15, .inl (fun _ => 0))), (q21, .inl (xc X 0, 15, .inl (fun _ => 0))), (q22, .inl (xc X 0, 15, .inl (fun _ => 0))), (q23, .inl (xc X 0, 15, .inl (fun _ => 0))), (q24, .inl (xc X 0, 15, .inl (fun _ => 0))), (q25, .inl (xc X 0, 15, .inl (fun _ => 0))), (q26, .inl (xc X 1, 15, .inr (.inl (fun _ => 0))))]) (w1 := [(q27, .inr (2, [.ref q28, .ref q29, .ref q30, .ref q31])), (q28, .inl (xc X 2, 3, .inl (fun _ => 0))), (q29, .inl (xc X 2, 3, .inl (fun _ => 0))), (q30, .inl (xc X 0, 3, .inl (fun _ => 0))), (q31, .inl (xc X 0, 120, .inl (fun _ => 0)))]) hP hD [27] [0, 1, 2, 3, 4, 5, 6, 7, 8, 9, 10, 11, 12, 13, 14, 15, 16, 17, 18, 19, 20, 21, 22, 23, 24, 25, 26] rfl rfl (by decide) (by decide) hk1 hFc hP1 hD1
  generalize H1 = H at hP hS ⊢
  have hP : va_P X.1 vwCl [(h0, .inr (7, [.ref q1, .ref q5, .ref q7, .ref q11, .ref q13, .ref q15, .ref q17, .ref q19, .null, .int 0])), (q1, .inr (0, [.int 1, .int 2, .int 0, .int 0, .ref q2, .ref q3, .ref q4])), (q2, .inl (xc X 0, 96, .inl (fun _ => 0))), (q3, .inl (xc X 0, 6, .inl (fun _ => 0))), (q4, .inl (xc X 2, 6, .inl (fun _ => 0))), (q5, .inr (5, [.int 0, .ref q6])), (q6, .inl (xc X 0, 8, .inl (fun _ => 0))), (q7, .inr (0, [.int 1, .int 2, .int 0, .int 0, .ref q8, .ref q9, .ref q10])), (q8, .inl (xc X 0, 96, .inl (fun _ => 0))), (q9, .inl (xc X 0, 6, .inl (fun _ => 0))), (q10, .inl (xc X 2, 6, .inl (fun _ => 0))), (q11, .inr (5, [.int 0, .ref q12])), (q12, .inl (xc X 0, 8, .inl (fun _ => 0))), (q13, .inr (1, [.ref q1, .ref q14, .int 0])), (q14, .inl (xc X 1, 60, .inr (.inl (fun _ => 0)))), (q15, .inr (3, [.ref q1, .ref q16, .int 0, .ref q5])), (q16, .inl (xc X 1, 384, .inr (.inl (fun _ => 0)))), (q17, .inr (6, [.ref q1, .ref q13, .ref q18, .int 0])), (q18, .inl (xc X 1, 10930, .inr (.inl (vp_updL (vp_updL (vp_updL (vp_updL (fun _ => 0) (6559 : Int32).toNatClampNeg 1) (7653 : Int32).toNatClampNeg 1) (8747 : Int32).toNatClampNeg 1) (9837 : Int32).toNatClampNeg 1)))), (q19, .inr (4, [.ref q1, .int 0, .long 0, .int 0, .ref q20, .ref q21, .ref q22, .ref q23, .ref q24, .ref q25, .ref q26])), (q20, .inl (xc X 0, 15, .inl (fun _ => 0))), (q21, .inl (xc X 0, 15, .inl (fun _ => 0))), (q22, .inl (xc X 0, 15, .inl (fun _ => 0))), (q23, .inl (xc X 0, 15, .inl (fun _ => 0))), (q24, .inl (xc X 0, 15, .inl (fun _ => 0))), (q25, .inl (xc X 0, 15, .inl (fun _ => 0))), (q26, .inl (xc X 1, 15, .inr (.inl (fun _ => 0)))), (q27, .inr (2, [.ref q28, .ref q29, .ref q30, .ref q31])), (q28, .inl (xc X 2, 3, .inl (fun _ => 0))), (q29, .inl (xc X 2, 3, .inl (fun _ => 0))), (q30, .inl (xc X 0, 3, .inl (fun _ => 0))), (q31, .inl (xc X 0, 120, .inl (fun _ => 0)))] H := hP
  have hD : va_D A [(h0, .inr (7, [.ref q1, .ref q5, .ref q7, .ref q11, .ref q13, .ref q15, .ref q17, .ref q19, .null, .int 0])), (q1, .inr (0, [.int 1, .int 2, .int 0, .int 0, .ref q2, .ref q3, .ref q4])), (q2, .inl (xc X 0, 96, .inl (fun _ => 0))), (q3, .inl (xc X 0, 6, .inl (fun _ => 0))), (q4, .inl (xc X 2, 6, .inl (fun _ => 0))), (q5, .inr (5, [.int 0, .ref q6])), (q6, .inl (xc X 0, 8, .inl (fun _ => 0))), (q7, .inr (0, [.int 1, .int 2, .int 0, .int 0, .ref q8, .ref q9, .ref q10])), (q8, .inl (xc X 0, 96, .inl (fun _ => 0))), (q9, .inl (xc X 0, 6, .inl (fun _ => 0))), (q10, .inl (xc X 2, 6, .inl (fun _ => 0))), (q11, .inr (5, [.int 0, .ref q12])), (q12, .inl (xc X 0, 8, .inl (fun _ => 0))), (q13, .inr (1, [.ref q1, .ref q14, .int 0])), (q14, .inl (xc X 1, 60, .inr (.inl (fun _ => 0)))), (q15, .inr (3, [.ref q1, .ref q16, .int 0, .ref q5])), (q16, .inl (xc X 1, 384, .inr (.inl (fun _ => 0)))), (q17, .inr (6, [.ref q1, .ref q13, .ref q18, .int 0])), (q18, .inl (xc X 1, 10930, .inr (.inl (vp_updL (vp_updL (vp_updL (vp_updL (fun _ => 0) (6559 : Int32).toNatClampNeg 1) (7653 : Int32).toNatClampNeg 1) (8747 : Int32).toNatClampNeg 1) (9837 : Int32).toNatClampNeg 1)))), (q19, .inr (4, [.ref q1, .int 0, .long 0, .int 0, .ref q20, .ref q21, .ref q22, .ref q23, .ref q24, .ref q25, .ref q26])), (q20, .inl (xc X 0, 15, .inl (fun _ => 0))), (q21, .inl (xc X 0, 15, .inl (fun _ => 0))), (q22, .inl (xc X 0, 15, .inl (fun _ => 0))), (q23, .inl (xc X 0, 15, .inl (fun _ => 0))), (q24, .inl (xc X 0, 15, .inl (fun _ => 0))), (q25, .inl (xc X 0, 15, .inl (fun _ => 0))), (q26, .inl (xc X 1, 15, .inr (.inl (fun _ => 0)))), (q27, .inr (2, [.ref q28, .ref q29, .ref q30, .ref q31])), (q28, .inl (xc X 2, 3, .inl (fun _ => 0))), (q29, .inl (xc X 2, 3, .inl (fun _ => 0))), (q30, .inl (xc X 0, 3, .inl (fun _ => 0))), (q31, .inl (xc X 0, 120, .inl (fun _ => 0)))] := hD
  refine va_putF (D := X.1) (ci := 7) (v := .ref q27) (ty := .object "GrammarAmbiguity$Slots") (C := RX8) (T := TX8) (N := 10) hx hb hts i_X8 tyX8 tyX8_ok nmX8 hown hK hP hD hS 0 rfl rfl 8 (by decide) lf_66 (fun _ h9 => h9) rfl hin rfl (by decide +kernel) rfl rfl (Nat.le_of_ble_eq_true rfl) dX8_init_124 (fun H locs hP hD hS => ?_)
  have hP : va_P X.1 vwCl [(h0, .inr (7, [.ref q1, .ref q5, .ref q7, .ref q11, .ref q13, .ref q15, .ref q17, .ref q19, .ref q27, .int 0])), (q1, .inr (0, [.int 1, .int 2, .int 0, .int 0, .ref q2, .ref q3, .ref q4])), (q2, .inl (xc X 0, 96, .inl (fun _ => 0))), (q3, .inl (xc X 0, 6, .inl (fun _ => 0))), (q4, .inl (xc X 2, 6, .inl (fun _ => 0))), (q5, .inr (5, [.int 0, .ref q6])), (q6, .inl (xc X 0, 8, .inl (fun _ => 0))), (q7, .inr (0, [.int 1, .int 2, .int 0, .int 0, .ref q8, .ref q9, .ref q10])), (q8, .inl (xc X 0, 96, .inl (fun _ => 0))), (q9, .inl (xc X 0, 6, .inl (fun _ => 0))), (q10, .inl (xc X 2, 6, .inl (fun _ => 0))), (q11, .inr (5, [.int 0, .ref q12])), (q12, .inl (xc X 0, 8, .inl (fun _ => 0))), (q13, .inr (1, [.ref q1, .ref q14, .int 0])), (q14, .inl (xc X 1, 60, .inr (.inl (fun _ => 0)))), (q15, .inr (3, [.ref q1, .ref q16, .int 0, .ref q5])), (q16, .inl (xc X 1, 384, .inr (.inl (fun _ => 0)))), (q17, .inr (6, [.ref q1, .ref q13, .ref q18, .int 0])), (q18, .inl (xc X 1, 10930, .inr (.inl (vp_updL (vp_updL (vp_updL (vp_updL (fun _ => 0) (6559 : Int32).toNatClampNeg 1) (7653 : Int32).toNatClampNeg 1) (8747 : Int32).toNatClampNeg 1) (9837 : Int32).toNatClampNeg 1)))), (q19, .inr (4, [.ref q1, .int 0, .long 0, .int 0, .ref q20, .ref q21, .ref q22, .ref q23, .ref q24, .ref q25, .ref q26])), (q20, .inl (xc X 0, 15, .inl (fun _ => 0))), (q21, .inl (xc X 0, 15, .inl (fun _ => 0))), (q22, .inl (xc X 0, 15, .inl (fun _ => 0))), (q23, .inl (xc X 0, 15, .inl (fun _ => 0))), (q24, .inl (xc X 0, 15, .inl (fun _ => 0))), (q25, .inl (xc X 0, 15, .inl (fun _ => 0))), (q26, .inl (xc X 1, 15, .inr (.inl (fun _ => 0)))), (q27, .inr (2, [.ref q28, .ref q29, .ref q30, .ref q31])), (q28, .inl (xc X 2, 3, .inl (fun _ => 0))), (q29, .inl (xc X 2, 3, .inl (fun _ => 0))), (q30, .inl (xc X 0, 3, .inl (fun _ => 0))), (q31, .inl (xc X 0, 120, .inl (fun _ => 0)))] H := hP
  have hD : va_D A [(h0, .inr (7, [.ref q1, .ref q5, .ref q7, .ref q11, .ref q13, .ref q15, .ref q17, .ref q19, .ref q27, .int 0])), (q1, .inr (0, [.int 1, .int 2, .int 0, .int 0, .ref q2, .ref q3, .ref q4])), (q2, .inl (xc X 0, 96, .inl (fun _ => 0))), (q3, .inl (xc X 0, 6, .inl (fun _ => 0))), (q4, .inl (xc X 2, 6, .inl (fun _ => 0))), (q5, .inr (5, [.int 0, .ref q6])), (q6, .inl (xc X 0, 8, .inl (fun _ => 0))), (q7, .inr (0, [.int 1, .int 2, .int 0, .int 0, .ref q8, .ref q9, .ref q10])), (q8, .inl (xc X 0, 96, .inl (fun _ => 0))), (q9, .inl (xc X 0, 6, .inl (fun _ => 0))), (q10, .inl (xc X 2, 6, .inl (fun _ => 0))), (q11, .inr (5, [.int 0, .ref q12])), (q12, .inl (xc X 0, 8, .inl (fun _ => 0))), (q13, .inr (1, [.ref q1, .ref q14, .int 0])), (q14, .inl (xc X 1, 60, .inr (.inl (fun _ => 0)))), (q15, .inr (3, [.ref q1, .ref q16, .int 0, .ref q5])), (q16, .inl (xc X 1, 384, .inr (.inl (fun _ => 0)))), (q17, .inr (6, [.ref q1, .ref q13, .ref q18, .int 0])), (q18, .inl (xc X 1, 10930, .inr (.inl (vp_updL (vp_updL (vp_updL (vp_updL (fun _ => 0) (6559 : Int32).toNatClampNeg 1) (7653 : Int32).toNatClampNeg 1) (8747 : Int32).toNatClampNeg 1) (9837 : Int32).toNatClampNeg 1)))), (q19, .inr (4, [.ref q1, .int 0, .long 0, .int 0, .ref q20, .ref q21, .ref q22, .ref q23, .ref q24, .ref q25, .ref q26])), (q20, .inl (xc X 0, 15, .inl (fun _ => 0))), (q21, .inl (xc X 0, 15, .inl (fun _ => 0))), (q22, .inl (xc X 0, 15, .inl (fun _ => 0))), (q23, .inl (xc X 0, 15, .inl (fun _ => 0))), (q24, .inl (xc X 0, 15, .inl (fun _ => 0))), (q25, .inl (xc X 0, 15, .inl (fun _ => 0))), (q26, .inl (xc X 1, 15, .inr (.inl (fun _ => 0)))), (q27, .inr (2, [.ref q28, .ref q29, .ref q30, .ref q31])), (q28, .inl (xc X 2, 3, .inl (fun _ => 0))), (q29, .inl (xc X 2, 3, .inl (fun _ => 0))), (q30, .inl (xc X 0, 3, .inl (fun _ => 0))), (q31, .inl (xc X 0, 120, .inl (fun _ => 0)))] := hD
  refine lv_aload_n hx hb dX8_init_127 rfl (lv_at hl 0 rfl) ?_
  refine lv_iconst (v := 0) hx hb dX8_init_128 (by decide) ?_
  refine va_put (D := X.1) (ci := 7) (v := .int 0) (ty := .boolean) (C := RX8) (T := TX8) (N := 10) hx hb hts i_X8 tyX8 tyX8_ok nmX8 hown hK hP hD hS 0 rfl rfl 9 (by decide) lf_70 (fun _ h9 => h9) rfl (by decide +kernel) rfl rfl (Nat.le_of_ble_eq_true rfl) dX8_init_129 (fun H locs hP hD hS => ?_)
  have hP : va_P X.1 vwCl [(h0, .inr (7, [.ref q1, .ref q5, .ref q7, .ref q11, .ref q13, .ref q15, .ref q17, .ref q19, .ref q27, .int 0])), (q1, .inr (0, [.int 1, .int 2, .int 0, .int 0, .ref q2, .ref q3, .ref q4])), (q2, .inl (xc X 0, 96, .inl (fun _ => 0))), (q3, .inl (xc X 0, 6, .inl (fun _ => 0))), (q4, .inl (xc X 2, 6, .inl (fun _ => 0))), (q5, .inr (5, [.int 0, .ref q6])), (q6, .inl (xc X 0, 8, .inl (fun _ => 0))), (q7, .inr (0, [.int 1, .int 2, .int 0, .int 0, .ref q8, .ref q9, .ref q10])), (q8, .inl (xc X 0, 96, .inl (fun _ => 0))), (q9, .inl (xc X 0, 6, .inl (fun _ => 0))), (q10, .inl (xc X 2, 6, .inl (fun _ => 0))), (q11, .inr (5, [.int 0, .ref q12])), (q12, .inl (xc X 0, 8, .inl (fun _ => 0))), (q13, .inr (1, [.ref q1, .ref q14, .int 0])), (q14, .inl (xc X 1, 60, .inr (.inl (fun _ => 0)))), (q15, .inr (3, [.ref q1, .ref q16, .int 0, .ref q5])), (q16, .inl (xc X 1, 384, .inr (.inl (fun _ => 0)))), (q17, .inr (6, [.ref q1, .ref q13, .ref q18, .int 0])), (q18, .inl (xc X 1, 10930, .inr (.inl (vp_updL (vp_updL (vp_updL (vp_updL (fun _ => 0) (6559 : Int32).toNatClampNeg 1) (7653 : Int32).toNatClampNeg 1) (8747 : Int32).toNatClampNeg 1) (9837 : Int32).toNatClampNeg 1)))), (q19, .inr (4, [.ref q1, .int 0, .long 0, .int 0, .ref q20, .ref q21, .ref q22, .ref q23, .ref q24, .ref q25, .ref q26])), (q20, .inl (xc X 0, 15, .inl (fun _ => 0))), (q21, .inl (xc X 0, 15, .inl (fun _ => 0))), (q22, .inl (xc X 0, 15, .inl (fun _ => 0))), (q23, .inl (xc X 0, 15, .inl (fun _ => 0))), (q24, .inl (xc X 0, 15, .inl (fun _ => 0))), (q25, .inl (xc X 0, 15, .inl (fun _ => 0))), (q26, .inl (xc X 1, 15, .inr (.inl (fun _ => 0)))), (q27, .inr (2, [.ref q28, .ref q29, .ref q30, .ref q31])), (q28, .inl (xc X 2, 3, .inl (fun _ => 0))), (q29, .inl (xc X 2, 3, .inl (fun _ => 0))), (q30, .inl (xc X 0, 3, .inl (fun _ => 0))), (q31, .inl (xc X 0, 120, .inl (fun _ => 0)))] H := hP
  have hD : va_D A [(h0, .inr (7, [.ref q1, .ref q5, .ref q7, .ref q11, .ref q13, .ref q15, .ref q17, .ref q19, .ref q27, .int 0])), (q1, .inr (0, [.int 1, .int 2, .int 0, .int 0, .ref q2, .ref q3, .ref q4])), (q2, .inl (xc X 0, 96, .inl (fun _ => 0))), (q3, .inl (xc X 0, 6, .inl (fun _ => 0))), (q4, .inl (xc X 2, 6, .inl (fun _ => 0))), (q5, .inr (5, [.int 0, .ref q6])), (q6, .inl (xc X 0, 8, .inl (fun _ => 0))), (q7, .inr (0, [.int 1, .int 2, .int 0, .int 0, .ref q8, .ref q9, .ref q10])), (q8, .inl (xc X 0, 96, .inl (fun _ => 0))), (q9, .inl (xc X 0, 6, .inl (fun _ => 0))), (q10, .inl (xc X 2, 6, .inl (fun _ => 0))), (q11, .inr (5, [.int 0, .ref q12])), (q12, .inl (xc X 0, 8, .inl (fun _ => 0))), (q13, .inr (1, [.ref q1, .ref q14, .int 0])), (q14, .inl (xc X 1, 60, .inr (.inl (fun _ => 0)))), (q15, .inr (3, [.ref q1, .ref q16, .int 0, .ref q5])), (q16, .inl (xc X 1, 384, .inr (.inl (fun _ => 0)))), (q17, .inr (6, [.ref q1, .ref q13, .ref q18, .int 0])), (q18, .inl (xc X 1, 10930, .inr (.inl (vp_updL (vp_updL (vp_updL (vp_updL (fun _ => 0) (6559 : Int32).toNatClampNeg 1) (7653 : Int32).toNatClampNeg 1) (8747 : Int32).toNatClampNeg 1) (9837 : Int32).toNatClampNeg 1)))), (q19, .inr (4, [.ref q1, .int 0, .long 0, .int 0, .ref q20, .ref q21, .ref q22, .ref q23, .ref q24, .ref q25, .ref q26])), (q20, .inl (xc X 0, 15, .inl (fun _ => 0))), (q21, .inl (xc X 0, 15, .inl (fun _ => 0))), (q22, .inl (xc X 0, 15, .inl (fun _ => 0))), (q23, .inl (xc X 0, 15, .inl (fun _ => 0))), (q24, .inl (xc X 0, 15, .inl (fun _ => 0))), (q25, .inl (xc X 0, 15, .inl (fun _ => 0))), (q26, .inl (xc X 1, 15, .inr (.inl (fun _ => 0)))), (q27, .inr (2, [.ref q28, .ref q29, .ref q30, .ref q31])), (q28, .inl (xc X 2, 3, .inl (fun _ => 0))), (q29, .inl (xc X 2, 3, .inl (fun _ => 0))), (q30, .inl (xc X 0, 3, .inl (fun _ => 0))), (q31, .inl (xc X 0, 120, .inl (fun _ => 0)))] := hD
  exact hQ _ _ _ _ _ _ ⟨q1, q2, q3, q4, q5, q6, q7, q8, q9, q10, q11, q12, q13, q14, q15, q16, q17, q18, q19, q20, q21, q22, q23, q24, q25, q26, q27, q28, q29, q30, q31, hP, hD⟩ hS dX8_init_132 (Nat.le_of_ble_eq_true rfl) (Nat.le_of_ble_eq_true rfl)
