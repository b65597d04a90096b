/-! Printed by wip/whole/gen: what each method asks (p..), and its contract under that (k..). -/
def pX9_partsOfLength (p0 : Int32) (p1 : Int32) (S : gS) (Post : Int64 → Prop) : Prop :=
  ((0 ≤ p0 → ((p0 < 10 → (vp_in p0 6 ∧ (vp_in p1 11 ∧ Post (gB S (67 + p0.toNatClampNeg) p1.toNatClampNeg)))) ∧ (¬ p0 < 10 → ((¬ p1 = 1 → Post 0) ∧ (p1 = 1 → Post 1))))) ∧ (¬ 0 ≤ p0 → ((¬ p1 = 0 → Post 0) ∧ (p1 = 0 → Post 1))))
def rX9_partsOfLength : Room := { frames := 0, cells := 0, slots := 0, locals := 0 }
set_option maxHeartbeats 40000000 in
set_option maxRecDepth 100000 in
theorem kX9_partsOfLength (l : Launch) (X : xG) (S : gS) (sz : Nat) (p0 : Int32) (p1 : Int32) (Post : Int64 → Prop) (hf : pX9_partsOfLength p0 p1 S Post) : xMl l yX9_partsOfLength (Cond.code yX9_partsOfLength cX9_partsOfLength 3 (some .long) :: WS) rX9_partsOfLength 133 X (cM X) (eM X) S sz [.ref (xa X 0), .int p0, .int p1] (fun r S' => Post r ∧ S = S') := by
  refine xMl.of (cc := cX9_partsOfLength) (maxL := 3) (own := RX9) (by decide) rfl rfl (Nat.le_of_ble_eq_true rfl) ?_
  intro p e s m args below meth c ls Q hC hQ hw hl
  obtain ⟨hx, hb, hml, hown, hts, hE, hi⟩ := id hC
  have hK := hE.1
  have hl : lv_has ls 3 [(0, .ref (xa X 0)), (1, .int p0), (2, .int p1)] := hl
  have lf_34 : (Cond.fieldLink RX9 34 "GrammarAmbiguityModel" "byLength" "[[J").before args s = true := hts _ q_115
  rw [pX9_partsOfLength] at hf
  refine lv_iload_n hx hb dX9_partsOfLength_0 rfl (lv_at hl 1 rfl) ?_
  refine lv_if_ge (tgt := 16) hx hb dX9_partsOfLength_1 (by decide) (fun c_1 => ?_) (fun c_1 => ?_)
  · replace hf := hf.1 c_1
    refine lv_iload_n hx hb dX9_partsOfLength_16 rfl (lv_at hl 1 rfl) ?_
    refine lv_bipush (v := 10) hx hb dX9_partsOfLength_17 (by decide) ?_
    refine lv_icmp_lt (tgt := 35) hx hb dX9_partsOfLength_19 (by decide) (fun c_2 => ?_) (fun c_2 => ?_)
    · replace hf := hf.1 c_2
      refine lv_aload_n hx hb dX9_partsOfLength_35 rfl (lv_at hl 0 rfl) ?_
      refine x_get (k := 0) (v := .ref (xa X 5)) hx hb hts i_X9 hown hK hw (by decide) rfl rfl 10 (by decide) lf_34 (fun _ h9 => h9) rfl dX9_partsOfLength_36 ?_
      refine lv_iload_n hx hb dX9_partsOfLength_39 rfl (lv_at hl 1 rfl) ?_
      have hb_3 := vp_lt hf.1
      refine x_ald (n := 6) (v := .ref (xa X (67 + p0.toNatClampNeg))) hx hb hK hw (by decide) rfl 4 rfl rfl hf.1 (rf_lt hb_3) dX9_partsOfLength_40 ?_
      replace hf := hf.2
      refine lv_iload_n hx hb dX9_partsOfLength_41 rfl (lv_at hl 2 rfl) ?_
      refine x_lld (n := 11) hx hb hK hw (by omega) (cM_bl hb_3) rfl hf.1 dX9_partsOfLength_42 ?_
      replace hf := hf.2
      exact hQ _ _ _ _ _ _ ⟨hf, rfl⟩ hw dX9_partsOfLength_43
    · replace hf := hf.2 c_2
      refine lv_iload_n hx hb dX9_partsOfLength_22 rfl (lv_at hl 2 rfl) ?_
      refine lv_iconst (v := 1) hx hb dX9_partsOfLength_23 (by decide) ?_
      refine lv_icmp_ne (tgt := 31) hx hb dX9_partsOfLength_24 (by decide) (fun c_4 => ?_) (fun c_4 => ?_)
      · replace hf := hf.1 c_4
        refine lv_lconst (v := 0) hx hb dX9_partsOfLength_31 (by decide) ?_
        refine lv_goto (tgt := 43) hx hb dX9_partsOfLength_32 (by decide) ?_
        exact hQ _ _ _ _ _ _ ⟨hf, rfl⟩ hw dX9_partsOfLength_43
      · replace hf := hf.2 c_4
        refine lv_lconst (v := 1) hx hb dX9_partsOfLength_27 (by decide) ?_
        refine lv_goto (tgt := 43) hx hb dX9_partsOfLength_28 (by decide) ?_
        exact hQ _ _ _ _ _ _ ⟨hf, rfl⟩ hw dX9_partsOfLength_43
  · replace hf := hf.2 c_1
    refine lv_iload_n hx hb dX9_partsOfLength_4 rfl (lv_at hl 2 rfl) ?_
    refine lv_if_ne (tgt := 12) hx hb dX9_partsOfLength_5 (by decide) (fun c_5 => ?_) (fun c_5 => ?_)
    · replace hf := hf.1 c_5
      refine lv_lconst (v := 0) hx hb dX9_partsOfLength_12 (by decide) ?_
      refine lv_goto (tgt := 43) hx hb dX9_partsOfLength_13 (by decide) ?_
      exact hQ _ _ _ _ _ _ ⟨hf, rfl⟩ hw dX9_partsOfLength_43
    · replace hf := hf.2 c_5
      refine lv_lconst (v := 1) hx hb dX9_partsOfLength_8 (by decide) ?_
      refine lv_goto (tgt := 43) hx hb dX9_partsOfLength_9 (by decide) ?_
      exact hQ _ _ _ _ _ _ ⟨hf, rfl⟩ hw dX9_partsOfLength_43
def jX9_treesWith_42 (p0 : Int32) (p3 : Int32) (S : gS) (Post : Int64 → Prop) (y_4 : Int64) : Prop :=
  ((¬ (lg_cmp y_4 0) = 0 → (vp_in p0 24 ∧ (vp_in (3 : Int32) 4 ∧ (pX9_partsOfLength (gA S (16 + p0.toNatClampNeg) (3 : Int32).toNatClampNeg) p3 S (fun r_7 => Post (y_4 * r_7)))))) ∧ ((lg_cmp y_4 0) = 0 → Post 0))
def pX9_treesWith (p0 : Int32) (p1 : Int32) (p2 : Int32) (p3 : Int32) (S : gS) (Post : Int64 → Prop) : Prop :=
  (vp_in p0 24 ∧ (vp_in (1 : Int32) 4 ∧ (pX9_partsOfLength (gA S (16 + p0.toNatClampNeg) (1 : Int32).toNatClampNeg) p1 S (fun r_2 => ((¬ (lg_cmp r_2 0) = 0 → (vp_in p0 24 ∧ (vp_in (2 : Int32) 4 ∧ (pX9_partsOfLength (gA S (16 + p0.toNatClampNeg) (2 : Int32).toNatClampNeg) p2 S (fun r_11 => jX9_treesWith_42 p0 p3 S Post (r_2 * r_11)))))) ∧ ((lg_cmp r_2 0) = 0 → jX9_treesWith_42 p0 p3 S Post 0))))))
def rX9_treesWith : Room := { frames := 1, cells := 0, slots := 0, locals := 22 }
set_option maxHeartbeats 40000000 in
set_option maxRecDepth 100000 in
theorem kX9_treesWith (l : Launch) (X : xG) (S : gS) (sz : Nat) (p0 : Int32) (p1 : Int32) (p2 : Int32) (p3 : Int32) (Post : Int64 → Prop) (hf : pX9_treesWith p0 p1 p2 p3 S Post) : xMl l yX9_treesWith (Cond.code yX9_treesWith cX9_treesWith 7 (some .long) :: WS) rX9_treesWith 133 X (cM X) (eM X) S sz [.ref (xa X 0), .int p0, .int p1, .int p2, .int p3] (fun r S' => Post r ∧ S = S') := by
  refine xMl.of (cc := cX9_treesWith) (maxL := 7) (own := RX9) (by decide) rfl rfl (Nat.le_of_ble_eq_true rfl) ?_
  intro p e s m args below meth c ls Q hC hQ hw hl
  obtain ⟨hx, hb, hml, hown, hts, hE, hi⟩ := id hC
  have hK := hE.1
  have hl : lv_has ls 7 [(0, .ref (xa X 0)), (1, .int p0), (2, .int p1), (3, .int p2), (4, .int p3)] := hl
  have lf_18 : (Cond.fieldLink RX9 18 "GrammarAmbiguityModel" "symbols" "[[I").before args s = true := hts _ q_110
  rw [pX9_treesWith] at hf
  refine lv_aload_n hx hb dX9_treesWith_0 rfl (lv_at hl 0 rfl) ?_
  refine lv_aload_n hx hb dX9_treesWith_1 rfl (lv_at hl 0 rfl) ?_
  refine x_get (k := 0) (v := .ref (xa X 1)) hx hb hts i_X9 hown hK hw (by decide) rfl rfl 5 (by decide) lf_18 (fun _ h9 => h9) rfl dX9_treesWith_2 ?_
  refine lv_iload_n hx hb dX9_treesWith_5 rfl (lv_at hl 1 rfl) ?_
  have hb_1 := vp_lt hf.1
  refine x_ald (n := 24) (v := .ref (xa X (16 + p0.toNatClampNeg))) hx hb hK hw (by decide) rfl 3 rfl rfl hf.1 (rf_lt hb_1) dX9_treesWith_6 ?_
  replace hf := hf.2
  refine lv_iconst (v := 1) hx hb dX9_treesWith_7 (by decide) ?_
  refine x_ild (n := 4) hx hb hK hw (by omega) (cM_sy hb_1) rfl hf.1 dX9_treesWith_8 ?_
  replace hf := hf.2
  refine lv_iload_n hx hb dX9_treesWith_9 rfl (lv_at hl 2 rfl) ?_
  refine x_cl (x_rV (As := [.int (gA S (16 + p0.toNatClampNeg) (1 : Int32).toNatClampNeg), .int p1]) (rest := []) (okM X) hC hw (kX9_partsOfLength l X S _ (gA S (16 + p0.toNatClampNeg) (1 : Int32).toNatClampNeg) p1 _ hf) (cwV 2 hts (gV q_533 q_534 q_535 q_5 q_536) rfl rfl rfl (by decide +kernel) ⟨Nat.le_of_ble_eq_true rfl, Nat.le_of_ble_eq_true rfl⟩) (x_recv hK hw (k := 0) (by decide) rfl rfl) rfl hl.1 rfl (Nat.le_of_ble_eq_true rfl) dX9_treesWith_10) hw hi (fun r_2 S_3 H locs hf hw => ?_)
  obtain ⟨hf, rfl⟩ := hf
  refine lv_lstore (lv' := [(5, .long r_2), (0, .ref (xa X 0)), (1, .int p0), (2, .int p1), (3, .int p2), (4, .int p3)]) hx hb dX9_treesWith_13 hl (by decide) rfl (fun ls hl => ?_)
  refine lv_lload hx hb dX9_treesWith_15 (lv_at hl 0 rfl) ?_
  refine lv_lconst (v := 0) hx hb dX9_treesWith_17 (by decide) ?_
  refine W.lcmp hx hb dX9_treesWith_18 ?_
  have w_42 : ∀ (y_4 : Int64) (H : Heap) (locs : List Loc) (ls : Array Slot), jX9_treesWith_42 p0 p3 S Post y_4 → xH 133 X (cM X) (xA 133 X s.heap.size) s.heap S H locs → lv_has ls 7 [(0, .ref (xa X 0)), (1, .int p0), (4, .int p3)] → W p l e rX9_treesWith s m args below meth c H locs 0 0 Q (F0 m 42 ls [.long y_4]) := by
    intro y_4 H locs ls hf hw hl
    rw [jX9_treesWith_42] at hf
    refine lv_lstore (lv' := [(5, .long y_4), (0, .ref (xa X 0)), (1, .int p0), (4, .int p3)]) hx hb dX9_treesWith_42 hl (by decide) rfl (fun ls hl => ?_)
    refine lv_lload hx hb dX9_treesWith_44 (lv_at hl 0 rfl) ?_
    refine lv_lconst (v := 0) hx hb dX9_treesWith_46 (by decide) ?_
    refine W.lcmp hx hb dX9_treesWith_47 ?_
    refine lv_if_ne (tgt := 55) hx hb dX9_treesWith_48 (by decide) (fun c_5 => ?_) (fun c_5 => ?_)
    · replace hf := hf.1 c_5
      refine lv_lload hx hb dX9_treesWith_55 (lv_at hl 0 rfl) ?_
      refine lv_aload_n hx hb dX9_treesWith_57 rfl (lv_at hl 1 rfl) ?_
      refine lv_aload_n hx hb dX9_treesWith_58 rfl (lv_at hl 1 rfl) ?_
      refine x_get (k := 0) (v := .ref (xa X 1)) hx hb hts i_X9 hown hK hw (by decide) rfl rfl 5 (by decide) lf_18 (fun _ h9 => h9) rfl dX9_treesWith_59 ?_
      refine lv_iload_n hx hb dX9_treesWith_62 rfl (lv_at hl 2 rfl) ?_
      have hb_6 := vp_lt hf.1
      refine x_ald (n := 24) (v := .ref (xa X (16 + p0.toNatClampNeg))) hx hb hK hw (by decide) rfl 3 rfl rfl hf.1 (rf_lt hb_6) dX9_treesWith_63 ?_
      replace hf := hf.2
      refine lv_iconst (v := 3) hx hb dX9_treesWith_64 (by decide) ?_
      refine x_ild (n := 4) hx hb hK hw (by omega) (cM_sy hb_6) rfl hf.1 dX9_treesWith_65 ?_
      replace hf := hf.2
      refine lv_iload hx hb dX9_treesWith_66 (lv_at hl 3 rfl) ?_
      refine x_cl (x_rV (As := [.int (gA S (16 + p0.toNatClampNeg) (3 : Int32).toNatClampNeg), .int p3]) (rest := [.long y_4]) (okM X) hC hw (kX9_partsOfLength l X S _ (gA S (16 + p0.toNatClampNeg) (3 : Int32).toNatClampNeg) p3 _ hf) (cwV 2 hts (gV q_533 q_534 q_535 q_5 q_536) rfl rfl rfl (by decide +kernel) ⟨Nat.le_of_ble_eq_true rfl, Nat.le_of_ble_eq_true rfl⟩) (x_recv hK hw (k := 0) (by decide) rfl rfl) rfl hl.1 rfl (Nat.le_of_ble_eq_true rfl) dX9_treesWith_68) hw hi (fun r_7 S_8 H locs hf hw => ?_)
      obtain ⟨hf, rfl⟩ := hf
      refine lv_lmul hx hb dX9_treesWith_71 ?_
      exact hQ _ _ _ _ _ _ ⟨hf, rfl⟩ hw dX9_treesWith_72
    · replace hf := hf.2 c_5
      refine lv_lconst (v := 0) hx hb dX9_treesWith_51 (by decide) ?_
      refine lv_goto (tgt := 72) hx hb dX9_treesWith_52 (by decide) ?_
      exact hQ _ _ _ _ _ _ ⟨hf, rfl⟩ hw dX9_treesWith_72
  refine lv_if_ne (tgt := 26) hx hb dX9_treesWith_19 (by decide) (fun c_9 => ?_) (fun c_9 => ?_)
  · replace hf := hf.1 c_9
    refine lv_lload hx hb dX9_treesWith_26 (lv_at hl 0 rfl) ?_
    refine lv_aload_n hx hb dX9_treesWith_28 rfl (lv_at hl 1 rfl) ?_
    refine lv_aload_n hx hb dX9_treesWith_29 rfl (lv_at hl 1 rfl) ?_
    refine x_get (k := 0) (v := .ref (xa X 1)) hx hb hts i_X9 hown hK hw (by decide) rfl rfl 5 (by decide) lf_18 (fun _ h9 => h9) rfl dX9_treesWith_30 ?_
    refine lv_iload_n hx hb dX9_treesWith_33 rfl (lv_at hl 2 rfl) ?_
    have hb_10 := vp_lt hf.1
    refine x_ald (n := 24) (v := .ref (xa X (16 + p0.toNatClampNeg))) hx hb hK hw (by decide) rfl 3 rfl rfl hf.1 (rf_lt hb_10) dX9_treesWith_34 ?_
    replace hf := hf.2
    refine lv_iconst (v := 2) hx hb dX9_treesWith_35 (by decide) ?_
    refine x_ild (n := 4) hx hb hK hw (by omega) (cM_sy hb_10) rfl hf.1 dX9_treesWith_36 ?_
    replace hf := hf.2
    refine lv_iload_n hx hb dX9_treesWith_37 rfl (lv_at hl 4 rfl) ?_
    refine x_cl (x_rV (As := [.int (gA S (16 + p0.toNatClampNeg) (2 : Int32).toNatClampNeg), .int p2]) (rest := [.long r_2]) (okM X) hC hw (kX9_partsOfLength l X S _ (gA S (16 + p0.toNatClampNeg) (2 : Int32).toNatClampNeg) p2 _ hf) (cwV 2 hts (gV q_533 q_534 q_535 q_5 q_536) rfl rfl rfl (by decide +kernel) ⟨Nat.le_of_ble_eq_true rfl, Nat.le_of_ble_eq_true rfl⟩) (x_recv hK hw (k := 0) (by decide) rfl rfl) rfl hl.1 rfl (Nat.le_of_ble_eq_true rfl) dX9_treesWith_38) hw hi (fun r_11 S_12 H locs hf hw => ?_)
    obtain ⟨hf, rfl⟩ := hf
    refine lv_lmul hx hb dX9_treesWith_41 ?_
    exact w_42 (r_2 * r_11) _ _ _ hf hw (lv_sub hl [1, 2, 5] rfl)
  · replace hf := hf.2 c_9
    refine lv_lconst (v := 0) hx hb dX9_treesWith_22 (by decide) ?_
    refine lv_goto (tgt := 42) hx hb dX9_treesWith_23 (by decide) ?_
    exact w_42 0 _ _ _ hf hw (lv_sub hl [1, 2, 5] rfl)
def bX9_countByLength_60 (x1_4 : Int32) (x2_7 : Int32) (S_8 : gS) (L_47 : Int32 × gS → Prop) (L_60 : Int64 × Int32 → Prop) (x3_11 : Int64) (x5_12 : Int32) : Prop :=
  ((((x1_4 + 1) * (x1_4 + 1)) ≤ x5_12 → (vp_in x2_7 24 ∧ (vp_in (0 : Int32) 4 ∧ (vp_in (gA S_8 (16 + x2_7.toNatClampNeg) (0 : Int32).toNatClampNeg) 6 ∧ (vp_in x1_4 11 ∧ (vp_in x1_4 11 ∧ (∀ S_16 : gS, S_16 = uB S_8 (67 + (gA S_8 (16 + x2_7.toNatClampNeg) (0 : Int32).toNatClampNeg).toNatClampNeg) x1_4.toNatClampNeg ((gB S_8 (67 + (gA S_8 (16 + x2_7.toNatClampNeg) (0 : Int32).toNatClampNeg).toNatClampNeg) x1_4.toNatClampNeg) + x3_11) → (∀ x2_17 : Int32, x2_17 = x2_7 + 1 → L_47 (x2_17, S_16))))))))) ∧ (¬ ((x1_4 + 1) * (x1_4 + 1)) ≤ x5_12 → (¬ (x1_4 + 1) = 0 ∧ (∀ x6_18 : Int32, x6_18 = (x5_12 / (x1_4 + 1)) → (¬ (x1_4 + 1) = 0 ∧ (∀ x7_19 : Int32, x7_19 = (x5_12 - x5_12 / (x1_4 + 1) * (x1_4 + 1)) → ((x1_4 < (x6_18 + x7_19) → (∀ x3_21 : Int64, x3_21 = (x3_11 + 0) → (∀ x5_22 : Int32, x5_22 = x5_12 + 1 → L_60 (x3_21, x5_22)))) ∧ (¬ x1_4 < (x6_18 + x7_19) → (pX9_treesWith x2_7 x6_18 x7_19 ((x1_4 - x6_18) - x7_19) S_8 (fun r_23 => (∀ x3_25 : Int64, x3_25 = (x3_11 + r_23) → (∀ x5_26 : Int32, x5_26 = x5_12 + 1 → L_60 (x3_25, x5_26)))))))))))))
def bX9_countByLength_47 (x1_4 : Int32) (L_39 : Int32 × gS → Prop) (L_47 : Int32 × gS → Prop) (x2_7 : Int32) (S_8 : gS) : Prop :=
  (((gI S_8 4) ≤ x2_7 → (∀ x1_10 : Int32, x1_10 = x1_4 + 1 → L_39 (x1_10, S_8))) ∧ (¬ (gI S_8 4) ≤ x2_7 → ∃ n, lp (fun L x => bX9_countByLength_60 x1_4 x2_7 S_8 L_47 L x.1 x.2) n (0, 0)))
def bX9_countByLength_39 (Post : gS → Prop) (L_39 : Int32 × gS → Prop) (x1_4 : Int32) (S_5 : gS) : Prop :=
  ((11 ≤ x1_4 → Post S_5) ∧ (¬ 11 ≤ x1_4 → ∃ n, lp (fun L x => bX9_countByLength_47 x1_4 L_39 L x.1 x.2) n (0, S_5)))
def bX9_countByLength_10 (x1_1 : Int32) (L_2 : Int32 × gS → Prop) (L_10 : Int32 × gS → Prop) (x2_27 : Int32) (S_28 : gS) : Prop :=
  ((11 ≤ x2_27 → (∀ x1_30 : Int32, x1_30 = x1_1 + 1 → L_2 (x1_30, S_28))) ∧ (¬ 11 ≤ x2_27 → (vp_in x1_1 6 ∧ (vp_in x2_27 11 ∧ (∀ S_32 : gS, S_32 = uB S_28 (67 + x1_1.toNatClampNeg) x2_27.toNatClampNeg 0 → (∀ x2_33 : Int32, x2_33 = x2_27 + 1 → L_10 (x2_33, S_32)))))))
def bX9_countByLength_2 (Post : gS → Prop) (L_2 : Int32 × gS → Prop) (x1_1 : Int32) (S_2 : gS) : Prop :=
  ((6 ≤ x1_1 → ∃ n, lp (fun L x => bX9_countByLength_39 Post L x.1 x.2) n (1, S_2)) ∧ (¬ 6 ≤ x1_1 → ∃ n, lp (fun L x => bX9_countByLength_10 x1_1 L_2 L x.1 x.2) n (0, S_2)))
def pX9_countByLength (S : gS) (Post : gS → Prop) : Prop :=
  ∃ n, lp (fun L x => bX9_countByLength_2 Post L x.1 x.2) n (0, S)
def rX9_countByLength : Room := { frames := 2, cells := 0, slots := 0, locals := 48 }
set_option maxHeartbeats 40000000 in
set_option maxRecDepth 100000 in
theorem kX9_countByLength (l : Launch) (X : xG) (S : gS) (sz : Nat) (Post : gS → Prop) (hf : pX9_countByLength S Post) : xMv l yX9_countByLength (Cond.code yX9_countByLength cX9_countByLength 8 none :: WS) rX9_countByLength 133 X (cM X) (eM X) S sz [.ref (xa X 0)] Post := by
  refine xMv.of (cc := cX9_countByLength) (maxL := 8) (own := RX9) (by decide) rfl rfl (Nat.le_of_ble_eq_true rfl) ?_
  intro p e s m args below meth c ls Q hC hQ hw hl
  obtain ⟨hx, hb, hml, hown, hts, hE, hi⟩ := id hC
  have hK := hE.1
  have hl : lv_has ls 8 [(0, .ref (xa X 0))] := hl
  have lf_76 : (Cond.fieldLink RX9 76 "GrammarAmbiguityModel" "productions" "I").before args s = true := hts _ q_157
  have lf_34 : (Cond.fieldLink RX9 34 "GrammarAmbiguityModel" "byLength" "[[J").before args s = true := hts _ q_115
  have lf_18 : (Cond.fieldLink RX9 18 "GrammarAmbiguityModel" "symbols" "[[I").before args s = true := hts _ q_110
  rw [pX9_countByLength] at hf
  refine lv_iconst (v := 0) hx hb dX9_countByLength_0 (by decide) ?_
  refine lv_istore_n (lv' := [(1, .int 0), (0, .ref (xa X 0))]) hx hb dX9_countByLength_1 rfl hl (by decide) rfl (fun ls hl => ?_)
  obtain ⟨n_2, hf⟩ := hf
  have w_2 : ∀ (n : Nat) (x1_1 : Int32) (S_2 : gS) (H : Heap) (locs : List Loc) (ls : Array Slot), lp (fun L x => bX9_countByLength_2 Post L x.1 x.2) n (x1_1, S_2) → xH 133 X (cM X) (xA 133 X s.heap.size) s.heap S_2 H locs → lv_has ls 8 [(0, .ref (xa X 0)), (1, .int x1_1)] → W p l e rX9_countByLength s m args below meth c H locs 0 0 Q (F0 m 2 ls []) := by
    intro n
    induction n with
    | zero => intro x1_1 S_2 H locs ls hf; exact hf.elim
    | succ n ih_2 =>
      intro x1_1 S_2 H locs ls hf hw hl
      replace hf : bX9_countByLength_2 Post (lp (fun L x => bX9_countByLength_2 Post L x.1 x.2) n) x1_1 S_2 := hf
      generalize lp (fun L x => bX9_countByLength_2 Post L x.1 x.2) n = L_2 at hf ih_2
      rw [bX9_countByLength_2] at hf
      refine lv_iload_n hx hb dX9_countByLength_2 rfl (lv_at hl 1 rfl) ?_
      refine lv_bipush (v := 6) hx hb dX9_countByLength_3 (by decide) ?_
      refine lv_icmp_ge (tgt := 37) hx hb dX9_countByLength_5 (by decide) (fun c_3 => ?_) (fun c_3 => ?_)
      · replace hf := hf.1 c_3
        refine lv_iconst (v := 1) hx hb dX9_countByLength_37 (by decide) ?_
        refine lv_istore_n (lv' := [(1, .int 1), (0, .ref (xa X 0))]) hx hb dX9_countByLength_38 rfl hl (by decide) rfl (fun ls hl => ?_)
        obtain ⟨n_39, hf⟩ := hf
        have w_39 : ∀ (n : Nat) (x1_4 : Int32) (S_5 : gS) (H : Heap) (locs : List Loc) (ls : Array Slot), lp (fun L x => bX9_countByLength_39 Post L x.1 x.2) n (x1_4, S_5) → xH 133 X (cM X) (xA 133 X s.heap.size) s.heap S_5 H locs → lv_has ls 8 [(0, .ref (xa X 0)), (1, .int x1_4)] → W p l e rX9_countByLength s m args below meth c H locs 0 0 Q (F0 m 39 ls []) := by
          intro n
          induction n with
          | zero => intro x1_4 S_5 H locs ls hf; exact hf.elim
          | succ n ih_39 =>
            intro x1_4 S_5 H locs ls hf hw hl
            replace hf : bX9_countByLength_39 Post (lp (fun L x => bX9_countByLength_39 Post L x.1 x.2) n) x1_4 S_5 := hf
            generalize lp (fun L x => bX9_countByLength_39 Post L x.1 x.2) n = L_39 at hf ih_39
            rw [bX9_countByLength_39] at hf
            refine lv_iload_n hx hb dX9_countByLength_39 rfl (lv_at hl 1 rfl) ?_
            refine lv_bipush (v := 11) hx hb dX9_countByLength_40 (by decide) ?_
            refine lv_icmp_ge (tgt := 157) hx hb dX9_countByLength_42 (by decide) (fun c_6 => ?_) (fun c_6 => ?_)
            · replace hf := hf.1 c_6
              exact hQ _ _ _ _ _ hf hw dX9_countByLength_157
            · replace hf := hf.2 c_6
              refine lv_iconst (v := 0) hx hb dX9_countByLength_45 (by decide) ?_
              refine lv_istore_n (lv' := [(2, .int 0), (0, .ref (xa X 0)), (1, .int x1_4)]) hx hb dX9_countByLength_46 rfl hl (by decide) rfl (fun ls hl => ?_)
              obtain ⟨n_47, hf⟩ := hf
              have w_47 : ∀ (n : Nat) (x2_7 : Int32) (S_8 : gS) (H : Heap) (locs : List Loc) (ls : Array Slot), lp (fun L x => bX9_countByLength_47 x1_4 L_39 L x.1 x.2) n (x2_7, S_8) → xH 133 X (cM X) (xA 133 X s.heap.size) s.heap S_8 H locs → lv_has ls 8 [(0, .ref (xa X 0)), (1, .int x1_4), (2, .int x2_7)] → W p l e rX9_countByLength s m args below meth c H locs 0 0 Q (F0 m 47 ls []) := by
                intro n
                induction n with
                | zero => intro x2_7 S_8 H locs ls hf; exact hf.elim
                | succ n ih_47 =>
                  intro x2_7 S_8 H locs ls hf hw hl
                  replace hf : bX9_countByLength_47 x1_4 L_39 (lp (fun L x => bX9_countByLength_47 x1_4 L_39 L x.1 x.2) n) x2_7 S_8 := hf
                  generalize lp (fun L x => bX9_countByLength_47 x1_4 L_39 L x.1 x.2) n = L_47 at hf ih_47
                  rw [bX9_countByLength_47] at hf
                  refine lv_iload_n hx hb dX9_countByLength_47 rfl (lv_at hl 2 rfl) ?_
                  refine lv_aload_n hx hb dX9_countByLength_48 rfl (lv_at hl 0 rfl) ?_
                  refine x_get (k := 0) (v := .int (gI S_8 4)) hx hb hts i_X9 hown hK hw (by decide) rfl rfl 4 (by decide) lf_76 (fun _ h9 => h9) rfl dX9_countByLength_49 ?_
                  refine lv_icmp_ge (tgt := 151) hx hb dX9_countByLength_52 (by decide) (fun c_9 => ?_) (fun c_9 => ?_)
                  · replace hf := hf.1 c_9
                    obtain ⟨x1_10, ex1_10⟩ : ∃ y : Int32, y = x1_4 + 1 := ⟨_, rfl⟩
                    replace hf := hf x1_10 ex1_10
                    refine lv_iinc (v := x1_10) (lv' := [(1, .int x1_10), (0, .ref (xa X 0)), (2, .int x2_7)]) hx hb dX9_countByLength_151 hl (k := 1) rfl (by rw [ex1_10]; rfl) (by decide) rfl (fun ls hl => ?_)
                    refine lv_goto (tgt := 39) hx hb dX9_countByLength_154 (by decide) ?_
                    exact ih_39 x1_10 S_8 _ _ _ hf hw (lv_sub hl [1, 0] rfl)
                  · replace hf := hf.2 c_9
                    refine lv_lconst (v := 0) hx hb dX9_countByLength_55 (by decide) ?_
                    refine lv_lstore_n (lv' := [(3, .long 0), (0, .ref (xa X 0)), (1, .int x1_4), (2, .int x2_7)]) hx hb dX9_countByLength_56 rfl hl (by decide) rfl (fun ls hl => ?_)
                    refine lv_iconst (v := 0) hx hb dX9_countByLength_57 (by decide) ?_
                    refine lv_istore (lv' := [(5, .int 0), (3, .long 0), (0, .ref (xa X 0)), (1, .int x1_4), (2, .int x2_7)]) hx hb dX9_countByLength_58 hl (by decide) rfl (fun ls hl => ?_)
                    obtain ⟨n_60, hf⟩ := hf
                    have w_60 : ∀ (n : Nat) (x3_11 : Int64) (x5_12 : Int32) (H : Heap) (locs : List Loc) (ls : Array Slot), lp (fun L x => bX9_countByLength_60 x1_4 x2_7 S_8 L_47 L x.1 x.2) n (x3_11, x5_12) → xH 133 X (cM X) (xA 133 X s.heap.size) s.heap S_8 H locs → lv_has ls 8 [(0, .ref (xa X 0)), (1, .int x1_4), (2, .int x2_7), (3, .long x3_11), (5, .int x5_12)] → W p l e rX9_countByLength s m args below meth c H locs 0 0 Q (F0 m 60 ls []) := by
                      intro n
                      induction n with
                      | zero => intro x3_11 x5_12 H locs ls hf; exact hf.elim
                      | succ n ih_60 =>
                        intro x3_11 x5_12 H locs ls hf hw hl
                        replace hf : bX9_countByLength_60 x1_4 x2_7 S_8 L_47 (lp (fun L x => bX9_countByLength_60 x1_4 x2_7 S_8 L_47 L x.1 x.2) n) x3_11 x5_12 := hf
                        generalize lp (fun L x => bX9_countByLength_60 x1_4 x2_7 S_8 L_47 L x.1 x.2) n = L_60 at hf ih_60
                        rw [bX9_countByLength_60] at hf
                        refine lv_iload hx hb dX9_countByLength_60 (lv_at hl 4 rfl) ?_
                        refine lv_iload_n hx hb dX9_countByLength_62 rfl (lv_at hl 1 rfl) ?_
                        refine lv_iconst (v := 1) hx hb dX9_countByLength_63 (by decide) ?_
                        refine lv_iadd hx hb dX9_countByLength_64 ?_
                        refine lv_iload_n hx hb dX9_countByLength_65 rfl (lv_at hl 1 rfl) ?_
                        refine lv_iconst (v := 1) hx hb dX9_countByLength_66 (by decide) ?_
                        refine lv_iadd hx hb dX9_countByLength_67 ?_
                        refine lv_imul hx hb dX9_countByLength_68 ?_
                        refine lv_icmp_ge (tgt := 126) hx hb dX9_countByLength_69 (by decide) (fun c_13 => ?_) (fun c_13 => ?_)
                        · replace hf := hf.1 c_13
                          refine lv_aload_n hx hb dX9_countByLength_126 rfl (lv_at hl 0 rfl) ?_
                          refine x_get (k := 0) (v := .ref (xa X 5)) hx hb hts i_X9 hown hK hw (by decide) rfl rfl 10 (by decide) lf_34 (fun _ h9 => h9) rfl dX9_countByLength_127 ?_
                          refine lv_aload_n hx hb dX9_countByLength_130 rfl (lv_at hl 0 rfl) ?_
                          refine x_get (k := 0) (v := .ref (xa X 1)) hx hb hts i_X9 hown hK hw (by decide) rfl rfl 5 (by decide) lf_18 (fun _ h9 => h9) rfl dX9_countByLength_131 ?_
                          refine lv_iload_n hx hb dX9_countByLength_134 rfl (lv_at hl 2 rfl) ?_
                          have hb_14 := vp_lt hf.1
                          refine x_ald (n := 24) (v := .ref (xa X (16 + x2_7.toNatClampNeg))) hx hb hK hw (by decide) rfl 3 rfl rfl hf.1 (rf_lt hb_14) dX9_countByLength_135 ?_
                          replace hf := hf.2
                          refine lv_iconst (v := 0) hx hb dX9_countByLength_136 (by decide) ?_
                          refine x_ild (n := 4) hx hb hK hw (by omega) (cM_sy hb_14) rfl hf.1 dX9_countByLength_137 ?_
                          replace hf := hf.2
                          have hb_15 := vp_lt hf.1
                          refine x_ald (n := 6) (v := .ref (xa X (67 + (gA S_8 (16 + x2_7.toNatClampNeg) (0 : Int32).toNatClampNeg).toNatClampNeg))) hx hb hK hw (by decide) rfl 4 rfl rfl hf.1 (rf_lt hb_15) dX9_countByLength_138 ?_
                          replace hf := hf.2
                          refine lv_iload_n hx hb dX9_countByLength_139 rfl (lv_at hl 1 rfl) ?_
                          refine lv_dup2_11 hx hb dX9_countByLength_140 rfl rfl ?_
                          refine x_lld (n := 11) hx hb hK hw (by omega) (cM_bl hb_15) rfl hf.1 dX9_countByLength_141 ?_
                          replace hf := hf.2
                          refine lv_lload_n hx hb dX9_countByLength_142 rfl (lv_at hl 3 rfl) ?_
                          refine lv_ladd hx hb dX9_countByLength_143 ?_
                          refine x_lst (n := 11) hx hb hK hw (by omega) (cM_bl hb_15) rfl hf.1 dX9_countByLength_144 (uM_rJ (fun _ => cM_bl hb_15) _ _) (fun H locs hw => ?_)
                          replace hf := hf.2
                          obtain ⟨S_16, eS_16⟩ : ∃ z : gS, z = uB S_8 (67 + (gA S_8 (16 + x2_7.toNatClampNeg) (0 : Int32).toNatClampNeg).toNatClampNeg) x1_4.toNatClampNeg ((gB S_8 (67 + (gA S_8 (16 + x2_7.toNatClampNeg) (0 : Int32).toNatClampNeg).toNatClampNeg) x1_4.toNatClampNeg) + x3_11) := ⟨_, rfl⟩
                          rw [← eS_16] at hw
                          replace hf := hf S_16 eS_16
                          obtain ⟨x2_17, ex2_17⟩ : ∃ y : Int32, y = x2_7 + 1 := ⟨_, rfl⟩
                          replace hf := hf x2_17 ex2_17
                          refine lv_iinc (v := x2_17) (lv' := [(2, .int x2_17), (0, .ref (xa X 0)), (1, .int x1_4), (3, .long x3_11), (5, .int x5_12)]) hx hb dX9_countByLength_145 hl (k := 2) rfl (by rw [ex2_17]; rfl) (by decide) rfl (fun ls hl => ?_)
                          refine lv_goto (tgt := 47) hx hb dX9_countByLength_148 (by decide) ?_
                          exact ih_47 x2_17 S_16 _ _ _ hf hw (lv_sub hl [1, 2, 0] rfl)
                        · replace hf := hf.2 c_13
                          refine lv_iload hx hb dX9_countByLength_72 (lv_at hl 4 rfl) ?_
                          refine lv_iload_n hx hb dX9_countByLength_74 rfl (lv_at hl 1 rfl) ?_
                          refine lv_iconst (v := 1) hx hb dX9_countByLength_75 (by decide) ?_
                          refine lv_iadd hx hb dX9_countByLength_76 ?_
                          refine lv_idiv hx hb dX9_countByLength_77 hf.1 ?_
                          replace hf := hf.2
                          refine lv_topi (fun x6_18 ex6_18 => ?_)
                          replace hf := hf x6_18 ex6_18
                          refine lv_istore (lv' := [(6, .int x6_18), (0, .ref (xa X 0)), (1, .int x1_4), (2, .int x2_7), (3, .long x3_11), (5, .int x5_12)]) hx hb dX9_countByLength_78 hl (by decide) rfl (fun ls hl => ?_)
                          refine lv_iload hx hb dX9_countByLength_80 (lv_at hl 5 rfl) ?_
                          refine lv_iload_n hx hb dX9_countByLength_82 rfl (lv_at hl 2 rfl) ?_
                          refine lv_iconst (v := 1) hx hb dX9_countByLength_83 (by decide) ?_
                          refine lv_iadd hx hb dX9_countByLength_84 ?_
                          refine lv_irem hx hb dX9_countByLength_85 hf.1 ?_
                          replace hf := hf.2
                          refine lv_topi (fun x7_19 ex7_19 => ?_)
                          replace hf := hf x7_19 ex7_19
                          refine lv_istore (lv' := [(7, .int x7_19), (6, .int x6_18), (0, .ref (xa X 0)), (1, .int x1_4), (2, .int x2_7), (3, .long x3_11), (5, .int x5_12)]) hx hb dX9_countByLength_86 hl (by decide) rfl (fun ls hl => ?_)
                          refine lv_lload_n hx hb dX9_countByLength_88 rfl (lv_at hl 5 rfl) ?_
                          refine lv_iload hx hb dX9_countByLength_89 (lv_at hl 1 rfl) ?_
                          refine lv_iload hx hb dX9_countByLength_91 (lv_at hl 0 rfl) ?_
                          refine lv_iadd hx hb dX9_countByLength_93 ?_
                          refine lv_iload_n hx hb dX9_countByLength_94 rfl (lv_at hl 3 rfl) ?_
                          refine lv_icmp_gt (tgt := 117) hx hb dX9_countByLength_95 (by decide) (fun c_20 => ?_) (fun c_20 => ?_)
                          · replace hf := hf.1 c_20
                            refine lv_lconst (v := 0) hx hb dX9_countByLength_117 (by decide) ?_
                            refine lv_ladd hx hb dX9_countByLength_118 ?_
                            refine lv_topl (fun x3_21 ex3_21 => ?_)
                            replace hf := hf x3_21 ex3_21
                            refine lv_lstore_n (lv' := [(3, .long x3_21), (7, .int x7_19), (6, .int x6_18), (0, .ref (xa X 0)), (1, .int x1_4), (2, .int x2_7), (5, .int x5_12)]) hx hb dX9_countByLength_119 rfl hl (by decide) rfl (fun ls hl => ?_)
                            obtain ⟨x5_22, ex5_22⟩ : ∃ y : Int32, y = x5_12 + 1 := ⟨_, rfl⟩
                            replace hf := hf x5_22 ex5_22
                            refine lv_iinc (v := x5_22) (lv' := [(5, .int x5_22), (3, .long x3_21), (7, .int x7_19), (6, .int x6_18), (0, .ref (xa X 0)), (1, .int x1_4), (2, .int x2_7)]) hx hb dX9_countByLength_120 hl (k := 6) rfl (by rw [ex5_22]; rfl) (by decide) rfl (fun ls hl => ?_)
                            refine lv_goto (tgt := 60) hx hb dX9_countByLength_123 (by decide) ?_
                            exact ih_60 x3_21 x5_22 _ _ _ hf hw (lv_sub hl [4, 5, 6, 1, 0] rfl)
                          · replace hf := hf.2 c_20
                            refine lv_aload_n hx hb dX9_countByLength_98 rfl (lv_at hl 2 rfl) ?_
                            refine lv_iload_n hx hb dX9_countByLength_99 rfl (lv_at hl 4 rfl) ?_
                            refine lv_iload hx hb dX9_countByLength_100 (lv_at hl 1 rfl) ?_
                            refine lv_iload hx hb dX9_countByLength_102 (lv_at hl 0 rfl) ?_
                            refine lv_iload_n hx hb dX9_countByLength_104 rfl (lv_at hl 3 rfl) ?_
                            refine lv_iload hx hb dX9_countByLength_105 (lv_at hl 1 rfl) ?_
                            refine lv_isub hx hb dX9_countByLength_107 ?_
                            refine lv_iload hx hb dX9_countByLength_108 (lv_at hl 0 rfl) ?_
                            refine lv_isub hx hb dX9_countByLength_110 ?_
                            refine x_cl (x_rV (As := [.int x2_7, .int x6_18, .int x7_19, .int ((x1_4 - x6_18) - x7_19)]) (rest := [.long x3_11]) (okM X) hC hw (kX9_treesWith l X S_8 _ x2_7 x6_18 x7_19 ((x1_4 - x6_18) - x7_19) _ hf) (cwV 4 hts (gV q_529 q_530 q_531 q_5 q_532) rfl rfl rfl (by decide +kernel) ⟨Nat.le_of_ble_eq_true rfl, Nat.le_of_ble_eq_true rfl⟩) (x_recv hK hw (k := 0) (by decide) rfl rfl) rfl hl.1 rfl (Nat.le_of_ble_eq_true rfl) dX9_countByLength_111) hw hi (fun r_23 S_24 H locs hf hw => ?_)
                            obtain ⟨hf, rfl⟩ := hf
                            refine lv_goto (tgt := 118) hx hb dX9_countByLength_114 (by decide) ?_
                            refine lv_ladd hx hb dX9_countByLength_118 ?_
                            refine lv_topl (fun x3_25 ex3_25 => ?_)
                            replace hf := hf x3_25 ex3_25
                            refine lv_lstore_n (lv' := [(3, .long x3_25), (7, .int x7_19), (6, .int x6_18), (0, .ref (xa X 0)), (1, .int x1_4), (2, .int x2_7), (5, .int x5_12)]) hx hb dX9_countByLength_119 rfl hl (by decide) rfl (fun ls hl => ?_)
                            obtain ⟨x5_26, ex5_26⟩ : ∃ y : Int32, y = x5_12 + 1 := ⟨_, rfl⟩
                            replace hf := hf x5_26 ex5_26
                            refine lv_iinc (v := x5_26) (lv' := [(5, .int x5_26), (3, .long x3_25), (7, .int x7_19), (6, .int x6_18), (0, .ref (xa X 0)), (1, .int x1_4), (2, .int x2_7)]) hx hb dX9_countByLength_120 hl (k := 6) rfl (by rw [ex5_26]; rfl) (by decide) rfl (fun ls hl => ?_)
                            refine lv_goto (tgt := 60) hx hb dX9_countByLength_123 (by decide) ?_
                            exact ih_60 x3_25 x5_26 _ _ _ hf hw (lv_sub hl [4, 5, 6, 1, 0] rfl)
                    exact w_60 n_60 0 0 _ _ _ hf hw (lv_sub hl [2, 3, 4, 1, 0] rfl)
              exact w_47 n_47 0 S_5 _ _ _ hf hw (lv_sub hl [1, 2, 0] rfl)
        exact w_39 n_39 1 S_2 _ _ _ hf hw (lv_sub hl [1, 0] rfl)
      · replace hf := hf.2 c_3
        refine lv_iconst (v := 0) hx hb dX9_countByLength_8 (by decide) ?_
        refine lv_istore_n (lv' := [(2, .int 0), (0, .ref (xa X 0)), (1, .int x1_1)]) hx hb dX9_countByLength_9 rfl hl (by decide) rfl (fun ls hl => ?_)
        obtain ⟨n_10, hf⟩ := hf
        have w_10 : ∀ (n : Nat) (x2_27 : Int32) (S_28 : gS) (H : Heap) (locs : List Loc) (ls : Array Slot), lp (fun L x => bX9_countByLength_10 x1_1 L_2 L x.1 x.2) n (x2_27, S_28) → xH 133 X (cM X) (xA 133 X s.heap.size) s.heap S_28 H locs → lv_has ls 8 [(0, .ref (xa X 0)), (1, .int x1_1), (2, .int x2_27)] → W p l e rX9_countByLength s m args below meth c H locs 0 0 Q (F0 m 10 ls []) := by
          intro n
          induction n with
          | zero => intro x2_27 S_28 H locs ls hf; exact hf.elim
          | succ n ih_10 =>
            intro x2_27 S_28 H locs ls hf hw hl
            replace hf : bX9_countByLength_10 x1_1 L_2 (lp (fun L x => bX9_countByLength_10 x1_1 L_2 L x.1 x.2) n) x2_27 S_28 := hf
            generalize lp (fun L x => bX9_countByLength_10 x1_1 L_2 L x.1 x.2) n = L_10 at hf ih_10
            rw [bX9_countByLength_10] at hf
            refine lv_iload_n hx hb dX9_countByLength_10 rfl (lv_at hl 2 rfl) ?_
            refine lv_bipush (v := 11) hx hb dX9_countByLength_11 (by decide) ?_
            refine lv_icmp_ge (tgt := 31) hx hb dX9_countByLength_13 (by decide) (fun c_29 => ?_) (fun c_29 => ?_)
            · replace hf := hf.1 c_29
              obtain ⟨x1_30, ex1_30⟩ : ∃ y : Int32, y = x1_1 + 1 := ⟨_, rfl⟩
              replace hf := hf x1_30 ex1_30
              refine lv_iinc (v := x1_30) (lv' := [(1, .int x1_30), (0, .ref (xa X 0)), (2, .int x2_27)]) hx hb dX9_countByLength_31 hl (k := 1) rfl (by rw [ex1_30]; rfl) (by decide) rfl (fun ls hl => ?_)
              refine lv_goto (tgt := 2) hx hb dX9_countByLength_34 (by decide) ?_
              exact ih_2 x1_30 S_28 _ _ _ hf hw (lv_sub hl [1, 0] rfl)
            · replace hf := hf.2 c_29
              refine lv_aload_n hx hb dX9_countByLength_16 rfl (lv_at hl 0 rfl) ?_
              refine x_get (k := 0) (v := .ref (xa X 5)) hx hb hts i_X9 hown hK hw (by decide) rfl rfl 10 (by decide) lf_34 (fun _ h9 => h9) rfl dX9_countByLength_17 ?_
              refine lv_iload_n hx hb dX9_countByLength_20 rfl (lv_at hl 1 rfl) ?_
              have hb_31 := vp_lt hf.1
              refine x_ald (n := 6) (v := .ref (xa X (67 + x1_1.toNatClampNeg))) hx hb hK hw (by decide) rfl 4 rfl rfl hf.1 (rf_lt hb_31) dX9_countByLength_21 ?_
              replace hf := hf.2
              refine lv_iload_n hx hb dX9_countByLength_22 rfl (lv_at hl 2 rfl) ?_
              refine lv_lconst (v := 0) hx hb dX9_countByLength_23 (by decide) ?_
              refine x_lst (n := 11) hx hb hK hw (by omega) (cM_bl hb_31) rfl hf.1 dX9_countByLength_24 (uM_rJ (fun _ => cM_bl hb_31) _ _) (fun H locs hw => ?_)
              replace hf := hf.2
              obtain ⟨S_32, eS_32⟩ : ∃ z : gS, z = uB S_28 (67 + x1_1.toNatClampNeg) x2_27.toNatClampNeg 0 := ⟨_, rfl⟩
              rw [← eS_32] at hw
              replace hf := hf S_32 eS_32
              obtain ⟨x2_33, ex2_33⟩ : ∃ y : Int32, y = x2_27 + 1 := ⟨_, rfl⟩
              replace hf := hf x2_33 ex2_33
              refine lv_iinc (v := x2_33) (lv' := [(2, .int x2_33), (0, .ref (xa X 0)), (1, .int x1_1)]) hx hb dX9_countByLength_25 hl (k := 2) rfl (by rw [ex2_33]; rfl) (by decide) rfl (fun ls hl => ?_)
              refine lv_goto (tgt := 10) hx hb dX9_countByLength_28 (by decide) ?_
              exact ih_10 x2_33 S_32 _ _ _ hf hw (lv_sub hl [1, 2, 0] rfl)
        exact w_10 n_10 0 S_2 _ _ _ hf hw (lv_sub hl [1, 2, 0] rfl)
  exact w_2 n_2 0 S _ _ _ hf hw (lv_sub hl [1, 0] rfl)
def jX9_treesOfLength_17 (p0 : Int32) (S : gS) (Post : Int64 → gS → Prop) (y_3 : Int32) : Prop :=
  (pX9_fails 1 y_3 S (fun r_4 S_5 => ((r_4 = 0 → (pX9_countByLength  S_5 (fun S_8 => (vp_in (gI S_8 3) 6 ∧ (vp_in p0 11 ∧ Post (gB S_8 (67 + (gI S_8 3).toNatClampNeg) p0.toNatClampNeg) S_8))))) ∧ (¬ r_4 = 0 → Post 0 S_5))))
def pX9_treesOfLength (p0 : Int32) (S : gS) (Post : Int64 → gS → Prop) : Prop :=
  (pX9_isBetween p0 1 10 S (fun r_1 => ((¬ r_1 = 0 → jX9_treesOfLength_17 p0 S Post 0) ∧ (r_1 = 0 → jX9_treesOfLength_17 p0 S Post 1))))
def rX9_treesOfLength : Room := { frames := 3, cells := 0, slots := 0, locals := 75 }
set_option maxHeartbeats 40000000 in
set_option maxRecDepth 100000 in
theorem kX9_treesOfLength (l : Launch) (X : xG) (S : gS) (sz : Nat) (p0 : Int32) (Post : Int64 → gS → Prop) (hf : pX9_treesOfLength p0 S Post) : xMl l yX9_treesOfLength (Cond.code yX9_treesOfLength cX9_treesOfLength 2 (some .long) :: WS) rX9_treesOfLength 133 X (cM X) (eM X) S sz [.ref (xa X 0), .int p0] Post := by
  refine xMl.of (cc := cX9_treesOfLength) (maxL := 2) (own := RX9) (by decide) rfl rfl (Nat.le_of_ble_eq_true rfl) ?_
  intro p e s m args below meth c ls Q hC hQ hw hl
  obtain ⟨hx, hb, hml, hown, hts, hE, hi⟩ := id hC
  have hK := hE.1
  have hl : lv_has ls 2 [(0, .ref (xa X 0)), (1, .int p0)] := hl
  have lf_34 : (Cond.fieldLink RX9 34 "GrammarAmbiguityModel" "byLength" "[[J").before args s = true := hts _ q_115
  have lf_83 : (Cond.fieldLink RX9 83 "GrammarAmbiguityModel" "start" "I").before args s = true := hts _ q_156
  rw [pX9_treesOfLength] at hf
  refine lv_aload_n hx hb dX9_treesOfLength_0 rfl (lv_at hl 0 rfl) ?_
  refine lv_iconst (v := 1) hx hb dX9_treesOfLength_1 (by decide) ?_
  refine lv_iload_n hx hb dX9_treesOfLength_2 rfl (lv_at hl 1 rfl) ?_
  refine lv_iconst (v := 1) hx hb dX9_treesOfLength_3 (by decide) ?_
  refine lv_bipush (v := 10) hx hb dX9_treesOfLength_4 (by decide) ?_
  refine x_ci (x_rS (As := [.int p0, .int 1, .int 10]) (rest := [.int 1, .ref (xa X 0)]) (okM X) hC hw (kX9_isBetween l X S _ p0 1 10 _ hf) (cwS 3 hts (gSt q_160 q_161 q_5 q_162) rfl rfl rfl (by decide +kernel) ⟨Nat.le_of_ble_eq_true rfl, Nat.le_of_ble_eq_true rfl⟩) rfl hl.1 rfl (Nat.le_of_ble_eq_true rfl) dX9_treesOfLength_6) hw hi (fun r_1 S_2 H locs hf hw => ?_)
  obtain ⟨hf, rfl⟩ := hf
  have w_17 : ∀ (y_3 : Int32) (H : Heap) (locs : List Loc) (ls : Array Slot), jX9_treesOfLength_17 p0 S Post y_3 → xH 133 X (cM X) (xA 133 X s.heap.size) s.heap S H locs → lv_has ls 2 [(0, .ref (xa X 0)), (1, .int p0)] → W p l e rX9_treesOfLength s m args below meth c H locs 0 0 Q (F0 m 17 ls [.int y_3, .int 1, .ref (xa X 0)]) := by
    intro y_3 H locs ls hf hw hl
    rw [jX9_treesOfLength_17] at hf
    refine x_ci (x_rV (As := [.int 1, .int y_3]) (rest := []) (okM X) hC hw (kX9_fails l X S _ 1 y_3 _ hf) (cwV 2 hts (gV q_163 q_164 q_165 q_5 q_166) rfl rfl rfl (by decide +kernel) ⟨Nat.le_of_ble_eq_true rfl, Nat.le_of_ble_eq_true rfl⟩) (x_recv hK hw (k := 0) (by decide) rfl rfl) rfl hl.1 rfl (Nat.le_of_ble_eq_true rfl) dX9_treesOfLength_17) hw hi (fun r_4 S_5 H locs hf hw => ?_)
    refine lv_if_eq (tgt := 25) hx hb dX9_treesOfLength_20 (by decide) (fun c_6 => ?_) (fun c_6 => ?_)
    · replace hf := hf.1 c_6
      refine lv_aload_n hx hb dX9_treesOfLength_25 rfl (lv_at hl 0 rfl) ?_
      refine x_cv (x_rV (As := []) (rest := []) (okM X) hC hw (kX9_countByLength l X S_5 _  _ hf) (cwV 0 hts (gV q_525 q_526 q_527 q_5 q_528) rfl rfl rfl (by decide +kernel) ⟨Nat.le_of_ble_eq_true rfl, Nat.le_of_ble_eq_true rfl⟩) (x_recv hK hw (k := 0) (by decide) rfl rfl) rfl hl.1 rfl (Nat.le_of_ble_eq_true rfl) dX9_treesOfLength_26) hw hi (fun S_8 H locs hf hw => ?_)
      refine lv_aload_n hx hb dX9_treesOfLength_29 rfl (lv_at hl 0 rfl) ?_
      refine x_get (k := 0) (v := .ref (xa X 5)) hx hb hts i_X9 hown hK hw (by decide) rfl rfl 10 (by decide) lf_34 (fun _ h9 => h9) rfl dX9_treesOfLength_30 ?_
      refine lv_aload_n hx hb dX9_treesOfLength_33 rfl (lv_at hl 0 rfl) ?_
      refine x_get (k := 0) (v := .int (gI S_8 3)) hx hb hts i_X9 hown hK hw (by decide) rfl rfl 3 (by decide) lf_83 (fun _ h9 => h9) rfl dX9_treesOfLength_34 ?_
      have hb_9 := vp_lt hf.1
      refine x_ald (n := 6) (v := .ref (xa X (67 + (gI S_8 3).toNatClampNeg))) hx hb hK hw (by decide) rfl 4 rfl rfl hf.1 (rf_lt hb_9) dX9_treesOfLength_37 ?_
      replace hf := hf.2
      refine lv_iload_n hx hb dX9_treesOfLength_38 rfl (lv_at hl 1 rfl) ?_
      refine x_lld (n := 11) hx hb hK hw (by omega) (cM_bl hb_9) rfl hf.1 dX9_treesOfLength_39 ?_
      replace hf := hf.2
      exact hQ _ _ _ _ _ _ hf hw dX9_treesOfLength_40
    · replace hf := hf.2 c_6
      refine lv_lconst (v := 0) hx hb dX9_treesOfLength_23 (by decide) ?_
      exact hQ _ _ _ _ _ _ hf hw dX9_treesOfLength_24
  refine lv_if_ne (tgt := 16) hx hb dX9_treesOfLength_9 (by decide) (fun c_10 => ?_) (fun c_10 => ?_)
  · replace hf := hf.1 c_10
    refine lv_iconst (v := 0) hx hb dX9_treesOfLength_16 (by decide) ?_
    exact w_17 0 _ _ _ hf hw (lv_sub hl [0, 1] rfl)
  · replace hf := hf.2 c_10
    refine lv_iconst (v := 1) hx hb dX9_treesOfLength_12 (by decide) ?_
    refine lv_goto (tgt := 17) hx hb dX9_treesOfLength_13 (by decide) ?_
    exact w_17 1 _ _ _ hf hw (lv_sub hl [0, 1] rfl)
def pX9_treesOfPart (p0 : Int32) (p1 : Int32) (p2 : Int32) (S : gS) (Post : Int64 → Prop) : Prop :=
  ((0 ≤ p0 → ((p0 < 10 → ((p2 ≤ 0 → Post 0) ∧ (¬ p2 ≤ 0 → (vp_in p0 6 ∧ (vp_in p1 9 ∧ (vp_in p2 9 ∧ Post (gB S (79 + p0.toNatClampNeg * 9 + p1.toNatClampNeg) p2.toNatClampNeg))))))) ∧ (¬ p0 < 10 → ((¬ p2 = 1 → Post 0) ∧ (p2 = 1 → (vp_in p1 8 ∧ ((¬ (gA S 6 p1.toNatClampNeg) = (p0 - 10) → Post 0) ∧ ((gA S 6 p1.toNatClampNeg) = (p0 - 10) → Post 1)))))))) ∧ (¬ 0 ≤ p0 → ((¬ p2 = 0 → Post 0) ∧ (p2 = 0 → Post 1))))
def rX9_treesOfPart : Room := { frames := 0, cells := 0, slots := 0, locals := 0 }
set_option maxHeartbeats 40000000 in
set_option maxRecDepth 100000 in
theorem kX9_treesOfPart (l : Launch) (X : xG) (S : gS) (sz : Nat) (p0 : Int32) (p1 : Int32) (p2 : Int32) (Post : Int64 → Prop) (hf : pX9_treesOfPart p0 p1 p2 S Post) : xMl l yX9_treesOfPart (Cond.code yX9_treesOfPart cX9_treesOfPart 4 (some .long) :: WS) rX9_treesOfPart 133 X (cM X) (eM X) S sz [.ref (xa X 0), .int p0, .int p1, .int p2] (fun r S' => Post r ∧ S = S') := by
  refine xMl.of (cc := cX9_treesOfPart) (maxL := 4) (own := RX9) (by decide) rfl rfl (Nat.le_of_ble_eq_true rfl) ?_
  intro p e s m args below meth c ls Q hC hQ hw hl
  obtain ⟨hx, hb, hml, hown, hts, hE, hi⟩ := id hC
  have hK := hE.1
  have hl : lv_has ls 4 [(0, .ref (xa X 0)), (1, .int p0), (2, .int p1), (3, .int p2)] := hl
  have lf_42 : (Cond.fieldLink RX9 42 "GrammarAmbiguityModel" "byPart" "[[[J").before args s = true := hts _ q_117
  have lf_37 : (Cond.fieldLink RX9 37 "GrammarAmbiguityModel" "read" "[I").before args s = true := hts _ q_116
  rw [pX9_treesOfPart] at hf
  refine lv_iload_n hx hb dX9_treesOfPart_0 rfl (lv_at hl 1 rfl) ?_
  refine lv_if_ge (tgt := 14) hx hb dX9_treesOfPart_1 (by decide) (fun c_1 => ?_) (fun c_1 => ?_)
  · replace hf := hf.1 c_1
    refine lv_iload_n hx hb dX9_treesOfPart_14 rfl (lv_at hl 1 rfl) ?_
    refine lv_bipush (v := 10) hx hb dX9_treesOfPart_15 (by decide) ?_
    refine lv_icmp_lt (tgt := 44) hx hb dX9_treesOfPart_17 (by decide) (fun c_2 => ?_) (fun c_2 => ?_)
    · replace hf := hf.1 c_2
      refine lv_iload_n hx hb dX9_treesOfPart_44 rfl (lv_at hl 3 rfl) ?_
      refine lv_if_le (tgt := 61) hx hb dX9_treesOfPart_45 (by decide) (fun c_3 => ?_) (fun c_3 => ?_)
      · replace hf := hf.1 c_3
        refine lv_lconst (v := 0) hx hb dX9_treesOfPart_61 (by decide) ?_
        exact hQ _ _ _ _ _ _ ⟨hf, rfl⟩ hw dX9_treesOfPart_62
      · replace hf := hf.2 c_3
        refine lv_aload_n hx hb dX9_treesOfPart_48 rfl (lv_at hl 0 rfl) ?_
        refine x_get (k := 0) (v := .ref (xa X 7)) hx hb hts i_X9 hown hK hw (by decide) rfl rfl 12 (by decide) lf_42 (fun _ h9 => h9) rfl dX9_treesOfPart_49 ?_
        refine lv_iload_n hx hb dX9_treesOfPart_52 rfl (lv_at hl 1 rfl) ?_
        have hb_4 := vp_lt hf.1
        refine x_ald (n := 6) (v := .ref (xa X (73 + p0.toNatClampNeg))) hx hb hK hw (by decide) rfl 5 rfl rfl hf.1 (rf_lt hb_4) dX9_treesOfPart_53 ?_
        replace hf := hf.2
        refine lv_iload_n hx hb dX9_treesOfPart_54 rfl (lv_at hl 2 rfl) ?_
        have hb_5 := vp_lt hf.1
        refine x_ald (n := 9) (v := .ref (xa X (79 + p0.toNatClampNeg * 9 + p1.toNatClampNeg))) hx hb hK hw (by omega) (cM_mi hb_4) 4 rfl rfl hf.1 (rf_lt hb_5) dX9_treesOfPart_55 ?_
        replace hf := hf.2
        refine lv_iload_n hx hb dX9_treesOfPart_56 rfl (lv_at hl 3 rfl) ?_
        refine x_lld (n := 9) hx hb hK hw (by omega) (cM_pa hb_4 hb_5) rfl hf.1 dX9_treesOfPart_57 ?_
        replace hf := hf.2
        refine lv_goto (tgt := 62) hx hb dX9_treesOfPart_58 (by decide) ?_
        exact hQ _ _ _ _ _ _ ⟨hf, rfl⟩ hw dX9_treesOfPart_62
    · replace hf := hf.2 c_2
      refine lv_iload_n hx hb dX9_treesOfPart_20 rfl (lv_at hl 3 rfl) ?_
      refine lv_iconst (v := 1) hx hb dX9_treesOfPart_21 (by decide) ?_
      refine lv_icmp_ne (tgt := 42) hx hb dX9_treesOfPart_22 (by decide) (fun c_6 => ?_) (fun c_6 => ?_)
      · replace hf := hf.1 c_6
        refine lv_lconst (v := 0) hx hb dX9_treesOfPart_42 (by decide) ?_
        exact hQ _ _ _ _ _ _ ⟨hf, rfl⟩ hw dX9_treesOfPart_43
      · replace hf := hf.2 c_6
        refine lv_aload_n hx hb dX9_treesOfPart_25 rfl (lv_at hl 0 rfl) ?_
        refine x_get (k := 0) (v := .ref (xa X 6)) hx hb hts i_X9 hown hK hw (by decide) rfl rfl 11 (by decide) lf_37 (fun _ h9 => h9) rfl dX9_treesOfPart_26 ?_
        refine lv_iload_n hx hb dX9_treesOfPart_29 rfl (lv_at hl 2 rfl) ?_
        refine x_ild (n := 8) hx hb hK hw (by decide) rfl rfl hf.1 dX9_treesOfPart_30 ?_
        replace hf := hf.2
        refine lv_iload_n hx hb dX9_treesOfPart_31 rfl (lv_at hl 1 rfl) ?_
        refine lv_bipush (v := 10) hx hb dX9_treesOfPart_32 (by decide) ?_
        refine lv_isub hx hb dX9_treesOfPart_34 ?_
        refine lv_icmp_ne (tgt := 42) hx hb dX9_treesOfPart_35 (by decide) (fun c_7 => ?_) (fun c_7 => ?_)
        · replace hf := hf.1 c_7
          refine lv_lconst (v := 0) hx hb dX9_treesOfPart_42 (by decide) ?_
          exact hQ _ _ _ _ _ _ ⟨hf, rfl⟩ hw dX9_treesOfPart_43
        · replace hf := hf.2 c_7
          refine lv_lconst (v := 1) hx hb dX9_treesOfPart_38 (by decide) ?_
          refine lv_goto (tgt := 43) hx hb dX9_treesOfPart_39 (by decide) ?_
          exact hQ _ _ _ _ _ _ ⟨hf, rfl⟩ hw dX9_treesOfPart_43
  · replace hf := hf.2 c_1
    refine lv_iload_n hx hb dX9_treesOfPart_4 rfl (lv_at hl 3 rfl) ?_
    refine lv_if_ne (tgt := 12) hx hb dX9_treesOfPart_5 (by decide) (fun c_8 => ?_) (fun c_8 => ?_)
    · replace hf := hf.1 c_8
      refine lv_lconst (v := 0) hx hb dX9_treesOfPart_12 (by decide) ?_
      exact hQ _ _ _ _ _ _ ⟨hf, rfl⟩ hw dX9_treesOfPart_13
    · replace hf := hf.2 c_8
      refine lv_lconst (v := 1) hx hb dX9_treesOfPart_8 (by decide) ?_
      refine lv_goto (tgt := 13) hx hb dX9_treesOfPart_9 (by decide) ?_
      exact hQ _ _ _ _ _ _ ⟨hf, rfl⟩ hw dX9_treesOfPart_13
def jX9_treesFrom_47 (p0 : Int32) (p1 : Int32) (p2 : Int32) (p3 : Int32) (p4 : Int32) (S : gS) (Post : Int64 → Prop) (y_4 : Int64) : Prop :=
  ((¬ (lg_cmp y_4 0) = 0 → (vp_in p0 24 ∧ (vp_in (3 : Int32) 4 ∧ (pX9_treesOfPart (gA S (16 + p0.toNatClampNeg) (3 : Int32).toNatClampNeg) ((p1 + p2) + p3) p4 S (fun r_7 => Post (y_4 * r_7)))))) ∧ ((lg_cmp y_4 0) = 0 → Post 0))
def pX9_treesFrom (p0 : Int32) (p1 : Int32) (p2 : Int32) (p3 : Int32) (p4 : Int32) (S : gS) (Post : Int64 → Prop) : Prop :=
  (vp_in p0 24 ∧ (vp_in (1 : Int32) 4 ∧ (pX9_treesOfPart (gA S (16 + p0.toNatClampNeg) (1 : Int32).toNatClampNeg) p1 p2 S (fun r_2 => ((¬ (lg_cmp r_2 0) = 0 → (vp_in p0 24 ∧ (vp_in (2 : Int32) 4 ∧ (pX9_treesOfPart (gA S (16 + p0.toNatClampNeg) (2 : Int32).toNatClampNeg) (p1 + p2) p3 S (fun r_11 => jX9_treesFrom_47 p0 p1 p2 p3 p4 S Post (r_2 * r_11)))))) ∧ ((lg_cmp r_2 0) = 0 → jX9_treesFrom_47 p0 p1 p2 p3 p4 S Post 0))))))
def rX9_treesFrom : Room := { frames := 1, cells := 0, slots := 0, locals := 23 }
set_option maxHeartbeats 40000000 in
set_option maxRecDepth 100000 in
theorem kX9_treesFrom (l : Launch) (X : xG) (S : gS) (sz : Nat) (p0 : Int32) (p1 : Int32) (p2 : Int32) (p3 : Int32) (p4 : Int32) (Post : Int64 → Prop) (hf : pX9_treesFrom p0 p1 p2 p3 p4 S Post) : xMl l yX9_treesFrom (Cond.code yX9_treesFrom cX9_treesFrom 8 (some .long) :: WS) rX9_treesFrom 133 X (cM X) (eM X) S sz [.ref (xa X 0), .int p0, .int p1, .int p2, .int p3, .int p4] (fun r S' => Post r ∧ S = S') := by
  refine xMl.of (cc := cX9_treesFrom) (maxL := 8) (own := RX9) (by decide) rfl rfl (Nat.le_of_ble_eq_true rfl) ?_
  intro p e s m args below meth c ls Q hC hQ hw hl
  obtain ⟨hx, hb, hml, hown, hts, hE, hi⟩ := id hC
  have hK := hE.1
  have hl : lv_has ls 8 [(0, .ref (xa X 0)), (1, .int p0), (2, .int p1), (3, .int p2), (4, .int p3), (5, .int p4)] := hl
  have lf_18 : (Cond.fieldLink RX9 18 "GrammarAmbiguityModel" "symbols" "[[I").before args s = true := hts _ q_110
  rw [pX9_treesFrom] at hf
  refine lv_aload_n hx hb dX9_treesFrom_0 rfl (lv_at hl 0 rfl) ?_
  refine lv_aload_n hx hb dX9_treesFrom_1 rfl (lv_at hl 0 rfl) ?_
  refine x_get (k := 0) (v := .ref (xa X 1)) hx hb hts i_X9 hown hK hw (by decide) rfl rfl 5 (by decide) lf_18 (fun _ h9 => h9) rfl dX9_treesFrom_2 ?_
  refine lv_iload_n hx hb dX9_treesFrom_5 rfl (lv_at hl 1 rfl) ?_
  have hb_1 := vp_lt hf.1
  refine x_ald (n := 24) (v := .ref (xa X (16 + p0.toNatClampNeg))) hx hb hK hw (by decide) rfl 3 rfl rfl hf.1 (rf_lt hb_1) dX9_treesFrom_6 ?_
  replace hf := hf.2
  refine lv_iconst (v := 1) hx hb dX9_treesFrom_7 (by decide) ?_
  refine x_ild (n := 4) hx hb hK hw (by omega) (cM_sy hb_1) rfl hf.1 dX9_treesFrom_8 ?_
  replace hf := hf.2
  refine lv_iload_n hx hb dX9_treesFrom_9 rfl (lv_at hl 2 rfl) ?_
  refine lv_iload_n hx hb dX9_treesFrom_10 rfl (lv_at hl 3 rfl) ?_
  refine x_cl (x_rV (As := [.int (gA S (16 + p0.toNatClampNeg) (1 : Int32).toNatClampNeg), .int p1, .int p2]) (rest := []) (okM X) hC hw (kX9_treesOfPart l X S _ (gA S (16 + p0.toNatClampNeg) (1 : Int32).toNatClampNeg) p1 p2 _ hf) (cwV 3 hts (gV q_497 q_498 q_499 q_5 q_500) rfl rfl rfl (by decide +kernel) ⟨Nat.le_of_ble_eq_true rfl, Nat.le_of_ble_eq_true rfl⟩) (x_recv hK hw (k := 0) (by decide) rfl rfl) rfl hl.1 rfl (Nat.le_of_ble_eq_true rfl) dX9_treesFrom_11) hw hi (fun r_2 S_3 H locs hf hw => ?_)
  obtain ⟨hf, rfl⟩ := hf
  refine lv_lstore (lv' := [(6, .long r_2), (0, .ref (xa X 0)), (1, .int p0), (2, .int p1), (3, .int p2), (4, .int p3), (5, .int p4)]) hx hb dX9_treesFrom_14 hl (by decide) rfl (fun ls hl => ?_)
  refine lv_lload hx hb dX9_treesFrom_16 (lv_at hl 0 rfl) ?_
  refine lv_lconst (v := 0) hx hb dX9_treesFrom_18 (by decide) ?_
  refine W.lcmp hx hb dX9_treesFrom_19 ?_
  have w_47 : ∀ (y_4 : Int64) (H : Heap) (locs : List Loc) (ls : Array Slot), jX9_treesFrom_47 p0 p1 p2 p3 p4 S Post y_4 → xH 133 X (cM X) (xA 133 X s.heap.size) s.heap S H locs → lv_has ls 8 [(0, .ref (xa X 0)), (1, .int p0), (2, .int p1), (3, .int p2), (4, .int p3), (5, .int p4)] → W p l e rX9_treesFrom s m args below meth c H locs 0 0 Q (F0 m 47 ls [.long y_4]) := by
    intro y_4 H locs ls hf hw hl
    rw [jX9_treesFrom_47] at hf
    refine lv_lstore (lv' := [(6, .long y_4), (0, .ref (xa X 0)), (1, .int p0), (2, .int p1), (3, .int p2), (4, .int p3), (5, .int p4)]) hx hb dX9_treesFrom_47 hl (by decide) rfl (fun ls hl => ?_)
    refine lv_lload hx hb dX9_treesFrom_49 (lv_at hl 0 rfl) ?_
    refine lv_lconst (v := 0) hx hb dX9_treesFrom_51 (by decide) ?_
    refine W.lcmp hx hb dX9_treesFrom_52 ?_
    refine lv_if_ne (tgt := 60) hx hb dX9_treesFrom_53 (by decide) (fun c_5 => ?_) (fun c_5 => ?_)
    · replace hf := hf.1 c_5
      refine lv_lload hx hb dX9_treesFrom_60 (lv_at hl 0 rfl) ?_
      refine lv_aload_n hx hb dX9_treesFrom_62 rfl (lv_at hl 1 rfl) ?_
      refine lv_aload_n hx hb dX9_treesFrom_63 rfl (lv_at hl 1 rfl) ?_
      refine x_get (k := 0) (v := .ref (xa X 1)) hx hb hts i_X9 hown hK hw (by decide) rfl rfl 5 (by decide) lf_18 (fun _ h9 => h9) rfl dX9_treesFrom_64 ?_
      refine lv_iload_n hx hb dX9_treesFrom_67 rfl (lv_at hl 2 rfl) ?_
      have hb_6 := vp_lt hf.1
      refine x_ald (n := 24) (v := .ref (xa X (16 + p0.toNatClampNeg))) hx hb hK hw (by decide) rfl 3 rfl rfl hf.1 (rf_lt hb_6) dX9_treesFrom_68 ?_
      replace hf := hf.2
      refine lv_iconst (v := 3) hx hb dX9_treesFrom_69 (by decide) ?_
      refine x_ild (n := 4) hx hb hK hw (by omega) (cM_sy hb_6) rfl hf.1 dX9_treesFrom_70 ?_
      replace hf := hf.2
      refine lv_iload_n hx hb dX9_treesFrom_71 rfl (lv_at hl 3 rfl) ?_
      refine lv_iload_n hx hb dX9_treesFrom_72 rfl (lv_at hl 4 rfl) ?_
      refine lv_iadd hx hb dX9_treesFrom_73 ?_
      refine lv_iload hx hb dX9_treesFrom_74 (lv_at hl 5 rfl) ?_
      refine lv_iadd hx hb dX9_treesFrom_76 ?_
      refine lv_iload hx hb dX9_treesFrom_77 (lv_at hl 6 rfl) ?_
      refine x_cl (x_rV (As := [.int (gA S (16 + p0.toNatClampNeg) (3 : Int32).toNatClampNeg), .int ((p1 + p2) + p3), .int p4]) (rest := [.long y_4]) (okM X) hC hw (kX9_treesOfPart l X S _ (gA S (16 + p0.toNatClampNeg) (3 : Int32).toNatClampNeg) ((p1 + p2) + p3) p4 _ hf) (cwV 3 hts (gV q_497 q_498 q_499 q_5 q_500) rfl rfl rfl (by decide +kernel) ⟨Nat.le_of_ble_eq_true rfl, Nat.le_of_ble_eq_true rfl⟩) (x_recv hK hw (k := 0) (by decide) rfl rfl) rfl hl.1 rfl (Nat.le_of_ble_eq_true rfl) dX9_treesFrom_79) hw hi (fun r_7 S_8 H locs hf hw => ?_)
      obtain ⟨hf, rfl⟩ := hf
      refine lv_lmul hx hb dX9_treesFrom_82 ?_
      exact hQ _ _ _ _ _ _ ⟨hf, rfl⟩ hw dX9_treesFrom_83
    · replace hf := hf.2 c_5
      refine lv_lconst (v := 0) hx hb dX9_treesFrom_56 (by decide) ?_
      refine lv_goto (tgt := 83) hx hb dX9_treesFrom_57 (by decide) ?_
      exact hQ _ _ _ _ _ _ ⟨hf, rfl⟩ hw dX9_treesFrom_83
  refine lv_if_ne (tgt := 27) hx hb dX9_treesFrom_20 (by decide) (fun c_9 => ?_) (fun c_9 => ?_)
  · replace hf := hf.1 c_9
    refine lv_lload hx hb dX9_treesFrom_27 (lv_at hl 0 rfl) ?_
    refine lv_aload_n hx hb dX9_treesFrom_29 rfl (lv_at hl 1 rfl) ?_
    refine lv_aload_n hx hb dX9_treesFrom_30 rfl (lv_at hl 1 rfl) ?_
    refine x_get (k := 0) (v := .ref (xa X 1)) hx hb hts i_X9 hown hK hw (by decide) rfl rfl 5 (by decide) lf_18 (fun _ h9 => h9) rfl dX9_treesFrom_31 ?_
    refine lv_iload_n hx hb dX9_treesFrom_34 rfl (lv_at hl 2 rfl) ?_
    have hb_10 := vp_lt hf.1
    refine x_ald (n := 24) (v := .ref (xa X (16 + p0.toNatClampNeg))) hx hb hK hw (by decide) rfl 3 rfl rfl hf.1 (rf_lt hb_10) dX9_treesFrom_35 ?_
    replace hf := hf.2
    refine lv_iconst (v := 2) hx hb dX9_treesFrom_36 (by decide) ?_
    refine x_ild (n := 4) hx hb hK hw (by omega) (cM_sy hb_10) rfl hf.1 dX9_treesFrom_37 ?_
    replace hf := hf.2
    refine lv_iload_n hx hb dX9_treesFrom_38 rfl (lv_at hl 3 rfl) ?_
    refine lv_iload_n hx hb dX9_treesFrom_39 rfl (lv_at hl 4 rfl) ?_
    refine lv_iadd hx hb dX9_treesFrom_40 ?_
    refine lv_iload hx hb dX9_treesFrom_41 (lv_at hl 5 rfl) ?_
    refine x_cl (x_rV (As := [.int (gA S (16 + p0.toNatClampNeg) (2 : Int32).toNatClampNeg), .int (p1 + p2), .int p3]) (rest := [.long r_2]) (okM X) hC hw (kX9_treesOfPart l X S _ (gA S (16 + p0.toNatClampNeg) (2 : Int32).toNatClampNeg) (p1 + p2) p3 _ hf) (cwV 3 hts (gV q_497 q_498 q_499 q_5 q_500) rfl rfl rfl (by decide +kernel) ⟨Nat.le_of_ble_eq_true rfl, Nat.le_of_ble_eq_true rfl⟩) (x_recv hK hw (k := 0) (by decide) rfl rfl) rfl hl.1 rfl (Nat.le_of_ble_eq_true rfl) dX9_treesFrom_43) hw hi (fun r_11 S_12 H locs hf hw => ?_)
    obtain ⟨hf, rfl⟩ := hf
    refine lv_lmul hx hb dX9_treesFrom_46 ?_
    exact w_47 (r_2 * r_11) _ _ _ hf hw (lv_sub hl [1, 2, 3, 4, 5, 6] rfl)
  · replace hf := hf.2 c_9
    refine lv_lconst (v := 0) hx hb dX9_treesFrom_23 (by decide) ?_
    refine lv_goto (tgt := 47) hx hb dX9_treesFrom_24 (by decide) ?_
    exact w_47 0 _ _ _ hf hw (lv_sub hl [1, 2, 3, 4, 5, 6] rfl)
def bX9_treesOfProduction_6 (p0 : Int32) (p1 : Int32) (p2 : Int32) (S : gS) (Post : Int64 → Prop) (L_6 : Int64 × Int32 → Prop) (x4_1 : Int64) (x6_2 : Int32) : Prop :=
  ((((p2 + 1) * (p2 + 1)) ≤ x6_2 → Post x4_1) ∧ (¬ ((p2 + 1) * (p2 + 1)) ≤ x6_2 → (¬ (p2 + 1) = 0 ∧ (∀ x7_4 : Int32, x7_4 = (x6_2 / (p2 + 1)) → (¬ (p2 + 1) = 0 ∧ (∀ x8_5 : Int32, x8_5 = (x6_2 - x6_2 / (p2 + 1) * (p2 + 1)) → ((p2 < (x7_4 + x8_5) → (∀ x4_7 : Int64, x4_7 = (x4_1 + 0) → (∀ x6_8 : Int32, x6_8 = x6_2 + 1 → L_6 (x4_7, x6_8)))) ∧ (¬ p2 < (x7_4 + x8_5) → (pX9_treesFrom p0 p1 x7_4 x8_5 ((p2 - x7_4) - x8_5) S (fun r_9 => (∀ x4_11 : Int64, x4_11 = (x4_1 + r_9) → (∀ x6_12 : Int32, x6_12 = x6_2 + 1 → L_6 (x4_11, x6_12)))))))))))))
def pX9_treesOfProduction (p0 : Int32) (p1 : Int32) (p2 : Int32) (S : gS) (Post : Int64 → Prop) : Prop :=
  ∃ n, lp (fun L x => bX9_treesOfProduction_6 p0 p1 p2 S Post L x.1 x.2) n (0, 0)
def rX9_treesOfProduction : Room := { frames := 2, cells := 0, slots := 0, locals := 50 }
set_option maxHeartbeats 40000000 in
set_option maxRecDepth 100000 in
theorem kX9_treesOfProduction (l : Launch) (X : xG) (S : gS) (sz : Nat) (p0 : Int32) (p1 : Int32) (p2 : Int32) (Post : Int64 → Prop) (hf : pX9_treesOfProduction p0 p1 p2 S Post) : xMl l yX9_treesOfProduction (Cond.code yX9_treesOfProduction cX9_treesOfProduction 9 (some .long) :: WS) rX9_treesOfProduction 133 X (cM X) (eM X) S sz [.ref (xa X 0), .int p0, .int p1, .int p2] (fun r S' => Post r ∧ S = S') := by
  refine xMl.of (cc := cX9_treesOfProduction) (maxL := 9) (own := RX9) (by decide) rfl rfl (Nat.le_of_ble_eq_true rfl) ?_
  intro p e s m args below meth c ls Q hC hQ hw hl
  obtain ⟨hx, hb, hml, hown, hts, hE, hi⟩ := id hC
  have hK := hE.1
  have hl : lv_has ls 9 [(0, .ref (xa X 0)), (1, .int p0), (2, .int p1), (3, .int p2)] := hl
  rw [pX9_treesOfProduction] at hf
  refine lv_lconst (v := 0) hx hb dX9_treesOfProduction_0 (by decide) ?_
  refine lv_lstore (lv' := [(4, .long 0), (0, .ref (xa X 0)), (1, .int p0), (2, .int p1), (3, .int p2)]) hx hb dX9_treesOfProduction_1 hl (by decide) rfl (fun ls hl => ?_)
  refine lv_iconst (v := 0) hx hb dX9_treesOfProduction_3 (by decide) ?_
  refine lv_istore (lv' := [(6, .int 0), (4, .long 0), (0, .ref (xa X 0)), (1, .int p0), (2, .int p1), (3, .int p2)]) hx hb dX9_treesOfProduction_4 hl (by decide) rfl (fun ls hl => ?_)
  obtain ⟨n_6, hf⟩ := hf
  have w_6 : ∀ (n : Nat) (x4_1 : Int64) (x6_2 : Int32) (H : Heap) (locs : List Loc) (ls : Array Slot), lp (fun L x => bX9_treesOfProduction_6 p0 p1 p2 S Post L x.1 x.2) n (x4_1, x6_2) → xH 133 X (cM X) (xA 133 X s.heap.size) s.heap S H locs → lv_has ls 9 [(0, .ref (xa X 0)), (1, .int p0), (2, .int p1), (3, .int p2), (4, .long x4_1), (6, .int x6_2)] → W p l e rX9_treesOfProduction s m args below meth c H locs 0 0 Q (F0 m 6 ls []) := by
    intro n
    induction n with
    | zero => intro x4_1 x6_2 H locs ls hf; exact hf.elim
    | succ n ih_6 =>
      intro x4_1 x6_2 H locs ls hf hw hl
      replace hf : bX9_treesOfProduction_6 p0 p1 p2 S Post (lp (fun L x => bX9_treesOfProduction_6 p0 p1 p2 S Post L x.1 x.2) n) x4_1 x6_2 := hf
      generalize lp (fun L x => bX9_treesOfProduction_6 p0 p1 p2 S Post L x.1 x.2) n = L_6 at hf ih_6
      rw [bX9_treesOfProduction_6] at hf
      refine lv_iload hx hb dX9_treesOfProduction_6 (lv_at hl 5 rfl) ?_
      refine lv_iload_n hx hb dX9_treesOfProduction_8 rfl (lv_at hl 3 rfl) ?_
      refine lv_iconst (v := 1) hx hb dX9_treesOfProduction_9 (by decide) ?_
      refine lv_iadd hx hb dX9_treesOfProduction_10 ?_
      refine lv_iload_n hx hb dX9_treesOfProduction_11 rfl (lv_at hl 3 rfl) ?_
      refine lv_iconst (v := 1) hx hb dX9_treesOfProduction_12 (by decide) ?_
      refine lv_iadd hx hb dX9_treesOfProduction_13 ?_
      refine lv_imul hx hb dX9_treesOfProduction_14 ?_
      refine lv_icmp_ge (tgt := 75) hx hb dX9_treesOfProduction_15 (by decide) (fun c_3 => ?_) (fun c_3 => ?_)
      · replace hf := hf.1 c_3
        refine lv_lload hx hb dX9_treesOfProduction_75 (lv_at hl 4 rfl) ?_
        exact hQ _ _ _ _ _ _ ⟨hf, rfl⟩ hw dX9_treesOfProduction_77
      · replace hf := hf.2 c_3
        refine lv_iload hx hb dX9_treesOfProduction_18 (lv_at hl 5 rfl) ?_
        refine lv_iload_n hx hb dX9_treesOfProduction_20 rfl (lv_at hl 3 rfl) ?_
        refine lv_iconst (v := 1) hx hb dX9_treesOfProduction_21 (by decide) ?_
        refine lv_iadd hx hb dX9_treesOfProduction_22 ?_
        refine lv_idiv hx hb dX9_treesOfProduction_23 hf.1 ?_
        replace hf := hf.2
        refine lv_topi (fun x7_4 ex7_4 => ?_)
        replace hf := hf x7_4 ex7_4
        refine lv_istore (lv' := [(7, .int x7_4), (0, .ref (xa X 0)), (1, .int p0), (2, .int p1), (3, .int p2), (4, .long x4_1), (6, .int x6_2)]) hx hb dX9_treesOfProduction_24 hl (by decide) rfl (fun ls hl => ?_)
        refine lv_iload hx hb dX9_treesOfProduction_26 (lv_at hl 6 rfl) ?_
        refine lv_iload_n hx hb dX9_treesOfProduction_28 rfl (lv_at hl 4 rfl) ?_
        refine lv_iconst (v := 1) hx hb dX9_treesOfProduction_29 (by decide) ?_
        refine lv_iadd hx hb dX9_treesOfProduction_30 ?_
        refine lv_irem hx hb dX9_treesOfProduction_31 hf.1 ?_
        replace hf := hf.2
        refine lv_topi (fun x8_5 ex8_5 => ?_)
        replace hf := hf x8_5 ex8_5
        refine lv_istore (lv' := [(8, .int x8_5), (7, .int x7_4), (0, .ref (xa X 0)), (1, .int p0), (2, .int p1), (3, .int p2), (4, .long x4_1), (6, .int x6_2)]) hx hb dX9_treesOfProduction_32 hl (by decide) rfl (fun ls hl => ?_)
        refine lv_lload hx hb dX9_treesOfProduction_34 (lv_at hl 6 rfl) ?_
        refine lv_iload hx hb dX9_treesOfProduction_36 (lv_at hl 1 rfl) ?_
        refine lv_iload hx hb dX9_treesOfProduction_38 (lv_at hl 0 rfl) ?_
        refine lv_iadd hx hb dX9_treesOfProduction_40 ?_
        refine lv_iload_n hx hb dX9_treesOfProduction_41 rfl (lv_at hl 5 rfl) ?_
        refine lv_icmp_gt (tgt := 65) hx hb dX9_treesOfProduction_42 (by decide) (fun c_6 => ?_) (fun c_6 => ?_)
        · replace hf := hf.1 c_6
          refine lv_lconst (v := 0) hx hb dX9_treesOfProduction_65 (by decide) ?_
          refine lv_ladd hx hb dX9_treesOfProduction_66 ?_
          refine lv_topl (fun x4_7 ex4_7 => ?_)
          replace hf := hf x4_7 ex4_7
          refine lv_lstore (lv' := [(4, .long x4_7), (8, .int x8_5), (7, .int x7_4), (0, .ref (xa X 0)), (1, .int p0), (2, .int p1), (3, .int p2), (6, .int x6_2)]) hx hb dX9_treesOfProduction_67 hl (by decide) rfl (fun ls hl => ?_)
          obtain ⟨x6_8, ex6_8⟩ : ∃ y : Int32, y = x6_2 + 1 := ⟨_, rfl⟩
          replace hf := hf x6_8 ex6_8
          refine lv_iinc (v := x6_8) (lv' := [(6, .int x6_8), (4, .long x4_7), (8, .int x8_5), (7, .int x7_4), (0, .ref (xa X 0)), (1, .int p0), (2, .int p1), (3, .int p2)]) hx hb dX9_treesOfProduction_69 hl (k := 7) rfl (by rw [ex6_8]; rfl) (by decide) rfl (fun ls hl => ?_)
          refine lv_goto (tgt := 6) hx hb dX9_treesOfProduction_72 (by decide) ?_
          exact ih_6 x4_7 x6_8 _ _ _ hf hw (lv_sub hl [4, 5, 6, 7, 1, 0] rfl)
        · replace hf := hf.2 c_6
          refine lv_aload_n hx hb dX9_treesOfProduction_45 rfl (lv_at hl 2 rfl) ?_
          refine lv_iload_n hx hb dX9_treesOfProduction_46 rfl (lv_at hl 3 rfl) ?_
          refine lv_iload_n hx hb dX9_treesOfProduction_47 rfl (lv_at hl 4 rfl) ?_
          refine lv_iload hx hb dX9_treesOfProduction_48 (lv_at hl 1 rfl) ?_
          refine lv_iload hx hb dX9_treesOfProduction_50 (lv_at hl 0 rfl) ?_
          refine lv_iload_n hx hb dX9_treesOfProduction_52 rfl (lv_at hl 5 rfl) ?_
          refine lv_iload hx hb dX9_treesOfProduction_53 (lv_at hl 1 rfl) ?_
          refine lv_isub hx hb dX9_treesOfProduction_55 ?_
          refine lv_iload hx hb dX9_treesOfProduction_56 (lv_at hl 0 rfl) ?_
          refine lv_isub hx hb dX9_treesOfProduction_58 ?_
          refine x_cl (x_rV (As := [.int p0, .int p1, .int x7_4, .int x8_5, .int ((p2 - x7_4) - x8_5)]) (rest := [.long x4_1]) (okM X) hC hw (kX9_treesFrom l X S _ p0 p1 x7_4 x8_5 ((p2 - x7_4) - x8_5) _ hf) (cwV 5 hts (gV q_493 q_494 q_495 q_5 q_496) rfl rfl rfl (by decide +kernel) ⟨Nat.le_of_ble_eq_true rfl, Nat.le_of_ble_eq_true rfl⟩) (x_recv hK hw (k := 0) (by decide) rfl rfl) rfl hl.1 rfl (Nat.le_of_ble_eq_true rfl) dX9_treesOfProduction_59) hw hi (fun r_9 S_10 H locs hf hw => ?_)
          obtain ⟨hf, rfl⟩ := hf
          refine lv_goto (tgt := 66) hx hb dX9_treesOfProduction_62 (by decide) ?_
          refine lv_ladd hx hb dX9_treesOfProduction_66 ?_
          refine lv_topl (fun x4_11 ex4_11 => ?_)
          replace hf := hf x4_11 ex4_11
          refine lv_lstore (lv' := [(4, .long x4_11), (8, .int x8_5), (7, .int x7_4), (0, .ref (xa X 0)), (1, .int p0), (2, .int p1), (3, .int p2), (6, .int x6_2)]) hx hb dX9_treesOfProduction_67 hl (by decide) rfl (fun ls hl => ?_)
          obtain ⟨x6_12, ex6_12⟩ : ∃ y : Int32, y = x6_2 + 1 := ⟨_, rfl⟩
          replace hf := hf x6_12 ex6_12
          refine lv_iinc (v := x6_12) (lv' := [(6, .int x6_12), (4, .long x4_11), (8, .int x8_5), (7, .int x7_4), (0, .ref (xa X 0)), (1, .int p0), (2, .int p1), (3, .int p2)]) hx hb dX9_treesOfProduction_69 hl (k := 7) rfl (by rw [ex6_12]; rfl) (by decide) rfl (fun ls hl => ?_)
          refine lv_goto (tgt := 6) hx hb dX9_treesOfProduction_72 (by decide) ?_
          exact ih_6 x4_11 x6_12 _ _ _ hf hw (lv_sub hl [4, 5, 6, 7, 1, 0] rfl)
  exact w_6 n_6 0 0 _ _ _ hf hw (lv_sub hl [2, 3, 4, 5, 1, 0] rfl)
def bX9_countByPart_47 (x2_1 : Int32) (x3_7 : Int32) (L_9 : Int32 × gS → Prop) (L_47 : Int32 × gS → Prop) (x4_14 : Int32) (S_15 : gS) : Prop :=
  (((gI S_15 4) ≤ x4_14 → (∀ x3_17 : Int32, x3_17 = x3_7 + 1 → L_9 (x3_17, S_15))) ∧ (¬ (gI S_15 4) ≤ x4_14 → (vp_in x4_14 24 ∧ (vp_in (0 : Int32) 4 ∧ (vp_in (gA S_15 (16 + x4_14.toNatClampNeg) (0 : Int32).toNatClampNeg) 6 ∧ (vp_in x3_7 9 ∧ (vp_in x2_1 9 ∧ (pX9_treesOfProduction x4_14 x3_7 x2_1 S_15 (fun r_21 => (vp_in x2_1 9 ∧ (∀ S_23 : gS, S_23 = uB S_15 (79 + (gA S_15 (16 + x4_14.toNatClampNeg) (0 : Int32).toNatClampNeg).toNatClampNeg * 9 + x3_7.toNatClampNeg) x2_1.toNatClampNeg ((gB S_15 (79 + (gA S_15 (16 + x4_14.toNatClampNeg) (0 : Int32).toNatClampNeg).toNatClampNeg * 9 + x3_7.toNatClampNeg) x2_1.toNatClampNeg) + r_21) → (∀ x4_24 : Int32, x4_24 = x4_14 + 1 → L_47 (x4_24, S_23)))))))))))))
def bX9_countByPart_19 (x2_1 : Int32) (x3_7 : Int32) (L_9 : Int32 × gS → Prop) (L_19 : Int32 × gS → Prop) (x4_11 : Int32) (S_12 : gS) : Prop :=
  ((6 ≤ x4_11 → ∃ n, lp (fun L x => bX9_countByPart_47 x2_1 x3_7 L_9 L x.1 x.2) n (0, S_12)) ∧ (¬ 6 ≤ x4_11 → (vp_in x4_11 6 ∧ (vp_in x3_7 9 ∧ (vp_in x2_1 9 ∧ (∀ S_27 : gS, S_27 = uB S_12 (79 + x4_11.toNatClampNeg * 9 + x3_7.toNatClampNeg) x2_1.toNatClampNeg 0 → (∀ x4_28 : Int32, x4_28 = x4_11 + 1 → L_19 (x4_28, S_27))))))))
def bX9_countByPart_9 (p0 : Int32) (x2_1 : Int32) (L_2 : Int32 × gS → Prop) (L_9 : Int32 × gS → Prop) (x3_7 : Int32) (S_8 : gS) : Prop :=
  ((p0 < (x3_7 + x2_1) → (∀ x2_10 : Int32, x2_10 = x2_1 + 1 → L_2 (x2_10, S_8))) ∧ (¬ p0 < (x3_7 + x2_1) → ∃ n, lp (fun L x => bX9_countByPart_19 x2_1 x3_7 L_9 L x.1 x.2) n (0, S_8)))
def bX9_countByPart_2 (p0 : Int32) (Post : Int64 → gS → Prop) (L_2 : Int32 × gS → Prop) (x2_1 : Int32) (S_2 : gS) : Prop :=
  ((p0 < x2_1 → ((¬ p0 = 0 → (vp_in (gI S_2 3) 6 ∧ (vp_in (0 : Int32) 9 ∧ (vp_in p0 9 ∧ Post (gB S_2 (79 + (gI S_2 3).toNatClampNeg * 9 + (0 : Int32).toNatClampNeg) p0.toNatClampNeg) S_2)))) ∧ (p0 = 0 → Post 0 S_2))) ∧ (¬ p0 < x2_1 → ∃ n, lp (fun L x => bX9_countByPart_9 p0 x2_1 L_2 L x.1 x.2) n (0, S_2)))
def pX9_countByPart (p0 : Int32) (S : gS) (Post : Int64 → gS → Prop) : Prop :=
  ∃ n, lp (fun L x => bX9_countByPart_2 p0 Post L x.1 x.2) n (1, S)
def rX9_countByPart : Room := { frames := 3, cells := 0, slots := 0, locals := 78 }
set_option maxHeartbeats 40000000 in
set_option maxRecDepth 100000 in
theorem kX9_countByPart (l : Launch) (X : xG) (S : gS) (sz : Nat) (p0 : Int32) (Post : Int64 → gS → Prop) (hf : pX9_countByPart p0 S Post) : xMl l yX9_countByPart (Cond.code yX9_countByPart cX9_countByPart 5 (some .long) :: WS) rX9_countByPart 133 X (cM X) (eM X) S sz [.ref (xa X 0), .int p0] Post := by
  refine xMl.of (cc := cX9_countByPart) (maxL := 5) (own := RX9) (by decide) rfl rfl (Nat.le_of_ble_eq_true rfl) ?_
  intro p e s m args below meth c ls Q hC hQ hw hl
  obtain ⟨hx, hb, hml, hown, hts, hE, hi⟩ := id hC
  have hK := hE.1
  have hl : lv_has ls 5 [(0, .ref (xa X 0)), (1, .int p0)] := hl
  have lf_42 : (Cond.fieldLink RX9 42 "GrammarAmbiguityModel" "byPart" "[[[J").before args s = true := hts _ q_117
  have lf_83 : (Cond.fieldLink RX9 83 "GrammarAmbiguityModel" "start" "I").before args s = true := hts _ q_156
  have lf_76 : (Cond.fieldLink RX9 76 "GrammarAmbiguityModel" "productions" "I").before args s = true := hts _ q_157
  have lf_18 : (Cond.fieldLink RX9 18 "GrammarAmbiguityModel" "symbols" "[[I").before args s = true := hts _ q_110
  rw [pX9_countByPart] at hf
  refine lv_iconst (v := 1) hx hb dX9_countByPart_0 (by decide) ?_
  refine lv_istore_n (lv' := [(2, .int 1), (0, .ref (xa X 0)), (1, .int p0)]) hx hb dX9_countByPart_1 rfl hl (by decide) rfl (fun ls hl => ?_)
  obtain ⟨n_2, hf⟩ := hf
  have w_2 : ∀ (n : Nat) (x2_1 : Int32) (S_2 : gS) (H : Heap) (locs : List Loc) (ls : Array Slot), lp (fun L x => bX9_countByPart_2 p0 Post L x.1 x.2) n (x2_1, S_2) → xH 133 X (cM X) (xA 133 X s.heap.size) s.heap S_2 H locs → lv_has ls 5 [(0, .ref (xa X 0)), (1, .int p0), (2, .int x2_1)] → W p l e rX9_countByPart s m args below meth c H locs 0 0 Q (F0 m 2 ls []) := by
    intro n
    induction n with
    | zero => intro x2_1 S_2 H locs ls hf; exact hf.elim
    | succ n ih_2 =>
      intro x2_1 S_2 H locs ls hf hw hl
      replace hf : bX9_countByPart_2 p0 Post (lp (fun L x => bX9_countByPart_2 p0 Post L x.1 x.2) n) x2_1 S_2 := hf
      generalize lp (fun L x => bX9_countByPart_2 p0 Post L x.1 x.2) n = L_2 at hf ih_2
      rw [bX9_countByPart_2] at hf
      refine lv_iload_n hx hb dX9_countByPart_2 rfl (lv_at hl 2 rfl) ?_
      refine lv_iload_n hx hb dX9_countByPart_3 rfl (lv_at hl 1 rfl) ?_
      refine lv_icmp_gt (tgt := 103) hx hb dX9_countByPart_4 (by decide) (fun c_3 => ?_) (fun c_3 => ?_)
      · replace hf := hf.1 c_3
        refine lv_iload_n hx hb dX9_countByPart_103 rfl (lv_at hl 1 rfl) ?_
        refine lv_if_ne (tgt := 111) hx hb dX9_countByPart_104 (by decide) (fun c_4 => ?_) (fun c_4 => ?_)
        · replace hf := hf.1 c_4
          refine lv_aload_n hx hb dX9_countByPart_111 rfl (lv_at hl 0 rfl) ?_
          refine x_get (k := 0) (v := .ref (xa X 7)) hx hb hts i_X9 hown hK hw (by decide) rfl rfl 12 (by decide) lf_42 (fun _ h9 => h9) rfl dX9_countByPart_112 ?_
          refine lv_aload_n hx hb dX9_countByPart_115 rfl (lv_at hl 0 rfl) ?_
          refine x_get (k := 0) (v := .int (gI S_2 3)) hx hb hts i_X9 hown hK hw (by decide) rfl rfl 3 (by decide) lf_83 (fun _ h9 => h9) rfl dX9_countByPart_116 ?_
          have hb_5 := vp_lt hf.1
          refine x_ald (n := 6) (v := .ref (xa X (73 + (gI S_2 3).toNatClampNeg))) hx hb hK hw (by decide) rfl 5 rfl rfl hf.1 (rf_lt hb_5) dX9_countByPart_119 ?_
          replace hf := hf.2
          refine lv_iconst (v := 0) hx hb dX9_countByPart_120 (by decide) ?_
          have hb_6 := vp_lt hf.1
          refine x_ald (n := 9) (v := .ref (xa X (79 + (gI S_2 3).toNatClampNeg * 9 + (0 : Int32).toNatClampNeg))) hx hb hK hw (by omega) (cM_mi hb_5) 4 rfl rfl hf.1 (rf_lt hb_6) dX9_countByPart_121 ?_
          replace hf := hf.2
          refine lv_iload_n hx hb dX9_countByPart_122 rfl (lv_at hl 1 rfl) ?_
          refine x_lld (n := 9) hx hb hK hw (by omega) (cM_pa hb_5 hb_6) rfl hf.1 dX9_countByPart_123 ?_
          replace hf := hf.2
          exact hQ _ _ _ _ _ _ hf hw dX9_countByPart_124
        · replace hf := hf.2 c_4
          refine lv_lconst (v := 0) hx hb dX9_countByPart_107 (by decide) ?_
          refine lv_goto (tgt := 124) hx hb dX9_countByPart_108 (by decide) ?_
          exact hQ _ _ _ _ _ _ hf hw dX9_countByPart_124
      · replace hf := hf.2 c_3
        refine lv_iconst (v := 0) hx hb dX9_countByPart_7 (by decide) ?_
        refine lv_istore_n (lv' := [(3, .int 0), (0, .ref (xa X 0)), (1, .int p0), (2, .int x2_1)]) hx hb dX9_countByPart_8 rfl hl (by decide) rfl (fun ls hl => ?_)
        obtain ⟨n_9, hf⟩ := hf
        have w_9 : ∀ (n : Nat) (x3_7 : Int32) (S_8 : gS) (H : Heap) (locs : List Loc) (ls : Array Slot), lp (fun L x => bX9_countByPart_9 p0 x2_1 L_2 L x.1 x.2) n (x3_7, S_8) → xH 133 X (cM X) (xA 133 X s.heap.size) s.heap S_8 H locs → lv_has ls 5 [(0, .ref (xa X 0)), (1, .int p0), (2, .int x2_1), (3, .int x3_7)] → W p l e rX9_countByPart s m args below meth c H locs 0 0 Q (F0 m 9 ls []) := by
          intro n
          induction n with
          | zero => intro x3_7 S_8 H locs ls hf; exact hf.elim
          | succ n ih_9 =>
            intro x3_7 S_8 H locs ls hf hw hl
            replace hf : bX9_countByPart_9 p0 x2_1 L_2 (lp (fun L x => bX9_countByPart_9 p0 x2_1 L_2 L x.1 x.2) n) x3_7 S_8 := hf
            generalize lp (fun L x => bX9_countByPart_9 p0 x2_1 L_2 L x.1 x.2) n = L_9 at hf ih_9
            rw [bX9_countByPart_9] at hf
            refine lv_iload_n hx hb dX9_countByPart_9 rfl (lv_at hl 3 rfl) ?_
            refine lv_iload_n hx hb dX9_countByPart_10 rfl (lv_at hl 2 rfl) ?_
            refine lv_iadd hx hb dX9_countByPart_11 ?_
            refine lv_iload_n hx hb dX9_countByPart_12 rfl (lv_at hl 1 rfl) ?_
            refine lv_icmp_gt (tgt := 97) hx hb dX9_countByPart_13 (by decide) (fun c_9 => ?_) (fun c_9 => ?_)
            · replace hf := hf.1 c_9
              obtain ⟨x2_10, ex2_10⟩ : ∃ y : Int32, y = x2_1 + 1 := ⟨_, rfl⟩
              replace hf := hf x2_10 ex2_10
              refine lv_iinc (v := x2_10) (lv' := [(2, .int x2_10), (0, .ref (xa X 0)), (1, .int p0), (3, .int x3_7)]) hx hb dX9_countByPart_97 hl (k := 2) rfl (by rw [ex2_10]; rfl) (by decide) rfl (fun ls hl => ?_)
              refine lv_goto (tgt := 2) hx hb dX9_countByPart_100 (by decide) ?_
              exact ih_2 x2_10 S_8 _ _ _ hf hw (lv_sub hl [1, 2, 0] rfl)
            · replace hf := hf.2 c_9
              refine lv_iconst (v := 0) hx hb dX9_countByPart_16 (by decide) ?_
              refine lv_istore (lv' := [(4, .int 0), (0, .ref (xa X 0)), (1, .int p0), (2, .int x2_1), (3, .int x3_7)]) hx hb dX9_countByPart_17 hl (by decide) rfl (fun ls hl => ?_)
              obtain ⟨n_19, hf⟩ := hf
              have w_19 : ∀ (n : Nat) (x4_11 : Int32) (S_12 : gS) (H : Heap) (locs : List Loc) (ls : Array Slot), lp (fun L x => bX9_countByPart_19 x2_1 x3_7 L_9 L x.1 x.2) n (x4_11, S_12) → xH 133 X (cM X) (xA 133 X s.heap.size) s.heap S_12 H locs → lv_has ls 5 [(0, .ref (xa X 0)), (1, .int p0), (2, .int x2_1), (3, .int x3_7), (4, .int x4_11)] → W p l e rX9_countByPart s m args below meth c H locs 0 0 Q (F0 m 19 ls []) := by
                intro n
                induction n with
                | zero => intro x4_11 S_12 H locs ls hf; exact hf.elim
                | succ n ih_19 =>
                  intro x4_11 S_12 H locs ls hf hw hl
                  replace hf : bX9_countByPart_19 x2_1 x3_7 L_9 (lp (fun L x => bX9_countByPart_19 x2_1 x3_7 L_9 L x.1 x.2) n) x4_11 S_12 := hf
                  generalize lp (fun L x => bX9_countByPart_19 x2_1 x3_7 L_9 L x.1 x.2) n = L_19 at hf ih_19
                  rw [bX9_countByPart_19] at hf
                  refine lv_iload hx hb dX9_countByPart_19 (lv_at hl 4 rfl) ?_
                  refine lv_bipush (v := 6) hx hb dX9_countByPart_21 (by decide) ?_
                  refine lv_icmp_ge (tgt := 44) hx hb dX9_countByPart_23 (by decide) (fun c_13 => ?_) (fun c_13 => ?_)
                  · replace hf := hf.1 c_13
                    refine lv_iconst (v := 0) hx hb dX9_countByPart_44 (by decide) ?_
                    refine lv_istore (lv' := [(4, .int 0), (0, .ref (xa X 0)), (1, .int p0), (2, .int x2_1), (3, .int x3_7)]) hx hb dX9_countByPart_45 hl (by decide) rfl (fun ls hl => ?_)
                    obtain ⟨n_47, hf⟩ := hf
                    have w_47 : ∀ (n : Nat) (x4_14 : Int32) (S_15 : gS) (H : Heap) (locs : List Loc) (ls : Array Slot), lp (fun L x => bX9_countByPart_47 x2_1 x3_7 L_9 L x.1 x.2) n (x4_14, S_15) → xH 133 X (cM X) (xA 133 X s.heap.size) s.heap S_15 H locs → lv_has ls 5 [(0, .ref (xa X 0)), (1, .int p0), (2, .int x2_1), (3, .int x3_7), (4, .int x4_14)] → W p l e rX9_countByPart s m args below meth c H locs 0 0 Q (F0 m 47 ls []) := by
                      intro n
                      induction n with
                      | zero => intro x4_14 S_15 H locs ls hf; exact hf.elim
                      | succ n ih_47 =>
                        intro x4_14 S_15 H locs ls hf hw hl
                        replace hf : bX9_countByPart_47 x2_1 x3_7 L_9 (lp (fun L x => bX9_countByPart_47 x2_1 x3_7 L_9 L x.1 x.2) n) x4_14 S_15 := hf
                        generalize lp (fun L x => bX9_countByPart_47 x2_1 x3_7 L_9 L x.1 x.2) n = L_47 at hf ih_47
                        rw [bX9_countByPart_47] at hf
                        refine lv_iload hx hb dX9_countByPart_47 (lv_at hl 4 rfl) ?_
                        refine lv_aload_n hx hb dX9_countByPart_49 rfl (lv_at hl 0 rfl) ?_
                        refine x_get (k := 0) (v := .int (gI S_15 4)) hx hb hts i_X9 hown hK hw (by decide) rfl rfl 4 (by decide) lf_76 (fun _ h9 => h9) rfl dX9_countByPart_50 ?_
                        refine lv_icmp_ge (tgt := 91) hx hb dX9_countByPart_53 (by decide) (fun c_16 => ?_) (fun c_16 => ?_)
                        · replace hf := hf.1 c_16
                          obtain ⟨x3_17, ex3_17⟩ : ∃ y : Int32, y = x3_7 + 1 := ⟨_, rfl⟩
                          replace hf := hf x3_17 ex3_17
                          refine lv_iinc (v := x3_17) (lv' := [(3, .int x3_17), (0, .ref (xa X 0)), (1, .int p0), (2, .int x2_1), (4, .int x4_14)]) hx hb dX9_countByPart_91 hl (k := 3) rfl (by rw [ex3_17]; rfl) (by decide) rfl (fun ls hl => ?_)
                          refine lv_goto (tgt := 9) hx hb dX9_countByPart_94 (by decide) ?_
                          exact ih_9 x3_17 S_15 _ _ _ hf hw (lv_sub hl [1, 2, 3, 0] rfl)
                        · replace hf := hf.2 c_16
                          refine lv_aload_n hx hb dX9_countByPart_56 rfl (lv_at hl 0 rfl) ?_
                          refine x_get (k := 0) (v := .ref (xa X 7)) hx hb hts i_X9 hown hK hw (by decide) rfl rfl 12 (by decide) lf_42 (fun _ h9 => h9) rfl dX9_countByPart_57 ?_
                          refine lv_aload_n hx hb dX9_countByPart_60 rfl (lv_at hl 0 rfl) ?_
                          refine x_get (k := 0) (v := .ref (xa X 1)) hx hb hts i_X9 hown hK hw (by decide) rfl rfl 5 (by decide) lf_18 (fun _ h9 => h9) rfl dX9_countByPart_61 ?_
                          refine lv_iload hx hb dX9_countByPart_64 (lv_at hl 4 rfl) ?_
                          have hb_18 := vp_lt hf.1
                          refine x_ald (n := 24) (v := .ref (xa X (16 + x4_14.toNatClampNeg))) hx hb hK hw (by decide) rfl 3 rfl rfl hf.1 (rf_lt hb_18) dX9_countByPart_66 ?_
                          replace hf := hf.2
                          refine lv_iconst (v := 0) hx hb dX9_countByPart_67 (by decide) ?_
                          refine x_ild (n := 4) hx hb hK hw (by omega) (cM_sy hb_18) rfl hf.1 dX9_countByPart_68 ?_
                          replace hf := hf.2
                          have hb_19 := vp_lt hf.1
                          refine x_ald (n := 6) (v := .ref (xa X (73 + (gA S_15 (16 + x4_14.toNatClampNeg) (0 : Int32).toNatClampNeg).toNatClampNeg))) hx hb hK hw (by decide) rfl 5 rfl rfl hf.1 (rf_lt hb_19) dX9_countByPart_69 ?_
                          replace hf := hf.2
                          refine lv_iload_n hx hb dX9_countByPart_70 rfl (lv_at hl 3 rfl) ?_
                          have hb_20 := vp_lt hf.1
                          refine x_ald (n := 9) (v := .ref (xa X (79 + (gA S_15 (16 + x4_14.toNatClampNeg) (0 : Int32).toNatClampNeg).toNatClampNeg * 9 + x3_7.toNatClampNeg))) hx hb hK hw (by omega) (cM_mi hb_19) 4 rfl rfl hf.1 (rf_lt hb_20) dX9_countByPart_71 ?_
                          replace hf := hf.2
                          refine lv_iload_n hx hb dX9_countByPart_72 rfl (lv_at hl 2 rfl) ?_
                          refine lv_dup2_11 hx hb dX9_countByPart_73 rfl rfl ?_
                          refine x_lld (n := 9) hx hb hK hw (by omega) (cM_pa hb_19 hb_20) rfl hf.1 dX9_countByPart_74 ?_
                          replace hf := hf.2
                          refine lv_aload_n hx hb dX9_countByPart_75 rfl (lv_at hl 0 rfl) ?_
                          refine lv_iload hx hb dX9_countByPart_76 (lv_at hl 4 rfl) ?_
                          refine lv_iload_n hx hb dX9_countByPart_78 rfl (lv_at hl 3 rfl) ?_
                          refine lv_iload_n hx hb dX9_countByPart_79 rfl (lv_at hl 2 rfl) ?_
                          refine x_cl (x_rV (As := [.int x4_14, .int x3_7, .int x2_1]) (rest := [.long (gB S_15 (79 + (gA S_15 (16 + x4_14.toNatClampNeg) (0 : Int32).toNatClampNeg).toNatClampNeg * 9 + x3_7.toNatClampNeg) x2_1.toNatClampNeg), .int x2_1, .ref (xa X (79 + (gA S_15 (16 + x4_14.toNatClampNeg) (0 : Int32).toNatClampNeg).toNatClampNeg * 9 + x3_7.toNatClampNeg))]) (okM X) hC hw (kX9_treesOfProduction l X S_15 _ x4_14 x3_7 x2_1 _ hf) (cwV 3 hts (gV q_489 q_490 q_491 q_5 q_492) rfl rfl rfl (by decide +kernel) ⟨Nat.le_of_ble_eq_true rfl, Nat.le_of_ble_eq_true rfl⟩) (x_recv hK hw (k := 0) (by decide) rfl rfl) rfl hl.1 rfl (Nat.le_of_ble_eq_true rfl) dX9_countByPart_80) hw hi (fun r_21 S_22 H locs hf hw => ?_)
                          obtain ⟨hf, rfl⟩ := hf
                          refine lv_ladd hx hb dX9_countByPart_83 ?_
                          refine x_lst (n := 9) hx hb hK hw (by omega) (cM_pa hb_19 hb_20) rfl hf.1 dX9_countByPart_84 (uM_rJ (fun _ => cM_pa hb_19 hb_20) _ _) (fun H locs hw => ?_)
                          replace hf := hf.2
                          obtain ⟨S_23, eS_23⟩ : ∃ z : gS, z = uB S_15 (79 + (gA S_15 (16 + x4_14.toNatClampNeg) (0 : Int32).toNatClampNeg).toNatClampNeg * 9 + x3_7.toNatClampNeg) x2_1.toNatClampNeg ((gB S_15 (79 + (gA S_15 (16 + x4_14.toNatClampNeg) (0 : Int32).toNatClampNeg).toNatClampNeg * 9 + x3_7.toNatClampNeg) x2_1.toNatClampNeg) + r_21) := ⟨_, rfl⟩
                          rw [← eS_23] at hw
                          replace hf := hf S_23 eS_23
                          obtain ⟨x4_24, ex4_24⟩ : ∃ y : Int32, y = x4_14 + 1 := ⟨_, rfl⟩
                          replace hf := hf x4_24 ex4_24
                          refine lv_iinc (v := x4_24) (lv' := [(4, .int x4_24), (0, .ref (xa X 0)), (1, .int p0), (2, .int x2_1), (3, .int x3_7)]) hx hb dX9_countByPart_85 hl (k := 4) rfl (by rw [ex4_24]; rfl) (by decide) rfl (fun ls hl => ?_)
                          refine lv_goto (tgt := 47) hx hb dX9_countByPart_88 (by decide) ?_
                          exact ih_47 x4_24 S_23 _ _ _ hf hw (lv_sub hl [1, 2, 3, 4, 0] rfl)
                    exact w_47 n_47 0 S_12 _ _ _ hf hw (lv_sub hl [1, 2, 3, 4, 0] rfl)
                  · replace hf := hf.2 c_13
                    refine lv_aload_n hx hb dX9_countByPart_26 rfl (lv_at hl 0 rfl) ?_
                    refine x_get (k := 0) (v := .ref (xa X 7)) hx hb hts i_X9 hown hK hw (by decide) rfl rfl 12 (by decide) lf_42 (fun _ h9 => h9) rfl dX9_countByPart_27 ?_
                    refine lv_iload hx hb dX9_countByPart_30 (lv_at hl 4 rfl) ?_
                    have hb_25 := vp_lt hf.1
                    refine x_ald (n := 6) (v := .ref (xa X (73 + x4_11.toNatClampNeg))) hx hb hK hw (by decide) rfl 5 rfl rfl hf.1 (rf_lt hb_25) dX9_countByPart_32 ?_
                    replace hf := hf.2
                    refine lv_iload_n hx hb dX9_countByPart_33 rfl (lv_at hl 3 rfl) ?_
                    have hb_26 := vp_lt hf.1
                    refine x_ald (n := 9) (v := .ref (xa X (79 + x4_11.toNatClampNeg * 9 + x3_7.toNatClampNeg))) hx hb hK hw (by omega) (cM_mi hb_25) 4 rfl rfl hf.1 (rf_lt hb_26) dX9_countByPart_34 ?_
                    replace hf := hf.2
                    refine lv_iload_n hx hb dX9_countByPart_35 rfl (lv_at hl 2 rfl) ?_
                    refine lv_lconst (v := 0) hx hb dX9_countByPart_36 (by decide) ?_
                    refine x_lst (n := 9) hx hb hK hw (by omega) (cM_pa hb_25 hb_26) rfl hf.1 dX9_countByPart_37 (uM_rJ (fun _ => cM_pa hb_25 hb_26) _ _) (fun H locs hw => ?_)
                    replace hf := hf.2
                    obtain ⟨S_27, eS_27⟩ : ∃ z : gS, z = uB S_12 (79 + x4_11.toNatClampNeg * 9 + x3_7.toNatClampNeg) x2_1.toNatClampNeg 0 := ⟨_, rfl⟩
                    rw [← eS_27] at hw
                    replace hf := hf S_27 eS_27
                    obtain ⟨x4_28, ex4_28⟩ : ∃ y : Int32, y = x4_11 + 1 := ⟨_, rfl⟩
                    replace hf := hf x4_28 ex4_28
                    refine lv_iinc (v := x4_28) (lv' := [(4, .int x4_28), (0, .ref (xa X 0)), (1, .int p0), (2, .int x2_1), (3, .int x3_7)]) hx hb dX9_countByPart_38 hl (k := 4) rfl (by rw [ex4_28]; rfl) (by decide) rfl (fun ls hl => ?_)
                    refine lv_goto (tgt := 19) hx hb dX9_countByPart_41 (by decide) ?_
                    exact ih_19 x4_28 S_27 _ _ _ hf hw (lv_sub hl [1, 2, 3, 4, 0] rfl)
              exact w_19 n_19 0 S_8 _ _ _ hf hw (lv_sub hl [1, 2, 3, 4, 0] rfl)
        exact w_9 n_9 0 S_2 _ _ _ hf hw (lv_sub hl [1, 2, 3, 0] rfl)
  exact w_2 n_2 1 S _ _ _ hf hw (lv_sub hl [1, 2, 0] rfl)
def bX9_countCurrent_2 (Post : Int64 → gS → Prop) (L_2 : Int32 × gS → Prop) (x1_1 : Int32) (S_2 : gS) : Prop :=
  (((gI S_2 5) ≤ x1_1 → (pX9_countByPart (gI S_2 5) S_2 (fun r_4 S_5 => Post r_4 S_5))) ∧ (¬ (gI S_2 5) ≤ x1_1 → (vp_in x1_1 8 ∧ (vp_in x1_1 8 ∧ (∀ S_6 : gS, S_6 = uA S_2 6 x1_1.toNatClampNeg (gA S_2 2 x1_1.toNatClampNeg) → (∀ x1_7 : Int32, x1_7 = x1_1 + 1 → L_2 (x1_7, S_6)))))))
def pX9_countCurrent (S : gS) (Post : Int64 → gS → Prop) : Prop :=
  ∃ n, lp (fun L x => bX9_countCurrent_2 Post L x.1 x.2) n (0, S)
def rX9_countCurrent : Room := { frames := 4, cells := 0, slots := 0, locals := 102 }
set_option maxHeartbeats 40000000 in
set_option maxRecDepth 100000 in
theorem kX9_countCurrent (l : Launch) (X : xG) (S : gS) (sz : Nat) (Post : Int64 → gS → Prop) (hf : pX9_countCurrent S Post) : xMl l yX9_countCurrent (Cond.code yX9_countCurrent cX9_countCurrent 2 (some .long) :: WS) rX9_countCurrent 133 X (cM X) (eM X) S sz [.ref (xa X 0)] Post := by
  refine xMl.of (cc := cX9_countCurrent) (maxL := 2) (own := RX9) (by decide) rfl rfl (Nat.le_of_ble_eq_true rfl) ?_
  intro p e s m args below meth c ls Q hC hQ hw hl
  obtain ⟨hx, hb, hml, hown, hts, hE, hi⟩ := id hC
  have hK := hE.1
  have hl : lv_has ls 2 [(0, .ref (xa X 0))] := hl
  have lf_86 : (Cond.fieldLink RX9 86 "GrammarAmbiguityModel" "length" "I").before args s = true := hts _ q_158
  have lf_37 : (Cond.fieldLink RX9 37 "GrammarAmbiguityModel" "read" "[I").before args s = true := hts _ q_116
  have lf_21 : (Cond.fieldLink RX9 21 "GrammarAmbiguityModel" "word" "[I").before args s = true := hts _ q_111
  rw [pX9_countCurrent] at hf
  refine lv_iconst (v := 0) hx hb dX9_countCurrent_0 (by decide) ?_
  refine lv_istore_n (lv' := [(1, .int 0), (0, .ref (xa X 0))]) hx hb dX9_countCurrent_1 rfl hl (by decide) rfl (fun ls hl => ?_)
  obtain ⟨n_2, hf⟩ := hf
  have w_2 : ∀ (n : Nat) (x1_1 : Int32) (S_2 : gS) (H : Heap) (locs : List Loc) (ls : Array Slot), lp (fun L x => bX9_countCurrent_2 Post L x.1 x.2) n (x1_1, S_2) → xH 133 X (cM X) (xA 133 X s.heap.size) s.heap S_2 H locs → lv_has ls 2 [(0, .ref (xa X 0)), (1, .int x1_1)] → W p l e rX9_countCurrent s m args below meth c H locs 0 0 Q (F0 m 2 ls []) := by
    intro n
    induction n with
    | zero => intro x1_1 S_2 H locs ls hf; exact hf.elim
    | succ n ih_2 =>
      intro x1_1 S_2 H locs ls hf hw hl
      replace hf : bX9_countCurrent_2 Post (lp (fun L x => bX9_countCurrent_2 Post L x.1 x.2) n) x1_1 S_2 := hf
      generalize lp (fun L x => bX9_countCurrent_2 Post L x.1 x.2) n = L_2 at hf ih_2
      rw [bX9_countCurrent_2] at hf
      refine lv_iload_n hx hb dX9_countCurrent_2 rfl (lv_at hl 1 rfl) ?_
      refine lv_aload_n hx hb dX9_countCurrent_3 rfl (lv_at hl 0 rfl) ?_
      refine x_get (k := 0) (v := .int (gI S_2 5)) hx hb hts i_X9 hown hK hw (by decide) rfl rfl 7 (by decide) lf_86 (fun _ h9 => h9) rfl dX9_countCurrent_4 ?_
      refine lv_icmp_ge (tgt := 28) hx hb dX9_countCurrent_7 (by decide) (fun c_3 => ?_) (fun c_3 => ?_)
      · replace hf := hf.1 c_3
        refine lv_aload_n hx hb dX9_countCurrent_28 rfl (lv_at hl 0 rfl) ?_
        refine lv_aload_n hx hb dX9_countCurrent_29 rfl (lv_at hl 0 rfl) ?_
        refine x_get (k := 0) (v := .int (gI S_2 5)) hx hb hts i_X9 hown hK hw (by decide) rfl rfl 7 (by decide) lf_86 (fun _ h9 => h9) rfl dX9_countCurrent_30 ?_
        refine x_cl (x_rV (As := [.int (gI S_2 5)]) (rest := []) (okM X) hC hw (kX9_countByPart l X S_2 _ (gI S_2 5) _ hf) (cwV 1 hts (gV q_485 q_486 q_487 q_5 q_488) rfl rfl rfl (by decide +kernel) ⟨Nat.le_of_ble_eq_true rfl, Nat.le_of_ble_eq_true rfl⟩) (x_recv hK hw (k := 0) (by decide) rfl rfl) rfl hl.1 rfl (Nat.le_of_ble_eq_true rfl) dX9_countCurrent_33) hw hi (fun r_4 S_5 H locs hf hw => ?_)
        exact hQ _ _ _ _ _ _ hf hw dX9_countCurrent_36
      · replace hf := hf.2 c_3
        refine lv_aload_n hx hb dX9_countCurrent_10 rfl (lv_at hl 0 rfl) ?_
        refine x_get (k := 0) (v := .ref (xa X 6)) hx hb hts i_X9 hown hK hw (by decide) rfl rfl 11 (by decide) lf_37 (fun _ h9 => h9) rfl dX9_countCurrent_11 ?_
        refine lv_iload_n hx hb dX9_countCurrent_14 rfl (lv_at hl 1 rfl) ?_
        refine lv_aload_n hx hb dX9_countCurrent_15 rfl (lv_at hl 0 rfl) ?_
        refine x_get (k := 0) (v := .ref (xa X 2)) hx hb hts i_X9 hown hK hw (by decide) rfl rfl 6 (by decide) lf_21 (fun _ h9 => h9) rfl dX9_countCurrent_16 ?_
        refine lv_iload_n hx hb dX9_countCurrent_19 rfl (lv_at hl 1 rfl) ?_
        refine x_ild (n := 8) hx hb hK hw (by decide) rfl rfl hf.1 dX9_countCurrent_20 ?_
        replace hf := hf.2
        refine x_ist (n := 8) hx hb hK hw (by decide) rfl rfl hf.1 dX9_countCurrent_21 (uM_A6 X S_2 _ _) (fun H locs hw => ?_)
        replace hf := hf.2
        obtain ⟨S_6, eS_6⟩ : ∃ z : gS, z = uA S_2 6 x1_1.toNatClampNeg (gA S_2 2 x1_1.toNatClampNeg) := ⟨_, rfl⟩
        rw [← eS_6] at hw
        replace hf := hf S_6 eS_6
        obtain ⟨x1_7, ex1_7⟩ : ∃ y : Int32, y = x1_1 + 1 := ⟨_, rfl⟩
        replace hf := hf x1_7 ex1_7
        refine lv_iinc (v := x1_7) (lv' := [(1, .int x1_7), (0, .ref (xa X 0))]) hx hb dX9_countCurrent_22 hl (k := 1) rfl (by rw [ex1_7]; rfl) (by decide) rfl (fun ls hl => ?_)
        refine lv_goto (tgt := 2) hx hb dX9_countCurrent_25 (by decide) ?_
        exact ih_2 x1_7 S_6 _ _ _ hf hw (lv_sub hl [1, 0] rfl)
  exact w_2 n_2 0 S _ _ _ hf hw (lv_sub hl [1, 0] rfl)
def pX9_treeCount (S : gS) (Post : Int64 → gS → Prop) : Prop :=
  (∀ S_1 : gS, S_1 = uI S 0 0 → (pX9_countCurrent  S_1 (fun r_2 S_3 => Post r_2 S_3)))
def rX9_treeCount : Room := { frames := 5, cells := 0, slots := 0, locals := 123 }
set_option maxHeartbeats 40000000 in
set_option maxRecDepth 100000 in
theorem kX9_treeCount (l : Launch) (X : xG) (S : gS) (sz : Nat) (Post : Int64 → gS → Prop) (hf : pX9_treeCount S Post) : xMl l yX9_treeCount (Cond.code yX9_treeCount cX9_treeCount 1 (some .long) :: WS) rX9_treeCount 133 X (cM X) (eM X) S sz [.ref (xa X 0)] Post := by
  refine xMl.of (cc := cX9_treeCount) (maxL := 1) (own := RX9) (by decide) rfl rfl (Nat.le_of_ble_eq_true rfl) ?_
  intro p e s m args below meth c ls Q hC hQ hw hl
  obtain ⟨hx, hb, hml, hown, hts, hE, hi⟩ := id hC
  have hK := hE.1
  have hl : lv_has ls 1 [(0, .ref (xa X 0))] := hl
  have lf_69 : (Cond.fieldLink RX9 69 "GrammarAmbiguityModel" "thrown" "I").before args s = true := hts _ q_167
  rw [pX9_treeCount] at hf
  refine lv_aload_n hx hb dX9_treeCount_0 rfl (lv_at hl 0 rfl) ?_
  refine lv_iconst (v := 0) hx hb dX9_treeCount_1 (by decide) ?_
  refine x_put (k := 0) (S' := uI S 0 0) (ty := .int) hx hb hts i_X9 tyX9_ok nmX9 hown hK hw (by decide) rfl rfl 0 (by decide) lf_69 (fun _ h9 => h9) rfl (by decide +kernel) rfl rfl (Nat.le_of_ble_eq_true rfl) dX9_treeCount_2 (uM_I0 X S _) (fun H locs hw => ?_)
  obtain ⟨S_1, eS_1⟩ : ∃ z : gS, z = uI S 0 0 := ⟨_, rfl⟩
  rw [← eS_1] at hw
  replace hf := hf S_1 eS_1
  refine lv_aload_n hx hb dX9_treeCount_5 rfl (lv_at hl 0 rfl) ?_
  refine x_cl (x_rV (As := []) (rest := []) (okM X) hC hw (kX9_countCurrent l X S_1 _  _ hf) (cwV 0 hts (gV q_481 q_482 q_483 q_5 q_484) rfl rfl rfl (by decide +kernel) ⟨Nat.le_of_ble_eq_true rfl, Nat.le_of_ble_eq_true rfl⟩) (x_recv hK hw (k := 0) (by decide) rfl rfl) rfl hl.1 rfl (Nat.le_of_ble_eq_true rfl) dX9_treeCount_6) hw hi (fun r_2 S_3 H locs hf hw => ?_)
  exact hQ _ _ _ _ _ _ hf hw dX9_treeCount_9
def bX9_wordsOf_4 (p0 : Int32) (S : gS) (Post : Int32 → Prop) (L_4 : Int32 × Int32 → Prop) (x2_1 : Int32) (x3_2 : Int32) : Prop :=
  ((p0 ≤ x3_2 → Post x2_1) ∧ (¬ p0 ≤ x3_2 → (∀ x2_4 : Int32, x2_4 = (x2_1 * (gI S 2)) → (∀ x3_5 : Int32, x3_5 = x3_2 + 1 → L_4 (x2_4, x3_5)))))
def pX9_wordsOf (p0 : Int32) (S : gS) (Post : Int32 → Prop) : Prop :=
  ∃ n, lp (fun L x => bX9_wordsOf_4 p0 S Post L x.1 x.2) n (1, 0)
def rX9_wordsOf : Room := { frames := 0, cells := 0, slots := 0, locals := 0 }
set_option maxHeartbeats 40000000 in
set_option maxRecDepth 100000 in
theorem kX9_wordsOf (l : Launch) (X : xG) (S : gS) (sz : Nat) (p0 : Int32) (Post : Int32 → Prop) (hf : pX9_wordsOf p0 S Post) : xMi l yX9_wordsOf (Cond.code yX9_wordsOf cX9_wordsOf 4 (some .int) :: WS) rX9_wordsOf 133 X (cM X) (eM X) S sz [.ref (xa X 0), .int p0] (fun r S' => Post r ∧ S = S') := by
  refine xMi.of (cc := cX9_wordsOf) (maxL := 4) (own := RX9) (by decide) rfl rfl (Nat.le_of_ble_eq_true rfl) ?_
  intro p e s m args below meth c ls Q hC hQ hw hl
  obtain ⟨hx, hb, hml, hown, hts, hE, hi⟩ := id hC
  have hK := hE.1
  have hl : lv_has ls 4 [(0, .ref (xa X 0)), (1, .int p0)] := hl
  have lf_13 : (Cond.fieldLink RX9 13 "GrammarAmbiguityModel" "terminals" "I").before args s = true := hts _ q_108
  rw [pX9_wordsOf] at hf
  refine lv_iconst (v := 1) hx hb dX9_wordsOf_0 (by decide) ?_
  refine lv_istore_n (lv' := [(2, .int 1), (0, .ref (xa X 0)), (1, .int p0)]) hx hb dX9_wordsOf_1 rfl hl (by decide) rfl (fun ls hl => ?_)
  refine lv_iconst (v := 0) hx hb dX9_wordsOf_2 (by decide) ?_
  refine lv_istore_n (lv' := [(3, .int 0), (2, .int 1), (0, .ref (xa X 0)), (1, .int p0)]) hx hb dX9_wordsOf_3 rfl hl (by decide) rfl (fun ls hl => ?_)
  obtain ⟨n_4, hf⟩ := hf
  have w_4 : ∀ (n : Nat) (x2_1 : Int32) (x3_2 : Int32) (H : Heap) (locs : List Loc) (ls : Array Slot), lp (fun L x => bX9_wordsOf_4 p0 S Post L x.1 x.2) n (x2_1, x3_2) → xH 133 X (cM X) (xA 133 X s.heap.size) s.heap S H locs → lv_has ls 4 [(0, .ref (xa X 0)), (1, .int p0), (2, .int x2_1), (3, .int x3_2)] → W p l e rX9_wordsOf s m args below meth c H locs 0 0 Q (F0 m 4 ls []) := by
    intro n
    induction n with
    | zero => intro x2_1 x3_2 H locs ls hf; exact hf.elim
    | succ n ih_4 =>
      intro x2_1 x3_2 H locs ls hf hw hl
      replace hf : bX9_wordsOf_4 p0 S Post (lp (fun L x => bX9_wordsOf_4 p0 S Post L x.1 x.2) n) x2_1 x3_2 := hf
      generalize lp (fun L x => bX9_wordsOf_4 p0 S Post L x.1 x.2) n = L_4 at hf ih_4
      rw [bX9_wordsOf_4] at hf
      refine lv_iload_n hx hb dX9_wordsOf_4 rfl (lv_at hl 3 rfl) ?_
      refine lv_iload_n hx hb dX9_wordsOf_5 rfl (lv_at hl 1 rfl) ?_
      refine lv_icmp_ge (tgt := 22) hx hb dX9_wordsOf_6 (by decide) (fun c_3 => ?_) (fun c_3 => ?_)
      · replace hf := hf.1 c_3
        refine lv_iload_n hx hb dX9_wordsOf_22 rfl (lv_at hl 2 rfl) ?_
        exact hQ _ _ _ _ _ _ rfl ⟨hf, rfl⟩ hw dX9_wordsOf_23
      · replace hf := hf.2 c_3
        refine lv_iload_n hx hb dX9_wordsOf_9 rfl (lv_at hl 2 rfl) ?_
        refine lv_aload_n hx hb dX9_wordsOf_10 rfl (lv_at hl 0 rfl) ?_
        refine x_get (k := 0) (v := .int (gI S 2)) hx hb hts i_X9 hown hK hw (by decide) rfl rfl 2 (by decide) lf_13 (fun _ h9 => h9) rfl dX9_wordsOf_11 ?_
        refine lv_imul hx hb dX9_wordsOf_14 ?_
        refine lv_topi (fun x2_4 ex2_4 => ?_)
        replace hf := hf x2_4 ex2_4
        refine lv_istore_n (lv' := [(2, .int x2_4), (0, .ref (xa X 0)), (1, .int p0), (3, .int x3_2)]) hx hb dX9_wordsOf_15 rfl hl (by decide) rfl (fun ls hl => ?_)
        obtain ⟨x3_5, ex3_5⟩ : ∃ y : Int32, y = x3_2 + 1 := ⟨_, rfl⟩
        replace hf := hf x3_5 ex3_5
        refine lv_iinc (v := x3_5) (lv' := [(3, .int x3_5), (2, .int x2_4), (0, .ref (xa X 0)), (1, .int p0)]) hx hb dX9_wordsOf_16 hl (k := 3) rfl (by rw [ex3_5]; rfl) (by decide) rfl (fun ls hl => ?_)
        refine lv_goto (tgt := 4) hx hb dX9_wordsOf_19 (by decide) ?_
        exact ih_4 x2_4 x3_5 _ _ _ hf hw (lv_sub hl [2, 3, 1, 0] rfl)
  exact w_4 n_4 1 0 _ _ _ hf hw (lv_sub hl [2, 3, 1, 0] rfl)
def bX9_countNumbered_7 (p1 : Int32) (Post : Int64 → gS → Prop) (L_7 : Int32 × Int32 × gS → Prop) (x3_2 : Int32) (x4_3 : Int32) (S_4 : gS) : Prop :=
  ((x4_3 < 0 → (pX9_countByPart p1 S_4 (fun r_6 S_7 => Post r_6 S_7))) ∧ (¬ x4_3 < 0 → (¬ (gI S_4 2) = 0 ∧ (vp_in x4_3 8 ∧ (∀ S_8 : gS, S_8 = uA S_4 6 x4_3.toNatClampNeg (x3_2 - x3_2 / (gI S_4 2) * (gI S_4 2)) → (¬ (gI S_8 2) = 0 ∧ (∀ x3_9 : Int32, x3_9 = (x3_2 / (gI S_8 2)) → (∀ x4_10 : Int32, x4_10 = x4_3 + (-1) → L_7 (x3_9, x4_10, S_8)))))))))
def pX9_countNumbered (p0 : Int32) (p1 : Int32) (S : gS) (Post : Int64 → gS → Prop) : Prop :=
  (∀ x4_1 : Int32, x4_1 = (p1 - 1) → ∃ n, lp (fun L x => bX9_countNumbered_7 p1 Post L x.1 x.2.1 x.2.2) n (p0, x4_1, S))
def rX9_countNumbered : Room := { frames := 4, cells := 0, slots := 0, locals := 102 }
set_option maxHeartbeats 40000000 in
set_option maxRecDepth 100000 in
theorem kX9_countNumbered (l : Launch) (X : xG) (S : gS) (sz : Nat) (p0 : Int32) (p1 : Int32) (Post : Int64 → gS → Prop) (hf : pX9_countNumbered p0 p1 S Post) : xMl l yX9_countNumbered (Cond.code yX9_countNumbered cX9_countNumbered 5 (some .long) :: WS) rX9_countNumbered 133 X (cM X) (eM X) S sz [.ref (xa X 0), .int p0, .int p1] Post := by
  refine xMl.of (cc := cX9_countNumbered) (maxL := 5) (own := RX9) (by decide) rfl rfl (Nat.le_of_ble_eq_true rfl) ?_
  intro p e s m args below meth c ls Q hC hQ hw hl
  obtain ⟨hx, hb, hml, hown, hts, hE, hi⟩ := id hC
  have hK := hE.1
  have hl : lv_has ls 5 [(0, .ref (xa X 0)), (1, .int p0), (2, .int p1)] := hl
  have lf_37 : (Cond.fieldLink RX9 37 "GrammarAmbiguityModel" "read" "[I").before args s = true := hts _ q_116
  have lf_13 : (Cond.fieldLink RX9 13 "GrammarAmbiguityModel" "terminals" "I").before args s = true := hts _ q_108
  rw [pX9_countNumbered] at hf
  refine lv_iload_n hx hb dX9_countNumbered_0 rfl (lv_at hl 1 rfl) ?_
  refine lv_istore_n (lv' := [(3, .int p0), (0, .ref (xa X 0)), (1, .int p0), (2, .int p1)]) hx hb dX9_countNumbered_1 rfl hl (by decide) rfl (fun ls hl => ?_)
  refine lv_iload_n hx hb dX9_countNumbered_2 rfl (lv_at hl 3 rfl) ?_
  refine lv_iconst (v := 1) hx hb dX9_countNumbered_3 (by decide) ?_
  refine lv_isub hx hb dX9_countNumbered_4 ?_
  refine lv_topi (fun x4_1 ex4_1 => ?_)
  replace hf := hf x4_1 ex4_1
  refine lv_istore (lv' := [(4, .int x4_1), (3, .int p0), (0, .ref (xa X 0)), (1, .int p0), (2, .int p1)]) hx hb dX9_countNumbered_5 hl (by decide) rfl (fun ls hl => ?_)
  obtain ⟨n_7, hf⟩ := hf
  have w_7 : ∀ (n : Nat) (x3_2 : Int32) (x4_3 : Int32) (S_4 : gS) (H : Heap) (locs : List Loc) (ls : Array Slot), lp (fun L x => bX9_countNumbered_7 p1 Post L x.1 x.2.1 x.2.2) n (x3_2, x4_3, S_4) → xH 133 X (cM X) (xA 133 X s.heap.size) s.heap S_4 H locs → lv_has ls 5 [(0, .ref (xa X 0)), (2, .int p1), (3, .int x3_2), (4, .int x4_3)] → W p l e rX9_countNumbered s m args below meth c H locs 0 0 Q (F0 m 7 ls []) := by
    intro n
    induction n with
    | zero => intro x3_2 x4_3 S_4 H locs ls hf; exact hf.elim
    | succ n ih_7 =>
      intro x3_2 x4_3 S_4 H locs ls hf hw hl
      replace hf : bX9_countNumbered_7 p1 Post (lp (fun L x => bX9_countNumbered_7 p1 Post L x.1 x.2.1 x.2.2) n) x3_2 x4_3 S_4 := hf
      generalize lp (fun L x => bX9_countNumbered_7 p1 Post L x.1 x.2.1 x.2.2) n = L_7 at hf ih_7
      rw [bX9_countNumbered_7] at hf
      refine lv_iload hx hb dX9_countNumbered_7 (lv_at hl 3 rfl) ?_
      refine lv_if_lt (tgt := 38) hx hb dX9_countNumbered_9 (by decide) (fun c_5 => ?_) (fun c_5 => ?_)
      · replace hf := hf.1 c_5
        refine lv_aload_n hx hb dX9_countNumbered_38 rfl (lv_at hl 0 rfl) ?_
        refine lv_iload_n hx hb dX9_countNumbered_39 rfl (lv_at hl 1 rfl) ?_
        refine x_cl (x_rV (As := [.int p1]) (rest := []) (okM X) hC hw (kX9_countByPart l X S_4 _ p1 _ hf) (cwV 1 hts (gV q_485 q_486 q_487 q_5 q_488) rfl rfl rfl (by decide +kernel) ⟨Nat.le_of_ble_eq_true rfl, Nat.le_of_ble_eq_true rfl⟩) (x_recv hK hw (k := 0) (by decide) rfl rfl) rfl hl.1 rfl (Nat.le_of_ble_eq_true rfl) dX9_countNumbered_40) hw hi (fun r_6 S_7 H locs hf hw => ?_)
        exact hQ _ _ _ _ _ _ hf hw dX9_countNumbered_43
      · replace hf := hf.2 c_5
        refine lv_aload_n hx hb dX9_countNumbered_12 rfl (lv_at hl 0 rfl) ?_
        refine x_get (k := 0) (v := .ref (xa X 6)) hx hb hts i_X9 hown hK hw (by decide) rfl rfl 11 (by decide) lf_37 (fun _ h9 => h9) rfl dX9_countNumbered_13 ?_
        refine lv_iload hx hb dX9_countNumbered_16 (lv_at hl 3 rfl) ?_
        refine lv_iload_n hx hb dX9_countNumbered_18 rfl (lv_at hl 2 rfl) ?_
        refine lv_aload_n hx hb dX9_countNumbered_19 rfl (lv_at hl 0 rfl) ?_
        refine x_get (k := 0) (v := .int (gI S_4 2)) hx hb hts i_X9 hown hK hw (by decide) rfl rfl 2 (by decide) lf_13 (fun _ h9 => h9) rfl dX9_countNumbered_20 ?_
        refine lv_irem hx hb dX9_countNumbered_23 hf.1 ?_
        replace hf := hf.2
        refine x_ist (n := 8) hx hb hK hw (by decide) rfl rfl hf.1 dX9_countNumbered_24 (uM_A6 X S_4 _ _) (fun H locs hw => ?_)
        replace hf := hf.2
        obtain ⟨S_8, eS_8⟩ : ∃ z : gS, z = uA S_4 6 x4_3.toNatClampNeg (x3_2 - x3_2 / (gI S_4 2) * (gI S_4 2)) := ⟨_, rfl⟩
        rw [← eS_8] at hw
        replace hf := hf S_8 eS_8
        refine lv_iload_n hx hb dX9_countNumbered_25 rfl (lv_at hl 2 rfl) ?_
        refine lv_aload_n hx hb dX9_countNumbered_26 rfl (lv_at hl 0 rfl) ?_
        refine x_get (k := 0) (v := .int (gI S_8 2)) hx hb hts i_X9 hown hK hw (by decide) rfl rfl 2 (by decide) lf_13 (fun _ h9 => h9) rfl dX9_countNumbered_27 ?_
        refine lv_idiv hx hb dX9_countNumbered_30 hf.1 ?_
        replace hf := hf.2
        refine lv_topi (fun x3_9 ex3_9 => ?_)
        replace hf := hf x3_9 ex3_9
        refine lv_istore_n (lv' := [(3, .int x3_9), (0, .ref (xa X 0)), (2, .int p1), (4, .int x4_3)]) hx hb dX9_countNumbered_31 rfl hl (by decide) rfl (fun ls hl => ?_)
        obtain ⟨x4_10, ex4_10⟩ : ∃ y : Int32, y = x4_3 + (-1) := ⟨_, rfl⟩
        replace hf := hf x4_10 ex4_10
        refine lv_iinc (v := x4_10) (lv' := [(4, .int x4_10), (3, .int x3_9), (0, .ref (xa X 0)), (2, .int p1)]) hx hb dX9_countNumbered_32 hl (k := 3) rfl (by rw [ex4_10]; rfl) (by decide) rfl (fun ls hl => ?_)
        refine lv_goto (tgt := 7) hx hb dX9_countNumbered_35 (by decide) ?_
        exact ih_7 x3_9 x4_10 S_8 _ _ _ hf hw (lv_sub hl [2, 3, 1, 0] rfl)
  exact w_7 n_7 p0 x4_1 S _ _ _ hf hw (lv_sub hl [2, 4, 1, 0] rfl)
def jX9_countWords_95 (x3_1 : Int32) (x4_2 : Int32) (L_5 : Int32 × Int32 × gS → Prop) (S_8 : gS) (y_9 : Int32) : Prop :=
  ((y_9 = 0 → (∀ x3_11 : Int32, x3_11 = (x3_1 + 0) → (∀ x4_12 : Int32, x4_12 = x4_2 + 1 → L_5 (x3_11, x4_12, S_8)))) ∧ (¬ y_9 = 0 → (∀ x3_13 : Int32, x3_13 = (x3_1 + 1) → (∀ x4_14 : Int32, x4_14 = x4_2 + 1 → L_5 (x3_13, x4_14, S_8)))))
def bX9_countWords_5 (p0 : Int32) (p1 : Int32) (Post : Int32 → gS → Prop) (L_5 : Int32 × Int32 × gS → Prop) (x3_1 : Int32) (x4_2 : Int32) (S_3 : gS) : Prop :=
  (pX9_wordsOf p0 S_3 (fun r_4 => ((r_4 ≤ x4_2 → Post x3_1 S_3) ∧ (¬ r_4 ≤ x4_2 → (pX9_countNumbered x4_2 p0 S_3 (fun r_7 S_8 => ((¬ p1 = 0 → ((¬ p1 = 1 → ((¬ p1 = 2 → (((lg_cmp r_7 0) ≤ 0 → jX9_countWords_95 x3_1 x4_2 L_5 S_8 0) ∧ (¬ (lg_cmp r_7 0) ≤ 0 → jX9_countWords_95 x3_1 x4_2 L_5 S_8 1))) ∧ (p1 = 2 → (((lg_cmp r_7 1) ≤ 0 → jX9_countWords_95 x3_1 x4_2 L_5 S_8 0) ∧ (¬ (lg_cmp r_7 1) ≤ 0 → jX9_countWords_95 x3_1 x4_2 L_5 S_8 1))))) ∧ (p1 = 1 → ((¬ (lg_cmp r_7 1) = 0 → jX9_countWords_95 x3_1 x4_2 L_5 S_8 0) ∧ ((lg_cmp r_7 1) = 0 → jX9_countWords_95 x3_1 x4_2 L_5 S_8 1))))) ∧ (p1 = 0 → ((¬ (lg_cmp r_7 0) = 0 → jX9_countWords_95 x3_1 x4_2 L_5 S_8 0) ∧ ((lg_cmp r_7 0) = 0 → jX9_countWords_95 x3_1 x4_2 L_5 S_8 1))))))))))
def pX9_countWords (p0 : Int32) (p1 : Int32) (S : gS) (Post : Int32 → gS → Prop) : Prop :=
  ∃ n, lp (fun L x => bX9_countWords_5 p0 p1 Post L x.1 x.2.1 x.2.2) n (0, 0, S)
def rX9_countWords : Room := { frames := 5, cells := 0, slots := 0, locals := 126 }
set_option maxHeartbeats 40000000 in
set_option maxRecDepth 100000 in
theorem kX9_countWords (l : Launch) (X : xG) (S : gS) (sz : Nat) (p0 : Int32) (p1 : Int32) (Post : Int32 → gS → Prop) (hf : pX9_countWords p0 p1 S Post) : xMi l yX9_countWords (Cond.code yX9_countWords cX9_countWords 8 (some .int) :: WS) rX9_countWords 133 X (cM X) (eM X) S sz [.ref (xa X 0), .int p0, .int p1] Post := by
  refine xMi.of (cc := cX9_countWords) (maxL := 8) (own := RX9) (by decide) rfl rfl (Nat.le_of_ble_eq_true rfl) ?_
  intro p e s m args below meth c ls Q hC hQ hw hl
  obtain ⟨hx, hb, hml, hown, hts, hE, hi⟩ := id hC
  have hK := hE.1
  have hl : lv_has ls 8 [(0, .ref (xa X 0)), (1, .int p0), (2, .int p1)] := hl
  rw [pX9_countWords] at hf
  refine lv_iconst (v := 0) hx hb dX9_countWords_0 (by decide) ?_
  refine lv_istore_n (lv' := [(3, .int 0), (0, .ref (xa X 0)), (1, .int p0), (2, .int p1)]) hx hb dX9_countWords_1 rfl hl (by decide) rfl (fun ls hl => ?_)
  refine lv_iconst (v := 0) hx hb dX9_countWords_2 (by decide) ?_
  refine lv_istore (lv' := [(4, .int 0), (3, .int 0), (0, .ref (xa X 0)), (1, .int p0), (2, .int p1)]) hx hb dX9_countWords_3 hl (by decide) rfl (fun ls hl => ?_)
  obtain ⟨n_5, hf⟩ := hf
  have w_5 : ∀ (n : Nat) (x3_1 : Int32) (x4_2 : Int32) (S_3 : gS) (H : Heap) (locs : List Loc) (ls : Array Slot), lp (fun L x => bX9_countWords_5 p0 p1 Post L x.1 x.2.1 x.2.2) n (x3_1, x4_2, S_3) → xH 133 X (cM X) (xA 133 X s.heap.size) s.heap S_3 H locs → lv_has ls 8 [(0, .ref (xa X 0)), (1, .int p0), (2, .int p1), (3, .int x3_1), (4, .int x4_2)] → W p l e rX9_countWords s m args below meth c H locs 0 0 Q (F0 m 5 ls []) := by
    intro n
    induction n with
    | zero => intro x3_1 x4_2 S_3 H locs ls hf; exact hf.elim
    | succ n ih_5 =>
      intro x3_1 x4_2 S_3 H locs ls hf hw hl
      replace hf : bX9_countWords_5 p0 p1 Post (lp (fun L x => bX9_countWords_5 p0 p1 Post L x.1 x.2.1 x.2.2) n) x3_1 x4_2 S_3 := hf
      generalize lp (fun L x => bX9_countWords_5 p0 p1 Post L x.1 x.2.1 x.2.2) n = L_5 at hf ih_5
      rw [bX9_countWords_5] at hf
      refine lv_iload hx hb dX9_countWords_5 (lv_at hl 4 rfl) ?_
      refine lv_aload_n hx hb dX9_countWords_7 rfl (lv_at hl 0 rfl) ?_
      refine lv_iload_n hx hb dX9_countWords_8 rfl (lv_at hl 1 rfl) ?_
      refine x_ci (x_rV (As := [.int p0]) (rest := [.int x4_2]) (okM X) hC hw (kX9_wordsOf l X S_3 _ p0 _ hf) (cwV 1 hts (gV q_599 q_600 q_601 q_5 q_602) rfl rfl rfl (by decide +kernel) ⟨Nat.le_of_ble_eq_true rfl, Nat.le_of_ble_eq_true rfl⟩) (x_recv hK hw (k := 0) (by decide) rfl rfl) rfl hl.1 rfl (Nat.le_of_ble_eq_true rfl) dX9_countWords_9) hw hi (fun r_4 S_5 H locs hf hw => ?_)
      obtain ⟨hf, rfl⟩ := hf
      refine lv_icmp_ge (tgt := 116) hx hb dX9_countWords_12 (by decide) (fun c_6 => ?_) (fun c_6 => ?_)
      · replace hf := hf.1 c_6
        refine lv_iload_n hx hb dX9_countWords_116 rfl (lv_at hl 3 rfl) ?_
        exact hQ _ _ _ _ _ _ rfl hf hw dX9_countWords_117
      · replace hf := hf.2 c_6
        refine lv_aload_n hx hb dX9_countWords_15 rfl (lv_at hl 0 rfl) ?_
        refine lv_iload hx hb dX9_countWords_16 (lv_at hl 4 rfl) ?_
        refine lv_iload_n hx hb dX9_countWords_18 rfl (lv_at hl 1 rfl) ?_
        refine x_cl (x_rV (As := [.int x4_2, .int p0]) (rest := []) (okM X) hC hw (kX9_countNumbered l X S_3 _ x4_2 p0 _ hf) (cwV 2 hts (gV q_603 q_604 q_605 q_5 q_606) rfl rfl rfl (by decide +kernel) ⟨Nat.le_of_ble_eq_true rfl, Nat.le_of_ble_eq_true rfl⟩) (x_recv hK hw (k := 0) (by decide) rfl rfl) rfl hl.1 rfl (Nat.le_of_ble_eq_true rfl) dX9_countWords_19) hw hi (fun r_7 S_8 H locs hf hw => ?_)
        refine lv_lstore (lv' := [(5, .long r_7), (0, .ref (xa X 0)), (1, .int p0), (2, .int p1), (3, .int x3_1), (4, .int x4_2)]) hx hb dX9_countWords_22 hl (by decide) rfl (fun ls hl => ?_)
        refine lv_iload_n hx hb dX9_countWords_24 rfl (lv_at hl 3 rfl) ?_
        have w_95 : ∀ (y_9 : Int32) (H : Heap) (locs : List Loc) (ls : Array Slot), jX9_countWords_95 x3_1 x4_2 L_5 S_8 y_9 → xH 133 X (cM X) (xA 133 X s.heap.size) s.heap S_8 H locs → lv_has ls 8 [(0, .ref (xa X 0)), (1, .int p0), (2, .int p1), (3, .int x3_1), (4, .int x4_2)] → W p l e rX9_countWords s m args below meth c H locs 0 0 Q (F0 m 95 ls [.int y_9]) := by
          intro y_9 H locs ls hf hw hl
          rw [jX9_countWords_95] at hf
          refine lv_istore (lv' := [(7, .int y_9), (0, .ref (xa X 0)), (1, .int p0), (2, .int p1), (3, .int x3_1), (4, .int x4_2)]) hx hb dX9_countWords_95 hl (by decide) rfl (fun ls hl => ?_)
          refine lv_iload_n hx hb dX9_countWords_97 rfl (lv_at hl 4 rfl) ?_
          refine lv_iload hx hb dX9_countWords_98 (lv_at hl 0 rfl) ?_
          refine lv_if_eq (tgt := 107) hx hb dX9_countWords_100 (by decide) (fun c_10 => ?_) (fun c_10 => ?_)
          · replace hf := hf.1 c_10
            refine lv_iconst (v := 0) hx hb dX9_countWords_107 (by decide) ?_
            refine lv_iadd hx hb dX9_countWords_108 ?_
            refine lv_topi (fun x3_11 ex3_11 => ?_)
            replace hf := hf x3_11 ex3_11
            refine lv_istore_n (lv' := [(3, .int x3_11), (7, .int y_9), (0, .ref (xa X 0)), (1, .int p0), (2, .int p1), (4, .int x4_2)]) hx hb dX9_countWords_109 rfl hl (by decide) rfl (fun ls hl => ?_)
            obtain ⟨x4_12, ex4_12⟩ : ∃ y : Int32, y = x4_2 + 1 := ⟨_, rfl⟩
            replace hf := hf x4_12 ex4_12
            refine lv_iinc (v := x4_12) (lv' := [(4, .int x4_12), (3, .int x3_11), (7, .int y_9), (0, .ref (xa X 0)), (1, .int p0), (2, .int p1)]) hx hb dX9_countWords_110 hl (k := 5) rfl (by rw [ex4_12]; rfl) (by decide) rfl (fun ls hl => ?_)
            refine lv_goto (tgt := 5) hx hb dX9_countWords_113 (by decide) ?_
            exact ih_5 x3_11 x4_12 S_8 _ _ _ hf hw (lv_sub hl [3, 4, 5, 1, 0] rfl)
          · replace hf := hf.2 c_10
            refine lv_iconst (v := 1) hx hb dX9_countWords_103 (by decide) ?_
            refine lv_goto (tgt := 108) hx hb dX9_countWords_104 (by decide) ?_
            refine lv_iadd hx hb dX9_countWords_108 ?_
            refine lv_topi (fun x3_13 ex3_13 => ?_)
            replace hf := hf x3_13 ex3_13
            refine lv_istore_n (lv' := [(3, .int x3_13), (7, .int y_9), (0, .ref (xa X 0)), (1, .int p0), (2, .int p1), (4, .int x4_2)]) hx hb dX9_countWords_109 rfl hl (by decide) rfl (fun ls hl => ?_)
            obtain ⟨x4_14, ex4_14⟩ : ∃ y : Int32, y = x4_2 + 1 := ⟨_, rfl⟩
            replace hf := hf x4_14 ex4_14
            refine lv_iinc (v := x4_14) (lv' := [(4, .int x4_14), (3, .int x3_13), (7, .int y_9), (0, .ref (xa X 0)), (1, .int p0), (2, .int p1)]) hx hb dX9_countWords_110 hl (k := 5) rfl (by rw [ex4_14]; rfl) (by decide) rfl (fun ls hl => ?_)
            refine lv_goto (tgt := 5) hx hb dX9_countWords_113 (by decide) ?_
            exact ih_5 x3_13 x4_14 S_8 _ _ _ hf hw (lv_sub hl [3, 4, 5, 1, 0] rfl)
        refine lv_if_ne (tgt := 43) hx hb dX9_countWords_25 (by decide) (fun c_15 => ?_) (fun c_15 => ?_)
        · replace hf := hf.1 c_15
          refine lv_iload_n hx hb dX9_countWords_43 rfl (lv_at hl 3 rfl) ?_
          refine lv_iconst (v := 1) hx hb dX9_countWords_44 (by decide) ?_
          refine lv_icmp_ne (tgt := 63) hx hb dX9_countWords_45 (by decide) (fun c_16 => ?_) (fun c_16 => ?_)
          · replace hf := hf.1 c_16
            refine lv_iload_n hx hb dX9_countWords_63 rfl (lv_at hl 3 rfl) ?_
            refine lv_iconst (v := 2) hx hb dX9_countWords_64 (by decide) ?_
            refine lv_icmp_ne (tgt := 83) hx hb dX9_countWords_65 (by decide) (fun c_17 => ?_) (fun c_17 => ?_)
            · replace hf := hf.1 c_17
              refine lv_lload hx hb dX9_countWords_83 (lv_at hl 0 rfl) ?_
              refine lv_lconst (v := 0) hx hb dX9_countWords_85 (by decide) ?_
              refine W.lcmp hx hb dX9_countWords_86 ?_
              refine lv_if_le (tgt := 94) hx hb dX9_countWords_87 (by decide) (fun c_18 => ?_) (fun c_18 => ?_)
              · replace hf := hf.1 c_18
                refine lv_iconst (v := 0) hx hb dX9_countWords_94 (by decide) ?_
                exact w_95 0 _ _ _ hf hw (lv_sub hl [1, 2, 3, 4, 5] rfl)
              · replace hf := hf.2 c_18
                refine lv_iconst (v := 1) hx hb dX9_countWords_90 (by decide) ?_
                refine lv_goto (tgt := 95) hx hb dX9_countWords_91 (by decide) ?_
                exact w_95 1 _ _ _ hf hw (lv_sub hl [1, 2, 3, 4, 5] rfl)
            · replace hf := hf.2 c_17
              refine lv_lload hx hb dX9_countWords_68 (lv_at hl 0 rfl) ?_
              refine lv_lconst (v := 1) hx hb dX9_countWords_70 (by decide) ?_
              refine W.lcmp hx hb dX9_countWords_71 ?_
              refine lv_if_le (tgt := 79) hx hb dX9_countWords_72 (by decide) (fun c_19 => ?_) (fun c_19 => ?_)
              · replace hf := hf.1 c_19
                refine lv_iconst (v := 0) hx hb dX9_countWords_79 (by decide) ?_
                refine lv_goto (tgt := 95) hx hb dX9_countWords_80 (by decide) ?_
                exact w_95 0 _ _ _ hf hw (lv_sub hl [1, 2, 3, 4, 5] rfl)
              · replace hf := hf.2 c_19
                refine lv_iconst (v := 1) hx hb dX9_countWords_75 (by decide) ?_
                refine lv_goto (tgt := 95) hx hb dX9_countWords_76 (by decide) ?_
                exact w_95 1 _ _ _ hf hw (lv_sub hl [1, 2, 3, 4, 5] rfl)
          · replace hf := hf.2 c_16
            refine lv_lload hx hb dX9_countWords_48 (lv_at hl 0 rfl) ?_
            refine lv_lconst (v := 1) hx hb dX9_countWords_50 (by decide) ?_
            refine W.lcmp hx hb dX9_countWords_51 ?_
            refine lv_if_ne (tgt := 59) hx hb dX9_countWords_52 (by decide) (fun c_20 => ?_) (fun c_20 => ?_)
            · replace hf := hf.1 c_20
              refine lv_iconst (v := 0) hx hb dX9_countWords_59 (by decide) ?_
              refine lv_goto (tgt := 95) hx hb dX9_countWords_60 (by decide) ?_
              exact w_95 0 _ _ _ hf hw (lv_sub hl [1, 2, 3, 4, 5] rfl)
            · replace hf := hf.2 c_20
              refine lv_iconst (v := 1) hx hb dX9_countWords_55 (by decide) ?_
              refine lv_goto (tgt := 95) hx hb dX9_countWords_56 (by decide) ?_
              exact w_95 1 _ _ _ hf hw (lv_sub hl [1, 2, 3, 4, 5] rfl)
        · replace hf := hf.2 c_15
          refine lv_lload hx hb dX9_countWords_28 (lv_at hl 0 rfl) ?_
          refine lv_lconst (v := 0) hx hb dX9_countWords_30 (by decide) ?_
          refine W.lcmp hx hb dX9_countWords_31 ?_
          refine lv_if_ne (tgt := 39) hx hb dX9_countWords_32 (by decide) (fun c_21 => ?_) (fun c_21 => ?_)
          · replace hf := hf.1 c_21
            refine lv_iconst (v := 0) hx hb dX9_countWords_39 (by decide) ?_
            refine lv_goto (tgt := 95) hx hb dX9_countWords_40 (by decide) ?_
            exact w_95 0 _ _ _ hf hw (lv_sub hl [1, 2, 3, 4, 5] rfl)
          · replace hf := hf.2 c_21
            refine lv_iconst (v := 1) hx hb dX9_countWords_35 (by decide) ?_
            refine lv_goto (tgt := 95) hx hb dX9_countWords_36 (by decide) ?_
            exact w_95 1 _ _ _ hf hw (lv_sub hl [1, 2, 3, 4, 5] rfl)
  exact w_5 n_5 0 0 S _ _ _ hf hw (lv_sub hl [2, 3, 4, 1, 0] rfl)
def jX9_wordsOfLength_18 (p0 : Int32) (p1 : Int32) (S : gS) (Post : Int32 → gS → Prop) : Prop :=
  (pX9_fails 1 1 S (fun r_3 S_4 => ((r_3 = 0 → (pX9_countWords p0 p1 S_4 (fun r_6 S_7 => Post r_6 S_7))) ∧ (¬ r_3 = 0 → Post 0 S_4))))
def pX9_wordsOfLength (p0 : Int32) (p1 : Int32) (S : gS) (Post : Int32 → gS → Prop) : Prop :=
  (pX9_isListed p0 S (fun r_1 => ((r_1 = 0 → jX9_wordsOfLength_18 p0 p1 S Post) ∧ (¬ r_1 = 0 → (pX9_isBetween p1 0 3 S (fun r_9 => ((¬ r_9 = 0 → (pX9_fails 1 0 S (fun r_12 S_13 => ((r_12 = 0 → (pX9_countWords p0 p1 S_13 (fun r_15 S_16 => Post r_15 S_16))) ∧ (¬ r_12 = 0 → Post 0 S_13))))) ∧ (r_9 = 0 → jX9_wordsOfLength_18 p0 p1 S Post))))))))
def rX9_wordsOfLength : Room := { frames := 6, cells := 0, slots := 0, locals := 153 }
set_option maxHeartbeats 40000000 in
set_option maxRecDepth 100000 in
theorem kX9_wordsOfLength (l : Launch) (X : xG) (S : gS) (sz : Nat) (p0 : Int32) (p1 : Int32) (Post : Int32 → gS → Prop) (hf : pX9_wordsOfLength p0 p1 S Post) : xMi l yX9_wordsOfLength (Cond.code yX9_wordsOfLength cX9_wordsOfLength 3 (some .int) :: WS) rX9_wordsOfLength 133 X (cM X) (eM X) S sz [.ref (xa X 0), .int p0, .int p1] Post := by
  refine xMi.of (cc := cX9_wordsOfLength) (maxL := 3) (own := RX9) (by decide) rfl rfl (Nat.le_of_ble_eq_true rfl) ?_
  intro p e s m args below meth c ls Q hC hQ hw hl
  obtain ⟨hx, hb, hml, hown, hts, hE, hi⟩ := id hC
  have hK := hE.1
  have hl : lv_has ls 3 [(0, .ref (xa X 0)), (1, .int p0), (2, .int p1)] := hl
  rw [pX9_wordsOfLength] at hf
  refine lv_aload_n hx hb dX9_wordsOfLength_0 rfl (lv_at hl 0 rfl) ?_
  refine lv_iconst (v := 1) hx hb dX9_wordsOfLength_1 (by decide) ?_
  refine lv_iload_n hx hb dX9_wordsOfLength_2 rfl (lv_at hl 1 rfl) ?_
  refine x_ci (x_rS (As := [.int p0]) (rest := [.int 1, .ref (xa X 0)]) (okM X) hC hw (kX9_isListed l X S _ p0 _ hf) (cwS 1 hts (gSt q_592 q_593 q_5 q_594) rfl rfl rfl (by decide +kernel) ⟨Nat.le_of_ble_eq_true rfl, Nat.le_of_ble_eq_true rfl⟩) rfl hl.1 rfl (Nat.le_of_ble_eq_true rfl) dX9_wordsOfLength_3) hw hi (fun r_1 S_2 H locs hf hw => ?_)
  obtain ⟨hf, rfl⟩ := hf
  have w_18 : ∀ (H : Heap) (locs : List Loc) (ls : Array Slot), jX9_wordsOfLength_18 p0 p1 S Post → xH 133 X (cM X) (xA 133 X s.heap.size) s.heap S H locs → lv_has ls 3 [(0, .ref (xa X 0)), (1, .int p0), (2, .int p1)] → W p l e rX9_wordsOfLength s m args below meth c H locs 0 0 Q (F0 m 18 ls [.int 1, .ref (xa X 0)]) := by
    intro H locs ls hf hw hl
    rw [jX9_wordsOfLength_18] at hf
    refine lv_iconst (v := 1) hx hb dX9_wordsOfLength_18 (by decide) ?_
    refine lv_goto (tgt := 23) hx hb dX9_wordsOfLength_19 (by decide) ?_
    refine x_ci (x_rV (As := [.int 1, .int 1]) (rest := []) (okM X) hC hw (kX9_fails l X S _ 1 1 _ hf) (cwV 2 hts (gV q_163 q_164 q_165 q_5 q_166) rfl rfl rfl (by decide +kernel) ⟨Nat.le_of_ble_eq_true rfl, Nat.le_of_ble_eq_true rfl⟩) (x_recv hK hw (k := 0) (by decide) rfl rfl) rfl hl.1 rfl (Nat.le_of_ble_eq_true rfl) dX9_wordsOfLength_23) hw hi (fun r_3 S_4 H locs hf hw => ?_)
    refine lv_if_eq (tgt := 33) hx hb dX9_wordsOfLength_26 (by decide) (fun c_5 => ?_) (fun c_5 => ?_)
    · replace hf := hf.1 c_5
      refine lv_aload_n hx hb dX9_wordsOfLength_33 rfl (lv_at hl 0 rfl) ?_
      refine lv_iload_n hx hb dX9_wordsOfLength_34 rfl (lv_at hl 1 rfl) ?_
      refine lv_iload_n hx hb dX9_wordsOfLength_35 rfl (lv_at hl 2 rfl) ?_
      refine x_ci (x_rV (As := [.int p0, .int p1]) (rest := []) (okM X) hC hw (kX9_countWords l X S_4 _ p0 p1 _ hf) (cwV 2 hts (gV q_595 q_596 q_597 q_5 q_598) rfl rfl rfl (by decide +kernel) ⟨Nat.le_of_ble_eq_true rfl, Nat.le_of_ble_eq_true rfl⟩) (x_recv hK hw (k := 0) (by decide) rfl rfl) rfl hl.1 rfl (Nat.le_of_ble_eq_true rfl) dX9_wordsOfLength_36) hw hi (fun r_6 S_7 H locs hf hw => ?_)
      exact hQ _ _ _ _ _ _ rfl hf hw dX9_wordsOfLength_39
    · replace hf := hf.2 c_5
      refine lv_iconst (v := 0) hx hb dX9_wordsOfLength_29 (by decide) ?_
      refine lv_goto (tgt := 39) hx hb dX9_wordsOfLength_30 (by decide) ?_
      exact hQ _ _ _ _ _ _ rfl hf hw dX9_wordsOfLength_39
  refine lv_if_eq (tgt := 18) hx hb dX9_wordsOfLength_6 (by decide) (fun c_8 => ?_) (fun c_8 => ?_)
  · replace hf := hf.1 c_8
    exact w_18  _ _ _ hf hw (lv_sub hl [0, 1, 2] rfl)
  · replace hf := hf.2 c_8
    refine lv_iload_n hx hb dX9_wordsOfLength_9 rfl (lv_at hl 2 rfl) ?_
    refine lv_iconst (v := 0) hx hb dX9_wordsOfLength_10 (by decide) ?_
    refine lv_iconst (v := 3) hx hb dX9_wordsOfLength_11 (by decide) ?_
    refine x_ci (x_rS (As := [.int p1, .int 0, .int 3]) (rest := [.int 1, .ref (xa X 0)]) (okM X) hC hw (kX9_isBetween l X S _ p1 0 3 _ hf) (cwS 3 hts (gSt q_160 q_161 q_5 q_162) rfl rfl rfl (by decide +kernel) ⟨Nat.le_of_ble_eq_true rfl, Nat.le_of_ble_eq_true rfl⟩) rfl hl.1 rfl (Nat.le_of_ble_eq_true rfl) dX9_wordsOfLength_12) hw hi (fun r_9 S_10 H locs hf hw => ?_)
    obtain ⟨hf, rfl⟩ := hf
    refine lv_if_ne (tgt := 22) hx hb dX9_wordsOfLength_15 (by decide) (fun c_11 => ?_) (fun c_11 => ?_)
    · replace hf := hf.1 c_11
      refine lv_iconst (v := 0) hx hb dX9_wordsOfLength_22 (by decide) ?_
      refine x_ci (x_rV (As := [.int 1, .int 0]) (rest := []) (okM X) hC hw (kX9_fails l X S _ 1 0 _ hf) (cwV 2 hts (gV q_163 q_164 q_165 q_5 q_166) rfl rfl rfl (by decide +kernel) ⟨Nat.le_of_ble_eq_true rfl, Nat.le_of_ble_eq_true rfl⟩) (x_recv hK hw (k := 0) (by decide) rfl rfl) rfl hl.1 rfl (Nat.le_of_ble_eq_true rfl) dX9_wordsOfLength_23) hw hi (fun r_12 S_13 H locs hf hw => ?_)
      refine lv_if_eq (tgt := 33) hx hb dX9_wordsOfLength_26 (by decide) (fun c_14 => ?_) (fun c_14 => ?_)
      · replace hf := hf.1 c_14
        refine lv_aload_n hx hb dX9_wordsOfLength_33 rfl (lv_at hl 0 rfl) ?_
        refine lv_iload_n hx hb dX9_wordsOfLength_34 rfl (lv_at hl 1 rfl) ?_
        refine lv_iload_n hx hb dX9_wordsOfLength_35 rfl (lv_at hl 2 rfl) ?_
        refine x_ci (x_rV (As := [.int p0, .int p1]) (rest := []) (okM X) hC hw (kX9_countWords l X S_13 _ p0 p1 _ hf) (cwV 2 hts (gV q_595 q_596 q_597 q_5 q_598) rfl rfl rfl (by decide +kernel) ⟨Nat.le_of_ble_eq_true rfl, Nat.le_of_ble_eq_true rfl⟩) (x_recv hK hw (k := 0) (by decide) rfl rfl) rfl hl.1 rfl (Nat.le_of_ble_eq_true rfl) dX9_wordsOfLength_36) hw hi (fun r_15 S_16 H locs hf hw => ?_)
        exact hQ _ _ _ _ _ _ rfl hf hw dX9_wordsOfLength_39
      · replace hf := hf.2 c_14
        refine lv_iconst (v := 0) hx hb dX9_wordsOfLength_29 (by decide) ?_
        refine lv_goto (tgt := 39) hx hb dX9_wordsOfLength_30 (by decide) ?_
        exact hQ _ _ _ _ _ _ rfl hf hw dX9_wordsOfLength_39
    · replace hf := hf.2 c_11
      exact w_18  _ _ _ hf hw (lv_sub hl [0, 1, 2] rfl)
def bX9_take_2 (p0 : Int32) (Post : gS → Prop) (L_2 : Int32 × gS → Prop) (x2_1 : Int32) (S_2 : gS) : Prop :=
  ((p0 ≤ x2_1 → (∀ S_4 : gS, S_4 = uI S_2 5 p0 → (∀ S_5 : gS, S_5 = uI S_4 6 0 → Post S_5))) ∧ (¬ p0 ≤ x2_1 → (vp_in x2_1 8 ∧ (vp_in x2_1 8 ∧ (∀ S_6 : gS, S_6 = uA S_2 2 x2_1.toNatClampNeg (gA S_2 6 x2_1.toNatClampNeg) → (∀ x2_7 : Int32, x2_7 = x2_1 + 1 → L_2 (x2_7, S_6)))))))
def pX9_take (p0 : Int32) (S : gS) (Post : gS → Prop) : Prop :=
  ∃ n, lp (fun L x => bX9_take_2 p0 Post L x.1 x.2) n (0, S)
def rX9_take : Room := { frames := 0, cells := 0, slots := 0, locals := 0 }
set_option maxHeartbeats 40000000 in
set_option maxRecDepth 100000 in
theorem kX9_take (l : Launch) (X : xG) (S : gS) (sz : Nat) (p0 : Int32) (Post : gS → Prop) (hf : pX9_take p0 S Post) : xMv l yX9_take (Cond.code yX9_take cX9_take 3 none :: WS) rX9_take 133 X (cM X) (eM X) S sz [.ref (xa X 0), .int p0] Post := by
  refine xMv.of (cc := cX9_take) (maxL := 3) (own := RX9) (by decide) rfl rfl (Nat.le_of_ble_eq_true rfl) ?_
  intro p e s m args below meth c ls Q hC hQ hw hl
  obtain ⟨hx, hb, hml, hown, hts, hE, hi⟩ := id hC
  have hK := hE.1
  have hl : lv_has ls 3 [(0, .ref (xa X 0)), (1, .int p0)] := hl
  have lf_86 : (Cond.fieldLink RX9 86 "GrammarAmbiguityModel" "length" "I").before args s = true := hts _ q_158
  have lf_89 : (Cond.fieldLink RX9 89 "GrammarAmbiguityModel" "nodes" "I").before args s = true := hts _ q_159
  have lf_21 : (Cond.fieldLink RX9 21 "GrammarAmbiguityModel" "word" "[I").before args s = true := hts _ q_111
  have lf_37 : (Cond.fieldLink RX9 37 "GrammarAmbiguityModel" "read" "[I").before args s = true := hts _ q_116
  rw [pX9_take] at hf
  refine lv_iconst (v := 0) hx hb dX9_take_0 (by decide) ?_
  refine lv_istore_n (lv' := [(2, .int 0), (0, .ref (xa X 0)), (1, .int p0)]) hx hb dX9_take_1 rfl hl (by decide) rfl (fun ls hl => ?_)
  obtain ⟨n_2, hf⟩ := hf
  have w_2 : ∀ (n : Nat) (x2_1 : Int32) (S_2 : gS) (H : Heap) (locs : List Loc) (ls : Array Slot), lp (fun L x => bX9_take_2 p0 Post L x.1 x.2) n (x2_1, S_2) → xH 133 X (cM X) (xA 133 X s.heap.size) s.heap S_2 H locs → lv_has ls 3 [(0, .ref (xa X 0)), (1, .int p0), (2, .int x2_1)] → W p l e rX9_take s m args below meth c H locs 0 0 Q (F0 m 2 ls []) := by
    intro n
    induction n with
    | zero => intro x2_1 S_2 H locs ls hf; exact hf.elim
    | succ n ih_2 =>
      intro x2_1 S_2 H locs ls hf hw hl
      replace hf : bX9_take_2 p0 Post (lp (fun L x => bX9_take_2 p0 Post L x.1 x.2) n) x2_1 S_2 := hf
      generalize lp (fun L x => bX9_take_2 p0 Post L x.1 x.2) n = L_2 at hf ih_2
      rw [bX9_take_2] at hf
      refine lv_iload_n hx hb dX9_take_2 rfl (lv_at hl 2 rfl) ?_
      refine lv_iload_n hx hb dX9_take_3 rfl (lv_at hl 1 rfl) ?_
      refine lv_icmp_ge (tgt := 25) hx hb dX9_take_4 (by decide) (fun c_3 => ?_) (fun c_3 => ?_)
      · replace hf := hf.1 c_3
        refine lv_aload_n hx hb dX9_take_25 rfl (lv_at hl 0 rfl) ?_
        refine lv_iload_n hx hb dX9_take_26 rfl (lv_at hl 1 rfl) ?_
        refine x_put (k := 0) (S' := uI S_2 5 p0) (ty := .int) hx hb hts i_X9 tyX9_ok nmX9 hown hK hw (by decide) rfl rfl 7 (by decide) lf_86 (fun _ h9 => h9) rfl (by decide +kernel) rfl rfl (Nat.le_of_ble_eq_true rfl) dX9_take_27 (uM_I5 X S_2 _) (fun H locs hw => ?_)
        obtain ⟨S_4, eS_4⟩ : ∃ z : gS, z = uI S_2 5 p0 := ⟨_, rfl⟩
        rw [← eS_4] at hw
        replace hf := hf S_4 eS_4
        refine lv_aload_n hx hb dX9_take_30 rfl (lv_at hl 0 rfl) ?_
        refine lv_iconst (v := 0) hx hb dX9_take_31 (by decide) ?_
        refine x_put (k := 0) (S' := uI S_4 6 0) (ty := .int) hx hb hts i_X9 tyX9_ok nmX9 hown hK hw (by decide) rfl rfl 13 (by decide) lf_89 (fun _ h9 => h9) rfl (by decide +kernel) rfl rfl (Nat.le_of_ble_eq_true rfl) dX9_take_32 (uM_I6 X S_4 _) (fun H locs hw => ?_)
        obtain ⟨S_5, eS_5⟩ : ∃ z : gS, z = uI S_4 6 0 := ⟨_, rfl⟩
        rw [← eS_5] at hw
        replace hf := hf S_5 eS_5
        exact hQ _ _ _ _ _ hf hw dX9_take_35
      · replace hf := hf.2 c_3
        refine lv_aload_n hx hb dX9_take_7 rfl (lv_at hl 0 rfl) ?_
        refine x_get (k := 0) (v := .ref (xa X 2)) hx hb hts i_X9 hown hK hw (by decide) rfl rfl 6 (by decide) lf_21 (fun _ h9 => h9) rfl dX9_take_8 ?_
        refine lv_iload_n hx hb dX9_take_11 rfl (lv_at hl 2 rfl) ?_
        refine lv_aload_n hx hb dX9_take_12 rfl (lv_at hl 0 rfl) ?_
        refine x_get (k := 0) (v := .ref (xa X 6)) hx hb hts i_X9 hown hK hw (by decide) rfl rfl 11 (by decide) lf_37 (fun _ h9 => h9) rfl dX9_take_13 ?_
        refine lv_iload_n hx hb dX9_take_16 rfl (lv_at hl 2 rfl) ?_
        refine x_ild (n := 8) hx hb hK hw (by decide) rfl rfl hf.1 dX9_take_17 ?_
        replace hf := hf.2
        refine x_ist (n := 8) hx hb hK hw (by decide) rfl rfl hf.1 dX9_take_18 (uM_A2 X S_2 _ _) (fun H locs hw => ?_)
        replace hf := hf.2
        obtain ⟨S_6, eS_6⟩ : ∃ z : gS, z = uA S_2 2 x2_1.toNatClampNeg (gA S_2 6 x2_1.toNatClampNeg) := ⟨_, rfl⟩
        rw [← eS_6] at hw
        replace hf := hf S_6 eS_6
        obtain ⟨x2_7, ex2_7⟩ : ∃ y : Int32, y = x2_1 + 1 := ⟨_, rfl⟩
        replace hf := hf x2_7 ex2_7
        refine lv_iinc (v := x2_7) (lv' := [(2, .int x2_7), (0, .ref (xa X 0)), (1, .int p0)]) hx hb dX9_take_19 hl (k := 2) rfl (by rw [ex2_7]; rfl) (by decide) rfl (fun ls hl => ?_)
        refine lv_goto (tgt := 2) hx hb dX9_take_22 (by decide) ?_
        exact ih_2 x2_7 S_6 _ _ _ hf hw (lv_sub hl [1, 2, 0] rfl)
  exact w_2 n_2 0 S _ _ _ hf hw (lv_sub hl [1, 2, 0] rfl)
def bX9_firstAmbiguous_31 (Post : Int32 → gS → Prop) (x2_7 : Int32) (L_24 : Int32 × gS → Prop) (L_31 : Int32 × gS → Prop) (x3_11 : Int32) (S_12 : gS) : Prop :=
  (pX9_wordsOf x2_7 S_12 (fun r_13 => ((r_13 ≤ x3_11 → (∀ x2_16 : Int32, x2_16 = x2_7 + 1 → L_24 (x2_16, S_12))) ∧ (¬ r_13 ≤ x3_11 → (pX9_countNumbered x3_11 x2_7 S_12 (fun r_17 S_18 => (((lg_cmp r_17 1) ≤ 0 → (∀ x3_20 : Int32, x3_20 = x3_11 + 1 → L_31 (x3_20, S_18))) ∧ (¬ (lg_cmp r_17 1) ≤ 0 → (pX9_take x2_7 S_18 (fun S_22 => Post x2_7 S_22))))))))))
def bX9_firstAmbiguous_24 (p0 : Int32) (Post : Int32 → gS → Prop) (L_24 : Int32 × gS → Prop) (x2_7 : Int32) (S_8 : gS) : Prop :=
  ((p0 < x2_7 → (∀ S_10 : gS, S_10 = uI S_8 0 2 → Post 0 S_10)) ∧ (¬ p0 < x2_7 → ∃ n, lp (fun L x => bX9_firstAmbiguous_31 Post x2_7 L_24 L x.1 x.2) n (0, S_8)))
def jX9_firstAmbiguous_14 (p0 : Int32) (S : gS) (Post : Int32 → gS → Prop) (y_3 : Int32) : Prop :=
  (pX9_fails 1 y_3 S (fun r_4 S_5 => ((r_4 = 0 → ∃ n, lp (fun L x => bX9_firstAmbiguous_24 p0 Post L x.1 x.2) n (1, S_5)) ∧ (¬ r_4 = 0 → Post 0 S_5))))
def pX9_firstAmbiguous (p0 : Int32) (S : gS) (Post : Int32 → gS → Prop) : Prop :=
  (pX9_isListed p0 S (fun r_1 => ((¬ r_1 = 0 → jX9_firstAmbiguous_14 p0 S Post 0) ∧ (r_1 = 0 → jX9_firstAmbiguous_14 p0 S Post 1))))
def rX9_firstAmbiguous : Room := { frames := 5, cells := 0, slots := 0, locals := 126 }
set_option maxHeartbeats 40000000 in
set_option maxRecDepth 100000 in
theorem kX9_firstAmbiguous (l : Launch) (X : xG) (S : gS) (sz : Nat) (p0 : Int32) (Post : Int32 → gS → Prop) (hf : pX9_firstAmbiguous p0 S Post) : xMi l yX9_firstAmbiguous (Cond.code yX9_firstAmbiguous cX9_firstAmbiguous 4 (some .int) :: WS) rX9_firstAmbiguous 133 X (cM X) (eM X) S sz [.ref (xa X 0), .int p0] Post := by
  refine xMi.of (cc := cX9_firstAmbiguous) (maxL := 4) (own := RX9) (by decide) rfl rfl (Nat.le_of_ble_eq_true rfl) ?_
  intro p e s m args below meth c ls Q hC hQ hw hl
  obtain ⟨hx, hb, hml, hown, hts, hE, hi⟩ := id hC
  have hK := hE.1
  have hl : lv_has ls 4 [(0, .ref (xa X 0)), (1, .int p0)] := hl
  have lf_69 : (Cond.fieldLink RX9 69 "GrammarAmbiguityModel" "thrown" "I").before args s = true := hts _ q_167
  rw [pX9_firstAmbiguous] at hf
  refine lv_aload_n hx hb dX9_firstAmbiguous_0 rfl (lv_at hl 0 rfl) ?_
  refine lv_iconst (v := 1) hx hb dX9_firstAmbiguous_1 (by decide) ?_
  refine lv_iload_n hx hb dX9_firstAmbiguous_2 rfl (lv_at hl 1 rfl) ?_
  refine x_ci (x_rS (As := [.int p0]) (rest := [.int 1, .ref (xa X 0)]) (okM X) hC hw (kX9_isListed l X S _ p0 _ hf) (cwS 1 hts (gSt q_592 q_593 q_5 q_594) rfl rfl rfl (by decide +kernel) ⟨Nat.le_of_ble_eq_true rfl, Nat.le_of_ble_eq_true rfl⟩) rfl hl.1 rfl (Nat.le_of_ble_eq_true rfl) dX9_firstAmbiguous_3) hw hi (fun r_1 S_2 H locs hf hw => ?_)
  obtain ⟨hf, rfl⟩ := hf
  have w_14 : ∀ (y_3 : Int32) (H : Heap) (locs : List Loc) (ls : Array Slot), jX9_firstAmbiguous_14 p0 S Post y_3 → xH 133 X (cM X) (xA 133 X s.heap.size) s.heap S H locs → lv_has ls 4 [(0, .ref (xa X 0)), (1, .int p0)] → W p l e rX9_firstAmbiguous s m args below meth c H locs 0 0 Q (F0 m 14 ls [.int y_3, .int 1, .ref (xa X 0)]) := by
    intro y_3 H locs ls hf hw hl
    rw [jX9_firstAmbiguous_14] at hf
    refine x_ci (x_rV (As := [.int 1, .int y_3]) (rest := []) (okM X) hC hw (kX9_fails l X S _ 1 y_3 _ hf) (cwV 2 hts (gV q_163 q_164 q_165 q_5 q_166) rfl rfl rfl (by decide +kernel) ⟨Nat.le_of_ble_eq_true rfl, Nat.le_of_ble_eq_true rfl⟩) (x_recv hK hw (k := 0) (by decide) rfl rfl) rfl hl.1 rfl (Nat.le_of_ble_eq_true rfl) dX9_firstAmbiguous_14) hw hi (fun r_4 S_5 H locs hf hw => ?_)
    refine lv_if_eq (tgt := 22) hx hb dX9_firstAmbiguous_17 (by decide) (fun c_6 => ?_) (fun c_6 => ?_)
    · replace hf := hf.1 c_6
      refine lv_iconst (v := 1) hx hb dX9_firstAmbiguous_22 (by decide) ?_
      refine lv_istore_n (lv' := [(2, .int 1), (0, .ref (xa X 0)), (1, .int p0)]) hx hb dX9_firstAmbiguous_23 rfl hl (by decide) rfl (fun ls hl => ?_)
      obtain ⟨n_24, hf⟩ := hf
      have w_24 : ∀ (n : Nat) (x2_7 : Int32) (S_8 : gS) (H : Heap) (locs : List Loc) (ls : Array Slot), lp (fun L x => bX9_firstAmbiguous_24 p0 Post L x.1 x.2) n (x2_7, S_8) → xH 133 X (cM X) (xA 133 X s.heap.size) s.heap S_8 H locs → lv_has ls 4 [(0, .ref (xa X 0)), (1, .int p0), (2, .int x2_7)] → W p l e rX9_firstAmbiguous s m args below meth c H locs 0 0 Q (F0 m 24 ls []) := by
        intro n
        induction n with
        | zero => intro x2_7 S_8 H locs ls hf; exact hf.elim
        | succ n ih_24 =>
          intro x2_7 S_8 H locs ls hf hw hl
          replace hf : bX9_firstAmbiguous_24 p0 Post (lp (fun L x => bX9_firstAmbiguous_24 p0 Post L x.1 x.2) n) x2_7 S_8 := hf
          generalize lp (fun L x => bX9_firstAmbiguous_24 p0 Post L x.1 x.2) n = L_24 at hf ih_24
          rw [bX9_firstAmbiguous_24] at hf
          refine lv_iload_n hx hb dX9_firstAmbiguous_24 rfl (lv_at hl 2 rfl) ?_
          refine lv_iload_n hx hb dX9_firstAmbiguous_25 rfl (lv_at hl 1 rfl) ?_
          refine lv_icmp_gt (tgt := 70) hx hb dX9_firstAmbiguous_26 (by decide) (fun c_9 => ?_) (fun c_9 => ?_)
          · replace hf := hf.1 c_9
            refine lv_aload_n hx hb dX9_firstAmbiguous_70 rfl (lv_at hl 0 rfl) ?_
            refine lv_iconst (v := 2) hx hb dX9_firstAmbiguous_71 (by decide) ?_
            refine x_put (k := 0) (S' := uI S_8 0 2) (ty := .int) hx hb hts i_X9 tyX9_ok nmX9 hown hK hw (by decide) rfl rfl 0 (by decide) lf_69 (fun _ h9 => h9) rfl (by decide +kernel) rfl rfl (Nat.le_of_ble_eq_true rfl) dX9_firstAmbiguous_72 (uM_I0 X S_8 _) (fun H locs hw => ?_)
            obtain ⟨S_10, eS_10⟩ : ∃ z : gS, z = uI S_8 0 2 := ⟨_, rfl⟩
            rw [← eS_10] at hw
            replace hf := hf S_10 eS_10
            refine lv_iconst (v := 0) hx hb dX9_firstAmbiguous_75 (by decide) ?_
            exact hQ _ _ _ _ _ _ rfl hf hw dX9_firstAmbiguous_76
          · replace hf := hf.2 c_9
            refine lv_iconst (v := 0) hx hb dX9_firstAmbiguous_29 (by decide) ?_
            refine lv_istore_n (lv' := [(3, .int 0), (0, .ref (xa X 0)), (1, .int p0), (2, .int x2_7)]) hx hb dX9_firstAmbiguous_30 rfl hl (by decide) rfl (fun ls hl => ?_)
            obtain ⟨n_31, hf⟩ := hf
            have w_31 : ∀ (n : Nat) (x3_11 : Int32) (S_12 : gS) (H : Heap) (locs : List Loc) (ls : Array Slot), lp (fun L x => bX9_firstAmbiguous_31 Post x2_7 L_24 L x.1 x.2) n (x3_11, S_12) → xH 133 X (cM X) (xA 133 X s.heap.size) s.heap S_12 H locs → lv_has ls 4 [(0, .ref (xa X 0)), (1, .int p0), (2, .int x2_7), (3, .int x3_11)] → W p l e rX9_firstAmbiguous s m args below meth c H locs 0 0 Q (F0 m 31 ls []) := by
              intro n
              induction n with
              | zero => intro x3_11 S_12 H locs ls hf; exact hf.elim
              | succ n ih_31 =>
                intro x3_11 S_12 H locs ls hf hw hl
                replace hf : bX9_firstAmbiguous_31 Post x2_7 L_24 (lp (fun L x => bX9_firstAmbiguous_31 Post x2_7 L_24 L x.1 x.2) n) x3_11 S_12 := hf
                generalize lp (fun L x => bX9_firstAmbiguous_31 Post x2_7 L_24 L x.1 x.2) n = L_31 at hf ih_31
                rw [bX9_firstAmbiguous_31] at hf
                refine lv_iload_n hx hb dX9_firstAmbiguous_31 rfl (lv_at hl 3 rfl) ?_
                refine lv_aload_n hx hb dX9_firstAmbiguous_32 rfl (lv_at hl 0 rfl) ?_
                refine lv_iload_n hx hb dX9_firstAmbiguous_33 rfl (lv_at hl 2 rfl) ?_
                refine x_ci (x_rV (As := [.int x2_7]) (rest := [.int x3_11]) (okM X) hC hw (kX9_wordsOf l X S_12 _ x2_7 _ hf) (cwV 1 hts (gV q_599 q_600 q_601 q_5 q_602) rfl rfl rfl (by decide +kernel) ⟨Nat.le_of_ble_eq_true rfl, Nat.le_of_ble_eq_true rfl⟩) (x_recv hK hw (k := 0) (by decide) rfl rfl) rfl hl.1 rfl (Nat.le_of_ble_eq_true rfl) dX9_firstAmbiguous_34) hw hi (fun r_13 S_14 H locs hf hw => ?_)
                obtain ⟨hf, rfl⟩ := hf
                refine lv_icmp_ge (tgt := 64) hx hb dX9_firstAmbiguous_37 (by decide) (fun c_15 => ?_) (fun c_15 => ?_)
                · replace hf := hf.1 c_15
                  obtain ⟨x2_16, ex2_16⟩ : ∃ y : Int32, y = x2_7 + 1 := ⟨_, rfl⟩
                  replace hf := hf x2_16 ex2_16
                  refine lv_iinc (v := x2_16) (lv' := [(2, .int x2_16), (0, .ref (xa X 0)), (1, .int p0), (3, .int x3_11)]) hx hb dX9_firstAmbiguous_64 hl (k := 2) rfl (by rw [ex2_16]; rfl) (by decide) rfl (fun ls hl => ?_)
                  refine lv_goto (tgt := 24) hx hb dX9_firstAmbiguous_67 (by decide) ?_
                  exact ih_24 x2_16 S_12 _ _ _ hf hw (lv_sub hl [1, 2, 0] rfl)
                · replace hf := hf.2 c_15
                  refine lv_aload_n hx hb dX9_firstAmbiguous_40 rfl (lv_at hl 0 rfl) ?_
                  refine lv_iload_n hx hb dX9_firstAmbiguous_41 rfl (lv_at hl 3 rfl) ?_
                  refine lv_iload_n hx hb dX9_firstAmbiguous_42 rfl (lv_at hl 2 rfl) ?_
                  refine x_cl (x_rV (As := [.int x3_11, .int x2_7]) (rest := []) (okM X) hC hw (kX9_countNumbered l X S_12 _ x3_11 x2_7 _ hf) (cwV 2 hts (gV q_603 q_604 q_605 q_5 q_606) rfl rfl rfl (by decide +kernel) ⟨Nat.le_of_ble_eq_true rfl, Nat.le_of_ble_eq_true rfl⟩) (x_recv hK hw (k := 0) (by decide) rfl rfl) rfl hl.1 rfl (Nat.le_of_ble_eq_true rfl) dX9_firstAmbiguous_43) hw hi (fun r_17 S_18 H locs hf hw => ?_)
                  refine lv_lconst (v := 1) hx hb dX9_firstAmbiguous_46 (by decide) ?_
                  refine W.lcmp hx hb dX9_firstAmbiguous_47 ?_
                  refine lv_if_le (tgt := 58) hx hb dX9_firstAmbiguous_48 (by decide) (fun c_19 => ?_) (fun c_19 => ?_)
                  · replace hf := hf.1 c_19
                    obtain ⟨x3_20, ex3_20⟩ : ∃ y : Int32, y = x3_11 + 1 := ⟨_, rfl⟩
                    replace hf := hf x3_20 ex3_20
                    refine lv_iinc (v := x3_20) (lv' := [(3, .int x3_20), (0, .ref (xa X 0)), (1, .int p0), (2, .int x2_7)]) hx hb dX9_firstAmbiguous_58 hl (k := 3) rfl (by rw [ex3_20]; rfl) (by decide) rfl (fun ls hl => ?_)
                    refine lv_goto (tgt := 31) hx hb dX9_firstAmbiguous_61 (by decide) ?_
                    exact ih_31 x3_20 S_18 _ _ _ hf hw (lv_sub hl [1, 2, 3, 0] rfl)
                  · replace hf := hf.2 c_19
                    refine lv_aload_n hx hb dX9_firstAmbiguous_51 rfl (lv_at hl 0 rfl) ?_
                    refine lv_iload_n hx hb dX9_firstAmbiguous_52 rfl (lv_at hl 2 rfl) ?_
                    refine x_cv (x_rV (As := [.int x2_7]) (rest := []) (okM X) hC hw (kX9_take l X S_18 _ x2_7 _ hf) (cwV 1 hts (gV q_654 q_655 q_656 q_5 q_657) rfl rfl rfl (by decide +kernel) ⟨Nat.le_of_ble_eq_true rfl, Nat.le_of_ble_eq_true rfl⟩) (x_recv hK hw (k := 0) (by decide) rfl rfl) rfl hl.1 rfl (Nat.le_of_ble_eq_true rfl) dX9_firstAmbiguous_53) hw hi (fun S_22 H locs hf hw => ?_)
                    refine lv_iload_n hx hb dX9_firstAmbiguous_56 rfl (lv_at hl 2 rfl) ?_
                    exact hQ _ _ _ _ _ _ rfl hf hw dX9_firstAmbiguous_57
            exact w_31 n_31 0 S_8 _ _ _ hf hw (lv_sub hl [1, 2, 3, 0] rfl)
      exact w_24 n_24 1 S_5 _ _ _ hf hw (lv_sub hl [1, 2, 0] rfl)
    · replace hf := hf.2 c_6
      refine lv_iconst (v := 0) hx hb dX9_firstAmbiguous_20 (by decide) ?_
      exact hQ _ _ _ _ _ _ rfl hf hw dX9_firstAmbiguous_21
  refine lv_if_ne (tgt := 13) hx hb dX9_firstAmbiguous_6 (by decide) (fun c_23 => ?_) (fun c_23 => ?_)
  · replace hf := hf.1 c_23
    refine lv_iconst (v := 0) hx hb dX9_firstAmbiguous_13 (by decide) ?_
    exact w_14 0 _ _ _ hf hw (lv_sub hl [0, 1] rfl)
  · replace hf := hf.2 c_23
    refine lv_iconst (v := 1) hx hb dX9_firstAmbiguous_9 (by decide) ?_
    refine lv_goto (tgt := 14) hx hb dX9_firstAmbiguous_10 (by decide) ?_
    exact w_14 1 _ _ _ hf hw (lv_sub hl [0, 1] rfl)
def bX9_wordRank_83 (Post : Int32 → gS → Prop) (x1_13 : Int32) (L_83 : Int32 × Int32 × gS → Prop) (x2_16 : Int32) (x3_17 : Int32) (S_18 : gS) : Prop :=
  ((x1_13 ≤ x3_17 → Post x2_16 S_18) ∧ (¬ x1_13 ≤ x3_17 → (pX9_countNumbered x3_17 (gI S_18 5) S_18 (fun r_20 S_21 => (((lg_cmp r_20 0) ≤ 0 → (∀ x2_23 : Int32, x2_23 = (x2_16 + 0) → (∀ x3_24 : Int32, x3_24 = x3_17 + 1 → L_83 (x2_23, x3_24, S_21)))) ∧ (¬ (lg_cmp r_20 0) ≤ 0 → (∀ x2_25 : Int32, x2_25 = (x2_16 + 1) → (∀ x3_26 : Int32, x3_26 = x3_17 + 1 → L_83 (x2_25, x3_26, S_21)))))))))
def bX9_wordRank_51 (Post : Int32 → gS → Prop) (S_11 : gS) (L_51 : Int32 × Int32 → Prop) (x1_13 : Int32) (x2_14 : Int32) : Prop :=
  (((gI S_11 5) ≤ x2_14 → ∃ n, lp (fun L x => bX9_wordRank_83 Post x1_13 L x.1 x.2.1 x.2.2) n (0, 0, S_11)) ∧ (¬ (gI S_11 5) ≤ x2_14 → (vp_in x2_14 8 ∧ (∀ x1_27 : Int32, x1_27 = (((gI S_11 2) * x1_13) + (gA S_11 2 x2_14.toNatClampNeg)) → (∀ x2_28 : Int32, x2_28 = x2_14 + 1 → L_51 (x1_27, x2_28))))))
def jX9_wordRank_39 (Post : Int32 → gS → Prop) (S_8 : gS) (y_9 : Int32) : Prop :=
  (pX9_fails 2 y_9 S_8 (fun r_10 S_11 => ((r_10 = 0 → ∃ n, lp (fun L x => bX9_wordRank_51 Post S_11 L x.1 x.2) n (0, 0)) ∧ (¬ r_10 = 0 → Post 0 S_11))))
def jX9_wordRank_17 (S : gS) (Post : Int32 → gS → Prop) (y_3 : Int32) : Prop :=
  (pX9_fails 1 y_3 S (fun r_4 S_5 => ((¬ r_4 = 0 → Post 0 S_5) ∧ (r_4 = 0 → (pX9_countCurrent  S_5 (fun r_7 S_8 => ((¬ (lg_cmp r_7 0) = 0 → jX9_wordRank_39 Post S_8 0) ∧ ((lg_cmp r_7 0) = 0 → jX9_wordRank_39 Post S_8 1))))))))
def pX9_wordRank (S : gS) (Post : Int32 → gS → Prop) : Prop :=
  (pX9_isListed (gI S 5) S (fun r_1 => ((¬ r_1 = 0 → jX9_wordRank_17 S Post 0) ∧ (r_1 = 0 → jX9_wordRank_17 S Post 1))))
def rX9_wordRank : Room := { frames := 5, cells := 0, slots := 0, locals := 126 }
set_option maxHeartbeats 40000000 in
set_option maxRecDepth 100000 in
theorem kX9_wordRank (l : Launch) (X : xG) (S : gS) (sz : Nat) (Post : Int32 → gS → Prop) (hf : pX9_wordRank S Post) : xMi l yX9_wordRank (Cond.code yX9_wordRank cX9_wordRank 4 (some .int) :: WS) rX9_wordRank 133 X (cM X) (eM X) S sz [.ref (xa X 0)] Post := by
  refine xMi.of (cc := cX9_wordRank) (maxL := 4) (own := RX9) (by decide) rfl rfl (Nat.le_of_ble_eq_true rfl) ?_
  intro p e s m args below meth c ls Q hC hQ hw hl
  obtain ⟨hx, hb, hml, hown, hts, hE, hi⟩ := id hC
  have hK := hE.1
  have hl : lv_has ls 4 [(0, .ref (xa X 0))] := hl
  have lf_86 : (Cond.fieldLink RX9 86 "GrammarAmbiguityModel" "length" "I").before args s = true := hts _ q_158
  have lf_13 : (Cond.fieldLink RX9 13 "GrammarAmbiguityModel" "terminals" "I").before args s = true := hts _ q_108
  have lf_21 : (Cond.fieldLink RX9 21 "GrammarAmbiguityModel" "word" "[I").before args s = true := hts _ q_111
  rw [pX9_wordRank] at hf
  refine lv_aload_n hx hb dX9_wordRank_0 rfl (lv_at hl 0 rfl) ?_
  refine lv_iconst (v := 1) hx hb dX9_wordRank_1 (by decide) ?_
  refine lv_aload_n hx hb dX9_wordRank_2 rfl (lv_at hl 0 rfl) ?_
  refine x_get (k := 0) (v := .int (gI S 5)) hx hb hts i_X9 hown hK hw (by decide) rfl rfl 7 (by decide) lf_86 (fun _ h9 => h9) rfl dX9_wordRank_3 ?_
  refine x_ci (x_rS (As := [.int (gI S 5)]) (rest := [.int 1, .ref (xa X 0)]) (okM X) hC hw (kX9_isListed l X S _ (gI S 5) _ hf) (cwS 1 hts (gSt q_592 q_593 q_5 q_594) rfl rfl rfl (by decide +kernel) ⟨Nat.le_of_ble_eq_true rfl, Nat.le_of_ble_eq_true rfl⟩) rfl hl.1 rfl (Nat.le_of_ble_eq_true rfl) dX9_wordRank_6) hw hi (fun r_1 S_2 H locs hf hw => ?_)
  obtain ⟨hf, rfl⟩ := hf
  have w_17 : ∀ (y_3 : Int32) (H : Heap) (locs : List Loc) (ls : Array Slot), jX9_wordRank_17 S Post y_3 → xH 133 X (cM X) (xA 133 X s.heap.size) s.heap S H locs → lv_has ls 4 [(0, .ref (xa X 0))] → W p l e rX9_wordRank s m args below meth c H locs 0 0 Q (F0 m 17 ls [.int y_3, .int 1, .ref (xa X 0)]) := by
    intro y_3 H locs ls hf hw hl
    rw [jX9_wordRank_17] at hf
    refine x_ci (x_rV (As := [.int 1, .int y_3]) (rest := []) (okM X) hC hw (kX9_fails l X S _ 1 y_3 _ hf) (cwV 2 hts (gV q_163 q_164 q_165 q_5 q_166) rfl rfl rfl (by decide +kernel) ⟨Nat.le_of_ble_eq_true rfl, Nat.le_of_ble_eq_true rfl⟩) (x_recv hK hw (k := 0) (by decide) rfl rfl) rfl hl.1 rfl (Nat.le_of_ble_eq_true rfl) dX9_wordRank_17) hw hi (fun r_4 S_5 H locs hf hw => ?_)
    refine lv_if_ne (tgt := 45) hx hb dX9_wordRank_20 (by decide) (fun c_6 => ?_) (fun c_6 => ?_)
    · replace hf := hf.1 c_6
      refine lv_iconst (v := 0) hx hb dX9_wordRank_45 (by decide) ?_
      exact hQ _ _ _ _ _ _ rfl hf hw dX9_wordRank_46
    · replace hf := hf.2 c_6
      refine lv_aload_n hx hb dX9_wordRank_23 rfl (lv_at hl 0 rfl) ?_
      refine lv_iconst (v := 2) hx hb dX9_wordRank_24 (by decide) ?_
      refine lv_aload_n hx hb dX9_wordRank_25 rfl (lv_at hl 0 rfl) ?_
      refine x_cl (x_rV (As := []) (rest := [.int 2, .ref (xa X 0)]) (okM X) hC hw (kX9_countCurrent l X S_5 _  _ hf) (cwV 0 hts (gV q_481 q_482 q_483 q_5 q_484) rfl rfl rfl (by decide +kernel) ⟨Nat.le_of_ble_eq_true rfl, Nat.le_of_ble_eq_true rfl⟩) (x_recv hK hw (k := 0) (by decide) rfl rfl) rfl hl.1 rfl (Nat.le_of_ble_eq_true rfl) dX9_wordRank_26) hw hi (fun r_7 S_8 H locs hf hw => ?_)
      refine lv_lconst (v := 0) hx hb dX9_wordRank_29 (by decide) ?_
      refine W.lcmp hx hb dX9_wordRank_30 ?_
      have w_39 : ∀ (y_9 : Int32) (H : Heap) (locs : List Loc) (ls : Array Slot), jX9_wordRank_39 Post S_8 y_9 → xH 133 X (cM X) (xA 133 X s.heap.size) s.heap S_8 H locs → lv_has ls 4 [(0, .ref (xa X 0))] → W p l e rX9_wordRank s m args below meth c H locs 0 0 Q (F0 m 39 ls [.int y_9, .int 2, .ref (xa X 0)]) := by
        intro y_9 H locs ls hf hw hl
        rw [jX9_wordRank_39] at hf
        refine x_ci (x_rV (As := [.int 2, .int y_9]) (rest := []) (okM X) hC hw (kX9_fails l X S_8 _ 2 y_9 _ hf) (cwV 2 hts (gV q_163 q_164 q_165 q_5 q_166) rfl rfl rfl (by decide +kernel) ⟨Nat.le_of_ble_eq_true rfl, Nat.le_of_ble_eq_true rfl⟩) (x_recv hK hw (k := 0) (by decide) rfl rfl) rfl hl.1 rfl (Nat.le_of_ble_eq_true rfl) dX9_wordRank_39) hw hi (fun r_10 S_11 H locs hf hw => ?_)
        refine lv_if_eq (tgt := 47) hx hb dX9_wordRank_42 (by decide) (fun c_12 => ?_) (fun c_12 => ?_)
        · replace hf := hf.1 c_12
          refine lv_iconst (v := 0) hx hb dX9_wordRank_47 (by decide) ?_
          refine lv_istore_n (lv' := [(1, .int 0), (0, .ref (xa X 0))]) hx hb dX9_wordRank_48 rfl hl (by decide) rfl (fun ls hl => ?_)
          refine lv_iconst (v := 0) hx hb dX9_wordRank_49 (by decide) ?_
          refine lv_istore_n (lv' := [(2, .int 0), (1, .int 0), (0, .ref (xa X 0))]) hx hb dX9_wordRank_50 rfl hl (by decide) rfl (fun ls hl => ?_)
          obtain ⟨n_51, hf⟩ := hf
          have w_51 : ∀ (n : Nat) (x1_13 : Int32) (x2_14 : Int32) (H : Heap) (locs : List Loc) (ls : Array Slot), lp (fun L x => bX9_wordRank_51 Post S_11 L x.1 x.2) n (x1_13, x2_14) → xH 133 X (cM X) (xA 133 X s.heap.size) s.heap S_11 H locs → lv_has ls 4 [(0, .ref (xa X 0)), (1, .int x1_13), (2, .int x2_14)] → W p l e rX9_wordRank s m args below meth c H locs 0 0 Q (F0 m 51 ls []) := by
            intro n
            induction n with
            | zero => intro x1_13 x2_14 H locs ls hf; exact hf.elim
            | succ n ih_51 =>
              intro x1_13 x2_14 H locs ls hf hw hl
              replace hf : bX9_wordRank_51 Post S_11 (lp (fun L x => bX9_wordRank_51 Post S_11 L x.1 x.2) n) x1_13 x2_14 := hf
              generalize lp (fun L x => bX9_wordRank_51 Post S_11 L x.1 x.2) n = L_51 at hf ih_51
              rw [bX9_wordRank_51] at hf
              refine lv_iload_n hx hb dX9_wordRank_51 rfl (lv_at hl 2 rfl) ?_
              refine lv_aload_n hx hb dX9_wordRank_52 rfl (lv_at hl 0 rfl) ?_
              refine x_get (k := 0) (v := .int (gI S_11 5)) hx hb hts i_X9 hown hK hw (by decide) rfl rfl 7 (by decide) lf_86 (fun _ h9 => h9) rfl dX9_wordRank_53 ?_
              refine lv_icmp_ge (tgt := 79) hx hb dX9_wordRank_56 (by decide) (fun c_15 => ?_) (fun c_15 => ?_)
              · replace hf := hf.1 c_15
                refine lv_iconst (v := 0) hx hb dX9_wordRank_79 (by decide) ?_
                refine lv_istore_n (lv' := [(2, .int 0), (0, .ref (xa X 0)), (1, .int x1_13)]) hx hb dX9_wordRank_80 rfl hl (by decide) rfl (fun ls hl => ?_)
                refine lv_iconst (v := 0) hx hb dX9_wordRank_81 (by decide) ?_
                refine lv_istore_n (lv' := [(3, .int 0), (2, .int 0), (0, .ref (xa X 0)), (1, .int x1_13)]) hx hb dX9_wordRank_82 rfl hl (by decide) rfl (fun ls hl => ?_)
                obtain ⟨n_83, hf⟩ := hf
                have w_83 : ∀ (n : Nat) (x2_16 : Int32) (x3_17 : Int32) (S_18 : gS) (H : Heap) (locs : List Loc) (ls : Array Slot), lp (fun L x => bX9_wordRank_83 Post x1_13 L x.1 x.2.1 x.2.2) n (x2_16, x3_17, S_18) → xH 133 X (cM X) (xA 133 X s.heap.size) s.heap S_18 H locs → lv_has ls 4 [(0, .ref (xa X 0)), (1, .int x1_13), (2, .int x2_16), (3, .int x3_17)] → W p l e rX9_wordRank s m args below meth c H locs 0 0 Q (F0 m 83 ls []) := by
                  intro n
                  induction n with
                  | zero => intro x2_16 x3_17 S_18 H locs ls hf; exact hf.elim
                  | succ n ih_83 =>
                    intro x2_16 x3_17 S_18 H locs ls hf hw hl
                    replace hf : bX9_wordRank_83 Post x1_13 (lp (fun L x => bX9_wordRank_83 Post x1_13 L x.1 x.2.1 x.2.2) n) x2_16 x3_17 S_18 := hf
                    generalize lp (fun L x => bX9_wordRank_83 Post x1_13 L x.1 x.2.1 x.2.2) n = L_83 at hf ih_83
                    rw [bX9_wordRank_83] at hf
                    refine lv_iload_n hx hb dX9_wordRank_83 rfl (lv_at hl 3 rfl) ?_
                    refine lv_iload_n hx hb dX9_wordRank_84 rfl (lv_at hl 1 rfl) ?_
                    refine lv_icmp_ge (tgt := 116) hx hb dX9_wordRank_85 (by decide) (fun c_19 => ?_) (fun c_19 => ?_)
                    · replace hf := hf.1 c_19
                      refine lv_iload_n hx hb dX9_wordRank_116 rfl (lv_at hl 2 rfl) ?_
                      exact hQ _ _ _ _ _ _ rfl hf hw dX9_wordRank_117
                    · replace hf := hf.2 c_19
                      refine lv_iload_n hx hb dX9_wordRank_88 rfl (lv_at hl 2 rfl) ?_
                      refine lv_aload_n hx hb dX9_wordRank_89 rfl (lv_at hl 0 rfl) ?_
                      refine lv_iload_n hx hb dX9_wordRank_90 rfl (lv_at hl 3 rfl) ?_
                      refine lv_aload_n hx hb dX9_wordRank_91 rfl (lv_at hl 0 rfl) ?_
                      refine x_get (k := 0) (v := .int (gI S_18 5)) hx hb hts i_X9 hown hK hw (by decide) rfl rfl 7 (by decide) lf_86 (fun _ h9 => h9) rfl dX9_wordRank_92 ?_
                      refine x_cl (x_rV (As := [.int x3_17, .int (gI S_18 5)]) (rest := [.int x2_16]) (okM X) hC hw (kX9_countNumbered l X S_18 _ x3_17 (gI S_18 5) _ hf) (cwV 2 hts (gV q_603 q_604 q_605 q_5 q_606) rfl rfl rfl (by decide +kernel) ⟨Nat.le_of_ble_eq_true rfl, Nat.le_of_ble_eq_true rfl⟩) (x_recv hK hw (k := 0) (by decide) rfl rfl) rfl hl.1 rfl (Nat.le_of_ble_eq_true rfl) dX9_wordRank_95) hw hi (fun r_20 S_21 H locs hf hw => ?_)
                      refine lv_lconst (v := 0) hx hb dX9_wordRank_98 (by decide) ?_
                      refine W.lcmp hx hb dX9_wordRank_99 ?_
                      refine lv_if_le (tgt := 107) hx hb dX9_wordRank_100 (by decide) (fun c_22 => ?_) (fun c_22 => ?_)
                      · replace hf := hf.1 c_22
                        refine lv_iconst (v := 0) hx hb dX9_wordRank_107 (by decide) ?_
                        refine lv_iadd hx hb dX9_wordRank_108 ?_
                        refine lv_topi (fun x2_23 ex2_23 => ?_)
                        replace hf := hf x2_23 ex2_23
                        refine lv_istore_n (lv' := [(2, .int x2_23), (0, .ref (xa X 0)), (1, .int x1_13), (3, .int x3_17)]) hx hb dX9_wordRank_109 rfl hl (by decide) rfl (fun ls hl => ?_)
                        obtain ⟨x3_24, ex3_24⟩ : ∃ y : Int32, y = x3_17 + 1 := ⟨_, rfl⟩
                        replace hf := hf x3_24 ex3_24
                        refine lv_iinc (v := x3_24) (lv' := [(3, .int x3_24), (2, .int x2_23), (0, .ref (xa X 0)), (1, .int x1_13)]) hx hb dX9_wordRank_110 hl (k := 3) rfl (by rw [ex3_24]; rfl) (by decide) rfl (fun ls hl => ?_)
                        refine lv_goto (tgt := 83) hx hb dX9_wordRank_113 (by decide) ?_
                        exact ih_83 x2_23 x3_24 S_21 _ _ _ hf hw (lv_sub hl [2, 3, 1, 0] rfl)
                      · replace hf := hf.2 c_22
                        refine lv_iconst (v := 1) hx hb dX9_wordRank_103 (by decide) ?_
                        refine lv_goto (tgt := 108) hx hb dX9_wordRank_104 (by decide) ?_
                        refine lv_iadd hx hb dX9_wordRank_108 ?_
                        refine lv_topi (fun x2_25 ex2_25 => ?_)
                        replace hf := hf x2_25 ex2_25
                        refine lv_istore_n (lv' := [(2, .int x2_25), (0, .ref (xa X 0)), (1, .int x1_13), (3, .int x3_17)]) hx hb dX9_wordRank_109 rfl hl (by decide) rfl (fun ls hl => ?_)
                        obtain ⟨x3_26, ex3_26⟩ : ∃ y : Int32, y = x3_17 + 1 := ⟨_, rfl⟩
                        replace hf := hf x3_26 ex3_26
                        refine lv_iinc (v := x3_26) (lv' := [(3, .int x3_26), (2, .int x2_25), (0, .ref (xa X 0)), (1, .int x1_13)]) hx hb dX9_wordRank_110 hl (k := 3) rfl (by rw [ex3_26]; rfl) (by decide) rfl (fun ls hl => ?_)
                        refine lv_goto (tgt := 83) hx hb dX9_wordRank_113 (by decide) ?_
                        exact ih_83 x2_25 x3_26 S_21 _ _ _ hf hw (lv_sub hl [2, 3, 1, 0] rfl)
                exact w_83 n_83 0 0 S_11 _ _ _ hf hw (lv_sub hl [2, 3, 1, 0] rfl)
              · replace hf := hf.2 c_15
                refine lv_aload_n hx hb dX9_wordRank_59 rfl (lv_at hl 0 rfl) ?_
                refine x_get (k := 0) (v := .int (gI S_11 2)) hx hb hts i_X9 hown hK hw (by decide) rfl rfl 2 (by decide) lf_13 (fun _ h9 => h9) rfl dX9_wordRank_60 ?_
                refine lv_iload_n hx hb dX9_wordRank_63 rfl (lv_at hl 1 rfl) ?_
                refine lv_imul hx hb dX9_wordRank_64 ?_
                refine lv_aload_n hx hb dX9_wordRank_65 rfl (lv_at hl 0 rfl) ?_
                refine x_get (k := 0) (v := .ref (xa X 2)) hx hb hts i_X9 hown hK hw (by decide) rfl rfl 6 (by decide) lf_21 (fun _ h9 => h9) rfl dX9_wordRank_66 ?_
                refine lv_iload_n hx hb dX9_wordRank_69 rfl (lv_at hl 2 rfl) ?_
                refine x_ild (n := 8) hx hb hK hw (by decide) rfl rfl hf.1 dX9_wordRank_70 ?_
                replace hf := hf.2
                refine lv_iadd hx hb dX9_wordRank_71 ?_
                refine lv_topi (fun x1_27 ex1_27 => ?_)
                replace hf := hf x1_27 ex1_27
                refine lv_istore_n (lv' := [(1, .int x1_27), (0, .ref (xa X 0)), (2, .int x2_14)]) hx hb dX9_wordRank_72 rfl hl (by decide) rfl (fun ls hl => ?_)
                obtain ⟨x2_28, ex2_28⟩ : ∃ y : Int32, y = x2_14 + 1 := ⟨_, rfl⟩
                replace hf := hf x2_28 ex2_28
                refine lv_iinc (v := x2_28) (lv' := [(2, .int x2_28), (1, .int x1_27), (0, .ref (xa X 0))]) hx hb dX9_wordRank_73 hl (k := 2) rfl (by rw [ex2_28]; rfl) (by decide) rfl (fun ls hl => ?_)
                refine lv_goto (tgt := 51) hx hb dX9_wordRank_76 (by decide) ?_
                exact ih_51 x1_27 x2_28 _ _ _ hf hw (lv_sub hl [2, 1, 0] rfl)
          exact w_51 n_51 0 0 _ _ _ hf hw (lv_sub hl [2, 1, 0] rfl)
        · replace hf := hf.2 c_12
          refine lv_iconst (v := 0) hx hb dX9_wordRank_45 (by decide) ?_
          exact hQ _ _ _ _ _ _ rfl hf hw dX9_wordRank_46
      refine lv_if_ne (tgt := 38) hx hb dX9_wordRank_31 (by decide) (fun c_29 => ?_) (fun c_29 => ?_)
      · replace hf := hf.1 c_29
        refine lv_iconst (v := 0) hx hb dX9_wordRank_38 (by decide) ?_
        exact w_39 0 _ _ _ hf hw (lv_sub hl [0] rfl)
      · replace hf := hf.2 c_29
        refine lv_iconst (v := 1) hx hb dX9_wordRank_34 (by decide) ?_
        refine lv_goto (tgt := 39) hx hb dX9_wordRank_35 (by decide) ?_
        exact w_39 1 _ _ _ hf hw (lv_sub hl [0] rfl)
  refine lv_if_ne (tgt := 16) hx hb dX9_wordRank_9 (by decide) (fun c_30 => ?_) (fun c_30 => ?_)
  · replace hf := hf.1 c_30
    refine lv_iconst (v := 0) hx hb dX9_wordRank_16 (by decide) ?_
    exact w_17 0 _ _ _ hf hw (lv_sub hl [0] rfl)
  · replace hf := hf.2 c_30
    refine lv_iconst (v := 1) hx hb dX9_wordRank_12 (by decide) ?_
    refine lv_goto (tgt := 17) hx hb dX9_wordRank_13 (by decide) ?_
    exact w_17 1 _ _ _ hf hw (lv_sub hl [0] rfl)
def bX9_takeRanked_5 (p0 : Int32) (Post : Int32 → gS → Prop) (L_5 : Int32 × Int32 × gS → Prop) (x3_1 : Int32) (x4_2 : Int32) (S_3 : gS) : Prop :=
  (pX9_wordsOf p0 S_3 (fun r_4 => ((r_4 ≤ x4_2 → Post 0 S_3) ∧ (¬ r_4 ≤ x4_2 → (pX9_countNumbered x4_2 p0 S_3 (fun r_7 S_8 => (((lg_cmp r_7 0) ≤ 0 → (∀ x4_10 : Int32, x4_10 = x4_2 + 1 → L_5 (x3_1, x4_10, S_8))) ∧ (¬ (lg_cmp r_7 0) ≤ 0 → ((¬ x3_1 = 0 → (∀ x3_12 : Int32, x3_12 = x3_1 + (-1) → (∀ x4_13 : Int32, x4_13 = x4_2 + 1 → L_5 (x3_12, x4_13, S_8)))) ∧ (x3_1 = 0 → (pX9_take p0 S_8 (fun S_15 => Post 1 S_15))))))))))))
def pX9_takeRanked (p0 : Int32) (p1 : Int32) (S : gS) (Post : Int32 → gS → Prop) : Prop :=
  ∃ n, lp (fun L x => bX9_takeRanked_5 p0 Post L x.1 x.2.1 x.2.2) n (p1, 0, S)
def rX9_takeRanked : Room := { frames := 5, cells := 0, slots := 0, locals := 126 }
set_option maxHeartbeats 40000000 in
set_option maxRecDepth 100000 in
theorem kX9_takeRanked (l : Launch) (X : xG) (S : gS) (sz : Nat) (p0 : Int32) (p1 : Int32) (Post : Int32 → gS → Prop) (hf : pX9_takeRanked p0 p1 S Post) : xMi l yX9_takeRanked (Cond.code yX9_takeRanked cX9_takeRanked 5 (some .boolean) :: WS) rX9_takeRanked 133 X (cM X) (eM X) S sz [.ref (xa X 0), .int p0, .int p1] Post := by
  refine xMi.of (cc := cX9_takeRanked) (maxL := 5) (own := RX9) (by decide) rfl rfl (Nat.le_of_ble_eq_true rfl) ?_
  intro p e s m args below meth c ls Q hC hQ hw hl
  obtain ⟨hx, hb, hml, hown, hts, hE, hi⟩ := id hC
  have hK := hE.1
  have hl : lv_has ls 5 [(0, .ref (xa X 0)), (1, .int p0), (2, .int p1)] := hl
  rw [pX9_takeRanked] at hf
  refine lv_iload_n hx hb dX9_takeRanked_0 rfl (lv_at hl 2 rfl) ?_
  refine lv_istore_n (lv' := [(3, .int p1), (0, .ref (xa X 0)), (1, .int p0), (2, .int p1)]) hx hb dX9_takeRanked_1 rfl hl (by decide) rfl (fun ls hl => ?_)
  refine lv_iconst (v := 0) hx hb dX9_takeRanked_2 (by decide) ?_
  refine lv_istore (lv' := [(4, .int 0), (3, .int p1), (0, .ref (xa X 0)), (1, .int p0), (2, .int p1)]) hx hb dX9_takeRanked_3 hl (by decide) rfl (fun ls hl => ?_)
  obtain ⟨n_5, hf⟩ := hf
  have w_5 : ∀ (n : Nat) (x3_1 : Int32) (x4_2 : Int32) (S_3 : gS) (H : Heap) (locs : List Loc) (ls : Array Slot), lp (fun L x => bX9_takeRanked_5 p0 Post L x.1 x.2.1 x.2.2) n (x3_1, x4_2, S_3) → xH 133 X (cM X) (xA 133 X s.heap.size) s.heap S_3 H locs → lv_has ls 5 [(0, .ref (xa X 0)), (1, .int p0), (3, .int x3_1), (4, .int x4_2)] → W p l e rX9_takeRanked s m args below meth c H locs 0 0 Q (F0 m 5 ls []) := by
    intro n
    induction n with
    | zero => intro x3_1 x4_2 S_3 H locs ls hf; exact hf.elim
    | succ n ih_5 =>
      intro x3_1 x4_2 S_3 H locs ls hf hw hl
      replace hf : bX9_takeRanked_5 p0 Post (lp (fun L x => bX9_takeRanked_5 p0 Post L x.1 x.2.1 x.2.2) n) x3_1 x4_2 S_3 := hf
      generalize lp (fun L x => bX9_takeRanked_5 p0 Post L x.1 x.2.1 x.2.2) n = L_5 at hf ih_5
      rw [bX9_takeRanked_5] at hf
      refine lv_iload hx hb dX9_takeRanked_5 (lv_at hl 3 rfl) ?_
      refine lv_aload_n hx hb dX9_takeRanked_7 rfl (lv_at hl 0 rfl) ?_
      refine lv_iload_n hx hb dX9_takeRanked_8 rfl (lv_at hl 1 rfl) ?_
      refine x_ci (x_rV (As := [.int p0]) (rest := [.int x4_2]) (okM X) hC hw (kX9_wordsOf l X S_3 _ p0 _ hf) (cwV 1 hts (gV q_599 q_600 q_601 q_5 q_602) rfl rfl rfl (by decide +kernel) ⟨Nat.le_of_ble_eq_true rfl, Nat.le_of_ble_eq_true rfl⟩) (x_recv hK hw (k := 0) (by decide) rfl rfl) rfl hl.1 rfl (Nat.le_of_ble_eq_true rfl) dX9_takeRanked_9) hw hi (fun r_4 S_5 H locs hf hw => ?_)
      obtain ⟨hf, rfl⟩ := hf
      refine lv_icmp_ge (tgt := 47) hx hb dX9_takeRanked_12 (by decide) (fun c_6 => ?_) (fun c_6 => ?_)
      · replace hf := hf.1 c_6
        refine lv_iconst (v := 0) hx hb dX9_takeRanked_47 (by decide) ?_
        exact hQ _ _ _ _ _ _ rfl hf hw dX9_takeRanked_48
      · replace hf := hf.2 c_6
        refine lv_aload_n hx hb dX9_takeRanked_15 rfl (lv_at hl 0 rfl) ?_
        refine lv_iload hx hb dX9_takeRanked_16 (lv_at hl 3 rfl) ?_
        refine lv_iload_n hx hb dX9_takeRanked_18 rfl (lv_at hl 1 rfl) ?_
        refine x_cl (x_rV (As := [.int x4_2, .int p0]) (rest := []) (okM X) hC hw (kX9_countNumbered l X S_3 _ x4_2 p0 _ hf) (cwV 2 hts (gV q_603 q_604 q_605 q_5 q_606) rfl rfl rfl (by decide +kernel) ⟨Nat.le_of_ble_eq_true rfl, Nat.le_of_ble_eq_true rfl⟩) (x_recv hK hw (k := 0) (by decide) rfl rfl) rfl hl.1 rfl (Nat.le_of_ble_eq_true rfl) dX9_takeRanked_19) hw hi (fun r_7 S_8 H locs hf hw => ?_)
        refine lv_lconst (v := 0) hx hb dX9_takeRanked_22 (by decide) ?_
        refine W.lcmp hx hb dX9_takeRanked_23 ?_
        refine lv_if_le (tgt := 41) hx hb dX9_takeRanked_24 (by decide) (fun c_9 => ?_) (fun c_9 => ?_)
        · replace hf := hf.1 c_9
          obtain ⟨x4_10, ex4_10⟩ : ∃ y : Int32, y = x4_2 + 1 := ⟨_, rfl⟩
          replace hf := hf x4_10 ex4_10
          refine lv_iinc (v := x4_10) (lv' := [(4, .int x4_10), (0, .ref (xa X 0)), (1, .int p0), (3, .int x3_1)]) hx hb dX9_takeRanked_41 hl (k := 3) rfl (by rw [ex4_10]; rfl) (by decide) rfl (fun ls hl => ?_)
          refine lv_goto (tgt := 5) hx hb dX9_takeRanked_44 (by decide) ?_
          exact ih_5 x3_1 x4_10 S_8 _ _ _ hf hw (lv_sub hl [1, 2, 3, 0] rfl)
        · replace hf := hf.2 c_9
          refine lv_iload_n hx hb dX9_takeRanked_27 rfl (lv_at hl 2 rfl) ?_
          refine lv_if_ne (tgt := 38) hx hb dX9_takeRanked_28 (by decide) (fun c_11 => ?_) (fun c_11 => ?_)
          · replace hf := hf.1 c_11
            obtain ⟨x3_12, ex3_12⟩ : ∃ y : Int32, y = x3_1 + (-1) := ⟨_, rfl⟩
            replace hf := hf x3_12 ex3_12
            refine lv_iinc (v := x3_12) (lv' := [(3, .int x3_12), (0, .ref (xa X 0)), (1, .int p0), (4, .int x4_2)]) hx hb dX9_takeRanked_38 hl (k := 2) rfl (by rw [ex3_12]; rfl) (by decide) rfl (fun ls hl => ?_)
            obtain ⟨x4_13, ex4_13⟩ : ∃ y : Int32, y = x4_2 + 1 := ⟨_, rfl⟩
            replace hf := hf x4_13 ex4_13
            refine lv_iinc (v := x4_13) (lv' := [(4, .int x4_13), (3, .int x3_12), (0, .ref (xa X 0)), (1, .int p0)]) hx hb dX9_takeRanked_41 hl (k := 3) rfl (by rw [ex4_13]; rfl) (by decide) rfl (fun ls hl => ?_)
            refine lv_goto (tgt := 5) hx hb dX9_takeRanked_44 (by decide) ?_
            exact ih_5 x3_12 x4_13 S_8 _ _ _ hf hw (lv_sub hl [2, 3, 1, 0] rfl)
          · replace hf := hf.2 c_11
            refine lv_aload_n hx hb dX9_takeRanked_31 rfl (lv_at hl 0 rfl) ?_
            refine lv_iload_n hx hb dX9_takeRanked_32 rfl (lv_at hl 1 rfl) ?_
            refine x_cv (x_rV (As := [.int p0]) (rest := []) (okM X) hC hw (kX9_take l X S_8 _ p0 _ hf) (cwV 1 hts (gV q_654 q_655 q_656 q_5 q_657) rfl rfl rfl (by decide +kernel) ⟨Nat.le_of_ble_eq_true rfl, Nat.le_of_ble_eq_true rfl⟩) (x_recv hK hw (k := 0) (by decide) rfl rfl) rfl hl.1 rfl (Nat.le_of_ble_eq_true rfl) dX9_takeRanked_33) hw hi (fun S_15 H locs hf hw => ?_)
            refine lv_iconst (v := 1) hx hb dX9_takeRanked_36 (by decide) ?_
            exact hQ _ _ _ _ _ _ rfl hf hw dX9_takeRanked_37
  exact w_5 n_5 p1 0 S _ _ _ hf hw (lv_sub hl [2, 3, 1, 0] rfl)
def jX9_takeWord_18 (p0 : Int32) (p1 : Int32) (S : gS) (Post : gS → Prop) (y_3 : Int32) : Prop :=
  (pX9_fails 1 y_3 S (fun r_4 S_5 => ((r_4 = 0 → (pX9_takeRanked p0 p1 S_5 (fun r_7 S_8 => ((¬ r_7 = 0 → (pX9_fails 2 0 S_8 (fun r_10 S_11 => Post S_11))) ∧ (r_7 = 0 → (pX9_fails 2 1 S_8 (fun r_12 S_13 => Post S_13))))))) ∧ (¬ r_4 = 0 → Post S_5))))
def pX9_takeWord (p0 : Int32) (p1 : Int32) (S : gS) (Post : gS → Prop) : Prop :=
  (pX9_isListed p0 S (fun r_1 => ((r_1 = 0 → jX9_takeWord_18 p0 p1 S Post 1) ∧ (¬ r_1 = 0 → ((0 ≤ p1 → jX9_takeWord_18 p0 p1 S Post 0) ∧ (¬ 0 ≤ p1 → jX9_takeWord_18 p0 p1 S Post 1))))))
def rX9_takeWord : Room := { frames := 6, cells := 0, slots := 0, locals := 150 }
set_option maxHeartbeats 40000000 in
set_option maxRecDepth 100000 in
theorem kX9_takeWord (l : Launch) (X : xG) (S : gS) (sz : Nat) (p0 : Int32) (p1 : Int32) (Post : gS → Prop) (hf : pX9_takeWord p0 p1 S Post) : xMv l yX9_takeWord (Cond.code yX9_takeWord cX9_takeWord 3 none :: WS) rX9_takeWord 133 X (cM X) (eM X) S sz [.ref (xa X 0), .int p0, .int p1] Post := by
  refine xMv.of (cc := cX9_takeWord) (maxL := 3) (own := RX9) (by decide) rfl rfl (Nat.le_of_ble_eq_true rfl) ?_
  intro p e s m args below meth c ls Q hC hQ hw hl
  obtain ⟨hx, hb, hml, hown, hts, hE, hi⟩ := id hC
  have hK := hE.1
  have hl : lv_has ls 3 [(0, .ref (xa X 0)), (1, .int p0), (2, .int p1)] := hl
  rw [pX9_takeWord] at hf
  refine lv_aload_n hx hb dX9_takeWord_0 rfl (lv_at hl 0 rfl) ?_
  refine lv_iconst (v := 1) hx hb dX9_takeWord_1 (by decide) ?_
  refine lv_iload_n hx hb dX9_takeWord_2 rfl (lv_at hl 1 rfl) ?_
  refine x_ci (x_rS (As := [.int p0]) (rest := [.int 1, .ref (xa X 0)]) (okM X) hC hw (kX9_isListed l X S _ p0 _ hf) (cwS 1 hts (gSt q_592 q_593 q_5 q_594) rfl rfl rfl (by decide +kernel) ⟨Nat.le_of_ble_eq_true rfl, Nat.le_of_ble_eq_true rfl⟩) rfl hl.1 rfl (Nat.le_of_ble_eq_true rfl) dX9_takeWord_3) hw hi (fun r_1 S_2 H locs hf hw => ?_)
  obtain ⟨hf, rfl⟩ := hf
  have w_18 : ∀ (y_3 : Int32) (H : Heap) (locs : List Loc) (ls : Array Slot), jX9_takeWord_18 p0 p1 S Post y_3 → xH 133 X (cM X) (xA 133 X s.heap.size) s.heap S H locs → lv_has ls 3 [(0, .ref (xa X 0)), (1, .int p0), (2, .int p1)] → W p l e rX9_takeWord s m args below meth c H locs 0 0 Q (F0 m 18 ls [.int y_3, .int 1, .ref (xa X 0)]) := by
    intro y_3 H locs ls hf hw hl
    rw [jX9_takeWord_18] at hf
    refine x_ci (x_rV (As := [.int 1, .int y_3]) (rest := []) (okM X) hC hw (kX9_fails l X S _ 1 y_3 _ hf) (cwV 2 hts (gV q_163 q_164 q_165 q_5 q_166) rfl rfl rfl (by decide +kernel) ⟨Nat.le_of_ble_eq_true rfl, Nat.le_of_ble_eq_true rfl⟩) (x_recv hK hw (k := 0) (by decide) rfl rfl) rfl hl.1 rfl (Nat.le_of_ble_eq_true rfl) dX9_takeWord_18) hw hi (fun r_4 S_5 H locs hf hw => ?_)
    refine lv_if_eq (tgt := 25) hx hb dX9_takeWord_21 (by decide) (fun c_6 => ?_) (fun c_6 => ?_)
    · replace hf := hf.1 c_6
      refine lv_aload_n hx hb dX9_takeWord_25 rfl (lv_at hl 0 rfl) ?_
      refine lv_iconst (v := 2) hx hb dX9_takeWord_26 (by decide) ?_
      refine lv_aload_n hx hb dX9_takeWord_27 rfl (lv_at hl 0 rfl) ?_
      refine lv_iload_n hx hb dX9_takeWord_28 rfl (lv_at hl 1 rfl) ?_
      refine lv_iload_n hx hb dX9_takeWord_29 rfl (lv_at hl 2 rfl) ?_
      refine x_ci (x_rV (As := [.int p0, .int p1]) (rest := [.int 2, .ref (xa X 0)]) (okM X) hC hw (kX9_takeRanked l X S_5 _ p0 p1 _ hf) (cwV 2 hts (gV q_685 q_686 q_687 q_5 q_688) rfl rfl rfl (by decide +kernel) ⟨Nat.le_of_ble_eq_true rfl, Nat.le_of_ble_eq_true rfl⟩) (x_recv hK hw (k := 0) (by decide) rfl rfl) rfl hl.1 rfl (Nat.le_of_ble_eq_true rfl) dX9_takeWord_30) hw hi (fun r_7 S_8 H locs hf hw => ?_)
      refine lv_if_ne (tgt := 40) hx hb dX9_takeWord_33 (by decide) (fun c_9 => ?_) (fun c_9 => ?_)
      · replace hf := hf.1 c_9
        refine lv_iconst (v := 0) hx hb dX9_takeWord_40 (by decide) ?_
        refine x_ci (x_rV (As := [.int 2, .int 0]) (rest := []) (okM X) hC hw (kX9_fails l X S_8 _ 2 0 _ hf) (cwV 2 hts (gV q_163 q_164 q_165 q_5 q_166) rfl rfl rfl (by decide +kernel) ⟨Nat.le_of_ble_eq_true rfl, Nat.le_of_ble_eq_true rfl⟩) (x_recv hK hw (k := 0) (by decide) rfl rfl) rfl hl.1 rfl (Nat.le_of_ble_eq_true rfl) dX9_takeWord_41) hw hi (fun r_10 S_11 H locs hf hw => ?_)
        refine lv_pop hx hb dX9_takeWord_44 rfl ?_
        exact hQ _ _ _ _ _ hf hw dX9_takeWord_45
      · replace hf := hf.2 c_9
        refine lv_iconst (v := 1) hx hb dX9_takeWord_36 (by decide) ?_
        refine lv_goto (tgt := 41) hx hb dX9_takeWord_37 (by decide) ?_
        refine x_ci (x_rV (As := [.int 2, .int 1]) (rest := []) (okM X) hC hw (kX9_fails l X S_8 _ 2 1 _ hf) (cwV 2 hts (gV q_163 q_164 q_165 q_5 q_166) rfl rfl rfl (by decide +kernel) ⟨Nat.le_of_ble_eq_true rfl, Nat.le_of_ble_eq_true rfl⟩) (x_recv hK hw (k := 0) (by decide) rfl rfl) rfl hl.1 rfl (Nat.le_of_ble_eq_true rfl) dX9_takeWord_41) hw hi (fun r_12 S_13 H locs hf hw => ?_)
        refine lv_pop hx hb dX9_takeWord_44 rfl ?_
        exact hQ _ _ _ _ _ hf hw dX9_takeWord_45
    · replace hf := hf.2 c_6
      exact hQ _ _ _ _ _ hf hw dX9_takeWord_24
  refine lv_if_eq (tgt := 13) hx hb dX9_takeWord_6 (by decide) (fun c_14 => ?_) (fun c_14 => ?_)
  · replace hf := hf.1 c_14
    refine lv_iconst (v := 1) hx hb dX9_takeWord_13 (by decide) ?_
    refine lv_goto (tgt := 18) hx hb dX9_takeWord_14 (by decide) ?_
    exact w_18 1 _ _ _ hf hw (lv_sub hl [0, 1, 2] rfl)
  · replace hf := hf.2 c_14
    refine lv_iload_n hx hb dX9_takeWord_9 rfl (lv_at hl 2 rfl) ?_
    refine lv_if_ge (tgt := 17) hx hb dX9_takeWord_10 (by decide) (fun c_15 => ?_) (fun c_15 => ?_)
    · replace hf := hf.1 c_15
      refine lv_iconst (v := 0) hx hb dX9_takeWord_17 (by decide) ?_
      exact w_18 0 _ _ _ hf hw (lv_sub hl [0, 1, 2] rfl)
    · replace hf := hf.2 c_15
      refine lv_iconst (v := 1) hx hb dX9_takeWord_13 (by decide) ?_
      refine lv_goto (tgt := 18) hx hb dX9_takeWord_14 (by decide) ?_
      exact w_18 1 _ _ _ hf hw (lv_sub hl [0, 1, 2] rfl)
def jX9_drawWord_42 (p0 : Int64) (p1 : Int32) (Post : Int32 → gS → Prop) (r_7 : Int32) (S_8 : gS) (y_9 : Int32) : Prop :=
  (pX9_fails 2 y_9 S_8 (fun r_10 S_11 => ((r_10 = 0 → (pX9_drawn p0 r_7.toInt64 S_11 (fun r_13 => (pX9_takeRanked p1 r_13.toInt32 S_11 (fun r_15 S_16 => Post r_13.toInt32 S_16))))) ∧ (¬ r_10 = 0 → Post 0 S_11))))
def jX9_drawWord_14 (p0 : Int64) (p1 : Int32) (S : gS) (Post : Int32 → gS → Prop) (y_3 : Int32) : Prop :=
  (pX9_fails 1 y_3 S (fun r_4 S_5 => ((r_4 = 0 → (pX9_countWords p1 3 S_5 (fun r_7 S_8 => ((¬ r_7 = 0 → jX9_drawWord_42 p0 p1 Post r_7 S_8 0) ∧ (r_7 = 0 → jX9_drawWord_42 p0 p1 Post r_7 S_8 1))))) ∧ (¬ r_4 = 0 → Post 0 S_5))))
def pX9_drawWord (p0 : Int64) (p1 : Int32) (S : gS) (Post : Int32 → gS → Prop) : Prop :=
  (pX9_isListed p1 S (fun r_1 => ((¬ r_1 = 0 → jX9_drawWord_14 p0 p1 S Post 0) ∧ (r_1 = 0 → jX9_drawWord_14 p0 p1 S Post 1))))
def rX9_drawWord : Room := { frames := 6, cells := 0, slots := 0, locals := 153 }
set_option maxHeartbeats 40000000 in
set_option maxRecDepth 100000 in
theorem kX9_drawWord (l : Launch) (X : xG) (S : gS) (sz : Nat) (p0 : Int64) (p1 : Int32) (Post : Int32 → gS → Prop) (hf : pX9_drawWord p0 p1 S Post) : xMi l yX9_drawWord (Cond.code yX9_drawWord cX9_drawWord 6 (some .int) :: WS) rX9_drawWord 133 X (cM X) (eM X) S sz [.ref (xa X 0), .long p0, .int p1] Post := by
  refine xMi.of (cc := cX9_drawWord) (maxL := 6) (own := RX9) (by decide) rfl rfl (Nat.le_of_ble_eq_true rfl) ?_
  intro p e s m args below meth c ls Q hC hQ hw hl
  obtain ⟨hx, hb, hml, hown, hts, hE, hi⟩ := id hC
  have hK := hE.1
  have hl : lv_has ls 6 [(0, .ref (xa X 0)), (1, .long p0), (3, .int p1)] := hl
  rw [pX9_drawWord] at hf
  refine lv_aload_n hx hb dX9_drawWord_0 rfl (lv_at hl 0 rfl) ?_
  refine lv_iconst (v := 1) hx hb dX9_drawWord_1 (by decide) ?_
  refine lv_iload_n hx hb dX9_drawWord_2 rfl (lv_at hl 2 rfl) ?_
  refine x_ci (x_rS (As := [.int p1]) (rest := [.int 1, .ref (xa X 0)]) (okM X) hC hw (kX9_isListed l X S _ p1 _ hf) (cwS 1 hts (gSt q_592 q_593 q_5 q_594) rfl rfl rfl (by decide +kernel) ⟨Nat.le_of_ble_eq_true rfl, Nat.le_of_ble_eq_true rfl⟩) rfl hl.1 rfl (Nat.le_of_ble_eq_true rfl) dX9_drawWord_3) hw hi (fun r_1 S_2 H locs hf hw => ?_)
  obtain ⟨hf, rfl⟩ := hf
  have w_14 : ∀ (y_3 : Int32) (H : Heap) (locs : List Loc) (ls : Array Slot), jX9_drawWord_14 p0 p1 S Post y_3 → xH 133 X (cM X) (xA 133 X s.heap.size) s.heap S H locs → lv_has ls 6 [(0, .ref (xa X 0)), (1, .long p0), (3, .int p1)] → W p l e rX9_drawWord s m args below meth c H locs 0 0 Q (F0 m 14 ls [.int y_3, .int 1, .ref (xa X 0)]) := by
    intro y_3 H locs ls hf hw hl
    rw [jX9_drawWord_14] at hf
    refine x_ci (x_rV (As := [.int 1, .int y_3]) (rest := []) (okM X) hC hw (kX9_fails l X S _ 1 y_3 _ hf) (cwV 2 hts (gV q_163 q_164 q_165 q_5 q_166) rfl rfl rfl (by decide +kernel) ⟨Nat.le_of_ble_eq_true rfl, Nat.le_of_ble_eq_true rfl⟩) (x_recv hK hw (k := 0) (by decide) rfl rfl) rfl hl.1 rfl (Nat.le_of_ble_eq_true rfl) dX9_drawWord_14) hw hi (fun r_4 S_5 H locs hf hw => ?_)
    refine lv_if_eq (tgt := 22) hx hb dX9_drawWord_17 (by decide) (fun c_6 => ?_) (fun c_6 => ?_)
    · replace hf := hf.1 c_6
      refine lv_aload_n hx hb dX9_drawWord_22 rfl (lv_at hl 0 rfl) ?_
      refine lv_iload_n hx hb dX9_drawWord_23 rfl (lv_at hl 2 rfl) ?_
      refine lv_iconst (v := 3) hx hb dX9_drawWord_24 (by decide) ?_
      refine x_ci (x_rV (As := [.int p1, .int 3]) (rest := []) (okM X) hC hw (kX9_countWords l X S_5 _ p1 3 _ hf) (cwV 2 hts (gV q_595 q_596 q_597 q_5 q_598) rfl rfl rfl (by decide +kernel) ⟨Nat.le_of_ble_eq_true rfl, Nat.le_of_ble_eq_true rfl⟩) (x_recv hK hw (k := 0) (by decide) rfl rfl) rfl hl.1 rfl (Nat.le_of_ble_eq_true rfl) dX9_drawWord_25) hw hi (fun r_7 S_8 H locs hf hw => ?_)
      refine lv_istore (lv' := [(4, .int r_7), (0, .ref (xa X 0)), (1, .long p0), (3, .int p1)]) hx hb dX9_drawWord_28 hl (by decide) rfl (fun ls hl => ?_)
      refine lv_aload_n hx hb dX9_drawWord_30 rfl (lv_at hl 1 rfl) ?_
      refine lv_iconst (v := 2) hx hb dX9_drawWord_31 (by decide) ?_
      refine lv_iload hx hb dX9_drawWord_32 (lv_at hl 0 rfl) ?_
      have w_42 : ∀ (y_9 : Int32) (H : Heap) (locs : List Loc) (ls : Array Slot), jX9_drawWord_42 p0 p1 Post r_7 S_8 y_9 → xH 133 X (cM X) (xA 133 X s.heap.size) s.heap S_8 H locs → lv_has ls 6 [(0, .ref (xa X 0)), (1, .long p0), (3, .int p1), (4, .int r_7)] → W p l e rX9_drawWord s m args below meth c H locs 0 0 Q (F0 m 42 ls [.int y_9, .int 2, .ref (xa X 0)]) := by
        intro y_9 H locs ls hf hw hl
        rw [jX9_drawWord_42] at hf
        refine x_ci (x_rV (As := [.int 2, .int y_9]) (rest := []) (okM X) hC hw (kX9_fails l X S_8 _ 2 y_9 _ hf) (cwV 2 hts (gV q_163 q_164 q_165 q_5 q_166) rfl rfl rfl (by decide +kernel) ⟨Nat.le_of_ble_eq_true rfl, Nat.le_of_ble_eq_true rfl⟩) (x_recv hK hw (k := 0) (by decide) rfl rfl) rfl hl.1 rfl (Nat.le_of_ble_eq_true rfl) dX9_drawWord_42) hw hi (fun r_10 S_11 H locs hf hw => ?_)
        refine lv_if_eq (tgt := 50) hx hb dX9_drawWord_45 (by decide) (fun c_12 => ?_) (fun c_12 => ?_)
        · replace hf := hf.1 c_12
          refine lv_lload_n hx hb dX9_drawWord_50 rfl (lv_at hl 1 rfl) ?_
          refine lv_iload hx hb dX9_drawWord_51 (lv_at hl 3 rfl) ?_
          refine lv_i2l hx hb dX9_drawWord_53 rfl ?_
          refine x_cl (x_rS (As := [.long p0, .long r_7.toInt64]) (rest := []) (okM X) hC hw (kX9_drawn l X S_11 _ p0 r_7.toInt64 _ hf) (cwS 2 hts (gSt q_705 q_706 q_5 q_707) rfl rfl rfl (by decide +kernel) ⟨Nat.le_of_ble_eq_true rfl, Nat.le_of_ble_eq_true rfl⟩) rfl hl.1 rfl (Nat.le_of_ble_eq_true rfl) dX9_drawWord_54) hw hi (fun r_13 S_14 H locs hf hw => ?_)
          obtain ⟨hf, rfl⟩ := hf
          refine lv_l2i hx hb dX9_drawWord_57 rfl ?_
          refine lv_istore (lv' := [(5, .int r_13.toInt32), (0, .ref (xa X 0)), (1, .long p0), (3, .int p1), (4, .int r_7)]) hx hb dX9_drawWord_58 hl (by decide) rfl (fun ls hl => ?_)
          refine lv_aload_n hx hb dX9_drawWord_60 rfl (lv_at hl 1 rfl) ?_
          refine lv_iload_n hx hb dX9_drawWord_61 rfl (lv_at hl 3 rfl) ?_
          refine lv_iload hx hb dX9_drawWord_62 (lv_at hl 0 rfl) ?_
          refine x_ci (x_rV (As := [.int p1, .int r_13.toInt32]) (rest := []) (okM X) hC hw (kX9_takeRanked l X S_11 _ p1 r_13.toInt32 _ hf) (cwV 2 hts (gV q_685 q_686 q_687 q_5 q_688) rfl rfl rfl (by decide +kernel) ⟨Nat.le_of_ble_eq_true rfl, Nat.le_of_ble_eq_true rfl⟩) (x_recv hK hw (k := 0) (by decide) rfl rfl) rfl hl.1 rfl (Nat.le_of_ble_eq_true rfl) dX9_drawWord_64) hw hi (fun r_15 S_16 H locs hf hw => ?_)
          refine lv_pop hx hb dX9_drawWord_67 rfl ?_
          refine lv_iload hx hb dX9_drawWord_68 (lv_at hl 0 rfl) ?_
          exact hQ _ _ _ _ _ _ rfl hf hw dX9_drawWord_70
        · replace hf := hf.2 c_12
          refine lv_iconst (v := 0) hx hb dX9_drawWord_48 (by decide) ?_
          exact hQ _ _ _ _ _ _ rfl hf hw dX9_drawWord_49
      refine lv_if_ne (tgt := 41) hx hb dX9_drawWord_34 (by decide) (fun c_17 => ?_) (fun c_17 => ?_)
      · replace hf := hf.1 c_17
        refine lv_iconst (v := 0) hx hb dX9_drawWord_41 (by decide) ?_
        exact w_42 0 _ _ _ hf hw (lv_sub hl [1, 2, 3, 0] rfl)
      · replace hf := hf.2 c_17
        refine lv_iconst (v := 1) hx hb dX9_drawWord_37 (by decide) ?_
        refine lv_goto (tgt := 42) hx hb dX9_drawWord_38 (by decide) ?_
        exact w_42 1 _ _ _ hf hw (lv_sub hl [1, 2, 3, 0] rfl)
    · replace hf := hf.2 c_6
      refine lv_iconst (v := 0) hx hb dX9_drawWord_20 (by decide) ?_
      exact hQ _ _ _ _ _ _ rfl hf hw dX9_drawWord_21
  refine lv_if_ne (tgt := 13) hx hb dX9_drawWord_6 (by decide) (fun c_18 => ?_) (fun c_18 => ?_)
  · replace hf := hf.1 c_18
    refine lv_iconst (v := 0) hx hb dX9_drawWord_13 (by decide) ?_
    exact w_14 0 _ _ _ hf hw (lv_sub hl [0, 1, 2] rfl)
  · replace hf := hf.2 c_18
    refine lv_iconst (v := 1) hx hb dX9_drawWord_9 (by decide) ?_
    refine lv_goto (tgt := 14) hx hb dX9_drawWord_10 (by decide) ?_
    exact w_14 1 _ _ _ hf hw (lv_sub hl [0, 1, 2] rfl)
