/-! Printed by wip/whole/gen: what each method asks (p..), and its contract under that (k..). -/
def pX9_treesOf (p0 : Int32) (p1 : Int32) (p2 : Int32) (S : gS) (Post : Int64 → Prop) : Prop :=
  (((gI S 7) = 0 → (pX9_partsOfLength p0 p2 S (fun r_2 => Post r_2))) ∧ (¬ (gI S 7) = 0 → (pX9_treesOfPart p0 p1 p2 S (fun r_4 => Post r_4))))
def rX9_treesOf : Room := { frames := 1, cells := 0, slots := 0, locals := 23 }
set_option maxHeartbeats 40000000 in
set_option maxRecDepth 100000 in
theorem kX9_treesOf (l : Launch) (X : xG) (S : gS) (sz : Nat) (p0 : Int32) (p1 : Int32) (p2 : Int32) (Post : Int64 → Prop) (hf : pX9_treesOf p0 p1 p2 S Post) : xMl l yX9_treesOf (Cond.code yX9_treesOf cX9_treesOf 4 (some .long) :: WS) rX9_treesOf 133 X (cM X) (eM X) S sz [.ref (xa X 0), .int p0, .int p1, .int p2] (fun r S' => Post r ∧ S = S') := by
  refine xMl.of (cc := cX9_treesOf) (maxL := 4) (own := RX9) (by decide) rfl rfl (Nat.le_of_ble_eq_true rfl) ?_
  intro p e s m args below meth c ls Q hC hQ hw hl
  obtain ⟨hx, hb, hml, hown, hts, hE, hi⟩ := id hC
  have hK := hE.1
  have hl : lv_has ls 4 [(0, .ref (xa X 0)), (1, .int p0), (2, .int p1), (3, .int p2)] := hl
  have lf_178 : (Cond.fieldLink RX9 178 "GrammarAmbiguityModel" "isByPart" "Z").before args s = true := hts _ q_766
  rw [pX9_treesOf] at hf
  refine lv_aload_n hx hb dX9_treesOf_0 rfl (lv_at hl 0 rfl) ?_
  refine x_get (k := 0) (v := .int (gI S 7)) hx hb hts i_X9 hown hK hw (by decide) rfl rfl 17 (by decide) lf_178 (fun _ h9 => h9) rfl dX9_treesOf_1 ?_
  refine lv_if_eq (tgt := 17) hx hb dX9_treesOf_4 (by decide) (fun c_1 => ?_) (fun c_1 => ?_)
  · replace hf := hf.1 c_1
    refine lv_aload_n hx hb dX9_treesOf_17 rfl (lv_at hl 0 rfl) ?_
    refine lv_iload_n hx hb dX9_treesOf_18 rfl (lv_at hl 1 rfl) ?_
    refine lv_iload_n hx hb dX9_treesOf_19 rfl (lv_at hl 3 rfl) ?_
    refine x_cl (x_rV (As := [.int p0, .int p2]) (rest := []) (okM X) hC hw (kX9_partsOfLength l X S _ p0 p2 _ hf) (cwV 2 hts (gV q_533 q_534 q_535 q_5 q_536) rfl rfl rfl (by decide +kernel) ⟨Nat.le_of_ble_eq_true rfl, Nat.le_of_ble_eq_true rfl⟩) (x_recv hK hw (k := 0) (by decide) rfl rfl) rfl hl.1 rfl (Nat.le_of_ble_eq_true rfl) dX9_treesOf_20) hw hi (fun r_2 S_3 H locs hf hw => ?_)
    obtain ⟨hf, rfl⟩ := hf
    exact hQ _ _ _ _ _ _ ⟨hf, rfl⟩ hw dX9_treesOf_23
  · replace hf := hf.2 c_1
    refine lv_aload_n hx hb dX9_treesOf_7 rfl (lv_at hl 0 rfl) ?_
    refine lv_iload_n hx hb dX9_treesOf_8 rfl (lv_at hl 1 rfl) ?_
    refine lv_iload_n hx hb dX9_treesOf_9 rfl (lv_at hl 2 rfl) ?_
    refine lv_iload_n hx hb dX9_treesOf_10 rfl (lv_at hl 3 rfl) ?_
    refine x_cl (x_rV (As := [.int p0, .int p1, .int p2]) (rest := []) (okM X) hC hw (kX9_treesOfPart l X S _ p0 p1 p2 _ hf) (cwV 3 hts (gV q_497 q_498 q_499 q_5 q_500) rfl rfl rfl (by decide +kernel) ⟨Nat.le_of_ble_eq_true rfl, Nat.le_of_ble_eq_true rfl⟩) (x_recv hK hw (k := 0) (by decide) rfl rfl) rfl hl.1 rfl (Nat.le_of_ble_eq_true rfl) dX9_treesOf_11) hw hi (fun r_4 S_5 H locs hf hw => ?_)
    obtain ⟨hf, rfl⟩ := hf
    refine lv_goto (tgt := 23) hx hb dX9_treesOf_14 (by decide) ?_
    exact hQ _ _ _ _ _ _ ⟨hf, rfl⟩ hw dX9_treesOf_23
def jX9_productOf_47 (p0 : Int32) (p1 : Int32) (p2 : Int32) (p3 : Int32) (p4 : Int32) (S : gS) (Post : Int64 → Prop) (y_4 : Int64) : Prop :=
  ((¬ (lg_cmp y_4 0) = 0 → (vp_in p0 24 ∧ (vp_in (3 : Int32) 4 ∧ (pX9_treesOf (gA S (16 + p0.toNatClampNeg) (3 : Int32).toNatClampNeg) ((p1 + p2) + p3) p4 S (fun r_7 => Post (y_4 * r_7)))))) ∧ ((lg_cmp y_4 0) = 0 → Post 0))
def pX9_productOf (p0 : Int32) (p1 : Int32) (p2 : Int32) (p3 : Int32) (p4 : Int32) (S : gS) (Post : Int64 → Prop) : Prop :=
  (vp_in p0 24 ∧ (vp_in (1 : Int32) 4 ∧ (pX9_treesOf (gA S (16 + p0.toNatClampNeg) (1 : Int32).toNatClampNeg) p1 p2 S (fun r_2 => ((¬ (lg_cmp r_2 0) = 0 → (vp_in p0 24 ∧ (vp_in (2 : Int32) 4 ∧ (pX9_treesOf (gA S (16 + p0.toNatClampNeg) (2 : Int32).toNatClampNeg) (p1 + p2) p3 S (fun r_11 => jX9_productOf_47 p0 p1 p2 p3 p4 S Post (r_2 * r_11)))))) ∧ ((lg_cmp r_2 0) = 0 → jX9_productOf_47 p0 p1 p2 p3 p4 S Post 0))))))
def rX9_productOf : Room := { frames := 2, cells := 0, slots := 0, locals := 46 }
set_option maxHeartbeats 40000000 in
set_option maxRecDepth 100000 in
theorem kX9_productOf (l : Launch) (X : xG) (S : gS) (sz : Nat) (p0 : Int32) (p1 : Int32) (p2 : Int32) (p3 : Int32) (p4 : Int32) (Post : Int64 → Prop) (hf : pX9_productOf p0 p1 p2 p3 p4 S Post) : xMl l yX9_productOf (Cond.code yX9_productOf cX9_productOf 8 (some .long) :: WS) rX9_productOf 133 X (cM X) (eM X) S sz [.ref (xa X 0), .int p0, .int p1, .int p2, .int p3, .int p4] (fun r S' => Post r ∧ S = S') := by
  refine xMl.of (cc := cX9_productOf) (maxL := 8) (own := RX9) (by decide) rfl rfl (Nat.le_of_ble_eq_true rfl) ?_
  intro p e s m args below meth c ls Q hC hQ hw hl
  obtain ⟨hx, hb, hml, hown, hts, hE, hi⟩ := id hC
  have hK := hE.1
  have hl : lv_has ls 8 [(0, .ref (xa X 0)), (1, .int p0), (2, .int p1), (3, .int p2), (4, .int p3), (5, .int p4)] := hl
  have lf_18 : (Cond.fieldLink RX9 18 "GrammarAmbiguityModel" "symbols" "[[I").before args s = true := hts _ q_110
  rw [pX9_productOf] at hf
  refine lv_aload_n hx hb dX9_productOf_0 rfl (lv_at hl 0 rfl) ?_
  refine lv_aload_n hx hb dX9_productOf_1 rfl (lv_at hl 0 rfl) ?_
  refine x_get (k := 0) (v := .ref (xa X 1)) hx hb hts i_X9 hown hK hw (by decide) rfl rfl 5 (by decide) lf_18 (fun _ h9 => h9) rfl dX9_productOf_2 ?_
  refine lv_iload_n hx hb dX9_productOf_5 rfl (lv_at hl 1 rfl) ?_
  have hb_1 := vp_lt hf.1
  refine x_ald (n := 24) (v := .ref (xa X (16 + p0.toNatClampNeg))) hx hb hK hw (by decide) rfl 3 rfl rfl hf.1 (rf_lt hb_1) dX9_productOf_6 ?_
  replace hf := hf.2
  refine lv_iconst (v := 1) hx hb dX9_productOf_7 (by decide) ?_
  refine x_ild (n := 4) hx hb hK hw (by omega) (cM_sy hb_1) rfl hf.1 dX9_productOf_8 ?_
  replace hf := hf.2
  refine lv_iload_n hx hb dX9_productOf_9 rfl (lv_at hl 2 rfl) ?_
  refine lv_iload_n hx hb dX9_productOf_10 rfl (lv_at hl 3 rfl) ?_
  refine x_cl (x_rV (As := [.int (gA S (16 + p0.toNatClampNeg) (1 : Int32).toNatClampNeg), .int p1, .int p2]) (rest := []) (okM X) hC hw (kX9_treesOf l X S _ (gA S (16 + p0.toNatClampNeg) (1 : Int32).toNatClampNeg) p1 p2 _ hf) (cwV 3 hts (gV q_775 q_776 q_777 q_5 q_778) rfl rfl rfl (by decide +kernel) ⟨Nat.le_of_ble_eq_true rfl, Nat.le_of_ble_eq_true rfl⟩) (x_recv hK hw (k := 0) (by decide) rfl rfl) rfl hl.1 rfl (Nat.le_of_ble_eq_true rfl) dX9_productOf_11) hw hi (fun r_2 S_3 H locs hf hw => ?_)
  obtain ⟨hf, rfl⟩ := hf
  refine lv_lstore (lv' := [(6, .long r_2), (0, .ref (xa X 0)), (1, .int p0), (2, .int p1), (3, .int p2), (4, .int p3), (5, .int p4)]) hx hb dX9_productOf_14 hl (by decide) rfl (fun ls hl => ?_)
  refine lv_lload hx hb dX9_productOf_16 (lv_at hl 0 rfl) ?_
  refine lv_lconst (v := 0) hx hb dX9_productOf_18 (by decide) ?_
  refine W.lcmp hx hb dX9_productOf_19 ?_
  have w_47 : ∀ (y_4 : Int64) (H : Heap) (locs : List Loc) (ls : Array Slot), jX9_productOf_47 p0 p1 p2 p3 p4 S Post y_4 → xH 133 X (cM X) (xA 133 X s.heap.size) s.heap S H locs → lv_has ls 8 [(0, .ref (xa X 0)), (1, .int p0), (2, .int p1), (3, .int p2), (4, .int p3), (5, .int p4)] → W p l e rX9_productOf s m args below meth c H locs 0 0 Q (F0 m 47 ls [.long y_4]) := by
    intro y_4 H locs ls hf hw hl
    rw [jX9_productOf_47] at hf
    refine lv_lstore (lv' := [(6, .long y_4), (0, .ref (xa X 0)), (1, .int p0), (2, .int p1), (3, .int p2), (4, .int p3), (5, .int p4)]) hx hb dX9_productOf_47 hl (by decide) rfl (fun ls hl => ?_)
    refine lv_lload hx hb dX9_productOf_49 (lv_at hl 0 rfl) ?_
    refine lv_lconst (v := 0) hx hb dX9_productOf_51 (by decide) ?_
    refine W.lcmp hx hb dX9_productOf_52 ?_
    refine lv_if_ne (tgt := 60) hx hb dX9_productOf_53 (by decide) (fun c_5 => ?_) (fun c_5 => ?_)
    · replace hf := hf.1 c_5
      refine lv_lload hx hb dX9_productOf_60 (lv_at hl 0 rfl) ?_
      refine lv_aload_n hx hb dX9_productOf_62 rfl (lv_at hl 1 rfl) ?_
      refine lv_aload_n hx hb dX9_productOf_63 rfl (lv_at hl 1 rfl) ?_
      refine x_get (k := 0) (v := .ref (xa X 1)) hx hb hts i_X9 hown hK hw (by decide) rfl rfl 5 (by decide) lf_18 (fun _ h9 => h9) rfl dX9_productOf_64 ?_
      refine lv_iload_n hx hb dX9_productOf_67 rfl (lv_at hl 2 rfl) ?_
      have hb_6 := vp_lt hf.1
      refine x_ald (n := 24) (v := .ref (xa X (16 + p0.toNatClampNeg))) hx hb hK hw (by decide) rfl 3 rfl rfl hf.1 (rf_lt hb_6) dX9_productOf_68 ?_
      replace hf := hf.2
      refine lv_iconst (v := 3) hx hb dX9_productOf_69 (by decide) ?_
      refine x_ild (n := 4) hx hb hK hw (by omega) (cM_sy hb_6) rfl hf.1 dX9_productOf_70 ?_
      replace hf := hf.2
      refine lv_iload_n hx hb dX9_productOf_71 rfl (lv_at hl 3 rfl) ?_
      refine lv_iload_n hx hb dX9_productOf_72 rfl (lv_at hl 4 rfl) ?_
      refine lv_iadd hx hb dX9_productOf_73 ?_
      refine lv_iload hx hb dX9_productOf_74 (lv_at hl 5 rfl) ?_
      refine lv_iadd hx hb dX9_productOf_76 ?_
      refine lv_iload hx hb dX9_productOf_77 (lv_at hl 6 rfl) ?_
      refine x_cl (x_rV (As := [.int (gA S (16 + p0.toNatClampNeg) (3 : Int32).toNatClampNeg), .int ((p1 + p2) + p3), .int p4]) (rest := [.long y_4]) (okM X) hC hw (kX9_treesOf l X S _ (gA S (16 + p0.toNatClampNeg) (3 : Int32).toNatClampNeg) ((p1 + p2) + p3) p4 _ hf) (cwV 3 hts (gV q_775 q_776 q_777 q_5 q_778) rfl rfl rfl (by decide +kernel) ⟨Nat.le_of_ble_eq_true rfl, Nat.le_of_ble_eq_true rfl⟩) (x_recv hK hw (k := 0) (by decide) rfl rfl) rfl hl.1 rfl (Nat.le_of_ble_eq_true rfl) dX9_productOf_79) hw hi (fun r_7 S_8 H locs hf hw => ?_)
      obtain ⟨hf, rfl⟩ := hf
      refine lv_lmul hx hb dX9_productOf_82 ?_
      exact hQ _ _ _ _ _ _ ⟨hf, rfl⟩ hw dX9_productOf_83
    · replace hf := hf.2 c_5
      refine lv_lconst (v := 0) hx hb dX9_productOf_56 (by decide) ?_
      refine lv_goto (tgt := 83) hx hb dX9_productOf_57 (by decide) ?_
      exact hQ _ _ _ _ _ _ ⟨hf, rfl⟩ hw dX9_productOf_83
  refine lv_if_ne (tgt := 27) hx hb dX9_productOf_20 (by decide) (fun c_9 => ?_) (fun c_9 => ?_)
  · replace hf := hf.1 c_9
    refine lv_lload hx hb dX9_productOf_27 (lv_at hl 0 rfl) ?_
    refine lv_aload_n hx hb dX9_productOf_29 rfl (lv_at hl 1 rfl) ?_
    refine lv_aload_n hx hb dX9_productOf_30 rfl (lv_at hl 1 rfl) ?_
    refine x_get (k := 0) (v := .ref (xa X 1)) hx hb hts i_X9 hown hK hw (by decide) rfl rfl 5 (by decide) lf_18 (fun _ h9 => h9) rfl dX9_productOf_31 ?_
    refine lv_iload_n hx hb dX9_productOf_34 rfl (lv_at hl 2 rfl) ?_
    have hb_10 := vp_lt hf.1
    refine x_ald (n := 24) (v := .ref (xa X (16 + p0.toNatClampNeg))) hx hb hK hw (by decide) rfl 3 rfl rfl hf.1 (rf_lt hb_10) dX9_productOf_35 ?_
    replace hf := hf.2
    refine lv_iconst (v := 2) hx hb dX9_productOf_36 (by decide) ?_
    refine x_ild (n := 4) hx hb hK hw (by omega) (cM_sy hb_10) rfl hf.1 dX9_productOf_37 ?_
    replace hf := hf.2
    refine lv_iload_n hx hb dX9_productOf_38 rfl (lv_at hl 3 rfl) ?_
    refine lv_iload_n hx hb dX9_productOf_39 rfl (lv_at hl 4 rfl) ?_
    refine lv_iadd hx hb dX9_productOf_40 ?_
    refine lv_iload hx hb dX9_productOf_41 (lv_at hl 5 rfl) ?_
    refine x_cl (x_rV (As := [.int (gA S (16 + p0.toNatClampNeg) (2 : Int32).toNatClampNeg), .int (p1 + p2), .int p3]) (rest := [.long r_2]) (okM X) hC hw (kX9_treesOf l X S _ (gA S (16 + p0.toNatClampNeg) (2 : Int32).toNatClampNeg) (p1 + p2) p3 _ hf) (cwV 3 hts (gV q_775 q_776 q_777 q_5 q_778) rfl rfl rfl (by decide +kernel) ⟨Nat.le_of_ble_eq_true rfl, Nat.le_of_ble_eq_true rfl⟩) (x_recv hK hw (k := 0) (by decide) rfl rfl) rfl hl.1 rfl (Nat.le_of_ble_eq_true rfl) dX9_productOf_43) hw hi (fun r_11 S_12 H locs hf hw => ?_)
    obtain ⟨hf, rfl⟩ := hf
    refine lv_lmul hx hb dX9_productOf_46 ?_
    exact w_47 (r_2 * r_11) _ _ _ hf hw (lv_sub hl [1, 2, 3, 4, 5, 6] rfl)
  · replace hf := hf.2 c_9
    refine lv_lconst (v := 0) hx hb dX9_productOf_23 (by decide) ?_
    refine lv_goto (tgt := 47) hx hb dX9_productOf_24 (by decide) ?_
    exact w_47 0 _ _ _ hf hw (lv_sub hl [1, 2, 3, 4, 5, 6] rfl)
def pX9_sizeOfPart (p0 : Int32) (p1 : Int32) (p2 : Int32) (S : gS) (Post : Int32 → Prop) : Prop :=
  ((p0 < 10 → (vp_in p2 16 ∧ Post (gA S 10 p2.toNatClampNeg))) ∧ (¬ p0 < 10 → Post 1))
def rX9_sizeOfPart : Room := { frames := 0, cells := 0, slots := 0, locals := 0 }
set_option maxHeartbeats 40000000 in
set_option maxRecDepth 100000 in
theorem kX9_sizeOfPart (l : Launch) (X : xG) (S : gS) (sz : Nat) (p0 : Int32) (p1 : Int32) (p2 : Int32) (Post : Int32 → Prop) (hf : pX9_sizeOfPart p0 p1 p2 S Post) : xMi l yX9_sizeOfPart (Cond.code yX9_sizeOfPart cX9_sizeOfPart 4 (some .int) :: WS) rX9_sizeOfPart 133 X (cM X) (eM X) S sz [.ref (xa X 0), .int p0, .int p1, .int p2] (fun r S' => Post r ∧ S = S') := by
  refine xMi.of (cc := cX9_sizeOfPart) (maxL := 4) (own := RX9) (by decide) rfl rfl (Nat.le_of_ble_eq_true rfl) ?_
  intro p e s m args below meth c ls Q hC hQ hw hl
  obtain ⟨hx, hb, hml, hown, hts, hE, hi⟩ := id hC
  have hK := hE.1
  have hl : lv_has ls 4 [(0, .ref (xa X 0)), (1, .int p0), (2, .int p1), (3, .int p2)] := hl
  have lf_51 : (Cond.fieldLink RX9 51 "GrammarAmbiguityModel" "nodeSize" "[I").before args s = true := hts _ q_120
  rw [pX9_sizeOfPart] at hf
  refine lv_iload_n hx hb dX9_sizeOfPart_0 rfl (lv_at hl 1 rfl) ?_
  refine lv_bipush (v := 10) hx hb dX9_sizeOfPart_1 (by decide) ?_
  refine lv_icmp_lt (tgt := 10) hx hb dX9_sizeOfPart_3 (by decide) (fun c_1 => ?_) (fun c_1 => ?_)
  · replace hf := hf.1 c_1
    refine lv_aload_n hx hb dX9_sizeOfPart_10 rfl (lv_at hl 0 rfl) ?_
    refine x_get (k := 0) (v := .ref (xa X 10)) hx hb hts i_X9 hown hK hw (by decide) rfl rfl 16 (by decide) lf_51 (fun _ h9 => h9) rfl dX9_sizeOfPart_11 ?_
    refine lv_iload_n hx hb dX9_sizeOfPart_14 rfl (lv_at hl 3 rfl) ?_
    refine x_ild (n := 16) hx hb hK hw (by decide) rfl rfl hf.1 dX9_sizeOfPart_15 ?_
    replace hf := hf.2
    exact hQ _ _ _ _ _ _ rfl ⟨hf, rfl⟩ hw dX9_sizeOfPart_16
  · replace hf := hf.2 c_1
    refine lv_iconst (v := 1) hx hb dX9_sizeOfPart_6 (by decide) ?_
    refine lv_goto (tgt := 16) hx hb dX9_sizeOfPart_7 (by decide) ?_
    exact hQ _ _ _ _ _ _ rfl ⟨hf, rfl⟩ hw dX9_sizeOfPart_16
def pX9_treeSize (S : gS) (Post : Int32 → gS → Prop) : Prop :=
  ((¬ (gI S 6) = 0 → (pX9_fails 1 0 S (fun r_2 S_3 => ((r_2 = 0 → Post (gI S_3 6) S_3) ∧ (¬ r_2 = 0 → Post 0 S_3))))) ∧ ((gI S 6) = 0 → (pX9_fails 1 1 S (fun r_5 S_6 => ((r_5 = 0 → Post (gI S_6 6) S_6) ∧ (¬ r_5 = 0 → Post 0 S_6))))))
def rX9_treeSize : Room := { frames := 1, cells := 0, slots := 0, locals := 22 }
set_option maxHeartbeats 40000000 in
set_option maxRecDepth 100000 in
theorem kX9_treeSize (l : Launch) (X : xG) (S : gS) (sz : Nat) (Post : Int32 → gS → Prop) (hf : pX9_treeSize S Post) : xMi l yX9_treeSize (Cond.code yX9_treeSize cX9_treeSize 1 (some .int) :: WS) rX9_treeSize 133 X (cM X) (eM X) S sz [.ref (xa X 0)] Post := by
  refine xMi.of (cc := cX9_treeSize) (maxL := 1) (own := RX9) (by decide) rfl rfl (Nat.le_of_ble_eq_true rfl) ?_
  intro p e s m args below meth c ls Q hC hQ hw hl
  obtain ⟨hx, hb, hml, hown, hts, hE, hi⟩ := id hC
  have hK := hE.1
  have hl : lv_has ls 1 [(0, .ref (xa X 0))] := hl
  have lf_89 : (Cond.fieldLink RX9 89 "GrammarAmbiguityModel" "nodes" "I").before args s = true := hts _ q_159
  rw [pX9_treeSize] at hf
  refine lv_aload_n hx hb dX9_treeSize_0 rfl (lv_at hl 0 rfl) ?_
  refine lv_iconst (v := 1) hx hb dX9_treeSize_1 (by decide) ?_
  refine lv_aload_n hx hb dX9_treeSize_2 rfl (lv_at hl 0 rfl) ?_
  refine x_get (k := 0) (v := .int (gI S 6)) hx hb hts i_X9 hown hK hw (by decide) rfl rfl 13 (by decide) lf_89 (fun _ h9 => h9) rfl dX9_treeSize_3 ?_
  refine lv_if_ne (tgt := 13) hx hb dX9_treeSize_6 (by decide) (fun c_1 => ?_) (fun c_1 => ?_)
  · replace hf := hf.1 c_1
    refine lv_iconst (v := 0) hx hb dX9_treeSize_13 (by decide) ?_
    refine x_ci (x_rV (As := [.int 1, .int 0]) (rest := []) (okM X) hC hw (kX9_fails l X S _ 1 0 _ hf) (cwV 2 hts (gV q_163 q_164 q_165 q_5 q_166) rfl rfl rfl (by decide +kernel) ⟨Nat.le_of_ble_eq_true rfl, Nat.le_of_ble_eq_true rfl⟩) (x_recv hK hw (k := 0) (by decide) rfl rfl) rfl hl.1 rfl (Nat.le_of_ble_eq_true rfl) dX9_treeSize_14) hw hi (fun r_2 S_3 H locs hf hw => ?_)
    refine lv_if_eq (tgt := 24) hx hb dX9_treeSize_17 (by decide) (fun c_4 => ?_) (fun c_4 => ?_)
    · replace hf := hf.1 c_4
      refine lv_aload_n hx hb dX9_treeSize_24 rfl (lv_at hl 0 rfl) ?_
      refine x_get (k := 0) (v := .int (gI S_3 6)) hx hb hts i_X9 hown hK hw (by decide) rfl rfl 13 (by decide) lf_89 (fun _ h9 => h9) rfl dX9_treeSize_25 ?_
      exact hQ _ _ _ _ _ _ rfl hf hw dX9_treeSize_28
    · replace hf := hf.2 c_4
      refine lv_iconst (v := 0) hx hb dX9_treeSize_20 (by decide) ?_
      refine lv_goto (tgt := 28) hx hb dX9_treeSize_21 (by decide) ?_
      exact hQ _ _ _ _ _ _ rfl hf hw dX9_treeSize_28
  · replace hf := hf.2 c_1
    refine lv_iconst (v := 1) hx hb dX9_treeSize_9 (by decide) ?_
    refine lv_goto (tgt := 14) hx hb dX9_treeSize_10 (by decide) ?_
    refine x_ci (x_rV (As := [.int 1, .int 1]) (rest := []) (okM X) hC hw (kX9_fails l X S _ 1 1 _ hf) (cwV 2 hts (gV q_163 q_164 q_165 q_5 q_166) rfl rfl rfl (by decide +kernel) ⟨Nat.le_of_ble_eq_true rfl, Nat.le_of_ble_eq_true rfl⟩) (x_recv hK hw (k := 0) (by decide) rfl rfl) rfl hl.1 rfl (Nat.le_of_ble_eq_true rfl) dX9_treeSize_14) hw hi (fun r_5 S_6 H locs hf hw => ?_)
    refine lv_if_eq (tgt := 24) hx hb dX9_treeSize_17 (by decide) (fun c_7 => ?_) (fun c_7 => ?_)
    · replace hf := hf.1 c_7
      refine lv_aload_n hx hb dX9_treeSize_24 rfl (lv_at hl 0 rfl) ?_
      refine x_get (k := 0) (v := .int (gI S_6 6)) hx hb hts i_X9 hown hK hw (by decide) rfl rfl 13 (by decide) lf_89 (fun _ h9 => h9) rfl dX9_treeSize_25 ?_
      exact hQ _ _ _ _ _ _ rfl hf hw dX9_treeSize_28
    · replace hf := hf.2 c_7
      refine lv_iconst (v := 0) hx hb dX9_treeSize_20 (by decide) ?_
      refine lv_goto (tgt := 28) hx hb dX9_treeSize_21 (by decide) ?_
      exact hQ _ _ _ _ _ _ rfl hf hw dX9_treeSize_28
def jX9_treeNode_63 (p0 : Int32) (p1 : Int32) (Post : Int32 → gS → Prop) (S_9 : gS) (y_13 : Int32) : Prop :=
  (pX9_fails 3 y_13 S_9 (fun r_14 S_15 => ((r_14 = 0 → ((¬ p1 = 0 → ((¬ p1 = 1 → (vp_in p0 16 ∧ Post (gA S_15 10 p0.toNatClampNeg) S_15)) ∧ (p1 = 1 → (vp_in p0 16 ∧ Post (gA S_15 9 p0.toNatClampNeg) S_15)))) ∧ (p1 = 0 → (vp_in p0 16 ∧ Post (gA S_15 8 p0.toNatClampNeg) S_15)))) ∧ (¬ r_14 = 0 → Post 0 S_15))))
def jX9_treeNode_41 (p0 : Int32) (p1 : Int32) (Post : Int32 → gS → Prop) (S_3 : gS) (y_7 : Int32) : Prop :=
  (pX9_fails 2 y_7 S_3 (fun r_8 S_9 => ((¬ r_8 = 0 → Post 0 S_9) ∧ (r_8 = 0 → (pX9_isBetween p1 0 2 S_9 (fun r_11 => ((¬ r_11 = 0 → jX9_treeNode_63 p0 p1 Post S_9 0) ∧ (r_11 = 0 → jX9_treeNode_63 p0 p1 Post S_9 1))))))))
def jX9_treeNode_14 (p0 : Int32) (p1 : Int32) (S : gS) (Post : Int32 → gS → Prop) (y_1 : Int32) : Prop :=
  (pX9_fails 1 y_1 S (fun r_2 S_3 => ((¬ r_2 = 0 → Post 0 S_3) ∧ (r_2 = 0 → (pX9_isBetween p0 0 ((gI S_3 6) - 1) S_3 (fun r_5 => ((¬ r_5 = 0 → jX9_treeNode_41 p0 p1 Post S_3 0) ∧ (r_5 = 0 → jX9_treeNode_41 p0 p1 Post S_3 1))))))))
def pX9_treeNode (p0 : Int32) (p1 : Int32) (S : gS) (Post : Int32 → gS → Prop) : Prop :=
  ((¬ (gI S 6) = 0 → jX9_treeNode_14 p0 p1 S Post 0) ∧ ((gI S 6) = 0 → jX9_treeNode_14 p0 p1 S Post 1))
def rX9_treeNode : Room := { frames := 1, cells := 0, slots := 0, locals := 22 }
set_option maxHeartbeats 40000000 in
set_option maxRecDepth 100000 in
theorem kX9_treeNode (l : Launch) (X : xG) (S : gS) (sz : Nat) (p0 : Int32) (p1 : Int32) (Post : Int32 → gS → Prop) (hf : pX9_treeNode p0 p1 S Post) : xMi l yX9_treeNode (Cond.code yX9_treeNode cX9_treeNode 3 (some .int) :: WS) rX9_treeNode 133 X (cM X) (eM X) S sz [.ref (xa X 0), .int p0, .int p1] Post := by
  refine xMi.of (cc := cX9_treeNode) (maxL := 3) (own := RX9) (by decide) rfl rfl (Nat.le_of_ble_eq_true rfl) ?_
  intro p e s m args below meth c ls Q hC hQ hw hl
  obtain ⟨hx, hb, hml, hown, hts, hE, hi⟩ := id hC
  have hK := hE.1
  have hl : lv_has ls 3 [(0, .ref (xa X 0)), (1, .int p0), (2, .int p1)] := hl
  have lf_89 : (Cond.fieldLink RX9 89 "GrammarAmbiguityModel" "nodes" "I").before args s = true := hts _ q_159
  have lf_51 : (Cond.fieldLink RX9 51 "GrammarAmbiguityModel" "nodeSize" "[I").before args s = true := hts _ q_120
  have lf_48 : (Cond.fieldLink RX9 48 "GrammarAmbiguityModel" "nodeFrom" "[I").before args s = true := hts _ q_119
  have lf_45 : (Cond.fieldLink RX9 45 "GrammarAmbiguityModel" "nodeProduction" "[I").before args s = true := hts _ q_118
  rw [pX9_treeNode] at hf
  refine lv_aload_n hx hb dX9_treeNode_0 rfl (lv_at hl 0 rfl) ?_
  refine lv_iconst (v := 1) hx hb dX9_treeNode_1 (by decide) ?_
  refine lv_aload_n hx hb dX9_treeNode_2 rfl (lv_at hl 0 rfl) ?_
  refine x_get (k := 0) (v := .int (gI S 6)) hx hb hts i_X9 hown hK hw (by decide) rfl rfl 13 (by decide) lf_89 (fun _ h9 => h9) rfl dX9_treeNode_3 ?_
  have w_14 : ∀ (y_1 : Int32) (H : Heap) (locs : List Loc) (ls : Array Slot), jX9_treeNode_14 p0 p1 S Post y_1 → xH 133 X (cM X) (xA 133 X s.heap.size) s.heap S H locs → lv_has ls 3 [(0, .ref (xa X 0)), (1, .int p0), (2, .int p1)] → W p l e rX9_treeNode s m args below meth c H locs 0 0 Q (F0 m 14 ls [.int y_1, .int 1, .ref (xa X 0)]) := by
    intro y_1 H locs ls hf hw hl
    rw [jX9_treeNode_14] at hf
    refine x_ci (x_rV (As := [.int 1, .int y_1]) (rest := []) (okM X) hC hw (kX9_fails l X S _ 1 y_1 _ hf) (cwV 2 hts (gV q_163 q_164 q_165 q_5 q_166) rfl rfl rfl (by decide +kernel) ⟨Nat.le_of_ble_eq_true rfl, Nat.le_of_ble_eq_true rfl⟩) (x_recv hK hw (k := 0) (by decide) rfl rfl) rfl hl.1 rfl (Nat.le_of_ble_eq_true rfl) dX9_treeNode_14) hw hi (fun r_2 S_3 H locs hf hw => ?_)
    refine lv_if_ne (tgt := 69) hx hb dX9_treeNode_17 (by decide) (fun c_4 => ?_) (fun c_4 => ?_)
    · replace hf := hf.1 c_4
      refine lv_iconst (v := 0) hx hb dX9_treeNode_69 (by decide) ?_
      exact hQ _ _ _ _ _ _ rfl hf hw dX9_treeNode_70
    · replace hf := hf.2 c_4
      refine lv_aload_n hx hb dX9_treeNode_20 rfl (lv_at hl 0 rfl) ?_
      refine lv_iconst (v := 2) hx hb dX9_treeNode_21 (by decide) ?_
      refine lv_iload_n hx hb dX9_treeNode_22 rfl (lv_at hl 1 rfl) ?_
      refine lv_iconst (v := 0) hx hb dX9_treeNode_23 (by decide) ?_
      refine lv_aload_n hx hb dX9_treeNode_24 rfl (lv_at hl 0 rfl) ?_
      refine x_get (k := 0) (v := .int (gI S_3 6)) hx hb hts i_X9 hown hK hw (by decide) rfl rfl 13 (by decide) lf_89 (fun _ h9 => h9) rfl dX9_treeNode_25 ?_
      refine lv_iconst (v := 1) hx hb dX9_treeNode_28 (by decide) ?_
      refine lv_isub hx hb dX9_treeNode_29 ?_
      refine x_ci (x_rS (As := [.int p0, .int 0, .int ((gI S_3 6) - 1)]) (rest := [.int 2, .ref (xa X 0)]) (okM X) hC hw (kX9_isBetween l X S_3 _ p0 0 ((gI S_3 6) - 1) _ hf) (cwS 3 hts (gSt q_160 q_161 q_5 q_162) rfl rfl rfl (by decide +kernel) ⟨Nat.le_of_ble_eq_true rfl, Nat.le_of_ble_eq_true rfl⟩) rfl hl.1 rfl (Nat.le_of_ble_eq_true rfl) dX9_treeNode_30) hw hi (fun r_5 S_6 H locs hf hw => ?_)
      obtain ⟨hf, rfl⟩ := hf
      have w_41 : ∀ (y_7 : Int32) (H : Heap) (locs : List Loc) (ls : Array Slot), jX9_treeNode_41 p0 p1 Post S_3 y_7 → xH 133 X (cM X) (xA 133 X s.heap.size) s.heap S_3 H locs → lv_has ls 3 [(0, .ref (xa X 0)), (1, .int p0), (2, .int p1)] → W p l e rX9_treeNode s m args below meth c H locs 0 0 Q (F0 m 41 ls [.int y_7, .int 2, .ref (xa X 0)]) := by
        intro y_7 H locs ls hf hw hl
        rw [jX9_treeNode_41] at hf
        refine x_ci (x_rV (As := [.int 2, .int y_7]) (rest := []) (okM X) hC hw (kX9_fails l X S_3 _ 2 y_7 _ hf) (cwV 2 hts (gV q_163 q_164 q_165 q_5 q_166) rfl rfl rfl (by decide +kernel) ⟨Nat.le_of_ble_eq_true rfl, Nat.le_of_ble_eq_true rfl⟩) (x_recv hK hw (k := 0) (by decide) rfl rfl) rfl hl.1 rfl (Nat.le_of_ble_eq_true rfl) dX9_treeNode_41) hw hi (fun r_8 S_9 H locs hf hw => ?_)
        refine lv_if_ne (tgt := 69) hx hb dX9_treeNode_44 (by decide) (fun c_10 => ?_) (fun c_10 => ?_)
        · replace hf := hf.1 c_10
          refine lv_iconst (v := 0) hx hb dX9_treeNode_69 (by decide) ?_
          exact hQ _ _ _ _ _ _ rfl hf hw dX9_treeNode_70
        · replace hf := hf.2 c_10
          refine lv_aload_n hx hb dX9_treeNode_47 rfl (lv_at hl 0 rfl) ?_
          refine lv_iconst (v := 3) hx hb dX9_treeNode_48 (by decide) ?_
          refine lv_iload_n hx hb dX9_treeNode_49 rfl (lv_at hl 2 rfl) ?_
          refine lv_iconst (v := 0) hx hb dX9_treeNode_50 (by decide) ?_
          refine lv_iconst (v := 2) hx hb dX9_treeNode_51 (by decide) ?_
          refine x_ci (x_rS (As := [.int p1, .int 0, .int 2]) (rest := [.int 3, .ref (xa X 0)]) (okM X) hC hw (kX9_isBetween l X S_9 _ p1 0 2 _ hf) (cwS 3 hts (gSt q_160 q_161 q_5 q_162) rfl rfl rfl (by decide +kernel) ⟨Nat.le_of_ble_eq_true rfl, Nat.le_of_ble_eq_true rfl⟩) rfl hl.1 rfl (Nat.le_of_ble_eq_true rfl) dX9_treeNode_52) hw hi (fun r_11 S_12 H locs hf hw => ?_)
          obtain ⟨hf, rfl⟩ := hf
          have w_63 : ∀ (y_13 : Int32) (H : Heap) (locs : List Loc) (ls : Array Slot), jX9_treeNode_63 p0 p1 Post S_9 y_13 → xH 133 X (cM X) (xA 133 X s.heap.size) s.heap S_9 H locs → lv_has ls 3 [(0, .ref (xa X 0)), (1, .int p0), (2, .int p1)] → W p l e rX9_treeNode s m args below meth c H locs 0 0 Q (F0 m 63 ls [.int y_13, .int 3, .ref (xa X 0)]) := by
            intro y_13 H locs ls hf hw hl
            rw [jX9_treeNode_63] at hf
            refine x_ci (x_rV (As := [.int 3, .int y_13]) (rest := []) (okM X) hC hw (kX9_fails l X S_9 _ 3 y_13 _ hf) (cwV 2 hts (gV q_163 q_164 q_165 q_5 q_166) rfl rfl rfl (by decide +kernel) ⟨Nat.le_of_ble_eq_true rfl, Nat.le_of_ble_eq_true rfl⟩) (x_recv hK hw (k := 0) (by decide) rfl rfl) rfl hl.1 rfl (Nat.le_of_ble_eq_true rfl) dX9_treeNode_63) hw hi (fun r_14 S_15 H locs hf hw => ?_)
            refine lv_if_eq (tgt := 71) hx hb dX9_treeNode_66 (by decide) (fun c_16 => ?_) (fun c_16 => ?_)
            · replace hf := hf.1 c_16
              refine lv_iload_n hx hb dX9_treeNode_71 rfl (lv_at hl 2 rfl) ?_
              refine lv_if_ne (tgt := 84) hx hb dX9_treeNode_72 (by decide) (fun c_17 => ?_) (fun c_17 => ?_)
              · replace hf := hf.1 c_17
                refine lv_iload_n hx hb dX9_treeNode_84 rfl (lv_at hl 2 rfl) ?_
                refine lv_iconst (v := 1) hx hb dX9_treeNode_85 (by decide) ?_
                refine lv_icmp_ne (tgt := 98) hx hb dX9_treeNode_86 (by decide) (fun c_18 => ?_) (fun c_18 => ?_)
                · replace hf := hf.1 c_18
                  refine lv_aload_n hx hb dX9_treeNode_98 rfl (lv_at hl 0 rfl) ?_
                  refine x_get (k := 0) (v := .ref (xa X 10)) hx hb hts i_X9 hown hK hw (by decide) rfl rfl 16 (by decide) lf_51 (fun _ h9 => h9) rfl dX9_treeNode_99 ?_
                  refine lv_iload_n hx hb dX9_treeNode_102 rfl (lv_at hl 1 rfl) ?_
                  refine x_ild (n := 16) hx hb hK hw (by decide) rfl rfl hf.1 dX9_treeNode_103 ?_
                  replace hf := hf.2
                  exact hQ _ _ _ _ _ _ rfl hf hw dX9_treeNode_104
                · replace hf := hf.2 c_18
                  refine lv_aload_n hx hb dX9_treeNode_89 rfl (lv_at hl 0 rfl) ?_
                  refine x_get (k := 0) (v := .ref (xa X 9)) hx hb hts i_X9 hown hK hw (by decide) rfl rfl 15 (by decide) lf_48 (fun _ h9 => h9) rfl dX9_treeNode_90 ?_
                  refine lv_iload_n hx hb dX9_treeNode_93 rfl (lv_at hl 1 rfl) ?_
                  refine x_ild (n := 16) hx hb hK hw (by decide) rfl rfl hf.1 dX9_treeNode_94 ?_
                  replace hf := hf.2
                  refine lv_goto (tgt := 104) hx hb dX9_treeNode_95 (by decide) ?_
                  exact hQ _ _ _ _ _ _ rfl hf hw dX9_treeNode_104
              · replace hf := hf.2 c_17
                refine lv_aload_n hx hb dX9_treeNode_75 rfl (lv_at hl 0 rfl) ?_
                refine x_get (k := 0) (v := .ref (xa X 8)) hx hb hts i_X9 hown hK hw (by decide) rfl rfl 14 (by decide) lf_45 (fun _ h9 => h9) rfl dX9_treeNode_76 ?_
                refine lv_iload_n hx hb dX9_treeNode_79 rfl (lv_at hl 1 rfl) ?_
                refine x_ild (n := 16) hx hb hK hw (by decide) rfl rfl hf.1 dX9_treeNode_80 ?_
                replace hf := hf.2
                refine lv_goto (tgt := 104) hx hb dX9_treeNode_81 (by decide) ?_
                exact hQ _ _ _ _ _ _ rfl hf hw dX9_treeNode_104
            · replace hf := hf.2 c_16
              refine lv_iconst (v := 0) hx hb dX9_treeNode_69 (by decide) ?_
              exact hQ _ _ _ _ _ _ rfl hf hw dX9_treeNode_70
          refine lv_if_ne (tgt := 62) hx hb dX9_treeNode_55 (by decide) (fun c_19 => ?_) (fun c_19 => ?_)
          · replace hf := hf.1 c_19
            refine lv_iconst (v := 0) hx hb dX9_treeNode_62 (by decide) ?_
            exact w_63 0 _ _ _ hf hw (lv_sub hl [0, 1, 2] rfl)
          · replace hf := hf.2 c_19
            refine lv_iconst (v := 1) hx hb dX9_treeNode_58 (by decide) ?_
            refine lv_goto (tgt := 63) hx hb dX9_treeNode_59 (by decide) ?_
            exact w_63 1 _ _ _ hf hw (lv_sub hl [0, 1, 2] rfl)
      refine lv_if_ne (tgt := 40) hx hb dX9_treeNode_33 (by decide) (fun c_20 => ?_) (fun c_20 => ?_)
      · replace hf := hf.1 c_20
        refine lv_iconst (v := 0) hx hb dX9_treeNode_40 (by decide) ?_
        exact w_41 0 _ _ _ hf hw (lv_sub hl [0, 1, 2] rfl)
      · replace hf := hf.2 c_20
        refine lv_iconst (v := 1) hx hb dX9_treeNode_36 (by decide) ?_
        refine lv_goto (tgt := 41) hx hb dX9_treeNode_37 (by decide) ?_
        exact w_41 1 _ _ _ hf hw (lv_sub hl [0, 1, 2] rfl)
  refine lv_if_ne (tgt := 13) hx hb dX9_treeNode_6 (by decide) (fun c_21 => ?_) (fun c_21 => ?_)
  · replace hf := hf.1 c_21
    refine lv_iconst (v := 0) hx hb dX9_treeNode_13 (by decide) ?_
    exact w_14 0 _ _ _ hf hw (lv_sub hl [0, 1, 2] rfl)
  · replace hf := hf.2 c_21
    refine lv_iconst (v := 1) hx hb dX9_treeNode_9 (by decide) ?_
    refine lv_goto (tgt := 14) hx hb dX9_treeNode_10 (by decide) ?_
    exact w_14 1 _ _ _ hf hw (lv_sub hl [0, 1, 2] rfl)
def bX9_allocate_48 (p0 : Int32) (p2 : Int32) (Post : gS → Prop) (L_48 : Int32 × gS → Prop) (x4_9 : Int32) (S_10 : gS) : Prop :=
  ((p2 ≤ x4_9 → Post S_10) ∧ (¬ p2 ≤ x4_9 → (vp_in p0 3 ∧ (vp_in x4_9 40 ∧ (∀ S_13 : gS, S_13 = uA S_10 (64 + p0.toNatClampNeg) x4_9.toNatClampNeg 0 → (∀ x4_14 : Int32, x4_14 = x4_9 + 1 → L_48 (x4_14, S_13)))))))
def jX9_allocate_24 (p0 : Int32) (p1 : Int32) (p2 : Int32) (S : gS) (Post : gS → Prop) (y_3 : Int32) : Prop :=
  (pX9_fails 1 y_3 S (fun r_4 S_5 => ((r_4 = 0 → (vp_in p0 3 ∧ (∀ S_7 : gS, S_7 = uA S_5 11 p0.toNatClampNeg p2 → (vp_in p0 3 ∧ (∀ S_8 : gS, S_8 = uA S_7 12 p0.toNatClampNeg (vp_nar .boolean p1) → ∃ n, lp (fun L x => bX9_allocate_48 p0 p2 Post L x.1 x.2) n (0, S_8)))))) ∧ (¬ r_4 = 0 → Post S_5))))
def pX9_allocate (p0 : Int32) (p1 : Int32) (p2 : Int32) (S : gS) (Post : gS → Prop) : Prop :=
  (pX9_isSlot p0 S (fun r_1 => ((r_1 = 0 → jX9_allocate_24 p0 p1 p2 S Post 1) ∧ (¬ r_1 = 0 → (pX9_isBetween p2 0 40 S (fun r_16 => ((¬ r_16 = 0 → jX9_allocate_24 p0 p1 p2 S Post 0) ∧ (r_16 = 0 → jX9_allocate_24 p0 p1 p2 S Post 1))))))))
def rX9_allocate : Room := { frames := 2, cells := 0, slots := 0, locals := 42 }
set_option maxHeartbeats 40000000 in
set_option maxRecDepth 100000 in
theorem kX9_allocate (l : Launch) (X : xG) (S : gS) (sz : Nat) (p0 : Int32) (p1 : Int32) (p2 : Int32) (Post : gS → Prop) (hf : pX9_allocate p0 p1 p2 S Post) : xMv l yX9_allocate (Cond.code yX9_allocate cX9_allocate 5 none :: WS) rX9_allocate 133 X (cM X) (eM X) S sz [.ref (xa X 0), .int p0, .int p1, .int p2] Post := by
  refine xMv.of (cc := cX9_allocate) (maxL := 5) (own := RX9) (by decide) rfl rfl (Nat.le_of_ble_eq_true rfl) ?_
  intro p e s m args below meth c ls Q hC hQ hw hl
  obtain ⟨hx, hb, hml, hown, hts, hE, hi⟩ := id hC
  have hK := hE.1
  have hl : lv_has ls 5 [(0, .ref (xa X 0)), (1, .int p0), (2, .int p1), (3, .int p2)] := hl
  have lf_54 : (Cond.fieldLink RX9 54 "GrammarAmbiguityModel" "sizes" "[I").before args s = true := hts _ q_121
  have lf_57 : (Cond.fieldLink RX9 57 "GrammarAmbiguityModel" "isWide" "[Z").before args s = true := hts _ q_122
  have lf_60 : (Cond.fieldLink RX9 60 "GrammarAmbiguityModel" "elements" "[[I").before args s = true := hts _ q_123
  rw [pX9_allocate] at hf
  refine lv_aload_n hx hb dX9_allocate_0 rfl (lv_at hl 0 rfl) ?_
  refine lv_iconst (v := 1) hx hb dX9_allocate_1 (by decide) ?_
  refine lv_iload_n hx hb dX9_allocate_2 rfl (lv_at hl 1 rfl) ?_
  refine x_ci (x_rS (As := [.int p0]) (rest := [.int 1, .ref (xa X 0)]) (okM X) hC hw (kX9_isSlot l X S _ p0 _ hf) (cwS 1 hts (gSt q_862 q_863 q_5 q_864) rfl rfl rfl (by decide +kernel) ⟨Nat.le_of_ble_eq_true rfl, Nat.le_of_ble_eq_true rfl⟩) rfl hl.1 rfl (Nat.le_of_ble_eq_true rfl) dX9_allocate_3) hw hi (fun r_1 S_2 H locs hf hw => ?_)
  obtain ⟨hf, rfl⟩ := hf
  have w_24 : ∀ (y_3 : Int32) (H : Heap) (locs : List Loc) (ls : Array Slot), jX9_allocate_24 p0 p1 p2 S Post y_3 → xH 133 X (cM X) (xA 133 X s.heap.size) s.heap S H locs → lv_has ls 5 [(0, .ref (xa X 0)), (1, .int p0), (2, .int p1), (3, .int p2)] → W p l e rX9_allocate s m args below meth c H locs 0 0 Q (F0 m 24 ls [.int y_3, .int 1, .ref (xa X 0)]) := by
    intro y_3 H locs ls hf hw hl
    rw [jX9_allocate_24] at hf
    refine x_ci (x_rV (As := [.int 1, .int y_3]) (rest := []) (okM X) hC hw (kX9_fails l X S _ 1 y_3 _ hf) (cwV 2 hts (gV q_163 q_164 q_165 q_5 q_166) rfl rfl rfl (by decide +kernel) ⟨Nat.le_of_ble_eq_true rfl, Nat.le_of_ble_eq_true rfl⟩) (x_recv hK hw (k := 0) (by decide) rfl rfl) rfl hl.1 rfl (Nat.le_of_ble_eq_true rfl) dX9_allocate_24) hw hi (fun r_4 S_5 H locs hf hw => ?_)
    refine lv_if_eq (tgt := 31) hx hb dX9_allocate_27 (by decide) (fun c_6 => ?_) (fun c_6 => ?_)
    · replace hf := hf.1 c_6
      refine lv_aload_n hx hb dX9_allocate_31 rfl (lv_at hl 0 rfl) ?_
      refine x_get (k := 0) (v := .ref (xa X 11)) hx hb hts i_X9 hown hK hw (by decide) rfl rfl 19 (by decide) lf_54 (fun _ h9 => h9) rfl dX9_allocate_32 ?_
      refine lv_iload_n hx hb dX9_allocate_35 rfl (lv_at hl 1 rfl) ?_
      refine lv_iload_n hx hb dX9_allocate_36 rfl (lv_at hl 3 rfl) ?_
      refine x_ist (n := 3) hx hb hK hw (by decide) rfl rfl hf.1 dX9_allocate_37 (uM_A11 X S_5 _ _) (fun H locs hw => ?_)
      replace hf := hf.2
      obtain ⟨S_7, eS_7⟩ : ∃ z : gS, z = uA S_5 11 p0.toNatClampNeg p2 := ⟨_, rfl⟩
      rw [← eS_7] at hw
      replace hf := hf S_7 eS_7
      refine lv_aload_n hx hb dX9_allocate_38 rfl (lv_at hl 0 rfl) ?_
      refine x_get (k := 0) (v := .ref (xa X 12)) hx hb hts i_X9 hown hK hw (by decide) rfl rfl 20 (by decide) lf_57 (fun _ h9 => h9) rfl dX9_allocate_39 ?_
      refine lv_iload_n hx hb dX9_allocate_42 rfl (lv_at hl 1 rfl) ?_
      refine lv_iload_n hx hb dX9_allocate_43 rfl (lv_at hl 2 rfl) ?_
      refine x_zst (n := 3) hx hb hK hw (by decide) rfl rfl hf.1 dX9_allocate_44 (uM_A12 X S_7 _ _) (fun H locs hw => ?_)
      replace hf := hf.2
      obtain ⟨S_8, eS_8⟩ : ∃ z : gS, z = uA S_7 12 p0.toNatClampNeg (vp_nar .boolean p1) := ⟨_, rfl⟩
      rw [← eS_8] at hw
      replace hf := hf S_8 eS_8
      refine lv_iconst (v := 0) hx hb dX9_allocate_45 (by decide) ?_
      refine lv_istore (lv' := [(4, .int 0), (0, .ref (xa X 0)), (1, .int p0), (2, .int p1), (3, .int p2)]) hx hb dX9_allocate_46 hl (by decide) rfl (fun ls hl => ?_)
      obtain ⟨n_48, hf⟩ := hf
      have w_48 : ∀ (n : Nat) (x4_9 : Int32) (S_10 : gS) (H : Heap) (locs : List Loc) (ls : Array Slot), lp (fun L x => bX9_allocate_48 p0 p2 Post L x.1 x.2) n (x4_9, S_10) → xH 133 X (cM X) (xA 133 X s.heap.size) s.heap S_10 H locs → lv_has ls 5 [(0, .ref (xa X 0)), (1, .int p0), (3, .int p2), (4, .int x4_9)] → W p l e rX9_allocate s m args below meth c H locs 0 0 Q (F0 m 48 ls []) := by
        intro n
        induction n with
        | zero => intro x4_9 S_10 H locs ls hf; exact hf.elim
        | succ n ih_48 =>
          intro x4_9 S_10 H locs ls hf hw hl
          replace hf : bX9_allocate_48 p0 p2 Post (lp (fun L x => bX9_allocate_48 p0 p2 Post L x.1 x.2) n) x4_9 S_10 := hf
          generalize lp (fun L x => bX9_allocate_48 p0 p2 Post L x.1 x.2) n = L_48 at hf ih_48
          rw [bX9_allocate_48] at hf
          refine lv_iload hx hb dX9_allocate_48 (lv_at hl 3 rfl) ?_
          refine lv_iload_n hx hb dX9_allocate_50 rfl (lv_at hl 2 rfl) ?_
          refine lv_icmp_ge (tgt := 70) hx hb dX9_allocate_51 (by decide) (fun c_11 => ?_) (fun c_11 => ?_)
          · replace hf := hf.1 c_11
            exact hQ _ _ _ _ _ hf hw dX9_allocate_70
          · replace hf := hf.2 c_11
            refine lv_aload_n hx hb dX9_allocate_54 rfl (lv_at hl 0 rfl) ?_
            refine x_get (k := 0) (v := .ref (xa X 13)) hx hb hts i_X9 hown hK hw (by decide) rfl rfl 21 (by decide) lf_60 (fun _ h9 => h9) rfl dX9_allocate_55 ?_
            refine lv_iload_n hx hb dX9_allocate_58 rfl (lv_at hl 1 rfl) ?_
            have hb_12 := vp_lt hf.1
            refine x_ald (n := 3) (v := .ref (xa X (64 + p0.toNatClampNeg))) hx hb hK hw (by decide) rfl 3 rfl rfl hf.1 (rf_lt hb_12) dX9_allocate_59 ?_
            replace hf := hf.2
            refine lv_iload hx hb dX9_allocate_60 (lv_at hl 3 rfl) ?_
            refine lv_iconst (v := 0) hx hb dX9_allocate_62 (by decide) ?_
            refine x_ist (n := 40) hx hb hK hw (by omega) (cM_el hb_12) rfl hf.1 dX9_allocate_63 (uM_rI (by omega) (fun _ => cM_el hb_12) _ _) (fun H locs hw => ?_)
            replace hf := hf.2
            obtain ⟨S_13, eS_13⟩ : ∃ z : gS, z = uA S_10 (64 + p0.toNatClampNeg) x4_9.toNatClampNeg 0 := ⟨_, rfl⟩
            rw [← eS_13] at hw
            replace hf := hf S_13 eS_13
            obtain ⟨x4_14, ex4_14⟩ : ∃ y : Int32, y = x4_9 + 1 := ⟨_, rfl⟩
            replace hf := hf x4_14 ex4_14
            refine lv_iinc (v := x4_14) (lv' := [(4, .int x4_14), (0, .ref (xa X 0)), (1, .int p0), (3, .int p2)]) hx hb dX9_allocate_64 hl (k := 3) rfl (by rw [ex4_14]; rfl) (by decide) rfl (fun ls hl => ?_)
            refine lv_goto (tgt := 48) hx hb dX9_allocate_67 (by decide) ?_
            exact ih_48 x4_14 S_13 _ _ _ hf hw (lv_sub hl [1, 2, 3, 0] rfl)
      exact w_48 n_48 0 S_8 _ _ _ hf hw (lv_sub hl [1, 2, 4, 0] rfl)
    · replace hf := hf.2 c_6
      exact hQ _ _ _ _ _ hf hw dX9_allocate_30
  refine lv_if_eq (tgt := 19) hx hb dX9_allocate_6 (by decide) (fun c_15 => ?_) (fun c_15 => ?_)
  · replace hf := hf.1 c_15
    refine lv_iconst (v := 1) hx hb dX9_allocate_19 (by decide) ?_
    refine lv_goto (tgt := 24) hx hb dX9_allocate_20 (by decide) ?_
    exact w_24 1 _ _ _ hf hw (lv_sub hl [0, 1, 2, 3] rfl)
  · replace hf := hf.2 c_15
    refine lv_iload_n hx hb dX9_allocate_9 rfl (lv_at hl 3 rfl) ?_
    refine lv_iconst (v := 0) hx hb dX9_allocate_10 (by decide) ?_
    refine lv_bipush (v := 40) hx hb dX9_allocate_11 (by decide) ?_
    refine x_ci (x_rS (As := [.int p2, .int 0, .int 40]) (rest := [.int 1, .ref (xa X 0)]) (okM X) hC hw (kX9_isBetween l X S _ p2 0 40 _ hf) (cwS 3 hts (gSt q_160 q_161 q_5 q_162) rfl rfl rfl (by decide +kernel) ⟨Nat.le_of_ble_eq_true rfl, Nat.le_of_ble_eq_true rfl⟩) rfl hl.1 rfl (Nat.le_of_ble_eq_true rfl) dX9_allocate_13) hw hi (fun r_16 S_17 H locs hf hw => ?_)
    obtain ⟨hf, rfl⟩ := hf
    refine lv_if_ne (tgt := 23) hx hb dX9_allocate_16 (by decide) (fun c_18 => ?_) (fun c_18 => ?_)
    · replace hf := hf.1 c_18
      refine lv_iconst (v := 0) hx hb dX9_allocate_23 (by decide) ?_
      exact w_24 0 _ _ _ hf hw (lv_sub hl [0, 1, 2, 3] rfl)
    · replace hf := hf.2 c_18
      refine lv_iconst (v := 1) hx hb dX9_allocate_19 (by decide) ?_
      refine lv_goto (tgt := 24) hx hb dX9_allocate_20 (by decide) ?_
      exact w_24 1 _ _ _ hf hw (lv_sub hl [0, 1, 2, 3] rfl)
def pX9_narrowed (p0 : Int32) (p1 : Int32) (S : gS) (Post : Int32 → Prop) : Prop :=
  (vp_in p0 3 ∧ (((gA S 12 p0.toNatClampNeg) = 0 → Post p1.toInt16.toInt32) ∧ (¬ (gA S 12 p0.toNatClampNeg) = 0 → Post p1)))
def rX9_narrowed : Room := { frames := 0, cells := 0, slots := 0, locals := 0 }
set_option maxHeartbeats 40000000 in
set_option maxRecDepth 100000 in
theorem kX9_narrowed (l : Launch) (X : xG) (S : gS) (sz : Nat) (p0 : Int32) (p1 : Int32) (Post : Int32 → Prop) (hf : pX9_narrowed p0 p1 S Post) : xMi l yX9_narrowed (Cond.code yX9_narrowed cX9_narrowed 3 (some .int) :: WS) rX9_narrowed 133 X (cM X) (eM X) S sz [.ref (xa X 0), .int p0, .int p1] (fun r S' => Post r ∧ S = S') := by
  refine xMi.of (cc := cX9_narrowed) (maxL := 3) (own := RX9) (by decide) rfl rfl (Nat.le_of_ble_eq_true rfl) ?_
  intro p e s m args below meth c ls Q hC hQ hw hl
  obtain ⟨hx, hb, hml, hown, hts, hE, hi⟩ := id hC
  have hK := hE.1
  have hl : lv_has ls 3 [(0, .ref (xa X 0)), (1, .int p0), (2, .int p1)] := hl
  have lf_57 : (Cond.fieldLink RX9 57 "GrammarAmbiguityModel" "isWide" "[Z").before args s = true := hts _ q_122
  rw [pX9_narrowed] at hf
  refine lv_aload_n hx hb dX9_narrowed_0 rfl (lv_at hl 0 rfl) ?_
  refine x_get (k := 0) (v := .ref (xa X 12)) hx hb hts i_X9 hown hK hw (by decide) rfl rfl 20 (by decide) lf_57 (fun _ h9 => h9) rfl dX9_narrowed_1 ?_
  refine lv_iload_n hx hb dX9_narrowed_4 rfl (lv_at hl 1 rfl) ?_
  refine x_zld (n := 3) hx hb hK hw (by decide) rfl rfl hf.1 dX9_narrowed_5 ?_
  replace hf := hf.2
  refine lv_if_eq (tgt := 13) hx hb dX9_narrowed_6 (by decide) (fun c_1 => ?_) (fun c_1 => ?_)
  · replace hf := hf.1 c_1
    refine lv_iload_n hx hb dX9_narrowed_13 rfl (lv_at hl 2 rfl) ?_
    refine lv_i2s hx hb dX9_narrowed_14 rfl ?_
    exact hQ _ _ _ _ _ _ rfl ⟨hf, rfl⟩ hw dX9_narrowed_15
  · replace hf := hf.2 c_1
    refine lv_iload_n hx hb dX9_narrowed_9 rfl (lv_at hl 2 rfl) ?_
    refine lv_goto (tgt := 15) hx hb dX9_narrowed_10 (by decide) ?_
    exact hQ _ _ _ _ _ _ rfl ⟨hf, rfl⟩ hw dX9_narrowed_15
def jX9_setElement_65 (p0 : Int32) (p1 : Int32) (p2 : Int32) (Post : Int32 → gS → Prop) (S_9 : gS) (y_13 : Int32) : Prop :=
  (pX9_fails 3 y_13 S_9 (fun r_14 S_15 => ((r_14 = 0 → (vp_in p0 3 ∧ (vp_in p1 40 ∧ (∀ x4_18 : Int32, x4_18 = gA S_15 (64 + p0.toNatClampNeg) p1.toNatClampNeg → (vp_in p0 3 ∧ (pX9_narrowed p0 p2 S_15 (fun r_20 => (vp_in p1 40 ∧ (∀ S_22 : gS, S_22 = uA S_15 (64 + p0.toNatClampNeg) p1.toNatClampNeg r_20 → Post x4_18 S_22))))))))) ∧ (¬ r_14 = 0 → Post 0 S_15))))
def jX9_setElement_36 (p0 : Int32) (p1 : Int32) (p2 : Int32) (Post : Int32 → gS → Prop) (S_5 : gS) (y_7 : Int32) : Prop :=
  (pX9_fails 2 y_7 S_5 (fun r_8 S_9 => ((¬ r_8 = 0 → Post 0 S_9) ∧ (r_8 = 0 → (vp_in p0 3 ∧ (pX9_isBetween p1 0 ((gA S_9 11 p0.toNatClampNeg) - 1) S_9 (fun r_11 => ((¬ r_11 = 0 → jX9_setElement_65 p0 p1 p2 Post S_9 0) ∧ (r_11 = 0 → jX9_setElement_65 p0 p1 p2 Post S_9 1)))))))))
def jX9_setElement_14 (p0 : Int32) (p1 : Int32) (p2 : Int32) (S : gS) (Post : Int32 → gS → Prop) (y_3 : Int32) : Prop :=
  (pX9_fails 1 y_3 S (fun r_4 S_5 => ((¬ r_4 = 0 → Post 0 S_5) ∧ (r_4 = 0 → (vp_in p0 3 ∧ ((0 ≤ (gA S_5 11 p0.toNatClampNeg) → jX9_setElement_36 p0 p1 p2 Post S_5 0) ∧ (¬ 0 ≤ (gA S_5 11 p0.toNatClampNeg) → jX9_setElement_36 p0 p1 p2 Post S_5 1)))))))
def pX9_setElement (p0 : Int32) (p1 : Int32) (p2 : Int32) (S : gS) (Post : Int32 → gS → Prop) : Prop :=
  (pX9_isSlot p0 S (fun r_1 => ((¬ r_1 = 0 → jX9_setElement_14 p0 p1 p2 S Post 0) ∧ (r_1 = 0 → jX9_setElement_14 p0 p1 p2 S Post 1))))
def rX9_setElement : Room := { frames := 2, cells := 0, slots := 0, locals := 42 }
set_option maxHeartbeats 40000000 in
set_option maxRecDepth 100000 in
theorem kX9_setElement (l : Launch) (X : xG) (S : gS) (sz : Nat) (p0 : Int32) (p1 : Int32) (p2 : Int32) (Post : Int32 → gS → Prop) (hf : pX9_setElement p0 p1 p2 S Post) : xMi l yX9_setElement (Cond.code yX9_setElement cX9_setElement 5 (some .int) :: WS) rX9_setElement 133 X (cM X) (eM X) S sz [.ref (xa X 0), .int p0, .int p1, .int p2] Post := by
  refine xMi.of (cc := cX9_setElement) (maxL := 5) (own := RX9) (by decide) rfl rfl (Nat.le_of_ble_eq_true rfl) ?_
  intro p e s m args below meth c ls Q hC hQ hw hl
  obtain ⟨hx, hb, hml, hown, hts, hE, hi⟩ := id hC
  have hK := hE.1
  have hl : lv_has ls 5 [(0, .ref (xa X 0)), (1, .int p0), (2, .int p1), (3, .int p2)] := hl
  have lf_54 : (Cond.fieldLink RX9 54 "GrammarAmbiguityModel" "sizes" "[I").before args s = true := hts _ q_121
  have lf_60 : (Cond.fieldLink RX9 60 "GrammarAmbiguityModel" "elements" "[[I").before args s = true := hts _ q_123
  rw [pX9_setElement] at hf
  refine lv_aload_n hx hb dX9_setElement_0 rfl (lv_at hl 0 rfl) ?_
  refine lv_iconst (v := 1) hx hb dX9_setElement_1 (by decide) ?_
  refine lv_iload_n hx hb dX9_setElement_2 rfl (lv_at hl 1 rfl) ?_
  refine x_ci (x_rS (As := [.int p0]) (rest := [.int 1, .ref (xa X 0)]) (okM X) hC hw (kX9_isSlot l X S _ p0 _ hf) (cwS 1 hts (gSt q_862 q_863 q_5 q_864) rfl rfl rfl (by decide +kernel) ⟨Nat.le_of_ble_eq_true rfl, Nat.le_of_ble_eq_true rfl⟩) rfl hl.1 rfl (Nat.le_of_ble_eq_true rfl) dX9_setElement_3) hw hi (fun r_1 S_2 H locs hf hw => ?_)
  obtain ⟨hf, rfl⟩ := hf
  have w_14 : ∀ (y_3 : Int32) (H : Heap) (locs : List Loc) (ls : Array Slot), jX9_setElement_14 p0 p1 p2 S Post y_3 → xH 133 X (cM X) (xA 133 X s.heap.size) s.heap S H locs → lv_has ls 5 [(0, .ref (xa X 0)), (1, .int p0), (2, .int p1), (3, .int p2)] → W p l e rX9_setElement s m args below meth c H locs 0 0 Q (F0 m 14 ls [.int y_3, .int 1, .ref (xa X 0)]) := by
    intro y_3 H locs ls hf hw hl
    rw [jX9_setElement_14] at hf
    refine x_ci (x_rV (As := [.int 1, .int y_3]) (rest := []) (okM X) hC hw (kX9_fails l X S _ 1 y_3 _ hf) (cwV 2 hts (gV q_163 q_164 q_165 q_5 q_166) rfl rfl rfl (by decide +kernel) ⟨Nat.le_of_ble_eq_true rfl, Nat.le_of_ble_eq_true rfl⟩) (x_recv hK hw (k := 0) (by decide) rfl rfl) rfl hl.1 rfl (Nat.le_of_ble_eq_true rfl) dX9_setElement_14) hw hi (fun r_4 S_5 H locs hf hw => ?_)
    refine lv_if_ne (tgt := 71) hx hb dX9_setElement_17 (by decide) (fun c_6 => ?_) (fun c_6 => ?_)
    · replace hf := hf.1 c_6
      refine lv_iconst (v := 0) hx hb dX9_setElement_71 (by decide) ?_
      exact hQ _ _ _ _ _ _ rfl hf hw dX9_setElement_72
    · replace hf := hf.2 c_6
      refine lv_aload_n hx hb dX9_setElement_20 rfl (lv_at hl 0 rfl) ?_
      refine lv_iconst (v := 2) hx hb dX9_setElement_21 (by decide) ?_
      refine lv_aload_n hx hb dX9_setElement_22 rfl (lv_at hl 0 rfl) ?_
      refine x_get (k := 0) (v := .ref (xa X 11)) hx hb hts i_X9 hown hK hw (by decide) rfl rfl 19 (by decide) lf_54 (fun _ h9 => h9) rfl dX9_setElement_23 ?_
      refine lv_iload_n hx hb dX9_setElement_26 rfl (lv_at hl 1 rfl) ?_
      refine x_ild (n := 3) hx hb hK hw (by decide) rfl rfl hf.1 dX9_setElement_27 ?_
      replace hf := hf.2
      have w_36 : ∀ (y_7 : Int32) (H : Heap) (locs : List Loc) (ls : Array Slot), jX9_setElement_36 p0 p1 p2 Post S_5 y_7 → xH 133 X (cM X) (xA 133 X s.heap.size) s.heap S_5 H locs → lv_has ls 5 [(0, .ref (xa X 0)), (1, .int p0), (2, .int p1), (3, .int p2)] → W p l e rX9_setElement s m args below meth c H locs 0 0 Q (F0 m 36 ls [.int y_7, .int 2, .ref (xa X 0)]) := by
        intro y_7 H locs ls hf hw hl
        rw [jX9_setElement_36] at hf
        refine x_ci (x_rV (As := [.int 2, .int y_7]) (rest := []) (okM X) hC hw (kX9_fails l X S_5 _ 2 y_7 _ hf) (cwV 2 hts (gV q_163 q_164 q_165 q_5 q_166) rfl rfl rfl (by decide +kernel) ⟨Nat.le_of_ble_eq_true rfl, Nat.le_of_ble_eq_true rfl⟩) (x_recv hK hw (k := 0) (by decide) rfl rfl) rfl hl.1 rfl (Nat.le_of_ble_eq_true rfl) dX9_setElement_36) hw hi (fun r_8 S_9 H locs hf hw => ?_)
        refine lv_if_ne (tgt := 71) hx hb dX9_setElement_39 (by decide) (fun c_10 => ?_) (fun c_10 => ?_)
        · replace hf := hf.1 c_10
          refine lv_iconst (v := 0) hx hb dX9_setElement_71 (by decide) ?_
          exact hQ _ _ _ _ _ _ rfl hf hw dX9_setElement_72
        · replace hf := hf.2 c_10
          refine lv_aload_n hx hb dX9_setElement_42 rfl (lv_at hl 0 rfl) ?_
          refine lv_iconst (v := 3) hx hb dX9_setElement_43 (by decide) ?_
          refine lv_iload_n hx hb dX9_setElement_44 rfl (lv_at hl 2 rfl) ?_
          refine lv_iconst (v := 0) hx hb dX9_setElement_45 (by decide) ?_
          refine lv_aload_n hx hb dX9_setElement_46 rfl (lv_at hl 0 rfl) ?_
          refine x_get (k := 0) (v := .ref (xa X 11)) hx hb hts i_X9 hown hK hw (by decide) rfl rfl 19 (by decide) lf_54 (fun _ h9 => h9) rfl dX9_setElement_47 ?_
          refine lv_iload_n hx hb dX9_setElement_50 rfl (lv_at hl 1 rfl) ?_
          refine x_ild (n := 3) hx hb hK hw (by decide) rfl rfl hf.1 dX9_setElement_51 ?_
          replace hf := hf.2
          refine lv_iconst (v := 1) hx hb dX9_setElement_52 (by decide) ?_
          refine lv_isub hx hb dX9_setElement_53 ?_
          refine x_ci (x_rS (As := [.int p1, .int 0, .int ((gA S_9 11 p0.toNatClampNeg) - 1)]) (rest := [.int 3, .ref (xa X 0)]) (okM X) hC hw (kX9_isBetween l X S_9 _ p1 0 ((gA S_9 11 p0.toNatClampNeg) - 1) _ hf) (cwS 3 hts (gSt q_160 q_161 q_5 q_162) rfl rfl rfl (by decide +kernel) ⟨Nat.le_of_ble_eq_true rfl, Nat.le_of_ble_eq_true rfl⟩) rfl hl.1 rfl (Nat.le_of_ble_eq_true rfl) dX9_setElement_54) hw hi (fun r_11 S_12 H locs hf hw => ?_)
          obtain ⟨hf, rfl⟩ := hf
          have w_65 : ∀ (y_13 : Int32) (H : Heap) (locs : List Loc) (ls : Array Slot), jX9_setElement_65 p0 p1 p2 Post S_9 y_13 → xH 133 X (cM X) (xA 133 X s.heap.size) s.heap S_9 H locs → lv_has ls 5 [(0, .ref (xa X 0)), (1, .int p0), (2, .int p1), (3, .int p2)] → W p l e rX9_setElement s m args below meth c H locs 0 0 Q (F0 m 65 ls [.int y_13, .int 3, .ref (xa X 0)]) := by
            intro y_13 H locs ls hf hw hl
            rw [jX9_setElement_65] at hf
            refine x_ci (x_rV (As := [.int 3, .int y_13]) (rest := []) (okM X) hC hw (kX9_fails l X S_9 _ 3 y_13 _ hf) (cwV 2 hts (gV q_163 q_164 q_165 q_5 q_166) rfl rfl rfl (by decide +kernel) ⟨Nat.le_of_ble_eq_true rfl, Nat.le_of_ble_eq_true rfl⟩) (x_recv hK hw (k := 0) (by decide) rfl rfl) rfl hl.1 rfl (Nat.le_of_ble_eq_true rfl) dX9_setElement_65) hw hi (fun r_14 S_15 H locs hf hw => ?_)
            refine lv_if_eq (tgt := 73) hx hb dX9_setElement_68 (by decide) (fun c_16 => ?_) (fun c_16 => ?_)
            · replace hf := hf.1 c_16
              refine lv_aload_n hx hb dX9_setElement_73 rfl (lv_at hl 0 rfl) ?_
              refine x_get (k := 0) (v := .ref (xa X 13)) hx hb hts i_X9 hown hK hw (by decide) rfl rfl 21 (by decide) lf_60 (fun _ h9 => h9) rfl dX9_setElement_74 ?_
              refine lv_iload_n hx hb dX9_setElement_77 rfl (lv_at hl 1 rfl) ?_
              have hb_17 := vp_lt hf.1
              refine x_ald (n := 3) (v := .ref (xa X (64 + p0.toNatClampNeg))) hx hb hK hw (by decide) rfl 3 rfl rfl hf.1 (rf_lt hb_17) dX9_setElement_78 ?_
              replace hf := hf.2
              refine lv_iload_n hx hb dX9_setElement_79 rfl (lv_at hl 2 rfl) ?_
              refine x_ild (n := 40) hx hb hK hw (by omega) (cM_el hb_17) rfl hf.1 dX9_setElement_80 ?_
              replace hf := hf.2
              refine lv_topi (fun x4_18 ex4_18 => ?_)
              replace hf := hf x4_18 ex4_18
              refine lv_istore (lv' := [(4, .int x4_18), (0, .ref (xa X 0)), (1, .int p0), (2, .int p1), (3, .int p2)]) hx hb dX9_setElement_81 hl (by decide) rfl (fun ls hl => ?_)
              refine lv_aload_n hx hb dX9_setElement_83 rfl (lv_at hl 1 rfl) ?_
              refine x_get (k := 0) (v := .ref (xa X 13)) hx hb hts i_X9 hown hK hw (by decide) rfl rfl 21 (by decide) lf_60 (fun _ h9 => h9) rfl dX9_setElement_84 ?_
              refine lv_iload_n hx hb dX9_setElement_87 rfl (lv_at hl 2 rfl) ?_
              have hb_19 := vp_lt hf.1
              refine x_ald (n := 3) (v := .ref (xa X (64 + p0.toNatClampNeg))) hx hb hK hw (by decide) rfl 3 rfl rfl hf.1 (rf_lt hb_19) dX9_setElement_88 ?_
              replace hf := hf.2
              refine lv_iload_n hx hb dX9_setElement_89 rfl (lv_at hl 3 rfl) ?_
              refine lv_aload_n hx hb dX9_setElement_90 rfl (lv_at hl 1 rfl) ?_
              refine lv_iload_n hx hb dX9_setElement_91 rfl (lv_at hl 2 rfl) ?_
              refine lv_iload_n hx hb dX9_setElement_92 rfl (lv_at hl 4 rfl) ?_
              refine x_ci (x_rV (As := [.int p0, .int p2]) (rest := [.int p1, .ref (xa X (64 + p0.toNatClampNeg))]) (okM X) hC hw (kX9_narrowed l X S_15 _ p0 p2 _ hf) (cwV 2 hts (gV q_901 q_902 q_903 q_5 q_904) rfl rfl rfl (by decide +kernel) ⟨Nat.le_of_ble_eq_true rfl, Nat.le_of_ble_eq_true rfl⟩) (x_recv hK hw (k := 0) (by decide) rfl rfl) rfl hl.1 rfl (Nat.le_of_ble_eq_true rfl) dX9_setElement_93) hw hi (fun r_20 S_21 H locs hf hw => ?_)
              obtain ⟨hf, rfl⟩ := hf
              refine x_ist (n := 40) hx hb hK hw (by omega) (cM_el hb_19) rfl hf.1 dX9_setElement_96 (uM_rI (by omega) (fun _ => cM_el hb_19) _ _) (fun H locs hw => ?_)
              replace hf := hf.2
              obtain ⟨S_22, eS_22⟩ : ∃ z : gS, z = uA S_15 (64 + p0.toNatClampNeg) p1.toNatClampNeg r_20 := ⟨_, rfl⟩
              rw [← eS_22] at hw
              replace hf := hf S_22 eS_22
              refine lv_iload hx hb dX9_setElement_97 (lv_at hl 0 rfl) ?_
              exact hQ _ _ _ _ _ _ rfl hf hw dX9_setElement_99
            · replace hf := hf.2 c_16
              refine lv_iconst (v := 0) hx hb dX9_setElement_71 (by decide) ?_
              exact hQ _ _ _ _ _ _ rfl hf hw dX9_setElement_72
          refine lv_if_ne (tgt := 64) hx hb dX9_setElement_57 (by decide) (fun c_23 => ?_) (fun c_23 => ?_)
          · replace hf := hf.1 c_23
            refine lv_iconst (v := 0) hx hb dX9_setElement_64 (by decide) ?_
            exact w_65 0 _ _ _ hf hw (lv_sub hl [0, 1, 2, 3] rfl)
          · replace hf := hf.2 c_23
            refine lv_iconst (v := 1) hx hb dX9_setElement_60 (by decide) ?_
            refine lv_goto (tgt := 65) hx hb dX9_setElement_61 (by decide) ?_
            exact w_65 1 _ _ _ hf hw (lv_sub hl [0, 1, 2, 3] rfl)
      refine lv_if_ge (tgt := 35) hx hb dX9_setElement_28 (by decide) (fun c_24 => ?_) (fun c_24 => ?_)
      · replace hf := hf.1 c_24
        refine lv_iconst (v := 0) hx hb dX9_setElement_35 (by decide) ?_
        exact w_36 0 _ _ _ hf hw (lv_sub hl [0, 1, 2, 3] rfl)
      · replace hf := hf.2 c_24
        refine lv_iconst (v := 1) hx hb dX9_setElement_31 (by decide) ?_
        refine lv_goto (tgt := 36) hx hb dX9_setElement_32 (by decide) ?_
        exact w_36 1 _ _ _ hf hw (lv_sub hl [0, 1, 2, 3] rfl)
  refine lv_if_ne (tgt := 13) hx hb dX9_setElement_6 (by decide) (fun c_25 => ?_) (fun c_25 => ?_)
  · replace hf := hf.1 c_25
    refine lv_iconst (v := 0) hx hb dX9_setElement_13 (by decide) ?_
    exact w_14 0 _ _ _ hf hw (lv_sub hl [0, 1, 2, 3] rfl)
  · replace hf := hf.2 c_25
    refine lv_iconst (v := 1) hx hb dX9_setElement_9 (by decide) ?_
    refine lv_goto (tgt := 14) hx hb dX9_setElement_10 (by decide) ?_
    exact w_14 1 _ _ _ hf hw (lv_sub hl [0, 1, 2, 3] rfl)
def bX9_storeCounts_75 (p0 : Int32) (p1 : Int32) (Post : gS → Prop) (L_75 : Int32 × gS → Prop) (x3_17 : Int32) (S_18 : gS) : Prop :=
  ((6 < x3_17 → Post S_18) ∧ (¬ 6 < x3_17 → (vp_in p0 3 ∧ (pX9_countWords x3_17 3 S_18 (fun r_21 S_22 => (pX9_narrowed p0 r_21 S_22 (fun r_23 => (vp_in ((p1 + x3_17) - 1) 40 ∧ (∀ S_25 : gS, S_25 = uA S_22 (64 + p0.toNatClampNeg) ((p1 + x3_17) - 1).toNatClampNeg r_23 → (∀ x3_26 : Int32, x3_26 = x3_17 + 1 → L_75 (x3_26, S_25)))))))))))
def jX9_storeCounts_66 (p0 : Int32) (p1 : Int32) (Post : gS → Prop) (S_9 : gS) (y_13 : Int32) : Prop :=
  (pX9_fails 3 y_13 S_9 (fun r_14 S_15 => ((r_14 = 0 → ∃ n, lp (fun L x => bX9_storeCounts_75 p0 p1 Post L x.1 x.2) n (1, S_15)) ∧ (¬ r_14 = 0 → Post S_15))))
def jX9_storeCounts_36 (p0 : Int32) (p1 : Int32) (Post : gS → Prop) (S_5 : gS) (y_7 : Int32) : Prop :=
  (pX9_fails 2 y_7 S_5 (fun r_8 S_9 => ((¬ r_8 = 0 → Post S_9) ∧ (r_8 = 0 → (vp_in p0 3 ∧ (pX9_isBetween p1 0 ((gA S_9 11 p0.toNatClampNeg) - 6) S_9 (fun r_11 => ((¬ r_11 = 0 → jX9_storeCounts_66 p0 p1 Post S_9 0) ∧ (r_11 = 0 → jX9_storeCounts_66 p0 p1 Post S_9 1)))))))))
def jX9_storeCounts_14 (p0 : Int32) (p1 : Int32) (S : gS) (Post : gS → Prop) (y_3 : Int32) : Prop :=
  (pX9_fails 1 y_3 S (fun r_4 S_5 => ((¬ r_4 = 0 → Post S_5) ∧ (r_4 = 0 → (vp_in p0 3 ∧ ((0 ≤ (gA S_5 11 p0.toNatClampNeg) → jX9_storeCounts_36 p0 p1 Post S_5 0) ∧ (¬ 0 ≤ (gA S_5 11 p0.toNatClampNeg) → jX9_storeCounts_36 p0 p1 Post S_5 1)))))))
def pX9_storeCounts (p0 : Int32) (p1 : Int32) (S : gS) (Post : gS → Prop) : Prop :=
  (pX9_isSlot p0 S (fun r_1 => ((¬ r_1 = 0 → jX9_storeCounts_14 p0 p1 S Post 0) ∧ (r_1 = 0 → jX9_storeCounts_14 p0 p1 S Post 1))))
def rX9_storeCounts : Room := { frames := 6, cells := 0, slots := 0, locals := 153 }
set_option maxHeartbeats 40000000 in
set_option maxRecDepth 100000 in
theorem kX9_storeCounts (l : Launch) (X : xG) (S : gS) (sz : Nat) (p0 : Int32) (p1 : Int32) (Post : gS → Prop) (hf : pX9_storeCounts p0 p1 S Post) : xMv l yX9_storeCounts (Cond.code yX9_storeCounts cX9_storeCounts 4 none :: WS) rX9_storeCounts 133 X (cM X) (eM X) S sz [.ref (xa X 0), .int p0, .int p1] Post := by
  refine xMv.of (cc := cX9_storeCounts) (maxL := 4) (own := RX9) (by decide) rfl rfl (Nat.le_of_ble_eq_true rfl) ?_
  intro p e s m args below meth c ls Q hC hQ hw hl
  obtain ⟨hx, hb, hml, hown, hts, hE, hi⟩ := id hC
  have hK := hE.1
  have hl : lv_has ls 4 [(0, .ref (xa X 0)), (1, .int p0), (2, .int p1)] := hl
  have lf_54 : (Cond.fieldLink RX9 54 "GrammarAmbiguityModel" "sizes" "[I").before args s = true := hts _ q_121
  have lf_60 : (Cond.fieldLink RX9 60 "GrammarAmbiguityModel" "elements" "[[I").before args s = true := hts _ q_123
  rw [pX9_storeCounts] at hf
  refine lv_aload_n hx hb dX9_storeCounts_0 rfl (lv_at hl 0 rfl) ?_
  refine lv_iconst (v := 1) hx hb dX9_storeCounts_1 (by decide) ?_
  refine lv_iload_n hx hb dX9_storeCounts_2 rfl (lv_at hl 1 rfl) ?_
  refine x_ci (x_rS (As := [.int p0]) (rest := [.int 1, .ref (xa X 0)]) (okM X) hC hw (kX9_isSlot l X S _ p0 _ hf) (cwS 1 hts (gSt q_862 q_863 q_5 q_864) rfl rfl rfl (by decide +kernel) ⟨Nat.le_of_ble_eq_true rfl, Nat.le_of_ble_eq_true rfl⟩) rfl hl.1 rfl (Nat.le_of_ble_eq_true rfl) dX9_storeCounts_3) hw hi (fun r_1 S_2 H locs hf hw => ?_)
  obtain ⟨hf, rfl⟩ := hf
  have w_14 : ∀ (y_3 : Int32) (H : Heap) (locs : List Loc) (ls : Array Slot), jX9_storeCounts_14 p0 p1 S Post y_3 → xH 133 X (cM X) (xA 133 X s.heap.size) s.heap S H locs → lv_has ls 4 [(0, .ref (xa X 0)), (1, .int p0), (2, .int p1)] → W p l e rX9_storeCounts s m args below meth c H locs 0 0 Q (F0 m 14 ls [.int y_3, .int 1, .ref (xa X 0)]) := by
    intro y_3 H locs ls hf hw hl
    rw [jX9_storeCounts_14] at hf
    refine x_ci (x_rV (As := [.int 1, .int y_3]) (rest := []) (okM X) hC hw (kX9_fails l X S _ 1 y_3 _ hf) (cwV 2 hts (gV q_163 q_164 q_165 q_5 q_166) rfl rfl rfl (by decide +kernel) ⟨Nat.le_of_ble_eq_true rfl, Nat.le_of_ble_eq_true rfl⟩) (x_recv hK hw (k := 0) (by decide) rfl rfl) rfl hl.1 rfl (Nat.le_of_ble_eq_true rfl) dX9_storeCounts_14) hw hi (fun r_4 S_5 H locs hf hw => ?_)
    refine lv_if_ne (tgt := 72) hx hb dX9_storeCounts_17 (by decide) (fun c_6 => ?_) (fun c_6 => ?_)
    · replace hf := hf.1 c_6
      exact hQ _ _ _ _ _ hf hw dX9_storeCounts_72
    · replace hf := hf.2 c_6
      refine lv_aload_n hx hb dX9_storeCounts_20 rfl (lv_at hl 0 rfl) ?_
      refine lv_iconst (v := 2) hx hb dX9_storeCounts_21 (by decide) ?_
      refine lv_aload_n hx hb dX9_storeCounts_22 rfl (lv_at hl 0 rfl) ?_
      refine x_get (k := 0) (v := .ref (xa X 11)) hx hb hts i_X9 hown hK hw (by decide) rfl rfl 19 (by decide) lf_54 (fun _ h9 => h9) rfl dX9_storeCounts_23 ?_
      refine lv_iload_n hx hb dX9_storeCounts_26 rfl (lv_at hl 1 rfl) ?_
      refine x_ild (n := 3) hx hb hK hw (by decide) rfl rfl hf.1 dX9_storeCounts_27 ?_
      replace hf := hf.2
      have w_36 : ∀ (y_7 : Int32) (H : Heap) (locs : List Loc) (ls : Array Slot), jX9_storeCounts_36 p0 p1 Post S_5 y_7 → xH 133 X (cM X) (xA 133 X s.heap.size) s.heap S_5 H locs → lv_has ls 4 [(0, .ref (xa X 0)), (1, .int p0), (2, .int p1)] → W p l e rX9_storeCounts s m args below meth c H locs 0 0 Q (F0 m 36 ls [.int y_7, .int 2, .ref (xa X 0)]) := by
        intro y_7 H locs ls hf hw hl
        rw [jX9_storeCounts_36] at hf
        refine x_ci (x_rV (As := [.int 2, .int y_7]) (rest := []) (okM X) hC hw (kX9_fails l X S_5 _ 2 y_7 _ hf) (cwV 2 hts (gV q_163 q_164 q_165 q_5 q_166) rfl rfl rfl (by decide +kernel) ⟨Nat.le_of_ble_eq_true rfl, Nat.le_of_ble_eq_true rfl⟩) (x_recv hK hw (k := 0) (by decide) rfl rfl) rfl hl.1 rfl (Nat.le_of_ble_eq_true rfl) dX9_storeCounts_36) hw hi (fun r_8 S_9 H locs hf hw => ?_)
        refine lv_if_ne (tgt := 72) hx hb dX9_storeCounts_39 (by decide) (fun c_10 => ?_) (fun c_10 => ?_)
        · replace hf := hf.1 c_10
          exact hQ _ _ _ _ _ hf hw dX9_storeCounts_72
        · replace hf := hf.2 c_10
          refine lv_aload_n hx hb dX9_storeCounts_42 rfl (lv_at hl 0 rfl) ?_
          refine lv_iconst (v := 3) hx hb dX9_storeCounts_43 (by decide) ?_
          refine lv_iload_n hx hb dX9_storeCounts_44 rfl (lv_at hl 2 rfl) ?_
          refine lv_iconst (v := 0) hx hb dX9_storeCounts_45 (by decide) ?_
          refine lv_aload_n hx hb dX9_storeCounts_46 rfl (lv_at hl 0 rfl) ?_
          refine x_get (k := 0) (v := .ref (xa X 11)) hx hb hts i_X9 hown hK hw (by decide) rfl rfl 19 (by decide) lf_54 (fun _ h9 => h9) rfl dX9_storeCounts_47 ?_
          refine lv_iload_n hx hb dX9_storeCounts_50 rfl (lv_at hl 1 rfl) ?_
          refine x_ild (n := 3) hx hb hK hw (by decide) rfl rfl hf.1 dX9_storeCounts_51 ?_
          replace hf := hf.2
          refine lv_bipush (v := 6) hx hb dX9_storeCounts_52 (by decide) ?_
          refine lv_isub hx hb dX9_storeCounts_54 ?_
          refine x_ci (x_rS (As := [.int p1, .int 0, .int ((gA S_9 11 p0.toNatClampNeg) - 6)]) (rest := [.int 3, .ref (xa X 0)]) (okM X) hC hw (kX9_isBetween l X S_9 _ p1 0 ((gA S_9 11 p0.toNatClampNeg) - 6) _ hf) (cwS 3 hts (gSt q_160 q_161 q_5 q_162) rfl rfl rfl (by decide +kernel) ⟨Nat.le_of_ble_eq_true rfl, Nat.le_of_ble_eq_true rfl⟩) rfl hl.1 rfl (Nat.le_of_ble_eq_true rfl) dX9_storeCounts_55) hw hi (fun r_11 S_12 H locs hf hw => ?_)
          obtain ⟨hf, rfl⟩ := hf
          have w_66 : ∀ (y_13 : Int32) (H : Heap) (locs : List Loc) (ls : Array Slot), jX9_storeCounts_66 p0 p1 Post S_9 y_13 → xH 133 X (cM X) (xA 133 X s.heap.size) s.heap S_9 H locs → lv_has ls 4 [(0, .ref (xa X 0)), (1, .int p0), (2, .int p1)] → W p l e rX9_storeCounts s m args below meth c H locs 0 0 Q (F0 m 66 ls [.int y_13, .int 3, .ref (xa X 0)]) := by
            intro y_13 H locs ls hf hw hl
            rw [jX9_storeCounts_66] at hf
            refine x_ci (x_rV (As := [.int 3, .int y_13]) (rest := []) (okM X) hC hw (kX9_fails l X S_9 _ 3 y_13 _ hf) (cwV 2 hts (gV q_163 q_164 q_165 q_5 q_166) rfl rfl rfl (by decide +kernel) ⟨Nat.le_of_ble_eq_true rfl, Nat.le_of_ble_eq_true rfl⟩) (x_recv hK hw (k := 0) (by decide) rfl rfl) rfl hl.1 rfl (Nat.le_of_ble_eq_true rfl) dX9_storeCounts_66) hw hi (fun r_14 S_15 H locs hf hw => ?_)
            refine lv_if_eq (tgt := 73) hx hb dX9_storeCounts_69 (by decide) (fun c_16 => ?_) (fun c_16 => ?_)
            · replace hf := hf.1 c_16
              refine lv_iconst (v := 1) hx hb dX9_storeCounts_73 (by decide) ?_
              refine lv_istore_n (lv' := [(3, .int 1), (0, .ref (xa X 0)), (1, .int p0), (2, .int p1)]) hx hb dX9_storeCounts_74 rfl hl (by decide) rfl (fun ls hl => ?_)
              obtain ⟨n_75, hf⟩ := hf
              have w_75 : ∀ (n : Nat) (x3_17 : Int32) (S_18 : gS) (H : Heap) (locs : List Loc) (ls : Array Slot), lp (fun L x => bX9_storeCounts_75 p0 p1 Post L x.1 x.2) n (x3_17, S_18) → xH 133 X (cM X) (xA 133 X s.heap.size) s.heap S_18 H locs → lv_has ls 4 [(0, .ref (xa X 0)), (1, .int p0), (2, .int p1), (3, .int x3_17)] → W p l e rX9_storeCounts s m args below meth c H locs 0 0 Q (F0 m 75 ls []) := by
                intro n
                induction n with
                | zero => intro x3_17 S_18 H locs ls hf; exact hf.elim
                | succ n ih_75 =>
                  intro x3_17 S_18 H locs ls hf hw hl
                  replace hf : bX9_storeCounts_75 p0 p1 Post (lp (fun L x => bX9_storeCounts_75 p0 p1 Post L x.1 x.2) n) x3_17 S_18 := hf
                  generalize lp (fun L x => bX9_storeCounts_75 p0 p1 Post L x.1 x.2) n = L_75 at hf ih_75
                  rw [bX9_storeCounts_75] at hf
                  refine lv_iload_n hx hb dX9_storeCounts_75 rfl (lv_at hl 3 rfl) ?_
                  refine lv_bipush (v := 6) hx hb dX9_storeCounts_76 (by decide) ?_
                  refine lv_icmp_gt (tgt := 110) hx hb dX9_storeCounts_78 (by decide) (fun c_19 => ?_) (fun c_19 => ?_)
                  · replace hf := hf.1 c_19
                    exact hQ _ _ _ _ _ hf hw dX9_storeCounts_110
                  · replace hf := hf.2 c_19
                    refine lv_aload_n hx hb dX9_storeCounts_81 rfl (lv_at hl 0 rfl) ?_
                    refine x_get (k := 0) (v := .ref (xa X 13)) hx hb hts i_X9 hown hK hw (by decide) rfl rfl 21 (by decide) lf_60 (fun _ h9 => h9) rfl dX9_storeCounts_82 ?_
                    refine lv_iload_n hx hb dX9_storeCounts_85 rfl (lv_at hl 1 rfl) ?_
                    have hb_20 := vp_lt hf.1
                    refine x_ald (n := 3) (v := .ref (xa X (64 + p0.toNatClampNeg))) hx hb hK hw (by decide) rfl 3 rfl rfl hf.1 (rf_lt hb_20) dX9_storeCounts_86 ?_
                    replace hf := hf.2
                    refine lv_iload_n hx hb dX9_storeCounts_87 rfl (lv_at hl 2 rfl) ?_
                    refine lv_iload_n hx hb dX9_storeCounts_88 rfl (lv_at hl 3 rfl) ?_
                    refine lv_iadd hx hb dX9_storeCounts_89 ?_
                    refine lv_iconst (v := 1) hx hb dX9_storeCounts_90 (by decide) ?_
                    refine lv_isub hx hb dX9_storeCounts_91 ?_
                    refine lv_aload_n hx hb dX9_storeCounts_92 rfl (lv_at hl 0 rfl) ?_
                    refine lv_iload_n hx hb dX9_storeCounts_93 rfl (lv_at hl 1 rfl) ?_
                    refine lv_aload_n hx hb dX9_storeCounts_94 rfl (lv_at hl 0 rfl) ?_
                    refine lv_iload_n hx hb dX9_storeCounts_95 rfl (lv_at hl 3 rfl) ?_
                    refine lv_iconst (v := 3) hx hb dX9_storeCounts_96 (by decide) ?_
                    refine x_ci (x_rV (As := [.int x3_17, .int 3]) (rest := [.int p0, .ref (xa X 0), .int ((p1 + x3_17) - 1), .ref (xa X (64 + p0.toNatClampNeg))]) (okM X) hC hw (kX9_countWords l X S_18 _ x3_17 3 _ hf) (cwV 2 hts (gV q_595 q_596 q_597 q_5 q_598) rfl rfl rfl (by decide +kernel) ⟨Nat.le_of_ble_eq_true rfl, Nat.le_of_ble_eq_true rfl⟩) (x_recv hK hw (k := 0) (by decide) rfl rfl) rfl hl.1 rfl (Nat.le_of_ble_eq_true rfl) dX9_storeCounts_97) hw hi (fun r_21 S_22 H locs hf hw => ?_)
                    refine x_ci (x_rV (As := [.int p0, .int r_21]) (rest := [.int ((p1 + x3_17) - 1), .ref (xa X (64 + p0.toNatClampNeg))]) (okM X) hC hw (kX9_narrowed l X S_22 _ p0 r_21 _ hf) (cwV 2 hts (gV q_901 q_902 q_903 q_5 q_904) rfl rfl rfl (by decide +kernel) ⟨Nat.le_of_ble_eq_true rfl, Nat.le_of_ble_eq_true rfl⟩) (x_recv hK hw (k := 0) (by decide) rfl rfl) rfl hl.1 rfl (Nat.le_of_ble_eq_true rfl) dX9_storeCounts_100) hw hi (fun r_23 S_24 H locs hf hw => ?_)
                    obtain ⟨hf, rfl⟩ := hf
                    refine x_ist (n := 40) hx hb hK hw (by omega) (cM_el hb_20) rfl hf.1 dX9_storeCounts_103 (uM_rI (by omega) (fun _ => cM_el hb_20) _ _) (fun H locs hw => ?_)
                    replace hf := hf.2
                    obtain ⟨S_25, eS_25⟩ : ∃ z : gS, z = uA S_22 (64 + p0.toNatClampNeg) ((p1 + x3_17) - 1).toNatClampNeg r_23 := ⟨_, rfl⟩
                    rw [← eS_25] at hw
                    replace hf := hf S_25 eS_25
                    obtain ⟨x3_26, ex3_26⟩ : ∃ y : Int32, y = x3_17 + 1 := ⟨_, rfl⟩
                    replace hf := hf x3_26 ex3_26
                    refine lv_iinc (v := x3_26) (lv' := [(3, .int x3_26), (0, .ref (xa X 0)), (1, .int p0), (2, .int p1)]) hx hb dX9_storeCounts_104 hl (k := 3) rfl (by rw [ex3_26]; rfl) (by decide) rfl (fun ls hl => ?_)
                    refine lv_goto (tgt := 75) hx hb dX9_storeCounts_107 (by decide) ?_
                    exact ih_75 x3_26 S_25 _ _ _ hf hw (lv_sub hl [1, 2, 3, 0] rfl)
              exact w_75 n_75 1 S_15 _ _ _ hf hw (lv_sub hl [1, 2, 3, 0] rfl)
            · replace hf := hf.2 c_16
              exact hQ _ _ _ _ _ hf hw dX9_storeCounts_72
          refine lv_if_ne (tgt := 65) hx hb dX9_storeCounts_58 (by decide) (fun c_27 => ?_) (fun c_27 => ?_)
          · replace hf := hf.1 c_27
            refine lv_iconst (v := 0) hx hb dX9_storeCounts_65 (by decide) ?_
            exact w_66 0 _ _ _ hf hw (lv_sub hl [0, 1, 2] rfl)
          · replace hf := hf.2 c_27
            refine lv_iconst (v := 1) hx hb dX9_storeCounts_61 (by decide) ?_
            refine lv_goto (tgt := 66) hx hb dX9_storeCounts_62 (by decide) ?_
            exact w_66 1 _ _ _ hf hw (lv_sub hl [0, 1, 2] rfl)
      refine lv_if_ge (tgt := 35) hx hb dX9_storeCounts_28 (by decide) (fun c_28 => ?_) (fun c_28 => ?_)
      · replace hf := hf.1 c_28
        refine lv_iconst (v := 0) hx hb dX9_storeCounts_35 (by decide) ?_
        exact w_36 0 _ _ _ hf hw (lv_sub hl [0, 1, 2] rfl)
      · replace hf := hf.2 c_28
        refine lv_iconst (v := 1) hx hb dX9_storeCounts_31 (by decide) ?_
        refine lv_goto (tgt := 36) hx hb dX9_storeCounts_32 (by decide) ?_
        exact w_36 1 _ _ _ hf hw (lv_sub hl [0, 1, 2] rfl)
  refine lv_if_ne (tgt := 13) hx hb dX9_storeCounts_6 (by decide) (fun c_29 => ?_) (fun c_29 => ?_)
  · replace hf := hf.1 c_29
    refine lv_iconst (v := 0) hx hb dX9_storeCounts_13 (by decide) ?_
    exact w_14 0 _ _ _ hf hw (lv_sub hl [0, 1, 2] rfl)
  · replace hf := hf.2 c_29
    refine lv_iconst (v := 1) hx hb dX9_storeCounts_9 (by decide) ?_
    refine lv_goto (tgt := 14) hx hb dX9_storeCounts_10 (by decide) ?_
    exact w_14 1 _ _ _ hf hw (lv_sub hl [0, 1, 2] rfl)
def bX9_areTerminals_3 (p0 : Int32) (p1 : Int32) (p2 : Int32) (S : gS) (Post : Int32 → Prop) (L_3 : Int32 → Prop) (x4_1 : Int32) : Prop :=
  ((p2 ≤ x4_1 → Post 1) ∧ (¬ p2 ≤ x4_1 → (vp_in p0 3 ∧ (vp_in (p1 + x4_1) 40 ∧ (pX9_isBetween (gA S (64 + p0.toNatClampNeg) (p1 + x4_1).toNatClampNeg) 0 ((gI S 2) - 1) S (fun r_4 => ((¬ r_4 = 0 → (∀ x4_7 : Int32, x4_7 = x4_1 + 1 → L_3 x4_7)) ∧ (r_4 = 0 → Post 0))))))))
def pX9_areTerminals (p0 : Int32) (p1 : Int32) (p2 : Int32) (S : gS) (Post : Int32 → Prop) : Prop :=
  ∃ n, lp (fun L x => bX9_areTerminals_3 p0 p1 p2 S Post L x) n 0
def rX9_areTerminals : Room := { frames := 1, cells := 0, slots := 0, locals := 22 }
set_option maxHeartbeats 40000000 in
set_option maxRecDepth 100000 in
theorem kX9_areTerminals (l : Launch) (X : xG) (S : gS) (sz : Nat) (p0 : Int32) (p1 : Int32) (p2 : Int32) (Post : Int32 → Prop) (hf : pX9_areTerminals p0 p1 p2 S Post) : xMi l yX9_areTerminals (Cond.code yX9_areTerminals cX9_areTerminals 5 (some .boolean) :: WS) rX9_areTerminals 133 X (cM X) (eM X) S sz [.ref (xa X 0), .int p0, .int p1, .int p2] (fun r S' => Post r ∧ S = S') := by
  refine xMi.of (cc := cX9_areTerminals) (maxL := 5) (own := RX9) (by decide) rfl rfl (Nat.le_of_ble_eq_true rfl) ?_
  intro p e s m args below meth c ls Q hC hQ hw hl
  obtain ⟨hx, hb, hml, hown, hts, hE, hi⟩ := id hC
  have hK := hE.1
  have hl : lv_has ls 5 [(0, .ref (xa X 0)), (1, .int p0), (2, .int p1), (3, .int p2)] := hl
  have lf_60 : (Cond.fieldLink RX9 60 "GrammarAmbiguityModel" "elements" "[[I").before args s = true := hts _ q_123
  have lf_13 : (Cond.fieldLink RX9 13 "GrammarAmbiguityModel" "terminals" "I").before args s = true := hts _ q_108
  rw [pX9_areTerminals] at hf
  refine lv_iconst (v := 0) hx hb dX9_areTerminals_0 (by decide) ?_
  refine lv_istore (lv' := [(4, .int 0), (0, .ref (xa X 0)), (1, .int p0), (2, .int p1), (3, .int p2)]) hx hb dX9_areTerminals_1 hl (by decide) rfl (fun ls hl => ?_)
  obtain ⟨n_3, hf⟩ := hf
  have w_3 : ∀ (n : Nat) (x4_1 : Int32) (H : Heap) (locs : List Loc) (ls : Array Slot), lp (fun L x => bX9_areTerminals_3 p0 p1 p2 S Post L x) n x4_1 → xH 133 X (cM X) (xA 133 X s.heap.size) s.heap S H locs → lv_has ls 5 [(0, .ref (xa X 0)), (1, .int p0), (2, .int p1), (3, .int p2), (4, .int x4_1)] → W p l e rX9_areTerminals s m args below meth c H locs 0 0 Q (F0 m 3 ls []) := by
    intro n
    induction n with
    | zero => intro x4_1 H locs ls hf; exact hf.elim
    | succ n ih_3 =>
      intro x4_1 H locs ls hf hw hl
      replace hf : bX9_areTerminals_3 p0 p1 p2 S Post (lp (fun L x => bX9_areTerminals_3 p0 p1 p2 S Post L x) n) x4_1 := hf
      generalize lp (fun L x => bX9_areTerminals_3 p0 p1 p2 S Post L x) n = L_3 at hf ih_3
      rw [bX9_areTerminals_3] at hf
      refine lv_iload hx hb dX9_areTerminals_3 (lv_at hl 4 rfl) ?_
      refine lv_iload_n hx hb dX9_areTerminals_5 rfl (lv_at hl 3 rfl) ?_
      refine lv_icmp_ge (tgt := 41) hx hb dX9_areTerminals_6 (by decide) (fun c_2 => ?_) (fun c_2 => ?_)
      · replace hf := hf.1 c_2
        refine lv_iconst (v := 1) hx hb dX9_areTerminals_41 (by decide) ?_
        exact hQ _ _ _ _ _ _ rfl ⟨hf, rfl⟩ hw dX9_areTerminals_42
      · replace hf := hf.2 c_2
        refine lv_aload_n hx hb dX9_areTerminals_9 rfl (lv_at hl 0 rfl) ?_
        refine x_get (k := 0) (v := .ref (xa X 13)) hx hb hts i_X9 hown hK hw (by decide) rfl rfl 21 (by decide) lf_60 (fun _ h9 => h9) rfl dX9_areTerminals_10 ?_
        refine lv_iload_n hx hb dX9_areTerminals_13 rfl (lv_at hl 1 rfl) ?_
        have hb_3 := vp_lt hf.1
        refine x_ald (n := 3) (v := .ref (xa X (64 + p0.toNatClampNeg))) hx hb hK hw (by decide) rfl 3 rfl rfl hf.1 (rf_lt hb_3) dX9_areTerminals_14 ?_
        replace hf := hf.2
        refine lv_iload_n hx hb dX9_areTerminals_15 rfl (lv_at hl 2 rfl) ?_
        refine lv_iload hx hb dX9_areTerminals_16 (lv_at hl 4 rfl) ?_
        refine lv_iadd hx hb dX9_areTerminals_18 ?_
        refine x_ild (n := 40) hx hb hK hw (by omega) (cM_el hb_3) rfl hf.1 dX9_areTerminals_19 ?_
        replace hf := hf.2
        refine lv_iconst (v := 0) hx hb dX9_areTerminals_20 (by decide) ?_
        refine lv_aload_n hx hb dX9_areTerminals_21 rfl (lv_at hl 0 rfl) ?_
        refine x_get (k := 0) (v := .int (gI S 2)) hx hb hts i_X9 hown hK hw (by decide) rfl rfl 2 (by decide) lf_13 (fun _ h9 => h9) rfl dX9_areTerminals_22 ?_
        refine lv_iconst (v := 1) hx hb dX9_areTerminals_25 (by decide) ?_
        refine lv_isub hx hb dX9_areTerminals_26 ?_
        refine x_ci (x_rS (As := [.int (gA S (64 + p0.toNatClampNeg) (p1 + x4_1).toNatClampNeg), .int 0, .int ((gI S 2) - 1)]) (rest := []) (okM X) hC hw (kX9_isBetween l X S _ (gA S (64 + p0.toNatClampNeg) (p1 + x4_1).toNatClampNeg) 0 ((gI S 2) - 1) _ hf) (cwS 3 hts (gSt q_160 q_161 q_5 q_162) rfl rfl rfl (by decide +kernel) ⟨Nat.le_of_ble_eq_true rfl, Nat.le_of_ble_eq_true rfl⟩) rfl hl.1 rfl (Nat.le_of_ble_eq_true rfl) dX9_areTerminals_27) hw hi (fun r_4 S_5 H locs hf hw => ?_)
        obtain ⟨hf, rfl⟩ := hf
        refine lv_if_ne (tgt := 35) hx hb dX9_areTerminals_30 (by decide) (fun c_6 => ?_) (fun c_6 => ?_)
        · replace hf := hf.1 c_6
          obtain ⟨x4_7, ex4_7⟩ : ∃ y : Int32, y = x4_1 + 1 := ⟨_, rfl⟩
          replace hf := hf x4_7 ex4_7
          refine lv_iinc (v := x4_7) (lv' := [(4, .int x4_7), (0, .ref (xa X 0)), (1, .int p0), (2, .int p1), (3, .int p2)]) hx hb dX9_areTerminals_35 hl (k := 4) rfl (by rw [ex4_7]; rfl) (by decide) rfl (fun ls hl => ?_)
          refine lv_goto (tgt := 3) hx hb dX9_areTerminals_38 (by decide) ?_
          exact ih_3 x4_7 _ _ _ hf hw (lv_sub hl [1, 2, 3, 4, 0] rfl)
        · replace hf := hf.2 c_6
          refine lv_iconst (v := 0) hx hb dX9_areTerminals_33 (by decide) ?_
          exact hQ _ _ _ _ _ _ rfl ⟨hf, rfl⟩ hw dX9_areTerminals_34
  exact w_3 n_3 0 _ _ _ hf hw (lv_sub hl [1, 2, 3, 4, 0] rfl)
def bX9_loadWord_129 (p0 : Int32) (p1 : Int32) (p2 : Int32) (Post : gS → Prop) (L_129 : Int32 × gS → Prop) (x5_22 : Int32) (S_23 : gS) : Prop :=
  ((p2 ≤ x5_22 → (∀ S_25 : gS, S_25 = uI S_23 5 p2 → (∀ S_26 : gS, S_26 = uI S_25 6 0 → Post S_26))) ∧ (¬ p2 ≤ x5_22 → (vp_in p0 3 ∧ (vp_in (p1 + x5_22) 40 ∧ (vp_in x5_22 8 ∧ (∀ S_28 : gS, S_28 = uA S_23 2 x5_22.toNatClampNeg (gA S_23 (64 + p0.toNatClampNeg) (p1 + x5_22).toNatClampNeg) → (∀ x5_29 : Int32, x5_29 = x5_22 + 1 → L_129 (x5_29, S_28))))))))
def jX9_loadWord_119 (p0 : Int32) (p1 : Int32) (p2 : Int32) (Post : gS → Prop) (S_14 : gS) (y_18 : Int32) : Prop :=
  (pX9_fails 4 y_18 S_14 (fun r_19 S_20 => ((r_19 = 0 → ∃ n, lp (fun L x => bX9_loadWord_129 p0 p1 p2 Post L x.1 x.2) n (0, S_20)) ∧ (¬ r_19 = 0 → Post S_20))))
def jX9_loadWord_96 (p0 : Int32) (p1 : Int32) (p2 : Int32) (Post : gS → Prop) (S_9 : gS) (y_12 : Int32) : Prop :=
  (pX9_fails 3 y_12 S_9 (fun r_13 S_14 => ((¬ r_13 = 0 → Post S_14) ∧ (r_13 = 0 → (pX9_areTerminals p0 p1 p2 S_14 (fun r_16 => ((¬ r_16 = 0 → jX9_loadWord_119 p0 p1 p2 Post S_14 0) ∧ (r_16 = 0 → jX9_loadWord_119 p0 p1 p2 Post S_14 1))))))))
def jX9_loadWord_82 (p0 : Int32) (p1 : Int32) (p2 : Int32) (Post : gS → Prop) (S_9 : gS) (y_11 : Int32) : Prop :=
  ((¬ y_11 = 0 → jX9_loadWord_96 p0 p1 p2 Post S_9 0) ∧ (y_11 = 0 → jX9_loadWord_96 p0 p1 p2 Post S_9 1))
def jX9_loadWord_46 (p0 : Int32) (p1 : Int32) (p2 : Int32) (Post : gS → Prop) (S_5 : gS) (y_7 : Int32) : Prop :=
  (pX9_fails 2 y_7 S_5 (fun r_8 S_9 => ((r_8 = 0 → ((p2 = 0 → jX9_loadWord_82 p0 p1 p2 Post S_9 1) ∧ (¬ p2 = 0 → ((p1 < 0 → jX9_loadWord_82 p0 p1 p2 Post S_9 0) ∧ (¬ p1 < 0 → (vp_in p0 3 ∧ ((0 < (lg_cmp (p1.toInt64 + p2.toInt64) ((gA S_9 11 p0.toNatClampNeg).toInt64)) → jX9_loadWord_82 p0 p1 p2 Post S_9 0) ∧ (¬ 0 < (lg_cmp (p1.toInt64 + p2.toInt64) ((gA S_9 11 p0.toNatClampNeg).toInt64)) → jX9_loadWord_82 p0 p1 p2 Post S_9 1)))))))) ∧ (¬ r_8 = 0 → Post S_9))))
def jX9_loadWord_24 (p0 : Int32) (p1 : Int32) (p2 : Int32) (S : gS) (Post : gS → Prop) (y_3 : Int32) : Prop :=
  (pX9_fails 1 y_3 S (fun r_4 S_5 => ((¬ r_4 = 0 → Post S_5) ∧ (r_4 = 0 → (vp_in p0 3 ∧ ((0 ≤ (gA S_5 11 p0.toNatClampNeg) → jX9_loadWord_46 p0 p1 p2 Post S_5 0) ∧ (¬ 0 ≤ (gA S_5 11 p0.toNatClampNeg) → jX9_loadWord_46 p0 p1 p2 Post S_5 1)))))))
def pX9_loadWord (p0 : Int32) (p1 : Int32) (p2 : Int32) (S : gS) (Post : gS → Prop) : Prop :=
  (pX9_isSlot p0 S (fun r_1 => ((r_1 = 0 → jX9_loadWord_24 p0 p1 p2 S Post 1) ∧ (¬ r_1 = 0 → (pX9_isBetween p2 0 8 S (fun r_37 => ((¬ r_37 = 0 → jX9_loadWord_24 p0 p1 p2 S Post 0) ∧ (r_37 = 0 → jX9_loadWord_24 p0 p1 p2 S Post 1))))))))
def rX9_loadWord : Room := { frames := 2, cells := 0, slots := 0, locals := 46 }
set_option maxHeartbeats 40000000 in
set_option maxRecDepth 100000 in
theorem kX9_loadWord (l : Launch) (X : xG) (S : gS) (sz : Nat) (p0 : Int32) (p1 : Int32) (p2 : Int32) (Post : gS → Prop) (hf : pX9_loadWord p0 p1 p2 S Post) : xMv l yX9_loadWord (Cond.code yX9_loadWord cX9_loadWord 6 none :: WS) rX9_loadWord 133 X (cM X) (eM X) S sz [.ref (xa X 0), .int p0, .int p1, .int p2] Post := by
  refine xMv.of (cc := cX9_loadWord) (maxL := 6) (own := RX9) (by decide) rfl rfl (Nat.le_of_ble_eq_true rfl) ?_
  intro p e s m args below meth c ls Q hC hQ hw hl
  obtain ⟨hx, hb, hml, hown, hts, hE, hi⟩ := id hC
  have hK := hE.1
  have hl : lv_has ls 6 [(0, .ref (xa X 0)), (1, .int p0), (2, .int p1), (3, .int p2)] := hl
  have lf_54 : (Cond.fieldLink RX9 54 "GrammarAmbiguityModel" "sizes" "[I").before args s = true := hts _ q_121
  have lf_86 : (Cond.fieldLink RX9 86 "GrammarAmbiguityModel" "length" "I").before args s = true := hts _ q_158
  have lf_89 : (Cond.fieldLink RX9 89 "GrammarAmbiguityModel" "nodes" "I").before args s = true := hts _ q_159
  have lf_21 : (Cond.fieldLink RX9 21 "GrammarAmbiguityModel" "word" "[I").before args s = true := hts _ q_111
  have lf_60 : (Cond.fieldLink RX9 60 "GrammarAmbiguityModel" "elements" "[[I").before args s = true := hts _ q_123
  rw [pX9_loadWord] at hf
  refine lv_aload_n hx hb dX9_loadWord_0 rfl (lv_at hl 0 rfl) ?_
  refine lv_iconst (v := 1) hx hb dX9_loadWord_1 (by decide) ?_
  refine lv_iload_n hx hb dX9_loadWord_2 rfl (lv_at hl 1 rfl) ?_
  refine x_ci (x_rS (As := [.int p0]) (rest := [.int 1, .ref (xa X 0)]) (okM X) hC hw (kX9_isSlot l X S _ p0 _ hf) (cwS 1 hts (gSt q_862 q_863 q_5 q_864) rfl rfl rfl (by decide +kernel) ⟨Nat.le_of_ble_eq_true rfl, Nat.le_of_ble_eq_true rfl⟩) rfl hl.1 rfl (Nat.le_of_ble_eq_true rfl) dX9_loadWord_3) hw hi (fun r_1 S_2 H locs hf hw => ?_)
  obtain ⟨hf, rfl⟩ := hf
  have w_24 : ∀ (y_3 : Int32) (H : Heap) (locs : List Loc) (ls : Array Slot), jX9_loadWord_24 p0 p1 p2 S Post y_3 → xH 133 X (cM X) (xA 133 X s.heap.size) s.heap S H locs → lv_has ls 6 [(0, .ref (xa X 0)), (1, .int p0), (2, .int p1), (3, .int p2)] → W p l e rX9_loadWord s m args below meth c H locs 0 0 Q (F0 m 24 ls [.int y_3, .int 1, .ref (xa X 0)]) := by
    intro y_3 H locs ls hf hw hl
    rw [jX9_loadWord_24] at hf
    refine x_ci (x_rV (As := [.int 1, .int y_3]) (rest := []) (okM X) hC hw (kX9_fails l X S _ 1 y_3 _ hf) (cwV 2 hts (gV q_163 q_164 q_165 q_5 q_166) rfl rfl rfl (by decide +kernel) ⟨Nat.le_of_ble_eq_true rfl, Nat.le_of_ble_eq_true rfl⟩) (x_recv hK hw (k := 0) (by decide) rfl rfl) rfl hl.1 rfl (Nat.le_of_ble_eq_true rfl) dX9_loadWord_24) hw hi (fun r_4 S_5 H locs hf hw => ?_)
    refine lv_if_ne (tgt := 52) hx hb dX9_loadWord_27 (by decide) (fun c_6 => ?_) (fun c_6 => ?_)
    · replace hf := hf.1 c_6
      exact hQ _ _ _ _ _ hf hw dX9_loadWord_52
    · replace hf := hf.2 c_6
      refine lv_aload_n hx hb dX9_loadWord_30 rfl (lv_at hl 0 rfl) ?_
      refine lv_iconst (v := 2) hx hb dX9_loadWord_31 (by decide) ?_
      refine lv_aload_n hx hb dX9_loadWord_32 rfl (lv_at hl 0 rfl) ?_
      refine x_get (k := 0) (v := .ref (xa X 11)) hx hb hts i_X9 hown hK hw (by decide) rfl rfl 19 (by decide) lf_54 (fun _ h9 => h9) rfl dX9_loadWord_33 ?_
      refine lv_iload_n hx hb dX9_loadWord_36 rfl (lv_at hl 1 rfl) ?_
      refine x_ild (n := 3) hx hb hK hw (by decide) rfl rfl hf.1 dX9_loadWord_37 ?_
      replace hf := hf.2
      have w_46 : ∀ (y_7 : Int32) (H : Heap) (locs : List Loc) (ls : Array Slot), jX9_loadWord_46 p0 p1 p2 Post S_5 y_7 → xH 133 X (cM X) (xA 133 X s.heap.size) s.heap S_5 H locs → lv_has ls 6 [(0, .ref (xa X 0)), (1, .int p0), (2, .int p1), (3, .int p2)] → W p l e rX9_loadWord s m args below meth c H locs 0 0 Q (F0 m 46 ls [.int y_7, .int 2, .ref (xa X 0)]) := by
        intro y_7 H locs ls hf hw hl
        rw [jX9_loadWord_46] at hf
        refine x_ci (x_rV (As := [.int 2, .int y_7]) (rest := []) (okM X) hC hw (kX9_fails l X S_5 _ 2 y_7 _ hf) (cwV 2 hts (gV q_163 q_164 q_165 q_5 q_166) rfl rfl rfl (by decide +kernel) ⟨Nat.le_of_ble_eq_true rfl, Nat.le_of_ble_eq_true rfl⟩) (x_recv hK hw (k := 0) (by decide) rfl rfl) rfl hl.1 rfl (Nat.le_of_ble_eq_true rfl) dX9_loadWord_46) hw hi (fun r_8 S_9 H locs hf hw => ?_)
        refine lv_if_eq (tgt := 53) hx hb dX9_loadWord_49 (by decide) (fun c_10 => ?_) (fun c_10 => ?_)
        · replace hf := hf.1 c_10
          refine lv_iload_n hx hb dX9_loadWord_53 rfl (lv_at hl 3 rfl) ?_
          have w_82 : ∀ (y_11 : Int32) (H : Heap) (locs : List Loc) (ls : Array Slot), jX9_loadWord_82 p0 p1 p2 Post S_9 y_11 → xH 133 X (cM X) (xA 133 X s.heap.size) s.heap S_9 H locs → lv_has ls 6 [(0, .ref (xa X 0)), (1, .int p0), (2, .int p1), (3, .int p2)] → W p l e rX9_loadWord s m args below meth c H locs 0 0 Q (F0 m 82 ls [.int y_11]) := by
            intro y_11 H locs ls hf hw hl
            rw [jX9_loadWord_82] at hf
            refine lv_istore (lv' := [(4, .int y_11), (0, .ref (xa X 0)), (1, .int p0), (2, .int p1), (3, .int p2)]) hx hb dX9_loadWord_82 hl (by decide) rfl (fun ls hl => ?_)
            refine lv_aload_n hx hb dX9_loadWord_84 rfl (lv_at hl 1 rfl) ?_
            refine lv_iconst (v := 3) hx hb dX9_loadWord_85 (by decide) ?_
            refine lv_iload hx hb dX9_loadWord_86 (lv_at hl 0 rfl) ?_
            have w_96 : ∀ (y_12 : Int32) (H : Heap) (locs : List Loc) (ls : Array Slot), jX9_loadWord_96 p0 p1 p2 Post S_9 y_12 → xH 133 X (cM X) (xA 133 X s.heap.size) s.heap S_9 H locs → lv_has ls 6 [(0, .ref (xa X 0)), (1, .int p0), (2, .int p1), (3, .int p2)] → W p l e rX9_loadWord s m args below meth c H locs 0 0 Q (F0 m 96 ls [.int y_12, .int 3, .ref (xa X 0)]) := by
              intro y_12 H locs ls hf hw hl
              rw [jX9_loadWord_96] at hf
              refine x_ci (x_rV (As := [.int 3, .int y_12]) (rest := []) (okM X) hC hw (kX9_fails l X S_9 _ 3 y_12 _ hf) (cwV 2 hts (gV q_163 q_164 q_165 q_5 q_166) rfl rfl rfl (by decide +kernel) ⟨Nat.le_of_ble_eq_true rfl, Nat.le_of_ble_eq_true rfl⟩) (x_recv hK hw (k := 0) (by decide) rfl rfl) rfl hl.1 rfl (Nat.le_of_ble_eq_true rfl) dX9_loadWord_96) hw hi (fun r_13 S_14 H locs hf hw => ?_)
              refine lv_if_ne (tgt := 125) hx hb dX9_loadWord_99 (by decide) (fun c_15 => ?_) (fun c_15 => ?_)
              · replace hf := hf.1 c_15
                exact hQ _ _ _ _ _ hf hw dX9_loadWord_125
              · replace hf := hf.2 c_15
                refine lv_aload_n hx hb dX9_loadWord_102 rfl (lv_at hl 0 rfl) ?_
                refine lv_iconst (v := 4) hx hb dX9_loadWord_103 (by decide) ?_
                refine lv_aload_n hx hb dX9_loadWord_104 rfl (lv_at hl 0 rfl) ?_
                refine lv_iload_n hx hb dX9_loadWord_105 rfl (lv_at hl 1 rfl) ?_
                refine lv_iload_n hx hb dX9_loadWord_106 rfl (lv_at hl 2 rfl) ?_
                refine lv_iload_n hx hb dX9_loadWord_107 rfl (lv_at hl 3 rfl) ?_
                refine x_ci (x_rV (As := [.int p0, .int p1, .int p2]) (rest := [.int 4, .ref (xa X 0)]) (okM X) hC hw (kX9_areTerminals l X S_14 _ p0 p1 p2 _ hf) (cwV 3 hts (gV q_927 q_928 q_929 q_5 q_930) rfl rfl rfl (by decide +kernel) ⟨Nat.le_of_ble_eq_true rfl, Nat.le_of_ble_eq_true rfl⟩) (x_recv hK hw (k := 0) (by decide) rfl rfl) rfl hl.1 rfl (Nat.le_of_ble_eq_true rfl) dX9_loadWord_108) hw hi (fun r_16 S_17 H locs hf hw => ?_)
                obtain ⟨hf, rfl⟩ := hf
                have w_119 : ∀ (y_18 : Int32) (H : Heap) (locs : List Loc) (ls : Array Slot), jX9_loadWord_119 p0 p1 p2 Post S_14 y_18 → xH 133 X (cM X) (xA 133 X s.heap.size) s.heap S_14 H locs → lv_has ls 6 [(0, .ref (xa X 0)), (1, .int p0), (2, .int p1), (3, .int p2)] → W p l e rX9_loadWord s m args below meth c H locs 0 0 Q (F0 m 119 ls [.int y_18, .int 4, .ref (xa X 0)]) := by
                  intro y_18 H locs ls hf hw hl
                  rw [jX9_loadWord_119] at hf
                  refine x_ci (x_rV (As := [.int 4, .int y_18]) (rest := []) (okM X) hC hw (kX9_fails l X S_14 _ 4 y_18 _ hf) (cwV 2 hts (gV q_163 q_164 q_165 q_5 q_166) rfl rfl rfl (by decide +kernel) ⟨Nat.le_of_ble_eq_true rfl, Nat.le_of_ble_eq_true rfl⟩) (x_recv hK hw (k := 0) (by decide) rfl rfl) rfl hl.1 rfl (Nat.le_of_ble_eq_true rfl) dX9_loadWord_119) hw hi (fun r_19 S_20 H locs hf hw => ?_)
                  refine lv_if_eq (tgt := 126) hx hb dX9_loadWord_122 (by decide) (fun c_21 => ?_) (fun c_21 => ?_)
                  · replace hf := hf.1 c_21
                    refine lv_iconst (v := 0) hx hb dX9_loadWord_126 (by decide) ?_
                    refine lv_istore (lv' := [(5, .int 0), (0, .ref (xa X 0)), (1, .int p0), (2, .int p1), (3, .int p2)]) hx hb dX9_loadWord_127 hl (by decide) rfl (fun ls hl => ?_)
                    obtain ⟨n_129, hf⟩ := hf
                    have w_129 : ∀ (n : Nat) (x5_22 : Int32) (S_23 : gS) (H : Heap) (locs : List Loc) (ls : Array Slot), lp (fun L x => bX9_loadWord_129 p0 p1 p2 Post L x.1 x.2) n (x5_22, S_23) → xH 133 X (cM X) (xA 133 X s.heap.size) s.heap S_23 H locs → lv_has ls 6 [(0, .ref (xa X 0)), (1, .int p0), (2, .int p1), (3, .int p2), (5, .int x5_22)] → W p l e rX9_loadWord s m args below meth c H locs 0 0 Q (F0 m 129 ls []) := by
                      intro n
                      induction n with
                      | zero => intro x5_22 S_23 H locs ls hf; exact hf.elim
                      | succ n ih_129 =>
                        intro x5_22 S_23 H locs ls hf hw hl
                        replace hf : bX9_loadWord_129 p0 p1 p2 Post (lp (fun L x => bX9_loadWord_129 p0 p1 p2 Post L x.1 x.2) n) x5_22 S_23 := hf
                        generalize lp (fun L x => bX9_loadWord_129 p0 p1 p2 Post L x.1 x.2) n = L_129 at hf ih_129
                        rw [bX9_loadWord_129] at hf
                        refine lv_iload hx hb dX9_loadWord_129 (lv_at hl 4 rfl) ?_
                        refine lv_iload_n hx hb dX9_loadWord_131 rfl (lv_at hl 3 rfl) ?_
                        refine lv_icmp_ge (tgt := 159) hx hb dX9_loadWord_132 (by decide) (fun c_24 => ?_) (fun c_24 => ?_)
                        · replace hf := hf.1 c_24
                          refine lv_aload_n hx hb dX9_loadWord_159 rfl (lv_at hl 0 rfl) ?_
                          refine lv_iload_n hx hb dX9_loadWord_160 rfl (lv_at hl 3 rfl) ?_
                          refine x_put (k := 0) (S' := uI S_23 5 p2) (ty := .int) hx hb hts i_X9 tyX9_ok nmX9 hown hK hw (by decide) rfl rfl 7 (by decide) lf_86 (fun _ h9 => h9) rfl (by decide +kernel) rfl rfl (Nat.le_of_ble_eq_true rfl) dX9_loadWord_161 (uM_I5 X S_23 _) (fun H locs hw => ?_)
                          obtain ⟨S_25, eS_25⟩ : ∃ z : gS, z = uI S_23 5 p2 := ⟨_, rfl⟩
                          rw [← eS_25] at hw
                          replace hf := hf S_25 eS_25
                          refine lv_aload_n hx hb dX9_loadWord_164 rfl (lv_at hl 0 rfl) ?_
                          refine lv_iconst (v := 0) hx hb dX9_loadWord_165 (by decide) ?_
                          refine x_put (k := 0) (S' := uI S_25 6 0) (ty := .int) hx hb hts i_X9 tyX9_ok nmX9 hown hK hw (by decide) rfl rfl 13 (by decide) lf_89 (fun _ h9 => h9) rfl (by decide +kernel) rfl rfl (Nat.le_of_ble_eq_true rfl) dX9_loadWord_166 (uM_I6 X S_25 _) (fun H locs hw => ?_)
                          obtain ⟨S_26, eS_26⟩ : ∃ z : gS, z = uI S_25 6 0 := ⟨_, rfl⟩
                          rw [← eS_26] at hw
                          replace hf := hf S_26 eS_26
                          exact hQ _ _ _ _ _ hf hw dX9_loadWord_169
                        · replace hf := hf.2 c_24
                          refine lv_aload_n hx hb dX9_loadWord_135 rfl (lv_at hl 0 rfl) ?_
                          refine x_get (k := 0) (v := .ref (xa X 2)) hx hb hts i_X9 hown hK hw (by decide) rfl rfl 6 (by decide) lf_21 (fun _ h9 => h9) rfl dX9_loadWord_136 ?_
                          refine lv_iload hx hb dX9_loadWord_139 (lv_at hl 4 rfl) ?_
                          refine lv_aload_n hx hb dX9_loadWord_141 rfl (lv_at hl 0 rfl) ?_
                          refine x_get (k := 0) (v := .ref (xa X 13)) hx hb hts i_X9 hown hK hw (by decide) rfl rfl 21 (by decide) lf_60 (fun _ h9 => h9) rfl dX9_loadWord_142 ?_
                          refine lv_iload_n hx hb dX9_loadWord_145 rfl (lv_at hl 1 rfl) ?_
                          have hb_27 := vp_lt hf.1
                          refine x_ald (n := 3) (v := .ref (xa X (64 + p0.toNatClampNeg))) hx hb hK hw (by decide) rfl 3 rfl rfl hf.1 (rf_lt hb_27) dX9_loadWord_146 ?_
                          replace hf := hf.2
                          refine lv_iload_n hx hb dX9_loadWord_147 rfl (lv_at hl 2 rfl) ?_
                          refine lv_iload hx hb dX9_loadWord_148 (lv_at hl 4 rfl) ?_
                          refine lv_iadd hx hb dX9_loadWord_150 ?_
                          refine x_ild (n := 40) hx hb hK hw (by omega) (cM_el hb_27) rfl hf.1 dX9_loadWord_151 ?_
                          replace hf := hf.2
                          refine x_ist (n := 8) hx hb hK hw (by decide) rfl rfl hf.1 dX9_loadWord_152 (uM_A2 X S_23 _ _) (fun H locs hw => ?_)
                          replace hf := hf.2
                          obtain ⟨S_28, eS_28⟩ : ∃ z : gS, z = uA S_23 2 x5_22.toNatClampNeg (gA S_23 (64 + p0.toNatClampNeg) (p1 + x5_22).toNatClampNeg) := ⟨_, rfl⟩
                          rw [← eS_28] at hw
                          replace hf := hf S_28 eS_28
                          obtain ⟨x5_29, ex5_29⟩ : ∃ y : Int32, y = x5_22 + 1 := ⟨_, rfl⟩
                          replace hf := hf x5_29 ex5_29
                          refine lv_iinc (v := x5_29) (lv' := [(5, .int x5_29), (0, .ref (xa X 0)), (1, .int p0), (2, .int p1), (3, .int p2)]) hx hb dX9_loadWord_153 hl (k := 4) rfl (by rw [ex5_29]; rfl) (by decide) rfl (fun ls hl => ?_)
                          refine lv_goto (tgt := 129) hx hb dX9_loadWord_156 (by decide) ?_
                          exact ih_129 x5_29 S_28 _ _ _ hf hw (lv_sub hl [1, 2, 3, 4, 0] rfl)
                    exact w_129 n_129 0 S_20 _ _ _ hf hw (lv_sub hl [1, 2, 3, 4, 0] rfl)
                  · replace hf := hf.2 c_21
                    exact hQ _ _ _ _ _ hf hw dX9_loadWord_125
                refine lv_if_ne (tgt := 118) hx hb dX9_loadWord_111 (by decide) (fun c_30 => ?_) (fun c_30 => ?_)
                · replace hf := hf.1 c_30
                  refine lv_iconst (v := 0) hx hb dX9_loadWord_118 (by decide) ?_
                  exact w_119 0 _ _ _ hf hw (lv_sub hl [0, 1, 2, 3] rfl)
                · replace hf := hf.2 c_30
                  refine lv_iconst (v := 1) hx hb dX9_loadWord_114 (by decide) ?_
                  refine lv_goto (tgt := 119) hx hb dX9_loadWord_115 (by decide) ?_
                  exact w_119 1 _ _ _ hf hw (lv_sub hl [0, 1, 2, 3] rfl)
            refine lv_if_ne (tgt := 95) hx hb dX9_loadWord_88 (by decide) (fun c_31 => ?_) (fun c_31 => ?_)
            · replace hf := hf.1 c_31
              refine lv_iconst (v := 0) hx hb dX9_loadWord_95 (by decide) ?_
              exact w_96 0 _ _ _ hf hw (lv_sub hl [1, 2, 3, 4] rfl)
            · replace hf := hf.2 c_31
              refine lv_iconst (v := 1) hx hb dX9_loadWord_91 (by decide) ?_
              refine lv_goto (tgt := 96) hx hb dX9_loadWord_92 (by decide) ?_
              exact w_96 1 _ _ _ hf hw (lv_sub hl [1, 2, 3, 4] rfl)
          refine lv_if_eq (tgt := 77) hx hb dX9_loadWord_54 (by decide) (fun c_32 => ?_) (fun c_32 => ?_)
          · replace hf := hf.1 c_32
            refine lv_iconst (v := 1) hx hb dX9_loadWord_77 (by decide) ?_
            refine lv_goto (tgt := 82) hx hb dX9_loadWord_78 (by decide) ?_
            exact w_82 1 _ _ _ hf hw (lv_sub hl [0, 1, 2, 3] rfl)
          · replace hf := hf.2 c_32
            refine lv_iload_n hx hb dX9_loadWord_57 rfl (lv_at hl 2 rfl) ?_
            refine lv_if_lt (tgt := 81) hx hb dX9_loadWord_58 (by decide) (fun c_33 => ?_) (fun c_33 => ?_)
            · replace hf := hf.1 c_33
              refine lv_iconst (v := 0) hx hb dX9_loadWord_81 (by decide) ?_
              exact w_82 0 _ _ _ hf hw (lv_sub hl [0, 1, 2, 3] rfl)
            · replace hf := hf.2 c_33
              refine lv_iload_n hx hb dX9_loadWord_61 rfl (lv_at hl 2 rfl) ?_
              refine lv_i2l hx hb dX9_loadWord_62 rfl ?_
              refine lv_iload_n hx hb dX9_loadWord_63 rfl (lv_at hl 3 rfl) ?_
              refine lv_i2l hx hb dX9_loadWord_64 rfl ?_
              refine lv_ladd hx hb dX9_loadWord_65 ?_
              refine lv_aload_n hx hb dX9_loadWord_66 rfl (lv_at hl 0 rfl) ?_
              refine x_get (k := 0) (v := .ref (xa X 11)) hx hb hts i_X9 hown hK hw (by decide) rfl rfl 19 (by decide) lf_54 (fun _ h9 => h9) rfl dX9_loadWord_67 ?_
              refine lv_iload_n hx hb dX9_loadWord_70 rfl (lv_at hl 1 rfl) ?_
              refine x_ild (n := 3) hx hb hK hw (by decide) rfl rfl hf.1 dX9_loadWord_71 ?_
              replace hf := hf.2
              refine lv_i2l hx hb dX9_loadWord_72 rfl ?_
              refine W.lcmp hx hb dX9_loadWord_73 ?_
              refine lv_if_gt (tgt := 81) hx hb dX9_loadWord_74 (by decide) (fun c_34 => ?_) (fun c_34 => ?_)
              · replace hf := hf.1 c_34
                refine lv_iconst (v := 0) hx hb dX9_loadWord_81 (by decide) ?_
                exact w_82 0 _ _ _ hf hw (lv_sub hl [0, 1, 2, 3] rfl)
              · replace hf := hf.2 c_34
                refine lv_iconst (v := 1) hx hb dX9_loadWord_77 (by decide) ?_
                refine lv_goto (tgt := 82) hx hb dX9_loadWord_78 (by decide) ?_
                exact w_82 1 _ _ _ hf hw (lv_sub hl [0, 1, 2, 3] rfl)
        · replace hf := hf.2 c_10
          exact hQ _ _ _ _ _ hf hw dX9_loadWord_52
      refine lv_if_ge (tgt := 45) hx hb dX9_loadWord_38 (by decide) (fun c_35 => ?_) (fun c_35 => ?_)
      · replace hf := hf.1 c_35
        refine lv_iconst (v := 0) hx hb dX9_loadWord_45 (by decide) ?_
        exact w_46 0 _ _ _ hf hw (lv_sub hl [0, 1, 2, 3] rfl)
      · replace hf := hf.2 c_35
        refine lv_iconst (v := 1) hx hb dX9_loadWord_41 (by decide) ?_
        refine lv_goto (tgt := 46) hx hb dX9_loadWord_42 (by decide) ?_
        exact w_46 1 _ _ _ hf hw (lv_sub hl [0, 1, 2, 3] rfl)
  refine lv_if_eq (tgt := 19) hx hb dX9_loadWord_6 (by decide) (fun c_36 => ?_) (fun c_36 => ?_)
  · replace hf := hf.1 c_36
    refine lv_iconst (v := 1) hx hb dX9_loadWord_19 (by decide) ?_
    refine lv_goto (tgt := 24) hx hb dX9_loadWord_20 (by decide) ?_
    exact w_24 1 _ _ _ hf hw (lv_sub hl [0, 1, 2, 3] rfl)
  · replace hf := hf.2 c_36
    refine lv_iload_n hx hb dX9_loadWord_9 rfl (lv_at hl 3 rfl) ?_
    refine lv_iconst (v := 0) hx hb dX9_loadWord_10 (by decide) ?_
    refine lv_bipush (v := 8) hx hb dX9_loadWord_11 (by decide) ?_
    refine x_ci (x_rS (As := [.int p2, .int 0, .int 8]) (rest := [.int 1, .ref (xa X 0)]) (okM X) hC hw (kX9_isBetween l X S _ p2 0 8 _ hf) (cwS 3 hts (gSt q_160 q_161 q_5 q_162) rfl rfl rfl (by decide +kernel) ⟨Nat.le_of_ble_eq_true rfl, Nat.le_of_ble_eq_true rfl⟩) rfl hl.1 rfl (Nat.le_of_ble_eq_true rfl) dX9_loadWord_13) hw hi (fun r_37 S_38 H locs hf hw => ?_)
    obtain ⟨hf, rfl⟩ := hf
    refine lv_if_ne (tgt := 23) hx hb dX9_loadWord_16 (by decide) (fun c_39 => ?_) (fun c_39 => ?_)
    · replace hf := hf.1 c_39
      refine lv_iconst (v := 0) hx hb dX9_loadWord_23 (by decide) ?_
      exact w_24 0 _ _ _ hf hw (lv_sub hl [0, 1, 2, 3] rfl)
    · replace hf := hf.2 c_39
      refine lv_iconst (v := 1) hx hb dX9_loadWord_19 (by decide) ?_
      refine lv_goto (tgt := 24) hx hb dX9_loadWord_20 (by decide) ?_
      exact w_24 1 _ _ _ hf hw (lv_sub hl [0, 1, 2, 3] rfl)
def bX9_snapshot_63 (Post : gS → Prop) (L_63 : Int32 × gS → Prop) (x1_10 : Int32) (S_11 : gS) : Prop :=
  ((8 ≤ x1_10 → Post S_11) ∧ (¬ 8 ≤ x1_10 → (vp_in x1_10 8 ∧ (vp_in x1_10 8 ∧ (∀ S_13 : gS, S_13 = uA S_11 15 x1_10.toNatClampNeg (gA S_11 2 x1_10.toNatClampNeg) → (∀ x1_14 : Int32, x1_14 = x1_10 + 1 → L_63 (x1_14, S_13)))))))
def pX9_snapshot (S : gS) (Post : gS → Prop) : Prop :=
  (∀ S_1 : gS, S_1 = uI S 0 0 → (∀ S_2 : gS, S_2 = uI S_1 9 1 → (∀ S_3 : gS, S_3 = uI S_2 10 (gI S_2 1) → (∀ S_4 : gS, S_4 = uI S_3 11 (gI S_3 2) → (∀ S_5 : gS, S_5 = uI S_4 12 (gI S_4 3) → (∀ S_6 : gS, S_6 = uI S_5 13 (gI S_5 4) → (∀ S_7 : gS, S_7 = uI S_6 14 (gI S_6 5) → (pX9_copyTable_s  S_7 (fun S_9 => ∃ n, lp (fun L x => bX9_snapshot_63 Post L x.1 x.2) n (0, S_9))))))))))
def rX9_snapshot : Room := { frames := 1, cells := 0, slots := 0, locals := 23 }
set_option maxHeartbeats 40000000 in
set_option maxRecDepth 100000 in
theorem kX9_snapshot (l : Launch) (X : xG) (S : gS) (sz : Nat) (Post : gS → Prop) (hf : pX9_snapshot S Post) : xMv l yX9_snapshot (Cond.code yX9_snapshot cX9_snapshot 2 none :: WS) rX9_snapshot 133 X (cM X) (eM X) S sz [.ref (xa X 0)] Post := by
  refine xMv.of (cc := cX9_snapshot) (maxL := 2) (own := RX9) (by decide) rfl rfl (Nat.le_of_ble_eq_true rfl) ?_
  intro p e s m args below meth c ls Q hC hQ hw hl
  obtain ⟨hx, hb, hml, hown, hts, hE, hi⟩ := id hC
  have hK := hE.1
  have hl : lv_has ls 2 [(0, .ref (xa X 0))] := hl
  have lf_69 : (Cond.fieldLink RX9 69 "GrammarAmbiguityModel" "thrown" "I").before args s = true := hts _ q_167
  have lf_218 : (Cond.fieldLink RX9 218 "GrammarAmbiguityModel" "isSaved" "Z").before args s = true := hts _ q_945
  have lf_7 : (Cond.fieldLink RX9 7 "GrammarAmbiguityModel" "nonterminals" "I").before args s = true := hts _ q_107
  have lf_221 : (Cond.fieldLink RX9 221 "GrammarAmbiguityModel" "savedNonterminals" "I").before args s = true := hts _ q_946
  have lf_13 : (Cond.fieldLink RX9 13 "GrammarAmbiguityModel" "terminals" "I").before args s = true := hts _ q_108
  have lf_224 : (Cond.fieldLink RX9 224 "GrammarAmbiguityModel" "savedTerminals" "I").before args s = true := hts _ q_947
  have lf_83 : (Cond.fieldLink RX9 83 "GrammarAmbiguityModel" "start" "I").before args s = true := hts _ q_156
  have lf_227 : (Cond.fieldLink RX9 227 "GrammarAmbiguityModel" "savedStart" "I").before args s = true := hts _ q_948
  have lf_76 : (Cond.fieldLink RX9 76 "GrammarAmbiguityModel" "productions" "I").before args s = true := hts _ q_157
  have lf_230 : (Cond.fieldLink RX9 230 "GrammarAmbiguityModel" "savedProductions" "I").before args s = true := hts _ q_949
  have lf_86 : (Cond.fieldLink RX9 86 "GrammarAmbiguityModel" "length" "I").before args s = true := hts _ q_158
  have lf_233 : (Cond.fieldLink RX9 233 "GrammarAmbiguityModel" "savedLength" "I").before args s = true := hts _ q_950
  have lf_18 : (Cond.fieldLink RX9 18 "GrammarAmbiguityModel" "symbols" "[[I").before args s = true := hts _ q_110
  have lf_63 : (Cond.fieldLink RX9 63 "GrammarAmbiguityModel" "savedSymbols" "[[I").before args s = true := hts _ q_124
  have lf_66 : (Cond.fieldLink RX9 66 "GrammarAmbiguityModel" "savedWord" "[I").before args s = true := hts _ q_125
  have lf_21 : (Cond.fieldLink RX9 21 "GrammarAmbiguityModel" "word" "[I").before args s = true := hts _ q_111
  rw [pX9_snapshot] at hf
  refine lv_aload_n hx hb dX9_snapshot_0 rfl (lv_at hl 0 rfl) ?_
  refine lv_iconst (v := 0) hx hb dX9_snapshot_1 (by decide) ?_
  refine x_put (k := 0) (S' := uI S 0 0) (ty := .int) hx hb hts i_X9 tyX9_ok nmX9 hown hK hw (by decide) rfl rfl 0 (by decide) lf_69 (fun _ h9 => h9) rfl (by decide +kernel) rfl rfl (Nat.le_of_ble_eq_true rfl) dX9_snapshot_2 (uM_I0 X S _) (fun H locs hw => ?_)
  obtain ⟨S_1, eS_1⟩ : ∃ z : gS, z = uI S 0 0 := ⟨_, rfl⟩
  rw [← eS_1] at hw
  replace hf := hf S_1 eS_1
  refine lv_aload_n hx hb dX9_snapshot_5 rfl (lv_at hl 0 rfl) ?_
  refine lv_iconst (v := 1) hx hb dX9_snapshot_6 (by decide) ?_
  refine x_put (k := 0) (S' := uI S_1 9 1) (ty := .boolean) hx hb hts i_X9 tyX9_ok nmX9 hown hK hw (by decide) rfl rfl 22 (by decide) lf_218 (fun _ h9 => h9) rfl (by decide +kernel) rfl rfl (Nat.le_of_ble_eq_true rfl) dX9_snapshot_7 (uM_I9 X S_1 _) (fun H locs hw => ?_)
  obtain ⟨S_2, eS_2⟩ : ∃ z : gS, z = uI S_1 9 1 := ⟨_, rfl⟩
  rw [← eS_2] at hw
  replace hf := hf S_2 eS_2
  refine lv_aload_n hx hb dX9_snapshot_10 rfl (lv_at hl 0 rfl) ?_
  refine lv_aload_n hx hb dX9_snapshot_11 rfl (lv_at hl 0 rfl) ?_
  refine x_get (k := 0) (v := .int (gI S_2 1)) hx hb hts i_X9 hown hK hw (by decide) rfl rfl 1 (by decide) lf_7 (fun _ h9 => h9) rfl dX9_snapshot_12 ?_
  refine x_put (k := 0) (S' := uI S_2 10 (gI S_2 1)) (ty := .int) hx hb hts i_X9 tyX9_ok nmX9 hown hK hw (by decide) rfl rfl 23 (by decide) lf_221 (fun _ h9 => h9) rfl (by decide +kernel) rfl rfl (Nat.le_of_ble_eq_true rfl) dX9_snapshot_15 (uM_I10 X S_2 _) (fun H locs hw => ?_)
  obtain ⟨S_3, eS_3⟩ : ∃ z : gS, z = uI S_2 10 (gI S_2 1) := ⟨_, rfl⟩
  rw [← eS_3] at hw
  replace hf := hf S_3 eS_3
  refine lv_aload_n hx hb dX9_snapshot_18 rfl (lv_at hl 0 rfl) ?_
  refine lv_aload_n hx hb dX9_snapshot_19 rfl (lv_at hl 0 rfl) ?_
  refine x_get (k := 0) (v := .int (gI S_3 2)) hx hb hts i_X9 hown hK hw (by decide) rfl rfl 2 (by decide) lf_13 (fun _ h9 => h9) rfl dX9_snapshot_20 ?_
  refine x_put (k := 0) (S' := uI S_3 11 (gI S_3 2)) (ty := .int) hx hb hts i_X9 tyX9_ok nmX9 hown hK hw (by decide) rfl rfl 24 (by decide) lf_224 (fun _ h9 => h9) rfl (by decide +kernel) rfl rfl (Nat.le_of_ble_eq_true rfl) dX9_snapshot_23 (uM_I11 X S_3 _) (fun H locs hw => ?_)
  obtain ⟨S_4, eS_4⟩ : ∃ z : gS, z = uI S_3 11 (gI S_3 2) := ⟨_, rfl⟩
  rw [← eS_4] at hw
  replace hf := hf S_4 eS_4
  refine lv_aload_n hx hb dX9_snapshot_26 rfl (lv_at hl 0 rfl) ?_
  refine lv_aload_n hx hb dX9_snapshot_27 rfl (lv_at hl 0 rfl) ?_
  refine x_get (k := 0) (v := .int (gI S_4 3)) hx hb hts i_X9 hown hK hw (by decide) rfl rfl 3 (by decide) lf_83 (fun _ h9 => h9) rfl dX9_snapshot_28 ?_
  refine x_put (k := 0) (S' := uI S_4 12 (gI S_4 3)) (ty := .int) hx hb hts i_X9 tyX9_ok nmX9 hown hK hw (by decide) rfl rfl 25 (by decide) lf_227 (fun _ h9 => h9) rfl (by decide +kernel) rfl rfl (Nat.le_of_ble_eq_true rfl) dX9_snapshot_31 (uM_I12 X S_4 _) (fun H locs hw => ?_)
  obtain ⟨S_5, eS_5⟩ : ∃ z : gS, z = uI S_4 12 (gI S_4 3) := ⟨_, rfl⟩
  rw [← eS_5] at hw
  replace hf := hf S_5 eS_5
  refine lv_aload_n hx hb dX9_snapshot_34 rfl (lv_at hl 0 rfl) ?_
  refine lv_aload_n hx hb dX9_snapshot_35 rfl (lv_at hl 0 rfl) ?_
  refine x_get (k := 0) (v := .int (gI S_5 4)) hx hb hts i_X9 hown hK hw (by decide) rfl rfl 4 (by decide) lf_76 (fun _ h9 => h9) rfl dX9_snapshot_36 ?_
  refine x_put (k := 0) (S' := uI S_5 13 (gI S_5 4)) (ty := .int) hx hb hts i_X9 tyX9_ok nmX9 hown hK hw (by decide) rfl rfl 26 (by decide) lf_230 (fun _ h9 => h9) rfl (by decide +kernel) rfl rfl (Nat.le_of_ble_eq_true rfl) dX9_snapshot_39 (uM_I13 X S_5 _) (fun H locs hw => ?_)
  obtain ⟨S_6, eS_6⟩ : ∃ z : gS, z = uI S_5 13 (gI S_5 4) := ⟨_, rfl⟩
  rw [← eS_6] at hw
  replace hf := hf S_6 eS_6
  refine lv_aload_n hx hb dX9_snapshot_42 rfl (lv_at hl 0 rfl) ?_
  refine lv_aload_n hx hb dX9_snapshot_43 rfl (lv_at hl 0 rfl) ?_
  refine x_get (k := 0) (v := .int (gI S_6 5)) hx hb hts i_X9 hown hK hw (by decide) rfl rfl 7 (by decide) lf_86 (fun _ h9 => h9) rfl dX9_snapshot_44 ?_
  refine x_put (k := 0) (S' := uI S_6 14 (gI S_6 5)) (ty := .int) hx hb hts i_X9 tyX9_ok nmX9 hown hK hw (by decide) rfl rfl 27 (by decide) lf_233 (fun _ h9 => h9) rfl (by decide +kernel) rfl rfl (Nat.le_of_ble_eq_true rfl) dX9_snapshot_47 (uM_I14 X S_6 _) (fun H locs hw => ?_)
  obtain ⟨S_7, eS_7⟩ : ∃ z : gS, z = uI S_6 14 (gI S_6 5) := ⟨_, rfl⟩
  rw [← eS_7] at hw
  replace hf := hf S_7 eS_7
  refine lv_aload_n hx hb dX9_snapshot_50 rfl (lv_at hl 0 rfl) ?_
  refine x_get (k := 0) (v := .ref (xa X 1)) hx hb hts i_X9 hown hK hw (by decide) rfl rfl 5 (by decide) lf_18 (fun _ h9 => h9) rfl dX9_snapshot_51 ?_
  refine lv_aload_n hx hb dX9_snapshot_54 rfl (lv_at hl 0 rfl) ?_
  refine x_get (k := 0) (v := .ref (xa X 14)) hx hb hts i_X9 hown hK hw (by decide) rfl rfl 28 (by decide) lf_63 (fun _ h9 => h9) rfl dX9_snapshot_55 ?_
  refine x_cv (x_rS (As := [.ref (xa X 1), .ref (xa X 14)]) (rest := []) (okM X) hC hw (kX9_copyTable_s l X S_7 _  _ hf) (cwS 2 hts (gSt q_951 q_952 q_5 q_953) rfl rfl rfl (by decide +kernel) ⟨Nat.le_of_ble_eq_true rfl, Nat.le_of_ble_eq_true rfl⟩) rfl hl.1 rfl (Nat.le_of_ble_eq_true rfl) dX9_snapshot_58) hw hi (fun S_9 H locs hf hw => ?_)
  refine lv_iconst (v := 0) hx hb dX9_snapshot_61 (by decide) ?_
  refine lv_istore_n (lv' := [(1, .int 0), (0, .ref (xa X 0))]) hx hb dX9_snapshot_62 rfl hl (by decide) rfl (fun ls hl => ?_)
  obtain ⟨n_63, hf⟩ := hf
  have w_63 : ∀ (n : Nat) (x1_10 : Int32) (S_11 : gS) (H : Heap) (locs : List Loc) (ls : Array Slot), lp (fun L x => bX9_snapshot_63 Post L x.1 x.2) n (x1_10, S_11) → xH 133 X (cM X) (xA 133 X s.heap.size) s.heap S_11 H locs → lv_has ls 2 [(0, .ref (xa X 0)), (1, .int x1_10)] → W p l e rX9_snapshot s m args below meth c H locs 0 0 Q (F0 m 63 ls []) := by
    intro n
    induction n with
    | zero => intro x1_10 S_11 H locs ls hf; exact hf.elim
    | succ n ih_63 =>
      intro x1_10 S_11 H locs ls hf hw hl
      replace hf : bX9_snapshot_63 Post (lp (fun L x => bX9_snapshot_63 Post L x.1 x.2) n) x1_10 S_11 := hf
      generalize lp (fun L x => bX9_snapshot_63 Post L x.1 x.2) n = L_63 at hf ih_63
      rw [bX9_snapshot_63] at hf
      refine lv_iload_n hx hb dX9_snapshot_63 rfl (lv_at hl 1 rfl) ?_
      refine lv_bipush (v := 8) hx hb dX9_snapshot_64 (by decide) ?_
      refine lv_icmp_ge (tgt := 87) hx hb dX9_snapshot_66 (by decide) (fun c_12 => ?_) (fun c_12 => ?_)
      · replace hf := hf.1 c_12
        exact hQ _ _ _ _ _ hf hw dX9_snapshot_87
      · replace hf := hf.2 c_12
        refine lv_aload_n hx hb dX9_snapshot_69 rfl (lv_at hl 0 rfl) ?_
        refine x_get (k := 0) (v := .ref (xa X 15)) hx hb hts i_X9 hown hK hw (by decide) rfl rfl 29 (by decide) lf_66 (fun _ h9 => h9) rfl dX9_snapshot_70 ?_
        refine lv_iload_n hx hb dX9_snapshot_73 rfl (lv_at hl 1 rfl) ?_
        refine lv_aload_n hx hb dX9_snapshot_74 rfl (lv_at hl 0 rfl) ?_
        refine x_get (k := 0) (v := .ref (xa X 2)) hx hb hts i_X9 hown hK hw (by decide) rfl rfl 6 (by decide) lf_21 (fun _ h9 => h9) rfl dX9_snapshot_75 ?_
        refine lv_iload_n hx hb dX9_snapshot_78 rfl (lv_at hl 1 rfl) ?_
        refine x_ild (n := 8) hx hb hK hw (by decide) rfl rfl hf.1 dX9_snapshot_79 ?_
        replace hf := hf.2
        refine x_ist (n := 8) hx hb hK hw (by decide) rfl rfl hf.1 dX9_snapshot_80 (uM_A15 X S_11 _ _) (fun H locs hw => ?_)
        replace hf := hf.2
        obtain ⟨S_13, eS_13⟩ : ∃ z : gS, z = uA S_11 15 x1_10.toNatClampNeg (gA S_11 2 x1_10.toNatClampNeg) := ⟨_, rfl⟩
        rw [← eS_13] at hw
        replace hf := hf S_13 eS_13
        obtain ⟨x1_14, ex1_14⟩ : ∃ y : Int32, y = x1_10 + 1 := ⟨_, rfl⟩
        replace hf := hf x1_14 ex1_14
        refine lv_iinc (v := x1_14) (lv' := [(1, .int x1_14), (0, .ref (xa X 0))]) hx hb dX9_snapshot_81 hl (k := 1) rfl (by rw [ex1_14]; rfl) (by decide) rfl (fun ls hl => ?_)
        refine lv_goto (tgt := 63) hx hb dX9_snapshot_84 (by decide) ?_
        exact ih_63 x1_14 S_13 _ _ _ hf hw (lv_sub hl [1, 0] rfl)
  exact w_63 n_63 0 S_9 _ _ _ hf hw (lv_sub hl [1, 0] rfl)
def bX9_restore_74 (Post : gS → Prop) (L_74 : Int32 × gS → Prop) (x1_12 : Int32) (S_13 : gS) : Prop :=
  ((8 ≤ x1_12 → (∀ S_15 : gS, S_15 = uI S_13 6 0 → Post S_15)) ∧ (¬ 8 ≤ x1_12 → (vp_in x1_12 8 ∧ (vp_in x1_12 8 ∧ (∀ S_16 : gS, S_16 = uA S_13 2 x1_12.toNatClampNeg (gA S_13 15 x1_12.toNatClampNeg) → (∀ x1_17 : Int32, x1_17 = x1_12 + 1 → L_74 (x1_17, S_16)))))))
def jX9_restore_14 (S : gS) (Post : gS → Prop) (y_1 : Int32) : Prop :=
  (pX9_fails 1 y_1 S (fun r_2 S_3 => ((r_2 = 0 → (∀ S_5 : gS, S_5 = uI S_3 1 (gI S_3 10) → (∀ S_6 : gS, S_6 = uI S_5 2 (gI S_5 11) → (∀ S_7 : gS, S_7 = uI S_6 3 (gI S_6 12) → (∀ S_8 : gS, S_8 = uI S_7 4 (gI S_7 13) → (∀ S_9 : gS, S_9 = uI S_8 5 (gI S_8 14) → (pX9_copyTable_r  S_9 (fun S_11 => ∃ n, lp (fun L x => bX9_restore_74 Post L x.1 x.2) n (0, S_11))))))))) ∧ (¬ r_2 = 0 → Post S_3))))
def pX9_restore (S : gS) (Post : gS → Prop) : Prop :=
  ((¬ (gI S 9) = 0 → jX9_restore_14 S Post 0) ∧ ((gI S 9) = 0 → jX9_restore_14 S Post 1))
def rX9_restore : Room := { frames := 1, cells := 0, slots := 0, locals := 23 }
set_option maxHeartbeats 40000000 in
set_option maxRecDepth 100000 in
theorem kX9_restore (l : Launch) (X : xG) (S : gS) (sz : Nat) (Post : gS → Prop) (hf : pX9_restore S Post) : xMv l yX9_restore (Cond.code yX9_restore cX9_restore 2 none :: WS) rX9_restore 133 X (cM X) (eM X) S sz [.ref (xa X 0)] Post := by
  refine xMv.of (cc := cX9_restore) (maxL := 2) (own := RX9) (by decide) rfl rfl (Nat.le_of_ble_eq_true rfl) ?_
  intro p e s m args below meth c ls Q hC hQ hw hl
  obtain ⟨hx, hb, hml, hown, hts, hE, hi⟩ := id hC
  have hK := hE.1
  have hl : lv_has ls 2 [(0, .ref (xa X 0))] := hl
  have lf_218 : (Cond.fieldLink RX9 218 "GrammarAmbiguityModel" "isSaved" "Z").before args s = true := hts _ q_945
  have lf_221 : (Cond.fieldLink RX9 221 "GrammarAmbiguityModel" "savedNonterminals" "I").before args s = true := hts _ q_946
  have lf_7 : (Cond.fieldLink RX9 7 "GrammarAmbiguityModel" "nonterminals" "I").before args s = true := hts _ q_107
  have lf_224 : (Cond.fieldLink RX9 224 "GrammarAmbiguityModel" "savedTerminals" "I").before args s = true := hts _ q_947
  have lf_13 : (Cond.fieldLink RX9 13 "GrammarAmbiguityModel" "terminals" "I").before args s = true := hts _ q_108
  have lf_227 : (Cond.fieldLink RX9 227 "GrammarAmbiguityModel" "savedStart" "I").before args s = true := hts _ q_948
  have lf_83 : (Cond.fieldLink RX9 83 "GrammarAmbiguityModel" "start" "I").before args s = true := hts _ q_156
  have lf_230 : (Cond.fieldLink RX9 230 "GrammarAmbiguityModel" "savedProductions" "I").before args s = true := hts _ q_949
  have lf_76 : (Cond.fieldLink RX9 76 "GrammarAmbiguityModel" "productions" "I").before args s = true := hts _ q_157
  have lf_233 : (Cond.fieldLink RX9 233 "GrammarAmbiguityModel" "savedLength" "I").before args s = true := hts _ q_950
  have lf_86 : (Cond.fieldLink RX9 86 "GrammarAmbiguityModel" "length" "I").before args s = true := hts _ q_158
  have lf_63 : (Cond.fieldLink RX9 63 "GrammarAmbiguityModel" "savedSymbols" "[[I").before args s = true := hts _ q_124
  have lf_18 : (Cond.fieldLink RX9 18 "GrammarAmbiguityModel" "symbols" "[[I").before args s = true := hts _ q_110
  have lf_89 : (Cond.fieldLink RX9 89 "GrammarAmbiguityModel" "nodes" "I").before args s = true := hts _ q_159
  have lf_21 : (Cond.fieldLink RX9 21 "GrammarAmbiguityModel" "word" "[I").before args s = true := hts _ q_111
  have lf_66 : (Cond.fieldLink RX9 66 "GrammarAmbiguityModel" "savedWord" "[I").before args s = true := hts _ q_125
  rw [pX9_restore] at hf
  refine lv_aload_n hx hb dX9_restore_0 rfl (lv_at hl 0 rfl) ?_
  refine lv_iconst (v := 1) hx hb dX9_restore_1 (by decide) ?_
  refine lv_aload_n hx hb dX9_restore_2 rfl (lv_at hl 0 rfl) ?_
  refine x_get (k := 0) (v := .int (gI S 9)) hx hb hts i_X9 hown hK hw (by decide) rfl rfl 22 (by decide) lf_218 (fun _ h9 => h9) rfl dX9_restore_3 ?_
  have w_14 : ∀ (y_1 : Int32) (H : Heap) (locs : List Loc) (ls : Array Slot), jX9_restore_14 S Post y_1 → xH 133 X (cM X) (xA 133 X s.heap.size) s.heap S H locs → lv_has ls 2 [(0, .ref (xa X 0))] → W p l e rX9_restore s m args below meth c H locs 0 0 Q (F0 m 14 ls [.int y_1, .int 1, .ref (xa X 0)]) := by
    intro y_1 H locs ls hf hw hl
    rw [jX9_restore_14] at hf
    refine x_ci (x_rV (As := [.int 1, .int y_1]) (rest := []) (okM X) hC hw (kX9_fails l X S _ 1 y_1 _ hf) (cwV 2 hts (gV q_163 q_164 q_165 q_5 q_166) rfl rfl rfl (by decide +kernel) ⟨Nat.le_of_ble_eq_true rfl, Nat.le_of_ble_eq_true rfl⟩) (x_recv hK hw (k := 0) (by decide) rfl rfl) rfl hl.1 rfl (Nat.le_of_ble_eq_true rfl) dX9_restore_14) hw hi (fun r_2 S_3 H locs hf hw => ?_)
    refine lv_if_eq (tgt := 21) hx hb dX9_restore_17 (by decide) (fun c_4 => ?_) (fun c_4 => ?_)
    · replace hf := hf.1 c_4
      refine lv_aload_n hx hb dX9_restore_21 rfl (lv_at hl 0 rfl) ?_
      refine lv_aload_n hx hb dX9_restore_22 rfl (lv_at hl 0 rfl) ?_
      refine x_get (k := 0) (v := .int (gI S_3 10)) hx hb hts i_X9 hown hK hw (by decide) rfl rfl 23 (by decide) lf_221 (fun _ h9 => h9) rfl dX9_restore_23 ?_
      refine x_put (k := 0) (S' := uI S_3 1 (gI S_3 10)) (ty := .int) hx hb hts i_X9 tyX9_ok nmX9 hown hK hw (by decide) rfl rfl 1 (by decide) lf_7 (fun _ h9 => h9) rfl (by decide +kernel) rfl rfl (Nat.le_of_ble_eq_true rfl) dX9_restore_26 (uM_I1 X S_3 _) (fun H locs hw => ?_)
      obtain ⟨S_5, eS_5⟩ : ∃ z : gS, z = uI S_3 1 (gI S_3 10) := ⟨_, rfl⟩
      rw [← eS_5] at hw
      replace hf := hf S_5 eS_5
      refine lv_aload_n hx hb dX9_restore_29 rfl (lv_at hl 0 rfl) ?_
      refine lv_aload_n hx hb dX9_restore_30 rfl (lv_at hl 0 rfl) ?_
      refine x_get (k := 0) (v := .int (gI S_5 11)) hx hb hts i_X9 hown hK hw (by decide) rfl rfl 24 (by decide) lf_224 (fun _ h9 => h9) rfl dX9_restore_31 ?_
      refine x_put (k := 0) (S' := uI S_5 2 (gI S_5 11)) (ty := .int) hx hb hts i_X9 tyX9_ok nmX9 hown hK hw (by decide) rfl rfl 2 (by decide) lf_13 (fun _ h9 => h9) rfl (by decide +kernel) rfl rfl (Nat.le_of_ble_eq_true rfl) dX9_restore_34 (uM_I2 X S_5 _) (fun H locs hw => ?_)
      obtain ⟨S_6, eS_6⟩ : ∃ z : gS, z = uI S_5 2 (gI S_5 11) := ⟨_, rfl⟩
      rw [← eS_6] at hw
      replace hf := hf S_6 eS_6
      refine lv_aload_n hx hb dX9_restore_37 rfl (lv_at hl 0 rfl) ?_
      refine lv_aload_n hx hb dX9_restore_38 rfl (lv_at hl 0 rfl) ?_
      refine x_get (k := 0) (v := .int (gI S_6 12)) hx hb hts i_X9 hown hK hw (by decide) rfl rfl 25 (by decide) lf_227 (fun _ h9 => h9) rfl dX9_restore_39 ?_
      refine x_put (k := 0) (S' := uI S_6 3 (gI S_6 12)) (ty := .int) hx hb hts i_X9 tyX9_ok nmX9 hown hK hw (by decide) rfl rfl 3 (by decide) lf_83 (fun _ h9 => h9) rfl (by decide +kernel) rfl rfl (Nat.le_of_ble_eq_true rfl) dX9_restore_42 (uM_I3 X S_6 _) (fun H locs hw => ?_)
      obtain ⟨S_7, eS_7⟩ : ∃ z : gS, z = uI S_6 3 (gI S_6 12) := ⟨_, rfl⟩
      rw [← eS_7] at hw
      replace hf := hf S_7 eS_7
      refine lv_aload_n hx hb dX9_restore_45 rfl (lv_at hl 0 rfl) ?_
      refine lv_aload_n hx hb dX9_restore_46 rfl (lv_at hl 0 rfl) ?_
      refine x_get (k := 0) (v := .int (gI S_7 13)) hx hb hts i_X9 hown hK hw (by decide) rfl rfl 26 (by decide) lf_230 (fun _ h9 => h9) rfl dX9_restore_47 ?_
      refine x_put (k := 0) (S' := uI S_7 4 (gI S_7 13)) (ty := .int) hx hb hts i_X9 tyX9_ok nmX9 hown hK hw (by decide) rfl rfl 4 (by decide) lf_76 (fun _ h9 => h9) rfl (by decide +kernel) rfl rfl (Nat.le_of_ble_eq_true rfl) dX9_restore_50 (uM_I4 X S_7 _) (fun H locs hw => ?_)
      obtain ⟨S_8, eS_8⟩ : ∃ z : gS, z = uI S_7 4 (gI S_7 13) := ⟨_, rfl⟩
      rw [← eS_8] at hw
      replace hf := hf S_8 eS_8
      refine lv_aload_n hx hb dX9_restore_53 rfl (lv_at hl 0 rfl) ?_
      refine lv_aload_n hx hb dX9_restore_54 rfl (lv_at hl 0 rfl) ?_
      refine x_get (k := 0) (v := .int (gI S_8 14)) hx hb hts i_X9 hown hK hw (by decide) rfl rfl 27 (by decide) lf_233 (fun _ h9 => h9) rfl dX9_restore_55 ?_
      refine x_put (k := 0) (S' := uI S_8 5 (gI S_8 14)) (ty := .int) hx hb hts i_X9 tyX9_ok nmX9 hown hK hw (by decide) rfl rfl 7 (by decide) lf_86 (fun _ h9 => h9) rfl (by decide +kernel) rfl rfl (Nat.le_of_ble_eq_true rfl) dX9_restore_58 (uM_I5 X S_8 _) (fun H locs hw => ?_)
      obtain ⟨S_9, eS_9⟩ : ∃ z : gS, z = uI S_8 5 (gI S_8 14) := ⟨_, rfl⟩
      rw [← eS_9] at hw
      replace hf := hf S_9 eS_9
      refine lv_aload_n hx hb dX9_restore_61 rfl (lv_at hl 0 rfl) ?_
      refine x_get (k := 0) (v := .ref (xa X 14)) hx hb hts i_X9 hown hK hw (by decide) rfl rfl 28 (by decide) lf_63 (fun _ h9 => h9) rfl dX9_restore_62 ?_
      refine lv_aload_n hx hb dX9_restore_65 rfl (lv_at hl 0 rfl) ?_
      refine x_get (k := 0) (v := .ref (xa X 1)) hx hb hts i_X9 hown hK hw (by decide) rfl rfl 5 (by decide) lf_18 (fun _ h9 => h9) rfl dX9_restore_66 ?_
      refine x_cv (x_rS (As := [.ref (xa X 14), .ref (xa X 1)]) (rest := []) (okM X) hC hw (kX9_copyTable_r l X S_9 _  _ hf) (cwS 2 hts (gSt q_951 q_952 q_5 q_953) rfl rfl rfl (by decide +kernel) ⟨Nat.le_of_ble_eq_true rfl, Nat.le_of_ble_eq_true rfl⟩) rfl hl.1 rfl (Nat.le_of_ble_eq_true rfl) dX9_restore_69) hw hi (fun S_11 H locs hf hw => ?_)
      refine lv_iconst (v := 0) hx hb dX9_restore_72 (by decide) ?_
      refine lv_istore_n (lv' := [(1, .int 0), (0, .ref (xa X 0))]) hx hb dX9_restore_73 rfl hl (by decide) rfl (fun ls hl => ?_)
      obtain ⟨n_74, hf⟩ := hf
      have w_74 : ∀ (n : Nat) (x1_12 : Int32) (S_13 : gS) (H : Heap) (locs : List Loc) (ls : Array Slot), lp (fun L x => bX9_restore_74 Post L x.1 x.2) n (x1_12, S_13) → xH 133 X (cM X) (xA 133 X s.heap.size) s.heap S_13 H locs → lv_has ls 2 [(0, .ref (xa X 0)), (1, .int x1_12)] → W p l e rX9_restore s m args below meth c H locs 0 0 Q (F0 m 74 ls []) := by
        intro n
        induction n with
        | zero => intro x1_12 S_13 H locs ls hf; exact hf.elim
        | succ n ih_74 =>
          intro x1_12 S_13 H locs ls hf hw hl
          replace hf : bX9_restore_74 Post (lp (fun L x => bX9_restore_74 Post L x.1 x.2) n) x1_12 S_13 := hf
          generalize lp (fun L x => bX9_restore_74 Post L x.1 x.2) n = L_74 at hf ih_74
          rw [bX9_restore_74] at hf
          refine lv_iload_n hx hb dX9_restore_74 rfl (lv_at hl 1 rfl) ?_
          refine lv_bipush (v := 8) hx hb dX9_restore_75 (by decide) ?_
          refine lv_icmp_ge (tgt := 98) hx hb dX9_restore_77 (by decide) (fun c_14 => ?_) (fun c_14 => ?_)
          · replace hf := hf.1 c_14
            refine lv_aload_n hx hb dX9_restore_98 rfl (lv_at hl 0 rfl) ?_
            refine lv_iconst (v := 0) hx hb dX9_restore_99 (by decide) ?_
            refine x_put (k := 0) (S' := uI S_13 6 0) (ty := .int) hx hb hts i_X9 tyX9_ok nmX9 hown hK hw (by decide) rfl rfl 13 (by decide) lf_89 (fun _ h9 => h9) rfl (by decide +kernel) rfl rfl (Nat.le_of_ble_eq_true rfl) dX9_restore_100 (uM_I6 X S_13 _) (fun H locs hw => ?_)
            obtain ⟨S_15, eS_15⟩ : ∃ z : gS, z = uI S_13 6 0 := ⟨_, rfl⟩
            rw [← eS_15] at hw
            replace hf := hf S_15 eS_15
            exact hQ _ _ _ _ _ hf hw dX9_restore_103
          · replace hf := hf.2 c_14
            refine lv_aload_n hx hb dX9_restore_80 rfl (lv_at hl 0 rfl) ?_
            refine x_get (k := 0) (v := .ref (xa X 2)) hx hb hts i_X9 hown hK hw (by decide) rfl rfl 6 (by decide) lf_21 (fun _ h9 => h9) rfl dX9_restore_81 ?_
            refine lv_iload_n hx hb dX9_restore_84 rfl (lv_at hl 1 rfl) ?_
            refine lv_aload_n hx hb dX9_restore_85 rfl (lv_at hl 0 rfl) ?_
            refine x_get (k := 0) (v := .ref (xa X 15)) hx hb hts i_X9 hown hK hw (by decide) rfl rfl 29 (by decide) lf_66 (fun _ h9 => h9) rfl dX9_restore_86 ?_
            refine lv_iload_n hx hb dX9_restore_89 rfl (lv_at hl 1 rfl) ?_
            refine x_ild (n := 8) hx hb hK hw (by decide) rfl rfl hf.1 dX9_restore_90 ?_
            replace hf := hf.2
            refine x_ist (n := 8) hx hb hK hw (by decide) rfl rfl hf.1 dX9_restore_91 (uM_A2 X S_13 _ _) (fun H locs hw => ?_)
            replace hf := hf.2
            obtain ⟨S_16, eS_16⟩ : ∃ z : gS, z = uA S_13 2 x1_12.toNatClampNeg (gA S_13 15 x1_12.toNatClampNeg) := ⟨_, rfl⟩
            rw [← eS_16] at hw
            replace hf := hf S_16 eS_16
            obtain ⟨x1_17, ex1_17⟩ : ∃ y : Int32, y = x1_12 + 1 := ⟨_, rfl⟩
            replace hf := hf x1_17 ex1_17
            refine lv_iinc (v := x1_17) (lv' := [(1, .int x1_17), (0, .ref (xa X 0))]) hx hb dX9_restore_92 hl (k := 1) rfl (by rw [ex1_17]; rfl) (by decide) rfl (fun ls hl => ?_)
            refine lv_goto (tgt := 74) hx hb dX9_restore_95 (by decide) ?_
            exact ih_74 x1_17 S_16 _ _ _ hf hw (lv_sub hl [1, 0] rfl)
      exact w_74 n_74 0 S_11 _ _ _ hf hw (lv_sub hl [1, 0] rfl)
    · replace hf := hf.2 c_4
      exact hQ _ _ _ _ _ hf hw dX9_restore_20
  refine lv_if_ne (tgt := 13) hx hb dX9_restore_6 (by decide) (fun c_18 => ?_) (fun c_18 => ?_)
  · replace hf := hf.1 c_18
    refine lv_iconst (v := 0) hx hb dX9_restore_13 (by decide) ?_
    exact w_14 0 _ _ _ hf hw (lv_sub hl [0] rfl)
  · replace hf := hf.2 c_18
    refine lv_iconst (v := 1) hx hb dX9_restore_9 (by decide) ?_
    refine lv_goto (tgt := 14) hx hb dX9_restore_10 (by decide) ?_
    exact w_14 1 _ _ _ hf hw (lv_sub hl [0] rfl)
