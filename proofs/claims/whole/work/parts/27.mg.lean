/-! Printed by wip/whole/gen: what each method asks (p..), and its contract under that (k..). -/
def jX9_unambiguousShare_14 (p0 : Int32) (S : gS) (Post : UInt64 → gS → Prop) (y_3 : Int32) : Prop :=
  (pX9_fails 1 y_3 S (fun r_4 S_5 => ((r_4 = 0 → (pX9_countWords p0 3 S_5 (fun r_7 S_8 => ((¬ r_7 = 0 → (pX9_countWords p0 1 S_8 (fun r_10 S_11 => (vf_n64 (FP.ddiv (FP.i2d r_10) (FP.i2d r_7)) ∧ Post (FP.ddiv (FP.i2d r_10) (FP.i2d r_7)) S_11)))) ∧ (r_7 = 0 → Post FP.dconst1 S_8))))) ∧ (¬ r_4 = 0 → Post FP.dconst0 S_5))))
def pX9_unambiguousShare (p0 : Int32) (S : gS) (Post : UInt64 → gS → Prop) : Prop :=
  (pX9_isListed p0 S (fun r_1 => ((¬ r_1 = 0 → jX9_unambiguousShare_14 p0 S Post 0) ∧ (r_1 = 0 → jX9_unambiguousShare_14 p0 S Post 1))))
def rX9_unambiguousShare : Room := { frames := 6, cells := 0, slots := 0, locals := 153 }
set_option maxHeartbeats 40000000 in
set_option maxRecDepth 100000 in
theorem kX9_unambiguousShare (l : Launch) (X : xG) (S : gS) (sz : Nat) (p0 : Int32) (Post : UInt64 → gS → Prop) (hf : pX9_unambiguousShare p0 S Post) : xMd l yX9_unambiguousShare (Cond.code yX9_unambiguousShare cX9_unambiguousShare 3 (some .double) :: WS) rX9_unambiguousShare 133 X (cM X) (eM X) S sz [.ref (xa X 0), .int p0] Post := by
  refine xMd.of (cc := cX9_unambiguousShare) (maxL := 3) (own := RX9) (by decide) rfl rfl (Nat.le_of_ble_eq_true rfl) ?_
  intro p e s m args below meth c ls Q hC hQ hw hl
  obtain ⟨hx, hb, hml, hown, hts, hE, hi⟩ := id hC
  have hK := hE.1
  have hl : lv_has ls 3 [(0, .ref (xa X 0)), (1, .int p0)] := hl
  rw [pX9_unambiguousShare] at hf
  refine lv_aload_n hx hb dX9_unambiguousShare_0 rfl (lv_at hl 0 rfl) ?_
  refine lv_iconst (v := 1) hx hb dX9_unambiguousShare_1 (by decide) ?_
  refine lv_iload_n hx hb dX9_unambiguousShare_2 rfl (lv_at hl 1 rfl) ?_
  refine x_ci (x_rS (As := [.int p0]) (rest := [.int 1, .ref (xa X 0)]) (okM X) hC hw (kX9_isListed l X S _ p0 _ hf) (cwS 1 hts (gSt q_592 q_593 q_5 q_594) rfl rfl rfl (by decide +kernel) ⟨Nat.le_of_ble_eq_true rfl, Nat.le_of_ble_eq_true rfl⟩) rfl hl.1 rfl (Nat.le_of_ble_eq_true rfl) dX9_unambiguousShare_3) hw hi (fun r_1 S_2 H locs hf hw => ?_)
  obtain ⟨hf, rfl⟩ := hf
  have w_14 : ∀ (y_3 : Int32) (H : Heap) (locs : List Loc) (ls : Array Slot), jX9_unambiguousShare_14 p0 S Post y_3 → xH 133 X (cM X) (xA 133 X s.heap.size) s.heap S H locs → lv_has ls 3 [(0, .ref (xa X 0)), (1, .int p0)] → W p l e rX9_unambiguousShare s m args below meth c H locs 0 0 Q (F0 m 14 ls [.int y_3, .int 1, .ref (xa X 0)]) := by
    intro y_3 H locs ls hf hw hl
    rw [jX9_unambiguousShare_14] at hf
    refine x_ci (x_rV (As := [.int 1, .int y_3]) (rest := []) (okM X) hC hw (kX9_fails l X S _ 1 y_3 _ hf) (cwV 2 hts (gV q_163 q_164 q_165 q_5 q_166) rfl rfl rfl (by decide +kernel) ⟨Nat.le_of_ble_eq_true rfl, Nat.le_of_ble_eq_true rfl⟩) (x_recv hK hw (k := 0) (by decide) rfl rfl) rfl hl.1 rfl (Nat.le_of_ble_eq_true rfl) dX9_unambiguousShare_14) hw hi (fun r_4 S_5 H locs hf hw => ?_)
    refine lv_if_eq (tgt := 22) hx hb dX9_unambiguousShare_17 (by decide) (fun c_6 => ?_) (fun c_6 => ?_)
    · replace hf := hf.1 c_6
      refine lv_aload_n hx hb dX9_unambiguousShare_22 rfl (lv_at hl 0 rfl) ?_
      refine lv_iload_n hx hb dX9_unambiguousShare_23 rfl (lv_at hl 1 rfl) ?_
      refine lv_iconst (v := 3) hx hb dX9_unambiguousShare_24 (by decide) ?_
      refine x_ci (x_rV (As := [.int p0, .int 3]) (rest := []) (okM X) hC hw (kX9_countWords l X S_5 _ p0 3 _ hf) (cwV 2 hts (gV q_595 q_596 q_597 q_5 q_598) rfl rfl rfl (by decide +kernel) ⟨Nat.le_of_ble_eq_true rfl, Nat.le_of_ble_eq_true rfl⟩) (x_recv hK hw (k := 0) (by decide) rfl rfl) rfl hl.1 rfl (Nat.le_of_ble_eq_true rfl) dX9_unambiguousShare_25) hw hi (fun r_7 S_8 H locs hf hw => ?_)
      refine lv_istore_n (lv' := [(2, .int r_7), (0, .ref (xa X 0)), (1, .int p0)]) hx hb dX9_unambiguousShare_28 rfl hl (by decide) rfl (fun ls hl => ?_)
      refine lv_iload_n hx hb dX9_unambiguousShare_29 rfl (lv_at hl 0 rfl) ?_
      refine lv_if_ne (tgt := 37) hx hb dX9_unambiguousShare_30 (by decide) (fun c_9 => ?_) (fun c_9 => ?_)
      · replace hf := hf.1 c_9
        refine lv_aload_n hx hb dX9_unambiguousShare_37 rfl (lv_at hl 1 rfl) ?_
        refine lv_iload_n hx hb dX9_unambiguousShare_38 rfl (lv_at hl 2 rfl) ?_
        refine lv_iconst (v := 1) hx hb dX9_unambiguousShare_39 (by decide) ?_
        refine x_ci (x_rV (As := [.int p0, .int 1]) (rest := []) (okM X) hC hw (kX9_countWords l X S_8 _ p0 1 _ hf) (cwV 2 hts (gV q_595 q_596 q_597 q_5 q_598) rfl rfl rfl (by decide +kernel) ⟨Nat.le_of_ble_eq_true rfl, Nat.le_of_ble_eq_true rfl⟩) (x_recv hK hw (k := 0) (by decide) rfl rfl) rfl hl.1 rfl (Nat.le_of_ble_eq_true rfl) dX9_unambiguousShare_40) hw hi (fun r_10 S_11 H locs hf hw => ?_)
        refine lv_i2d hx hb dX9_unambiguousShare_43 ?_
        refine lv_iload_n hx hb dX9_unambiguousShare_44 rfl (lv_at hl 0 rfl) ?_
        refine lv_i2d hx hb dX9_unambiguousShare_45 ?_
        refine lv_ddiv hx hb dX9_unambiguousShare_46 hf.1 ?_
        replace hf := hf.2
        exact hQ _ _ _ _ _ _ hf hw dX9_unambiguousShare_47
      · replace hf := hf.2 c_9
        refine lv_dconst1 hx hb dX9_unambiguousShare_33 ?_
        refine lv_goto (tgt := 47) hx hb dX9_unambiguousShare_34 (by decide) ?_
        exact hQ _ _ _ _ _ _ hf hw dX9_unambiguousShare_47
    · replace hf := hf.2 c_6
      refine lv_dconst0 hx hb dX9_unambiguousShare_20 ?_
      exact hQ _ _ _ _ _ _ hf hw dX9_unambiguousShare_21
  refine lv_if_ne (tgt := 13) hx hb dX9_unambiguousShare_6 (by decide) (fun c_12 => ?_) (fun c_12 => ?_)
  · replace hf := hf.1 c_12
    refine lv_iconst (v := 0) hx hb dX9_unambiguousShare_13 (by decide) ?_
    exact w_14 0 _ _ _ hf hw (lv_sub hl [0, 1] rfl)
  · replace hf := hf.2 c_12
    refine lv_iconst (v := 1) hx hb dX9_unambiguousShare_9 (by decide) ?_
    refine lv_goto (tgt := 14) hx hb dX9_unambiguousShare_10 (by decide) ?_
    exact w_14 1 _ _ _ hf hw (lv_sub hl [0, 1] rfl)
def jX9_averageTrees_40 (p0 : Int32) (Post : UInt64 → gS → Prop) (r_7 : Int32) (S_8 : gS) (y_9 : Int32) : Prop :=
  (pX9_fails 2 y_9 S_8 (fun r_10 S_11 => ((r_10 = 0 → (pX9_countByLength  S_11 (fun S_14 => (vp_in (gI S_14 3) 6 ∧ (vp_in p0 11 ∧ (vf_n64 (FP.ddiv (FP.l2d (gB S_14 (67 + (gI S_14 3).toNatClampNeg) p0.toNatClampNeg)) (FP.i2d r_7)) ∧ Post (FP.ddiv (FP.l2d (gB S_14 (67 + (gI S_14 3).toNatClampNeg) p0.toNatClampNeg)) (FP.i2d r_7)) S_14)))))) ∧ (¬ r_10 = 0 → Post FP.dconst0 S_11))))
def jX9_averageTrees_14 (p0 : Int32) (S : gS) (Post : UInt64 → gS → Prop) (y_3 : Int32) : Prop :=
  (pX9_fails 1 y_3 S (fun r_4 S_5 => ((r_4 = 0 → (pX9_countWords p0 3 S_5 (fun r_7 S_8 => ((¬ r_7 = 0 → jX9_averageTrees_40 p0 Post r_7 S_8 0) ∧ (r_7 = 0 → jX9_averageTrees_40 p0 Post r_7 S_8 1))))) ∧ (¬ r_4 = 0 → Post FP.dconst0 S_5))))
def pX9_averageTrees (p0 : Int32) (S : gS) (Post : UInt64 → gS → Prop) : Prop :=
  (pX9_isListed p0 S (fun r_1 => ((¬ r_1 = 0 → jX9_averageTrees_14 p0 S Post 0) ∧ (r_1 = 0 → jX9_averageTrees_14 p0 S Post 1))))
def rX9_averageTrees : Room := { frames := 6, cells := 0, slots := 0, locals := 153 }
set_option maxHeartbeats 40000000 in
set_option maxRecDepth 100000 in
theorem kX9_averageTrees (l : Launch) (X : xG) (S : gS) (sz : Nat) (p0 : Int32) (Post : UInt64 → gS → Prop) (hf : pX9_averageTrees p0 S Post) : xMd l yX9_averageTrees (Cond.code yX9_averageTrees cX9_averageTrees 3 (some .double) :: WS) rX9_averageTrees 133 X (cM X) (eM X) S sz [.ref (xa X 0), .int p0] Post := by
  refine xMd.of (cc := cX9_averageTrees) (maxL := 3) (own := RX9) (by decide) rfl rfl (Nat.le_of_ble_eq_true rfl) ?_
  intro p e s m args below meth c ls Q hC hQ hw hl
  obtain ⟨hx, hb, hml, hown, hts, hE, hi⟩ := id hC
  have hK := hE.1
  have hl : lv_has ls 3 [(0, .ref (xa X 0)), (1, .int p0)] := hl
  have lf_34 : (Cond.fieldLink RX9 34 "GrammarAmbiguityModel" "byLength" "[[J").before args s = true := hts _ q_115
  have lf_83 : (Cond.fieldLink RX9 83 "GrammarAmbiguityModel" "start" "I").before args s = true := hts _ q_156
  rw [pX9_averageTrees] at hf
  refine lv_aload_n hx hb dX9_averageTrees_0 rfl (lv_at hl 0 rfl) ?_
  refine lv_iconst (v := 1) hx hb dX9_averageTrees_1 (by decide) ?_
  refine lv_iload_n hx hb dX9_averageTrees_2 rfl (lv_at hl 1 rfl) ?_
  refine x_ci (x_rS (As := [.int p0]) (rest := [.int 1, .ref (xa X 0)]) (okM X) hC hw (kX9_isListed l X S _ p0 _ hf) (cwS 1 hts (gSt q_592 q_593 q_5 q_594) rfl rfl rfl (by decide +kernel) ⟨Nat.le_of_ble_eq_true rfl, Nat.le_of_ble_eq_true rfl⟩) rfl hl.1 rfl (Nat.le_of_ble_eq_true rfl) dX9_averageTrees_3) hw hi (fun r_1 S_2 H locs hf hw => ?_)
  obtain ⟨hf, rfl⟩ := hf
  have w_14 : ∀ (y_3 : Int32) (H : Heap) (locs : List Loc) (ls : Array Slot), jX9_averageTrees_14 p0 S Post y_3 → xH 133 X (cM X) (xA 133 X s.heap.size) s.heap S H locs → lv_has ls 3 [(0, .ref (xa X 0)), (1, .int p0)] → W p l e rX9_averageTrees s m args below meth c H locs 0 0 Q (F0 m 14 ls [.int y_3, .int 1, .ref (xa X 0)]) := by
    intro y_3 H locs ls hf hw hl
    rw [jX9_averageTrees_14] at hf
    refine x_ci (x_rV (As := [.int 1, .int y_3]) (rest := []) (okM X) hC hw (kX9_fails l X S _ 1 y_3 _ hf) (cwV 2 hts (gV q_163 q_164 q_165 q_5 q_166) rfl rfl rfl (by decide +kernel) ⟨Nat.le_of_ble_eq_true rfl, Nat.le_of_ble_eq_true rfl⟩) (x_recv hK hw (k := 0) (by decide) rfl rfl) rfl hl.1 rfl (Nat.le_of_ble_eq_true rfl) dX9_averageTrees_14) hw hi (fun r_4 S_5 H locs hf hw => ?_)
    refine lv_if_eq (tgt := 22) hx hb dX9_averageTrees_17 (by decide) (fun c_6 => ?_) (fun c_6 => ?_)
    · replace hf := hf.1 c_6
      refine lv_aload_n hx hb dX9_averageTrees_22 rfl (lv_at hl 0 rfl) ?_
      refine lv_iload_n hx hb dX9_averageTrees_23 rfl (lv_at hl 1 rfl) ?_
      refine lv_iconst (v := 3) hx hb dX9_averageTrees_24 (by decide) ?_
      refine x_ci (x_rV (As := [.int p0, .int 3]) (rest := []) (okM X) hC hw (kX9_countWords l X S_5 _ p0 3 _ hf) (cwV 2 hts (gV q_595 q_596 q_597 q_5 q_598) rfl rfl rfl (by decide +kernel) ⟨Nat.le_of_ble_eq_true rfl, Nat.le_of_ble_eq_true rfl⟩) (x_recv hK hw (k := 0) (by decide) rfl rfl) rfl hl.1 rfl (Nat.le_of_ble_eq_true rfl) dX9_averageTrees_25) hw hi (fun r_7 S_8 H locs hf hw => ?_)
      refine lv_istore_n (lv' := [(2, .int r_7), (0, .ref (xa X 0)), (1, .int p0)]) hx hb dX9_averageTrees_28 rfl hl (by decide) rfl (fun ls hl => ?_)
      refine lv_aload_n hx hb dX9_averageTrees_29 rfl (lv_at hl 1 rfl) ?_
      refine lv_iconst (v := 2) hx hb dX9_averageTrees_30 (by decide) ?_
      refine lv_iload_n hx hb dX9_averageTrees_31 rfl (lv_at hl 0 rfl) ?_
      have w_40 : ∀ (y_9 : Int32) (H : Heap) (locs : List Loc) (ls : Array Slot), jX9_averageTrees_40 p0 Post r_7 S_8 y_9 → xH 133 X (cM X) (xA 133 X s.heap.size) s.heap S_8 H locs → lv_has ls 3 [(0, .ref (xa X 0)), (1, .int p0), (2, .int r_7)] → W p l e rX9_averageTrees s m args below meth c H locs 0 0 Q (F0 m 40 ls [.int y_9, .int 2, .ref (xa X 0)]) := by
        intro y_9 H locs ls hf hw hl
        rw [jX9_averageTrees_40] at hf
        refine x_ci (x_rV (As := [.int 2, .int y_9]) (rest := []) (okM X) hC hw (kX9_fails l X S_8 _ 2 y_9 _ hf) (cwV 2 hts (gV q_163 q_164 q_165 q_5 q_166) rfl rfl rfl (by decide +kernel) ⟨Nat.le_of_ble_eq_true rfl, Nat.le_of_ble_eq_true rfl⟩) (x_recv hK hw (k := 0) (by decide) rfl rfl) rfl hl.1 rfl (Nat.le_of_ble_eq_true rfl) dX9_averageTrees_40) hw hi (fun r_10 S_11 H locs hf hw => ?_)
        refine lv_if_eq (tgt := 48) hx hb dX9_averageTrees_43 (by decide) (fun c_12 => ?_) (fun c_12 => ?_)
        · replace hf := hf.1 c_12
          refine lv_aload_n hx hb dX9_averageTrees_48 rfl (lv_at hl 0 rfl) ?_
          refine x_cv (x_rV (As := []) (rest := []) (okM X) hC hw (kX9_countByLength l X S_11 _  _ hf) (cwV 0 hts (gV q_525 q_526 q_527 q_5 q_528) rfl rfl rfl (by decide +kernel) ⟨Nat.le_of_ble_eq_true rfl, Nat.le_of_ble_eq_true rfl⟩) (x_recv hK hw (k := 0) (by decide) rfl rfl) rfl hl.1 rfl (Nat.le_of_ble_eq_true rfl) dX9_averageTrees_49) hw hi (fun S_14 H locs hf hw => ?_)
          refine lv_aload_n hx hb dX9_averageTrees_52 rfl (lv_at hl 0 rfl) ?_
          refine x_get (k := 0) (v := .ref (xa X 5)) hx hb hts i_X9 hown hK hw (by decide) rfl rfl 10 (by decide) lf_34 (fun _ h9 => h9) rfl dX9_averageTrees_53 ?_
          refine lv_aload_n hx hb dX9_averageTrees_56 rfl (lv_at hl 0 rfl) ?_
          refine x_get (k := 0) (v := .int (gI S_14 3)) hx hb hts i_X9 hown hK hw (by decide) rfl rfl 3 (by decide) lf_83 (fun _ h9 => h9) rfl dX9_averageTrees_57 ?_
          have hb_15 := vp_lt hf.1
          refine x_ald (n := 6) (v := .ref (xa X (67 + (gI S_14 3).toNatClampNeg))) hx hb hK hw (by decide) rfl 4 rfl rfl hf.1 (rf_lt hb_15) dX9_averageTrees_60 ?_
          replace hf := hf.2
          refine lv_iload_n hx hb dX9_averageTrees_61 rfl (lv_at hl 1 rfl) ?_
          refine x_lld (n := 11) hx hb hK hw (by omega) (cM_bl hb_15) rfl hf.1 dX9_averageTrees_62 ?_
          replace hf := hf.2
          refine lv_l2d hx hb dX9_averageTrees_63 ?_
          refine lv_iload_n hx hb dX9_averageTrees_64 rfl (lv_at hl 2 rfl) ?_
          refine lv_i2d hx hb dX9_averageTrees_65 ?_
          refine lv_ddiv hx hb dX9_averageTrees_66 hf.1 ?_
          replace hf := hf.2
          exact hQ _ _ _ _ _ _ hf hw dX9_averageTrees_67
        · replace hf := hf.2 c_12
          refine lv_dconst0 hx hb dX9_averageTrees_46 ?_
          exact hQ _ _ _ _ _ _ hf hw dX9_averageTrees_47
      refine lv_if_ne (tgt := 39) hx hb dX9_averageTrees_32 (by decide) (fun c_16 => ?_) (fun c_16 => ?_)
      · replace hf := hf.1 c_16
        refine lv_iconst (v := 0) hx hb dX9_averageTrees_39 (by decide) ?_
        exact w_40 0 _ _ _ hf hw (lv_sub hl [1, 2, 0] rfl)
      · replace hf := hf.2 c_16
        refine lv_iconst (v := 1) hx hb dX9_averageTrees_35 (by decide) ?_
        refine lv_goto (tgt := 40) hx hb dX9_averageTrees_36 (by decide) ?_
        exact w_40 1 _ _ _ hf hw (lv_sub hl [1, 2, 0] rfl)
    · replace hf := hf.2 c_6
      refine lv_dconst0 hx hb dX9_averageTrees_20 ?_
      exact hQ _ _ _ _ _ _ hf hw dX9_averageTrees_21
  refine lv_if_ne (tgt := 13) hx hb dX9_averageTrees_6 (by decide) (fun c_17 => ?_) (fun c_17 => ?_)
  · replace hf := hf.1 c_17
    refine lv_iconst (v := 0) hx hb dX9_averageTrees_13 (by decide) ?_
    exact w_14 0 _ _ _ hf hw (lv_sub hl [0, 1] rfl)
  · replace hf := hf.2 c_17
    refine lv_iconst (v := 1) hx hb dX9_averageTrees_9 (by decide) ?_
    refine lv_goto (tgt := 14) hx hb dX9_averageTrees_10 (by decide) ?_
    exact w_14 1 _ _ _ hf hw (lv_sub hl [0, 1] rfl)
