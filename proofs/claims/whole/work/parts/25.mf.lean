/-! Printed by wip/whole/gen: what each method asks (p..), and its contract under that (k..). -/
def jX9_drawTree_52 (p0 : Int64) (p1 : Int32) (Post : Int64 → gS → Prop) (S_8 : gS) (y_10 : Int32) : Prop :=
  (pX9_fails 2 y_10 S_8 (fun r_11 S_12 => ((r_11 = 0 → (vp_in (gI S_12 3) 6 ∧ (vp_in p1 11 ∧ (pX9_drawn p0 (gB S_12 (67 + (gI S_12 3).toNatClampNeg) p1.toNatClampNeg) S_12 (fun r_15 => (∀ S_17 : gS, S_17 = uI S_12 7 0 → (∀ S_18 : gS, S_18 = uI S_17 6 0 → (pX9_build 10 (gI S_18 3) 0 p1 r_15 S_18 (fun S_20 => (∀ x6_21 : Int32, x6_21 = gI S_20 6 → (pX9_take p1 S_20 (fun S_23 => (∀ S_24 : gS, S_24 = uI S_23 6 x6_21 → Post r_15 S_24))))))))))))) ∧ (¬ r_11 = 0 → Post 0 S_12))))
def jX9_drawTree_17 (p0 : Int64) (p1 : Int32) (S : gS) (Post : Int64 → gS → Prop) (y_3 : Int32) : Prop :=
  (pX9_fails 1 y_3 S (fun r_4 S_5 => ((r_4 = 0 → (pX9_countByLength  S_5 (fun S_8 => (vp_in (gI S_8 3) 6 ∧ (vp_in p1 11 ∧ ((¬ (lg_cmp (gB S_8 (67 + (gI S_8 3).toNatClampNeg) p1.toNatClampNeg) 0) = 0 → jX9_drawTree_52 p0 p1 Post S_8 0) ∧ ((lg_cmp (gB S_8 (67 + (gI S_8 3).toNatClampNeg) p1.toNatClampNeg) 0) = 0 → jX9_drawTree_52 p0 p1 Post S_8 1))))))) ∧ (¬ r_4 = 0 → Post 0 S_5))))
def pX9_drawTree (p0 : Int64) (p1 : Int32) (S : gS) (Post : Int64 → gS → Prop) : Prop :=
  (pX9_isBetween p1 1 8 S (fun r_1 => ((¬ r_1 = 0 → jX9_drawTree_17 p0 p1 S Post 0) ∧ (r_1 = 0 → jX9_drawTree_17 p0 p1 S Post 1))))
def rX9_drawTree : Room := { frames := 89, cells := 0, slots := 0, locals := 4434 }
set_option maxHeartbeats 40000000 in
set_option maxRecDepth 100000 in
theorem kX9_drawTree (l : Launch) (X : xG) (S : gS) (sz : Nat) (p0 : Int64) (p1 : Int32) (Post : Int64 → gS → Prop) (hf : pX9_drawTree p0 p1 S Post) : xMl l yX9_drawTree (Cond.code yX9_drawTree cX9_drawTree 7 (some .long) :: WS) rX9_drawTree 133 X (cM X) (eM X) S sz [.ref (xa X 0), .long p0, .int p1] Post := by
  refine xMl.of (cc := cX9_drawTree) (maxL := 7) (own := RX9) (by decide) rfl rfl (Nat.le_of_ble_eq_true rfl) ?_
  intro p e s m args below meth c ls Q hC hQ hw hl
  obtain ⟨hx, hb, hml, hown, hts, hE, hi⟩ := id hC
  have hK := hE.1
  have hl : lv_has ls 7 [(0, .ref (xa X 0)), (1, .long p0), (3, .int p1)] := hl
  have lf_34 : (Cond.fieldLink RX9 34 "GrammarAmbiguityModel" "byLength" "[[J").before args s = true := hts _ q_115
  have lf_83 : (Cond.fieldLink RX9 83 "GrammarAmbiguityModel" "start" "I").before args s = true := hts _ q_156
  have lf_178 : (Cond.fieldLink RX9 178 "GrammarAmbiguityModel" "isByPart" "Z").before args s = true := hts _ q_766
  have lf_89 : (Cond.fieldLink RX9 89 "GrammarAmbiguityModel" "nodes" "I").before args s = true := hts _ q_159
  rw [pX9_drawTree] at hf
  refine lv_aload_n hx hb dX9_drawTree_0 rfl (lv_at hl 0 rfl) ?_
  refine lv_iconst (v := 1) hx hb dX9_drawTree_1 (by decide) ?_
  refine lv_iload_n hx hb dX9_drawTree_2 rfl (lv_at hl 2 rfl) ?_
  refine lv_iconst (v := 1) hx hb dX9_drawTree_3 (by decide) ?_
  refine lv_bipush (v := 8) hx hb dX9_drawTree_4 (by decide) ?_
  refine x_ci (x_rS (As := [.int p1, .int 1, .int 8]) (rest := [.int 1, .ref (xa X 0)]) (okM X) hC hw (kX9_isBetween l X S _ p1 1 8 _ hf) (cwS 3 hts (gSt q_160 q_161 q_5 q_162) rfl rfl rfl (by decide +kernel) ⟨Nat.le_of_ble_eq_true rfl, Nat.le_of_ble_eq_true rfl⟩) rfl hl.1 rfl (Nat.le_of_ble_eq_true rfl) dX9_drawTree_6) hw hi (fun r_1 S_2 H locs hf hw => ?_)
  obtain ⟨hf, rfl⟩ := hf
  have w_17 : ∀ (y_3 : Int32) (H : Heap) (locs : List Loc) (ls : Array Slot), jX9_drawTree_17 p0 p1 S Post y_3 → xH 133 X (cM X) (xA 133 X s.heap.size) s.heap S H locs → lv_has ls 7 [(0, .ref (xa X 0)), (1, .long p0), (3, .int p1)] → W p l e rX9_drawTree s m args below meth c H locs 0 0 Q (F0 m 17 ls [.int y_3, .int 1, .ref (xa X 0)]) := by
    intro y_3 H locs ls hf hw hl
    rw [jX9_drawTree_17] at hf
    refine x_ci (x_rV (As := [.int 1, .int y_3]) (rest := []) (okM X) hC hw (kX9_fails l X S _ 1 y_3 _ hf) (cwV 2 hts (gV q_163 q_164 q_165 q_5 q_166) rfl rfl rfl (by decide +kernel) ⟨Nat.le_of_ble_eq_true rfl, Nat.le_of_ble_eq_true rfl⟩) (x_recv hK hw (k := 0) (by decide) rfl rfl) rfl hl.1 rfl (Nat.le_of_ble_eq_true rfl) dX9_drawTree_17) hw hi (fun r_4 S_5 H locs hf hw => ?_)
    refine lv_if_eq (tgt := 25) hx hb dX9_drawTree_20 (by decide) (fun c_6 => ?_) (fun c_6 => ?_)
    · replace hf := hf.1 c_6
      refine lv_aload_n hx hb dX9_drawTree_25 rfl (lv_at hl 0 rfl) ?_
      refine x_cv (x_rV (As := []) (rest := []) (okM X) hC hw (kX9_countByLength l X S_5 _  _ hf) (cwV 0 hts (gV q_525 q_526 q_527 q_5 q_528) rfl rfl rfl (by decide +kernel) ⟨Nat.le_of_ble_eq_true rfl, Nat.le_of_ble_eq_true rfl⟩) (x_recv hK hw (k := 0) (by decide) rfl rfl) rfl hl.1 rfl (Nat.le_of_ble_eq_true rfl) dX9_drawTree_26) hw hi (fun S_8 H locs hf hw => ?_)
      refine lv_aload_n hx hb dX9_drawTree_29 rfl (lv_at hl 0 rfl) ?_
      refine lv_iconst (v := 2) hx hb dX9_drawTree_30 (by decide) ?_
      refine lv_aload_n hx hb dX9_drawTree_31 rfl (lv_at hl 0 rfl) ?_
      refine x_get (k := 0) (v := .ref (xa X 5)) hx hb hts i_X9 hown hK hw (by decide) rfl rfl 10 (by decide) lf_34 (fun _ h9 => h9) rfl dX9_drawTree_32 ?_
      refine lv_aload_n hx hb dX9_drawTree_35 rfl (lv_at hl 0 rfl) ?_
      refine x_get (k := 0) (v := .int (gI S_8 3)) hx hb hts i_X9 hown hK hw (by decide) rfl rfl 3 (by decide) lf_83 (fun _ h9 => h9) rfl dX9_drawTree_36 ?_
      have hb_9 := vp_lt hf.1
      refine x_ald (n := 6) (v := .ref (xa X (67 + (gI S_8 3).toNatClampNeg))) hx hb hK hw (by decide) rfl 4 rfl rfl hf.1 (rf_lt hb_9) dX9_drawTree_39 ?_
      replace hf := hf.2
      refine lv_iload_n hx hb dX9_drawTree_40 rfl (lv_at hl 2 rfl) ?_
      refine x_lld (n := 11) hx hb hK hw (by omega) (cM_bl hb_9) rfl hf.1 dX9_drawTree_41 ?_
      replace hf := hf.2
      refine lv_lconst (v := 0) hx hb dX9_drawTree_42 (by decide) ?_
      refine W.lcmp hx hb dX9_drawTree_43 ?_
      have w_52 : ∀ (y_10 : Int32) (H : Heap) (locs : List Loc) (ls : Array Slot), jX9_drawTree_52 p0 p1 Post S_8 y_10 → xH 133 X (cM X) (xA 133 X s.heap.size) s.heap S_8 H locs → lv_has ls 7 [(0, .ref (xa X 0)), (1, .long p0), (3, .int p1)] → W p l e rX9_drawTree s m args below meth c H locs 0 0 Q (F0 m 52 ls [.int y_10, .int 2, .ref (xa X 0)]) := by
        intro y_10 H locs ls hf hw hl
        rw [jX9_drawTree_52] at hf
        refine x_ci (x_rV (As := [.int 2, .int y_10]) (rest := []) (okM X) hC hw (kX9_fails l X S_8 _ 2 y_10 _ hf) (cwV 2 hts (gV q_163 q_164 q_165 q_5 q_166) rfl rfl rfl (by decide +kernel) ⟨Nat.le_of_ble_eq_true rfl, Nat.le_of_ble_eq_true rfl⟩) (x_recv hK hw (k := 0) (by decide) rfl rfl) rfl hl.1 rfl (Nat.le_of_ble_eq_true rfl) dX9_drawTree_52) hw hi (fun r_11 S_12 H locs hf hw => ?_)
        refine lv_if_eq (tgt := 60) hx hb dX9_drawTree_55 (by decide) (fun c_13 => ?_) (fun c_13 => ?_)
        · replace hf := hf.1 c_13
          refine lv_lload_n hx hb dX9_drawTree_60 rfl (lv_at hl 1 rfl) ?_
          refine lv_aload_n hx hb dX9_drawTree_61 rfl (lv_at hl 0 rfl) ?_
          refine x_get (k := 0) (v := .ref (xa X 5)) hx hb hts i_X9 hown hK hw (by decide) rfl rfl 10 (by decide) lf_34 (fun _ h9 => h9) rfl dX9_drawTree_62 ?_
          refine lv_aload_n hx hb dX9_drawTree_65 rfl (lv_at hl 0 rfl) ?_
          refine x_get (k := 0) (v := .int (gI S_12 3)) hx hb hts i_X9 hown hK hw (by decide) rfl rfl 3 (by decide) lf_83 (fun _ h9 => h9) rfl dX9_drawTree_66 ?_
          have hb_14 := vp_lt hf.1
          refine x_ald (n := 6) (v := .ref (xa X (67 + (gI S_12 3).toNatClampNeg))) hx hb hK hw (by decide) rfl 4 rfl rfl hf.1 (rf_lt hb_14) dX9_drawTree_69 ?_
          replace hf := hf.2
          refine lv_iload_n hx hb dX9_drawTree_70 rfl (lv_at hl 2 rfl) ?_
          refine x_lld (n := 11) hx hb hK hw (by omega) (cM_bl hb_14) rfl hf.1 dX9_drawTree_71 ?_
          replace hf := hf.2
          refine x_cl (x_rS (As := [.long p0, .long (gB S_12 (67 + (gI S_12 3).toNatClampNeg) p1.toNatClampNeg)]) (rest := []) (okM X) hC hw (kX9_drawn l X S_12 _ p0 (gB S_12 (67 + (gI S_12 3).toNatClampNeg) p1.toNatClampNeg) _ hf) (cwS 2 hts (gSt q_705 q_706 q_5 q_707) rfl rfl rfl (by decide +kernel) ⟨Nat.le_of_ble_eq_true rfl, Nat.le_of_ble_eq_true rfl⟩) rfl hl.1 rfl (Nat.le_of_ble_eq_true rfl) dX9_drawTree_72) hw hi (fun r_15 S_16 H locs hf hw => ?_)
          obtain ⟨hf, rfl⟩ := hf
          refine lv_lstore (lv' := [(4, .long r_15), (0, .ref (xa X 0)), (1, .long p0), (3, .int p1)]) hx hb dX9_drawTree_75 hl (by decide) rfl (fun ls hl => ?_)
          refine lv_aload_n hx hb dX9_drawTree_77 rfl (lv_at hl 1 rfl) ?_
          refine lv_iconst (v := 0) hx hb dX9_drawTree_78 (by decide) ?_
          refine x_put (k := 0) (S' := uI S_12 7 0) (ty := .boolean) hx hb hts i_X9 tyX9_ok nmX9 hown hK hw (by decide) rfl rfl 17 (by decide) lf_178 (fun _ h9 => h9) rfl (by decide +kernel) rfl rfl (Nat.le_of_ble_eq_true rfl) dX9_drawTree_79 (uM_I7 X S_12 _) (fun H locs hw => ?_)
          obtain ⟨S_17, eS_17⟩ : ∃ z : gS, z = uI S_12 7 0 := ⟨_, rfl⟩
          rw [← eS_17] at hw
          replace hf := hf S_17 eS_17
          refine lv_aload_n hx hb dX9_drawTree_82 rfl (lv_at hl 1 rfl) ?_
          refine lv_iconst (v := 0) hx hb dX9_drawTree_83 (by decide) ?_
          refine x_put (k := 0) (S' := uI S_17 6 0) (ty := .int) hx hb hts i_X9 tyX9_ok nmX9 hown hK hw (by decide) rfl rfl 13 (by decide) lf_89 (fun _ h9 => h9) rfl (by decide +kernel) rfl rfl (Nat.le_of_ble_eq_true rfl) dX9_drawTree_84 (uM_I6 X S_17 _) (fun H locs hw => ?_)
          obtain ⟨S_18, eS_18⟩ : ∃ z : gS, z = uI S_17 6 0 := ⟨_, rfl⟩
          rw [← eS_18] at hw
          replace hf := hf S_18 eS_18
          refine lv_aload_n hx hb dX9_drawTree_87 rfl (lv_at hl 1 rfl) ?_
          refine lv_aload_n hx hb dX9_drawTree_88 rfl (lv_at hl 1 rfl) ?_
          refine x_get (k := 0) (v := .int (gI S_18 3)) hx hb hts i_X9 hown hK hw (by decide) rfl rfl 3 (by decide) lf_83 (fun _ h9 => h9) rfl dX9_drawTree_89 ?_
          refine lv_iconst (v := 0) hx hb dX9_drawTree_92 (by decide) ?_
          refine lv_iload_n hx hb dX9_drawTree_93 rfl (lv_at hl 3 rfl) ?_
          refine lv_lload hx hb dX9_drawTree_94 (lv_at hl 0 rfl) ?_
          refine x_cv (x_rV (As := [.int (gI S_18 3), .int 0, .int p1, .long r_15]) (rest := []) (okM X) hC hw (kX9_build l X 10 S_18 _ (gI S_18 3) 0 p1 r_15 _ hf) (cwV 4 hts (gV q_767 q_768 q_769 q_5 q_770) rfl rfl rfl (by decide +kernel) ⟨Nat.le_of_ble_eq_true rfl, Nat.le_of_ble_eq_true rfl⟩) (x_recv hK hw (k := 0) (by decide) rfl rfl) rfl hl.1 rfl (Nat.le_of_ble_eq_true rfl) dX9_drawTree_96) hw hi (fun S_20 H locs hf hw => ?_)
          refine lv_aload_n hx hb dX9_drawTree_99 rfl (lv_at hl 1 rfl) ?_
          refine x_get (k := 0) (v := .int (gI S_20 6)) hx hb hts i_X9 hown hK hw (by decide) rfl rfl 13 (by decide) lf_89 (fun _ h9 => h9) rfl dX9_drawTree_100 ?_
          refine lv_topi (fun x6_21 ex6_21 => ?_)
          replace hf := hf x6_21 ex6_21
          refine lv_istore (lv' := [(6, .int x6_21), (4, .long r_15), (0, .ref (xa X 0)), (1, .long p0), (3, .int p1)]) hx hb dX9_drawTree_103 hl (by decide) rfl (fun ls hl => ?_)
          refine lv_aload_n hx hb dX9_drawTree_105 rfl (lv_at hl 2 rfl) ?_
          refine lv_iload_n hx hb dX9_drawTree_106 rfl (lv_at hl 4 rfl) ?_
          refine x_cv (x_rV (As := [.int p1]) (rest := []) (okM X) hC hw (kX9_take l X S_20 _ p1 _ hf) (cwV 1 hts (gV q_654 q_655 q_656 q_5 q_657) rfl rfl rfl (by decide +kernel) ⟨Nat.le_of_ble_eq_true rfl, Nat.le_of_ble_eq_true rfl⟩) (x_recv hK hw (k := 0) (by decide) rfl rfl) rfl hl.1 rfl (Nat.le_of_ble_eq_true rfl) dX9_drawTree_107) hw hi (fun S_23 H locs hf hw => ?_)
          refine lv_aload_n hx hb dX9_drawTree_110 rfl (lv_at hl 2 rfl) ?_
          refine lv_iload hx hb dX9_drawTree_111 (lv_at hl 0 rfl) ?_
          refine x_put (k := 0) (S' := uI S_23 6 x6_21) (ty := .int) hx hb hts i_X9 tyX9_ok nmX9 hown hK hw (by decide) rfl rfl 13 (by decide) lf_89 (fun _ h9 => h9) rfl (by decide +kernel) rfl rfl (Nat.le_of_ble_eq_true rfl) dX9_drawTree_113 (uM_I6 X S_23 _) (fun H locs hw => ?_)
          obtain ⟨S_24, eS_24⟩ : ∃ z : gS, z = uI S_23 6 x6_21 := ⟨_, rfl⟩
          rw [← eS_24] at hw
          replace hf := hf S_24 eS_24
          refine lv_lload hx hb dX9_drawTree_116 (lv_at hl 1 rfl) ?_
          exact hQ _ _ _ _ _ _ hf hw dX9_drawTree_118
        · replace hf := hf.2 c_13
          refine lv_lconst (v := 0) hx hb dX9_drawTree_58 (by decide) ?_
          exact hQ _ _ _ _ _ _ hf hw dX9_drawTree_59
      refine lv_if_ne (tgt := 51) hx hb dX9_drawTree_44 (by decide) (fun c_25 => ?_) (fun c_25 => ?_)
      · replace hf := hf.1 c_25
        refine lv_iconst (v := 0) hx hb dX9_drawTree_51 (by decide) ?_
        exact w_52 0 _ _ _ hf hw (lv_sub hl [0, 1, 2] rfl)
      · replace hf := hf.2 c_25
        refine lv_iconst (v := 1) hx hb dX9_drawTree_47 (by decide) ?_
        refine lv_goto (tgt := 52) hx hb dX9_drawTree_48 (by decide) ?_
        exact w_52 1 _ _ _ hf hw (lv_sub hl [0, 1, 2] rfl)
    · replace hf := hf.2 c_6
      refine lv_lconst (v := 0) hx hb dX9_drawTree_23 (by decide) ?_
      exact hQ _ _ _ _ _ _ hf hw dX9_drawTree_24
  refine lv_if_ne (tgt := 16) hx hb dX9_drawTree_9 (by decide) (fun c_26 => ?_) (fun c_26 => ?_)
  · replace hf := hf.1 c_26
    refine lv_iconst (v := 0) hx hb dX9_drawTree_16 (by decide) ?_
    exact w_17 0 _ _ _ hf hw (lv_sub hl [0, 1, 2] rfl)
  · replace hf := hf.2 c_26
    refine lv_iconst (v := 1) hx hb dX9_drawTree_12 (by decide) ?_
    refine lv_goto (tgt := 17) hx hb dX9_drawTree_13 (by decide) ?_
    exact w_17 1 _ _ _ hf hw (lv_sub hl [0, 1, 2] rfl)
def jX9_takeTree_24 (p0 : Int64) (Post : Int32 → gS → Prop) (S_2 : gS) (y_3 : Int32) : Prop :=
  (pX9_fails 1 y_3 S_2 (fun r_4 S_5 => ((r_4 = 0 → (∀ S_7 : gS, S_7 = uI S_5 7 1 → (∀ S_8 : gS, S_8 = uI S_7 6 0 → (pX9_build 10 (gI S_8 3) 0 (gI S_8 5) p0 S_8 (fun S_10 => Post (gI S_10 6) S_10))))) ∧ (¬ r_4 = 0 → Post 0 S_5))))
def pX9_takeTree (p0 : Int64) (S : gS) (Post : Int32 → gS → Prop) : Prop :=
  (pX9_countCurrent  S (fun r_1 S_2 => (((lg_cmp p0 0) < 0 → jX9_takeTree_24 p0 Post S_2 1) ∧ (¬ (lg_cmp p0 0) < 0 → (((lg_cmp p0 r_1) < 0 → jX9_takeTree_24 p0 Post S_2 0) ∧ (¬ (lg_cmp p0 r_1) < 0 → jX9_takeTree_24 p0 Post S_2 1))))))
def rX9_takeTree : Room := { frames := 89, cells := 0, slots := 0, locals := 4434 }
set_option maxHeartbeats 40000000 in
set_option maxRecDepth 100000 in
theorem kX9_takeTree (l : Launch) (X : xG) (S : gS) (sz : Nat) (p0 : Int64) (Post : Int32 → gS → Prop) (hf : pX9_takeTree p0 S Post) : xMi l yX9_takeTree (Cond.code yX9_takeTree cX9_takeTree 5 (some .int) :: WS) rX9_takeTree 133 X (cM X) (eM X) S sz [.ref (xa X 0), .long p0] Post := by
  refine xMi.of (cc := cX9_takeTree) (maxL := 5) (own := RX9) (by decide) rfl rfl (Nat.le_of_ble_eq_true rfl) ?_
  intro p e s m args below meth c ls Q hC hQ hw hl
  obtain ⟨hx, hb, hml, hown, hts, hE, hi⟩ := id hC
  have hK := hE.1
  have hl : lv_has ls 5 [(0, .ref (xa X 0)), (1, .long p0)] := hl
  have lf_178 : (Cond.fieldLink RX9 178 "GrammarAmbiguityModel" "isByPart" "Z").before args s = true := hts _ q_766
  have lf_89 : (Cond.fieldLink RX9 89 "GrammarAmbiguityModel" "nodes" "I").before args s = true := hts _ q_159
  have lf_83 : (Cond.fieldLink RX9 83 "GrammarAmbiguityModel" "start" "I").before args s = true := hts _ q_156
  have lf_86 : (Cond.fieldLink RX9 86 "GrammarAmbiguityModel" "length" "I").before args s = true := hts _ q_158
  rw [pX9_takeTree] at hf
  refine lv_aload_n hx hb dX9_takeTree_0 rfl (lv_at hl 0 rfl) ?_
  refine x_cl (x_rV (As := []) (rest := []) (okM X) hC hw (kX9_countCurrent l X S _  _ hf) (cwV 0 hts (gV q_481 q_482 q_483 q_5 q_484) rfl rfl rfl (by decide +kernel) ⟨Nat.le_of_ble_eq_true rfl, Nat.le_of_ble_eq_true rfl⟩) (x_recv hK hw (k := 0) (by decide) rfl rfl) rfl hl.1 rfl (Nat.le_of_ble_eq_true rfl) dX9_takeTree_1) hw hi (fun r_1 S_2 H locs hf hw => ?_)
  refine lv_lstore_n (lv' := [(3, .long r_1), (0, .ref (xa X 0)), (1, .long p0)]) hx hb dX9_takeTree_4 rfl hl (by decide) rfl (fun ls hl => ?_)
  refine lv_aload_n hx hb dX9_takeTree_5 rfl (lv_at hl 1 rfl) ?_
  refine lv_iconst (v := 1) hx hb dX9_takeTree_6 (by decide) ?_
  refine lv_lload_n hx hb dX9_takeTree_7 rfl (lv_at hl 2 rfl) ?_
  refine lv_lconst (v := 0) hx hb dX9_takeTree_8 (by decide) ?_
  refine W.lcmp hx hb dX9_takeTree_9 ?_
  have w_24 : ∀ (y_3 : Int32) (H : Heap) (locs : List Loc) (ls : Array Slot), jX9_takeTree_24 p0 Post S_2 y_3 → xH 133 X (cM X) (xA 133 X s.heap.size) s.heap S_2 H locs → lv_has ls 5 [(0, .ref (xa X 0)), (1, .long p0)] → W p l e rX9_takeTree s m args below meth c H locs 0 0 Q (F0 m 24 ls [.int y_3, .int 1, .ref (xa X 0)]) := by
    intro y_3 H locs ls hf hw hl
    rw [jX9_takeTree_24] at hf
    refine x_ci (x_rV (As := [.int 1, .int y_3]) (rest := []) (okM X) hC hw (kX9_fails l X S_2 _ 1 y_3 _ hf) (cwV 2 hts (gV q_163 q_164 q_165 q_5 q_166) rfl rfl rfl (by decide +kernel) ⟨Nat.le_of_ble_eq_true rfl, Nat.le_of_ble_eq_true rfl⟩) (x_recv hK hw (k := 0) (by decide) rfl rfl) rfl hl.1 rfl (Nat.le_of_ble_eq_true rfl) dX9_takeTree_24) hw hi (fun r_4 S_5 H locs hf hw => ?_)
    refine lv_if_eq (tgt := 32) hx hb dX9_takeTree_27 (by decide) (fun c_6 => ?_) (fun c_6 => ?_)
    · replace hf := hf.1 c_6
      refine lv_aload_n hx hb dX9_takeTree_32 rfl (lv_at hl 0 rfl) ?_
      refine lv_iconst (v := 1) hx hb dX9_takeTree_33 (by decide) ?_
      refine x_put (k := 0) (S' := uI S_5 7 1) (ty := .boolean) hx hb hts i_X9 tyX9_ok nmX9 hown hK hw (by decide) rfl rfl 17 (by decide) lf_178 (fun _ h9 => h9) rfl (by decide +kernel) rfl rfl (Nat.le_of_ble_eq_true rfl) dX9_takeTree_34 (uM_I7 X S_5 _) (fun H locs hw => ?_)
      obtain ⟨S_7, eS_7⟩ : ∃ z : gS, z = uI S_5 7 1 := ⟨_, rfl⟩
      rw [← eS_7] at hw
      replace hf := hf S_7 eS_7
      refine lv_aload_n hx hb dX9_takeTree_37 rfl (lv_at hl 0 rfl) ?_
      refine lv_iconst (v := 0) hx hb dX9_takeTree_38 (by decide) ?_
      refine x_put (k := 0) (S' := uI S_7 6 0) (ty := .int) hx hb hts i_X9 tyX9_ok nmX9 hown hK hw (by decide) rfl rfl 13 (by decide) lf_89 (fun _ h9 => h9) rfl (by decide +kernel) rfl rfl (Nat.le_of_ble_eq_true rfl) dX9_takeTree_39 (uM_I6 X S_7 _) (fun H locs hw => ?_)
      obtain ⟨S_8, eS_8⟩ : ∃ z : gS, z = uI S_7 6 0 := ⟨_, rfl⟩
      rw [← eS_8] at hw
      replace hf := hf S_8 eS_8
      refine lv_aload_n hx hb dX9_takeTree_42 rfl (lv_at hl 0 rfl) ?_
      refine lv_aload_n hx hb dX9_takeTree_43 rfl (lv_at hl 0 rfl) ?_
      refine x_get (k := 0) (v := .int (gI S_8 3)) hx hb hts i_X9 hown hK hw (by decide) rfl rfl 3 (by decide) lf_83 (fun _ h9 => h9) rfl dX9_takeTree_44 ?_
      refine lv_iconst (v := 0) hx hb dX9_takeTree_47 (by decide) ?_
      refine lv_aload_n hx hb dX9_takeTree_48 rfl (lv_at hl 0 rfl) ?_
      refine x_get (k := 0) (v := .int (gI S_8 5)) hx hb hts i_X9 hown hK hw (by decide) rfl rfl 7 (by decide) lf_86 (fun _ h9 => h9) rfl dX9_takeTree_49 ?_
      refine lv_lload_n hx hb dX9_takeTree_52 rfl (lv_at hl 1 rfl) ?_
      refine x_cv (x_rV (As := [.int (gI S_8 3), .int 0, .int (gI S_8 5), .long p0]) (rest := []) (okM X) hC hw (kX9_build l X 10 S_8 _ (gI S_8 3) 0 (gI S_8 5) p0 _ hf) (cwV 4 hts (gV q_767 q_768 q_769 q_5 q_770) rfl rfl rfl (by decide +kernel) ⟨Nat.le_of_ble_eq_true rfl, Nat.le_of_ble_eq_true rfl⟩) (x_recv hK hw (k := 0) (by decide) rfl rfl) rfl hl.1 rfl (Nat.le_of_ble_eq_true rfl) dX9_takeTree_53) hw hi (fun S_10 H locs hf hw => ?_)
      refine lv_aload_n hx hb dX9_takeTree_56 rfl (lv_at hl 0 rfl) ?_
      refine x_get (k := 0) (v := .int (gI S_10 6)) hx hb hts i_X9 hown hK hw (by decide) rfl rfl 13 (by decide) lf_89 (fun _ h9 => h9) rfl dX9_takeTree_57 ?_
      exact hQ _ _ _ _ _ _ rfl hf hw dX9_takeTree_60
    · replace hf := hf.2 c_6
      refine lv_iconst (v := 0) hx hb dX9_takeTree_30 (by decide) ?_
      exact hQ _ _ _ _ _ _ rfl hf hw dX9_takeTree_31
  refine lv_if_lt (tgt := 19) hx hb dX9_takeTree_10 (by decide) (fun c_11 => ?_) (fun c_11 => ?_)
  · replace hf := hf.1 c_11
    refine lv_iconst (v := 1) hx hb dX9_takeTree_19 (by decide) ?_
    refine lv_goto (tgt := 24) hx hb dX9_takeTree_20 (by decide) ?_
    exact w_24 1 _ _ _ hf hw (lv_sub hl [1, 2] rfl)
  · replace hf := hf.2 c_11
    refine lv_lload_n hx hb dX9_takeTree_13 rfl (lv_at hl 2 rfl) ?_
    refine lv_lload_n hx hb dX9_takeTree_14 rfl (lv_at hl 0 rfl) ?_
    refine W.lcmp hx hb dX9_takeTree_15 ?_
    refine lv_if_lt (tgt := 23) hx hb dX9_takeTree_16 (by decide) (fun c_12 => ?_) (fun c_12 => ?_)
    · replace hf := hf.1 c_12
      refine lv_iconst (v := 0) hx hb dX9_takeTree_23 (by decide) ?_
      exact w_24 0 _ _ _ hf hw (lv_sub hl [1, 2] rfl)
    · replace hf := hf.2 c_12
      refine lv_iconst (v := 1) hx hb dX9_takeTree_19 (by decide) ?_
      refine lv_goto (tgt := 24) hx hb dX9_takeTree_20 (by decide) ?_
      exact w_24 1 _ _ _ hf hw (lv_sub hl [1, 2] rfl)
def jX9_treeNumber_14 (S : gS) (Post : Int64 → gS → Prop) (y_1 : Int32) : Prop :=
  (pX9_fails 1 y_1 S (fun r_2 S_3 => ((r_2 = 0 → (pX9_countCurrent  S_3 (fun r_5 S_6 => (∀ S_7 : gS, S_7 = uI S_6 8 0 → (pX9_numberOf 10 (gI S_7 3) 0 (gI S_7 5) S_7 (fun r_8 S_9 => Post r_8 S_9)))))) ∧ (¬ r_2 = 0 → Post 0 S_3))))
def pX9_treeNumber (S : gS) (Post : Int64 → gS → Prop) : Prop :=
  ((¬ (gI S 6) = 0 → jX9_treeNumber_14 S Post 0) ∧ ((gI S 6) = 0 → jX9_treeNumber_14 S Post 1))
def rX9_treeNumber : Room := { frames := 51, cells := 0, slots := 0, locals := 2634 }
set_option maxHeartbeats 40000000 in
set_option maxRecDepth 100000 in
theorem kX9_treeNumber (l : Launch) (X : xG) (S : gS) (sz : Nat) (Post : Int64 → gS → Prop) (hf : pX9_treeNumber S Post) : xMl l yX9_treeNumber (Cond.code yX9_treeNumber cX9_treeNumber 1 (some .long) :: WS) rX9_treeNumber 133 X (cM X) (eM X) S sz [.ref (xa X 0)] Post := by
  refine xMl.of (cc := cX9_treeNumber) (maxL := 1) (own := RX9) (by decide) rfl rfl (Nat.le_of_ble_eq_true rfl) ?_
  intro p e s m args below meth c ls Q hC hQ hw hl
  obtain ⟨hx, hb, hml, hown, hts, hE, hi⟩ := id hC
  have hK := hE.1
  have hl : lv_has ls 1 [(0, .ref (xa X 0))] := hl
  have lf_89 : (Cond.fieldLink RX9 89 "GrammarAmbiguityModel" "nodes" "I").before args s = true := hts _ q_159
  have lf_196 : (Cond.fieldLink RX9 196 "GrammarAmbiguityModel" "at" "I").before args s = true := hts _ q_810
  have lf_83 : (Cond.fieldLink RX9 83 "GrammarAmbiguityModel" "start" "I").before args s = true := hts _ q_156
  have lf_86 : (Cond.fieldLink RX9 86 "GrammarAmbiguityModel" "length" "I").before args s = true := hts _ q_158
  rw [pX9_treeNumber] at hf
  refine lv_aload_n hx hb dX9_treeNumber_0 rfl (lv_at hl 0 rfl) ?_
  refine lv_iconst (v := 1) hx hb dX9_treeNumber_1 (by decide) ?_
  refine lv_aload_n hx hb dX9_treeNumber_2 rfl (lv_at hl 0 rfl) ?_
  refine x_get (k := 0) (v := .int (gI S 6)) hx hb hts i_X9 hown hK hw (by decide) rfl rfl 13 (by decide) lf_89 (fun _ h9 => h9) rfl dX9_treeNumber_3 ?_
  have w_14 : ∀ (y_1 : Int32) (H : Heap) (locs : List Loc) (ls : Array Slot), jX9_treeNumber_14 S Post y_1 → xH 133 X (cM X) (xA 133 X s.heap.size) s.heap S H locs → lv_has ls 1 [(0, .ref (xa X 0))] → W p l e rX9_treeNumber s m args below meth c H locs 0 0 Q (F0 m 14 ls [.int y_1, .int 1, .ref (xa X 0)]) := by
    intro y_1 H locs ls hf hw hl
    rw [jX9_treeNumber_14] at hf
    refine x_ci (x_rV (As := [.int 1, .int y_1]) (rest := []) (okM X) hC hw (kX9_fails l X S _ 1 y_1 _ hf) (cwV 2 hts (gV q_163 q_164 q_165 q_5 q_166) rfl rfl rfl (by decide +kernel) ⟨Nat.le_of_ble_eq_true rfl, Nat.le_of_ble_eq_true rfl⟩) (x_recv hK hw (k := 0) (by decide) rfl rfl) rfl hl.1 rfl (Nat.le_of_ble_eq_true rfl) dX9_treeNumber_14) hw hi (fun r_2 S_3 H locs hf hw => ?_)
    refine lv_if_eq (tgt := 22) hx hb dX9_treeNumber_17 (by decide) (fun c_4 => ?_) (fun c_4 => ?_)
    · replace hf := hf.1 c_4
      refine lv_aload_n hx hb dX9_treeNumber_22 rfl (lv_at hl 0 rfl) ?_
      refine x_cl (x_rV (As := []) (rest := []) (okM X) hC hw (kX9_countCurrent l X S_3 _  _ hf) (cwV 0 hts (gV q_481 q_482 q_483 q_5 q_484) rfl rfl rfl (by decide +kernel) ⟨Nat.le_of_ble_eq_true rfl, Nat.le_of_ble_eq_true rfl⟩) (x_recv hK hw (k := 0) (by decide) rfl rfl) rfl hl.1 rfl (Nat.le_of_ble_eq_true rfl) dX9_treeNumber_23) hw hi (fun r_5 S_6 H locs hf hw => ?_)
      refine lv_pop2_2 hx hb dX9_treeNumber_26 rfl ?_
      refine lv_aload_n hx hb dX9_treeNumber_27 rfl (lv_at hl 0 rfl) ?_
      refine lv_iconst (v := 0) hx hb dX9_treeNumber_28 (by decide) ?_
      refine x_put (k := 0) (S' := uI S_6 8 0) (ty := .int) hx hb hts i_X9 tyX9_ok nmX9 hown hK hw (by decide) rfl rfl 18 (by decide) lf_196 (fun _ h9 => h9) rfl (by decide +kernel) rfl rfl (Nat.le_of_ble_eq_true rfl) dX9_treeNumber_29 (uM_I8 X S_6 _) (fun H locs hw => ?_)
      obtain ⟨S_7, eS_7⟩ : ∃ z : gS, z = uI S_6 8 0 := ⟨_, rfl⟩
      rw [← eS_7] at hw
      replace hf := hf S_7 eS_7
      refine lv_aload_n hx hb dX9_treeNumber_32 rfl (lv_at hl 0 rfl) ?_
      refine lv_aload_n hx hb dX9_treeNumber_33 rfl (lv_at hl 0 rfl) ?_
      refine x_get (k := 0) (v := .int (gI S_7 3)) hx hb hts i_X9 hown hK hw (by decide) rfl rfl 3 (by decide) lf_83 (fun _ h9 => h9) rfl dX9_treeNumber_34 ?_
      refine lv_iconst (v := 0) hx hb dX9_treeNumber_37 (by decide) ?_
      refine lv_aload_n hx hb dX9_treeNumber_38 rfl (lv_at hl 0 rfl) ?_
      refine x_get (k := 0) (v := .int (gI S_7 5)) hx hb hts i_X9 hown hK hw (by decide) rfl rfl 7 (by decide) lf_86 (fun _ h9 => h9) rfl dX9_treeNumber_39 ?_
      refine x_cl (x_rV (As := [.int (gI S_7 3), .int 0, .int (gI S_7 5)]) (rest := []) (okM X) hC hw (kX9_numberOf l X 10 S_7 _ (gI S_7 3) 0 (gI S_7 5) _ hf) (cwV 3 hts (gV q_811 q_812 q_813 q_5 q_814) rfl rfl rfl (by decide +kernel) ⟨Nat.le_of_ble_eq_true rfl, Nat.le_of_ble_eq_true rfl⟩) (x_recv hK hw (k := 0) (by decide) rfl rfl) rfl hl.1 rfl (Nat.le_of_ble_eq_true rfl) dX9_treeNumber_42) hw hi (fun r_8 S_9 H locs hf hw => ?_)
      exact hQ _ _ _ _ _ _ hf hw dX9_treeNumber_45
    · replace hf := hf.2 c_4
      refine lv_lconst (v := 0) hx hb dX9_treeNumber_20 (by decide) ?_
      exact hQ _ _ _ _ _ _ hf hw dX9_treeNumber_21
  refine lv_if_ne (tgt := 13) hx hb dX9_treeNumber_6 (by decide) (fun c_10 => ?_) (fun c_10 => ?_)
  · replace hf := hf.1 c_10
    refine lv_iconst (v := 0) hx hb dX9_treeNumber_13 (by decide) ?_
    exact w_14 0 _ _ _ hf hw (lv_sub hl [0] rfl)
  · replace hf := hf.2 c_10
    refine lv_iconst (v := 1) hx hb dX9_treeNumber_9 (by decide) ?_
    refine lv_goto (tgt := 14) hx hb dX9_treeNumber_10 (by decide) ?_
    exact w_14 1 _ _ _ hf hw (lv_sub hl [0] rfl)
