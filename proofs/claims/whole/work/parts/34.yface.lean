/-! Printed by wip/whole/gen: what each method asks (p..), and its contract under that (k..). -/
def pX8_allocate (p0 : Int32) (p1 : Int32) (p2 : Int32) (S : gS) (Post : gS → Prop) (PX : String → gS → Prop) : Prop :=
  (pX8_checkSlot p0 S (((p2 < 0 → PX "java/lang/IllegalArgumentException" S) ∧ (¬ p2 < 0 → ((p2 ≤ 40 → (pX3_begin p0 p1 p2 S (fun S_5 => Post S_5))) ∧ (¬ p2 ≤ 40 → PX "java/lang/IllegalArgumentException" S))))) PX)
def rX8_allocate : Room := { frames := 7, cells := 2, slots := 12, locals := 110 }
set_option maxHeartbeats 40000000 in
set_option maxRecDepth 100000 in
theorem kX8_allocate (l : Launch) (hlt : l.stackTraces = false) (X : xG) (S : gS) (sz : Nat) (p0 : Int32) (p1 : Int32) (p2 : Int32) (Post : gS → Prop) (PX : String → gS → Prop) (hf : pX8_allocate p0 p1 p2 S Post PX) : yMv l yX8_allocate (Cond.code yX8_allocate cX8_allocate 4 none :: WS) rX8_allocate X S sz [.ref (xa X 0), .int p0, .int p1, .int p2] Post PX 2 12 := by
  refine yMv.of (cc := cX8_allocate) (maxL := 4) hlt (by decide) rfl rfl (Nat.le_of_ble_eq_true rfl) (Nat.le_of_ble_eq_true rfl) (Nat.le_of_ble_eq_true rfl) rfl rfl ?_
  intro p e s m args below meth c ls Q hC hQ hT hX hw hl
  obtain ⟨hx, hb, hml, hown, hts, hE, hi⟩ := id hC
  have hK := hE.1
  have hl : lv_has ls 4 [(0, .ref (xa X 0)), (1, .int p0), (2, .int p1), (3, .int p2)] := hl
  have lf_66 : (Cond.fieldLink RX8 66 "GrammarAmbiguity" "slots" "LGrammarAmbiguity$Slots;").before args s = true := hts _ q_44
  have ln_279 : va_Nw (.methodLinkNest RX8 279 yX3_begin "GrammarAmbiguity") s := hE.2.1 _ (by decide +kernel)
  rw [pX8_allocate] at hf
  refine lv_iload_n hx hb dX8_allocate_0 rfl (lv_at hl 1 rfl) ?_
  refine y_cv (y_rS (As := [.int p0]) (rest := []) hC hw (kX8_checkSlot l hlt X S _ p0 _ _ hf) (cwS 1 hts (gSt q_852 q_853 q_2 q_854) rfl rfl rfl (by decide +kernel) ⟨Nat.le_of_ble_eq_true rfl, Nat.le_of_ble_eq_true rfl⟩) rfl hl.1 rfl (Nat.le_of_ble_eq_true rfl) dX8_allocate_1 ⟨Nat.le_of_ble_eq_true rfl, Nat.le_of_ble_eq_true rfl⟩) hw hi (fun E ce q9 S9 H locs hp hw h1 h2 h3 => hX E ce q9 S9 _ _ _ _ _ _ _ hp hw h1 h2 h3 (by decide) (by decide)) (fun S_1 H locs hf hw => ?_)
  obtain ⟨hf, rfl⟩ := hf
  refine W.widen (k := 1) (n := 6) (by decide) (by decide) ?_
  refine lv_iload_n hx hb dX8_allocate_4 rfl (lv_at hl 3 rfl) ?_
  refine lv_if_lt (tgt := 14) hx hb dX8_allocate_5 (by decide) (fun c_2 => ?_) (fun c_2 => ?_)
  · replace hf := hf.1 c_2
    exact hT "java/lang/IllegalArgumentException" "the length is out of range" 74 78 7 277 prog_14_method_2_code S _ _ _ _ [] _ _ ex_A (by decide +kernel) hf hw hl.1 (Nat.le_of_ble_eq_true rfl) (by decide) (by decide) dX8_allocate_14 dX8_allocate_17 (Or.inr ⟨dX8_allocate_18, dX8_allocate_21, dX8_allocate_24⟩)
  · replace hf := hf.2 c_2
    refine lv_iload_n hx hb dX8_allocate_8 rfl (lv_at hl 3 rfl) ?_
    refine lv_bipush (v := 40) hx hb dX8_allocate_9 (by decide) ?_
    refine lv_icmp_le (tgt := 25) hx hb dX8_allocate_11 (by decide) (fun c_3 => ?_) (fun c_3 => ?_)
    · replace hf := hf.1 c_3
      refine lv_aload_n hx hb dX8_allocate_25 rfl (lv_at hl 0 rfl) ?_
      refine x_get (k := 0) (v := .ref (xa X 9)) hx hb hts i_X8 hown hK hw (by decide) rfl rfl 8 (by decide) lf_66 (fun _ h9 => h9) rfl dX8_allocate_26 ?_
      refine lv_iload_n hx hb dX8_allocate_29 rfl (lv_at hl 1 rfl) ?_
      refine lv_iload_n hx hb dX8_allocate_30 rfl (lv_at hl 2 rfl) ?_
      refine lv_iload_n hx hb dX8_allocate_31 rfl (lv_at hl 3 rfl) ?_
      refine z_cv (z_rN (As := [.int p0, .int p1, .int p2]) (rest := []) (okX X) hC hw (kX3_begin l X S _ p0 p1 p2 _ hf) ⟨va_cnB 3 hts (gN q_857) rfl rfl rfl ln_279 (hts _ q_43) (by decide +kernel) ⟨Nat.le_of_ble_eq_true rfl, Nat.le_of_ble_eq_true rfl⟩, hts _ q_855, hts _ q_856⟩ (x_recv hK hw (k := 9) (by decide) rfl rfl) rfl hl.1 rfl (Nat.le_of_ble_eq_true rfl) dX8_allocate_32 ⟨Nat.le_of_ble_eq_true rfl, Nat.le_of_ble_eq_true rfl⟩) hw hi (fun S_5 H locs hf hw => ?_)
      exact hQ _ _ _ _ _ _ _ hf hw dX8_allocate_35 (by decide) (by decide)
    · replace hf := hf.2 c_3
      exact hT "java/lang/IllegalArgumentException" "the length is out of range" 74 78 7 277 prog_14_method_2_code S _ _ _ _ [] _ _ ex_A (by decide +kernel) hf hw hl.1 (Nat.le_of_ble_eq_true rfl) (by decide) (by decide) dX8_allocate_14 dX8_allocate_17 (Or.inr ⟨dX8_allocate_18, dX8_allocate_21, dX8_allocate_24⟩)
def pX8_setElement (p0 : Int32) (p1 : Int32) (p2 : Int32) (S : gS) (Post : Int32 → gS → Prop) (PX : String → gS → Prop) : Prop :=
  (pX8_checkSlot p0 S ((pX8_checkArray p0 S ((pX8_checkIndexes p0 p1 1 S ((pX3_element p0 p1 S (fun r_4 => (pX3_put p0 p1 p2 S (fun S_7 => Post r_4 S_7))))) PX)) PX)) PX)
def rX8_setElement : Room := { frames := 7, cells := 3, slots := 18, locals := 113 }
set_option maxHeartbeats 40000000 in
set_option maxRecDepth 100000 in
theorem kX8_setElement (l : Launch) (hlt : l.stackTraces = false) (X : xG) (S : gS) (sz : Nat) (p0 : Int32) (p1 : Int32) (p2 : Int32) (Post : Int32 → gS → Prop) (PX : String → gS → Prop) (hf : pX8_setElement p0 p1 p2 S Post PX) : yMi l yX8_setElement (Cond.code yX8_setElement cX8_setElement 5 (some .int) :: WS) rX8_setElement X S sz [.ref (xa X 0), .int p0, .int p1, .int p2] Post PX 3 18 := by
  refine yMi.of (cc := cX8_setElement) (maxL := 5) hlt (by decide) rfl rfl (Nat.le_of_ble_eq_true rfl) (Nat.le_of_ble_eq_true rfl) (Nat.le_of_ble_eq_true rfl) rfl rfl ?_
  intro p e s m args below meth c ls Q hC hQ hT hX hw hl
  obtain ⟨hx, hb, hml, hown, hts, hE, hi⟩ := id hC
  have hK := hE.1
  have hl : lv_has ls 5 [(0, .ref (xa X 0)), (1, .int p0), (2, .int p1), (3, .int p2)] := hl
  have lf_66 : (Cond.fieldLink RX8 66 "GrammarAmbiguity" "slots" "LGrammarAmbiguity$Slots;").before args s = true := hts _ q_44
  have ln_289 : va_Nw (.methodLinkNest RX8 289 yX3_element "GrammarAmbiguity") s := hE.2.1 _ (by decide +kernel)
  have ln_292 : va_Nw (.methodLinkNest RX8 292 yX3_put "GrammarAmbiguity") s := hE.2.1 _ (by decide +kernel)
  rw [pX8_setElement] at hf
  refine lv_iload_n hx hb dX8_setElement_0 rfl (lv_at hl 1 rfl) ?_
  refine y_cv (y_rS (As := [.int p0]) (rest := []) hC hw (kX8_checkSlot l hlt X S _ p0 _ _ hf) (cwS 1 hts (gSt q_852 q_853 q_2 q_854) rfl rfl rfl (by decide +kernel) ⟨Nat.le_of_ble_eq_true rfl, Nat.le_of_ble_eq_true rfl⟩) rfl hl.1 rfl (Nat.le_of_ble_eq_true rfl) dX8_setElement_1 ⟨Nat.le_of_ble_eq_true rfl, Nat.le_of_ble_eq_true rfl⟩) hw hi (fun E ce q9 S9 H locs hp hw h1 h2 h3 => hX E ce q9 S9 _ _ _ _ _ _ _ hp hw h1 h2 h3 (by decide) (by decide)) (fun S_1 H locs hf hw => ?_)
  obtain ⟨hf, rfl⟩ := hf
  refine W.widen (k := 1) (n := 6) (by decide) (by decide) ?_
  refine lv_aload_n hx hb dX8_setElement_4 rfl (lv_at hl 0 rfl) ?_
  refine lv_iload_n hx hb dX8_setElement_5 rfl (lv_at hl 1 rfl) ?_
  refine y_cv (y_rV (As := [.int p0]) (rest := []) hC hw (kX8_checkArray l hlt X S _ p0 _ _ hf) (cwV 1 hts (gV q_872 q_873 q_874 q_2 q_875) rfl rfl rfl (by decide +kernel) ⟨Nat.le_of_ble_eq_true rfl, Nat.le_of_ble_eq_true rfl⟩) (x_recv hK hw (k := 0) (by decide) rfl rfl) rfl hl.1 rfl (Nat.le_of_ble_eq_true rfl) dX8_setElement_6 ⟨Nat.le_of_ble_eq_true rfl, Nat.le_of_ble_eq_true rfl⟩) hw hi (fun E ce q9 S9 H locs hp hw h1 h2 h3 => hX E ce q9 S9 _ _ _ _ _ _ _ hp hw h1 h2 h3 (by decide) (by decide)) (fun S_2 H locs hf hw => ?_)
  obtain ⟨hf, rfl⟩ := hf
  refine W.widen (k := 2) (n := 12) (by decide) (by decide) ?_
  refine lv_aload_n hx hb dX8_setElement_9 rfl (lv_at hl 0 rfl) ?_
  refine lv_iload_n hx hb dX8_setElement_10 rfl (lv_at hl 1 rfl) ?_
  refine lv_iload_n hx hb dX8_setElement_11 rfl (lv_at hl 2 rfl) ?_
  refine lv_iconst (v := 1) hx hb dX8_setElement_12 (by decide) ?_
  refine y_cv (y_rV (As := [.int p0, .int p1, .int 1]) (rest := []) hC hw (kX8_checkIndexes l hlt X S _ p0 p1 1 _ _ hf) (cwV 3 hts (gV q_879 q_880 q_881 q_2 q_882) rfl rfl rfl (by decide +kernel) ⟨Nat.le_of_ble_eq_true rfl, Nat.le_of_ble_eq_true rfl⟩) (x_recv hK hw (k := 0) (by decide) rfl rfl) rfl hl.1 rfl (Nat.le_of_ble_eq_true rfl) dX8_setElement_13 ⟨Nat.le_of_ble_eq_true rfl, Nat.le_of_ble_eq_true rfl⟩) hw hi (fun E ce q9 S9 H locs hp hw h1 h2 h3 => hX E ce q9 S9 _ _ _ _ _ _ _ hp hw h1 h2 h3 (by decide) (by decide)) (fun S_3 H locs hf hw => ?_)
  obtain ⟨hf, rfl⟩ := hf
  refine W.widen (k := 3) (n := 18) (by decide) (by decide) ?_
  refine lv_aload_n hx hb dX8_setElement_16 rfl (lv_at hl 0 rfl) ?_
  refine x_get (k := 0) (v := .ref (xa X 9)) hx hb hts i_X8 hown hK hw (by decide) rfl rfl 8 (by decide) lf_66 (fun _ h9 => h9) rfl dX8_setElement_17 ?_
  refine lv_iload_n hx hb dX8_setElement_20 rfl (lv_at hl 1 rfl) ?_
  refine lv_iload_n hx hb dX8_setElement_21 rfl (lv_at hl 2 rfl) ?_
  refine z_ci (z_rN (As := [.int p0, .int p1]) (rest := []) (okX X) hC hw (kX3_element l X S _ p0 p1 _ hf) ⟨va_cnB 2 hts (gN q_889) rfl rfl rfl ln_289 (hts _ q_43) (by decide +kernel) ⟨Nat.le_of_ble_eq_true rfl, Nat.le_of_ble_eq_true rfl⟩, hts _ q_887, hts _ q_888⟩ (x_recv hK hw (k := 9) (by decide) rfl rfl) rfl hl.1 rfl (Nat.le_of_ble_eq_true rfl) dX8_setElement_22 ⟨Nat.le_of_ble_eq_true rfl, Nat.le_of_ble_eq_true rfl⟩) hw hi (fun r_4 S_5 H locs hf hw => ?_)
  obtain ⟨hf, rfl⟩ := hf
  refine lv_istore (lv' := [(4, .int r_4), (0, .ref (xa X 0)), (1, .int p0), (2, .int p1), (3, .int p2)]) hx hb dX8_setElement_25 hl (by decide) rfl (fun ls hl => ?_)
  refine lv_aload_n hx hb dX8_setElement_27 rfl (lv_at hl 1 rfl) ?_
  refine x_get (k := 0) (v := .ref (xa X 9)) hx hb hts i_X8 hown hK hw (by decide) rfl rfl 8 (by decide) lf_66 (fun _ h9 => h9) rfl dX8_setElement_28 ?_
  refine lv_iload_n hx hb dX8_setElement_31 rfl (lv_at hl 2 rfl) ?_
  refine lv_iload_n hx hb dX8_setElement_32 rfl (lv_at hl 3 rfl) ?_
  refine lv_iload_n hx hb dX8_setElement_33 rfl (lv_at hl 4 rfl) ?_
  refine z_cv (z_rN (As := [.int p0, .int p1, .int p2]) (rest := []) (okX X) hC hw (kX3_put l X S _ p0 p1 p2 _ hf) ⟨va_cnB 3 hts (gN q_896) rfl rfl rfl ln_292 (hts _ q_43) (by decide +kernel) ⟨Nat.le_of_ble_eq_true rfl, Nat.le_of_ble_eq_true rfl⟩, hts _ q_894, hts _ q_895⟩ (x_recv hK hw (k := 9) (by decide) rfl rfl) rfl hl.1 rfl (Nat.le_of_ble_eq_true rfl) dX8_setElement_34 ⟨Nat.le_of_ble_eq_true rfl, Nat.le_of_ble_eq_true rfl⟩) hw hi (fun S_7 H locs hf hw => ?_)
  refine lv_iload hx hb dX8_setElement_37 (lv_at hl 0 rfl) ?_
  exact hQ _ _ _ _ _ _ _ _ rfl hf hw dX8_setElement_39 (by decide) (by decide)
def bX8_storeCounts_25 (p0 : Int32) (p1 : Int32) (Post : gS → Prop) (L_25 : Int32 × gS → Prop) (x3_6 : Int32) (S_7 : gS) : Prop :=
  ((6 < x3_6 → Post S_7) ∧ (¬ 6 < x3_6 → (pX7_atLeast 1 x3_6 S_7 (fun r_9 => (pX3_put p0 ((p1 + x3_6) - 1) r_9 S_7 (fun S_12 => (∀ x3_13 : Int32, x3_13 = x3_6 + 1 → L_25 (x3_13, S_12))))))))
def pX8_storeCounts (p0 : Int32) (p1 : Int32) (S : gS) (Post : gS → Prop) (PX : String → gS → Prop) : Prop :=
  (pX8_checkSlot p0 S ((pX8_checkArray p0 S ((pX8_checkIndexes p0 p1 6 S ((pX8_countWords 6 S (fun S_5 => ∃ n, lp (fun L x => bX8_storeCounts_25 p0 p1 Post L x.1 x.2) n (1, S_5)))) PX)) PX)) PX)
def rX8_storeCounts : Room := { frames := 7, cells := 3, slots := 18, locals := 183 }
set_option maxHeartbeats 40000000 in
set_option maxRecDepth 100000 in
theorem kX8_storeCounts (l : Launch) (hlt : l.stackTraces = false) (X : xG) (S : gS) (sz : Nat) (p0 : Int32) (p1 : Int32) (Post : gS → Prop) (PX : String → gS → Prop) (hf : pX8_storeCounts p0 p1 S Post PX) : yMv l yX8_storeCounts (Cond.code yX8_storeCounts cX8_storeCounts 4 none :: WS) rX8_storeCounts X S sz [.ref (xa X 0), .int p0, .int p1] Post PX 3 18 := by
  refine yMv.of (cc := cX8_storeCounts) (maxL := 4) hlt (by decide) rfl rfl (Nat.le_of_ble_eq_true rfl) (Nat.le_of_ble_eq_true rfl) (Nat.le_of_ble_eq_true rfl) rfl rfl ?_
  intro p e s m args below meth c ls Q hC hQ hT hX hw hl
  obtain ⟨hx, hb, hml, hown, hts, hE, hi⟩ := id hC
  have hK := hE.1
  have hl : lv_has ls 4 [(0, .ref (xa X 0)), (1, .int p0), (2, .int p1)] := hl
  have lf_66 : (Cond.fieldLink RX8 66 "GrammarAmbiguity" "slots" "LGrammarAmbiguity$Slots;").before args s = true := hts _ q_44
  have lf_52 : (Cond.fieldLink RX8 52 "GrammarAmbiguity" "words" "LGrammarAmbiguity$WordCounts;").before args s = true := hts _ q_36
  have ln_192 : va_Nw (.methodLinkNest RX8 192 yX7_atLeast "GrammarAmbiguity") s := hE.2.1 _ (by decide +kernel)
  have ln_292 : va_Nw (.methodLinkNest RX8 292 yX3_put "GrammarAmbiguity") s := hE.2.1 _ (by decide +kernel)
  rw [pX8_storeCounts] at hf
  refine lv_iload_n hx hb dX8_storeCounts_0 rfl (lv_at hl 1 rfl) ?_
  refine y_cv (y_rS (As := [.int p0]) (rest := []) hC hw (kX8_checkSlot l hlt X S _ p0 _ _ hf) (cwS 1 hts (gSt q_852 q_853 q_2 q_854) rfl rfl rfl (by decide +kernel) ⟨Nat.le_of_ble_eq_true rfl, Nat.le_of_ble_eq_true rfl⟩) rfl hl.1 rfl (Nat.le_of_ble_eq_true rfl) dX8_storeCounts_1 ⟨Nat.le_of_ble_eq_true rfl, Nat.le_of_ble_eq_true rfl⟩) hw hi (fun E ce q9 S9 H locs hp hw h1 h2 h3 => hX E ce q9 S9 _ _ _ _ _ _ _ hp hw h1 h2 h3 (by decide) (by decide)) (fun S_1 H locs hf hw => ?_)
  obtain ⟨hf, rfl⟩ := hf
  refine W.widen (k := 1) (n := 6) (by decide) (by decide) ?_
  refine lv_aload_n hx hb dX8_storeCounts_4 rfl (lv_at hl 0 rfl) ?_
  refine lv_iload_n hx hb dX8_storeCounts_5 rfl (lv_at hl 1 rfl) ?_
  refine y_cv (y_rV (As := [.int p0]) (rest := []) hC hw (kX8_checkArray l hlt X S _ p0 _ _ hf) (cwV 1 hts (gV q_872 q_873 q_874 q_2 q_875) rfl rfl rfl (by decide +kernel) ⟨Nat.le_of_ble_eq_true rfl, Nat.le_of_ble_eq_true rfl⟩) (x_recv hK hw (k := 0) (by decide) rfl rfl) rfl hl.1 rfl (Nat.le_of_ble_eq_true rfl) dX8_storeCounts_6 ⟨Nat.le_of_ble_eq_true rfl, Nat.le_of_ble_eq_true rfl⟩) hw hi (fun E ce q9 S9 H locs hp hw h1 h2 h3 => hX E ce q9 S9 _ _ _ _ _ _ _ hp hw h1 h2 h3 (by decide) (by decide)) (fun S_2 H locs hf hw => ?_)
  obtain ⟨hf, rfl⟩ := hf
  refine W.widen (k := 2) (n := 12) (by decide) (by decide) ?_
  refine lv_aload_n hx hb dX8_storeCounts_9 rfl (lv_at hl 0 rfl) ?_
  refine lv_iload_n hx hb dX8_storeCounts_10 rfl (lv_at hl 1 rfl) ?_
  refine lv_iload_n hx hb dX8_storeCounts_11 rfl (lv_at hl 2 rfl) ?_
  refine lv_bipush (v := 6) hx hb dX8_storeCounts_12 (by decide) ?_
  refine y_cv (y_rV (As := [.int p0, .int p1, .int 6]) (rest := []) hC hw (kX8_checkIndexes l hlt X S _ p0 p1 6 _ _ hf) (cwV 3 hts (gV q_879 q_880 q_881 q_2 q_882) rfl rfl rfl (by decide +kernel) ⟨Nat.le_of_ble_eq_true rfl, Nat.le_of_ble_eq_true rfl⟩) (x_recv hK hw (k := 0) (by decide) rfl rfl) rfl hl.1 rfl (Nat.le_of_ble_eq_true rfl) dX8_storeCounts_14 ⟨Nat.le_of_ble_eq_true rfl, Nat.le_of_ble_eq_true rfl⟩) hw hi (fun E ce q9 S9 H locs hp hw h1 h2 h3 => hX E ce q9 S9 _ _ _ _ _ _ _ hp hw h1 h2 h3 (by decide) (by decide)) (fun S_3 H locs hf hw => ?_)
  obtain ⟨hf, rfl⟩ := hf
  refine W.widen (k := 3) (n := 18) (by decide) (by decide) ?_
  refine lv_aload_n hx hb dX8_storeCounts_17 rfl (lv_at hl 0 rfl) ?_
  refine lv_bipush (v := 6) hx hb dX8_storeCounts_18 (by decide) ?_
  refine z_cv (z_rV (As := [.int 6]) (rest := []) (okX X) hC hw (kX8_countWords l X S _ 6 _ hf) (cwV 1 hts (gV q_544 q_545 q_546 q_2 q_547) rfl rfl rfl (by decide +kernel) ⟨Nat.le_of_ble_eq_true rfl, Nat.le_of_ble_eq_true rfl⟩) (x_recv hK hw (k := 0) (by decide) rfl rfl) rfl hl.1 rfl (Nat.le_of_ble_eq_true rfl) dX8_storeCounts_20 ⟨Nat.le_of_ble_eq_true rfl, Nat.le_of_ble_eq_true rfl⟩) hw hi (fun S_5 H locs hf hw => ?_)
  refine lv_iconst (v := 1) hx hb dX8_storeCounts_23 (by decide) ?_
  refine lv_istore_n (lv' := [(3, .int 1), (0, .ref (xa X 0)), (1, .int p0), (2, .int p1)]) hx hb dX8_storeCounts_24 rfl hl (by decide) rfl (fun ls hl => ?_)
  obtain ⟨n_25, hf⟩ := hf
  have w_25 : ∀ (n : Nat) (x3_6 : Int32) (S_7 : gS) (H : Heap) (locs : List Loc) (ls : Array Slot), lp (fun L x => bX8_storeCounts_25 p0 p1 Post L x.1 x.2) n (x3_6, S_7) → xH 34 X (cX X) (xA 34 X s.heap.size) s.heap S_7 H locs → lv_has ls 4 [(0, .ref (xa X 0)), (1, .int p0), (2, .int p1), (3, .int x3_6)] → W p l e rX8_storeCounts s m args below meth c H locs 3 18 Q (F0 m 25 ls []) := by
    intro n
    induction n with
    | zero => intro x3_6 S_7 H locs ls hf; exact hf.elim
    | succ n ih_25 =>
      intro x3_6 S_7 H locs ls hf hw hl
      replace hf : bX8_storeCounts_25 p0 p1 Post (lp (fun L x => bX8_storeCounts_25 p0 p1 Post L x.1 x.2) n) x3_6 S_7 := hf
      generalize lp (fun L x => bX8_storeCounts_25 p0 p1 Post L x.1 x.2) n = L_25 at hf ih_25
      rw [bX8_storeCounts_25] at hf
      refine lv_iload_n hx hb dX8_storeCounts_25 rfl (lv_at hl 3 rfl) ?_
      refine lv_bipush (v := 6) hx hb dX8_storeCounts_26 (by decide) ?_
      refine lv_icmp_gt (tgt := 59) hx hb dX8_storeCounts_28 (by decide) (fun c_8 => ?_) (fun c_8 => ?_)
      · replace hf := hf.1 c_8
        exact hQ _ _ _ _ _ _ _ hf hw dX8_storeCounts_59 (by decide) (by decide)
      · replace hf := hf.2 c_8
        refine lv_aload_n hx hb dX8_storeCounts_31 rfl (lv_at hl 0 rfl) ?_
        refine x_get (k := 0) (v := .ref (xa X 9)) hx hb hts i_X8 hown hK hw (by decide) rfl rfl 8 (by decide) lf_66 (fun _ h9 => h9) rfl dX8_storeCounts_32 ?_
        refine lv_iload_n hx hb dX8_storeCounts_35 rfl (lv_at hl 1 rfl) ?_
        refine lv_iload_n hx hb dX8_storeCounts_36 rfl (lv_at hl 2 rfl) ?_
        refine lv_iload_n hx hb dX8_storeCounts_37 rfl (lv_at hl 3 rfl) ?_
        refine lv_iadd hx hb dX8_storeCounts_38 ?_
        refine lv_iconst (v := 1) hx hb dX8_storeCounts_39 (by decide) ?_
        refine lv_isub hx hb dX8_storeCounts_40 ?_
        refine lv_aload_n hx hb dX8_storeCounts_41 rfl (lv_at hl 0 rfl) ?_
        refine x_get (k := 0) (v := .ref (xa X 7)) hx hb hts i_X8 hown hK hw (by decide) rfl rfl 6 (by decide) lf_52 (fun _ h9 => h9) rfl dX8_storeCounts_42 ?_
        refine lv_iconst (v := 1) hx hb dX8_storeCounts_45 (by decide) ?_
        refine lv_iload_n hx hb dX8_storeCounts_46 rfl (lv_at hl 3 rfl) ?_
        refine z_ci (z_rN (As := [.int 1, .int x3_6]) (rest := [.int ((p1 + x3_6) - 1), .int p0, .ref (xa X 9)]) (okX X) hC hw (kX7_atLeast l X S_7 _ 1 x3_6 _ hf) ⟨va_cnB 2 hts (gN q_579) rfl rfl rfl ln_192 (hts _ q_35) (by decide +kernel) ⟨Nat.le_of_ble_eq_true rfl, Nat.le_of_ble_eq_true rfl⟩, hts _ q_577, hts _ q_578⟩ (x_recv hK hw (k := 7) (by decide) rfl rfl) rfl hl.1 rfl (Nat.le_of_ble_eq_true rfl) dX8_storeCounts_47 ⟨Nat.le_of_ble_eq_true rfl, Nat.le_of_ble_eq_true rfl⟩) hw hi (fun r_9 S_10 H locs hf hw => ?_)
        obtain ⟨hf, rfl⟩ := hf
        refine z_cv (z_rN (As := [.int p0, .int ((p1 + x3_6) - 1), .int r_9]) (rest := []) (okX X) hC hw (kX3_put l X S_7 _ p0 ((p1 + x3_6) - 1) r_9 _ hf) ⟨va_cnB 3 hts (gN q_896) rfl rfl rfl ln_292 (hts _ q_43) (by decide +kernel) ⟨Nat.le_of_ble_eq_true rfl, Nat.le_of_ble_eq_true rfl⟩, hts _ q_894, hts _ q_895⟩ (x_recv hK hw (k := 9) (by decide) rfl rfl) rfl hl.1 rfl (Nat.le_of_ble_eq_true rfl) dX8_storeCounts_50 ⟨Nat.le_of_ble_eq_true rfl, Nat.le_of_ble_eq_true rfl⟩) hw hi (fun S_12 H locs hf hw => ?_)
        obtain ⟨x3_13, ex3_13⟩ : ∃ y : Int32, y = x3_6 + 1 := ⟨_, rfl⟩
        replace hf := hf x3_13 ex3_13
        refine lv_iinc (v := x3_13) (lv' := [(3, .int x3_13), (0, .ref (xa X 0)), (1, .int p0), (2, .int p1)]) hx hb dX8_storeCounts_53 hl (k := 3) rfl (by rw [ex3_13]; rfl) (by decide) rfl (fun ls hl => ?_)
        refine lv_goto (tgt := 25) hx hb dX8_storeCounts_56 (by decide) ?_
        exact ih_25 x3_13 S_12 _ _ _ hf hw (lv_sub hl [1, 2, 3, 0] rfl)
  exact w_25 n_25 1 S_5 _ _ _ hf hw (lv_sub hl [1, 2, 3, 0] rfl)
def bX8_loadWord_100 (p0 : Int32) (p1 : Int32) (p2 : Int32) (Post : gS → Prop) (L_100 : Int32 × gS → Prop) (x4_8 : Int32) (S_9 : gS) : Prop :=
  ((p2 ≤ x4_8 → (∀ S_11 : gS, S_11 = uI S_9 14 0 → Post S_11)) ∧ (¬ p2 ≤ x4_8 → (pX3_element p0 (p1 + x4_8) S_9 (fun r_12 => (pX6_put x4_8 r_12 S_9 (fun S_15 => (∀ x4_16 : Int32, x4_16 = x4_8 + 1 → L_100 (x4_16, S_15))))))))
def bX8_loadWord_44 (p0 : Int32) (p1 : Int32) (p2 : Int32) (S : gS) (Post : gS → Prop) (PX : String → gS → Prop) (L_44 : Int32 → Prop) (x4_5 : Int32) : Prop :=
  ((p2 ≤ x4_5 → (∀ S_7 : gS, S_7 = uI S 5 p2 → ∃ n, lp (fun L x => bX8_loadWord_100 p0 p1 p2 Post L x.1 x.2) n (0, S_7))) ∧ (¬ p2 ≤ x4_5 → (pX3_element p0 (p1 + x4_5) S (fun r_17 => (pX1_isTerminal r_17 S (fun r_19 => ((¬ r_19 = 0 → (∀ x4_22 : Int32, x4_22 = x4_5 + 1 → L_44 x4_22)) ∧ (r_19 = 0 → PX "java/util/NoSuchElementException" S))))))))
def jX8_loadWord_41 (p0 : Int32) (p1 : Int32) (p2 : Int32) (S : gS) (Post : gS → Prop) (PX : String → gS → Prop) : Prop :=
  ∃ n, lp (fun L x => bX8_loadWord_44 p0 p1 p2 S Post PX L x) n 0
def pX8_loadWord (p0 : Int32) (p1 : Int32) (p2 : Int32) (S : gS) (Post : gS → Prop) (PX : String → gS → Prop) : Prop :=
  (pX8_checkSlot p0 S (((p2 < 0 → PX "java/lang/IllegalArgumentException" S) ∧ (¬ p2 < 0 → ((p2 ≤ 8 → (pX8_checkArray p0 S (((p2 ≤ 0 → jX8_loadWord_41 p0 p1 p2 S Post PX) ∧ (¬ p2 ≤ 0 → (pX8_checkIndexes p0 p1 p2 S (jX8_loadWord_41 p0 p1 p2 S Post PX) PX)))) PX)) ∧ (¬ p2 ≤ 8 → PX "java/lang/IllegalArgumentException" S))))) PX)
def rX8_loadWord : Room := { frames := 7, cells := 4, slots := 24, locals := 113 }
set_option maxHeartbeats 40000000 in
set_option maxRecDepth 100000 in
theorem kX8_loadWord (l : Launch) (hlt : l.stackTraces = false) (X : xG) (S : gS) (sz : Nat) (p0 : Int32) (p1 : Int32) (p2 : Int32) (Post : gS → Prop) (PX : String → gS → Prop) (hf : pX8_loadWord p0 p1 p2 S Post PX) : yMv l yX8_loadWord (Cond.code yX8_loadWord cX8_loadWord 5 none :: WS) rX8_loadWord X S sz [.ref (xa X 0), .int p0, .int p1, .int p2] Post PX 4 24 := by
  refine yMv.of (cc := cX8_loadWord) (maxL := 5) hlt (by decide) rfl rfl (Nat.le_of_ble_eq_true rfl) (Nat.le_of_ble_eq_true rfl) (Nat.le_of_ble_eq_true rfl) rfl rfl ?_
  intro p e s m args below meth c ls Q hC hQ hT hX hw hl
  obtain ⟨hx, hb, hml, hown, hts, hE, hi⟩ := id hC
  have hK := hE.1
  have hl : lv_has ls 5 [(0, .ref (xa X 0)), (1, .int p0), (2, .int p1), (3, .int p2)] := hl
  have lf_19 : (Cond.fieldLink RX8 19 "GrammarAmbiguity" "word" "LGrammarAmbiguity$Word;").before args s = true := hts _ q_22
  have lf_87 : va_Nw (.fieldLinkNest RX8 87 "GrammarAmbiguity$Word" "length" "I" "GrammarAmbiguity") s := hE.2.1 _ (by decide +kernel)
  have lf_59 : (Cond.fieldLink RX8 59 "GrammarAmbiguity" "tree" "LGrammarAmbiguity$Tree;").before args s = true := hts _ q_40
  have lf_148 : va_Nw (.fieldLinkNest RX8 148 "GrammarAmbiguity$Tree" "present" "Z" "GrammarAmbiguity") s := hE.2.1 _ (by decide +kernel)
  have lf_66 : (Cond.fieldLink RX8 66 "GrammarAmbiguity" "slots" "LGrammarAmbiguity$Slots;").before args s = true := hts _ q_44
  have ln_289 : va_Nw (.methodLinkNest RX8 289 yX3_element "GrammarAmbiguity") s := hE.2.1 _ (by decide +kernel)
  have ln_165 : va_Nw (.methodLinkNest RX8 165 yX6_put "GrammarAmbiguity") s := hE.2.1 _ (by decide +kernel)
  have lf_12 : (Cond.fieldLink RX8 12 "GrammarAmbiguity" "grammar" "LGrammarAmbiguity$Grammar;").before args s = true := hts _ q_18
  have ln_158 : va_Nw (.methodLinkNest RX8 158 yX1_isTerminal "GrammarAmbiguity") s := hE.2.1 _ (by decide +kernel)
  rw [pX8_loadWord] at hf
  refine lv_iload_n hx hb dX8_loadWord_0 rfl (lv_at hl 1 rfl) ?_
  refine y_cv (y_rS (As := [.int p0]) (rest := []) hC hw (kX8_checkSlot l hlt X S _ p0 _ _ hf) (cwS 1 hts (gSt q_852 q_853 q_2 q_854) rfl rfl rfl (by decide +kernel) ⟨Nat.le_of_ble_eq_true rfl, Nat.le_of_ble_eq_true rfl⟩) rfl hl.1 rfl (Nat.le_of_ble_eq_true rfl) dX8_loadWord_1 ⟨Nat.le_of_ble_eq_true rfl, Nat.le_of_ble_eq_true rfl⟩) hw hi (fun E ce q9 S9 H locs hp hw h1 h2 h3 => hX E ce q9 S9 _ _ _ _ _ _ _ hp hw h1 h2 h3 (by decide) (by decide)) (fun S_1 H locs hf hw => ?_)
  obtain ⟨hf, rfl⟩ := hf
  refine W.widen (k := 1) (n := 6) (by decide) (by decide) ?_
  refine lv_iload_n hx hb dX8_loadWord_4 rfl (lv_at hl 3 rfl) ?_
  refine lv_if_lt (tgt := 14) hx hb dX8_loadWord_5 (by decide) (fun c_2 => ?_) (fun c_2 => ?_)
  · replace hf := hf.1 c_2
    exact hT "java/lang/IllegalArgumentException" "the count is out of range" 74 78 7 294 prog_14_method_2_code S _ _ _ _ [] _ _ ex_A (by decide +kernel) hf hw hl.1 (Nat.le_of_ble_eq_true rfl) (by decide) (by decide) dX8_loadWord_14 dX8_loadWord_17 (Or.inr ⟨dX8_loadWord_18, dX8_loadWord_21, dX8_loadWord_24⟩)
  · replace hf := hf.2 c_2
    refine lv_iload_n hx hb dX8_loadWord_8 rfl (lv_at hl 3 rfl) ?_
    refine lv_bipush (v := 8) hx hb dX8_loadWord_9 (by decide) ?_
    refine lv_icmp_le (tgt := 25) hx hb dX8_loadWord_11 (by decide) (fun c_3 => ?_) (fun c_3 => ?_)
    · replace hf := hf.1 c_3
      refine lv_aload_n hx hb dX8_loadWord_25 rfl (lv_at hl 0 rfl) ?_
      refine lv_iload_n hx hb dX8_loadWord_26 rfl (lv_at hl 1 rfl) ?_
      refine y_cv (y_rV (As := [.int p0]) (rest := []) hC hw (kX8_checkArray l hlt X S _ p0 _ _ hf) (cwV 1 hts (gV q_872 q_873 q_874 q_2 q_875) rfl rfl rfl (by decide +kernel) ⟨Nat.le_of_ble_eq_true rfl, Nat.le_of_ble_eq_true rfl⟩) (x_recv hK hw (k := 0) (by decide) rfl rfl) rfl hl.1 rfl (Nat.le_of_ble_eq_true rfl) dX8_loadWord_27 ⟨Nat.le_of_ble_eq_true rfl, Nat.le_of_ble_eq_true rfl⟩) hw hi (fun E ce q9 S9 H locs hp hw h1 h2 h3 => hX E ce q9 S9 _ _ _ _ _ _ _ hp hw h1 h2 h3 (by decide) (by decide)) (fun S_4 H locs hf hw => ?_)
      obtain ⟨hf, rfl⟩ := hf
      refine W.widen (k := 2) (n := 12) (by decide) (by decide) ?_
      refine lv_iload_n hx hb dX8_loadWord_30 rfl (lv_at hl 3 rfl) ?_
      have w_41 : ∀ (H : Heap) (locs : List Loc) (ls : Array Slot), jX8_loadWord_41 p0 p1 p2 S Post PX → xH 34 X (cX X) (xA 34 X s.heap.size) s.heap S H locs → lv_has ls 5 [(0, .ref (xa X 0)), (1, .int p0), (2, .int p1), (3, .int p2)] → W p l e rX8_loadWord s m args below meth c H locs 3 18 Q (F0 m 41 ls []) := by
        intro H locs ls hf hw hl
        rw [jX8_loadWord_41] at hf
        refine lv_iconst (v := 0) hx hb dX8_loadWord_41 (by decide) ?_
        refine lv_istore (lv' := [(4, .int 0), (0, .ref (xa X 0)), (1, .int p0), (2, .int p1), (3, .int p2)]) hx hb dX8_loadWord_42 hl (by decide) rfl (fun ls hl => ?_)
        obtain ⟨n_44, hf⟩ := hf
        have w_44 : ∀ (n : Nat) (x4_5 : Int32) (H : Heap) (locs : List Loc) (ls : Array Slot), lp (fun L x => bX8_loadWord_44 p0 p1 p2 S Post PX L x) n x4_5 → xH 34 X (cX X) (xA 34 X s.heap.size) s.heap S H locs → lv_has ls 5 [(0, .ref (xa X 0)), (1, .int p0), (2, .int p1), (3, .int p2), (4, .int x4_5)] → W p l e rX8_loadWord s m args below meth c H locs 3 18 Q (F0 m 44 ls []) := by
          intro n
          induction n with
          | zero => intro x4_5 H locs ls hf; exact hf.elim
          | succ n ih_44 =>
            intro x4_5 H locs ls hf hw hl
            replace hf : bX8_loadWord_44 p0 p1 p2 S Post PX (lp (fun L x => bX8_loadWord_44 p0 p1 p2 S Post PX L x) n) x4_5 := hf
            generalize lp (fun L x => bX8_loadWord_44 p0 p1 p2 S Post PX L x) n = L_44 at hf ih_44
            rw [bX8_loadWord_44] at hf
            refine lv_iload hx hb dX8_loadWord_44 (lv_at hl 4 rfl) ?_
            refine lv_iload_n hx hb dX8_loadWord_46 rfl (lv_at hl 3 rfl) ?_
            refine lv_icmp_ge (tgt := 89) hx hb dX8_loadWord_47 (by decide) (fun c_6 => ?_) (fun c_6 => ?_)
            · replace hf := hf.1 c_6
              refine lv_aload_n hx hb dX8_loadWord_89 rfl (lv_at hl 0 rfl) ?_
              refine x_get (k := 0) (v := .ref (xa X 2)) hx hb hts i_X8 hown hK hw (by decide) rfl rfl 1 (by decide) lf_19 (fun _ h9 => h9) rfl dX8_loadWord_90 ?_
              refine lv_iload_n hx hb dX8_loadWord_93 rfl (lv_at hl 3 rfl) ?_
              refine x_putN (k := 2) (S' := uI S 5 p2) (ty := .int) hx hb hts i_X6 tyX6_ok nmX6 hown hK hw (by decide) rfl rfl 0 (by decide) lf_87 (fun _ h9 => h9) rfl (by decide +kernel) rfl rfl (Nat.le_of_ble_eq_true rfl) dX8_loadWord_94 (uX_I5 X S _) (fun H locs hw => ?_)
              obtain ⟨S_7, eS_7⟩ : ∃ z : gS, z = uI S 5 p2 := ⟨_, rfl⟩
              rw [← eS_7] at hw
              replace hf := hf S_7 eS_7
              refine lv_iconst (v := 0) hx hb dX8_loadWord_97 (by decide) ?_
              refine lv_istore (lv' := [(4, .int 0), (0, .ref (xa X 0)), (1, .int p0), (2, .int p1), (3, .int p2)]) hx hb dX8_loadWord_98 hl (by decide) rfl (fun ls hl => ?_)
              obtain ⟨n_100, hf⟩ := hf
              have w_100 : ∀ (n : Nat) (x4_8 : Int32) (S_9 : gS) (H : Heap) (locs : List Loc) (ls : Array Slot), lp (fun L x => bX8_loadWord_100 p0 p1 p2 Post L x.1 x.2) n (x4_8, S_9) → xH 34 X (cX X) (xA 34 X s.heap.size) s.heap S_9 H locs → lv_has ls 5 [(0, .ref (xa X 0)), (1, .int p0), (2, .int p1), (3, .int p2), (4, .int x4_8)] → W p l e rX8_loadWord s m args below meth c H locs 3 18 Q (F0 m 100 ls []) := by
                intro n
                induction n with
                | zero => intro x4_8 S_9 H locs ls hf; exact hf.elim
                | succ n ih_100 =>
                  intro x4_8 S_9 H locs ls hf hw hl
                  replace hf : bX8_loadWord_100 p0 p1 p2 Post (lp (fun L x => bX8_loadWord_100 p0 p1 p2 Post L x.1 x.2) n) x4_8 S_9 := hf
                  generalize lp (fun L x => bX8_loadWord_100 p0 p1 p2 Post L x.1 x.2) n = L_100 at hf ih_100
                  rw [bX8_loadWord_100] at hf
                  refine lv_iload hx hb dX8_loadWord_100 (lv_at hl 4 rfl) ?_
                  refine lv_iload_n hx hb dX8_loadWord_102 rfl (lv_at hl 3 rfl) ?_
                  refine lv_icmp_ge (tgt := 133) hx hb dX8_loadWord_103 (by decide) (fun c_10 => ?_) (fun c_10 => ?_)
                  · replace hf := hf.1 c_10
                    refine lv_aload_n hx hb dX8_loadWord_133 rfl (lv_at hl 0 rfl) ?_
                    refine x_get (k := 0) (v := .ref (xa X 8)) hx hb hts i_X8 hown hK hw (by decide) rfl rfl 7 (by decide) lf_59 (fun _ h9 => h9) rfl dX8_loadWord_134 ?_
                    refine lv_iconst (v := 0) hx hb dX8_loadWord_137 (by decide) ?_
                    refine x_putN (k := 8) (S' := uI S_9 14 0) (ty := .boolean) hx hb hts i_X5 tyX5_ok nmX5 hown hK hw (by decide) rfl rfl 1 (by decide) lf_148 (fun _ h9 => h9) rfl (by decide +kernel) rfl rfl (Nat.le_of_ble_eq_true rfl) dX8_loadWord_138 (uX_I14 X S_9 _) (fun H locs hw => ?_)
                    obtain ⟨S_11, eS_11⟩ : ∃ z : gS, z = uI S_9 14 0 := ⟨_, rfl⟩
                    rw [← eS_11] at hw
                    replace hf := hf S_11 eS_11
                    exact hQ _ _ _ _ _ _ _ hf hw dX8_loadWord_141 (by decide) (by decide)
                  · replace hf := hf.2 c_10
                    refine lv_aload_n hx hb dX8_loadWord_106 rfl (lv_at hl 0 rfl) ?_
                    refine x_get (k := 0) (v := .ref (xa X 2)) hx hb hts i_X8 hown hK hw (by decide) rfl rfl 1 (by decide) lf_19 (fun _ h9 => h9) rfl dX8_loadWord_107 ?_
                    refine lv_iload hx hb dX8_loadWord_110 (lv_at hl 4 rfl) ?_
                    refine lv_aload_n hx hb dX8_loadWord_112 rfl (lv_at hl 0 rfl) ?_
                    refine x_get (k := 0) (v := .ref (xa X 9)) hx hb hts i_X8 hown hK hw (by decide) rfl rfl 8 (by decide) lf_66 (fun _ h9 => h9) rfl dX8_loadWord_113 ?_
                    refine lv_iload_n hx hb dX8_loadWord_116 rfl (lv_at hl 1 rfl) ?_
                    refine lv_iload_n hx hb dX8_loadWord_117 rfl (lv_at hl 2 rfl) ?_
                    refine lv_iload hx hb dX8_loadWord_118 (lv_at hl 4 rfl) ?_
                    refine lv_iadd hx hb dX8_loadWord_120 ?_
                    refine z_ci (z_rN (As := [.int p0, .int (p1 + x4_8)]) (rest := [.int x4_8, .ref (xa X 2)]) (okX X) hC hw (kX3_element l X S_9 _ p0 (p1 + x4_8) _ hf) ⟨va_cnB 2 hts (gN q_889) rfl rfl rfl ln_289 (hts _ q_43) (by decide +kernel) ⟨Nat.le_of_ble_eq_true rfl, Nat.le_of_ble_eq_true rfl⟩, hts _ q_887, hts _ q_888⟩ (x_recv hK hw (k := 9) (by decide) rfl rfl) rfl hl.1 rfl (Nat.le_of_ble_eq_true rfl) dX8_loadWord_121 ⟨Nat.le_of_ble_eq_true rfl, Nat.le_of_ble_eq_true rfl⟩) hw hi (fun r_12 S_13 H locs hf hw => ?_)
                    obtain ⟨hf, rfl⟩ := hf
                    refine z_cv (z_rN (As := [.int x4_8, .int r_12]) (rest := []) (okX X) hC hw (kX6_put l X S_9 _ x4_8 r_12 _ hf) ⟨va_cnB 2 hts (gN q_356) rfl rfl rfl ln_165 (hts _ q_21) (by decide +kernel) ⟨Nat.le_of_ble_eq_true rfl, Nat.le_of_ble_eq_true rfl⟩, hts _ q_354, hts _ q_355⟩ (x_recv hK hw (k := 2) (by decide) rfl rfl) rfl hl.1 rfl (Nat.le_of_ble_eq_true rfl) dX8_loadWord_124 ⟨Nat.le_of_ble_eq_true rfl, Nat.le_of_ble_eq_true rfl⟩) hw hi (fun S_15 H locs hf hw => ?_)
                    obtain ⟨x4_16, ex4_16⟩ : ∃ y : Int32, y = x4_8 + 1 := ⟨_, rfl⟩
                    replace hf := hf x4_16 ex4_16
                    refine lv_iinc (v := x4_16) (lv' := [(4, .int x4_16), (0, .ref (xa X 0)), (1, .int p0), (2, .int p1), (3, .int p2)]) hx hb dX8_loadWord_127 hl (k := 4) rfl (by rw [ex4_16]; rfl) (by decide) rfl (fun ls hl => ?_)
                    refine lv_goto (tgt := 100) hx hb dX8_loadWord_130 (by decide) ?_
                    exact ih_100 x4_16 S_15 _ _ _ hf hw (lv_sub hl [1, 2, 3, 4, 0] rfl)
              exact w_100 n_100 0 S_7 _ _ _ hf hw (lv_sub hl [1, 2, 3, 4, 0] rfl)
            · replace hf := hf.2 c_6
              refine lv_aload_n hx hb dX8_loadWord_50 rfl (lv_at hl 0 rfl) ?_
              refine x_get (k := 0) (v := .ref (xa X 1)) hx hb hts i_X8 hown hK hw (by decide) rfl rfl 0 (by decide) lf_12 (fun _ h9 => h9) rfl dX8_loadWord_51 ?_
              refine lv_aload_n hx hb dX8_loadWord_54 rfl (lv_at hl 0 rfl) ?_
              refine x_get (k := 0) (v := .ref (xa X 9)) hx hb hts i_X8 hown hK hw (by decide) rfl rfl 8 (by decide) lf_66 (fun _ h9 => h9) rfl dX8_loadWord_55 ?_
              refine lv_iload_n hx hb dX8_loadWord_58 rfl (lv_at hl 1 rfl) ?_
              refine lv_iload_n hx hb dX8_loadWord_59 rfl (lv_at hl 2 rfl) ?_
              refine lv_iload hx hb dX8_loadWord_60 (lv_at hl 4 rfl) ?_
              refine lv_iadd hx hb dX8_loadWord_62 ?_
              refine z_ci (z_rN (As := [.int p0, .int (p1 + x4_5)]) (rest := [.ref (xa X 1)]) (okX X) hC hw (kX3_element l X S _ p0 (p1 + x4_5) _ hf) ⟨va_cnB 2 hts (gN q_889) rfl rfl rfl ln_289 (hts _ q_43) (by decide +kernel) ⟨Nat.le_of_ble_eq_true rfl, Nat.le_of_ble_eq_true rfl⟩, hts _ q_887, hts _ q_888⟩ (x_recv hK hw (k := 9) (by decide) rfl rfl) rfl hl.1 rfl (Nat.le_of_ble_eq_true rfl) dX8_loadWord_63 ⟨Nat.le_of_ble_eq_true rfl, Nat.le_of_ble_eq_true rfl⟩) hw hi (fun r_17 S_18 H locs hf hw => ?_)
              obtain ⟨hf, rfl⟩ := hf
              refine z_ci (z_rN (As := [.int r_17]) (rest := []) (okX X) hC hw (kX1_isTerminal l X S _ r_17 _ hf) ⟨va_cnB 1 hts (gN q_195) rfl rfl rfl ln_158 (hts _ q_17) (by decide +kernel) ⟨Nat.le_of_ble_eq_true rfl, Nat.le_of_ble_eq_true rfl⟩, hts _ q_193, hts _ q_194⟩ (x_recv hK hw (k := 1) (by decide) rfl rfl) rfl hl.1 rfl (Nat.le_of_ble_eq_true rfl) dX8_loadWord_66 ⟨Nat.le_of_ble_eq_true rfl, Nat.le_of_ble_eq_true rfl⟩) hw hi (fun r_19 S_20 H locs hf hw => ?_)
              obtain ⟨hf, rfl⟩ := hf
              refine lv_if_ne (tgt := 83) hx hb dX8_loadWord_69 (by decide) (fun c_21 => ?_) (fun c_21 => ?_)
              · replace hf := hf.1 c_21
                obtain ⟨x4_22, ex4_22⟩ : ∃ y : Int32, y = x4_5 + 1 := ⟨_, rfl⟩
                replace hf := hf x4_22 ex4_22
                refine lv_iinc (v := x4_22) (lv' := [(4, .int x4_22), (0, .ref (xa X 0)), (1, .int p0), (2, .int p1), (3, .int p2)]) hx hb dX8_loadWord_83 hl (k := 4) rfl (by rw [ex4_22]; rfl) (by decide) rfl (fun ls hl => ?_)
                refine lv_goto (tgt := 44) hx hb dX8_loadWord_86 (by decide) ?_
                exact ih_44 x4_22 _ _ _ hf hw (lv_sub hl [1, 2, 3, 4, 0] rfl)
              · replace hf := hf.2 c_21
                exact hT "java/util/NoSuchElementException" "an element is not the number of a terminal" 198 202 13 296 prog_21_method_4_code S _ _ _ _ [] _ _ ex_N (by decide +kernel) hf hw hl.1 (Nat.le_of_ble_eq_true rfl) (by decide) (by decide) dX8_loadWord_72 dX8_loadWord_75 (Or.inr ⟨dX8_loadWord_76, dX8_loadWord_79, dX8_loadWord_82⟩)
        exact w_44 n_44 0 _ _ _ hf hw (lv_sub hl [1, 2, 3, 4, 0] rfl)
      refine lv_if_le (tgt := 41) hx hb dX8_loadWord_31 (by decide) (fun c_23 => ?_) (fun c_23 => ?_)
      · replace hf := hf.1 c_23
        refine W.widen (k := 3) (n := 18) (by decide) (by decide) ?_
        exact w_41  _ _ _ hf hw (lv_sub hl [0, 1, 2, 3] rfl)
      · replace hf := hf.2 c_23
        refine lv_aload_n hx hb dX8_loadWord_34 rfl (lv_at hl 0 rfl) ?_
        refine lv_iload_n hx hb dX8_loadWord_35 rfl (lv_at hl 1 rfl) ?_
        refine lv_iload_n hx hb dX8_loadWord_36 rfl (lv_at hl 2 rfl) ?_
        refine lv_iload_n hx hb dX8_loadWord_37 rfl (lv_at hl 3 rfl) ?_
        refine y_cv (y_rV (As := [.int p0, .int p1, .int p2]) (rest := []) hC hw (kX8_checkIndexes l hlt X S _ p0 p1 p2 _ _ hf) (cwV 3 hts (gV q_879 q_880 q_881 q_2 q_882) rfl rfl rfl (by decide +kernel) ⟨Nat.le_of_ble_eq_true rfl, Nat.le_of_ble_eq_true rfl⟩) (x_recv hK hw (k := 0) (by decide) rfl rfl) rfl hl.1 rfl (Nat.le_of_ble_eq_true rfl) dX8_loadWord_38 ⟨Nat.le_of_ble_eq_true rfl, Nat.le_of_ble_eq_true rfl⟩) hw hi (fun E ce q9 S9 H locs hp hw h1 h2 h3 => hX E ce q9 S9 _ _ _ _ _ _ _ hp hw h1 h2 h3 (by decide) (by decide)) (fun S_24 H locs hf hw => ?_)
        obtain ⟨hf, rfl⟩ := hf
        refine W.widen (k := 3) (n := 18) (by decide) (by decide) ?_
        exact w_41  _ _ _ hf hw (lv_sub hl [0, 1, 2, 3] rfl)
    · replace hf := hf.2 c_3
      exact hT "java/lang/IllegalArgumentException" "the count is out of range" 74 78 7 294 prog_14_method_2_code S _ _ _ _ [] _ _ ex_A (by decide +kernel) hf hw hl.1 (Nat.le_of_ble_eq_true rfl) (by decide) (by decide) dX8_loadWord_14 dX8_loadWord_17 (Or.inr ⟨dX8_loadWord_18, dX8_loadWord_21, dX8_loadWord_24⟩)
def pX8_restore (S : gS) (Post : gS → Prop) (PX : String → gS → Prop) : Prop :=
  ((¬ (gI S 0) = 0 → (pX1_copy_13  S (fun S_3 => (pX6_copy_24  S_3 (fun S_5 => (pX8_forgetGrammar  S_5 (fun S_7 => Post S_7))))))) ∧ ((gI S 0) = 0 → PX "java/lang/IllegalStateException" S))
def rX8_restore : Room := { frames := 6, cells := 1, slots := 6, locals := 90 }
set_option maxHeartbeats 40000000 in
set_option maxRecDepth 100000 in
theorem kX8_restore (l : Launch) (hlt : l.stackTraces = false) (X : xG) (S : gS) (sz : Nat) (Post : gS → Prop) (PX : String → gS → Prop) (hf : pX8_restore S Post PX) : yMv l yX8_restore (Cond.code yX8_restore cX8_restore 1 none :: WS) rX8_restore X S sz [.ref (xa X 0)] Post PX 1 6 := by
  refine yMv.of (cc := cX8_restore) (maxL := 1) hlt (by decide) rfl rfl (Nat.le_of_ble_eq_true rfl) (Nat.le_of_ble_eq_true rfl) (Nat.le_of_ble_eq_true rfl) rfl rfl ?_
  intro p e s m args below meth c ls Q hC hQ hT hX hw hl
  obtain ⟨hx, hb, hml, hown, hts, hE, hi⟩ := id hC
  have hK := hE.1
  have hl : lv_has ls 1 [(0, .ref (xa X 0))] := hl
  have lf_70 : (Cond.fieldLink RX8 70 "GrammarAmbiguity" "saved" "Z").before args s = true := hts _ q_45
  have lf_12 : (Cond.fieldLink RX8 12 "GrammarAmbiguity" "grammar" "LGrammarAmbiguity$Grammar;").before args s = true := hts _ q_18
  have lf_23 : (Cond.fieldLink RX8 23 "GrammarAmbiguity" "savedGrammar" "LGrammarAmbiguity$Grammar;").before args s = true := hts _ q_23
  have ln_298 : va_Nw (.methodLinkNest RX8 298 yX1_copy "GrammarAmbiguity") s := hE.2.1 _ (by decide +kernel)
  have lf_19 : (Cond.fieldLink RX8 19 "GrammarAmbiguity" "word" "LGrammarAmbiguity$Word;").before args s = true := hts _ q_22
  have lf_26 : (Cond.fieldLink RX8 26 "GrammarAmbiguity" "savedWord" "LGrammarAmbiguity$Word;").before args s = true := hts _ q_24
  have ln_301 : va_Nw (.methodLinkNest RX8 301 yX6_copy "GrammarAmbiguity") s := hE.2.1 _ (by decide +kernel)
  rw [pX8_restore] at hf
  refine lv_aload_n hx hb dX8_restore_0 rfl (lv_at hl 0 rfl) ?_
  refine x_get (k := 0) (v := .int (gI S 0)) hx hb hts i_X8 hown hK hw (by decide) rfl rfl 9 (by decide) lf_70 (fun _ h9 => h9) rfl dX8_restore_1 ?_
  refine lv_if_ne (tgt := 18) hx hb dX8_restore_4 (by decide) (fun c_1 => ?_) (fun c_1 => ?_)
  · replace hf := hf.1 c_1
    refine lv_aload_n hx hb dX8_restore_18 rfl (lv_at hl 0 rfl) ?_
    refine x_get (k := 0) (v := .ref (xa X 1)) hx hb hts i_X8 hown hK hw (by decide) rfl rfl 0 (by decide) lf_12 (fun _ h9 => h9) rfl dX8_restore_19 ?_
    refine lv_aload_n hx hb dX8_restore_22 rfl (lv_at hl 0 rfl) ?_
    refine x_get (k := 0) (v := .ref (xa X 3)) hx hb hts i_X8 hown hK hw (by decide) rfl rfl 2 (by decide) lf_23 (fun _ h9 => h9) rfl dX8_restore_23 ?_
    refine z_cv (z_rN (As := [.ref (xa X 3)]) (rest := []) (okX X) hC hw (kX1_copy_13 l X S _  _ hf) ⟨va_cnB 1 hts (gN q_937) rfl rfl rfl ln_298 (hts _ q_17) (by decide +kernel) ⟨Nat.le_of_ble_eq_true rfl, Nat.le_of_ble_eq_true rfl⟩, hts _ q_935, hts _ q_936⟩ (x_recv hK hw (k := 1) (by decide) rfl rfl) rfl hl.1 rfl (Nat.le_of_ble_eq_true rfl) dX8_restore_26 ⟨Nat.le_of_ble_eq_true rfl, Nat.le_of_ble_eq_true rfl⟩) hw hi (fun S_3 H locs hf hw => ?_)
    refine lv_aload_n hx hb dX8_restore_29 rfl (lv_at hl 0 rfl) ?_
    refine x_get (k := 0) (v := .ref (xa X 2)) hx hb hts i_X8 hown hK hw (by decide) rfl rfl 1 (by decide) lf_19 (fun _ h9 => h9) rfl dX8_restore_30 ?_
    refine lv_aload_n hx hb dX8_restore_33 rfl (lv_at hl 0 rfl) ?_
    refine x_get (k := 0) (v := .ref (xa X 4)) hx hb hts i_X8 hown hK hw (by decide) rfl rfl 3 (by decide) lf_26 (fun _ h9 => h9) rfl dX8_restore_34 ?_
    refine z_cv (z_rN (As := [.ref (xa X 4)]) (rest := []) (okX X) hC hw (kX6_copy_24 l X S_3 _  _ hf) ⟨va_cnB 1 hts (gN q_940) rfl rfl rfl ln_301 (hts _ q_21) (by decide +kernel) ⟨Nat.le_of_ble_eq_true rfl, Nat.le_of_ble_eq_true rfl⟩, hts _ q_938, hts _ q_939⟩ (x_recv hK hw (k := 2) (by decide) rfl rfl) rfl hl.1 rfl (Nat.le_of_ble_eq_true rfl) dX8_restore_37 ⟨Nat.le_of_ble_eq_true rfl, Nat.le_of_ble_eq_true rfl⟩) hw hi (fun S_5 H locs hf hw => ?_)
    refine lv_aload_n hx hb dX8_restore_40 rfl (lv_at hl 0 rfl) ?_
    refine z_cv (z_rV (As := []) (rest := []) (okX X) hC hw (kX8_forgetGrammar l X S_5 _  _ hf) (cwV 0 hts (gV q_140 q_141 q_142 q_2 q_143) rfl rfl rfl (by decide +kernel) ⟨Nat.le_of_ble_eq_true rfl, Nat.le_of_ble_eq_true rfl⟩) (x_recv hK hw (k := 0) (by decide) rfl rfl) rfl hl.1 rfl (Nat.le_of_ble_eq_true rfl) dX8_restore_41 ⟨Nat.le_of_ble_eq_true rfl, Nat.le_of_ble_eq_true rfl⟩) hw hi (fun S_7 H locs hf hw => ?_)
    exact hQ _ _ _ _ _ _ _ hf hw dX8_restore_44 (by decide) (by decide)
  · replace hf := hf.2 c_1
    exact hT "java/lang/IllegalStateException" "there is no snapshot" 113 117 7 303 prog_15_method_2_code S _ _ _ _ [] _ _ ex_S (by decide +kernel) hf hw hl.1 (Nat.le_of_ble_eq_true rfl) (by decide) (by decide) dX8_restore_7 dX8_restore_10 (Or.inr ⟨dX8_restore_11, dX8_restore_14, dX8_restore_17⟩)
