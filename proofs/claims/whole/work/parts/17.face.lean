/-! Printed by wip/whole/gen: what each method asks (p..), and its contract under that (k..). -/
def pX8_draw (p0 : Int64) (p1 : Int64) (S : gS) (Post : Int64 → Prop) : Prop :=
  ((0 ≤ (lg_cmp p1 1) → (¬ p1 = 0 ∧ Post (((((p0 * 6364136223846793005) + 1442695040888963407).toUInt64 >>> ((1 : Int32).toInt64.toUInt64 &&& Int64.toUInt64 63)).toInt64) - ((((p0 * 6364136223846793005) + 1442695040888963407).toUInt64 >>> ((1 : Int32).toInt64.toUInt64 &&& Int64.toUInt64 63)).toInt64) / p1 * p1))) ∧ (¬ 0 ≤ (lg_cmp p1 1) → Post 0))
def rX8_draw : Room := { frames := 0, cells := 0, slots := 0, locals := 0 }
set_option maxHeartbeats 40000000 in
set_option maxRecDepth 100000 in
theorem kX8_draw (l : Launch) (X : xG) (S : gS) (sz : Nat) (p0 : Int64) (p1 : Int64) (Post : Int64 → Prop) (hf : pX8_draw p0 p1 S Post) : xMl l yX8_draw (Cond.code yX8_draw cX8_draw 4 (some .long) :: WS) rX8_draw 34 X (cX X) (eX X) S sz [.long p0, .long p1] (fun r S' => Post r ∧ S = S') := by
  refine xMl.of (cc := cX8_draw) (maxL := 4) (own := RX8) (by decide) rfl rfl (Nat.le_of_ble_eq_true rfl) ?_
  intro p e s m args below meth c ls Q hC hQ hw hl
  obtain ⟨hx, hb, hml, hown, hts, hE, hi⟩ := id hC
  have hK := hE.1
  have hl : lv_has ls 4 [(0, .long p0), (2, .long p1)] := hl
  have lc_319 : (Cond.constantLong RX8 319 (6364136223846793005)).before args s = true := hts _ q_699
  have lc_321 : (Cond.constantLong RX8 321 (1442695040888963407)).before args s = true := hts _ q_700
  rw [pX8_draw] at hf
  refine lv_lload_n hx hb dX8_draw_0 rfl (lv_at hl 1 rfl) ?_
  refine lv_lconst (v := 1) hx hb dX8_draw_1 (by decide) ?_
  refine W.lcmp hx hb dX8_draw_2 ?_
  refine lv_if_ge (tgt := 8) hx hb dX8_draw_3 (by decide) (fun c_1 => ?_) (fun c_1 => ?_)
  · replace hf := hf.1 c_1
    refine lv_lload_n hx hb dX8_draw_8 rfl (lv_at hl 0 rfl) ?_
    refine lv_ldc2 (v := 6364136223846793005) hx hb hown lc_319 dX8_draw_9 ?_
    refine lv_lmul hx hb dX8_draw_12 ?_
    refine lv_ldc2 (v := 1442695040888963407) hx hb hown lc_321 dX8_draw_13 ?_
    refine lv_ladd hx hb dX8_draw_16 ?_
    refine lv_iconst (v := 1) hx hb dX8_draw_17 (by decide) ?_
    refine lv_lushr hx hb dX8_draw_18 rfl ?_
    refine lv_lload_n hx hb dX8_draw_19 rfl (lv_at hl 1 rfl) ?_
    refine lv_lrem hx hb dX8_draw_20 hf.1 ?_
    replace hf := hf.2
    exact hQ _ _ _ _ _ _ ⟨hf, rfl⟩ hw dX8_draw_21
  · replace hf := hf.2 c_1
    refine lv_lconst (v := 0) hx hb dX8_draw_6 (by decide) ?_
    exact hQ _ _ _ _ _ _ ⟨hf, rfl⟩ hw dX8_draw_7
def pX8_forgetGrammar (S : gS) (Post : gS → Prop) : Prop :=
  (pX0_forget_5  S (fun S_2 => (pX7_forget  S_2 (fun S_4 => (∀ S_5 : gS, S_5 = uI S_4 14 0 → Post S_5)))))
def rX8_forgetGrammar : Room := { frames := 1, cells := 0, slots := 0, locals := 20 }
set_option maxHeartbeats 40000000 in
set_option maxRecDepth 100000 in
theorem kX8_forgetGrammar (l : Launch) (X : xG) (S : gS) (sz : Nat) (Post : gS → Prop) (hf : pX8_forgetGrammar S Post) : xMv l yX8_forgetGrammar (Cond.code yX8_forgetGrammar cX8_forgetGrammar 1 none :: WS) rX8_forgetGrammar 34 X (cX X) (eX X) S sz [.ref (xa X 0)] Post := by
  refine xMv.of (cc := cX8_forgetGrammar) (maxL := 1) (own := RX8) (by decide) rfl rfl (Nat.le_of_ble_eq_true rfl) ?_
  intro p e s m args below meth c ls Q hC hQ hw hl
  obtain ⟨hx, hb, hml, hown, hts, hE, hi⟩ := id hC
  have hK := hE.1
  have hl : lv_has ls 1 [(0, .ref (xa X 0))] := hl
  have lf_34 : (Cond.fieldLink RX8 34 "GrammarAmbiguity" "lengths" "LGrammarAmbiguity$LengthCounts;").before args s = true := hts _ q_28
  have lf_52 : (Cond.fieldLink RX8 52 "GrammarAmbiguity" "words" "LGrammarAmbiguity$WordCounts;").before args s = true := hts _ q_36
  have ln_308 : va_Nw (.methodLinkNest RX8 308 yX7_forget "GrammarAmbiguity") s := hE.2.1 _ (by decide +kernel)
  have lf_59 : (Cond.fieldLink RX8 59 "GrammarAmbiguity" "tree" "LGrammarAmbiguity$Tree;").before args s = true := hts _ q_40
  have lf_148 : va_Nw (.fieldLinkNest RX8 148 "GrammarAmbiguity$Tree" "present" "Z" "GrammarAmbiguity") s := hE.2.1 _ (by decide +kernel)
  rw [pX8_forgetGrammar] at hf
  refine lv_aload_n hx hb dX8_forgetGrammar_0 rfl (lv_at hl 0 rfl) ?_
  refine x_get (k := 0) (v := .ref (xa X 5)) hx hb hts i_X8 hown hK hw (by decide) rfl rfl 4 (by decide) lf_34 (fun _ h9 => h9) rfl dX8_forgetGrammar_1 ?_
  refine x_cv (x_rU (As := []) (rest := []) (okX X) hC hw (kX0_forget_5 l X S _  _ hf) (va_cwU 0 hts (gU (owner := "GrammarAmbiguity$Counts") (x := ⟨"GrammarAmbiguity$LengthCounts", "forget", "()V"⟩) q_144 q_145 q_146 q_147 q_66 q_148) rfl rfl rfl rfl (by decide +kernel) ⟨Nat.le_of_ble_eq_true rfl, Nat.le_of_ble_eq_true rfl⟩) (x_recv hK hw (k := 5) (by decide) rfl rfl) rfl hl.1 rfl (Nat.le_of_ble_eq_true rfl) dX8_forgetGrammar_4) hw hi (fun S_2 H locs hf hw => ?_)
  refine lv_aload_n hx hb dX8_forgetGrammar_7 rfl (lv_at hl 0 rfl) ?_
  refine x_get (k := 0) (v := .ref (xa X 7)) hx hb hts i_X8 hown hK hw (by decide) rfl rfl 6 (by decide) lf_52 (fun _ h9 => h9) rfl dX8_forgetGrammar_8 ?_
  refine x_cv (x_rN (As := []) (rest := []) (okX X) hC hw (kX7_forget l X S_2 _  _ hf) ⟨va_cnB 0 hts (gN q_151) rfl rfl rfl ln_308 (hts _ q_35) (by decide +kernel) ⟨Nat.le_of_ble_eq_true rfl, Nat.le_of_ble_eq_true rfl⟩, hts _ q_149, hts _ q_150⟩ (x_recv hK hw (k := 7) (by decide) rfl rfl) rfl hl.1 rfl (Nat.le_of_ble_eq_true rfl) dX8_forgetGrammar_11) hw hi (fun S_4 H locs hf hw => ?_)
  refine lv_aload_n hx hb dX8_forgetGrammar_14 rfl (lv_at hl 0 rfl) ?_
  refine x_get (k := 0) (v := .ref (xa X 8)) hx hb hts i_X8 hown hK hw (by decide) rfl rfl 7 (by decide) lf_59 (fun _ h9 => h9) rfl dX8_forgetGrammar_15 ?_
  refine lv_iconst (v := 0) hx hb dX8_forgetGrammar_18 (by decide) ?_
  refine x_putN (k := 8) (S' := uI S_4 14 0) (ty := .boolean) hx hb hts i_X5 tyX5_ok nmX5 hown hK hw (by decide) rfl rfl 1 (by decide) lf_148 (fun _ h9 => h9) rfl (by decide +kernel) rfl rfl (Nat.le_of_ble_eq_true rfl) dX8_forgetGrammar_19 (uX_I14 X S_4 _) (fun H locs hw => ?_)
  obtain ⟨S_5, eS_5⟩ : ∃ z : gS, z = uI S_4 14 0 := ⟨_, rfl⟩
  rw [← eS_5] at hw
  replace hf := hf S_5 eS_5
  exact hQ _ _ _ _ _ hf hw dX8_forgetGrammar_22
def pX8_countSpans (S : gS) (Post : gS → Prop) : Prop :=
  (pX0_forget_6  S (fun S_2 => (pX0_fill_6 (gI S_2 5) S_2 (fun S_4 => Post S_4))))
def rX8_countSpans : Room := { frames := 6, cells := 0, slots := 0, locals := 162 }
set_option maxHeartbeats 40000000 in
set_option maxRecDepth 100000 in
theorem kX8_countSpans (l : Launch) (X : xG) (S : gS) (sz : Nat) (Post : gS → Prop) (hf : pX8_countSpans S Post) : xMv l yX8_countSpans (Cond.code yX8_countSpans cX8_countSpans 1 none :: WS) rX8_countSpans 34 X (cX X) (eX X) S sz [.ref (xa X 0)] Post := by
  refine xMv.of (cc := cX8_countSpans) (maxL := 1) (own := RX8) (by decide) rfl rfl (Nat.le_of_ble_eq_true rfl) ?_
  intro p e s m args below meth c ls Q hC hQ hw hl
  obtain ⟨hx, hb, hml, hown, hts, hE, hi⟩ := id hC
  have hK := hE.1
  have hl : lv_has ls 1 [(0, .ref (xa X 0))] := hl
  have lf_43 : (Cond.fieldLink RX8 43 "GrammarAmbiguity" "spans" "LGrammarAmbiguity$SpanCounts;").before args s = true := hts _ q_32
  have lf_19 : (Cond.fieldLink RX8 19 "GrammarAmbiguity" "word" "LGrammarAmbiguity$Word;").before args s = true := hts _ q_22
  have lf_87 : va_Nw (.fieldLinkNest RX8 87 "GrammarAmbiguity$Word" "length" "I" "GrammarAmbiguity") s := hE.2.1 _ (by decide +kernel)
  rw [pX8_countSpans] at hf
  refine lv_aload_n hx hb dX8_countSpans_0 rfl (lv_at hl 0 rfl) ?_
  refine x_get (k := 0) (v := .ref (xa X 6)) hx hb hts i_X8 hown hK hw (by decide) rfl rfl 5 (by decide) lf_43 (fun _ h9 => h9) rfl dX8_countSpans_1 ?_
  refine x_cv (x_rU (As := []) (rest := []) (okX X) hC hw (kX0_forget_6 l X S _  _ hf) (va_cwU 0 hts (gU (owner := "GrammarAmbiguity$Counts") (x := ⟨"GrammarAmbiguity$SpanCounts", "forget", "()V"⟩) q_400 q_401 q_402 q_147 q_66 q_148) rfl rfl rfl rfl (by decide +kernel) ⟨Nat.le_of_ble_eq_true rfl, Nat.le_of_ble_eq_true rfl⟩) (x_recv hK hw (k := 6) (by decide) rfl rfl) rfl hl.1 rfl (Nat.le_of_ble_eq_true rfl) dX8_countSpans_4) hw hi (fun S_2 H locs hf hw => ?_)
  refine lv_aload_n hx hb dX8_countSpans_7 rfl (lv_at hl 0 rfl) ?_
  refine x_get (k := 0) (v := .ref (xa X 6)) hx hb hts i_X8 hown hK hw (by decide) rfl rfl 5 (by decide) lf_43 (fun _ h9 => h9) rfl dX8_countSpans_8 ?_
  refine lv_aload_n hx hb dX8_countSpans_11 rfl (lv_at hl 0 rfl) ?_
  refine x_get (k := 0) (v := .ref (xa X 2)) hx hb hts i_X8 hown hK hw (by decide) rfl rfl 1 (by decide) lf_19 (fun _ h9 => h9) rfl dX8_countSpans_12 ?_
  refine x_getN (k := 2) (v := .int (gI S_2 5)) hx hb hts i_X6 hown hK hw (by decide) rfl rfl 0 (by decide) lf_87 (fun _ h9 => h9) rfl dX8_countSpans_15 ?_
  refine x_cv (x_rU (As := [.int (gI S_2 5)]) (rest := []) (okX X) hC hw (kX0_fill_6 l X S_2 _ (gI S_2 5) _ hf) (va_cwU 1 hts (gU (owner := "GrammarAmbiguity$Counts") (x := ⟨"GrammarAmbiguity$SpanCounts", "fill", "(I)V"⟩) q_403 q_404 q_405 q_406 q_66 q_407) rfl rfl rfl rfl (by decide +kernel) ⟨Nat.le_of_ble_eq_true rfl, Nat.le_of_ble_eq_true rfl⟩) (x_recv hK hw (k := 6) (by decide) rfl rfl) rfl hl.1 rfl (Nat.le_of_ble_eq_true rfl) dX8_countSpans_18) hw hi (fun S_4 H locs hf hw => ?_)
  exact hQ _ _ _ _ _ hf hw dX8_countSpans_21
def pX8_allTrees (p0 : Int32) (S : gS) (Post : Int64 → gS → Prop) : Prop :=
  (pX0_fill_5 p0 S (fun S_2 => (pX0_count_5 (gI S_2 3) p0 0 S_2 (fun r_3 => Post r_3 S_2))))
def rX8_allTrees : Room := { frames := 6, cells := 0, slots := 0, locals := 162 }
set_option maxHeartbeats 40000000 in
set_option maxRecDepth 100000 in
theorem kX8_allTrees (l : Launch) (X : xG) (S : gS) (sz : Nat) (p0 : Int32) (Post : Int64 → gS → Prop) (hf : pX8_allTrees p0 S Post) : xMl l yX8_allTrees (Cond.code yX8_allTrees cX8_allTrees 2 (some .long) :: WS) rX8_allTrees 34 X (cX X) (eX X) S sz [.ref (xa X 0), .int p0] Post := by
  refine xMl.of (cc := cX8_allTrees) (maxL := 2) (own := RX8) (by decide) rfl rfl (Nat.le_of_ble_eq_true rfl) ?_
  intro p e s m args below meth c ls Q hC hQ hw hl
  obtain ⟨hx, hb, hml, hown, hts, hE, hi⟩ := id hC
  have hK := hE.1
  have hl : lv_has ls 2 [(0, .ref (xa X 0)), (1, .int p0)] := hl
  have lf_34 : (Cond.fieldLink RX8 34 "GrammarAmbiguity" "lengths" "LGrammarAmbiguity$LengthCounts;").before args s = true := hts _ q_28
  have lf_12 : (Cond.fieldLink RX8 12 "GrammarAmbiguity" "grammar" "LGrammarAmbiguity$Grammar;").before args s = true := hts _ q_18
  have lf_145 : va_Nw (.fieldLinkNest RX8 145 "GrammarAmbiguity$Grammar" "start" "I" "GrammarAmbiguity") s := hE.2.1 _ (by decide +kernel)
  rw [pX8_allTrees] at hf
  refine lv_aload_n hx hb dX8_allTrees_0 rfl (lv_at hl 0 rfl) ?_
  refine x_get (k := 0) (v := .ref (xa X 5)) hx hb hts i_X8 hown hK hw (by decide) rfl rfl 4 (by decide) lf_34 (fun _ h9 => h9) rfl dX8_allTrees_1 ?_
  refine lv_iload_n hx hb dX8_allTrees_4 rfl (lv_at hl 1 rfl) ?_
  refine x_cv (x_rU (As := [.int p0]) (rest := []) (okX X) hC hw (kX0_fill_5 l X S _ p0 _ hf) (va_cwU 1 hts (gU (owner := "GrammarAmbiguity$Counts") (x := ⟨"GrammarAmbiguity$LengthCounts", "fill", "(I)V"⟩) q_515 q_516 q_517 q_406 q_66 q_407) rfl rfl rfl rfl (by decide +kernel) ⟨Nat.le_of_ble_eq_true rfl, Nat.le_of_ble_eq_true rfl⟩) (x_recv hK hw (k := 5) (by decide) rfl rfl) rfl hl.1 rfl (Nat.le_of_ble_eq_true rfl) dX8_allTrees_5) hw hi (fun S_2 H locs hf hw => ?_)
  refine lv_aload_n hx hb dX8_allTrees_8 rfl (lv_at hl 0 rfl) ?_
  refine x_get (k := 0) (v := .ref (xa X 5)) hx hb hts i_X8 hown hK hw (by decide) rfl rfl 4 (by decide) lf_34 (fun _ h9 => h9) rfl dX8_allTrees_9 ?_
  refine lv_aload_n hx hb dX8_allTrees_12 rfl (lv_at hl 0 rfl) ?_
  refine x_get (k := 0) (v := .ref (xa X 1)) hx hb hts i_X8 hown hK hw (by decide) rfl rfl 0 (by decide) lf_12 (fun _ h9 => h9) rfl dX8_allTrees_13 ?_
  refine x_getN (k := 1) (v := .int (gI S_2 3)) hx hb hts i_X1 hown hK hw (by decide) rfl rfl 2 (by decide) lf_145 (fun _ h9 => h9) rfl dX8_allTrees_16 ?_
  refine lv_iload_n hx hb dX8_allTrees_19 rfl (lv_at hl 1 rfl) ?_
  refine lv_iconst (v := 0) hx hb dX8_allTrees_20 (by decide) ?_
  refine x_cl (x_rU (As := [.int (gI S_2 3), .int p0, .int 0]) (rest := []) (okX X) hC hw (kX0_count_5 l X S_2 _ (gI S_2 3) p0 0 _ hf) (va_cwU 3 hts (gU (owner := "GrammarAmbiguity$Counts") (x := ⟨"GrammarAmbiguity$LengthCounts", "count", "(III)J"⟩) q_518 q_519 q_520 q_441 q_66 q_442) rfl rfl rfl rfl (by decide +kernel) ⟨Nat.le_of_ble_eq_true rfl, Nat.le_of_ble_eq_true rfl⟩) (x_recv hK hw (k := 5) (by decide) rfl rfl) rfl hl.1 rfl (Nat.le_of_ble_eq_true rfl) dX8_allTrees_21) hw hi (fun r_3 S_4 H locs hf hw => ?_)
  obtain ⟨hf, rfl⟩ := hf
  exact hQ _ _ _ _ _ _ hf hw dX8_allTrees_24
def pX8_countWords (p0 : Int32) (S : gS) (Post : gS → Prop) : Prop :=
  (pX0_fill_5 p0 S (fun S_2 => (pX7_fill p0 S_2 (fun S_4 => Post S_4))))
def rX8_countWords : Room := { frames := 6, cells := 0, slots := 0, locals := 162 }
set_option maxHeartbeats 40000000 in
set_option maxRecDepth 100000 in
theorem kX8_countWords (l : Launch) (X : xG) (S : gS) (sz : Nat) (p0 : Int32) (Post : gS → Prop) (hf : pX8_countWords p0 S Post) : xMv l yX8_countWords (Cond.code yX8_countWords cX8_countWords 2 none :: WS) rX8_countWords 34 X (cX X) (eX X) S sz [.ref (xa X 0), .int p0] Post := by
  refine xMv.of (cc := cX8_countWords) (maxL := 2) (own := RX8) (by decide) rfl rfl (Nat.le_of_ble_eq_true rfl) ?_
  intro p e s m args below meth c ls Q hC hQ hw hl
  obtain ⟨hx, hb, hml, hown, hts, hE, hi⟩ := id hC
  have hK := hE.1
  have hl : lv_has ls 2 [(0, .ref (xa X 0)), (1, .int p0)] := hl
  have lf_34 : (Cond.fieldLink RX8 34 "GrammarAmbiguity" "lengths" "LGrammarAmbiguity$LengthCounts;").before args s = true := hts _ q_28
  have lf_52 : (Cond.fieldLink RX8 52 "GrammarAmbiguity" "words" "LGrammarAmbiguity$WordCounts;").before args s = true := hts _ q_36
  have ln_315 : va_Nw (.methodLinkNest RX8 315 yX7_fill "GrammarAmbiguity") s := hE.2.1 _ (by decide +kernel)
  rw [pX8_countWords] at hf
  refine lv_aload_n hx hb dX8_countWords_0 rfl (lv_at hl 0 rfl) ?_
  refine x_get (k := 0) (v := .ref (xa X 5)) hx hb hts i_X8 hown hK hw (by decide) rfl rfl 4 (by decide) lf_34 (fun _ h9 => h9) rfl dX8_countWords_1 ?_
  refine lv_iload_n hx hb dX8_countWords_4 rfl (lv_at hl 1 rfl) ?_
  refine x_cv (x_rU (As := [.int p0]) (rest := []) (okX X) hC hw (kX0_fill_5 l X S _ p0 _ hf) (va_cwU 1 hts (gU (owner := "GrammarAmbiguity$Counts") (x := ⟨"GrammarAmbiguity$LengthCounts", "fill", "(I)V"⟩) q_515 q_516 q_517 q_406 q_66 q_407) rfl rfl rfl rfl (by decide +kernel) ⟨Nat.le_of_ble_eq_true rfl, Nat.le_of_ble_eq_true rfl⟩) (x_recv hK hw (k := 5) (by decide) rfl rfl) rfl hl.1 rfl (Nat.le_of_ble_eq_true rfl) dX8_countWords_5) hw hi (fun S_2 H locs hf hw => ?_)
  refine lv_aload_n hx hb dX8_countWords_8 rfl (lv_at hl 0 rfl) ?_
  refine x_get (k := 0) (v := .ref (xa X 7)) hx hb hts i_X8 hown hK hw (by decide) rfl rfl 6 (by decide) lf_52 (fun _ h9 => h9) rfl dX8_countWords_9 ?_
  refine lv_iload_n hx hb dX8_countWords_12 rfl (lv_at hl 1 rfl) ?_
  refine x_cv (x_rN (As := [.int p0]) (rest := []) (okX X) hC hw (kX7_fill l X S_2 _ p0 _ hf) ⟨va_cnB 1 hts (gN q_550) rfl rfl rfl ln_315 (hts _ q_35) (by decide +kernel) ⟨Nat.le_of_ble_eq_true rfl, Nat.le_of_ble_eq_true rfl⟩, hts _ q_548, hts _ q_549⟩ (x_recv hK hw (k := 7) (by decide) rfl rfl) rfl hl.1 rfl (Nat.le_of_ble_eq_true rfl) dX8_countWords_13) hw hi (fun S_4 H locs hf hw => ?_)
  exact hQ _ _ _ _ _ hf hw dX8_countWords_16
def pX8_setWord (p0 : Int32) (p1 : Int32) (S : gS) (Post : gS → Prop) : Prop :=
  (pX6_set p0 p1 (gI S 2) S (fun S_2 => (∀ S_3 : gS, S_3 = uI S_2 14 0 → Post S_3)))
def rX8_setWord : Room := { frames := 2, cells := 0, slots := 0, locals := 50 }
set_option maxHeartbeats 40000000 in
set_option maxRecDepth 100000 in
theorem kX8_setWord (l : Launch) (X : xG) (S : gS) (sz : Nat) (p0 : Int32) (p1 : Int32) (Post : gS → Prop) (hf : pX8_setWord p0 p1 S Post) : xMv l yX8_setWord (Cond.code yX8_setWord cX8_setWord 3 none :: WS) rX8_setWord 34 X (cX X) (eX X) S sz [.ref (xa X 0), .int p0, .int p1] Post := by
  refine xMv.of (cc := cX8_setWord) (maxL := 3) (own := RX8) (by decide) rfl rfl (Nat.le_of_ble_eq_true rfl) ?_
  intro p e s m args below meth c ls Q hC hQ hw hl
  obtain ⟨hx, hb, hml, hown, hts, hE, hi⟩ := id hC
  have hK := hE.1
  have hl : lv_has ls 3 [(0, .ref (xa X 0)), (1, .int p0), (2, .int p1)] := hl
  have lf_19 : (Cond.fieldLink RX8 19 "GrammarAmbiguity" "word" "LGrammarAmbiguity$Word;").before args s = true := hts _ q_22
  have lf_12 : (Cond.fieldLink RX8 12 "GrammarAmbiguity" "grammar" "LGrammarAmbiguity$Grammar;").before args s = true := hts _ q_18
  have lf_214 : va_Nw (.fieldLinkNest RX8 214 "GrammarAmbiguity$Grammar" "terminals" "I" "GrammarAmbiguity") s := hE.2.1 _ (by decide +kernel)
  have ln_316 : va_Nw (.methodLinkNest RX8 316 yX6_set "GrammarAmbiguity") s := hE.2.1 _ (by decide +kernel)
  have lf_59 : (Cond.fieldLink RX8 59 "GrammarAmbiguity" "tree" "LGrammarAmbiguity$Tree;").before args s = true := hts _ q_40
  have lf_148 : va_Nw (.fieldLinkNest RX8 148 "GrammarAmbiguity$Tree" "present" "Z" "GrammarAmbiguity") s := hE.2.1 _ (by decide +kernel)
  rw [pX8_setWord] at hf
  refine lv_aload_n hx hb dX8_setWord_0 rfl (lv_at hl 0 rfl) ?_
  refine x_get (k := 0) (v := .ref (xa X 2)) hx hb hts i_X8 hown hK hw (by decide) rfl rfl 1 (by decide) lf_19 (fun _ h9 => h9) rfl dX8_setWord_1 ?_
  refine lv_iload_n hx hb dX8_setWord_4 rfl (lv_at hl 1 rfl) ?_
  refine lv_iload_n hx hb dX8_setWord_5 rfl (lv_at hl 2 rfl) ?_
  refine lv_aload_n hx hb dX8_setWord_6 rfl (lv_at hl 0 rfl) ?_
  refine x_get (k := 0) (v := .ref (xa X 1)) hx hb hts i_X8 hown hK hw (by decide) rfl rfl 0 (by decide) lf_12 (fun _ h9 => h9) rfl dX8_setWord_7 ?_
  refine x_getN (k := 1) (v := .int (gI S 2)) hx hb hts i_X1 hown hK hw (by decide) rfl rfl 1 (by decide) lf_214 (fun _ h9 => h9) rfl dX8_setWord_10 ?_
  refine x_cv (x_rN (As := [.int p0, .int p1, .int (gI S 2)]) (rest := []) (okX X) hC hw (kX6_set l X S _ p0 p1 (gI S 2) _ hf) ⟨va_cnB 3 hts (gN q_647) rfl rfl rfl ln_316 (hts _ q_21) (by decide +kernel) ⟨Nat.le_of_ble_eq_true rfl, Nat.le_of_ble_eq_true rfl⟩, hts _ q_645, hts _ q_646⟩ (x_recv hK hw (k := 2) (by decide) rfl rfl) rfl hl.1 rfl (Nat.le_of_ble_eq_true rfl) dX8_setWord_13) hw hi (fun S_2 H locs hf hw => ?_)
  refine lv_aload_n hx hb dX8_setWord_16 rfl (lv_at hl 0 rfl) ?_
  refine x_get (k := 0) (v := .ref (xa X 8)) hx hb hts i_X8 hown hK hw (by decide) rfl rfl 7 (by decide) lf_59 (fun _ h9 => h9) rfl dX8_setWord_17 ?_
  refine lv_iconst (v := 0) hx hb dX8_setWord_20 (by decide) ?_
  refine x_putN (k := 8) (S' := uI S_2 14 0) (ty := .boolean) hx hb hts i_X5 tyX5_ok nmX5 hown hK hw (by decide) rfl rfl 1 (by decide) lf_148 (fun _ h9 => h9) rfl (by decide +kernel) rfl rfl (Nat.le_of_ble_eq_true rfl) dX8_setWord_21 (uX_I14 X S_2 _) (fun H locs hw => ?_)
  obtain ⟨S_3, eS_3⟩ : ∃ z : gS, z = uI S_2 14 0 := ⟨_, rfl⟩
  rw [← eS_3] at hw
  replace hf := hf S_3 eS_3
  exact hQ _ _ _ _ _ hf hw dX8_setWord_24
def pX8_removeUseless (S : gS) (Post : Int32 → gS → Prop) : Prop :=
  (pX1_removeUnused  S (fun r_1 S_2 => (pX8_forgetGrammar  S_2 (fun S_4 => Post r_1 S_4))))
def rX8_removeUseless : Room := { frames := 6, cells := 0, slots := 0, locals := 133 }
set_option maxHeartbeats 40000000 in
set_option maxRecDepth 100000 in
theorem kX8_removeUseless (l : Launch) (X : xG) (S : gS) (sz : Nat) (Post : Int32 → gS → Prop) (hf : pX8_removeUseless S Post) : xMi l yX8_removeUseless (Cond.code yX8_removeUseless cX8_removeUseless 2 (some .int) :: WS) rX8_removeUseless 34 X (cX X) (eX X) S sz [.ref (xa X 0)] Post := by
  refine xMi.of (cc := cX8_removeUseless) (maxL := 2) (own := RX8) (by decide) rfl rfl (Nat.le_of_ble_eq_true rfl) ?_
  intro p e s m args below meth c ls Q hC hQ hw hl
  obtain ⟨hx, hb, hml, hown, hts, hE, hi⟩ := id hC
  have hK := hE.1
  have hl : lv_has ls 2 [(0, .ref (xa X 0))] := hl
  have lf_12 : (Cond.fieldLink RX8 12 "GrammarAmbiguity" "grammar" "LGrammarAmbiguity$Grammar;").before args s = true := hts _ q_18
  have ln_129 : va_Nw (.methodLinkNest RX8 129 yX1_removeUnused "GrammarAmbiguity") s := hE.2.1 _ (by decide +kernel)
  rw [pX8_removeUseless] at hf
  refine lv_aload_n hx hb dX8_removeUseless_0 rfl (lv_at hl 0 rfl) ?_
  refine x_get (k := 0) (v := .ref (xa X 1)) hx hb hts i_X8 hown hK hw (by decide) rfl rfl 0 (by decide) lf_12 (fun _ h9 => h9) rfl dX8_removeUseless_1 ?_
  refine x_ci (x_rN (As := []) (rest := []) (okX X) hC hw (kX1_removeUnused l X S _  _ hf) ⟨va_cnB 0 hts (gN q_258) rfl rfl rfl ln_129 (hts _ q_17) (by decide +kernel) ⟨Nat.le_of_ble_eq_true rfl, Nat.le_of_ble_eq_true rfl⟩, hts _ q_256, hts _ q_257⟩ (x_recv hK hw (k := 1) (by decide) rfl rfl) rfl hl.1 rfl (Nat.le_of_ble_eq_true rfl) dX8_removeUseless_4) hw hi (fun r_1 S_2 H locs hf hw => ?_)
  refine lv_istore_n (lv' := [(1, .int r_1), (0, .ref (xa X 0))]) hx hb dX8_removeUseless_7 rfl hl (by decide) rfl (fun ls hl => ?_)
  refine lv_aload_n hx hb dX8_removeUseless_8 rfl (lv_at hl 1 rfl) ?_
  refine x_cv (x_rV (As := []) (rest := []) (okX X) hC hw (kX8_forgetGrammar l X S_2 _  _ hf) (cwV 0 hts (gV q_140 q_141 q_142 q_2 q_143) rfl rfl rfl (by decide +kernel) ⟨Nat.le_of_ble_eq_true rfl, Nat.le_of_ble_eq_true rfl⟩) (x_recv hK hw (k := 0) (by decide) rfl rfl) rfl hl.1 rfl (Nat.le_of_ble_eq_true rfl) dX8_removeUseless_9) hw hi (fun S_4 H locs hf hw => ?_)
  refine lv_iload_n hx hb dX8_removeUseless_12 rfl (lv_at hl 0 rfl) ?_
  exact hQ _ _ _ _ _ _ rfl hf hw dX8_removeUseless_13
def pX8_productionCount (S : gS) (Post : Int32 → Prop) : Prop :=
  Post (gI S 4)
def rX8_productionCount : Room := { frames := 0, cells := 0, slots := 0, locals := 0 }
set_option maxHeartbeats 40000000 in
set_option maxRecDepth 100000 in
theorem kX8_productionCount (l : Launch) (X : xG) (S : gS) (sz : Nat) (Post : Int32 → Prop) (hf : pX8_productionCount S Post) : xMi l yX8_productionCount (Cond.code yX8_productionCount cX8_productionCount 1 (some .int) :: WS) rX8_productionCount 34 X (cX X) (eX X) S sz [.ref (xa X 0)] (fun r S' => Post r ∧ S = S') := by
  refine xMi.of (cc := cX8_productionCount) (maxL := 1) (own := RX8) (by decide) rfl rfl (Nat.le_of_ble_eq_true rfl) ?_
  intro p e s m args below meth c ls Q hC hQ hw hl
  obtain ⟨hx, hb, hml, hown, hts, hE, hi⟩ := id hC
  have hK := hE.1
  have hl : lv_has ls 1 [(0, .ref (xa X 0))] := hl
  have lf_12 : (Cond.fieldLink RX8 12 "GrammarAmbiguity" "grammar" "LGrammarAmbiguity$Grammar;").before args s = true := hts _ q_18
  have lf_110 : va_Nw (.fieldLinkNest RX8 110 "GrammarAmbiguity$Grammar" "productions" "I" "GrammarAmbiguity") s := hE.2.1 _ (by decide +kernel)
  rw [pX8_productionCount] at hf
  refine lv_aload_n hx hb dX8_productionCount_0 rfl (lv_at hl 0 rfl) ?_
  refine x_get (k := 0) (v := .ref (xa X 1)) hx hb hts i_X8 hown hK hw (by decide) rfl rfl 0 (by decide) lf_12 (fun _ h9 => h9) rfl dX8_productionCount_1 ?_
  refine x_getN (k := 1) (v := .int (gI S 4)) hx hb hts i_X1 hown hK hw (by decide) rfl rfl 3 (by decide) lf_110 (fun _ h9 => h9) rfl dX8_productionCount_4 ?_
  exact hQ _ _ _ _ _ _ rfl ⟨hf, rfl⟩ hw dX8_productionCount_7
def pX8_clearWord (S : gS) (Post : Int32 → gS → Prop) : Prop :=
  (∀ x1_1 : Int32, x1_1 = gI S 5 → (∀ S_2 : gS, S_2 = uI S 5 0 → (∀ S_3 : gS, S_3 = uI S_2 14 0 → Post x1_1 S_3)))
def rX8_clearWord : Room := { frames := 0, cells := 0, slots := 0, locals := 0 }
set_option maxHeartbeats 40000000 in
set_option maxRecDepth 100000 in
theorem kX8_clearWord (l : Launch) (X : xG) (S : gS) (sz : Nat) (Post : Int32 → gS → Prop) (hf : pX8_clearWord S Post) : xMi l yX8_clearWord (Cond.code yX8_clearWord cX8_clearWord 2 (some .int) :: WS) rX8_clearWord 34 X (cX X) (eX X) S sz [.ref (xa X 0)] Post := by
  refine xMi.of (cc := cX8_clearWord) (maxL := 2) (own := RX8) (by decide) rfl rfl (Nat.le_of_ble_eq_true rfl) ?_
  intro p e s m args below meth c ls Q hC hQ hw hl
  obtain ⟨hx, hb, hml, hown, hts, hE, hi⟩ := id hC
  have hK := hE.1
  have hl : lv_has ls 2 [(0, .ref (xa X 0))] := hl
  have lf_19 : (Cond.fieldLink RX8 19 "GrammarAmbiguity" "word" "LGrammarAmbiguity$Word;").before args s = true := hts _ q_22
  have lf_87 : va_Nw (.fieldLinkNest RX8 87 "GrammarAmbiguity$Word" "length" "I" "GrammarAmbiguity") s := hE.2.1 _ (by decide +kernel)
  have lf_59 : (Cond.fieldLink RX8 59 "GrammarAmbiguity" "tree" "LGrammarAmbiguity$Tree;").before args s = true := hts _ q_40
  have lf_148 : va_Nw (.fieldLinkNest RX8 148 "GrammarAmbiguity$Tree" "present" "Z" "GrammarAmbiguity") s := hE.2.1 _ (by decide +kernel)
  rw [pX8_clearWord] at hf
  refine lv_aload_n hx hb dX8_clearWord_0 rfl (lv_at hl 0 rfl) ?_
  refine x_get (k := 0) (v := .ref (xa X 2)) hx hb hts i_X8 hown hK hw (by decide) rfl rfl 1 (by decide) lf_19 (fun _ h9 => h9) rfl dX8_clearWord_1 ?_
  refine x_getN (k := 2) (v := .int (gI S 5)) hx hb hts i_X6 hown hK hw (by decide) rfl rfl 0 (by decide) lf_87 (fun _ h9 => h9) rfl dX8_clearWord_4 ?_
  refine lv_topi (fun x1_1 ex1_1 => ?_)
  replace hf := hf x1_1 ex1_1
  refine lv_istore_n (lv' := [(1, .int x1_1), (0, .ref (xa X 0))]) hx hb dX8_clearWord_7 rfl hl (by decide) rfl (fun ls hl => ?_)
  refine lv_aload_n hx hb dX8_clearWord_8 rfl (lv_at hl 1 rfl) ?_
  refine x_get (k := 0) (v := .ref (xa X 2)) hx hb hts i_X8 hown hK hw (by decide) rfl rfl 1 (by decide) lf_19 (fun _ h9 => h9) rfl dX8_clearWord_9 ?_
  refine lv_iconst (v := 0) hx hb dX8_clearWord_12 (by decide) ?_
  refine x_putN (k := 2) (S' := uI S 5 0) (ty := .int) hx hb hts i_X6 tyX6_ok nmX6 hown hK hw (by decide) rfl rfl 0 (by decide) lf_87 (fun _ h9 => h9) rfl (by decide +kernel) rfl rfl (Nat.le_of_ble_eq_true rfl) dX8_clearWord_13 (uX_I5 X S _) (fun H locs hw => ?_)
  obtain ⟨S_2, eS_2⟩ : ∃ z : gS, z = uI S 5 0 := ⟨_, rfl⟩
  rw [← eS_2] at hw
  replace hf := hf S_2 eS_2
  refine lv_aload_n hx hb dX8_clearWord_16 rfl (lv_at hl 1 rfl) ?_
  refine x_get (k := 0) (v := .ref (xa X 8)) hx hb hts i_X8 hown hK hw (by decide) rfl rfl 7 (by decide) lf_59 (fun _ h9 => h9) rfl dX8_clearWord_17 ?_
  refine lv_iconst (v := 0) hx hb dX8_clearWord_20 (by decide) ?_
  refine x_putN (k := 8) (S' := uI S_2 14 0) (ty := .boolean) hx hb hts i_X5 tyX5_ok nmX5 hown hK hw (by decide) rfl rfl 1 (by decide) lf_148 (fun _ h9 => h9) rfl (by decide +kernel) rfl rfl (Nat.le_of_ble_eq_true rfl) dX8_clearWord_21 (uX_I14 X S_2 _) (fun H locs hw => ?_)
  obtain ⟨S_3, eS_3⟩ : ∃ z : gS, z = uI S_2 14 0 := ⟨_, rfl⟩
  rw [← eS_3] at hw
  replace hf := hf S_3 eS_3
  refine lv_iload_n hx hb dX8_clearWord_24 rfl (lv_at hl 0 rfl) ?_
  exact hQ _ _ _ _ _ _ rfl hf hw dX8_clearWord_25
def pX8_wordLength (S : gS) (Post : Int32 → Prop) : Prop :=
  Post (gI S 5)
def rX8_wordLength : Room := { frames := 0, cells := 0, slots := 0, locals := 0 }
set_option maxHeartbeats 40000000 in
set_option maxRecDepth 100000 in
theorem kX8_wordLength (l : Launch) (X : xG) (S : gS) (sz : Nat) (Post : Int32 → Prop) (hf : pX8_wordLength S Post) : xMi l yX8_wordLength (Cond.code yX8_wordLength cX8_wordLength 1 (some .int) :: WS) rX8_wordLength 34 X (cX X) (eX X) S sz [.ref (xa X 0)] (fun r S' => Post r ∧ S = S') := by
  refine xMi.of (cc := cX8_wordLength) (maxL := 1) (own := RX8) (by decide) rfl rfl (Nat.le_of_ble_eq_true rfl) ?_
  intro p e s m args below meth c ls Q hC hQ hw hl
  obtain ⟨hx, hb, hml, hown, hts, hE, hi⟩ := id hC
  have hK := hE.1
  have hl : lv_has ls 1 [(0, .ref (xa X 0))] := hl
  have lf_19 : (Cond.fieldLink RX8 19 "GrammarAmbiguity" "word" "LGrammarAmbiguity$Word;").before args s = true := hts _ q_22
  have lf_87 : va_Nw (.fieldLinkNest RX8 87 "GrammarAmbiguity$Word" "length" "I" "GrammarAmbiguity") s := hE.2.1 _ (by decide +kernel)
  rw [pX8_wordLength] at hf
  refine lv_aload_n hx hb dX8_wordLength_0 rfl (lv_at hl 0 rfl) ?_
  refine x_get (k := 0) (v := .ref (xa X 2)) hx hb hts i_X8 hown hK hw (by decide) rfl rfl 1 (by decide) lf_19 (fun _ h9 => h9) rfl dX8_wordLength_1 ?_
  refine x_getN (k := 2) (v := .int (gI S 5)) hx hb hts i_X6 hown hK hw (by decide) rfl rfl 0 (by decide) lf_87 (fun _ h9 => h9) rfl dX8_wordLength_4 ?_
  exact hQ _ _ _ _ _ _ rfl ⟨hf, rfl⟩ hw dX8_wordLength_7
def pX8_treeCount (S : gS) (Post : Int64 → gS → Prop) : Prop :=
  (pX8_countSpans  S (fun S_2 => (pX0_count_6 (gI S_2 3) (gI S_2 5) 0 S_2 (fun r_3 => Post r_3 S_2))))
def rX8_treeCount : Room := { frames := 7, cells := 0, slots := 0, locals := 182 }
set_option maxHeartbeats 40000000 in
set_option maxRecDepth 100000 in
theorem kX8_treeCount (l : Launch) (X : xG) (S : gS) (sz : Nat) (Post : Int64 → gS → Prop) (hf : pX8_treeCount S Post) : xMl l yX8_treeCount (Cond.code yX8_treeCount cX8_treeCount 1 (some .long) :: WS) rX8_treeCount 34 X (cX X) (eX X) S sz [.ref (xa X 0)] Post := by
  refine xMl.of (cc := cX8_treeCount) (maxL := 1) (own := RX8) (by decide) rfl rfl (Nat.le_of_ble_eq_true rfl) ?_
  intro p e s m args below meth c ls Q hC hQ hw hl
  obtain ⟨hx, hb, hml, hown, hts, hE, hi⟩ := id hC
  have hK := hE.1
  have hl : lv_has ls 1 [(0, .ref (xa X 0))] := hl
  have lf_43 : (Cond.fieldLink RX8 43 "GrammarAmbiguity" "spans" "LGrammarAmbiguity$SpanCounts;").before args s = true := hts _ q_32
  have lf_12 : (Cond.fieldLink RX8 12 "GrammarAmbiguity" "grammar" "LGrammarAmbiguity$Grammar;").before args s = true := hts _ q_18
  have lf_145 : va_Nw (.fieldLinkNest RX8 145 "GrammarAmbiguity$Grammar" "start" "I" "GrammarAmbiguity") s := hE.2.1 _ (by decide +kernel)
  have lf_19 : (Cond.fieldLink RX8 19 "GrammarAmbiguity" "word" "LGrammarAmbiguity$Word;").before args s = true := hts _ q_22
  have lf_87 : va_Nw (.fieldLinkNest RX8 87 "GrammarAmbiguity$Word" "length" "I" "GrammarAmbiguity") s := hE.2.1 _ (by decide +kernel)
  rw [pX8_treeCount] at hf
  refine lv_aload_n hx hb dX8_treeCount_0 rfl (lv_at hl 0 rfl) ?_
  refine x_cv (x_rV (As := []) (rest := []) (okX X) hC hw (kX8_countSpans l X S _  _ hf) (cwV 0 hts (gV q_396 q_397 q_398 q_2 q_399) rfl rfl rfl (by decide +kernel) ⟨Nat.le_of_ble_eq_true rfl, Nat.le_of_ble_eq_true rfl⟩) (x_recv hK hw (k := 0) (by decide) rfl rfl) rfl hl.1 rfl (Nat.le_of_ble_eq_true rfl) dX8_treeCount_1) hw hi (fun S_2 H locs hf hw => ?_)
  refine lv_aload_n hx hb dX8_treeCount_4 rfl (lv_at hl 0 rfl) ?_
  refine x_get (k := 0) (v := .ref (xa X 6)) hx hb hts i_X8 hown hK hw (by decide) rfl rfl 5 (by decide) lf_43 (fun _ h9 => h9) rfl dX8_treeCount_5 ?_
  refine lv_aload_n hx hb dX8_treeCount_8 rfl (lv_at hl 0 rfl) ?_
  refine x_get (k := 0) (v := .ref (xa X 1)) hx hb hts i_X8 hown hK hw (by decide) rfl rfl 0 (by decide) lf_12 (fun _ h9 => h9) rfl dX8_treeCount_9 ?_
  refine x_getN (k := 1) (v := .int (gI S_2 3)) hx hb hts i_X1 hown hK hw (by decide) rfl rfl 2 (by decide) lf_145 (fun _ h9 => h9) rfl dX8_treeCount_12 ?_
  refine lv_aload_n hx hb dX8_treeCount_15 rfl (lv_at hl 0 rfl) ?_
  refine x_get (k := 0) (v := .ref (xa X 2)) hx hb hts i_X8 hown hK hw (by decide) rfl rfl 1 (by decide) lf_19 (fun _ h9 => h9) rfl dX8_treeCount_16 ?_
  refine x_getN (k := 2) (v := .int (gI S_2 5)) hx hb hts i_X6 hown hK hw (by decide) rfl rfl 0 (by decide) lf_87 (fun _ h9 => h9) rfl dX8_treeCount_19 ?_
  refine lv_iconst (v := 0) hx hb dX8_treeCount_22 (by decide) ?_
  refine x_cl (x_rU (As := [.int (gI S_2 3), .int (gI S_2 5), .int 0]) (rest := []) (okX X) hC hw (kX0_count_6 l X S_2 _ (gI S_2 3) (gI S_2 5) 0 _ hf) (va_cwU 3 hts (gU (owner := "GrammarAmbiguity$Counts") (x := ⟨"GrammarAmbiguity$SpanCounts", "count", "(III)J"⟩) q_474 q_475 q_476 q_441 q_66 q_442) rfl rfl rfl rfl (by decide +kernel) ⟨Nat.le_of_ble_eq_true rfl, Nat.le_of_ble_eq_true rfl⟩) (x_recv hK hw (k := 6) (by decide) rfl rfl) rfl hl.1 rfl (Nat.le_of_ble_eq_true rfl) dX8_treeCount_23) hw hi (fun r_3 S_4 H locs hf hw => ?_)
  obtain ⟨hf, rfl⟩ := hf
  exact hQ _ _ _ _ _ _ hf hw dX8_treeCount_26
def pX8_snapshot (S : gS) (Post : gS → Prop) : Prop :=
  (pX1_copy_31  S (fun S_2 => (pX6_copy_42  S_2 (fun S_4 => (∀ S_5 : gS, S_5 = uI S_4 0 1 → Post S_5)))))
def rX8_snapshot : Room := { frames := 1, cells := 0, slots := 0, locals := 22 }
set_option maxHeartbeats 40000000 in
set_option maxRecDepth 100000 in
theorem kX8_snapshot (l : Launch) (X : xG) (S : gS) (sz : Nat) (Post : gS → Prop) (hf : pX8_snapshot S Post) : xMv l yX8_snapshot (Cond.code yX8_snapshot cX8_snapshot 1 none :: WS) rX8_snapshot 34 X (cX X) (eX X) S sz [.ref (xa X 0)] Post := by
  refine xMv.of (cc := cX8_snapshot) (maxL := 1) (own := RX8) (by decide) rfl rfl (Nat.le_of_ble_eq_true rfl) ?_
  intro p e s m args below meth c ls Q hC hQ hw hl
  obtain ⟨hx, hb, hml, hown, hts, hE, hi⟩ := id hC
  have hK := hE.1
  have hl : lv_has ls 1 [(0, .ref (xa X 0))] := hl
  have lf_23 : (Cond.fieldLink RX8 23 "GrammarAmbiguity" "savedGrammar" "LGrammarAmbiguity$Grammar;").before args s = true := hts _ q_23
  have lf_12 : (Cond.fieldLink RX8 12 "GrammarAmbiguity" "grammar" "LGrammarAmbiguity$Grammar;").before args s = true := hts _ q_18
  have ln_298 : va_Nw (.methodLinkNest RX8 298 yX1_copy "GrammarAmbiguity") s := hE.2.1 _ (by decide +kernel)
  have lf_26 : (Cond.fieldLink RX8 26 "GrammarAmbiguity" "savedWord" "LGrammarAmbiguity$Word;").before args s = true := hts _ q_24
  have lf_19 : (Cond.fieldLink RX8 19 "GrammarAmbiguity" "word" "LGrammarAmbiguity$Word;").before args s = true := hts _ q_22
  have ln_301 : va_Nw (.methodLinkNest RX8 301 yX6_copy "GrammarAmbiguity") s := hE.2.1 _ (by decide +kernel)
  have lf_70 : (Cond.fieldLink RX8 70 "GrammarAmbiguity" "saved" "Z").before args s = true := hts _ q_45
  rw [pX8_snapshot] at hf
  refine lv_aload_n hx hb dX8_snapshot_0 rfl (lv_at hl 0 rfl) ?_
  refine x_get (k := 0) (v := .ref (xa X 3)) hx hb hts i_X8 hown hK hw (by decide) rfl rfl 2 (by decide) lf_23 (fun _ h9 => h9) rfl dX8_snapshot_1 ?_
  refine lv_aload_n hx hb dX8_snapshot_4 rfl (lv_at hl 0 rfl) ?_
  refine x_get (k := 0) (v := .ref (xa X 1)) hx hb hts i_X8 hown hK hw (by decide) rfl rfl 0 (by decide) lf_12 (fun _ h9 => h9) rfl dX8_snapshot_5 ?_
  refine x_cv (x_rN (As := [.ref (xa X 1)]) (rest := []) (okX X) hC hw (kX1_copy_31 l X S _  _ hf) ⟨va_cnB 1 hts (gN q_937) rfl rfl rfl ln_298 (hts _ q_17) (by decide +kernel) ⟨Nat.le_of_ble_eq_true rfl, Nat.le_of_ble_eq_true rfl⟩, hts _ q_935, hts _ q_936⟩ (x_recv hK hw (k := 3) (by decide) rfl rfl) rfl hl.1 rfl (Nat.le_of_ble_eq_true rfl) dX8_snapshot_8) hw hi (fun S_2 H locs hf hw => ?_)
  refine lv_aload_n hx hb dX8_snapshot_11 rfl (lv_at hl 0 rfl) ?_
  refine x_get (k := 0) (v := .ref (xa X 4)) hx hb hts i_X8 hown hK hw (by decide) rfl rfl 3 (by decide) lf_26 (fun _ h9 => h9) rfl dX8_snapshot_12 ?_
  refine lv_aload_n hx hb dX8_snapshot_15 rfl (lv_at hl 0 rfl) ?_
  refine x_get (k := 0) (v := .ref (xa X 2)) hx hb hts i_X8 hown hK hw (by decide) rfl rfl 1 (by decide) lf_19 (fun _ h9 => h9) rfl dX8_snapshot_16 ?_
  refine x_cv (x_rN (As := [.ref (xa X 2)]) (rest := []) (okX X) hC hw (kX6_copy_42 l X S_2 _  _ hf) ⟨va_cnB 1 hts (gN q_940) rfl rfl rfl ln_301 (hts _ q_21) (by decide +kernel) ⟨Nat.le_of_ble_eq_true rfl, Nat.le_of_ble_eq_true rfl⟩, hts _ q_938, hts _ q_939⟩ (x_recv hK hw (k := 4) (by decide) rfl rfl) rfl hl.1 rfl (Nat.le_of_ble_eq_true rfl) dX8_snapshot_19) hw hi (fun S_4 H locs hf hw => ?_)
  refine lv_aload_n hx hb dX8_snapshot_22 rfl (lv_at hl 0 rfl) ?_
  refine lv_iconst (v := 1) hx hb dX8_snapshot_23 (by decide) ?_
  refine x_put (k := 0) (S' := uI S_4 0 1) (ty := .boolean) hx hb hts i_X8 tyX8_ok nmX8 hown hK hw (by decide) rfl rfl 9 (by decide) lf_70 (fun _ h9 => h9) rfl (by decide +kernel) rfl rfl (Nat.le_of_ble_eq_true rfl) dX8_snapshot_24 (uX_I0 X S_4 _) (fun H locs hw => ?_)
  obtain ⟨S_5, eS_5⟩ : ∃ z : gS, z = uI S_4 0 1 := ⟨_, rfl⟩
  rw [← eS_5] at hw
  replace hf := hf S_5 eS_5
  exact hQ _ _ _ _ _ hf hw dX8_snapshot_27
