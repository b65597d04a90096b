/-! Printed by wip/whole/gen: what each method asks (p..), and its contract under that (k..). -/
def pX8_wordsOfLength (p0 : Int32) (p1 : Int32) (S : gS) (Post : Int32 → gS → Prop) (PX : String → gS → Prop) : Prop :=
  (pX8_checkLength p0 6 S (((p1 < 0 → PX "java/lang/IllegalArgumentException" S) ∧ (¬ p1 < 0 → ((p1 ≤ 3 → (pX8_countWords p0 S (fun S_5 => (pX7_atLeast 1 p0 S_5 (fun r_6 => (pX7_atLeast 2 p0 S_5 (fun r_8 => ((p1 = 0 → (pX7_ofLength p0 S_5 (fun r_11 => Post (r_11 - r_6) S_5))) ∧ (¬ p1 = 0 → ((p1 = 1 → Post (r_6 - r_8) S_5) ∧ (¬ p1 = 1 → ((p1 = 2 → Post r_8 S_5) ∧ (¬ p1 = 2 → Post r_6 S_5))))))))))))) ∧ (¬ p1 ≤ 3 → PX "java/lang/IllegalArgumentException" S))))) PX)
def rX8_wordsOfLength : Room := { frames := 7, cells := 2, slots := 12, locals := 183 }
set_option maxHeartbeats 40000000 in
set_option maxRecDepth 100000 in
theorem kX8_wordsOfLength (l : Launch) (hlt : l.stackTraces = false) (X : xG) (S : gS) (sz : Nat) (p0 : Int32) (p1 : Int32) (Post : Int32 → gS → Prop) (PX : String → gS → Prop) (hf : pX8_wordsOfLength p0 p1 S Post PX) : yMi l yX8_wordsOfLength (Cond.code yX8_wordsOfLength cX8_wordsOfLength 5 (some .int) :: WS) rX8_wordsOfLength X S sz [.ref (xa X 0), .int p0, .int p1] Post PX 2 12 := by
  refine yMi.of (cc := cX8_wordsOfLength) (maxL := 5) hlt (by decide) rfl rfl (Nat.le_of_ble_eq_true rfl) (Nat.le_of_ble_eq_true rfl) (Nat.le_of_ble_eq_true rfl) rfl rfl ?_
  intro p e s m args below meth c ls Q hC hQ hT hX hw hl
  obtain ⟨hx, hb, hml, hown, hts, hE, hi⟩ := id hC
  have hK := hE.1
  have hl : lv_has ls 5 [(0, .ref (xa X 0)), (1, .int p0), (2, .int p1)] := hl
  have lf_52 : (Cond.fieldLink RX8 52 "GrammarAmbiguity" "words" "LGrammarAmbiguity$WordCounts;").before args s = true := hts _ q_36
  have ln_192 : va_Nw (.methodLinkNest RX8 192 yX7_atLeast "GrammarAmbiguity") s := hE.2.1 _ (by decide +kernel)
  have ln_195 : va_Nw (.methodLinkNest RX8 195 yX7_ofLength "GrammarAmbiguity") s := hE.2.1 _ (by decide +kernel)
  rw [pX8_wordsOfLength] at hf
  refine lv_iload_n hx hb dX8_wordsOfLength_0 rfl (lv_at hl 1 rfl) ?_
  refine lv_bipush (v := 6) hx hb dX8_wordsOfLength_1 (by decide) ?_
  refine y_cv (y_rS (As := [.int p0, .int 6]) (rest := []) hC hw (kX8_checkLength l hlt X S _ p0 6 _ _ hf) (cwS 2 hts (gSt q_508 q_509 q_2 q_510) rfl rfl rfl (by decide +kernel) ⟨Nat.le_of_ble_eq_true rfl, Nat.le_of_ble_eq_true rfl⟩) rfl hl.1 rfl (Nat.le_of_ble_eq_true rfl) dX8_wordsOfLength_3 ⟨Nat.le_of_ble_eq_true rfl, Nat.le_of_ble_eq_true rfl⟩) hw hi (fun E ce q9 S9 H locs hp hw h1 h2 h3 => hX E ce q9 S9 _ _ _ _ _ _ _ hp hw h1 h2 h3 (by decide) (by decide)) (fun S_1 H locs hf hw => ?_)
  obtain ⟨hf, rfl⟩ := hf
  refine W.widen (k := 1) (n := 6) (by decide) (by decide) ?_
  refine lv_iload_n hx hb dX8_wordsOfLength_6 rfl (lv_at hl 2 rfl) ?_
  refine lv_if_lt (tgt := 15) hx hb dX8_wordsOfLength_7 (by decide) (fun c_2 => ?_) (fun c_2 => ?_)
  · replace hf := hf.1 c_2
    exact hT "java/lang/IllegalArgumentException" "trees is not from 0 to 3" 74 78 7 187 prog_14_method_2_code S _ _ _ _ [] _ _ ex_A (by decide +kernel) hf hw hl.1 (Nat.le_of_ble_eq_true rfl) (by decide) (by decide) dX8_wordsOfLength_15 dX8_wordsOfLength_18 (Or.inl ⟨dX8_wordsOfLength_19, dX8_wordsOfLength_21, dX8_wordsOfLength_24⟩)
  · replace hf := hf.2 c_2
    refine lv_iload_n hx hb dX8_wordsOfLength_10 rfl (lv_at hl 2 rfl) ?_
    refine lv_iconst (v := 3) hx hb dX8_wordsOfLength_11 (by decide) ?_
    refine lv_icmp_le (tgt := 25) hx hb dX8_wordsOfLength_12 (by decide) (fun c_3 => ?_) (fun c_3 => ?_)
    · replace hf := hf.1 c_3
      refine lv_aload_n hx hb dX8_wordsOfLength_25 rfl (lv_at hl 0 rfl) ?_
      refine lv_iload_n hx hb dX8_wordsOfLength_26 rfl (lv_at hl 1 rfl) ?_
      refine z_cv (z_rV (As := [.int p0]) (rest := []) (okX X) hC hw (kX8_countWords l X S _ p0 _ hf) (cwV 1 hts (gV q_544 q_545 q_546 q_2 q_547) rfl rfl rfl (by decide +kernel) ⟨Nat.le_of_ble_eq_true rfl, Nat.le_of_ble_eq_true rfl⟩) (x_recv hK hw (k := 0) (by decide) rfl rfl) rfl hl.1 rfl (Nat.le_of_ble_eq_true rfl) dX8_wordsOfLength_27 ⟨Nat.le_of_ble_eq_true rfl, Nat.le_of_ble_eq_true rfl⟩) hw hi (fun S_5 H locs hf hw => ?_)
      refine lv_aload_n hx hb dX8_wordsOfLength_30 rfl (lv_at hl 0 rfl) ?_
      refine x_get (k := 0) (v := .ref (xa X 7)) hx hb hts i_X8 hown hK hw (by decide) rfl rfl 6 (by decide) lf_52 (fun _ h9 => h9) rfl dX8_wordsOfLength_31 ?_
      refine lv_iconst (v := 1) hx hb dX8_wordsOfLength_34 (by decide) ?_
      refine lv_iload_n hx hb dX8_wordsOfLength_35 rfl (lv_at hl 1 rfl) ?_
      refine z_ci (z_rN (As := [.int 1, .int p0]) (rest := []) (okX X) hC hw (kX7_atLeast l X S_5 _ 1 p0 _ hf) ⟨va_cnB 2 hts (gN q_579) rfl rfl rfl ln_192 (hts _ q_35) (by decide +kernel) ⟨Nat.le_of_ble_eq_true rfl, Nat.le_of_ble_eq_true rfl⟩, hts _ q_577, hts _ q_578⟩ (x_recv hK hw (k := 7) (by decide) rfl rfl) rfl hl.1 rfl (Nat.le_of_ble_eq_true rfl) dX8_wordsOfLength_36 ⟨Nat.le_of_ble_eq_true rfl, Nat.le_of_ble_eq_true rfl⟩) hw hi (fun r_6 S_7 H locs hf hw => ?_)
      obtain ⟨hf, rfl⟩ := hf
      refine lv_istore_n (lv' := [(3, .int r_6), (0, .ref (xa X 0)), (1, .int p0), (2, .int p1)]) hx hb dX8_wordsOfLength_39 rfl hl (by decide) rfl (fun ls hl => ?_)
      refine lv_aload_n hx hb dX8_wordsOfLength_40 rfl (lv_at hl 1 rfl) ?_
      refine x_get (k := 0) (v := .ref (xa X 7)) hx hb hts i_X8 hown hK hw (by decide) rfl rfl 6 (by decide) lf_52 (fun _ h9 => h9) rfl dX8_wordsOfLength_41 ?_
      refine lv_iconst (v := 2) hx hb dX8_wordsOfLength_44 (by decide) ?_
      refine lv_iload_n hx hb dX8_wordsOfLength_45 rfl (lv_at hl 2 rfl) ?_
      refine z_ci (z_rN (As := [.int 2, .int p0]) (rest := []) (okX X) hC hw (kX7_atLeast l X S_5 _ 2 p0 _ hf) ⟨va_cnB 2 hts (gN q_579) rfl rfl rfl ln_192 (hts _ q_35) (by decide +kernel) ⟨Nat.le_of_ble_eq_true rfl, Nat.le_of_ble_eq_true rfl⟩, hts _ q_577, hts _ q_578⟩ (x_recv hK hw (k := 7) (by decide) rfl rfl) rfl hl.1 rfl (Nat.le_of_ble_eq_true rfl) dX8_wordsOfLength_46 ⟨Nat.le_of_ble_eq_true rfl, Nat.le_of_ble_eq_true rfl⟩) hw hi (fun r_8 S_9 H locs hf hw => ?_)
      obtain ⟨hf, rfl⟩ := hf
      refine lv_istore (lv' := [(4, .int r_8), (3, .int r_6), (0, .ref (xa X 0)), (1, .int p0), (2, .int p1)]) hx hb dX8_wordsOfLength_49 hl (by decide) rfl (fun ls hl => ?_)
      refine lv_iload_n hx hb dX8_wordsOfLength_51 rfl (lv_at hl 4 rfl) ?_
      by_cases c_10 : p1 = 0
      · replace hf := hf.1 c_10
        refine lv_tableIn (off := 28) (tgt := 80) hx hb dX8_wordsOfLength_52 (by rw [c_10]; decide) (by rw [c_10]; decide) (by rw [c_10]; rfl) (by decide) ?_
        refine lv_aload_n hx hb dX8_wordsOfLength_80 rfl (lv_at hl 2 rfl) ?_
        refine x_get (k := 0) (v := .ref (xa X 7)) hx hb hts i_X8 hown hK hw (by decide) rfl rfl 6 (by decide) lf_52 (fun _ h9 => h9) rfl dX8_wordsOfLength_81 ?_
        refine lv_iload_n hx hb dX8_wordsOfLength_84 rfl (lv_at hl 3 rfl) ?_
        refine z_ci (z_rN (As := [.int p0]) (rest := []) (okX X) hC hw (kX7_ofLength l X S_5 _ p0 _ hf) ⟨va_cnB 1 hts (gN q_563) rfl rfl rfl ln_195 (hts _ q_35) (by decide +kernel) ⟨Nat.le_of_ble_eq_true rfl, Nat.le_of_ble_eq_true rfl⟩, hts _ q_561, hts _ q_562⟩ (x_recv hK hw (k := 7) (by decide) rfl rfl) rfl hl.1 rfl (Nat.le_of_ble_eq_true rfl) dX8_wordsOfLength_85 ⟨Nat.le_of_ble_eq_true rfl, Nat.le_of_ble_eq_true rfl⟩) hw hi (fun r_11 S_12 H locs hf hw => ?_)
        obtain ⟨hf, rfl⟩ := hf
        refine lv_iload_n hx hb dX8_wordsOfLength_88 rfl (lv_at hl 1 rfl) ?_
        refine lv_isub hx hb dX8_wordsOfLength_89 ?_
        exact hQ _ _ _ _ _ _ _ _ rfl hf hw dX8_wordsOfLength_90 (by decide) (by decide)
      · replace hf := hf.2 c_10
        by_cases c_13 : p1 = 1
        · replace hf := hf.1 c_13
          refine lv_tableIn (off := 39) (tgt := 91) hx hb dX8_wordsOfLength_52 (by rw [c_13]; decide) (by rw [c_13]; decide) (by rw [c_13]; rfl) (by decide) ?_
          refine lv_iload_n hx hb dX8_wordsOfLength_91 rfl (lv_at hl 1 rfl) ?_
          refine lv_iload hx hb dX8_wordsOfLength_92 (lv_at hl 0 rfl) ?_
          refine lv_isub hx hb dX8_wordsOfLength_94 ?_
          exact hQ _ _ _ _ _ _ _ _ rfl hf hw dX8_wordsOfLength_95 (by decide) (by decide)
        · replace hf := hf.2 c_13
          by_cases c_14 : p1 = 2
          · replace hf := hf.1 c_14
            refine lv_tableIn (off := 44) (tgt := 96) hx hb dX8_wordsOfLength_52 (by rw [c_14]; decide) (by rw [c_14]; decide) (by rw [c_14]; rfl) (by decide) ?_
            refine lv_iload hx hb dX8_wordsOfLength_96 (lv_at hl 0 rfl) ?_
            exact hQ _ _ _ _ _ _ _ _ rfl hf hw dX8_wordsOfLength_98 (by decide) (by decide)
          · replace hf := hf.2 c_14
            refine lv_tableOut (tgt := 99) hx hb dX8_wordsOfLength_52 (sw_out3 c_10 c_13 c_14) (by decide) ?_
            refine lv_iload_n hx hb dX8_wordsOfLength_99 rfl (lv_at hl 1 rfl) ?_
            exact hQ _ _ _ _ _ _ _ _ rfl hf hw dX8_wordsOfLength_100 (by decide) (by decide)
    · replace hf := hf.2 c_3
      exact hT "java/lang/IllegalArgumentException" "trees is not from 0 to 3" 74 78 7 187 prog_14_method_2_code S _ _ _ _ [] _ _ ex_A (by decide +kernel) hf hw hl.1 (Nat.le_of_ble_eq_true rfl) (by decide) (by decide) dX8_wordsOfLength_15 dX8_wordsOfLength_18 (Or.inl ⟨dX8_wordsOfLength_19, dX8_wordsOfLength_21, dX8_wordsOfLength_24⟩)
def pX8_unambiguousShare (p0 : Int32) (S : gS) (Post : UInt64 → gS → Prop) (PX : String → gS → Prop) : Prop :=
  (pX8_checkLength p0 6 S ((pX8_countWords p0 S (fun S_3 => (pX7_atLeast 1 p0 S_3 (fun r_4 => ((1 ≤ r_4 → (pX7_atLeast 2 p0 S_3 (fun r_7 => (∀ x3_9 : Int32, x3_9 = (r_4 - r_7) → (vf_n64 (FP.ddiv (FP.i2d x3_9) (FP.i2d r_4)) ∧ Post (FP.ddiv (FP.i2d x3_9) (FP.i2d r_4)) S_3))))) ∧ (¬ 1 ≤ r_4 → Post FP.dconst1 S_3))))))) PX)
def rX8_unambiguousShare : Room := { frames := 7, cells := 1, slots := 6, locals := 183 }
set_option maxHeartbeats 40000000 in
set_option maxRecDepth 100000 in
theorem kX8_unambiguousShare (l : Launch) (hlt : l.stackTraces = false) (X : xG) (S : gS) (sz : Nat) (p0 : Int32) (Post : UInt64 → gS → Prop) (PX : String → gS → Prop) (hf : pX8_unambiguousShare p0 S Post PX) : yMd l yX8_unambiguousShare (Cond.code yX8_unambiguousShare cX8_unambiguousShare 4 (some .double) :: WS) rX8_unambiguousShare X S sz [.ref (xa X 0), .int p0] Post PX 1 6 := by
  refine yMd.of (cc := cX8_unambiguousShare) (maxL := 4) hlt (by decide) rfl rfl (Nat.le_of_ble_eq_true rfl) (Nat.le_of_ble_eq_true rfl) (Nat.le_of_ble_eq_true rfl) rfl rfl ?_
  intro p e s m args below meth c ls Q hC hQ hT hX hw hl
  obtain ⟨hx, hb, hml, hown, hts, hE, hi⟩ := id hC
  have hK := hE.1
  have hl : lv_has ls 4 [(0, .ref (xa X 0)), (1, .int p0)] := hl
  have lf_52 : (Cond.fieldLink RX8 52 "GrammarAmbiguity" "words" "LGrammarAmbiguity$WordCounts;").before args s = true := hts _ q_36
  have ln_192 : va_Nw (.methodLinkNest RX8 192 yX7_atLeast "GrammarAmbiguity") s := hE.2.1 _ (by decide +kernel)
  rw [pX8_unambiguousShare] at hf
  refine lv_iload_n hx hb dX8_unambiguousShare_0 rfl (lv_at hl 1 rfl) ?_
  refine lv_bipush (v := 6) hx hb dX8_unambiguousShare_1 (by decide) ?_
  refine y_cv (y_rS (As := [.int p0, .int 6]) (rest := []) hC hw (kX8_checkLength l hlt X S _ p0 6 _ _ hf) (cwS 2 hts (gSt q_508 q_509 q_2 q_510) rfl rfl rfl (by decide +kernel) ⟨Nat.le_of_ble_eq_true rfl, Nat.le_of_ble_eq_true rfl⟩) rfl hl.1 rfl (Nat.le_of_ble_eq_true rfl) dX8_unambiguousShare_3 ⟨Nat.le_of_ble_eq_true rfl, Nat.le_of_ble_eq_true rfl⟩) hw hi (fun E ce q9 S9 H locs hp hw h1 h2 h3 => hX E ce q9 S9 _ _ _ _ _ _ _ hp hw h1 h2 h3 (by decide) (by decide)) (fun S_1 H locs hf hw => ?_)
  obtain ⟨hf, rfl⟩ := hf
  refine W.widen (k := 1) (n := 6) (by decide) (by decide) ?_
  refine lv_aload_n hx hb dX8_unambiguousShare_6 rfl (lv_at hl 0 rfl) ?_
  refine lv_iload_n hx hb dX8_unambiguousShare_7 rfl (lv_at hl 1 rfl) ?_
  refine z_cv (z_rV (As := [.int p0]) (rest := []) (okX X) hC hw (kX8_countWords l X S _ p0 _ hf) (cwV 1 hts (gV q_544 q_545 q_546 q_2 q_547) rfl rfl rfl (by decide +kernel) ⟨Nat.le_of_ble_eq_true rfl, Nat.le_of_ble_eq_true rfl⟩) (x_recv hK hw (k := 0) (by decide) rfl rfl) rfl hl.1 rfl (Nat.le_of_ble_eq_true rfl) dX8_unambiguousShare_8 ⟨Nat.le_of_ble_eq_true rfl, Nat.le_of_ble_eq_true rfl⟩) hw hi (fun S_3 H locs hf hw => ?_)
  refine lv_aload_n hx hb dX8_unambiguousShare_11 rfl (lv_at hl 0 rfl) ?_
  refine x_get (k := 0) (v := .ref (xa X 7)) hx hb hts i_X8 hown hK hw (by decide) rfl rfl 6 (by decide) lf_52 (fun _ h9 => h9) rfl dX8_unambiguousShare_12 ?_
  refine lv_iconst (v := 1) hx hb dX8_unambiguousShare_15 (by decide) ?_
  refine lv_iload_n hx hb dX8_unambiguousShare_16 rfl (lv_at hl 1 rfl) ?_
  refine z_ci (z_rN (As := [.int 1, .int p0]) (rest := []) (okX X) hC hw (kX7_atLeast l X S_3 _ 1 p0 _ hf) ⟨va_cnB 2 hts (gN q_579) rfl rfl rfl ln_192 (hts _ q_35) (by decide +kernel) ⟨Nat.le_of_ble_eq_true rfl, Nat.le_of_ble_eq_true rfl⟩, hts _ q_577, hts _ q_578⟩ (x_recv hK hw (k := 7) (by decide) rfl rfl) rfl hl.1 rfl (Nat.le_of_ble_eq_true rfl) dX8_unambiguousShare_17 ⟨Nat.le_of_ble_eq_true rfl, Nat.le_of_ble_eq_true rfl⟩) hw hi (fun r_4 S_5 H locs hf hw => ?_)
  obtain ⟨hf, rfl⟩ := hf
  refine lv_istore_n (lv' := [(2, .int r_4), (0, .ref (xa X 0)), (1, .int p0)]) hx hb dX8_unambiguousShare_20 rfl hl (by decide) rfl (fun ls hl => ?_)
  refine lv_iload_n hx hb dX8_unambiguousShare_21 rfl (lv_at hl 0 rfl) ?_
  refine lv_iconst (v := 1) hx hb dX8_unambiguousShare_22 (by decide) ?_
  refine lv_icmp_ge (tgt := 28) hx hb dX8_unambiguousShare_23 (by decide) (fun c_6 => ?_) (fun c_6 => ?_)
  · replace hf := hf.1 c_6
    refine lv_iload_n hx hb dX8_unambiguousShare_28 rfl (lv_at hl 0 rfl) ?_
    refine lv_aload_n hx hb dX8_unambiguousShare_29 rfl (lv_at hl 1 rfl) ?_
    refine x_get (k := 0) (v := .ref (xa X 7)) hx hb hts i_X8 hown hK hw (by decide) rfl rfl 6 (by decide) lf_52 (fun _ h9 => h9) rfl dX8_unambiguousShare_30 ?_
    refine lv_iconst (v := 2) hx hb dX8_unambiguousShare_33 (by decide) ?_
    refine lv_iload_n hx hb dX8_unambiguousShare_34 rfl (lv_at hl 2 rfl) ?_
    refine z_ci (z_rN (As := [.int 2, .int p0]) (rest := [.int r_4]) (okX X) hC hw (kX7_atLeast l X S_3 _ 2 p0 _ hf) ⟨va_cnB 2 hts (gN q_579) rfl rfl rfl ln_192 (hts _ q_35) (by decide +kernel) ⟨Nat.le_of_ble_eq_true rfl, Nat.le_of_ble_eq_true rfl⟩, hts _ q_577, hts _ q_578⟩ (x_recv hK hw (k := 7) (by decide) rfl rfl) rfl hl.1 rfl (Nat.le_of_ble_eq_true rfl) dX8_unambiguousShare_35 ⟨Nat.le_of_ble_eq_true rfl, Nat.le_of_ble_eq_true rfl⟩) hw hi (fun r_7 S_8 H locs hf hw => ?_)
    obtain ⟨hf, rfl⟩ := hf
    refine lv_isub hx hb dX8_unambiguousShare_38 ?_
    refine lv_topi (fun x3_9 ex3_9 => ?_)
    replace hf := hf x3_9 ex3_9
    refine lv_istore_n (lv' := [(3, .int x3_9), (2, .int r_4), (0, .ref (xa X 0)), (1, .int p0)]) hx hb dX8_unambiguousShare_39 rfl hl (by decide) rfl (fun ls hl => ?_)
    refine lv_iload_n hx hb dX8_unambiguousShare_40 rfl (lv_at hl 0 rfl) ?_
    refine lv_i2d hx hb dX8_unambiguousShare_41 ?_
    refine lv_iload_n hx hb dX8_unambiguousShare_42 rfl (lv_at hl 1 rfl) ?_
    refine lv_i2d hx hb dX8_unambiguousShare_43 ?_
    refine lv_ddiv hx hb dX8_unambiguousShare_44 hf.1 ?_
    replace hf := hf.2
    exact hQ _ _ _ _ _ _ _ _ hf hw dX8_unambiguousShare_45 (by decide) (by decide)
  · replace hf := hf.2 c_6
    refine lv_dconst1 hx hb dX8_unambiguousShare_26 ?_
    exact hQ _ _ _ _ _ _ _ _ hf hw dX8_unambiguousShare_27 (by decide) (by decide)
def pX8_averageTrees (p0 : Int32) (S : gS) (Post : UInt64 → gS → Prop) (PX : String → gS → Prop) : Prop :=
  (pX8_checkLength p0 6 S ((pX8_countWords p0 S (fun S_3 => (pX7_atLeast 1 p0 S_3 (fun r_4 => ((1 ≤ r_4 → (pX8_allTrees p0 S_3 (fun r_7 S_8 => (vf_n64 (FP.ddiv (FP.l2d r_7) (FP.i2d r_4)) ∧ Post (FP.ddiv (FP.l2d r_7) (FP.i2d r_4)) S_8)))) ∧ (¬ 1 ≤ r_4 → PX "java/util/NoSuchElementException" S_3))))))) PX)
def rX8_averageTrees : Room := { frames := 7, cells := 2, slots := 12, locals := 183 }
set_option maxHeartbeats 40000000 in
set_option maxRecDepth 100000 in
theorem kX8_averageTrees (l : Launch) (hlt : l.stackTraces = false) (X : xG) (S : gS) (sz : Nat) (p0 : Int32) (Post : UInt64 → gS → Prop) (PX : String → gS → Prop) (hf : pX8_averageTrees p0 S Post PX) : yMd l yX8_averageTrees (Cond.code yX8_averageTrees cX8_averageTrees 3 (some .double) :: WS) rX8_averageTrees X S sz [.ref (xa X 0), .int p0] Post PX 2 12 := by
  refine yMd.of (cc := cX8_averageTrees) (maxL := 3) hlt (by decide) rfl rfl (Nat.le_of_ble_eq_true rfl) (Nat.le_of_ble_eq_true rfl) (Nat.le_of_ble_eq_true rfl) rfl rfl ?_
  intro p e s m args below meth c ls Q hC hQ hT hX hw hl
  obtain ⟨hx, hb, hml, hown, hts, hE, hi⟩ := id hC
  have hK := hE.1
  have hl : lv_has ls 3 [(0, .ref (xa X 0)), (1, .int p0)] := hl
  have lf_52 : (Cond.fieldLink RX8 52 "GrammarAmbiguity" "words" "LGrammarAmbiguity$WordCounts;").before args s = true := hts _ q_36
  have ln_192 : va_Nw (.methodLinkNest RX8 192 yX7_atLeast "GrammarAmbiguity") s := hE.2.1 _ (by decide +kernel)
  rw [pX8_averageTrees] at hf
  refine lv_iload_n hx hb dX8_averageTrees_0 rfl (lv_at hl 1 rfl) ?_
  refine lv_bipush (v := 6) hx hb dX8_averageTrees_1 (by decide) ?_
  refine y_cv (y_rS (As := [.int p0, .int 6]) (rest := []) hC hw (kX8_checkLength l hlt X S _ p0 6 _ _ hf) (cwS 2 hts (gSt q_508 q_509 q_2 q_510) rfl rfl rfl (by decide +kernel) ⟨Nat.le_of_ble_eq_true rfl, Nat.le_of_ble_eq_true rfl⟩) rfl hl.1 rfl (Nat.le_of_ble_eq_true rfl) dX8_averageTrees_3 ⟨Nat.le_of_ble_eq_true rfl, Nat.le_of_ble_eq_true rfl⟩) hw hi (fun E ce q9 S9 H locs hp hw h1 h2 h3 => hX E ce q9 S9 _ _ _ _ _ _ _ hp hw h1 h2 h3 (by decide) (by decide)) (fun S_1 H locs hf hw => ?_)
  obtain ⟨hf, rfl⟩ := hf
  refine W.widen (k := 1) (n := 6) (by decide) (by decide) ?_
  refine lv_aload_n hx hb dX8_averageTrees_6 rfl (lv_at hl 0 rfl) ?_
  refine lv_iload_n hx hb dX8_averageTrees_7 rfl (lv_at hl 1 rfl) ?_
  refine z_cv (z_rV (As := [.int p0]) (rest := []) (okX X) hC hw (kX8_countWords l X S _ p0 _ hf) (cwV 1 hts (gV q_544 q_545 q_546 q_2 q_547) rfl rfl rfl (by decide +kernel) ⟨Nat.le_of_ble_eq_true rfl, Nat.le_of_ble_eq_true rfl⟩) (x_recv hK hw (k := 0) (by decide) rfl rfl) rfl hl.1 rfl (Nat.le_of_ble_eq_true rfl) dX8_averageTrees_8 ⟨Nat.le_of_ble_eq_true rfl, Nat.le_of_ble_eq_true rfl⟩) hw hi (fun S_3 H locs hf hw => ?_)
  refine lv_aload_n hx hb dX8_averageTrees_11 rfl (lv_at hl 0 rfl) ?_
  refine x_get (k := 0) (v := .ref (xa X 7)) hx hb hts i_X8 hown hK hw (by decide) rfl rfl 6 (by decide) lf_52 (fun _ h9 => h9) rfl dX8_averageTrees_12 ?_
  refine lv_iconst (v := 1) hx hb dX8_averageTrees_15 (by decide) ?_
  refine lv_iload_n hx hb dX8_averageTrees_16 rfl (lv_at hl 1 rfl) ?_
  refine z_ci (z_rN (As := [.int 1, .int p0]) (rest := []) (okX X) hC hw (kX7_atLeast l X S_3 _ 1 p0 _ hf) ⟨va_cnB 2 hts (gN q_579) rfl rfl rfl ln_192 (hts _ q_35) (by decide +kernel) ⟨Nat.le_of_ble_eq_true rfl, Nat.le_of_ble_eq_true rfl⟩, hts _ q_577, hts _ q_578⟩ (x_recv hK hw (k := 7) (by decide) rfl rfl) rfl hl.1 rfl (Nat.le_of_ble_eq_true rfl) dX8_averageTrees_17 ⟨Nat.le_of_ble_eq_true rfl, Nat.le_of_ble_eq_true rfl⟩) hw hi (fun r_4 S_5 H locs hf hw => ?_)
  obtain ⟨hf, rfl⟩ := hf
  refine lv_istore_n (lv' := [(2, .int r_4), (0, .ref (xa X 0)), (1, .int p0)]) hx hb dX8_averageTrees_20 rfl hl (by decide) rfl (fun ls hl => ?_)
  refine lv_iload_n hx hb dX8_averageTrees_21 rfl (lv_at hl 0 rfl) ?_
  refine lv_iconst (v := 1) hx hb dX8_averageTrees_22 (by decide) ?_
  refine lv_icmp_ge (tgt := 36) hx hb dX8_averageTrees_23 (by decide) (fun c_6 => ?_) (fun c_6 => ?_)
  · replace hf := hf.1 c_6
    refine lv_aload_n hx hb dX8_averageTrees_36 rfl (lv_at hl 1 rfl) ?_
    refine lv_iload_n hx hb dX8_averageTrees_37 rfl (lv_at hl 2 rfl) ?_
    refine z_cl (z_rV (As := [.int p0]) (rest := []) (okX X) hC hw (kX8_allTrees l X S_3 _ p0 _ hf) (cwV 1 hts (gV q_511 q_512 q_513 q_2 q_514) rfl rfl rfl (by decide +kernel) ⟨Nat.le_of_ble_eq_true rfl, Nat.le_of_ble_eq_true rfl⟩) (x_recv hK hw (k := 0) (by decide) rfl rfl) rfl hl.1 rfl (Nat.le_of_ble_eq_true rfl) dX8_averageTrees_38 ⟨Nat.le_of_ble_eq_true rfl, Nat.le_of_ble_eq_true rfl⟩) hw hi (fun r_7 S_8 H locs hf hw => ?_)
    refine lv_l2d hx hb dX8_averageTrees_41 ?_
    refine lv_iload_n hx hb dX8_averageTrees_42 rfl (lv_at hl 0 rfl) ?_
    refine lv_i2d hx hb dX8_averageTrees_43 ?_
    refine lv_ddiv hx hb dX8_averageTrees_44 hf.1 ?_
    replace hf := hf.2
    exact hQ _ _ _ _ _ _ _ _ hf hw dX8_averageTrees_45 (by decide) (by decide)
  · replace hf := hf.2 c_6
    exact hT "java/util/NoSuchElementException" "the language has no word of this length" 198 202 13 200 prog_21_method_4_code S_3 _ _ _ _ [] _ _ ex_N (by decide +kernel) hf hw hl.1 (Nat.le_of_ble_eq_true rfl) (by decide) (by decide) dX8_averageTrees_26 dX8_averageTrees_29 (Or.inl ⟨dX8_averageTrees_30, dX8_averageTrees_32, dX8_averageTrees_35⟩)
def bX8_firstAmbiguous_8 (p0 : Int32) (Post : Int32 → gS → Prop) (PX : String → gS → Prop) (L_8 : Int32 × gS → Prop) (x2_2 : Int32) (S_3 : gS) : Prop :=
  ((p0 < x2_2 → PX "java/util/NoSuchElementException" S_3) ∧ (¬ p0 < x2_2 → (pX8_countWords x2_2 S_3 (fun S_6 => (pX7_find 2 x2_2 0 S_6 (fun r_7 => ((r_7 < 0 → (∀ x2_10 : Int32, x2_10 = x2_2 + 1 → L_8 (x2_10, S_6))) ∧ (¬ r_7 < 0 → (pX8_setWord x2_2 r_7 S_6 (fun S_12 => Post x2_2 S_12))))))))))
def pX8_firstAmbiguous (p0 : Int32) (S : gS) (Post : Int32 → gS → Prop) (PX : String → gS → Prop) : Prop :=
  (pX8_checkLength p0 6 S (∃ n, lp (fun L x => bX8_firstAmbiguous_8 p0 Post PX L x.1 x.2) n (1, S)) PX)
def rX8_firstAmbiguous : Room := { frames := 7, cells := 2, slots := 12, locals := 183 }
set_option maxHeartbeats 40000000 in
set_option maxRecDepth 100000 in
theorem kX8_firstAmbiguous (l : Launch) (hlt : l.stackTraces = false) (X : xG) (S : gS) (sz : Nat) (p0 : Int32) (Post : Int32 → gS → Prop) (PX : String → gS → Prop) (hf : pX8_firstAmbiguous p0 S Post PX) : yMi l yX8_firstAmbiguous (Cond.code yX8_firstAmbiguous cX8_firstAmbiguous 4 (some .int) :: WS) rX8_firstAmbiguous X S sz [.ref (xa X 0), .int p0] Post PX 2 12 := by
  refine yMi.of (cc := cX8_firstAmbiguous) (maxL := 4) hlt (by decide) rfl rfl (Nat.le_of_ble_eq_true rfl) (Nat.le_of_ble_eq_true rfl) (Nat.le_of_ble_eq_true rfl) rfl rfl ?_
  intro p e s m args below meth c ls Q hC hQ hT hX hw hl
  obtain ⟨hx, hb, hml, hown, hts, hE, hi⟩ := id hC
  have hK := hE.1
  have hl : lv_has ls 4 [(0, .ref (xa X 0)), (1, .int p0)] := hl
  have lf_52 : (Cond.fieldLink RX8 52 "GrammarAmbiguity" "words" "LGrammarAmbiguity$WordCounts;").before args s = true := hts _ q_36
  have ln_203 : va_Nw (.methodLinkNest RX8 203 yX7_find "GrammarAmbiguity") s := hE.2.1 _ (by decide +kernel)
  rw [pX8_firstAmbiguous] at hf
  refine lv_iload_n hx hb dX8_firstAmbiguous_0 rfl (lv_at hl 1 rfl) ?_
  refine lv_bipush (v := 6) hx hb dX8_firstAmbiguous_1 (by decide) ?_
  refine y_cv (y_rS (As := [.int p0, .int 6]) (rest := []) hC hw (kX8_checkLength l hlt X S _ p0 6 _ _ hf) (cwS 2 hts (gSt q_508 q_509 q_2 q_510) rfl rfl rfl (by decide +kernel) ⟨Nat.le_of_ble_eq_true rfl, Nat.le_of_ble_eq_true rfl⟩) rfl hl.1 rfl (Nat.le_of_ble_eq_true rfl) dX8_firstAmbiguous_3 ⟨Nat.le_of_ble_eq_true rfl, Nat.le_of_ble_eq_true rfl⟩) hw hi (fun E ce q9 S9 H locs hp hw h1 h2 h3 => hX E ce q9 S9 _ _ _ _ _ _ _ hp hw h1 h2 h3 (by decide) (by decide)) (fun S_1 H locs hf hw => ?_)
  obtain ⟨hf, rfl⟩ := hf
  refine W.widen (k := 1) (n := 6) (by decide) (by decide) ?_
  refine lv_iconst (v := 1) hx hb dX8_firstAmbiguous_6 (by decide) ?_
  refine lv_istore_n (lv' := [(2, .int 1), (0, .ref (xa X 0)), (1, .int p0)]) hx hb dX8_firstAmbiguous_7 rfl hl (by decide) rfl (fun ls hl => ?_)
  obtain ⟨n_8, hf⟩ := hf
  have w_8 : ∀ (n : Nat) (x2_2 : Int32) (S_3 : gS) (H : Heap) (locs : List Loc) (ls : Array Slot), lp (fun L x => bX8_firstAmbiguous_8 p0 Post PX L x.1 x.2) n (x2_2, S_3) → xH 34 X (cX X) (xA 34 X s.heap.size) s.heap S_3 H locs → lv_has ls 4 [(0, .ref (xa X 0)), (1, .int p0), (2, .int x2_2)] → W p l e rX8_firstAmbiguous s m args below meth c H locs 1 6 Q (F0 m 8 ls []) := by
    intro n
    induction n with
    | zero => intro x2_2 S_3 H locs ls hf; exact hf.elim
    | succ n ih_8 =>
      intro x2_2 S_3 H locs ls hf hw hl
      replace hf : bX8_firstAmbiguous_8 p0 Post PX (lp (fun L x => bX8_firstAmbiguous_8 p0 Post PX L x.1 x.2) n) x2_2 S_3 := hf
      generalize lp (fun L x => bX8_firstAmbiguous_8 p0 Post PX L x.1 x.2) n = L_8 at hf ih_8
      rw [bX8_firstAmbiguous_8] at hf
      refine lv_iload_n hx hb dX8_firstAmbiguous_8 rfl (lv_at hl 2 rfl) ?_
      refine lv_iload_n hx hb dX8_firstAmbiguous_9 rfl (lv_at hl 1 rfl) ?_
      refine lv_icmp_gt (tgt := 47) hx hb dX8_firstAmbiguous_10 (by decide) (fun c_4 => ?_) (fun c_4 => ?_)
      · replace hf := hf.1 c_4
        exact hT "java/util/NoSuchElementException" "no word of at most this length is ambiguous" 198 202 13 210 prog_21_method_4_code S_3 _ _ _ _ [] _ _ ex_N (by decide +kernel) hf hw hl.1 (Nat.le_of_ble_eq_true rfl) (by decide) (by decide) dX8_firstAmbiguous_47 dX8_firstAmbiguous_50 (Or.inl ⟨dX8_firstAmbiguous_51, dX8_firstAmbiguous_53, dX8_firstAmbiguous_56⟩)
      · replace hf := hf.2 c_4
        refine lv_aload_n hx hb dX8_firstAmbiguous_13 rfl (lv_at hl 0 rfl) ?_
        refine lv_iload_n hx hb dX8_firstAmbiguous_14 rfl (lv_at hl 2 rfl) ?_
        refine z_cv (z_rV (As := [.int x2_2]) (rest := []) (okX X) hC hw (kX8_countWords l X S_3 _ x2_2 _ hf) (cwV 1 hts (gV q_544 q_545 q_546 q_2 q_547) rfl rfl rfl (by decide +kernel) ⟨Nat.le_of_ble_eq_true rfl, Nat.le_of_ble_eq_true rfl⟩) (x_recv hK hw (k := 0) (by decide) rfl rfl) rfl hl.1 rfl (Nat.le_of_ble_eq_true rfl) dX8_firstAmbiguous_15 ⟨Nat.le_of_ble_eq_true rfl, Nat.le_of_ble_eq_true rfl⟩) hw hi (fun S_6 H locs hf hw => ?_)
        refine lv_aload_n hx hb dX8_firstAmbiguous_18 rfl (lv_at hl 0 rfl) ?_
        refine x_get (k := 0) (v := .ref (xa X 7)) hx hb hts i_X8 hown hK hw (by decide) rfl rfl 6 (by decide) lf_52 (fun _ h9 => h9) rfl dX8_firstAmbiguous_19 ?_
        refine lv_iconst (v := 2) hx hb dX8_firstAmbiguous_22 (by decide) ?_
        refine lv_iload_n hx hb dX8_firstAmbiguous_23 rfl (lv_at hl 2 rfl) ?_
        refine lv_iconst (v := 0) hx hb dX8_firstAmbiguous_24 (by decide) ?_
        refine z_ci (z_rN (As := [.int 2, .int x2_2, .int 0]) (rest := []) (okX X) hC hw (kX7_find l X S_6 _ 2 x2_2 0 _ hf) ⟨va_cnB 3 hts (gN q_640) rfl rfl rfl ln_203 (hts _ q_35) (by decide +kernel) ⟨Nat.le_of_ble_eq_true rfl, Nat.le_of_ble_eq_true rfl⟩, hts _ q_638, hts _ q_639⟩ (x_recv hK hw (k := 7) (by decide) rfl rfl) rfl hl.1 rfl (Nat.le_of_ble_eq_true rfl) dX8_firstAmbiguous_25 ⟨Nat.le_of_ble_eq_true rfl, Nat.le_of_ble_eq_true rfl⟩) hw hi (fun r_7 S_8 H locs hf hw => ?_)
        obtain ⟨hf, rfl⟩ := hf
        refine lv_istore_n (lv' := [(3, .int r_7), (0, .ref (xa X 0)), (1, .int p0), (2, .int x2_2)]) hx hb dX8_firstAmbiguous_28 rfl hl (by decide) rfl (fun ls hl => ?_)
        refine lv_iload_n hx hb dX8_firstAmbiguous_29 rfl (lv_at hl 0 rfl) ?_
        refine lv_if_lt (tgt := 41) hx hb dX8_firstAmbiguous_30 (by decide) (fun c_9 => ?_) (fun c_9 => ?_)
        · replace hf := hf.1 c_9
          obtain ⟨x2_10, ex2_10⟩ : ∃ y : Int32, y = x2_2 + 1 := ⟨_, rfl⟩
          replace hf := hf x2_10 ex2_10
          refine lv_iinc (v := x2_10) (lv' := [(2, .int x2_10), (3, .int r_7), (0, .ref (xa X 0)), (1, .int p0)]) hx hb dX8_firstAmbiguous_41 hl (k := 3) rfl (by rw [ex2_10]; rfl) (by decide) rfl (fun ls hl => ?_)
          refine lv_goto (tgt := 8) hx hb dX8_firstAmbiguous_44 (by decide) ?_
          exact ih_8 x2_10 S_6 _ _ _ hf hw (lv_sub hl [2, 3, 0] rfl)
        · replace hf := hf.2 c_9
          refine lv_aload_n hx hb dX8_firstAmbiguous_33 rfl (lv_at hl 1 rfl) ?_
          refine lv_iload_n hx hb dX8_firstAmbiguous_34 rfl (lv_at hl 3 rfl) ?_
          refine lv_iload_n hx hb dX8_firstAmbiguous_35 rfl (lv_at hl 0 rfl) ?_
          refine z_cv (z_rV (As := [.int x2_2, .int r_7]) (rest := []) (okX X) hC hw (kX8_setWord l X S_6 _ x2_2 r_7 _ hf) (cwV 2 hts (gV q_641 q_642 q_643 q_2 q_644) rfl rfl rfl (by decide +kernel) ⟨Nat.le_of_ble_eq_true rfl, Nat.le_of_ble_eq_true rfl⟩) (x_recv hK hw (k := 0) (by decide) rfl rfl) rfl hl.1 rfl (Nat.le_of_ble_eq_true rfl) dX8_firstAmbiguous_36 ⟨Nat.le_of_ble_eq_true rfl, Nat.le_of_ble_eq_true rfl⟩) hw hi (fun S_12 H locs hf hw => ?_)
          refine lv_iload_n hx hb dX8_firstAmbiguous_39 rfl (lv_at hl 3 rfl) ?_
          exact hQ _ _ _ _ _ _ _ _ rfl hf hw dX8_firstAmbiguous_40 (by decide) (by decide)
  exact w_8 n_8 1 S _ _ _ hf hw (lv_sub hl [1, 2, 0] rfl)
def pX8_wordRank (S : gS) (Post : Int32 → gS → Prop) (PX : String → gS → Prop) : Prop :=
  (((gI S 5) < 1 → PX "java/lang/IllegalStateException" S) ∧ (¬ (gI S 5) < 1 → (((gI S 5) ≤ 6 → (pX8_countWords (gI S 5) S (fun S_4 => (pX6_key (gI S_4 2) S_4 (fun r_5 => (pX7_count (gI S_4 5) r_5 S_4 (fun r_7 => ((0 ≤ (lg_cmp r_7 1) → (pX7_atLeastBefore r_5 1 (gI S_4 5) S_4 (fun r_10 => Post r_10 S_4))) ∧ (¬ 0 ≤ (lg_cmp r_7 1) → PX "java/util/NoSuchElementException" S_4))))))))) ∧ (¬ (gI S 5) ≤ 6 → PX "java/lang/IllegalStateException" S))))
def rX8_wordRank : Room := { frames := 7, cells := 1, slots := 6, locals := 183 }
set_option maxHeartbeats 40000000 in
set_option maxRecDepth 100000 in
theorem kX8_wordRank (l : Launch) (hlt : l.stackTraces = false) (X : xG) (S : gS) (sz : Nat) (Post : Int32 → gS → Prop) (PX : String → gS → Prop) (hf : pX8_wordRank S Post PX) : yMi l yX8_wordRank (Cond.code yX8_wordRank cX8_wordRank 2 (some .int) :: WS) rX8_wordRank X S sz [.ref (xa X 0)] Post PX 1 6 := by
  refine yMi.of (cc := cX8_wordRank) (maxL := 2) hlt (by decide) rfl rfl (Nat.le_of_ble_eq_true rfl) (Nat.le_of_ble_eq_true rfl) (Nat.le_of_ble_eq_true rfl) rfl rfl ?_
  intro p e s m args below meth c ls Q hC hQ hT hX hw hl
  obtain ⟨hx, hb, hml, hown, hts, hE, hi⟩ := id hC
  have hK := hE.1
  have hl : lv_has ls 2 [(0, .ref (xa X 0))] := hl
  have lf_19 : (Cond.fieldLink RX8 19 "GrammarAmbiguity" "word" "LGrammarAmbiguity$Word;").before args s = true := hts _ q_22
  have lf_87 : va_Nw (.fieldLinkNest RX8 87 "GrammarAmbiguity$Word" "length" "I" "GrammarAmbiguity") s := hE.2.1 _ (by decide +kernel)
  have lf_12 : (Cond.fieldLink RX8 12 "GrammarAmbiguity" "grammar" "LGrammarAmbiguity$Grammar;").before args s = true := hts _ q_18
  have lf_214 : va_Nw (.fieldLinkNest RX8 214 "GrammarAmbiguity$Grammar" "terminals" "I" "GrammarAmbiguity") s := hE.2.1 _ (by decide +kernel)
  have ln_217 : va_Nw (.methodLinkNest RX8 217 yX6_key "GrammarAmbiguity") s := hE.2.1 _ (by decide +kernel)
  have lf_52 : (Cond.fieldLink RX8 52 "GrammarAmbiguity" "words" "LGrammarAmbiguity$WordCounts;").before args s = true := hts _ q_36
  have ln_220 : va_Nw (.methodLinkNest RX8 220 yX7_count "GrammarAmbiguity") s := hE.2.1 _ (by decide +kernel)
  have ln_225 : va_Nw (.methodLinkNest RX8 225 yX7_atLeastBefore "GrammarAmbiguity") s := hE.2.1 _ (by decide +kernel)
  rw [pX8_wordRank] at hf
  refine lv_aload_n hx hb dX8_wordRank_0 rfl (lv_at hl 0 rfl) ?_
  refine x_get (k := 0) (v := .ref (xa X 2)) hx hb hts i_X8 hown hK hw (by decide) rfl rfl 1 (by decide) lf_19 (fun _ h9 => h9) rfl dX8_wordRank_1 ?_
  refine x_getN (k := 2) (v := .int (gI S 5)) hx hb hts i_X6 hown hK hw (by decide) rfl rfl 0 (by decide) lf_87 (fun _ h9 => h9) rfl dX8_wordRank_4 ?_
  refine lv_iconst (v := 1) hx hb dX8_wordRank_7 (by decide) ?_
  refine lv_icmp_lt (tgt := 23) hx hb dX8_wordRank_8 (by decide) (fun c_1 => ?_) (fun c_1 => ?_)
  · replace hf := hf.1 c_1
    exact hT "java/lang/IllegalStateException" "the current word has no terminal or more than 6" 113 117 7 212 prog_15_method_2_code S _ _ _ _ [] _ _ ex_S (by decide +kernel) hf hw hl.1 (Nat.le_of_ble_eq_true rfl) (by decide) (by decide) dX8_wordRank_23 dX8_wordRank_26 (Or.inl ⟨dX8_wordRank_27, dX8_wordRank_29, dX8_wordRank_32⟩)
  · replace hf := hf.2 c_1
    refine lv_aload_n hx hb dX8_wordRank_11 rfl (lv_at hl 0 rfl) ?_
    refine x_get (k := 0) (v := .ref (xa X 2)) hx hb hts i_X8 hown hK hw (by decide) rfl rfl 1 (by decide) lf_19 (fun _ h9 => h9) rfl dX8_wordRank_12 ?_
    refine x_getN (k := 2) (v := .int (gI S 5)) hx hb hts i_X6 hown hK hw (by decide) rfl rfl 0 (by decide) lf_87 (fun _ h9 => h9) rfl dX8_wordRank_15 ?_
    refine lv_bipush (v := 6) hx hb dX8_wordRank_18 (by decide) ?_
    refine lv_icmp_le (tgt := 33) hx hb dX8_wordRank_20 (by decide) (fun c_2 => ?_) (fun c_2 => ?_)
    · replace hf := hf.1 c_2
      refine lv_aload_n hx hb dX8_wordRank_33 rfl (lv_at hl 0 rfl) ?_
      refine lv_aload_n hx hb dX8_wordRank_34 rfl (lv_at hl 0 rfl) ?_
      refine x_get (k := 0) (v := .ref (xa X 2)) hx hb hts i_X8 hown hK hw (by decide) rfl rfl 1 (by decide) lf_19 (fun _ h9 => h9) rfl dX8_wordRank_35 ?_
      refine x_getN (k := 2) (v := .int (gI S 5)) hx hb hts i_X6 hown hK hw (by decide) rfl rfl 0 (by decide) lf_87 (fun _ h9 => h9) rfl dX8_wordRank_38 ?_
      refine z_cv (z_rV (As := [.int (gI S 5)]) (rest := []) (okX X) hC hw (kX8_countWords l X S _ (gI S 5) _ hf) (cwV 1 hts (gV q_544 q_545 q_546 q_2 q_547) rfl rfl rfl (by decide +kernel) ⟨Nat.le_of_ble_eq_true rfl, Nat.le_of_ble_eq_true rfl⟩) (x_recv hK hw (k := 0) (by decide) rfl rfl) rfl hl.1 rfl (Nat.le_of_ble_eq_true rfl) dX8_wordRank_41 ⟨Nat.le_of_ble_eq_true rfl, Nat.le_of_ble_eq_true rfl⟩) hw hi (fun S_4 H locs hf hw => ?_)
      refine lv_aload_n hx hb dX8_wordRank_44 rfl (lv_at hl 0 rfl) ?_
      refine x_get (k := 0) (v := .ref (xa X 2)) hx hb hts i_X8 hown hK hw (by decide) rfl rfl 1 (by decide) lf_19 (fun _ h9 => h9) rfl dX8_wordRank_45 ?_
      refine lv_aload_n hx hb dX8_wordRank_48 rfl (lv_at hl 0 rfl) ?_
      refine x_get (k := 0) (v := .ref (xa X 1)) hx hb hts i_X8 hown hK hw (by decide) rfl rfl 0 (by decide) lf_12 (fun _ h9 => h9) rfl dX8_wordRank_49 ?_
      refine x_getN (k := 1) (v := .int (gI S_4 2)) hx hb hts i_X1 hown hK hw (by decide) rfl rfl 1 (by decide) lf_214 (fun _ h9 => h9) rfl dX8_wordRank_52 ?_
      refine z_ci (z_rN (As := [.int (gI S_4 2)]) (rest := []) (okX X) hC hw (kX6_key l X S_4 _ (gI S_4 2) _ hf) ⟨va_cnB 1 hts (gN q_668) rfl rfl rfl ln_217 (hts _ q_21) (by decide +kernel) ⟨Nat.le_of_ble_eq_true rfl, Nat.le_of_ble_eq_true rfl⟩, hts _ q_666, hts _ q_667⟩ (x_recv hK hw (k := 2) (by decide) rfl rfl) rfl hl.1 rfl (Nat.le_of_ble_eq_true rfl) dX8_wordRank_55 ⟨Nat.le_of_ble_eq_true rfl, Nat.le_of_ble_eq_true rfl⟩) hw hi (fun r_5 S_6 H locs hf hw => ?_)
      obtain ⟨hf, rfl⟩ := hf
      refine lv_istore_n (lv' := [(1, .int r_5), (0, .ref (xa X 0))]) hx hb dX8_wordRank_58 rfl hl (by decide) rfl (fun ls hl => ?_)
      refine lv_aload_n hx hb dX8_wordRank_59 rfl (lv_at hl 1 rfl) ?_
      refine x_get (k := 0) (v := .ref (xa X 7)) hx hb hts i_X8 hown hK hw (by decide) rfl rfl 6 (by decide) lf_52 (fun _ h9 => h9) rfl dX8_wordRank_60 ?_
      refine lv_aload_n hx hb dX8_wordRank_63 rfl (lv_at hl 1 rfl) ?_
      refine x_get (k := 0) (v := .ref (xa X 2)) hx hb hts i_X8 hown hK hw (by decide) rfl rfl 1 (by decide) lf_19 (fun _ h9 => h9) rfl dX8_wordRank_64 ?_
      refine x_getN (k := 2) (v := .int (gI S_4 5)) hx hb hts i_X6 hown hK hw (by decide) rfl rfl 0 (by decide) lf_87 (fun _ h9 => h9) rfl dX8_wordRank_67 ?_
      refine lv_iload_n hx hb dX8_wordRank_70 rfl (lv_at hl 0 rfl) ?_
      refine z_cl (z_rN (As := [.int (gI S_4 5), .int r_5]) (rest := []) (okX X) hC hw (kX7_count l X S_4 _ (gI S_4 5) r_5 _ hf) ⟨va_cnB 2 hts (gN q_587) rfl rfl rfl ln_220 (hts _ q_35) (by decide +kernel) ⟨Nat.le_of_ble_eq_true rfl, Nat.le_of_ble_eq_true rfl⟩, hts _ q_585, hts _ q_586⟩ (x_recv hK hw (k := 7) (by decide) rfl rfl) rfl hl.1 rfl (Nat.le_of_ble_eq_true rfl) dX8_wordRank_71 ⟨Nat.le_of_ble_eq_true rfl, Nat.le_of_ble_eq_true rfl⟩) hw hi (fun r_7 S_8 H locs hf hw => ?_)
      obtain ⟨hf, rfl⟩ := hf
      refine lv_lconst (v := 1) hx hb dX8_wordRank_74 (by decide) ?_
      refine W.lcmp hx hb dX8_wordRank_75 ?_
      refine lv_if_ge (tgt := 89) hx hb dX8_wordRank_76 (by decide) (fun c_9 => ?_) (fun c_9 => ?_)
      · replace hf := hf.1 c_9
        refine lv_aload_n hx hb dX8_wordRank_89 rfl (lv_at hl 1 rfl) ?_
        refine x_get (k := 0) (v := .ref (xa X 7)) hx hb hts i_X8 hown hK hw (by decide) rfl rfl 6 (by decide) lf_52 (fun _ h9 => h9) rfl dX8_wordRank_90 ?_
        refine lv_iload_n hx hb dX8_wordRank_93 rfl (lv_at hl 0 rfl) ?_
        refine lv_iconst (v := 1) hx hb dX8_wordRank_94 (by decide) ?_
        refine lv_aload_n hx hb dX8_wordRank_95 rfl (lv_at hl 1 rfl) ?_
        refine x_get (k := 0) (v := .ref (xa X 2)) hx hb hts i_X8 hown hK hw (by decide) rfl rfl 1 (by decide) lf_19 (fun _ h9 => h9) rfl dX8_wordRank_96 ?_
        refine x_getN (k := 2) (v := .int (gI S_4 5)) hx hb hts i_X6 hown hK hw (by decide) rfl rfl 0 (by decide) lf_87 (fun _ h9 => h9) rfl dX8_wordRank_99 ?_
        refine z_ci (z_rN (As := [.int r_5, .int 1, .int (gI S_4 5)]) (rest := []) (okX X) hC hw (kX7_atLeastBefore l X S_4 _ r_5 1 (gI S_4 5) _ hf) ⟨va_cnB 3 hts (gN q_583) rfl rfl rfl ln_225 (hts _ q_35) (by decide +kernel) ⟨Nat.le_of_ble_eq_true rfl, Nat.le_of_ble_eq_true rfl⟩, hts _ q_581, hts _ q_582⟩ (x_recv hK hw (k := 7) (by decide) rfl rfl) rfl hl.1 rfl (Nat.le_of_ble_eq_true rfl) dX8_wordRank_102 ⟨Nat.le_of_ble_eq_true rfl, Nat.le_of_ble_eq_true rfl⟩) hw hi (fun r_10 S_11 H locs hf hw => ?_)
        obtain ⟨hf, rfl⟩ := hf
        exact hQ _ _ _ _ _ _ _ _ rfl hf hw dX8_wordRank_105 (by decide) (by decide)
      · replace hf := hf.2 c_9
        exact hT "java/util/NoSuchElementException" "the current word is not in the language" 198 202 13 223 prog_21_method_4_code S_4 _ _ _ _ [] _ _ ex_N (by decide +kernel) hf hw hl.1 (Nat.le_of_ble_eq_true rfl) (by decide) (by decide) dX8_wordRank_79 dX8_wordRank_82 (Or.inl ⟨dX8_wordRank_83, dX8_wordRank_85, dX8_wordRank_88⟩)
    · replace hf := hf.2 c_2
      exact hT "java/lang/IllegalStateException" "the current word has no terminal or more than 6" 113 117 7 212 prog_15_method_2_code S _ _ _ _ [] _ _ ex_S (by decide +kernel) hf hw hl.1 (Nat.le_of_ble_eq_true rfl) (by decide) (by decide) dX8_wordRank_23 dX8_wordRank_26 (Or.inl ⟨dX8_wordRank_27, dX8_wordRank_29, dX8_wordRank_32⟩)
def pX8_takeWord (p0 : Int32) (p1 : Int32) (S : gS) (Post : gS → Prop) (PX : String → gS → Prop) : Prop :=
  (pX8_checkLength p0 6 S (((0 ≤ p1 → (pX8_countWords p0 S (fun S_4 => (pX7_find 1 p0 p1 S_4 (fun r_5 => ((0 ≤ r_5 → (pX8_setWord p0 r_5 S_4 (fun S_9 => Post S_9))) ∧ (¬ 0 ≤ r_5 → PX "java/util/NoSuchElementException" S_4))))))) ∧ (¬ 0 ≤ p1 → PX "java/lang/IllegalArgumentException" S))) PX)
def rX8_takeWord : Room := { frames := 7, cells := 2, slots := 12, locals := 183 }
set_option maxHeartbeats 40000000 in
set_option maxRecDepth 100000 in
theorem kX8_takeWord (l : Launch) (hlt : l.stackTraces = false) (X : xG) (S : gS) (sz : Nat) (p0 : Int32) (p1 : Int32) (Post : gS → Prop) (PX : String → gS → Prop) (hf : pX8_takeWord p0 p1 S Post PX) : yMv l yX8_takeWord (Cond.code yX8_takeWord cX8_takeWord 4 none :: WS) rX8_takeWord X S sz [.ref (xa X 0), .int p0, .int p1] Post PX 2 12 := by
  refine yMv.of (cc := cX8_takeWord) (maxL := 4) hlt (by decide) rfl rfl (Nat.le_of_ble_eq_true rfl) (Nat.le_of_ble_eq_true rfl) (Nat.le_of_ble_eq_true rfl) rfl rfl ?_
  intro p e s m args below meth c ls Q hC hQ hT hX hw hl
  obtain ⟨hx, hb, hml, hown, hts, hE, hi⟩ := id hC
  have hK := hE.1
  have hl : lv_has ls 4 [(0, .ref (xa X 0)), (1, .int p0), (2, .int p1)] := hl
  have lf_52 : (Cond.fieldLink RX8 52 "GrammarAmbiguity" "words" "LGrammarAmbiguity$WordCounts;").before args s = true := hts _ q_36
  have ln_203 : va_Nw (.methodLinkNest RX8 203 yX7_find "GrammarAmbiguity") s := hE.2.1 _ (by decide +kernel)
  rw [pX8_takeWord] at hf
  refine lv_iload_n hx hb dX8_takeWord_0 rfl (lv_at hl 1 rfl) ?_
  refine lv_bipush (v := 6) hx hb dX8_takeWord_1 (by decide) ?_
  refine y_cv (y_rS (As := [.int p0, .int 6]) (rest := []) hC hw (kX8_checkLength l hlt X S _ p0 6 _ _ hf) (cwS 2 hts (gSt q_508 q_509 q_2 q_510) rfl rfl rfl (by decide +kernel) ⟨Nat.le_of_ble_eq_true rfl, Nat.le_of_ble_eq_true rfl⟩) rfl hl.1 rfl (Nat.le_of_ble_eq_true rfl) dX8_takeWord_3 ⟨Nat.le_of_ble_eq_true rfl, Nat.le_of_ble_eq_true rfl⟩) hw hi (fun E ce q9 S9 H locs hp hw h1 h2 h3 => hX E ce q9 S9 _ _ _ _ _ _ _ hp hw h1 h2 h3 (by decide) (by decide)) (fun S_1 H locs hf hw => ?_)
  obtain ⟨hf, rfl⟩ := hf
  refine W.widen (k := 1) (n := 6) (by decide) (by decide) ?_
  refine lv_iload_n hx hb dX8_takeWord_6 rfl (lv_at hl 2 rfl) ?_
  refine lv_if_ge (tgt := 20) hx hb dX8_takeWord_7 (by decide) (fun c_2 => ?_) (fun c_2 => ?_)
  · replace hf := hf.1 c_2
    refine lv_aload_n hx hb dX8_takeWord_20 rfl (lv_at hl 0 rfl) ?_
    refine lv_iload_n hx hb dX8_takeWord_21 rfl (lv_at hl 1 rfl) ?_
    refine z_cv (z_rV (As := [.int p0]) (rest := []) (okX X) hC hw (kX8_countWords l X S _ p0 _ hf) (cwV 1 hts (gV q_544 q_545 q_546 q_2 q_547) rfl rfl rfl (by decide +kernel) ⟨Nat.le_of_ble_eq_true rfl, Nat.le_of_ble_eq_true rfl⟩) (x_recv hK hw (k := 0) (by decide) rfl rfl) rfl hl.1 rfl (Nat.le_of_ble_eq_true rfl) dX8_takeWord_22 ⟨Nat.le_of_ble_eq_true rfl, Nat.le_of_ble_eq_true rfl⟩) hw hi (fun S_4 H locs hf hw => ?_)
    refine lv_aload_n hx hb dX8_takeWord_25 rfl (lv_at hl 0 rfl) ?_
    refine x_get (k := 0) (v := .ref (xa X 7)) hx hb hts i_X8 hown hK hw (by decide) rfl rfl 6 (by decide) lf_52 (fun _ h9 => h9) rfl dX8_takeWord_26 ?_
    refine lv_iconst (v := 1) hx hb dX8_takeWord_29 (by decide) ?_
    refine lv_iload_n hx hb dX8_takeWord_30 rfl (lv_at hl 1 rfl) ?_
    refine lv_iload_n hx hb dX8_takeWord_31 rfl (lv_at hl 2 rfl) ?_
    refine z_ci (z_rN (As := [.int 1, .int p0, .int p1]) (rest := []) (okX X) hC hw (kX7_find l X S_4 _ 1 p0 p1 _ hf) ⟨va_cnB 3 hts (gN q_640) rfl rfl rfl ln_203 (hts _ q_35) (by decide +kernel) ⟨Nat.le_of_ble_eq_true rfl, Nat.le_of_ble_eq_true rfl⟩, hts _ q_638, hts _ q_639⟩ (x_recv hK hw (k := 7) (by decide) rfl rfl) rfl hl.1 rfl (Nat.le_of_ble_eq_true rfl) dX8_takeWord_32 ⟨Nat.le_of_ble_eq_true rfl, Nat.le_of_ble_eq_true rfl⟩) hw hi (fun r_5 S_6 H locs hf hw => ?_)
    obtain ⟨hf, rfl⟩ := hf
    refine lv_istore_n (lv' := [(3, .int r_5), (0, .ref (xa X 0)), (1, .int p0), (2, .int p1)]) hx hb dX8_takeWord_35 rfl hl (by decide) rfl (fun ls hl => ?_)
    refine lv_iload_n hx hb dX8_takeWord_36 rfl (lv_at hl 0 rfl) ?_
    refine lv_if_ge (tgt := 50) hx hb dX8_takeWord_37 (by decide) (fun c_7 => ?_) (fun c_7 => ?_)
    · replace hf := hf.1 c_7
      refine lv_aload_n hx hb dX8_takeWord_50 rfl (lv_at hl 1 rfl) ?_
      refine lv_iload_n hx hb dX8_takeWord_51 rfl (lv_at hl 2 rfl) ?_
      refine lv_iload_n hx hb dX8_takeWord_52 rfl (lv_at hl 0 rfl) ?_
      refine z_cv (z_rV (As := [.int p0, .int r_5]) (rest := []) (okX X) hC hw (kX8_setWord l X S_4 _ p0 r_5 _ hf) (cwV 2 hts (gV q_641 q_642 q_643 q_2 q_644) rfl rfl rfl (by decide +kernel) ⟨Nat.le_of_ble_eq_true rfl, Nat.le_of_ble_eq_true rfl⟩) (x_recv hK hw (k := 0) (by decide) rfl rfl) rfl hl.1 rfl (Nat.le_of_ble_eq_true rfl) dX8_takeWord_53 ⟨Nat.le_of_ble_eq_true rfl, Nat.le_of_ble_eq_true rfl⟩) hw hi (fun S_9 H locs hf hw => ?_)
      exact hQ _ _ _ _ _ _ _ hf hw dX8_takeWord_56 (by decide) (by decide)
    · replace hf := hf.2 c_7
      exact hT "java/util/NoSuchElementException" "the language has no word with this rank" 198 202 13 230 prog_21_method_4_code S_4 _ _ _ _ [] _ _ ex_N (by decide +kernel) hf hw hl.1 (Nat.le_of_ble_eq_true rfl) (by decide) (by decide) dX8_takeWord_40 dX8_takeWord_43 (Or.inl ⟨dX8_takeWord_44, dX8_takeWord_46, dX8_takeWord_49⟩)
  · replace hf := hf.2 c_2
    exact hT "java/lang/IllegalArgumentException" "the rank is negative" 74 78 7 228 prog_14_method_2_code S _ _ _ _ [] _ _ ex_A (by decide +kernel) hf hw hl.1 (Nat.le_of_ble_eq_true rfl) (by decide) (by decide) dX8_takeWord_10 dX8_takeWord_13 (Or.inl ⟨dX8_takeWord_14, dX8_takeWord_16, dX8_takeWord_19⟩)
def pX8_drawWord (p0 : Int64) (p1 : Int32) (S : gS) (Post : Int32 → gS → Prop) (PX : String → gS → Prop) : Prop :=
  (pX8_checkLength p1 6 S ((pX8_countWords p1 S (fun S_3 => (pX7_atLeast 1 p1 S_3 (fun r_4 => ((1 ≤ r_4 → (pX8_draw p0 r_4.toInt64 S_3 (fun r_7 => (pX7_find 1 p1 r_7.toInt32 S_3 (fun r_9 => (pX8_setWord p1 r_9 S_3 (fun S_12 => Post r_7.toInt32 S_12))))))) ∧ (¬ 1 ≤ r_4 → PX "java/util/NoSuchElementException" S_3))))))) PX)
def rX8_drawWord : Room := { frames := 7, cells := 2, slots := 12, locals := 183 }
set_option maxHeartbeats 40000000 in
set_option maxRecDepth 100000 in
theorem kX8_drawWord (l : Launch) (hlt : l.stackTraces = false) (X : xG) (S : gS) (sz : Nat) (p0 : Int64) (p1 : Int32) (Post : Int32 → gS → Prop) (PX : String → gS → Prop) (hf : pX8_drawWord p0 p1 S Post PX) : yMi l yX8_drawWord (Cond.code yX8_drawWord cX8_drawWord 6 (some .int) :: WS) rX8_drawWord X S sz [.ref (xa X 0), .long p0, .int p1] Post PX 2 12 := by
  refine yMi.of (cc := cX8_drawWord) (maxL := 6) hlt (by decide) rfl rfl (Nat.le_of_ble_eq_true rfl) (Nat.le_of_ble_eq_true rfl) (Nat.le_of_ble_eq_true rfl) rfl rfl ?_
  intro p e s m args below meth c ls Q hC hQ hT hX hw hl
  obtain ⟨hx, hb, hml, hown, hts, hE, hi⟩ := id hC
  have hK := hE.1
  have hl : lv_has ls 6 [(0, .ref (xa X 0)), (1, .long p0), (3, .int p1)] := hl
  have lf_52 : (Cond.fieldLink RX8 52 "GrammarAmbiguity" "words" "LGrammarAmbiguity$WordCounts;").before args s = true := hts _ q_36
  have ln_192 : va_Nw (.methodLinkNest RX8 192 yX7_atLeast "GrammarAmbiguity") s := hE.2.1 _ (by decide +kernel)
  have ln_203 : va_Nw (.methodLinkNest RX8 203 yX7_find "GrammarAmbiguity") s := hE.2.1 _ (by decide +kernel)
  rw [pX8_drawWord] at hf
  refine lv_iload_n hx hb dX8_drawWord_0 rfl (lv_at hl 2 rfl) ?_
  refine lv_bipush (v := 6) hx hb dX8_drawWord_1 (by decide) ?_
  refine y_cv (y_rS (As := [.int p1, .int 6]) (rest := []) hC hw (kX8_checkLength l hlt X S _ p1 6 _ _ hf) (cwS 2 hts (gSt q_508 q_509 q_2 q_510) rfl rfl rfl (by decide +kernel) ⟨Nat.le_of_ble_eq_true rfl, Nat.le_of_ble_eq_true rfl⟩) rfl hl.1 rfl (Nat.le_of_ble_eq_true rfl) dX8_drawWord_3 ⟨Nat.le_of_ble_eq_true rfl, Nat.le_of_ble_eq_true rfl⟩) hw hi (fun E ce q9 S9 H locs hp hw h1 h2 h3 => hX E ce q9 S9 _ _ _ _ _ _ _ hp hw h1 h2 h3 (by decide) (by decide)) (fun S_1 H locs hf hw => ?_)
  obtain ⟨hf, rfl⟩ := hf
  refine W.widen (k := 1) (n := 6) (by decide) (by decide) ?_
  refine lv_aload_n hx hb dX8_drawWord_6 rfl (lv_at hl 0 rfl) ?_
  refine lv_iload_n hx hb dX8_drawWord_7 rfl (lv_at hl 2 rfl) ?_
  refine z_cv (z_rV (As := [.int p1]) (rest := []) (okX X) hC hw (kX8_countWords l X S _ p1 _ hf) (cwV 1 hts (gV q_544 q_545 q_546 q_2 q_547) rfl rfl rfl (by decide +kernel) ⟨Nat.le_of_ble_eq_true rfl, Nat.le_of_ble_eq_true rfl⟩) (x_recv hK hw (k := 0) (by decide) rfl rfl) rfl hl.1 rfl (Nat.le_of_ble_eq_true rfl) dX8_drawWord_8 ⟨Nat.le_of_ble_eq_true rfl, Nat.le_of_ble_eq_true rfl⟩) hw hi (fun S_3 H locs hf hw => ?_)
  refine lv_aload_n hx hb dX8_drawWord_11 rfl (lv_at hl 0 rfl) ?_
  refine x_get (k := 0) (v := .ref (xa X 7)) hx hb hts i_X8 hown hK hw (by decide) rfl rfl 6 (by decide) lf_52 (fun _ h9 => h9) rfl dX8_drawWord_12 ?_
  refine lv_iconst (v := 1) hx hb dX8_drawWord_15 (by decide) ?_
  refine lv_iload_n hx hb dX8_drawWord_16 rfl (lv_at hl 2 rfl) ?_
  refine z_ci (z_rN (As := [.int 1, .int p1]) (rest := []) (okX X) hC hw (kX7_atLeast l X S_3 _ 1 p1 _ hf) ⟨va_cnB 2 hts (gN q_579) rfl rfl rfl ln_192 (hts _ q_35) (by decide +kernel) ⟨Nat.le_of_ble_eq_true rfl, Nat.le_of_ble_eq_true rfl⟩, hts _ q_577, hts _ q_578⟩ (x_recv hK hw (k := 7) (by decide) rfl rfl) rfl hl.1 rfl (Nat.le_of_ble_eq_true rfl) dX8_drawWord_17 ⟨Nat.le_of_ble_eq_true rfl, Nat.le_of_ble_eq_true rfl⟩) hw hi (fun r_4 S_5 H locs hf hw => ?_)
  obtain ⟨hf, rfl⟩ := hf
  refine lv_istore (lv' := [(4, .int r_4), (0, .ref (xa X 0)), (1, .long p0), (3, .int p1)]) hx hb dX8_drawWord_20 hl (by decide) rfl (fun ls hl => ?_)
  refine lv_iload hx hb dX8_drawWord_22 (lv_at hl 0 rfl) ?_
  refine lv_iconst (v := 1) hx hb dX8_drawWord_24 (by decide) ?_
  refine lv_icmp_ge (tgt := 38) hx hb dX8_drawWord_25 (by decide) (fun c_6 => ?_) (fun c_6 => ?_)
  · replace hf := hf.1 c_6
    refine lv_lload_n hx hb dX8_drawWord_38 rfl (lv_at hl 2 rfl) ?_
    refine lv_iload hx hb dX8_drawWord_39 (lv_at hl 0 rfl) ?_
    refine lv_i2l hx hb dX8_drawWord_41 rfl ?_
    refine z_cl (z_rS (As := [.long p0, .long r_4.toInt64]) (rest := []) (okX X) hC hw (kX8_draw l X S_3 _ p0 r_4.toInt64 _ hf) (cwS 2 hts (gSt q_696 q_697 q_2 q_698) rfl rfl rfl (by decide +kernel) ⟨Nat.le_of_ble_eq_true rfl, Nat.le_of_ble_eq_true rfl⟩) rfl hl.1 rfl (Nat.le_of_ble_eq_true rfl) dX8_drawWord_42 ⟨Nat.le_of_ble_eq_true rfl, Nat.le_of_ble_eq_true rfl⟩) hw hi (fun r_7 S_8 H locs hf hw => ?_)
    obtain ⟨hf, rfl⟩ := hf
    refine lv_l2i hx hb dX8_drawWord_45 rfl ?_
    refine lv_istore (lv' := [(5, .int r_7.toInt32), (4, .int r_4), (0, .ref (xa X 0)), (1, .long p0), (3, .int p1)]) hx hb dX8_drawWord_46 hl (by decide) rfl (fun ls hl => ?_)
    refine lv_aload_n hx hb dX8_drawWord_48 rfl (lv_at hl 2 rfl) ?_
    refine lv_iload_n hx hb dX8_drawWord_49 rfl (lv_at hl 4 rfl) ?_
    refine lv_aload_n hx hb dX8_drawWord_50 rfl (lv_at hl 2 rfl) ?_
    refine x_get (k := 0) (v := .ref (xa X 7)) hx hb hts i_X8 hown hK hw (by decide) rfl rfl 6 (by decide) lf_52 (fun _ h9 => h9) rfl dX8_drawWord_51 ?_
    refine lv_iconst (v := 1) hx hb dX8_drawWord_54 (by decide) ?_
    refine lv_iload_n hx hb dX8_drawWord_55 rfl (lv_at hl 4 rfl) ?_
    refine lv_iload hx hb dX8_drawWord_56 (lv_at hl 0 rfl) ?_
    refine z_ci (z_rN (As := [.int 1, .int p1, .int r_7.toInt32]) (rest := [.int p1, .ref (xa X 0)]) (okX X) hC hw (kX7_find l X S_3 _ 1 p1 r_7.toInt32 _ hf) ⟨va_cnB 3 hts (gN q_640) rfl rfl rfl ln_203 (hts _ q_35) (by decide +kernel) ⟨Nat.le_of_ble_eq_true rfl, Nat.le_of_ble_eq_true rfl⟩, hts _ q_638, hts _ q_639⟩ (x_recv hK hw (k := 7) (by decide) rfl rfl) rfl hl.1 rfl (Nat.le_of_ble_eq_true rfl) dX8_drawWord_58 ⟨Nat.le_of_ble_eq_true rfl, Nat.le_of_ble_eq_true rfl⟩) hw hi (fun r_9 S_10 H locs hf hw => ?_)
    obtain ⟨hf, rfl⟩ := hf
    refine z_cv (z_rV (As := [.int p1, .int r_9]) (rest := []) (okX X) hC hw (kX8_setWord l X S_3 _ p1 r_9 _ hf) (cwV 2 hts (gV q_641 q_642 q_643 q_2 q_644) rfl rfl rfl (by decide +kernel) ⟨Nat.le_of_ble_eq_true rfl, Nat.le_of_ble_eq_true rfl⟩) (x_recv hK hw (k := 0) (by decide) rfl rfl) rfl hl.1 rfl (Nat.le_of_ble_eq_true rfl) dX8_drawWord_61 ⟨Nat.le_of_ble_eq_true rfl, Nat.le_of_ble_eq_true rfl⟩) hw hi (fun S_12 H locs hf hw => ?_)
    refine lv_iload hx hb dX8_drawWord_64 (lv_at hl 0 rfl) ?_
    exact hQ _ _ _ _ _ _ _ _ rfl hf hw dX8_drawWord_66 (by decide) (by decide)
  · replace hf := hf.2 c_6
    exact hT "java/util/NoSuchElementException" "the language has no word of this length" 198 202 13 200 prog_21_method_4_code S_3 _ _ _ _ [] _ _ ex_N (by decide +kernel) hf hw hl.1 (Nat.le_of_ble_eq_true rfl) (by decide) (by decide) dX8_drawWord_28 dX8_drawWord_31 (Or.inl ⟨dX8_drawWord_32, dX8_drawWord_34, dX8_drawWord_37⟩)
def pX8_drawTree (p0 : Int64) (p1 : Int32) (S : gS) (Post : Int64 → gS → Prop) (PX : String → gS → Prop) : Prop :=
  (pX8_checkLength p1 8 S ((pX8_allTrees p1 S (fun r_2 S_3 => ((0 ≤ (lg_cmp r_2 1) → (pX8_draw p0 r_2 S_3 (fun r_5 => (∀ S_7 : gS, S_7 = uI S_3 15 0 → (pX5_grow_5 10 (gI S_7 3) 0 0 p1 r_5 S_7 (fun S_9 => (∀ S_10 : gS, S_10 = uI S_9 5 p1 → (pX5_spell  S_10 (fun S_12 => (pX8_countSpans  S_12 (fun S_14 => (pX5_findNumber  S_14 (fun r_15 S_16 => (∀ S_17 : gS, S_17 = uJ S_16 0 r_15 → (∀ S_18 : gS, S_18 = uI S_17 14 1 → Post r_5 S_18))))))))))))))) ∧ (¬ 0 ≤ (lg_cmp r_2 1) → PX "java/util/NoSuchElementException" S_3))))) PX)
def rX8_drawTree : Room := { frames := 19, cells := 2, slots := 12, locals := 1042 }
set_option maxHeartbeats 40000000 in
set_option maxRecDepth 100000 in
theorem kX8_drawTree (l : Launch) (hlt : l.stackTraces = false) (X : xG) (S : gS) (sz : Nat) (p0 : Int64) (p1 : Int32) (Post : Int64 → gS → Prop) (PX : String → gS → Prop) (hf : pX8_drawTree p0 p1 S Post PX) : yMl l yX8_drawTree (Cond.code yX8_drawTree cX8_drawTree 8 (some .long) :: WS) rX8_drawTree X S sz [.ref (xa X 0), .long p0, .int p1] Post PX 2 12 := by
  refine yMl.of (cc := cX8_drawTree) (maxL := 8) hlt (by decide) rfl rfl (Nat.le_of_ble_eq_true rfl) (Nat.le_of_ble_eq_true rfl) (Nat.le_of_ble_eq_true rfl) rfl rfl ?_
  intro p e s m args below meth c ls Q hC hQ hT hX hw hl
  obtain ⟨hx, hb, hml, hown, hts, hE, hi⟩ := id hC
  have hK := hE.1
  have hl : lv_has ls 8 [(0, .ref (xa X 0)), (1, .long p0), (3, .int p1)] := hl
  have lf_59 : (Cond.fieldLink RX8 59 "GrammarAmbiguity" "tree" "LGrammarAmbiguity$Tree;").before args s = true := hts _ q_40
  have lf_238 : va_Nw (.fieldLinkNest RX8 238 "GrammarAmbiguity$Tree" "size" "I" "GrammarAmbiguity") s := hE.2.1 _ (by decide +kernel)
  have lf_34 : (Cond.fieldLink RX8 34 "GrammarAmbiguity" "lengths" "LGrammarAmbiguity$LengthCounts;").before args s = true := hts _ q_28
  have lf_12 : (Cond.fieldLink RX8 12 "GrammarAmbiguity" "grammar" "LGrammarAmbiguity$Grammar;").before args s = true := hts _ q_18
  have lf_145 : va_Nw (.fieldLinkNest RX8 145 "GrammarAmbiguity$Grammar" "start" "I" "GrammarAmbiguity") s := hE.2.1 _ (by decide +kernel)
  have ln_241 : va_Nw (.methodLinkNest RX8 241 yX5_grow "GrammarAmbiguity") s := hE.2.1 _ (by decide +kernel)
  have lf_19 : (Cond.fieldLink RX8 19 "GrammarAmbiguity" "word" "LGrammarAmbiguity$Word;").before args s = true := hts _ q_22
  have lf_87 : va_Nw (.fieldLinkNest RX8 87 "GrammarAmbiguity$Word" "length" "I" "GrammarAmbiguity") s := hE.2.1 _ (by decide +kernel)
  have ln_245 : va_Nw (.methodLinkNest RX8 245 yX5_spell "GrammarAmbiguity") s := hE.2.1 _ (by decide +kernel)
  have lf_43 : (Cond.fieldLink RX8 43 "GrammarAmbiguity" "spans" "LGrammarAmbiguity$SpanCounts;").before args s = true := hts _ q_32
  have ln_249 : va_Nw (.methodLinkNest RX8 249 yX5_findNumber "GrammarAmbiguity") s := hE.2.1 _ (by decide +kernel)
  have lf_253 : va_Nw (.fieldLinkNest RX8 253 "GrammarAmbiguity$Tree" "number" "J" "GrammarAmbiguity") s := hE.2.1 _ (by decide +kernel)
  have lf_148 : va_Nw (.fieldLinkNest RX8 148 "GrammarAmbiguity$Tree" "present" "Z" "GrammarAmbiguity") s := hE.2.1 _ (by decide +kernel)
  rw [pX8_drawTree] at hf
  refine lv_iload_n hx hb dX8_drawTree_0 rfl (lv_at hl 2 rfl) ?_
  refine lv_bipush (v := 8) hx hb dX8_drawTree_1 (by decide) ?_
  refine y_cv (y_rS (As := [.int p1, .int 8]) (rest := []) hC hw (kX8_checkLength l hlt X S _ p1 8 _ _ hf) (cwS 2 hts (gSt q_508 q_509 q_2 q_510) rfl rfl rfl (by decide +kernel) ⟨Nat.le_of_ble_eq_true rfl, Nat.le_of_ble_eq_true rfl⟩) rfl hl.1 rfl (Nat.le_of_ble_eq_true rfl) dX8_drawTree_3 ⟨Nat.le_of_ble_eq_true rfl, Nat.le_of_ble_eq_true rfl⟩) hw hi (fun E ce q9 S9 H locs hp hw h1 h2 h3 => hX E ce q9 S9 _ _ _ _ _ _ _ hp hw h1 h2 h3 (by decide) (by decide)) (fun S_1 H locs hf hw => ?_)
  obtain ⟨hf, rfl⟩ := hf
  refine W.widen (k := 1) (n := 6) (by decide) (by decide) ?_
  refine lv_aload_n hx hb dX8_drawTree_6 rfl (lv_at hl 0 rfl) ?_
  refine lv_iload_n hx hb dX8_drawTree_7 rfl (lv_at hl 2 rfl) ?_
  refine z_cl (z_rV (As := [.int p1]) (rest := []) (okX X) hC hw (kX8_allTrees l X S _ p1 _ hf) (cwV 1 hts (gV q_511 q_512 q_513 q_2 q_514) rfl rfl rfl (by decide +kernel) ⟨Nat.le_of_ble_eq_true rfl, Nat.le_of_ble_eq_true rfl⟩) (x_recv hK hw (k := 0) (by decide) rfl rfl) rfl hl.1 rfl (Nat.le_of_ble_eq_true rfl) dX8_drawTree_8 ⟨Nat.le_of_ble_eq_true rfl, Nat.le_of_ble_eq_true rfl⟩) hw hi (fun r_2 S_3 H locs hf hw => ?_)
  refine lv_lstore (lv' := [(4, .long r_2), (0, .ref (xa X 0)), (1, .long p0), (3, .int p1)]) hx hb dX8_drawTree_11 hl (by decide) rfl (fun ls hl => ?_)
  refine lv_lload hx hb dX8_drawTree_13 (lv_at hl 0 rfl) ?_
  refine lv_lconst (v := 1) hx hb dX8_drawTree_15 (by decide) ?_
  refine W.lcmp hx hb dX8_drawTree_16 ?_
  refine lv_if_ge (tgt := 30) hx hb dX8_drawTree_17 (by decide) (fun c_4 => ?_) (fun c_4 => ?_)
  · replace hf := hf.1 c_4
    refine lv_lload_n hx hb dX8_drawTree_30 rfl (lv_at hl 2 rfl) ?_
    refine lv_lload hx hb dX8_drawTree_31 (lv_at hl 0 rfl) ?_
    refine z_cl (z_rS (As := [.long p0, .long r_2]) (rest := []) (okX X) hC hw (kX8_draw l X S_3 _ p0 r_2 _ hf) (cwS 2 hts (gSt q_696 q_697 q_2 q_698) rfl rfl rfl (by decide +kernel) ⟨Nat.le_of_ble_eq_true rfl, Nat.le_of_ble_eq_true rfl⟩) rfl hl.1 rfl (Nat.le_of_ble_eq_true rfl) dX8_drawTree_33 ⟨Nat.le_of_ble_eq_true rfl, Nat.le_of_ble_eq_true rfl⟩) hw hi (fun r_5 S_6 H locs hf hw => ?_)
    obtain ⟨hf, rfl⟩ := hf
    refine lv_lstore (lv' := [(6, .long r_5), (4, .long r_2), (0, .ref (xa X 0)), (1, .long p0), (3, .int p1)]) hx hb dX8_drawTree_36 hl (by decide) rfl (fun ls hl => ?_)
    refine lv_aload_n hx hb dX8_drawTree_38 rfl (lv_at hl 2 rfl) ?_
    refine x_get (k := 0) (v := .ref (xa X 8)) hx hb hts i_X8 hown hK hw (by decide) rfl rfl 7 (by decide) lf_59 (fun _ h9 => h9) rfl dX8_drawTree_39 ?_
    refine lv_iconst (v := 0) hx hb dX8_drawTree_42 (by decide) ?_
    refine x_putN (k := 8) (S' := uI S_3 15 0) (ty := .int) hx hb hts i_X5 tyX5_ok nmX5 hown hK hw (by decide) rfl rfl 3 (by decide) lf_238 (fun _ h9 => h9) rfl (by decide +kernel) rfl rfl (Nat.le_of_ble_eq_true rfl) dX8_drawTree_43 (uX_I15 X S_3 _) (fun H locs hw => ?_)
    obtain ⟨S_7, eS_7⟩ : ∃ z : gS, z = uI S_3 15 0 := ⟨_, rfl⟩
    rw [← eS_7] at hw
    replace hf := hf S_7 eS_7
    refine lv_aload_n hx hb dX8_drawTree_46 rfl (lv_at hl 2 rfl) ?_
    refine x_get (k := 0) (v := .ref (xa X 8)) hx hb hts i_X8 hown hK hw (by decide) rfl rfl 7 (by decide) lf_59 (fun _ h9 => h9) rfl dX8_drawTree_47 ?_
    refine lv_aload_n hx hb dX8_drawTree_50 rfl (lv_at hl 2 rfl) ?_
    refine x_get (k := 0) (v := .ref (xa X 5)) hx hb hts i_X8 hown hK hw (by decide) rfl rfl 4 (by decide) lf_34 (fun _ h9 => h9) rfl dX8_drawTree_51 ?_
    refine lv_aload_n hx hb dX8_drawTree_54 rfl (lv_at hl 2 rfl) ?_
    refine x_get (k := 0) (v := .ref (xa X 1)) hx hb hts i_X8 hown hK hw (by decide) rfl rfl 0 (by decide) lf_12 (fun _ h9 => h9) rfl dX8_drawTree_55 ?_
    refine x_getN (k := 1) (v := .int (gI S_7 3)) hx hb hts i_X1 hown hK hw (by decide) rfl rfl 2 (by decide) lf_145 (fun _ h9 => h9) rfl dX8_drawTree_58 ?_
    refine lv_iconst (v := 0) hx hb dX8_drawTree_61 (by decide) ?_
    refine lv_iconst (v := 0) hx hb dX8_drawTree_62 (by decide) ?_
    refine lv_iload_n hx hb dX8_drawTree_63 rfl (lv_at hl 4 rfl) ?_
    refine lv_lload hx hb dX8_drawTree_64 (lv_at hl 0 rfl) ?_
    refine z_cv (z_rN (As := [.ref (xa X 5), .int (gI S_7 3), .int 0, .int 0, .int p1, .long r_5]) (rest := []) (okX X) hC hw (kX5_grow_5 l X 10 S_7 _ (gI S_7 3) 0 0 p1 r_5 _ hf) ⟨va_cnB 6 hts (gN q_719) rfl rfl rfl ln_241 (hts _ q_39) (by decide +kernel) ⟨Nat.le_of_ble_eq_true rfl, Nat.le_of_ble_eq_true rfl⟩, hts _ q_717, hts _ q_718⟩ (x_recv hK hw (k := 8) (by decide) rfl rfl) rfl hl.1 rfl (Nat.le_of_ble_eq_true rfl) dX8_drawTree_66 ⟨Nat.le_of_ble_eq_true rfl, Nat.le_of_ble_eq_true rfl⟩) hw hi (fun S_9 H locs hf hw => ?_)
    refine lv_aload_n hx hb dX8_drawTree_69 rfl (lv_at hl 2 rfl) ?_
    refine x_get (k := 0) (v := .ref (xa X 2)) hx hb hts i_X8 hown hK hw (by decide) rfl rfl 1 (by decide) lf_19 (fun _ h9 => h9) rfl dX8_drawTree_70 ?_
    refine lv_iload_n hx hb dX8_drawTree_73 rfl (lv_at hl 4 rfl) ?_
    refine x_putN (k := 2) (S' := uI S_9 5 p1) (ty := .int) hx hb hts i_X6 tyX6_ok nmX6 hown hK hw (by decide) rfl rfl 0 (by decide) lf_87 (fun _ h9 => h9) rfl (by decide +kernel) rfl rfl (Nat.le_of_ble_eq_true rfl) dX8_drawTree_74 (uX_I5 X S_9 _) (fun H locs hw => ?_)
    obtain ⟨S_10, eS_10⟩ : ∃ z : gS, z = uI S_9 5 p1 := ⟨_, rfl⟩
    rw [← eS_10] at hw
    replace hf := hf S_10 eS_10
    refine lv_aload_n hx hb dX8_drawTree_77 rfl (lv_at hl 2 rfl) ?_
    refine x_get (k := 0) (v := .ref (xa X 8)) hx hb hts i_X8 hown hK hw (by decide) rfl rfl 7 (by decide) lf_59 (fun _ h9 => h9) rfl dX8_drawTree_78 ?_
    refine lv_aload_n hx hb dX8_drawTree_81 rfl (lv_at hl 2 rfl) ?_
    refine x_get (k := 0) (v := .ref (xa X 2)) hx hb hts i_X8 hown hK hw (by decide) rfl rfl 1 (by decide) lf_19 (fun _ h9 => h9) rfl dX8_drawTree_82 ?_
    refine z_cv (z_rN (As := [.ref (xa X 2)]) (rest := []) (okX X) hC hw (kX5_spell l X S_10 _  _ hf) ⟨va_cnB 1 hts (gN q_738) rfl rfl rfl ln_245 (hts _ q_39) (by decide +kernel) ⟨Nat.le_of_ble_eq_true rfl, Nat.le_of_ble_eq_true rfl⟩, hts _ q_736, hts _ q_737⟩ (x_recv hK hw (k := 8) (by decide) rfl rfl) rfl hl.1 rfl (Nat.le_of_ble_eq_true rfl) dX8_drawTree_85 ⟨Nat.le_of_ble_eq_true rfl, Nat.le_of_ble_eq_true rfl⟩) hw hi (fun S_12 H locs hf hw => ?_)
    refine lv_aload_n hx hb dX8_drawTree_88 rfl (lv_at hl 2 rfl) ?_
    refine z_cv (z_rV (As := []) (rest := []) (okX X) hC hw (kX8_countSpans l X S_12 _  _ hf) (cwV 0 hts (gV q_396 q_397 q_398 q_2 q_399) rfl rfl rfl (by decide +kernel) ⟨Nat.le_of_ble_eq_true rfl, Nat.le_of_ble_eq_true rfl⟩) (x_recv hK hw (k := 0) (by decide) rfl rfl) rfl hl.1 rfl (Nat.le_of_ble_eq_true rfl) dX8_drawTree_89 ⟨Nat.le_of_ble_eq_true rfl, Nat.le_of_ble_eq_true rfl⟩) hw hi (fun S_14 H locs hf hw => ?_)
    refine lv_aload_n hx hb dX8_drawTree_92 rfl (lv_at hl 2 rfl) ?_
    refine x_get (k := 0) (v := .ref (xa X 8)) hx hb hts i_X8 hown hK hw (by decide) rfl rfl 7 (by decide) lf_59 (fun _ h9 => h9) rfl dX8_drawTree_93 ?_
    refine lv_aload_n hx hb dX8_drawTree_96 rfl (lv_at hl 2 rfl) ?_
    refine x_get (k := 0) (v := .ref (xa X 8)) hx hb hts i_X8 hown hK hw (by decide) rfl rfl 7 (by decide) lf_59 (fun _ h9 => h9) rfl dX8_drawTree_97 ?_
    refine lv_aload_n hx hb dX8_drawTree_100 rfl (lv_at hl 2 rfl) ?_
    refine x_get (k := 0) (v := .ref (xa X 6)) hx hb hts i_X8 hown hK hw (by decide) rfl rfl 5 (by decide) lf_43 (fun _ h9 => h9) rfl dX8_drawTree_101 ?_
    refine z_cl (z_rN (As := [.ref (xa X 6)]) (rest := [.ref (xa X 8)]) (okX X) hC hw (kX5_findNumber l X S_14 _  _ hf) ⟨va_cnB 1 hts (gN q_744) rfl rfl rfl ln_249 (hts _ q_39) (by decide +kernel) ⟨Nat.le_of_ble_eq_true rfl, Nat.le_of_ble_eq_true rfl⟩, hts _ q_742, hts _ q_743⟩ (x_recv hK hw (k := 8) (by decide) rfl rfl) rfl hl.1 rfl (Nat.le_of_ble_eq_true rfl) dX8_drawTree_104 ⟨Nat.le_of_ble_eq_true rfl, Nat.le_of_ble_eq_true rfl⟩) hw hi (fun r_15 S_16 H locs hf hw => ?_)
    refine x_putN (k := 8) (S' := uJ S_16 0 r_15) (ty := .long) hx hb hts i_X5 tyX5_ok nmX5 hown hK hw (by decide) rfl rfl 2 (by decide) lf_253 (fun _ h9 => h9) rfl (by decide +kernel) rfl rfl (Nat.le_of_ble_eq_true rfl) dX8_drawTree_107 (uX_J0 X S_16 _) (fun H locs hw => ?_)
    obtain ⟨S_17, eS_17⟩ : ∃ z : gS, z = uJ S_16 0 r_15 := ⟨_, rfl⟩
    rw [← eS_17] at hw
    replace hf := hf S_17 eS_17
    refine lv_aload_n hx hb dX8_drawTree_110 rfl (lv_at hl 2 rfl) ?_
    refine x_get (k := 0) (v := .ref (xa X 8)) hx hb hts i_X8 hown hK hw (by decide) rfl rfl 7 (by decide) lf_59 (fun _ h9 => h9) rfl dX8_drawTree_111 ?_
    refine lv_iconst (v := 1) hx hb dX8_drawTree_114 (by decide) ?_
    refine x_putN (k := 8) (S' := uI S_17 14 1) (ty := .boolean) hx hb hts i_X5 tyX5_ok nmX5 hown hK hw (by decide) rfl rfl 1 (by decide) lf_148 (fun _ h9 => h9) rfl (by decide +kernel) rfl rfl (Nat.le_of_ble_eq_true rfl) dX8_drawTree_115 (uX_I14 X S_17 _) (fun H locs hw => ?_)
    obtain ⟨S_18, eS_18⟩ : ∃ z : gS, z = uI S_17 14 1 := ⟨_, rfl⟩
    rw [← eS_18] at hw
    replace hf := hf S_18 eS_18
    refine lv_lload hx hb dX8_drawTree_118 (lv_at hl 0 rfl) ?_
    exact hQ _ _ _ _ _ _ _ _ hf hw dX8_drawTree_120 (by decide) (by decide)
  · replace hf := hf.2 c_4
    exact hT "java/util/NoSuchElementException" "the grammar has no tree of this length" 198 202 13 236 prog_21_method_4_code S_3 _ _ _ _ [] _ _ ex_N (by decide +kernel) hf hw hl.1 (Nat.le_of_ble_eq_true rfl) (by decide) (by decide) dX8_drawTree_20 dX8_drawTree_23 (Or.inl ⟨dX8_drawTree_24, dX8_drawTree_26, dX8_drawTree_29⟩)
def pX8_takeTree (p0 : Int64) (S : gS) (Post : Int32 → gS → Prop) (PX : String → gS → Prop) : Prop :=
  (pX8_countSpans  S (fun S_2 => (((lg_cmp p0 0) < 0 → PX "java/util/NoSuchElementException" S_2) ∧ (¬ (lg_cmp p0 0) < 0 → (pX0_count_6 (gI S_2 3) (gI S_2 5) 0 S_2 (fun r_4 => (((lg_cmp p0 r_4) < 0 → (∀ S_7 : gS, S_7 = uI S_2 15 0 → (pX5_grow_6 10 (gI S_7 3) 0 0 (gI S_7 5) p0 S_7 (fun S_9 => (∀ S_10 : gS, S_10 = uJ S_9 0 p0 → (∀ S_11 : gS, S_11 = uI S_10 14 1 → Post (gI S_11 15) S_11)))))) ∧ (¬ (lg_cmp p0 r_4) < 0 → PX "java/util/NoSuchElementException" S_2))))))))
def rX8_takeTree : Room := { frames := 19, cells := 1, slots := 6, locals := 1042 }
set_option maxHeartbeats 40000000 in
set_option maxRecDepth 100000 in
theorem kX8_takeTree (l : Launch) (hlt : l.stackTraces = false) (X : xG) (S : gS) (sz : Nat) (p0 : Int64) (Post : Int32 → gS → Prop) (PX : String → gS → Prop) (hf : pX8_takeTree p0 S Post PX) : yMi l yX8_takeTree (Cond.code yX8_takeTree cX8_takeTree 3 (some .int) :: WS) rX8_takeTree X S sz [.ref (xa X 0), .long p0] Post PX 1 6 := by
  refine yMi.of (cc := cX8_takeTree) (maxL := 3) hlt (by decide) rfl rfl (Nat.le_of_ble_eq_true rfl) (Nat.le_of_ble_eq_true rfl) (Nat.le_of_ble_eq_true rfl) rfl rfl ?_
  intro p e s m args below meth c ls Q hC hQ hT hX hw hl
  obtain ⟨hx, hb, hml, hown, hts, hE, hi⟩ := id hC
  have hK := hE.1
  have hl : lv_has ls 3 [(0, .ref (xa X 0)), (1, .long p0)] := hl
  have lf_43 : (Cond.fieldLink RX8 43 "GrammarAmbiguity" "spans" "LGrammarAmbiguity$SpanCounts;").before args s = true := hts _ q_32
  have lf_12 : (Cond.fieldLink RX8 12 "GrammarAmbiguity" "grammar" "LGrammarAmbiguity$Grammar;").before args s = true := hts _ q_18
  have lf_145 : va_Nw (.fieldLinkNest RX8 145 "GrammarAmbiguity$Grammar" "start" "I" "GrammarAmbiguity") s := hE.2.1 _ (by decide +kernel)
  have lf_19 : (Cond.fieldLink RX8 19 "GrammarAmbiguity" "word" "LGrammarAmbiguity$Word;").before args s = true := hts _ q_22
  have lf_87 : va_Nw (.fieldLinkNest RX8 87 "GrammarAmbiguity$Word" "length" "I" "GrammarAmbiguity") s := hE.2.1 _ (by decide +kernel)
  have lf_59 : (Cond.fieldLink RX8 59 "GrammarAmbiguity" "tree" "LGrammarAmbiguity$Tree;").before args s = true := hts _ q_40
  have lf_238 : va_Nw (.fieldLinkNest RX8 238 "GrammarAmbiguity$Tree" "size" "I" "GrammarAmbiguity") s := hE.2.1 _ (by decide +kernel)
  have ln_241 : va_Nw (.methodLinkNest RX8 241 yX5_grow "GrammarAmbiguity") s := hE.2.1 _ (by decide +kernel)
  have lf_253 : va_Nw (.fieldLinkNest RX8 253 "GrammarAmbiguity$Tree" "number" "J" "GrammarAmbiguity") s := hE.2.1 _ (by decide +kernel)
  have lf_148 : va_Nw (.fieldLinkNest RX8 148 "GrammarAmbiguity$Tree" "present" "Z" "GrammarAmbiguity") s := hE.2.1 _ (by decide +kernel)
  rw [pX8_takeTree] at hf
  refine lv_aload_n hx hb dX8_takeTree_0 rfl (lv_at hl 0 rfl) ?_
  refine z_cv (z_rV (As := []) (rest := []) (okX X) hC hw (kX8_countSpans l X S _  _ hf) (cwV 0 hts (gV q_396 q_397 q_398 q_2 q_399) rfl rfl rfl (by decide +kernel) ⟨Nat.le_of_ble_eq_true rfl, Nat.le_of_ble_eq_true rfl⟩) (x_recv hK hw (k := 0) (by decide) rfl rfl) rfl hl.1 rfl (Nat.le_of_ble_eq_true rfl) dX8_takeTree_1 ⟨Nat.le_of_ble_eq_true rfl, Nat.le_of_ble_eq_true rfl⟩) hw hi (fun S_2 H locs hf hw => ?_)
  refine lv_lload_n hx hb dX8_takeTree_4 rfl (lv_at hl 1 rfl) ?_
  refine lv_lconst (v := 0) hx hb dX8_takeTree_5 (by decide) ?_
  refine W.lcmp hx hb dX8_takeTree_6 ?_
  refine lv_if_lt (tgt := 37) hx hb dX8_takeTree_7 (by decide) (fun c_3 => ?_) (fun c_3 => ?_)
  · replace hf := hf.1 c_3
    exact hT "java/util/NoSuchElementException" "the current word has no tree with this number" 198 202 13 257 prog_21_method_4_code S_2 _ _ _ _ [] _ _ ex_N (by decide +kernel) hf hw hl.1 (Nat.le_of_ble_eq_true rfl) (by decide) (by decide) dX8_takeTree_37 dX8_takeTree_40 (Or.inr ⟨dX8_takeTree_41, dX8_takeTree_44, dX8_takeTree_47⟩)
  · replace hf := hf.2 c_3
    refine lv_lload_n hx hb dX8_takeTree_10 rfl (lv_at hl 1 rfl) ?_
    refine lv_aload_n hx hb dX8_takeTree_11 rfl (lv_at hl 0 rfl) ?_
    refine x_get (k := 0) (v := .ref (xa X 6)) hx hb hts i_X8 hown hK hw (by decide) rfl rfl 5 (by decide) lf_43 (fun _ h9 => h9) rfl dX8_takeTree_12 ?_
    refine lv_aload_n hx hb dX8_takeTree_15 rfl (lv_at hl 0 rfl) ?_
    refine x_get (k := 0) (v := .ref (xa X 1)) hx hb hts i_X8 hown hK hw (by decide) rfl rfl 0 (by decide) lf_12 (fun _ h9 => h9) rfl dX8_takeTree_16 ?_
    refine x_getN (k := 1) (v := .int (gI S_2 3)) hx hb hts i_X1 hown hK hw (by decide) rfl rfl 2 (by decide) lf_145 (fun _ h9 => h9) rfl dX8_takeTree_19 ?_
    refine lv_aload_n hx hb dX8_takeTree_22 rfl (lv_at hl 0 rfl) ?_
    refine x_get (k := 0) (v := .ref (xa X 2)) hx hb hts i_X8 hown hK hw (by decide) rfl rfl 1 (by decide) lf_19 (fun _ h9 => h9) rfl dX8_takeTree_23 ?_
    refine x_getN (k := 2) (v := .int (gI S_2 5)) hx hb hts i_X6 hown hK hw (by decide) rfl rfl 0 (by decide) lf_87 (fun _ h9 => h9) rfl dX8_takeTree_26 ?_
    refine lv_iconst (v := 0) hx hb dX8_takeTree_29 (by decide) ?_
    refine z_cl (z_rU (As := [.int (gI S_2 3), .int (gI S_2 5), .int 0]) (rest := [.long p0]) (okX X) hC hw (kX0_count_6 l X S_2 _ (gI S_2 3) (gI S_2 5) 0 _ hf) (va_cwU 3 hts (gU (owner := "GrammarAmbiguity$Counts") (x := ⟨"GrammarAmbiguity$SpanCounts", "count", "(III)J"⟩) q_474 q_475 q_476 q_441 q_66 q_442) rfl rfl rfl rfl (by decide +kernel) ⟨Nat.le_of_ble_eq_true rfl, Nat.le_of_ble_eq_true rfl⟩) (x_recv hK hw (k := 6) (by decide) rfl rfl) rfl hl.1 rfl (Nat.le_of_ble_eq_true rfl) dX8_takeTree_30 ⟨Nat.le_of_ble_eq_true rfl, Nat.le_of_ble_eq_true rfl⟩) hw hi (fun r_4 S_5 H locs hf hw => ?_)
    obtain ⟨hf, rfl⟩ := hf
    refine W.lcmp hx hb dX8_takeTree_33 ?_
    refine lv_if_lt (tgt := 48) hx hb dX8_takeTree_34 (by decide) (fun c_6 => ?_) (fun c_6 => ?_)
    · replace hf := hf.1 c_6
      refine lv_aload_n hx hb dX8_takeTree_48 rfl (lv_at hl 0 rfl) ?_
      refine x_get (k := 0) (v := .ref (xa X 8)) hx hb hts i_X8 hown hK hw (by decide) rfl rfl 7 (by decide) lf_59 (fun _ h9 => h9) rfl dX8_takeTree_49 ?_
      refine lv_iconst (v := 0) hx hb dX8_takeTree_52 (by decide) ?_
      refine x_putN (k := 8) (S' := uI S_2 15 0) (ty := .int) hx hb hts i_X5 tyX5_ok nmX5 hown hK hw (by decide) rfl rfl 3 (by decide) lf_238 (fun _ h9 => h9) rfl (by decide +kernel) rfl rfl (Nat.le_of_ble_eq_true rfl) dX8_takeTree_53 (uX_I15 X S_2 _) (fun H locs hw => ?_)
      obtain ⟨S_7, eS_7⟩ : ∃ z : gS, z = uI S_2 15 0 := ⟨_, rfl⟩
      rw [← eS_7] at hw
      replace hf := hf S_7 eS_7
      refine lv_aload_n hx hb dX8_takeTree_56 rfl (lv_at hl 0 rfl) ?_
      refine x_get (k := 0) (v := .ref (xa X 8)) hx hb hts i_X8 hown hK hw (by decide) rfl rfl 7 (by decide) lf_59 (fun _ h9 => h9) rfl dX8_takeTree_57 ?_
      refine lv_aload_n hx hb dX8_takeTree_60 rfl (lv_at hl 0 rfl) ?_
      refine x_get (k := 0) (v := .ref (xa X 6)) hx hb hts i_X8 hown hK hw (by decide) rfl rfl 5 (by decide) lf_43 (fun _ h9 => h9) rfl dX8_takeTree_61 ?_
      refine lv_aload_n hx hb dX8_takeTree_64 rfl (lv_at hl 0 rfl) ?_
      refine x_get (k := 0) (v := .ref (xa X 1)) hx hb hts i_X8 hown hK hw (by decide) rfl rfl 0 (by decide) lf_12 (fun _ h9 => h9) rfl dX8_takeTree_65 ?_
      refine x_getN (k := 1) (v := .int (gI S_7 3)) hx hb hts i_X1 hown hK hw (by decide) rfl rfl 2 (by decide) lf_145 (fun _ h9 => h9) rfl dX8_takeTree_68 ?_
      refine lv_iconst (v := 0) hx hb dX8_takeTree_71 (by decide) ?_
      refine lv_iconst (v := 0) hx hb dX8_takeTree_72 (by decide) ?_
      refine lv_aload_n hx hb dX8_takeTree_73 rfl (lv_at hl 0 rfl) ?_
      refine x_get (k := 0) (v := .ref (xa X 2)) hx hb hts i_X8 hown hK hw (by decide) rfl rfl 1 (by decide) lf_19 (fun _ h9 => h9) rfl dX8_takeTree_74 ?_
      refine x_getN (k := 2) (v := .int (gI S_7 5)) hx hb hts i_X6 hown hK hw (by decide) rfl rfl 0 (by decide) lf_87 (fun _ h9 => h9) rfl dX8_takeTree_77 ?_
      refine lv_lload_n hx hb dX8_takeTree_80 rfl (lv_at hl 1 rfl) ?_
      refine z_cv (z_rN (As := [.ref (xa X 6), .int (gI S_7 3), .int 0, .int 0, .int (gI S_7 5), .long p0]) (rest := []) (okX X) hC hw (kX5_grow_6 l X 10 S_7 _ (gI S_7 3) 0 0 (gI S_7 5) p0 _ hf) ⟨va_cnB 6 hts (gN q_719) rfl rfl rfl ln_241 (hts _ q_39) (by decide +kernel) ⟨Nat.le_of_ble_eq_true rfl, Nat.le_of_ble_eq_true rfl⟩, hts _ q_717, hts _ q_718⟩ (x_recv hK hw (k := 8) (by decide) rfl rfl) rfl hl.1 rfl (Nat.le_of_ble_eq_true rfl) dX8_takeTree_81 ⟨Nat.le_of_ble_eq_true rfl, Nat.le_of_ble_eq_true rfl⟩) hw hi (fun S_9 H locs hf hw => ?_)
      refine lv_aload_n hx hb dX8_takeTree_84 rfl (lv_at hl 0 rfl) ?_
      refine x_get (k := 0) (v := .ref (xa X 8)) hx hb hts i_X8 hown hK hw (by decide) rfl rfl 7 (by decide) lf_59 (fun _ h9 => h9) rfl dX8_takeTree_85 ?_
      refine lv_lload_n hx hb dX8_takeTree_88 rfl (lv_at hl 1 rfl) ?_
      refine x_putN (k := 8) (S' := uJ S_9 0 p0) (ty := .long) hx hb hts i_X5 tyX5_ok nmX5 hown hK hw (by decide) rfl rfl 2 (by decide) lf_253 (fun _ h9 => h9) rfl (by decide +kernel) rfl rfl (Nat.le_of_ble_eq_true rfl) dX8_takeTree_89 (uX_J0 X S_9 _) (fun H locs hw => ?_)
      obtain ⟨S_10, eS_10⟩ : ∃ z : gS, z = uJ S_9 0 p0 := ⟨_, rfl⟩
      rw [← eS_10] at hw
      replace hf := hf S_10 eS_10
      refine lv_aload_n hx hb dX8_takeTree_92 rfl (lv_at hl 0 rfl) ?_
      refine x_get (k := 0) (v := .ref (xa X 8)) hx hb hts i_X8 hown hK hw (by decide) rfl rfl 7 (by decide) lf_59 (fun _ h9 => h9) rfl dX8_takeTree_93 ?_
      refine lv_iconst (v := 1) hx hb dX8_takeTree_96 (by decide) ?_
      refine x_putN (k := 8) (S' := uI S_10 14 1) (ty := .boolean) hx hb hts i_X5 tyX5_ok nmX5 hown hK hw (by decide) rfl rfl 1 (by decide) lf_148 (fun _ h9 => h9) rfl (by decide +kernel) rfl rfl (Nat.le_of_ble_eq_true rfl) dX8_takeTree_97 (uX_I14 X S_10 _) (fun H locs hw => ?_)
      obtain ⟨S_11, eS_11⟩ : ∃ z : gS, z = uI S_10 14 1 := ⟨_, rfl⟩
      rw [← eS_11] at hw
      replace hf := hf S_11 eS_11
      refine lv_aload_n hx hb dX8_takeTree_100 rfl (lv_at hl 0 rfl) ?_
      refine x_get (k := 0) (v := .ref (xa X 8)) hx hb hts i_X8 hown hK hw (by decide) rfl rfl 7 (by decide) lf_59 (fun _ h9 => h9) rfl dX8_takeTree_101 ?_
      refine x_getN (k := 8) (v := .int (gI S_11 15)) hx hb hts i_X5 hown hK hw (by decide) rfl rfl 3 (by decide) lf_238 (fun _ h9 => h9) rfl dX8_takeTree_104 ?_
      exact hQ _ _ _ _ _ _ _ _ rfl hf hw dX8_takeTree_107 (by decide) (by decide)
    · replace hf := hf.2 c_6
      exact hT "java/util/NoSuchElementException" "the current word has no tree with this number" 198 202 13 257 prog_21_method_4_code S_2 _ _ _ _ [] _ _ ex_N (by decide +kernel) hf hw hl.1 (Nat.le_of_ble_eq_true rfl) (by decide) (by decide) dX8_takeTree_37 dX8_takeTree_40 (Or.inr ⟨dX8_takeTree_41, dX8_takeTree_44, dX8_takeTree_47⟩)
def pX8_treeNumber (S : gS) (Post : Int64 → Prop) (PX : String → gS → Prop) : Prop :=
  (pX8_checkTree  S (Post (gJ S 0)) PX)
def rX8_treeNumber : Room := { frames := 7, cells := 1, slots := 6, locals := 110 }
set_option maxHeartbeats 40000000 in
set_option maxRecDepth 100000 in
theorem kX8_treeNumber (l : Launch) (hlt : l.stackTraces = false) (X : xG) (S : gS) (sz : Nat) (Post : Int64 → Prop) (PX : String → gS → Prop) (hf : pX8_treeNumber S Post PX) : yMl l yX8_treeNumber (Cond.code yX8_treeNumber cX8_treeNumber 1 (some .long) :: WS) rX8_treeNumber X S sz [.ref (xa X 0)] (fun r S' => Post r ∧ S = S') PX 1 6 := by
  refine yMl.of (cc := cX8_treeNumber) (maxL := 1) hlt (by decide) rfl rfl (Nat.le_of_ble_eq_true rfl) (Nat.le_of_ble_eq_true rfl) (Nat.le_of_ble_eq_true rfl) rfl rfl ?_
  intro p e s m args below meth c ls Q hC hQ hT hX hw hl
  obtain ⟨hx, hb, hml, hown, hts, hE, hi⟩ := id hC
  have hK := hE.1
  have hl : lv_has ls 1 [(0, .ref (xa X 0))] := hl
  have lf_59 : (Cond.fieldLink RX8 59 "GrammarAmbiguity" "tree" "LGrammarAmbiguity$Tree;").before args s = true := hts _ q_40
  have lf_253 : va_Nw (.fieldLinkNest RX8 253 "GrammarAmbiguity$Tree" "number" "J" "GrammarAmbiguity") s := hE.2.1 _ (by decide +kernel)
  rw [pX8_treeNumber] at hf
  refine lv_aload_n hx hb dX8_treeNumber_0 rfl (lv_at hl 0 rfl) ?_
  refine y_cv (y_rV (As := []) (rest := []) hC hw (kX8_checkTree l hlt X S _  _ _ hf) (cwV 0 hts (gV q_802 q_803 q_804 q_2 q_805) rfl rfl rfl (by decide +kernel) ⟨Nat.le_of_ble_eq_true rfl, Nat.le_of_ble_eq_true rfl⟩) (x_recv hK hw (k := 0) (by decide) rfl rfl) rfl hl.1 rfl (Nat.le_of_ble_eq_true rfl) dX8_treeNumber_1 ⟨Nat.le_of_ble_eq_true rfl, Nat.le_of_ble_eq_true rfl⟩) hw hi (fun E ce q9 S9 H locs hp hw h1 h2 h3 => hX E ce q9 S9 _ _ _ _ _ _ _ hp hw h1 h2 h3 (by decide) (by decide)) (fun S_1 H locs hf hw => ?_)
  obtain ⟨hf, rfl⟩ := hf
  refine W.widen (k := 1) (n := 6) (by decide) (by decide) ?_
  refine lv_aload_n hx hb dX8_treeNumber_4 rfl (lv_at hl 0 rfl) ?_
  refine x_get (k := 0) (v := .ref (xa X 8)) hx hb hts i_X8 hown hK hw (by decide) rfl rfl 7 (by decide) lf_59 (fun _ h9 => h9) rfl dX8_treeNumber_5 ?_
  refine x_getN (k := 8) (v := .long (gJ S 0)) hx hb hts i_X5 hown hK hw (by decide) rfl rfl 2 (by decide) lf_253 (fun _ h9 => h9) rfl dX8_treeNumber_8 ?_
  exact hQ _ _ _ _ _ _ _ _ ⟨hf, rfl⟩ hw dX8_treeNumber_11 (by decide) (by decide)
def pX8_treeSize (S : gS) (Post : Int32 → Prop) (PX : String → gS → Prop) : Prop :=
  (pX8_checkTree  S (Post (gI S 15)) PX)
def rX8_treeSize : Room := { frames := 7, cells := 1, slots := 6, locals := 110 }
set_option maxHeartbeats 40000000 in
set_option maxRecDepth 100000 in
theorem kX8_treeSize (l : Launch) (hlt : l.stackTraces = false) (X : xG) (S : gS) (sz : Nat) (Post : Int32 → Prop) (PX : String → gS → Prop) (hf : pX8_treeSize S Post PX) : yMi l yX8_treeSize (Cond.code yX8_treeSize cX8_treeSize 1 (some .int) :: WS) rX8_treeSize X S sz [.ref (xa X 0)] (fun r S' => Post r ∧ S = S') PX 1 6 := by
  refine yMi.of (cc := cX8_treeSize) (maxL := 1) hlt (by decide) rfl rfl (Nat.le_of_ble_eq_true rfl) (Nat.le_of_ble_eq_true rfl) (Nat.le_of_ble_eq_true rfl) rfl rfl ?_
  intro p e s m args below meth c ls Q hC hQ hT hX hw hl
  obtain ⟨hx, hb, hml, hown, hts, hE, hi⟩ := id hC
  have hK := hE.1
  have hl : lv_has ls 1 [(0, .ref (xa X 0))] := hl
  have lf_59 : (Cond.fieldLink RX8 59 "GrammarAmbiguity" "tree" "LGrammarAmbiguity$Tree;").before args s = true := hts _ q_40
  have lf_238 : va_Nw (.fieldLinkNest RX8 238 "GrammarAmbiguity$Tree" "size" "I" "GrammarAmbiguity") s := hE.2.1 _ (by decide +kernel)
  rw [pX8_treeSize] at hf
  refine lv_aload_n hx hb dX8_treeSize_0 rfl (lv_at hl 0 rfl) ?_
  refine y_cv (y_rV (As := []) (rest := []) hC hw (kX8_checkTree l hlt X S _  _ _ hf) (cwV 0 hts (gV q_802 q_803 q_804 q_2 q_805) rfl rfl rfl (by decide +kernel) ⟨Nat.le_of_ble_eq_true rfl, Nat.le_of_ble_eq_true rfl⟩) (x_recv hK hw (k := 0) (by decide) rfl rfl) rfl hl.1 rfl (Nat.le_of_ble_eq_true rfl) dX8_treeSize_1 ⟨Nat.le_of_ble_eq_true rfl, Nat.le_of_ble_eq_true rfl⟩) hw hi (fun E ce q9 S9 H locs hp hw h1 h2 h3 => hX E ce q9 S9 _ _ _ _ _ _ _ hp hw h1 h2 h3 (by decide) (by decide)) (fun S_1 H locs hf hw => ?_)
  obtain ⟨hf, rfl⟩ := hf
  refine W.widen (k := 1) (n := 6) (by decide) (by decide) ?_
  refine lv_aload_n hx hb dX8_treeSize_4 rfl (lv_at hl 0 rfl) ?_
  refine x_get (k := 0) (v := .ref (xa X 8)) hx hb hts i_X8 hown hK hw (by decide) rfl rfl 7 (by decide) lf_59 (fun _ h9 => h9) rfl dX8_treeSize_5 ?_
  refine x_getN (k := 8) (v := .int (gI S 15)) hx hb hts i_X5 hown hK hw (by decide) rfl rfl 3 (by decide) lf_238 (fun _ h9 => h9) rfl dX8_treeSize_8 ?_
  exact hQ _ _ _ _ _ _ _ _ rfl ⟨hf, rfl⟩ hw dX8_treeSize_11 (by decide) (by decide)
def pX8_treeNode (p0 : Int32) (p1 : Int32) (S : gS) (Post : Int32 → Prop) (PX : String → gS → Prop) : Prop :=
  (pX8_checkTree  S (((p0 < 0 → PX "java/lang/IndexOutOfBoundsException" S) ∧ (¬ p0 < 0 → ((p0 < (gI S 15) → ((p1 = 0 → (vp_in p0 15 ∧ Post (gA S 21 p0.toNatClampNeg))) ∧ (¬ p1 = 0 → ((p1 = 1 → (vp_in p0 15 ∧ Post (gA S 22 p0.toNatClampNeg))) ∧ (¬ p1 = 1 → ((p1 = 2 → (vp_in p0 15 ∧ Post (gA S 23 p0.toNatClampNeg))) ∧ (¬ p1 = 2 → PX "java/lang/IllegalArgumentException" S))))))) ∧ (¬ p0 < (gI S 15) → PX "java/lang/IndexOutOfBoundsException" S))))) PX)
def rX8_treeNode : Room := { frames := 7, cells := 2, slots := 12, locals := 110 }
set_option maxHeartbeats 40000000 in
set_option maxRecDepth 100000 in
theorem kX8_treeNode (l : Launch) (hlt : l.stackTraces = false) (X : xG) (S : gS) (sz : Nat) (p0 : Int32) (p1 : Int32) (Post : Int32 → Prop) (PX : String → gS → Prop) (hf : pX8_treeNode p0 p1 S Post PX) : yMi l yX8_treeNode (Cond.code yX8_treeNode cX8_treeNode 3 (some .int) :: WS) rX8_treeNode X S sz [.ref (xa X 0), .int p0, .int p1] (fun r S' => Post r ∧ S = S') PX 2 12 := by
  refine yMi.of (cc := cX8_treeNode) (maxL := 3) hlt (by decide) rfl rfl (Nat.le_of_ble_eq_true rfl) (Nat.le_of_ble_eq_true rfl) (Nat.le_of_ble_eq_true rfl) rfl rfl ?_
  intro p e s m args below meth c ls Q hC hQ hT hX hw hl
  obtain ⟨hx, hb, hml, hown, hts, hE, hi⟩ := id hC
  have hK := hE.1
  have hl : lv_has ls 3 [(0, .ref (xa X 0)), (1, .int p0), (2, .int p1)] := hl
  have lf_59 : (Cond.fieldLink RX8 59 "GrammarAmbiguity" "tree" "LGrammarAmbiguity$Tree;").before args s = true := hts _ q_40
  have lf_238 : va_Nw (.fieldLinkNest RX8 238 "GrammarAmbiguity$Tree" "size" "I" "GrammarAmbiguity") s := hE.2.1 _ (by decide +kernel)
  have lf_264 : va_Nw (.fieldLinkNest RX8 264 "GrammarAmbiguity$Tree" "productions" "[I" "GrammarAmbiguity") s := hE.2.1 _ (by decide +kernel)
  have lf_267 : va_Nw (.fieldLinkNest RX8 267 "GrammarAmbiguity$Tree" "begins" "[I" "GrammarAmbiguity") s := hE.2.1 _ (by decide +kernel)
  have lf_270 : va_Nw (.fieldLinkNest RX8 270 "GrammarAmbiguity$Tree" "lengths" "[I" "GrammarAmbiguity") s := hE.2.1 _ (by decide +kernel)
  rw [pX8_treeNode] at hf
  refine lv_aload_n hx hb dX8_treeNode_0 rfl (lv_at hl 0 rfl) ?_
  refine y_cv (y_rV (As := []) (rest := []) hC hw (kX8_checkTree l hlt X S _  _ _ hf) (cwV 0 hts (gV q_802 q_803 q_804 q_2 q_805) rfl rfl rfl (by decide +kernel) ⟨Nat.le_of_ble_eq_true rfl, Nat.le_of_ble_eq_true rfl⟩) (x_recv hK hw (k := 0) (by decide) rfl rfl) rfl hl.1 rfl (Nat.le_of_ble_eq_true rfl) dX8_treeNode_1 ⟨Nat.le_of_ble_eq_true rfl, Nat.le_of_ble_eq_true rfl⟩) hw hi (fun E ce q9 S9 H locs hp hw h1 h2 h3 => hX E ce q9 S9 _ _ _ _ _ _ _ hp hw h1 h2 h3 (by decide) (by decide)) (fun S_1 H locs hf hw => ?_)
  obtain ⟨hf, rfl⟩ := hf
  refine W.widen (k := 1) (n := 6) (by decide) (by decide) ?_
  refine lv_iload_n hx hb dX8_treeNode_4 rfl (lv_at hl 1 rfl) ?_
  refine lv_if_lt (tgt := 19) hx hb dX8_treeNode_5 (by decide) (fun c_2 => ?_) (fun c_2 => ?_)
  · replace hf := hf.1 c_2
    exact hT "java/lang/IndexOutOfBoundsException" "there is no such node" 133 137 7 262 prog_16_method_2_code S _ _ _ _ [] _ _ ex_I (by decide +kernel) hf hw hl.1 (Nat.le_of_ble_eq_true rfl) (by decide) (by decide) dX8_treeNode_19 dX8_treeNode_22 (Or.inr ⟨dX8_treeNode_23, dX8_treeNode_26, dX8_treeNode_29⟩)
  · replace hf := hf.2 c_2
    refine lv_iload_n hx hb dX8_treeNode_8 rfl (lv_at hl 1 rfl) ?_
    refine lv_aload_n hx hb dX8_treeNode_9 rfl (lv_at hl 0 rfl) ?_
    refine x_get (k := 0) (v := .ref (xa X 8)) hx hb hts i_X8 hown hK hw (by decide) rfl rfl 7 (by decide) lf_59 (fun _ h9 => h9) rfl dX8_treeNode_10 ?_
    refine x_getN (k := 8) (v := .int (gI S 15)) hx hb hts i_X5 hown hK hw (by decide) rfl rfl 3 (by decide) lf_238 (fun _ h9 => h9) rfl dX8_treeNode_13 ?_
    refine lv_icmp_lt (tgt := 30) hx hb dX8_treeNode_16 (by decide) (fun c_3 => ?_) (fun c_3 => ?_)
    · replace hf := hf.1 c_3
      refine lv_iload_n hx hb dX8_treeNode_30 rfl (lv_at hl 2 rfl) ?_
      by_cases c_4 : p1 = 0
      · replace hf := hf.1 c_4
        refine lv_tableIn (off := 25) (tgt := 56) hx hb dX8_treeNode_31 (by rw [c_4]; decide) (by rw [c_4]; decide) (by rw [c_4]; rfl) (by decide) ?_
        refine lv_aload_n hx hb dX8_treeNode_56 rfl (lv_at hl 0 rfl) ?_
        refine x_get (k := 0) (v := .ref (xa X 8)) hx hb hts i_X8 hown hK hw (by decide) rfl rfl 7 (by decide) lf_59 (fun _ h9 => h9) rfl dX8_treeNode_57 ?_
        refine x_getN (k := 8) (v := .ref (xa X 21)) hx hb hts i_X5 hown hK hw (by decide) rfl rfl 4 (by decide) lf_264 (fun _ h9 => h9) rfl dX8_treeNode_60 ?_
        refine lv_iload_n hx hb dX8_treeNode_63 rfl (lv_at hl 1 rfl) ?_
        refine x_ild (n := 15) hx hb hK hw (by decide) rfl rfl hf.1 dX8_treeNode_64 ?_
        replace hf := hf.2
        exact hQ _ _ _ _ _ _ _ _ rfl ⟨hf, rfl⟩ hw dX8_treeNode_65 (by decide) (by decide)
      · replace hf := hf.2 c_4
        by_cases c_5 : p1 = 1
        · replace hf := hf.1 c_5
          refine lv_tableIn (off := 35) (tgt := 66) hx hb dX8_treeNode_31 (by rw [c_5]; decide) (by rw [c_5]; decide) (by rw [c_5]; rfl) (by decide) ?_
          refine lv_aload_n hx hb dX8_treeNode_66 rfl (lv_at hl 0 rfl) ?_
          refine x_get (k := 0) (v := .ref (xa X 8)) hx hb hts i_X8 hown hK hw (by decide) rfl rfl 7 (by decide) lf_59 (fun _ h9 => h9) rfl dX8_treeNode_67 ?_
          refine x_getN (k := 8) (v := .ref (xa X 22)) hx hb hts i_X5 hown hK hw (by decide) rfl rfl 5 (by decide) lf_267 (fun _ h9 => h9) rfl dX8_treeNode_70 ?_
          refine lv_iload_n hx hb dX8_treeNode_73 rfl (lv_at hl 1 rfl) ?_
          refine x_ild (n := 15) hx hb hK hw (by decide) rfl rfl hf.1 dX8_treeNode_74 ?_
          replace hf := hf.2
          exact hQ _ _ _ _ _ _ _ _ rfl ⟨hf, rfl⟩ hw dX8_treeNode_75 (by decide) (by decide)
        · replace hf := hf.2 c_5
          by_cases c_6 : p1 = 2
          · replace hf := hf.1 c_6
            refine lv_tableIn (off := 45) (tgt := 76) hx hb dX8_treeNode_31 (by rw [c_6]; decide) (by rw [c_6]; decide) (by rw [c_6]; rfl) (by decide) ?_
            refine lv_aload_n hx hb dX8_treeNode_76 rfl (lv_at hl 0 rfl) ?_
            refine x_get (k := 0) (v := .ref (xa X 8)) hx hb hts i_X8 hown hK hw (by decide) rfl rfl 7 (by decide) lf_59 (fun _ h9 => h9) rfl dX8_treeNode_77 ?_
            refine x_getN (k := 8) (v := .ref (xa X 23)) hx hb hts i_X5 hown hK hw (by decide) rfl rfl 6 (by decide) lf_270 (fun _ h9 => h9) rfl dX8_treeNode_80 ?_
            refine lv_iload_n hx hb dX8_treeNode_83 rfl (lv_at hl 1 rfl) ?_
            refine x_ild (n := 15) hx hb hK hw (by decide) rfl rfl hf.1 dX8_treeNode_84 ?_
            replace hf := hf.2
            exact hQ _ _ _ _ _ _ _ _ rfl ⟨hf, rfl⟩ hw dX8_treeNode_85 (by decide) (by decide)
          · replace hf := hf.2 c_6
            refine lv_tableOut (tgt := 86) hx hb dX8_treeNode_31 (sw_out3 c_4 c_5 c_6) (by decide) ?_
            exact hT "java/lang/IllegalArgumentException" "what is not from 0 to 2" 74 78 7 272 prog_14_method_2_code S _ _ _ _ [] _ _ ex_A (by decide +kernel) hf hw hl.1 (Nat.le_of_ble_eq_true rfl) (by decide) (by decide) dX8_treeNode_86 dX8_treeNode_89 (Or.inr ⟨dX8_treeNode_90, dX8_treeNode_93, dX8_treeNode_96⟩)
    · replace hf := hf.2 c_3
      exact hT "java/lang/IndexOutOfBoundsException" "there is no such node" 133 137 7 262 prog_16_method_2_code S _ _ _ _ [] _ _ ex_I (by decide +kernel) hf hw hl.1 (Nat.le_of_ble_eq_true rfl) (by decide) (by decide) dX8_treeNode_19 dX8_treeNode_22 (Or.inr ⟨dX8_treeNode_23, dX8_treeNode_26, dX8_treeNode_29⟩)
