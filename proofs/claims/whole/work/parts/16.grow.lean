/-! Printed by wip/whole/gen: what each method asks (p..), and its contract under that (k..). -/
def rX5_grow_5 (d : Nat) : Room := { frames := 8 + 1 * d, cells := 0, slots := 0, locals := 400 + 60 * d }
def fX5_grow_5 (B : Int32 → Int32 → Int32 → Int32 → Int64 → gS → (gS → Prop) → Prop) (p0 : Int32) (p1 : Int32) (p2 : Int32) (p3 : Int32) (p4 : Int64) (S : gS) (Post : gS → Prop) : Prop :=
  (∀ x8_1 : Int32, x8_1 = gI S 15 → (pX1_isNonterminal p0 S (fun r_2 => ((r_2 = 0 → Post S) ∧ (¬ r_2 = 0 → ((p3 < 1 → Post S) ∧ (¬ p3 < 1 → ((x8_1 < 0 → Post S) ∧ (¬ x8_1 < 0 → ((x8_1 < 15 → (∀ S_8 : gS, S_8 = uI S 15 ((gI S 15) + 1) → (vp_in x8_1 15 ∧ (∀ S_9 : gS, S_9 = uA S_8 22 x8_1.toNatClampNeg p2 → (vp_in x8_1 15 ∧ (∀ S_10 : gS, S_10 = uA S_9 23 x8_1.toNatClampNeg p3 → (pX5_choose_5 p0 p1 x8_1 p4 S_10 (fun r_11 S_12 => (vp_in x8_1 15 ∧ (∀ x11_13 : Int32, x11_13 = gA S_12 21 x8_1.toNatClampNeg → (vp_in x8_1 15 ∧ (∀ x12_14 : Int32, x12_14 = gA S_12 24 x8_1.toNatClampNeg → (vp_in x8_1 15 ∧ (∀ x13_15 : Int32, x13_15 = gA S_12 25 x8_1.toNatClampNeg → (∀ x14_16 : Int32, x14_16 = ((p3 - x12_14) - x13_15) → (pX2_part p1 x12_14 S_12 (fun r_17 => (pX2_part p1 (x12_14 + x13_15) S_12 (fun r_19 => (pX1_symbol x11_13 2 S_12 (fun r_21 => (pX1_symbol x11_13 3 S_12 (fun r_23 => (pX0_count_5 r_21 x13_15 r_17 S_12 (fun r_25 => (∀ x19_27 : Int64, x19_27 = (if r_25 < 1 then 1 else r_25) → (pX0_count_5 r_23 x14_16 r_19 S_12 (fun r_28 => (∀ x21_30 : Int64, x21_30 = (if r_28 < 1 then 1 else r_28) → (pX1_symbol x11_13 1 S_12 (fun r_31 => (pX2_part p1 0 S_12 (fun r_33 => (¬ x21_30 = 0 ∧ (¬ x19_27 = 0 ∧ (B r_31 r_33 p2 x12_14 ((r_11 / x21_30) / x19_27) S_12 (fun S_36 => (¬ x21_30 = 0 ∧ (¬ x19_27 = 0 ∧ (B r_21 r_17 (p2 + x12_14) x13_15 ((r_11 / x21_30) - (r_11 / x21_30) / x19_27 * x19_27) S_36 (fun S_38 => (¬ x21_30 = 0 ∧ (B r_23 r_19 ((p2 + x12_14) + x13_15) x14_16 (r_11 - r_11 / x21_30 * x21_30) S_38 (fun S_40 => Post S_40)))))))))))))))))))))))))))))))))))))))))))) ∧ (¬ x8_1 < 15 → Post S)))))))))))
set_option maxHeartbeats 40000000 in
set_option maxRecDepth 100000 in
theorem sX5_grow_5 (l : Launch) (X : xG) (d : Nat) (B : Int32 → Int32 → Int32 → Int32 → Int64 → gS → (gS → Prop) → Prop) (ih : ∀ (S : gS) (sz : Nat) (p0 : Int32) (p1 : Int32) (p2 : Int32) (p3 : Int32) (p4 : Int64) (Post : gS → Prop), B p0 p1 p2 p3 p4 S Post → xMv l yX5_grow (Cond.code yX5_grow cX5_grow 23 none :: WS) (rX5_grow_5 d) 34 X (cX X) (eX X) S sz [.ref (xa X 8), .ref (xa X 5), .int p0, .int p1, .int p2, .int p3, .long p4] Post) (S : gS) (sz : Nat) (p0 : Int32) (p1 : Int32) (p2 : Int32) (p3 : Int32) (p4 : Int64) (Post : gS → Prop) (hf : fX5_grow_5 B p0 p1 p2 p3 p4 S Post) : xMv l yX5_grow (Cond.code yX5_grow cX5_grow 23 none :: WS) (rX5_grow_5 (d + 1)) 34 X (cX X) (eX X) S sz [.ref (xa X 8), .ref (xa X 5), .int p0, .int p1, .int p2, .int p3, .long p4] Post := by
  refine xMv.of (cc := cX5_grow) (maxL := 23) (own := RX5) (by decide) rfl rfl (Nat.le_of_ble_eq_true rfl) ?_
  intro p e s m args below meth c ls Q hC hQ hw hl
  obtain ⟨hx, hb, hml, hown, hts, hE, hi⟩ := id hC
  have hK := hE.1
  have hl : lv_has ls 23 [(0, .ref (xa X 8)), (1, .ref (xa X 5)), (2, .int p0), (3, .int p1), (4, .int p2), (5, .int p3), (6, .long p4)] := hl
  have lf_23 : (Cond.fieldLink RX5 23 "GrammarAmbiguity$Tree" "size" "I").before args s = true := hts _ q_88
  have lf_9 : (Cond.fieldLink RX5 9 "GrammarAmbiguity$Tree" "grammar" "LGrammarAmbiguity$Grammar;").before args s = true := hts _ q_85
  have ln_50 : va_Nw (.methodLinkNest RX5 50 yX1_isNonterminal "GrammarAmbiguity") s := hE.2.1 _ (by decide +kernel)
  have lf_31 : (Cond.fieldLink RX5 31 "GrammarAmbiguity$Tree" "begins" "[I").before args s = true := hts _ q_90
  have lf_34 : (Cond.fieldLink RX5 34 "GrammarAmbiguity$Tree" "lengths" "[I").before args s = true := hts _ q_91
  have lf_27 : (Cond.fieldLink RX5 27 "GrammarAmbiguity$Tree" "productions" "[I").before args s = true := hts _ q_89
  have lf_37 : (Cond.fieldLink RX5 37 "GrammarAmbiguity$Tree" "firsts" "[I").before args s = true := hts _ q_92
  have lf_40 : (Cond.fieldLink RX5 40 "GrammarAmbiguity$Tree" "seconds" "[I").before args s = true := hts _ q_93
  have lz_part : va_Nw (.declares ⟨"GrammarAmbiguity$Counts", "part", "(II)I"⟩) s := hE.2.1 _ (by decide +kernel)
  have ln_66 : va_Nw (.methodLinkNest RX5 66 yX1_symbol "GrammarAmbiguity") s := hE.2.1 _ (by decide +kernel)
  have lm_73 : (Cond.methodLink RX5 73 Lib.MathLoose.max_long.x).before args s = true := hts _ q_720
  have lms_73 : (Cond.static Lib.MathLoose.max_long.x).before args s = true := hts _ q_721
  have lmi : (Cond.initialized "java/lang/Math").before args s = true := hts _ q_410
  have lmc_73 : (Cond.code Lib.MathLoose.max_long.x Lib.MathLoose.max_long.code 4 (some .long)).before args s = true := hts _ q_722
  rw [fX5_grow_5] at hf
  refine lv_aload_n hx hb dX5_grow_0 rfl (lv_at hl 0 rfl) ?_
  refine x_get (k := 8) (v := .int (gI S 15)) hx hb hts i_X5 hown hK hw (by decide) rfl rfl 3 (by decide) lf_23 (fun _ h9 => h9) rfl dX5_grow_1 ?_
  refine lv_topi (fun x8_1 ex8_1 => ?_)
  replace hf := hf x8_1 ex8_1
  refine lv_istore (lv' := [(8, .int x8_1), (0, .ref (xa X 8)), (1, .ref (xa X 5)), (2, .int p0), (3, .int p1), (4, .int p2), (5, .int p3), (6, .long p4)]) hx hb dX5_grow_4 hl (by decide) rfl (fun ls hl => ?_)
  refine lv_aload_n hx hb dX5_grow_6 rfl (lv_at hl 1 rfl) ?_
  refine x_get (k := 8) (v := .ref (xa X 1)) hx hb hts i_X5 hown hK hw (by decide) rfl rfl 0 (by decide) lf_9 (fun _ h9 => h9) rfl dX5_grow_7 ?_
  refine lv_iload_n hx hb dX5_grow_10 rfl (lv_at hl 3 rfl) ?_
  refine x_ci (x_rN (As := [.int p0]) (rest := []) (okX X) hC hw (kX1_isNonterminal l X S _ p0 _ hf) ⟨va_cnB 1 hts (gN q_183) rfl rfl rfl ln_50 (hts _ q_17) (by decide +kernel) ⟨by simp only [rX5_grow_5, rX1_isNonterminal]; omega, by simp only [rX5_grow_5, rX1_isNonterminal]; omega⟩, hts _ q_181, hts _ q_182⟩ (x_recv hK hw (k := 1) (by decide) rfl rfl) rfl hl.1 rfl (Nat.le_of_ble_eq_true rfl) dX5_grow_11) hw hi (fun r_2 S_3 H locs hf hw => ?_)
  obtain ⟨hf, rfl⟩ := hf
  refine lv_if_eq (tgt := 35) hx hb dX5_grow_14 (by decide) (fun c_4 => ?_) (fun c_4 => ?_)
  · replace hf := hf.1 c_4
    exact hQ _ _ _ _ _ hf hw dX5_grow_35
  · replace hf := hf.2 c_4
    refine lv_iload hx hb dX5_grow_17 (lv_at hl 6 rfl) ?_
    refine lv_iconst (v := 1) hx hb dX5_grow_19 (by decide) ?_
    refine lv_icmp_lt (tgt := 35) hx hb dX5_grow_20 (by decide) (fun c_5 => ?_) (fun c_5 => ?_)
    · replace hf := hf.1 c_5
      exact hQ _ _ _ _ _ hf hw dX5_grow_35
    · replace hf := hf.2 c_5
      refine lv_iload hx hb dX5_grow_23 (lv_at hl 0 rfl) ?_
      refine lv_if_lt (tgt := 35) hx hb dX5_grow_25 (by decide) (fun c_6 => ?_) (fun c_6 => ?_)
      · replace hf := hf.1 c_6
        exact hQ _ _ _ _ _ hf hw dX5_grow_35
      · replace hf := hf.2 c_6
        refine lv_iload hx hb dX5_grow_28 (lv_at hl 0 rfl) ?_
        refine lv_bipush (v := 15) hx hb dX5_grow_30 (by decide) ?_
        refine lv_icmp_lt (tgt := 36) hx hb dX5_grow_32 (by decide) (fun c_7 => ?_) (fun c_7 => ?_)
        · replace hf := hf.1 c_7
          refine lv_aload_n hx hb dX5_grow_36 rfl (lv_at hl 1 rfl) ?_
          refine lv_dup hx hb dX5_grow_37 rfl ?_
          refine x_get (k := 8) (v := .int (gI S 15)) hx hb hts i_X5 hown hK hw (by decide) rfl rfl 3 (by decide) lf_23 (fun _ h9 => h9) rfl dX5_grow_38 ?_
          refine lv_iconst (v := 1) hx hb dX5_grow_41 (by decide) ?_
          refine lv_iadd hx hb dX5_grow_42 ?_
          refine x_put (k := 8) (S' := uI S 15 ((gI S 15) + 1)) (ty := .int) hx hb hts i_X5 tyX5_ok nmX5 hown hK hw (by decide) rfl rfl 3 (by decide) lf_23 (fun _ h9 => h9) rfl (by decide +kernel) rfl rfl (Nat.le_of_ble_eq_true rfl) dX5_grow_43 (uX_I15 X S _) (fun H locs hw => ?_)
          obtain ⟨S_8, eS_8⟩ : ∃ z : gS, z = uI S 15 ((gI S 15) + 1) := ⟨_, rfl⟩
          rw [← eS_8] at hw
          replace hf := hf S_8 eS_8
          refine lv_aload_n hx hb dX5_grow_46 rfl (lv_at hl 1 rfl) ?_
          refine x_get (k := 8) (v := .ref (xa X 22)) hx hb hts i_X5 hown hK hw (by decide) rfl rfl 5 (by decide) lf_31 (fun _ h9 => h9) rfl dX5_grow_47 ?_
          refine lv_iload hx hb dX5_grow_50 (lv_at hl 0 rfl) ?_
          refine lv_iload hx hb dX5_grow_52 (lv_at hl 5 rfl) ?_
          refine x_ist (n := 15) hx hb hK hw (by decide) rfl rfl hf.1 dX5_grow_54 (uX_A22 X S_8 _ _) (fun H locs hw => ?_)
          replace hf := hf.2
          obtain ⟨S_9, eS_9⟩ : ∃ z : gS, z = uA S_8 22 x8_1.toNatClampNeg p2 := ⟨_, rfl⟩
          rw [← eS_9] at hw
          replace hf := hf S_9 eS_9
          refine lv_aload_n hx hb dX5_grow_55 rfl (lv_at hl 1 rfl) ?_
          refine x_get (k := 8) (v := .ref (xa X 23)) hx hb hts i_X5 hown hK hw (by decide) rfl rfl 6 (by decide) lf_34 (fun _ h9 => h9) rfl dX5_grow_56 ?_
          refine lv_iload hx hb dX5_grow_59 (lv_at hl 0 rfl) ?_
          refine lv_iload hx hb dX5_grow_61 (lv_at hl 6 rfl) ?_
          refine x_ist (n := 15) hx hb hK hw (by decide) rfl rfl hf.1 dX5_grow_63 (uX_A23 X S_9 _ _) (fun H locs hw => ?_)
          replace hf := hf.2
          obtain ⟨S_10, eS_10⟩ : ∃ z : gS, z = uA S_9 23 x8_1.toNatClampNeg p3 := ⟨_, rfl⟩
          rw [← eS_10] at hw
          replace hf := hf S_10 eS_10
          refine lv_aload_n hx hb dX5_grow_64 rfl (lv_at hl 1 rfl) ?_
          refine lv_aload_n hx hb dX5_grow_65 rfl (lv_at hl 2 rfl) ?_
          refine lv_iload_n hx hb dX5_grow_66 rfl (lv_at hl 3 rfl) ?_
          refine lv_iload_n hx hb dX5_grow_67 rfl (lv_at hl 4 rfl) ?_
          refine lv_iload hx hb dX5_grow_68 (lv_at hl 0 rfl) ?_
          refine lv_lload hx hb dX5_grow_70 (lv_at hl 7 rfl) ?_
          refine x_cl (x_rV (As := [.ref (xa X 5), .int p0, .int p1, .int x8_1, .long p4]) (rest := []) (okX X) hC hw (kX5_choose_5 l X S_10 _ p0 p1 x8_1 p4 _ hf) (cwV 5 hts (gV q_723 q_724 q_725 q_39 q_726) rfl rfl rfl (by decide +kernel) ⟨by simp only [rX5_grow_5, rX5_choose_5]; omega, by simp only [rX5_grow_5, rX5_choose_5]; omega⟩) (x_recv hK hw (k := 8) (by decide) rfl rfl) rfl hl.1 rfl (Nat.le_of_ble_eq_true rfl) dX5_grow_72) hw hi (fun r_11 S_12 H locs hf hw => ?_)
          refine lv_lstore (lv' := [(9, .long r_11), (8, .int x8_1), (0, .ref (xa X 8)), (1, .ref (xa X 5)), (2, .int p0), (3, .int p1), (4, .int p2), (5, .int p3), (6, .long p4)]) hx hb dX5_grow_75 hl (by decide) rfl (fun ls hl => ?_)
          refine lv_aload_n hx hb dX5_grow_77 rfl (lv_at hl 2 rfl) ?_
          refine x_get (k := 8) (v := .ref (xa X 21)) hx hb hts i_X5 hown hK hw (by decide) rfl rfl 4 (by decide) lf_27 (fun _ h9 => h9) rfl dX5_grow_78 ?_
          refine lv_iload hx hb dX5_grow_81 (lv_at hl 1 rfl) ?_
          refine x_ild (n := 15) hx hb hK hw (by decide) rfl rfl hf.1 dX5_grow_83 ?_
          replace hf := hf.2
          refine lv_topi (fun x11_13 ex11_13 => ?_)
          replace hf := hf x11_13 ex11_13
          refine lv_istore (lv' := [(11, .int x11_13), (9, .long r_11), (8, .int x8_1), (0, .ref (xa X 8)), (1, .ref (xa X 5)), (2, .int p0), (3, .int p1), (4, .int p2), (5, .int p3), (6, .long p4)]) hx hb dX5_grow_84 hl (by decide) rfl (fun ls hl => ?_)
          refine lv_aload_n hx hb dX5_grow_86 rfl (lv_at hl 3 rfl) ?_
          refine x_get (k := 8) (v := .ref (xa X 24)) hx hb hts i_X5 hown hK hw (by decide) rfl rfl 7 (by decide) lf_37 (fun _ h9 => h9) rfl dX5_grow_87 ?_
          refine lv_iload hx hb dX5_grow_90 (lv_at hl 2 rfl) ?_
          refine x_ild (n := 15) hx hb hK hw (by decide) rfl rfl hf.1 dX5_grow_92 ?_
          replace hf := hf.2
          refine lv_topi (fun x12_14 ex12_14 => ?_)
          replace hf := hf x12_14 ex12_14
          refine lv_istore (lv' := [(12, .int x12_14), (11, .int x11_13), (9, .long r_11), (8, .int x8_1), (0, .ref (xa X 8)), (1, .ref (xa X 5)), (2, .int p0), (3, .int p1), (4, .int p2), (5, .int p3), (6, .long p4)]) hx hb dX5_grow_93 hl (by decide) rfl (fun ls hl => ?_)
          refine lv_aload_n hx hb dX5_grow_95 rfl (lv_at hl 4 rfl) ?_
          refine x_get (k := 8) (v := .ref (xa X 25)) hx hb hts i_X5 hown hK hw (by decide) rfl rfl 8 (by decide) lf_40 (fun _ h9 => h9) rfl dX5_grow_96 ?_
          refine lv_iload hx hb dX5_grow_99 (lv_at hl 3 rfl) ?_
          refine x_ild (n := 15) hx hb hK hw (by decide) rfl rfl hf.1 dX5_grow_101 ?_
          replace hf := hf.2
          refine lv_topi (fun x13_15 ex13_15 => ?_)
          replace hf := hf x13_15 ex13_15
          refine lv_istore (lv' := [(13, .int x13_15), (12, .int x12_14), (11, .int x11_13), (9, .long r_11), (8, .int x8_1), (0, .ref (xa X 8)), (1, .ref (xa X 5)), (2, .int p0), (3, .int p1), (4, .int p2), (5, .int p3), (6, .long p4)]) hx hb dX5_grow_102 hl (by decide) rfl (fun ls hl => ?_)
          refine lv_iload hx hb dX5_grow_104 (lv_at hl 10 rfl) ?_
          refine lv_iload hx hb dX5_grow_106 (lv_at hl 1 rfl) ?_
          refine lv_isub hx hb dX5_grow_108 ?_
          refine lv_iload hx hb dX5_grow_109 (lv_at hl 0 rfl) ?_
          refine lv_isub hx hb dX5_grow_111 ?_
          refine lv_topi (fun x14_16 ex14_16 => ?_)
          replace hf := hf x14_16 ex14_16
          refine lv_istore (lv' := [(14, .int x14_16), (13, .int x13_15), (12, .int x12_14), (11, .int x11_13), (9, .long r_11), (8, .int x8_1), (0, .ref (xa X 8)), (1, .ref (xa X 5)), (2, .int p0), (3, .int p1), (4, .int p2), (5, .int p3), (6, .long p4)]) hx hb dX5_grow_112 hl (by decide) rfl (fun ls hl => ?_)
          refine lv_aload_n hx hb dX5_grow_114 rfl (lv_at hl 7 rfl) ?_
          refine lv_iload_n hx hb dX5_grow_115 rfl (lv_at hl 9 rfl) ?_
          refine lv_iload hx hb dX5_grow_116 (lv_at hl 2 rfl) ?_
          refine x_ci (x_rU (As := [.int p1, .int x12_14]) (rest := []) (okX X) hC hw (kX2_part l X S_12 _ p1 x12_14 _ hf) (va_cwA 2 hts (gU (owner := "GrammarAmbiguity$Counts") (x := ⟨"GrammarAmbiguity$Counts", "part", "(II)I"⟩) q_733 q_431 q_432 q_433 q_27 q_434) rfl rfl rfl lz_part (by decide +kernel) ⟨by simp only [rX5_grow_5, rX2_part]; omega, by simp only [rX5_grow_5, rX2_part]; omega⟩) (x_recv hK hw (k := 5) (by decide) rfl rfl) rfl hl.1 rfl (Nat.le_of_ble_eq_true rfl) dX5_grow_118) hw hi (fun r_17 S_18 H locs hf hw => ?_)
          obtain ⟨hf, rfl⟩ := hf
          refine lv_istore (lv' := [(15, .int r_17), (14, .int x14_16), (13, .int x13_15), (12, .int x12_14), (11, .int x11_13), (9, .long r_11), (8, .int x8_1), (0, .ref (xa X 8)), (1, .ref (xa X 5)), (2, .int p0), (3, .int p1), (4, .int p2), (5, .int p3), (6, .long p4)]) hx hb dX5_grow_121 hl (by decide) rfl (fun ls hl => ?_)
          refine lv_aload_n hx hb dX5_grow_123 rfl (lv_at hl 8 rfl) ?_
          refine lv_iload_n hx hb dX5_grow_124 rfl (lv_at hl 10 rfl) ?_
          refine lv_iload hx hb dX5_grow_125 (lv_at hl 3 rfl) ?_
          refine lv_iload hx hb dX5_grow_127 (lv_at hl 2 rfl) ?_
          refine lv_iadd hx hb dX5_grow_129 ?_
          refine x_ci (x_rU (As := [.int p1, .int (x12_14 + x13_15)]) (rest := []) (okX X) hC hw (kX2_part l X S_12 _ p1 (x12_14 + x13_15) _ hf) (va_cwA 2 hts (gU (owner := "GrammarAmbiguity$Counts") (x := ⟨"GrammarAmbiguity$Counts", "part", "(II)I"⟩) q_733 q_431 q_432 q_433 q_27 q_434) rfl rfl rfl lz_part (by decide +kernel) ⟨by simp only [rX5_grow_5, rX2_part]; omega, by simp only [rX5_grow_5, rX2_part]; omega⟩) (x_recv hK hw (k := 5) (by decide) rfl rfl) rfl hl.1 rfl (Nat.le_of_ble_eq_true rfl) dX5_grow_130) hw hi (fun r_19 S_20 H locs hf hw => ?_)
          obtain ⟨hf, rfl⟩ := hf
          refine lv_istore (lv' := [(16, .int r_19), (15, .int r_17), (14, .int x14_16), (13, .int x13_15), (12, .int x12_14), (11, .int x11_13), (9, .long r_11), (8, .int x8_1), (0, .ref (xa X 8)), (1, .ref (xa X 5)), (2, .int p0), (3, .int p1), (4, .int p2), (5, .int p3), (6, .long p4)]) hx hb dX5_grow_133 hl (by decide) rfl (fun ls hl => ?_)
          refine lv_aload_n hx hb dX5_grow_135 rfl (lv_at hl 8 rfl) ?_
          refine x_get (k := 8) (v := .ref (xa X 1)) hx hb hts i_X5 hown hK hw (by decide) rfl rfl 0 (by decide) lf_9 (fun _ h9 => h9) rfl dX5_grow_136 ?_
          refine lv_iload hx hb dX5_grow_139 (lv_at hl 5 rfl) ?_
          refine lv_iconst (v := 2) hx hb dX5_grow_141 (by decide) ?_
          refine x_ci (x_rN (As := [.int x11_13, .int 2]) (rest := []) (okX X) hC hw (kX1_symbol l X S_12 _ x11_13 2 _ hf) ⟨va_cnB 2 hts (gN q_202) rfl rfl rfl ln_66 (hts _ q_17) (by decide +kernel) ⟨by simp only [rX5_grow_5, rX1_symbol]; omega, by simp only [rX5_grow_5, rX1_symbol]; omega⟩, hts _ q_200, hts _ q_201⟩ (x_recv hK hw (k := 1) (by decide) rfl rfl) rfl hl.1 rfl (Nat.le_of_ble_eq_true rfl) dX5_grow_142) hw hi (fun r_21 S_22 H locs hf hw => ?_)
          obtain ⟨hf, rfl⟩ := hf
          refine lv_istore (lv' := [(17, .int r_21), (16, .int r_19), (15, .int r_17), (14, .int x14_16), (13, .int x13_15), (12, .int x12_14), (11, .int x11_13), (9, .long r_11), (8, .int x8_1), (0, .ref (xa X 8)), (1, .ref (xa X 5)), (2, .int p0), (3, .int p1), (4, .int p2), (5, .int p3), (6, .long p4)]) hx hb dX5_grow_145 hl (by decide) rfl (fun ls hl => ?_)
          refine lv_aload_n hx hb dX5_grow_147 rfl (lv_at hl 9 rfl) ?_
          refine x_get (k := 8) (v := .ref (xa X 1)) hx hb hts i_X5 hown hK hw (by decide) rfl rfl 0 (by decide) lf_9 (fun _ h9 => h9) rfl dX5_grow_148 ?_
          refine lv_iload hx hb dX5_grow_151 (lv_at hl 6 rfl) ?_
          refine lv_iconst (v := 3) hx hb dX5_grow_153 (by decide) ?_
          refine x_ci (x_rN (As := [.int x11_13, .int 3]) (rest := []) (okX X) hC hw (kX1_symbol l X S_12 _ x11_13 3 _ hf) ⟨va_cnB 2 hts (gN q_202) rfl rfl rfl ln_66 (hts _ q_17) (by decide +kernel) ⟨by simp only [rX5_grow_5, rX1_symbol]; omega, by simp only [rX5_grow_5, rX1_symbol]; omega⟩, hts _ q_200, hts _ q_201⟩ (x_recv hK hw (k := 1) (by decide) rfl rfl) rfl hl.1 rfl (Nat.le_of_ble_eq_true rfl) dX5_grow_154) hw hi (fun r_23 S_24 H locs hf hw => ?_)
          obtain ⟨hf, rfl⟩ := hf
          refine lv_istore (lv' := [(18, .int r_23), (17, .int r_21), (16, .int r_19), (15, .int r_17), (14, .int x14_16), (13, .int x13_15), (12, .int x12_14), (11, .int x11_13), (9, .long r_11), (8, .int x8_1), (0, .ref (xa X 8)), (1, .ref (xa X 5)), (2, .int p0), (3, .int p1), (4, .int p2), (5, .int p3), (6, .long p4)]) hx hb dX5_grow_157 hl (by decide) rfl (fun ls hl => ?_)
          refine lv_lconst (v := 1) hx hb dX5_grow_159 (by decide) ?_
          refine lv_aload_n hx hb dX5_grow_160 rfl (lv_at hl 11 rfl) ?_
          refine lv_iload hx hb dX5_grow_161 (lv_at hl 1 rfl) ?_
          refine lv_iload hx hb dX5_grow_163 (lv_at hl 5 rfl) ?_
          refine lv_iload hx hb dX5_grow_165 (lv_at hl 3 rfl) ?_
          refine x_cl (x_rU (As := [.int r_21, .int x13_15, .int r_17]) (rest := [.long 1]) (okX X) hC hw (kX0_count_5 l X S_12 _ r_21 x13_15 r_17 _ hf) (va_cwU 3 hts (gU (owner := "GrammarAmbiguity$Counts") (x := ⟨"GrammarAmbiguity$Counts", "count", "(III)J"⟩) q_734 q_439 q_440 q_441 q_66 q_442) rfl rfl rfl rfl (by decide +kernel) ⟨by simp only [rX5_grow_5, rX0_count_5]; omega, by simp only [rX5_grow_5, rX0_count_5]; omega⟩) (x_recv hK hw (k := 5) (by decide) rfl rfl) rfl hl.1 rfl (Nat.le_of_ble_eq_true rfl) dX5_grow_167) hw hi (fun r_25 S_26 H locs hf hw => ?_)
          obtain ⟨hf, rfl⟩ := hf
          refine va_mmax_long hx hb (hml.trans hl.1.symm) hown lm_73 lms_73 lmi lmc_73 (by simp only [rX5_grow_5]; (try simp only [List.map, List.sum_cons, List.sum_nil, Value.category]); omega) (by simp only [rX5_grow_5]; (try simp only [List.map, List.sum_cons, List.sum_nil, Value.category]); omega) (Nat.zero_le _) (Nat.zero_le _) dX5_grow_170 ?_
          refine lv_topl (fun x19_27 ex19_27 => ?_)
          replace hf := hf x19_27 ex19_27
          refine lv_lstore (lv' := [(19, .long x19_27), (18, .int r_23), (17, .int r_21), (16, .int r_19), (15, .int r_17), (14, .int x14_16), (13, .int x13_15), (12, .int x12_14), (11, .int x11_13), (9, .long r_11), (8, .int x8_1), (0, .ref (xa X 8)), (1, .ref (xa X 5)), (2, .int p0), (3, .int p1), (4, .int p2), (5, .int p3), (6, .long p4)]) hx hb dX5_grow_173 hl (by decide) rfl (fun ls hl => ?_)
          refine lv_lconst (v := 1) hx hb dX5_grow_175 (by decide) ?_
          refine lv_aload_n hx hb dX5_grow_176 rfl (lv_at hl 12 rfl) ?_
          refine lv_iload hx hb dX5_grow_177 (lv_at hl 1 rfl) ?_
          refine lv_iload hx hb dX5_grow_179 (lv_at hl 5 rfl) ?_
          refine lv_iload hx hb dX5_grow_181 (lv_at hl 3 rfl) ?_
          refine x_cl (x_rU (As := [.int r_23, .int x14_16, .int r_19]) (rest := [.long 1]) (okX X) hC hw (kX0_count_5 l X S_12 _ r_23 x14_16 r_19 _ hf) (va_cwU 3 hts (gU (owner := "GrammarAmbiguity$Counts") (x := ⟨"GrammarAmbiguity$Counts", "count", "(III)J"⟩) q_734 q_439 q_440 q_441 q_66 q_442) rfl rfl rfl rfl (by decide +kernel) ⟨by simp only [rX5_grow_5, rX0_count_5]; omega, by simp only [rX5_grow_5, rX0_count_5]; omega⟩) (x_recv hK hw (k := 5) (by decide) rfl rfl) rfl hl.1 rfl (Nat.le_of_ble_eq_true rfl) dX5_grow_183) hw hi (fun r_28 S_29 H locs hf hw => ?_)
          obtain ⟨hf, rfl⟩ := hf
          refine va_mmax_long hx hb (hml.trans hl.1.symm) hown lm_73 lms_73 lmi lmc_73 (by simp only [rX5_grow_5]; (try simp only [List.map, List.sum_cons, List.sum_nil, Value.category]); omega) (by simp only [rX5_grow_5]; (try simp only [List.map, List.sum_cons, List.sum_nil, Value.category]); omega) (Nat.zero_le _) (Nat.zero_le _) dX5_grow_186 ?_
          refine lv_topl (fun x21_30 ex21_30 => ?_)
          replace hf := hf x21_30 ex21_30
          refine lv_lstore (lv' := [(21, .long x21_30), (19, .long x19_27), (18, .int r_23), (17, .int r_21), (16, .int r_19), (15, .int r_17), (14, .int x14_16), (13, .int x13_15), (12, .int x12_14), (11, .int x11_13), (9, .long r_11), (8, .int x8_1), (0, .ref (xa X 8)), (1, .ref (xa X 5)), (2, .int p0), (3, .int p1), (4, .int p2), (5, .int p3), (6, .long p4)]) hx hb dX5_grow_189 hl (by decide) rfl (fun ls hl => ?_)
          refine lv_aload_n hx hb dX5_grow_191 rfl (lv_at hl 12 rfl) ?_
          refine lv_aload_n hx hb dX5_grow_192 rfl (lv_at hl 13 rfl) ?_
          refine lv_aload_n hx hb dX5_grow_193 rfl (lv_at hl 12 rfl) ?_
          refine x_get (k := 8) (v := .ref (xa X 1)) hx hb hts i_X5 hown hK hw (by decide) rfl rfl 0 (by decide) lf_9 (fun _ h9 => h9) rfl dX5_grow_194 ?_
          refine lv_iload hx hb dX5_grow_197 (lv_at hl 9 rfl) ?_
          refine lv_iconst (v := 1) hx hb dX5_grow_199 (by decide) ?_
          refine x_ci (x_rN (As := [.int x11_13, .int 1]) (rest := [.ref (xa X 5), .ref (xa X 8)]) (okX X) hC hw (kX1_symbol l X S_12 _ x11_13 1 _ hf) ⟨va_cnB 2 hts (gN q_202) rfl rfl rfl ln_66 (hts _ q_17) (by decide +kernel) ⟨by simp only [rX5_grow_5, rX1_symbol]; omega, by simp only [rX5_grow_5, rX1_symbol]; omega⟩, hts _ q_200, hts _ q_201⟩ (x_recv hK hw (k := 1) (by decide) rfl rfl) rfl hl.1 rfl (Nat.le_of_ble_eq_true rfl) dX5_grow_200) hw hi (fun r_31 S_32 H locs hf hw => ?_)
          obtain ⟨hf, rfl⟩ := hf
          refine lv_aload_n hx hb dX5_grow_203 rfl (lv_at hl 13 rfl) ?_
          refine lv_iload_n hx hb dX5_grow_204 rfl (lv_at hl 15 rfl) ?_
          refine lv_iconst (v := 0) hx hb dX5_grow_205 (by decide) ?_
          refine x_ci (x_rU (As := [.int p1, .int 0]) (rest := [.int r_31, .ref (xa X 5), .ref (xa X 8)]) (okX X) hC hw (kX2_part l X S_12 _ p1 0 _ hf) (va_cwA 2 hts (gU (owner := "GrammarAmbiguity$Counts") (x := ⟨"GrammarAmbiguity$Counts", "part", "(II)I"⟩) q_733 q_431 q_432 q_433 q_27 q_434) rfl rfl rfl lz_part (by decide +kernel) ⟨by simp only [rX5_grow_5, rX2_part]; omega, by simp only [rX5_grow_5, rX2_part]; omega⟩) (x_recv hK hw (k := 5) (by decide) rfl rfl) rfl hl.1 rfl (Nat.le_of_ble_eq_true rfl) dX5_grow_206) hw hi (fun r_33 S_34 H locs hf hw => ?_)
          obtain ⟨hf, rfl⟩ := hf
          refine lv_iload hx hb dX5_grow_209 (lv_at hl 16 rfl) ?_
          refine lv_iload hx hb dX5_grow_211 (lv_at hl 8 rfl) ?_
          refine lv_lload hx hb dX5_grow_213 (lv_at hl 10 rfl) ?_
          refine lv_lload hx hb dX5_grow_215 (lv_at hl 0 rfl) ?_
          refine lv_ldiv hx hb dX5_grow_217 hf.1 ?_
          replace hf := hf.2
          refine lv_lload hx hb dX5_grow_218 (lv_at hl 1 rfl) ?_
          refine lv_ldiv hx hb dX5_grow_220 hf.1 ?_
          replace hf := hf.2
          refine x_cv (x_rV (As := [.ref (xa X 5), .int r_31, .int r_33, .int p2, .int x12_14, .long ((r_11 / x21_30) / x19_27)]) (rest := []) (okX X) hC hw (ih S_12 _ r_31 r_33 p2 x12_14 ((r_11 / x21_30) / x19_27) _ hf) (cwV 6 hts (gV q_735 q_717 q_718 q_39 q_719) rfl rfl rfl (by decide +kernel) ⟨by simp only [rX5_grow_5]; omega, by simp only [rX5_grow_5]; omega⟩) (x_recv hK hw (k := 8) (by decide) rfl rfl) rfl hl.1 rfl (Nat.le_of_ble_eq_true rfl) dX5_grow_221) hw hi (fun S_36 H locs hf hw => ?_)
          refine lv_aload_n hx hb dX5_grow_224 rfl (lv_at hl 12 rfl) ?_
          refine lv_aload_n hx hb dX5_grow_225 rfl (lv_at hl 13 rfl) ?_
          refine lv_iload hx hb dX5_grow_226 (lv_at hl 3 rfl) ?_
          refine lv_iload hx hb dX5_grow_228 (lv_at hl 5 rfl) ?_
          refine lv_iload hx hb dX5_grow_230 (lv_at hl 16 rfl) ?_
          refine lv_iload hx hb dX5_grow_232 (lv_at hl 8 rfl) ?_
          refine lv_iadd hx hb dX5_grow_234 ?_
          refine lv_iload hx hb dX5_grow_235 (lv_at hl 7 rfl) ?_
          refine lv_lload hx hb dX5_grow_237 (lv_at hl 10 rfl) ?_
          refine lv_lload hx hb dX5_grow_239 (lv_at hl 0 rfl) ?_
          refine lv_ldiv hx hb dX5_grow_241 hf.1 ?_
          replace hf := hf.2
          refine lv_lload hx hb dX5_grow_242 (lv_at hl 1 rfl) ?_
          refine lv_lrem hx hb dX5_grow_244 hf.1 ?_
          replace hf := hf.2
          refine x_cv (x_rV (As := [.ref (xa X 5), .int r_21, .int r_17, .int (p2 + x12_14), .int x13_15, .long ((r_11 / x21_30) - (r_11 / x21_30) / x19_27 * x19_27)]) (rest := []) (okX X) hC hw (ih S_36 _ r_21 r_17 (p2 + x12_14) x13_15 ((r_11 / x21_30) - (r_11 / x21_30) / x19_27 * x19_27) _ hf) (cwV 6 hts (gV q_735 q_717 q_718 q_39 q_719) rfl rfl rfl (by decide +kernel) ⟨by simp only [rX5_grow_5]; omega, by simp only [rX5_grow_5]; omega⟩) (x_recv hK hw (k := 8) (by decide) rfl rfl) rfl hl.1 rfl (Nat.le_of_ble_eq_true rfl) dX5_grow_245) hw hi (fun S_38 H locs hf hw => ?_)
          refine lv_aload_n hx hb dX5_grow_248 rfl (lv_at hl 12 rfl) ?_
          refine lv_aload_n hx hb dX5_grow_249 rfl (lv_at hl 13 rfl) ?_
          refine lv_iload hx hb dX5_grow_250 (lv_at hl 2 rfl) ?_
          refine lv_iload hx hb dX5_grow_252 (lv_at hl 4 rfl) ?_
          refine lv_iload hx hb dX5_grow_254 (lv_at hl 16 rfl) ?_
          refine lv_iload hx hb dX5_grow_256 (lv_at hl 8 rfl) ?_
          refine lv_iadd hx hb dX5_grow_258 ?_
          refine lv_iload hx hb dX5_grow_259 (lv_at hl 7 rfl) ?_
          refine lv_iadd hx hb dX5_grow_261 ?_
          refine lv_iload hx hb dX5_grow_262 (lv_at hl 6 rfl) ?_
          refine lv_lload hx hb dX5_grow_264 (lv_at hl 10 rfl) ?_
          refine lv_lload hx hb dX5_grow_266 (lv_at hl 0 rfl) ?_
          refine lv_lrem hx hb dX5_grow_268 hf.1 ?_
          replace hf := hf.2
          refine x_cv (x_rV (As := [.ref (xa X 5), .int r_23, .int r_19, .int ((p2 + x12_14) + x13_15), .int x14_16, .long (r_11 - r_11 / x21_30 * x21_30)]) (rest := []) (okX X) hC hw (ih S_38 _ r_23 r_19 ((p2 + x12_14) + x13_15) x14_16 (r_11 - r_11 / x21_30 * x21_30) _ hf) (cwV 6 hts (gV q_735 q_717 q_718 q_39 q_719) rfl rfl rfl (by decide +kernel) ⟨by simp only [rX5_grow_5]; omega, by simp only [rX5_grow_5]; omega⟩) (x_recv hK hw (k := 8) (by decide) rfl rfl) rfl hl.1 rfl (Nat.le_of_ble_eq_true rfl) dX5_grow_269) hw hi (fun S_40 H locs hf hw => ?_)
          exact hQ _ _ _ _ _ hf hw dX5_grow_272
        · replace hf := hf.2 c_7
          exact hQ _ _ _ _ _ hf hw dX5_grow_35
def pX5_grow_5 : Nat → Int32 → Int32 → Int32 → Int32 → Int64 → gS → (gS → Prop) → Prop
  | 0 => fun _ _ _ _ _ _ _ => False
  | d + 1 => fX5_grow_5 (pX5_grow_5 d)
theorem kX5_grow_5 (l : Launch) (X : xG) : ∀ (d : Nat) (S : gS) (sz : Nat) (p0 : Int32) (p1 : Int32) (p2 : Int32) (p3 : Int32) (p4 : Int64) (Post : gS → Prop), pX5_grow_5 d p0 p1 p2 p3 p4 S Post → xMv l yX5_grow (Cond.code yX5_grow cX5_grow 23 none :: WS) (rX5_grow_5 d) 34 X (cX X) (eX X) S sz [.ref (xa X 8), .ref (xa X 5), .int p0, .int p1, .int p2, .int p3, .long p4] Post
  | 0 => fun _ _ _ _ _ _ _ _ hf => hf.elim
  | d + 1 => fun S sz p0 p1 p2 p3 p4 Post hf => sX5_grow_5 l X d (pX5_grow_5 d) (kX5_grow_5 l X d) S sz p0 p1 p2 p3 p4 Post hf
def rX5_grow_6 (d : Nat) : Room := { frames := 8 + 1 * d, cells := 0, slots := 0, locals := 400 + 60 * d }
def fX5_grow_6 (B : Int32 → Int32 → Int32 → Int32 → Int64 → gS → (gS → Prop) → Prop) (p0 : Int32) (p1 : Int32) (p2 : Int32) (p3 : Int32) (p4 : Int64) (S : gS) (Post : gS → Prop) : Prop :=
  (∀ x8_1 : Int32, x8_1 = gI S 15 → (pX1_isNonterminal p0 S (fun r_2 => ((r_2 = 0 → Post S) ∧ (¬ r_2 = 0 → ((p3 < 1 → Post S) ∧ (¬ p3 < 1 → ((x8_1 < 0 → Post S) ∧ (¬ x8_1 < 0 → ((x8_1 < 15 → (∀ S_8 : gS, S_8 = uI S 15 ((gI S 15) + 1) → (vp_in x8_1 15 ∧ (∀ S_9 : gS, S_9 = uA S_8 22 x8_1.toNatClampNeg p2 → (vp_in x8_1 15 ∧ (∀ S_10 : gS, S_10 = uA S_9 23 x8_1.toNatClampNeg p3 → (pX5_choose_6 p0 p1 x8_1 p4 S_10 (fun r_11 S_12 => (vp_in x8_1 15 ∧ (∀ x11_13 : Int32, x11_13 = gA S_12 21 x8_1.toNatClampNeg → (vp_in x8_1 15 ∧ (∀ x12_14 : Int32, x12_14 = gA S_12 24 x8_1.toNatClampNeg → (vp_in x8_1 15 ∧ (∀ x13_15 : Int32, x13_15 = gA S_12 25 x8_1.toNatClampNeg → (∀ x14_16 : Int32, x14_16 = ((p3 - x12_14) - x13_15) → (pX4_part p1 x12_14 S_12 (fun r_17 => (pX4_part p1 (x12_14 + x13_15) S_12 (fun r_19 => (pX1_symbol x11_13 2 S_12 (fun r_21 => (pX1_symbol x11_13 3 S_12 (fun r_23 => (pX0_count_6 r_21 x13_15 r_17 S_12 (fun r_25 => (∀ x19_27 : Int64, x19_27 = (if r_25 < 1 then 1 else r_25) → (pX0_count_6 r_23 x14_16 r_19 S_12 (fun r_28 => (∀ x21_30 : Int64, x21_30 = (if r_28 < 1 then 1 else r_28) → (pX1_symbol x11_13 1 S_12 (fun r_31 => (pX4_part p1 0 S_12 (fun r_33 => (¬ x21_30 = 0 ∧ (¬ x19_27 = 0 ∧ (B r_31 r_33 p2 x12_14 ((r_11 / x21_30) / x19_27) S_12 (fun S_36 => (¬ x21_30 = 0 ∧ (¬ x19_27 = 0 ∧ (B r_21 r_17 (p2 + x12_14) x13_15 ((r_11 / x21_30) - (r_11 / x21_30) / x19_27 * x19_27) S_36 (fun S_38 => (¬ x21_30 = 0 ∧ (B r_23 r_19 ((p2 + x12_14) + x13_15) x14_16 (r_11 - r_11 / x21_30 * x21_30) S_38 (fun S_40 => Post S_40)))))))))))))))))))))))))))))))))))))))))))) ∧ (¬ x8_1 < 15 → Post S)))))))))))
set_option maxHeartbeats 40000000 in
set_option maxRecDepth 100000 in
theorem sX5_grow_6 (l : Launch) (X : xG) (d : Nat) (B : Int32 → Int32 → Int32 → Int32 → Int64 → gS → (gS → Prop) → Prop) (ih : ∀ (S : gS) (sz : Nat) (p0 : Int32) (p1 : Int32) (p2 : Int32) (p3 : Int32) (p4 : Int64) (Post : gS → Prop), B p0 p1 p2 p3 p4 S Post → xMv l yX5_grow (Cond.code yX5_grow cX5_grow 23 none :: WS) (rX5_grow_6 d) 34 X (cX X) (eX X) S sz [.ref (xa X 8), .ref (xa X 6), .int p0, .int p1, .int p2, .int p3, .long p4] Post) (S : gS) (sz : Nat) (p0 : Int32) (p1 : Int32) (p2 : Int32) (p3 : Int32) (p4 : Int64) (Post : gS → Prop) (hf : fX5_grow_6 B p0 p1 p2 p3 p4 S Post) : xMv l yX5_grow (Cond.code yX5_grow cX5_grow 23 none :: WS) (rX5_grow_6 (d + 1)) 34 X (cX X) (eX X) S sz [.ref (xa X 8), .ref (xa X 6), .int p0, .int p1, .int p2, .int p3, .long p4] Post := by
  refine xMv.of (cc := cX5_grow) (maxL := 23) (own := RX5) (by decide) rfl rfl (Nat.le_of_ble_eq_true rfl) ?_
  intro p e s m args below meth c ls Q hC hQ hw hl
  obtain ⟨hx, hb, hml, hown, hts, hE, hi⟩ := id hC
  have hK := hE.1
  have hl : lv_has ls 23 [(0, .ref (xa X 8)), (1, .ref (xa X 6)), (2, .int p0), (3, .int p1), (4, .int p2), (5, .int p3), (6, .long p4)] := hl
  have lf_23 : (Cond.fieldLink RX5 23 "GrammarAmbiguity$Tree" "size" "I").before args s = true := hts _ q_88
  have lf_9 : (Cond.fieldLink RX5 9 "GrammarAmbiguity$Tree" "grammar" "LGrammarAmbiguity$Grammar;").before args s = true := hts _ q_85
  have ln_50 : va_Nw (.methodLinkNest RX5 50 yX1_isNonterminal "GrammarAmbiguity") s := hE.2.1 _ (by decide +kernel)
  have lf_31 : (Cond.fieldLink RX5 31 "GrammarAmbiguity$Tree" "begins" "[I").before args s = true := hts _ q_90
  have lf_34 : (Cond.fieldLink RX5 34 "GrammarAmbiguity$Tree" "lengths" "[I").before args s = true := hts _ q_91
  have lf_27 : (Cond.fieldLink RX5 27 "GrammarAmbiguity$Tree" "productions" "[I").before args s = true := hts _ q_89
  have lf_37 : (Cond.fieldLink RX5 37 "GrammarAmbiguity$Tree" "firsts" "[I").before args s = true := hts _ q_92
  have lf_40 : (Cond.fieldLink RX5 40 "GrammarAmbiguity$Tree" "seconds" "[I").before args s = true := hts _ q_93
  have lz_part : va_Nw (.declares ⟨"GrammarAmbiguity$Counts", "part", "(II)I"⟩) s := hE.2.1 _ (by decide +kernel)
  have ln_66 : va_Nw (.methodLinkNest RX5 66 yX1_symbol "GrammarAmbiguity") s := hE.2.1 _ (by decide +kernel)
  have lm_73 : (Cond.methodLink RX5 73 Lib.MathLoose.max_long.x).before args s = true := hts _ q_720
  have lms_73 : (Cond.static Lib.MathLoose.max_long.x).before args s = true := hts _ q_721
  have lmi : (Cond.initialized "java/lang/Math").before args s = true := hts _ q_410
  have lmc_73 : (Cond.code Lib.MathLoose.max_long.x Lib.MathLoose.max_long.code 4 (some .long)).before args s = true := hts _ q_722
  rw [fX5_grow_6] at hf
  refine lv_aload_n hx hb dX5_grow_0 rfl (lv_at hl 0 rfl) ?_
  refine x_get (k := 8) (v := .int (gI S 15)) hx hb hts i_X5 hown hK hw (by decide) rfl rfl 3 (by decide) lf_23 (fun _ h9 => h9) rfl dX5_grow_1 ?_
  refine lv_topi (fun x8_1 ex8_1 => ?_)
  replace hf := hf x8_1 ex8_1
  refine lv_istore (lv' := [(8, .int x8_1), (0, .ref (xa X 8)), (1, .ref (xa X 6)), (2, .int p0), (3, .int p1), (4, .int p2), (5, .int p3), (6, .long p4)]) hx hb dX5_grow_4 hl (by decide) rfl (fun ls hl => ?_)
  refine lv_aload_n hx hb dX5_grow_6 rfl (lv_at hl 1 rfl) ?_
  refine x_get (k := 8) (v := .ref (xa X 1)) hx hb hts i_X5 hown hK hw (by decide) rfl rfl 0 (by decide) lf_9 (fun _ h9 => h9) rfl dX5_grow_7 ?_
  refine lv_iload_n hx hb dX5_grow_10 rfl (lv_at hl 3 rfl) ?_
  refine x_ci (x_rN (As := [.int p0]) (rest := []) (okX X) hC hw (kX1_isNonterminal l X S _ p0 _ hf) ⟨va_cnB 1 hts (gN q_183) rfl rfl rfl ln_50 (hts _ q_17) (by decide +kernel) ⟨by simp only [rX5_grow_6, rX1_isNonterminal]; omega, by simp only [rX5_grow_6, rX1_isNonterminal]; omega⟩, hts _ q_181, hts _ q_182⟩ (x_recv hK hw (k := 1) (by decide) rfl rfl) rfl hl.1 rfl (Nat.le_of_ble_eq_true rfl) dX5_grow_11) hw hi (fun r_2 S_3 H locs hf hw => ?_)
  obtain ⟨hf, rfl⟩ := hf
  refine lv_if_eq (tgt := 35) hx hb dX5_grow_14 (by decide) (fun c_4 => ?_) (fun c_4 => ?_)
  · replace hf := hf.1 c_4
    exact hQ _ _ _ _ _ hf hw dX5_grow_35
  · replace hf := hf.2 c_4
    refine lv_iload hx hb dX5_grow_17 (lv_at hl 6 rfl) ?_
    refine lv_iconst (v := 1) hx hb dX5_grow_19 (by decide) ?_
    refine lv_icmp_lt (tgt := 35) hx hb dX5_grow_20 (by decide) (fun c_5 => ?_) (fun c_5 => ?_)
    · replace hf := hf.1 c_5
      exact hQ _ _ _ _ _ hf hw dX5_grow_35
    · replace hf := hf.2 c_5
      refine lv_iload hx hb dX5_grow_23 (lv_at hl 0 rfl) ?_
      refine lv_if_lt (tgt := 35) hx hb dX5_grow_25 (by decide) (fun c_6 => ?_) (fun c_6 => ?_)
      · replace hf := hf.1 c_6
        exact hQ _ _ _ _ _ hf hw dX5_grow_35
      · replace hf := hf.2 c_6
        refine lv_iload hx hb dX5_grow_28 (lv_at hl 0 rfl) ?_
        refine lv_bipush (v := 15) hx hb dX5_grow_30 (by decide) ?_
        refine lv_icmp_lt (tgt := 36) hx hb dX5_grow_32 (by decide) (fun c_7 => ?_) (fun c_7 => ?_)
        · replace hf := hf.1 c_7
          refine lv_aload_n hx hb dX5_grow_36 rfl (lv_at hl 1 rfl) ?_
          refine lv_dup hx hb dX5_grow_37 rfl ?_
          refine x_get (k := 8) (v := .int (gI S 15)) hx hb hts i_X5 hown hK hw (by decide) rfl rfl 3 (by decide) lf_23 (fun _ h9 => h9) rfl dX5_grow_38 ?_
          refine lv_iconst (v := 1) hx hb dX5_grow_41 (by decide) ?_
          refine lv_iadd hx hb dX5_grow_42 ?_
          refine x_put (k := 8) (S' := uI S 15 ((gI S 15) + 1)) (ty := .int) hx hb hts i_X5 tyX5_ok nmX5 hown hK hw (by decide) rfl rfl 3 (by decide) lf_23 (fun _ h9 => h9) rfl (by decide +kernel) rfl rfl (Nat.le_of_ble_eq_true rfl) dX5_grow_43 (uX_I15 X S _) (fun H locs hw => ?_)
          obtain ⟨S_8, eS_8⟩ : ∃ z : gS, z = uI S 15 ((gI S 15) + 1) := ⟨_, rfl⟩
          rw [← eS_8] at hw
          replace hf := hf S_8 eS_8
          refine lv_aload_n hx hb dX5_grow_46 rfl (lv_at hl 1 rfl) ?_
          refine x_get (k := 8) (v := .ref (xa X 22)) hx hb hts i_X5 hown hK hw (by decide) rfl rfl 5 (by decide) lf_31 (fun _ h9 => h9) rfl dX5_grow_47 ?_
          refine lv_iload hx hb dX5_grow_50 (lv_at hl 0 rfl) ?_
          refine lv_iload hx hb dX5_grow_52 (lv_at hl 5 rfl) ?_
          refine x_ist (n := 15) hx hb hK hw (by decide) rfl rfl hf.1 dX5_grow_54 (uX_A22 X S_8 _ _) (fun H locs hw => ?_)
          replace hf := hf.2
          obtain ⟨S_9, eS_9⟩ : ∃ z : gS, z = uA S_8 22 x8_1.toNatClampNeg p2 := ⟨_, rfl⟩
          rw [← eS_9] at hw
          replace hf := hf S_9 eS_9
          refine lv_aload_n hx hb dX5_grow_55 rfl (lv_at hl 1 rfl) ?_
          refine x_get (k := 8) (v := .ref (xa X 23)) hx hb hts i_X5 hown hK hw (by decide) rfl rfl 6 (by decide) lf_34 (fun _ h9 => h9) rfl dX5_grow_56 ?_
          refine lv_iload hx hb dX5_grow_59 (lv_at hl 0 rfl) ?_
          refine lv_iload hx hb dX5_grow_61 (lv_at hl 6 rfl) ?_
          refine x_ist (n := 15) hx hb hK hw (by decide) rfl rfl hf.1 dX5_grow_63 (uX_A23 X S_9 _ _) (fun H locs hw => ?_)
          replace hf := hf.2
          obtain ⟨S_10, eS_10⟩ : ∃ z : gS, z = uA S_9 23 x8_1.toNatClampNeg p3 := ⟨_, rfl⟩
          rw [← eS_10] at hw
          replace hf := hf S_10 eS_10
          refine lv_aload_n hx hb dX5_grow_64 rfl (lv_at hl 1 rfl) ?_
          refine lv_aload_n hx hb dX5_grow_65 rfl (lv_at hl 2 rfl) ?_
          refine lv_iload_n hx hb dX5_grow_66 rfl (lv_at hl 3 rfl) ?_
          refine lv_iload_n hx hb dX5_grow_67 rfl (lv_at hl 4 rfl) ?_
          refine lv_iload hx hb dX5_grow_68 (lv_at hl 0 rfl) ?_
          refine lv_lload hx hb dX5_grow_70 (lv_at hl 7 rfl) ?_
          refine x_cl (x_rV (As := [.ref (xa X 6), .int p0, .int p1, .int x8_1, .long p4]) (rest := []) (okX X) hC hw (kX5_choose_6 l X S_10 _ p0 p1 x8_1 p4 _ hf) (cwV 5 hts (gV q_723 q_724 q_725 q_39 q_726) rfl rfl rfl (by decide +kernel) ⟨by simp only [rX5_grow_6, rX5_choose_6]; omega, by simp only [rX5_grow_6, rX5_choose_6]; omega⟩) (x_recv hK hw (k := 8) (by decide) rfl rfl) rfl hl.1 rfl (Nat.le_of_ble_eq_true rfl) dX5_grow_72) hw hi (fun r_11 S_12 H locs hf hw => ?_)
          refine lv_lstore (lv' := [(9, .long r_11), (8, .int x8_1), (0, .ref (xa X 8)), (1, .ref (xa X 6)), (2, .int p0), (3, .int p1), (4, .int p2), (5, .int p3), (6, .long p4)]) hx hb dX5_grow_75 hl (by decide) rfl (fun ls hl => ?_)
          refine lv_aload_n hx hb dX5_grow_77 rfl (lv_at hl 2 rfl) ?_
          refine x_get (k := 8) (v := .ref (xa X 21)) hx hb hts i_X5 hown hK hw (by decide) rfl rfl 4 (by decide) lf_27 (fun _ h9 => h9) rfl dX5_grow_78 ?_
          refine lv_iload hx hb dX5_grow_81 (lv_at hl 1 rfl) ?_
          refine x_ild (n := 15) hx hb hK hw (by decide) rfl rfl hf.1 dX5_grow_83 ?_
          replace hf := hf.2
          refine lv_topi (fun x11_13 ex11_13 => ?_)
          replace hf := hf x11_13 ex11_13
          refine lv_istore (lv' := [(11, .int x11_13), (9, .long r_11), (8, .int x8_1), (0, .ref (xa X 8)), (1, .ref (xa X 6)), (2, .int p0), (3, .int p1), (4, .int p2), (5, .int p3), (6, .long p4)]) hx hb dX5_grow_84 hl (by decide) rfl (fun ls hl => ?_)
          refine lv_aload_n hx hb dX5_grow_86 rfl (lv_at hl 3 rfl) ?_
          refine x_get (k := 8) (v := .ref (xa X 24)) hx hb hts i_X5 hown hK hw (by decide) rfl rfl 7 (by decide) lf_37 (fun _ h9 => h9) rfl dX5_grow_87 ?_
          refine lv_iload hx hb dX5_grow_90 (lv_at hl 2 rfl) ?_
          refine x_ild (n := 15) hx hb hK hw (by decide) rfl rfl hf.1 dX5_grow_92 ?_
          replace hf := hf.2
          refine lv_topi (fun x12_14 ex12_14 => ?_)
          replace hf := hf x12_14 ex12_14
          refine lv_istore (lv' := [(12, .int x12_14), (11, .int x11_13), (9, .long r_11), (8, .int x8_1), (0, .ref (xa X 8)), (1, .ref (xa X 6)), (2, .int p0), (3, .int p1), (4, .int p2), (5, .int p3), (6, .long p4)]) hx hb dX5_grow_93 hl (by decide) rfl (fun ls hl => ?_)
          refine lv_aload_n hx hb dX5_grow_95 rfl (lv_at hl 4 rfl) ?_
          refine x_get (k := 8) (v := .ref (xa X 25)) hx hb hts i_X5 hown hK hw (by decide) rfl rfl 8 (by decide) lf_40 (fun _ h9 => h9) rfl dX5_grow_96 ?_
          refine lv_iload hx hb dX5_grow_99 (lv_at hl 3 rfl) ?_
          refine x_ild (n := 15) hx hb hK hw (by decide) rfl rfl hf.1 dX5_grow_101 ?_
          replace hf := hf.2
          refine lv_topi (fun x13_15 ex13_15 => ?_)
          replace hf := hf x13_15 ex13_15
          refine lv_istore (lv' := [(13, .int x13_15), (12, .int x12_14), (11, .int x11_13), (9, .long r_11), (8, .int x8_1), (0, .ref (xa X 8)), (1, .ref (xa X 6)), (2, .int p0), (3, .int p1), (4, .int p2), (5, .int p3), (6, .long p4)]) hx hb dX5_grow_102 hl (by decide) rfl (fun ls hl => ?_)
          refine lv_iload hx hb dX5_grow_104 (lv_at hl 10 rfl) ?_
          refine lv_iload hx hb dX5_grow_106 (lv_at hl 1 rfl) ?_
          refine lv_isub hx hb dX5_grow_108 ?_
          refine lv_iload hx hb dX5_grow_109 (lv_at hl 0 rfl) ?_
          refine lv_isub hx hb dX5_grow_111 ?_
          refine lv_topi (fun x14_16 ex14_16 => ?_)
          replace hf := hf x14_16 ex14_16
          refine lv_istore (lv' := [(14, .int x14_16), (13, .int x13_15), (12, .int x12_14), (11, .int x11_13), (9, .long r_11), (8, .int x8_1), (0, .ref (xa X 8)), (1, .ref (xa X 6)), (2, .int p0), (3, .int p1), (4, .int p2), (5, .int p3), (6, .long p4)]) hx hb dX5_grow_112 hl (by decide) rfl (fun ls hl => ?_)
          refine lv_aload_n hx hb dX5_grow_114 rfl (lv_at hl 7 rfl) ?_
          refine lv_iload_n hx hb dX5_grow_115 rfl (lv_at hl 9 rfl) ?_
          refine lv_iload hx hb dX5_grow_116 (lv_at hl 2 rfl) ?_
          refine x_ci (x_rU (As := [.int p1, .int x12_14]) (rest := []) (okX X) hC hw (kX4_part l X S_12 _ p1 x12_14 _ hf) (va_cwA 2 hts (gU (owner := "GrammarAmbiguity$Counts") (x := ⟨"GrammarAmbiguity$Counts", "part", "(II)I"⟩) q_733 q_431 q_435 q_436 q_31 q_437) rfl rfl rfl lz_part (by decide +kernel) ⟨by simp only [rX5_grow_6, rX4_part]; omega, by simp only [rX5_grow_6, rX4_part]; omega⟩) (x_recv hK hw (k := 6) (by decide) rfl rfl) rfl hl.1 rfl (Nat.le_of_ble_eq_true rfl) dX5_grow_118) hw hi (fun r_17 S_18 H locs hf hw => ?_)
          obtain ⟨hf, rfl⟩ := hf
          refine lv_istore (lv' := [(15, .int r_17), (14, .int x14_16), (13, .int x13_15), (12, .int x12_14), (11, .int x11_13), (9, .long r_11), (8, .int x8_1), (0, .ref (xa X 8)), (1, .ref (xa X 6)), (2, .int p0), (3, .int p1), (4, .int p2), (5, .int p3), (6, .long p4)]) hx hb dX5_grow_121 hl (by decide) rfl (fun ls hl => ?_)
          refine lv_aload_n hx hb dX5_grow_123 rfl (lv_at hl 8 rfl) ?_
          refine lv_iload_n hx hb dX5_grow_124 rfl (lv_at hl 10 rfl) ?_
          refine lv_iload hx hb dX5_grow_125 (lv_at hl 3 rfl) ?_
          refine lv_iload hx hb dX5_grow_127 (lv_at hl 2 rfl) ?_
          refine lv_iadd hx hb dX5_grow_129 ?_
          refine x_ci (x_rU (As := [.int p1, .int (x12_14 + x13_15)]) (rest := []) (okX X) hC hw (kX4_part l X S_12 _ p1 (x12_14 + x13_15) _ hf) (va_cwA 2 hts (gU (owner := "GrammarAmbiguity$Counts") (x := ⟨"GrammarAmbiguity$Counts", "part", "(II)I"⟩) q_733 q_431 q_435 q_436 q_31 q_437) rfl rfl rfl lz_part (by decide +kernel) ⟨by simp only [rX5_grow_6, rX4_part]; omega, by simp only [rX5_grow_6, rX4_part]; omega⟩) (x_recv hK hw (k := 6) (by decide) rfl rfl) rfl hl.1 rfl (Nat.le_of_ble_eq_true rfl) dX5_grow_130) hw hi (fun r_19 S_20 H locs hf hw => ?_)
          obtain ⟨hf, rfl⟩ := hf
          refine lv_istore (lv' := [(16, .int r_19), (15, .int r_17), (14, .int x14_16), (13, .int x13_15), (12, .int x12_14), (11, .int x11_13), (9, .long r_11), (8, .int x8_1), (0, .ref (xa X 8)), (1, .ref (xa X 6)), (2, .int p0), (3, .int p1), (4, .int p2), (5, .int p3), (6, .long p4)]) hx hb dX5_grow_133 hl (by decide) rfl (fun ls hl => ?_)
          refine lv_aload_n hx hb dX5_grow_135 rfl (lv_at hl 8 rfl) ?_
          refine x_get (k := 8) (v := .ref (xa X 1)) hx hb hts i_X5 hown hK hw (by decide) rfl rfl 0 (by decide) lf_9 (fun _ h9 => h9) rfl dX5_grow_136 ?_
          refine lv_iload hx hb dX5_grow_139 (lv_at hl 5 rfl) ?_
          refine lv_iconst (v := 2) hx hb dX5_grow_141 (by decide) ?_
          refine x_ci (x_rN (As := [.int x11_13, .int 2]) (rest := []) (okX X) hC hw (kX1_symbol l X S_12 _ x11_13 2 _ hf) ⟨va_cnB 2 hts (gN q_202) rfl rfl rfl ln_66 (hts _ q_17) (by decide +kernel) ⟨by simp only [rX5_grow_6, rX1_symbol]; omega, by simp only [rX5_grow_6, rX1_symbol]; omega⟩, hts _ q_200, hts _ q_201⟩ (x_recv hK hw (k := 1) (by decide) rfl rfl) rfl hl.1 rfl (Nat.le_of_ble_eq_true rfl) dX5_grow_142) hw hi (fun r_21 S_22 H locs hf hw => ?_)
          obtain ⟨hf, rfl⟩ := hf
          refine lv_istore (lv' := [(17, .int r_21), (16, .int r_19), (15, .int r_17), (14, .int x14_16), (13, .int x13_15), (12, .int x12_14), (11, .int x11_13), (9, .long r_11), (8, .int x8_1), (0, .ref (xa X 8)), (1, .ref (xa X 6)), (2, .int p0), (3, .int p1), (4, .int p2), (5, .int p3), (6, .long p4)]) hx hb dX5_grow_145 hl (by decide) rfl (fun ls hl => ?_)
          refine lv_aload_n hx hb dX5_grow_147 rfl (lv_at hl 9 rfl) ?_
          refine x_get (k := 8) (v := .ref (xa X 1)) hx hb hts i_X5 hown hK hw (by decide) rfl rfl 0 (by decide) lf_9 (fun _ h9 => h9) rfl dX5_grow_148 ?_
          refine lv_iload hx hb dX5_grow_151 (lv_at hl 6 rfl) ?_
          refine lv_iconst (v := 3) hx hb dX5_grow_153 (by decide) ?_
          refine x_ci (x_rN (As := [.int x11_13, .int 3]) (rest := []) (okX X) hC hw (kX1_symbol l X S_12 _ x11_13 3 _ hf) ⟨va_cnB 2 hts (gN q_202) rfl rfl rfl ln_66 (hts _ q_17) (by decide +kernel) ⟨by simp only [rX5_grow_6, rX1_symbol]; omega, by simp only [rX5_grow_6, rX1_symbol]; omega⟩, hts _ q_200, hts _ q_201⟩ (x_recv hK hw (k := 1) (by decide) rfl rfl) rfl hl.1 rfl (Nat.le_of_ble_eq_true rfl) dX5_grow_154) hw hi (fun r_23 S_24 H locs hf hw => ?_)
          obtain ⟨hf, rfl⟩ := hf
          refine lv_istore (lv' := [(18, .int r_23), (17, .int r_21), (16, .int r_19), (15, .int r_17), (14, .int x14_16), (13, .int x13_15), (12, .int x12_14), (11, .int x11_13), (9, .long r_11), (8, .int x8_1), (0, .ref (xa X 8)), (1, .ref (xa X 6)), (2, .int p0), (3, .int p1), (4, .int p2), (5, .int p3), (6, .long p4)]) hx hb dX5_grow_157 hl (by decide) rfl (fun ls hl => ?_)
          refine lv_lconst (v := 1) hx hb dX5_grow_159 (by decide) ?_
          refine lv_aload_n hx hb dX5_grow_160 rfl (lv_at hl 11 rfl) ?_
          refine lv_iload hx hb dX5_grow_161 (lv_at hl 1 rfl) ?_
          refine lv_iload hx hb dX5_grow_163 (lv_at hl 5 rfl) ?_
          refine lv_iload hx hb dX5_grow_165 (lv_at hl 3 rfl) ?_
          refine x_cl (x_rU (As := [.int r_21, .int x13_15, .int r_17]) (rest := [.long 1]) (okX X) hC hw (kX0_count_6 l X S_12 _ r_21 x13_15 r_17 _ hf) (va_cwU 3 hts (gU (owner := "GrammarAmbiguity$Counts") (x := ⟨"GrammarAmbiguity$Counts", "count", "(III)J"⟩) q_734 q_439 q_459 q_441 q_66 q_442) rfl rfl rfl rfl (by decide +kernel) ⟨by simp only [rX5_grow_6, rX0_count_6]; omega, by simp only [rX5_grow_6, rX0_count_6]; omega⟩) (x_recv hK hw (k := 6) (by decide) rfl rfl) rfl hl.1 rfl (Nat.le_of_ble_eq_true rfl) dX5_grow_167) hw hi (fun r_25 S_26 H locs hf hw => ?_)
          obtain ⟨hf, rfl⟩ := hf
          refine va_mmax_long hx hb (hml.trans hl.1.symm) hown lm_73 lms_73 lmi lmc_73 (by simp only [rX5_grow_6]; (try simp only [List.map, List.sum_cons, List.sum_nil, Value.category]); omega) (by simp only [rX5_grow_6]; (try simp only [List.map, List.sum_cons, List.sum_nil, Value.category]); omega) (Nat.zero_le _) (Nat.zero_le _) dX5_grow_170 ?_
          refine lv_topl (fun x19_27 ex19_27 => ?_)
          replace hf := hf x19_27 ex19_27
          refine lv_lstore (lv' := [(19, .long x19_27), (18, .int r_23), (17, .int r_21), (16, .int r_19), (15, .int r_17), (14, .int x14_16), (13, .int x13_15), (12, .int x12_14), (11, .int x11_13), (9, .long r_11), (8, .int x8_1), (0, .ref (xa X 8)), (1, .ref (xa X 6)), (2, .int p0), (3, .int p1), (4, .int p2), (5, .int p3), (6, .long p4)]) hx hb dX5_grow_173 hl (by decide) rfl (fun ls hl => ?_)
          refine lv_lconst (v := 1) hx hb dX5_grow_175 (by decide) ?_
          refine lv_aload_n hx hb dX5_grow_176 rfl (lv_at hl 12 rfl) ?_
          refine lv_iload hx hb dX5_grow_177 (lv_at hl 1 rfl) ?_
          refine lv_iload hx hb dX5_grow_179 (lv_at hl 5 rfl) ?_
          refine lv_iload hx hb dX5_grow_181 (lv_at hl 3 rfl) ?_
          refine x_cl (x_rU (As := [.int r_23, .int x14_16, .int r_19]) (rest := [.long 1]) (okX X) hC hw (kX0_count_6 l X S_12 _ r_23 x14_16 r_19 _ hf) (va_cwU 3 hts (gU (owner := "GrammarAmbiguity$Counts") (x := ⟨"GrammarAmbiguity$Counts", "count", "(III)J"⟩) q_734 q_439 q_459 q_441 q_66 q_442) rfl rfl rfl rfl (by decide +kernel) ⟨by simp only [rX5_grow_6, rX0_count_6]; omega, by simp only [rX5_grow_6, rX0_count_6]; omega⟩) (x_recv hK hw (k := 6) (by decide) rfl rfl) rfl hl.1 rfl (Nat.le_of_ble_eq_true rfl) dX5_grow_183) hw hi (fun r_28 S_29 H locs hf hw => ?_)
          obtain ⟨hf, rfl⟩ := hf
          refine va_mmax_long hx hb (hml.trans hl.1.symm) hown lm_73 lms_73 lmi lmc_73 (by simp only [rX5_grow_6]; (try simp only [List.map, List.sum_cons, List.sum_nil, Value.category]); omega) (by simp only [rX5_grow_6]; (try simp only [List.map, List.sum_cons, List.sum_nil, Value.category]); omega) (Nat.zero_le _) (Nat.zero_le _) dX5_grow_186 ?_
          refine lv_topl (fun x21_30 ex21_30 => ?_)
          replace hf := hf x21_30 ex21_30
          refine lv_lstore (lv' := [(21, .long x21_30), (19, .long x19_27), (18, .int r_23), (17, .int r_21), (16, .int r_19), (15, .int r_17), (14, .int x14_16), (13, .int x13_15), (12, .int x12_14), (11, .int x11_13), (9, .long r_11), (8, .int x8_1), (0, .ref (xa X 8)), (1, .ref (xa X 6)), (2, .int p0), (3, .int p1), (4, .int p2), (5, .int p3), (6, .long p4)]) hx hb dX5_grow_189 hl (by decide) rfl (fun ls hl => ?_)
          refine lv_aload_n hx hb dX5_grow_191 rfl (lv_at hl 12 rfl) ?_
          refine lv_aload_n hx hb dX5_grow_192 rfl (lv_at hl 13 rfl) ?_
          refine lv_aload_n hx hb dX5_grow_193 rfl (lv_at hl 12 rfl) ?_
          refine x_get (k := 8) (v := .ref (xa X 1)) hx hb hts i_X5 hown hK hw (by decide) rfl rfl 0 (by decide) lf_9 (fun _ h9 => h9) rfl dX5_grow_194 ?_
          refine lv_iload hx hb dX5_grow_197 (lv_at hl 9 rfl) ?_
          refine lv_iconst (v := 1) hx hb dX5_grow_199 (by decide) ?_
          refine x_ci (x_rN (As := [.int x11_13, .int 1]) (rest := [.ref (xa X 6), .ref (xa X 8)]) (okX X) hC hw (kX1_symbol l X S_12 _ x11_13 1 _ hf) ⟨va_cnB 2 hts (gN q_202) rfl rfl rfl ln_66 (hts _ q_17) (by decide +kernel) ⟨by simp only [rX5_grow_6, rX1_symbol]; omega, by simp only [rX5_grow_6, rX1_symbol]; omega⟩, hts _ q_200, hts _ q_201⟩ (x_recv hK hw (k := 1) (by decide) rfl rfl) rfl hl.1 rfl (Nat.le_of_ble_eq_true rfl) dX5_grow_200) hw hi (fun r_31 S_32 H locs hf hw => ?_)
          obtain ⟨hf, rfl⟩ := hf
          refine lv_aload_n hx hb dX5_grow_203 rfl (lv_at hl 13 rfl) ?_
          refine lv_iload_n hx hb dX5_grow_204 rfl (lv_at hl 15 rfl) ?_
          refine lv_iconst (v := 0) hx hb dX5_grow_205 (by decide) ?_
          refine x_ci (x_rU (As := [.int p1, .int 0]) (rest := [.int r_31, .ref (xa X 6), .ref (xa X 8)]) (okX X) hC hw (kX4_part l X S_12 _ p1 0 _ hf) (va_cwA 2 hts (gU (owner := "GrammarAmbiguity$Counts") (x := ⟨"GrammarAmbiguity$Counts", "part", "(II)I"⟩) q_733 q_431 q_435 q_436 q_31 q_437) rfl rfl rfl lz_part (by decide +kernel) ⟨by simp only [rX5_grow_6, rX4_part]; omega, by simp only [rX5_grow_6, rX4_part]; omega⟩) (x_recv hK hw (k := 6) (by decide) rfl rfl) rfl hl.1 rfl (Nat.le_of_ble_eq_true rfl) dX5_grow_206) hw hi (fun r_33 S_34 H locs hf hw => ?_)
          obtain ⟨hf, rfl⟩ := hf
          refine lv_iload hx hb dX5_grow_209 (lv_at hl 16 rfl) ?_
          refine lv_iload hx hb dX5_grow_211 (lv_at hl 8 rfl) ?_
          refine lv_lload hx hb dX5_grow_213 (lv_at hl 10 rfl) ?_
          refine lv_lload hx hb dX5_grow_215 (lv_at hl 0 rfl) ?_
          refine lv_ldiv hx hb dX5_grow_217 hf.1 ?_
          replace hf := hf.2
          refine lv_lload hx hb dX5_grow_218 (lv_at hl 1 rfl) ?_
          refine lv_ldiv hx hb dX5_grow_220 hf.1 ?_
          replace hf := hf.2
          refine x_cv (x_rV (As := [.ref (xa X 6), .int r_31, .int r_33, .int p2, .int x12_14, .long ((r_11 / x21_30) / x19_27)]) (rest := []) (okX X) hC hw (ih S_12 _ r_31 r_33 p2 x12_14 ((r_11 / x21_30) / x19_27) _ hf) (cwV 6 hts (gV q_735 q_717 q_718 q_39 q_719) rfl rfl rfl (by decide +kernel) ⟨by simp only [rX5_grow_6]; omega, by simp only [rX5_grow_6]; omega⟩) (x_recv hK hw (k := 8) (by decide) rfl rfl) rfl hl.1 rfl (Nat.le_of_ble_eq_true rfl) dX5_grow_221) hw hi (fun S_36 H locs hf hw => ?_)
          refine lv_aload_n hx hb dX5_grow_224 rfl (lv_at hl 12 rfl) ?_
          refine lv_aload_n hx hb dX5_grow_225 rfl (lv_at hl 13 rfl) ?_
          refine lv_iload hx hb dX5_grow_226 (lv_at hl 3 rfl) ?_
          refine lv_iload hx hb dX5_grow_228 (lv_at hl 5 rfl) ?_
          refine lv_iload hx hb dX5_grow_230 (lv_at hl 16 rfl) ?_
          refine lv_iload hx hb dX5_grow_232 (lv_at hl 8 rfl) ?_
          refine lv_iadd hx hb dX5_grow_234 ?_
          refine lv_iload hx hb dX5_grow_235 (lv_at hl 7 rfl) ?_
          refine lv_lload hx hb dX5_grow_237 (lv_at hl 10 rfl) ?_
          refine lv_lload hx hb dX5_grow_239 (lv_at hl 0 rfl) ?_
          refine lv_ldiv hx hb dX5_grow_241 hf.1 ?_
          replace hf := hf.2
          refine lv_lload hx hb dX5_grow_242 (lv_at hl 1 rfl) ?_
          refine lv_lrem hx hb dX5_grow_244 hf.1 ?_
          replace hf := hf.2
          refine x_cv (x_rV (As := [.ref (xa X 6), .int r_21, .int r_17, .int (p2 + x12_14), .int x13_15, .long ((r_11 / x21_30) - (r_11 / x21_30) / x19_27 * x19_27)]) (rest := []) (okX X) hC hw (ih S_36 _ r_21 r_17 (p2 + x12_14) x13_15 ((r_11 / x21_30) - (r_11 / x21_30) / x19_27 * x19_27) _ hf) (cwV 6 hts (gV q_735 q_717 q_718 q_39 q_719) rfl rfl rfl (by decide +kernel) ⟨by simp only [rX5_grow_6]; omega, by simp only [rX5_grow_6]; omega⟩) (x_recv hK hw (k := 8) (by decide) rfl rfl) rfl hl.1 rfl (Nat.le_of_ble_eq_true rfl) dX5_grow_245) hw hi (fun S_38 H locs hf hw => ?_)
          refine lv_aload_n hx hb dX5_grow_248 rfl (lv_at hl 12 rfl) ?_
          refine lv_aload_n hx hb dX5_grow_249 rfl (lv_at hl 13 rfl) ?_
          refine lv_iload hx hb dX5_grow_250 (lv_at hl 2 rfl) ?_
          refine lv_iload hx hb dX5_grow_252 (lv_at hl 4 rfl) ?_
          refine lv_iload hx hb dX5_grow_254 (lv_at hl 16 rfl) ?_
          refine lv_iload hx hb dX5_grow_256 (lv_at hl 8 rfl) ?_
          refine lv_iadd hx hb dX5_grow_258 ?_
          refine lv_iload hx hb dX5_grow_259 (lv_at hl 7 rfl) ?_
          refine lv_iadd hx hb dX5_grow_261 ?_
          refine lv_iload hx hb dX5_grow_262 (lv_at hl 6 rfl) ?_
          refine lv_lload hx hb dX5_grow_264 (lv_at hl 10 rfl) ?_
          refine lv_lload hx hb dX5_grow_266 (lv_at hl 0 rfl) ?_
          refine lv_lrem hx hb dX5_grow_268 hf.1 ?_
          replace hf := hf.2
          refine x_cv (x_rV (As := [.ref (xa X 6), .int r_23, .int r_19, .int ((p2 + x12_14) + x13_15), .int x14_16, .long (r_11 - r_11 / x21_30 * x21_30)]) (rest := []) (okX X) hC hw (ih S_38 _ r_23 r_19 ((p2 + x12_14) + x13_15) x14_16 (r_11 - r_11 / x21_30 * x21_30) _ hf) (cwV 6 hts (gV q_735 q_717 q_718 q_39 q_719) rfl rfl rfl (by decide +kernel) ⟨by simp only [rX5_grow_6]; omega, by simp only [rX5_grow_6]; omega⟩) (x_recv hK hw (k := 8) (by decide) rfl rfl) rfl hl.1 rfl (Nat.le_of_ble_eq_true rfl) dX5_grow_269) hw hi (fun S_40 H locs hf hw => ?_)
          exact hQ _ _ _ _ _ hf hw dX5_grow_272
        · replace hf := hf.2 c_7
          exact hQ _ _ _ _ _ hf hw dX5_grow_35
def pX5_grow_6 : Nat → Int32 → Int32 → Int32 → Int32 → Int64 → gS → (gS → Prop) → Prop
  | 0 => fun _ _ _ _ _ _ _ => False
  | d + 1 => fX5_grow_6 (pX5_grow_6 d)
theorem kX5_grow_6 (l : Launch) (X : xG) : ∀ (d : Nat) (S : gS) (sz : Nat) (p0 : Int32) (p1 : Int32) (p2 : Int32) (p3 : Int32) (p4 : Int64) (Post : gS → Prop), pX5_grow_6 d p0 p1 p2 p3 p4 S Post → xMv l yX5_grow (Cond.code yX5_grow cX5_grow 23 none :: WS) (rX5_grow_6 d) 34 X (cX X) (eX X) S sz [.ref (xa X 8), .ref (xa X 6), .int p0, .int p1, .int p2, .int p3, .long p4] Post
  | 0 => fun _ _ _ _ _ _ _ _ hf => hf.elim
  | d + 1 => fun S sz p0 p1 p2 p3 p4 Post hf => sX5_grow_6 l X d (pX5_grow_6 d) (kX5_grow_6 l X d) S sz p0 p1 p2 p3 p4 Post hf
