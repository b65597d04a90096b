/-! Printed by wip/whole/gen: what each method asks (p..), and its contract under that (k..). -/
def pX5_spellPart (p0 : Int32) (p1 : Int32) (S : gS) (Post : gS → Prop) : Prop :=
  ((p1 < 10 → Post S) ∧ (¬ p1 < 10 → (pX6_put p0 (p1 - 10) S (fun S_3 => Post S_3))))
def rX5_spellPart : Room := { frames := 1, cells := 0, slots := 0, locals := 22 }
set_option maxHeartbeats 40000000 in
set_option maxRecDepth 100000 in
theorem kX5_spellPart (l : Launch) (X : xG) (S : gS) (sz : Nat) (p0 : Int32) (p1 : Int32) (Post : gS → Prop) (hf : pX5_spellPart p0 p1 S Post) : xMv l yX5_spellPart (Cond.code yX5_spellPart cX5_spellPart 3 none :: WS) rX5_spellPart 34 X (cX X) (eX X) S sz [.ref (xa X 2), .int p0, .int p1] Post := by
  refine xMv.of (cc := cX5_spellPart) (maxL := 3) (own := RX5) (by decide) rfl rfl (Nat.le_of_ble_eq_true rfl) ?_
  intro p e s m args below meth c ls Q hC hQ hw hl
  obtain ⟨hx, hb, hml, hown, hts, hE, hi⟩ := id hC
  have hK := hE.1
  have hl : lv_has ls 3 [(0, .ref (xa X 2)), (1, .int p0), (2, .int p1)] := hl
  have ln_100 : va_Nw (.methodLinkNest RX5 100 yX6_put "GrammarAmbiguity") s := hE.2.1 _ (by decide +kernel)
  rw [pX5_spellPart] at hf
  refine lv_iload_n hx hb dX5_spellPart_0 rfl (lv_at hl 2 rfl) ?_
  refine lv_bipush (v := 10) hx hb dX5_spellPart_1 (by decide) ?_
  refine lv_icmp_lt (tgt := 15) hx hb dX5_spellPart_3 (by decide) (fun c_1 => ?_) (fun c_1 => ?_)
  · replace hf := hf.1 c_1
    exact hQ _ _ _ _ _ hf hw dX5_spellPart_15
  · replace hf := hf.2 c_1
    refine lv_aload_n hx hb dX5_spellPart_6 rfl (lv_at hl 0 rfl) ?_
    refine lv_iload_n hx hb dX5_spellPart_7 rfl (lv_at hl 1 rfl) ?_
    refine lv_iload_n hx hb dX5_spellPart_8 rfl (lv_at hl 2 rfl) ?_
    refine lv_bipush (v := 10) hx hb dX5_spellPart_9 (by decide) ?_
    refine lv_isub hx hb dX5_spellPart_11 ?_
    refine x_cv (x_rN (As := [.int p0, .int (p1 - 10)]) (rest := []) (okX X) hC hw (kX6_put l X S _ p0 (p1 - 10) _ hf) ⟨va_cnB 2 hts (gN q_356) rfl rfl rfl ln_100 (hts _ q_21) (by decide +kernel) ⟨Nat.le_of_ble_eq_true rfl, Nat.le_of_ble_eq_true rfl⟩, hts _ q_354, hts _ q_355⟩ (x_recv hK hw (k := 2) (by decide) rfl rfl) rfl hl.1 rfl (Nat.le_of_ble_eq_true rfl) dX5_spellPart_12) hw hi (fun S_3 H locs hf hw => ?_)
    exact hQ _ _ _ _ _ hf hw dX5_spellPart_15
def bX5_spell_2 (Post : gS → Prop) (L_2 : Int32 × gS → Prop) (x2_1 : Int32) (S_2 : gS) : Prop :=
  (((gI S_2 15) ≤ x2_1 → Post S_2) ∧ (¬ (gI S_2 15) ≤ x2_1 → ((15 ≤ x2_1 → Post S_2) ∧ (¬ 15 ≤ x2_1 → (vp_in x2_1 15 ∧ (∀ x3_5 : Int32, x3_5 = gA S_2 22 x2_1.toNatClampNeg → (vp_in x2_1 15 ∧ (pX1_symbol (gA S_2 21 x2_1.toNatClampNeg) 1 S_2 (fun r_6 => (pX5_spellPart x3_5 r_6 S_2 (fun S_9 => (vp_in x2_1 15 ∧ (∀ x3_10 : Int32, x3_10 = (x3_5 + (gA S_9 24 x2_1.toNatClampNeg)) → (vp_in x2_1 15 ∧ (pX1_symbol (gA S_9 21 x2_1.toNatClampNeg) 2 S_9 (fun r_11 => (pX5_spellPart x3_10 r_11 S_9 (fun S_14 => (vp_in x2_1 15 ∧ (∀ x3_15 : Int32, x3_15 = (x3_10 + (gA S_14 25 x2_1.toNatClampNeg)) → (vp_in x2_1 15 ∧ (pX1_symbol (gA S_14 21 x2_1.toNatClampNeg) 3 S_14 (fun r_16 => (pX5_spellPart x3_15 r_16 S_14 (fun S_19 => (∀ x2_20 : Int32, x2_20 = x2_1 + 1 → L_2 (x2_20, S_19)))))))))))))))))))))))))))
def pX5_spell (S : gS) (Post : gS → Prop) : Prop :=
  ∃ n, lp (fun L x => bX5_spell_2 Post L x.1 x.2) n (0, S)
def rX5_spell : Room := { frames := 2, cells := 0, slots := 0, locals := 44 }
set_option maxHeartbeats 40000000 in
set_option maxRecDepth 100000 in
theorem kX5_spell (l : Launch) (X : xG) (S : gS) (sz : Nat) (Post : gS → Prop) (hf : pX5_spell S Post) : xMv l yX5_spell (Cond.code yX5_spell cX5_spell 4 none :: WS) rX5_spell 34 X (cX X) (eX X) S sz [.ref (xa X 8), .ref (xa X 2)] Post := by
  refine xMv.of (cc := cX5_spell) (maxL := 4) (own := RX5) (by decide) rfl rfl (Nat.le_of_ble_eq_true rfl) ?_
  intro p e s m args below meth c ls Q hC hQ hw hl
  obtain ⟨hx, hb, hml, hown, hts, hE, hi⟩ := id hC
  have hK := hE.1
  have hl : lv_has ls 4 [(0, .ref (xa X 8)), (1, .ref (xa X 2))] := hl
  have lf_23 : (Cond.fieldLink RX5 23 "GrammarAmbiguity$Tree" "size" "I").before args s = true := hts _ q_88
  have lf_31 : (Cond.fieldLink RX5 31 "GrammarAmbiguity$Tree" "begins" "[I").before args s = true := hts _ q_90
  have lf_9 : (Cond.fieldLink RX5 9 "GrammarAmbiguity$Tree" "grammar" "LGrammarAmbiguity$Grammar;").before args s = true := hts _ q_85
  have lf_27 : (Cond.fieldLink RX5 27 "GrammarAmbiguity$Tree" "productions" "[I").before args s = true := hts _ q_89
  have ln_66 : va_Nw (.methodLinkNest RX5 66 yX1_symbol "GrammarAmbiguity") s := hE.2.1 _ (by decide +kernel)
  have lf_37 : (Cond.fieldLink RX5 37 "GrammarAmbiguity$Tree" "firsts" "[I").before args s = true := hts _ q_92
  have lf_40 : (Cond.fieldLink RX5 40 "GrammarAmbiguity$Tree" "seconds" "[I").before args s = true := hts _ q_93
  rw [pX5_spell] at hf
  refine lv_iconst (v := 0) hx hb dX5_spell_0 (by decide) ?_
  refine lv_istore_n (lv' := [(2, .int 0), (0, .ref (xa X 8)), (1, .ref (xa X 2))]) hx hb dX5_spell_1 rfl hl (by decide) rfl (fun ls hl => ?_)
  obtain ⟨n_2, hf⟩ := hf
  have w_2 : ∀ (n : Nat) (x2_1 : Int32) (S_2 : gS) (H : Heap) (locs : List Loc) (ls : Array Slot), lp (fun L x => bX5_spell_2 Post L x.1 x.2) n (x2_1, S_2) → xH 34 X (cX X) (xA 34 X s.heap.size) s.heap S_2 H locs → lv_has ls 4 [(0, .ref (xa X 8)), (1, .ref (xa X 2)), (2, .int x2_1)] → W p l e rX5_spell s m args below meth c H locs 0 0 Q (F0 m 2 ls []) := by
    intro n
    induction n with
    | zero => intro x2_1 S_2 H locs ls hf; exact hf.elim
    | succ n ih_2 =>
      intro x2_1 S_2 H locs ls hf hw hl
      replace hf : bX5_spell_2 Post (lp (fun L x => bX5_spell_2 Post L x.1 x.2) n) x2_1 S_2 := hf
      generalize lp (fun L x => bX5_spell_2 Post L x.1 x.2) n = L_2 at hf ih_2
      rw [bX5_spell_2] at hf
      refine lv_iload_n hx hb dX5_spell_2 rfl (lv_at hl 2 rfl) ?_
      refine lv_aload_n hx hb dX5_spell_3 rfl (lv_at hl 0 rfl) ?_
      refine x_get (k := 8) (v := .int (gI S_2 15)) hx hb hts i_X5 hown hK hw (by decide) rfl rfl 3 (by decide) lf_23 (fun _ h9 => h9) rfl dX5_spell_4 ?_
      refine lv_icmp_ge (tgt := 104) hx hb dX5_spell_7 (by decide) (fun c_3 => ?_) (fun c_3 => ?_)
      · replace hf := hf.1 c_3
        exact hQ _ _ _ _ _ hf hw dX5_spell_104
      · replace hf := hf.2 c_3
        refine lv_iload_n hx hb dX5_spell_10 rfl (lv_at hl 2 rfl) ?_
        refine lv_bipush (v := 15) hx hb dX5_spell_11 (by decide) ?_
        refine lv_icmp_ge (tgt := 104) hx hb dX5_spell_13 (by decide) (fun c_4 => ?_) (fun c_4 => ?_)
        · replace hf := hf.1 c_4
          exact hQ _ _ _ _ _ hf hw dX5_spell_104
        · replace hf := hf.2 c_4
          refine lv_aload_n hx hb dX5_spell_16 rfl (lv_at hl 0 rfl) ?_
          refine x_get (k := 8) (v := .ref (xa X 22)) hx hb hts i_X5 hown hK hw (by decide) rfl rfl 5 (by decide) lf_31 (fun _ h9 => h9) rfl dX5_spell_17 ?_
          refine lv_iload_n hx hb dX5_spell_20 rfl (lv_at hl 2 rfl) ?_
          refine x_ild (n := 15) hx hb hK hw (by decide) rfl rfl hf.1 dX5_spell_21 ?_
          replace hf := hf.2
          refine lv_topi (fun x3_5 ex3_5 => ?_)
          replace hf := hf x3_5 ex3_5
          refine lv_istore_n (lv' := [(3, .int x3_5), (0, .ref (xa X 8)), (1, .ref (xa X 2)), (2, .int x2_1)]) hx hb dX5_spell_22 rfl hl (by decide) rfl (fun ls hl => ?_)
          refine lv_aload_n hx hb dX5_spell_23 rfl (lv_at hl 2 rfl) ?_
          refine lv_iload_n hx hb dX5_spell_24 rfl (lv_at hl 0 rfl) ?_
          refine lv_aload_n hx hb dX5_spell_25 rfl (lv_at hl 1 rfl) ?_
          refine x_get (k := 8) (v := .ref (xa X 1)) hx hb hts i_X5 hown hK hw (by decide) rfl rfl 0 (by decide) lf_9 (fun _ h9 => h9) rfl dX5_spell_26 ?_
          refine lv_aload_n hx hb dX5_spell_29 rfl (lv_at hl 1 rfl) ?_
          refine x_get (k := 8) (v := .ref (xa X 21)) hx hb hts i_X5 hown hK hw (by decide) rfl rfl 4 (by decide) lf_27 (fun _ h9 => h9) rfl dX5_spell_30 ?_
          refine lv_iload_n hx hb dX5_spell_33 rfl (lv_at hl 3 rfl) ?_
          refine x_ild (n := 15) hx hb hK hw (by decide) rfl rfl hf.1 dX5_spell_34 ?_
          replace hf := hf.2
          refine lv_iconst (v := 1) hx hb dX5_spell_35 (by decide) ?_
          refine x_ci (x_rN (As := [.int (gA S_2 21 x2_1.toNatClampNeg), .int 1]) (rest := [.int x3_5, .ref (xa X 2)]) (okX X) hC hw (kX1_symbol l X S_2 _ (gA S_2 21 x2_1.toNatClampNeg) 1 _ hf) ⟨va_cnB 2 hts (gN q_202) rfl rfl rfl ln_66 (hts _ q_17) (by decide +kernel) ⟨Nat.le_of_ble_eq_true rfl, Nat.le_of_ble_eq_true rfl⟩, hts _ q_200, hts _ q_201⟩ (x_recv hK hw (k := 1) (by decide) rfl rfl) rfl hl.1 rfl (Nat.le_of_ble_eq_true rfl) dX5_spell_36) hw hi (fun r_6 S_7 H locs hf hw => ?_)
          obtain ⟨hf, rfl⟩ := hf
          refine x_cv (x_rS (As := [.ref (xa X 2), .int x3_5, .int r_6]) (rest := []) (okX X) hC hw (kX5_spellPart l X S_2 _ x3_5 r_6 _ hf) (cwS 3 hts (gSt q_739 q_740 q_39 q_741) rfl rfl rfl (by decide +kernel) ⟨Nat.le_of_ble_eq_true rfl, Nat.le_of_ble_eq_true rfl⟩) rfl hl.1 rfl (Nat.le_of_ble_eq_true rfl) dX5_spell_39) hw hi (fun S_9 H locs hf hw => ?_)
          refine lv_iload_n hx hb dX5_spell_42 rfl (lv_at hl 0 rfl) ?_
          refine lv_aload_n hx hb dX5_spell_43 rfl (lv_at hl 1 rfl) ?_
          refine x_get (k := 8) (v := .ref (xa X 24)) hx hb hts i_X5 hown hK hw (by decide) rfl rfl 7 (by decide) lf_37 (fun _ h9 => h9) rfl dX5_spell_44 ?_
          refine lv_iload_n hx hb dX5_spell_47 rfl (lv_at hl 3 rfl) ?_
          refine x_ild (n := 15) hx hb hK hw (by decide) rfl rfl hf.1 dX5_spell_48 ?_
          replace hf := hf.2
          refine lv_iadd hx hb dX5_spell_49 ?_
          refine lv_topi (fun x3_10 ex3_10 => ?_)
          replace hf := hf x3_10 ex3_10
          refine lv_istore_n (lv' := [(3, .int x3_10), (0, .ref (xa X 8)), (1, .ref (xa X 2)), (2, .int x2_1)]) hx hb dX5_spell_50 rfl hl (by decide) rfl (fun ls hl => ?_)
          refine lv_aload_n hx hb dX5_spell_51 rfl (lv_at hl 2 rfl) ?_
          refine lv_iload_n hx hb dX5_spell_52 rfl (lv_at hl 0 rfl) ?_
          refine lv_aload_n hx hb dX5_spell_53 rfl (lv_at hl 1 rfl) ?_
          refine x_get (k := 8) (v := .ref (xa X 1)) hx hb hts i_X5 hown hK hw (by decide) rfl rfl 0 (by decide) lf_9 (fun _ h9 => h9) rfl dX5_spell_54 ?_
          refine lv_aload_n hx hb dX5_spell_57 rfl (lv_at hl 1 rfl) ?_
          refine x_get (k := 8) (v := .ref (xa X 21)) hx hb hts i_X5 hown hK hw (by decide) rfl rfl 4 (by decide) lf_27 (fun _ h9 => h9) rfl dX5_spell_58 ?_
          refine lv_iload_n hx hb dX5_spell_61 rfl (lv_at hl 3 rfl) ?_
          refine x_ild (n := 15) hx hb hK hw (by decide) rfl rfl hf.1 dX5_spell_62 ?_
          replace hf := hf.2
          refine lv_iconst (v := 2) hx hb dX5_spell_63 (by decide) ?_
          refine x_ci (x_rN (As := [.int (gA S_9 21 x2_1.toNatClampNeg), .int 2]) (rest := [.int x3_10, .ref (xa X 2)]) (okX X) hC hw (kX1_symbol l X S_9 _ (gA S_9 21 x2_1.toNatClampNeg) 2 _ hf) ⟨va_cnB 2 hts (gN q_202) rfl rfl rfl ln_66 (hts _ q_17) (by decide +kernel) ⟨Nat.le_of_ble_eq_true rfl, Nat.le_of_ble_eq_true rfl⟩, hts _ q_200, hts _ q_201⟩ (x_recv hK hw (k := 1) (by decide) rfl rfl) rfl hl.1 rfl (Nat.le_of_ble_eq_true rfl) dX5_spell_64) hw hi (fun r_11 S_12 H locs hf hw => ?_)
          obtain ⟨hf, rfl⟩ := hf
          refine x_cv (x_rS (As := [.ref (xa X 2), .int x3_10, .int r_11]) (rest := []) (okX X) hC hw (kX5_spellPart l X S_9 _ x3_10 r_11 _ hf) (cwS 3 hts (gSt q_739 q_740 q_39 q_741) rfl rfl rfl (by decide +kernel) ⟨Nat.le_of_ble_eq_true rfl, Nat.le_of_ble_eq_true rfl⟩) rfl hl.1 rfl (Nat.le_of_ble_eq_true rfl) dX5_spell_67) hw hi (fun S_14 H locs hf hw => ?_)
          refine lv_iload_n hx hb dX5_spell_70 rfl (lv_at hl 0 rfl) ?_
          refine lv_aload_n hx hb dX5_spell_71 rfl (lv_at hl 1 rfl) ?_
          refine x_get (k := 8) (v := .ref (xa X 25)) hx hb hts i_X5 hown hK hw (by decide) rfl rfl 8 (by decide) lf_40 (fun _ h9 => h9) rfl dX5_spell_72 ?_
          refine lv_iload_n hx hb dX5_spell_75 rfl (lv_at hl 3 rfl) ?_
          refine x_ild (n := 15) hx hb hK hw (by decide) rfl rfl hf.1 dX5_spell_76 ?_
          replace hf := hf.2
          refine lv_iadd hx hb dX5_spell_77 ?_
          refine lv_topi (fun x3_15 ex3_15 => ?_)
          replace hf := hf x3_15 ex3_15
          refine lv_istore_n (lv' := [(3, .int x3_15), (0, .ref (xa X 8)), (1, .ref (xa X 2)), (2, .int x2_1)]) hx hb dX5_spell_78 rfl hl (by decide) rfl (fun ls hl => ?_)
          refine lv_aload_n hx hb dX5_spell_79 rfl (lv_at hl 2 rfl) ?_
          refine lv_iload_n hx hb dX5_spell_80 rfl (lv_at hl 0 rfl) ?_
          refine lv_aload_n hx hb dX5_spell_81 rfl (lv_at hl 1 rfl) ?_
          refine x_get (k := 8) (v := .ref (xa X 1)) hx hb hts i_X5 hown hK hw (by decide) rfl rfl 0 (by decide) lf_9 (fun _ h9 => h9) rfl dX5_spell_82 ?_
          refine lv_aload_n hx hb dX5_spell_85 rfl (lv_at hl 1 rfl) ?_
          refine x_get (k := 8) (v := .ref (xa X 21)) hx hb hts i_X5 hown hK hw (by decide) rfl rfl 4 (by decide) lf_27 (fun _ h9 => h9) rfl dX5_spell_86 ?_
          refine lv_iload_n hx hb dX5_spell_89 rfl (lv_at hl 3 rfl) ?_
          refine x_ild (n := 15) hx hb hK hw (by decide) rfl rfl hf.1 dX5_spell_90 ?_
          replace hf := hf.2
          refine lv_iconst (v := 3) hx hb dX5_spell_91 (by decide) ?_
          refine x_ci (x_rN (As := [.int (gA S_14 21 x2_1.toNatClampNeg), .int 3]) (rest := [.int x3_15, .ref (xa X 2)]) (okX X) hC hw (kX1_symbol l X S_14 _ (gA S_14 21 x2_1.toNatClampNeg) 3 _ hf) ⟨va_cnB 2 hts (gN q_202) rfl rfl rfl ln_66 (hts _ q_17) (by decide +kernel) ⟨Nat.le_of_ble_eq_true rfl, Nat.le_of_ble_eq_true rfl⟩, hts _ q_200, hts _ q_201⟩ (x_recv hK hw (k := 1) (by decide) rfl rfl) rfl hl.1 rfl (Nat.le_of_ble_eq_true rfl) dX5_spell_92) hw hi (fun r_16 S_17 H locs hf hw => ?_)
          obtain ⟨hf, rfl⟩ := hf
          refine x_cv (x_rS (As := [.ref (xa X 2), .int x3_15, .int r_16]) (rest := []) (okX X) hC hw (kX5_spellPart l X S_14 _ x3_15 r_16 _ hf) (cwS 3 hts (gSt q_739 q_740 q_39 q_741) rfl rfl rfl (by decide +kernel) ⟨Nat.le_of_ble_eq_true rfl, Nat.le_of_ble_eq_true rfl⟩) rfl hl.1 rfl (Nat.le_of_ble_eq_true rfl) dX5_spell_95) hw hi (fun S_19 H locs hf hw => ?_)
          obtain ⟨x2_20, ex2_20⟩ : ∃ y : Int32, y = x2_1 + 1 := ⟨_, rfl⟩
          replace hf := hf x2_20 ex2_20
          refine lv_iinc (v := x2_20) (lv' := [(2, .int x2_20), (3, .int x3_15), (0, .ref (xa X 8)), (1, .ref (xa X 2))]) hx hb dX5_spell_98 hl (k := 3) rfl (by rw [ex2_20]; rfl) (by decide) rfl (fun ls hl => ?_)
          refine lv_goto (tgt := 2) hx hb dX5_spell_101 (by decide) ?_
          exact ih_2 x2_20 S_19 _ _ _ hf hw (lv_sub hl [2, 3, 0] rfl)
  exact w_2 n_2 0 S _ _ _ hf hw (lv_sub hl [1, 2, 0] rfl)
def bX5_countBefore_108 (p0 : Int32) (S : gS) (Post : Int64 → Prop) (x3_1 : Int32) (x5_4 : Int32) (x6_5 : Int32) (L_108 : Int64 × Int32 → Prop) (x7_12 : Int64) (x9_13 : Int32) : Prop :=
  (vp_in p0 15 ∧ (((gA S 25 p0.toNatClampNeg) ≤ x9_13 → Post x7_12) ∧ (¬ (gA S 25 p0.toNatClampNeg) ≤ x9_13 → (vp_in p0 15 ∧ (pX0_ofSecond_6 x3_1 x5_4 x6_5 (gA S 24 p0.toNatClampNeg) x9_13 S (fun r_15 => (∀ x7_17 : Int64, x7_17 = (x7_12 + r_15) → (∀ x9_18 : Int32, x9_18 = x9_13 + 1 → L_108 (x7_17, x9_18)))))))))
def bX5_countBefore_72 (p0 : Int32) (S : gS) (Post : Int64 → Prop) (x3_1 : Int32) (x5_4 : Int32) (x6_5 : Int32) (L_72 : Int64 × Int32 → Prop) (x7_9 : Int64) (x9_10 : Int32) : Prop :=
  (vp_in p0 15 ∧ (((gA S 24 p0.toNatClampNeg) ≤ x9_10 → ∃ n, lp (fun L x => bX5_countBefore_108 p0 S Post x3_1 x5_4 x6_5 L x.1 x.2) n (x7_9, 0)) ∧ (¬ (gA S 24 p0.toNatClampNeg) ≤ x9_10 → (pX0_ofFirst_6 x3_1 x5_4 x6_5 x9_10 S (fun r_19 => (∀ x7_21 : Int64, x7_21 = (x7_9 + r_19) → (∀ x9_22 : Int32, x9_22 = x9_10 + 1 → L_72 (x7_21, x9_22))))))))
def bX5_countBefore_40 (p0 : Int32) (S : gS) (Post : Int64 → Prop) (x3_1 : Int32) (r_2 : Int32) (x5_4 : Int32) (x6_5 : Int32) (L_40 : Int64 × Int32 → Prop) (x7_6 : Int64) (x9_7 : Int32) : Prop :=
  ((x3_1 ≤ x9_7 → ∃ n, lp (fun L x => bX5_countBefore_72 p0 S Post x3_1 x5_4 x6_5 L x.1 x.2) n (x7_6, 1)) ∧ (¬ x3_1 ≤ x9_7 → (pX0_ofProduction_6 r_2 x9_7 x5_4 x6_5 S (fun r_23 => (∀ x7_25 : Int64, x7_25 = (x7_6 + r_23) → (∀ x9_26 : Int32, x9_26 = x9_7 + 1 → L_40 (x7_25, x9_26)))))))
def pX5_countBefore (p0 : Int32) (S : gS) (Post : Int64 → Prop) : Prop :=
  (vp_in p0 15 ∧ (∀ x3_1 : Int32, x3_1 = gA S 21 p0.toNatClampNeg → (pX1_symbol x3_1 0 S (fun r_2 => (vp_in p0 15 ∧ (∀ x5_4 : Int32, x5_4 = gA S 23 p0.toNatClampNeg → (vp_in p0 15 ∧ (∀ x6_5 : Int32, x6_5 = gA S 22 p0.toNatClampNeg → ∃ n, lp (fun L x => bX5_countBefore_40 p0 S Post x3_1 r_2 x5_4 x6_5 L x.1 x.2) n (0, 0)))))))))
def rX5_countBefore : Room := { frames := 5, cells := 0, slots := 0, locals := 134 }
set_option maxHeartbeats 40000000 in
set_option maxRecDepth 100000 in
theorem kX5_countBefore (l : Launch) (X : xG) (S : gS) (sz : Nat) (p0 : Int32) (Post : Int64 → Prop) (hf : pX5_countBefore p0 S Post) : xMl l yX5_countBefore (Cond.code yX5_countBefore cX5_countBefore 10 (some .long) :: WS) rX5_countBefore 34 X (cX X) (eX X) S sz [.ref (xa X 8), .ref (xa X 6), .int p0] (fun r S' => Post r ∧ S = S') := by
  refine xMl.of (cc := cX5_countBefore) (maxL := 10) (own := RX5) (by decide) rfl rfl (Nat.le_of_ble_eq_true rfl) ?_
  intro p e s m args below meth c ls Q hC hQ hw hl
  obtain ⟨hx, hb, hml, hown, hts, hE, hi⟩ := id hC
  have hK := hE.1
  have hl : lv_has ls 10 [(0, .ref (xa X 8)), (1, .ref (xa X 6)), (2, .int p0)] := hl
  have lf_27 : (Cond.fieldLink RX5 27 "GrammarAmbiguity$Tree" "productions" "[I").before args s = true := hts _ q_89
  have lf_9 : (Cond.fieldLink RX5 9 "GrammarAmbiguity$Tree" "grammar" "LGrammarAmbiguity$Grammar;").before args s = true := hts _ q_85
  have ln_66 : va_Nw (.methodLinkNest RX5 66 yX1_symbol "GrammarAmbiguity") s := hE.2.1 _ (by decide +kernel)
  have lf_34 : (Cond.fieldLink RX5 34 "GrammarAmbiguity$Tree" "lengths" "[I").before args s = true := hts _ q_91
  have lf_31 : (Cond.fieldLink RX5 31 "GrammarAmbiguity$Tree" "begins" "[I").before args s = true := hts _ q_90
  have lf_37 : (Cond.fieldLink RX5 37 "GrammarAmbiguity$Tree" "firsts" "[I").before args s = true := hts _ q_92
  have lf_40 : (Cond.fieldLink RX5 40 "GrammarAmbiguity$Tree" "seconds" "[I").before args s = true := hts _ q_93
  rw [pX5_countBefore] at hf
  refine lv_aload_n hx hb dX5_countBefore_0 rfl (lv_at hl 0 rfl) ?_
  refine x_get (k := 8) (v := .ref (xa X 21)) hx hb hts i_X5 hown hK hw (by decide) rfl rfl 4 (by decide) lf_27 (fun _ h9 => h9) rfl dX5_countBefore_1 ?_
  refine lv_iload_n hx hb dX5_countBefore_4 rfl (lv_at hl 2 rfl) ?_
  refine x_ild (n := 15) hx hb hK hw (by decide) rfl rfl hf.1 dX5_countBefore_5 ?_
  replace hf := hf.2
  refine lv_topi (fun x3_1 ex3_1 => ?_)
  replace hf := hf x3_1 ex3_1
  refine lv_istore_n (lv' := [(3, .int x3_1), (0, .ref (xa X 8)), (1, .ref (xa X 6)), (2, .int p0)]) hx hb dX5_countBefore_6 rfl hl (by decide) rfl (fun ls hl => ?_)
  refine lv_aload_n hx hb dX5_countBefore_7 rfl (lv_at hl 1 rfl) ?_
  refine x_get (k := 8) (v := .ref (xa X 1)) hx hb hts i_X5 hown hK hw (by decide) rfl rfl 0 (by decide) lf_9 (fun _ h9 => h9) rfl dX5_countBefore_8 ?_
  refine lv_iload_n hx hb dX5_countBefore_11 rfl (lv_at hl 0 rfl) ?_
  refine lv_iconst (v := 0) hx hb dX5_countBefore_12 (by decide) ?_
  refine x_ci (x_rN (As := [.int x3_1, .int 0]) (rest := []) (okX X) hC hw (kX1_symbol l X S _ x3_1 0 _ hf) ⟨va_cnB 2 hts (gN q_202) rfl rfl rfl ln_66 (hts _ q_17) (by decide +kernel) ⟨Nat.le_of_ble_eq_true rfl, Nat.le_of_ble_eq_true rfl⟩, hts _ q_200, hts _ q_201⟩ (x_recv hK hw (k := 1) (by decide) rfl rfl) rfl hl.1 rfl (Nat.le_of_ble_eq_true rfl) dX5_countBefore_13) hw hi (fun r_2 S_3 H locs hf hw => ?_)
  obtain ⟨hf, rfl⟩ := hf
  refine lv_istore (lv' := [(4, .int r_2), (3, .int x3_1), (0, .ref (xa X 8)), (1, .ref (xa X 6)), (2, .int p0)]) hx hb dX5_countBefore_16 hl (by decide) rfl (fun ls hl => ?_)
  refine lv_aload_n hx hb dX5_countBefore_18 rfl (lv_at hl 2 rfl) ?_
  refine x_get (k := 8) (v := .ref (xa X 23)) hx hb hts i_X5 hown hK hw (by decide) rfl rfl 6 (by decide) lf_34 (fun _ h9 => h9) rfl dX5_countBefore_19 ?_
  refine lv_iload_n hx hb dX5_countBefore_22 rfl (lv_at hl 4 rfl) ?_
  refine x_ild (n := 15) hx hb hK hw (by decide) rfl rfl hf.1 dX5_countBefore_23 ?_
  replace hf := hf.2
  refine lv_topi (fun x5_4 ex5_4 => ?_)
  replace hf := hf x5_4 ex5_4
  refine lv_istore (lv' := [(5, .int x5_4), (4, .int r_2), (3, .int x3_1), (0, .ref (xa X 8)), (1, .ref (xa X 6)), (2, .int p0)]) hx hb dX5_countBefore_24 hl (by decide) rfl (fun ls hl => ?_)
  refine lv_aload_n hx hb dX5_countBefore_26 rfl (lv_at hl 3 rfl) ?_
  refine x_get (k := 8) (v := .ref (xa X 22)) hx hb hts i_X5 hown hK hw (by decide) rfl rfl 5 (by decide) lf_31 (fun _ h9 => h9) rfl dX5_countBefore_27 ?_
  refine lv_iload_n hx hb dX5_countBefore_30 rfl (lv_at hl 5 rfl) ?_
  refine x_ild (n := 15) hx hb hK hw (by decide) rfl rfl hf.1 dX5_countBefore_31 ?_
  replace hf := hf.2
  refine lv_topi (fun x6_5 ex6_5 => ?_)
  replace hf := hf x6_5 ex6_5
  refine lv_istore (lv' := [(6, .int x6_5), (5, .int x5_4), (4, .int r_2), (3, .int x3_1), (0, .ref (xa X 8)), (1, .ref (xa X 6)), (2, .int p0)]) hx hb dX5_countBefore_32 hl (by decide) rfl (fun ls hl => ?_)
  refine lv_lconst (v := 0) hx hb dX5_countBefore_34 (by decide) ?_
  refine lv_lstore (lv' := [(7, .long 0), (6, .int x6_5), (5, .int x5_4), (4, .int r_2), (3, .int x3_1), (0, .ref (xa X 8)), (1, .ref (xa X 6)), (2, .int p0)]) hx hb dX5_countBefore_35 hl (by decide) rfl (fun ls hl => ?_)
  refine lv_iconst (v := 0) hx hb dX5_countBefore_37 (by decide) ?_
  refine lv_istore (lv' := [(9, .int 0), (7, .long 0), (6, .int x6_5), (5, .int x5_4), (4, .int r_2), (3, .int x3_1), (0, .ref (xa X 8)), (1, .ref (xa X 6)), (2, .int p0)]) hx hb dX5_countBefore_38 hl (by decide) rfl (fun ls hl => ?_)
  obtain ⟨n_40, hf⟩ := hf
  have w_40 : ∀ (n : Nat) (x7_6 : Int64) (x9_7 : Int32) (H : Heap) (locs : List Loc) (ls : Array Slot), lp (fun L x => bX5_countBefore_40 p0 S Post x3_1 r_2 x5_4 x6_5 L x.1 x.2) n (x7_6, x9_7) → xH 34 X (cX X) (xA 34 X s.heap.size) s.heap S H locs → lv_has ls 10 [(0, .ref (xa X 8)), (1, .ref (xa X 6)), (2, .int p0), (3, .int x3_1), (4, .int r_2), (5, .int x5_4), (6, .int x6_5), (7, .long x7_6), (9, .int x9_7)] → W p l e rX5_countBefore s m args below meth c H locs 0 0 Q (F0 m 40 ls []) := by
    intro n
    induction n with
    | zero => intro x7_6 x9_7 H locs ls hf; exact hf.elim
    | succ n ih_40 =>
      intro x7_6 x9_7 H locs ls hf hw hl
      replace hf : bX5_countBefore_40 p0 S Post x3_1 r_2 x5_4 x6_5 (lp (fun L x => bX5_countBefore_40 p0 S Post x3_1 r_2 x5_4 x6_5 L x.1 x.2) n) x7_6 x9_7 := hf
      generalize lp (fun L x => bX5_countBefore_40 p0 S Post x3_1 r_2 x5_4 x6_5 L x.1 x.2) n = L_40 at hf ih_40
      rw [bX5_countBefore_40] at hf
      refine lv_iload hx hb dX5_countBefore_40 (lv_at hl 8 rfl) ?_
      refine lv_iload_n hx hb dX5_countBefore_42 rfl (lv_at hl 3 rfl) ?_
      refine lv_icmp_ge (tgt := 69) hx hb dX5_countBefore_43 (by decide) (fun c_8 => ?_) (fun c_8 => ?_)
      · replace hf := hf.1 c_8
        refine lv_iconst (v := 1) hx hb dX5_countBefore_69 (by decide) ?_
        refine lv_istore (lv' := [(9, .int 1), (0, .ref (xa X 8)), (1, .ref (xa X 6)), (2, .int p0), (3, .int x3_1), (4, .int r_2), (5, .int x5_4), (6, .int x6_5), (7, .long x7_6)]) hx hb dX5_countBefore_70 hl (by decide) rfl (fun ls hl => ?_)
        obtain ⟨n_72, hf⟩ := hf
        have w_72 : ∀ (n : Nat) (x7_9 : Int64) (x9_10 : Int32) (H : Heap) (locs : List Loc) (ls : Array Slot), lp (fun L x => bX5_countBefore_72 p0 S Post x3_1 x5_4 x6_5 L x.1 x.2) n (x7_9, x9_10) → xH 34 X (cX X) (xA 34 X s.heap.size) s.heap S H locs → lv_has ls 10 [(0, .ref (xa X 8)), (1, .ref (xa X 6)), (2, .int p0), (3, .int x3_1), (5, .int x5_4), (6, .int x6_5), (7, .long x7_9), (9, .int x9_10)] → W p l e rX5_countBefore s m args below meth c H locs 0 0 Q (F0 m 72 ls []) := by
          intro n
          induction n with
          | zero => intro x7_9 x9_10 H locs ls hf; exact hf.elim
          | succ n ih_72 =>
            intro x7_9 x9_10 H locs ls hf hw hl
            replace hf : bX5_countBefore_72 p0 S Post x3_1 x5_4 x6_5 (lp (fun L x => bX5_countBefore_72 p0 S Post x3_1 x5_4 x6_5 L x.1 x.2) n) x7_9 x9_10 := hf
            generalize lp (fun L x => bX5_countBefore_72 p0 S Post x3_1 x5_4 x6_5 L x.1 x.2) n = L_72 at hf ih_72
            rw [bX5_countBefore_72] at hf
            refine lv_iload hx hb dX5_countBefore_72 (lv_at hl 7 rfl) ?_
            refine lv_aload_n hx hb dX5_countBefore_74 rfl (lv_at hl 0 rfl) ?_
            refine x_get (k := 8) (v := .ref (xa X 24)) hx hb hts i_X5 hown hK hw (by decide) rfl rfl 7 (by decide) lf_37 (fun _ h9 => h9) rfl dX5_countBefore_75 ?_
            refine lv_iload_n hx hb dX5_countBefore_78 rfl (lv_at hl 2 rfl) ?_
            refine x_ild (n := 15) hx hb hK hw (by decide) rfl rfl hf.1 dX5_countBefore_79 ?_
            replace hf := hf.2
            refine lv_icmp_ge (tgt := 105) hx hb dX5_countBefore_80 (by decide) (fun c_11 => ?_) (fun c_11 => ?_)
            · replace hf := hf.1 c_11
              refine lv_iconst (v := 0) hx hb dX5_countBefore_105 (by decide) ?_
              refine lv_istore (lv' := [(9, .int 0), (0, .ref (xa X 8)), (1, .ref (xa X 6)), (2, .int p0), (3, .int x3_1), (5, .int x5_4), (6, .int x6_5), (7, .long x7_9)]) hx hb dX5_countBefore_106 hl (by decide) rfl (fun ls hl => ?_)
              obtain ⟨n_108, hf⟩ := hf
              have w_108 : ∀ (n : Nat) (x7_12 : Int64) (x9_13 : Int32) (H : Heap) (locs : List Loc) (ls : Array Slot), lp (fun L x => bX5_countBefore_108 p0 S Post x3_1 x5_4 x6_5 L x.1 x.2) n (x7_12, x9_13) → xH 34 X (cX X) (xA 34 X s.heap.size) s.heap S H locs → lv_has ls 10 [(0, .ref (xa X 8)), (1, .ref (xa X 6)), (2, .int p0), (3, .int x3_1), (5, .int x5_4), (6, .int x6_5), (7, .long x7_12), (9, .int x9_13)] → W p l e rX5_countBefore s m args below meth c H locs 0 0 Q (F0 m 108 ls []) := by
                intro n
                induction n with
                | zero => intro x7_12 x9_13 H locs ls hf; exact hf.elim
                | succ n ih_108 =>
                  intro x7_12 x9_13 H locs ls hf hw hl
                  replace hf : bX5_countBefore_108 p0 S Post x3_1 x5_4 x6_5 (lp (fun L x => bX5_countBefore_108 p0 S Post x3_1 x5_4 x6_5 L x.1 x.2) n) x7_12 x9_13 := hf
                  generalize lp (fun L x => bX5_countBefore_108 p0 S Post x3_1 x5_4 x6_5 L x.1 x.2) n = L_108 at hf ih_108
                  rw [bX5_countBefore_108] at hf
                  refine lv_iload hx hb dX5_countBefore_108 (lv_at hl 7 rfl) ?_
                  refine lv_aload_n hx hb dX5_countBefore_110 rfl (lv_at hl 0 rfl) ?_
                  refine x_get (k := 8) (v := .ref (xa X 25)) hx hb hts i_X5 hown hK hw (by decide) rfl rfl 8 (by decide) lf_40 (fun _ h9 => h9) rfl dX5_countBefore_111 ?_
                  refine lv_iload_n hx hb dX5_countBefore_114 rfl (lv_at hl 2 rfl) ?_
                  refine x_ild (n := 15) hx hb hK hw (by decide) rfl rfl hf.1 dX5_countBefore_115 ?_
                  replace hf := hf.2
                  refine lv_icmp_ge (tgt := 147) hx hb dX5_countBefore_116 (by decide) (fun c_14 => ?_) (fun c_14 => ?_)
                  · replace hf := hf.1 c_14
                    refine lv_lload hx hb dX5_countBefore_147 (lv_at hl 6 rfl) ?_
                    exact hQ _ _ _ _ _ _ ⟨hf, rfl⟩ hw dX5_countBefore_149
                  · replace hf := hf.2 c_14
                    refine lv_lload hx hb dX5_countBefore_119 (lv_at hl 6 rfl) ?_
                    refine lv_aload_n hx hb dX5_countBefore_121 rfl (lv_at hl 1 rfl) ?_
                    refine lv_iload_n hx hb dX5_countBefore_122 rfl (lv_at hl 3 rfl) ?_
                    refine lv_iload hx hb dX5_countBefore_123 (lv_at hl 4 rfl) ?_
                    refine lv_iload hx hb dX5_countBefore_125 (lv_at hl 5 rfl) ?_
                    refine lv_aload_n hx hb dX5_countBefore_127 rfl (lv_at hl 0 rfl) ?_
                    refine x_get (k := 8) (v := .ref (xa X 24)) hx hb hts i_X5 hown hK hw (by decide) rfl rfl 7 (by decide) lf_37 (fun _ h9 => h9) rfl dX5_countBefore_128 ?_
                    refine lv_iload_n hx hb dX5_countBefore_131 rfl (lv_at hl 2 rfl) ?_
                    refine x_ild (n := 15) hx hb hK hw (by decide) rfl rfl hf.1 dX5_countBefore_132 ?_
                    replace hf := hf.2
                    refine lv_iload hx hb dX5_countBefore_133 (lv_at hl 7 rfl) ?_
                    refine x_cl (x_rU (As := [.int x3_1, .int x5_4, .int x6_5, .int (gA S 24 p0.toNatClampNeg), .int x9_13]) (rest := [.long x7_12]) (okX X) hC hw (kX0_ofSecond_6 l X S _ x3_1 x5_4 x6_5 (gA S 24 p0.toNatClampNeg) x9_13 _ hf) (va_cwU 5 hts (gU (owner := "GrammarAmbiguity$Counts") (x := ⟨"GrammarAmbiguity$SpanCounts", "ofSecond", "(IIIII)J"⟩) q_759 q_760 q_761 q_567 q_66 q_568) rfl rfl rfl rfl (by decide +kernel) ⟨Nat.le_of_ble_eq_true rfl, Nat.le_of_ble_eq_true rfl⟩) (x_recv hK hw (k := 6) (by decide) rfl rfl) rfl hl.1 rfl (Nat.le_of_ble_eq_true rfl) dX5_countBefore_135) hw hi (fun r_15 S_16 H locs hf hw => ?_)
                    obtain ⟨hf, rfl⟩ := hf
                    refine lv_ladd hx hb dX5_countBefore_138 ?_
                    refine lv_topl (fun x7_17 ex7_17 => ?_)
                    replace hf := hf x7_17 ex7_17
                    refine lv_lstore (lv' := [(7, .long x7_17), (0, .ref (xa X 8)), (1, .ref (xa X 6)), (2, .int p0), (3, .int x3_1), (5, .int x5_4), (6, .int x6_5), (9, .int x9_13)]) hx hb dX5_countBefore_139 hl (by decide) rfl (fun ls hl => ?_)
                    obtain ⟨x9_18, ex9_18⟩ : ∃ y : Int32, y = x9_13 + 1 := ⟨_, rfl⟩
                    replace hf := hf x9_18 ex9_18
                    refine lv_iinc (v := x9_18) (lv' := [(9, .int x9_18), (7, .long x7_17), (0, .ref (xa X 8)), (1, .ref (xa X 6)), (2, .int p0), (3, .int x3_1), (5, .int x5_4), (6, .int x6_5)]) hx hb dX5_countBefore_141 hl (k := 7) rfl (by rw [ex9_18]; rfl) (by decide) rfl (fun ls hl => ?_)
                    refine lv_goto (tgt := 108) hx hb dX5_countBefore_144 (by decide) ?_
                    exact ih_108 x7_17 x9_18 _ _ _ hf hw (lv_sub hl [2, 3, 4, 5, 6, 7, 1, 0] rfl)
              exact w_108 n_108 x7_9 0 _ _ _ hf hw (lv_sub hl [1, 2, 3, 4, 5, 6, 7, 0] rfl)
            · replace hf := hf.2 c_11
              refine lv_lload hx hb dX5_countBefore_83 (lv_at hl 6 rfl) ?_
              refine lv_aload_n hx hb dX5_countBefore_85 rfl (lv_at hl 1 rfl) ?_
              refine lv_iload_n hx hb dX5_countBefore_86 rfl (lv_at hl 3 rfl) ?_
              refine lv_iload hx hb dX5_countBefore_87 (lv_at hl 4 rfl) ?_
              refine lv_iload hx hb dX5_countBefore_89 (lv_at hl 5 rfl) ?_
              refine lv_iload hx hb dX5_countBefore_91 (lv_at hl 7 rfl) ?_
              refine x_cl (x_rU (As := [.int x3_1, .int x5_4, .int x6_5, .int x9_10]) (rest := [.long x7_9]) (okX X) hC hw (kX0_ofFirst_6 l X S _ x3_1 x5_4 x6_5 x9_10 _ hf) (va_cwU 4 hts (gU (owner := "GrammarAmbiguity$Counts") (x := ⟨"GrammarAmbiguity$SpanCounts", "ofFirst", "(IIII)J"⟩) q_756 q_757 q_758 q_428 q_66 q_429) rfl rfl rfl rfl (by decide +kernel) ⟨Nat.le_of_ble_eq_true rfl, Nat.le_of_ble_eq_true rfl⟩) (x_recv hK hw (k := 6) (by decide) rfl rfl) rfl hl.1 rfl (Nat.le_of_ble_eq_true rfl) dX5_countBefore_93) hw hi (fun r_19 S_20 H locs hf hw => ?_)
              obtain ⟨hf, rfl⟩ := hf
              refine lv_ladd hx hb dX5_countBefore_96 ?_
              refine lv_topl (fun x7_21 ex7_21 => ?_)
              replace hf := hf x7_21 ex7_21
              refine lv_lstore (lv' := [(7, .long x7_21), (0, .ref (xa X 8)), (1, .ref (xa X 6)), (2, .int p0), (3, .int x3_1), (5, .int x5_4), (6, .int x6_5), (9, .int x9_10)]) hx hb dX5_countBefore_97 hl (by decide) rfl (fun ls hl => ?_)
              obtain ⟨x9_22, ex9_22⟩ : ∃ y : Int32, y = x9_10 + 1 := ⟨_, rfl⟩
              replace hf := hf x9_22 ex9_22
              refine lv_iinc (v := x9_22) (lv' := [(9, .int x9_22), (7, .long x7_21), (0, .ref (xa X 8)), (1, .ref (xa X 6)), (2, .int p0), (3, .int x3_1), (5, .int x5_4), (6, .int x6_5)]) hx hb dX5_countBefore_99 hl (k := 7) rfl (by rw [ex9_22]; rfl) (by decide) rfl (fun ls hl => ?_)
              refine lv_goto (tgt := 72) hx hb dX5_countBefore_102 (by decide) ?_
              exact ih_72 x7_21 x9_22 _ _ _ hf hw (lv_sub hl [2, 3, 4, 5, 6, 7, 1, 0] rfl)
        exact w_72 n_72 x7_6 1 _ _ _ hf hw (lv_sub hl [1, 2, 3, 4, 6, 7, 8, 0] rfl)
      · replace hf := hf.2 c_8
        refine lv_lload hx hb dX5_countBefore_46 (lv_at hl 7 rfl) ?_
        refine lv_aload_n hx hb dX5_countBefore_48 rfl (lv_at hl 1 rfl) ?_
        refine lv_iload hx hb dX5_countBefore_49 (lv_at hl 4 rfl) ?_
        refine lv_iload hx hb dX5_countBefore_51 (lv_at hl 8 rfl) ?_
        refine lv_iload hx hb dX5_countBefore_53 (lv_at hl 5 rfl) ?_
        refine lv_iload hx hb dX5_countBefore_55 (lv_at hl 6 rfl) ?_
        refine x_cl (x_rU (As := [.int r_2, .int x9_7, .int x5_4, .int x6_5]) (rest := [.long x7_6]) (okX X) hC hw (kX0_ofProduction_6 l X S _ r_2 x9_7 x5_4 x6_5 _ hf) (va_cwU 4 hts (gU (owner := "GrammarAmbiguity$Counts") (x := ⟨"GrammarAmbiguity$SpanCounts", "ofProduction", "(IIII)J"⟩) q_753 q_754 q_755 q_423 q_66 q_424) rfl rfl rfl rfl (by decide +kernel) ⟨Nat.le_of_ble_eq_true rfl, Nat.le_of_ble_eq_true rfl⟩) (x_recv hK hw (k := 6) (by decide) rfl rfl) rfl hl.1 rfl (Nat.le_of_ble_eq_true rfl) dX5_countBefore_57) hw hi (fun r_23 S_24 H locs hf hw => ?_)
        obtain ⟨hf, rfl⟩ := hf
        refine lv_ladd hx hb dX5_countBefore_60 ?_
        refine lv_topl (fun x7_25 ex7_25 => ?_)
        replace hf := hf x7_25 ex7_25
        refine lv_lstore (lv' := [(7, .long x7_25), (0, .ref (xa X 8)), (1, .ref (xa X 6)), (2, .int p0), (3, .int x3_1), (4, .int r_2), (5, .int x5_4), (6, .int x6_5), (9, .int x9_7)]) hx hb dX5_countBefore_61 hl (by decide) rfl (fun ls hl => ?_)
        obtain ⟨x9_26, ex9_26⟩ : ∃ y : Int32, y = x9_7 + 1 := ⟨_, rfl⟩
        replace hf := hf x9_26 ex9_26
        refine lv_iinc (v := x9_26) (lv' := [(9, .int x9_26), (7, .long x7_25), (0, .ref (xa X 8)), (1, .ref (xa X 6)), (2, .int p0), (3, .int x3_1), (4, .int r_2), (5, .int x5_4), (6, .int x6_5)]) hx hb dX5_countBefore_63 hl (k := 8) rfl (by rw [ex9_26]; rfl) (by decide) rfl (fun ls hl => ?_)
        refine lv_goto (tgt := 40) hx hb dX5_countBefore_66 (by decide) ?_
        exact ih_40 x7_25 x9_26 _ _ _ hf hw (lv_sub hl [2, 3, 4, 5, 6, 7, 8, 1, 0] rfl)
  exact w_40 n_40 0 0 _ _ _ hf hw (lv_sub hl [6, 7, 8, 5, 4, 3, 2, 1, 0] rfl)
def bX5_findNumber_26 (x2_2 : Int32) (S_3 : gS) (L_12 : Int32 × gS → Prop) (L_26 : Int32 × Int64 × Int32 → Prop) (x3_6 : Int32) (x4_7 : Int64) (x6_8 : Int32) : Prop :=
  ((3 < x6_8 → (vp_in x2_2 15 ∧ (∀ S_10 : gS, S_10 = uA S_3 26 x2_2.toNatClampNeg x3_6 → (pX5_countBefore x2_2 S_10 (fun r_11 => (vp_in x2_2 15 ∧ (∀ S_13 : gS, S_13 = uB S_10 27 x2_2.toNatClampNeg (r_11 + x4_7) → (∀ x2_14 : Int32, x2_14 = x2_2 + (-1) → L_12 (x2_14, S_13))))))))) ∧ (¬ 3 < x6_8 → (vp_in x2_2 15 ∧ (pX1_symbol (gA S_3 21 x2_2.toNatClampNeg) x6_8 S_3 (fun r_15 => (pX1_isNonterminal r_15 S_3 (fun r_17 => ((r_17 = 0 → (∀ x6_20 : Int32, x6_20 = x6_8 + 1 → L_26 (x3_6, x4_7, x6_20))) ∧ (¬ r_17 = 0 → ((x3_6 < 0 → (∀ x6_22 : Int32, x6_22 = x6_8 + 1 → L_26 (x3_6, x4_7, x6_22))) ∧ (¬ x3_6 < 0 → ((15 ≤ x3_6 → (∀ x6_24 : Int32, x6_24 = x6_8 + 1 → L_26 (x3_6, x4_7, x6_24))) ∧ (¬ 15 ≤ x3_6 → (vp_in x3_6 15 ∧ (vp_in x3_6 15 ∧ (pX0_count_6 r_15 (gA S_3 23 x3_6.toNatClampNeg) (gA S_3 22 x3_6.toNatClampNeg) S_3 (fun r_25 => (vp_in x3_6 15 ∧ (∀ x4_27 : Int64, x4_27 = ((x4_7 * r_25) + (gB S_3 27 x3_6.toNatClampNeg)) → (vp_in x3_6 15 ∧ (∀ x3_28 : Int32, x3_28 = gA S_3 26 x3_6.toNatClampNeg → (∀ x6_29 : Int32, x6_29 = x6_8 + 1 → L_26 (x3_28, x4_27, x6_29)))))))))))))))))))))))
def bX5_findNumber_12 (Post : Int64 → gS → Prop) (L_12 : Int32 × gS → Prop) (x2_2 : Int32) (S_3 : gS) : Prop :=
  ((x2_2 < 0 → (vp_in (0 : Int32) 15 ∧ Post (gB S_3 27 (0 : Int32).toNatClampNeg) S_3)) ∧ (¬ x2_2 < 0 → (∀ x3_5 : Int32, x3_5 = (x2_2 + 1) → ∃ n, lp (fun L x => bX5_findNumber_26 x2_2 S_3 L_12 L x.1 x.2.1 x.2.2) n (x3_5, 0, 1))))
def pX5_findNumber (S : gS) (Post : Int64 → gS → Prop) : Prop :=
  (∀ x2_1 : Int32, x2_1 = ((if (15 : Int32) < (gI S 15) then 15 else (gI S 15)) - 1) → ∃ n, lp (fun L x => bX5_findNumber_12 Post L x.1 x.2) n (x2_1, S))
def rX5_findNumber : Room := { frames := 6, cells := 0, slots := 0, locals := 163 }
set_option maxHeartbeats 40000000 in
set_option maxRecDepth 100000 in
theorem kX5_findNumber (l : Launch) (X : xG) (S : gS) (sz : Nat) (Post : Int64 → gS → Prop) (hf : pX5_findNumber S Post) : xMl l yX5_findNumber (Cond.code yX5_findNumber cX5_findNumber 8 (some .long) :: WS) rX5_findNumber 34 X (cX X) (eX X) S sz [.ref (xa X 8), .ref (xa X 6)] Post := by
  refine xMl.of (cc := cX5_findNumber) (maxL := 8) (own := RX5) (by decide) rfl rfl (Nat.le_of_ble_eq_true rfl) ?_
  intro p e s m args below meth c ls Q hC hQ hw hl
  obtain ⟨hx, hb, hml, hown, hts, hE, hi⟩ := id hC
  have hK := hE.1
  have hl : lv_has ls 8 [(0, .ref (xa X 8)), (1, .ref (xa X 6))] := hl
  have lf_23 : (Cond.fieldLink RX5 23 "GrammarAmbiguity$Tree" "size" "I").before args s = true := hts _ q_88
  have lm_106 : (Cond.methodLink RX5 106 Lib.Math.min.name).before args s = true := hts _ q_745
  have lms_106 : (Cond.static Lib.Math.min.name).before args s = true := hts _ q_746
  have lmi : (Cond.initialized "java/lang/Math").before args s = true := hts _ q_410
  have lmc_106 : (Cond.code Lib.Math.min.name Lib.Math.min.code 2 (some .int)).before args s = true := hts _ q_747
  have lf_46 : (Cond.fieldLink RX5 46 "GrammarAmbiguity$Tree" "numbers" "[J").before args s = true := hts _ q_95
  have lf_43 : (Cond.fieldLink RX5 43 "GrammarAmbiguity$Tree" "ends" "[I").before args s = true := hts _ q_94
  have lf_9 : (Cond.fieldLink RX5 9 "GrammarAmbiguity$Tree" "grammar" "LGrammarAmbiguity$Grammar;").before args s = true := hts _ q_85
  have lf_27 : (Cond.fieldLink RX5 27 "GrammarAmbiguity$Tree" "productions" "[I").before args s = true := hts _ q_89
  have ln_66 : va_Nw (.methodLinkNest RX5 66 yX1_symbol "GrammarAmbiguity") s := hE.2.1 _ (by decide +kernel)
  have ln_50 : va_Nw (.methodLinkNest RX5 50 yX1_isNonterminal "GrammarAmbiguity") s := hE.2.1 _ (by decide +kernel)
  have lf_34 : (Cond.fieldLink RX5 34 "GrammarAmbiguity$Tree" "lengths" "[I").before args s = true := hts _ q_91
  have lf_31 : (Cond.fieldLink RX5 31 "GrammarAmbiguity$Tree" "begins" "[I").before args s = true := hts _ q_90
  rw [pX5_findNumber] at hf
  refine lv_aload_n hx hb dX5_findNumber_0 rfl (lv_at hl 0 rfl) ?_
  refine x_get (k := 8) (v := .int (gI S 15)) hx hb hts i_X5 hown hK hw (by decide) rfl rfl 3 (by decide) lf_23 (fun _ h9 => h9) rfl dX5_findNumber_1 ?_
  refine lv_bipush (v := 15) hx hb dX5_findNumber_4 (by decide) ?_
  refine va_mmin hx hb (hml.trans hl.1.symm) hown lm_106 lms_106 lmi lmc_106 (Nat.le_of_ble_eq_true rfl) (Nat.le_of_ble_eq_true rfl) (Nat.zero_le _) (Nat.zero_le _) dX5_findNumber_6 ?_
  refine lv_iconst (v := 1) hx hb dX5_findNumber_9 (by decide) ?_
  refine lv_isub hx hb dX5_findNumber_10 ?_
  refine lv_topi (fun x2_1 ex2_1 => ?_)
  replace hf := hf x2_1 ex2_1
  refine lv_istore_n (lv' := [(2, .int x2_1), (0, .ref (xa X 8)), (1, .ref (xa X 6))]) hx hb dX5_findNumber_11 rfl hl (by decide) rfl (fun ls hl => ?_)
  obtain ⟨n_12, hf⟩ := hf
  have w_12 : ∀ (n : Nat) (x2_2 : Int32) (S_3 : gS) (H : Heap) (locs : List Loc) (ls : Array Slot), lp (fun L x => bX5_findNumber_12 Post L x.1 x.2) n (x2_2, S_3) → xH 34 X (cX X) (xA 34 X s.heap.size) s.heap S_3 H locs → lv_has ls 8 [(0, .ref (xa X 8)), (1, .ref (xa X 6)), (2, .int x2_2)] → W p l e rX5_findNumber s m args below meth c H locs 0 0 Q (F0 m 12 ls []) := by
    intro n
    induction n with
    | zero => intro x2_2 S_3 H locs ls hf; exact hf.elim
    | succ n ih_12 =>
      intro x2_2 S_3 H locs ls hf hw hl
      replace hf : bX5_findNumber_12 Post (lp (fun L x => bX5_findNumber_12 Post L x.1 x.2) n) x2_2 S_3 := hf
      generalize lp (fun L x => bX5_findNumber_12 Post L x.1 x.2) n = L_12 at hf ih_12
      rw [bX5_findNumber_12] at hf
      refine lv_iload_n hx hb dX5_findNumber_12 rfl (lv_at hl 2 rfl) ?_
      refine lv_if_lt (tgt := 142) hx hb dX5_findNumber_13 (by decide) (fun c_4 => ?_) (fun c_4 => ?_)
      · replace hf := hf.1 c_4
        refine lv_aload_n hx hb dX5_findNumber_142 rfl (lv_at hl 0 rfl) ?_
        refine x_get (k := 8) (v := .ref (xa X 27)) hx hb hts i_X5 hown hK hw (by decide) rfl rfl 10 (by decide) lf_46 (fun _ h9 => h9) rfl dX5_findNumber_143 ?_
        refine lv_iconst (v := 0) hx hb dX5_findNumber_146 (by decide) ?_
        refine x_lld (n := 15) hx hb hK hw (by decide) rfl rfl hf.1 dX5_findNumber_147 ?_
        replace hf := hf.2
        exact hQ _ _ _ _ _ _ hf hw dX5_findNumber_148
      · replace hf := hf.2 c_4
        refine lv_iload_n hx hb dX5_findNumber_16 rfl (lv_at hl 2 rfl) ?_
        refine lv_iconst (v := 1) hx hb dX5_findNumber_17 (by decide) ?_
        refine lv_iadd hx hb dX5_findNumber_18 ?_
        refine lv_topi (fun x3_5 ex3_5 => ?_)
        replace hf := hf x3_5 ex3_5
        refine lv_istore_n (lv' := [(3, .int x3_5), (0, .ref (xa X 8)), (1, .ref (xa X 6)), (2, .int x2_2)]) hx hb dX5_findNumber_19 rfl hl (by decide) rfl (fun ls hl => ?_)
        refine lv_lconst (v := 0) hx hb dX5_findNumber_20 (by decide) ?_
        refine lv_lstore (lv' := [(4, .long 0), (3, .int x3_5), (0, .ref (xa X 8)), (1, .ref (xa X 6)), (2, .int x2_2)]) hx hb dX5_findNumber_21 hl (by decide) rfl (fun ls hl => ?_)
        refine lv_iconst (v := 1) hx hb dX5_findNumber_23 (by decide) ?_
        refine lv_istore (lv' := [(6, .int 1), (4, .long 0), (3, .int x3_5), (0, .ref (xa X 8)), (1, .ref (xa X 6)), (2, .int x2_2)]) hx hb dX5_findNumber_24 hl (by decide) rfl (fun ls hl => ?_)
        obtain ⟨n_26, hf⟩ := hf
        have w_26 : ∀ (n : Nat) (x3_6 : Int32) (x4_7 : Int64) (x6_8 : Int32) (H : Heap) (locs : List Loc) (ls : Array Slot), lp (fun L x => bX5_findNumber_26 x2_2 S_3 L_12 L x.1 x.2.1 x.2.2) n (x3_6, x4_7, x6_8) → xH 34 X (cX X) (xA 34 X s.heap.size) s.heap S_3 H locs → lv_has ls 8 [(0, .ref (xa X 8)), (1, .ref (xa X 6)), (2, .int x2_2), (3, .int x3_6), (4, .long x4_7), (6, .int x6_8)] → W p l e rX5_findNumber s m args below meth c H locs 0 0 Q (F0 m 26 ls []) := by
          intro n
          induction n with
          | zero => intro x3_6 x4_7 x6_8 H locs ls hf; exact hf.elim
          | succ n ih_26 =>
            intro x3_6 x4_7 x6_8 H locs ls hf hw hl
            replace hf : bX5_findNumber_26 x2_2 S_3 L_12 (lp (fun L x => bX5_findNumber_26 x2_2 S_3 L_12 L x.1 x.2.1 x.2.2) n) x3_6 x4_7 x6_8 := hf
            generalize lp (fun L x => bX5_findNumber_26 x2_2 S_3 L_12 L x.1 x.2.1 x.2.2) n = L_26 at hf ih_26
            rw [bX5_findNumber_26] at hf
            refine lv_iload hx hb dX5_findNumber_26 (lv_at hl 5 rfl) ?_
            refine lv_iconst (v := 3) hx hb dX5_findNumber_28 (by decide) ?_
            refine lv_icmp_gt (tgt := 114) hx hb dX5_findNumber_29 (by decide) (fun c_9 => ?_) (fun c_9 => ?_)
            · replace hf := hf.1 c_9
              refine lv_aload_n hx hb dX5_findNumber_114 rfl (lv_at hl 0 rfl) ?_
              refine x_get (k := 8) (v := .ref (xa X 26)) hx hb hts i_X5 hown hK hw (by decide) rfl rfl 9 (by decide) lf_43 (fun _ h9 => h9) rfl dX5_findNumber_115 ?_
              refine lv_iload_n hx hb dX5_findNumber_118 rfl (lv_at hl 2 rfl) ?_
              refine lv_iload_n hx hb dX5_findNumber_119 rfl (lv_at hl 3 rfl) ?_
              refine x_ist (n := 15) hx hb hK hw (by decide) rfl rfl hf.1 dX5_findNumber_120 (uX_A26 X S_3 _ _) (fun H locs hw => ?_)
              replace hf := hf.2
              obtain ⟨S_10, eS_10⟩ : ∃ z : gS, z = uA S_3 26 x2_2.toNatClampNeg x3_6 := ⟨_, rfl⟩
              rw [← eS_10] at hw
              replace hf := hf S_10 eS_10
              refine lv_aload_n hx hb dX5_findNumber_121 rfl (lv_at hl 0 rfl) ?_
              refine x_get (k := 8) (v := .ref (xa X 27)) hx hb hts i_X5 hown hK hw (by decide) rfl rfl 10 (by decide) lf_46 (fun _ h9 => h9) rfl dX5_findNumber_122 ?_
              refine lv_iload_n hx hb dX5_findNumber_125 rfl (lv_at hl 2 rfl) ?_
              refine lv_aload_n hx hb dX5_findNumber_126 rfl (lv_at hl 0 rfl) ?_
              refine lv_aload_n hx hb dX5_findNumber_127 rfl (lv_at hl 1 rfl) ?_
              refine lv_iload_n hx hb dX5_findNumber_128 rfl (lv_at hl 2 rfl) ?_
              refine x_cl (x_rV (As := [.ref (xa X 6), .int x2_2]) (rest := [.int x2_2, .ref (xa X 27)]) (okX X) hC hw (kX5_countBefore l X S_10 _ x2_2 _ hf) (cwV 2 hts (gV q_749 q_750 q_751 q_39 q_752) rfl rfl rfl (by decide +kernel) ⟨Nat.le_of_ble_eq_true rfl, Nat.le_of_ble_eq_true rfl⟩) (x_recv hK hw (k := 8) (by decide) rfl rfl) rfl hl.1 rfl (Nat.le_of_ble_eq_true rfl) dX5_findNumber_129) hw hi (fun r_11 S_12 H locs hf hw => ?_)
              obtain ⟨hf, rfl⟩ := hf
              refine lv_lload hx hb dX5_findNumber_132 (lv_at hl 4 rfl) ?_
              refine lv_ladd hx hb dX5_findNumber_134 ?_
              refine x_lst (n := 15) hx hb hK hw (by decide) rfl rfl hf.1 dX5_findNumber_135 (uX_A27 X S_10 _ _) (fun H locs hw => ?_)
              replace hf := hf.2
              obtain ⟨S_13, eS_13⟩ : ∃ z : gS, z = uB S_10 27 x2_2.toNatClampNeg (r_11 + x4_7) := ⟨_, rfl⟩
              rw [← eS_13] at hw
              replace hf := hf S_13 eS_13
              obtain ⟨x2_14, ex2_14⟩ : ∃ y : Int32, y = x2_2 + (-1) := ⟨_, rfl⟩
              replace hf := hf x2_14 ex2_14
              refine lv_iinc (v := x2_14) (lv' := [(2, .int x2_14), (0, .ref (xa X 8)), (1, .ref (xa X 6)), (3, .int x3_6), (4, .long x4_7), (6, .int x6_8)]) hx hb dX5_findNumber_136 hl (k := 2) rfl (by rw [ex2_14]; rfl) (by decide) rfl (fun ls hl => ?_)
              refine lv_goto (tgt := 12) hx hb dX5_findNumber_139 (by decide) ?_
              exact ih_12 x2_14 S_13 _ _ _ hf hw (lv_sub hl [1, 2, 0] rfl)
            · replace hf := hf.2 c_9
              refine lv_aload_n hx hb dX5_findNumber_32 rfl (lv_at hl 0 rfl) ?_
              refine x_get (k := 8) (v := .ref (xa X 1)) hx hb hts i_X5 hown hK hw (by decide) rfl rfl 0 (by decide) lf_9 (fun _ h9 => h9) rfl dX5_findNumber_33 ?_
              refine lv_aload_n hx hb dX5_findNumber_36 rfl (lv_at hl 0 rfl) ?_
              refine x_get (k := 8) (v := .ref (xa X 21)) hx hb hts i_X5 hown hK hw (by decide) rfl rfl 4 (by decide) lf_27 (fun _ h9 => h9) rfl dX5_findNumber_37 ?_
              refine lv_iload_n hx hb dX5_findNumber_40 rfl (lv_at hl 2 rfl) ?_
              refine x_ild (n := 15) hx hb hK hw (by decide) rfl rfl hf.1 dX5_findNumber_41 ?_
              replace hf := hf.2
              refine lv_iload hx hb dX5_findNumber_42 (lv_at hl 5 rfl) ?_
              refine x_ci (x_rN (As := [.int (gA S_3 21 x2_2.toNatClampNeg), .int x6_8]) (rest := []) (okX X) hC hw (kX1_symbol l X S_3 _ (gA S_3 21 x2_2.toNatClampNeg) x6_8 _ hf) ⟨va_cnB 2 hts (gN q_202) rfl rfl rfl ln_66 (hts _ q_17) (by decide +kernel) ⟨Nat.le_of_ble_eq_true rfl, Nat.le_of_ble_eq_true rfl⟩, hts _ q_200, hts _ q_201⟩ (x_recv hK hw (k := 1) (by decide) rfl rfl) rfl hl.1 rfl (Nat.le_of_ble_eq_true rfl) dX5_findNumber_44) hw hi (fun r_15 S_16 H locs hf hw => ?_)
              obtain ⟨hf, rfl⟩ := hf
              refine lv_istore (lv' := [(7, .int r_15), (0, .ref (xa X 8)), (1, .ref (xa X 6)), (2, .int x2_2), (3, .int x3_6), (4, .long x4_7), (6, .int x6_8)]) hx hb dX5_findNumber_47 hl (by decide) rfl (fun ls hl => ?_)
              refine lv_aload_n hx hb dX5_findNumber_49 rfl (lv_at hl 1 rfl) ?_
              refine x_get (k := 8) (v := .ref (xa X 1)) hx hb hts i_X5 hown hK hw (by decide) rfl rfl 0 (by decide) lf_9 (fun _ h9 => h9) rfl dX5_findNumber_50 ?_
              refine lv_iload hx hb dX5_findNumber_53 (lv_at hl 0 rfl) ?_
              refine x_ci (x_rN (As := [.int r_15]) (rest := []) (okX X) hC hw (kX1_isNonterminal l X S_3 _ r_15 _ hf) ⟨va_cnB 1 hts (gN q_183) rfl rfl rfl ln_50 (hts _ q_17) (by decide +kernel) ⟨Nat.le_of_ble_eq_true rfl, Nat.le_of_ble_eq_true rfl⟩, hts _ q_181, hts _ q_182⟩ (x_recv hK hw (k := 1) (by decide) rfl rfl) rfl hl.1 rfl (Nat.le_of_ble_eq_true rfl) dX5_findNumber_55) hw hi (fun r_17 S_18 H locs hf hw => ?_)
              obtain ⟨hf, rfl⟩ := hf
              refine lv_if_eq (tgt := 108) hx hb dX5_findNumber_58 (by decide) (fun c_19 => ?_) (fun c_19 => ?_)
              · replace hf := hf.1 c_19
                obtain ⟨x6_20, ex6_20⟩ : ∃ y : Int32, y = x6_8 + 1 := ⟨_, rfl⟩
                replace hf := hf x6_20 ex6_20
                refine lv_iinc (v := x6_20) (lv' := [(6, .int x6_20), (7, .int r_15), (0, .ref (xa X 8)), (1, .ref (xa X 6)), (2, .int x2_2), (3, .int x3_6), (4, .long x4_7)]) hx hb dX5_findNumber_108 hl (k := 6) rfl (by rw [ex6_20]; rfl) (by decide) rfl (fun ls hl => ?_)
                refine lv_goto (tgt := 26) hx hb dX5_findNumber_111 (by decide) ?_
                exact ih_26 x3_6 x4_7 x6_20 _ _ _ hf hw (lv_sub hl [2, 3, 4, 5, 6, 0] rfl)
              · replace hf := hf.2 c_19
                refine lv_iload_n hx hb dX5_findNumber_61 rfl (lv_at hl 4 rfl) ?_
                refine lv_if_lt (tgt := 108) hx hb dX5_findNumber_62 (by decide) (fun c_21 => ?_) (fun c_21 => ?_)
                · replace hf := hf.1 c_21
                  obtain ⟨x6_22, ex6_22⟩ : ∃ y : Int32, y = x6_8 + 1 := ⟨_, rfl⟩
                  replace hf := hf x6_22 ex6_22
                  refine lv_iinc (v := x6_22) (lv' := [(6, .int x6_22), (7, .int r_15), (0, .ref (xa X 8)), (1, .ref (xa X 6)), (2, .int x2_2), (3, .int x3_6), (4, .long x4_7)]) hx hb dX5_findNumber_108 hl (k := 6) rfl (by rw [ex6_22]; rfl) (by decide) rfl (fun ls hl => ?_)
                  refine lv_goto (tgt := 26) hx hb dX5_findNumber_111 (by decide) ?_
                  exact ih_26 x3_6 x4_7 x6_22 _ _ _ hf hw (lv_sub hl [2, 3, 4, 5, 6, 0] rfl)
                · replace hf := hf.2 c_21
                  refine lv_iload_n hx hb dX5_findNumber_65 rfl (lv_at hl 4 rfl) ?_
                  refine lv_bipush (v := 15) hx hb dX5_findNumber_66 (by decide) ?_
                  refine lv_icmp_ge (tgt := 108) hx hb dX5_findNumber_68 (by decide) (fun c_23 => ?_) (fun c_23 => ?_)
                  · replace hf := hf.1 c_23
                    obtain ⟨x6_24, ex6_24⟩ : ∃ y : Int32, y = x6_8 + 1 := ⟨_, rfl⟩
                    replace hf := hf x6_24 ex6_24
                    refine lv_iinc (v := x6_24) (lv' := [(6, .int x6_24), (7, .int r_15), (0, .ref (xa X 8)), (1, .ref (xa X 6)), (2, .int x2_2), (3, .int x3_6), (4, .long x4_7)]) hx hb dX5_findNumber_108 hl (k := 6) rfl (by rw [ex6_24]; rfl) (by decide) rfl (fun ls hl => ?_)
                    refine lv_goto (tgt := 26) hx hb dX5_findNumber_111 (by decide) ?_
                    exact ih_26 x3_6 x4_7 x6_24 _ _ _ hf hw (lv_sub hl [2, 3, 4, 5, 6, 0] rfl)
                  · replace hf := hf.2 c_23
                    refine lv_lload hx hb dX5_findNumber_71 (lv_at hl 5 rfl) ?_
                    refine lv_aload_n hx hb dX5_findNumber_73 rfl (lv_at hl 2 rfl) ?_
                    refine lv_iload hx hb dX5_findNumber_74 (lv_at hl 0 rfl) ?_
                    refine lv_aload_n hx hb dX5_findNumber_76 rfl (lv_at hl 1 rfl) ?_
                    refine x_get (k := 8) (v := .ref (xa X 23)) hx hb hts i_X5 hown hK hw (by decide) rfl rfl 6 (by decide) lf_34 (fun _ h9 => h9) rfl dX5_findNumber_77 ?_
                    refine lv_iload_n hx hb dX5_findNumber_80 rfl (lv_at hl 4 rfl) ?_
                    refine x_ild (n := 15) hx hb hK hw (by decide) rfl rfl hf.1 dX5_findNumber_81 ?_
                    replace hf := hf.2
                    refine lv_aload_n hx hb dX5_findNumber_82 rfl (lv_at hl 1 rfl) ?_
                    refine x_get (k := 8) (v := .ref (xa X 22)) hx hb hts i_X5 hown hK hw (by decide) rfl rfl 5 (by decide) lf_31 (fun _ h9 => h9) rfl dX5_findNumber_83 ?_
                    refine lv_iload_n hx hb dX5_findNumber_86 rfl (lv_at hl 4 rfl) ?_
                    refine x_ild (n := 15) hx hb hK hw (by decide) rfl rfl hf.1 dX5_findNumber_87 ?_
                    replace hf := hf.2
                    refine x_cl (x_rU (As := [.int r_15, .int (gA S_3 23 x3_6.toNatClampNeg), .int (gA S_3 22 x3_6.toNatClampNeg)]) (rest := [.long x4_7]) (okX X) hC hw (kX0_count_6 l X S_3 _ r_15 (gA S_3 23 x3_6.toNatClampNeg) (gA S_3 22 x3_6.toNatClampNeg) _ hf) (va_cwU 3 hts (gU (owner := "GrammarAmbiguity$Counts") (x := ⟨"GrammarAmbiguity$SpanCounts", "count", "(III)J"⟩) q_748 q_475 q_476 q_441 q_66 q_442) rfl rfl rfl rfl (by decide +kernel) ⟨Nat.le_of_ble_eq_true rfl, Nat.le_of_ble_eq_true rfl⟩) (x_recv hK hw (k := 6) (by decide) rfl rfl) rfl hl.1 rfl (Nat.le_of_ble_eq_true rfl) dX5_findNumber_88) hw hi (fun r_25 S_26 H locs hf hw => ?_)
                    obtain ⟨hf, rfl⟩ := hf
                    refine lv_lmul hx hb dX5_findNumber_91 ?_
                    refine lv_aload_n hx hb dX5_findNumber_92 rfl (lv_at hl 1 rfl) ?_
                    refine x_get (k := 8) (v := .ref (xa X 27)) hx hb hts i_X5 hown hK hw (by decide) rfl rfl 10 (by decide) lf_46 (fun _ h9 => h9) rfl dX5_findNumber_93 ?_
                    refine lv_iload_n hx hb dX5_findNumber_96 rfl (lv_at hl 4 rfl) ?_
                    refine x_lld (n := 15) hx hb hK hw (by decide) rfl rfl hf.1 dX5_findNumber_97 ?_
                    replace hf := hf.2
                    refine lv_ladd hx hb dX5_findNumber_98 ?_
                    refine lv_topl (fun x4_27 ex4_27 => ?_)
                    replace hf := hf x4_27 ex4_27
                    refine lv_lstore (lv' := [(4, .long x4_27), (7, .int r_15), (0, .ref (xa X 8)), (1, .ref (xa X 6)), (2, .int x2_2), (3, .int x3_6), (6, .int x6_8)]) hx hb dX5_findNumber_99 hl (by decide) rfl (fun ls hl => ?_)
                    refine lv_aload_n hx hb dX5_findNumber_101 rfl (lv_at hl 2 rfl) ?_
                    refine x_get (k := 8) (v := .ref (xa X 26)) hx hb hts i_X5 hown hK hw (by decide) rfl rfl 9 (by decide) lf_43 (fun _ h9 => h9) rfl dX5_findNumber_102 ?_
                    refine lv_iload_n hx hb dX5_findNumber_105 rfl (lv_at hl 5 rfl) ?_
                    refine x_ild (n := 15) hx hb hK hw (by decide) rfl rfl hf.1 dX5_findNumber_106 ?_
                    replace hf := hf.2
                    refine lv_topi (fun x3_28 ex3_28 => ?_)
                    replace hf := hf x3_28 ex3_28
                    refine lv_istore_n (lv' := [(3, .int x3_28), (4, .long x4_27), (7, .int r_15), (0, .ref (xa X 8)), (1, .ref (xa X 6)), (2, .int x2_2), (6, .int x6_8)]) hx hb dX5_findNumber_107 rfl hl (by decide) rfl (fun ls hl => ?_)
                    obtain ⟨x6_29, ex6_29⟩ : ∃ y : Int32, y = x6_8 + 1 := ⟨_, rfl⟩
                    replace hf := hf x6_29 ex6_29
                    refine lv_iinc (v := x6_29) (lv' := [(6, .int x6_29), (3, .int x3_28), (4, .long x4_27), (7, .int r_15), (0, .ref (xa X 8)), (1, .ref (xa X 6)), (2, .int x2_2)]) hx hb dX5_findNumber_108 hl (k := 6) rfl (by rw [ex6_29]; rfl) (by decide) rfl (fun ls hl => ?_)
                    refine lv_goto (tgt := 26) hx hb dX5_findNumber_111 (by decide) ?_
                    exact ih_26 x3_28 x4_27 x6_29 _ _ _ hf hw (lv_sub hl [4, 5, 6, 1, 2, 0] rfl)
        exact w_26 n_26 x3_5 0 1 _ _ _ hf hw (lv_sub hl [3, 4, 5, 2, 1, 0] rfl)
  exact w_12 n_12 x2_1 S _ _ _ hf hw (lv_sub hl [1, 2, 0] rfl)
def jX5_choose_5_165 (p2 : Int32) (S : gS) (Post : Int64 → gS → Prop) (x10_3 : Int32) (x11_5 : Int32) (x8_6 : Int64) (x12_7 : Int32) : Prop :=
  (vp_in p2 15 ∧ (∀ S_8 : gS, S_8 = uA S 21 p2.toNatClampNeg x10_3 → (vp_in p2 15 ∧ (∀ S_9 : gS, S_9 = uA S_8 24 p2.toNatClampNeg x11_5 → (vp_in p2 15 ∧ (∀ S_10 : gS, S_10 = uA S_9 25 p2.toNatClampNeg x12_7 → Post x8_6 S_10))))))
def bX5_choose_5_116 (p1 : Int32) (p2 : Int32) (S : gS) (Post : Int64 → gS → Prop) (x7_1 : Int32) (x10_3 : Int32) (x11_5 : Int32) (L_116 : Int64 × Int32 → Prop) (x8_6 : Int64) (x12_7 : Int32) : Prop :=
  (((x7_1 - x11_5) ≤ x12_7 → jX5_choose_5_165 p2 S Post x10_3 x11_5 x8_6 x12_7) ∧ (¬ (x7_1 - x11_5) ≤ x12_7 → (pX0_ofSecond_5 x10_3 x7_1 p1 x11_5 x12_7 S (fun r_12 => ((0 ≤ (lg_cmp x8_6 r_12) → (∀ x8_15 : Int64, x8_15 = (x8_6 - r_12) → (∀ x12_16 : Int32, x12_16 = x12_7 + 1 → L_116 (x8_15, x12_16)))) ∧ (¬ 0 ≤ (lg_cmp x8_6 r_12) → jX5_choose_5_165 p2 S Post x10_3 x11_5 x8_6 x12_7))))))
def jX5_choose_5_113 (p1 : Int32) (p2 : Int32) (S : gS) (Post : Int64 → gS → Prop) (x7_1 : Int32) (x10_3 : Int32) (x8_4 : Int64) (x11_5 : Int32) : Prop :=
  ∃ n, lp (fun L x => bX5_choose_5_116 p1 p2 S Post x7_1 x10_3 x11_5 L x.1 x.2) n (x8_4, 0)
def bX5_choose_5_69 (p1 : Int32) (p2 : Int32) (S : gS) (Post : Int64 → gS → Prop) (x7_1 : Int32) (x10_3 : Int32) (L_69 : Int64 × Int32 → Prop) (x8_4 : Int64) (x11_5 : Int32) : Prop :=
  ((x7_1 ≤ x11_5 → jX5_choose_5_113 p1 p2 S Post x7_1 x10_3 x8_4 x11_5) ∧ (¬ x7_1 ≤ x11_5 → (pX0_ofFirst_5 x10_3 x7_1 p1 x11_5 S (fun r_18 => ((0 ≤ (lg_cmp x8_4 r_18) → (∀ x8_21 : Int64, x8_21 = (x8_4 - r_18) → (∀ x11_22 : Int32, x11_22 = x11_5 + 1 → L_69 (x8_21, x11_22)))) ∧ (¬ 0 ≤ (lg_cmp x8_4 r_18) → jX5_choose_5_113 p1 p2 S Post x7_1 x10_3 x8_4 x11_5))))))
def jX5_choose_5_66 (p1 : Int32) (p2 : Int32) (S : gS) (Post : Int64 → gS → Prop) (x7_1 : Int32) (x8_2 : Int64) (x10_3 : Int32) : Prop :=
  ∃ n, lp (fun L x => bX5_choose_5_69 p1 p2 S Post x7_1 x10_3 L x.1 x.2) n (x8_2, 1)
def bX5_choose_5_16 (p0 : Int32) (p1 : Int32) (p2 : Int32) (S : gS) (Post : Int64 → gS → Prop) (x7_1 : Int32) (L_16 : Int64 × Int32 → Prop) (x8_2 : Int64) (x10_3 : Int32) : Prop :=
  ((((gI S 4) - 1) ≤ x10_3 → jX5_choose_5_66 p1 p2 S Post x7_1 x8_2 x10_3) ∧ (¬ ((gI S 4) - 1) ≤ x10_3 → (pX0_ofProduction_5 p0 x10_3 x7_1 p1 S (fun r_24 => ((0 ≤ (lg_cmp x8_2 r_24) → (∀ x8_27 : Int64, x8_27 = (x8_2 - r_24) → (∀ x10_28 : Int32, x10_28 = x10_3 + 1 → L_16 (x8_27, x10_28)))) ∧ (¬ 0 ≤ (lg_cmp x8_2 r_24) → jX5_choose_5_66 p1 p2 S Post x7_1 x8_2 x10_3))))))
def pX5_choose_5 (p0 : Int32) (p1 : Int32) (p2 : Int32) (p3 : Int64) (S : gS) (Post : Int64 → gS → Prop) : Prop :=
  (vp_in p2 15 ∧ (∀ x7_1 : Int32, x7_1 = gA S 23 p2.toNatClampNeg → ∃ n, lp (fun L x => bX5_choose_5_16 p0 p1 p2 S Post x7_1 L x.1 x.2) n (p3, 0)))
def rX5_choose_5 : Room := { frames := 5, cells := 0, slots := 0, locals := 134 }
set_option maxHeartbeats 40000000 in
set_option maxRecDepth 100000 in
theorem kX5_choose_5 (l : Launch) (X : xG) (S : gS) (sz : Nat) (p0 : Int32) (p1 : Int32) (p2 : Int32) (p3 : Int64) (Post : Int64 → gS → Prop) (hf : pX5_choose_5 p0 p1 p2 p3 S Post) : xMl l yX5_choose (Cond.code yX5_choose cX5_choose 15 (some .long) :: WS) rX5_choose_5 34 X (cX X) (eX X) S sz [.ref (xa X 8), .ref (xa X 5), .int p0, .int p1, .int p2, .long p3] Post := by
  refine xMl.of (cc := cX5_choose) (maxL := 15) (own := RX5) (by decide) rfl rfl (Nat.le_of_ble_eq_true rfl) ?_
  intro p e s m args below meth c ls Q hC hQ hw hl
  obtain ⟨hx, hb, hml, hown, hts, hE, hi⟩ := id hC
  have hK := hE.1
  have hl : lv_has ls 15 [(0, .ref (xa X 8)), (1, .ref (xa X 5)), (2, .int p0), (3, .int p1), (4, .int p2), (5, .long p3)] := hl
  have lf_34 : (Cond.fieldLink RX5 34 "GrammarAmbiguity$Tree" "lengths" "[I").before args s = true := hts _ q_91
  have lf_9 : (Cond.fieldLink RX5 9 "GrammarAmbiguity$Tree" "grammar" "LGrammarAmbiguity$Grammar;").before args s = true := hts _ q_85
  have lf_83 : va_Nw (.fieldLinkNest RX5 83 "GrammarAmbiguity$Grammar" "productions" "I" "GrammarAmbiguity") s := hE.2.1 _ (by decide +kernel)
  have lf_27 : (Cond.fieldLink RX5 27 "GrammarAmbiguity$Tree" "productions" "[I").before args s = true := hts _ q_89
  have lf_37 : (Cond.fieldLink RX5 37 "GrammarAmbiguity$Tree" "firsts" "[I").before args s = true := hts _ q_92
  have lf_40 : (Cond.fieldLink RX5 40 "GrammarAmbiguity$Tree" "seconds" "[I").before args s = true := hts _ q_93
  rw [pX5_choose_5] at hf
  refine lv_aload_n hx hb dX5_choose_0 rfl (lv_at hl 0 rfl) ?_
  refine x_get (k := 8) (v := .ref (xa X 23)) hx hb hts i_X5 hown hK hw (by decide) rfl rfl 6 (by decide) lf_34 (fun _ h9 => h9) rfl dX5_choose_1 ?_
  refine lv_iload hx hb dX5_choose_4 (lv_at hl 4 rfl) ?_
  refine x_ild (n := 15) hx hb hK hw (by decide) rfl rfl hf.1 dX5_choose_6 ?_
  replace hf := hf.2
  refine lv_topi (fun x7_1 ex7_1 => ?_)
  replace hf := hf x7_1 ex7_1
  refine lv_istore (lv' := [(7, .int x7_1), (0, .ref (xa X 8)), (1, .ref (xa X 5)), (2, .int p0), (3, .int p1), (4, .int p2), (5, .long p3)]) hx hb dX5_choose_7 hl (by decide) rfl (fun ls hl => ?_)
  refine lv_lload hx hb dX5_choose_9 (lv_at hl 6 rfl) ?_
  refine lv_lstore (lv' := [(8, .long p3), (7, .int x7_1), (0, .ref (xa X 8)), (1, .ref (xa X 5)), (2, .int p0), (3, .int p1), (4, .int p2), (5, .long p3)]) hx hb dX5_choose_11 hl (by decide) rfl (fun ls hl => ?_)
  refine lv_iconst (v := 0) hx hb dX5_choose_13 (by decide) ?_
  refine lv_istore (lv' := [(10, .int 0), (8, .long p3), (7, .int x7_1), (0, .ref (xa X 8)), (1, .ref (xa X 5)), (2, .int p0), (3, .int p1), (4, .int p2), (5, .long p3)]) hx hb dX5_choose_14 hl (by decide) rfl (fun ls hl => ?_)
  obtain ⟨n_16, hf⟩ := hf
  have w_16 : ∀ (n : Nat) (x8_2 : Int64) (x10_3 : Int32) (H : Heap) (locs : List Loc) (ls : Array Slot), lp (fun L x => bX5_choose_5_16 p0 p1 p2 S Post x7_1 L x.1 x.2) n (x8_2, x10_3) → xH 34 X (cX X) (xA 34 X s.heap.size) s.heap S H locs → lv_has ls 15 [(0, .ref (xa X 8)), (1, .ref (xa X 5)), (2, .int p0), (3, .int p1), (4, .int p2), (7, .int x7_1), (8, .long x8_2), (10, .int x10_3)] → W p l e rX5_choose_5 s m args below meth c H locs 0 0 Q (F0 m 16 ls []) := by
    intro n
    induction n with
    | zero => intro x8_2 x10_3 H locs ls hf; exact hf.elim
    | succ n ih_16 =>
      intro x8_2 x10_3 H locs ls hf hw hl
      replace hf : bX5_choose_5_16 p0 p1 p2 S Post x7_1 (lp (fun L x => bX5_choose_5_16 p0 p1 p2 S Post x7_1 L x.1 x.2) n) x8_2 x10_3 := hf
      generalize lp (fun L x => bX5_choose_5_16 p0 p1 p2 S Post x7_1 L x.1 x.2) n = L_16 at hf ih_16
      rw [bX5_choose_5_16] at hf
      refine lv_iload hx hb dX5_choose_16 (lv_at hl 7 rfl) ?_
      refine lv_aload_n hx hb dX5_choose_18 rfl (lv_at hl 0 rfl) ?_
      refine x_get (k := 8) (v := .ref (xa X 1)) hx hb hts i_X5 hown hK hw (by decide) rfl rfl 0 (by decide) lf_9 (fun _ h9 => h9) rfl dX5_choose_19 ?_
      refine x_getN (k := 1) (v := .int (gI S 4)) hx hb hts i_X1 hown hK hw (by decide) rfl rfl 3 (by decide) lf_83 (fun _ h9 => h9) rfl dX5_choose_22 ?_
      refine lv_iconst (v := 1) hx hb dX5_choose_25 (by decide) ?_
      refine lv_isub hx hb dX5_choose_26 ?_
      have w_66 : ∀ (H : Heap) (locs : List Loc) (ls : Array Slot), jX5_choose_5_66 p1 p2 S Post x7_1 x8_2 x10_3 → xH 34 X (cX X) (xA 34 X s.heap.size) s.heap S H locs → lv_has ls 15 [(0, .ref (xa X 8)), (1, .ref (xa X 5)), (3, .int p1), (4, .int p2), (7, .int x7_1), (8, .long x8_2), (10, .int x10_3)] → W p l e rX5_choose_5 s m args below meth c H locs 0 0 Q (F0 m 66 ls []) := by
        intro H locs ls hf hw hl
        rw [jX5_choose_5_66] at hf
        refine lv_iconst (v := 1) hx hb dX5_choose_66 (by decide) ?_
        refine lv_istore (lv' := [(11, .int 1), (0, .ref (xa X 8)), (1, .ref (xa X 5)), (3, .int p1), (4, .int p2), (7, .int x7_1), (8, .long x8_2), (10, .int x10_3)]) hx hb dX5_choose_67 hl (by decide) rfl (fun ls hl => ?_)
        obtain ⟨n_69, hf⟩ := hf
        have w_69 : ∀ (n : Nat) (x8_4 : Int64) (x11_5 : Int32) (H : Heap) (locs : List Loc) (ls : Array Slot), lp (fun L x => bX5_choose_5_69 p1 p2 S Post x7_1 x10_3 L x.1 x.2) n (x8_4, x11_5) → xH 34 X (cX X) (xA 34 X s.heap.size) s.heap S H locs → lv_has ls 15 [(0, .ref (xa X 8)), (1, .ref (xa X 5)), (3, .int p1), (4, .int p2), (7, .int x7_1), (8, .long x8_4), (10, .int x10_3), (11, .int x11_5)] → W p l e rX5_choose_5 s m args below meth c H locs 0 0 Q (F0 m 69 ls []) := by
          intro n
          induction n with
          | zero => intro x8_4 x11_5 H locs ls hf; exact hf.elim
          | succ n ih_69 =>
            intro x8_4 x11_5 H locs ls hf hw hl
            replace hf : bX5_choose_5_69 p1 p2 S Post x7_1 x10_3 (lp (fun L x => bX5_choose_5_69 p1 p2 S Post x7_1 x10_3 L x.1 x.2) n) x8_4 x11_5 := hf
            generalize lp (fun L x => bX5_choose_5_69 p1 p2 S Post x7_1 x10_3 L x.1 x.2) n = L_69 at hf ih_69
            rw [bX5_choose_5_69] at hf
            refine lv_iload hx hb dX5_choose_69 (lv_at hl 7 rfl) ?_
            refine lv_iload hx hb dX5_choose_71 (lv_at hl 4 rfl) ?_
            have w_113 : ∀ (H : Heap) (locs : List Loc) (ls : Array Slot), jX5_choose_5_113 p1 p2 S Post x7_1 x10_3 x8_4 x11_5 → xH 34 X (cX X) (xA 34 X s.heap.size) s.heap S H locs → lv_has ls 15 [(0, .ref (xa X 8)), (1, .ref (xa X 5)), (3, .int p1), (4, .int p2), (7, .int x7_1), (8, .long x8_4), (10, .int x10_3), (11, .int x11_5)] → W p l e rX5_choose_5 s m args below meth c H locs 0 0 Q (F0 m 113 ls []) := by
              intro H locs ls hf hw hl
              rw [jX5_choose_5_113] at hf
              refine lv_iconst (v := 0) hx hb dX5_choose_113 (by decide) ?_
              refine lv_istore (lv' := [(12, .int 0), (0, .ref (xa X 8)), (1, .ref (xa X 5)), (3, .int p1), (4, .int p2), (7, .int x7_1), (8, .long x8_4), (10, .int x10_3), (11, .int x11_5)]) hx hb dX5_choose_114 hl (by decide) rfl (fun ls hl => ?_)
              obtain ⟨n_116, hf⟩ := hf
              have w_116 : ∀ (n : Nat) (x8_6 : Int64) (x12_7 : Int32) (H : Heap) (locs : List Loc) (ls : Array Slot), lp (fun L x => bX5_choose_5_116 p1 p2 S Post x7_1 x10_3 x11_5 L x.1 x.2) n (x8_6, x12_7) → xH 34 X (cX X) (xA 34 X s.heap.size) s.heap S H locs → lv_has ls 15 [(0, .ref (xa X 8)), (1, .ref (xa X 5)), (3, .int p1), (4, .int p2), (7, .int x7_1), (8, .long x8_6), (10, .int x10_3), (11, .int x11_5), (12, .int x12_7)] → W p l e rX5_choose_5 s m args below meth c H locs 0 0 Q (F0 m 116 ls []) := by
                intro n
                induction n with
                | zero => intro x8_6 x12_7 H locs ls hf; exact hf.elim
                | succ n ih_116 =>
                  intro x8_6 x12_7 H locs ls hf hw hl
                  replace hf : bX5_choose_5_116 p1 p2 S Post x7_1 x10_3 x11_5 (lp (fun L x => bX5_choose_5_116 p1 p2 S Post x7_1 x10_3 x11_5 L x.1 x.2) n) x8_6 x12_7 := hf
                  generalize lp (fun L x => bX5_choose_5_116 p1 p2 S Post x7_1 x10_3 x11_5 L x.1 x.2) n = L_116 at hf ih_116
                  rw [bX5_choose_5_116] at hf
                  refine lv_iload hx hb dX5_choose_116 (lv_at hl 8 rfl) ?_
                  refine lv_iload hx hb dX5_choose_118 (lv_at hl 4 rfl) ?_
                  refine lv_iload hx hb dX5_choose_120 (lv_at hl 7 rfl) ?_
                  refine lv_isub hx hb dX5_choose_122 ?_
                  have w_165 : ∀ (H : Heap) (locs : List Loc) (ls : Array Slot), jX5_choose_5_165 p2 S Post x10_3 x11_5 x8_6 x12_7 → xH 34 X (cX X) (xA 34 X s.heap.size) s.heap S H locs → lv_has ls 15 [(0, .ref (xa X 8)), (4, .int p2), (8, .long x8_6), (10, .int x10_3), (11, .int x11_5), (12, .int x12_7)] → W p l e rX5_choose_5 s m args below meth c H locs 0 0 Q (F0 m 165 ls []) := by
                    intro H locs ls hf hw hl
                    rw [jX5_choose_5_165] at hf
                    refine lv_aload_n hx hb dX5_choose_165 rfl (lv_at hl 0 rfl) ?_
                    refine x_get (k := 8) (v := .ref (xa X 21)) hx hb hts i_X5 hown hK hw (by decide) rfl rfl 4 (by decide) lf_27 (fun _ h9 => h9) rfl dX5_choose_166 ?_
                    refine lv_iload hx hb dX5_choose_169 (lv_at hl 1 rfl) ?_
                    refine lv_iload hx hb dX5_choose_171 (lv_at hl 3 rfl) ?_
                    refine x_ist (n := 15) hx hb hK hw (by decide) rfl rfl hf.1 dX5_choose_173 (uX_A21 X S _ _) (fun H locs hw => ?_)
                    replace hf := hf.2
                    obtain ⟨S_8, eS_8⟩ : ∃ z : gS, z = uA S 21 p2.toNatClampNeg x10_3 := ⟨_, rfl⟩
                    rw [← eS_8] at hw
                    replace hf := hf S_8 eS_8
                    refine lv_aload_n hx hb dX5_choose_174 rfl (lv_at hl 0 rfl) ?_
                    refine x_get (k := 8) (v := .ref (xa X 24)) hx hb hts i_X5 hown hK hw (by decide) rfl rfl 7 (by decide) lf_37 (fun _ h9 => h9) rfl dX5_choose_175 ?_
                    refine lv_iload hx hb dX5_choose_178 (lv_at hl 1 rfl) ?_
                    refine lv_iload hx hb dX5_choose_180 (lv_at hl 4 rfl) ?_
                    refine x_ist (n := 15) hx hb hK hw (by decide) rfl rfl hf.1 dX5_choose_182 (uX_A24 X S_8 _ _) (fun H locs hw => ?_)
                    replace hf := hf.2
                    obtain ⟨S_9, eS_9⟩ : ∃ z : gS, z = uA S_8 24 p2.toNatClampNeg x11_5 := ⟨_, rfl⟩
                    rw [← eS_9] at hw
                    replace hf := hf S_9 eS_9
                    refine lv_aload_n hx hb dX5_choose_183 rfl (lv_at hl 0 rfl) ?_
                    refine x_get (k := 8) (v := .ref (xa X 25)) hx hb hts i_X5 hown hK hw (by decide) rfl rfl 8 (by decide) lf_40 (fun _ h9 => h9) rfl dX5_choose_184 ?_
                    refine lv_iload hx hb dX5_choose_187 (lv_at hl 1 rfl) ?_
                    refine lv_iload hx hb dX5_choose_189 (lv_at hl 5 rfl) ?_
                    refine x_ist (n := 15) hx hb hK hw (by decide) rfl rfl hf.1 dX5_choose_191 (uX_A25 X S_9 _ _) (fun H locs hw => ?_)
                    replace hf := hf.2
                    obtain ⟨S_10, eS_10⟩ : ∃ z : gS, z = uA S_9 25 p2.toNatClampNeg x12_7 := ⟨_, rfl⟩
                    rw [← eS_10] at hw
                    replace hf := hf S_10 eS_10
                    refine lv_lload hx hb dX5_choose_192 (lv_at hl 2 rfl) ?_
                    exact hQ _ _ _ _ _ _ hf hw dX5_choose_194
                  refine lv_icmp_ge (tgt := 165) hx hb dX5_choose_123 (by decide) (fun c_11 => ?_) (fun c_11 => ?_)
                  · replace hf := hf.1 c_11
                    exact w_165  _ _ _ hf hw (lv_sub hl [0, 3, 5, 6, 7, 8] rfl)
                  · replace hf := hf.2 c_11
                    refine lv_aload_n hx hb dX5_choose_126 rfl (lv_at hl 1 rfl) ?_
                    refine lv_iload hx hb dX5_choose_127 (lv_at hl 6 rfl) ?_
                    refine lv_iload hx hb dX5_choose_129 (lv_at hl 4 rfl) ?_
                    refine lv_iload_n hx hb dX5_choose_131 rfl (lv_at hl 2 rfl) ?_
                    refine lv_iload hx hb dX5_choose_132 (lv_at hl 7 rfl) ?_
                    refine lv_iload hx hb dX5_choose_134 (lv_at hl 8 rfl) ?_
                    refine x_cl (x_rU (As := [.int x10_3, .int x7_1, .int p1, .int x11_5, .int x12_7]) (rest := []) (okX X) hC hw (kX0_ofSecond_5 l X S _ x10_3 x7_1 p1 x11_5 x12_7 _ hf) (va_cwU 5 hts (gU (owner := "GrammarAmbiguity$Counts") (x := ⟨"GrammarAmbiguity$Counts", "ofSecond", "(IIIII)J"⟩) q_729 q_730 q_731 q_567 q_66 q_568) rfl rfl rfl rfl (by decide +kernel) ⟨Nat.le_of_ble_eq_true rfl, Nat.le_of_ble_eq_true rfl⟩) (x_recv hK hw (k := 5) (by decide) rfl rfl) rfl hl.1 rfl (Nat.le_of_ble_eq_true rfl) dX5_choose_136) hw hi (fun r_12 S_13 H locs hf hw => ?_)
                    obtain ⟨hf, rfl⟩ := hf
                    refine lv_lstore (lv' := [(13, .long r_12), (0, .ref (xa X 8)), (1, .ref (xa X 5)), (3, .int p1), (4, .int p2), (7, .int x7_1), (8, .long x8_6), (10, .int x10_3), (11, .int x11_5), (12, .int x12_7)]) hx hb dX5_choose_139 hl (by decide) rfl (fun ls hl => ?_)
                    refine lv_lload hx hb dX5_choose_141 (lv_at hl 6 rfl) ?_
                    refine lv_lload hx hb dX5_choose_143 (lv_at hl 0 rfl) ?_
                    refine W.lcmp hx hb dX5_choose_145 ?_
                    refine lv_if_ge (tgt := 152) hx hb dX5_choose_146 (by decide) (fun c_14 => ?_) (fun c_14 => ?_)
                    · replace hf := hf.1 c_14
                      refine lv_lload hx hb dX5_choose_152 (lv_at hl 6 rfl) ?_
                      refine lv_lload hx hb dX5_choose_154 (lv_at hl 0 rfl) ?_
                      refine lv_lsub hx hb dX5_choose_156 ?_
                      refine lv_topl (fun x8_15 ex8_15 => ?_)
                      replace hf := hf x8_15 ex8_15
                      refine lv_lstore (lv' := [(8, .long x8_15), (13, .long r_12), (0, .ref (xa X 8)), (1, .ref (xa X 5)), (3, .int p1), (4, .int p2), (7, .int x7_1), (10, .int x10_3), (11, .int x11_5), (12, .int x12_7)]) hx hb dX5_choose_157 hl (by decide) rfl (fun ls hl => ?_)
                      obtain ⟨x12_16, ex12_16⟩ : ∃ y : Int32, y = x12_7 + 1 := ⟨_, rfl⟩
                      replace hf := hf x12_16 ex12_16
                      refine lv_iinc (v := x12_16) (lv' := [(12, .int x12_16), (8, .long x8_15), (13, .long r_12), (0, .ref (xa X 8)), (1, .ref (xa X 5)), (3, .int p1), (4, .int p2), (7, .int x7_1), (10, .int x10_3), (11, .int x11_5)]) hx hb dX5_choose_159 hl (k := 9) rfl (by rw [ex12_16]; rfl) (by decide) rfl (fun ls hl => ?_)
                      refine lv_goto (tgt := 116) hx hb dX5_choose_162 (by decide) ?_
                      exact ih_116 x8_15 x12_16 _ _ _ hf hw (lv_sub hl [3, 4, 5, 6, 7, 1, 8, 9, 0] rfl)
                    · replace hf := hf.2 c_14
                      refine lv_goto (tgt := 165) hx hb dX5_choose_149 (by decide) ?_
                      exact w_165  _ _ _ hf hw (lv_sub hl [1, 4, 6, 7, 8, 9] rfl)
              exact w_116 n_116 x8_4 0 _ _ _ hf hw (lv_sub hl [1, 2, 3, 4, 5, 6, 7, 8, 0] rfl)
            refine lv_icmp_ge (tgt := 113) hx hb dX5_choose_73 (by decide) (fun c_17 => ?_) (fun c_17 => ?_)
            · replace hf := hf.1 c_17
              exact w_113  _ _ _ hf hw (lv_sub hl [0, 1, 2, 3, 4, 5, 6, 7] rfl)
            · replace hf := hf.2 c_17
              refine lv_aload_n hx hb dX5_choose_76 rfl (lv_at hl 1 rfl) ?_
              refine lv_iload hx hb dX5_choose_77 (lv_at hl 6 rfl) ?_
              refine lv_iload hx hb dX5_choose_79 (lv_at hl 4 rfl) ?_
              refine lv_iload_n hx hb dX5_choose_81 rfl (lv_at hl 2 rfl) ?_
              refine lv_iload hx hb dX5_choose_82 (lv_at hl 7 rfl) ?_
              refine x_cl (x_rU (As := [.int x10_3, .int x7_1, .int p1, .int x11_5]) (rest := []) (okX X) hC hw (kX0_ofFirst_5 l X S _ x10_3 x7_1 p1 x11_5 _ hf) (va_cwU 4 hts (gU (owner := "GrammarAmbiguity$Counts") (x := ⟨"GrammarAmbiguity$Counts", "ofFirst", "(IIII)J"⟩) q_728 q_426 q_427 q_428 q_66 q_429) rfl rfl rfl rfl (by decide +kernel) ⟨Nat.le_of_ble_eq_true rfl, Nat.le_of_ble_eq_true rfl⟩) (x_recv hK hw (k := 5) (by decide) rfl rfl) rfl hl.1 rfl (Nat.le_of_ble_eq_true rfl) dX5_choose_84) hw hi (fun r_18 S_19 H locs hf hw => ?_)
              obtain ⟨hf, rfl⟩ := hf
              refine lv_lstore (lv' := [(12, .long r_18), (0, .ref (xa X 8)), (1, .ref (xa X 5)), (3, .int p1), (4, .int p2), (7, .int x7_1), (8, .long x8_4), (10, .int x10_3), (11, .int x11_5)]) hx hb dX5_choose_87 hl (by decide) rfl (fun ls hl => ?_)
              refine lv_lload hx hb dX5_choose_89 (lv_at hl 6 rfl) ?_
              refine lv_lload hx hb dX5_choose_91 (lv_at hl 0 rfl) ?_
              refine W.lcmp hx hb dX5_choose_93 ?_
              refine lv_if_ge (tgt := 100) hx hb dX5_choose_94 (by decide) (fun c_20 => ?_) (fun c_20 => ?_)
              · replace hf := hf.1 c_20
                refine lv_lload hx hb dX5_choose_100 (lv_at hl 6 rfl) ?_
                refine lv_lload hx hb dX5_choose_102 (lv_at hl 0 rfl) ?_
                refine lv_lsub hx hb dX5_choose_104 ?_
                refine lv_topl (fun x8_21 ex8_21 => ?_)
                replace hf := hf x8_21 ex8_21
                refine lv_lstore (lv' := [(8, .long x8_21), (12, .long r_18), (0, .ref (xa X 8)), (1, .ref (xa X 5)), (3, .int p1), (4, .int p2), (7, .int x7_1), (10, .int x10_3), (11, .int x11_5)]) hx hb dX5_choose_105 hl (by decide) rfl (fun ls hl => ?_)
                obtain ⟨x11_22, ex11_22⟩ : ∃ y : Int32, y = x11_5 + 1 := ⟨_, rfl⟩
                replace hf := hf x11_22 ex11_22
                refine lv_iinc (v := x11_22) (lv' := [(11, .int x11_22), (8, .long x8_21), (12, .long r_18), (0, .ref (xa X 8)), (1, .ref (xa X 5)), (3, .int p1), (4, .int p2), (7, .int x7_1), (10, .int x10_3)]) hx hb dX5_choose_107 hl (k := 8) rfl (by rw [ex11_22]; rfl) (by decide) rfl (fun ls hl => ?_)
                refine lv_goto (tgt := 69) hx hb dX5_choose_110 (by decide) ?_
                exact ih_69 x8_21 x11_22 _ _ _ hf hw (lv_sub hl [3, 4, 5, 6, 7, 1, 8, 0] rfl)
              · replace hf := hf.2 c_20
                refine lv_goto (tgt := 113) hx hb dX5_choose_97 (by decide) ?_
                exact w_113  _ _ _ hf hw (lv_sub hl [1, 2, 3, 4, 5, 6, 7, 8] rfl)
        exact w_69 n_69 x8_2 1 _ _ _ hf hw (lv_sub hl [1, 2, 3, 4, 5, 6, 7, 0] rfl)
      refine lv_icmp_ge (tgt := 66) hx hb dX5_choose_27 (by decide) (fun c_23 => ?_) (fun c_23 => ?_)
      · replace hf := hf.1 c_23
        exact w_66  _ _ _ hf hw (lv_sub hl [0, 1, 3, 4, 5, 6, 7] rfl)
      · replace hf := hf.2 c_23
        refine lv_aload_n hx hb dX5_choose_30 rfl (lv_at hl 1 rfl) ?_
        refine lv_iload_n hx hb dX5_choose_31 rfl (lv_at hl 2 rfl) ?_
        refine lv_iload hx hb dX5_choose_32 (lv_at hl 7 rfl) ?_
        refine lv_iload hx hb dX5_choose_34 (lv_at hl 5 rfl) ?_
        refine lv_iload_n hx hb dX5_choose_36 rfl (lv_at hl 3 rfl) ?_
        refine x_cl (x_rU (As := [.int p0, .int x10_3, .int x7_1, .int p1]) (rest := []) (okX X) hC hw (kX0_ofProduction_5 l X S _ p0 x10_3 x7_1 p1 _ hf) (va_cwU 4 hts (gU (owner := "GrammarAmbiguity$Counts") (x := ⟨"GrammarAmbiguity$Counts", "ofProduction", "(IIII)J"⟩) q_727 q_421 q_422 q_423 q_66 q_424) rfl rfl rfl rfl (by decide +kernel) ⟨Nat.le_of_ble_eq_true rfl, Nat.le_of_ble_eq_true rfl⟩) (x_recv hK hw (k := 5) (by decide) rfl rfl) rfl hl.1 rfl (Nat.le_of_ble_eq_true rfl) dX5_choose_37) hw hi (fun r_24 S_25 H locs hf hw => ?_)
        obtain ⟨hf, rfl⟩ := hf
        refine lv_lstore (lv' := [(11, .long r_24), (0, .ref (xa X 8)), (1, .ref (xa X 5)), (2, .int p0), (3, .int p1), (4, .int p2), (7, .int x7_1), (8, .long x8_2), (10, .int x10_3)]) hx hb dX5_choose_40 hl (by decide) rfl (fun ls hl => ?_)
        refine lv_lload hx hb dX5_choose_42 (lv_at hl 7 rfl) ?_
        refine lv_lload hx hb dX5_choose_44 (lv_at hl 0 rfl) ?_
        refine W.lcmp hx hb dX5_choose_46 ?_
        refine lv_if_ge (tgt := 53) hx hb dX5_choose_47 (by decide) (fun c_26 => ?_) (fun c_26 => ?_)
        · replace hf := hf.1 c_26
          refine lv_lload hx hb dX5_choose_53 (lv_at hl 7 rfl) ?_
          refine lv_lload hx hb dX5_choose_55 (lv_at hl 0 rfl) ?_
          refine lv_lsub hx hb dX5_choose_57 ?_
          refine lv_topl (fun x8_27 ex8_27 => ?_)
          replace hf := hf x8_27 ex8_27
          refine lv_lstore (lv' := [(8, .long x8_27), (11, .long r_24), (0, .ref (xa X 8)), (1, .ref (xa X 5)), (2, .int p0), (3, .int p1), (4, .int p2), (7, .int x7_1), (10, .int x10_3)]) hx hb dX5_choose_58 hl (by decide) rfl (fun ls hl => ?_)
          obtain ⟨x10_28, ex10_28⟩ : ∃ y : Int32, y = x10_3 + 1 := ⟨_, rfl⟩
          replace hf := hf x10_28 ex10_28
          refine lv_iinc (v := x10_28) (lv' := [(10, .int x10_28), (8, .long x8_27), (11, .long r_24), (0, .ref (xa X 8)), (1, .ref (xa X 5)), (2, .int p0), (3, .int p1), (4, .int p2), (7, .int x7_1)]) hx hb dX5_choose_60 hl (k := 8) rfl (by rw [ex10_28]; rfl) (by decide) rfl (fun ls hl => ?_)
          refine lv_goto (tgt := 16) hx hb dX5_choose_63 (by decide) ?_
          exact ih_16 x8_27 x10_28 _ _ _ hf hw (lv_sub hl [3, 4, 5, 6, 7, 8, 1, 0] rfl)
        · replace hf := hf.2 c_26
          refine lv_goto (tgt := 66) hx hb dX5_choose_50 (by decide) ?_
          exact w_66  _ _ _ hf hw (lv_sub hl [1, 2, 4, 5, 6, 7, 8] rfl)
  exact w_16 n_16 p3 0 _ _ _ hf hw (lv_sub hl [3, 4, 5, 6, 7, 2, 1, 0] rfl)
def jX5_choose_6_165 (p2 : Int32) (S : gS) (Post : Int64 → gS → Prop) (x10_3 : Int32) (x11_5 : Int32) (x8_6 : Int64) (x12_7 : Int32) : Prop :=
  (vp_in p2 15 ∧ (∀ S_8 : gS, S_8 = uA S 21 p2.toNatClampNeg x10_3 → (vp_in p2 15 ∧ (∀ S_9 : gS, S_9 = uA S_8 24 p2.toNatClampNeg x11_5 → (vp_in p2 15 ∧ (∀ S_10 : gS, S_10 = uA S_9 25 p2.toNatClampNeg x12_7 → Post x8_6 S_10))))))
def bX5_choose_6_116 (p1 : Int32) (p2 : Int32) (S : gS) (Post : Int64 → gS → Prop) (x7_1 : Int32) (x10_3 : Int32) (x11_5 : Int32) (L_116 : Int64 × Int32 → Prop) (x8_6 : Int64) (x12_7 : Int32) : Prop :=
  (((x7_1 - x11_5) ≤ x12_7 → jX5_choose_6_165 p2 S Post x10_3 x11_5 x8_6 x12_7) ∧ (¬ (x7_1 - x11_5) ≤ x12_7 → (pX0_ofSecond_6 x10_3 x7_1 p1 x11_5 x12_7 S (fun r_12 => ((0 ≤ (lg_cmp x8_6 r_12) → (∀ x8_15 : Int64, x8_15 = (x8_6 - r_12) → (∀ x12_16 : Int32, x12_16 = x12_7 + 1 → L_116 (x8_15, x12_16)))) ∧ (¬ 0 ≤ (lg_cmp x8_6 r_12) → jX5_choose_6_165 p2 S Post x10_3 x11_5 x8_6 x12_7))))))
def jX5_choose_6_113 (p1 : Int32) (p2 : Int32) (S : gS) (Post : Int64 → gS → Prop) (x7_1 : Int32) (x10_3 : Int32) (x8_4 : Int64) (x11_5 : Int32) : Prop :=
  ∃ n, lp (fun L x => bX5_choose_6_116 p1 p2 S Post x7_1 x10_3 x11_5 L x.1 x.2) n (x8_4, 0)
def bX5_choose_6_69 (p1 : Int32) (p2 : Int32) (S : gS) (Post : Int64 → gS → Prop) (x7_1 : Int32) (x10_3 : Int32) (L_69 : Int64 × Int32 → Prop) (x8_4 : Int64) (x11_5 : Int32) : Prop :=
  ((x7_1 ≤ x11_5 → jX5_choose_6_113 p1 p2 S Post x7_1 x10_3 x8_4 x11_5) ∧ (¬ x7_1 ≤ x11_5 → (pX0_ofFirst_6 x10_3 x7_1 p1 x11_5 S (fun r_18 => ((0 ≤ (lg_cmp x8_4 r_18) → (∀ x8_21 : Int64, x8_21 = (x8_4 - r_18) → (∀ x11_22 : Int32, x11_22 = x11_5 + 1 → L_69 (x8_21, x11_22)))) ∧ (¬ 0 ≤ (lg_cmp x8_4 r_18) → jX5_choose_6_113 p1 p2 S Post x7_1 x10_3 x8_4 x11_5))))))
def jX5_choose_6_66 (p1 : Int32) (p2 : Int32) (S : gS) (Post : Int64 → gS → Prop) (x7_1 : Int32) (x8_2 : Int64) (x10_3 : Int32) : Prop :=
  ∃ n, lp (fun L x => bX5_choose_6_69 p1 p2 S Post x7_1 x10_3 L x.1 x.2) n (x8_2, 1)
def bX5_choose_6_16 (p0 : Int32) (p1 : Int32) (p2 : Int32) (S : gS) (Post : Int64 → gS → Prop) (x7_1 : Int32) (L_16 : Int64 × Int32 → Prop) (x8_2 : Int64) (x10_3 : Int32) : Prop :=
  ((((gI S 4) - 1) ≤ x10_3 → jX5_choose_6_66 p1 p2 S Post x7_1 x8_2 x10_3) ∧ (¬ ((gI S 4) - 1) ≤ x10_3 → (pX0_ofProduction_6 p0 x10_3 x7_1 p1 S (fun r_24 => ((0 ≤ (lg_cmp x8_2 r_24) → (∀ x8_27 : Int64, x8_27 = (x8_2 - r_24) → (∀ x10_28 : Int32, x10_28 = x10_3 + 1 → L_16 (x8_27, x10_28)))) ∧ (¬ 0 ≤ (lg_cmp x8_2 r_24) → jX5_choose_6_66 p1 p2 S Post x7_1 x8_2 x10_3))))))
def pX5_choose_6 (p0 : Int32) (p1 : Int32) (p2 : Int32) (p3 : Int64) (S : gS) (Post : Int64 → gS → Prop) : Prop :=
  (vp_in p2 15 ∧ (∀ x7_1 : Int32, x7_1 = gA S 23 p2.toNatClampNeg → ∃ n, lp (fun L x => bX5_choose_6_16 p0 p1 p2 S Post x7_1 L x.1 x.2) n (p3, 0)))
def rX5_choose_6 : Room := { frames := 5, cells := 0, slots := 0, locals := 134 }
set_option maxHeartbeats 40000000 in
set_option maxRecDepth 100000 in
theorem kX5_choose_6 (l : Launch) (X : xG) (S : gS) (sz : Nat) (p0 : Int32) (p1 : Int32) (p2 : Int32) (p3 : Int64) (Post : Int64 → gS → Prop) (hf : pX5_choose_6 p0 p1 p2 p3 S Post) : xMl l yX5_choose (Cond.code yX5_choose cX5_choose 15 (some .long) :: WS) rX5_choose_6 34 X (cX X) (eX X) S sz [.ref (xa X 8), .ref (xa X 6), .int p0, .int p1, .int p2, .long p3] Post := by
  refine xMl.of (cc := cX5_choose) (maxL := 15) (own := RX5) (by decide) rfl rfl (Nat.le_of_ble_eq_true rfl) ?_
  intro p e s m args below meth c ls Q hC hQ hw hl
  obtain ⟨hx, hb, hml, hown, hts, hE, hi⟩ := id hC
  have hK := hE.1
  have hl : lv_has ls 15 [(0, .ref (xa X 8)), (1, .ref (xa X 6)), (2, .int p0), (3, .int p1), (4, .int p2), (5, .long p3)] := hl
  have lf_34 : (Cond.fieldLink RX5 34 "GrammarAmbiguity$Tree" "lengths" "[I").before args s = true := hts _ q_91
  have lf_9 : (Cond.fieldLink RX5 9 "GrammarAmbiguity$Tree" "grammar" "LGrammarAmbiguity$Grammar;").before args s = true := hts _ q_85
  have lf_83 : va_Nw (.fieldLinkNest RX5 83 "GrammarAmbiguity$Grammar" "productions" "I" "GrammarAmbiguity") s := hE.2.1 _ (by decide +kernel)
  have lf_27 : (Cond.fieldLink RX5 27 "GrammarAmbiguity$Tree" "productions" "[I").before args s = true := hts _ q_89
  have lf_37 : (Cond.fieldLink RX5 37 "GrammarAmbiguity$Tree" "firsts" "[I").before args s = true := hts _ q_92
  have lf_40 : (Cond.fieldLink RX5 40 "GrammarAmbiguity$Tree" "seconds" "[I").before args s = true := hts _ q_93
  rw [pX5_choose_6] at hf
  refine lv_aload_n hx hb dX5_choose_0 rfl (lv_at hl 0 rfl) ?_
  refine x_get (k := 8) (v := .ref (xa X 23)) hx hb hts i_X5 hown hK hw (by decide) rfl rfl 6 (by decide) lf_34 (fun _ h9 => h9) rfl dX5_choose_1 ?_
  refine lv_iload hx hb dX5_choose_4 (lv_at hl 4 rfl) ?_
  refine x_ild (n := 15) hx hb hK hw (by decide) rfl rfl hf.1 dX5_choose_6 ?_
  replace hf := hf.2
  refine lv_topi (fun x7_1 ex7_1 => ?_)
  replace hf := hf x7_1 ex7_1
  refine lv_istore (lv' := [(7, .int x7_1), (0, .ref (xa X 8)), (1, .ref (xa X 6)), (2, .int p0), (3, .int p1), (4, .int p2), (5, .long p3)]) hx hb dX5_choose_7 hl (by decide) rfl (fun ls hl => ?_)
  refine lv_lload hx hb dX5_choose_9 (lv_at hl 6 rfl) ?_
  refine lv_lstore (lv' := [(8, .long p3), (7, .int x7_1), (0, .ref (xa X 8)), (1, .ref (xa X 6)), (2, .int p0), (3, .int p1), (4, .int p2), (5, .long p3)]) hx hb dX5_choose_11 hl (by decide) rfl (fun ls hl => ?_)
  refine lv_iconst (v := 0) hx hb dX5_choose_13 (by decide) ?_
  refine lv_istore (lv' := [(10, .int 0), (8, .long p3), (7, .int x7_1), (0, .ref (xa X 8)), (1, .ref (xa X 6)), (2, .int p0), (3, .int p1), (4, .int p2), (5, .long p3)]) hx hb dX5_choose_14 hl (by decide) rfl (fun ls hl => ?_)
  obtain ⟨n_16, hf⟩ := hf
  have w_16 : ∀ (n : Nat) (x8_2 : Int64) (x10_3 : Int32) (H : Heap) (locs : List Loc) (ls : Array Slot), lp (fun L x => bX5_choose_6_16 p0 p1 p2 S Post x7_1 L x.1 x.2) n (x8_2, x10_3) → xH 34 X (cX X) (xA 34 X s.heap.size) s.heap S H locs → lv_has ls 15 [(0, .ref (xa X 8)), (1, .ref (xa X 6)), (2, .int p0), (3, .int p1), (4, .int p2), (7, .int x7_1), (8, .long x8_2), (10, .int x10_3)] → W p l e rX5_choose_6 s m args below meth c H locs 0 0 Q (F0 m 16 ls []) := by
    intro n
    induction n with
    | zero => intro x8_2 x10_3 H locs ls hf; exact hf.elim
    | succ n ih_16 =>
      intro x8_2 x10_3 H locs ls hf hw hl
      replace hf : bX5_choose_6_16 p0 p1 p2 S Post x7_1 (lp (fun L x => bX5_choose_6_16 p0 p1 p2 S Post x7_1 L x.1 x.2) n) x8_2 x10_3 := hf
      generalize lp (fun L x => bX5_choose_6_16 p0 p1 p2 S Post x7_1 L x.1 x.2) n = L_16 at hf ih_16
      rw [bX5_choose_6_16] at hf
      refine lv_iload hx hb dX5_choose_16 (lv_at hl 7 rfl) ?_
      refine lv_aload_n hx hb dX5_choose_18 rfl (lv_at hl 0 rfl) ?_
      refine x_get (k := 8) (v := .ref (xa X 1)) hx hb hts i_X5 hown hK hw (by decide) rfl rfl 0 (by decide) lf_9 (fun _ h9 => h9) rfl dX5_choose_19 ?_
      refine x_getN (k := 1) (v := .int (gI S 4)) hx hb hts i_X1 hown hK hw (by decide) rfl rfl 3 (by decide) lf_83 (fun _ h9 => h9) rfl dX5_choose_22 ?_
      refine lv_iconst (v := 1) hx hb dX5_choose_25 (by decide) ?_
      refine lv_isub hx hb dX5_choose_26 ?_
      have w_66 : ∀ (H : Heap) (locs : List Loc) (ls : Array Slot), jX5_choose_6_66 p1 p2 S Post x7_1 x8_2 x10_3 → xH 34 X (cX X) (xA 34 X s.heap.size) s.heap S H locs → lv_has ls 15 [(0, .ref (xa X 8)), (1, .ref (xa X 6)), (3, .int p1), (4, .int p2), (7, .int x7_1), (8, .long x8_2), (10, .int x10_3)] → W p l e rX5_choose_6 s m args below meth c H locs 0 0 Q (F0 m 66 ls []) := by
        intro H locs ls hf hw hl
        rw [jX5_choose_6_66] at hf
        refine lv_iconst (v := 1) hx hb dX5_choose_66 (by decide) ?_
        refine lv_istore (lv' := [(11, .int 1), (0, .ref (xa X 8)), (1, .ref (xa X 6)), (3, .int p1), (4, .int p2), (7, .int x7_1), (8, .long x8_2), (10, .int x10_3)]) hx hb dX5_choose_67 hl (by decide) rfl (fun ls hl => ?_)
        obtain ⟨n_69, hf⟩ := hf
        have w_69 : ∀ (n : Nat) (x8_4 : Int64) (x11_5 : Int32) (H : Heap) (locs : List Loc) (ls : Array Slot), lp (fun L x => bX5_choose_6_69 p1 p2 S Post x7_1 x10_3 L x.1 x.2) n (x8_4, x11_5) → xH 34 X (cX X) (xA 34 X s.heap.size) s.heap S H locs → lv_has ls 15 [(0, .ref (xa X 8)), (1, .ref (xa X 6)), (3, .int p1), (4, .int p2), (7, .int x7_1), (8, .long x8_4), (10, .int x10_3), (11, .int x11_5)] → W p l e rX5_choose_6 s m args below meth c H locs 0 0 Q (F0 m 69 ls []) := by
          intro n
          induction n with
          | zero => intro x8_4 x11_5 H locs ls hf; exact hf.elim
          | succ n ih_69 =>
            intro x8_4 x11_5 H locs ls hf hw hl
            replace hf : bX5_choose_6_69 p1 p2 S Post x7_1 x10_3 (lp (fun L x => bX5_choose_6_69 p1 p2 S Post x7_1 x10_3 L x.1 x.2) n) x8_4 x11_5 := hf
            generalize lp (fun L x => bX5_choose_6_69 p1 p2 S Post x7_1 x10_3 L x.1 x.2) n = L_69 at hf ih_69
            rw [bX5_choose_6_69] at hf
            refine lv_iload hx hb dX5_choose_69 (lv_at hl 7 rfl) ?_
            refine lv_iload hx hb dX5_choose_71 (lv_at hl 4 rfl) ?_
            have w_113 : ∀ (H : Heap) (locs : List Loc) (ls : Array Slot), jX5_choose_6_113 p1 p2 S Post x7_1 x10_3 x8_4 x11_5 → xH 34 X (cX X) (xA 34 X s.heap.size) s.heap S H locs → lv_has ls 15 [(0, .ref (xa X 8)), (1, .ref (xa X 6)), (3, .int p1), (4, .int p2), (7, .int x7_1), (8, .long x8_4), (10, .int x10_3), (11, .int x11_5)] → W p l e rX5_choose_6 s m args below meth c H locs 0 0 Q (F0 m 113 ls []) := by
              intro H locs ls hf hw hl
              rw [jX5_choose_6_113] at hf
              refine lv_iconst (v := 0) hx hb dX5_choose_113 (by decide) ?_
              refine lv_istore (lv' := [(12, .int 0), (0, .ref (xa X 8)), (1, .ref (xa X 6)), (3, .int p1), (4, .int p2), (7, .int x7_1), (8, .long x8_4), (10, .int x10_3), (11, .int x11_5)]) hx hb dX5_choose_114 hl (by decide) rfl (fun ls hl => ?_)
              obtain ⟨n_116, hf⟩ := hf
              have w_116 : ∀ (n : Nat) (x8_6 : Int64) (x12_7 : Int32) (H : Heap) (locs : List Loc) (ls : Array Slot), lp (fun L x => bX5_choose_6_116 p1 p2 S Post x7_1 x10_3 x11_5 L x.1 x.2) n (x8_6, x12_7) → xH 34 X (cX X) (xA 34 X s.heap.size) s.heap S H locs → lv_has ls 15 [(0, .ref (xa X 8)), (1, .ref (xa X 6)), (3, .int p1), (4, .int p2), (7, .int x7_1), (8, .long x8_6), (10, .int x10_3), (11, .int x11_5), (12, .int x12_7)] → W p l e rX5_choose_6 s m args below meth c H locs 0 0 Q (F0 m 116 ls []) := by
                intro n
                induction n with
                | zero => intro x8_6 x12_7 H locs ls hf; exact hf.elim
                | succ n ih_116 =>
                  intro x8_6 x12_7 H locs ls hf hw hl
                  replace hf : bX5_choose_6_116 p1 p2 S Post x7_1 x10_3 x11_5 (lp (fun L x => bX5_choose_6_116 p1 p2 S Post x7_1 x10_3 x11_5 L x.1 x.2) n) x8_6 x12_7 := hf
                  generalize lp (fun L x => bX5_choose_6_116 p1 p2 S Post x7_1 x10_3 x11_5 L x.1 x.2) n = L_116 at hf ih_116
                  rw [bX5_choose_6_116] at hf
                  refine lv_iload hx hb dX5_choose_116 (lv_at hl 8 rfl) ?_
                  refine lv_iload hx hb dX5_choose_118 (lv_at hl 4 rfl) ?_
                  refine lv_iload hx hb dX5_choose_120 (lv_at hl 7 rfl) ?_
                  refine lv_isub hx hb dX5_choose_122 ?_
                  have w_165 : ∀ (H : Heap) (locs : List Loc) (ls : Array Slot), jX5_choose_6_165 p2 S Post x10_3 x11_5 x8_6 x12_7 → xH 34 X (cX X) (xA 34 X s.heap.size) s.heap S H locs → lv_has ls 15 [(0, .ref (xa X 8)), (4, .int p2), (8, .long x8_6), (10, .int x10_3), (11, .int x11_5), (12, .int x12_7)] → W p l e rX5_choose_6 s m args below meth c H locs 0 0 Q (F0 m 165 ls []) := by
                    intro H locs ls hf hw hl
                    rw [jX5_choose_6_165] at hf
                    refine lv_aload_n hx hb dX5_choose_165 rfl (lv_at hl 0 rfl) ?_
                    refine x_get (k := 8) (v := .ref (xa X 21)) hx hb hts i_X5 hown hK hw (by decide) rfl rfl 4 (by decide) lf_27 (fun _ h9 => h9) rfl dX5_choose_166 ?_
                    refine lv_iload hx hb dX5_choose_169 (lv_at hl 1 rfl) ?_
                    refine lv_iload hx hb dX5_choose_171 (lv_at hl 3 rfl) ?_
                    refine x_ist (n := 15) hx hb hK hw (by decide) rfl rfl hf.1 dX5_choose_173 (uX_A21 X S _ _) (fun H locs hw => ?_)
                    replace hf := hf.2
                    obtain ⟨S_8, eS_8⟩ : ∃ z : gS, z = uA S 21 p2.toNatClampNeg x10_3 := ⟨_, rfl⟩
                    rw [← eS_8] at hw
                    replace hf := hf S_8 eS_8
                    refine lv_aload_n hx hb dX5_choose_174 rfl (lv_at hl 0 rfl) ?_
                    refine x_get (k := 8) (v := .ref (xa X 24)) hx hb hts i_X5 hown hK hw (by decide) rfl rfl 7 (by decide) lf_37 (fun _ h9 => h9) rfl dX5_choose_175 ?_
                    refine lv_iload hx hb dX5_choose_178 (lv_at hl 1 rfl) ?_
                    refine lv_iload hx hb dX5_choose_180 (lv_at hl 4 rfl) ?_
                    refine x_ist (n := 15) hx hb hK hw (by decide) rfl rfl hf.1 dX5_choose_182 (uX_A24 X S_8 _ _) (fun H locs hw => ?_)
                    replace hf := hf.2
                    obtain ⟨S_9, eS_9⟩ : ∃ z : gS, z = uA S_8 24 p2.toNatClampNeg x11_5 := ⟨_, rfl⟩
                    rw [← eS_9] at hw
                    replace hf := hf S_9 eS_9
                    refine lv_aload_n hx hb dX5_choose_183 rfl (lv_at hl 0 rfl) ?_
                    refine x_get (k := 8) (v := .ref (xa X 25)) hx hb hts i_X5 hown hK hw (by decide) rfl rfl 8 (by decide) lf_40 (fun _ h9 => h9) rfl dX5_choose_184 ?_
                    refine lv_iload hx hb dX5_choose_187 (lv_at hl 1 rfl) ?_
                    refine lv_iload hx hb dX5_choose_189 (lv_at hl 5 rfl) ?_
                    refine x_ist (n := 15) hx hb hK hw (by decide) rfl rfl hf.1 dX5_choose_191 (uX_A25 X S_9 _ _) (fun H locs hw => ?_)
                    replace hf := hf.2
                    obtain ⟨S_10, eS_10⟩ : ∃ z : gS, z = uA S_9 25 p2.toNatClampNeg x12_7 := ⟨_, rfl⟩
                    rw [← eS_10] at hw
                    replace hf := hf S_10 eS_10
                    refine lv_lload hx hb dX5_choose_192 (lv_at hl 2 rfl) ?_
                    exact hQ _ _ _ _ _ _ hf hw dX5_choose_194
                  refine lv_icmp_ge (tgt := 165) hx hb dX5_choose_123 (by decide) (fun c_11 => ?_) (fun c_11 => ?_)
                  · replace hf := hf.1 c_11
                    exact w_165  _ _ _ hf hw (lv_sub hl [0, 3, 5, 6, 7, 8] rfl)
                  · replace hf := hf.2 c_11
                    refine lv_aload_n hx hb dX5_choose_126 rfl (lv_at hl 1 rfl) ?_
                    refine lv_iload hx hb dX5_choose_127 (lv_at hl 6 rfl) ?_
                    refine lv_iload hx hb dX5_choose_129 (lv_at hl 4 rfl) ?_
                    refine lv_iload_n hx hb dX5_choose_131 rfl (lv_at hl 2 rfl) ?_
                    refine lv_iload hx hb dX5_choose_132 (lv_at hl 7 rfl) ?_
                    refine lv_iload hx hb dX5_choose_134 (lv_at hl 8 rfl) ?_
                    refine x_cl (x_rU (As := [.int x10_3, .int x7_1, .int p1, .int x11_5, .int x12_7]) (rest := []) (okX X) hC hw (kX0_ofSecond_6 l X S _ x10_3 x7_1 p1 x11_5 x12_7 _ hf) (va_cwU 5 hts (gU (owner := "GrammarAmbiguity$Counts") (x := ⟨"GrammarAmbiguity$Counts", "ofSecond", "(IIIII)J"⟩) q_729 q_730 q_732 q_567 q_66 q_568) rfl rfl rfl rfl (by decide +kernel) ⟨Nat.le_of_ble_eq_true rfl, Nat.le_of_ble_eq_true rfl⟩) (x_recv hK hw (k := 6) (by decide) rfl rfl) rfl hl.1 rfl (Nat.le_of_ble_eq_true rfl) dX5_choose_136) hw hi (fun r_12 S_13 H locs hf hw => ?_)
                    obtain ⟨hf, rfl⟩ := hf
                    refine lv_lstore (lv' := [(13, .long r_12), (0, .ref (xa X 8)), (1, .ref (xa X 6)), (3, .int p1), (4, .int p2), (7, .int x7_1), (8, .long x8_6), (10, .int x10_3), (11, .int x11_5), (12, .int x12_7)]) hx hb dX5_choose_139 hl (by decide) rfl (fun ls hl => ?_)
                    refine lv_lload hx hb dX5_choose_141 (lv_at hl 6 rfl) ?_
                    refine lv_lload hx hb dX5_choose_143 (lv_at hl 0 rfl) ?_
                    refine W.lcmp hx hb dX5_choose_145 ?_
                    refine lv_if_ge (tgt := 152) hx hb dX5_choose_146 (by decide) (fun c_14 => ?_) (fun c_14 => ?_)
                    · replace hf := hf.1 c_14
                      refine lv_lload hx hb dX5_choose_152 (lv_at hl 6 rfl) ?_
                      refine lv_lload hx hb dX5_choose_154 (lv_at hl 0 rfl) ?_
                      refine lv_lsub hx hb dX5_choose_156 ?_
                      refine lv_topl (fun x8_15 ex8_15 => ?_)
                      replace hf := hf x8_15 ex8_15
                      refine lv_lstore (lv' := [(8, .long x8_15), (13, .long r_12), (0, .ref (xa X 8)), (1, .ref (xa X 6)), (3, .int p1), (4, .int p2), (7, .int x7_1), (10, .int x10_3), (11, .int x11_5), (12, .int x12_7)]) hx hb dX5_choose_157 hl (by decide) rfl (fun ls hl => ?_)
                      obtain ⟨x12_16, ex12_16⟩ : ∃ y : Int32, y = x12_7 + 1 := ⟨_, rfl⟩
                      replace hf := hf x12_16 ex12_16
                      refine lv_iinc (v := x12_16) (lv' := [(12, .int x12_16), (8, .long x8_15), (13, .long r_12), (0, .ref (xa X 8)), (1, .ref (xa X 6)), (3, .int p1), (4, .int p2), (7, .int x7_1), (10, .int x10_3), (11, .int x11_5)]) hx hb dX5_choose_159 hl (k := 9) rfl (by rw [ex12_16]; rfl) (by decide) rfl (fun ls hl => ?_)
                      refine lv_goto (tgt := 116) hx hb dX5_choose_162 (by decide) ?_
                      exact ih_116 x8_15 x12_16 _ _ _ hf hw (lv_sub hl [3, 4, 5, 6, 7, 1, 8, 9, 0] rfl)
                    · replace hf := hf.2 c_14
                      refine lv_goto (tgt := 165) hx hb dX5_choose_149 (by decide) ?_
                      exact w_165  _ _ _ hf hw (lv_sub hl [1, 4, 6, 7, 8, 9] rfl)
              exact w_116 n_116 x8_4 0 _ _ _ hf hw (lv_sub hl [1, 2, 3, 4, 5, 6, 7, 8, 0] rfl)
            refine lv_icmp_ge (tgt := 113) hx hb dX5_choose_73 (by decide) (fun c_17 => ?_) (fun c_17 => ?_)
            · replace hf := hf.1 c_17
              exact w_113  _ _ _ hf hw (lv_sub hl [0, 1, 2, 3, 4, 5, 6, 7] rfl)
            · replace hf := hf.2 c_17
              refine lv_aload_n hx hb dX5_choose_76 rfl (lv_at hl 1 rfl) ?_
              refine lv_iload hx hb dX5_choose_77 (lv_at hl 6 rfl) ?_
              refine lv_iload hx hb dX5_choose_79 (lv_at hl 4 rfl) ?_
              refine lv_iload_n hx hb dX5_choose_81 rfl (lv_at hl 2 rfl) ?_
              refine lv_iload hx hb dX5_choose_82 (lv_at hl 7 rfl) ?_
              refine x_cl (x_rU (As := [.int x10_3, .int x7_1, .int p1, .int x11_5]) (rest := []) (okX X) hC hw (kX0_ofFirst_6 l X S _ x10_3 x7_1 p1 x11_5 _ hf) (va_cwU 4 hts (gU (owner := "GrammarAmbiguity$Counts") (x := ⟨"GrammarAmbiguity$Counts", "ofFirst", "(IIII)J"⟩) q_728 q_426 q_466 q_428 q_66 q_429) rfl rfl rfl rfl (by decide +kernel) ⟨Nat.le_of_ble_eq_true rfl, Nat.le_of_ble_eq_true rfl⟩) (x_recv hK hw (k := 6) (by decide) rfl rfl) rfl hl.1 rfl (Nat.le_of_ble_eq_true rfl) dX5_choose_84) hw hi (fun r_18 S_19 H locs hf hw => ?_)
              obtain ⟨hf, rfl⟩ := hf
              refine lv_lstore (lv' := [(12, .long r_18), (0, .ref (xa X 8)), (1, .ref (xa X 6)), (3, .int p1), (4, .int p2), (7, .int x7_1), (8, .long x8_4), (10, .int x10_3), (11, .int x11_5)]) hx hb dX5_choose_87 hl (by decide) rfl (fun ls hl => ?_)
              refine lv_lload hx hb dX5_choose_89 (lv_at hl 6 rfl) ?_
              refine lv_lload hx hb dX5_choose_91 (lv_at hl 0 rfl) ?_
              refine W.lcmp hx hb dX5_choose_93 ?_
              refine lv_if_ge (tgt := 100) hx hb dX5_choose_94 (by decide) (fun c_20 => ?_) (fun c_20 => ?_)
              · replace hf := hf.1 c_20
                refine lv_lload hx hb dX5_choose_100 (lv_at hl 6 rfl) ?_
                refine lv_lload hx hb dX5_choose_102 (lv_at hl 0 rfl) ?_
                refine lv_lsub hx hb dX5_choose_104 ?_
                refine lv_topl (fun x8_21 ex8_21 => ?_)
                replace hf := hf x8_21 ex8_21
                refine lv_lstore (lv' := [(8, .long x8_21), (12, .long r_18), (0, .ref (xa X 8)), (1, .ref (xa X 6)), (3, .int p1), (4, .int p2), (7, .int x7_1), (10, .int x10_3), (11, .int x11_5)]) hx hb dX5_choose_105 hl (by decide) rfl (fun ls hl => ?_)
                obtain ⟨x11_22, ex11_22⟩ : ∃ y : Int32, y = x11_5 + 1 := ⟨_, rfl⟩
                replace hf := hf x11_22 ex11_22
                refine lv_iinc (v := x11_22) (lv' := [(11, .int x11_22), (8, .long x8_21), (12, .long r_18), (0, .ref (xa X 8)), (1, .ref (xa X 6)), (3, .int p1), (4, .int p2), (7, .int x7_1), (10, .int x10_3)]) hx hb dX5_choose_107 hl (k := 8) rfl (by rw [ex11_22]; rfl) (by decide) rfl (fun ls hl => ?_)
                refine lv_goto (tgt := 69) hx hb dX5_choose_110 (by decide) ?_
                exact ih_69 x8_21 x11_22 _ _ _ hf hw (lv_sub hl [3, 4, 5, 6, 7, 1, 8, 0] rfl)
              · replace hf := hf.2 c_20
                refine lv_goto (tgt := 113) hx hb dX5_choose_97 (by decide) ?_
                exact w_113  _ _ _ hf hw (lv_sub hl [1, 2, 3, 4, 5, 6, 7, 8] rfl)
        exact w_69 n_69 x8_2 1 _ _ _ hf hw (lv_sub hl [1, 2, 3, 4, 5, 6, 7, 0] rfl)
      refine lv_icmp_ge (tgt := 66) hx hb dX5_choose_27 (by decide) (fun c_23 => ?_) (fun c_23 => ?_)
      · replace hf := hf.1 c_23
        exact w_66  _ _ _ hf hw (lv_sub hl [0, 1, 3, 4, 5, 6, 7] rfl)
      · replace hf := hf.2 c_23
        refine lv_aload_n hx hb dX5_choose_30 rfl (lv_at hl 1 rfl) ?_
        refine lv_iload_n hx hb dX5_choose_31 rfl (lv_at hl 2 rfl) ?_
        refine lv_iload hx hb dX5_choose_32 (lv_at hl 7 rfl) ?_
        refine lv_iload hx hb dX5_choose_34 (lv_at hl 5 rfl) ?_
        refine lv_iload_n hx hb dX5_choose_36 rfl (lv_at hl 3 rfl) ?_
        refine x_cl (x_rU (As := [.int p0, .int x10_3, .int x7_1, .int p1]) (rest := []) (okX X) hC hw (kX0_ofProduction_6 l X S _ p0 x10_3 x7_1 p1 _ hf) (va_cwU 4 hts (gU (owner := "GrammarAmbiguity$Counts") (x := ⟨"GrammarAmbiguity$Counts", "ofProduction", "(IIII)J"⟩) q_727 q_421 q_467 q_423 q_66 q_424) rfl rfl rfl rfl (by decide +kernel) ⟨Nat.le_of_ble_eq_true rfl, Nat.le_of_ble_eq_true rfl⟩) (x_recv hK hw (k := 6) (by decide) rfl rfl) rfl hl.1 rfl (Nat.le_of_ble_eq_true rfl) dX5_choose_37) hw hi (fun r_24 S_25 H locs hf hw => ?_)
        obtain ⟨hf, rfl⟩ := hf
        refine lv_lstore (lv' := [(11, .long r_24), (0, .ref (xa X 8)), (1, .ref (xa X 6)), (2, .int p0), (3, .int p1), (4, .int p2), (7, .int x7_1), (8, .long x8_2), (10, .int x10_3)]) hx hb dX5_choose_40 hl (by decide) rfl (fun ls hl => ?_)
        refine lv_lload hx hb dX5_choose_42 (lv_at hl 7 rfl) ?_
        refine lv_lload hx hb dX5_choose_44 (lv_at hl 0 rfl) ?_
        refine W.lcmp hx hb dX5_choose_46 ?_
        refine lv_if_ge (tgt := 53) hx hb dX5_choose_47 (by decide) (fun c_26 => ?_) (fun c_26 => ?_)
        · replace hf := hf.1 c_26
          refine lv_lload hx hb dX5_choose_53 (lv_at hl 7 rfl) ?_
          refine lv_lload hx hb dX5_choose_55 (lv_at hl 0 rfl) ?_
          refine lv_lsub hx hb dX5_choose_57 ?_
          refine lv_topl (fun x8_27 ex8_27 => ?_)
          replace hf := hf x8_27 ex8_27
          refine lv_lstore (lv' := [(8, .long x8_27), (11, .long r_24), (0, .ref (xa X 8)), (1, .ref (xa X 6)), (2, .int p0), (3, .int p1), (4, .int p2), (7, .int x7_1), (10, .int x10_3)]) hx hb dX5_choose_58 hl (by decide) rfl (fun ls hl => ?_)
          obtain ⟨x10_28, ex10_28⟩ : ∃ y : Int32, y = x10_3 + 1 := ⟨_, rfl⟩
          replace hf := hf x10_28 ex10_28
          refine lv_iinc (v := x10_28) (lv' := [(10, .int x10_28), (8, .long x8_27), (11, .long r_24), (0, .ref (xa X 8)), (1, .ref (xa X 6)), (2, .int p0), (3, .int p1), (4, .int p2), (7, .int x7_1)]) hx hb dX5_choose_60 hl (k := 8) rfl (by rw [ex10_28]; rfl) (by decide) rfl (fun ls hl => ?_)
          refine lv_goto (tgt := 16) hx hb dX5_choose_63 (by decide) ?_
          exact ih_16 x8_27 x10_28 _ _ _ hf hw (lv_sub hl [3, 4, 5, 6, 7, 8, 1, 0] rfl)
        · replace hf := hf.2 c_26
          refine lv_goto (tgt := 66) hx hb dX5_choose_50 (by decide) ?_
          exact w_66  _ _ _ hf hw (lv_sub hl [1, 2, 4, 5, 6, 7, 8] rfl)
  exact w_16 n_16 p3 0 _ _ _ hf hw (lv_sub hl [3, 4, 5, 6, 7, 2, 1, 0] rfl)
