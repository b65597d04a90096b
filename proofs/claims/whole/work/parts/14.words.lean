/-! Printed by wip/whole/gen: what each method asks (p..), and its contract under that (k..). -/
def pX7_forget (S : gS) (Post : gS → Prop) : Prop :=
  (∀ S_1 : gS, S_1 = uI S 13 0 → Post S_1)
def rX7_forget : Room := { frames := 0, cells := 0, slots := 0, locals := 0 }
set_option maxHeartbeats 40000000 in
set_option maxRecDepth 100000 in
theorem kX7_forget (l : Launch) (X : xG) (S : gS) (sz : Nat) (Post : gS → Prop) (hf : pX7_forget S Post) : xMv l yX7_forget (Cond.code yX7_forget cX7_forget 1 none :: WS) rX7_forget 34 X (cX X) (eX X) S sz [.ref (xa X 7)] Post := by
  refine xMv.of (cc := cX7_forget) (maxL := 1) (own := RX7) (by decide) rfl rfl (Nat.le_of_ble_eq_true rfl) ?_
  intro p e s m args below meth c ls Q hC hQ hw hl
  obtain ⟨hx, hb, hml, hown, hts, hE, hi⟩ := id hC
  have hK := hE.1
  have hl : lv_has ls 1 [(0, .ref (xa X 7))] := hl
  have lf_23 : (Cond.fieldLink RX7 23 "GrammarAmbiguity$WordCounts" "filled" "I").before args s = true := hts _ q_81
  rw [pX7_forget] at hf
  refine lv_aload_n hx hb dX7_forget_0 rfl (lv_at hl 0 rfl) ?_
  refine lv_iconst (v := 0) hx hb dX7_forget_1 (by decide) ?_
  refine x_put (k := 7) (S' := uI S 13 0) (ty := .int) hx hb hts i_X7 tyX7_ok nmX7 hown hK hw (by decide) rfl rfl 3 (by decide) lf_23 (fun _ h9 => h9) rfl (by decide +kernel) rfl rfl (Nat.le_of_ble_eq_true rfl) dX7_forget_2 (uX_I13 X S _) (fun H locs hw => ?_)
  obtain ⟨S_1, eS_1⟩ : ∃ z : gS, z = uI S 13 0 := ⟨_, rfl⟩
  rw [← eS_1] at hw
  replace hf := hf S_1 eS_1
  exact hQ _ _ _ _ _ hf hw dX7_forget_5
def jX7_begin_27 (p1 : Int32) (Post : Int32 → Prop) (x3_1 : Int32) : Prop :=
  ((x3_1 < 0 → Post (-1)) ∧ (¬ x3_1 < 0 → ((10 ≤ x3_1 → Post (-1)) ∧ (¬ 10 ≤ x3_1 → ((p1 < 0 → Post (-1)) ∧ (¬ p1 < 0 → ((p1 ≤ 6 → (vp_in p1 7 ∧ Post ((x3_1 * 1093) + (xPla p1.toNatClampNeg)))) ∧ (¬ p1 ≤ 6 → Post (-1)))))))))
def pX7_begin (p0 : Int32) (p1 : Int32) (S : gS) (Post : Int32 → Prop) : Prop :=
  ((¬ p0 = (-1) → ((p0 < 10 → jX7_begin_27 p1 Post p0) ∧ (¬ p0 < 10 → (∀ x3_8 : Int32, x3_8 = ((6 + p0) - 10) → jX7_begin_27 p1 Post x3_8)))) ∧ (p0 = (-1) → jX7_begin_27 p1 Post 9))
def rX7_begin : Room := { frames := 0, cells := 0, slots := 0, locals := 0 }
set_option maxHeartbeats 40000000 in
set_option maxRecDepth 100000 in
theorem kX7_begin (l : Launch) (X : xG) (S : gS) (sz : Nat) (p0 : Int32) (p1 : Int32) (Post : Int32 → Prop) (hf : pX7_begin p0 p1 S Post) : xMi l yX7_begin (Cond.code yX7_begin cX7_begin 4 (some .int) :: WS) rX7_begin 34 X (cX X) (eX X) S sz [.ref (xa X 7), .int p0, .int p1] (fun r S' => Post r ∧ S = S') := by
  refine xMi.of (cc := cX7_begin) (maxL := 4) (own := RX7) (by decide) rfl rfl (Nat.le_of_ble_eq_true rfl) ?_
  intro p e s m args below meth c ls Q hC hQ hw hl
  obtain ⟨hx, hb, hml, hown, hts, hE, hi⟩ := id hC
  have hK := hE.1
  have hl : lv_has ls 4 [(0, .ref (xa X 7)), (1, .int p0), (2, .int p1)] := hl
  have lf_27 : va_Nw (.fieldLinkNest RX7 27 "GrammarAmbiguity" "WORD_PLACES" "[I" "GrammarAmbiguity") s := hE.2.1 _ (by decide +kernel)
  rw [pX7_begin] at hf
  refine lv_iload_n hx hb dX7_begin_0 rfl (lv_at hl 1 rfl) ?_
  refine lv_istore_n (lv' := [(3, .int p0), (0, .ref (xa X 7)), (1, .int p0), (2, .int p1)]) hx hb dX7_begin_1 rfl hl (by decide) rfl (fun ls hl => ?_)
  refine lv_iload_n hx hb dX7_begin_2 rfl (lv_at hl 2 rfl) ?_
  refine lv_iconst (v := (-1)) hx hb dX7_begin_3 (by decide) ?_
  have w_27 : ∀ (x3_1 : Int32) (H : Heap) (locs : List Loc) (ls : Array Slot), jX7_begin_27 p1 Post x3_1 → xH 34 X (cX X) (xA 34 X s.heap.size) s.heap S H locs → lv_has ls 4 [(2, .int p1), (3, .int x3_1)] → W p l e rX7_begin s m args below meth c H locs 0 0 Q (F0 m 27 ls []) := by
    intro x3_1 H locs ls hf hw hl
    rw [jX7_begin_27] at hf
    refine lv_iload_n hx hb dX7_begin_27 rfl (lv_at hl 1 rfl) ?_
    refine lv_if_lt (tgt := 47) hx hb dX7_begin_28 (by decide) (fun c_2 => ?_) (fun c_2 => ?_)
    · replace hf := hf.1 c_2
      refine lv_iconst (v := (-1)) hx hb dX7_begin_47 (by decide) ?_
      exact hQ _ _ _ _ _ _ rfl ⟨hf, rfl⟩ hw dX7_begin_48
    · replace hf := hf.2 c_2
      refine lv_iload_n hx hb dX7_begin_31 rfl (lv_at hl 1 rfl) ?_
      refine lv_bipush (v := 10) hx hb dX7_begin_32 (by decide) ?_
      refine lv_icmp_ge (tgt := 47) hx hb dX7_begin_34 (by decide) (fun c_3 => ?_) (fun c_3 => ?_)
      · replace hf := hf.1 c_3
        refine lv_iconst (v := (-1)) hx hb dX7_begin_47 (by decide) ?_
        exact hQ _ _ _ _ _ _ rfl ⟨hf, rfl⟩ hw dX7_begin_48
      · replace hf := hf.2 c_3
        refine lv_iload_n hx hb dX7_begin_37 rfl (lv_at hl 0 rfl) ?_
        refine lv_if_lt (tgt := 47) hx hb dX7_begin_38 (by decide) (fun c_4 => ?_) (fun c_4 => ?_)
        · replace hf := hf.1 c_4
          refine lv_iconst (v := (-1)) hx hb dX7_begin_47 (by decide) ?_
          exact hQ _ _ _ _ _ _ rfl ⟨hf, rfl⟩ hw dX7_begin_48
        · replace hf := hf.2 c_4
          refine lv_iload_n hx hb dX7_begin_41 rfl (lv_at hl 0 rfl) ?_
          refine lv_bipush (v := 6) hx hb dX7_begin_42 (by decide) ?_
          refine lv_icmp_le (tgt := 49) hx hb dX7_begin_44 (by decide) (fun c_5 => ?_) (fun c_5 => ?_)
          · replace hf := hf.1 c_5
            refine lv_iload_n hx hb dX7_begin_49 rfl (lv_at hl 1 rfl) ?_
            refine lv_sipush (v := 1093) hx hb dX7_begin_50 (by decide) ?_
            refine lv_imul hx hb dX7_begin_53 ?_
            refine va_getsN hx hb hE.2.2.2.1.1 hw.2.2 hown (va_Nw.use rfl lf_27) (fun _ h9 => h9) dX7_begin_54 ?_
            refine lv_iload_n hx hb dX7_begin_57 rfl (lv_at hl 0 rfl) ?_
            refine va_ti (v := .int (xPla p1.toNatClampNeg)) hx hb hE.2.2.2.1.2 hw.2.2 hf.1 rfl dX7_begin_58 ?_
            replace hf := hf.2
            refine lv_iadd hx hb dX7_begin_59 ?_
            exact hQ _ _ _ _ _ _ rfl ⟨hf, rfl⟩ hw dX7_begin_60
          · replace hf := hf.2 c_5
            refine lv_iconst (v := (-1)) hx hb dX7_begin_47 (by decide) ?_
            exact hQ _ _ _ _ _ _ rfl ⟨hf, rfl⟩ hw dX7_begin_48
  refine lv_icmp_ne (tgt := 13) hx hb dX7_begin_4 (by decide) (fun c_6 => ?_) (fun c_6 => ?_)
  · replace hf := hf.1 c_6
    refine lv_iload_n hx hb dX7_begin_13 rfl (lv_at hl 2 rfl) ?_
    refine lv_bipush (v := 10) hx hb dX7_begin_14 (by decide) ?_
    refine lv_icmp_lt (tgt := 27) hx hb dX7_begin_16 (by decide) (fun c_7 => ?_) (fun c_7 => ?_)
    · replace hf := hf.1 c_7
      exact w_27 p0 _ _ _ hf hw (lv_sub hl [3, 0] rfl)
    · replace hf := hf.2 c_7
      refine lv_bipush (v := 6) hx hb dX7_begin_19 (by decide) ?_
      refine lv_iload_n hx hb dX7_begin_21 rfl (lv_at hl 2 rfl) ?_
      refine lv_iadd hx hb dX7_begin_22 ?_
      refine lv_bipush (v := 10) hx hb dX7_begin_23 (by decide) ?_
      refine lv_isub hx hb dX7_begin_25 ?_
      refine lv_topi (fun x3_8 ex3_8 => ?_)
      replace hf := hf x3_8 ex3_8
      refine lv_istore_n (lv' := [(3, .int x3_8), (0, .ref (xa X 7)), (1, .int p0), (2, .int p1)]) hx hb dX7_begin_26 rfl hl (by decide) rfl (fun ls hl => ?_)
      exact w_27 x3_8 _ _ _ hf hw (lv_sub hl [3, 0] rfl)
  · replace hf := hf.2 c_6
    refine lv_bipush (v := 9) hx hb dX7_begin_7 (by decide) ?_
    refine lv_istore_n (lv' := [(3, .int 9), (0, .ref (xa X 7)), (1, .int p0), (2, .int p1)]) hx hb dX7_begin_9 rfl hl (by decide) rfl (fun ls hl => ?_)
    refine lv_goto (tgt := 27) hx hb dX7_begin_10 (by decide) ?_
    exact w_27 9 _ _ _ hf hw (lv_sub hl [3, 0] rfl)
def pX7_ofLength (p0 : Int32) (S : gS) (Post : Int32 → Prop) : Prop :=
  (∀ x2_1 : Int32, x2_1 = ((((gI S 2) - 1) * 7) + p0) → ((p0 < 0 → Post 0) ∧ (¬ p0 < 0 → ((6 < p0 → Post 0) ∧ (¬ 6 < p0 → ((x2_1 < 0 → Post 0) ∧ (¬ x2_1 < 0 → ((x2_1 < 21 → (vp_in x2_1 21 ∧ Post (xPow x2_1.toNatClampNeg))) ∧ (¬ x2_1 < 21 → Post 0)))))))))
def rX7_ofLength : Room := { frames := 0, cells := 0, slots := 0, locals := 0 }
set_option maxHeartbeats 40000000 in
set_option maxRecDepth 100000 in
theorem kX7_ofLength (l : Launch) (X : xG) (S : gS) (sz : Nat) (p0 : Int32) (Post : Int32 → Prop) (hf : pX7_ofLength p0 S Post) : xMi l yX7_ofLength (Cond.code yX7_ofLength cX7_ofLength 3 (some .int) :: WS) rX7_ofLength 34 X (cX X) (eX X) S sz [.ref (xa X 7), .int p0] (fun r S' => Post r ∧ S = S') := by
  refine xMi.of (cc := cX7_ofLength) (maxL := 3) (own := RX7) (by decide) rfl rfl (Nat.le_of_ble_eq_true rfl) ?_
  intro p e s m args below meth c ls Q hC hQ hw hl
  obtain ⟨hx, hb, hml, hown, hts, hE, hi⟩ := id hC
  have hK := hE.1
  have hl : lv_has ls 3 [(0, .ref (xa X 7)), (1, .int p0)] := hl
  have lf_9 : (Cond.fieldLink RX7 9 "GrammarAmbiguity$WordCounts" "grammar" "LGrammarAmbiguity$Grammar;").before args s = true := hts _ q_78
  have lf_59 : va_Nw (.fieldLinkNest RX7 59 "GrammarAmbiguity$Grammar" "terminals" "I" "GrammarAmbiguity") s := hE.2.1 _ (by decide +kernel)
  have lf_62 : va_Nw (.fieldLinkNest RX7 62 "GrammarAmbiguity" "POWERS" "[I" "GrammarAmbiguity") s := hE.2.1 _ (by decide +kernel)
  rw [pX7_ofLength] at hf
  refine lv_aload_n hx hb dX7_ofLength_0 rfl (lv_at hl 0 rfl) ?_
  refine x_get (k := 7) (v := .ref (xa X 1)) hx hb hts i_X7 hown hK hw (by decide) rfl rfl 0 (by decide) lf_9 (fun _ h9 => h9) rfl dX7_ofLength_1 ?_
  refine x_getN (k := 1) (v := .int (gI S 2)) hx hb hts i_X1 hown hK hw (by decide) rfl rfl 1 (by decide) lf_59 (fun _ h9 => h9) rfl dX7_ofLength_4 ?_
  refine lv_iconst (v := 1) hx hb dX7_ofLength_7 (by decide) ?_
  refine lv_isub hx hb dX7_ofLength_8 ?_
  refine lv_bipush (v := 7) hx hb dX7_ofLength_9 (by decide) ?_
  refine lv_imul hx hb dX7_ofLength_11 ?_
  refine lv_iload_n hx hb dX7_ofLength_12 rfl (lv_at hl 1 rfl) ?_
  refine lv_iadd hx hb dX7_ofLength_13 ?_
  refine lv_topi (fun x2_1 ex2_1 => ?_)
  replace hf := hf x2_1 ex2_1
  refine lv_istore_n (lv' := [(2, .int x2_1), (0, .ref (xa X 7)), (1, .int p0)]) hx hb dX7_ofLength_14 rfl hl (by decide) rfl (fun ls hl => ?_)
  refine lv_iload_n hx hb dX7_ofLength_15 rfl (lv_at hl 2 rfl) ?_
  refine lv_if_lt (tgt := 37) hx hb dX7_ofLength_16 (by decide) (fun c_2 => ?_) (fun c_2 => ?_)
  · replace hf := hf.1 c_2
    refine lv_iconst (v := 0) hx hb dX7_ofLength_37 (by decide) ?_
    exact hQ _ _ _ _ _ _ rfl ⟨hf, rfl⟩ hw dX7_ofLength_38
  · replace hf := hf.2 c_2
    refine lv_iload_n hx hb dX7_ofLength_19 rfl (lv_at hl 2 rfl) ?_
    refine lv_bipush (v := 6) hx hb dX7_ofLength_20 (by decide) ?_
    refine lv_icmp_gt (tgt := 37) hx hb dX7_ofLength_22 (by decide) (fun c_3 => ?_) (fun c_3 => ?_)
    · replace hf := hf.1 c_3
      refine lv_iconst (v := 0) hx hb dX7_ofLength_37 (by decide) ?_
      exact hQ _ _ _ _ _ _ rfl ⟨hf, rfl⟩ hw dX7_ofLength_38
    · replace hf := hf.2 c_3
      refine lv_iload_n hx hb dX7_ofLength_25 rfl (lv_at hl 0 rfl) ?_
      refine lv_if_lt (tgt := 37) hx hb dX7_ofLength_26 (by decide) (fun c_4 => ?_) (fun c_4 => ?_)
      · replace hf := hf.1 c_4
        refine lv_iconst (v := 0) hx hb dX7_ofLength_37 (by decide) ?_
        exact hQ _ _ _ _ _ _ rfl ⟨hf, rfl⟩ hw dX7_ofLength_38
      · replace hf := hf.2 c_4
        refine lv_iload_n hx hb dX7_ofLength_29 rfl (lv_at hl 0 rfl) ?_
        refine va_getsN hx hb hE.2.2.1.1 hw.2.2 hown (va_Nw.use rfl lf_62) (fun _ h9 => h9) dX7_ofLength_30 ?_
        refine va_tlen (v := 21) hx hb hE.2.2.1.2 hw.2.2 rfl dX7_ofLength_33 ?_
        refine lv_icmp_lt (tgt := 39) hx hb dX7_ofLength_34 (by decide) (fun c_5 => ?_) (fun c_5 => ?_)
        · replace hf := hf.1 c_5
          refine va_getsN hx hb hE.2.2.1.1 hw.2.2 hown (va_Nw.use rfl lf_62) (fun _ h9 => h9) dX7_ofLength_39 ?_
          refine lv_iload_n hx hb dX7_ofLength_42 rfl (lv_at hl 0 rfl) ?_
          refine va_ti (v := .int (xPow x2_1.toNatClampNeg)) hx hb hE.2.2.1.2 hw.2.2 hf.1 rfl dX7_ofLength_43 ?_
          replace hf := hf.2
          exact hQ _ _ _ _ _ _ rfl ⟨hf, rfl⟩ hw dX7_ofLength_44
        · replace hf := hf.2 c_5
          refine lv_iconst (v := 0) hx hb dX7_ofLength_37 (by decide) ?_
          exact hQ _ _ _ _ _ _ rfl ⟨hf, rfl⟩ hw dX7_ofLength_38
def bX7_clear_24 (Post : gS → Prop) (x4_6 : Int32) (L_24 : Int32 × gS → Prop) (x5_7 : Int32) (S_8 : gS) : Prop :=
  ((x4_6 ≤ x5_7 → Post S_8) ∧ (¬ x4_6 ≤ x5_7 → ((10930 ≤ x5_7 → Post S_8) ∧ (¬ 10930 ≤ x5_7 → (vp_in x5_7 10930 ∧ (∀ S_11 : gS, S_11 = uB S_8 20 x5_7.toNatClampNeg 0 → (∀ x5_12 : Int32, x5_12 = x5_7 + 1 → L_24 (x5_12, S_11))))))))
def pX7_clear (p0 : Int32) (p1 : Int32) (S : gS) (Post : gS → Prop) : Prop :=
  (pX7_begin p0 p1 S (fun r_1 => ((0 ≤ r_1 → (pX7_ofLength p1 S (fun r_4 => (∀ x4_6 : Int32, x4_6 = (r_1 + r_4) → ∃ n, lp (fun L x => bX7_clear_24 Post x4_6 L x.1 x.2) n (r_1, S))))) ∧ (¬ 0 ≤ r_1 → Post S))))
def rX7_clear : Room := { frames := 1, cells := 0, slots := 0, locals := 23 }
set_option maxHeartbeats 40000000 in
set_option maxRecDepth 100000 in
theorem kX7_clear (l : Launch) (X : xG) (S : gS) (sz : Nat) (p0 : Int32) (p1 : Int32) (Post : gS → Prop) (hf : pX7_clear p0 p1 S Post) : xMv l yX7_clear (Cond.code yX7_clear cX7_clear 6 none :: WS) rX7_clear 34 X (cX X) (eX X) S sz [.ref (xa X 7), .int p0, .int p1] Post := by
  refine xMv.of (cc := cX7_clear) (maxL := 6) (own := RX7) (by decide) rfl rfl (Nat.le_of_ble_eq_true rfl) ?_
  intro p e s m args below meth c ls Q hC hQ hw hl
  obtain ⟨hx, hb, hml, hown, hts, hE, hi⟩ := id hC
  have hK := hE.1
  have hl : lv_has ls 6 [(0, .ref (xa X 7)), (1, .int p0), (2, .int p1)] := hl
  have lf_19 : (Cond.fieldLink RX7 19 "GrammarAmbiguity$WordCounts" "rows" "[J").before args s = true := hts _ q_80
  rw [pX7_clear] at hf
  refine lv_aload_n hx hb dX7_clear_0 rfl (lv_at hl 0 rfl) ?_
  refine lv_iload_n hx hb dX7_clear_1 rfl (lv_at hl 1 rfl) ?_
  refine lv_iload_n hx hb dX7_clear_2 rfl (lv_at hl 2 rfl) ?_
  refine x_ci (x_rV (As := [.int p0, .int p1]) (rest := []) (okX X) hC hw (kX7_begin l X S _ p0 p1 _ hf) (cwV 2 hts (gV q_556 q_557 q_558 q_35 q_559) rfl rfl rfl (by decide +kernel) ⟨Nat.le_of_ble_eq_true rfl, Nat.le_of_ble_eq_true rfl⟩) (x_recv hK hw (k := 7) (by decide) rfl rfl) rfl hl.1 rfl (Nat.le_of_ble_eq_true rfl) dX7_clear_3) hw hi (fun r_1 S_2 H locs hf hw => ?_)
  obtain ⟨hf, rfl⟩ := hf
  refine lv_istore_n (lv' := [(3, .int r_1), (0, .ref (xa X 7)), (1, .int p0), (2, .int p1)]) hx hb dX7_clear_6 rfl hl (by decide) rfl (fun ls hl => ?_)
  refine lv_iload_n hx hb dX7_clear_7 rfl (lv_at hl 0 rfl) ?_
  refine lv_if_ge (tgt := 12) hx hb dX7_clear_8 (by decide) (fun c_3 => ?_) (fun c_3 => ?_)
  · replace hf := hf.1 c_3
    refine lv_iload_n hx hb dX7_clear_12 rfl (lv_at hl 0 rfl) ?_
    refine lv_aload_n hx hb dX7_clear_13 rfl (lv_at hl 1 rfl) ?_
    refine lv_iload_n hx hb dX7_clear_14 rfl (lv_at hl 3 rfl) ?_
    refine x_ci (x_rV (As := [.int p1]) (rest := [.int r_1]) (okX X) hC hw (kX7_ofLength l X S _ p1 _ hf) (cwV 1 hts (gV q_560 q_561 q_562 q_35 q_563) rfl rfl rfl (by decide +kernel) ⟨Nat.le_of_ble_eq_true rfl, Nat.le_of_ble_eq_true rfl⟩) (x_recv hK hw (k := 7) (by decide) rfl rfl) rfl hl.1 rfl (Nat.le_of_ble_eq_true rfl) dX7_clear_15) hw hi (fun r_4 S_5 H locs hf hw => ?_)
    obtain ⟨hf, rfl⟩ := hf
    refine lv_iadd hx hb dX7_clear_18 ?_
    refine lv_topi (fun x4_6 ex4_6 => ?_)
    replace hf := hf x4_6 ex4_6
    refine lv_istore (lv' := [(4, .int x4_6), (3, .int r_1), (0, .ref (xa X 7)), (1, .int p0), (2, .int p1)]) hx hb dX7_clear_19 hl (by decide) rfl (fun ls hl => ?_)
    refine lv_iload_n hx hb dX7_clear_21 rfl (lv_at hl 1 rfl) ?_
    refine lv_istore (lv' := [(5, .int r_1), (4, .int x4_6), (3, .int r_1), (0, .ref (xa X 7)), (1, .int p0), (2, .int p1)]) hx hb dX7_clear_22 hl (by decide) rfl (fun ls hl => ?_)
    obtain ⟨n_24, hf⟩ := hf
    have w_24 : ∀ (n : Nat) (x5_7 : Int32) (S_8 : gS) (H : Heap) (locs : List Loc) (ls : Array Slot), lp (fun L x => bX7_clear_24 Post x4_6 L x.1 x.2) n (x5_7, S_8) → xH 34 X (cX X) (xA 34 X s.heap.size) s.heap S_8 H locs → lv_has ls 6 [(0, .ref (xa X 7)), (4, .int x4_6), (5, .int x5_7)] → W p l e rX7_clear s m args below meth c H locs 0 0 Q (F0 m 24 ls []) := by
      intro n
      induction n with
      | zero => intro x5_7 S_8 H locs ls hf; exact hf.elim
      | succ n ih_24 =>
        intro x5_7 S_8 H locs ls hf hw hl
        replace hf : bX7_clear_24 Post x4_6 (lp (fun L x => bX7_clear_24 Post x4_6 L x.1 x.2) n) x5_7 S_8 := hf
        generalize lp (fun L x => bX7_clear_24 Post x4_6 L x.1 x.2) n = L_24 at hf ih_24
        rw [bX7_clear_24] at hf
        refine lv_iload hx hb dX7_clear_24 (lv_at hl 2 rfl) ?_
        refine lv_iload hx hb dX7_clear_26 (lv_at hl 1 rfl) ?_
        refine lv_icmp_ge (tgt := 55) hx hb dX7_clear_28 (by decide) (fun c_9 => ?_) (fun c_9 => ?_)
        · replace hf := hf.1 c_9
          exact hQ _ _ _ _ _ hf hw dX7_clear_55
        · replace hf := hf.2 c_9
          refine lv_iload hx hb dX7_clear_31 (lv_at hl 2 rfl) ?_
          refine lv_aload_n hx hb dX7_clear_33 rfl (lv_at hl 0 rfl) ?_
          refine x_get (k := 7) (v := .ref (xa X 20)) hx hb hts i_X7 hown hK hw (by decide) rfl rfl 2 (by decide) lf_19 (fun _ h9 => h9) rfl dX7_clear_34 ?_
          refine x_len (v := 10930) hx hb hK hw (by decide) rfl 1 rfl rfl dX7_clear_37 ?_
          refine lv_icmp_ge (tgt := 55) hx hb dX7_clear_38 (by decide) (fun c_10 => ?_) (fun c_10 => ?_)
          · replace hf := hf.1 c_10
            exact hQ _ _ _ _ _ hf hw dX7_clear_55
          · replace hf := hf.2 c_10
            refine lv_aload_n hx hb dX7_clear_41 rfl (lv_at hl 0 rfl) ?_
            refine x_get (k := 7) (v := .ref (xa X 20)) hx hb hts i_X7 hown hK hw (by decide) rfl rfl 2 (by decide) lf_19 (fun _ h9 => h9) rfl dX7_clear_42 ?_
            refine lv_iload hx hb dX7_clear_45 (lv_at hl 2 rfl) ?_
            refine lv_lconst (v := 0) hx hb dX7_clear_47 (by decide) ?_
            refine x_lst (n := 10930) hx hb hK hw (by decide) rfl rfl hf.1 dX7_clear_48 (uX_A20 X S_8 _ _) (fun H locs hw => ?_)
            replace hf := hf.2
            obtain ⟨S_11, eS_11⟩ : ∃ z : gS, z = uB S_8 20 x5_7.toNatClampNeg 0 := ⟨_, rfl⟩
            rw [← eS_11] at hw
            replace hf := hf S_11 eS_11
            obtain ⟨x5_12, ex5_12⟩ : ∃ y : Int32, y = x5_7 + 1 := ⟨_, rfl⟩
            replace hf := hf x5_12 ex5_12
            refine lv_iinc (v := x5_12) (lv' := [(5, .int x5_12), (0, .ref (xa X 7)), (4, .int x4_6)]) hx hb dX7_clear_49 hl (k := 2) rfl (by rw [ex5_12]; rfl) (by decide) rfl (fun ls hl => ?_)
            refine lv_goto (tgt := 24) hx hb dX7_clear_52 (by decide) ?_
            exact ih_24 x5_12 S_11 _ _ _ hf hw (lv_sub hl [1, 2, 0] rfl)
    exact w_24 n_24 r_1 S _ _ _ hf hw (lv_sub hl [3, 1, 0] rfl)
  · replace hf := hf.2 c_3
    exact hQ _ _ _ _ _ hf hw dX7_clear_11
def bX7_addTimes_34 (p0 : Int32) (p1 : Int32) (p2 : Int32) (p3 : Int64) (Post : gS → Prop) (L_34 : Int32 × gS → Prop) (x6_5 : Int32) (S_6 : gS) : Prop :=
  ((p2 ≤ x6_5 → Post S_6) ∧ (¬ p2 ≤ x6_5 → (vp_in (p0 + x6_5) 10930 ∧ (vp_in (p1 + x6_5) 10930 ∧ (vp_in (p0 + x6_5) 10930 ∧ (∀ S_8 : gS, S_8 = uB S_6 20 (p0 + x6_5).toNatClampNeg ((gB S_6 20 (p0 + x6_5).toNatClampNeg) + (p3 * (gB S_6 20 (p1 + x6_5).toNatClampNeg))) → (∀ x6_9 : Int32, x6_9 = x6_5 + 1 → L_34 (x6_9, S_8))))))))
def pX7_addTimes (p0 : Int32) (p1 : Int32) (p2 : Int32) (p3 : Int64) (S : gS) (Post : gS → Prop) : Prop :=
  ((p0 < 0 → Post S) ∧ (¬ p0 < 0 → ((p1 < 0 → Post S) ∧ (¬ p1 < 0 → ((10930 < (p0 + p2) → Post S) ∧ (¬ 10930 < (p0 + p2) → (((p1 + p2) ≤ 10930 → ∃ n, lp (fun L x => bX7_addTimes_34 p0 p1 p2 p3 Post L x.1 x.2) n (0, S)) ∧ (¬ (p1 + p2) ≤ 10930 → Post S))))))))
def rX7_addTimes : Room := { frames := 0, cells := 0, slots := 0, locals := 0 }
set_option maxHeartbeats 40000000 in
set_option maxRecDepth 100000 in
theorem kX7_addTimes (l : Launch) (X : xG) (S : gS) (sz : Nat) (p0 : Int32) (p1 : Int32) (p2 : Int32) (p3 : Int64) (Post : gS → Prop) (hf : pX7_addTimes p0 p1 p2 p3 S Post) : xMv l yX7_addTimes (Cond.code yX7_addTimes cX7_addTimes 7 none :: WS) rX7_addTimes 34 X (cX X) (eX X) S sz [.ref (xa X 7), .int p0, .int p1, .int p2, .long p3] Post := by
  refine xMv.of (cc := cX7_addTimes) (maxL := 7) (own := RX7) (by decide) rfl rfl (Nat.le_of_ble_eq_true rfl) ?_
  intro p e s m args below meth c ls Q hC hQ hw hl
  obtain ⟨hx, hb, hml, hown, hts, hE, hi⟩ := id hC
  have hK := hE.1
  have hl : lv_has ls 7 [(0, .ref (xa X 7)), (1, .int p0), (2, .int p1), (3, .int p2), (4, .long p3)] := hl
  have lf_19 : (Cond.fieldLink RX7 19 "GrammarAmbiguity$WordCounts" "rows" "[J").before args s = true := hts _ q_80
  rw [pX7_addTimes] at hf
  refine lv_iload_n hx hb dX7_addTimes_0 rfl (lv_at hl 1 rfl) ?_
  refine lv_if_lt (tgt := 30) hx hb dX7_addTimes_1 (by decide) (fun c_1 => ?_) (fun c_1 => ?_)
  · replace hf := hf.1 c_1
    exact hQ _ _ _ _ _ hf hw dX7_addTimes_30
  · replace hf := hf.2 c_1
    refine lv_iload_n hx hb dX7_addTimes_4 rfl (lv_at hl 2 rfl) ?_
    refine lv_if_lt (tgt := 30) hx hb dX7_addTimes_5 (by decide) (fun c_2 => ?_) (fun c_2 => ?_)
    · replace hf := hf.1 c_2
      exact hQ _ _ _ _ _ hf hw dX7_addTimes_30
    · replace hf := hf.2 c_2
      refine lv_iload_n hx hb dX7_addTimes_8 rfl (lv_at hl 1 rfl) ?_
      refine lv_iload_n hx hb dX7_addTimes_9 rfl (lv_at hl 3 rfl) ?_
      refine lv_iadd hx hb dX7_addTimes_10 ?_
      refine lv_aload_n hx hb dX7_addTimes_11 rfl (lv_at hl 0 rfl) ?_
      refine x_get (k := 7) (v := .ref (xa X 20)) hx hb hts i_X7 hown hK hw (by decide) rfl rfl 2 (by decide) lf_19 (fun _ h9 => h9) rfl dX7_addTimes_12 ?_
      refine x_len (v := 10930) hx hb hK hw (by decide) rfl 1 rfl rfl dX7_addTimes_15 ?_
      refine lv_icmp_gt (tgt := 30) hx hb dX7_addTimes_16 (by decide) (fun c_3 => ?_) (fun c_3 => ?_)
      · replace hf := hf.1 c_3
        exact hQ _ _ _ _ _ hf hw dX7_addTimes_30
      · replace hf := hf.2 c_3
        refine lv_iload_n hx hb dX7_addTimes_19 rfl (lv_at hl 2 rfl) ?_
        refine lv_iload_n hx hb dX7_addTimes_20 rfl (lv_at hl 3 rfl) ?_
        refine lv_iadd hx hb dX7_addTimes_21 ?_
        refine lv_aload_n hx hb dX7_addTimes_22 rfl (lv_at hl 0 rfl) ?_
        refine x_get (k := 7) (v := .ref (xa X 20)) hx hb hts i_X7 hown hK hw (by decide) rfl rfl 2 (by decide) lf_19 (fun _ h9 => h9) rfl dX7_addTimes_23 ?_
        refine x_len (v := 10930) hx hb hK hw (by decide) rfl 1 rfl rfl dX7_addTimes_26 ?_
        refine lv_icmp_le (tgt := 31) hx hb dX7_addTimes_27 (by decide) (fun c_4 => ?_) (fun c_4 => ?_)
        · replace hf := hf.1 c_4
          refine lv_iconst (v := 0) hx hb dX7_addTimes_31 (by decide) ?_
          refine lv_istore (lv' := [(6, .int 0), (0, .ref (xa X 7)), (1, .int p0), (2, .int p1), (3, .int p2), (4, .long p3)]) hx hb dX7_addTimes_32 hl (by decide) rfl (fun ls hl => ?_)
          obtain ⟨n_34, hf⟩ := hf
          have w_34 : ∀ (n : Nat) (x6_5 : Int32) (S_6 : gS) (H : Heap) (locs : List Loc) (ls : Array Slot), lp (fun L x => bX7_addTimes_34 p0 p1 p2 p3 Post L x.1 x.2) n (x6_5, S_6) → xH 34 X (cX X) (xA 34 X s.heap.size) s.heap S_6 H locs → lv_has ls 7 [(0, .ref (xa X 7)), (1, .int p0), (2, .int p1), (3, .int p2), (4, .long p3), (6, .int x6_5)] → W p l e rX7_addTimes s m args below meth c H locs 0 0 Q (F0 m 34 ls []) := by
            intro n
            induction n with
            | zero => intro x6_5 S_6 H locs ls hf; exact hf.elim
            | succ n ih_34 =>
              intro x6_5 S_6 H locs ls hf hw hl
              replace hf : bX7_addTimes_34 p0 p1 p2 p3 Post (lp (fun L x => bX7_addTimes_34 p0 p1 p2 p3 Post L x.1 x.2) n) x6_5 S_6 := hf
              generalize lp (fun L x => bX7_addTimes_34 p0 p1 p2 p3 Post L x.1 x.2) n = L_34 at hf ih_34
              rw [bX7_addTimes_34] at hf
              refine lv_iload hx hb dX7_addTimes_34 (lv_at hl 5 rfl) ?_
              refine lv_iload_n hx hb dX7_addTimes_36 rfl (lv_at hl 3 rfl) ?_
              refine lv_icmp_ge (tgt := 70) hx hb dX7_addTimes_37 (by decide) (fun c_7 => ?_) (fun c_7 => ?_)
              · replace hf := hf.1 c_7
                exact hQ _ _ _ _ _ hf hw dX7_addTimes_70
              · replace hf := hf.2 c_7
                refine lv_aload_n hx hb dX7_addTimes_40 rfl (lv_at hl 0 rfl) ?_
                refine x_get (k := 7) (v := .ref (xa X 20)) hx hb hts i_X7 hown hK hw (by decide) rfl rfl 2 (by decide) lf_19 (fun _ h9 => h9) rfl dX7_addTimes_41 ?_
                refine lv_iload_n hx hb dX7_addTimes_44 rfl (lv_at hl 1 rfl) ?_
                refine lv_iload hx hb dX7_addTimes_45 (lv_at hl 5 rfl) ?_
                refine lv_iadd hx hb dX7_addTimes_47 ?_
                refine lv_dup2_11 hx hb dX7_addTimes_48 rfl rfl ?_
                refine x_lld (n := 10930) hx hb hK hw (by decide) rfl rfl hf.1 dX7_addTimes_49 ?_
                replace hf := hf.2
                refine lv_lload hx hb dX7_addTimes_50 (lv_at hl 4 rfl) ?_
                refine lv_aload_n hx hb dX7_addTimes_52 rfl (lv_at hl 0 rfl) ?_
                refine x_get (k := 7) (v := .ref (xa X 20)) hx hb hts i_X7 hown hK hw (by decide) rfl rfl 2 (by decide) lf_19 (fun _ h9 => h9) rfl dX7_addTimes_53 ?_
                refine lv_iload_n hx hb dX7_addTimes_56 rfl (lv_at hl 2 rfl) ?_
                refine lv_iload hx hb dX7_addTimes_57 (lv_at hl 5 rfl) ?_
                refine lv_iadd hx hb dX7_addTimes_59 ?_
                refine x_lld (n := 10930) hx hb hK hw (by decide) rfl rfl hf.1 dX7_addTimes_60 ?_
                replace hf := hf.2
                refine lv_lmul hx hb dX7_addTimes_61 ?_
                refine lv_ladd hx hb dX7_addTimes_62 ?_
                refine x_lst (n := 10930) hx hb hK hw (by decide) rfl rfl hf.1 dX7_addTimes_63 (uX_A20 X S_6 _ _) (fun H locs hw => ?_)
                replace hf := hf.2
                obtain ⟨S_8, eS_8⟩ : ∃ z : gS, z = uB S_6 20 (p0 + x6_5).toNatClampNeg ((gB S_6 20 (p0 + x6_5).toNatClampNeg) + (p3 * (gB S_6 20 (p1 + x6_5).toNatClampNeg))) := ⟨_, rfl⟩
                rw [← eS_8] at hw
                replace hf := hf S_8 eS_8
                obtain ⟨x6_9, ex6_9⟩ : ∃ y : Int32, y = x6_5 + 1 := ⟨_, rfl⟩
                replace hf := hf x6_9 ex6_9
                refine lv_iinc (v := x6_9) (lv' := [(6, .int x6_9), (0, .ref (xa X 7)), (1, .int p0), (2, .int p1), (3, .int p2), (4, .long p3)]) hx hb dX7_addTimes_64 hl (k := 5) rfl (by rw [ex6_9]; rfl) (by decide) rfl (fun ls hl => ?_)
                refine lv_goto (tgt := 34) hx hb dX7_addTimes_67 (by decide) ?_
                exact ih_34 x6_9 S_8 _ _ _ hf hw (lv_sub hl [1, 2, 3, 4, 5, 0] rfl)
          exact w_34 n_34 0 S _ _ _ hf hw (lv_sub hl [1, 2, 3, 4, 5, 0] rfl)
        · replace hf := hf.2 c_4
          exact hQ _ _ _ _ _ hf hw dX7_addTimes_30
def bX7_addWords_149 (r_16 : Int32) (x11_27 : Int32) (r_28 : Int32) (x13_31 : Int32) (L_128 : Int32 × Int32 × gS → Prop) (L_149 : Int32 × Int32 × gS → Prop) (x6_35 : Int32) (x14_36 : Int32) (S_37 : gS) : Prop :=
  ((x11_27 ≤ x14_36 → (∀ x13_39 : Int32, x13_39 = x13_31 + 1 → L_128 (x6_35, x13_39, S_37))) ∧ (¬ x11_27 ≤ x14_36 → ((10930 ≤ x14_36 → (∀ x13_41 : Int32, x13_41 = x13_31 + 1 → L_128 (x6_35, x13_41, S_37))) ∧ (¬ 10930 ≤ x14_36 → (vp_in x13_31 10930 ∧ (((lg_cmp (gB S_37 20 x13_31.toNatClampNeg) 0) = 0 → (∀ x6_43 : Int32, x6_43 = (x6_35 + r_28) → (∀ x14_44 : Int32, x14_44 = x14_36 + 1 → L_149 (x6_43, x14_44, S_37)))) ∧ (¬ (lg_cmp (gB S_37 20 x13_31.toNatClampNeg) 0) = 0 → (vp_in x14_36 10930 ∧ (((lg_cmp (gB S_37 20 x14_36.toNatClampNeg) 0) = 0 → (∀ x6_46 : Int32, x6_46 = (x6_35 + r_28) → (∀ x14_47 : Int32, x14_47 = x14_36 + 1 → L_149 (x6_46, x14_47, S_37)))) ∧ (¬ (lg_cmp (gB S_37 20 x14_36.toNatClampNeg) 0) = 0 → (vp_in x13_31 10930 ∧ (vp_in x14_36 10930 ∧ (pX7_addTimes x6_35 r_16 r_28 ((gB S_37 20 x13_31.toNatClampNeg) * (gB S_37 20 x14_36.toNatClampNeg)) S_37 (fun S_49 => (∀ x6_50 : Int32, x6_50 = (x6_35 + r_28) → (∀ x14_51 : Int32, x14_51 = x14_36 + 1 → L_149 (x6_50, x14_51, S_49)))))))))))))))))
def bX7_addWords_128 (Post : gS → Prop) (r_12 : Int32) (r_16 : Int32) (x10_24 : Int32) (x11_27 : Int32) (r_28 : Int32) (L_128 : Int32 × Int32 × gS → Prop) (x6_30 : Int32) (x13_31 : Int32) (S_32 : gS) : Prop :=
  ((x10_24 ≤ x13_31 → Post S_32) ∧ (¬ x10_24 ≤ x13_31 → ((10930 ≤ x13_31 → Post S_32) ∧ (¬ 10930 ≤ x13_31 → ∃ n, lp (fun L x => bX7_addWords_149 r_16 x11_27 r_28 x13_31 L_128 L x.1 x.2.1 x.2.2) n (x6_30, r_12, S_32)))))
def pX7_addWords (p0 : Int32) (p1 : Int32) (p2 : Int32) (p3 : Int32) (S : gS) (Post : gS → Prop) : Prop :=
  (∀ x5_1 : Int32, x5_1 = ((p1 - p2) - p3) → (pX1_symbol p0 0 S (fun r_2 => (pX7_begin r_2 p1 S (fun r_4 => (pX1_symbol p0 1 S (fun r_6 => (pX7_begin r_6 p2 S (fun r_8 => (pX1_symbol p0 2 S (fun r_10 => (pX7_begin r_10 p3 S (fun r_12 => (pX1_symbol p0 3 S (fun r_14 => (pX7_begin r_14 x5_1 S (fun r_16 => ((r_4 < 0 → Post S) ∧ (¬ r_4 < 0 → ((r_8 < 0 → Post S) ∧ (¬ r_8 < 0 → ((r_12 < 0 → Post S) ∧ (¬ r_12 < 0 → ((0 ≤ r_16 → (pX7_ofLength p2 S (fun r_22 => (∀ x10_24 : Int32, x10_24 = (r_8 + r_22) → (pX7_ofLength p3 S (fun r_25 => (∀ x11_27 : Int32, x11_27 = (r_12 + r_25) → (pX7_ofLength x5_1 S (fun r_28 => ∃ n, lp (fun L x => bX7_addWords_128 Post r_12 r_16 x10_24 x11_27 r_28 L x.1 x.2.1 x.2.2) n (r_4, r_8, S)))))))))) ∧ (¬ 0 ≤ r_16 → Post S)))))))))))))))))))))))))
def rX7_addWords : Room := { frames := 1, cells := 0, slots := 0, locals := 26 }
set_option maxHeartbeats 40000000 in
set_option maxRecDepth 100000 in
theorem kX7_addWords (l : Launch) (X : xG) (S : gS) (sz : Nat) (p0 : Int32) (p1 : Int32) (p2 : Int32) (p3 : Int32) (Post : gS → Prop) (hf : pX7_addWords p0 p1 p2 p3 S Post) : xMv l yX7_addWords (Cond.code yX7_addWords cX7_addWords 15 none :: WS) rX7_addWords 34 X (cX X) (eX X) S sz [.ref (xa X 7), .int p0, .int p1, .int p2, .int p3] Post := by
  refine xMv.of (cc := cX7_addWords) (maxL := 15) (own := RX7) (by decide) rfl rfl (Nat.le_of_ble_eq_true rfl) ?_
  intro p e s m args below meth c ls Q hC hQ hw hl
  obtain ⟨hx, hb, hml, hown, hts, hE, hi⟩ := id hC
  have hK := hE.1
  have hl : lv_has ls 15 [(0, .ref (xa X 7)), (1, .int p0), (2, .int p1), (3, .int p2), (4, .int p3)] := hl
  have lf_9 : (Cond.fieldLink RX7 9 "GrammarAmbiguity$WordCounts" "grammar" "LGrammarAmbiguity$Grammar;").before args s = true := hts _ q_78
  have ln_72 : va_Nw (.methodLinkNest RX7 72 yX1_symbol "GrammarAmbiguity") s := hE.2.1 _ (by decide +kernel)
  have lf_19 : (Cond.fieldLink RX7 19 "GrammarAmbiguity$WordCounts" "rows" "[J").before args s = true := hts _ q_80
  rw [pX7_addWords] at hf
  refine lv_iload_n hx hb dX7_addWords_0 rfl (lv_at hl 2 rfl) ?_
  refine lv_iload_n hx hb dX7_addWords_1 rfl (lv_at hl 3 rfl) ?_
  refine lv_isub hx hb dX7_addWords_2 ?_
  refine lv_iload hx hb dX7_addWords_3 (lv_at hl 4 rfl) ?_
  refine lv_isub hx hb dX7_addWords_5 ?_
  refine lv_topi (fun x5_1 ex5_1 => ?_)
  replace hf := hf x5_1 ex5_1
  refine lv_istore (lv' := [(5, .int x5_1), (0, .ref (xa X 7)), (1, .int p0), (2, .int p1), (3, .int p2), (4, .int p3)]) hx hb dX7_addWords_6 hl (by decide) rfl (fun ls hl => ?_)
  refine lv_aload_n hx hb dX7_addWords_8 rfl (lv_at hl 1 rfl) ?_
  refine lv_aload_n hx hb dX7_addWords_9 rfl (lv_at hl 1 rfl) ?_
  refine x_get (k := 7) (v := .ref (xa X 1)) hx hb hts i_X7 hown hK hw (by decide) rfl rfl 0 (by decide) lf_9 (fun _ h9 => h9) rfl dX7_addWords_10 ?_
  refine lv_iload_n hx hb dX7_addWords_13 rfl (lv_at hl 2 rfl) ?_
  refine lv_iconst (v := 0) hx hb dX7_addWords_14 (by decide) ?_
  refine x_ci (x_rN (As := [.int p0, .int 0]) (rest := [.ref (xa X 7)]) (okX X) hC hw (kX1_symbol l X S _ p0 0 _ hf) ⟨va_cnB 2 hts (gN q_202) rfl rfl rfl ln_72 (hts _ q_17) (by decide +kernel) ⟨Nat.le_of_ble_eq_true rfl, Nat.le_of_ble_eq_true rfl⟩, hts _ q_200, hts _ q_201⟩ (x_recv hK hw (k := 1) (by decide) rfl rfl) rfl hl.1 rfl (Nat.le_of_ble_eq_true rfl) dX7_addWords_15) hw hi (fun r_2 S_3 H locs hf hw => ?_)
  obtain ⟨hf, rfl⟩ := hf
  refine lv_iload_n hx hb dX7_addWords_18 rfl (lv_at hl 3 rfl) ?_
  refine x_ci (x_rV (As := [.int r_2, .int p1]) (rest := []) (okX X) hC hw (kX7_begin l X S _ r_2 p1 _ hf) (cwV 2 hts (gV q_556 q_557 q_558 q_35 q_559) rfl rfl rfl (by decide +kernel) ⟨Nat.le_of_ble_eq_true rfl, Nat.le_of_ble_eq_true rfl⟩) (x_recv hK hw (k := 7) (by decide) rfl rfl) rfl hl.1 rfl (Nat.le_of_ble_eq_true rfl) dX7_addWords_19) hw hi (fun r_4 S_5 H locs hf hw => ?_)
  obtain ⟨hf, rfl⟩ := hf
  refine lv_istore (lv' := [(6, .int r_4), (5, .int x5_1), (0, .ref (xa X 7)), (1, .int p0), (2, .int p1), (3, .int p2), (4, .int p3)]) hx hb dX7_addWords_22 hl (by decide) rfl (fun ls hl => ?_)
  refine lv_aload_n hx hb dX7_addWords_24 rfl (lv_at hl 2 rfl) ?_
  refine lv_aload_n hx hb dX7_addWords_25 rfl (lv_at hl 2 rfl) ?_
  refine x_get (k := 7) (v := .ref (xa X 1)) hx hb hts i_X7 hown hK hw (by decide) rfl rfl 0 (by decide) lf_9 (fun _ h9 => h9) rfl dX7_addWords_26 ?_
  refine lv_iload_n hx hb dX7_addWords_29 rfl (lv_at hl 3 rfl) ?_
  refine lv_iconst (v := 1) hx hb dX7_addWords_30 (by decide) ?_
  refine x_ci (x_rN (As := [.int p0, .int 1]) (rest := [.ref (xa X 7)]) (okX X) hC hw (kX1_symbol l X S _ p0 1 _ hf) ⟨va_cnB 2 hts (gN q_202) rfl rfl rfl ln_72 (hts _ q_17) (by decide +kernel) ⟨Nat.le_of_ble_eq_true rfl, Nat.le_of_ble_eq_true rfl⟩, hts _ q_200, hts _ q_201⟩ (x_recv hK hw (k := 1) (by decide) rfl rfl) rfl hl.1 rfl (Nat.le_of_ble_eq_true rfl) dX7_addWords_31) hw hi (fun r_6 S_7 H locs hf hw => ?_)
  obtain ⟨hf, rfl⟩ := hf
  refine lv_iload_n hx hb dX7_addWords_34 rfl (lv_at hl 5 rfl) ?_
  refine x_ci (x_rV (As := [.int r_6, .int p2]) (rest := []) (okX X) hC hw (kX7_begin l X S _ r_6 p2 _ hf) (cwV 2 hts (gV q_556 q_557 q_558 q_35 q_559) rfl rfl rfl (by decide +kernel) ⟨Nat.le_of_ble_eq_true rfl, Nat.le_of_ble_eq_true rfl⟩) (x_recv hK hw (k := 7) (by decide) rfl rfl) rfl hl.1 rfl (Nat.le_of_ble_eq_true rfl) dX7_addWords_35) hw hi (fun r_8 S_9 H locs hf hw => ?_)
  obtain ⟨hf, rfl⟩ := hf
  refine lv_istore (lv' := [(7, .int r_8), (6, .int r_4), (5, .int x5_1), (0, .ref (xa X 7)), (1, .int p0), (2, .int p1), (3, .int p2), (4, .int p3)]) hx hb dX7_addWords_38 hl (by decide) rfl (fun ls hl => ?_)
  refine lv_aload_n hx hb dX7_addWords_40 rfl (lv_at hl 3 rfl) ?_
  refine lv_aload_n hx hb dX7_addWords_41 rfl (lv_at hl 3 rfl) ?_
  refine x_get (k := 7) (v := .ref (xa X 1)) hx hb hts i_X7 hown hK hw (by decide) rfl rfl 0 (by decide) lf_9 (fun _ h9 => h9) rfl dX7_addWords_42 ?_
  refine lv_iload_n hx hb dX7_addWords_45 rfl (lv_at hl 4 rfl) ?_
  refine lv_iconst (v := 2) hx hb dX7_addWords_46 (by decide) ?_
  refine x_ci (x_rN (As := [.int p0, .int 2]) (rest := [.ref (xa X 7)]) (okX X) hC hw (kX1_symbol l X S _ p0 2 _ hf) ⟨va_cnB 2 hts (gN q_202) rfl rfl rfl ln_72 (hts _ q_17) (by decide +kernel) ⟨Nat.le_of_ble_eq_true rfl, Nat.le_of_ble_eq_true rfl⟩, hts _ q_200, hts _ q_201⟩ (x_recv hK hw (k := 1) (by decide) rfl rfl) rfl hl.1 rfl (Nat.le_of_ble_eq_true rfl) dX7_addWords_47) hw hi (fun r_10 S_11 H locs hf hw => ?_)
  obtain ⟨hf, rfl⟩ := hf
  refine lv_iload hx hb dX7_addWords_50 (lv_at hl 7 rfl) ?_
  refine x_ci (x_rV (As := [.int r_10, .int p3]) (rest := []) (okX X) hC hw (kX7_begin l X S _ r_10 p3 _ hf) (cwV 2 hts (gV q_556 q_557 q_558 q_35 q_559) rfl rfl rfl (by decide +kernel) ⟨Nat.le_of_ble_eq_true rfl, Nat.le_of_ble_eq_true rfl⟩) (x_recv hK hw (k := 7) (by decide) rfl rfl) rfl hl.1 rfl (Nat.le_of_ble_eq_true rfl) dX7_addWords_52) hw hi (fun r_12 S_13 H locs hf hw => ?_)
  obtain ⟨hf, rfl⟩ := hf
  refine lv_istore (lv' := [(8, .int r_12), (7, .int r_8), (6, .int r_4), (5, .int x5_1), (0, .ref (xa X 7)), (1, .int p0), (2, .int p1), (3, .int p2), (4, .int p3)]) hx hb dX7_addWords_55 hl (by decide) rfl (fun ls hl => ?_)
  refine lv_aload_n hx hb dX7_addWords_57 rfl (lv_at hl 4 rfl) ?_
  refine lv_aload_n hx hb dX7_addWords_58 rfl (lv_at hl 4 rfl) ?_
  refine x_get (k := 7) (v := .ref (xa X 1)) hx hb hts i_X7 hown hK hw (by decide) rfl rfl 0 (by decide) lf_9 (fun _ h9 => h9) rfl dX7_addWords_59 ?_
  refine lv_iload_n hx hb dX7_addWords_62 rfl (lv_at hl 5 rfl) ?_
  refine lv_iconst (v := 3) hx hb dX7_addWords_63 (by decide) ?_
  refine x_ci (x_rN (As := [.int p0, .int 3]) (rest := [.ref (xa X 7)]) (okX X) hC hw (kX1_symbol l X S _ p0 3 _ hf) ⟨va_cnB 2 hts (gN q_202) rfl rfl rfl ln_72 (hts _ q_17) (by decide +kernel) ⟨Nat.le_of_ble_eq_true rfl, Nat.le_of_ble_eq_true rfl⟩, hts _ q_200, hts _ q_201⟩ (x_recv hK hw (k := 1) (by decide) rfl rfl) rfl hl.1 rfl (Nat.le_of_ble_eq_true rfl) dX7_addWords_64) hw hi (fun r_14 S_15 H locs hf hw => ?_)
  obtain ⟨hf, rfl⟩ := hf
  refine lv_iload hx hb dX7_addWords_67 (lv_at hl 3 rfl) ?_
  refine x_ci (x_rV (As := [.int r_14, .int x5_1]) (rest := []) (okX X) hC hw (kX7_begin l X S _ r_14 x5_1 _ hf) (cwV 2 hts (gV q_556 q_557 q_558 q_35 q_559) rfl rfl rfl (by decide +kernel) ⟨Nat.le_of_ble_eq_true rfl, Nat.le_of_ble_eq_true rfl⟩) (x_recv hK hw (k := 7) (by decide) rfl rfl) rfl hl.1 rfl (Nat.le_of_ble_eq_true rfl) dX7_addWords_69) hw hi (fun r_16 S_17 H locs hf hw => ?_)
  obtain ⟨hf, rfl⟩ := hf
  refine lv_istore (lv' := [(9, .int r_16), (8, .int r_12), (7, .int r_8), (6, .int r_4), (5, .int x5_1), (0, .ref (xa X 7)), (1, .int p0), (2, .int p1), (3, .int p2), (4, .int p3)]) hx hb dX7_addWords_72 hl (by decide) rfl (fun ls hl => ?_)
  refine lv_iload hx hb dX7_addWords_74 (lv_at hl 3 rfl) ?_
  refine lv_if_lt (tgt := 94) hx hb dX7_addWords_76 (by decide) (fun c_18 => ?_) (fun c_18 => ?_)
  · replace hf := hf.1 c_18
    exact hQ _ _ _ _ _ hf hw dX7_addWords_94
  · replace hf := hf.2 c_18
    refine lv_iload hx hb dX7_addWords_79 (lv_at hl 2 rfl) ?_
    refine lv_if_lt (tgt := 94) hx hb dX7_addWords_81 (by decide) (fun c_19 => ?_) (fun c_19 => ?_)
    · replace hf := hf.1 c_19
      exact hQ _ _ _ _ _ hf hw dX7_addWords_94
    · replace hf := hf.2 c_19
      refine lv_iload hx hb dX7_addWords_84 (lv_at hl 1 rfl) ?_
      refine lv_if_lt (tgt := 94) hx hb dX7_addWords_86 (by decide) (fun c_20 => ?_) (fun c_20 => ?_)
      · replace hf := hf.1 c_20
        exact hQ _ _ _ _ _ hf hw dX7_addWords_94
      · replace hf := hf.2 c_20
        refine lv_iload hx hb dX7_addWords_89 (lv_at hl 0 rfl) ?_
        refine lv_if_ge (tgt := 95) hx hb dX7_addWords_91 (by decide) (fun c_21 => ?_) (fun c_21 => ?_)
        · replace hf := hf.1 c_21
          refine lv_iload hx hb dX7_addWords_95 (lv_at hl 2 rfl) ?_
          refine lv_aload_n hx hb dX7_addWords_97 rfl (lv_at hl 5 rfl) ?_
          refine lv_iload_n hx hb dX7_addWords_98 rfl (lv_at hl 8 rfl) ?_
          refine x_ci (x_rV (As := [.int p2]) (rest := [.int r_8]) (okX X) hC hw (kX7_ofLength l X S _ p2 _ hf) (cwV 1 hts (gV q_560 q_561 q_562 q_35 q_563) rfl rfl rfl (by decide +kernel) ⟨Nat.le_of_ble_eq_true rfl, Nat.le_of_ble_eq_true rfl⟩) (x_recv hK hw (k := 7) (by decide) rfl rfl) rfl hl.1 rfl (Nat.le_of_ble_eq_true rfl) dX7_addWords_99) hw hi (fun r_22 S_23 H locs hf hw => ?_)
          obtain ⟨hf, rfl⟩ := hf
          refine lv_iadd hx hb dX7_addWords_102 ?_
          refine lv_topi (fun x10_24 ex10_24 => ?_)
          replace hf := hf x10_24 ex10_24
          refine lv_istore (lv' := [(10, .int x10_24), (9, .int r_16), (8, .int r_12), (7, .int r_8), (6, .int r_4), (5, .int x5_1), (0, .ref (xa X 7)), (1, .int p0), (2, .int p1), (3, .int p2), (4, .int p3)]) hx hb dX7_addWords_103 hl (by decide) rfl (fun ls hl => ?_)
          refine lv_iload hx hb dX7_addWords_105 (lv_at hl 2 rfl) ?_
          refine lv_aload_n hx hb dX7_addWords_107 rfl (lv_at hl 6 rfl) ?_
          refine lv_iload hx hb dX7_addWords_108 (lv_at hl 10 rfl) ?_
          refine x_ci (x_rV (As := [.int p3]) (rest := [.int r_12]) (okX X) hC hw (kX7_ofLength l X S _ p3 _ hf) (cwV 1 hts (gV q_560 q_561 q_562 q_35 q_563) rfl rfl rfl (by decide +kernel) ⟨Nat.le_of_ble_eq_true rfl, Nat.le_of_ble_eq_true rfl⟩) (x_recv hK hw (k := 7) (by decide) rfl rfl) rfl hl.1 rfl (Nat.le_of_ble_eq_true rfl) dX7_addWords_110) hw hi (fun r_25 S_26 H locs hf hw => ?_)
          obtain ⟨hf, rfl⟩ := hf
          refine lv_iadd hx hb dX7_addWords_113 ?_
          refine lv_topi (fun x11_27 ex11_27 => ?_)
          replace hf := hf x11_27 ex11_27
          refine lv_istore (lv' := [(11, .int x11_27), (10, .int x10_24), (9, .int r_16), (8, .int r_12), (7, .int r_8), (6, .int r_4), (5, .int x5_1), (0, .ref (xa X 7)), (1, .int p0), (2, .int p1), (3, .int p2), (4, .int p3)]) hx hb dX7_addWords_114 hl (by decide) rfl (fun ls hl => ?_)
          refine lv_aload_n hx hb dX7_addWords_116 rfl (lv_at hl 7 rfl) ?_
          refine lv_iload hx hb dX7_addWords_117 (lv_at hl 6 rfl) ?_
          refine x_ci (x_rV (As := [.int x5_1]) (rest := []) (okX X) hC hw (kX7_ofLength l X S _ x5_1 _ hf) (cwV 1 hts (gV q_560 q_561 q_562 q_35 q_563) rfl rfl rfl (by decide +kernel) ⟨Nat.le_of_ble_eq_true rfl, Nat.le_of_ble_eq_true rfl⟩) (x_recv hK hw (k := 7) (by decide) rfl rfl) rfl hl.1 rfl (Nat.le_of_ble_eq_true rfl) dX7_addWords_119) hw hi (fun r_28 S_29 H locs hf hw => ?_)
          obtain ⟨hf, rfl⟩ := hf
          refine lv_istore (lv' := [(12, .int r_28), (11, .int x11_27), (10, .int x10_24), (9, .int r_16), (8, .int r_12), (7, .int r_8), (6, .int r_4), (5, .int x5_1), (0, .ref (xa X 7)), (1, .int p0), (2, .int p1), (3, .int p2), (4, .int p3)]) hx hb dX7_addWords_122 hl (by decide) rfl (fun ls hl => ?_)
          refine lv_iload hx hb dX7_addWords_124 (lv_at hl 5 rfl) ?_
          refine lv_istore (lv' := [(13, .int r_8), (12, .int r_28), (11, .int x11_27), (10, .int x10_24), (9, .int r_16), (8, .int r_12), (7, .int r_8), (6, .int r_4), (5, .int x5_1), (0, .ref (xa X 7)), (1, .int p0), (2, .int p1), (3, .int p2), (4, .int p3)]) hx hb dX7_addWords_126 hl (by decide) rfl (fun ls hl => ?_)
          obtain ⟨n_128, hf⟩ := hf
          have w_128 : ∀ (n : Nat) (x6_30 : Int32) (x13_31 : Int32) (S_32 : gS) (H : Heap) (locs : List Loc) (ls : Array Slot), lp (fun L x => bX7_addWords_128 Post r_12 r_16 x10_24 x11_27 r_28 L x.1 x.2.1 x.2.2) n (x6_30, x13_31, S_32) → xH 34 X (cX X) (xA 34 X s.heap.size) s.heap S_32 H locs → lv_has ls 15 [(0, .ref (xa X 7)), (6, .int x6_30), (8, .int r_12), (9, .int r_16), (10, .int x10_24), (11, .int x11_27), (12, .int r_28), (13, .int x13_31)] → W p l e rX7_addWords s m args below meth c H locs 0 0 Q (F0 m 128 ls []) := by
            intro n
            induction n with
            | zero => intro x6_30 x13_31 S_32 H locs ls hf; exact hf.elim
            | succ n ih_128 =>
              intro x6_30 x13_31 S_32 H locs ls hf hw hl
              replace hf : bX7_addWords_128 Post r_12 r_16 x10_24 x11_27 r_28 (lp (fun L x => bX7_addWords_128 Post r_12 r_16 x10_24 x11_27 r_28 L x.1 x.2.1 x.2.2) n) x6_30 x13_31 S_32 := hf
              generalize lp (fun L x => bX7_addWords_128 Post r_12 r_16 x10_24 x11_27 r_28 L x.1 x.2.1 x.2.2) n = L_128 at hf ih_128
              rw [bX7_addWords_128] at hf
              refine lv_iload hx hb dX7_addWords_128 (lv_at hl 7 rfl) ?_
              refine lv_iload hx hb dX7_addWords_130 (lv_at hl 4 rfl) ?_
              refine lv_icmp_ge (tgt := 234) hx hb dX7_addWords_132 (by decide) (fun c_33 => ?_) (fun c_33 => ?_)
              · replace hf := hf.1 c_33
                exact hQ _ _ _ _ _ hf hw dX7_addWords_234
              · replace hf := hf.2 c_33
                refine lv_iload hx hb dX7_addWords_135 (lv_at hl 7 rfl) ?_
                refine lv_aload_n hx hb dX7_addWords_137 rfl (lv_at hl 0 rfl) ?_
                refine x_get (k := 7) (v := .ref (xa X 20)) hx hb hts i_X7 hown hK hw (by decide) rfl rfl 2 (by decide) lf_19 (fun _ h9 => h9) rfl dX7_addWords_138 ?_
                refine x_len (v := 10930) hx hb hK hw (by decide) rfl 1 rfl rfl dX7_addWords_141 ?_
                refine lv_icmp_ge (tgt := 234) hx hb dX7_addWords_142 (by decide) (fun c_34 => ?_) (fun c_34 => ?_)
                · replace hf := hf.1 c_34
                  exact hQ _ _ _ _ _ hf hw dX7_addWords_234
                · replace hf := hf.2 c_34
                  refine lv_iload hx hb dX7_addWords_145 (lv_at hl 2 rfl) ?_
                  refine lv_istore (lv' := [(14, .int r_12), (0, .ref (xa X 7)), (6, .int x6_30), (8, .int r_12), (9, .int r_16), (10, .int x10_24), (11, .int x11_27), (12, .int r_28), (13, .int x13_31)]) hx hb dX7_addWords_147 hl (by decide) rfl (fun ls hl => ?_)
                  obtain ⟨n_149, hf⟩ := hf
                  have w_149 : ∀ (n : Nat) (x6_35 : Int32) (x14_36 : Int32) (S_37 : gS) (H : Heap) (locs : List Loc) (ls : Array Slot), lp (fun L x => bX7_addWords_149 r_16 x11_27 r_28 x13_31 L_128 L x.1 x.2.1 x.2.2) n (x6_35, x14_36, S_37) → xH 34 X (cX X) (xA 34 X s.heap.size) s.heap S_37 H locs → lv_has ls 15 [(0, .ref (xa X 7)), (6, .int x6_35), (8, .int r_12), (9, .int r_16), (10, .int x10_24), (11, .int x11_27), (12, .int r_28), (13, .int x13_31), (14, .int x14_36)] → W p l e rX7_addWords s m args below meth c H locs 0 0 Q (F0 m 149 ls []) := by
                    intro n
                    induction n with
                    | zero => intro x6_35 x14_36 S_37 H locs ls hf; exact hf.elim
                    | succ n ih_149 =>
                      intro x6_35 x14_36 S_37 H locs ls hf hw hl
                      replace hf : bX7_addWords_149 r_16 x11_27 r_28 x13_31 L_128 (lp (fun L x => bX7_addWords_149 r_16 x11_27 r_28 x13_31 L_128 L x.1 x.2.1 x.2.2) n) x6_35 x14_36 S_37 := hf
                      generalize lp (fun L x => bX7_addWords_149 r_16 x11_27 r_28 x13_31 L_128 L x.1 x.2.1 x.2.2) n = L_149 at hf ih_149
                      rw [bX7_addWords_149] at hf
                      refine lv_iload hx hb dX7_addWords_149 (lv_at hl 8 rfl) ?_
                      refine lv_iload hx hb dX7_addWords_151 (lv_at hl 5 rfl) ?_
                      refine lv_icmp_ge (tgt := 228) hx hb dX7_addWords_153 (by decide) (fun c_38 => ?_) (fun c_38 => ?_)
                      · replace hf := hf.1 c_38
                        obtain ⟨x13_39, ex13_39⟩ : ∃ y : Int32, y = x13_31 + 1 := ⟨_, rfl⟩
                        replace hf := hf x13_39 ex13_39
                        refine lv_iinc (v := x13_39) (lv' := [(13, .int x13_39), (0, .ref (xa X 7)), (6, .int x6_35), (8, .int r_12), (9, .int r_16), (10, .int x10_24), (11, .int x11_27), (12, .int r_28), (14, .int x14_36)]) hx hb dX7_addWords_228 hl (k := 7) rfl (by rw [ex13_39]; rfl) (by decide) rfl (fun ls hl => ?_)
                        refine lv_goto (tgt := 128) hx hb dX7_addWords_231 (by decide) ?_
                        exact ih_128 x6_35 x13_39 S_37 _ _ _ hf hw (lv_sub hl [1, 2, 3, 4, 5, 6, 7, 0] rfl)
                      · replace hf := hf.2 c_38
                        refine lv_iload hx hb dX7_addWords_156 (lv_at hl 8 rfl) ?_
                        refine lv_aload_n hx hb dX7_addWords_158 rfl (lv_at hl 0 rfl) ?_
                        refine x_get (k := 7) (v := .ref (xa X 20)) hx hb hts i_X7 hown hK hw (by decide) rfl rfl 2 (by decide) lf_19 (fun _ h9 => h9) rfl dX7_addWords_159 ?_
                        refine x_len (v := 10930) hx hb hK hw (by decide) rfl 1 rfl rfl dX7_addWords_162 ?_
                        refine lv_icmp_ge (tgt := 228) hx hb dX7_addWords_163 (by decide) (fun c_40 => ?_) (fun c_40 => ?_)
                        · replace hf := hf.1 c_40
                          obtain ⟨x13_41, ex13_41⟩ : ∃ y : Int32, y = x13_31 + 1 := ⟨_, rfl⟩
                          replace hf := hf x13_41 ex13_41
                          refine lv_iinc (v := x13_41) (lv' := [(13, .int x13_41), (0, .ref (xa X 7)), (6, .int x6_35), (8, .int r_12), (9, .int r_16), (10, .int x10_24), (11, .int x11_27), (12, .int r_28), (14, .int x14_36)]) hx hb dX7_addWords_228 hl (k := 7) rfl (by rw [ex13_41]; rfl) (by decide) rfl (fun ls hl => ?_)
                          refine lv_goto (tgt := 128) hx hb dX7_addWords_231 (by decide) ?_
                          exact ih_128 x6_35 x13_41 S_37 _ _ _ hf hw (lv_sub hl [1, 2, 3, 4, 5, 6, 7, 0] rfl)
                        · replace hf := hf.2 c_40
                          refine lv_aload_n hx hb dX7_addWords_166 rfl (lv_at hl 0 rfl) ?_
                          refine x_get (k := 7) (v := .ref (xa X 20)) hx hb hts i_X7 hown hK hw (by decide) rfl rfl 2 (by decide) lf_19 (fun _ h9 => h9) rfl dX7_addWords_167 ?_
                          refine lv_iload hx hb dX7_addWords_170 (lv_at hl 7 rfl) ?_
                          refine x_lld (n := 10930) hx hb hK hw (by decide) rfl rfl hf.1 dX7_addWords_172 ?_
                          replace hf := hf.2
                          refine lv_lconst (v := 0) hx hb dX7_addWords_173 (by decide) ?_
                          refine W.lcmp hx hb dX7_addWords_174 ?_
                          refine lv_if_eq (tgt := 215) hx hb dX7_addWords_175 (by decide) (fun c_42 => ?_) (fun c_42 => ?_)
                          · replace hf := hf.1 c_42
                            refine lv_iload hx hb dX7_addWords_215 (lv_at hl 1 rfl) ?_
                            refine lv_iload hx hb dX7_addWords_217 (lv_at hl 6 rfl) ?_
                            refine lv_iadd hx hb dX7_addWords_219 ?_
                            refine lv_topi (fun x6_43 ex6_43 => ?_)
                            replace hf := hf x6_43 ex6_43
                            refine lv_istore (lv' := [(6, .int x6_43), (0, .ref (xa X 7)), (8, .int r_12), (9, .int r_16), (10, .int x10_24), (11, .int x11_27), (12, .int r_28), (13, .int x13_31), (14, .int x14_36)]) hx hb dX7_addWords_220 hl (by decide) rfl (fun ls hl => ?_)
                            obtain ⟨x14_44, ex14_44⟩ : ∃ y : Int32, y = x14_36 + 1 := ⟨_, rfl⟩
                            replace hf := hf x14_44 ex14_44
                            refine lv_iinc (v := x14_44) (lv' := [(14, .int x14_44), (6, .int x6_43), (0, .ref (xa X 7)), (8, .int r_12), (9, .int r_16), (10, .int x10_24), (11, .int x11_27), (12, .int r_28), (13, .int x13_31)]) hx hb dX7_addWords_222 hl (k := 8) rfl (by rw [ex14_44]; rfl) (by decide) rfl (fun ls hl => ?_)
                            refine lv_goto (tgt := 149) hx hb dX7_addWords_225 (by decide) ?_
                            exact ih_149 x6_43 x14_44 S_37 _ _ _ hf hw (lv_sub hl [2, 1, 3, 4, 5, 6, 7, 8, 0] rfl)
                          · replace hf := hf.2 c_42
                            refine lv_aload_n hx hb dX7_addWords_178 rfl (lv_at hl 0 rfl) ?_
                            refine x_get (k := 7) (v := .ref (xa X 20)) hx hb hts i_X7 hown hK hw (by decide) rfl rfl 2 (by decide) lf_19 (fun _ h9 => h9) rfl dX7_addWords_179 ?_
                            refine lv_iload hx hb dX7_addWords_182 (lv_at hl 8 rfl) ?_
                            refine x_lld (n := 10930) hx hb hK hw (by decide) rfl rfl hf.1 dX7_addWords_184 ?_
                            replace hf := hf.2
                            refine lv_lconst (v := 0) hx hb dX7_addWords_185 (by decide) ?_
                            refine W.lcmp hx hb dX7_addWords_186 ?_
                            refine lv_if_eq (tgt := 215) hx hb dX7_addWords_187 (by decide) (fun c_45 => ?_) (fun c_45 => ?_)
                            · replace hf := hf.1 c_45
                              refine lv_iload hx hb dX7_addWords_215 (lv_at hl 1 rfl) ?_
                              refine lv_iload hx hb dX7_addWords_217 (lv_at hl 6 rfl) ?_
                              refine lv_iadd hx hb dX7_addWords_219 ?_
                              refine lv_topi (fun x6_46 ex6_46 => ?_)
                              replace hf := hf x6_46 ex6_46
                              refine lv_istore (lv' := [(6, .int x6_46), (0, .ref (xa X 7)), (8, .int r_12), (9, .int r_16), (10, .int x10_24), (11, .int x11_27), (12, .int r_28), (13, .int x13_31), (14, .int x14_36)]) hx hb dX7_addWords_220 hl (by decide) rfl (fun ls hl => ?_)
                              obtain ⟨x14_47, ex14_47⟩ : ∃ y : Int32, y = x14_36 + 1 := ⟨_, rfl⟩
                              replace hf := hf x14_47 ex14_47
                              refine lv_iinc (v := x14_47) (lv' := [(14, .int x14_47), (6, .int x6_46), (0, .ref (xa X 7)), (8, .int r_12), (9, .int r_16), (10, .int x10_24), (11, .int x11_27), (12, .int r_28), (13, .int x13_31)]) hx hb dX7_addWords_222 hl (k := 8) rfl (by rw [ex14_47]; rfl) (by decide) rfl (fun ls hl => ?_)
                              refine lv_goto (tgt := 149) hx hb dX7_addWords_225 (by decide) ?_
                              exact ih_149 x6_46 x14_47 S_37 _ _ _ hf hw (lv_sub hl [2, 1, 3, 4, 5, 6, 7, 8, 0] rfl)
                            · replace hf := hf.2 c_45
                              refine lv_aload_n hx hb dX7_addWords_190 rfl (lv_at hl 0 rfl) ?_
                              refine lv_iload hx hb dX7_addWords_191 (lv_at hl 1 rfl) ?_
                              refine lv_iload hx hb dX7_addWords_193 (lv_at hl 3 rfl) ?_
                              refine lv_iload hx hb dX7_addWords_195 (lv_at hl 6 rfl) ?_
                              refine lv_aload_n hx hb dX7_addWords_197 rfl (lv_at hl 0 rfl) ?_
                              refine x_get (k := 7) (v := .ref (xa X 20)) hx hb hts i_X7 hown hK hw (by decide) rfl rfl 2 (by decide) lf_19 (fun _ h9 => h9) rfl dX7_addWords_198 ?_
                              refine lv_iload hx hb dX7_addWords_201 (lv_at hl 7 rfl) ?_
                              refine x_lld (n := 10930) hx hb hK hw (by decide) rfl rfl hf.1 dX7_addWords_203 ?_
                              replace hf := hf.2
                              refine lv_aload_n hx hb dX7_addWords_204 rfl (lv_at hl 0 rfl) ?_
                              refine x_get (k := 7) (v := .ref (xa X 20)) hx hb hts i_X7 hown hK hw (by decide) rfl rfl 2 (by decide) lf_19 (fun _ h9 => h9) rfl dX7_addWords_205 ?_
                              refine lv_iload hx hb dX7_addWords_208 (lv_at hl 8 rfl) ?_
                              refine x_lld (n := 10930) hx hb hK hw (by decide) rfl rfl hf.1 dX7_addWords_210 ?_
                              replace hf := hf.2
                              refine lv_lmul hx hb dX7_addWords_211 ?_
                              refine x_cv (x_rV (As := [.int x6_35, .int r_16, .int r_28, .long ((gB S_37 20 x13_31.toNatClampNeg) * (gB S_37 20 x14_36.toNatClampNeg))]) (rest := []) (okX X) hC hw (kX7_addTimes l X S_37 _ x6_35 r_16 r_28 ((gB S_37 20 x13_31.toNatClampNeg) * (gB S_37 20 x14_36.toNatClampNeg)) _ hf) (cwV 4 hts (gV q_573 q_574 q_575 q_35 q_576) rfl rfl rfl (by decide +kernel) ⟨Nat.le_of_ble_eq_true rfl, Nat.le_of_ble_eq_true rfl⟩) (x_recv hK hw (k := 7) (by decide) rfl rfl) rfl hl.1 rfl (Nat.le_of_ble_eq_true rfl) dX7_addWords_212) hw hi (fun S_49 H locs hf hw => ?_)
                              refine lv_iload hx hb dX7_addWords_215 (lv_at hl 1 rfl) ?_
                              refine lv_iload hx hb dX7_addWords_217 (lv_at hl 6 rfl) ?_
                              refine lv_iadd hx hb dX7_addWords_219 ?_
                              refine lv_topi (fun x6_50 ex6_50 => ?_)
                              replace hf := hf x6_50 ex6_50
                              refine lv_istore (lv' := [(6, .int x6_50), (0, .ref (xa X 7)), (8, .int r_12), (9, .int r_16), (10, .int x10_24), (11, .int x11_27), (12, .int r_28), (13, .int x13_31), (14, .int x14_36)]) hx hb dX7_addWords_220 hl (by decide) rfl (fun ls hl => ?_)
                              obtain ⟨x14_51, ex14_51⟩ : ∃ y : Int32, y = x14_36 + 1 := ⟨_, rfl⟩
                              replace hf := hf x14_51 ex14_51
                              refine lv_iinc (v := x14_51) (lv' := [(14, .int x14_51), (6, .int x6_50), (0, .ref (xa X 7)), (8, .int r_12), (9, .int r_16), (10, .int x10_24), (11, .int x11_27), (12, .int r_28), (13, .int x13_31)]) hx hb dX7_addWords_222 hl (k := 8) rfl (by rw [ex14_51]; rfl) (by decide) rfl (fun ls hl => ?_)
                              refine lv_goto (tgt := 149) hx hb dX7_addWords_225 (by decide) ?_
                              exact ih_149 x6_50 x14_51 S_49 _ _ _ hf hw (lv_sub hl [2, 1, 3, 4, 5, 6, 7, 8, 0] rfl)
                  exact w_149 n_149 x6_30 r_12 S_32 _ _ _ hf hw (lv_sub hl [1, 2, 3, 4, 5, 6, 7, 8, 0] rfl)
          exact w_128 n_128 r_4 r_8 S _ _ _ hf hw (lv_sub hl [9, 7, 5, 4, 3, 2, 1, 0] rfl)
        · replace hf := hf.2 c_21
          exact hQ _ _ _ _ _ hf hw dX7_addWords_94
def bX7_fill_62 (x2_2 : Int32) (x3_9 : Int32) (x4_13 : Int32) (L_53 : Int32 × gS → Prop) (L_62 : Int32 × gS → Prop) (x5_17 : Int32) (S_18 : gS) : Prop :=
  (((x2_2 - x4_13) < x5_17 → (∀ x4_20 : Int32, x4_20 = x4_13 + 1 → L_53 (x4_20, S_18))) ∧ (¬ (x2_2 - x4_13) < x5_17 → (pX0_ofSecond_5 x3_9 x2_2 0 x4_13 x5_17 S_18 (fun r_21 => (((lg_cmp r_21 0) = 0 → (∀ x5_24 : Int32, x5_24 = x5_17 + 1 → L_62 (x5_24, S_18))) ∧ (¬ (lg_cmp r_21 0) = 0 → (pX7_addWords x3_9 x2_2 x4_13 x5_17 S_18 (fun S_26 => (∀ x5_27 : Int32, x5_27 = x5_17 + 1 → L_62 (x5_27, S_26))))))))))
def bX7_fill_53 (x2_2 : Int32) (x3_9 : Int32) (L_39 : Int32 × gS → Prop) (L_53 : Int32 × gS → Prop) (x4_13 : Int32) (S_14 : gS) : Prop :=
  ((x2_2 < x4_13 → (∀ x3_16 : Int32, x3_16 = x3_9 + 1 → L_39 (x3_16, S_14))) ∧ (¬ x2_2 < x4_13 → ∃ n, lp (fun L x => bX7_fill_62 x2_2 x3_9 x4_13 L_53 L x.1 x.2) n (0, S_14)))
def bX7_fill_39 (x2_2 : Int32) (L_7 : Int32 × gS → Prop) (L_39 : Int32 × gS → Prop) (x3_9 : Int32) (S_10 : gS) : Prop :=
  (((gI S_10 4) ≤ x3_9 → (∀ x2_12 : Int32, x2_12 = x2_2 + 1 → L_7 (x2_12, S_10))) ∧ (¬ (gI S_10 4) ≤ x3_9 → ∃ n, lp (fun L x => bX7_fill_53 x2_2 x3_9 L_39 L x.1 x.2) n (1, S_10)))
def bX7_fill_14 (x2_2 : Int32) (L_7 : Int32 × gS → Prop) (L_14 : Int32 × gS → Prop) (x3_6 : Int32) (S_7 : gS) : Prop :=
  (((gI S_7 1) ≤ x3_6 → ∃ n, lp (fun L x => bX7_fill_39 x2_2 L_7 L x.1 x.2) n (0, S_7)) ∧ (¬ (gI S_7 1) ≤ x3_6 → (pX7_clear x3_6 x2_2 S_7 (fun S_29 => (∀ x3_30 : Int32, x3_30 = x3_6 + 1 → L_14 (x3_30, S_29))))))
def bX7_fill_7 (p0 : Int32) (Post : gS → Prop) (L_7 : Int32 × gS → Prop) (x2_2 : Int32) (S_3 : gS) : Prop :=
  ((p0 < x2_2 → (∀ S_5 : gS, S_5 = uI S_3 13 (if (gI S_3 13) < p0 then p0 else (gI S_3 13)) → Post S_5)) ∧ (¬ p0 < x2_2 → ∃ n, lp (fun L x => bX7_fill_14 x2_2 L_7 L x.1 x.2) n (0, S_3)))
def pX7_fill (p0 : Int32) (S : gS) (Post : gS → Prop) : Prop :=
  (∀ x2_1 : Int32, x2_1 = ((gI S 13) + 1) → ∃ n, lp (fun L x => bX7_fill_7 p0 Post L x.1 x.2) n (x2_1, S))
def rX7_fill : Room := { frames := 4, cells := 0, slots := 0, locals := 99 }
set_option maxHeartbeats 40000000 in
set_option maxRecDepth 100000 in
theorem kX7_fill (l : Launch) (X : xG) (S : gS) (sz : Nat) (p0 : Int32) (Post : gS → Prop) (hf : pX7_fill p0 S Post) : xMv l yX7_fill (Cond.code yX7_fill cX7_fill 6 none :: WS) rX7_fill 34 X (cX X) (eX X) S sz [.ref (xa X 7), .int p0] Post := by
  refine xMv.of (cc := cX7_fill) (maxL := 6) (own := RX7) (by decide) rfl rfl (Nat.le_of_ble_eq_true rfl) ?_
  intro p e s m args below meth c ls Q hC hQ hw hl
  obtain ⟨hx, hb, hml, hown, hts, hE, hi⟩ := id hC
  have hK := hE.1
  have hl : lv_has ls 6 [(0, .ref (xa X 7)), (1, .int p0)] := hl
  have lf_23 : (Cond.fieldLink RX7 23 "GrammarAmbiguity$WordCounts" "filled" "I").before args s = true := hts _ q_81
  have lm_53 : (Cond.methodLink RX7 53 Lib.Math.max.name).before args s = true := hts _ q_551
  have lms_53 : (Cond.static Lib.Math.max.name).before args s = true := hts _ q_409
  have lmi : (Cond.initialized "java/lang/Math").before args s = true := hts _ q_410
  have lmc_53 : (Cond.code Lib.Math.max.name Lib.Math.max.code 2 (some .int)).before args s = true := hts _ q_411
  have lf_9 : (Cond.fieldLink RX7 9 "GrammarAmbiguity$WordCounts" "grammar" "LGrammarAmbiguity$Grammar;").before args s = true := hts _ q_78
  have lf_31 : va_Nw (.fieldLinkNest RX7 31 "GrammarAmbiguity$Grammar" "nonterminals" "I" "GrammarAmbiguity") s := hE.2.1 _ (by decide +kernel)
  have lf_40 : va_Nw (.fieldLinkNest RX7 40 "GrammarAmbiguity$Grammar" "productions" "I" "GrammarAmbiguity") s := hE.2.1 _ (by decide +kernel)
  have lf_15 : (Cond.fieldLink RX7 15 "GrammarAmbiguity$WordCounts" "lengths" "LGrammarAmbiguity$LengthCounts;").before args s = true := hts _ q_79
  rw [pX7_fill] at hf
  refine lv_aload_n hx hb dX7_fill_0 rfl (lv_at hl 0 rfl) ?_
  refine x_get (k := 7) (v := .int (gI S 13)) hx hb hts i_X7 hown hK hw (by decide) rfl rfl 3 (by decide) lf_23 (fun _ h9 => h9) rfl dX7_fill_1 ?_
  refine lv_iconst (v := 1) hx hb dX7_fill_4 (by decide) ?_
  refine lv_iadd hx hb dX7_fill_5 ?_
  refine lv_topi (fun x2_1 ex2_1 => ?_)
  replace hf := hf x2_1 ex2_1
  refine lv_istore_n (lv' := [(2, .int x2_1), (0, .ref (xa X 7)), (1, .int p0)]) hx hb dX7_fill_6 rfl hl (by decide) rfl (fun ls hl => ?_)
  obtain ⟨n_7, hf⟩ := hf
  have w_7 : ∀ (n : Nat) (x2_2 : Int32) (S_3 : gS) (H : Heap) (locs : List Loc) (ls : Array Slot), lp (fun L x => bX7_fill_7 p0 Post L x.1 x.2) n (x2_2, S_3) → xH 34 X (cX X) (xA 34 X s.heap.size) s.heap S_3 H locs → lv_has ls 6 [(0, .ref (xa X 7)), (1, .int p0), (2, .int x2_2)] → W p l e rX7_fill s m args below meth c H locs 0 0 Q (F0 m 7 ls []) := by
    intro n
    induction n with
    | zero => intro x2_2 S_3 H locs ls hf; exact hf.elim
    | succ n ih_7 =>
      intro x2_2 S_3 H locs ls hf hw hl
      replace hf : bX7_fill_7 p0 Post (lp (fun L x => bX7_fill_7 p0 Post L x.1 x.2) n) x2_2 S_3 := hf
      generalize lp (fun L x => bX7_fill_7 p0 Post L x.1 x.2) n = L_7 at hf ih_7
      rw [bX7_fill_7] at hf
      refine lv_iload_n hx hb dX7_fill_7 rfl (lv_at hl 2 rfl) ?_
      refine lv_iload_n hx hb dX7_fill_8 rfl (lv_at hl 1 rfl) ?_
      refine lv_icmp_gt (tgt := 124) hx hb dX7_fill_9 (by decide) (fun c_4 => ?_) (fun c_4 => ?_)
      · replace hf := hf.1 c_4
        refine lv_aload_n hx hb dX7_fill_124 rfl (lv_at hl 0 rfl) ?_
        refine lv_aload_n hx hb dX7_fill_125 rfl (lv_at hl 0 rfl) ?_
        refine x_get (k := 7) (v := .int (gI S_3 13)) hx hb hts i_X7 hown hK hw (by decide) rfl rfl 3 (by decide) lf_23 (fun _ h9 => h9) rfl dX7_fill_126 ?_
        refine lv_iload_n hx hb dX7_fill_129 rfl (lv_at hl 1 rfl) ?_
        refine va_mmax hx hb (hml.trans hl.1.symm) hown lm_53 lms_53 lmi lmc_53 (Nat.le_of_ble_eq_true rfl) (Nat.le_of_ble_eq_true rfl) (Nat.zero_le _) (Nat.zero_le _) dX7_fill_130 ?_
        refine x_put (k := 7) (S' := uI S_3 13 (if (gI S_3 13) < p0 then p0 else (gI S_3 13))) (ty := .int) hx hb hts i_X7 tyX7_ok nmX7 hown hK hw (by decide) rfl rfl 3 (by decide) lf_23 (fun _ h9 => h9) rfl (by decide +kernel) rfl rfl (Nat.le_of_ble_eq_true rfl) dX7_fill_133 (uX_I13 X S_3 _) (fun H locs hw => ?_)
        obtain ⟨S_5, eS_5⟩ : ∃ z : gS, z = uI S_3 13 (if (gI S_3 13) < p0 then p0 else (gI S_3 13)) := ⟨_, rfl⟩
        rw [← eS_5] at hw
        replace hf := hf S_5 eS_5
        exact hQ _ _ _ _ _ hf hw dX7_fill_136
      · replace hf := hf.2 c_4
        refine lv_iconst (v := 0) hx hb dX7_fill_12 (by decide) ?_
        refine lv_istore_n (lv' := [(3, .int 0), (0, .ref (xa X 7)), (1, .int p0), (2, .int x2_2)]) hx hb dX7_fill_13 rfl hl (by decide) rfl (fun ls hl => ?_)
        obtain ⟨n_14, hf⟩ := hf
        have w_14 : ∀ (n : Nat) (x3_6 : Int32) (S_7 : gS) (H : Heap) (locs : List Loc) (ls : Array Slot), lp (fun L x => bX7_fill_14 x2_2 L_7 L x.1 x.2) n (x3_6, S_7) → xH 34 X (cX X) (xA 34 X s.heap.size) s.heap S_7 H locs → lv_has ls 6 [(0, .ref (xa X 7)), (1, .int p0), (2, .int x2_2), (3, .int x3_6)] → W p l e rX7_fill s m args below meth c H locs 0 0 Q (F0 m 14 ls []) := by
          intro n
          induction n with
          | zero => intro x3_6 S_7 H locs ls hf; exact hf.elim
          | succ n ih_14 =>
            intro x3_6 S_7 H locs ls hf hw hl
            replace hf : bX7_fill_14 x2_2 L_7 (lp (fun L x => bX7_fill_14 x2_2 L_7 L x.1 x.2) n) x3_6 S_7 := hf
            generalize lp (fun L x => bX7_fill_14 x2_2 L_7 L x.1 x.2) n = L_14 at hf ih_14
            rw [bX7_fill_14] at hf
            refine lv_iload_n hx hb dX7_fill_14 rfl (lv_at hl 3 rfl) ?_
            refine lv_aload_n hx hb dX7_fill_15 rfl (lv_at hl 0 rfl) ?_
            refine x_get (k := 7) (v := .ref (xa X 1)) hx hb hts i_X7 hown hK hw (by decide) rfl rfl 0 (by decide) lf_9 (fun _ h9 => h9) rfl dX7_fill_16 ?_
            refine x_getN (k := 1) (v := .int (gI S_7 1)) hx hb hts i_X1 hown hK hw (by decide) rfl rfl 0 (by decide) lf_31 (fun _ h9 => h9) rfl dX7_fill_19 ?_
            refine lv_icmp_ge (tgt := 37) hx hb dX7_fill_22 (by decide) (fun c_8 => ?_) (fun c_8 => ?_)
            · replace hf := hf.1 c_8
              refine lv_iconst (v := 0) hx hb dX7_fill_37 (by decide) ?_
              refine lv_istore_n (lv' := [(3, .int 0), (0, .ref (xa X 7)), (1, .int p0), (2, .int x2_2)]) hx hb dX7_fill_38 rfl hl (by decide) rfl (fun ls hl => ?_)
              obtain ⟨n_39, hf⟩ := hf
              have w_39 : ∀ (n : Nat) (x3_9 : Int32) (S_10 : gS) (H : Heap) (locs : List Loc) (ls : Array Slot), lp (fun L x => bX7_fill_39 x2_2 L_7 L x.1 x.2) n (x3_9, S_10) → xH 34 X (cX X) (xA 34 X s.heap.size) s.heap S_10 H locs → lv_has ls 6 [(0, .ref (xa X 7)), (1, .int p0), (2, .int x2_2), (3, .int x3_9)] → W p l e rX7_fill s m args below meth c H locs 0 0 Q (F0 m 39 ls []) := by
                intro n
                induction n with
                | zero => intro x3_9 S_10 H locs ls hf; exact hf.elim
                | succ n ih_39 =>
                  intro x3_9 S_10 H locs ls hf hw hl
                  replace hf : bX7_fill_39 x2_2 L_7 (lp (fun L x => bX7_fill_39 x2_2 L_7 L x.1 x.2) n) x3_9 S_10 := hf
                  generalize lp (fun L x => bX7_fill_39 x2_2 L_7 L x.1 x.2) n = L_39 at hf ih_39
                  rw [bX7_fill_39] at hf
                  refine lv_iload_n hx hb dX7_fill_39 rfl (lv_at hl 3 rfl) ?_
                  refine lv_aload_n hx hb dX7_fill_40 rfl (lv_at hl 0 rfl) ?_
                  refine x_get (k := 7) (v := .ref (xa X 1)) hx hb hts i_X7 hown hK hw (by decide) rfl rfl 0 (by decide) lf_9 (fun _ h9 => h9) rfl dX7_fill_41 ?_
                  refine x_getN (k := 1) (v := .int (gI S_10 4)) hx hb hts i_X1 hown hK hw (by decide) rfl rfl 3 (by decide) lf_40 (fun _ h9 => h9) rfl dX7_fill_44 ?_
                  refine lv_icmp_ge (tgt := 118) hx hb dX7_fill_47 (by decide) (fun c_11 => ?_) (fun c_11 => ?_)
                  · replace hf := hf.1 c_11
                    obtain ⟨x2_12, ex2_12⟩ : ∃ y : Int32, y = x2_2 + 1 := ⟨_, rfl⟩
                    replace hf := hf x2_12 ex2_12
                    refine lv_iinc (v := x2_12) (lv' := [(2, .int x2_12), (0, .ref (xa X 7)), (1, .int p0), (3, .int x3_9)]) hx hb dX7_fill_118 hl (k := 2) rfl (by rw [ex2_12]; rfl) (by decide) rfl (fun ls hl => ?_)
                    refine lv_goto (tgt := 7) hx hb dX7_fill_121 (by decide) ?_
                    exact ih_7 x2_12 S_10 _ _ _ hf hw (lv_sub hl [1, 2, 0] rfl)
                  · replace hf := hf.2 c_11
                    refine lv_iconst (v := 1) hx hb dX7_fill_50 (by decide) ?_
                    refine lv_istore (lv' := [(4, .int 1), (0, .ref (xa X 7)), (1, .int p0), (2, .int x2_2), (3, .int x3_9)]) hx hb dX7_fill_51 hl (by decide) rfl (fun ls hl => ?_)
                    obtain ⟨n_53, hf⟩ := hf
                    have w_53 : ∀ (n : Nat) (x4_13 : Int32) (S_14 : gS) (H : Heap) (locs : List Loc) (ls : Array Slot), lp (fun L x => bX7_fill_53 x2_2 x3_9 L_39 L x.1 x.2) n (x4_13, S_14) → xH 34 X (cX X) (xA 34 X s.heap.size) s.heap S_14 H locs → lv_has ls 6 [(0, .ref (xa X 7)), (1, .int p0), (2, .int x2_2), (3, .int x3_9), (4, .int x4_13)] → W p l e rX7_fill s m args below meth c H locs 0 0 Q (F0 m 53 ls []) := by
                      intro n
                      induction n with
                      | zero => intro x4_13 S_14 H locs ls hf; exact hf.elim
                      | succ n ih_53 =>
                        intro x4_13 S_14 H locs ls hf hw hl
                        replace hf : bX7_fill_53 x2_2 x3_9 L_39 (lp (fun L x => bX7_fill_53 x2_2 x3_9 L_39 L x.1 x.2) n) x4_13 S_14 := hf
                        generalize lp (fun L x => bX7_fill_53 x2_2 x3_9 L_39 L x.1 x.2) n = L_53 at hf ih_53
                        rw [bX7_fill_53] at hf
                        refine lv_iload hx hb dX7_fill_53 (lv_at hl 4 rfl) ?_
                        refine lv_iload_n hx hb dX7_fill_55 rfl (lv_at hl 2 rfl) ?_
                        refine lv_icmp_gt (tgt := 112) hx hb dX7_fill_56 (by decide) (fun c_15 => ?_) (fun c_15 => ?_)
                        · replace hf := hf.1 c_15
                          obtain ⟨x3_16, ex3_16⟩ : ∃ y : Int32, y = x3_9 + 1 := ⟨_, rfl⟩
                          replace hf := hf x3_16 ex3_16
                          refine lv_iinc (v := x3_16) (lv' := [(3, .int x3_16), (0, .ref (xa X 7)), (1, .int p0), (2, .int x2_2), (4, .int x4_13)]) hx hb dX7_fill_112 hl (k := 3) rfl (by rw [ex3_16]; rfl) (by decide) rfl (fun ls hl => ?_)
                          refine lv_goto (tgt := 39) hx hb dX7_fill_115 (by decide) ?_
                          exact ih_39 x3_16 S_14 _ _ _ hf hw (lv_sub hl [1, 2, 3, 0] rfl)
                        · replace hf := hf.2 c_15
                          refine lv_iconst (v := 0) hx hb dX7_fill_59 (by decide) ?_
                          refine lv_istore (lv' := [(5, .int 0), (0, .ref (xa X 7)), (1, .int p0), (2, .int x2_2), (3, .int x3_9), (4, .int x4_13)]) hx hb dX7_fill_60 hl (by decide) rfl (fun ls hl => ?_)
                          obtain ⟨n_62, hf⟩ := hf
                          have w_62 : ∀ (n : Nat) (x5_17 : Int32) (S_18 : gS) (H : Heap) (locs : List Loc) (ls : Array Slot), lp (fun L x => bX7_fill_62 x2_2 x3_9 x4_13 L_53 L x.1 x.2) n (x5_17, S_18) → xH 34 X (cX X) (xA 34 X s.heap.size) s.heap S_18 H locs → lv_has ls 6 [(0, .ref (xa X 7)), (1, .int p0), (2, .int x2_2), (3, .int x3_9), (4, .int x4_13), (5, .int x5_17)] → W p l e rX7_fill s m args below meth c H locs 0 0 Q (F0 m 62 ls []) := by
                            intro n
                            induction n with
                            | zero => intro x5_17 S_18 H locs ls hf; exact hf.elim
                            | succ n ih_62 =>
                              intro x5_17 S_18 H locs ls hf hw hl
                              replace hf : bX7_fill_62 x2_2 x3_9 x4_13 L_53 (lp (fun L x => bX7_fill_62 x2_2 x3_9 x4_13 L_53 L x.1 x.2) n) x5_17 S_18 := hf
                              generalize lp (fun L x => bX7_fill_62 x2_2 x3_9 x4_13 L_53 L x.1 x.2) n = L_62 at hf ih_62
                              rw [bX7_fill_62] at hf
                              refine lv_iload hx hb dX7_fill_62 (lv_at hl 5 rfl) ?_
                              refine lv_iload_n hx hb dX7_fill_64 rfl (lv_at hl 2 rfl) ?_
                              refine lv_iload hx hb dX7_fill_65 (lv_at hl 4 rfl) ?_
                              refine lv_isub hx hb dX7_fill_67 ?_
                              refine lv_icmp_gt (tgt := 106) hx hb dX7_fill_68 (by decide) (fun c_19 => ?_) (fun c_19 => ?_)
                              · replace hf := hf.1 c_19
                                obtain ⟨x4_20, ex4_20⟩ : ∃ y : Int32, y = x4_13 + 1 := ⟨_, rfl⟩
                                replace hf := hf x4_20 ex4_20
                                refine lv_iinc (v := x4_20) (lv' := [(4, .int x4_20), (0, .ref (xa X 7)), (1, .int p0), (2, .int x2_2), (3, .int x3_9), (5, .int x5_17)]) hx hb dX7_fill_106 hl (k := 4) rfl (by rw [ex4_20]; rfl) (by decide) rfl (fun ls hl => ?_)
                                refine lv_goto (tgt := 53) hx hb dX7_fill_109 (by decide) ?_
                                exact ih_53 x4_20 S_18 _ _ _ hf hw (lv_sub hl [1, 2, 3, 4, 0] rfl)
                              · replace hf := hf.2 c_19
                                refine lv_aload_n hx hb dX7_fill_71 rfl (lv_at hl 0 rfl) ?_
                                refine x_get (k := 7) (v := .ref (xa X 5)) hx hb hts i_X7 hown hK hw (by decide) rfl rfl 1 (by decide) lf_15 (fun _ h9 => h9) rfl dX7_fill_72 ?_
                                refine lv_iload_n hx hb dX7_fill_75 rfl (lv_at hl 3 rfl) ?_
                                refine lv_iload_n hx hb dX7_fill_76 rfl (lv_at hl 2 rfl) ?_
                                refine lv_iconst (v := 0) hx hb dX7_fill_77 (by decide) ?_
                                refine lv_iload hx hb dX7_fill_78 (lv_at hl 4 rfl) ?_
                                refine lv_iload hx hb dX7_fill_80 (lv_at hl 5 rfl) ?_
                                refine x_cl (x_rU (As := [.int x3_9, .int x2_2, .int 0, .int x4_13, .int x5_17]) (rest := []) (okX X) hC hw (kX0_ofSecond_5 l X S_18 _ x3_9 x2_2 0 x4_13 x5_17 _ hf) (va_cwU 5 hts (gU (owner := "GrammarAmbiguity$Counts") (x := ⟨"GrammarAmbiguity$LengthCounts", "ofSecond", "(IIIII)J"⟩) q_564 q_565 q_566 q_567 q_66 q_568) rfl rfl rfl rfl (by decide +kernel) ⟨Nat.le_of_ble_eq_true rfl, Nat.le_of_ble_eq_true rfl⟩) (x_recv hK hw (k := 5) (by decide) rfl rfl) rfl hl.1 rfl (Nat.le_of_ble_eq_true rfl) dX7_fill_82) hw hi (fun r_21 S_22 H locs hf hw => ?_)
                                obtain ⟨hf, rfl⟩ := hf
                                refine lv_lconst (v := 0) hx hb dX7_fill_85 (by decide) ?_
                                refine W.lcmp hx hb dX7_fill_86 ?_
                                refine lv_if_eq (tgt := 100) hx hb dX7_fill_87 (by decide) (fun c_23 => ?_) (fun c_23 => ?_)
                                · replace hf := hf.1 c_23
                                  obtain ⟨x5_24, ex5_24⟩ : ∃ y : Int32, y = x5_17 + 1 := ⟨_, rfl⟩
                                  replace hf := hf x5_24 ex5_24
                                  refine lv_iinc (v := x5_24) (lv' := [(5, .int x5_24), (0, .ref (xa X 7)), (1, .int p0), (2, .int x2_2), (3, .int x3_9), (4, .int x4_13)]) hx hb dX7_fill_100 hl (k := 5) rfl (by rw [ex5_24]; rfl) (by decide) rfl (fun ls hl => ?_)
                                  refine lv_goto (tgt := 62) hx hb dX7_fill_103 (by decide) ?_
                                  exact ih_62 x5_24 S_18 _ _ _ hf hw (lv_sub hl [1, 2, 3, 4, 5, 0] rfl)
                                · replace hf := hf.2 c_23
                                  refine lv_aload_n hx hb dX7_fill_90 rfl (lv_at hl 0 rfl) ?_
                                  refine lv_iload_n hx hb dX7_fill_91 rfl (lv_at hl 3 rfl) ?_
                                  refine lv_iload_n hx hb dX7_fill_92 rfl (lv_at hl 2 rfl) ?_
                                  refine lv_iload hx hb dX7_fill_93 (lv_at hl 4 rfl) ?_
                                  refine lv_iload hx hb dX7_fill_95 (lv_at hl 5 rfl) ?_
                                  refine x_cv (x_rV (As := [.int x3_9, .int x2_2, .int x4_13, .int x5_17]) (rest := []) (okX X) hC hw (kX7_addWords l X S_18 _ x3_9 x2_2 x4_13 x5_17 _ hf) (cwV 4 hts (gV q_569 q_570 q_571 q_35 q_572) rfl rfl rfl (by decide +kernel) ⟨Nat.le_of_ble_eq_true rfl, Nat.le_of_ble_eq_true rfl⟩) (x_recv hK hw (k := 7) (by decide) rfl rfl) rfl hl.1 rfl (Nat.le_of_ble_eq_true rfl) dX7_fill_97) hw hi (fun S_26 H locs hf hw => ?_)
                                  obtain ⟨x5_27, ex5_27⟩ : ∃ y : Int32, y = x5_17 + 1 := ⟨_, rfl⟩
                                  replace hf := hf x5_27 ex5_27
                                  refine lv_iinc (v := x5_27) (lv' := [(5, .int x5_27), (0, .ref (xa X 7)), (1, .int p0), (2, .int x2_2), (3, .int x3_9), (4, .int x4_13)]) hx hb dX7_fill_100 hl (k := 5) rfl (by rw [ex5_27]; rfl) (by decide) rfl (fun ls hl => ?_)
                                  refine lv_goto (tgt := 62) hx hb dX7_fill_103 (by decide) ?_
                                  exact ih_62 x5_27 S_26 _ _ _ hf hw (lv_sub hl [1, 2, 3, 4, 5, 0] rfl)
                          exact w_62 n_62 0 S_14 _ _ _ hf hw (lv_sub hl [1, 2, 3, 4, 5, 0] rfl)
                    exact w_53 n_53 1 S_10 _ _ _ hf hw (lv_sub hl [1, 2, 3, 4, 0] rfl)
              exact w_39 n_39 0 S_7 _ _ _ hf hw (lv_sub hl [1, 2, 3, 0] rfl)
            · replace hf := hf.2 c_8
              refine lv_aload_n hx hb dX7_fill_25 rfl (lv_at hl 0 rfl) ?_
              refine lv_iload_n hx hb dX7_fill_26 rfl (lv_at hl 3 rfl) ?_
              refine lv_iload_n hx hb dX7_fill_27 rfl (lv_at hl 2 rfl) ?_
              refine x_cv (x_rV (As := [.int x3_6, .int x2_2]) (rest := []) (okX X) hC hw (kX7_clear l X S_7 _ x3_6 x2_2 _ hf) (cwV 2 hts (gV q_552 q_553 q_554 q_35 q_555) rfl rfl rfl (by decide +kernel) ⟨Nat.le_of_ble_eq_true rfl, Nat.le_of_ble_eq_true rfl⟩) (x_recv hK hw (k := 7) (by decide) rfl rfl) rfl hl.1 rfl (Nat.le_of_ble_eq_true rfl) dX7_fill_28) hw hi (fun S_29 H locs hf hw => ?_)
              obtain ⟨x3_30, ex3_30⟩ : ∃ y : Int32, y = x3_6 + 1 := ⟨_, rfl⟩
              replace hf := hf x3_30 ex3_30
              refine lv_iinc (v := x3_30) (lv' := [(3, .int x3_30), (0, .ref (xa X 7)), (1, .int p0), (2, .int x2_2)]) hx hb dX7_fill_31 hl (k := 3) rfl (by rw [ex3_30]; rfl) (by decide) rfl (fun ls hl => ?_)
              refine lv_goto (tgt := 14) hx hb dX7_fill_34 (by decide) ?_
              exact ih_14 x3_30 S_29 _ _ _ hf hw (lv_sub hl [1, 2, 3, 0] rfl)
        exact w_14 n_14 0 S_3 _ _ _ hf hw (lv_sub hl [1, 2, 3, 0] rfl)
  exact w_7 n_7 x2_1 S _ _ _ hf hw (lv_sub hl [1, 2, 0] rfl)
def pX7_count (p0 : Int32) (p1 : Int32) (S : gS) (Post : Int64 → Prop) : Prop :=
  (pX7_begin (gI S 3) p0 S (fun r_1 => (∀ x3_3 : Int32, x3_3 = (r_1 + p1) → ((x3_3 < 0 → Post 0) ∧ (¬ x3_3 < 0 → ((10930 ≤ x3_3 → Post 0) ∧ (¬ 10930 ≤ x3_3 → (vp_in x3_3 10930 ∧ Post (gB S 20 x3_3.toNatClampNeg)))))))))
def rX7_count : Room := { frames := 1, cells := 0, slots := 0, locals := 23 }
set_option maxHeartbeats 40000000 in
set_option maxRecDepth 100000 in
theorem kX7_count (l : Launch) (X : xG) (S : gS) (sz : Nat) (p0 : Int32) (p1 : Int32) (Post : Int64 → Prop) (hf : pX7_count p0 p1 S Post) : xMl l yX7_count (Cond.code yX7_count cX7_count 4 (some .long) :: WS) rX7_count 34 X (cX X) (eX X) S sz [.ref (xa X 7), .int p0, .int p1] (fun r S' => Post r ∧ S = S') := by
  refine xMl.of (cc := cX7_count) (maxL := 4) (own := RX7) (by decide) rfl rfl (Nat.le_of_ble_eq_true rfl) ?_
  intro p e s m args below meth c ls Q hC hQ hw hl
  obtain ⟨hx, hb, hml, hown, hts, hE, hi⟩ := id hC
  have hK := hE.1
  have hl : lv_has ls 4 [(0, .ref (xa X 7)), (1, .int p0), (2, .int p1)] := hl
  have lf_9 : (Cond.fieldLink RX7 9 "GrammarAmbiguity$WordCounts" "grammar" "LGrammarAmbiguity$Grammar;").before args s = true := hts _ q_78
  have lf_87 : va_Nw (.fieldLinkNest RX7 87 "GrammarAmbiguity$Grammar" "start" "I" "GrammarAmbiguity") s := hE.2.1 _ (by decide +kernel)
  have lf_19 : (Cond.fieldLink RX7 19 "GrammarAmbiguity$WordCounts" "rows" "[J").before args s = true := hts _ q_80
  rw [pX7_count] at hf
  refine lv_aload_n hx hb dX7_count_0 rfl (lv_at hl 0 rfl) ?_
  refine lv_aload_n hx hb dX7_count_1 rfl (lv_at hl 0 rfl) ?_
  refine x_get (k := 7) (v := .ref (xa X 1)) hx hb hts i_X7 hown hK hw (by decide) rfl rfl 0 (by decide) lf_9 (fun _ h9 => h9) rfl dX7_count_2 ?_
  refine x_getN (k := 1) (v := .int (gI S 3)) hx hb hts i_X1 hown hK hw (by decide) rfl rfl 2 (by decide) lf_87 (fun _ h9 => h9) rfl dX7_count_5 ?_
  refine lv_iload_n hx hb dX7_count_8 rfl (lv_at hl 1 rfl) ?_
  refine x_ci (x_rV (As := [.int (gI S 3), .int p0]) (rest := []) (okX X) hC hw (kX7_begin l X S _ (gI S 3) p0 _ hf) (cwV 2 hts (gV q_556 q_557 q_558 q_35 q_559) rfl rfl rfl (by decide +kernel) ⟨Nat.le_of_ble_eq_true rfl, Nat.le_of_ble_eq_true rfl⟩) (x_recv hK hw (k := 7) (by decide) rfl rfl) rfl hl.1 rfl (Nat.le_of_ble_eq_true rfl) dX7_count_9) hw hi (fun r_1 S_2 H locs hf hw => ?_)
  obtain ⟨hf, rfl⟩ := hf
  refine lv_iload_n hx hb dX7_count_12 rfl (lv_at hl 2 rfl) ?_
  refine lv_iadd hx hb dX7_count_13 ?_
  refine lv_topi (fun x3_3 ex3_3 => ?_)
  replace hf := hf x3_3 ex3_3
  refine lv_istore_n (lv' := [(3, .int x3_3), (0, .ref (xa X 7)), (1, .int p0), (2, .int p1)]) hx hb dX7_count_14 rfl hl (by decide) rfl (fun ls hl => ?_)
  refine lv_iload_n hx hb dX7_count_15 rfl (lv_at hl 0 rfl) ?_
  refine lv_if_lt (tgt := 37) hx hb dX7_count_16 (by decide) (fun c_4 => ?_) (fun c_4 => ?_)
  · replace hf := hf.1 c_4
    refine lv_lconst (v := 0) hx hb dX7_count_37 (by decide) ?_
    exact hQ _ _ _ _ _ _ ⟨hf, rfl⟩ hw dX7_count_38
  · replace hf := hf.2 c_4
    refine lv_iload_n hx hb dX7_count_19 rfl (lv_at hl 0 rfl) ?_
    refine lv_aload_n hx hb dX7_count_20 rfl (lv_at hl 1 rfl) ?_
    refine x_get (k := 7) (v := .ref (xa X 20)) hx hb hts i_X7 hown hK hw (by decide) rfl rfl 2 (by decide) lf_19 (fun _ h9 => h9) rfl dX7_count_21 ?_
    refine x_len (v := 10930) hx hb hK hw (by decide) rfl 1 rfl rfl dX7_count_24 ?_
    refine lv_icmp_ge (tgt := 37) hx hb dX7_count_25 (by decide) (fun c_5 => ?_) (fun c_5 => ?_)
    · replace hf := hf.1 c_5
      refine lv_lconst (v := 0) hx hb dX7_count_37 (by decide) ?_
      exact hQ _ _ _ _ _ _ ⟨hf, rfl⟩ hw dX7_count_38
    · replace hf := hf.2 c_5
      refine lv_aload_n hx hb dX7_count_28 rfl (lv_at hl 1 rfl) ?_
      refine x_get (k := 7) (v := .ref (xa X 20)) hx hb hts i_X7 hown hK hw (by decide) rfl rfl 2 (by decide) lf_19 (fun _ h9 => h9) rfl dX7_count_29 ?_
      refine lv_iload_n hx hb dX7_count_32 rfl (lv_at hl 0 rfl) ?_
      refine x_lld (n := 10930) hx hb hK hw (by decide) rfl rfl hf.1 dX7_count_33 ?_
      replace hf := hf.2
      refine lv_goto (tgt := 38) hx hb dX7_count_34 (by decide) ?_
      exact hQ _ _ _ _ _ _ ⟨hf, rfl⟩ hw dX7_count_38
def bX7_atLeastBefore_6 (p0 : Int32) (p1 : Int32) (p2 : Int32) (S : gS) (Post : Int32 → Prop) (L_6 : Int32 × Int32 → Prop) (x4_1 : Int32) (x5_2 : Int32) : Prop :=
  ((p0 ≤ x5_2 → Post x4_1) ∧ (¬ p0 ≤ x5_2 → (pX7_count p2 x5_2 S (fun r_4 => (((lg_cmp r_4 p1.toInt64) < 0 → (∀ x5_7 : Int32, x5_7 = x5_2 + 1 → L_6 (x4_1, x5_7))) ∧ (¬ (lg_cmp r_4 p1.toInt64) < 0 → (∀ x4_8 : Int32, x4_8 = x4_1 + 1 → (∀ x5_9 : Int32, x5_9 = x5_2 + 1 → L_6 (x4_8, x5_9)))))))))
def pX7_atLeastBefore (p0 : Int32) (p1 : Int32) (p2 : Int32) (S : gS) (Post : Int32 → Prop) : Prop :=
  ∃ n, lp (fun L x => bX7_atLeastBefore_6 p0 p1 p2 S Post L x.1 x.2) n (0, 0)
def rX7_atLeastBefore : Room := { frames := 2, cells := 0, slots := 0, locals := 46 }
set_option maxHeartbeats 40000000 in
set_option maxRecDepth 100000 in
theorem kX7_atLeastBefore (l : Launch) (X : xG) (S : gS) (sz : Nat) (p0 : Int32) (p1 : Int32) (p2 : Int32) (Post : Int32 → Prop) (hf : pX7_atLeastBefore p0 p1 p2 S Post) : xMi l yX7_atLeastBefore (Cond.code yX7_atLeastBefore cX7_atLeastBefore 6 (some .int) :: WS) rX7_atLeastBefore 34 X (cX X) (eX X) S sz [.ref (xa X 7), .int p0, .int p1, .int p2] (fun r S' => Post r ∧ S = S') := by
  refine xMi.of (cc := cX7_atLeastBefore) (maxL := 6) (own := RX7) (by decide) rfl rfl (Nat.le_of_ble_eq_true rfl) ?_
  intro p e s m args below meth c ls Q hC hQ hw hl
  obtain ⟨hx, hb, hml, hown, hts, hE, hi⟩ := id hC
  have hK := hE.1
  have hl : lv_has ls 6 [(0, .ref (xa X 7)), (1, .int p0), (2, .int p1), (3, .int p2)] := hl
  rw [pX7_atLeastBefore] at hf
  refine lv_iconst (v := 0) hx hb dX7_atLeastBefore_0 (by decide) ?_
  refine lv_istore (lv' := [(4, .int 0), (0, .ref (xa X 7)), (1, .int p0), (2, .int p1), (3, .int p2)]) hx hb dX7_atLeastBefore_1 hl (by decide) rfl (fun ls hl => ?_)
  refine lv_iconst (v := 0) hx hb dX7_atLeastBefore_3 (by decide) ?_
  refine lv_istore (lv' := [(5, .int 0), (4, .int 0), (0, .ref (xa X 7)), (1, .int p0), (2, .int p1), (3, .int p2)]) hx hb dX7_atLeastBefore_4 hl (by decide) rfl (fun ls hl => ?_)
  obtain ⟨n_6, hf⟩ := hf
  have w_6 : ∀ (n : Nat) (x4_1 : Int32) (x5_2 : Int32) (H : Heap) (locs : List Loc) (ls : Array Slot), lp (fun L x => bX7_atLeastBefore_6 p0 p1 p2 S Post L x.1 x.2) n (x4_1, x5_2) → xH 34 X (cX X) (xA 34 X s.heap.size) s.heap S H locs → lv_has ls 6 [(0, .ref (xa X 7)), (1, .int p0), (2, .int p1), (3, .int p2), (4, .int x4_1), (5, .int x5_2)] → W p l e rX7_atLeastBefore s m args below meth c H locs 0 0 Q (F0 m 6 ls []) := by
    intro n
    induction n with
    | zero => intro x4_1 x5_2 H locs ls hf; exact hf.elim
    | succ n ih_6 =>
      intro x4_1 x5_2 H locs ls hf hw hl
      replace hf : bX7_atLeastBefore_6 p0 p1 p2 S Post (lp (fun L x => bX7_atLeastBefore_6 p0 p1 p2 S Post L x.1 x.2) n) x4_1 x5_2 := hf
      generalize lp (fun L x => bX7_atLeastBefore_6 p0 p1 p2 S Post L x.1 x.2) n = L_6 at hf ih_6
      rw [bX7_atLeastBefore_6] at hf
      refine lv_iload hx hb dX7_atLeastBefore_6 (lv_at hl 5 rfl) ?_
      refine lv_iload_n hx hb dX7_atLeastBefore_8 rfl (lv_at hl 1 rfl) ?_
      refine lv_icmp_ge (tgt := 34) hx hb dX7_atLeastBefore_9 (by decide) (fun c_3 => ?_) (fun c_3 => ?_)
      · replace hf := hf.1 c_3
        refine lv_iload hx hb dX7_atLeastBefore_34 (lv_at hl 4 rfl) ?_
        exact hQ _ _ _ _ _ _ rfl ⟨hf, rfl⟩ hw dX7_atLeastBefore_36
      · replace hf := hf.2 c_3
        refine lv_aload_n hx hb dX7_atLeastBefore_12 rfl (lv_at hl 0 rfl) ?_
        refine lv_iload_n hx hb dX7_atLeastBefore_13 rfl (lv_at hl 3 rfl) ?_
        refine lv_iload hx hb dX7_atLeastBefore_14 (lv_at hl 5 rfl) ?_
        refine x_cl (x_rV (As := [.int p2, .int x5_2]) (rest := []) (okX X) hC hw (kX7_count l X S _ p2 x5_2 _ hf) (cwV 2 hts (gV q_584 q_585 q_586 q_35 q_587) rfl rfl rfl (by decide +kernel) ⟨Nat.le_of_ble_eq_true rfl, Nat.le_of_ble_eq_true rfl⟩) (x_recv hK hw (k := 7) (by decide) rfl rfl) rfl hl.1 rfl (Nat.le_of_ble_eq_true rfl) dX7_atLeastBefore_16) hw hi (fun r_4 S_5 H locs hf hw => ?_)
        obtain ⟨hf, rfl⟩ := hf
        refine lv_iload_n hx hb dX7_atLeastBefore_19 rfl (lv_at hl 2 rfl) ?_
        refine lv_i2l hx hb dX7_atLeastBefore_20 rfl ?_
        refine W.lcmp hx hb dX7_atLeastBefore_21 ?_
        refine lv_if_lt (tgt := 28) hx hb dX7_atLeastBefore_22 (by decide) (fun c_6 => ?_) (fun c_6 => ?_)
        · replace hf := hf.1 c_6
          obtain ⟨x5_7, ex5_7⟩ : ∃ y : Int32, y = x5_2 + 1 := ⟨_, rfl⟩
          replace hf := hf x5_7 ex5_7
          refine lv_iinc (v := x5_7) (lv' := [(5, .int x5_7), (0, .ref (xa X 7)), (1, .int p0), (2, .int p1), (3, .int p2), (4, .int x4_1)]) hx hb dX7_atLeastBefore_28 hl (k := 5) rfl (by rw [ex5_7]; rfl) (by decide) rfl (fun ls hl => ?_)
          refine lv_goto (tgt := 6) hx hb dX7_atLeastBefore_31 (by decide) ?_
          exact ih_6 x4_1 x5_7 _ _ _ hf hw (lv_sub hl [1, 2, 3, 4, 5, 0] rfl)
        · replace hf := hf.2 c_6
          obtain ⟨x4_8, ex4_8⟩ : ∃ y : Int32, y = x4_1 + 1 := ⟨_, rfl⟩
          replace hf := hf x4_8 ex4_8
          refine lv_iinc (v := x4_8) (lv' := [(4, .int x4_8), (0, .ref (xa X 7)), (1, .int p0), (2, .int p1), (3, .int p2), (5, .int x5_2)]) hx hb dX7_atLeastBefore_25 hl (k := 4) rfl (by rw [ex4_8]; rfl) (by decide) rfl (fun ls hl => ?_)
          obtain ⟨x5_9, ex5_9⟩ : ∃ y : Int32, y = x5_2 + 1 := ⟨_, rfl⟩
          replace hf := hf x5_9 ex5_9
          refine lv_iinc (v := x5_9) (lv' := [(5, .int x5_9), (4, .int x4_8), (0, .ref (xa X 7)), (1, .int p0), (2, .int p1), (3, .int p2)]) hx hb dX7_atLeastBefore_28 hl (k := 5) rfl (by rw [ex5_9]; rfl) (by decide) rfl (fun ls hl => ?_)
          refine lv_goto (tgt := 6) hx hb dX7_atLeastBefore_31 (by decide) ?_
          exact ih_6 x4_8 x5_9 _ _ _ hf hw (lv_sub hl [2, 3, 4, 5, 1, 0] rfl)
  exact w_6 n_6 0 0 _ _ _ hf hw (lv_sub hl [2, 3, 4, 5, 1, 0] rfl)
def pX7_atLeast (p0 : Int32) (p1 : Int32) (S : gS) (Post : Int32 → Prop) : Prop :=
  (pX7_ofLength p1 S (fun r_1 => (pX7_atLeastBefore r_1 p0 p1 S (fun r_3 => Post r_3))))
def rX7_atLeast : Room := { frames := 3, cells := 0, slots := 0, locals := 71 }
set_option maxHeartbeats 40000000 in
set_option maxRecDepth 100000 in
theorem kX7_atLeast (l : Launch) (X : xG) (S : gS) (sz : Nat) (p0 : Int32) (p1 : Int32) (Post : Int32 → Prop) (hf : pX7_atLeast p0 p1 S Post) : xMi l yX7_atLeast (Cond.code yX7_atLeast cX7_atLeast 3 (some .int) :: WS) rX7_atLeast 34 X (cX X) (eX X) S sz [.ref (xa X 7), .int p0, .int p1] (fun r S' => Post r ∧ S = S') := by
  refine xMi.of (cc := cX7_atLeast) (maxL := 3) (own := RX7) (by decide) rfl rfl (Nat.le_of_ble_eq_true rfl) ?_
  intro p e s m args below meth c ls Q hC hQ hw hl
  obtain ⟨hx, hb, hml, hown, hts, hE, hi⟩ := id hC
  have hK := hE.1
  have hl : lv_has ls 3 [(0, .ref (xa X 7)), (1, .int p0), (2, .int p1)] := hl
  rw [pX7_atLeast] at hf
  refine lv_aload_n hx hb dX7_atLeast_0 rfl (lv_at hl 0 rfl) ?_
  refine lv_aload_n hx hb dX7_atLeast_1 rfl (lv_at hl 0 rfl) ?_
  refine lv_iload_n hx hb dX7_atLeast_2 rfl (lv_at hl 2 rfl) ?_
  refine x_ci (x_rV (As := [.int p1]) (rest := [.ref (xa X 7)]) (okX X) hC hw (kX7_ofLength l X S _ p1 _ hf) (cwV 1 hts (gV q_560 q_561 q_562 q_35 q_563) rfl rfl rfl (by decide +kernel) ⟨Nat.le_of_ble_eq_true rfl, Nat.le_of_ble_eq_true rfl⟩) (x_recv hK hw (k := 7) (by decide) rfl rfl) rfl hl.1 rfl (Nat.le_of_ble_eq_true rfl) dX7_atLeast_3) hw hi (fun r_1 S_2 H locs hf hw => ?_)
  obtain ⟨hf, rfl⟩ := hf
  refine lv_iload_n hx hb dX7_atLeast_6 rfl (lv_at hl 1 rfl) ?_
  refine lv_iload_n hx hb dX7_atLeast_7 rfl (lv_at hl 2 rfl) ?_
  refine x_ci (x_rV (As := [.int r_1, .int p0, .int p1]) (rest := []) (okX X) hC hw (kX7_atLeastBefore l X S _ r_1 p0 p1 _ hf) (cwV 3 hts (gV q_580 q_581 q_582 q_35 q_583) rfl rfl rfl (by decide +kernel) ⟨Nat.le_of_ble_eq_true rfl, Nat.le_of_ble_eq_true rfl⟩) (x_recv hK hw (k := 7) (by decide) rfl rfl) rfl hl.1 rfl (Nat.le_of_ble_eq_true rfl) dX7_atLeast_8) hw hi (fun r_3 S_4 H locs hf hw => ?_)
  obtain ⟨hf, rfl⟩ := hf
  exact hQ _ _ _ _ _ _ rfl ⟨hf, rfl⟩ hw dX7_atLeast_11
def bX7_find_13 (p0 : Int32) (p1 : Int32) (p2 : Int32) (S : gS) (Post : Int32 → Prop) (r_1 : Int32) (L_13 : Int32 × Int32 → Prop) (x5_3 : Int32) (x6_4 : Int32) : Prop :=
  ((r_1 ≤ x6_4 → Post (-1)) ∧ (¬ r_1 ≤ x6_4 → (pX7_count p1 x6_4 S (fun r_6 => (((lg_cmp r_6 p0.toInt64) < 0 → (∀ x6_9 : Int32, x6_9 = x6_4 + 1 → L_13 (x5_3, x6_9))) ∧ (¬ (lg_cmp r_6 p0.toInt64) < 0 → ((¬ x5_3 = p2 → (∀ x5_11 : Int32, x5_11 = x5_3 + 1 → (∀ x6_12 : Int32, x6_12 = x6_4 + 1 → L_13 (x5_11, x6_12)))) ∧ (x5_3 = p2 → Post x6_4))))))))
def pX7_find (p0 : Int32) (p1 : Int32) (p2 : Int32) (S : gS) (Post : Int32 → Prop) : Prop :=
  (pX7_ofLength p1 S (fun r_1 => ∃ n, lp (fun L x => bX7_find_13 p0 p1 p2 S Post r_1 L x.1 x.2) n (0, 0)))
def rX7_find : Room := { frames := 2, cells := 0, slots := 0, locals := 46 }
set_option maxHeartbeats 40000000 in
set_option maxRecDepth 100000 in
theorem kX7_find (l : Launch) (X : xG) (S : gS) (sz : Nat) (p0 : Int32) (p1 : Int32) (p2 : Int32) (Post : Int32 → Prop) (hf : pX7_find p0 p1 p2 S Post) : xMi l yX7_find (Cond.code yX7_find cX7_find 7 (some .int) :: WS) rX7_find 34 X (cX X) (eX X) S sz [.ref (xa X 7), .int p0, .int p1, .int p2] (fun r S' => Post r ∧ S = S') := by
  refine xMi.of (cc := cX7_find) (maxL := 7) (own := RX7) (by decide) rfl rfl (Nat.le_of_ble_eq_true rfl) ?_
  intro p e s m args below meth c ls Q hC hQ hw hl
  obtain ⟨hx, hb, hml, hown, hts, hE, hi⟩ := id hC
  have hK := hE.1
  have hl : lv_has ls 7 [(0, .ref (xa X 7)), (1, .int p0), (2, .int p1), (3, .int p2)] := hl
  rw [pX7_find] at hf
  refine lv_aload_n hx hb dX7_find_0 rfl (lv_at hl 0 rfl) ?_
  refine lv_iload_n hx hb dX7_find_1 rfl (lv_at hl 2 rfl) ?_
  refine x_ci (x_rV (As := [.int p1]) (rest := []) (okX X) hC hw (kX7_ofLength l X S _ p1 _ hf) (cwV 1 hts (gV q_560 q_561 q_562 q_35 q_563) rfl rfl rfl (by decide +kernel) ⟨Nat.le_of_ble_eq_true rfl, Nat.le_of_ble_eq_true rfl⟩) (x_recv hK hw (k := 7) (by decide) rfl rfl) rfl hl.1 rfl (Nat.le_of_ble_eq_true rfl) dX7_find_2) hw hi (fun r_1 S_2 H locs hf hw => ?_)
  obtain ⟨hf, rfl⟩ := hf
  refine lv_istore (lv' := [(4, .int r_1), (0, .ref (xa X 7)), (1, .int p0), (2, .int p1), (3, .int p2)]) hx hb dX7_find_5 hl (by decide) rfl (fun ls hl => ?_)
  refine lv_iconst (v := 0) hx hb dX7_find_7 (by decide) ?_
  refine lv_istore (lv' := [(5, .int 0), (4, .int r_1), (0, .ref (xa X 7)), (1, .int p0), (2, .int p1), (3, .int p2)]) hx hb dX7_find_8 hl (by decide) rfl (fun ls hl => ?_)
  refine lv_iconst (v := 0) hx hb dX7_find_10 (by decide) ?_
  refine lv_istore (lv' := [(6, .int 0), (5, .int 0), (4, .int r_1), (0, .ref (xa X 7)), (1, .int p0), (2, .int p1), (3, .int p2)]) hx hb dX7_find_11 hl (by decide) rfl (fun ls hl => ?_)
  obtain ⟨n_13, hf⟩ := hf
  have w_13 : ∀ (n : Nat) (x5_3 : Int32) (x6_4 : Int32) (H : Heap) (locs : List Loc) (ls : Array Slot), lp (fun L x => bX7_find_13 p0 p1 p2 S Post r_1 L x.1 x.2) n (x5_3, x6_4) → xH 34 X (cX X) (xA 34 X s.heap.size) s.heap S H locs → lv_has ls 7 [(0, .ref (xa X 7)), (1, .int p0), (2, .int p1), (3, .int p2), (4, .int r_1), (5, .int x5_3), (6, .int x6_4)] → W p l e rX7_find s m args below meth c H locs 0 0 Q (F0 m 13 ls []) := by
    intro n
    induction n with
    | zero => intro x5_3 x6_4 H locs ls hf; exact hf.elim
    | succ n ih_13 =>
      intro x5_3 x6_4 H locs ls hf hw hl
      replace hf : bX7_find_13 p0 p1 p2 S Post r_1 (lp (fun L x => bX7_find_13 p0 p1 p2 S Post r_1 L x.1 x.2) n) x5_3 x6_4 := hf
      generalize lp (fun L x => bX7_find_13 p0 p1 p2 S Post r_1 L x.1 x.2) n = L_13 at hf ih_13
      rw [bX7_find_13] at hf
      refine lv_iload hx hb dX7_find_13 (lv_at hl 6 rfl) ?_
      refine lv_iload hx hb dX7_find_15 (lv_at hl 4 rfl) ?_
      refine lv_icmp_ge (tgt := 51) hx hb dX7_find_17 (by decide) (fun c_5 => ?_) (fun c_5 => ?_)
      · replace hf := hf.1 c_5
        refine lv_iconst (v := (-1)) hx hb dX7_find_51 (by decide) ?_
        exact hQ _ _ _ _ _ _ rfl ⟨hf, rfl⟩ hw dX7_find_52
      · replace hf := hf.2 c_5
        refine lv_aload_n hx hb dX7_find_20 rfl (lv_at hl 0 rfl) ?_
        refine lv_iload_n hx hb dX7_find_21 rfl (lv_at hl 2 rfl) ?_
        refine lv_iload hx hb dX7_find_22 (lv_at hl 6 rfl) ?_
        refine x_cl (x_rV (As := [.int p1, .int x6_4]) (rest := []) (okX X) hC hw (kX7_count l X S _ p1 x6_4 _ hf) (cwV 2 hts (gV q_584 q_585 q_586 q_35 q_587) rfl rfl rfl (by decide +kernel) ⟨Nat.le_of_ble_eq_true rfl, Nat.le_of_ble_eq_true rfl⟩) (x_recv hK hw (k := 7) (by decide) rfl rfl) rfl hl.1 rfl (Nat.le_of_ble_eq_true rfl) dX7_find_24) hw hi (fun r_6 S_7 H locs hf hw => ?_)
        obtain ⟨hf, rfl⟩ := hf
        refine lv_iload_n hx hb dX7_find_27 rfl (lv_at hl 1 rfl) ?_
        refine lv_i2l hx hb dX7_find_28 rfl ?_
        refine W.lcmp hx hb dX7_find_29 ?_
        refine lv_if_lt (tgt := 45) hx hb dX7_find_30 (by decide) (fun c_8 => ?_) (fun c_8 => ?_)
        · replace hf := hf.1 c_8
          obtain ⟨x6_9, ex6_9⟩ : ∃ y : Int32, y = x6_4 + 1 := ⟨_, rfl⟩
          replace hf := hf x6_9 ex6_9
          refine lv_iinc (v := x6_9) (lv' := [(6, .int x6_9), (0, .ref (xa X 7)), (1, .int p0), (2, .int p1), (3, .int p2), (4, .int r_1), (5, .int x5_3)]) hx hb dX7_find_45 hl (k := 6) rfl (by rw [ex6_9]; rfl) (by decide) rfl (fun ls hl => ?_)
          refine lv_goto (tgt := 13) hx hb dX7_find_48 (by decide) ?_
          exact ih_13 x5_3 x6_9 _ _ _ hf hw (lv_sub hl [1, 2, 3, 4, 5, 6, 0] rfl)
        · replace hf := hf.2 c_8
          refine lv_iload hx hb dX7_find_33 (lv_at hl 5 rfl) ?_
          refine lv_iload_n hx hb dX7_find_35 rfl (lv_at hl 3 rfl) ?_
          refine lv_icmp_ne (tgt := 42) hx hb dX7_find_36 (by decide) (fun c_10 => ?_) (fun c_10 => ?_)
          · replace hf := hf.1 c_10
            obtain ⟨x5_11, ex5_11⟩ : ∃ y : Int32, y = x5_3 + 1 := ⟨_, rfl⟩
            replace hf := hf x5_11 ex5_11
            refine lv_iinc (v := x5_11) (lv' := [(5, .int x5_11), (0, .ref (xa X 7)), (1, .int p0), (2, .int p1), (3, .int p2), (4, .int r_1), (6, .int x6_4)]) hx hb dX7_find_42 hl (k := 5) rfl (by rw [ex5_11]; rfl) (by decide) rfl (fun ls hl => ?_)
            obtain ⟨x6_12, ex6_12⟩ : ∃ y : Int32, y = x6_4 + 1 := ⟨_, rfl⟩
            replace hf := hf x6_12 ex6_12
            refine lv_iinc (v := x6_12) (lv' := [(6, .int x6_12), (5, .int x5_11), (0, .ref (xa X 7)), (1, .int p0), (2, .int p1), (3, .int p2), (4, .int r_1)]) hx hb dX7_find_45 hl (k := 6) rfl (by rw [ex6_12]; rfl) (by decide) rfl (fun ls hl => ?_)
            refine lv_goto (tgt := 13) hx hb dX7_find_48 (by decide) ?_
            exact ih_13 x5_11 x6_12 _ _ _ hf hw (lv_sub hl [2, 3, 4, 5, 6, 1, 0] rfl)
          · replace hf := hf.2 c_10
            refine lv_iload hx hb dX7_find_39 (lv_at hl 6 rfl) ?_
            exact hQ _ _ _ _ _ _ rfl ⟨hf, rfl⟩ hw dX7_find_41
  exact w_13 n_13 0 0 _ _ _ hf hw (lv_sub hl [3, 4, 5, 6, 2, 1, 0] rfl)
